/-! ===== the mirrors: each method as a function ===== -/
def ik (T a : Nat) : Option Unit := if kd a = T then some () else none
theorem ik_is {α : Type} {T a : Nat} {f : Unit → Option α} {r : α} (h : (ik (T + 1) a).bind f = some r) : Is NN a (T + 1) ∧ f () = some r := by
  obtain ⟨u, h1, h2⟩ := ob h
  unfold ik at h1
  split at h1
  · rename_i q
    exact ⟨Is.of q, h2⟩
  · cases h1
def m_X7_within (x0 : Int32) (x1 : Int32) : Option Int32 :=
  if x0 < 0 then
    some (0 : Int32)
  else
  if x1 ≤ x0 then
    some (0 : Int32)
  else
  some (1 : Int32)

def m_X7_type (M : Mem) (a0 : Nat) (x1 : Int32) : Option (Int32 × Mem) :=
  (m_X7_within x1 (256 : Int32)).bind fun r11 =>
  if r11 = 0 then
    some ((-2 : Int32), M)
  else
  (m_X7_within (M.2 a0 1) (120 : Int32)).bind fun r12 =>
  if r12 = 0 then
    some ((-4 : Int32), M)
  else
  (rf 11 M a0 0).bind fun a13 =>
  (wa M a13 (M.2 a0 1) (vp_nar .char ((x1.toUInt32 % 65536).toInt32))).bind fun M14 =>
  (pI M14 a0 1 ((M14.2 a0 1) + (1 : Int32))).bind fun M15 =>
  some ((M15.2 a0 1), M15)

def m_X7_clear (M : Mem) (a0 : Nat) : Option (Int32 × Mem) :=
  (pI M a0 1 (0 : Int32)).bind fun M11 =>
  some ((M.2 a0 1), M11)

def m_X4_empty (M : Mem) (a0 : Nat) : Option Mem :=
  (pI M a0 0 (0 : Int32)).bind fun M11 =>
  (pI M11 a0 1 (0 : Int32)).bind fun M12 =>
  (rf 2 M12 a0 4).bind fun a13 =>
  (pI M12 a13 2 (0 : Int32)).bind fun M14 =>
  some M14

def m_X2_isDigitAt (M : Mem) (a0 : Nat) (x1 : Int32) : Option Int32 :=
  if (M.2 a0 1) ≤ x1 then
    some (0 : Int32)
  else
  (rf 11 M a0 0).bind fun a11 =>
  (ra M a11 x1).bind fun v12 =>
  if v12 < (48 : Int32) then
    some (0 : Int32)
  else
  (rf 11 M a0 0).bind fun a13 =>
  (ra M a13 x1).bind fun v14 =>
  if (57 : Int32) < v14 then
    some (0 : Int32)
  else
  some (1 : Int32)

def m_X2_advance_L86 (a0 : Nat) : Nat → Mem → Option Mem
  | 0, _ => none
  | fu + 1, M =>
    if (M.2 a0 1) ≤ (M.2 a0 2) then
      some M
    else
    (m_X2_isDigitAt M a0 (M.2 a0 3)).bind fun r11 =>
    if r11 = 0 then
      some M
    else
    (m_X2_isDigitAt M a0 (M.2 a0 2)).bind fun r12 =>
    if r12 = 0 then
      some M
    else
    (pI M a0 4 (-2 : Int32)).bind fun M13 =>
    (pI M13 a0 2 ((M13.2 a0 2) + (1 : Int32))).bind fun M14 =>
    m_X2_advance_L86 a0 fu M14

def m_X2_advance_L38 (a0 : Nat) (M : Mem) : Option Mem :=
  (pI M a0 3 (M.2 a0 2)).bind fun M11 =>
  if (M11.2 a0 2) < (M11.2 a0 1) then
    (rf 11 M11 a0 0).bind fun a12 =>
    (ra M11 a12 (M11.2 a0 2)).bind fun v13 =>
    (pI M11 a0 4 v13).bind fun M14 =>
    (pI M14 a0 2 ((M14.2 a0 2) + (1 : Int32))).bind fun M15 =>
    m_X2_advance_L86 a0 FU M15
  else
  (pI M11 a0 4 (-1 : Int32)).bind fun M16 =>
  some M16

def m_X2_advance_L0 (a0 : Nat) : Nat → Mem → Option Mem
  | 0, _ => none
  | fu + 1, M =>
    if (M.2 a0 1) ≤ (M.2 a0 2) then
      m_X2_advance_L38 a0 M
    else
    (rf 11 M a0 0).bind fun a11 =>
    (ra M a11 (M.2 a0 2)).bind fun v12 =>
    if v12 = (32 : Int32) then
      (pI M a0 2 ((M.2 a0 2) + (1 : Int32))).bind fun M13 =>
      m_X2_advance_L0 a0 fu M13
    else
    m_X2_advance_L38 a0 M

def m_X2_advance (M : Mem) (a0 : Nat) : Option Mem :=
  m_X2_advance_L0 a0 FU M

def m_X2_isDigit (M : Mem) (a0 : Nat) : Option Int32 :=
  if (M.2 a0 4) < (48 : Int32) then
    some (0 : Int32)
  else
  if (57 : Int32) < (M.2 a0 4) then
    some (0 : Int32)
  else
  some (1 : Int32)

def m_X2_isTag (M : Mem) (a0 : Nat) : Option Int32 :=
  if (M.2 a0 4) < (97 : Int32) then
    some (0 : Int32)
  else
  if (100 : Int32) < (M.2 a0 4) then
    some (0 : Int32)
  else
  some (1 : Int32)

def m_X2_isClass (M : Mem) (a0 : Nat) : Option Int32 :=
  if (M.2 a0 4) < (112 : Int32) then
    some (0 : Int32)
  else
  if (115 : Int32) < (M.2 a0 4) then
    some (0 : Int32)
  else
  some (1 : Int32)

def m_X2_take (M : Mem) (a0 : Nat) (x1 : Int32) : Option (Int32 × Mem) :=
  if (M.2 a0 4) = x1 then
    (m_X2_advance M a0).bind fun M11 =>
    some ((1 : Int32), M11)
  else
  some ((0 : Int32), M)

def m_X4_addNode_L55 (a0 : Nat) (x1 : Int32) (x2 : Int32) (x3 : Int32) (M : Mem) (s0 : Int32) (s1 : Int32) (g2 : Nat) : Option Mem :=
  (wa M g2 s1 s0).bind fun M11 =>
  (rf 2 M11 a0 4).bind fun a12 =>
  (rf 10 M11 a12 0).bind fun a13 =>
  (wa M11 a13 (M11.2 a0 0) x2).bind fun M14 =>
  (rf 2 M14 a0 4).bind fun a15 =>
  (rf 10 M14 a15 1).bind fun a16 =>
  (wa M14 a16 (M14.2 a0 0) x3).bind fun M17 =>
  (pI M17 a0 0 ((M17.2 a0 0) + (1 : Int32))).bind fun M18 =>
  some M18

def m_X4_addNode (M : Mem) (a0 : Nat) (x1 : Int32) (x2 : Int32) (x3 : Int32) : Option Mem :=
  (m_X7_within (M.2 a0 0) (9 : Int32)).bind fun r11 =>
  if r11 = 0 then
    some M
  else
  (rf 10 M a0 2).bind fun a12 =>
  (wa M a12 (M.2 a0 0) x1).bind fun M13 =>
  (rf 10 M13 a0 3).bind fun a14 =>
  (m_X7_within x1 (M13.2 a0 0)).bind fun r15 =>
  if r15 = 0 then
    m_X4_addNode_L55 a0 x1 x2 x3 M13 (0 : Int32) (M13.2 a0 0) a14
  else
  (rf 10 M13 a0 3).bind fun a16 =>
  (ra M13 a16 x1).bind fun v17 =>
  m_X4_addNode_L55 a0 x1 x2 x3 M13 (v17 ||| ((1 : Int32) <<< (x1 &&& 31))) (M13.2 a0 0) a14

def m_X2_readNode_L146 (a0 : Nat) (M : Mem) (x1 : Int32) (x2 : Int32) (x3 : Int32) : Option (Int32 × Mem) :=
  b2 (m_X2_take M a0 (59 : Int32)) fun r11 M11 =>
  if r11 = 0 then
    some ((0 : Int32), M11)
  else
  (rf 5 M11 a0 5).bind fun a12 =>
  (m_X4_addNode M11 a12 x1 x2 x3).bind fun M13 =>
  some ((1 : Int32), M13)

def m_X2_readNode_L98 (a0 : Nat) : Nat → Mem → Int32 → Int32 → Int32 → Int32 → Option (Int32 × Mem)
  | 0, _, _, _, _, _ => none
  | fu + 1, M, x1, x2, x3, x4 =>
    if (4 : Int32) ≤ x4 then
      m_X2_readNode_L146 a0 M x1 x2 x3
    else
    (m_X2_isClass M a0).bind fun r11 =>
    if r11 = 0 then
      m_X2_readNode_L146 a0 M x1 x2 x3
    else
    if (x3 &&& ((1 : Int32) <<< (((M.2 a0 4) - (112 : Int32)) &&& 31))) = 0 then
      (m_X2_advance M a0).bind fun M12 =>
      m_X2_readNode_L98 a0 fu M12 x1 x2 (x3 ||| ((1 : Int32) <<< (((M.2 a0 4) - (112 : Int32)) &&& 31))) (x4 + (1 : Int32))
    else
    some ((0 : Int32), M)

def m_X2_readNode_L72 (a0 : Nat) (M : Mem) (x1 : Int32) : Option (Int32 × Mem) :=
  (m_X2_isTag M a0).bind fun r11 =>
  if r11 = 0 then
    some ((0 : Int32), M)
  else
  (m_X2_advance M a0).bind fun M12 =>
  m_X2_readNode_L98 a0 FU M12 x1 ((M.2 a0 4) - (97 : Int32)) (0 : Int32) (0 : Int32)

def m_X2_readNode (M : Mem) (a0 : Nat) : Option (Int32 × Mem) :=
  if (M.2 a0 4) = (78 : Int32) then
    (rf 5 M a0 5).bind fun a11 =>
    if (M.2 a11 0) < (9 : Int32) then
      (m_X2_advance M a0).bind fun M12 =>
      (rf 5 M12 a0 5).bind fun a13 =>
      if (M12.2 a13 0) ≤ 0 then
        m_X2_readNode_L72 a0 M12 (-9 : Int32)
      else
      (m_X2_isDigit M12 a0).bind fun r14 =>
      if r14 = 0 then
        some ((0 : Int32), M12)
      else
      (rf 5 M12 a0 5).bind fun a15 =>
      if ((M12.2 a0 4) - (48 : Int32)) < (M12.2 a15 0) then
        (m_X2_advance M12 a0).bind fun M16 =>
        m_X2_readNode_L72 a0 M16 ((M12.2 a0 4) - (48 : Int32))
      else
      some ((0 : Int32), M12)
    else
    some ((0 : Int32), M)
  else
  some ((0 : Int32), M)

def m_X3_begin (M : Mem) (a0 : Nat) (x1 : Int32) : Option Mem :=
  (pZ M a0 0 x1).bind fun M11 =>
  (pI M11 a0 1 (0 : Int32)).bind fun M12 =>
  (pI M12 a0 2 (0 : Int32)).bind fun M13 =>
  (pI M13 a0 3 (0 : Int32)).bind fun M14 =>
  (pI M14 a0 4 (0 : Int32)).bind fun M15 =>
  some M15

def m_J6_bitCount_0f7a4 (x0 : Int32) : Option Int32 :=
  (nm (x0 - (((x0.toUInt32 >>> ((1 : Int32).toUInt32 &&& Int32.toUInt32 31)).toInt32) &&& (1431655765 : Int32)))).bind fun y11 =>
  (nm ((y11 &&& (858993459 : Int32)) + (((y11.toUInt32 >>> ((2 : Int32).toUInt32 &&& Int32.toUInt32 31)).toInt32) &&& (858993459 : Int32)))).bind fun y12 =>
  (nm ((y12 + ((y12.toUInt32 >>> ((4 : Int32).toUInt32 &&& Int32.toUInt32 31)).toInt32)) &&& (252645135 : Int32))).bind fun y13 =>
  (nm (y13 + ((y13.toUInt32 >>> ((8 : Int32).toUInt32 &&& Int32.toUInt32 31)).toInt32))).bind fun y14 =>
  (nm (y14 + ((y14.toUInt32 >>> ((16 : Int32).toUInt32 &&& Int32.toUInt32 31)).toInt32))).bind fun y15 =>
  some (y15 &&& (63 : Int32))

def m_X3_addCompound (M : Mem) (a0 : Nat) (x1 : Int32) (x2 : Int32) (x3 : Int32) : Option Mem :=
  (m_X7_within (M.2 a0 1) (3 : Int32)).bind fun r11 =>
  if r11 = 0 then
    some M
  else
  (rf 10 M a0 5).bind fun a12 =>
  (wa M a12 (M.2 a0 1) x1).bind fun M13 =>
  (rf 10 M13 a0 6).bind fun a14 =>
  (wa M13 a14 (M13.2 a0 1) x2).bind fun M15 =>
  (rf 12 M15 a0 7).bind fun a16 =>
  (wa M15 a16 (M15.2 a0 1) (vp_nar .boolean x3)).bind fun M17 =>
  (pI M17 a0 1 ((M17.2 a0 1) + (1 : Int32))).bind fun M18 =>
  (m_J6_bitCount_0f7a4 x2).bind fun r19 =>
  if x1 = (-9 : Int32) then
    (pI M18 a0 2 ((M18.2 a0 2) + (((10 : Int32) * r19) + (0 : Int32)))).bind fun M20 =>
    some M20
  else
  (pI M18 a0 2 ((M18.2 a0 2) + (((10 : Int32) * r19) + (1 : Int32)))).bind fun M21 =>
  some M21

def m_X2_readCompound_L81 (a0 : Nat) (a1 : Nat) (x2 : Int32) (k42 : Mem → Int32 → Int32 → Int32 → Option (Int32 × Mem)) (M : Mem) (x3 : Int32) (x4 : Int32) (x5 : Int32) (s0 : Int32) : Option (Int32 × Mem) :=
  if s0 = 0 then
    some ((0 : Int32), M)
  else
  if (x4 &&& s0) = 0 then
    (m_X2_advance M a0).bind fun M11 =>
    k42 M11 x3 (x4 ||| s0) (x5 + (1 : Int32))
  else
  some ((0 : Int32), M)

def m_X2_readCompound_L42 (a0 : Nat) (a1 : Nat) (x2 : Int32) : Nat → Mem → Int32 → Int32 → Int32 → Option (Int32 × Mem)
  | 0, _, _, _, _ => none
  | fu + 1, M, x3, x4, x5 =>
    if (4 : Int32) < x5 then
      (m_X3_addCompound M a1 x3 x4 x2).bind fun M11 =>
      some ((1 : Int32), M11)
    else
    if (M.2 a0 4) = (46 : Int32) then
      (m_X2_advance M a0).bind fun M12 =>
      (m_X2_isClass M12 a0).bind fun r13 =>
      if r13 = 0 then
        m_X2_readCompound_L81 a0 a1 x2 (fun z0 z1 z2 z3 => m_X2_readCompound_L42 a0 a1 x2 fu z0 z1 z2 z3) M12 x3 x4 x5 (0 : Int32)
      else
      m_X2_readCompound_L81 a0 a1 x2 (fun z0 z1 z2 z3 => m_X2_readCompound_L42 a0 a1 x2 fu z0 z1 z2 z3) M12 x3 x4 x5 ((1 : Int32) <<< (((M12.2 a0 4) - (112 : Int32)) &&& 31))
    else
    (m_X3_addCompound M a1 x3 x4 x2).bind fun M14 =>
    some ((1 : Int32), M14)

def m_X2_readCompound (M : Mem) (a0 : Nat) (a1 : Nat) (x2 : Int32) : Option (Int32 × Mem) :=
  (m_X2_isTag M a0).bind fun r11 =>
  if r11 = 0 then
    if (M.2 a0 4) = (46 : Int32) then
      m_X2_readCompound_L42 a0 a1 x2 FU M (-9 : Int32) (0 : Int32) (0 : Int32)
    else
    some ((0 : Int32), M)
  else
  (m_X2_advance M a0).bind fun M12 =>
  m_X2_readCompound_L42 a0 a1 x2 FU M12 ((M.2 a0 4) - (97 : Int32)) (0 : Int32) (0 : Int32)

def m_X2_isJoint (M : Mem) (a0 : Nat) : Option Int32 :=
  if (M.2 a0 4) = (62 : Int32) then
    some (1 : Int32)
  else
  if (M.2 a0 4) = (47 : Int32) then
    some (1 : Int32)
  else
  some (0 : Int32)

def m_X2_readSelector_L39 (a0 : Nat) (a1 : Nat) (k13 : Mem → Int32 → Option (Int32 × Mem)) (M : Mem) (x2 : Int32) (s0 : Int32) : Option (Int32 × Mem) :=
  (m_X2_advance M a0).bind fun M11 =>
  b2 (m_X2_readCompound M11 a0 a1 s0) fun r12 M12 =>
  if r12 = 0 then
    some ((0 : Int32), M12)
  else
  k13 M12 (x2 + (1 : Int32))

def m_X2_readSelector_L13 (a0 : Nat) (a1 : Nat) : Nat → Mem → Int32 → Option (Int32 × Mem)
  | 0, _, _ => none
  | fu + 1, M, x2 =>
    if (3 : Int32) ≤ x2 then
      some ((1 : Int32), M)
    else
    (m_X2_isJoint M a0).bind fun r11 =>
    if r11 = 0 then
      some ((1 : Int32), M)
    else
    if (M.2 a0 4) = (62 : Int32) then
      m_X2_readSelector_L39 a0 a1 (fun z0 z1 => m_X2_readSelector_L13 a0 a1 fu z0 z1) M x2 (1 : Int32)
    else
    m_X2_readSelector_L39 a0 a1 (fun z0 z1 => m_X2_readSelector_L13 a0 a1 fu z0 z1) M x2 (0 : Int32)

def m_X2_readSelector (M : Mem) (a0 : Nat) (a1 : Nat) : Option (Int32 × Mem) :=
  b2 (m_X2_readCompound M a0 a1 (0 : Int32)) fun r11 M11 =>
  if r11 = 0 then
    some ((0 : Int32), M11)
  else
  m_X2_readSelector_L13 a0 a1 FU M11 (1 : Int32)

def m_X2_isProperty (M : Mem) (a0 : Nat) : Option Int32 :=
  if (M.2 a0 4) < (119 : Int32) then
    some (0 : Int32)
  else
  if (122 : Int32) < (M.2 a0 4) then
    some (0 : Int32)
  else
  some (1 : Int32)

def m_X7_hasBit (x0 : Int32) (x1 : Int32) : Option Int32 :=
  if ((x0 >>> (x1 &&& 31)) &&& (1 : Int32)) = (1 : Int32) then
    some (1 : Int32)
  else
  some (0 : Int32)

def m_X3_level (M : Mem) (a0 : Nat) (x1 : Int32) : Option Int32 :=
  if x1 = 0 then
    if (M.2 a0 0) = 0 then
      some (1 : Int32)
    else
    some (0 : Int32)
  else
  if (M.2 a0 0) = 0 then
    some (2 : Int32)
  else
  some (3 : Int32)

def m_X3_declare_L43 (a0 : Nat) (x1 : Int32) (x2 : Int32) (x3 : Int32) (M : Mem) (s0 : Int32) (s1 : Int32) (g2 : Nat) : Option Mem :=
  (pI M g2 4 (s1 ||| s0)).bind fun M11 =>
  (rf 10 M11 a0 9).bind fun a12 =>
  (m_X3_level M11 a0 x3).bind fun r13 =>
  (wa M11 a12 x1 (((1000 : Int32) * r13) + (M11.2 a0 2))).bind fun M14 =>
  some M14

def m_X3_declare (M : Mem) (a0 : Nat) (x1 : Int32) (x2 : Int32) (x3 : Int32) : Option Mem :=
  (m_X7_within x1 (4 : Int32)).bind fun r11 =>
  if r11 = 0 then
    some M
  else
  (rf 10 M a0 8).bind fun a12 =>
  (wa M a12 x1 x2).bind fun M13 =>
  (pI M13 a0 3 ((M13.2 a0 3) ||| ((1 : Int32) <<< (x1 &&& 31)))).bind fun M14 =>
  if x3 = 0 then
    m_X3_declare_L43 a0 x1 x2 x3 M14 (0 : Int32) (M14.2 a0 4) a0
  else
  m_X3_declare_L43 a0 x1 x2 x3 M14 ((1 : Int32) <<< (x1 &&& 31)) (M14.2 a0 4) a0

def m_X2_readDeclaration (M : Mem) (a0 : Nat) (a1 : Nat) : Option (Int32 × Mem) :=
  (m_X2_isProperty M a0).bind fun r11 =>
  if r11 = 0 then
    some ((0 : Int32), M)
  else
  (m_X7_hasBit (M.2 a1 3) ((M.2 a0 4) - (119 : Int32))).bind fun r12 =>
  if r12 = 0 then
    (m_X2_advance M a0).bind fun M13 =>
    (m_X2_isDigit M13 a0).bind fun r14 =>
    if r14 = 0 then
      some ((0 : Int32), M13)
    else
    (m_X2_advance M13 a0).bind fun M15 =>
    b2 (m_X2_take M15 a0 (33 : Int32)) fun r16 M16 =>
    (m_X3_declare M16 a1 ((M.2 a0 4) - (119 : Int32)) ((M13.2 a0 4) - (48 : Int32)) r16).bind fun M17 =>
    some ((1 : Int32), M17)
  else
  some ((0 : Int32), M)

def m_X2_readDeclarations_L12 (a0 : Nat) (a1 : Nat) : Nat → Mem → Int32 → Option (Int32 × Mem)
  | 0, _, _ => none
  | fu + 1, M, x2 =>
    if (4 : Int32) ≤ x2 then
      some ((1 : Int32), M)
    else
    (m_X2_isProperty M a0).bind fun r11 =>
    if r11 = 0 then
      some ((1 : Int32), M)
    else
    b2 (m_X2_readDeclaration M a0 a1) fun r12 M12 =>
    if r12 = 0 then
      some ((0 : Int32), M12)
    else
    m_X2_readDeclarations_L12 a0 a1 fu M12 (x2 + (1 : Int32))

def m_X2_readDeclarations (M : Mem) (a0 : Nat) (a1 : Nat) : Option (Int32 × Mem) :=
  b2 (m_X2_readDeclaration M a0 a1) fun r11 M11 =>
  if r11 = 0 then
    some ((0 : Int32), M11)
  else
  m_X2_readDeclarations_L12 a0 a1 FU M11 (1 : Int32)

def m_X4_addRule (M : Mem) (a0 : Nat) : Option Mem :=
  (m_X7_within (M.2 a0 1) (8 : Int32)).bind fun r11 =>
  if r11 = 0 then
    some M
  else
  (rf 2 M a0 4).bind fun a12 =>
  (pI M a12 2 ((M.2 a12 2) ||| ((1 : Int32) <<< ((M.2 a0 1) &&& 31)))).bind fun M13 =>
  (pI M13 a0 1 ((M13.2 a0 1) + (1 : Int32))).bind fun M14 =>
  some M14

def m_X2_readRule (M : Mem) (a0 : Nat) : Option (Int32 × Mem) :=
  if (M.2 a0 4) = (82 : Int32) then
    (rf 5 M a0 5).bind fun a11 =>
    (m_X7_within (M.2 a11 1) (8 : Int32)).bind fun r12 =>
    if r12 = 0 then
      some ((0 : Int32), M)
    else
    (rf 5 M a0 5).bind fun a13 =>
    (rf 14 M a13 5).bind fun a14 =>
    (rf 5 M a0 5).bind fun a15 =>
    (rr 4 M a14 (M.2 a15 1)).bind fun a16 =>
    (m_X2_advance M a0).bind fun M17 =>
    b2 (m_X2_take M17 a0 (85 : Int32)) fun r18 M18 =>
    (m_X3_begin M18 a16 r18).bind fun M19 =>
    b2 (m_X2_readSelector M19 a0 a16) fun r20 M20 =>
    if r20 = 0 then
      some ((0 : Int32), M20)
    else
    b2 (m_X2_take M20 a0 (58 : Int32)) fun r21 M21 =>
    if r21 = 0 then
      some ((0 : Int32), M21)
    else
    b2 (m_X2_readDeclarations M21 a0 a16) fun r22 M22 =>
    if r22 = 0 then
      some ((0 : Int32), M22)
    else
    b2 (m_X2_take M22 a0 (59 : Int32)) fun r23 M23 =>
    if r23 = 0 then
      some ((0 : Int32), M23)
    else
    (rf 5 M23 a0 5).bind fun a24 =>
    (m_X4_addRule M23 a24).bind fun M25 =>
    some ((1 : Int32), M25)
  else
  some ((0 : Int32), M)

def m_X2_readAll_L33 (a0 : Nat) (a1 : Nat) (x2 : Int32) : Nat → Mem → Int32 → Option (Int32 × Mem)
  | 0, _, _ => none
  | fu + 1, M, x3 =>
    if (M.2 a0 1) < x3 then
      some ((-9 : Int32), M)
    else
    if (M.2 a0 4) = (-1 : Int32) then
      some (x3, M)
    else
    if (M.2 a0 4) = (78 : Int32) then
      b2 (m_X2_readNode M a0) fun r11 M11 =>
      if r11 = 0 then
        some ((-9 : Int32), M11)
      else
      m_X2_readAll_L33 a0 a1 x2 fu M11 (x3 + (1 : Int32))
    else
    b2 (m_X2_readRule M a0) fun r12 M12 =>
    if r12 = 0 then
      some ((-9 : Int32), M12)
    else
    m_X2_readAll_L33 a0 a1 x2 fu M12 (x3 + (1 : Int32))

def m_X2_readAll (M : Mem) (a0 : Nat) (a1 : Nat) (x2 : Int32) : Option (Int32 × Mem) :=
  (pR M a0 0 a1).bind fun M11 =>
  (pI M11 a0 1 (if (nI (ln a1)) < x2 then (nI (ln a1)) else x2)).bind fun M12 =>
  (pI M12 a0 2 (0 : Int32)).bind fun M13 =>
  (rf 5 M13 a0 5).bind fun a14 =>
  (m_X4_empty M13 a14).bind fun M15 =>
  (m_X2_advance M15 a0).bind fun M16 =>
  m_X2_readAll_L33 a0 a1 x2 FU M16 (0 : Int32)

def m_X2_fault (M : Mem) (a0 : Nat) : Option Int32 :=
  some (M.2 a0 3)

def m_X2_exchange (M : Mem) (a0 : Nat) (a1 : Nat) : Option (Nat × Mem) :=
  (rf 5 M a0 5).bind fun a11 =>
  (pR M a0 5 a1).bind fun M12 =>
  some (a11, M12)

def m_X1_copyFrom (M : Mem) (a0 : Nat) (a1 : Nat) : Option Mem :=
  (rf 10 M a1 0).bind fun a11 =>
  (rf 10 M a0 0).bind fun a12 =>
  (cpM M a11 (0 : Int32) a12 (0 : Int32) (9 : Int32)).bind fun M13 =>
  (rf 10 M13 a1 1).bind fun a14 =>
  (rf 10 M13 a0 1).bind fun a15 =>
  (cpM M13 a14 (0 : Int32) a15 (0 : Int32) (9 : Int32)).bind fun M16 =>
  (pI M16 a0 2 (M16.2 a1 2)).bind fun M17 =>
  some M17

def m_X0_empty (M : Mem) (a0 : Nat) : Option Mem :=
  (pI M a0 1 (0 : Int32)).bind fun M11 =>
  some M11

def m_X5_empty (M : Mem) (a0 : Nat) : Option Mem :=
  (pI M a0 3 (0 : Int32)).bind fun M11 =>
  some M11

def m_X1_hasOn (M : Mem) (a0 : Nat) (x1 : Int32) : Option Int32 :=
  (m_X7_hasBit (M.2 a0 2) x1).bind fun r11 =>
  (bz r11).bind fun _ => some r11

def m_X3_fits_L40 (M : Mem) (a0 : Nat) (x1 : Int32) (x2 : Int32) (x3 : Int32) (s0 : Int32) : Option Int32 :=
  if s0 = 0 then
    some (0 : Int32)
  else
  (rf 10 M a0 6).bind fun a11 =>
  (ra M a11 x1).bind fun v12 =>
  if (v12 &&& (x3 ^^^ (-1 : Int32))) = 0 then
    some (1 : Int32)
  else
  some (0 : Int32)

def m_X3_fits (M : Mem) (a0 : Nat) (x1 : Int32) (x2 : Int32) (x3 : Int32) : Option Int32 :=
  if x1 < 0 then
    some (0 : Int32)
  else
  if x1 < (M.2 a0 1) then
    (rf 10 M a0 5).bind fun a11 =>
    (ra M a11 x1).bind fun v12 =>
    if v12 = (-9 : Int32) then
      m_X3_fits_L40 M a0 x1 x2 x3 (1 : Int32)
    else
    (rf 10 M a0 5).bind fun a13 =>
    (ra M a13 x1).bind fun v14 =>
    if v14 = x2 then
      m_X3_fits_L40 M a0 x1 x2 x3 (1 : Int32)
    else
    m_X3_fits_L40 M a0 x1 x2 x3 (0 : Int32)
  else
  some (0 : Int32)

def m_X4_fitted_L6 (M : Mem) (a0 : Nat) (a1 : Nat) (a2 : Nat) (x3 : Int32) : Nat → Int32 → Int32 → Option Int32
  | 0, _, _ => none
  | fu + 1, x4, x5 =>
    if (M.2 a0 0) ≤ x5 then
      some x4
    else
    (rf 10 M a1 0).bind fun a11 =>
    (ra M a11 x5).bind fun v12 =>
    (rf 10 M a1 1).bind fun a13 =>
    (ra M a13 x5).bind fun v14 =>
    (m_X3_fits M a2 x3 v12 v14).bind fun r15 =>
    if r15 = 0 then
      m_X4_fitted_L6 M a0 a1 a2 x3 fu x4 (x5 + (1 : Int32))
    else
    m_X4_fitted_L6 M a0 a1 a2 x3 fu (x4 ||| ((1 : Int32) <<< (x5 &&& 31))) (x5 + (1 : Int32))

def m_X4_fitted (M : Mem) (a0 : Nat) (a1 : Nat) (a2 : Nat) (x3 : Int32) : Option Int32 :=
  m_X4_fitted_L6 M a0 a1 a2 x3 FU (0 : Int32) (0 : Int32)

def m_X4_under_L59 (M : Mem) (a0 : Nat) (x1 : Int32) (x2 : Int32) (k5 : Int32 → Int32 → Option Int32) (x3 : Int32) (x4 : Int32) (x5 : Int32) : Option Int32 :=
  if (x5 &&& x1) = 0 then
    k5 x3 (x4 + (1 : Int32))
  else
  k5 (x3 ||| ((1 : Int32) <<< (x4 &&& 31))) (x4 + (1 : Int32))

def m_X4_under_L5 (M : Mem) (a0 : Nat) (x1 : Int32) (x2 : Int32) : Nat → Int32 → Int32 → Option Int32
  | 0, _, _ => none
  | fu + 1, x3, x4 =>
    if (M.2 a0 0) ≤ x4 then
      some x3
    else
    (rf 10 M a0 3).bind fun a11 =>
    (ra M a11 x4).bind fun v12 =>
    if x2 = 0 then
      m_X4_under_L59 M a0 x1 x2 (fun z0 z1 => m_X4_under_L5 M a0 x1 x2 fu z0 z1) x3 x4 v12
    else
    (rf 10 M a0 2).bind fun a13 =>
    (ra M a13 x4).bind fun v14 =>
    (m_X7_within v14 (M.2 a0 0)).bind fun r15 =>
    if r15 = 0 then
      m_X4_under_L59 M a0 x1 x2 (fun z0 z1 => m_X4_under_L5 M a0 x1 x2 fu z0 z1) x3 x4 (0 : Int32)
    else
    (rf 10 M a0 2).bind fun a16 =>
    (ra M a16 x4).bind fun v17 =>
    m_X4_under_L59 M a0 x1 x2 (fun z0 z1 => m_X4_under_L5 M a0 x1 x2 fu z0 z1) x3 x4 ((1 : Int32) <<< (v17 &&& 31))

def m_X4_under (M : Mem) (a0 : Nat) (x1 : Int32) (x2 : Int32) : Option Int32 :=
  m_X4_under_L5 M a0 x1 x2 FU (0 : Int32) (0 : Int32)

def m_X4_reached_L11 (M : Mem) (a0 : Nat) (a1 : Nat) (a2 : Nat) : Nat → Int32 → Int32 → Option Int32
  | 0, _, _ => none
  | fu + 1, x3, x4 =>
    if (M.2 a2 1) ≤ x4 then
      some x3
    else
    (m_X4_fitted M a0 a1 a2 x4).bind fun r11 =>
    (rf 12 M a2 7).bind fun a12 =>
    (ra M a12 x4).bind fun v13 =>
    (m_X4_under M a0 x3 v13).bind fun r14 =>
    m_X4_reached_L11 M a0 a1 a2 fu (r11 &&& r14) (x4 + (1 : Int32))

def m_X4_reached (M : Mem) (a0 : Nat) (a1 : Nat) (a2 : Nat) : Option Int32 :=
  (m_X4_fitted M a0 a1 a2 (0 : Int32)).bind fun r11 =>
  m_X4_reached_L11 M a0 a1 a2 FU r11 (1 : Int32)

def m_X6_noteRule_L2 (a0 : Nat) (x1 : Int32) : Nat → Mem → Int32 → Option Mem
  | 0, _, _ => none
  | fu + 1, M, x2 =>
    if (M.2 a0 0) ≤ x2 then
      some M
    else
    (rf 10 M a0 1).bind fun a11 =>
    (ra M a11 x1).bind fun v12 =>
    (m_X7_hasBit v12 x2).bind fun r13 =>
    if r13 = 0 then
      m_X6_noteRule_L2 a0 x1 fu M (x2 + (1 : Int32))
    else
    (rf 10 M a0 2).bind fun a14 =>
    (ra M a14 x2).bind fun v15 =>
    (wa M a14 x2 (v15 ||| ((1 : Int32) <<< (x1 &&& 31)))).bind fun M16 =>
    m_X6_noteRule_L2 a0 x1 fu M16 (x2 + (1 : Int32))

def m_X6_noteRule (M : Mem) (a0 : Nat) (x1 : Int32) : Option Mem :=
  m_X6_noteRule_L2 a0 x1 FU M (0 : Int32)

def m_X4_strongest_L9 (M : Mem) (a0 : Nat) (x1 : Int32) (x2 : Int32) : Nat → Int32 → Int32 → Int32 → Option Int32
  | 0, _, _, _ => none
  | fu + 1, x3, x4, x5 =>
    if (M.2 a0 1) ≤ x5 then
      some x3
    else
    (m_X7_hasBit x1 x5).bind fun r11 =>
    if r11 = 0 then
      m_X4_strongest_L9 M a0 x1 x2 fu x3 x4 (x5 + (1 : Int32))
    else
    (rf 14 M a0 5).bind fun a12 =>
    (rr 4 M a12 x5).bind fun a13 =>
    (m_X7_hasBit (M.2 a13 3) x2).bind fun r14 =>
    if r14 = 0 then
      m_X4_strongest_L9 M a0 x1 x2 fu x3 x4 (x5 + (1 : Int32))
    else
    (rf 14 M a0 5).bind fun a15 =>
    (rr 4 M a15 x5).bind fun a16 =>
    (rf 10 M a16 9).bind fun a17 =>
    (ra M a17 x2).bind fun v18 =>
    if v18 < x4 then
      m_X4_strongest_L9 M a0 x1 x2 fu x3 x4 (x5 + (1 : Int32))
    else
    m_X4_strongest_L9 M a0 x1 x2 fu x5 v18 (x5 + (1 : Int32))

def m_X4_strongest (M : Mem) (a0 : Nat) (x1 : Int32) (x2 : Int32) : Option Int32 :=
  m_X4_strongest_L9 M a0 x1 x2 FU (-9 : Int32) (0 : Int32) (0 : Int32)

def m_X6_settle_L123 (a0 : Nat) (a1 : Nat) (x2 : Int32) (x3 : Int32) (M : Mem) (x4 : Int32) : Option Mem :=
  (rf 10 M a0 3).bind fun a11 =>
  (wa M a11 x4 (0 : Int32)).bind fun M12 =>
  (rf 10 M12 a0 4).bind fun a13 =>
  (wa M12 a13 x4 (-9 : Int32)).bind fun M14 =>
  some M14

def m_X6_settle (M : Mem) (a0 : Nat) (a1 : Nat) (x2 : Int32) (x3 : Int32) : Option Mem :=
  (rf 10 M a0 2).bind fun a11 =>
  (ra M a11 x2).bind fun v12 =>
  (m_X4_strongest M a1 v12 x3).bind fun r13 =>
  (rf 10 M a1 2).bind fun a14 =>
  (ra M a14 x2).bind fun v15 =>
  (m_X7_within r13 (M.2 a1 1)).bind fun r16 =>
  if r16 = 0 then
    if (2 : Int32) ≤ x3 then
      m_X6_settle_L123 a0 a1 x2 x3 M (((4 : Int32) * x2) + x3)
    else
    (m_X7_within v15 x2).bind fun r17 =>
    if r17 = 0 then
      m_X6_settle_L123 a0 a1 x2 x3 M (((4 : Int32) * x2) + x3)
    else
    (rf 10 M a0 3).bind fun a18 =>
    (rf 10 M a0 3).bind fun a19 =>
    (ra M a19 (((4 : Int32) * v15) + x3)).bind fun v20 =>
    (wa M a18 (((4 : Int32) * x2) + x3) v20).bind fun M21 =>
    (rf 10 M21 a0 4).bind fun a22 =>
    (rf 10 M21 a0 4).bind fun a23 =>
    (ra M21 a23 (((4 : Int32) * v15) + x3)).bind fun v24 =>
    (wa M21 a22 (((4 : Int32) * x2) + x3) v24).bind fun M25 =>
    some M25
  else
  (rf 10 M a0 3).bind fun a26 =>
  (rf 14 M a1 5).bind fun a27 =>
  (rr 4 M a27 r13).bind fun a28 =>
  (rf 10 M a28 8).bind fun a29 =>
  (ra M a29 x3).bind fun v30 =>
  (wa M a26 (((4 : Int32) * x2) + x3) v30).bind fun M31 =>
  (rf 10 M31 a0 4).bind fun a32 =>
  (wa M31 a32 (((4 : Int32) * x2) + x3) x2).bind fun M33 =>
  some M33

def m_X6_resolve_L94 (a0 : Nat) (a1 : Nat) (a2 : Nat) (k83 : Mem → Int32 → Option Mem) : Nat → Mem → Int32 → Int32 → Option Mem
  | 0, _, _, _ => none
  | fu + 1, M, x3, x4 =>
    if (4 : Int32) ≤ x4 then
      k83 M (x3 + (1 : Int32))
    else
    (m_X6_settle M a0 a1 x3 x4).bind fun M11 =>
    m_X6_resolve_L94 a0 a1 a2 k83 fu M11 x3 (x4 + (1 : Int32))

def m_X6_resolve_L83 (a0 : Nat) (a1 : Nat) (a2 : Nat) : Nat → Mem → Int32 → Option Mem
  | 0, _, _ => none
  | fu + 1, M, x3 =>
    if (M.2 a0 0) ≤ x3 then
      some M
    else
    m_X6_resolve_L94 a0 a1 a2 (fun z0 z1 => m_X6_resolve_L83 a0 a1 a2 fu z0 z1) FU M x3 (0 : Int32)

def m_X6_resolve_L33 (a0 : Nat) (a1 : Nat) (a2 : Nat) : Nat → Mem → Int32 → Option Mem
  | 0, _, _ => none
  | fu + 1, M, x3 =>
    if (M.2 a1 1) ≤ x3 then
      m_X6_resolve_L83 a0 a1 a2 FU M (0 : Int32)
    else
    (rf 10 M a0 1).bind fun a11 =>
    (m_X1_hasOn M a2 x3).bind fun r12 =>
    if r12 = 0 then
      (wa M a11 x3 (0 : Int32)).bind fun M13 =>
      (m_X6_noteRule M13 a0 x3).bind fun M14 =>
      m_X6_resolve_L33 a0 a1 a2 fu M14 (x3 + (1 : Int32))
    else
    (rf 14 M a1 5).bind fun a15 =>
    (rr 4 M a15 x3).bind fun a16 =>
    (m_X4_reached M a1 a2 a16).bind fun r17 =>
    (wa M a11 x3 r17).bind fun M18 =>
    (m_X6_noteRule M18 a0 x3).bind fun M19 =>
    m_X6_resolve_L33 a0 a1 a2 fu M19 (x3 + (1 : Int32))

def m_X6_resolve_L10 (a0 : Nat) (a1 : Nat) (a2 : Nat) : Nat → Mem → Int32 → Option Mem
  | 0, _, _ => none
  | fu + 1, M, x3 =>
    if (M.2 a0 0) ≤ x3 then
      m_X6_resolve_L33 a0 a1 a2 FU M (0 : Int32)
    else
    (rf 10 M a0 2).bind fun a11 =>
    (wa M a11 x3 (0 : Int32)).bind fun M12 =>
    m_X6_resolve_L10 a0 a1 a2 fu M12 (x3 + (1 : Int32))

def m_X6_resolve (M : Mem) (a0 : Nat) (a1 : Nat) (a2 : Nat) : Option Mem :=
  (pI M a0 0 (M.2 a1 0)).bind fun M11 =>
  m_X6_resolve_L10 a0 a1 a2 FU M11 (0 : Int32)

def m_X7_refresh (M : Mem) (a0 : Nat) : Option Mem :=
  (rf 7 M a0 6).bind fun a11 =>
  (rf 5 M a0 3).bind fun a12 =>
  (rf 2 M a0 4).bind fun a13 =>
  (m_X6_resolve M a11 a12 a13).bind fun M14 =>
  some M14

def m_X7_page (M : Mem) (a0 : Nat) : Option (Int32 × Mem) :=
  (rf 3 M a0 2).bind fun a11 =>
  (rf 11 M a0 0).bind fun a12 =>
  b2 (m_X2_readAll M a11 a12 (M.2 a0 1)) fun r13 M13 =>
  if r13 = (-9 : Int32) then
    (rf 3 M13 a0 2).bind fun a14 =>
    (m_X2_fault M13 a14).bind fun r15 =>
    some (((-10 : Int32) - r15), M13)
  else
  (rf 3 M13 a0 2).bind fun a16 =>
  (rf 5 M13 a0 3).bind fun a17 =>
  b2 (m_X2_exchange M13 a16 a17) fun a18 M18 =>
  (ik 5 a18).bind fun _ =>
  (pR M18 a0 3 a18).bind fun M19 =>
  (pI M19 a0 1 (0 : Int32)).bind fun M20 =>
  (rf 2 M20 a0 4).bind fun a21 =>
  (rf 5 M20 a0 3).bind fun a22 =>
  (rf 2 M20 a22 4).bind fun a23 =>
  (m_X1_copyFrom M20 a21 a23).bind fun M24 =>
  (rf 1 M24 a0 8).bind fun a25 =>
  (m_X0_empty M24 a25).bind fun M26 =>
  (rf 6 M26 a0 9).bind fun a27 =>
  (m_X5_empty M26 a27).bind fun M28 =>
  (pI M28 a0 11 (0 : Int32)).bind fun M29 =>
  (m_X7_refresh M29 a0).bind fun M30 =>
  some (r13, M30)

def m_X6_rulesOf (M : Mem) (a0 : Nat) (x1 : Int32) : Option Int32 :=
  (m_X7_within x1 (M.2 a0 0)).bind fun r11 =>
  if r11 = 0 then
    some (0 : Int32)
  else
  (rf 10 M a0 2).bind fun a12 =>
  (ra M a12 x1).bind fun v13 =>
  some v13

def m_X6_valueAt (M : Mem) (a0 : Nat) (x1 : Int32) (x2 : Int32) : Option Int32 :=
  (m_X7_within x1 (M.2 a0 0)).bind fun r11 =>
  if r11 = 0 then
    some (0 : Int32)
  else
  (m_X7_within x2 (4 : Int32)).bind fun r12 =>
  if r12 = 0 then
    some (0 : Int32)
  else
  (rf 10 M a0 3).bind fun a13 =>
  (ra M a13 (((4 : Int32) * x1) + x2)).bind fun v14 =>
  some v14

def m_X6_styleOf_L4 (M : Mem) (a0 : Nat) (x1 : Int32) : Nat → Int32 → Int32 → Option Int32
  | 0, _, _ => none
  | fu + 1, x2, x3 =>
    if (4 : Int32) ≤ x3 then
      some x2
    else
    (m_X6_valueAt M a0 x1 x3).bind fun r11 =>
    m_X6_styleOf_L4 M a0 x1 fu (((10 : Int32) * x2) + r11) (x3 + (1 : Int32))

def m_X6_styleOf (M : Mem) (a0 : Nat) (x1 : Int32) : Option Int32 :=
  m_X6_styleOf_L4 M a0 x1 FU (0 : Int32) (0 : Int32)

def m_X6_recordOf_L8 (M : Mem) (a0 : Nat) (x1 : Int32) : Nat → Int32 → Int32 → Option Int32
  | 0, _, _ => none
  | fu + 1, x2, x3 =>
    if x1 ≤ x3 then
      some x1
    else
    (m_X6_styleOf M a0 x3).bind fun r11 =>
    if r11 = x2 then
      some x3
    else
    m_X6_recordOf_L8 M a0 x1 fu x2 (x3 + (1 : Int32))

def m_X6_recordOf (M : Mem) (a0 : Nat) (x1 : Int32) : Option Int32 :=
  (m_X6_styleOf M a0 x1).bind fun r11 =>
  m_X6_recordOf_L8 M a0 x1 FU r11 (0 : Int32)

def m_X4_below_L4 (M : Mem) (a0 : Nat) (x1 : Int32) : Nat → Int32 → Int32 → Option Int32
  | 0, _, _ => none
  | fu + 1, x2, x3 =>
    if (M.2 a0 0) ≤ x3 then
      some x2
    else
    (rf 10 M a0 3).bind fun a11 =>
    (ra M a11 x3).bind fun v12 =>
    (m_X7_hasBit v12 x1).bind fun r13 =>
    if r13 = 0 then
      m_X4_below_L4 M a0 x1 fu x2 (x3 + (1 : Int32))
    else
    m_X4_below_L4 M a0 x1 fu (x2 ||| ((1 : Int32) <<< (x3 &&& 31))) (x3 + (1 : Int32))

def m_X4_below (M : Mem) (a0 : Nat) (x1 : Int32) : Option Int32 :=
  m_X4_below_L4 M a0 x1 FU (0 : Int32) (0 : Int32)

def m_X7_node (M : Mem) (a0 : Nat) (x1 : Int32) (x2 : Int32) : Option Int32 :=
  (rf 5 M a0 3).bind fun a11 =>
  (m_X7_within x1 (M.2 a11 0)).bind fun r12 =>
  if r12 = 0 then
    some (-2 : Int32)
  else
  (m_X7_within x2 (6 : Int32)).bind fun r13 =>
  if r13 = 0 then
    some (-2 : Int32)
  else
  if x2 = (0 : Int32) then
    (rf 5 M a0 3).bind fun a16 =>
    (rf 10 M a16 2).bind fun a17 =>
    (ra M a17 x1).bind fun v18 =>
    some v18
  else
  if x2 = (1 : Int32) then
    (rf 2 M a0 4).bind fun a19 =>
    (rf 10 M a19 0).bind fun a20 =>
    (ra M a20 x1).bind fun v21 =>
    some v21
  else
  if x2 = (2 : Int32) then
    (rf 2 M a0 4).bind fun a22 =>
    (rf 10 M a22 1).bind fun a23 =>
    (ra M a23 x1).bind fun v24 =>
    some v24
  else
  if x2 = (3 : Int32) then
    (rf 7 M a0 6).bind fun a25 =>
    (m_X6_rulesOf M a25 x1).bind fun r26 =>
    some r26
  else
  if x2 = (4 : Int32) then
    (rf 7 M a0 6).bind fun a27 =>
    (m_X6_recordOf M a27 x1).bind fun r28 =>
    some r28
  else
  (rf 5 M a0 3).bind fun a14 =>
  (m_X4_below M a14 x1).bind fun r15 =>
  some r15

def m_X6_nodesOf (M : Mem) (a0 : Nat) (x1 : Int32) : Option Int32 :=
  (m_X7_within x1 (8 : Int32)).bind fun r11 =>
  if r11 = 0 then
    some (0 : Int32)
  else
  (rf 10 M a0 1).bind fun a12 =>
  (ra M a12 x1).bind fun v13 =>
  some v13

def m_X7_rule (M : Mem) (a0 : Nat) (x1 : Int32) (x2 : Int32) : Option Int32 :=
  (rf 5 M a0 3).bind fun a11 =>
  (m_X7_within x1 (M.2 a11 1)).bind fun r12 =>
  if r12 = 0 then
    some (-2 : Int32)
  else
  (m_X7_within x2 (7 : Int32)).bind fun r13 =>
  if r13 = 0 then
    some (-2 : Int32)
  else
  (rf 5 M a0 3).bind fun a14 =>
  (rf 14 M a14 5).bind fun a15 =>
  (rr 4 M a15 x1).bind fun a16 =>
  if x2 = (0 : Int32) then
    if (M.2 a16 0) = 0 then
      some (0 : Int32)
    else
    some (1 : Int32)
  else
  if x2 = (1 : Int32) then
    some (M.2 a16 1)
  else
  if x2 = (2 : Int32) then
    some (M.2 a16 2)
  else
  if x2 = (3 : Int32) then
    some (M.2 a16 3)
  else
  if x2 = (4 : Int32) then
    some (M.2 a16 4)
  else
  if x2 = (5 : Int32) then
    (rf 2 M a0 4).bind fun a19 =>
    (m_X1_hasOn M a19 x1).bind fun r20 =>
    if r20 = 0 then
      some (0 : Int32)
    else
    some (1 : Int32)
  else
  (rf 7 M a0 6).bind fun a17 =>
  (m_X6_nodesOf M a17 x1).bind fun r18 =>
  some r18

def m_X1_putTag (M : Mem) (a0 : Nat) (x1 : Int32) (x2 : Int32) : Option Mem :=
  (m_X7_within x1 (9 : Int32)).bind fun r11 =>
  if r11 = 0 then
    some M
  else
  (rf 10 M a0 0).bind fun a12 =>
  (wa M a12 x1 x2).bind fun M13 =>
  some M13

def m_X1_flipClass (M : Mem) (a0 : Nat) (x1 : Int32) (x2 : Int32) : Option Mem :=
  (m_X7_within x1 (9 : Int32)).bind fun r11 =>
  if r11 = 0 then
    some M
  else
  (rf 10 M a0 1).bind fun a12 =>
  (ra M a12 x1).bind fun v13 =>
  (wa M a12 x1 (v13 ^^^ ((1 : Int32) <<< (x2 &&& 31)))).bind fun M14 =>
  some M14

def m_X1_apply (M : Mem) (a0 : Nat) (x1 : Int32) : Option Mem :=
  if x1 < (200 : Int32) then
    if x1 < (100 : Int32) then
      (nz (4 : Int32)).bind fun _ =>
      (nz (4 : Int32)).bind fun _ =>
      (m_X1_flipClass M a0 (x1 / (4 : Int32)) (x1 - x1 / (4 : Int32) * (4 : Int32))).bind fun M11 =>
      some M11
    else
    (pI M a0 2 ((M.2 a0 2) ^^^ ((1 : Int32) <<< ((x1 - (100 : Int32)) &&& 31)))).bind fun M12 =>
    some M12
  else
  (nz (4 : Int32)).bind fun _ =>
  (nz (4 : Int32)).bind fun _ =>
  (m_X1_putTag M a0 ((x1 - (200 : Int32)) / (4 : Int32)) ((x1 - (200 : Int32)) - (x1 - (200 : Int32)) / (4 : Int32) * (4 : Int32))).bind fun M13 =>
  some M13

def m_X0_add_L34 (a0 : Nat) (x1 : Int32) (M : Mem) : Option Mem :=
  (m_X7_within (M.2 a0 1) (10 : Int32)).bind fun r11 =>
  if r11 = 0 then
    some M
  else
  (rf 10 M a0 0).bind fun a12 =>
  (wa M a12 (M.2 a0 1) x1).bind fun M13 =>
  (pI M13 a0 1 ((M13.2 a0 1) + (1 : Int32))).bind fun M14 =>
  some M14

def m_X0_add (M : Mem) (a0 : Nat) (x1 : Int32) : Option Mem :=
  if (M.2 a0 1) = (10 : Int32) then
    (rf 10 M a0 0).bind fun a11 =>
    (rf 10 M a0 0).bind fun a12 =>
    (cpM M a11 (1 : Int32) a12 (0 : Int32) (9 : Int32)).bind fun M13 =>
    (pI M13 a0 1 ((M13.2 a0 1) - (1 : Int32))).bind fun M14 =>
    m_X0_add_L34 a0 x1 M14
  else
  m_X0_add_L34 a0 x1 M

def m_X7_perform (M : Mem) (a0 : Nat) (x1 : Int32) (x2 : Int32) : Option Mem :=
  (rf 2 M a0 4).bind fun a11 =>
  (m_X1_apply M a11 x1).bind fun M12 =>
  (rf 1 M12 a0 8).bind fun a13 =>
  (m_X0_add M12 a13 x2).bind fun M14 =>
  (m_X7_refresh M14 a0).bind fun M15 =>
  some M15

def m_X7_toggles (M : Mem) (a0 : Nat) (x1 : Int32) (x2 : Int32) : Option (Int32 × Mem) :=
  (rf 5 M a0 3).bind fun a11 =>
  (m_X7_within x1 (M.2 a11 0)).bind fun r12 =>
  if r12 = 0 then
    some ((-2 : Int32), M)
  else
  (m_X7_within x2 (4 : Int32)).bind fun r13 =>
  if r13 = 0 then
    some ((-2 : Int32), M)
  else
  (m_X7_perform M a0 (((4 : Int32) * x1) + x2) (((4 : Int32) * x1) + x2)).bind fun M14 =>
  (rf 2 M14 a0 4).bind fun a15 =>
  (rf 10 M14 a15 1).bind fun a16 =>
  (ra M14 a16 x1).bind fun v17 =>
  some (v17, M14)

def m_X7_tags (M : Mem) (a0 : Nat) (x1 : Int32) (x2 : Int32) : Option (Int32 × Mem) :=
  (rf 5 M a0 3).bind fun a11 =>
  (m_X7_within x1 (M.2 a11 0)).bind fun r12 =>
  if r12 = 0 then
    some ((-2 : Int32), M)
  else
  (m_X7_within x2 (4 : Int32)).bind fun r13 =>
  if r13 = 0 then
    some ((-2 : Int32), M)
  else
  (rf 2 M a0 4).bind fun a14 =>
  (rf 10 M a14 0).bind fun a15 =>
  (ra M a15 x1).bind fun v16 =>
  if v16 = x2 then
    some ((-3 : Int32), M)
  else
  (m_X7_perform M a0 (((200 : Int32) + ((4 : Int32) * x1)) + x2) (((200 : Int32) + ((4 : Int32) * x1)) + v16)).bind fun M17 =>
  some (v16, M17)

def m_X7_switches (M : Mem) (a0 : Nat) (x1 : Int32) : Option (Int32 × Mem) :=
  (rf 5 M a0 3).bind fun a11 =>
  (m_X7_within x1 (M.2 a11 1)).bind fun r12 =>
  if r12 = 0 then
    some ((-2 : Int32), M)
  else
  (m_X7_perform M a0 ((100 : Int32) + x1) ((100 : Int32) + x1)).bind fun M13 =>
  (rf 2 M13 a0 4).bind fun a14 =>
  (m_X1_hasOn M13 a14 x1).bind fun r15 =>
  if r15 = 0 then
    some ((0 : Int32), M13)
  else
  some ((1 : Int32), M13)

def m_X0_takeLatest (M : Mem) (a0 : Nat) : Option (Int32 × Mem) :=
  (m_X7_within ((M.2 a0 1) - (1 : Int32)) (10 : Int32)).bind fun r11 =>
  if r11 = 0 then
    some ((-9 : Int32), M)
  else
  (pI M a0 1 ((M.2 a0 1) - (1 : Int32))).bind fun M12 =>
  (rf 10 M12 a0 0).bind fun a13 =>
  (ra M12 a13 (M12.2 a0 1)).bind fun v14 =>
  some (v14, M12)

def m_X7_undo (M : Mem) (a0 : Nat) : Option (Int32 × Mem) :=
  (rf 1 M a0 8).bind fun a11 =>
  b2 (m_X0_takeLatest M a11) fun r12 M12 =>
  if r12 = (-9 : Int32) then
    some ((-3 : Int32), M12)
  else
  (rf 2 M12 a0 4).bind fun a13 =>
  (m_X1_apply M12 a13 r12).bind fun M14 =>
  (m_X7_refresh M14 a0).bind fun M15 =>
  (rf 1 M15 a0 8).bind fun a16 =>
  some ((M15.2 a16 1), M15)

def m_X7_isPlace (M : Mem) (a0 : Nat) (x1 : Int32) (x2 : Int32) : Option Int32 :=
  (rf 5 M a0 3).bind fun a11 =>
  (m_X7_within x1 (M.2 a11 0)).bind fun r12 =>
  if r12 = 0 then
    some (0 : Int32)
  else
  (m_X7_within x2 (4 : Int32)).bind fun r13 =>
  if r13 = 0 then
    some (0 : Int32)
  else
  some (1 : Int32)

def m_X7_value (M : Mem) (a0 : Nat) (x1 : Int32) (x2 : Int32) : Option Int32 :=
  (m_X7_isPlace M a0 x1 x2).bind fun r11 =>
  if r11 = 0 then
    some (-2 : Int32)
  else
  (rf 7 M a0 6).bind fun a12 =>
  (m_X6_valueAt M a12 x1 x2).bind fun r13 =>
  some r13

def m_X7_winner_L41 (M : Mem) (a0 : Nat) (x1 : Int32) (x2 : Int32) (x3 : Int32) : Nat → Int32 → Int32 → Int32 → Option Int32
  | 0, _, _, _ => none
  | fu + 1, x4, x5, x6 =>
    if (if (8 : Int32) < x3 then (8 : Int32) else x3) ≤ x6 then
      some x5
    else
    if x5 = (-9 : Int32) then
      some x5
    else
    (rf 5 M a0 3).bind fun a11 =>
    (m_X4_strongest M a11 (x4 &&& (((1 : Int32) <<< (x5 &&& 31)) ^^^ (-1 : Int32))) x2).bind fun r12 =>
    m_X7_winner_L41 M a0 x1 x2 x3 fu (x4 &&& (((1 : Int32) <<< (x5 &&& 31)) ^^^ (-1 : Int32))) r12 (x6 + (1 : Int32))

def m_X7_winner (M : Mem) (a0 : Nat) (x1 : Int32) (x2 : Int32) (x3 : Int32) : Option Int32 :=
  (m_X7_isPlace M a0 x1 x2).bind fun r11 =>
  if r11 = 0 then
    some (-2 : Int32)
  else
  if 0 ≤ x3 then
    (rf 7 M a0 6).bind fun a12 =>
    (m_X6_rulesOf M a12 x1).bind fun r13 =>
    (rf 5 M a0 3).bind fun a14 =>
    (m_X4_strongest M a14 r13 x2).bind fun r15 =>
    m_X7_winner_L41 M a0 x1 x2 x3 FU r13 r15 (0 : Int32)
  else
  some (-2 : Int32)

def m_X6_sourceAt (M : Mem) (a0 : Nat) (x1 : Int32) (x2 : Int32) : Option Int32 :=
  (m_X7_within x1 (M.2 a0 0)).bind fun r11 =>
  if r11 = 0 then
    some (-9 : Int32)
  else
  (m_X7_within x2 (4 : Int32)).bind fun r12 =>
  if r12 = 0 then
    some (-9 : Int32)
  else
  (rf 10 M a0 4).bind fun a13 =>
  (ra M a13 (((4 : Int32) * x1) + x2)).bind fun v14 =>
  some v14

def m_X7_source (M : Mem) (a0 : Nat) (x1 : Int32) (x2 : Int32) : Option Int32 :=
  (m_X7_isPlace M a0 x1 x2).bind fun r11 =>
  if r11 = 0 then
    some (-2 : Int32)
  else
  (rf 7 M a0 6).bind fun a12 =>
  (m_X6_sourceAt M a12 x1 x2).bind fun r13 =>
  some r13

def m_X4_lookedAtBy_L14 (M : Mem) (a0 : Nat) (a1 : Nat) (a2 : Nat) (x3 : Int32) (x4 : Int32) : Nat → Int32 → Int32 → Int32 → Option Int32
  | 0, _, _, _ => none
  | fu + 1, x5, x6, x7 =>
    if x5 < x7 then
      some x6
    else
    (rf 10 M a2 6).bind fun a11 =>
    (ra M a11 x7).bind fun v12 =>
    (m_X7_hasBit v12 x4).bind fun r13 =>
    if r13 = 0 then
      m_X4_lookedAtBy_L14 M a0 a1 a2 x3 x4 fu x5 x6 (x7 + (1 : Int32))
    else
    if x7 = x5 then
      m_X4_lookedAtBy_L14 M a0 a1 a2 x3 x4 fu x5 (x6 ||| ((1 : Int32) <<< (x3 &&& 31))) (x7 + (1 : Int32))
    else
    (m_X4_below M a0 x3).bind fun r14 =>
    (m_X4_fitted M a0 a1 a2 x5).bind fun r15 =>
    m_X4_lookedAtBy_L14 M a0 a1 a2 x3 x4 fu x5 (x6 ||| (r14 &&& r15)) (x7 + (1 : Int32))

def m_X4_lookedAtBy (M : Mem) (a0 : Nat) (a1 : Nat) (a2 : Nat) (x3 : Int32) (x4 : Int32) : Option Int32 :=
  m_X4_lookedAtBy_L14 M a0 a1 a2 x3 x4 FU ((M.2 a2 1) - (1 : Int32)) (0 : Int32) (0 : Int32)

def m_X4_lookedAt_L6 (M : Mem) (a0 : Nat) (a1 : Nat) (x2 : Int32) (x3 : Int32) : Nat → Int32 → Int32 → Option Int32
  | 0, _, _ => none
  | fu + 1, x4, x5 =>
    if (M.2 a0 1) ≤ x5 then
      some x4
    else
    (m_X1_hasOn M a1 x5).bind fun r11 =>
    if r11 = 0 then
      m_X4_lookedAt_L6 M a0 a1 x2 x3 fu x4 (x5 + (1 : Int32))
    else
    (rf 14 M a0 5).bind fun a12 =>
    (rr 4 M a12 x5).bind fun a13 =>
    (m_X4_lookedAtBy M a0 a1 a13 x2 x3).bind fun r14 =>
    m_X4_lookedAt_L6 M a0 a1 x2 x3 fu (x4 ||| r14) (x5 + (1 : Int32))

def m_X4_lookedAt (M : Mem) (a0 : Nat) (a1 : Nat) (x2 : Int32) (x3 : Int32) : Option Int32 :=
  m_X4_lookedAt_L6 M a0 a1 x2 x3 FU (0 : Int32) (0 : Int32)

def m_X7_tryOut (M : Mem) (a0 : Nat) (x1 : Int32) : Option Mem :=
  (rf 2 M a0 5).bind fun a11 =>
  (rf 2 M a0 4).bind fun a12 =>
  (m_X1_copyFrom M a11 a12).bind fun M13 =>
  (rf 2 M13 a0 5).bind fun a14 =>
  (m_X1_apply M13 a14 x1).bind fun M15 =>
  (rf 7 M15 a0 7).bind fun a16 =>
  (rf 5 M15 a0 3).bind fun a17 =>
  (rf 2 M15 a0 5).bind fun a18 =>
  (m_X6_resolve M15 a16 a17 a18).bind fun M19 =>
  some M19

def m_X6_differences_L4 (M : Mem) (a0 : Nat) (a1 : Nat) : Nat → Int32 → Int32 → Option Int32
  | 0, _, _ => none
  | fu + 1, x2, x3 =>
    if (M.2 a0 0) ≤ x3 then
      some x2
    else
    (m_X6_styleOf M a0 x3).bind fun r11 =>
    (m_X6_styleOf M a1 x3).bind fun r12 =>
    if r11 = r12 then
      m_X6_differences_L4 M a0 a1 fu x2 (x3 + (1 : Int32))
    else
    m_X6_differences_L4 M a0 a1 fu (x2 ||| ((1 : Int32) <<< (x3 &&& 31))) (x3 + (1 : Int32))

def m_X6_differences (M : Mem) (a0 : Nat) (a1 : Nat) : Option Int32 :=
  m_X6_differences_L4 M a0 a1 FU (0 : Int32) (0 : Int32)

def m_X7_change (M : Mem) (a0 : Nat) (x1 : Int32) (x2 : Int32) (x3 : Int32) : Option (Int32 × Mem) :=
  (rf 5 M a0 3).bind fun a11 =>
  (m_X7_within x1 (M.2 a11 0)).bind fun r12 =>
  if r12 = 0 then
    some ((-2 : Int32), M)
  else
  (m_X7_within x2 (4 : Int32)).bind fun r13 =>
  if r13 = 0 then
    some ((-2 : Int32), M)
  else
  (m_X7_within x3 (2 : Int32)).bind fun r14 =>
  if r14 = 0 then
    some ((-2 : Int32), M)
  else
  if x3 = 0 then
    (rf 5 M a0 3).bind fun a15 =>
    (rf 2 M a0 4).bind fun a16 =>
    (m_X4_lookedAt M a15 a16 x1 x2).bind fun r17 =>
    some (r17, M)
  else
  (m_X7_tryOut M a0 (((4 : Int32) * x1) + x2)).bind fun M18 =>
  (rf 7 M18 a0 6).bind fun a19 =>
  (rf 7 M18 a0 7).bind fun a20 =>
  (m_X6_differences M18 a19 a20).bind fun r21 =>
  some (r21, M18)

def m_X7_wanted_L84 (a0 : Nat) (x1 : Int32) (x2 : Int32) (x3 : Int32) : Nat → Mem → Int32 → Option (Int32 × Mem)
  | 0, _, _ => none
  | fu + 1, M, x4 =>
    (rf 5 M a0 3).bind fun a11 =>
    if (M.2 a11 1) ≤ x4 then
      some ((-9 : Int32), M)
    else
    (m_X7_tryOut M a0 ((100 : Int32) + x4)).bind fun M12 =>
    (rf 7 M12 a0 7).bind fun a13 =>
    (m_X6_valueAt M12 a13 x1 x2).bind fun r14 =>
    if r14 = x3 then
      some (((100 : Int32) + x4), M12)
    else
    m_X7_wanted_L84 a0 x1 x2 x3 fu M12 (x4 + (1 : Int32))

def m_X7_wanted_L39 (a0 : Nat) (x1 : Int32) (x2 : Int32) (x3 : Int32) : Nat → Mem → Int32 → Option (Int32 × Mem)
  | 0, _, _ => none
  | fu + 1, M, x4 =>
    (rf 5 M a0 3).bind fun a11 =>
    if ((4 : Int32) * (M.2 a11 0)) ≤ x4 then
      m_X7_wanted_L84 a0 x1 x2 x3 FU M (0 : Int32)
    else
    (m_X7_tryOut M a0 x4).bind fun M12 =>
    (rf 7 M12 a0 7).bind fun a13 =>
    (m_X6_valueAt M12 a13 x1 x2).bind fun r14 =>
    if r14 = x3 then
      some (x4, M12)
    else
    m_X7_wanted_L39 a0 x1 x2 x3 fu M12 (x4 + (1 : Int32))

def m_X7_wanted (M : Mem) (a0 : Nat) (x1 : Int32) (x2 : Int32) (x3 : Int32) : Option (Int32 × Mem) :=
  (m_X7_isPlace M a0 x1 x2).bind fun r11 =>
  if r11 = 0 then
    some ((-2 : Int32), M)
  else
  (m_X7_within x3 (10 : Int32)).bind fun r12 =>
  if r12 = 0 then
    some ((-2 : Int32), M)
  else
  (rf 7 M a0 6).bind fun a13 =>
  (m_X6_valueAt M a13 x1 x2).bind fun r14 =>
  if r14 = x3 then
    some ((-1 : Int32), M)
  else
  m_X7_wanted_L39 a0 x1 x2 x3 FU M (0 : Int32)

def m_X5_add (M : Mem) (a0 : Nat) (x1 : Int32) (x2 : Int32) (x3 : Int32) : Option (Int32 × Mem) :=
  (m_X7_within (M.2 a0 3) (6 : Int32)).bind fun r11 =>
  if r11 = 0 then
    some ((0 : Int32), M)
  else
  (rf 10 M a0 0).bind fun a12 =>
  (wa M a12 (M.2 a0 3) x1).bind fun M13 =>
  (rf 10 M13 a0 1).bind fun a14 =>
  (wa M13 a14 (M13.2 a0 3) x2).bind fun M15 =>
  (rf 10 M15 a0 2).bind fun a16 =>
  (wa M15 a16 (M15.2 a0 3) x3).bind fun M17 =>
  (pI M17 a0 3 ((M17.2 a0 3) + (1 : Int32))).bind fun M18 =>
  some ((1 : Int32), M18)

def m_X7_sees (M : Mem) (a0 : Nat) (x1 : Int32) (x2 : Int32) (x3 : Int32) : Option (Int32 × Mem) :=
  (m_X7_isPlace M a0 x1 x2).bind fun r11 =>
  if r11 = 0 then
    some ((-2 : Int32), M)
  else
  (m_X7_within x3 (10 : Int32)).bind fun r12 =>
  if r12 = 0 then
    some ((-2 : Int32), M)
  else
  (rf 6 M a0 9).bind fun a13 =>
  b2 (m_X5_add M a13 x1 x2 x3) fun r14 M14 =>
  if r14 = 0 then
    some ((-4 : Int32), M14)
  else
  (rf 6 M14 a0 9).bind fun a15 =>
  some ((M14.2 a15 3), M14)

def m_X7_forget (M : Mem) (a0 : Nat) : Option (Int32 × Mem) :=
  (rf 6 M a0 9).bind fun a11 =>
  (rf 6 M a0 9).bind fun a12 =>
  (m_X5_empty M a12).bind fun M13 =>
  some ((M.2 a11 3), M13)

def m_X5_holdIn_L2 (M : Mem) (a0 : Nat) (a1 : Nat) : Nat → Int32 → Option Int32
  | 0, _ => none
  | fu + 1, x2 =>
    if (M.2 a0 3) ≤ x2 then
      some (1 : Int32)
    else
    (rf 10 M a0 0).bind fun a11 =>
    (ra M a11 x2).bind fun v12 =>
    (rf 10 M a0 1).bind fun a13 =>
    (ra M a13 x2).bind fun v14 =>
    (m_X6_valueAt M a1 v12 v14).bind fun r15 =>
    (rf 10 M a0 2).bind fun a16 =>
    (ra M a16 x2).bind fun v17 =>
    if r15 = v17 then
      m_X5_holdIn_L2 M a0 a1 fu (x2 + (1 : Int32))
    else
    some (0 : Int32)

def m_X5_holdIn (M : Mem) (a0 : Nat) (a1 : Nat) : Option Int32 :=
  m_X5_holdIn_L2 M a0 a1 FU (0 : Int32)

def m_X7_unseen_L4 (a0 : Nat) : Nat → Mem → Int32 → Int32 → Option (Int32 × Mem)
  | 0, _, _, _ => none
  | fu + 1, M, x1, x2 =>
    (rf 5 M a0 3).bind fun a11 =>
    if (M.2 a11 1) ≤ x2 then
      some (x1, M)
    else
    (m_X7_tryOut M a0 ((100 : Int32) + x2)).bind fun M12 =>
    (rf 6 M12 a0 9).bind fun a13 =>
    (rf 7 M12 a0 7).bind fun a14 =>
    (m_X5_holdIn M12 a13 a14).bind fun r15 =>
    if r15 = 0 then
      m_X7_unseen_L4 a0 fu M12 x1 (x2 + (1 : Int32))
    else
    m_X7_unseen_L4 a0 fu M12 (x1 ||| ((1 : Int32) <<< (x2 &&& 31))) (x2 + (1 : Int32))

def m_X7_unseen (M : Mem) (a0 : Nat) : Option (Int32 × Mem) :=
  m_X7_unseen_L4 a0 FU M (0 : Int32) (0 : Int32)

def m_X7_addAnswers_L15 (a0 : Nat) (k2 : Mem → Int32 → Option Mem) : Nat → Mem → Int32 → Int32 → Option Mem
  | 0, _, _, _ => none
  | fu + 1, M, x1, x2 =>
    if (4 : Int32) ≤ x2 then
      k2 M (x1 + (1 : Int32))
    else
    (rf 10 M a0 12).bind fun a11 =>
    (ra M a11 (((4 : Int32) * x1) + x2)).bind fun v12 =>
    (rf 7 M a0 7).bind fun a13 =>
    (m_X6_valueAt M a13 x1 x2).bind fun r14 =>
    (wa M a11 (((4 : Int32) * x1) + x2) (v12 ||| ((1 : Int32) <<< (r14 &&& 31)))).bind fun M15 =>
    m_X7_addAnswers_L15 a0 k2 fu M15 x1 (x2 + (1 : Int32))

def m_X7_addAnswers_L2 (a0 : Nat) : Nat → Mem → Int32 → Option Mem
  | 0, _, _ => none
  | fu + 1, M, x1 =>
    (rf 5 M a0 3).bind fun a11 =>
    if (M.2 a11 0) ≤ x1 then
      some M
    else
    m_X7_addAnswers_L15 a0 (fun z0 z1 => m_X7_addAnswers_L2 a0 fu z0 z1) FU M x1 (0 : Int32)

def m_X7_addAnswers (M : Mem) (a0 : Nat) : Option Mem :=
  m_X7_addAnswers_L2 a0 FU M (0 : Int32)

def m_X7_gatherAnswers_L26 (a0 : Nat) (x1 : Int32) : Nat → Mem → Int32 → Option Mem
  | 0, _, _ => none
  | fu + 1, M, x2 =>
    (rf 5 M a0 3).bind fun a11 =>
    if (M.2 a11 1) ≤ x2 then
      some M
    else
    (m_X7_hasBit x1 x2).bind fun r12 =>
    if r12 = 0 then
      m_X7_gatherAnswers_L26 a0 x1 fu M (x2 + (1 : Int32))
    else
    (m_X7_tryOut M a0 ((100 : Int32) + x2)).bind fun M13 =>
    (m_X7_addAnswers M13 a0).bind fun M14 =>
    m_X7_gatherAnswers_L26 a0 x1 fu M14 (x2 + (1 : Int32))

def m_X7_gatherAnswers_L2 (a0 : Nat) (x1 : Int32) : Nat → Mem → Int32 → Option Mem
  | 0, _, _ => none
  | fu + 1, M, x2 =>
    (rf 10 M a0 12).bind fun a11 =>
    if (nI (ln a11)) ≤ x2 then
      m_X7_gatherAnswers_L26 a0 x1 FU M (0 : Int32)
    else
    (rf 10 M a0 12).bind fun a12 =>
    (wa M a12 x2 (0 : Int32)).bind fun M13 =>
    m_X7_gatherAnswers_L2 a0 x1 fu M13 (x2 + (1 : Int32))

def m_X7_gatherAnswers (M : Mem) (a0 : Nat) (x1 : Int32) : Option Mem :=
  m_X7_gatherAnswers_L2 a0 x1 FU M (0 : Int32)

def m_X7_ask_L29 (a0 : Nat) : Nat → Mem → Int32 → Int32 → Int32 → Option (Int32 × Mem)
  | 0, _, _, _, _ => none
  | fu + 1, M, x2, x3, x4 =>
    (rf 5 M a0 3).bind fun a11 =>
    if ((4 : Int32) * (M.2 a11 0)) ≤ x4 then
      some (x2, M)
    else
    (rf 10 M a0 12).bind fun a12 =>
    (ra M a12 x4).bind fun v13 =>
    (m_J6_bitCount_0f7a4 v13).bind fun r14 =>
    if r14 ≤ x3 then
      m_X7_ask_L29 a0 fu M x2 x3 (x4 + (1 : Int32))
    else
    m_X7_ask_L29 a0 fu M x4 r14 (x4 + (1 : Int32))

def m_X7_ask (M : Mem) (a0 : Nat) : Option (Int32 × Mem) :=
  b2 (m_X7_unseen M a0) fun r11 M11 =>
  (m_J6_bitCount_0f7a4 r11).bind fun r12 =>
  if (1 : Int32) < r12 then
    (m_X7_gatherAnswers M11 a0 r11).bind fun M13 =>
    m_X7_ask_L29 a0 FU M13 (-9 : Int32) (0 : Int32) (0 : Int32)
  else
  some ((-9 : Int32), M11)

def m_X7_keep (M : Mem) (a0 : Nat) (x1 : Int32) : Option (Int32 × Mem) :=
  (m_X7_within x1 (2 : Int32)).bind fun r11 =>
  if r11 = 0 then
    some ((-2 : Int32), M)
  else
  (rf 13 M a0 10).bind fun a12 =>
  (rr 2 M a12 x1).bind fun a13 =>
  (rf 2 M a0 4).bind fun a14 =>
  (m_X1_copyFrom M a13 a14).bind fun M15 =>
  (pI M15 a0 11 ((M15.2 a0 11) ||| ((1 : Int32) <<< (x1 &&& 31)))).bind fun M16 =>
  (rf 5 M16 a0 3).bind fun a17 =>
  some ((M16.2 a17 0), M16)

def m_X7_back (M : Mem) (a0 : Nat) (x1 : Int32) : Option (Int32 × Mem) :=
  (m_X7_within x1 (2 : Int32)).bind fun r11 =>
  if r11 = 0 then
    some ((-2 : Int32), M)
  else
  (m_X7_hasBit (M.2 a0 11) x1).bind fun r12 =>
  if r12 = 0 then
    some ((-3 : Int32), M)
  else
  (rf 2 M a0 4).bind fun a13 =>
  (rf 13 M a0 10).bind fun a14 =>
  (rr 2 M a14 x1).bind fun a15 =>
  (m_X1_copyFrom M a13 a15).bind fun M16 =>
  (rf 1 M16 a0 8).bind fun a17 =>
  (m_X0_empty M16 a17).bind fun M18 =>
  (m_X7_refresh M18 a0).bind fun M19 =>
  (rf 5 M19 a0 3).bind fun a20 =>
  some ((M19.2 a20 0), M19)

def m_X6_unlikeStyles_L4 (M : Mem) (a0 : Nat) : Nat → Int32 → Int32 → Option Int32
  | 0, _, _ => none
  | fu + 1, x1, x2 =>
    if (M.2 a0 0) ≤ x2 then
      some x1
    else
    (m_X6_recordOf M a0 x2).bind fun r11 =>
    if r11 = x2 then
      m_X6_unlikeStyles_L4 M a0 fu (x1 + (1 : Int32)) (x2 + (1 : Int32))
    else
    m_X6_unlikeStyles_L4 M a0 fu x1 (x2 + (1 : Int32))

def m_X6_unlikeStyles (M : Mem) (a0 : Nat) : Option Int32 :=
  m_X6_unlikeStyles_L4 M a0 FU (0 : Int32) (0 : Int32)

def m_X7_count (M : Mem) (a0 : Nat) (x1 : Int32) : Option Int32 :=
  if x1 = (0 : Int32) then
    (rf 5 M a0 3).bind fun a11 =>
    some (M.2 a11 0)
  else
  if x1 = (1 : Int32) then
    (rf 5 M a0 3).bind fun a12 =>
    some (M.2 a12 1)
  else
  if x1 = (2 : Int32) then
    (rf 2 M a0 4).bind fun a13 =>
    some (M.2 a13 2)
  else
  if x1 = (3 : Int32) then
    (rf 7 M a0 6).bind fun a14 =>
    (m_X6_unlikeStyles M a14).bind fun r15 =>
    some r15
  else
  if x1 = (4 : Int32) then
    (rf 6 M a0 9).bind fun a16 =>
    some (M.2 a16 3)
  else
  if x1 = (5 : Int32) then
    some (M.2 a0 1)
  else
  if x1 = (6 : Int32) then
    (rf 1 M a0 8).bind fun a17 =>
    some (M.2 a17 1)
  else
  some (-2 : Int32)

def m_X8_in (x0 : Int32) (x1 : Int32) (x2 : Int32) : Option Int32 :=
  if x0 < x1 then
    some (0 : Int32)
  else
  if x2 < x0 then
    some (0 : Int32)
  else
  some (1 : Int32)

def m_X8_has (x0 : Int32) (x1 : Int32) : Option Int32 :=
  if ((x0 >>> (x1 &&& 31)) &&& (1 : Int32)) = (1 : Int32) then
    some (1 : Int32)
  else
  some (0 : Int32)

def m_X8_ones_L4 (x0 : Int32) : Nat → Int32 → Int32 → Option Int32
  | 0, _, _ => none
  | fu + 1, x1, x2 =>
    if x2 = 0 then
      some x1
    else
    m_X8_ones_L4 x0 fu (x1 + (1 : Int32)) (x2 &&& (x2 - (1 : Int32)))

def m_X8_ones (x0 : Int32) : Option Int32 :=
  m_X8_ones_L4 x0 FU (0 : Int32) x0

def m_X8_type (M : Mem) (a0 : Nat) (x1 : Int32) : Option (Int32 × Mem) :=
  (pI M a0 0 (0 : Int32)).bind fun M11 =>
  (m_X8_in x1 (0 : Int32) (255 : Int32)).bind fun r12 =>
  if r12 = 0 then
    some ((-2 : Int32), M11)
  else
  if (M11.2 a0 2) = (120 : Int32) then
    some ((-4 : Int32), M11)
  else
  (rf 10 M11 a0 1).bind fun a13 =>
  (wa M11 a13 (M11.2 a0 2) x1).bind fun M14 =>
  (pI M14 a0 2 ((M14.2 a0 2) + (1 : Int32))).bind fun M15 =>
  some ((M15.2 a0 2), M15)

def m_X8_clear (M : Mem) (a0 : Nat) : Option (Int32 × Mem) :=
  (pI M a0 0 (0 : Int32)).bind fun M11 =>
  (pI M11 a0 2 (0 : Int32)).bind fun M12 =>
  some ((M11.2 a0 2), M12)

def m_X8_letterAt (M : Mem) (a0 : Nat) (x1 : Int32) : Option Int32 :=
  if (M.2 a0 2) ≤ x1 then
    some (-1 : Int32)
  else
  (rf 10 M a0 1).bind fun a11 =>
  (ra M a11 x1).bind fun v12 =>
  some v12

def m_X8_isSign (x0 : Int32) : Option Int32 :=
  if x0 = (78 : Int32) then
    some (1 : Int32)
  else
  if x0 = (82 : Int32) then
    some (1 : Int32)
  else
  if x0 = (85 : Int32) then
    some (1 : Int32)
  else
  (m_X8_in x0 (97 : Int32) (100 : Int32)).bind fun r11 =>
  if r11 = 0 then
    (m_X8_in x0 (112 : Int32) (115 : Int32)).bind fun r12 =>
    if r12 = 0 then
      (m_X8_in x0 (119 : Int32) (122 : Int32)).bind fun r13 =>
      if r13 = 0 then
        if x0 = (62 : Int32) then
          some (1 : Int32)
        else
        if x0 = (47 : Int32) then
          some (1 : Int32)
        else
        if x0 = (46 : Int32) then
          some (1 : Int32)
        else
        if x0 = (58 : Int32) then
          some (1 : Int32)
        else
        if x0 = (33 : Int32) then
          some (1 : Int32)
        else
        if x0 = (59 : Int32) then
          some (1 : Int32)
        else
        some (0 : Int32)
      else
      some (1 : Int32)
    else
    some (1 : Int32)
  else
  some (1 : Int32)

def m_X8_advances_L71 (a0 : Nat) : Nat → Mem → Option Mem
  | 0, _ => none
  | fu + 1, M =>
    (m_X8_letterAt M a0 (M.2 a0 3)).bind fun r11 =>
    (m_X8_in r11 (48 : Int32) (57 : Int32)).bind fun r12 =>
    if r12 = 0 then
      if (9 : Int32) < (M.2 a0 6) then
        (pI M a0 4 (3 : Int32)).bind fun M13 =>
        some M13
      else
      if ((M.2 a0 3) - (M.2 a0 5)) ≤ (1 : Int32) then
        (pI M a0 4 (2 : Int32)).bind fun M14 =>
        some M14
      else
      (pI M a0 4 (3 : Int32)).bind fun M15 =>
      some M15
    else
    if (M.2 a0 6) ≤ (9 : Int32) then
      (m_X8_letterAt M a0 (M.2 a0 3)).bind fun r16 =>
      (pI M a0 6 ((((10 : Int32) * (M.2 a0 6)) + r16) - (48 : Int32))).bind fun M17 =>
      (pI M17 a0 3 ((M17.2 a0 3) + (1 : Int32))).bind fun M18 =>
      m_X8_advances_L71 a0 fu M18
    else
    (pI M a0 6 (M.2 a0 6)).bind fun M19 =>
    (pI M19 a0 3 ((M19.2 a0 3) + (1 : Int32))).bind fun M20 =>
    m_X8_advances_L71 a0 fu M20

def m_X8_advances_L0 (a0 : Nat) : Nat → Mem → Option Mem
  | 0, _ => none
  | fu + 1, M =>
    (m_X8_letterAt M a0 (M.2 a0 3)).bind fun r11 =>
    if r11 = (32 : Int32) then
      (pI M a0 3 ((M.2 a0 3) + (1 : Int32))).bind fun M12 =>
      m_X8_advances_L0 a0 fu M12
    else
    (pI M a0 5 (M.2 a0 3)).bind fun M13 =>
    (m_X8_letterAt M13 a0 (M13.2 a0 3)).bind fun r14 =>
    if 0 ≤ r14 then
      (m_X8_in r14 (48 : Int32) (57 : Int32)).bind fun r15 =>
      if r15 = 0 then
        (pI M13 a0 3 ((M13.2 a0 3) + (1 : Int32))).bind fun M16 =>
        (pI M16 a0 6 r14).bind fun M17 =>
        (m_X8_isSign r14).bind fun r18 =>
        if r18 = 0 then
          (pI M17 a0 4 (3 : Int32)).bind fun M19 =>
          some M19
        else
        (pI M17 a0 4 (1 : Int32)).bind fun M20 =>
        some M20
      else
      (pI M13 a0 6 (0 : Int32)).bind fun M21 =>
      m_X8_advances_L71 a0 FU M21
    else
    (pI M13 a0 4 (0 : Int32)).bind fun M22 =>
    some M22

def m_X8_advances (M : Mem) (a0 : Nat) : Option Mem :=
  m_X8_advances_L0 a0 FU M

def m_X8_isWell (M : Mem) (a0 : Nat) : Option Int32 :=
  if 0 ≤ (M.2 a0 7) then
    some (0 : Int32)
  else
  some (1 : Int32)

def m_X8_takes (M : Mem) (a0 : Nat) (x1 : Int32) : Option (Int32 × Mem) :=
  (m_X8_isWell M a0).bind fun r11 =>
  if r11 = 0 then
    some ((0 : Int32), M)
  else
  if x1 = 0 then
    (pI M a0 7 (M.2 a0 5)).bind fun M12 =>
    some ((0 : Int32), M12)
  else
  (m_X8_advances M a0).bind fun M13 =>
  some ((M.2 a0 6), M13)

def m_X8_isThis (M : Mem) (a0 : Nat) (x1 : Int32) : Option Int32 :=
  (m_X8_isWell M a0).bind fun r11 =>
  if r11 = 0 then
    some (0 : Int32)
  else
  if (M.2 a0 4) = (1 : Int32) then
    if (M.2 a0 6) = x1 then
      some (1 : Int32)
    else
    some (0 : Int32)
  else
  some (0 : Int32)

def m_X8_isFrom (M : Mem) (a0 : Nat) (x1 : Int32) (x2 : Int32) : Option Int32 :=
  (m_X8_isWell M a0).bind fun r11 =>
  if r11 = 0 then
    some (0 : Int32)
  else
  if (M.2 a0 4) = (1 : Int32) then
    (m_X8_in (M.2 a0 6) x1 x2).bind fun r12 =>
    if r12 = 0 then
      some (0 : Int32)
    else
    some (1 : Int32)
  else
  some (0 : Int32)

def m_X8_begins_L41 (a0 : Nat) : Nat → Mem → Int32 → Option Mem
  | 0, _, _ => none
  | fu + 1, M, x1 =>
    if (19 : Int32) ≤ x1 then
      some M
    else
    (rf 10 M a0 10).bind fun a11 =>
    (wa M a11 x1 (0 : Int32)).bind fun M12 =>
    m_X8_begins_L41 a0 fu M12 (x1 + (1 : Int32))

def m_X8_begins_L2 (a0 : Nat) : Nat → Mem → Int32 → Option Mem
  | 0, _, _ => none
  | fu + 1, M, x1 =>
    if (140 : Int32) ≤ x1 then
      m_X8_begins_L41 a0 FU M (0 : Int32)
    else
    (rf 10 M a0 9).bind fun a11 =>
    if x1 < (20 : Int32) then
      (wa M a11 x1 (0 : Int32)).bind fun M12 =>
      m_X8_begins_L2 a0 fu M12 (x1 + (1 : Int32))
    else
    if (44 : Int32) ≤ x1 then
      (wa M a11 x1 (0 : Int32)).bind fun M13 =>
      m_X8_begins_L2 a0 fu M13 (x1 + (1 : Int32))
    else
    (wa M a11 x1 (-9 : Int32)).bind fun M14 =>
    m_X8_begins_L2 a0 fu M14 (x1 + (1 : Int32))

def m_X8_begins (M : Mem) (a0 : Nat) : Option Mem :=
  m_X8_begins_L2 a0 FU M (0 : Int32)

def m_X8_readsNode_L111 (a0 : Nat) (k72 : Mem → Int32 → Option Mem) (M : Mem) (x1 : Int32) (s0 : Int32) (g1 : Nat) : Option Mem :=
  b2 (m_X8_takes M g1 s0) fun r11 M11 =>
  (rf 10 M11 a0 10).bind fun a12 =>
  (ra M11 a12 ((9 : Int32) + x1)).bind fun v13 =>
  (m_X8_isWell M11 a0).bind fun r14 =>
  if r14 = 0 then
    (wa M11 a12 ((9 : Int32) + x1) (v13 ||| (0 : Int32))).bind fun M15 =>
    k72 M15 x1
  else
  (wa M11 a12 ((9 : Int32) + x1) (v13 ||| ((1 : Int32) <<< ((r11 - (112 : Int32)) &&& 31)))).bind fun M16 =>
  k72 M16 x1

def m_X8_readsNode_L72 (a0 : Nat) : Nat → Mem → Int32 → Option Mem
  | 0, _, _ => none
  | fu + 1, M, x1 =>
    (m_X8_isFrom M a0 (112 : Int32) (115 : Int32)).bind fun r11 =>
    if r11 = 0 then
      (rf 10 M a0 9).bind fun a12 =>
      (ra M a12 (0 : Int32)).bind fun v13 =>
      (wa M a12 (0 : Int32) (v13 + (1 : Int32))).bind fun M14 =>
      some M14
    else
    (rf 10 M a0 10).bind fun a15 =>
    (ra M a15 ((9 : Int32) + x1)).bind fun v16 =>
    (m_X8_has v16 ((M.2 a0 6) - (112 : Int32))).bind fun r17 =>
    if r17 = 0 then
      m_X8_readsNode_L111 a0 (fun z0 z1 => m_X8_readsNode_L72 a0 fu z0 z1) M x1 (1 : Int32) a0
    else
    m_X8_readsNode_L111 a0 (fun z0 z1 => m_X8_readsNode_L72 a0 fu z0 z1) M x1 (0 : Int32) a0

def m_X8_readsNode_L48 (a0 : Nat) (M : Mem) (x1 : Int32) (s0 : Int32) (s1 : Int32) (g2 : Nat) : Option Mem :=
  (wa M g2 s1 s0).bind fun M11 =>
  (rf 10 M11 a0 10).bind fun a12 =>
  (m_X8_isFrom M11 a0 (97 : Int32) (100 : Int32)).bind fun r13 =>
  b2 (m_X8_takes M11 a0 r13) fun r14 M14 =>
  (wa M14 a12 ((0 : Int32) + x1) (r14 - (97 : Int32))).bind fun M15 =>
  m_X8_readsNode_L72 a0 FU M15 x1

def m_X8_readsNode (M : Mem) (a0 : Nat) : Option Mem :=
  (rf 10 M a0 9).bind fun a11 =>
  (ra M a11 (0 : Int32)).bind fun v12 =>
  (rf 10 M a0 9).bind fun a13 =>
  if v12 = 0 then
    m_X8_readsNode_L48 a0 M v12 (-9 : Int32) ((3 : Int32) + v12) a13
  else
  if (M.2 a0 4) = (2 : Int32) then
    if v12 ≤ (M.2 a0 6) then
      b2 (m_X8_takes M a0 (0 : Int32)) fun r14 M14 =>
      m_X8_readsNode_L48 a0 M14 v12 r14 ((3 : Int32) + v12) a13
    else
    b2 (m_X8_takes M a0 (1 : Int32)) fun r15 M15 =>
    m_X8_readsNode_L48 a0 M15 v12 r15 ((3 : Int32) + v12) a13
  else
  b2 (m_X8_takes M a0 (0 : Int32)) fun r16 M16 =>
  m_X8_readsNode_L48 a0 M16 v12 r16 ((3 : Int32) + v12) a13

def m_X8_readsCompound_L84 (a0 : Nat) (x1 : Int32) (k30 : Mem → Int32 → Option Mem) (M : Mem) (s0 : Int32) (g1 : Nat) : Option Mem :=
  b2 (m_X8_takes M g1 s0) fun r11 M11 =>
  (rf 10 M11 a0 9).bind fun a12 =>
  (ra M11 a12 ((44 : Int32) + x1)).bind fun v13 =>
  (m_X8_isWell M11 a0).bind fun r14 =>
  if r14 = 0 then
    (wa M11 a12 ((44 : Int32) + x1) (v13 ||| (0 : Int32))).bind fun M15 =>
    k30 M15 (1 : Int32)
  else
  (wa M11 a12 ((44 : Int32) + x1) (v13 ||| ((1 : Int32) <<< ((r11 - (112 : Int32)) &&& 31)))).bind fun M16 =>
  k30 M16 (1 : Int32)

def m_X8_readsCompound_L30 (a0 : Nat) (x1 : Int32) : Nat → Mem → Int32 → Option Mem
  | 0, _, _ => none
  | fu + 1, M, x2 =>
    (m_X8_isThis M a0 (46 : Int32)).bind fun r11 =>
    if r11 = 0 then
      if x2 = 0 then
        b2 (m_X8_takes M a0 (0 : Int32)) fun r12 M12 =>
        some M12
      else
      some M
    else
    b2 (m_X8_takes M a0 (1 : Int32)) fun r13 M13 =>
    (m_X8_isFrom M13 a0 (112 : Int32) (115 : Int32)).bind fun r14 =>
    if r14 = 0 then
      m_X8_readsCompound_L84 a0 x1 (fun z0 z1 => m_X8_readsCompound_L30 a0 x1 fu z0 z1) M13 (0 : Int32) a0
    else
    (rf 10 M13 a0 9).bind fun a15 =>
    (ra M13 a15 ((44 : Int32) + x1)).bind fun v16 =>
    (m_X8_has v16 ((M13.2 a0 6) - (112 : Int32))).bind fun r17 =>
    if r17 = 0 then
      m_X8_readsCompound_L84 a0 x1 (fun z0 z1 => m_X8_readsCompound_L30 a0 x1 fu z0 z1) M13 (1 : Int32) a0
    else
    m_X8_readsCompound_L84 a0 x1 (fun z0 z1 => m_X8_readsCompound_L30 a0 x1 fu z0 z1) M13 (0 : Int32) a0

def m_X8_readsCompound (M : Mem) (a0 : Nat) (x1 : Int32) : Option Mem :=
  (m_X8_isFrom M a0 (97 : Int32) (100 : Int32)).bind fun r11 =>
  if r11 = 0 then
    m_X8_readsCompound_L30 a0 x1 FU M r11
  else
  (rf 10 M a0 9).bind fun a12 =>
  b2 (m_X8_takes M a0 (1 : Int32)) fun r13 M13 =>
  (wa M13 a12 ((20 : Int32) + x1) (r13 - (97 : Int32))).bind fun M14 =>
  m_X8_readsCompound_L30 a0 x1 FU M14 r11

def m_X8_readsDeclarations_L137 (a0 : Nat) (x1 : Int32) (k0 : Mem → Option Mem) (M : Mem) : Option Mem :=
  (m_X8_isWell M a0).bind fun r11 =>
  if r11 = 0 then
    some M
  else
  (m_X8_isThis M a0 (59 : Int32)).bind fun r12 =>
  if r12 = 0 then
    if (M.2 a0 4) = 0 then
      some M
    else
    k0 M
  else
  some M

def m_X8_readsDeclarations_L67 (a0 : Nat) (x1 : Int32) (k0 : Mem → Option Mem) (M : Mem) (x2 : Int32) (s0 : Int32) (g1 : Nat) : Option Mem :=
  b2 (m_X8_takes M g1 s0) fun r11 M11 =>
  (m_X8_isWell M11 a0).bind fun r12 =>
  if r12 = 0 then
    m_X8_readsDeclarations_L137 a0 x1 k0 M11
  else
  (rf 10 M11 a0 9).bind fun a13 =>
  (ra M11 a13 ((92 : Int32) + x1)).bind fun v14 =>
  (wa M11 a13 ((92 : Int32) + x1) (v14 ||| ((1 : Int32) <<< (x2 &&& 31)))).bind fun M15 =>
  (rf 10 M15 a0 9).bind fun a16 =>
  (wa M15 a16 (((108 : Int32) + ((4 : Int32) * x1)) + x2) r11).bind fun M17 =>
  (m_X8_isThis M17 a0 (33 : Int32)).bind fun r18 =>
  if r18 = 0 then
    m_X8_readsDeclarations_L137 a0 x1 k0 M17
  else
  b2 (m_X8_takes M17 a0 (1 : Int32)) fun r19 M19 =>
  (rf 10 M19 a0 9).bind fun a20 =>
  (ra M19 a20 ((100 : Int32) + x1)).bind fun v21 =>
  (wa M19 a20 ((100 : Int32) + x1) (v21 ||| ((1 : Int32) <<< (x2 &&& 31)))).bind fun M22 =>
  m_X8_readsDeclarations_L137 a0 x1 k0 M22

def m_X8_readsDeclarations_L39 (a0 : Nat) (x1 : Int32) (k0 : Mem → Option Mem) (M : Mem) (s0 : Int32) (g1 : Nat) : Option Mem :=
  b2 (m_X8_takes M g1 s0) fun r11 M11 =>
  (m_X8_isWell M11 a0).bind fun r12 =>
  if r12 = 0 then
    m_X8_readsDeclarations_L67 a0 x1 k0 M11 (r11 - (119 : Int32)) (0 : Int32) a0
  else
  if (M11.2 a0 4) = (2 : Int32) then
    m_X8_readsDeclarations_L67 a0 x1 k0 M11 (r11 - (119 : Int32)) (1 : Int32) a0
  else
  m_X8_readsDeclarations_L67 a0 x1 k0 M11 (r11 - (119 : Int32)) (0 : Int32) a0

def m_X8_readsDeclarations_L0 (a0 : Nat) (x1 : Int32) : Nat → Mem → Option Mem
  | 0, _ => none
  | fu + 1, M =>
    (m_X8_isFrom M a0 (119 : Int32) (122 : Int32)).bind fun r11 =>
    if r11 = 0 then
      m_X8_readsDeclarations_L39 a0 x1 (fun z0 => m_X8_readsDeclarations_L0 a0 x1 fu z0) M (0 : Int32) a0
    else
    (rf 10 M a0 9).bind fun a12 =>
    (ra M a12 ((92 : Int32) + x1)).bind fun v13 =>
    (m_X8_has v13 ((M.2 a0 6) - (119 : Int32))).bind fun r14 =>
    if r14 = 0 then
      m_X8_readsDeclarations_L39 a0 x1 (fun z0 => m_X8_readsDeclarations_L0 a0 x1 fu z0) M (1 : Int32) a0
    else
    m_X8_readsDeclarations_L39 a0 x1 (fun z0 => m_X8_readsDeclarations_L0 a0 x1 fu z0) M (0 : Int32) a0

def m_X8_readsDeclarations (M : Mem) (a0 : Nat) (x1 : Int32) : Option Mem :=
  m_X8_readsDeclarations_L0 a0 x1 FU M

def m_X8_readsRule_L75 (a0 : Nat) (k46 : Mem → Int32 → Int32 → Option Mem) (M : Mem) (x1 : Int32) (x2 : Int32) (s0 : Int32) (g1 : Nat) : Option Mem :=
  b2 (m_X8_takes M g1 s0) fun r11 M11 =>
  (m_X8_isWell M11 a0).bind fun r12 =>
  if r12 = 0 then
    k46 M11 x1 x2
  else
  (rf 10 M11 a0 9).bind fun a13 =>
  (wa M11 a13 (((68 : Int32) + ((3 : Int32) * x1)) + x2) r11).bind fun M14 =>
  (m_X8_readsCompound M14 a0 (((3 : Int32) * x1) + x2)).bind fun M15 =>
  k46 M15 x1 (x2 + (1 : Int32))

def m_X8_readsRule_L46 (a0 : Nat) : Nat → Mem → Int32 → Int32 → Option Mem
  | 0, _, _, _ => none
  | fu + 1, M, x1, x2 =>
    (m_X8_isThis M a0 (62 : Int32)).bind fun r11 =>
    if r11 = 0 then
      (m_X8_isThis M a0 (47 : Int32)).bind fun r12 =>
      if r12 = 0 then
        (rf 10 M a0 9).bind fun a13 =>
        (wa M a13 ((12 : Int32) + x1) x2).bind fun M14 =>
        (m_X8_isThis M14 a0 (58 : Int32)).bind fun r15 =>
        b2 (m_X8_takes M14 a0 r15) fun r16 M16 =>
        (m_X8_isWell M16 a0).bind fun r17 =>
        if r17 = 0 then
          (rf 10 M16 a0 9).bind fun a18 =>
          (ra M16 a18 (1 : Int32)).bind fun v19 =>
          (wa M16 a18 (1 : Int32) (v19 + (1 : Int32))).bind fun M20 =>
          some M20
        else
        (m_X8_readsDeclarations M16 a0 x1).bind fun M21 =>
        (rf 10 M21 a0 9).bind fun a22 =>
        (ra M21 a22 (1 : Int32)).bind fun v23 =>
        (wa M21 a22 (1 : Int32) (v23 + (1 : Int32))).bind fun M24 =>
        some M24
      else
      if (3 : Int32) ≤ x2 then
        m_X8_readsRule_L75 a0 (fun z0 z1 z2 => m_X8_readsRule_L46 a0 fu z0 z1 z2) M x1 x2 (0 : Int32) a0
      else
      m_X8_readsRule_L75 a0 (fun z0 z1 z2 => m_X8_readsRule_L46 a0 fu z0 z1 z2) M x1 x2 (1 : Int32) a0
    else
    if (3 : Int32) ≤ x2 then
      m_X8_readsRule_L75 a0 (fun z0 z1 z2 => m_X8_readsRule_L46 a0 fu z0 z1 z2) M x1 x2 (0 : Int32) a0
    else
    m_X8_readsRule_L75 a0 (fun z0 z1 z2 => m_X8_readsRule_L46 a0 fu z0 z1 z2) M x1 x2 (1 : Int32) a0

def m_X8_readsRule (M : Mem) (a0 : Nat) : Option Mem :=
  (rf 10 M a0 9).bind fun a11 =>
  (ra M a11 (1 : Int32)).bind fun v12 =>
  (m_X8_isThis M a0 (85 : Int32)).bind fun r13 =>
  if r13 = 0 then
    (m_X8_readsCompound M a0 ((3 : Int32) * v12)).bind fun M14 =>
    m_X8_readsRule_L46 a0 FU M14 v12 ((0 : Int32) + (1 : Int32))
  else
  b2 (m_X8_takes M a0 (1 : Int32)) fun r15 M15 =>
  (rf 10 M15 a0 9).bind fun a16 =>
  (ra M15 a16 (2 : Int32)).bind fun v17 =>
  (wa M15 a16 (2 : Int32) (v17 ||| ((1 : Int32) <<< (v12 &&& 31)))).bind fun M18 =>
  (m_X8_readsCompound M18 a0 ((3 : Int32) * v12)).bind fun M19 =>
  m_X8_readsRule_L46 a0 FU M19 v12 ((0 : Int32) + (1 : Int32))

def m_X8_settles_L29 (a0 : Nat) : Nat → Mem → Int32 → Option Mem
  | 0, _, _ => none
  | fu + 1, M, x1 =>
    if (19 : Int32) ≤ x1 then
      (pI M a0 2 (0 : Int32)).bind fun M11 =>
      (pI M11 a0 19 (0 : Int32)).bind fun M12 =>
      (pI M12 a0 13 (0 : Int32)).bind fun M13 =>
      (rf 12 M13 a0 15).bind fun a14 =>
      (wa M13 a14 (0 : Int32) (vp_nar .boolean (0 : Int32))).bind fun M15 =>
      (rf 12 M15 a0 15).bind fun a16 =>
      (wa M15 a16 (1 : Int32) (vp_nar .boolean (0 : Int32))).bind fun M17 =>
      some M17
    else
    (rf 10 M a0 11).bind fun a18 =>
    (rf 10 M a0 10).bind fun a19 =>
    (ra M a19 x1).bind fun v20 =>
    (wa M a18 x1 v20).bind fun M21 =>
    m_X8_settles_L29 a0 fu M21 (x1 + (1 : Int32))

def m_X8_settles_L2 (a0 : Nat) : Nat → Mem → Int32 → Option Mem
  | 0, _, _ => none
  | fu + 1, M, x1 =>
    if (140 : Int32) ≤ x1 then
      m_X8_settles_L29 a0 FU M (0 : Int32)
    else
    (rf 10 M a0 8).bind fun a11 =>
    (rf 10 M a0 9).bind fun a12 =>
    (ra M a12 x1).bind fun v13 =>
    (wa M a11 x1 v13).bind fun M14 =>
    m_X8_settles_L2 a0 fu M14 (x1 + (1 : Int32))

def m_X8_settles (M : Mem) (a0 : Nat) : Option Mem :=
  m_X8_settles_L2 a0 FU M (0 : Int32)

def m_X8_page_L137 (a0 : Nat) (M : Mem) (x1 : Int32) : Option (Int32 × Mem) :=
  (m_X8_isWell M a0).bind fun r11 =>
  if r11 = 0 then
    some (((-10 : Int32) - (M.2 a0 7)), M)
  else
  (rf 10 M a0 10).bind fun a12 =>
  (rf 10 M a0 9).bind fun a13 =>
  (ra M a13 (1 : Int32)).bind fun v14 =>
  (wa M a12 (18 : Int32) (((1 : Int32) <<< (v14 &&& 31)) - (1 : Int32))).bind fun M15 =>
  (m_X8_settles M15 a0).bind fun M16 =>
  some (x1, M16)

def m_X8_page_L109 (a0 : Nat) (k25 : Mem → Int32 → Option (Int32 × Mem)) (M : Mem) (x1 : Int32) : Option (Int32 × Mem) :=
  (m_X8_isWell M a0).bind fun r11 =>
  if r11 = 0 then
    (m_X8_isThis M a0 (59 : Int32)).bind fun r12 =>
    b2 (m_X8_takes M a0 r12) fun r13 M13 =>
    k25 M13 (x1 + (1 : Int32))
  else
  (m_X8_readsRule M a0).bind fun M14 =>
  (m_X8_isThis M14 a0 (59 : Int32)).bind fun r15 =>
  b2 (m_X8_takes M14 a0 r15) fun r16 M16 =>
  k25 M16 (x1 + (1 : Int32))

def m_X8_page_L85 (a0 : Nat) (k25 : Mem → Int32 → Option (Int32 × Mem)) (M : Mem) (x1 : Int32) (s0 : Int32) (g1 : Nat) : Option (Int32 × Mem) :=
  b2 (m_X8_takes M g1 s0) fun r11 M11 =>
  (m_X8_isWell M11 a0).bind fun r12 =>
  if r12 = 0 then
    m_X8_page_L109 a0 k25 M11 x1
  else
  if r11 = (78 : Int32) then
    (m_X8_readsNode M11 a0).bind fun M13 =>
    (m_X8_isThis M13 a0 (59 : Int32)).bind fun r14 =>
    b2 (m_X8_takes M13 a0 r14) fun r15 M15 =>
    k25 M15 (x1 + (1 : Int32))
  else
  m_X8_page_L109 a0 k25 M11 x1

def m_X8_page_L60 (a0 : Nat) (k25 : Mem → Int32 → Option (Int32 × Mem)) (M : Mem) (x1 : Int32) (g0 : Nat) : Option (Int32 × Mem) :=
  (m_X8_isThis M a0 (82 : Int32)).bind fun r11 =>
  if r11 = 0 then
    m_X8_page_L85 a0 k25 M x1 (0 : Int32) g0
  else
  (rf 10 M a0 9).bind fun a12 =>
  (ra M a12 (1 : Int32)).bind fun v13 =>
  if (8 : Int32) ≤ v13 then
    m_X8_page_L85 a0 k25 M x1 (0 : Int32) g0
  else
  m_X8_page_L85 a0 k25 M x1 (1 : Int32) g0

def m_X8_page_L25 (a0 : Nat) : Nat → Mem → Int32 → Option (Int32 × Mem)
  | 0, _, _ => none
  | fu + 1, M, x1 =>
    (m_X8_isWell M a0).bind fun r11 =>
    if r11 = 0 then
      m_X8_page_L137 a0 M x1
    else
    if (M.2 a0 4) = 0 then
      m_X8_page_L137 a0 M x1
    else
    (m_X8_isThis M a0 (78 : Int32)).bind fun r12 =>
    if r12 = 0 then
      m_X8_page_L60 a0 (fun z0 z1 => m_X8_page_L25 a0 fu z0 z1) M x1 a0
    else
    (rf 10 M a0 9).bind fun a13 =>
    (ra M a13 (0 : Int32)).bind fun v14 =>
    if v14 < (9 : Int32) then
      m_X8_page_L85 a0 (fun z0 z1 => m_X8_page_L25 a0 fu z0 z1) M x1 (1 : Int32) a0
    else
    m_X8_page_L60 a0 (fun z0 z1 => m_X8_page_L25 a0 fu z0 z1) M x1 a0

def m_X8_page (M : Mem) (a0 : Nat) : Option (Int32 × Mem) :=
  (pI M a0 0 (0 : Int32)).bind fun M11 =>
  (pI M11 a0 7 (-1 : Int32)).bind fun M12 =>
  (pI M12 a0 3 (0 : Int32)).bind fun M13 =>
  (m_X8_begins M13 a0).bind fun M14 =>
  (m_X8_advances M14 a0).bind fun M15 =>
  m_X8_page_L25 a0 FU M15 (0 : Int32)

def m_X8_isNode (M : Mem) (a0 : Nat) (x1 : Int32) : Option Int32 :=
  (rf 10 M a0 8).bind fun a11 =>
  (ra M a11 (0 : Int32)).bind fun v12 =>
  (m_X8_in x1 (0 : Int32) (v12 - (1 : Int32))).bind fun r13 =>
  (bz r13).bind fun _ => some r13

def m_X8_isRule (M : Mem) (a0 : Nat) (x1 : Int32) : Option Int32 :=
  (rf 10 M a0 8).bind fun a11 =>
  (ra M a11 (1 : Int32)).bind fun v12 =>
  (m_X8_in x1 (0 : Int32) (v12 - (1 : Int32))).bind fun r13 =>
  (bz r13).bind fun _ => some r13

def m_X8_isFour (x0 : Int32) : Option Int32 :=
  (m_X8_in x0 (0 : Int32) (3 : Int32)).bind fun r11 =>
  (bz r11).bind fun _ => some r11

def m_X8_fits_L28 (M : Mem) (a0 : Nat) (x1 : Int32) (x2 : Int32) : Option Int32 :=
  (rf 10 M a0 8).bind fun a11 =>
  (ra M a11 ((44 : Int32) + x1)).bind fun v12 =>
  (rf 10 M a0 11).bind fun a13 =>
  (ra M a13 ((9 : Int32) + x2)).bind fun v14 =>
  if (v12 &&& (v14 ^^^ (-1 : Int32))) = 0 then
    some (1 : Int32)
  else
  some (0 : Int32)

def m_X8_fits (M : Mem) (a0 : Nat) (x1 : Int32) (x2 : Int32) : Option Int32 :=
  (rf 10 M a0 8).bind fun a11 =>
  (ra M a11 ((20 : Int32) + x1)).bind fun v12 =>
  if v12 = (-9 : Int32) then
    m_X8_fits_L28 M a0 x1 x2
  else
  (rf 10 M a0 11).bind fun a13 =>
  (ra M a13 ((0 : Int32) + x2)).bind fun v14 =>
  if v12 = v14 then
    m_X8_fits_L28 M a0 x1 x2
  else
  some (0 : Int32)

def m_X8_matching_L87 (M : Mem) (a0 : Nat) (x1 : Int32) (x2 : Int32) (k5 : Int32 → Int32 → Option Int32) (k17 : Int32 → Int32 → Int32 → Int32 → Option Int32) (k61 : Int32 → Int32 → Int32 → Int32 → Int32 → Int32 → Option Int32) (x3 : Int32) (x4 : Int32) (x5 : Int32) (x6 : Int32) (x8 : Int32) (s0 : Int32) : Option Int32 :=
  (rf 10 M a0 8).bind fun a11 =>
  (ra M a11 (((68 : Int32) + ((3 : Int32) * x1)) + x4)).bind fun v12 =>
  if v12 = (62 : Int32) then
    k61 x3 x4 x5 x6 s0 (-9 : Int32)
  else
  (rf 10 M a0 8).bind fun a13 =>
  (ra M a13 ((3 : Int32) + x8)).bind fun v14 =>
  k61 x3 x4 x5 x6 s0 v14

def m_X8_matching_L61 (M : Mem) (a0 : Nat) (x1 : Int32) (x2 : Int32) (k5 : Int32 → Int32 → Option Int32) (k17 : Int32 → Int32 → Int32 → Int32 → Option Int32) : Nat → Int32 → Int32 → Int32 → Int32 → Int32 → Int32 → Option Int32
  | 0, _, _, _, _, _, _ => none
  | fu + 1, x3, x4, x5, x6, x7, x8 =>
    if x8 = (-9 : Int32) then
      if x7 = 0 then
        k17 x3 x4 (x5 ||| (0 : Int32)) (x6 + (1 : Int32))
      else
      (m_X8_fits M a0 (((3 : Int32) * x1) + x4) x6).bind fun r11 =>
      if r11 = 0 then
        k17 x3 x4 (x5 ||| (0 : Int32)) (x6 + (1 : Int32))
      else
      k17 x3 x4 (x5 ||| ((1 : Int32) <<< (x6 &&& 31))) (x6 + (1 : Int32))
    else
    if x7 = 0 then
      (m_X8_has x3 x8).bind fun r12 =>
      if r12 = 0 then
        m_X8_matching_L87 M a0 x1 x2 k5 k17 (fun z0 z1 z2 z3 z4 z5 => m_X8_matching_L61 M a0 x1 x2 k5 k17 fu z0 z1 z2 z3 z4 z5) x3 x4 x5 x6 x8 (0 : Int32)
      else
      m_X8_matching_L87 M a0 x1 x2 k5 k17 (fun z0 z1 z2 z3 z4 z5 => m_X8_matching_L61 M a0 x1 x2 k5 k17 fu z0 z1 z2 z3 z4 z5) x3 x4 x5 x6 x8 (1 : Int32)
    else
    m_X8_matching_L87 M a0 x1 x2 k5 k17 (fun z0 z1 z2 z3 z4 z5 => m_X8_matching_L61 M a0 x1 x2 k5 k17 fu z0 z1 z2 z3 z4 z5) x3 x4 x5 x6 x8 (1 : Int32)

def m_X8_matching_L38 (M : Mem) (a0 : Nat) (x1 : Int32) (x2 : Int32) (k5 : Int32 → Int32 → Option Int32) (k17 : Int32 → Int32 → Int32 → Int32 → Option Int32) (x3 : Int32) (x4 : Int32) (x5 : Int32) (x6 : Int32) (s0 : Int32) : Option Int32 :=
  if x4 = 0 then
    m_X8_matching_L61 M a0 x1 x2 k5 k17 FU x3 x4 x5 x6 s0 (-9 : Int32)
  else
  (rf 10 M a0 8).bind fun a11 =>
  (ra M a11 ((3 : Int32) + x6)).bind fun v12 =>
  m_X8_matching_L61 M a0 x1 x2 k5 k17 FU x3 x4 x5 x6 s0 v12

def m_X8_matching_L17 (M : Mem) (a0 : Nat) (x1 : Int32) (x2 : Int32) (k5 : Int32 → Int32 → Option Int32) : Nat → Int32 → Int32 → Int32 → Int32 → Option Int32
  | 0, _, _, _, _ => none
  | fu + 1, x3, x4, x5, x6 =>
    (rf 10 M a0 8).bind fun a11 =>
    (ra M a11 (0 : Int32)).bind fun v12 =>
    if v12 ≤ x6 then
      k5 x5 (x4 + (1 : Int32))
    else
    if x4 = 0 then
      m_X8_matching_L38 M a0 x1 x2 k5 (fun z0 z1 z2 z3 => m_X8_matching_L17 M a0 x1 x2 k5 fu z0 z1 z2 z3) x3 x4 x5 x6 (1 : Int32)
    else
    m_X8_matching_L38 M a0 x1 x2 k5 (fun z0 z1 z2 z3 => m_X8_matching_L17 M a0 x1 x2 k5 fu z0 z1 z2 z3) x3 x4 x5 x6 (0 : Int32)

def m_X8_matching_L5 (M : Mem) (a0 : Nat) (x1 : Int32) (x2 : Int32) : Nat → Int32 → Int32 → Option Int32
  | 0, _, _ => none
  | fu + 1, x3, x4 =>
    if x2 ≤ x4 then
      some x3
    else
    m_X8_matching_L17 M a0 x1 x2 (fun z0 z1 => m_X8_matching_L5 M a0 x1 x2 fu z0 z1) FU x3 x4 (0 : Int32) (0 : Int32)

def m_X8_matching (M : Mem) (a0 : Nat) (x1 : Int32) (x2 : Int32) : Option Int32 :=
  m_X8_matching_L5 M a0 x1 x2 FU (0 : Int32) (0 : Int32)

def m_X8_fills_L2 (a0 : Nat) : Nat → Mem → Int32 → Option Mem
  | 0, _, _ => none
  | fu + 1, M, x1 =>
    (rf 10 M a0 8).bind fun a11 =>
    (ra M a11 (1 : Int32)).bind fun v12 =>
    if v12 ≤ x1 then
      some M
    else
    (rf 10 M a0 21).bind fun a13 =>
    (rf 10 M a0 11).bind fun a14 =>
    (ra M a14 (18 : Int32)).bind fun v15 =>
    (m_X8_has v15 x1).bind fun r16 =>
    if r16 = 0 then
      (wa M a13 x1 (0 : Int32)).bind fun M17 =>
      m_X8_fills_L2 a0 fu M17 (x1 + (1 : Int32))
    else
    (rf 10 M a0 8).bind fun a18 =>
    (ra M a18 ((12 : Int32) + x1)).bind fun v19 =>
    (m_X8_matching M a0 x1 v19).bind fun r20 =>
    (wa M a13 x1 r20).bind fun M21 =>
    m_X8_fills_L2 a0 fu M21 (x1 + (1 : Int32))

def m_X8_fills (M : Mem) (a0 : Nat) : Option Mem :=
  m_X8_fills_L2 a0 FU M (0 : Int32)

def m_X8_rulesOf_L4 (M : Mem) (a0 : Nat) (x1 : Int32) : Nat → Int32 → Int32 → Option Int32
  | 0, _, _ => none
  | fu + 1, x2, x3 =>
    (rf 10 M a0 8).bind fun a11 =>
    (ra M a11 (1 : Int32)).bind fun v12 =>
    if v12 ≤ x3 then
      some x2
    else
    (rf 10 M a0 21).bind fun a13 =>
    (ra M a13 x3).bind fun v14 =>
    (m_X8_has v14 x1).bind fun r15 =>
    if r15 = 0 then
      m_X8_rulesOf_L4 M a0 x1 fu (x2 ||| (0 : Int32)) (x3 + (1 : Int32))
    else
    m_X8_rulesOf_L4 M a0 x1 fu (x2 ||| ((1 : Int32) <<< (x3 &&& 31))) (x3 + (1 : Int32))

def m_X8_rulesOf (M : Mem) (a0 : Nat) (x1 : Int32) : Option Int32 :=
  m_X8_rulesOf_L4 M a0 x1 FU (0 : Int32) (0 : Int32)

def m_X8_below_L45 (M : Mem) (a0 : Nat) (x1 : Int32) (k4 : Int32 → Int32 → Option Int32) (k24 : Int32 → Int32 → Int32 → Option Int32) (x3 : Int32) (x4 : Int32) (s0 : Int32) (s1 : Int32) : Option Int32 :=
  (rf 10 M a0 8).bind fun a11 =>
  (ra M a11 ((3 : Int32) + x4)).bind fun v12 =>
  k24 (s1 ||| s0) x3 v12

def m_X8_below_L24 (M : Mem) (a0 : Nat) (x1 : Int32) (k4 : Int32 → Int32 → Option Int32) : Nat → Int32 → Int32 → Int32 → Option Int32
  | 0, _, _, _ => none
  | fu + 1, x2, x3, x4 =>
    if x4 = (-9 : Int32) then
      k4 x2 (x3 + (1 : Int32))
    else
    if x4 = x1 then
      m_X8_below_L45 M a0 x1 k4 (fun z0 z1 z2 => m_X8_below_L24 M a0 x1 k4 fu z0 z1 z2) x3 x4 ((1 : Int32) <<< (x3 &&& 31)) x2
    else
    m_X8_below_L45 M a0 x1 k4 (fun z0 z1 z2 => m_X8_below_L24 M a0 x1 k4 fu z0 z1 z2) x3 x4 (0 : Int32) x2

def m_X8_below_L4 (M : Mem) (a0 : Nat) (x1 : Int32) : Nat → Int32 → Int32 → Option Int32
  | 0, _, _ => none
  | fu + 1, x2, x3 =>
    (rf 10 M a0 8).bind fun a11 =>
    (ra M a11 (0 : Int32)).bind fun v12 =>
    if v12 ≤ x3 then
      some x2
    else
    (rf 10 M a0 8).bind fun a13 =>
    (ra M a13 ((3 : Int32) + x3)).bind fun v14 =>
    m_X8_below_L24 M a0 x1 (fun z0 z1 => m_X8_below_L4 M a0 x1 fu z0 z1) FU x2 x3 v14

def m_X8_below (M : Mem) (a0 : Nat) (x1 : Int32) : Option Int32 :=
  m_X8_below_L4 M a0 x1 FU (0 : Int32) (0 : Int32)

def m_X8_specific_L4 (M : Mem) (a0 : Nat) (x1 : Int32) : Nat → Int32 → Int32 → Option Int32
  | 0, _, _ => none
  | fu + 1, x2, x3 =>
    (rf 10 M a0 8).bind fun a11 =>
    (ra M a11 ((12 : Int32) + x1)).bind fun v12 =>
    if v12 ≤ x3 then
      some x2
    else
    (rf 10 M a0 8).bind fun a13 =>
    (ra M a13 (((44 : Int32) + ((3 : Int32) * x1)) + x3)).bind fun v14 =>
    (m_X8_ones v14).bind fun r15 =>
    (rf 10 M a0 8).bind fun a16 =>
    (ra M a16 (((20 : Int32) + ((3 : Int32) * x1)) + x3)).bind fun v17 =>
    if v17 = (-9 : Int32) then
      m_X8_specific_L4 M a0 x1 fu (x2 + (((10 : Int32) * r15) + (0 : Int32))) (x3 + (1 : Int32))
    else
    m_X8_specific_L4 M a0 x1 fu (x2 + (((10 : Int32) * r15) + (1 : Int32))) (x3 + (1 : Int32))

def m_X8_specific (M : Mem) (a0 : Nat) (x1 : Int32) : Option Int32 :=
  m_X8_specific_L4 M a0 x1 FU (0 : Int32) (0 : Int32)

def m_X8_heightOf_L48 (M : Mem) (a0 : Nat) (x1 : Int32) (x2 : Int32) (s0 : Int32) : Option Int32 :=
  (m_X8_specific M a0 x1).bind fun r11 =>
  some ((((10000 : Int32) * s0) + ((10 : Int32) * r11)) + x1)

def m_X8_heightOf (M : Mem) (a0 : Nat) (x1 : Int32) (x2 : Int32) : Option Int32 :=
  (rf 10 M a0 8).bind fun a11 =>
  (ra M a11 (2 : Int32)).bind fun v12 =>
  (m_X8_has v12 x1).bind fun r13 =>
  (rf 10 M a0 8).bind fun a14 =>
  (ra M a14 ((100 : Int32) + x1)).bind fun v15 =>
  (m_X8_has v15 x2).bind fun r16 =>
  if r16 = 0 then
    if r13 = 0 then
      m_X8_heightOf_L48 M a0 x1 x2 (1 : Int32)
    else
    m_X8_heightOf_L48 M a0 x1 x2 (0 : Int32)
  else
  if r13 = 0 then
    m_X8_heightOf_L48 M a0 x1 x2 (2 : Int32)
  else
  m_X8_heightOf_L48 M a0 x1 x2 (3 : Int32)

def m_X8_winnerOf_L97 (M : Mem) (a0 : Nat) (x1 : Int32) (x2 : Int32) (x3 : Int32) (k77 : Int32 → Int32 → Int32 → Option Int32) : Nat → Int32 → Int32 → Int32 → Int32 → Option Int32
  | 0, _, _, _, _ => none
  | fu + 1, x4, x6, x7, x8 =>
    (rf 10 M a0 8).bind fun a11 =>
    (ra M a11 (1 : Int32)).bind fun v12 =>
    if v12 ≤ x8 then
      if x6 = (-9 : Int32) then
        k77 (x4 &&& x4) x6 (x7 + (1 : Int32))
      else
      k77 (x4 &&& (((1 : Int32) <<< (x6 &&& 31)) ^^^ (-1 : Int32))) x6 (x7 + (1 : Int32))
    else
    (m_X8_has x4 x8).bind fun r13 =>
    if r13 = 0 then
      m_X8_winnerOf_L97 M a0 x1 x2 x3 k77 fu x4 x6 x7 (x8 + (1 : Int32))
    else
    if x6 = (-9 : Int32) then
      m_X8_winnerOf_L97 M a0 x1 x2 x3 k77 fu x4 x8 x7 (x8 + (1 : Int32))
    else
    (m_X8_heightOf M a0 x8 x2).bind fun r14 =>
    (m_X8_heightOf M a0 x6 x2).bind fun r15 =>
    if r14 ≤ r15 then
      m_X8_winnerOf_L97 M a0 x1 x2 x3 k77 fu x4 x6 x7 (x8 + (1 : Int32))
    else
    m_X8_winnerOf_L97 M a0 x1 x2 x3 k77 fu x4 x8 x7 (x8 + (1 : Int32))

def m_X8_winnerOf_L77 (M : Mem) (a0 : Nat) (x1 : Int32) (x2 : Int32) (x3 : Int32) : Nat → Int32 → Int32 → Int32 → Option Int32
  | 0, _, _, _ => none
  | fu + 1, x4, x6, x7 =>
    if x3 < x7 then
      if x3 ≤ (8 : Int32) then
        some x6
      else
      some (-9 : Int32)
    else
    if (9 : Int32) ≤ x7 then
      if x3 ≤ (8 : Int32) then
        some x6
      else
      some (-9 : Int32)
    else
    m_X8_winnerOf_L97 M a0 x1 x2 x3 (fun z0 z1 z2 => m_X8_winnerOf_L77 M a0 x1 x2 x3 fu z0 z1 z2) FU x4 (-9 : Int32) x7 (0 : Int32)

def m_X8_winnerOf_L13 (M : Mem) (a0 : Nat) (x1 : Int32) (x2 : Int32) (x3 : Int32) : Nat → Int32 → Int32 → Int32 → Option Int32
  | 0, _, _, _ => none
  | fu + 1, x4, x5, x6 =>
    (rf 10 M a0 8).bind fun a11 =>
    (ra M a11 (1 : Int32)).bind fun v12 =>
    if v12 ≤ x6 then
      m_X8_winnerOf_L77 M a0 x1 x2 x3 FU x4 (-9 : Int32) (0 : Int32)
    else
    (m_X8_has x5 x6).bind fun r13 =>
    if r13 = 0 then
      m_X8_winnerOf_L13 M a0 x1 x2 x3 fu (x4 ||| (0 : Int32)) x5 (x6 + (1 : Int32))
    else
    (rf 10 M a0 8).bind fun a14 =>
    (ra M a14 ((92 : Int32) + x6)).bind fun v15 =>
    (m_X8_has v15 x2).bind fun r16 =>
    if r16 = 0 then
      m_X8_winnerOf_L13 M a0 x1 x2 x3 fu (x4 ||| (0 : Int32)) x5 (x6 + (1 : Int32))
    else
    m_X8_winnerOf_L13 M a0 x1 x2 x3 fu (x4 ||| ((1 : Int32) <<< (x6 &&& 31))) x5 (x6 + (1 : Int32))

def m_X8_winnerOf (M : Mem) (a0 : Nat) (x1 : Int32) (x2 : Int32) (x3 : Int32) : Option Int32 :=
  (m_X8_rulesOf M a0 x1).bind fun r11 =>
  m_X8_winnerOf_L13 M a0 x1 x2 x3 FU (0 : Int32) r11 (0 : Int32)

def m_X8_sourceOf_L2 (M : Mem) (a0 : Nat) (x1 : Int32) (x2 : Int32) : Nat → Int32 → Option Int32
  | 0, _ => none
  | fu + 1, x3 =>
    if x3 = (-9 : Int32) then
      some x3
    else
    (m_X8_winnerOf M a0 x3 x2 (0 : Int32)).bind fun r11 =>
    if r11 = (-9 : Int32) then
      if (2 : Int32) ≤ x2 then
        m_X8_sourceOf_L2 M a0 x1 x2 fu (-9 : Int32)
      else
      (rf 10 M a0 8).bind fun a12 =>
      (ra M a12 ((3 : Int32) + x3)).bind fun v13 =>
      m_X8_sourceOf_L2 M a0 x1 x2 fu v13
    else
    some x3

def m_X8_sourceOf (M : Mem) (a0 : Nat) (x1 : Int32) (x2 : Int32) : Option Int32 :=
  m_X8_sourceOf_L2 M a0 x1 x2 FU x1

def m_X8_valueOf (M : Mem) (a0 : Nat) (x1 : Int32) (x2 : Int32) : Option Int32 :=
  (m_X8_sourceOf M a0 x1 x2).bind fun r11 =>
  if r11 = (-9 : Int32) then
    some (0 : Int32)
  else
  (rf 10 M a0 8).bind fun a12 =>
  (m_X8_winnerOf M a0 r11 x2 (0 : Int32)).bind fun r13 =>
  (ra M a12 (((108 : Int32) + ((4 : Int32) * r13)) + x2)).bind fun v14 =>
  some v14

def m_X8_isLike_L5 (M : Mem) (a0 : Nat) (x1 : Int32) (x2 : Int32) : Nat → Int32 → Int32 → Option Int32
  | 0, _, _ => none
  | fu + 1, x3, x4 =>
    if (4 : Int32) ≤ x4 then
      (bz x3).bind fun _ => some x3
    else
    if x3 = 0 then
      m_X8_isLike_L5 M a0 x1 x2 fu (0 : Int32) (x4 + (1 : Int32))
    else
    (m_X8_valueOf M a0 x1 x4).bind fun r11 =>
    (m_X8_valueOf M a0 x2 x4).bind fun r12 =>
    if r11 = r12 then
      m_X8_isLike_L5 M a0 x1 x2 fu (1 : Int32) (x4 + (1 : Int32))
    else
    m_X8_isLike_L5 M a0 x1 x2 fu (0 : Int32) (x4 + (1 : Int32))

def m_X8_isLike (M : Mem) (a0 : Nat) (x1 : Int32) (x2 : Int32) : Option Int32 :=
  m_X8_isLike_L5 M a0 x1 x2 FU (1 : Int32) (0 : Int32)

def m_X8_recordOf_L2 (M : Mem) (a0 : Nat) (x1 : Int32) : Nat → Int32 → Option Int32
  | 0, _ => none
  | fu + 1, x2 =>
    (m_X8_isLike M a0 x2 x1).bind fun r11 =>
    if r11 = 0 then
      m_X8_recordOf_L2 M a0 x1 fu (x2 + (1 : Int32))
    else
    some x2

def m_X8_recordOf (M : Mem) (a0 : Nat) (x1 : Int32) : Option Int32 :=
  m_X8_recordOf_L2 M a0 x1 FU (0 : Int32)

def m_X8_node (M : Mem) (a0 : Nat) (x1 : Int32) (x2 : Int32) : Option (Int32 × Mem) :=
  (pI M a0 0 (0 : Int32)).bind fun M11 =>
  (m_X8_isNode M11 a0 x1).bind fun r12 =>
  if r12 = 0 then
    some ((-2 : Int32), M11)
  else
  (m_X8_in x2 (0 : Int32) (5 : Int32)).bind fun r13 =>
  if r13 = 0 then
    some ((-2 : Int32), M11)
  else
  if (3 : Int32) ≤ x2 then
    (m_X8_fills M11 a0).bind fun M14 =>
    if x2 = (3 : Int32) then
      (m_X8_rulesOf M14 a0 x1).bind fun r15 =>
      some (r15, M14)
    else
    if x2 = (4 : Int32) then
      (m_X8_recordOf M14 a0 x1).bind fun r16 =>
      some (r16, M14)
    else
    (m_X8_below M14 a0 x1).bind fun r17 =>
    some (r17, M14)
  else
  if x2 = 0 then
    (rf 10 M11 a0 8).bind fun a18 =>
    (ra M11 a18 ((3 : Int32) + x1)).bind fun v19 =>
    some (v19, M11)
  else
  if x2 = (1 : Int32) then
    (rf 10 M11 a0 11).bind fun a20 =>
    (ra M11 a20 ((0 : Int32) + x1)).bind fun v21 =>
    some (v21, M11)
  else
  (rf 10 M11 a0 11).bind fun a22 =>
  (ra M11 a22 ((9 : Int32) + x1)).bind fun v23 =>
  some (v23, M11)

def m_X8_rule (M : Mem) (a0 : Nat) (x1 : Int32) (x2 : Int32) : Option (Int32 × Mem) :=
  (pI M a0 0 (0 : Int32)).bind fun M11 =>
  (m_X8_isRule M11 a0 x1).bind fun r12 =>
  if r12 = 0 then
    some ((-2 : Int32), M11)
  else
  (m_X8_in x2 (0 : Int32) (6 : Int32)).bind fun r13 =>
  if r13 = 0 then
    some ((-2 : Int32), M11)
  else
  if (3 : Int32) ≤ x2 then
    if (5 : Int32) ≤ x2 then
      (m_X8_fills M11 a0).bind fun M14 =>
      if x2 = (5 : Int32) then
        (rf 10 M14 a0 11).bind fun a15 =>
        (ra M14 a15 (18 : Int32)).bind fun v16 =>
        some (((v16 >>> (x1 &&& 31)) &&& (1 : Int32)), M14)
      else
      (rf 10 M14 a0 21).bind fun a17 =>
      (ra M14 a17 x1).bind fun v18 =>
      some (v18, M14)
    else
    if x2 = (3 : Int32) then
      (rf 10 M11 a0 8).bind fun a19 =>
      (ra M11 a19 ((92 : Int32) + x1)).bind fun v20 =>
      some (v20, M11)
    else
    (rf 10 M11 a0 8).bind fun a21 =>
    (ra M11 a21 ((100 : Int32) + x1)).bind fun v22 =>
    some (v22, M11)
  else
  if x2 = 0 then
    (rf 10 M11 a0 8).bind fun a23 =>
    (ra M11 a23 (2 : Int32)).bind fun v24 =>
    some (((v24 >>> (x1 &&& 31)) &&& (1 : Int32)), M11)
  else
  if x2 = (1 : Int32) then
    (rf 10 M11 a0 8).bind fun a25 =>
    (ra M11 a25 ((12 : Int32) + x1)).bind fun v26 =>
    some (v26, M11)
  else
  (m_X8_specific M11 a0 x1).bind fun r27 =>
  some (r27, M11)

def m_X8_notes_L47 (a0 : Nat) : Nat → Mem → Int32 → Option Mem
  | 0, _, _ => none
  | fu + 1, M, x1 =>
    if (19 : Int32) ≤ x1 then
      (pI M a0 13 ((M.2 a0 13) + (1 : Int32))).bind fun M11 =>
      some M11
    else
    (rf 10 M a0 12).bind fun a12 =>
    (rf 10 M a0 11).bind fun a13 =>
    (ra M a13 x1).bind fun v14 =>
    (wa M a12 (((19 : Int32) * (M.2 a0 13)) + x1) v14).bind fun M15 =>
    m_X8_notes_L47 a0 fu M15 (x1 + (1 : Int32))

def m_X8_notes_L11 (a0 : Nat) : Nat → Mem → Int32 → Option Mem
  | 0, _, _ => none
  | fu + 1, M, x1 =>
    if (171 : Int32) ≤ x1 then
      (pI M a0 13 (9 : Int32)).bind fun M11 =>
      m_X8_notes_L47 a0 FU M11 (0 : Int32)
    else
    (rf 10 M a0 12).bind fun a12 =>
    (rf 10 M a0 12).bind fun a13 =>
    (ra M a13 (x1 + (19 : Int32))).bind fun v14 =>
    (wa M a12 x1 v14).bind fun M15 =>
    m_X8_notes_L11 a0 fu M15 (x1 + (1 : Int32))

def m_X8_notes (M : Mem) (a0 : Nat) : Option Mem :=
  if (M.2 a0 13) = (10 : Int32) then
    m_X8_notes_L11 a0 FU M (0 : Int32)
  else
  m_X8_notes_L47 a0 FU M (0 : Int32)

def m_X8_toggles (M : Mem) (a0 : Nat) (x1 : Int32) (x2 : Int32) : Option (Int32 × Mem) :=
  (pI M a0 0 (0 : Int32)).bind fun M11 =>
  (m_X8_isNode M11 a0 x1).bind fun r12 =>
  if r12 = 0 then
    some ((-2 : Int32), M11)
  else
  (m_X8_isFour x2).bind fun r13 =>
  if r13 = 0 then
    some ((-2 : Int32), M11)
  else
  (m_X8_notes M11 a0).bind fun M14 =>
  (rf 10 M14 a0 11).bind fun a15 =>
  (ra M14 a15 ((9 : Int32) + x1)).bind fun v16 =>
  (wa M14 a15 ((9 : Int32) + x1) (v16 ^^^ ((1 : Int32) <<< (x2 &&& 31)))).bind fun M17 =>
  (rf 10 M17 a0 11).bind fun a18 =>
  (ra M17 a18 ((9 : Int32) + x1)).bind fun v19 =>
  some (v19, M17)

def m_X8_tags (M : Mem) (a0 : Nat) (x1 : Int32) (x2 : Int32) : Option (Int32 × Mem) :=
  (pI M a0 0 (0 : Int32)).bind fun M11 =>
  (m_X8_isNode M11 a0 x1).bind fun r12 =>
  if r12 = 0 then
    some ((-2 : Int32), M11)
  else
  (m_X8_isFour x2).bind fun r13 =>
  if r13 = 0 then
    some ((-2 : Int32), M11)
  else
  (rf 10 M11 a0 11).bind fun a14 =>
  (ra M11 a14 ((0 : Int32) + x1)).bind fun v15 =>
  if v15 = x2 then
    some ((-3 : Int32), M11)
  else
  (m_X8_notes M11 a0).bind fun M16 =>
  (rf 10 M16 a0 11).bind fun a17 =>
  (wa M16 a17 ((0 : Int32) + x1) x2).bind fun M18 =>
  some (v15, M18)

def m_X8_switches (M : Mem) (a0 : Nat) (x1 : Int32) : Option (Int32 × Mem) :=
  (pI M a0 0 (0 : Int32)).bind fun M11 =>
  (m_X8_isRule M11 a0 x1).bind fun r12 =>
  if r12 = 0 then
    some ((-2 : Int32), M11)
  else
  (m_X8_notes M11 a0).bind fun M13 =>
  (rf 10 M13 a0 11).bind fun a14 =>
  (ra M13 a14 (18 : Int32)).bind fun v15 =>
  (wa M13 a14 (18 : Int32) (v15 ^^^ ((1 : Int32) <<< (x1 &&& 31)))).bind fun M16 =>
  (rf 10 M16 a0 11).bind fun a17 =>
  (ra M16 a17 (18 : Int32)).bind fun v18 =>
  some (((v18 >>> (x1 &&& 31)) &&& (1 : Int32)), M16)

def m_X8_undo_L27 (a0 : Nat) : Nat → Mem → Int32 → Option (Int32 × Mem)
  | 0, _, _ => none
  | fu + 1, M, x1 =>
    if (19 : Int32) ≤ x1 then
      some ((M.2 a0 13), M)
    else
    (rf 10 M a0 11).bind fun a11 =>
    (rf 10 M a0 12).bind fun a12 =>
    (ra M a12 (((19 : Int32) * (M.2 a0 13)) + x1)).bind fun v13 =>
    (wa M a11 x1 v13).bind fun M14 =>
    m_X8_undo_L27 a0 fu M14 (x1 + (1 : Int32))

def m_X8_undo (M : Mem) (a0 : Nat) : Option (Int32 × Mem) :=
  (pI M a0 0 (0 : Int32)).bind fun M11 =>
  if (M11.2 a0 13) = 0 then
    some ((-3 : Int32), M11)
  else
  (pI M11 a0 13 ((M11.2 a0 13) - (1 : Int32))).bind fun M12 =>
  m_X8_undo_L27 a0 FU M12 (0 : Int32)

def m_X8_value (M : Mem) (a0 : Nat) (x1 : Int32) (x2 : Int32) : Option (Int32 × Mem) :=
  (pI M a0 0 (0 : Int32)).bind fun M11 =>
  (m_X8_fills M11 a0).bind fun M12 =>
  (m_X8_isNode M12 a0 x1).bind fun r13 =>
  if r13 = 0 then
    some ((-2 : Int32), M12)
  else
  (m_X8_isFour x2).bind fun r14 =>
  if r14 = 0 then
    some ((-2 : Int32), M12)
  else
  (m_X8_valueOf M12 a0 x1 x2).bind fun r15 =>
  some (r15, M12)

def m_X8_winner (M : Mem) (a0 : Nat) (x1 : Int32) (x2 : Int32) (x3 : Int32) : Option (Int32 × Mem) :=
  (pI M a0 0 (0 : Int32)).bind fun M11 =>
  (m_X8_fills M11 a0).bind fun M12 =>
  (m_X8_isNode M12 a0 x1).bind fun r13 =>
  if r13 = 0 then
    some ((-2 : Int32), M12)
  else
  (m_X8_isFour x2).bind fun r14 =>
  if r14 = 0 then
    some ((-2 : Int32), M12)
  else
  if x3 < 0 then
    some ((-2 : Int32), M12)
  else
  (m_X8_winnerOf M12 a0 x1 x2 x3).bind fun r15 =>
  some (r15, M12)

def m_X8_source (M : Mem) (a0 : Nat) (x1 : Int32) (x2 : Int32) : Option (Int32 × Mem) :=
  (pI M a0 0 (0 : Int32)).bind fun M11 =>
  (m_X8_fills M11 a0).bind fun M12 =>
  (m_X8_isNode M12 a0 x1).bind fun r13 =>
  if r13 = 0 then
    some ((-2 : Int32), M12)
  else
  (m_X8_isFour x2).bind fun r14 =>
  if r14 = 0 then
    some ((-2 : Int32), M12)
  else
  (m_X8_sourceOf M12 a0 x1 x2).bind fun r15 =>
  some (r15, M12)

def m_X8_lookedAt_L104 (M : Mem) (a0 : Nat) (x1 : Int32) (x2 : Int32) (k12 : Int32 → Int32 → Int32 → Option Int32) (k40 : Int32 → Int32 → Int32 → Int32 → Int32 → Option Int32) : Nat → Int32 → Int32 → Int32 → Int32 → Int32 → Int32 → Option Int32
  | 0, _, _, _, _, _, _ => none
  | fu + 1, x3, x4, x5, x6, x7, x8 =>
    (rf 10 M a0 8).bind fun a11 =>
    (ra M a11 (0 : Int32)).bind fun v12 =>
    if v12 ≤ x8 then
      k40 x3 x4 x5 x6 (x7 + (1 : Int32))
    else
    if x6 ≤ x7 then
      m_X8_lookedAt_L104 M a0 x1 x2 k12 k40 fu (x3 ||| (0 : Int32)) x4 x5 x6 x7 (x8 + (1 : Int32))
    else
    (m_X8_has x4 x8).bind fun r13 =>
    if r13 = 0 then
      m_X8_lookedAt_L104 M a0 x1 x2 k12 k40 fu (x3 ||| (0 : Int32)) x4 x5 x6 x7 (x8 + (1 : Int32))
    else
    (m_X8_fits M a0 (((3 : Int32) * x5) + x6) x8).bind fun r14 =>
    if r14 = 0 then
      m_X8_lookedAt_L104 M a0 x1 x2 k12 k40 fu (x3 ||| (0 : Int32)) x4 x5 x6 x7 (x8 + (1 : Int32))
    else
    m_X8_lookedAt_L104 M a0 x1 x2 k12 k40 fu (x3 ||| ((1 : Int32) <<< (x8 &&& 31))) x4 x5 x6 x7 (x8 + (1 : Int32))

def m_X8_lookedAt_L40 (M : Mem) (a0 : Nat) (x1 : Int32) (x2 : Int32) (k12 : Int32 → Int32 → Int32 → Option Int32) : Nat → Int32 → Int32 → Int32 → Int32 → Int32 → Option Int32
  | 0, _, _, _, _, _ => none
  | fu + 1, x3, x4, x5, x6, x7 =>
    if x6 < x7 then
      k12 x3 x4 (x5 + (1 : Int32))
    else
    (rf 10 M a0 11).bind fun a11 =>
    (ra M a11 (18 : Int32)).bind fun v12 =>
    (m_X8_has v12 x5).bind fun r13 =>
    if r13 = 0 then
      k12 x3 x4 (x5 + (1 : Int32))
    else
    (rf 10 M a0 8).bind fun a14 =>
    (ra M a14 (((44 : Int32) + ((3 : Int32) * x5)) + x7)).bind fun v15 =>
    (m_X8_has v15 x2).bind fun r16 =>
    if r16 = 0 then
      m_X8_lookedAt_L40 M a0 x1 x2 k12 fu x3 x4 x5 x6 (x7 + (1 : Int32))
    else
    if x7 = x6 then
      m_X8_lookedAt_L104 M a0 x1 x2 k12 (fun z0 z1 z2 z3 z4 => m_X8_lookedAt_L40 M a0 x1 x2 k12 fu z0 z1 z2 z3 z4) FU (x3 ||| ((1 : Int32) <<< (x1 &&& 31))) x4 x5 x6 x7 (0 : Int32)
    else
    m_X8_lookedAt_L104 M a0 x1 x2 k12 (fun z0 z1 z2 z3 z4 => m_X8_lookedAt_L40 M a0 x1 x2 k12 fu z0 z1 z2 z3 z4) FU (x3 ||| (0 : Int32)) x4 x5 x6 x7 (0 : Int32)

def m_X8_lookedAt_L12 (M : Mem) (a0 : Nat) (x1 : Int32) (x2 : Int32) : Nat → Int32 → Int32 → Int32 → Option Int32
  | 0, _, _, _ => none
  | fu + 1, x3, x4, x5 =>
    (rf 10 M a0 8).bind fun a11 =>
    (ra M a11 (1 : Int32)).bind fun v12 =>
    if v12 ≤ x5 then
      some x3
    else
    (rf 10 M a0 8).bind fun a13 =>
    (ra M a13 ((12 : Int32) + x5)).bind fun v14 =>
    m_X8_lookedAt_L40 M a0 x1 x2 (fun z0 z1 z2 => m_X8_lookedAt_L12 M a0 x1 x2 fu z0 z1 z2) FU x3 x4 x5 (v14 - (1 : Int32)) (0 : Int32)

def m_X8_lookedAt (M : Mem) (a0 : Nat) (x1 : Int32) (x2 : Int32) : Option Int32 :=
  (m_X8_below M a0 x1).bind fun r11 =>
  m_X8_lookedAt_L12 M a0 x1 x2 FU (0 : Int32) r11 (0 : Int32)

def m_X8_different_L64 (a0 : Nat) (x1 : Int32) (x2 : Int32) : Nat → Mem → Int32 → Int32 → Option (Int32 × Mem)
  | 0, _, _, _ => none
  | fu + 1, M, x3, x4 =>
    (rf 10 M a0 8).bind fun a11 =>
    (ra M a11 (0 : Int32)).bind fun v12 =>
    if ((4 : Int32) * v12) ≤ x4 then
      (rf 10 M a0 11).bind fun a13 =>
      (ra M a13 ((9 : Int32) + x1)).bind fun v14 =>
      (wa M a13 ((9 : Int32) + x1) (v14 ^^^ ((1 : Int32) <<< (x2 &&& 31)))).bind fun M15 =>
      some (x3, M15)
    else
    (nz (4 : Int32)).bind fun _ =>
    (nz (4 : Int32)).bind fun _ =>
    (m_X8_valueOf M a0 (x4 / (4 : Int32)) (x4 - x4 / (4 : Int32) * (4 : Int32))).bind fun r16 =>
    (rf 10 M a0 20).bind fun a17 =>
    (ra M a17 x4).bind fun v18 =>
    if r16 = v18 then
      m_X8_different_L64 a0 x1 x2 fu M (x3 ||| (0 : Int32)) (x4 + (1 : Int32))
    else
    (nz (4 : Int32)).bind fun _ =>
    m_X8_different_L64 a0 x1 x2 fu M (x3 ||| ((1 : Int32) <<< ((x4 / (4 : Int32)) &&& 31))) (x4 + (1 : Int32))

def m_X8_different_L6 (a0 : Nat) (x1 : Int32) (x2 : Int32) : Nat → Mem → Int32 → Option (Int32 × Mem)
  | 0, _, _ => none
  | fu + 1, M, x3 =>
    (rf 10 M a0 8).bind fun a11 =>
    (ra M a11 (0 : Int32)).bind fun v12 =>
    if ((4 : Int32) * v12) ≤ x3 then
      (rf 10 M a0 11).bind fun a13 =>
      (ra M a13 ((9 : Int32) + x1)).bind fun v14 =>
      (wa M a13 ((9 : Int32) + x1) (v14 ^^^ ((1 : Int32) <<< (x2 &&& 31)))).bind fun M15 =>
      (m_X8_fills M15 a0).bind fun M16 =>
      m_X8_different_L64 a0 x1 x2 FU M16 (0 : Int32) (0 : Int32)
    else
    (rf 10 M a0 20).bind fun a17 =>
    (nz (4 : Int32)).bind fun _ =>
    (nz (4 : Int32)).bind fun _ =>
    (m_X8_valueOf M a0 (x3 / (4 : Int32)) (x3 - x3 / (4 : Int32) * (4 : Int32))).bind fun r18 =>
    (wa M a17 x3 r18).bind fun M19 =>
    m_X8_different_L6 a0 x1 x2 fu M19 (x3 + (1 : Int32))

def m_X8_different (M : Mem) (a0 : Nat) (x1 : Int32) (x2 : Int32) : Option (Int32 × Mem) :=
  (m_X8_fills M a0).bind fun M11 =>
  m_X8_different_L6 a0 x1 x2 FU M11 (0 : Int32)

def m_X8_change (M : Mem) (a0 : Nat) (x1 : Int32) (x2 : Int32) (x3 : Int32) : Option (Int32 × Mem) :=
  (pI M a0 0 (0 : Int32)).bind fun M11 =>
  (m_X8_isNode M11 a0 x1).bind fun r12 =>
  if r12 = 0 then
    some ((-2 : Int32), M11)
  else
  (m_X8_isFour x2).bind fun r13 =>
  if r13 = 0 then
    some ((-2 : Int32), M11)
  else
  (m_X8_in x3 (0 : Int32) (1 : Int32)).bind fun r14 =>
  if r14 = 0 then
    some ((-2 : Int32), M11)
  else
  if x3 = 0 then
    (m_X8_lookedAt M11 a0 x1 x2).bind fun r15 =>
    some (r15, M11)
  else
  b2 (m_X8_different M11 a0 x1 x2) fun r16 M16 =>
  some (r16, M16)

def m_X8_valueBy (M : Mem) (a0 : Nat) (x1 : Int32) (x2 : Int32) (x3 : Int32) : Option (Int32 × Mem) :=
  (rf 10 M a0 11).bind fun a11 =>
  (ra M a11 (18 : Int32)).bind fun v12 =>
  (wa M a11 (18 : Int32) (v12 ^^^ ((1 : Int32) <<< (x1 &&& 31)))).bind fun M13 =>
  (m_X8_fills M13 a0).bind fun M14 =>
  (m_X8_valueOf M14 a0 x2 x3).bind fun r15 =>
  (rf 10 M14 a0 11).bind fun a16 =>
  (ra M14 a16 (18 : Int32)).bind fun v17 =>
  (wa M14 a16 (18 : Int32) (v17 ^^^ ((1 : Int32) <<< (x1 &&& 31)))).bind fun M18 =>
  some (r15, M18)

def m_X8_wanted_L144 (a0 : Nat) (x1 : Int32) (x2 : Int32) (x3 : Int32) : Nat → Mem → Int32 → Int32 → Option (Int32 × Mem)
  | 0, _, _, _ => none
  | fu + 1, M, x4, x5 =>
    (rf 10 M a0 8).bind fun a11 =>
    (ra M a11 (1 : Int32)).bind fun v12 =>
    if v12 ≤ x5 then
      some (x4, M)
    else
    if x4 = (-9 : Int32) then
      b2 (m_X8_valueBy M a0 x5 x1 x2) fun r13 M13 =>
      if r13 = x3 then
        m_X8_wanted_L144 a0 x1 x2 x3 fu M13 ((100 : Int32) + x5) (x5 + (1 : Int32))
      else
      m_X8_wanted_L144 a0 x1 x2 x3 fu M13 x4 (x5 + (1 : Int32))
    else
    some (x4, M)

def m_X8_wanted_L112 (a0 : Nat) (x1 : Int32) (x2 : Int32) (x3 : Int32) (k65 : Mem → Int32 → Int32 → Option (Int32 × Mem)) (M : Mem) (x5 : Int32) (s0 : Int32) : Option (Int32 × Mem) :=
  (rf 10 M a0 11).bind fun a11 =>
  (nz (4 : Int32)).bind fun _ =>
  (ra M a11 ((9 : Int32) + (x5 / (4 : Int32)))).bind fun v12 =>
  (nz (4 : Int32)).bind fun _ =>
  (wa M a11 ((9 : Int32) + (x5 / (4 : Int32))) (v12 ^^^ ((1 : Int32) <<< ((x5 - x5 / (4 : Int32) * (4 : Int32)) &&& 31)))).bind fun M13 =>
  k65 M13 s0 (x5 + (-1 : Int32))

def m_X8_wanted_L65 (a0 : Nat) (x1 : Int32) (x2 : Int32) (x3 : Int32) : Nat → Mem → Int32 → Int32 → Option (Int32 × Mem)
  | 0, _, _, _ => none
  | fu + 1, M, x4, x5 =>
    if x5 < 0 then
      m_X8_wanted_L144 a0 x1 x2 x3 FU M x4 (0 : Int32)
    else
    (rf 10 M a0 11).bind fun a11 =>
    (nz (4 : Int32)).bind fun _ =>
    (ra M a11 ((9 : Int32) + (x5 / (4 : Int32)))).bind fun v12 =>
    (nz (4 : Int32)).bind fun _ =>
    (wa M a11 ((9 : Int32) + (x5 / (4 : Int32))) (v12 ^^^ ((1 : Int32) <<< ((x5 - x5 / (4 : Int32) * (4 : Int32)) &&& 31)))).bind fun M13 =>
    (m_X8_fills M13 a0).bind fun M14 =>
    (m_X8_valueOf M14 a0 x1 x2).bind fun r15 =>
    if r15 = x3 then
      m_X8_wanted_L112 a0 x1 x2 x3 (fun z0 z1 z2 => m_X8_wanted_L65 a0 x1 x2 x3 fu z0 z1 z2) M14 x5 x5
    else
    m_X8_wanted_L112 a0 x1 x2 x3 (fun z0 z1 z2 => m_X8_wanted_L65 a0 x1 x2 x3 fu z0 z1 z2) M14 x5 x4

def m_X8_wanted (M : Mem) (a0 : Nat) (x1 : Int32) (x2 : Int32) (x3 : Int32) : Option (Int32 × Mem) :=
  (pI M a0 0 (0 : Int32)).bind fun M11 =>
  (m_X8_isNode M11 a0 x1).bind fun r12 =>
  if r12 = 0 then
    some ((-2 : Int32), M11)
  else
  (m_X8_isFour x2).bind fun r13 =>
  if r13 = 0 then
    some ((-2 : Int32), M11)
  else
  (m_X8_in x3 (0 : Int32) (9 : Int32)).bind fun r14 =>
  if r14 = 0 then
    some ((-2 : Int32), M11)
  else
  (m_X8_fills M11 a0).bind fun M15 =>
  (m_X8_valueOf M15 a0 x1 x2).bind fun r16 =>
  if r16 = x3 then
    some ((-1 : Int32), M15)
  else
  (rf 10 M15 a0 8).bind fun a17 =>
  (ra M15 a17 (0 : Int32)).bind fun v18 =>
  m_X8_wanted_L65 a0 x1 x2 x3 FU M15 (-9 : Int32) (((4 : Int32) * v18) - (1 : Int32))

def m_X8_sees (M : Mem) (a0 : Nat) (x1 : Int32) (x2 : Int32) (x3 : Int32) : Option (Int32 × Mem) :=
  (pI M a0 0 (0 : Int32)).bind fun M11 =>
  (m_X8_isNode M11 a0 x1).bind fun r12 =>
  if r12 = 0 then
    some ((-2 : Int32), M11)
  else
  (m_X8_isFour x2).bind fun r13 =>
  if r13 = 0 then
    some ((-2 : Int32), M11)
  else
  (m_X8_in x3 (0 : Int32) (9 : Int32)).bind fun r14 =>
  if r14 = 0 then
    some ((-2 : Int32), M11)
  else
  if (M11.2 a0 19) = (6 : Int32) then
    some ((-4 : Int32), M11)
  else
  (rf 10 M11 a0 16).bind fun a15 =>
  (wa M11 a15 (M11.2 a0 19) x1).bind fun M16 =>
  (rf 10 M16 a0 17).bind fun a17 =>
  (wa M16 a17 (M16.2 a0 19) x2).bind fun M18 =>
  (rf 10 M18 a0 18).bind fun a19 =>
  (wa M18 a19 (M18.2 a0 19) x3).bind fun M20 =>
  (pI M20 a0 19 ((M20.2 a0 19) + (1 : Int32))).bind fun M21 =>
  some ((M21.2 a0 19), M21)

def m_X8_forget (M : Mem) (a0 : Nat) : Option (Int32 × Mem) :=
  (pI M a0 0 (0 : Int32)).bind fun M11 =>
  (pI M11 a0 19 (0 : Int32)).bind fun M12 =>
  some ((M11.2 a0 19), M12)

def m_X8_unseenSet_L19 (a0 : Nat) (k4 : Mem → Int32 → Int32 → Option (Int32 × Mem)) : Nat → Mem → Int32 → Int32 → Int32 → Int32 → Option (Int32 × Mem)
  | 0, _, _, _, _, _ => none
  | fu + 1, M, x1, x2, x3, x4 =>
    if (M.2 a0 19) ≤ x4 then
      if x3 = 0 then
        k4 M (x1 ||| (0 : Int32)) (x2 + (1 : Int32))
      else
      k4 M (x1 ||| ((1 : Int32) <<< (x2 &&& 31))) (x2 + (1 : Int32))
    else
    if x3 = 0 then
      m_X8_unseenSet_L19 a0 k4 fu M x1 x2 (0 : Int32) (x4 + (1 : Int32))
    else
    (rf 10 M a0 16).bind fun a11 =>
    (ra M a11 x4).bind fun v12 =>
    (rf 10 M a0 17).bind fun a13 =>
    (ra M a13 x4).bind fun v14 =>
    b2 (m_X8_valueBy M a0 x2 v12 v14) fun r15 M15 =>
    (rf 10 M15 a0 18).bind fun a16 =>
    (ra M15 a16 x4).bind fun v17 =>
    if r15 = v17 then
      m_X8_unseenSet_L19 a0 k4 fu M15 x1 x2 (1 : Int32) (x4 + (1 : Int32))
    else
    m_X8_unseenSet_L19 a0 k4 fu M15 x1 x2 (0 : Int32) (x4 + (1 : Int32))

def m_X8_unseenSet_L4 (a0 : Nat) : Nat → Mem → Int32 → Int32 → Option (Int32 × Mem)
  | 0, _, _, _ => none
  | fu + 1, M, x1, x2 =>
    (rf 10 M a0 8).bind fun a11 =>
    (ra M a11 (1 : Int32)).bind fun v12 =>
    if v12 ≤ x2 then
      some (x1, M)
    else
    m_X8_unseenSet_L19 a0 (fun z0 z1 z2 => m_X8_unseenSet_L4 a0 fu z0 z1 z2) FU M x1 x2 (1 : Int32) (0 : Int32)

def m_X8_unseenSet (M : Mem) (a0 : Nat) : Option (Int32 × Mem) :=
  m_X8_unseenSet_L4 a0 FU M (0 : Int32) (0 : Int32)

def m_X8_unseen (M : Mem) (a0 : Nat) : Option (Int32 × Mem) :=
  (pI M a0 0 (0 : Int32)).bind fun M11 =>
  b2 (m_X8_unseenSet M11 a0) fun r12 M12 =>
  some (r12, M12)

def m_X8_ask_L111 (a0 : Nat) (k18 : Mem → Int32 → Int32 → Int32 → Int32 → Option (Int32 × Mem)) (M : Mem) (x1 : Int32) (x3 : Int32) (x4 : Int32) (x5 : Int32) (s0 : Int32) : Option (Int32 × Mem) :=
  (m_X8_ones x5).bind fun r11 =>
  if r11 ≤ x3 then
    k18 M x1 s0 x3 (x4 + (1 : Int32))
  else
  (m_X8_ones x5).bind fun r12 =>
  k18 M x1 s0 r12 (x4 + (1 : Int32))

def m_X8_ask_L45 (a0 : Nat) (k18 : Mem → Int32 → Int32 → Int32 → Int32 → Option (Int32 × Mem)) : Nat → Mem → Int32 → Int32 → Int32 → Int32 → Int32 → Int32 → Option (Int32 × Mem)
  | 0, _, _, _, _, _, _, _ => none
  | fu + 1, M, x1, x2, x3, x4, x5, x6 =>
    (rf 10 M a0 8).bind fun a11 =>
    (ra M a11 (1 : Int32)).bind fun v12 =>
    if v12 ≤ x6 then
      (m_X8_ones x5).bind fun r13 =>
      if r13 ≤ x3 then
        m_X8_ask_L111 a0 k18 M x1 x3 x4 x5 x2
      else
      m_X8_ask_L111 a0 k18 M x1 x3 x4 x5 x4
    else
    (m_X8_has x1 x6).bind fun r14 =>
    if r14 = 0 then
      m_X8_ask_L45 a0 k18 fu M x1 x2 x3 x4 (x5 ||| (0 : Int32)) (x6 + (1 : Int32))
    else
    (nz (4 : Int32)).bind fun _ =>
    (nz (4 : Int32)).bind fun _ =>
    b2 (m_X8_valueBy M a0 x6 (x4 / (4 : Int32)) (x4 - x4 / (4 : Int32) * (4 : Int32))) fun r15 M15 =>
    m_X8_ask_L45 a0 k18 fu M15 x1 x2 x3 x4 (x5 ||| ((1 : Int32) <<< (r15 &&& 31))) (x6 + (1 : Int32))

def m_X8_ask_L18 (a0 : Nat) : Nat → Mem → Int32 → Int32 → Int32 → Int32 → Option (Int32 × Mem)
  | 0, _, _, _, _, _ => none
  | fu + 1, M, x1, x2, x3, x4 =>
    (rf 10 M a0 8).bind fun a11 =>
    (ra M a11 (0 : Int32)).bind fun v12 =>
    if ((4 : Int32) * v12) ≤ x4 then
      some (x2, M)
    else
    (m_X8_ones x1).bind fun r13 =>
    if r13 ≤ (1 : Int32) then
      some (x2, M)
    else
    m_X8_ask_L45 a0 (fun z0 z1 z2 z3 z4 => m_X8_ask_L18 a0 fu z0 z1 z2 z3 z4) FU M x1 x2 x3 x4 (0 : Int32) (0 : Int32)

def m_X8_ask (M : Mem) (a0 : Nat) : Option (Int32 × Mem) :=
  (pI M a0 0 (0 : Int32)).bind fun M11 =>
  b2 (m_X8_unseenSet M11 a0) fun r12 M12 =>
  m_X8_ask_L18 a0 FU M12 r12 (-9 : Int32) (0 : Int32) (0 : Int32)

def m_X8_keep_L19 (a0 : Nat) (x1 : Int32) : Nat → Mem → Int32 → Option (Int32 × Mem)
  | 0, _, _ => none
  | fu + 1, M, x2 =>
    if (19 : Int32) ≤ x2 then
      (rf 12 M a0 15).bind fun a11 =>
      (wa M a11 x1 (vp_nar .boolean (1 : Int32))).bind fun M12 =>
      (rf 10 M12 a0 8).bind fun a13 =>
      (ra M12 a13 (0 : Int32)).bind fun v14 =>
      some (v14, M12)
    else
    (rf 10 M a0 14).bind fun a15 =>
    (rf 10 M a0 11).bind fun a16 =>
    (ra M a16 x2).bind fun v17 =>
    (wa M a15 (((19 : Int32) * x1) + x2) v17).bind fun M18 =>
    m_X8_keep_L19 a0 x1 fu M18 (x2 + (1 : Int32))

def m_X8_keep (M : Mem) (a0 : Nat) (x1 : Int32) : Option (Int32 × Mem) :=
  (pI M a0 0 (0 : Int32)).bind fun M11 =>
  (m_X8_in x1 (0 : Int32) (1 : Int32)).bind fun r12 =>
  if r12 = 0 then
    some ((-2 : Int32), M11)
  else
  m_X8_keep_L19 a0 x1 FU M11 (0 : Int32)

def m_X8_back_L31 (a0 : Nat) (x1 : Int32) : Nat → Mem → Int32 → Option (Int32 × Mem)
  | 0, _, _ => none
  | fu + 1, M, x2 =>
    if (19 : Int32) ≤ x2 then
      (pI M a0 13 (0 : Int32)).bind fun M11 =>
      (rf 10 M11 a0 8).bind fun a12 =>
      (ra M11 a12 (0 : Int32)).bind fun v13 =>
      some (v13, M11)
    else
    (rf 10 M a0 11).bind fun a14 =>
    (rf 10 M a0 14).bind fun a15 =>
    (ra M a15 (((19 : Int32) * x1) + x2)).bind fun v16 =>
    (wa M a14 x2 v16).bind fun M17 =>
    m_X8_back_L31 a0 x1 fu M17 (x2 + (1 : Int32))

def m_X8_back (M : Mem) (a0 : Nat) (x1 : Int32) : Option (Int32 × Mem) :=
  (pI M a0 0 (0 : Int32)).bind fun M11 =>
  (m_X8_in x1 (0 : Int32) (1 : Int32)).bind fun r12 =>
  if r12 = 0 then
    some ((-2 : Int32), M11)
  else
  (rf 12 M11 a0 15).bind fun a13 =>
  (ra M11 a13 x1).bind fun v14 =>
  if v14 = 0 then
    some ((-3 : Int32), M11)
  else
  m_X8_back_L31 a0 x1 FU M11 (0 : Int32)

def m_X8_styles_L8 (a0 : Nat) : Nat → Mem → Int32 → Int32 → Option (Int32 × Mem)
  | 0, _, _, _ => none
  | fu + 1, M, x1, x2 =>
    (rf 10 M a0 8).bind fun a11 =>
    (ra M a11 (0 : Int32)).bind fun v12 =>
    if v12 ≤ x2 then
      some (x1, M)
    else
    (m_X8_recordOf M a0 x2).bind fun r13 =>
    if r13 = x2 then
      m_X8_styles_L8 a0 fu M (x1 + (1 : Int32)) (x2 + (1 : Int32))
    else
    m_X8_styles_L8 a0 fu M (x1 + (0 : Int32)) (x2 + (1 : Int32))

def m_X8_styles (M : Mem) (a0 : Nat) : Option (Int32 × Mem) :=
  (m_X8_fills M a0).bind fun M11 =>
  m_X8_styles_L8 a0 FU M11 (0 : Int32) (0 : Int32)

def m_X8_count (M : Mem) (a0 : Nat) (x1 : Int32) : Option (Int32 × Mem) :=
  (pI M a0 0 (0 : Int32)).bind fun M11 =>
  (m_X8_in x1 (0 : Int32) (6 : Int32)).bind fun r12 =>
  if r12 = 0 then
    some ((-2 : Int32), M11)
  else
  if (3 : Int32) ≤ x1 then
    if x1 = (3 : Int32) then
      b2 (m_X8_styles M11 a0) fun r13 M13 =>
      some (r13, M13)
    else
    if x1 = (4 : Int32) then
      some ((M11.2 a0 19), M11)
    else
    if x1 = (5 : Int32) then
      some ((M11.2 a0 2), M11)
    else
    some ((M11.2 a0 13), M11)
  else
  if x1 = (2 : Int32) then
    (rf 10 M11 a0 11).bind fun a14 =>
    (ra M11 a14 (18 : Int32)).bind fun v15 =>
    some (v15, M11)
  else
  (rf 10 M11 a0 8).bind fun a16 =>
  (ra M11 a16 x1).bind fun v17 =>
  some (v17, M11)
