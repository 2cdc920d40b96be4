/-! ===== the world as a list of cells; the judgement GG: from here, with this memory, these locals and this stack, the method comes to its end ===== -/
theorem kd_lt {k T : Nat} (h : kd k = T + 1) : k < NN := by
  rcases Nat.lt_or_ge k NN with q | q
  · exact q
  · have h0 : kd k = 0 := by
      unfold kd
      rw [List.getD_eq_getElem?_getD, List.getElem?_eq_none (by exact q)]
      rfl
    omega
def Is (n a T : Nat) : Prop := a < n ∧ kd a = T
theorem Is.of {a T : Nat} (h : kd a = T + 1) : Is NN a (T + 1) := ⟨kd_lt h, h⟩
def wl (cy : Nat → ClassId) (n : Nat) (Λ : Nat → Nat) (M : Mem) : va_W := (List.range n).map (fun k => (Λ k, cellA cy Λ M k))
theorem wl_get {cy : Nat → ClassId} {n : Nat} {Λ : Nat → Nat} {M : Mem} {a : Nat} (h : a < n) : (wl cy n Λ M)[a]? = some (Λ a, cellA cy Λ M a) := by
  simp [wl, h]
theorem wl_none {cy : Nat → ClassId} {n : Nat} {Λ : Nat → Nat} {M : Mem} {a : Nat} (h : n ≤ a) : (wl cy n Λ M)[a]? = none := by
  simp [wl, h]
theorem wl_set {cy : Nat → ClassId} {n : Nat} {Λ : Nat → Nat} {M M2 : Mem} {a : Nat} {e : va_E} (h : a < n) (he : e = cellA cy Λ M2 a) (h1 : ∀ k, k ≠ a → M2.1 k = M.1 k) (h2 : ∀ k, k ≠ a → M2.2 k = M.2 k) : (wl cy n Λ M).set a (Λ a, e) = wl cy n Λ M2 := by
  subst he
  apply List.ext_getElem?
  intro i
  have hl : a < (wl cy n Λ M).length := by simp [wl, h]
  by_cases hi : i = a
  · subst hi
    rw [List.getElem?_set_self hl, wl_get h]
  · rw [List.getElem?_set_ne (Ne.symm hi)]
    by_cases hn : i < n
    · rw [wl_get hn, wl_get hn, cell_congr (h1 i hi) (h2 i hi)]
    · rw [wl_none (by omega), wl_none (by omega)]
theorem wl_same {cy : Nat → ClassId} {n : Nat} {Λ : Nat → Nat} {M M2 : Mem} (h1 : ∀ k, k < n → M2.1 k = M.1 k) (h2 : ∀ k, k < n → M2.2 k = M.2 k) : wl cy n Λ M2 = wl cy n Λ M := by
  apply List.ext_getElem?
  intro i
  by_cases hn : i < n
  · rw [wl_get hn, wl_get hn, cell_congr (h1 i hn) (h2 i hn)]
  · rw [wl_none (by omega), wl_none (by omega)]
theorem wl_push {cy : Nat → ClassId} {n : Nat} {Λ : Nat → Nat} {M : Mem} : wl cy (n + 1) Λ (al M n) = wl cy n Λ M ++ [(Λ n, cellA cy Λ (al M n) n)] := by
  have h : wl cy (n + 1) Λ (al M n) = wl cy n Λ (al M n) ++ [(Λ n, cellA cy Λ (al M n) n)] := by
    simp [wl, List.range_succ]
  rw [h, wl_same (M2 := al M n) (M := M)]
  · intro k hk; simp [al, Nat.ne_of_lt hk]
  · intro k hk; simp [al, Nat.ne_of_lt hk]
theorem wl_D {cy : Nat → ClassId} {n : Nat} {Λ : Nat → Nat} {M : Mem} {A : Nat → Prop} (hi : ∀ i j : Nat, Λ i = Λ j → i = j) (hA : ∀ k : Nat, A (Λ k)) : va_D A (wl cy n Λ M) := by
  have key : ∀ (i : Nat) (x : Nat × va_E), (wl cy n Λ M)[i]? = some x → x.1 = Λ i := by
    intro i x hx
    by_cases hn : i < n
    · rw [wl_get hn] at hx
      cases hx
      rfl
    · rw [wl_none (by omega)] at hx
      cases hx
  exact ⟨fun i j x y hx hy hxy => hi i j (by rw [← key i x hx, ← key j y hy, hxy]), fun k x hx => by rw [key k x hx]; exact hA k⟩
/-- what may be written: the world's cells and new ones -/
def AA (Λ : Nat → Nat) (sz : Nat) : Nat → Prop := fun q => (∃ k : Nat, Λ k = q) ∨ sz ≤ q
/-- what stays the same in a method's body -/
def Cx (p : Program) (s : State) (m : MethodId) (args : Array Value) (meth : Method) (c : Code) (cc : ByteArray) (nL : Nat) (own : String) (ret : Option FieldType) (D : va_G) (cy : Nat → ClassId) (Λ : Nat → Nat) (A : Nat → Prop) : Prop :=
  CallFix p m c cc nL s args gw own ∧ meth.sig.returnType = ret ∧ meth.locks = false ∧ va_K D vwCl (tys cy) s ∧ (∀ w ∈ nst, va_Nw w s) ∧ (∀ i j : Nat, Λ i = Λ j → i = j) ∧ (∀ k : Nat, A (Λ k)) ∧ ∀ q : Nat, s.heap.size ≤ q → A q
def GG (p : Program) (l : Launch) (e : Env) (R : Room) (s : State) (m : MethodId) (args : Array Value) (below : List Frame) (meth : Method) (c : Code) (D : va_G) (cy : Nat → ClassId) (Λ : Nat → Nat) (A : Nat → Prop) (nL cells slots : Nat) (Q : State → Prop) (n : Nat) (M : Mem) (pc : Nat) (lv : List (Nat × Value)) (st : List Value) : Prop :=
  ∀ (H : Heap) (locs : List Loc) (ls : Array Slot), va_P D vwCl (wl cy n Λ M) H → va_S A s.heap H locs → lv_has ls nL lv → W p l e R s m args below meth c H locs cells slots Q (F0 m pc ls st)
/-! the mirror's words -/
def rf (T : Nat) (M : Mem) (a j : Nat) : Option Nat := match M.1 a j with
  | some b => if kd b = T then some b else none
  | none => none
def pI (M : Mem) (a j : Nat) (v : Int32) : Option Mem := some (wI M a j v)
def pZ (M : Mem) (a j : Nat) (v : Int32) : Option Mem := if v = 0 ∨ v = 1 then some (wI M a j v) else none
def pR (M : Mem) (a j b : Nat) : Option Mem := some (wR M a j b)
def ra (M : Mem) (a : Nat) (i : Int32) : Option Int32 := if ¬ (i < 0 ∨ ln a ≤ i.toNatClampNeg) then some (M.2 a i.toNatClampNeg) else none
def wa (M : Mem) (a : Nat) (i v : Int32) : Option Mem := if ¬ (i < 0 ∨ ln a ≤ i.toNatClampNeg) then some (wI M a i.toNatClampNeg v) else none
def rr (T : Nat) (M : Mem) (a : Nat) (i : Int32) : Option Nat := if ¬ (i < 0 ∨ ln a ≤ i.toNatClampNeg) then rf T M a i.toNatClampNeg else none
def nz (y : Int32) : Option Unit := if y = 0 then none else some ()
def nm (v : Int32) : Option Int32 := some v
def bz (v : Int32) : Option Unit := if v = 0 ∨ v = 1 then some () else none
/-- System.arraycopy of ints within the memory -/
def cpM (M : Mem) (a : Nat) (sp : Int32) (b : Nat) (dp n : Int32) : Option Mem := if ¬ sp < 0 ∧ ¬ dp < 0 ∧ ¬ n < 0 ∧ sp.toNatClampNeg + n.toNatClampNeg ≤ ln a ∧ dp.toNatClampNeg + n.toNatClampNeg ≤ ln b then some (M.1, fun k => if k = b then va_cpy (M.2 a) (M.2 b) sp.toNatClampNeg dp.toNatClampNeg n.toNatClampNeg else M.2 k) else none
theorem ob {α β : Type} {o : Option α} {f : α → Option β} {r : β} (h : o.bind f = some r) : ∃ a, o = some a ∧ f a = some r := by
  cases o with
  | none => cases h
  | some a => exact ⟨a, rfl, h⟩
theorem rf_is {T : Nat} {M : Mem} {a j b : Nat} (h : rf (T + 1) M a j = some b) : M.1 a j = some b ∧ Is NN b (T + 1) := by
  unfold rf at h
  split at h
  · rename_i x hx
    split at h
    · rename_i hk
      cases h
      exact ⟨hx, Is.of hk⟩
    · cases h
  · cases h
section ROWS
variable {p : Program} {l : Launch} {e : Env} {R : Room} {s : State} {m : MethodId} {args : Array Value} {below : List Frame} {meth : Method} {c : Code} {D : va_G} {cy : Nat → ClassId} {Λ : Nat → Nat} {A : Nat → Prop} {nL cells slots n : Nat} {Q : State → Prop} {M : Mem} {pc tgt : Nat} {lv lv2 : List (Nat × Value)} {st : List Value} {cc : ByteArray} {own : String} {ret : Option FieldType} {x y v : Int32} {α : Type} {X Y : Option α} {r : α}
theorem g_iconst (C : Cx p s m args meth c cc nL own ret D cy Λ A) {k : Int} (d : decode cc pc = .ok (.iconst k, 1)) (hv : Int32.ofInt k = v) (kk : GG p l e R s m args below meth c D cy Λ A nL cells slots Q n M (pc + 1) lv (.int v :: st)) : GG p l e R s m args below meth c D cy Λ A nL cells slots Q n M pc lv st := fun H locs ls hP hS hl => lv_iconst C.1.1 C.1.2.1 d hv (kk H locs ls hP hS hl)
theorem g_bipush (C : Cx p s m args meth c cc nL own ret D cy Λ A) {k : Int} (d : decode cc pc = .ok (.bipush k, 2)) (hv : (Int8.ofInt k).toInt32 = v) (kk : GG p l e R s m args below meth c D cy Λ A nL cells slots Q n M (pc + 2) lv (.int v :: st)) : GG p l e R s m args below meth c D cy Λ A nL cells slots Q n M pc lv st := fun H locs ls hP hS hl => lv_bipush C.1.1 C.1.2.1 d hv (kk H locs ls hP hS hl)
theorem g_sipush (C : Cx p s m args meth c cc nL own ret D cy Λ A) {k : Int} (d : decode cc pc = .ok (.sipush k, 3)) (hv : (Int16.ofInt k).toInt32 = v) (kk : GG p l e R s m args below meth c D cy Λ A nL cells slots Q n M (pc + 3) lv (.int v :: st)) : GG p l e R s m args below meth c D cy Λ A nL cells slots Q n M pc lv st := fun H locs ls hP hS hl => lv_sipush C.1.1 C.1.2.1 d hv (kk H locs ls hP hS hl)
theorem g_ldcw (C : Cx p s m args meth c cc nL own ret D cy Λ A) {index : Nat} (hc : Cond.constant own index v ∈ gw) (d : decode cc pc = .ok (.ldc_w index, 3)) (kk : GG p l e R s m args below meth c D cy Λ A nL cells slots Q n M (pc + 3) lv (.int v :: st)) : GG p l e R s m args below meth c D cy Λ A nL cells slots Q n M pc lv st := fun H locs ls hP hS hl => lv_ldcw C.1.1 C.1.2.1 C.1.2.2.2.1 (C.1.2.2.2.2 _ hc) d (kk H locs ls hP hS hl)
theorem g_iload_n (C : Cx p s m args meth c cc nL own ret D cy Λ A) {k : Fin 4} {i : Nat} (j : Nat) (d : decode cc pc = .ok (.iload_n k, 1)) (hi : (k : Nat) = i) (h : lv[j]? = some (i, .int x)) (kk : GG p l e R s m args below meth c D cy Λ A nL cells slots Q n M (pc + 1) lv (.int x :: st)) : GG p l e R s m args below meth c D cy Λ A nL cells slots Q n M pc lv st := fun H locs ls hP hS hl => lv_iload_n C.1.1 C.1.2.1 d hi (lv_at hl j h) (kk H locs ls hP hS hl)
theorem g_iload (C : Cx p s m args meth c cc nL own ret D cy Λ A) {i : Nat} (j : Nat) (d : decode cc pc = .ok (.iload i, 2)) (h : lv[j]? = some (i, .int x)) (kk : GG p l e R s m args below meth c D cy Λ A nL cells slots Q n M (pc + 2) lv (.int x :: st)) : GG p l e R s m args below meth c D cy Λ A nL cells slots Q n M pc lv st := fun H locs ls hP hS hl => lv_iload C.1.1 C.1.2.1 d (lv_at hl j h) (kk H locs ls hP hS hl)
theorem g_aload_n (C : Cx p s m args meth c cc nL own ret D cy Λ A) {k : Fin 4} {i z : Nat} (j : Nat) (d : decode cc pc = .ok (.aload_n k, 1)) (hi : (k : Nat) = i) (h : lv[j]? = some (i, .ref z)) (kk : GG p l e R s m args below meth c D cy Λ A nL cells slots Q n M (pc + 1) lv (.ref z :: st)) : GG p l e R s m args below meth c D cy Λ A nL cells slots Q n M pc lv st := fun H locs ls hP hS hl => lv_aload_n C.1.1 C.1.2.1 d hi (lv_at hl j h) (kk H locs ls hP hS hl)
theorem g_aload (C : Cx p s m args meth c cc nL own ret D cy Λ A) {i z : Nat} (j : Nat) (d : decode cc pc = .ok (.aload i, 2)) (h : lv[j]? = some (i, .ref z)) (kk : GG p l e R s m args below meth c D cy Λ A nL cells slots Q n M (pc + 2) lv (.ref z :: st)) : GG p l e R s m args below meth c D cy Λ A nL cells slots Q n M pc lv st := fun H locs ls hP hS hl => lv_aload C.1.1 C.1.2.1 d (lv_at hl j h) (kk H locs ls hP hS hl)
theorem g_istore_n (C : Cx p s m args meth c cc nL own ret D cy Λ A) {k : Fin 4} {i : Nat} (d : decode cc pc = .ok (.istore_n k, 1)) (hi : (k : Nat) = i) (hn : i < nL) (h : (i, Value.int x) :: lv.filter (fun q => !(q.1 == i) && !(q.1 + 1 == i && q.2.category == 2)) = lv2) (kk : GG p l e R s m args below meth c D cy Λ A nL cells slots Q n M (pc + 1) lv2 st) : GG p l e R s m args below meth c D cy Λ A nL cells slots Q n M pc lv (.int x :: st) := fun H locs ls hP hS hl => lv_istore_n C.1.1 C.1.2.1 d hi hl hn h (fun ls2 hl2 => kk H locs ls2 hP hS hl2)
theorem g_istore (C : Cx p s m args meth c cc nL own ret D cy Λ A) {i : Nat} (d : decode cc pc = .ok (.istore i, 2)) (hn : i < nL) (h : (i, Value.int x) :: lv.filter (fun q => !(q.1 == i) && !(q.1 + 1 == i && q.2.category == 2)) = lv2) (kk : GG p l e R s m args below meth c D cy Λ A nL cells slots Q n M (pc + 2) lv2 st) : GG p l e R s m args below meth c D cy Λ A nL cells slots Q n M pc lv (.int x :: st) := fun H locs ls hP hS hl => lv_istore C.1.1 C.1.2.1 d hl hn h (fun ls2 hl2 => kk H locs ls2 hP hS hl2)
theorem g_astore_n (C : Cx p s m args meth c cc nL own ret D cy Λ A) {k : Fin 4} {i : Nat} {z : Nat} (d : decode cc pc = .ok (.astore_n k, 1)) (hi : (k : Nat) = i) (hn : i < nL) (h : (i, Value.ref z) :: lv.filter (fun q => !(q.1 == i) && !(q.1 + 1 == i && q.2.category == 2)) = lv2) (kk : GG p l e R s m args below meth c D cy Λ A nL cells slots Q n M (pc + 1) lv2 st) : GG p l e R s m args below meth c D cy Λ A nL cells slots Q n M pc lv (.ref z :: st) := fun H locs ls hP hS hl => lv_astore_n C.1.1 C.1.2.1 d hi hl hn h (fun ls2 hl2 => kk H locs ls2 hP hS hl2)
theorem g_astore (C : Cx p s m args meth c cc nL own ret D cy Λ A) {i : Nat} {z : Nat} (d : decode cc pc = .ok (.astore i, 2)) (hn : i < nL) (h : (i, Value.ref z) :: lv.filter (fun q => !(q.1 == i) && !(q.1 + 1 == i && q.2.category == 2)) = lv2) (kk : GG p l e R s m args below meth c D cy Λ A nL cells slots Q n M (pc + 2) lv2 st) : GG p l e R s m args below meth c D cy Λ A nL cells slots Q n M pc lv (.ref z :: st) := fun H locs ls hP hS hl => lv_astore C.1.1 C.1.2.1 d hl hn h (fun ls2 hl2 => kk H locs ls2 hP hS hl2)
theorem g_iinc (C : Cx p s m args meth c cc nL own ret D cy Λ A) {i : Nat} {k : Int} (j : Nat) (d : decode cc pc = .ok (.iinc i k, 3)) (hj : lv[j]? = some (i, .int x)) (hv : x + Int32.ofInt k = v) (hn : i < nL) (h : (i, Value.int v) :: lv.filter (fun q => !(q.1 == i) && !(q.1 + 1 == i && q.2.category == 2)) = lv2) (kk : GG p l e R s m args below meth c D cy Λ A nL cells slots Q n M (pc + 3) lv2 st) : GG p l e R s m args below meth c D cy Λ A nL cells slots Q n M pc lv st := fun H locs ls hP hS hl => lv_iinc C.1.1 C.1.2.1 d hl hj hv hn h (fun ls2 hl2 => kk H locs ls2 hP hS hl2)
theorem g_sub (ks : List Nat) (h : lv_pick lv ks = lv2) (kk : GG p l e R s m args below meth c D cy Λ A nL cells slots Q n M pc lv2 st) : GG p l e R s m args below meth c D cy Λ A nL cells slots Q n M pc lv st := fun H locs ls hP hS hl => kk H locs ls hP hS (lv_sub hl ks h)
theorem g_iadd (C : Cx p s m args meth c cc nL own ret D cy Λ A) (d : decode cc pc = .ok (.iadd, 1)) (kk : GG p l e R s m args below meth c D cy Λ A nL cells slots Q n M (pc + 1) lv (.int (x + y) :: st)) : GG p l e R s m args below meth c D cy Λ A nL cells slots Q n M pc lv (.int y :: .int x :: st) := fun H locs ls hP hS hl => lv_iadd C.1.1 C.1.2.1 d (kk H locs ls hP hS hl)
theorem g_isub (C : Cx p s m args meth c cc nL own ret D cy Λ A) (d : decode cc pc = .ok (.isub, 1)) (kk : GG p l e R s m args below meth c D cy Λ A nL cells slots Q n M (pc + 1) lv (.int (x - y) :: st)) : GG p l e R s m args below meth c D cy Λ A nL cells slots Q n M pc lv (.int y :: .int x :: st) := fun H locs ls hP hS hl => lv_isub C.1.1 C.1.2.1 d (kk H locs ls hP hS hl)
theorem g_imul (C : Cx p s m args meth c cc nL own ret D cy Λ A) (d : decode cc pc = .ok (.imul, 1)) (kk : GG p l e R s m args below meth c D cy Λ A nL cells slots Q n M (pc + 1) lv (.int (x * y) :: st)) : GG p l e R s m args below meth c D cy Λ A nL cells slots Q n M pc lv (.int y :: .int x :: st) := fun H locs ls hP hS hl => lv_imul C.1.1 C.1.2.1 d (kk H locs ls hP hS hl)
theorem g_iand (C : Cx p s m args meth c cc nL own ret D cy Λ A) (d : decode cc pc = .ok (.iand, 1)) (kk : GG p l e R s m args below meth c D cy Λ A nL cells slots Q n M (pc + 1) lv (.int (x &&& y) :: st)) : GG p l e R s m args below meth c D cy Λ A nL cells slots Q n M pc lv (.int y :: .int x :: st) := fun H locs ls hP hS hl => lv_iand C.1.1 C.1.2.1 d (kk H locs ls hP hS hl)
theorem g_ior (C : Cx p s m args meth c cc nL own ret D cy Λ A) (d : decode cc pc = .ok (.ior, 1)) (kk : GG p l e R s m args below meth c D cy Λ A nL cells slots Q n M (pc + 1) lv (.int (x ||| y) :: st)) : GG p l e R s m args below meth c D cy Λ A nL cells slots Q n M pc lv (.int y :: .int x :: st) := fun H locs ls hP hS hl => lv_ior C.1.1 C.1.2.1 d (kk H locs ls hP hS hl)
theorem g_ixor (C : Cx p s m args meth c cc nL own ret D cy Λ A) (d : decode cc pc = .ok (.ixor, 1)) (kk : GG p l e R s m args below meth c D cy Λ A nL cells slots Q n M (pc + 1) lv (.int (x ^^^ y) :: st)) : GG p l e R s m args below meth c D cy Λ A nL cells slots Q n M pc lv (.int y :: .int x :: st) := fun H locs ls hP hS hl => lv_ixor C.1.1 C.1.2.1 d (kk H locs ls hP hS hl)
theorem g_ishl (C : Cx p s m args meth c cc nL own ret D cy Λ A) (d : decode cc pc = .ok (.ishl, 1)) (kk : GG p l e R s m args below meth c D cy Λ A nL cells slots Q n M (pc + 1) lv (.int (x <<< (y &&& 31)) :: st)) : GG p l e R s m args below meth c D cy Λ A nL cells slots Q n M pc lv (.int y :: .int x :: st) := fun H locs ls hP hS hl => lv_ishl C.1.1 C.1.2.1 d (kk H locs ls hP hS hl)
theorem g_ishr (C : Cx p s m args meth c cc nL own ret D cy Λ A) (d : decode cc pc = .ok (.ishr, 1)) (kk : GG p l e R s m args below meth c D cy Λ A nL cells slots Q n M (pc + 1) lv (.int (x >>> (y &&& 31)) :: st)) : GG p l e R s m args below meth c D cy Λ A nL cells slots Q n M pc lv (.int y :: .int x :: st) := fun H locs ls hP hS hl => lv_ishr C.1.1 C.1.2.1 d (kk H locs ls hP hS hl)
theorem g_idiv (C : Cx p s m args meth c cc nL own ret D cy Λ A) {f : Unit → Option α} (hf : (nz y).bind f = some r) (d : decode cc pc = .ok (.idiv, 1)) (kk : f () = some r → GG p l e R s m args below meth c D cy Λ A nL cells slots Q n M (pc + 1) lv (.int (x / y) :: st)) : GG p l e R s m args below meth c D cy Λ A nL cells slots Q n M pc lv (.int y :: .int x :: st) := fun H locs ls hP hS hl => by
  obtain ⟨u, h1, h2⟩ := ob hf
  have h0 : ¬ y = 0 := by
    intro q
    simp [nz, q] at h1
  exact lv_idiv C.1.1 C.1.2.1 d h0 (kk h2 H locs ls hP hS hl)
theorem g_irem (C : Cx p s m args meth c cc nL own ret D cy Λ A) {f : Unit → Option α} (hf : (nz y).bind f = some r) (d : decode cc pc = .ok (.irem, 1)) (kk : f () = some r → GG p l e R s m args below meth c D cy Λ A nL cells slots Q n M (pc + 1) lv (.int (x - x / y * y) :: st)) : GG p l e R s m args below meth c D cy Λ A nL cells slots Q n M pc lv (.int y :: .int x :: st) := fun H locs ls hP hS hl => by
  obtain ⟨u, h1, h2⟩ := ob hf
  have h0 : ¬ y = 0 := by
    intro q
    simp [nz, q] at h1
  exact lv_irem C.1.1 C.1.2.1 d h0 (kk h2 H locs ls hP hS hl)
theorem g_iushr (C : Cx p s m args meth c cc nL own ret D cy Λ A) (d : decode cc pc = .ok (.iushr, 1)) (kk : GG p l e R s m args below meth c D cy Λ A nL cells slots Q n M (pc + 1) lv (.int (x.toUInt32 >>> (y.toUInt32 &&& Int32.toUInt32 31)).toInt32 :: st)) : GG p l e R s m args below meth c D cy Λ A nL cells slots Q n M pc lv (.int y :: .int x :: st) := fun H locs ls hP hS hl => lv_iushr C.1.1 C.1.2.1 d rfl (kk H locs ls hP hS hl)
theorem g_i2c (C : Cx p s m args meth c cc nL own ret D cy Λ A) (d : decode cc pc = .ok (.i2c, 1)) (kk : GG p l e R s m args below meth c D cy Λ A nL cells slots Q n M (pc + 1) lv (.int (x.toUInt32 % 65536).toInt32 :: st)) : GG p l e R s m args below meth c D cy Λ A nL cells slots Q n M pc lv (.int x :: st) := fun H locs ls hP hS hl => lv_i2c C.1.1 C.1.2.1 d rfl (kk H locs ls hP hS hl)
theorem g_ineg (C : Cx p s m args meth c cc nL own ret D cy Λ A) (d : decode cc pc = .ok (.ineg, 1)) (kk : GG p l e R s m args below meth c D cy Λ A nL cells slots Q n M (pc + 1) lv (.int (-x) :: st)) : GG p l e R s m args below meth c D cy Λ A nL cells slots Q n M pc lv (.int x :: st) := fun H locs ls hP hS hl => lv_ineg C.1.1 C.1.2.1 d (kk H locs ls hP hS hl)
theorem g_dup (C : Cx p s m args meth c cc nL own ret D cy Λ A) {a : Value} (d : decode cc pc = .ok (.dup, 1)) (ha : a.category = 1) (kk : GG p l e R s m args below meth c D cy Λ A nL cells slots Q n M (pc + 1) lv (a :: a :: st)) : GG p l e R s m args below meth c D cy Λ A nL cells slots Q n M pc lv (a :: st) := fun H locs ls hP hS hl => lv_dup C.1.1 C.1.2.1 d ha (kk H locs ls hP hS hl)
theorem g_dup2 (C : Cx p s m args meth c cc nL own ret D cy Λ A) {a b : Value} (d : decode cc pc = .ok (.dup2, 1)) (ha : a.category = 1) (hb : b.category = 1) (kk : GG p l e R s m args below meth c D cy Λ A nL cells slots Q n M (pc + 1) lv (a :: b :: a :: b :: st)) : GG p l e R s m args below meth c D cy Λ A nL cells slots Q n M pc lv (a :: b :: st) := fun H locs ls hP hS hl => lv_dup2_11 C.1.1 C.1.2.1 d ha hb (kk H locs ls hP hS hl)
theorem g_pop (C : Cx p s m args meth c cc nL own ret D cy Λ A) {a : Value} (d : decode cc pc = .ok (.pop, 1)) (ha : a.category = 1) (kk : GG p l e R s m args below meth c D cy Λ A nL cells slots Q n M (pc + 1) lv st) : GG p l e R s m args below meth c D cy Λ A nL cells slots Q n M pc lv (a :: st) := fun H locs ls hP hS hl => lv_pop C.1.1 C.1.2.1 d ha (kk H locs ls hP hS hl)
theorem g_goto (C : Cx p s m args meth c cc nL own ret D cy Λ A) {off : Int} (d : decode cc pc = .ok (.goto off, 3)) (ht : (pc : Int) + off = (tgt : Int)) (kk : GG p l e R s m args below meth c D cy Λ A nL cells slots Q n M tgt lv st) : GG p l e R s m args below meth c D cy Λ A nL cells slots Q n M pc lv st := fun H locs ls hP hS hl => lv_goto C.1.1 C.1.2.1 d ht (kk H locs ls hP hS hl)
theorem g_nm {f : Int32 → Option α} (hf : (nm x).bind f = some r) (kk : ∀ z : Int32, f z = some r → GG p l e R s m args below meth c D cy Λ A nL cells slots Q n M pc lv (.int z :: st)) : GG p l e R s m args below meth c D cy Λ A nL cells slots Q n M pc lv (.int x :: st) := kk x hf
theorem g_if_eq (C : Cx p s m args meth c cc nL own ret D cy Λ A) {off : Int} (hf : (if x = 0 then X else Y) = some r) (d : decode cc pc = .ok (.ifCond .eq off, 3)) (ht : (pc : Int) + off = (tgt : Int)) (kt : X = some r → GG p l e R s m args below meth c D cy Λ A nL cells slots Q n M tgt lv st) (kf : Y = some r → GG p l e R s m args below meth c D cy Λ A nL cells slots Q n M (pc + 3) lv st) : GG p l e R s m args below meth c D cy Λ A nL cells slots Q n M pc lv (.int x :: st) := fun H locs ls hP hS hl => lv_if_eq C.1.1 C.1.2.1 d ht (fun q => kt (by rw [if_pos q] at hf; exact hf) H locs ls hP hS hl) (fun q => kf (by rw [if_neg q] at hf; exact hf) H locs ls hP hS hl)
theorem g_if_ne (C : Cx p s m args meth c cc nL own ret D cy Λ A) {off : Int} (hf : (if x = 0 then X else Y) = some r) (d : decode cc pc = .ok (.ifCond .ne off, 3)) (ht : (pc : Int) + off = (tgt : Int)) (kt : X = some r → GG p l e R s m args below meth c D cy Λ A nL cells slots Q n M (pc + 3) lv st) (kf : Y = some r → GG p l e R s m args below meth c D cy Λ A nL cells slots Q n M tgt lv st) : GG p l e R s m args below meth c D cy Λ A nL cells slots Q n M pc lv (.int x :: st) := fun H locs ls hP hS hl => lv_if_ne C.1.1 C.1.2.1 d ht (fun q => kf (by rw [if_neg q] at hf; exact hf) H locs ls hP hS hl) (fun q => kt (by rw [if_pos q] at hf; exact hf) H locs ls hP hS hl)
theorem g_if_lt (C : Cx p s m args meth c cc nL own ret D cy Λ A) {off : Int} (hf : (if x < 0 then X else Y) = some r) (d : decode cc pc = .ok (.ifCond .lt off, 3)) (ht : (pc : Int) + off = (tgt : Int)) (kt : X = some r → GG p l e R s m args below meth c D cy Λ A nL cells slots Q n M tgt lv st) (kf : Y = some r → GG p l e R s m args below meth c D cy Λ A nL cells slots Q n M (pc + 3) lv st) : GG p l e R s m args below meth c D cy Λ A nL cells slots Q n M pc lv (.int x :: st) := fun H locs ls hP hS hl => lv_if_lt C.1.1 C.1.2.1 d ht (fun q => kt (by rw [if_pos q] at hf; exact hf) H locs ls hP hS hl) (fun q => kf (by rw [if_neg q] at hf; exact hf) H locs ls hP hS hl)
theorem g_if_ge (C : Cx p s m args meth c cc nL own ret D cy Λ A) {off : Int} (hf : (if 0 ≤ x then X else Y) = some r) (d : decode cc pc = .ok (.ifCond .ge off, 3)) (ht : (pc : Int) + off = (tgt : Int)) (kt : X = some r → GG p l e R s m args below meth c D cy Λ A nL cells slots Q n M tgt lv st) (kf : Y = some r → GG p l e R s m args below meth c D cy Λ A nL cells slots Q n M (pc + 3) lv st) : GG p l e R s m args below meth c D cy Λ A nL cells slots Q n M pc lv (.int x :: st) := fun H locs ls hP hS hl => lv_if_ge C.1.1 C.1.2.1 d ht (fun q => kt (by rw [if_pos q] at hf; exact hf) H locs ls hP hS hl) (fun q => kf (by rw [if_neg q] at hf; exact hf) H locs ls hP hS hl)
theorem g_if_gt (C : Cx p s m args meth c cc nL own ret D cy Λ A) {off : Int} (hf : (if 0 < x then X else Y) = some r) (d : decode cc pc = .ok (.ifCond .gt off, 3)) (ht : (pc : Int) + off = (tgt : Int)) (kt : X = some r → GG p l e R s m args below meth c D cy Λ A nL cells slots Q n M tgt lv st) (kf : Y = some r → GG p l e R s m args below meth c D cy Λ A nL cells slots Q n M (pc + 3) lv st) : GG p l e R s m args below meth c D cy Λ A nL cells slots Q n M pc lv (.int x :: st) := fun H locs ls hP hS hl => lv_if_gt C.1.1 C.1.2.1 d ht (fun q => kt (by rw [if_pos q] at hf; exact hf) H locs ls hP hS hl) (fun q => kf (by rw [if_neg q] at hf; exact hf) H locs ls hP hS hl)
theorem g_if_le (C : Cx p s m args meth c cc nL own ret D cy Λ A) {off : Int} (hf : (if x ≤ 0 then X else Y) = some r) (d : decode cc pc = .ok (.ifCond .le off, 3)) (ht : (pc : Int) + off = (tgt : Int)) (kt : X = some r → GG p l e R s m args below meth c D cy Λ A nL cells slots Q n M tgt lv st) (kf : Y = some r → GG p l e R s m args below meth c D cy Λ A nL cells slots Q n M (pc + 3) lv st) : GG p l e R s m args below meth c D cy Λ A nL cells slots Q n M pc lv (.int x :: st) := fun H locs ls hP hS hl => lv_if_le C.1.1 C.1.2.1 d ht (fun q => kt (by rw [if_pos q] at hf; exact hf) H locs ls hP hS hl) (fun q => kf (by rw [if_neg q] at hf; exact hf) H locs ls hP hS hl)
theorem g_ic_eq (C : Cx p s m args meth c cc nL own ret D cy Λ A) {off : Int} (hf : (if x = y then X else Y) = some r) (d : decode cc pc = .ok (.if_icmp .eq off, 3)) (ht : (pc : Int) + off = (tgt : Int)) (kt : X = some r → GG p l e R s m args below meth c D cy Λ A nL cells slots Q n M tgt lv st) (kf : Y = some r → GG p l e R s m args below meth c D cy Λ A nL cells slots Q n M (pc + 3) lv st) : GG p l e R s m args below meth c D cy Λ A nL cells slots Q n M pc lv (.int y :: .int x :: st) := fun H locs ls hP hS hl => lv_icmp_eq C.1.1 C.1.2.1 d ht (fun q => kt (by rw [if_pos q] at hf; exact hf) H locs ls hP hS hl) (fun q => kf (by rw [if_neg q] at hf; exact hf) H locs ls hP hS hl)
theorem g_ic_ne (C : Cx p s m args meth c cc nL own ret D cy Λ A) {off : Int} (hf : (if x = y then X else Y) = some r) (d : decode cc pc = .ok (.if_icmp .ne off, 3)) (ht : (pc : Int) + off = (tgt : Int)) (kt : X = some r → GG p l e R s m args below meth c D cy Λ A nL cells slots Q n M (pc + 3) lv st) (kf : Y = some r → GG p l e R s m args below meth c D cy Λ A nL cells slots Q n M tgt lv st) : GG p l e R s m args below meth c D cy Λ A nL cells slots Q n M pc lv (.int y :: .int x :: st) := fun H locs ls hP hS hl => lv_icmp_ne C.1.1 C.1.2.1 d ht (fun q => kf (by rw [if_neg q] at hf; exact hf) H locs ls hP hS hl) (fun q => kt (by rw [if_pos q] at hf; exact hf) H locs ls hP hS hl)
theorem g_ic_lt (C : Cx p s m args meth c cc nL own ret D cy Λ A) {off : Int} (hf : (if x < y then X else Y) = some r) (d : decode cc pc = .ok (.if_icmp .lt off, 3)) (ht : (pc : Int) + off = (tgt : Int)) (kt : X = some r → GG p l e R s m args below meth c D cy Λ A nL cells slots Q n M tgt lv st) (kf : Y = some r → GG p l e R s m args below meth c D cy Λ A nL cells slots Q n M (pc + 3) lv st) : GG p l e R s m args below meth c D cy Λ A nL cells slots Q n M pc lv (.int y :: .int x :: st) := fun H locs ls hP hS hl => lv_icmp_lt C.1.1 C.1.2.1 d ht (fun q => kt (by rw [if_pos q] at hf; exact hf) H locs ls hP hS hl) (fun q => kf (by rw [if_neg q] at hf; exact hf) H locs ls hP hS hl)
theorem g_ic_ge (C : Cx p s m args meth c cc nL own ret D cy Λ A) {off : Int} (hf : (if y ≤ x then X else Y) = some r) (d : decode cc pc = .ok (.if_icmp .ge off, 3)) (ht : (pc : Int) + off = (tgt : Int)) (kt : X = some r → GG p l e R s m args below meth c D cy Λ A nL cells slots Q n M tgt lv st) (kf : Y = some r → GG p l e R s m args below meth c D cy Λ A nL cells slots Q n M (pc + 3) lv st) : GG p l e R s m args below meth c D cy Λ A nL cells slots Q n M pc lv (.int y :: .int x :: st) := fun H locs ls hP hS hl => lv_icmp_ge C.1.1 C.1.2.1 d ht (fun q => kt (by rw [if_pos q] at hf; exact hf) H locs ls hP hS hl) (fun q => kf (by rw [if_neg q] at hf; exact hf) H locs ls hP hS hl)
theorem g_ic_gt (C : Cx p s m args meth c cc nL own ret D cy Λ A) {off : Int} (hf : (if y < x then X else Y) = some r) (d : decode cc pc = .ok (.if_icmp .gt off, 3)) (ht : (pc : Int) + off = (tgt : Int)) (kt : X = some r → GG p l e R s m args below meth c D cy Λ A nL cells slots Q n M tgt lv st) (kf : Y = some r → GG p l e R s m args below meth c D cy Λ A nL cells slots Q n M (pc + 3) lv st) : GG p l e R s m args below meth c D cy Λ A nL cells slots Q n M pc lv (.int y :: .int x :: st) := fun H locs ls hP hS hl => lv_icmp_gt C.1.1 C.1.2.1 d ht (fun q => kt (by rw [if_pos q] at hf; exact hf) H locs ls hP hS hl) (fun q => kf (by rw [if_neg q] at hf; exact hf) H locs ls hP hS hl)
theorem g_ic_le (C : Cx p s m args meth c cc nL own ret D cy Λ A) {off : Int} (hf : (if x ≤ y then X else Y) = some r) (d : decode cc pc = .ok (.if_icmp .le off, 3)) (ht : (pc : Int) + off = (tgt : Int)) (kt : X = some r → GG p l e R s m args below meth c D cy Λ A nL cells slots Q n M tgt lv st) (kf : Y = some r → GG p l e R s m args below meth c D cy Λ A nL cells slots Q n M (pc + 3) lv st) : GG p l e R s m args below meth c D cy Λ A nL cells slots Q n M pc lv (.int y :: .int x :: st) := fun H locs ls hP hS hl => lv_icmp_le C.1.1 C.1.2.1 d ht (fun q => kt (by rw [if_pos q] at hf; exact hf) H locs ls hP hS hl) (fun q => kf (by rw [if_neg q] at hf; exact hf) H locs ls hP hS hl)
theorem g_case {P : Prop} {c0 : Prop} [Decidable c0] (hf : (if c0 then X else Y) = some r) (kt : c0 → X = some r → P) (kf : ¬ c0 → Y = some r → P) : P := by
  by_cases q : c0
  · exact kt q (by rw [if_pos q] at hf; exact hf)
  · exact kf q (by rw [if_neg q] at hf; exact hf)
theorem g_tin (C : Cx p s m args meth c cc nL own ret D cy Λ A) {dflt lo hi off : Int} {offs : Array Int} {len : Nat} {i : Nat} (d : decode cc pc = .ok (.tableswitch dflt lo hi offs, len)) (hx : x = v) (h1 : ¬ v.toInt < lo) (h2 : ¬ hi < v.toInt) (ho : offs[(v.toInt - lo).toNat]? = some off) (ht : (pc : Int) + off = (tgt : Int)) (kk : GG p l e R s m args below meth c D cy Λ A nL cells slots Q n M tgt lv st) : GG p l e R s m args below meth c D cy Λ A nL cells slots Q n M pc lv (.int x :: st) := fun H locs ls hP hS hl => by
  subst hx
  exact lv_tableIn C.1.1 C.1.2.1 d h1 h2 ho ht (kk H locs ls hP hS hl)
theorem g_tout (C : Cx p s m args meth c cc nL own ret D cy Λ A) {dflt hi : Int} {offs : Array Int} {len : Nat} (N : Nat) (d : decode cc pc = .ok (.tableswitch dflt 0 hi offs, len)) (hhi : hi = N) (hN : N < 1000) (hx : ∀ i : Nat, i ≤ N → ¬ x = nI i) (ht : (pc : Int) + dflt = (tgt : Int)) (kk : GG p l e R s m args below meth c D cy Λ A nL cells slots Q n M tgt lv st) : GG p l e R s m args below meth c D cy Λ A nL cells slots Q n M pc lv (.int x :: st) := fun H locs ls hP hS hl => by
  refine lv_tableOut C.1.1 C.1.2.1 d ?_ ht (kk H locs ls hP hS hl)
  by_cases h0 : x.toInt < 0
  · exact Or.inl h0
  · refine Or.inr ?_
    rw [hhi]
    by_cases h1 : (N : Int) < x.toInt
    · exact h1
    · exfalso
      refine hx x.toInt.toNat (by omega) ?_
      apply Int32.toInt_inj.mp
      rw [nI_toInt (by omega)]
      omega
theorem g_getI (C : Cx p s m args meth c cc nL own ret D cy Λ A) {ci a j index : Nat} (F : FG own index ci j) (hc : ci < 9) (hk : Is n a (ci + 1)) (hv : (fsOf Λ M a ci)[j]? = some (.int x)) (d : decode cc pc = .ok (.getfield index, 3)) (kk : GG p l e R s m args below meth c D cy Λ A nL cells slots Q n M (pc + 3) lv (.int x :: st)) : GG p l e R s m args below meth c D cy Λ A nL cells slots Q n M pc lv (.ref (Λ a) :: st) := fun H locs ls hP hS hl => by
  obtain ⟨C1, T1, N1, h1, h2, h3, h4⟩ := F
  exact va_get C.1.1 C.1.2.1 C.1.2.2.2.2 h2 C.1.2.2.2.1 C.2.2.2.1 hP a ((wl_get hk.1).trans (congrArg (fun e => some (Λ a, e)) (cell_o hc hk.2))) h1 j h3 (C.1.2.2.2.2 _ h4) (fun _ h9 => h9) hv d (kk H locs ls hP hS hl)
theorem g_getR {T : Nat} {f : Nat → Option α} (C : Cx p s m args meth c cc nL own ret D cy Λ A) {ci a j index : Nat} (hf : (rf (T + 1) M a j).bind f = some r) (F : FG own index ci j) (hc : ci < 9) (hk : Is NN a (ci + 1)) (hv : (fsOf Λ M a ci)[j]? = some (va_re Λ (M.1 a j))) (d : decode cc pc = .ok (.getfield index, 3)) (kk : ∀ b : Nat, Is NN b (T + 1) → f b = some r → GG p l e R s m args below meth c D cy Λ A nL cells slots Q NN M (pc + 3) lv (.ref (Λ b) :: st)) : GG p l e R s m args below meth c D cy Λ A nL cells slots Q NN M pc lv (.ref (Λ a) :: st) := fun H locs ls hP hS hl => by
  obtain ⟨C1, T1, N1, h1, h2, h3, h4⟩ := F
  obtain ⟨b, hb1, hb2⟩ := ob hf
  obtain ⟨hb3, hb4⟩ := rf_is hb1
  have hv2 : (fsOf Λ M a ci)[j]? = some (.ref (Λ b)) := by rw [hv, hb3]; rfl
  exact va_get C.1.1 C.1.2.1 C.1.2.2.2.2 h2 C.1.2.2.2.1 C.2.2.2.1 hP a ((wl_get hk.1).trans (congrArg (fun e => some (Λ a, e)) (cell_o hc hk.2))) h1 j h3 (C.1.2.2.2.2 _ h4) (fun _ h9 => h9) hv2 d (kk b hb4 hb2 H locs ls hP hS hl)
theorem g_putI {ty : FieldType}  (C : Cx p s m args meth c cc nL own ret D cy Λ A) {ci a j index : Nat} (F : FP own index ci j ty false) (hc : ci < 9) (hk : Is n a (ci + 1)) (hst : (fsOf Λ M a ci).set j (.int x) = fsOf Λ (wI M a j x) a ci) (hl0 : j < (fsOf Λ M a ci).length) (hn : narrow ty (.int x) = .int x) (hfit : fits ty (.int x) = true) (d : decode cc pc = .ok (.putfield index, 3)) (kk : GG p l e R s m args below meth c D cy Λ A nL cells slots Q n (wI M a j x) (pc + 3) lv st) : GG p l e R s m args below meth c D cy Λ A nL cells slots Q n M pc lv ((.int x) :: .ref (Λ a) :: st) := fun H locs ls hP hS hl => by
  obtain ⟨C1, T1, N1, ty0, h1, h2, h3, h4, h5, h6, h7, h8, h9⟩ := F
  skip
  have he : .inr (ci, (fsOf Λ M a ci).set j (.int x)) = cellA cy Λ (wI M a j x) a := by rw [cell_o hc hk.2, hst]
  refine va_put C.1.1 C.1.2.1 C.1.2.2.2.2 h2 ty0 h5 h6 C.1.2.2.2.1 C.2.2.2.1 hP (wl_D C.2.2.2.2.2.1 C.2.2.2.2.2.2.1) hS a ((wl_get hk.1).trans (congrArg (fun e => some (Λ a, e)) (cell_o hc hk.2))) h1 j h3 (C.1.2.2.2.2 _ h4) (fun _ h9 => h9) h7 h8 hn hfit hl0 d (fun H1 locs1 hP1 _ hS1 => ?_)
  rw [wl_set hk.1 he (fun k hk => by simp [wI, wR, up2, hk]) (fun k hk => by simp [wI, wR, up2, hk])] at hP1
  exact kk H1 locs1 ls hP1 hS1 hl
theorem g_putR {ty : FieldType} {b : Nat} (C : Cx p s m args meth c cc nL own ret D cy Λ A) {ci a j index : Nat} (F : FP own index ci j ty false) (hc : ci < 9) (hk : Is n a (ci + 1)) (hst : (fsOf Λ M a ci).set j (.ref (Λ b)) = fsOf Λ (wR M a j b) a ci) (hl0 : j < (fsOf Λ M a ci).length) (hn : narrow ty (.ref (Λ b)) = .ref (Λ b)) (hfit : fits ty (.ref (Λ b)) = true) (d : decode cc pc = .ok (.putfield index, 3)) (kk : GG p l e R s m args below meth c D cy Λ A nL cells slots Q n (wR M a j b) (pc + 3) lv st) : GG p l e R s m args below meth c D cy Λ A nL cells slots Q n M pc lv ((.ref (Λ b)) :: .ref (Λ a) :: st) := fun H locs ls hP hS hl => by
  obtain ⟨C1, T1, N1, ty0, h1, h2, h3, h4, h5, h6, h7, h8, h9⟩ := F
  skip
  have he : .inr (ci, (fsOf Λ M a ci).set j (.ref (Λ b))) = cellA cy Λ (wR M a j b) a := by rw [cell_o hc hk.2, hst]
  refine va_put C.1.1 C.1.2.1 C.1.2.2.2.2 h2 ty0 h5 h6 C.1.2.2.2.1 C.2.2.2.1 hP (wl_D C.2.2.2.2.2.1 C.2.2.2.2.2.2.1) hS a ((wl_get hk.1).trans (congrArg (fun e => some (Λ a, e)) (cell_o hc hk.2))) h1 j h3 (C.1.2.2.2.2 _ h4) (fun _ h9 => h9) h7 h8 hn hfit hl0 d (fun H1 locs1 hP1 _ hS1 => ?_)
  rw [wl_set hk.1 he (fun k hk => by simp [wI, wR, up2, hk]) (fun k hk => by simp [wI, wR, up2, hk])] at hP1
  exact kk H1 locs1 ls hP1 hS1 hl
theorem g_putFI {ty : FieldType} (hin : meth.name = "<init>") (C : Cx p s m args meth c cc nL own ret D cy Λ A) {ci a j index : Nat} (F : FP own index ci j ty true) (hc : ci < 9) (hk : Is n a (ci + 1)) (hst : (fsOf Λ M a ci).set j (.int x) = fsOf Λ (wI M a j x) a ci) (hl0 : j < (fsOf Λ M a ci).length) (hn : narrow ty (.int x) = .int x) (hfit : fits ty (.int x) = true) (d : decode cc pc = .ok (.putfield index, 3)) (kk : GG p l e R s m args below meth c D cy Λ A nL cells slots Q n (wI M a j x) (pc + 3) lv st) : GG p l e R s m args below meth c D cy Λ A nL cells slots Q n M pc lv ((.int x) :: .ref (Λ a) :: st) := fun H locs ls hP hS hl => by
  obtain ⟨C1, T1, N1, ty0, h1, h2, h3, h4, h5, h6, h7, h8, h9⟩ := F
  skip
  have he : .inr (ci, (fsOf Λ M a ci).set j (.int x)) = cellA cy Λ (wI M a j x) a := by rw [cell_o hc hk.2, hst]
  refine va_putF C.1.1 C.1.2.1 C.1.2.2.2.2 h2 ty0 h5 h6 C.1.2.2.2.1 C.2.2.2.1 hP (wl_D C.2.2.2.2.2.1 C.2.2.2.2.2.2.1) hS a ((wl_get hk.1).trans (congrArg (fun e => some (Λ a, e)) (cell_o hc hk.2))) h1 j h3 (C.1.2.2.2.2 _ h4) (fun _ h9 => h9) h7 hin (h9 rfl) h8 hn hfit hl0 d (fun H1 locs1 hP1 _ hS1 => ?_)
  rw [wl_set hk.1 he (fun k hk => by simp [wI, wR, up2, hk]) (fun k hk => by simp [wI, wR, up2, hk])] at hP1
  exact kk H1 locs1 ls hP1 hS1 hl
theorem g_putFR {ty : FieldType} {b : Nat} (hin : meth.name = "<init>") (C : Cx p s m args meth c cc nL own ret D cy Λ A) {ci a j index : Nat} (F : FP own index ci j ty true) (hc : ci < 9) (hk : Is n a (ci + 1)) (hst : (fsOf Λ M a ci).set j (.ref (Λ b)) = fsOf Λ (wR M a j b) a ci) (hl0 : j < (fsOf Λ M a ci).length) (hn : narrow ty (.ref (Λ b)) = .ref (Λ b)) (hfit : fits ty (.ref (Λ b)) = true) (d : decode cc pc = .ok (.putfield index, 3)) (kk : GG p l e R s m args below meth c D cy Λ A nL cells slots Q n (wR M a j b) (pc + 3) lv st) : GG p l e R s m args below meth c D cy Λ A nL cells slots Q n M pc lv ((.ref (Λ b)) :: .ref (Λ a) :: st) := fun H locs ls hP hS hl => by
  obtain ⟨C1, T1, N1, ty0, h1, h2, h3, h4, h5, h6, h7, h8, h9⟩ := F
  skip
  have he : .inr (ci, (fsOf Λ M a ci).set j (.ref (Λ b))) = cellA cy Λ (wR M a j b) a := by rw [cell_o hc hk.2, hst]
  refine va_putF C.1.1 C.1.2.1 C.1.2.2.2.2 h2 ty0 h5 h6 C.1.2.2.2.1 C.2.2.2.1 hP (wl_D C.2.2.2.2.2.1 C.2.2.2.2.2.2.1) hS a ((wl_get hk.1).trans (congrArg (fun e => some (Λ a, e)) (cell_o hc hk.2))) h1 j h3 (C.1.2.2.2.2 _ h4) (fun _ h9 => h9) h7 hin (h9 rfl) h8 hn hfit hl0 d (fun H1 locs1 hP1 _ hS1 => ?_)
  rw [wl_set hk.1 he (fun k hk => by simp [wI, wR, up2, hk]) (fun k hk => by simp [wI, wR, up2, hk])] at hP1
  exact kk H1 locs1 ls hP1 hS1 hl
theorem g_mI {f : Mem → Option α} {a j : Nat} (hf : (pI M a j x).bind f = some r) {P : Mem → Prop} (kk : ∀ M2 : Mem, f M2 = some r → P M2) : P (wI M a j x) := kk _ hf
theorem g_mR {f : Mem → Option α} {a j b : Nat} (hf : (pR M a j b).bind f = some r) {P : Mem → Prop} (kk : ∀ M2 : Mem, f M2 = some r → P M2) : P (wR M a j b) := kk _ hf
theorem g_mZ {f : Mem → Option α} {a j : Nat} (hf : (pZ M a j x).bind f = some r) : (narrow .boolean (.int x) = .int x ∧ fits .boolean (.int x) = true) ∧ f (wI M a j x) = some r := by
  obtain ⟨M2, h1, h2⟩ := ob hf
  unfold pZ at h1
  split at h1
  · rename_i q
    cases h1
    refine ⟨?_, h2⟩
    rcases q with rfl | rfl <;> decide
  · cases h1
theorem g_iald {a : Nat} {f : Int32 → Option α} (C : Cx p s m args meth c cc nL own ret D cy Λ A) (hf : (ra M a x).bind f = some r) (hk : Is n a 10) (d : decode cc pc = .ok (.iaload, 1)) (kk : ∀ z : Int32, f z = some r → GG p l e R s m args below meth c D cy Λ A nL cells slots Q n M (pc + 1) lv (.int z :: st)) : GG p l e R s m args below meth c D cy Λ A nL cells slots Q n M pc lv (.int x :: .ref (Λ a) :: st) := fun H locs ls hP hS hl => by
  obtain ⟨z, h1, h2⟩ := ob hf
  unfold ra at h1
  split at h1
  · rename_i q
    cases h1
    exact va_iald C.1.1 C.1.2.1 C.2.2.2.1 hP a 0 ((wl_get hk.1).trans (congrArg (fun e => some (Λ a, e)) (cell_a0 hk.2))) rfl q d (kk _ h2 H locs ls hP hS hl)
  · cases h1
theorem g_cald {a : Nat} {f : Int32 → Option α} (C : Cx p s m args meth c cc nL own ret D cy Λ A) (hf : (ra M a x).bind f = some r) (hk : Is n a 11) (d : decode cc pc = .ok (.caload, 1)) (kk : ∀ z : Int32, f z = some r → GG p l e R s m args below meth c D cy Λ A nL cells slots Q n M (pc + 1) lv (.int z :: st)) : GG p l e R s m args below meth c D cy Λ A nL cells slots Q n M pc lv (.int x :: .ref (Λ a) :: st) := fun H locs ls hP hS hl => by
  obtain ⟨z, h1, h2⟩ := ob hf
  unfold ra at h1
  split at h1
  · rename_i q
    cases h1
    exact va_cald C.1.1 C.1.2.1 C.2.2.2.1 hP a 1 ((wl_get hk.1).trans (congrArg (fun e => some (Λ a, e)) (cell_a1 hk.2))) rfl q d (kk _ h2 H locs ls hP hS hl)
  · cases h1
theorem g_zald {a : Nat} {f : Int32 → Option α} (C : Cx p s m args meth c cc nL own ret D cy Λ A) (hf : (ra M a x).bind f = some r) (hk : Is n a 12) (d : decode cc pc = .ok (.baload, 1)) (kk : ∀ z : Int32, f z = some r → GG p l e R s m args below meth c D cy Λ A nL cells slots Q n M (pc + 1) lv (.int z :: st)) : GG p l e R s m args below meth c D cy Λ A nL cells slots Q n M pc lv (.int x :: .ref (Λ a) :: st) := fun H locs ls hP hS hl => by
  obtain ⟨z, h1, h2⟩ := ob hf
  unfold ra at h1
  split at h1
  · rename_i q
    cases h1
    exact va_zald C.1.1 C.1.2.1 C.2.2.2.1 hP a 2 ((wl_get hk.1).trans (congrArg (fun e => some (Λ a, e)) (cell_a2 hk.2))) rfl q d (kk _ h2 H locs ls hP hS hl)
  · cases h1
theorem g_iast {a : Nat} {f : Mem → Option α} (C : Cx p s m args meth c cc nL own ret D cy Λ A) (hf : (wa M a x y).bind f = some r) (hk : Is n a 10) (d : decode cc pc = .ok (.iastore, 1)) (kk : ∀ M2 : Mem, f M2 = some r → GG p l e R s m args below meth c D cy Λ A nL cells slots Q n M2 (pc + 1) lv st) : GG p l e R s m args below meth c D cy Λ A nL cells slots Q n M pc lv (.int y :: .int x :: .ref (Λ a) :: st) := fun H locs ls hP hS hl => by
  obtain ⟨M2, h1, h2⟩ := ob hf
  unfold wa at h1
  split at h1
  · rename_i q
    cases h1
    refine va_iast C.1.1 C.1.2.1 C.2.2.2.1 hP (wl_D C.2.2.2.2.2.1 C.2.2.2.2.2.2.1) hS a 0 ((wl_get hk.1).trans (congrArg (fun e => some (Λ a, e)) (cell_a0 hk.2))) rfl q d (fun H1 locs1 hP1 _ hS1 => ?_)
    rw [wl_set (M := M) (M2 := wI M a x.toNatClampNeg y) hk.1 (by rw [cell_a0 hk.2]; simp [wI, up2_at]; rfl) (fun k hk => by simp [wI]) (fun k hk => by simp [wI, up2, hk])] at hP1
    exact kk _ h2 H1 locs1 ls hP1 hS1 hl
  · cases h1
theorem g_cast {a : Nat} {f : Mem → Option α} (C : Cx p s m args meth c cc nL own ret D cy Λ A) (hf : (wa M a x (vp_nar .char y)).bind f = some r) (hk : Is n a 11) (d : decode cc pc = .ok (.castore, 1)) (kk : ∀ M2 : Mem, f M2 = some r → GG p l e R s m args below meth c D cy Λ A nL cells slots Q n M2 (pc + 1) lv st) : GG p l e R s m args below meth c D cy Λ A nL cells slots Q n M pc lv (.int y :: .int x :: .ref (Λ a) :: st) := fun H locs ls hP hS hl => by
  obtain ⟨M2, h1, h2⟩ := ob hf
  unfold wa at h1
  split at h1
  · rename_i q
    cases h1
    refine va_cast C.1.1 C.1.2.1 C.2.2.2.1 hP (wl_D C.2.2.2.2.2.1 C.2.2.2.2.2.2.1) hS a 1 ((wl_get hk.1).trans (congrArg (fun e => some (Λ a, e)) (cell_a1 hk.2))) rfl q d (fun H1 locs1 hP1 _ hS1 => ?_)
    rw [wl_set (M := M) (M2 := wI M a x.toNatClampNeg (vp_nar .char y)) hk.1 (by rw [cell_a1 hk.2]; simp [wI, up2_at]; rfl) (fun k hk => by simp [wI]) (fun k hk => by simp [wI, up2, hk])] at hP1
    exact kk _ h2 H1 locs1 ls hP1 hS1 hl
  · cases h1
theorem g_zast {a : Nat} {f : Mem → Option α} (C : Cx p s m args meth c cc nL own ret D cy Λ A) (hf : (wa M a x (vp_nar .boolean y)).bind f = some r) (hk : Is n a 12) (d : decode cc pc = .ok (.bastore, 1)) (kk : ∀ M2 : Mem, f M2 = some r → GG p l e R s m args below meth c D cy Λ A nL cells slots Q n M2 (pc + 1) lv st) : GG p l e R s m args below meth c D cy Λ A nL cells slots Q n M pc lv (.int y :: .int x :: .ref (Λ a) :: st) := fun H locs ls hP hS hl => by
  obtain ⟨M2, h1, h2⟩ := ob hf
  unfold wa at h1
  split at h1
  · rename_i q
    cases h1
    refine va_zast C.1.1 C.1.2.1 C.2.2.2.1 hP (wl_D C.2.2.2.2.2.1 C.2.2.2.2.2.2.1) hS a 2 ((wl_get hk.1).trans (congrArg (fun e => some (Λ a, e)) (cell_a2 hk.2))) rfl q d (fun H1 locs1 hP1 _ hS1 => ?_)
    rw [wl_set (M := M) (M2 := wI M a x.toNatClampNeg (vp_nar .boolean y)) hk.1 (by rw [cell_a2 hk.2]; simp [wI, up2_at]; rfl) (fun k hk => by simp [wI]) (fun k hk => by simp [wI, up2, hk])] at hP1
    exact kk _ h2 H1 locs1 ls hP1 hS1 hl
  · cases h1
theorem g_aald3 {T a : Nat} {f : Nat → Option α} (C : Cx p s m args meth c cc nL own ret D cy Λ A) (hf : (rr (T + 1) M a x).bind f = some r) (hk : Is NN a 13) (d : decode cc pc = .ok (.aaload, 1)) (kk : ∀ b : Nat, Is NN b (T + 1) → f b = some r → GG p l e R s m args below meth c D cy Λ A nL cells slots Q NN M (pc + 1) lv (.ref (Λ b) :: st)) : GG p l e R s m args below meth c D cy Λ A nL cells slots Q NN M pc lv (.int x :: .ref (Λ a) :: st) := fun H locs ls hP hS hl => by
  obtain ⟨b, h1, h2⟩ := ob hf
  unfold rr at h1
  split at h1
  · rename_i q
    obtain ⟨hb3, hb4⟩ := rf_is h1
    refine va_aldq C.1.1 C.1.2.1 C.2.2.2.1 hP a 3 ((wl_get hk.1).trans (congrArg (fun e => some (Λ a, e)) (cell_a3 hk.2))) rfl q d ?_
    rw [hb3]
    exact kk b hb4 h2 H locs ls hP hS hl
  · cases h1
theorem g_aald4 {T a : Nat} {f : Nat → Option α} (C : Cx p s m args meth c cc nL own ret D cy Λ A) (hf : (rr (T + 1) M a x).bind f = some r) (hk : Is NN a 14) (d : decode cc pc = .ok (.aaload, 1)) (kk : ∀ b : Nat, Is NN b (T + 1) → f b = some r → GG p l e R s m args below meth c D cy Λ A nL cells slots Q NN M (pc + 1) lv (.ref (Λ b) :: st)) : GG p l e R s m args below meth c D cy Λ A nL cells slots Q NN M pc lv (.int x :: .ref (Λ a) :: st) := fun H locs ls hP hS hl => by
  obtain ⟨b, h1, h2⟩ := ob hf
  unfold rr at h1
  split at h1
  · rename_i q
    obtain ⟨hb3, hb4⟩ := rf_is h1
    refine va_aldq C.1.1 C.1.2.1 C.2.2.2.1 hP a 4 ((wl_get hk.1).trans (congrArg (fun e => some (Λ a, e)) (cell_a4 hk.2))) rfl q d ?_
    rw [hb3]
    exact kk b hb4 h2 H locs ls hP hS hl
  · cases h1
theorem g_alen0 {a : Nat} (C : Cx p s m args meth c cc nL own ret D cy Λ A) (hk : Is n a 10) (d : decode cc pc = .ok (.arraylength, 1)) (kk : GG p l e R s m args below meth c D cy Λ A nL cells slots Q n M (pc + 1) lv (.int (nI (ln a)) :: st)) : GG p l e R s m args below meth c D cy Λ A nL cells slots Q n M pc lv (.ref (Λ a) :: st) := fun H locs ls hP hS hl =>
  va_alen C.1.1 C.1.2.1 C.2.2.2.1 hP a 0 ((wl_get hk.1).trans (congrArg (fun e => some (Λ a, e)) (cell_a0 hk.2))) rfl rfl d (kk H locs ls hP hS hl)
theorem g_alen1 {a : Nat} (C : Cx p s m args meth c cc nL own ret D cy Λ A) (hk : Is n a 11) (d : decode cc pc = .ok (.arraylength, 1)) (kk : GG p l e R s m args below meth c D cy Λ A nL cells slots Q n M (pc + 1) lv (.int (nI (ln a)) :: st)) : GG p l e R s m args below meth c D cy Λ A nL cells slots Q n M pc lv (.ref (Λ a) :: st) := fun H locs ls hP hS hl =>
  va_alen C.1.1 C.1.2.1 C.2.2.2.1 hP a 1 ((wl_get hk.1).trans (congrArg (fun e => some (Λ a, e)) (cell_a1 hk.2))) rfl rfl d (kk H locs ls hP hS hl)
theorem g_alen2 {a : Nat} (C : Cx p s m args meth c cc nL own ret D cy Λ A) (hk : Is n a 12) (d : decode cc pc = .ok (.arraylength, 1)) (kk : GG p l e R s m args below meth c D cy Λ A nL cells slots Q n M (pc + 1) lv (.int (nI (ln a)) :: st)) : GG p l e R s m args below meth c D cy Λ A nL cells slots Q n M pc lv (.ref (Λ a) :: st) := fun H locs ls hP hS hl =>
  va_alen C.1.1 C.1.2.1 C.2.2.2.1 hP a 2 ((wl_get hk.1).trans (congrArg (fun e => some (Λ a, e)) (cell_a2 hk.2))) rfl rfl d (kk H locs ls hP hS hl)
theorem g_alen3 {a : Nat} (C : Cx p s m args meth c cc nL own ret D cy Λ A) (hk : Is n a 13) (d : decode cc pc = .ok (.arraylength, 1)) (kk : GG p l e R s m args below meth c D cy Λ A nL cells slots Q n M (pc + 1) lv (.int (nI (ln a)) :: st)) : GG p l e R s m args below meth c D cy Λ A nL cells slots Q n M pc lv (.ref (Λ a) :: st) := fun H locs ls hP hS hl =>
  va_alen C.1.1 C.1.2.1 C.2.2.2.1 hP a 3 ((wl_get hk.1).trans (congrArg (fun e => some (Λ a, e)) (cell_a3 hk.2))) rfl rfl d (kk H locs ls hP hS hl)
theorem g_alen4 {a : Nat} (C : Cx p s m args meth c cc nL own ret D cy Λ A) (hk : Is n a 14) (d : decode cc pc = .ok (.arraylength, 1)) (kk : GG p l e R s m args below meth c D cy Λ A nL cells slots Q n M (pc + 1) lv (.int (nI (ln a)) :: st)) : GG p l e R s m args below meth c D cy Λ A nL cells slots Q n M pc lv (.ref (Λ a) :: st) := fun H locs ls hP hS hl =>
  va_alen C.1.1 C.1.2.1 C.2.2.2.1 hP a 4 ((wl_get hk.1).trans (congrArg (fun e => some (Λ a, e)) (cell_a4 hk.2))) rfl rfl d (kk H locs ls hP hS hl)
theorem g_copy {a b index : Nat} {z : Int32} {f : Mem → Option α} (C : Cx p s m args meth c cc nL own ret D cy Λ A) (hf : (cpM M a x b y z).bind f = some r) (hk : Is n a 10) (hk2 : Is n b 10) (hlink : Cond.methodLink own index arraycopyName ∈ gw) (h1w : Cond.native arraycopyName ∈ gw) (h2w : Cond.static arraycopyName ∈ gw) (h3w : Cond.initialized "java/lang/System" ∈ gw) (hR : 1 ≤ R.frames ∧ (st.map fun v => v.category).sum + (nativeFrameWords "java/lang/System" "arraycopy" 5 + 11) ≤ R.locals) (d : decode cc pc = .ok (.invokestatic index, 3)) (kk : ∀ M2 : Mem, f M2 = some r → GG p l e R s m args below meth c D cy Λ A nL cells slots Q n M2 (pc + 3) lv st) : GG p l e R s m args below meth c D cy Λ A nL cells slots Q n M pc lv (.int z :: .int y :: .ref (Λ b) :: .int x :: .ref (Λ a) :: st) := fun H locs ls hP hS hl => by
  obtain ⟨M2, h1, h2⟩ := ob hf
  unfold cpM at h1
  split at h1
  · rename_i q
    cases h1
    refine va_copyi C.1.1 C.1.2.1 (by rw [C.1.2.2.1]; exact hl.1.symm) C.1.2.2.2.1 (C.1.2.2.2.2 _ hlink) (C.1.2.2.2.2 _ h1w) (C.1.2.2.2.2 _ h2w) (C.1.2.2.2.2 _ h3w) C.2.2.2.1 hP (wl_D C.2.2.2.2.2.1 C.2.2.2.2.2.2.1) hS a b 0 0 ((wl_get hk.1).trans (congrArg (fun e => some (Λ a, e)) (cell_a0 hk.2))) ((wl_get hk2.1).trans (congrArg (fun e => some (Λ b, e)) (cell_a0 hk2.2))) (ty := .int) rfl rfl rfl q.1 q.2.1 q.2.2.1 q.2.2.2.1 q.2.2.2.2 (fun _ _ => rfl) hR.1 hR.2 d (fun H1 locs1 hP1 _ hS1 => ?_)
    rw [wl_set (M := M) (M2 := (M.1, fun k => if k = b then va_cpy (M.2 a) (M.2 b) x.toNatClampNeg y.toNatClampNeg z.toNatClampNeg else M.2 k)) hk2.1 (by rw [cell_a0 hk2.2]; simp) (fun k hk => rfl) (fun k hk => by simp [hk])] at hP1
    exact kk _ h2 H1 locs1 ls hP1 hS1 hl
  · cases h1
theorem g_min {index : Nat} (C : Cx p s m args meth c cc nL own ret D cy Λ A) (hlink : Cond.methodLink own index Lib.Math.min.name ∈ gw) (h1w : Cond.static Lib.Math.min.name ∈ gw) (h2w : Cond.initialized "java/lang/Math" ∈ gw) (h3w : Cond.code Lib.Math.min.name Lib.Math.min.code 2 (some .int) ∈ gw) (hR : 1 ≤ R.frames ∧ (st.map fun v => v.category).sum + 13 ≤ R.locals ∧ cells ≤ R.cells ∧ slots ≤ R.slots) (d : decode cc pc = .ok (.invokestatic index, 3)) (kk : GG p l e R s m args below meth c D cy Λ A nL cells slots Q n M (pc + 3) lv (.int (if y < x then y else x) :: st)) : GG p l e R s m args below meth c D cy Λ A nL cells slots Q n M pc lv (.int y :: .int x :: st) := fun H locs ls hP hS hl =>
  va_mmin C.1.1 C.1.2.1 (by rw [C.1.2.2.1]; exact hl.1.symm) C.1.2.2.2.1 (C.1.2.2.2.2 _ hlink) (C.1.2.2.2.2 _ h1w) (C.1.2.2.2.2 _ h2w) (C.1.2.2.2.2 _ h3w) hR.1 hR.2.1 hR.2.2.1 hR.2.2.2 d (kk H locs ls hP hS hl)
end ROWS
def b2 {α β γ : Type} (o : Option (α × β)) (f : α → β → Option γ) : Option γ := o.bind (fun q => f q.1 q.2)
theorem ob2 {α β γ : Type} {o : Option (α × β)} {f : α → β → Option γ} {r : γ} (h : b2 o f = some r) : ∃ a b, o = some (a, b) ∧ f a b = some r := by
  obtain ⟨q, h1, h2⟩ := ob h
  exact ⟨q.1, q.2, h1, h2⟩
def FU : Nat := 1000
section ROWS2
variable {p : Program} {l : Launch} {e : Env} {R : Room} {s : State} {m : MethodId} {args : Array Value} {below : List Frame} {meth : Method} {c : Code} {D : va_G} {cy : Nat → ClassId} {Λ : Nat → Nat} {A : Nat → Prop} {nL cells slots n : Nat} {Q : State → Prop} {M : Mem} {pc tgt : Nat} {lv lv2 : List (Nat × Value)} {st : List Value} {cc : ByteArray} {own : String} {ret : Option FieldType} {x y v : Int32} {α : Type} {X Y : Option α} {r : α}
theorem g_pI {ty : FieldType} {f : Mem → Option α} (C : Cx p s m args meth c cc nL own ret D cy Λ A) {ci a j index : Nat} (hf : (pI M a j x).bind f = some r) (F : FP own index ci j ty false) (hc : ci < 9) (hk : Is n a (ci + 1)) (hst : (fsOf Λ M a ci).set j (.int x) = fsOf Λ (wI M a j x) a ci) (hl0 : j < (fsOf Λ M a ci).length) (hn : narrow ty (.int x) = .int x) (hfit : fits ty (.int x) = true) (d : decode cc pc = .ok (.putfield index, 3)) (kk : ∀ M2 : Mem, f M2 = some r → GG p l e R s m args below meth c D cy Λ A nL cells slots Q n M2 (pc + 3) lv st) : GG p l e R s m args below meth c D cy Λ A nL cells slots Q n M pc lv (.int x :: .ref (Λ a) :: st) := g_putI C F hc hk hst hl0 hn hfit d (kk _ hf)
theorem g_pZ {f : Mem → Option α} (C : Cx p s m args meth c cc nL own ret D cy Λ A) {ci a j index : Nat} (hf : (pZ M a j x).bind f = some r) (F : FP own index ci j .boolean false) (hc : ci < 9) (hk : Is n a (ci + 1)) (hst : (fsOf Λ M a ci).set j (.int x) = fsOf Λ (wI M a j x) a ci) (hl0 : j < (fsOf Λ M a ci).length) (d : decode cc pc = .ok (.putfield index, 3)) (kk : ∀ M2 : Mem, f M2 = some r → GG p l e R s m args below meth c D cy Λ A nL cells slots Q n M2 (pc + 3) lv st) : GG p l e R s m args below meth c D cy Λ A nL cells slots Q n M pc lv (.int x :: .ref (Λ a) :: st) := by
  obtain ⟨⟨h1, h2⟩, h3⟩ := g_mZ hf
  exact g_putI C F hc hk hst hl0 h1 h2 d (kk _ h3)
theorem g_pR {b : Nat} {ty : FieldType} {f : Mem → Option α} (C : Cx p s m args meth c cc nL own ret D cy Λ A) {ci a j index : Nat} (hf : (pR M a j b).bind f = some r) (F : FP own index ci j ty false) (hc : ci < 9) (hk : Is n a (ci + 1)) (hst : (fsOf Λ M a ci).set j (.ref (Λ b)) = fsOf Λ (wR M a j b) a ci) (hl0 : j < (fsOf Λ M a ci).length) (hn : narrow ty (.ref (Λ b)) = .ref (Λ b)) (hfit : fits ty (.ref (Λ b)) = true) (d : decode cc pc = .ok (.putfield index, 3)) (kk : ∀ M2 : Mem, f M2 = some r → GG p l e R s m args below meth c D cy Λ A nL cells slots Q n M2 (pc + 3) lv st) : GG p l e R s m args below meth c D cy Λ A nL cells slots Q n M pc lv (.ref (Λ b) :: .ref (Λ a) :: st) := g_putR C F hc hk hst hl0 hn hfit d (kk _ hf)
end ROWS2
