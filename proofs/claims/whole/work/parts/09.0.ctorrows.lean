/-! ===== rows of constructors: cells are made, each at the world's end, which is the heap's ===== -/
def rfn (n T : Nat) (M : Mem) (a j : Nat) : Option Nat := match M.1 a j with
  | some b => if b < n ∧ kd b = T then some b else none
  | none => none
def wr (M : Mem) (a : Nat) (i : Int32) (b : Nat) : Option Mem := if ¬ (i < 0 ∨ ln a ≤ i.toNatClampNeg) then some (wR M a i.toNatClampNeg b) else none
def nw (T : Nat) (M : Mem) (n : Nat) : Option Mem := if kd n = T then some (al M n) else none
def nwa (T N : Nat) (M : Mem) (n : Nat) : Option Mem := if kd n = T ∧ ln n = N then some (al M n) else none
/-- what 'new' needs of the tables -/
def NW (own : String) (index ci N : Nat) (ty0 : Nat → FieldType) : Prop := ∃ (Cn : String) (T : u_T), vwCl[ci]? = some (Cn, T, N) ∧ (∀ w ∈ u_ws Cn T N, w ∈ gw) ∧ (∀ k, k < N → parseFieldDescriptor (T k).2.2.1 = some (ty0 k)) ∧ Cond.classLink own index Cn ∈ gw ∧ Cond.instantiable Cn N ∈ gw ∧ Cond.initialized Cn ∈ gw
theorem lam_add {Λ : Nat → Nat} (hL : ∀ k : Nat, Λ (k + 1) = Λ k + 1) (n k : Nat) : Λ (n + k) = Λ n + k := by
  induction k with
  | zero => rfl
  | succ k ih => rw [← Nat.add_assoc, hL, ih]; rfl
section CTOR
variable {p : Program} {l : Launch} {e : Env} {R : Room} {s : State} {m : MethodId} {args : Array Value} {below : List Frame} {meth : Method} {c : Code} {D : va_G} {cy : Nat → ClassId} {Λ : Nat → Nat} {A : Nat → Prop} {nL cells slots n n0 : Nat} {Q : State → Prop} {M : Mem} {pc tgt : Nat} {lv lv2 : List (Nat × Value)} {st : List Value} {cc : ByteArray} {own : String} {ret : Option FieldType} {x y v : Int32} {α : Type} {r : α}
theorem sz_exact {H : Heap} {locs : List Loc} {T : State} (hL : ∀ k : Nat, Λ (k + 1) = Λ k + 1) (hs : s.heap.size = Λ n0) (hn : n = n0 + cells) (X : Stand p l e R s m args below meth c T locs cells slots) (hT : T.heap = H) (hP : va_P D vwCl (wl cy n Λ M) H) (hS : va_S A s.heap H locs) : H.size = Λ n := by
  have h1 : T.heap.size ≤ s.heap.size + cells := X.same.2.2.1
  rw [hT] at h1
  subst hn
  rw [lam_add hL]
  have h2 : Λ n0 + cells ≤ H.size := by
    cases cells with
    | zero => have := hS.1; omega
    | succ k =>
      have h3 : Λ (n0 + k) < H.size := (hP (n0 + k) _ (wl_get (by omega))).lt
      rw [lam_add hL] at h3
      omega
  omega
theorem g_new {ci N index : Nat} {ty0 : Nat → FieldType} {f : Mem → Option α} (C : Cx p s m args meth c cc nL own ret D cy Λ A) (hf : (nw (ci + 1) M n).bind f = some r) (hL : ∀ k : Nat, Λ (k + 1) = Λ k + 1) (hs : s.heap.size = Λ n0) (hn : n = n0 + cells) (F : NW own index ci N ty0) (hc : ci < 9) (hdf : ∀ j, j < N → defaultValue (ty0 j) = vp_V (fsOf Λ (al M n) n ci) j) (hcs : cells + 1 ≤ R.cells ∧ slots + N ≤ R.slots) (d : decode cc pc = .ok (.new index, 3)) (kk : ∀ M2 : Mem, kd n = ci + 1 → f M2 = some r → GG p l e R s m args below meth c D cy Λ A nL (cells + 1) (slots + N) Q (n + 1) M2 (pc + 3) lv (.ref (Λ n) :: st)) : GG p l e R s m args below meth c D cy Λ A nL cells slots Q n M pc lv st := fun H locs ls hP hS hl => by
  intro T hT X
  have hz := sz_exact hL hs hn X hT hP hS
  obtain ⟨M2, g1, g2⟩ := ob hf
  unfold nw at g1
  split at g1
  · rename_i hk
    cases g1
    obtain ⟨Cn, T1, h1, h2, h3, h4, h5, h6⟩ := F
    have hKn := C.2.2.2.1.1 ci _ h1
    have hts := C.1.2.2.2.2
    suffices hW : W p l e R s m args below meth c H locs cells slots Q (F0 m pc ls st) from hW T hT X
    refine W.newcK C.1.1 C.1.2.1 C.1.2.2.2.1 (hts _ h4) (hts _ h5) (hts _ h6) rfl d hcs.1 hcs.2 hKn.2.1 hz (fun H1 kC hkC e1 z1 o1 => ?_)
    have hk2 : ∀ (k : Nat) (x : Nat × va_E), (wl cy n Λ M)[k]? = some x → H1[x.1]? = H[x.1]? := fun k x hx => o1 x.1 (by rw [← hz]; exact (hP k x hx).lt)
    refine kk _ hk g2 H1 locs ls ?_ ⟨Nat.le_trans hS.1 (by omega), fun x h1 h2 => (o1 x (by rw [← hz]; exact Nat.lt_of_lt_of_le h1 hS.1)).trans (hS.2.1 x h1 h2), hS.2.2⟩ hl
    rw [wl_push, cell_o hc hk]
    refine (hP.kept hk2).app (fun k x hx => ?_)
    have hz : k < 1 := (List.getElem?_eq_some_iff.mp hx).1
    rw [show k = 0 by omega] at hx
    cases hx
    exact ⟨_, h1, (u_born ty0 hts h2 hKn hkC e1 h3).to hdf⟩
  · cases g1
theorem g_newa {ai T N : Nat} {ty : FieldType} {atype : ArrayType} {f : Mem → Option α} (C : Cx p s m args meth c cc nL own ret D cy Λ A) (hf : (nwa T N M n).bind f = some r) (hL : ∀ k : Nat, Λ (k + 1) = Λ k + 1) (hs : s.heap.size = Λ n0) (hn : n = n0 + cells) (hty : newarray.typeOf atype = ty) (hw : Cond.arrayClass ty ∈ gw) (hra : ∀ U : State, ∀ cA : ClassId, va_RA U cA ty → U.vm.findClass ("[" ++ ty.toString) = some cA) (hd0 : defaultValue ty = .int 0) (htys : (tys cy)[ai]? = some (cy ai, ty)) (hcell : ∀ M2 : Mem, kd n = T → cellA cy Λ M2 n = .inl (cy ai, ln n, .inl (M2.2 n))) (hx : ¬ x < 0 ∧ x.toNatClampNeg = N) (hby : N * componentBytes ty ≤ 536870912) (hcs : cells + 1 ≤ R.cells ∧ slots + N ≤ R.slots) (d : decode cc pc = .ok (.newarray atype, 2)) (kk : ∀ M2 : Mem, kd n = T → f M2 = some r → GG p l e R s m args below meth c D cy Λ A nL (cells + 1) (slots + N) Q (n + 1) M2 (pc + 2) lv (.ref (Λ n) :: st)) : GG p l e R s m args below meth c D cy Λ A nL cells slots Q n M pc lv (.int x :: st) := fun H locs ls hP hS hl => by
  intro T1 hT X
  have hz := sz_exact hL hs hn X hT hP hS
  obtain ⟨M2, g1, g2⟩ := ob hf
  unfold nwa at g1
  split at g1
  · rename_i hk
    cases g1
    subst hty
    suffices hW : W p l e R s m args below meth c H locs cells slots Q (F0 m pc ls (.int x :: st)) from hW T1 hT X
    refine va_newaK C.1.1 C.1.2.1 (C.1.2.2.2.2 _ hw) rfl d rfl hx.1 hx.2 hby hcs.1 hcs.2 hz (fun H1 cA e1 z1 o1 hAr hNm => ?_)
    have hcA : cA = cy ai := Option.some.inj (hNm.symm.trans (hra s (cy ai) (C.2.2.2.1.2 ai _ htys).2))
    subst hcA
    have hk2 : ∀ (k : Nat) (x : Nat × va_E), (wl cy n Λ M)[k]? = some x → H1[x.1]? = H[x.1]? := fun k x hx => o1 x.1 (by rw [← hz]; exact (hP k x hx).lt)
    refine kk _ hk.1 g2 H1 locs ls ?_ ⟨Nat.le_trans hS.1 (by omega), fun x h1 h2 => (o1 x (by rw [← hz]; exact Nat.lt_of_lt_of_le h1 hS.1)).trans (hS.2.1 x h1 h2), hS.2.2⟩ hl
    rw [wl_push, hcell _ hk.1]
    refine (hP.kept hk2).app (fun k x hx => ?_)
    have hz : k < 1 := (List.getElem?_eq_some_iff.mp hx).1
    rw [show k = 0 by omega] at hx
    cases hx
    show H1[Λ n]? = some (vp_cell _ _)
    rw [e1, hd0, hk.2]
    simp [vp_cell, al]
  · cases g1
theorem g_newq {ai T N index : Nat} {Cn : String} {f : Mem → Option α} (C : Cx p s m args meth c cc nL own ret D cy Λ A) (hf : (nwa T N M n).bind f = some r) (hL : ∀ k : Nat, Λ (k + 1) = Λ k + 1) (hs : s.heap.size = Λ n0) (hn : n = n0 + cells) (hw : Cond.classLink own index Cn ∈ gw) (ho : Cond.arrayOver (.object Cn) ∈ nst) (htys : (tys cy)[ai]? = some (cy ai, .object Cn)) (hcell : ∀ M2 : Mem, kd n = T → cellA cy Λ M2 n = .inl (cy ai, ln n, .inr (.inr (.inr (.inr (fun j => (M2.1 n j).map Λ)))))) (hx : ¬ x < 0 ∧ x.toNatClampNeg = N) (hby : N * 4 ≤ 536870912) (hcs : cells + 1 ≤ R.cells ∧ slots + N ≤ R.slots) (d : decode cc pc = .ok (.anewarray index, 3)) (kk : ∀ M2 : Mem, kd n = T → f M2 = some r → GG p l e R s m args below meth c D cy Λ A nL (cells + 1) (slots + N) Q (n + 1) M2 (pc + 3) lv (.ref (Λ n) :: st)) : GG p l e R s m args below meth c D cy Λ A nL cells slots Q n M pc lv (.int x :: st) := fun H locs ls hP hS hl => by
  intro T1 hT X
  have hz := sz_exact hL hs hn X hT hP hS
  obtain ⟨M2, g1, g2⟩ := ob hf
  unfold nwa at g1
  split at g1
  · rename_i hk
    cases g1
    obtain ⟨hx1, rfl⟩ := hx
    suffices hW : W p l e R s m args below meth c H locs cells slots Q (F0 m pc ls (.int x :: st)) from hW T1 hT X
    refine W.anew C.1.1 C.1.2.1 C.1.2.2.2.1 (C.1.2.2.2.2 _ hw) (va_AO.use (C.2.2.2.2.1 _ ho)) rfl d rfl hx1 hby hcs.1 hcs.2 (fun cA kA comp f1 f2 f3 f4 => ?_)
    generalize hH1 : H.push ({ cls := cA, slots := Array.replicate x.toNatClampNeg .null, vm := .none } : Cell) = H1
    have z1 : H1.size = H.size + 1 := by rw [← hH1, Array.size_push]
    have e1 : H1[H.size]? = some (arrV cA x.toNatClampNeg (fun _ => .null)) := by rw [← hH1, Array.getElem?_push_size, ← arrV_new]
    have o1 : ∀ q : Nat, q < H.size → H1[q]? = H[q]? := fun q hq => by rw [← hH1, Array.getElem?_push, if_neg (Nat.ne_of_lt hq)]
    obtain ⟨kA2, comp2, a1, a2, a3, a4⟩ := (C.2.2.2.1.2 ai _ htys).2
    have hcA : cA = cy ai := Option.some.inj (f1.symm.trans a4)
    subst hcA
    have hk2 : ∀ (k : Nat) (x : Nat × va_E), (wl cy n Λ M)[k]? = some x → H1[x.1]? = H[x.1]? := fun k x hx => o1 x.1 ((hP k x hx).lt)
    rw [hz]
    refine kk _ hk.1 g2 H1 locs ls ?_ ⟨Nat.le_trans hS.1 (by omega), fun x h1 h2 => (o1 x (Nat.lt_of_lt_of_le h1 hS.1)).trans (hS.2.1 x h1 h2), hS.2.2⟩ hl
    rw [wl_push, hcell _ hk.1]
    refine (hP.kept hk2).app (fun k x hx => ?_)
    have hz2 : k < 1 := (List.getElem?_eq_some_iff.mp hx).1
    rw [show k = 0 by omega] at hx
    cases hx
    show H1[Λ n]? = some (vp_cell _ _)
    rw [← hz, e1, hk.2]
    simp [vp_cell, al, va_rf]
  · cases g1
theorem g_getRn {T ci a j index : Nat} {f : Nat → Option α} (C : Cx p s m args meth c cc nL own ret D cy Λ A) (hf : (rfn n T M a j).bind f = some r) (F : FG own index ci j) (hc : ci < 9) (hk : Is n a (ci + 1)) (hv : (fsOf Λ M a ci)[j]? = some (va_re Λ (M.1 a j))) (d : decode cc pc = .ok (.getfield index, 3)) (kk : ∀ b : Nat, Is n b T → f b = some r → GG p l e R s m args below meth c D cy Λ A nL cells slots Q n M (pc + 3) lv (.ref (Λ b) :: st)) : GG p l e R s m args below meth c D cy Λ A nL cells slots Q n M pc lv (.ref (Λ a) :: st) := fun H locs ls hP hS hl => by
  obtain ⟨C1, T1, N1, h1, h2, h3, h4⟩ := F
  obtain ⟨b, hb1, hb2⟩ := ob hf
  unfold rfn at hb1
  split at hb1
  · rename_i z hz
    split at hb1
    · rename_i hq
      cases hb1
      have hv2 : (fsOf Λ M a ci)[j]? = some (.ref (Λ b)) := by rw [hv, hz]; rfl
      exact va_get C.1.1 C.1.2.1 C.1.2.2.2.2 h2 C.1.2.2.2.1 C.2.2.2.1 hP a ((wl_get hk.1).trans (congrArg (fun e => some (Λ a, e)) (cell_o hc hk.2))) h1 j h3 (C.1.2.2.2.2 _ h4) (fun _ h9 => h9) hv2 d (kk b hq hb2 H locs ls hP hS hl)
    · cases hb1
  · cases hb1
theorem g_aast {ai T a b ci N : Nat} {Cn : String} {T1 : u_T} {f : Mem → Option α} (C : Cx p s m args meth c cc nL own ret D cy Λ A) (hf : (wr M a x b).bind f = some r) (hk : Is n a T) (hb : Is n b (ci + 1)) (hc : ci < 9) (hci : vwCl[ci]? = some (Cn, T1, N)) (htys : (tys cy)[ai]? = some (cy ai, .object Cn)) (hcell : ∀ M2 : Mem, kd a = T → cellA cy Λ M2 a = .inl (cy ai, ln a, .inr (.inr (.inr (.inr (fun j => (M2.1 a j).map Λ)))))) (d : decode cc pc = .ok (.aastore, 1)) (kk : ∀ M2 : Mem, f M2 = some r → GG p l e R s m args below meth c D cy Λ A nL cells slots Q n M2 (pc + 1) lv st) : GG p l e R s m args below meth c D cy Λ A nL cells slots Q n M pc lv (.ref (Λ b) :: .int x :: .ref (Λ a) :: st) := fun H locs ls hP hS hl => by
  obtain ⟨M2, h1, h2⟩ := ob hf
  unfold wr at h1
  split at h1
  · rename_i q
    cases h1
    refine va_astq C.1.1 C.1.2.1 C.2.2.2.1 hP (wl_D C.2.2.2.2.2.1 C.2.2.2.2.2.2.1) hS a ai b ci (r := (Cn, T1, N)) ((wl_get hk.1).trans (congrArg (fun e => some (Λ a, e)) (hcell _ hk.2))) htys ((wl_get hb.1).trans (congrArg (fun e => some (Λ b, e)) (cell_o hc hb.2))) hci q d (fun H1 locs1 hP1 _ hS1 => ?_)
    rw [wl_set (M := M) (M2 := wR M a x.toNatClampNeg b) hk.1 (by
      rw [hcell _ hk.2]
      congr 8
      funext j
      simp only [wR, up2_at, va_up]
      split <;> rfl) (fun k hk => by simp [wR, up2, hk]) (fun k hk => by simp [wR])] at hP1
    exact kk _ h2 H1 locs1 ls hP1 hS1 hl
  · cases h1
theorem g_obj {idx z : Nat} (C : Cx p s m args meth c cc nL own ret D cy Λ A) (h1 : Cond.methodLink own idx objectInit ∈ gw) (h2 : Cond.instanceMethod objectInit ∈ gw) (h3 : Cond.code objectInit ⟨#[0xb1]⟩ 1 none ∈ gw) (hR : 1 ≤ R.frames ∧ (st.map fun v => v.category).sum + 12 ≤ R.locals) (d : decode cc pc = .ok (.invokespecial idx, 3)) (kk : GG p l e R s m args below meth c D cy Λ A nL cells slots Q n M (pc + 3) lv st) : GG p l e R s m args below meth c D cy Λ A nL cells slots Q n M pc lv (.ref z :: st) := fun H locs ls hP hS hl =>
  W.objInit C.1.1 C.1.2.1 C.1.2.2.2.1 (C.1.2.2.2.2 _ h1) (C.1.2.2.2.2 _ h2) (C.1.2.2.2.2 _ h3) rfl (by rw [C.1.2.2.1]; exact hl.1) rfl d hR.1 (by show 2 * 0 + _ + 12 ≤ _; omega) (kk H locs ls hP hS hl)
theorem g_ctor {y : MethodName} {b2 : ByteArray} {mL mc ms index n2 a : Nat} {rm : Room} {M2 : Mem} (C : Cx p s m args meth c cc nL own ret D cy Λ A) (hL : ∀ k : Nat, Λ (k + 1) = Λ k + 1) (hs : s.heap.size = Λ n0) (hn : n = n0 + cells) (ct : CtC l y b2 mL none rm D cy Λ [.ref (Λ a)] n M mc ms (QcV D cy Λ n2 M2)) (L : LkI own index y b2 mL 0) (hW : (st.map fun v => v.category).sum ≤ 8) (hR : (rm.cells = mc ∧ rm.slots = ms) ∧ rm.frames + 1 ≤ R.frames ∧ 8 + (mL + 11) + rm.locals ≤ R.locals) (hcs : cells + mc ≤ R.cells ∧ slots + ms ≤ R.slots) (d : decode cc pc = .ok (.invokespecial index, 3)) (kk : GG p l e R s m args below meth c D cy Λ A nL (cells + mc) (slots + ms) Q n2 M2 (pc + 3) lv st) : GG p l e R s m args below meth c D cy Λ A nL cells slots Q n M pc lv (.ref (Λ a) :: st) := fun H locs ls hP hS hl => by
  intro T hT X
  have hz := sz_exact hL hs hn X hT hP hS
  unfold CtC at ct
  rw [← hz] at ct
  have hA : ∀ q, AA Λ H.size q → A q := fun q h => by
    rcases h with ⟨k, rfl⟩ | h
    · exact C.2.2.2.2.2.2.1 k
    · exact C.2.2.2.2.2.2.2 q (Nat.le_trans hS.1 h)
  obtain ⟨⟨h1, h2, h3, h4⟩, h5, h6⟩ := L
  suffices hW9 : W p l e R s m args below meth c H locs cells slots Q (F0 m pc ls (.ref (Λ a) :: st)) from hW9 T hT X
  refine va_callv (va_runI (As := []) (rest := st) C.1 ct (cwI 0 C.1.2.2.2.2 (gw_good (gwc h4)) rfl hR.1.1 hR.1.2 (C.1.2.2.2.2 _ h3) (C.1.2.2.2.2 _ h1) (C.1.2.2.2.2 _ h2) h5 h6 hR.2) ⟨pre_blind, pre_at C hP⟩ rfl rfl hl.1 rfl (lv_room hW) d hcs) hS (fun q _ h => hA q h) hA (fun u t H1 locs1 ht hvm hpost hB hz hk hS1 => ?_)
  rw [ht] at hB
  exact kk H1 locs1 ls hB hS1 hl
theorem g_ctorN {y : MethodName} {b2 : ByteArray} {mL mc ms index n2 a : Nat} {rm : Room} {M2 : Mem} (C : Cx p s m args meth c cc nL own ret D cy Λ A) (hL : ∀ k : Nat, Λ (k + 1) = Λ k + 1) (hs : s.heap.size = Λ n0) (hn : n = n0 + cells) (ct : CtC l y b2 mL none rm D cy Λ [.ref (Λ a)] n M mc ms (QcV D cy Λ n2 M2)) (L : LkIN own index y b2 mL 0) (hW : (st.map fun v => v.category).sum ≤ 8) (hR : (rm.cells = mc ∧ rm.slots = ms) ∧ rm.frames + 1 ≤ R.frames ∧ 8 + (mL + 11) + rm.locals ≤ R.locals) (hcs : cells + mc ≤ R.cells ∧ slots + ms ≤ R.slots) (d : decode cc pc = .ok (.invokespecial index, 3)) (kk : GG p l e R s m args below meth c D cy Λ A nL (cells + mc) (slots + ms) Q n2 M2 (pc + 3) lv st) : GG p l e R s m args below meth c D cy Λ A nL cells slots Q n M pc lv (.ref (Λ a) :: st) := fun H locs ls hP hS hl => by
  intro T hT X
  have hz := sz_exact hL hs hn X hT hP hS
  unfold CtC at ct
  rw [← hz] at ct
  have hA : ∀ q, AA Λ H.size q → A q := fun q h => by
    rcases h with ⟨k, rfl⟩ | h
    · exact C.2.2.2.2.2.2.1 k
    · exact C.2.2.2.2.2.2.2 q (Nat.le_trans hS.1 h)
  obtain ⟨⟨host, hh⟩, ⟨h2, h3, h4⟩, h5, h6⟩ := L
  suffices hW9 : W p l e R s m args below meth c H locs cells slots Q (F0 m pc ls (.ref (Λ a) :: st)) from hW9 T hT X
  refine va_callv (va_runIN (As := []) (rest := st) C.1 ct ⟨va_cnB 0 C.1.2.2.2.2 (gw_good (gwc h4)) rfl hR.1.1 hR.1.2 (C.2.2.2.2.1 _ hh) (C.1.2.2.2.2 _ h3) h6 hR.2, h5, C.1.2.2.2.2 _ h2⟩ ⟨pre_blind, pre_at C hP⟩ rfl rfl hl.1 rfl (lv_room hW) d hcs) hS (fun q _ h => hA q h) hA (fun u t H1 locs1 ht hvm hpost hB hz hk hS1 => ?_)
  rw [ht] at hB
  exact kk H1 locs1 ls hB hS1 hl
theorem g_pFI {ci a j index : Nat} {ty : FieldType} {f : Mem → Option α} (C : Cx p s m args meth c cc nL own ret D cy Λ A) (hf : (pI M a j x).bind f = some r) (hin : meth.name = "<init>") (F : FP own index ci j ty true) (hc : ci < 9) (hk : Is n a (ci + 1)) (hst : (fsOf Λ M a ci).set j (.int x) = fsOf Λ (wI M a j x) a ci) (hl0 : j < (fsOf Λ M a ci).length) (hn : narrow ty (.int x) = .int x) (hfit : fits ty (.int x) = true) (d : decode cc pc = .ok (.putfield index, 3)) (kk : ∀ M2 : Mem, f M2 = some r → GG p l e R s m args below meth c D cy Λ A nL cells slots Q n M2 (pc + 3) lv st) : GG p l e R s m args below meth c D cy Λ A nL cells slots Q n M pc lv (.int x :: .ref (Λ a) :: st) := g_putFI hin C F hc hk hst hl0 hn hfit d (kk _ hf)
theorem g_pFR {ci a j b index : Nat} {ty : FieldType} {f : Mem → Option α} (C : Cx p s m args meth c cc nL own ret D cy Λ A) (hf : (pR M a j b).bind f = some r) (hin : meth.name = "<init>") (F : FP own index ci j ty true) (hc : ci < 9) (hk : Is n a (ci + 1)) (hst : (fsOf Λ M a ci).set j (.ref (Λ b)) = fsOf Λ (wR M a j b) a ci) (hl0 : j < (fsOf Λ M a ci).length) (hn : narrow ty (.ref (Λ b)) = .ref (Λ b)) (hfit : fits ty (.ref (Λ b)) = true) (d : decode cc pc = .ok (.putfield index, 3)) (kk : ∀ M2 : Mem, f M2 = some r → GG p l e R s m args below meth c D cy Λ A nL cells slots Q n M2 (pc + 3) lv st) : GG p l e R s m args below meth c D cy Λ A nL cells slots Q n M pc lv (.ref (Λ b) :: .ref (Λ a) :: st) := g_putFR hin C F hc hk hst hl0 hn hfit d (kk _ hf)
end CTOR
