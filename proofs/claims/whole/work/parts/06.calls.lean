/-! ===== contracts, entry, returns, calls ===== -/
def PreW (D : va_G) (cy : Nat → ClassId) (Λ : Nat → Nat) (av : List Value) (n : Nat) (M : Mem) (sz : Nat) : Array Value → State → Prop := va_Pc av (fun U => U.heap.size = sz ∧ va_P D vwCl (wl cy n Λ M) U.heap ∧ va_K D vwCl (tys cy) U ∧ ∀ w ∈ nst, va_Nw w U)
def QcI (D : va_G) (cy : Nat → ClassId) (Λ : Nat → Nat) (n : Nat) (r : Int32) (M : Mem) (sz : Nat) : Array Value → State → Outcome → State → Prop := va_Qi (fun (r2 : Int32) (_ : Unit) => r2 = r) (fun _ t => va_P D vwCl (wl cy n Λ M) t.heap) (AA Λ sz)
def QcV (D : va_G) (cy : Nat → ClassId) (Λ : Nat → Nat) (n : Nat) (M : Mem) (sz : Nat) : Array Value → State → Outcome → State → Prop := va_Qv (fun (_ : Unit) => True) (fun _ t => va_P D vwCl (wl cy n Λ M) t.heap) (AA Λ sz)
def QcR (D : va_G) (cy : Nat → ClassId) (Λ : Nat → Nat) (n : Nat) (a : Nat) (M : Mem) (sz : Nat) : Array Value → State → Outcome → State → Prop := va_Qr (fun (_ : Unit) => True) (fun _ b t => b = Λ a ∧ va_P D vwCl (wl cy n Λ M) t.heap) (AA Λ sz)
def Ct (l : Launch) (y : MethodName) (b : ByteArray) (mL : Nat) (ret : Option FieldType) (rm : Room) (D : va_G) (cy : Nat → ClassId) (Λ : Nat → Nat) (av : List Value) (n : Nat) (M : Mem) (mc ms : Nat) (Qc : Nat → Array Value → State → Outcome → State → Prop) : Prop :=
  ∀ sz : Nat, Met l y (.code y b mL ret :: gw) rm (PreW D cy Λ av n M sz) (Qc sz) mc ms (AA Λ sz)
/-- a constructor's: its world ends where the heap does -/
def CtC (l : Launch) (y : MethodName) (b : ByteArray) (mL : Nat) (ret : Option FieldType) (rm : Room) (D : va_G) (cy : Nat → ClassId) (Λ : Nat → Nat) (av : List Value) (n : Nat) (M : Mem) (mc ms : Nat) (Qc : Nat → Array Value → State → Outcome → State → Prop) : Prop :=
  Met l y (.code y b mL ret :: gw) rm (PreW D cy Λ av n M (Λ n)) (Qc (Λ n)) mc ms (AA Λ (Λ n))
theorem ent0 {l : Launch} {y : MethodName} {b : ByteArray} {mL : Nat} {ret : Option FieldType} {rm : Room} {D : va_G} {cy : Nat → ClassId} {Λ : Nat → Nat} {av : List Value} {n : Nat} {M : Mem} {mc ms sz : Nat} {Qc : Nat → Array Value → State → Outcome → State → Prop} (hy : plainName y.cls = true) (hi : ∀ i j : Nat, Λ i = Λ j → i = j) (hlen : (lg_sl av).length ≤ mL)
    (body : ∀ (p : Program) (e : Env) (s : State) (m : MethodId) (args : Array Value) (below : List Frame) (meth : Method) (c : Code), s.heap.size = sz → meth.name = y.name → Cx p s m args meth c b mL y.cls ret D cy Λ (AA Λ s.heap.size) → GG p l e rm s m args below meth c D cy Λ (AA Λ s.heap.size) mL 0 0 (MQ below (Qc s.heap.size) args s mc ms (AA Λ s.heap.size)) n M 0 (lv_args 0 av) []) :
    Met l y (.code y b mL ret :: gw) rm (PreW D cy Λ av n M sz) (Qc sz) mc ms (AA Λ sz) := by
  refine Met.ofW (cc := b) (maxL := mL) (ret := ret) hy rfl ?_
  intro p e s m args below meth c s₁ B hml hv
  obtain ⟨rfl, hsz, hP, hK, hN⟩ := hv
  subst hsz
  have hts := atoms_spec (ws := (.code y b mL ret :: gw)) B.pre
  have C : Cx p s m av.toArray meth c b mL y.cls ret D cy Λ (AA Λ s.heap.size) := ⟨⟨B.exec, B.bytes, hml, findClass_of_methodNamed B.named, fun w hw => hts w (List.mem_cons_of_mem _ hw)⟩, B.returns, B.notSynchronized, hK, hN, hi, fun k => Or.inl ⟨k, rfl⟩, fun q h => Or.inr h⟩
  rw [lg_entry_eq]
  exact body p e s m _ below meth c rfl (name_of_methodNamed B.named B.method).1 C s.heap [] _ hP va_S.rf (lv_entry av hlen)
theorem ent {l : Launch} {y : MethodName} {b : ByteArray} {mL : Nat} {ret : Option FieldType} {rm : Room} {D : va_G} {cy : Nat → ClassId} {Λ : Nat → Nat} {av : List Value} {n : Nat} {M : Mem} {mc ms : Nat} {Qc : Nat → Array Value → State → Outcome → State → Prop} (hy : plainName y.cls = true) (hi : ∀ i j : Nat, Λ i = Λ j → i = j) (hlen : (lg_sl av).length ≤ mL)
    (body : ∀ (p : Program) (e : Env) (s : State) (m : MethodId) (args : Array Value) (below : List Frame) (meth : Method) (c : Code), Cx p s m args meth c b mL y.cls ret D cy Λ (AA Λ s.heap.size) → GG p l e rm s m args below meth c D cy Λ (AA Λ s.heap.size) mL 0 0 (MQ below (Qc s.heap.size) args s mc ms (AA Λ s.heap.size)) n M 0 (lv_args 0 av) []) :
    Ct l y b mL ret rm D cy Λ av n M mc ms Qc := fun sz => ent0 hy hi hlen (fun p e s m args below meth c _ _ C => body p e s m args below meth c C)
theorem entC {l : Launch} {y : MethodName} {b : ByteArray} {mL : Nat} {ret : Option FieldType} {rm : Room} {D : va_G} {cy : Nat → ClassId} {Λ : Nat → Nat} {av : List Value} {n : Nat} {M : Mem} {mc ms : Nat} {Qc : Nat → Array Value → State → Outcome → State → Prop} (hy : plainName y.cls = true) (hi : ∀ i j : Nat, Λ i = Λ j → i = j) (hlen : (lg_sl av).length ≤ mL)
    (body : ∀ (p : Program) (e : Env) (s : State) (m : MethodId) (args : Array Value) (below : List Frame) (meth : Method) (c : Code), s.heap.size = Λ n → meth.name = y.name → Cx p s m args meth c b mL y.cls ret D cy Λ (AA Λ s.heap.size) → GG p l e rm s m args below meth c D cy Λ (AA Λ s.heap.size) mL 0 0 (MQ below (Qc s.heap.size) args s mc ms (AA Λ s.heap.size)) n M 0 (lv_args 0 av) []) :
    CtC l y b mL ret rm D cy Λ av n M mc ms Qc := ent0 hy hi hlen body
section RET
variable {p : Program} {l : Launch} {e : Env} {R : Room} {s : State} {m : MethodId} {args : Array Value} {below : List Frame} {meth : Method} {c : Code} {D : va_G} {cy : Nat → ClassId} {Λ : Nat → Nat} {nL cells slots n : Nat} {M M2 : Mem} {pc : Nat} {lv : List (Nat × Value)} {cc : ByteArray} {own : String} {x z : Int32}
theorem g_iret (C : Cx p s m args meth c cc nL own (some .int) D cy Λ (AA Λ s.heap.size)) (hf : some x = some z) (d : decode cc pc = .ok (.ireturn, 1)) : GG p l e R s m args below meth c D cy Λ (AA Λ s.heap.size) nL cells slots (MQ below (QcI D cy Λ n z M s.heap.size) args s cells slots (AA Λ s.heap.size)) n M pc lv [.int x] := fun H locs ls hP hS hl => by
  cases hf
  exact W.iret C.1.1 C.1.2.1 C.2.1 (fun t ht hW => ⟨⟨x, (), rfl, rfl, by subst ht; exact hP⟩, hS.F ht⟩) hS.2.2 d C.2.2.1
theorem g_iretM (C : Cx p s m args meth c cc nL own (some .int) D cy Λ (AA Λ s.heap.size)) (hf : some (x, M) = some (z, M2)) (d : decode cc pc = .ok (.ireturn, 1)) : GG p l e R s m args below meth c D cy Λ (AA Λ s.heap.size) nL cells slots (MQ below (QcI D cy Λ n z M2 s.heap.size) args s cells slots (AA Λ s.heap.size)) n M pc lv [.int x] := fun H locs ls hP hS hl => by
  cases hf
  exact W.iret C.1.1 C.1.2.1 C.2.1 (fun t ht hW => ⟨⟨x, (), rfl, rfl, by subst ht; exact hP⟩, hS.F ht⟩) hS.2.2 d C.2.2.1
theorem g_zret (C : Cx p s m args meth c cc nL own (some .boolean) D cy Λ (AA Λ s.heap.size)) (hn : narrow .boolean (.int x) = .int x) (hf : some x = some z) (d : decode cc pc = .ok (.ireturn, 1)) : GG p l e R s m args below meth c D cy Λ (AA Λ s.heap.size) nL cells slots (MQ below (QcI D cy Λ n z M s.heap.size) args s cells slots (AA Λ s.heap.size)) n M pc lv [.int x] := fun H locs ls hP hS hl => by
  cases hf
  exact W.zret C.1.1 C.1.2.1 C.2.1 hn (fun t ht hW => ⟨⟨x, (), rfl, rfl, by subst ht; exact hP⟩, hS.F ht⟩) hS.2.2 d C.2.2.1
theorem g_zretM (C : Cx p s m args meth c cc nL own (some .boolean) D cy Λ (AA Λ s.heap.size)) (hn : narrow .boolean (.int x) = .int x) (hf : some (x, M) = some (z, M2)) (d : decode cc pc = .ok (.ireturn, 1)) : GG p l e R s m args below meth c D cy Λ (AA Λ s.heap.size) nL cells slots (MQ below (QcI D cy Λ n z M2 s.heap.size) args s cells slots (AA Λ s.heap.size)) n M pc lv [.int x] := fun H locs ls hP hS hl => by
  cases hf
  exact W.zret C.1.1 C.1.2.1 C.2.1 hn (fun t ht hW => ⟨⟨x, (), rfl, rfl, by subst ht; exact hP⟩, hS.F ht⟩) hS.2.2 d C.2.2.1
theorem bz_n {α : Type} {f : Unit → Option α} {r : α} (hf : (bz x).bind f = some r) : narrow .boolean (.int x) = .int x ∧ f () = some r := by
  obtain ⟨u, h1, h2⟩ := ob hf
  unfold bz at h1
  split at h1
  · rename_i q
    cases h1
    refine ⟨?_, h2⟩
    rcases q with rfl | rfl <;> decide
  · cases h1
theorem g_vret (C : Cx p s m args meth c cc nL own none D cy Λ (AA Λ s.heap.size)) (hf : some M = some M2) (d : decode cc pc = .ok (.return_, 1)) : GG p l e R s m args below meth c D cy Λ (AA Λ s.heap.size) nL cells slots (MQ below (QcV D cy Λ n M2 s.heap.size) args s cells slots (AA Λ s.heap.size)) n M pc lv [] := fun H locs ls hP hS hl => by
  cases hf
  exact W.vret C.1.1 C.1.2.1 C.2.1 (fun t ht hW => ⟨⟨(), rfl, trivial, by subst ht; exact hP⟩, hS.F ht⟩) hS.2.2 d C.2.2.1
theorem g_aretM {a a2 : Nat} {cn : String} (C : Cx p s m args meth c cc nL own (some (.object cn)) D cy Λ (AA Λ s.heap.size)) (hf : some (a, M) = some (a2, M2)) (d : decode cc pc = .ok (.areturn, 1)) : GG p l e R s m args below meth c D cy Λ (AA Λ s.heap.size) nL cells slots (MQ below (QcR D cy Λ n a2 M2 s.heap.size) args s cells slots (AA Λ s.heap.size)) n M pc lv [.ref (Λ a)] := fun H locs ls hP hS hl => by
  cases hf
  exact W.aret C.1.1 C.1.2.1 C.2.1 (Or.inl ⟨_, rfl⟩) (Or.inr ⟨_, rfl⟩) (fun t ht hW => ⟨⟨(), Λ a, rfl, trivial, rfl, by subst ht; exact hP⟩, hS.F ht⟩) hS.2.2 d C.2.2.1
end RET
/-! what a call needs of the tables -/
abbrev Nms (y : MethodName) (k : Nat) : Prop := y.cls ≠ "java/lang/invoke/MethodHandle" ∧ y.cls ≠ "java/lang/invoke/VarHandle" ∧ (parseMethodDescriptor y.desc).map (fun d => d.parameters.length) = some k
def LkV (own : String) (index : Nat) (y : MethodName) (b : ByteArray) (mL : Nat) (ret : Option FieldType) (k : Nat) : Prop := (Cond.methodLink own index y ∈ gw ∧ Cond.instanceMethod y ∈ gw ∧ Cond.selects y.cls y y ∈ gw ∧ Cond.initialized y.cls ∈ gw ∧ Cond.code y b mL ret ∈ gw) ∧ Nms y k
def LkS (own : String) (index : Nat) (y : MethodName) (b : ByteArray) (mL : Nat) (ret : Option FieldType) (k : Nat) : Prop := (Cond.methodLink own index y ∈ gw ∧ Cond.static y ∈ gw ∧ Cond.initialized y.cls ∈ gw ∧ Cond.code y b mL ret ∈ gw) ∧ Nms y k
def LkSN (own : String) (index : Nat) (y : MethodName) (b : ByteArray) (mL : Nat) (ret : Option FieldType) (k : Nat) : Prop := (∃ host : String, Cond.methodLinkNest own index y host ∈ nst) ∧ (Cond.static y ∈ gw ∧ Cond.initialized y.cls ∈ gw ∧ Cond.code y b mL ret ∈ gw) ∧ Nms y k
def LkI (own : String) (index : Nat) (y : MethodName) (b : ByteArray) (mL : Nat) (k : Nat) : Prop := (Cond.methodLink own index y ∈ gw ∧ Cond.instanceMethod y ∈ gw ∧ Cond.initialized y.cls ∈ gw ∧ Cond.code y b mL none ∈ gw) ∧ y.name = "<init>" ∧ Nms y k
def LkIN (own : String) (index : Nat) (y : MethodName) (b : ByteArray) (mL : Nat) (k : Nat) : Prop := (∃ host : String, Cond.methodLinkNest own index y host ∈ nst) ∧ (Cond.instanceMethod y ∈ gw ∧ Cond.initialized y.cls ∈ gw ∧ Cond.code y b mL none ∈ gw) ∧ y.name = "<init>" ∧ Nms y k
theorem gwc {w : Cond} (h : w ∈ gw) : ∀ w2 ∈ (w :: gw), w2 ∈ gw := fun w2 h2 => by
  rcases List.mem_cons.mp h2 with rfl | h3
  · exact h
  · exact h3
section CALLS
variable {p : Program} {l : Launch} {e : Env} {R : Room} {s : State} {m : MethodId} {args : Array Value} {below : List Frame} {meth : Method} {c : Code} {D : va_G} {cy : Nat → ClassId} {Λ : Nat → Nat} {A : Nat → Prop} {nL cells slots n : Nat} {Q : State → Prop} {M M2 : Mem} {pc : Nat} {lv : List (Nat × Value)} {st stk As : List Value} {cc : ByteArray} {own : String} {ret : Option FieldType} {x : Int32}
variable {y : MethodName} {b2 : ByteArray} {mL : Nat} {ret2 : Option FieldType} {rm : Room} {mc ms index k : Nat} {Qc : Nat → Array Value → State → Outcome → State → Prop} {arr : Array Value}
def RN (p : Program) (l : Launch) (e : Env) (R : Room) (s : State) (m : MethodId) (args : Array Value) (below : List Frame) (meth : Method) (c : Code) (D : va_G) (cy : Nat → ClassId) (Λ : Nat → Nat) (A : Nat → Prop) (nL cells slots mc ms n : Nat) (M : Mem) (pc : Nat) (stk st : List Value) (Qc : Nat → Array Value → State → Outcome → State → Prop) (arr : Array Value) : Prop :=
  ∀ (H : Heap) (locs : List Loc) (ls : Array Slot), va_P D vwCl (wl cy n Λ M) H → va_S A s.heap H locs → ls.size = nL → va_Run p l e R s m args below meth c H locs cells slots mc ms (F0 m pc ls stk) st (Qc H.size arr) (AA Λ H.size)
theorem pre_blind {av : List Value} {sz : Nat} : FrameBlind (PreW D cy Λ av n M sz) := fun a U g mk q => by
  obtain ⟨q0, q1, qP, qK, qN⟩ := q
  exact ⟨q0, q1, qP, va_K.moved (u := U) (U := U.calling g mk a) (Vm.Alike.refl U.vm) qK, nst_calling qN⟩
theorem pre_at {H : Heap} (C : Cx p s m args meth c cc nL own ret D cy Λ A) (hP : va_P D vwCl (wl cy n Λ M) H) {av : List Value} : ∀ U : State, U.heap = H → s.WarmedH U.vm → PreW D cy Λ av n M H.size av.toArray U := fun U hU hW => ⟨rfl, by rw [hU], by rw [hU]; exact hP, va_K.moved hW.alike C.2.2.2.1, nst_moved hW C.2.2.2.2.1⟩
theorem rnV {a ci : Nat} {T : u_T} {N : Nat} (C : Cx p s m args meth c cc nL own ret D cy Λ A) (ct : Ct l y b2 mL ret2 rm D cy Λ (.ref (Λ a) :: As) n M mc ms Qc) (L : LkV own index y b2 mL ret2 k) (hci : vwCl[ci]? = some (y.cls, T, N)) (hc : ci < 9) (hk : Is n a (ci + 1)) (hn : As.length = k) (hst : stk = As.reverse ++ .ref (Λ a) :: st) (hW : (st.map fun v => v.category).sum ≤ 8) (hR : (rm.cells = mc ∧ rm.slots = ms) ∧ rm.frames + 1 ≤ R.frames ∧ 8 + (mL + 11) + rm.locals ≤ R.locals) (hcs : cells + mc ≤ R.cells ∧ slots + ms ≤ R.slots) (d : decode cc pc = .ok (.invokevirtual index, 3)) :
    RN p l e R s m args below meth c D cy Λ A nL cells slots mc ms n M pc stk st Qc (Value.ref (Λ a) :: As).toArray := fun H locs ls hP hS hl => by
  have hG : GoodIn gw (wsV own index y.cls y (.code y b2 mL ret2 :: gw)) := gw_good (by
    intro w hw
    simp only [wsV, List.cons_append, List.nil_append, List.mem_cons] at hw
    obtain ⟨⟨h1, h2, h3, h4, h5⟩, -⟩ := L
    rcases hw with rfl | rfl | rfl | rfl | rfl | h
    · exact h1
    · exact h2
    · exact h3
    · exact h4
    · exact h5
    · exact h)
  exact va_runV (As := As) (rest := st) C.1 (ct H.size) (cwV k C.1.2.2.2.2 hG rfl hR.1.1 hR.1.2 ⟨rfl, L.2⟩ hR.2) ⟨pre_blind, va_recv C.2.2.2.1 hP hci ((wl_get hk.1).trans (congrArg (fun e => some (Λ a, e)) (cell_o hc hk.2))), pre_at C hP⟩ rfl hn hl hst (lv_room hW) d hcs
theorem rnS (C : Cx p s m args meth c cc nL own ret D cy Λ A) (ct : Ct l y b2 mL ret2 rm D cy Λ As n M mc ms Qc) (L : LkS own index y b2 mL ret2 k) (hn : As.length = k) (hst : stk = As.reverse ++ st) (hW : (st.map fun v => v.category).sum ≤ 8) (hR : (rm.cells = mc ∧ rm.slots = ms) ∧ rm.frames + 1 ≤ R.frames ∧ 8 + (mL + 11) + rm.locals ≤ R.locals) (hcs : cells + mc ≤ R.cells ∧ slots + ms ≤ R.slots) (d : decode cc pc = .ok (.invokestatic index, 3)) :
    RN p l e R s m args below meth c D cy Λ A nL cells slots mc ms n M pc stk st Qc As.toArray := fun H locs ls hP hS hl => by
  have hG : GoodIn gw (va_wsS own index y (.code y b2 mL ret2 :: gw)) := gw_good (by
    intro w hw
    simp only [va_wsS, List.cons_append, List.nil_append, List.mem_cons] at hw
    obtain ⟨⟨h1, h2, h3, h4⟩, -⟩ := L
    rcases hw with rfl | rfl | rfl | rfl | h
    · exact h1
    · exact h2
    · exact h3
    · exact h4
    · exact h)
  exact va_runS (As := As) (rest := st) C.1 (ct H.size) (va_cwS k C.1.2.2.2.2 hG rfl hR.1.1 hR.1.2 L.2 hR.2) ⟨pre_blind, pre_at C hP⟩ rfl hn hl hst (lv_room hW) d hcs
theorem rnSN (C : Cx p s m args meth c cc nL own ret D cy Λ A) (ct : Ct l y b2 mL ret2 rm D cy Λ As n M mc ms Qc) (L : LkSN own index y b2 mL ret2 k) (hn : As.length = k) (hst : stk = As.reverse ++ st) (hW : (st.map fun v => v.category).sum ≤ 8) (hR : (rm.cells = mc ∧ rm.slots = ms) ∧ rm.frames + 1 ≤ R.frames ∧ 8 + (mL + 11) + rm.locals ≤ R.locals) (hcs : cells + mc ≤ R.cells ∧ slots + ms ≤ R.slots) (d : decode cc pc = .ok (.invokestatic index, 3)) :
    RN p l e R s m args below meth c D cy Λ A nL cells slots mc ms n M pc stk st Qc As.toArray := fun H locs ls hP hS hl => by
  obtain ⟨⟨host, hh⟩, ⟨h2, h3, h4⟩, h5⟩ := L
  exact va_runSN (As := As) (rest := st) C.1 (ct H.size) ⟨va_cnB k C.1.2.2.2.2 (gw_good (gwc h4)) rfl hR.1.1 hR.1.2 (C.2.2.2.2.1 _ hh) (C.1.2.2.2.2 _ h3) h5 hR.2, C.1.2.2.2.2 _ h2, trivial⟩ ⟨pre_blind, pre_at C hP⟩ rfl hn hl hst (lv_room hW) d hcs
theorem g_resI {z : Int32} (C : Cx p s m args meth c cc nL own ret D cy Λ A) (hr : RN p l e R s m args below meth c D cy Λ A nL cells slots 0 0 n M pc stk st (QcI D cy Λ n z M2) arr) (kk : GG p l e R s m args below meth c D cy Λ A nL cells slots Q n M2 (pc + 3) lv (.int z :: st)) : GG p l e R s m args below meth c D cy Λ A nL cells slots Q n M pc lv stk := fun H locs ls hP hS hl => by
  have hA : ∀ q, AA Λ H.size q → A q := fun q h => by
    rcases h with ⟨k, rfl⟩ | h
    · exact C.2.2.2.2.2.2.1 k
    · exact C.2.2.2.2.2.2.2 q (Nat.le_trans hS.1 h)
  refine va_calli (hr H locs ls hP hS hl.1) hS (fun q _ h => hA q h) hA (fun r u t H1 locs1 ht hvm hpost hB hz hk hS1 => ?_)
  subst hpost
  rw [ht] at hB
  exact kk H1 locs1 ls hB hS1 hl
theorem g_resV (C : Cx p s m args meth c cc nL own ret D cy Λ A) (hr : RN p l e R s m args below meth c D cy Λ A nL cells slots 0 0 n M pc stk st (QcV D cy Λ n M2) arr) (kk : GG p l e R s m args below meth c D cy Λ A nL cells slots Q n M2 (pc + 3) lv st) : GG p l e R s m args below meth c D cy Λ A nL cells slots Q n M pc lv stk := fun H locs ls hP hS hl => by
  have hA : ∀ q, AA Λ H.size q → A q := fun q h => by
    rcases h with ⟨k, rfl⟩ | h
    · exact C.2.2.2.2.2.2.1 k
    · exact C.2.2.2.2.2.2.2 q (Nat.le_trans hS.1 h)
  refine va_callv (hr H locs ls hP hS hl.1) hS (fun q _ h => hA q h) hA (fun u t H1 locs1 ht hvm hpost hB hz hk hS1 => ?_)
  rw [ht] at hB
  exact kk H1 locs1 ls hB hS1 hl
theorem g_resR {a : Nat} (C : Cx p s m args meth c cc nL own ret D cy Λ A) (hr : RN p l e R s m args below meth c D cy Λ A nL cells slots 0 0 n M pc stk st (QcR D cy Λ n a M2) arr) (kk : GG p l e R s m args below meth c D cy Λ A nL cells slots Q n M2 (pc + 3) lv (.ref (Λ a) :: st)) : GG p l e R s m args below meth c D cy Λ A nL cells slots Q n M pc lv stk := fun H locs ls hP hS hl => by
  have hA : ∀ q, AA Λ H.size q → A q := fun q h => by
    rcases h with ⟨k, rfl⟩ | h
    · exact C.2.2.2.2.2.2.1 k
    · exact C.2.2.2.2.2.2.2 q (Nat.le_trans hS.1 h)
  refine va_callr (hr H locs ls hP hS hl.1) hS (fun q _ h => hA q h) hA (fun u b t H1 locs1 ht hvm hpost hB hz hk hS1 => ?_)
  obtain ⟨rfl, hB⟩ := hB
  rw [ht] at hB
  exact kk H1 locs1 ls hB hS1 hl
end CALLS
abbrev GW (p : Program) (l : Launch) (e : Env) (R : Room) (s : State) (m : MethodId) (args : Array Value) (below : List Frame) (meth : Method) (c : Code) (D : va_G) (cy : Nat → ClassId) (Λ : Nat → Nat) (nL : Nat) (Qc : Nat → Array Value → State → Outcome → State → Prop) (M : Mem) (pc : Nat) (lv : List (Nat × Value)) (st : List Value) : Prop :=
  GG p l e R s m args below meth c D cy Λ (AA Λ s.heap.size) nL 0 0 (MQ below (Qc s.heap.size) args s 0 0 (AA Λ s.heap.size)) NN M pc lv st
