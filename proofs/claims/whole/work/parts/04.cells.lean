/-! ===== the memory: for each index a row of references and a row of ints; its kind and length are fixed ===== -/
abbrev Mem : Type := (Nat → Nat → Option Nat) × (Nat → Nat → Int32)
def kds : List Nat := [8, 11, 3, 11, 5, 10, 10, 2, 10, 10, 14, 4, 10, 10, 12, 10, 10, 4, 10, 10, 12, 10, 10, 4, 10, 10, 12, 10, 10, 4, 10, 10, 12, 10, 10, 4, 10, 10, 12, 10, 10, 4, 10, 10, 12, 10, 10, 4, 10, 10, 12, 10, 10, 4, 10, 10, 12, 10, 10, 5, 10, 10, 2, 10, 10, 14, 4, 10, 10, 12, 10, 10, 4, 10, 10, 12, 10, 10, 4, 10, 10, 12, 10, 10, 4, 10, 10, 12, 10, 10, 4, 10, 10, 12, 10, 10, 4, 10, 10, 12, 10, 10, 4, 10, 10, 12, 10, 10, 4, 10, 10, 12, 10, 10, 2, 10, 10, 2, 10, 10, 7, 10, 10, 10, 10, 7, 10, 10, 10, 10, 1, 10, 6, 10, 10, 10, 13, 10, 2, 10, 10, 2, 10, 10, 9, 10, 10, 10, 10, 10, 10, 10, 12, 10, 10, 10, 10, 10]
def lns : List Nat := [0, 120, 0, 0, 0, 9, 9, 0, 9, 9, 8, 0, 3, 3, 3, 4, 4, 0, 3, 3, 3, 4, 4, 0, 3, 3, 3, 4, 4, 0, 3, 3, 3, 4, 4, 0, 3, 3, 3, 4, 4, 0, 3, 3, 3, 4, 4, 0, 3, 3, 3, 4, 4, 0, 3, 3, 3, 4, 4, 0, 9, 9, 0, 9, 9, 8, 0, 3, 3, 3, 4, 4, 0, 3, 3, 3, 4, 4, 0, 3, 3, 3, 4, 4, 0, 3, 3, 3, 4, 4, 0, 3, 3, 3, 4, 4, 0, 3, 3, 3, 4, 4, 0, 3, 3, 3, 4, 4, 0, 3, 3, 3, 4, 4, 0, 9, 9, 0, 9, 9, 0, 8, 9, 36, 36, 0, 8, 9, 36, 36, 0, 10, 0, 6, 6, 6, 2, 36, 0, 9, 9, 0, 9, 9, 0, 120, 140, 140, 19, 19, 190, 38, 2, 6, 6, 6, 36, 8]
def NN : Nat := 158
def kd (k : Nat) : Nat := kds.getD k 0
def ln (k : Nat) : Nat := lns.getD k 0
def tys (cy : Nat → ClassId) : List (ClassId × FieldType) := [(cy 0, .int), (cy 1, .char), (cy 2, .boolean), (cy 3, .object "StyleTree$Look"), (cy 4, .object "StyleTree$Rule")]
def fsOf (Λ : Nat → Nat) (M : Mem) (a : Nat) : Nat → List Value
  | 0 => [va_re Λ (M.1 a 0), .int (M.2 a 1)]
  | 1 => [va_re Λ (M.1 a 0), va_re Λ (M.1 a 1), .int (M.2 a 2)]
  | 2 => [va_re Λ (M.1 a 0), .int (M.2 a 1), .int (M.2 a 2), .int (M.2 a 3), .int (M.2 a 4), va_re Λ (M.1 a 5)]
  | 3 => [.int (M.2 a 0), .int (M.2 a 1), .int (M.2 a 2), .int (M.2 a 3), .int (M.2 a 4), va_re Λ (M.1 a 5), va_re Λ (M.1 a 6), va_re Λ (M.1 a 7), va_re Λ (M.1 a 8), va_re Λ (M.1 a 9)]
  | 4 => [.int (M.2 a 0), .int (M.2 a 1), va_re Λ (M.1 a 2), va_re Λ (M.1 a 3), va_re Λ (M.1 a 4), va_re Λ (M.1 a 5)]
  | 5 => [va_re Λ (M.1 a 0), va_re Λ (M.1 a 1), va_re Λ (M.1 a 2), .int (M.2 a 3)]
  | 6 => [.int (M.2 a 0), va_re Λ (M.1 a 1), va_re Λ (M.1 a 2), va_re Λ (M.1 a 3), va_re Λ (M.1 a 4)]
  | 7 => [va_re Λ (M.1 a 0), .int (M.2 a 1), va_re Λ (M.1 a 2), va_re Λ (M.1 a 3), va_re Λ (M.1 a 4), va_re Λ (M.1 a 5), va_re Λ (M.1 a 6), va_re Λ (M.1 a 7), va_re Λ (M.1 a 8), va_re Λ (M.1 a 9), va_re Λ (M.1 a 10), .int (M.2 a 11), va_re Λ (M.1 a 12)]
  | _ => [.int (M.2 a 0), va_re Λ (M.1 a 1), .int (M.2 a 2), .int (M.2 a 3), .int (M.2 a 4), .int (M.2 a 5), .int (M.2 a 6), .int (M.2 a 7), va_re Λ (M.1 a 8), va_re Λ (M.1 a 9), va_re Λ (M.1 a 10), va_re Λ (M.1 a 11), va_re Λ (M.1 a 12), .int (M.2 a 13), va_re Λ (M.1 a 14), va_re Λ (M.1 a 15), va_re Λ (M.1 a 16), va_re Λ (M.1 a 17), va_re Λ (M.1 a 18), .int (M.2 a 19), va_re Λ (M.1 a 20), va_re Λ (M.1 a 21)]
def cellA (cy : Nat → ClassId) (Λ : Nat → Nat) (M : Mem) (a : Nat) : va_E := if kd a = 10 then .inl (cy 0, ln a, .inl (M.2 a)) else if kd a = 11 then .inl (cy 1, ln a, .inl (M.2 a)) else if kd a = 12 then .inl (cy 2, ln a, .inl (M.2 a)) else if kd a = 13 then .inl (cy 3, ln a, .inr (.inr (.inr (.inr (fun j => (M.1 a j).map Λ))))) else if kd a = 14 then .inl (cy 4, ln a, .inr (.inr (.inr (.inr (fun j => (M.1 a j).map Λ))))) else .inr (kd a - 1, fsOf Λ M a (kd a - 1))
theorem cell_a0 {cy : Nat → ClassId} {Λ : Nat → Nat} {M : Mem} {a : Nat} (h : kd a = 10) : cellA cy Λ M a = .inl (cy 0, ln a, .inl (M.2 a)) := by simp [cellA, h]
theorem cell_a1 {cy : Nat → ClassId} {Λ : Nat → Nat} {M : Mem} {a : Nat} (h : kd a = 11) : cellA cy Λ M a = .inl (cy 1, ln a, .inl (M.2 a)) := by simp [cellA, h]
theorem cell_a2 {cy : Nat → ClassId} {Λ : Nat → Nat} {M : Mem} {a : Nat} (h : kd a = 12) : cellA cy Λ M a = .inl (cy 2, ln a, .inl (M.2 a)) := by simp [cellA, h]
theorem cell_a3 {cy : Nat → ClassId} {Λ : Nat → Nat} {M : Mem} {a : Nat} (h : kd a = 13) : cellA cy Λ M a = .inl (cy 3, ln a, .inr (.inr (.inr (.inr (fun j => (M.1 a j).map Λ))))) := by simp [cellA, h]
theorem cell_a4 {cy : Nat → ClassId} {Λ : Nat → Nat} {M : Mem} {a : Nat} (h : kd a = 14) : cellA cy Λ M a = .inl (cy 4, ln a, .inr (.inr (.inr (.inr (fun j => (M.1 a j).map Λ))))) := by simp [cellA, h]
theorem cell_o {cy : Nat → ClassId} {Λ : Nat → Nat} {M : Mem} {a ci : Nat} (hc : ci < 9) (h : kd a = ci + 1) : cellA cy Λ M a = .inr (ci, fsOf Λ M a ci) := by
  unfold cellA
  rw [if_neg (by omega)]
  rw [if_neg (by omega)]
  rw [if_neg (by omega)]
  rw [if_neg (by omega)]
  rw [if_neg (by omega)]
  rw [h]; rfl
theorem fs_congr {Λ : Nat → Nat} {M M2 : Mem} {a : Nat} (h1 : M2.1 a = M.1 a) (h2 : M2.2 a = M.2 a) (ci : Nat) : fsOf Λ M2 a ci = fsOf Λ M a ci := by
  unfold fsOf
  split <;> simp only [h1, h2]
theorem cell_congr {cy : Nat → ClassId} {Λ : Nat → Nat} {M M2 : Mem} {a : Nat} (h1 : M2.1 a = M.1 a) (h2 : M2.2 a = M.2 a) : cellA cy Λ M2 a = cellA cy Λ M a := by
  unfold cellA
  rw [fs_congr h1 h2, h1, h2]
def up2 {α : Type} (f : Nat → Nat → α) (k j : Nat) (v : α) : Nat → Nat → α := fun a => if a = k then (fun b => if b = j then v else f a b) else f a
theorem up2_ne {α : Type} {f : Nat → Nat → α} {k j a : Nat} {v : α} (h : a ≠ k) : up2 f k j v a = f a := by simp [up2, h]
theorem up2_at {α : Type} {f : Nat → Nat → α} {k j : Nat} {v : α} : up2 f k j v k = fun b => if b = j then v else f k b := by simp [up2]
def wI (M : Mem) (a j : Nat) (v : Int32) : Mem := (M.1, up2 M.2 a j v)
def wR (M : Mem) (a j : Nat) (b : Nat) : Mem := (up2 M.1 a j (some b), M.2)
def al (M : Mem) (n : Nat) : Mem := (fun a => if a = n then (fun _ => none) else M.1 a, fun a => if a = n then (fun _ => 0) else M.2 a)
theorem stX0_0 {Λ : Nat → Nat} {M : Mem} {a b : Nat} : (fsOf Λ M a 0).set 0 (.ref (Λ b)) = fsOf Λ (wR M a 0 b) a 0 := by simp [fsOf, wR, up2, va_re, va_rf]
theorem stX0_1 {Λ : Nat → Nat} {M : Mem} {a : Nat} {v : Int32} : (fsOf Λ M a 0).set 1 (.int v) = fsOf Λ (wI M a 1 v) a 0 := by simp [fsOf, wI, up2]
theorem dfX0 {Λ : Nat → Nat} {M : Mem} {n : Nat} : ∀ j, j < 2 → defaultValue (tyX0 j) = vp_V (fsOf Λ (al M n) n 0) j := by
  intro j hj
  rcases (show j = 0 ∨ j = 1 by omega) with rfl | rfl <;> simp [tyX0, fsOf, al, vp_V, va_re, va_rf, defaultValue]
theorem stX1_0 {Λ : Nat → Nat} {M : Mem} {a b : Nat} : (fsOf Λ M a 1).set 0 (.ref (Λ b)) = fsOf Λ (wR M a 0 b) a 1 := by simp [fsOf, wR, up2, va_re, va_rf]
theorem stX1_1 {Λ : Nat → Nat} {M : Mem} {a b : Nat} : (fsOf Λ M a 1).set 1 (.ref (Λ b)) = fsOf Λ (wR M a 1 b) a 1 := by simp [fsOf, wR, up2, va_re, va_rf]
theorem stX1_2 {Λ : Nat → Nat} {M : Mem} {a : Nat} {v : Int32} : (fsOf Λ M a 1).set 2 (.int v) = fsOf Λ (wI M a 2 v) a 1 := by simp [fsOf, wI, up2]
theorem dfX1 {Λ : Nat → Nat} {M : Mem} {n : Nat} : ∀ j, j < 3 → defaultValue (tyX1 j) = vp_V (fsOf Λ (al M n) n 1) j := by
  intro j hj
  rcases (show j = 0 ∨ j = 1 ∨ j = 2 by omega) with rfl | rfl | rfl <;> simp [tyX1, fsOf, al, vp_V, va_re, va_rf, defaultValue]
theorem stX2_0 {Λ : Nat → Nat} {M : Mem} {a b : Nat} : (fsOf Λ M a 2).set 0 (.ref (Λ b)) = fsOf Λ (wR M a 0 b) a 2 := by simp [fsOf, wR, up2, va_re, va_rf]
theorem stX2_1 {Λ : Nat → Nat} {M : Mem} {a : Nat} {v : Int32} : (fsOf Λ M a 2).set 1 (.int v) = fsOf Λ (wI M a 1 v) a 2 := by simp [fsOf, wI, up2]
theorem stX2_2 {Λ : Nat → Nat} {M : Mem} {a : Nat} {v : Int32} : (fsOf Λ M a 2).set 2 (.int v) = fsOf Λ (wI M a 2 v) a 2 := by simp [fsOf, wI, up2]
theorem stX2_3 {Λ : Nat → Nat} {M : Mem} {a : Nat} {v : Int32} : (fsOf Λ M a 2).set 3 (.int v) = fsOf Λ (wI M a 3 v) a 2 := by simp [fsOf, wI, up2]
theorem stX2_4 {Λ : Nat → Nat} {M : Mem} {a : Nat} {v : Int32} : (fsOf Λ M a 2).set 4 (.int v) = fsOf Λ (wI M a 4 v) a 2 := by simp [fsOf, wI, up2]
theorem stX2_5 {Λ : Nat → Nat} {M : Mem} {a b : Nat} : (fsOf Λ M a 2).set 5 (.ref (Λ b)) = fsOf Λ (wR M a 5 b) a 2 := by simp [fsOf, wR, up2, va_re, va_rf]
theorem dfX2 {Λ : Nat → Nat} {M : Mem} {n : Nat} : ∀ j, j < 6 → defaultValue (tyX2 j) = vp_V (fsOf Λ (al M n) n 2) j := by
  intro j hj
  rcases (show j = 0 ∨ j = 1 ∨ j = 2 ∨ j = 3 ∨ j = 4 ∨ j = 5 by omega) with rfl | rfl | rfl | rfl | rfl | rfl <;> simp [tyX2, fsOf, al, vp_V, va_re, va_rf, defaultValue]
theorem stX3_0 {Λ : Nat → Nat} {M : Mem} {a : Nat} {v : Int32} : (fsOf Λ M a 3).set 0 (.int v) = fsOf Λ (wI M a 0 v) a 3 := by simp [fsOf, wI, up2]
theorem stX3_1 {Λ : Nat → Nat} {M : Mem} {a : Nat} {v : Int32} : (fsOf Λ M a 3).set 1 (.int v) = fsOf Λ (wI M a 1 v) a 3 := by simp [fsOf, wI, up2]
theorem stX3_2 {Λ : Nat → Nat} {M : Mem} {a : Nat} {v : Int32} : (fsOf Λ M a 3).set 2 (.int v) = fsOf Λ (wI M a 2 v) a 3 := by simp [fsOf, wI, up2]
theorem stX3_3 {Λ : Nat → Nat} {M : Mem} {a : Nat} {v : Int32} : (fsOf Λ M a 3).set 3 (.int v) = fsOf Λ (wI M a 3 v) a 3 := by simp [fsOf, wI, up2]
theorem stX3_4 {Λ : Nat → Nat} {M : Mem} {a : Nat} {v : Int32} : (fsOf Λ M a 3).set 4 (.int v) = fsOf Λ (wI M a 4 v) a 3 := by simp [fsOf, wI, up2]
theorem stX3_5 {Λ : Nat → Nat} {M : Mem} {a b : Nat} : (fsOf Λ M a 3).set 5 (.ref (Λ b)) = fsOf Λ (wR M a 5 b) a 3 := by simp [fsOf, wR, up2, va_re, va_rf]
theorem stX3_6 {Λ : Nat → Nat} {M : Mem} {a b : Nat} : (fsOf Λ M a 3).set 6 (.ref (Λ b)) = fsOf Λ (wR M a 6 b) a 3 := by simp [fsOf, wR, up2, va_re, va_rf]
theorem stX3_7 {Λ : Nat → Nat} {M : Mem} {a b : Nat} : (fsOf Λ M a 3).set 7 (.ref (Λ b)) = fsOf Λ (wR M a 7 b) a 3 := by simp [fsOf, wR, up2, va_re, va_rf]
theorem stX3_8 {Λ : Nat → Nat} {M : Mem} {a b : Nat} : (fsOf Λ M a 3).set 8 (.ref (Λ b)) = fsOf Λ (wR M a 8 b) a 3 := by simp [fsOf, wR, up2, va_re, va_rf]
theorem stX3_9 {Λ : Nat → Nat} {M : Mem} {a b : Nat} : (fsOf Λ M a 3).set 9 (.ref (Λ b)) = fsOf Λ (wR M a 9 b) a 3 := by simp [fsOf, wR, up2, va_re, va_rf]
theorem dfX3 {Λ : Nat → Nat} {M : Mem} {n : Nat} : ∀ j, j < 10 → defaultValue (tyX3 j) = vp_V (fsOf Λ (al M n) n 3) j := by
  intro j hj
  rcases (show j = 0 ∨ j = 1 ∨ j = 2 ∨ j = 3 ∨ j = 4 ∨ j = 5 ∨ j = 6 ∨ j = 7 ∨ j = 8 ∨ j = 9 by omega) with rfl | rfl | rfl | rfl | rfl | rfl | rfl | rfl | rfl | rfl <;> simp [tyX3, fsOf, al, vp_V, va_re, va_rf, defaultValue]
theorem stX4_0 {Λ : Nat → Nat} {M : Mem} {a : Nat} {v : Int32} : (fsOf Λ M a 4).set 0 (.int v) = fsOf Λ (wI M a 0 v) a 4 := by simp [fsOf, wI, up2]
theorem stX4_1 {Λ : Nat → Nat} {M : Mem} {a : Nat} {v : Int32} : (fsOf Λ M a 4).set 1 (.int v) = fsOf Λ (wI M a 1 v) a 4 := by simp [fsOf, wI, up2]
theorem stX4_2 {Λ : Nat → Nat} {M : Mem} {a b : Nat} : (fsOf Λ M a 4).set 2 (.ref (Λ b)) = fsOf Λ (wR M a 2 b) a 4 := by simp [fsOf, wR, up2, va_re, va_rf]
theorem stX4_3 {Λ : Nat → Nat} {M : Mem} {a b : Nat} : (fsOf Λ M a 4).set 3 (.ref (Λ b)) = fsOf Λ (wR M a 3 b) a 4 := by simp [fsOf, wR, up2, va_re, va_rf]
theorem stX4_4 {Λ : Nat → Nat} {M : Mem} {a b : Nat} : (fsOf Λ M a 4).set 4 (.ref (Λ b)) = fsOf Λ (wR M a 4 b) a 4 := by simp [fsOf, wR, up2, va_re, va_rf]
theorem stX4_5 {Λ : Nat → Nat} {M : Mem} {a b : Nat} : (fsOf Λ M a 4).set 5 (.ref (Λ b)) = fsOf Λ (wR M a 5 b) a 4 := by simp [fsOf, wR, up2, va_re, va_rf]
theorem dfX4 {Λ : Nat → Nat} {M : Mem} {n : Nat} : ∀ j, j < 6 → defaultValue (tyX4 j) = vp_V (fsOf Λ (al M n) n 4) j := by
  intro j hj
  rcases (show j = 0 ∨ j = 1 ∨ j = 2 ∨ j = 3 ∨ j = 4 ∨ j = 5 by omega) with rfl | rfl | rfl | rfl | rfl | rfl <;> simp [tyX4, fsOf, al, vp_V, va_re, va_rf, defaultValue]
theorem stX5_0 {Λ : Nat → Nat} {M : Mem} {a b : Nat} : (fsOf Λ M a 5).set 0 (.ref (Λ b)) = fsOf Λ (wR M a 0 b) a 5 := by simp [fsOf, wR, up2, va_re, va_rf]
theorem stX5_1 {Λ : Nat → Nat} {M : Mem} {a b : Nat} : (fsOf Λ M a 5).set 1 (.ref (Λ b)) = fsOf Λ (wR M a 1 b) a 5 := by simp [fsOf, wR, up2, va_re, va_rf]
theorem stX5_2 {Λ : Nat → Nat} {M : Mem} {a b : Nat} : (fsOf Λ M a 5).set 2 (.ref (Λ b)) = fsOf Λ (wR M a 2 b) a 5 := by simp [fsOf, wR, up2, va_re, va_rf]
theorem stX5_3 {Λ : Nat → Nat} {M : Mem} {a : Nat} {v : Int32} : (fsOf Λ M a 5).set 3 (.int v) = fsOf Λ (wI M a 3 v) a 5 := by simp [fsOf, wI, up2]
theorem dfX5 {Λ : Nat → Nat} {M : Mem} {n : Nat} : ∀ j, j < 4 → defaultValue (tyX5 j) = vp_V (fsOf Λ (al M n) n 5) j := by
  intro j hj
  rcases (show j = 0 ∨ j = 1 ∨ j = 2 ∨ j = 3 by omega) with rfl | rfl | rfl | rfl <;> simp [tyX5, fsOf, al, vp_V, va_re, va_rf, defaultValue]
theorem stX6_0 {Λ : Nat → Nat} {M : Mem} {a : Nat} {v : Int32} : (fsOf Λ M a 6).set 0 (.int v) = fsOf Λ (wI M a 0 v) a 6 := by simp [fsOf, wI, up2]
theorem stX6_1 {Λ : Nat → Nat} {M : Mem} {a b : Nat} : (fsOf Λ M a 6).set 1 (.ref (Λ b)) = fsOf Λ (wR M a 1 b) a 6 := by simp [fsOf, wR, up2, va_re, va_rf]
theorem stX6_2 {Λ : Nat → Nat} {M : Mem} {a b : Nat} : (fsOf Λ M a 6).set 2 (.ref (Λ b)) = fsOf Λ (wR M a 2 b) a 6 := by simp [fsOf, wR, up2, va_re, va_rf]
theorem stX6_3 {Λ : Nat → Nat} {M : Mem} {a b : Nat} : (fsOf Λ M a 6).set 3 (.ref (Λ b)) = fsOf Λ (wR M a 3 b) a 6 := by simp [fsOf, wR, up2, va_re, va_rf]
theorem stX6_4 {Λ : Nat → Nat} {M : Mem} {a b : Nat} : (fsOf Λ M a 6).set 4 (.ref (Λ b)) = fsOf Λ (wR M a 4 b) a 6 := by simp [fsOf, wR, up2, va_re, va_rf]
theorem dfX6 {Λ : Nat → Nat} {M : Mem} {n : Nat} : ∀ j, j < 5 → defaultValue (tyX6 j) = vp_V (fsOf Λ (al M n) n 6) j := by
  intro j hj
  rcases (show j = 0 ∨ j = 1 ∨ j = 2 ∨ j = 3 ∨ j = 4 by omega) with rfl | rfl | rfl | rfl | rfl <;> simp [tyX6, fsOf, al, vp_V, va_re, va_rf, defaultValue]
theorem stX7_0 {Λ : Nat → Nat} {M : Mem} {a b : Nat} : (fsOf Λ M a 7).set 0 (.ref (Λ b)) = fsOf Λ (wR M a 0 b) a 7 := by simp [fsOf, wR, up2, va_re, va_rf]
theorem stX7_1 {Λ : Nat → Nat} {M : Mem} {a : Nat} {v : Int32} : (fsOf Λ M a 7).set 1 (.int v) = fsOf Λ (wI M a 1 v) a 7 := by simp [fsOf, wI, up2]
theorem stX7_2 {Λ : Nat → Nat} {M : Mem} {a b : Nat} : (fsOf Λ M a 7).set 2 (.ref (Λ b)) = fsOf Λ (wR M a 2 b) a 7 := by simp [fsOf, wR, up2, va_re, va_rf]
theorem stX7_3 {Λ : Nat → Nat} {M : Mem} {a b : Nat} : (fsOf Λ M a 7).set 3 (.ref (Λ b)) = fsOf Λ (wR M a 3 b) a 7 := by simp [fsOf, wR, up2, va_re, va_rf]
theorem stX7_4 {Λ : Nat → Nat} {M : Mem} {a b : Nat} : (fsOf Λ M a 7).set 4 (.ref (Λ b)) = fsOf Λ (wR M a 4 b) a 7 := by simp [fsOf, wR, up2, va_re, va_rf]
theorem stX7_5 {Λ : Nat → Nat} {M : Mem} {a b : Nat} : (fsOf Λ M a 7).set 5 (.ref (Λ b)) = fsOf Λ (wR M a 5 b) a 7 := by simp [fsOf, wR, up2, va_re, va_rf]
theorem stX7_6 {Λ : Nat → Nat} {M : Mem} {a b : Nat} : (fsOf Λ M a 7).set 6 (.ref (Λ b)) = fsOf Λ (wR M a 6 b) a 7 := by simp [fsOf, wR, up2, va_re, va_rf]
theorem stX7_7 {Λ : Nat → Nat} {M : Mem} {a b : Nat} : (fsOf Λ M a 7).set 7 (.ref (Λ b)) = fsOf Λ (wR M a 7 b) a 7 := by simp [fsOf, wR, up2, va_re, va_rf]
theorem stX7_8 {Λ : Nat → Nat} {M : Mem} {a b : Nat} : (fsOf Λ M a 7).set 8 (.ref (Λ b)) = fsOf Λ (wR M a 8 b) a 7 := by simp [fsOf, wR, up2, va_re, va_rf]
theorem stX7_9 {Λ : Nat → Nat} {M : Mem} {a b : Nat} : (fsOf Λ M a 7).set 9 (.ref (Λ b)) = fsOf Λ (wR M a 9 b) a 7 := by simp [fsOf, wR, up2, va_re, va_rf]
theorem stX7_10 {Λ : Nat → Nat} {M : Mem} {a b : Nat} : (fsOf Λ M a 7).set 10 (.ref (Λ b)) = fsOf Λ (wR M a 10 b) a 7 := by simp [fsOf, wR, up2, va_re, va_rf]
theorem stX7_11 {Λ : Nat → Nat} {M : Mem} {a : Nat} {v : Int32} : (fsOf Λ M a 7).set 11 (.int v) = fsOf Λ (wI M a 11 v) a 7 := by simp [fsOf, wI, up2]
theorem stX7_12 {Λ : Nat → Nat} {M : Mem} {a b : Nat} : (fsOf Λ M a 7).set 12 (.ref (Λ b)) = fsOf Λ (wR M a 12 b) a 7 := by simp [fsOf, wR, up2, va_re, va_rf]
theorem dfX7 {Λ : Nat → Nat} {M : Mem} {n : Nat} : ∀ j, j < 13 → defaultValue (tyX7 j) = vp_V (fsOf Λ (al M n) n 7) j := by
  intro j hj
  rcases (show j = 0 ∨ j = 1 ∨ j = 2 ∨ j = 3 ∨ j = 4 ∨ j = 5 ∨ j = 6 ∨ j = 7 ∨ j = 8 ∨ j = 9 ∨ j = 10 ∨ j = 11 ∨ j = 12 by omega) with rfl | rfl | rfl | rfl | rfl | rfl | rfl | rfl | rfl | rfl | rfl | rfl | rfl <;> simp [tyX7, fsOf, al, vp_V, va_re, va_rf, defaultValue]
theorem stX8_0 {Λ : Nat → Nat} {M : Mem} {a : Nat} {v : Int32} : (fsOf Λ M a 8).set 0 (.int v) = fsOf Λ (wI M a 0 v) a 8 := by simp [fsOf, wI, up2]
theorem stX8_1 {Λ : Nat → Nat} {M : Mem} {a b : Nat} : (fsOf Λ M a 8).set 1 (.ref (Λ b)) = fsOf Λ (wR M a 1 b) a 8 := by simp [fsOf, wR, up2, va_re, va_rf]
theorem stX8_2 {Λ : Nat → Nat} {M : Mem} {a : Nat} {v : Int32} : (fsOf Λ M a 8).set 2 (.int v) = fsOf Λ (wI M a 2 v) a 8 := by simp [fsOf, wI, up2]
theorem stX8_3 {Λ : Nat → Nat} {M : Mem} {a : Nat} {v : Int32} : (fsOf Λ M a 8).set 3 (.int v) = fsOf Λ (wI M a 3 v) a 8 := by simp [fsOf, wI, up2]
theorem stX8_4 {Λ : Nat → Nat} {M : Mem} {a : Nat} {v : Int32} : (fsOf Λ M a 8).set 4 (.int v) = fsOf Λ (wI M a 4 v) a 8 := by simp [fsOf, wI, up2]
theorem stX8_5 {Λ : Nat → Nat} {M : Mem} {a : Nat} {v : Int32} : (fsOf Λ M a 8).set 5 (.int v) = fsOf Λ (wI M a 5 v) a 8 := by simp [fsOf, wI, up2]
theorem stX8_6 {Λ : Nat → Nat} {M : Mem} {a : Nat} {v : Int32} : (fsOf Λ M a 8).set 6 (.int v) = fsOf Λ (wI M a 6 v) a 8 := by simp [fsOf, wI, up2]
theorem stX8_7 {Λ : Nat → Nat} {M : Mem} {a : Nat} {v : Int32} : (fsOf Λ M a 8).set 7 (.int v) = fsOf Λ (wI M a 7 v) a 8 := by simp [fsOf, wI, up2]
theorem stX8_8 {Λ : Nat → Nat} {M : Mem} {a b : Nat} : (fsOf Λ M a 8).set 8 (.ref (Λ b)) = fsOf Λ (wR M a 8 b) a 8 := by simp [fsOf, wR, up2, va_re, va_rf]
theorem stX8_9 {Λ : Nat → Nat} {M : Mem} {a b : Nat} : (fsOf Λ M a 8).set 9 (.ref (Λ b)) = fsOf Λ (wR M a 9 b) a 8 := by simp [fsOf, wR, up2, va_re, va_rf]
theorem stX8_10 {Λ : Nat → Nat} {M : Mem} {a b : Nat} : (fsOf Λ M a 8).set 10 (.ref (Λ b)) = fsOf Λ (wR M a 10 b) a 8 := by simp [fsOf, wR, up2, va_re, va_rf]
theorem stX8_11 {Λ : Nat → Nat} {M : Mem} {a b : Nat} : (fsOf Λ M a 8).set 11 (.ref (Λ b)) = fsOf Λ (wR M a 11 b) a 8 := by simp [fsOf, wR, up2, va_re, va_rf]
theorem stX8_12 {Λ : Nat → Nat} {M : Mem} {a b : Nat} : (fsOf Λ M a 8).set 12 (.ref (Λ b)) = fsOf Λ (wR M a 12 b) a 8 := by simp [fsOf, wR, up2, va_re, va_rf]
theorem stX8_13 {Λ : Nat → Nat} {M : Mem} {a : Nat} {v : Int32} : (fsOf Λ M a 8).set 13 (.int v) = fsOf Λ (wI M a 13 v) a 8 := by simp [fsOf, wI, up2]
theorem stX8_14 {Λ : Nat → Nat} {M : Mem} {a b : Nat} : (fsOf Λ M a 8).set 14 (.ref (Λ b)) = fsOf Λ (wR M a 14 b) a 8 := by simp [fsOf, wR, up2, va_re, va_rf]
theorem stX8_15 {Λ : Nat → Nat} {M : Mem} {a b : Nat} : (fsOf Λ M a 8).set 15 (.ref (Λ b)) = fsOf Λ (wR M a 15 b) a 8 := by simp [fsOf, wR, up2, va_re, va_rf]
theorem stX8_16 {Λ : Nat → Nat} {M : Mem} {a b : Nat} : (fsOf Λ M a 8).set 16 (.ref (Λ b)) = fsOf Λ (wR M a 16 b) a 8 := by simp [fsOf, wR, up2, va_re, va_rf]
theorem stX8_17 {Λ : Nat → Nat} {M : Mem} {a b : Nat} : (fsOf Λ M a 8).set 17 (.ref (Λ b)) = fsOf Λ (wR M a 17 b) a 8 := by simp [fsOf, wR, up2, va_re, va_rf]
theorem stX8_18 {Λ : Nat → Nat} {M : Mem} {a b : Nat} : (fsOf Λ M a 8).set 18 (.ref (Λ b)) = fsOf Λ (wR M a 18 b) a 8 := by simp [fsOf, wR, up2, va_re, va_rf]
theorem stX8_19 {Λ : Nat → Nat} {M : Mem} {a : Nat} {v : Int32} : (fsOf Λ M a 8).set 19 (.int v) = fsOf Λ (wI M a 19 v) a 8 := by simp [fsOf, wI, up2]
theorem stX8_20 {Λ : Nat → Nat} {M : Mem} {a b : Nat} : (fsOf Λ M a 8).set 20 (.ref (Λ b)) = fsOf Λ (wR M a 20 b) a 8 := by simp [fsOf, wR, up2, va_re, va_rf]
theorem stX8_21 {Λ : Nat → Nat} {M : Mem} {a b : Nat} : (fsOf Λ M a 8).set 21 (.ref (Λ b)) = fsOf Λ (wR M a 21 b) a 8 := by simp [fsOf, wR, up2, va_re, va_rf]
theorem dfX8 {Λ : Nat → Nat} {M : Mem} {n : Nat} : ∀ j, j < 22 → defaultValue (tyX8 j) = vp_V (fsOf Λ (al M n) n 8) j := by
  intro j hj
  rcases (show j = 0 ∨ j = 1 ∨ j = 2 ∨ j = 3 ∨ j = 4 ∨ j = 5 ∨ j = 6 ∨ j = 7 ∨ j = 8 ∨ j = 9 ∨ j = 10 ∨ j = 11 ∨ j = 12 ∨ j = 13 ∨ j = 14 ∨ j = 15 ∨ j = 16 ∨ j = 17 ∨ j = 18 ∨ j = 19 ∨ j = 20 ∨ j = 21 by omega) with rfl | rfl | rfl | rfl | rfl | rfl | rfl | rfl | rfl | rfl | rfl | rfl | rfl | rfl | rfl | rfl | rfl | rfl | rfl | rfl | rfl | rfl <;> simp [tyX8, fsOf, al, vp_V, va_re, va_rf, defaultValue]
/-- what a field access needs of the tables -/
def FG (own : String) (index ci j : Nat) : Prop := ∃ (C : String) (T : u_T) (N : Nat), vwCl[ci]? = some (C, T, N) ∧ (∀ w ∈ u_ws C T N, w ∈ gw) ∧ j < N ∧ Cond.fieldLink own index (T j).1 (T j).2.1 (T j).2.2.1 ∈ gw
def FP (own : String) (index ci j : Nat) (ty : FieldType) (fin : Bool) : Prop := ∃ (C : String) (T : u_T) (N : Nat) (ty0 : Nat → FieldType), vwCl[ci]? = some (C, T, N) ∧ (∀ w ∈ u_ws C T N, w ∈ gw) ∧ j < N ∧ Cond.fieldLink own index (T j).1 (T j).2.1 (T j).2.2.1 ∈ gw ∧ (∀ k, k < N → parseFieldDescriptor (T k).2.2.1 = some (ty0 k)) ∧ (∀ a, a < N → ∀ b, b < N → a ≠ b → (T a).2.1 ≠ (T b).2.1) ∧ (T j).2.2.2 = fin ∧ parseFieldDescriptor (T j).2.2.1 = some ty ∧ (fin = true → (T j).1 = own)
theorem fgX1_9 : FG RX1 9 1 0 := ⟨RX1, TX1, 3, rfl, hinX1, by decide, tw_99⟩
theorem fpX1_9 : FP RX1 9 1 0 (.array .int) true := ⟨RX1, TX1, 3, tyX1, rfl, hinX1, by decide, tw_99, tyX1_ok, nmX1, rfl, by decide +kernel, fun _ => rfl⟩
theorem fgX4_46 : FG RX4 46 1 0 := ⟨RX1, TX1, 3, rfl, hinX1, by decide, tw_100⟩
theorem fgX7_112 : FG RX7 112 1 0 := ⟨RX1, TX1, 3, rfl, hinX1, by decide, tw_101⟩
theorem fgX1_15 : FG RX1 15 1 1 := ⟨RX1, TX1, 3, rfl, hinX1, by decide, tw_102⟩
theorem fpX1_15 : FP RX1 15 1 1 (.array .int) true := ⟨RX1, TX1, 3, tyX1, rfl, hinX1, by decide, tw_102, tyX1_ok, nmX1, rfl, by decide +kernel, fun _ => rfl⟩
theorem fgX4_49 : FG RX4 49 1 1 := ⟨RX1, TX1, 3, rfl, hinX1, by decide, tw_103⟩
theorem fgX7_115 : FG RX7 115 1 1 := ⟨RX1, TX1, 3, rfl, hinX1, by decide, tw_104⟩
theorem fgX1_18 : FG RX1 18 1 2 := ⟨RX1, TX1, 3, rfl, hinX1, by decide, tw_105⟩
theorem fpX1_18 : FP RX1 18 1 2 (.int) false := ⟨RX1, TX1, 3, tyX1, rfl, hinX1, by decide, tw_105, tyX1_ok, nmX1, rfl, by decide +kernel, fun h => by cases h⟩
theorem fgX4_39 : FG RX4 39 1 2 := ⟨RX1, TX1, 3, rfl, hinX1, by decide, tw_106⟩
theorem fpX4_39 : FP RX4 39 1 2 (.int) false := ⟨RX1, TX1, 3, tyX1, rfl, hinX1, by decide, tw_106, tyX1_ok, nmX1, rfl, by decide +kernel, fun h => by cases h⟩
theorem fgX7_226 : FG RX7 226 1 2 := ⟨RX1, TX1, 3, rfl, hinX1, by decide, tw_107⟩
theorem fpX7_226 : FP RX7 226 1 2 (.int) false := ⟨RX1, TX1, 3, tyX1, rfl, hinX1, by decide, tw_107, tyX1_ok, nmX1, rfl, by decide +kernel, fun h => by cases h⟩
theorem fgX3_28 : FG RX3 28 3 0 := ⟨RX3, TX3, 10, rfl, hinX3, by decide, tw_124⟩
theorem fpX3_28 : FP RX3 28 3 0 (.boolean) false := ⟨RX3, TX3, 10, tyX3, rfl, hinX3, by decide, tw_124, tyX3_ok, nmX3, rfl, by decide +kernel, fun h => by cases h⟩
theorem fgX7_135 : FG RX7 135 3 0 := ⟨RX3, TX3, 10, rfl, hinX3, by decide, tw_125⟩
theorem fpX7_135 : FP RX7 135 3 0 (.boolean) false := ⟨RX3, TX3, 10, tyX3, rfl, hinX3, by decide, tw_125, tyX3_ok, nmX3, rfl, by decide +kernel, fun h => by cases h⟩
theorem fgX3_32 : FG RX3 32 3 1 := ⟨RX3, TX3, 10, rfl, hinX3, by decide, tw_126⟩
theorem fpX3_32 : FP RX3 32 3 1 (.int) false := ⟨RX3, TX3, 10, tyX3, rfl, hinX3, by decide, tw_126, tyX3_ok, nmX3, rfl, by decide +kernel, fun h => by cases h⟩
theorem fgX7_141 : FG RX7 141 3 1 := ⟨RX3, TX3, 10, rfl, hinX3, by decide, tw_127⟩
theorem fpX7_141 : FP RX7 141 3 1 (.int) false := ⟨RX3, TX3, 10, tyX3, rfl, hinX3, by decide, tw_127, tyX3_ok, nmX3, rfl, by decide +kernel, fun h => by cases h⟩
theorem fgX4_63 : FG RX4 63 3 1 := ⟨RX3, TX3, 10, rfl, hinX3, by decide, tw_128⟩
theorem fpX4_63 : FP RX4 63 3 1 (.int) false := ⟨RX3, TX3, 10, tyX3, rfl, hinX3, by decide, tw_128, tyX3_ok, nmX3, rfl, by decide +kernel, fun h => by cases h⟩
theorem fgX3_36 : FG RX3 36 3 2 := ⟨RX3, TX3, 10, rfl, hinX3, by decide, tw_129⟩
theorem fpX3_36 : FP RX3 36 3 2 (.int) false := ⟨RX3, TX3, 10, tyX3, rfl, hinX3, by decide, tw_129, tyX3_ok, nmX3, rfl, by decide +kernel, fun h => by cases h⟩
theorem fgX7_144 : FG RX7 144 3 2 := ⟨RX3, TX3, 10, rfl, hinX3, by decide, tw_130⟩
theorem fpX7_144 : FP RX7 144 3 2 (.int) false := ⟨RX3, TX3, 10, tyX3, rfl, hinX3, by decide, tw_130, tyX3_ok, nmX3, rfl, by decide +kernel, fun h => by cases h⟩
theorem fgX3_39 : FG RX3 39 3 3 := ⟨RX3, TX3, 10, rfl, hinX3, by decide, tw_131⟩
theorem fpX3_39 : FP RX3 39 3 3 (.int) false := ⟨RX3, TX3, 10, tyX3, rfl, hinX3, by decide, tw_131, tyX3_ok, nmX3, rfl, by decide +kernel, fun h => by cases h⟩
theorem fgX7_147 : FG RX7 147 3 3 := ⟨RX3, TX3, 10, rfl, hinX3, by decide, tw_132⟩
theorem fpX7_147 : FP RX7 147 3 3 (.int) false := ⟨RX3, TX3, 10, tyX3, rfl, hinX3, by decide, tw_132, tyX3_ok, nmX3, rfl, by decide +kernel, fun h => by cases h⟩
theorem fgX4_74 : FG RX4 74 3 3 := ⟨RX3, TX3, 10, rfl, hinX3, by decide, tw_133⟩
theorem fpX4_74 : FP RX4 74 3 3 (.int) false := ⟨RX3, TX3, 10, tyX3, rfl, hinX3, by decide, tw_133, tyX3_ok, nmX3, rfl, by decide +kernel, fun h => by cases h⟩
theorem fgX2_121 : FG RX2 121 3 3 := ⟨RX3, TX3, 10, rfl, hinX3, by decide, tw_134⟩
theorem fpX2_121 : FP RX2 121 3 3 (.int) false := ⟨RX3, TX3, 10, tyX3, rfl, hinX3, by decide, tw_134, tyX3_ok, nmX3, rfl, by decide +kernel, fun h => by cases h⟩
theorem fgX3_42 : FG RX3 42 3 4 := ⟨RX3, TX3, 10, rfl, hinX3, by decide, tw_135⟩
theorem fpX3_42 : FP RX3 42 3 4 (.int) false := ⟨RX3, TX3, 10, tyX3, rfl, hinX3, by decide, tw_135, tyX3_ok, nmX3, rfl, by decide +kernel, fun h => by cases h⟩
theorem fgX7_150 : FG RX7 150 3 4 := ⟨RX3, TX3, 10, rfl, hinX3, by decide, tw_136⟩
theorem fpX7_150 : FP RX7 150 3 4 (.int) false := ⟨RX3, TX3, 10, tyX3, rfl, hinX3, by decide, tw_136, tyX3_ok, nmX3, rfl, by decide +kernel, fun h => by cases h⟩
theorem fgX3_9 : FG RX3 9 3 5 := ⟨RX3, TX3, 10, rfl, hinX3, by decide, tw_137⟩
theorem fpX3_9 : FP RX3 9 3 5 (.array .int) true := ⟨RX3, TX3, 10, tyX3, rfl, hinX3, by decide, tw_137, tyX3_ok, nmX3, rfl, by decide +kernel, fun _ => rfl⟩
theorem fgX3_15 : FG RX3 15 3 6 := ⟨RX3, TX3, 10, rfl, hinX3, by decide, tw_138⟩
theorem fpX3_15 : FP RX3 15 3 6 (.array .int) true := ⟨RX3, TX3, 10, tyX3, rfl, hinX3, by decide, tw_138, tyX3_ok, nmX3, rfl, by decide +kernel, fun _ => rfl⟩
theorem fgX4_88 : FG RX4 88 3 6 := ⟨RX3, TX3, 10, rfl, hinX3, by decide, tw_139⟩
theorem fgX3_18 : FG RX3 18 3 7 := ⟨RX3, TX3, 10, rfl, hinX3, by decide, tw_140⟩
theorem fpX3_18 : FP RX3 18 3 7 (.array .boolean) true := ⟨RX3, TX3, 10, tyX3, rfl, hinX3, by decide, tw_140, tyX3_ok, nmX3, rfl, by decide +kernel, fun _ => rfl⟩
theorem fgX4_66 : FG RX4 66 3 7 := ⟨RX3, TX3, 10, rfl, hinX3, by decide, tw_141⟩
theorem fgX3_22 : FG RX3 22 3 8 := ⟨RX3, TX3, 10, rfl, hinX3, by decide, tw_142⟩
theorem fpX3_22 : FP RX3 22 3 8 (.array .int) true := ⟨RX3, TX3, 10, tyX3, rfl, hinX3, by decide, tw_142, tyX3_ok, nmX3, rfl, by decide +kernel, fun _ => rfl⟩
theorem fgX6_70 : FG RX6 70 3 8 := ⟨RX3, TX3, 10, rfl, hinX3, by decide, tw_143⟩
theorem fgX3_25 : FG RX3 25 3 9 := ⟨RX3, TX3, 10, rfl, hinX3, by decide, tw_144⟩
theorem fpX3_25 : FP RX3 25 3 9 (.array .int) true := ⟨RX3, TX3, 10, tyX3, rfl, hinX3, by decide, tw_144, tyX3_ok, nmX3, rfl, by decide +kernel, fun _ => rfl⟩
theorem fgX4_77 : FG RX4 77 3 9 := ⟨RX3, TX3, 10, rfl, hinX3, by decide, tw_145⟩
theorem fgX4_9 : FG RX4 9 4 0 := ⟨RX4, TX4, 6, rfl, hinX4, by decide, tw_168⟩
theorem fpX4_9 : FP RX4 9 4 0 (.int) false := ⟨RX4, TX4, 6, tyX4, rfl, hinX4, by decide, tw_168, tyX4_ok, nmX4, rfl, by decide +kernel, fun h => by cases h⟩
theorem fgX6_28 : FG RX6 28 4 0 := ⟨RX4, TX4, 6, rfl, hinX4, by decide, tw_169⟩
theorem fpX6_28 : FP RX6 28 4 0 (.int) false := ⟨RX4, TX4, 6, tyX4, rfl, hinX4, by decide, tw_169, tyX4_ok, nmX4, rfl, by decide +kernel, fun h => by cases h⟩
theorem fgX7_106 : FG RX7 106 4 0 := ⟨RX4, TX4, 6, rfl, hinX4, by decide, tw_170⟩
theorem fpX7_106 : FP RX7 106 4 0 (.int) false := ⟨RX4, TX4, 6, tyX4, rfl, hinX4, by decide, tw_170, tyX4_ok, nmX4, rfl, by decide +kernel, fun h => by cases h⟩
theorem fgX2_58 : FG RX2 58 4 0 := ⟨RX4, TX4, 6, rfl, hinX4, by decide, tw_171⟩
theorem fpX2_58 : FP RX2 58 4 0 (.int) false := ⟨RX4, TX4, 6, tyX4, rfl, hinX4, by decide, tw_171, tyX4_ok, nmX4, rfl, by decide +kernel, fun h => by cases h⟩
theorem fgX4_15 : FG RX4 15 4 1 := ⟨RX4, TX4, 6, rfl, hinX4, by decide, tw_172⟩
theorem fpX4_15 : FP RX4 15 4 1 (.int) false := ⟨RX4, TX4, 6, tyX4, rfl, hinX4, by decide, tw_172, tyX4_ok, nmX4, rfl, by decide +kernel, fun h => by cases h⟩
theorem fgX6_31 : FG RX6 31 4 1 := ⟨RX4, TX4, 6, rfl, hinX4, by decide, tw_173⟩
theorem fpX6_31 : FP RX6 31 4 1 (.int) false := ⟨RX4, TX4, 6, tyX4, rfl, hinX4, by decide, tw_173, tyX4_ok, nmX4, rfl, by decide +kernel, fun h => by cases h⟩
theorem fgX7_128 : FG RX7 128 4 1 := ⟨RX4, TX4, 6, rfl, hinX4, by decide, tw_174⟩
theorem fpX7_128 : FP RX7 128 4 1 (.int) false := ⟨RX4, TX4, 6, tyX4, rfl, hinX4, by decide, tw_174, tyX4_ok, nmX4, rfl, by decide +kernel, fun h => by cases h⟩
theorem fgX2_77 : FG RX2 77 4 1 := ⟨RX4, TX4, 6, rfl, hinX4, by decide, tw_175⟩
theorem fpX2_77 : FP RX2 77 4 1 (.int) false := ⟨RX4, TX4, 6, tyX4, rfl, hinX4, by decide, tw_175, tyX4_ok, nmX4, rfl, by decide +kernel, fun h => by cases h⟩
theorem fgX4_18 : FG RX4 18 4 2 := ⟨RX4, TX4, 6, rfl, hinX4, by decide, tw_176⟩
theorem fpX4_18 : FP RX4 18 4 2 (.array .int) true := ⟨RX4, TX4, 6, tyX4, rfl, hinX4, by decide, tw_176, tyX4_ok, nmX4, rfl, by decide +kernel, fun _ => rfl⟩
theorem fgX6_64 : FG RX6 64 4 2 := ⟨RX4, TX4, 6, rfl, hinX4, by decide, tw_177⟩
theorem fgX7_109 : FG RX7 109 4 2 := ⟨RX4, TX4, 6, rfl, hinX4, by decide, tw_178⟩
theorem fgX4_22 : FG RX4 22 4 3 := ⟨RX4, TX4, 6, rfl, hinX4, by decide, tw_179⟩
theorem fpX4_22 : FP RX4 22 4 3 (.array .int) true := ⟨RX4, TX4, 6, tyX4, rfl, hinX4, by decide, tw_179, tyX4_ok, nmX4, rfl, by decide +kernel, fun _ => rfl⟩
theorem fgX4_28 : FG RX4 28 4 4 := ⟨RX4, TX4, 6, rfl, hinX4, by decide, tw_180⟩
theorem fpX4_28 : FP RX4 28 4 4 (.object "StyleTree$Look") true := ⟨RX4, TX4, 6, tyX4, rfl, hinX4, by decide, tw_180, tyX4_ok, nmX4, rfl, by decide +kernel, fun _ => rfl⟩
theorem fgX7_92 : FG RX7 92 4 4 := ⟨RX4, TX4, 6, rfl, hinX4, by decide, tw_181⟩
theorem fgX4_34 : FG RX4 34 4 5 := ⟨RX4, TX4, 6, rfl, hinX4, by decide, tw_182⟩
theorem fpX4_34 : FP RX4 34 4 5 (.array (.object "StyleTree$Rule")) true := ⟨RX4, TX4, 6, tyX4, rfl, hinX4, by decide, tw_182, tyX4_ok, nmX4, rfl, by decide +kernel, fun _ => rfl⟩
theorem fgX6_40 : FG RX6 40 4 5 := ⟨RX4, TX4, 6, rfl, hinX4, by decide, tw_183⟩
theorem fgX7_131 : FG RX7 131 4 5 := ⟨RX4, TX4, 6, rfl, hinX4, by decide, tw_184⟩
theorem fgX2_84 : FG RX2 84 4 5 := ⟨RX4, TX4, 6, rfl, hinX4, by decide, tw_185⟩
theorem fgX2_9 : FG RX2 9 2 0 := ⟨RX2, TX2, 6, rfl, hinX2, by decide, tw_199⟩
theorem fpX2_9 : FP RX2 9 2 0 (.array .char) false := ⟨RX2, TX2, 6, tyX2, rfl, hinX2, by decide, tw_199, tyX2_ok, nmX2, rfl, by decide +kernel, fun h => by cases h⟩
theorem fgX2_15 : FG RX2 15 2 1 := ⟨RX2, TX2, 6, rfl, hinX2, by decide, tw_200⟩
theorem fpX2_15 : FP RX2 15 2 1 (.int) false := ⟨RX2, TX2, 6, tyX2, rfl, hinX2, by decide, tw_200, tyX2_ok, nmX2, rfl, by decide +kernel, fun h => by cases h⟩
theorem fgX2_19 : FG RX2 19 2 2 := ⟨RX2, TX2, 6, rfl, hinX2, by decide, tw_201⟩
theorem fpX2_19 : FP RX2 19 2 2 (.int) false := ⟨RX2, TX2, 6, tyX2, rfl, hinX2, by decide, tw_201, tyX2_ok, nmX2, rfl, by decide +kernel, fun h => by cases h⟩
theorem fgX2_22 : FG RX2 22 2 3 := ⟨RX2, TX2, 6, rfl, hinX2, by decide, tw_202⟩
theorem fpX2_22 : FP RX2 22 2 3 (.int) false := ⟨RX2, TX2, 6, tyX2, rfl, hinX2, by decide, tw_202, tyX2_ok, nmX2, rfl, by decide +kernel, fun h => by cases h⟩
theorem fgX2_25 : FG RX2 25 2 4 := ⟨RX2, TX2, 6, rfl, hinX2, by decide, tw_203⟩
theorem fpX2_25 : FP RX2 25 2 4 (.int) false := ⟨RX2, TX2, 6, tyX2, rfl, hinX2, by decide, tw_203, tyX2_ok, nmX2, rfl, by decide +kernel, fun h => by cases h⟩
theorem fgX2_31 : FG RX2 31 2 5 := ⟨RX2, TX2, 6, rfl, hinX2, by decide, tw_204⟩
theorem fpX2_31 : FP RX2 31 2 5 (.object "StyleTree$Sheet") false := ⟨RX2, TX2, 6, tyX2, rfl, hinX2, by decide, tw_204, tyX2_ok, nmX2, rfl, by decide +kernel, fun h => by cases h⟩
theorem fgX6_9 : FG RX6 9 6 0 := ⟨RX6, TX6, 5, rfl, hinX6, by decide, tw_228⟩
theorem fpX6_9 : FP RX6 9 6 0 (.int) false := ⟨RX6, TX6, 5, tyX6, rfl, hinX6, by decide, tw_228, tyX6_ok, nmX6, rfl, by decide +kernel, fun h => by cases h⟩
theorem fgX6_15 : FG RX6 15 6 1 := ⟨RX6, TX6, 5, rfl, hinX6, by decide, tw_229⟩
theorem fpX6_15 : FP RX6 15 6 1 (.array .int) true := ⟨RX6, TX6, 5, tyX6, rfl, hinX6, by decide, tw_229, tyX6_ok, nmX6, rfl, by decide +kernel, fun _ => rfl⟩
theorem fgX6_19 : FG RX6 19 6 2 := ⟨RX6, TX6, 5, rfl, hinX6, by decide, tw_230⟩
theorem fpX6_19 : FP RX6 19 6 2 (.array .int) true := ⟨RX6, TX6, 5, tyX6, rfl, hinX6, by decide, tw_230, tyX6_ok, nmX6, rfl, by decide +kernel, fun _ => rfl⟩
theorem fgX6_22 : FG RX6 22 6 3 := ⟨RX6, TX6, 5, rfl, hinX6, by decide, tw_231⟩
theorem fpX6_22 : FP RX6 22 6 3 (.array .int) true := ⟨RX6, TX6, 5, tyX6, rfl, hinX6, by decide, tw_231, tyX6_ok, nmX6, rfl, by decide +kernel, fun _ => rfl⟩
theorem fgX6_25 : FG RX6 25 6 4 := ⟨RX6, TX6, 5, rfl, hinX6, by decide, tw_232⟩
theorem fpX6_25 : FP RX6 25 6 4 (.array .int) true := ⟨RX6, TX6, 5, tyX6, rfl, hinX6, by decide, tw_232, tyX6_ok, nmX6, rfl, by decide +kernel, fun _ => rfl⟩
theorem fgX0_9 : FG RX0 9 0 0 := ⟨RX0, TX0, 2, rfl, hinX0, by decide, tw_250⟩
theorem fpX0_9 : FP RX0 9 0 0 (.array .int) true := ⟨RX0, TX0, 2, tyX0, rfl, hinX0, by decide, tw_250, tyX0_ok, nmX0, rfl, by decide +kernel, fun _ => rfl⟩
theorem fgX0_15 : FG RX0 15 0 1 := ⟨RX0, TX0, 2, rfl, hinX0, by decide, tw_251⟩
theorem fpX0_15 : FP RX0 15 0 1 (.int) false := ⟨RX0, TX0, 2, tyX0, rfl, hinX0, by decide, tw_251, tyX0_ok, nmX0, rfl, by decide +kernel, fun h => by cases h⟩
theorem fgX7_171 : FG RX7 171 0 1 := ⟨RX0, TX0, 2, rfl, hinX0, by decide, tw_252⟩
theorem fpX7_171 : FP RX7 171 0 1 (.int) false := ⟨RX0, TX0, 2, tyX0, rfl, hinX0, by decide, tw_252, tyX0_ok, nmX0, rfl, by decide +kernel, fun h => by cases h⟩
theorem fgX5_9 : FG RX5 9 5 0 := ⟨RX5, TX5, 4, rfl, hinX5, by decide, tw_264⟩
theorem fpX5_9 : FP RX5 9 5 0 (.array .int) true := ⟨RX5, TX5, 4, tyX5, rfl, hinX5, by decide, tw_264, tyX5_ok, nmX5, rfl, by decide +kernel, fun _ => rfl⟩
theorem fgX5_15 : FG RX5 15 5 1 := ⟨RX5, TX5, 4, rfl, hinX5, by decide, tw_265⟩
theorem fpX5_15 : FP RX5 15 5 1 (.array .int) true := ⟨RX5, TX5, 4, tyX5, rfl, hinX5, by decide, tw_265, tyX5_ok, nmX5, rfl, by decide +kernel, fun _ => rfl⟩
theorem fgX5_18 : FG RX5 18 5 2 := ⟨RX5, TX5, 4, rfl, hinX5, by decide, tw_266⟩
theorem fpX5_18 : FP RX5 18 5 2 (.array .int) true := ⟨RX5, TX5, 4, tyX5, rfl, hinX5, by decide, tw_266, tyX5_ok, nmX5, rfl, by decide +kernel, fun _ => rfl⟩
theorem fgX5_21 : FG RX5 21 5 3 := ⟨RX5, TX5, 4, rfl, hinX5, by decide, tw_267⟩
theorem fpX5_21 : FP RX5 21 5 3 (.int) false := ⟨RX5, TX5, 4, tyX5, rfl, hinX5, by decide, tw_267, tyX5_ok, nmX5, rfl, by decide +kernel, fun h => by cases h⟩
theorem fgX7_207 : FG RX7 207 5 3 := ⟨RX5, TX5, 4, rfl, hinX5, by decide, tw_268⟩
theorem fpX7_207 : FP RX7 207 5 3 (.int) false := ⟨RX5, TX5, 4, tyX5, rfl, hinX5, by decide, tw_268, tyX5_ok, nmX5, rfl, by decide +kernel, fun h => by cases h⟩
theorem fgX7_9 : FG RX7 9 7 0 := ⟨RX7, TX7, 13, rfl, hinX7, by decide, tw_279⟩
theorem fpX7_9 : FP RX7 9 7 0 (.array .char) true := ⟨RX7, TX7, 13, tyX7, rfl, hinX7, by decide, tw_279, tyX7_ok, nmX7, rfl, by decide +kernel, fun _ => rfl⟩
theorem fgX7_13 : FG RX7 13 7 1 := ⟨RX7, TX7, 13, rfl, hinX7, by decide, tw_280⟩
theorem fpX7_13 : FP RX7 13 7 1 (.int) false := ⟨RX7, TX7, 13, tyX7, rfl, hinX7, by decide, tw_280, tyX7_ok, nmX7, rfl, by decide +kernel, fun h => by cases h⟩
theorem fgX7_20 : FG RX7 20 7 2 := ⟨RX7, TX7, 13, rfl, hinX7, by decide, tw_281⟩
theorem fpX7_20 : FP RX7 20 7 2 (.object "StyleTree$Reader") true := ⟨RX7, TX7, 13, tyX7, rfl, hinX7, by decide, tw_281, tyX7_ok, nmX7, rfl, by decide +kernel, fun _ => rfl⟩
theorem fgX7_27 : FG RX7 27 7 3 := ⟨RX7, TX7, 13, rfl, hinX7, by decide, tw_282⟩
theorem fpX7_27 : FP RX7 27 7 3 (.object "StyleTree$Sheet") false := ⟨RX7, TX7, 13, tyX7, rfl, hinX7, by decide, tw_282, tyX7_ok, nmX7, rfl, by decide +kernel, fun h => by cases h⟩
theorem fgX7_34 : FG RX7 34 7 4 := ⟨RX7, TX7, 13, rfl, hinX7, by decide, tw_283⟩
theorem fpX7_34 : FP RX7 34 7 4 (.object "StyleTree$Look") true := ⟨RX7, TX7, 13, tyX7, rfl, hinX7, by decide, tw_283, tyX7_ok, nmX7, rfl, by decide +kernel, fun _ => rfl⟩
theorem fgX7_38 : FG RX7 38 7 5 := ⟨RX7, TX7, 13, rfl, hinX7, by decide, tw_284⟩
theorem fpX7_38 : FP RX7 38 7 5 (.object "StyleTree$Look") true := ⟨RX7, TX7, 13, tyX7, rfl, hinX7, by decide, tw_284, tyX7_ok, nmX7, rfl, by decide +kernel, fun _ => rfl⟩
theorem fgX7_44 : FG RX7 44 7 6 := ⟨RX7, TX7, 13, rfl, hinX7, by decide, tw_285⟩
theorem fpX7_44 : FP RX7 44 7 6 (.object "StyleTree$Styles") true := ⟨RX7, TX7, 13, tyX7, rfl, hinX7, by decide, tw_285, tyX7_ok, nmX7, rfl, by decide +kernel, fun _ => rfl⟩
theorem fgX7_48 : FG RX7 48 7 7 := ⟨RX7, TX7, 13, rfl, hinX7, by decide, tw_286⟩
theorem fpX7_48 : FP RX7 48 7 7 (.object "StyleTree$Styles") true := ⟨RX7, TX7, 13, tyX7, rfl, hinX7, by decide, tw_286, tyX7_ok, nmX7, rfl, by decide +kernel, fun _ => rfl⟩
theorem fgX7_54 : FG RX7 54 7 8 := ⟨RX7, TX7, 13, rfl, hinX7, by decide, tw_287⟩
theorem fpX7_54 : FP RX7 54 7 8 (.object "StyleTree$History") true := ⟨RX7, TX7, 13, tyX7, rfl, hinX7, by decide, tw_287, tyX7_ok, nmX7, rfl, by decide +kernel, fun _ => rfl⟩
theorem fgX7_61 : FG RX7 61 7 9 := ⟨RX7, TX7, 13, rfl, hinX7, by decide, tw_288⟩
theorem fpX7_61 : FP RX7 61 7 9 (.object "StyleTree$Sightings") true := ⟨RX7, TX7, 13, tyX7, rfl, hinX7, by decide, tw_288, tyX7_ok, nmX7, rfl, by decide +kernel, fun _ => rfl⟩
theorem fgX7_65 : FG RX7 65 7 10 := ⟨RX7, TX7, 13, rfl, hinX7, by decide, tw_289⟩
theorem fpX7_65 : FP RX7 65 7 10 (.array (.object "StyleTree$Look")) true := ⟨RX7, TX7, 13, tyX7, rfl, hinX7, by decide, tw_289, tyX7_ok, nmX7, rfl, by decide +kernel, fun _ => rfl⟩
theorem fgX7_69 : FG RX7 69 7 11 := ⟨RX7, TX7, 13, rfl, hinX7, by decide, tw_290⟩
theorem fpX7_69 : FP RX7 69 7 11 (.int) false := ⟨RX7, TX7, 13, tyX7, rfl, hinX7, by decide, tw_290, tyX7_ok, nmX7, rfl, by decide +kernel, fun h => by cases h⟩
theorem fgX7_72 : FG RX7 72 7 12 := ⟨RX7, TX7, 13, rfl, hinX7, by decide, tw_291⟩
theorem fpX7_72 : FP RX7 72 7 12 (.array .int) true := ⟨RX7, TX7, 13, tyX7, rfl, hinX7, by decide, tw_291, tyX7_ok, nmX7, rfl, by decide +kernel, fun _ => rfl⟩
theorem fgX8_56 : FG RX8 56 8 0 := ⟨RX8, TX8, 22, rfl, hinX8, by decide, tw_697⟩
theorem fpX8_56 : FP RX8 56 8 0 (.int) false := ⟨RX8, TX8, 22, tyX8, rfl, hinX8, by decide, tw_697, tyX8_ok, nmX8, rfl, by decide +kernel, fun h => by cases h⟩
theorem fgX8_7 : FG RX8 7 8 1 := ⟨RX8, TX8, 22, rfl, hinX8, by decide, tw_698⟩
theorem fpX8_7 : FP RX8 7 8 1 (.array .int) true := ⟨RX8, TX8, 22, tyX8, rfl, hinX8, by decide, tw_698, tyX8_ok, nmX8, rfl, by decide +kernel, fun _ => rfl⟩
theorem fgX8_64 : FG RX8 64 8 2 := ⟨RX8, TX8, 22, rfl, hinX8, by decide, tw_699⟩
theorem fpX8_64 : FP RX8 64 8 2 (.int) false := ⟨RX8, TX8, 22, tyX8, rfl, hinX8, by decide, tw_699, tyX8_ok, nmX8, rfl, by decide +kernel, fun h => by cases h⟩
theorem fgX8_67 : FG RX8 67 8 3 := ⟨RX8, TX8, 22, rfl, hinX8, by decide, tw_700⟩
theorem fpX8_67 : FP RX8 67 8 3 (.int) false := ⟨RX8, TX8, 22, tyX8, rfl, hinX8, by decide, tw_700, tyX8_ok, nmX8, rfl, by decide +kernel, fun h => by cases h⟩
theorem fgX8_77 : FG RX8 77 8 4 := ⟨RX8, TX8, 22, rfl, hinX8, by decide, tw_701⟩
theorem fpX8_77 : FP RX8 77 8 4 (.int) false := ⟨RX8, TX8, 22, tyX8, rfl, hinX8, by decide, tw_701, tyX8_ok, nmX8, rfl, by decide +kernel, fun h => by cases h⟩
theorem fgX8_74 : FG RX8 74 8 5 := ⟨RX8, TX8, 22, rfl, hinX8, by decide, tw_702⟩
theorem fpX8_74 : FP RX8 74 8 5 (.int) false := ⟨RX8, TX8, 22, tyX8, rfl, hinX8, by decide, tw_702, tyX8_ok, nmX8, rfl, by decide +kernel, fun h => by cases h⟩
theorem fgX8_80 : FG RX8 80 8 6 := ⟨RX8, TX8, 22, rfl, hinX8, by decide, tw_703⟩
theorem fpX8_80 : FP RX8 80 8 6 (.int) false := ⟨RX8, TX8, 22, tyX8, rfl, hinX8, by decide, tw_703, tyX8_ok, nmX8, rfl, by decide +kernel, fun h => by cases h⟩
theorem fgX8_87 : FG RX8 87 8 7 := ⟨RX8, TX8, 22, rfl, hinX8, by decide, tw_704⟩
theorem fpX8_87 : FP RX8 87 8 7 (.int) false := ⟨RX8, TX8, 22, tyX8, rfl, hinX8, by decide, tw_704, tyX8_ok, nmX8, rfl, by decide +kernel, fun h => by cases h⟩
theorem fgX8_13 : FG RX8 13 8 8 := ⟨RX8, TX8, 22, rfl, hinX8, by decide, tw_705⟩
theorem fpX8_13 : FP RX8 13 8 8 (.array .int) true := ⟨RX8, TX8, 22, tyX8, rfl, hinX8, by decide, tw_705, tyX8_ok, nmX8, rfl, by decide +kernel, fun _ => rfl⟩
theorem fgX8_16 : FG RX8 16 8 9 := ⟨RX8, TX8, 22, rfl, hinX8, by decide, tw_706⟩
theorem fpX8_16 : FP RX8 16 8 9 (.array .int) true := ⟨RX8, TX8, 22, tyX8, rfl, hinX8, by decide, tw_706, tyX8_ok, nmX8, rfl, by decide +kernel, fun _ => rfl⟩
theorem fgX8_19 : FG RX8 19 8 10 := ⟨RX8, TX8, 22, rfl, hinX8, by decide, tw_707⟩
theorem fpX8_19 : FP RX8 19 8 10 (.array .int) true := ⟨RX8, TX8, 22, tyX8, rfl, hinX8, by decide, tw_707, tyX8_ok, nmX8, rfl, by decide +kernel, fun _ => rfl⟩
theorem fgX8_22 : FG RX8 22 8 11 := ⟨RX8, TX8, 22, rfl, hinX8, by decide, tw_708⟩
theorem fpX8_22 : FP RX8 22 8 11 (.array .int) true := ⟨RX8, TX8, 22, tyX8, rfl, hinX8, by decide, tw_708, tyX8_ok, nmX8, rfl, by decide +kernel, fun _ => rfl⟩
theorem fgX8_25 : FG RX8 25 8 12 := ⟨RX8, TX8, 22, rfl, hinX8, by decide, tw_709⟩
theorem fpX8_25 : FP RX8 25 8 12 (.array .int) true := ⟨RX8, TX8, 22, tyX8, rfl, hinX8, by decide, tw_709, tyX8_ok, nmX8, rfl, by decide +kernel, fun _ => rfl⟩
theorem fgX8_127 : FG RX8 127 8 13 := ⟨RX8, TX8, 22, rfl, hinX8, by decide, tw_710⟩
theorem fpX8_127 : FP RX8 127 8 13 (.int) false := ⟨RX8, TX8, 22, tyX8, rfl, hinX8, by decide, tw_710, tyX8_ok, nmX8, rfl, by decide +kernel, fun h => by cases h⟩
theorem fgX8_28 : FG RX8 28 8 14 := ⟨RX8, TX8, 22, rfl, hinX8, by decide, tw_711⟩
theorem fpX8_28 : FP RX8 28 8 14 (.array .int) true := ⟨RX8, TX8, 22, tyX8, rfl, hinX8, by decide, tw_711, tyX8_ok, nmX8, rfl, by decide +kernel, fun _ => rfl⟩
theorem fgX8_31 : FG RX8 31 8 15 := ⟨RX8, TX8, 22, rfl, hinX8, by decide, tw_712⟩
theorem fpX8_31 : FP RX8 31 8 15 (.array .boolean) true := ⟨RX8, TX8, 22, tyX8, rfl, hinX8, by decide, tw_712, tyX8_ok, nmX8, rfl, by decide +kernel, fun _ => rfl⟩
theorem fgX8_35 : FG RX8 35 8 16 := ⟨RX8, TX8, 22, rfl, hinX8, by decide, tw_713⟩
theorem fpX8_35 : FP RX8 35 8 16 (.array .int) true := ⟨RX8, TX8, 22, tyX8, rfl, hinX8, by decide, tw_713, tyX8_ok, nmX8, rfl, by decide +kernel, fun _ => rfl⟩
theorem fgX8_38 : FG RX8 38 8 17 := ⟨RX8, TX8, 22, rfl, hinX8, by decide, tw_714⟩
theorem fpX8_38 : FP RX8 38 8 17 (.array .int) true := ⟨RX8, TX8, 22, tyX8, rfl, hinX8, by decide, tw_714, tyX8_ok, nmX8, rfl, by decide +kernel, fun _ => rfl⟩
theorem fgX8_41 : FG RX8 41 8 18 := ⟨RX8, TX8, 22, rfl, hinX8, by decide, tw_715⟩
theorem fpX8_41 : FP RX8 41 8 18 (.array .int) true := ⟨RX8, TX8, 22, tyX8, rfl, hinX8, by decide, tw_715, tyX8_ok, nmX8, rfl, by decide +kernel, fun _ => rfl⟩
theorem fgX8_124 : FG RX8 124 8 19 := ⟨RX8, TX8, 22, rfl, hinX8, by decide, tw_716⟩
theorem fpX8_124 : FP RX8 124 8 19 (.int) false := ⟨RX8, TX8, 22, tyX8, rfl, hinX8, by decide, tw_716, tyX8_ok, nmX8, rfl, by decide +kernel, fun h => by cases h⟩
theorem fgX8_44 : FG RX8 44 8 20 := ⟨RX8, TX8, 22, rfl, hinX8, by decide, tw_717⟩
theorem fpX8_44 : FP RX8 44 8 20 (.array .int) true := ⟨RX8, TX8, 22, tyX8, rfl, hinX8, by decide, tw_717, tyX8_ok, nmX8, rfl, by decide +kernel, fun _ => rfl⟩
theorem fgX8_47 : FG RX8 47 8 21 := ⟨RX8, TX8, 22, rfl, hinX8, by decide, tw_718⟩
theorem fpX8_47 : FP RX8 47 8 21 (.array .int) true := ⟨RX8, TX8, 22, tyX8, rfl, hinX8, by decide, tw_718, tyX8_ok, nmX8, rfl, by decide +kernel, fun _ => rfl⟩
