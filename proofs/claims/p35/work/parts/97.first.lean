/-! THE FIRST STATE: xs the script, L its length -/
def sg0 (xs : Nat → Int32) (L : Nat) : St := (fun i => if i = 3 then (fun k => if k = 0 then 1 else if k = 3 then 3 else 0) else if i = 68 then xs else if i = 69 then (fun k => if k = 0 then Int32.ofNat L else 0) else fun _ => 0, fun _ _ => 0)
/-- two arrays of references that hold the same within -/
theorem atG {D : va_G} {cl : List vw_C} {x : Nat} {cA : ClassId} {n : Nat} {f g : Nat → Option Nat} {H : Heap} (h : va_at D cl (x, .inl (cA, n, .inr (.inr (.inr (.inr f))))) H) (e : ∀ j, j < n → f j = g j) : va_at D cl (x, .inl (cA, n, .inr (.inr (.inr (.inr g))))) H := by
  have h1 : H[x]? = some (arrV cA n (fun j => va_rf (f j))) := h
  show H[x]? = some (arrV cA n (fun j => va_rf (g j)))
  rw [h1]
  unfold arrV
  congr 2
  apply congrArg
  funext j
  exact congrArg va_rf (e j.val j.isLt)
def ALLP (P : Nat → Prop) : Nat → Prop
  | 0 => True
  | n + 1 => ALLP P n ∧ P n
theorem allp {P : Nat → Prop} : ∀ {n : Nat}, ALLP P n → ∀ k, k < n → P k
  | 0, _, k, h => absurd h (Nat.not_lt_zero k)
  | n + 1, a, k, h => by
    by_cases e : k = n
    · rw [e]; exact a.2
    · exact allp a.1 k (by omega)
/-- addresses by the cells' numbers -/
def ad0 (a : Nat → Nat) (bs : List Nat) (b : Nat) (i : Nat) : Nat := if i < 58 then a i else if i = 68 then b else bs.getD (i - 58) 0
theorem wsE_len {ad : Nat → Nat} {C : CT} {σ : St} {k : Nat} {q : Nat × va_E} {n : Nat} (h : (wsE ad C n σ)[k]? = some q) : k < n := by
  have := (List.getElem?_eq_some_iff.mp h).1
  simpa [wsE] using this
theorem dCong {A : Nat → Prop} {ws ws' : va_W} (h : ws.map Prod.fst = ws'.map Prod.fst) (hD : va_D A ws) : va_D A ws' := by
  have key : ∀ (k : Nat) (q : Nat × va_E), ws'[k]? = some q → ∃ p, ws[k]? = some p ∧ p.1 = q.1 := fun k q hq => by
    have h1 : (ws'.map Prod.fst)[k]? = some q.1 := by rw [List.getElem?_map, hq]; rfl
    rw [← h, List.getElem?_map] at h1
    cases hp : ws[k]? with
    | none => rw [hp] at h1; cases h1
    | some p => rw [hp] at h1; exact ⟨p, rfl, Option.some.inj h1⟩
  refine ⟨fun i j p q hp hq e => ?_, fun k q hq => ?_⟩
  · obtain ⟨p', g1, g2⟩ := key i p hp
    obtain ⟨q', g3, g4⟩ := key j q hq
    exact hD.1 i j p' q' g1 g3 (by rw [g2, g4, e])
  · obtain ⟨p, g1, g2⟩ := key k q hq
    rw [← g2]
    exact hD.2 k p g1
section FS
variable {D : va_G} {C : CT} {a : Nat → Nat} {q1 q2 q3 q4 q5 q6 b L : Nat} {xs : Nat → Int32} {H : Heap}
abbrev lAll (C : CT) (a : Nat → Nat) (q1 q2 q3 q4 q5 q6 : Nat) : va_W := ((((((lX8 C a ++ [(q1, .inl (C.1, (4, .inl fun _ => 0)))]) ++ [(q2, .inl (C.1, (16, .inl fun _ => 0)))]) ++ [(q3, .inl (C.1, (27, .inl fun _ => 0)))]) ++ [(q4, .inl (C.1, (64, .inl fun _ => 0)))]) ++ [(q5, .inl (C.1, (64, .inl fun _ => 0)))]) ++ [(q6, .inl (C.1, (64, .inl fun _ => 0)))])
theorem fs_0 (hP : va_P D vwCl (lAll C a q1 q2 q3 q4 q5 q6) H) : va_at D vwCl ((ad0 a [q1, q2, q3, q4, q5, q6] b) 0, cellE (ad0 a [q1, q2, q3, q4, q5, q6] b) C (sg0 xs L) 0) H := hP 0 _ rfl
theorem fs_1 (hP : va_P D vwCl (lAll C a q1 q2 q3 q4 q5 q6) H) : va_at D vwCl ((ad0 a [q1, q2, q3, q4, q5, q6] b) 1, cellE (ad0 a [q1, q2, q3, q4, q5, q6] b) C (sg0 xs L) 1) H := hP 1 _ rfl
theorem fs_2 (hP : va_P D vwCl (lAll C a q1 q2 q3 q4 q5 q6) H) : va_at D vwCl ((ad0 a [q1, q2, q3, q4, q5, q6] b) 2, cellE (ad0 a [q1, q2, q3, q4, q5, q6] b) C (sg0 xs L) 2) H := hP 2 _ rfl
theorem fs_3 (hP : va_P D vwCl (lAll C a q1 q2 q3 q4 q5 q6) H) : va_at D vwCl ((ad0 a [q1, q2, q3, q4, q5, q6] b) 3, cellE (ad0 a [q1, q2, q3, q4, q5, q6] b) C (sg0 xs L) 3) H := hP 3 _ rfl
theorem fs_4 (hP : va_P D vwCl (lAll C a q1 q2 q3 q4 q5 q6) H) : va_at D vwCl ((ad0 a [q1, q2, q3, q4, q5, q6] b) 4, cellE (ad0 a [q1, q2, q3, q4, q5, q6] b) C (sg0 xs L) 4) H := hP 4 _ rfl
theorem fs_5 (hP : va_P D vwCl (lAll C a q1 q2 q3 q4 q5 q6) H) : va_at D vwCl ((ad0 a [q1, q2, q3, q4, q5, q6] b) 5, cellE (ad0 a [q1, q2, q3, q4, q5, q6] b) C (sg0 xs L) 5) H := hP 5 _ rfl
theorem fs_6 (hP : va_P D vwCl (lAll C a q1 q2 q3 q4 q5 q6) H) : va_at D vwCl ((ad0 a [q1, q2, q3, q4, q5, q6] b) 6, cellE (ad0 a [q1, q2, q3, q4, q5, q6] b) C (sg0 xs L) 6) H := hP 6 _ rfl
theorem fs_7 (hP : va_P D vwCl (lAll C a q1 q2 q3 q4 q5 q6) H) : va_at D vwCl ((ad0 a [q1, q2, q3, q4, q5, q6] b) 7, cellE (ad0 a [q1, q2, q3, q4, q5, q6] b) C (sg0 xs L) 7) H := hP 7 _ rfl
theorem fs_8 (hP : va_P D vwCl (lAll C a q1 q2 q3 q4 q5 q6) H) : va_at D vwCl ((ad0 a [q1, q2, q3, q4, q5, q6] b) 8, cellE (ad0 a [q1, q2, q3, q4, q5, q6] b) C (sg0 xs L) 8) H := hP 8 _ rfl
theorem fs_9 (hP : va_P D vwCl (lAll C a q1 q2 q3 q4 q5 q6) H) : va_at D vwCl ((ad0 a [q1, q2, q3, q4, q5, q6] b) 9, cellE (ad0 a [q1, q2, q3, q4, q5, q6] b) C (sg0 xs L) 9) H := hP 9 _ rfl
theorem fs_10 (hP : va_P D vwCl (lAll C a q1 q2 q3 q4 q5 q6) H) : va_at D vwCl ((ad0 a [q1, q2, q3, q4, q5, q6] b) 10, cellE (ad0 a [q1, q2, q3, q4, q5, q6] b) C (sg0 xs L) 10) H := atG (hP 10 _ rfl) (fun j hj => by have hj : j < 8 := hj; rcases (show j = 0 ∨ j = 1 ∨ j = 2 ∨ j = 3 ∨ j = 4 ∨ j = 5 ∨ j = 6 ∨ j = 7 by omega) with rfl | rfl | rfl | rfl | rfl | rfl | rfl | rfl <;> rfl)
theorem fs_11 (hP : va_P D vwCl (lAll C a q1 q2 q3 q4 q5 q6) H) : va_at D vwCl ((ad0 a [q1, q2, q3, q4, q5, q6] b) 11, cellE (ad0 a [q1, q2, q3, q4, q5, q6] b) C (sg0 xs L) 11) H := hP 11 _ rfl
theorem fs_12 (hP : va_P D vwCl (lAll C a q1 q2 q3 q4 q5 q6) H) : va_at D vwCl ((ad0 a [q1, q2, q3, q4, q5, q6] b) 12, cellE (ad0 a [q1, q2, q3, q4, q5, q6] b) C (sg0 xs L) 12) H := hP 12 _ rfl
theorem fs_13 (hP : va_P D vwCl (lAll C a q1 q2 q3 q4 q5 q6) H) : va_at D vwCl ((ad0 a [q1, q2, q3, q4, q5, q6] b) 13, cellE (ad0 a [q1, q2, q3, q4, q5, q6] b) C (sg0 xs L) 13) H := hP 13 _ rfl
theorem fs_14 (hP : va_P D vwCl (lAll C a q1 q2 q3 q4 q5 q6) H) : va_at D vwCl ((ad0 a [q1, q2, q3, q4, q5, q6] b) 14, cellE (ad0 a [q1, q2, q3, q4, q5, q6] b) C (sg0 xs L) 14) H := hP 14 _ rfl
theorem fs_15 (hP : va_P D vwCl (lAll C a q1 q2 q3 q4 q5 q6) H) : va_at D vwCl ((ad0 a [q1, q2, q3, q4, q5, q6] b) 15, cellE (ad0 a [q1, q2, q3, q4, q5, q6] b) C (sg0 xs L) 15) H := hP 15 _ rfl
theorem fs_16 (hP : va_P D vwCl (lAll C a q1 q2 q3 q4 q5 q6) H) : va_at D vwCl ((ad0 a [q1, q2, q3, q4, q5, q6] b) 16, cellE (ad0 a [q1, q2, q3, q4, q5, q6] b) C (sg0 xs L) 16) H := hP 16 _ rfl
theorem fs_17 (hP : va_P D vwCl (lAll C a q1 q2 q3 q4 q5 q6) H) : va_at D vwCl ((ad0 a [q1, q2, q3, q4, q5, q6] b) 17, cellE (ad0 a [q1, q2, q3, q4, q5, q6] b) C (sg0 xs L) 17) H := hP 17 _ rfl
theorem fs_18 (hP : va_P D vwCl (lAll C a q1 q2 q3 q4 q5 q6) H) : va_at D vwCl ((ad0 a [q1, q2, q3, q4, q5, q6] b) 18, cellE (ad0 a [q1, q2, q3, q4, q5, q6] b) C (sg0 xs L) 18) H := hP 18 _ rfl
theorem fs_19 (hP : va_P D vwCl (lAll C a q1 q2 q3 q4 q5 q6) H) : va_at D vwCl ((ad0 a [q1, q2, q3, q4, q5, q6] b) 19, cellE (ad0 a [q1, q2, q3, q4, q5, q6] b) C (sg0 xs L) 19) H := hP 19 _ rfl
theorem fs_20 (hP : va_P D vwCl (lAll C a q1 q2 q3 q4 q5 q6) H) : va_at D vwCl ((ad0 a [q1, q2, q3, q4, q5, q6] b) 20, cellE (ad0 a [q1, q2, q3, q4, q5, q6] b) C (sg0 xs L) 20) H := hP 20 _ rfl
theorem fs_21 (hP : va_P D vwCl (lAll C a q1 q2 q3 q4 q5 q6) H) : va_at D vwCl ((ad0 a [q1, q2, q3, q4, q5, q6] b) 21, cellE (ad0 a [q1, q2, q3, q4, q5, q6] b) C (sg0 xs L) 21) H := hP 21 _ rfl
theorem fs_22 (hP : va_P D vwCl (lAll C a q1 q2 q3 q4 q5 q6) H) : va_at D vwCl ((ad0 a [q1, q2, q3, q4, q5, q6] b) 22, cellE (ad0 a [q1, q2, q3, q4, q5, q6] b) C (sg0 xs L) 22) H := hP 22 _ rfl
theorem fs_23 (hP : va_P D vwCl (lAll C a q1 q2 q3 q4 q5 q6) H) : va_at D vwCl ((ad0 a [q1, q2, q3, q4, q5, q6] b) 23, cellE (ad0 a [q1, q2, q3, q4, q5, q6] b) C (sg0 xs L) 23) H := hP 23 _ rfl
theorem fs_24 (hP : va_P D vwCl (lAll C a q1 q2 q3 q4 q5 q6) H) : va_at D vwCl ((ad0 a [q1, q2, q3, q4, q5, q6] b) 24, cellE (ad0 a [q1, q2, q3, q4, q5, q6] b) C (sg0 xs L) 24) H := hP 24 _ rfl
theorem fs_25 (hP : va_P D vwCl (lAll C a q1 q2 q3 q4 q5 q6) H) : va_at D vwCl ((ad0 a [q1, q2, q3, q4, q5, q6] b) 25, cellE (ad0 a [q1, q2, q3, q4, q5, q6] b) C (sg0 xs L) 25) H := atG (hP 25 _ rfl) (fun j hj => by have hj : j < 8 := hj; rcases (show j = 0 ∨ j = 1 ∨ j = 2 ∨ j = 3 ∨ j = 4 ∨ j = 5 ∨ j = 6 ∨ j = 7 by omega) with rfl | rfl | rfl | rfl | rfl | rfl | rfl | rfl <;> rfl)
theorem fs_26 (hP : va_P D vwCl (lAll C a q1 q2 q3 q4 q5 q6) H) : va_at D vwCl ((ad0 a [q1, q2, q3, q4, q5, q6] b) 26, cellE (ad0 a [q1, q2, q3, q4, q5, q6] b) C (sg0 xs L) 26) H := hP 26 _ rfl
theorem fs_27 (hP : va_P D vwCl (lAll C a q1 q2 q3 q4 q5 q6) H) : va_at D vwCl ((ad0 a [q1, q2, q3, q4, q5, q6] b) 27, cellE (ad0 a [q1, q2, q3, q4, q5, q6] b) C (sg0 xs L) 27) H := hP 27 _ rfl
theorem fs_28 (hP : va_P D vwCl (lAll C a q1 q2 q3 q4 q5 q6) H) : va_at D vwCl ((ad0 a [q1, q2, q3, q4, q5, q6] b) 28, cellE (ad0 a [q1, q2, q3, q4, q5, q6] b) C (sg0 xs L) 28) H := hP 28 _ rfl
theorem fs_29 (hP : va_P D vwCl (lAll C a q1 q2 q3 q4 q5 q6) H) : va_at D vwCl ((ad0 a [q1, q2, q3, q4, q5, q6] b) 29, cellE (ad0 a [q1, q2, q3, q4, q5, q6] b) C (sg0 xs L) 29) H := hP 29 _ rfl
theorem fs_30 (hP : va_P D vwCl (lAll C a q1 q2 q3 q4 q5 q6) H) : va_at D vwCl ((ad0 a [q1, q2, q3, q4, q5, q6] b) 30, cellE (ad0 a [q1, q2, q3, q4, q5, q6] b) C (sg0 xs L) 30) H := hP 30 _ rfl
theorem fs_31 (hP : va_P D vwCl (lAll C a q1 q2 q3 q4 q5 q6) H) : va_at D vwCl ((ad0 a [q1, q2, q3, q4, q5, q6] b) 31, cellE (ad0 a [q1, q2, q3, q4, q5, q6] b) C (sg0 xs L) 31) H := hP 31 _ rfl
theorem fs_32 (hP : va_P D vwCl (lAll C a q1 q2 q3 q4 q5 q6) H) : va_at D vwCl ((ad0 a [q1, q2, q3, q4, q5, q6] b) 32, cellE (ad0 a [q1, q2, q3, q4, q5, q6] b) C (sg0 xs L) 32) H := hP 32 _ rfl
theorem fs_33 (hP : va_P D vwCl (lAll C a q1 q2 q3 q4 q5 q6) H) : va_at D vwCl ((ad0 a [q1, q2, q3, q4, q5, q6] b) 33, cellE (ad0 a [q1, q2, q3, q4, q5, q6] b) C (sg0 xs L) 33) H := hP 33 _ rfl
theorem fs_34 (hP : va_P D vwCl (lAll C a q1 q2 q3 q4 q5 q6) H) : va_at D vwCl ((ad0 a [q1, q2, q3, q4, q5, q6] b) 34, cellE (ad0 a [q1, q2, q3, q4, q5, q6] b) C (sg0 xs L) 34) H := hP 34 _ rfl
theorem fs_35 (hP : va_P D vwCl (lAll C a q1 q2 q3 q4 q5 q6) H) : va_at D vwCl ((ad0 a [q1, q2, q3, q4, q5, q6] b) 35, cellE (ad0 a [q1, q2, q3, q4, q5, q6] b) C (sg0 xs L) 35) H := hP 35 _ rfl
theorem fs_36 (hP : va_P D vwCl (lAll C a q1 q2 q3 q4 q5 q6) H) : va_at D vwCl ((ad0 a [q1, q2, q3, q4, q5, q6] b) 36, cellE (ad0 a [q1, q2, q3, q4, q5, q6] b) C (sg0 xs L) 36) H := hP 36 _ rfl
theorem fs_37 (hP : va_P D vwCl (lAll C a q1 q2 q3 q4 q5 q6) H) : va_at D vwCl ((ad0 a [q1, q2, q3, q4, q5, q6] b) 37, cellE (ad0 a [q1, q2, q3, q4, q5, q6] b) C (sg0 xs L) 37) H := hP 37 _ rfl
theorem fs_38 (hP : va_P D vwCl (lAll C a q1 q2 q3 q4 q5 q6) H) : va_at D vwCl ((ad0 a [q1, q2, q3, q4, q5, q6] b) 38, cellE (ad0 a [q1, q2, q3, q4, q5, q6] b) C (sg0 xs L) 38) H := hP 38 _ rfl
theorem fs_39 (hP : va_P D vwCl (lAll C a q1 q2 q3 q4 q5 q6) H) : va_at D vwCl ((ad0 a [q1, q2, q3, q4, q5, q6] b) 39, cellE (ad0 a [q1, q2, q3, q4, q5, q6] b) C (sg0 xs L) 39) H := hP 39 _ rfl
theorem fs_40 (hP : va_P D vwCl (lAll C a q1 q2 q3 q4 q5 q6) H) : va_at D vwCl ((ad0 a [q1, q2, q3, q4, q5, q6] b) 40, cellE (ad0 a [q1, q2, q3, q4, q5, q6] b) C (sg0 xs L) 40) H := atG (hP 40 _ rfl) (fun j hj => by have hj : j < 8 := hj; rcases (show j = 0 ∨ j = 1 ∨ j = 2 ∨ j = 3 ∨ j = 4 ∨ j = 5 ∨ j = 6 ∨ j = 7 by omega) with rfl | rfl | rfl | rfl | rfl | rfl | rfl | rfl <;> rfl)
theorem fs_41 (hP : va_P D vwCl (lAll C a q1 q2 q3 q4 q5 q6) H) : va_at D vwCl ((ad0 a [q1, q2, q3, q4, q5, q6] b) 41, cellE (ad0 a [q1, q2, q3, q4, q5, q6] b) C (sg0 xs L) 41) H := hP 41 _ rfl
theorem fs_42 (hP : va_P D vwCl (lAll C a q1 q2 q3 q4 q5 q6) H) : va_at D vwCl ((ad0 a [q1, q2, q3, q4, q5, q6] b) 42, cellE (ad0 a [q1, q2, q3, q4, q5, q6] b) C (sg0 xs L) 42) H := hP 42 _ rfl
theorem fs_43 (hP : va_P D vwCl (lAll C a q1 q2 q3 q4 q5 q6) H) : va_at D vwCl ((ad0 a [q1, q2, q3, q4, q5, q6] b) 43, cellE (ad0 a [q1, q2, q3, q4, q5, q6] b) C (sg0 xs L) 43) H := hP 43 _ rfl
theorem fs_44 (hP : va_P D vwCl (lAll C a q1 q2 q3 q4 q5 q6) H) : va_at D vwCl ((ad0 a [q1, q2, q3, q4, q5, q6] b) 44, cellE (ad0 a [q1, q2, q3, q4, q5, q6] b) C (sg0 xs L) 44) H := hP 44 _ rfl
theorem fs_45 (hP : va_P D vwCl (lAll C a q1 q2 q3 q4 q5 q6) H) : va_at D vwCl ((ad0 a [q1, q2, q3, q4, q5, q6] b) 45, cellE (ad0 a [q1, q2, q3, q4, q5, q6] b) C (sg0 xs L) 45) H := hP 45 _ rfl
theorem fs_46 (hP : va_P D vwCl (lAll C a q1 q2 q3 q4 q5 q6) H) : va_at D vwCl ((ad0 a [q1, q2, q3, q4, q5, q6] b) 46, cellE (ad0 a [q1, q2, q3, q4, q5, q6] b) C (sg0 xs L) 46) H := hP 46 _ rfl
theorem fs_47 (hP : va_P D vwCl (lAll C a q1 q2 q3 q4 q5 q6) H) : va_at D vwCl ((ad0 a [q1, q2, q3, q4, q5, q6] b) 47, cellE (ad0 a [q1, q2, q3, q4, q5, q6] b) C (sg0 xs L) 47) H := hP 47 _ rfl
theorem fs_48 (hP : va_P D vwCl (lAll C a q1 q2 q3 q4 q5 q6) H) : va_at D vwCl ((ad0 a [q1, q2, q3, q4, q5, q6] b) 48, cellE (ad0 a [q1, q2, q3, q4, q5, q6] b) C (sg0 xs L) 48) H := hP 48 _ rfl
theorem fs_49 (hP : va_P D vwCl (lAll C a q1 q2 q3 q4 q5 q6) H) : va_at D vwCl ((ad0 a [q1, q2, q3, q4, q5, q6] b) 49, cellE (ad0 a [q1, q2, q3, q4, q5, q6] b) C (sg0 xs L) 49) H := hP 49 _ rfl
theorem fs_50 (hP : va_P D vwCl (lAll C a q1 q2 q3 q4 q5 q6) H) : va_at D vwCl ((ad0 a [q1, q2, q3, q4, q5, q6] b) 50, cellE (ad0 a [q1, q2, q3, q4, q5, q6] b) C (sg0 xs L) 50) H := hP 50 _ rfl
theorem fs_51 (hP : va_P D vwCl (lAll C a q1 q2 q3 q4 q5 q6) H) : va_at D vwCl ((ad0 a [q1, q2, q3, q4, q5, q6] b) 51, cellE (ad0 a [q1, q2, q3, q4, q5, q6] b) C (sg0 xs L) 51) H := hP 51 _ rfl
theorem fs_52 (hP : va_P D vwCl (lAll C a q1 q2 q3 q4 q5 q6) H) : va_at D vwCl ((ad0 a [q1, q2, q3, q4, q5, q6] b) 52, cellE (ad0 a [q1, q2, q3, q4, q5, q6] b) C (sg0 xs L) 52) H := hP 52 _ rfl
theorem fs_53 (hP : va_P D vwCl (lAll C a q1 q2 q3 q4 q5 q6) H) : va_at D vwCl ((ad0 a [q1, q2, q3, q4, q5, q6] b) 53, cellE (ad0 a [q1, q2, q3, q4, q5, q6] b) C (sg0 xs L) 53) H := hP 53 _ rfl
theorem fs_54 (hP : va_P D vwCl (lAll C a q1 q2 q3 q4 q5 q6) H) : va_at D vwCl ((ad0 a [q1, q2, q3, q4, q5, q6] b) 54, cellE (ad0 a [q1, q2, q3, q4, q5, q6] b) C (sg0 xs L) 54) H := hP 54 _ rfl
theorem fs_55 (hP : va_P D vwCl (lAll C a q1 q2 q3 q4 q5 q6) H) : va_at D vwCl ((ad0 a [q1, q2, q3, q4, q5, q6] b) 55, cellE (ad0 a [q1, q2, q3, q4, q5, q6] b) C (sg0 xs L) 55) H := hP 55 _ rfl
theorem fs_56 (hP : va_P D vwCl (lAll C a q1 q2 q3 q4 q5 q6) H) : va_at D vwCl ((ad0 a [q1, q2, q3, q4, q5, q6] b) 56, cellE (ad0 a [q1, q2, q3, q4, q5, q6] b) C (sg0 xs L) 56) H := hP 56 _ rfl
theorem fs_57 (hP : va_P D vwCl (lAll C a q1 q2 q3 q4 q5 q6) H) : va_at D vwCl ((ad0 a [q1, q2, q3, q4, q5, q6] b) 57, cellE (ad0 a [q1, q2, q3, q4, q5, q6] b) C (sg0 xs L) 57) H := hP 57 _ rfl
theorem fs_58 (hP : va_P D vwCl (lAll C a q1 q2 q3 q4 q5 q6) H) : va_at D vwCl ((ad0 a [q1, q2, q3, q4, q5, q6] b) 58, cellE (ad0 a [q1, q2, q3, q4, q5, q6] b) C (sg0 xs L) 58) H := hP 58 _ rfl
theorem fs_59 (hP : va_P D vwCl (lAll C a q1 q2 q3 q4 q5 q6) H) : va_at D vwCl ((ad0 a [q1, q2, q3, q4, q5, q6] b) 59, cellE (ad0 a [q1, q2, q3, q4, q5, q6] b) C (sg0 xs L) 59) H := hP 59 _ rfl
theorem fs_60 (hP : va_P D vwCl (lAll C a q1 q2 q3 q4 q5 q6) H) : va_at D vwCl ((ad0 a [q1, q2, q3, q4, q5, q6] b) 60, cellE (ad0 a [q1, q2, q3, q4, q5, q6] b) C (sg0 xs L) 60) H := hP 60 _ rfl
theorem fs_61 (hP : va_P D vwCl (lAll C a q1 q2 q3 q4 q5 q6) H) : va_at D vwCl ((ad0 a [q1, q2, q3, q4, q5, q6] b) 61, cellE (ad0 a [q1, q2, q3, q4, q5, q6] b) C (sg0 xs L) 61) H := hP 61 _ rfl
theorem fs_62 (hP : va_P D vwCl (lAll C a q1 q2 q3 q4 q5 q6) H) : va_at D vwCl ((ad0 a [q1, q2, q3, q4, q5, q6] b) 62, cellE (ad0 a [q1, q2, q3, q4, q5, q6] b) C (sg0 xs L) 62) H := hP 62 _ rfl
theorem fs_63 (hP : va_P D vwCl (lAll C a q1 q2 q3 q4 q5 q6) H) : va_at D vwCl ((ad0 a [q1, q2, q3, q4, q5, q6] b) 63, cellE (ad0 a [q1, q2, q3, q4, q5, q6] b) C (sg0 xs L) 63) H := hP 63 _ rfl
set_option maxRecDepth 20000 in
theorem firstP (hP : va_P D vwCl (lAll C a q1 q2 q3 q4 q5 q6) H) : va_P D vwCl (wsE (ad0 a [q1, q2, q3, q4, q5, q6] b) C 64 (sg0 xs L)) H := by
  have all : ALLP (fun i => va_at D vwCl ((ad0 a [q1, q2, q3, q4, q5, q6] b) i, cellE (ad0 a [q1, q2, q3, q4, q5, q6] b) C (sg0 xs L) i) H) 64 := ⟨⟨⟨⟨⟨⟨⟨⟨⟨⟨⟨⟨⟨⟨⟨⟨⟨⟨⟨⟨⟨⟨⟨⟨⟨⟨⟨⟨⟨⟨⟨⟨⟨⟨⟨⟨⟨⟨⟨⟨⟨⟨⟨⟨⟨⟨⟨⟨⟨⟨⟨⟨⟨⟨⟨⟨⟨⟨⟨⟨⟨⟨⟨⟨trivial, fs_0 hP⟩, fs_1 hP⟩, fs_2 hP⟩, fs_3 hP⟩, fs_4 hP⟩, fs_5 hP⟩, fs_6 hP⟩, fs_7 hP⟩, fs_8 hP⟩, fs_9 hP⟩, fs_10 hP⟩, fs_11 hP⟩, fs_12 hP⟩, fs_13 hP⟩, fs_14 hP⟩, fs_15 hP⟩, fs_16 hP⟩, fs_17 hP⟩, fs_18 hP⟩, fs_19 hP⟩, fs_20 hP⟩, fs_21 hP⟩, fs_22 hP⟩, fs_23 hP⟩, fs_24 hP⟩, fs_25 hP⟩, fs_26 hP⟩, fs_27 hP⟩, fs_28 hP⟩, fs_29 hP⟩, fs_30 hP⟩, fs_31 hP⟩, fs_32 hP⟩, fs_33 hP⟩, fs_34 hP⟩, fs_35 hP⟩, fs_36 hP⟩, fs_37 hP⟩, fs_38 hP⟩, fs_39 hP⟩, fs_40 hP⟩, fs_41 hP⟩, fs_42 hP⟩, fs_43 hP⟩, fs_44 hP⟩, fs_45 hP⟩, fs_46 hP⟩, fs_47 hP⟩, fs_48 hP⟩, fs_49 hP⟩, fs_50 hP⟩, fs_51 hP⟩, fs_52 hP⟩, fs_53 hP⟩, fs_54 hP⟩, fs_55 hP⟩, fs_56 hP⟩, fs_57 hP⟩, fs_58 hP⟩, fs_59 hP⟩, fs_60 hP⟩, fs_61 hP⟩, fs_62 hP⟩, fs_63 hP⟩
  intro k q hq
  have hk := wsE_len hq
  rw [wsE_at (ad0 a [q1, q2, q3, q4, q5, q6] b) C (sg0 xs L) hk] at hq
  rw [← Option.some.inj hq]
  exact allp all k hk
set_option maxRecDepth 20000 in
theorem firstD {A : Nat → Prop} (hD : va_D A (lAll C a q1 q2 q3 q4 q5 q6)) : va_D A (wsE (ad0 a [q1, q2, q3, q4, q5, q6] b) C 64 (sg0 xs L)) := dCong (ws := lAll C a q1 q2 q3 q4 q5 q6) (ws' := wsE (ad0 a [q1, q2, q3, q4, q5, q6] b) C 64 (sg0 xs L)) rfl hD
end FS
