set_option maxHeartbeats 4000000 in
/-- THE LAW, as a function over the state, answers true on every script -/
theorem lawTrue (xs : Nat → Int32) {L : Nat} (hL : L ≤ 260) : fL_law (sg0 xs L) = some 1 := by
  have hScr : Scr (sg0 xs L) := ⟨L, hL, rfl⟩
  have z0 : ∀ a b, a ≠ 3 → a < 68 → (sg0 xs L).1 a b = 0 := fun a b h1 h2 => by
    show (if a = 3 then (fun k => if k = 0 then (1 : Int32) else if k = 3 then 3 else 0) else if a = 68 then xs else if a = 69 then (fun k => if k = 0 then Int32.ofNat L else 0) else fun _ => 0) b = 0
    rw [if_neg h1, if_neg (by omega), if_neg (by omega)]
  obtain ⟨q, eq⟩ := cell_c hScr (k := 0) (by decide)
  obtain ⟨a, k, b, o, w, m, σ1, ha, hk, hb, ho, hw, hm, e1, p1, l0, l1, l2, l3, f1⟩ := lawTextT q (sg0 xs L)
  obtain ⟨σ2, σ3, w1, w2, w3, r0, r1, r2, r3, f3⟩ := lawRead ha hk hb ho hw hm p1 (by rw [f1 1 1 (by omega) (by omega)]; exact z0 1 1 (by omega) (by omega)) (by rw [f1 0 9 (by omega) (by omega)]; exact z0 0 9 (by omega) (by omega))
  have f : ∀ c d, 4 ≤ c → c ≠ 58 → c ≠ 59 → σ3.1 c d = (sg0 xs L).1 c d := fun c d h1 h2 h3 => by rw [f3 c d h1, f1 c d h2 h3]
  have bit : ∀ t, t < 2 → (nI t = 0 ∨ nI t = 1) := fun t ht => by
    rcases (show t = 0 ∨ t = 1 by omega) with rfl | rfl
    · exact Or.inl rfl
    · exact Or.inr rfl
  have hLL : LL σ3 σ3 := ⟨⟨by rw [r0, f3 58 0 (by omega), l0], by rw [r1, f3 58 1 (by omega), l1], by rw [r2, f3 58 2 (by omega), l2], by rw [r3, f3 58 3 (by omega), l3]⟩, by rw [r1]; exact bit b hb, by rw [r2]; exact bit o ho⟩
  have hR : Rs σ3 := ⟨hLL, by rw [f 4 8 (by omega) (by omega) (by omega), f 60 26 (by omega) (by omega) (by omega), z0 4 8 (by omega) (by omega), z0 60 26 (by omega) (by omega)], L, hL, f 69 0 (by omega) (by omega) (by omega)⟩
  have hF : Fresh σ3 := fun c d hc => by rw [f c d (by omega) (by omega) (by omega)]; exact z0 c d (by omega) (by omega)
  obtain ⟨P, σ4, h2, s1, hW4, hR4, hZ4⟩ := peopleT hF hR
  obtain ⟨G, σ5, hG1, g1, hW5, hR5⟩ := giftsT h2 hW4 hR4 hZ4
  have hT5 : Tp 1 P G σ5 := ⟨hW5, hR5, h2, hG1⟩
  have hT5' : Tp 1 P G (zerL σ5 64) := hT5
  obtain ⟨σ6, B6, t1, hT6⟩ := turnsL 14 0 fu 1 (zerL σ5 64) (by omega) (fu_gt (by omega)) hT5' (by decide)
  unfold fL_law
  rw [show fL_cell (0 : Int32) (sg0 xs L) = some q from eq]
  simp only [obs]
  rw [e1]
  simp only [obs]
  rw [w1]
  simp only [obs, n10, if_false]
  rw [w2]
  simp only [obs, if_true]
  rw [w3]
  simp only [obs, if_true]
  rw [show fL_law_L85 σ3 fu (0 : Int32) = some (.inr ()) from toldLawL hLL 4 0 fu (by omega) (fu_gt (by omega))]
  simp only [obs, Sum.elim_inr]
  rw [s1]
  simp only [obs, n10, if_false]
  rw [g1]
  simp only [obs, n10, if_false]
  rw [stands1 hT5 (by decide)]
  simp only [obs, n10, if_false]
  rw [show fL_law_L161 σ5 fu (0 : Int32) = some (.inr ()) from assL hW5 G 0 fu (by omega) (fu_gt (by have := hW5.1.2; omega))]
  simp only [obs, Sum.elim_inr, bnd_eq]
  rw [show fL_law_L255 fu (0 : Int32) (zerL σ5 64) = some (.inr σ6) from t1]
  simp only [obs, Sum.elim_inr]
  exact endT hT6
