theorem WR.copied {w w1 : Nat} {σ τ σ' : St} {P G : Nat} (h : WR w1 σ σ' P G) (c : Cop w w1 σ τ) : WR w τ σ' P G := by
  obtain ⟨⟨hP, hG⟩, ⟨p0, p1⟩, ⟨g0, g1⟩, hy, hwh, hwk, hwf, hwl, hwd, hwg, hv⟩ := id h
  obtain ⟨co, ⟨c0, c6, c8⟩, c1, c4, c7⟩ := c
  refine ⟨⟨hP, hG⟩, ⟨c0.trans p0, p1⟩, ⟨c6.trans g0, g1⟩, Or.inr trivial, fun i hi => ?_, fun i hi => ?_, fun i hi => ?_, fun i hi => ?_, fun i hi => ?_, fun g hg k hk => ?_, hv⟩
  · rw [c1 1 i (by omega) (by omega) hi]; exact hwh i hi
  · rw [c1 2 i (by omega) (by omega) hi]; exact hwk i hi
  · rw [c1 3 i (by omega) (by omega) hi]; exact hwf i hi
  · rw [c4 4 i (by omega) (by omega) hi]; exact hwl i hi
  · rw [c4 5 i (by omega) (by omega) hi]; exact hwd i hi
  · show τ.1 (w + 7 + g) k = σ'.1 65 (8 * g + k)
    rw [show w + 7 + g = w + (7 + g) by omega, c7 (7 + g) k (by omega) (by omega) hk, show w1 + (7 + g) = w1 + 7 + g by omega]
    exact hwg g hg k hk
theorem WR.congM {w : Nat} {σ σ' τ' : St} {P G : Nat} (h : WR w σ σ' P G) (h12 : τ'.1 58 12 = σ'.1 58 12) (h20 : τ'.1 58 20 = σ'.1 58 20) (h18 : τ'.1 58 18 = σ'.1 58 18) (e0 : Cells (τ'.1 60) (σ'.1 60) 8) (e1 : Cells (τ'.1 61) (σ'.1 61) 8) (e2 : Cells (τ'.1 62) (σ'.1 62) 64) (e3 : Cells (τ'.1 63) (σ'.1 63) 64) (e4 : Cells (τ'.1 64) (σ'.1 64) 8) (e5 : Cells (τ'.1 65) (σ'.1 65) 64) : WR w σ τ' P G := by
  obtain ⟨⟨hP, hG⟩, ⟨p0, p1⟩, ⟨g0, g1⟩, hy, hwh, hwk, hwf, hwl, hwd, hwg, hv⟩ := id h
  refine ⟨⟨hP, hG⟩, ⟨p0, h12.trans p1⟩, ⟨g0, h20.trans g1⟩, Or.inr trivial, fun i hi => ?_, fun i hi => ?_, fun i hi => ?_, fun i hi => ?_, fun i hi => ?_, fun g hg k hk => ?_, hv.cong hP hG h18 e0 e1 e4 e2 e5⟩
  · rw [e0 i hi]; exact hwh i hi
  · rw [e1 i hi]; exact hwk i hi
  · rw [e4 i hi]; exact hwf i hi
  · rw [e2 i hi]; exact hwl i hi
  · rw [e3 i hi]; exact hwd i hi
  · rw [e5 (8 * g + k) (by omega)]; exact hwg g hg k hk
theorem obs {α β : Type} (a : α) (f : α → Option β) : Option.bind (some a) f = f a := Eq.trans rfl rfl
theorem bnd_eq {α β : Type} (a : α) (f : α → β) : bnd a f = f a := Eq.trans rfl rfl
/-- drawn -/
theorem s_drawn (p q z : Int32) {σ σ' : St} (h : Rel σ σ') : ∃ r τ τ', fX8_drawn p q z σ = some (r, τ) ∧ fX9_drawn p q z σ' = some (r, τ') ∧ Rel τ τ' := by
  obtain ⟨P, G, hR⟩ := h
  obtain ⟨h1, h2, h3, h4, h5, h6, h7, h8⟩ := id hR
  have same : ∃ r τ τ', some ((-102 : Int32), σ) = some (r, τ) ∧ some ((-102 : Int32), σ') = some (r, τ') ∧ Rel τ τ' := ⟨_, _, _, rfl, rfl, P, G, hR⟩
  have w1 : fX9_in p.toInt64 (1 : Int64) (30 : Int64) = fX8_within p 1 30 := by
    rw [show (1 : Int64) = (1 : Int32).toInt64 from rfl, show (30 : Int64) = (30 : Int32).toInt64 from rfl, wi2]
  have w2 : fX9_in z.toInt64 (0 : Int64) (3 : Int64) = fX8_within z 0 3 := by
    rw [show (0 : Int64) = (0 : Int32).toInt64 from rfl, show (3 : Int64) = (3 : Int32).toInt64 from rfl, wi2]
  by_cases c1 : fX8_within p 1 30 = 0
  · unfold fX8_drawn fX9_drawn
    rw [w1, if_pos c1, if_pos c1]; exact same
  by_cases c2 : q < 0
  · unfold fX8_drawn fX9_drawn
    rw [w1, if_neg c1, if_neg c1, if_pos c2, if_pos c2]; exact same
  by_cases c3 : fX8_within z 0 3 = 0
  · unfold fX8_drawn fX9_drawn
    rw [w1, w2, if_neg c1, if_neg c1, if_neg c2, if_neg c2, if_pos c3, if_pos c3]; exact same
  obtain ⟨s, hs, rfl⟩ := nI_of c2
  rcases within_c p (a := 1) (b := 30) (by decide) (by decide) with ⟨Y, hY1, hY, rfl, -⟩ | ⟨-, e⟩
  · obtain ⟨τ0, x1, hc⟩ := copyW (w := 34) (w1 := 4) (by omega) σ
    obtain ⟨m1, y1, f1⟩ := copyM (a0 := 65) (n0 := 64) (a1 := 73) (n1 := 64) (N := 64) (by omega) (by omega) (by omega) (by omega) (by omega) σ'
    obtain ⟨m2, y2, f2⟩ := copyM (a0 := 63) (n0 := 64) (a1 := 74) (n1 := 64) (N := 64) (by omega) (by omega) (by omega) (by omega) (by omega) m1
    obtain ⟨m3, y3, f3⟩ := copyM (a0 := 64) (n0 := 8) (a1 := 75) (n1 := 8) (N := 8) (by omega) (by omega) (by omega) (by omega) (by omega) m2
    have o3 : ∀ a b, ¬ (73 ≤ a ∧ a ≤ 75) → m3.1 a b = σ'.1 a b := fun a b h => by
      rw [f3, if_neg (by omega), f2, if_neg (by omega), f1, if_neg (by omega)]
    have k73 : ∀ b, b < 64 → m3.1 73 b = σ'.1 65 b := fun b hb => by
      rw [f3, if_neg (by omega), f2, if_neg (by omega), f1, if_pos ⟨rfl, hb⟩]
    have k74 : ∀ b, b < 64 → m3.1 74 b = σ'.1 63 b := fun b hb => by
      rw [f3, if_neg (by omega), f2, if_pos ⟨rfl, hb⟩, f1, if_neg (by omega)]
    have k75 : ∀ b, b < 8 → m3.1 75 b = σ'.1 64 b := fun b hb => by
      rw [f3, if_pos ⟨rfl, hb⟩, f2, if_neg (by omega), f1, if_neg (by omega)]
    have em : ∀ a, ¬ (73 ≤ a ∧ a ≤ 75) → a ≠ 58 → (setI m3 58 22 (nI s)).1 a = σ'.1 a := fun a ha hb => funext fun b => by rw [setI_oo (by omega), o3 a b ha]
    have es : ∀ k, k ≠ 22 → (setI m3 58 22 (nI s)).1 58 k = σ'.1 58 k := fun k hk => by rw [setI_oo (by omega), o3 58 k (by omega)]
    have hW : WR 34 (setL τ0 49 0 (vN s)) (setI m3 58 22 (nI s)) P G := (h3.copied hc).cong (fun a _ _ => rfl) (es 12 (by omega)) (es 20 (by omega)) (es 19 (by omega)) (es 18 (by omega)) (fun a _ _ => em a (by omega) (by omega))
    have hL : LR (setL τ0 49 0 (vN s)) (setI m3 58 22 (nI s)) := h1.cong (funext fun b => hc.1 3 b (by omega)) (fun k _ _ => es k (by omega))
    obtain ⟨r, τ, τ', g1, g2, g3, g4, ⟨t, ht, t0, t1⟩, g5⟩ := drawnL hY z z (m3.1 58 18) Y 0 fu fu (nI 0) (setL τ0 49 0 (vN s)) (setI m3 58 22 (nI s)) (by omega) hW hL ⟨s, hs, setL_s, setI_s⟩ (fu_gt (by omega)) (fu_gt (by omega))
    obtain ⟨lv, l1, l2⟩ := live2 g3
    have fe := feasts2 g3
    obtain ⟨n1, z1, j1⟩ := copyM (a0 := 73) (n0 := 64) (a1 := 65) (n1 := 64) (N := 64) (by omega) (by omega) (by omega) (by omega) (by omega) τ'
    obtain ⟨n2, z2, j2⟩ := copyM (a0 := 74) (n0 := 64) (a1 := 63) (n1 := 64) (N := 64) (by omega) (by omega) (by omega) (by omega) (by omega) n1
    obtain ⟨n3, z3, j3⟩ := copyM (a0 := 75) (n0 := 8) (a1 := 64) (n1 := 8) (N := 8) (by omega) (by omega) (by omega) (by omega) (by omega) n2
    have fx := frX8_drawn_L55 (nI Y) z (r, τ) fu (nI 0) (nI 0) _ g1
    have fm := frX9_drawn_L87 (nI Y) z (m3.1 58 18) (r, τ') fu (nI 0) (nI 0) _ g2
    have ex : ∀ a b, a < 34 ∨ a = 56 ∨ a = 57 → τ.1 a b = σ.1 a b := fun a b ha => by
      rw [fx a b (by rw [key_ne (by omega)]; simp [gk]; omega)]
      exact hc.1 a b (by omega)
    have on : ∀ a b, ¬ (63 ≤ a ∧ a ≤ 65) → n3.1 a b = τ'.1 a b := fun a b h => by
      rw [j3, if_neg (by omega), j2, if_neg (by omega), j1, if_neg (by omega)]
    have ot : ∀ a b, a ≠ 58 ∧ a < 100 → ¬ (63 ≤ a ∧ a ≤ 66) → τ'.1 a b = m3.1 a b := fun a b h0 h => by
      rw [fm a b (by rw [key_ne h0.1]; simp; omega), setI_oo (by omega)]
    have os : ∀ k, ¬ (k = 18 ∨ k = 19 ∨ k = 22) → τ'.1 58 k = σ'.1 58 k := fun k h => by
      rw [fm 58 k (by rw [key_58]; simp; omega), es k (by omega)]
    refine ⟨if z = 0 then r else if z = 1 then lv else if z = 2 then τ'.1 58 18 - m3.1 58 18 else nI t, τ, setI (setI n3 58 18 (m3.1 58 18)) 58 19 ((setI n3 58 18 (m3.1 58 18)).1 58 19 - nI Y), ?_, ?_, P, G, ?_⟩
    · unfold fX8_drawn
      rw [if_neg c1, if_neg c2, if_neg c3, x1]
      simp only [Option.bind_some, bnd_eq]
      rw [vN_of hs, show (0 : Int32) = nI 0 from rfl, g1]
      simp only [Option.bind_some, show nI 0 = (0 : Int32) from rfl]
      have h34 : WR 4 τ σ' P G := h3.cong (fun a _ _ => funext fun b => ex a b (by omega)) rfl rfl rfl rfl (fun a _ _ => rfl)
      rw [l1, fe, feasts2 h34, o3 58 18 (by omega), t0, vN_32 ht]
      simp only [Option.bind_some]
      by_cases d0 : z = 0
      · rw [if_pos d0, if_pos d0]
      · rw [if_neg d0, if_neg d0]
        by_cases d1 : z = 1
        · rw [if_pos d1, if_pos d1]
        · rw [if_neg d1, if_neg d1]
          by_cases d2 : z = 2
          · rw [if_pos d2, if_pos d2]
          · rw [if_neg d2, if_neg d2]
    · unfold fX9_drawn
      rw [w1, w2, if_neg c1, if_neg c2, if_neg c3, show (64 : Int32) = nI 64 from rfl, show (8 : Int32) = nI 8 from rfl, y1]
      simp only [obs]
      rw [y2]
      simp only [obs]
      rw [y3]
      simp only [obs, bnd_eq]
      rw [show (0 : Int32) = nI 0 from rfl, g2]
      simp only [obs, show nI 0 = (0 : Int32) from rfl]
      rw [l2]
      simp only [obs]
      rw [z1]
      simp only [obs]
      rw [z2]
      simp only [obs]
      rw [z3]
      simp only [obs]
      rw [show (setI (setI n3 58 18 (m3.1 58 18)) 58 19 ((setI n3 58 18 (m3.1 58 18)).1 58 19 - nI Y)).1 58 22 = nI t from by rw [setI_oo (by omega), setI_oo (by omega), on 58 22 (by omega), t1]]
      by_cases d0 : z = 0
      · rw [if_pos d0, if_pos d0]
      · rw [if_neg d0, if_neg d0]
        by_cases d1 : z = 1
        · rw [if_pos d1, if_pos d1]
        · rw [if_neg d1, if_neg d1]
          by_cases d2 : z = 2
          · rw [if_pos d2, if_pos d2]
          · rw [if_neg d2, if_neg d2]
    · generalize hf : setI (setI n3 58 18 (m3.1 58 18)) 58 19 ((setI n3 58 18 (m3.1 58 18)).1 58 19 - nI Y) = ψ
      have e18 : ψ.1 58 18 = σ'.1 58 18 := by rw [← hf, setI_oo (by omega), setI_s, o3 58 18 (by omega)]
      have e19 : ψ.1 58 19 = σ'.1 58 19 := by
        rw [← hf, setI_s, setI_oo (by omega), on 58 19 (by omega)]
        rw [es 19 (by omega), show nI 0 = (0 : Int32) from rfl, Int32.add_zero] at g5
        rw [g5, Int32.add_sub_cancel]
      have pk : ∀ k, ¬ (k = 18 ∨ k = 19 ∨ k = 22) → ψ.1 58 k = σ'.1 58 k := fun k hk => by
        rw [← hf, setI_oo (by omega), setI_oo (by omega), on 58 k (by omega), os k hk]
      have pa : ∀ a, a ≠ 58 ∧ a < 100 → ¬ (63 ≤ a ∧ a ≤ 66) → ¬ (73 ≤ a ∧ a ≤ 75) → ψ.1 a = σ'.1 a := fun a h0 h1 h2 => funext fun b => by
        rw [← hf, setI_oo (by omega), setI_oo (by omega), on a b (by omega), ot a b h0 h1, o3 a b h2]
      have p65 : Cells (ψ.1 65) (σ'.1 65) 64 := fun b hb => by
        rw [← hf, setI_oo (by omega), setI_oo (by omega), j3, if_neg (by omega), j2, if_neg (by omega), j1, if_pos ⟨rfl, hb⟩, ot 73 b (by omega) (by omega), k73 b hb]
      have p63 : Cells (ψ.1 63) (σ'.1 63) 64 := fun b hb => by
        rw [← hf, setI_oo (by omega), setI_oo (by omega), j3, if_neg (by omega), j2, if_pos ⟨rfl, hb⟩, j1, if_neg (by omega), ot 74 b (by omega) (by omega), k74 b hb]
      have p64 : Cells (ψ.1 64) (σ'.1 64) 8 := fun b hb => by
        rw [← hf, setI_oo (by omega), setI_oo (by omega), j3, if_pos ⟨rfl, hb⟩, j2, if_neg (by omega), j1, if_neg (by omega), ot 75 b (by omega) (by omega), k75 b hb]
      have xa : ∀ a, a < 34 ∨ a = 56 ∨ a = 57 → τ.1 a = σ.1 a := fun a ha => funext fun b => ex a b ha
      refine ⟨h1.cong (xa 3 (by omega)) (fun k _ _ => pk k (by omega)), h2.cong (ex 1 1 (by omega)) (xa 2 (by omega)) (pk 1 (by omega)) (pa 59 (by omega) (by omega) (by omega)), ?_, fun i a b => ?_, h5.cong (ex 0 10 (by omega)) (fun a _ _ => xa a (by omega)) (xa 5 (by omega)) (fun k _ _ => pk k (by omega)) (fun a _ _ => pa a (by omega) (by omega) (by omega)), h6.cong (fun a _ _ => xa a (by omega)) (pk _ (by omega)) (pk _ (by omega)) (pa 76 (by omega) (by omega) (by omega)), ?_⟩
      · refine (h3.cong (τ := τ) (τ' := σ') (fun a _ _ => xa a (by omega)) rfl rfl rfl rfl (fun a _ _ => rfl)).congM (pk 12 (by omega)) (pk 20 (by omega)) e18 (fun i _ => by rw [pa 60 (by omega) (by omega) (by omega)]) (fun i _ => by rw [pa 61 (by omega) (by omega) (by omega)]) (fun i _ => by rw [pa 62 (by omega) (by omega) (by omega)]) p63 p64 p65
      · rw [ex 5 i (by omega)]; exact h4 i a b
      · rw [ex 0 9 (by omega), pk 6 (by omega), ex 4 8 (by omega), e19]; exact ⟨h7, h8⟩
  · exact absurd e c1
