theorem fate3 (κ : Nat) (a b c d : Int32) : isN (fateBy κ a b c d) 3 := by
  unfold fateBy
  split
  · exact ⟨2, by decide, rfl⟩
  · split
    · exact ⟨1, by decide, rfl⟩
    · exact ⟨0, by decide, rfl⟩
theorem hand2 {w : Nat} {σ σ' : St} {P G : Nat} (h : WR w σ σ' P G) {g p : Nat} (hg : g < G) (hp : p < P) {mo : Int32} (hmo : mo = σ'.1 58 5) (hl : σ'.1 65 (8 * g + 6) = 0) :
    ∃ r τ τ', fX7_handOn w (w + 7 + g) (nI p) mo σ = some τ ∧ fX9_goOn (nI g) (nI p) σ' = some (r, τ') ∧ WR w τ τ' P G ∧ τ.1 (w + 7 + g) 6 = r ∧ (∀ h, σ'.1 65 (8 * g + 2) = nI h → τ'.1 65 (8 * g + 3) = nI h) := by
  obtain ⟨⟨hP, hG⟩, ⟨p0, p1⟩, ⟨g0, g1⟩, hy, hwh, hwk, hwf, hwl, hwd, hwg, v1, v2, v3, v4, v5, v6⟩ := id h
  have hw8 := worth2 h (show g < 8 by omega)
  obtain ⟨⟨κ, hκ, eκ⟩, ⟨hm, hhm, em⟩, ⟨hh, hhh, eh⟩, hfr, -⟩ := v4 g hg
  have x (k : Nat) (hk : k < 8) : σ.1 (w + 7 + g) k = σ'.1 65 (8 * g + k) := hwg g (by omega) k hk
  obtain ⟨τ, e1, t0, t5, t3, f0, f1, f2, f3, f4, f5, f6, f7⟩ := x_hand (w := w) (σ := σ) (g := g) (p := p) (mo := mo) (by omega) (by omega) (show hh < 8 by omega) hκ ((x 0 (by decide)).trans eκ) ((x 6 (by decide)).trans hl) ((x 2 (by decide)).trans eh)
  obtain ⟨τ', e2, u0, u63, u64, u18, u65, q0, q1, q2, q3, q4, q5, q6, q7⟩ := m_goOn (σ := σ') (g := g) (p := p) (by omega) (by omega) (show hh < 8 by omega) hκ eκ hl eh hw8
  have eF : fateBy κ (σ.1 (w + 7 + g) 4 + wearBy κ) mo (nI p) (σ.1 (w + 7 + g) 1) = fateBy κ (σ'.1 65 (8 * g + 4) + wearBy κ) (σ'.1 58 5) (nI p) (σ'.1 65 (8 * g + 1)) := by rw [x 4 (by decide), x 1 (by decide), hmo]
  refine ⟨_, τ, τ', e1, e2, ?_, f6.trans eF, fun h' e' => ?_⟩
  · unfold WR
    refine ⟨⟨hP, hG⟩, ⟨?_, ?_⟩, ⟨?_, ?_⟩, ?_, ?_, ?_, ?_, ?_, ?_, ?_, ?_, ?_, ?_, ?_, ?_, ?_⟩
    · rw [t0 w 0 (by omega) (by omega) (by omega)]; exact p0
    · rw [u0 58 12 (by decide) (by decide) (by decide) (by decide)]; exact p1
    · rw [t0 w 6 (by omega) (by omega) (by omega)]; exact g0
    · rw [u0 58 20 (by decide) (by decide) (by decide) (by decide)]; exact g1
    · rw [t0 w 8 (by omega) (by omega) (by omega), u0 58 19 (by decide) (by decide) (by decide) (by decide)]; exact hy
    · intro i hi
      rw [t0 (w + 1) i (by omega) (by omega) (by omega), u0 60 i (by decide) (by decide) (by decide) (by omega)]; exact hwh i hi
    · intro i hi
      rw [t0 (w + 2) i (by omega) (by omega) (by omega), u0 61 i (by decide) (by decide) (by decide) (by omega)]; exact hwk i hi
    · intro i hi
      rw [t3 i, u64 i, eF, hwf i hi]
    · intro i hi
      rw [t0 (w + 4) i (by omega) (by omega) (by omega), u0 62 i (by decide) (by decide) (by decide) (by omega)]; exact hwl i hi
    · intro i hi
      rw [t5 i, u63 i, hwd i hi]
    · intro g' hg' k hk
      dsimp only
      by_cases z : g' = g
      · subst z
        rcases (show k = 0 ∨ k = 1 ∨ k = 2 ∨ k = 3 ∨ k = 4 ∨ k = 5 ∨ k = 6 ∨ k = 7 by omega) with rfl | rfl | rfl | rfl | rfl | rfl | rfl | rfl
        · rw [f0]; exact q0.symm
        · rw [f1, q1]; exact x 1 hk
        · rw [f2, q2]
        · rw [f3, q3]
        · rw [f4, q4, x 4 hk]
        · rw [f5, q5]
        · rw [f6, q6, eF]
        · rw [f7, q7, x 7 hk]
      · rw [t0 (w + 7 + g') k (by omega) (by omega) (by omega), u65 _ (by omega)]
        exact hwg g' hg' k hk
    · intro i hi
      rw [u0 61 i (by decide) (by decide) (by decide) (by omega)]; exact v1 i hi
    · intro i hi
      rw [u0 60 i (by decide) (by decide) (by decide) (by omega)]; exact v2 i hi
    · intro i hi
      rw [u0 62 i (by decide) (by decide) (by decide) (by omega)]; exact v3 i hi
    · intro g' hg'
      by_cases z : g' = g
      · subst z
        exact ⟨⟨κ, hκ, q0⟩, ⟨hm, hhm, q1.trans em⟩, ⟨p, hp, q2⟩, Or.inr ⟨hh, hhh, q3⟩, by rw [q6]; exact fate3 _ _ _ _ _⟩
      · unfold GV
        rw [u65 _ (by omega), u65 _ (by omega), u65 _ (by omega), u65 _ (by omega), u65 _ (by omega)]
        exact v4 g' hg'
    · rw [u18]
      by_cases z : fateBy κ (σ'.1 65 (8 * g + 4) + wearBy κ) (σ'.1 58 5) (nI p) (σ'.1 65 (8 * g + 1)) = 1
      · rw [if_pos z, v5, sumI_cong (f := τ'.1 64) (g := fun b => if b = p then σ'.1 64 p + 1 else σ'.1 64 b) (fun i _ => by
          rw [u64 i]
          by_cases zz : i = p
          · subst zz; simp [z]
          · simp [zz]), sumI_upd hp]
      · rw [if_neg z, v5]
        exact sumI_cong (fun i _ => by rw [u64 i, if_neg (fun q => z q.2)])
    · intro i hi hi8
      rw [u64 i, if_neg (fun q => by omega)]
      exact v6 i hi hi8
  · rw [q3, ← e', eh]
theorem mbit : ∀ b, b < 256 → ∀ k, k < 8 → (((nI b >>> (nI k &&& 31)) &&& (1 : Int32) = 1) ↔ b.testBit k = true) := by decide +kernel
theorem tb_lt {P b k : Nat} (h : b < 2 ^ P) (ht : b.testBit k = true) : k < P := by
  rcases Nat.lt_or_ge k P with q | q
  · exact q
  · rw [Nat.testBit_lt_two_pow (Nat.lt_of_lt_of_le h (Nat.pow_le_pow_right (by decide) q))] at ht
    cases ht
/-- the relation, when only a WORLD changed -/
theorem RR.world {σ σ' τ τ' : St} {P G : Nat} {kx km : List Nat} (h : RR σ σ' P G) (hw : WR 4 τ τ' P G) (hx : Fr kx σ τ) (hm : Fr km σ' τ') (cx : ∀ a, (a < 4 ∨ a = 5 ∨ (19 ≤ a ∧ a < 34) ∨ a = 56 ∨ a = 57) → a ∉ kx) (hyy : τ.1 4 8 = τ'.1 58 19) (cm : ∀ a, (a = 59 ∨ (76 ≤ a ∧ a ≤ 81) ∨ (101 ≤ a ∧ a ≤ 106) ∨ a = 133 ∨ a = 134 ∨ (136 ≤ a ∧ a ≤ 139)) → a ∉ km) : RR τ τ' P G := by
  have ex : ∀ a, (a < 4 ∨ a = 5 ∨ (19 ≤ a ∧ a < 34) ∨ a = 56 ∨ a = 57) → τ.1 a = σ.1 a := fun a ha => funext fun b => hx a b (by rw [key_ne (by omega)]; exact cx a ha)
  have em : ∀ a, (a = 59 ∨ (76 ≤ a ∧ a ≤ 81)) → τ'.1 a = σ'.1 a := fun a ha => funext fun b => hm a b (by rw [key_ne (by omega)]; exact cm a (by omega))
  have es : ∀ k, (1 ≤ k ∧ k ≤ 6) ∨ k = 33 ∨ k = 34 ∨ (36 ≤ k ∧ k ≤ 39) → τ'.1 58 k = σ'.1 58 k := fun k hk => hm 58 k (by rw [key_58]; exact cm _ (by omega))
  obtain ⟨h1, h2, h3, h4, h5, h6, h7⟩ := h
  refine ⟨h1.cong (ex 3 (by omega)) (fun k _ _ => es k (by omega)), h2.cong (by rw [ex 1 (by omega)]) (ex 2 (by omega)) (es 1 (by omega)) (em 59 (by omega)), hw, fun i a b => ?_, h5.cong (by rw [ex 0 (by omega)]) (fun a _ _ => ex a (by omega)) (ex 5 (by omega)) (fun k _ _ => es k (by omega)) (fun a _ _ => em a (by omega)), h6.cong (fun a _ _ => ex a (by omega)) (es _ (by omega)) (es _ (by omega)) (em 76 (by omega)), ?_⟩
  · rw [ex 5 (by omega)]; exact h4 i a b
  · exact ⟨by rw [ex 0 (by omega), es 6 (by omega)]; exact h7.1, hyy⟩
/-- give -/
theorem s_give (p q : Int32) {σ σ' : St} (h : Rel σ σ') : ∃ r τ τ', fX8_give p q σ = some (r, τ) ∧ fX9_give p q σ' = some (r, τ') ∧ Rel τ τ' := by
  obtain ⟨P, G, hR⟩ := h
  obtain ⟨h1, h2, h3, h4, h5, h6, h7⟩ := id hR
  obtain ⟨⟨hP, hG⟩, ⟨p0, p1⟩, ⟨g0, g1⟩, -⟩ := id h3
  unfold fX8_give fX9_give
  rcases isG2 g0 g1 hG p with ⟨k, hk, rfl, a, b⟩ | ⟨-, a, b⟩
  · rcases isP2 p0 p1 hP q with ⟨j, hj, rfl, c, d⟩ | ⟨-, c, d⟩
    · simp only [a, b, c, d, n10, if_false]
      obtain ⟨m, hm, e1, e2⟩ := who2 h1 h3 hk
      rw [grd_t (inbN (show k < 8 by omega) (by decide)), tcl (by omega), xlives h3 (show k < 8 by omega), mlives (by omega), e1, e2]
      simp only [Option.bind_some]
      by_cases z : σ'.1 65 (8 * k + 6) = 0
      · simp only [z, if_true, n10, if_false]
        by_cases t : m.testBit j = true
        · rw [if_neg (fun q => by rw [(bt_and m (p2_256 hP hm) j (by omega)).mp q] at t; cases t), if_pos ((mbit m (p2_256 hP hm) j (by omega)).mpr t), grd_t (inbN (show k < 8 by omega) (by decide))]
          obtain ⟨r, τ, τ', f1, f2, f3, f4, -⟩ := hand2 h3 hk hj (mo := σ.1 3 3) h1.2.2.2.1 z
          rw [show (4 + 7 + k : Nat) = 4 + 7 + k from rfl] at f1
          rw [f1, f2]
          simp only [Option.bind_some]
          rw [grd_t (inbN (show k < 8 by omega) (by decide))]
          refine ⟨r, τ, τ', by rw [f4], rfl, P, G, ?_⟩
          exact hR.world f3 (frX7_handOn 4 _ _ _ σ isW_4 (obGn isW_4 (by omega)) τ f1) (frX9_goOn _ _ σ' (r, τ') f2) (fun a ha => by simp; omega) (by rw [show τ.1 4 8 = σ.1 4 8 from frX7_handOn 4 _ _ _ σ isW_4 (obGn isW_4 (by omega)) τ f1 4 8 (by rw [key_ne (by decide)]; simp; omega), show τ'.1 58 19 = σ'.1 58 19 from frX9_goOn _ _ σ' (r, τ') f2 58 19 (by rw [key_58]; simp)]; exact h7.2) (fun a ha => by simp; omega)
        · rw [if_pos ((bt_and m (p2_256 hP hm) j (by omega)).mpr (by simpa using t)), if_neg (fun q => t ((mbit m (p2_256 hP hm) j (by omega)).mp q))]
          exact ⟨_, _, _, rfl, rfl, P, G, hR⟩
      · simp only [z, if_false, if_true]
        exact ⟨_, _, _, rfl, rfl, P, G, hR⟩
    · simp only [a, b, c, d, n10, if_false, if_true]
      exact ⟨_, _, _, rfl, rfl, P, G, hR⟩
  · simp only [a, b, if_true]
    exact ⟨_, _, _, rfl, rfl, P, G, hR⟩
