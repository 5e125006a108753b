theorem stands1 {B P G : Nat} {σ : St} (h : Tp B P G σ) (hB : B ≤ 2 ^ 29) : fL_stands 60 27 63 64 62 64 σ = some 1 := standsL h.1 hB h.2.1.2.1
set_option maxHeartbeats 4000000 in
/-- the fourteen turns -/
theorem turnsL {P G : Nat} : ∀ (d i n B : Nat) (σ : St), i + d = 14 → d < n → Tp B P G σ → B + 500 * d ≤ 2 ^ 28 → ∃ τ B', fL_law_L255 n (nI i) σ = some (.inr τ) ∧ Tp B' P G τ := by
  intro d
  induction d with
  | zero =>
    intro i n B σ hi hn hT hB
    obtain ⟨n, rfl, -⟩ := su hn
    have e : i = 14 := by omega
    subst e
    rw [fL_law_L255, if_pos (show (14 : Int32) ≤ nI 14 by decide)]
    exact ⟨σ, B, rfl, hT⟩
  | succ d ih =>
    intro i n B σ hi hn hT hB
    obtain ⟨n, rfl, hn⟩ := su hn
    obtain ⟨hW, hR, h2, hG1⟩ := id hT
    obtain ⟨⟨hP, hG⟩, ⟨p0, p1⟩, ⟨g0, g1⟩, -⟩ := id hW
    obtain ⟨x, ex⟩ := cell_c hR.2.2 (k := 14 + i) (by omega)
    obtain ⟨k, hk, ek⟩ := at_c (x >>> ((2 : Int32) &&& 31)) (n := G) (by omega) (by omega)
    obtain ⟨b, hb, w1, w2, w3⟩ := mayT hT hk
    obtain ⟨s, hs, es⟩ := at_c x (n := 4) (by decide) (by decide)
    have go : ∀ τ B', Tp B' P G τ → B' + 500 * d ≤ 2 ^ 28 → ∃ τ' B'', fL_law_L255 n (nI (i + 1)) τ = some (.inr τ') ∧ Tp B'' P G τ' := fun τ B' h1 h2 => ih (i + 1) n B' τ (by omega) (by omega) h1 h2
    rw [fL_law_L255, if_neg (show ¬ (14 : Int32) ≤ nI i from nI_ge (a := i) (b := 14) (by omega) (by decide)), n14p, ex]
    simp only [obs]
    rw [grd_t (show inb (25 : Int32) 27 = true from by decide), show (25 : Int32).toNatClampNeg = 25 from rfl, g1, ek]
    simp only [obs]
    rw [ix8_2, ix8_3, ix8_7, ix80, grd_t (inbN (show 8 * k + 2 < 64 by omega) (by decide)), grd_t (inbN (show 8 * k + 3 < 64 by omega) (by decide)), tcl (show 8 * k + 2 < 2 ^ 31 by omega), tcl (show 8 * k + 3 < 2 ^ 31 by omega), w2]
    simp only [obs]
    rw [w3]
    simp only [obs]
    rw [grd_t (inbN (show 8 * k + 7 < 64 by omega) (by decide)), tcl (show 8 * k + 7 < 2 ^ 31 by omega)]
    simp only [bnd_eq, if_true]
    rw [show fL_at x (4 : Int32) = some (nI s) from es]
    simp only [obs]
    by_cases s2 : 2 ≤ s
    · rw [if_pos (show (2 : Int32) ≤ nI s from nI_le (a := 2) (b := s) s2 (by omega))]
      by_cases s3 : s = 2
      · subst s3
        rw [if_pos (show nI 2 = (2 : Int32) from rfl)]
        obtain ⟨a, ha, ea⟩ := at_c (x >>> ((20 : Int32) &&& 31)) (n := 4) (by decide) (by decide)
        rw [show fL_at (x >>> ((20 : Int32) &&& 31)) (4 : Int32) = some (nI a) from ea]
        simp only [obs, bnd_eq]
        obtain ⟨m, hm1, hm, em⟩ : ∃ m, 1 ≤ m ∧ m ≤ 30 ∧ (if nI a = 0 then (30 : Int32) else (3 : Int32)) = nI m := by
          by_cases z : nI a = 0
          · rw [if_pos z]; exact ⟨30, by decide, by decide, rfl⟩
          · rw [if_neg z]; exact ⟨3, by decide, by decide, rfl⟩
        rw [em]
        obtain ⟨j, hj, ej⟩ := at_c (x >>> ((5 : Int32) &&& 31)) (n := m) (by omega) (by omega)
        rw [ej]
        simp only [obs]
        rw [n1p, grd_t (show inb (0 : Int32) 1 = true from by decide), show (0 : Int32).toNatClampNeg = 0 from rfl, show (26 : Int32).toNatClampNeg = 26 from rfl]
        obtain ⟨r, σ1, τ, y1, y2, y3⟩ := yearsT hT (Y := 1 + j) (by omega) (by omega) (by omega) (nI i)
        rw [y1]
        simp only [obs]
        rw [grd_t (show inb (26 : Int32) 27 = true from by decide), grd_t (show inb (26 : Int32) 27 = true from by decide), y2]
        simp only [obs, if_true]
        rw [stands1 y3 (by omega)]
        simp only [obs, n10, if_false, nI_1]
        exact go τ _ y3 (by omega)
      · have s4 : s = 3 := by omega
        subst s4
        rw [if_neg (show ¬ nI 3 = (2 : Int32) by decide)]
        obtain ⟨a, ha, ea⟩ := at_c (x >>> ((20 : Int32) &&& 31)) (n := 3) (by decide) (by decide)
        rw [show fL_at (x >>> ((20 : Int32) &&& 31)) (3 : Int32) = some (nI a) from ea]
        simp only [obs, bnd_eq]
        obtain ⟨m, hm1, hm, em⟩ : ∃ m, 1 ≤ m ∧ m ≤ 30 ∧ (if nI a = 0 then (30 : Int32) else (4 : Int32)) = nI m := by
          by_cases z : nI a = 0
          · rw [if_pos z]; exact ⟨30, by decide, by decide, rfl⟩
          · rw [if_neg z]; exact ⟨4, by decide, by decide, rfl⟩
        rw [em]
        obtain ⟨j, hj, ej⟩ := at_c (x >>> ((5 : Int32) &&& 31)) (n := m) (by omega) (by omega)
        rw [ej]
        simp only [obs]
        rw [n1p]
        obtain ⟨q93, q98, sd, g, σf, l, f, S0, S1, S2, S3, sf, d1, d2, d3, d4, d5, d6, d7, d8, d9, da, db, dc, dd, de⟩ := drawnT hT (Y := 1 + j) (by omega) (by omega) (by omega) (nI i) x
        rw [d1]
        simp only [obs]
        rw [d2]
        simp only [obs]
        rw [grd_t (show inb (0 : Int32) 1 = true from by decide), show (0 : Int32).toNatClampNeg = 0 from rfl, d3, grd_t (show inb (0 : Int32) 1 = true from by decide), setL_s, vN_32 d4, d5]
        simp only [obs]
        rw [d6]
        simp only [obs]
        rw [d7]
        simp only [obs]
        rw [d8]
        simp only [obs, if_true]
        rw [d9]
        simp only [obs, if_true]
        rw [da]
        simp only [obs, if_true]
        rw [db]
        simp only [obs]
        rw [grd_t (show inb (0 : Int32) 1 = true from by decide), dc, vN_of dd, if_pos (lcmp_eq.mpr rfl), stands1 de (by omega)]
        simp only [obs, n10, if_false, nI_1]
        exact go S3 _ de (by omega)
    · rw [if_neg (show ¬ (2 : Int32) ≤ nI s from nI_ge (a := s) (b := 2) (by omega) (by decide))]
      obtain ⟨p, hp, ep⟩ := at_c (x >>> ((5 : Int32) &&& 31)) (n := P) (by omega) (by omega)
      rw [grd_t (show inb (0 : Int32) 27 = true from by decide), show (0 : Int32).toNatClampNeg = 0 from rfl, p1, ep]
      simp only [obs]
      obtain ⟨p', hp', ep'⟩ := offerL h2 hP p1 (nI i) x (nI k) (nI (8 * k)) (nI b) 8 0 fu p (by omega) (fu_gt (by omega)) hp
      rw [show fL_law_L375 (nI i) x (nI k) (nI (8 * k)) (nI b) σ fu (nI p) (0 : Int32) = some (nI p') from ep']
      simp only [obs]
      obtain ⟨r, τ1, τ, v1, v2, v3⟩ := giveT hT (by omega) hk hp' hb w1
      rw [grd_t (inbN (show 8 * k + 7 < 64 by omega) (by decide)), v1]
      simp only [obs]
      have hb8 := p2_256 hP hb
      rcases v3 with ⟨z, t, v4⟩ | ⟨z, rfl, rfl⟩
      · rw [if_pos z, if_pos ((mbit b hb8 p' (by omega)).mpr t), if_neg (show ¬ (1 : Int32) = 0 by decide), v4]
        simp only [obs, if_true]
        rw [stands1 v2 (by omega)]
        simp only [obs, n10, if_false, nI_1]
        exact go τ _ v2 (by omega)
      · have ez : (if σ.1 63 (8 * k + 7) = 0 then (if ((nI b >>> (nI p' &&& 31)) &&& (1 : Int32)) = (1 : Int32) then (1 : Int32) else (0 : Int32)) else (0 : Int32)) = 0 := by
          by_cases y : σ.1 63 (8 * k + 7) = 0
          · rw [if_pos y, if_neg (fun q => z ⟨y, (mbit b hb8 p' (by omega)).mp q⟩)]
          · rw [if_neg y]
        rw [ez, if_pos rfl]
        simp only [obs, if_true]
        rw [stands1 v2 (by omega)]
        simp only [obs, n10, if_false, nI_1]
        exact go τ _ v2 (by omega)
