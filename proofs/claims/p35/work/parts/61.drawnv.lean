theorem zerI_o {σ : St} {m a b : Nat} (h : a ≠ m) : (zerI σ m).1 a b = σ.1 a b := by simp only [zerI]; rw [if_neg h]
/-- the law's look ahead, and the class's four calls of drawn -/
theorem drawnT {B P G Y : Nat} {σ : St} (h : Tp B P G σ) (hB : B + 16 * Y ≤ 2 ^ 29) (h1 : 1 ≤ Y) (hY : Y ≤ 30) (c10 x : Int32) : ∃ (q93 q98 : St) (s : Nat) (g : Int32) (σf : St) (l f : Int32) (S0 S1 S2 S3 : St) (sf : Nat),
    fL_law_L647 c10 x (nI Y) fu (0 : Int32) (zerI (zerI (zerI σ 65) 66) 67) = some q93 ∧ fL_law_L683 c10 x (nI Y) fu (0 : Int32) q93 = some q98 ∧ ((x >>> ((1 : Int32) &&& 31)) &&& (2147483647 : Int32)).toInt64 = vN s ∧ s < 2 ^ 31 ∧
    fL_law_L731 c10 (nI Y) (nI s) fu (0 : Int32) (0 : Int32) (setL q98 64 0 (vN s)) = some (g, σf) ∧ fL_law_L772 c10 (nI Y) (nI s) g (0 : Int32) σf fu (0 : Int32) (0 : Int32) = some l ∧ fL_law_L815 c10 (nI Y) (nI s) g l σf fu (0 : Int32) (0 : Int32) = some f ∧
    fX8_drawn (nI Y) (nI s) (0 : Int32) σf = some (g, S0) ∧ fX8_drawn (nI Y) (nI s) (1 : Int32) S0 = some (l, S1) ∧ fX8_drawn (nI Y) (nI s) (2 : Int32) S1 = some (f, S2) ∧ fX8_drawn (nI Y) (nI s) (3 : Int32) S2 = some (nI sf, S3) ∧ S3.2 64 0 = vN sf ∧ sf < 2 ^ 31 ∧ Tp B P G S3 := by
  obtain ⟨hW, hR, h2, hG1⟩ := h
  obtain ⟨⟨hP, hG⟩, ⟨p0, p1⟩, ⟨g0, g1⟩, hwh, hwk, hwf, -⟩ := id hW
  obtain ⟨q93, a1, a2, a3, a4⟩ := copyC c10 x (nI Y) 64 0 fu (zerI (zerI (zerI σ 65) 66) 67) (by omega) (fu_gt (by omega))
  obtain ⟨q98, b1, b2, b3, b4⟩ := copyP c10 x (nI Y) 27 0 fu q93 (by omega) (fu_gt (by omega))
  obtain ⟨s, hs, es⟩ := seedN (x >>> ((1 : Int32) &&& 31))
  have z : ∀ a b, a < 65 ∨ 67 < a → (zerI (zerI (zerI σ 65) 66) 67).1 a b = σ.1 a b := fun a b ha => by rw [zerI_o (by omega), zerI_o (by omega), zerI_o (by omega)]
  have k0 : ∀ a b, a < 65 ∨ 67 < a → (setL q98 64 0 (vN s)).1 a b = σ.1 a b := fun a b ha => by
    show q98.1 a b = _
    rw [b3 a b (by omega), a3 a b (by omega) (by omega), z a b ha]
  have k67 : ∀ b, b < 27 → (setL q98 64 0 (vN s)).1 67 b = σ.1 60 b := fun b hb => by
    show q98.1 67 b = _
    rw [b4 b (by omega) hb, a3 60 b (by omega) (by omega), z 60 b (by omega)]
  have k66 : ∀ b, b < 64 → (setL q98 64 0 (vN s)).1 66 b = σ.1 62 b := fun b hb => by
    show q98.1 66 b = _
    rw [b3 66 b (by omega), (a4 b (by omega) hb).2, z 62 b (by omega)]
  have k65 : ∀ b, b < 64 → (setL q98 64 0 (vN s)).1 65 b = σ.1 63 b := fun b hb => by
    show q98.1 65 b = _
    rw [b3 65 b (by omega), (a4 b (by omega) hb).1, z 63 b (by omega)]
  have R := fun (S : St) (w : Int32) (hS : ∀ a b, a < 34 → S.1 a b = σ.1 a b) (hw : fX8_within w (0 : Int32) (3 : Int32) = 1) => drawnR (c10 := c10) (c20 := nI s) hW hB h1 hY hs (hR.1.cong (fun b => hS 3 b (by omega)) (fun b => k0 58 b (by omega))) hS k67 k66 k65 (fun b => k0 61 b (by omega)) setL_s hw (σf := σ) (g := 0)
  obtain ⟨-, g, σf, c1, -, -, -, c5, -⟩ := R σ 0 (fun _ _ _ => rfl) rfl
  have kf : ∀ a b, a < 65 → σf.1 a b = σ.1 a b := fun a b ha => by rw [c5 a b (by omega) (by omega) (by omega), k0 a b (by omega)]
  have kf2 : ∀ a b, 67 < a → σf.1 a b = σ.1 a b := fun a b ha => by rw [c5 a b (by omega) (by omega) (by omega), k0 a b (by omega)]
  have U : ∀ (S : St) (w : Int32), (∀ a b, a < 34 → S.1 a b = σ.1 a b) → fX8_within w (0 : Int32) (3 : Int32) = 1 → ∃ τ, (fX8_drawn (nI Y) (nI s) w S = (if w = (0 : Int32) then some (g, τ) else (if w = (1 : Int32) then (Option.bind (fX7_living 34 τ) fun q11 => some (q11, τ)) else (if w = (2 : Int32) then (Option.bind (fX7_allFeasts 34 τ) fun q13 => (Option.bind (fX7_allFeasts 4 τ) fun q14 => some ((q13 - q14), τ))) else some ((τ.2 49 0).toInt32, τ))))) ∧ WL 34 67 66 65 (B + 16 * Y) τ σf P G ∧ SDl τ σf ∧ (∀ a b, a < 34 ∨ 49 ≤ a → τ.1 a b = S.1 a b) ∧ (∀ b, τ.2 64 b = S.2 64 b) := fun S w hS hw => by
    obtain ⟨τ, g', σf', d1, d2, d3, d4, d5, d6, d7⟩ := R S w hS hw
    have e0 : (g', σf') = (g, σf) := Option.some.inj (d1.symm.trans c1)
    have eg : g' = g := congrArg Prod.fst e0
    have eσ : σf' = σf := congrArg Prod.snd e0
    subst eg eσ
    exact ⟨τ, d2, d3, d4, d6, d7⟩
  obtain ⟨S0, u0, -, -, n0, m0⟩ := U σf 0 (fun a b ha => kf a b (by omega)) rfl
  have s0 : ∀ a b, a < 34 ∨ 49 ≤ a → S0.1 a b = σf.1 a b := n0
  obtain ⟨S1, u1, w1, -, n1, m1⟩ := U S0 1 (fun a b ha => by rw [n0 a b (by omega), kf a b (by omega)]) rfl
  have s1 : ∀ a b, a < 34 ∨ 49 ≤ a → S1.1 a b = σf.1 a b := fun a b ha => by rw [n1 a b ha, s0 a b ha]
  obtain ⟨S2, u2, w2, -, n2, m2⟩ := U S1 2 (fun a b ha => by rw [s1 a b (by omega), kf a b (by omega)]) rfl
  have s2 : ∀ a b, a < 34 ∨ 49 ≤ a → S2.1 a b = σf.1 a b := fun a b ha => by rw [n2 a b ha, s1 a b ha]
  obtain ⟨S3, u3, w3, ⟨sf, hsf, t0, t1⟩, n3, m3⟩ := U S2 3 (fun a b ha => by rw [s2 a b (by omega), kf a b (by omega)]) rfl
  have s3 : ∀ a b, a < 34 ∨ 49 ≤ a → S3.1 a b = σf.1 a b := fun a b ha => by rw [n3 a b ha, s2 a b ha]
  obtain ⟨l, l1, l2⟩ := livingT w1 ((kf 60 25 (by omega)).trans g1) c10 (nI Y) (nI s) g (0 : Int32) G 0 fu fu (nI 0) (by omega) (fu_gt (by omega)) (fu_gt (by omega))
  obtain ⟨r1, r2, f1, f2, f3⟩ := feastsT w2 (by rw [s2 4 0 (by omega), kf 4 0 (by omega)]; exact p0) ((kf 60 0 (by omega)).trans p1) (fun i hi => by rw [s2 7 i (by omega), kf 7 i (by omega), kf 60 _ (by omega)]; exact hwf i hi) c10 (nI Y) (nI s) g l P 0 fu fu fu (nI 0) (nI 0) (by omega) (fu_gt (by omega)) (fu_gt (by omega)) (fu_gt (by omega))
  refine ⟨q93, q98, s, g, σf, l, r1 - r2, S0, S1, S2, S3, sf, a1, b1, by rw [es, vN_of hs], hs, c1, l2, f3, u0, ?_, ?_, ?_, ?_, hsf, ?_⟩
  · rw [u1, if_neg (by decide), if_pos rfl]
    unfold fX7_living
    rw [show (0 : Int32) = nI 0 from rfl, l1]; rfl
  · rw [u2, if_neg (by decide), if_neg (by decide), if_pos rfl]
    unfold fX7_allFeasts
    rw [show (0 : Int32) = nI 0 from rfl, f1, f2]; rfl
  · rw [u3, if_neg (by decide), if_neg (by decide), if_neg (by decide), t0, vN_32 hsf]
  · rw [m3, m2, m1, m0]; exact t1
  · have kx : ∀ a b, a < 34 → S3.1 a b = σ.1 a b := fun a b ha => by rw [s3 a b (by omega), kf a b (by omega)]
    have ky : ∀ a b, 49 ≤ a → a < 65 → S3.1 a b = σ.1 a b := fun a b h1 h2 => by rw [s3 a b (by omega), kf a b (by omega)]
    exact ⟨hW.cg (fun a b _ _ => kx a b (by omega)) (fun b => ky 60 b (by omega) (by omega)) (fun b => ky 62 b (by omega) (by omega)) (fun b => ky 63 b (by omega) (by omega)) (fun b => ky 61 b (by omega) (by omega)), hR.cong (fun b => kx 3 b (by omega)) (fun b => ky 58 b (by omega) (by omega)) (kx 4 8 (by omega)) (ky 60 26 (by omega) (by omega)) (by rw [s3 69 0 (by omega), kf2 69 0 (by omega)]), h2, hG1⟩
