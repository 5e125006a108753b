theorem farP {P b r : Nat} {Kn Lk : Nat → Nat} (c : DC P Kn Lk) (c2 : Int32) : ∀ (d i n : Nat) (σ : St) (f : Nat → Nat), i + d = P → d < n → DM P Kn Lk σ → S72 f σ → Snd P Kn b f → Cmp P Kn b r f → (∀ p, p < i → ∀ m, m ≤ r + 1 → rch P Kn m p b → f p ≤ m) → ∃ τ f', fX9_layFar_L41 c2 n (nI i) σ = some τ ∧ (∀ a k, a ≠ 72 → τ.1 a k = σ.1 a k) ∧ S72 f' τ ∧ Snd P Kn b f' ∧ Cmp P Kn b (r + 1) f' := by
  have hP := c.1
  intro d
  induction d with
  | zero =>
    intro i n σ f hi hn m s h cm pr
    obtain ⟨n, rfl, -⟩ := su hn
    have ei : i = P := by omega
    subst ei
    rw [fX9_layFar_L41, m.1, if_pos (nI_le (a := i) (b := i) (by omega) (by omega))]
    exact ⟨σ, f, rfl, fun _ _ _ => rfl, s, h, fun k hk p hp hr => pr p hp k hk hr⟩
  | succ d ih =>
    intro i n σ f hi hn m s h cm pr
    obtain ⟨n, rfl, hn⟩ := su hn
    have hiP : i < P := by omega
    obtain ⟨σ1, f1, e1, e2, e3, e4, e5, e6⟩ := farL (b := b) c hiP c2 P 0 fu σ f (by omega) (fu_gt (by omega)) m s h
    rw [nI_0] at e1
    rw [fX9_layFar_L41, m.1, if_neg (nI_ge (a := i) (b := P) hiP (by omega)), e1, obs, nI_1]
    obtain ⟨τ, f', g1, g2, g3, g4, g5⟩ := ih (i + 1) n σ1 f1 (by omega) (by omega) (m.o72 e2) e3 e4 (fun k hk p hp hr => Nat.le_trans (e5 p) (cm k hk p hp hr)) (fun p hp k hk hr => by
      by_cases z : p = i
      · rw [z] at hr ⊢
        by_cases y : k ≤ r
        · exact Nat.le_trans (e5 i) (cm k y i hiP hr)
        · have ek : k = r + 1 := by omega
          rw [ek] at hr ⊢
          rcases hr with hr | ⟨w, hw, hk2, hr⟩
          · exact Nat.le_trans (Nat.le_trans (e5 i) (cm r (Nat.le_refl r) i hiP hr)) (Nat.le_succ r)
          · exact Nat.le_trans (e6 w (Nat.zero_le w) hw hk2) (Nat.add_le_add_right (cm r (Nat.le_refl r) w hw hr) 1)
      · exact Nat.le_trans (e5 p) (pr p (by omega) k hk hr))
    exact ⟨τ, f', g1, fun a k ha => by rw [g2 a k ha, e2 a k ha], g3, g4, g5⟩
theorem farR {P b : Nat} {Kn Lk : Nat → Nat} (c : DC P Kn Lk) : ∀ (d i n : Nat) (σ : St) (f : Nat → Nat), i + d = 8 → d < n → DM P Kn Lk σ → S72 f σ → Snd P Kn b f → Cmp P Kn b i f → ∃ τ f', fX9_layFar_L33 n (nI i) σ = some τ ∧ (∀ a k, a ≠ 72 → τ.1 a k = σ.1 a k) ∧ S72 f' τ ∧ Snd P Kn b f' ∧ Cmp P Kn b 8 f' := by
  have hP := c.1
  intro d
  induction d with
  | zero =>
    intro i n σ f hi hn m s h cm
    obtain ⟨n, rfl, -⟩ := su hn
    have ei : i = 8 := by omega
    subst ei
    rw [fX9_layFar_L33, if_pos (show (8 : Int32) ≤ nI 8 by decide)]
    exact ⟨σ, f, rfl, fun _ _ _ => rfl, s, h, cm⟩
  | succ d ih =>
    intro i n σ f hi hn m s h cm
    obtain ⟨n, rfl, hn⟩ := su hn
    obtain ⟨σ1, f1, e1, e2, e3, e4, e5⟩ := farP (b := b) (r := i) c (nI i) P 0 fu σ f (by omega) (fu_gt (by omega)) m s h cm (fun p hp => absurd hp (Nat.not_lt_zero p))
    rw [nI_0] at e1
    rw [fX9_layFar_L33, if_neg (show ¬ (8 : Int32) ≤ nI i from nI_ge (a := i) (b := 8) (by omega) (by decide)), e1, obs, nI_1]
    obtain ⟨τ, f', g1, g2, g3⟩ := ih (i + 1) n σ1 f1 (by omega) (by omega) (m.o72 e2) e3 e4 e5
    exact ⟨τ, f', g1, fun a k ha => by rw [g2 a k ha, e2 a k ha], g3⟩
theorem farM {P b : Nat} {Kn Lk : Nat → Nat} {σ : St} (c : DC P Kn Lk) (m : DM P Kn Lk σ) (hb : b < P) : ∃ τ, fX9_layFar (nI b) σ = some τ ∧ DM P Kn Lk τ ∧ ∀ p, p < P → (∃ k, k < 8 ∧ Dst P Kn p b k ∧ τ.1 72 p = nI k) ∨ ((∀ k, ¬ rch P Kn k p b) ∧ τ.1 72 p = 100) := by
  have hP := c.1
  obtain ⟨q, q1, q2, q3⟩ := farI (b := b) (by omega) 8 0 fu σ (by omega) (fu_gt (by omega)) (fun p hp => absurd hp (Nat.not_lt_zero p))
  obtain ⟨τ, f, t1, t2, t3, t4, t5⟩ := farR (b := b) c 8 0 fu q (fun p => if p = b then 0 else 100) (by omega) (fu_gt (by omega)) (m.o72 q2) q3 (fun p hp hlt => by
    by_cases z : p = b
    · simp only [if_pos z]
      exact z
    · simp only [if_neg z] at hlt
      omega) (fun k hk p hp hr => by
    have ek : k = 0 := by omega
    rw [ek] at hr ⊢
    have hr : p = b := hr
    simp only [if_pos hr]
    exact Nat.le_refl 0)
  rw [nI_0] at q1 t1
  unfold fX9_layFar
  rw [q1, obs, t1, obs]
  refine ⟨τ, rfl, m.o72 (fun a k ha => by rw [t2 a k ha, q2 a k ha]), fun p hp => ?_⟩
  obtain ⟨s1, s2⟩ := t3 p (by omega)
  rw [s1]
  by_cases z : f p < 100
  · have h1 := t4 p hp z
    have h7 := t5 7 (by decide) p hp (rch7 hP c.2.1 hp hb h1)
    exact Or.inl ⟨f p, by omega, ⟨h1, fun k hk hr => by have := t5 k (by omega) p hp hr; omega⟩, rfl⟩
  · have e : f p = 100 := by omega
    refine Or.inr ⟨fun k hr => ?_, by rw [e]; rfl⟩
    have := t5 7 (by decide) p hp (rch7 hP c.2.1 hp hb hr)
    omega
/-- by whom first: both look for the least -/
theorem byL {P a b h w : Nat} {Kn Lk : Nat → Nat} {σ τ : St} (c : DC P Kn Lk) (x : DX P Kn Lk σ) (m : DM P Kn Lk τ) (ha : a < P) (hb : b < P) (hh : 1 ≤ h) (h8 : h < 8) (far : ∀ p, p < P → (∃ k, k < 8 ∧ Dst P Kn p b k ∧ τ.1 72 p = nI k) ∨ ((∀ k, ¬ rch P Kn k p b) ∧ τ.1 72 p = 100)) (ea : τ.1 72 a = nI h) (hw : w < P) (w1 : (Kn a).testBit w = true) (w2 : Dst P Kn w b (h - 1)) : ∀ (d i n k : Nat), i + d = w → d < n → d < k → ∃ q, fX7_firstBetween_L21 4 (nI a) (nI b) (nI h) σ n (nI i) = some (.inl q) ∧ fX9_tellStranger_L54 (nI a) τ k (nI i) = some q := by
  have hP := c.1
  have hk8 := p2_256 hP (c.2.1 a (by omega))
  have hp1 : nI h - 1 = nI (h - 1) := by
    have e : h = (h - 1) + 1 := by omega
    rw [e, nI_pred, Nat.add_sub_cancel]
  have step : ∀ i n k, i < P → ((Kn a).testBit i = true → Dst P Kn i b (h - 1) → fX7_firstBetween_L21 4 (nI a) (nI b) (nI h) σ (n + 1) (nI i) = some (.inl (nI i)) ∧ fX9_tellStranger_L54 (nI a) τ (k + 1) (nI i) = some (nI i)) ∧ (¬ ((Kn a).testBit i = true ∧ Dst P Kn i b (h - 1)) → fX7_firstBetween_L21 4 (nI a) (nI b) (nI h) σ (n + 1) (nI i) = fX7_firstBetween_L21 4 (nI a) (nI b) (nI h) σ n (nI (i + 1)) ∧ fX9_tellStranger_L54 (nI a) τ (k + 1) (nI i) = fX9_tellStranger_L54 (nI a) τ k (nI (i + 1))) := by
    intro i n k hi
    have kn : fX7_knows 4 (nI a) (nI i) σ = some (if (Kn a).testBit i = true then (1 : Int32) else 0) := by
      unfold fX7_knows
      rw [grd_t (inbN (show a < 8 by omega) (by decide)), tcl (by omega), show 4 + 2 = 6 from rfl, x.2.1 a (by omega)]
      by_cases y : (Kn a).testBit i = true
      · rw [if_pos y, if_neg (fun z => by rw [(bt_and _ hk8 i (by omega)).mp z] at y; cases y)]
      · rw [if_neg y, if_pos ((bt_and _ hk8 i (by omega)).mpr (by simpa using y))]
    have fx := far i hi
    have hx := handsX c x hi hb
    rw [fX7_firstBetween_L21, fX9_tellStranger_L54, x.1, if_neg (nI_ge (a := i) (b := P) hi (by omega)), kn, obs, hp1, nI_1]
    simp only [grd_t (inbN (show a < 8 by omega) (by decide)), grd_t (inbN (show i < 8 by omega) (by decide)), tcl (show a < 2 ^ 31 by omega), tcl (show i < 2 ^ 31 by omega), m.2.1 a (by omega), bt_shr (Kn a) hk8 i (by omega), ea]
    by_cases y : (Kn a).testBit i = true
    · rw [if_pos y, if_neg (show ¬ (1 : Int32) = 0 by decide)]
      have hc : ∃ v u, fX7_handsBetween 4 (nI i) (nI b) σ = some v ∧ τ.1 72 i = u ∧ (v = nI (h - 1) ↔ Dst P Kn i b (h - 1)) ∧ (u + 1 = nI h ↔ Dst P Kn i b (h - 1)) := by
        rcases hx with ⟨v, v1, v2, e⟩ | ⟨nv, e⟩
        · rcases fx with ⟨u, u1, u2, e'⟩ | ⟨nu, e'⟩
          · have : v = u := v2.eq u2
            refine ⟨nI v, nI u, e, e', ?_, ?_⟩
            · rw [nI_inj (by omega) (by omega)]
              exact ⟨fun z => by rw [← z]; exact v2, fun z => v2.eq z⟩
            · rw [nI_1, nI_inj (by omega) (by omega)]
              exact ⟨fun z => by rw [show h - 1 = u by omega]; exact u2, fun z => by have := u2.eq z; omega⟩
          · exact absurd v2.1 (nu v)
        · rcases fx with ⟨u, u1, u2, e'⟩ | ⟨nu, e'⟩
          · exact absurd u2.1 (nv u)
          · refine ⟨-1, 100, e, e', ⟨fun z => absurd z.symm (nI_ne_m1 (by omega)), fun z => absurd z.1 (nu _)⟩, ⟨fun z => ?_, fun z => absurd z.1 (nu _)⟩⟩
            have z : nI 101 = nI h := z
            have := (nI_inj (by omega) (by omega)).mp z
            omega
      obtain ⟨v, u, e, e', c1, c2⟩ := hc
      rw [e, obs, e']
      by_cases z : Dst P Kn i b (h - 1)
      · rw [if_pos (c1.mpr z), if_pos (c2.mpr z)]
        exact ⟨fun _ _ => ⟨rfl, rfl⟩, fun w => absurd ⟨y, z⟩ w⟩
      · rw [if_neg (fun q => z (c1.mp q)), if_neg (fun q => z (c2.mp q))]
        exact ⟨fun _ w => absurd w z, fun _ => ⟨rfl, rfl⟩⟩
    · rw [if_neg y, if_pos rfl, if_pos rfl]
      exact ⟨fun w _ => absurd w y, fun _ => ⟨rfl, rfl⟩⟩
  intro d
  induction d with
  | zero =>
    intro i n k hi hn hk
    obtain ⟨n, rfl, -⟩ := su hn
    obtain ⟨k, rfl, -⟩ := su hk
    have ei : i = w := by omega
    rw [ei]
    obtain ⟨s1, s2⟩ := (step w n k hw).1 w1 w2
    exact ⟨_, s1, s2⟩
  | succ d ih =>
    intro i n k hi hn hk
    obtain ⟨n, rfl, hn⟩ := su hn
    obtain ⟨k, rfl, hk⟩ := su hk
    by_cases z : (Kn a).testBit i = true ∧ Dst P Kn i b (h - 1)
    · obtain ⟨s1, s2⟩ := (step i n k (by omega)).1 z.1 z.2
      exact ⟨_, s1, s2⟩
    · obtain ⟨s1, s2⟩ := (step i n k (by omega)).2 z
      rw [s1, s2]
      exact ih (i + 1) n k (by omega) (by omega) (by omega)
/-- stranger -/
theorem s_stranger (p q z : Int32) {σ σ' : St} (h : Rel σ σ') : ∃ r τ', fX8_stranger p q z σ = some r ∧ fX9_stranger p q z σ' = some (r, τ') ∧ Rel σ τ' := by
  obtain ⟨P, G, hR⟩ := h
  obtain ⟨h1, h2, h3, -⟩ := id hR
  obtain ⟨⟨hP, hG⟩, ⟨p0, p1⟩, ⟨g0, g1⟩, -⟩ := id h3
  have key : ∃ r τ', fX8_stranger p q z σ = some r ∧ fX9_stranger p q z σ' = some (r, τ') := by
    have v1 : fX9_in z.toInt64 (0 : Int64) (1 : Int64) = fX8_within z 0 1 := wi2 z 0 1
    unfold fX8_stranger fX9_stranger
    rcases isP2 p0 p1 hP p with ⟨a, ha, rfl, x1, m1⟩ | ⟨-, x1, m1⟩
    · rw [x1, m1, if_neg (show ¬ (1 : Int32) = 0 by decide), if_neg (show ¬ (1 : Int32) = 0 by decide)]
      rcases isP2 p0 p1 hP q with ⟨b, hb, rfl, x2, m2⟩ | ⟨-, x2, m2⟩
      · rw [x2, m2, if_neg (show ¬ (1 : Int32) = 0 by decide), if_neg (show ¬ (1 : Int32) = 0 by decide), v1]
        obtain ⟨Kn, Lk, c, x, m⟩ := dset hR
        have hx := handsX c x ha hb
        obtain ⟨τ, t1, t2, t3⟩ := farM c m hb
        have ha' := t3 a ha
        rcases within_c z (a := 0) (b := 1) (by decide) (by decide) with ⟨k, -, k2, rfl, e⟩ | ⟨-, e⟩
        · replace e : fX8_within (nI k) (0 : Int32) (1 : Int32) = 1 := e
          rw [e, if_neg (show ¬ (1 : Int32) = 0 by decide), if_neg (show ¬ (1 : Int32) = 0 by decide)]
          unfold fX9_tellStranger
          rw [t1, obs]
          simp only [grd_t (inbN (show a < 8 by omega) (by decide)), tcl (show a < 2 ^ 31 by omega)]
          rcases (show k = 0 ∨ k = 1 by omega) with rfl | rfl
          · rw [if_pos (show nI 0 = (0 : Int32) from rfl), if_pos (show nI 0 = (0 : Int32) from rfl), if_pos (show nI 0 = (0 : Int32) from rfl)]
            rcases hx with ⟨v, y1, y2, e1⟩ | ⟨nv, e1⟩
            · rcases ha' with ⟨u, u1, u2, e2⟩ | ⟨nu, e2⟩
              · rw [e1, obs, e2, if_neg (show ¬ (100 : Int32) ≤ nI u from nI_ge (a := u) (b := 100) (by omega) (by decide)), y2.eq u2, obs]
                exact ⟨_, τ, rfl, rfl⟩
              · exact absurd y2.1 (nu v)
            · rcases ha' with ⟨u, u1, u2, e2⟩ | ⟨nu, e2⟩
              · exact absurd u2.1 (nv u)
              · rw [e1, obs, e2, if_pos (show (100 : Int32) ≤ 100 by decide), obs]
                exact ⟨_, τ, rfl, rfl⟩
          · rw [if_neg (show ¬ nI 1 = (0 : Int32) by decide), if_neg (show ¬ nI 1 = (0 : Int32) by decide), if_neg (show ¬ nI 1 = (0 : Int32) by decide)]
            unfold fX7_firstBetween
            rcases hx with ⟨v, y1, y2, e1⟩ | ⟨nv, e1⟩
            · rcases ha' with ⟨u, u1, u2, e2⟩ | ⟨nu, e2⟩
              · have huv : v = u := y2.eq u2
                rw [e1, obs, if_neg (nI_ne_m1 (by omega)), e2, if_neg (show ¬ nI u = (100 : Int32) from fun w => by have := (nI_inj (b := 100) (by omega) (by decide)).mp w; omega)]
                by_cases ab : a = b
                · have v0 : v = 0 := by
                    rcases Nat.eq_zero_or_pos v with w | w
                    · exact w
                    · exact absurd ab (y2.2 0 w)
                  rw [v0, if_pos (show nI 0 = (0 : Int32) from rfl), if_pos (show nI a = nI b by rw [ab]), obs, obs]
                  exact ⟨_, τ, rfl, rfl⟩
                · have v0 : 1 ≤ v := by
                    rcases Nat.eq_zero_or_pos v with w | w
                    · rw [w] at y2; exact absurd y2.1 ab
                    · exact w
                  obtain ⟨w, hw, w1, w2⟩ : ∃ w, w < P ∧ (Kn a).testBit w = true ∧ Dst P Kn w b (v - 1) := by
                    have y3 := y2.1
                    rw [show v = (v - 1) + 1 by omega] at y3
                    rcases y3 with y3 | ⟨w, hw, w1, w2⟩
                    · exact absurd y3 (y2.2 (v - 1) (by omega))
                    · exact ⟨w, hw, w1, w2, fun k hk hr => y2.2 (k + 1) (by omega) (Or.inr ⟨w, hw, w1, hr⟩)⟩
                  obtain ⟨r, r1, r2⟩ := byL c x t2 ha hb v0 y1 t3 (by rw [e2, huv]) hw w1 w2 w 0 fu fu (by omega) (fu_gt (by omega)) (fu_gt (by omega))
                  rw [nI_0] at r1 r2
                  rw [if_neg (nI_ne0 (by omega) (by omega)), r1, obs, if_neg (show ¬ nI a = nI b from fun w => ab ((nI_inj (by omega) (by omega)).mp w)), r2, obs, obs]
                  exact ⟨_, τ, rfl, rfl⟩
              · exact absurd y2.1 (nu v)
            · rcases ha' with ⟨u, u1, u2, e2⟩ | ⟨nu, e2⟩
              · exact absurd u2.1 (nv u)
              · rw [e1, obs, if_pos rfl, obs, e2, if_pos (show (100 : Int32) = 100 from rfl)]
                by_cases ab : nI a = nI b
                · rw [if_pos ab, obs]
                  exact ⟨_, τ, rfl, rfl⟩
                · rw [if_neg ab, obs]
                  exact ⟨_, τ, rfl, rfl⟩
        · replace e : fX8_within z (0 : Int32) (1 : Int32) = 0 := e
          rw [e, if_pos rfl, if_pos rfl]
          exact ⟨_, _, rfl, rfl⟩
      · rw [x2, m2, if_pos rfl, if_pos rfl]
        exact ⟨_, _, rfl, rfl⟩
    · rw [x1, m1, if_pos rfl, if_pos rfl]
      exact ⟨_, _, rfl, rfl⟩
  obtain ⟨r, τ', e1, e2⟩ := key
  refine ⟨r, τ', e1, e2, P, G, hR.fr (kx := []) fr_rfl (frX9_stranger p q z σ' (r, τ') e2) (fun _ _ => List.not_mem_nil) (fun a ha => ?_)⟩
  simp only [List.mem_cons, List.not_mem_nil, or_false]
  omega
