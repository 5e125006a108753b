def BX (w1 : Nat) (c2 : Int32) (P : Nat) (B : Nat → Nat → Nat) (ρ : St) : Prop := P ≤ 8 ∧ (∀ f h, f ≤ P → h < P → B f h < 2 ^ P) ∧ ρ.1 w1 0 = nI P ∧ ∀ f h, f ≤ P → h < P → ∀ τ : St, τ.1 = ρ.1 → fX7_mayHave w1 (frF f) (nI h) c2 τ = some (nI (B f h))
def BM (P : Nat) (B : Nat → Nat → Nat) (ρ : St) : Prop := P ≤ 8 ∧ (∀ f h, f ≤ P → h < P → B f h < 2 ^ P) ∧ ρ.1 58 12 = nI P ∧ ∀ f h, f ≤ P → h < P → ∀ τ : St, τ.1 = ρ.1 → fX9_mayHave (nI h) (frF f) τ = some (nI (B f h))
def AtX (c t P : Nat) (B W0 : Nat → Nat → Nat) (n : Nat) (ρ σ : St) : Prop := σ.1 = ρ.1 ∧ ∀ f h, f < 9 → h < 8 → σ.2 51 (8 * f + h) = vN (wsq 0 c t P B W0 n f h)
def AtM (c t P : Nat) (B W0 : Nat → Nat → Nat) (n : Nat) (ρ σ : St) : Prop := σ.1 = ρ.1 ∧ ∀ f h, f < 9 → h < 8 → σ.2 67 (pm f h) = vN (wsq c c t P B W0 n f h)
theorem nextX {w1 : Nat} {c2 : Int32} {c t P : Nat} {B W0 : Nat → Nat → Nat} {ρ σ : St} (b : BX w1 c2 P B ρ) (ht : t < 8) (hc : c < 2) (h1 : mass P W0 = 1) (hS : Spt P W0) {n : Nat} (hn : n ≤ 8) (hn7 : c ≠ 0 → n ≤ 7) (a : AtX c t P B W0 n ρ σ) : ∃ τ, fX6_goOn w1 c2 (nI t) (nI c) σ = some (vN (cmh c t P B W0 n), τ) ∧ AtX c t P B W0 (n + 1) ρ τ := by
  obtain ⟨hP, hB, h0, hm⟩ := b
  obtain ⟨τ, e1, e2, e3, -⟩ := goOnX (w1 := w1) (c2 := c2) (c := c) (t := t) (P := P) (B := B) (W := wsq 0 c t P B W0 n) (σ := σ) ht hP hc hB (fun f h _ _ => wsq_lt ht hP hB (fun z => absurd rfl z) h1 hS hn hn7 f h) (by rw [a.1]; exact h0) (fun f h hf hh τ e => hm f h hf hh τ (e.trans a.1)) (fun f h hf hh => a.2 f h (by omega) (by omega))
  exact ⟨τ, e1, e2.trans a.1, e3⟩
theorem nextM {c t P : Nat} {B W0 : Nat → Nat → Nat} {ρ σ : St} (b : BM P B ρ) (ht : t < 8) (hc : c < 2) (h1 : mass P W0 = 1) (hS : Spt P W0) {n : Nat} (hn : n ≤ 8) (hn7 : c ≠ 0 → n ≤ 7) (a : AtM c t P B W0 n ρ σ) : ∃ τ, fX9_goAll (nI t) (nI c) σ = some (vN (cmh c t P B W0 n), τ) ∧ AtM c t P B W0 (n + 1) ρ τ ∧ ∀ a k, a ≠ 67 → a ≠ 68 → τ.2 a k = σ.2 a k := by
  obtain ⟨hP, hB, h0, hm⟩ := b
  obtain ⟨τ, e1, e2, e3, e4⟩ := goAllM (c := c) (t := t) (P := P) (B := B) (W := wsq c c t P B W0 n) (σ := σ) ht hP hc hB (fun f h => wsq_lt ht hP hB (fun z => z) h1 hS hn hn7 f h) (spt_wsq hB hS n) (by rw [a.1]; exact h0) (fun f h hf hh τ e => hm f h hf hh τ (e.trans a.1)) a.2
  rw [cmh_m] at e1
  exact ⟨τ, e1, ⟨e2.trans a.1, e3⟩, e4⟩
theorem pm_inj {f h f0 h0 : Nat} (hf : f < 9) (hf0 : f0 < 9) : pm f h = pm f0 h0 ↔ f = f0 ∧ h = h0 := by
  constructor
  · intro e
    have e1 := congrArg (· / 9) e
    have e2 := congrArg (fun x => fo (x % 9)) e
    simp only [pm_div _ hf, pm_div _ hf0] at e1
    simp only [fo_pm _ hf, fo_pm _ hf0] at e2
    exact ⟨e2, e1⟩
  · rintro ⟨rfl, rfl⟩; rfl
theorem startX {f0 h0 c t P : Nat} {B : Nat → Nat → Nat} (hf : f0 ≤ P) (hh : h0 < P) (hP : P ≤ 8) (σ : St) : ∃ τ, fX6_begin (frF f0) (nI h0) σ = some τ ∧ AtX c t P B (onW f0 h0) 0 σ τ := by
  obtain ⟨τ, e1, e2, e3, -⟩ := beginX (frF_is hf hP).1 (show h0 < 8 by omega) σ
  refine ⟨τ, e1, e2, fun f h h1 h2 => ?_⟩
  rw [e3 _ (by omega)]
  show _ = vN (onW f0 h0 f h)
  unfold onW
  by_cases z : f = f0 ∧ h = h0
  · rw [if_pos z, z.1, z.2, if_pos rfl]; rfl
  · rw [if_neg z, if_neg (fun y => z (by omega))]; rfl
theorem startM {g f0 h0 c t P : Nat} {B : Nat → Nat → Nat} (hg : g < 8) (hf : f0 ≤ P) (hh : h0 < P) (hP : P ≤ 8) (σ : St) (e3 : σ.1 65 (8 * g + 3) = frF f0) (e2 : σ.1 65 (8 * g + 2) = nI h0) : ∃ τ, fX9_beginWays (nI g) σ = some τ ∧ AtM c t P B (onW f0 h0) 0 σ τ ∧ τ.2 58 = σ.2 58 := by
  obtain ⟨τ, m1, m2, m3, m4⟩ := beginM hg (frF_is hf hP).1 (show h0 < 8 by omega) σ e3 e2
  refine ⟨τ, m1, ⟨m2, fun f h h1 h2 => ?_⟩, funext fun k => m4 58 k (by decide)⟩
  rw [m3 _ (pm_lt h1 h2)]
  show _ = vN (onW f0 h0 f h)
  unfold onW
  by_cases z : f = f0 ∧ h = h0
  · rw [if_pos z, z.1, z.2, if_pos rfl]; rfl
  · rw [if_neg z, if_neg (fun y => z ((pm_inj h1 (by omega)).mp y))]; rfl
theorem wset {σ σ' : St} {P G : Nat} (hR : RR σ σ' P G) {k : Nat} (hk : k < G) : ∃ (f0 h0 t : Nat) (B : Nat → Nat → Nat), (f0 ≤ P ∧ h0 < P ∧ t < P) ∧ (σ.1 (4 + 7 + k) 1 = nI t ∧ σ.1 (4 + 7 + k) 2 = nI h0 ∧ σ.1 (4 + 7 + k) 3 = frF f0) ∧ (σ'.1 65 (8 * k + 1) = nI t ∧ σ'.1 65 (8 * k + 2) = nI h0 ∧ σ'.1 65 (8 * k + 3) = frF f0) ∧ BX 4 (σ.1 3 1) P B σ ∧ BM P B σ' := by
  obtain ⟨h1, h2, h3, -⟩ := id hR
  obtain ⟨⟨hP, hG⟩, ⟨p0, p1⟩, ⟨g0, g1⟩, hy, hwh, hwk, hwf, hwl, hwd, hwg, v1, v2, v3, v4, -⟩ := id h3
  obtain ⟨-, ⟨t, ht, et⟩, ⟨h0, hh, eh⟩, ef, -⟩ := v4 k hk
  obtain ⟨B, hB⟩ := bits2 h3 h1.bk.1 h1.bk.2
  have x1 : σ.1 (4 + 7 + k) 1 = σ'.1 65 (8 * k + 1) := hwg k (by omega) 1 (by decide)
  have x2 : σ.1 (4 + 7 + k) 2 = σ'.1 65 (8 * k + 2) := hwg k (by omega) 2 (by decide)
  have x3 : σ.1 (4 + 7 + k) 3 = σ'.1 65 (8 * k + 3) := hwg k (by omega) 3 (by decide)
  have ef2 : ∃ f0, f0 ≤ P ∧ σ'.1 65 (8 * k + 3) = frF f0 := by
    rcases ef with ef | ⟨f, hf, ef⟩
    · exact ⟨0, Nat.zero_le _, ef⟩
    · exact ⟨f + 1, by omega, by rw [ef]; unfold frF; rw [if_neg (by omega), Nat.add_sub_cancel]⟩
  obtain ⟨f0, hf, e3⟩ := ef2
  exact ⟨f0, h0, t, B, ⟨hf, hh, ht⟩, ⟨x1.trans et, x2.trans eh, x3.trans e3⟩, ⟨et, eh, e3⟩, ⟨hP, fun f h hf hh => (hB f h hf hh).1, p0, fun f h hf hh => (hB f h hf hh).2.1⟩, ⟨hP, fun f h hf hh => (hB f h hf hh).1, p1, fun f h hf hh => (hB f h hf hh).2.2⟩⟩
theorem waysXL {t P k Y : Nat} {B W0 : Nat → Nat → Nat} {ρ : St} (b : BX 4 (ρ.1 3 1) P B ρ) (ht : t < 8) (h1 : mass P W0 = 1) (hS : Spt P W0) (hY : Y ≤ 8) (et : ρ.1 (4 + 7 + k) 1 = nI t) : ∀ (d i n : Nat) (σ : St), i + d = Y → d < n → AtX 0 t P B W0 i ρ σ → ∃ τ, fX8_ways_L73 (nI Y) (4 + 7 + k) n (if i = 0 then 0 else vN (cmh 0 t P B W0 (i - 1))) (nI i) σ = some ((if Y = 0 then 0 else vN (cmh 0 t P B W0 (Y - 1))), τ) := by
  intro d
  induction d with
  | zero =>
    intro i n σ hi hn a
    obtain ⟨n, rfl, -⟩ := su hn
    have e : i = Y := by omega
    subst e
    rw [fX8_ways_L73, if_pos (nI_le (a := i) (b := i) (by omega) (by omega))]
    exact ⟨σ, rfl⟩
  | succ d ih =>
    intro i n σ hi hn a
    obtain ⟨n, rfl, hn⟩ := su hn
    obtain ⟨σ1, s1, s2⟩ := nextX b ht (show 0 < 2 by decide) h1 hS (show i ≤ 8 by omega) (fun z => absurd rfl z) a
    rw [nI_0] at s1
    rw [fX8_ways_L73, if_neg (nI_ge (a := i) (b := Y) (by omega) (by omega)), a.1, et, s1, obs, nI_1]
    have := ih (i + 1) n σ1 (by omega) (by omega) s2
    rw [if_neg (by omega), Nat.add_sub_cancel] at this
    exact this
theorem layL {t P k : Nat} {B W0 : Nat → Nat → Nat} {ρ : St} (b : BM P B ρ) (hk : k < 8) (ht : t < 8) (h1 : mass P W0 = 1) (hS : Spt P W0) (et : ρ.1 65 (8 * k + 1) = nI t) : ∀ (d i n : Nat) (σ : St), i + d = 8 → d < n → AtM 0 t P B W0 i ρ σ → (∀ j, j < i → σ.2 69 (j + 1) = vN (cmh 0 t P B W0 j)) → ∃ τ, fX9_layWays_L7 (nI k) n (nI (i + 1)) σ = some τ ∧ τ.1 = ρ.1 ∧ τ.2 58 = σ.2 58 ∧ ∀ j, j < 8 → τ.2 69 (j + 1) = vN (cmh 0 t P B W0 j) := by
  intro d
  induction d with
  | zero =>
    intro i n σ hi hn a h69
    obtain ⟨n, rfl, -⟩ := su hn
    have e : i = 8 := by omega
    subst e
    rw [fX9_layWays_L7, if_pos (show (9 : Int32) ≤ nI (8 + 1) by decide)]
    exact ⟨σ, rfl, a.1, rfl, h69⟩
  | succ d ih =>
    intro i n σ hi hn a h69
    obtain ⟨n, rfl, hn⟩ := su hn
    obtain ⟨σ1, s1, s2, s3⟩ := nextM b ht (show 0 < 2 by decide) h1 hS (show i ≤ 8 by omega) (fun z => absurd rfl z) a
    rw [nI_0] at s1
    rw [fX9_layWays_L7, if_neg (show ¬ (9 : Int32) ≤ nI (i + 1) from nI_ge (a := i + 1) (b := 9) (by omega) (by decide)), ix8_1, grd_t (inbN (show 8 * k + 1 < 64 by omega) (by decide)), tcl (by omega), a.1, et, s1, obs, grd_t (inbN (show i + 1 < 9 by omega) (by decide)), tcl (by omega), bnd_eq, nI_1]
    obtain ⟨τ, f1, f2, f3, f4⟩ := ih (i + 1) n (setL σ1 69 (i + 1) (vN (cmh 0 t P B W0 i))) (by omega) (by omega) ⟨s2.1, fun f h hf hh => by
      rw [setL_oo (fun z => absurd z.1 (by decide))]
      exact s2.2 f h hf hh⟩ (fun j hj => by
      rw [setL_2]
      by_cases z : j = i
      · rw [z, if_pos ⟨rfl, rfl⟩]
      · rw [if_neg (fun y => z (by omega)), s3 69 _ (by decide) (by decide)]
        exact h69 j (by omega))
    exact ⟨τ, f1, f2, f3.trans (funext fun k => by rw [setL_oo (fun z => absurd z.1 (by decide)), s3 58 k (by decide) (by decide)]), f4⟩
theorem layM {t P k f0 h0 : Nat} {B : Nat → Nat → Nat} {ρ : St} (b : BM P B ρ) (hk : k < 8) (ht : t < 8) (hf : f0 ≤ P) (hh : h0 < P) (et : ρ.1 65 (8 * k + 1) = nI t) (e3 : ρ.1 65 (8 * k + 3) = frF f0) (e2 : ρ.1 65 (8 * k + 2) = nI h0) : ∃ τ, fX9_layWays (nI k) ρ = some τ ∧ τ.1 = ρ.1 ∧ τ.2 58 = ρ.2 58 ∧ ∀ j, j < 8 → τ.2 69 (j + 1) = vN (cmh 0 t P B (onW f0 h0) j) := by
  obtain ⟨σ, s1, s2, s3⟩ := startM (c := 0) (t := t) (B := B) hk hf hh b.1 ρ e3 e2
  obtain ⟨τ, f1, f2, f4, f3⟩ := layL b hk ht (mass_one hf hh) (spt_one hf hh) et 8 0 fu σ (by omega) (fu_gt (by omega)) s2 (fun j hj => absurd hj (Nat.not_lt_zero j))
  unfold fX9_layWays
  rw [s1, obs]
  rw [show nI (0 + 1) = (1 : Int32) from rfl] at f1
  rw [f1, obs]
  exact ⟨τ, rfl, f2, f4.trans s3, f3⟩
/-- ways -/
theorem s_ways (p q : Int32) {σ σ' : St} (h : Rel σ σ') : ∃ r τ τ', fX8_ways p q σ = some (r, τ) ∧ fX9_ways p q σ' = some (r, τ') ∧ Rel τ τ' := by
  obtain ⟨P, G, hR⟩ := h
  obtain ⟨h1, h2, h3, -⟩ := id hR
  obtain ⟨⟨hP, hG⟩, ⟨p0, p1⟩, ⟨g0, g1⟩, -⟩ := id h3
  have key : ∃ r τ τ', fX8_ways p q σ = some (r, τ) ∧ fX9_ways p q σ' = some (r, τ') := by
    unfold fX8_ways fX9_ways
    rw [show (1 : Int64) = (1 : Int32).toInt64 from rfl, show (8 : Int64) = (8 : Int32).toInt64 from rfl, wi2]
    rcases isG2 g0 g1 hG p with ⟨k, hk, rfl, a, b⟩ | ⟨-, a, b⟩
    · simp only [a, b, n10, if_false]
      simp only [grd_t (inbN (show k < 8 by omega) (by decide)), tcl (show k < 2 ^ 31 by omega)]
      rw [xlives h3 (show k < 8 by omega), mlives (by omega), obs]
      by_cases z : σ'.1 65 (8 * k + 6) = 0
      · simp only [z, if_true, n10, if_false]
        rcases within_c q (a := 1) (b := 8) (by decide) (by decide) with ⟨y, y1, y2, rfl, e⟩ | ⟨-, e⟩
        · replace e : fX8_within (nI y) (1 : Int32) (8 : Int32) = 1 := e
          simp only [e, n10, if_false]
          obtain ⟨f0, h0, t, B, ⟨hf, hh, ht⟩, ⟨x1, x2, x3⟩, ⟨m1, m2, m3⟩, bx, bm⟩ := wset hR hk
          obtain ⟨σ1, s1, s2⟩ := startX (c := 0) (t := t) (B := B) hf hh hP σ
          obtain ⟨τ, f1⟩ := waysXL bx (show t < 8 by omega) (mass_one hf hh) (spt_one hf hh) y2 x1 y 0 fu σ1 (by omega) (fu_gt (by omega)) s2
          obtain ⟨τ', l1, l2, -, l3⟩ := layM bm (show k < 8 by omega) (show t < 8 by omega) hf hh m1 m3 m2
          rw [if_pos rfl, if_neg (show ¬ y = 0 by omega), nI_0] at f1
          rw [x2, x3, s1, obs, f1, obs, l1, obs, grd_t (inbN (show y < 9 by omega) (by decide)), tcl (by omega)]
          have := l3 (y - 1) (by omega)
          rw [Nat.sub_add_cancel y1] at this
          rw [this]
          exact ⟨_, _, _, rfl, rfl⟩
        · replace e : fX8_within q (1 : Int32) (8 : Int32) = 0 := e
          simp only [e, if_true]
          exact ⟨_, _, _, rfl, rfl⟩
      · simp only [z, if_false, if_true]
        exact ⟨_, _, _, rfl, rfl⟩
    · simp only [a, b, if_true]
      exact ⟨_, _, _, rfl, rfl⟩
  obtain ⟨r, τ, τ', e1, e2⟩ := key
  exact ⟨r, τ, τ', e1, e2, P, G, hR.fr (frX8_ways p q σ (r, τ) e1) (frX9_ways p q σ' (r, τ') e2) (fun _ _ => List.not_mem_nil) (fun _ _ => List.not_mem_nil)⟩
