/-! THE TEXT, letter by letter -/
theorem cN {c : Nat} (hc : c < 2 ^ 31) : (nI c).toInt64.toUInt64.toNat = c := by
  rw [vN_of hc]
  show (Int64.ofNat c).toUInt64.toNat = c
  show c % 2 ^ 64 = c
  exact Nat.mod_eq_of_lt (by omega)
theorem byc0 {c : Nat} (hc : c < 256) : byN (nI c).toInt64 0 = c := by
  unfold byN
  rw [cN (by omega)]
  show (c >>> 0) % 256 = c
  rw [Nat.shiftRight_zero]
  exact Nat.mod_eq_of_lt hc
theorem byc1 {c i : Nat} (hc : c < 256) (hi : 1 ≤ i) : byN (nI c).toInt64 i = 0 := by
  unfold byN
  rw [cN (by omega), Nat.shiftRight_eq_div_pow]
  have h1 : 2 ^ 8 ≤ 2 ^ (8 * i) := Nat.pow_le_pow_right (by decide) (by omega)
  have h2 : c / 2 ^ (8 * i) = 0 := Nat.div_eq_of_lt (Nat.lt_of_lt_of_le hc h1)
  rw [h2]
theorem tailL {c : Nat} (hc : c < 256) (σ : St) : ∀ (d i n : Nat) (v3 : Int32), i + d = 8 → 1 ≤ i → d < n → (v3 = 0 ∨ v3 = 1) → fX5_lettersIn_L7 (nI c).toInt64 σ n (nI 1) v3 (nI i) = some (.inr (nI 1)) := by
  intro d
  induction d with
  | zero =>
    intro i n v3 hi h1 hn hv
    obtain ⟨n, rfl, -⟩ := su hn
    have e : i = 8 := by omega
    subst e
    rw [fX5_lettersIn_L7, if_pos (show (8 : Int32) ≤ nI 8 by decide)]
  | succ d ih =>
    intro i n v3 hi h1 hn hv
    obtain ⟨n, rfl, hn⟩ := su hn
    rw [fX5_lettersIn_L7, if_neg (show ¬ (8 : Int32) ≤ nI i from nI_ge (a := i) (b := 8) (by omega) (by decide)), byteN _ (by omega), byc1 hc h1, if_neg (show ¬ (126 : Int32) < nI 0 by decide)]
    have next := ih (i + 1) n 1 (by omega) (by omega) (by omega) (Or.inr rfl)
    rw [nI_1]
    rcases hv with rfl | rfl
    · rw [if_pos rfl, if_pos (show nI 0 = (0 : Int32) from rfl)]; exact next
    · rw [if_neg (by decide), if_pos (show nI 0 = (0 : Int32) from rfl), if_pos (show nI 0 = (0 : Int32) from rfl)]; exact next
theorem inT {c : Nat} (h1 : 1 ≤ c) (hc : c ≤ 126) (σ : St) : fX5_lettersIn (nI c).toInt64 σ = some (nI 1) := by
  unfold fX5_lettersIn
  have e : fX5_lettersIn_L7 (nI c).toInt64 σ fu (0 : Int32) (0 : Int32) (0 : Int32) = some (.inr (nI 1)) := by
    rw [show fu = 4999 + 1 from rfl, fX5_lettersIn_L7, if_neg (by decide), show (0 : Int32) = nI 0 from rfl, byteN _ (by decide), byc0 (by omega), if_neg (show ¬ (126 : Int32) < nI c from fun q => by
      rw [show (126 : Int32) = nI 126 from rfl, nI_ltI (by decide) (by omega)] at q; omega), if_pos (show nI 0 = nI 0 from rfl), if_neg (fun q => by have := (nI_inj (a := c) (b := 0) (by omega) (by decide)).mp q; omega), nk1]
    exact tailL (by omega) σ 7 1 4999 (nI 0) (by omega) (by omega) (by omega) (Or.inl rfl)
  rw [e]
  rfl
theorem letter1 {c S : Nat} (h1 : 1 ≤ c) (hc : c ≤ 126) {σ : St} (hS : S < 16) (e : σ.1 1 1 = nI S) : ∃ τ, fX8_letters (nI c).toInt64 σ = some (nI (S + 1), τ) ∧ τ.1 1 1 = nI (S + 1) ∧ τ.1 2 S = nI c ∧ (∀ a b, ¬ (a = 1 ∧ b = 1) → ¬ (a = 2 ∧ b = S) → τ.1 a b = σ.1 a b) := by
  obtain ⟨τ, a1, a2, a3⟩ := appX (nI c).toInt64 (S := S) (L := 1) (by decide) (by omega) 1 0 fu σ (by omega) (fu_gt (by omega)) e
  refine ⟨τ, ?_, a2, ?_, fun a b n1 n2 => ?_⟩
  · unfold fX8_letters
    rw [inT h1 hc]
    simp only [obs]
    rw [if_neg (by decide), e, nI_add, if_pos (show nI (S + 1) ≤ (16 : Int32) from nI_le (a := S + 1) (b := 16) (by omega) (by decide))]
    unfold fX5_append
    rw [show fX5_append_L3 (nI c).toInt64 (nI 1) fu (0 : Int32) σ = some τ from a1]
    simp only [obs]
    rw [a2]
  · rw [a3 2 S (by omega), if_pos ⟨rfl, by omega, by omega⟩, Nat.sub_self, byc0 (by omega)]
  · rw [a3 a b n1, if_neg (fun q => n2 ⟨q.1, by omega⟩)]
theorem writeL {xs : List Nat} (hl : xs.length ≤ 16) (hx : ∀ i, i < xs.length → 1 ≤ xs.getD i 0 ∧ xs.getD i 0 ≤ 126) : ∀ (d i n : Nat) (σ : St), i + d = xs.length → d < n → Pg 59 xs σ → σ.1 1 1 = nI i → (∀ j, j < i → σ.1 2 j = nI (xs.getD j 0)) → ∃ τ, fL_write_L2 59 16 (nI xs.length) n (nI i) σ = some (.inr τ) ∧ τ.1 1 1 = nI xs.length ∧ Pg 2 xs τ ∧ (∀ a b, a ≠ 1 → a ≠ 2 → τ.1 a b = σ.1 a b) := by
  intro d
  induction d with
  | zero =>
    intro i n σ hi hn h59 h1 h2
    obtain ⟨n, rfl, -⟩ := su hn
    have e : i = xs.length := by omega
    rw [fL_write_L2, e, if_pos (nI_le (a := xs.length) (b := xs.length) (by omega) (by omega))]
    exact ⟨σ, rfl, by rw [h1, e], fun j hj => h2 j (by omega), fun _ _ _ _ => rfl⟩
  | succ d ih =>
    intro i n σ hi hn h59 h1 h2
    obtain ⟨n, rfl, hn⟩ := su hn
    obtain ⟨c1, c2⟩ := hx i (by omega)
    rw [fL_write_L2, if_neg (nI_ge (a := i) (b := xs.length) (by omega) (by omega)), grd_t (inbN (show i < 16 by omega) (by decide)), tcl (by omega), h59 i (by omega)]
    obtain ⟨τ, e1, e2, e3, e4⟩ := letter1 c1 c2 (σ := σ) (S := i) (by omega) h1
    rw [e1]
    simp only [obs]
    rw [nI_1, if_pos rfl]
    obtain ⟨τ', f1, f2, f3, f4⟩ := ih (i + 1) n τ (by omega) (by omega) (fun j hj => by rw [e4 59 j (by omega) (by omega)]; exact h59 j hj) e2 (fun j hj => by
      by_cases z : j = i
      · subst z; exact e3
      · rw [e4 2 j (by omega) (by omega)]; exact h2 j (by omega))
    exact ⟨τ', f1, f2, f3, fun a b n1 n2 => by rw [f4 a b n1 n2, e4 a b (by omega) (by omega)]⟩
/-- fault: all of it is good -/
theorem autS_cong {f g : Nat → Int32} {n : Nat} (h : ∀ i, i < n → f i = g i) : ∀ i, i ≤ n → autS f i = autS g i := by
  intro i
  induction i with
  | zero => intro _; rfl
  | succ i ih => intro hi; rw [autS, autS, ih (by omega), h i (by omega)]
theorem faultL {σ : St} {S : Nat} (hS : S ≤ 16) (s0 : σ.1 1 1 = nI S) (ok : ∀ i, i ≤ S → autS (σ.1 2) i ≠ -1) : ∀ (d i n : Nat), i + d = S → d < n → fX5_firstFault_L4 σ n (autS (σ.1 2) i) (nI i) = some (.inr ()) := by
  intro d
  induction d with
  | zero =>
    intro i n hi hn
    obtain ⟨n, rfl, -⟩ := su hn
    have e : i = S := by omega
    subst e
    rw [fX5_firstFault_L4, s0, if_pos (nI_le (a := i) (b := i) (by omega) (by omega))]
  | succ d ih =>
    intro i n hi hn
    obtain ⟨n, rfl, hn⟩ := su hn
    rw [fX5_firstFault_L4, s0, if_neg (nI_ge (a := i) (b := S) (by omega) (by omega)), if_neg (show ¬ (16 : Int32) ≤ nI i from nI_ge (a := i) (b := 16) (by omega) (by decide)), grd_t (inbN (show i < 16 by omega) (by decide)), tcl (by omega)]
    simp only [bnd_eq]
    have e : fX5_behind (autS (σ.1 2) i) (σ.1 2 i) = autS (σ.1 2) (i + 1) := by rw [autS, if_neg (ok i (by omega))]
    rw [e, if_neg (ok (i + 1) (by omega)), nI_1]
    exact ih (i + 1) n (by omega) (by omega)
/-- what reading the law reads: the letter ahead, keep, back, one, most -/
def rdS (f : Nat → Int32) : Nat → Int32 × Int32 × Int32 × Int32 × Int32
  | 0 => (0, 1, 0, 0, 3)
  | i + 1 => if (rdS f i).1 = 107 then (f i, f i - 48, (rdS f i).2.2.1, (rdS f i).2.2.2.1, (rdS f i).2.2.2.2) else if (rdS f i).1 = 119 then (f i, (rdS f i).2.1, (rdS f i).2.2.1, (rdS f i).2.2.2.1, f i - 48) else if f i = 98 then (f i, (rdS f i).2.1, 1, (rdS f i).2.2.2.1, (rdS f i).2.2.2.2) else if f i = 111 then (f i, (rdS f i).2.1, (rdS f i).2.2.1, 1, (rdS f i).2.2.2.2) else (f i, (rdS f i).2)
theorem rdS_cong {f g : Nat → Int32} {n : Nat} (h : ∀ i, i < n → f i = g i) : ∀ i, i ≤ n → rdS f i = rdS g i := by
  intro i
  induction i with
  | zero => intro _; rfl
  | succ i ih => intro hi; rw [rdS, rdS, ih (by omega), h i (by omega)]
def At3 (σ : St) (q : Int32 × Int32 × Int32 × Int32 × Int32) : Prop := σ.1 3 0 = q.2.1 ∧ σ.1 3 1 = q.2.2.1 ∧ σ.1 3 2 = q.2.2.2.1 ∧ σ.1 3 3 = q.2.2.2.2
theorem readL {f : Nat → Int32} {S : Nat} (hS : S ≤ 16) : ∀ (d i n : Nat) (σ : St), i + d = S → d < n → σ.1 1 1 = nI S → (∀ j, σ.1 2 j = f j) → At3 σ (rdS f i) → ∃ τ, fX4_readFrom_L24 n (rdS f i).1 (nI i) σ = some τ ∧ At3 τ (rdS f S) ∧ (∀ a b, a ≠ 3 → τ.1 a b = σ.1 a b) := by
  intro d
  induction d with
  | zero =>
    intro i n σ hi hn s0 h2 h3
    obtain ⟨n, rfl, -⟩ := su hn
    have e : i = S := by omega
    subst e
    rw [fX4_readFrom_L24, s0, if_pos (nI_le (a := i) (b := i) (by omega) (by omega))]
    exact ⟨σ, rfl, h3, fun _ _ _ => rfl⟩
  | succ d ih =>
    intro i n σ hi hn s0 h2 h3
    obtain ⟨n, rfl, hn⟩ := su hn
    obtain ⟨k0, k1, k2, k3⟩ := h3
    rw [fX4_readFrom_L24, s0, if_neg (nI_ge (a := i) (b := S) (by omega) (by omega)), if_neg (show ¬ (16 : Int32) ≤ nI i from nI_ge (a := i) (b := 16) (by omega) (by decide)), grd_t (inbN (show i < 16 by omega) (by decide)), tcl (by omega), h2 i]
    simp only [bnd_eq, nI_1]
    have key : ∀ σ1 : St, At3 σ1 (rdS f (i + 1)) → (∀ a b, a ≠ 3 → σ1.1 a b = σ.1 a b) → (rdS f (i + 1)).1 = f i → ∃ τ, fX4_readFrom_L24 n (f i) (nI (i + 1)) σ1 = some τ ∧ At3 τ (rdS f S) ∧ (∀ a b, a ≠ 3 → τ.1 a b = σ.1 a b) := fun σ1 g1 g2 g3 => by
      obtain ⟨τ, e1, e2, e3⟩ := ih (i + 1) n σ1 (by omega) (by omega) (by rw [g2 1 1 (by omega)]; exact s0) (fun j => by rw [g2 2 j (by omega)]; exact h2 j) g1
      rw [g3] at e1
      exact ⟨τ, e1, e2, fun a b hab => by rw [e3 a b hab, g2 a b hab]⟩
    by_cases c1 : (rdS f i).1 = 107
    · rw [if_pos c1]
      simp only [obs]
      have er : rdS f (i + 1) = (f i, f i - 48, (rdS f i).2.2.1, (rdS f i).2.2.2.1, (rdS f i).2.2.2.2) := by rw [rdS, if_pos c1]
      exact key _ (by rw [er]; exact ⟨setI_s, by rw [setI_oo (by omega)]; exact k1, by rw [setI_oo (by omega)]; exact k2, by rw [setI_oo (by omega)]; exact k3⟩) (fun a b hab => by rw [setI_oo (by omega)]) (by rw [er])
    · rw [if_neg c1]
      by_cases c2 : (rdS f i).1 = 119
      · rw [if_pos c2]
        simp only [obs]
        have er : rdS f (i + 1) = (f i, (rdS f i).2.1, (rdS f i).2.2.1, (rdS f i).2.2.2.1, f i - 48) := by rw [rdS, if_neg c1, if_pos c2]
        exact key _ (by rw [er]; exact ⟨by rw [setI_oo (by omega)]; exact k0, by rw [setI_oo (by omega)]; exact k1, by rw [setI_oo (by omega)]; exact k2, setI_s⟩) (fun a b hab => by rw [setI_oo (by omega)]) (by rw [er])
      · rw [if_neg c2]
        by_cases c3 : f i = 98
        · rw [if_pos c3]
          simp only [obs]
          have er : rdS f (i + 1) = (f i, (rdS f i).2.1, 1, (rdS f i).2.2.2.1, (rdS f i).2.2.2.2) := by rw [rdS, if_neg c1, if_neg c2, if_pos c3]
          exact key _ (by rw [er]; exact ⟨by rw [setI_oo (by omega)]; exact k0, setI_s, by rw [setI_oo (by omega)]; exact k2, by rw [setI_oo (by omega)]; exact k3⟩) (fun a b hab => by rw [setI_oo (by omega)]) (by rw [er])
        · rw [if_neg c3]
          by_cases c4 : f i = 111
          · rw [if_pos c4]
            simp only [obs]
            have er : rdS f (i + 1) = (f i, (rdS f i).2.1, (rdS f i).2.2.1, 1, (rdS f i).2.2.2.2) := by rw [rdS, if_neg c1, if_neg c2, if_neg c3, if_pos c4]
            exact key _ (by rw [er]; exact ⟨by rw [setI_oo (by omega)]; exact k0, by rw [setI_oo (by omega)]; exact k1, setI_s, by rw [setI_oo (by omega)]; exact k3⟩) (fun a b hab => by rw [setI_oo (by omega)]) (by rw [er])
          · rw [if_neg c4]
            simp only [obs]
            have er : rdS f (i + 1) = (f i, (rdS f i).2) := by rw [rdS, if_neg c1, if_neg c2, if_neg c3, if_neg c4]
            exact key σ (by rw [er]; exact ⟨k0, k1, k2, k3⟩) (fun _ _ _ => rfl) (by rw [er])
