theorem byt (x : Int64) : (x &&& (255 : Int64)).toInt32 = nI (x.toUInt64.toNat % 256) := by
  apply Int32.toBitVec_inj.mp
  apply BitVec.eq_of_toNat_eq
  rw [Int64.toBitVec_toInt32, BitVec.signExtend_eq_setWidth_of_le _ (by decide), BitVec.toNat_setWidth, Int64.toBitVec_and, BitVec.toNat_and]
  show (x.toBitVec.toNat &&& (2 ^ 8 - 1)) % 2 ^ 32 = (x.toBitVec.toNat % 256) % 2 ^ 32
  rw [Nat.and_two_pow_sub_one_eq_mod]
theorem ush_c : ∀ s, s < 64 → ((nI s).toInt64.toUInt64 &&& Int64.toUInt64 63).toNat = s := by decide +kernel
theorem ushN (x : Int64) {s : Nat} (h : s < 64) : (ushrL x (nI s)).toUInt64.toNat = x.toUInt64.toNat >>> s := by
  unfold ushrL
  show (x.toUInt64 >>> ((nI s).toInt64.toUInt64 &&& Int64.toUInt64 63)).toNat = _
  rw [UInt64.toNat_shiftRight, ush_c s h, Nat.mod_eq_of_lt h]
/-- the byte of a number -/
def byN (c : Int64) (i : Nat) : Nat := (c.toUInt64.toNat >>> (8 * i)) % 256
theorem byN_lt (c : Int64) (i : Nat) : byN c i < 256 := Nat.mod_lt _ (by decide)
theorem byteN (c : Int64) {i : Nat} (h : i < 8) : fX5_byteOf c (nI i) = nI (byN c i) := by
  unfold fX5_byteOf
  rw [ix80, byt, ushN c (by omega)]
  rfl
theorem nI_z {k : Nat} (h : k < 2 ^ 31) : (nI k = (0 : Int32)) ↔ k = 0 := nI_inj h (b := 0) (by decide)
/-- a bad letter stays bad -/
theorem badM (c : Int64) (σ : St) : ∀ (d i n : Nat) (a : Int32) (v : Int64), i + d = 8 → d < n → ∃ q, fX9_letters_L11 c σ n a (0 : Int32) v (nI i) = some (q, 0) := by
  intro d
  induction d with
  | zero =>
    intro i n a v hi hn
    obtain ⟨n, rfl, -⟩ := su hn
    have e : i = 8 := by omega
    subst e
    rw [fX9_letters_L11, if_pos (show (8 : Int32) ≤ nI 8 by decide)]
    exact ⟨a, rfl⟩
  | succ d ih =>
    intro i n a v hi hn
    obtain ⟨n, rfl, hn⟩ := su hn
    rw [fX9_letters_L11, if_neg (show ¬ (8 : Int32) ≤ nI i from nI_ge (a := i) (b := 8) (by omega) (by decide))]
    simp only [bnd, if_true, nI_1]
    exact ih (i + 1) n _ _ (by omega) (by omega)
theorem lettersL (c : Int64) (σ σ' : St) : ∀ (d i n m j : Nat) (v3 : Int32) (v : Int64), i + d = 8 → d < n → d < m → j ≤ i → ((v3 = 0 ∧ j = i) ∨ (v3 = 1 ∧ j < i)) → (i < 8 → v.toUInt64.toNat = c.toUInt64.toNat >>> (8 * i)) → (fX5_lettersIn_L7 c σ n (nI j) v3 (nI i) = some (.inl (-1)) ∧ ∃ q, fX9_letters_L11 c σ' m (nI j) 1 v (nI i) = some (q, 0)) ∨ (∃ L, L ≤ 8 ∧ fX5_lettersIn_L7 c σ n (nI j) v3 (nI i) = some (.inr (nI L)) ∧ fX9_letters_L11 c σ' m (nI j) 1 v (nI i) = some (nI L, 1)) := by
  intro d
  induction d with
  | zero =>
    intro i n m j v3 v hi hn hm hj h3 hv
    obtain ⟨n, rfl, -⟩ := su hn
    obtain ⟨m, rfl, -⟩ := su hm
    have e : i = 8 := by omega
    subst e
    rw [fX5_lettersIn_L7, fX9_letters_L11, if_pos (show (8 : Int32) ≤ nI 8 by decide), if_pos (show (8 : Int32) ≤ nI 8 by decide)]
    exact Or.inr ⟨j, hj, rfl, rfl⟩
  | succ d ih =>
    intro i n m j v3 v hi hn hm hj h3 hv
    obtain ⟨n, rfl, hn⟩ := su hn
    obtain ⟨m, rfl, hm⟩ := su hm
    have i8 : i < 8 := by omega
    have hb := byN_lt c i
    have hs : i + 1 < 8 → (ushrL v (8 : Int32)).toUInt64.toNat = c.toUInt64.toNat >>> (8 * (i + 1)) := fun _ => by
      rw [show (8 : Int32) = nI 8 from rfl, ushN v (by omega), hv i8, ← Nat.shiftRight_add]
      rfl
    have ev : (v &&& (255 : Int64)).toInt32 = nI (byN c i) := by rw [byt, hv i8]; rfl
    rw [fX5_lettersIn_L7, fX9_letters_L11, if_neg (show ¬ (8 : Int32) ≤ nI i from nI_ge (a := i) (b := 8) (by omega) (by decide)), if_neg (show ¬ (8 : Int32) ≤ nI i from nI_ge (a := i) (b := 8) (by omega) (by decide)), byteN c i8, ev]
    simp only [bnd, nI_1, n10, if_false]
    by_cases t : (126 : Int32) < nI (byN c i)
    · rw [if_pos t, if_pos t]
      exact Or.inl ⟨rfl, badM c σ' d (i + 1) m _ _ (by omega) (by omega)⟩
    · rw [if_neg t, if_neg t]
      by_cases z : byN c i = 0
      · have z1 : nI (byN c i) = (0 : Int32) := (nI_z (by omega)).mpr z
        rw [z1]
        simp only [if_true, show ((0 : Int32) ≤ 0) = True from eq_true (by decide), show nI j + (0 : Int32) = nI j from by simp]
        have key := ih (i + 1) n m j 1 (ushrL v (8 : Int32)) (by omega) (by omega) (by omega) (by omega) (Or.inr ⟨rfl, by omega⟩) hs
        by_cases w : v3 = 0
        · rw [if_pos w]; exact key
        · rw [if_neg w]; exact key
      · have z1 : ¬ nI (byN c i) = (0 : Int32) := fun q => z ((nI_z (by omega)).mp q)
        have z2 : ¬ nI (byN c i) ≤ (0 : Int32) := nI_ge (a := 0) (b := byN c i) (by omega) (by omega)
        simp only [z1, z2, if_false]
        rcases h3 with ⟨rfl, rfl⟩ | ⟨rfl, hji⟩
        · simp only [if_true, nI_1]
          exact ih (j + 1) n m (j + 1) 0 (ushrL v (8 : Int32)) (by omega) (by omega) (by omega) (by omega) (Or.inl ⟨rfl, rfl⟩) hs
        · simp only [n10, if_false]
          rw [if_neg (fun q => by have := (nI_inj (by omega) (by omega)).mp q; omega)]
          exact Or.inl ⟨trivial, badM c σ' d (i + 1) m _ _ (by omega) (by omega)⟩
theorem appX (c : Int64) {S L : Nat} (hL : L ≤ 8) (hS : S + L ≤ 16) : ∀ (d i n : Nat) (σ : St), i + d = L → d < n → σ.1 1 1 = nI (S + i) → ∃ τ, fX5_append_L3 c (nI L) n (nI i) σ = some τ ∧ τ.1 1 1 = nI (S + L) ∧ ∀ a b, ¬ (a = 1 ∧ b = 1) → τ.1 a b = if a = 2 ∧ S + i ≤ b ∧ b < S + L then nI (byN c (b - S)) else σ.1 a b := by
  intro d
  induction d with
  | zero =>
    intro i n σ hi hn hs
    obtain ⟨n, rfl, -⟩ := su hn
    have e : i = L := by omega
    subst e
    rw [fX5_append_L3, if_pos (nI_le (a := i) (b := i) (by omega) (by omega))]
    exact ⟨σ, rfl, hs, fun a b _ => by rw [if_neg (by omega)]⟩
  | succ d ih =>
    intro i n σ hi hn hs
    obtain ⟨n, rfl, hn⟩ := su hn
    rw [fX5_append_L3, if_neg (nI_ge (a := i) (b := L) (by omega) (by omega)), hs, if_neg (show ¬ (16 : Int32) ≤ nI (S + i) from nI_ge (a := S + i) (b := 16) (by omega) (by decide)), grd_t (inbN (show S + i < 16 by omega) (by decide)), tcl (by omega), byteN c (show i < 8 by omega)]
    simp only [bnd, nI_1]
    obtain ⟨τ, e1, e2, e3⟩ := ih (i + 1) n (setI (setI σ 2 (S + i) (nI (byN c i))) 1 1 ((setI σ 2 (S + i) (nI (byN c i))).1 1 1 + 1)) (by omega) (by omega) (by rw [setI_s, setI_oo (by omega), hs, nI_1]; rfl)
    refine ⟨τ, e1, e2, fun a b h => ?_⟩
    rw [e3 a b h, setI_oo h, setI_1]
    by_cases q : a = 2 ∧ b = S + i
    · obtain ⟨rfl, rfl⟩ := q
      rw [if_neg (by omega), if_pos ⟨rfl, rfl⟩, if_pos (by omega), show S + i - S = i by omega]
    · rw [if_neg q]
      by_cases t : a = 2 ∧ S + (i + 1) ≤ b ∧ b < S + L
      · rw [if_pos t, if_pos (by omega)]
      · rw [if_neg t, if_neg (by omega)]
theorem appM (c : Int64) {S L : Nat} (hL : L ≤ 8) (hS : S + L ≤ 16) : ∀ (d i n : Nat) (σ : St), i + d = L → d < n → σ.1 58 1 = nI (S + i) → ∃ τ, fX9_letters_L108 c (nI L) n (nI i) σ = some τ ∧ τ.1 58 1 = nI (S + L) ∧ ∀ a b, ¬ (a = 58 ∧ b = 1) → τ.1 a b = if a = 59 ∧ S + i ≤ b ∧ b < S + L then nI (byN c (b - S)) else σ.1 a b := by
  intro d
  induction d with
  | zero =>
    intro i n σ hi hn hs
    obtain ⟨n, rfl, -⟩ := su hn
    have e : i = L := by omega
    subst e
    rw [fX9_letters_L108, if_pos (nI_le (a := i) (b := i) (by omega) (by omega))]
    exact ⟨σ, rfl, hs, fun a b _ => by rw [if_neg (by omega)]⟩
  | succ d ih =>
    intro i n σ hi hn hs
    obtain ⟨n, rfl, hn⟩ := su hn
    have eb : (ushrL c ((8 : Int32) * nI i) &&& (255 : Int64)).toInt32 = nI (byN c i) := byteN c (show i < 8 by omega)
    rw [fX9_letters_L108, if_neg (nI_ge (a := i) (b := L) (by omega) (by omega)), hs, grd_t (inbN (show S + i < 16 by omega) (by decide)), tcl (by omega), eb]
    simp only [bnd, nI_1]
    obtain ⟨τ, e1, e2, e3⟩ := ih (i + 1) n (setI (setI σ 59 (S + i) (nI (byN c i))) 58 1 ((setI σ 59 (S + i) (nI (byN c i))).1 58 1 + 1)) (by omega) (by omega) (by rw [setI_s, setI_oo (by omega), hs, nI_1]; rfl)
    refine ⟨τ, e1, e2, fun a b h => ?_⟩
    rw [e3 a b h, setI_oo h, setI_1]
    by_cases q : a = 59 ∧ b = S + i
    · obtain ⟨rfl, rfl⟩ := q
      rw [if_neg (by omega), if_pos ⟨rfl, rfl⟩, if_pos (by omega), show S + i - S = i by omega]
    · rw [if_neg q]
      by_cases t : a = 59 ∧ S + (i + 1) ≤ b ∧ b < S + L
      · rw [if_pos t, if_pos (by omega)]
      · rw [if_neg t, if_neg (by omega)]
/-- letters -/
theorem s_letters (c : Int64) {σ σ' : St} (h : Rel σ σ') : ∃ r τ τ', fX8_letters c σ = some (r, τ) ∧ fX9_letters c σ' = some (r, τ') ∧ Rel τ τ' := by
  obtain ⟨P, G, hR⟩ := h
  obtain ⟨h1, ⟨S, hS, s0, s1, hp⟩, h3, h4, h5, h6, h7, h8⟩ := id hR
  unfold fX8_letters fX9_letters fX5_lettersIn
  rcases lettersL c σ σ' 8 0 fu fu 0 0 c (by omega) (fu_gt (by omega)) (fu_gt (by omega)) (by omega) (Or.inl ⟨rfl, rfl⟩) (fun _ => rfl) with ⟨x, q, m⟩ | ⟨L, hL, x, m⟩
  · rw [show nI 0 = (0 : Int32) from rfl] at x m
    rw [x, m]
    exact ⟨_, _, _, rfl, rfl, P, G, hR⟩
  · rw [show nI 0 = (0 : Int32) from rfl] at x m
    rw [x, m]
    simp only [Option.bind_some, Sum.elim_inr, n10, if_false]
    rw [if_neg (nI_ne_m1 (show L < 2 ^ 31 by omega)), s0, s1, nI_add]
    by_cases t : S + L ≤ 16
    · rw [if_pos (show nI (S + L) ≤ (16 : Int32) from nI_le (a := S + L) (b := 16) t (by decide)), if_pos (show nI (S + L) ≤ (16 : Int32) from nI_le (a := S + L) (b := 16) t (by decide))]
      obtain ⟨τ, e1, e2, e3⟩ := appX c hL t L 0 fu σ (by omega) (fu_gt (by omega)) s0
      obtain ⟨τ', f1, f2, f3⟩ := appM c hL t L 0 fu σ' (by omega) (fu_gt (by omega)) s1
      unfold fX5_append
      rw [show (0 : Int32) = nI 0 from rfl, e1, f1]
      simp only [Option.bind_some]
      refine ⟨nI (S + L), τ, τ', by rw [e2], by rw [f2], P, G, ?_⟩
      have ex : ∀ a, a ≠ 1 → a ≠ 2 → τ.1 a = σ.1 a := fun a h1 h2 => funext fun b => by rw [e3 a b (by omega), if_neg (by omega)]
      have em : ∀ a, a ≠ 58 → a ≠ 59 → τ'.1 a = σ'.1 a := fun a h1 h2 => funext fun b => by rw [f3 a b (by omega), if_neg (by omega)]
      have es : ∀ k, k ≠ 1 → τ'.1 58 k = σ'.1 58 k := fun k hk => by rw [f3 58 k (by omega), if_neg (by omega)]
      refine ⟨h1.cong (ex 3 (by omega) (by omega)) (fun k _ _ => es k (by omega)), ⟨S + L, t, e2, f2, fun i hi => ?_⟩, h3.cong (fun a _ _ => ex a (by omega) (by omega)) (es _ (by omega)) (es _ (by omega)) (es _ (by omega)) (es _ (by omega)) (fun a _ _ => em a (by omega) (by omega)), fun i a b => ?_, h5.cong (by rw [ex 0 (by omega) (by omega)]) (fun a _ _ => ex a (by omega) (by omega)) (ex 5 (by omega) (by omega)) (fun k _ _ => es k (by omega)) (fun a _ _ => em a (by omega) (by omega)), h6.cong (fun a _ _ => ex a (by omega) (by omega)) (es _ (by omega)) (es _ (by omega)) (em 76 (by omega) (by omega)), ?_⟩
      · rw [e3 2 i (by omega), f3 59 i (by omega)]
        by_cases q : S + 0 ≤ i ∧ i < S + L
        · rw [if_pos ⟨rfl, q⟩, if_pos ⟨rfl, q⟩]
        · rw [if_neg (fun z => q z.2), if_neg (fun z => q z.2)]; exact hp i hi
      · rw [ex 5 (by omega) (by omega)]; exact h4 i a b
      · rw [ex 0 (by omega) (by omega), es 6 (by omega), ex 4 (by omega) (by omega), es 19 (by omega)]; exact ⟨h7, h8⟩
    · rw [if_neg (show ¬ nI (S + L) ≤ (16 : Int32) from nI_ge (a := 16) (b := S + L) (by omega) (by omega)), if_neg (show ¬ nI (S + L) ≤ (16 : Int32) from nI_ge (a := 16) (b := S + L) (by omega) (by omega))]
      exact ⟨_, _, _, rfl, rfl, P, G, hR⟩
