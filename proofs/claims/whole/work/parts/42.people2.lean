theorem bt_and : ∀ b, b < 256 → ∀ k, k < 8 → ((nI b &&& fX8_bit (nI k) = 0) ↔ b.testBit k = false) := by decide +kernel
theorem bt_shr : ∀ b, b < 256 → ∀ k, k < 8 → (nI b >>> (nI k &&& 31)) &&& (1 : Int32) = if b.testBit k = true then (1 : Int32) else (0 : Int32) := by decide +kernel
theorem bt_or : ∀ b, b < 256 → ∀ k, k < 8 → nI b ||| fX8_bit (nI k) = nI (b ||| 2 ^ k) := by decide +kernel
theorem bt_clr : ∀ b, b < 256 → ∀ k, k < 8 → nI b &&& (fX8_bit (nI k) ^^^ (-1 : Int32)) = nI (b &&& (255 - 2 ^ k)) := by decide +kernel
theorem bt_m1 : ∀ b, b < 256 → ∀ k, k < 8 → (nI b &&& (((1 : Int32) <<< (nI k &&& 31)) ^^^ (-1 : Int32))) ||| ((1 : Int32) <<< (nI k &&& 31)) = nI (b ||| 2 ^ k) := by decide +kernel
theorem bt_m0 : ∀ b, b < 256 → ∀ k, k < 8 → (nI b &&& (((1 : Int32) <<< (nI k &&& 31)) ^^^ (-1 : Int32))) ||| (0 : Int32) = nI (b &&& (255 - 2 ^ k)) := by decide +kernel
theorem p2_256 {P b : Nat} (hP : P ≤ 8) (h : b < 2 ^ P) : b < 256 := Nat.lt_of_lt_of_le h (Nat.le_trans (Nat.pow_le_pow_right (by decide) hP) (by decide))
theorem or_lt {P b k : Nat} (h : b < 2 ^ P) (hk : k < P) : b ||| 2 ^ k < 2 ^ P := Nat.or_lt_two_pow h (Nat.pow_lt_pow_right (by decide) hk)
theorem clr_lt {P b k : Nat} (h : b < 2 ^ P) : b &&& (255 - 2 ^ k) < 2 ^ P := Nat.lt_of_le_of_lt Nat.and_le_left h
/-- know -/
theorem s_know (p q b : Int32) {σ σ' : St} (h : Rel σ σ') : ∃ r τ τ', fX8_know p q b σ = some (r, τ) ∧ fX9_know p q b σ' = some (r, τ') ∧ Rel τ τ' := by
  obtain ⟨P, G, hR⟩ := h
  obtain ⟨h1, h2, h3, h4, h5, h6, h7⟩ := id hR
  obtain ⟨⟨hP, hG⟩, ⟨p0, p1⟩, ⟨g0, g1⟩, hy, hwh, hwk, hwf, hwl, hwd, hwg, v1, v2, v3, v4, v5, v6⟩ := id h3
  unfold fX8_know fX9_know
  rcases two2 p0 p1 hP p q with ⟨j, k, hj, hk, hjk, rfl, rfl, a, c⟩ | ⟨a, c⟩
  · simp only [a, c, n10, if_false]
    obtain ⟨bj, hbj, ej⟩ := v1 j (by omega)
    obtain ⟨bk, hbk, ek⟩ := v1 k (by omega)
    have xj : σ.1 6 j = nI bj := (hwk j (by omega)).trans ej
    have xk : σ.1 6 k = nI bk := (hwk k (by omega)).trans ek
    have hbj8 := p2_256 hP hbj
    have hbk8 := p2_256 hP hbk
    unfold fX7_knows fX7_setKnown
    simp (disch := omega) only [grd_t (inbN (show j < 8 by omega) (by decide)), grd_t (inbN (show k < 8 by omega) (by decide)), tcl, Nat.reduceAdd, xj, ej, bnd, Option.bind_some]
    rw [bt_shr bj hbj8 k (by omega)]
    have eq1 : (if nI bj &&& fX8_bit (nI k) = 0 then some (0 : Int32) else some (1 : Int32)) = some (if bj.testBit k = true then (1 : Int32) else (0 : Int32)) := by
      by_cases t : bj.testBit k = true
      · rw [if_pos t, if_neg (fun z => by rw [(bt_and bj hbj8 k (by omega)).mp z] at t; cases t)]
      · rw [if_neg t, if_pos ((bt_and bj hbj8 k (by omega)).mpr (by simpa using t))]
    rw [eq1]
    simp only [Option.bind_some]
    have eq2 : (if (if bj.testBit k = true then (1 : Int32) else (0 : Int32)) = 0 then (0 : Int32) else (1 : Int32)) = if bj.testBit k = true then (1 : Int32) else (0 : Int32) := by
      by_cases t : bj.testBit k = true
      · simp [t]
      · simp [t]
    rw [eq2]
    obtain ⟨cj, hcj, ecx, ecm⟩ : ∃ cj, cj < 2 ^ P ∧ (if b = 0 then some (nI bj &&& (fX8_bit (nI k) ^^^ (-1 : Int32))) else some (nI bj ||| fX8_bit (nI k))) = some (nI cj) ∧ (nI bj &&& (((1 : Int32) <<< (nI k &&& 31)) ^^^ (-1 : Int32))) ||| (if b = 0 then (0 : Int32) else (1 : Int32) <<< (nI k &&& 31)) = nI cj := by
      by_cases t : b = 0
      · exact ⟨_, clr_lt hbj, by rw [if_pos t, bt_clr bj hbj8 k (by omega)], by rw [if_pos t, bt_m0 bj hbj8 k (by omega)]⟩
      · exact ⟨_, or_lt hbj hk, by rw [if_neg t, bt_or bj hbj8 k (by omega)], by rw [if_neg t, bt_m1 bj hbj8 k (by omega)]⟩
    obtain ⟨ck, hck, fcx, fcm⟩ : ∃ ck, ck < 2 ^ P ∧ (if b = 0 then some (nI bk &&& (fX8_bit (nI j) ^^^ (-1 : Int32))) else some (nI bk ||| fX8_bit (nI j))) = some (nI ck) ∧ (nI bk &&& (((1 : Int32) <<< (nI j &&& 31)) ^^^ (-1 : Int32))) ||| (if b = 0 then (0 : Int32) else (1 : Int32) <<< (nI j &&& 31)) = nI ck := by
      by_cases t : b = 0
      · exact ⟨_, clr_lt hbk, by rw [if_pos t, bt_clr bk hbk8 j (by omega)], by rw [if_pos t, bt_m0 bk hbk8 j (by omega)]⟩
      · exact ⟨_, or_lt hbk hj, by rw [if_neg t, bt_or bk hbk8 j (by omega)], by rw [if_neg t, bt_m1 bk hbk8 j (by omega)]⟩
    rw [ecx, ecm]
    simp (disch := omega) only [Option.bind_some, setI_oo, xk, ek]
    rw [fcx, fcm]
    simp only [Option.bind_some]
    refine ⟨_, _, _, rfl, rfl, P, G, ?_⟩
    unfold RR LR PR WR IR BR
    simp (disch := omega) only [setI_o, setI_s, setI_oo, Nat.reduceAdd]
    refine ⟨h1, h2, ⟨⟨hP, hG⟩, ⟨p0, p1⟩, ⟨g0, g1⟩, hy, hwh, ?_, hwf, hwl, hwd, ?_, ?_, v2, v3, v4, v5, v6⟩, h4, h5, h6, h7⟩
    · intro i hi
      by_cases e1 : i = k
      · subst e1; rw [setI_s, setI_s]
      · simp (disch := omega) only [setI_oo]
        by_cases e2 : i = j
        · subst e2; rw [setI_s, setI_s]
        · simp (disch := omega) only [setI_oo]; exact hwk i hi
    · intro g hg k hk
      simp (disch := omega) only [setI_o]
      exact hwg g hg k hk
    · intro i hi
      by_cases e1 : i = k
      · subst e1; rw [setI_s]; exact ⟨_, hck, rfl⟩
      · rw [setI_oo (by omega)]
        by_cases e2 : i = j
        · subst e2; rw [setI_s]; exact ⟨_, hcj, rfl⟩
        · rw [setI_oo (by omega)]; exact v1 i hi
  · simp only [a, c, if_true]
    exact ⟨_, _, _, rfl, rfl, P, G, hR⟩
/-- like -/
theorem s_like (p q v : Int32) {σ σ' : St} (h : Rel σ σ') : ∃ r τ τ', fX8_like p q v σ = some (r, τ) ∧ fX9_like p q v σ' = some (r, τ') ∧ Rel τ τ' := by
  obtain ⟨P, G, hR⟩ := h
  obtain ⟨h1, h2, h3, h4, h5, h6, h7⟩ := id hR
  obtain ⟨⟨hP, hG⟩, ⟨p0, p1⟩, ⟨g0, g1⟩, hy, hwh, hwk, hwf, hwl, hwd, hwg, v1, v2, v3, v4, v5, v6⟩ := id h3
  unfold fX8_like fX9_like
  rcases two2 p0 p1 hP p q with ⟨j, k, hj, hk, hjk, rfl, rfl, a, c⟩ | ⟨a, c⟩
  · rw [show (9 : Int64) = (9 : Int32).toInt64 from rfl, wiL]
    rcases within_c v (a := 0) (b := 9) (by decide) (by decide) with ⟨y, -, hy9, rfl, e⟩ | ⟨-, e⟩
    · replace e : fX8_within (nI y) (0 : Int32) (9 : Int32) = 1 := e
      simp (disch := omega) only [a, c, e, n10, if_false, pairN, ix8, grd_t (inbN (show 8 * j + k < 64 by omega) (by decide)), tcl, bnd, Nat.reduceAdd]
      rw [show σ.1 8 (8 * j + k) = σ'.1 62 (8 * j + k) from hwl (8 * j + k) (by omega)]
      refine ⟨_, _, _, rfl, rfl, P, G, ?_⟩
      · unfold RR LR PR WR IR BR
        simp (disch := omega) only [setI_o, setI_s, setI_oo, Nat.reduceAdd]
        refine ⟨h1, h2, ⟨⟨hP, hG⟩, ⟨p0, p1⟩, ⟨g0, g1⟩, hy, hwh, hwk, hwf, ?_, hwd, ?_, v1, v2, ?_, v4, v5, v6⟩, h4, h5, h6, h7⟩
        · intro i hi
          by_cases e1 : i = 8 * j + k
          · subst e1; rw [setI_s, setI_s]
          · simp (disch := omega) only [setI_oo]; exact hwl i hi
        · intro g hg k hk
          simp (disch := omega) only [setI_o]
          exact hwg g hg k hk
        · intro i hi
          by_cases e1 : i = 8 * j + k
          · subst e1; rw [setI_s]; exact ⟨y, by omega, rfl⟩
          · rw [setI_oo (by omega)]; exact v3 i hi
    · replace e : fX8_within v (0 : Int32) (9 : Int32) = 0 := e
      simp only [a, c, e, n10, if_false, if_true]
      exact ⟨_, _, _, rfl, rfl, P, G, hR⟩
  · simp only [a, c, if_true]
    exact ⟨_, _, _, rfl, rfl, P, G, hR⟩
/-- owes -/
theorem s_owes (p q : Int32) {σ σ' : St} (h : Rel σ σ') : ∃ r, fX8_owes p q σ = some r ∧ fX9_owes p q σ' = some r := by
  obtain ⟨P, G, h1, h2, h3, h4, h5, h6, h7⟩ := h
  obtain ⟨⟨hP, hG⟩, ⟨p0, p1⟩, ⟨g0, g1⟩, hy, hwh, hwk, hwf, hwl, hwd, hwg, v1, v2, v3, v4, v5, v6⟩ := id h3
  unfold fX8_owes fX9_owes
  rcases two2 p0 p1 hP p q with ⟨j, k, hj, hk, hjk, rfl, rfl, a, c⟩ | ⟨a, c⟩
  · simp (disch := omega) only [a, c, n10, if_false, pairN, ix8, grd_t (inbN (show 8 * j + k < 64 by omega) (by decide)), tcl, Nat.reduceAdd]
    exact ⟨_, rfl, by rw [show σ.1 9 (8 * j + k) = σ'.1 63 (8 * j + k) from hwd (8 * j + k) (by omega)]⟩
  · simp only [a, c, if_true]
    exact ⟨_, rfl, rfl⟩
theorem ix8_1 (a : Nat) : (8 : Int32) * nI a + (1 : Int32) = nI (8 * a + 1) := ix8 a 1
theorem ix8_2 (a : Nat) : (8 : Int32) * nI a + (2 : Int32) = nI (8 * a + 2) := ix8 a 2
theorem ix8_3 (a : Nat) : (8 : Int32) * nI a + (3 : Int32) = nI (8 * a + 3) := ix8 a 3
theorem ix8_4 (a : Nat) : (8 : Int32) * nI a + (4 : Int32) = nI (8 * a + 4) := ix8 a 4
theorem ix8_5 (a : Nat) : (8 : Int32) * nI a + (5 : Int32) = nI (8 * a + 5) := ix8 a 5
theorem ix8_6 (a : Nat) : (8 : Int32) * nI a + (6 : Int32) = nI (8 * a + 6) := ix8 a 6
theorem ix8_7 (a : Nat) : (8 : Int32) * nI a + (7 : Int32) = nI (8 * a + 7) := ix8 a 7
theorem fu_gt {d : Nat} (h : d ≤ 4000) : d < fu := Nat.lt_of_le_of_lt h (by decide)
theorem su {n d : Nat} (h : d < n) : ∃ m, n = m + 1 ∧ d ≤ m := ⟨n - 1, by omega, by omega⟩
theorem bal2 {w : Nat} {σ σ' : St} {P G : Nat} (h : WR w σ σ' P G) {c : Nat} (hc : c < P) : ∀ (d i n m : Nat) (a : Int32), i + d = P → d < n → d < m → ∃ r, fX7_balance_L4 w (nI c) σ n a (nI i) = some r ∧ fX9_restOf_L4 (nI c) σ' m a (nI i) = some r := by
  obtain ⟨⟨hP, hG⟩, ⟨p0, p1⟩, ⟨g0, g1⟩, hy, hwh, hwk, hwf, hwl, hwd, hwg, hv⟩ := id h
  intro d
  induction d with
  | zero =>
    intro i n m a hi hn hm
    obtain ⟨n, rfl, -⟩ := su hn
    obtain ⟨m, rfl, -⟩ := su hm
    have e : i = P := by omega
    subst e
    rw [fX7_balance_L4, fX9_restOf_L4, p0, p1, if_pos (nI_le (a := i) (b := i) (by omega) (by omega)), if_pos (nI_le (a := i) (b := i) (by omega) (by omega))]
    exact ⟨a, rfl, rfl⟩
  | succ d ih =>
    intro i n m a hi hn hm
    obtain ⟨n, rfl, hn⟩ := su hn
    obtain ⟨m, rfl, hm⟩ := su hm
    rw [fX7_balance_L4, fX9_restOf_L4, p0, p1, if_neg (nI_ge (a := i) (b := P) (by omega) (by omega)), if_neg (nI_ge (a := i) (b := P) (by omega) (by omega))]
    simp (disch := omega) only [pairN, ix8, grd_t (inbN (show 8 * i + c < 64 by omega) (by decide)), grd_t (inbN (show 8 * c + i < 64 by omega) (by decide)), tcl, bnd, nI_1]
    rw [hwd (8 * i + c) (by omega), hwd (8 * c + i) (by omega)]
    exact ih (i + 1) n m _ (by omega) (by omega) (by omega)
theorem rest2 {w : Nat} {σ σ' : St} {P G : Nat} (h : WR w σ σ' P G) {c : Nat} (hc : c < P) : ∃ r, fX7_balance w (nI c) σ = some r ∧ fX9_restOf (nI c) σ' = some r := by
  obtain ⟨r, a, b⟩ := bal2 h hc P 0 fu fu (nI 0) (by omega) (fu_gt (by have := h.1.1; omega)) (fu_gt (by have := h.1.1; omega))
  unfold fX7_balance fX9_restOf
  rw [show (0 : Int32) = nI 0 from rfl, a, b]
  exact ⟨r, rfl, rfl⟩
/-- rest -/
theorem s_rest (p : Int32) {σ σ' : St} (h : Rel σ σ') : ∃ r, fX8_rest p σ = some r ∧ fX9_rest p σ' = some r := by
  obtain ⟨P, G, h1, h2, h3, h4, h5, h6, h7⟩ := h
  obtain ⟨⟨hP, hG⟩, ⟨p0, p1⟩, -⟩ := id h3
  unfold fX8_rest fX9_rest
  rcases isP2 p0 p1 hP p with ⟨k, hk, rfl, a, b⟩ | ⟨-, a, b⟩
  · simp only [a, b, n10, if_false]
    obtain ⟨r, e1, e2⟩ := rest2 h3 hk
    rw [e1, e2]
    exact ⟨r, rfl, rfl⟩
  · simp only [a, b, if_true]
    exact ⟨_, rfl, rfl⟩
/-- who lives, who holds -/
theorem mlives {σ' : St} {g : Nat} (hg : g < 8) : fX9_lives (nI g) σ' = some (if σ'.1 65 (8 * g + 6) = 0 then (1 : Int32) else (0 : Int32)) := by
  unfold fX9_lives
  rw [ix8_6, grd_t (inbN (show 8 * g + 6 < 64 by omega) (by decide)), tcl (by omega)]
  split <;> rfl
theorem xlives {w : Nat} {σ σ' : St} {P G : Nat} (h : WR w σ σ' P G) {g : Nat} (hg : g < 8) : fX3_lives (w + 7 + g) σ = if σ'.1 65 (8 * g + 6) = 0 then (1 : Int32) else (0 : Int32) := by
  unfold fX3_lives
  rw [show σ.1 (w + 7 + g) 6 = σ'.1 65 (8 * g + 6) from h.2.2.2.2.2.2.2.2.2.1 g hg 6 (by decide)]
theorem held2L {w : Nat} {σ σ' : St} {P G : Nat} (h : WR w σ σ' P G) (c : Int32) : ∀ (d i n m a : Nat), i + d = G → a ≤ i → d < n → d < m → ∃ r, r ≤ G ∧ fX7_heldBy_L4 w c σ n (nI a) (nI i) = some (nI r) ∧ fX9_holds_L4 c σ' m (nI a) (nI i) = some (nI r) := by
  obtain ⟨⟨hP, hG⟩, ⟨p0, p1⟩, ⟨g0, g1⟩, hy, hwh, hwk, hwf, hwl, hwd, hwg, hv⟩ := id h
  intro d
  induction d with
  | zero =>
    intro i n m a hi ha hn hm
    obtain ⟨n, rfl, -⟩ := su hn
    obtain ⟨m, rfl, -⟩ := su hm
    have e : i = G := by omega
    subst e
    rw [fX7_heldBy_L4, fX9_holds_L4, g0, g1, if_pos (nI_le (a := i) (b := i) (by omega) (by omega)), if_pos (nI_le (a := i) (b := i) (by omega) (by omega))]
    exact ⟨a, ha, rfl, rfl⟩
  | succ d ih =>
    intro i n m a hi ha hn hm
    obtain ⟨n, rfl, hn⟩ := su hn
    obtain ⟨m, rfl, hm⟩ := su hm
    rw [fX7_heldBy_L4, fX9_holds_L4, g0, g1, if_neg (nI_ge (a := i) (b := G) (by omega) (by omega)), if_neg (nI_ge (a := i) (b := G) (by omega) (by omega))]
    simp (disch := omega) only [grd_t (inbN (show i < 8 by omega) (by decide)), tcl, mlives, xlives h, Option.bind_some, ix8_2, grd_t (inbN (show 8 * i + 2 < 64 by omega) (by decide)), nI_1]
    rw [show σ.1 (w + 7 + i) 2 = σ'.1 65 (8 * i + 2) from hwg i (by omega) 2 (by decide)]
    by_cases e1 : σ'.1 65 (8 * i + 6) = 0
    · simp only [e1, if_true, n10, if_false]
      by_cases e2 : σ'.1 65 (8 * i + 2) = c
      · simp only [e2, if_true, Option.bind_some, nI_1]
        exact ih (i + 1) n m (a + 1) (by omega) (by omega) (by omega) (by omega)
      · simp only [e2, if_false, Option.bind_some]
        rw [show nI a + (0 : Int32) = nI a from by simp]
        exact ih (i + 1) n m a (by omega) (by omega) (by omega) (by omega)
    · simp only [e1, if_false, if_true, Option.bind_some]
      rw [show nI a + (0 : Int32) = nI a from by simp]
      exact ih (i + 1) n m a (by omega) (by omega) (by omega) (by omega)
theorem held2 {w : Nat} {σ σ' : St} {P G : Nat} (h : WR w σ σ' P G) (c : Int32) : ∃ r, r ≤ G ∧ fX7_heldBy w c σ = some (nI r) ∧ fX9_holds c σ' = some (nI r) := by
  obtain ⟨r, hr, a, b⟩ := held2L h c G 0 fu fu 0 (by omega) (by omega) (fu_gt (by have := h.1.2; omega)) (fu_gt (by have := h.1.2; omega))
  unfold fX7_heldBy fX9_holds
  rw [show (0 : Int32) = nI 0 from rfl, a, b]
  exact ⟨r, hr, rfl, rfl⟩
/-- about -/
theorem about2 {σ σ' : St} {P G : Nat} (h3 : WR 4 σ σ' P G) (p v : Int32) : ∃ r, fX8_about p v σ = some r ∧ fX9_about p v σ' = some r := by
  obtain ⟨⟨hP, hG⟩, ⟨p0, p1⟩, ⟨g0, g1⟩, hy, hwh, hwk, hwf, hwl, hwd, hwg, hv⟩ := id h3
  unfold fX8_about fX9_about fX9_tellPerson
  rcases isP2 p0 p1 hP p with ⟨k, hk, rfl, a, b⟩ | ⟨-, a, b⟩
  · simp only [a, b, n10, if_false]
    obtain ⟨r, -, e1, e2⟩ := held2 h3 (nI k)
    simp (disch := omega) only [grd_t (inbN (show k < 8 by omega) (by decide)), tcl, e1, e2, Option.bind_some, Nat.reduceAdd]
    rcases within_c v (a := 0) (b := 3) (by decide) (by decide) with ⟨y, -, hy9, rfl, e⟩ | ⟨hn, e⟩
    · replace e : fX8_within (nI y) (0 : Int32) (3 : Int32) = 1 := e
      simp only [e, n10, if_false]
      rcases (show y = 0 ∨ y = 1 ∨ y = 2 ∨ y = 3 by omega) with rfl | rfl | rfl | rfl
      · exact ⟨_, rfl, by rw [show σ.1 5 k = σ'.1 60 k from hwh k (by omega)]; rfl⟩
      · exact ⟨_, rfl, rfl⟩
      · exact ⟨_, rfl, by rw [show σ.1 6 k = σ'.1 61 k from hwk k (by omega)]; rfl⟩
      · exact ⟨_, rfl, by rw [show σ.1 7 k = σ'.1 64 k from hwf k (by omega)]; rfl⟩
    · replace e : fX8_within v (0 : Int32) (3 : Int32) = 0 := e
      simp only [e, if_true]
      rw [if_neg (show ¬ v = (0 : Int32) from hn 0 (by omega) (by omega)), if_neg (show ¬ v = (1 : Int32) from hn 1 (by omega) (by omega)), if_neg (show ¬ v = (2 : Int32) from hn 2 (by omega) (by omega)), if_neg (show ¬ v = (3 : Int32) from hn 3 (by omega) (by omega))]
      exact ⟨_, rfl, rfl⟩
  · simp only [a, b, if_true]
    exact ⟨_, rfl, rfl⟩
theorem s_about (p v : Int32) {σ σ' : St} (h : Rel σ σ') : ∃ r, fX8_about p v σ = some r ∧ fX9_about p v σ' = some r := by
  obtain ⟨P, G, h1, h2, h3, h4⟩ := h
  exact about2 h3 p v
