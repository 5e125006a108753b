/-! which ints a method may write: keys are cells' numbers, of the reference's object 100 and its slot -/
def key (a b : Nat) : Nat := if a = 58 then 100 + b else a
theorem key_58 (b : Nat) : key 58 b = 100 + b := rfl
theorem key_ne {a b : Nat} (h : a ≠ 58) : key a b = a := by simp [key, h]
def gk (w : Nat) : List Nat := [w + 7, w + 8, w + 9, w + 10, w + 11, w + 12, w + 13, w + 14]
def Fr (ks : List Nat) (σ τ : St) : Prop := ∀ a b, key a b ∉ ks → τ.1 a b = σ.1 a b
theorem fr_rfl {ks : List Nat} {σ : St} : Fr ks σ σ := fun _ _ _ => rfl
theorem fr_setI {ks : List Nat} {σ τ : St} {i k : Nat} {v : Int32} (h : Fr ks σ τ) (hk : key i k ∈ ks) : Fr ks σ (setI τ i k v) := fun a b hn => by
  by_cases e : a = i ∧ b = k
  · obtain ⟨rfl, rfl⟩ := e; exact absurd hk hn
  · simp only [setI, if_neg e]; exact h a b hn
theorem fr_setL {ks : List Nat} {σ τ : St} {i k : Nat} {v : Int64} (h : Fr ks σ τ) : Fr ks σ (setL τ i k v) := fun a b hn => h a b hn
theorem fr_cpyL {ks : List Nat} {σ τ : St} {i j n : Nat} (h : Fr ks σ τ) : Fr ks σ (cpyL τ i j n) := fun a b hn => h a b hn
theorem fr_cpyI {ks : List Nat} {σ τ : St} {i j n : Nat} (h : Fr ks σ τ) (hk : ∀ b, key j b ∈ ks) : Fr ks σ (cpyI τ i j n) := fun a b hn => by
  by_cases e : a = j ∧ b < n
  · obtain ⟨rfl, -⟩ := e; exact absurd (hk b) hn
  · simp only [cpyI, if_neg e]; exact h a b hn
theorem fr_tr {ks k1 : List Nat} {σ τ υ : St} (h : Fr ks σ τ) (h1 : Fr k1 τ υ) (hs : ∀ x, x ∈ k1 → x ∈ ks) : Fr ks σ υ := fun a b hn => (h1 a b (fun z => hn (hs _ z))).trans (h a b hn)
theorem fr_trS {ks : List Nat} {σ τ υ : St} (h : Fr ks σ τ) (h1 : Fr ks τ υ) : Fr ks σ υ := fr_tr h h1 (fun _ z => z)
theorem fr_trB {ks : List Nat} {σ τ : St} {A B : Type} {f : A → St} {g : B → St} {q : Sum A B} (h : Fr ks σ τ) (h1 : (∀ z, q = .inl z → Fr ks τ (f z)) ∧ (∀ v, q = .inr v → Fr ks τ (g v))) : (∀ z, q = .inl z → Fr ks σ (f z)) ∧ (∀ v, q = .inr v → Fr ks σ (g v)) := ⟨fun z hz => fr_trS h (h1.1 z hz), fun v hv => fr_trS h (h1.2 v hv)⟩
theorem gmem {w : Nat} (h : isW w) {j : Int32} (hj : inb j 8 = true) : w + 7 + j.toNatClampNeg ∈ gk w := by
  obtain ⟨k, hk, rfl⟩ := (inb_iff (by decide)).mp hj
  rw [nI_clamp (by omega)]
  simp only [gk, List.mem_cons, List.not_mem_nil, or_false]; omega
theorem keyGm {w s : Nat} (h : isW w) {j : Int32} (hj : inb j 8 = true) : key (w + 7 + j.toNatClampNeg) s ∈ gk w := by
  have hm := gmem h hj
  unfold isW at h
  rw [key_ne (by simp only [gk, List.mem_cons, List.not_mem_nil, or_false] at hm; omega)]
  exact hm
theorem obG_ne {g : Nat} (h : OB g 3 8) : g ≠ 58 := by rintro rfl; exact absurd h.2.2.1 (by decide)
theorem ia_ne {a n : Nat} (h : IA a n) : a ≠ 58 := by rintro rfl; exact absurd h.2.1 (by decide)

set_option maxHeartbeats 4000000 in
theorem frX5_append_L3 (c1 : Int64) (c3 : Int32)  (q : (St)) : ∀ (n : Nat) (v4 : Int32) (σ : St), fX5_append_L3 c1 c3 n v4 σ = some q → Fr ([2, 1]) σ q := by
  intro n
  induction n with
  | zero =>
    intro v4 σ hf
    simp only [fX5_append_L3] at hf
    exact absurd hf (by simp)
  | succ n ih =>
    intro v4 σ hf
    rw [fX5_append_L3] at hf
    by_cases hc1 : c3 ≤ v4
    · rw [if_pos hc1] at hf
      have hq := Option.some.inj hf
      rw [← hq]
      exact fr_rfl
    · rw [if_neg hc1] at hf
      by_cases hc2 : (16 : Int32) ≤ (σ.1 1 1)
      · rw [if_pos hc2] at hf
        have hq := Option.some.inj hf
        rw [← hq]
        exact fr_rfl
      · rw [if_neg hc2] at hf
        obtain ⟨hb3, hf⟩ := grd_elim hf
        obtain ⟨σ4, hσ4, hf⟩ := bnd_elim hf
        have fσ4 : Fr ([2, 1]) σ σ4 := by rw [hσ4]; exact fr_setI fr_rfl (by rw [key_ne (by decide)]; first | decide | (simp [gk]; done) | (simp only [gk, List.mem_append, List.mem_cons, List.not_mem_nil, or_false, false_or]; omega))
        obtain ⟨σ5, hσ5, hf⟩ := bnd_elim hf
        have fσ5 : Fr ([2, 1]) σ σ5 := by rw [hσ5]; exact fr_setI fσ4 (by rw [key_ne (by decide)]; first | decide | (simp [gk]; done) | (simp only [gk, List.mem_append, List.mem_cons, List.not_mem_nil, or_false, false_or]; omega))
        exact fr_trS fσ5 (ih (v4 + (1 : Int32)) σ5 hf)
set_option maxHeartbeats 4000000 in
theorem frX5_append (p1 : Int64) (p3 : Int32) (σ : St)  (q : St) (hf : fX5_append p1 p3 σ = some q) : Fr ([2, 1]) σ q := by
  unfold fX5_append at hf
  obtain ⟨q6, hr7, hf⟩ := obind hf
  have f8 : Fr ([2, 1]) σ q6 := fr_tr fr_rfl (frX5_append_L3 p1 p3 q6 fu (0 : Int32) σ hr7) (by intro x9 hx9; first | exact absurd hx9 List.not_mem_nil | exact hx9 | (simp [gk] at hx9 ⊢; omega) | (simp only [gk, List.mem_append, List.mem_cons, List.not_mem_nil, or_false, false_or] at hx9 ⊢; omega))
  have hq := Option.some.inj hf
  subst hq
  exact f8
set_option maxHeartbeats 4000000 in
theorem frX8_letters (p1 : Int64) (σ : St)  (q : Int32 × St) (hf : fX8_letters p1 σ = some q) : Fr ([2, 1]) σ q.2 := by
  unfold fX8_letters at hf
  obtain ⟨q1, hq1, hf⟩ := obind hf
  by_cases hc2 : q1 = (-1 : Int32)
  · rw [if_pos hc2] at hf
    have hq := Option.some.inj hf
    subst hq
    exact fr_rfl
  · rw [if_neg hc2] at hf
    by_cases hc3 : ((σ.1 1 1) + q1) ≤ (16 : Int32)
    · rw [if_pos hc3] at hf
      obtain ⟨q4, hq4, hf⟩ := obind hf
      have fq4 : Fr ([2, 1]) σ q4 := fr_tr fr_rfl (frX5_append p1 q1 σ _ hq4) (by intro x9 hx9; first | exact absurd hx9 List.not_mem_nil | exact hx9 | (simp [gk] at hx9 ⊢; omega) | (simp only [gk, List.mem_append, List.mem_cons, List.not_mem_nil, or_false, false_or] at hx9 ⊢; omega))
      have hq := Option.some.inj hf
      subst hq
      exact fq4
    · rw [if_neg hc3] at hf
      have hq := Option.some.inj hf
      subst hq
      exact fr_rfl
set_option maxHeartbeats 4000000 in
theorem frX8_blank  (σ : St)  (q : Int32 × St) (hf : fX8_blank σ = some q) : Fr ([1]) σ q.2 := by
  unfold fX8_blank at hf
  obtain ⟨σ1, hσ1, hf⟩ := bnd_elim hf
  have fσ1 : Fr ([1]) σ σ1 := by rw [hσ1]; exact fr_setI fr_rfl (by rw [key_ne (by decide)]; first | decide | (simp [gk]; done) | (simp only [gk, List.mem_append, List.mem_cons, List.not_mem_nil, or_false, false_or]; omega))
  have hq := Option.some.inj hf
  subst hq
  exact fσ1
set_option maxHeartbeats 4000000 in
theorem frX4_readFrom_L24   (q : (St)) : ∀ (n : Nat) (v2 : Int32) (v3 : Int32) (σ : St), fX4_readFrom_L24 n v2 v3 σ = some q → Fr ([3]) σ q := by
  intro n
  induction n with
  | zero =>
    intro v2 v3 σ hf
    simp only [fX4_readFrom_L24] at hf
    exact absurd hf (by simp)
  | succ n ih =>
    intro v2 v3 σ hf
    rw [fX4_readFrom_L24] at hf
    by_cases hc5 : (σ.1 1 1) ≤ v3
    · rw [if_pos hc5] at hf
      have hq := Option.some.inj hf
      rw [← hq]
      exact fr_rfl
    · rw [if_neg hc5] at hf
      by_cases hc6 : (16 : Int32) ≤ v3
      · rw [if_pos hc6] at hf
        have hq := Option.some.inj hf
        rw [← hq]
        exact fr_rfl
      · rw [if_neg hc6] at hf
        obtain ⟨hb7, hf⟩ := grd_elim hf
        obtain ⟨x8, hx8, hf⟩ := bnd_elim hf
        obtain ⟨q10, hr11, hf⟩ := obind hf
        have f12 : Fr ([3]) σ q10 := by
          clear hf
          have hf := hr11
          clear hr11
          by_cases hc9 : v2 = (107 : Int32)
          · rw [if_pos hc9] at hf
            obtain ⟨σ13, hσ13, hf⟩ := bnd_elim hf
            have fσ13 : Fr ([3]) σ σ13 := by rw [hσ13]; exact fr_setI fr_rfl (by rw [key_ne (by decide)]; first | decide | (simp [gk]; done) | (simp only [gk, List.mem_append, List.mem_cons, List.not_mem_nil, or_false, false_or]; omega))
            have hq := Option.some.inj hf
            subst hq
            exact fσ13
          · rw [if_neg hc9] at hf
            by_cases hc14 : v2 = (119 : Int32)
            · rw [if_pos hc14] at hf
              obtain ⟨σ15, hσ15, hf⟩ := bnd_elim hf
              have fσ15 : Fr ([3]) σ σ15 := by rw [hσ15]; exact fr_setI fr_rfl (by rw [key_ne (by decide)]; first | decide | (simp [gk]; done) | (simp only [gk, List.mem_append, List.mem_cons, List.not_mem_nil, or_false, false_or]; omega))
              have hq := Option.some.inj hf
              subst hq
              exact fσ15
            · rw [if_neg hc14] at hf
              by_cases hc16 : x8 = (98 : Int32)
              · rw [if_pos hc16] at hf
                obtain ⟨σ17, hσ17, hf⟩ := bnd_elim hf
                have fσ17 : Fr ([3]) σ σ17 := by rw [hσ17]; exact fr_setI fr_rfl (by rw [key_ne (by decide)]; first | decide | (simp [gk]; done) | (simp only [gk, List.mem_append, List.mem_cons, List.not_mem_nil, or_false, false_or]; omega))
                have hq := Option.some.inj hf
                subst hq
                exact fσ17
              · rw [if_neg hc16] at hf
                by_cases hc18 : x8 = (111 : Int32)
                · rw [if_pos hc18] at hf
                  obtain ⟨σ19, hσ19, hf⟩ := bnd_elim hf
                  have fσ19 : Fr ([3]) σ σ19 := by rw [hσ19]; exact fr_setI fr_rfl (by rw [key_ne (by decide)]; first | decide | (simp [gk]; done) | (simp only [gk, List.mem_append, List.mem_cons, List.not_mem_nil, or_false, false_or]; omega))
                  have hq := Option.some.inj hf
                  subst hq
                  exact fσ19
                · rw [if_neg hc18] at hf
                  have hq := Option.some.inj hf
                  subst hq
                  exact fr_rfl
        exact fr_trS f12 (ih x8 (v3 + (1 : Int32)) q10 hf)
set_option maxHeartbeats 4000000 in
theorem frX4_readFrom  (σ : St)  (q : St) (hf : fX4_readFrom σ = some q) : Fr ([3]) σ q := by
  unfold fX4_readFrom at hf
  obtain ⟨σ1, hσ1, hf⟩ := bnd_elim hf
  have fσ1 : Fr ([3]) σ σ1 := by rw [hσ1]; exact fr_setI fr_rfl (by rw [key_ne (by decide)]; first | decide | (simp [gk]; done) | (simp only [gk, List.mem_append, List.mem_cons, List.not_mem_nil, or_false, false_or]; omega))
  obtain ⟨σ2, hσ2, hf⟩ := bnd_elim hf
  have fσ2 : Fr ([3]) σ σ2 := by rw [hσ2]; exact fr_setI fσ1 (by rw [key_ne (by decide)]; first | decide | (simp [gk]; done) | (simp only [gk, List.mem_append, List.mem_cons, List.not_mem_nil, or_false, false_or]; omega))
  obtain ⟨σ3, hσ3, hf⟩ := bnd_elim hf
  have fσ3 : Fr ([3]) σ σ3 := by rw [hσ3]; exact fr_setI fσ2 (by rw [key_ne (by decide)]; first | decide | (simp [gk]; done) | (simp only [gk, List.mem_append, List.mem_cons, List.not_mem_nil, or_false, false_or]; omega))
  obtain ⟨σ4, hσ4, hf⟩ := bnd_elim hf
  have fσ4 : Fr ([3]) σ σ4 := by rw [hσ4]; exact fr_setI fσ3 (by rw [key_ne (by decide)]; first | decide | (simp [gk]; done) | (simp only [gk, List.mem_append, List.mem_cons, List.not_mem_nil, or_false, false_or]; omega))
  obtain ⟨q20, hr21, hf⟩ := obind hf
  have f22 : Fr ([3]) σ q20 := fr_tr fσ4 (frX4_readFrom_L24  q20 fu (0 : Int32) (0 : Int32) σ4 hr21) (by intro x9 hx9; first | exact absurd hx9 List.not_mem_nil | exact hx9 | (simp [gk] at hx9 ⊢; omega) | (simp only [gk, List.mem_append, List.mem_cons, List.not_mem_nil, or_false, false_or] at hx9 ⊢; omega))
  have hq := Option.some.inj hf
  subst hq
  exact f22
set_option maxHeartbeats 4000000 in
theorem frX8_law  (σ : St)  (q : Int32 × St) (hf : fX8_law σ = some q) : Fr ([3, 1, 0]) σ q.2 := by
  unfold fX8_law at hf
  obtain ⟨q1, hq1, hf⟩ := obind hf
  by_cases hc2 : q1 = 0
  · rw [if_pos hc2] at hf
    have hq := Option.some.inj hf
    subst hq
    exact fr_rfl
  · rw [if_neg hc2] at hf
    obtain ⟨q3, hq3, hf⟩ := obind hf
    have fq3 : Fr ([3, 1, 0]) σ q3 := fr_tr fr_rfl (frX4_readFrom σ _ hq3) (by intro x9 hx9; first | exact absurd hx9 List.not_mem_nil | exact hx9 | (simp [gk] at hx9 ⊢; omega) | (simp only [gk, List.mem_append, List.mem_cons, List.not_mem_nil, or_false, false_or] at hx9 ⊢; omega))
    obtain ⟨σ4, hσ4, hf⟩ := bnd_elim hf
    have fσ4 : Fr ([3, 1, 0]) σ σ4 := by rw [hσ4]; exact fr_setI fq3 (by rw [key_ne (by decide)]; first | decide | (simp [gk]; done) | (simp only [gk, List.mem_append, List.mem_cons, List.not_mem_nil, or_false, false_or]; omega))
    obtain ⟨σ5, hσ5, hf⟩ := bnd_elim hf
    have fσ5 : Fr ([3, 1, 0]) σ σ5 := by rw [hσ5]; exact fr_setI fσ4 (by rw [key_ne (by decide)]; first | decide | (simp [gk]; done) | (simp only [gk, List.mem_append, List.mem_cons, List.not_mem_nil, or_false, false_or]; omega))
    have hq := Option.some.inj hf
    subst hq
    exact fσ5
set_option maxHeartbeats 4000000 in
theorem frX7_addPerson (w : Nat) (p1 : Int32) (σ : St) (hw : isW w) (q : Int32 × St) (hf : fX7_addPerson w p1 σ = some q) : Fr ([w + 1, w]) σ q.2 := by
  unfold fX7_addPerson at hf
  obtain ⟨hb1, hf⟩ := grd_elim hf
  obtain ⟨σ2, hσ2, hf⟩ := bnd_elim hf
  have fσ2 : Fr ([w + 1, w]) σ σ2 := by rw [hσ2]; exact fr_setI fr_rfl (by have hw9 := hw; unfold isW at hw9; rw [key_ne (by omega)]; first | (simp [gk]; done) | (simp only [gk, List.mem_append, List.mem_cons, List.not_mem_nil, or_false, false_or]; omega))
  obtain ⟨σ3, hσ3, hf⟩ := bnd_elim hf
  have fσ3 : Fr ([w + 1, w]) σ σ3 := by rw [hσ3]; exact fr_setI fσ2 (by have hw9 := hw; unfold isW at hw9; rw [key_ne (by omega)]; first | (simp [gk]; done) | (simp only [gk, List.mem_append, List.mem_cons, List.not_mem_nil, or_false, false_or]; omega))
  have hq := Option.some.inj hf
  subst hq
  exact fσ3
set_option maxHeartbeats 4000000 in
theorem frX8_person (p1 : Int32) (σ : St)  (q : Int32 × St) (hf : fX8_person p1 σ = some q) : Fr ([5, 4]) σ q.2 := by
  unfold fX8_person at hf
  by_cases hc1 : (fX8_within p1 (0 : Int32) (3 : Int32)) = 0
  · rw [if_pos hc1] at hf
    have hq := Option.some.inj hf
    subst hq
    exact fr_rfl
  · rw [if_neg hc1] at hf
    by_cases hc2 : (σ.1 4 0) < (8 : Int32)
    · rw [if_pos hc2] at hf
      obtain ⟨q3, hq3, hf⟩ := obind hf
      have fq3 : Fr ([5, 4]) σ q3.2 := fr_tr fr_rfl (frX7_addPerson 4 p1 σ isW_4 _ hq3) (by intro x9 hx9; first | exact absurd hx9 List.not_mem_nil | exact hx9 | (simp [gk] at hx9 ⊢; omega) | (simp only [gk, List.mem_append, List.mem_cons, List.not_mem_nil, or_false, false_or] at hx9 ⊢; omega))
      have hq := Option.some.inj hf
      subst hq
      exact fq3
    · rw [if_neg hc2] at hf
      have hq := Option.some.inj hf
      subst hq
      exact fr_rfl
set_option maxHeartbeats 4000000 in
theorem frX7_setKnown (w : Nat) (p1 : Int32) (p2 : Int32) (p3 : Int32) (σ : St) (hw : isW w) (q : St) (hf : fX7_setKnown w p1 p2 p3 σ = some q) : Fr ([w + 2]) σ q := by
  unfold fX7_setKnown at hf
  obtain ⟨q2, hr3, hf⟩ := obind hf
  obtain ⟨hb4, hf⟩ := grd_elim hf
  obtain ⟨σ5, hσ5, hf⟩ := bnd_elim hf
  have fσ5 : Fr ([w + 2]) σ σ5 := by rw [hσ5]; exact fr_setI fr_rfl (by have hw9 := hw; unfold isW at hw9; rw [key_ne (by omega)]; first | (simp [gk]; done) | (simp only [gk, List.mem_append, List.mem_cons, List.not_mem_nil, or_false, false_or]; omega))
  obtain ⟨q7, hr8, hf⟩ := obind hf
  obtain ⟨hb9, hf⟩ := grd_elim hf
  obtain ⟨σ10, hσ10, hf⟩ := bnd_elim hf
  have fσ10 : Fr ([w + 2]) σ σ10 := by rw [hσ10]; exact fr_setI fσ5 (by have hw9 := hw; unfold isW at hw9; rw [key_ne (by omega)]; first | (simp [gk]; done) | (simp only [gk, List.mem_append, List.mem_cons, List.not_mem_nil, or_false, false_or]; omega))
  have hq := Option.some.inj hf
  subst hq
  exact fσ10
set_option maxHeartbeats 4000000 in
theorem frX8_know (p1 : Int32) (p2 : Int32) (p3 : Int32) (σ : St)  (q : Int32 × St) (hf : fX8_know p1 p2 p3 σ = some q) : Fr ([6]) σ q.2 := by
  unfold fX8_know at hf
  by_cases hc1 : (fX8_areTwo p1 p2 σ) = 0
  · rw [if_pos hc1] at hf
    have hq := Option.some.inj hf
    subst hq
    exact fr_rfl
  · rw [if_neg hc1] at hf
    obtain ⟨q2, hq2, hf⟩ := obind hf
    obtain ⟨x4, hx4, hf⟩ := bnd_elim hf
    obtain ⟨q5, hq5, hf⟩ := obind hf
    have fq5 : Fr ([6]) σ q5 := fr_tr fr_rfl (frX7_setKnown 4 p1 p2 p3 σ isW_4 _ hq5) (by intro x9 hx9; first | exact absurd hx9 List.not_mem_nil | exact hx9 | (simp [gk] at hx9 ⊢; omega) | (simp only [gk, List.mem_append, List.mem_cons, List.not_mem_nil, or_false, false_or] at hx9 ⊢; omega))
    have hq := Option.some.inj hf
    subst hq
    exact fq5
set_option maxHeartbeats 4000000 in
theorem frX8_like (p1 : Int32) (p2 : Int32) (p3 : Int32) (σ : St)  (q : Int32 × St) (hf : fX8_like p1 p2 p3 σ = some q) : Fr ([8]) σ q.2 := by
  unfold fX8_like at hf
  by_cases hc1 : (fX8_areTwo p1 p2 σ) = 0
  · rw [if_pos hc1] at hf
    have hq := Option.some.inj hf
    subst hq
    exact fr_rfl
  · rw [if_neg hc1] at hf
    by_cases hc2 : (fX8_within p3 (0 : Int32) (9 : Int32)) = 0
    · rw [if_pos hc2] at hf
      have hq := Option.some.inj hf
      subst hq
      exact fr_rfl
    · rw [if_neg hc2] at hf
      obtain ⟨hb3, hf⟩ := grd_elim hf
      obtain ⟨x4, hx4, hf⟩ := bnd_elim hf
      obtain ⟨hb5, hf⟩ := grd_elim hf
      obtain ⟨σ6, hσ6, hf⟩ := bnd_elim hf
      have fσ6 : Fr ([8]) σ σ6 := by rw [hσ6]; exact fr_setI fr_rfl (by rw [key_ne (by decide)]; first | decide | (simp [gk]; done) | (simp only [gk, List.mem_append, List.mem_cons, List.not_mem_nil, or_false, false_or]; omega))
      have hq := Option.some.inj hf
      subst hq
      exact fσ6
set_option maxHeartbeats 4000000 in
theorem frX3_begin (g : Nat) (p1 : Int32) (p2 : Int32) (σ : St) (hg : OB g 3 8) (q : St) (hf : fX3_begin g p1 p2 σ = some q) : Fr ([g]) σ q := by
  unfold fX3_begin at hf
  obtain ⟨σ1, hσ1, hf⟩ := bnd_elim hf
  have fσ1 : Fr ([g]) σ σ1 := by rw [hσ1]; exact fr_setI fr_rfl (by rw [key_ne (obG_ne hg)]; first | (simp [gk]; done) | (simp only [gk, List.mem_append, List.mem_cons, List.not_mem_nil, or_false, false_or]; omega))
  obtain ⟨σ2, hσ2, hf⟩ := bnd_elim hf
  have fσ2 : Fr ([g]) σ σ2 := by rw [hσ2]; exact fr_setI fσ1 (by rw [key_ne (obG_ne hg)]; first | (simp [gk]; done) | (simp only [gk, List.mem_append, List.mem_cons, List.not_mem_nil, or_false, false_or]; omega))
  obtain ⟨σ3, hσ3, hf⟩ := bnd_elim hf
  have fσ3 : Fr ([g]) σ σ3 := by rw [hσ3]; exact fr_setI fσ2 (by rw [key_ne (obG_ne hg)]; first | (simp [gk]; done) | (simp only [gk, List.mem_append, List.mem_cons, List.not_mem_nil, or_false, false_or]; omega))
  obtain ⟨σ4, hσ4, hf⟩ := bnd_elim hf
  have fσ4 : Fr ([g]) σ σ4 := by rw [hσ4]; exact fr_setI fσ3 (by rw [key_ne (obG_ne hg)]; first | (simp [gk]; done) | (simp only [gk, List.mem_append, List.mem_cons, List.not_mem_nil, or_false, false_or]; omega))
  obtain ⟨σ5, hσ5, hf⟩ := bnd_elim hf
  have fσ5 : Fr ([g]) σ σ5 := by rw [hσ5]; exact fr_setI fσ4 (by rw [key_ne (obG_ne hg)]; first | (simp [gk]; done) | (simp only [gk, List.mem_append, List.mem_cons, List.not_mem_nil, or_false, false_or]; omega))
  obtain ⟨σ6, hσ6, hf⟩ := bnd_elim hf
  have fσ6 : Fr ([g]) σ σ6 := by rw [hσ6]; exact fr_setI fσ5 (by rw [key_ne (obG_ne hg)]; first | (simp [gk]; done) | (simp only [gk, List.mem_append, List.mem_cons, List.not_mem_nil, or_false, false_or]; omega))
  obtain ⟨σ7, hσ7, hf⟩ := bnd_elim hf
  have fσ7 : Fr ([g]) σ σ7 := by rw [hσ7]; exact fr_setI fσ6 (by rw [key_ne (obG_ne hg)]; first | (simp [gk]; done) | (simp only [gk, List.mem_append, List.mem_cons, List.not_mem_nil, or_false, false_or]; omega))
  obtain ⟨σ8, hσ8, hf⟩ := bnd_elim hf
  have fσ8 : Fr ([g]) σ σ8 := by rw [hσ8]; exact fr_setI fσ7 (by rw [key_ne (obG_ne hg)]; first | (simp [gk]; done) | (simp only [gk, List.mem_append, List.mem_cons, List.not_mem_nil, or_false, false_or]; omega))
  have hq := Option.some.inj hf
  subst hq
  exact fσ8
set_option maxHeartbeats 4000000 in
theorem frX7_addGift (w : Nat) (p1 : Int32) (p2 : Int32) (σ : St) (hw : isW w) (q : Int32 × St) (hf : fX7_addGift w p1 p2 σ = some q) : Fr ([w] ++ gk w) σ q.2 := by
  unfold fX7_addGift at hf
  obtain ⟨hb1, hf⟩ := grd_elim hf
  obtain ⟨q2, hq2, hf⟩ := obind hf
  have fq2 : Fr ([w] ++ gk w) σ q2 := fr_tr fr_rfl (frX3_begin (w + 7 + (σ.1 w 6).toNatClampNeg) p1 p2 σ (obG hw hb1) _ hq2) (by intro x9 hx9; have hk9 := gmem hw hb1; simp only [gk, List.mem_cons, List.not_mem_nil, or_false] at hk9; first | exact absurd hx9 List.not_mem_nil | exact hx9 | (simp [gk] at hx9 ⊢; omega) | (simp only [gk, List.mem_append, List.mem_cons, List.not_mem_nil, or_false, false_or] at hx9 ⊢; omega))
  obtain ⟨σ3, hσ3, hf⟩ := bnd_elim hf
  have fσ3 : Fr ([w] ++ gk w) σ σ3 := by rw [hσ3]; exact fr_setI fq2 (by have hw9 := hw; unfold isW at hw9; rw [key_ne (by omega)]; first | (simp [gk]; done) | (simp only [gk, List.mem_append, List.mem_cons, List.not_mem_nil, or_false, false_or]; omega))
  have hq := Option.some.inj hf
  subst hq
  exact fσ3
set_option maxHeartbeats 4000000 in
theorem frX8_gift (p1 : Int32) (p2 : Int32) (σ : St)  (q : Int32 × St) (hf : fX8_gift p1 p2 σ = some q) : Fr ([4] ++ gk 4) σ q.2 := by
  unfold fX8_gift at hf
  by_cases hc1 : (fX8_within p1 (0 : Int32) (4 : Int32)) = 0
  · rw [if_pos hc1] at hf
    have hq := Option.some.inj hf
    subst hq
    exact fr_rfl
  · rw [if_neg hc1] at hf
    by_cases hc2 : (fX8_isPerson p2 σ) = 0
    · rw [if_pos hc2] at hf
      have hq := Option.some.inj hf
      subst hq
      exact fr_rfl
    · rw [if_neg hc2] at hf
      by_cases hc3 : (σ.1 4 6) < (8 : Int32)
      · rw [if_pos hc3] at hf
        obtain ⟨q4, hq4, hf⟩ := obind hf
        have fq4 : Fr ([4] ++ gk 4) σ q4.2 := fr_tr fr_rfl (frX7_addGift 4 p1 p2 σ isW_4 _ hq4) (by intro x9 hx9; first | exact absurd hx9 List.not_mem_nil | exact hx9 | (simp [gk] at hx9 ⊢; omega) | (simp only [gk, List.mem_append, List.mem_cons, List.not_mem_nil, or_false, false_or] at hx9 ⊢; omega))
        have hq := Option.some.inj hf
        subst hq
        exact fq4
      · rw [if_neg hc3] at hf
        have hq := Option.some.inj hf
        subst hq
        exact fr_rfl
set_option maxHeartbeats 4000000 in
theorem frX3_moveTo (g : Nat) (p1 : Int32) (p2 : Int32) (σ : St) (hg : OB g 3 8) (q : St) (hf : fX3_moveTo g p1 p2 σ = some q) : Fr ([g]) σ q := by
  unfold fX3_moveTo at hf
  obtain ⟨σ1, hσ1, hf⟩ := bnd_elim hf
  have fσ1 : Fr ([g]) σ σ1 := by rw [hσ1]; exact fr_setI fr_rfl (by rw [key_ne (obG_ne hg)]; first | (simp [gk]; done) | (simp only [gk, List.mem_append, List.mem_cons, List.not_mem_nil, or_false, false_or]; omega))
  obtain ⟨σ2, hσ2, hf⟩ := bnd_elim hf
  have fσ2 : Fr ([g]) σ σ2 := by rw [hσ2]; exact fr_setI fσ1 (by rw [key_ne (obG_ne hg)]; first | (simp [gk]; done) | (simp only [gk, List.mem_append, List.mem_cons, List.not_mem_nil, or_false, false_or]; omega))
  obtain ⟨σ3, hσ3, hf⟩ := bnd_elim hf
  have fσ3 : Fr ([g]) σ σ3 := by rw [hσ3]; exact fr_setI fσ2 (by rw [key_ne (obG_ne hg)]; first | (simp [gk]; done) | (simp only [gk, List.mem_append, List.mem_cons, List.not_mem_nil, or_false, false_or]; omega))
  obtain ⟨σ4, hσ4, hf⟩ := bnd_elim hf
  have fσ4 : Fr ([g]) σ σ4 := by rw [hσ4]; exact fr_setI fσ3 (by rw [key_ne (obG_ne hg)]; first | (simp [gk]; done) | (simp only [gk, List.mem_append, List.mem_cons, List.not_mem_nil, or_false, false_or]; omega))
  obtain ⟨q6, hr7, hf⟩ := obind hf
  have f8 : Fr ([g]) σ q6 := by
    clear hf
    have hf := hr7
    clear hr7
    by_cases hc5 : (σ4.1 g 0) = (4 : Int32)
    · rw [if_pos hc5] at hf
      obtain ⟨σ9, hσ9, hf⟩ := bnd_elim hf
      have fσ9 : Fr ([g]) σ σ9 := by rw [hσ9]; exact fr_setI fσ4 (by rw [key_ne (obG_ne hg)]; first | (simp [gk]; done) | (simp only [gk, List.mem_append, List.mem_cons, List.not_mem_nil, or_false, false_or]; omega))
      have hq := Option.some.inj hf
      subst hq
      exact fσ9
    · rw [if_neg hc5] at hf
      by_cases hc10 : (σ4.1 g 0) = (2 : Int32)
      · rw [if_pos hc10] at hf
        have hq := Option.some.inj hf
        subst hq
        exact fσ4
      · rw [if_neg hc10] at hf
        obtain ⟨σ11, hσ11, hf⟩ := bnd_elim hf
        have fσ11 : Fr ([g]) σ σ11 := by rw [hσ11]; exact fr_setI fσ4 (by rw [key_ne (obG_ne hg)]; first | (simp [gk]; done) | (simp only [gk, List.mem_append, List.mem_cons, List.not_mem_nil, or_false, false_or]; omega))
        have hq := Option.some.inj hf
        subst hq
        exact fσ11
  by_cases hc12 : (fX3_isOf g (1 : Int32) q6) = 0
  · rw [if_pos hc12] at hf
    by_cases hc13 : (q6.1 g 2) = (q6.1 g 1)
    · rw [if_pos hc13] at hf
      obtain ⟨σ14, hσ14, hf⟩ := bnd_elim hf
      have fσ14 : Fr ([g]) σ σ14 := by rw [hσ14]; exact fr_setI f8 (by rw [key_ne (obG_ne hg)]; first | (simp [gk]; done) | (simp only [gk, List.mem_append, List.mem_cons, List.not_mem_nil, or_false, false_or]; omega))
      have hq := Option.some.inj hf
      subst hq
      exact fσ14
    · rw [if_neg hc13] at hf
      have hq := Option.some.inj hf
      subst hq
      exact f8
  · rw [if_neg hc12] at hf
    by_cases hc15 : (q6.1 g 4) < p2
    · rw [if_pos hc15] at hf
      by_cases hc16 : (q6.1 g 2) = (q6.1 g 1)
      · rw [if_pos hc16] at hf
        obtain ⟨σ17, hσ17, hf⟩ := bnd_elim hf
        have fσ17 : Fr ([g]) σ σ17 := by rw [hσ17]; exact fr_setI f8 (by rw [key_ne (obG_ne hg)]; first | (simp [gk]; done) | (simp only [gk, List.mem_append, List.mem_cons, List.not_mem_nil, or_false, false_or]; omega))
        have hq := Option.some.inj hf
        subst hq
        exact fσ17
      · rw [if_neg hc16] at hf
        have hq := Option.some.inj hf
        subst hq
        exact f8
    · rw [if_neg hc15] at hf
      obtain ⟨σ18, hσ18, hf⟩ := bnd_elim hf
      have fσ18 : Fr ([g]) σ σ18 := by rw [hσ18]; exact fr_setI f8 (by rw [key_ne (obG_ne hg)]; first | (simp [gk]; done) | (simp only [gk, List.mem_append, List.mem_cons, List.not_mem_nil, or_false, false_or]; omega))
      have hq := Option.some.inj hf
      subst hq
      exact fσ18
set_option maxHeartbeats 4000000 in
theorem frX7_handOn (w : Nat) (g1 : Nat) (p2 : Int32) (p3 : Int32) (σ : St) (hw : isW w) (hg1 : OB g1 3 8) (q : St) (hf : fX7_handOn w g1 p2 p3 σ = some q) : Fr ([w + 5, g1, w + 3]) σ q := by
  unfold fX7_handOn at hf
  obtain ⟨hb1, hf⟩ := grd_elim hf
  obtain ⟨hb2, hf⟩ := grd_elim hf
  obtain ⟨σ3, hσ3, hf⟩ := bnd_elim hf
  have fσ3 : Fr ([w + 5, g1, w + 3]) σ σ3 := by rw [hσ3]; exact fr_setI fr_rfl (by have hw9 := hw; unfold isW at hw9; rw [key_ne (by omega)]; first | (simp [gk]; done) | (simp only [gk, List.mem_append, List.mem_cons, List.not_mem_nil, or_false, false_or]; omega))
  obtain ⟨q4, hq4, hf⟩ := obind hf
  have fq4 : Fr ([w + 5, g1, w + 3]) σ q4 := fr_tr fσ3 (frX3_moveTo g1 p2 p3 σ3 hg1 _ hq4) (by intro x9 hx9; first | exact absurd hx9 List.not_mem_nil | exact hx9 | (simp [gk] at hx9 ⊢; omega) | (simp only [gk, List.mem_append, List.mem_cons, List.not_mem_nil, or_false, false_or] at hx9 ⊢; omega))
  by_cases hc5 : (q4.1 g1 6) = (1 : Int32)
  · rw [if_pos hc5] at hf
    obtain ⟨hb6, hf⟩ := grd_elim hf
    obtain ⟨hb7, hf⟩ := grd_elim hf
    obtain ⟨σ8, hσ8, hf⟩ := bnd_elim hf
    have fσ8 : Fr ([w + 5, g1, w + 3]) σ σ8 := by rw [hσ8]; exact fr_setI fq4 (by have hw9 := hw; unfold isW at hw9; rw [key_ne (by omega)]; first | (simp [gk]; done) | (simp only [gk, List.mem_append, List.mem_cons, List.not_mem_nil, or_false, false_or]; omega))
    have hq := Option.some.inj hf
    subst hq
    exact fσ8
  · rw [if_neg hc5] at hf
    have hq := Option.some.inj hf
    subst hq
    exact fq4
set_option maxHeartbeats 4000000 in
theorem frX8_give (p1 : Int32) (p2 : Int32) (σ : St)  (q : Int32 × St) (hf : fX8_give p1 p2 σ = some q) : Fr ([9, 7] ++ gk 4) σ q.2 := by
  unfold fX8_give at hf
  by_cases hc1 : (fX8_isGift p1 σ) = 0
  · rw [if_pos hc1] at hf
    have hq := Option.some.inj hf
    subst hq
    exact fr_rfl
  · rw [if_neg hc1] at hf
    by_cases hc2 : (fX8_isPerson p2 σ) = 0
    · rw [if_pos hc2] at hf
      have hq := Option.some.inj hf
      subst hq
      exact fr_rfl
    · rw [if_neg hc2] at hf
      obtain ⟨hb3, hf⟩ := grd_elim hf
      by_cases hc4 : (fX3_lives (4 + 7 + p1.toNatClampNeg) σ) = 0
      · rw [if_pos hc4] at hf
        have hq := Option.some.inj hf
        subst hq
        exact fr_rfl
      · rw [if_neg hc4] at hf
        obtain ⟨q5, hq5, hf⟩ := obind hf
        by_cases hc6 : (q5 &&& (fX8_bit p2)) = 0
        · rw [if_pos hc6] at hf
          have hq := Option.some.inj hf
          subst hq
          exact fr_rfl
        · rw [if_neg hc6] at hf
          obtain ⟨hb7, hf⟩ := grd_elim hf
          obtain ⟨q8, hq8, hf⟩ := obind hf
          have fq8 : Fr ([9, 7] ++ gk 4) σ q8 := fr_tr fr_rfl (frX7_handOn 4 (4 + 7 + p1.toNatClampNeg) p2 (σ.1 3 3) σ isW_4 (obG isW_4 hb7) _ hq8) (by intro x9 hx9; have hk9 := gmem isW_4 hb7; simp only [gk, List.mem_cons, List.not_mem_nil, or_false] at hk9; first | exact absurd hx9 List.not_mem_nil | exact hx9 | (simp [gk] at hx9 ⊢; omega) | (simp only [gk, List.mem_append, List.mem_cons, List.not_mem_nil, or_false, false_or] at hx9 ⊢; omega))
          obtain ⟨hb9, hf⟩ := grd_elim hf
          have hq := Option.some.inj hf
          subst hq
          exact fq8
set_option maxHeartbeats 4000000 in
theorem frX2_oneOf_L47 (c1 : Int32) (σ : St)  (q : Sum (Int32 × St) (Unit)) : ∀ (n : Nat) (v3 : Int32) (v4 : Int32), fX2_oneOf_L47 c1 σ n v3 v4 = some q → ∀ z, q = .inl z → Fr [] σ z.2 := by
  intro n
  induction n with
  | zero =>
    intro v3 v4 hf
    simp only [fX2_oneOf_L47] at hf
    exact absurd hf (by simp)
  | succ n ih =>
    intro v3 v4 hf
    rw [fX2_oneOf_L47] at hf
    by_cases hc6 : (8 : Int32) ≤ v4
    · rw [if_pos hc6] at hf
      have hq := Option.some.inj hf
      intro z hz
      rw [← hq] at hz
      cases hz
    · rw [if_neg hc6] at hf
      by_cases hc7 : (c1 &&& (fX8_bit v4)) = 0
      · rw [if_pos hc7] at hf
        exact ih v3 (v4 + (1 : Int32)) hf
      · rw [if_neg hc7] at hf
        by_cases hc8 : v3 = 0
        · rw [if_pos hc8] at hf
          have hq := Option.some.inj hf
          intro z hz
          rw [← hq] at hz
          rw [← Sum.inl.inj hz]
          exact fr_rfl
        · rw [if_neg hc8] at hf
          exact ih (v3 + (-1 : Int32)) (v4 + (1 : Int32)) hf
set_option maxHeartbeats 4000000 in
theorem frX2_oneOf (p1 : Int32) (σ : St)  (q : Int32 × St) (hf : fX2_oneOf p1 σ = some q) : Fr ([]) σ q.2 := by
  unfold fX2_oneOf at hf
  obtain ⟨x1, hx1, hf⟩ := bnd_elim hf
  by_cases hc2 : x1 = 0
  · rw [if_pos hc2] at hf
    have hq := Option.some.inj hf
    subst hq
    exact fr_rfl
  · rw [if_neg hc2] at hf
    obtain ⟨σ3, hσ3, hf⟩ := bnd_elim hf
    have fσ3 : Fr ([]) σ σ3 := by rw [hσ3]; exact fr_setL fr_rfl
    obtain ⟨hb4, hf⟩ := grd_elim hf
    obtain ⟨x5, hx5, hf⟩ := bnd_elim hf
    obtain ⟨s11, hr10, hf⟩ := obind hf
    rcases s11 with z12 | q9
    · skip
      simp only [Sum.elim_inl] at hf
      have hq := Option.some.inj hf
      subst hq
      exact (fr_tr fσ3 (frX2_oneOf_L47 p1 σ3  _ fu x5 (0 : Int32) hr10 _ rfl) (by intro x9 hx9; first | exact absurd hx9 List.not_mem_nil | exact hx9 | (simp [gk] at hx9 ⊢; omega) | (simp only [gk, List.mem_append, List.mem_cons, List.not_mem_nil, or_false, false_or] at hx9 ⊢; omega)))
    · simp only [Sum.elim_inr] at hf
      have hq := Option.some.inj hf
      subst hq
      exact fσ3
set_option maxHeartbeats 4000000 in
theorem frX7_passYear_L12 (w0 : Nat) (hw0 : isW w0) (q : (St)) : ∀ (n : Nat) (v3 : Int32) (σ : St), fX7_passYear_L12 w0 n v3 σ = some q → Fr ([] ++ gk w0) σ q := by
  intro n
  induction n with
  | zero =>
    intro v3 σ hf
    simp only [fX7_passYear_L12] at hf
    exact absurd hf (by simp)
  | succ n ih =>
    intro v3 σ hf
    rw [fX7_passYear_L12] at hf
    by_cases hc2 : (σ.1 w0 6) ≤ v3
    · rw [if_pos hc2] at hf
      have hq := Option.some.inj hf
      rw [← hq]
      exact fr_rfl
    · rw [if_neg hc2] at hf
      obtain ⟨hb3, hf⟩ := grd_elim hf
      by_cases hc4 : (fX3_lives (w0 + 7 + v3.toNatClampNeg) σ) = 0
      · rw [if_pos hc4] at hf
        exact fr_trS fr_rfl (ih (v3 + (1 : Int32)) σ hf)
      · rw [if_neg hc4] at hf
        obtain ⟨hb5, hf⟩ := grd_elim hf
        obtain ⟨σ6, hσ6, hf⟩ := bnd_elim hf
        have fσ6 : Fr ([] ++ gk w0) σ σ6 := by rw [hσ6]; exact fr_setI fr_rfl (by have hk9 := keyGm (s := 5) hw0 hb5; first | exact hk9 | (simp [gk] at hk9 ⊢; omega))
        exact fr_trS fσ6 (ih (v3 + (1 : Int32)) σ6 hf)
set_option maxHeartbeats 4000000 in
theorem frX7_passYear_L61 (w0 : Nat) (hw0 : isW w0) (q : (Int32 × St)) : ∀ (n : Nat) (v3 : Int32) (v4 : Int32) (v5 : Int32) (σ : St), fX7_passYear_L61 w0 n v3 v4 v5 σ = some q → Fr ([w0 + 5, w0 + 3] ++ gk w0) σ q.2 := by
  intro n
  induction n with
  | zero =>
    intro v3 v4 v5 σ hf
    simp only [fX7_passYear_L61] at hf
    exact absurd hf (by simp)
  | succ n ih =>
    intro v3 v4 v5 σ hf
    rw [fX7_passYear_L61] at hf
    by_cases hc10 : (σ.1 w0 6) ≤ v5
    · rw [if_pos hc10] at hf
      have hq := Option.some.inj hf
      rw [← hq]
      exact fr_rfl
    · rw [if_neg hc10] at hf
      obtain ⟨hb11, hf⟩ := grd_elim hf
      obtain ⟨x12, hx12, hf⟩ := bnd_elim hf
      obtain ⟨hb13, hf⟩ := grd_elim hf
      by_cases hc14 : (fX3_mustGo (w0 + 7 + v5.toNatClampNeg) (σ.1 3 0) σ) = 0
      · rw [if_pos hc14] at hf
        exact fr_trS fr_rfl (ih v3 v4 (v5 + (1 : Int32)) σ hf)
      · rw [if_neg hc14] at hf
        by_cases hc15 : (σ.1 3 2) = 0
        · rw [if_pos hc15] at hf
          obtain ⟨hb16, hf⟩ := grd_elim hf
          obtain ⟨q17, hq17, hf⟩ := obind hf
          by_cases hc18 : q17 = 0
          · rw [if_pos hc18] at hf
            exact fr_trS fr_rfl (ih v3 v4 (v5 + (1 : Int32)) σ hf)
          · rw [if_neg hc18] at hf
            obtain ⟨q19, hq19, hf⟩ := obind hf
            have fq19 : Fr ([w0 + 5, w0 + 3] ++ gk w0) σ q19.2 := fr_tr fr_rfl (frX2_oneOf q17 σ _ hq19) (by intro x9 hx9; first | exact absurd hx9 List.not_mem_nil | exact hx9 | (simp [gk] at hx9 ⊢; omega) | (simp only [gk, List.mem_append, List.mem_cons, List.not_mem_nil, or_false, false_or] at hx9 ⊢; omega))
            by_cases hc20 : q19.1 = (-1 : Int32)
            · rw [if_pos hc20] at hf
              exact fr_trS fq19 (ih v3 v4 (v5 + (1 : Int32)) q19.2 hf)
            · rw [if_neg hc20] at hf
              obtain ⟨hb21, hf⟩ := grd_elim hf
              obtain ⟨q22, hq22, hf⟩ := obind hf
              have fq22 : Fr ([w0 + 5, w0 + 3] ++ gk w0) σ q22 := fr_tr fq19 (frX7_handOn w0 (w0 + 7 + v5.toNatClampNeg) q19.1 (q19.2.1 3 3) q19.2 hw0 (obG hw0 hb21) _ hq22) (by intro x9 hx9; have hk9 := gmem hw0 hb21; simp only [gk, List.mem_cons, List.not_mem_nil, or_false] at hk9; first | exact absurd hx9 List.not_mem_nil | exact hx9 | (simp [gk] at hx9 ⊢; omega) | (simp only [gk, List.mem_append, List.mem_cons, List.not_mem_nil, or_false, false_or] at hx9 ⊢; omega))
              exact fr_trS fq22 (ih (v3 + (1 : Int32)) (v4 ||| (fX8_bit x12)) (v5 + (1 : Int32)) q22 hf)
        · rw [if_neg hc15] at hf
          by_cases hc23 : (v4 &&& (fX8_bit x12)) = 0
          · rw [if_pos hc23] at hf
            obtain ⟨hb24, hf⟩ := grd_elim hf
            obtain ⟨q25, hq25, hf⟩ := obind hf
            by_cases hc26 : q25 = 0
            · rw [if_pos hc26] at hf
              exact fr_trS fr_rfl (ih v3 v4 (v5 + (1 : Int32)) σ hf)
            · rw [if_neg hc26] at hf
              obtain ⟨q27, hq27, hf⟩ := obind hf
              have fq27 : Fr ([w0 + 5, w0 + 3] ++ gk w0) σ q27.2 := fr_tr fr_rfl (frX2_oneOf q25 σ _ hq27) (by intro x9 hx9; first | exact absurd hx9 List.not_mem_nil | exact hx9 | (simp [gk] at hx9 ⊢; omega) | (simp only [gk, List.mem_append, List.mem_cons, List.not_mem_nil, or_false, false_or] at hx9 ⊢; omega))
              by_cases hc28 : q27.1 = (-1 : Int32)
              · rw [if_pos hc28] at hf
                exact fr_trS fq27 (ih v3 v4 (v5 + (1 : Int32)) q27.2 hf)
              · rw [if_neg hc28] at hf
                obtain ⟨hb29, hf⟩ := grd_elim hf
                obtain ⟨q30, hq30, hf⟩ := obind hf
                have fq30 : Fr ([w0 + 5, w0 + 3] ++ gk w0) σ q30 := fr_tr fq27 (frX7_handOn w0 (w0 + 7 + v5.toNatClampNeg) q27.1 (q27.2.1 3 3) q27.2 hw0 (obG hw0 hb29) _ hq30) (by intro x9 hx9; have hk9 := gmem hw0 hb29; simp only [gk, List.mem_cons, List.not_mem_nil, or_false] at hk9; first | exact absurd hx9 List.not_mem_nil | exact hx9 | (simp [gk] at hx9 ⊢; omega) | (simp only [gk, List.mem_append, List.mem_cons, List.not_mem_nil, or_false, false_or] at hx9 ⊢; omega))
                exact fr_trS fq30 (ih (v3 + (1 : Int32)) (v4 ||| (fX8_bit x12)) (v5 + (1 : Int32)) q30 hf)
          · rw [if_neg hc23] at hf
            exact fr_trS fr_rfl (ih v3 v4 (v5 + (1 : Int32)) σ hf)
set_option maxHeartbeats 4000000 in
theorem frX7_passYear (w : Nat) (σ : St) (hw : isW w) (q : Int32 × St) (hf : fX7_passYear w σ = some q) : Fr ([w, w + 5, w + 3] ++ gk w) σ q.2 := by
  unfold fX7_passYear at hf
  obtain ⟨σ1, hσ1, hf⟩ := bnd_elim hf
  have fσ1 : Fr ([w, w + 5, w + 3] ++ gk w) σ σ1 := by rw [hσ1]; exact fr_setI fr_rfl (by have hw9 := hw; unfold isW at hw9; rw [key_ne (by omega)]; first | (simp [gk]; done) | (simp only [gk, List.mem_append, List.mem_cons, List.not_mem_nil, or_false, false_or]; omega))
  obtain ⟨q7, hr8, hf⟩ := obind hf
  have f9 : Fr ([w, w + 5, w + 3] ++ gk w) σ q7 := fr_tr fσ1 (frX7_passYear_L12 w hw q7 fu (0 : Int32) σ1 hr8) (by intro x9 hx9; first | exact absurd hx9 List.not_mem_nil | exact hx9 | (simp [gk] at hx9 ⊢; omega) | (simp only [gk, List.mem_append, List.mem_cons, List.not_mem_nil, or_false, false_or] at hx9 ⊢; omega))
  obtain ⟨q31, hr32, hf⟩ := obind hf
  have f33 : Fr ([w, w + 5, w + 3] ++ gk w) σ q31.2 := fr_tr f9 (frX7_passYear_L61 w hw q31 fu (0 : Int32) (0 : Int32) (0 : Int32) q7 hr32) (by intro x9 hx9; first | exact absurd hx9 List.not_mem_nil | exact hx9 | (simp [gk] at hx9 ⊢; omega) | (simp only [gk, List.mem_append, List.mem_cons, List.not_mem_nil, or_false, false_or] at hx9 ⊢; omega))
  have hq := Option.some.inj hf
  subst hq
  exact f33
set_option maxHeartbeats 4000000 in
theorem frX7_passYear_n_L12 (w0 : Nat) (hw0 : isW w0) (q : (St)) : ∀ (n : Nat) (v3 : Int32) (σ : St), fX7_passYear_n_L12 w0 n v3 σ = some q → Fr ([] ++ gk w0) σ q := by
  intro n
  induction n with
  | zero =>
    intro v3 σ hf
    simp only [fX7_passYear_n_L12] at hf
    exact absurd hf (by simp)
  | succ n ih =>
    intro v3 σ hf
    rw [fX7_passYear_n_L12] at hf
    by_cases hc2 : (σ.1 w0 6) ≤ v3
    · rw [if_pos hc2] at hf
      have hq := Option.some.inj hf
      rw [← hq]
      exact fr_rfl
    · rw [if_neg hc2] at hf
      obtain ⟨hb3, hf⟩ := grd_elim hf
      by_cases hc4 : (fX3_lives (w0 + 7 + v3.toNatClampNeg) σ) = 0
      · rw [if_pos hc4] at hf
        exact fr_trS fr_rfl (ih (v3 + (1 : Int32)) σ hf)
      · rw [if_neg hc4] at hf
        obtain ⟨hb5, hf⟩ := grd_elim hf
        obtain ⟨σ6, hσ6, hf⟩ := bnd_elim hf
        have fσ6 : Fr ([] ++ gk w0) σ σ6 := by rw [hσ6]; exact fr_setI fr_rfl (by have hk9 := keyGm (s := 5) hw0 hb5; first | exact hk9 | (simp [gk] at hk9 ⊢; omega))
        exact fr_trS fσ6 (ih (v3 + (1 : Int32)) σ6 hf)
set_option maxHeartbeats 4000000 in
theorem frX7_passYear_n_L61 (w0 : Nat) (hw0 : isW w0) (q : (Int32 × St)) : ∀ (n : Nat) (v3 : Int32) (v4 : Int32) (v5 : Int32) (σ : St), fX7_passYear_n_L61 w0 n v3 v4 v5 σ = some q → Fr ([w0 + 5, w0 + 3] ++ gk w0) σ q.2 := by
  intro n
  induction n with
  | zero =>
    intro v3 v4 v5 σ hf
    simp only [fX7_passYear_n_L61] at hf
    exact absurd hf (by simp)
  | succ n ih =>
    intro v3 v4 v5 σ hf
    rw [fX7_passYear_n_L61] at hf
    by_cases hc10 : (σ.1 w0 6) ≤ v5
    · rw [if_pos hc10] at hf
      have hq := Option.some.inj hf
      rw [← hq]
      exact fr_rfl
    · rw [if_neg hc10] at hf
      obtain ⟨hb11, hf⟩ := grd_elim hf
      obtain ⟨x12, hx12, hf⟩ := bnd_elim hf
      obtain ⟨hb13, hf⟩ := grd_elim hf
      by_cases hc14 : (fX3_mustGo (w0 + 7 + v5.toNatClampNeg) (σ.1 3 0) σ) = 0
      · rw [if_pos hc14] at hf
        exact fr_trS fr_rfl (ih v3 v4 (v5 + (1 : Int32)) σ hf)
      · rw [if_neg hc14] at hf
        by_cases hc15 : (σ.1 3 2) = 0
        · rw [if_pos hc15] at hf
          obtain ⟨hb16, hf⟩ := grd_elim hf
          obtain ⟨q17, hq17, hf⟩ := obind hf
          by_cases hc18 : q17 = 0
          · rw [if_pos hc18] at hf
            exact fr_trS fr_rfl (ih v3 v4 (v5 + (1 : Int32)) σ hf)
          · rw [if_neg hc18] at hf
            obtain ⟨q19, hq19, hf⟩ := obind hf
            by_cases hc20 : q19 = (-1 : Int32)
            · rw [if_pos hc20] at hf
              exact fr_trS fr_rfl (ih v3 v4 (v5 + (1 : Int32)) σ hf)
            · rw [if_neg hc20] at hf
              obtain ⟨hb21, hf⟩ := grd_elim hf
              obtain ⟨q22, hq22, hf⟩ := obind hf
              have fq22 : Fr ([w0 + 5, w0 + 3] ++ gk w0) σ q22 := fr_tr fr_rfl (frX7_handOn w0 (w0 + 7 + v5.toNatClampNeg) q19 (σ.1 3 3) σ hw0 (obG hw0 hb21) _ hq22) (by intro x9 hx9; have hk9 := gmem hw0 hb21; simp only [gk, List.mem_cons, List.not_mem_nil, or_false] at hk9; first | exact absurd hx9 List.not_mem_nil | exact hx9 | (simp [gk] at hx9 ⊢; omega) | (simp only [gk, List.mem_append, List.mem_cons, List.not_mem_nil, or_false, false_or] at hx9 ⊢; omega))
              exact fr_trS fq22 (ih (v3 + (1 : Int32)) (v4 ||| (fX8_bit x12)) (v5 + (1 : Int32)) q22 hf)
        · rw [if_neg hc15] at hf
          by_cases hc23 : (v4 &&& (fX8_bit x12)) = 0
          · rw [if_pos hc23] at hf
            obtain ⟨hb24, hf⟩ := grd_elim hf
            obtain ⟨q25, hq25, hf⟩ := obind hf
            by_cases hc26 : q25 = 0
            · rw [if_pos hc26] at hf
              exact fr_trS fr_rfl (ih v3 v4 (v5 + (1 : Int32)) σ hf)
            · rw [if_neg hc26] at hf
              obtain ⟨q27, hq27, hf⟩ := obind hf
              by_cases hc28 : q27 = (-1 : Int32)
              · rw [if_pos hc28] at hf
                exact fr_trS fr_rfl (ih v3 v4 (v5 + (1 : Int32)) σ hf)
              · rw [if_neg hc28] at hf
                obtain ⟨hb29, hf⟩ := grd_elim hf
                obtain ⟨q30, hq30, hf⟩ := obind hf
                have fq30 : Fr ([w0 + 5, w0 + 3] ++ gk w0) σ q30 := fr_tr fr_rfl (frX7_handOn w0 (w0 + 7 + v5.toNatClampNeg) q27 (σ.1 3 3) σ hw0 (obG hw0 hb29) _ hq30) (by intro x9 hx9; have hk9 := gmem hw0 hb29; simp only [gk, List.mem_cons, List.not_mem_nil, or_false] at hk9; first | exact absurd hx9 List.not_mem_nil | exact hx9 | (simp [gk] at hx9 ⊢; omega) | (simp only [gk, List.mem_append, List.mem_cons, List.not_mem_nil, or_false, false_or] at hx9 ⊢; omega))
                exact fr_trS fq30 (ih (v3 + (1 : Int32)) (v4 ||| (fX8_bit x12)) (v5 + (1 : Int32)) q30 hf)
          · rw [if_neg hc23] at hf
            exact fr_trS fr_rfl (ih v3 v4 (v5 + (1 : Int32)) σ hf)
set_option maxHeartbeats 4000000 in
theorem frX7_passYear_n (w : Nat) (σ : St) (hw : isW w) (q : Int32 × St) (hf : fX7_passYear_n w σ = some q) : Fr ([w, w + 5, w + 3] ++ gk w) σ q.2 := by
  unfold fX7_passYear_n at hf
  obtain ⟨σ1, hσ1, hf⟩ := bnd_elim hf
  have fσ1 : Fr ([w, w + 5, w + 3] ++ gk w) σ σ1 := by rw [hσ1]; exact fr_setI fr_rfl (by have hw9 := hw; unfold isW at hw9; rw [key_ne (by omega)]; first | (simp [gk]; done) | (simp only [gk, List.mem_append, List.mem_cons, List.not_mem_nil, or_false, false_or]; omega))
  obtain ⟨q7, hr8, hf⟩ := obind hf
  have f9 : Fr ([w, w + 5, w + 3] ++ gk w) σ q7 := fr_tr fσ1 (frX7_passYear_n_L12 w hw q7 fu (0 : Int32) σ1 hr8) (by intro x9 hx9; first | exact absurd hx9 List.not_mem_nil | exact hx9 | (simp [gk] at hx9 ⊢; omega) | (simp only [gk, List.mem_append, List.mem_cons, List.not_mem_nil, or_false, false_or] at hx9 ⊢; omega))
  obtain ⟨q31, hr32, hf⟩ := obind hf
  have f33 : Fr ([w, w + 5, w + 3] ++ gk w) σ q31.2 := fr_tr f9 (frX7_passYear_n_L61 w hw q31 fu (0 : Int32) (0 : Int32) (0 : Int32) q7 hr32) (by intro x9 hx9; first | exact absurd hx9 List.not_mem_nil | exact hx9 | (simp [gk] at hx9 ⊢; omega) | (simp only [gk, List.mem_append, List.mem_cons, List.not_mem_nil, or_false, false_or] at hx9 ⊢; omega))
  have hq := Option.some.inj hf
  subst hq
  exact f33
set_option maxHeartbeats 4000000 in
theorem frX8_years_L17 (c1 : Int32)  (q : (Int32 × St)) : ∀ (n : Nat) (v2 : Int32) (v3 : Int32) (σ : St), fX8_years_L17 c1 n v2 v3 σ = some q → Fr ([4, 9, 7] ++ gk 4) σ q.2 := by
  intro n
  induction n with
  | zero =>
    intro v2 v3 σ hf
    simp only [fX8_years_L17] at hf
    exact absurd hf (by simp)
  | succ n ih =>
    intro v2 v3 σ hf
    rw [fX8_years_L17] at hf
    by_cases hc2 : c1 ≤ v3
    · rw [if_pos hc2] at hf
      have hq := Option.some.inj hf
      rw [← hq]
      exact fr_rfl
    · rw [if_neg hc2] at hf
      obtain ⟨q3, hq3, hf⟩ := obind hf
      have fq3 : Fr ([4, 9, 7] ++ gk 4) σ q3.2 := fr_tr fr_rfl (frX7_passYear_n 4 σ isW_4 _ hq3) (by intro x9 hx9; first | exact absurd hx9 List.not_mem_nil | exact hx9 | (simp [gk] at hx9 ⊢; omega) | (simp only [gk, List.mem_append, List.mem_cons, List.not_mem_nil, or_false, false_or] at hx9 ⊢; omega))
      exact fr_trS fq3 (ih (v2 + q3.1) (v3 + (1 : Int32)) q3.2 hf)
set_option maxHeartbeats 4000000 in
theorem frX8_years (p1 : Int32) (σ : St)  (q : Int32 × St) (hf : fX8_years p1 σ = some q) : Fr ([4, 9, 7] ++ gk 4) σ q.2 := by
  unfold fX8_years at hf
  by_cases hc1 : (fX8_within p1 (1 : Int32) (30 : Int32)) = 0
  · rw [if_pos hc1] at hf
    have hq := Option.some.inj hf
    subst hq
    exact fr_rfl
  · rw [if_neg hc1] at hf
    obtain ⟨q4, hr5, hf⟩ := obind hf
    have f6 : Fr ([4, 9, 7] ++ gk 4) σ q4.2 := fr_tr fr_rfl (frX8_years_L17 p1 q4 fu (0 : Int32) (0 : Int32) σ hr5) (by intro x9 hx9; first | exact absurd hx9 List.not_mem_nil | exact hx9 | (simp [gk] at hx9 ⊢; omega) | (simp only [gk, List.mem_append, List.mem_cons, List.not_mem_nil, or_false, false_or] at hx9 ⊢; omega))
    have hq := Option.some.inj hf
    subst hq
    exact f6
set_option maxHeartbeats 4000000 in
theorem frX6_clear_L2 (a0 n0 : Nat) (ha0 : LA a0 n0) (q : (St)) : ∀ (n : Nat) (v1 : Int32) (σ : St), fX6_clear_L2 a0 n0 n v1 σ = some q → Fr ([]) σ q := by
  intro n
  induction n with
  | zero =>
    intro v1 σ hf
    simp only [fX6_clear_L2] at hf
    exact absurd hf (by simp)
  | succ n ih =>
    intro v1 σ hf
    rw [fX6_clear_L2] at hf
    by_cases hc1 : (Int32.ofNat n0) ≤ v1
    · rw [if_pos hc1] at hf
      have hq := Option.some.inj hf
      rw [← hq]
      exact fr_rfl
    · rw [if_neg hc1] at hf
      obtain ⟨hb2, hf⟩ := grd_elim hf
      obtain ⟨σ3, hσ3, hf⟩ := bnd_elim hf
      have fσ3 : Fr ([]) σ σ3 := by rw [hσ3]; exact fr_setL fr_rfl
      exact fr_trS fσ3 (ih (v1 + (1 : Int32)) σ3 hf)
set_option maxHeartbeats 4000000 in
theorem frX6_clear (a0 n0 : Nat) (σ : St) (ha0 : LA a0 n0) (q : St) (hf : fX6_clear a0 n0 σ = some q) : Fr ([]) σ q := by
  unfold fX6_clear at hf
  obtain ⟨q4, hr5, hf⟩ := obind hf
  have f6 : Fr ([]) σ q4 := fr_tr fr_rfl (frX6_clear_L2 a0 n0 ha0 q4 fu (0 : Int32) σ hr5) (by intro x9 hx9; first | exact absurd hx9 List.not_mem_nil | exact hx9 | (simp [gk] at hx9 ⊢; omega) | (simp only [gk, List.mem_append, List.mem_cons, List.not_mem_nil, or_false, false_or] at hx9 ⊢; omega))
  have hq := Option.some.inj hf
  subst hq
  exact f6
set_option maxHeartbeats 4000000 in
theorem frX6_begin (p1 : Int32) (p2 : Int32) (σ : St)  (q : St) (hf : fX6_begin p1 p2 σ = some q) : Fr ([]) σ q := by
  unfold fX6_begin at hf
  obtain ⟨q1, hq1, hf⟩ := obind hf
  have fq1 : Fr ([]) σ q1 := fr_tr fr_rfl (frX6_clear 51 72 σ la_51 _ hq1) (by intro x9 hx9; first | exact absurd hx9 List.not_mem_nil | exact hx9 | (simp [gk] at hx9 ⊢; omega) | (simp only [gk, List.mem_append, List.mem_cons, List.not_mem_nil, or_false, false_or] at hx9 ⊢; omega))
  obtain ⟨hb2, hf⟩ := grd_elim hf
  obtain ⟨σ3, hσ3, hf⟩ := bnd_elim hf
  have fσ3 : Fr ([]) σ σ3 := by rw [hσ3]; exact fr_setL fq1
  have hq := Option.some.inj hf
  subst hq
  exact fσ3
set_option maxHeartbeats 4000000 in
theorem frX6_spread_L3 (c1 : Int64) (c3 : Int32) (c4 : Int32)  (q : (St)) : ∀ (n : Nat) (v5 : Int32) (σ : St), fX6_spread_L3 c1 c3 c4 n v5 σ = some q → Fr ([]) σ q := by
  intro n
  induction n with
  | zero =>
    intro v5 σ hf
    simp only [fX6_spread_L3] at hf
    exact absurd hf (by simp)
  | succ n ih =>
    intro v5 σ hf
    rw [fX6_spread_L3] at hf
    by_cases hc1 : (8 : Int32) ≤ v5
    · rw [if_pos hc1] at hf
      have hq := Option.some.inj hf
      rw [← hq]
      exact fr_rfl
    · rw [if_neg hc1] at hf
      by_cases hc2 : (c4 &&& (fX8_bit v5)) = 0
      · rw [if_pos hc2] at hf
        exact fr_trS fr_rfl (ih (v5 + (1 : Int32)) σ hf)
      · rw [if_neg hc2] at hf
        obtain ⟨hb3, hf⟩ := grd_elim hf
        obtain ⟨hb4, hf⟩ := grd_elim hf
        obtain ⟨σ5, hσ5, hf⟩ := bnd_elim hf
        have fσ5 : Fr ([]) σ σ5 := by rw [hσ5]; exact fr_setL fr_rfl
        exact fr_trS fσ5 (ih (v5 + (1 : Int32)) σ5 hf)
set_option maxHeartbeats 4000000 in
theorem frX6_spread (p1 : Int64) (p3 : Int32) (p4 : Int32) (σ : St)  (q : St) (hf : fX6_spread p1 p3 p4 σ = some q) : Fr ([]) σ q := by
  unfold fX6_spread at hf
  obtain ⟨q6, hr7, hf⟩ := obind hf
  have f8 : Fr ([]) σ q6 := fr_tr fr_rfl (frX6_spread_L3 p1 p3 p4 q6 fu (0 : Int32) σ hr7) (by intro x9 hx9; first | exact absurd hx9 List.not_mem_nil | exact hx9 | (simp [gk] at hx9 ⊢; omega) | (simp only [gk, List.mem_append, List.mem_cons, List.not_mem_nil, or_false, false_or] at hx9 ⊢; omega))
  have hq := Option.some.inj hf
  subst hq
  exact f8
set_option maxHeartbeats 4000000 in
theorem frX6_goOn_L25 (w1 : Nat) (c2 : Int32) (c3 : Int32) (c4 : Int32) (c7 : Int32) (hw1 : isW w1) (q : (Int64 × St)) : ∀ (n : Nat) (v5 : Int64) (v8 : Int32) (σ : St), fX6_goOn_L25 w1 c2 c3 c4 c7 n v5 v8 σ = some q → Fr ([]) σ q.2 := by
  intro n
  induction n with
  | zero =>
    intro v5 v8 σ hf
    simp only [fX6_goOn_L25] at hf
    exact absurd hf (by simp)
  | succ n ih =>
    intro v5 v8 σ hf
    rw [fX6_goOn_L25] at hf
    by_cases hc3 : (σ.1 w1 0) ≤ v8
    · rw [if_pos hc3] at hf
      have hq := Option.some.inj hf
      rw [← hq]
      exact fr_rfl
    · rw [if_neg hc3] at hf
      obtain ⟨hb4, hf⟩ := grd_elim hf
      obtain ⟨x5, hx5, hf⟩ := bnd_elim hf
      obtain ⟨q7, hr8, hf⟩ := obind hf
      by_cases hc9 : q7 = 0
      · rw [if_pos hc9] at hf
        exact fr_trS fr_rfl (ih v5 (v8 + (1 : Int32)) σ hf)
      · rw [if_neg hc9] at hf
        obtain ⟨q11, hr12, hf⟩ := obind hf
        obtain ⟨x14, hx14, hf⟩ := bnd_elim hf
        obtain ⟨q15, hq15, hf⟩ := obind hf
        have fq15 : Fr ([]) σ q15 := fr_tr fr_rfl (frX6_spread q11 v8 (q7 &&& ((fX8_bit c3) ^^^ (-1 : Int32))) σ _ hq15) (by intro x9 hx9; first | exact absurd hx9 List.not_mem_nil | exact hx9 | (simp [gk] at hx9 ⊢; omega) | (simp only [gk, List.mem_append, List.mem_cons, List.not_mem_nil, or_false, false_or] at hx9 ⊢; omega))
        exact fr_trS fq15 (ih x14 (v8 + (1 : Int32)) q15 hf)
set_option maxHeartbeats 4000000 in
theorem frX6_goOn_L13 (w1 : Nat) (c2 : Int32) (c3 : Int32) (c4 : Int32) (hw1 : isW w1) (q : (Int64 × St)) : ∀ (n : Nat) (v5 : Int64) (v7 : Int32) (σ : St), fX6_goOn_L13 w1 c2 c3 c4 n v5 v7 σ = some q → Fr ([]) σ q.2 := by
  intro n
  induction n with
  | zero =>
    intro v5 v7 σ hf
    simp only [fX6_goOn_L13] at hf
    exact absurd hf (by simp)
  | succ n ih =>
    intro v5 v7 σ hf
    rw [fX6_goOn_L13] at hf
    by_cases hc2 : (σ.1 w1 0) ≤ v7
    · rw [if_pos hc2] at hf
      have hq := Option.some.inj hf
      rw [← hq]
      exact fr_rfl
    · rw [if_neg hc2] at hf
      obtain ⟨q16, hr17, hf⟩ := obind hf
      have f18 : Fr ([]) σ q16.2 := fr_tr fr_rfl (frX6_goOn_L25 w1 c2 c3 c4 v7 hw1 q16 fu v5 (0 : Int32) σ hr17) (by intro x9 hx9; first | exact absurd hx9 List.not_mem_nil | exact hx9 | (simp [gk] at hx9 ⊢; omega) | (simp only [gk, List.mem_append, List.mem_cons, List.not_mem_nil, or_false, false_or] at hx9 ⊢; omega))
      exact fr_trS f18 (ih q16.1 (v7 + (1 : Int32)) q16.2 hf)
set_option maxHeartbeats 4000000 in
theorem frX6_goOn (w1 : Nat) (p2 : Int32) (p3 : Int32) (p4 : Int32) (σ : St) (hw1 : isW w1) (q : Int64 × St) (hf : fX6_goOn w1 p2 p3 p4 σ = some q) : Fr ([]) σ q.2 := by
  unfold fX6_goOn at hf
  obtain ⟨q1, hq1, hf⟩ := obind hf
  have fq1 : Fr ([]) σ q1 := fr_tr fr_rfl (frX6_clear 52 72 σ la_52 _ hq1) (by intro x9 hx9; first | exact absurd hx9 List.not_mem_nil | exact hx9 | (simp [gk] at hx9 ⊢; omega) | (simp only [gk, List.mem_append, List.mem_cons, List.not_mem_nil, or_false, false_or] at hx9 ⊢; omega))
  obtain ⟨q19, hr20, hf⟩ := obind hf
  have f21 : Fr ([]) σ q19.2 := fr_tr fq1 (frX6_goOn_L13 w1 p2 p3 p4 hw1 q19 fu (0 : Int64) (-1 : Int32) q1 hr20) (by intro x9 hx9; first | exact absurd hx9 List.not_mem_nil | exact hx9 | (simp [gk] at hx9 ⊢; omega) | (simp only [gk, List.mem_append, List.mem_cons, List.not_mem_nil, or_false, false_or] at hx9 ⊢; omega))
  obtain ⟨σ22, hσ22, hf⟩ := bnd_elim hf
  have fσ22 : Fr ([]) σ σ22 := by rw [hσ22]; exact fr_cpyL f21
  have hq := Option.some.inj hf
  subst hq
  exact fσ22
set_option maxHeartbeats 4000000 in
theorem frX8_ways_L73 (c2 : Int32) (g3 : Nat) (hg3 : OB g3 3 8) (q : (Int64 × St)) : ∀ (n : Nat) (v4 : Int64) (v6 : Int32) (σ : St), fX8_ways_L73 c2 g3 n v4 v6 σ = some q → Fr ([]) σ q.2 := by
  intro n
  induction n with
  | zero =>
    intro v4 v6 σ hf
    simp only [fX8_ways_L73] at hf
    exact absurd hf (by simp)
  | succ n ih =>
    intro v4 v6 σ hf
    rw [fX8_ways_L73] at hf
    by_cases hc7 : c2 ≤ v6
    · rw [if_pos hc7] at hf
      have hq := Option.some.inj hf
      rw [← hq]
      exact fr_rfl
    · rw [if_neg hc7] at hf
      obtain ⟨q8, hq8, hf⟩ := obind hf
      have fq8 : Fr ([]) σ q8.2 := fr_tr fr_rfl (frX6_goOn 4 (σ.1 3 1) (σ.1 g3 1) (0 : Int32) σ isW_4 _ hq8) (by intro x9 hx9; first | exact absurd hx9 List.not_mem_nil | exact hx9 | (simp [gk] at hx9 ⊢; omega) | (simp only [gk, List.mem_append, List.mem_cons, List.not_mem_nil, or_false, false_or] at hx9 ⊢; omega))
      exact fr_trS fq8 (ih q8.1 (v6 + (1 : Int32)) q8.2 hf)
set_option maxHeartbeats 4000000 in
theorem frX8_ways (p1 : Int32) (p2 : Int32) (σ : St)  (q : Int32 × St) (hf : fX8_ways p1 p2 σ = some q) : Fr ([]) σ q.2 := by
  unfold fX8_ways at hf
  by_cases hc1 : (fX8_isGift p1 σ) = 0
  · rw [if_pos hc1] at hf
    have hq := Option.some.inj hf
    subst hq
    exact fr_rfl
  · rw [if_neg hc1] at hf
    obtain ⟨hb2, hf⟩ := grd_elim hf
    by_cases hc3 : (fX3_lives (4 + 7 + p1.toNatClampNeg) σ) = 0
    · rw [if_pos hc3] at hf
      have hq := Option.some.inj hf
      subst hq
      exact fr_rfl
    · rw [if_neg hc3] at hf
      by_cases hc4 : (fX8_within p2 (1 : Int32) (8 : Int32)) = 0
      · rw [if_pos hc4] at hf
        have hq := Option.some.inj hf
        subst hq
        exact fr_rfl
      · rw [if_neg hc4] at hf
        obtain ⟨hb5, hf⟩ := grd_elim hf
        obtain ⟨q6, hq6, hf⟩ := obind hf
        have fq6 : Fr ([]) σ q6 := fr_tr fr_rfl (frX6_begin (σ.1 (4 + 7 + p1.toNatClampNeg) 3) (σ.1 (4 + 7 + p1.toNatClampNeg) 2) σ _ hq6) (by intro x9 hx9; first | exact absurd hx9 List.not_mem_nil | exact hx9 | (simp [gk] at hx9 ⊢; omega) | (simp only [gk, List.mem_append, List.mem_cons, List.not_mem_nil, or_false, false_or] at hx9 ⊢; omega))
        obtain ⟨q9, hr10, hf⟩ := obind hf
        have f11 : Fr ([]) σ q9.2 := fr_tr fq6 (frX8_ways_L73 p2 (4 + 7 + p1.toNatClampNeg) (obG isW_4 hb5) q9 fu (0 : Int64) (0 : Int32) q6 hr10) (by intro x9 hx9; first | exact absurd hx9 List.not_mem_nil | exact hx9 | (simp [gk] at hx9 ⊢; omega) | (simp only [gk, List.mem_append, List.mem_cons, List.not_mem_nil, or_false, false_or] at hx9 ⊢; omega))
        have hq := Option.some.inj hf
        subst hq
        exact f11
set_option maxHeartbeats 4000000 in
theorem frX8_soonest_L56 (g2 : Nat) (hg2 : OB g2 3 8) (q : Sum (Int32 × St) (St)) : ∀ (n : Nat) (v3 : Int32) (σ : St), fX8_soonest_L56 g2 n v3 σ = some q → (∀ z, q = .inl z → Fr ([]) σ z.2) ∧ (∀ v, q = .inr v → Fr ([]) σ v) := by
  intro n
  induction n with
  | zero =>
    intro v3 σ hf
    simp only [fX8_soonest_L56] at hf
    exact absurd hf (by simp)
  | succ n ih =>
    intro v3 σ hf
    rw [fX8_soonest_L56] at hf
    by_cases hc6 : (8 : Int32) < v3
    · rw [if_pos hc6] at hf
      have hq := Option.some.inj hf
      rw [← hq]
      refine ⟨fun z hz => (by cases hz), fun v hv => ?_⟩
      rw [← Sum.inr.inj hv]
      exact fr_rfl
    · rw [if_neg hc6] at hf
      obtain ⟨q7, hq7, hf⟩ := obind hf
      have fq7 : Fr ([]) σ q7.2 := fr_tr fr_rfl (frX6_goOn 4 (σ.1 3 1) (σ.1 g2 1) (0 : Int32) σ isW_4 _ hq7) (by intro x9 hx9; first | exact absurd hx9 List.not_mem_nil | exact hx9 | (simp [gk] at hx9 ⊢; omega) | (simp only [gk, List.mem_append, List.mem_cons, List.not_mem_nil, or_false, false_or] at hx9 ⊢; omega))
      by_cases hc8 : (lg_cmp q7.1 (0 : Int64)) ≤ 0
      · rw [if_pos hc8] at hf
        exact fr_trB fq7 (ih (v3 + (1 : Int32)) q7.2 hf)
      · rw [if_neg hc8] at hf
        have hq := Option.some.inj hf
        rw [← hq]
        refine ⟨fun z hz => ?_, fun v hv => (by cases hv)⟩
        rw [← Sum.inl.inj hz]
        exact fq7
set_option maxHeartbeats 4000000 in
theorem frX8_soonest (p1 : Int32) (σ : St)  (q : Int32 × St) (hf : fX8_soonest p1 σ = some q) : Fr ([]) σ q.2 := by
  unfold fX8_soonest at hf
  by_cases hc1 : (fX8_isGift p1 σ) = 0
  · rw [if_pos hc1] at hf
    have hq := Option.some.inj hf
    subst hq
    exact fr_rfl
  · rw [if_neg hc1] at hf
    obtain ⟨hb2, hf⟩ := grd_elim hf
    by_cases hc3 : (fX3_lives (4 + 7 + p1.toNatClampNeg) σ) = 0
    · rw [if_pos hc3] at hf
      have hq := Option.some.inj hf
      subst hq
      exact fr_rfl
    · rw [if_neg hc3] at hf
      obtain ⟨hb4, hf⟩ := grd_elim hf
      obtain ⟨q5, hq5, hf⟩ := obind hf
      have fq5 : Fr ([]) σ q5 := fr_tr fr_rfl (frX6_begin (σ.1 (4 + 7 + p1.toNatClampNeg) 3) (σ.1 (4 + 7 + p1.toNatClampNeg) 2) σ _ hq5) (by intro x9 hx9; first | exact absurd hx9 List.not_mem_nil | exact hx9 | (simp [gk] at hx9 ⊢; omega) | (simp only [gk, List.mem_append, List.mem_cons, List.not_mem_nil, or_false, false_or] at hx9 ⊢; omega))
      obtain ⟨s11, hr10, hf⟩ := obind hf
      have f13 := frX8_soonest_L56 (4 + 7 + p1.toNatClampNeg) (obG isW_4 hb4) s11 fu (1 : Int32) q5 hr10
      rcases s11 with z12 | q9
      · skip
        simp only [Sum.elim_inl] at hf
        have hq := Option.some.inj hf
        subst hq
        exact (fr_tr fq5 (f13.1 _ rfl) (by intro x9 hx9; first | exact absurd hx9 List.not_mem_nil | exact hx9 | (simp [gk] at hx9 ⊢; omega) | (simp only [gk, List.mem_append, List.mem_cons, List.not_mem_nil, or_false, false_or] at hx9 ⊢; omega)))
      · simp only [Sum.elim_inr] at hf
        have hq := Option.some.inj hf
        subst hq
        exact (fr_tr fq5 (f13.2 _ rfl) (by intro x9 hx9; first | exact absurd hx9 List.not_mem_nil | exact hx9 | (simp [gk] at hx9 ⊢; omega) | (simp only [gk, List.mem_append, List.mem_cons, List.not_mem_nil, or_false, false_or] at hx9 ⊢; omega)))
set_option maxHeartbeats 4000000 in
theorem frX8_likely_L91 (c2 : Int32) (c3 : Int32) (g4 : Nat) (hg4 : OB g4 3 8) (q : (Int64 × Int64 × St)) : ∀ (n : Nat) (v5 : Int64) (v7 : Int64) (v9 : Int32) (σ : St), fX8_likely_L91 c2 c3 g4 n v5 v7 v9 σ = some q → Fr ([]) σ q.2.2 := by
  intro n
  induction n with
  | zero =>
    intro v5 v7 v9 σ hf
    simp only [fX8_likely_L91] at hf
    exact absurd hf (by simp)
  | succ n ih =>
    intro v5 v7 v9 σ hf
    rw [fX8_likely_L91] at hf
    by_cases hc8 : c2 ≤ v9
    · rw [if_pos hc8] at hf
      have hq := Option.some.inj hf
      rw [← hq]
      exact fr_rfl
    · rw [if_neg hc8] at hf
      obtain ⟨q9, hq9, hf⟩ := obind hf
      have fq9 : Fr ([]) σ q9.2 := fr_tr fr_rfl (frX6_goOn 4 (σ.1 3 1) (σ.1 g4 1) (1 : Int32) σ isW_4 _ hq9) (by intro x9 hx9; first | exact absurd hx9 List.not_mem_nil | exact hx9 | (simp [gk] at hx9 ⊢; omega) | (simp only [gk, List.mem_append, List.mem_cons, List.not_mem_nil, or_false, false_or] at hx9 ⊢; omega))
      obtain ⟨x10, hx10, hf⟩ := bnd_elim hf
      exact fr_trS fq9 (ih x10 (v7 * (420 : Int64)) (v9 + (1 : Int32)) q9.2 hf)
set_option maxHeartbeats 4000000 in
theorem frX8_likely (p1 : Int32) (p2 : Int32) (p3 : Int32) (σ : St)  (q : Int64 × St) (hf : fX8_likely p1 p2 p3 σ = some q) : Fr ([]) σ q.2 := by
  unfold fX8_likely at hf
  by_cases hc1 : (fX8_isGift p1 σ) = 0
  · rw [if_pos hc1] at hf
    have hq := Option.some.inj hf
    subst hq
    exact fr_rfl
  · rw [if_neg hc1] at hf
    obtain ⟨hb2, hf⟩ := grd_elim hf
    by_cases hc3 : (fX3_lives (4 + 7 + p1.toNatClampNeg) σ) = 0
    · rw [if_pos hc3] at hf
      have hq := Option.some.inj hf
      subst hq
      exact fr_rfl
    · rw [if_neg hc3] at hf
      by_cases hc4 : (fX8_within p2 (1 : Int32) (7 : Int32)) = 0
      · rw [if_pos hc4] at hf
        have hq := Option.some.inj hf
        subst hq
        exact fr_rfl
      · rw [if_neg hc4] at hf
        by_cases hc5 : (fX8_within p3 (0 : Int32) (1 : Int32)) = 0
        · rw [if_pos hc5] at hf
          have hq := Option.some.inj hf
          subst hq
          exact fr_rfl
        · rw [if_neg hc5] at hf
          obtain ⟨hb6, hf⟩ := grd_elim hf
          obtain ⟨q7, hq7, hf⟩ := obind hf
          have fq7 : Fr ([]) σ q7 := fr_tr fr_rfl (frX6_begin (σ.1 (4 + 7 + p1.toNatClampNeg) 3) (σ.1 (4 + 7 + p1.toNatClampNeg) 2) σ _ hq7) (by intro x9 hx9; first | exact absurd hx9 List.not_mem_nil | exact hx9 | (simp [gk] at hx9 ⊢; omega) | (simp only [gk, List.mem_append, List.mem_cons, List.not_mem_nil, or_false, false_or] at hx9 ⊢; omega))
          obtain ⟨q11, hr12, hf⟩ := obind hf
          have f13 : Fr ([]) σ q11.2.2 := fr_tr fq7 (frX8_likely_L91 p2 p3 (4 + 7 + p1.toNatClampNeg) (obG isW_4 hb6) q11 fu (0 : Int64) (1 : Int64) (0 : Int32) q7 hr12) (by intro x9 hx9; first | exact absurd hx9 List.not_mem_nil | exact hx9 | (simp [gk] at hx9 ⊢; omega) | (simp only [gk, List.mem_append, List.mem_cons, List.not_mem_nil, or_false, false_or] at hx9 ⊢; omega))
          obtain ⟨q14, hq14, hf⟩ := obind hf
          by_cases hc15 : (lg_cmp q14 (0 : Int64)) = 0
          · rw [if_pos hc15] at hf
            have hq := Option.some.inj hf
            subst hq
            exact f13
          · rw [if_neg hc15] at hf
            by_cases hc16 : p3 = 0
            · rw [if_pos hc16] at hf
              obtain ⟨hb17, hf⟩ := grd_elim hf
              have hq := Option.some.inj hf
              subst hq
              exact f13
            · rw [if_neg hc16] at hf
              obtain ⟨hb18, hf⟩ := grd_elim hf
              have hq := Option.some.inj hf
              subst hq
              exact f13
set_option maxHeartbeats 4000000 in
theorem frX1_find_L20 (w1 : Nat) (hw1 : isW w1) (q : (St)) : ∀ (n : Nat) (v3 : Int32) (σ : St), fX1_find_L20 w1 n v3 σ = some q → Fr ([54]) σ q := by
  intro n
  induction n with
  | zero =>
    intro v3 σ hf
    simp only [fX1_find_L20] at hf
    exact absurd hf (by simp)
  | succ n ih =>
    intro v3 σ hf
    rw [fX1_find_L20] at hf
    by_cases hc4 : v3 < 0
    · rw [if_pos hc4] at hf
      have hq := Option.some.inj hf
      rw [← hq]
      exact fr_rfl
    · rw [if_neg hc4] at hf
      obtain ⟨q5, hq5, hf⟩ := obind hf
      obtain ⟨hb6, hf⟩ := grd_elim hf
      obtain ⟨σ7, hσ7, hf⟩ := bnd_elim hf
      have fσ7 : Fr ([54]) σ σ7 := by rw [hσ7]; exact fr_setI fr_rfl (by rw [key_ne (by decide)]; first | decide | (simp [gk]; done) | (simp only [gk, List.mem_append, List.mem_cons, List.not_mem_nil, or_false, false_or]; omega))
      exact fr_trS fσ7 (ih (v3 + (-1 : Int32)) σ7 hf)
set_option maxHeartbeats 4000000 in
theorem frX1_find_L47 (w1 : Nat) (hw1 : isW w1) (q : (St)) : ∀ (n : Nat) (v3 : Int32) (v4 : Int32) (σ : St), fX1_find_L47 w1 n v3 v4 σ = some q → Fr ([55]) σ q := by
  intro n
  induction n with
  | zero =>
    intro v3 v4 σ hf
    simp only [fX1_find_L47] at hf
    exact absurd hf (by simp)
  | succ n ih =>
    intro v3 v4 σ hf
    rw [fX1_find_L47] at hf
    by_cases hc11 : (8 : Int32) ≤ v4
    · rw [if_pos hc11] at hf
      have hq := Option.some.inj hf
      rw [← hq]
      exact fr_rfl
    · rw [if_neg hc11] at hf
      obtain ⟨q13, hr14, hf⟩ := obind hf
      obtain ⟨hb15, hf⟩ := grd_elim hf
      obtain ⟨σ16, hσ16, hf⟩ := bnd_elim hf
      have fσ16 : Fr ([55]) σ σ16 := by rw [hσ16]; exact fr_setI fr_rfl (by rw [key_ne (by decide)]; first | decide | (simp [gk]; done) | (simp only [gk, List.mem_append, List.mem_cons, List.not_mem_nil, or_false, false_or]; omega))
      obtain ⟨hb17, hf⟩ := grd_elim hf
      obtain ⟨x18, hx18, hf⟩ := bnd_elim hf
      exact fr_trS fσ16 (ih x18 (v4 + (1 : Int32)) σ16 hf)
set_option maxHeartbeats 4000000 in
theorem frX1_find (w1 : Nat) (σ : St) (hw1 : isW w1) (q : St) (hf : fX1_find w1 σ = some q) : Fr ([54, 55]) σ q := by
  unfold fX1_find at hf
  obtain ⟨x1, hx1, hf⟩ := bnd_elim hf
  obtain ⟨hb2, hf⟩ := grd_elim hf
  obtain ⟨σ3, hσ3, hf⟩ := bnd_elim hf
  have fσ3 : Fr ([54, 55]) σ σ3 := by rw [hσ3]; exact fr_setI fr_rfl (by rw [key_ne (by decide)]; first | decide | (simp [gk]; done) | (simp only [gk, List.mem_append, List.mem_cons, List.not_mem_nil, or_false, false_or]; omega))
  obtain ⟨q8, hr9, hf⟩ := obind hf
  have f10 : Fr ([54, 55]) σ q8 := fr_tr fσ3 (frX1_find_L20 w1 hw1 q8 fu (x1 - (1 : Int32)) σ3 hr9) (by intro x9 hx9; first | exact absurd hx9 List.not_mem_nil | exact hx9 | (simp [gk] at hx9 ⊢; omega) | (simp only [gk, List.mem_append, List.mem_cons, List.not_mem_nil, or_false, false_or] at hx9 ⊢; omega))
  obtain ⟨q19, hr20, hf⟩ := obind hf
  have f21 : Fr ([54, 55]) σ q19 := fr_tr f10 (frX1_find_L47 w1 hw1 q19 fu (0 : Int32) (0 : Int32) q8 hr20) (by intro x9 hx9; first | exact absurd hx9 List.not_mem_nil | exact hx9 | (simp [gk] at hx9 ⊢; omega) | (simp only [gk, List.mem_append, List.mem_cons, List.not_mem_nil, or_false, false_or] at hx9 ⊢; omega))
  have hq := Option.some.inj hf
  subst hq
  exact f21
set_option maxHeartbeats 4000000 in
theorem frX8_round (p1 : Int32) (σ : St)  (q : Int32 × St) (hf : fX8_round p1 σ = some q) : Fr ([54, 55]) σ q.2 := by
  unfold fX8_round at hf
  obtain ⟨x1, hx1, hf⟩ := bnd_elim hf
  by_cases hc2 : x1 = 0
  · rw [if_pos hc2] at hf
    by_cases hc3 : (fX8_within p1 (0 : Int32) (1 : Int32)) = 0
    · rw [if_pos hc3] at hf
      have hq := Option.some.inj hf
      subst hq
      exact fr_rfl
    · rw [if_neg hc3] at hf
      obtain ⟨q4, hq4, hf⟩ := obind hf
      have fq4 : Fr ([54, 55]) σ q4 := fr_tr fr_rfl (frX1_find 4 σ isW_4 _ hq4) (by intro x9 hx9; first | exact absurd hx9 List.not_mem_nil | exact hx9 | (simp [gk] at hx9 ⊢; omega) | (simp only [gk, List.mem_append, List.mem_cons, List.not_mem_nil, or_false, false_or] at hx9 ⊢; omega))
      by_cases hc5 : p1 = 0
      · rw [if_pos hc5] at hf
        obtain ⟨q6, hq6, hf⟩ := obind hf
        by_cases hc7 : q6 = 0
        · rw [if_pos hc7] at hf
          have hq := Option.some.inj hf
          subst hq
          exact fq4
        · rw [if_neg hc7] at hf
          have hq := Option.some.inj hf
          subst hq
          exact fq4
      · rw [if_neg hc5] at hf
        by_cases hc8 : p1 = (1 : Int32)
        · rw [if_pos hc8] at hf
          obtain ⟨q9, hq9, hf⟩ := obind hf
          have hq := Option.some.inj hf
          subst hq
          exact fq4
        · rw [if_neg hc8] at hf
          obtain ⟨hb10, hf⟩ := grd_elim hf
          have hq := Option.some.inj hf
          subst hq
          exact fq4
  · rw [if_neg hc2] at hf
    obtain ⟨q11, hq11, hf⟩ := obind hf
    have fq11 : Fr ([54, 55]) σ q11 := fr_tr fr_rfl (frX1_find 4 σ isW_4 _ hq11) (by intro x9 hx9; first | exact absurd hx9 List.not_mem_nil | exact hx9 | (simp [gk] at hx9 ⊢; omega) | (simp only [gk, List.mem_append, List.mem_cons, List.not_mem_nil, or_false, false_or] at hx9 ⊢; omega))
    by_cases hc12 : p1 = 0
    · rw [if_pos hc12] at hf
      obtain ⟨q13, hq13, hf⟩ := obind hf
      by_cases hc14 : q13 = 0
      · rw [if_pos hc14] at hf
        have hq := Option.some.inj hf
        subst hq
        exact fq11
      · rw [if_neg hc14] at hf
        have hq := Option.some.inj hf
        subst hq
        exact fq11
    · rw [if_neg hc12] at hf
      by_cases hc15 : p1 = (1 : Int32)
      · rw [if_pos hc15] at hf
        obtain ⟨q16, hq16, hf⟩ := obind hf
        have hq := Option.some.inj hf
        subst hq
        exact fq11
      · rw [if_neg hc15] at hf
        obtain ⟨hb17, hf⟩ := grd_elim hf
        have hq := Option.some.inj hf
        subst hq
        exact fq11
set_option maxHeartbeats 4000000 in
theorem frX3_copyFrom (g : Nat) (g1 : Nat) (σ : St) (hg : OB g 3 8) (hg1 : OB g1 3 8) (q : St) (hf : fX3_copyFrom g g1 σ = some q) : Fr ([g]) σ q := by
  unfold fX3_copyFrom at hf
  obtain ⟨σ1, hσ1, hf⟩ := bnd_elim hf
  have fσ1 : Fr ([g]) σ σ1 := by rw [hσ1]; exact fr_setI fr_rfl (by rw [key_ne (obG_ne hg)]; first | (simp [gk]; done) | (simp only [gk, List.mem_append, List.mem_cons, List.not_mem_nil, or_false, false_or]; omega))
  obtain ⟨σ2, hσ2, hf⟩ := bnd_elim hf
  have fσ2 : Fr ([g]) σ σ2 := by rw [hσ2]; exact fr_setI fσ1 (by rw [key_ne (obG_ne hg)]; first | (simp [gk]; done) | (simp only [gk, List.mem_append, List.mem_cons, List.not_mem_nil, or_false, false_or]; omega))
  obtain ⟨σ3, hσ3, hf⟩ := bnd_elim hf
  have fσ3 : Fr ([g]) σ σ3 := by rw [hσ3]; exact fr_setI fσ2 (by rw [key_ne (obG_ne hg)]; first | (simp [gk]; done) | (simp only [gk, List.mem_append, List.mem_cons, List.not_mem_nil, or_false, false_or]; omega))
  obtain ⟨σ4, hσ4, hf⟩ := bnd_elim hf
  have fσ4 : Fr ([g]) σ σ4 := by rw [hσ4]; exact fr_setI fσ3 (by rw [key_ne (obG_ne hg)]; first | (simp [gk]; done) | (simp only [gk, List.mem_append, List.mem_cons, List.not_mem_nil, or_false, false_or]; omega))
  obtain ⟨σ5, hσ5, hf⟩ := bnd_elim hf
  have fσ5 : Fr ([g]) σ σ5 := by rw [hσ5]; exact fr_setI fσ4 (by rw [key_ne (obG_ne hg)]; first | (simp [gk]; done) | (simp only [gk, List.mem_append, List.mem_cons, List.not_mem_nil, or_false, false_or]; omega))
  obtain ⟨σ6, hσ6, hf⟩ := bnd_elim hf
  have fσ6 : Fr ([g]) σ σ6 := by rw [hσ6]; exact fr_setI fσ5 (by rw [key_ne (obG_ne hg)]; first | (simp [gk]; done) | (simp only [gk, List.mem_append, List.mem_cons, List.not_mem_nil, or_false, false_or]; omega))
  obtain ⟨σ7, hσ7, hf⟩ := bnd_elim hf
  have fσ7 : Fr ([g]) σ σ7 := by rw [hσ7]; exact fr_setI fσ6 (by rw [key_ne (obG_ne hg)]; first | (simp [gk]; done) | (simp only [gk, List.mem_append, List.mem_cons, List.not_mem_nil, or_false, false_or]; omega))
  obtain ⟨σ8, hσ8, hf⟩ := bnd_elim hf
  have fσ8 : Fr ([g]) σ σ8 := by rw [hσ8]; exact fr_setI fσ7 (by rw [key_ne (obG_ne hg)]; first | (simp [gk]; done) | (simp only [gk, List.mem_append, List.mem_cons, List.not_mem_nil, or_false, false_or]; omega))
  have hq := Option.some.inj hf
  subst hq
  exact fσ8
set_option maxHeartbeats 4000000 in
theorem frX7_copyFrom_L93 (w0 : Nat) (w1 : Nat) (hw0 : isW w0) (hw1 : isW w1) (q : (St)) : ∀ (n : Nat) (v2 : Int32) (σ : St), fX7_copyFrom_L93 w0 w1 n v2 σ = some q → Fr ([] ++ gk w0) σ q := by
  intro n
  induction n with
  | zero =>
    intro v2 σ hf
    simp only [fX7_copyFrom_L93] at hf
    exact absurd hf (by simp)
  | succ n ih =>
    intro v2 σ hf
    rw [fX7_copyFrom_L93] at hf
    by_cases hc8 : (8 : Int32) ≤ v2
    · rw [if_pos hc8] at hf
      have hq := Option.some.inj hf
      rw [← hq]
      exact fr_rfl
    · rw [if_neg hc8] at hf
      obtain ⟨hb9, hf⟩ := grd_elim hf
      obtain ⟨hb10, hf⟩ := grd_elim hf
      obtain ⟨q11, hq11, hf⟩ := obind hf
      have fq11 : Fr ([] ++ gk w0) σ q11 := fr_tr fr_rfl (frX3_copyFrom (w0 + 7 + v2.toNatClampNeg) (w1 + 7 + v2.toNatClampNeg) σ (obG hw0 hb9) (obG hw1 hb10) _ hq11) (by intro x9 hx9; have hk9 := gmem hw0 hb9; simp only [gk, List.mem_cons, List.not_mem_nil, or_false] at hk9; first | exact absurd hx9 List.not_mem_nil | exact hx9 | (simp [gk] at hx9 ⊢; omega) | (simp only [gk, List.mem_append, List.mem_cons, List.not_mem_nil, or_false, false_or] at hx9 ⊢; omega))
      exact fr_trS fq11 (ih (v2 + (1 : Int32)) q11 hf)
set_option maxHeartbeats 4000000 in
theorem frX7_copyFrom (w : Nat) (w1 : Nat) (σ : St) (hw : isW w) (hw1 : isW w1) (q : St) (hf : fX7_copyFrom w w1 σ = some q) : Fr ([w, w + 1, w + 2, w + 3, w + 4, w + 5] ++ gk w) σ q := by
  unfold fX7_copyFrom at hf
  obtain ⟨σ1, hσ1, hf⟩ := bnd_elim hf
  have fσ1 : Fr ([w, w + 1, w + 2, w + 3, w + 4, w + 5] ++ gk w) σ σ1 := by rw [hσ1]; exact fr_setI fr_rfl (by have hw9 := hw; unfold isW at hw9; rw [key_ne (by omega)]; first | (simp [gk]; done) | (simp only [gk, List.mem_append, List.mem_cons, List.not_mem_nil, or_false, false_or]; omega))
  obtain ⟨σ2, hσ2, hf⟩ := bnd_elim hf
  have fσ2 : Fr ([w, w + 1, w + 2, w + 3, w + 4, w + 5] ++ gk w) σ σ2 := by rw [hσ2]; exact fr_cpyI fσ1 (fun b => by have hw9 := hw; unfold isW at hw9; rw [key_ne (by omega)]; first | (simp [gk]; done) | (simp only [gk, List.mem_append, List.mem_cons, List.not_mem_nil, or_false, false_or]; omega))
  obtain ⟨σ3, hσ3, hf⟩ := bnd_elim hf
  have fσ3 : Fr ([w, w + 1, w + 2, w + 3, w + 4, w + 5] ++ gk w) σ σ3 := by rw [hσ3]; exact fr_cpyI fσ2 (fun b => by have hw9 := hw; unfold isW at hw9; rw [key_ne (by omega)]; first | (simp [gk]; done) | (simp only [gk, List.mem_append, List.mem_cons, List.not_mem_nil, or_false, false_or]; omega))
  obtain ⟨σ4, hσ4, hf⟩ := bnd_elim hf
  have fσ4 : Fr ([w, w + 1, w + 2, w + 3, w + 4, w + 5] ++ gk w) σ σ4 := by rw [hσ4]; exact fr_cpyI fσ3 (fun b => by have hw9 := hw; unfold isW at hw9; rw [key_ne (by omega)]; first | (simp [gk]; done) | (simp only [gk, List.mem_append, List.mem_cons, List.not_mem_nil, or_false, false_or]; omega))
  obtain ⟨σ5, hσ5, hf⟩ := bnd_elim hf
  have fσ5 : Fr ([w, w + 1, w + 2, w + 3, w + 4, w + 5] ++ gk w) σ σ5 := by rw [hσ5]; exact fr_cpyI fσ4 (fun b => by have hw9 := hw; unfold isW at hw9; rw [key_ne (by omega)]; first | (simp [gk]; done) | (simp only [gk, List.mem_append, List.mem_cons, List.not_mem_nil, or_false, false_or]; omega))
  obtain ⟨σ6, hσ6, hf⟩ := bnd_elim hf
  have fσ6 : Fr ([w, w + 1, w + 2, w + 3, w + 4, w + 5] ++ gk w) σ σ6 := by rw [hσ6]; exact fr_cpyI fσ5 (fun b => by have hw9 := hw; unfold isW at hw9; rw [key_ne (by omega)]; first | (simp [gk]; done) | (simp only [gk, List.mem_append, List.mem_cons, List.not_mem_nil, or_false, false_or]; omega))
  obtain ⟨σ7, hσ7, hf⟩ := bnd_elim hf
  have fσ7 : Fr ([w, w + 1, w + 2, w + 3, w + 4, w + 5] ++ gk w) σ σ7 := by rw [hσ7]; exact fr_setI fσ6 (by have hw9 := hw; unfold isW at hw9; rw [key_ne (by omega)]; first | (simp [gk]; done) | (simp only [gk, List.mem_append, List.mem_cons, List.not_mem_nil, or_false, false_or]; omega))
  obtain ⟨q12, hr13, hf⟩ := obind hf
  have f14 : Fr ([w, w + 1, w + 2, w + 3, w + 4, w + 5] ++ gk w) σ q12 := fr_tr fσ7 (frX7_copyFrom_L93 w w1 hw hw1 q12 fu (0 : Int32) σ7 hr13) (by intro x9 hx9; first | exact absurd hx9 List.not_mem_nil | exact hx9 | (simp [gk] at hx9 ⊢; omega) | (simp only [gk, List.mem_append, List.mem_cons, List.not_mem_nil, or_false, false_or] at hx9 ⊢; omega))
  obtain ⟨σ15, hσ15, hf⟩ := bnd_elim hf
  have fσ15 : Fr ([w, w + 1, w + 2, w + 3, w + 4, w + 5] ++ gk w) σ σ15 := by rw [hσ15]; exact fr_setI f14 (by have hw9 := hw; unfold isW at hw9; rw [key_ne (by omega)]; first | (simp [gk]; done) | (simp only [gk, List.mem_append, List.mem_cons, List.not_mem_nil, or_false, false_or]; omega))
  have hq := Option.some.inj hf
  subst hq
  exact fσ15
set_option maxHeartbeats 4000000 in
theorem frX8_drawn_L55 (c1 : Int32) (c3 : Int32)  (q : (Int32 × St)) : ∀ (n : Nat) (v4 : Int32) (v5 : Int32) (σ : St), fX8_drawn_L55 c1 c3 n v4 v5 σ = some q → Fr ([34, 39, 37] ++ gk 34) σ q.2 := by
  intro n
  induction n with
  | zero =>
    intro v4 v5 σ hf
    simp only [fX8_drawn_L55] at hf
    exact absurd hf (by simp)
  | succ n ih =>
    intro v4 v5 σ hf
    rw [fX8_drawn_L55] at hf
    by_cases hc6 : c1 ≤ v5
    · rw [if_pos hc6] at hf
      have hq := Option.some.inj hf
      rw [← hq]
      exact fr_rfl
    · rw [if_neg hc6] at hf
      obtain ⟨q7, hq7, hf⟩ := obind hf
      have fq7 : Fr ([34, 39, 37] ++ gk 34) σ q7.2 := fr_tr fr_rfl (frX7_passYear 34 σ isW_34 _ hq7) (by intro x9 hx9; first | exact absurd hx9 List.not_mem_nil | exact hx9 | (simp [gk] at hx9 ⊢; omega) | (simp only [gk, List.mem_append, List.mem_cons, List.not_mem_nil, or_false, false_or] at hx9 ⊢; omega))
      exact fr_trS fq7 (ih (v4 + q7.1) (v5 + (1 : Int32)) q7.2 hf)
set_option maxHeartbeats 4000000 in
theorem frX8_drawn (p1 : Int32) (p2 : Int32) (p3 : Int32) (σ : St)  (q : Int32 × St) (hf : fX8_drawn p1 p2 p3 σ = some q) : Fr ([34, 35, 36, 37, 38, 39] ++ gk 34) σ q.2 := by
  unfold fX8_drawn at hf
  by_cases hc1 : (fX8_within p1 (1 : Int32) (30 : Int32)) = 0
  · rw [if_pos hc1] at hf
    have hq := Option.some.inj hf
    subst hq
    exact fr_rfl
  · rw [if_neg hc1] at hf
    by_cases hc2 : p2 < 0
    · rw [if_pos hc2] at hf
      have hq := Option.some.inj hf
      subst hq
      exact fr_rfl
    · rw [if_neg hc2] at hf
      by_cases hc3 : (fX8_within p3 (0 : Int32) (3 : Int32)) = 0
      · rw [if_pos hc3] at hf
        have hq := Option.some.inj hf
        subst hq
        exact fr_rfl
      · rw [if_neg hc3] at hf
        obtain ⟨q4, hq4, hf⟩ := obind hf
        have fq4 : Fr ([34, 35, 36, 37, 38, 39] ++ gk 34) σ q4 := fr_tr fr_rfl (frX7_copyFrom 34 4 σ isW_34 isW_4 _ hq4) (by intro x9 hx9; first | exact absurd hx9 List.not_mem_nil | exact hx9 | (simp [gk] at hx9 ⊢; omega) | (simp only [gk, List.mem_append, List.mem_cons, List.not_mem_nil, or_false, false_or] at hx9 ⊢; omega))
        obtain ⟨σ5, hσ5, hf⟩ := bnd_elim hf
        have fσ5 : Fr ([34, 35, 36, 37, 38, 39] ++ gk 34) σ σ5 := by rw [hσ5]; exact fr_setL fq4
        obtain ⟨q8, hr9, hf⟩ := obind hf
        have f10 : Fr ([34, 35, 36, 37, 38, 39] ++ gk 34) σ q8.2 := fr_tr fσ5 (frX8_drawn_L55 p1 p3 q8 fu (0 : Int32) (0 : Int32) σ5 hr9) (by intro x9 hx9; first | exact absurd hx9 List.not_mem_nil | exact hx9 | (simp [gk] at hx9 ⊢; omega) | (simp only [gk, List.mem_append, List.mem_cons, List.not_mem_nil, or_false, false_or] at hx9 ⊢; omega))
        by_cases hc11 : p3 = (0 : Int32)
        · rw [if_pos hc11] at hf
          have hq := Option.some.inj hf
          subst hq
          exact f10
        · rw [if_neg hc11] at hf
          by_cases hc12 : p3 = (1 : Int32)
          · rw [if_pos hc12] at hf
            obtain ⟨q13, hq13, hf⟩ := obind hf
            have hq := Option.some.inj hf
            subst hq
            exact f10
          · rw [if_neg hc12] at hf
            by_cases hc14 : p3 = (2 : Int32)
            · rw [if_pos hc14] at hf
              obtain ⟨q15, hq15, hf⟩ := obind hf
              obtain ⟨q16, hq16, hf⟩ := obind hf
              have hq := Option.some.inj hf
              subst hq
              exact f10
            · rw [if_neg hc14] at hf
              have hq := Option.some.inj hf
              subst hq
              exact f10
set_option maxHeartbeats 4000000 in
theorem frX0_begin_L12   (q : (St)) : ∀ (n : Nat) (v3 : Int32) (σ : St), fX0_begin_L12 n v3 σ = some q → Fr ([57]) σ q := by
  intro n
  induction n with
  | zero =>
    intro v3 σ hf
    simp only [fX0_begin_L12] at hf
    exact absurd hf (by simp)
  | succ n ih =>
    intro v3 σ hf
    rw [fX0_begin_L12] at hf
    by_cases hc3 : (7 : Int32) < v3
    · rw [if_pos hc3] at hf
      have hq := Option.some.inj hf
      rw [← hq]
      exact fr_rfl
    · rw [if_neg hc3] at hf
      obtain ⟨hb4, hf⟩ := grd_elim hf
      obtain ⟨σ5, hσ5, hf⟩ := bnd_elim hf
      have fσ5 : Fr ([57]) σ σ5 := by rw [hσ5]; exact fr_setI fr_rfl (by rw [key_ne (by decide)]; first | decide | (simp [gk]; done) | (simp only [gk, List.mem_append, List.mem_cons, List.not_mem_nil, or_false, false_or]; omega))
      exact fr_trS fσ5 (ih (v3 + (1 : Int32)) σ5 hf)
set_option maxHeartbeats 4000000 in
theorem frX0_begin (p1 : Int32) (p2 : Int32) (σ : St)  (q : St) (hf : fX0_begin p1 p2 σ = some q) : Fr ([56, 57]) σ q := by
  unfold fX0_begin at hf
  obtain ⟨σ1, hσ1, hf⟩ := bnd_elim hf
  have fσ1 : Fr ([56, 57]) σ σ1 := by rw [hσ1]; exact fr_setI fr_rfl (by rw [key_ne (by decide)]; first | decide | (simp [gk]; done) | (simp only [gk, List.mem_append, List.mem_cons, List.not_mem_nil, or_false, false_or]; omega))
  obtain ⟨σ2, hσ2, hf⟩ := bnd_elim hf
  have fσ2 : Fr ([56, 57]) σ σ2 := by rw [hσ2]; exact fr_setI fσ1 (by rw [key_ne (by decide)]; first | decide | (simp [gk]; done) | (simp only [gk, List.mem_append, List.mem_cons, List.not_mem_nil, or_false, false_or]; omega))
  obtain ⟨q6, hr7, hf⟩ := obind hf
  have f8 : Fr ([56, 57]) σ q6 := fr_tr fσ2 (frX0_begin_L12  q6 fu (0 : Int32) σ2 hr7) (by intro x9 hx9; first | exact absurd hx9 List.not_mem_nil | exact hx9 | (simp [gk] at hx9 ⊢; omega) | (simp only [gk, List.mem_append, List.mem_cons, List.not_mem_nil, or_false, false_or] at hx9 ⊢; omega))
  have hq := Option.some.inj hf
  subst hq
  exact f8
set_option maxHeartbeats 4000000 in
theorem frX8_open (p1 : Int32) (p2 : Int32) (σ : St)  (q : Int32 × St) (hf : fX8_open p1 p2 σ = some q) : Fr ([56, 57]) σ q.2 := by
  unfold fX8_open at hf
  by_cases hc1 : (fX8_isPerson p1 σ) = 0
  · rw [if_pos hc1] at hf
    have hq := Option.some.inj hf
    subst hq
    exact fr_rfl
  · rw [if_neg hc1] at hf
    by_cases hc2 : (fX8_within p2 (1 : Int32) (7 : Int32)) = 0
    · rw [if_pos hc2] at hf
      have hq := Option.some.inj hf
      subst hq
      exact fr_rfl
    · rw [if_neg hc2] at hf
      obtain ⟨q3, hq3, hf⟩ := obind hf
      have fq3 : Fr ([56, 57]) σ q3 := fr_tr fr_rfl (frX0_begin p1 p2 σ _ hq3) (by intro x9 hx9; first | exact absurd hx9 List.not_mem_nil | exact hx9 | (simp [gk] at hx9 ⊢; omega) | (simp only [gk, List.mem_append, List.mem_cons, List.not_mem_nil, or_false, false_or] at hx9 ⊢; omega))
      have hq := Option.some.inj hf
      subst hq
      exact fq3
set_option maxHeartbeats 4000000 in
theorem frX8_write (p1 : Int32) (p2 : Int32) (σ : St)  (q : Int32 × St) (hf : fX8_write p1 p2 σ = some q) : Fr ([57]) σ q.2 := by
  unfold fX8_write at hf
  by_cases hc1 : (fX0_isOpen σ) = 0
  · rw [if_pos hc1] at hf
    have hq := Option.some.inj hf
    subst hq
    exact fr_rfl
  · rw [if_neg hc1] at hf
    by_cases hc2 : (fX0_hasYear p1 σ) = 0
    · rw [if_pos hc2] at hf
      have hq := Option.some.inj hf
      subst hq
      exact fr_rfl
    · rw [if_neg hc2] at hf
      by_cases hc3 : p2 = (-1 : Int32)
      · rw [if_pos hc3] at hf
        obtain ⟨hb4, hf⟩ := grd_elim hf
        obtain ⟨x5, hx5, hf⟩ := bnd_elim hf
        obtain ⟨hb6, hf⟩ := grd_elim hf
        obtain ⟨σ7, hσ7, hf⟩ := bnd_elim hf
        have fσ7 : Fr ([57]) σ σ7 := by rw [hσ7]; exact fr_setI fr_rfl (by rw [key_ne (by decide)]; first | decide | (simp [gk]; done) | (simp only [gk, List.mem_append, List.mem_cons, List.not_mem_nil, or_false, false_or]; omega))
        have hq := Option.some.inj hf
        subst hq
        exact fσ7
      · rw [if_neg hc3] at hf
        by_cases hc8 : (fX8_isPerson p2 σ) = 0
        · rw [if_pos hc8] at hf
          have hq := Option.some.inj hf
          subst hq
          exact fr_rfl
        · rw [if_neg hc8] at hf
          obtain ⟨hb9, hf⟩ := grd_elim hf
          obtain ⟨x10, hx10, hf⟩ := bnd_elim hf
          obtain ⟨hb11, hf⟩ := grd_elim hf
          obtain ⟨σ12, hσ12, hf⟩ := bnd_elim hf
          have fσ12 : Fr ([57]) σ σ12 := by rw [hσ12]; exact fr_setI fr_rfl (by rw [key_ne (by decide)]; first | decide | (simp [gk]; done) | (simp only [gk, List.mem_append, List.mem_cons, List.not_mem_nil, or_false, false_or]; omega))
          have hq := Option.some.inj hf
          subst hq
          exact fσ12
set_option maxHeartbeats 4000000 in
theorem frX6_keepOnly_L2 (c1 : Int32)  (q : (St)) : ∀ (n : Nat) (v2 : Int32) (σ : St), fX6_keepOnly_L2 c1 n v2 σ = some q → Fr ([]) σ q := by
  intro n
  induction n with
  | zero =>
    intro v2 σ hf
    simp only [fX6_keepOnly_L2] at hf
    exact absurd hf (by simp)
  | succ n ih =>
    intro v2 σ hf
    rw [fX6_keepOnly_L2] at hf
    by_cases hc1 : (72 : Int32) ≤ v2
    · rw [if_pos hc1] at hf
      have hq := Option.some.inj hf
      rw [← hq]
      exact fr_rfl
    · rw [if_neg hc1] at hf
      by_cases hc2 : (v2 - v2 / (8 : Int32) * (8 : Int32)) = c1
      · rw [if_pos hc2] at hf
        exact fr_trS fr_rfl (ih (v2 + (1 : Int32)) σ hf)
      · rw [if_neg hc2] at hf
        obtain ⟨hb3, hf⟩ := grd_elim hf
        obtain ⟨σ4, hσ4, hf⟩ := bnd_elim hf
        have fσ4 : Fr ([]) σ σ4 := by rw [hσ4]; exact fr_setL fr_rfl
        exact fr_trS fσ4 (ih (v2 + (1 : Int32)) σ4 hf)
set_option maxHeartbeats 4000000 in
theorem frX6_keepOnly (p1 : Int32) (σ : St)  (q : St) (hf : fX6_keepOnly p1 σ = some q) : Fr ([]) σ q := by
  unfold fX6_keepOnly at hf
  obtain ⟨q5, hr6, hf⟩ := obind hf
  have f7 : Fr ([]) σ q5 := fr_tr fr_rfl (frX6_keepOnly_L2 p1 q5 fu (0 : Int32) σ hr6) (by intro x9 hx9; first | exact absurd hx9 List.not_mem_nil | exact hx9 | (simp [gk] at hx9 ⊢; omega) | (simp only [gk, List.mem_append, List.mem_cons, List.not_mem_nil, or_false, false_or] at hx9 ⊢; omega))
  have hq := Option.some.inj hf
  subst hq
  exact f7
set_option maxHeartbeats 4000000 in
theorem frX0_fillings_L11 (w1 : Nat) (hw1 : isW w1) (q : (St)) : ∀ (n : Nat) (v3 : Int32) (σ : St), fX0_fillings_L11 w1 n v3 σ = some q → Fr ([]) σ q := by
  intro n
  induction n with
  | zero =>
    intro v3 σ hf
    simp only [fX0_fillings_L11] at hf
    exact absurd hf (by simp)
  | succ n ih =>
    intro v3 σ hf
    rw [fX0_fillings_L11] at hf
    by_cases hc2 : (σ.1 56 2) < v3
    · rw [if_pos hc2] at hf
      have hq := Option.some.inj hf
      rw [← hq]
      exact fr_rfl
    · rw [if_neg hc2] at hf
      obtain ⟨q3, hq3, hf⟩ := obind hf
      have fq3 : Fr ([]) σ q3.2 := fr_tr fr_rfl (frX6_goOn w1 (0 : Int32) (σ.1 56 1) (0 : Int32) σ hw1 _ hq3) (by intro x9 hx9; first | exact absurd hx9 List.not_mem_nil | exact hx9 | (simp [gk] at hx9 ⊢; omega) | (simp only [gk, List.mem_append, List.mem_cons, List.not_mem_nil, or_false, false_or] at hx9 ⊢; omega))
      obtain ⟨hb4, hf⟩ := grd_elim hf
      by_cases hc5 : (q3.2.1 57 v3.toNatClampNeg) = (-1 : Int32)
      · rw [if_pos hc5] at hf
        exact fr_trS fq3 (ih (v3 + (1 : Int32)) q3.2 hf)
      · rw [if_neg hc5] at hf
        obtain ⟨hb6, hf⟩ := grd_elim hf
        obtain ⟨q7, hq7, hf⟩ := obind hf
        have fq7 : Fr ([]) σ q7 := fr_tr fq3 (frX6_keepOnly (q3.2.1 57 v3.toNatClampNeg) q3.2 _ hq7) (by intro x9 hx9; first | exact absurd hx9 List.not_mem_nil | exact hx9 | (simp [gk] at hx9 ⊢; omega) | (simp only [gk, List.mem_append, List.mem_cons, List.not_mem_nil, or_false, false_or] at hx9 ⊢; omega))
        exact fr_trS fq7 (ih (v3 + (1 : Int32)) q7 hf)
set_option maxHeartbeats 4000000 in
theorem frX0_fillings (w1 : Nat) (σ : St) (hw1 : isW w1) (q : Int32 × St) (hf : fX0_fillings w1 σ = some q) : Fr ([]) σ q.2 := by
  unfold fX0_fillings at hf
  obtain ⟨q1, hq1, hf⟩ := obind hf
  have fq1 : Fr ([]) σ q1 := fr_tr fr_rfl (frX6_begin (-1 : Int32) (σ.1 56 1) σ _ hq1) (by intro x9 hx9; first | exact absurd hx9 List.not_mem_nil | exact hx9 | (simp [gk] at hx9 ⊢; omega) | (simp only [gk, List.mem_append, List.mem_cons, List.not_mem_nil, or_false, false_or] at hx9 ⊢; omega))
  obtain ⟨q8, hr9, hf⟩ := obind hf
  have f10 : Fr ([]) σ q8 := fr_tr fq1 (frX0_fillings_L11 w1 hw1 q8 fu (1 : Int32) q1 hr9) (by intro x9 hx9; first | exact absurd hx9 List.not_mem_nil | exact hx9 | (simp [gk] at hx9 ⊢; omega) | (simp only [gk, List.mem_append, List.mem_cons, List.not_mem_nil, or_false, false_or] at hx9 ⊢; omega))
  obtain ⟨q11, hq11, hf⟩ := obind hf
  have hq := Option.some.inj hf
  subst hq
  exact f10
set_option maxHeartbeats 4000000 in
theorem frX8_filled  (σ : St)  (q : Int32 × St) (hf : fX8_filled σ = some q) : Fr ([]) σ q.2 := by
  unfold fX8_filled at hf
  by_cases hc1 : (fX0_isOpen σ) = 0
  · rw [if_pos hc1] at hf
    have hq := Option.some.inj hf
    subst hq
    exact fr_rfl
  · rw [if_neg hc1] at hf
    obtain ⟨q2, hq2, hf⟩ := obind hf
    have fq2 : Fr ([]) σ q2.2 := fr_tr fr_rfl (frX0_fillings 4 σ isW_4 _ hq2) (by intro x9 hx9; first | exact absurd hx9 List.not_mem_nil | exact hx9 | (simp [gk] at hx9 ⊢; omega) | (simp only [gk, List.mem_append, List.mem_cons, List.not_mem_nil, or_false, false_or] at hx9 ⊢; omega))
    have hq := Option.some.inj hf
    subst hq
    exact fq2
set_option maxHeartbeats 4000000 in
theorem frX0_onlyOneIn_L17 (c1 : Int32) (w2 : Nat) (c4 : Int32) (hw2 : isW w2) (q : (Int32 × Int32 × St)) : ∀ (n : Nat) (v5 : Int32) (v6 : Int32) (v7 : Int32) (σ : St), fX0_onlyOneIn_L17 c1 w2 c4 n v5 v6 v7 σ = some q → Fr ([57]) σ q.2.2 := by
  intro n
  induction n with
  | zero =>
    intro v5 v6 v7 σ hf
    simp only [fX0_onlyOneIn_L17] at hf
    exact absurd hf (by simp)
  | succ n ih =>
    intro v5 v6 v7 σ hf
    rw [fX0_onlyOneIn_L17] at hf
    by_cases hc3 : (σ.1 w2 0) ≤ v7
    · rw [if_pos hc3] at hf
      have hq := Option.some.inj hf
      rw [← hq]
      exact fr_rfl
    · rw [if_neg hc3] at hf
      by_cases hc4 : c4 = (-1 : Int32)
      · rw [if_pos hc4] at hf
        obtain ⟨hb5, hf⟩ := grd_elim hf
        obtain ⟨σ6, hσ6, hf⟩ := bnd_elim hf
        have fσ6 : Fr ([57]) σ σ6 := by rw [hσ6]; exact fr_setI fr_rfl (by rw [key_ne (by decide)]; first | decide | (simp [gk]; done) | (simp only [gk, List.mem_append, List.mem_cons, List.not_mem_nil, or_false, false_or]; omega))
        obtain ⟨q7, hq7, hf⟩ := obind hf
        have fq7 : Fr ([57]) σ q7.2 := fr_tr fσ6 (frX0_fillings w2 σ6 hw2 _ hq7) (by intro x9 hx9; first | exact absurd hx9 List.not_mem_nil | exact hx9 | (simp [gk] at hx9 ⊢; omega) | (simp only [gk, List.mem_append, List.mem_cons, List.not_mem_nil, or_false, false_or] at hx9 ⊢; omega))
        by_cases hc8 : q7.1 ≤ 0
        · rw [if_pos hc8] at hf
          exact fr_trS fq7 (ih v5 v6 (v7 + (1 : Int32)) q7.2 hf)
        · rw [if_neg hc8] at hf
          exact fr_trS fq7 (ih v7 (v6 + (1 : Int32)) (v7 + (1 : Int32)) q7.2 hf)
      · rw [if_neg hc4] at hf
        by_cases hc9 : c4 = v7
        · rw [if_pos hc9] at hf
          obtain ⟨hb10, hf⟩ := grd_elim hf
          obtain ⟨σ11, hσ11, hf⟩ := bnd_elim hf
          have fσ11 : Fr ([57]) σ σ11 := by rw [hσ11]; exact fr_setI fr_rfl (by rw [key_ne (by decide)]; first | decide | (simp [gk]; done) | (simp only [gk, List.mem_append, List.mem_cons, List.not_mem_nil, or_false, false_or]; omega))
          obtain ⟨q12, hq12, hf⟩ := obind hf
          have fq12 : Fr ([57]) σ q12.2 := fr_tr fσ11 (frX0_fillings w2 σ11 hw2 _ hq12) (by intro x9 hx9; first | exact absurd hx9 List.not_mem_nil | exact hx9 | (simp [gk] at hx9 ⊢; omega) | (simp only [gk, List.mem_append, List.mem_cons, List.not_mem_nil, or_false, false_or] at hx9 ⊢; omega))
          by_cases hc13 : q12.1 ≤ 0
          · rw [if_pos hc13] at hf
            exact fr_trS fq12 (ih v5 v6 (v7 + (1 : Int32)) q12.2 hf)
          · rw [if_neg hc13] at hf
            exact fr_trS fq12 (ih v7 (v6 + (1 : Int32)) (v7 + (1 : Int32)) q12.2 hf)
        · rw [if_neg hc9] at hf
          exact fr_trS fr_rfl (ih v5 v6 (v7 + (1 : Int32)) σ hf)
set_option maxHeartbeats 4000000 in
theorem frX0_onlyOneIn (p1 : Int32) (w2 : Nat) (σ : St) (hw2 : isW w2) (q : Int32 × St) (hf : fX0_onlyOneIn p1 w2 σ = some q) : Fr ([57]) σ q.2 := by
  unfold fX0_onlyOneIn at hf
  obtain ⟨hb1, hf⟩ := grd_elim hf
  obtain ⟨x2, hx2, hf⟩ := bnd_elim hf
  obtain ⟨q14, hr15, hf⟩ := obind hf
  have f16 : Fr ([57]) σ q14.2.2 := fr_tr fr_rfl (frX0_onlyOneIn_L17 p1 w2 x2 hw2 q14 fu (-1 : Int32) (0 : Int32) (0 : Int32) σ hr15) (by intro x9 hx9; first | exact absurd hx9 List.not_mem_nil | exact hx9 | (simp [gk] at hx9 ⊢; omega) | (simp only [gk, List.mem_append, List.mem_cons, List.not_mem_nil, or_false, false_or] at hx9 ⊢; omega))
  obtain ⟨hb17, hf⟩ := grd_elim hf
  obtain ⟨σ18, hσ18, hf⟩ := bnd_elim hf
  have fσ18 : Fr ([57]) σ σ18 := by rw [hσ18]; exact fr_setI f16 (by rw [key_ne (by decide)]; first | decide | (simp [gk]; done) | (simp only [gk, List.mem_append, List.mem_cons, List.not_mem_nil, or_false, false_or]; omega))
  by_cases hc19 : q14.2.1 = (1 : Int32)
  · rw [if_pos hc19] at hf
    have hq := Option.some.inj hf
    subst hq
    exact fσ18
  · rw [if_neg hc19] at hf
    have hq := Option.some.inj hf
    subst hq
    exact fσ18
set_option maxHeartbeats 4000000 in
theorem frX8_sure (p1 : Int32) (σ : St)  (q : Int32 × St) (hf : fX8_sure p1 σ = some q) : Fr ([57]) σ q.2 := by
  unfold fX8_sure at hf
  by_cases hc1 : (fX0_isOpen σ) = 0
  · rw [if_pos hc1] at hf
    have hq := Option.some.inj hf
    subst hq
    exact fr_rfl
  · rw [if_neg hc1] at hf
    by_cases hc2 : (fX0_hasYear p1 σ) = 0
    · rw [if_pos hc2] at hf
      have hq := Option.some.inj hf
      subst hq
      exact fr_rfl
    · rw [if_neg hc2] at hf
      obtain ⟨q3, hq3, hf⟩ := obind hf
      have fq3 : Fr ([57]) σ q3.2 := fr_tr fr_rfl (frX0_onlyOneIn p1 4 σ isW_4 _ hq3) (by intro x9 hx9; first | exact absurd hx9 List.not_mem_nil | exact hx9 | (simp [gk] at hx9 ⊢; omega) | (simp only [gk, List.mem_append, List.mem_cons, List.not_mem_nil, or_false, false_or] at hx9 ⊢; omega))
      have hq := Option.some.inj hf
      subst hq
      exact fq3
set_option maxHeartbeats 4000000 in
theorem frX8_image  (σ : St)  (q : Int32 × St) (hf : fX8_image σ = some q) : Fr ([19, 20, 21, 22, 23, 24, 0] ++ gk 19) σ q.2 := by
  unfold fX8_image at hf
  obtain ⟨q1, hq1, hf⟩ := obind hf
  have fq1 : Fr ([19, 20, 21, 22, 23, 24, 0] ++ gk 19) σ q1 := fr_tr fr_rfl (frX7_copyFrom 19 4 σ isW_19 isW_4 _ hq1) (by intro x9 hx9; first | exact absurd hx9 List.not_mem_nil | exact hx9 | (simp [gk] at hx9 ⊢; omega) | (simp only [gk, List.mem_append, List.mem_cons, List.not_mem_nil, or_false, false_or] at hx9 ⊢; omega))
  obtain ⟨σ2, hσ2, hf⟩ := bnd_elim hf
  have fσ2 : Fr ([19, 20, 21, 22, 23, 24, 0] ++ gk 19) σ σ2 := by rw [hσ2]; exact fr_setI fq1 (by rw [key_ne (by decide)]; first | decide | (simp [gk]; done) | (simp only [gk, List.mem_append, List.mem_cons, List.not_mem_nil, or_false, false_or]; omega))
  have hq := Option.some.inj hf
  subst hq
  exact fσ2
set_option maxHeartbeats 4000000 in
theorem frX8_restore  (σ : St)  (q : Int32 × St) (hf : fX8_restore σ = some q) : Fr ([4, 5, 6, 7, 8, 9] ++ gk 4) σ q.2 := by
  unfold fX8_restore at hf
  by_cases hc1 : (σ.1 0 10) = 0
  · rw [if_pos hc1] at hf
    have hq := Option.some.inj hf
    subst hq
    exact fr_rfl
  · rw [if_neg hc1] at hf
    by_cases hc2 : (σ.1 19 0) = (σ.1 4 0)
    · rw [if_pos hc2] at hf
      obtain ⟨q3, hq3, hf⟩ := obind hf
      have fq3 : Fr ([4, 5, 6, 7, 8, 9] ++ gk 4) σ q3 := fr_tr fr_rfl (frX7_copyFrom 4 19 σ isW_4 isW_19 _ hq3) (by intro x9 hx9; first | exact absurd hx9 List.not_mem_nil | exact hx9 | (simp [gk] at hx9 ⊢; omega) | (simp only [gk, List.mem_append, List.mem_cons, List.not_mem_nil, or_false, false_or] at hx9 ⊢; omega))
      have hq := Option.some.inj hf
      subst hq
      exact fq3
    · rw [if_neg hc2] at hf
      have hq := Option.some.inj hf
      subst hq
      exact fr_rfl
set_option maxHeartbeats 4000000 in
theorem frX8_withGift (p1 : Int64) (p3 : Int32) (σ : St)  (q : Int64 × St) (hf : fX8_withGift p1 p3 σ = some q) : Fr ([]) σ q.2 := by
  unfold fX8_withGift at hf
  obtain ⟨q1, hr2, hf⟩ := obind hf
  obtain ⟨hb3, hf⟩ := grd_elim hf
  by_cases hc4 : (fX3_lives (4 + 7 + p3.toNatClampNeg) σ) = 0
  · rw [if_pos hc4] at hf
    have hq := Option.some.inj hf
    subst hq
    exact fr_rfl
  · rw [if_neg hc4] at hf
    obtain ⟨q5, hq5, hf⟩ := obind hf
    obtain ⟨x6, hx6, hf⟩ := bnd_elim hf
    obtain ⟨q7, hq7, hf⟩ := obind hf
    have fq7 : Fr ([]) σ q7.2 := fr_tr fr_rfl (frX8_soonest p3 σ _ hq7) (by intro x9 hx9; first | exact absurd hx9 List.not_mem_nil | exact hx9 | (simp [gk] at hx9 ⊢; omega) | (simp only [gk, List.mem_append, List.mem_cons, List.not_mem_nil, or_false, false_or] at hx9 ⊢; omega))
    have hq := Option.some.inj hf
    subst hq
    exact fq7
set_option maxHeartbeats 4000000 in
theorem frX8_digest_L56   (q : (Int64 × St)) : ∀ (n : Nat) (v1 : Int64) (v3 : Int32) (σ : St), fX8_digest_L56 n v1 v3 σ = some q → Fr ([]) σ q.2 := by
  intro n
  induction n with
  | zero =>
    intro v1 v3 σ hf
    simp only [fX8_digest_L56] at hf
    exact absurd hf (by simp)
  | succ n ih =>
    intro v1 v3 σ hf
    rw [fX8_digest_L56] at hf
    by_cases hc5 : (σ.1 4 6) ≤ v3
    · rw [if_pos hc5] at hf
      have hq := Option.some.inj hf
      rw [← hq]
      exact fr_rfl
    · rw [if_neg hc5] at hf
      obtain ⟨q6, hq6, hf⟩ := obind hf
      have fq6 : Fr ([]) σ q6.2 := fr_tr fr_rfl (frX8_withGift v1 v3 σ _ hq6) (by intro x9 hx9; first | exact absurd hx9 List.not_mem_nil | exact hx9 | (simp [gk] at hx9 ⊢; omega) | (simp only [gk, List.mem_append, List.mem_cons, List.not_mem_nil, or_false, false_or] at hx9 ⊢; omega))
      exact fr_trS fq6 (ih q6.1 (v3 + (1 : Int32)) q6.2 hf)
set_option maxHeartbeats 4000000 in
theorem frX8_digest  (σ : St)  (q : Int64 × St) (hf : fX8_digest σ = some q) : Fr ([54, 55]) σ q.2 := by
  unfold fX8_digest at hf
  obtain ⟨q1, hr2, hf⟩ := obind hf
  obtain ⟨q3, hr4, hf⟩ := obind hf
  obtain ⟨q7, hr8, hf⟩ := obind hf
  have f9 : Fr ([54, 55]) σ q7.2 := fr_tr fr_rfl (frX8_digest_L56  q7 fu q3 (0 : Int32) σ hr8) (by intro x9 hx9; first | exact absurd hx9 List.not_mem_nil | exact hx9 | (simp [gk] at hx9 ⊢; omega) | (simp only [gk, List.mem_append, List.mem_cons, List.not_mem_nil, or_false, false_or] at hx9 ⊢; omega))
  obtain ⟨q10, hq10, hf⟩ := obind hf
  obtain ⟨x11, hx11, hf⟩ := bnd_elim hf
  obtain ⟨q12, hq12, hf⟩ := obind hf
  have fq12 : Fr ([54, 55]) σ q12.2 := fr_tr f9 (frX8_round (0 : Int32) q7.2 _ hq12) (by intro x9 hx9; first | exact absurd hx9 List.not_mem_nil | exact hx9 | (simp [gk] at hx9 ⊢; omega) | (simp only [gk, List.mem_append, List.mem_cons, List.not_mem_nil, or_false, false_or] at hx9 ⊢; omega))
  obtain ⟨x13, hx13, hf⟩ := bnd_elim hf
  obtain ⟨q14, hq14, hf⟩ := obind hf
  have fq14 : Fr ([54, 55]) σ q14.2 := fr_tr fq12 (frX8_round (1 : Int32) q12.2 _ hq14) (by intro x9 hx9; first | exact absurd hx9 List.not_mem_nil | exact hx9 | (simp [gk] at hx9 ⊢; omega) | (simp only [gk, List.mem_append, List.mem_cons, List.not_mem_nil, or_false, false_or] at hx9 ⊢; omega))
  obtain ⟨x15, hx15, hf⟩ := bnd_elim hf
  obtain ⟨q17, hr18, hf⟩ := obind hf
  have f19 : Fr ([54, 55]) σ q17.2 := by
    clear hf
    have hf := hr18
    clear hr18
    by_cases hc16 : (fX0_isOpen q14.2) = 0
    · rw [if_pos hc16] at hf
      have hq := Option.some.inj hf
      subst hq
      exact fq14
    · rw [if_neg hc16] at hf
      obtain ⟨q20, hq20, hf⟩ := obind hf
      have fq20 : Fr ([54, 55]) σ q20.2 := fr_tr fq14 (frX8_filled q14.2 _ hq20) (by intro x9 hx9; first | exact absurd hx9 List.not_mem_nil | exact hx9 | (simp [gk] at hx9 ⊢; omega) | (simp only [gk, List.mem_append, List.mem_cons, List.not_mem_nil, or_false, false_or] at hx9 ⊢; omega))
      obtain ⟨x21, hx21, hf⟩ := bnd_elim hf
      have hq := Option.some.inj hf
      subst hq
      exact fq20
  obtain ⟨q22, hr23, hf⟩ := obind hf
  obtain ⟨q24, hr25, hf⟩ := obind hf
  have hq := Option.some.inj hf
  subst hq
  exact f19
set_option maxHeartbeats 4000000 in
theorem frX9_letters_L108 (c1 : Int64) (c3 : Int32)  (q : (St)) : ∀ (n : Nat) (v7 : Int32) (σ : St), fX9_letters_L108 c1 c3 n v7 σ = some q → Fr ([59, 101]) σ q := by
  intro n
  induction n with
  | zero =>
    intro v7 σ hf
    simp only [fX9_letters_L108] at hf
    exact absurd hf (by simp)
  | succ n ih =>
    intro v7 σ hf
    rw [fX9_letters_L108] at hf
    by_cases hc5 : c3 ≤ v7
    · rw [if_pos hc5] at hf
      have hq := Option.some.inj hf
      rw [← hq]
      exact fr_rfl
    · rw [if_neg hc5] at hf
      obtain ⟨hb6, hf⟩ := grd_elim hf
      obtain ⟨σ7, hσ7, hf⟩ := bnd_elim hf
      have fσ7 : Fr ([59, 101]) σ σ7 := by rw [hσ7]; exact fr_setI fr_rfl (by rw [key_ne (by decide)]; first | decide | (simp [gk]; done) | (simp only [gk, List.mem_append, List.mem_cons, List.not_mem_nil, or_false, false_or]; omega))
      obtain ⟨σ8, hσ8, hf⟩ := bnd_elim hf
      have fσ8 : Fr ([59, 101]) σ σ8 := by rw [hσ8]; exact fr_setI fσ7 (by rw [key_58]; first | decide | (simp [gk]; done) | (simp only [gk, List.mem_append, List.mem_cons, List.not_mem_nil, or_false, false_or]; omega))
      exact fr_trS fσ8 (ih (v7 + (1 : Int32)) σ8 hf)
set_option maxHeartbeats 4000000 in
theorem frX9_letters (p1 : Int64) (σ : St)  (q : Int32 × St) (hf : fX9_letters p1 σ = some q) : Fr ([59, 101]) σ q.2 := by
  unfold fX9_letters at hf
  obtain ⟨q1, hr2, hf⟩ := obind hf
  by_cases hc3 : q1.2 = 0
  · rw [if_pos hc3] at hf
    have hq := Option.some.inj hf
    subst hq
    exact fr_rfl
  · rw [if_neg hc3] at hf
    by_cases hc4 : ((σ.1 58 1) + q1.1) ≤ (16 : Int32)
    · rw [if_pos hc4] at hf
      obtain ⟨q9, hr10, hf⟩ := obind hf
      have f11 : Fr ([59, 101]) σ q9 := fr_tr fr_rfl (frX9_letters_L108 p1 q1.1 q9 fu (0 : Int32) σ hr10) (by intro x9 hx9; first | exact absurd hx9 List.not_mem_nil | exact hx9 | (simp [gk] at hx9 ⊢; omega) | (simp only [gk, List.mem_append, List.mem_cons, List.not_mem_nil, or_false, false_or] at hx9 ⊢; omega))
      have hq := Option.some.inj hf
      subst hq
      exact f11
    · rw [if_neg hc4] at hf
      have hq := Option.some.inj hf
      subst hq
      exact fr_rfl
set_option maxHeartbeats 4000000 in
theorem frX9_blank  (σ : St)  (q : Int32 × St) (hf : fX9_blank σ = some q) : Fr ([101]) σ q.2 := by
  unfold fX9_blank at hf
  obtain ⟨σ1, hσ1, hf⟩ := bnd_elim hf
  have fσ1 : Fr ([101]) σ σ1 := by rw [hσ1]; exact fr_setI fr_rfl (by rw [key_58]; first | decide | (simp [gk]; done) | (simp only [gk, List.mem_append, List.mem_cons, List.not_mem_nil, or_false, false_or]; omega))
  have hq := Option.some.inj hf
  subst hq
  exact fσ1
set_option maxHeartbeats 4000000 in
theorem frX9_go (p1 : Int32) (σ : St)  (q : Int32 × St) (hf : fX9_go p1 σ = some q) : Fr ([108, 107, 111, 109, 110]) σ q.2 := by
  unfold fX9_go at hf
  by_cases hc1 : (σ.1 58 7) = (1 : Int32)
  · rw [if_pos hc1] at hf
    obtain ⟨σ2, hσ2, hf⟩ := bnd_elim hf
    have fσ2 : Fr ([108, 107, 111, 109, 110]) σ σ2 := by rw [hσ2]; exact fr_setI fr_rfl (by rw [key_58]; first | decide | (simp [gk]; done) | (simp only [gk, List.mem_append, List.mem_cons, List.not_mem_nil, or_false, false_or]; omega))
    obtain ⟨σ3, hσ3, hf⟩ := bnd_elim hf
    have fσ3 : Fr ([108, 107, 111, 109, 110]) σ σ3 := by rw [hσ3]; exact fr_setI fσ2 (by rw [key_58]; first | decide | (simp [gk]; done) | (simp only [gk, List.mem_append, List.mem_cons, List.not_mem_nil, or_false, false_or]; omega))
    have hq := Option.some.inj hf
    subst hq
    exact fσ3
  · rw [if_neg hc1] at hf
    by_cases hc4 : (σ.1 58 7) = (5 : Int32)
    · rw [if_pos hc4] at hf
      obtain ⟨σ5, hσ5, hf⟩ := bnd_elim hf
      have fσ5 : Fr ([108, 107, 111, 109, 110]) σ σ5 := by rw [hσ5]; exact fr_setI fr_rfl (by rw [key_58]; first | decide | (simp [gk]; done) | (simp only [gk, List.mem_append, List.mem_cons, List.not_mem_nil, or_false, false_or]; omega))
      obtain ⟨σ6, hσ6, hf⟩ := bnd_elim hf
      have fσ6 : Fr ([108, 107, 111, 109, 110]) σ σ6 := by rw [hσ6]; exact fr_setI fσ5 (by rw [key_58]; first | decide | (simp [gk]; done) | (simp only [gk, List.mem_append, List.mem_cons, List.not_mem_nil, or_false, false_or]; omega))
      have hq := Option.some.inj hf
      subst hq
      exact fσ6
    · rw [if_neg hc4] at hf
      obtain ⟨x8, hx8, hf⟩ := bnd_elim hf
      obtain ⟨x10, hx10, hf⟩ := bnd_elim hf
      obtain ⟨σ11, hσ11, hf⟩ := bnd_elim hf
      have fσ11 : Fr ([108, 107, 111, 109, 110]) σ σ11 := by rw [hσ11]; exact fr_setI fr_rfl (by rw [key_58]; first | decide | (simp [gk]; done) | (simp only [gk, List.mem_append, List.mem_cons, List.not_mem_nil, or_false, false_or]; omega))
      obtain ⟨x13, hx13, hf⟩ := bnd_elim hf
      obtain ⟨σ14, hσ14, hf⟩ := bnd_elim hf
      have fσ14 : Fr ([108, 107, 111, 109, 110]) σ σ14 := by rw [hσ14]; exact fr_setI fσ11 (by rw [key_58]; first | decide | (simp [gk]; done) | (simp only [gk, List.mem_append, List.mem_cons, List.not_mem_nil, or_false, false_or]; omega))
      obtain ⟨x16, hx16, hf⟩ := bnd_elim hf
      obtain ⟨σ17, hσ17, hf⟩ := bnd_elim hf
      have fσ17 : Fr ([108, 107, 111, 109, 110]) σ σ17 := by rw [hσ17]; exact fr_setI fσ14 (by rw [key_58]; first | decide | (simp [gk]; done) | (simp only [gk, List.mem_append, List.mem_cons, List.not_mem_nil, or_false, false_or]; omega))
      have hq := Option.some.inj hf
      subst hq
      exact fσ17
set_option maxHeartbeats 4000000 in
theorem frX9_faultOf_L27   (q : (Int32 × St)) : ∀ (n : Nat) (v1 : Int32) (σ : St), fX9_faultOf_L27 n v1 σ = some q → Fr ([108, 107, 111, 109, 110]) σ q.2 := by
  intro n
  induction n with
  | zero =>
    intro v1 σ hf
    simp only [fX9_faultOf_L27] at hf
    exact absurd hf (by simp)
  | succ n ih =>
    intro v1 σ hf
    rw [fX9_faultOf_L27] at hf
    by_cases hc6 : (σ.1 58 1) ≤ v1
    · rw [if_pos hc6] at hf
      have hq := Option.some.inj hf
      rw [← hq]
      exact fr_rfl
    · rw [if_neg hc6] at hf
      obtain ⟨hb7, hf⟩ := grd_elim hf
      obtain ⟨q8, hq8, hf⟩ := obind hf
      have fq8 : Fr ([108, 107, 111, 109, 110]) σ q8.2 := fr_tr fr_rfl (frX9_go (σ.1 59 v1.toNatClampNeg) σ _ hq8) (by intro x9 hx9; first | exact absurd hx9 List.not_mem_nil | exact hx9 | (simp [gk] at hx9 ⊢; omega) | (simp only [gk, List.mem_append, List.mem_cons, List.not_mem_nil, or_false, false_or] at hx9 ⊢; omega))
      by_cases hc9 : q8.1 = 0
      · rw [if_pos hc9] at hf
        have hq := Option.some.inj hf
        rw [← hq]
        exact fq8
      · rw [if_neg hc9] at hf
        exact fr_trS fq8 (ih (v1 + (1 : Int32)) q8.2 hf)
set_option maxHeartbeats 4000000 in
theorem frX9_faultOf  (σ : St)  (q : Int32 × St) (hf : fX9_faultOf σ = some q) : Fr ([107, 108, 109, 110, 111]) σ q.2 := by
  unfold fX9_faultOf at hf
  obtain ⟨σ1, hσ1, hf⟩ := bnd_elim hf
  have fσ1 : Fr ([107, 108, 109, 110, 111]) σ σ1 := by rw [hσ1]; exact fr_setI fr_rfl (by rw [key_58]; first | decide | (simp [gk]; done) | (simp only [gk, List.mem_append, List.mem_cons, List.not_mem_nil, or_false, false_or]; omega))
  obtain ⟨σ2, hσ2, hf⟩ := bnd_elim hf
  have fσ2 : Fr ([107, 108, 109, 110, 111]) σ σ2 := by rw [hσ2]; exact fr_setI fσ1 (by rw [key_58]; first | decide | (simp [gk]; done) | (simp only [gk, List.mem_append, List.mem_cons, List.not_mem_nil, or_false, false_or]; omega))
  obtain ⟨σ3, hσ3, hf⟩ := bnd_elim hf
  have fσ3 : Fr ([107, 108, 109, 110, 111]) σ σ3 := by rw [hσ3]; exact fr_setI fσ2 (by rw [key_58]; first | decide | (simp [gk]; done) | (simp only [gk, List.mem_append, List.mem_cons, List.not_mem_nil, or_false, false_or]; omega))
  obtain ⟨σ4, hσ4, hf⟩ := bnd_elim hf
  have fσ4 : Fr ([107, 108, 109, 110, 111]) σ σ4 := by rw [hσ4]; exact fr_setI fσ3 (by rw [key_58]; first | decide | (simp [gk]; done) | (simp only [gk, List.mem_append, List.mem_cons, List.not_mem_nil, or_false, false_or]; omega))
  obtain ⟨σ5, hσ5, hf⟩ := bnd_elim hf
  have fσ5 : Fr ([107, 108, 109, 110, 111]) σ σ5 := by rw [hσ5]; exact fr_setI fσ4 (by rw [key_58]; first | decide | (simp [gk]; done) | (simp only [gk, List.mem_append, List.mem_cons, List.not_mem_nil, or_false, false_or]; omega))
  obtain ⟨q10, hr11, hf⟩ := obind hf
  have f12 : Fr ([107, 108, 109, 110, 111]) σ q10.2 := fr_tr fσ5 (frX9_faultOf_L27  q10 fu (0 : Int32) σ5 hr11) (by intro x9 hx9; first | exact absurd hx9 List.not_mem_nil | exact hx9 | (simp [gk] at hx9 ⊢; omega) | (simp only [gk, List.mem_append, List.mem_cons, List.not_mem_nil, or_false, false_or] at hx9 ⊢; omega))
  have hq := Option.some.inj hf
  subst hq
  exact f12
set_option maxHeartbeats 4000000 in
theorem frX9_fault  (σ : St)  (q : Int32 × St) (hf : fX9_fault σ = some q) : Fr ([107, 108, 109, 110, 111]) σ q.2 := by
  unfold fX9_fault at hf
  obtain ⟨q1, hq1, hf⟩ := obind hf
  have fq1 : Fr ([107, 108, 109, 110, 111]) σ q1.2 := fr_tr fr_rfl (frX9_faultOf σ _ hq1) (by intro x9 hx9; first | exact absurd hx9 List.not_mem_nil | exact hx9 | (simp [gk] at hx9 ⊢; omega) | (simp only [gk, List.mem_append, List.mem_cons, List.not_mem_nil, or_false, false_or] at hx9 ⊢; omega))
  have hq := Option.some.inj hf
  subst hq
  exact fq1
set_option maxHeartbeats 4000000 in
theorem frX9_law  (σ : St)  (q : Int32 × St) (hf : fX9_law σ = some q) : Fr ([107, 108, 109, 110, 111, 102, 103, 104, 105, 106, 101]) σ q.2 := by
  unfold fX9_law at hf
  obtain ⟨q1, hq1, hf⟩ := obind hf
  have fq1 : Fr ([107, 108, 109, 110, 111, 102, 103, 104, 105, 106, 101]) σ q1.2 := fr_tr fr_rfl (frX9_faultOf σ _ hq1) (by intro x9 hx9; first | exact absurd hx9 List.not_mem_nil | exact hx9 | (simp [gk] at hx9 ⊢; omega) | (simp only [gk, List.mem_append, List.mem_cons, List.not_mem_nil, or_false, false_or] at hx9 ⊢; omega))
  by_cases hc2 : q1.1 < (q1.2.1 58 1)
  · rw [if_pos hc2] at hf
    have hq := Option.some.inj hf
    subst hq
    exact fq1
  · rw [if_neg hc2] at hf
    by_cases hc3 : (q1.2.1 58 7) = (1 : Int32)
    · rw [if_pos hc3] at hf
      have hq := Option.some.inj hf
      subst hq
      exact fq1
    · rw [if_neg hc3] at hf
      by_cases hc4 : (q1.2.1 58 7) = (5 : Int32)
      · rw [if_pos hc4] at hf
        have hq := Option.some.inj hf
        subst hq
        exact fq1
      · rw [if_neg hc4] at hf
        obtain ⟨σ5, hσ5, hf⟩ := bnd_elim hf
        have fσ5 : Fr ([107, 108, 109, 110, 111, 102, 103, 104, 105, 106, 101]) σ σ5 := by rw [hσ5]; exact fr_setI fq1 (by rw [key_58]; first | decide | (simp [gk]; done) | (simp only [gk, List.mem_append, List.mem_cons, List.not_mem_nil, or_false, false_or]; omega))
        obtain ⟨σ6, hσ6, hf⟩ := bnd_elim hf
        have fσ6 : Fr ([107, 108, 109, 110, 111, 102, 103, 104, 105, 106, 101]) σ σ6 := by rw [hσ6]; exact fr_setI fσ5 (by rw [key_58]; first | decide | (simp [gk]; done) | (simp only [gk, List.mem_append, List.mem_cons, List.not_mem_nil, or_false, false_or]; omega))
        obtain ⟨σ7, hσ7, hf⟩ := bnd_elim hf
        have fσ7 : Fr ([107, 108, 109, 110, 111, 102, 103, 104, 105, 106, 101]) σ σ7 := by rw [hσ7]; exact fr_setI fσ6 (by rw [key_58]; first | decide | (simp [gk]; done) | (simp only [gk, List.mem_append, List.mem_cons, List.not_mem_nil, or_false, false_or]; omega))
        obtain ⟨σ8, hσ8, hf⟩ := bnd_elim hf
        have fσ8 : Fr ([107, 108, 109, 110, 111, 102, 103, 104, 105, 106, 101]) σ σ8 := by rw [hσ8]; exact fr_setI fσ7 (by rw [key_58]; first | decide | (simp [gk]; done) | (simp only [gk, List.mem_append, List.mem_cons, List.not_mem_nil, or_false, false_or]; omega))
        obtain ⟨σ9, hσ9, hf⟩ := bnd_elim hf
        have fσ9 : Fr ([107, 108, 109, 110, 111, 102, 103, 104, 105, 106, 101]) σ σ9 := by rw [hσ9]; exact fr_setI fσ8 (by rw [key_58]; first | decide | (simp [gk]; done) | (simp only [gk, List.mem_append, List.mem_cons, List.not_mem_nil, or_false, false_or]; omega))
        obtain ⟨σ10, hσ10, hf⟩ := bnd_elim hf
        have fσ10 : Fr ([107, 108, 109, 110, 111, 102, 103, 104, 105, 106, 101]) σ σ10 := by rw [hσ10]; exact fr_setI fσ9 (by rw [key_58]; first | decide | (simp [gk]; done) | (simp only [gk, List.mem_append, List.mem_cons, List.not_mem_nil, or_false, false_or]; omega))
        have hq := Option.some.inj hf
        subst hq
        exact fσ10
set_option maxHeartbeats 4000000 in
theorem frX9_person (p1 : Int32) (σ : St)  (q : Int32 × St) (hf : fX9_person p1 σ = some q) : Fr ([60, 112]) σ q.2 := by
  unfold fX9_person at hf
  by_cases hc1 : (fX9_in p1.toInt64 (0 : Int64) (3 : Int64)) = 0
  · rw [if_pos hc1] at hf
    have hq := Option.some.inj hf
    subst hq
    exact fr_rfl
  · rw [if_neg hc1] at hf
    by_cases hc2 : (σ.1 58 12) = (8 : Int32)
    · rw [if_pos hc2] at hf
      have hq := Option.some.inj hf
      subst hq
      exact fr_rfl
    · rw [if_neg hc2] at hf
      obtain ⟨hb3, hf⟩ := grd_elim hf
      obtain ⟨σ4, hσ4, hf⟩ := bnd_elim hf
      have fσ4 : Fr ([60, 112]) σ σ4 := by rw [hσ4]; exact fr_setI fr_rfl (by rw [key_ne (by decide)]; first | decide | (simp [gk]; done) | (simp only [gk, List.mem_append, List.mem_cons, List.not_mem_nil, or_false, false_or]; omega))
      obtain ⟨σ5, hσ5, hf⟩ := bnd_elim hf
      have fσ5 : Fr ([60, 112]) σ σ5 := by rw [hσ5]; exact fr_setI fσ4 (by rw [key_58]; first | decide | (simp [gk]; done) | (simp only [gk, List.mem_append, List.mem_cons, List.not_mem_nil, or_false, false_or]; omega))
      have hq := Option.some.inj hf
      subst hq
      exact fσ5
set_option maxHeartbeats 4000000 in
theorem frX9_know (p1 : Int32) (p2 : Int32) (p3 : Int32) (σ : St)  (q : Int32 × St) (hf : fX9_know p1 p2 p3 σ = some q) : Fr ([61]) σ q.2 := by
  unfold fX9_know at hf
  by_cases hc1 : (fX9_arePair p1 p2 σ) = 0
  · rw [if_pos hc1] at hf
    have hq := Option.some.inj hf
    subst hq
    exact fr_rfl
  · rw [if_neg hc1] at hf
    obtain ⟨hb2, hf⟩ := grd_elim hf
    obtain ⟨x3, hx3, hf⟩ := bnd_elim hf
    obtain ⟨hb4, hf⟩ := grd_elim hf
    obtain ⟨x6, hx6, hf⟩ := bnd_elim hf
    obtain ⟨hb7, hf⟩ := grd_elim hf
    obtain ⟨σ8, hσ8, hf⟩ := bnd_elim hf
    have fσ8 : Fr ([61]) σ σ8 := by rw [hσ8]; exact fr_setI fr_rfl (by rw [key_ne (by decide)]; first | decide | (simp [gk]; done) | (simp only [gk, List.mem_append, List.mem_cons, List.not_mem_nil, or_false, false_or]; omega))
    obtain ⟨hb9, hf⟩ := grd_elim hf
    obtain ⟨x11, hx11, hf⟩ := bnd_elim hf
    obtain ⟨hb12, hf⟩ := grd_elim hf
    obtain ⟨σ13, hσ13, hf⟩ := bnd_elim hf
    have fσ13 : Fr ([61]) σ σ13 := by rw [hσ13]; exact fr_setI fσ8 (by rw [key_ne (by decide)]; first | decide | (simp [gk]; done) | (simp only [gk, List.mem_append, List.mem_cons, List.not_mem_nil, or_false, false_or]; omega))
    have hq := Option.some.inj hf
    subst hq
    exact fσ13
set_option maxHeartbeats 4000000 in
theorem frX9_like (p1 : Int32) (p2 : Int32) (p3 : Int32) (σ : St)  (q : Int32 × St) (hf : fX9_like p1 p2 p3 σ = some q) : Fr ([62]) σ q.2 := by
  unfold fX9_like at hf
  by_cases hc1 : (fX9_arePair p1 p2 σ) = 0
  · rw [if_pos hc1] at hf
    have hq := Option.some.inj hf
    subst hq
    exact fr_rfl
  · rw [if_neg hc1] at hf
    by_cases hc2 : (fX9_in p3.toInt64 (0 : Int64) (9 : Int64)) = 0
    · rw [if_pos hc2] at hf
      have hq := Option.some.inj hf
      subst hq
      exact fr_rfl
    · rw [if_neg hc2] at hf
      obtain ⟨hb3, hf⟩ := grd_elim hf
      obtain ⟨x4, hx4, hf⟩ := bnd_elim hf
      obtain ⟨hb5, hf⟩ := grd_elim hf
      obtain ⟨σ6, hσ6, hf⟩ := bnd_elim hf
      have fσ6 : Fr ([62]) σ σ6 := by rw [hσ6]; exact fr_setI fr_rfl (by rw [key_ne (by decide)]; first | decide | (simp [gk]; done) | (simp only [gk, List.mem_append, List.mem_cons, List.not_mem_nil, or_false, false_or]; omega))
      have hq := Option.some.inj hf
      subst hq
      exact fσ6
set_option maxHeartbeats 4000000 in
theorem frX9_gift_L40 (c1 : Int32) (c2 : Int32)  (q : (St)) : ∀ (n : Nat) (v3 : Int32) (σ : St), fX9_gift_L40 c1 c2 n v3 σ = some q → Fr ([65]) σ q := by
  intro n
  induction n with
  | zero =>
    intro v3 σ hf
    simp only [fX9_gift_L40] at hf
    exact absurd hf (by simp)
  | succ n ih =>
    intro v3 σ hf
    rw [fX9_gift_L40] at hf
    by_cases hc4 : (8 : Int32) ≤ v3
    · rw [if_pos hc4] at hf
      have hq := Option.some.inj hf
      rw [← hq]
      exact fr_rfl
    · rw [if_neg hc4] at hf
      obtain ⟨hb5, hf⟩ := grd_elim hf
      obtain ⟨σ6, hσ6, hf⟩ := bnd_elim hf
      have fσ6 : Fr ([65]) σ σ6 := by rw [hσ6]; exact fr_setI fr_rfl (by rw [key_ne (by decide)]; first | decide | (simp [gk]; done) | (simp only [gk, List.mem_append, List.mem_cons, List.not_mem_nil, or_false, false_or]; omega))
      exact fr_trS fσ6 (ih (v3 + (1 : Int32)) σ6 hf)
set_option maxHeartbeats 4000000 in
theorem frX9_gift (p1 : Int32) (p2 : Int32) (σ : St)  (q : Int32 × St) (hf : fX9_gift p1 p2 σ = some q) : Fr ([65, 120]) σ q.2 := by
  unfold fX9_gift at hf
  by_cases hc1 : (fX9_in p1.toInt64 (0 : Int64) (4 : Int64)) = 0
  · rw [if_pos hc1] at hf
    have hq := Option.some.inj hf
    subst hq
    exact fr_rfl
  · rw [if_neg hc1] at hf
    by_cases hc2 : (fX9_isPerson p2 σ) = 0
    · rw [if_pos hc2] at hf
      have hq := Option.some.inj hf
      subst hq
      exact fr_rfl
    · rw [if_neg hc2] at hf
      by_cases hc3 : (σ.1 58 20) = (8 : Int32)
      · rw [if_pos hc3] at hf
        have hq := Option.some.inj hf
        subst hq
        exact fr_rfl
      · rw [if_neg hc3] at hf
        obtain ⟨q7, hr8, hf⟩ := obind hf
        have f9 : Fr ([65, 120]) σ q7 := fr_tr fr_rfl (frX9_gift_L40 p1 p2 q7 fu (0 : Int32) σ hr8) (by intro x9 hx9; first | exact absurd hx9 List.not_mem_nil | exact hx9 | (simp [gk] at hx9 ⊢; omega) | (simp only [gk, List.mem_append, List.mem_cons, List.not_mem_nil, or_false, false_or] at hx9 ⊢; omega))
        obtain ⟨hb10, hf⟩ := grd_elim hf
        obtain ⟨σ11, hσ11, hf⟩ := bnd_elim hf
        have fσ11 : Fr ([65, 120]) σ σ11 := by rw [hσ11]; exact fr_setI f9 (by rw [key_ne (by decide)]; first | decide | (simp [gk]; done) | (simp only [gk, List.mem_append, List.mem_cons, List.not_mem_nil, or_false, false_or]; omega))
        obtain ⟨hb12, hf⟩ := grd_elim hf
        obtain ⟨σ13, hσ13, hf⟩ := bnd_elim hf
        have fσ13 : Fr ([65, 120]) σ σ13 := by rw [hσ13]; exact fr_setI fσ11 (by rw [key_ne (by decide)]; first | decide | (simp [gk]; done) | (simp only [gk, List.mem_append, List.mem_cons, List.not_mem_nil, or_false, false_or]; omega))
        obtain ⟨hb14, hf⟩ := grd_elim hf
        obtain ⟨σ15, hσ15, hf⟩ := bnd_elim hf
        have fσ15 : Fr ([65, 120]) σ σ15 := by rw [hσ15]; exact fr_setI fσ13 (by rw [key_ne (by decide)]; first | decide | (simp [gk]; done) | (simp only [gk, List.mem_append, List.mem_cons, List.not_mem_nil, or_false, false_or]; omega))
        obtain ⟨hb16, hf⟩ := grd_elim hf
        obtain ⟨σ17, hσ17, hf⟩ := bnd_elim hf
        have fσ17 : Fr ([65, 120]) σ σ17 := by rw [hσ17]; exact fr_setI fσ15 (by rw [key_ne (by decide)]; first | decide | (simp [gk]; done) | (simp only [gk, List.mem_append, List.mem_cons, List.not_mem_nil, or_false, false_or]; omega))
        obtain ⟨σ18, hσ18, hf⟩ := bnd_elim hf
        have fσ18 : Fr ([65, 120]) σ σ18 := by rw [hσ18]; exact fr_setI fσ17 (by rw [key_58]; first | decide | (simp [gk]; done) | (simp only [gk, List.mem_append, List.mem_cons, List.not_mem_nil, or_false, false_or]; omega))
        have hq := Option.some.inj hf
        subst hq
        exact fσ18
set_option maxHeartbeats 4000000 in
theorem frX9_goOn (p1 : Int32) (p2 : Int32) (σ : St)  (q : Int32 × St) (hf : fX9_goOn p1 p2 σ = some q) : Fr ([63, 65, 64, 118]) σ q.2 := by
  unfold fX9_goOn at hf
  obtain ⟨hb1, hf⟩ := grd_elim hf
  obtain ⟨x2, hx2, hf⟩ := bnd_elim hf
  obtain ⟨hb3, hf⟩ := grd_elim hf
  obtain ⟨x4, hx4, hf⟩ := bnd_elim hf
  obtain ⟨hb5, hf⟩ := grd_elim hf
  obtain ⟨q6, hq6, hf⟩ := obind hf
  obtain ⟨hb7, hf⟩ := grd_elim hf
  obtain ⟨σ8, hσ8, hf⟩ := bnd_elim hf
  have fσ8 : Fr ([63, 65, 64, 118]) σ σ8 := by rw [hσ8]; exact fr_setI fr_rfl (by rw [key_ne (by decide)]; first | decide | (simp [gk]; done) | (simp only [gk, List.mem_append, List.mem_cons, List.not_mem_nil, or_false, false_or]; omega))
  obtain ⟨hb9, hf⟩ := grd_elim hf
  obtain ⟨σ10, hσ10, hf⟩ := bnd_elim hf
  have fσ10 : Fr ([63, 65, 64, 118]) σ σ10 := by rw [hσ10]; exact fr_setI fσ8 (by rw [key_ne (by decide)]; first | decide | (simp [gk]; done) | (simp only [gk, List.mem_append, List.mem_cons, List.not_mem_nil, or_false, false_or]; omega))
  obtain ⟨hb11, hf⟩ := grd_elim hf
  obtain ⟨σ12, hσ12, hf⟩ := bnd_elim hf
  have fσ12 : Fr ([63, 65, 64, 118]) σ σ12 := by rw [hσ12]; exact fr_setI fσ10 (by rw [key_ne (by decide)]; first | decide | (simp [gk]; done) | (simp only [gk, List.mem_append, List.mem_cons, List.not_mem_nil, or_false, false_or]; omega))
  obtain ⟨hb13, hf⟩ := grd_elim hf
  obtain ⟨σ14, hσ14, hf⟩ := bnd_elim hf
  have fσ14 : Fr ([63, 65, 64, 118]) σ σ14 := by rw [hσ14]; exact fr_setI fσ12 (by rw [key_ne (by decide)]; first | decide | (simp [gk]; done) | (simp only [gk, List.mem_append, List.mem_cons, List.not_mem_nil, or_false, false_or]; omega))
  obtain ⟨hb15, hf⟩ := grd_elim hf
  obtain ⟨x17, hx17, hf⟩ := bnd_elim hf
  obtain ⟨hb18, hf⟩ := grd_elim hf
  obtain ⟨σ19, hσ19, hf⟩ := bnd_elim hf
  have fσ19 : Fr ([63, 65, 64, 118]) σ σ19 := by rw [hσ19]; exact fr_setI fσ14 (by rw [key_ne (by decide)]; first | decide | (simp [gk]; done) | (simp only [gk, List.mem_append, List.mem_cons, List.not_mem_nil, or_false, false_or]; omega))
  obtain ⟨hb20, hf⟩ := grd_elim hf
  obtain ⟨hb21, hf⟩ := grd_elim hf
  obtain ⟨σ22, hσ22, hf⟩ := bnd_elim hf
  have fσ22 : Fr ([63, 65, 64, 118]) σ σ22 := by rw [hσ22]; exact fr_setI fσ19 (by rw [key_ne (by decide)]; first | decide | (simp [gk]; done) | (simp only [gk, List.mem_append, List.mem_cons, List.not_mem_nil, or_false, false_or]; omega))
  obtain ⟨q24, hr25, hf⟩ := obind hf
  have f26 : Fr ([63, 65, 64, 118]) σ q24 := by
    clear hf
    have hf := hr25
    clear hr25
    by_cases hc23 : x4 = (1 : Int32)
    · rw [if_pos hc23] at hf
      obtain ⟨hb27, hf⟩ := grd_elim hf
      by_cases hc28 : (σ22.1 65 (((8 : Int32) * p1) + (4 : Int32)).toNatClampNeg) < (σ22.1 58 5)
      · rw [if_pos hc28] at hf
        obtain ⟨hb29, hf⟩ := grd_elim hf
        by_cases hc30 : p2 = (σ22.1 65 (((8 : Int32) * p1) + (1 : Int32)).toNatClampNeg)
        · rw [if_pos hc30] at hf
          obtain ⟨hb31, hf⟩ := grd_elim hf
          obtain ⟨σ32, hσ32, hf⟩ := bnd_elim hf
          have fσ32 : Fr ([63, 65, 64, 118]) σ σ32 := by rw [hσ32]; exact fr_setI fσ22 (by rw [key_ne (by decide)]; first | decide | (simp [gk]; done) | (simp only [gk, List.mem_append, List.mem_cons, List.not_mem_nil, or_false, false_or]; omega))
          obtain ⟨hb33, hf⟩ := grd_elim hf
          obtain ⟨hb34, hf⟩ := grd_elim hf
          obtain ⟨σ35, hσ35, hf⟩ := bnd_elim hf
          have fσ35 : Fr ([63, 65, 64, 118]) σ σ35 := by rw [hσ35]; exact fr_setI fσ32 (by rw [key_ne (by decide)]; first | decide | (simp [gk]; done) | (simp only [gk, List.mem_append, List.mem_cons, List.not_mem_nil, or_false, false_or]; omega))
          obtain ⟨σ36, hσ36, hf⟩ := bnd_elim hf
          have fσ36 : Fr ([63, 65, 64, 118]) σ σ36 := by rw [hσ36]; exact fr_setI fσ35 (by rw [key_58]; first | decide | (simp [gk]; done) | (simp only [gk, List.mem_append, List.mem_cons, List.not_mem_nil, or_false, false_or]; omega))
          have hq := Option.some.inj hf
          subst hq
          exact fσ36
        · rw [if_neg hc30] at hf
          have hq := Option.some.inj hf
          subst hq
          exact fσ22
      · rw [if_neg hc28] at hf
        obtain ⟨hb37, hf⟩ := grd_elim hf
        obtain ⟨σ38, hσ38, hf⟩ := bnd_elim hf
        have fσ38 : Fr ([63, 65, 64, 118]) σ σ38 := by rw [hσ38]; exact fr_setI fσ22 (by rw [key_ne (by decide)]; first | decide | (simp [gk]; done) | (simp only [gk, List.mem_append, List.mem_cons, List.not_mem_nil, or_false, false_or]; omega))
        have hq := Option.some.inj hf
        subst hq
        exact fσ38
    · rw [if_neg hc23] at hf
      by_cases hc39 : x4 = (4 : Int32)
      · rw [if_pos hc39] at hf
        obtain ⟨hb40, hf⟩ := grd_elim hf
        by_cases hc41 : (σ22.1 65 (((8 : Int32) * p1) + (4 : Int32)).toNatClampNeg) < (σ22.1 58 5)
        · rw [if_pos hc41] at hf
          obtain ⟨hb42, hf⟩ := grd_elim hf
          by_cases hc43 : p2 = (σ22.1 65 (((8 : Int32) * p1) + (1 : Int32)).toNatClampNeg)
          · rw [if_pos hc43] at hf
            obtain ⟨hb44, hf⟩ := grd_elim hf
            obtain ⟨σ45, hσ45, hf⟩ := bnd_elim hf
            have fσ45 : Fr ([63, 65, 64, 118]) σ σ45 := by rw [hσ45]; exact fr_setI fσ22 (by rw [key_ne (by decide)]; first | decide | (simp [gk]; done) | (simp only [gk, List.mem_append, List.mem_cons, List.not_mem_nil, or_false, false_or]; omega))
            obtain ⟨hb46, hf⟩ := grd_elim hf
            obtain ⟨hb47, hf⟩ := grd_elim hf
            obtain ⟨σ48, hσ48, hf⟩ := bnd_elim hf
            have fσ48 : Fr ([63, 65, 64, 118]) σ σ48 := by rw [hσ48]; exact fr_setI fσ45 (by rw [key_ne (by decide)]; first | decide | (simp [gk]; done) | (simp only [gk, List.mem_append, List.mem_cons, List.not_mem_nil, or_false, false_or]; omega))
            obtain ⟨σ49, hσ49, hf⟩ := bnd_elim hf
            have fσ49 : Fr ([63, 65, 64, 118]) σ σ49 := by rw [hσ49]; exact fr_setI fσ48 (by rw [key_58]; first | decide | (simp [gk]; done) | (simp only [gk, List.mem_append, List.mem_cons, List.not_mem_nil, or_false, false_or]; omega))
            have hq := Option.some.inj hf
            subst hq
            exact fσ49
          · rw [if_neg hc43] at hf
            have hq := Option.some.inj hf
            subst hq
            exact fσ22
        · rw [if_neg hc41] at hf
          obtain ⟨hb50, hf⟩ := grd_elim hf
          obtain ⟨σ51, hσ51, hf⟩ := bnd_elim hf
          have fσ51 : Fr ([63, 65, 64, 118]) σ σ51 := by rw [hσ51]; exact fr_setI fσ22 (by rw [key_ne (by decide)]; first | decide | (simp [gk]; done) | (simp only [gk, List.mem_append, List.mem_cons, List.not_mem_nil, or_false, false_or]; omega))
          have hq := Option.some.inj hf
          subst hq
          exact fσ51
      · rw [if_neg hc39] at hf
        obtain ⟨hb52, hf⟩ := grd_elim hf
        by_cases hc53 : p2 = (σ22.1 65 (((8 : Int32) * p1) + (1 : Int32)).toNatClampNeg)
        · rw [if_pos hc53] at hf
          obtain ⟨hb54, hf⟩ := grd_elim hf
          obtain ⟨σ55, hσ55, hf⟩ := bnd_elim hf
          have fσ55 : Fr ([63, 65, 64, 118]) σ σ55 := by rw [hσ55]; exact fr_setI fσ22 (by rw [key_ne (by decide)]; first | decide | (simp [gk]; done) | (simp only [gk, List.mem_append, List.mem_cons, List.not_mem_nil, or_false, false_or]; omega))
          obtain ⟨hb56, hf⟩ := grd_elim hf
          obtain ⟨hb57, hf⟩ := grd_elim hf
          obtain ⟨σ58, hσ58, hf⟩ := bnd_elim hf
          have fσ58 : Fr ([63, 65, 64, 118]) σ σ58 := by rw [hσ58]; exact fr_setI fσ55 (by rw [key_ne (by decide)]; first | decide | (simp [gk]; done) | (simp only [gk, List.mem_append, List.mem_cons, List.not_mem_nil, or_false, false_or]; omega))
          obtain ⟨σ59, hσ59, hf⟩ := bnd_elim hf
          have fσ59 : Fr ([63, 65, 64, 118]) σ σ59 := by rw [hσ59]; exact fr_setI fσ58 (by rw [key_58]; first | decide | (simp [gk]; done) | (simp only [gk, List.mem_append, List.mem_cons, List.not_mem_nil, or_false, false_or]; omega))
          have hq := Option.some.inj hf
          subst hq
          exact fσ59
        · rw [if_neg hc53] at hf
          have hq := Option.some.inj hf
          subst hq
          exact fσ22
  obtain ⟨hb60, hf⟩ := grd_elim hf
  have hq := Option.some.inj hf
  subst hq
  exact f26
set_option maxHeartbeats 4000000 in
theorem frX9_give (p1 : Int32) (p2 : Int32) (σ : St)  (q : Int32 × St) (hf : fX9_give p1 p2 σ = some q) : Fr ([63, 65, 64, 118]) σ q.2 := by
  unfold fX9_give at hf
  by_cases hc1 : (fX9_isGift p1 σ) = 0
  · rw [if_pos hc1] at hf
    have hq := Option.some.inj hf
    subst hq
    exact fr_rfl
  · rw [if_neg hc1] at hf
    by_cases hc2 : (fX9_isPerson p2 σ) = 0
    · rw [if_pos hc2] at hf
      have hq := Option.some.inj hf
      subst hq
      exact fr_rfl
    · rw [if_neg hc2] at hf
      obtain ⟨q3, hq3, hf⟩ := obind hf
      by_cases hc4 : q3 = 0
      · rw [if_pos hc4] at hf
        have hq := Option.some.inj hf
        subst hq
        exact fr_rfl
      · rw [if_neg hc4] at hf
        obtain ⟨q5, hq5, hf⟩ := obind hf
        by_cases hc6 : ((q5 >>> (p2 &&& 31)) &&& (1 : Int32)) = (1 : Int32)
        · rw [if_pos hc6] at hf
          obtain ⟨q7, hq7, hf⟩ := obind hf
          have fq7 : Fr ([63, 65, 64, 118]) σ q7.2 := fr_tr fr_rfl (frX9_goOn p1 p2 σ _ hq7) (by intro x9 hx9; first | exact absurd hx9 List.not_mem_nil | exact hx9 | (simp [gk] at hx9 ⊢; omega) | (simp only [gk, List.mem_append, List.mem_cons, List.not_mem_nil, or_false, false_or] at hx9 ⊢; omega))
          have hq := Option.some.inj hf
          subst hq
          exact fq7
        · rw [if_neg hc6] at hf
          have hq := Option.some.inj hf
          subst hq
          exact fr_rfl
set_option maxHeartbeats 4000000 in
theorem frX9_draw (p1 : Int32) (σ : St)  (q : Int32 × St) (hf : fX9_draw p1 σ = some q) : Fr ([122]) σ q.2 := by
  unfold fX9_draw at hf
  obtain ⟨σ1, hσ1, hf⟩ := bnd_elim hf
  have fσ1 : Fr ([122]) σ σ1 := by rw [hσ1]; exact fr_setI fr_rfl (by rw [key_58]; first | decide | (simp [gk]; done) | (simp only [gk, List.mem_append, List.mem_cons, List.not_mem_nil, or_false, false_or]; omega))
  obtain ⟨hb2, hf⟩ := grd_elim hf
  have hq := Option.some.inj hf
  subst hq
  exact fσ1
set_option maxHeartbeats 4000000 in
theorem frX9_byDraw (p1 : Int32) (σ : St)  (q : Int32 × St) (hf : fX9_byDraw p1 σ = some q) : Fr ([122]) σ q.2 := by
  unfold fX9_byDraw at hf
  obtain ⟨q1, hq1, hf⟩ := obind hf
  obtain ⟨q2, hq2, hf⟩ := obind hf
  have fq2 : Fr ([122]) σ q2.2 := fr_tr fr_rfl (frX9_draw q1 σ _ hq2) (by intro x9 hx9; first | exact absurd hx9 List.not_mem_nil | exact hx9 | (simp [gk] at hx9 ⊢; omega) | (simp only [gk, List.mem_append, List.mem_cons, List.not_mem_nil, or_false, false_or] at hx9 ⊢; omega))
  obtain ⟨q3, hr4, hf⟩ := obind hf
  have hq := Option.some.inj hf
  subst hq
  exact fq2
set_option maxHeartbeats 4000000 in
theorem frX9_year_L2 (c1 : Int32)  (q : (St)) : ∀ (n : Nat) (v2 : Int32) (σ : St), fX9_year_L2 c1 n v2 σ = some q → Fr ([66, 65]) σ q := by
  intro n
  induction n with
  | zero =>
    intro v2 σ hf
    simp only [fX9_year_L2] at hf
    exact absurd hf (by simp)
  | succ n ih =>
    intro v2 σ hf
    rw [fX9_year_L2] at hf
    by_cases hc1 : (8 : Int32) ≤ v2
    · rw [if_pos hc1] at hf
      have hq := Option.some.inj hf
      rw [← hq]
      exact fr_rfl
    · rw [if_neg hc1] at hf
      obtain ⟨hb2, hf⟩ := grd_elim hf
      obtain ⟨σ3, hσ3, hf⟩ := bnd_elim hf
      have fσ3 : Fr ([66, 65]) σ σ3 := by rw [hσ3]; exact fr_setI fr_rfl (by rw [key_ne (by decide)]; first | decide | (simp [gk]; done) | (simp only [gk, List.mem_append, List.mem_cons, List.not_mem_nil, or_false, false_or]; omega))
      obtain ⟨hb4, hf⟩ := grd_elim hf
      obtain ⟨q6, hr7, hf⟩ := obind hf
      obtain ⟨hb8, hf⟩ := grd_elim hf
      obtain ⟨σ9, hσ9, hf⟩ := bnd_elim hf
      have fσ9 : Fr ([66, 65]) σ σ9 := by rw [hσ9]; exact fr_setI fσ3 (by rw [key_ne (by decide)]; first | decide | (simp [gk]; done) | (simp only [gk, List.mem_append, List.mem_cons, List.not_mem_nil, or_false, false_or]; omega))
      exact fr_trS fσ9 (ih (v2 + (1 : Int32)) σ9 hf)
set_option maxHeartbeats 4000000 in
theorem frX9_year_L60 (c1 : Int32)  (q : (Int32 × St)) : ∀ (n : Nat) (v2 : Int32) (v3 : Int32) (σ : St), fX9_year_L60 c1 n v2 v3 σ = some q → Fr ([122, 63, 65, 64, 118, 66]) σ q.2 := by
  intro n
  induction n with
  | zero =>
    intro v2 v3 σ hf
    simp only [fX9_year_L60] at hf
    exact absurd hf (by simp)
  | succ n ih =>
    intro v2 v3 σ hf
    rw [fX9_year_L60] at hf
    by_cases hc13 : (σ.1 58 20) ≤ v3
    · rw [if_pos hc13] at hf
      have hq := Option.some.inj hf
      rw [← hq]
      exact fr_rfl
    · rw [if_neg hc13] at hf
      obtain ⟨hb14, hf⟩ := grd_elim hf
      obtain ⟨x15, hx15, hf⟩ := bnd_elim hf
      obtain ⟨q16, hq16, hf⟩ := obind hf
      obtain ⟨q18, hr19, hf⟩ := obind hf
      obtain ⟨q21, hr22, hf⟩ := obind hf
      by_cases hc23 : q21 = 0
      · rw [if_pos hc23] at hf
        exact fr_trS fr_rfl (ih v2 (v3 + (1 : Int32)) σ hf)
      · rw [if_neg hc23] at hf
        by_cases hc24 : (σ.1 58 4) = 0
        · rw [if_pos hc24] at hf
          obtain ⟨q26, hr27, hf⟩ := obind hf
          have f28 : Fr ([122, 63, 65, 64, 118, 66]) σ q26.2 := by
            clear hf
            have hf := hr27
            clear hr27
            by_cases hc25 : c1 = 0
            · rw [if_pos hc25] at hf
              obtain ⟨q29, hq29, hf⟩ := obind hf
              have hq := Option.some.inj hf
              subst hq
              exact fr_rfl
            · rw [if_neg hc25] at hf
              obtain ⟨q30, hq30, hf⟩ := obind hf
              have fq30 : Fr ([122, 63, 65, 64, 118, 66]) σ q30.2 := fr_tr fr_rfl (frX9_byDraw q21 σ _ hq30) (by intro x9 hx9; first | exact absurd hx9 List.not_mem_nil | exact hx9 | (simp [gk] at hx9 ⊢; omega) | (simp only [gk, List.mem_append, List.mem_cons, List.not_mem_nil, or_false, false_or] at hx9 ⊢; omega))
              have hq := Option.some.inj hf
              subst hq
              exact fq30
          obtain ⟨q31, hq31, hf⟩ := obind hf
          have fq31 : Fr ([122, 63, 65, 64, 118, 66]) σ q31.2 := fr_tr f28 (frX9_goOn v3 q26.1 q26.2 _ hq31) (by intro x9 hx9; first | exact absurd hx9 List.not_mem_nil | exact hx9 | (simp [gk] at hx9 ⊢; omega) | (simp only [gk, List.mem_append, List.mem_cons, List.not_mem_nil, or_false, false_or] at hx9 ⊢; omega))
          obtain ⟨hb32, hf⟩ := grd_elim hf
          obtain ⟨σ33, hσ33, hf⟩ := bnd_elim hf
          have fσ33 : Fr ([122, 63, 65, 64, 118, 66]) σ σ33 := by rw [hσ33]; exact fr_setI fq31 (by rw [key_ne (by decide)]; first | decide | (simp [gk]; done) | (simp only [gk, List.mem_append, List.mem_cons, List.not_mem_nil, or_false, false_or]; omega))
          exact fr_trS fσ33 (ih (v2 + (1 : Int32)) (v3 + (1 : Int32)) σ33 hf)
        · rw [if_neg hc24] at hf
          obtain ⟨hb34, hf⟩ := grd_elim hf
          by_cases hc35 : (σ.1 66 x15.toNatClampNeg) = 0
          · rw [if_pos hc35] at hf
            obtain ⟨q37, hr38, hf⟩ := obind hf
            have f39 : Fr ([122, 63, 65, 64, 118, 66]) σ q37.2 := by
              clear hf
              have hf := hr38
              clear hr38
              by_cases hc36 : c1 = 0
              · rw [if_pos hc36] at hf
                obtain ⟨q40, hq40, hf⟩ := obind hf
                have hq := Option.some.inj hf
                subst hq
                exact fr_rfl
              · rw [if_neg hc36] at hf
                obtain ⟨q41, hq41, hf⟩ := obind hf
                have fq41 : Fr ([122, 63, 65, 64, 118, 66]) σ q41.2 := fr_tr fr_rfl (frX9_byDraw q21 σ _ hq41) (by intro x9 hx9; first | exact absurd hx9 List.not_mem_nil | exact hx9 | (simp [gk] at hx9 ⊢; omega) | (simp only [gk, List.mem_append, List.mem_cons, List.not_mem_nil, or_false, false_or] at hx9 ⊢; omega))
                have hq := Option.some.inj hf
                subst hq
                exact fq41
            obtain ⟨q42, hq42, hf⟩ := obind hf
            have fq42 : Fr ([122, 63, 65, 64, 118, 66]) σ q42.2 := fr_tr f39 (frX9_goOn v3 q37.1 q37.2 _ hq42) (by intro x9 hx9; first | exact absurd hx9 List.not_mem_nil | exact hx9 | (simp [gk] at hx9 ⊢; omega) | (simp only [gk, List.mem_append, List.mem_cons, List.not_mem_nil, or_false, false_or] at hx9 ⊢; omega))
            obtain ⟨hb43, hf⟩ := grd_elim hf
            obtain ⟨σ44, hσ44, hf⟩ := bnd_elim hf
            have fσ44 : Fr ([122, 63, 65, 64, 118, 66]) σ σ44 := by rw [hσ44]; exact fr_setI fq42 (by rw [key_ne (by decide)]; first | decide | (simp [gk]; done) | (simp only [gk, List.mem_append, List.mem_cons, List.not_mem_nil, or_false, false_or]; omega))
            exact fr_trS fσ44 (ih (v2 + (1 : Int32)) (v3 + (1 : Int32)) σ44 hf)
          · rw [if_neg hc35] at hf
            exact fr_trS fr_rfl (ih v2 (v3 + (1 : Int32)) σ hf)
set_option maxHeartbeats 4000000 in
theorem frX9_year (p1 : Int32) (σ : St)  (q : Int32 × St) (hf : fX9_year p1 σ = some q) : Fr ([66, 65, 122, 63, 64, 118, 119]) σ q.2 := by
  unfold fX9_year at hf
  obtain ⟨q10, hr11, hf⟩ := obind hf
  have f12 : Fr ([66, 65, 122, 63, 64, 118, 119]) σ q10 := fr_tr fr_rfl (frX9_year_L2 p1 q10 fu (0 : Int32) σ hr11) (by intro x9 hx9; first | exact absurd hx9 List.not_mem_nil | exact hx9 | (simp [gk] at hx9 ⊢; omega) | (simp only [gk, List.mem_append, List.mem_cons, List.not_mem_nil, or_false, false_or] at hx9 ⊢; omega))
  obtain ⟨q45, hr46, hf⟩ := obind hf
  have f47 : Fr ([66, 65, 122, 63, 64, 118, 119]) σ q45.2 := fr_tr f12 (frX9_year_L60 p1 q45 fu (0 : Int32) (0 : Int32) q10 hr46) (by intro x9 hx9; first | exact absurd hx9 List.not_mem_nil | exact hx9 | (simp [gk] at hx9 ⊢; omega) | (simp only [gk, List.mem_append, List.mem_cons, List.not_mem_nil, or_false, false_or] at hx9 ⊢; omega))
  obtain ⟨σ48, hσ48, hf⟩ := bnd_elim hf
  have fσ48 : Fr ([66, 65, 122, 63, 64, 118, 119]) σ σ48 := by rw [hσ48]; exact fr_setI f47 (by rw [key_58]; first | decide | (simp [gk]; done) | (simp only [gk, List.mem_append, List.mem_cons, List.not_mem_nil, or_false, false_or]; omega))
  have hq := Option.some.inj hf
  subst hq
  exact fσ48
set_option maxHeartbeats 4000000 in
theorem frX9_years_L19 (c1 : Int32)  (q : (Int32 × St)) : ∀ (n : Nat) (v2 : Int32) (v3 : Int32) (σ : St), fX9_years_L19 c1 n v2 v3 σ = some q → Fr ([66, 65, 122, 63, 64, 118, 119]) σ q.2 := by
  intro n
  induction n with
  | zero =>
    intro v2 v3 σ hf
    simp only [fX9_years_L19] at hf
    exact absurd hf (by simp)
  | succ n ih =>
    intro v2 v3 σ hf
    rw [fX9_years_L19] at hf
    by_cases hc2 : c1 ≤ v3
    · rw [if_pos hc2] at hf
      have hq := Option.some.inj hf
      rw [← hq]
      exact fr_rfl
    · rw [if_neg hc2] at hf
      obtain ⟨q3, hq3, hf⟩ := obind hf
      have fq3 : Fr ([66, 65, 122, 63, 64, 118, 119]) σ q3.2 := fr_tr fr_rfl (frX9_year (0 : Int32) σ _ hq3) (by intro x9 hx9; first | exact absurd hx9 List.not_mem_nil | exact hx9 | (simp [gk] at hx9 ⊢; omega) | (simp only [gk, List.mem_append, List.mem_cons, List.not_mem_nil, or_false, false_or] at hx9 ⊢; omega))
      exact fr_trS fq3 (ih (v2 + q3.1) (v3 + (1 : Int32)) q3.2 hf)
set_option maxHeartbeats 4000000 in
theorem frX9_years (p1 : Int32) (σ : St)  (q : Int32 × St) (hf : fX9_years p1 σ = some q) : Fr ([66, 65, 122, 63, 64, 118, 119]) σ q.2 := by
  unfold fX9_years at hf
  by_cases hc1 : (fX9_in p1.toInt64 (1 : Int64) (30 : Int64)) = 0
  · rw [if_pos hc1] at hf
    have hq := Option.some.inj hf
    subst hq
    exact fr_rfl
  · rw [if_neg hc1] at hf
    obtain ⟨q4, hr5, hf⟩ := obind hf
    have f6 : Fr ([66, 65, 122, 63, 64, 118, 119]) σ q4.2 := fr_tr fr_rfl (frX9_years_L19 p1 q4 fu (0 : Int32) (0 : Int32) σ hr5) (by intro x9 hx9; first | exact absurd hx9 List.not_mem_nil | exact hx9 | (simp [gk] at hx9 ⊢; omega) | (simp only [gk, List.mem_append, List.mem_cons, List.not_mem_nil, or_false, false_or] at hx9 ⊢; omega))
    have hq := Option.some.inj hf
    subst hq
    exact f6
set_option maxHeartbeats 4000000 in
theorem frX9_goAll_L2 (c1 : Int32) (c2 : Int32)  (q : (St)) : ∀ (n : Nat) (v3 : Int32) (σ : St), fX9_goAll_L2 c1 c2 n v3 σ = some q → Fr ([]) σ q := by
  intro n
  induction n with
  | zero =>
    intro v3 σ hf
    simp only [fX9_goAll_L2] at hf
    exact absurd hf (by simp)
  | succ n ih =>
    intro v3 σ hf
    rw [fX9_goAll_L2] at hf
    by_cases hc1 : (72 : Int32) ≤ v3
    · rw [if_pos hc1] at hf
      have hq := Option.some.inj hf
      rw [← hq]
      exact fr_rfl
    · rw [if_neg hc1] at hf
      obtain ⟨hb2, hf⟩ := grd_elim hf
      obtain ⟨σ3, hσ3, hf⟩ := bnd_elim hf
      have fσ3 : Fr ([]) σ σ3 := by rw [hσ3]; exact fr_setL fr_rfl
      exact fr_trS fσ3 (ih (v3 + (1 : Int32)) σ3 hf)
set_option maxHeartbeats 4000000 in
theorem frX9_goAll_L148 (c1 : Int32) (c2 : Int32) (c5 : Int32) (c6 : Int32) (c7 : Int32) (c8 : Int64)  (q : (Int64 × St)) : ∀ (n : Nat) (v3 : Int64) (v10 : Int32) (σ : St), fX9_goAll_L148 c1 c2 c5 c6 c7 c8 n v3 v10 σ = some q → Fr ([]) σ q.2 := by
  intro n
  induction n with
  | zero =>
    intro v3 v10 σ hf
    simp only [fX9_goAll_L148] at hf
    exact absurd hf (by simp)
  | succ n ih =>
    intro v3 v10 σ hf
    rw [fX9_goAll_L148] at hf
    by_cases hc22 : (σ.1 58 12) ≤ v10
    · rw [if_pos hc22] at hf
      have hq := Option.some.inj hf
      rw [← hq]
      exact fr_rfl
    · rw [if_neg hc22] at hf
      by_cases hc23 : ((c7 >>> (v10 &&& 31)) &&& (1 : Int32)) = (1 : Int32)
      · rw [if_pos hc23] at hf
        obtain ⟨x25, hx25, hf⟩ := bnd_elim hf
        obtain ⟨hb26, hf⟩ := grd_elim hf
        obtain ⟨x28, hx28, hf⟩ := bnd_elim hf
        obtain ⟨hb29, hf⟩ := grd_elim hf
        obtain ⟨σ30, hσ30, hf⟩ := bnd_elim hf
        have fσ30 : Fr ([]) σ σ30 := by rw [hσ30]; exact fr_setL fr_rfl
        exact fr_trS fσ30 (ih (v3 + x25) (v10 + (1 : Int32)) σ30 hf)
      · rw [if_neg hc23] at hf
        exact fr_trS fr_rfl (ih v3 (v10 + (1 : Int32)) σ hf)
set_option maxHeartbeats 4000000 in
theorem frX9_goAll_L26 (c1 : Int32) (c2 : Int32)  (q : (Int64 × St)) : ∀ (n : Nat) (v3 : Int64) (v5 : Int32) (σ : St), fX9_goAll_L26 c1 c2 n v3 v5 σ = some q → Fr ([]) σ q.2 := by
  intro n
  induction n with
  | zero =>
    intro v3 v5 σ hf
    simp only [fX9_goAll_L26] at hf
    exact absurd hf (by simp)
  | succ n ih =>
    intro v3 v5 σ hf
    rw [fX9_goAll_L26] at hf
    by_cases hc7 : (72 : Int32) ≤ v5
    · rw [if_pos hc7] at hf
      have hq := Option.some.inj hf
      rw [← hq]
      exact fr_rfl
    · rw [if_neg hc7] at hf
      obtain ⟨hb8, hf⟩ := grd_elim hf
      obtain ⟨q10, hr11, hf⟩ := obind hf
      obtain ⟨hb12, hf⟩ := grd_elim hf
      obtain ⟨q14, hr15, hf⟩ := obind hf
      obtain ⟨x16, hx16, hf⟩ := bnd_elim hf
      obtain ⟨hb17, hf⟩ := grd_elim hf
      obtain ⟨x19, hx19, hf⟩ := bnd_elim hf
      obtain ⟨hb20, hf⟩ := grd_elim hf
      obtain ⟨σ21, hσ21, hf⟩ := bnd_elim hf
      have fσ21 : Fr ([]) σ σ21 := by rw [hσ21]; exact fr_setL fr_rfl
      obtain ⟨q31, hr32, hf⟩ := obind hf
      have f33 : Fr ([]) σ q31.2 := fr_tr fσ21 (frX9_goAll_L148 c1 c2 v5 (v5 / (9 : Int32)) q10 x16 q31 fu v3 (0 : Int32) σ21 hr32) (by intro x9 hx9; first | exact absurd hx9 List.not_mem_nil | exact hx9 | (simp [gk] at hx9 ⊢; omega) | (simp only [gk, List.mem_append, List.mem_cons, List.not_mem_nil, or_false, false_or] at hx9 ⊢; omega))
      exact fr_trS f33 (ih q31.1 (v5 + (1 : Int32)) q31.2 hf)
set_option maxHeartbeats 4000000 in
theorem frX9_goAll_L226 (c3 : Int64)  (q : (St)) : ∀ (n : Nat) (v5 : Int32) (σ : St), fX9_goAll_L226 c3 n v5 σ = some q → Fr ([]) σ q := by
  intro n
  induction n with
  | zero =>
    intro v5 σ hf
    simp only [fX9_goAll_L226] at hf
    exact absurd hf (by simp)
  | succ n ih =>
    intro v5 σ hf
    rw [fX9_goAll_L226] at hf
    by_cases hc37 : (72 : Int32) ≤ v5
    · rw [if_pos hc37] at hf
      have hq := Option.some.inj hf
      rw [← hq]
      exact fr_rfl
    · rw [if_neg hc37] at hf
      obtain ⟨hb38, hf⟩ := grd_elim hf
      obtain ⟨hb39, hf⟩ := grd_elim hf
      obtain ⟨σ40, hσ40, hf⟩ := bnd_elim hf
      have fσ40 : Fr ([]) σ σ40 := by rw [hσ40]; exact fr_setL fr_rfl
      exact fr_trS fσ40 (ih (v5 + (1 : Int32)) σ40 hf)
set_option maxHeartbeats 4000000 in
theorem frX9_goAll (p1 : Int32) (p2 : Int32) (σ : St)  (q : Int64 × St) (hf : fX9_goAll p1 p2 σ = some q) : Fr ([]) σ q.2 := by
  unfold fX9_goAll at hf
  obtain ⟨q4, hr5, hf⟩ := obind hf
  have f6 : Fr ([]) σ q4 := fr_tr fr_rfl (frX9_goAll_L2 p1 p2 q4 fu (0 : Int32) σ hr5) (by intro x9 hx9; first | exact absurd hx9 List.not_mem_nil | exact hx9 | (simp [gk] at hx9 ⊢; omega) | (simp only [gk, List.mem_append, List.mem_cons, List.not_mem_nil, or_false, false_or] at hx9 ⊢; omega))
  obtain ⟨q34, hr35, hf⟩ := obind hf
  have f36 : Fr ([]) σ q34.2 := fr_tr f6 (frX9_goAll_L26 p1 p2 q34 fu (0 : Int64) (0 : Int32) q4 hr35) (by intro x9 hx9; first | exact absurd hx9 List.not_mem_nil | exact hx9 | (simp [gk] at hx9 ⊢; omega) | (simp only [gk, List.mem_append, List.mem_cons, List.not_mem_nil, or_false, false_or] at hx9 ⊢; omega))
  obtain ⟨q41, hr42, hf⟩ := obind hf
  have f43 : Fr ([]) σ q41 := fr_tr f36 (frX9_goAll_L226 q34.1 q41 fu (0 : Int32) q34.2 hr42) (by intro x9 hx9; first | exact absurd hx9 List.not_mem_nil | exact hx9 | (simp [gk] at hx9 ⊢; omega) | (simp only [gk, List.mem_append, List.mem_cons, List.not_mem_nil, or_false, false_or] at hx9 ⊢; omega))
  have hq := Option.some.inj hf
  subst hq
  exact f43
set_option maxHeartbeats 4000000 in
theorem frX9_beginWays_L2 (c1 : Int32)  (q : (St)) : ∀ (n : Nat) (v2 : Int32) (σ : St), fX9_beginWays_L2 c1 n v2 σ = some q → Fr ([]) σ q := by
  intro n
  induction n with
  | zero =>
    intro v2 σ hf
    simp only [fX9_beginWays_L2] at hf
    exact absurd hf (by simp)
  | succ n ih =>
    intro v2 σ hf
    rw [fX9_beginWays_L2] at hf
    by_cases hc1 : (72 : Int32) ≤ v2
    · rw [if_pos hc1] at hf
      have hq := Option.some.inj hf
      rw [← hq]
      exact fr_rfl
    · rw [if_neg hc1] at hf
      obtain ⟨hb2, hf⟩ := grd_elim hf
      obtain ⟨σ3, hσ3, hf⟩ := bnd_elim hf
      have fσ3 : Fr ([]) σ σ3 := by rw [hσ3]; exact fr_setL fr_rfl
      exact fr_trS fσ3 (ih (v2 + (1 : Int32)) σ3 hf)
set_option maxHeartbeats 4000000 in
theorem frX9_beginWays (p1 : Int32) (σ : St)  (q : St) (hf : fX9_beginWays p1 σ = some q) : Fr ([]) σ q := by
  unfold fX9_beginWays at hf
  obtain ⟨q4, hr5, hf⟩ := obind hf
  have f6 : Fr ([]) σ q4 := fr_tr fr_rfl (frX9_beginWays_L2 p1 q4 fu (0 : Int32) σ hr5) (by intro x9 hx9; first | exact absurd hx9 List.not_mem_nil | exact hx9 | (simp [gk] at hx9 ⊢; omega) | (simp only [gk, List.mem_append, List.mem_cons, List.not_mem_nil, or_false, false_or] at hx9 ⊢; omega))
  obtain ⟨hb7, hf⟩ := grd_elim hf
  obtain ⟨x8, hx8, hf⟩ := bnd_elim hf
  obtain ⟨hb9, hf⟩ := grd_elim hf
  obtain ⟨x11, hx11, hf⟩ := bnd_elim hf
  obtain ⟨hb12, hf⟩ := grd_elim hf
  obtain ⟨σ13, hσ13, hf⟩ := bnd_elim hf
  have fσ13 : Fr ([]) σ σ13 := by rw [hσ13]; exact fr_setL f6
  have hq := Option.some.inj hf
  subst hq
  exact fσ13
set_option maxHeartbeats 4000000 in
theorem frX9_layWays_L7 (c1 : Int32)  (q : (St)) : ∀ (n : Nat) (v2 : Int32) (σ : St), fX9_layWays_L7 c1 n v2 σ = some q → Fr ([]) σ q := by
  intro n
  induction n with
  | zero =>
    intro v2 σ hf
    simp only [fX9_layWays_L7] at hf
    exact absurd hf (by simp)
  | succ n ih =>
    intro v2 σ hf
    rw [fX9_layWays_L7] at hf
    by_cases hc2 : (9 : Int32) ≤ v2
    · rw [if_pos hc2] at hf
      have hq := Option.some.inj hf
      rw [← hq]
      exact fr_rfl
    · rw [if_neg hc2] at hf
      obtain ⟨hb3, hf⟩ := grd_elim hf
      obtain ⟨q4, hq4, hf⟩ := obind hf
      have fq4 : Fr ([]) σ q4.2 := fr_tr fr_rfl (frX9_goAll (σ.1 65 (((8 : Int32) * c1) + (1 : Int32)).toNatClampNeg) (0 : Int32) σ _ hq4) (by intro x9 hx9; first | exact absurd hx9 List.not_mem_nil | exact hx9 | (simp [gk] at hx9 ⊢; omega) | (simp only [gk, List.mem_append, List.mem_cons, List.not_mem_nil, or_false, false_or] at hx9 ⊢; omega))
      obtain ⟨hb5, hf⟩ := grd_elim hf
      obtain ⟨σ6, hσ6, hf⟩ := bnd_elim hf
      have fσ6 : Fr ([]) σ σ6 := by rw [hσ6]; exact fr_setL fq4
      exact fr_trS fσ6 (ih (v2 + (1 : Int32)) σ6 hf)
set_option maxHeartbeats 4000000 in
theorem frX9_layWays (p1 : Int32) (σ : St)  (q : St) (hf : fX9_layWays p1 σ = some q) : Fr ([]) σ q := by
  unfold fX9_layWays at hf
  obtain ⟨q1, hq1, hf⟩ := obind hf
  have fq1 : Fr ([]) σ q1 := fr_tr fr_rfl (frX9_beginWays p1 σ _ hq1) (by intro x9 hx9; first | exact absurd hx9 List.not_mem_nil | exact hx9 | (simp [gk] at hx9 ⊢; omega) | (simp only [gk, List.mem_append, List.mem_cons, List.not_mem_nil, or_false, false_or] at hx9 ⊢; omega))
  obtain ⟨q7, hr8, hf⟩ := obind hf
  have f9 : Fr ([]) σ q7 := fr_tr fq1 (frX9_layWays_L7 p1 q7 fu (1 : Int32) q1 hr8) (by intro x9 hx9; first | exact absurd hx9 List.not_mem_nil | exact hx9 | (simp [gk] at hx9 ⊢; omega) | (simp only [gk, List.mem_append, List.mem_cons, List.not_mem_nil, or_false, false_or] at hx9 ⊢; omega))
  have hq := Option.some.inj hf
  subst hq
  exact f9
set_option maxHeartbeats 4000000 in
theorem frX9_ways (p1 : Int32) (p2 : Int32) (σ : St)  (q : Int32 × St) (hf : fX9_ways p1 p2 σ = some q) : Fr ([]) σ q.2 := by
  unfold fX9_ways at hf
  by_cases hc1 : (fX9_isGift p1 σ) = 0
  · rw [if_pos hc1] at hf
    have hq := Option.some.inj hf
    subst hq
    exact fr_rfl
  · rw [if_neg hc1] at hf
    obtain ⟨q2, hq2, hf⟩ := obind hf
    by_cases hc3 : q2 = 0
    · rw [if_pos hc3] at hf
      have hq := Option.some.inj hf
      subst hq
      exact fr_rfl
    · rw [if_neg hc3] at hf
      by_cases hc4 : (fX9_in p2.toInt64 (1 : Int64) (8 : Int64)) = 0
      · rw [if_pos hc4] at hf
        have hq := Option.some.inj hf
        subst hq
        exact fr_rfl
      · rw [if_neg hc4] at hf
        obtain ⟨q5, hq5, hf⟩ := obind hf
        have fq5 : Fr ([]) σ q5 := fr_tr fr_rfl (frX9_layWays p1 σ _ hq5) (by intro x9 hx9; first | exact absurd hx9 List.not_mem_nil | exact hx9 | (simp [gk] at hx9 ⊢; omega) | (simp only [gk, List.mem_append, List.mem_cons, List.not_mem_nil, or_false, false_or] at hx9 ⊢; omega))
        obtain ⟨hb6, hf⟩ := grd_elim hf
        have hq := Option.some.inj hf
        subst hq
        exact fq5
set_option maxHeartbeats 4000000 in
theorem frX9_soonestOf_L7  (σ : St)  (q : Sum (Int32 × St) (Unit)) : ∀ (n : Nat) (v2 : Int32), fX9_soonestOf_L7 σ n v2 = some q → ∀ z, q = .inl z → Fr [] σ z.2 := by
  intro n
  induction n with
  | zero =>
    intro v2 hf
    simp only [fX9_soonestOf_L7] at hf
    exact absurd hf (by simp)
  | succ n ih =>
    intro v2 hf
    rw [fX9_soonestOf_L7] at hf
    by_cases hc2 : (9 : Int32) ≤ v2
    · rw [if_pos hc2] at hf
      have hq := Option.some.inj hf
      intro z hz
      rw [← hq] at hz
      cases hz
    · rw [if_neg hc2] at hf
      obtain ⟨hb3, hf⟩ := grd_elim hf
      by_cases hc4 : (lg_cmp (σ.2 69 v2.toNatClampNeg) (0 : Int64)) ≤ 0
      · rw [if_pos hc4] at hf
        exact ih (v2 + (1 : Int32)) hf
      · rw [if_neg hc4] at hf
        have hq := Option.some.inj hf
        intro z hz
        rw [← hq] at hz
        rw [← Sum.inl.inj hz]
        exact fr_rfl
set_option maxHeartbeats 4000000 in
theorem frX9_soonestOf (p1 : Int32) (σ : St)  (q : Int32 × St) (hf : fX9_soonestOf p1 σ = some q) : Fr ([]) σ q.2 := by
  unfold fX9_soonestOf at hf
  obtain ⟨q1, hq1, hf⟩ := obind hf
  have fq1 : Fr ([]) σ q1 := fr_tr fr_rfl (frX9_layWays p1 σ _ hq1) (by intro x9 hx9; first | exact absurd hx9 List.not_mem_nil | exact hx9 | (simp [gk] at hx9 ⊢; omega) | (simp only [gk, List.mem_append, List.mem_cons, List.not_mem_nil, or_false, false_or] at hx9 ⊢; omega))
  obtain ⟨s7, hr6, hf⟩ := obind hf
  rcases s7 with z8 | q5
  · skip
    simp only [Sum.elim_inl] at hf
    have hq := Option.some.inj hf
    subst hq
    exact (fr_tr fq1 (frX9_soonestOf_L7  q1  _ fu (1 : Int32) hr6 _ rfl) (by intro x9 hx9; first | exact absurd hx9 List.not_mem_nil | exact hx9 | (simp [gk] at hx9 ⊢; omega) | (simp only [gk, List.mem_append, List.mem_cons, List.not_mem_nil, or_false, false_or] at hx9 ⊢; omega)))
  · simp only [Sum.elim_inr] at hf
    have hq := Option.some.inj hf
    subst hq
    exact fq1
set_option maxHeartbeats 4000000 in
theorem frX9_soonest (p1 : Int32) (σ : St)  (q : Int32 × St) (hf : fX9_soonest p1 σ = some q) : Fr ([]) σ q.2 := by
  unfold fX9_soonest at hf
  by_cases hc1 : (fX9_isGift p1 σ) = 0
  · rw [if_pos hc1] at hf
    have hq := Option.some.inj hf
    subst hq
    exact fr_rfl
  · rw [if_neg hc1] at hf
    obtain ⟨q2, hq2, hf⟩ := obind hf
    by_cases hc3 : q2 = 0
    · rw [if_pos hc3] at hf
      have hq := Option.some.inj hf
      subst hq
      exact fr_rfl
    · rw [if_neg hc3] at hf
      obtain ⟨q4, hq4, hf⟩ := obind hf
      have fq4 : Fr ([]) σ q4.2 := fr_tr fr_rfl (frX9_soonestOf p1 σ _ hq4) (by intro x9 hx9; first | exact absurd hx9 List.not_mem_nil | exact hx9 | (simp [gk] at hx9 ⊢; omega) | (simp only [gk, List.mem_append, List.mem_cons, List.not_mem_nil, or_false, false_or] at hx9 ⊢; omega))
      have hq := Option.some.inj hf
      subst hq
      exact fq4
set_option maxHeartbeats 4000000 in
theorem frX9_likely_L64 (c1 : Int32) (c2 : Int32) (c3 : Int32)  (q : (Int64 × Int64 × St)) : ∀ (n : Nat) (v4 : Int64) (v6 : Int64) (v8 : Int32) (σ : St), fX9_likely_L64 c1 c2 c3 n v4 v6 v8 σ = some q → Fr ([]) σ q.2.2 := by
  intro n
  induction n with
  | zero =>
    intro v4 v6 v8 σ hf
    simp only [fX9_likely_L64] at hf
    exact absurd hf (by simp)
  | succ n ih =>
    intro v4 v6 v8 σ hf
    rw [fX9_likely_L64] at hf
    by_cases hc7 : c2 ≤ v8
    · rw [if_pos hc7] at hf
      have hq := Option.some.inj hf
      rw [← hq]
      exact fr_rfl
    · rw [if_neg hc7] at hf
      obtain ⟨hb8, hf⟩ := grd_elim hf
      obtain ⟨q9, hq9, hf⟩ := obind hf
      have fq9 : Fr ([]) σ q9.2 := fr_tr fr_rfl (frX9_goAll (σ.1 65 (((8 : Int32) * c1) + (1 : Int32)).toNatClampNeg) (1 : Int32) σ _ hq9) (by intro x9 hx9; first | exact absurd hx9 List.not_mem_nil | exact hx9 | (simp [gk] at hx9 ⊢; omega) | (simp only [gk, List.mem_append, List.mem_cons, List.not_mem_nil, or_false, false_or] at hx9 ⊢; omega))
      obtain ⟨x10, hx10, hf⟩ := bnd_elim hf
      exact fr_trS fq9 (ih x10 (v6 * (420 : Int64)) (v8 + (1 : Int32)) q9.2 hf)
set_option maxHeartbeats 4000000 in
theorem frX9_likely (p1 : Int32) (p2 : Int32) (p3 : Int32) (σ : St)  (q : Int64 × St) (hf : fX9_likely p1 p2 p3 σ = some q) : Fr ([]) σ q.2 := by
  unfold fX9_likely at hf
  by_cases hc1 : (fX9_isGift p1 σ) = 0
  · rw [if_pos hc1] at hf
    have hq := Option.some.inj hf
    subst hq
    exact fr_rfl
  · rw [if_neg hc1] at hf
    obtain ⟨q2, hq2, hf⟩ := obind hf
    by_cases hc3 : q2 = 0
    · rw [if_pos hc3] at hf
      have hq := Option.some.inj hf
      subst hq
      exact fr_rfl
    · rw [if_neg hc3] at hf
      by_cases hc4 : (fX9_in p2.toInt64 (1 : Int64) (7 : Int64)) = 0
      · rw [if_pos hc4] at hf
        have hq := Option.some.inj hf
        subst hq
        exact fr_rfl
      · rw [if_neg hc4] at hf
        by_cases hc5 : (fX9_in p3.toInt64 (0 : Int64) (1 : Int64)) = 0
        · rw [if_pos hc5] at hf
          have hq := Option.some.inj hf
          subst hq
          exact fr_rfl
        · rw [if_neg hc5] at hf
          obtain ⟨q6, hq6, hf⟩ := obind hf
          have fq6 : Fr ([]) σ q6 := fr_tr fr_rfl (frX9_beginWays p1 σ _ hq6) (by intro x9 hx9; first | exact absurd hx9 List.not_mem_nil | exact hx9 | (simp [gk] at hx9 ⊢; omega) | (simp only [gk, List.mem_append, List.mem_cons, List.not_mem_nil, or_false, false_or] at hx9 ⊢; omega))
          obtain ⟨q11, hr12, hf⟩ := obind hf
          have f13 : Fr ([]) σ q11.2.2 := fr_tr fq6 (frX9_likely_L64 p1 p2 p3 q11 fu (0 : Int64) (1 : Int64) (0 : Int32) q6 hr12) (by intro x9 hx9; first | exact absurd hx9 List.not_mem_nil | exact hx9 | (simp [gk] at hx9 ⊢; omega) | (simp only [gk, List.mem_append, List.mem_cons, List.not_mem_nil, or_false, false_or] at hx9 ⊢; omega))
          obtain ⟨q14, hq14, hf⟩ := obind hf
          have hq := Option.some.inj hf
          subst hq
          exact f13
set_option maxHeartbeats 4000000 in
theorem frX9_layRound_L9 (c1 : Int32)  (q : (St)) : ∀ (n : Nat) (v2 : Int32) (σ : St), fX9_layRound_L9 c1 n v2 σ = some q → Fr ([70]) σ q := by
  intro n
  induction n with
  | zero =>
    intro v2 σ hf
    simp only [fX9_layRound_L9] at hf
    exact absurd hf (by simp)
  | succ n ih =>
    intro v2 σ hf
    rw [fX9_layRound_L9] at hf
    by_cases hc2 : c1 ≤ v2
    · rw [if_pos hc2] at hf
      have hq := Option.some.inj hf
      rw [← hq]
      exact fr_rfl
    · rw [if_neg hc2] at hf
      obtain ⟨x4, hx4, hf⟩ := bnd_elim hf
      obtain ⟨hb5, hf⟩ := grd_elim hf
      obtain ⟨σ6, hσ6, hf⟩ := bnd_elim hf
      have fσ6 : Fr ([70]) σ σ6 := by rw [hσ6]; exact fr_setI fr_rfl (by rw [key_ne (by decide)]; first | decide | (simp [gk]; done) | (simp only [gk, List.mem_append, List.mem_cons, List.not_mem_nil, or_false, false_or]; omega))
      exact fr_trS fσ6 (ih (v2 + (1 : Int32)) σ6 hf)
set_option maxHeartbeats 4000000 in
theorem frX9_layRound_L60 (c1 : Int32) (c2 : Int32)  (q : (St)) : ∀ (n : Nat) (v3 : Int32) (σ : St), fX9_layRound_L60 c1 c2 n v3 σ = some q → Fr ([70]) σ q := by
  intro n
  induction n with
  | zero =>
    intro v3 σ hf
    simp only [fX9_layRound_L60] at hf
    exact absurd hf (by simp)
  | succ n ih =>
    intro v3 σ hf
    rw [fX9_layRound_L60] at hf
    by_cases hc12 : c1 ≤ v3
    · rw [if_pos hc12] at hf
      have hq := Option.some.inj hf
      rw [← hq]
      exact fr_rfl
    · rw [if_neg hc12] at hf
      obtain ⟨q13, hr14, hf⟩ := obind hf
      obtain ⟨hb15, hf⟩ := grd_elim hf
      obtain ⟨σ16, hσ16, hf⟩ := bnd_elim hf
      have fσ16 : Fr ([70]) σ σ16 := by rw [hσ16]; exact fr_setI fr_rfl (by rw [key_ne (by decide)]; first | decide | (simp [gk]; done) | (simp only [gk, List.mem_append, List.mem_cons, List.not_mem_nil, or_false, false_or]; omega))
      exact fr_trS fσ16 (ih (v3 + (1 : Int32)) σ16 hf)
set_option maxHeartbeats 4000000 in
theorem frX9_layRound_L54 (c1 : Int32)  (q : (St)) : ∀ (n : Nat) (v2 : Int32) (σ : St), fX9_layRound_L54 c1 n v2 σ = some q → Fr ([70]) σ q := by
  intro n
  induction n with
  | zero =>
    intro v2 σ hf
    simp only [fX9_layRound_L54] at hf
    exact absurd hf (by simp)
  | succ n ih =>
    intro v2 σ hf
    rw [fX9_layRound_L54] at hf
    by_cases hc11 : v2 < 0
    · rw [if_pos hc11] at hf
      have hq := Option.some.inj hf
      rw [← hq]
      exact fr_rfl
    · rw [if_neg hc11] at hf
      obtain ⟨q17, hr18, hf⟩ := obind hf
      have f19 : Fr ([70]) σ q17 := fr_tr fr_rfl (frX9_layRound_L60 c1 v2 q17 fu (0 : Int32) σ hr18) (by intro x9 hx9; first | exact absurd hx9 List.not_mem_nil | exact hx9 | (simp [gk] at hx9 ⊢; omega) | (simp only [gk, List.mem_append, List.mem_cons, List.not_mem_nil, or_false, false_or] at hx9 ⊢; omega))
      exact fr_trS f19 (ih (v2 + (-1 : Int32)) q17 hf)
set_option maxHeartbeats 4000000 in
theorem frX9_layRound_L248 (c2 : Int32) (c3 : Int32)  (q : (St)) : ∀ (n : Nat) (v4 : Int32) (σ : St), fX9_layRound_L248 c2 c3 n v4 σ = some q → Fr ([71]) σ q := by
  intro n
  induction n with
  | zero =>
    intro v4 σ hf
    simp only [fX9_layRound_L248] at hf
    exact absurd hf (by simp)
  | succ n ih =>
    intro v4 σ hf
    rw [fX9_layRound_L248] at hf
    by_cases hc27 : v4 < 0
    · rw [if_pos hc27] at hf
      have hq := Option.some.inj hf
      rw [← hq]
      exact fr_rfl
    · rw [if_neg hc27] at hf
      obtain ⟨hb28, hf⟩ := grd_elim hf
      by_cases hc29 : (σ.1 70 (0 : Int32).toNatClampNeg) = (-1 : Int32)
      · rw [if_pos hc29] at hf
        have hq := Option.some.inj hf
        rw [← hq]
        exact fr_rfl
      · rw [if_neg hc29] at hf
        obtain ⟨hb30, hf⟩ := grd_elim hf
        obtain ⟨x32, hx32, hf⟩ := bnd_elim hf
        obtain ⟨q34, hr35, hf⟩ := obind hf
        obtain ⟨q37, hr38, hf⟩ := obind hf
        obtain ⟨hb39, hf⟩ := grd_elim hf
        obtain ⟨σ40, hσ40, hf⟩ := bnd_elim hf
        have fσ40 : Fr ([71]) σ σ40 := by rw [hσ40]; exact fr_setI fr_rfl (by rw [key_ne (by decide)]; first | decide | (simp [gk]; done) | (simp only [gk, List.mem_append, List.mem_cons, List.not_mem_nil, or_false, false_or]; omega))
        exact fr_trS fσ40 (ih (v4 + (-1 : Int32)) σ40 hf)
set_option maxHeartbeats 4000000 in
theorem frX9_layRound_L225   (q : (St)) : ∀ (n : Nat) (v2 : Int32) (v3 : Int32) (σ : St), fX9_layRound_L225 n v2 v3 σ = some q → Fr ([71]) σ q := by
  intro n
  induction n with
  | zero =>
    intro v2 v3 σ hf
    simp only [fX9_layRound_L225] at hf
    exact absurd hf (by simp)
  | succ n ih =>
    intro v2 v3 σ hf
    rw [fX9_layRound_L225] at hf
    by_cases hc23 : (σ.1 58 12) ≤ v3
    · rw [if_pos hc23] at hf
      have hq := Option.some.inj hf
      rw [← hq]
      exact fr_rfl
    · rw [if_neg hc23] at hf
      obtain ⟨hb24, hf⟩ := grd_elim hf
      obtain ⟨σ25, hσ25, hf⟩ := bnd_elim hf
      have fσ25 : Fr ([71]) σ σ25 := by rw [hσ25]; exact fr_setI fr_rfl (by rw [key_ne (by decide)]; first | decide | (simp [gk]; done) | (simp only [gk, List.mem_append, List.mem_cons, List.not_mem_nil, or_false, false_or]; omega))
      obtain ⟨x26, hx26, hf⟩ := bnd_elim hf
      obtain ⟨q41, hr42, hf⟩ := obind hf
      have f43 : Fr ([71]) σ q41 := fr_tr fσ25 (frX9_layRound_L248 v2 v3 q41 fu x26 σ25 hr42) (by intro x9 hx9; first | exact absurd hx9 List.not_mem_nil | exact hx9 | (simp [gk] at hx9 ⊢; omega) | (simp only [gk, List.mem_append, List.mem_cons, List.not_mem_nil, or_false, false_or] at hx9 ⊢; omega))
      obtain ⟨hb44, hf⟩ := grd_elim hf
      obtain ⟨q46, hr47, hf⟩ := obind hf
      exact fr_trS f43 (ih (v2 ||| q46) (v3 + (1 : Int32)) q41 hf)
set_option maxHeartbeats 4000000 in
theorem frX9_layRound  (σ : St)  (q : St) (hf : fX9_layRound σ = some q) : Fr ([70, 71]) σ q := by
  unfold fX9_layRound at hf
  obtain ⟨x1, hx1, hf⟩ := bnd_elim hf
  obtain ⟨q7, hr8, hf⟩ := obind hf
  have f9 : Fr ([70, 71]) σ q7 := fr_tr fr_rfl (frX9_layRound_L9 x1 q7 fu (0 : Int32) σ hr8) (by intro x9 hx9; first | exact absurd hx9 List.not_mem_nil | exact hx9 | (simp [gk] at hx9 ⊢; omega) | (simp only [gk, List.mem_append, List.mem_cons, List.not_mem_nil, or_false, false_or] at hx9 ⊢; omega))
  obtain ⟨x10, hx10, hf⟩ := bnd_elim hf
  obtain ⟨q20, hr21, hf⟩ := obind hf
  have f22 : Fr ([70, 71]) σ q20 := fr_tr f9 (frX9_layRound_L54 x1 q20 fu x10 q7 hr21) (by intro x9 hx9; first | exact absurd hx9 List.not_mem_nil | exact hx9 | (simp [gk] at hx9 ⊢; omega) | (simp only [gk, List.mem_append, List.mem_cons, List.not_mem_nil, or_false, false_or] at hx9 ⊢; omega))
  obtain ⟨q48, hr49, hf⟩ := obind hf
  have f50 : Fr ([70, 71]) σ q48 := fr_tr f22 (frX9_layRound_L225  q48 fu (0 : Int32) (0 : Int32) q20 hr49) (by intro x9 hx9; first | exact absurd hx9 List.not_mem_nil | exact hx9 | (simp [gk] at hx9 ⊢; omega) | (simp only [gk, List.mem_append, List.mem_cons, List.not_mem_nil, or_false, false_or] at hx9 ⊢; omega))
  have hq := Option.some.inj hf
  subst hq
  exact f50
set_option maxHeartbeats 4000000 in
theorem frX9_tellRound (p1 : Int32) (σ : St)  (q : Int32 × St) (hf : fX9_tellRound p1 σ = some q) : Fr ([70, 71]) σ q.2 := by
  unfold fX9_tellRound at hf
  obtain ⟨q1, hq1, hf⟩ := obind hf
  have fq1 : Fr ([70, 71]) σ q1 := fr_tr fr_rfl (frX9_layRound σ _ hq1) (by intro x9 hx9; first | exact absurd hx9 List.not_mem_nil | exact hx9 | (simp [gk] at hx9 ⊢; omega) | (simp only [gk, List.mem_append, List.mem_cons, List.not_mem_nil, or_false, false_or] at hx9 ⊢; omega))
  obtain ⟨hb2, hf⟩ := grd_elim hf
  obtain ⟨x3, hx3, hf⟩ := bnd_elim hf
  by_cases hc4 : (2 : Int32) ≤ p1
  · rw [if_pos hc4] at hf
    by_cases hc5 : (q1.1 58 12) ≤ (p1 - (10 : Int32))
    · rw [if_pos hc5] at hf
      have hq := Option.some.inj hf
      subst hq
      exact fq1
    · rw [if_neg hc5] at hf
      obtain ⟨hb6, hf⟩ := grd_elim hf
      have hq := Option.some.inj hf
      subst hq
      exact fq1
  · rw [if_neg hc4] at hf
    by_cases hc7 : p1 = (1 : Int32)
    · rw [if_pos hc7] at hf
      have hq := Option.some.inj hf
      subst hq
      exact fq1
    · rw [if_neg hc7] at hf
      by_cases hc8 : x3 = (-1 : Int32)
      · rw [if_pos hc8] at hf
        have hq := Option.some.inj hf
        subst hq
        exact fq1
      · rw [if_neg hc8] at hf
        have hq := Option.some.inj hf
        subst hq
        exact fq1
set_option maxHeartbeats 4000000 in
theorem frX9_round (p1 : Int32) (σ : St)  (q : Int32 × St) (hf : fX9_round p1 σ = some q) : Fr ([70, 71]) σ q.2 := by
  unfold fX9_round at hf
  by_cases hc1 : (fX9_in p1.toInt64 (0 : Int64) (1 : Int64)) = 0
  · rw [if_pos hc1] at hf
    by_cases hc2 : (fX9_in p1.toInt64 (10 : Int64) (17 : Int64)) = 0
    · rw [if_pos hc2] at hf
      have hq := Option.some.inj hf
      subst hq
      exact fr_rfl
    · rw [if_neg hc2] at hf
      obtain ⟨q3, hq3, hf⟩ := obind hf
      have fq3 : Fr ([70, 71]) σ q3.2 := fr_tr fr_rfl (frX9_tellRound p1 σ _ hq3) (by intro x9 hx9; first | exact absurd hx9 List.not_mem_nil | exact hx9 | (simp [gk] at hx9 ⊢; omega) | (simp only [gk, List.mem_append, List.mem_cons, List.not_mem_nil, or_false, false_or] at hx9 ⊢; omega))
      have hq := Option.some.inj hf
      subst hq
      exact fq3
  · rw [if_neg hc1] at hf
    obtain ⟨q4, hq4, hf⟩ := obind hf
    have fq4 : Fr ([70, 71]) σ q4.2 := fr_tr fr_rfl (frX9_tellRound p1 σ _ hq4) (by intro x9 hx9; first | exact absurd hx9 List.not_mem_nil | exact hx9 | (simp [gk] at hx9 ⊢; omega) | (simp only [gk, List.mem_append, List.mem_cons, List.not_mem_nil, or_false, false_or] at hx9 ⊢; omega))
    have hq := Option.some.inj hf
    subst hq
    exact fq4
set_option maxHeartbeats 4000000 in
theorem frX9_layFar_L2 (c1 : Int32)  (q : (St)) : ∀ (n : Nat) (v2 : Int32) (σ : St), fX9_layFar_L2 c1 n v2 σ = some q → Fr ([72]) σ q := by
  intro n
  induction n with
  | zero =>
    intro v2 σ hf
    simp only [fX9_layFar_L2] at hf
    exact absurd hf (by simp)
  | succ n ih =>
    intro v2 σ hf
    rw [fX9_layFar_L2] at hf
    by_cases hc1 : (8 : Int32) ≤ v2
    · rw [if_pos hc1] at hf
      have hq := Option.some.inj hf
      rw [← hq]
      exact fr_rfl
    · rw [if_neg hc1] at hf
      obtain ⟨x3, hx3, hf⟩ := bnd_elim hf
      obtain ⟨hb4, hf⟩ := grd_elim hf
      obtain ⟨σ5, hσ5, hf⟩ := bnd_elim hf
      have fσ5 : Fr ([72]) σ σ5 := by rw [hσ5]; exact fr_setI fr_rfl (by rw [key_ne (by decide)]; first | decide | (simp [gk]; done) | (simp only [gk, List.mem_append, List.mem_cons, List.not_mem_nil, or_false, false_or]; omega))
      exact fr_trS fσ5 (ih (v2 + (1 : Int32)) σ5 hf)
set_option maxHeartbeats 4000000 in
theorem frX9_layFar_L52 (c2 : Int32) (c3 : Int32)  (q : (St)) : ∀ (n : Nat) (v4 : Int32) (σ : St), fX9_layFar_L52 c2 c3 n v4 σ = some q → Fr ([72]) σ q := by
  intro n
  induction n with
  | zero =>
    intro v4 σ hf
    simp only [fX9_layFar_L52] at hf
    exact absurd hf (by simp)
  | succ n ih =>
    intro v4 σ hf
    rw [fX9_layFar_L52] at hf
    by_cases hc11 : (σ.1 58 12) ≤ v4
    · rw [if_pos hc11] at hf
      have hq := Option.some.inj hf
      rw [← hq]
      exact fr_rfl
    · rw [if_neg hc11] at hf
      obtain ⟨hb12, hf⟩ := grd_elim hf
      obtain ⟨q14, hr15, hf⟩ := obind hf
      obtain ⟨q17, hr18, hf⟩ := obind hf
      obtain ⟨hb19, hf⟩ := grd_elim hf
      obtain ⟨σ20, hσ20, hf⟩ := bnd_elim hf
      have fσ20 : Fr ([72]) σ σ20 := by rw [hσ20]; exact fr_setI fr_rfl (by rw [key_ne (by decide)]; first | decide | (simp [gk]; done) | (simp only [gk, List.mem_append, List.mem_cons, List.not_mem_nil, or_false, false_or]; omega))
      exact fr_trS fσ20 (ih (v4 + (1 : Int32)) σ20 hf)
set_option maxHeartbeats 4000000 in
theorem frX9_layFar_L41 (c2 : Int32)  (q : (St)) : ∀ (n : Nat) (v3 : Int32) (σ : St), fX9_layFar_L41 c2 n v3 σ = some q → Fr ([72]) σ q := by
  intro n
  induction n with
  | zero =>
    intro v3 σ hf
    simp only [fX9_layFar_L41] at hf
    exact absurd hf (by simp)
  | succ n ih =>
    intro v3 σ hf
    rw [fX9_layFar_L41] at hf
    by_cases hc10 : (σ.1 58 12) ≤ v3
    · rw [if_pos hc10] at hf
      have hq := Option.some.inj hf
      rw [← hq]
      exact fr_rfl
    · rw [if_neg hc10] at hf
      obtain ⟨q21, hr22, hf⟩ := obind hf
      have f23 : Fr ([72]) σ q21 := fr_tr fr_rfl (frX9_layFar_L52 c2 v3 q21 fu (0 : Int32) σ hr22) (by intro x9 hx9; first | exact absurd hx9 List.not_mem_nil | exact hx9 | (simp [gk] at hx9 ⊢; omega) | (simp only [gk, List.mem_append, List.mem_cons, List.not_mem_nil, or_false, false_or] at hx9 ⊢; omega))
      exact fr_trS f23 (ih (v3 + (1 : Int32)) q21 hf)
set_option maxHeartbeats 4000000 in
theorem frX9_layFar_L33   (q : (St)) : ∀ (n : Nat) (v2 : Int32) (σ : St), fX9_layFar_L33 n v2 σ = some q → Fr ([72]) σ q := by
  intro n
  induction n with
  | zero =>
    intro v2 σ hf
    simp only [fX9_layFar_L33] at hf
    exact absurd hf (by simp)
  | succ n ih =>
    intro v2 σ hf
    rw [fX9_layFar_L33] at hf
    by_cases hc9 : (8 : Int32) ≤ v2
    · rw [if_pos hc9] at hf
      have hq := Option.some.inj hf
      rw [← hq]
      exact fr_rfl
    · rw [if_neg hc9] at hf
      obtain ⟨q24, hr25, hf⟩ := obind hf
      have f26 : Fr ([72]) σ q24 := fr_tr fr_rfl (frX9_layFar_L41 v2 q24 fu (0 : Int32) σ hr25) (by intro x9 hx9; first | exact absurd hx9 List.not_mem_nil | exact hx9 | (simp [gk] at hx9 ⊢; omega) | (simp only [gk, List.mem_append, List.mem_cons, List.not_mem_nil, or_false, false_or] at hx9 ⊢; omega))
      exact fr_trS f26 (ih (v2 + (1 : Int32)) q24 hf)
set_option maxHeartbeats 4000000 in
theorem frX9_layFar (p1 : Int32) (σ : St)  (q : St) (hf : fX9_layFar p1 σ = some q) : Fr ([72]) σ q := by
  unfold fX9_layFar at hf
  obtain ⟨q6, hr7, hf⟩ := obind hf
  have f8 : Fr ([72]) σ q6 := fr_tr fr_rfl (frX9_layFar_L2 p1 q6 fu (0 : Int32) σ hr7) (by intro x9 hx9; first | exact absurd hx9 List.not_mem_nil | exact hx9 | (simp [gk] at hx9 ⊢; omega) | (simp only [gk, List.mem_append, List.mem_cons, List.not_mem_nil, or_false, false_or] at hx9 ⊢; omega))
  obtain ⟨q27, hr28, hf⟩ := obind hf
  have f29 : Fr ([72]) σ q27 := fr_tr f8 (frX9_layFar_L33  q27 fu (0 : Int32) q6 hr28) (by intro x9 hx9; first | exact absurd hx9 List.not_mem_nil | exact hx9 | (simp [gk] at hx9 ⊢; omega) | (simp only [gk, List.mem_append, List.mem_cons, List.not_mem_nil, or_false, false_or] at hx9 ⊢; omega))
  have hq := Option.some.inj hf
  subst hq
  exact f29
set_option maxHeartbeats 4000000 in
theorem frX9_tellStranger (p1 : Int32) (p2 : Int32) (p3 : Int32) (σ : St)  (q : Int32 × St) (hf : fX9_tellStranger p1 p2 p3 σ = some q) : Fr ([72]) σ q.2 := by
  unfold fX9_tellStranger at hf
  obtain ⟨q1, hq1, hf⟩ := obind hf
  have fq1 : Fr ([72]) σ q1 := fr_tr fr_rfl (frX9_layFar p2 σ _ hq1) (by intro x9 hx9; first | exact absurd hx9 List.not_mem_nil | exact hx9 | (simp [gk] at hx9 ⊢; omega) | (simp only [gk, List.mem_append, List.mem_cons, List.not_mem_nil, or_false, false_or] at hx9 ⊢; omega))
  by_cases hc2 : p3 = 0
  · rw [if_pos hc2] at hf
    by_cases hc3 : p3 = 0
    · rw [if_pos hc3] at hf
      obtain ⟨hb4, hf⟩ := grd_elim hf
      by_cases hc5 : (100 : Int32) ≤ (q1.1 72 p1.toNatClampNeg)
      · rw [if_pos hc5] at hf
        have hq := Option.some.inj hf
        subst hq
        exact fq1
      · rw [if_neg hc5] at hf
        obtain ⟨hb6, hf⟩ := grd_elim hf
        have hq := Option.some.inj hf
        subst hq
        exact fq1
    · rw [if_neg hc3] at hf
      have hq := Option.some.inj hf
      subst hq
      exact fq1
  · rw [if_neg hc2] at hf
    by_cases hc7 : p1 = p2
    · rw [if_pos hc7] at hf
      by_cases hc8 : p3 = 0
      · rw [if_pos hc8] at hf
        obtain ⟨hb9, hf⟩ := grd_elim hf
        by_cases hc10 : (100 : Int32) ≤ (q1.1 72 p1.toNatClampNeg)
        · rw [if_pos hc10] at hf
          have hq := Option.some.inj hf
          subst hq
          exact fq1
        · rw [if_neg hc10] at hf
          obtain ⟨hb11, hf⟩ := grd_elim hf
          have hq := Option.some.inj hf
          subst hq
          exact fq1
      · rw [if_neg hc8] at hf
        have hq := Option.some.inj hf
        subst hq
        exact fq1
    · rw [if_neg hc7] at hf
      obtain ⟨hb12, hf⟩ := grd_elim hf
      by_cases hc13 : (q1.1 72 p1.toNatClampNeg) = (100 : Int32)
      · rw [if_pos hc13] at hf
        by_cases hc14 : p3 = 0
        · rw [if_pos hc14] at hf
          obtain ⟨hb15, hf⟩ := grd_elim hf
          by_cases hc16 : (100 : Int32) ≤ (q1.1 72 p1.toNatClampNeg)
          · rw [if_pos hc16] at hf
            have hq := Option.some.inj hf
            subst hq
            exact fq1
          · rw [if_neg hc16] at hf
            obtain ⟨hb17, hf⟩ := grd_elim hf
            have hq := Option.some.inj hf
            subst hq
            exact fq1
        · rw [if_neg hc14] at hf
          have hq := Option.some.inj hf
          subst hq
          exact fq1
      · rw [if_neg hc13] at hf
        obtain ⟨q18, hr19, hf⟩ := obind hf
        have hq := Option.some.inj hf
        subst hq
        exact fq1
set_option maxHeartbeats 4000000 in
theorem frX9_stranger (p1 : Int32) (p2 : Int32) (p3 : Int32) (σ : St)  (q : Int32 × St) (hf : fX9_stranger p1 p2 p3 σ = some q) : Fr ([72]) σ q.2 := by
  unfold fX9_stranger at hf
  by_cases hc1 : (fX9_isPerson p1 σ) = 0
  · rw [if_pos hc1] at hf
    have hq := Option.some.inj hf
    subst hq
    exact fr_rfl
  · rw [if_neg hc1] at hf
    by_cases hc2 : (fX9_isPerson p2 σ) = 0
    · rw [if_pos hc2] at hf
      have hq := Option.some.inj hf
      subst hq
      exact fr_rfl
    · rw [if_neg hc2] at hf
      by_cases hc3 : (fX9_in p3.toInt64 (0 : Int64) (1 : Int64)) = 0
      · rw [if_pos hc3] at hf
        have hq := Option.some.inj hf
        subst hq
        exact fr_rfl
      · rw [if_neg hc3] at hf
        obtain ⟨q4, hq4, hf⟩ := obind hf
        have fq4 : Fr ([72]) σ q4.2 := fr_tr fr_rfl (frX9_tellStranger p1 p2 p3 σ _ hq4) (by intro x9 hx9; first | exact absurd hx9 List.not_mem_nil | exact hx9 | (simp [gk] at hx9 ⊢; omega) | (simp only [gk, List.mem_append, List.mem_cons, List.not_mem_nil, or_false, false_or] at hx9 ⊢; omega))
        have hq := Option.some.inj hf
        subst hq
        exact fq4
set_option maxHeartbeats 4000000 in
theorem frX9_copy_L2 (a0 n0 : Nat) (a1 n1 : Nat) (c2 : Int32) (ha0 : IA a0 n0) (ha1 : IA a1 n1) (q : (St)) : ∀ (n : Nat) (v3 : Int32) (σ : St), fX9_copy_L2 a0 n0 a1 n1 c2 n v3 σ = some q → Fr ([a1]) σ q := by
  intro n
  induction n with
  | zero =>
    intro v3 σ hf
    simp only [fX9_copy_L2] at hf
    exact absurd hf (by simp)
  | succ n ih =>
    intro v3 σ hf
    rw [fX9_copy_L2] at hf
    by_cases hc1 : c2 ≤ v3
    · rw [if_pos hc1] at hf
      have hq := Option.some.inj hf
      rw [← hq]
      exact fr_rfl
    · rw [if_neg hc1] at hf
      obtain ⟨hb2, hf⟩ := grd_elim hf
      obtain ⟨hb3, hf⟩ := grd_elim hf
      obtain ⟨σ4, hσ4, hf⟩ := bnd_elim hf
      have fσ4 : Fr ([a1]) σ σ4 := by rw [hσ4]; exact fr_setI fr_rfl (by rw [key_ne (ia_ne ha1)]; simp [gk])
      exact fr_trS fσ4 (ih (v3 + (1 : Int32)) σ4 hf)
set_option maxHeartbeats 4000000 in
theorem frX9_copy (a0 n0 : Nat) (a1 n1 : Nat) (p2 : Int32) (σ : St) (ha0 : IA a0 n0) (ha1 : IA a1 n1) (q : St) (hf : fX9_copy a0 n0 a1 n1 p2 σ = some q) : Fr ([a1]) σ q := by
  unfold fX9_copy at hf
  obtain ⟨q5, hr6, hf⟩ := obind hf
  have f7 : Fr ([a1]) σ q5 := fr_tr fr_rfl (frX9_copy_L2 a0 n0 a1 n1 p2 ha0 ha1 q5 fu (0 : Int32) σ hr6) (by intro x9 hx9; first | exact absurd hx9 List.not_mem_nil | exact hx9 | (simp [gk] at hx9 ⊢; omega) | (simp only [gk, List.mem_append, List.mem_cons, List.not_mem_nil, or_false, false_or] at hx9 ⊢; omega))
  have hq := Option.some.inj hf
  subst hq
  exact f7
set_option maxHeartbeats 4000000 in
theorem frX9_drawn_L87 (c1 : Int32) (c3 : Int32) (c4 : Int32)  (q : (Int32 × St)) : ∀ (n : Nat) (v5 : Int32) (v6 : Int32) (σ : St), fX9_drawn_L87 c1 c3 c4 n v5 v6 σ = some q → Fr ([66, 65, 122, 63, 64, 118, 119]) σ q.2 := by
  intro n
  induction n with
  | zero =>
    intro v5 v6 σ hf
    simp only [fX9_drawn_L87] at hf
    exact absurd hf (by simp)
  | succ n ih =>
    intro v5 v6 σ hf
    rw [fX9_drawn_L87] at hf
    by_cases hc8 : c1 ≤ v6
    · rw [if_pos hc8] at hf
      have hq := Option.some.inj hf
      rw [← hq]
      exact fr_rfl
    · rw [if_neg hc8] at hf
      obtain ⟨q9, hq9, hf⟩ := obind hf
      have fq9 : Fr ([66, 65, 122, 63, 64, 118, 119]) σ q9.2 := fr_tr fr_rfl (frX9_year (1 : Int32) σ _ hq9) (by intro x9 hx9; first | exact absurd hx9 List.not_mem_nil | exact hx9 | (simp [gk] at hx9 ⊢; omega) | (simp only [gk, List.mem_append, List.mem_cons, List.not_mem_nil, or_false, false_or] at hx9 ⊢; omega))
      exact fr_trS fq9 (ih (v5 + q9.1) (v6 + (1 : Int32)) q9.2 hf)
set_option maxHeartbeats 4000000 in
theorem frX9_drawn (p1 : Int32) (p2 : Int32) (p3 : Int32) (σ : St)  (q : Int32 × St) (hf : fX9_drawn p1 p2 p3 σ = some q) : Fr ([73, 74, 75, 122, 66, 65, 63, 64, 118, 119]) σ q.2 := by
  unfold fX9_drawn at hf
  by_cases hc1 : (fX9_in p1.toInt64 (1 : Int64) (30 : Int64)) = 0
  · rw [if_pos hc1] at hf
    have hq := Option.some.inj hf
    subst hq
    exact fr_rfl
  · rw [if_neg hc1] at hf
    by_cases hc2 : p2 < 0
    · rw [if_pos hc2] at hf
      have hq := Option.some.inj hf
      subst hq
      exact fr_rfl
    · rw [if_neg hc2] at hf
      by_cases hc3 : (fX9_in p3.toInt64 (0 : Int64) (3 : Int64)) = 0
      · rw [if_pos hc3] at hf
        have hq := Option.some.inj hf
        subst hq
        exact fr_rfl
      · rw [if_neg hc3] at hf
        obtain ⟨q4, hq4, hf⟩ := obind hf
        have fq4 : Fr ([73, 74, 75, 122, 66, 65, 63, 64, 118, 119]) σ q4 := fr_tr fr_rfl (frX9_copy 65 64 73 64 (64 : Int32) σ ia_65 ia_73 _ hq4) (by intro x9 hx9; first | exact absurd hx9 List.not_mem_nil | exact hx9 | (simp [gk] at hx9 ⊢; omega) | (simp only [gk, List.mem_append, List.mem_cons, List.not_mem_nil, or_false, false_or] at hx9 ⊢; omega))
        obtain ⟨q5, hq5, hf⟩ := obind hf
        have fq5 : Fr ([73, 74, 75, 122, 66, 65, 63, 64, 118, 119]) σ q5 := fr_tr fq4 (frX9_copy 63 64 74 64 (64 : Int32) q4 ia_63 ia_74 _ hq5) (by intro x9 hx9; first | exact absurd hx9 List.not_mem_nil | exact hx9 | (simp [gk] at hx9 ⊢; omega) | (simp only [gk, List.mem_append, List.mem_cons, List.not_mem_nil, or_false, false_or] at hx9 ⊢; omega))
        obtain ⟨q6, hq6, hf⟩ := obind hf
        have fq6 : Fr ([73, 74, 75, 122, 66, 65, 63, 64, 118, 119]) σ q6 := fr_tr fq5 (frX9_copy 64 8 75 8 (8 : Int32) q5 ia_64 ia_75 _ hq6) (by intro x9 hx9; first | exact absurd hx9 List.not_mem_nil | exact hx9 | (simp [gk] at hx9 ⊢; omega) | (simp only [gk, List.mem_append, List.mem_cons, List.not_mem_nil, or_false, false_or] at hx9 ⊢; omega))
        obtain ⟨σ7, hσ7, hf⟩ := bnd_elim hf
        have fσ7 : Fr ([73, 74, 75, 122, 66, 65, 63, 64, 118, 119]) σ σ7 := by rw [hσ7]; exact fr_setI fq6 (by rw [key_58]; first | decide | (simp [gk]; done) | (simp only [gk, List.mem_append, List.mem_cons, List.not_mem_nil, or_false, false_or]; omega))
        obtain ⟨q10, hr11, hf⟩ := obind hf
        have f12 : Fr ([73, 74, 75, 122, 66, 65, 63, 64, 118, 119]) σ q10.2 := fr_tr fσ7 (frX9_drawn_L87 p1 p3 (q6.1 58 18) q10 fu (0 : Int32) (0 : Int32) σ7 hr11) (by intro x9 hx9; first | exact absurd hx9 List.not_mem_nil | exact hx9 | (simp [gk] at hx9 ⊢; omega) | (simp only [gk, List.mem_append, List.mem_cons, List.not_mem_nil, or_false, false_or] at hx9 ⊢; omega))
        obtain ⟨q13, hq13, hf⟩ := obind hf
        obtain ⟨x14, hx14, hf⟩ := bnd_elim hf
        obtain ⟨q15, hq15, hf⟩ := obind hf
        have fq15 : Fr ([73, 74, 75, 122, 66, 65, 63, 64, 118, 119]) σ q15 := fr_tr f12 (frX9_copy 73 64 65 64 (64 : Int32) q10.2 ia_73 ia_65 _ hq15) (by intro x9 hx9; first | exact absurd hx9 List.not_mem_nil | exact hx9 | (simp [gk] at hx9 ⊢; omega) | (simp only [gk, List.mem_append, List.mem_cons, List.not_mem_nil, or_false, false_or] at hx9 ⊢; omega))
        obtain ⟨q16, hq16, hf⟩ := obind hf
        have fq16 : Fr ([73, 74, 75, 122, 66, 65, 63, 64, 118, 119]) σ q16 := fr_tr fq15 (frX9_copy 74 64 63 64 (64 : Int32) q15 ia_74 ia_63 _ hq16) (by intro x9 hx9; first | exact absurd hx9 List.not_mem_nil | exact hx9 | (simp [gk] at hx9 ⊢; omega) | (simp only [gk, List.mem_append, List.mem_cons, List.not_mem_nil, or_false, false_or] at hx9 ⊢; omega))
        obtain ⟨q17, hq17, hf⟩ := obind hf
        have fq17 : Fr ([73, 74, 75, 122, 66, 65, 63, 64, 118, 119]) σ q17 := fr_tr fq16 (frX9_copy 75 8 64 8 (8 : Int32) q16 ia_75 ia_64 _ hq17) (by intro x9 hx9; first | exact absurd hx9 List.not_mem_nil | exact hx9 | (simp [gk] at hx9 ⊢; omega) | (simp only [gk, List.mem_append, List.mem_cons, List.not_mem_nil, or_false, false_or] at hx9 ⊢; omega))
        obtain ⟨σ18, hσ18, hf⟩ := bnd_elim hf
        have fσ18 : Fr ([73, 74, 75, 122, 66, 65, 63, 64, 118, 119]) σ σ18 := by rw [hσ18]; exact fr_setI fq17 (by rw [key_58]; first | decide | (simp [gk]; done) | (simp only [gk, List.mem_append, List.mem_cons, List.not_mem_nil, or_false, false_or]; omega))
        obtain ⟨σ19, hσ19, hf⟩ := bnd_elim hf
        have fσ19 : Fr ([73, 74, 75, 122, 66, 65, 63, 64, 118, 119]) σ σ19 := by rw [hσ19]; exact fr_setI fσ18 (by rw [key_58]; first | decide | (simp [gk]; done) | (simp only [gk, List.mem_append, List.mem_cons, List.not_mem_nil, or_false, false_or]; omega))
        by_cases hc20 : p3 = 0
        · rw [if_pos hc20] at hf
          have hq := Option.some.inj hf
          subst hq
          exact fσ19
        · rw [if_neg hc20] at hf
          by_cases hc21 : p3 = (1 : Int32)
          · rw [if_pos hc21] at hf
            have hq := Option.some.inj hf
            subst hq
            exact fσ19
          · rw [if_neg hc21] at hf
            by_cases hc22 : p3 = (2 : Int32)
            · rw [if_pos hc22] at hf
              have hq := Option.some.inj hf
              subst hq
              exact fσ19
            · rw [if_neg hc22] at hf
              have hq := Option.some.inj hf
              subst hq
              exact fσ19
set_option maxHeartbeats 4000000 in
theorem frX9_open_L38   (q : (St)) : ∀ (n : Nat) (v3 : Int32) (σ : St), fX9_open_L38 n v3 σ = some q → Fr ([76]) σ q := by
  intro n
  induction n with
  | zero =>
    intro v3 σ hf
    simp only [fX9_open_L38] at hf
    exact absurd hf (by simp)
  | succ n ih =>
    intro v3 σ hf
    rw [fX9_open_L38] at hf
    by_cases hc5 : (8 : Int32) ≤ v3
    · rw [if_pos hc5] at hf
      have hq := Option.some.inj hf
      rw [← hq]
      exact fr_rfl
    · rw [if_neg hc5] at hf
      obtain ⟨hb6, hf⟩ := grd_elim hf
      obtain ⟨σ7, hσ7, hf⟩ := bnd_elim hf
      have fσ7 : Fr ([76]) σ σ7 := by rw [hσ7]; exact fr_setI fr_rfl (by rw [key_ne (by decide)]; first | decide | (simp [gk]; done) | (simp only [gk, List.mem_append, List.mem_cons, List.not_mem_nil, or_false, false_or]; omega))
      exact fr_trS fσ7 (ih (v3 + (1 : Int32)) σ7 hf)
set_option maxHeartbeats 4000000 in
theorem frX9_open (p1 : Int32) (p2 : Int32) (σ : St)  (q : Int32 × St) (hf : fX9_open p1 p2 σ = some q) : Fr ([133, 134, 76]) σ q.2 := by
  unfold fX9_open at hf
  by_cases hc1 : (fX9_isPerson p1 σ) = 0
  · rw [if_pos hc1] at hf
    have hq := Option.some.inj hf
    subst hq
    exact fr_rfl
  · rw [if_neg hc1] at hf
    by_cases hc2 : (fX9_in p2.toInt64 (1 : Int64) (7 : Int64)) = 0
    · rw [if_pos hc2] at hf
      have hq := Option.some.inj hf
      subst hq
      exact fr_rfl
    · rw [if_neg hc2] at hf
      obtain ⟨σ3, hσ3, hf⟩ := bnd_elim hf
      have fσ3 : Fr ([133, 134, 76]) σ σ3 := by rw [hσ3]; exact fr_setI fr_rfl (by rw [key_58]; first | decide | (simp [gk]; done) | (simp only [gk, List.mem_append, List.mem_cons, List.not_mem_nil, or_false, false_or]; omega))
      obtain ⟨σ4, hσ4, hf⟩ := bnd_elim hf
      have fσ4 : Fr ([133, 134, 76]) σ σ4 := by rw [hσ4]; exact fr_setI fσ3 (by rw [key_58]; first | decide | (simp [gk]; done) | (simp only [gk, List.mem_append, List.mem_cons, List.not_mem_nil, or_false, false_or]; omega))
      obtain ⟨q8, hr9, hf⟩ := obind hf
      have f10 : Fr ([133, 134, 76]) σ q8 := fr_tr fσ4 (frX9_open_L38  q8 fu (0 : Int32) σ4 hr9) (by intro x9 hx9; first | exact absurd hx9 List.not_mem_nil | exact hx9 | (simp [gk] at hx9 ⊢; omega) | (simp only [gk, List.mem_append, List.mem_cons, List.not_mem_nil, or_false, false_or] at hx9 ⊢; omega))
      have hq := Option.some.inj hf
      subst hq
      exact f10
set_option maxHeartbeats 4000000 in
theorem frX9_write (p1 : Int32) (p2 : Int32) (σ : St)  (q : Int32 × St) (hf : fX9_write p1 p2 σ = some q) : Fr ([76]) σ q.2 := by
  unfold fX9_write at hf
  by_cases hc1 : (σ.1 58 33) = (-1 : Int32)
  · rw [if_pos hc1] at hf
    have hq := Option.some.inj hf
    subst hq
    exact fr_rfl
  · rw [if_neg hc1] at hf
    by_cases hc2 : (fX9_isYear p1 σ) = 0
    · rw [if_pos hc2] at hf
      have hq := Option.some.inj hf
      subst hq
      exact fr_rfl
    · rw [if_neg hc2] at hf
      by_cases hc3 : p2 = (-1 : Int32)
      · rw [if_pos hc3] at hf
        obtain ⟨hb4, hf⟩ := grd_elim hf
        obtain ⟨x5, hx5, hf⟩ := bnd_elim hf
        obtain ⟨hb6, hf⟩ := grd_elim hf
        obtain ⟨σ7, hσ7, hf⟩ := bnd_elim hf
        have fσ7 : Fr ([76]) σ σ7 := by rw [hσ7]; exact fr_setI fr_rfl (by rw [key_ne (by decide)]; first | decide | (simp [gk]; done) | (simp only [gk, List.mem_append, List.mem_cons, List.not_mem_nil, or_false, false_or]; omega))
        have hq := Option.some.inj hf
        subst hq
        exact fσ7
      · rw [if_neg hc3] at hf
        by_cases hc8 : (fX9_isPerson p2 σ) = 0
        · rw [if_pos hc8] at hf
          have hq := Option.some.inj hf
          subst hq
          exact fr_rfl
        · rw [if_neg hc8] at hf
          obtain ⟨hb9, hf⟩ := grd_elim hf
          obtain ⟨x10, hx10, hf⟩ := bnd_elim hf
          obtain ⟨hb11, hf⟩ := grd_elim hf
          obtain ⟨σ12, hσ12, hf⟩ := bnd_elim hf
          have fσ12 : Fr ([76]) σ σ12 := by rw [hσ12]; exact fr_setI fr_rfl (by rw [key_ne (by decide)]; first | decide | (simp [gk]; done) | (simp only [gk, List.mem_append, List.mem_cons, List.not_mem_nil, or_false, false_or]; omega))
          have hq := Option.some.inj hf
          subst hq
          exact fσ12
set_option maxHeartbeats 4000000 in
theorem frX9_filledOf_L2   (q : (St)) : ∀ (n : Nat) (v1 : Int32) (σ : St), fX9_filledOf_L2 n v1 σ = some q → Fr ([]) σ q := by
  intro n
  induction n with
  | zero =>
    intro v1 σ hf
    simp only [fX9_filledOf_L2] at hf
    exact absurd hf (by simp)
  | succ n ih =>
    intro v1 σ hf
    rw [fX9_filledOf_L2] at hf
    by_cases hc1 : (72 : Int32) ≤ v1
    · rw [if_pos hc1] at hf
      have hq := Option.some.inj hf
      rw [← hq]
      exact fr_rfl
    · rw [if_neg hc1] at hf
      obtain ⟨x3, hx3, hf⟩ := bnd_elim hf
      obtain ⟨hb4, hf⟩ := grd_elim hf
      obtain ⟨σ5, hσ5, hf⟩ := bnd_elim hf
      have fσ5 : Fr ([]) σ σ5 := by rw [hσ5]; exact fr_setL fr_rfl
      exact fr_trS fσ5 (ih (v1 + (1 : Int32)) σ5 hf)
set_option maxHeartbeats 4000000 in
theorem frX9_filledOf_L51 (c1 : Int32)  (q : (St)) : ∀ (n : Nat) (v2 : Int32) (σ : St), fX9_filledOf_L51 c1 n v2 σ = some q → Fr ([]) σ q := by
  intro n
  induction n with
  | zero =>
    intro v2 σ hf
    simp only [fX9_filledOf_L51] at hf
    exact absurd hf (by simp)
  | succ n ih =>
    intro v2 σ hf
    rw [fX9_filledOf_L51] at hf
    by_cases hc10 : (72 : Int32) ≤ v2
    · rw [if_pos hc10] at hf
      have hq := Option.some.inj hf
      rw [← hq]
      exact fr_rfl
    · rw [if_neg hc10] at hf
      obtain ⟨hb11, hf⟩ := grd_elim hf
      obtain ⟨σ12, hσ12, hf⟩ := bnd_elim hf
      have fσ12 : Fr ([]) σ σ12 := by rw [hσ12]; exact fr_setL fr_rfl
      exact fr_trS fσ12 (ih (v2 + (1 : Int32)) σ12 hf)
set_option maxHeartbeats 4000000 in
theorem frX9_filledOf_L86 (c1 : Int32) (c2 : Int32) (c3 : Int32)  (q : (St)) : ∀ (n : Nat) (v4 : Int32) (σ : St), fX9_filledOf_L86 c1 c2 c3 n v4 σ = some q → Fr ([]) σ q := by
  intro n
  induction n with
  | zero =>
    intro v4 σ hf
    simp only [fX9_filledOf_L86] at hf
    exact absurd hf (by simp)
  | succ n ih =>
    intro v4 σ hf
    rw [fX9_filledOf_L86] at hf
    by_cases hc17 : (σ.1 58 12) ≤ v4
    · rw [if_pos hc17] at hf
      have hq := Option.some.inj hf
      rw [← hq]
      exact fr_rfl
    · rw [if_neg hc17] at hf
      obtain ⟨hb18, hf⟩ := grd_elim hf
      by_cases hc19 : (lg_cmp (σ.2 67 c2.toNatClampNeg) (0 : Int64)) ≤ 0
      · rw [if_pos hc19] at hf
        have hq := Option.some.inj hf
        rw [← hq]
        exact fr_rfl
      · rw [if_neg hc19] at hf
        obtain ⟨hb20, hf⟩ := grd_elim hf
        obtain ⟨x22, hx22, hf⟩ := bnd_elim hf
        obtain ⟨q24, hr25, hf⟩ := obind hf
        obtain ⟨hb26, hf⟩ := grd_elim hf
        obtain ⟨q28, hr29, hf⟩ := obind hf
        obtain ⟨hb30, hf⟩ := grd_elim hf
        obtain ⟨σ31, hσ31, hf⟩ := bnd_elim hf
        have fσ31 : Fr ([]) σ σ31 := by rw [hσ31]; exact fr_setL fr_rfl
        exact fr_trS fσ31 (ih (v4 + (1 : Int32)) σ31 hf)
set_option maxHeartbeats 4000000 in
theorem frX9_filledOf_L72 (c1 : Int32)  (q : (St)) : ∀ (n : Nat) (v2 : Int32) (σ : St), fX9_filledOf_L72 c1 n v2 σ = some q → Fr ([]) σ q := by
  intro n
  induction n with
  | zero =>
    intro v2 σ hf
    simp only [fX9_filledOf_L72] at hf
    exact absurd hf (by simp)
  | succ n ih =>
    intro v2 σ hf
    rw [fX9_filledOf_L72] at hf
    by_cases hc16 : (72 : Int32) ≤ v2
    · rw [if_pos hc16] at hf
      have hq := Option.some.inj hf
      rw [← hq]
      exact fr_rfl
    · rw [if_neg hc16] at hf
      obtain ⟨q32, hr33, hf⟩ := obind hf
      have f34 : Fr ([]) σ q32 := fr_tr fr_rfl (frX9_filledOf_L86 c1 v2 (v2 / (9 : Int32)) q32 fu (0 : Int32) σ hr33) (by intro x9 hx9; first | exact absurd hx9 List.not_mem_nil | exact hx9 | (simp [gk] at hx9 ⊢; omega) | (simp only [gk, List.mem_append, List.mem_cons, List.not_mem_nil, or_false, false_or] at hx9 ⊢; omega))
      exact fr_trS f34 (ih (v2 + (1 : Int32)) q32 hf)
set_option maxHeartbeats 4000000 in
theorem frX9_filledOf_L223 (c1 : Int32)  (q : (St)) : ∀ (n : Nat) (v2 : Int32) (σ : St), fX9_filledOf_L223 c1 n v2 σ = some q → Fr ([]) σ q := by
  intro n
  induction n with
  | zero =>
    intro v2 σ hf
    simp only [fX9_filledOf_L223] at hf
    exact absurd hf (by simp)
  | succ n ih =>
    intro v2 σ hf
    rw [fX9_filledOf_L223] at hf
    by_cases hc38 : (72 : Int32) ≤ v2
    · rw [if_pos hc38] at hf
      have hq := Option.some.inj hf
      rw [← hq]
      exact fr_rfl
    · rw [if_neg hc38] at hf
      obtain ⟨hb39, hf⟩ := grd_elim hf
      obtain ⟨hb40, hf⟩ := grd_elim hf
      obtain ⟨σ41, hσ41, hf⟩ := bnd_elim hf
      have fσ41 : Fr ([]) σ σ41 := by rw [hσ41]; exact fr_setL fr_rfl
      exact fr_trS fσ41 (ih (v2 + (1 : Int32)) σ41 hf)
set_option maxHeartbeats 4000000 in
theorem frX9_filledOf_L41   (q : (St)) : ∀ (n : Nat) (v1 : Int32) (σ : St), fX9_filledOf_L41 n v1 σ = some q → Fr ([]) σ q := by
  intro n
  induction n with
  | zero =>
    intro v1 σ hf
    simp only [fX9_filledOf_L41] at hf
    exact absurd hf (by simp)
  | succ n ih =>
    intro v1 σ hf
    rw [fX9_filledOf_L41] at hf
    by_cases hc9 : (σ.1 58 34) < v1
    · rw [if_pos hc9] at hf
      have hq := Option.some.inj hf
      rw [← hq]
      exact fr_rfl
    · rw [if_neg hc9] at hf
      obtain ⟨q13, hr14, hf⟩ := obind hf
      have f15 : Fr ([]) σ q13 := fr_tr fr_rfl (frX9_filledOf_L51 v1 q13 fu (0 : Int32) σ hr14) (by intro x9 hx9; first | exact absurd hx9 List.not_mem_nil | exact hx9 | (simp [gk] at hx9 ⊢; omega) | (simp only [gk, List.mem_append, List.mem_cons, List.not_mem_nil, or_false, false_or] at hx9 ⊢; omega))
      obtain ⟨q35, hr36, hf⟩ := obind hf
      have f37 : Fr ([]) σ q35 := fr_tr f15 (frX9_filledOf_L72 v1 q35 fu (0 : Int32) q13 hr36) (by intro x9 hx9; first | exact absurd hx9 List.not_mem_nil | exact hx9 | (simp [gk] at hx9 ⊢; omega) | (simp only [gk, List.mem_append, List.mem_cons, List.not_mem_nil, or_false, false_or] at hx9 ⊢; omega))
      obtain ⟨q42, hr43, hf⟩ := obind hf
      have f44 : Fr ([]) σ q42 := fr_tr f37 (frX9_filledOf_L223 v1 q42 fu (0 : Int32) q35 hr43) (by intro x9 hx9; first | exact absurd hx9 List.not_mem_nil | exact hx9 | (simp [gk] at hx9 ⊢; omega) | (simp only [gk, List.mem_append, List.mem_cons, List.not_mem_nil, or_false, false_or] at hx9 ⊢; omega))
      exact fr_trS f44 (ih (v1 + (1 : Int32)) q42 hf)
set_option maxHeartbeats 4000000 in
theorem frX9_filledOf  (σ : St)  (q : Int32 × St) (hf : fX9_filledOf σ = some q) : Fr ([]) σ q.2 := by
  unfold fX9_filledOf at hf
  obtain ⟨q6, hr7, hf⟩ := obind hf
  have f8 : Fr ([]) σ q6 := fr_tr fr_rfl (frX9_filledOf_L2  q6 fu (0 : Int32) σ hr7) (by intro x9 hx9; first | exact absurd hx9 List.not_mem_nil | exact hx9 | (simp [gk] at hx9 ⊢; omega) | (simp only [gk, List.mem_append, List.mem_cons, List.not_mem_nil, or_false, false_or] at hx9 ⊢; omega))
  obtain ⟨q45, hr46, hf⟩ := obind hf
  have f47 : Fr ([]) σ q45 := fr_tr f8 (frX9_filledOf_L41  q45 fu (1 : Int32) q6 hr46) (by intro x9 hx9; first | exact absurd hx9 List.not_mem_nil | exact hx9 | (simp [gk] at hx9 ⊢; omega) | (simp only [gk, List.mem_append, List.mem_cons, List.not_mem_nil, or_false, false_or] at hx9 ⊢; omega))
  obtain ⟨q48, hr49, hf⟩ := obind hf
  have hq := Option.some.inj hf
  subst hq
  exact f47
set_option maxHeartbeats 4000000 in
theorem frX9_filled  (σ : St)  (q : Int32 × St) (hf : fX9_filled σ = some q) : Fr ([]) σ q.2 := by
  unfold fX9_filled at hf
  by_cases hc1 : (σ.1 58 33) = (-1 : Int32)
  · rw [if_pos hc1] at hf
    have hq := Option.some.inj hf
    subst hq
    exact fr_rfl
  · rw [if_neg hc1] at hf
    obtain ⟨q2, hq2, hf⟩ := obind hf
    have fq2 : Fr ([]) σ q2.2 := fr_tr fr_rfl (frX9_filledOf σ _ hq2) (by intro x9 hx9; first | exact absurd hx9 List.not_mem_nil | exact hx9 | (simp [gk] at hx9 ⊢; omega) | (simp only [gk, List.mem_append, List.mem_cons, List.not_mem_nil, or_false, false_or] at hx9 ⊢; omega))
    have hq := Option.some.inj hf
    subst hq
    exact fq2
set_option maxHeartbeats 4000000 in
theorem frX9_sure_L37 (c1 : Int32) (c2 : Int32)  (q : (Int32 × Int32 × St)) : ∀ (n : Nat) (v3 : Int32) (v4 : Int32) (v5 : Int32) (σ : St), fX9_sure_L37 c1 c2 n v3 v4 v5 σ = some q → Fr ([76]) σ q.2.2 := by
  intro n
  induction n with
  | zero =>
    intro v3 v4 v5 σ hf
    simp only [fX9_sure_L37] at hf
    exact absurd hf (by simp)
  | succ n ih =>
    intro v3 v4 v5 σ hf
    rw [fX9_sure_L37] at hf
    by_cases hc5 : (σ.1 58 12) ≤ v5
    · rw [if_pos hc5] at hf
      have hq := Option.some.inj hf
      rw [← hq]
      exact fr_rfl
    · rw [if_neg hc5] at hf
      obtain ⟨hb6, hf⟩ := grd_elim hf
      obtain ⟨σ7, hσ7, hf⟩ := bnd_elim hf
      have fσ7 : Fr ([76]) σ σ7 := by rw [hσ7]; exact fr_setI fr_rfl (by rw [key_ne (by decide)]; first | decide | (simp [gk]; done) | (simp only [gk, List.mem_append, List.mem_cons, List.not_mem_nil, or_false, false_or]; omega))
      obtain ⟨q9, hr10, hf⟩ := obind hf
      have f11 : Fr ([76]) σ q9.2 := by
        clear hf
        have hf := hr10
        clear hr10
        by_cases hc8 : c2 = (-1 : Int32)
        · rw [if_pos hc8] at hf
          obtain ⟨q12, hq12, hf⟩ := obind hf
          have fq12 : Fr ([76]) σ q12.2 := fr_tr fσ7 (frX9_filledOf σ7 _ hq12) (by intro x9 hx9; first | exact absurd hx9 List.not_mem_nil | exact hx9 | (simp [gk] at hx9 ⊢; omega) | (simp only [gk, List.mem_append, List.mem_cons, List.not_mem_nil, or_false, false_or] at hx9 ⊢; omega))
          by_cases hc13 : q12.1 ≤ 0
          · rw [if_pos hc13] at hf
            have hq := Option.some.inj hf
            subst hq
            exact fq12
          · rw [if_neg hc13] at hf
            have hq := Option.some.inj hf
            subst hq
            exact fq12
        · rw [if_neg hc8] at hf
          by_cases hc14 : c2 = v5
          · rw [if_pos hc14] at hf
            obtain ⟨q15, hq15, hf⟩ := obind hf
            have fq15 : Fr ([76]) σ q15.2 := fr_tr fσ7 (frX9_filledOf σ7 _ hq15) (by intro x9 hx9; first | exact absurd hx9 List.not_mem_nil | exact hx9 | (simp [gk] at hx9 ⊢; omega) | (simp only [gk, List.mem_append, List.mem_cons, List.not_mem_nil, or_false, false_or] at hx9 ⊢; omega))
            by_cases hc16 : q15.1 ≤ 0
            · rw [if_pos hc16] at hf
              have hq := Option.some.inj hf
              subst hq
              exact fq15
            · rw [if_neg hc16] at hf
              have hq := Option.some.inj hf
              subst hq
              exact fq15
          · rw [if_neg hc14] at hf
            have hq := Option.some.inj hf
            subst hq
            exact fσ7
      obtain ⟨x18, hx18, hf⟩ := bnd_elim hf
      obtain ⟨x20, hx20, hf⟩ := bnd_elim hf
      exact fr_trS f11 (ih x18 (v4 + x20) (v5 + (1 : Int32)) q9.2 hf)
set_option maxHeartbeats 4000000 in
theorem frX9_sure (p1 : Int32) (σ : St)  (q : Int32 × St) (hf : fX9_sure p1 σ = some q) : Fr ([76]) σ q.2 := by
  unfold fX9_sure at hf
  by_cases hc1 : (σ.1 58 33) = (-1 : Int32)
  · rw [if_pos hc1] at hf
    have hq := Option.some.inj hf
    subst hq
    exact fr_rfl
  · rw [if_neg hc1] at hf
    by_cases hc2 : (fX9_isYear p1 σ) = 0
    · rw [if_pos hc2] at hf
      have hq := Option.some.inj hf
      subst hq
      exact fr_rfl
    · rw [if_neg hc2] at hf
      obtain ⟨hb3, hf⟩ := grd_elim hf
      obtain ⟨x4, hx4, hf⟩ := bnd_elim hf
      obtain ⟨q21, hr22, hf⟩ := obind hf
      have f23 : Fr ([76]) σ q21.2.2 := fr_tr fr_rfl (frX9_sure_L37 p1 x4 q21 fu (-1 : Int32) (0 : Int32) (0 : Int32) σ hr22) (by intro x9 hx9; first | exact absurd hx9 List.not_mem_nil | exact hx9 | (simp [gk] at hx9 ⊢; omega) | (simp only [gk, List.mem_append, List.mem_cons, List.not_mem_nil, or_false, false_or] at hx9 ⊢; omega))
      obtain ⟨hb24, hf⟩ := grd_elim hf
      obtain ⟨σ25, hσ25, hf⟩ := bnd_elim hf
      have fσ25 : Fr ([76]) σ σ25 := by rw [hσ25]; exact fr_setI f23 (by rw [key_ne (by decide)]; first | decide | (simp [gk]; done) | (simp only [gk, List.mem_append, List.mem_cons, List.not_mem_nil, or_false, false_or]; omega))
      by_cases hc26 : q21.2.1 = (1 : Int32)
      · rw [if_pos hc26] at hf
        have hq := Option.some.inj hf
        subst hq
        exact fσ25
      · rw [if_neg hc26] at hf
        have hq := Option.some.inj hf
        subst hq
        exact fσ25
set_option maxHeartbeats 4000000 in
theorem frX9_image  (σ : St)  (q : Int32 × St) (hf : fX9_image σ = some q) : Fr ([77, 78, 79, 80, 81, 136, 137, 138, 139]) σ q.2 := by
  unfold fX9_image at hf
  obtain ⟨q1, hq1, hf⟩ := obind hf
  have fq1 : Fr ([77, 78, 79, 80, 81, 136, 137, 138, 139]) σ q1 := fr_tr fr_rfl (frX9_copy 65 64 77 64 (64 : Int32) σ ia_65 ia_77 _ hq1) (by intro x9 hx9; first | exact absurd hx9 List.not_mem_nil | exact hx9 | (simp [gk] at hx9 ⊢; omega) | (simp only [gk, List.mem_append, List.mem_cons, List.not_mem_nil, or_false, false_or] at hx9 ⊢; omega))
  obtain ⟨q2, hq2, hf⟩ := obind hf
  have fq2 : Fr ([77, 78, 79, 80, 81, 136, 137, 138, 139]) σ q2 := fr_tr fq1 (frX9_copy 63 64 78 64 (64 : Int32) q1 ia_63 ia_78 _ hq2) (by intro x9 hx9; first | exact absurd hx9 List.not_mem_nil | exact hx9 | (simp [gk] at hx9 ⊢; omega) | (simp only [gk, List.mem_append, List.mem_cons, List.not_mem_nil, or_false, false_or] at hx9 ⊢; omega))
  obtain ⟨q3, hq3, hf⟩ := obind hf
  have fq3 : Fr ([77, 78, 79, 80, 81, 136, 137, 138, 139]) σ q3 := fr_tr fq2 (frX9_copy 62 64 79 64 (64 : Int32) q2 ia_62 ia_79 _ hq3) (by intro x9 hx9; first | exact absurd hx9 List.not_mem_nil | exact hx9 | (simp [gk] at hx9 ⊢; omega) | (simp only [gk, List.mem_append, List.mem_cons, List.not_mem_nil, or_false, false_or] at hx9 ⊢; omega))
  obtain ⟨q4, hq4, hf⟩ := obind hf
  have fq4 : Fr ([77, 78, 79, 80, 81, 136, 137, 138, 139]) σ q4 := fr_tr fq3 (frX9_copy 61 8 80 8 (8 : Int32) q3 ia_61 ia_80 _ hq4) (by intro x9 hx9; first | exact absurd hx9 List.not_mem_nil | exact hx9 | (simp [gk] at hx9 ⊢; omega) | (simp only [gk, List.mem_append, List.mem_cons, List.not_mem_nil, or_false, false_or] at hx9 ⊢; omega))
  obtain ⟨q5, hq5, hf⟩ := obind hf
  have fq5 : Fr ([77, 78, 79, 80, 81, 136, 137, 138, 139]) σ q5 := fr_tr fq4 (frX9_copy 64 8 81 8 (8 : Int32) q4 ia_64 ia_81 _ hq5) (by intro x9 hx9; first | exact absurd hx9 List.not_mem_nil | exact hx9 | (simp [gk] at hx9 ⊢; omega) | (simp only [gk, List.mem_append, List.mem_cons, List.not_mem_nil, or_false, false_or] at hx9 ⊢; omega))
  obtain ⟨σ6, hσ6, hf⟩ := bnd_elim hf
  have fσ6 : Fr ([77, 78, 79, 80, 81, 136, 137, 138, 139]) σ σ6 := by rw [hσ6]; exact fr_setI fq5 (by rw [key_58]; first | decide | (simp [gk]; done) | (simp only [gk, List.mem_append, List.mem_cons, List.not_mem_nil, or_false, false_or]; omega))
  obtain ⟨σ7, hσ7, hf⟩ := bnd_elim hf
  have fσ7 : Fr ([77, 78, 79, 80, 81, 136, 137, 138, 139]) σ σ7 := by rw [hσ7]; exact fr_setI fσ6 (by rw [key_58]; first | decide | (simp [gk]; done) | (simp only [gk, List.mem_append, List.mem_cons, List.not_mem_nil, or_false, false_or]; omega))
  obtain ⟨σ8, hσ8, hf⟩ := bnd_elim hf
  have fσ8 : Fr ([77, 78, 79, 80, 81, 136, 137, 138, 139]) σ σ8 := by rw [hσ8]; exact fr_setI fσ7 (by rw [key_58]; first | decide | (simp [gk]; done) | (simp only [gk, List.mem_append, List.mem_cons, List.not_mem_nil, or_false, false_or]; omega))
  obtain ⟨σ9, hσ9, hf⟩ := bnd_elim hf
  have fσ9 : Fr ([77, 78, 79, 80, 81, 136, 137, 138, 139]) σ σ9 := by rw [hσ9]; exact fr_setI fσ8 (by rw [key_58]; first | decide | (simp [gk]; done) | (simp only [gk, List.mem_append, List.mem_cons, List.not_mem_nil, or_false, false_or]; omega))
  have hq := Option.some.inj hf
  subst hq
  exact fσ9
set_option maxHeartbeats 4000000 in
theorem frX9_restore  (σ : St)  (q : Int32 × St) (hf : fX9_restore σ = some q) : Fr ([65, 63, 62, 61, 64, 120, 118, 119]) σ q.2 := by
  unfold fX9_restore at hf
  by_cases hc1 : (σ.1 58 36) = (-1 : Int32)
  · rw [if_pos hc1] at hf
    have hq := Option.some.inj hf
    subst hq
    exact fr_rfl
  · rw [if_neg hc1] at hf
    by_cases hc2 : (σ.1 58 37) = (σ.1 58 12)
    · rw [if_pos hc2] at hf
      obtain ⟨q3, hq3, hf⟩ := obind hf
      have fq3 : Fr ([65, 63, 62, 61, 64, 120, 118, 119]) σ q3 := fr_tr fr_rfl (frX9_copy 77 64 65 64 (64 : Int32) σ ia_77 ia_65 _ hq3) (by intro x9 hx9; first | exact absurd hx9 List.not_mem_nil | exact hx9 | (simp [gk] at hx9 ⊢; omega) | (simp only [gk, List.mem_append, List.mem_cons, List.not_mem_nil, or_false, false_or] at hx9 ⊢; omega))
      obtain ⟨q4, hq4, hf⟩ := obind hf
      have fq4 : Fr ([65, 63, 62, 61, 64, 120, 118, 119]) σ q4 := fr_tr fq3 (frX9_copy 78 64 63 64 (64 : Int32) q3 ia_78 ia_63 _ hq4) (by intro x9 hx9; first | exact absurd hx9 List.not_mem_nil | exact hx9 | (simp [gk] at hx9 ⊢; omega) | (simp only [gk, List.mem_append, List.mem_cons, List.not_mem_nil, or_false, false_or] at hx9 ⊢; omega))
      obtain ⟨q5, hq5, hf⟩ := obind hf
      have fq5 : Fr ([65, 63, 62, 61, 64, 120, 118, 119]) σ q5 := fr_tr fq4 (frX9_copy 79 64 62 64 (64 : Int32) q4 ia_79 ia_62 _ hq5) (by intro x9 hx9; first | exact absurd hx9 List.not_mem_nil | exact hx9 | (simp [gk] at hx9 ⊢; omega) | (simp only [gk, List.mem_append, List.mem_cons, List.not_mem_nil, or_false, false_or] at hx9 ⊢; omega))
      obtain ⟨q6, hq6, hf⟩ := obind hf
      have fq6 : Fr ([65, 63, 62, 61, 64, 120, 118, 119]) σ q6 := fr_tr fq5 (frX9_copy 80 8 61 8 (8 : Int32) q5 ia_80 ia_61 _ hq6) (by intro x9 hx9; first | exact absurd hx9 List.not_mem_nil | exact hx9 | (simp [gk] at hx9 ⊢; omega) | (simp only [gk, List.mem_append, List.mem_cons, List.not_mem_nil, or_false, false_or] at hx9 ⊢; omega))
      obtain ⟨q7, hq7, hf⟩ := obind hf
      have fq7 : Fr ([65, 63, 62, 61, 64, 120, 118, 119]) σ q7 := fr_tr fq6 (frX9_copy 81 8 64 8 (8 : Int32) q6 ia_81 ia_64 _ hq7) (by intro x9 hx9; first | exact absurd hx9 List.not_mem_nil | exact hx9 | (simp [gk] at hx9 ⊢; omega) | (simp only [gk, List.mem_append, List.mem_cons, List.not_mem_nil, or_false, false_or] at hx9 ⊢; omega))
      obtain ⟨σ8, hσ8, hf⟩ := bnd_elim hf
      have fσ8 : Fr ([65, 63, 62, 61, 64, 120, 118, 119]) σ σ8 := by rw [hσ8]; exact fr_setI fq7 (by rw [key_58]; first | decide | (simp [gk]; done) | (simp only [gk, List.mem_append, List.mem_cons, List.not_mem_nil, or_false, false_or]; omega))
      obtain ⟨σ9, hσ9, hf⟩ := bnd_elim hf
      have fσ9 : Fr ([65, 63, 62, 61, 64, 120, 118, 119]) σ σ9 := by rw [hσ9]; exact fr_setI fσ8 (by rw [key_58]; first | decide | (simp [gk]; done) | (simp only [gk, List.mem_append, List.mem_cons, List.not_mem_nil, or_false, false_or]; omega))
      obtain ⟨σ10, hσ10, hf⟩ := bnd_elim hf
      have fσ10 : Fr ([65, 63, 62, 61, 64, 120, 118, 119]) σ σ10 := by rw [hσ10]; exact fr_setI fσ9 (by rw [key_58]; first | decide | (simp [gk]; done) | (simp only [gk, List.mem_append, List.mem_cons, List.not_mem_nil, or_false, false_or]; omega))
      have hq := Option.some.inj hf
      subst hq
      exact fσ10
    · rw [if_neg hc2] at hf
      have hq := Option.some.inj hf
      subst hq
      exact fr_rfl
set_option maxHeartbeats 4000000 in
theorem frX9_say (p1 : Int64) (σ : St)  (q : St) (hf : fX9_say p1 σ = some q) : Fr ([]) σ q := by
  unfold fX9_say at hf
  obtain ⟨σ1, hσ1, hf⟩ := bnd_elim hf
  have fσ1 : Fr ([]) σ σ1 := by rw [hσ1]; exact fr_setL fr_rfl
  have hq := Option.some.inj hf
  subst hq
  exact fσ1
set_option maxHeartbeats 4000000 in
theorem frX9_sayGift_L2 (c1 : Int32)  (q : (St)) : ∀ (n : Nat) (v2 : Int32) (σ : St), fX9_sayGift_L2 c1 n v2 σ = some q → Fr ([]) σ q := by
  intro n
  induction n with
  | zero =>
    intro v2 σ hf
    simp only [fX9_sayGift_L2] at hf
    exact absurd hf (by simp)
  | succ n ih =>
    intro v2 σ hf
    rw [fX9_sayGift_L2] at hf
    by_cases hc1 : (9 : Int32) ≤ v2
    · rw [if_pos hc1] at hf
      have hq := Option.some.inj hf
      rw [← hq]
      exact fr_rfl
    · rw [if_neg hc1] at hf
      obtain ⟨q2, hq2, hf⟩ := obind hf
      obtain ⟨q3, hq3, hf⟩ := obind hf
      have fq3 : Fr ([]) σ q3 := fr_tr fr_rfl (frX9_say q2.toInt64 σ _ hq3) (by intro x9 hx9; first | exact absurd hx9 List.not_mem_nil | exact hx9 | (simp [gk] at hx9 ⊢; omega) | (simp only [gk, List.mem_append, List.mem_cons, List.not_mem_nil, or_false, false_or] at hx9 ⊢; omega))
      exact fr_trS fq3 (ih (v2 + (1 : Int32)) q3 hf)
set_option maxHeartbeats 4000000 in
theorem frX9_sayGift (p1 : Int32) (σ : St)  (q : St) (hf : fX9_sayGift p1 σ = some q) : Fr ([]) σ q := by
  unfold fX9_sayGift at hf
  obtain ⟨q4, hr5, hf⟩ := obind hf
  have f6 : Fr ([]) σ q4 := fr_tr fr_rfl (frX9_sayGift_L2 p1 q4 fu (0 : Int32) σ hr5) (by intro x9 hx9; first | exact absurd hx9 List.not_mem_nil | exact hx9 | (simp [gk] at hx9 ⊢; omega) | (simp only [gk, List.mem_append, List.mem_cons, List.not_mem_nil, or_false, false_or] at hx9 ⊢; omega))
  obtain ⟨q7, hq7, hf⟩ := obind hf
  by_cases hc8 : q7 = 0
  · rw [if_pos hc8] at hf
    have hq := Option.some.inj hf
    subst hq
    exact f6
  · rw [if_neg hc8] at hf
    obtain ⟨q9, hq9, hf⟩ := obind hf
    obtain ⟨q10, hq10, hf⟩ := obind hf
    have fq10 : Fr ([]) σ q10 := fr_tr f6 (frX9_say q9.toInt64 q4 _ hq10) (by intro x9 hx9; first | exact absurd hx9 List.not_mem_nil | exact hx9 | (simp [gk] at hx9 ⊢; omega) | (simp only [gk, List.mem_append, List.mem_cons, List.not_mem_nil, or_false, false_or] at hx9 ⊢; omega))
    obtain ⟨q11, hq11, hf⟩ := obind hf
    have fq11 : Fr ([]) σ q11.2 := fr_tr fq10 (frX9_soonestOf p1 q10 _ hq11) (by intro x9 hx9; first | exact absurd hx9 List.not_mem_nil | exact hx9 | (simp [gk] at hx9 ⊢; omega) | (simp only [gk, List.mem_append, List.mem_cons, List.not_mem_nil, or_false, false_or] at hx9 ⊢; omega))
    obtain ⟨q12, hq12, hf⟩ := obind hf
    have fq12 : Fr ([]) σ q12 := fr_tr fq11 (frX9_say q11.1.toInt64 q11.2 _ hq12) (by intro x9 hx9; first | exact absurd hx9 List.not_mem_nil | exact hx9 | (simp [gk] at hx9 ⊢; omega) | (simp only [gk, List.mem_append, List.mem_cons, List.not_mem_nil, or_false, false_or] at hx9 ⊢; omega))
    have hq := Option.some.inj hf
    subst hq
    exact fq12
set_option maxHeartbeats 4000000 in
theorem frX9_digest_L9   (q : (St)) : ∀ (n : Nat) (v1 : Int32) (σ : St), fX9_digest_L9 n v1 σ = some q → Fr ([]) σ q := by
  intro n
  induction n with
  | zero =>
    intro v1 σ hf
    simp only [fX9_digest_L9] at hf
    exact absurd hf (by simp)
  | succ n ih =>
    intro v1 σ hf
    rw [fX9_digest_L9] at hf
    by_cases hc2 : (4 : Int32) ≤ v1
    · rw [if_pos hc2] at hf
      have hq := Option.some.inj hf
      rw [← hq]
      exact fr_rfl
    · rw [if_neg hc2] at hf
      obtain ⟨q3, hq3, hf⟩ := obind hf
      have fq3 : Fr ([]) σ q3 := fr_tr fr_rfl (frX9_say ((fX9_tellLaw v1 σ).toInt64) σ _ hq3) (by intro x9 hx9; first | exact absurd hx9 List.not_mem_nil | exact hx9 | (simp [gk] at hx9 ⊢; omega) | (simp only [gk, List.mem_append, List.mem_cons, List.not_mem_nil, or_false, false_or] at hx9 ⊢; omega))
      exact fr_trS fq3 (ih (v1 + (1 : Int32)) q3 hf)
set_option maxHeartbeats 4000000 in
theorem frX9_digest_L42 (c1 : Int32)  (q : (St)) : ∀ (n : Nat) (v2 : Int32) (σ : St), fX9_digest_L42 c1 n v2 σ = some q → Fr ([]) σ q := by
  intro n
  induction n with
  | zero =>
    intro v2 σ hf
    simp only [fX9_digest_L42] at hf
    exact absurd hf (by simp)
  | succ n ih =>
    intro v2 σ hf
    rw [fX9_digest_L42] at hf
    by_cases hc8 : (4 : Int32) ≤ v2
    · rw [if_pos hc8] at hf
      have hq := Option.some.inj hf
      rw [← hq]
      exact fr_rfl
    · rw [if_neg hc8] at hf
      obtain ⟨q9, hq9, hf⟩ := obind hf
      obtain ⟨q10, hq10, hf⟩ := obind hf
      have fq10 : Fr ([]) σ q10 := fr_tr fr_rfl (frX9_say q9.toInt64 σ _ hq10) (by intro x9 hx9; first | exact absurd hx9 List.not_mem_nil | exact hx9 | (simp [gk] at hx9 ⊢; omega) | (simp only [gk, List.mem_append, List.mem_cons, List.not_mem_nil, or_false, false_or] at hx9 ⊢; omega))
      exact fr_trS fq10 (ih (v2 + (1 : Int32)) q10 hf)
set_option maxHeartbeats 4000000 in
theorem frX9_digest_L32   (q : (St)) : ∀ (n : Nat) (v1 : Int32) (σ : St), fX9_digest_L32 n v1 σ = some q → Fr ([]) σ q := by
  intro n
  induction n with
  | zero =>
    intro v1 σ hf
    simp only [fX9_digest_L32] at hf
    exact absurd hf (by simp)
  | succ n ih =>
    intro v1 σ hf
    rw [fX9_digest_L32] at hf
    by_cases hc7 : (σ.1 58 12) ≤ v1
    · rw [if_pos hc7] at hf
      have hq := Option.some.inj hf
      rw [← hq]
      exact fr_rfl
    · rw [if_neg hc7] at hf
      obtain ⟨q11, hr12, hf⟩ := obind hf
      have f13 : Fr ([]) σ q11 := fr_tr fr_rfl (frX9_digest_L42 v1 q11 fu (0 : Int32) σ hr12) (by intro x9 hx9; first | exact absurd hx9 List.not_mem_nil | exact hx9 | (simp [gk] at hx9 ⊢; omega) | (simp only [gk, List.mem_append, List.mem_cons, List.not_mem_nil, or_false, false_or] at hx9 ⊢; omega))
      obtain ⟨q14, hq14, hf⟩ := obind hf
      obtain ⟨q15, hq15, hf⟩ := obind hf
      have fq15 : Fr ([]) σ q15 := fr_tr f13 (frX9_say q14.toInt64 q11 _ hq15) (by intro x9 hx9; first | exact absurd hx9 List.not_mem_nil | exact hx9 | (simp [gk] at hx9 ⊢; omega) | (simp only [gk, List.mem_append, List.mem_cons, List.not_mem_nil, or_false, false_or] at hx9 ⊢; omega))
      exact fr_trS fq15 (ih (v1 + (1 : Int32)) q15 hf)
set_option maxHeartbeats 4000000 in
theorem frX9_digest_L82   (q : (St)) : ∀ (n : Nat) (v1 : Int32) (σ : St), fX9_digest_L82 n v1 σ = some q → Fr ([]) σ q := by
  intro n
  induction n with
  | zero =>
    intro v1 σ hf
    simp only [fX9_digest_L82] at hf
    exact absurd hf (by simp)
  | succ n ih =>
    intro v1 σ hf
    rw [fX9_digest_L82] at hf
    by_cases hc19 : (σ.1 58 20) ≤ v1
    · rw [if_pos hc19] at hf
      have hq := Option.some.inj hf
      rw [← hq]
      exact fr_rfl
    · rw [if_neg hc19] at hf
      obtain ⟨q20, hq20, hf⟩ := obind hf
      have fq20 : Fr ([]) σ q20 := fr_tr fr_rfl (frX9_sayGift v1 σ _ hq20) (by intro x9 hx9; first | exact absurd hx9 List.not_mem_nil | exact hx9 | (simp [gk] at hx9 ⊢; omega) | (simp only [gk, List.mem_append, List.mem_cons, List.not_mem_nil, or_false, false_or] at hx9 ⊢; omega))
      exact fr_trS fq20 (ih (v1 + (1 : Int32)) q20 hf)
set_option maxHeartbeats 4000000 in
theorem frX9_digest_L149   (q : (St)) : ∀ (n : Nat) (v1 : Int32) (σ : St), fX9_digest_L149 n v1 σ = some q → Fr ([]) σ q := by
  intro n
  induction n with
  | zero =>
    intro v1 σ hf
    simp only [fX9_digest_L149] at hf
    exact absurd hf (by simp)
  | succ n ih =>
    intro v1 σ hf
    rw [fX9_digest_L149] at hf
    by_cases hc36 : (σ.1 58 1) ≤ v1
    · rw [if_pos hc36] at hf
      have hq := Option.some.inj hf
      rw [← hq]
      exact fr_rfl
    · rw [if_neg hc36] at hf
      obtain ⟨hb37, hf⟩ := grd_elim hf
      obtain ⟨q38, hq38, hf⟩ := obind hf
      have fq38 : Fr ([]) σ q38 := fr_tr fr_rfl (frX9_say ((σ.1 59 v1.toNatClampNeg).toInt64) σ _ hq38) (by intro x9 hx9; first | exact absurd hx9 List.not_mem_nil | exact hx9 | (simp [gk] at hx9 ⊢; omega) | (simp only [gk, List.mem_append, List.mem_cons, List.not_mem_nil, or_false, false_or] at hx9 ⊢; omega))
      exact fr_trS fq38 (ih (v1 + (1 : Int32)) q38 hf)
set_option maxHeartbeats 4000000 in
theorem frX9_digest_L176   (q : (St)) : ∀ (n : Nat) (v1 : Int32) (σ : St), fX9_digest_L176 n v1 σ = some q → Fr ([]) σ q := by
  intro n
  induction n with
  | zero =>
    intro v1 σ hf
    simp only [fX9_digest_L176] at hf
    exact absurd hf (by simp)
  | succ n ih =>
    intro v1 σ hf
    rw [fX9_digest_L176] at hf
    by_cases hc42 : (7 : Int32) ≤ v1
    · rw [if_pos hc42] at hf
      have hq := Option.some.inj hf
      rw [← hq]
      exact fr_rfl
    · rw [if_neg hc42] at hf
      obtain ⟨q43, hq43, hf⟩ := obind hf
      obtain ⟨q44, hq44, hf⟩ := obind hf
      have fq44 : Fr ([]) σ q44 := fr_tr fr_rfl (frX9_say q43.toInt64 σ _ hq44) (by intro x9 hx9; first | exact absurd hx9 List.not_mem_nil | exact hx9 | (simp [gk] at hx9 ⊢; omega) | (simp only [gk, List.mem_append, List.mem_cons, List.not_mem_nil, or_false, false_or] at hx9 ⊢; omega))
      exact fr_trS fq44 (ih (v1 + (1 : Int32)) q44 hf)
set_option maxHeartbeats 4000000 in
theorem frX9_digest  (σ : St)  (q : Int64 × St) (hf : fX9_digest σ = some q) : Fr ([70, 71]) σ q.2 := by
  unfold fX9_digest at hf
  obtain ⟨σ1, hσ1, hf⟩ := bnd_elim hf
  have fσ1 : Fr ([70, 71]) σ σ1 := by rw [hσ1]; exact fr_setL fr_rfl
  obtain ⟨q4, hr5, hf⟩ := obind hf
  have f6 : Fr ([70, 71]) σ q4 := fr_tr fσ1 (frX9_digest_L9  q4 fu (0 : Int32) σ1 hr5) (by intro x9 hx9; first | exact absurd hx9 List.not_mem_nil | exact hx9 | (simp [gk] at hx9 ⊢; omega) | (simp only [gk, List.mem_append, List.mem_cons, List.not_mem_nil, or_false, false_or] at hx9 ⊢; omega))
  obtain ⟨q16, hr17, hf⟩ := obind hf
  have f18 : Fr ([70, 71]) σ q16 := fr_tr f6 (frX9_digest_L32  q16 fu (0 : Int32) q4 hr17) (by intro x9 hx9; first | exact absurd hx9 List.not_mem_nil | exact hx9 | (simp [gk] at hx9 ⊢; omega) | (simp only [gk, List.mem_append, List.mem_cons, List.not_mem_nil, or_false, false_or] at hx9 ⊢; omega))
  obtain ⟨q21, hr22, hf⟩ := obind hf
  have f23 : Fr ([70, 71]) σ q21 := fr_tr f18 (frX9_digest_L82  q21 fu (0 : Int32) q16 hr22) (by intro x9 hx9; first | exact absurd hx9 List.not_mem_nil | exact hx9 | (simp [gk] at hx9 ⊢; omega) | (simp only [gk, List.mem_append, List.mem_cons, List.not_mem_nil, or_false, false_or] at hx9 ⊢; omega))
  obtain ⟨q24, hq24, hf⟩ := obind hf
  obtain ⟨q25, hq25, hf⟩ := obind hf
  have fq25 : Fr ([70, 71]) σ q25 := fr_tr f23 (frX9_say q24.toInt64 q21 _ hq25) (by intro x9 hx9; first | exact absurd hx9 List.not_mem_nil | exact hx9 | (simp [gk] at hx9 ⊢; omega) | (simp only [gk, List.mem_append, List.mem_cons, List.not_mem_nil, or_false, false_or] at hx9 ⊢; omega))
  obtain ⟨q26, hq26, hf⟩ := obind hf
  have fq26 : Fr ([70, 71]) σ q26.2 := fr_tr fq25 (frX9_tellRound (0 : Int32) q25 _ hq26) (by intro x9 hx9; first | exact absurd hx9 List.not_mem_nil | exact hx9 | (simp [gk] at hx9 ⊢; omega) | (simp only [gk, List.mem_append, List.mem_cons, List.not_mem_nil, or_false, false_or] at hx9 ⊢; omega))
  obtain ⟨q27, hq27, hf⟩ := obind hf
  have fq27 : Fr ([70, 71]) σ q27 := fr_tr fq26 (frX9_say q26.1.toInt64 q26.2 _ hq27) (by intro x9 hx9; first | exact absurd hx9 List.not_mem_nil | exact hx9 | (simp [gk] at hx9 ⊢; omega) | (simp only [gk, List.mem_append, List.mem_cons, List.not_mem_nil, or_false, false_or] at hx9 ⊢; omega))
  obtain ⟨q28, hq28, hf⟩ := obind hf
  have fq28 : Fr ([70, 71]) σ q28.2 := fr_tr fq27 (frX9_tellRound (1 : Int32) q27 _ hq28) (by intro x9 hx9; first | exact absurd hx9 List.not_mem_nil | exact hx9 | (simp [gk] at hx9 ⊢; omega) | (simp only [gk, List.mem_append, List.mem_cons, List.not_mem_nil, or_false, false_or] at hx9 ⊢; omega))
  obtain ⟨q29, hq29, hf⟩ := obind hf
  have fq29 : Fr ([70, 71]) σ q29 := fr_tr fq28 (frX9_say q28.1.toInt64 q28.2 _ hq29) (by intro x9 hx9; first | exact absurd hx9 List.not_mem_nil | exact hx9 | (simp [gk] at hx9 ⊢; omega) | (simp only [gk, List.mem_append, List.mem_cons, List.not_mem_nil, or_false, false_or] at hx9 ⊢; omega))
  obtain ⟨q31, hr32, hf⟩ := obind hf
  have f33 : Fr ([70, 71]) σ q31 := by
    clear hf
    have hf := hr32
    clear hr32
    by_cases hc30 : (q29.1 58 33) = (-1 : Int32)
    · rw [if_pos hc30] at hf
      have hq := Option.some.inj hf
      subst hq
      exact fq29
    · rw [if_neg hc30] at hf
      obtain ⟨q34, hq34, hf⟩ := obind hf
      have fq34 : Fr ([70, 71]) σ q34.2 := fr_tr fq29 (frX9_filledOf q29 _ hq34) (by intro x9 hx9; first | exact absurd hx9 List.not_mem_nil | exact hx9 | (simp [gk] at hx9 ⊢; omega) | (simp only [gk, List.mem_append, List.mem_cons, List.not_mem_nil, or_false, false_or] at hx9 ⊢; omega))
      obtain ⟨q35, hq35, hf⟩ := obind hf
      have fq35 : Fr ([70, 71]) σ q35 := fr_tr fq34 (frX9_say q34.1.toInt64 q34.2 _ hq35) (by intro x9 hx9; first | exact absurd hx9 List.not_mem_nil | exact hx9 | (simp [gk] at hx9 ⊢; omega) | (simp only [gk, List.mem_append, List.mem_cons, List.not_mem_nil, or_false, false_or] at hx9 ⊢; omega))
      have hq := Option.some.inj hf
      subst hq
      exact fq35
  obtain ⟨q39, hr40, hf⟩ := obind hf
  have f41 : Fr ([70, 71]) σ q39 := fr_tr f33 (frX9_digest_L149  q39 fu (0 : Int32) q31 hr40) (by intro x9 hx9; first | exact absurd hx9 List.not_mem_nil | exact hx9 | (simp [gk] at hx9 ⊢; omega) | (simp only [gk, List.mem_append, List.mem_cons, List.not_mem_nil, or_false, false_or] at hx9 ⊢; omega))
  obtain ⟨q45, hr46, hf⟩ := obind hf
  have f47 : Fr ([70, 71]) σ q45 := fr_tr f41 (frX9_digest_L176  q45 fu (0 : Int32) q39 hr46) (by intro x9 hx9; first | exact absurd hx9 List.not_mem_nil | exact hx9 | (simp [gk] at hx9 ⊢; omega) | (simp only [gk, List.mem_append, List.mem_cons, List.not_mem_nil, or_false, false_or] at hx9 ⊢; omega))
  have hq := Option.some.inj hf
  subst hq
  exact f47
