/-! which ints a method may write: keys are cells' numbers, of the reference's object 100 and its slot -/
def key (a b : Nat) : Nat := if a = 58 then 100 + b else a
theorem key_58 (b : Nat) : key 58 b = 100 + b := rfl
theorem key_ne {a b : Nat} (h : a ≠ 58) : key a b = a := by simp [key, h]
def gk (w : Nat) : List Nat := [w + 7, w + 8, w + 9, w + 10, w + 11, w + 12, w + 13, w + 14]
def Fr (ks : List Nat) (σ τ : St) : Prop := ∀ a b, key a b ∉ ks → τ.1 a b = σ.1 a b
theorem fr_rfl {ks : List Nat} {σ : St} : Fr ks σ σ := fun _ _ _ => rfl
theorem fr_setI {ks : List Nat} {σ τ : St} {i k : Nat} {v : Int32} (h : Fr ks σ τ) (hk : key i k ∈ ks) : Fr ks σ (setI τ i k v) := fun a b hn => by
  by_cases e : a = i ∧ b = k
  · obtain ⟨rfl, rfl⟩ := e; exact absurd hk hn
  · simp only [setI, if_neg e]; exact h a b hn
theorem fr_setL {ks : List Nat} {σ τ : St} {i k : Nat} {v : Int64} (h : Fr ks σ τ) : Fr ks σ (setL τ i k v) := fun a b hn => h a b hn
theorem fr_cpyL {ks : List Nat} {σ τ : St} {i j n : Nat} (h : Fr ks σ τ) : Fr ks σ (cpyL τ i j n) := fun a b hn => h a b hn
theorem fr_cpyI {ks : List Nat} {σ τ : St} {i j n : Nat} (h : Fr ks σ τ) (hk : ∀ b, key j b ∈ ks) : Fr ks σ (cpyI τ i j n) := fun a b hn => by
  by_cases e : a = j ∧ b < n
  · obtain ⟨rfl, -⟩ := e; exact absurd (hk b) hn
  · simp only [cpyI, if_neg e]; exact h a b hn
theorem fr_tr {ks k1 : List Nat} {σ τ υ : St} (h : Fr ks σ τ) (h1 : Fr k1 τ υ) (hs : ∀ x, x ∈ k1 → x ∈ ks) : Fr ks σ υ := fun a b hn => (h1 a b (fun z => hn (hs _ z))).trans (h a b hn)
theorem fr_trS {ks : List Nat} {σ τ υ : St} (h : Fr ks σ τ) (h1 : Fr ks τ υ) : Fr ks σ υ := fr_tr h h1 (fun _ z => z)
theorem fr_trB {ks : List Nat} {σ τ : St} {A B : Type} {f : A → St} {g : B → St} {q : Sum A B} (h : Fr ks σ τ) (h1 : (∀ z, q = .inl z → Fr ks τ (f z)) ∧ (∀ v, q = .inr v → Fr ks τ (g v))) : (∀ z, q = .inl z → Fr ks σ (f z)) ∧ (∀ v, q = .inr v → Fr ks σ (g v)) := ⟨fun z hz => fr_trS h (h1.1 z hz), fun v hv => fr_trS h (h1.2 v hv)⟩
theorem gmem {w : Nat} (h : isW w) {j : Int32} (hj : inb j 8 = true) : w + 7 + j.toNatClampNeg ∈ gk w := by
  obtain ⟨k, hk, rfl⟩ := (inb_iff (by decide)).mp hj
  rw [nI_clamp (by omega)]
  simp only [gk, List.mem_cons, List.not_mem_nil, or_false]; omega
theorem keyGm {w s : Nat} (h : isW w) {j : Int32} (hj : inb j 8 = true) : key (w + 7 + j.toNatClampNeg) s ∈ gk w := by
  have hm := gmem h hj
  unfold isW at h
  rw [key_ne (by simp only [gk, List.mem_cons, List.not_mem_nil, or_false] at hm; omega)]
  exact hm
theorem obG_ne {g : Nat} (h : OB K58 g 3 8) : g ≠ 58 := by rintro rfl; exact absurd h.2.2.1 (by decide)

set_option maxHeartbeats 4000000 in
theorem frX5_append_L3 (c1 : Int64) (c3 : Int32)  (q : (St)) : ∀ (n : Nat) (v4 : Int32) (σ : St), fX5_append_L3 c1 c3 n v4 σ = some q → Fr ([2, 1]) σ q := by
  intro n
  induction n with
  | zero =>
    intro v4 σ hf
    simp only [fX5_append_L3] at hf
    exact absurd hf (by simp)
  | succ n ih =>
    intro v4 σ hf
    rw [fX5_append_L3] at hf
    by_cases hc1 : c3 ≤ v4
    · rw [if_pos hc1] at hf
      have hq := Option.some.inj hf
      rw [← hq]
      exact fr_rfl
    · rw [if_neg hc1] at hf
      by_cases hc2 : (16 : Int32) ≤ (σ.1 1 1)
      · rw [if_pos hc2] at hf
        have hq := Option.some.inj hf
        rw [← hq]
        exact fr_rfl
      · rw [if_neg hc2] at hf
        obtain ⟨hb3, hf⟩ := grd_elim hf
        obtain ⟨σ4, hσ4, hf⟩ := bnd_elim hf
        have fσ4 : Fr ([2, 1]) σ σ4 := by rw [hσ4]; exact fr_setI fr_rfl (by rw [key_ne (by decide)]; first | decide | (simp [gk]; done) | (simp only [gk, List.mem_append, List.mem_cons, List.not_mem_nil, or_false, false_or]; omega))
        obtain ⟨σ5, hσ5, hf⟩ := bnd_elim hf
        have fσ5 : Fr ([2, 1]) σ σ5 := by rw [hσ5]; exact fr_setI fσ4 (by rw [key_ne (by decide)]; first | decide | (simp [gk]; done) | (simp only [gk, List.mem_append, List.mem_cons, List.not_mem_nil, or_false, false_or]; omega))
        exact fr_trS fσ5 (ih (v4 + (1 : Int32)) σ5 hf)
set_option maxHeartbeats 4000000 in
theorem frX5_append (p1 : Int64) (p3 : Int32) (σ : St)  (q : St) (hf : fX5_append p1 p3 σ = some q) : Fr ([2, 1]) σ q := by
  unfold fX5_append at hf
  obtain ⟨q6, hr7, hf⟩ := obind hf
  have f8 : Fr ([2, 1]) σ q6 := fr_tr fr_rfl (frX5_append_L3 p1 p3 q6 fu (0 : Int32) σ hr7) (by intro x9 hx9; first | exact absurd hx9 List.not_mem_nil | exact hx9 | (simp [gk] at hx9 ⊢; omega) | (simp only [gk, List.mem_append, List.mem_cons, List.not_mem_nil, or_false, false_or] at hx9 ⊢; omega))
  have hq := Option.some.inj hf
  subst hq
  exact f8
set_option maxHeartbeats 4000000 in
theorem frX8_letters (p1 : Int64) (σ : St)  (q : Int32 × St) (hf : fX8_letters p1 σ = some q) : Fr ([2, 1]) σ q.2 := by
  unfold fX8_letters at hf
  obtain ⟨q1, hq1, hf⟩ := obind hf
  by_cases hc2 : q1 = (-1 : Int32)
  · rw [if_pos hc2] at hf
    have hq := Option.some.inj hf
    subst hq
    exact fr_rfl
  · rw [if_neg hc2] at hf
    by_cases hc3 : ((σ.1 1 1) + q1) ≤ (16 : Int32)
    · rw [if_pos hc3] at hf
      obtain ⟨q4, hq4, hf⟩ := obind hf
      have fq4 : Fr ([2, 1]) σ q4 := fr_tr fr_rfl (frX5_append p1 q1 σ _ hq4) (by intro x9 hx9; first | exact absurd hx9 List.not_mem_nil | exact hx9 | (simp [gk] at hx9 ⊢; omega) | (simp only [gk, List.mem_append, List.mem_cons, List.not_mem_nil, or_false, false_or] at hx9 ⊢; omega))
      have hq := Option.some.inj hf
      subst hq
      exact fq4
    · rw [if_neg hc3] at hf
      have hq := Option.some.inj hf
      subst hq
      exact fr_rfl
set_option maxHeartbeats 4000000 in
theorem frX4_readFrom_L24   (q : (St)) : ∀ (n : Nat) (v2 : Int32) (v3 : Int32) (σ : St), fX4_readFrom_L24 n v2 v3 σ = some q → Fr ([3]) σ q := by
  intro n
  induction n with
  | zero =>
    intro v2 v3 σ hf
    simp only [fX4_readFrom_L24] at hf
    exact absurd hf (by simp)
  | succ n ih =>
    intro v2 v3 σ hf
    rw [fX4_readFrom_L24] at hf
    by_cases hc5 : (σ.1 1 1) ≤ v3
    · rw [if_pos hc5] at hf
      have hq := Option.some.inj hf
      rw [← hq]
      exact fr_rfl
    · rw [if_neg hc5] at hf
      by_cases hc6 : (16 : Int32) ≤ v3
      · rw [if_pos hc6] at hf
        have hq := Option.some.inj hf
        rw [← hq]
        exact fr_rfl
      · rw [if_neg hc6] at hf
        obtain ⟨hb7, hf⟩ := grd_elim hf
        obtain ⟨x8, hx8, hf⟩ := bnd_elim hf
        obtain ⟨q10, hr11, hf⟩ := obind hf
        have f12 : Fr ([3]) σ q10 := by
          clear hf
          have hf := hr11
          clear hr11
          by_cases hc9 : v2 = (107 : Int32)
          · rw [if_pos hc9] at hf
            obtain ⟨σ13, hσ13, hf⟩ := bnd_elim hf
            have fσ13 : Fr ([3]) σ σ13 := by rw [hσ13]; exact fr_setI fr_rfl (by rw [key_ne (by decide)]; first | decide | (simp [gk]; done) | (simp only [gk, List.mem_append, List.mem_cons, List.not_mem_nil, or_false, false_or]; omega))
            have hq := Option.some.inj hf
            subst hq
            exact fσ13
          · rw [if_neg hc9] at hf
            by_cases hc14 : v2 = (119 : Int32)
            · rw [if_pos hc14] at hf
              obtain ⟨σ15, hσ15, hf⟩ := bnd_elim hf
              have fσ15 : Fr ([3]) σ σ15 := by rw [hσ15]; exact fr_setI fr_rfl (by rw [key_ne (by decide)]; first | decide | (simp [gk]; done) | (simp only [gk, List.mem_append, List.mem_cons, List.not_mem_nil, or_false, false_or]; omega))
              have hq := Option.some.inj hf
              subst hq
              exact fσ15
            · rw [if_neg hc14] at hf
              by_cases hc16 : x8 = (98 : Int32)
              · rw [if_pos hc16] at hf
                obtain ⟨σ17, hσ17, hf⟩ := bnd_elim hf
                have fσ17 : Fr ([3]) σ σ17 := by rw [hσ17]; exact fr_setI fr_rfl (by rw [key_ne (by decide)]; first | decide | (simp [gk]; done) | (simp only [gk, List.mem_append, List.mem_cons, List.not_mem_nil, or_false, false_or]; omega))
                have hq := Option.some.inj hf
                subst hq
                exact fσ17
              · rw [if_neg hc16] at hf
                by_cases hc18 : x8 = (111 : Int32)
                · rw [if_pos hc18] at hf
                  obtain ⟨σ19, hσ19, hf⟩ := bnd_elim hf
                  have fσ19 : Fr ([3]) σ σ19 := by rw [hσ19]; exact fr_setI fr_rfl (by rw [key_ne (by decide)]; first | decide | (simp [gk]; done) | (simp only [gk, List.mem_append, List.mem_cons, List.not_mem_nil, or_false, false_or]; omega))
                  have hq := Option.some.inj hf
                  subst hq
                  exact fσ19
                · rw [if_neg hc18] at hf
                  have hq := Option.some.inj hf
                  subst hq
                  exact fr_rfl
        exact fr_trS f12 (ih x8 (v3 + (1 : Int32)) q10 hf)
set_option maxHeartbeats 4000000 in
theorem frX4_readFrom  (σ : St)  (q : St) (hf : fX4_readFrom σ = some q) : Fr ([3]) σ q := by
  unfold fX4_readFrom at hf
  obtain ⟨σ1, hσ1, hf⟩ := bnd_elim hf
  have fσ1 : Fr ([3]) σ σ1 := by rw [hσ1]; exact fr_setI fr_rfl (by rw [key_ne (by decide)]; first | decide | (simp [gk]; done) | (simp only [gk, List.mem_append, List.mem_cons, List.not_mem_nil, or_false, false_or]; omega))
  obtain ⟨σ2, hσ2, hf⟩ := bnd_elim hf
  have fσ2 : Fr ([3]) σ σ2 := by rw [hσ2]; exact fr_setI fσ1 (by rw [key_ne (by decide)]; first | decide | (simp [gk]; done) | (simp only [gk, List.mem_append, List.mem_cons, List.not_mem_nil, or_false, false_or]; omega))
  obtain ⟨σ3, hσ3, hf⟩ := bnd_elim hf
  have fσ3 : Fr ([3]) σ σ3 := by rw [hσ3]; exact fr_setI fσ2 (by rw [key_ne (by decide)]; first | decide | (simp [gk]; done) | (simp only [gk, List.mem_append, List.mem_cons, List.not_mem_nil, or_false, false_or]; omega))
  obtain ⟨σ4, hσ4, hf⟩ := bnd_elim hf
  have fσ4 : Fr ([3]) σ σ4 := by rw [hσ4]; exact fr_setI fσ3 (by rw [key_ne (by decide)]; first | decide | (simp [gk]; done) | (simp only [gk, List.mem_append, List.mem_cons, List.not_mem_nil, or_false, false_or]; omega))
  obtain ⟨q20, hr21, hf⟩ := obind hf
  have f22 : Fr ([3]) σ q20 := fr_tr fσ4 (frX4_readFrom_L24  q20 fu (0 : Int32) (0 : Int32) σ4 hr21) (by intro x9 hx9; first | exact absurd hx9 List.not_mem_nil | exact hx9 | (simp [gk] at hx9 ⊢; omega) | (simp only [gk, List.mem_append, List.mem_cons, List.not_mem_nil, or_false, false_or] at hx9 ⊢; omega))
  have hq := Option.some.inj hf
  subst hq
  exact f22
set_option maxHeartbeats 4000000 in
theorem frX8_law  (σ : St)  (q : Int32 × St) (hf : fX8_law σ = some q) : Fr ([3, 1, 0]) σ q.2 := by
  unfold fX8_law at hf
  obtain ⟨q1, hq1, hf⟩ := obind hf
  by_cases hc2 : q1 = 0
  · rw [if_pos hc2] at hf
    have hq := Option.some.inj hf
    subst hq
    exact fr_rfl
  · rw [if_neg hc2] at hf
    obtain ⟨q3, hq3, hf⟩ := obind hf
    have fq3 : Fr ([3, 1, 0]) σ q3 := fr_tr fr_rfl (frX4_readFrom σ _ hq3) (by intro x9 hx9; first | exact absurd hx9 List.not_mem_nil | exact hx9 | (simp [gk] at hx9 ⊢; omega) | (simp only [gk, List.mem_append, List.mem_cons, List.not_mem_nil, or_false, false_or] at hx9 ⊢; omega))
    obtain ⟨σ4, hσ4, hf⟩ := bnd_elim hf
    have fσ4 : Fr ([3, 1, 0]) σ σ4 := by rw [hσ4]; exact fr_setI fq3 (by rw [key_ne (by decide)]; first | decide | (simp [gk]; done) | (simp only [gk, List.mem_append, List.mem_cons, List.not_mem_nil, or_false, false_or]; omega))
    obtain ⟨σ5, hσ5, hf⟩ := bnd_elim hf
    have fσ5 : Fr ([3, 1, 0]) σ σ5 := by rw [hσ5]; exact fr_setI fσ4 (by rw [key_ne (by decide)]; first | decide | (simp [gk]; done) | (simp only [gk, List.mem_append, List.mem_cons, List.not_mem_nil, or_false, false_or]; omega))
    have hq := Option.some.inj hf
    subst hq
    exact fσ5
set_option maxHeartbeats 4000000 in
theorem frX7_addPerson (w : Nat) (p1 : Int32) (σ : St) (hw : isW w) (q : Int32 × St) (hf : fX7_addPerson w p1 σ = some q) : Fr ([w + 1, w]) σ q.2 := by
  unfold fX7_addPerson at hf
  obtain ⟨hb1, hf⟩ := grd_elim hf
  obtain ⟨σ2, hσ2, hf⟩ := bnd_elim hf
  have fσ2 : Fr ([w + 1, w]) σ σ2 := by rw [hσ2]; exact fr_setI fr_rfl (by have hw9 := hw; unfold isW at hw9; rw [key_ne (by omega)]; first | (simp [gk]; done) | (simp only [gk, List.mem_append, List.mem_cons, List.not_mem_nil, or_false, false_or]; omega))
  obtain ⟨σ3, hσ3, hf⟩ := bnd_elim hf
  have fσ3 : Fr ([w + 1, w]) σ σ3 := by rw [hσ3]; exact fr_setI fσ2 (by have hw9 := hw; unfold isW at hw9; rw [key_ne (by omega)]; first | (simp [gk]; done) | (simp only [gk, List.mem_append, List.mem_cons, List.not_mem_nil, or_false, false_or]; omega))
  have hq := Option.some.inj hf
  subst hq
  exact fσ3
set_option maxHeartbeats 4000000 in
theorem frX8_person (p1 : Int32) (σ : St)  (q : Int32 × St) (hf : fX8_person p1 σ = some q) : Fr ([5, 4]) σ q.2 := by
  unfold fX8_person at hf
  by_cases hc1 : (fX8_within p1 (0 : Int32) (3 : Int32)) = 0
  · rw [if_pos hc1] at hf
    have hq := Option.some.inj hf
    subst hq
    exact fr_rfl
  · rw [if_neg hc1] at hf
    by_cases hc2 : (σ.1 4 0) < (8 : Int32)
    · rw [if_pos hc2] at hf
      obtain ⟨q3, hq3, hf⟩ := obind hf
      have fq3 : Fr ([5, 4]) σ q3.2 := fr_tr fr_rfl (frX7_addPerson 4 p1 σ isW_4 _ hq3) (by intro x9 hx9; first | exact absurd hx9 List.not_mem_nil | exact hx9 | (simp [gk] at hx9 ⊢; omega) | (simp only [gk, List.mem_append, List.mem_cons, List.not_mem_nil, or_false, false_or] at hx9 ⊢; omega))
      have hq := Option.some.inj hf
      subst hq
      exact fq3
    · rw [if_neg hc2] at hf
      have hq := Option.some.inj hf
      subst hq
      exact fr_rfl
set_option maxHeartbeats 4000000 in
theorem frX7_setKnown (w : Nat) (p1 : Int32) (p2 : Int32) (p3 : Int32) (σ : St) (hw : isW w) (q : St) (hf : fX7_setKnown w p1 p2 p3 σ = some q) : Fr ([w + 2]) σ q := by
  unfold fX7_setKnown at hf
  obtain ⟨q2, hr3, hf⟩ := obind hf
  obtain ⟨hb4, hf⟩ := grd_elim hf
  obtain ⟨σ5, hσ5, hf⟩ := bnd_elim hf
  have fσ5 : Fr ([w + 2]) σ σ5 := by rw [hσ5]; exact fr_setI fr_rfl (by have hw9 := hw; unfold isW at hw9; rw [key_ne (by omega)]; first | (simp [gk]; done) | (simp only [gk, List.mem_append, List.mem_cons, List.not_mem_nil, or_false, false_or]; omega))
  obtain ⟨q7, hr8, hf⟩ := obind hf
  obtain ⟨hb9, hf⟩ := grd_elim hf
  obtain ⟨σ10, hσ10, hf⟩ := bnd_elim hf
  have fσ10 : Fr ([w + 2]) σ σ10 := by rw [hσ10]; exact fr_setI fσ5 (by have hw9 := hw; unfold isW at hw9; rw [key_ne (by omega)]; first | (simp [gk]; done) | (simp only [gk, List.mem_append, List.mem_cons, List.not_mem_nil, or_false, false_or]; omega))
  have hq := Option.some.inj hf
  subst hq
  exact fσ10
set_option maxHeartbeats 4000000 in
theorem frX8_know (p1 : Int32) (p2 : Int32) (p3 : Int32) (σ : St)  (q : Int32 × St) (hf : fX8_know p1 p2 p3 σ = some q) : Fr ([6]) σ q.2 := by
  unfold fX8_know at hf
  by_cases hc1 : (fX8_areTwo p1 p2 σ) = 0
  · rw [if_pos hc1] at hf
    have hq := Option.some.inj hf
    subst hq
    exact fr_rfl
  · rw [if_neg hc1] at hf
    obtain ⟨q2, hq2, hf⟩ := obind hf
    obtain ⟨x4, hx4, hf⟩ := bnd_elim hf
    obtain ⟨q5, hq5, hf⟩ := obind hf
    have fq5 : Fr ([6]) σ q5 := fr_tr fr_rfl (frX7_setKnown 4 p1 p2 p3 σ isW_4 _ hq5) (by intro x9 hx9; first | exact absurd hx9 List.not_mem_nil | exact hx9 | (simp [gk] at hx9 ⊢; omega) | (simp only [gk, List.mem_append, List.mem_cons, List.not_mem_nil, or_false, false_or] at hx9 ⊢; omega))
    have hq := Option.some.inj hf
    subst hq
    exact fq5
set_option maxHeartbeats 4000000 in
theorem frX8_like (p1 : Int32) (p2 : Int32) (p3 : Int32) (σ : St)  (q : Int32 × St) (hf : fX8_like p1 p2 p3 σ = some q) : Fr ([8]) σ q.2 := by
  unfold fX8_like at hf
  by_cases hc1 : (fX8_areTwo p1 p2 σ) = 0
  · rw [if_pos hc1] at hf
    have hq := Option.some.inj hf
    subst hq
    exact fr_rfl
  · rw [if_neg hc1] at hf
    by_cases hc2 : (fX8_within p3 (0 : Int32) (9 : Int32)) = 0
    · rw [if_pos hc2] at hf
      have hq := Option.some.inj hf
      subst hq
      exact fr_rfl
    · rw [if_neg hc2] at hf
      obtain ⟨hb3, hf⟩ := grd_elim hf
      obtain ⟨x4, hx4, hf⟩ := bnd_elim hf
      obtain ⟨hb5, hf⟩ := grd_elim hf
      obtain ⟨σ6, hσ6, hf⟩ := bnd_elim hf
      have fσ6 : Fr ([8]) σ σ6 := by rw [hσ6]; exact fr_setI fr_rfl (by rw [key_ne (by decide)]; first | decide | (simp [gk]; done) | (simp only [gk, List.mem_append, List.mem_cons, List.not_mem_nil, or_false, false_or]; omega))
      have hq := Option.some.inj hf
      subst hq
      exact fσ6
set_option maxHeartbeats 4000000 in
theorem frX3_begin (g : Nat) (p1 : Int32) (p2 : Int32) (σ : St) (hg : OB K58 g 3 8) (q : St) (hf : fX3_begin g p1 p2 σ = some q) : Fr ([g]) σ q := by
  unfold fX3_begin at hf
  obtain ⟨σ1, hσ1, hf⟩ := bnd_elim hf
  have fσ1 : Fr ([g]) σ σ1 := by rw [hσ1]; exact fr_setI fr_rfl (by rw [key_ne (obG_ne hg)]; first | (simp [gk]; done) | (simp only [gk, List.mem_append, List.mem_cons, List.not_mem_nil, or_false, false_or]; omega))
  obtain ⟨σ2, hσ2, hf⟩ := bnd_elim hf
  have fσ2 : Fr ([g]) σ σ2 := by rw [hσ2]; exact fr_setI fσ1 (by rw [key_ne (obG_ne hg)]; first | (simp [gk]; done) | (simp only [gk, List.mem_append, List.mem_cons, List.not_mem_nil, or_false, false_or]; omega))
  obtain ⟨σ3, hσ3, hf⟩ := bnd_elim hf
  have fσ3 : Fr ([g]) σ σ3 := by rw [hσ3]; exact fr_setI fσ2 (by rw [key_ne (obG_ne hg)]; first | (simp [gk]; done) | (simp only [gk, List.mem_append, List.mem_cons, List.not_mem_nil, or_false, false_or]; omega))
  obtain ⟨σ4, hσ4, hf⟩ := bnd_elim hf
  have fσ4 : Fr ([g]) σ σ4 := by rw [hσ4]; exact fr_setI fσ3 (by rw [key_ne (obG_ne hg)]; first | (simp [gk]; done) | (simp only [gk, List.mem_append, List.mem_cons, List.not_mem_nil, or_false, false_or]; omega))
  obtain ⟨σ5, hσ5, hf⟩ := bnd_elim hf
  have fσ5 : Fr ([g]) σ σ5 := by rw [hσ5]; exact fr_setI fσ4 (by rw [key_ne (obG_ne hg)]; first | (simp [gk]; done) | (simp only [gk, List.mem_append, List.mem_cons, List.not_mem_nil, or_false, false_or]; omega))
  obtain ⟨σ6, hσ6, hf⟩ := bnd_elim hf
  have fσ6 : Fr ([g]) σ σ6 := by rw [hσ6]; exact fr_setI fσ5 (by rw [key_ne (obG_ne hg)]; first | (simp [gk]; done) | (simp only [gk, List.mem_append, List.mem_cons, List.not_mem_nil, or_false, false_or]; omega))
  obtain ⟨σ7, hσ7, hf⟩ := bnd_elim hf
  have fσ7 : Fr ([g]) σ σ7 := by rw [hσ7]; exact fr_setI fσ6 (by rw [key_ne (obG_ne hg)]; first | (simp [gk]; done) | (simp only [gk, List.mem_append, List.mem_cons, List.not_mem_nil, or_false, false_or]; omega))
  obtain ⟨σ8, hσ8, hf⟩ := bnd_elim hf
  have fσ8 : Fr ([g]) σ σ8 := by rw [hσ8]; exact fr_setI fσ7 (by rw [key_ne (obG_ne hg)]; first | (simp [gk]; done) | (simp only [gk, List.mem_append, List.mem_cons, List.not_mem_nil, or_false, false_or]; omega))
  have hq := Option.some.inj hf
  subst hq
  exact fσ8
set_option maxHeartbeats 4000000 in
theorem frX7_addGift (w : Nat) (p1 : Int32) (p2 : Int32) (σ : St) (hw : isW w) (q : Int32 × St) (hf : fX7_addGift w p1 p2 σ = some q) : Fr ([w] ++ gk w) σ q.2 := by
  unfold fX7_addGift at hf
  obtain ⟨hb1, hf⟩ := grd_elim hf
  obtain ⟨q2, hq2, hf⟩ := obind hf
  have fq2 : Fr ([w] ++ gk w) σ q2 := fr_tr fr_rfl (frX3_begin (w + 7 + (σ.1 w 6).toNatClampNeg) p1 p2 σ (obG hw hb1) _ hq2) (by intro x9 hx9; have hk9 := gmem hw hb1; simp only [gk, List.mem_cons, List.not_mem_nil, or_false] at hk9; first | exact absurd hx9 List.not_mem_nil | exact hx9 | (simp [gk] at hx9 ⊢; omega) | (simp only [gk, List.mem_append, List.mem_cons, List.not_mem_nil, or_false, false_or] at hx9 ⊢; omega))
  obtain ⟨σ3, hσ3, hf⟩ := bnd_elim hf
  have fσ3 : Fr ([w] ++ gk w) σ σ3 := by rw [hσ3]; exact fr_setI fq2 (by have hw9 := hw; unfold isW at hw9; rw [key_ne (by omega)]; first | (simp [gk]; done) | (simp only [gk, List.mem_append, List.mem_cons, List.not_mem_nil, or_false, false_or]; omega))
  have hq := Option.some.inj hf
  subst hq
  exact fσ3
set_option maxHeartbeats 4000000 in
theorem frX8_gift (p1 : Int32) (p2 : Int32) (σ : St)  (q : Int32 × St) (hf : fX8_gift p1 p2 σ = some q) : Fr ([4] ++ gk 4) σ q.2 := by
  unfold fX8_gift at hf
  by_cases hc1 : (fX8_within p1 (0 : Int32) (4 : Int32)) = 0
  · rw [if_pos hc1] at hf
    have hq := Option.some.inj hf
    subst hq
    exact fr_rfl
  · rw [if_neg hc1] at hf
    by_cases hc2 : (fX8_isPerson p2 σ) = 0
    · rw [if_pos hc2] at hf
      have hq := Option.some.inj hf
      subst hq
      exact fr_rfl
    · rw [if_neg hc2] at hf
      by_cases hc3 : (σ.1 4 6) < (8 : Int32)
      · rw [if_pos hc3] at hf
        obtain ⟨q4, hq4, hf⟩ := obind hf
        have fq4 : Fr ([4] ++ gk 4) σ q4.2 := fr_tr fr_rfl (frX7_addGift 4 p1 p2 σ isW_4 _ hq4) (by intro x9 hx9; first | exact absurd hx9 List.not_mem_nil | exact hx9 | (simp [gk] at hx9 ⊢; omega) | (simp only [gk, List.mem_append, List.mem_cons, List.not_mem_nil, or_false, false_or] at hx9 ⊢; omega))
        have hq := Option.some.inj hf
        subst hq
        exact fq4
      · rw [if_neg hc3] at hf
        have hq := Option.some.inj hf
        subst hq
        exact fr_rfl
set_option maxHeartbeats 4000000 in
theorem frX3_moveTo (g : Nat) (p1 : Int32) (p2 : Int32) (σ : St) (hg : OB K58 g 3 8) (q : St) (hf : fX3_moveTo g p1 p2 σ = some q) : Fr ([g]) σ q := by
  unfold fX3_moveTo at hf
  obtain ⟨σ1, hσ1, hf⟩ := bnd_elim hf
  have fσ1 : Fr ([g]) σ σ1 := by rw [hσ1]; exact fr_setI fr_rfl (by rw [key_ne (obG_ne hg)]; first | (simp [gk]; done) | (simp only [gk, List.mem_append, List.mem_cons, List.not_mem_nil, or_false, false_or]; omega))
  obtain ⟨σ2, hσ2, hf⟩ := bnd_elim hf
  have fσ2 : Fr ([g]) σ σ2 := by rw [hσ2]; exact fr_setI fσ1 (by rw [key_ne (obG_ne hg)]; first | (simp [gk]; done) | (simp only [gk, List.mem_append, List.mem_cons, List.not_mem_nil, or_false, false_or]; omega))
  obtain ⟨σ3, hσ3, hf⟩ := bnd_elim hf
  have fσ3 : Fr ([g]) σ σ3 := by rw [hσ3]; exact fr_setI fσ2 (by rw [key_ne (obG_ne hg)]; first | (simp [gk]; done) | (simp only [gk, List.mem_append, List.mem_cons, List.not_mem_nil, or_false, false_or]; omega))
  obtain ⟨σ4, hσ4, hf⟩ := bnd_elim hf
  have fσ4 : Fr ([g]) σ σ4 := by rw [hσ4]; exact fr_setI fσ3 (by rw [key_ne (obG_ne hg)]; first | (simp [gk]; done) | (simp only [gk, List.mem_append, List.mem_cons, List.not_mem_nil, or_false, false_or]; omega))
  obtain ⟨q6, hr7, hf⟩ := obind hf
  have f8 : Fr ([g]) σ q6 := by
    clear hf
    have hf := hr7
    clear hr7
    by_cases hc5 : (σ4.1 g 0) = (4 : Int32)
    · rw [if_pos hc5] at hf
      obtain ⟨σ9, hσ9, hf⟩ := bnd_elim hf
      have fσ9 : Fr ([g]) σ σ9 := by rw [hσ9]; exact fr_setI fσ4 (by rw [key_ne (obG_ne hg)]; first | (simp [gk]; done) | (simp only [gk, List.mem_append, List.mem_cons, List.not_mem_nil, or_false, false_or]; omega))
      have hq := Option.some.inj hf
      subst hq
      exact fσ9
    · rw [if_neg hc5] at hf
      by_cases hc10 : (σ4.1 g 0) = (2 : Int32)
      · rw [if_pos hc10] at hf
        have hq := Option.some.inj hf
        subst hq
        exact fσ4
      · rw [if_neg hc10] at hf
        obtain ⟨σ11, hσ11, hf⟩ := bnd_elim hf
        have fσ11 : Fr ([g]) σ σ11 := by rw [hσ11]; exact fr_setI fσ4 (by rw [key_ne (obG_ne hg)]; first | (simp [gk]; done) | (simp only [gk, List.mem_append, List.mem_cons, List.not_mem_nil, or_false, false_or]; omega))
        have hq := Option.some.inj hf
        subst hq
        exact fσ11
  by_cases hc12 : (fX3_isOf g (1 : Int32) q6) = 0
  · rw [if_pos hc12] at hf
    by_cases hc13 : (q6.1 g 2) = (q6.1 g 1)
    · rw [if_pos hc13] at hf
      obtain ⟨σ14, hσ14, hf⟩ := bnd_elim hf
      have fσ14 : Fr ([g]) σ σ14 := by rw [hσ14]; exact fr_setI f8 (by rw [key_ne (obG_ne hg)]; first | (simp [gk]; done) | (simp only [gk, List.mem_append, List.mem_cons, List.not_mem_nil, or_false, false_or]; omega))
      have hq := Option.some.inj hf
      subst hq
      exact fσ14
    · rw [if_neg hc13] at hf
      have hq := Option.some.inj hf
      subst hq
      exact f8
  · rw [if_neg hc12] at hf
    by_cases hc15 : (q6.1 g 4) < p2
    · rw [if_pos hc15] at hf
      by_cases hc16 : (q6.1 g 2) = (q6.1 g 1)
      · rw [if_pos hc16] at hf
        obtain ⟨σ17, hσ17, hf⟩ := bnd_elim hf
        have fσ17 : Fr ([g]) σ σ17 := by rw [hσ17]; exact fr_setI f8 (by rw [key_ne (obG_ne hg)]; first | (simp [gk]; done) | (simp only [gk, List.mem_append, List.mem_cons, List.not_mem_nil, or_false, false_or]; omega))
        have hq := Option.some.inj hf
        subst hq
        exact fσ17
      · rw [if_neg hc16] at hf
        have hq := Option.some.inj hf
        subst hq
        exact f8
    · rw [if_neg hc15] at hf
      obtain ⟨σ18, hσ18, hf⟩ := bnd_elim hf
      have fσ18 : Fr ([g]) σ σ18 := by rw [hσ18]; exact fr_setI f8 (by rw [key_ne (obG_ne hg)]; first | (simp [gk]; done) | (simp only [gk, List.mem_append, List.mem_cons, List.not_mem_nil, or_false, false_or]; omega))
      have hq := Option.some.inj hf
      subst hq
      exact fσ18
set_option maxHeartbeats 4000000 in
theorem frX7_handOn (w : Nat) (g1 : Nat) (p2 : Int32) (p3 : Int32) (σ : St) (hw : isW w) (hg1 : OB K58 g1 3 8) (q : St) (hf : fX7_handOn w g1 p2 p3 σ = some q) : Fr ([w + 5, g1, w + 3]) σ q := by
  unfold fX7_handOn at hf
  obtain ⟨hb1, hf⟩ := grd_elim hf
  obtain ⟨hb2, hf⟩ := grd_elim hf
  obtain ⟨σ3, hσ3, hf⟩ := bnd_elim hf
  have fσ3 : Fr ([w + 5, g1, w + 3]) σ σ3 := by rw [hσ3]; exact fr_setI fr_rfl (by have hw9 := hw; unfold isW at hw9; rw [key_ne (by omega)]; first | (simp [gk]; done) | (simp only [gk, List.mem_append, List.mem_cons, List.not_mem_nil, or_false, false_or]; omega))
  obtain ⟨q4, hq4, hf⟩ := obind hf
  have fq4 : Fr ([w + 5, g1, w + 3]) σ q4 := fr_tr fσ3 (frX3_moveTo g1 p2 p3 σ3 hg1 _ hq4) (by intro x9 hx9; first | exact absurd hx9 List.not_mem_nil | exact hx9 | (simp [gk] at hx9 ⊢; omega) | (simp only [gk, List.mem_append, List.mem_cons, List.not_mem_nil, or_false, false_or] at hx9 ⊢; omega))
  by_cases hc5 : (q4.1 g1 6) = (1 : Int32)
  · rw [if_pos hc5] at hf
    obtain ⟨hb6, hf⟩ := grd_elim hf
    obtain ⟨hb7, hf⟩ := grd_elim hf
    obtain ⟨σ8, hσ8, hf⟩ := bnd_elim hf
    have fσ8 : Fr ([w + 5, g1, w + 3]) σ σ8 := by rw [hσ8]; exact fr_setI fq4 (by have hw9 := hw; unfold isW at hw9; rw [key_ne (by omega)]; first | (simp [gk]; done) | (simp only [gk, List.mem_append, List.mem_cons, List.not_mem_nil, or_false, false_or]; omega))
    have hq := Option.some.inj hf
    subst hq
    exact fσ8
  · rw [if_neg hc5] at hf
    have hq := Option.some.inj hf
    subst hq
    exact fq4
set_option maxHeartbeats 4000000 in
theorem frX8_give (p1 : Int32) (p2 : Int32) (σ : St)  (q : Int32 × St) (hf : fX8_give p1 p2 σ = some q) : Fr ([9, 7] ++ gk 4) σ q.2 := by
  unfold fX8_give at hf
  by_cases hc1 : (fX8_isGift p1 σ) = 0
  · rw [if_pos hc1] at hf
    have hq := Option.some.inj hf
    subst hq
    exact fr_rfl
  · rw [if_neg hc1] at hf
    by_cases hc2 : (fX8_isPerson p2 σ) = 0
    · rw [if_pos hc2] at hf
      have hq := Option.some.inj hf
      subst hq
      exact fr_rfl
    · rw [if_neg hc2] at hf
      obtain ⟨hb3, hf⟩ := grd_elim hf
      by_cases hc4 : (fX3_lives (4 + 7 + p1.toNatClampNeg) σ) = 0
      · rw [if_pos hc4] at hf
        have hq := Option.some.inj hf
        subst hq
        exact fr_rfl
      · rw [if_neg hc4] at hf
        obtain ⟨q5, hq5, hf⟩ := obind hf
        by_cases hc6 : (q5 &&& (fX8_bit p2)) = 0
        · rw [if_pos hc6] at hf
          have hq := Option.some.inj hf
          subst hq
          exact fr_rfl
        · rw [if_neg hc6] at hf
          obtain ⟨hb7, hf⟩ := grd_elim hf
          obtain ⟨q8, hq8, hf⟩ := obind hf
          have fq8 : Fr ([9, 7] ++ gk 4) σ q8 := fr_tr fr_rfl (frX7_handOn 4 (4 + 7 + p1.toNatClampNeg) p2 (σ.1 3 3) σ isW_4 (obG isW_4 hb7) _ hq8) (by intro x9 hx9; have hk9 := gmem isW_4 hb7; simp only [gk, List.mem_cons, List.not_mem_nil, or_false] at hk9; first | exact absurd hx9 List.not_mem_nil | exact hx9 | (simp [gk] at hx9 ⊢; omega) | (simp only [gk, List.mem_append, List.mem_cons, List.not_mem_nil, or_false, false_or] at hx9 ⊢; omega))
          obtain ⟨hb9, hf⟩ := grd_elim hf
          have hq := Option.some.inj hf
          subst hq
          exact fq8
set_option maxHeartbeats 4000000 in
theorem frX2_oneOf_L47 (c1 : Int32) (σ : St)  (q : Sum (Int32 × St) (Unit)) : ∀ (n : Nat) (v3 : Int32) (v4 : Int32), fX2_oneOf_L47 c1 σ n v3 v4 = some q → ∀ z, q = .inl z → Fr [] σ z.2 := by
  intro n
  induction n with
  | zero =>
    intro v3 v4 hf
    simp only [fX2_oneOf_L47] at hf
    exact absurd hf (by simp)
  | succ n ih =>
    intro v3 v4 hf
    rw [fX2_oneOf_L47] at hf
    by_cases hc6 : (8 : Int32) ≤ v4
    · rw [if_pos hc6] at hf
      have hq := Option.some.inj hf
      intro z hz
      rw [← hq] at hz
      cases hz
    · rw [if_neg hc6] at hf
      by_cases hc7 : (c1 &&& (fX8_bit v4)) = 0
      · rw [if_pos hc7] at hf
        exact ih v3 (v4 + (1 : Int32)) hf
      · rw [if_neg hc7] at hf
        by_cases hc8 : v3 = 0
        · rw [if_pos hc8] at hf
          have hq := Option.some.inj hf
          intro z hz
          rw [← hq] at hz
          rw [← Sum.inl.inj hz]
          exact fr_rfl
        · rw [if_neg hc8] at hf
          exact ih (v3 + (-1 : Int32)) (v4 + (1 : Int32)) hf
set_option maxHeartbeats 4000000 in
theorem frX2_oneOf (p1 : Int32) (σ : St)  (q : Int32 × St) (hf : fX2_oneOf p1 σ = some q) : Fr ([]) σ q.2 := by
  unfold fX2_oneOf at hf
  obtain ⟨x1, hx1, hf⟩ := bnd_elim hf
  by_cases hc2 : x1 = 0
  · rw [if_pos hc2] at hf
    have hq := Option.some.inj hf
    subst hq
    exact fr_rfl
  · rw [if_neg hc2] at hf
    obtain ⟨σ3, hσ3, hf⟩ := bnd_elim hf
    have fσ3 : Fr ([]) σ σ3 := by rw [hσ3]; exact fr_setL fr_rfl
    obtain ⟨hb4, hf⟩ := grd_elim hf
    obtain ⟨x5, hx5, hf⟩ := bnd_elim hf
    obtain ⟨s11, hr10, hf⟩ := obind hf
    rcases s11 with z12 | q9
    · skip
      simp only [Sum.elim_inl] at hf
      have hq := Option.some.inj hf
      subst hq
      exact (fr_tr fσ3 (frX2_oneOf_L47 p1 σ3  _ fu x5 (0 : Int32) hr10 _ rfl) (by intro x9 hx9; first | exact absurd hx9 List.not_mem_nil | exact hx9 | (simp [gk] at hx9 ⊢; omega) | (simp only [gk, List.mem_append, List.mem_cons, List.not_mem_nil, or_false, false_or] at hx9 ⊢; omega)))
    · simp only [Sum.elim_inr] at hf
      have hq := Option.some.inj hf
      subst hq
      exact fσ3
set_option maxHeartbeats 4000000 in
theorem frX7_passYear_L12 (w0 : Nat) (hw0 : isW w0) (q : (St)) : ∀ (n : Nat) (v3 : Int32) (σ : St), fX7_passYear_L12 w0 n v3 σ = some q → Fr ([] ++ gk w0) σ q := by
  intro n
  induction n with
  | zero =>
    intro v3 σ hf
    simp only [fX7_passYear_L12] at hf
    exact absurd hf (by simp)
  | succ n ih =>
    intro v3 σ hf
    rw [fX7_passYear_L12] at hf
    by_cases hc2 : (σ.1 w0 6) ≤ v3
    · rw [if_pos hc2] at hf
      have hq := Option.some.inj hf
      rw [← hq]
      exact fr_rfl
    · rw [if_neg hc2] at hf
      obtain ⟨hb3, hf⟩ := grd_elim hf
      by_cases hc4 : (fX3_lives (w0 + 7 + v3.toNatClampNeg) σ) = 0
      · rw [if_pos hc4] at hf
        exact fr_trS fr_rfl (ih (v3 + (1 : Int32)) σ hf)
      · rw [if_neg hc4] at hf
        obtain ⟨hb5, hf⟩ := grd_elim hf
        obtain ⟨σ6, hσ6, hf⟩ := bnd_elim hf
        have fσ6 : Fr ([] ++ gk w0) σ σ6 := by rw [hσ6]; exact fr_setI fr_rfl (by have hk9 := keyGm (s := 5) hw0 hb5; first | exact hk9 | (simp [gk] at hk9 ⊢; omega))
        exact fr_trS fσ6 (ih (v3 + (1 : Int32)) σ6 hf)
set_option maxHeartbeats 4000000 in
theorem frX7_passYear_L61 (w0 : Nat) (hw0 : isW w0) (q : (Int32 × St)) : ∀ (n : Nat) (v3 : Int32) (v4 : Int32) (v5 : Int32) (σ : St), fX7_passYear_L61 w0 n v3 v4 v5 σ = some q → Fr ([w0 + 5, w0 + 3] ++ gk w0) σ q.2 := by
  intro n
  induction n with
  | zero =>
    intro v3 v4 v5 σ hf
    simp only [fX7_passYear_L61] at hf
    exact absurd hf (by simp)
  | succ n ih =>
    intro v3 v4 v5 σ hf
    rw [fX7_passYear_L61] at hf
    by_cases hc10 : (σ.1 w0 6) ≤ v5
    · rw [if_pos hc10] at hf
      have hq := Option.some.inj hf
      rw [← hq]
      exact fr_rfl
    · rw [if_neg hc10] at hf
      obtain ⟨hb11, hf⟩ := grd_elim hf
      obtain ⟨x12, hx12, hf⟩ := bnd_elim hf
      obtain ⟨hb13, hf⟩ := grd_elim hf
      by_cases hc14 : (fX3_mustGo (w0 + 7 + v5.toNatClampNeg) (σ.1 3 0) σ) = 0
      · rw [if_pos hc14] at hf
        exact fr_trS fr_rfl (ih v3 v4 (v5 + (1 : Int32)) σ hf)
      · rw [if_neg hc14] at hf
        by_cases hc15 : (σ.1 3 2) = 0
        · rw [if_pos hc15] at hf
          obtain ⟨hb16, hf⟩ := grd_elim hf
          obtain ⟨q17, hq17, hf⟩ := obind hf
          by_cases hc18 : q17 = 0
          · rw [if_pos hc18] at hf
            exact fr_trS fr_rfl (ih v3 v4 (v5 + (1 : Int32)) σ hf)
          · rw [if_neg hc18] at hf
            obtain ⟨q19, hq19, hf⟩ := obind hf
            have fq19 : Fr ([w0 + 5, w0 + 3] ++ gk w0) σ q19.2 := fr_tr fr_rfl (frX2_oneOf q17 σ _ hq19) (by intro x9 hx9; first | exact absurd hx9 List.not_mem_nil | exact hx9 | (simp [gk] at hx9 ⊢; omega) | (simp only [gk, List.mem_append, List.mem_cons, List.not_mem_nil, or_false, false_or] at hx9 ⊢; omega))
            by_cases hc20 : q19.1 = (-1 : Int32)
            · rw [if_pos hc20] at hf
              exact fr_trS fq19 (ih v3 v4 (v5 + (1 : Int32)) q19.2 hf)
            · rw [if_neg hc20] at hf
              obtain ⟨hb21, hf⟩ := grd_elim hf
              obtain ⟨q22, hq22, hf⟩ := obind hf
              have fq22 : Fr ([w0 + 5, w0 + 3] ++ gk w0) σ q22 := fr_tr fq19 (frX7_handOn w0 (w0 + 7 + v5.toNatClampNeg) q19.1 (q19.2.1 3 3) q19.2 hw0 (obG hw0 hb21) _ hq22) (by intro x9 hx9; have hk9 := gmem hw0 hb21; simp only [gk, List.mem_cons, List.not_mem_nil, or_false] at hk9; first | exact absurd hx9 List.not_mem_nil | exact hx9 | (simp [gk] at hx9 ⊢; omega) | (simp only [gk, List.mem_append, List.mem_cons, List.not_mem_nil, or_false, false_or] at hx9 ⊢; omega))
              exact fr_trS fq22 (ih (v3 + (1 : Int32)) (v4 ||| (fX8_bit x12)) (v5 + (1 : Int32)) q22 hf)
        · rw [if_neg hc15] at hf
          by_cases hc23 : (v4 &&& (fX8_bit x12)) = 0
          · rw [if_pos hc23] at hf
            obtain ⟨hb24, hf⟩ := grd_elim hf
            obtain ⟨q25, hq25, hf⟩ := obind hf
            by_cases hc26 : q25 = 0
            · rw [if_pos hc26] at hf
              exact fr_trS fr_rfl (ih v3 v4 (v5 + (1 : Int32)) σ hf)
            · rw [if_neg hc26] at hf
              obtain ⟨q27, hq27, hf⟩ := obind hf
              have fq27 : Fr ([w0 + 5, w0 + 3] ++ gk w0) σ q27.2 := fr_tr fr_rfl (frX2_oneOf q25 σ _ hq27) (by intro x9 hx9; first | exact absurd hx9 List.not_mem_nil | exact hx9 | (simp [gk] at hx9 ⊢; omega) | (simp only [gk, List.mem_append, List.mem_cons, List.not_mem_nil, or_false, false_or] at hx9 ⊢; omega))
              by_cases hc28 : q27.1 = (-1 : Int32)
              · rw [if_pos hc28] at hf
                exact fr_trS fq27 (ih v3 v4 (v5 + (1 : Int32)) q27.2 hf)
              · rw [if_neg hc28] at hf
                obtain ⟨hb29, hf⟩ := grd_elim hf
                obtain ⟨q30, hq30, hf⟩ := obind hf
                have fq30 : Fr ([w0 + 5, w0 + 3] ++ gk w0) σ q30 := fr_tr fq27 (frX7_handOn w0 (w0 + 7 + v5.toNatClampNeg) q27.1 (q27.2.1 3 3) q27.2 hw0 (obG hw0 hb29) _ hq30) (by intro x9 hx9; have hk9 := gmem hw0 hb29; simp only [gk, List.mem_cons, List.not_mem_nil, or_false] at hk9; first | exact absurd hx9 List.not_mem_nil | exact hx9 | (simp [gk] at hx9 ⊢; omega) | (simp only [gk, List.mem_append, List.mem_cons, List.not_mem_nil, or_false, false_or] at hx9 ⊢; omega))
                exact fr_trS fq30 (ih (v3 + (1 : Int32)) (v4 ||| (fX8_bit x12)) (v5 + (1 : Int32)) q30 hf)
          · rw [if_neg hc23] at hf
            exact fr_trS fr_rfl (ih v3 v4 (v5 + (1 : Int32)) σ hf)
set_option maxHeartbeats 4000000 in
theorem frX7_passYear (w : Nat) (σ : St) (hw : isW w) (q : Int32 × St) (hf : fX7_passYear w σ = some q) : Fr ([w, w + 5, w + 3] ++ gk w) σ q.2 := by
  unfold fX7_passYear at hf
  obtain ⟨σ1, hσ1, hf⟩ := bnd_elim hf
  have fσ1 : Fr ([w, w + 5, w + 3] ++ gk w) σ σ1 := by rw [hσ1]; exact fr_setI fr_rfl (by have hw9 := hw; unfold isW at hw9; rw [key_ne (by omega)]; first | (simp [gk]; done) | (simp only [gk, List.mem_append, List.mem_cons, List.not_mem_nil, or_false, false_or]; omega))
  obtain ⟨q7, hr8, hf⟩ := obind hf
  have f9 : Fr ([w, w + 5, w + 3] ++ gk w) σ q7 := fr_tr fσ1 (frX7_passYear_L12 w hw q7 fu (0 : Int32) σ1 hr8) (by intro x9 hx9; first | exact absurd hx9 List.not_mem_nil | exact hx9 | (simp [gk] at hx9 ⊢; omega) | (simp only [gk, List.mem_append, List.mem_cons, List.not_mem_nil, or_false, false_or] at hx9 ⊢; omega))
  obtain ⟨q31, hr32, hf⟩ := obind hf
  have f33 : Fr ([w, w + 5, w + 3] ++ gk w) σ q31.2 := fr_tr f9 (frX7_passYear_L61 w hw q31 fu (0 : Int32) (0 : Int32) (0 : Int32) q7 hr32) (by intro x9 hx9; first | exact absurd hx9 List.not_mem_nil | exact hx9 | (simp [gk] at hx9 ⊢; omega) | (simp only [gk, List.mem_append, List.mem_cons, List.not_mem_nil, or_false, false_or] at hx9 ⊢; omega))
  have hq := Option.some.inj hf
  subst hq
  exact f33
set_option maxHeartbeats 4000000 in
theorem frX7_passYear_n_L12 (w0 : Nat) (hw0 : isW w0) (q : (St)) : ∀ (n : Nat) (v3 : Int32) (σ : St), fX7_passYear_n_L12 w0 n v3 σ = some q → Fr ([] ++ gk w0) σ q := by
  intro n
  induction n with
  | zero =>
    intro v3 σ hf
    simp only [fX7_passYear_n_L12] at hf
    exact absurd hf (by simp)
  | succ n ih =>
    intro v3 σ hf
    rw [fX7_passYear_n_L12] at hf
    by_cases hc2 : (σ.1 w0 6) ≤ v3
    · rw [if_pos hc2] at hf
      have hq := Option.some.inj hf
      rw [← hq]
      exact fr_rfl
    · rw [if_neg hc2] at hf
      obtain ⟨hb3, hf⟩ := grd_elim hf
      by_cases hc4 : (fX3_lives (w0 + 7 + v3.toNatClampNeg) σ) = 0
      · rw [if_pos hc4] at hf
        exact fr_trS fr_rfl (ih (v3 + (1 : Int32)) σ hf)
      · rw [if_neg hc4] at hf
        obtain ⟨hb5, hf⟩ := grd_elim hf
        obtain ⟨σ6, hσ6, hf⟩ := bnd_elim hf
        have fσ6 : Fr ([] ++ gk w0) σ σ6 := by rw [hσ6]; exact fr_setI fr_rfl (by have hk9 := keyGm (s := 5) hw0 hb5; first | exact hk9 | (simp [gk] at hk9 ⊢; omega))
        exact fr_trS fσ6 (ih (v3 + (1 : Int32)) σ6 hf)
set_option maxHeartbeats 4000000 in
theorem frX7_passYear_n_L61 (w0 : Nat) (hw0 : isW w0) (q : (Int32 × St)) : ∀ (n : Nat) (v3 : Int32) (v4 : Int32) (v5 : Int32) (σ : St), fX7_passYear_n_L61 w0 n v3 v4 v5 σ = some q → Fr ([w0 + 5, w0 + 3] ++ gk w0) σ q.2 := by
  intro n
  induction n with
  | zero =>
    intro v3 v4 v5 σ hf
    simp only [fX7_passYear_n_L61] at hf
    exact absurd hf (by simp)
  | succ n ih =>
    intro v3 v4 v5 σ hf
    rw [fX7_passYear_n_L61] at hf
    by_cases hc10 : (σ.1 w0 6) ≤ v5
    · rw [if_pos hc10] at hf
      have hq := Option.some.inj hf
      rw [← hq]
      exact fr_rfl
    · rw [if_neg hc10] at hf
      obtain ⟨hb11, hf⟩ := grd_elim hf
      obtain ⟨x12, hx12, hf⟩ := bnd_elim hf
      obtain ⟨hb13, hf⟩ := grd_elim hf
      by_cases hc14 : (fX3_mustGo (w0 + 7 + v5.toNatClampNeg) (σ.1 3 0) σ) = 0
      · rw [if_pos hc14] at hf
        exact fr_trS fr_rfl (ih v3 v4 (v5 + (1 : Int32)) σ hf)
      · rw [if_neg hc14] at hf
        by_cases hc15 : (σ.1 3 2) = 0
        · rw [if_pos hc15] at hf
          obtain ⟨hb16, hf⟩ := grd_elim hf
          obtain ⟨q17, hq17, hf⟩ := obind hf
          by_cases hc18 : q17 = 0
          · rw [if_pos hc18] at hf
            exact fr_trS fr_rfl (ih v3 v4 (v5 + (1 : Int32)) σ hf)
          · rw [if_neg hc18] at hf
            obtain ⟨q19, hq19, hf⟩ := obind hf
            by_cases hc20 : q19 = (-1 : Int32)
            · rw [if_pos hc20] at hf
              exact fr_trS fr_rfl (ih v3 v4 (v5 + (1 : Int32)) σ hf)
            · rw [if_neg hc20] at hf
              obtain ⟨hb21, hf⟩ := grd_elim hf
              obtain ⟨q22, hq22, hf⟩ := obind hf
              have fq22 : Fr ([w0 + 5, w0 + 3] ++ gk w0) σ q22 := fr_tr fr_rfl (frX7_handOn w0 (w0 + 7 + v5.toNatClampNeg) q19 (σ.1 3 3) σ hw0 (obG hw0 hb21) _ hq22) (by intro x9 hx9; have hk9 := gmem hw0 hb21; simp only [gk, List.mem_cons, List.not_mem_nil, or_false] at hk9; first | exact absurd hx9 List.not_mem_nil | exact hx9 | (simp [gk] at hx9 ⊢; omega) | (simp only [gk, List.mem_append, List.mem_cons, List.not_mem_nil, or_false, false_or] at hx9 ⊢; omega))
              exact fr_trS fq22 (ih (v3 + (1 : Int32)) (v4 ||| (fX8_bit x12)) (v5 + (1 : Int32)) q22 hf)
        · rw [if_neg hc15] at hf
          by_cases hc23 : (v4 &&& (fX8_bit x12)) = 0
          · rw [if_pos hc23] at hf
            obtain ⟨hb24, hf⟩ := grd_elim hf
            obtain ⟨q25, hq25, hf⟩ := obind hf
            by_cases hc26 : q25 = 0
            · rw [if_pos hc26] at hf
              exact fr_trS fr_rfl (ih v3 v4 (v5 + (1 : Int32)) σ hf)
            · rw [if_neg hc26] at hf
              obtain ⟨q27, hq27, hf⟩ := obind hf
              by_cases hc28 : q27 = (-1 : Int32)
              · rw [if_pos hc28] at hf
                exact fr_trS fr_rfl (ih v3 v4 (v5 + (1 : Int32)) σ hf)
              · rw [if_neg hc28] at hf
                obtain ⟨hb29, hf⟩ := grd_elim hf
                obtain ⟨q30, hq30, hf⟩ := obind hf
                have fq30 : Fr ([w0 + 5, w0 + 3] ++ gk w0) σ q30 := fr_tr fr_rfl (frX7_handOn w0 (w0 + 7 + v5.toNatClampNeg) q27 (σ.1 3 3) σ hw0 (obG hw0 hb29) _ hq30) (by intro x9 hx9; have hk9 := gmem hw0 hb29; simp only [gk, List.mem_cons, List.not_mem_nil, or_false] at hk9; first | exact absurd hx9 List.not_mem_nil | exact hx9 | (simp [gk] at hx9 ⊢; omega) | (simp only [gk, List.mem_append, List.mem_cons, List.not_mem_nil, or_false, false_or] at hx9 ⊢; omega))
                exact fr_trS fq30 (ih (v3 + (1 : Int32)) (v4 ||| (fX8_bit x12)) (v5 + (1 : Int32)) q30 hf)
          · rw [if_neg hc23] at hf
            exact fr_trS fr_rfl (ih v3 v4 (v5 + (1 : Int32)) σ hf)
set_option maxHeartbeats 4000000 in
theorem frX7_passYear_n (w : Nat) (σ : St) (hw : isW w) (q : Int32 × St) (hf : fX7_passYear_n w σ = some q) : Fr ([w, w + 5, w + 3] ++ gk w) σ q.2 := by
  unfold fX7_passYear_n at hf
  obtain ⟨σ1, hσ1, hf⟩ := bnd_elim hf
  have fσ1 : Fr ([w, w + 5, w + 3] ++ gk w) σ σ1 := by rw [hσ1]; exact fr_setI fr_rfl (by have hw9 := hw; unfold isW at hw9; rw [key_ne (by omega)]; first | (simp [gk]; done) | (simp only [gk, List.mem_append, List.mem_cons, List.not_mem_nil, or_false, false_or]; omega))
  obtain ⟨q7, hr8, hf⟩ := obind hf
  have f9 : Fr ([w, w + 5, w + 3] ++ gk w) σ q7 := fr_tr fσ1 (frX7_passYear_n_L12 w hw q7 fu (0 : Int32) σ1 hr8) (by intro x9 hx9; first | exact absurd hx9 List.not_mem_nil | exact hx9 | (simp [gk] at hx9 ⊢; omega) | (simp only [gk, List.mem_append, List.mem_cons, List.not_mem_nil, or_false, false_or] at hx9 ⊢; omega))
  obtain ⟨q31, hr32, hf⟩ := obind hf
  have f33 : Fr ([w, w + 5, w + 3] ++ gk w) σ q31.2 := fr_tr f9 (frX7_passYear_n_L61 w hw q31 fu (0 : Int32) (0 : Int32) (0 : Int32) q7 hr32) (by intro x9 hx9; first | exact absurd hx9 List.not_mem_nil | exact hx9 | (simp [gk] at hx9 ⊢; omega) | (simp only [gk, List.mem_append, List.mem_cons, List.not_mem_nil, or_false, false_or] at hx9 ⊢; omega))
  have hq := Option.some.inj hf
  subst hq
  exact f33
set_option maxHeartbeats 4000000 in
theorem frX8_years_L17 (c1 : Int32)  (q : (Int32 × St)) : ∀ (n : Nat) (v2 : Int32) (v3 : Int32) (σ : St), fX8_years_L17 c1 n v2 v3 σ = some q → Fr ([4, 9, 7] ++ gk 4) σ q.2 := by
  intro n
  induction n with
  | zero =>
    intro v2 v3 σ hf
    simp only [fX8_years_L17] at hf
    exact absurd hf (by simp)
  | succ n ih =>
    intro v2 v3 σ hf
    rw [fX8_years_L17] at hf
    by_cases hc2 : c1 ≤ v3
    · rw [if_pos hc2] at hf
      have hq := Option.some.inj hf
      rw [← hq]
      exact fr_rfl
    · rw [if_neg hc2] at hf
      obtain ⟨q3, hq3, hf⟩ := obind hf
      have fq3 : Fr ([4, 9, 7] ++ gk 4) σ q3.2 := fr_tr fr_rfl (frX7_passYear_n 4 σ isW_4 _ hq3) (by intro x9 hx9; first | exact absurd hx9 List.not_mem_nil | exact hx9 | (simp [gk] at hx9 ⊢; omega) | (simp only [gk, List.mem_append, List.mem_cons, List.not_mem_nil, or_false, false_or] at hx9 ⊢; omega))
      exact fr_trS fq3 (ih (v2 + q3.1) (v3 + (1 : Int32)) q3.2 hf)
set_option maxHeartbeats 4000000 in
theorem frX8_years (p1 : Int32) (σ : St)  (q : Int32 × St) (hf : fX8_years p1 σ = some q) : Fr ([4, 9, 7] ++ gk 4) σ q.2 := by
  unfold fX8_years at hf
  by_cases hc1 : (fX8_within p1 (1 : Int32) (30 : Int32)) = 0
  · rw [if_pos hc1] at hf
    have hq := Option.some.inj hf
    subst hq
    exact fr_rfl
  · rw [if_neg hc1] at hf
    obtain ⟨q4, hr5, hf⟩ := obind hf
    have f6 : Fr ([4, 9, 7] ++ gk 4) σ q4.2 := fr_tr fr_rfl (frX8_years_L17 p1 q4 fu (0 : Int32) (0 : Int32) σ hr5) (by intro x9 hx9; first | exact absurd hx9 List.not_mem_nil | exact hx9 | (simp [gk] at hx9 ⊢; omega) | (simp only [gk, List.mem_append, List.mem_cons, List.not_mem_nil, or_false, false_or] at hx9 ⊢; omega))
    have hq := Option.some.inj hf
    subst hq
    exact f6
set_option maxHeartbeats 4000000 in
theorem frX3_copyFrom (g : Nat) (g1 : Nat) (σ : St) (hg : OB K58 g 3 8) (hg1 : OB K58 g1 3 8) (q : St) (hf : fX3_copyFrom g g1 σ = some q) : Fr ([g]) σ q := by
  unfold fX3_copyFrom at hf
  obtain ⟨σ1, hσ1, hf⟩ := bnd_elim hf
  have fσ1 : Fr ([g]) σ σ1 := by rw [hσ1]; exact fr_setI fr_rfl (by rw [key_ne (obG_ne hg)]; first | (simp [gk]; done) | (simp only [gk, List.mem_append, List.mem_cons, List.not_mem_nil, or_false, false_or]; omega))
  obtain ⟨σ2, hσ2, hf⟩ := bnd_elim hf
  have fσ2 : Fr ([g]) σ σ2 := by rw [hσ2]; exact fr_setI fσ1 (by rw [key_ne (obG_ne hg)]; first | (simp [gk]; done) | (simp only [gk, List.mem_append, List.mem_cons, List.not_mem_nil, or_false, false_or]; omega))
  obtain ⟨σ3, hσ3, hf⟩ := bnd_elim hf
  have fσ3 : Fr ([g]) σ σ3 := by rw [hσ3]; exact fr_setI fσ2 (by rw [key_ne (obG_ne hg)]; first | (simp [gk]; done) | (simp only [gk, List.mem_append, List.mem_cons, List.not_mem_nil, or_false, false_or]; omega))
  obtain ⟨σ4, hσ4, hf⟩ := bnd_elim hf
  have fσ4 : Fr ([g]) σ σ4 := by rw [hσ4]; exact fr_setI fσ3 (by rw [key_ne (obG_ne hg)]; first | (simp [gk]; done) | (simp only [gk, List.mem_append, List.mem_cons, List.not_mem_nil, or_false, false_or]; omega))
  obtain ⟨σ5, hσ5, hf⟩ := bnd_elim hf
  have fσ5 : Fr ([g]) σ σ5 := by rw [hσ5]; exact fr_setI fσ4 (by rw [key_ne (obG_ne hg)]; first | (simp [gk]; done) | (simp only [gk, List.mem_append, List.mem_cons, List.not_mem_nil, or_false, false_or]; omega))
  obtain ⟨σ6, hσ6, hf⟩ := bnd_elim hf
  have fσ6 : Fr ([g]) σ σ6 := by rw [hσ6]; exact fr_setI fσ5 (by rw [key_ne (obG_ne hg)]; first | (simp [gk]; done) | (simp only [gk, List.mem_append, List.mem_cons, List.not_mem_nil, or_false, false_or]; omega))
  obtain ⟨σ7, hσ7, hf⟩ := bnd_elim hf
  have fσ7 : Fr ([g]) σ σ7 := by rw [hσ7]; exact fr_setI fσ6 (by rw [key_ne (obG_ne hg)]; first | (simp [gk]; done) | (simp only [gk, List.mem_append, List.mem_cons, List.not_mem_nil, or_false, false_or]; omega))
  obtain ⟨σ8, hσ8, hf⟩ := bnd_elim hf
  have fσ8 : Fr ([g]) σ σ8 := by rw [hσ8]; exact fr_setI fσ7 (by rw [key_ne (obG_ne hg)]; first | (simp [gk]; done) | (simp only [gk, List.mem_append, List.mem_cons, List.not_mem_nil, or_false, false_or]; omega))
  have hq := Option.some.inj hf
  subst hq
  exact fσ8
set_option maxHeartbeats 4000000 in
theorem frX7_copyFrom_L93 (w0 : Nat) (w1 : Nat) (hw0 : isW w0) (hw1 : isW w1) (q : (St)) : ∀ (n : Nat) (v2 : Int32) (σ : St), fX7_copyFrom_L93 w0 w1 n v2 σ = some q → Fr ([] ++ gk w0) σ q := by
  intro n
  induction n with
  | zero =>
    intro v2 σ hf
    simp only [fX7_copyFrom_L93] at hf
    exact absurd hf (by simp)
  | succ n ih =>
    intro v2 σ hf
    rw [fX7_copyFrom_L93] at hf
    by_cases hc8 : (8 : Int32) ≤ v2
    · rw [if_pos hc8] at hf
      have hq := Option.some.inj hf
      rw [← hq]
      exact fr_rfl
    · rw [if_neg hc8] at hf
      obtain ⟨hb9, hf⟩ := grd_elim hf
      obtain ⟨hb10, hf⟩ := grd_elim hf
      obtain ⟨q11, hq11, hf⟩ := obind hf
      have fq11 : Fr ([] ++ gk w0) σ q11 := fr_tr fr_rfl (frX3_copyFrom (w0 + 7 + v2.toNatClampNeg) (w1 + 7 + v2.toNatClampNeg) σ (obG hw0 hb9) (obG hw1 hb10) _ hq11) (by intro x9 hx9; have hk9 := gmem hw0 hb9; simp only [gk, List.mem_cons, List.not_mem_nil, or_false] at hk9; first | exact absurd hx9 List.not_mem_nil | exact hx9 | (simp [gk] at hx9 ⊢; omega) | (simp only [gk, List.mem_append, List.mem_cons, List.not_mem_nil, or_false, false_or] at hx9 ⊢; omega))
      exact fr_trS fq11 (ih (v2 + (1 : Int32)) q11 hf)
set_option maxHeartbeats 4000000 in
theorem frX7_copyFrom (w : Nat) (w1 : Nat) (σ : St) (hw : isW w) (hw1 : isW w1) (q : St) (hf : fX7_copyFrom w w1 σ = some q) : Fr ([w, w + 1, w + 2, w + 3, w + 4, w + 5] ++ gk w) σ q := by
  unfold fX7_copyFrom at hf
  obtain ⟨σ1, hσ1, hf⟩ := bnd_elim hf
  have fσ1 : Fr ([w, w + 1, w + 2, w + 3, w + 4, w + 5] ++ gk w) σ σ1 := by rw [hσ1]; exact fr_setI fr_rfl (by have hw9 := hw; unfold isW at hw9; rw [key_ne (by omega)]; first | (simp [gk]; done) | (simp only [gk, List.mem_append, List.mem_cons, List.not_mem_nil, or_false, false_or]; omega))
  obtain ⟨σ2, hσ2, hf⟩ := bnd_elim hf
  have fσ2 : Fr ([w, w + 1, w + 2, w + 3, w + 4, w + 5] ++ gk w) σ σ2 := by rw [hσ2]; exact fr_cpyI fσ1 (fun b => by have hw9 := hw; unfold isW at hw9; rw [key_ne (by omega)]; first | (simp [gk]; done) | (simp only [gk, List.mem_append, List.mem_cons, List.not_mem_nil, or_false, false_or]; omega))
  obtain ⟨σ3, hσ3, hf⟩ := bnd_elim hf
  have fσ3 : Fr ([w, w + 1, w + 2, w + 3, w + 4, w + 5] ++ gk w) σ σ3 := by rw [hσ3]; exact fr_cpyI fσ2 (fun b => by have hw9 := hw; unfold isW at hw9; rw [key_ne (by omega)]; first | (simp [gk]; done) | (simp only [gk, List.mem_append, List.mem_cons, List.not_mem_nil, or_false, false_or]; omega))
  obtain ⟨σ4, hσ4, hf⟩ := bnd_elim hf
  have fσ4 : Fr ([w, w + 1, w + 2, w + 3, w + 4, w + 5] ++ gk w) σ σ4 := by rw [hσ4]; exact fr_cpyI fσ3 (fun b => by have hw9 := hw; unfold isW at hw9; rw [key_ne (by omega)]; first | (simp [gk]; done) | (simp only [gk, List.mem_append, List.mem_cons, List.not_mem_nil, or_false, false_or]; omega))
  obtain ⟨σ5, hσ5, hf⟩ := bnd_elim hf
  have fσ5 : Fr ([w, w + 1, w + 2, w + 3, w + 4, w + 5] ++ gk w) σ σ5 := by rw [hσ5]; exact fr_cpyI fσ4 (fun b => by have hw9 := hw; unfold isW at hw9; rw [key_ne (by omega)]; first | (simp [gk]; done) | (simp only [gk, List.mem_append, List.mem_cons, List.not_mem_nil, or_false, false_or]; omega))
  obtain ⟨σ6, hσ6, hf⟩ := bnd_elim hf
  have fσ6 : Fr ([w, w + 1, w + 2, w + 3, w + 4, w + 5] ++ gk w) σ σ6 := by rw [hσ6]; exact fr_cpyI fσ5 (fun b => by have hw9 := hw; unfold isW at hw9; rw [key_ne (by omega)]; first | (simp [gk]; done) | (simp only [gk, List.mem_append, List.mem_cons, List.not_mem_nil, or_false, false_or]; omega))
  obtain ⟨σ7, hσ7, hf⟩ := bnd_elim hf
  have fσ7 : Fr ([w, w + 1, w + 2, w + 3, w + 4, w + 5] ++ gk w) σ σ7 := by rw [hσ7]; exact fr_setI fσ6 (by have hw9 := hw; unfold isW at hw9; rw [key_ne (by omega)]; first | (simp [gk]; done) | (simp only [gk, List.mem_append, List.mem_cons, List.not_mem_nil, or_false, false_or]; omega))
  obtain ⟨q12, hr13, hf⟩ := obind hf
  have f14 : Fr ([w, w + 1, w + 2, w + 3, w + 4, w + 5] ++ gk w) σ q12 := fr_tr fσ7 (frX7_copyFrom_L93 w w1 hw hw1 q12 fu (0 : Int32) σ7 hr13) (by intro x9 hx9; first | exact absurd hx9 List.not_mem_nil | exact hx9 | (simp [gk] at hx9 ⊢; omega) | (simp only [gk, List.mem_append, List.mem_cons, List.not_mem_nil, or_false, false_or] at hx9 ⊢; omega))
  obtain ⟨σ15, hσ15, hf⟩ := bnd_elim hf
  have fσ15 : Fr ([w, w + 1, w + 2, w + 3, w + 4, w + 5] ++ gk w) σ σ15 := by rw [hσ15]; exact fr_setI f14 (by have hw9 := hw; unfold isW at hw9; rw [key_ne (by omega)]; first | (simp [gk]; done) | (simp only [gk, List.mem_append, List.mem_cons, List.not_mem_nil, or_false, false_or]; omega))
  have hq := Option.some.inj hf
  subst hq
  exact fσ15
set_option maxHeartbeats 4000000 in
theorem frX8_drawn_L55 (c1 : Int32) (c3 : Int32)  (q : (Int32 × St)) : ∀ (n : Nat) (v4 : Int32) (v5 : Int32) (σ : St), fX8_drawn_L55 c1 c3 n v4 v5 σ = some q → Fr ([34, 39, 37] ++ gk 34) σ q.2 := by
  intro n
  induction n with
  | zero =>
    intro v4 v5 σ hf
    simp only [fX8_drawn_L55] at hf
    exact absurd hf (by simp)
  | succ n ih =>
    intro v4 v5 σ hf
    rw [fX8_drawn_L55] at hf
    by_cases hc6 : c1 ≤ v5
    · rw [if_pos hc6] at hf
      have hq := Option.some.inj hf
      rw [← hq]
      exact fr_rfl
    · rw [if_neg hc6] at hf
      obtain ⟨q7, hq7, hf⟩ := obind hf
      have fq7 : Fr ([34, 39, 37] ++ gk 34) σ q7.2 := fr_tr fr_rfl (frX7_passYear 34 σ isW_34 _ hq7) (by intro x9 hx9; first | exact absurd hx9 List.not_mem_nil | exact hx9 | (simp [gk] at hx9 ⊢; omega) | (simp only [gk, List.mem_append, List.mem_cons, List.not_mem_nil, or_false, false_or] at hx9 ⊢; omega))
      exact fr_trS fq7 (ih (v4 + q7.1) (v5 + (1 : Int32)) q7.2 hf)
set_option maxHeartbeats 4000000 in
theorem frX8_drawn (p1 : Int32) (p2 : Int32) (p3 : Int32) (σ : St)  (q : Int32 × St) (hf : fX8_drawn p1 p2 p3 σ = some q) : Fr ([34, 35, 36, 37, 38, 39] ++ gk 34) σ q.2 := by
  unfold fX8_drawn at hf
  by_cases hc1 : (fX8_within p1 (1 : Int32) (30 : Int32)) = 0
  · rw [if_pos hc1] at hf
    have hq := Option.some.inj hf
    subst hq
    exact fr_rfl
  · rw [if_neg hc1] at hf
    by_cases hc2 : p2 < 0
    · rw [if_pos hc2] at hf
      have hq := Option.some.inj hf
      subst hq
      exact fr_rfl
    · rw [if_neg hc2] at hf
      by_cases hc3 : (fX8_within p3 (0 : Int32) (3 : Int32)) = 0
      · rw [if_pos hc3] at hf
        have hq := Option.some.inj hf
        subst hq
        exact fr_rfl
      · rw [if_neg hc3] at hf
        obtain ⟨q4, hq4, hf⟩ := obind hf
        have fq4 : Fr ([34, 35, 36, 37, 38, 39] ++ gk 34) σ q4 := fr_tr fr_rfl (frX7_copyFrom 34 4 σ isW_34 isW_4 _ hq4) (by intro x9 hx9; first | exact absurd hx9 List.not_mem_nil | exact hx9 | (simp [gk] at hx9 ⊢; omega) | (simp only [gk, List.mem_append, List.mem_cons, List.not_mem_nil, or_false, false_or] at hx9 ⊢; omega))
        obtain ⟨σ5, hσ5, hf⟩ := bnd_elim hf
        have fσ5 : Fr ([34, 35, 36, 37, 38, 39] ++ gk 34) σ σ5 := by rw [hσ5]; exact fr_setL fq4
        obtain ⟨q8, hr9, hf⟩ := obind hf
        have f10 : Fr ([34, 35, 36, 37, 38, 39] ++ gk 34) σ q8.2 := fr_tr fσ5 (frX8_drawn_L55 p1 p3 q8 fu (0 : Int32) (0 : Int32) σ5 hr9) (by intro x9 hx9; first | exact absurd hx9 List.not_mem_nil | exact hx9 | (simp [gk] at hx9 ⊢; omega) | (simp only [gk, List.mem_append, List.mem_cons, List.not_mem_nil, or_false, false_or] at hx9 ⊢; omega))
        by_cases hc11 : p3 = (0 : Int32)
        · rw [if_pos hc11] at hf
          have hq := Option.some.inj hf
          subst hq
          exact f10
        · rw [if_neg hc11] at hf
          by_cases hc12 : p3 = (1 : Int32)
          · rw [if_pos hc12] at hf
            obtain ⟨q13, hq13, hf⟩ := obind hf
            have hq := Option.some.inj hf
            subst hq
            exact f10
          · rw [if_neg hc12] at hf
            by_cases hc14 : p3 = (2 : Int32)
            · rw [if_pos hc14] at hf
              obtain ⟨q15, hq15, hf⟩ := obind hf
              obtain ⟨q16, hq16, hf⟩ := obind hf
              have hq := Option.some.inj hf
              subst hq
              exact f10
            · rw [if_neg hc14] at hf
              have hq := Option.some.inj hf
              subst hq
              exact f10
