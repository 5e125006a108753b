theorem aT_in {w : Cond} (i : Nat) (h : lw_tbl[i]? = some w) (hg : goodWord w = true) : w ∈ aT := List.mem_filter.mpr ⟨List.mem_of_getElem? h, hg⟩
theorem aN_in {w : Cond} (i : Nat) (h : lw_tbl[i]? = some w) (hg : isNest w = true) : w ∈ aNst := List.mem_filter.mpr ⟨List.mem_of_getElem? h, hg⟩
theorem aT_r (ws : List Cond) (ps : List Nat) (hp : ws = ps.filterMap (fun i => lw_tbl[i]?)) (h : ws.all goodWord = true) : ∀ w ∈ ws, w ∈ aT := by
  intro w hw
  have h1 := List.all_eq_true.mp h w hw
  rw [hp] at hw
  obtain ⟨i, -, hi⟩ := List.mem_filterMap.mp hw
  exact aT_in i hi h1
/-- just k cells are there -/
abbrev eqK (k : Nat) : Nat → Prop := fun n => n = k
theorem OB.mono {K K' : Nat → Prop} {i ci n : Nat} (h : OB K i ci n) (hk : ∀ n, K' n → K n) : OB K' i ci n := ⟨fun m e => h.1 m (hk m e), h.2⟩
/-- a WORLD's number, a GIFT's number -/
def isW (w : Nat) : Prop := w = 4 ∨ w = 19 ∨ w = 34
theorem ob_0 : OB K58 0 8 11 := ⟨fun m h => Nat.lt_of_lt_of_le (by decide) h, rfl, rfl, rfl⟩
theorem ob_1 : OB K58 1 5 2 := ⟨fun m h => Nat.lt_of_lt_of_le (by decide) h, rfl, rfl, rfl⟩
theorem ia_2 : IA K58 2 16 := ⟨fun m h => Nat.lt_of_lt_of_le (by decide) h, rfl, rfl⟩
theorem ob_3 : OB K58 3 4 4 := ⟨fun m h => Nat.lt_of_lt_of_le (by decide) h, rfl, rfl, rfl⟩
theorem ob_4 : OB K58 4 7 9 := ⟨fun m h => Nat.lt_of_lt_of_le (by decide) h, rfl, rfl, rfl⟩
theorem ia_5 : IA K58 5 8 := ⟨fun m h => Nat.lt_of_lt_of_le (by decide) h, rfl, rfl⟩
theorem ia_6 : IA K58 6 8 := ⟨fun m h => Nat.lt_of_lt_of_le (by decide) h, rfl, rfl⟩
theorem ia_7 : IA K58 7 8 := ⟨fun m h => Nat.lt_of_lt_of_le (by decide) h, rfl, rfl⟩
theorem ia_8 : IA K58 8 64 := ⟨fun m h => Nat.lt_of_lt_of_le (by decide) h, rfl, rfl⟩
theorem ia_9 : IA K58 9 64 := ⟨fun m h => Nat.lt_of_lt_of_le (by decide) h, rfl, rfl⟩
theorem ga_10 : GA K58 10 8 := ⟨fun m h => Nat.lt_of_lt_of_le (by decide) h, rfl, rfl⟩
theorem ob_11 : OB K58 11 3 8 := ⟨fun m h => Nat.lt_of_lt_of_le (by decide) h, rfl, rfl, rfl⟩
theorem ob_12 : OB K58 12 3 8 := ⟨fun m h => Nat.lt_of_lt_of_le (by decide) h, rfl, rfl, rfl⟩
theorem ob_13 : OB K58 13 3 8 := ⟨fun m h => Nat.lt_of_lt_of_le (by decide) h, rfl, rfl, rfl⟩
theorem ob_14 : OB K58 14 3 8 := ⟨fun m h => Nat.lt_of_lt_of_le (by decide) h, rfl, rfl, rfl⟩
theorem ob_15 : OB K58 15 3 8 := ⟨fun m h => Nat.lt_of_lt_of_le (by decide) h, rfl, rfl, rfl⟩
theorem ob_16 : OB K58 16 3 8 := ⟨fun m h => Nat.lt_of_lt_of_le (by decide) h, rfl, rfl, rfl⟩
theorem ob_17 : OB K58 17 3 8 := ⟨fun m h => Nat.lt_of_lt_of_le (by decide) h, rfl, rfl, rfl⟩
theorem ob_18 : OB K58 18 3 8 := ⟨fun m h => Nat.lt_of_lt_of_le (by decide) h, rfl, rfl, rfl⟩
theorem ob_19 : OB K58 19 7 9 := ⟨fun m h => Nat.lt_of_lt_of_le (by decide) h, rfl, rfl, rfl⟩
theorem ia_20 : IA K58 20 8 := ⟨fun m h => Nat.lt_of_lt_of_le (by decide) h, rfl, rfl⟩
theorem ia_21 : IA K58 21 8 := ⟨fun m h => Nat.lt_of_lt_of_le (by decide) h, rfl, rfl⟩
theorem ia_22 : IA K58 22 8 := ⟨fun m h => Nat.lt_of_lt_of_le (by decide) h, rfl, rfl⟩
theorem ia_23 : IA K58 23 64 := ⟨fun m h => Nat.lt_of_lt_of_le (by decide) h, rfl, rfl⟩
theorem ia_24 : IA K58 24 64 := ⟨fun m h => Nat.lt_of_lt_of_le (by decide) h, rfl, rfl⟩
theorem ga_25 : GA K58 25 8 := ⟨fun m h => Nat.lt_of_lt_of_le (by decide) h, rfl, rfl⟩
theorem ob_26 : OB K58 26 3 8 := ⟨fun m h => Nat.lt_of_lt_of_le (by decide) h, rfl, rfl, rfl⟩
theorem ob_27 : OB K58 27 3 8 := ⟨fun m h => Nat.lt_of_lt_of_le (by decide) h, rfl, rfl, rfl⟩
theorem ob_28 : OB K58 28 3 8 := ⟨fun m h => Nat.lt_of_lt_of_le (by decide) h, rfl, rfl, rfl⟩
theorem ob_29 : OB K58 29 3 8 := ⟨fun m h => Nat.lt_of_lt_of_le (by decide) h, rfl, rfl, rfl⟩
theorem ob_30 : OB K58 30 3 8 := ⟨fun m h => Nat.lt_of_lt_of_le (by decide) h, rfl, rfl, rfl⟩
theorem ob_31 : OB K58 31 3 8 := ⟨fun m h => Nat.lt_of_lt_of_le (by decide) h, rfl, rfl, rfl⟩
theorem ob_32 : OB K58 32 3 8 := ⟨fun m h => Nat.lt_of_lt_of_le (by decide) h, rfl, rfl, rfl⟩
theorem ob_33 : OB K58 33 3 8 := ⟨fun m h => Nat.lt_of_lt_of_le (by decide) h, rfl, rfl, rfl⟩
theorem ob_34 : OB K58 34 7 9 := ⟨fun m h => Nat.lt_of_lt_of_le (by decide) h, rfl, rfl, rfl⟩
theorem ia_35 : IA K58 35 8 := ⟨fun m h => Nat.lt_of_lt_of_le (by decide) h, rfl, rfl⟩
theorem ia_36 : IA K58 36 8 := ⟨fun m h => Nat.lt_of_lt_of_le (by decide) h, rfl, rfl⟩
theorem ia_37 : IA K58 37 8 := ⟨fun m h => Nat.lt_of_lt_of_le (by decide) h, rfl, rfl⟩
theorem ia_38 : IA K58 38 64 := ⟨fun m h => Nat.lt_of_lt_of_le (by decide) h, rfl, rfl⟩
theorem ia_39 : IA K58 39 64 := ⟨fun m h => Nat.lt_of_lt_of_le (by decide) h, rfl, rfl⟩
theorem ga_40 : GA K58 40 8 := ⟨fun m h => Nat.lt_of_lt_of_le (by decide) h, rfl, rfl⟩
theorem ob_41 : OB K58 41 3 8 := ⟨fun m h => Nat.lt_of_lt_of_le (by decide) h, rfl, rfl, rfl⟩
theorem ob_42 : OB K58 42 3 8 := ⟨fun m h => Nat.lt_of_lt_of_le (by decide) h, rfl, rfl, rfl⟩
theorem ob_43 : OB K58 43 3 8 := ⟨fun m h => Nat.lt_of_lt_of_le (by decide) h, rfl, rfl, rfl⟩
theorem ob_44 : OB K58 44 3 8 := ⟨fun m h => Nat.lt_of_lt_of_le (by decide) h, rfl, rfl, rfl⟩
theorem ob_45 : OB K58 45 3 8 := ⟨fun m h => Nat.lt_of_lt_of_le (by decide) h, rfl, rfl, rfl⟩
theorem ob_46 : OB K58 46 3 8 := ⟨fun m h => Nat.lt_of_lt_of_le (by decide) h, rfl, rfl, rfl⟩
theorem ob_47 : OB K58 47 3 8 := ⟨fun m h => Nat.lt_of_lt_of_le (by decide) h, rfl, rfl, rfl⟩
theorem ob_48 : OB K58 48 3 8 := ⟨fun m h => Nat.lt_of_lt_of_le (by decide) h, rfl, rfl, rfl⟩
theorem ob_49 : OB K58 49 2 1 := ⟨fun m h => Nat.lt_of_lt_of_le (by decide) h, rfl, rfl, rfl⟩
theorem ob_50 : OB K58 50 6 2 := ⟨fun m h => Nat.lt_of_lt_of_le (by decide) h, rfl, rfl, rfl⟩
theorem la_51 : LA K58 51 72 := ⟨fun m h => Nat.lt_of_lt_of_le (by decide) h, rfl, rfl⟩
theorem la_52 : LA K58 52 72 := ⟨fun m h => Nat.lt_of_lt_of_le (by decide) h, rfl, rfl⟩
theorem ob_53 : OB K58 53 1 2 := ⟨fun m h => Nat.lt_of_lt_of_le (by decide) h, rfl, rfl, rfl⟩
theorem ia_54 : IA K58 54 256 := ⟨fun m h => Nat.lt_of_lt_of_le (by decide) h, rfl, rfl⟩
theorem ia_55 : IA K58 55 8 := ⟨fun m h => Nat.lt_of_lt_of_le (by decide) h, rfl, rfl⟩
theorem ob_56 : OB K58 56 0 3 := ⟨fun m h => Nat.lt_of_lt_of_le (by decide) h, rfl, rfl, rfl⟩
theorem ia_57 : IA K58 57 8 := ⟨fun m h => Nat.lt_of_lt_of_le (by decide) h, rfl, rfl⟩
theorem lia_58 {k : Nat} (h : 58 < k) : IA (eqK k) 58 4 := ⟨fun m e => by rw [e]; exact h, rfl, rfl⟩
theorem lia_59 {k : Nat} (h : 59 < k) : IA (eqK k) 59 16 := ⟨fun m e => by rw [e]; exact h, rfl, rfl⟩
theorem lia_60 {k : Nat} (h : 60 < k) : IA (eqK k) 60 27 := ⟨fun m e => by rw [e]; exact h, rfl, rfl⟩
theorem lia_61 {k : Nat} (h : 61 < k) : IA (eqK k) 61 64 := ⟨fun m e => by rw [e]; exact h, rfl, rfl⟩
theorem lia_62 {k : Nat} (h : 62 < k) : IA (eqK k) 62 64 := ⟨fun m e => by rw [e]; exact h, rfl, rfl⟩
theorem lia_63 {k : Nat} (h : 63 < k) : IA (eqK k) 63 64 := ⟨fun m e => by rw [e]; exact h, rfl, rfl⟩
theorem lla_64 {k : Nat} (h : 64 < k) : LA (eqK k) 64 1 := ⟨fun m e => by rw [e]; exact h, rfl, rfl⟩
theorem lia_65 {k : Nat} (h : 65 < k) : IA (eqK k) 65 64 := ⟨fun m e => by rw [e]; exact h, rfl, rfl⟩
theorem lia_66 {k : Nat} (h : 66 < k) : IA (eqK k) 66 64 := ⟨fun m e => by rw [e]; exact h, rfl, rfl⟩
theorem lia_67 {k : Nat} (h : 67 < k) : IA (eqK k) 67 27 := ⟨fun m e => by rw [e]; exact h, rfl, rfl⟩
theorem isW_4 : isW 4 := Or.inl rfl
theorem isW_19 : isW 19 := Or.inr (Or.inl rfl)
theorem isW_34 : isW 34 := Or.inr (Or.inr rfl)
section FW
variable {w : Nat} {σ : St}
theorem obW (h : isW w) : OB K58 w 7 9 := by rcases h with rfl | rfl | rfl <;> exact ⟨fun m h => Nat.lt_of_lt_of_le (by decide) h, rfl, rfl, rfl⟩
theorem iaW1 (h : isW w) : IA K58 (w + 1) 8 := by rcases h with rfl | rfl | rfl <;> exact ⟨fun m h => Nat.lt_of_lt_of_le (by decide) h, rfl, rfl⟩
theorem iaW2 (h : isW w) : IA K58 (w + 2) 8 := by rcases h with rfl | rfl | rfl <;> exact ⟨fun m h => Nat.lt_of_lt_of_le (by decide) h, rfl, rfl⟩
theorem iaW3 (h : isW w) : IA K58 (w + 3) 8 := by rcases h with rfl | rfl | rfl <;> exact ⟨fun m h => Nat.lt_of_lt_of_le (by decide) h, rfl, rfl⟩
theorem iaW4 (h : isW w) : IA K58 (w + 4) 64 := by rcases h with rfl | rfl | rfl <;> exact ⟨fun m h => Nat.lt_of_lt_of_le (by decide) h, rfl, rfl⟩
theorem iaW5 (h : isW w) : IA K58 (w + 5) 64 := by rcases h with rfl | rfl | rfl <;> exact ⟨fun m h => Nat.lt_of_lt_of_le (by decide) h, rfl, rfl⟩
theorem gaW (h : isW w) : GA K58 (w + 6) 8 := by rcases h with rfl | rfl | rfl <;> exact ⟨fun m h => Nat.lt_of_lt_of_le (by decide) h, rfl, rfl⟩
theorem avW0 (h : isW w) : av σ w 0 = .int (σ.1 w 0) := by rcases h with rfl | rfl | rfl <;> rfl
theorem avW6 (h : isW w) : av σ w 6 = .int (σ.1 w 6) := by rcases h with rfl | rfl | rfl <;> rfl
theorem avW8 (h : isW w) : av σ w 8 = .int (σ.1 w 8) := by rcases h with rfl | rfl | rfl <;> rfl
theorem avW1 (h : isW w) : av σ w 1 = .ref (w + 1) := by rcases h with rfl | rfl | rfl <;> rfl
theorem avW2 (h : isW w) : av σ w 2 = .ref (w + 2) := by rcases h with rfl | rfl | rfl <;> rfl
theorem avW3 (h : isW w) : av σ w 3 = .ref (w + 3) := by rcases h with rfl | rfl | rfl <;> rfl
theorem avW4 (h : isW w) : av σ w 4 = .ref (w + 4) := by rcases h with rfl | rfl | rfl <;> rfl
theorem avW5 (h : isW w) : av σ w 5 = .ref (w + 5) := by rcases h with rfl | rfl | rfl <;> rfl
theorem avW7 (h : isW w) : av σ w 7 = .ref (w + 6) := by rcases h with rfl | rfl | rfl <;> rfl
theorem inb_iff {j : Int32} {n : Nat} (hn : n < 2 ^ 31) : inb j n = true ↔ ∃ k : Nat, k < n ∧ j = nI k := by
  constructor
  · intro h
    exact vp_in_of (inb_vp h) hn
  · rintro ⟨k, hk, rfl⟩
    exact decide_eq_true (vp_in_nI hk hn)
theorem rfG (h : isW w) {j : Int32} (hj : inb j 8 = true) : rfv (w + 6) j.toNatClampNeg = w + 7 + j.toNatClampNeg := by
  obtain ⟨k, hk, rfl⟩ := (inb_iff (by decide)).mp hj
  rw [nI_clamp (by omega)]
  rcases h with rfl | rfl | rfl <;> (rcases (show k = 0 ∨ k = 1 ∨ k = 2 ∨ k = 3 ∨ k = 4 ∨ k = 5 ∨ k = 6 ∨ k = 7 by omega) with rfl | rfl | rfl | rfl | rfl | rfl | rfl | rfl <;> rfl)
theorem obGn (h : isW w) {k : Nat} (hk : k < 8) : OB K58 (w + 7 + k) 3 8 := by
  rcases h with rfl | rfl | rfl <;> (rcases (show k = 0 ∨ k = 1 ∨ k = 2 ∨ k = 3 ∨ k = 4 ∨ k = 5 ∨ k = 6 ∨ k = 7 by omega) with rfl | rfl | rfl | rfl | rfl | rfl | rfl | rfl <;> exact ⟨fun m h => Nat.lt_of_lt_of_le (by decide) h, rfl, rfl, rfl⟩)
theorem obG (h : isW w) {j : Int32} (hj : inb j 8 = true) : OB K58 (w + 7 + j.toNatClampNeg) 3 8 := by
  obtain ⟨k, hk, rfl⟩ := (inb_iff (by decide)).mp hj
  rw [nI_clamp (by omega)]
  exact obGn h hk
theorem avG {g : Nat} (h : OB K58 g 3 8) (k : Nat) (hs : sty 3 k = 0) : av σ g k = .int (σ.1 g k) := by
  obtain ⟨-, -, hc, -⟩ := h
  simp [av, hc, hs]
end FW
def MX8_init : MI := (yX8_init, cX8_init, 1, none)
theorem cw_X8_init : Cond.code MX8_init.1 MX8_init.2.1 MX8_init.2.2.1 MX8_init.2.2.2 ∈ aT := aT_in 23 (by decide +kernel) rfl
def MX8_letters : MI := (yX8_letters, cX8_letters, 4, some .int)
theorem cw_X8_letters : Cond.code MX8_letters.1 MX8_letters.2.1 MX8_letters.2.2.1 MX8_letters.2.2.2 ∈ aT := aT_in 482 (by decide +kernel) rfl
def MX8_fault : MI := (yX8_fault, cX8_fault, 1, some .int)
theorem cw_X8_fault : Cond.code MX8_fault.1 MX8_fault.2.1 MX8_fault.2.2.1 MX8_fault.2.2.2 ∈ aT := aT_in 246 (by decide +kernel) rfl
def MX8_law : MI := (yX8_law, cX8_law, 1, some .int)
theorem cw_X8_law : Cond.code MX8_law.1 MX8_law.2.1 MX8_law.2.2.1 MX8_law.2.2.2 ∈ aT := aT_in 260 (by decide +kernel) rfl
def MX8_lawTold : MI := (yX8_lawTold, cX8_lawTold, 2, some .int)
theorem cw_X8_lawTold : Cond.code MX8_lawTold.1 MX8_lawTold.2.1 MX8_lawTold.2.2.1 MX8_lawTold.2.2.2 ∈ aT := aT_in 272 (by decide +kernel) rfl
def MX8_person : MI := (yX8_person, cX8_person, 2, some .int)
theorem cw_X8_person : Cond.code MX8_person.1 MX8_person.2.1 MX8_person.2.2.1 MX8_person.2.2.2 ∈ aT := aT_in 277 (by decide +kernel) rfl
def MX8_know : MI := (yX8_know, cX8_know, 5, some .int)
theorem cw_X8_know : Cond.code MX8_know.1 MX8_know.2.1 MX8_know.2.2.1 MX8_know.2.2.2 ∈ aT := aT_in 285 (by decide +kernel) rfl
def MX8_like : MI := (yX8_like, cX8_like, 5, some .int)
theorem cw_X8_like : Cond.code MX8_like.1 MX8_like.2.1 MX8_like.2.2.1 MX8_like.2.2.2 ∈ aT := aT_in 308 (by decide +kernel) rfl
def MX8_about : MI := (yX8_about, cX8_about, 3, some .int)
theorem cw_X8_about : Cond.code MX8_about.1 MX8_about.2.1 MX8_about.2.2.1 MX8_about.2.2.2 ∈ aT := aT_in 315 (by decide +kernel) rfl
def MX8_owes : MI := (yX8_owes, cX8_owes, 3, some .int)
theorem cw_X8_owes : Cond.code MX8_owes.1 MX8_owes.2.1 MX8_owes.2.2.1 MX8_owes.2.2.2 ∈ aT := aT_in 327 (by decide +kernel) rfl
def MX8_rest : MI := (yX8_rest, cX8_rest, 2, some .int)
theorem cw_X8_rest : Cond.code MX8_rest.1 MX8_rest.2.1 MX8_rest.2.2.1 MX8_rest.2.2.2 ∈ aT := aT_in 331 (by decide +kernel) rfl
def MX8_gift : MI := (yX8_gift, cX8_gift, 3, some .int)
theorem cw_X8_gift : Cond.code MX8_gift.1 MX8_gift.2.1 MX8_gift.2.2.1 MX8_gift.2.2.2 ∈ aT := aT_in 341 (by decide +kernel) rfl
def MX8_told : MI := (yX8_told, cX8_told, 4, some .int)
theorem cw_X8_told : Cond.code MX8_told.1 MX8_told.2.1 MX8_told.2.2.1 MX8_told.2.2.2 ∈ aT := aT_in 353 (by decide +kernel) rfl
def MX8_as : MI := (yX8_as, cX8_as, 3, some .int)
theorem cw_X8_as : Cond.code MX8_as.1 MX8_as.2.1 MX8_as.2.2.1 MX8_as.2.2.2 ∈ aT := aT_in 371 (by decide +kernel) rfl
def MX8_may : MI := (yX8_may, cX8_may, 2, some .int)
theorem cw_X8_may : Cond.code MX8_may.1 MX8_may.2.1 MX8_may.2.2.1 MX8_may.2.2.2 ∈ aT := aT_in 379 (by decide +kernel) rfl
def MX8_give : MI := (yX8_give, cX8_give, 3, some .int)
theorem cw_X8_give : Cond.code MX8_give.1 MX8_give.2.1 MX8_give.2.2.1 MX8_give.2.2.2 ∈ aT := aT_in 392 (by decide +kernel) rfl
def MX8_years : MI := (yX8_years, cX8_years, 4, some .int)
theorem cw_X8_years : Cond.code MX8_years.1 MX8_years.2.1 MX8_years.2.2.1 MX8_years.2.2.2 ∈ aT := aT_in 407 (by decide +kernel) rfl
def MX8_drawn : MI := (yX8_drawn, cX8_drawn, 6, some .int)
theorem cw_X8_drawn : Cond.code MX8_drawn.1 MX8_drawn.2.1 MX8_drawn.2.2.1 MX8_drawn.2.2.2 ∈ aT := aT_in 446 (by decide +kernel) rfl
def MX8_count : MI := (yX8_count, cX8_count, 2, some .int)
theorem cw_X8_count : Cond.code MX8_count.1 MX8_count.2.1 MX8_count.2.2.1 MX8_count.2.2.2 ∈ aT := aT_in 528 (by decide +kernel) rfl
def MX8_isPerson : MI := (yX8_isPerson, cX8_isPerson, 2, some .boolean)
theorem cw_X8_isPerson : Cond.code MX8_isPerson.1 MX8_isPerson.2.1 MX8_isPerson.2.2.1 MX8_isPerson.2.2.2 ∈ aT := aT_in 293 (by decide +kernel) rfl
def MX8_areTwo : MI := (yX8_areTwo, cX8_areTwo, 3, some .boolean)
theorem cw_X8_areTwo : Cond.code MX8_areTwo.1 MX8_areTwo.2.1 MX8_areTwo.2.2.1 MX8_areTwo.2.2.2 ∈ aT := aT_in 289 (by decide +kernel) rfl
def MX8_isGift : MI := (yX8_isGift, cX8_isGift, 2, some .boolean)
theorem cw_X8_isGift : Cond.code MX8_isGift.1 MX8_isGift.2.1 MX8_isGift.2.2.1 MX8_isGift.2.2.2 ∈ aT := aT_in 357 (by decide +kernel) rfl
def MX8_whoMayHave : MI := (yX8_whoMayHave, cX8_whoMayHave, 3, some .int)
theorem cw_X8_whoMayHave : Cond.code MX8_whoMayHave.1 MX8_whoMayHave.2.1 MX8_whoMayHave.2.2.1 MX8_whoMayHave.2.2.2 ∈ aT := aT_in 384 (by decide +kernel) rfl
def MX8_within : MI := (yX8_within, cX8_within, 3, some .boolean)
theorem cw_X8_within : Cond.code MX8_within.1 MX8_within.2.1 MX8_within.2.2.1 MX8_within.2.2.2 ∈ aT := aT_in 256 (by decide +kernel) rfl
def MX8_pair : MI := (yX8_pair, cX8_pair, 2, some .int)
theorem cw_X8_pair : Cond.code MX8_pair.1 MX8_pair.2.1 MX8_pair.2.2.1 MX8_pair.2.2.2 ∈ aT := aT_in 311 (by decide +kernel) rfl
def MX8_bit : MI := (yX8_bit, cX8_bit, 1, some .int)
theorem cw_X8_bit : Cond.code MX8_bit.1 MX8_bit.2.1 MX8_bit.2.2.1 MX8_bit.2.2.2 ∈ aT := aT_in 300 (by decide +kernel) rfl
def MX0_init : MI := (yX0_init, cX0_init, 1, none)
theorem cw_X0_init : Cond.code MX0_init.1 MX0_init.2.1 MX0_init.2.2.1 MX0_init.2.2.2 ∈ aT := aT_in 200 (by decide +kernel) rfl
def MX1_init : MI := (yX1_init, cX1_init, 1, none)
theorem cw_X1_init : Cond.code MX1_init.1 MX1_init.2.1 MX1_init.2.2.1 MX1_init.2.2.2 ∈ aT := aT_in 187 (by decide +kernel) rfl
def MX2_init : MI := (yX2_init, cX2_init, 1, none)
theorem cw_X2_init : Cond.code MX2_init.1 MX2_init.2.1 MX2_init.2.2.1 MX2_init.2.2.2 ∈ aT := aT_in 162 (by decide +kernel) rfl
def MX2_oneOf : MI := (yX2_oneOf, cX2_oneOf, 5, some .int)
theorem cw_X2_oneOf : Cond.code MX2_oneOf.1 MX2_oneOf.2.1 MX2_oneOf.2.2.1 MX2_oneOf.2.2.2 ∈ aT := aT_in 430 (by decide +kernel) rfl
def MX3_init : MI := (yX3_init, cX3_init, 1, none)
theorem cw_X3_init : Cond.code MX3_init.1 MX3_init.2.1 MX3_init.2.2.1 MX3_init.2.2.2 ∈ aT := aT_in 82 (by decide +kernel) rfl
def MX3_begin : MI := (yX3_begin, cX3_begin, 3, none)
theorem cw_X3_begin : Cond.code MX3_begin.1 MX3_begin.2.1 MX3_begin.2.2.1 MX3_begin.2.2.2 ∈ aT := aT_in 349 (by decide +kernel) rfl
def MX3_copyFrom : MI := (yX3_copyFrom, cX3_copyFrom, 2, none)
theorem cw_X3_copyFrom : Cond.code MX3_copyFrom.1 MX3_copyFrom.2.1 MX3_copyFrom.2.2.1 MX3_copyFrom.2.2.2 ∈ aT := aT_in 457 (by decide +kernel) rfl
def MX3_lives : MI := (yX3_lives, cX3_lives, 1, some .boolean)
theorem cw_X3_lives : Cond.code MX3_lives.1 MX3_lives.2.1 MX3_lives.2.2.1 MX3_lives.2.2.2 ∈ aT := aT_in 323 (by decide +kernel) rfl
def MX3_isOf : MI := (yX3_isOf, cX3_isOf, 2, some .boolean)
theorem cw_X3_isOf : Cond.code MX3_isOf.1 MX3_isOf.2.1 MX3_isOf.2.2.1 MX3_isOf.2.2.2 ∈ aT := aT_in 375 (by decide +kernel) rfl
def MX3_worth : MI := (yX3_worth, cX3_worth, 2, some .int)
theorem cw_X3_worth : Cond.code MX3_worth.1 MX3_worth.2.1 MX3_worth.2.2.1 MX3_worth.2.2.2 ∈ aT := aT_in 361 (by decide +kernel) rfl
def MX3_mustGo : MI := (yX3_mustGo, cX3_mustGo, 2, some .boolean)
theorem cw_X3_mustGo : Cond.code MX3_mustGo.1 MX3_mustGo.2.1 MX3_mustGo.2.2.1 MX3_mustGo.2.2.2 ∈ aT := aT_in 415 (by decide +kernel) rfl
def MX3_moveTo : MI := (yX3_moveTo, cX3_moveTo, 3, none)
theorem cw_X3_moveTo : Cond.code MX3_moveTo.1 MX3_moveTo.2.1 MX3_moveTo.2.2.1 MX3_moveTo.2.2.2 ∈ aT := aT_in 402 (by decide +kernel) rfl
def MX4_init : MI := (yX4_init, cX4_init, 1, none)
theorem cw_X4_init : Cond.code MX4_init.1 MX4_init.2.1 MX4_init.2.2.1 MX4_init.2.2.2 ∈ aT := aT_in 48 (by decide +kernel) rfl
def MX4_readFrom : MI := (yX4_readFrom, cX4_readFrom, 5, none)
theorem cw_X4_readFrom : Cond.code MX4_readFrom.1 MX4_readFrom.2.1 MX4_readFrom.2.2.1 MX4_readFrom.2.2.2 ∈ aT := aT_in 268 (by decide +kernel) rfl
def MX5_init : MI := (yX5_init, cX5_init, 1, none)
theorem cw_X5_init : Cond.code MX5_init.1 MX5_init.2.1 MX5_init.2.2.1 MX5_init.2.2.2 ∈ aT := aT_in 31 (by decide +kernel) rfl
def MX5_lettersIn : MI := (yX5_lettersIn, cX5_lettersIn, 6, some .int)
theorem cw_X5_lettersIn : Cond.code MX5_lettersIn.1 MX5_lettersIn.2.1 MX5_lettersIn.2.2.1 MX5_lettersIn.2.2.2 ∈ aT := aT_in 485 (by decide +kernel) rfl
def MX5_byteOf : MI := (yX5_byteOf, cX5_byteOf, 3, some .int)
theorem cw_X5_byteOf : Cond.code MX5_byteOf.1 MX5_byteOf.2.1 MX5_byteOf.2.2.1 MX5_byteOf.2.2.2 ∈ aT := aT_in 488 (by decide +kernel) rfl
def MX5_append : MI := (yX5_append, cX5_append, 5, none)
theorem cw_X5_append : Cond.code MX5_append.1 MX5_append.2.1 MX5_append.2.2.1 MX5_append.2.2.2 ∈ aT := aT_in 493 (by decide +kernel) rfl
def MX5_firstFault : MI := (yX5_firstFault, cX5_firstFault, 3, some .int)
theorem cw_X5_firstFault : Cond.code MX5_firstFault.1 MX5_firstFault.2.1 MX5_firstFault.2.2.1 MX5_firstFault.2.2.2 ∈ aT := aT_in 250 (by decide +kernel) rfl
def MX5_isLaw : MI := (yX5_isLaw, cX5_isLaw, 3, some .boolean)
theorem cw_X5_isLaw : Cond.code MX5_isLaw.1 MX5_isLaw.2.1 MX5_isLaw.2.2.1 MX5_isLaw.2.2.2 ∈ aT := aT_in 264 (by decide +kernel) rfl
def MX5_behind : MI := (yX5_behind, cX5_behind, 2, some .int)
theorem cw_X5_behind : Cond.code MX5_behind.1 MX5_behind.2.1 MX5_behind.2.2.1 MX5_behind.2.2.2 ∈ aT := aT_in 253 (by decide +kernel) rfl
def MX6_init : MI := (yX6_init, cX6_init, 1, none)
theorem cw_X6_init : Cond.code MX6_init.1 MX6_init.2.1 MX6_init.2.2.1 MX6_init.2.2.2 ∈ aT := aT_in 173 (by decide +kernel) rfl
def MX7_init : MI := (yX7_init, cX7_init, 2, none)
theorem cw_X7_init : Cond.code MX7_init.1 MX7_init.2.1 MX7_init.2.2.1 MX7_init.2.2.2 ∈ aT := aT_in 75 (by decide +kernel) rfl
def MX7_copyFrom : MI := (yX7_copyFrom, cX7_copyFrom, 3, none)
theorem cw_X7_copyFrom : Cond.code MX7_copyFrom.1 MX7_copyFrom.2.1 MX7_copyFrom.2.2.1 MX7_copyFrom.2.2.2 ∈ aT := aT_in 450 (by decide +kernel) rfl
def MX7_addPerson : MI := (yX7_addPerson, cX7_addPerson, 2, some .int)
theorem cw_X7_addPerson : Cond.code MX7_addPerson.1 MX7_addPerson.2.1 MX7_addPerson.2.2.1 MX7_addPerson.2.2.2 ∈ aT := aT_in 281 (by decide +kernel) rfl
def MX7_addGift : MI := (yX7_addGift, cX7_addGift, 3, some .int)
theorem cw_X7_addGift : Cond.code MX7_addGift.1 MX7_addGift.2.1 MX7_addGift.2.2.1 MX7_addGift.2.2.2 ∈ aT := aT_in 345 (by decide +kernel) rfl
def MX7_knows : MI := (yX7_knows, cX7_knows, 3, some .boolean)
theorem cw_X7_knows : Cond.code MX7_knows.1 MX7_knows.2.1 MX7_knows.2.2.1 MX7_knows.2.2.2 ∈ aT := aT_in 297 (by decide +kernel) rfl
def MX7_setKnown : MI := (yX7_setKnown, cX7_setKnown, 4, none)
theorem cw_X7_setKnown : Cond.code MX7_setKnown.1 MX7_setKnown.2.1 MX7_setKnown.2.2.1 MX7_setKnown.2.2.2 ∈ aT := aT_in 304 (by decide +kernel) rfl
def MX7_heldBy : MI := (yX7_heldBy, cX7_heldBy, 4, some .int)
theorem cw_X7_heldBy : Cond.code MX7_heldBy.1 MX7_heldBy.2.1 MX7_heldBy.2.2.1 MX7_heldBy.2.2.2 ∈ aT := aT_in 319 (by decide +kernel) rfl
def MX7_living : MI := (yX7_living, cX7_living, 3, some .int)
theorem cw_X7_living : Cond.code MX7_living.1 MX7_living.2.1 MX7_living.2.2.1 MX7_living.2.2.2 ∈ aT := aT_in 461 (by decide +kernel) rfl
def MX7_allFeasts : MI := (yX7_allFeasts, cX7_allFeasts, 3, some .int)
theorem cw_X7_allFeasts : Cond.code MX7_allFeasts.1 MX7_allFeasts.2.1 MX7_allFeasts.2.2.1 MX7_allFeasts.2.2.2 ∈ aT := aT_in 465 (by decide +kernel) rfl
def MX7_balance : MI := (yX7_balance, cX7_balance, 4, some .int)
theorem cw_X7_balance : Cond.code MX7_balance.1 MX7_balance.2.1 MX7_balance.2.2.1 MX7_balance.2.2.2 ∈ aT := aT_in 336 (by decide +kernel) rfl
def MX7_mayHave : MI := (yX7_mayHave, cX7_mayHave, 5, some .int)
theorem cw_X7_mayHave : Cond.code MX7_mayHave.1 MX7_mayHave.2.1 MX7_mayHave.2.2.1 MX7_mayHave.2.2.2 ∈ aT := aT_in 388 (by decide +kernel) rfl
def MX7_handOn : MI := (yX7_handOn, cX7_handOn, 4, none)
theorem cw_X7_handOn : Cond.code MX7_handOn.1 MX7_handOn.2.1 MX7_handOn.2.2.1 MX7_handOn.2.2.2 ∈ aT := aT_in 397 (by decide +kernel) rfl
def MX7_passYear : MI := (yX7_passYear, cX7_passYear, 9, some .int)
theorem cw_X7_passYear : Cond.code MX7_passYear.1 MX7_passYear.2.1 MX7_passYear.2.2.1 MX7_passYear.2.2.2 ∈ aT := aT_in 411 (by decide +kernel) rfl
def MX7_chosenBy : MI := (yX7_chosenBy, cX7_chosenBy, 7, some .int)
theorem cw_X7_chosenBy : Cond.code MX7_chosenBy.1 MX7_chosenBy.2.1 MX7_chosenBy.2.2.1 MX7_chosenBy.2.2.2 ∈ aT := aT_in 421 (by decide +kernel) rfl
def MX7_markOf : MI := (yX7_markOf, cX7_markOf, 3, some .int)
theorem cw_X7_markOf : Cond.code MX7_markOf.1 MX7_markOf.2.1 MX7_markOf.2.2.1 MX7_markOf.2.2.2 ∈ aT := aT_in 425 (by decide +kernel) rfl
def ML_cell : MI := (yL_cell, cL_cell, 2, some .int)
theorem cw_L_cell : Cond.code ML_cell.1 ML_cell.2.1 ML_cell.2.2.1 ML_cell.2.2.2 ∈ aT := aT_in 468 (by decide +kernel) rfl
def ML_at : MI := (yL_at, cL_at, 2, some .int)
theorem cw_L_at : Cond.code ML_at.1 ML_at.2.1 ML_at.2.2.1 ML_at.2.2.2 ∈ aT := aT_in 472 (by decide +kernel) rfl
def ML_lawText : MI := (yL_lawText, cL_lawText, 4, some .int)
theorem cw_L_lawText : Cond.code ML_lawText.1 ML_lawText.2.1 ML_lawText.2.2.1 ML_lawText.2.2.2 ∈ aT := aT_in 475 (by decide +kernel) rfl
def ML_write : MI := (yL_write, cL_write, 4, some .boolean)
theorem cw_L_write : Cond.code ML_write.1 ML_write.2.1 ML_write.2.2.1 ML_write.2.2.2 ∈ aT := aT_in 478 (by decide +kernel) rfl
def ML_people : MI := (yL_people, cL_people, 12, some .boolean)
theorem cw_L_people : Cond.code ML_people.1 ML_people.2.1 ML_people.2.2.1 ML_people.2.2.2 ∈ aT := aT_in 496 (by decide +kernel) rfl
def ML_gifts : MI := (yL_gifts, cL_gifts, 8, some .boolean)
theorem cw_L_gifts : Cond.code ML_gifts.1 ML_gifts.2.1 ML_gifts.2.2.1 ML_gifts.2.2.2 ∈ aT := aT_in 499 (by decide +kernel) rfl
def ML_may : MI := (yL_may, cL_may, 5, some .int)
theorem cw_L_may : Cond.code ML_may.1 ML_may.2.1 ML_may.2.2.1 ML_may.2.2.2 ∈ aT := aT_in 502 (by decide +kernel) rfl
def ML_worth : MI := (yL_worth, cL_worth, 3, some .int)
theorem cw_L_worth : Cond.code ML_worth.1 ML_worth.2.1 ML_worth.2.2.1 ML_worth.2.2.2 ∈ aT := aT_in 508 (by decide +kernel) rfl
def ML_give : MI := (yL_give, cL_give, 8, some .int)
theorem cw_L_give : Cond.code ML_give.1 ML_give.2.1 ML_give.2.2.1 ML_give.2.2.2 ∈ aT := aT_in 505 (by decide +kernel) rfl
def ML_holds : MI := (yL_holds, cL_holds, 5, some .int)
theorem cw_L_holds : Cond.code ML_holds.1 ML_holds.2.1 ML_holds.2.2.1 ML_holds.2.2.2 ∈ aT := aT_in 517 (by decide +kernel) rfl
def ML_habit : MI := (yL_habit, cL_habit, 8, some .int)
theorem cw_L_habit : Cond.code ML_habit.1 ML_habit.2.1 ML_habit.2.2.1 ML_habit.2.2.2 ∈ aT := aT_in 514 (by decide +kernel) rfl
def ML_year : MI := (yL_year, cL_year, 16, some .int)
theorem cw_L_year : Cond.code ML_year.1 ML_year.2.1 ML_year.2.2.1 ML_year.2.2.2 ∈ aT := aT_in 511 (by decide +kernel) rfl
def ML_stands : MI := (yL_stands, cL_stands, 9, some .boolean)
theorem cw_L_stands : Cond.code ML_stands.1 ML_stands.2.1 ML_stands.2.2.1 ML_stands.2.2.2 ∈ aT := aT_in 524 (by decide +kernel) rfl
def ML_law : MI := (yL_law, cL_law, 25, some .boolean)
def MJ6_bitCount_0f7a4 : MI := (yJ6_bitCount_0f7a4, cJ6_bitCount_0f7a4, 1, some .int)
theorem cw_J6_bitCount_0f7a4 : Cond.code MJ6_bitCount_0f7a4.1 MJ6_bitCount_0f7a4.2.1 MJ6_bitCount_0f7a4.2.2.1 MJ6_bitCount_0f7a4.2.2.2 ∈ aT := aT_in 433 (by decide +kernel) rfl
def MJ9_max_7cf53 : MI := (yJ9_max_7cf53, cJ9_max_7cf53, 2, some .int)
theorem cw_J9_max_7cf53 : Cond.code MJ9_max_7cf53.1 MJ9_max_7cf53.2.1 MJ9_max_7cf53.2.2.1 MJ9_max_7cf53.2.2.2 ∈ aT := aT_in 364 (by decide +kernel) rfl
def MJ9_min_7cf53 : MI := (yJ9_min_7cf53, cJ9_min_7cf53, 2, some .int)
theorem cw_J9_min_7cf53 : Cond.code MJ9_min_7cf53.1 MJ9_min_7cf53.2.1 MJ9_min_7cf53.2.2.1 MJ9_min_7cf53.2.2.2 ∈ aT := aT_in 367 (by decide +kernel) rfl
set_option maxRecDepth 20000 in
theorem lays_X0 : ∀ w ∈ u_ws RX0 TX0 3, w ∈ aT := aT_r _ [203, 205, 207] (by decide +kernel) (by decide +kernel)
set_option maxRecDepth 20000 in
theorem lays_X1 : ∀ w ∈ u_ws RX1 TX1 2, w ∈ aT := aT_r _ [191, 193] (by decide +kernel) (by decide +kernel)
set_option maxRecDepth 20000 in
theorem lays_X2 : ∀ w ∈ u_ws RX2 TX2 1, w ∈ aT := aT_r _ [166] (by decide +kernel) (by decide +kernel)
set_option maxRecDepth 20000 in
theorem lays_X3 : ∀ w ∈ u_ws RX3 TX3 8, w ∈ aT := aT_r _ [104, 106, 108, 110, 112, 114, 116, 118] (by decide +kernel) (by decide +kernel)
set_option maxRecDepth 20000 in
theorem lays_X4 : ∀ w ∈ u_ws RX4 TX4 4, w ∈ aT := aT_r _ [62, 64, 66, 68] (by decide +kernel) (by decide +kernel)
set_option maxRecDepth 20000 in
theorem lays_X5 : ∀ w ∈ u_ws RX5 TX5 2, w ∈ aT := aT_r _ [38, 40] (by decide +kernel) (by decide +kernel)
set_option maxRecDepth 20000 in
theorem lays_X6 : ∀ w ∈ u_ws RX6 TX6 2, w ∈ aT := aT_r _ [177, 179] (by decide +kernel) (by decide +kernel)
set_option maxRecDepth 20000 in
theorem lays_X7 : ∀ w ∈ u_ws RX7 TX7 9, w ∈ aT := aT_r _ [139, 141, 143, 145, 147, 149, 151, 153, 155] (by decide +kernel) (by decide +kernel)
set_option maxRecDepth 20000 in
theorem lays_X8 : ∀ w ∈ u_ws RX8 TX8 11, w ∈ aT := aT_r _ [220, 222, 224, 226, 228, 230, 232, 234, 236, 238, 240] (by decide +kernel) (by decide +kernel)
set_option maxRecDepth 20000 in
theorem lays_X9 : ∀ w ∈ u_ws RX9 TX9 0, w ∈ aT := aT_r _ [] (by decide +kernel) (by decide +kernel)
theorem fl_X8_12 : FL RX8 12 8 0 := ⟨RX8, TX8, 11, rfl, by decide, rfl, aT_in 210 (by decide +kernel) rfl, lays_X8⟩
theorem fl_X8_19 : FL RX8 19 8 1 := ⟨RX8, TX8, 11, rfl, by decide, rfl, aT_in 211 (by decide +kernel) rfl, lays_X8⟩
theorem fl_X8_26 : FL RX8 26 8 2 := ⟨RX8, TX8, 11, rfl, by decide, rfl, aT_in 212 (by decide +kernel) rfl, lays_X8⟩
theorem fl_X8_30 : FL RX8 30 8 3 := ⟨RX8, TX8, 11, rfl, by decide, rfl, aT_in 213 (by decide +kernel) rfl, lays_X8⟩
theorem fl_X8_33 : FL RX8 33 8 4 := ⟨RX8, TX8, 11, rfl, by decide, rfl, aT_in 214 (by decide +kernel) rfl, lays_X8⟩
theorem fl_X8_39 : FL RX8 39 8 5 := ⟨RX8, TX8, 11, rfl, by decide, rfl, aT_in 215 (by decide +kernel) rfl, lays_X8⟩
theorem fl_X8_46 : FL RX8 46 8 6 := ⟨RX8, TX8, 11, rfl, by decide, rfl, aT_in 216 (by decide +kernel) rfl, lays_X8⟩
theorem fl_X8_53 : FL RX8 53 8 7 := ⟨RX8, TX8, 11, rfl, by decide, rfl, aT_in 217 (by decide +kernel) rfl, lays_X8⟩
theorem fl_X8_60 : FL RX8 60 8 8 := ⟨RX8, TX8, 11, rfl, by decide, rfl, aT_in 218 (by decide +kernel) rfl, lays_X8⟩
theorem sl_X8_64 : SL RX8 64 MX5_lettersIn 1 := ⟨Or.inl (aT_in 483 (by decide +kernel) rfl), aT_in 484 (by decide +kernel) rfl, aT_in 8 (by decide +kernel) rfl, cw_X5_lettersIn, ⟨by decide +kernel, by decide +kernel, by decide +kernel⟩, by decide⟩
theorem fl_X8_68 : FL RX8 68 5 1 := ⟨RX5, TX5, 2, rfl, by decide, rfl, aT_in 35 (by decide +kernel) rfl, lays_X5⟩
theorem vl_X8_72 : VL RX8 72 5 MX5_append 2 := ⟨⟨TX5, 2, rfl⟩, Or.inl (aT_in 490 (by decide +kernel) rfl), aT_in 491 (by decide +kernel) rfl, aT_in 492 (by decide +kernel) rfl, aT_in 8 (by decide +kernel) rfl, cw_X5_append, ⟨by decide +kernel, by decide +kernel, by decide +kernel⟩, by decide⟩
theorem vl_X8_76 : VL RX8 76 5 MX5_firstFault 0 := ⟨⟨TX5, 2, rfl⟩, Or.inl (aT_in 247 (by decide +kernel) rfl), aT_in 248 (by decide +kernel) rfl, aT_in 249 (by decide +kernel) rfl, aT_in 8 (by decide +kernel) rfl, cw_X5_firstFault, ⟨by decide +kernel, by decide +kernel, by decide +kernel⟩, by decide⟩
theorem vl_X8_80 : VL RX8 80 5 MX5_isLaw 0 := ⟨⟨TX5, 2, rfl⟩, Or.inl (aT_in 261 (by decide +kernel) rfl), aT_in 262 (by decide +kernel) rfl, aT_in 263 (by decide +kernel) rfl, aT_in 8 (by decide +kernel) rfl, cw_X5_isLaw, ⟨by decide +kernel, by decide +kernel, by decide +kernel⟩, by decide⟩
theorem vl_X8_84 : VL RX8 84 4 MX4_readFrom 1 := ⟨⟨TX4, 4, rfl⟩, Or.inl (aT_in 265 (by decide +kernel) rfl), aT_in 266 (by decide +kernel) rfl, aT_in 267 (by decide +kernel) rfl, aT_in 9 (by decide +kernel) rfl, cw_X4_readFrom, ⟨by decide +kernel, by decide +kernel, by decide +kernel⟩, by decide⟩
theorem fp_X8_68 : FP RX8 68 5 1 := ⟨RX5, TX5, 2, tyX5, rfl, by decide, rfl, aT_in 35 (by decide +kernel) rfl, lays_X5, tyX5_ok, nmX5, rfl, tyX5_ok 1 (by decide)⟩
theorem fl_X8_88 : FL RX8 88 8 9 := ⟨RX8, TX8, 11, rfl, by decide, rfl, aT_in 219 (by decide +kernel) rfl, lays_X8⟩
theorem fp_X8_88 : FP RX8 88 8 9 := ⟨RX8, TX8, 11, tyX8, rfl, by decide, rfl, aT_in 219 (by decide +kernel) rfl, lays_X8, tyX8_ok, nmX8, rfl, tyX8_ok 9 (by decide)⟩
theorem sl_X8_91 : SL RX8 91 MX8_within 3 := ⟨Or.inl (aT_in 273 (by decide +kernel) rfl), aT_in 255 (by decide +kernel) rfl, aT_in 7 (by decide +kernel) rfl, cw_X8_within, ⟨by decide +kernel, by decide +kernel, by decide +kernel⟩, by decide⟩
theorem fl_X8_95 : FL RX8 95 4 0 := ⟨RX4, TX4, 4, rfl, by decide, rfl, aT_in 51 (by decide +kernel) rfl, lays_X4⟩
theorem fl_X8_98 : FL RX8 98 4 1 := ⟨RX4, TX4, 4, rfl, by decide, rfl, aT_in 54 (by decide +kernel) rfl, lays_X4⟩
theorem fl_X8_102 : FL RX8 102 4 2 := ⟨RX4, TX4, 4, rfl, by decide, rfl, aT_in 57 (by decide +kernel) rfl, lays_X4⟩
theorem fl_X8_105 : FL RX8 105 4 3 := ⟨RX4, TX4, 4, rfl, by decide, rfl, aT_in 60 (by decide +kernel) rfl, lays_X4⟩
theorem fl_X8_108 : FL RX8 108 7 0 := ⟨RX7, TX7, 9, rfl, by decide, rfl, aT_in 122 (by decide +kernel) rfl, lays_X7⟩
theorem vl_X8_111 : VL RX8 111 7 MX7_addPerson 1 := ⟨⟨TX7, 9, rfl⟩, Or.inl (aT_in 278 (by decide +kernel) rfl), aT_in 279 (by decide +kernel) rfl, aT_in 280 (by decide +kernel) rfl, aT_in 10 (by decide +kernel) rfl, cw_X7_addPerson, ⟨by decide +kernel, by decide +kernel, by decide +kernel⟩, by decide⟩
theorem vl_X8_115 : VL RX8 115 8 MX8_areTwo 2 := ⟨⟨TX8, 11, rfl⟩, Or.inl (aT_in 286 (by decide +kernel) rfl), aT_in 288 (by decide +kernel) rfl, aT_in 0 (by decide +kernel) rfl, aT_in 7 (by decide +kernel) rfl, cw_X8_areTwo, ⟨by decide +kernel, by decide +kernel, by decide +kernel⟩, by decide⟩
theorem vl_X8_119 : VL RX8 119 7 MX7_knows 2 := ⟨⟨TX7, 9, rfl⟩, Or.inl (aT_in 294 (by decide +kernel) rfl), aT_in 295 (by decide +kernel) rfl, aT_in 296 (by decide +kernel) rfl, aT_in 10 (by decide +kernel) rfl, cw_X7_knows, ⟨by decide +kernel, by decide +kernel, by decide +kernel⟩, by decide⟩
theorem vl_X8_122 : VL RX8 122 7 MX7_setKnown 3 := ⟨⟨TX7, 9, rfl⟩, Or.inl (aT_in 301 (by decide +kernel) rfl), aT_in 302 (by decide +kernel) rfl, aT_in 303 (by decide +kernel) rfl, aT_in 10 (by decide +kernel) rfl, cw_X7_setKnown, ⟨by decide +kernel, by decide +kernel, by decide +kernel⟩, by decide⟩
theorem fl_X8_126 : FL RX8 126 7 4 := ⟨RX7, TX7, 9, rfl, by decide, rfl, aT_in 130 (by decide +kernel) rfl, lays_X7⟩
theorem sl_X8_130 : SL RX8 130 MX8_pair 2 := ⟨Or.inl (aT_in 309 (by decide +kernel) rfl), aT_in 310 (by decide +kernel) rfl, aT_in 7 (by decide +kernel) rfl, cw_X8_pair, ⟨by decide +kernel, by decide +kernel, by decide +kernel⟩, by decide⟩
theorem vl_X8_134 : VL RX8 134 8 MX8_isPerson 1 := ⟨⟨TX8, 11, rfl⟩, Or.inl (aT_in 290 (by decide +kernel) rfl), aT_in 292 (by decide +kernel) rfl, aT_in 1 (by decide +kernel) rfl, aT_in 7 (by decide +kernel) rfl, cw_X8_isPerson, ⟨by decide +kernel, by decide +kernel, by decide +kernel⟩, by decide⟩
theorem fl_X8_138 : FL RX8 138 7 1 := ⟨RX7, TX7, 9, rfl, by decide, rfl, aT_in 124 (by decide +kernel) rfl, lays_X7⟩
theorem vl_X8_141 : VL RX8 141 7 MX7_heldBy 1 := ⟨⟨TX7, 9, rfl⟩, Or.inl (aT_in 316 (by decide +kernel) rfl), aT_in 317 (by decide +kernel) rfl, aT_in 318 (by decide +kernel) rfl, aT_in 10 (by decide +kernel) rfl, cw_X7_heldBy, ⟨by decide +kernel, by decide +kernel, by decide +kernel⟩, by decide⟩
theorem fl_X8_144 : FL RX8 144 7 2 := ⟨RX7, TX7, 9, rfl, by decide, rfl, aT_in 126 (by decide +kernel) rfl, lays_X7⟩
theorem fl_X8_147 : FL RX8 147 7 3 := ⟨RX7, TX7, 9, rfl, by decide, rfl, aT_in 128 (by decide +kernel) rfl, lays_X7⟩
theorem fl_X8_150 : FL RX8 150 7 5 := ⟨RX7, TX7, 9, rfl, by decide, rfl, aT_in 132 (by decide +kernel) rfl, lays_X7⟩
theorem kc_X8_153 : Cond.constant RX8 153 (-100001) ∈ aT := aT_in 332 (by decide +kernel) rfl
theorem vl_X8_154 : VL RX8 154 7 MX7_balance 1 := ⟨⟨TX7, 9, rfl⟩, Or.inl (aT_in 333 (by decide +kernel) rfl), aT_in 334 (by decide +kernel) rfl, aT_in 335 (by decide +kernel) rfl, aT_in 10 (by decide +kernel) rfl, cw_X7_balance, ⟨by decide +kernel, by decide +kernel, by decide +kernel⟩, by decide⟩
theorem fl_X8_157 : FL RX8 157 7 6 := ⟨RX7, TX7, 9, rfl, by decide, rfl, aT_in 134 (by decide +kernel) rfl, lays_X7⟩
theorem vl_X8_160 : VL RX8 160 7 MX7_addGift 2 := ⟨⟨TX7, 9, rfl⟩, Or.inl (aT_in 342 (by decide +kernel) rfl), aT_in 343 (by decide +kernel) rfl, aT_in 344 (by decide +kernel) rfl, aT_in 10 (by decide +kernel) rfl, cw_X7_addGift, ⟨by decide +kernel, by decide +kernel, by decide +kernel⟩, by decide⟩
theorem vl_X8_163 : VL RX8 163 8 MX8_isGift 1 := ⟨⟨TX8, 11, rfl⟩, Or.inl (aT_in 354 (by decide +kernel) rfl), aT_in 356 (by decide +kernel) rfl, aT_in 2 (by decide +kernel) rfl, aT_in 7 (by decide +kernel) rfl, cw_X8_isGift, ⟨by decide +kernel, by decide +kernel, by decide +kernel⟩, by decide⟩
theorem fl_X8_166 : FL RX8 166 7 7 := ⟨RX7, TX7, 9, rfl, by decide, rfl, aT_in 136 (by decide +kernel) rfl, lays_X7⟩
theorem fl_X8_170 : FL RX8 170 3 0 := ⟨RX3, TX3, 8, rfl, by decide, rfl, aT_in 85 (by decide +kernel) rfl, lays_X3⟩
theorem fl_X8_175 : FL RX8 175 3 1 := ⟨RX3, TX3, 8, rfl, by decide, rfl, aT_in 87 (by decide +kernel) rfl, lays_X3⟩
theorem fl_X8_178 : FL RX8 178 3 2 := ⟨RX3, TX3, 8, rfl, by decide, rfl, aT_in 90 (by decide +kernel) rfl, lays_X3⟩
theorem fl_X8_181 : FL RX8 181 3 3 := ⟨RX3, TX3, 8, rfl, by decide, rfl, aT_in 93 (by decide +kernel) rfl, lays_X3⟩
theorem fl_X8_184 : FL RX8 184 3 4 := ⟨RX3, TX3, 8, rfl, by decide, rfl, aT_in 95 (by decide +kernel) rfl, lays_X3⟩
theorem fl_X8_187 : FL RX8 187 3 5 := ⟨RX3, TX3, 8, rfl, by decide, rfl, aT_in 98 (by decide +kernel) rfl, lays_X3⟩
theorem vl_X8_190 : VL RX8 190 3 MX3_worth 0 := ⟨⟨TX3, 8, rfl⟩, Or.inl (aT_in 358 (by decide +kernel) rfl), aT_in 359 (by decide +kernel) rfl, aT_in 360 (by decide +kernel) rfl, aT_in 11 (by decide +kernel) rfl, cw_X3_worth, ⟨by decide +kernel, by decide +kernel, by decide +kernel⟩, by decide⟩
theorem fl_X8_193 : FL RX8 193 3 6 := ⟨RX3, TX3, 8, rfl, by decide, rfl, aT_in 101 (by decide +kernel) rfl, lays_X3⟩
theorem fl_X8_196 : FL RX8 196 3 7 := ⟨RX3, TX3, 8, rfl, by decide, rfl, aT_in 103 (by decide +kernel) rfl, lays_X3⟩
theorem vl_X8_199 : VL RX8 199 3 MX3_isOf 1 := ⟨⟨TX3, 8, rfl⟩, Or.inl (aT_in 372 (by decide +kernel) rfl), aT_in 373 (by decide +kernel) rfl, aT_in 374 (by decide +kernel) rfl, aT_in 11 (by decide +kernel) rfl, cw_X3_isOf, ⟨by decide +kernel, by decide +kernel, by decide +kernel⟩, by decide⟩
theorem vl_X8_202 : VL RX8 202 3 MX3_lives 0 := ⟨⟨TX3, 8, rfl⟩, Or.inl (aT_in 380 (by decide +kernel) rfl), aT_in 321 (by decide +kernel) rfl, aT_in 322 (by decide +kernel) rfl, aT_in 11 (by decide +kernel) rfl, cw_X3_lives, ⟨by decide +kernel, by decide +kernel, by decide +kernel⟩, by decide⟩
theorem vl_X8_205 : VL RX8 205 8 MX8_whoMayHave 1 := ⟨⟨TX8, 11, rfl⟩, Or.inl (aT_in 381 (by decide +kernel) rfl), aT_in 383 (by decide +kernel) rfl, aT_in 3 (by decide +kernel) rfl, aT_in 7 (by decide +kernel) rfl, cw_X8_whoMayHave, ⟨by decide +kernel, by decide +kernel, by decide +kernel⟩, by decide⟩
theorem sl_X8_208 : SL RX8 208 MX8_bit 1 := ⟨Or.inl (aT_in 393 (by decide +kernel) rfl), aT_in 299 (by decide +kernel) rfl, aT_in 7 (by decide +kernel) rfl, cw_X8_bit, ⟨by decide +kernel, by decide +kernel, by decide +kernel⟩, by decide⟩
theorem vl_X8_211 : VL RX8 211 7 MX7_handOn 3 := ⟨⟨TX7, 9, rfl⟩, Or.inl (aT_in 394 (by decide +kernel) rfl), aT_in 395 (by decide +kernel) rfl, aT_in 396 (by decide +kernel) rfl, aT_in 10 (by decide +kernel) rfl, cw_X7_handOn, ⟨by decide +kernel, by decide +kernel, by decide +kernel⟩, by decide⟩
theorem vl_X8_215 : VL RX8 215 7 MX7_passYear 2 := ⟨⟨TX7, 9, rfl⟩, Or.inl (aT_in 408 (by decide +kernel) rfl), aT_in 409 (by decide +kernel) rfl, aT_in 410 (by decide +kernel) rfl, aT_in 10 (by decide +kernel) rfl, cw_X7_passYear, ⟨by decide +kernel, by decide +kernel, by decide +kernel⟩, by decide⟩
theorem vl_X8_265 : VL RX8 265 7 MX7_copyFrom 1 := ⟨⟨TX7, 9, rfl⟩, Or.inl (aT_in 447 (by decide +kernel) rfl), aT_in 448 (by decide +kernel) rfl, aT_in 449 (by decide +kernel) rfl, aT_in 10 (by decide +kernel) rfl, cw_X7_copyFrom, ⟨by decide +kernel, by decide +kernel, by decide +kernel⟩, by decide⟩
theorem fl_X8_268 : FL RX8 268 2 0 := ⟨RX2, TX2, 1, rfl, by decide, rfl, aT_in 165 (by decide +kernel) rfl, lays_X2⟩
theorem fp_X8_268 : FP RX8 268 2 0 := ⟨RX2, TX2, 1, tyX2, rfl, by decide, rfl, aT_in 165 (by decide +kernel) rfl, lays_X2, tyX2_ok, nmX2, rfl, tyX2_ok 0 (by decide)⟩
theorem vl_X8_272 : VL RX8 272 7 MX7_living 0 := ⟨⟨TX7, 9, rfl⟩, Or.inl (aT_in 458 (by decide +kernel) rfl), aT_in 459 (by decide +kernel) rfl, aT_in 460 (by decide +kernel) rfl, aT_in 10 (by decide +kernel) rfl, cw_X7_living, ⟨by decide +kernel, by decide +kernel, by decide +kernel⟩, by decide⟩
theorem vl_X8_275 : VL RX8 275 7 MX7_allFeasts 0 := ⟨⟨TX7, 9, rfl⟩, Or.inl (aT_in 462 (by decide +kernel) rfl), aT_in 463 (by decide +kernel) rfl, aT_in 464 (by decide +kernel) rfl, aT_in 10 (by decide +kernel) rfl, cw_X7_allFeasts, ⟨by decide +kernel, by decide +kernel, by decide +kernel⟩, by decide⟩
theorem fl_X8_299 : FL RX8 299 7 8 := ⟨RX7, TX7, 9, rfl, by decide, rfl, aT_in 138 (by decide +kernel) rfl, lays_X7⟩
theorem vl_X8_347 : VL RX8 347 7 MX7_mayHave 3 := ⟨⟨TX7, 9, rfl⟩, Or.inl (aT_in 385 (by decide +kernel) rfl), aT_in 386 (by decide +kernel) rfl, aT_in 387 (by decide +kernel) rfl, aT_in 10 (by decide +kernel) rfl, cw_X7_mayHave, ⟨by decide +kernel, by decide +kernel, by decide +kernel⟩, by decide⟩
theorem fl_X0_9 : FL RX0 9 0 0 := ⟨RX0, TX0, 3, rfl, by decide, rfl, aT_in 202 (by decide +kernel) rfl, lays_X0⟩
theorem fl_X1_11 : FL RX1 11 1 0 := ⟨RX1, TX1, 2, rfl, by decide, rfl, aT_in 189 (by decide +kernel) rfl, lays_X1⟩
theorem fl_X1_15 : FL RX1 15 1 1 := ⟨RX1, TX1, 2, rfl, by decide, rfl, aT_in 190 (by decide +kernel) rfl, lays_X1⟩
theorem sl_X2_9 : SL RX2 9 MJ6_bitCount_0f7a4 1 := ⟨Or.inl (aT_in 431 (by decide +kernel) rfl), aT_in 432 (by decide +kernel) rfl, aT_in 17 (by decide +kernel) rfl, cw_J6_bitCount_0f7a4, ⟨by decide +kernel, by decide +kernel, by decide +kernel⟩, by decide⟩
theorem kc_X2_15 : Cond.constantLong RX2 15 (1103515245) ∈ aT := aT_in 437 (by decide +kernel) rfl
theorem fl_X2_17 : FL RX2 17 2 0 := ⟨RX2, TX2, 1, rfl, by decide, rfl, aT_in 164 (by decide +kernel) rfl, lays_X2⟩
theorem kc_X2_23 : Cond.constantLong RX2 23 (12345) ∈ aT := aT_in 438 (by decide +kernel) rfl
theorem kc_X2_25 : Cond.constantLong RX2 25 (2147483647) ∈ aT := aT_in 439 (by decide +kernel) rfl
theorem fp_X2_17 : FP RX2 17 2 0 := ⟨RX2, TX2, 1, tyX2, rfl, by decide, rfl, aT_in 164 (by decide +kernel) rfl, lays_X2, tyX2_ok, nmX2, rfl, tyX2_ok 0 (by decide)⟩
theorem kc_X2_27 : Cond.constantLong RX2 27 (65536) ∈ aT := aT_in 440 (by decide +kernel) rfl
theorem sl_X2_29 : SL RX2 29 MX8_bit 1 := ⟨Or.inr ⟨"GivenGoesOn", aN_in 441 (by decide +kernel) rfl⟩, aT_in 299 (by decide +kernel) rfl, aT_in 7 (by decide +kernel) rfl, cw_X8_bit, ⟨by decide +kernel, by decide +kernel, by decide +kernel⟩, by decide⟩
theorem fl_X3_9 : FL RX3 9 3 0 := ⟨RX3, TX3, 8, rfl, by decide, rfl, aT_in 84 (by decide +kernel) rfl, lays_X3⟩
theorem fp_X3_9 : FP RX3 9 3 0 := ⟨RX3, TX3, 8, tyX3, rfl, by decide, rfl, aT_in 84 (by decide +kernel) rfl, lays_X3, tyX3_ok, nmX3, rfl, tyX3_ok 0 (by decide)⟩
theorem fl_X3_15 : FL RX3 15 3 1 := ⟨RX3, TX3, 8, rfl, by decide, rfl, aT_in 86 (by decide +kernel) rfl, lays_X3⟩
theorem fp_X3_15 : FP RX3 15 3 1 := ⟨RX3, TX3, 8, tyX3, rfl, by decide, rfl, aT_in 86 (by decide +kernel) rfl, lays_X3, tyX3_ok, nmX3, rfl, tyX3_ok 1 (by decide)⟩
theorem fl_X3_18 : FL RX3 18 3 2 := ⟨RX3, TX3, 8, rfl, by decide, rfl, aT_in 88 (by decide +kernel) rfl, lays_X3⟩
theorem fp_X3_18 : FP RX3 18 3 2 := ⟨RX3, TX3, 8, tyX3, rfl, by decide, rfl, aT_in 88 (by decide +kernel) rfl, lays_X3, tyX3_ok, nmX3, rfl, tyX3_ok 2 (by decide)⟩
theorem fl_X3_21 : FL RX3 21 3 3 := ⟨RX3, TX3, 8, rfl, by decide, rfl, aT_in 91 (by decide +kernel) rfl, lays_X3⟩
theorem fp_X3_21 : FP RX3 21 3 3 := ⟨RX3, TX3, 8, tyX3, rfl, by decide, rfl, aT_in 91 (by decide +kernel) rfl, lays_X3, tyX3_ok, nmX3, rfl, tyX3_ok 3 (by decide)⟩
theorem fl_X3_24 : FL RX3 24 3 4 := ⟨RX3, TX3, 8, rfl, by decide, rfl, aT_in 94 (by decide +kernel) rfl, lays_X3⟩
theorem fp_X3_24 : FP RX3 24 3 4 := ⟨RX3, TX3, 8, tyX3, rfl, by decide, rfl, aT_in 94 (by decide +kernel) rfl, lays_X3, tyX3_ok, nmX3, rfl, tyX3_ok 4 (by decide)⟩
theorem fl_X3_27 : FL RX3 27 3 5 := ⟨RX3, TX3, 8, rfl, by decide, rfl, aT_in 96 (by decide +kernel) rfl, lays_X3⟩
theorem fp_X3_27 : FP RX3 27 3 5 := ⟨RX3, TX3, 8, tyX3, rfl, by decide, rfl, aT_in 96 (by decide +kernel) rfl, lays_X3, tyX3_ok, nmX3, rfl, tyX3_ok 5 (by decide)⟩
theorem fl_X3_30 : FL RX3 30 3 6 := ⟨RX3, TX3, 8, rfl, by decide, rfl, aT_in 99 (by decide +kernel) rfl, lays_X3⟩
theorem fp_X3_30 : FP RX3 30 3 6 := ⟨RX3, TX3, 8, tyX3, rfl, by decide, rfl, aT_in 99 (by decide +kernel) rfl, lays_X3, tyX3_ok, nmX3, rfl, tyX3_ok 6 (by decide)⟩
theorem fl_X3_33 : FL RX3 33 3 7 := ⟨RX3, TX3, 8, rfl, by decide, rfl, aT_in 102 (by decide +kernel) rfl, lays_X3⟩
theorem fp_X3_33 : FP RX3 33 3 7 := ⟨RX3, TX3, 8, tyX3, rfl, by decide, rfl, aT_in 102 (by decide +kernel) rfl, lays_X3, tyX3_ok, nmX3, rfl, tyX3_ok 7 (by decide)⟩
theorem sl_X3_36 : SL RX3 36 MJ9_max_7cf53 2 := ⟨Or.inl (aT_in 362 (by decide +kernel) rfl), aT_in 363 (by decide +kernel) rfl, aT_in 16 (by decide +kernel) rfl, cw_J9_max_7cf53, ⟨by decide +kernel, by decide +kernel, by decide +kernel⟩, by decide⟩
theorem sl_X3_42 : SL RX3 42 MJ9_min_7cf53 2 := ⟨Or.inl (aT_in 365 (by decide +kernel) rfl), aT_in 366 (by decide +kernel) rfl, aT_in 16 (by decide +kernel) rfl, cw_J9_min_7cf53, ⟨by decide +kernel, by decide +kernel, by decide +kernel⟩, by decide⟩
theorem vl_X3_45 : VL RX3 45 3 MX3_lives 0 := ⟨⟨TX3, 8, rfl⟩, Or.inl (aT_in 416 (by decide +kernel) rfl), aT_in 321 (by decide +kernel) rfl, aT_in 322 (by decide +kernel) rfl, aT_in 11 (by decide +kernel) rfl, cw_X3_lives, ⟨by decide +kernel, by decide +kernel, by decide +kernel⟩, by decide⟩
theorem vl_X3_49 : VL RX3 49 3 MX3_isOf 1 := ⟨⟨TX3, 8, rfl⟩, Or.inl (aT_in 403 (by decide +kernel) rfl), aT_in 373 (by decide +kernel) rfl, aT_in 374 (by decide +kernel) rfl, aT_in 11 (by decide +kernel) rfl, cw_X3_isOf, ⟨by decide +kernel, by decide +kernel, by decide +kernel⟩, by decide⟩
theorem fl_X4_11 : FL RX4 11 4 0 := ⟨RX4, TX4, 4, rfl, by decide, rfl, aT_in 50 (by decide +kernel) rfl, lays_X4⟩
theorem fp_X4_11 : FP RX4 11 4 0 := ⟨RX4, TX4, 4, tyX4, rfl, by decide, rfl, aT_in 50 (by decide +kernel) rfl, lays_X4, tyX4_ok, nmX4, rfl, tyX4_ok 0 (by decide)⟩
theorem fl_X4_15 : FL RX4 15 4 3 := ⟨RX4, TX4, 4, rfl, by decide, rfl, aT_in 59 (by decide +kernel) rfl, lays_X4⟩
theorem fp_X4_15 : FP RX4 15 4 3 := ⟨RX4, TX4, 4, tyX4, rfl, by decide, rfl, aT_in 59 (by decide +kernel) rfl, lays_X4, tyX4_ok, nmX4, rfl, tyX4_ok 3 (by decide)⟩
theorem fl_X4_18 : FL RX4 18 4 1 := ⟨RX4, TX4, 4, rfl, by decide, rfl, aT_in 53 (by decide +kernel) rfl, lays_X4⟩
theorem fp_X4_18 : FP RX4 18 4 1 := ⟨RX4, TX4, 4, tyX4, rfl, by decide, rfl, aT_in 53 (by decide +kernel) rfl, lays_X4, tyX4_ok, nmX4, rfl, tyX4_ok 1 (by decide)⟩
theorem fl_X4_22 : FL RX4 22 4 2 := ⟨RX4, TX4, 4, rfl, by decide, rfl, aT_in 56 (by decide +kernel) rfl, lays_X4⟩
theorem fp_X4_22 : FP RX4 22 4 2 := ⟨RX4, TX4, 4, tyX4, rfl, by decide, rfl, aT_in 56 (by decide +kernel) rfl, lays_X4, tyX4_ok, nmX4, rfl, tyX4_ok 2 (by decide)⟩
theorem fl_X4_25 : FL RX4 25 5 1 := ⟨RX5, TX5, 2, rfl, by decide, rfl, aT_in 36 (by decide +kernel) rfl, lays_X5⟩
theorem fl_X4_30 : FL RX4 30 5 0 := ⟨RX5, TX5, 2, rfl, by decide, rfl, aT_in 34 (by decide +kernel) rfl, lays_X5⟩
theorem fl_X5_9 : FL RX5 9 5 0 := ⟨RX5, TX5, 2, rfl, by decide, rfl, aT_in 33 (by decide +kernel) rfl, lays_X5⟩
theorem sl_X5_15 : SL RX5 15 MX5_byteOf 2 := ⟨Or.inl (aT_in 486 (by decide +kernel) rfl), aT_in 487 (by decide +kernel) rfl, aT_in 8 (by decide +kernel) rfl, cw_X5_byteOf, ⟨by decide +kernel, by decide +kernel, by decide +kernel⟩, by decide⟩
theorem kc_X5_19 : Cond.constantLong RX5 19 (255) ∈ aT := aT_in 489 (by decide +kernel) rfl
theorem fl_X5_21 : FL RX5 21 5 1 := ⟨RX5, TX5, 2, rfl, by decide, rfl, aT_in 37 (by decide +kernel) rfl, lays_X5⟩
theorem fp_X5_21 : FP RX5 21 5 1 := ⟨RX5, TX5, 2, tyX5, rfl, by decide, rfl, aT_in 37 (by decide +kernel) rfl, lays_X5, tyX5_ok, nmX5, rfl, tyX5_ok 1 (by decide)⟩
theorem sl_X5_25 : SL RX5 25 MX5_behind 2 := ⟨Or.inl (aT_in 251 (by decide +kernel) rfl), aT_in 252 (by decide +kernel) rfl, aT_in 8 (by decide +kernel) rfl, cw_X5_behind, ⟨by decide +kernel, by decide +kernel, by decide +kernel⟩, by decide⟩
theorem sl_X5_29 : SL RX5 29 MX8_within 3 := ⟨Or.inr ⟨"GivenGoesOn", aN_in 254 (by decide +kernel) rfl⟩, aT_in 255 (by decide +kernel) rfl, aT_in 7 (by decide +kernel) rfl, cw_X8_within, ⟨by decide +kernel, by decide +kernel, by decide +kernel⟩, by decide⟩
theorem fl_X6_11 : FL RX6 11 6 0 := ⟨RX6, TX6, 2, rfl, by decide, rfl, aT_in 175 (by decide +kernel) rfl, lays_X6⟩
theorem fl_X6_15 : FL RX6 15 6 1 := ⟨RX6, TX6, 2, rfl, by decide, rfl, aT_in 176 (by decide +kernel) rfl, lays_X6⟩
theorem fl_X7_9 : FL RX7 9 7 1 := ⟨RX7, TX7, 9, rfl, by decide, rfl, aT_in 123 (by decide +kernel) rfl, lays_X7⟩
theorem fl_X7_15 : FL RX7 15 7 2 := ⟨RX7, TX7, 9, rfl, by decide, rfl, aT_in 125 (by decide +kernel) rfl, lays_X7⟩
theorem fl_X7_18 : FL RX7 18 7 3 := ⟨RX7, TX7, 9, rfl, by decide, rfl, aT_in 127 (by decide +kernel) rfl, lays_X7⟩
theorem fl_X7_21 : FL RX7 21 7 4 := ⟨RX7, TX7, 9, rfl, by decide, rfl, aT_in 129 (by decide +kernel) rfl, lays_X7⟩
theorem fl_X7_24 : FL RX7 24 7 5 := ⟨RX7, TX7, 9, rfl, by decide, rfl, aT_in 131 (by decide +kernel) rfl, lays_X7⟩
theorem fl_X7_29 : FL RX7 29 7 7 := ⟨RX7, TX7, 9, rfl, by decide, rfl, aT_in 135 (by decide +kernel) rfl, lays_X7⟩
theorem fl_X7_34 : FL RX7 34 7 0 := ⟨RX7, TX7, 9, rfl, by decide, rfl, aT_in 121 (by decide +kernel) rfl, lays_X7⟩
theorem fp_X7_34 : FP RX7 34 7 0 := ⟨RX7, TX7, 9, tyX7, rfl, by decide, rfl, aT_in 121 (by decide +kernel) rfl, lays_X7, tyX7_ok, nmX7, rfl, tyX7_ok 0 (by decide)⟩
theorem cp_X7_38 : CPL RX7 38 := ⟨aT_in 451 (by decide +kernel) rfl, aT_in 453 (by decide +kernel) rfl, aT_in 452 (by decide +kernel) rfl, aT_in 18 (by decide +kernel) rfl⟩
theorem fl_X7_44 : FL RX7 44 7 6 := ⟨RX7, TX7, 9, rfl, by decide, rfl, aT_in 133 (by decide +kernel) rfl, lays_X7⟩
theorem fp_X7_44 : FP RX7 44 7 6 := ⟨RX7, TX7, 9, tyX7, rfl, by decide, rfl, aT_in 133 (by decide +kernel) rfl, lays_X7, tyX7_ok, nmX7, rfl, tyX7_ok 6 (by decide)⟩
theorem vl_X7_47 : VL RX7 47 3 MX3_copyFrom 1 := ⟨⟨TX3, 8, rfl⟩, Or.inl (aT_in 454 (by decide +kernel) rfl), aT_in 455 (by decide +kernel) rfl, aT_in 456 (by decide +kernel) rfl, aT_in 11 (by decide +kernel) rfl, cw_X3_copyFrom, ⟨by decide +kernel, by decide +kernel, by decide +kernel⟩, by decide⟩
theorem fl_X7_51 : FL RX7 51 7 8 := ⟨RX7, TX7, 9, rfl, by decide, rfl, aT_in 137 (by decide +kernel) rfl, lays_X7⟩
theorem fp_X7_51 : FP RX7 51 7 8 := ⟨RX7, TX7, 9, tyX7, rfl, by decide, rfl, aT_in 137 (by decide +kernel) rfl, lays_X7, tyX7_ok, nmX7, rfl, tyX7_ok 8 (by decide)⟩
theorem vl_X7_54 : VL RX7 54 3 MX3_begin 2 := ⟨⟨TX3, 8, rfl⟩, Or.inl (aT_in 346 (by decide +kernel) rfl), aT_in 347 (by decide +kernel) rfl, aT_in 348 (by decide +kernel) rfl, aT_in 11 (by decide +kernel) rfl, cw_X3_begin, ⟨by decide +kernel, by decide +kernel, by decide +kernel⟩, by decide⟩
theorem sl_X7_58 : SL RX7 58 MX8_bit 1 := ⟨Or.inr ⟨"GivenGoesOn", aN_in 298 (by decide +kernel) rfl⟩, aT_in 299 (by decide +kernel) rfl, aT_in 7 (by decide +kernel) rfl, cw_X8_bit, ⟨by decide +kernel, by decide +kernel, by decide +kernel⟩, by decide⟩
theorem vl_X7_62 : VL RX7 62 3 MX3_lives 0 := ⟨⟨TX3, 8, rfl⟩, Or.inl (aT_in 320 (by decide +kernel) rfl), aT_in 321 (by decide +kernel) rfl, aT_in 322 (by decide +kernel) rfl, aT_in 11 (by decide +kernel) rfl, cw_X3_lives, ⟨by decide +kernel, by decide +kernel, by decide +kernel⟩, by decide⟩
theorem fl_X7_66 : FL RX7 66 3 2 := ⟨RX3, TX3, 8, rfl, by decide, rfl, aT_in 89 (by decide +kernel) rfl, lays_X3⟩
theorem sl_X7_69 : SL RX7 69 MX8_pair 2 := ⟨Or.inr ⟨"GivenGoesOn", aN_in 337 (by decide +kernel) rfl⟩, aT_in 310 (by decide +kernel) rfl, aT_in 7 (by decide +kernel) rfl, cw_X8_pair, ⟨by decide +kernel, by decide +kernel, by decide +kernel⟩, by decide⟩
theorem vl_X7_73 : VL RX7 73 3 MX3_worth 0 := ⟨⟨TX3, 8, rfl⟩, Or.inl (aT_in 398 (by decide +kernel) rfl), aT_in 359 (by decide +kernel) rfl, aT_in 360 (by decide +kernel) rfl, aT_in 11 (by decide +kernel) rfl, cw_X3_worth, ⟨by decide +kernel, by decide +kernel, by decide +kernel⟩, by decide⟩
theorem vl_X7_77 : VL RX7 77 3 MX3_moveTo 2 := ⟨⟨TX3, 8, rfl⟩, Or.inl (aT_in 399 (by decide +kernel) rfl), aT_in 400 (by decide +kernel) rfl, aT_in 401 (by decide +kernel) rfl, aT_in 11 (by decide +kernel) rfl, cw_X3_moveTo, ⟨by decide +kernel, by decide +kernel, by decide +kernel⟩, by decide⟩
theorem fl_X7_80 : FL RX7 80 3 6 := ⟨RX3, TX3, 8, rfl, by decide, rfl, aT_in 100 (by decide +kernel) rfl, lays_X3⟩
theorem fl_X7_83 : FL RX7 83 3 5 := ⟨RX3, TX3, 8, rfl, by decide, rfl, aT_in 97 (by decide +kernel) rfl, lays_X3⟩
theorem fp_X7_83 : FP RX7 83 3 5 := ⟨RX3, TX3, 8, tyX3, rfl, by decide, rfl, aT_in 97 (by decide +kernel) rfl, lays_X3, tyX3_ok, nmX3, rfl, tyX3_ok 5 (by decide)⟩
theorem fl_X7_86 : FL RX7 86 4 0 := ⟨RX4, TX4, 4, rfl, by decide, rfl, aT_in 52 (by decide +kernel) rfl, lays_X4⟩
theorem vl_X7_91 : VL RX7 91 3 MX3_mustGo 1 := ⟨⟨TX3, 8, rfl⟩, Or.inl (aT_in 412 (by decide +kernel) rfl), aT_in 413 (by decide +kernel) rfl, aT_in 414 (by decide +kernel) rfl, aT_in 11 (by decide +kernel) rfl, cw_X3_mustGo, ⟨by decide +kernel, by decide +kernel, by decide +kernel⟩, by decide⟩
theorem fl_X7_95 : FL RX7 95 4 2 := ⟨RX4, TX4, 4, rfl, by decide, rfl, aT_in 58 (by decide +kernel) rfl, lays_X4⟩
theorem fl_X7_99 : FL RX7 99 3 3 := ⟨RX3, TX3, 8, rfl, by decide, rfl, aT_in 92 (by decide +kernel) rfl, lays_X3⟩
theorem fl_X7_102 : FL RX7 102 4 1 := ⟨RX4, TX4, 4, rfl, by decide, rfl, aT_in 55 (by decide +kernel) rfl, lays_X4⟩
theorem vl_X7_105 : VL RX7 105 7 MX7_mayHave 3 := ⟨⟨TX7, 9, rfl⟩, Or.inl (aT_in 417 (by decide +kernel) rfl), aT_in 386 (by decide +kernel) rfl, aT_in 387 (by decide +kernel) rfl, aT_in 10 (by decide +kernel) rfl, cw_X7_mayHave, ⟨by decide +kernel, by decide +kernel, by decide +kernel⟩, by decide⟩
theorem vl_X7_109 : VL RX7 109 7 MX7_chosenBy 2 := ⟨⟨TX7, 9, rfl⟩, Or.inl (aT_in 418 (by decide +kernel) rfl), aT_in 420 (by decide +kernel) rfl, aT_in 4 (by decide +kernel) rfl, aT_in 10 (by decide +kernel) rfl, cw_X7_chosenBy, ⟨by decide +kernel, by decide +kernel, by decide +kernel⟩, by decide⟩
theorem vl_X7_112 : VL RX7 112 2 MX2_oneOf 1 := ⟨⟨TX2, 1, rfl⟩, Or.inl (aT_in 427 (by decide +kernel) rfl), aT_in 428 (by decide +kernel) rfl, aT_in 429 (by decide +kernel) rfl, aT_in 12 (by decide +kernel) rfl, cw_X2_oneOf, ⟨by decide +kernel, by decide +kernel, by decide +kernel⟩, by decide⟩
theorem fl_X7_117 : FL RX7 117 4 3 := ⟨RX4, TX4, 4, rfl, by decide, rfl, aT_in 61 (by decide +kernel) rfl, lays_X4⟩
theorem vl_X7_120 : VL RX7 120 7 MX7_handOn 3 := ⟨⟨TX7, 9, rfl⟩, Or.inl (aT_in 442 (by decide +kernel) rfl), aT_in 395 (by decide +kernel) rfl, aT_in 396 (by decide +kernel) rfl, aT_in 10 (by decide +kernel) rfl, cw_X7_handOn, ⟨by decide +kernel, by decide +kernel, by decide +kernel⟩, by decide⟩
theorem vl_X7_124 : VL RX7 124 7 MX7_markOf 2 := ⟨⟨TX7, 9, rfl⟩, Or.inl (aT_in 422 (by decide +kernel) rfl), aT_in 424 (by decide +kernel) rfl, aT_in 5 (by decide +kernel) rfl, aT_in 10 (by decide +kernel) rfl, cw_X7_markOf, ⟨by decide +kernel, by decide +kernel, by decide +kernel⟩, by decide⟩
theorem vl_X7_127 : VL RX7 127 7 MX7_heldBy 1 := ⟨⟨TX7, 9, rfl⟩, Or.inl (aT_in 426 (by decide +kernel) rfl), aT_in 317 (by decide +kernel) rfl, aT_in 318 (by decide +kernel) rfl, aT_in 10 (by decide +kernel) rfl, cw_X7_heldBy, ⟨by decide +kernel, by decide +kernel, by decide +kernel⟩, by decide⟩
theorem kc_L_7 : Cond.constant RL 7 (747796405) ∈ aT := aT_in 469 (by decide +kernel) rfl
theorem sl_L_8 : SL RL 8 ML_at 2 := ⟨Or.inl (aT_in 470 (by decide +kernel) rfl), aT_in 471 (by decide +kernel) rfl, aT_in 6 (by decide +kernel) rfl, cw_L_at, ⟨by decide +kernel, by decide +kernel, by decide +kernel⟩, by decide⟩
theorem vl_L_14 : VL RL 14 8 MX8_letters 1 := ⟨⟨TX8, 11, rfl⟩, Or.inl (aT_in 479 (by decide +kernel) rfl), aT_in 480 (by decide +kernel) rfl, aT_in 481 (by decide +kernel) rfl, aT_in 7 (by decide +kernel) rfl, cw_X8_letters, ⟨by decide +kernel, by decide +kernel, by decide +kernel⟩, by decide⟩
theorem sl_L_20 : SL RL 20 ML_cell 2 := ⟨Or.inl (aT_in 466 (by decide +kernel) rfl), aT_in 467 (by decide +kernel) rfl, aT_in 6 (by decide +kernel) rfl, cw_L_cell, ⟨by decide +kernel, by decide +kernel, by decide +kernel⟩, by decide⟩
theorem vl_L_24 : VL RL 24 8 MX8_person 1 := ⟨⟨TX8, 11, rfl⟩, Or.inl (aT_in 274 (by decide +kernel) rfl), aT_in 275 (by decide +kernel) rfl, aT_in 276 (by decide +kernel) rfl, aT_in 7 (by decide +kernel) rfl, cw_X8_person, ⟨by decide +kernel, by decide +kernel, by decide +kernel⟩, by decide⟩
theorem vl_L_28 : VL RL 28 8 MX8_know 3 := ⟨⟨TX8, 11, rfl⟩, Or.inl (aT_in 282 (by decide +kernel) rfl), aT_in 283 (by decide +kernel) rfl, aT_in 284 (by decide +kernel) rfl, aT_in 7 (by decide +kernel) rfl, cw_X8_know, ⟨by decide +kernel, by decide +kernel, by decide +kernel⟩, by decide⟩
theorem vl_L_32 : VL RL 32 8 MX8_like 3 := ⟨⟨TX8, 11, rfl⟩, Or.inl (aT_in 305 (by decide +kernel) rfl), aT_in 306 (by decide +kernel) rfl, aT_in 307 (by decide +kernel) rfl, aT_in 7 (by decide +kernel) rfl, cw_X8_like, ⟨by decide +kernel, by decide +kernel, by decide +kernel⟩, by decide⟩
theorem vl_L_36 : VL RL 36 8 MX8_gift 2 := ⟨⟨TX8, 11, rfl⟩, Or.inl (aT_in 338 (by decide +kernel) rfl), aT_in 339 (by decide +kernel) rfl, aT_in 340 (by decide +kernel) rfl, aT_in 7 (by decide +kernel) rfl, cw_X8_gift, ⟨by decide +kernel, by decide +kernel, by decide +kernel⟩, by decide⟩
theorem sl_L_39 : SL RL 39 ML_worth 2 := ⟨Or.inl (aT_in 506 (by decide +kernel) rfl), aT_in 507 (by decide +kernel) rfl, aT_in 6 (by decide +kernel) rfl, cw_L_worth, ⟨by decide +kernel, by decide +kernel, by decide +kernel⟩, by decide⟩
theorem sl_L_42 : SL RL 42 ML_holds 3 := ⟨Or.inl (aT_in 515 (by decide +kernel) rfl), aT_in 516 (by decide +kernel) rfl, aT_in 6 (by decide +kernel) rfl, cw_L_holds, ⟨by decide +kernel, by decide +kernel, by decide +kernel⟩, by decide⟩
theorem sl_L_46 : SL RL 46 ML_may 4 := ⟨Or.inl (aT_in 500 (by decide +kernel) rfl), aT_in 501 (by decide +kernel) rfl, aT_in 6 (by decide +kernel) rfl, cw_L_may, ⟨by decide +kernel, by decide +kernel, by decide +kernel⟩, by decide⟩
theorem sl_L_50 : SL RL 50 ML_habit 5 := ⟨Or.inl (aT_in 512 (by decide +kernel) rfl), aT_in 513 (by decide +kernel) rfl, aT_in 6 (by decide +kernel) rfl, cw_L_habit, ⟨by decide +kernel, by decide +kernel, by decide +kernel⟩, by decide⟩
theorem kc_L_54 : Cond.constantLong RL 54 (1103515245) ∈ aT := aT_in 518 (by decide +kernel) rfl
theorem kc_L_56 : Cond.constantLong RL 56 (12345) ∈ aT := aT_in 519 (by decide +kernel) rfl
theorem kc_L_58 : Cond.constantLong RL 58 (2147483648) ∈ aT := aT_in 520 (by decide +kernel) rfl
theorem kc_L_60 : Cond.constantLong RL 60 (65536) ∈ aT := aT_in 521 (by decide +kernel) rfl
theorem sl_L_62 : SL RL 62 ML_give 6 := ⟨Or.inl (aT_in 503 (by decide +kernel) rfl), aT_in 504 (by decide +kernel) rfl, aT_in 6 (by decide +kernel) rfl, cw_L_give, ⟨by decide +kernel, by decide +kernel, by decide +kernel⟩, by decide⟩
theorem vl_L_66 : VL RL 66 8 MX8_owes 2 := ⟨⟨TX8, 11, rfl⟩, Or.inl (aT_in 324 (by decide +kernel) rfl), aT_in 325 (by decide +kernel) rfl, aT_in 326 (by decide +kernel) rfl, aT_in 7 (by decide +kernel) rfl, cw_X8_owes, ⟨by decide +kernel, by decide +kernel, by decide +kernel⟩, by decide⟩
theorem vl_L_69 : VL RL 69 8 MX8_rest 1 := ⟨⟨TX8, 11, rfl⟩, Or.inl (aT_in 328 (by decide +kernel) rfl), aT_in 329 (by decide +kernel) rfl, aT_in 330 (by decide +kernel) rfl, aT_in 7 (by decide +kernel) rfl, cw_X8_rest, ⟨by decide +kernel, by decide +kernel, by decide +kernel⟩, by decide⟩
theorem vl_L_72 : VL RL 72 8 MX8_about 2 := ⟨⟨TX8, 11, rfl⟩, Or.inl (aT_in 312 (by decide +kernel) rfl), aT_in 313 (by decide +kernel) rfl, aT_in 314 (by decide +kernel) rfl, aT_in 7 (by decide +kernel) rfl, cw_X8_about, ⟨by decide +kernel, by decide +kernel, by decide +kernel⟩, by decide⟩
theorem vl_L_75 : VL RL 75 8 MX8_told 2 := ⟨⟨TX8, 11, rfl⟩, Or.inl (aT_in 350 (by decide +kernel) rfl), aT_in 351 (by decide +kernel) rfl, aT_in 352 (by decide +kernel) rfl, aT_in 7 (by decide +kernel) rfl, cw_X8_told, ⟨by decide +kernel, by decide +kernel, by decide +kernel⟩, by decide⟩
theorem vl_L_78 : VL RL 78 8 MX8_count 1 := ⟨⟨TX8, 11, rfl⟩, Or.inl (aT_in 525 (by decide +kernel) rfl), aT_in 526 (by decide +kernel) rfl, aT_in 527 (by decide +kernel) rfl, aT_in 7 (by decide +kernel) rfl, cw_X8_count, ⟨by decide +kernel, by decide +kernel, by decide +kernel⟩, by decide⟩
theorem sl_L_82 : SL RL 82 ML_lawText 3 := ⟨Or.inl (aT_in 473 (by decide +kernel) rfl), aT_in 474 (by decide +kernel) rfl, aT_in 6 (by decide +kernel) rfl, cw_L_lawText, ⟨by decide +kernel, by decide +kernel, by decide +kernel⟩, by decide⟩
theorem sl_L_86 : SL RL 86 ML_write 3 := ⟨Or.inl (aT_in 476 (by decide +kernel) rfl), aT_in 477 (by decide +kernel) rfl, aT_in 6 (by decide +kernel) rfl, cw_L_write, ⟨by decide +kernel, by decide +kernel, by decide +kernel⟩, by decide⟩
theorem vl_L_90 : VL RL 90 8 MX8_fault 0 := ⟨⟨TX8, 11, rfl⟩, Or.inl (aT_in 243 (by decide +kernel) rfl), aT_in 244 (by decide +kernel) rfl, aT_in 245 (by decide +kernel) rfl, aT_in 7 (by decide +kernel) rfl, cw_X8_fault, ⟨by decide +kernel, by decide +kernel, by decide +kernel⟩, by decide⟩
theorem vl_L_94 : VL RL 94 8 MX8_law 0 := ⟨⟨TX8, 11, rfl⟩, Or.inl (aT_in 257 (by decide +kernel) rfl), aT_in 258 (by decide +kernel) rfl, aT_in 259 (by decide +kernel) rfl, aT_in 7 (by decide +kernel) rfl, cw_X8_law, ⟨by decide +kernel, by decide +kernel, by decide +kernel⟩, by decide⟩
theorem vl_L_97 : VL RL 97 8 MX8_lawTold 1 := ⟨⟨TX8, 11, rfl⟩, Or.inl (aT_in 269 (by decide +kernel) rfl), aT_in 270 (by decide +kernel) rfl, aT_in 271 (by decide +kernel) rfl, aT_in 7 (by decide +kernel) rfl, cw_X8_lawTold, ⟨by decide +kernel, by decide +kernel, by decide +kernel⟩, by decide⟩
theorem sl_L_100 : SL RL 100 ML_people 6 := ⟨Or.inl (aT_in 494 (by decide +kernel) rfl), aT_in 495 (by decide +kernel) rfl, aT_in 6 (by decide +kernel) rfl, cw_L_people, ⟨by decide +kernel, by decide +kernel, by decide +kernel⟩, by decide⟩
theorem sl_L_104 : SL RL 104 ML_gifts 6 := ⟨Or.inl (aT_in 497 (by decide +kernel) rfl), aT_in 498 (by decide +kernel) rfl, aT_in 6 (by decide +kernel) rfl, cw_L_gifts, ⟨by decide +kernel, by decide +kernel, by decide +kernel⟩, by decide⟩
theorem sl_L_107 : SL RL 107 ML_stands 4 := ⟨Or.inl (aT_in 522 (by decide +kernel) rfl), aT_in 523 (by decide +kernel) rfl, aT_in 6 (by decide +kernel) rfl, cw_L_stands, ⟨by decide +kernel, by decide +kernel, by decide +kernel⟩, by decide⟩
theorem vl_L_111 : VL RL 111 8 MX8_as 2 := ⟨⟨TX8, 11, rfl⟩, Or.inl (aT_in 368 (by decide +kernel) rfl), aT_in 369 (by decide +kernel) rfl, aT_in 370 (by decide +kernel) rfl, aT_in 7 (by decide +kernel) rfl, cw_X8_as, ⟨by decide +kernel, by decide +kernel, by decide +kernel⟩, by decide⟩
theorem vl_L_114 : VL RL 114 8 MX8_may 1 := ⟨⟨TX8, 11, rfl⟩, Or.inl (aT_in 376 (by decide +kernel) rfl), aT_in 377 (by decide +kernel) rfl, aT_in 378 (by decide +kernel) rfl, aT_in 7 (by decide +kernel) rfl, cw_X8_may, ⟨by decide +kernel, by decide +kernel, by decide +kernel⟩, by decide⟩
theorem vl_L_116 : VL RL 116 8 MX8_give 2 := ⟨⟨TX8, 11, rfl⟩, Or.inl (aT_in 389 (by decide +kernel) rfl), aT_in 390 (by decide +kernel) rfl, aT_in 391 (by decide +kernel) rfl, aT_in 7 (by decide +kernel) rfl, cw_X8_give, ⟨by decide +kernel, by decide +kernel, by decide +kernel⟩, by decide⟩
theorem kc_L_118 : Cond.constantLong RL 118 (-1) ∈ aT := aT_in 529 (by decide +kernel) rfl
theorem sl_L_120 : SL RL 120 ML_year 6 := ⟨Or.inl (aT_in 509 (by decide +kernel) rfl), aT_in 510 (by decide +kernel) rfl, aT_in 6 (by decide +kernel) rfl, cw_L_year, ⟨by decide +kernel, by decide +kernel, by decide +kernel⟩, by decide⟩
theorem vl_L_124 : VL RL 124 8 MX8_years 1 := ⟨⟨TX8, 11, rfl⟩, Or.inl (aT_in 404 (by decide +kernel) rfl), aT_in 405 (by decide +kernel) rfl, aT_in 406 (by decide +kernel) rfl, aT_in 7 (by decide +kernel) rfl, cw_X8_years, ⟨by decide +kernel, by decide +kernel, by decide +kernel⟩, by decide⟩
theorem kc_L_127 : Cond.constant RL 127 (2147483647) ∈ aT := aT_in 530 (by decide +kernel) rfl
theorem vl_L_128 : VL RL 128 8 MX8_drawn 3 := ⟨⟨TX8, 11, rfl⟩, Or.inl (aT_in 443 (by decide +kernel) rfl), aT_in 444 (by decide +kernel) rfl, aT_in 445 (by decide +kernel) rfl, aT_in 7 (by decide +kernel) rfl, cw_X8_drawn, ⟨by decide +kernel, by decide +kernel, by decide +kernel⟩, by decide⟩
theorem kc_L_131 : Cond.constant RL 131 (-100001) ∈ aT := aT_in 531 (by decide +kernel) rfl
theorem kc_J6_265 : Cond.constant RJ6 265 (1431655765) ∈ aT := aT_in 434 (by decide +kernel) rfl
theorem kc_J6_266 : Cond.constant RJ6 266 (858993459) ∈ aT := aT_in 435 (by decide +kernel) rfl
theorem kc_J6_267 : Cond.constant RJ6 267 (252645135) ∈ aT := aT_in 436 (by decide +kernel) rfl
