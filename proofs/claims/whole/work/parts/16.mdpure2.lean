def QB (no nn : Nat) (M : Nat → Nat → Bool) (Rg : Nat → Nat → Prop) (bl bn bo : Nat) : Prop :=
  (∀ w o, w < nn → o < no → Rg w o → rn M nn o w ≤ bl) ∧ rn M nn bo bn = bl ∧ (bl = 0 → bn = 0 ∧ bo = 0) ∧ (∀ w o, w < nn → o < no → Rg w o → rn M nn o w = bl → bn < w ∨ (bn = w ∧ bo ≤ o)) ∧ ((bn = 0 ∨ bn < nn) ∧ (bo = 0 ∨ bo < no)) ∧ ((bn = 0 ∧ bo = 0) ∨ Rg bn bo)
theorem QB_0 {no nn : Nat} {M : Nat → Nat → Bool} : QB no nn M (RR 0 0) (rn M nn 0 0) 0 0 :=
  ⟨fun w o _ _ hr => absurd hr (by show ¬ (w < 0 ∨ (w = 0 ∧ o < 0)); omega), rfl, fun _ => ⟨rfl, rfl⟩, fun w o _ _ hr => absurd hr (by show ¬ (w < 0 ∨ (w = 0 ∧ o < 0)); omega), ⟨Or.inl rfl, Or.inl rfl⟩, Or.inl ⟨rfl, rfl⟩⟩
theorem QB_yes {no nn : Nat} {M : Nat → Nat → Bool} {i j bl bn bo : Nat} (h : QB no nn M (RR i j) bl bn bo) (hi : i < nn) (hj : j < no) (hb : bl < rn M nn j i) : QB no nn M (RR i (j + 1)) (rn M nn j i) i j := by
  obtain ⟨h1, h2, h3, h4, h5, h6⟩ := h
  refine ⟨fun w o hw ho hr => ?_, rfl, fun h0 => by omega, fun w o hw ho hr he => ?_, ⟨Or.inr hi, Or.inr hj⟩, Or.inr (Or.inr ⟨rfl, by omega⟩)⟩
  · have hr : w < i ∨ (w = i ∧ o < j + 1) := hr
    by_cases hx : w = i ∧ o = j
    · rw [hx.1, hx.2]; exact Nat.le_refl _
    · have := h1 w o hw ho (show w < i ∨ (w = i ∧ o < j) by omega); omega
  · have hr : w < i ∨ (w = i ∧ o < j + 1) := hr
    by_cases hx : w = i ∧ o = j
    · omega
    · have := h1 w o hw ho (show w < i ∨ (w = i ∧ o < j) by omega); omega
theorem QB_keep {no nn : Nat} {M : Nat → Nat → Bool} {i j bl bn bo : Nat} (h : QB no nn M (RR i j) bl bn bo) (hb : rn M nn j i ≤ bl) : QB no nn M (RR i (j + 1)) bl bn bo := by
  obtain ⟨h1, h2, h3, h4, h5, h6⟩ := h
  have h6' : (bn = 0 ∧ bo = 0) ∨ bn < i ∨ (bn = i ∧ bo < j) := h6
  refine ⟨fun w o hw ho hr => ?_, h2, h3, fun w o hw ho hr he => ?_, h5, ?_⟩
  · have hr : w < i ∨ (w = i ∧ o < j + 1) := hr
    by_cases hx : w = i ∧ o = j
    · rw [hx.1, hx.2]; exact hb
    · exact h1 w o hw ho (show w < i ∨ (w = i ∧ o < j) by omega)
  · have hr : w < i ∨ (w = i ∧ o < j + 1) := hr
    by_cases hx : w = i ∧ o = j
    · omega
    · exact h4 w o hw ho (show w < i ∨ (w = i ∧ o < j) by omega) he
  · show (bn = 0 ∧ bo = 0) ∨ bn < i ∨ (bn = i ∧ bo < j + 1)
    omega
theorem QB_row {no nn : Nat} {M : Nat → Nat → Bool} {i j bl bn bo : Nat} (hj : j = no) (h : QB no nn M (RR i j) bl bn bo) : QB no nn M (RR (i + 1) 0) bl bn bo := by
  obtain ⟨h1, h2, h3, h4, h5, h6⟩ := h
  have h6' : (bn = 0 ∧ bo = 0) ∨ bn < i ∨ (bn = i ∧ bo < j) := h6
  refine ⟨fun w o hw ho hr => ?_, h2, h3, fun w o hw ho hr he => ?_, h5, ?_⟩
  · have hr : w < i + 1 ∨ (w = i + 1 ∧ o < 0) := hr
    exact h1 w o hw ho (show w < i ∨ (w = i ∧ o < j) by omega)
  · have hr : w < i + 1 ∨ (w = i + 1 ∧ o < 0) := hr
    exact h4 w o hw ho (show w < i ∨ (w = i ∧ o < j) by omega) he
  · show (bn = 0 ∧ bo = 0) ∨ bn < i + 1 ∨ (bn = i + 1 ∧ bo < 0)
    omega
theorem QB_end {no nn : Nat} {mt : Nat → Nat → Bool} {ot nt : Nat → Bool} {i bl bn bo : Nat} (hi : i = nn) (h : QB no nn (Mf no nn mt ot nt) (RR i 0) bl bn bo) : PB no nn (Mf no nn mt ot nt) RT bl bn bo := by
  obtain ⟨h1, h2, h3, h4, h5, h6⟩ := h
  refine ⟨fun w o hw ho _ => h1 w o hw ho (show w < i ∨ (w = i ∧ o < 0) by omega), h3, fun h0 => ?_⟩
  have hM := Mf_lt (rn_all (t := 0) (show 0 < rn (Mf no nn mt ot nt) nn bo bn by omega))
  exact ⟨by omega, by omega, trivial, h2, fun w o hw ho _ => h4 w o hw ho (show w < i ∨ (w = i ∧ o < 0) by omega)⟩
theorem MMeq (no nn : Nat) (mt : Nat → Nat → Bool) {bs : List bT} {b1 : Nat → Int} {t1 : Nat → Bool} (h : ∀ j, j < 48 → b1 j = plc bs j ∧ t1 j = tO bs j) (hno : no ≤ 48) (hnn : nn ≤ 48) : Mf no nn mt t1 (fun w => decide (¬ b1 w = -10005)) = MM no nn mt bs :=
  Mf_congr (fun o ho => (h o (by omega)).2) (fun w hw => by show decide (¬ b1 w = -10005) = tN bs w; rw [(h w (by omega)).1]; exact plc_tN)
theorem bx_congr {k : Nat} {os ns ln osr nsr lnr : Nat → Nat} (ha : ∀ j, j < k → osr j = os j ∧ nsr j = ns j ∧ lnr j = ln j) {x : Nat} : bx k nsr lnr x = bx k ns ln x := by
  unfold bx wni
  exact fst_congr (fun j hj => by unfold cv; rw [(ha j hj).2.1, (ha j hj).2.2])
