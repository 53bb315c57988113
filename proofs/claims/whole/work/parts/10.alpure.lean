/-! runs of matching words, the best of them, the greedy choice -/
theorem vAt_in {n : Nat} {v : Nat → Int} {j : Nat} (h : j < n) : vAt n v (j : Int) = v j := by
  unfold vAt; rw [if_pos (by omega)]; rfl
theorem fAt_in {n : Nat} {f : Nat → Bool} {j : Nat} (h : j < n) : fAt n f (j : Int) = f j := by
  unfold fAt; rw [decide_eq_true (by omega)]; simp
theorem bZ_inj {a b : Bool} (h : bZ a = bZ b) : a = b := by
  cases a <;> cases b <;> first | rfl | exact absurd h (by decide)
def mtc (vo vn : Nat → Int) (fo fn : Nat → Bool) (o w : Nat) : Bool := if fo o = fn w then fo o || decide (vo o = vn w) else false
def Mf (no nn : Nat) (mt : Nat → Nat → Bool) (ot nt : Nat → Bool) (o w : Nat) : Bool := decide (o < no ∧ w < nn) && (!ot o && !nt w && mt o w)
theorem Mf_in {no nn : Nat} {mt : Nat → Nat → Bool} {ot nt : Nat → Bool} {o w : Nat} (ho : o < no) (hw : w < nn) : Mf no nn mt ot nt o w = (!ot o && !nt w && mt o w) := by
  unfold Mf; rw [decide_eq_true ⟨ho, hw⟩]; rfl
theorem Mf_lt {no nn : Nat} {mt : Nat → Nat → Bool} {ot nt : Nat → Bool} {o w : Nat} (h : Mf no nn mt ot nt o w = true) : o < no ∧ w < nn ∧ ot o = false ∧ nt w = false := by
  unfold Mf at h; simp at h; exact ⟨h.1.1, h.1.2, h.2.1.1, h.2.1.2⟩
theorem Mf_congr {no nn : Nat} {mt : Nat → Nat → Bool} {ot nt ot' nt' : Nat → Bool} (h1 : ∀ o, o < no → ot o = ot' o) (h2 : ∀ w, w < nn → nt w = nt' w) : Mf no nn mt ot nt = Mf no nn mt ot' nt' := by
  funext o w
  unfold Mf
  by_cases h : o < no ∧ w < nn
  · rw [h1 o h.1, h2 w h.2]
  · rw [decide_eq_false h]; rfl
def rl (M : Nat → Nat → Bool) : Nat → Nat → Nat → Nat
  | 0, _, _ => 0
  | m + 1, o, w => if M o w = true then rl M m (o + 1) (w + 1) + 1 else 0
def rn (M : Nat → Nat → Bool) (nn o w : Nat) : Nat := rl M (nn - w) o w
theorem rl_le (M : Nat → Nat → Bool) : ∀ m o w, rl M m o w ≤ m
  | 0, _, _ => Nat.le_refl _
  | m + 1, o, w => by
    have := rl_le M m (o + 1) (w + 1)
    unfold rl; split <;> omega
theorem rl_all (M : Nat → Nat → Bool) : ∀ m o w t, t < rl M m o w → M (o + t) (w + t) = true
  | 0, _, _, t, h => absurd h (Nat.not_lt_zero _)
  | m + 1, o, w, t, h => by
    unfold rl at h
    by_cases hM : M o w = true
    · rw [if_pos hM] at h
      cases t with
      | zero => exact hM
      | succ t =>
        have := rl_all M m (o + 1) (w + 1) t (by omega)
        rw [show o + (t + 1) = o + 1 + t from by omega, show w + (t + 1) = w + 1 + t from by omega]
        exact this
    · rw [if_neg hM] at h; exact absurd h (Nat.not_lt_zero _)
theorem rn_le (M : Nat → Nat → Bool) (nn o w : Nat) : rn M nn o w ≤ nn - w := rl_le M _ o w
theorem rn_all {M : Nat → Nat → Bool} {nn o w t : Nat} (h : t < rn M nn o w) : M (o + t) (w + t) = true := rl_all M _ o w t h
theorem rn_yes {M : Nat → Nat → Bool} {nn o w : Nat} (hw : w < nn) (h : M o w = true) : rn M nn o w = rn M nn (o + 1) (w + 1) + 1 := by
  unfold rn
  rw [show nn - w = (nn - (w + 1)) + 1 from by omega]
  show (if M o w = true then _ else _) = _
  rw [if_pos h]
theorem rn_no {M : Nat → Nat → Bool} {nn o w : Nat} (h : M o w = false) : rn M nn o w = 0 := by
  unfold rn
  cases hm : nn - w with
  | zero => rfl
  | succ m => show (if M o w = true then _ else _) = _; rw [if_neg (by rw [h]; decide)]
theorem rn_end (M : Nat → Nat → Bool) (nn o : Nat) {w : Nat} (h : nn ≤ w) : rn M nn o w = 0 := by
  unfold rn; rw [show nn - w = 0 from by omega]; rfl
def PB (no nn : Nat) (M : Nat → Nat → Bool) (Rg : Nat → Nat → Prop) (bl bn bo : Nat) : Prop :=
  (∀ w o, w < nn → o < no → Rg w o → rn M nn o w ≤ bl) ∧ (bl = 0 → bn = 0 ∧ bo = 0) ∧
  (0 < bl → bn < nn ∧ bo < no ∧ Rg bn bo ∧ rn M nn bo bn = bl ∧ ∀ w o, w < nn → o < no → Rg w o → rn M nn o w = bl → bn < w ∨ (bn = w ∧ bo ≤ o))
def RC (w0 o0 : Nat) : Nat → Nat → Prop := fun w o => w0 < w ∨ (w = w0 ∧ o < o0)
def RR (w0 o0 : Nat) : Nat → Nat → Prop := fun w o => w < w0 ∨ (w = w0 ∧ o < o0)
def RT : Nat → Nat → Prop := fun _ _ => True
theorem PB_le {no nn : Nat} {M : Nat → Nat → Bool} {Rg : Nat → Nat → Prop} {bl bn bo : Nat} (h : PB no nn M Rg bl bn bo) : bl ≤ nn ∧ (bn = 0 ∨ bn < nn) ∧ (bo = 0 ∨ bo < no) := by
  by_cases h0 : bl = 0
  · have := h.2.1 h0; omega
  · obtain ⟨h1, h2, h3, h4, h5⟩ := h.2.2 (by omega)
    have := rn_le M nn bo bn
    omega
theorem PB_uniq {no nn : Nat} {M : Nat → Nat → Bool} {Rg : Nat → Nat → Prop} {a b c a' b' c' : Nat} (h : PB no nn M Rg a b c) (h' : PB no nn M Rg a' b' c') : a = a' ∧ b = b' ∧ c = c' := by
  have hle : ∀ {a b c a' b' c' : Nat}, PB no nn M Rg a b c → PB no nn M Rg a' b' c' → a ≤ a' := by
    intro a b c a' b' c' h h'
    by_cases h0 : a = 0
    · omega
    · obtain ⟨q1, q2, q3, q4, q5⟩ := h.2.2 (by omega)
      have := h'.1 b c q1 q2 q3
      omega
  have e : a = a' := Nat.le_antisymm (hle h h') (hle h' h)
  subst e
  refine ⟨rfl, ?_⟩
  by_cases h0 : a = 0
  · have q1 := h.2.1 h0; have q2 := h'.2.1 h0; omega
  · obtain ⟨q1, q2, q3, q4, q5⟩ := h.2.2 (by omega)
    obtain ⟨r1, r2, r3, r4, r5⟩ := h'.2.2 (by omega)
    have u1 := q5 b' c' r1 r2 r3 r4
    have u2 := r5 b c q1 q2 q3 q4
    omega
theorem PB_set {no nn : Nat} {M : Nat → Nat → Bool} {Rg Rg' : Nat → Nat → Prop} {bl bn bo : Nat} (h : PB no nn M Rg bl bn bo) (he : ∀ w o, w < nn → o < no → (Rg w o ↔ Rg' w o)) : PB no nn M Rg' bl bn bo := by
  refine ⟨fun w o hw ho hr => h.1 w o hw ho ((he w o hw ho).mpr hr), h.2.1, fun h0 => ?_⟩
  obtain ⟨q1, q2, q3, q4, q5⟩ := h.2.2 h0
  exact ⟨q1, q2, (he _ _ q1 q2).mp q3, q4, fun w o hw ho hr => q5 w o hw ho ((he w o hw ho).mpr hr)⟩
theorem PB_0 {no nn : Nat} {M : Nat → Nat → Bool} {Rg : Nat → Nat → Prop} (h : ∀ w o, w < nn → o < no → ¬ Rg w o) : PB no nn M Rg 0 0 0 :=
  ⟨fun w o hw ho hr => absurd hr (h w o hw ho), fun _ => ⟨rfl, rfl⟩, fun h0 => absurd h0 (Nat.lt_irrefl _)⟩
/-- down the new words, up the old ones: the class's way -/
theorem PB_yes {no nn : Nat} {M : Nat → Nat → Bool} {w0 o0 bl bn bo : Nat} (h : PB no nn M (RC w0 o0) bl bn bo) (hw0 : w0 < nn) (ho0 : o0 < no) (hb : bl < rn M nn o0 w0 ∨ (rn M nn o0 w0 = bl ∧ w0 < bn)) : PB no nn M (RC w0 (o0 + 1)) (rn M nn o0 w0) w0 o0 := by
  have hpos : 0 < rn M nn o0 w0 := by
    rcases hb with hb | hb
    · omega
    · by_cases h0 : bl = 0
      · have := h.2.1 h0; omega
      · omega
  have hge : bl ≤ rn M nn o0 w0 := by omega
  refine ⟨fun w o hw ho hr => ?_, fun h0 => by omega, fun _ => ⟨hw0, ho0, Or.inr ⟨rfl, by omega⟩, rfl, fun w o hw ho hr he => ?_⟩⟩
  · by_cases hx : w = w0 ∧ o = o0
    · rw [hx.1, hx.2]; exact Nat.le_refl _
    · have hr : w0 < w ∨ (w = w0 ∧ o < o0 + 1) := hr
      exact Nat.le_trans (h.1 w o hw ho (show w0 < w ∨ (w = w0 ∧ o < o0) by omega)) hge
  · have hr : w0 < w ∨ (w = w0 ∧ o < o0 + 1) := hr
    by_cases hx : w0 < w
    · exact Or.inl hx
    · by_cases hy : o = o0
      · exact Or.inr ⟨by omega, by omega⟩
      · have hin : w0 < w ∨ (w = w0 ∧ o < o0) := by omega
        have h1 := h.1 w o hw ho hin
        have hbl : rn M nn o0 w0 = bl := by omega
        have h2 := (h.2.2 (by omega)).2.2.2.2 w o hw ho hin (by omega)
        rcases hb with hb | hb
        · omega
        · omega
theorem PB_keep {no nn : Nat} {M : Nat → Nat → Bool} {w0 o0 bl bn bo : Nat} (h : PB no nn M (RC w0 o0) bl bn bo) (hb : ¬ (bl < rn M nn o0 w0 ∨ (rn M nn o0 w0 = bl ∧ w0 < bn))) : PB no nn M (RC w0 (o0 + 1)) bl bn bo := by
  refine ⟨fun w o hw ho hr => ?_, h.2.1, fun h0 => ?_⟩
  · have hr : w0 < w ∨ (w = w0 ∧ o < o0 + 1) := hr
    by_cases hx : w = w0 ∧ o = o0
    · rw [hx.1, hx.2]; omega
    · exact h.1 w o hw ho (show w0 < w ∨ (w = w0 ∧ o < o0) by omega)
  · obtain ⟨q1, q2, q3, q4, q5⟩ := h.2.2 h0
    have q3 : w0 < bn ∨ (bn = w0 ∧ bo < o0) := q3
    refine ⟨q1, q2, show w0 < bn ∨ (bn = w0 ∧ bo < o0 + 1) by omega, q4, fun w o hw ho hr he => ?_⟩
    have hr : w0 < w ∨ (w = w0 ∧ o < o0 + 1) := hr
    by_cases hx : w = w0 ∧ o = o0
    · rw [hx.1, hx.2] at he
      omega
    · exact q5 w o hw ho (show w0 < w ∨ (w = w0 ∧ o < o0) by omega) he
/-- up both: the reference's way -/
theorem PB_ryes {no nn : Nat} {M : Nat → Nat → Bool} {w0 o0 bl bn bo : Nat} (h : PB no nn M (RR w0 o0) bl bn bo) (hw0 : w0 < nn) (ho0 : o0 < no) (hb : bl < rn M nn o0 w0) : PB no nn M (RR w0 (o0 + 1)) (rn M nn o0 w0) w0 o0 := by
  refine ⟨fun w o hw ho hr => ?_, fun h0 => by omega, fun _ => ⟨hw0, ho0, Or.inr ⟨rfl, by omega⟩, rfl, fun w o hw ho hr he => ?_⟩⟩
  · have hr : w < w0 ∨ (w = w0 ∧ o < o0 + 1) := hr
    by_cases hx : w = w0 ∧ o = o0
    · rw [hx.1, hx.2]; exact Nat.le_refl _
    · have := h.1 w o hw ho (show w < w0 ∨ (w = w0 ∧ o < o0) by omega); omega
  · have hr : w < w0 ∨ (w = w0 ∧ o < o0 + 1) := hr
    by_cases hx : w = w0 ∧ o = o0
    · omega
    · have := h.1 w o hw ho (show w < w0 ∨ (w = w0 ∧ o < o0) by omega); omega
theorem PB_rkeep {no nn : Nat} {M : Nat → Nat → Bool} {w0 o0 bl bn bo : Nat} (h : PB no nn M (RR w0 o0) bl bn bo) (hb : rn M nn o0 w0 ≤ bl) : PB no nn M (RR w0 (o0 + 1)) bl bn bo := by
  refine ⟨fun w o hw ho hr => ?_, h.2.1, fun h0 => ?_⟩
  · have hr : w < w0 ∨ (w = w0 ∧ o < o0 + 1) := hr
    by_cases hx : w = w0 ∧ o = o0
    · rw [hx.1, hx.2]; exact hb
    · exact h.1 w o hw ho (show w < w0 ∨ (w = w0 ∧ o < o0) by omega)
  · obtain ⟨q1, q2, q3, q4, q5⟩ := h.2.2 h0
    have q3 : bn < w0 ∨ (bn = w0 ∧ bo < o0) := q3
    refine ⟨q1, q2, show bn < w0 ∨ (bn = w0 ∧ bo < o0 + 1) by omega, q4, fun w o hw ho hr he => ?_⟩
    have hr : w < w0 ∨ (w = w0 ∧ o < o0 + 1) := hr
    by_cases hx : w = w0 ∧ o = o0
    · omega
    · exact q5 w o hw ho (show w < w0 ∨ (w = w0 ∧ o < o0) by omega) he
/-! the blocks that were taken, the last one first: (length, newStart, oldStart) -/
abbrev bT : Type := Nat × Nat × Nat
def tO (bs : List bT) (o : Nat) : Bool := bs.any (fun b => decide (b.2.2 ≤ o ∧ o < b.2.2 + b.1))
def tN (bs : List bT) (w : Nat) : Bool := bs.any (fun b => decide (b.2.1 ≤ w ∧ w < b.2.1 + b.1))
theorem tO_cons (b : bT) (bs : List bT) (o : Nat) : tO (b :: bs) o = (decide (b.2.2 ≤ o ∧ o < b.2.2 + b.1) || tO bs o) := rfl
theorem tN_cons (b : bT) (bs : List bT) (w : Nat) : tN (b :: bs) w = (decide (b.2.1 ≤ w ∧ w < b.2.1 + b.1) || tN bs w) := rfl
theorem tN_mem {bs : List bT} {b : bT} {w : Nat} (hb : b ∈ bs) (h : b.2.1 ≤ w ∧ w < b.2.1 + b.1) : tN bs w = true := List.any_eq_true.mpr ⟨b, hb, decide_eq_true h⟩
theorem tN_ex {bs : List bT} {w : Nat} (h : tN bs w = true) : ∃ b, b ∈ bs ∧ b.2.1 ≤ w ∧ w < b.2.1 + b.1 := by
  obtain ⟨b, h1, h2⟩ := List.any_eq_true.mp h
  exact ⟨b, h1, of_decide_eq_true h2⟩
def MM (no nn : Nat) (mt : Nat → Nat → Bool) (bs : List bT) : Nat → Nat → Bool := Mf no nn mt (tO bs) (tN bs)
def Chn (no nn : Nat) (mt : Nat → Nat → Bool) (ml : Nat) : List bT → Prop
  | [] => True
  | b :: bs => Chn no nn mt ml bs ∧ PB no nn (MM no nn mt bs) RT b.1 b.2.1 b.2.2 ∧ ml ≤ b.1
def Fnl (no nn : Nat) (mt : Nat → Nat → Bool) (ml : Nat) (bs : List bT) : Prop := ∃ b : bT, PB no nn (MM no nn mt bs) RT b.1 b.2.1 b.2.2 ∧ b.1 < ml
theorem Chn_tail {no nn : Nat} {mt : Nat → Nat → Bool} {ml : Nat} : ∀ {xs bs : List bT}, Chn no nn mt ml (xs ++ bs) → Chn no nn mt ml bs
  | [], _, h => h
  | _ :: xs, _, h => Chn_tail (xs := xs) h.1
theorem Chn_suffix {no nn : Nat} {mt : Nat → Nat → Bool} {ml : Nat} : ∀ {bs cs : List bT}, Chn no nn mt ml bs → Chn no nn mt ml cs → bs.length ≤ cs.length → ∃ xs, cs = xs ++ bs
  | [], cs, _, _, _ => ⟨cs, by simp⟩
  | b :: bs, cs, hb, hc, hl => by
    have hl : bs.length + 1 ≤ cs.length := hl
    obtain ⟨xs, hx⟩ := Chn_suffix hb.1 hc (by omega)
    have hx0 : xs ≠ [] := by
      intro h0; rw [hx, h0] at hl; simp at hl; omega
    obtain ⟨ys, c, hys⟩ : ∃ ys c, xs = ys ++ [c] := ⟨xs.dropLast, xs.getLast hx0, (List.dropLast_concat_getLast hx0).symm⟩
    rw [hys, List.append_assoc] at hx
    have hx : cs = ys ++ (c :: bs) := hx
    rw [hx] at hc
    have h2 := Chn_tail hc
    have e := PB_uniq hb.2.1 h2.2.1
    refine ⟨ys, ?_⟩
    rw [hx]
    have : b = c := Prod.ext e.1 (Prod.ext e.2.1 e.2.2)
    rw [this]
theorem Chn_uniq {no nn : Nat} {mt : Nat → Nat → Bool} {ml : Nat} {bs cs : List bT} (hb : Chn no nn mt ml bs) (hc : Chn no nn mt ml cs) (fb : Fnl no nn mt ml bs) (fc : Fnl no nn mt ml cs) : bs = cs := by
  have key : ∀ {bs cs : List bT}, Chn no nn mt ml bs → Chn no nn mt ml cs → Fnl no nn mt ml bs → bs.length ≤ cs.length → bs = cs := by
    intro bs cs hb hc fb hl
    obtain ⟨xs, hx⟩ := Chn_suffix hb hc hl
    by_cases hx0 : xs = []
    · rw [hx, hx0]; rfl
    · obtain ⟨ys, c, hys⟩ : ∃ ys c, xs = ys ++ [c] := ⟨xs.dropLast, xs.getLast hx0, (List.dropLast_concat_getLast hx0).symm⟩
      rw [hys, List.append_assoc] at hx
      have hx : cs = ys ++ (c :: bs) := hx
      rw [hx] at hc
      have h2 := Chn_tail hc
      obtain ⟨b, h3, h4⟩ := fb
      have e := PB_uniq h3 h2.2.1
      have := h2.2.2
      omega
  rcases Nat.le_total bs.length cs.length with h | h
  · exact key hb hc fb h
  · exact (key hc hb fc h).symm
/-- what the taken blocks are -/
def Geo (no nn : Nat) : List bT → Prop
  | [] => True
  | b :: bs => Geo no nn bs ∧ 1 ≤ b.1 ∧ b.2.2 + b.1 ≤ no ∧ b.2.1 + b.1 ≤ nn ∧ ∀ c, c ∈ bs → b.2.1 + b.1 ≤ c.2.1 ∨ c.2.1 + c.1 ≤ b.2.1
theorem Geo_mem {no nn : Nat} : ∀ {bs : List bT}, Geo no nn bs → ∀ b, b ∈ bs → 1 ≤ b.1 ∧ b.2.2 + b.1 ≤ no ∧ b.2.1 + b.1 ≤ nn
  | [], _, b, hb => absurd hb List.not_mem_nil
  | c :: bs, h, b, hb => by
    rcases List.mem_cons.mp hb with e | e
    · rw [e]; exact ⟨h.2.1, h.2.2.1, h.2.2.2.1⟩
    · exact Geo_mem h.1 b e
theorem Geo_apart {no nn : Nat} : ∀ {bs : List bT}, Geo no nn bs → ∀ b c, b ∈ bs → c ∈ bs → b = c ∨ b.2.1 + b.1 ≤ c.2.1 ∨ c.2.1 + c.1 ≤ b.2.1
  | [], _, b, c, hb, _ => absurd hb List.not_mem_nil
  | d :: bs, h, b, c, hb, hc => by
    rcases List.mem_cons.mp hb with e | e
    · rcases List.mem_cons.mp hc with e2 | e2
      · exact Or.inl (by rw [e, e2])
      · rw [e]; exact Or.inr (h.2.2.2.2 c e2)
    · rcases List.mem_cons.mp hc with e2 | e2
      · rw [e2]; exact Or.inr (h.2.2.2.2 b e).symm
      · exact Geo_apart h.1 b c e e2
theorem PB_run {no nn : Nat} {mt : Nat → Nat → Bool} {ot nt : Nat → Bool} {Rg : Nat → Nat → Prop} {bl bn bo : Nat} (h : PB no nn (Mf no nn mt ot nt) Rg bl bn bo) {t : Nat} (ht : t < bl) : bo + t < no ∧ bn + t < nn ∧ ot (bo + t) = false ∧ nt (bn + t) = false := by
  obtain ⟨q1, q2, q3, q4, q5⟩ := h.2.2 (by omega)
  exact Mf_lt (rn_all (by rw [q4]; exact ht))
theorem Chn_geo {no nn : Nat} {mt : Nat → Nat → Bool} {ml : Nat} (hml : 1 ≤ ml) : ∀ {bs : List bT}, Chn no nn mt ml bs → Geo no nn bs
  | [], _ => trivial
  | b :: bs, h => by
    have hg := Chn_geo hml h.1
    have h1 : 1 ≤ b.1 := Nat.le_trans hml h.2.2
    have hl := PB_run (h.2.1) (show b.1 - 1 < b.1 by omega)
    refine ⟨hg, h1, by omega, by omega, fun c hc => ?_⟩
    have hc1 := (Geo_mem hg c hc).1
    by_cases hx : b.2.1 + b.1 ≤ c.2.1 ∨ c.2.1 + c.1 ≤ b.2.1
    · exact hx
    · exfalso
      by_cases hy : b.2.1 ≤ c.2.1
      · have := (PB_run h.2.1 (show c.2.1 - b.2.1 < b.1 by omega)).2.2.2
        rw [show b.2.1 + (c.2.1 - b.2.1) = c.2.1 from by omega, tN_mem hc ⟨by omega, by omega⟩] at this
        cases this
      · have := (PB_run h.2.1 (show 0 < b.1 by omega)).2.2.2
        rw [show b.2.1 + 0 = b.2.1 from by omega, tN_mem hc ⟨by omega, by omega⟩] at this
        cases this
theorem cnt_more {p q : Nat → Bool} {a : Nat} : ∀ {n : Nat}, (∀ i, i < n → p i = true → q i = true) → a < n → p a = false → q a = true → cnt p n + 1 ≤ cnt q n
  | 0, _, h, _, _ => absurd h (Nat.not_lt_zero _)
  | n + 1, h, ha, hp, hq => by
    have hmono : ∀ m, m ≤ n + 1 → cnt p m ≤ cnt q m := by
      intro m
      induction m with
      | zero => intro _; exact Nat.le_refl _
      | succ m ih =>
        intro hm
        have := ih (by omega)
        unfold cnt
        by_cases hpm : p m = true
        · rw [if_pos hpm, if_pos (h m (by omega) hpm)]; omega
        · rw [if_neg hpm]; split <;> omega
    unfold cnt
    by_cases han : a = n
    · rw [← han, if_neg (by rw [hp]; decide), if_pos hq]
      have := hmono a (by omega); omega
    · have := cnt_more (fun i hi => h i (by omega)) (show a < n by omega) hp hq
      by_cases hpm : p n = true
      · rw [if_pos hpm, if_pos (h n (by omega) hpm)]; omega
      · rw [if_neg hpm]; split <;> omega
theorem Chn_len {no nn : Nat} {mt : Nat → Nat → Bool} {ml : Nat} (hml : 1 ≤ ml) : ∀ {bs : List bT}, Chn no nn mt ml bs → bs.length ≤ cnt (tN bs) nn
  | [], _ => Nat.zero_le _
  | b :: bs, h => by
    have := Chn_len hml h.1
    have h1 : 1 ≤ b.1 := Nat.le_trans hml h.2.2
    have hr := PB_run h.2.1 (show 0 < b.1 by omega)
    have := cnt_more (p := tN bs) (q := tN (b :: bs)) (a := b.2.1) (n := nn) (fun i _ hi => by rw [tN_cons, hi]; simp) (by omega) (by simpa using hr.2.2.2) (by rw [tN_cons, decide_eq_true ⟨by omega, by omega⟩]; rfl)
    show bs.length + 1 ≤ _
    omega
theorem Chn_full {no nn : Nat} {mt : Nat → Nat → Bool} {ml : Nat} (hml : 1 ≤ ml) {bs : List bT} (h : Chn no nn mt ml bs) (hl : nn ≤ bs.length) : Fnl no nn mt ml bs := by
  have h1 := Chn_len hml h
  have hall : ∀ w, w < nn → tN bs w = true := by
    intro w hw
    by_cases hx : tN bs w = true
    · exact hx
    · exfalso
      have h2 := cnt_more (p := tN bs) (q := fun _ => true) (a := w) (n := nn) (fun _ _ _ => rfl) hw (by simpa using hx) rfl
      have h3 := cnt_le (fun _ => true) nn
      omega
  refine ⟨(0, 0, 0), ⟨fun w o hw ho _ => ?_, fun _ => ⟨rfl, rfl⟩, fun h0 => absurd h0 (Nat.lt_irrefl _)⟩, by show 0 < ml; omega⟩
  have : rn (MM no nn mt bs) nn o w = 0 := rn_no (by unfold MM; rw [Mf_in ho hw, hall w hw]; simp)
  rw [this]; exact Nat.le_refl _
/-! the blocks in order of newStart -/
def SE (k : Nat) (os ns ln : Nat → Nat) (bs : List bT) : Prop :=
  (∀ i, i < k → ((ln i, ns i, os i) : bT) ∈ bs) ∧ (∀ b, b ∈ bs → ∃ i, i < k ∧ b = (ln i, ns i, os i)) ∧ ∀ i j, i < j → j < k → ns i < ns j
theorem SE_B48 {no nn k : Nat} {os ns ln : Nat → Nat} {bs : List bT} (hg : Geo no nn bs) (hs : SE k os ns ln bs) (h1 : no ≤ 48) (h2 : nn ≤ 48) : B48 k os ns ln := by
  intro j hj
  have := Geo_mem hg _ (hs.1 j hj)
  simp only at this
  omega
theorem ins_lo (f : Nat → Nat) {q k x j : Nat} (h : j < q) : ins f q k x j = f j := by
  unfold ins va_up shf; rw [if_neg (by omega), if_neg (by omega)]
theorem ins_at (f : Nat → Nat) {q k x : Nat} : ins f q k x q = x := by unfold ins va_up; rw [if_pos rfl]
theorem ins_hi (f : Nat → Nat) {q k x j : Nat} (h : q ≤ j) (h2 : j < k) : ins f q k x (j + 1) = f j := by
  unfold ins va_up shf; rw [if_neg (by omega), if_pos (by omega), Nat.add_sub_cancel]
theorem SE_ins {k : Nat} {os ns ln : Nat → Nat} {bs : List bT} {b : bT} {q : Nat} (hs : SE k os ns ln bs) (hne : ∀ c, c ∈ bs → c.2.1 ≠ b.2.1) (hq : q ≤ k) (h1 : 0 < q → ns (q - 1) ≤ b.2.1) (h2 : ∀ j, q ≤ j → j < k → b.2.1 < ns j) :
    SE (k + 1) (ins os q k b.2.2) (ins ns q k b.2.1) (ins ln q k b.1) (b :: bs) := by
  obtain ⟨s1, s2, s3⟩ := hs
  refine ⟨fun i hi => ?_, fun c hc => ?_, fun i j hij hj => ?_⟩
  · rcases Nat.lt_trichotomy i q with h | h | h
    · rw [ins_lo _ h, ins_lo _ h, ins_lo _ h]; exact List.mem_cons_of_mem _ (s1 i (by omega))
    · rw [h, ins_at, ins_at, ins_at]; exact List.mem_cons_self
    · obtain ⟨m, rfl⟩ : ∃ m, i = m + 1 := ⟨i - 1, by omega⟩
      rw [ins_hi _ (by omega) (by omega), ins_hi _ (by omega) (by omega), ins_hi _ (by omega) (by omega)]
      exact List.mem_cons_of_mem _ (s1 m (by omega))
  · rcases List.mem_cons.mp hc with e | e
    · exact ⟨q, by omega, by rw [ins_at, ins_at, ins_at, e]⟩
    · obtain ⟨i, hi, he⟩ := s2 c e
      by_cases hiq : i < q
      · exact ⟨i, by omega, by rw [ins_lo _ hiq, ins_lo _ hiq, ins_lo _ hiq]; exact he⟩
      · exact ⟨i + 1, by omega, by rw [ins_hi _ (by omega) hi, ins_hi _ (by omega) hi, ins_hi _ (by omega) hi]; exact he⟩
  · have hlow : ∀ m, m < q → ns m < b.2.1 := by
      intro m hm
      have ha : ns (q - 1) < b.2.1 := by
        have hb := h1 (by omega)
        have hc := hne _ (s1 (q - 1) (by omega))
        simp only at hc
        omega
      by_cases hmq : m = q - 1
      · rw [hmq]; exact ha
      · exact Nat.lt_trans (s3 m (q - 1) (by omega) (by omega)) ha
    rcases Nat.lt_trichotomy j q with h | h | h
    · rw [ins_lo _ h, ins_lo _ (by omega)]; exact s3 i j hij (by omega)
    · rw [h, ins_at, ins_lo _ (by omega)]; exact hlow i (by omega)
    · obtain ⟨m, rfl⟩ : ∃ m, j = m + 1 := ⟨j - 1, by omega⟩
      rw [ins_hi _ (show q ≤ m by omega) (by omega)]
      have hm := h2 m (by omega) (by omega)
      rcases Nat.lt_trichotomy i q with h3 | h3 | h3
      · rw [ins_lo _ h3]; exact Nat.lt_trans (hlow i h3) hm
      · rw [h3, ins_at]; exact hm
      · obtain ⟨t, rfl⟩ : ∃ t, i = t + 1 := ⟨i - 1, by omega⟩
        rw [ins_hi _ (by omega) (by omega)]; exact s3 t m (by omega) (by omega)
theorem SE_uniq {no nn k k' : Nat} {os ns ln os' ns' ln' : Nat → Nat} {bs : List bT} (hg : Geo no nn bs) (hs : SE k os ns ln bs) (hs' : SE k' os' ns' ln' bs) : k = k' ∧ ∀ j, j < k → os' j = os j ∧ ns' j = ns j ∧ ln' j = ln j := by
  have key : ∀ {k k' : Nat} {os ns ln os' ns' ln' : Nat → Nat}, SE k os ns ln bs → SE k' os' ns' ln' bs → ∀ i, i < k → i < k' → (∀ j, j < i → ns j = ns' j) → ns' i ≤ ns i := by
    intro k k' os ns ln os' ns' ln' hs hs' i hi hi' hb
    obtain ⟨j, hj, he⟩ := hs'.2.1 _ (hs.1 i hi)
    have he : ns i = ns' j := congrArg (fun b : bT => b.2.1) he
    by_cases hji : j < i
    · have := hs.2.2 j i hji hi; rw [hb j hji, ← he] at this; omega
    · by_cases e : j = i
      · rw [he, e]; exact Nat.le_refl _
      · have := hs'.2.2 i j (by omega) hj; omega
  have eqs : ∀ i, i < k → i < k' → ns i = ns' i := by
    intro i
    induction i using Nat.strongRecOn with
    | _ i ih =>
      intro hi hi'
      exact Nat.le_antisymm (key hs' hs i hi' hi (fun j hj => (ih j hj (by omega) (by omega)).symm)) (key hs hs' i hi hi' (fun j hj => ih j hj (by omega) (by omega)))
  have le : ∀ {k k' : Nat} {os ns ln os' ns' ln' : Nat → Nat}, SE k os ns ln bs → SE k' os' ns' ln' bs → (∀ i, i < k → i < k' → ns i = ns' i) → k ≤ k' := by
    intro k k' os ns ln os' ns' ln' hs hs' he
    by_cases h : k ≤ k'
    · exact h
    · exfalso
      obtain ⟨j, hj, e⟩ := hs'.2.1 _ (hs.1 k' (by omega))
      have e : ns k' = ns' j := congrArg (fun b : bT => b.2.1) e
      have := hs.2.2 j k' hj (by omega)
      rw [he j (by omega) hj] at this
      omega
  have hk : k = k' := Nat.le_antisymm (le hs hs' eqs) (le hs' hs (fun i hi hi' => (eqs i hi' hi).symm))
  refine ⟨hk, fun j hj => ?_⟩
  have e := eqs j hj (by omega)
  have m1 := hs.1 j hj
  have m2 := hs'.1 j (by omega)
  have g1 := (Geo_mem hg _ m1).1
  have g2 := (Geo_mem hg _ m2).1
  rcases Geo_apart hg _ _ m1 m2 with h | h
  · exact ⟨(congrArg (fun b : bT => b.2.2) h).symm, (congrArg (fun b : bT => b.2.1) h).symm, (congrArg (fun b : bT => b.1) h).symm⟩
  · simp only at h g1 g2; omega
