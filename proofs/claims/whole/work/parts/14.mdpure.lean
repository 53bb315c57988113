/-! the reference's rows -/
abbrev wMd (cI cZ : ClassId) (am : Nat → Nat) (bu : Bool) (no : Nat) (vo : Nat → Int) (fo : Nat → Bool) (nn : Nat) (vn : Nat → Int) (fn : Nat → Bool) (k : Nat) (osr nsr lnr : Nat → Nat) (ba : Nat → Int) (tk : Nat → Bool) (rt : Nat → Nat) (cp : Nat) (cd so : Nat → Nat) (me bf : Nat → Int) : va_W :=
  [(am 0, .inr (5, [.int (iI ((no : Nat) : Int)), .ref (am 1), .ref (am 2), .int (iI ((nn : Nat) : Int)), .ref (am 3), .ref (am 4), .int (iI (bZ bu)), .int (iI ((k : Nat) : Int)), .ref (am 5), .ref (am 6), .ref (am 7), .ref (am 8), .ref (am 9), .ref (am 10), .int (iI ((cp : Nat) : Int)), .ref (am 11), .ref (am 12), .ref (am 13), .ref (am 14)])),
   (am 1, .inl (cI, 48, .inl (aI vo))), (am 2, .inl (cZ, 48, .inl (aB fo))), (am 3, .inl (cI, 48, .inl (aI vn))), (am 4, .inl (cZ, 48, .inl (aB fn))), (am 5, .inl (cI, 48, .inl (aN osr))), (am 6, .inl (cI, 48, .inl (aN nsr))), (am 7, .inl (cI, 48, .inl (aN lnr))), (am 8, .inl (cI, 48, .inl (aI ba))), (am 9, .inl (cZ, 48, .inl (aB tk))), (am 10, .inl (cI, 2401, .inl (aN rt))), (am 11, .inl (cI, 48, .inl (aN cd))), (am 12, .inl (cI, 48, .inl (aN so))), (am 13, .inl (cI, 48, .inl (aI me))), (am 14, .inl (cI, 48, .inl (aI bf)))]
def MdI (no nn k : Nat) (os ns ln osr nsr lnr : Nat → Nat) (ba : Nat → Int) (cp : Nat) (cd so : Nat → Nat) : Prop :=
  k ≤ 48 ∧ B48 k os ns ln ∧ Gd no nn k os ns ln ∧ (∀ j, j < k → osr j = os j ∧ nsr j = ns j ∧ lnr j = ln j) ∧ (∀ w, w < nn → ba w = wI (bx k ns ln w) k (-10005)) ∧ (∀ b, b < k → so b = (its k os ns ln k).1 b) ∧ cp = (its k os ns ln k).2.2 ∧ ∀ j, j < cp → cd j = (its k os ns ln k).2.1 j
def CoM (k : Nat) (os ns ln : Nat → Nat) (r : Nat) (so cd : Nat → Nat) (cp : Nat) : Prop :=
  (∀ b, b < k → so b = (its k os ns ln r).1 b) ∧ (∀ j, j < cp → cd j = (its k os ns ln r).2.1 j) ∧ cp = (its k os ns ln r).2.2
theorem CoM_wt {k : Nat} {os ns ln : Nat → Nat} {r : Nat} {so cd : Nat → Nat} {cp : Nat} (h : CoM k os ns ln r so cd cp) : ∀ b, b < k → wtf so b = wtf (its k os ns ln r).1 b := fun b hb => by unfold wtf; rw [h.1 b hb]
theorem CoM_copy {k : Nat} {os ns ln : Nat → Nat} {r : Nat} {so cd : Nat → Nat} {cp : Nat} (h : CoM k os ns ln r so cd cp) (hf : frd k os ns ln (wtf so) < k) : CoM k os ns ln (r + 1) (va_up so (frd k os ns ln (wtf so)) 1) (va_up cd cp (frd k os ns ln (wtf so))) (cp + 1) := by
  have e := frd_congr (os := os) (ns := ns) (ln := ln) (CoM_wt h)
  obtain ⟨h1, h3, h4⟩ := h
  have hf2 := hf
  rw [e] at hf2
  have es : its k os ns ln (r + 1) = (va_up (its k os ns ln r).1 (frd k os ns ln (wtf so)) 1, va_up (its k os ns ln r).2.1 (its k os ns ln r).2.2 (frd k os ns ln (wtf so)), (its k os ns ln r).2.2 + 1) := by
    show stp k os ns ln (its k os ns ln r) = _
    unfold stp
    rw [if_pos hf2, ← e]
  unfold CoM
  rw [es]
  refine ⟨fun b hb => ?_, fun j hj => ?_, by rw [h4]⟩
  · show va_up so _ 1 b = va_up (its k os ns ln r).1 _ 1 b
    unfold va_up; split
    · rfl
    · exact h1 b hb
  · show va_up cd cp _ j = va_up (its k os ns ln r).2.1 (its k os ns ln r).2.2 _ j
    rw [← h4]
    unfold va_up; split
    · rfl
    · exact h3 j (by omega)
theorem CoM_drop {k : Nat} {os ns ln : Nat → Nat} {r g : Nat} {so cd : Nat → Nat} {cp : Nat} (h : CoM k os ns ln r so cd cp) (hf : ¬ frd k os ns ln (wtf so) < k) (hg : shw k ln (wtf so) = some g) : CoM k os ns ln (r + 1) (va_up so g 2) cd cp := by
  rw [frd_congr (os := os) (ns := ns) (ln := ln) (CoM_wt h)] at hf
  rw [shw_congr (CoM_wt h)] at hg
  obtain ⟨h1, h3, h4⟩ := h
  have es : its k os ns ln (r + 1) = (va_up (its k os ns ln r).1 g 2, (its k os ns ln r).2.1, (its k os ns ln r).2.2) := by
    show stp k os ns ln (its k os ns ln r) = _
    unfold stp
    rw [if_neg hf, hg]
  unfold CoM
  rw [es]
  refine ⟨fun b hb => ?_, h3, h4⟩
  show va_up so g 2 b = va_up (its k os ns ln r).1 g 2 b
  unfold va_up; split
  · rfl
  · exact h1 b hb
/-! places -/
def plc : List bT → Nat → Int
  | [], _ => -10005
  | b :: bs, w => if b.2.1 ≤ w ∧ w < b.2.1 + b.1 then ((49 * b.2.1 + b.2.2 : Nat) : Int) else plc bs w
theorem plc_none : ∀ {bs : List bT} {w : Nat}, tN bs w = false → plc bs w = -10005
  | [], _, _ => rfl
  | b :: bs, w, h => by
    rw [tN_cons] at h
    have h1 : ¬ (b.2.1 ≤ w ∧ w < b.2.1 + b.1) := fun h0 => by rw [decide_eq_true h0] at h; cases h
    have h2 : tN bs w = false := by rw [decide_eq_false h1] at h; exact h
    unfold plc; rw [if_neg h1]; exact plc_none h2
theorem plc_ex : ∀ {bs : List bT} {w : Nat}, ¬ plc bs w = -10005 → ∃ b, b ∈ bs ∧ b.2.1 ≤ w ∧ w < b.2.1 + b.1 ∧ plc bs w = ((49 * b.2.1 + b.2.2 : Nat) : Int)
  | [], _, h => absurd rfl h
  | b :: bs, w, h => by
    unfold plc at h ⊢
    by_cases h1 : b.2.1 ≤ w ∧ w < b.2.1 + b.1
    · rw [if_pos h1]; exact ⟨b, List.mem_cons_self, h1.1, h1.2, rfl⟩
    · rw [if_neg h1] at h ⊢
      obtain ⟨c, q1, q2, q3, q4⟩ := plc_ex h
      exact ⟨c, List.mem_cons_of_mem _ q1, q2, q3, q4⟩
theorem plc_tN {bs : List bT} {w : Nat} : decide (¬ plc bs w = -10005) = tN bs w := by
  by_cases h : plc bs w = -10005
  · rw [decide_eq_false (fun h0 => h0 h)]
    cases ht : tN bs w with
    | false => rfl
    | true =>
      exfalso
      have key : ∀ bs : List bT, tN bs w = true → ¬ plc bs w = -10005 := by
        intro bs
        induction bs with
        | nil => intro h; cases h
        | cons b bs ih =>
          intro h1 h2
          unfold plc at h2
          by_cases h3 : b.2.1 ≤ w ∧ w < b.2.1 + b.1
          · rw [if_pos h3] at h2; omega
          · rw [if_neg h3] at h2
            rw [tN_cons, decide_eq_false h3] at h1
            exact ih h1 h2
      exact key bs ht h
  · rw [decide_eq_true h]
    obtain ⟨b, q1, q2, q3, q4⟩ := plc_ex h
    exact (tN_mem q1 ⟨q2, q3⟩).symm
theorem plc_mem {no nn : Nat} {bs : List bT} (hg : Geo no nn bs) {b : bT} (hb : b ∈ bs) {w : Nat} (h1 : b.2.1 ≤ w) (h2 : w < b.2.1 + b.1) : plc bs w = ((49 * b.2.1 + b.2.2 : Nat) : Int) := by
  have hn : ¬ plc bs w = -10005 := by
    have := plc_tN (bs := bs) (w := w)
    rw [tN_mem hb ⟨h1, h2⟩] at this
    exact of_decide_eq_true this
  obtain ⟨c, q1, q2, q3, q4⟩ := plc_ex hn
  rcases Geo_apart hg _ _ hb q1 with h | h
  · rw [h]; exact q4
  · omega
theorem plc_R {no nn : Nat} {bs : List bT} (hg : Geo no nn bs) (h1 : no ≤ 48) (h2 : nn ≤ 48) (w : Nat) : -10005 ≤ plc bs w ∧ plc bs w ≤ 2401 := by
  by_cases h : plc bs w = -10005
  · omega
  · obtain ⟨b, q1, q2, q3, q4⟩ := plc_ex h
    have := Geo_mem hg b q1
    omega
/-- the numbering, behind w new words -/
def NmI (nn : Nat) (bs : List bT) (w m : Nat) (osr nsr lnr : Nat → Nat) (ba : Nat → Int) (last : Int) : Prop :=
  m ≤ w ∧ (∀ i, i < m → ∃ b, b ∈ bs ∧ osr i = b.2.2 ∧ nsr i = b.2.1 ∧ b.2.1 < w ∧ lnr i = min b.1 (w - b.2.1)) ∧ (∀ b, b ∈ bs → b.2.1 < w → ∃ i, i < m ∧ nsr i = b.2.1) ∧ (∀ i j, i < j → j < m → nsr i < nsr j) ∧
  (∀ x, x < w → (tN bs x = false → ba x = -10005) ∧ ∀ b, b ∈ bs → b.2.1 ≤ x → x < b.2.1 + b.1 → ∃ i, i < m ∧ nsr i = b.2.1 ∧ ba x = (i : Int)) ∧ (∀ x, w ≤ x → x < nn → ba x = plc bs x) ∧ last = (if w = 0 then -10005 else plc bs (w - 1))
theorem up_ne {α : Type} {f : Nat → α} {a j : Nat} {x : α} (h : j ≠ a) : va_up f a x j = f j := if_neg h
theorem up_eq {α : Type} {f : Nat → α} {a : Nat} {x : α} : va_up f a x a = x := if_pos rfl
theorem Nm_none {no nn : Nat} {bs : List bT} (hg : Geo no nn bs) {w m : Nat} {osr nsr lnr : Nat → Nat} {ba : Nat → Int} {last : Int} (h : NmI nn bs w m osr nsr lnr ba last) (hw : w < nn) (hp : ba w = -10005) : NmI nn bs (w + 1) m osr nsr lnr ba (ba w) := by
  obtain ⟨n1, n2, n3, n4, n5, n6, n7⟩ := h
  have hpl : plc bs w = -10005 := by rw [← n6 w (Nat.le_refl _) hw]; exact hp
  have htn : tN bs w = false := by
    have := plc_tN (bs := bs) (w := w)
    rw [hpl] at this
    simpa using this.symm
  have hnc : ∀ b, b ∈ bs → ¬ (b.2.1 ≤ w ∧ w < b.2.1 + b.1) := fun b hb h0 => by rw [tN_mem hb h0] at htn; cases htn
  refine ⟨by omega, fun i hi => ?_, fun b hb hbw => ?_, n4, fun x hx => ?_, fun x h1 h2 => n6 x (by omega) h2, ?_⟩
  · obtain ⟨b, q1, q2, q3, q4, q5⟩ := n2 i hi
    have := hnc b q1
    exact ⟨b, q1, q2, q3, by omega, by omega⟩
  · have := hnc b hb
    have := (Geo_mem hg b hb).1
    exact n3 b hb (by omega)
  · by_cases e : x = w
    · rw [e]
      exact ⟨fun _ => hp, fun b hb h1 h2 => absurd ⟨h1, h2⟩ (hnc b hb)⟩
    · exact n5 x (by omega)
  · rw [if_neg (by omega), n6 w (Nat.le_refl _) hw, Nat.add_sub_cancel]
theorem Nm_b {no nn : Nat} {bs : List bT} {w m : Nat} {osr nsr lnr : Nat → Nat} {ba : Nat → Int} {last : Int} (h : NmI nn bs w m osr nsr lnr ba last) (hw : w < nn) (hp : ¬ ba w = -10005) : ∃ b, b ∈ bs ∧ b.2.1 ≤ w ∧ w < b.2.1 + b.1 ∧ ba w = ((49 * b.2.1 + b.2.2 : Nat) : Int) := by
  rw [h.2.2.2.2.2.1 w (Nat.le_refl _) hw] at hp ⊢
  exact plc_ex hp
theorem Nm_new {no nn : Nat} {bs : List bT} (hg : Geo no nn bs) {w m : Nat} {osr nsr lnr : Nat → Nat} {ba : Nat → Int} {last : Int} (h : NmI nn bs w m osr nsr lnr ba last) (hw : w < nn) {b : bT} (hb : b ∈ bs) (h1 : b.2.1 ≤ w) (h2 : w < b.2.1 + b.1) (hl : ¬ ba w = last) : b.2.1 = w ∧ NmI nn bs (w + 1) (m + 1) (va_up osr m b.2.2) (va_up nsr m b.2.1) (va_up (va_up lnr m 0) m (0 + 1)) (va_up ba w (m : Int)) (ba w) := by
  obtain ⟨n1, n2, n3, n4, n5, n6, n7⟩ := h
  have hbw : b.2.1 = w := by
    by_cases e : b.2.1 = w
    · exact e
    · exfalso
      apply hl
      rw [n7, if_neg (by omega), n6 w (Nat.le_refl _) hw, plc_mem hg hb h1 h2, plc_mem hg hb (show b.2.1 ≤ w - 1 by omega) (by omega)]
  refine ⟨hbw, by omega, fun i hi => ?_, fun c hc hcw => ?_, fun i j hij hj => ?_, fun x hx => ?_, fun x q1 q2 => ?_, ?_⟩
  · by_cases e : i = m
    · rw [e, up_eq, up_eq, up_eq]
      have := (Geo_mem hg b hb).1
      exact ⟨b, hb, rfl, rfl, by omega, by omega⟩
    · rw [up_ne e, up_ne e, up_ne e, up_ne e]
      obtain ⟨c, q1, q2, q3, q4, q5⟩ := n2 i (by omega)
      have hap := Geo_apart hg _ _ q1 hb
      rcases hap with h0 | h0
      · rw [h0] at q4; omega
      · have := (Geo_mem hg c q1).1
        exact ⟨c, q1, q2, q3, by omega, by omega⟩
  · by_cases e : c.2.1 = w
    · exact ⟨m, by omega, by rw [up_eq, e]; exact hbw⟩
    · obtain ⟨i, q1, q2⟩ := n3 c hc (by omega)
      exact ⟨i, by omega, by rw [up_ne (by omega)]; exact q2⟩
  · by_cases e : j = m
    · rw [e, up_eq, up_ne (by omega)]
      obtain ⟨c, q1, q2, q3, q4, q5⟩ := n2 i (by omega)
      omega
    · rw [up_ne (by omega), up_ne (by omega)]; exact n4 i j hij (by omega)
  · by_cases e : x = w
    · rw [e, up_eq]
      refine ⟨fun h0 => ?_, fun c hc q1 q2 => ?_⟩
      · rw [tN_mem hb ⟨h1, h2⟩] at h0; cases h0
      · rcases Geo_apart hg _ _ hc hb with h0 | h0
        · exact ⟨m, by omega, by rw [up_eq, h0], rfl⟩
        · omega
    · rw [up_ne e]
      refine ⟨(n5 x (by omega)).1, fun c hc q1 q2 => ?_⟩
      obtain ⟨i, r1, r2, r3⟩ := (n5 x (by omega)).2 c hc q1 q2
      exact ⟨i, by omega, by rw [up_ne (by omega)]; exact r2, r3⟩
  · rw [up_ne (by omega)]; exact n6 x (by omega) q2
  · rw [if_neg (by omega), n6 w (Nat.le_refl _) hw, Nat.add_sub_cancel]
theorem Nm_old {no nn : Nat} {bs : List bT} (hg : Geo no nn bs) (hno : no ≤ 48) {w m : Nat} {osr nsr lnr : Nat → Nat} {ba : Nat → Int} {last : Int} (h : NmI nn bs w m osr nsr lnr ba last) (hw : w < nn) {b : bT} (hb : b ∈ bs) (h1 : b.2.1 ≤ w) (h2 : w < b.2.1 + b.1) (hl : ba w = last) : 0 < m ∧ NmI nn bs (w + 1) m osr nsr (va_up lnr (m - 1) (lnr (m - 1) + 1)) (va_up ba w ((m - 1 : Nat) : Int)) (ba w) := by
  obtain ⟨n1, n2, n3, n4, n5, n6, n7⟩ := h
  have hpw : ba w = ((49 * b.2.1 + b.2.2 : Nat) : Int) := by rw [n6 w (Nat.le_refl _) hw]; exact plc_mem hg hb h1 h2
  have hbg := Geo_mem hg b hb
  have hw0 : ¬ w = 0 := fun e => by rw [n7, if_pos e] at hl; omega
  have hbw : b.2.1 < w := by
    rw [n7, if_neg hw0] at hl
    obtain ⟨c, q1, q2, q3, q4⟩ := plc_ex (bs := bs) (w := w - 1) (by rw [← hl]; omega)
    have hcg := Geo_mem hg c q1
    rw [q4, hpw] at hl
    rcases Geo_apart hg _ _ hb q1 with h0 | h0
    · rw [h0]; omega
    · omega
  obtain ⟨i, hi, hie⟩ := n3 b hb hbw
  have him : i = m - 1 := by
    by_cases e : i = m - 1
    · exact e
    · exfalso
      have hlt := n4 i (m - 1) (by omega) (by omega)
      obtain ⟨c, q1, q2, q3, q4, q5⟩ := n2 (m - 1) (by omega)
      have hcg := Geo_mem hg c q1
      rcases Geo_apart hg _ _ hb q1 with h0 | h0
      · rw [← h0] at q3; omega
      · omega
  subst him
  refine ⟨by omega, by omega, fun i hi => ?_, fun c hc hcw => ?_, n4, fun x hx => ?_, fun x q1 q2 => ?_, ?_⟩
  · obtain ⟨c, q1, q2, q3, q4, q5⟩ := n2 i hi
    by_cases e : i = m - 1
    · rw [e] at q2 q3 q5 ⊢
      rw [up_eq]
      have hcg := Geo_mem hg c q1
      rcases Geo_apart hg _ _ hb q1 with h0 | h0
      · rw [← h0] at q2 q3 q4 q5
        exact ⟨b, hb, q2, q3, by omega, by omega⟩
      · omega
    · rw [up_ne e]
      have hlt := n4 i (m - 1) (by omega) (by omega)
      have hcg := Geo_mem hg c q1
      rcases Geo_apart hg _ _ hb q1 with h0 | h0
      · rw [← h0] at q3; omega
      · exact ⟨c, q1, q2, q3, by omega, by omega⟩
  · by_cases e : c.2.1 = w
    · exfalso
      have hcg := Geo_mem hg c hc
      rcases Geo_apart hg _ _ hb hc with h0 | h0
      · rw [← h0] at e; omega
      · omega
    · exact n3 c hc (by omega)
  · by_cases e : x = w
    · rw [e, up_eq]
      refine ⟨fun h0 => ?_, fun c hc q1 q2 => ?_⟩
      · rw [tN_mem hb ⟨h1, h2⟩] at h0; cases h0
      · rcases Geo_apart hg _ _ hc hb with h0 | h0
        · exact ⟨m - 1, by omega, by rw [hie, h0], rfl⟩
        · omega
    · rw [up_ne e]; exact n5 x (by omega)
  · rw [up_ne (by omega)]; exact n6 x (by omega) q2
  · rw [if_neg (by omega), n6 w (Nat.le_refl _) hw, Nat.add_sub_cancel]
theorem Nm_end {no nn : Nat} {bs : List bT} (hg : Geo no nn bs) {m : Nat} {osr nsr lnr : Nat → Nat} {ba : Nat → Int} {last : Int} (h : NmI nn bs nn m osr nsr lnr ba last) : SE m osr nsr lnr bs ∧ ∀ x, x < nn → ba x = wI (bx m nsr lnr x) m (-10005) := by
  obtain ⟨n1, n2, n3, n4, n5, n6, n7⟩ := h
  have full : ∀ i, i < m → ∃ b, b ∈ bs ∧ b = (lnr i, nsr i, osr i) := fun i hi => by
    obtain ⟨b, q1, q2, q3, q4, q5⟩ := n2 i hi
    have := Geo_mem hg b q1
    exact ⟨b, q1, Prod.ext (by show b.1 = lnr i; omega) (Prod.ext q3.symm q2.symm)⟩
  have hse : SE m osr nsr lnr bs := by
    refine ⟨fun i hi => ?_, fun b hb => ?_, n4⟩
    · obtain ⟨b, q1, q2⟩ := full i hi; rw [← q2]; exact q1
    · have hbg := Geo_mem hg b hb
      obtain ⟨i, hi, hie⟩ := n3 b hb (by omega)
      obtain ⟨c, q1, q2⟩ := full i hi
      refine ⟨i, hi, ?_⟩
      rw [← q2]
      have hcg := Geo_mem hg c q1
      have e : c.2.1 = nsr i := by rw [q2]
      rcases Geo_apart hg _ _ hb q1 with h0 | h0
      · exact h0
      · omega
  refine ⟨hse, fun x hx => ?_⟩
  have hgd := SE_Gd hg hse
  by_cases ht : tN bs x = true
  · obtain ⟨b, q1, q2, q3⟩ := tN_ex ht
    obtain ⟨i, r1, r2, r3⟩ := (n5 x hx).2 b q1 q2 q3
    obtain ⟨c, s1, s2⟩ := full i r1
    have e : c.2.1 = nsr i := by rw [s2]
    have hcg := Geo_mem hg c s1
    have hbc : b = c := by
      rcases Geo_apart hg _ _ q1 s1 with h0 | h0
      · exact h0
      · omega
    rw [r3]
    refine fst_wI (Or.inr ⟨i, r1, decide_eq_true ?_, fun j hj => decide_eq_false ?_, rfl⟩)
    · rw [hbc, s2] at q2 q3
      simp only at q2 q3
      omega
    · have := hgd.2 j i hj r1
      omega
  · rw [(n5 x hx).1 (by simpa using ht)]
    refine fst_wI (Or.inl ⟨rfl, fun j hj => decide_eq_false (fun h0 => ht ?_)⟩)
    exact tN_mem (hse.1 j hj) ⟨by show nsr j ≤ x; omega, by show x < nsr j + lnr j; omega⟩
theorem Nm_0 {nn : Nat} {bs : List bT} {osr nsr lnr : Nat → Nat} {ba : Nat → Int} (h : ∀ w, w < nn → ba w = plc bs w) : NmI nn bs 0 0 osr nsr lnr ba (-10005) :=
  ⟨Nat.le_refl _, fun i hi => absurd hi (Nat.not_lt_zero _), fun b _ hb => absurd hb (Nat.not_lt_zero _), fun i j _ hj => absurd hj (Nat.not_lt_zero _), fun x hx => absurd hx (Nat.not_lt_zero _), fun x _ hx => h x hx, rfl⟩
