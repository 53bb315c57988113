/-! the copy order, as a function -/
theorem wI_R {r k : Nat} {s : Int} (hk : k ≤ 48) (hs : -20000 ≤ s ∧ s ≤ 0) : R32 (wI r k s) := by
  unfold wI; split
  · exact ⟨by omega, by omega⟩
  · exact ⟨by omega, by omega⟩
theorem wI_ne {r k : Nat} {s : Int} (h : ¬ wI r k s = s) : r < k := by
  by_cases hr : r < k
  · exact hr
  · exact absurd (if_neg hr) h
theorem wI_nlt {r k : Nat} {s : Int} (hs : s < 0) (h : wI r k s = s) : ¬ r < k := by
  intro hr; rw [wI_hit hr] at h; omega
theorem oV_R {o : Option Nat} {k : Nat} {s : Int} (hk : k ≤ 48) (hs : -20000 ≤ s ∧ s ≤ 0) (ho : ∀ g, o = some g → g < k) : R32 (oV s o) := by
  cases o with
  | none => exact ⟨by show -2147483648 ≤ s; omega, by show s < 2147483648; omega⟩
  | some g => exact ⟨by show -2147483648 ≤ (g : Int); omega, by have := ho g rfl; show (g : Int) < 2147483648; omega⟩
theorem fst_congr {p q : Nat → Bool} : ∀ {k : Nat}, (∀ i, i < k → p i = q i) → fst p k = fst q k
  | 0, _ => rfl
  | k + 1, h => by
    have e := fst_congr (k := k) (fun i hi => h i (by omega))
    unfold fst; rw [e, h k (by omega)]
theorem bst_congr {p q : Nat → Bool} {b c : Nat → Nat → Bool} : ∀ {k : Nat}, (∀ i, i < k → p i = q i) → (∀ i g, i < k → g < k → b i g = c i g) → bst p b k = bst q c k
  | 0, _, _ => rfl
  | k + 1, h, h2 => by
    have e := bst_congr (k := k) (fun i hi => h i (by omega)) (fun i g hi hg => h2 i g (by omega) (by omega))
    show (match bst p b k with | none => if p k = true then some k else none | some g => if p k = true ∧ b k g = true then some k else some g) = (match bst q c k with | none => if q k = true then some k else none | some g => if q k = true ∧ c k g = true then some k else some g)
    rw [e, h k (by omega)]
    cases hb : bst q c k with
    | none => rfl
    | some g =>
      have hg := (bst_lt hb).1
      show (if q k = true ∧ b k g = true then some k else some g) = (if q k = true ∧ c k g = true then some k else some g)
      rw [h2 k g (by omega) (by omega)]
def rdy (k : Nat) (os ns ln : Nat → Nat) (wt : Nat → Bool) (b : Nat) : Bool := decide (fst (fun o => wt o && mgb os ns ln o b) k = k)
def frd (k : Nat) (os ns ln : Nat → Nat) (wt : Nat → Bool) : Nat := fst (fun b => wt b && rdy k os ns ln wt b) k
def shw (k : Nat) (ln : Nat → Nat) (wt : Nat → Bool) : Option Nat := bst wt (fun i g => decide (ln i < ln g)) k
theorem rdy_no {k : Nat} {os ns ln : Nat → Nat} {wt : Nat → Bool} {b j : Nat} (hj : j < k) (h1 : wt j = true) (h2 : mgb os ns ln j b = true) : rdy k os ns ln wt b = false := by
  obtain ⟨q1, q2, q3⟩ := fst_spec (fun o => wt o && mgb os ns ln o b) k
  refine decide_eq_false (fun he => ?_)
  have := q3 j (by omega)
  simp [h1, h2] at this
theorem rdy_yes {k : Nat} {os ns ln : Nat → Nat} {wt : Nat → Bool} {b : Nat} (h : ∀ j, j < k → (wt j && mgb os ns ln j b) = false) : rdy k os ns ln wt b = true := decide_eq_true (fst_none h)
abbrev oS : Type := (Nat → Nat) × (Nat → Nat) × Nat
def wtf (st : Nat → Nat) : Nat → Bool := fun b => decide (st b = 0)
def stp (k : Nat) (os ns ln : Nat → Nat) (X : oS) : oS :=
  if frd k os ns ln (wtf X.1) < k then (va_up X.1 (frd k os ns ln (wtf X.1)) 1, va_up X.2.1 X.2.2 (frd k os ns ln (wtf X.1)), X.2.2 + 1)
  else match shw k ln (wtf X.1) with
    | none => X
    | some g => (va_up X.1 g 2, X.2.1, X.2.2)
def its (k : Nat) (os ns ln : Nat → Nat) : Nat → oS
  | 0 => (fun _ => 0, fun _ => 0, 0)
  | r + 1 => stp k os ns ln (its k os ns ln r)
def cnt (p : Nat → Bool) : Nat → Nat
  | 0 => 0
  | n + 1 => cnt p n + (if p n = true then 1 else 0)
theorem cnt_congr {p q : Nat → Bool} : ∀ {n : Nat}, (∀ i, i < n → p i = q i) → cnt p n = cnt q n
  | 0, _ => rfl
  | n + 1, h => by unfold cnt; rw [cnt_congr (fun i hi => h i (by omega)), h n (by omega)]
theorem cnt_one {p q : Nat → Bool} {a : Nat} : ∀ {n : Nat}, (∀ i, i < n → i ≠ a → q i = p i) → cnt q n ≤ cnt p n + 1
  | 0, _ => by simp [cnt]
  | n + 1, h => by
    unfold cnt
    by_cases ha : n = a
    · have e : cnt q n = cnt p n := cnt_congr (fun i hi => h i (by omega) (by omega))
      rw [e]
      split <;> split <;> omega
    · have e := cnt_one (a := a) (n := n) (fun i hi hia => h i (by omega) hia)
      rw [h n (by omega) ha]
      omega
theorem cnt_le (p : Nat → Bool) : ∀ n, cnt p n ≤ n
  | 0 => Nat.le_refl _
  | n + 1 => by
    have := cnt_le p n
    unfold cnt; split <;> omega
theorem cnt_ex {p : Nat → Bool} : ∀ {n : Nat}, cnt p n < n → ∃ i, i < n ∧ p i = false
  | 0, h => absurd h (Nat.not_lt_zero _)
  | n + 1, h => by
    by_cases hp : p n = true
    · have h2 : cnt p n < n := by unfold cnt at h; rw [if_pos hp] at h; omega
      obtain ⟨i, h3, h4⟩ := cnt_ex h2
      exact ⟨i, by omega, h4⟩
    · exact ⟨n, by omega, by simpa using hp⟩
theorem its_ok (k : Nat) (os ns ln : Nat → Nat) : ∀ r, (its k os ns ln r).2.2 ≤ r ∧ (∀ j, j < (its k os ns ln r).2.2 → (its k os ns ln r).2.1 j < k) ∧ cnt (fun b => decide (¬ (its k os ns ln r).1 b = 0)) k ≤ r
  | 0 => ⟨Nat.le_refl _, fun j hj => absurd hj (Nat.not_lt_zero _), by
      have e : cnt (fun b => decide (¬ (its k os ns ln 0).1 b = 0)) k = cnt (fun _ => false) k := cnt_congr (fun i _ => by simp [its])
      rw [e]
      have : ∀ n, cnt (fun _ => false) n = 0 := by
        intro n; induction n with
        | zero => rfl
        | succ n ih => unfold cnt; rw [ih]; rfl
      rw [this]; exact Nat.le_refl _⟩
  | r + 1 => by
    obtain ⟨h1, h2, h3⟩ := its_ok k os ns ln r
    have key : ∀ (a v : Nat), cnt (fun b => decide (¬ va_up (its k os ns ln r).1 a v b = 0)) k ≤ r + 1 := fun a v => by
      have := cnt_one (a := a) (n := k) (p := fun b => decide (¬ (its k os ns ln r).1 b = 0)) (q := fun b => decide (¬ va_up (its k os ns ln r).1 a v b = 0)) (fun i _ hia => by simp [va_up, hia])
      omega
    show (stp k os ns ln (its k os ns ln r)).2.2 ≤ r + 1 ∧ (∀ j, j < (stp k os ns ln (its k os ns ln r)).2.2 → (stp k os ns ln (its k os ns ln r)).2.1 j < k) ∧ cnt (fun b => decide (¬ (stp k os ns ln (its k os ns ln r)).1 b = 0)) k ≤ r + 1
    unfold stp
    by_cases hf : frd k os ns ln (wtf (its k os ns ln r).1) < k
    · rw [if_pos hf]
      refine ⟨by show _ + 1 ≤ _ + 1; omega, fun j hj => ?_, key _ _⟩
      show va_up _ _ _ j < k
      unfold va_up
      split
      · exact hf
      · have hj : j < (its k os ns ln r).2.2 + 1 := hj
        exact h2 j (by omega)
    · rw [if_neg hf]
      cases hs : shw k ln (wtf (its k os ns ln r).1) with
      | none => exact ⟨by show (its k os ns ln r).2.2 ≤ r + 1; omega, h2, by show cnt (fun b => decide (¬ (its k os ns ln r).1 b = 0)) k ≤ r + 1; omega⟩
      | some g => exact ⟨by show (its k os ns ln r).2.2 ≤ r + 1; omega, h2, key _ _⟩
/-- a block waits still -/
theorem its_wait (k : Nat) (os ns ln : Nat → Nat) {r : Nat} (hr : r < k) : ∃ b, b < k ∧ (its k os ns ln r).1 b = 0 := by
  obtain ⟨i, h1, h2⟩ := cnt_ex (Nat.lt_of_le_of_lt (its_ok k os ns ln r).2.2 hr)
  exact ⟨i, h1, by simpa using h2⟩
theorem frd_congr {k : Nat} {os ns ln : Nat → Nat} {w w' : Nat → Bool} (h : ∀ b, b < k → w b = w' b) : frd k os ns ln w = frd k os ns ln w' := by
  unfold frd
  refine fst_congr (fun i hi => ?_)
  have : rdy k os ns ln w i = rdy k os ns ln w' i := by
    unfold rdy
    rw [fst_congr (p := fun o => w o && mgb os ns ln o i) (q := fun o => w' o && mgb os ns ln o i) (fun j hj => by rw [h j hj])]
  rw [h i hi, this]
theorem shw_congr {k : Nat} {ln : Nat → Nat} {w w' : Nat → Bool} (h : ∀ b, b < k → w b = w' b) : shw k ln w = shw k ln w' := bst_congr h (fun _ _ _ _ => rfl)
theorem frd_wt {k : Nat} {os ns ln : Nat → Nat} {w : Nat → Bool} (h : frd k os ns ln w < k) : w (frd k os ns ln w) = true := by
  have := (fst_spec (fun b => w b && rdy k os ns ln w b) k).1 h
  have h2 : (w (frd k os ns ln w) && rdy k os ns ln w (frd k os ns ln w)) = true := this
  simp at h2; exact h2.1
theorem shw_some {k : Nat} {os ns ln : Nat → Nat} {w : Nat → Bool} {r : Nat} (hr : r < k) (h : ∀ b, b < k → w b = wtf (its k os ns ln r).1 b) : ∃ g, shw k ln w = some g := by
  obtain ⟨b, h1, h2⟩ := its_wait k os ns ln hr
  cases hs : shw k ln w with
  | some g => exact ⟨g, rfl⟩
  | none =>
    have := bst_none hs b h1
    rw [h b h1] at this
    simp [wtf, h2] at this
/-- the class's rows against the function, behind r turns -/
def CoR (k : Nat) (os ns ln : Nat → Nat) (r : Nat) (wt dr : Nat → Bool) (od : Nat → Nat) (sp : Nat) : Prop :=
  (∀ b, b < k → wt b = wtf (its k os ns ln r).1 b) ∧ (∀ b, b < k → dr b = decide ((its k os ns ln r).1 b = 2)) ∧ (∀ j, j < sp → od j = (its k os ns ln r).2.1 j) ∧ sp = (its k os ns ln r).2.2
theorem CoR_copy {k : Nat} {os ns ln : Nat → Nat} {r : Nat} {wt dr : Nat → Bool} {od : Nat → Nat} {sp : Nat} (h : CoR k os ns ln r wt dr od sp) (hf : frd k os ns ln wt < k) : CoR k os ns ln (r + 1) (va_up wt (frd k os ns ln wt) false) dr (va_up od sp (frd k os ns ln wt)) (sp + 1) := by
  obtain ⟨h1, h2, h3, h4⟩ := h
  have e := frd_congr (os := os) (ns := ns) (ln := ln) h1
  have hf2 := hf
  rw [e] at hf2
  have es : its k os ns ln (r + 1) = (va_up (its k os ns ln r).1 (frd k os ns ln wt) 1, va_up (its k os ns ln r).2.1 (its k os ns ln r).2.2 (frd k os ns ln wt), (its k os ns ln r).2.2 + 1) := by
    show stp k os ns ln (its k os ns ln r) = _
    unfold stp
    rw [if_pos hf2, ← e]
  have hw := frd_wt hf
  have hz : (its k os ns ln r).1 (frd k os ns ln wt) = 0 := by
    have := h1 _ hf
    rw [hw] at this
    simpa [wtf] using this.symm
  unfold CoR
  rw [es]
  refine ⟨fun b hb => ?_, fun b hb => ?_, fun j hj => ?_, by rw [h4]⟩
  · show va_up wt (frd k os ns ln wt) false b = wtf (va_up (its k os ns ln r).1 (frd k os ns ln wt) 1) b
    by_cases hbf : b = frd k os ns ln wt
    · simp [va_up, wtf, hbf]
    · have := h1 b hb
      simp only [wtf] at this
      simp [va_up, wtf, hbf, this]
  · show dr b = decide (va_up (its k os ns ln r).1 (frd k os ns ln wt) 1 b = 2)
    by_cases hbf : b = frd k os ns ln wt
    · rw [h2 b hb, hbf]; simp [va_up, hz]
    · rw [h2 b hb]; simp [va_up, hbf]
  · show va_up od sp (frd k os ns ln wt) j = va_up (its k os ns ln r).2.1 (its k os ns ln r).2.2 (frd k os ns ln wt) j
    rw [← h4]
    by_cases hjs : j = sp
    · simp [va_up, hjs]
    · simp only [va_up, if_neg hjs]; exact h3 j (by omega)
theorem CoR_drop {k : Nat} {os ns ln : Nat → Nat} {r g : Nat} {wt dr : Nat → Bool} {od : Nat → Nat} {sp : Nat} (h : CoR k os ns ln r wt dr od sp) (hf : ¬ frd k os ns ln wt < k) (hg : shw k ln wt = some g) : CoR k os ns ln (r + 1) (va_up wt g false) (va_up dr g true) od sp := by
  obtain ⟨h1, h2, h3, h4⟩ := h
  rw [frd_congr (os := os) (ns := ns) (ln := ln) h1] at hf
  rw [shw_congr h1] at hg
  have es : its k os ns ln (r + 1) = (va_up (its k os ns ln r).1 g 2, (its k os ns ln r).2.1, (its k os ns ln r).2.2) := by
    show stp k os ns ln (its k os ns ln r) = _
    unfold stp
    rw [if_neg hf, hg]
  unfold CoR
  rw [es]
  refine ⟨fun b hb => ?_, fun b hb => ?_, h3, h4⟩
  · show va_up wt g false b = wtf (va_up (its k os ns ln r).1 g 2) b
    by_cases hbf : b = g
    · simp [va_up, wtf, hbf]
    · have := h1 b hb
      simp only [wtf] at this
      simp [va_up, wtf, hbf, this]
  · show va_up dr g true b = decide (va_up (its k os ns ln r).1 g 2 b = 2)
    by_cases hbf : b = g
    · simp [va_up, hbf]
    · rw [show va_up dr g true b = dr b from if_neg hbf, h2 b hb]; simp [va_up, hbf]
/-- where the value at x after s steps stood at first -/
def org (od os ns ln : Nat → Nat) : Nat → Int → Int
  | 0, x => x
  | s + 1, x => org od os ns ln s (if cv ns ln x (od s) = true then x - ((ns (od s) : Nat) : Int) + ((os (od s) : Nat) : Int) else x)
theorem org_congr {od od' os ns ln : Nat → Nat} : ∀ {s : Nat} {x : Int}, (∀ j, j < s → od j = od' j) → org od os ns ln s x = org od' os ns ln s x
  | 0, _, _ => rfl
  | s + 1, x, h => by
    unfold org
    rw [h s (by omega)]
    exact org_congr (fun j hj => h j (by omega))
