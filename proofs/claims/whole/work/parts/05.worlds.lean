/-! what a state is -/
abbrev wIm (cI cZ : ClassId) (h a b : Nat) (n : Nat) (v : Nat → Int) (f : Nat → Bool) : va_W := [(h, .inr (3, [.ref a, .ref b, .int (iI ((n : Nat) : Int))])), (a, .inl (cI, 48, .inl (aI v))), (b, .inl (cZ, 48, .inl (aB f)))]
def vAt (n : Nat) (v : Nat → Int) (x : Int) : Int := if 0 ≤ x ∧ x < ((n : Nat) : Int) then v x.toNat else 0
def fAt (n : Nat) (f : Nat → Bool) (x : Int) : Bool := decide (0 ≤ x ∧ x < ((n : Nat) : Int)) && f x.toNat
abbrev wBl (cI : ClassId) (h a b d : Nat) (k : Nat) (os ns ln : Nat → Nat) : va_W := [(h, .inr (1, [.ref a, .ref b, .ref d, .int (iI ((k : Nat) : Int))])), (a, .inl (cI, 48, .inl (aN os))), (b, .inl (cI, 48, .inl (aN ns))), (d, .inl (cI, 48, .inl (aN ln)))]
abbrev wAl (cI cZ : ClassId) (h a b d : Nat) (ot nt : Nat → Bool) (ru : Nat → Nat) (bo bn bl : Nat) : va_W := [(h, .inr (0, [.ref a, .ref b, .ref d, .int (iI ((bo : Nat) : Int)), .int (iI ((bn : Nat) : Int)), .int (iI ((bl : Nat) : Int))])), (a, .inl (cZ, 48, .inl (aB ot))), (b, .inl (cZ, 48, .inl (aB nt))), (d, .inl (cI, 49, .inl (aN ru)))]
abbrev wCo (cI cZ : ClassId) (h a b d : Nat) (od : Nat → Nat) (wt dr : Nat → Bool) (sp : Nat) : va_W := [(h, .inr (2, [.ref a, .ref b, .ref d, .int (iI ((sp : Nat) : Int))])), (a, .inl (cI, 48, .inl (aN od))), (b, .inl (cZ, 48, .inl (aB wt))), (d, .inl (cZ, 48, .inl (aB dr)))]
/-! the first place of a kind; the best place by a comparison -/
def fst (p : Nat → Bool) : Nat → Nat
  | 0 => 0
  | k + 1 => if fst p k < k then fst p k else if p k = true then k else k + 1
theorem fst_spec (p : Nat → Bool) : ∀ k, (fst p k < k → p (fst p k) = true) ∧ fst p k ≤ k ∧ ∀ i, i < fst p k → p i = false
  | 0 => ⟨fun h => absurd h (Nat.not_lt_zero _), Nat.le_refl _, fun i h => absurd h (Nat.not_lt_zero _)⟩
  | k + 1 => by
    obtain ⟨h1, h2, h3⟩ := fst_spec p k
    unfold fst
    by_cases hk : fst p k < k
    · rw [if_pos hk]
      exact ⟨fun _ => h1 hk, by omega, h3⟩
    · rw [if_neg hk]
      have he : fst p k = k := by omega
      rw [he] at h3
      by_cases hp : p k = true
      · rw [if_pos hp]
        exact ⟨fun _ => hp, by omega, h3⟩
      · rw [if_neg hp]
        refine ⟨fun h => absurd h (Nat.lt_irrefl _), Nat.le_refl _, fun i hi => ?_⟩
        by_cases hik : i = k
        · rw [hik]; simpa using hp
        · exact h3 i (by omega)
theorem fst_hit {p : Nat → Bool} {k j : Nat} (hj : j < k) (hp : p j = true) (hb : ∀ i, i < j → p i = false) : fst p k = j := by
  obtain ⟨h1, h2, h3⟩ := fst_spec p k
  rcases Nat.lt_trichotomy (fst p k) j with h | h | h
  · have := h1 (by omega); rw [hb _ h] at this; cases this
  · exact h
  · have := h3 j h; rw [hp] at this; cases this
theorem fst_none {p : Nat → Bool} {k : Nat} (hb : ∀ i, i < k → p i = false) : fst p k = k := by
  obtain ⟨h1, h2, h3⟩ := fst_spec p k
  by_cases h : fst p k < k
  · have := h1 h; rw [hb _ h] at this; cases this
  · omega
def wI (r k : Nat) (s : Int) : Int := if r < k then (r : Int) else s
theorem wI_hit {r k : Nat} {s : Int} (h : r < k) : wI r k s = (r : Int) := if_pos h
theorem wI_none {k : Nat} {s : Int} : wI k k s = s := if_neg (Nat.lt_irrefl k)
theorem fst_wI {p : Nat → Bool} {k : Nat} {s z : Int} (h : (z = s ∧ ∀ i, i < k → p i = false) ∨ ∃ j, j < k ∧ p j = true ∧ (∀ i, i < j → p i = false) ∧ z = (j : Int)) : z = wI (fst p k) k s := by
  rcases h with ⟨h1, h2⟩ | ⟨j, h1, h2, h3, h4⟩
  · rw [fst_none h2, wI_none, h1]
  · rw [fst_hit h1 h2 h3, wI_hit h1, h4]
def bst (ok : Nat → Bool) (bt : Nat → Nat → Bool) : Nat → Option Nat
  | 0 => none
  | i + 1 => match bst ok bt i with
    | none => if ok i = true then some i else none
    | some g => if ok i = true ∧ bt i g = true then some i else some g
theorem bst_skip {ok : Nat → Bool} {bt : Nat → Nat → Bool} {i : Nat} (h : ok i = false) : bst ok bt (i + 1) = bst ok bt i := by
  show (match bst ok bt i with | none => if ok i = true then some i else none | some g => if ok i = true ∧ bt i g = true then some i else some g) = bst ok bt i
  cases hb : bst ok bt i <;> simp [h]
theorem bst_ns {ok : Nat → Bool} {bt : Nat → Nat → Bool} {i : Nat} (hn : bst ok bt i = none) (h : ok i = true) : bst ok bt (i + 1) = some i := by
  unfold bst; rw [hn]; simp [h]
theorem bst_sk {ok : Nat → Bool} {bt : Nat → Nat → Bool} {i g : Nat} (hn : bst ok bt i = some g) (h : bt i g = false) : bst ok bt (i + 1) = some g := by
  unfold bst; rw [hn]; simp [h]
theorem bst_ss {ok : Nat → Bool} {bt : Nat → Nat → Bool} {i g : Nat} (hn : bst ok bt i = some g) (h : ok i = true) (h2 : bt i g = true) : bst ok bt (i + 1) = some i := by
  unfold bst; rw [hn]; simp [h, h2]
theorem bst_lt {ok : Nat → Bool} {bt : Nat → Nat → Bool} : ∀ {k g : Nat}, bst ok bt k = some g → g < k ∧ ok g = true
  | 0, g, h => by simp [bst] at h
  | k + 1, g, h => by
    unfold bst at h
    cases hb : bst ok bt k with
    | none =>
      rw [hb] at h
      by_cases ho : ok k = true
      · simp [ho] at h; subst h; exact ⟨by omega, ho⟩
      · simp [ho] at h
    | some g0 =>
      rw [hb] at h
      have h0 := bst_lt hb
      by_cases ho : ok k = true ∧ bt k g0 = true
      · simp [ho] at h; subst h; exact ⟨by omega, ho.1⟩
      · have h : (if ok k = true ∧ bt k g0 = true then some k else some g0) = some g := h
        rw [if_neg ho] at h
        cases h
        exact ⟨by omega, h0.2⟩
theorem bst_none {ok : Nat → Bool} {bt : Nat → Nat → Bool} : ∀ {k : Nat}, bst ok bt k = none → ∀ i, i < k → ok i = false
  | 0, _, i, hi => absurd hi (Nat.not_lt_zero _)
  | k + 1, h, i, hi => by
    unfold bst at h
    cases hb : bst ok bt k with
    | none =>
      rw [hb] at h
      by_cases ho : ok k = true
      · simp [ho] at h
      · by_cases hik : i = k
        · rw [hik]; simpa using ho
        · exact bst_none hb i (by omega)
    | some g0 =>
      rw [hb] at h
      by_cases ho : ok k = true ∧ bt k g0 = true
      · simp [ho] at h
      · have h : (if ok k = true ∧ bt k g0 = true then some k else some g0) = none := h
        rw [if_neg ho] at h; cases h
def oV (s : Int) (o : Option Nat) : Int := match o with
  | none => s
  | some g => (g : Int)
theorem oV_none {s : Int} (hs : s < 0) {o : Option Nat} (h : oV s o = s) : o = none := by
  cases o with
  | none => rfl
  | some g => exact absurd h (by show ¬ (g : Int) = s; omega)
theorem oV_some {s : Int} {o : Option Nat} (h : ¬ oV s o = s) : ∃ g, o = some g ∧ oV s o = (g : Int) := by
  cases o with
  | none => exact absurd rfl h
  | some g => exact ⟨g, rfl, rfl⟩
/-! blocks -/
def B48 (k : Nat) (os ns ln : Nat → Nat) : Prop := ∀ j, j < k → os j ≤ 48 ∧ ns j ≤ 48 ∧ ln j ≤ 48
def cv (ns ln : Nat → Nat) (x : Int) (j : Nat) : Bool := decide ((ns j : Int) ≤ x ∧ x < ((ns j + ln j : Nat) : Int))
def wni (k : Nat) (ns ln : Nat → Nat) (x : Int) : Nat := fst (cv ns ln x) k
def gde (os : Nat → Nat) (a : Int) (k : Nat) : Option Nat := bst (fun i => decide ((os i : Int) ≤ a)) (fun i g => decide (os g < os i)) k
def mv (k : Nat) (os ns : Nat → Nat) (a : Int) : Int := match gde os a k with
  | none => a
  | some g => a + (ns g : Int) - (os g : Int)
def mgb (os ns ln : Nat → Nat) (x y : Nat) : Bool := decide (x ≠ y ∧ ns y < os x + ln x ∧ os x < ns y + ln y)
def shf (f : Nat → Nat) (q k : Nat) : Nat → Nat := fun j => if q < j ∧ j ≤ k then f (j - 1) else f j
def ins (f : Nat → Nat) (q k x : Nat) : Nat → Nat := va_up (shf f q k) q x
theorem shf_self (f : Nat → Nat) (k : Nat) : shf f k k = f := by
  funext j; unfold shf; rw [if_neg (by omega)]
theorem shf_lt (f : Nat → Nat) {q k j : Nat} (h : j ≤ q) : shf f q k j = f j := by unfold shf; rw [if_neg (by omega)]
theorem shf_step (f : Nat → Nat) {q k : Nat} (h : 0 < q) (hk : q ≤ k) : va_up (shf f q k) q (f (q - 1)) = shf f (q - 1) k := by
  funext j; unfold va_up shf
  by_cases hj : j = q
  · rw [if_pos hj, if_pos (by omega), hj]
  · rw [if_neg hj]
    by_cases h2 : q < j ∧ j ≤ k
    · rw [if_pos h2, if_pos (by omega)]
    · rw [if_neg h2, if_neg (by omega)]
