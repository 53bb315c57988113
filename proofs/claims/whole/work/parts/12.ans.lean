/-! what the calls answer, as functions of the images and the blocks -/
def Gd (no nn k : Nat) (os ns ln : Nat → Nat) : Prop := (∀ i, i < k → os i + ln i ≤ no ∧ ns i + ln i ≤ nn ∧ 1 ≤ ln i) ∧ ∀ i j, i < j → j < k → ns i + ln i ≤ ns j
theorem SE_Gd {no nn k : Nat} {os ns ln : Nat → Nat} {bs : List bT} (hg : Geo no nn bs) (hs : SE k os ns ln bs) : Gd no nn k os ns ln := by
  refine ⟨fun i hi => ?_, fun i j hij hj => ?_⟩
  · have := Geo_mem hg _ (hs.1 i hi); simp only at this; omega
  · have h1 := hs.1 i (by omega)
    have h2 := hs.1 j hj
    have h3 := hs.2.2 i j hij hj
    have g1 := (Geo_mem hg _ h1).1
    have g2 := (Geo_mem hg _ h2).1
    rcases Geo_apart hg _ _ h1 h2 with h | h
    · have e : ns i = ns j := congrArg (fun b : bT => b.2.1) h; omega
    · simp only at h g1 g2; omega
def oN (os ns : Nat → Nat) (j w : Nat) : Nat := os j + w - ns j
def prd (vo : Nat → Int) (fo : Nat → Bool) (k : Nat) (os ns : Nat → Nat) (j w : Nat) : Int := if fo (oN os ns j w) = true then mv k os ns (vo (oN os ns j w)) else vo (oN os ns j w)
def bx (k : Nat) (ns ln : Nat → Nat) (w : Nat) : Nat := wni k ns ln (w : Int)
def ncr (vo : Nat → Int) (fo : Nat → Bool) (vn : Nat → Int) (k : Nat) (os ns ln : Nat → Nat) (w : Nat) : Bool := decide (bx k ns ln w < k) && decide (¬ prd vo fo k os ns (bx k ns ln w) w = vn w)
def chg (vo vn : Nat → Int) (k : Nat) (os ns ln : Nat → Nat) (w : Nat) : Bool := decide (bx k ns ln w < k) && decide (¬ vo (oN os ns (bx k ns ln w) w) = vn w)
def lit (nn k : Nat) (ns ln : Nat → Nat) : Nat := cnt (fun w => decide (¬ bx k ns ln w < k)) nn
def isc (k : Nat) (os ns ln : Nat → Nat) (w : Nat) : Bool := decide (bx k ns ln w < k) && decide (¬ (its k os ns ln k).1 (bx k ns ln w) = 2)
def ipc (vo : Nat → Int) (fo : Nat → Bool) (vn : Nat → Int) (k : Nat) (os ns ln : Nat → Nat) (w : Nat) : Nat := if isc k os ns ln w = true then (if ncr vo fo vn k os ns ln w = true then 2 else 0) else 1
def smN (f : Nat → Nat) : Nat → Nat
  | 0 => 0
  | n + 1 => smN f n + f n
theorem bx_cov {k : Nat} {ns ln : Nat → Nat} {w : Nat} (h : bx k ns ln w < k) : ns (bx k ns ln w) ≤ w ∧ w < ns (bx k ns ln w) + ln (bx k ns ln w) := by
  have h1 := (fst_spec (cv ns ln (w : Int)) k).1 h
  have h2 : cv ns ln (w : Int) (bx k ns ln w) = true := h1
  have h3 := of_decide_eq_true h2
  omega
theorem bx_in {no nn k : Nat} {os ns ln : Nat → Nat} {w : Nat} (hg : Gd no nn k os ns ln) (h : bx k ns ln w < k) : oN os ns (bx k ns ln w) w < no ∧ ns (bx k ns ln w) ≤ w ∧ w < nn := by
  have h1 := bx_cov h
  have h2 := hg.1 _ h
  unfold oN
  omega
theorem oN_cast {os ns : Nat → Nat} {j w : Nat} (h : ns j ≤ w) : (w : Int) - ((ns j : Nat) : Int) + ((os j : Nat) : Int) = ((oN os ns j w : Nat) : Int) := by unfold oN; omega
theorem mv_R {k : Nat} {os ns ln : Nat → Nat} {a : Int} (hB : B48 k os ns ln) (h1 : 0 ≤ a) (h2 : a ≤ 9999) : 0 ≤ mv k os ns a ∧ mv k os ns a ≤ 10047 := by
  unfold mv
  cases hg : gde os a k with
  | none => exact ⟨h1, by show a ≤ 10047; omega⟩
  | some g =>
    have hl := bst_lt hg
    have hb := hB g hl.1
    have ho := of_decide_eq_true hl.2
    exact ⟨by show 0 ≤ a + (ns g : Int) - (os g : Int); omega, by show a + (ns g : Int) - (os g : Int) ≤ 10047; omega⟩
theorem prd_R {vo : Nat → Int} {fo : Nat → Bool} {k : Nat} {os ns ln : Nat → Nat} {j w : Nat} (hB : B48 k os ns ln) (hvo : ∀ j, 0 ≤ vo j ∧ vo j ≤ 9999) : 0 ≤ prd vo fo k os ns j w ∧ prd vo fo k os ns j w ≤ 10047 := by
  unfold prd
  have hv := hvo (oN os ns j w)
  split
  · exact mv_R hB hv.1 hv.2
  · omega
theorem cnt_s1 {p : Nat → Bool} {n : Nat} (h : p n = true) : cnt p (n + 1) = cnt p n + 1 := by
  show cnt p n + (if p n = true then 1 else 0) = _; rw [if_pos h]
theorem cnt_s0 {p : Nat → Bool} {n : Nat} (h : p n = false) : cnt p (n + 1) = cnt p n := by
  show cnt p n + (if p n = true then 1 else 0) = _; rw [if_neg (by rw [h]; decide), Nat.add_zero]
theorem cnt_or {p q : Nat → Bool} : ∀ {n : Nat}, (∀ i, i < n → p i = true → q i = false) → cnt (fun i => p i || q i) n = cnt p n + cnt q n
  | 0, _ => rfl
  | n + 1, h => by
    have ih := cnt_or (n := n) (fun i hi => h i (by omega))
    cases hp : p n with
    | true =>
      have hq := h n (by omega) hp
      rw [cnt_s1 (p := fun i => p i || q i) (by simp [hp]), cnt_s1 hp, cnt_s0 hq]; omega
    | false =>
      cases hq : q n with
      | true => rw [cnt_s1 (p := fun i => p i || q i) (by simp [hq]), cnt_s0 hp, cnt_s1 hq]; omega
      | false => rw [cnt_s0 (p := fun i => p i || q i) (by simp [hp, hq]), cnt_s0 hp, cnt_s0 hq]; omega
theorem cnt_not {p : Nat → Bool} : ∀ n, cnt p n + cnt (fun i => !p i) n = n
  | 0 => rfl
  | n + 1 => by
    have ih := cnt_not (p := p) n
    cases hp : p n with
    | true => rw [cnt_s1 hp, cnt_s0 (p := fun i => !p i) (by simp [hp])]; omega
    | false => rw [cnt_s0 hp, cnt_s1 (p := fun i => !p i) (by simp [hp])]; omega
theorem cnt_iv (a l : Nat) : ∀ n, cnt (fun i => decide (a ≤ i ∧ i < a + l)) n = if n ≤ a then 0 else if n ≤ a + l then n - a else l
  | 0 => by rw [if_pos (Nat.zero_le _)]; rfl
  | n + 1 => by
    have ih := cnt_iv a l n
    by_cases h : a ≤ n ∧ n < a + l
    · rw [cnt_s1 (decide_eq_true h), ih]
      split <;> split <;> (try split) <;> (try split) <;> omega
    · rw [cnt_s0 (decide_eq_false h), ih]
      split <;> split <;> (try split) <;> (try split) <;> omega
theorem lit_sum {no nn k : Nat} {os ns ln : Nat → Nat} (hg : Gd no nn k os ns ln) : smN ln k + lit nn k ns ln = nn := by
  have key : ∀ i, i ≤ k → cnt (fun w => decide (fst (cv ns ln (w : Int)) i < i)) nn = smN ln i := by
    intro i
    induction i with
    | zero =>
      intro _
      have e : ∀ n, cnt (fun w => decide (fst (cv ns ln (w : Int)) 0 < 0)) n = 0 := by
        intro n
        induction n with
        | zero => rfl
        | succ n ih => rw [cnt_s0 (by simp)]; exact ih
      exact e nn
    | succ i ih =>
      intro hi
      have h1 := ih (by omega)
      have h2 := hg.1 i (by omega)
      have e : cnt (fun w => decide (fst (cv ns ln (w : Int)) (i + 1) < i + 1)) nn = cnt (fun w => decide (fst (cv ns ln (w : Int)) i < i) || decide (ns i ≤ w ∧ w < ns i + ln i)) nn := by
        refine cnt_congr (fun w hw => ?_)
        obtain ⟨q1, q2, q3⟩ := fst_spec (cv ns ln (w : Int)) i
        show decide ((if fst (cv ns ln (w : Int)) i < i then fst (cv ns ln (w : Int)) i else if cv ns ln (w : Int) i = true then i else i + 1) < i + 1) = _
        by_cases hf : fst (cv ns ln (w : Int)) i < i
        · rw [if_pos hf, decide_eq_true hf, decide_eq_true (show fst (cv ns ln (w : Int)) i < i + 1 by omega)]; rfl
        · rw [if_neg hf, decide_eq_false hf]
          by_cases hc : cv ns ln (w : Int) i = true
          · rw [if_pos hc]
            have := of_decide_eq_true hc
            rw [decide_eq_true (show i < i + 1 by omega), decide_eq_true (show ns i ≤ w ∧ w < ns i + ln i by omega)]; rfl
          · rw [if_neg hc]
            have : ¬ (ns i ≤ w ∧ w < ns i + ln i) := fun h => hc (decide_eq_true (by omega))
            rw [decide_eq_false (show ¬ (i + 1 < i + 1) by omega), decide_eq_false this]; rfl
      rw [e, cnt_or (fun w hw hp => ?_), h1, cnt_iv]
      · show smN ln i + _ = smN ln i + ln i
        split
        · omega
        · split <;> omega
      · have hp := of_decide_eq_true hp
        have hc := of_decide_eq_true ((fst_spec (cv ns ln (w : Int)) i).1 hp)
        have := hg.2 _ i hp (by omega)
        exact decide_eq_false (by omega)
  have h1 := key k (Nat.le_refl _)
  have h2 := cnt_not (p := fun w : Nat => decide (fst (cv ns ln (w : Int)) k < k)) nn
  have h3 : lit nn k ns ln = cnt (fun w : Nat => !decide (fst (cv ns ln (w : Int)) k < k)) nn := by
    unfold lit
    exact cnt_congr (fun w _ => by show decide (¬ fst (cv ns ln (w : Int)) k < k) = !decide (fst (cv ns ln (w : Int)) k < k); by_cases h0 : fst (cv ns ln (w : Int)) k < k <;> simp [h0])
  omega
/-- behind the last turn no block waits -/
theorem its_cnt (k : Nat) (os ns ln : Nat → Nat) : ∀ r, r ≤ k → r ≤ cnt (fun b => decide (¬ (its k os ns ln r).1 b = 0)) k
  | 0, _ => Nat.zero_le _
  | r + 1, hr => by
    have ih := its_cnt k os ns ln r (by omega)
    have key : ∀ (a v : Nat), a < k → (its k os ns ln r).1 a = 0 → ¬ v = 0 → r + 1 ≤ cnt (fun b => decide (¬ va_up (its k os ns ln r).1 a v b = 0)) k := fun a v ha h0 hv => by
      have := cnt_more (p := fun b => decide (¬ (its k os ns ln r).1 b = 0)) (q := fun b => decide (¬ va_up (its k os ns ln r).1 a v b = 0)) (a := a) (n := k) (fun i _ hp => by
        by_cases hia : i = a
        · simp [va_up, hia, hv]
        · simpa [va_up, hia] using hp) ha (by simp [h0]) (by simp [va_up, hv])
      omega
    show r + 1 ≤ cnt (fun b => decide (¬ (stp k os ns ln (its k os ns ln r)).1 b = 0)) k
    unfold stp
    by_cases hf : frd k os ns ln (wtf (its k os ns ln r).1) < k
    · rw [if_pos hf]
      have := frd_wt hf
      exact key _ 1 hf (by simpa [wtf] using this) (by decide)
    · rw [if_neg hf]
      obtain ⟨g, hg⟩ := shw_some (k := k) (os := os) (ns := ns) (ln := ln) (w := wtf (its k os ns ln r).1) (r := r) (by omega) (fun _ _ => rfl)
      rw [hg]
      have hl := bst_lt hg
      exact key g 2 hl.1 (by simpa [wtf] using hl.2) (by decide)
theorem its_vals (k : Nat) (os ns ln : Nat → Nat) : ∀ r b, (its k os ns ln r).1 b ≤ 2
  | 0, b => by show 0 ≤ 2; omega
  | r + 1, b => by
    have ih := its_vals k os ns ln r b
    have key : ∀ a v, v ≤ 2 → va_up (its k os ns ln r).1 a v b ≤ 2 := fun a v hv => by
      unfold va_up; split <;> omega
    show (stp k os ns ln (its k os ns ln r)).1 b ≤ 2
    unfold stp
    split
    · exact key _ 1 (by decide)
    · split
      · exact ih
      · exact key _ 2 (by decide)
theorem its_done (k : Nat) (os ns ln : Nat → Nat) {b : Nat} (hb : b < k) : (its k os ns ln k).1 b = 1 ∨ (its k os ns ln k).1 b = 2 := by
  have h1 := its_cnt k os ns ln k (Nat.le_refl _)
  have h2 := its_vals k os ns ln k b
  by_cases h0 : (its k os ns ln k).1 b = 0
  · exfalso
    have := cnt_more (p := fun b => decide (¬ (its k os ns ln k).1 b = 0)) (q := fun _ => true) (a := b) (n := k) (fun _ _ _ => rfl) hb (by simp [h0]) rfl
    have := cnt_le (fun _ => true) k
    omega
  · omega
/-! the answers -/
def apS (n : Nat) (v : Nat → Int) (f : Nat → Bool) (bu : Bool) (x : Int) (t : Bool) : Nat × (Nat → Int) × (Nat → Bool) × Bool := if (0 ≤ x ∧ x ≤ 9999) ∧ n < 48 then (n + 1, va_up v n x, va_up f n t, false) else (n, v, f, bu)
def apR (n : Nat) (x : Int) : Int := if 0 ≤ x ∧ x ≤ 9999 then (if n < 48 then (n : Int) else -10002) else -10001
def snS (nn : Nat) (vn : Nat → Int) (bu : Bool) (x y : Int) : (Nat → Int) × Bool := if (0 ≤ x ∧ x < (nn : Int)) ∧ 0 ≤ y ∧ y ≤ 9999 then (va_up vn x.toNat y, false) else (vn, bu)
def snR (nn : Nat) (vn : Nat → Int) (x y : Int) : Int := if 0 ≤ x ∧ x < (nn : Int) then (if 0 ≤ y ∧ y ≤ 9999 then vn x.toNat else -10001) else -10003
def nvR (nn : Nat) (vn : Nat → Int) (x : Int) : Int := if 0 ≤ x ∧ x < (nn : Int) then vn x.toNat else -10003
def bdR (k : Nat) (x : Int) : Int := if 1 ≤ x ∧ x ≤ 16 then (k : Int) else -10001
def A_ofb (bu : Bool) (k : Nat) (f : Nat → Nat) (x : Int) : Int := if bu = true then (if 0 ≤ x ∧ x < (k : Int) then (f x.toNat : Int) else -10003) else -10004
def A_bof (bu : Bool) (nn k : Nat) (ns ln : Nat → Nat) (x : Int) : Int := if bu = true then (if 0 ≤ x ∧ x < (nn : Int) then wI (bx k ns ln x.toNat) k (-10005) else -10003) else -10004
def A_pad (bu : Bool) (k : Nat) (os ns : Nat → Nat) (x : Int) : Int := if bu = true then (if 0 ≤ x ∧ x ≤ 9999 then mv k os ns x else -10001) else -10004
def A_pvl (bu : Bool) (nn : Nat) (vo : Nat → Int) (fo : Nat → Bool) (k : Nat) (os ns ln : Nat → Nat) (x : Int) : Int := if bu = true then (if 0 ≤ x ∧ x < (nn : Int) then (if bx k ns ln x.toNat < k then prd vo fo k os ns (bx k ns ln x.toNat) x.toNat else -10005) else -10003) else -10004
def A_cc (bu : Bool) (z : Nat) : Int := if bu = true then (z : Int) else -10004
def A_ci (bu : Bool) (nn : Nat) (p : Nat → Bool) (x : Int) : Int := if bu = true then wI (fst (fun w => p w && decide (((cnt p w : Nat) : Int) = x)) nn) nn (-10003) else -10004
def A_drp (bu : Bool) (k : Nat) (os ns ln : Nat → Nat) (x : Int) : Int := if bu = true then (if 0 ≤ x ∧ x < (k : Int) then (if (its k os ns ln k).1 x.toNat = 2 then 1 else 0) else -10003) else -10004
def A_mem (bu : Bool) (no : Nat) (vo : Nat → Int) (nn k : Nat) (os ns ln : Nat → Nat) (s x : Int) : Int := if bu = true then (if 0 ≤ s ∧ s ≤ ((its k os ns ln k).2.2 : Int) then (if 0 ≤ x ∧ x < (Nat.max no nn : Int) then vAt no vo (org (its k os ns ln k).2.1 os ns ln s.toNat x) else -10003) else -10001) else -10004
def A_pat (bu : Bool) (no : Nat) (vo : Nat → Int) (fo : Nat → Bool) (nn : Nat) (vn : Nat → Int) (k : Nat) (os ns ln : Nat → Nat) (x : Int) : Int := if bu = true then (if 0 ≤ x ∧ x < (nn : Int) then (if isc k os ns ln x.toNat = true ∧ ncr vo fo vn k os ns ln x.toNat = false then (if fo (oN os ns (bx k ns ln x.toNat) x.toNat) = true then mv k os ns (vAt no vo (org (its k os ns ln k).2.1 os ns ln (its k os ns ln k).2.2 x)) else vAt no vo (org (its k os ns ln k).2.1 os ns ln (its k os ns ln k).2.2 x)) else vn x.toNat) else -10003) else -10004
theorem vAt_R {no : Nat} {vo : Nat → Int} {x : Int} (hvo : ∀ j, 0 ≤ vo j ∧ vo j ≤ 9999) : 0 ≤ vAt no vo x ∧ vAt no vo x ≤ 9999 := by
  unfold vAt; split
  · exact hvo _
  · exact ⟨by decide, by decide⟩
def eR (bu : Bool) (n : Nat) (x : Int) : Int := if bu = true then (if 0 ≤ x ∧ x < (n : Int) then 0 else -10003) else -10004
theorem eR_0 {bu : Bool} {n : Nat} {x : Int} (h : eR bu n x = 0) : bu = true ∧ 0 ≤ x ∧ x < (n : Int) := by
  unfold eR at h
  by_cases hb : bu = true
  · rw [if_pos hb] at h
    by_cases hx : 0 ≤ x ∧ x < (n : Int)
    · exact ⟨hb, hx⟩
    · rw [if_neg hx] at h; exact absurd h (by decide)
  · rw [if_neg hb] at h; exact absurd h (by decide)
theorem eR_ne {bu : Bool} {n : Nat} {x : Int} (z : Int) (h : ¬ eR bu n x = 0) : eR bu n x = (if bu = true then (if 0 ≤ x ∧ x < (n : Int) then z else -10003) else -10004) := by
  unfold eR at h ⊢
  by_cases hb : bu = true
  · rw [if_pos hb] at h ⊢
    by_cases hx : 0 ≤ x ∧ x < (n : Int)
    · rw [if_pos hx] at h; exact absurd rfl h
    · rw [if_neg hx, if_pos hb, if_neg hx]
  · rw [if_neg hb, if_neg hb]
theorem eR_R (bu : Bool) (n : Nat) (x : Int) : R32 (eR bu n x) := by
  unfold eR; split
  · split <;> exact ⟨by decide, by decide⟩
  · exact ⟨by decide, by decide⟩
theorem if2 {P : Prop} {ip : Decidable P} {bu : Bool} {a b c : Int} (h1 : bu = true) (h2 : P) : a = (if bu = true then (if P then a else b) else c) := by rw [if_pos h1, if_pos h2]
theorem if1 {bu : Bool} {a b : Int} (h1 : bu = true) : a = (if bu = true then a else b) := by rw [if_pos h1]
theorem if0 {bu : Bool} {a b : Int} (h1 : bu = false) : b = (if bu = true then a else b) := by rw [if_neg (by rw [h1]; decide)]
theorem if3 {P : Prop} {ip : Decidable P} {bu : Bool} {a b c : Int} (h1 : bu = true) (h2 : ¬ P) : b = (if bu = true then (if P then a else b) else c) := by rw [if_pos h1, if_neg h2]
section QM
variable {p : Program} {l : Launch} {e : Env} {R : Room} {s : State} {m : MethodId} {args : Array Value} {below : List Frame} {meth : Method} {c : Code} {H : Heap} {locs : List Loc} {cells slots : Nat} {Q : State → Prop} {cc : ByteArray} {pc : Nat} {ls : Array Slot} {rest : List Value}
theorem q_max (hexec : p.tables.exec = Jvm.exec) (hb : c.code = cc) (hml : c.maxLocals = ls.size) {own : String} {index : Nat} (hown : s.vm.findClass own = some m.cls) (hlink : (Cond.methodLink own index Lib.Math.max.name).before args s = true) (hstat : (Cond.static Lib.Math.max.name).before args s = true) (hini : (Cond.initialized "java/lang/Math").before args s = true) (hcode : (Cond.code Lib.Math.max.name Lib.Math.max.code 2 (some .int)).before args s = true)
    (hframes : 1 ≤ R.frames) (hlocals : (rest.map fun v => v.category).sum + 13 ≤ R.locals) (hc : cells ≤ R.cells) (hs : slots ≤ R.slots) {a b : Nat} (ha : a ≤ 48) (hb2 : b ≤ 48) (hdg : decode cc pc = .ok (.invokestatic index, 3))
    (kk : W p l e R s m args below meth c H locs cells slots Q (F0 m (pc + 3) ls (.int (iI ((Nat.max a b : Nat) : Int)) :: rest))) : W p l e R s m args below meth c H locs cells slots Q (F0 m pc ls (.int (iI (b : Int)) :: .int (iI (a : Int)) :: rest)) := by
  refine va_mmax hexec hb hml hown hlink hstat hini hcode hframes hlocals hc hs hdg ?_
  have e : (if iI (a : Int) < iI (b : Int) then iI (b : Int) else iI (a : Int)) = iI ((Nat.max a b : Nat) : Int) := by
    by_cases h : a < b
    · rw [if_pos ((iI_lt ⟨by omega, by omega⟩ ⟨by omega, by omega⟩).mpr (by omega)), show Nat.max a b = b from Nat.max_eq_right (by omega)]
    · rw [if_neg (fun h2 => h (by have := (iI_lt ⟨by omega, by omega⟩ ⟨by omega, by omega⟩).mp h2; omega)), show Nat.max a b = a from Nat.max_eq_left (by omega)]
  rw [e]
  exact kk
end QM
abbrev wRP (cI cZ : ClassId) (ad : Nat → Nat) (bu : Bool) (no : Nat) (vo : Nat → Int) (fo : Nat → Bool) (nn : Nat) (vn : Nat → Int) (fn : Nat → Bool) (k : Nat) (os ns ln : Nat → Nat) (ot nt : Nat → Bool) (ru : Nat → Nat) (bo bn bl : Nat) (od : Nat → Nat) (wt dr : Nat → Bool) (sp : Nat) : va_W :=
  (ad 0, .inr (4, [.ref (ad 1), .ref (ad 4), .ref (ad 7), .ref (ad 11), .ref (ad 15), .int (iI (bZ bu))])) :: (wIm cI cZ (ad 1) (ad 2) (ad 3) no vo fo ++ (wIm cI cZ (ad 4) (ad 5) (ad 6) nn vn fn ++ (wBl cI (ad 7) (ad 8) (ad 9) (ad 10) k os ns ln ++ (wAl cI cZ (ad 11) (ad 12) (ad 13) (ad 14) ot nt ru bo bn bl ++ wCo cI cZ (ad 15) (ad 16) (ad 17) (ad 18) od wt dr sp))))
def BdP (no nn : Nat) (mt : Nat → Nat → Bool) (ml k : Nat) (os ns ln : Nat → Nat) (wt dr : Nat → Bool) (od : Nat → Nat) (sp : Nat) : Prop :=
  k ≤ 48 ∧ (∃ bs, Chn no nn mt ml bs ∧ Fnl no nn mt ml bs ∧ SE k os ns ln bs) ∧ CoR k os ns ln k wt dr od sp
theorem smN_mono (f : Nat → Nat) {i : Nat} : ∀ {k : Nat}, i ≤ k → smN f i ≤ smN f k
  | 0, h => by rw [show i = 0 from by omega]; exact Nat.le_refl _
  | k + 1, h => by
    by_cases e : i = k + 1
    · rw [e]; exact Nat.le_refl _
    · have := smN_mono f (i := i) (k := k) (by omega)
      show smN f i ≤ smN f k + f k
      omega
theorem org_R {k : Nat} {od os ns ln : Nat → Nat} (hB : B48 k os ns ln) : ∀ {s : Nat} {x : Int}, (∀ j, j < s → od j < k) → 0 ≤ x → x ≤ 96 → 0 ≤ org od os ns ln s x ∧ org od os ns ln s x ≤ 96
  | 0, _, _, h1, h2 => ⟨h1, h2⟩
  | s + 1, x, ho, h1, h2 => by
    have hb := hB (od s) (ho s (by omega))
    unfold org
    by_cases hc : cv ns ln x (od s) = true
    · rw [if_pos hc]
      have := of_decide_eq_true hc
      exact org_R hB (fun j hj => ho j (by omega)) (by omega) (by omega)
    · rw [if_neg hc]
      exact org_R hB (fun j hj => ho j (by omega)) h1 h2
