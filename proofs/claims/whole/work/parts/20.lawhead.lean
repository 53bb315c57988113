/-! THE CLAIM OUT OF ONE WALK OF THE LAW'S BODY. Your part is whole_start (and what it stands on); all else here is the same for every law, but numbers. -/
def R_law : String := "RelocatingPatchLaw"
def lw_P (b : Addr) (xs : List Int32) (args : Array Value) (s : State) : Prop := args = #[.ref b] ∧ s.IntsAt b xs ∧ xs.length ≤ 1536 ∧ (Jvm.Cond.and given_1 narrow_1).before args s = true
def lw_Q (_ : Array Value) (s : State) (o : Outcome) (t : State) : Prop := o = .returned (some (.int 1)) ∧ Framed s o t [] 34 3695
def lw_Z (below : List Frame) (a : Array Value) (s : State) : State → Prop := fun t => ∃ o, t.status = .running ∧ Ended t below o ∧ lw_Q a s o t
/-- the law's own end, with 1 on the stack, nothing written that was there before, its room as the claim has it -/
theorem lw_ret {p : Program} {l : Launch} {e : Env} {s : State} {m : MethodId} {below : List Frame} {meth : Method} {c : Code} {b : Nat} (hx : p.tables.exec = Jvm.exec) (hb : c.code = code) (hr : meth.sig.returnType = ret) (hlocks : meth.locks = false) {pc : Nat} {H : Heap} {ls : Array Slot} (hdg : decode code pc = .ok (.ireturn, 1)) : W p l e room_1 s m #[Value.ref b] below meth c H [] 34 3695 (lw_Z below #[Value.ref b] s) (F0 m pc ls [.int 1]) := by
  intro T hT X
  obtain ⟨fs, hret, hrun, hended, hW, hframe⟩ := X.leave (v := some (.int 1)) (hlocks := hlocks) (fun h => by rw [hr] at h; cases h)
  have hmeth' : T.vm.method? m = some meth := X.method'
  refine ⟨T.setFrames fs, ?_, .returned (some (.int 1)), hrun, hended, rfl, ⟨_, rfl⟩, hW, hframe⟩
  jvm_step X.here [X.here.top, hx, hb, hdg, hmeth', hr, ret, narrow_b1]
  (try refine ⟨rfl, ?_⟩); (try refine ⟨rfl, ?_⟩)
  first | (intro acts; rw [hret _ acts rfl rfl rfl]) | rw [hret _ _ rfl rfl rfl]
  exact Steps.refl _
/-- what holds at the law's entry: the machine, the code, the tables' words (any of lw_tbl by 'hts w (by decide +kernel)'), the script of L ints xs at the cell b, what the Statement gives of the start (any of its parts by flat_of_before) -/
def lw_At (p : Program) (s : State) (m : MethodId) (meth : Method) (c : Code) (b L : Nat) (xs : Nat → Int32) : Prop :=
  p.tables.exec = Jvm.exec ∧ c.code = code ∧ meth.sig.returnType = ret ∧ c.maxLocals = 4 ∧ s.vm.findClass R_law = some m.cls ∧ (∀ w ∈ lw_tbl, w.before #[Value.ref b] s = true) ∧ va_X b L xs s s.heap ∧ b < s.heap.size ∧ meth.locks = false ∧ (Jvm.Cond.and given_1 narrow_1).before #[Value.ref b] s = true
def LIv (bu : Bool) (no : Nat) (vo : Nat → Int) (nn : Nat) (vn : Nat → Int) (k : Nat) (os ns ln : Nat → Nat) (od : Nat → Nat) (wt dr : Nat → Bool) (sp : Nat) (kr : Nat) (osr nsr lnr : Nat → Nat) (ba : Nat → Int) (cp : Nat) (cd so : Nat → Nat) : Prop :=
  no ≤ 48 ∧ nn ≤ 48 ∧ (∀ j, 0 ≤ vo j ∧ vo j ≤ 9999) ∧ (∀ j, 0 ≤ vn j ∧ vn j ≤ 9999) ∧ (bu = true → k ≤ 48 ∧ B48 k os ns ln ∧ Gd no nn k os ns ln ∧ CoR k os ns ln k wt dr od sp) ∧ (bu = true → k = kr ∧ MdI no nn k os ns ln osr nsr lnr ba cp cd so)
abbrev wAll (cI cZ : ClassId) (ad am : Nat → Nat) (bu : Bool) (no : Nat) (vo : Nat → Int) (fo : Nat → Bool) (nn : Nat) (vn : Nat → Int) (fn : Nat → Bool) (k : Nat) (os ns ln : Nat → Nat) (ot nt : Nat → Bool) (ru : Nat → Nat) (bo bn bl : Nat) (od : Nat → Nat) (wt dr : Nat → Bool) (sp : Nat) (kr : Nat) (osr nsr lnr : Nat → Nat) (ba : Nat → Int) (tk : Nat → Bool) (rt : Nat → Nat) (cp : Nat) (cd so : Nat → Nat) (me bf : Nat → Int) : va_W :=
  wRP cI cZ ad bu no vo fo nn vn fn k os ns ln ot nt ru bo bn bl od wt dr sp ++ wMd cI cZ am bu no vo fo nn vn fn kr osr nsr lnr ba tk rt cp cd so me bf
/-- the law goes on well from pc, with i ints read, in every state in which both sides agree -/
def LawAt (p : Program) (l : Launch) (e : Env) (s : State) (m : MethodId) (below : List Frame) (meth : Method) (c : Code) (b : Nat) (G : va_G) (cI cZ : ClassId) (ad am : Nat → Nat) (A : Nat → Prop) (pc i : Nat) : Prop :=
  ∀ (bu : Bool) (no : Nat) (vo : Nat → Int) (fo : Nat → Bool) (nn : Nat) (vn : Nat → Int) (fn : Nat → Bool) (k : Nat) (os ns ln : Nat → Nat) (ot nt : Nat → Bool) (ru : Nat → Nat) (bo bn bl : Nat) (od : Nat → Nat) (wt dr : Nat → Bool) (sp : Nat) (kr : Nat) (osr nsr lnr : Nat → Nat) (ba : Nat → Int) (tk : Nat → Bool) (rt : Nat → Nat) (cp : Nat) (cd so : Nat → Nat) (me bf : Nat → Int) (H : Heap) (locs : List Loc) (ls : Array Slot),
    LIv bu no vo nn vn k os ns ln od wt dr sp kr osr nsr lnr ba cp cd so → va_P G vwCl (wAll cI cZ ad am bu no vo fo nn vn fn k os ns ln ot nt ru bo bn bl od wt dr sp kr osr nsr lnr ba tk rt cp cd so me bf) H → va_D A (wAll cI cZ ad am bu no vo fo nn vn fn k os ns ln ot nt ru bo bn bl od wt dr sp kr osr nsr lnr ba tk rt cp cd so me bf) → va_S A s.heap H locs → lv_has ls 4 [(0, .ref b), (1, .ref (ad 0)), (2, .ref (am 0)), (3, .int (iI ((i : Nat) : Int)))] →
    W p l e room_1 s m #[Value.ref b] below meth c H locs 34 3695 (lw_Z below #[Value.ref b] s) (F0 m pc ls [])
theorem apS_inv {n : Nat} {v : Nat → Int} {f : Nat → Bool} {bu : Bool} {x : Int} {t : Bool} {n' : Nat} {v' : Nat → Int} {f' : Nat → Bool} {bu' : Bool} (h : (n', v', f', bu') = apS n v f bu x t) (hn : n ≤ 48) (hv : ∀ j, 0 ≤ v j ∧ v j ≤ 9999) : n' ≤ 48 ∧ (∀ j, 0 ≤ v' j ∧ v' j ≤ 9999) ∧ (bu' = true → n' = n ∧ v' = v ∧ f' = f ∧ bu = true) := by
  unfold apS at h
  by_cases hc : (0 ≤ x ∧ x ≤ 9999) ∧ n < 48
  · rw [if_pos hc] at h
    simp only [Prod.mk.injEq] at h
    obtain ⟨rfl, rfl, rfl, rfl⟩ := h
    refine ⟨by omega, fun j => ?_, fun h0 => absurd h0 (by decide)⟩
    unfold va_up; split
    · exact hc.1
    · exact hv j
  · rw [if_neg hc] at h
    simp only [Prod.mk.injEq] at h
    obtain ⟨rfl, rfl, rfl, rfl⟩ := h
    exact ⟨hn, hv, fun h0 => ⟨rfl, rfl, rfl, h0⟩⟩
theorem snS_inv {n : Nat} {v : Nat → Int} {bu : Bool} {x y : Int} {v' : Nat → Int} {bu' : Bool} (h : (v', bu') = snS n v bu x y) (hv : ∀ j, 0 ≤ v j ∧ v j ≤ 9999) : (∀ j, 0 ≤ v' j ∧ v' j ≤ 9999) ∧ (bu' = true → v' = v ∧ bu = true) := by
  unfold snS at h
  by_cases hc : (0 ≤ x ∧ x < (n : Int)) ∧ 0 ≤ y ∧ y ≤ 9999
  · rw [if_pos hc] at h
    simp only [Prod.mk.injEq] at h
    obtain ⟨rfl, rfl⟩ := h
    refine ⟨fun j => ?_, fun h0 => absurd h0 (by decide)⟩
    unfold va_up; split
    · exact hc.2
    · exact hv j
  · rw [if_neg hc] at h
    simp only [Prod.mk.injEq] at h
    obtain ⟨rfl, rfl⟩ := h
    exact ⟨hv, fun h0 => ⟨rfl, h0⟩⟩
section QL
variable {p : Program} {l : Launch} {e : Env} {R : Room} {s : State} {m : MethodId} {args : Array Value} {below : List Frame} {meth : Method} {c : Code} {H : Heap} {locs : List Loc} {cells slots : Nat} {Q : State → Prop} {cc : ByteArray} {pc : Nat} {ls : Array Slot} {rest : List Value} {A : Nat → Prop} {H0 : Heap}
theorem q_sld (hexec : p.tables.exec = Jvm.exec) (hb : c.code = cc) {b L : Nat} {xs : Nat → Int32} (hX : va_X b L xs s H0) (hbl : b < H0.size) (hbA : ¬ A b) (hS : va_S A H0 H locs) (hL : L ≤ 1536) (j : Nat) (hj : j < L) (hdg : decode cc pc = .ok (.iaload, 1)) (kk : W p l e R s m args below meth c H locs cells slots Q (F0 m (pc + 1) ls (.int (iI (xs j).toInt) :: rest))) : W p l e R s m args below meth c H locs cells slots Q (F0 m pc ls (.int (iI ((j : Nat) : Int)) :: .ref b :: rest)) := by
  refine va_sld hexec hb hX hbl hbA hS (iI_in hj (by omega)) hdg ?_
  rw [iI_cl hj (by omega), ← iI_of (xs j)]
  rw [iI_of (xs j)]
  rw [iI_of (xs j)] at kk
  exact kk
end QL
