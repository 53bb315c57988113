/-- a constructor: new cells come, the world wd u stands behind it -/
def Ci {S : Type} (l : Launch) (y : MethodName) (ws : List Cond) (rm : Room) (G : va_G) (cI cZ : ClassId) (av : List Value) (w : va_W) (sz : Nat) (wd : S → va_W) (mc ms : Nat) : Prop :=
  Met l y ws rm (va_Pc av (fun U => U.heap.size = sz ∧ va_P G vwCl w U.heap ∧ va_K G vwCl (tY cI cZ) U ∧ va_D (fun _ => True) w)) (va_Qv (fun _ : S => True) (fun u t => va_P G vwCl (wd u) t.heap ∧ va_D (va_A w sz) (wd u)) (va_A w sz)) mc ms (va_A w sz)
theorem ra_eq {G : va_G} {cI cZ cA : ClassId} {s : State} (hK : va_K G vwCl (tY cI cZ) s) (h : va_RA s cA .int) : cA = cI := by
  have h1 : s.vm.findClass ("[" ++ FieldType.int.toString) = some cI := (hK.2 0 (cI, .int) rfl).2
  have h2 : s.vm.findClass ("[" ++ FieldType.int.toString) = some cA := h
  exact Option.some.inj (h2.symm.trans h1)
theorem ra_eqZ {G : va_G} {cI cZ cA : ClassId} {s : State} (hK : va_K G vwCl (tY cI cZ) s) (h : va_RA s cA .boolean) : cA = cZ := by
  have h1 : s.vm.findClass ("[" ++ FieldType.boolean.toString) = some cZ := (hK.2 1 (cZ, .boolean) rfl).2
  have h2 : s.vm.findClass ("[" ++ FieldType.boolean.toString) = some cA := h
  exact Option.some.inj (h2.symm.trans h1)
theorem arr_word {args : Array Value} {s : State} {ty : FieldType} (h : (Cond.arrayClass ty).before args s = true) : ∃ cA, ArrOfT s cA ty ∧ s.vm.findClass ("[" ++ ty.toString) = some cA := by
  obtain ⟨cA, kA, comp, h1, h2, h3⟩ := Cond.arrayClass_spec h
  exact ⟨cA, fun n z => ⟨fun k h => (by cases h), kA, h2, comp, h3⟩, h1⟩
section QN
variable {p : Program} {l : Launch} {e : Env} {R : Room} {s : State} {m : MethodId} {args : Array Value} {below : List Frame} {meth : Method} {c : Code} {H : Heap} {locs : List Loc} {cells slots : Nat} {Q : State → Prop} {cc : ByteArray} {pc : Nat} {ls : Array Slot} {rest st : List Value}
variable {G : va_G} {cI cZ : ClassId} {ws0 : va_W} {A : Nat → Prop} {H0 : Heap}
theorem q_newI (hexec : p.tables.exec = Jvm.exec) (hb : c.code = cc) (harr : (Cond.arrayClass .int).before args s = true) (hK : va_K G vwCl (tY cI cZ) s) (hP : va_P G vwCl ws0 H) (hD : va_D A ws0) (hS : va_S A H0 H locs) (hA : ∀ q, H0.size ≤ q → A q) {n : Nat} (hn : n ≤ 2401) {f : Nat → Int32} (hf : ∀ j, f j = 0) (hcells : cells + 1 ≤ R.cells) (hslots : slots + n ≤ R.slots) (hdg : decode cc pc = .ok (.newarray .int, 2))
    (kk : ∀ (q : Nat) (H1 : Heap), va_P G vwCl (ws0 ++ [(q, .inl (cI, n, .inl f))]) H1 → va_D A (ws0 ++ [(q, .inl (cI, n, .inl f))]) → va_S A H0 H1 locs → W p l e R s m args below meth c H1 locs (cells + 1) (slots + n) Q (F0 m (pc + 2) ls (.ref q :: rest))) : W p l e R s m args below meth c H locs cells slots Q (F0 m pc ls (.int (iI (n : Int)) :: rest)) := by
  have hf0 : f = fun _ => 0 := funext hf
  subst hf0
  refine va_newa (atype := .int) (N' := n) (a0 := (n, .inl fun _ => 0)) hexec hb harr rfl hK hP hD hS hA (fun _ => rfl) (fun h => by rw [iI_nI] at h; exact nI_pos (by omega) h) (by rw [iI_nI]; exact nI_clamp (by omega)) (by show n * 4 ≤ 536870912; omega) hcells hslots hdg (fun q cA H1 hK1 hP1 hD1 hS1 => ?_)
  have e := ra_eq hK (hK1.2 2 (cA, .int) rfl).2
  subst e
  exact kk q H1 hP1 hD1 hS1
theorem q_newZ (hexec : p.tables.exec = Jvm.exec) (hb : c.code = cc) (harr : (Cond.arrayClass .boolean).before args s = true) (hK : va_K G vwCl (tY cI cZ) s) (hP : va_P G vwCl ws0 H) (hD : va_D A ws0) (hS : va_S A H0 H locs) (hA : ∀ q, H0.size ≤ q → A q) {n : Nat} (hn : n ≤ 2401) {f : Nat → Int32} (hf : ∀ j, f j = 0) (hcells : cells + 1 ≤ R.cells) (hslots : slots + n ≤ R.slots) (hdg : decode cc pc = .ok (.newarray .boolean, 2))
    (kk : ∀ (q : Nat) (H1 : Heap), va_P G vwCl (ws0 ++ [(q, .inl (cZ, n, .inl f))]) H1 → va_D A (ws0 ++ [(q, .inl (cZ, n, .inl f))]) → va_S A H0 H1 locs → W p l e R s m args below meth c H1 locs (cells + 1) (slots + n) Q (F0 m (pc + 2) ls (.ref q :: rest))) : W p l e R s m args below meth c H locs cells slots Q (F0 m pc ls (.int (iI (n : Int)) :: rest)) := by
  have hf0 : f = fun _ => 0 := funext hf
  subst hf0
  refine va_newa (atype := .boolean) (N' := n) (a0 := (n, .inl fun _ => 0)) hexec hb harr rfl hK hP hD hS hA (fun _ => rfl) (fun h => by rw [iI_nI] at h; exact nI_pos (by omega) h) (by rw [iI_nI]; exact nI_clamp (by omega)) (by show n * 1 ≤ 536870912; omega) hcells hslots hdg (fun q cA H1 hK1 hP1 hD1 hS1 => ?_)
  have e := ra_eqZ hK (hK1.2 2 (cA, .boolean) rfl).2
  subst e
  exact kk q H1 hP1 hD1 hS1
theorem wr_I {S : Type} {y : MethodName} {bytes : ByteArray} {maxL nL index mc ms : Nat} {ws Ts : List Cond} {rm : Room} {own : String} {b : Nat} {wc w0 wr : va_W} {wd : S → va_W} (Sx : CallFix p m c cc nL s args Ts own) (hM : Ci l y ws rm G cI cZ [.ref b] wc H.size wd mc ms) (cw : CallB R s args own index y bytes maxL none ws rm mc ms 0 ∧ y.name = "<init>" ∧ (Cond.instanceMethod y).before args s = true) (hP : va_P G vwCl w0 H) (hK : va_K G vwCl (tY cI cZ) s) (hD : va_D A w0) (hS : va_S A H0 H locs) (hA : ∀ q, H0.size ≤ q → A q) (isC isR : List Nat) (hC : isC.map (fun i => w0[i]?) = wc.map some) (hR : isR.map (fun i => w0[i]?) = wr.map some) (hnd : va_nd isC = true ∧ va_nd isR = true ∧ isR.all (fun i => !isC.contains i) = true)
    (hsize : ls.size = nL) (hst : st = .ref b :: rest) (hW : (rest.map fun v => v.category).sum ≤ 8) (hdg : decode cc pc = .ok (.invokespecial index, 3)) (hf : cells + mc ≤ R.cells ∧ slots + ms ≤ R.slots)
    (kk : ∀ (u : S) (H1 : Heap) (locs1 : List Loc), va_P G vwCl (wr ++ wd u) H1 → va_D A (wr ++ wd u) → va_S A H0 H1 locs1 → W p l e R s m args below meth c H1 locs1 (cells + mc) (slots + ms) Q (F0 m (pc + 3) ls rest)) : W p l e R s m args below meth c H locs cells slots Q (F0 m pc ls st) := by
  have hPc := hP.sub isC (map_pick hC)
  have hDc := hD.sub isC hnd.1 hC
  have hFc := va_free (wc := wc) hD hS hA isC hC
  have hdis : ∀ i ∈ isR, i ∉ isC := by
    intro i hi hi2
    have h1 := List.all_eq_true.mp hnd.2.2 i hi
    simp at h1
    exact h1 hi2
  refine va_callv (va_runI (g := F0 m pc ls st) (As := []) Sx hM cw ⟨wr_blind, fun U hU hW => ⟨rfl, by rw [hU], by rw [hU]; exact hPc, va_K.moved hW.alike hK, hDc.weaken (fun _ _ _ _ => trivial)⟩⟩ rfl rfl hsize hst (lv_room hW) hdg hf) hS (fun q _ h => hFc q h) hFc (fun u t H1 locs1 ht hvm hw hB hz1 hk1 hS1 => ?_)
  rw [ht] at hB
  obtain ⟨h1, h2⟩ := va_join hP hD isC isR hC hR hnd.2.1 hdis hk1 hFc hB.1 hB.2
  exact kk u H1 locs1 h1 h2 hS1
end QN
