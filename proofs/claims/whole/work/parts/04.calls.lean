/-- a method that reads: from any heap that holds the world w it answers z, and the heap stays -/
def Ro (l : Launch) (y : MethodName) (ws : List Cond) (rm : Room) (G : va_G) (cI cZ : ClassId) (av : List Value) (w : va_W) (z : Int) : Prop :=
  Met l y ws rm (va_Pc av (fun U => va_P G vwCl w U.heap ∧ va_K G vwCl (tY cI cZ) U)) (vp_Si (fun r => r = iI z)) 0 0 (fun _ => False)
/-- a method that writes: from a heap that holds w it comes to one that holds wd u, for some u with post -/
def Wr {S : Type} (l : Launch) (y : MethodName) (ws : List Cond) (rm : Room) (G : va_G) (cI cZ : ClassId) (av : List Value) (w : va_W) (sz : Nat) (post : S → Prop) (wd : S → va_W) : Prop :=
  Met l y ws rm (va_Pc av (fun U => U.heap.size = sz ∧ va_P G vwCl w U.heap ∧ va_K G vwCl (tY cI cZ) U ∧ va_D (fun _ => True) w)) (va_Qv post (fun u t => va_P G vwCl (wd u) t.heap) (va_A w sz)) 0 0 (va_A w sz)
def WrI {S : Type} (l : Launch) (y : MethodName) (ws : List Cond) (rm : Room) (G : va_G) (cI cZ : ClassId) (av : List Value) (w : va_W) (sz : Nat) (z : S → Int) (post : S → Prop) (wd : S → va_W) : Prop :=
  Met l y ws rm (va_Pc av (fun U => U.heap.size = sz ∧ va_P G vwCl w U.heap ∧ va_K G vwCl (tY cI cZ) U ∧ va_D (fun _ => True) w)) (va_Qi (fun r u => r = iI (z u) ∧ post u) (fun u t => va_P G vwCl (wd u) t.heap) (va_A w sz)) 0 0 (va_A w sz)
theorem ro_blind {G : va_G} {tys : List (ClassId × FieldType)} {av : List Value} {w : va_W} : FrameBlind (va_Pc av (fun U => va_P G vwCl w U.heap ∧ va_K G vwCl tys U)) := fun a U g mk q => by
  obtain ⟨q0, qP, qK⟩ := q
  exact ⟨q0, qP, va_K.moved (u := U) (U := U.calling g mk a) (Vm.Alike.refl U.vm) qK⟩
theorem wr_blind {G : va_G} {tys : List (ClassId × FieldType)} {av : List Value} {w : va_W} {sz : Nat} : FrameBlind (va_Pc av (fun U => U.heap.size = sz ∧ va_P G vwCl w U.heap ∧ va_K G vwCl tys U ∧ va_D (fun _ => True) w)) := fun a U g mk q => by
  obtain ⟨q0, q1, qP, qK, qD⟩ := q
  exact ⟨q0, q1, qP, va_K.moved (u := U) (U := U.calling g mk a) (Vm.Alike.refl U.vm) qK, qD⟩
theorem map_pick {α : Type} {is : List Nat} {f : Nat → Option α} {w : List α} (h : is.map f = w.map some) : is.filterMap f = w := by
  have h1 : is.filterMap f = (is.map f).filterMap id := by rw [List.filterMap_map]; rfl
  rw [h1, h, List.filterMap_map]
  simp
theorem va_D.adr {A : Nat → Prop} {w w' : va_W} (h : va_D A w) (e : w'.map Prod.fst = w.map Prod.fst) : va_D A w' := by
  have key : ∀ (k : Nat) (q : Nat × va_E), w'[k]? = some q → ∃ q0, w[k]? = some q0 ∧ q0.1 = q.1 := by
    intro k q hk
    have h1 : (w'.map Prod.fst)[k]? = some q.1 := by rw [List.getElem?_map, hk]; rfl
    rw [e, List.getElem?_map] at h1
    cases h2 : w[k]? with
    | none => rw [h2] at h1; cases h1
    | some q0 => rw [h2] at h1; exact ⟨q0, rfl, Option.some.inj h1⟩
  refine ⟨fun i j x y hi hj hxy => ?_, fun k q hk => ?_⟩
  · obtain ⟨x0, h1, h2⟩ := key i x hi
    obtain ⟨y0, h3, h4⟩ := key j y hj
    exact h.1 i j x0 y0 h1 h3 (h2.trans (hxy.trans h4.symm))
  · obtain ⟨q0, h1, h2⟩ := key k q hk
    rw [← h2]
    exact h.2 k q0 h1
section QC
variable {p : Program} {l : Launch} {e : Env} {R : Room} {s : State} {m : MethodId} {args : Array Value} {below : List Frame} {meth : Method} {c : Code} {H : Heap} {locs : List Loc} {cells slots : Nat} {Q : State → Prop} {cc : ByteArray} {pc : Nat} {ls : Array Slot} {rest st : List Value}
variable {y : MethodName} {bytes : ByteArray} {maxL nL n index ci N : Nat} {T : u_T} {ret : Option FieldType} {ws Ts : List Cond} {rm : Room} {own C : String} {b : Nat} {As : List Value} {G : va_G} {cI cZ : ClassId} {wc w0 wr : va_W} {z : Int} {A : Nat → Prop} {H0 : Heap}
theorem ro_go {av : Array Value} (hr : va_Run p l e R s m args below meth c H locs cells slots 0 0 (F0 m pc ls st) rest (vp_Si (fun r => r = iI z) av) (fun _ => False)) (kk : W p l e R s m args below meth c H locs cells slots Q (F0 m (pc + 3) ls (.int (iI z) :: rest))) : W p l e R s m args below meth c H locs cells slots Q (F0 m pc ls st) := by
  intro T hT X
  obtain ⟨v, st₀, t, T', L, h0, X', hL, e1, e2, ⟨r, hv, hp, hh⟩, stp⟩ := hr T hT X
  cases hv
  subst hp
  obtain ⟨t2, a1, b1⟩ := kk T' (by rw [e1, hh, h0]) (Stand.forget X' (fun q h => (hL q h).elim))
  exact ⟨t2, stp t2 a1, b1⟩
theorem ro_V (S : CallFix p m c cc nL s args Ts own) (hM : Ro l y ws rm G cI cZ (.ref b :: As) wc z) (cw : CallW R s args own C index y bytes maxL ret ws rm 0 0 n) (hP : va_P G vwCl wc H) (hK : va_K G vwCl (tY cI cZ) s) (q0 : Nat) {fs : List Value} (he : wc[q0]? = some (b, .inr (ci, fs))) (hc : vwCl[ci]? = some (C, T, N)) (hn : As.length = n) (hsize : ls.size = nL) (hst : st = As.reverse ++ .ref b :: rest) (hW : (rest.map fun v => v.category).sum ≤ 8) (hdg : decode cc pc = .ok (.invokevirtual index, 3)) (hf : cells ≤ R.cells ∧ slots ≤ R.slots)
    (kk : W p l e R s m args below meth c H locs cells slots Q (F0 m (pc + 3) ls (.int (iI z) :: rest))) : W p l e R s m args below meth c H locs cells slots Q (F0 m pc ls st) :=
  ro_go (va_runV (g := F0 m pc ls st) S hM cw ⟨ro_blind, va_recv hK hP hc he, fun U hU hW => ⟨rfl, by rw [hU]; exact hP, va_K.moved hW.alike hK⟩⟩ rfl hn hsize hst (lv_room hW) hdg hf) kk
theorem ro_S (S : CallFix p m c cc nL s args Ts own) (hM : Ro l y ws rm G cI cZ As wc z) (cw : CallB R s args own index y bytes maxL ret ws rm 0 0 n ∧ (Cond.static y).before args s = true) (hP : va_P G vwCl wc H) (hK : va_K G vwCl (tY cI cZ) s) (hn : As.length = n) (hsize : ls.size = nL) (hst : st = As.reverse ++ rest) (hW : (rest.map fun v => v.category).sum ≤ 8) (hdg : decode cc pc = .ok (.invokestatic index, 3)) (hf : cells ≤ R.cells ∧ slots ≤ R.slots)
    (kk : W p l e R s m args below meth c H locs cells slots Q (F0 m (pc + 3) ls (.int (iI z) :: rest))) : W p l e R s m args below meth c H locs cells slots Q (F0 m pc ls st) :=
  ro_go (va_runS (g := F0 m pc ls st) S hM cw ⟨ro_blind, fun U hU hW => ⟨rfl, by rw [hU]; exact hP, va_K.moved hW.alike hK⟩⟩ rfl hn hsize hst (lv_room hW) hdg hf) kk
theorem wr_back {A : Nat → Prop} {w1 wn : va_W} {H1 : Heap} (hP : va_P G vwCl w0 H) (hD : va_D A w0) (hS : va_S A H0 H locs) (hA : ∀ q, H0.size ≤ q → A q) (isC isR perm : List Nat) (hC : isC.map (fun i => w0[i]?) = wc.map some) (hR : isR.map (fun i => w0[i]?) = wr.map some) (hn : va_nd isC = true ∧ va_nd isR = true ∧ va_nd perm = true ∧ isR.all (fun i => !isC.contains i) = true) (hadr : w1.map Prod.fst = wc.map Prod.fst) (hperm : perm.map (fun i => (wr ++ w1)[i]?) = wn.map some)
    (hk : ∀ q : Nat, q < H.size → ¬ va_A wc H.size q → H1[q]? = H[q]?) (hP1 : va_P G vwCl w1 H1) : va_P G vwCl wn H1 ∧ va_D A wn := by
  have hFc := va_free (wc := wc) hD hS hA isC hC
  have hDc : va_D (va_A wc H.size) wc := (hD.sub isC hn.1 hC).self
  have hdis : ∀ i ∈ isR, i ∉ isC := by
    intro i hi hi2
    have h1 := List.all_eq_true.mp hn.2.2.2 i hi
    simp at h1
    exact h1 hi2
  obtain ⟨h1, h2⟩ := va_join hP hD isC isR hC hR hn.2.1 hdis hk hFc hP1 (hDc.adr hadr)
  exact ⟨h1.sub perm (map_pick hperm), h2.sub perm hn.2.2.1 hperm⟩
theorem wr_V {S : Type} {post : S → Prop} {wd wn : S → va_W} (Sx : CallFix p m c cc nL s args Ts own) (hM : Wr l y ws rm G cI cZ (.ref b :: As) wc H.size post wd) (cw : CallW R s args own C index y bytes maxL ret ws rm 0 0 n) (hP : va_P G vwCl w0 H) (hK : va_K G vwCl (tY cI cZ) s) (hD : va_D A w0) (hS : va_S A H0 H locs) (hA : ∀ q, H0.size ≤ q → A q) (isC isR perm : List Nat) (hC : isC.map (fun i => w0[i]?) = wc.map some) (hR : isR.map (fun i => w0[i]?) = wr.map some) (hnd : va_nd isC = true ∧ va_nd isR = true ∧ va_nd perm = true ∧ isR.all (fun i => !isC.contains i) = true) (hadr : ∀ u, (wd u).map Prod.fst = wc.map Prod.fst) (hperm : ∀ u, perm.map (fun i => (wr ++ wd u)[i]?) = (wn u).map some)
    (q0 : Nat) {fs : List Value} (he : wc[q0]? = some (b, .inr (ci, fs))) (hc : vwCl[ci]? = some (C, T, N)) (hn : As.length = n) (hsize : ls.size = nL) (hst : st = As.reverse ++ .ref b :: rest) (hW : (rest.map fun v => v.category).sum ≤ 8) (hdg : decode cc pc = .ok (.invokevirtual index, 3)) (hf : cells ≤ R.cells ∧ slots ≤ R.slots)
    (kk : ∀ (u : S) (H1 : Heap) (locs1 : List Loc), post u → va_P G vwCl (wn u) H1 → va_D A (wn u) → va_S A H0 H1 locs1 → W p l e R s m args below meth c H1 locs1 cells slots Q (F0 m (pc + 3) ls rest)) : W p l e R s m args below meth c H locs cells slots Q (F0 m pc ls st) := by
  have hPc := hP.sub isC (map_pick hC)
  have hDc := hD.sub isC hnd.1 hC
  have hFc := va_free (wc := wc) hD hS hA isC hC
  refine va_callv (va_runV (g := F0 m pc ls st) Sx hM cw ⟨wr_blind, va_recv hK hPc hc he, fun U hU hW => ⟨rfl, by rw [hU], by rw [hU]; exact hPc, va_K.moved hW.alike hK, hDc.weaken (fun _ _ _ _ => trivial)⟩⟩ rfl hn hsize hst (lv_room hW) hdg hf) hS (fun q _ h => hFc q h) hFc (fun u t H1 locs1 ht hvm hw hB hz1 hk1 hS1 => ?_)
  rw [ht] at hB
  obtain ⟨h1, h2⟩ := wr_back hP hD hS hA isC isR perm hC hR hnd (hadr u) (hperm u) hk1 hB
  exact kk u H1 locs1 hw h1 h2 hS1
theorem wr_VI {S : Type} {zf : S → Int} {post : S → Prop} {wd wn : S → va_W} (Sx : CallFix p m c cc nL s args Ts own) (hM : WrI l y ws rm G cI cZ (.ref b :: As) wc H.size zf post wd) (cw : CallW R s args own C index y bytes maxL ret ws rm 0 0 n) (hP : va_P G vwCl w0 H) (hK : va_K G vwCl (tY cI cZ) s) (hD : va_D A w0) (hS : va_S A H0 H locs) (hA : ∀ q, H0.size ≤ q → A q) (isC isR perm : List Nat) (hC : isC.map (fun i => w0[i]?) = wc.map some) (hR : isR.map (fun i => w0[i]?) = wr.map some) (hnd : va_nd isC = true ∧ va_nd isR = true ∧ va_nd perm = true ∧ isR.all (fun i => !isC.contains i) = true) (hadr : ∀ u, (wd u).map Prod.fst = wc.map Prod.fst) (hperm : ∀ u, perm.map (fun i => (wr ++ wd u)[i]?) = (wn u).map some)
    (q0 : Nat) {fs : List Value} (he : wc[q0]? = some (b, .inr (ci, fs))) (hc : vwCl[ci]? = some (C, T, N)) (hn : As.length = n) (hsize : ls.size = nL) (hst : st = As.reverse ++ .ref b :: rest) (hW : (rest.map fun v => v.category).sum ≤ 8) (hdg : decode cc pc = .ok (.invokevirtual index, 3)) (hf : cells ≤ R.cells ∧ slots ≤ R.slots)
    (kk : ∀ (u : S) (H1 : Heap) (locs1 : List Loc), post u → va_P G vwCl (wn u) H1 → va_D A (wn u) → va_S A H0 H1 locs1 → W p l e R s m args below meth c H1 locs1 cells slots Q (F0 m (pc + 3) ls (.int (iI (zf u)) :: rest))) : W p l e R s m args below meth c H locs cells slots Q (F0 m pc ls st) := by
  have hPc := hP.sub isC (map_pick hC)
  have hDc := hD.sub isC hnd.1 hC
  have hFc := va_free (wc := wc) hD hS hA isC hC
  refine va_calli (va_runV (g := F0 m pc ls st) Sx hM cw ⟨wr_blind, va_recv hK hPc hc he, fun U hU hW => ⟨rfl, by rw [hU], by rw [hU]; exact hPc, va_K.moved hW.alike hK, hDc.weaken (fun _ _ _ _ => trivial)⟩⟩ rfl hn hsize hst (lv_room hW) hdg hf) hS (fun q _ h => hFc q h) hFc (fun r u t H1 locs1 ht hvm hw hB hz1 hk1 hS1 => ?_)
  rw [ht] at hB
  obtain ⟨hr, hw⟩ := hw
  subst hr
  obtain ⟨h1, h2⟩ := wr_back hP hD hS hA isC isR perm hC hR hnd (hadr u) (hperm u) hk1 hB
  exact kk u H1 locs1 hw h1 h2 hS1
end QC
