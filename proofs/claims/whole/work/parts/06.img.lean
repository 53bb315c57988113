set_option maxHeartbeats 4000000 in
set_option maxRecDepth 100000 in
/-- Image.size -/
theorem c_X3_size (l : Launch) (G : va_G) (cI cZ : ClassId) (h a b : Nat) (n : Nat) (v : Nat → Int) (f : Nat → Bool) : Ro l yX3_size wsX3_size ({ frames := 0, cells := 0, slots := 0, locals := 0 }) G cI cZ [.ref h] (wIm cI cZ h a b n v f) ((n : Nat) : Int) := by
  refine Met.ofW (cc := cX3_size) (maxL := 1) (ret := (some .int)) (by decide) rfl ?_
  intro p e s m args below meth c s₁ B hml hv
  obtain ⟨hargs, hP, hK⟩ := hv
  have hx := B.exec
  have hb := B.bytes
  have hr := B.returns
  have hts := atoms_spec (ws := wsX3_size) B.pre
  have hown : s.vm.findClass RX3 = some m.cls := findClass_of_methodNamed B.named
  have hlocks := B.notSynchronized
  have hi3 : ∀ w ∈ wsX30, w ∈ wsX3_size := by decide +kernel
  have hf19 := hts (.fieldLink RX3 19 "RelocatingPatch$Image" "size" "I") (by decide +kernel)
  have hP : va_P G vwCl [(h, .inr (3, [.ref a, .ref b, .int (iI ((n : Nat) : Int))])), (a, .inl (cI, 48, .inl (aI v))), (b, .inl (cZ, 48, .inl (aB f)))] s.heap := hP
  generalize hQe : MQ below (vp_Si (fun r => r = iI ((n : Nat) : Int))) args s 0 0 (fun _ => False) = Q
  rw [show entryFrame m args 1 = entryFrame m ([.ref h] : List Value).toArray 1 from by rw [hargs], lg_entry_eq]
  have hl := lv_entry ([.ref h]) (n := 1) (Nat.le_of_ble_eq_true rfl)
  generalize (lg_sl ([.ref h]) ++ List.replicate (1 - (lg_sl ([.ref h])).length) Slot.unset).toArray = ls at hl ⊢
  have hl : lv_has ls 1 [(0, .ref h)] := hl
  refine lv_aload_n hx hb dX3_size_0 rfl (lv_at hl 0 rfl) ?_
  refine va_get (D := G) (ci := 3) (v := .int (iI ((n : Nat) : Int))) (C := RX3) (T := TX3) (N := 3) hx hb hts hi3 hown hK hP 0 rfl rfl 2 (by decide) hf19 (fun _ h9 => h9) rfl dX3_size_1 ?_
  rw [← hQe]
  exact W.iret hx hb hr (fun t ht hW => ⟨_, rfl, congrArg iI (by first | rfl | omega), ht⟩) (fun q h => absurd h List.not_mem_nil) dX3_size_4

set_option maxHeartbeats 4000000 in
set_option maxRecDepth 100000 in
/-- Image.isFull -/
theorem c_X3_isFull (l : Launch) (G : va_G) (cI cZ : ClassId) (h a b : Nat) (n : Nat) (v : Nat → Int) (f : Nat → Bool) (hn : n ≤ 48) : Ro l yX3_isFull wsX3_isFull ({ frames := 0, cells := 0, slots := 0, locals := 0 }) G cI cZ [.ref h] (wIm cI cZ h a b n v f) (bZ (decide (48 ≤ n))) := by
  refine Met.ofW (cc := cX3_isFull) (maxL := 1) (ret := (some .boolean)) (by decide) rfl ?_
  intro p e s m args below meth c s₁ B hml hv
  obtain ⟨hargs, hP, hK⟩ := hv
  have hx := B.exec
  have hb := B.bytes
  have hr := B.returns
  have hts := atoms_spec (ws := wsX3_isFull) B.pre
  have hown : s.vm.findClass RX3 = some m.cls := findClass_of_methodNamed B.named
  have hlocks := B.notSynchronized
  have hi3 : ∀ w ∈ wsX30, w ∈ wsX3_isFull := by decide +kernel
  have hf19 := hts (.fieldLink RX3 19 "RelocatingPatch$Image" "size" "I") (by decide +kernel)
  have hP : va_P G vwCl [(h, .inr (3, [.ref a, .ref b, .int (iI ((n : Nat) : Int))])), (a, .inl (cI, 48, .inl (aI v))), (b, .inl (cZ, 48, .inl (aB f)))] s.heap := hP
  generalize hQe : MQ below (vp_Si (fun r => r = iI (bZ (decide (48 ≤ n))))) args s 0 0 (fun _ => False) = Q
  rw [show entryFrame m args 1 = entryFrame m ([.ref h] : List Value).toArray 1 from by rw [hargs], lg_entry_eq]
  have hl := lv_entry ([.ref h]) (n := 1) (Nat.le_of_ble_eq_true rfl)
  generalize (lg_sl ([.ref h]) ++ List.replicate (1 - (lg_sl ([.ref h])).length) Slot.unset).toArray = ls at hl ⊢
  have hl : lv_has ls 1 [(0, .ref h)] := hl
  refine lv_aload_n hx hb dX3_isFull_0 rfl (lv_at hl 0 rfl) ?_
  refine va_get (D := G) (ci := 3) (v := .int (iI ((n : Nat) : Int))) (C := RX3) (T := TX3) (N := 3) hx hb hts hi3 hown hK hP 0 rfl rfl 2 (by decide) hf19 (fun _ h9 => h9) rfl dX3_isFull_1 ?_
  refine lv_bipush (v := iI ((48 : Nat) : Int)) hx hb dX3_isFull_4 rfl ?_
  refine q_icmp_lt (tgt := 13) hx hb dX3_isFull_6 (by decide) (⟨by omega, by omega⟩) (⟨by decide, by decide⟩) (fun c6 => ?_) (fun c6 => ?_)
  · skip
    refine lv_iconst (v := iI ((0 : Nat) : Int)) hx hb dX3_isFull_13 rfl ?_
    rw [← hQe]
    refine q_cast (b := bZ false) rfl ?_
    exact W.zret (v := _) hx hb hr (nar_bZ _) (fun t ht hW => ⟨_, rfl, congrArg iI (congrArg bZ (decide_eq_false (by omega)).symm), ht⟩) (fun q h => absurd h List.not_mem_nil) dX3_isFull_14
  · skip
    refine lv_iconst (v := iI ((1 : Nat) : Int)) hx hb dX3_isFull_9 rfl ?_
    refine lv_goto (tgt := 14) hx hb dX3_isFull_10 (by decide) ?_
    rw [← hQe]
    refine q_cast (b := bZ true) rfl ?_
    exact W.zret (v := _) hx hb hr (nar_bZ _) (fun t ht hW => ⟨_, rfl, congrArg iI (congrArg bZ (decide_eq_true (by omega)).symm), ht⟩) (fun q h => absurd h List.not_mem_nil) dX3_isFull_14

set_option maxHeartbeats 4000000 in
set_option maxRecDepth 100000 in
/-- Image.holds -/
theorem c_X3_holds (l : Launch) (G : va_G) (cI cZ : ClassId) (h a b : Nat) (n : Nat) (v : Nat → Int) (f : Nat → Bool) (x : Int) (hn : n ≤ 48) (hx1 : -2147483648 ≤ x) (hx2 : x < 2147483648) : Ro l yX3_holds wsX3_holds ({ frames := 0, cells := 0, slots := 0, locals := 0 }) G cI cZ [.ref h, .int (iI (x))] (wIm cI cZ h a b n v f) (bZ (decide (0 ≤ x ∧ x < ((n : Nat) : Int)))) := by
  refine Met.ofW (cc := cX3_holds) (maxL := 2) (ret := (some .boolean)) (by decide) rfl ?_
  intro p e s m args below meth c s₁ B hml hv
  obtain ⟨hargs, hP, hK⟩ := hv
  have hx := B.exec
  have hb := B.bytes
  have hr := B.returns
  have hts := atoms_spec (ws := wsX3_holds) B.pre
  have hown : s.vm.findClass RX3 = some m.cls := findClass_of_methodNamed B.named
  have hlocks := B.notSynchronized
  have hi3 : ∀ w ∈ wsX30, w ∈ wsX3_holds := by decide +kernel
  have hf19 := hts (.fieldLink RX3 19 "RelocatingPatch$Image" "size" "I") (by decide +kernel)
  have hP : va_P G vwCl [(h, .inr (3, [.ref a, .ref b, .int (iI ((n : Nat) : Int))])), (a, .inl (cI, 48, .inl (aI v))), (b, .inl (cZ, 48, .inl (aB f)))] s.heap := hP
  generalize hQe : MQ below (vp_Si (fun r => r = iI (bZ (decide (0 ≤ x ∧ x < ((n : Nat) : Int)))))) args s 0 0 (fun _ => False) = Q
  rw [show entryFrame m args 2 = entryFrame m ([.ref h, .int (iI (x))] : List Value).toArray 2 from by rw [hargs], lg_entry_eq]
  have hl := lv_entry ([.ref h, .int (iI (x))]) (n := 2) (Nat.le_of_ble_eq_true rfl)
  generalize (lg_sl ([.ref h, .int (iI (x))]) ++ List.replicate (2 - (lg_sl ([.ref h, .int (iI (x))])).length) Slot.unset).toArray = ls at hl ⊢
  have hl : lv_has ls 2 [(0, .ref h), (1, .int (iI (x)))] := hl
  refine lv_iload_n hx hb dX3_holds_0 rfl (lv_at hl 1 rfl) ?_
  refine q_if_lt (tgt := 16) hx hb dX3_holds_1 (by decide) (⟨by omega, by omega⟩) (fun c1 => ?_) (fun c1 => ?_)
  · skip
    refine lv_iconst (v := iI ((0 : Nat) : Int)) hx hb dX3_holds_16 rfl ?_
    rw [← hQe]
    refine q_cast (b := bZ false) rfl ?_
    exact W.zret (v := _) hx hb hr (nar_bZ _) (fun t ht hW => ⟨_, rfl, congrArg iI (congrArg bZ (decide_eq_false (by omega)).symm), ht⟩) (fun q h => absurd h List.not_mem_nil) dX3_holds_17
  · skip
    refine lv_iload_n hx hb dX3_holds_4 rfl (lv_at hl 1 rfl) ?_
    refine lv_aload_n hx hb dX3_holds_5 rfl (lv_at hl 0 rfl) ?_
    refine va_get (D := G) (ci := 3) (v := .int (iI ((n : Nat) : Int))) (C := RX3) (T := TX3) (N := 3) hx hb hts hi3 hown hK hP 0 rfl rfl 2 (by decide) hf19 (fun _ h9 => h9) rfl dX3_holds_6 ?_
    refine q_icmp_ge (tgt := 16) hx hb dX3_holds_9 (by decide) (⟨by omega, by omega⟩) (⟨by omega, by omega⟩) (fun c9 => ?_) (fun c9 => ?_)
    · skip
      refine lv_iconst (v := iI ((0 : Nat) : Int)) hx hb dX3_holds_16 rfl ?_
      rw [← hQe]
      refine q_cast (b := bZ false) rfl ?_
      exact W.zret (v := _) hx hb hr (nar_bZ _) (fun t ht hW => ⟨_, rfl, congrArg iI (congrArg bZ (decide_eq_false (by omega)).symm), ht⟩) (fun q h => absurd h List.not_mem_nil) dX3_holds_17
    · skip
      refine lv_iconst (v := iI ((1 : Nat) : Int)) hx hb dX3_holds_12 rfl ?_
      refine lv_goto (tgt := 17) hx hb dX3_holds_13 (by decide) ?_
      rw [← hQe]
      refine q_cast (b := bZ true) rfl ?_
      exact W.zret (v := _) hx hb hr (nar_bZ _) (fun t ht hW => ⟨_, rfl, congrArg iI (congrArg bZ (decide_eq_true (by omega)).symm), ht⟩) (fun q h => absurd h List.not_mem_nil) dX3_holds_17

set_option maxHeartbeats 4000000 in
set_option maxRecDepth 100000 in
/-- Image.valueAt -/
theorem c_X3_valueAt (l : Launch) (G : va_G) (cI cZ : ClassId) (h a b : Nat) (n : Nat) (v : Nat → Int) (f : Nat → Bool) (x : Int) (hn : n ≤ 48) (hx1 : -2147483648 ≤ x) (hx2 : x < 2147483648) : Ro l yX3_valueAt wsX3_valueAt ({ frames := 1, cells := 0, slots := 0, locals := 21 }) G cI cZ [.ref h, .int (iI (x))] (wIm cI cZ h a b n v f) (vAt n v x) := by
  refine Met.ofW (cc := cX3_valueAt) (maxL := 2) (ret := (some .int)) (by decide) rfl ?_
  intro p e s m args below meth c s₁ B hml hv
  obtain ⟨hargs, hP, hK⟩ := hv
  have hx := B.exec
  have hb := B.bytes
  have hr := B.returns
  have hts := atoms_spec (ws := wsX3_valueAt) B.pre
  have hown : s.vm.findClass RX3 = some m.cls := findClass_of_methodNamed B.named
  have hlocks := B.notSynchronized
  have hi3 : ∀ w ∈ wsX30, w ∈ wsX3_valueAt := by decide +kernel
  have hf9 := hts (.fieldLink RX3 9 "RelocatingPatch$Image" "values" "[I") (by decide +kernel)
  have hP : va_P G vwCl [(h, .inr (3, [.ref a, .ref b, .int (iI ((n : Nat) : Int))])), (a, .inl (cI, 48, .inl (aI v))), (b, .inl (cZ, 48, .inl (aB f)))] s.heap := hP
  generalize hQe : MQ below (vp_Si (fun r => r = iI (vAt n v x))) args s 0 0 (fun _ => False) = Q
  rw [show entryFrame m args 2 = entryFrame m ([.ref h, .int (iI (x))] : List Value).toArray 2 from by rw [hargs], lg_entry_eq]
  have hl := lv_entry ([.ref h, .int (iI (x))]) (n := 2) (Nat.le_of_ble_eq_true rfl)
  generalize (lg_sl ([.ref h, .int (iI (x))]) ++ List.replicate (2 - (lg_sl ([.ref h, .int (iI (x))])).length) Slot.unset).toArray = ls at hl ⊢
  have hl : lv_has ls 2 [(0, .ref h), (1, .int (iI (x)))] := hl
  refine lv_aload_n hx hb dX3_valueAt_0 rfl (lv_at hl 0 rfl) ?_
  refine lv_iload_n hx hb dX3_valueAt_1 rfl (lv_at hl 1 rfl) ?_
  refine ro_V (As := [.int (iI (x))]) (rest := []) ⟨hx, hb, hml, hown, hts⟩ (c_X3_holds l G cI cZ h a b n v f (x) (by omega) (by omega) (by omega)) (cwV 1 hts gX3_valueAt_X3_holds rfl rfl rfl (by decide +kernel) ⟨Nat.le_of_ble_eq_true rfl, Nat.le_of_ble_eq_true rfl⟩) (hP.sub (ws' := [(h, .inr (3, [.ref a, .ref b, .int (iI ((n : Nat) : Int))])), (a, .inl (cI, 48, .inl (aI v))), (b, .inl (cZ, 48, .inl (aB f)))]) [0, 1, 2] rfl) hK 0 rfl rfl rfl hl.1 rfl (Nat.le_of_ble_eq_true rfl) dX3_valueAt_2 ⟨Nat.zero_le _, Nat.zero_le _⟩ ?_
  refine q_df (tgt := 17) hx hb dX3_valueAt_5 (by decide) (fun c5 => ?_) (fun c5 => ?_)
  · skip
    refine lv_iconst (v := iI ((0 : Nat) : Int)) hx hb dX3_valueAt_17 rfl ?_
    rw [← hQe]
    exact W.iret hx hb hr (fun t ht hW => ⟨_, rfl, congrArg iI (by unfold vAt; rw [if_neg c5]; rfl), ht⟩) (fun q h => absurd h List.not_mem_nil) dX3_valueAt_18
  · skip
    refine lv_aload_n hx hb dX3_valueAt_8 rfl (lv_at hl 0 rfl) ?_
    refine va_get (D := G) (ci := 3) (v := .ref a) (C := RX3) (T := TX3) (N := 3) hx hb hts hi3 hown hK hP 0 rfl rfl 0 (by decide) hf9 (fun _ h9 => h9) rfl dX3_valueAt_9 ?_
    refine lv_iload_n hx hb dX3_valueAt_12 rfl (lv_at hl 1 rfl) ?_
    refine q_cast (b := ((x.toNat : Nat) : Int)) (by omega) ?_
    refine q_ildI hx hb hK hP 1 rfl (by decide) (x.toNat) (by omega) (v x.toNat) (rfl) dX3_valueAt_13 ?_
    refine lv_goto (tgt := 18) hx hb dX3_valueAt_14 (by decide) ?_
    rw [← hQe]
    exact W.iret hx hb hr (fun t ht hW => ⟨_, rfl, congrArg iI (by unfold vAt; rw [if_pos c5]), ht⟩) (fun q h => absurd h List.not_mem_nil) dX3_valueAt_18

set_option maxHeartbeats 4000000 in
set_option maxRecDepth 100000 in
/-- Image.isAddress -/
theorem c_X3_isAddress (l : Launch) (G : va_G) (cI cZ : ClassId) (h a b : Nat) (n : Nat) (v : Nat → Int) (f : Nat → Bool) (x : Int) (hn : n ≤ 48) (hx1 : -2147483648 ≤ x) (hx2 : x < 2147483648) : Ro l yX3_isAddress wsX3_isAddress ({ frames := 1, cells := 0, slots := 0, locals := 21 }) G cI cZ [.ref h, .int (iI (x))] (wIm cI cZ h a b n v f) (bZ (fAt n f x)) := by
  refine Met.ofW (cc := cX3_isAddress) (maxL := 2) (ret := (some .boolean)) (by decide) rfl ?_
  intro p e s m args below meth c s₁ B hml hv
  obtain ⟨hargs, hP, hK⟩ := hv
  have hx := B.exec
  have hb := B.bytes
  have hr := B.returns
  have hts := atoms_spec (ws := wsX3_isAddress) B.pre
  have hown : s.vm.findClass RX3 = some m.cls := findClass_of_methodNamed B.named
  have hlocks := B.notSynchronized
  have hi3 : ∀ w ∈ wsX30, w ∈ wsX3_isAddress := by decide +kernel
  have hf15 := hts (.fieldLink RX3 15 "RelocatingPatch$Image" "addresses" "[Z") (by decide +kernel)
  have hP : va_P G vwCl [(h, .inr (3, [.ref a, .ref b, .int (iI ((n : Nat) : Int))])), (a, .inl (cI, 48, .inl (aI v))), (b, .inl (cZ, 48, .inl (aB f)))] s.heap := hP
  generalize hQe : MQ below (vp_Si (fun r => r = iI (bZ (fAt n f x)))) args s 0 0 (fun _ => False) = Q
  rw [show entryFrame m args 2 = entryFrame m ([.ref h, .int (iI (x))] : List Value).toArray 2 from by rw [hargs], lg_entry_eq]
  have hl := lv_entry ([.ref h, .int (iI (x))]) (n := 2) (Nat.le_of_ble_eq_true rfl)
  generalize (lg_sl ([.ref h, .int (iI (x))]) ++ List.replicate (2 - (lg_sl ([.ref h, .int (iI (x))])).length) Slot.unset).toArray = ls at hl ⊢
  have hl : lv_has ls 2 [(0, .ref h), (1, .int (iI (x)))] := hl
  refine lv_aload_n hx hb dX3_isAddress_0 rfl (lv_at hl 0 rfl) ?_
  refine lv_iload_n hx hb dX3_isAddress_1 rfl (lv_at hl 1 rfl) ?_
  refine ro_V (As := [.int (iI (x))]) (rest := []) ⟨hx, hb, hml, hown, hts⟩ (c_X3_holds l G cI cZ h a b n v f (x) (by omega) (by omega) (by omega)) (cwV 1 hts gX3_isAddress_X3_holds rfl rfl rfl (by decide +kernel) ⟨Nat.le_of_ble_eq_true rfl, Nat.le_of_ble_eq_true rfl⟩) (hP.sub (ws' := [(h, .inr (3, [.ref a, .ref b, .int (iI ((n : Nat) : Int))])), (a, .inl (cI, 48, .inl (aI v))), (b, .inl (cZ, 48, .inl (aB f)))]) [0, 1, 2] rfl) hK 0 rfl rfl rfl hl.1 rfl (Nat.le_of_ble_eq_true rfl) dX3_isAddress_2 ⟨Nat.zero_le _, Nat.zero_le _⟩ ?_
  refine q_df (tgt := 21) hx hb dX3_isAddress_5 (by decide) (fun c5 => ?_) (fun c5 => ?_)
  · skip
    refine lv_iconst (v := iI ((0 : Nat) : Int)) hx hb dX3_isAddress_21 rfl ?_
    rw [← hQe]
    refine q_cast (b := bZ false) rfl ?_
    exact W.zret (v := _) hx hb hr (nar_bZ _) (fun t ht hW => ⟨_, rfl, congrArg iI (congrArg bZ (by unfold fAt; rw [decide_eq_false c5]; rfl)), ht⟩) (fun q h => absurd h List.not_mem_nil) dX3_isAddress_22
  · skip
    refine lv_aload_n hx hb dX3_isAddress_8 rfl (lv_at hl 0 rfl) ?_
    refine va_get (D := G) (ci := 3) (v := .ref b) (C := RX3) (T := TX3) (N := 3) hx hb hts hi3 hown hK hP 0 rfl rfl 1 (by decide) hf15 (fun _ h9 => h9) rfl dX3_isAddress_9 ?_
    refine lv_iload_n hx hb dX3_isAddress_12 rfl (lv_at hl 1 rfl) ?_
    refine q_cast (b := ((x.toNat : Nat) : Int)) (by omega) ?_
    refine q_zld hx hb hK hP 2 rfl (by decide) (x.toNat) (by omega) (f x.toNat) (rfl) dX3_isAddress_13 ?_
    refine q_bf (tgt := 21) hx hb dX3_isAddress_14 (by decide) (fun c14 => ?_) (fun c14 => ?_)
    · skip
      refine lv_iconst (v := iI ((0 : Nat) : Int)) hx hb dX3_isAddress_21 rfl ?_
      rw [← hQe]
      refine q_cast (b := bZ false) rfl ?_
      exact W.zret (v := _) hx hb hr (nar_bZ _) (fun t ht hW => ⟨_, rfl, congrArg iI (congrArg bZ (by unfold fAt; rw [c14]; simp)), ht⟩) (fun q h => absurd h List.not_mem_nil) dX3_isAddress_22
    · skip
      refine lv_iconst (v := iI ((1 : Nat) : Int)) hx hb dX3_isAddress_17 rfl ?_
      refine lv_goto (tgt := 22) hx hb dX3_isAddress_18 (by decide) ?_
      rw [← hQe]
      refine q_cast (b := bZ true) rfl ?_
      exact W.zret (v := _) hx hb hr (nar_bZ _) (fun t ht hW => ⟨_, rfl, congrArg iI (congrArg bZ (by unfold fAt; rw [c14, decide_eq_true c5]; rfl)), ht⟩) (fun q h => absurd h List.not_mem_nil) dX3_isAddress_22

set_option maxHeartbeats 4000000 in
set_option maxRecDepth 100000 in
/-- Image.add -/
theorem c_X3_add (l : Launch) (G : va_G) (cI cZ : ClassId) (h a b : Nat) (n : Nat) (v : Nat → Int) (f : Nat → Bool) (x : Int) (t : Bool) (hn : n < 48) (sz : Nat) : Wr (S := Unit) l yX3_add wsX3_add ({ frames := 1, cells := 0, slots := 0, locals := 20 }) G cI cZ [.ref h, .int (iI (x)), .int (iI (bZ t))] (wIm cI cZ h a b n v f) sz (fun _ => True) (fun _ => wIm cI cZ h a b (n + 1) (va_up v n x) (va_up f n t)) := by
  refine Met.ofW (cc := cX3_add) (maxL := 3) (ret := (none)) (by decide) rfl ?_
  intro p e s m args below meth c s₁ B hml hv
  obtain ⟨hargs, hsz, hP, hK, hD0⟩ := hv
  have hx := B.exec
  have hb := B.bytes
  have hr := B.returns
  have hts := atoms_spec (ws := wsX3_add) B.pre
  have hown : s.vm.findClass RX3 = some m.cls := findClass_of_methodNamed B.named
  have hlocks := B.notSynchronized
  have hi3 : ∀ w ∈ wsX30, w ∈ wsX3_add := by decide +kernel
  have hf9 := hts (.fieldLink RX3 9 "RelocatingPatch$Image" "values" "[I") (by decide +kernel)
  have hf15 := hts (.fieldLink RX3 15 "RelocatingPatch$Image" "addresses" "[Z") (by decide +kernel)
  have hf19 := hts (.fieldLink RX3 19 "RelocatingPatch$Image" "size" "I") (by decide +kernel)
  subst hsz
  have hD := hD0.self (sz := s.heap.size)
  generalize hAe : va_A (wIm cI cZ h a b n v f) s.heap.size = A at hD ⊢
  have hA : ∀ q : Nat, s.heap.size ≤ q → A q := fun q h => by rw [← hAe]; exact Or.inr h
  have hS : va_S A s.heap s.heap [] := va_S.rf
  have hP : va_P G vwCl [(h, .inr (3, [.ref a, .ref b, .int (iI ((n : Nat) : Int))])), (a, .inl (cI, 48, .inl (aI v))), (b, .inl (cZ, 48, .inl (aB f)))] s.heap := hP
  have hD : va_D A [(h, .inr (3, [.ref a, .ref b, .int (iI ((n : Nat) : Int))])), (a, .inl (cI, 48, .inl (aI v))), (b, .inl (cZ, 48, .inl (aB f)))] := hD
  generalize hQe : MQ below (va_Qv (S := Unit) (fun _ => True) (fun u1 t1 => va_P G vwCl ((fun _ => wIm cI cZ h a b (n + 1) (va_up v n x) (va_up f n t)) u1) t1.heap) A) args s 0 0 A = Q
  rw [show entryFrame m args 3 = entryFrame m ([.ref h, .int (iI (x)), .int (iI (bZ t))] : List Value).toArray 3 from by rw [hargs], lg_entry_eq]
  have hl := lv_entry ([.ref h, .int (iI (x)), .int (iI (bZ t))]) (n := 3) (Nat.le_of_ble_eq_true rfl)
  generalize (lg_sl ([.ref h, .int (iI (x)), .int (iI (bZ t))]) ++ List.replicate (3 - (lg_sl ([.ref h, .int (iI (x)), .int (iI (bZ t))])).length) Slot.unset).toArray = ls at hl ⊢
  have hl : lv_has ls 3 [(0, .ref h), (1, .int (iI (x))), (2, .int (iI (bZ t)))] := hl
  refine lv_aload_n hx hb dX3_add_0 rfl (lv_at hl 0 rfl) ?_
  refine ro_V (As := []) (rest := []) ⟨hx, hb, hml, hown, hts⟩ (c_X3_isFull l G cI cZ h a b n v f (by omega)) (cwV 0 hts gX3_add_X3_isFull rfl rfl rfl (by decide +kernel) ⟨Nat.le_of_ble_eq_true rfl, Nat.le_of_ble_eq_true rfl⟩) (hP.sub (ws' := [(h, .inr (3, [.ref a, .ref b, .int (iI ((n : Nat) : Int))])), (a, .inl (cI, 48, .inl (aI v))), (b, .inl (cZ, 48, .inl (aB f)))]) [0, 1, 2] rfl) hK 0 rfl rfl rfl hl.1 rfl (Nat.le_of_ble_eq_true rfl) dX3_add_1 ⟨Nat.zero_le _, Nat.zero_le _⟩ ?_
  refine q_df (tgt := 8) hx hb dX3_add_4 (by decide) (fun c4 => ?_) (fun c4 => absurd c4 (by omega))
  refine lv_aload_n hx hb dX3_add_8 rfl (lv_at hl 0 rfl) ?_
  refine va_get (D := G) (ci := 3) (v := .ref a) (C := RX3) (T := TX3) (N := 3) hx hb hts hi3 hown hK hP 0 rfl rfl 0 (by decide) hf9 (fun _ h9 => h9) rfl dX3_add_9 ?_
  refine lv_aload_n hx hb dX3_add_12 rfl (lv_at hl 0 rfl) ?_
  refine va_get (D := G) (ci := 3) (v := .int (iI ((n : Nat) : Int))) (C := RX3) (T := TX3) (N := 3) hx hb hts hi3 hown hK hP 0 rfl rfl 2 (by decide) hf19 (fun _ h9 => h9) rfl dX3_add_13 ?_
  refine lv_iload_n hx hb dX3_add_16 rfl (lv_at hl 1 rfl) ?_
  refine q_istI hx hb hK hP hD hS 1 rfl (by decide) (n) (by omega) (x) dX3_add_17 (ws' := [(h, .inr (3, [.ref a, .ref b, .int (iI ((n : Nat) : Int))])), (a, .inl (cI, 48, .inl (aI (va_up v n x)))), (b, .inl (cZ, 48, .inl (aB f)))]) rfl (fun H locs hP hD hS => ?_)
  refine lv_aload_n hx hb dX3_add_18 rfl (lv_at hl 0 rfl) ?_
  refine va_get (D := G) (ci := 3) (v := .ref b) (C := RX3) (T := TX3) (N := 3) hx hb hts hi3 hown hK hP 0 rfl rfl 1 (by decide) hf15 (fun _ h9 => h9) rfl dX3_add_19 ?_
  refine lv_aload_n hx hb dX3_add_22 rfl (lv_at hl 0 rfl) ?_
  refine va_get (D := G) (ci := 3) (v := .int (iI ((n : Nat) : Int))) (C := RX3) (T := TX3) (N := 3) hx hb hts hi3 hown hK hP 0 rfl rfl 2 (by decide) hf19 (fun _ h9 => h9) rfl dX3_add_23 ?_
  refine lv_iload_n hx hb dX3_add_26 rfl (lv_at hl 2 rfl) ?_
  refine q_zst hx hb hK hP hD hS 2 rfl (by decide) (n) (by omega) (t) dX3_add_27 (ws' := [(h, .inr (3, [.ref a, .ref b, .int (iI ((n : Nat) : Int))])), (a, .inl (cI, 48, .inl (aI (va_up v n x)))), (b, .inl (cZ, 48, .inl (aB (va_up f n t))))]) rfl (fun H locs hP hD hS => ?_)
  refine lv_aload_n hx hb dX3_add_28 rfl (lv_at hl 0 rfl) ?_
  refine lv_dup hx hb dX3_add_29 rfl ?_
  refine va_get (D := G) (ci := 3) (v := .int (iI ((n : Nat) : Int))) (C := RX3) (T := TX3) (N := 3) hx hb hts hi3 hown hK hP 0 rfl rfl 2 (by decide) hf19 (fun _ h9 => h9) rfl dX3_add_30 ?_
  refine lv_iconst (v := iI ((1 : Nat) : Int)) hx hb dX3_add_33 rfl ?_
  refine q_iaddN hx hb dX3_add_34 ?_
  refine va_put (D := G) (ci := 3) (v := .int (iI ((n + 1 : Nat) : Int))) (ty := .int) (C := RX3) (T := TX3) (N := 3) hx hb hts hi3 tyX3 tyX3_ok nmX3 hown hK hP hD hS 0 rfl rfl 2 (by decide) hf19 (fun _ h9 => h9) rfl (by decide +kernel) rfl rfl (Nat.le_of_ble_eq_true rfl) dX3_add_35 (fun H locs hP hD hS => ?_)
  have hP : va_P G vwCl [(h, .inr (3, [.ref a, .ref b, .int (iI ((n + 1 : Nat) : Int))])), (a, .inl (cI, 48, .inl (aI (va_up v n x)))), (b, .inl (cZ, 48, .inl (aB (va_up f n t))))] H := hP
  have hD : va_D A [(h, .inr (3, [.ref a, .ref b, .int (iI ((n + 1 : Nat) : Int))])), (a, .inl (cI, 48, .inl (aI (va_up v n x)))), (b, .inl (cZ, 48, .inl (aB (va_up f n t))))] := hD
  rw [← hQe]
  exact W.vret hx hb hr (fun t ht hW => ⟨⟨(), rfl, trivial, by show va_P G vwCl _ t.heap; rw [ht]; exact hP⟩, hS.F ht⟩) hS.2.2 dX3_add_38

set_option maxHeartbeats 4000000 in
set_option maxRecDepth 100000 in
/-- Image.replace -/
theorem c_X3_replace (l : Launch) (G : va_G) (cI cZ : ClassId) (h a b : Nat) (n : Nat) (v : Nat → Int) (f : Nat → Bool) (x y : Int) (hn : n ≤ 48) (hx1 : 0 ≤ x) (hx2 : x < (n : Int)) (sz : Nat) : Wr (S := Unit) l yX3_replace wsX3_replace ({ frames := 1, cells := 0, slots := 0, locals := 21 }) G cI cZ [.ref h, .int (iI (x)), .int (iI (y))] (wIm cI cZ h a b n v f) sz (fun _ => True) (fun _ => wIm cI cZ h a b n (va_up v x.toNat y) f) := by
  refine Met.ofW (cc := cX3_replace) (maxL := 3) (ret := (none)) (by decide) rfl ?_
  intro p e s m args below meth c s₁ B hml hv
  obtain ⟨hargs, hsz, hP, hK, hD0⟩ := hv
  have hx := B.exec
  have hb := B.bytes
  have hr := B.returns
  have hts := atoms_spec (ws := wsX3_replace) B.pre
  have hown : s.vm.findClass RX3 = some m.cls := findClass_of_methodNamed B.named
  have hlocks := B.notSynchronized
  have hi3 : ∀ w ∈ wsX30, w ∈ wsX3_replace := by decide +kernel
  have hf9 := hts (.fieldLink RX3 9 "RelocatingPatch$Image" "values" "[I") (by decide +kernel)
  subst hsz
  have hD := hD0.self (sz := s.heap.size)
  generalize hAe : va_A (wIm cI cZ h a b n v f) s.heap.size = A at hD ⊢
  have hA : ∀ q : Nat, s.heap.size ≤ q → A q := fun q h => by rw [← hAe]; exact Or.inr h
  have hS : va_S A s.heap s.heap [] := va_S.rf
  have hP : va_P G vwCl [(h, .inr (3, [.ref a, .ref b, .int (iI ((n : Nat) : Int))])), (a, .inl (cI, 48, .inl (aI v))), (b, .inl (cZ, 48, .inl (aB f)))] s.heap := hP
  have hD : va_D A [(h, .inr (3, [.ref a, .ref b, .int (iI ((n : Nat) : Int))])), (a, .inl (cI, 48, .inl (aI v))), (b, .inl (cZ, 48, .inl (aB f)))] := hD
  generalize hQe : MQ below (va_Qv (S := Unit) (fun _ => True) (fun u1 t1 => va_P G vwCl ((fun _ => wIm cI cZ h a b n (va_up v x.toNat y) f) u1) t1.heap) A) args s 0 0 A = Q
  rw [show entryFrame m args 3 = entryFrame m ([.ref h, .int (iI (x)), .int (iI (y))] : List Value).toArray 3 from by rw [hargs], lg_entry_eq]
  have hl := lv_entry ([.ref h, .int (iI (x)), .int (iI (y))]) (n := 3) (Nat.le_of_ble_eq_true rfl)
  generalize (lg_sl ([.ref h, .int (iI (x)), .int (iI (y))]) ++ List.replicate (3 - (lg_sl ([.ref h, .int (iI (x)), .int (iI (y))])).length) Slot.unset).toArray = ls at hl ⊢
  have hl : lv_has ls 3 [(0, .ref h), (1, .int (iI (x))), (2, .int (iI (y)))] := hl
  refine lv_aload_n hx hb dX3_replace_0 rfl (lv_at hl 0 rfl) ?_
  refine lv_iload_n hx hb dX3_replace_1 rfl (lv_at hl 1 rfl) ?_
  refine ro_V (As := [.int (iI (x))]) (rest := []) ⟨hx, hb, hml, hown, hts⟩ (c_X3_holds l G cI cZ h a b n v f (x) (by omega) (by omega) (by omega)) (cwV 1 hts gX3_replace_X3_holds rfl rfl rfl (by decide +kernel) ⟨Nat.le_of_ble_eq_true rfl, Nat.le_of_ble_eq_true rfl⟩) (hP.sub (ws' := [(h, .inr (3, [.ref a, .ref b, .int (iI ((n : Nat) : Int))])), (a, .inl (cI, 48, .inl (aI v))), (b, .inl (cZ, 48, .inl (aB f)))]) [0, 1, 2] rfl) hK 0 rfl rfl rfl hl.1 rfl (Nat.le_of_ble_eq_true rfl) dX3_replace_2 ⟨Nat.zero_le _, Nat.zero_le _⟩ ?_
  refine q_df (tgt := 15) hx hb dX3_replace_5 (by decide) (fun c5 => absurd c5 (by omega)) (fun c5 => ?_)
  refine lv_aload_n hx hb dX3_replace_8 rfl (lv_at hl 0 rfl) ?_
  refine va_get (D := G) (ci := 3) (v := .ref a) (C := RX3) (T := TX3) (N := 3) hx hb hts hi3 hown hK hP 0 rfl rfl 0 (by decide) hf9 (fun _ h9 => h9) rfl dX3_replace_9 ?_
  refine lv_iload_n hx hb dX3_replace_12 rfl (lv_at hl 1 rfl) ?_
  refine q_cast (b := ((x.toNat : Nat) : Int)) (by omega) ?_
  refine lv_iload_n hx hb dX3_replace_13 rfl (lv_at hl 2 rfl) ?_
  refine q_istI hx hb hK hP hD hS 1 rfl (by decide) (x.toNat) (by omega) (y) dX3_replace_14 (ws' := [(h, .inr (3, [.ref a, .ref b, .int (iI ((n : Nat) : Int))])), (a, .inl (cI, 48, .inl (aI (va_up v x.toNat y)))), (b, .inl (cZ, 48, .inl (aB f)))]) rfl (fun H locs hP hD hS => ?_)
  rw [← hQe]
  exact W.vret hx hb hr (fun t ht hW => ⟨⟨(), rfl, trivial, by show va_P G vwCl _ t.heap; rw [ht]; exact hP⟩, hS.F ht⟩) hS.2.2 dX3_replace_15

set_option maxHeartbeats 4000000 in
set_option maxRecDepth 100000 in
/-- Image.removeAll -/
theorem c_X3_removeAll (l : Launch) (G : va_G) (cI cZ : ClassId) (h a b : Nat) (n : Nat) (v : Nat → Int) (f : Nat → Bool) (sz : Nat) : Wr (S := Unit) l yX3_removeAll wsX3_removeAll ({ frames := 0, cells := 0, slots := 0, locals := 0 }) G cI cZ [.ref h] (wIm cI cZ h a b n v f) sz (fun _ => True) (fun _ => wIm cI cZ h a b 0 v f) := by
  refine Met.ofW (cc := cX3_removeAll) (maxL := 1) (ret := (none)) (by decide) rfl ?_
  intro p e s m args below meth c s₁ B hml hv
  obtain ⟨hargs, hsz, hP, hK, hD0⟩ := hv
  have hx := B.exec
  have hb := B.bytes
  have hr := B.returns
  have hts := atoms_spec (ws := wsX3_removeAll) B.pre
  have hown : s.vm.findClass RX3 = some m.cls := findClass_of_methodNamed B.named
  have hlocks := B.notSynchronized
  have hi3 : ∀ w ∈ wsX30, w ∈ wsX3_removeAll := by decide +kernel
  have hf19 := hts (.fieldLink RX3 19 "RelocatingPatch$Image" "size" "I") (by decide +kernel)
  subst hsz
  have hD := hD0.self (sz := s.heap.size)
  generalize hAe : va_A (wIm cI cZ h a b n v f) s.heap.size = A at hD ⊢
  have hA : ∀ q : Nat, s.heap.size ≤ q → A q := fun q h => by rw [← hAe]; exact Or.inr h
  have hS : va_S A s.heap s.heap [] := va_S.rf
  have hP : va_P G vwCl [(h, .inr (3, [.ref a, .ref b, .int (iI ((n : Nat) : Int))])), (a, .inl (cI, 48, .inl (aI v))), (b, .inl (cZ, 48, .inl (aB f)))] s.heap := hP
  have hD : va_D A [(h, .inr (3, [.ref a, .ref b, .int (iI ((n : Nat) : Int))])), (a, .inl (cI, 48, .inl (aI v))), (b, .inl (cZ, 48, .inl (aB f)))] := hD
  generalize hQe : MQ below (va_Qv (S := Unit) (fun _ => True) (fun u1 t1 => va_P G vwCl ((fun _ => wIm cI cZ h a b 0 v f) u1) t1.heap) A) args s 0 0 A = Q
  rw [show entryFrame m args 1 = entryFrame m ([.ref h] : List Value).toArray 1 from by rw [hargs], lg_entry_eq]
  have hl := lv_entry ([.ref h]) (n := 1) (Nat.le_of_ble_eq_true rfl)
  generalize (lg_sl ([.ref h]) ++ List.replicate (1 - (lg_sl ([.ref h])).length) Slot.unset).toArray = ls at hl ⊢
  have hl : lv_has ls 1 [(0, .ref h)] := hl
  refine lv_aload_n hx hb dX3_removeAll_0 rfl (lv_at hl 0 rfl) ?_
  refine lv_iconst (v := iI ((0 : Nat) : Int)) hx hb dX3_removeAll_1 rfl ?_
  refine va_put (D := G) (ci := 3) (v := .int (iI ((0 : Nat) : Int))) (ty := .int) (C := RX3) (T := TX3) (N := 3) hx hb hts hi3 tyX3 tyX3_ok nmX3 hown hK hP hD hS 0 rfl rfl 2 (by decide) hf19 (fun _ h9 => h9) rfl (by decide +kernel) rfl rfl (Nat.le_of_ble_eq_true rfl) dX3_removeAll_2 (fun H locs hP hD hS => ?_)
  have hP : va_P G vwCl [(h, .inr (3, [.ref a, .ref b, .int (iI ((0 : Nat) : Int))])), (a, .inl (cI, 48, .inl (aI v))), (b, .inl (cZ, 48, .inl (aB f)))] H := hP
  have hD : va_D A [(h, .inr (3, [.ref a, .ref b, .int (iI ((0 : Nat) : Int))])), (a, .inl (cI, 48, .inl (aI v))), (b, .inl (cZ, 48, .inl (aB f)))] := hD
  rw [← hQe]
  exact W.vret hx hb hr (fun t ht hW => ⟨⟨(), rfl, trivial, by show va_P G vwCl _ t.heap; rw [ht]; exact hP⟩, hS.F ht⟩) hS.2.2 dX3_removeAll_5
