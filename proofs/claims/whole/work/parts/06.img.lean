set_option maxHeartbeats 4000000 in
set_option maxRecDepth 100000 in
/-- Image.size -/
theorem c_X3_size (l_ : Launch) (G_ : va_G) (cI cZ : ClassId) (h_ a_ b_ : Nat) (n_ : Nat) (v_ : Nat → Int) (f_ : Nat → Bool) : Ro l_ yX3_size wsX3_size ({ frames := 0, cells := 0, slots := 0, locals := 0 }) G_ cI cZ [.ref h_] (wIm cI cZ h_ a_ b_ n_ v_ f_) ((n_ : Nat) : Int) := by
  refine Met.ofW (cc := cX3_size) (maxL := 1) (ret := (some .int)) (by decide) rfl ?_
  intro p_ e_ s_ m_ args below meth c_ s₁ B hml hv
  obtain ⟨hargs, hP_, hK_⟩ := hv
  have hx_ := B.exec
  have hb_ := B.bytes
  have hr := B.returns
  have hts := atoms_spec (ws := wsX3_size) B.pre
  have hown : s_.vm.findClass RX3 = some m_.cls := findClass_of_methodNamed B.named
  have hlocks := B.notSynchronized
  have hi3_ : ∀ w_ ∈ wsX30, w_ ∈ wsX3_size := by decide +kernel
  have hf19_ := hts (.fieldLink RX3 19 "RelocatingPatch$Image" "size" "I") (by decide +kernel)
  have hP_ : va_P G_ vwCl [(h_, .inr (3, [.ref a_, .ref b_, .int (iI ((n_ : Nat) : Int))])), (a_, .inl (cI, 48, .inl (aI v_))), (b_, .inl (cZ, 48, .inl (aB f_)))] s_.heap := hP_
  generalize hQe : MQ below (vp_Si (fun r_ => r_ = iI ((n_ : Nat) : Int))) args s_ 0 0 (fun _ => False) = Q_
  rw [show entryFrame m_ args 1 = entryFrame m_ ([.ref h_] : List Value).toArray 1 from by rw [hargs], lg_entry_eq]
  have hl_ := lv_entry ([.ref h_]) (n := 1) (Nat.le_of_ble_eq_true rfl)
  generalize (lg_sl ([.ref h_]) ++ List.replicate (1 - (lg_sl ([.ref h_])).length) Slot.unset).toArray = ls_ at hl_ ⊢
  have hl_ : lv_has ls_ 1 [(0, .ref h_)] := hl_
  refine lv_aload_n hx_ hb_ dX3_size_0 rfl (lv_at hl_ 0 rfl) ?_
  refine va_get (D := G_) (ci := 3) (v := .int (iI ((n_ : Nat) : Int))) (C := RX3) (T := TX3) (N := 3) hx_ hb_ hts hi3_ hown hK_ hP_ 0 rfl rfl 2 (by decide) hf19_ (fun _ h9 => h9) rfl dX3_size_1 ?_
  rw [← hQe]
  exact W.iret hx_ hb_ hr (fun t_ ht hW => ⟨_, rfl, congrArg iI (by first | rfl | omega), ht⟩) (fun q_ h_ => absurd h_ List.not_mem_nil) dX3_size_4

set_option maxHeartbeats 4000000 in
set_option maxRecDepth 100000 in
/-- Image.isFull -/
theorem c_X3_isFull (l_ : Launch) (G_ : va_G) (cI cZ : ClassId) (h_ a_ b_ : Nat) (n_ : Nat) (v_ : Nat → Int) (f_ : Nat → Bool) (hn_ : n_ ≤ 48) : Ro l_ yX3_isFull wsX3_isFull ({ frames := 0, cells := 0, slots := 0, locals := 0 }) G_ cI cZ [.ref h_] (wIm cI cZ h_ a_ b_ n_ v_ f_) (bZ (decide (48 ≤ n_))) := by
  refine Met.ofW (cc := cX3_isFull) (maxL := 1) (ret := (some .boolean)) (by decide) rfl ?_
  intro p_ e_ s_ m_ args below meth c_ s₁ B hml hv
  obtain ⟨hargs, hP_, hK_⟩ := hv
  have hx_ := B.exec
  have hb_ := B.bytes
  have hr := B.returns
  have hts := atoms_spec (ws := wsX3_isFull) B.pre
  have hown : s_.vm.findClass RX3 = some m_.cls := findClass_of_methodNamed B.named
  have hlocks := B.notSynchronized
  have hi3_ : ∀ w_ ∈ wsX30, w_ ∈ wsX3_isFull := by decide +kernel
  have hf19_ := hts (.fieldLink RX3 19 "RelocatingPatch$Image" "size" "I") (by decide +kernel)
  have hP_ : va_P G_ vwCl [(h_, .inr (3, [.ref a_, .ref b_, .int (iI ((n_ : Nat) : Int))])), (a_, .inl (cI, 48, .inl (aI v_))), (b_, .inl (cZ, 48, .inl (aB f_)))] s_.heap := hP_
  generalize hQe : MQ below (vp_Si (fun r_ => r_ = iI (bZ (decide (48 ≤ n_))))) args s_ 0 0 (fun _ => False) = Q_
  rw [show entryFrame m_ args 1 = entryFrame m_ ([.ref h_] : List Value).toArray 1 from by rw [hargs], lg_entry_eq]
  have hl_ := lv_entry ([.ref h_]) (n := 1) (Nat.le_of_ble_eq_true rfl)
  generalize (lg_sl ([.ref h_]) ++ List.replicate (1 - (lg_sl ([.ref h_])).length) Slot.unset).toArray = ls_ at hl_ ⊢
  have hl_ : lv_has ls_ 1 [(0, .ref h_)] := hl_
  refine lv_aload_n hx_ hb_ dX3_isFull_0 rfl (lv_at hl_ 0 rfl) ?_
  refine va_get (D := G_) (ci := 3) (v := .int (iI ((n_ : Nat) : Int))) (C := RX3) (T := TX3) (N := 3) hx_ hb_ hts hi3_ hown hK_ hP_ 0 rfl rfl 2 (by decide) hf19_ (fun _ h9 => h9) rfl dX3_isFull_1 ?_
  refine lv_bipush (v := iI ((48 : Nat) : Int)) hx_ hb_ dX3_isFull_4 rfl ?_
  refine q_icmp_lt (tgt := 13) hx_ hb_ dX3_isFull_6 (by decide) (⟨by omega, by omega⟩) (⟨by decide, by decide⟩) (fun c6_ => ?_) (fun c6_ => ?_)
  · skip
    refine lv_iconst (v := iI ((0 : Nat) : Int)) hx_ hb_ dX3_isFull_13 rfl ?_
    rw [← hQe]
    refine q_cast (b := bZ false) rfl ?_
    exact W.zret (v := _) hx_ hb_ hr (nar_bZ _) (fun t_ ht hW => ⟨_, rfl, congrArg iI (congrArg bZ (decide_eq_false (by omega)).symm), ht⟩) (fun q_ h_ => absurd h_ List.not_mem_nil) dX3_isFull_14
  · skip
    refine lv_iconst (v := iI ((1 : Nat) : Int)) hx_ hb_ dX3_isFull_9 rfl ?_
    refine lv_goto (tgt := 14) hx_ hb_ dX3_isFull_10 (by decide) ?_
    rw [← hQe]
    refine q_cast (b := bZ true) rfl ?_
    exact W.zret (v := _) hx_ hb_ hr (nar_bZ _) (fun t_ ht hW => ⟨_, rfl, congrArg iI (congrArg bZ (decide_eq_true (by omega)).symm), ht⟩) (fun q_ h_ => absurd h_ List.not_mem_nil) dX3_isFull_14

set_option maxHeartbeats 4000000 in
set_option maxRecDepth 100000 in
/-- Image.holds -/
theorem c_X3_holds (l_ : Launch) (G_ : va_G) (cI cZ : ClassId) (h_ a_ b_ : Nat) (n_ : Nat) (v_ : Nat → Int) (f_ : Nat → Bool) (x_ : Int) (hn_ : n_ ≤ 48) (hx1 : -2147483648 ≤ x_) (hx2 : x_ < 2147483648) : Ro l_ yX3_holds wsX3_holds ({ frames := 0, cells := 0, slots := 0, locals := 0 }) G_ cI cZ [.ref h_, .int (iI (x_))] (wIm cI cZ h_ a_ b_ n_ v_ f_) (bZ (decide (0 ≤ x_ ∧ x_ < ((n_ : Nat) : Int)))) := by
  refine Met.ofW (cc := cX3_holds) (maxL := 2) (ret := (some .boolean)) (by decide) rfl ?_
  intro p_ e_ s_ m_ args below meth c_ s₁ B hml hv
  obtain ⟨hargs, hP_, hK_⟩ := hv
  have hx_ := B.exec
  have hb_ := B.bytes
  have hr := B.returns
  have hts := atoms_spec (ws := wsX3_holds) B.pre
  have hown : s_.vm.findClass RX3 = some m_.cls := findClass_of_methodNamed B.named
  have hlocks := B.notSynchronized
  have hi3_ : ∀ w_ ∈ wsX30, w_ ∈ wsX3_holds := by decide +kernel
  have hf19_ := hts (.fieldLink RX3 19 "RelocatingPatch$Image" "size" "I") (by decide +kernel)
  have hP_ : va_P G_ vwCl [(h_, .inr (3, [.ref a_, .ref b_, .int (iI ((n_ : Nat) : Int))])), (a_, .inl (cI, 48, .inl (aI v_))), (b_, .inl (cZ, 48, .inl (aB f_)))] s_.heap := hP_
  generalize hQe : MQ below (vp_Si (fun r_ => r_ = iI (bZ (decide (0 ≤ x_ ∧ x_ < ((n_ : Nat) : Int)))))) args s_ 0 0 (fun _ => False) = Q_
  rw [show entryFrame m_ args 2 = entryFrame m_ ([.ref h_, .int (iI (x_))] : List Value).toArray 2 from by rw [hargs], lg_entry_eq]
  have hl_ := lv_entry ([.ref h_, .int (iI (x_))]) (n := 2) (Nat.le_of_ble_eq_true rfl)
  generalize (lg_sl ([.ref h_, .int (iI (x_))]) ++ List.replicate (2 - (lg_sl ([.ref h_, .int (iI (x_))])).length) Slot.unset).toArray = ls_ at hl_ ⊢
  have hl_ : lv_has ls_ 2 [(0, .ref h_), (1, .int (iI (x_)))] := hl_
  refine lv_iload_n hx_ hb_ dX3_holds_0 rfl (lv_at hl_ 1 rfl) ?_
  refine q_if_lt (tgt := 16) hx_ hb_ dX3_holds_1 (by decide) (⟨by omega, by omega⟩) (fun c1_ => ?_) (fun c1_ => ?_)
  · skip
    refine lv_iconst (v := iI ((0 : Nat) : Int)) hx_ hb_ dX3_holds_16 rfl ?_
    rw [← hQe]
    refine q_cast (b := bZ false) rfl ?_
    exact W.zret (v := _) hx_ hb_ hr (nar_bZ _) (fun t_ ht hW => ⟨_, rfl, congrArg iI (congrArg bZ (decide_eq_false (by omega)).symm), ht⟩) (fun q_ h_ => absurd h_ List.not_mem_nil) dX3_holds_17
  · skip
    refine lv_iload_n hx_ hb_ dX3_holds_4 rfl (lv_at hl_ 1 rfl) ?_
    refine lv_aload_n hx_ hb_ dX3_holds_5 rfl (lv_at hl_ 0 rfl) ?_
    refine va_get (D := G_) (ci := 3) (v := .int (iI ((n_ : Nat) : Int))) (C := RX3) (T := TX3) (N := 3) hx_ hb_ hts hi3_ hown hK_ hP_ 0 rfl rfl 2 (by decide) hf19_ (fun _ h9 => h9) rfl dX3_holds_6 ?_
    refine q_icmp_ge (tgt := 16) hx_ hb_ dX3_holds_9 (by decide) (⟨by omega, by omega⟩) (⟨by omega, by omega⟩) (fun c9_ => ?_) (fun c9_ => ?_)
    · skip
      refine lv_iconst (v := iI ((0 : Nat) : Int)) hx_ hb_ dX3_holds_16 rfl ?_
      rw [← hQe]
      refine q_cast (b := bZ false) rfl ?_
      exact W.zret (v := _) hx_ hb_ hr (nar_bZ _) (fun t_ ht hW => ⟨_, rfl, congrArg iI (congrArg bZ (decide_eq_false (by omega)).symm), ht⟩) (fun q_ h_ => absurd h_ List.not_mem_nil) dX3_holds_17
    · skip
      refine lv_iconst (v := iI ((1 : Nat) : Int)) hx_ hb_ dX3_holds_12 rfl ?_
      refine lv_goto (tgt := 17) hx_ hb_ dX3_holds_13 (by decide) ?_
      rw [← hQe]
      refine q_cast (b := bZ true) rfl ?_
      exact W.zret (v := _) hx_ hb_ hr (nar_bZ _) (fun t_ ht hW => ⟨_, rfl, congrArg iI (congrArg bZ (decide_eq_true (by omega)).symm), ht⟩) (fun q_ h_ => absurd h_ List.not_mem_nil) dX3_holds_17

set_option maxHeartbeats 4000000 in
set_option maxRecDepth 100000 in
/-- Image.valueAt -/
theorem c_X3_valueAt (l_ : Launch) (G_ : va_G) (cI cZ : ClassId) (h_ a_ b_ : Nat) (n_ : Nat) (v_ : Nat → Int) (f_ : Nat → Bool) (x_ : Int) (hn_ : n_ ≤ 48) (hx1 : -2147483648 ≤ x_) (hx2 : x_ < 2147483648) : Ro l_ yX3_valueAt wsX3_valueAt ({ frames := 1, cells := 0, slots := 0, locals := 21 }) G_ cI cZ [.ref h_, .int (iI (x_))] (wIm cI cZ h_ a_ b_ n_ v_ f_) (vAt n_ v_ x_) := by
  refine Met.ofW (cc := cX3_valueAt) (maxL := 2) (ret := (some .int)) (by decide) rfl ?_
  intro p_ e_ s_ m_ args below meth c_ s₁ B hml hv
  obtain ⟨hargs, hP_, hK_⟩ := hv
  have hx_ := B.exec
  have hb_ := B.bytes
  have hr := B.returns
  have hts := atoms_spec (ws := wsX3_valueAt) B.pre
  have hown : s_.vm.findClass RX3 = some m_.cls := findClass_of_methodNamed B.named
  have hlocks := B.notSynchronized
  have hi3_ : ∀ w_ ∈ wsX30, w_ ∈ wsX3_valueAt := by decide +kernel
  have hf9_ := hts (.fieldLink RX3 9 "RelocatingPatch$Image" "values" "[I") (by decide +kernel)
  have hP_ : va_P G_ vwCl [(h_, .inr (3, [.ref a_, .ref b_, .int (iI ((n_ : Nat) : Int))])), (a_, .inl (cI, 48, .inl (aI v_))), (b_, .inl (cZ, 48, .inl (aB f_)))] s_.heap := hP_
  generalize hQe : MQ below (vp_Si (fun r_ => r_ = iI (vAt n_ v_ x_))) args s_ 0 0 (fun _ => False) = Q_
  rw [show entryFrame m_ args 2 = entryFrame m_ ([.ref h_, .int (iI (x_))] : List Value).toArray 2 from by rw [hargs], lg_entry_eq]
  have hl_ := lv_entry ([.ref h_, .int (iI (x_))]) (n := 2) (Nat.le_of_ble_eq_true rfl)
  generalize (lg_sl ([.ref h_, .int (iI (x_))]) ++ List.replicate (2 - (lg_sl ([.ref h_, .int (iI (x_))])).length) Slot.unset).toArray = ls_ at hl_ ⊢
  have hl_ : lv_has ls_ 2 [(0, .ref h_), (1, .int (iI (x_)))] := hl_
  refine lv_aload_n hx_ hb_ dX3_valueAt_0 rfl (lv_at hl_ 0 rfl) ?_
  refine lv_iload_n hx_ hb_ dX3_valueAt_1 rfl (lv_at hl_ 1 rfl) ?_
  refine ro_V (As := [.int (iI (x_))]) (rest := []) ⟨hx_, hb_, hml, hown, hts⟩ (c_X3_holds l_ G_ cI cZ h_ a_ b_ n_ v_ f_ (x_) (by omega) (by omega) (by omega)) (cwV 1 hts gX3_valueAt_X3_holds rfl rfl rfl (by decide +kernel) ⟨Nat.le_of_ble_eq_true rfl, Nat.le_of_ble_eq_true rfl⟩) (hP_.sub (ws' := [(h_, .inr (3, [.ref a_, .ref b_, .int (iI ((n_ : Nat) : Int))])), (a_, .inl (cI, 48, .inl (aI v_))), (b_, .inl (cZ, 48, .inl (aB f_)))]) [0, 1, 2] rfl) hK_ 0 rfl rfl rfl hl_.1 rfl (Nat.le_of_ble_eq_true rfl) dX3_valueAt_2 ⟨Nat.zero_le _, Nat.zero_le _⟩ ?_
  refine q_df (tgt := 17) hx_ hb_ dX3_valueAt_5 (by decide) (fun c5_ => ?_) (fun c5_ => ?_)
  · skip
    refine lv_iconst (v := iI ((0 : Nat) : Int)) hx_ hb_ dX3_valueAt_17 rfl ?_
    rw [← hQe]
    exact W.iret hx_ hb_ hr (fun t_ ht hW => ⟨_, rfl, congrArg iI (by unfold vAt; rw [if_neg c5_]; rfl), ht⟩) (fun q_ h_ => absurd h_ List.not_mem_nil) dX3_valueAt_18
  · skip
    refine lv_aload_n hx_ hb_ dX3_valueAt_8 rfl (lv_at hl_ 0 rfl) ?_
    refine va_get (D := G_) (ci := 3) (v := .ref a_) (C := RX3) (T := TX3) (N := 3) hx_ hb_ hts hi3_ hown hK_ hP_ 0 rfl rfl 0 (by decide) hf9_ (fun _ h9 => h9) rfl dX3_valueAt_9 ?_
    refine lv_iload_n hx_ hb_ dX3_valueAt_12 rfl (lv_at hl_ 1 rfl) ?_
    refine q_cast (b := ((x_.toNat : Nat) : Int)) (by omega) ?_
    refine q_ildI hx_ hb_ hK_ hP_ 1 rfl (by decide) (x_.toNat) (by omega) (v_ x_.toNat) (rfl) dX3_valueAt_13 ?_
    refine lv_goto (tgt := 18) hx_ hb_ dX3_valueAt_14 (by decide) ?_
    rw [← hQe]
    exact W.iret hx_ hb_ hr (fun t_ ht hW => ⟨_, rfl, congrArg iI (by unfold vAt; rw [if_pos c5_]), ht⟩) (fun q_ h_ => absurd h_ List.not_mem_nil) dX3_valueAt_18

set_option maxHeartbeats 4000000 in
set_option maxRecDepth 100000 in
/-- Image.isAddress -/
theorem c_X3_isAddress (l_ : Launch) (G_ : va_G) (cI cZ : ClassId) (h_ a_ b_ : Nat) (n_ : Nat) (v_ : Nat → Int) (f_ : Nat → Bool) (x_ : Int) (hn_ : n_ ≤ 48) (hx1 : -2147483648 ≤ x_) (hx2 : x_ < 2147483648) : Ro l_ yX3_isAddress wsX3_isAddress ({ frames := 1, cells := 0, slots := 0, locals := 21 }) G_ cI cZ [.ref h_, .int (iI (x_))] (wIm cI cZ h_ a_ b_ n_ v_ f_) (bZ (fAt n_ f_ x_)) := by
  refine Met.ofW (cc := cX3_isAddress) (maxL := 2) (ret := (some .boolean)) (by decide) rfl ?_
  intro p_ e_ s_ m_ args below meth c_ s₁ B hml hv
  obtain ⟨hargs, hP_, hK_⟩ := hv
  have hx_ := B.exec
  have hb_ := B.bytes
  have hr := B.returns
  have hts := atoms_spec (ws := wsX3_isAddress) B.pre
  have hown : s_.vm.findClass RX3 = some m_.cls := findClass_of_methodNamed B.named
  have hlocks := B.notSynchronized
  have hi3_ : ∀ w_ ∈ wsX30, w_ ∈ wsX3_isAddress := by decide +kernel
  have hf15_ := hts (.fieldLink RX3 15 "RelocatingPatch$Image" "addresses" "[Z") (by decide +kernel)
  have hP_ : va_P G_ vwCl [(h_, .inr (3, [.ref a_, .ref b_, .int (iI ((n_ : Nat) : Int))])), (a_, .inl (cI, 48, .inl (aI v_))), (b_, .inl (cZ, 48, .inl (aB f_)))] s_.heap := hP_
  generalize hQe : MQ below (vp_Si (fun r_ => r_ = iI (bZ (fAt n_ f_ x_)))) args s_ 0 0 (fun _ => False) = Q_
  rw [show entryFrame m_ args 2 = entryFrame m_ ([.ref h_, .int (iI (x_))] : List Value).toArray 2 from by rw [hargs], lg_entry_eq]
  have hl_ := lv_entry ([.ref h_, .int (iI (x_))]) (n := 2) (Nat.le_of_ble_eq_true rfl)
  generalize (lg_sl ([.ref h_, .int (iI (x_))]) ++ List.replicate (2 - (lg_sl ([.ref h_, .int (iI (x_))])).length) Slot.unset).toArray = ls_ at hl_ ⊢
  have hl_ : lv_has ls_ 2 [(0, .ref h_), (1, .int (iI (x_)))] := hl_
  refine lv_aload_n hx_ hb_ dX3_isAddress_0 rfl (lv_at hl_ 0 rfl) ?_
  refine lv_iload_n hx_ hb_ dX3_isAddress_1 rfl (lv_at hl_ 1 rfl) ?_
  refine ro_V (As := [.int (iI (x_))]) (rest := []) ⟨hx_, hb_, hml, hown, hts⟩ (c_X3_holds l_ G_ cI cZ h_ a_ b_ n_ v_ f_ (x_) (by omega) (by omega) (by omega)) (cwV 1 hts gX3_isAddress_X3_holds rfl rfl rfl (by decide +kernel) ⟨Nat.le_of_ble_eq_true rfl, Nat.le_of_ble_eq_true rfl⟩) (hP_.sub (ws' := [(h_, .inr (3, [.ref a_, .ref b_, .int (iI ((n_ : Nat) : Int))])), (a_, .inl (cI, 48, .inl (aI v_))), (b_, .inl (cZ, 48, .inl (aB f_)))]) [0, 1, 2] rfl) hK_ 0 rfl rfl rfl hl_.1 rfl (Nat.le_of_ble_eq_true rfl) dX3_isAddress_2 ⟨Nat.zero_le _, Nat.zero_le _⟩ ?_
  refine q_df (tgt := 21) hx_ hb_ dX3_isAddress_5 (by decide) (fun c5_ => ?_) (fun c5_ => ?_)
  · skip
    refine lv_iconst (v := iI ((0 : Nat) : Int)) hx_ hb_ dX3_isAddress_21 rfl ?_
    rw [← hQe]
    refine q_cast (b := bZ false) rfl ?_
    exact W.zret (v := _) hx_ hb_ hr (nar_bZ _) (fun t_ ht hW => ⟨_, rfl, congrArg iI (congrArg bZ (by unfold fAt; rw [decide_eq_false c5_]; rfl)), ht⟩) (fun q_ h_ => absurd h_ List.not_mem_nil) dX3_isAddress_22
  · skip
    refine lv_aload_n hx_ hb_ dX3_isAddress_8 rfl (lv_at hl_ 0 rfl) ?_
    refine va_get (D := G_) (ci := 3) (v := .ref b_) (C := RX3) (T := TX3) (N := 3) hx_ hb_ hts hi3_ hown hK_ hP_ 0 rfl rfl 1 (by decide) hf15_ (fun _ h9 => h9) rfl dX3_isAddress_9 ?_
    refine lv_iload_n hx_ hb_ dX3_isAddress_12 rfl (lv_at hl_ 1 rfl) ?_
    refine q_cast (b := ((x_.toNat : Nat) : Int)) (by omega) ?_
    refine q_zld hx_ hb_ hK_ hP_ 2 rfl (by decide) (x_.toNat) (by omega) (f_ x_.toNat) (rfl) dX3_isAddress_13 ?_
    refine q_bf (tgt := 21) hx_ hb_ dX3_isAddress_14 (by decide) (fun c14_ => ?_) (fun c14_ => ?_)
    · skip
      refine lv_iconst (v := iI ((0 : Nat) : Int)) hx_ hb_ dX3_isAddress_21 rfl ?_
      rw [← hQe]
      refine q_cast (b := bZ false) rfl ?_
      exact W.zret (v := _) hx_ hb_ hr (nar_bZ _) (fun t_ ht hW => ⟨_, rfl, congrArg iI (congrArg bZ (by unfold fAt; rw [c14_]; simp)), ht⟩) (fun q_ h_ => absurd h_ List.not_mem_nil) dX3_isAddress_22
    · skip
      refine lv_iconst (v := iI ((1 : Nat) : Int)) hx_ hb_ dX3_isAddress_17 rfl ?_
      refine lv_goto (tgt := 22) hx_ hb_ dX3_isAddress_18 (by decide) ?_
      rw [← hQe]
      refine q_cast (b := bZ true) rfl ?_
      exact W.zret (v := _) hx_ hb_ hr (nar_bZ _) (fun t_ ht hW => ⟨_, rfl, congrArg iI (congrArg bZ (by unfold fAt; rw [c14_, decide_eq_true c5_]; rfl)), ht⟩) (fun q_ h_ => absurd h_ List.not_mem_nil) dX3_isAddress_22

set_option maxHeartbeats 4000000 in
set_option maxRecDepth 100000 in
/-- Image.add -/
theorem c_X3_add (l_ : Launch) (G_ : va_G) (cI cZ : ClassId) (h_ a_ b_ : Nat) (n_ : Nat) (v_ : Nat → Int) (f_ : Nat → Bool) (x_ : Int) (t_ : Bool) (hn_ : n_ < 48) (sz : Nat) : Wr (S := Unit) l_ yX3_add wsX3_add ({ frames := 1, cells := 0, slots := 0, locals := 20 }) G_ cI cZ [.ref h_, .int (iI (x_)), .int (iI (bZ t_))] (wIm cI cZ h_ a_ b_ n_ v_ f_) sz (fun _ => True) (fun _ => wIm cI cZ h_ a_ b_ (n_ + 1) (va_up v_ n_ x_) (va_up f_ n_ t_)) := by
  refine Met.ofW (cc := cX3_add) (maxL := 3) (ret := (none)) (by decide) rfl ?_
  intro p_ e_ s_ m_ args below meth c_ s₁ B hml hv
  obtain ⟨hargs, hsz, hP_, hK_, hD0⟩ := hv
  have hx_ := B.exec
  have hb_ := B.bytes
  have hr := B.returns
  have hts := atoms_spec (ws := wsX3_add) B.pre
  have hown : s_.vm.findClass RX3 = some m_.cls := findClass_of_methodNamed B.named
  have hlocks := B.notSynchronized
  have hi3_ : ∀ w_ ∈ wsX30, w_ ∈ wsX3_add := by decide +kernel
  have hf9_ := hts (.fieldLink RX3 9 "RelocatingPatch$Image" "values" "[I") (by decide +kernel)
  have hf15_ := hts (.fieldLink RX3 15 "RelocatingPatch$Image" "addresses" "[Z") (by decide +kernel)
  have hf19_ := hts (.fieldLink RX3 19 "RelocatingPatch$Image" "size" "I") (by decide +kernel)
  subst hsz
  have hD_ := hD0.self (sz := s_.heap.size)
  generalize hAe : va_A (wIm cI cZ h_ a_ b_ n_ v_ f_) s_.heap.size = A_ at hD_ ⊢
  have hA_ : ∀ q_ : Nat, s_.heap.size ≤ q_ → A_ q_ := fun q_ h_ => by rw [← hAe]; exact Or.inr h_
  have hS_ : va_S A_ s_.heap s_.heap [] := va_S.rf
  have hP_ : va_P G_ vwCl [(h_, .inr (3, [.ref a_, .ref b_, .int (iI ((n_ : Nat) : Int))])), (a_, .inl (cI, 48, .inl (aI v_))), (b_, .inl (cZ, 48, .inl (aB f_)))] s_.heap := hP_
  have hD_ : va_D A_ [(h_, .inr (3, [.ref a_, .ref b_, .int (iI ((n_ : Nat) : Int))])), (a_, .inl (cI, 48, .inl (aI v_))), (b_, .inl (cZ, 48, .inl (aB f_)))] := hD_
  generalize hQe : MQ below (va_Qv (S := Unit) (fun _ => True) (fun u1 t1 => va_P G_ vwCl ((fun _ => wIm cI cZ h_ a_ b_ (n_ + 1) (va_up v_ n_ x_) (va_up f_ n_ t_)) u1) t1.heap) A_) args s_ 0 0 A_ = Q_
  rw [show entryFrame m_ args 3 = entryFrame m_ ([.ref h_, .int (iI (x_)), .int (iI (bZ t_))] : List Value).toArray 3 from by rw [hargs], lg_entry_eq]
  have hl_ := lv_entry ([.ref h_, .int (iI (x_)), .int (iI (bZ t_))]) (n := 3) (Nat.le_of_ble_eq_true rfl)
  generalize (lg_sl ([.ref h_, .int (iI (x_)), .int (iI (bZ t_))]) ++ List.replicate (3 - (lg_sl ([.ref h_, .int (iI (x_)), .int (iI (bZ t_))])).length) Slot.unset).toArray = ls_ at hl_ ⊢
  have hl_ : lv_has ls_ 3 [(0, .ref h_), (1, .int (iI (x_))), (2, .int (iI (bZ t_)))] := hl_
  refine lv_aload_n hx_ hb_ dX3_add_0 rfl (lv_at hl_ 0 rfl) ?_
  refine ro_V (As := []) (rest := []) ⟨hx_, hb_, hml, hown, hts⟩ (c_X3_isFull l_ G_ cI cZ h_ a_ b_ n_ v_ f_ (by omega)) (cwV 0 hts gX3_add_X3_isFull rfl rfl rfl (by decide +kernel) ⟨Nat.le_of_ble_eq_true rfl, Nat.le_of_ble_eq_true rfl⟩) (hP_.sub (ws' := [(h_, .inr (3, [.ref a_, .ref b_, .int (iI ((n_ : Nat) : Int))])), (a_, .inl (cI, 48, .inl (aI v_))), (b_, .inl (cZ, 48, .inl (aB f_)))]) [0, 1, 2] rfl) hK_ 0 rfl rfl rfl hl_.1 rfl (Nat.le_of_ble_eq_true rfl) dX3_add_1 ⟨Nat.zero_le _, Nat.zero_le _⟩ ?_
  refine q_df (tgt := 8) hx_ hb_ dX3_add_4 (by decide) (fun c4_ => ?_) (fun c4_ => absurd c4_ (by omega))
  refine lv_aload_n hx_ hb_ dX3_add_8 rfl (lv_at hl_ 0 rfl) ?_
  refine va_get (D := G_) (ci := 3) (v := .ref a_) (C := RX3) (T := TX3) (N := 3) hx_ hb_ hts hi3_ hown hK_ hP_ 0 rfl rfl 0 (by decide) hf9_ (fun _ h9 => h9) rfl dX3_add_9 ?_
  refine lv_aload_n hx_ hb_ dX3_add_12 rfl (lv_at hl_ 0 rfl) ?_
  refine va_get (D := G_) (ci := 3) (v := .int (iI ((n_ : Nat) : Int))) (C := RX3) (T := TX3) (N := 3) hx_ hb_ hts hi3_ hown hK_ hP_ 0 rfl rfl 2 (by decide) hf19_ (fun _ h9 => h9) rfl dX3_add_13 ?_
  refine lv_iload_n hx_ hb_ dX3_add_16 rfl (lv_at hl_ 1 rfl) ?_
  refine q_istI hx_ hb_ hK_ hP_ hD_ hS_ 1 rfl (by decide) (n_) (by omega) (x_) dX3_add_17 (ws' := [(h_, .inr (3, [.ref a_, .ref b_, .int (iI ((n_ : Nat) : Int))])), (a_, .inl (cI, 48, .inl (aI (va_up v_ n_ x_)))), (b_, .inl (cZ, 48, .inl (aB f_)))]) rfl (fun H_ locs hP_ hD_ hS_ => ?_)
  refine lv_aload_n hx_ hb_ dX3_add_18 rfl (lv_at hl_ 0 rfl) ?_
  refine va_get (D := G_) (ci := 3) (v := .ref b_) (C := RX3) (T := TX3) (N := 3) hx_ hb_ hts hi3_ hown hK_ hP_ 0 rfl rfl 1 (by decide) hf15_ (fun _ h9 => h9) rfl dX3_add_19 ?_
  refine lv_aload_n hx_ hb_ dX3_add_22 rfl (lv_at hl_ 0 rfl) ?_
  refine va_get (D := G_) (ci := 3) (v := .int (iI ((n_ : Nat) : Int))) (C := RX3) (T := TX3) (N := 3) hx_ hb_ hts hi3_ hown hK_ hP_ 0 rfl rfl 2 (by decide) hf19_ (fun _ h9 => h9) rfl dX3_add_23 ?_
  refine lv_iload_n hx_ hb_ dX3_add_26 rfl (lv_at hl_ 2 rfl) ?_
  refine q_zst hx_ hb_ hK_ hP_ hD_ hS_ 2 rfl (by decide) (n_) (by omega) (t_) dX3_add_27 (ws' := [(h_, .inr (3, [.ref a_, .ref b_, .int (iI ((n_ : Nat) : Int))])), (a_, .inl (cI, 48, .inl (aI (va_up v_ n_ x_)))), (b_, .inl (cZ, 48, .inl (aB (va_up f_ n_ t_))))]) rfl (fun H_ locs hP_ hD_ hS_ => ?_)
  refine lv_aload_n hx_ hb_ dX3_add_28 rfl (lv_at hl_ 0 rfl) ?_
  refine lv_dup hx_ hb_ dX3_add_29 rfl ?_
  refine va_get (D := G_) (ci := 3) (v := .int (iI ((n_ : Nat) : Int))) (C := RX3) (T := TX3) (N := 3) hx_ hb_ hts hi3_ hown hK_ hP_ 0 rfl rfl 2 (by decide) hf19_ (fun _ h9 => h9) rfl dX3_add_30 ?_
  refine lv_iconst (v := iI ((1 : Nat) : Int)) hx_ hb_ dX3_add_33 rfl ?_
  refine q_iaddN hx_ hb_ dX3_add_34 ?_
  refine va_put (D := G_) (ci := 3) (v := .int (iI ((n_ + 1 : Nat) : Int))) (ty := .int) (C := RX3) (T := TX3) (N := 3) hx_ hb_ hts hi3_ tyX3 tyX3_ok nmX3 hown hK_ hP_ hD_ hS_ 0 rfl rfl 2 (by decide) hf19_ (fun _ h9 => h9) rfl (by decide +kernel) rfl rfl (Nat.le_of_ble_eq_true rfl) dX3_add_35 (fun H_ locs hP_ hD_ hS_ => ?_)
  have hP_ : va_P G_ vwCl [(h_, .inr (3, [.ref a_, .ref b_, .int (iI ((n_ + 1 : Nat) : Int))])), (a_, .inl (cI, 48, .inl (aI (va_up v_ n_ x_)))), (b_, .inl (cZ, 48, .inl (aB (va_up f_ n_ t_))))] H_ := hP_
  have hD_ : va_D A_ [(h_, .inr (3, [.ref a_, .ref b_, .int (iI ((n_ + 1 : Nat) : Int))])), (a_, .inl (cI, 48, .inl (aI (va_up v_ n_ x_)))), (b_, .inl (cZ, 48, .inl (aB (va_up f_ n_ t_))))] := hD_
  rw [← hQe]
  exact W.vret hx_ hb_ hr (fun t_ ht hW => ⟨⟨(), rfl, trivial, by show va_P G_ vwCl _ t_.heap; rw [ht]; exact hP_⟩, hS_.F ht⟩) hS_.2.2 dX3_add_38

set_option maxHeartbeats 4000000 in
set_option maxRecDepth 100000 in
/-- Image.replace -/
theorem c_X3_replace (l_ : Launch) (G_ : va_G) (cI cZ : ClassId) (h_ a_ b_ : Nat) (n_ : Nat) (v_ : Nat → Int) (f_ : Nat → Bool) (x_ y_ : Int) (hn_ : n_ ≤ 48) (hx1 : 0 ≤ x_) (hx2 : x_ < (n_ : Int)) (sz : Nat) : Wr (S := Unit) l_ yX3_replace wsX3_replace ({ frames := 1, cells := 0, slots := 0, locals := 21 }) G_ cI cZ [.ref h_, .int (iI (x_)), .int (iI (y_))] (wIm cI cZ h_ a_ b_ n_ v_ f_) sz (fun _ => True) (fun _ => wIm cI cZ h_ a_ b_ n_ (va_up v_ x_.toNat y_) f_) := by
  refine Met.ofW (cc := cX3_replace) (maxL := 3) (ret := (none)) (by decide) rfl ?_
  intro p_ e_ s_ m_ args below meth c_ s₁ B hml hv
  obtain ⟨hargs, hsz, hP_, hK_, hD0⟩ := hv
  have hx_ := B.exec
  have hb_ := B.bytes
  have hr := B.returns
  have hts := atoms_spec (ws := wsX3_replace) B.pre
  have hown : s_.vm.findClass RX3 = some m_.cls := findClass_of_methodNamed B.named
  have hlocks := B.notSynchronized
  have hi3_ : ∀ w_ ∈ wsX30, w_ ∈ wsX3_replace := by decide +kernel
  have hf9_ := hts (.fieldLink RX3 9 "RelocatingPatch$Image" "values" "[I") (by decide +kernel)
  subst hsz
  have hD_ := hD0.self (sz := s_.heap.size)
  generalize hAe : va_A (wIm cI cZ h_ a_ b_ n_ v_ f_) s_.heap.size = A_ at hD_ ⊢
  have hA_ : ∀ q_ : Nat, s_.heap.size ≤ q_ → A_ q_ := fun q_ h_ => by rw [← hAe]; exact Or.inr h_
  have hS_ : va_S A_ s_.heap s_.heap [] := va_S.rf
  have hP_ : va_P G_ vwCl [(h_, .inr (3, [.ref a_, .ref b_, .int (iI ((n_ : Nat) : Int))])), (a_, .inl (cI, 48, .inl (aI v_))), (b_, .inl (cZ, 48, .inl (aB f_)))] s_.heap := hP_
  have hD_ : va_D A_ [(h_, .inr (3, [.ref a_, .ref b_, .int (iI ((n_ : Nat) : Int))])), (a_, .inl (cI, 48, .inl (aI v_))), (b_, .inl (cZ, 48, .inl (aB f_)))] := hD_
  generalize hQe : MQ below (va_Qv (S := Unit) (fun _ => True) (fun u1 t1 => va_P G_ vwCl ((fun _ => wIm cI cZ h_ a_ b_ n_ (va_up v_ x_.toNat y_) f_) u1) t1.heap) A_) args s_ 0 0 A_ = Q_
  rw [show entryFrame m_ args 3 = entryFrame m_ ([.ref h_, .int (iI (x_)), .int (iI (y_))] : List Value).toArray 3 from by rw [hargs], lg_entry_eq]
  have hl_ := lv_entry ([.ref h_, .int (iI (x_)), .int (iI (y_))]) (n := 3) (Nat.le_of_ble_eq_true rfl)
  generalize (lg_sl ([.ref h_, .int (iI (x_)), .int (iI (y_))]) ++ List.replicate (3 - (lg_sl ([.ref h_, .int (iI (x_)), .int (iI (y_))])).length) Slot.unset).toArray = ls_ at hl_ ⊢
  have hl_ : lv_has ls_ 3 [(0, .ref h_), (1, .int (iI (x_))), (2, .int (iI (y_)))] := hl_
  refine lv_aload_n hx_ hb_ dX3_replace_0 rfl (lv_at hl_ 0 rfl) ?_
  refine lv_iload_n hx_ hb_ dX3_replace_1 rfl (lv_at hl_ 1 rfl) ?_
  refine ro_V (As := [.int (iI (x_))]) (rest := []) ⟨hx_, hb_, hml, hown, hts⟩ (c_X3_holds l_ G_ cI cZ h_ a_ b_ n_ v_ f_ (x_) (by omega) (by omega) (by omega)) (cwV 1 hts gX3_replace_X3_holds rfl rfl rfl (by decide +kernel) ⟨Nat.le_of_ble_eq_true rfl, Nat.le_of_ble_eq_true rfl⟩) (hP_.sub (ws' := [(h_, .inr (3, [.ref a_, .ref b_, .int (iI ((n_ : Nat) : Int))])), (a_, .inl (cI, 48, .inl (aI v_))), (b_, .inl (cZ, 48, .inl (aB f_)))]) [0, 1, 2] rfl) hK_ 0 rfl rfl rfl hl_.1 rfl (Nat.le_of_ble_eq_true rfl) dX3_replace_2 ⟨Nat.zero_le _, Nat.zero_le _⟩ ?_
  refine q_df (tgt := 15) hx_ hb_ dX3_replace_5 (by decide) (fun c5_ => absurd c5_ (by omega)) (fun c5_ => ?_)
  refine lv_aload_n hx_ hb_ dX3_replace_8 rfl (lv_at hl_ 0 rfl) ?_
  refine va_get (D := G_) (ci := 3) (v := .ref a_) (C := RX3) (T := TX3) (N := 3) hx_ hb_ hts hi3_ hown hK_ hP_ 0 rfl rfl 0 (by decide) hf9_ (fun _ h9 => h9) rfl dX3_replace_9 ?_
  refine lv_iload_n hx_ hb_ dX3_replace_12 rfl (lv_at hl_ 1 rfl) ?_
  refine q_cast (b := ((x_.toNat : Nat) : Int)) (by omega) ?_
  refine lv_iload_n hx_ hb_ dX3_replace_13 rfl (lv_at hl_ 2 rfl) ?_
  refine q_istI hx_ hb_ hK_ hP_ hD_ hS_ 1 rfl (by decide) (x_.toNat) (by omega) (y_) dX3_replace_14 (ws' := [(h_, .inr (3, [.ref a_, .ref b_, .int (iI ((n_ : Nat) : Int))])), (a_, .inl (cI, 48, .inl (aI (va_up v_ x_.toNat y_)))), (b_, .inl (cZ, 48, .inl (aB f_)))]) rfl (fun H_ locs hP_ hD_ hS_ => ?_)
  rw [← hQe]
  exact W.vret hx_ hb_ hr (fun t_ ht hW => ⟨⟨(), rfl, trivial, by show va_P G_ vwCl _ t_.heap; rw [ht]; exact hP_⟩, hS_.F ht⟩) hS_.2.2 dX3_replace_15

set_option maxHeartbeats 4000000 in
set_option maxRecDepth 100000 in
/-- Image.removeAll -/
theorem c_X3_removeAll (l_ : Launch) (G_ : va_G) (cI cZ : ClassId) (h_ a_ b_ : Nat) (n_ : Nat) (v_ : Nat → Int) (f_ : Nat → Bool) (sz : Nat) : Wr (S := Unit) l_ yX3_removeAll wsX3_removeAll ({ frames := 0, cells := 0, slots := 0, locals := 0 }) G_ cI cZ [.ref h_] (wIm cI cZ h_ a_ b_ n_ v_ f_) sz (fun _ => True) (fun _ => wIm cI cZ h_ a_ b_ 0 v_ f_) := by
  refine Met.ofW (cc := cX3_removeAll) (maxL := 1) (ret := (none)) (by decide) rfl ?_
  intro p_ e_ s_ m_ args below meth c_ s₁ B hml hv
  obtain ⟨hargs, hsz, hP_, hK_, hD0⟩ := hv
  have hx_ := B.exec
  have hb_ := B.bytes
  have hr := B.returns
  have hts := atoms_spec (ws := wsX3_removeAll) B.pre
  have hown : s_.vm.findClass RX3 = some m_.cls := findClass_of_methodNamed B.named
  have hlocks := B.notSynchronized
  have hi3_ : ∀ w_ ∈ wsX30, w_ ∈ wsX3_removeAll := by decide +kernel
  have hf19_ := hts (.fieldLink RX3 19 "RelocatingPatch$Image" "size" "I") (by decide +kernel)
  subst hsz
  have hD_ := hD0.self (sz := s_.heap.size)
  generalize hAe : va_A (wIm cI cZ h_ a_ b_ n_ v_ f_) s_.heap.size = A_ at hD_ ⊢
  have hA_ : ∀ q_ : Nat, s_.heap.size ≤ q_ → A_ q_ := fun q_ h_ => by rw [← hAe]; exact Or.inr h_
  have hS_ : va_S A_ s_.heap s_.heap [] := va_S.rf
  have hP_ : va_P G_ vwCl [(h_, .inr (3, [.ref a_, .ref b_, .int (iI ((n_ : Nat) : Int))])), (a_, .inl (cI, 48, .inl (aI v_))), (b_, .inl (cZ, 48, .inl (aB f_)))] s_.heap := hP_
  have hD_ : va_D A_ [(h_, .inr (3, [.ref a_, .ref b_, .int (iI ((n_ : Nat) : Int))])), (a_, .inl (cI, 48, .inl (aI v_))), (b_, .inl (cZ, 48, .inl (aB f_)))] := hD_
  generalize hQe : MQ below (va_Qv (S := Unit) (fun _ => True) (fun u1 t1 => va_P G_ vwCl ((fun _ => wIm cI cZ h_ a_ b_ 0 v_ f_) u1) t1.heap) A_) args s_ 0 0 A_ = Q_
  rw [show entryFrame m_ args 1 = entryFrame m_ ([.ref h_] : List Value).toArray 1 from by rw [hargs], lg_entry_eq]
  have hl_ := lv_entry ([.ref h_]) (n := 1) (Nat.le_of_ble_eq_true rfl)
  generalize (lg_sl ([.ref h_]) ++ List.replicate (1 - (lg_sl ([.ref h_])).length) Slot.unset).toArray = ls_ at hl_ ⊢
  have hl_ : lv_has ls_ 1 [(0, .ref h_)] := hl_
  refine lv_aload_n hx_ hb_ dX3_removeAll_0 rfl (lv_at hl_ 0 rfl) ?_
  refine lv_iconst (v := iI ((0 : Nat) : Int)) hx_ hb_ dX3_removeAll_1 rfl ?_
  refine va_put (D := G_) (ci := 3) (v := .int (iI ((0 : Nat) : Int))) (ty := .int) (C := RX3) (T := TX3) (N := 3) hx_ hb_ hts hi3_ tyX3 tyX3_ok nmX3 hown hK_ hP_ hD_ hS_ 0 rfl rfl 2 (by decide) hf19_ (fun _ h9 => h9) rfl (by decide +kernel) rfl rfl (Nat.le_of_ble_eq_true rfl) dX3_removeAll_2 (fun H_ locs hP_ hD_ hS_ => ?_)
  have hP_ : va_P G_ vwCl [(h_, .inr (3, [.ref a_, .ref b_, .int (iI ((0 : Nat) : Int))])), (a_, .inl (cI, 48, .inl (aI v_))), (b_, .inl (cZ, 48, .inl (aB f_)))] H_ := hP_
  have hD_ : va_D A_ [(h_, .inr (3, [.ref a_, .ref b_, .int (iI ((0 : Nat) : Int))])), (a_, .inl (cI, 48, .inl (aI v_))), (b_, .inl (cZ, 48, .inl (aB f_)))] := hD_
  rw [← hQe]
  exact W.vret hx_ hb_ hr (fun t_ ht hW => ⟨⟨(), rfl, trivial, by show va_P G_ vwCl _ t_.heap; rw [ht]; exact hP_⟩, hS_.F ht⟩) hS_.2.2 dX3_removeAll_5
