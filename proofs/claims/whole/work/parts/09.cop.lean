set_option maxHeartbeats 4000000 in
set_option maxRecDepth 100000 in
/-- CopyOrder.steps -/
theorem c_X2_steps (l_ : Launch) (G_ : va_G) (cI cZ : ClassId) (h_ a_ b_ d_ : Nat) (od_ : Nat → Nat) (wt_ dr_ : Nat → Bool) (sp_ : Nat) : Ro l_ yX2_steps wsX2_steps ({ frames := 0, cells := 0, slots := 0, locals := 0 }) G_ cI cZ [.ref h_] (wCo cI cZ h_ a_ b_ d_ od_ wt_ dr_ sp_) ((sp_ : Nat) : Int) := by
  refine Met.ofW (cc := cX2_steps) (maxL := 1) (ret := (some .int)) (by decide) rfl ?_
  intro p_ e_ s_ m_ args below meth c_ s₁ B hml hv
  obtain ⟨hargs, hP_, hK_⟩ := hv
  have hx_ := B.exec
  have hb_ := B.bytes
  have hr := B.returns
  have hts := atoms_spec (ws := wsX2_steps) B.pre
  have hown : s_.vm.findClass RX2 = some m_.cls := findClass_of_methodNamed B.named
  have hlocks := B.notSynchronized
  have hi2_ : ∀ w_ ∈ wsX20, w_ ∈ wsX2_steps := by decide +kernel
  have hf22_ := hts (.fieldLink RX2 22 "RelocatingPatch$CopyOrder" "steps" "I") (by decide +kernel)
  have hP_ : va_P G_ vwCl [(h_, .inr (2, [.ref a_, .ref b_, .ref d_, .int (iI ((sp_ : Nat) : Int))])), (a_, .inl (cI, 48, .inl (aN od_))), (b_, .inl (cZ, 48, .inl (aB wt_))), (d_, .inl (cZ, 48, .inl (aB dr_)))] s_.heap := hP_
  generalize hQe : MQ below (vp_Si (fun r_ => r_ = iI ((sp_ : Nat) : Int))) args s_ 0 0 (fun _ => False) = Q_
  rw [show entryFrame m_ args 1 = entryFrame m_ ([.ref h_] : List Value).toArray 1 from by rw [hargs], lg_entry_eq]
  have hl_ := lv_entry ([.ref h_]) (n := 1) (Nat.le_of_ble_eq_true rfl)
  generalize (lg_sl ([.ref h_]) ++ List.replicate (1 - (lg_sl ([.ref h_])).length) Slot.unset).toArray = ls_ at hl_ ⊢
  have hl_ : lv_has ls_ 1 [(0, .ref h_)] := hl_
  refine lv_aload_n hx_ hb_ dX2_steps_0 rfl (lv_at hl_ 0 rfl) ?_
  refine va_get (D := G_) (ci := 2) (v := .int (iI ((sp_ : Nat) : Int))) (C := RX2) (T := TX2) (N := 4) hx_ hb_ hts hi2_ hown hK_ hP_ 0 rfl rfl 3 (by decide) hf22_ (fun _ h9 => h9) rfl dX2_steps_1 ?_
  rw [← hQe]
  exact W.iret hx_ hb_ hr (fun tt1 htt1 hWW1 => ⟨_, rfl, congrArg iI (by first | rfl | omega), htt1⟩) (fun q_ h_ => absurd h_ List.not_mem_nil) dX2_steps_4

set_option maxHeartbeats 4000000 in
set_option maxRecDepth 100000 in
/-- CopyOrder.hasStep -/
theorem c_X2_hasStep (l_ : Launch) (G_ : va_G) (cI cZ : ClassId) (h_ a_ b_ d_ : Nat) (od_ : Nat → Nat) (wt_ dr_ : Nat → Bool) (sp_ : Nat) (x_ : Int) (hs_ : sp_ ≤ 48) (hx1 : -2147483648 ≤ x_) (hx2 : x_ < 2147483648) : Ro l_ yX2_hasStep wsX2_hasStep ({ frames := 0, cells := 0, slots := 0, locals := 0 }) G_ cI cZ [.ref h_, .int (iI (x_))] (wCo cI cZ h_ a_ b_ d_ od_ wt_ dr_ sp_) (bZ (decide (0 ≤ x_ ∧ x_ < ((sp_ : Nat) : Int)))) := by
  refine Met.ofW (cc := cX2_hasStep) (maxL := 2) (ret := (some .boolean)) (by decide) rfl ?_
  intro p_ e_ s_ m_ args below meth c_ s₁ B hml hv
  obtain ⟨hargs, hP_, hK_⟩ := hv
  have hx_ := B.exec
  have hb_ := B.bytes
  have hr := B.returns
  have hts := atoms_spec (ws := wsX2_hasStep) B.pre
  have hown : s_.vm.findClass RX2 = some m_.cls := findClass_of_methodNamed B.named
  have hlocks := B.notSynchronized
  have hi2_ : ∀ w_ ∈ wsX20, w_ ∈ wsX2_hasStep := by decide +kernel
  have hf22_ := hts (.fieldLink RX2 22 "RelocatingPatch$CopyOrder" "steps" "I") (by decide +kernel)
  have hP_ : va_P G_ vwCl [(h_, .inr (2, [.ref a_, .ref b_, .ref d_, .int (iI ((sp_ : Nat) : Int))])), (a_, .inl (cI, 48, .inl (aN od_))), (b_, .inl (cZ, 48, .inl (aB wt_))), (d_, .inl (cZ, 48, .inl (aB dr_)))] s_.heap := hP_
  generalize hQe : MQ below (vp_Si (fun r_ => r_ = iI (bZ (decide (0 ≤ x_ ∧ x_ < ((sp_ : Nat) : Int)))))) args s_ 0 0 (fun _ => False) = Q_
  rw [show entryFrame m_ args 2 = entryFrame m_ ([.ref h_, .int (iI (x_))] : List Value).toArray 2 from by rw [hargs], lg_entry_eq]
  have hl_ := lv_entry ([.ref h_, .int (iI (x_))]) (n := 2) (Nat.le_of_ble_eq_true rfl)
  generalize (lg_sl ([.ref h_, .int (iI (x_))]) ++ List.replicate (2 - (lg_sl ([.ref h_, .int (iI (x_))])).length) Slot.unset).toArray = ls_ at hl_ ⊢
  have hl_ : lv_has ls_ 2 [(0, .ref h_), (1, .int (iI (x_)))] := hl_
  refine lv_iload_n hx_ hb_ dX2_hasStep_0 rfl (lv_at hl_ 1 rfl) ?_
  refine q_if_lt (tgt := 16) hx_ hb_ dX2_hasStep_1 (by decide) (⟨by omega, by omega⟩) (fun c1_ => ?_) (fun c1_ => ?_)
  · skip
    refine lv_iconst (v := iI ((0 : Nat) : Int)) hx_ hb_ dX2_hasStep_16 rfl ?_
    rw [← hQe]
    refine q_cast (b := bZ false) rfl ?_
    exact W.zret (v := _) hx_ hb_ hr (nar_bZ _) (fun tt1 htt1 hWW1 => ⟨_, rfl, congrArg iI (congrArg bZ (decide_eq_false (by omega)).symm), htt1⟩) (fun q_ h_ => absurd h_ List.not_mem_nil) dX2_hasStep_17
  · skip
    refine lv_iload_n hx_ hb_ dX2_hasStep_4 rfl (lv_at hl_ 1 rfl) ?_
    refine lv_aload_n hx_ hb_ dX2_hasStep_5 rfl (lv_at hl_ 0 rfl) ?_
    refine va_get (D := G_) (ci := 2) (v := .int (iI ((sp_ : Nat) : Int))) (C := RX2) (T := TX2) (N := 4) hx_ hb_ hts hi2_ hown hK_ hP_ 0 rfl rfl 3 (by decide) hf22_ (fun _ h9 => h9) rfl dX2_hasStep_6 ?_
    refine q_icmp_ge (tgt := 16) hx_ hb_ dX2_hasStep_9 (by decide) (⟨by omega, by omega⟩) (⟨by omega, by omega⟩) (fun c9_ => ?_) (fun c9_ => ?_)
    · skip
      refine lv_iconst (v := iI ((0 : Nat) : Int)) hx_ hb_ dX2_hasStep_16 rfl ?_
      rw [← hQe]
      refine q_cast (b := bZ false) rfl ?_
      exact W.zret (v := _) hx_ hb_ hr (nar_bZ _) (fun tt1 htt1 hWW1 => ⟨_, rfl, congrArg iI (congrArg bZ (decide_eq_false (by omega)).symm), htt1⟩) (fun q_ h_ => absurd h_ List.not_mem_nil) dX2_hasStep_17
    · skip
      refine lv_iconst (v := iI ((1 : Nat) : Int)) hx_ hb_ dX2_hasStep_12 rfl ?_
      refine lv_goto (tgt := 17) hx_ hb_ dX2_hasStep_13 (by decide) ?_
      rw [← hQe]
      refine q_cast (b := bZ true) rfl ?_
      exact W.zret (v := _) hx_ hb_ hr (nar_bZ _) (fun tt1 htt1 hWW1 => ⟨_, rfl, congrArg iI (congrArg bZ (decide_eq_true (by omega)).symm), htt1⟩) (fun q_ h_ => absurd h_ List.not_mem_nil) dX2_hasStep_17

set_option maxHeartbeats 4000000 in
set_option maxRecDepth 100000 in
/-- CopyOrder.blockOfStep -/
theorem c_X2_blockOfStep (l_ : Launch) (G_ : va_G) (cI cZ : ClassId) (h_ a_ b_ d_ : Nat) (od_ : Nat → Nat) (wt_ dr_ : Nat → Bool) (sp_ : Nat) (j_ : Nat) (hs_ : sp_ ≤ 48) (hj_ : j_ < sp_) : Ro l_ yX2_blockOfStep wsX2_blockOfStep ({ frames := 1, cells := 0, slots := 0, locals := 21 }) G_ cI cZ [.ref h_, .int (iI ((j_ : Nat) : Int))] (wCo cI cZ h_ a_ b_ d_ od_ wt_ dr_ sp_) ((od_ j_ : Nat) : Int) := by
  refine Met.ofW (cc := cX2_blockOfStep) (maxL := 2) (ret := (some .int)) (by decide) rfl ?_
  intro p_ e_ s_ m_ args below meth c_ s₁ B hml hv
  obtain ⟨hargs, hP_, hK_⟩ := hv
  have hx_ := B.exec
  have hb_ := B.bytes
  have hr := B.returns
  have hts := atoms_spec (ws := wsX2_blockOfStep) B.pre
  have hown : s_.vm.findClass RX2 = some m_.cls := findClass_of_methodNamed B.named
  have hlocks := B.notSynchronized
  have hi2_ : ∀ w_ ∈ wsX20, w_ ∈ wsX2_blockOfStep := by decide +kernel
  have hf9_ := hts (.fieldLink RX2 9 "RelocatingPatch$CopyOrder" "order" "[I") (by decide +kernel)
  have hP_ : va_P G_ vwCl [(h_, .inr (2, [.ref a_, .ref b_, .ref d_, .int (iI ((sp_ : Nat) : Int))])), (a_, .inl (cI, 48, .inl (aN od_))), (b_, .inl (cZ, 48, .inl (aB wt_))), (d_, .inl (cZ, 48, .inl (aB dr_)))] s_.heap := hP_
  generalize hQe : MQ below (vp_Si (fun r_ => r_ = iI ((od_ j_ : Nat) : Int))) args s_ 0 0 (fun _ => False) = Q_
  rw [show entryFrame m_ args 2 = entryFrame m_ ([.ref h_, .int (iI ((j_ : Nat) : Int))] : List Value).toArray 2 from by rw [hargs], lg_entry_eq]
  have hl_ := lv_entry ([.ref h_, .int (iI ((j_ : Nat) : Int))]) (n := 2) (Nat.le_of_ble_eq_true rfl)
  generalize (lg_sl ([.ref h_, .int (iI ((j_ : Nat) : Int))]) ++ List.replicate (2 - (lg_sl ([.ref h_, .int (iI ((j_ : Nat) : Int))])).length) Slot.unset).toArray = ls_ at hl_ ⊢
  have hl_ : lv_has ls_ 2 [(0, .ref h_), (1, .int (iI ((j_ : Nat) : Int)))] := hl_
  refine lv_aload_n hx_ hb_ dX2_blockOfStep_0 rfl (lv_at hl_ 0 rfl) ?_
  refine lv_iload_n hx_ hb_ dX2_blockOfStep_1 rfl (lv_at hl_ 1 rfl) ?_
  refine ro_V (As := [.int (iI ((j_ : Nat) : Int))]) (rest := []) ⟨hx_, hb_, hml, hown, hts⟩ (c_X2_hasStep l_ G_ cI cZ h_ a_ b_ d_ od_ wt_ dr_ sp_ ((j_ : Nat) : Int) (by omega) (by omega) (by omega)) (cwV 1 hts gX2_blockOfStep_X2_hasStep rfl rfl rfl (by decide +kernel) ⟨Nat.le_of_ble_eq_true rfl, Nat.le_of_ble_eq_true rfl⟩) (hP_.sub (ws' := [(h_, .inr (2, [.ref a_, .ref b_, .ref d_, .int (iI ((sp_ : Nat) : Int))])), (a_, .inl (cI, 48, .inl (aN od_))), (b_, .inl (cZ, 48, .inl (aB wt_))), (d_, .inl (cZ, 48, .inl (aB dr_)))]) [0, 1, 2, 3] rfl) hK_ 0 rfl rfl rfl hl_.1 rfl (Nat.le_of_ble_eq_true rfl) dX2_blockOfStep_2 ⟨Nat.zero_le _, Nat.zero_le _⟩ ?_
  refine q_df (tgt := 17) hx_ hb_ dX2_blockOfStep_5 (by decide) (fun c5_ => absurd c5_ (by omega)) (fun c5_ => ?_)
  refine lv_aload_n hx_ hb_ dX2_blockOfStep_8 rfl (lv_at hl_ 0 rfl) ?_
  refine va_get (D := G_) (ci := 2) (v := .ref a_) (C := RX2) (T := TX2) (N := 4) hx_ hb_ hts hi2_ hown hK_ hP_ 0 rfl rfl 0 (by decide) hf9_ (fun _ h9 => h9) rfl dX2_blockOfStep_9 ?_
  refine lv_iload_n hx_ hb_ dX2_blockOfStep_12 rfl (lv_at hl_ 1 rfl) ?_
  refine q_ildN hx_ hb_ hK_ hP_ 1 rfl (by decide) (j_) (by omega) (od_ j_) (rfl) dX2_blockOfStep_13 ?_
  refine lv_goto (tgt := 18) hx_ hb_ dX2_blockOfStep_14 (by decide) ?_
  rw [← hQe]
  exact W.iret hx_ hb_ hr (fun tt1 htt1 hWW1 => ⟨_, rfl, congrArg iI (by first | rfl | omega), htt1⟩) (fun q_ h_ => absurd h_ List.not_mem_nil) dX2_blockOfStep_18

set_option maxHeartbeats 4000000 in
set_option maxRecDepth 100000 in
/-- CopyOrder.drops -/
theorem c_X2_drops (l_ : Launch) (G_ : va_G) (cI cZ : ClassId) (h_ a_ b_ d_ : Nat) (od_ : Nat → Nat) (wt_ dr_ : Nat → Bool) (sp_ : Nat) (j_ : Nat) (hj_ : j_ < 48) : Ro l_ yX2_drops wsX2_drops ({ frames := 0, cells := 0, slots := 0, locals := 0 }) G_ cI cZ [.ref h_, .int (iI ((j_ : Nat) : Int))] (wCo cI cZ h_ a_ b_ d_ od_ wt_ dr_ sp_) (bZ (dr_ j_)) := by
  refine Met.ofW (cc := cX2_drops) (maxL := 2) (ret := (some .boolean)) (by decide) rfl ?_
  intro p_ e_ s_ m_ args below meth c_ s₁ B hml hv
  obtain ⟨hargs, hP_, hK_⟩ := hv
  have hx_ := B.exec
  have hb_ := B.bytes
  have hr := B.returns
  have hts := atoms_spec (ws := wsX2_drops) B.pre
  have hown : s_.vm.findClass RX2 = some m_.cls := findClass_of_methodNamed B.named
  have hlocks := B.notSynchronized
  have hi2_ : ∀ w_ ∈ wsX20, w_ ∈ wsX2_drops := by decide +kernel
  have hf19_ := hts (.fieldLink RX2 19 "RelocatingPatch$CopyOrder" "dropped" "[Z") (by decide +kernel)
  have hP_ : va_P G_ vwCl [(h_, .inr (2, [.ref a_, .ref b_, .ref d_, .int (iI ((sp_ : Nat) : Int))])), (a_, .inl (cI, 48, .inl (aN od_))), (b_, .inl (cZ, 48, .inl (aB wt_))), (d_, .inl (cZ, 48, .inl (aB dr_)))] s_.heap := hP_
  generalize hQe : MQ below (vp_Si (fun r_ => r_ = iI (bZ (dr_ j_)))) args s_ 0 0 (fun _ => False) = Q_
  rw [show entryFrame m_ args 2 = entryFrame m_ ([.ref h_, .int (iI ((j_ : Nat) : Int))] : List Value).toArray 2 from by rw [hargs], lg_entry_eq]
  have hl_ := lv_entry ([.ref h_, .int (iI ((j_ : Nat) : Int))]) (n := 2) (Nat.le_of_ble_eq_true rfl)
  generalize (lg_sl ([.ref h_, .int (iI ((j_ : Nat) : Int))]) ++ List.replicate (2 - (lg_sl ([.ref h_, .int (iI ((j_ : Nat) : Int))])).length) Slot.unset).toArray = ls_ at hl_ ⊢
  have hl_ : lv_has ls_ 2 [(0, .ref h_), (1, .int (iI ((j_ : Nat) : Int)))] := hl_
  refine lv_iload_n hx_ hb_ dX2_drops_0 rfl (lv_at hl_ 1 rfl) ?_
  refine q_if_lt (tgt := 23) hx_ hb_ dX2_drops_1 (by decide) (⟨by omega, by omega⟩) (fun c1_ => absurd c1_ (by omega)) (fun c1_ => ?_)
  refine lv_iload_n hx_ hb_ dX2_drops_4 rfl (lv_at hl_ 1 rfl) ?_
  refine lv_bipush (v := iI ((48 : Nat) : Int)) hx_ hb_ dX2_drops_5 rfl ?_
  refine q_icmp_ge (tgt := 23) hx_ hb_ dX2_drops_7 (by decide) (⟨by omega, by omega⟩) (⟨by decide, by decide⟩) (fun c7_ => absurd c7_ (by omega)) (fun c7_ => ?_)
  refine lv_aload_n hx_ hb_ dX2_drops_10 rfl (lv_at hl_ 0 rfl) ?_
  refine va_get (D := G_) (ci := 2) (v := .ref d_) (C := RX2) (T := TX2) (N := 4) hx_ hb_ hts hi2_ hown hK_ hP_ 0 rfl rfl 2 (by decide) hf19_ (fun _ h9 => h9) rfl dX2_drops_11 ?_
  refine lv_iload_n hx_ hb_ dX2_drops_14 rfl (lv_at hl_ 1 rfl) ?_
  refine q_zld hx_ hb_ hK_ hP_ 3 rfl (by decide) (j_) (by omega) (dr_ j_) (rfl) dX2_drops_15 ?_
  refine q_bf (tgt := 23) hx_ hb_ dX2_drops_16 (by decide) (fun c16_ => ?_) (fun c16_ => ?_)
  · skip
    refine lv_iconst (v := iI ((0 : Nat) : Int)) hx_ hb_ dX2_drops_23 rfl ?_
    rw [← hQe]
    refine q_cast (b := bZ false) rfl ?_
    exact W.zret (v := _) hx_ hb_ hr (nar_bZ _) (fun tt1 htt1 hWW1 => ⟨_, rfl, congrArg iI (congrArg bZ (c16_.symm)), htt1⟩) (fun q_ h_ => absurd h_ List.not_mem_nil) dX2_drops_24
  · skip
    refine lv_iconst (v := iI ((1 : Nat) : Int)) hx_ hb_ dX2_drops_19 rfl ?_
    refine lv_goto (tgt := 24) hx_ hb_ dX2_drops_20 (by decide) ?_
    rw [← hQe]
    refine q_cast (b := bZ true) rfl ?_
    exact W.zret (v := _) hx_ hb_ hr (nar_bZ _) (fun tt1 htt1 hWW1 => ⟨_, rfl, congrArg iI (congrArg bZ (c16_.symm)), htt1⟩) (fun q_ h_ => absurd h_ List.not_mem_nil) dX2_drops_24

set_option maxHeartbeats 4000000 in
set_option maxRecDepth 100000 in
/-- CopyOrder.waits -/
theorem c_X2_waits (l_ : Launch) (G_ : va_G) (cI cZ : ClassId) (h_ a_ b_ d_ : Nat) (od_ : Nat → Nat) (wt_ dr_ : Nat → Bool) (sp_ : Nat) (j_ : Nat) (hj_ : j_ < 48) : Ro l_ yX2_waits wsX2_waits ({ frames := 0, cells := 0, slots := 0, locals := 0 }) G_ cI cZ [.ref h_, .int (iI ((j_ : Nat) : Int))] (wCo cI cZ h_ a_ b_ d_ od_ wt_ dr_ sp_) (bZ (wt_ j_)) := by
  refine Met.ofW (cc := cX2_waits) (maxL := 2) (ret := (some .boolean)) (by decide) rfl ?_
  intro p_ e_ s_ m_ args below meth c_ s₁ B hml hv
  obtain ⟨hargs, hP_, hK_⟩ := hv
  have hx_ := B.exec
  have hb_ := B.bytes
  have hr := B.returns
  have hts := atoms_spec (ws := wsX2_waits) B.pre
  have hown : s_.vm.findClass RX2 = some m_.cls := findClass_of_methodNamed B.named
  have hlocks := B.notSynchronized
  have hi2_ : ∀ w_ ∈ wsX20, w_ ∈ wsX2_waits := by decide +kernel
  have hf15_ := hts (.fieldLink RX2 15 "RelocatingPatch$CopyOrder" "waiting" "[Z") (by decide +kernel)
  have hP_ : va_P G_ vwCl [(h_, .inr (2, [.ref a_, .ref b_, .ref d_, .int (iI ((sp_ : Nat) : Int))])), (a_, .inl (cI, 48, .inl (aN od_))), (b_, .inl (cZ, 48, .inl (aB wt_))), (d_, .inl (cZ, 48, .inl (aB dr_)))] s_.heap := hP_
  generalize hQe : MQ below (vp_Si (fun r_ => r_ = iI (bZ (wt_ j_)))) args s_ 0 0 (fun _ => False) = Q_
  rw [show entryFrame m_ args 2 = entryFrame m_ ([.ref h_, .int (iI ((j_ : Nat) : Int))] : List Value).toArray 2 from by rw [hargs], lg_entry_eq]
  have hl_ := lv_entry ([.ref h_, .int (iI ((j_ : Nat) : Int))]) (n := 2) (Nat.le_of_ble_eq_true rfl)
  generalize (lg_sl ([.ref h_, .int (iI ((j_ : Nat) : Int))]) ++ List.replicate (2 - (lg_sl ([.ref h_, .int (iI ((j_ : Nat) : Int))])).length) Slot.unset).toArray = ls_ at hl_ ⊢
  have hl_ : lv_has ls_ 2 [(0, .ref h_), (1, .int (iI ((j_ : Nat) : Int)))] := hl_
  refine lv_iload_n hx_ hb_ dX2_waits_0 rfl (lv_at hl_ 1 rfl) ?_
  refine q_if_lt (tgt := 23) hx_ hb_ dX2_waits_1 (by decide) (⟨by omega, by omega⟩) (fun c1_ => absurd c1_ (by omega)) (fun c1_ => ?_)
  refine lv_iload_n hx_ hb_ dX2_waits_4 rfl (lv_at hl_ 1 rfl) ?_
  refine lv_bipush (v := iI ((48 : Nat) : Int)) hx_ hb_ dX2_waits_5 rfl ?_
  refine q_icmp_ge (tgt := 23) hx_ hb_ dX2_waits_7 (by decide) (⟨by omega, by omega⟩) (⟨by decide, by decide⟩) (fun c7_ => absurd c7_ (by omega)) (fun c7_ => ?_)
  refine lv_aload_n hx_ hb_ dX2_waits_10 rfl (lv_at hl_ 0 rfl) ?_
  refine va_get (D := G_) (ci := 2) (v := .ref b_) (C := RX2) (T := TX2) (N := 4) hx_ hb_ hts hi2_ hown hK_ hP_ 0 rfl rfl 1 (by decide) hf15_ (fun _ h9 => h9) rfl dX2_waits_11 ?_
  refine lv_iload_n hx_ hb_ dX2_waits_14 rfl (lv_at hl_ 1 rfl) ?_
  refine q_zld hx_ hb_ hK_ hP_ 2 rfl (by decide) (j_) (by omega) (wt_ j_) (rfl) dX2_waits_15 ?_
  refine q_bf (tgt := 23) hx_ hb_ dX2_waits_16 (by decide) (fun c16_ => ?_) (fun c16_ => ?_)
  · skip
    refine lv_iconst (v := iI ((0 : Nat) : Int)) hx_ hb_ dX2_waits_23 rfl ?_
    rw [← hQe]
    refine q_cast (b := bZ false) rfl ?_
    exact W.zret (v := _) hx_ hb_ hr (nar_bZ _) (fun tt1 htt1 hWW1 => ⟨_, rfl, congrArg iI (congrArg bZ (c16_.symm)), htt1⟩) (fun q_ h_ => absurd h_ List.not_mem_nil) dX2_waits_24
  · skip
    refine lv_iconst (v := iI ((1 : Nat) : Int)) hx_ hb_ dX2_waits_19 rfl ?_
    refine lv_goto (tgt := 24) hx_ hb_ dX2_waits_20 (by decide) ?_
    rw [← hQe]
    refine q_cast (b := bZ true) rfl ?_
    exact W.zret (v := _) hx_ hb_ hr (nar_bZ _) (fun tt1 htt1 hWW1 => ⟨_, rfl, congrArg iI (congrArg bZ (c16_.symm)), htt1⟩) (fun q_ h_ => absurd h_ List.not_mem_nil) dX2_waits_24

set_option maxHeartbeats 4000000 in
set_option maxRecDepth 100000 in
/-- CopyOrder.origin -/
theorem c_X2_origin (l_ : Launch) (G_ : va_G) (cI cZ : ClassId) (h_ a_ b_ d_ : Nat) (od_ : Nat → Nat) (wt_ dr_ : Nat → Bool) (sp_ : Nat) (h2_ a2_ b2_ d2_ : Nat) (k_ : Nat) (os_ ns_ ln_ : Nat → Nat) (q_ : Nat) (x_ : Int) (hk_ : k_ ≤ 48) (hB_ : B48 k_ os_ ns_ ln_) (hs_ : sp_ ≤ 48) (hq_ : q_ ≤ sp_) (hod : ∀ j_, j_ < q_ → od_ j_ < k_) (hx1 : 0 ≤ x_) (hx2 : x_ ≤ 96) : Ro l_ yX2_origin wsX2_origin ({ frames := 3, cells := 0, slots := 0, locals := 65 }) G_ cI cZ [.ref h_, .ref h2_, .int (iI ((q_ : Nat) : Int)), .int (iI (x_))] (wCo cI cZ h_ a_ b_ d_ od_ wt_ dr_ sp_ ++ wBl cI h2_ a2_ b2_ d2_ k_ os_ ns_ ln_) (org od_ os_ ns_ ln_ q_ x_) := by
  refine Met.ofW (cc := cX2_origin) (maxL := 7) (ret := (some .int)) (by decide) rfl ?_
  intro p_ e_ s_ m_ args below meth c_ s₁ B hml hv
  obtain ⟨hargs, hP_, hK_⟩ := hv
  have hx_ := B.exec
  have hb_ := B.bytes
  have hr := B.returns
  have hts := atoms_spec (ws := wsX2_origin) B.pre
  have hown : s_.vm.findClass RX2 = some m_.cls := findClass_of_methodNamed B.named
  have hlocks := B.notSynchronized
  have hP_ : va_P G_ vwCl [(h_, .inr (2, [.ref a_, .ref b_, .ref d_, .int (iI ((sp_ : Nat) : Int))])), (a_, .inl (cI, 48, .inl (aN od_))), (b_, .inl (cZ, 48, .inl (aB wt_))), (d_, .inl (cZ, 48, .inl (aB dr_))), (h2_, .inr (1, [.ref a2_, .ref b2_, .ref d2_, .int (iI ((k_ : Nat) : Int))])), (a2_, .inl (cI, 48, .inl (aN os_))), (b2_, .inl (cI, 48, .inl (aN ns_))), (d2_, .inl (cI, 48, .inl (aN ln_)))] s_.heap := hP_
  generalize hQe : MQ below (vp_Si (fun r_ => r_ = iI (org od_ os_ ns_ ln_ q_ x_))) args s_ 0 0 (fun _ => False) = Q_
  have lp8 : ∀ (n_ : Nat) (t_ : Nat) (y_ : Int) (ls_ : Array Slot), (t_ ≤ q_) → (0 ≤ y_) → (y_ ≤ 96) → (org od_ os_ ns_ ln_ t_ y_ = org od_ os_ ns_ ln_ q_ x_) → (t_ + 1 ≤ n_) → lv_has ls_ 7 [(0, .ref h_), (1, .ref h2_), (2, .int (iI ((q_ : Nat) : Int))), (3, .int (iI (x_))), (4, .int (iI (y_))), (5, .int (iI (((t_ : Nat) : Int) - ((1 : Nat) : Int))))] → W p_ l_ e_ (headSpec wsX2_origin ({ frames := 3, cells := 0, slots := 0, locals := 65 })).room s_ m_ args below meth c_ s_.heap [] 0 0 Q_ (F0 m_ 8 ls_ []) := by
    intro n_
    induction n_ with
    | zero =>
      intro t_ y_ ls_ ht_ hy1 hy2 ho_ hn_
      exact False.elim (by omega)
    | succ n_ ih_ =>
      intro t_ y_ ls_ ht_ hy1 hy2 ho_ hn_ hl_
      refine lv_iload hx_ hb_ dX2_origin_8 (lv_at hl_ 5 rfl) ?_
      refine q_if_lt (tgt := 48) hx_ hb_ dX2_origin_10 (by decide) (⟨by omega, by omega⟩) (fun c10_ => ?_) (fun c10_ => ?_)
      · skip
        refine lv_iload hx_ hb_ dX2_origin_48 (lv_at hl_ 4 rfl) ?_
        rw [← hQe]
        exact W.iret hx_ hb_ hr (fun tt1 htt1 hWW1 => ⟨_, rfl, congrArg iI (by have e0 : t_ = 0 := (by omega); rw [e0] at ho_; exact ho_), htt1⟩) (fun q_ h_ => absurd h_ List.not_mem_nil) dX2_origin_50
      · skip
        have fb1 := hod (t_ - 1) (by omega)
        have fb2 := hB_ (od_ (t_ - 1)) fb1
        refine lv_aload_n hx_ hb_ dX2_origin_13 rfl (lv_at hl_ 0 rfl) ?_
        refine lv_iload hx_ hb_ dX2_origin_14 (lv_at hl_ 5 rfl) ?_
        refine q_cast (b := ((t_ - 1 : Nat) : Int)) (by omega) ?_
        refine ro_V (As := [.int (iI ((t_ - 1 : Nat) : Int))]) (rest := []) ⟨hx_, hb_, hml, hown, hts⟩ (c_X2_blockOfStep l_ G_ cI cZ h_ a_ b_ d_ od_ wt_ dr_ sp_ (t_ - 1) (by omega) (by omega)) (cwV 1 hts gX2_origin_X2_blockOfStep rfl rfl rfl (by decide +kernel) ⟨Nat.le_of_ble_eq_true rfl, Nat.le_of_ble_eq_true rfl⟩) (hP_.sub (ws' := [(h_, .inr (2, [.ref a_, .ref b_, .ref d_, .int (iI ((sp_ : Nat) : Int))])), (a_, .inl (cI, 48, .inl (aN od_))), (b_, .inl (cZ, 48, .inl (aB wt_))), (d_, .inl (cZ, 48, .inl (aB dr_)))]) [0, 1, 2, 3] rfl) hK_ 0 rfl rfl rfl hl_.1 rfl (Nat.le_of_ble_eq_true rfl) dX2_origin_16 ⟨Nat.zero_le _, Nat.zero_le _⟩ ?_
        refine lv_istore (lv' := [(6, .int (iI ((od_ (t_ - 1) : Nat) : Int))), (0, .ref h_), (1, .ref h2_), (2, .int (iI ((q_ : Nat) : Int))), (3, .int (iI (x_))), (4, .int (iI (y_))), (5, .int (iI (((t_ : Nat) : Int) - ((1 : Nat) : Int))))]) hx_ hb_ dX2_origin_19 hl_ (by decide) rfl (fun ls_ hl_ => ?_)
        refine lv_aload_n hx_ hb_ dX2_origin_21 rfl (lv_at hl_ 2 rfl) ?_
        refine lv_iload hx_ hb_ dX2_origin_22 (lv_at hl_ 0 rfl) ?_
        refine lv_iload hx_ hb_ dX2_origin_24 (lv_at hl_ 5 rfl) ?_
        refine ro_V (As := [.int (iI ((od_ (t_ - 1) : Nat) : Int)), .int (iI (y_))]) (rest := []) ⟨hx_, hb_, hml, hown, hts⟩ (c_X1_covers l_ G_ cI cZ h2_ a2_ b2_ d2_ k_ os_ ns_ ln_ (od_ (t_ - 1)) (y_) (by omega) (fb1) (hB_) (by omega) (by omega)) (cwV 2 hts gX2_origin_X1_covers rfl rfl rfl (by decide +kernel) ⟨Nat.le_of_ble_eq_true rfl, Nat.le_of_ble_eq_true rfl⟩) (hP_.sub (ws' := [(h2_, .inr (1, [.ref a2_, .ref b2_, .ref d2_, .int (iI ((k_ : Nat) : Int))])), (a2_, .inl (cI, 48, .inl (aN os_))), (b2_, .inl (cI, 48, .inl (aN ns_))), (d2_, .inl (cI, 48, .inl (aN ln_)))]) [4, 5, 6, 7] rfl) hK_ 0 rfl rfl rfl hl_.1 rfl (Nat.le_of_ble_eq_true rfl) dX2_origin_26 ⟨Nat.zero_le _, Nat.zero_le _⟩ ?_
        refine q_bf (tgt := 42) hx_ hb_ dX2_origin_29 (by decide) (fun c29_ => ?_) (fun c29_ => ?_)
        · skip
          refine q_iinc (k := 6) (((t_ - 1 : Nat) : Int) - ((1 : Nat) : Int)) hx_ hb_ dX2_origin_42 hl_ rfl (by omega) (by decide) (lv' := [(5, .int (iI (((t_ - 1 : Nat) : Int) - ((1 : Nat) : Int)))), (6, .int (iI ((od_ (t_ - 1) : Nat) : Int))), (0, .ref h_), (1, .ref h2_), (2, .int (iI ((q_ : Nat) : Int))), (3, .int (iI (x_))), (4, .int (iI (y_)))]) rfl (fun ls_ hl_ => ?_)
          refine lv_goto (tgt := 8) hx_ hb_ dX2_origin_45 (by decide) ?_
          exact ih_ (t_ - 1) y_ ls_ (by omega) (hy1) (hy2) (by rw [← ho_]; conv => rhs; rw [show t_ = (t_ - 1) + 1 from by omega]; unfold org; rw [if_neg (by rw [c29_]; decide)]) (by omega) (lv_sub hl_ [2, 3, 4, 5, 6, 0] rfl)
        · skip
          refine lv_aload_n hx_ hb_ dX2_origin_32 rfl (lv_at hl_ 2 rfl) ?_
          refine lv_iload hx_ hb_ dX2_origin_33 (lv_at hl_ 0 rfl) ?_
          refine lv_iload hx_ hb_ dX2_origin_35 (lv_at hl_ 5 rfl) ?_
          refine ro_V (As := [.int (iI ((od_ (t_ - 1) : Nat) : Int)), .int (iI (y_))]) (rest := []) ⟨hx_, hb_, hml, hown, hts⟩ (c_X1_oldIndex l_ G_ cI cZ h2_ a2_ b2_ d2_ k_ os_ ns_ ln_ (od_ (t_ - 1)) (y_) (by omega) (fb1)) (cwV 2 hts gX2_origin_X1_oldIndex rfl rfl rfl (by decide +kernel) ⟨Nat.le_of_ble_eq_true rfl, Nat.le_of_ble_eq_true rfl⟩) (hP_.sub (ws' := [(h2_, .inr (1, [.ref a2_, .ref b2_, .ref d2_, .int (iI ((k_ : Nat) : Int))])), (a2_, .inl (cI, 48, .inl (aN os_))), (b2_, .inl (cI, 48, .inl (aN ns_))), (d2_, .inl (cI, 48, .inl (aN ln_)))]) [4, 5, 6, 7] rfl) hK_ 0 rfl rfl rfl hl_.1 rfl (Nat.le_of_ble_eq_true rfl) dX2_origin_37 ⟨Nat.zero_le _, Nat.zero_le _⟩ ?_
          refine lv_istore (lv' := [(4, .int (iI ((y_) - ((ns_ (od_ (t_ - 1)) : Nat) : Int) + ((os_ (od_ (t_ - 1)) : Nat) : Int)))), (6, .int (iI ((od_ (t_ - 1) : Nat) : Int))), (0, .ref h_), (1, .ref h2_), (2, .int (iI ((q_ : Nat) : Int))), (3, .int (iI (x_))), (5, .int (iI (((t_ : Nat) : Int) - ((1 : Nat) : Int))))]) hx_ hb_ dX2_origin_40 hl_ (by decide) rfl (fun ls_ hl_ => ?_)
          refine q_iinc (k := 6) (((t_ - 1 : Nat) : Int) - ((1 : Nat) : Int)) hx_ hb_ dX2_origin_42 hl_ rfl (by omega) (by decide) (lv' := [(5, .int (iI (((t_ - 1 : Nat) : Int) - ((1 : Nat) : Int)))), (4, .int (iI ((y_) - ((ns_ (od_ (t_ - 1)) : Nat) : Int) + ((os_ (od_ (t_ - 1)) : Nat) : Int)))), (6, .int (iI ((od_ (t_ - 1) : Nat) : Int))), (0, .ref h_), (1, .ref h2_), (2, .int (iI ((q_ : Nat) : Int))), (3, .int (iI (x_)))]) rfl (fun ls_ hl_ => ?_)
          refine lv_goto (tgt := 8) hx_ hb_ dX2_origin_45 (by decide) ?_
          exact ih_ (t_ - 1) (((y_) - ((ns_ (od_ (t_ - 1)) : Nat) : Int) + ((os_ (od_ (t_ - 1)) : Nat) : Int))) ls_ (by omega) (by have := of_decide_eq_true c29_; omega) (by have := of_decide_eq_true c29_; omega) (by rw [← ho_]; conv => rhs; rw [show t_ = (t_ - 1) + 1 from by omega]; unfold org; rw [if_pos c29_]) (by omega) (lv_sub hl_ [3, 4, 5, 6, 1, 0] rfl)
  rw [show entryFrame m_ args 7 = entryFrame m_ ([.ref h_, .ref h2_, .int (iI ((q_ : Nat) : Int)), .int (iI (x_))] : List Value).toArray 7 from by rw [hargs], lg_entry_eq]
  have hl_ := lv_entry ([.ref h_, .ref h2_, .int (iI ((q_ : Nat) : Int)), .int (iI (x_))]) (n := 7) (Nat.le_of_ble_eq_true rfl)
  generalize (lg_sl ([.ref h_, .ref h2_, .int (iI ((q_ : Nat) : Int)), .int (iI (x_))]) ++ List.replicate (7 - (lg_sl ([.ref h_, .ref h2_, .int (iI ((q_ : Nat) : Int)), .int (iI (x_))])).length) Slot.unset).toArray = ls_ at hl_ ⊢
  have hl_ : lv_has ls_ 7 [(0, .ref h_), (1, .ref h2_), (2, .int (iI ((q_ : Nat) : Int))), (3, .int (iI (x_)))] := hl_
  refine lv_iload_n hx_ hb_ dX2_origin_0 rfl (lv_at hl_ 3 rfl) ?_
  refine lv_istore (lv' := [(4, .int (iI (x_))), (0, .ref h_), (1, .ref h2_), (2, .int (iI ((q_ : Nat) : Int))), (3, .int (iI (x_)))]) hx_ hb_ dX2_origin_1 hl_ (by decide) rfl (fun ls_ hl_ => ?_)
  refine lv_iload_n hx_ hb_ dX2_origin_3 rfl (lv_at hl_ 3 rfl) ?_
  refine lv_iconst (v := iI ((1 : Nat) : Int)) hx_ hb_ dX2_origin_4 rfl ?_
  refine q_isub hx_ hb_ dX2_origin_5 ?_
  refine lv_istore (lv' := [(5, .int (iI (((q_ : Nat) : Int) - ((1 : Nat) : Int)))), (4, .int (iI (x_))), (0, .ref h_), (1, .ref h2_), (2, .int (iI ((q_ : Nat) : Int))), (3, .int (iI (x_)))]) hx_ hb_ dX2_origin_6 hl_ (by decide) rfl (fun ls_ hl_ => ?_)
  exact lp8 (q_ + 1) q_ x_ ls_ (by omega) (by omega) (by omega) (rfl) (by omega) (lv_sub hl_ [2, 3, 4, 5, 1, 0] rfl)

set_option maxHeartbeats 4000000 in
set_option maxRecDepth 100000 in
/-- CopyOrder.isReady -/
theorem c_X2_isReady (l_ : Launch) (G_ : va_G) (cI cZ : ClassId) (h_ a_ b_ d_ : Nat) (od_ : Nat → Nat) (wt_ dr_ : Nat → Bool) (sp_ : Nat) (h2_ a2_ b2_ d2_ : Nat) (k_ : Nat) (os_ ns_ ln_ : Nat → Nat) (y_ : Nat) (hk_ : k_ ≤ 48) (hB_ : B48 k_ os_ ns_ ln_) (hy_ : y_ < k_) : Ro l_ yX2_isReady wsX2_isReady ({ frames := 3, cells := 0, slots := 0, locals := 64 }) G_ cI cZ [.ref h_, .ref h2_, .int (iI ((y_ : Nat) : Int))] (wCo cI cZ h_ a_ b_ d_ od_ wt_ dr_ sp_ ++ wBl cI h2_ a2_ b2_ d2_ k_ os_ ns_ ln_) (bZ (rdy k_ os_ ns_ ln_ wt_ y_)) := by
  refine Met.ofW (cc := cX2_isReady) (maxL := 4) (ret := (some .boolean)) (by decide) rfl ?_
  intro p_ e_ s_ m_ args below meth c_ s₁ B hml hv
  obtain ⟨hargs, hP_, hK_⟩ := hv
  have hx_ := B.exec
  have hb_ := B.bytes
  have hr := B.returns
  have hts := atoms_spec (ws := wsX2_isReady) B.pre
  have hown : s_.vm.findClass RX2 = some m_.cls := findClass_of_methodNamed B.named
  have hlocks := B.notSynchronized
  have hP_ : va_P G_ vwCl [(h_, .inr (2, [.ref a_, .ref b_, .ref d_, .int (iI ((sp_ : Nat) : Int))])), (a_, .inl (cI, 48, .inl (aN od_))), (b_, .inl (cZ, 48, .inl (aB wt_))), (d_, .inl (cZ, 48, .inl (aB dr_))), (h2_, .inr (1, [.ref a2_, .ref b2_, .ref d2_, .int (iI ((k_ : Nat) : Int))])), (a2_, .inl (cI, 48, .inl (aN os_))), (b2_, .inl (cI, 48, .inl (aN ns_))), (d2_, .inl (cI, 48, .inl (aN ln_)))] s_.heap := hP_
  generalize hQe : MQ below (vp_Si (fun r_ => r_ = iI (bZ (rdy k_ os_ ns_ ln_ wt_ y_)))) args s_ 0 0 (fun _ => False) = Q_
  have lp2 : ∀ (n_ : Nat) (i_ : Nat) (ls_ : Array Slot), (i_ ≤ k_) → (k_ + 1 ≤ i_ + n_) → (∀ j_, j_ < i_ → (wt_ j_ && mgb os_ ns_ ln_ j_ y_) = false) → lv_has ls_ 4 [(0, .ref h_), (1, .ref h2_), (2, .int (iI ((y_ : Nat) : Int))), (3, .int (iI ((i_ : Nat) : Int)))] → W p_ l_ e_ (headSpec wsX2_isReady ({ frames := 3, cells := 0, slots := 0, locals := 64 })).room s_ m_ args below meth c_ s_.heap [] 0 0 Q_ (F0 m_ 2 ls_ []) := by
    intro n_
    induction n_ with
    | zero =>
      intro i_ ls_ hi_ hn_ hno
      exact False.elim (by omega)
    | succ n_ ih_ =>
      intro i_ ls_ hi_ hn_ hno hl_
      refine lv_iload_n hx_ hb_ dX2_isReady_2 rfl (lv_at hl_ 3 rfl) ?_
      refine lv_aload_n hx_ hb_ dX2_isReady_3 rfl (lv_at hl_ 1 rfl) ?_
      refine ro_V (As := []) (rest := [.int (iI ((i_ : Nat) : Int))]) ⟨hx_, hb_, hml, hown, hts⟩ (c_X1_size l_ G_ cI cZ h2_ a2_ b2_ d2_ k_ os_ ns_ ln_) (cwV 0 hts gX2_isReady_X1_size rfl rfl rfl (by decide +kernel) ⟨Nat.le_of_ble_eq_true rfl, Nat.le_of_ble_eq_true rfl⟩) (hP_.sub (ws' := [(h2_, .inr (1, [.ref a2_, .ref b2_, .ref d2_, .int (iI ((k_ : Nat) : Int))])), (a2_, .inl (cI, 48, .inl (aN os_))), (b2_, .inl (cI, 48, .inl (aN ns_))), (d2_, .inl (cI, 48, .inl (aN ln_)))]) [4, 5, 6, 7] rfl) hK_ 0 rfl rfl rfl hl_.1 rfl (Nat.le_of_ble_eq_true rfl) dX2_isReady_4 ⟨Nat.zero_le _, Nat.zero_le _⟩ ?_
      refine q_icmp_ge (tgt := 35) hx_ hb_ dX2_isReady_7 (by decide) (⟨by omega, by omega⟩) (⟨by omega, by omega⟩) (fun c7_ => ?_) (fun c7_ => ?_)
      · skip
        refine lv_iconst (v := iI ((1 : Nat) : Int)) hx_ hb_ dX2_isReady_35 rfl ?_
        rw [← hQe]
        refine q_cast (b := bZ true) rfl ?_
        exact W.zret (v := _) hx_ hb_ hr (nar_bZ _) (fun tt1 htt1 hWW1 => ⟨_, rfl, congrArg iI (congrArg bZ ((rdy_yes (fun j_ hj_ => hno j_ (by omega))).symm)), htt1⟩) (fun q_ h_ => absurd h_ List.not_mem_nil) dX2_isReady_36
      · skip
        refine lv_aload_n hx_ hb_ dX2_isReady_10 rfl (lv_at hl_ 0 rfl) ?_
        refine lv_iload_n hx_ hb_ dX2_isReady_11 rfl (lv_at hl_ 3 rfl) ?_
        refine ro_V (As := [.int (iI ((i_ : Nat) : Int))]) (rest := []) ⟨hx_, hb_, hml, hown, hts⟩ (c_X2_waits l_ G_ cI cZ h_ a_ b_ d_ od_ wt_ dr_ sp_ i_ (by omega)) (cwV 1 hts gX2_isReady_X2_waits rfl rfl rfl (by decide +kernel) ⟨Nat.le_of_ble_eq_true rfl, Nat.le_of_ble_eq_true rfl⟩) (hP_.sub (ws' := [(h_, .inr (2, [.ref a_, .ref b_, .ref d_, .int (iI ((sp_ : Nat) : Int))])), (a_, .inl (cI, 48, .inl (aN od_))), (b_, .inl (cZ, 48, .inl (aB wt_))), (d_, .inl (cZ, 48, .inl (aB dr_)))]) [0, 1, 2, 3] rfl) hK_ 0 rfl rfl rfl hl_.1 rfl (Nat.le_of_ble_eq_true rfl) dX2_isReady_12 ⟨Nat.zero_le _, Nat.zero_le _⟩ ?_
        refine q_bf (tgt := 29) hx_ hb_ dX2_isReady_15 (by decide) (fun c15_ => ?_) (fun c15_ => ?_)
        · skip
          refine q_iinc (k := 3) ((i_ + 1 : Nat) : Int) hx_ hb_ dX2_isReady_29 hl_ rfl (rfl) (by decide) (lv' := [(3, .int (iI ((i_ + 1 : Nat) : Int))), (0, .ref h_), (1, .ref h2_), (2, .int (iI ((y_ : Nat) : Int)))]) rfl (fun ls_ hl_ => ?_)
          refine lv_goto (tgt := 2) hx_ hb_ dX2_isReady_32 (by decide) ?_
          exact ih_ (i_ + 1) ls_ (by omega) (by omega) (lt_s hno (by rw [c15_]; rfl)) (lv_sub hl_ [1, 2, 3, 0] rfl)
        · skip
          refine lv_aload_n hx_ hb_ dX2_isReady_18 rfl (lv_at hl_ 1 rfl) ?_
          refine lv_iload_n hx_ hb_ dX2_isReady_19 rfl (lv_at hl_ 3 rfl) ?_
          refine lv_iload_n hx_ hb_ dX2_isReady_20 rfl (lv_at hl_ 2 rfl) ?_
          refine ro_V (As := [.int (iI ((i_ : Nat) : Int)), .int (iI ((y_ : Nat) : Int))]) (rest := []) ⟨hx_, hb_, hml, hown, hts⟩ (c_X1_mustGoBefore l_ G_ cI cZ h2_ a2_ b2_ d2_ k_ os_ ns_ ln_ i_ y_ (by omega) (by omega) (by omega) (hB_)) (cwV 2 hts gX2_isReady_X1_mustGoBefore rfl rfl rfl (by decide +kernel) ⟨Nat.le_of_ble_eq_true rfl, Nat.le_of_ble_eq_true rfl⟩) (hP_.sub (ws' := [(h2_, .inr (1, [.ref a2_, .ref b2_, .ref d2_, .int (iI ((k_ : Nat) : Int))])), (a2_, .inl (cI, 48, .inl (aN os_))), (b2_, .inl (cI, 48, .inl (aN ns_))), (d2_, .inl (cI, 48, .inl (aN ln_)))]) [4, 5, 6, 7] rfl) hK_ 0 rfl rfl rfl hl_.1 rfl (Nat.le_of_ble_eq_true rfl) dX2_isReady_21 ⟨Nat.zero_le _, Nat.zero_le _⟩ ?_
          refine q_bf (tgt := 29) hx_ hb_ dX2_isReady_24 (by decide) (fun c24_ => ?_) (fun c24_ => ?_)
          · skip
            refine q_iinc (k := 3) ((i_ + 1 : Nat) : Int) hx_ hb_ dX2_isReady_29 hl_ rfl (rfl) (by decide) (lv' := [(3, .int (iI ((i_ + 1 : Nat) : Int))), (0, .ref h_), (1, .ref h2_), (2, .int (iI ((y_ : Nat) : Int)))]) rfl (fun ls_ hl_ => ?_)
            refine lv_goto (tgt := 2) hx_ hb_ dX2_isReady_32 (by decide) ?_
            exact ih_ (i_ + 1) ls_ (by omega) (by omega) (lt_s hno (by rw [c24_]; simp)) (lv_sub hl_ [1, 2, 3, 0] rfl)
          · skip
            refine lv_iconst (v := iI ((0 : Nat) : Int)) hx_ hb_ dX2_isReady_27 rfl ?_
            rw [← hQe]
            refine q_cast (b := bZ false) rfl ?_
            exact W.zret (v := _) hx_ hb_ hr (nar_bZ _) (fun tt1 htt1 hWW1 => ⟨_, rfl, congrArg iI (congrArg bZ ((rdy_no (by omega) c15_ c24_).symm)), htt1⟩) (fun q_ h_ => absurd h_ List.not_mem_nil) dX2_isReady_28
  rw [show entryFrame m_ args 4 = entryFrame m_ ([.ref h_, .ref h2_, .int (iI ((y_ : Nat) : Int))] : List Value).toArray 4 from by rw [hargs], lg_entry_eq]
  have hl_ := lv_entry ([.ref h_, .ref h2_, .int (iI ((y_ : Nat) : Int))]) (n := 4) (Nat.le_of_ble_eq_true rfl)
  generalize (lg_sl ([.ref h_, .ref h2_, .int (iI ((y_ : Nat) : Int))]) ++ List.replicate (4 - (lg_sl ([.ref h_, .ref h2_, .int (iI ((y_ : Nat) : Int))])).length) Slot.unset).toArray = ls_ at hl_ ⊢
  have hl_ : lv_has ls_ 4 [(0, .ref h_), (1, .ref h2_), (2, .int (iI ((y_ : Nat) : Int)))] := hl_
  refine lv_iconst (v := iI ((0 : Nat) : Int)) hx_ hb_ dX2_isReady_0 rfl ?_
  refine lv_istore_n (lv' := [(3, .int (iI ((0 : Nat) : Int))), (0, .ref h_), (1, .ref h2_), (2, .int (iI ((y_ : Nat) : Int)))]) hx_ hb_ dX2_isReady_1 rfl hl_ (by decide) rfl (fun ls_ hl_ => ?_)
  exact lp2 (k_ + 1) 0 ls_ (by omega) (by omega) (fun j_ hj_ => absurd hj_ (Nat.not_lt_zero _)) (lv_sub hl_ [1, 2, 3, 0] rfl)

set_option maxHeartbeats 4000000 in
set_option maxRecDepth 100000 in
/-- CopyOrder.firstReady -/
theorem c_X2_firstReady (l_ : Launch) (G_ : va_G) (cI cZ : ClassId) (h_ a_ b_ d_ : Nat) (od_ : Nat → Nat) (wt_ dr_ : Nat → Bool) (sp_ : Nat) (h2_ a2_ b2_ d2_ : Nat) (k_ : Nat) (os_ ns_ ln_ : Nat → Nat) (hk_ : k_ ≤ 48) (hB_ : B48 k_ os_ ns_ ln_) : Ro l_ yX2_firstReady wsX2_firstReady ({ frames := 4, cells := 0, slots := 0, locals := 87 }) G_ cI cZ [.ref h_, .ref h2_] (wCo cI cZ h_ a_ b_ d_ od_ wt_ dr_ sp_ ++ wBl cI h2_ a2_ b2_ d2_ k_ os_ ns_ ln_) (wI (frd k_ os_ ns_ ln_ wt_) k_ (-1)) := by
  refine Met.ofW (cc := cX2_firstReady) (maxL := 3) (ret := (some .int)) (by decide) rfl ?_
  intro p_ e_ s_ m_ args below meth c_ s₁ B hml hv
  obtain ⟨hargs, hP_, hK_⟩ := hv
  have hx_ := B.exec
  have hb_ := B.bytes
  have hr := B.returns
  have hts := atoms_spec (ws := wsX2_firstReady) B.pre
  have hown : s_.vm.findClass RX2 = some m_.cls := findClass_of_methodNamed B.named
  have hlocks := B.notSynchronized
  have hP_ : va_P G_ vwCl [(h_, .inr (2, [.ref a_, .ref b_, .ref d_, .int (iI ((sp_ : Nat) : Int))])), (a_, .inl (cI, 48, .inl (aN od_))), (b_, .inl (cZ, 48, .inl (aB wt_))), (d_, .inl (cZ, 48, .inl (aB dr_))), (h2_, .inr (1, [.ref a2_, .ref b2_, .ref d2_, .int (iI ((k_ : Nat) : Int))])), (a2_, .inl (cI, 48, .inl (aN os_))), (b2_, .inl (cI, 48, .inl (aN ns_))), (d2_, .inl (cI, 48, .inl (aN ln_)))] s_.heap := hP_
  generalize hQe : MQ below (vp_Si (fun r_ => r_ = iI (wI (frd k_ os_ ns_ ln_ wt_) k_ (-1)))) args s_ 0 0 (fun _ => False) = Q_
  have lp2 : ∀ (n_ : Nat) (i_ : Nat) (ls_ : Array Slot), (i_ ≤ k_) → (k_ + 1 ≤ i_ + n_) → (∀ j_, j_ < i_ → (wt_ j_ && rdy k_ os_ ns_ ln_ wt_ j_) = false) → lv_has ls_ 3 [(0, .ref h_), (1, .ref h2_), (2, .int (iI ((i_ : Nat) : Int)))] → W p_ l_ e_ (headSpec wsX2_firstReady ({ frames := 4, cells := 0, slots := 0, locals := 87 })).room s_ m_ args below meth c_ s_.heap [] 0 0 Q_ (F0 m_ 2 ls_ []) := by
    intro n_
    induction n_ with
    | zero =>
      intro i_ ls_ hi_ hn_ hno
      exact False.elim (by omega)
    | succ n_ ih_ =>
      intro i_ ls_ hi_ hn_ hno hl_
      refine lv_iload_n hx_ hb_ dX2_firstReady_2 rfl (lv_at hl_ 2 rfl) ?_
      refine lv_aload_n hx_ hb_ dX2_firstReady_3 rfl (lv_at hl_ 1 rfl) ?_
      refine ro_V (As := []) (rest := [.int (iI ((i_ : Nat) : Int))]) ⟨hx_, hb_, hml, hown, hts⟩ (c_X1_size l_ G_ cI cZ h2_ a2_ b2_ d2_ k_ os_ ns_ ln_) (cwV 0 hts gX2_firstReady_X1_size rfl rfl rfl (by decide +kernel) ⟨Nat.le_of_ble_eq_true rfl, Nat.le_of_ble_eq_true rfl⟩) (hP_.sub (ws' := [(h2_, .inr (1, [.ref a2_, .ref b2_, .ref d2_, .int (iI ((k_ : Nat) : Int))])), (a2_, .inl (cI, 48, .inl (aN os_))), (b2_, .inl (cI, 48, .inl (aN ns_))), (d2_, .inl (cI, 48, .inl (aN ln_)))]) [4, 5, 6, 7] rfl) hK_ 0 rfl rfl rfl hl_.1 rfl (Nat.le_of_ble_eq_true rfl) dX2_firstReady_4 ⟨Nat.zero_le _, Nat.zero_le _⟩ ?_
      refine q_icmp_ge (tgt := 35) hx_ hb_ dX2_firstReady_7 (by decide) (⟨by omega, by omega⟩) (⟨by omega, by omega⟩) (fun c7_ => ?_) (fun c7_ => ?_)
      · skip
        refine lv_iconst (v := iI (-1)) hx_ hb_ dX2_firstReady_35 rfl ?_
        rw [← hQe]
        exact W.iret hx_ hb_ hr (fun tt1 htt1 hWW1 => ⟨_, rfl, congrArg iI (fst_wI (Or.inl ⟨rfl, fun j_ hj_ => hno j_ (by omega)⟩)), htt1⟩) (fun q_ h_ => absurd h_ List.not_mem_nil) dX2_firstReady_36
      · skip
        refine lv_aload_n hx_ hb_ dX2_firstReady_10 rfl (lv_at hl_ 0 rfl) ?_
        refine lv_iload_n hx_ hb_ dX2_firstReady_11 rfl (lv_at hl_ 2 rfl) ?_
        refine ro_V (As := [.int (iI ((i_ : Nat) : Int))]) (rest := []) ⟨hx_, hb_, hml, hown, hts⟩ (c_X2_waits l_ G_ cI cZ h_ a_ b_ d_ od_ wt_ dr_ sp_ i_ (by omega)) (cwV 1 hts gX2_firstReady_X2_waits rfl rfl rfl (by decide +kernel) ⟨Nat.le_of_ble_eq_true rfl, Nat.le_of_ble_eq_true rfl⟩) (hP_.sub (ws' := [(h_, .inr (2, [.ref a_, .ref b_, .ref d_, .int (iI ((sp_ : Nat) : Int))])), (a_, .inl (cI, 48, .inl (aN od_))), (b_, .inl (cZ, 48, .inl (aB wt_))), (d_, .inl (cZ, 48, .inl (aB dr_)))]) [0, 1, 2, 3] rfl) hK_ 0 rfl rfl rfl hl_.1 rfl (Nat.le_of_ble_eq_true rfl) dX2_firstReady_12 ⟨Nat.zero_le _, Nat.zero_le _⟩ ?_
        refine q_bf (tgt := 29) hx_ hb_ dX2_firstReady_15 (by decide) (fun c15_ => ?_) (fun c15_ => ?_)
        · skip
          refine q_iinc (k := 2) ((i_ + 1 : Nat) : Int) hx_ hb_ dX2_firstReady_29 hl_ rfl (rfl) (by decide) (lv' := [(2, .int (iI ((i_ + 1 : Nat) : Int))), (0, .ref h_), (1, .ref h2_)]) rfl (fun ls_ hl_ => ?_)
          refine lv_goto (tgt := 2) hx_ hb_ dX2_firstReady_32 (by decide) ?_
          exact ih_ (i_ + 1) ls_ (by omega) (by omega) (lt_s hno (by rw [c15_]; rfl)) (lv_sub hl_ [1, 2, 0] rfl)
        · skip
          refine lv_aload_n hx_ hb_ dX2_firstReady_18 rfl (lv_at hl_ 0 rfl) ?_
          refine lv_aload_n hx_ hb_ dX2_firstReady_19 rfl (lv_at hl_ 1 rfl) ?_
          refine lv_iload_n hx_ hb_ dX2_firstReady_20 rfl (lv_at hl_ 2 rfl) ?_
          refine ro_V (As := [.ref h2_, .int (iI ((i_ : Nat) : Int))]) (rest := []) ⟨hx_, hb_, hml, hown, hts⟩ (c_X2_isReady l_ G_ cI cZ h_ a_ b_ d_ od_ wt_ dr_ sp_ h2_ a2_ b2_ d2_ k_ os_ ns_ ln_ i_ (by omega) (hB_) (by omega)) (cwV 2 hts gX2_firstReady_X2_isReady rfl rfl rfl (by decide +kernel) ⟨Nat.le_of_ble_eq_true rfl, Nat.le_of_ble_eq_true rfl⟩) (hP_.sub (ws' := [(h_, .inr (2, [.ref a_, .ref b_, .ref d_, .int (iI ((sp_ : Nat) : Int))])), (a_, .inl (cI, 48, .inl (aN od_))), (b_, .inl (cZ, 48, .inl (aB wt_))), (d_, .inl (cZ, 48, .inl (aB dr_))), (h2_, .inr (1, [.ref a2_, .ref b2_, .ref d2_, .int (iI ((k_ : Nat) : Int))])), (a2_, .inl (cI, 48, .inl (aN os_))), (b2_, .inl (cI, 48, .inl (aN ns_))), (d2_, .inl (cI, 48, .inl (aN ln_)))]) [0, 1, 2, 3, 4, 5, 6, 7] rfl) hK_ 0 rfl rfl rfl hl_.1 rfl (Nat.le_of_ble_eq_true rfl) dX2_firstReady_21 ⟨Nat.zero_le _, Nat.zero_le _⟩ ?_
          refine q_bf (tgt := 29) hx_ hb_ dX2_firstReady_24 (by decide) (fun c24_ => ?_) (fun c24_ => ?_)
          · skip
            refine q_iinc (k := 2) ((i_ + 1 : Nat) : Int) hx_ hb_ dX2_firstReady_29 hl_ rfl (rfl) (by decide) (lv' := [(2, .int (iI ((i_ + 1 : Nat) : Int))), (0, .ref h_), (1, .ref h2_)]) rfl (fun ls_ hl_ => ?_)
            refine lv_goto (tgt := 2) hx_ hb_ dX2_firstReady_32 (by decide) ?_
            exact ih_ (i_ + 1) ls_ (by omega) (by omega) (lt_s hno (by rw [c24_]; simp)) (lv_sub hl_ [1, 2, 0] rfl)
          · skip
            refine lv_iload_n hx_ hb_ dX2_firstReady_27 rfl (lv_at hl_ 2 rfl) ?_
            rw [← hQe]
            exact W.iret hx_ hb_ hr (fun tt1 htt1 hWW1 => ⟨_, rfl, congrArg iI (fst_wI (Or.inr ⟨i_, by omega, by rw [c15_, c24_]; rfl, hno, rfl⟩)), htt1⟩) (fun q_ h_ => absurd h_ List.not_mem_nil) dX2_firstReady_28
  rw [show entryFrame m_ args 3 = entryFrame m_ ([.ref h_, .ref h2_] : List Value).toArray 3 from by rw [hargs], lg_entry_eq]
  have hl_ := lv_entry ([.ref h_, .ref h2_]) (n := 3) (Nat.le_of_ble_eq_true rfl)
  generalize (lg_sl ([.ref h_, .ref h2_]) ++ List.replicate (3 - (lg_sl ([.ref h_, .ref h2_])).length) Slot.unset).toArray = ls_ at hl_ ⊢
  have hl_ : lv_has ls_ 3 [(0, .ref h_), (1, .ref h2_)] := hl_
  refine lv_iconst (v := iI ((0 : Nat) : Int)) hx_ hb_ dX2_firstReady_0 rfl ?_
  refine lv_istore_n (lv' := [(2, .int (iI ((0 : Nat) : Int))), (0, .ref h_), (1, .ref h2_)]) hx_ hb_ dX2_firstReady_1 rfl hl_ (by decide) rfl (fun ls_ hl_ => ?_)
  exact lp2 (k_ + 1) 0 ls_ (by omega) (by omega) (fun j_ hj_ => absurd hj_ (Nat.not_lt_zero _)) (lv_sub hl_ [1, 2, 0] rfl)

set_option maxHeartbeats 4000000 in
set_option maxRecDepth 100000 in
/-- CopyOrder.shortestWaiting -/
theorem c_X2_shortestWaiting (l_ : Launch) (G_ : va_G) (cI cZ : ClassId) (h_ a_ b_ d_ : Nat) (od_ : Nat → Nat) (wt_ dr_ : Nat → Bool) (sp_ : Nat) (h2_ a2_ b2_ d2_ : Nat) (k_ : Nat) (os_ ns_ ln_ : Nat → Nat) (hk_ : k_ ≤ 48) (hB_ : B48 k_ os_ ns_ ln_) : Ro l_ yX2_shortestWaiting wsX2_shortestWaiting ({ frames := 2, cells := 0, slots := 0, locals := 42 }) G_ cI cZ [.ref h_, .ref h2_] (wCo cI cZ h_ a_ b_ d_ od_ wt_ dr_ sp_ ++ wBl cI h2_ a2_ b2_ d2_ k_ os_ ns_ ln_) (oV (-1) (shw k_ ln_ wt_)) := by
  refine Met.ofW (cc := cX2_shortestWaiting) (maxL := 4) (ret := (some .int)) (by decide) rfl ?_
  intro p_ e_ s_ m_ args below meth c_ s₁ B hml hv
  obtain ⟨hargs, hP_, hK_⟩ := hv
  have hx_ := B.exec
  have hb_ := B.bytes
  have hr := B.returns
  have hts := atoms_spec (ws := wsX2_shortestWaiting) B.pre
  have hown : s_.vm.findClass RX2 = some m_.cls := findClass_of_methodNamed B.named
  have hlocks := B.notSynchronized
  have hP_ : va_P G_ vwCl [(h_, .inr (2, [.ref a_, .ref b_, .ref d_, .int (iI ((sp_ : Nat) : Int))])), (a_, .inl (cI, 48, .inl (aN od_))), (b_, .inl (cZ, 48, .inl (aB wt_))), (d_, .inl (cZ, 48, .inl (aB dr_))), (h2_, .inr (1, [.ref a2_, .ref b2_, .ref d2_, .int (iI ((k_ : Nat) : Int))])), (a2_, .inl (cI, 48, .inl (aN os_))), (b2_, .inl (cI, 48, .inl (aN ns_))), (d2_, .inl (cI, 48, .inl (aN ln_)))] s_.heap := hP_
  generalize hQe : MQ below (vp_Si (fun r_ => r_ = iI (oV (-1) (shw k_ ln_ wt_)))) args s_ 0 0 (fun _ => False) = Q_
  have lp4 : ∀ (n_ : Nat) (i_ : Nat) (gz : Int) (ls_ : Array Slot), (i_ ≤ k_) → (k_ + 1 ≤ i_ + n_) → (gz = oV (-1) (shw i_ ln_ wt_)) → lv_has ls_ 4 [(0, .ref h_), (1, .ref h2_), (2, .int (iI (gz))), (3, .int (iI ((i_ : Nat) : Int)))] → W p_ l_ e_ (headSpec wsX2_shortestWaiting ({ frames := 2, cells := 0, slots := 0, locals := 42 })).room s_ m_ args below meth c_ s_.heap [] 0 0 Q_ (F0 m_ 4 ls_ []) := by
    intro n_
    induction n_ with
    | zero =>
      intro i_ gz ls_ hi_ hn_ hg_
      exact False.elim (by omega)
    | succ n_ ih_ =>
      intro i_ gz ls_ hi_ hn_ hg_ hl_
      have hgr : -1 ≤ gz ∧ gz < 49 := by rw [hg_]; cases h_ : shw i_ ln_ wt_ with | none => exact ⟨by decide, by decide⟩ | some g_ => exact ⟨by show (-1 : Int) ≤ (g_ : Int); omega, by have := (bst_lt h_).1; show (g_ : Int) < 49; omega⟩
      refine lv_iload_n hx_ hb_ dX2_shortestWaiting_4 rfl (lv_at hl_ 3 rfl) ?_
      refine lv_aload_n hx_ hb_ dX2_shortestWaiting_5 rfl (lv_at hl_ 1 rfl) ?_
      refine ro_V (As := []) (rest := [.int (iI ((i_ : Nat) : Int))]) ⟨hx_, hb_, hml, hown, hts⟩ (c_X1_size l_ G_ cI cZ h2_ a2_ b2_ d2_ k_ os_ ns_ ln_) (cwV 0 hts gX2_shortestWaiting_X1_size rfl rfl rfl (by decide +kernel) ⟨Nat.le_of_ble_eq_true rfl, Nat.le_of_ble_eq_true rfl⟩) (hP_.sub (ws' := [(h2_, .inr (1, [.ref a2_, .ref b2_, .ref d2_, .int (iI ((k_ : Nat) : Int))])), (a2_, .inl (cI, 48, .inl (aN os_))), (b2_, .inl (cI, 48, .inl (aN ns_))), (d2_, .inl (cI, 48, .inl (aN ln_)))]) [4, 5, 6, 7] rfl) hK_ 0 rfl rfl rfl hl_.1 rfl (Nat.le_of_ble_eq_true rfl) dX2_shortestWaiting_6 ⟨Nat.zero_le _, Nat.zero_le _⟩ ?_
      refine q_icmp_ge (tgt := 46) hx_ hb_ dX2_shortestWaiting_9 (by decide) (⟨by omega, by omega⟩) (⟨by omega, by omega⟩) (fun c9_ => ?_) (fun c9_ => ?_)
      · skip
        have hik : i_ = k_ := by omega
        rw [hik] at hg_
        refine lv_iload_n hx_ hb_ dX2_shortestWaiting_46 rfl (lv_at hl_ 2 rfl) ?_
        rw [← hQe]
        exact W.iret hx_ hb_ hr (fun tt1 htt1 hWW1 => ⟨_, rfl, congrArg iI (hg_), htt1⟩) (fun q_ h_ => absurd h_ List.not_mem_nil) dX2_shortestWaiting_47
      · skip
        have fb1 := hB_ i_ (by omega)
        refine lv_aload_n hx_ hb_ dX2_shortestWaiting_12 rfl (lv_at hl_ 0 rfl) ?_
        refine lv_iload_n hx_ hb_ dX2_shortestWaiting_13 rfl (lv_at hl_ 3 rfl) ?_
        refine ro_V (As := [.int (iI ((i_ : Nat) : Int))]) (rest := []) ⟨hx_, hb_, hml, hown, hts⟩ (c_X2_waits l_ G_ cI cZ h_ a_ b_ d_ od_ wt_ dr_ sp_ i_ (by omega)) (cwV 1 hts gX2_shortestWaiting_X2_waits rfl rfl rfl (by decide +kernel) ⟨Nat.le_of_ble_eq_true rfl, Nat.le_of_ble_eq_true rfl⟩) (hP_.sub (ws' := [(h_, .inr (2, [.ref a_, .ref b_, .ref d_, .int (iI ((sp_ : Nat) : Int))])), (a_, .inl (cI, 48, .inl (aN od_))), (b_, .inl (cZ, 48, .inl (aB wt_))), (d_, .inl (cZ, 48, .inl (aB dr_)))]) [0, 1, 2, 3] rfl) hK_ 0 rfl rfl rfl hl_.1 rfl (Nat.le_of_ble_eq_true rfl) dX2_shortestWaiting_14 ⟨Nat.zero_le _, Nat.zero_le _⟩ ?_
        refine q_bf (tgt := 40) hx_ hb_ dX2_shortestWaiting_17 (by decide) (fun c17_ => ?_) (fun c17_ => ?_)
        · skip
          refine q_iinc (k := 3) ((i_ + 1 : Nat) : Int) hx_ hb_ dX2_shortestWaiting_40 hl_ rfl (rfl) (by decide) (lv' := [(3, .int (iI ((i_ + 1 : Nat) : Int))), (0, .ref h_), (1, .ref h2_), (2, .int (iI (gz)))]) rfl (fun ls_ hl_ => ?_)
          refine lv_goto (tgt := 4) hx_ hb_ dX2_shortestWaiting_43 (by decide) ?_
          exact ih_ (i_ + 1) ((gz)) ls_ (by omega) (by omega) (by rw [hg_]; unfold shw; rw [bst_skip c17_]) (lv_sub hl_ [1, 2, 3, 0] rfl)
        · skip
          refine lv_iload_n hx_ hb_ dX2_shortestWaiting_20 rfl (lv_at hl_ 2 rfl) ?_
          refine lv_iconst (v := iI (-1)) hx_ hb_ dX2_shortestWaiting_21 rfl ?_
          refine q_icmp_eq (tgt := 38) hx_ hb_ dX2_shortestWaiting_22 (by decide) (⟨by omega, by omega⟩) (⟨by decide, by decide⟩) (fun c22_ => ?_) (fun c22_ => ?_)
          · skip
            refine lv_iload_n hx_ hb_ dX2_shortestWaiting_38 rfl (lv_at hl_ 3 rfl) ?_
            refine lv_istore_n (lv' := [(2, .int (iI ((i_ : Nat) : Int))), (0, .ref h_), (1, .ref h2_), (3, .int (iI ((i_ : Nat) : Int)))]) hx_ hb_ dX2_shortestWaiting_39 rfl hl_ (by decide) rfl (fun ls_ hl_ => ?_)
            refine q_iinc (k := 3) ((i_ + 1 : Nat) : Int) hx_ hb_ dX2_shortestWaiting_40 hl_ rfl (rfl) (by decide) (lv' := [(3, .int (iI ((i_ + 1 : Nat) : Int))), (2, .int (iI ((i_ : Nat) : Int))), (0, .ref h_), (1, .ref h2_)]) rfl (fun ls_ hl_ => ?_)
            refine lv_goto (tgt := 4) hx_ hb_ dX2_shortestWaiting_43 (by decide) ?_
            exact ih_ (i_ + 1) (((i_ : Nat) : Int)) ls_ (by omega) (by omega) (by unfold shw; rw [bst_ns (oV_none (by decide) (hg_.symm.trans c22_)) c17_]; rfl) (lv_sub hl_ [2, 3, 1, 0] rfl)
          · skip
            obtain ⟨g_, hgs, hgz⟩ : ∃ g_, shw i_ ln_ wt_ = some g_ ∧ gz = (g_ : Int) := by rw [hg_] at c22_; obtain ⟨g_, h1_, h2_⟩ := oV_some c22_; exact ⟨g_, h1_, by rw [hg_, h2_]⟩
            have hgl := (bst_lt hgs).1
            subst hgz
            have fb3 := hB_ g_ (by omega)
            refine lv_aload_n hx_ hb_ dX2_shortestWaiting_25 rfl (lv_at hl_ 1 rfl) ?_
            refine lv_iload_n hx_ hb_ dX2_shortestWaiting_26 rfl (lv_at hl_ 3 rfl) ?_
            refine ro_V (As := [.int (iI ((i_ : Nat) : Int))]) (rest := []) ⟨hx_, hb_, hml, hown, hts⟩ (c_X1_length l_ G_ cI cZ h2_ a2_ b2_ d2_ k_ os_ ns_ ln_ i_ (by omega) (by omega)) (cwV 1 hts gX2_shortestWaiting_X1_length rfl rfl rfl (by decide +kernel) ⟨Nat.le_of_ble_eq_true rfl, Nat.le_of_ble_eq_true rfl⟩) (hP_.sub (ws' := [(h2_, .inr (1, [.ref a2_, .ref b2_, .ref d2_, .int (iI ((k_ : Nat) : Int))])), (a2_, .inl (cI, 48, .inl (aN os_))), (b2_, .inl (cI, 48, .inl (aN ns_))), (d2_, .inl (cI, 48, .inl (aN ln_)))]) [4, 5, 6, 7] rfl) hK_ 0 rfl rfl rfl hl_.1 rfl (Nat.le_of_ble_eq_true rfl) dX2_shortestWaiting_27 ⟨Nat.zero_le _, Nat.zero_le _⟩ ?_
            refine lv_aload_n hx_ hb_ dX2_shortestWaiting_30 rfl (lv_at hl_ 1 rfl) ?_
            refine lv_iload_n hx_ hb_ dX2_shortestWaiting_31 rfl (lv_at hl_ 2 rfl) ?_
            refine ro_V (As := [.int (iI ((g_ : Nat) : Int))]) (rest := [.int (iI ((ln_ i_ : Nat) : Int))]) ⟨hx_, hb_, hml, hown, hts⟩ (c_X1_length l_ G_ cI cZ h2_ a2_ b2_ d2_ k_ os_ ns_ ln_ g_ (by omega) (by omega)) (cwV 1 hts gX2_shortestWaiting_X1_length rfl rfl rfl (by decide +kernel) ⟨Nat.le_of_ble_eq_true rfl, Nat.le_of_ble_eq_true rfl⟩) (hP_.sub (ws' := [(h2_, .inr (1, [.ref a2_, .ref b2_, .ref d2_, .int (iI ((k_ : Nat) : Int))])), (a2_, .inl (cI, 48, .inl (aN os_))), (b2_, .inl (cI, 48, .inl (aN ns_))), (d2_, .inl (cI, 48, .inl (aN ln_)))]) [4, 5, 6, 7] rfl) hK_ 0 rfl rfl rfl hl_.1 rfl (Nat.le_of_ble_eq_true rfl) dX2_shortestWaiting_32 ⟨Nat.zero_le _, Nat.zero_le _⟩ ?_
            refine q_icmp_ge (tgt := 40) hx_ hb_ dX2_shortestWaiting_35 (by decide) (⟨by omega, by omega⟩) (⟨by omega, by omega⟩) (fun c35_ => ?_) (fun c35_ => ?_)
            · skip
              refine q_iinc (k := 3) ((i_ + 1 : Nat) : Int) hx_ hb_ dX2_shortestWaiting_40 hl_ rfl (rfl) (by decide) (lv' := [(3, .int (iI ((i_ + 1 : Nat) : Int))), (0, .ref h_), (1, .ref h2_), (2, .int (iI ((g_ : Nat) : Int)))]) rfl (fun ls_ hl_ => ?_)
              refine lv_goto (tgt := 4) hx_ hb_ dX2_shortestWaiting_43 (by decide) ?_
              exact ih_ (i_ + 1) (((g_ : Nat) : Int)) ls_ (by omega) (by omega) (by unfold shw; rw [bst_sk hgs (decide_eq_false (by omega))]; rfl) (lv_sub hl_ [1, 2, 3, 0] rfl)
            · skip
              refine lv_iload_n hx_ hb_ dX2_shortestWaiting_38 rfl (lv_at hl_ 3 rfl) ?_
              refine lv_istore_n (lv' := [(2, .int (iI ((i_ : Nat) : Int))), (0, .ref h_), (1, .ref h2_), (3, .int (iI ((i_ : Nat) : Int)))]) hx_ hb_ dX2_shortestWaiting_39 rfl hl_ (by decide) rfl (fun ls_ hl_ => ?_)
              refine q_iinc (k := 3) ((i_ + 1 : Nat) : Int) hx_ hb_ dX2_shortestWaiting_40 hl_ rfl (rfl) (by decide) (lv' := [(3, .int (iI ((i_ + 1 : Nat) : Int))), (2, .int (iI ((i_ : Nat) : Int))), (0, .ref h_), (1, .ref h2_)]) rfl (fun ls_ hl_ => ?_)
              refine lv_goto (tgt := 4) hx_ hb_ dX2_shortestWaiting_43 (by decide) ?_
              exact ih_ (i_ + 1) (((i_ : Nat) : Int)) ls_ (by omega) (by omega) (by unfold shw; rw [bst_ss hgs c17_ (decide_eq_true (by omega))]; rfl) (lv_sub hl_ [2, 3, 1, 0] rfl)
  rw [show entryFrame m_ args 4 = entryFrame m_ ([.ref h_, .ref h2_] : List Value).toArray 4 from by rw [hargs], lg_entry_eq]
  have hl_ := lv_entry ([.ref h_, .ref h2_]) (n := 4) (Nat.le_of_ble_eq_true rfl)
  generalize (lg_sl ([.ref h_, .ref h2_]) ++ List.replicate (4 - (lg_sl ([.ref h_, .ref h2_])).length) Slot.unset).toArray = ls_ at hl_ ⊢
  have hl_ : lv_has ls_ 4 [(0, .ref h_), (1, .ref h2_)] := hl_
  refine lv_iconst (v := iI (-1)) hx_ hb_ dX2_shortestWaiting_0 rfl ?_
  refine lv_istore_n (lv' := [(2, .int (iI (-1))), (0, .ref h_), (1, .ref h2_)]) hx_ hb_ dX2_shortestWaiting_1 rfl hl_ (by decide) rfl (fun ls_ hl_ => ?_)
  refine lv_iconst (v := iI ((0 : Nat) : Int)) hx_ hb_ dX2_shortestWaiting_2 rfl ?_
  refine lv_istore_n (lv' := [(3, .int (iI ((0 : Nat) : Int))), (2, .int (iI (-1))), (0, .ref h_), (1, .ref h2_)]) hx_ hb_ dX2_shortestWaiting_3 rfl hl_ (by decide) rfl (fun ls_ hl_ => ?_)
  exact lp4 (k_ + 1) 0 (-1) ls_ (by omega) (by omega) (rfl) (lv_sub hl_ [2, 3, 1, 0] rfl)

set_option maxHeartbeats 4000000 in
set_option maxRecDepth 100000 in
/-- CopyOrder.copy -/
theorem c_X2_copy (l_ : Launch) (G_ : va_G) (cI cZ : ClassId) (h_ a_ b_ d_ : Nat) (od_ : Nat → Nat) (wt_ dr_ : Nat → Bool) (sp_ : Nat) (j_ : Nat) (hj_ : j_ < 48) (hw_ : wt_ j_ = true) (hs_ : sp_ < 48) (sz : Nat) : Wr (S := Unit) l_ yX2_copy wsX2_copy ({ frames := 1, cells := 0, slots := 0, locals := 21 }) G_ cI cZ [.ref h_, .int (iI ((j_ : Nat) : Int))] (wCo cI cZ h_ a_ b_ d_ od_ wt_ dr_ sp_) sz (fun _ => True) (fun _ => wCo cI cZ h_ a_ b_ d_ (va_up od_ sp_ j_) (va_up wt_ j_ false) dr_ (sp_ + 1)) := by
  refine Met.ofW (cc := cX2_copy) (maxL := 2) (ret := (none)) (by decide) rfl ?_
  intro p_ e_ s_ m_ args below meth c_ s₁ B hml hv
  obtain ⟨hargs, hsz, hP_, hK_, hD0⟩ := hv
  have hx_ := B.exec
  have hb_ := B.bytes
  have hr := B.returns
  have hts := atoms_spec (ws := wsX2_copy) B.pre
  have hown : s_.vm.findClass RX2 = some m_.cls := findClass_of_methodNamed B.named
  have hlocks := B.notSynchronized
  have hi2_ : ∀ w_ ∈ wsX20, w_ ∈ wsX2_copy := by decide +kernel
  have hf9_ := hts (.fieldLink RX2 9 "RelocatingPatch$CopyOrder" "order" "[I") (by decide +kernel)
  have hf15_ := hts (.fieldLink RX2 15 "RelocatingPatch$CopyOrder" "waiting" "[Z") (by decide +kernel)
  have hf22_ := hts (.fieldLink RX2 22 "RelocatingPatch$CopyOrder" "steps" "I") (by decide +kernel)
  subst hsz
  have hD_ := hD0.self (sz := s_.heap.size)
  generalize hAe : va_A (wCo cI cZ h_ a_ b_ d_ od_ wt_ dr_ sp_) s_.heap.size = A_ at hD_ ⊢
  have hA_ : ∀ q_ : Nat, s_.heap.size ≤ q_ → A_ q_ := fun q_ h_ => by rw [← hAe]; exact Or.inr h_
  have hS_ : va_S A_ s_.heap s_.heap [] := va_S.rf
  have hP_ : va_P G_ vwCl [(h_, .inr (2, [.ref a_, .ref b_, .ref d_, .int (iI ((sp_ : Nat) : Int))])), (a_, .inl (cI, 48, .inl (aN od_))), (b_, .inl (cZ, 48, .inl (aB wt_))), (d_, .inl (cZ, 48, .inl (aB dr_)))] s_.heap := hP_
  have hD_ : va_D A_ [(h_, .inr (2, [.ref a_, .ref b_, .ref d_, .int (iI ((sp_ : Nat) : Int))])), (a_, .inl (cI, 48, .inl (aN od_))), (b_, .inl (cZ, 48, .inl (aB wt_))), (d_, .inl (cZ, 48, .inl (aB dr_)))] := hD_
  generalize hQe : MQ below (va_Qv (S := Unit) (fun _ => True) (fun u1 t1 => va_P G_ vwCl ((fun _ => wCo cI cZ h_ a_ b_ d_ (va_up od_ sp_ j_) (va_up wt_ j_ false) dr_ (sp_ + 1)) u1) t1.heap) A_) args s_ 0 0 A_ = Q_
  rw [show entryFrame m_ args 2 = entryFrame m_ ([.ref h_, .int (iI ((j_ : Nat) : Int))] : List Value).toArray 2 from by rw [hargs], lg_entry_eq]
  have hl_ := lv_entry ([.ref h_, .int (iI ((j_ : Nat) : Int))]) (n := 2) (Nat.le_of_ble_eq_true rfl)
  generalize (lg_sl ([.ref h_, .int (iI ((j_ : Nat) : Int))]) ++ List.replicate (2 - (lg_sl ([.ref h_, .int (iI ((j_ : Nat) : Int))])).length) Slot.unset).toArray = ls_ at hl_ ⊢
  have hl_ : lv_has ls_ 2 [(0, .ref h_), (1, .int (iI ((j_ : Nat) : Int)))] := hl_
  refine lv_aload_n hx_ hb_ dX2_copy_0 rfl (lv_at hl_ 0 rfl) ?_
  refine lv_iload_n hx_ hb_ dX2_copy_1 rfl (lv_at hl_ 1 rfl) ?_
  refine ro_V (As := [.int (iI ((j_ : Nat) : Int))]) (rest := []) ⟨hx_, hb_, hml, hown, hts⟩ (c_X2_waits l_ G_ cI cZ h_ a_ b_ d_ od_ wt_ dr_ sp_ j_ (by omega)) (cwV 1 hts gX2_copy_X2_waits rfl rfl rfl (by decide +kernel) ⟨Nat.le_of_ble_eq_true rfl, Nat.le_of_ble_eq_true rfl⟩) (hP_.sub (ws' := [(h_, .inr (2, [.ref a_, .ref b_, .ref d_, .int (iI ((sp_ : Nat) : Int))])), (a_, .inl (cI, 48, .inl (aN od_))), (b_, .inl (cZ, 48, .inl (aB wt_))), (d_, .inl (cZ, 48, .inl (aB dr_)))]) [0, 1, 2, 3] rfl) hK_ 0 rfl rfl rfl hl_.1 rfl (Nat.le_of_ble_eq_true rfl) dX2_copy_2 ⟨Nat.zero_le _, Nat.zero_le _⟩ ?_
  refine q_bf (tgt := 44) hx_ hb_ dX2_copy_5 (by decide) (fun c5_ => absurd c5_ (by rw [hw_]; decide)) (fun c5_ => ?_)
  refine lv_aload_n hx_ hb_ dX2_copy_8 rfl (lv_at hl_ 0 rfl) ?_
  refine va_get (D := G_) (ci := 2) (v := .int (iI ((sp_ : Nat) : Int))) (C := RX2) (T := TX2) (N := 4) hx_ hb_ hts hi2_ hown hK_ hP_ 0 rfl rfl 3 (by decide) hf22_ (fun _ h9 => h9) rfl dX2_copy_9 ?_
  refine lv_bipush (v := iI ((48 : Nat) : Int)) hx_ hb_ dX2_copy_12 rfl ?_
  refine q_icmp_ge (tgt := 44) hx_ hb_ dX2_copy_14 (by decide) (⟨by omega, by omega⟩) (⟨by decide, by decide⟩) (fun c14_ => absurd c14_ (by omega)) (fun c14_ => ?_)
  refine lv_aload_n hx_ hb_ dX2_copy_17 rfl (lv_at hl_ 0 rfl) ?_
  refine va_get (D := G_) (ci := 2) (v := .ref b_) (C := RX2) (T := TX2) (N := 4) hx_ hb_ hts hi2_ hown hK_ hP_ 0 rfl rfl 1 (by decide) hf15_ (fun _ h9 => h9) rfl dX2_copy_18 ?_
  refine lv_iload_n hx_ hb_ dX2_copy_21 rfl (lv_at hl_ 1 rfl) ?_
  refine lv_iconst (v := iI ((0 : Nat) : Int)) hx_ hb_ dX2_copy_22 rfl ?_
  refine q_cast (b := bZ (false)) rfl ?_
  refine q_zst hx_ hb_ hK_ hP_ hD_ hS_ 2 rfl (by decide) (j_) (by omega) (false) dX2_copy_23 (ws' := [(h_, .inr (2, [.ref a_, .ref b_, .ref d_, .int (iI ((sp_ : Nat) : Int))])), (a_, .inl (cI, 48, .inl (aN od_))), (b_, .inl (cZ, 48, .inl (aB (va_up wt_ j_ false)))), (d_, .inl (cZ, 48, .inl (aB dr_)))]) rfl (fun H_ locs hP_ hD_ hS_ => ?_)
  refine lv_aload_n hx_ hb_ dX2_copy_24 rfl (lv_at hl_ 0 rfl) ?_
  refine va_get (D := G_) (ci := 2) (v := .ref a_) (C := RX2) (T := TX2) (N := 4) hx_ hb_ hts hi2_ hown hK_ hP_ 0 rfl rfl 0 (by decide) hf9_ (fun _ h9 => h9) rfl dX2_copy_25 ?_
  refine lv_aload_n hx_ hb_ dX2_copy_28 rfl (lv_at hl_ 0 rfl) ?_
  refine va_get (D := G_) (ci := 2) (v := .int (iI ((sp_ : Nat) : Int))) (C := RX2) (T := TX2) (N := 4) hx_ hb_ hts hi2_ hown hK_ hP_ 0 rfl rfl 3 (by decide) hf22_ (fun _ h9 => h9) rfl dX2_copy_29 ?_
  refine lv_iload_n hx_ hb_ dX2_copy_32 rfl (lv_at hl_ 1 rfl) ?_
  refine q_istN hx_ hb_ hK_ hP_ hD_ hS_ 1 rfl (by decide) (sp_) (by omega) (j_) dX2_copy_33 (ws' := [(h_, .inr (2, [.ref a_, .ref b_, .ref d_, .int (iI ((sp_ : Nat) : Int))])), (a_, .inl (cI, 48, .inl (aN (va_up od_ sp_ j_)))), (b_, .inl (cZ, 48, .inl (aB (va_up wt_ j_ false)))), (d_, .inl (cZ, 48, .inl (aB dr_)))]) rfl (fun H_ locs hP_ hD_ hS_ => ?_)
  refine lv_aload_n hx_ hb_ dX2_copy_34 rfl (lv_at hl_ 0 rfl) ?_
  refine lv_dup hx_ hb_ dX2_copy_35 rfl ?_
  refine va_get (D := G_) (ci := 2) (v := .int (iI ((sp_ : Nat) : Int))) (C := RX2) (T := TX2) (N := 4) hx_ hb_ hts hi2_ hown hK_ hP_ 0 rfl rfl 3 (by decide) hf22_ (fun _ h9 => h9) rfl dX2_copy_36 ?_
  refine lv_iconst (v := iI ((1 : Nat) : Int)) hx_ hb_ dX2_copy_39 rfl ?_
  refine q_iaddN hx_ hb_ dX2_copy_40 ?_
  refine va_put (D := G_) (ci := 2) (v := .int (iI ((sp_ + 1 : Nat) : Int))) (ty := .int) (C := RX2) (T := TX2) (N := 4) hx_ hb_ hts hi2_ tyX2 tyX2_ok nmX2 hown hK_ hP_ hD_ hS_ 0 rfl rfl 3 (by decide) hf22_ (fun _ h9 => h9) rfl (by decide +kernel) rfl rfl (Nat.le_of_ble_eq_true rfl) dX2_copy_41 (fun H_ locs hP_ hD_ hS_ => ?_)
  have hP_ : va_P G_ vwCl [(h_, .inr (2, [.ref a_, .ref b_, .ref d_, .int (iI ((sp_ + 1 : Nat) : Int))])), (a_, .inl (cI, 48, .inl (aN (va_up od_ sp_ j_)))), (b_, .inl (cZ, 48, .inl (aB (va_up wt_ j_ false)))), (d_, .inl (cZ, 48, .inl (aB dr_)))] H_ := hP_
  have hD_ : va_D A_ [(h_, .inr (2, [.ref a_, .ref b_, .ref d_, .int (iI ((sp_ + 1 : Nat) : Int))])), (a_, .inl (cI, 48, .inl (aN (va_up od_ sp_ j_)))), (b_, .inl (cZ, 48, .inl (aB (va_up wt_ j_ false)))), (d_, .inl (cZ, 48, .inl (aB dr_)))] := hD_
  rw [← hQe]
  exact W.vret hx_ hb_ hr (fun tt1 htt1 hWW1 => ⟨⟨(), rfl, trivial, by show va_P G_ vwCl _ tt1.heap; rw [htt1]; exact hP_⟩, hS_.F htt1⟩) hS_.2.2 dX2_copy_44

set_option maxHeartbeats 4000000 in
set_option maxRecDepth 100000 in
/-- CopyOrder.drop -/
theorem c_X2_drop (l_ : Launch) (G_ : va_G) (cI cZ : ClassId) (h_ a_ b_ d_ : Nat) (od_ : Nat → Nat) (wt_ dr_ : Nat → Bool) (sp_ : Nat) (j_ : Nat) (hj_ : j_ < 48) (hw_ : wt_ j_ = true) (sz : Nat) : Wr (S := Unit) l_ yX2_drop wsX2_drop ({ frames := 1, cells := 0, slots := 0, locals := 21 }) G_ cI cZ [.ref h_, .int (iI ((j_ : Nat) : Int))] (wCo cI cZ h_ a_ b_ d_ od_ wt_ dr_ sp_) sz (fun _ => True) (fun _ => wCo cI cZ h_ a_ b_ d_ od_ (va_up wt_ j_ false) (va_up dr_ j_ true) sp_) := by
  refine Met.ofW (cc := cX2_drop) (maxL := 2) (ret := (none)) (by decide) rfl ?_
  intro p_ e_ s_ m_ args below meth c_ s₁ B hml hv
  obtain ⟨hargs, hsz, hP_, hK_, hD0⟩ := hv
  have hx_ := B.exec
  have hb_ := B.bytes
  have hr := B.returns
  have hts := atoms_spec (ws := wsX2_drop) B.pre
  have hown : s_.vm.findClass RX2 = some m_.cls := findClass_of_methodNamed B.named
  have hlocks := B.notSynchronized
  have hi2_ : ∀ w_ ∈ wsX20, w_ ∈ wsX2_drop := by decide +kernel
  have hf15_ := hts (.fieldLink RX2 15 "RelocatingPatch$CopyOrder" "waiting" "[Z") (by decide +kernel)
  have hf19_ := hts (.fieldLink RX2 19 "RelocatingPatch$CopyOrder" "dropped" "[Z") (by decide +kernel)
  subst hsz
  have hD_ := hD0.self (sz := s_.heap.size)
  generalize hAe : va_A (wCo cI cZ h_ a_ b_ d_ od_ wt_ dr_ sp_) s_.heap.size = A_ at hD_ ⊢
  have hA_ : ∀ q_ : Nat, s_.heap.size ≤ q_ → A_ q_ := fun q_ h_ => by rw [← hAe]; exact Or.inr h_
  have hS_ : va_S A_ s_.heap s_.heap [] := va_S.rf
  have hP_ : va_P G_ vwCl [(h_, .inr (2, [.ref a_, .ref b_, .ref d_, .int (iI ((sp_ : Nat) : Int))])), (a_, .inl (cI, 48, .inl (aN od_))), (b_, .inl (cZ, 48, .inl (aB wt_))), (d_, .inl (cZ, 48, .inl (aB dr_)))] s_.heap := hP_
  have hD_ : va_D A_ [(h_, .inr (2, [.ref a_, .ref b_, .ref d_, .int (iI ((sp_ : Nat) : Int))])), (a_, .inl (cI, 48, .inl (aN od_))), (b_, .inl (cZ, 48, .inl (aB wt_))), (d_, .inl (cZ, 48, .inl (aB dr_)))] := hD_
  generalize hQe : MQ below (va_Qv (S := Unit) (fun _ => True) (fun u1 t1 => va_P G_ vwCl ((fun _ => wCo cI cZ h_ a_ b_ d_ od_ (va_up wt_ j_ false) (va_up dr_ j_ true) sp_) u1) t1.heap) A_) args s_ 0 0 A_ = Q_
  rw [show entryFrame m_ args 2 = entryFrame m_ ([.ref h_, .int (iI ((j_ : Nat) : Int))] : List Value).toArray 2 from by rw [hargs], lg_entry_eq]
  have hl_ := lv_entry ([.ref h_, .int (iI ((j_ : Nat) : Int))]) (n := 2) (Nat.le_of_ble_eq_true rfl)
  generalize (lg_sl ([.ref h_, .int (iI ((j_ : Nat) : Int))]) ++ List.replicate (2 - (lg_sl ([.ref h_, .int (iI ((j_ : Nat) : Int))])).length) Slot.unset).toArray = ls_ at hl_ ⊢
  have hl_ : lv_has ls_ 2 [(0, .ref h_), (1, .int (iI ((j_ : Nat) : Int)))] := hl_
  refine lv_aload_n hx_ hb_ dX2_drop_0 rfl (lv_at hl_ 0 rfl) ?_
  refine lv_iload_n hx_ hb_ dX2_drop_1 rfl (lv_at hl_ 1 rfl) ?_
  refine ro_V (As := [.int (iI ((j_ : Nat) : Int))]) (rest := []) ⟨hx_, hb_, hml, hown, hts⟩ (c_X2_waits l_ G_ cI cZ h_ a_ b_ d_ od_ wt_ dr_ sp_ j_ (by omega)) (cwV 1 hts gX2_drop_X2_waits rfl rfl rfl (by decide +kernel) ⟨Nat.le_of_ble_eq_true rfl, Nat.le_of_ble_eq_true rfl⟩) (hP_.sub (ws' := [(h_, .inr (2, [.ref a_, .ref b_, .ref d_, .int (iI ((sp_ : Nat) : Int))])), (a_, .inl (cI, 48, .inl (aN od_))), (b_, .inl (cZ, 48, .inl (aB wt_))), (d_, .inl (cZ, 48, .inl (aB dr_)))]) [0, 1, 2, 3] rfl) hK_ 0 rfl rfl rfl hl_.1 rfl (Nat.le_of_ble_eq_true rfl) dX2_drop_2 ⟨Nat.zero_le _, Nat.zero_le _⟩ ?_
  refine q_bf (tgt := 22) hx_ hb_ dX2_drop_5 (by decide) (fun c5_ => absurd c5_ (by rw [hw_]; decide)) (fun c5_ => ?_)
  refine lv_aload_n hx_ hb_ dX2_drop_8 rfl (lv_at hl_ 0 rfl) ?_
  refine va_get (D := G_) (ci := 2) (v := .ref b_) (C := RX2) (T := TX2) (N := 4) hx_ hb_ hts hi2_ hown hK_ hP_ 0 rfl rfl 1 (by decide) hf15_ (fun _ h9 => h9) rfl dX2_drop_9 ?_
  refine lv_iload_n hx_ hb_ dX2_drop_12 rfl (lv_at hl_ 1 rfl) ?_
  refine lv_iconst (v := iI ((0 : Nat) : Int)) hx_ hb_ dX2_drop_13 rfl ?_
  refine q_cast (b := bZ (false)) rfl ?_
  refine q_zst hx_ hb_ hK_ hP_ hD_ hS_ 2 rfl (by decide) (j_) (by omega) (false) dX2_drop_14 (ws' := [(h_, .inr (2, [.ref a_, .ref b_, .ref d_, .int (iI ((sp_ : Nat) : Int))])), (a_, .inl (cI, 48, .inl (aN od_))), (b_, .inl (cZ, 48, .inl (aB (va_up wt_ j_ false)))), (d_, .inl (cZ, 48, .inl (aB dr_)))]) rfl (fun H_ locs hP_ hD_ hS_ => ?_)
  refine lv_aload_n hx_ hb_ dX2_drop_15 rfl (lv_at hl_ 0 rfl) ?_
  refine va_get (D := G_) (ci := 2) (v := .ref d_) (C := RX2) (T := TX2) (N := 4) hx_ hb_ hts hi2_ hown hK_ hP_ 0 rfl rfl 2 (by decide) hf19_ (fun _ h9 => h9) rfl dX2_drop_16 ?_
  refine lv_iload_n hx_ hb_ dX2_drop_19 rfl (lv_at hl_ 1 rfl) ?_
  refine lv_iconst (v := iI ((1 : Nat) : Int)) hx_ hb_ dX2_drop_20 rfl ?_
  refine q_cast (b := bZ (true)) rfl ?_
  refine q_zst hx_ hb_ hK_ hP_ hD_ hS_ 3 rfl (by decide) (j_) (by omega) (true) dX2_drop_21 (ws' := [(h_, .inr (2, [.ref a_, .ref b_, .ref d_, .int (iI ((sp_ : Nat) : Int))])), (a_, .inl (cI, 48, .inl (aN od_))), (b_, .inl (cZ, 48, .inl (aB (va_up wt_ j_ false)))), (d_, .inl (cZ, 48, .inl (aB (va_up dr_ j_ true))))]) rfl (fun H_ locs hP_ hD_ hS_ => ?_)
  rw [← hQe]
  exact W.vret hx_ hb_ hr (fun tt1 htt1 hWW1 => ⟨⟨(), rfl, trivial, by show va_P G_ vwCl _ tt1.heap; rw [htt1]; exact hP_⟩, hS_.F htt1⟩) hS_.2.2 dX2_drop_22

set_option maxHeartbeats 4000000 in
set_option maxRecDepth 100000 in
/-- CopyOrder.arrange -/
theorem c_X2_arrange (l_ : Launch) (G_ : va_G) (cI cZ : ClassId) (h_ a_ b_ d_ : Nat) (od_ : Nat → Nat) (wt_ dr_ : Nat → Bool) (sp_ : Nat) (h2_ a2_ b2_ d2_ : Nat) (k_ : Nat) (os_ ns_ ln_ : Nat → Nat) (hk_ : k_ ≤ 48) (hB_ : B48 k_ os_ ns_ ln_) (sz : Nat) : Wr (S := (Nat → Nat) × (Nat → Bool) × (Nat → Bool) × Nat) l_ yX2_arrange wsX2_arrange ({ frames := 5, cells := 0, slots := 0, locals := 109 }) G_ cI cZ [.ref h_, .ref h2_] (wCo cI cZ h_ a_ b_ d_ od_ wt_ dr_ sp_ ++ wBl cI h2_ a2_ b2_ d2_ k_ os_ ns_ ln_) sz (fun u_ => CoR k_ os_ ns_ ln_ k_ u_.2.1 u_.2.2.1 u_.1 u_.2.2.2) (fun u_ => wCo cI cZ h_ a_ b_ d_ u_.1 u_.2.1 u_.2.2.1 u_.2.2.2 ++ wBl cI h2_ a2_ b2_ d2_ k_ os_ ns_ ln_) := by
  refine Met.ofW (cc := cX2_arrange) (maxL := 4) (ret := (none)) (by decide) rfl ?_
  intro p_ e_ s_ m_ args below meth c_ s₁ B hml hv
  obtain ⟨hargs, hsz, hP_, hK_, hD0⟩ := hv
  have hx_ := B.exec
  have hb_ := B.bytes
  have hr := B.returns
  have hts := atoms_spec (ws := wsX2_arrange) B.pre
  have hown : s_.vm.findClass RX2 = some m_.cls := findClass_of_methodNamed B.named
  have hlocks := B.notSynchronized
  have hi2_ : ∀ w_ ∈ wsX20, w_ ∈ wsX2_arrange := by decide +kernel
  have hf15_ := hts (.fieldLink RX2 15 "RelocatingPatch$CopyOrder" "waiting" "[Z") (by decide +kernel)
  have hf19_ := hts (.fieldLink RX2 19 "RelocatingPatch$CopyOrder" "dropped" "[Z") (by decide +kernel)
  have hf22_ := hts (.fieldLink RX2 22 "RelocatingPatch$CopyOrder" "steps" "I") (by decide +kernel)
  subst hsz
  have hD_ := hD0.self (sz := s_.heap.size)
  generalize hAe : va_A (wCo cI cZ h_ a_ b_ d_ od_ wt_ dr_ sp_ ++ wBl cI h2_ a2_ b2_ d2_ k_ os_ ns_ ln_) s_.heap.size = A_ at hD_ ⊢
  have hA_ : ∀ q_ : Nat, s_.heap.size ≤ q_ → A_ q_ := fun q_ h_ => by rw [← hAe]; exact Or.inr h_
  have hS_ : va_S A_ s_.heap s_.heap [] := va_S.rf
  have hP_ : va_P G_ vwCl [(h_, .inr (2, [.ref a_, .ref b_, .ref d_, .int (iI ((sp_ : Nat) : Int))])), (a_, .inl (cI, 48, .inl (aN od_))), (b_, .inl (cZ, 48, .inl (aB wt_))), (d_, .inl (cZ, 48, .inl (aB dr_))), (h2_, .inr (1, [.ref a2_, .ref b2_, .ref d2_, .int (iI ((k_ : Nat) : Int))])), (a2_, .inl (cI, 48, .inl (aN os_))), (b2_, .inl (cI, 48, .inl (aN ns_))), (d2_, .inl (cI, 48, .inl (aN ln_)))] s_.heap := hP_
  have hD_ : va_D A_ [(h_, .inr (2, [.ref a_, .ref b_, .ref d_, .int (iI ((sp_ : Nat) : Int))])), (a_, .inl (cI, 48, .inl (aN od_))), (b_, .inl (cZ, 48, .inl (aB wt_))), (d_, .inl (cZ, 48, .inl (aB dr_))), (h2_, .inr (1, [.ref a2_, .ref b2_, .ref d2_, .int (iI ((k_ : Nat) : Int))])), (a2_, .inl (cI, 48, .inl (aN os_))), (b2_, .inl (cI, 48, .inl (aN ns_))), (d2_, .inl (cI, 48, .inl (aN ln_)))] := hD_
  generalize hQe : MQ below (va_Qv (S := (Nat → Nat) × (Nat → Bool) × (Nat → Bool) × Nat) (fun u_ => CoR k_ os_ ns_ ln_ k_ u_.2.1 u_.2.2.1 u_.1 u_.2.2.2) (fun u1 t1 => va_P G_ vwCl ((fun u_ => wCo cI cZ h_ a_ b_ d_ u_.1 u_.2.1 u_.2.2.1 u_.2.2.2 ++ wBl cI h2_ a2_ b2_ d2_ k_ os_ ns_ ln_) u1) t1.heap) A_) args s_ 0 0 A_ = Q_
  have lp39 : ∀ (n_ : Nat) (r_ : Nat) (od_ : Nat → Nat) (wt_ : Nat → Bool) (dr_ : Nat → Bool) (sp_ : Nat) (H_ : Heap) (locs : List Loc) (ls_ : Array Slot), (r_ ≤ k_) → (k_ + 1 ≤ r_ + n_) → (CoR k_ os_ ns_ ln_ r_ wt_ dr_ od_ sp_) → va_P G_ vwCl [(h_, .inr (2, [.ref a_, .ref b_, .ref d_, .int (iI ((sp_ : Nat) : Int))])), (a_, .inl (cI, 48, .inl (aN od_))), (b_, .inl (cZ, 48, .inl (aB wt_))), (d_, .inl (cZ, 48, .inl (aB dr_))), (h2_, .inr (1, [.ref a2_, .ref b2_, .ref d2_, .int (iI ((k_ : Nat) : Int))])), (a2_, .inl (cI, 48, .inl (aN os_))), (b2_, .inl (cI, 48, .inl (aN ns_))), (d2_, .inl (cI, 48, .inl (aN ln_)))] H_ → va_D A_ [(h_, .inr (2, [.ref a_, .ref b_, .ref d_, .int (iI ((sp_ : Nat) : Int))])), (a_, .inl (cI, 48, .inl (aN od_))), (b_, .inl (cZ, 48, .inl (aB wt_))), (d_, .inl (cZ, 48, .inl (aB dr_))), (h2_, .inr (1, [.ref a2_, .ref b2_, .ref d2_, .int (iI ((k_ : Nat) : Int))])), (a2_, .inl (cI, 48, .inl (aN os_))), (b2_, .inl (cI, 48, .inl (aN ns_))), (d2_, .inl (cI, 48, .inl (aN ln_)))] → va_S A_ s_.heap H_ locs → lv_has ls_ 4 [(0, .ref h_), (1, .ref h2_), (2, .int (iI ((r_ : Nat) : Int)))] → W p_ l_ e_ (headSpec wsX2_arrange ({ frames := 5, cells := 0, slots := 0, locals := 109 })).room s_ m_ args below meth c_ H_ locs 0 0 Q_ (F0 m_ 39 ls_ []) := by
    intro n_
    induction n_ with
    | zero =>
      intro r_ od_ wt_ dr_ sp_ H_ locs ls_ hr0_ hn_ hc_
      exact False.elim (by omega)
    | succ n_ ih_ =>
      intro r_ od_ wt_ dr_ sp_ H_ locs ls_ hr0_ hn_ hc_ hP_ hD_ hS_ hl_
      have hsp : sp_ ≤ r_ := by rw [hc_.2.2.2]; exact (its_ok k_ os_ ns_ ln_ r_).1
      refine lv_iload_n hx_ hb_ dX2_arrange_39 rfl (lv_at hl_ 2 rfl) ?_
      refine lv_aload_n hx_ hb_ dX2_arrange_40 rfl (lv_at hl_ 1 rfl) ?_
      refine ro_V (As := []) (rest := [.int (iI ((r_ : Nat) : Int))]) ⟨hx_, hb_, hml, hown, hts⟩ (c_X1_size l_ G_ cI cZ h2_ a2_ b2_ d2_ k_ os_ ns_ ln_) (cwV 0 hts gX2_arrange_X1_size rfl rfl rfl (by decide +kernel) ⟨Nat.le_of_ble_eq_true rfl, Nat.le_of_ble_eq_true rfl⟩) (hP_.sub (ws' := [(h2_, .inr (1, [.ref a2_, .ref b2_, .ref d2_, .int (iI ((k_ : Nat) : Int))])), (a2_, .inl (cI, 48, .inl (aN os_))), (b2_, .inl (cI, 48, .inl (aN ns_))), (d2_, .inl (cI, 48, .inl (aN ln_)))]) [4, 5, 6, 7] rfl) hK_ 0 rfl rfl rfl hl_.1 rfl (Nat.le_of_ble_eq_true rfl) dX2_arrange_41 ⟨Nat.zero_le _, Nat.zero_le _⟩ ?_
      refine q_icmp_ge (tgt := 81) hx_ hb_ dX2_arrange_44 (by decide) (⟨by omega, by omega⟩) (⟨by omega, by omega⟩) (fun c44_ => ?_) (fun c44_ => ?_)
      · skip
        rw [← hQe]
        exact W.vret hx_ hb_ hr (fun tt1 htt1 hWW1 => ⟨⟨(od_, wt_, dr_, sp_), rfl, by have e0 : r_ = k_ := (by omega); rw [e0] at hc_; exact hc_, by show va_P G_ vwCl _ tt1.heap; rw [htt1]; exact hP_⟩, hS_.F htt1⟩) hS_.2.2 dX2_arrange_81
      · skip
        refine lv_aload_n hx_ hb_ dX2_arrange_47 rfl (lv_at hl_ 0 rfl) ?_
        refine lv_aload_n hx_ hb_ dX2_arrange_48 rfl (lv_at hl_ 1 rfl) ?_
        refine ro_V (As := [.ref h2_]) (rest := []) ⟨hx_, hb_, hml, hown, hts⟩ (c_X2_firstReady l_ G_ cI cZ h_ a_ b_ d_ od_ wt_ dr_ sp_ h2_ a2_ b2_ d2_ k_ os_ ns_ ln_ (by omega) (hB_)) (cwV 1 hts gX2_arrange_X2_firstReady rfl rfl rfl (by decide +kernel) ⟨Nat.le_of_ble_eq_true rfl, Nat.le_of_ble_eq_true rfl⟩) (hP_.sub (ws' := [(h_, .inr (2, [.ref a_, .ref b_, .ref d_, .int (iI ((sp_ : Nat) : Int))])), (a_, .inl (cI, 48, .inl (aN od_))), (b_, .inl (cZ, 48, .inl (aB wt_))), (d_, .inl (cZ, 48, .inl (aB dr_))), (h2_, .inr (1, [.ref a2_, .ref b2_, .ref d2_, .int (iI ((k_ : Nat) : Int))])), (a2_, .inl (cI, 48, .inl (aN os_))), (b2_, .inl (cI, 48, .inl (aN ns_))), (d2_, .inl (cI, 48, .inl (aN ln_)))]) [0, 1, 2, 3, 4, 5, 6, 7] rfl) hK_ 0 rfl rfl rfl hl_.1 rfl (Nat.le_of_ble_eq_true rfl) dX2_arrange_49 ⟨Nat.zero_le _, Nat.zero_le _⟩ ?_
        refine lv_istore_n (lv' := [(3, .int (iI (wI (frd k_ os_ ns_ ln_ wt_) k_ (-1)))), (0, .ref h_), (1, .ref h2_), (2, .int (iI ((r_ : Nat) : Int)))]) hx_ hb_ dX2_arrange_52 rfl hl_ (by decide) rfl (fun ls_ hl_ => ?_)
        refine lv_iload_n hx_ hb_ dX2_arrange_53 rfl (lv_at hl_ 0 rfl) ?_
        refine lv_iconst (v := iI (-1)) hx_ hb_ dX2_arrange_54 rfl ?_
        refine q_icmp_eq (tgt := 66) hx_ hb_ dX2_arrange_55 (by decide) (wI_R hk_ ⟨by decide, by decide⟩) (⟨by decide, by decide⟩) (fun c55_ => ?_) (fun c55_ => ?_)
        · skip
          have hfr := wI_nlt (by decide) c55_
          obtain ⟨g_, hgs⟩ := shw_some (os := os_) (ns := ns_) (show r_ < k_ from by omega) hc_.1
          have hgl := bst_lt hgs
          refine lv_aload_n hx_ hb_ dX2_arrange_66 rfl (lv_at hl_ 1 rfl) ?_
          refine lv_aload_n hx_ hb_ dX2_arrange_67 rfl (lv_at hl_ 1 rfl) ?_
          refine lv_aload_n hx_ hb_ dX2_arrange_68 rfl (lv_at hl_ 2 rfl) ?_
          refine ro_V (As := [.ref h2_]) (rest := [.ref h_]) ⟨hx_, hb_, hml, hown, hts⟩ (c_X2_shortestWaiting l_ G_ cI cZ h_ a_ b_ d_ od_ wt_ dr_ sp_ h2_ a2_ b2_ d2_ k_ os_ ns_ ln_ (by omega) (hB_)) (cwV 1 hts gX2_arrange_X2_shortestWaiting rfl rfl rfl (by decide +kernel) ⟨Nat.le_of_ble_eq_true rfl, Nat.le_of_ble_eq_true rfl⟩) (hP_.sub (ws' := [(h_, .inr (2, [.ref a_, .ref b_, .ref d_, .int (iI ((sp_ : Nat) : Int))])), (a_, .inl (cI, 48, .inl (aN od_))), (b_, .inl (cZ, 48, .inl (aB wt_))), (d_, .inl (cZ, 48, .inl (aB dr_))), (h2_, .inr (1, [.ref a2_, .ref b2_, .ref d2_, .int (iI ((k_ : Nat) : Int))])), (a2_, .inl (cI, 48, .inl (aN os_))), (b2_, .inl (cI, 48, .inl (aN ns_))), (d2_, .inl (cI, 48, .inl (aN ln_)))]) [0, 1, 2, 3, 4, 5, 6, 7] rfl) hK_ 0 rfl rfl rfl hl_.1 rfl (Nat.le_of_ble_eq_true rfl) dX2_arrange_69 ⟨Nat.zero_le _, Nat.zero_le _⟩ ?_
          refine q_cast (b := ((g_ : Nat) : Int)) (by rw [hgs]; rfl) ?_
          refine wr_V (As := [.int (iI ((g_ : Nat) : Int))]) (rest := []) (wr := [(h2_, .inr (1, [.ref a2_, .ref b2_, .ref d2_, .int (iI ((k_ : Nat) : Int))])), (a2_, .inl (cI, 48, .inl (aN os_))), (b2_, .inl (cI, 48, .inl (aN ns_))), (d2_, .inl (cI, 48, .inl (aN ln_)))]) (wn := fun u_ => [(h_, .inr (2, [.ref a_, .ref b_, .ref d_, .int (iI ((sp_ : Nat) : Int))])), (a_, .inl (cI, 48, .inl (aN od_))), (b_, .inl (cZ, 48, .inl (aB (va_up wt_ g_ false)))), (d_, .inl (cZ, 48, .inl (aB (va_up dr_ g_ true)))), (h2_, .inr (1, [.ref a2_, .ref b2_, .ref d2_, .int (iI ((k_ : Nat) : Int))])), (a2_, .inl (cI, 48, .inl (aN os_))), (b2_, .inl (cI, 48, .inl (aN ns_))), (d2_, .inl (cI, 48, .inl (aN ln_)))]) ⟨hx_, hb_, hml, hown, hts⟩ (c_X2_drop l_ G_ cI cZ h_ a_ b_ d_ od_ wt_ dr_ sp_ g_ (by omega) (hgl.2) H_.size) (cwV 1 hts gX2_arrange_X2_drop rfl rfl rfl (by decide +kernel) ⟨Nat.le_of_ble_eq_true rfl, Nat.le_of_ble_eq_true rfl⟩) hP_ hK_ hD_ hS_ hA_ [0, 1, 2, 3] [4, 5, 6, 7] [4, 5, 6, 7, 0, 1, 2, 3] rfl rfl (by decide) (fun _ => rfl) (fun _ => rfl) 0 rfl rfl rfl hl_.1 rfl (Nat.le_of_ble_eq_true rfl) dX2_arrange_72 ⟨Nat.zero_le _, Nat.zero_le _⟩ (fun u_ H_ locs hu72 hP_ hD_ hS_ => ?_)
          try dsimp only at hu72
          have hP_ : va_P G_ vwCl [(h_, .inr (2, [.ref a_, .ref b_, .ref d_, .int (iI ((sp_ : Nat) : Int))])), (a_, .inl (cI, 48, .inl (aN od_))), (b_, .inl (cZ, 48, .inl (aB (va_up wt_ g_ false)))), (d_, .inl (cZ, 48, .inl (aB (va_up dr_ g_ true)))), (h2_, .inr (1, [.ref a2_, .ref b2_, .ref d2_, .int (iI ((k_ : Nat) : Int))])), (a2_, .inl (cI, 48, .inl (aN os_))), (b2_, .inl (cI, 48, .inl (aN ns_))), (d2_, .inl (cI, 48, .inl (aN ln_)))] H_ := hP_
          have hD_ : va_D A_ [(h_, .inr (2, [.ref a_, .ref b_, .ref d_, .int (iI ((sp_ : Nat) : Int))])), (a_, .inl (cI, 48, .inl (aN od_))), (b_, .inl (cZ, 48, .inl (aB (va_up wt_ g_ false)))), (d_, .inl (cZ, 48, .inl (aB (va_up dr_ g_ true)))), (h2_, .inr (1, [.ref a2_, .ref b2_, .ref d2_, .int (iI ((k_ : Nat) : Int))])), (a2_, .inl (cI, 48, .inl (aN os_))), (b2_, .inl (cI, 48, .inl (aN ns_))), (d2_, .inl (cI, 48, .inl (aN ln_)))] := hD_
          refine q_iinc (k := 3) ((r_ + 1 : Nat) : Int) hx_ hb_ dX2_arrange_75 hl_ rfl (rfl) (by decide) (lv' := [(2, .int (iI ((r_ + 1 : Nat) : Int))), (3, .int (iI (wI (frd k_ os_ ns_ ln_ wt_) k_ (-1)))), (0, .ref h_), (1, .ref h2_)]) rfl (fun ls_ hl_ => ?_)
          refine lv_goto (tgt := 39) hx_ hb_ dX2_arrange_78 (by decide) ?_
          exact ih_ (r_ + 1) od_ (va_up wt_ g_ false) (va_up dr_ g_ true) sp_ _ _ ls_ (by omega) (by omega) (CoR_drop hc_ hfr hgs) hP_ hD_ hS_ (lv_sub hl_ [2, 3, 0] rfl)
        · skip
          have hfr := wI_ne c55_
          refine lv_aload_n hx_ hb_ dX2_arrange_58 rfl (lv_at hl_ 1 rfl) ?_
          refine lv_iload_n hx_ hb_ dX2_arrange_59 rfl (lv_at hl_ 0 rfl) ?_
          refine q_cast (b := ((frd k_ os_ ns_ ln_ wt_ : Nat) : Int)) (wI_hit hfr) ?_
          refine wr_V (As := [.int (iI ((frd k_ os_ ns_ ln_ wt_ : Nat) : Int))]) (rest := []) (wr := [(h2_, .inr (1, [.ref a2_, .ref b2_, .ref d2_, .int (iI ((k_ : Nat) : Int))])), (a2_, .inl (cI, 48, .inl (aN os_))), (b2_, .inl (cI, 48, .inl (aN ns_))), (d2_, .inl (cI, 48, .inl (aN ln_)))]) (wn := fun u_ => [(h_, .inr (2, [.ref a_, .ref b_, .ref d_, .int (iI ((sp_ + 1 : Nat) : Int))])), (a_, .inl (cI, 48, .inl (aN (va_up od_ sp_ (frd k_ os_ ns_ ln_ wt_))))), (b_, .inl (cZ, 48, .inl (aB (va_up wt_ (frd k_ os_ ns_ ln_ wt_) false)))), (d_, .inl (cZ, 48, .inl (aB dr_))), (h2_, .inr (1, [.ref a2_, .ref b2_, .ref d2_, .int (iI ((k_ : Nat) : Int))])), (a2_, .inl (cI, 48, .inl (aN os_))), (b2_, .inl (cI, 48, .inl (aN ns_))), (d2_, .inl (cI, 48, .inl (aN ln_)))]) ⟨hx_, hb_, hml, hown, hts⟩ (c_X2_copy l_ G_ cI cZ h_ a_ b_ d_ od_ wt_ dr_ sp_ (frd k_ os_ ns_ ln_ wt_) (by omega) (frd_wt hfr) (by omega) H_.size) (cwV 1 hts gX2_arrange_X2_copy rfl rfl rfl (by decide +kernel) ⟨Nat.le_of_ble_eq_true rfl, Nat.le_of_ble_eq_true rfl⟩) hP_ hK_ hD_ hS_ hA_ [0, 1, 2, 3] [4, 5, 6, 7] [4, 5, 6, 7, 0, 1, 2, 3] rfl rfl (by decide) (fun _ => rfl) (fun _ => rfl) 0 rfl rfl rfl hl_.1 rfl (Nat.le_of_ble_eq_true rfl) dX2_arrange_60 ⟨Nat.zero_le _, Nat.zero_le _⟩ (fun u_ H_ locs hu60 hP_ hD_ hS_ => ?_)
          try dsimp only at hu60
          have hP_ : va_P G_ vwCl [(h_, .inr (2, [.ref a_, .ref b_, .ref d_, .int (iI ((sp_ + 1 : Nat) : Int))])), (a_, .inl (cI, 48, .inl (aN (va_up od_ sp_ (frd k_ os_ ns_ ln_ wt_))))), (b_, .inl (cZ, 48, .inl (aB (va_up wt_ (frd k_ os_ ns_ ln_ wt_) false)))), (d_, .inl (cZ, 48, .inl (aB dr_))), (h2_, .inr (1, [.ref a2_, .ref b2_, .ref d2_, .int (iI ((k_ : Nat) : Int))])), (a2_, .inl (cI, 48, .inl (aN os_))), (b2_, .inl (cI, 48, .inl (aN ns_))), (d2_, .inl (cI, 48, .inl (aN ln_)))] H_ := hP_
          have hD_ : va_D A_ [(h_, .inr (2, [.ref a_, .ref b_, .ref d_, .int (iI ((sp_ + 1 : Nat) : Int))])), (a_, .inl (cI, 48, .inl (aN (va_up od_ sp_ (frd k_ os_ ns_ ln_ wt_))))), (b_, .inl (cZ, 48, .inl (aB (va_up wt_ (frd k_ os_ ns_ ln_ wt_) false)))), (d_, .inl (cZ, 48, .inl (aB dr_))), (h2_, .inr (1, [.ref a2_, .ref b2_, .ref d2_, .int (iI ((k_ : Nat) : Int))])), (a2_, .inl (cI, 48, .inl (aN os_))), (b2_, .inl (cI, 48, .inl (aN ns_))), (d2_, .inl (cI, 48, .inl (aN ln_)))] := hD_
          refine lv_goto (tgt := 75) hx_ hb_ dX2_arrange_63 (by decide) ?_
          refine q_iinc (k := 3) ((r_ + 1 : Nat) : Int) hx_ hb_ dX2_arrange_75 hl_ rfl (rfl) (by decide) (lv' := [(2, .int (iI ((r_ + 1 : Nat) : Int))), (3, .int (iI (wI (frd k_ os_ ns_ ln_ wt_) k_ (-1)))), (0, .ref h_), (1, .ref h2_)]) rfl (fun ls_ hl_ => ?_)
          refine lv_goto (tgt := 39) hx_ hb_ dX2_arrange_78 (by decide) ?_
          exact ih_ (r_ + 1) (va_up od_ sp_ (frd k_ os_ ns_ ln_ wt_)) (va_up wt_ (frd k_ os_ ns_ ln_ wt_) false) dr_ (sp_ + 1) _ _ ls_ (by omega) (by omega) (CoR_copy hc_ hfr) hP_ hD_ hS_ (lv_sub hl_ [2, 3, 0] rfl)
  have lp7 : ∀ (n_ : Nat) (i_ : Nat) (w1_ : Nat → Bool) (d1_ : Nat → Bool) (H_ : Heap) (locs : List Loc) (ls_ : Array Slot), (i_ ≤ 48) → (49 ≤ i_ + n_) → (∀ j_, j_ < i_ → w1_ j_ = decide (j_ < k_) ∧ d1_ j_ = false) → va_P G_ vwCl [(h_, .inr (2, [.ref a_, .ref b_, .ref d_, .int (iI ((0 : Nat) : Int))])), (a_, .inl (cI, 48, .inl (aN od_))), (b_, .inl (cZ, 48, .inl (aB w1_))), (d_, .inl (cZ, 48, .inl (aB d1_))), (h2_, .inr (1, [.ref a2_, .ref b2_, .ref d2_, .int (iI ((k_ : Nat) : Int))])), (a2_, .inl (cI, 48, .inl (aN os_))), (b2_, .inl (cI, 48, .inl (aN ns_))), (d2_, .inl (cI, 48, .inl (aN ln_)))] H_ → va_D A_ [(h_, .inr (2, [.ref a_, .ref b_, .ref d_, .int (iI ((0 : Nat) : Int))])), (a_, .inl (cI, 48, .inl (aN od_))), (b_, .inl (cZ, 48, .inl (aB w1_))), (d_, .inl (cZ, 48, .inl (aB d1_))), (h2_, .inr (1, [.ref a2_, .ref b2_, .ref d2_, .int (iI ((k_ : Nat) : Int))])), (a2_, .inl (cI, 48, .inl (aN os_))), (b2_, .inl (cI, 48, .inl (aN ns_))), (d2_, .inl (cI, 48, .inl (aN ln_)))] → va_S A_ s_.heap H_ locs → lv_has ls_ 4 [(0, .ref h_), (1, .ref h2_), (2, .int (iI ((i_ : Nat) : Int)))] → W p_ l_ e_ (headSpec wsX2_arrange ({ frames := 5, cells := 0, slots := 0, locals := 109 })).room s_ m_ args below meth c_ H_ locs 0 0 Q_ (F0 m_ 7 ls_ []) := by
    intro n_
    induction n_ with
    | zero =>
      intro i_ w1_ d1_ H_ locs ls_ hi_ hn_ hz
      exact False.elim (by omega)
    | succ n_ ih_ =>
      intro i_ w1_ d1_ H_ locs ls_ hi_ hn_ hz hP_ hD_ hS_ hl_
      refine lv_iload_n hx_ hb_ dX2_arrange_7 rfl (lv_at hl_ 2 rfl) ?_
      refine lv_bipush (v := iI ((48 : Nat) : Int)) hx_ hb_ dX2_arrange_8 rfl ?_
      refine q_icmp_ge (tgt := 37) hx_ hb_ dX2_arrange_10 (by decide) (⟨by omega, by omega⟩) (⟨by decide, by decide⟩) (fun c10_ => ?_) (fun c10_ => ?_)
      · skip
        refine lv_iconst (v := iI ((0 : Nat) : Int)) hx_ hb_ dX2_arrange_37 rfl ?_
        refine lv_istore_n (lv' := [(2, .int (iI ((0 : Nat) : Int))), (0, .ref h_), (1, .ref h2_)]) hx_ hb_ dX2_arrange_38 rfl hl_ (by decide) rfl (fun ls_ hl_ => ?_)
        exact lp39 (k_ + 1) 0 od_ w1_ d1_ 0 _ _ ls_ (by omega) (by omega) (⟨fun b_ hb_ => by rw [(hz b_ (by omega)).1]; simp [wtf, its, hb_], fun b_ hb_ => by rw [(hz b_ (by omega)).2]; simp [its], fun j_ hj_ => absurd hj_ (Nat.not_lt_zero _), rfl⟩) hP_ hD_ hS_ (lv_sub hl_ [1, 2, 0] rfl)
      · skip
        refine lv_aload_n hx_ hb_ dX2_arrange_13 rfl (lv_at hl_ 0 rfl) ?_
        refine va_get (D := G_) (ci := 2) (v := .ref b_) (C := RX2) (T := TX2) (N := 4) hx_ hb_ hts hi2_ hown hK_ hP_ 0 rfl rfl 1 (by decide) hf15_ (fun _ h9 => h9) rfl dX2_arrange_14 ?_
        refine lv_iload_n hx_ hb_ dX2_arrange_17 rfl (lv_at hl_ 2 rfl) ?_
        refine lv_aload_n hx_ hb_ dX2_arrange_18 rfl (lv_at hl_ 1 rfl) ?_
        refine lv_iload_n hx_ hb_ dX2_arrange_19 rfl (lv_at hl_ 2 rfl) ?_
        refine ro_V (As := [.int (iI ((i_ : Nat) : Int))]) (rest := [.int (iI ((i_ : Nat) : Int)), .ref b_]) ⟨hx_, hb_, hml, hown, hts⟩ (c_X1_has l_ G_ cI cZ h2_ a2_ b2_ d2_ k_ os_ ns_ ln_ ((i_ : Nat) : Int) (by omega) (by omega) (by omega)) (cwV 1 hts gX2_arrange_X1_has rfl rfl rfl (by decide +kernel) ⟨Nat.le_of_ble_eq_true rfl, Nat.le_of_ble_eq_true rfl⟩) (hP_.sub (ws' := [(h2_, .inr (1, [.ref a2_, .ref b2_, .ref d2_, .int (iI ((k_ : Nat) : Int))])), (a2_, .inl (cI, 48, .inl (aN os_))), (b2_, .inl (cI, 48, .inl (aN ns_))), (d2_, .inl (cI, 48, .inl (aN ln_)))]) [4, 5, 6, 7] rfl) hK_ 0 rfl rfl rfl hl_.1 rfl (Nat.le_of_ble_eq_true rfl) dX2_arrange_20 ⟨Nat.zero_le _, Nat.zero_le _⟩ ?_
        refine q_cast (b := bZ (decide (0 ≤ ((i_ : Nat) : Int) ∧ ((i_ : Nat) : Int) < ((k_ : Nat) : Int)))) rfl ?_
        refine q_zst hx_ hb_ hK_ hP_ hD_ hS_ 2 rfl (by decide) (i_) (by omega) (decide (0 ≤ ((i_ : Nat) : Int) ∧ ((i_ : Nat) : Int) < ((k_ : Nat) : Int))) dX2_arrange_23 (ws' := [(h_, .inr (2, [.ref a_, .ref b_, .ref d_, .int (iI ((0 : Nat) : Int))])), (a_, .inl (cI, 48, .inl (aN od_))), (b_, .inl (cZ, 48, .inl (aB (va_up w1_ i_ (decide (0 ≤ ((i_ : Nat) : Int) ∧ ((i_ : Nat) : Int) < ((k_ : Nat) : Int))))))), (d_, .inl (cZ, 48, .inl (aB d1_))), (h2_, .inr (1, [.ref a2_, .ref b2_, .ref d2_, .int (iI ((k_ : Nat) : Int))])), (a2_, .inl (cI, 48, .inl (aN os_))), (b2_, .inl (cI, 48, .inl (aN ns_))), (d2_, .inl (cI, 48, .inl (aN ln_)))]) rfl (fun H_ locs hP_ hD_ hS_ => ?_)
        refine lv_aload_n hx_ hb_ dX2_arrange_24 rfl (lv_at hl_ 0 rfl) ?_
        refine va_get (D := G_) (ci := 2) (v := .ref d_) (C := RX2) (T := TX2) (N := 4) hx_ hb_ hts hi2_ hown hK_ hP_ 0 rfl rfl 2 (by decide) hf19_ (fun _ h9 => h9) rfl dX2_arrange_25 ?_
        refine lv_iload_n hx_ hb_ dX2_arrange_28 rfl (lv_at hl_ 2 rfl) ?_
        refine lv_iconst (v := iI ((0 : Nat) : Int)) hx_ hb_ dX2_arrange_29 rfl ?_
        refine q_cast (b := bZ (false)) rfl ?_
        refine q_zst hx_ hb_ hK_ hP_ hD_ hS_ 3 rfl (by decide) (i_) (by omega) (false) dX2_arrange_30 (ws' := [(h_, .inr (2, [.ref a_, .ref b_, .ref d_, .int (iI ((0 : Nat) : Int))])), (a_, .inl (cI, 48, .inl (aN od_))), (b_, .inl (cZ, 48, .inl (aB (va_up w1_ i_ (decide (0 ≤ ((i_ : Nat) : Int) ∧ ((i_ : Nat) : Int) < ((k_ : Nat) : Int))))))), (d_, .inl (cZ, 48, .inl (aB (va_up d1_ i_ false)))), (h2_, .inr (1, [.ref a2_, .ref b2_, .ref d2_, .int (iI ((k_ : Nat) : Int))])), (a2_, .inl (cI, 48, .inl (aN os_))), (b2_, .inl (cI, 48, .inl (aN ns_))), (d2_, .inl (cI, 48, .inl (aN ln_)))]) rfl (fun H_ locs hP_ hD_ hS_ => ?_)
        refine q_iinc (k := 2) ((i_ + 1 : Nat) : Int) hx_ hb_ dX2_arrange_31 hl_ rfl (rfl) (by decide) (lv' := [(2, .int (iI ((i_ + 1 : Nat) : Int))), (0, .ref h_), (1, .ref h2_)]) rfl (fun ls_ hl_ => ?_)
        refine lv_goto (tgt := 7) hx_ hb_ dX2_arrange_34 (by decide) ?_
        exact ih_ (i_ + 1) (va_up w1_ i_ (decide (0 ≤ ((i_ : Nat) : Int) ∧ ((i_ : Nat) : Int) < ((k_ : Nat) : Int)))) (va_up d1_ i_ false) _ _ ls_ (by omega) (by omega) (fun j_ hj_ => by by_cases h0_ : j_ = i_; rw [h0_]; exact ⟨by simp only [va_up, if_pos]; exact decide_eq_decide.mpr ⟨fun h1_ => by omega, fun h1_ => by omega⟩, by simp [va_up]⟩; simp only [va_up, if_neg h0_]; exact hz j_ (by omega)) hP_ hD_ hS_ (lv_sub hl_ [1, 2, 0] rfl)
  rw [show entryFrame m_ args 4 = entryFrame m_ ([.ref h_, .ref h2_] : List Value).toArray 4 from by rw [hargs], lg_entry_eq]
  have hl_ := lv_entry ([.ref h_, .ref h2_]) (n := 4) (Nat.le_of_ble_eq_true rfl)
  generalize (lg_sl ([.ref h_, .ref h2_]) ++ List.replicate (4 - (lg_sl ([.ref h_, .ref h2_])).length) Slot.unset).toArray = ls_ at hl_ ⊢
  have hl_ : lv_has ls_ 4 [(0, .ref h_), (1, .ref h2_)] := hl_
  refine lv_aload_n hx_ hb_ dX2_arrange_0 rfl (lv_at hl_ 0 rfl) ?_
  refine lv_iconst (v := iI ((0 : Nat) : Int)) hx_ hb_ dX2_arrange_1 rfl ?_
  refine va_put (D := G_) (ci := 2) (v := .int (iI ((0 : Nat) : Int))) (ty := .int) (C := RX2) (T := TX2) (N := 4) hx_ hb_ hts hi2_ tyX2 tyX2_ok nmX2 hown hK_ hP_ hD_ hS_ 0 rfl rfl 3 (by decide) hf22_ (fun _ h9 => h9) rfl (by decide +kernel) rfl rfl (Nat.le_of_ble_eq_true rfl) dX2_arrange_2 (fun H_ locs hP_ hD_ hS_ => ?_)
  have hP_ : va_P G_ vwCl [(h_, .inr (2, [.ref a_, .ref b_, .ref d_, .int (iI ((0 : Nat) : Int))])), (a_, .inl (cI, 48, .inl (aN od_))), (b_, .inl (cZ, 48, .inl (aB wt_))), (d_, .inl (cZ, 48, .inl (aB dr_))), (h2_, .inr (1, [.ref a2_, .ref b2_, .ref d2_, .int (iI ((k_ : Nat) : Int))])), (a2_, .inl (cI, 48, .inl (aN os_))), (b2_, .inl (cI, 48, .inl (aN ns_))), (d2_, .inl (cI, 48, .inl (aN ln_)))] H_ := hP_
  have hD_ : va_D A_ [(h_, .inr (2, [.ref a_, .ref b_, .ref d_, .int (iI ((0 : Nat) : Int))])), (a_, .inl (cI, 48, .inl (aN od_))), (b_, .inl (cZ, 48, .inl (aB wt_))), (d_, .inl (cZ, 48, .inl (aB dr_))), (h2_, .inr (1, [.ref a2_, .ref b2_, .ref d2_, .int (iI ((k_ : Nat) : Int))])), (a2_, .inl (cI, 48, .inl (aN os_))), (b2_, .inl (cI, 48, .inl (aN ns_))), (d2_, .inl (cI, 48, .inl (aN ln_)))] := hD_
  refine lv_iconst (v := iI ((0 : Nat) : Int)) hx_ hb_ dX2_arrange_5 rfl ?_
  refine lv_istore_n (lv' := [(2, .int (iI ((0 : Nat) : Int))), (0, .ref h_), (1, .ref h2_)]) hx_ hb_ dX2_arrange_6 rfl hl_ (by decide) rfl (fun ls_ hl_ => ?_)
  exact lp7 (49) 0 wt_ dr_ _ _ ls_ (by omega) (by omega) (fun j_ hj_ => absurd hj_ (Nat.not_lt_zero _)) hP_ hD_ hS_ (lv_sub hl_ [1, 2, 0] rfl)
