set_option maxHeartbeats 4000000 in
set_option maxRecDepth 100000 in
/-- Blocks.size -/
theorem c_X1_size (l_ : Launch) (G_ : va_G) (cI cZ : ClassId) (h_ a_ b_ d_ : Nat) (k_ : Nat) (os_ ns_ ln_ : Nat → Nat) : Ro l_ yX1_size wsX1_size ({ frames := 0, cells := 0, slots := 0, locals := 0 }) G_ cI cZ [.ref h_] (wBl cI h_ a_ b_ d_ k_ os_ ns_ ln_) ((k_ : Nat) : Int) := by
  refine Met.ofW (cc := cX1_size) (maxL := 1) (ret := (some .int)) (by decide) rfl ?_
  intro p_ e_ s_ m_ args below meth c_ s₁ B hml hv
  obtain ⟨hargs, hP_, hK_⟩ := hv
  have hx_ := B.exec
  have hb_ := B.bytes
  have hr := B.returns
  have hts := atoms_spec (ws := wsX1_size) B.pre
  have hown : s_.vm.findClass RX1 = some m_.cls := findClass_of_methodNamed B.named
  have hlocks := B.notSynchronized
  have hi1_ : ∀ w_ ∈ wsX10, w_ ∈ wsX1_size := by decide +kernel
  have hf21_ := hts (.fieldLink RX1 21 "RelocatingPatch$Blocks" "size" "I") (by decide +kernel)
  have hP_ : va_P G_ vwCl [(h_, .inr (1, [.ref a_, .ref b_, .ref d_, .int (iI ((k_ : Nat) : Int))])), (a_, .inl (cI, 48, .inl (aN os_))), (b_, .inl (cI, 48, .inl (aN ns_))), (d_, .inl (cI, 48, .inl (aN ln_)))] s_.heap := hP_
  generalize hQe : MQ below (vp_Si (fun r_ => r_ = iI ((k_ : Nat) : Int))) args s_ 0 0 (fun _ => False) = Q_
  rw [show entryFrame m_ args 1 = entryFrame m_ ([.ref h_] : List Value).toArray 1 from by rw [hargs], lg_entry_eq]
  have hl_ := lv_entry ([.ref h_]) (n := 1) (Nat.le_of_ble_eq_true rfl)
  generalize (lg_sl ([.ref h_]) ++ List.replicate (1 - (lg_sl ([.ref h_])).length) Slot.unset).toArray = ls_ at hl_ ⊢
  have hl_ : lv_has ls_ 1 [(0, .ref h_)] := hl_
  refine lv_aload_n hx_ hb_ dX1_size_0 rfl (lv_at hl_ 0 rfl) ?_
  refine va_get (D := G_) (ci := 1) (v := .int (iI ((k_ : Nat) : Int))) (C := RX1) (T := TX1) (N := 4) hx_ hb_ hts hi1_ hown hK_ hP_ 0 rfl rfl 3 (by decide) hf21_ (fun _ h9 => h9) rfl dX1_size_1 ?_
  rw [← hQe]
  exact W.iret hx_ hb_ hr (fun tt1 htt1 hWW1 => ⟨_, rfl, congrArg iI (by first | rfl | omega), htt1⟩) (fun q_ h_ => absurd h_ List.not_mem_nil) dX1_size_4

set_option maxHeartbeats 4000000 in
set_option maxRecDepth 100000 in
/-- Blocks.has -/
theorem c_X1_has (l_ : Launch) (G_ : va_G) (cI cZ : ClassId) (h_ a_ b_ d_ : Nat) (k_ : Nat) (os_ ns_ ln_ : Nat → Nat) (x_ : Int) (hk_ : k_ ≤ 48) (hx1 : -2147483648 ≤ x_) (hx2 : x_ < 2147483648) : Ro l_ yX1_has wsX1_has ({ frames := 0, cells := 0, slots := 0, locals := 0 }) G_ cI cZ [.ref h_, .int (iI (x_))] (wBl cI h_ a_ b_ d_ k_ os_ ns_ ln_) (bZ (decide (0 ≤ x_ ∧ x_ < ((k_ : Nat) : Int)))) := by
  refine Met.ofW (cc := cX1_has) (maxL := 2) (ret := (some .boolean)) (by decide) rfl ?_
  intro p_ e_ s_ m_ args below meth c_ s₁ B hml hv
  obtain ⟨hargs, hP_, hK_⟩ := hv
  have hx_ := B.exec
  have hb_ := B.bytes
  have hr := B.returns
  have hts := atoms_spec (ws := wsX1_has) B.pre
  have hown : s_.vm.findClass RX1 = some m_.cls := findClass_of_methodNamed B.named
  have hlocks := B.notSynchronized
  have hi1_ : ∀ w_ ∈ wsX10, w_ ∈ wsX1_has := by decide +kernel
  have hf21_ := hts (.fieldLink RX1 21 "RelocatingPatch$Blocks" "size" "I") (by decide +kernel)
  have hP_ : va_P G_ vwCl [(h_, .inr (1, [.ref a_, .ref b_, .ref d_, .int (iI ((k_ : Nat) : Int))])), (a_, .inl (cI, 48, .inl (aN os_))), (b_, .inl (cI, 48, .inl (aN ns_))), (d_, .inl (cI, 48, .inl (aN ln_)))] s_.heap := hP_
  generalize hQe : MQ below (vp_Si (fun r_ => r_ = iI (bZ (decide (0 ≤ x_ ∧ x_ < ((k_ : Nat) : Int)))))) args s_ 0 0 (fun _ => False) = Q_
  rw [show entryFrame m_ args 2 = entryFrame m_ ([.ref h_, .int (iI (x_))] : List Value).toArray 2 from by rw [hargs], lg_entry_eq]
  have hl_ := lv_entry ([.ref h_, .int (iI (x_))]) (n := 2) (Nat.le_of_ble_eq_true rfl)
  generalize (lg_sl ([.ref h_, .int (iI (x_))]) ++ List.replicate (2 - (lg_sl ([.ref h_, .int (iI (x_))])).length) Slot.unset).toArray = ls_ at hl_ ⊢
  have hl_ : lv_has ls_ 2 [(0, .ref h_), (1, .int (iI (x_)))] := hl_
  refine lv_iload_n hx_ hb_ dX1_has_0 rfl (lv_at hl_ 1 rfl) ?_
  refine q_if_lt (tgt := 16) hx_ hb_ dX1_has_1 (by decide) (⟨by omega, by omega⟩) (fun c1_ => ?_) (fun c1_ => ?_)
  · skip
    refine lv_iconst (v := iI ((0 : Nat) : Int)) hx_ hb_ dX1_has_16 rfl ?_
    rw [← hQe]
    refine q_cast (b := bZ false) rfl ?_
    exact W.zret (v := _) hx_ hb_ hr (nar_bZ _) (fun tt1 htt1 hWW1 => ⟨_, rfl, congrArg iI (congrArg bZ (decide_eq_false (by omega)).symm), htt1⟩) (fun q_ h_ => absurd h_ List.not_mem_nil) dX1_has_17
  · skip
    refine lv_iload_n hx_ hb_ dX1_has_4 rfl (lv_at hl_ 1 rfl) ?_
    refine lv_aload_n hx_ hb_ dX1_has_5 rfl (lv_at hl_ 0 rfl) ?_
    refine va_get (D := G_) (ci := 1) (v := .int (iI ((k_ : Nat) : Int))) (C := RX1) (T := TX1) (N := 4) hx_ hb_ hts hi1_ hown hK_ hP_ 0 rfl rfl 3 (by decide) hf21_ (fun _ h9 => h9) rfl dX1_has_6 ?_
    refine q_icmp_ge (tgt := 16) hx_ hb_ dX1_has_9 (by decide) (⟨by omega, by omega⟩) (⟨by omega, by omega⟩) (fun c9_ => ?_) (fun c9_ => ?_)
    · skip
      refine lv_iconst (v := iI ((0 : Nat) : Int)) hx_ hb_ dX1_has_16 rfl ?_
      rw [← hQe]
      refine q_cast (b := bZ false) rfl ?_
      exact W.zret (v := _) hx_ hb_ hr (nar_bZ _) (fun tt1 htt1 hWW1 => ⟨_, rfl, congrArg iI (congrArg bZ (decide_eq_false (by omega)).symm), htt1⟩) (fun q_ h_ => absurd h_ List.not_mem_nil) dX1_has_17
    · skip
      refine lv_iconst (v := iI ((1 : Nat) : Int)) hx_ hb_ dX1_has_12 rfl ?_
      refine lv_goto (tgt := 17) hx_ hb_ dX1_has_13 (by decide) ?_
      rw [← hQe]
      refine q_cast (b := bZ true) rfl ?_
      exact W.zret (v := _) hx_ hb_ hr (nar_bZ _) (fun tt1 htt1 hWW1 => ⟨_, rfl, congrArg iI (congrArg bZ (decide_eq_true (by omega)).symm), htt1⟩) (fun q_ h_ => absurd h_ List.not_mem_nil) dX1_has_17

set_option maxHeartbeats 4000000 in
set_option maxRecDepth 100000 in
/-- Blocks.oldStart -/
theorem c_X1_oldStart (l_ : Launch) (G_ : va_G) (cI cZ : ClassId) (h_ a_ b_ d_ : Nat) (k_ : Nat) (os_ ns_ ln_ : Nat → Nat) (j_ : Nat) (hk_ : k_ ≤ 48) (hj_ : j_ < k_) : Ro l_ yX1_oldStart wsX1_oldStart ({ frames := 1, cells := 0, slots := 0, locals := 21 }) G_ cI cZ [.ref h_, .int (iI ((j_ : Nat) : Int))] (wBl cI h_ a_ b_ d_ k_ os_ ns_ ln_) ((os_ j_ : Nat) : Int) := by
  refine Met.ofW (cc := cX1_oldStart) (maxL := 2) (ret := (some .int)) (by decide) rfl ?_
  intro p_ e_ s_ m_ args below meth c_ s₁ B hml hv
  obtain ⟨hargs, hP_, hK_⟩ := hv
  have hx_ := B.exec
  have hb_ := B.bytes
  have hr := B.returns
  have hts := atoms_spec (ws := wsX1_oldStart) B.pre
  have hown : s_.vm.findClass RX1 = some m_.cls := findClass_of_methodNamed B.named
  have hlocks := B.notSynchronized
  have hi1_ : ∀ w_ ∈ wsX10, w_ ∈ wsX1_oldStart := by decide +kernel
  have hf9_ := hts (.fieldLink RX1 9 "RelocatingPatch$Blocks" "oldStarts" "[I") (by decide +kernel)
  have hP_ : va_P G_ vwCl [(h_, .inr (1, [.ref a_, .ref b_, .ref d_, .int (iI ((k_ : Nat) : Int))])), (a_, .inl (cI, 48, .inl (aN os_))), (b_, .inl (cI, 48, .inl (aN ns_))), (d_, .inl (cI, 48, .inl (aN ln_)))] s_.heap := hP_
  generalize hQe : MQ below (vp_Si (fun r_ => r_ = iI ((os_ j_ : Nat) : Int))) args s_ 0 0 (fun _ => False) = Q_
  rw [show entryFrame m_ args 2 = entryFrame m_ ([.ref h_, .int (iI ((j_ : Nat) : Int))] : List Value).toArray 2 from by rw [hargs], lg_entry_eq]
  have hl_ := lv_entry ([.ref h_, .int (iI ((j_ : Nat) : Int))]) (n := 2) (Nat.le_of_ble_eq_true rfl)
  generalize (lg_sl ([.ref h_, .int (iI ((j_ : Nat) : Int))]) ++ List.replicate (2 - (lg_sl ([.ref h_, .int (iI ((j_ : Nat) : Int))])).length) Slot.unset).toArray = ls_ at hl_ ⊢
  have hl_ : lv_has ls_ 2 [(0, .ref h_), (1, .int (iI ((j_ : Nat) : Int)))] := hl_
  refine lv_aload_n hx_ hb_ dX1_oldStart_0 rfl (lv_at hl_ 0 rfl) ?_
  refine lv_iload_n hx_ hb_ dX1_oldStart_1 rfl (lv_at hl_ 1 rfl) ?_
  refine ro_V (As := [.int (iI ((j_ : Nat) : Int))]) (rest := []) ⟨hx_, hb_, hml, hown, hts⟩ (c_X1_has l_ G_ cI cZ h_ a_ b_ d_ k_ os_ ns_ ln_ ((j_ : Nat) : Int) (by omega) (by omega) (by omega)) (cwV 1 hts gX1_oldStart_X1_has rfl rfl rfl (by decide +kernel) ⟨Nat.le_of_ble_eq_true rfl, Nat.le_of_ble_eq_true rfl⟩) (hP_.sub (ws' := [(h_, .inr (1, [.ref a_, .ref b_, .ref d_, .int (iI ((k_ : Nat) : Int))])), (a_, .inl (cI, 48, .inl (aN os_))), (b_, .inl (cI, 48, .inl (aN ns_))), (d_, .inl (cI, 48, .inl (aN ln_)))]) [0, 1, 2, 3] rfl) hK_ 0 rfl rfl rfl hl_.1 rfl (Nat.le_of_ble_eq_true rfl) dX1_oldStart_2 ⟨Nat.zero_le _, Nat.zero_le _⟩ ?_
  refine q_df (tgt := 17) hx_ hb_ dX1_oldStart_5 (by decide) (fun c5_ => absurd c5_ (by omega)) (fun c5_ => ?_)
  refine lv_aload_n hx_ hb_ dX1_oldStart_8 rfl (lv_at hl_ 0 rfl) ?_
  refine va_get (D := G_) (ci := 1) (v := .ref a_) (C := RX1) (T := TX1) (N := 4) hx_ hb_ hts hi1_ hown hK_ hP_ 0 rfl rfl 0 (by decide) hf9_ (fun _ h9 => h9) rfl dX1_oldStart_9 ?_
  refine lv_iload_n hx_ hb_ dX1_oldStart_12 rfl (lv_at hl_ 1 rfl) ?_
  refine q_ildN hx_ hb_ hK_ hP_ 1 rfl (by decide) (j_) (by omega) (os_ j_) (rfl) dX1_oldStart_13 ?_
  refine lv_goto (tgt := 18) hx_ hb_ dX1_oldStart_14 (by decide) ?_
  rw [← hQe]
  exact W.iret hx_ hb_ hr (fun tt1 htt1 hWW1 => ⟨_, rfl, congrArg iI (by first | rfl | omega), htt1⟩) (fun q_ h_ => absurd h_ List.not_mem_nil) dX1_oldStart_18

set_option maxHeartbeats 4000000 in
set_option maxRecDepth 100000 in
/-- Blocks.newStart -/
theorem c_X1_newStart (l_ : Launch) (G_ : va_G) (cI cZ : ClassId) (h_ a_ b_ d_ : Nat) (k_ : Nat) (os_ ns_ ln_ : Nat → Nat) (j_ : Nat) (hk_ : k_ ≤ 48) (hj_ : j_ < k_) : Ro l_ yX1_newStart wsX1_newStart ({ frames := 1, cells := 0, slots := 0, locals := 21 }) G_ cI cZ [.ref h_, .int (iI ((j_ : Nat) : Int))] (wBl cI h_ a_ b_ d_ k_ os_ ns_ ln_) ((ns_ j_ : Nat) : Int) := by
  refine Met.ofW (cc := cX1_newStart) (maxL := 2) (ret := (some .int)) (by decide) rfl ?_
  intro p_ e_ s_ m_ args below meth c_ s₁ B hml hv
  obtain ⟨hargs, hP_, hK_⟩ := hv
  have hx_ := B.exec
  have hb_ := B.bytes
  have hr := B.returns
  have hts := atoms_spec (ws := wsX1_newStart) B.pre
  have hown : s_.vm.findClass RX1 = some m_.cls := findClass_of_methodNamed B.named
  have hlocks := B.notSynchronized
  have hi1_ : ∀ w_ ∈ wsX10, w_ ∈ wsX1_newStart := by decide +kernel
  have hf15_ := hts (.fieldLink RX1 15 "RelocatingPatch$Blocks" "newStarts" "[I") (by decide +kernel)
  have hP_ : va_P G_ vwCl [(h_, .inr (1, [.ref a_, .ref b_, .ref d_, .int (iI ((k_ : Nat) : Int))])), (a_, .inl (cI, 48, .inl (aN os_))), (b_, .inl (cI, 48, .inl (aN ns_))), (d_, .inl (cI, 48, .inl (aN ln_)))] s_.heap := hP_
  generalize hQe : MQ below (vp_Si (fun r_ => r_ = iI ((ns_ j_ : Nat) : Int))) args s_ 0 0 (fun _ => False) = Q_
  rw [show entryFrame m_ args 2 = entryFrame m_ ([.ref h_, .int (iI ((j_ : Nat) : Int))] : List Value).toArray 2 from by rw [hargs], lg_entry_eq]
  have hl_ := lv_entry ([.ref h_, .int (iI ((j_ : Nat) : Int))]) (n := 2) (Nat.le_of_ble_eq_true rfl)
  generalize (lg_sl ([.ref h_, .int (iI ((j_ : Nat) : Int))]) ++ List.replicate (2 - (lg_sl ([.ref h_, .int (iI ((j_ : Nat) : Int))])).length) Slot.unset).toArray = ls_ at hl_ ⊢
  have hl_ : lv_has ls_ 2 [(0, .ref h_), (1, .int (iI ((j_ : Nat) : Int)))] := hl_
  refine lv_aload_n hx_ hb_ dX1_newStart_0 rfl (lv_at hl_ 0 rfl) ?_
  refine lv_iload_n hx_ hb_ dX1_newStart_1 rfl (lv_at hl_ 1 rfl) ?_
  refine ro_V (As := [.int (iI ((j_ : Nat) : Int))]) (rest := []) ⟨hx_, hb_, hml, hown, hts⟩ (c_X1_has l_ G_ cI cZ h_ a_ b_ d_ k_ os_ ns_ ln_ ((j_ : Nat) : Int) (by omega) (by omega) (by omega)) (cwV 1 hts gX1_newStart_X1_has rfl rfl rfl (by decide +kernel) ⟨Nat.le_of_ble_eq_true rfl, Nat.le_of_ble_eq_true rfl⟩) (hP_.sub (ws' := [(h_, .inr (1, [.ref a_, .ref b_, .ref d_, .int (iI ((k_ : Nat) : Int))])), (a_, .inl (cI, 48, .inl (aN os_))), (b_, .inl (cI, 48, .inl (aN ns_))), (d_, .inl (cI, 48, .inl (aN ln_)))]) [0, 1, 2, 3] rfl) hK_ 0 rfl rfl rfl hl_.1 rfl (Nat.le_of_ble_eq_true rfl) dX1_newStart_2 ⟨Nat.zero_le _, Nat.zero_le _⟩ ?_
  refine q_df (tgt := 17) hx_ hb_ dX1_newStart_5 (by decide) (fun c5_ => absurd c5_ (by omega)) (fun c5_ => ?_)
  refine lv_aload_n hx_ hb_ dX1_newStart_8 rfl (lv_at hl_ 0 rfl) ?_
  refine va_get (D := G_) (ci := 1) (v := .ref b_) (C := RX1) (T := TX1) (N := 4) hx_ hb_ hts hi1_ hown hK_ hP_ 0 rfl rfl 1 (by decide) hf15_ (fun _ h9 => h9) rfl dX1_newStart_9 ?_
  refine lv_iload_n hx_ hb_ dX1_newStart_12 rfl (lv_at hl_ 1 rfl) ?_
  refine q_ildN hx_ hb_ hK_ hP_ 2 rfl (by decide) (j_) (by omega) (ns_ j_) (rfl) dX1_newStart_13 ?_
  refine lv_goto (tgt := 18) hx_ hb_ dX1_newStart_14 (by decide) ?_
  rw [← hQe]
  exact W.iret hx_ hb_ hr (fun tt1 htt1 hWW1 => ⟨_, rfl, congrArg iI (by first | rfl | omega), htt1⟩) (fun q_ h_ => absurd h_ List.not_mem_nil) dX1_newStart_18

set_option maxHeartbeats 4000000 in
set_option maxRecDepth 100000 in
/-- Blocks.length -/
theorem c_X1_length (l_ : Launch) (G_ : va_G) (cI cZ : ClassId) (h_ a_ b_ d_ : Nat) (k_ : Nat) (os_ ns_ ln_ : Nat → Nat) (j_ : Nat) (hk_ : k_ ≤ 48) (hj_ : j_ < k_) : Ro l_ yX1_length wsX1_length ({ frames := 1, cells := 0, slots := 0, locals := 21 }) G_ cI cZ [.ref h_, .int (iI ((j_ : Nat) : Int))] (wBl cI h_ a_ b_ d_ k_ os_ ns_ ln_) ((ln_ j_ : Nat) : Int) := by
  refine Met.ofW (cc := cX1_length) (maxL := 2) (ret := (some .int)) (by decide) rfl ?_
  intro p_ e_ s_ m_ args below meth c_ s₁ B hml hv
  obtain ⟨hargs, hP_, hK_⟩ := hv
  have hx_ := B.exec
  have hb_ := B.bytes
  have hr := B.returns
  have hts := atoms_spec (ws := wsX1_length) B.pre
  have hown : s_.vm.findClass RX1 = some m_.cls := findClass_of_methodNamed B.named
  have hlocks := B.notSynchronized
  have hi1_ : ∀ w_ ∈ wsX10, w_ ∈ wsX1_length := by decide +kernel
  have hf18_ := hts (.fieldLink RX1 18 "RelocatingPatch$Blocks" "lengths" "[I") (by decide +kernel)
  have hP_ : va_P G_ vwCl [(h_, .inr (1, [.ref a_, .ref b_, .ref d_, .int (iI ((k_ : Nat) : Int))])), (a_, .inl (cI, 48, .inl (aN os_))), (b_, .inl (cI, 48, .inl (aN ns_))), (d_, .inl (cI, 48, .inl (aN ln_)))] s_.heap := hP_
  generalize hQe : MQ below (vp_Si (fun r_ => r_ = iI ((ln_ j_ : Nat) : Int))) args s_ 0 0 (fun _ => False) = Q_
  rw [show entryFrame m_ args 2 = entryFrame m_ ([.ref h_, .int (iI ((j_ : Nat) : Int))] : List Value).toArray 2 from by rw [hargs], lg_entry_eq]
  have hl_ := lv_entry ([.ref h_, .int (iI ((j_ : Nat) : Int))]) (n := 2) (Nat.le_of_ble_eq_true rfl)
  generalize (lg_sl ([.ref h_, .int (iI ((j_ : Nat) : Int))]) ++ List.replicate (2 - (lg_sl ([.ref h_, .int (iI ((j_ : Nat) : Int))])).length) Slot.unset).toArray = ls_ at hl_ ⊢
  have hl_ : lv_has ls_ 2 [(0, .ref h_), (1, .int (iI ((j_ : Nat) : Int)))] := hl_
  refine lv_aload_n hx_ hb_ dX1_length_0 rfl (lv_at hl_ 0 rfl) ?_
  refine lv_iload_n hx_ hb_ dX1_length_1 rfl (lv_at hl_ 1 rfl) ?_
  refine ro_V (As := [.int (iI ((j_ : Nat) : Int))]) (rest := []) ⟨hx_, hb_, hml, hown, hts⟩ (c_X1_has l_ G_ cI cZ h_ a_ b_ d_ k_ os_ ns_ ln_ ((j_ : Nat) : Int) (by omega) (by omega) (by omega)) (cwV 1 hts gX1_length_X1_has rfl rfl rfl (by decide +kernel) ⟨Nat.le_of_ble_eq_true rfl, Nat.le_of_ble_eq_true rfl⟩) (hP_.sub (ws' := [(h_, .inr (1, [.ref a_, .ref b_, .ref d_, .int (iI ((k_ : Nat) : Int))])), (a_, .inl (cI, 48, .inl (aN os_))), (b_, .inl (cI, 48, .inl (aN ns_))), (d_, .inl (cI, 48, .inl (aN ln_)))]) [0, 1, 2, 3] rfl) hK_ 0 rfl rfl rfl hl_.1 rfl (Nat.le_of_ble_eq_true rfl) dX1_length_2 ⟨Nat.zero_le _, Nat.zero_le _⟩ ?_
  refine q_df (tgt := 17) hx_ hb_ dX1_length_5 (by decide) (fun c5_ => absurd c5_ (by omega)) (fun c5_ => ?_)
  refine lv_aload_n hx_ hb_ dX1_length_8 rfl (lv_at hl_ 0 rfl) ?_
  refine va_get (D := G_) (ci := 1) (v := .ref d_) (C := RX1) (T := TX1) (N := 4) hx_ hb_ hts hi1_ hown hK_ hP_ 0 rfl rfl 2 (by decide) hf18_ (fun _ h9 => h9) rfl dX1_length_9 ?_
  refine lv_iload_n hx_ hb_ dX1_length_12 rfl (lv_at hl_ 1 rfl) ?_
  refine q_ildN hx_ hb_ hK_ hP_ 3 rfl (by decide) (j_) (by omega) (ln_ j_) (rfl) dX1_length_13 ?_
  refine lv_goto (tgt := 18) hx_ hb_ dX1_length_14 (by decide) ?_
  rw [← hQe]
  exact W.iret hx_ hb_ hr (fun tt1 htt1 hWW1 => ⟨_, rfl, congrArg iI (by first | rfl | omega), htt1⟩) (fun q_ h_ => absurd h_ List.not_mem_nil) dX1_length_18

set_option maxHeartbeats 4000000 in
set_option maxRecDepth 100000 in
/-- Blocks.oldIndex -/
theorem c_X1_oldIndex (l_ : Launch) (G_ : va_G) (cI cZ : ClassId) (h_ a_ b_ d_ : Nat) (k_ : Nat) (os_ ns_ ln_ : Nat → Nat) (j_ : Nat) (x_ : Int) (hk_ : k_ ≤ 48) (hj_ : j_ < k_) : Ro l_ yX1_oldIndex wsX1_oldIndex ({ frames := 2, cells := 0, slots := 0, locals := 42 }) G_ cI cZ [.ref h_, .int (iI ((j_ : Nat) : Int)), .int (iI (x_))] (wBl cI h_ a_ b_ d_ k_ os_ ns_ ln_) (x_ - ((ns_ j_ : Nat) : Int) + ((os_ j_ : Nat) : Int)) := by
  refine Met.ofW (cc := cX1_oldIndex) (maxL := 3) (ret := (some .int)) (by decide) rfl ?_
  intro p_ e_ s_ m_ args below meth c_ s₁ B hml hv
  obtain ⟨hargs, hP_, hK_⟩ := hv
  have hx_ := B.exec
  have hb_ := B.bytes
  have hr := B.returns
  have hts := atoms_spec (ws := wsX1_oldIndex) B.pre
  have hown : s_.vm.findClass RX1 = some m_.cls := findClass_of_methodNamed B.named
  have hlocks := B.notSynchronized
  have hP_ : va_P G_ vwCl [(h_, .inr (1, [.ref a_, .ref b_, .ref d_, .int (iI ((k_ : Nat) : Int))])), (a_, .inl (cI, 48, .inl (aN os_))), (b_, .inl (cI, 48, .inl (aN ns_))), (d_, .inl (cI, 48, .inl (aN ln_)))] s_.heap := hP_
  generalize hQe : MQ below (vp_Si (fun r_ => r_ = iI (x_ - ((ns_ j_ : Nat) : Int) + ((os_ j_ : Nat) : Int)))) args s_ 0 0 (fun _ => False) = Q_
  rw [show entryFrame m_ args 3 = entryFrame m_ ([.ref h_, .int (iI ((j_ : Nat) : Int)), .int (iI (x_))] : List Value).toArray 3 from by rw [hargs], lg_entry_eq]
  have hl_ := lv_entry ([.ref h_, .int (iI ((j_ : Nat) : Int)), .int (iI (x_))]) (n := 3) (Nat.le_of_ble_eq_true rfl)
  generalize (lg_sl ([.ref h_, .int (iI ((j_ : Nat) : Int)), .int (iI (x_))]) ++ List.replicate (3 - (lg_sl ([.ref h_, .int (iI ((j_ : Nat) : Int)), .int (iI (x_))])).length) Slot.unset).toArray = ls_ at hl_ ⊢
  have hl_ : lv_has ls_ 3 [(0, .ref h_), (1, .int (iI ((j_ : Nat) : Int))), (2, .int (iI (x_)))] := hl_
  refine lv_iload_n hx_ hb_ dX1_oldIndex_0 rfl (lv_at hl_ 2 rfl) ?_
  refine lv_aload_n hx_ hb_ dX1_oldIndex_1 rfl (lv_at hl_ 0 rfl) ?_
  refine lv_iload_n hx_ hb_ dX1_oldIndex_2 rfl (lv_at hl_ 1 rfl) ?_
  refine ro_V (As := [.int (iI ((j_ : Nat) : Int))]) (rest := [.int (iI (x_))]) ⟨hx_, hb_, hml, hown, hts⟩ (c_X1_newStart l_ G_ cI cZ h_ a_ b_ d_ k_ os_ ns_ ln_ j_ (by omega) (by omega)) (cwV 1 hts gX1_oldIndex_X1_newStart rfl rfl rfl (by decide +kernel) ⟨Nat.le_of_ble_eq_true rfl, Nat.le_of_ble_eq_true rfl⟩) (hP_.sub (ws' := [(h_, .inr (1, [.ref a_, .ref b_, .ref d_, .int (iI ((k_ : Nat) : Int))])), (a_, .inl (cI, 48, .inl (aN os_))), (b_, .inl (cI, 48, .inl (aN ns_))), (d_, .inl (cI, 48, .inl (aN ln_)))]) [0, 1, 2, 3] rfl) hK_ 0 rfl rfl rfl hl_.1 rfl (Nat.le_of_ble_eq_true rfl) dX1_oldIndex_3 ⟨Nat.zero_le _, Nat.zero_le _⟩ ?_
  refine q_isub hx_ hb_ dX1_oldIndex_6 ?_
  refine lv_aload_n hx_ hb_ dX1_oldIndex_7 rfl (lv_at hl_ 0 rfl) ?_
  refine lv_iload_n hx_ hb_ dX1_oldIndex_8 rfl (lv_at hl_ 1 rfl) ?_
  refine ro_V (As := [.int (iI ((j_ : Nat) : Int))]) (rest := [.int (iI ((x_) - ((ns_ j_ : Nat) : Int)))]) ⟨hx_, hb_, hml, hown, hts⟩ (c_X1_oldStart l_ G_ cI cZ h_ a_ b_ d_ k_ os_ ns_ ln_ j_ (by omega) (by omega)) (cwV 1 hts gX1_oldIndex_X1_oldStart rfl rfl rfl (by decide +kernel) ⟨Nat.le_of_ble_eq_true rfl, Nat.le_of_ble_eq_true rfl⟩) (hP_.sub (ws' := [(h_, .inr (1, [.ref a_, .ref b_, .ref d_, .int (iI ((k_ : Nat) : Int))])), (a_, .inl (cI, 48, .inl (aN os_))), (b_, .inl (cI, 48, .inl (aN ns_))), (d_, .inl (cI, 48, .inl (aN ln_)))]) [0, 1, 2, 3] rfl) hK_ 0 rfl rfl rfl hl_.1 rfl (Nat.le_of_ble_eq_true rfl) dX1_oldIndex_9 ⟨Nat.zero_le _, Nat.zero_le _⟩ ?_
  refine q_iadd hx_ hb_ dX1_oldIndex_12 ?_
  rw [← hQe]
  exact W.iret hx_ hb_ hr (fun tt1 htt1 hWW1 => ⟨_, rfl, congrArg iI (by first | rfl | omega), htt1⟩) (fun q_ h_ => absurd h_ List.not_mem_nil) dX1_oldIndex_13

set_option maxHeartbeats 4000000 in
set_option maxRecDepth 100000 in
/-- Blocks.covers -/
theorem c_X1_covers (l_ : Launch) (G_ : va_G) (cI cZ : ClassId) (h_ a_ b_ d_ : Nat) (k_ : Nat) (os_ ns_ ln_ : Nat → Nat) (j_ : Nat) (x_ : Int) (hk_ : k_ ≤ 48) (hj_ : j_ < k_) (hB_ : B48 k_ os_ ns_ ln_) (hx1 : -2147483648 ≤ x_) (hx2 : x_ < 2147483648) : Ro l_ yX1_covers wsX1_covers ({ frames := 2, cells := 0, slots := 0, locals := 42 }) G_ cI cZ [.ref h_, .int (iI ((j_ : Nat) : Int)), .int (iI (x_))] (wBl cI h_ a_ b_ d_ k_ os_ ns_ ln_) (bZ (cv ns_ ln_ x_ j_)) := by
  refine Met.ofW (cc := cX1_covers) (maxL := 4) (ret := (some .boolean)) (by decide) rfl ?_
  intro p_ e_ s_ m_ args below meth c_ s₁ B hml hv
  obtain ⟨hargs, hP_, hK_⟩ := hv
  have hx_ := B.exec
  have hb_ := B.bytes
  have hr := B.returns
  have hts := atoms_spec (ws := wsX1_covers) B.pre
  have hown : s_.vm.findClass RX1 = some m_.cls := findClass_of_methodNamed B.named
  have hlocks := B.notSynchronized
  have hP_ : va_P G_ vwCl [(h_, .inr (1, [.ref a_, .ref b_, .ref d_, .int (iI ((k_ : Nat) : Int))])), (a_, .inl (cI, 48, .inl (aN os_))), (b_, .inl (cI, 48, .inl (aN ns_))), (d_, .inl (cI, 48, .inl (aN ln_)))] s_.heap := hP_
  generalize hQe : MQ below (vp_Si (fun r_ => r_ = iI (bZ (cv ns_ ln_ x_ j_)))) args s_ 0 0 (fun _ => False) = Q_
  have fb1 := hB_ j_ hj_
  rw [show entryFrame m_ args 4 = entryFrame m_ ([.ref h_, .int (iI ((j_ : Nat) : Int)), .int (iI (x_))] : List Value).toArray 4 from by rw [hargs], lg_entry_eq]
  have hl_ := lv_entry ([.ref h_, .int (iI ((j_ : Nat) : Int)), .int (iI (x_))]) (n := 4) (Nat.le_of_ble_eq_true rfl)
  generalize (lg_sl ([.ref h_, .int (iI ((j_ : Nat) : Int)), .int (iI (x_))]) ++ List.replicate (4 - (lg_sl ([.ref h_, .int (iI ((j_ : Nat) : Int)), .int (iI (x_))])).length) Slot.unset).toArray = ls_ at hl_ ⊢
  have hl_ : lv_has ls_ 4 [(0, .ref h_), (1, .int (iI ((j_ : Nat) : Int))), (2, .int (iI (x_)))] := hl_
  refine lv_aload_n hx_ hb_ dX1_covers_0 rfl (lv_at hl_ 0 rfl) ?_
  refine lv_iload_n hx_ hb_ dX1_covers_1 rfl (lv_at hl_ 1 rfl) ?_
  refine ro_V (As := [.int (iI ((j_ : Nat) : Int))]) (rest := []) ⟨hx_, hb_, hml, hown, hts⟩ (c_X1_newStart l_ G_ cI cZ h_ a_ b_ d_ k_ os_ ns_ ln_ j_ (by omega) (by omega)) (cwV 1 hts gX1_covers_X1_newStart rfl rfl rfl (by decide +kernel) ⟨Nat.le_of_ble_eq_true rfl, Nat.le_of_ble_eq_true rfl⟩) (hP_.sub (ws' := [(h_, .inr (1, [.ref a_, .ref b_, .ref d_, .int (iI ((k_ : Nat) : Int))])), (a_, .inl (cI, 48, .inl (aN os_))), (b_, .inl (cI, 48, .inl (aN ns_))), (d_, .inl (cI, 48, .inl (aN ln_)))]) [0, 1, 2, 3] rfl) hK_ 0 rfl rfl rfl hl_.1 rfl (Nat.le_of_ble_eq_true rfl) dX1_covers_2 ⟨Nat.zero_le _, Nat.zero_le _⟩ ?_
  refine lv_istore_n (lv' := [(3, .int (iI ((ns_ j_ : Nat) : Int))), (0, .ref h_), (1, .int (iI ((j_ : Nat) : Int))), (2, .int (iI (x_)))]) hx_ hb_ dX1_covers_5 rfl hl_ (by decide) rfl (fun ls_ hl_ => ?_)
  refine lv_iload_n hx_ hb_ dX1_covers_6 rfl (lv_at hl_ 3 rfl) ?_
  refine lv_iload_n hx_ hb_ dX1_covers_7 rfl (lv_at hl_ 0 rfl) ?_
  refine q_icmp_lt (tgt := 26) hx_ hb_ dX1_covers_8 (by decide) (⟨by omega, by omega⟩) (⟨by omega, by omega⟩) (fun c8_ => ?_) (fun c8_ => ?_)
  · skip
    refine lv_iconst (v := iI ((0 : Nat) : Int)) hx_ hb_ dX1_covers_26 rfl ?_
    rw [← hQe]
    refine q_cast (b := bZ false) rfl ?_
    exact W.zret (v := _) hx_ hb_ hr (nar_bZ _) (fun tt1 htt1 hWW1 => ⟨_, rfl, congrArg iI (congrArg bZ ((decide_eq_false (by omega)).symm)), htt1⟩) (fun q_ h_ => absurd h_ List.not_mem_nil) dX1_covers_27
  · skip
    refine lv_iload_n hx_ hb_ dX1_covers_11 rfl (lv_at hl_ 3 rfl) ?_
    refine lv_iload_n hx_ hb_ dX1_covers_12 rfl (lv_at hl_ 0 rfl) ?_
    refine lv_aload_n hx_ hb_ dX1_covers_13 rfl (lv_at hl_ 1 rfl) ?_
    refine lv_iload_n hx_ hb_ dX1_covers_14 rfl (lv_at hl_ 2 rfl) ?_
    refine ro_V (As := [.int (iI ((j_ : Nat) : Int))]) (rest := [.int (iI ((ns_ j_ : Nat) : Int)), .int (iI (x_))]) ⟨hx_, hb_, hml, hown, hts⟩ (c_X1_length l_ G_ cI cZ h_ a_ b_ d_ k_ os_ ns_ ln_ j_ (by omega) (by omega)) (cwV 1 hts gX1_covers_X1_length rfl rfl rfl (by decide +kernel) ⟨Nat.le_of_ble_eq_true rfl, Nat.le_of_ble_eq_true rfl⟩) (hP_.sub (ws' := [(h_, .inr (1, [.ref a_, .ref b_, .ref d_, .int (iI ((k_ : Nat) : Int))])), (a_, .inl (cI, 48, .inl (aN os_))), (b_, .inl (cI, 48, .inl (aN ns_))), (d_, .inl (cI, 48, .inl (aN ln_)))]) [0, 1, 2, 3] rfl) hK_ 0 rfl rfl rfl hl_.1 rfl (Nat.le_of_ble_eq_true rfl) dX1_covers_15 ⟨Nat.zero_le _, Nat.zero_le _⟩ ?_
    refine q_iaddN hx_ hb_ dX1_covers_18 ?_
    refine q_icmp_ge (tgt := 26) hx_ hb_ dX1_covers_19 (by decide) (⟨by omega, by omega⟩) (⟨by omega, by omega⟩) (fun c19_ => ?_) (fun c19_ => ?_)
    · skip
      refine lv_iconst (v := iI ((0 : Nat) : Int)) hx_ hb_ dX1_covers_26 rfl ?_
      rw [← hQe]
      refine q_cast (b := bZ false) rfl ?_
      exact W.zret (v := _) hx_ hb_ hr (nar_bZ _) (fun tt1 htt1 hWW1 => ⟨_, rfl, congrArg iI (congrArg bZ ((decide_eq_false (by omega)).symm)), htt1⟩) (fun q_ h_ => absurd h_ List.not_mem_nil) dX1_covers_27
    · skip
      refine lv_iconst (v := iI ((1 : Nat) : Int)) hx_ hb_ dX1_covers_22 rfl ?_
      refine lv_goto (tgt := 27) hx_ hb_ dX1_covers_23 (by decide) ?_
      rw [← hQe]
      refine q_cast (b := bZ true) rfl ?_
      exact W.zret (v := _) hx_ hb_ hr (nar_bZ _) (fun tt1 htt1 hWW1 => ⟨_, rfl, congrArg iI (congrArg bZ ((decide_eq_true (by omega)).symm)), htt1⟩) (fun q_ h_ => absurd h_ List.not_mem_nil) dX1_covers_27

set_option maxHeartbeats 4000000 in
set_option maxRecDepth 100000 in
/-- Blocks.withNewIndex -/
theorem c_X1_withNewIndex (l_ : Launch) (G_ : va_G) (cI cZ : ClassId) (h_ a_ b_ d_ : Nat) (k_ : Nat) (os_ ns_ ln_ : Nat → Nat) (x_ : Int) (hk_ : k_ ≤ 48) (hB_ : B48 k_ os_ ns_ ln_) (hx1 : -2147483648 ≤ x_) (hx2 : x_ < 2147483648) : Ro l_ yX1_withNewIndex wsX1_withNewIndex ({ frames := 3, cells := 0, slots := 0, locals := 65 }) G_ cI cZ [.ref h_, .int (iI (x_))] (wBl cI h_ a_ b_ d_ k_ os_ ns_ ln_) (wI (wni k_ ns_ ln_ x_) k_ (-1)) := by
  refine Met.ofW (cc := cX1_withNewIndex) (maxL := 3) (ret := (some .int)) (by decide) rfl ?_
  intro p_ e_ s_ m_ args below meth c_ s₁ B hml hv
  obtain ⟨hargs, hP_, hK_⟩ := hv
  have hx_ := B.exec
  have hb_ := B.bytes
  have hr := B.returns
  have hts := atoms_spec (ws := wsX1_withNewIndex) B.pre
  have hown : s_.vm.findClass RX1 = some m_.cls := findClass_of_methodNamed B.named
  have hlocks := B.notSynchronized
  have hi1_ : ∀ w_ ∈ wsX10, w_ ∈ wsX1_withNewIndex := by decide +kernel
  have hf21_ := hts (.fieldLink RX1 21 "RelocatingPatch$Blocks" "size" "I") (by decide +kernel)
  have hP_ : va_P G_ vwCl [(h_, .inr (1, [.ref a_, .ref b_, .ref d_, .int (iI ((k_ : Nat) : Int))])), (a_, .inl (cI, 48, .inl (aN os_))), (b_, .inl (cI, 48, .inl (aN ns_))), (d_, .inl (cI, 48, .inl (aN ln_)))] s_.heap := hP_
  generalize hQe : MQ below (vp_Si (fun r_ => r_ = iI (wI (wni k_ ns_ ln_ x_) k_ (-1)))) args s_ 0 0 (fun _ => False) = Q_
  have lp2 : ∀ (n_ : Nat) (i_ : Nat) (ls_ : Array Slot), (i_ ≤ k_) → (k_ + 1 ≤ i_ + n_) → (∀ j_, j_ < i_ → cv ns_ ln_ x_ j_ = false) → lv_has ls_ 3 [(0, .ref h_), (1, .int (iI (x_))), (2, .int (iI ((i_ : Nat) : Int)))] → W p_ l_ e_ (headSpec wsX1_withNewIndex ({ frames := 3, cells := 0, slots := 0, locals := 65 })).room s_ m_ args below meth c_ s_.heap [] 0 0 Q_ (F0 m_ 2 ls_ []) := by
    intro n_
    induction n_ with
    | zero =>
      intro i_ ls_ hi_ hn_ hno
      exact False.elim (by omega)
    | succ n_ ih_ =>
      intro i_ ls_ hi_ hn_ hno hl_
      refine lv_iload_n hx_ hb_ dX1_withNewIndex_2 rfl (lv_at hl_ 2 rfl) ?_
      refine lv_aload_n hx_ hb_ dX1_withNewIndex_3 rfl (lv_at hl_ 0 rfl) ?_
      refine va_get (D := G_) (ci := 1) (v := .int (iI ((k_ : Nat) : Int))) (C := RX1) (T := TX1) (N := 4) hx_ hb_ hts hi1_ hown hK_ hP_ 0 rfl rfl 3 (by decide) hf21_ (fun _ h9 => h9) rfl dX1_withNewIndex_4 ?_
      refine q_icmp_ge (tgt := 27) hx_ hb_ dX1_withNewIndex_7 (by decide) (⟨by omega, by omega⟩) (⟨by omega, by omega⟩) (fun c7_ => ?_) (fun c7_ => ?_)
      · skip
        refine lv_iconst (v := iI (-1)) hx_ hb_ dX1_withNewIndex_27 rfl ?_
        rw [← hQe]
        exact W.iret hx_ hb_ hr (fun tt1 htt1 hWW1 => ⟨_, rfl, congrArg iI (fst_wI (Or.inl ⟨rfl, fun j_ hj_ => hno j_ (by omega)⟩)), htt1⟩) (fun q_ h_ => absurd h_ List.not_mem_nil) dX1_withNewIndex_28
      · skip
        refine lv_aload_n hx_ hb_ dX1_withNewIndex_10 rfl (lv_at hl_ 0 rfl) ?_
        refine lv_iload_n hx_ hb_ dX1_withNewIndex_11 rfl (lv_at hl_ 2 rfl) ?_
        refine lv_iload_n hx_ hb_ dX1_withNewIndex_12 rfl (lv_at hl_ 1 rfl) ?_
        refine ro_V (As := [.int (iI ((i_ : Nat) : Int)), .int (iI (x_))]) (rest := []) ⟨hx_, hb_, hml, hown, hts⟩ (c_X1_covers l_ G_ cI cZ h_ a_ b_ d_ k_ os_ ns_ ln_ i_ (x_) (by omega) (by omega) (hB_) (by omega) (by omega)) (cwV 2 hts gX1_withNewIndex_X1_covers rfl rfl rfl (by decide +kernel) ⟨Nat.le_of_ble_eq_true rfl, Nat.le_of_ble_eq_true rfl⟩) (hP_.sub (ws' := [(h_, .inr (1, [.ref a_, .ref b_, .ref d_, .int (iI ((k_ : Nat) : Int))])), (a_, .inl (cI, 48, .inl (aN os_))), (b_, .inl (cI, 48, .inl (aN ns_))), (d_, .inl (cI, 48, .inl (aN ln_)))]) [0, 1, 2, 3] rfl) hK_ 0 rfl rfl rfl hl_.1 rfl (Nat.le_of_ble_eq_true rfl) dX1_withNewIndex_13 ⟨Nat.zero_le _, Nat.zero_le _⟩ ?_
        refine q_bf (tgt := 21) hx_ hb_ dX1_withNewIndex_16 (by decide) (fun c16_ => ?_) (fun c16_ => ?_)
        · skip
          refine q_iinc (k := 2) ((i_ + 1 : Nat) : Int) hx_ hb_ dX1_withNewIndex_21 hl_ rfl (rfl) (by decide) (lv' := [(2, .int (iI ((i_ + 1 : Nat) : Int))), (0, .ref h_), (1, .int (iI (x_)))]) rfl (fun ls_ hl_ => ?_)
          refine lv_goto (tgt := 2) hx_ hb_ dX1_withNewIndex_24 (by decide) ?_
          exact ih_ (i_ + 1) ls_ (by omega) (by omega) (lt_s hno c16_) (lv_sub hl_ [1, 2, 0] rfl)
        · skip
          refine lv_iload_n hx_ hb_ dX1_withNewIndex_19 rfl (lv_at hl_ 2 rfl) ?_
          rw [← hQe]
          exact W.iret hx_ hb_ hr (fun tt1 htt1 hWW1 => ⟨_, rfl, congrArg iI (fst_wI (Or.inr ⟨i_, by omega, c16_, hno, rfl⟩)), htt1⟩) (fun q_ h_ => absurd h_ List.not_mem_nil) dX1_withNewIndex_20
  rw [show entryFrame m_ args 3 = entryFrame m_ ([.ref h_, .int (iI (x_))] : List Value).toArray 3 from by rw [hargs], lg_entry_eq]
  have hl_ := lv_entry ([.ref h_, .int (iI (x_))]) (n := 3) (Nat.le_of_ble_eq_true rfl)
  generalize (lg_sl ([.ref h_, .int (iI (x_))]) ++ List.replicate (3 - (lg_sl ([.ref h_, .int (iI (x_))])).length) Slot.unset).toArray = ls_ at hl_ ⊢
  have hl_ : lv_has ls_ 3 [(0, .ref h_), (1, .int (iI (x_)))] := hl_
  refine lv_iconst (v := iI ((0 : Nat) : Int)) hx_ hb_ dX1_withNewIndex_0 rfl ?_
  refine lv_istore_n (lv' := [(2, .int (iI ((0 : Nat) : Int))), (0, .ref h_), (1, .int (iI (x_)))]) hx_ hb_ dX1_withNewIndex_1 rfl hl_ (by decide) rfl (fun ls_ hl_ => ?_)
  exact lp2 (k_ + 1) 0 ls_ (by omega) (by omega) (fun j_ hj_ => absurd hj_ (Nat.not_lt_zero _)) (lv_sub hl_ [1, 2, 0] rfl)

set_option maxHeartbeats 4000000 in
set_option maxRecDepth 100000 in
/-- Blocks.moved -/
theorem c_X1_moved (l_ : Launch) (G_ : va_G) (cI cZ : ClassId) (h_ a_ b_ d_ : Nat) (k_ : Nat) (os_ ns_ ln_ : Nat → Nat) (x_ : Int) (hk_ : k_ ≤ 48) (hB_ : B48 k_ os_ ns_ ln_) (hx1 : -2147483648 ≤ x_) (hx2 : x_ < 2147483648) : Ro l_ yX1_moved wsX1_moved ({ frames := 2, cells := 0, slots := 0, locals := 42 }) G_ cI cZ [.ref h_, .int (iI (x_))] (wBl cI h_ a_ b_ d_ k_ os_ ns_ ln_) (mv k_ os_ ns_ x_) := by
  refine Met.ofW (cc := cX1_moved) (maxL := 5) (ret := (some .int)) (by decide) rfl ?_
  intro p_ e_ s_ m_ args below meth c_ s₁ B hml hv
  obtain ⟨hargs, hP_, hK_⟩ := hv
  have hx_ := B.exec
  have hb_ := B.bytes
  have hr := B.returns
  have hts := atoms_spec (ws := wsX1_moved) B.pre
  have hown : s_.vm.findClass RX1 = some m_.cls := findClass_of_methodNamed B.named
  have hlocks := B.notSynchronized
  have hi1_ : ∀ w_ ∈ wsX10, w_ ∈ wsX1_moved := by decide +kernel
  have hf21_ := hts (.fieldLink RX1 21 "RelocatingPatch$Blocks" "size" "I") (by decide +kernel)
  have hP_ : va_P G_ vwCl [(h_, .inr (1, [.ref a_, .ref b_, .ref d_, .int (iI ((k_ : Nat) : Int))])), (a_, .inl (cI, 48, .inl (aN os_))), (b_, .inl (cI, 48, .inl (aN ns_))), (d_, .inl (cI, 48, .inl (aN ln_)))] s_.heap := hP_
  generalize hQe : MQ below (vp_Si (fun r_ => r_ = iI (mv k_ os_ ns_ x_))) args s_ 0 0 (fun _ => False) = Q_
  have lp4 : ∀ (n_ : Nat) (i_ : Nat) (gz : Int) (ls_ : Array Slot), (i_ ≤ k_) → (k_ + 1 ≤ i_ + n_) → (gz = oV (-1) (gde os_ x_ i_)) → lv_has ls_ 5 [(0, .ref h_), (1, .int (iI (x_))), (2, .int (iI (gz))), (3, .int (iI ((i_ : Nat) : Int)))] → W p_ l_ e_ (headSpec wsX1_moved ({ frames := 2, cells := 0, slots := 0, locals := 42 })).room s_ m_ args below meth c_ s_.heap [] 0 0 Q_ (F0 m_ 4 ls_ []) := by
    intro n_
    induction n_ with
    | zero =>
      intro i_ gz ls_ hi_ hn_ hg_
      exact False.elim (by omega)
    | succ n_ ih_ =>
      intro i_ gz ls_ hi_ hn_ hg_ hl_
      have hgr : -1 ≤ gz ∧ gz < 49 := by rw [hg_]; cases h_ : gde os_ x_ i_ with | none => exact ⟨by decide, by decide⟩ | some g_ => exact ⟨by show (-1 : Int) ≤ (g_ : Int); omega, by have := (bst_lt h_).1; show (g_ : Int) < 49; omega⟩
      refine lv_iload_n hx_ hb_ dX1_moved_4 rfl (lv_at hl_ 3 rfl) ?_
      refine lv_aload_n hx_ hb_ dX1_moved_5 rfl (lv_at hl_ 0 rfl) ?_
      refine va_get (D := G_) (ci := 1) (v := .int (iI ((k_ : Nat) : Int))) (C := RX1) (T := TX1) (N := 4) hx_ hb_ hts hi1_ hown hK_ hP_ 0 rfl rfl 3 (by decide) hf21_ (fun _ h9 => h9) rfl dX1_moved_6 ?_
      refine q_icmp_ge (tgt := 48) hx_ hb_ dX1_moved_9 (by decide) (⟨by omega, by omega⟩) (⟨by omega, by omega⟩) (fun c9_ => ?_) (fun c9_ => ?_)
      · skip
        have hik : i_ = k_ := by omega
        rw [hik] at hg_
        refine lv_iload_n hx_ hb_ dX1_moved_48 rfl (lv_at hl_ 2 rfl) ?_
        refine lv_iconst (v := iI (-1)) hx_ hb_ dX1_moved_49 rfl ?_
        refine q_icmp_ne (tgt := 57) hx_ hb_ dX1_moved_50 (by decide) (⟨by omega, by omega⟩) (⟨by decide, by decide⟩) (fun c50_ => ?_) (fun c50_ => ?_)
        · skip
          obtain ⟨g_, hgs, hgz⟩ : ∃ g_, gde os_ x_ k_ = some g_ ∧ gz = (g_ : Int) := by rw [hg_] at c50_; obtain ⟨g_, h1_, h2_⟩ := oV_some c50_; exact ⟨g_, h1_, by rw [hg_, h2_]⟩
          have hgl := (bst_lt hgs).1
          subst hgz
          refine lv_iload_n hx_ hb_ dX1_moved_57 rfl (lv_at hl_ 1 rfl) ?_
          refine lv_aload_n hx_ hb_ dX1_moved_58 rfl (lv_at hl_ 0 rfl) ?_
          refine lv_iload_n hx_ hb_ dX1_moved_59 rfl (lv_at hl_ 2 rfl) ?_
          refine ro_V (As := [.int (iI ((g_ : Nat) : Int))]) (rest := [.int (iI (x_))]) ⟨hx_, hb_, hml, hown, hts⟩ (c_X1_newStart l_ G_ cI cZ h_ a_ b_ d_ k_ os_ ns_ ln_ g_ (by omega) (by omega)) (cwV 1 hts gX1_moved_X1_newStart rfl rfl rfl (by decide +kernel) ⟨Nat.le_of_ble_eq_true rfl, Nat.le_of_ble_eq_true rfl⟩) (hP_.sub (ws' := [(h_, .inr (1, [.ref a_, .ref b_, .ref d_, .int (iI ((k_ : Nat) : Int))])), (a_, .inl (cI, 48, .inl (aN os_))), (b_, .inl (cI, 48, .inl (aN ns_))), (d_, .inl (cI, 48, .inl (aN ln_)))]) [0, 1, 2, 3] rfl) hK_ 0 rfl rfl rfl hl_.1 rfl (Nat.le_of_ble_eq_true rfl) dX1_moved_60 ⟨Nat.zero_le _, Nat.zero_le _⟩ ?_
          refine q_iadd hx_ hb_ dX1_moved_63 ?_
          refine lv_aload_n hx_ hb_ dX1_moved_64 rfl (lv_at hl_ 0 rfl) ?_
          refine lv_iload_n hx_ hb_ dX1_moved_65 rfl (lv_at hl_ 2 rfl) ?_
          refine ro_V (As := [.int (iI ((g_ : Nat) : Int))]) (rest := [.int (iI ((x_) + ((ns_ g_ : Nat) : Int)))]) ⟨hx_, hb_, hml, hown, hts⟩ (c_X1_oldStart l_ G_ cI cZ h_ a_ b_ d_ k_ os_ ns_ ln_ g_ (by omega) (by omega)) (cwV 1 hts gX1_moved_X1_oldStart rfl rfl rfl (by decide +kernel) ⟨Nat.le_of_ble_eq_true rfl, Nat.le_of_ble_eq_true rfl⟩) (hP_.sub (ws' := [(h_, .inr (1, [.ref a_, .ref b_, .ref d_, .int (iI ((k_ : Nat) : Int))])), (a_, .inl (cI, 48, .inl (aN os_))), (b_, .inl (cI, 48, .inl (aN ns_))), (d_, .inl (cI, 48, .inl (aN ln_)))]) [0, 1, 2, 3] rfl) hK_ 0 rfl rfl rfl hl_.1 rfl (Nat.le_of_ble_eq_true rfl) dX1_moved_66 ⟨Nat.zero_le _, Nat.zero_le _⟩ ?_
          refine q_isub hx_ hb_ dX1_moved_69 ?_
          rw [← hQe]
          exact W.iret hx_ hb_ hr (fun tt1 htt1 hWW1 => ⟨_, rfl, congrArg iI (by unfold mv; rw [hgs]), htt1⟩) (fun q_ h_ => absurd h_ List.not_mem_nil) dX1_moved_70
        · skip
          refine lv_iload_n hx_ hb_ dX1_moved_53 rfl (lv_at hl_ 1 rfl) ?_
          refine lv_goto (tgt := 70) hx_ hb_ dX1_moved_54 (by decide) ?_
          rw [← hQe]
          exact W.iret hx_ hb_ hr (fun tt1 htt1 hWW1 => ⟨_, rfl, congrArg iI (by unfold mv; rw [oV_none (by decide) (hg_.symm.trans c50_)]), htt1⟩) (fun q_ h_ => absurd h_ List.not_mem_nil) dX1_moved_70
      · skip
        have fb1 := hB_ i_ (by omega)
        refine lv_aload_n hx_ hb_ dX1_moved_12 rfl (lv_at hl_ 0 rfl) ?_
        refine lv_iload_n hx_ hb_ dX1_moved_13 rfl (lv_at hl_ 3 rfl) ?_
        refine ro_V (As := [.int (iI ((i_ : Nat) : Int))]) (rest := []) ⟨hx_, hb_, hml, hown, hts⟩ (c_X1_oldStart l_ G_ cI cZ h_ a_ b_ d_ k_ os_ ns_ ln_ i_ (by omega) (by omega)) (cwV 1 hts gX1_moved_X1_oldStart rfl rfl rfl (by decide +kernel) ⟨Nat.le_of_ble_eq_true rfl, Nat.le_of_ble_eq_true rfl⟩) (hP_.sub (ws' := [(h_, .inr (1, [.ref a_, .ref b_, .ref d_, .int (iI ((k_ : Nat) : Int))])), (a_, .inl (cI, 48, .inl (aN os_))), (b_, .inl (cI, 48, .inl (aN ns_))), (d_, .inl (cI, 48, .inl (aN ln_)))]) [0, 1, 2, 3] rfl) hK_ 0 rfl rfl rfl hl_.1 rfl (Nat.le_of_ble_eq_true rfl) dX1_moved_14 ⟨Nat.zero_le _, Nat.zero_le _⟩ ?_
        refine lv_istore (lv' := [(4, .int (iI ((os_ i_ : Nat) : Int))), (0, .ref h_), (1, .int (iI (x_))), (2, .int (iI (gz))), (3, .int (iI ((i_ : Nat) : Int)))]) hx_ hb_ dX1_moved_17 hl_ (by decide) rfl (fun ls_ hl_ => ?_)
        refine lv_iload hx_ hb_ dX1_moved_19 (lv_at hl_ 0 rfl) ?_
        refine lv_iload_n hx_ hb_ dX1_moved_21 rfl (lv_at hl_ 2 rfl) ?_
        refine q_icmp_gt (tgt := 42) hx_ hb_ dX1_moved_22 (by decide) (⟨by omega, by omega⟩) (⟨by omega, by omega⟩) (fun c22_ => ?_) (fun c22_ => ?_)
        · skip
          refine q_iinc (k := 4) ((i_ + 1 : Nat) : Int) hx_ hb_ dX1_moved_42 hl_ rfl (rfl) (by decide) (lv' := [(3, .int (iI ((i_ + 1 : Nat) : Int))), (4, .int (iI ((os_ i_ : Nat) : Int))), (0, .ref h_), (1, .int (iI (x_))), (2, .int (iI (gz)))]) rfl (fun ls_ hl_ => ?_)
          refine lv_goto (tgt := 4) hx_ hb_ dX1_moved_45 (by decide) ?_
          exact ih_ (i_ + 1) ((gz)) ls_ (by omega) (by omega) (by rw [hg_]; unfold gde; rw [bst_skip (decide_eq_false (by omega))]) (lv_sub hl_ [2, 3, 4, 0] rfl)
        · skip
          refine lv_iload_n hx_ hb_ dX1_moved_25 rfl (lv_at hl_ 3 rfl) ?_
          refine lv_iconst (v := iI (-1)) hx_ hb_ dX1_moved_26 rfl ?_
          refine q_icmp_eq (tgt := 40) hx_ hb_ dX1_moved_27 (by decide) (⟨by omega, by omega⟩) (⟨by decide, by decide⟩) (fun c27_ => ?_) (fun c27_ => ?_)
          · skip
            refine lv_iload_n hx_ hb_ dX1_moved_40 rfl (lv_at hl_ 4 rfl) ?_
            refine lv_istore_n (lv' := [(2, .int (iI ((i_ : Nat) : Int))), (4, .int (iI ((os_ i_ : Nat) : Int))), (0, .ref h_), (1, .int (iI (x_))), (3, .int (iI ((i_ : Nat) : Int)))]) hx_ hb_ dX1_moved_41 rfl hl_ (by decide) rfl (fun ls_ hl_ => ?_)
            refine q_iinc (k := 4) ((i_ + 1 : Nat) : Int) hx_ hb_ dX1_moved_42 hl_ rfl (rfl) (by decide) (lv' := [(3, .int (iI ((i_ + 1 : Nat) : Int))), (2, .int (iI ((i_ : Nat) : Int))), (4, .int (iI ((os_ i_ : Nat) : Int))), (0, .ref h_), (1, .int (iI (x_)))]) rfl (fun ls_ hl_ => ?_)
            refine lv_goto (tgt := 4) hx_ hb_ dX1_moved_45 (by decide) ?_
            exact ih_ (i_ + 1) (((i_ : Nat) : Int)) ls_ (by omega) (by omega) (by unfold gde; rw [bst_ns (oV_none (by decide) (hg_.symm.trans c27_)) (decide_eq_true (by omega))]; rfl) (lv_sub hl_ [3, 4, 1, 0] rfl)
          · skip
            obtain ⟨g_, hgs, hgz⟩ : ∃ g_, gde os_ x_ i_ = some g_ ∧ gz = (g_ : Int) := by rw [hg_] at c27_; obtain ⟨g_, h1_, h2_⟩ := oV_some c27_; exact ⟨g_, h1_, by rw [hg_, h2_]⟩
            have hgl := (bst_lt hgs).1
            subst hgz
            have fb2 := hB_ g_ (by omega)
            refine lv_iload hx_ hb_ dX1_moved_30 (lv_at hl_ 0 rfl) ?_
            refine lv_aload_n hx_ hb_ dX1_moved_32 rfl (lv_at hl_ 1 rfl) ?_
            refine lv_iload_n hx_ hb_ dX1_moved_33 rfl (lv_at hl_ 3 rfl) ?_
            refine ro_V (As := [.int (iI ((g_ : Nat) : Int))]) (rest := [.int (iI ((os_ i_ : Nat) : Int))]) ⟨hx_, hb_, hml, hown, hts⟩ (c_X1_oldStart l_ G_ cI cZ h_ a_ b_ d_ k_ os_ ns_ ln_ g_ (by omega) (by omega)) (cwV 1 hts gX1_moved_X1_oldStart rfl rfl rfl (by decide +kernel) ⟨Nat.le_of_ble_eq_true rfl, Nat.le_of_ble_eq_true rfl⟩) (hP_.sub (ws' := [(h_, .inr (1, [.ref a_, .ref b_, .ref d_, .int (iI ((k_ : Nat) : Int))])), (a_, .inl (cI, 48, .inl (aN os_))), (b_, .inl (cI, 48, .inl (aN ns_))), (d_, .inl (cI, 48, .inl (aN ln_)))]) [0, 1, 2, 3] rfl) hK_ 0 rfl rfl rfl hl_.1 rfl (Nat.le_of_ble_eq_true rfl) dX1_moved_34 ⟨Nat.zero_le _, Nat.zero_le _⟩ ?_
            refine q_icmp_le (tgt := 42) hx_ hb_ dX1_moved_37 (by decide) (⟨by omega, by omega⟩) (⟨by omega, by omega⟩) (fun c37_ => ?_) (fun c37_ => ?_)
            · skip
              refine q_iinc (k := 4) ((i_ + 1 : Nat) : Int) hx_ hb_ dX1_moved_42 hl_ rfl (rfl) (by decide) (lv' := [(3, .int (iI ((i_ + 1 : Nat) : Int))), (4, .int (iI ((os_ i_ : Nat) : Int))), (0, .ref h_), (1, .int (iI (x_))), (2, .int (iI ((g_ : Nat) : Int)))]) rfl (fun ls_ hl_ => ?_)
              refine lv_goto (tgt := 4) hx_ hb_ dX1_moved_45 (by decide) ?_
              exact ih_ (i_ + 1) (((g_ : Nat) : Int)) ls_ (by omega) (by omega) (by unfold gde; rw [bst_sk hgs (decide_eq_false (by omega))]; rfl) (lv_sub hl_ [2, 3, 4, 0] rfl)
            · skip
              refine lv_iload_n hx_ hb_ dX1_moved_40 rfl (lv_at hl_ 4 rfl) ?_
              refine lv_istore_n (lv' := [(2, .int (iI ((i_ : Nat) : Int))), (4, .int (iI ((os_ i_ : Nat) : Int))), (0, .ref h_), (1, .int (iI (x_))), (3, .int (iI ((i_ : Nat) : Int)))]) hx_ hb_ dX1_moved_41 rfl hl_ (by decide) rfl (fun ls_ hl_ => ?_)
              refine q_iinc (k := 4) ((i_ + 1 : Nat) : Int) hx_ hb_ dX1_moved_42 hl_ rfl (rfl) (by decide) (lv' := [(3, .int (iI ((i_ + 1 : Nat) : Int))), (2, .int (iI ((i_ : Nat) : Int))), (4, .int (iI ((os_ i_ : Nat) : Int))), (0, .ref h_), (1, .int (iI (x_)))]) rfl (fun ls_ hl_ => ?_)
              refine lv_goto (tgt := 4) hx_ hb_ dX1_moved_45 (by decide) ?_
              exact ih_ (i_ + 1) (((i_ : Nat) : Int)) ls_ (by omega) (by omega) (by unfold gde; rw [bst_ss hgs (decide_eq_true (by omega)) (decide_eq_true (by omega))]; rfl) (lv_sub hl_ [3, 4, 1, 0] rfl)
  rw [show entryFrame m_ args 5 = entryFrame m_ ([.ref h_, .int (iI (x_))] : List Value).toArray 5 from by rw [hargs], lg_entry_eq]
  have hl_ := lv_entry ([.ref h_, .int (iI (x_))]) (n := 5) (Nat.le_of_ble_eq_true rfl)
  generalize (lg_sl ([.ref h_, .int (iI (x_))]) ++ List.replicate (5 - (lg_sl ([.ref h_, .int (iI (x_))])).length) Slot.unset).toArray = ls_ at hl_ ⊢
  have hl_ : lv_has ls_ 5 [(0, .ref h_), (1, .int (iI (x_)))] := hl_
  refine lv_iconst (v := iI (-1)) hx_ hb_ dX1_moved_0 rfl ?_
  refine lv_istore_n (lv' := [(2, .int (iI (-1))), (0, .ref h_), (1, .int (iI (x_)))]) hx_ hb_ dX1_moved_1 rfl hl_ (by decide) rfl (fun ls_ hl_ => ?_)
  refine lv_iconst (v := iI ((0 : Nat) : Int)) hx_ hb_ dX1_moved_2 rfl ?_
  refine lv_istore_n (lv' := [(3, .int (iI ((0 : Nat) : Int))), (2, .int (iI (-1))), (0, .ref h_), (1, .int (iI (x_)))]) hx_ hb_ dX1_moved_3 rfl hl_ (by decide) rfl (fun ls_ hl_ => ?_)
  exact lp4 (k_ + 1) 0 (-1) ls_ (by omega) (by omega) (rfl) (lv_sub hl_ [2, 3, 1, 0] rfl)

set_option maxHeartbeats 4000000 in
set_option maxRecDepth 100000 in
/-- Blocks.mustGoBefore -/
theorem c_X1_mustGoBefore (l_ : Launch) (G_ : va_G) (cI cZ : ClassId) (h_ a_ b_ d_ : Nat) (k_ : Nat) (os_ ns_ ln_ : Nat → Nat) (x_ y_ : Nat) (hk_ : k_ ≤ 48) (hx0 : x_ < k_) (hy0 : y_ < k_) (hB_ : B48 k_ os_ ns_ ln_) : Ro l_ yX1_mustGoBefore wsX1_mustGoBefore ({ frames := 2, cells := 0, slots := 0, locals := 42 }) G_ cI cZ [.ref h_, .int (iI ((x_ : Nat) : Int)), .int (iI ((y_ : Nat) : Int))] (wBl cI h_ a_ b_ d_ k_ os_ ns_ ln_) (bZ (mgb os_ ns_ ln_ x_ y_)) := by
  refine Met.ofW (cc := cX1_mustGoBefore) (maxL := 3) (ret := (some .boolean)) (by decide) rfl ?_
  intro p_ e_ s_ m_ args below meth c_ s₁ B hml hv
  obtain ⟨hargs, hP_, hK_⟩ := hv
  have hx_ := B.exec
  have hb_ := B.bytes
  have hr := B.returns
  have hts := atoms_spec (ws := wsX1_mustGoBefore) B.pre
  have hown : s_.vm.findClass RX1 = some m_.cls := findClass_of_methodNamed B.named
  have hlocks := B.notSynchronized
  have hP_ : va_P G_ vwCl [(h_, .inr (1, [.ref a_, .ref b_, .ref d_, .int (iI ((k_ : Nat) : Int))])), (a_, .inl (cI, 48, .inl (aN os_))), (b_, .inl (cI, 48, .inl (aN ns_))), (d_, .inl (cI, 48, .inl (aN ln_)))] s_.heap := hP_
  generalize hQe : MQ below (vp_Si (fun r_ => r_ = iI (bZ (mgb os_ ns_ ln_ x_ y_)))) args s_ 0 0 (fun _ => False) = Q_
  have fb1 := hB_ x_ hx0
  have fb2 := hB_ y_ hy0
  rw [show entryFrame m_ args 3 = entryFrame m_ ([.ref h_, .int (iI ((x_ : Nat) : Int)), .int (iI ((y_ : Nat) : Int))] : List Value).toArray 3 from by rw [hargs], lg_entry_eq]
  have hl_ := lv_entry ([.ref h_, .int (iI ((x_ : Nat) : Int)), .int (iI ((y_ : Nat) : Int))]) (n := 3) (Nat.le_of_ble_eq_true rfl)
  generalize (lg_sl ([.ref h_, .int (iI ((x_ : Nat) : Int)), .int (iI ((y_ : Nat) : Int))]) ++ List.replicate (3 - (lg_sl ([.ref h_, .int (iI ((x_ : Nat) : Int)), .int (iI ((y_ : Nat) : Int))])).length) Slot.unset).toArray = ls_ at hl_ ⊢
  have hl_ : lv_has ls_ 3 [(0, .ref h_), (1, .int (iI ((x_ : Nat) : Int))), (2, .int (iI ((y_ : Nat) : Int)))] := hl_
  refine lv_iload_n hx_ hb_ dX1_mustGoBefore_0 rfl (lv_at hl_ 1 rfl) ?_
  refine lv_iload_n hx_ hb_ dX1_mustGoBefore_1 rfl (lv_at hl_ 2 rfl) ?_
  refine q_icmp_eq (tgt := 47) hx_ hb_ dX1_mustGoBefore_2 (by decide) (⟨by omega, by omega⟩) (⟨by omega, by omega⟩) (fun c2_ => ?_) (fun c2_ => ?_)
  · skip
    refine lv_iconst (v := iI ((0 : Nat) : Int)) hx_ hb_ dX1_mustGoBefore_47 rfl ?_
    rw [← hQe]
    refine q_cast (b := bZ false) rfl ?_
    exact W.zret (v := _) hx_ hb_ hr (nar_bZ _) (fun tt1 htt1 hWW1 => ⟨_, rfl, congrArg iI (congrArg bZ ((decide_eq_false (by omega)).symm)), htt1⟩) (fun q_ h_ => absurd h_ List.not_mem_nil) dX1_mustGoBefore_48
  · skip
    refine lv_aload_n hx_ hb_ dX1_mustGoBefore_5 rfl (lv_at hl_ 0 rfl) ?_
    refine lv_iload_n hx_ hb_ dX1_mustGoBefore_6 rfl (lv_at hl_ 2 rfl) ?_
    refine ro_V (As := [.int (iI ((y_ : Nat) : Int))]) (rest := []) ⟨hx_, hb_, hml, hown, hts⟩ (c_X1_newStart l_ G_ cI cZ h_ a_ b_ d_ k_ os_ ns_ ln_ y_ (by omega) (by omega)) (cwV 1 hts gX1_mustGoBefore_X1_newStart rfl rfl rfl (by decide +kernel) ⟨Nat.le_of_ble_eq_true rfl, Nat.le_of_ble_eq_true rfl⟩) (hP_.sub (ws' := [(h_, .inr (1, [.ref a_, .ref b_, .ref d_, .int (iI ((k_ : Nat) : Int))])), (a_, .inl (cI, 48, .inl (aN os_))), (b_, .inl (cI, 48, .inl (aN ns_))), (d_, .inl (cI, 48, .inl (aN ln_)))]) [0, 1, 2, 3] rfl) hK_ 0 rfl rfl rfl hl_.1 rfl (Nat.le_of_ble_eq_true rfl) dX1_mustGoBefore_7 ⟨Nat.zero_le _, Nat.zero_le _⟩ ?_
    refine lv_aload_n hx_ hb_ dX1_mustGoBefore_10 rfl (lv_at hl_ 0 rfl) ?_
    refine lv_iload_n hx_ hb_ dX1_mustGoBefore_11 rfl (lv_at hl_ 1 rfl) ?_
    refine ro_V (As := [.int (iI ((x_ : Nat) : Int))]) (rest := [.int (iI ((ns_ y_ : Nat) : Int))]) ⟨hx_, hb_, hml, hown, hts⟩ (c_X1_oldStart l_ G_ cI cZ h_ a_ b_ d_ k_ os_ ns_ ln_ x_ (by omega) (by omega)) (cwV 1 hts gX1_mustGoBefore_X1_oldStart rfl rfl rfl (by decide +kernel) ⟨Nat.le_of_ble_eq_true rfl, Nat.le_of_ble_eq_true rfl⟩) (hP_.sub (ws' := [(h_, .inr (1, [.ref a_, .ref b_, .ref d_, .int (iI ((k_ : Nat) : Int))])), (a_, .inl (cI, 48, .inl (aN os_))), (b_, .inl (cI, 48, .inl (aN ns_))), (d_, .inl (cI, 48, .inl (aN ln_)))]) [0, 1, 2, 3] rfl) hK_ 0 rfl rfl rfl hl_.1 rfl (Nat.le_of_ble_eq_true rfl) dX1_mustGoBefore_12 ⟨Nat.zero_le _, Nat.zero_le _⟩ ?_
    refine lv_aload_n hx_ hb_ dX1_mustGoBefore_15 rfl (lv_at hl_ 0 rfl) ?_
    refine lv_iload_n hx_ hb_ dX1_mustGoBefore_16 rfl (lv_at hl_ 1 rfl) ?_
    refine ro_V (As := [.int (iI ((x_ : Nat) : Int))]) (rest := [.int (iI ((os_ x_ : Nat) : Int)), .int (iI ((ns_ y_ : Nat) : Int))]) ⟨hx_, hb_, hml, hown, hts⟩ (c_X1_length l_ G_ cI cZ h_ a_ b_ d_ k_ os_ ns_ ln_ x_ (by omega) (by omega)) (cwV 1 hts gX1_mustGoBefore_X1_length rfl rfl rfl (by decide +kernel) ⟨Nat.le_of_ble_eq_true rfl, Nat.le_of_ble_eq_true rfl⟩) (hP_.sub (ws' := [(h_, .inr (1, [.ref a_, .ref b_, .ref d_, .int (iI ((k_ : Nat) : Int))])), (a_, .inl (cI, 48, .inl (aN os_))), (b_, .inl (cI, 48, .inl (aN ns_))), (d_, .inl (cI, 48, .inl (aN ln_)))]) [0, 1, 2, 3] rfl) hK_ 0 rfl rfl rfl hl_.1 rfl (Nat.le_of_ble_eq_true rfl) dX1_mustGoBefore_17 ⟨Nat.zero_le _, Nat.zero_le _⟩ ?_
    refine q_iaddN hx_ hb_ dX1_mustGoBefore_20 ?_
    refine q_icmp_ge (tgt := 47) hx_ hb_ dX1_mustGoBefore_21 (by decide) (⟨by omega, by omega⟩) (⟨by omega, by omega⟩) (fun c21_ => ?_) (fun c21_ => ?_)
    · skip
      refine lv_iconst (v := iI ((0 : Nat) : Int)) hx_ hb_ dX1_mustGoBefore_47 rfl ?_
      rw [← hQe]
      refine q_cast (b := bZ false) rfl ?_
      exact W.zret (v := _) hx_ hb_ hr (nar_bZ _) (fun tt1 htt1 hWW1 => ⟨_, rfl, congrArg iI (congrArg bZ ((decide_eq_false (by omega)).symm)), htt1⟩) (fun q_ h_ => absurd h_ List.not_mem_nil) dX1_mustGoBefore_48
    · skip
      refine lv_aload_n hx_ hb_ dX1_mustGoBefore_24 rfl (lv_at hl_ 0 rfl) ?_
      refine lv_iload_n hx_ hb_ dX1_mustGoBefore_25 rfl (lv_at hl_ 1 rfl) ?_
      refine ro_V (As := [.int (iI ((x_ : Nat) : Int))]) (rest := []) ⟨hx_, hb_, hml, hown, hts⟩ (c_X1_oldStart l_ G_ cI cZ h_ a_ b_ d_ k_ os_ ns_ ln_ x_ (by omega) (by omega)) (cwV 1 hts gX1_mustGoBefore_X1_oldStart rfl rfl rfl (by decide +kernel) ⟨Nat.le_of_ble_eq_true rfl, Nat.le_of_ble_eq_true rfl⟩) (hP_.sub (ws' := [(h_, .inr (1, [.ref a_, .ref b_, .ref d_, .int (iI ((k_ : Nat) : Int))])), (a_, .inl (cI, 48, .inl (aN os_))), (b_, .inl (cI, 48, .inl (aN ns_))), (d_, .inl (cI, 48, .inl (aN ln_)))]) [0, 1, 2, 3] rfl) hK_ 0 rfl rfl rfl hl_.1 rfl (Nat.le_of_ble_eq_true rfl) dX1_mustGoBefore_26 ⟨Nat.zero_le _, Nat.zero_le _⟩ ?_
      refine lv_aload_n hx_ hb_ dX1_mustGoBefore_29 rfl (lv_at hl_ 0 rfl) ?_
      refine lv_iload_n hx_ hb_ dX1_mustGoBefore_30 rfl (lv_at hl_ 2 rfl) ?_
      refine ro_V (As := [.int (iI ((y_ : Nat) : Int))]) (rest := [.int (iI ((os_ x_ : Nat) : Int))]) ⟨hx_, hb_, hml, hown, hts⟩ (c_X1_newStart l_ G_ cI cZ h_ a_ b_ d_ k_ os_ ns_ ln_ y_ (by omega) (by omega)) (cwV 1 hts gX1_mustGoBefore_X1_newStart rfl rfl rfl (by decide +kernel) ⟨Nat.le_of_ble_eq_true rfl, Nat.le_of_ble_eq_true rfl⟩) (hP_.sub (ws' := [(h_, .inr (1, [.ref a_, .ref b_, .ref d_, .int (iI ((k_ : Nat) : Int))])), (a_, .inl (cI, 48, .inl (aN os_))), (b_, .inl (cI, 48, .inl (aN ns_))), (d_, .inl (cI, 48, .inl (aN ln_)))]) [0, 1, 2, 3] rfl) hK_ 0 rfl rfl rfl hl_.1 rfl (Nat.le_of_ble_eq_true rfl) dX1_mustGoBefore_31 ⟨Nat.zero_le _, Nat.zero_le _⟩ ?_
      refine lv_aload_n hx_ hb_ dX1_mustGoBefore_34 rfl (lv_at hl_ 0 rfl) ?_
      refine lv_iload_n hx_ hb_ dX1_mustGoBefore_35 rfl (lv_at hl_ 2 rfl) ?_
      refine ro_V (As := [.int (iI ((y_ : Nat) : Int))]) (rest := [.int (iI ((ns_ y_ : Nat) : Int)), .int (iI ((os_ x_ : Nat) : Int))]) ⟨hx_, hb_, hml, hown, hts⟩ (c_X1_length l_ G_ cI cZ h_ a_ b_ d_ k_ os_ ns_ ln_ y_ (by omega) (by omega)) (cwV 1 hts gX1_mustGoBefore_X1_length rfl rfl rfl (by decide +kernel) ⟨Nat.le_of_ble_eq_true rfl, Nat.le_of_ble_eq_true rfl⟩) (hP_.sub (ws' := [(h_, .inr (1, [.ref a_, .ref b_, .ref d_, .int (iI ((k_ : Nat) : Int))])), (a_, .inl (cI, 48, .inl (aN os_))), (b_, .inl (cI, 48, .inl (aN ns_))), (d_, .inl (cI, 48, .inl (aN ln_)))]) [0, 1, 2, 3] rfl) hK_ 0 rfl rfl rfl hl_.1 rfl (Nat.le_of_ble_eq_true rfl) dX1_mustGoBefore_36 ⟨Nat.zero_le _, Nat.zero_le _⟩ ?_
      refine q_iaddN hx_ hb_ dX1_mustGoBefore_39 ?_
      refine q_icmp_ge (tgt := 47) hx_ hb_ dX1_mustGoBefore_40 (by decide) (⟨by omega, by omega⟩) (⟨by omega, by omega⟩) (fun c40_ => ?_) (fun c40_ => ?_)
      · skip
        refine lv_iconst (v := iI ((0 : Nat) : Int)) hx_ hb_ dX1_mustGoBefore_47 rfl ?_
        rw [← hQe]
        refine q_cast (b := bZ false) rfl ?_
        exact W.zret (v := _) hx_ hb_ hr (nar_bZ _) (fun tt1 htt1 hWW1 => ⟨_, rfl, congrArg iI (congrArg bZ ((decide_eq_false (by omega)).symm)), htt1⟩) (fun q_ h_ => absurd h_ List.not_mem_nil) dX1_mustGoBefore_48
      · skip
        refine lv_iconst (v := iI ((1 : Nat) : Int)) hx_ hb_ dX1_mustGoBefore_43 rfl ?_
        refine lv_goto (tgt := 48) hx_ hb_ dX1_mustGoBefore_44 (by decide) ?_
        rw [← hQe]
        refine q_cast (b := bZ true) rfl ?_
        exact W.zret (v := _) hx_ hb_ hr (nar_bZ _) (fun tt1 htt1 hWW1 => ⟨_, rfl, congrArg iI (congrArg bZ ((decide_eq_true (by omega)).symm)), htt1⟩) (fun q_ h_ => absurd h_ List.not_mem_nil) dX1_mustGoBefore_48

set_option maxHeartbeats 4000000 in
set_option maxRecDepth 100000 in
/-- Blocks.removeAll -/
theorem c_X1_removeAll (l_ : Launch) (G_ : va_G) (cI cZ : ClassId) (h_ a_ b_ d_ : Nat) (k_ : Nat) (os_ ns_ ln_ : Nat → Nat) (sz : Nat) : Wr (S := Unit) l_ yX1_removeAll wsX1_removeAll ({ frames := 0, cells := 0, slots := 0, locals := 0 }) G_ cI cZ [.ref h_] (wBl cI h_ a_ b_ d_ k_ os_ ns_ ln_) sz (fun _ => True) (fun _ => wBl cI h_ a_ b_ d_ 0 os_ ns_ ln_) := by
  refine Met.ofW (cc := cX1_removeAll) (maxL := 1) (ret := (none)) (by decide) rfl ?_
  intro p_ e_ s_ m_ args below meth c_ s₁ B hml hv
  obtain ⟨hargs, hsz, hP_, hK_, hD0⟩ := hv
  have hx_ := B.exec
  have hb_ := B.bytes
  have hr := B.returns
  have hts := atoms_spec (ws := wsX1_removeAll) B.pre
  have hown : s_.vm.findClass RX1 = some m_.cls := findClass_of_methodNamed B.named
  have hlocks := B.notSynchronized
  have hi1_ : ∀ w_ ∈ wsX10, w_ ∈ wsX1_removeAll := by decide +kernel
  have hf21_ := hts (.fieldLink RX1 21 "RelocatingPatch$Blocks" "size" "I") (by decide +kernel)
  subst hsz
  have hD_ := hD0.self (sz := s_.heap.size)
  generalize hAe : va_A (wBl cI h_ a_ b_ d_ k_ os_ ns_ ln_) s_.heap.size = A_ at hD_ ⊢
  have hA_ : ∀ q_ : Nat, s_.heap.size ≤ q_ → A_ q_ := fun q_ h_ => by rw [← hAe]; exact Or.inr h_
  have hS_ : va_S A_ s_.heap s_.heap [] := va_S.rf
  have hP_ : va_P G_ vwCl [(h_, .inr (1, [.ref a_, .ref b_, .ref d_, .int (iI ((k_ : Nat) : Int))])), (a_, .inl (cI, 48, .inl (aN os_))), (b_, .inl (cI, 48, .inl (aN ns_))), (d_, .inl (cI, 48, .inl (aN ln_)))] s_.heap := hP_
  have hD_ : va_D A_ [(h_, .inr (1, [.ref a_, .ref b_, .ref d_, .int (iI ((k_ : Nat) : Int))])), (a_, .inl (cI, 48, .inl (aN os_))), (b_, .inl (cI, 48, .inl (aN ns_))), (d_, .inl (cI, 48, .inl (aN ln_)))] := hD_
  generalize hQe : MQ below (va_Qv (S := Unit) (fun _ => True) (fun u1 t1 => va_P G_ vwCl ((fun _ => wBl cI h_ a_ b_ d_ 0 os_ ns_ ln_) u1) t1.heap) A_) args s_ 0 0 A_ = Q_
  rw [show entryFrame m_ args 1 = entryFrame m_ ([.ref h_] : List Value).toArray 1 from by rw [hargs], lg_entry_eq]
  have hl_ := lv_entry ([.ref h_]) (n := 1) (Nat.le_of_ble_eq_true rfl)
  generalize (lg_sl ([.ref h_]) ++ List.replicate (1 - (lg_sl ([.ref h_])).length) Slot.unset).toArray = ls_ at hl_ ⊢
  have hl_ : lv_has ls_ 1 [(0, .ref h_)] := hl_
  refine lv_aload_n hx_ hb_ dX1_removeAll_0 rfl (lv_at hl_ 0 rfl) ?_
  refine lv_iconst (v := iI ((0 : Nat) : Int)) hx_ hb_ dX1_removeAll_1 rfl ?_
  refine va_put (D := G_) (ci := 1) (v := .int (iI ((0 : Nat) : Int))) (ty := .int) (C := RX1) (T := TX1) (N := 4) hx_ hb_ hts hi1_ tyX1 tyX1_ok nmX1 hown hK_ hP_ hD_ hS_ 0 rfl rfl 3 (by decide) hf21_ (fun _ h9 => h9) rfl (by decide +kernel) rfl rfl (Nat.le_of_ble_eq_true rfl) dX1_removeAll_2 (fun H_ locs hP_ hD_ hS_ => ?_)
  have hP_ : va_P G_ vwCl [(h_, .inr (1, [.ref a_, .ref b_, .ref d_, .int (iI ((0 : Nat) : Int))])), (a_, .inl (cI, 48, .inl (aN os_))), (b_, .inl (cI, 48, .inl (aN ns_))), (d_, .inl (cI, 48, .inl (aN ln_)))] H_ := hP_
  have hD_ : va_D A_ [(h_, .inr (1, [.ref a_, .ref b_, .ref d_, .int (iI ((0 : Nat) : Int))])), (a_, .inl (cI, 48, .inl (aN os_))), (b_, .inl (cI, 48, .inl (aN ns_))), (d_, .inl (cI, 48, .inl (aN ln_)))] := hD_
  rw [← hQe]
  exact W.vret hx_ hb_ hr (fun tt1 htt1 hWW1 => ⟨⟨(), rfl, trivial, by show va_P G_ vwCl _ tt1.heap; rw [htt1]; exact hP_⟩, hS_.F htt1⟩) hS_.2.2 dX1_removeAll_5

set_option maxHeartbeats 4000000 in
set_option maxRecDepth 100000 in
/-- Blocks.insert -/
theorem c_X1_insert (l_ : Launch) (G_ : va_G) (cI cZ : ClassId) (h_ a_ b_ d_ : Nat) (k_ : Nat) (os_ ns_ ln_ : Nat → Nat) (x_ y_ z_ : Nat) (hk_ : k_ < 48) (hB_ : B48 k_ os_ ns_ ln_) (hy_ : y_ ≤ 48) (sz : Nat) : Wr (S := Nat) l_ yX1_insert wsX1_insert ({ frames := 0, cells := 0, slots := 0, locals := 0 }) G_ cI cZ [.ref h_, .int (iI ((x_ : Nat) : Int)), .int (iI ((y_ : Nat) : Int)), .int (iI ((z_ : Nat) : Int))] (wBl cI h_ a_ b_ d_ k_ os_ ns_ ln_) sz (fun q_ => q_ ≤ k_ ∧ (0 < q_ → ns_ (q_ - 1) ≤ y_) ∧ ∀ j_, q_ ≤ j_ → j_ < k_ → y_ < ns_ j_) (fun q_ => wBl cI h_ a_ b_ d_ (k_ + 1) (ins os_ q_ k_ x_) (ins ns_ q_ k_ y_) (ins ln_ q_ k_ z_)) := by
  refine Met.ofW (cc := cX1_insert) (maxL := 5) (ret := (none)) (by decide) rfl ?_
  intro p_ e_ s_ m_ args below meth c_ s₁ B hml hv
  obtain ⟨hargs, hsz, hP_, hK_, hD0⟩ := hv
  have hx_ := B.exec
  have hb_ := B.bytes
  have hr := B.returns
  have hts := atoms_spec (ws := wsX1_insert) B.pre
  have hown : s_.vm.findClass RX1 = some m_.cls := findClass_of_methodNamed B.named
  have hlocks := B.notSynchronized
  have hi1_ : ∀ w_ ∈ wsX10, w_ ∈ wsX1_insert := by decide +kernel
  have hf9_ := hts (.fieldLink RX1 9 "RelocatingPatch$Blocks" "oldStarts" "[I") (by decide +kernel)
  have hf15_ := hts (.fieldLink RX1 15 "RelocatingPatch$Blocks" "newStarts" "[I") (by decide +kernel)
  have hf18_ := hts (.fieldLink RX1 18 "RelocatingPatch$Blocks" "lengths" "[I") (by decide +kernel)
  have hf21_ := hts (.fieldLink RX1 21 "RelocatingPatch$Blocks" "size" "I") (by decide +kernel)
  subst hsz
  have hD_ := hD0.self (sz := s_.heap.size)
  generalize hAe : va_A (wBl cI h_ a_ b_ d_ k_ os_ ns_ ln_) s_.heap.size = A_ at hD_ ⊢
  have hA_ : ∀ q_ : Nat, s_.heap.size ≤ q_ → A_ q_ := fun q_ h_ => by rw [← hAe]; exact Or.inr h_
  have hS_ : va_S A_ s_.heap s_.heap [] := va_S.rf
  have hP_ : va_P G_ vwCl [(h_, .inr (1, [.ref a_, .ref b_, .ref d_, .int (iI ((k_ : Nat) : Int))])), (a_, .inl (cI, 48, .inl (aN os_))), (b_, .inl (cI, 48, .inl (aN ns_))), (d_, .inl (cI, 48, .inl (aN ln_)))] s_.heap := hP_
  have hD_ : va_D A_ [(h_, .inr (1, [.ref a_, .ref b_, .ref d_, .int (iI ((k_ : Nat) : Int))])), (a_, .inl (cI, 48, .inl (aN os_))), (b_, .inl (cI, 48, .inl (aN ns_))), (d_, .inl (cI, 48, .inl (aN ln_)))] := hD_
  generalize hQe : MQ below (va_Qv (S := Nat) (fun q_ => q_ ≤ k_ ∧ (0 < q_ → ns_ (q_ - 1) ≤ y_) ∧ ∀ j_, q_ ≤ j_ → j_ < k_ → y_ < ns_ j_) (fun u1 t1 => va_P G_ vwCl ((fun q_ => wBl cI h_ a_ b_ d_ (k_ + 1) (ins os_ q_ k_ x_) (ins ns_ q_ k_ y_) (ins ln_ q_ k_ z_)) u1) t1.heap) A_) args s_ 0 0 A_ = Q_
  have lp16 : ∀ (n_ : Nat) (q_ : Nat) (H_ : Heap) (locs : List Loc) (ls_ : Array Slot), (q_ ≤ k_) → (q_ + 1 ≤ n_) → (∀ j_, q_ ≤ j_ → j_ < k_ → y_ < ns_ j_) → va_P G_ vwCl [(h_, .inr (1, [.ref a_, .ref b_, .ref d_, .int (iI ((k_ : Nat) : Int))])), (a_, .inl (cI, 48, .inl (aN (shf os_ q_ k_)))), (b_, .inl (cI, 48, .inl (aN (shf ns_ q_ k_)))), (d_, .inl (cI, 48, .inl (aN (shf ln_ q_ k_))))] H_ → va_D A_ [(h_, .inr (1, [.ref a_, .ref b_, .ref d_, .int (iI ((k_ : Nat) : Int))])), (a_, .inl (cI, 48, .inl (aN (shf os_ q_ k_)))), (b_, .inl (cI, 48, .inl (aN (shf ns_ q_ k_)))), (d_, .inl (cI, 48, .inl (aN (shf ln_ q_ k_))))] → va_S A_ s_.heap H_ locs → lv_has ls_ 5 [(0, .ref h_), (1, .int (iI ((x_ : Nat) : Int))), (2, .int (iI ((y_ : Nat) : Int))), (3, .int (iI ((z_ : Nat) : Int))), (4, .int (iI ((q_ : Nat) : Int)))] → W p_ l_ e_ (headSpec wsX1_insert ({ frames := 0, cells := 0, slots := 0, locals := 0 })).room s_ m_ args below meth c_ H_ locs 0 0 Q_ (F0 m_ 16 ls_ []) := by
    intro n_
    induction n_ with
    | zero =>
      intro q_ H_ locs ls_ hq_ hn_ hgt
      exact False.elim (by omega)
    | succ n_ ih_ =>
      intro q_ H_ locs ls_ hq_ hn_ hgt hP_ hD_ hS_ hl_
      refine lv_iload hx_ hb_ dX1_insert_16 (lv_at hl_ 4 rfl) ?_
      refine q_if_le (tgt := 88) hx_ hb_ dX1_insert_18 (by decide) (⟨by omega, by omega⟩) (fun c18_ => ?_) (fun c18_ => ?_)
      · skip
        refine lv_aload_n hx_ hb_ dX1_insert_88 rfl (lv_at hl_ 0 rfl) ?_
        refine va_get (D := G_) (ci := 1) (v := .ref a_) (C := RX1) (T := TX1) (N := 4) hx_ hb_ hts hi1_ hown hK_ hP_ 0 rfl rfl 0 (by decide) hf9_ (fun _ h9 => h9) rfl dX1_insert_89 ?_
        refine lv_iload hx_ hb_ dX1_insert_92 (lv_at hl_ 4 rfl) ?_
        refine lv_iload_n hx_ hb_ dX1_insert_94 rfl (lv_at hl_ 1 rfl) ?_
        refine q_istN hx_ hb_ hK_ hP_ hD_ hS_ 1 rfl (by decide) (q_) (by omega) (x_) dX1_insert_95 (ws' := [(h_, .inr (1, [.ref a_, .ref b_, .ref d_, .int (iI ((k_ : Nat) : Int))])), (a_, .inl (cI, 48, .inl (aN (va_up (shf os_ q_ k_) q_ x_)))), (b_, .inl (cI, 48, .inl (aN (shf ns_ q_ k_)))), (d_, .inl (cI, 48, .inl (aN (shf ln_ q_ k_))))]) rfl (fun H_ locs hP_ hD_ hS_ => ?_)
        refine lv_aload_n hx_ hb_ dX1_insert_96 rfl (lv_at hl_ 0 rfl) ?_
        refine va_get (D := G_) (ci := 1) (v := .ref b_) (C := RX1) (T := TX1) (N := 4) hx_ hb_ hts hi1_ hown hK_ hP_ 0 rfl rfl 1 (by decide) hf15_ (fun _ h9 => h9) rfl dX1_insert_97 ?_
        refine lv_iload hx_ hb_ dX1_insert_100 (lv_at hl_ 4 rfl) ?_
        refine lv_iload_n hx_ hb_ dX1_insert_102 rfl (lv_at hl_ 2 rfl) ?_
        refine q_istN hx_ hb_ hK_ hP_ hD_ hS_ 2 rfl (by decide) (q_) (by omega) (y_) dX1_insert_103 (ws' := [(h_, .inr (1, [.ref a_, .ref b_, .ref d_, .int (iI ((k_ : Nat) : Int))])), (a_, .inl (cI, 48, .inl (aN (va_up (shf os_ q_ k_) q_ x_)))), (b_, .inl (cI, 48, .inl (aN (va_up (shf ns_ q_ k_) q_ y_)))), (d_, .inl (cI, 48, .inl (aN (shf ln_ q_ k_))))]) rfl (fun H_ locs hP_ hD_ hS_ => ?_)
        refine lv_aload_n hx_ hb_ dX1_insert_104 rfl (lv_at hl_ 0 rfl) ?_
        refine va_get (D := G_) (ci := 1) (v := .ref d_) (C := RX1) (T := TX1) (N := 4) hx_ hb_ hts hi1_ hown hK_ hP_ 0 rfl rfl 2 (by decide) hf18_ (fun _ h9 => h9) rfl dX1_insert_105 ?_
        refine lv_iload hx_ hb_ dX1_insert_108 (lv_at hl_ 4 rfl) ?_
        refine lv_iload_n hx_ hb_ dX1_insert_110 rfl (lv_at hl_ 3 rfl) ?_
        refine q_istN hx_ hb_ hK_ hP_ hD_ hS_ 3 rfl (by decide) (q_) (by omega) (z_) dX1_insert_111 (ws' := [(h_, .inr (1, [.ref a_, .ref b_, .ref d_, .int (iI ((k_ : Nat) : Int))])), (a_, .inl (cI, 48, .inl (aN (va_up (shf os_ q_ k_) q_ x_)))), (b_, .inl (cI, 48, .inl (aN (va_up (shf ns_ q_ k_) q_ y_)))), (d_, .inl (cI, 48, .inl (aN (va_up (shf ln_ q_ k_) q_ z_))))]) rfl (fun H_ locs hP_ hD_ hS_ => ?_)
        refine lv_aload_n hx_ hb_ dX1_insert_112 rfl (lv_at hl_ 0 rfl) ?_
        refine lv_dup hx_ hb_ dX1_insert_113 rfl ?_
        refine va_get (D := G_) (ci := 1) (v := .int (iI ((k_ : Nat) : Int))) (C := RX1) (T := TX1) (N := 4) hx_ hb_ hts hi1_ hown hK_ hP_ 0 rfl rfl 3 (by decide) hf21_ (fun _ h9 => h9) rfl dX1_insert_114 ?_
        refine lv_iconst (v := iI ((1 : Nat) : Int)) hx_ hb_ dX1_insert_117 rfl ?_
        refine q_iaddN hx_ hb_ dX1_insert_118 ?_
        refine va_put (D := G_) (ci := 1) (v := .int (iI ((k_ + 1 : Nat) : Int))) (ty := .int) (C := RX1) (T := TX1) (N := 4) hx_ hb_ hts hi1_ tyX1 tyX1_ok nmX1 hown hK_ hP_ hD_ hS_ 0 rfl rfl 3 (by decide) hf21_ (fun _ h9 => h9) rfl (by decide +kernel) rfl rfl (Nat.le_of_ble_eq_true rfl) dX1_insert_119 (fun H_ locs hP_ hD_ hS_ => ?_)
        have hP_ : va_P G_ vwCl [(h_, .inr (1, [.ref a_, .ref b_, .ref d_, .int (iI ((k_ + 1 : Nat) : Int))])), (a_, .inl (cI, 48, .inl (aN (va_up (shf os_ q_ k_) q_ x_)))), (b_, .inl (cI, 48, .inl (aN (va_up (shf ns_ q_ k_) q_ y_)))), (d_, .inl (cI, 48, .inl (aN (va_up (shf ln_ q_ k_) q_ z_))))] H_ := hP_
        have hD_ : va_D A_ [(h_, .inr (1, [.ref a_, .ref b_, .ref d_, .int (iI ((k_ + 1 : Nat) : Int))])), (a_, .inl (cI, 48, .inl (aN (va_up (shf os_ q_ k_) q_ x_)))), (b_, .inl (cI, 48, .inl (aN (va_up (shf ns_ q_ k_) q_ y_)))), (d_, .inl (cI, 48, .inl (aN (va_up (shf ln_ q_ k_) q_ z_))))] := hD_
        rw [← hQe]
        exact W.vret hx_ hb_ hr (fun tt1 htt1 hWW1 => ⟨⟨q_, rfl, ⟨hq_, fun h0_ => by omega, hgt⟩, by show va_P G_ vwCl _ tt1.heap; rw [htt1]; exact hP_⟩, hS_.F htt1⟩) hS_.2.2 dX1_insert_122
      · skip
        have fb1 := hB_ (q_ - 1) (by omega)
        refine lv_aload_n hx_ hb_ dX1_insert_21 rfl (lv_at hl_ 0 rfl) ?_
        refine va_get (D := G_) (ci := 1) (v := .ref b_) (C := RX1) (T := TX1) (N := 4) hx_ hb_ hts hi1_ hown hK_ hP_ 0 rfl rfl 1 (by decide) hf15_ (fun _ h9 => h9) rfl dX1_insert_22 ?_
        refine lv_iload hx_ hb_ dX1_insert_25 (lv_at hl_ 4 rfl) ?_
        refine lv_iconst (v := iI ((1 : Nat) : Int)) hx_ hb_ dX1_insert_27 rfl ?_
        refine q_isub hx_ hb_ dX1_insert_28 ?_
        refine q_cast (b := ((q_ - 1 : Nat) : Int)) (by omega) ?_
        refine q_ildN hx_ hb_ hK_ hP_ 2 rfl (by decide) (q_ - 1) (by omega) (ns_ (q_ - 1)) (shf_lt ns_ (by omega)) dX1_insert_29 ?_
        refine lv_iload_n hx_ hb_ dX1_insert_30 rfl (lv_at hl_ 2 rfl) ?_
        refine q_icmp_le (tgt := 88) hx_ hb_ dX1_insert_31 (by decide) (⟨by omega, by omega⟩) (⟨by omega, by omega⟩) (fun c31_ => ?_) (fun c31_ => ?_)
        · skip
          refine lv_aload_n hx_ hb_ dX1_insert_88 rfl (lv_at hl_ 0 rfl) ?_
          refine va_get (D := G_) (ci := 1) (v := .ref a_) (C := RX1) (T := TX1) (N := 4) hx_ hb_ hts hi1_ hown hK_ hP_ 0 rfl rfl 0 (by decide) hf9_ (fun _ h9 => h9) rfl dX1_insert_89 ?_
          refine lv_iload hx_ hb_ dX1_insert_92 (lv_at hl_ 4 rfl) ?_
          refine lv_iload_n hx_ hb_ dX1_insert_94 rfl (lv_at hl_ 1 rfl) ?_
          refine q_istN hx_ hb_ hK_ hP_ hD_ hS_ 1 rfl (by decide) (q_) (by omega) (x_) dX1_insert_95 (ws' := [(h_, .inr (1, [.ref a_, .ref b_, .ref d_, .int (iI ((k_ : Nat) : Int))])), (a_, .inl (cI, 48, .inl (aN (va_up (shf os_ q_ k_) q_ x_)))), (b_, .inl (cI, 48, .inl (aN (shf ns_ q_ k_)))), (d_, .inl (cI, 48, .inl (aN (shf ln_ q_ k_))))]) rfl (fun H_ locs hP_ hD_ hS_ => ?_)
          refine lv_aload_n hx_ hb_ dX1_insert_96 rfl (lv_at hl_ 0 rfl) ?_
          refine va_get (D := G_) (ci := 1) (v := .ref b_) (C := RX1) (T := TX1) (N := 4) hx_ hb_ hts hi1_ hown hK_ hP_ 0 rfl rfl 1 (by decide) hf15_ (fun _ h9 => h9) rfl dX1_insert_97 ?_
          refine lv_iload hx_ hb_ dX1_insert_100 (lv_at hl_ 4 rfl) ?_
          refine lv_iload_n hx_ hb_ dX1_insert_102 rfl (lv_at hl_ 2 rfl) ?_
          refine q_istN hx_ hb_ hK_ hP_ hD_ hS_ 2 rfl (by decide) (q_) (by omega) (y_) dX1_insert_103 (ws' := [(h_, .inr (1, [.ref a_, .ref b_, .ref d_, .int (iI ((k_ : Nat) : Int))])), (a_, .inl (cI, 48, .inl (aN (va_up (shf os_ q_ k_) q_ x_)))), (b_, .inl (cI, 48, .inl (aN (va_up (shf ns_ q_ k_) q_ y_)))), (d_, .inl (cI, 48, .inl (aN (shf ln_ q_ k_))))]) rfl (fun H_ locs hP_ hD_ hS_ => ?_)
          refine lv_aload_n hx_ hb_ dX1_insert_104 rfl (lv_at hl_ 0 rfl) ?_
          refine va_get (D := G_) (ci := 1) (v := .ref d_) (C := RX1) (T := TX1) (N := 4) hx_ hb_ hts hi1_ hown hK_ hP_ 0 rfl rfl 2 (by decide) hf18_ (fun _ h9 => h9) rfl dX1_insert_105 ?_
          refine lv_iload hx_ hb_ dX1_insert_108 (lv_at hl_ 4 rfl) ?_
          refine lv_iload_n hx_ hb_ dX1_insert_110 rfl (lv_at hl_ 3 rfl) ?_
          refine q_istN hx_ hb_ hK_ hP_ hD_ hS_ 3 rfl (by decide) (q_) (by omega) (z_) dX1_insert_111 (ws' := [(h_, .inr (1, [.ref a_, .ref b_, .ref d_, .int (iI ((k_ : Nat) : Int))])), (a_, .inl (cI, 48, .inl (aN (va_up (shf os_ q_ k_) q_ x_)))), (b_, .inl (cI, 48, .inl (aN (va_up (shf ns_ q_ k_) q_ y_)))), (d_, .inl (cI, 48, .inl (aN (va_up (shf ln_ q_ k_) q_ z_))))]) rfl (fun H_ locs hP_ hD_ hS_ => ?_)
          refine lv_aload_n hx_ hb_ dX1_insert_112 rfl (lv_at hl_ 0 rfl) ?_
          refine lv_dup hx_ hb_ dX1_insert_113 rfl ?_
          refine va_get (D := G_) (ci := 1) (v := .int (iI ((k_ : Nat) : Int))) (C := RX1) (T := TX1) (N := 4) hx_ hb_ hts hi1_ hown hK_ hP_ 0 rfl rfl 3 (by decide) hf21_ (fun _ h9 => h9) rfl dX1_insert_114 ?_
          refine lv_iconst (v := iI ((1 : Nat) : Int)) hx_ hb_ dX1_insert_117 rfl ?_
          refine q_iaddN hx_ hb_ dX1_insert_118 ?_
          refine va_put (D := G_) (ci := 1) (v := .int (iI ((k_ + 1 : Nat) : Int))) (ty := .int) (C := RX1) (T := TX1) (N := 4) hx_ hb_ hts hi1_ tyX1 tyX1_ok nmX1 hown hK_ hP_ hD_ hS_ 0 rfl rfl 3 (by decide) hf21_ (fun _ h9 => h9) rfl (by decide +kernel) rfl rfl (Nat.le_of_ble_eq_true rfl) dX1_insert_119 (fun H_ locs hP_ hD_ hS_ => ?_)
          have hP_ : va_P G_ vwCl [(h_, .inr (1, [.ref a_, .ref b_, .ref d_, .int (iI ((k_ + 1 : Nat) : Int))])), (a_, .inl (cI, 48, .inl (aN (va_up (shf os_ q_ k_) q_ x_)))), (b_, .inl (cI, 48, .inl (aN (va_up (shf ns_ q_ k_) q_ y_)))), (d_, .inl (cI, 48, .inl (aN (va_up (shf ln_ q_ k_) q_ z_))))] H_ := hP_
          have hD_ : va_D A_ [(h_, .inr (1, [.ref a_, .ref b_, .ref d_, .int (iI ((k_ + 1 : Nat) : Int))])), (a_, .inl (cI, 48, .inl (aN (va_up (shf os_ q_ k_) q_ x_)))), (b_, .inl (cI, 48, .inl (aN (va_up (shf ns_ q_ k_) q_ y_)))), (d_, .inl (cI, 48, .inl (aN (va_up (shf ln_ q_ k_) q_ z_))))] := hD_
          rw [← hQe]
          exact W.vret hx_ hb_ hr (fun tt1 htt1 hWW1 => ⟨⟨q_, rfl, ⟨hq_, fun h0_ => by omega, hgt⟩, by show va_P G_ vwCl _ tt1.heap; rw [htt1]; exact hP_⟩, hS_.F htt1⟩) hS_.2.2 dX1_insert_122
        · skip
          refine lv_aload_n hx_ hb_ dX1_insert_34 rfl (lv_at hl_ 0 rfl) ?_
          refine va_get (D := G_) (ci := 1) (v := .ref a_) (C := RX1) (T := TX1) (N := 4) hx_ hb_ hts hi1_ hown hK_ hP_ 0 rfl rfl 0 (by decide) hf9_ (fun _ h9 => h9) rfl dX1_insert_35 ?_
          refine lv_iload hx_ hb_ dX1_insert_38 (lv_at hl_ 4 rfl) ?_
          refine lv_aload_n hx_ hb_ dX1_insert_40 rfl (lv_at hl_ 0 rfl) ?_
          refine va_get (D := G_) (ci := 1) (v := .ref a_) (C := RX1) (T := TX1) (N := 4) hx_ hb_ hts hi1_ hown hK_ hP_ 0 rfl rfl 0 (by decide) hf9_ (fun _ h9 => h9) rfl dX1_insert_41 ?_
          refine lv_iload hx_ hb_ dX1_insert_44 (lv_at hl_ 4 rfl) ?_
          refine lv_iconst (v := iI ((1 : Nat) : Int)) hx_ hb_ dX1_insert_46 rfl ?_
          refine q_isub hx_ hb_ dX1_insert_47 ?_
          refine q_cast (b := ((q_ - 1 : Nat) : Int)) (by omega) ?_
          refine q_ildN hx_ hb_ hK_ hP_ 1 rfl (by decide) (q_ - 1) (by omega) (os_ (q_ - 1)) (shf_lt os_ (by omega)) dX1_insert_48 ?_
          refine q_istN hx_ hb_ hK_ hP_ hD_ hS_ 1 rfl (by decide) (q_) (by omega) (os_ (q_ - 1)) dX1_insert_49 (ws' := [(h_, .inr (1, [.ref a_, .ref b_, .ref d_, .int (iI ((k_ : Nat) : Int))])), (a_, .inl (cI, 48, .inl (aN (va_up (shf os_ q_ k_) q_ (os_ (q_ - 1)))))), (b_, .inl (cI, 48, .inl (aN (shf ns_ q_ k_)))), (d_, .inl (cI, 48, .inl (aN (shf ln_ q_ k_))))]) rfl (fun H_ locs hP_ hD_ hS_ => ?_)
          refine lv_aload_n hx_ hb_ dX1_insert_50 rfl (lv_at hl_ 0 rfl) ?_
          refine va_get (D := G_) (ci := 1) (v := .ref b_) (C := RX1) (T := TX1) (N := 4) hx_ hb_ hts hi1_ hown hK_ hP_ 0 rfl rfl 1 (by decide) hf15_ (fun _ h9 => h9) rfl dX1_insert_51 ?_
          refine lv_iload hx_ hb_ dX1_insert_54 (lv_at hl_ 4 rfl) ?_
          refine lv_aload_n hx_ hb_ dX1_insert_56 rfl (lv_at hl_ 0 rfl) ?_
          refine va_get (D := G_) (ci := 1) (v := .ref b_) (C := RX1) (T := TX1) (N := 4) hx_ hb_ hts hi1_ hown hK_ hP_ 0 rfl rfl 1 (by decide) hf15_ (fun _ h9 => h9) rfl dX1_insert_57 ?_
          refine lv_iload hx_ hb_ dX1_insert_60 (lv_at hl_ 4 rfl) ?_
          refine lv_iconst (v := iI ((1 : Nat) : Int)) hx_ hb_ dX1_insert_62 rfl ?_
          refine q_isub hx_ hb_ dX1_insert_63 ?_
          refine q_cast (b := ((q_ - 1 : Nat) : Int)) (by omega) ?_
          refine q_ildN hx_ hb_ hK_ hP_ 2 rfl (by decide) (q_ - 1) (by omega) (ns_ (q_ - 1)) (shf_lt ns_ (by omega)) dX1_insert_64 ?_
          refine q_istN hx_ hb_ hK_ hP_ hD_ hS_ 2 rfl (by decide) (q_) (by omega) (ns_ (q_ - 1)) dX1_insert_65 (ws' := [(h_, .inr (1, [.ref a_, .ref b_, .ref d_, .int (iI ((k_ : Nat) : Int))])), (a_, .inl (cI, 48, .inl (aN (va_up (shf os_ q_ k_) q_ (os_ (q_ - 1)))))), (b_, .inl (cI, 48, .inl (aN (va_up (shf ns_ q_ k_) q_ (ns_ (q_ - 1)))))), (d_, .inl (cI, 48, .inl (aN (shf ln_ q_ k_))))]) rfl (fun H_ locs hP_ hD_ hS_ => ?_)
          refine lv_aload_n hx_ hb_ dX1_insert_66 rfl (lv_at hl_ 0 rfl) ?_
          refine va_get (D := G_) (ci := 1) (v := .ref d_) (C := RX1) (T := TX1) (N := 4) hx_ hb_ hts hi1_ hown hK_ hP_ 0 rfl rfl 2 (by decide) hf18_ (fun _ h9 => h9) rfl dX1_insert_67 ?_
          refine lv_iload hx_ hb_ dX1_insert_70 (lv_at hl_ 4 rfl) ?_
          refine lv_aload_n hx_ hb_ dX1_insert_72 rfl (lv_at hl_ 0 rfl) ?_
          refine va_get (D := G_) (ci := 1) (v := .ref d_) (C := RX1) (T := TX1) (N := 4) hx_ hb_ hts hi1_ hown hK_ hP_ 0 rfl rfl 2 (by decide) hf18_ (fun _ h9 => h9) rfl dX1_insert_73 ?_
          refine lv_iload hx_ hb_ dX1_insert_76 (lv_at hl_ 4 rfl) ?_
          refine lv_iconst (v := iI ((1 : Nat) : Int)) hx_ hb_ dX1_insert_78 rfl ?_
          refine q_isub hx_ hb_ dX1_insert_79 ?_
          refine q_cast (b := ((q_ - 1 : Nat) : Int)) (by omega) ?_
          refine q_ildN hx_ hb_ hK_ hP_ 3 rfl (by decide) (q_ - 1) (by omega) (ln_ (q_ - 1)) (shf_lt ln_ (by omega)) dX1_insert_80 ?_
          refine q_istN hx_ hb_ hK_ hP_ hD_ hS_ 3 rfl (by decide) (q_) (by omega) (ln_ (q_ - 1)) dX1_insert_81 (ws' := [(h_, .inr (1, [.ref a_, .ref b_, .ref d_, .int (iI ((k_ : Nat) : Int))])), (a_, .inl (cI, 48, .inl (aN (va_up (shf os_ q_ k_) q_ (os_ (q_ - 1)))))), (b_, .inl (cI, 48, .inl (aN (va_up (shf ns_ q_ k_) q_ (ns_ (q_ - 1)))))), (d_, .inl (cI, 48, .inl (aN (va_up (shf ln_ q_ k_) q_ (ln_ (q_ - 1))))))]) rfl (fun H_ locs hP_ hD_ hS_ => ?_)
          refine q_iinc (k := 4) ((q_ - 1 : Nat) : Int) hx_ hb_ dX1_insert_82 hl_ rfl (by omega) (by decide) (lv' := [(4, .int (iI ((q_ - 1 : Nat) : Int))), (0, .ref h_), (1, .int (iI ((x_ : Nat) : Int))), (2, .int (iI ((y_ : Nat) : Int))), (3, .int (iI ((z_ : Nat) : Int)))]) rfl (fun ls_ hl_ => ?_)
          refine lv_goto (tgt := 16) hx_ hb_ dX1_insert_85 (by decide) ?_
          exact ih_ (q_ - 1) _ _ ls_ (by omega) (by omega) (fun j_ h1_ h2_ => by by_cases hj_ : j_ = q_ - 1; rw [hj_]; omega; exact hgt j_ (by omega) h2_) (by rw [← shf_step os_ (by omega) hq_, ← shf_step ns_ (by omega) hq_, ← shf_step ln_ (by omega) hq_]; exact hP_) (by rw [← shf_step os_ (by omega) hq_, ← shf_step ns_ (by omega) hq_, ← shf_step ln_ (by omega) hq_]; exact hD_) hS_ (lv_sub hl_ [1, 2, 3, 4, 0] rfl)
  rw [show entryFrame m_ args 5 = entryFrame m_ ([.ref h_, .int (iI ((x_ : Nat) : Int)), .int (iI ((y_ : Nat) : Int)), .int (iI ((z_ : Nat) : Int))] : List Value).toArray 5 from by rw [hargs], lg_entry_eq]
  have hl_ := lv_entry ([.ref h_, .int (iI ((x_ : Nat) : Int)), .int (iI ((y_ : Nat) : Int)), .int (iI ((z_ : Nat) : Int))]) (n := 5) (Nat.le_of_ble_eq_true rfl)
  generalize (lg_sl ([.ref h_, .int (iI ((x_ : Nat) : Int)), .int (iI ((y_ : Nat) : Int)), .int (iI ((z_ : Nat) : Int))]) ++ List.replicate (5 - (lg_sl ([.ref h_, .int (iI ((x_ : Nat) : Int)), .int (iI ((y_ : Nat) : Int)), .int (iI ((z_ : Nat) : Int))])).length) Slot.unset).toArray = ls_ at hl_ ⊢
  have hl_ : lv_has ls_ 5 [(0, .ref h_), (1, .int (iI ((x_ : Nat) : Int))), (2, .int (iI ((y_ : Nat) : Int))), (3, .int (iI ((z_ : Nat) : Int)))] := hl_
  refine lv_aload_n hx_ hb_ dX1_insert_0 rfl (lv_at hl_ 0 rfl) ?_
  refine va_get (D := G_) (ci := 1) (v := .int (iI ((k_ : Nat) : Int))) (C := RX1) (T := TX1) (N := 4) hx_ hb_ hts hi1_ hown hK_ hP_ 0 rfl rfl 3 (by decide) hf21_ (fun _ h9 => h9) rfl dX1_insert_1 ?_
  refine lv_bipush (v := iI ((48 : Nat) : Int)) hx_ hb_ dX1_insert_4 rfl ?_
  refine q_icmp_lt (tgt := 10) hx_ hb_ dX1_insert_6 (by decide) (⟨by omega, by omega⟩) (⟨by decide, by decide⟩) (fun c6_ => ?_) (fun c6_ => absurd c6_ (by omega))
  refine lv_aload_n hx_ hb_ dX1_insert_10 rfl (lv_at hl_ 0 rfl) ?_
  refine va_get (D := G_) (ci := 1) (v := .int (iI ((k_ : Nat) : Int))) (C := RX1) (T := TX1) (N := 4) hx_ hb_ hts hi1_ hown hK_ hP_ 0 rfl rfl 3 (by decide) hf21_ (fun _ h9 => h9) rfl dX1_insert_11 ?_
  refine lv_istore (lv' := [(4, .int (iI ((k_ : Nat) : Int))), (0, .ref h_), (1, .int (iI ((x_ : Nat) : Int))), (2, .int (iI ((y_ : Nat) : Int))), (3, .int (iI ((z_ : Nat) : Int)))]) hx_ hb_ dX1_insert_14 hl_ (by decide) rfl (fun ls_ hl_ => ?_)
  exact lp16 (k_ + 1) k_ _ _ ls_ (by omega) (by omega) (fun j_ h1_ h2_ => absurd h1_ (by omega)) (by rw [shf_self, shf_self, shf_self]; exact hP_) (by rw [shf_self, shf_self, shf_self]; exact hD_) hS_ (lv_sub hl_ [1, 2, 3, 4, 0] rfl)
