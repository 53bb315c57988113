set_option maxHeartbeats 4000000 in
set_option maxRecDepth 100000 in
/-- isValue -/
theorem c_X4_isValue (l_ : Launch) (G_ : va_G) (cI cZ : ClassId) (x_ : Int) (hx1 : -2147483648 ≤ x_) (hx2 : x_ < 2147483648) : Ro l_ yX4_isValue wsX4_isValue ({ frames := 0, cells := 0, slots := 0, locals := 0 }) G_ cI cZ [.int (iI (x_))] [] (bZ (decide (0 ≤ x_ ∧ x_ ≤ 9999))) := by
  refine Met.ofW (cc := cX4_isValue) (maxL := 1) (ret := (some .boolean)) (by decide) rfl ?_
  intro p_ e_ s_ m_ args below meth c_ s₁ B hml hv
  obtain ⟨hargs, hP_, hK_⟩ := hv
  have hx_ := B.exec
  have hb_ := B.bytes
  have hr := B.returns
  have hts := atoms_spec (ws := wsX4_isValue) B.pre
  have hown : s_.vm.findClass RX4 = some m_.cls := findClass_of_methodNamed B.named
  have hlocks := B.notSynchronized
  have hP_ : va_P G_ vwCl [] s_.heap := hP_
  generalize hQe : MQ below (vp_Si (fun r_ => r_ = iI (bZ (decide (0 ≤ x_ ∧ x_ ≤ 9999))))) args s_ 0 0 (fun _ => False) = Q_
  rw [show entryFrame m_ args 1 = entryFrame m_ ([.int (iI (x_))] : List Value).toArray 1 from by rw [hargs], lg_entry_eq]
  have hl_ := lv_entry ([.int (iI (x_))]) (n := 1) (Nat.le_of_ble_eq_true rfl)
  generalize (lg_sl ([.int (iI (x_))]) ++ List.replicate (1 - (lg_sl ([.int (iI (x_))])).length) Slot.unset).toArray = ls_ at hl_ ⊢
  have hl_ : lv_has ls_ 1 [(0, .int (iI (x_)))] := hl_
  refine lv_iload_n hx_ hb_ dX4_isValue_0 rfl (lv_at hl_ 0 rfl) ?_
  refine q_if_lt (tgt := 15) hx_ hb_ dX4_isValue_1 (by decide) (⟨by omega, by omega⟩) (fun c1_ => ?_) (fun c1_ => ?_)
  · skip
    refine lv_iconst (v := iI ((0 : Nat) : Int)) hx_ hb_ dX4_isValue_15 rfl ?_
    rw [← hQe]
    refine q_cast (b := bZ false) rfl ?_
    exact W.zret (v := _) hx_ hb_ hr (nar_bZ _) (fun tt1 htt1 hWW1 => ⟨_, rfl, congrArg iI (congrArg bZ (decide_eq_false (by omega)).symm), htt1⟩) (fun q_ h_ => absurd h_ List.not_mem_nil) dX4_isValue_16
  · skip
    refine lv_iload_n hx_ hb_ dX4_isValue_4 rfl (lv_at hl_ 0 rfl) ?_
    refine lv_sipush (v := iI ((9999 : Nat) : Int)) hx_ hb_ dX4_isValue_5 rfl ?_
    refine q_icmp_gt (tgt := 15) hx_ hb_ dX4_isValue_8 (by decide) (⟨by omega, by omega⟩) (⟨by decide, by decide⟩) (fun c8_ => ?_) (fun c8_ => ?_)
    · skip
      refine lv_iconst (v := iI ((0 : Nat) : Int)) hx_ hb_ dX4_isValue_15 rfl ?_
      rw [← hQe]
      refine q_cast (b := bZ false) rfl ?_
      exact W.zret (v := _) hx_ hb_ hr (nar_bZ _) (fun tt1 htt1 hWW1 => ⟨_, rfl, congrArg iI (congrArg bZ (decide_eq_false (by omega)).symm), htt1⟩) (fun q_ h_ => absurd h_ List.not_mem_nil) dX4_isValue_16
    · skip
      refine lv_iconst (v := iI ((1 : Nat) : Int)) hx_ hb_ dX4_isValue_11 rfl ?_
      refine lv_goto (tgt := 16) hx_ hb_ dX4_isValue_12 (by decide) ?_
      rw [← hQe]
      refine q_cast (b := bZ true) rfl ?_
      exact W.zret (v := _) hx_ hb_ hr (nar_bZ _) (fun tt1 htt1 hWW1 => ⟨_, rfl, congrArg iI (congrArg bZ (decide_eq_true (by omega)).symm), htt1⟩) (fun q_ h_ => absurd h_ List.not_mem_nil) dX4_isValue_16

set_option maxHeartbeats 4000000 in
set_option maxRecDepth 100000 in
/-- blockError -/
theorem c_X4_blockError (l_ : Launch) (G_ : va_G) (cI cZ : ClassId) (ad : Nat → Nat) (bu : Bool) (no_ : Nat) (vo_ : Nat → Int) (fo_ : Nat → Bool) (nn_ : Nat) (vn_ : Nat → Int) (fn_ : Nat → Bool) (k_ : Nat) (os_ ns_ ln_ : Nat → Nat) (ot_ nt_ : Nat → Bool) (ru_ : Nat → Nat) (bo_ bn_ bl_ : Nat) (od_ : Nat → Nat) (wt_ dr_ : Nat → Bool) (sp_ : Nat) (x_ : Int) (hkk : bu = true → k_ ≤ 48) (hx1 : -2147483648 ≤ x_) (hx2 : x_ < 2147483648) : Ro l_ yX4_blockError wsX4_blockError ({ frames := 1, cells := 0, slots := 0, locals := 21 }) G_ cI cZ [.ref (ad 0), .int (iI (x_))] (wRP cI cZ ad bu no_ vo_ fo_ nn_ vn_ fn_ k_ os_ ns_ ln_ ot_ nt_ ru_ bo_ bn_ bl_ od_ wt_ dr_ sp_) (eR bu k_ x_) := by
  refine Met.ofW (cc := cX4_blockError) (maxL := 2) (ret := (some .int)) (by decide) rfl ?_
  intro p_ e_ s_ m_ args below meth c_ s₁ B hml hv
  obtain ⟨hargs, hP_, hK_⟩ := hv
  have hx_ := B.exec
  have hb_ := B.bytes
  have hr := B.returns
  have hts := atoms_spec (ws := wsX4_blockError) B.pre
  have hown : s_.vm.findClass RX4 = some m_.cls := findClass_of_methodNamed B.named
  have hlocks := B.notSynchronized
  have hi4_ : ∀ w_ ∈ wsX40, w_ ∈ wsX4_blockError := by decide +kernel
  have hf22_ := hts (.fieldLink RX4 22 "RelocatingPatch" "blocks" "LRelocatingPatch$Blocks;") (by decide +kernel)
  have hf40_ := hts (.fieldLink RX4 40 "RelocatingPatch" "built" "Z") (by decide +kernel)
  have hP_ : va_P G_ vwCl [(ad 0, .inr (4, [.ref (ad 1), .ref (ad 4), .ref (ad 7), .ref (ad 11), .ref (ad 15), .int (iI (bZ bu))])), (ad 1, .inr (3, [.ref (ad 2), .ref (ad 3), .int (iI ((no_ : Nat) : Int))])), (ad 2, .inl (cI, 48, .inl (aI vo_))), (ad 3, .inl (cZ, 48, .inl (aB fo_))), (ad 4, .inr (3, [.ref (ad 5), .ref (ad 6), .int (iI ((nn_ : Nat) : Int))])), (ad 5, .inl (cI, 48, .inl (aI vn_))), (ad 6, .inl (cZ, 48, .inl (aB fn_))), (ad 7, .inr (1, [.ref (ad 8), .ref (ad 9), .ref (ad 10), .int (iI ((k_ : Nat) : Int))])), (ad 8, .inl (cI, 48, .inl (aN os_))), (ad 9, .inl (cI, 48, .inl (aN ns_))), (ad 10, .inl (cI, 48, .inl (aN ln_))), (ad 11, .inr (0, [.ref (ad 12), .ref (ad 13), .ref (ad 14), .int (iI ((bo_ : Nat) : Int)), .int (iI ((bn_ : Nat) : Int)), .int (iI ((bl_ : Nat) : Int))])), (ad 12, .inl (cZ, 48, .inl (aB ot_))), (ad 13, .inl (cZ, 48, .inl (aB nt_))), (ad 14, .inl (cI, 49, .inl (aN ru_))), (ad 15, .inr (2, [.ref (ad 16), .ref (ad 17), .ref (ad 18), .int (iI ((sp_ : Nat) : Int))])), (ad 16, .inl (cI, 48, .inl (aN od_))), (ad 17, .inl (cZ, 48, .inl (aB wt_))), (ad 18, .inl (cZ, 48, .inl (aB dr_)))] s_.heap := hP_
  generalize hQe : MQ below (vp_Si (fun r_ => r_ = iI (eR bu k_ x_))) args s_ 0 0 (fun _ => False) = Q_
  rw [show entryFrame m_ args 2 = entryFrame m_ ([.ref (ad 0), .int (iI (x_))] : List Value).toArray 2 from by rw [hargs], lg_entry_eq]
  have hl_ := lv_entry ([.ref (ad 0), .int (iI (x_))]) (n := 2) (Nat.le_of_ble_eq_true rfl)
  generalize (lg_sl ([.ref (ad 0), .int (iI (x_))]) ++ List.replicate (2 - (lg_sl ([.ref (ad 0), .int (iI (x_))])).length) Slot.unset).toArray = ls_ at hl_ ⊢
  have hl_ : lv_has ls_ 2 [(0, .ref (ad 0)), (1, .int (iI (x_)))] := hl_
  refine lv_aload_n hx_ hb_ dX4_blockError_0 rfl (lv_at hl_ 0 rfl) ?_
  refine va_get (D := G_) (ci := 4) (v := .int (iI (bZ bu))) (C := RX4) (T := TX4) (N := 6) hx_ hb_ hts hi4_ hown hK_ hP_ 0 rfl rfl 5 (by decide) hf40_ (fun _ h9 => h9) rfl dX4_blockError_1 ?_
  refine q_bt (tgt := 11) hx_ hb_ dX4_blockError_4 (by decide) (fun c4_ => ?_) (fun c4_ => ?_)
  · skip
    have hk9 := hkk c4_
    refine lv_aload_n hx_ hb_ dX4_blockError_11 rfl (lv_at hl_ 0 rfl) ?_
    refine va_get (D := G_) (ci := 4) (v := .ref (ad 7)) (C := RX4) (T := TX4) (N := 6) hx_ hb_ hts hi4_ hown hK_ hP_ 0 rfl rfl 2 (by decide) hf22_ (fun _ h9 => h9) rfl dX4_blockError_12 ?_
    refine lv_iload_n hx_ hb_ dX4_blockError_15 rfl (lv_at hl_ 1 rfl) ?_
    refine ro_V (As := [.int (iI (x_))]) (rest := []) ⟨hx_, hb_, hml, hown, hts⟩ (c_X1_has l_ G_ cI cZ (ad 7) (ad 8) (ad 9) (ad 10) k_ os_ ns_ ln_ (x_) (by omega) (by omega) (by omega)) (cwV 1 hts gX4_blockError_X1_has rfl rfl rfl (by decide +kernel) ⟨Nat.le_of_ble_eq_true rfl, Nat.le_of_ble_eq_true rfl⟩) (hP_.sub (ws' := [(ad 7, .inr (1, [.ref (ad 8), .ref (ad 9), .ref (ad 10), .int (iI ((k_ : Nat) : Int))])), (ad 8, .inl (cI, 48, .inl (aN os_))), (ad 9, .inl (cI, 48, .inl (aN ns_))), (ad 10, .inl (cI, 48, .inl (aN ln_)))]) [7, 8, 9, 10] rfl) hK_ 0 rfl rfl rfl hl_.1 rfl (Nat.le_of_ble_eq_true rfl) dX4_blockError_16 ⟨Nat.zero_le _, Nat.zero_le _⟩ ?_
    refine q_df (tgt := 26) hx_ hb_ dX4_blockError_19 (by decide) (fun c19_ => ?_) (fun c19_ => ?_)
    · skip
      refine lv_sipush (v := iI (-10003)) hx_ hb_ dX4_blockError_26 rfl ?_
      rw [← hQe]
      exact W.iret hx_ hb_ hr (fun tt1 htt1 hWW1 => ⟨_, rfl, congrArg iI (if3 c4_ c19_), htt1⟩) (fun q_ h_ => absurd h_ List.not_mem_nil) dX4_blockError_29
    · skip
      refine lv_iconst (v := iI ((0 : Nat) : Int)) hx_ hb_ dX4_blockError_22 rfl ?_
      refine lv_goto (tgt := 29) hx_ hb_ dX4_blockError_23 (by decide) ?_
      rw [← hQe]
      exact W.iret hx_ hb_ hr (fun tt1 htt1 hWW1 => ⟨_, rfl, congrArg iI (if2 c4_ c19_), htt1⟩) (fun q_ h_ => absurd h_ List.not_mem_nil) dX4_blockError_29
  · skip
    refine lv_sipush (v := iI (-10004)) hx_ hb_ dX4_blockError_7 rfl ?_
    rw [← hQe]
    exact W.iret hx_ hb_ hr (fun tt1 htt1 hWW1 => ⟨_, rfl, congrArg iI (if0 c4_), htt1⟩) (fun q_ h_ => absurd h_ List.not_mem_nil) dX4_blockError_10

set_option maxHeartbeats 4000000 in
set_option maxRecDepth 100000 in
/-- newWordError -/
theorem c_X4_newWordError (l_ : Launch) (G_ : va_G) (cI cZ : ClassId) (ad : Nat → Nat) (bu : Bool) (no_ : Nat) (vo_ : Nat → Int) (fo_ : Nat → Bool) (nn_ : Nat) (vn_ : Nat → Int) (fn_ : Nat → Bool) (k_ : Nat) (os_ ns_ ln_ : Nat → Nat) (ot_ nt_ : Nat → Bool) (ru_ : Nat → Nat) (bo_ bn_ bl_ : Nat) (od_ : Nat → Nat) (wt_ dr_ : Nat → Bool) (sp_ : Nat) (x_ : Int) (hkk : bu = true → nn_ ≤ 48) (hx1 : -2147483648 ≤ x_) (hx2 : x_ < 2147483648) : Ro l_ yX4_newWordError wsX4_newWordError ({ frames := 1, cells := 0, slots := 0, locals := 21 }) G_ cI cZ [.ref (ad 0), .int (iI (x_))] (wRP cI cZ ad bu no_ vo_ fo_ nn_ vn_ fn_ k_ os_ ns_ ln_ ot_ nt_ ru_ bo_ bn_ bl_ od_ wt_ dr_ sp_) (eR bu nn_ x_) := by
  refine Met.ofW (cc := cX4_newWordError) (maxL := 2) (ret := (some .int)) (by decide) rfl ?_
  intro p_ e_ s_ m_ args below meth c_ s₁ B hml hv
  obtain ⟨hargs, hP_, hK_⟩ := hv
  have hx_ := B.exec
  have hb_ := B.bytes
  have hr := B.returns
  have hts := atoms_spec (ws := wsX4_newWordError) B.pre
  have hown : s_.vm.findClass RX4 = some m_.cls := findClass_of_methodNamed B.named
  have hlocks := B.notSynchronized
  have hi4_ : ∀ w_ ∈ wsX40, w_ ∈ wsX4_newWordError := by decide +kernel
  have hf16_ := hts (.fieldLink RX4 16 "RelocatingPatch" "newImage" "LRelocatingPatch$Image;") (by decide +kernel)
  have hf40_ := hts (.fieldLink RX4 40 "RelocatingPatch" "built" "Z") (by decide +kernel)
  have hP_ : va_P G_ vwCl [(ad 0, .inr (4, [.ref (ad 1), .ref (ad 4), .ref (ad 7), .ref (ad 11), .ref (ad 15), .int (iI (bZ bu))])), (ad 1, .inr (3, [.ref (ad 2), .ref (ad 3), .int (iI ((no_ : Nat) : Int))])), (ad 2, .inl (cI, 48, .inl (aI vo_))), (ad 3, .inl (cZ, 48, .inl (aB fo_))), (ad 4, .inr (3, [.ref (ad 5), .ref (ad 6), .int (iI ((nn_ : Nat) : Int))])), (ad 5, .inl (cI, 48, .inl (aI vn_))), (ad 6, .inl (cZ, 48, .inl (aB fn_))), (ad 7, .inr (1, [.ref (ad 8), .ref (ad 9), .ref (ad 10), .int (iI ((k_ : Nat) : Int))])), (ad 8, .inl (cI, 48, .inl (aN os_))), (ad 9, .inl (cI, 48, .inl (aN ns_))), (ad 10, .inl (cI, 48, .inl (aN ln_))), (ad 11, .inr (0, [.ref (ad 12), .ref (ad 13), .ref (ad 14), .int (iI ((bo_ : Nat) : Int)), .int (iI ((bn_ : Nat) : Int)), .int (iI ((bl_ : Nat) : Int))])), (ad 12, .inl (cZ, 48, .inl (aB ot_))), (ad 13, .inl (cZ, 48, .inl (aB nt_))), (ad 14, .inl (cI, 49, .inl (aN ru_))), (ad 15, .inr (2, [.ref (ad 16), .ref (ad 17), .ref (ad 18), .int (iI ((sp_ : Nat) : Int))])), (ad 16, .inl (cI, 48, .inl (aN od_))), (ad 17, .inl (cZ, 48, .inl (aB wt_))), (ad 18, .inl (cZ, 48, .inl (aB dr_)))] s_.heap := hP_
  generalize hQe : MQ below (vp_Si (fun r_ => r_ = iI (eR bu nn_ x_))) args s_ 0 0 (fun _ => False) = Q_
  rw [show entryFrame m_ args 2 = entryFrame m_ ([.ref (ad 0), .int (iI (x_))] : List Value).toArray 2 from by rw [hargs], lg_entry_eq]
  have hl_ := lv_entry ([.ref (ad 0), .int (iI (x_))]) (n := 2) (Nat.le_of_ble_eq_true rfl)
  generalize (lg_sl ([.ref (ad 0), .int (iI (x_))]) ++ List.replicate (2 - (lg_sl ([.ref (ad 0), .int (iI (x_))])).length) Slot.unset).toArray = ls_ at hl_ ⊢
  have hl_ : lv_has ls_ 2 [(0, .ref (ad 0)), (1, .int (iI (x_)))] := hl_
  refine lv_aload_n hx_ hb_ dX4_newWordError_0 rfl (lv_at hl_ 0 rfl) ?_
  refine va_get (D := G_) (ci := 4) (v := .int (iI (bZ bu))) (C := RX4) (T := TX4) (N := 6) hx_ hb_ hts hi4_ hown hK_ hP_ 0 rfl rfl 5 (by decide) hf40_ (fun _ h9 => h9) rfl dX4_newWordError_1 ?_
  refine q_bt (tgt := 11) hx_ hb_ dX4_newWordError_4 (by decide) (fun c4_ => ?_) (fun c4_ => ?_)
  · skip
    have hk9 := hkk c4_
    refine lv_aload_n hx_ hb_ dX4_newWordError_11 rfl (lv_at hl_ 0 rfl) ?_
    refine va_get (D := G_) (ci := 4) (v := .ref (ad 4)) (C := RX4) (T := TX4) (N := 6) hx_ hb_ hts hi4_ hown hK_ hP_ 0 rfl rfl 1 (by decide) hf16_ (fun _ h9 => h9) rfl dX4_newWordError_12 ?_
    refine lv_iload_n hx_ hb_ dX4_newWordError_15 rfl (lv_at hl_ 1 rfl) ?_
    refine ro_V (As := [.int (iI (x_))]) (rest := []) ⟨hx_, hb_, hml, hown, hts⟩ (c_X3_holds l_ G_ cI cZ (ad 4) (ad 5) (ad 6) nn_ vn_ fn_ (x_) (by omega) (by omega) (by omega)) (cwV 1 hts gX4_newWordError_X3_holds rfl rfl rfl (by decide +kernel) ⟨Nat.le_of_ble_eq_true rfl, Nat.le_of_ble_eq_true rfl⟩) (hP_.sub (ws' := [(ad 4, .inr (3, [.ref (ad 5), .ref (ad 6), .int (iI ((nn_ : Nat) : Int))])), (ad 5, .inl (cI, 48, .inl (aI vn_))), (ad 6, .inl (cZ, 48, .inl (aB fn_)))]) [4, 5, 6] rfl) hK_ 0 rfl rfl rfl hl_.1 rfl (Nat.le_of_ble_eq_true rfl) dX4_newWordError_16 ⟨Nat.zero_le _, Nat.zero_le _⟩ ?_
    refine q_df (tgt := 26) hx_ hb_ dX4_newWordError_19 (by decide) (fun c19_ => ?_) (fun c19_ => ?_)
    · skip
      refine lv_sipush (v := iI (-10003)) hx_ hb_ dX4_newWordError_26 rfl ?_
      rw [← hQe]
      exact W.iret hx_ hb_ hr (fun tt1 htt1 hWW1 => ⟨_, rfl, congrArg iI (if3 c4_ c19_), htt1⟩) (fun q_ h_ => absurd h_ List.not_mem_nil) dX4_newWordError_29
    · skip
      refine lv_iconst (v := iI ((0 : Nat) : Int)) hx_ hb_ dX4_newWordError_22 rfl ?_
      refine lv_goto (tgt := 29) hx_ hb_ dX4_newWordError_23 (by decide) ?_
      rw [← hQe]
      exact W.iret hx_ hb_ hr (fun tt1 htt1 hWW1 => ⟨_, rfl, congrArg iI (if2 c4_ c19_), htt1⟩) (fun q_ h_ => absurd h_ List.not_mem_nil) dX4_newWordError_29
  · skip
    refine lv_sipush (v := iI (-10004)) hx_ hb_ dX4_newWordError_7 rfl ?_
    rw [← hQe]
    exact W.iret hx_ hb_ hr (fun tt1 htt1 hWW1 => ⟨_, rfl, congrArg iI (if0 c4_), htt1⟩) (fun q_ h_ => absurd h_ List.not_mem_nil) dX4_newWordError_10

set_option maxHeartbeats 4000000 in
set_option maxRecDepth 100000 in
/-- append -/
theorem c_X4_append (l_ : Launch) (G_ : va_G) (cI cZ : ClassId) (h_ r1_ r2 r3 r4 r5 : Nat) (bu : Bool) (h1_ a1_ b1_ : Nat) (n_ : Nat) (v_ : Nat → Int) (f_ : Nat → Bool) (x_ : Int) (t_ : Bool) (hn0 : n_ ≤ 48) (hx1 : -2147483648 ≤ x_) (hx2 : x_ < 2147483648) (sz : Nat) : WrI (S := Nat × (Nat → Int) × (Nat → Bool) × Bool) l_ yX4_append wsX4_append ({ frames := 2, cells := 0, slots := 0, locals := 42 }) G_ cI cZ [.ref h_, .ref h1_, .int (iI (x_)), .int (iI (bZ t_))] ((h_, .inr (4, [.ref r1_, .ref r2, .ref r3, .ref r4, .ref r5, .int (iI (bZ bu))])) :: wIm cI cZ h1_ a1_ b1_ n_ v_ f_) sz (fun _ => apR n_ x_) (fun u_ => u_ = apS n_ v_ f_ bu x_ t_) (fun u_ => (h_, .inr (4, [.ref r1_, .ref r2, .ref r3, .ref r4, .ref r5, .int (iI (bZ u_.2.2.2))])) :: wIm cI cZ h1_ a1_ b1_ u_.1 u_.2.1 u_.2.2.1) := by
  refine Met.ofW (cc := cX4_append) (maxL := 4) (ret := (some .int)) (by decide) rfl ?_
  intro p_ e_ s_ m_ args below meth c_ s₁ B hml hv
  obtain ⟨hargs, hsz, hP_, hK_, hD0⟩ := hv
  have hx_ := B.exec
  have hb_ := B.bytes
  have hr := B.returns
  have hts := atoms_spec (ws := wsX4_append) B.pre
  have hown : s_.vm.findClass RX4 = some m_.cls := findClass_of_methodNamed B.named
  have hlocks := B.notSynchronized
  have hi4_ : ∀ w_ ∈ wsX40, w_ ∈ wsX4_append := by decide +kernel
  have hf40_ := hts (.fieldLink RX4 40 "RelocatingPatch" "built" "Z") (by decide +kernel)
  subst hsz
  have hD_ := hD0.self (sz := s_.heap.size)
  generalize hAe : va_A ((h_, .inr (4, [.ref r1_, .ref r2, .ref r3, .ref r4, .ref r5, .int (iI (bZ bu))])) :: wIm cI cZ h1_ a1_ b1_ n_ v_ f_) s_.heap.size = A_ at hD_ ⊢
  have hA_ : ∀ q_ : Nat, s_.heap.size ≤ q_ → A_ q_ := fun q_ h_ => by rw [← hAe]; exact Or.inr h_
  have hS_ : va_S A_ s_.heap s_.heap [] := va_S.rf
  have hP_ : va_P G_ vwCl [(h_, .inr (4, [.ref r1_, .ref r2, .ref r3, .ref r4, .ref r5, .int (iI (bZ bu))])), (h1_, .inr (3, [.ref a1_, .ref b1_, .int (iI ((n_ : Nat) : Int))])), (a1_, .inl (cI, 48, .inl (aI v_))), (b1_, .inl (cZ, 48, .inl (aB f_)))] s_.heap := hP_
  have hD_ : va_D A_ [(h_, .inr (4, [.ref r1_, .ref r2, .ref r3, .ref r4, .ref r5, .int (iI (bZ bu))])), (h1_, .inr (3, [.ref a1_, .ref b1_, .int (iI ((n_ : Nat) : Int))])), (a1_, .inl (cI, 48, .inl (aI v_))), (b1_, .inl (cZ, 48, .inl (aB f_)))] := hD_
  generalize hQe : MQ below (va_Qi (S := Nat × (Nat → Int) × (Nat → Bool) × Bool) (fun r1_ u1 => r1_ = iI ((fun _ => apR n_ x_) u1) ∧ (fun u_ => u_ = apS n_ v_ f_ bu x_ t_) u1) (fun u1 t1 => va_P G_ vwCl ((fun u_ => (h_, .inr (4, [.ref r1_, .ref r2, .ref r3, .ref r4, .ref r5, .int (iI (bZ u_.2.2.2))])) :: wIm cI cZ h1_ a1_ b1_ u_.1 u_.2.1 u_.2.2.1) u1) t1.heap) A_) args s_ 0 0 A_ = Q_
  rw [show entryFrame m_ args 4 = entryFrame m_ ([.ref h_, .ref h1_, .int (iI (x_)), .int (iI (bZ t_))] : List Value).toArray 4 from by rw [hargs], lg_entry_eq]
  have hl_ := lv_entry ([.ref h_, .ref h1_, .int (iI (x_)), .int (iI (bZ t_))]) (n := 4) (Nat.le_of_ble_eq_true rfl)
  generalize (lg_sl ([.ref h_, .ref h1_, .int (iI (x_)), .int (iI (bZ t_))]) ++ List.replicate (4 - (lg_sl ([.ref h_, .ref h1_, .int (iI (x_)), .int (iI (bZ t_))])).length) Slot.unset).toArray = ls_ at hl_ ⊢
  have hl_ : lv_has ls_ 4 [(0, .ref h_), (1, .ref h1_), (2, .int (iI (x_))), (3, .int (iI (bZ t_)))] := hl_
  refine lv_iload_n hx_ hb_ dX4_append_0 rfl (lv_at hl_ 2 rfl) ?_
  refine ro_S (As := [.int (iI (x_))]) (rest := []) ⟨hx_, hb_, hml, hown, hts⟩ (c_X4_isValue l_ G_ cI cZ (x_) (by omega) (by omega)) (va_cwS 1 hts gX4_append_X4_isValue rfl rfl rfl (by decide +kernel) ⟨Nat.le_of_ble_eq_true rfl, Nat.le_of_ble_eq_true rfl⟩) (hP_.sub (ws' := []) [] rfl) hK_ rfl hl_.1 rfl (Nat.le_of_ble_eq_true rfl) dX4_append_1 ⟨Nat.zero_le _, Nat.zero_le _⟩ ?_
  refine q_dt (tgt := 11) hx_ hb_ dX4_append_4 (by decide) (fun c4_ => ?_) (fun c4_ => ?_)
  · skip
    refine lv_aload_n hx_ hb_ dX4_append_11 rfl (lv_at hl_ 1 rfl) ?_
    refine ro_V (As := []) (rest := []) ⟨hx_, hb_, hml, hown, hts⟩ (c_X3_isFull l_ G_ cI cZ h1_ a1_ b1_ n_ v_ f_ (by omega)) (cwV 0 hts gX4_append_X3_isFull rfl rfl rfl (by decide +kernel) ⟨Nat.le_of_ble_eq_true rfl, Nat.le_of_ble_eq_true rfl⟩) (hP_.sub (ws' := [(h1_, .inr (3, [.ref a1_, .ref b1_, .int (iI ((n_ : Nat) : Int))])), (a1_, .inl (cI, 48, .inl (aI v_))), (b1_, .inl (cZ, 48, .inl (aB f_)))]) [1, 2, 3] rfl) hK_ 0 rfl rfl rfl hl_.1 rfl (Nat.le_of_ble_eq_true rfl) dX4_append_12 ⟨Nat.zero_le _, Nat.zero_le _⟩ ?_
    refine q_df (tgt := 22) hx_ hb_ dX4_append_15 (by decide) (fun c15_ => ?_) (fun c15_ => ?_)
    · skip
      refine lv_aload_n hx_ hb_ dX4_append_22 rfl (lv_at hl_ 1 rfl) ?_
      refine lv_iload_n hx_ hb_ dX4_append_23 rfl (lv_at hl_ 2 rfl) ?_
      refine lv_iload_n hx_ hb_ dX4_append_24 rfl (lv_at hl_ 3 rfl) ?_
      refine wr_V (As := [.int (iI (x_)), .int (iI (bZ t_))]) (rest := []) (wr := [(h_, .inr (4, [.ref r1_, .ref r2, .ref r3, .ref r4, .ref r5, .int (iI (bZ bu))]))]) (wn := fun u_ => [(h_, .inr (4, [.ref r1_, .ref r2, .ref r3, .ref r4, .ref r5, .int (iI (bZ bu))])), (h1_, .inr (3, [.ref a1_, .ref b1_, .int (iI ((n_ + 1 : Nat) : Int))])), (a1_, .inl (cI, 48, .inl (aI (va_up v_ n_ (x_))))), (b1_, .inl (cZ, 48, .inl (aB (va_up f_ n_ t_))))]) ⟨hx_, hb_, hml, hown, hts⟩ (c_X3_add l_ G_ cI cZ h1_ a1_ b1_ n_ v_ f_ (x_) t_ (by omega) s_.heap.size) (cwV 2 hts gX4_append_X3_add rfl rfl rfl (by decide +kernel) ⟨Nat.le_of_ble_eq_true rfl, Nat.le_of_ble_eq_true rfl⟩) hP_ hK_ hD_ hS_ hA_ [1, 2, 3] [0] [0, 1, 2, 3] rfl rfl (by decide) (fun _ => rfl) (fun _ => rfl) 0 rfl rfl rfl hl_.1 rfl (Nat.le_of_ble_eq_true rfl) dX4_append_25 ⟨Nat.zero_le _, Nat.zero_le _⟩ (fun u_ H_ locs hu25 hP_ hD_ hS_ => ?_)
      try dsimp only at hu25
      have hP_ : va_P G_ vwCl [(h_, .inr (4, [.ref r1_, .ref r2, .ref r3, .ref r4, .ref r5, .int (iI (bZ bu))])), (h1_, .inr (3, [.ref a1_, .ref b1_, .int (iI ((n_ + 1 : Nat) : Int))])), (a1_, .inl (cI, 48, .inl (aI (va_up v_ n_ (x_))))), (b1_, .inl (cZ, 48, .inl (aB (va_up f_ n_ t_))))] H_ := hP_
      have hD_ : va_D A_ [(h_, .inr (4, [.ref r1_, .ref r2, .ref r3, .ref r4, .ref r5, .int (iI (bZ bu))])), (h1_, .inr (3, [.ref a1_, .ref b1_, .int (iI ((n_ + 1 : Nat) : Int))])), (a1_, .inl (cI, 48, .inl (aI (va_up v_ n_ (x_))))), (b1_, .inl (cZ, 48, .inl (aB (va_up f_ n_ t_))))] := hD_
      refine lv_aload_n hx_ hb_ dX4_append_28 rfl (lv_at hl_ 0 rfl) ?_
      refine lv_iconst (v := iI ((0 : Nat) : Int)) hx_ hb_ dX4_append_29 rfl ?_
      refine q_cast (b := bZ false) rfl ?_
      refine va_put (D := G_) (ci := 4) (v := .int (iI (bZ false))) (ty := .boolean) (C := RX4) (T := TX4) (N := 6) hx_ hb_ hts hi4_ tyX4 tyX4_ok nmX4 hown hK_ hP_ hD_ hS_ 0 rfl rfl 5 (by decide) hf40_ (fun _ h9 => h9) rfl (by decide +kernel) (nar_bZ _) (fit_bZ _) (Nat.le_of_ble_eq_true rfl) dX4_append_30 (fun H_ locs hP_ hD_ hS_ => ?_)
      have hP_ : va_P G_ vwCl [(h_, .inr (4, [.ref r1_, .ref r2, .ref r3, .ref r4, .ref r5, .int (iI (bZ false))])), (h1_, .inr (3, [.ref a1_, .ref b1_, .int (iI ((n_ + 1 : Nat) : Int))])), (a1_, .inl (cI, 48, .inl (aI (va_up v_ n_ (x_))))), (b1_, .inl (cZ, 48, .inl (aB (va_up f_ n_ t_))))] H_ := hP_
      have hD_ : va_D A_ [(h_, .inr (4, [.ref r1_, .ref r2, .ref r3, .ref r4, .ref r5, .int (iI (bZ false))])), (h1_, .inr (3, [.ref a1_, .ref b1_, .int (iI ((n_ + 1 : Nat) : Int))])), (a1_, .inl (cI, 48, .inl (aI (va_up v_ n_ (x_))))), (b1_, .inl (cZ, 48, .inl (aB (va_up f_ n_ t_))))] := hD_
      refine lv_aload_n hx_ hb_ dX4_append_33 rfl (lv_at hl_ 1 rfl) ?_
      refine ro_V (As := []) (rest := []) ⟨hx_, hb_, hml, hown, hts⟩ (c_X3_size l_ G_ cI cZ h1_ a1_ b1_ (n_ + 1) (va_up v_ n_ (x_)) (va_up f_ n_ t_)) (cwV 0 hts gX4_append_X3_size rfl rfl rfl (by decide +kernel) ⟨Nat.le_of_ble_eq_true rfl, Nat.le_of_ble_eq_true rfl⟩) (hP_.sub (ws' := [(h1_, .inr (3, [.ref a1_, .ref b1_, .int (iI ((n_ + 1 : Nat) : Int))])), (a1_, .inl (cI, 48, .inl (aI (va_up v_ n_ (x_))))), (b1_, .inl (cZ, 48, .inl (aB (va_up f_ n_ t_))))]) [1, 2, 3] rfl) hK_ 0 rfl rfl rfl hl_.1 rfl (Nat.le_of_ble_eq_true rfl) dX4_append_34 ⟨Nat.zero_le _, Nat.zero_le _⟩ ?_
      refine lv_iconst (v := iI ((1 : Nat) : Int)) hx_ hb_ dX4_append_37 rfl ?_
      refine q_isub hx_ hb_ dX4_append_38 ?_
      rw [← hQe]
      exact W.iret hx_ hb_ hr (fun tt1 htt1 hWW1 => ⟨⟨_, (n_ + 1, va_up v_ n_ x_, va_up f_ n_ t_, false), rfl, ⟨congrArg iI (by show _ = apR n_ x_; unfold apR; rw [if_pos c4_, if_pos (by omega)]; omega), by unfold apS; rw [if_pos (by omega)]⟩, by show va_P G_ vwCl _ tt1.heap; rw [htt1]; exact hP_⟩, hS_.F htt1⟩) hS_.2.2 dX4_append_39
    · skip
      refine lv_sipush (v := iI (-10002)) hx_ hb_ dX4_append_18 rfl ?_
      rw [← hQe]
      exact W.iret hx_ hb_ hr (fun tt1 htt1 hWW1 => ⟨⟨_, (n_, v_, f_, bu), rfl, ⟨congrArg iI (by show _ = apR n_ x_; unfold apR; rw [if_pos c4_, if_neg (by omega)]), by unfold apS; rw [if_neg (by omega)]⟩, by show va_P G_ vwCl _ tt1.heap; rw [htt1]; exact hP_⟩, hS_.F htt1⟩) hS_.2.2 dX4_append_21
  · skip
    refine lv_sipush (v := iI (-10001)) hx_ hb_ dX4_append_7 rfl ?_
    rw [← hQe]
    exact W.iret hx_ hb_ hr (fun tt1 htt1 hWW1 => ⟨⟨_, (n_, v_, f_, bu), rfl, ⟨congrArg iI (by show _ = apR n_ x_; unfold apR; rw [if_neg c4_]), by unfold apS; rw [if_neg (by omega)]⟩, by show va_P G_ vwCl _ tt1.heap; rw [htt1]; exact hP_⟩, hS_.F htt1⟩) hS_.2.2 dX4_append_10

set_option maxHeartbeats 4000000 in
set_option maxRecDepth 100000 in
/-- appendOld -/
theorem c_X4_appendOld (l_ : Launch) (G_ : va_G) (cI cZ : ClassId) (h_ r2 r3 r4 r5 : Nat) (bu : Bool) (h1_ a1_ b1_ : Nat) (n_ : Nat) (v_ : Nat → Int) (f_ : Nat → Bool) (x_ : Int) (t_ : Bool) (hn0 : n_ ≤ 48) (hx1 : -2147483648 ≤ x_) (hx2 : x_ < 2147483648) (sz : Nat) : WrI (S := Nat × (Nat → Int) × (Nat → Bool) × Bool) l_ yX4_appendOld wsX4_appendOld ({ frames := 3, cells := 0, slots := 0, locals := 65 }) G_ cI cZ [.ref h_, .int (iI (x_)), .int (iI (bZ t_))] ((h_, .inr (4, [.ref h1_, .ref r2, .ref r3, .ref r4, .ref r5, .int (iI (bZ bu))])) :: wIm cI cZ h1_ a1_ b1_ n_ v_ f_) sz (fun _ => apR n_ x_) (fun u_ => u_ = apS n_ v_ f_ bu x_ t_) (fun u_ => (h_, .inr (4, [.ref h1_, .ref r2, .ref r3, .ref r4, .ref r5, .int (iI (bZ u_.2.2.2))])) :: wIm cI cZ h1_ a1_ b1_ u_.1 u_.2.1 u_.2.2.1) := by
  refine Met.ofW (cc := cX4_appendOld) (maxL := 3) (ret := (some .int)) (by decide) rfl ?_
  intro p_ e_ s_ m_ args below meth c_ s₁ B hml hv
  obtain ⟨hargs, hsz, hP_, hK_, hD0⟩ := hv
  have hx_ := B.exec
  have hb_ := B.bytes
  have hr := B.returns
  have hts := atoms_spec (ws := wsX4_appendOld) B.pre
  have hown : s_.vm.findClass RX4 = some m_.cls := findClass_of_methodNamed B.named
  have hlocks := B.notSynchronized
  have hi4_ : ∀ w_ ∈ wsX40, w_ ∈ wsX4_appendOld := by decide +kernel
  have hf10_ := hts (.fieldLink RX4 10 "RelocatingPatch" "oldImage" "LRelocatingPatch$Image;") (by decide +kernel)
  subst hsz
  have hD_ := hD0.self (sz := s_.heap.size)
  generalize hAe : va_A ((h_, .inr (4, [.ref h1_, .ref r2, .ref r3, .ref r4, .ref r5, .int (iI (bZ bu))])) :: wIm cI cZ h1_ a1_ b1_ n_ v_ f_) s_.heap.size = A_ at hD_ ⊢
  have hA_ : ∀ q_ : Nat, s_.heap.size ≤ q_ → A_ q_ := fun q_ h_ => by rw [← hAe]; exact Or.inr h_
  have hS_ : va_S A_ s_.heap s_.heap [] := va_S.rf
  have hP_ : va_P G_ vwCl [(h_, .inr (4, [.ref h1_, .ref r2, .ref r3, .ref r4, .ref r5, .int (iI (bZ bu))])), (h1_, .inr (3, [.ref a1_, .ref b1_, .int (iI ((n_ : Nat) : Int))])), (a1_, .inl (cI, 48, .inl (aI v_))), (b1_, .inl (cZ, 48, .inl (aB f_)))] s_.heap := hP_
  have hD_ : va_D A_ [(h_, .inr (4, [.ref h1_, .ref r2, .ref r3, .ref r4, .ref r5, .int (iI (bZ bu))])), (h1_, .inr (3, [.ref a1_, .ref b1_, .int (iI ((n_ : Nat) : Int))])), (a1_, .inl (cI, 48, .inl (aI v_))), (b1_, .inl (cZ, 48, .inl (aB f_)))] := hD_
  generalize hQe : MQ below (va_Qi (S := Nat × (Nat → Int) × (Nat → Bool) × Bool) (fun r1_ u1 => r1_ = iI ((fun _ => apR n_ x_) u1) ∧ (fun u_ => u_ = apS n_ v_ f_ bu x_ t_) u1) (fun u1 t1 => va_P G_ vwCl ((fun u_ => (h_, .inr (4, [.ref h1_, .ref r2, .ref r3, .ref r4, .ref r5, .int (iI (bZ u_.2.2.2))])) :: wIm cI cZ h1_ a1_ b1_ u_.1 u_.2.1 u_.2.2.1) u1) t1.heap) A_) args s_ 0 0 A_ = Q_
  rw [show entryFrame m_ args 3 = entryFrame m_ ([.ref h_, .int (iI (x_)), .int (iI (bZ t_))] : List Value).toArray 3 from by rw [hargs], lg_entry_eq]
  have hl_ := lv_entry ([.ref h_, .int (iI (x_)), .int (iI (bZ t_))]) (n := 3) (Nat.le_of_ble_eq_true rfl)
  generalize (lg_sl ([.ref h_, .int (iI (x_)), .int (iI (bZ t_))]) ++ List.replicate (3 - (lg_sl ([.ref h_, .int (iI (x_)), .int (iI (bZ t_))])).length) Slot.unset).toArray = ls_ at hl_ ⊢
  have hl_ : lv_has ls_ 3 [(0, .ref h_), (1, .int (iI (x_))), (2, .int (iI (bZ t_)))] := hl_
  refine lv_aload_n hx_ hb_ dX4_appendOld_0 rfl (lv_at hl_ 0 rfl) ?_
  refine lv_aload_n hx_ hb_ dX4_appendOld_1 rfl (lv_at hl_ 0 rfl) ?_
  refine va_get (D := G_) (ci := 4) (v := .ref h1_) (C := RX4) (T := TX4) (N := 6) hx_ hb_ hts hi4_ hown hK_ hP_ 0 rfl rfl 0 (by decide) hf10_ (fun _ h9 => h9) rfl dX4_appendOld_2 ?_
  refine lv_iload_n hx_ hb_ dX4_appendOld_5 rfl (lv_at hl_ 1 rfl) ?_
  refine lv_iload_n hx_ hb_ dX4_appendOld_6 rfl (lv_at hl_ 2 rfl) ?_
  refine wr_VI (As := [.ref h1_, .int (iI (x_)), .int (iI (bZ t_))]) (rest := []) (wr := []) (wn := fun u_ => [(h_, .inr (4, [.ref h1_, .ref r2, .ref r3, .ref r4, .ref r5, .int (iI (bZ u_.2.2.2))])), (h1_, .inr (3, [.ref a1_, .ref b1_, .int (iI ((u_.1 : Nat) : Int))])), (a1_, .inl (cI, 48, .inl (aI u_.2.1))), (b1_, .inl (cZ, 48, .inl (aB u_.2.2.1)))]) ⟨hx_, hb_, hml, hown, hts⟩ (c_X4_append l_ G_ cI cZ h_ h1_ r2 r3 r4 r5 bu h1_ a1_ b1_ n_ v_ f_ (x_) t_ (by omega) (by omega) (by omega) s_.heap.size) (cwV 3 hts gX4_appendOld_X4_append rfl rfl rfl (by decide +kernel) ⟨Nat.le_of_ble_eq_true rfl, Nat.le_of_ble_eq_true rfl⟩) hP_ hK_ hD_ hS_ hA_ [0, 1, 2, 3] [] [0, 1, 2, 3] rfl rfl (by decide) (fun _ => rfl) (fun _ => rfl) 0 rfl rfl rfl hl_.1 rfl (Nat.le_of_ble_eq_true rfl) dX4_appendOld_7 ⟨Nat.zero_le _, Nat.zero_le _⟩ (fun u_ H_ locs hu7 hP_ hD_ hS_ => ?_)
  obtain ⟨n_7, v_7, f_7, bu_7⟩ := u_
  try dsimp only at hu7
  have hP_ : va_P G_ vwCl [(h_, .inr (4, [.ref h1_, .ref r2, .ref r3, .ref r4, .ref r5, .int (iI (bZ bu_7))])), (h1_, .inr (3, [.ref a1_, .ref b1_, .int (iI ((n_7 : Nat) : Int))])), (a1_, .inl (cI, 48, .inl (aI v_7))), (b1_, .inl (cZ, 48, .inl (aB f_7)))] H_ := hP_
  have hD_ : va_D A_ [(h_, .inr (4, [.ref h1_, .ref r2, .ref r3, .ref r4, .ref r5, .int (iI (bZ bu_7))])), (h1_, .inr (3, [.ref a1_, .ref b1_, .int (iI ((n_7 : Nat) : Int))])), (a1_, .inl (cI, 48, .inl (aI v_7))), (b1_, .inl (cZ, 48, .inl (aB f_7)))] := hD_
  rw [← hQe]
  exact W.iret hx_ hb_ hr (fun tt1 htt1 hWW1 => ⟨⟨_, (n_7, v_7, f_7, bu_7), rfl, ⟨congrArg iI (rfl), hu7⟩, by show va_P G_ vwCl _ tt1.heap; rw [htt1]; exact hP_⟩, hS_.F htt1⟩) hS_.2.2 dX4_appendOld_10

set_option maxHeartbeats 4000000 in
set_option maxRecDepth 100000 in
/-- appendNew -/
theorem c_X4_appendNew (l_ : Launch) (G_ : va_G) (cI cZ : ClassId) (h_ r1_ r3 r4 r5 : Nat) (bu : Bool) (h1_ a1_ b1_ : Nat) (n_ : Nat) (v_ : Nat → Int) (f_ : Nat → Bool) (x_ : Int) (t_ : Bool) (hn0 : n_ ≤ 48) (hx1 : -2147483648 ≤ x_) (hx2 : x_ < 2147483648) (sz : Nat) : WrI (S := Nat × (Nat → Int) × (Nat → Bool) × Bool) l_ yX4_appendNew wsX4_appendNew ({ frames := 3, cells := 0, slots := 0, locals := 65 }) G_ cI cZ [.ref h_, .int (iI (x_)), .int (iI (bZ t_))] ((h_, .inr (4, [.ref r1_, .ref h1_, .ref r3, .ref r4, .ref r5, .int (iI (bZ bu))])) :: wIm cI cZ h1_ a1_ b1_ n_ v_ f_) sz (fun _ => apR n_ x_) (fun u_ => u_ = apS n_ v_ f_ bu x_ t_) (fun u_ => (h_, .inr (4, [.ref r1_, .ref h1_, .ref r3, .ref r4, .ref r5, .int (iI (bZ u_.2.2.2))])) :: wIm cI cZ h1_ a1_ b1_ u_.1 u_.2.1 u_.2.2.1) := by
  refine Met.ofW (cc := cX4_appendNew) (maxL := 3) (ret := (some .int)) (by decide) rfl ?_
  intro p_ e_ s_ m_ args below meth c_ s₁ B hml hv
  obtain ⟨hargs, hsz, hP_, hK_, hD0⟩ := hv
  have hx_ := B.exec
  have hb_ := B.bytes
  have hr := B.returns
  have hts := atoms_spec (ws := wsX4_appendNew) B.pre
  have hown : s_.vm.findClass RX4 = some m_.cls := findClass_of_methodNamed B.named
  have hlocks := B.notSynchronized
  have hi4_ : ∀ w_ ∈ wsX40, w_ ∈ wsX4_appendNew := by decide +kernel
  have hf16_ := hts (.fieldLink RX4 16 "RelocatingPatch" "newImage" "LRelocatingPatch$Image;") (by decide +kernel)
  subst hsz
  have hD_ := hD0.self (sz := s_.heap.size)
  generalize hAe : va_A ((h_, .inr (4, [.ref r1_, .ref h1_, .ref r3, .ref r4, .ref r5, .int (iI (bZ bu))])) :: wIm cI cZ h1_ a1_ b1_ n_ v_ f_) s_.heap.size = A_ at hD_ ⊢
  have hA_ : ∀ q_ : Nat, s_.heap.size ≤ q_ → A_ q_ := fun q_ h_ => by rw [← hAe]; exact Or.inr h_
  have hS_ : va_S A_ s_.heap s_.heap [] := va_S.rf
  have hP_ : va_P G_ vwCl [(h_, .inr (4, [.ref r1_, .ref h1_, .ref r3, .ref r4, .ref r5, .int (iI (bZ bu))])), (h1_, .inr (3, [.ref a1_, .ref b1_, .int (iI ((n_ : Nat) : Int))])), (a1_, .inl (cI, 48, .inl (aI v_))), (b1_, .inl (cZ, 48, .inl (aB f_)))] s_.heap := hP_
  have hD_ : va_D A_ [(h_, .inr (4, [.ref r1_, .ref h1_, .ref r3, .ref r4, .ref r5, .int (iI (bZ bu))])), (h1_, .inr (3, [.ref a1_, .ref b1_, .int (iI ((n_ : Nat) : Int))])), (a1_, .inl (cI, 48, .inl (aI v_))), (b1_, .inl (cZ, 48, .inl (aB f_)))] := hD_
  generalize hQe : MQ below (va_Qi (S := Nat × (Nat → Int) × (Nat → Bool) × Bool) (fun r1_ u1 => r1_ = iI ((fun _ => apR n_ x_) u1) ∧ (fun u_ => u_ = apS n_ v_ f_ bu x_ t_) u1) (fun u1 t1 => va_P G_ vwCl ((fun u_ => (h_, .inr (4, [.ref r1_, .ref h1_, .ref r3, .ref r4, .ref r5, .int (iI (bZ u_.2.2.2))])) :: wIm cI cZ h1_ a1_ b1_ u_.1 u_.2.1 u_.2.2.1) u1) t1.heap) A_) args s_ 0 0 A_ = Q_
  rw [show entryFrame m_ args 3 = entryFrame m_ ([.ref h_, .int (iI (x_)), .int (iI (bZ t_))] : List Value).toArray 3 from by rw [hargs], lg_entry_eq]
  have hl_ := lv_entry ([.ref h_, .int (iI (x_)), .int (iI (bZ t_))]) (n := 3) (Nat.le_of_ble_eq_true rfl)
  generalize (lg_sl ([.ref h_, .int (iI (x_)), .int (iI (bZ t_))]) ++ List.replicate (3 - (lg_sl ([.ref h_, .int (iI (x_)), .int (iI (bZ t_))])).length) Slot.unset).toArray = ls_ at hl_ ⊢
  have hl_ : lv_has ls_ 3 [(0, .ref h_), (1, .int (iI (x_))), (2, .int (iI (bZ t_)))] := hl_
  refine lv_aload_n hx_ hb_ dX4_appendNew_0 rfl (lv_at hl_ 0 rfl) ?_
  refine lv_aload_n hx_ hb_ dX4_appendNew_1 rfl (lv_at hl_ 0 rfl) ?_
  refine va_get (D := G_) (ci := 4) (v := .ref h1_) (C := RX4) (T := TX4) (N := 6) hx_ hb_ hts hi4_ hown hK_ hP_ 0 rfl rfl 1 (by decide) hf16_ (fun _ h9 => h9) rfl dX4_appendNew_2 ?_
  refine lv_iload_n hx_ hb_ dX4_appendNew_5 rfl (lv_at hl_ 1 rfl) ?_
  refine lv_iload_n hx_ hb_ dX4_appendNew_6 rfl (lv_at hl_ 2 rfl) ?_
  refine wr_VI (As := [.ref h1_, .int (iI (x_)), .int (iI (bZ t_))]) (rest := []) (wr := []) (wn := fun u_ => [(h_, .inr (4, [.ref r1_, .ref h1_, .ref r3, .ref r4, .ref r5, .int (iI (bZ u_.2.2.2))])), (h1_, .inr (3, [.ref a1_, .ref b1_, .int (iI ((u_.1 : Nat) : Int))])), (a1_, .inl (cI, 48, .inl (aI u_.2.1))), (b1_, .inl (cZ, 48, .inl (aB u_.2.2.1)))]) ⟨hx_, hb_, hml, hown, hts⟩ (c_X4_append l_ G_ cI cZ h_ r1_ h1_ r3 r4 r5 bu h1_ a1_ b1_ n_ v_ f_ (x_) t_ (by omega) (by omega) (by omega) s_.heap.size) (cwV 3 hts gX4_appendNew_X4_append rfl rfl rfl (by decide +kernel) ⟨Nat.le_of_ble_eq_true rfl, Nat.le_of_ble_eq_true rfl⟩) hP_ hK_ hD_ hS_ hA_ [0, 1, 2, 3] [] [0, 1, 2, 3] rfl rfl (by decide) (fun _ => rfl) (fun _ => rfl) 0 rfl rfl rfl hl_.1 rfl (Nat.le_of_ble_eq_true rfl) dX4_appendNew_7 ⟨Nat.zero_le _, Nat.zero_le _⟩ (fun u_ H_ locs hu7 hP_ hD_ hS_ => ?_)
  obtain ⟨n_7, v_7, f_7, bu_7⟩ := u_
  try dsimp only at hu7
  have hP_ : va_P G_ vwCl [(h_, .inr (4, [.ref r1_, .ref h1_, .ref r3, .ref r4, .ref r5, .int (iI (bZ bu_7))])), (h1_, .inr (3, [.ref a1_, .ref b1_, .int (iI ((n_7 : Nat) : Int))])), (a1_, .inl (cI, 48, .inl (aI v_7))), (b1_, .inl (cZ, 48, .inl (aB f_7)))] H_ := hP_
  have hD_ : va_D A_ [(h_, .inr (4, [.ref r1_, .ref h1_, .ref r3, .ref r4, .ref r5, .int (iI (bZ bu_7))])), (h1_, .inr (3, [.ref a1_, .ref b1_, .int (iI ((n_7 : Nat) : Int))])), (a1_, .inl (cI, 48, .inl (aI v_7))), (b1_, .inl (cZ, 48, .inl (aB f_7)))] := hD_
  rw [← hQe]
  exact W.iret hx_ hb_ hr (fun tt1 htt1 hWW1 => ⟨⟨_, (n_7, v_7, f_7, bu_7), rfl, ⟨congrArg iI (rfl), hu7⟩, by show va_P G_ vwCl _ tt1.heap; rw [htt1]; exact hP_⟩, hS_.F htt1⟩) hS_.2.2 dX4_appendNew_10

set_option maxHeartbeats 4000000 in
set_option maxRecDepth 100000 in
/-- setNew -/
theorem c_X4_setNew (l_ : Launch) (G_ : va_G) (cI cZ : ClassId) (h_ r1_ r3 r4 r5 : Nat) (bu : Bool) (h1_ a1_ b1_ : Nat) (n_ : Nat) (v_ : Nat → Int) (f_ : Nat → Bool) (x_ y_ : Int) (hn0 : n_ ≤ 48) (hx1 : -2147483648 ≤ x_) (hx2 : x_ < 2147483648) (hy1 : -2147483648 ≤ y_) (hy2 : y_ < 2147483648) (sz : Nat) : WrI (S := (Nat → Int) × Bool) l_ yX4_setNew wsX4_setNew ({ frames := 2, cells := 0, slots := 0, locals := 43 }) G_ cI cZ [.ref h_, .int (iI (x_)), .int (iI (y_))] ((h_, .inr (4, [.ref r1_, .ref h1_, .ref r3, .ref r4, .ref r5, .int (iI (bZ bu))])) :: wIm cI cZ h1_ a1_ b1_ n_ v_ f_) sz (fun _ => snR n_ v_ x_ y_) (fun u_ => u_ = snS n_ v_ bu x_ y_) (fun u_ => (h_, .inr (4, [.ref r1_, .ref h1_, .ref r3, .ref r4, .ref r5, .int (iI (bZ u_.2))])) :: wIm cI cZ h1_ a1_ b1_ n_ u_.1 f_) := by
  refine Met.ofW (cc := cX4_setNew) (maxL := 4) (ret := (some .int)) (by decide) rfl ?_
  intro p_ e_ s_ m_ args below meth c_ s₁ B hml hv
  obtain ⟨hargs, hsz, hP_, hK_, hD0⟩ := hv
  have hx_ := B.exec
  have hb_ := B.bytes
  have hr := B.returns
  have hts := atoms_spec (ws := wsX4_setNew) B.pre
  have hown : s_.vm.findClass RX4 = some m_.cls := findClass_of_methodNamed B.named
  have hlocks := B.notSynchronized
  have hi4_ : ∀ w_ ∈ wsX40, w_ ∈ wsX4_setNew := by decide +kernel
  have hf16_ := hts (.fieldLink RX4 16 "RelocatingPatch" "newImage" "LRelocatingPatch$Image;") (by decide +kernel)
  have hf40_ := hts (.fieldLink RX4 40 "RelocatingPatch" "built" "Z") (by decide +kernel)
  subst hsz
  have hD_ := hD0.self (sz := s_.heap.size)
  generalize hAe : va_A ((h_, .inr (4, [.ref r1_, .ref h1_, .ref r3, .ref r4, .ref r5, .int (iI (bZ bu))])) :: wIm cI cZ h1_ a1_ b1_ n_ v_ f_) s_.heap.size = A_ at hD_ ⊢
  have hA_ : ∀ q_ : Nat, s_.heap.size ≤ q_ → A_ q_ := fun q_ h_ => by rw [← hAe]; exact Or.inr h_
  have hS_ : va_S A_ s_.heap s_.heap [] := va_S.rf
  have hP_ : va_P G_ vwCl [(h_, .inr (4, [.ref r1_, .ref h1_, .ref r3, .ref r4, .ref r5, .int (iI (bZ bu))])), (h1_, .inr (3, [.ref a1_, .ref b1_, .int (iI ((n_ : Nat) : Int))])), (a1_, .inl (cI, 48, .inl (aI v_))), (b1_, .inl (cZ, 48, .inl (aB f_)))] s_.heap := hP_
  have hD_ : va_D A_ [(h_, .inr (4, [.ref r1_, .ref h1_, .ref r3, .ref r4, .ref r5, .int (iI (bZ bu))])), (h1_, .inr (3, [.ref a1_, .ref b1_, .int (iI ((n_ : Nat) : Int))])), (a1_, .inl (cI, 48, .inl (aI v_))), (b1_, .inl (cZ, 48, .inl (aB f_)))] := hD_
  generalize hQe : MQ below (va_Qi (S := (Nat → Int) × Bool) (fun r1_ u1 => r1_ = iI ((fun _ => snR n_ v_ x_ y_) u1) ∧ (fun u_ => u_ = snS n_ v_ bu x_ y_) u1) (fun u1 t1 => va_P G_ vwCl ((fun u_ => (h_, .inr (4, [.ref r1_, .ref h1_, .ref r3, .ref r4, .ref r5, .int (iI (bZ u_.2))])) :: wIm cI cZ h1_ a1_ b1_ n_ u_.1 f_) u1) t1.heap) A_) args s_ 0 0 A_ = Q_
  rw [show entryFrame m_ args 4 = entryFrame m_ ([.ref h_, .int (iI (x_)), .int (iI (y_))] : List Value).toArray 4 from by rw [hargs], lg_entry_eq]
  have hl_ := lv_entry ([.ref h_, .int (iI (x_)), .int (iI (y_))]) (n := 4) (Nat.le_of_ble_eq_true rfl)
  generalize (lg_sl ([.ref h_, .int (iI (x_)), .int (iI (y_))]) ++ List.replicate (4 - (lg_sl ([.ref h_, .int (iI (x_)), .int (iI (y_))])).length) Slot.unset).toArray = ls_ at hl_ ⊢
  have hl_ : lv_has ls_ 4 [(0, .ref h_), (1, .int (iI (x_))), (2, .int (iI (y_)))] := hl_
  refine lv_aload_n hx_ hb_ dX4_setNew_0 rfl (lv_at hl_ 0 rfl) ?_
  refine va_get (D := G_) (ci := 4) (v := .ref h1_) (C := RX4) (T := TX4) (N := 6) hx_ hb_ hts hi4_ hown hK_ hP_ 0 rfl rfl 1 (by decide) hf16_ (fun _ h9 => h9) rfl dX4_setNew_1 ?_
  refine lv_iload_n hx_ hb_ dX4_setNew_4 rfl (lv_at hl_ 1 rfl) ?_
  refine ro_V (As := [.int (iI (x_))]) (rest := []) ⟨hx_, hb_, hml, hown, hts⟩ (c_X3_holds l_ G_ cI cZ h1_ a1_ b1_ n_ v_ f_ (x_) (by omega) (by omega) (by omega)) (cwV 1 hts gX4_setNew_X3_holds rfl rfl rfl (by decide +kernel) ⟨Nat.le_of_ble_eq_true rfl, Nat.le_of_ble_eq_true rfl⟩) (hP_.sub (ws' := [(h1_, .inr (3, [.ref a1_, .ref b1_, .int (iI ((n_ : Nat) : Int))])), (a1_, .inl (cI, 48, .inl (aI v_))), (b1_, .inl (cZ, 48, .inl (aB f_)))]) [1, 2, 3] rfl) hK_ 0 rfl rfl rfl hl_.1 rfl (Nat.le_of_ble_eq_true rfl) dX4_setNew_5 ⟨Nat.zero_le _, Nat.zero_le _⟩ ?_
  refine q_dt (tgt := 15) hx_ hb_ dX4_setNew_8 (by decide) (fun c8_ => ?_) (fun c8_ => ?_)
  · skip
    refine lv_iload_n hx_ hb_ dX4_setNew_15 rfl (lv_at hl_ 2 rfl) ?_
    refine ro_S (As := [.int (iI (y_))]) (rest := []) ⟨hx_, hb_, hml, hown, hts⟩ (c_X4_isValue l_ G_ cI cZ (y_) (by omega) (by omega)) (va_cwS 1 hts gX4_setNew_X4_isValue rfl rfl rfl (by decide +kernel) ⟨Nat.le_of_ble_eq_true rfl, Nat.le_of_ble_eq_true rfl⟩) (hP_.sub (ws' := []) [] rfl) hK_ rfl hl_.1 rfl (Nat.le_of_ble_eq_true rfl) dX4_setNew_16 ⟨Nat.zero_le _, Nat.zero_le _⟩ ?_
    refine q_dt (tgt := 26) hx_ hb_ dX4_setNew_19 (by decide) (fun c19_ => ?_) (fun c19_ => ?_)
    · skip
      refine lv_aload_n hx_ hb_ dX4_setNew_26 rfl (lv_at hl_ 0 rfl) ?_
      refine va_get (D := G_) (ci := 4) (v := .ref h1_) (C := RX4) (T := TX4) (N := 6) hx_ hb_ hts hi4_ hown hK_ hP_ 0 rfl rfl 1 (by decide) hf16_ (fun _ h9 => h9) rfl dX4_setNew_27 ?_
      refine lv_iload_n hx_ hb_ dX4_setNew_30 rfl (lv_at hl_ 1 rfl) ?_
      refine ro_V (As := [.int (iI (x_))]) (rest := []) ⟨hx_, hb_, hml, hown, hts⟩ (c_X3_valueAt l_ G_ cI cZ h1_ a1_ b1_ n_ v_ f_ (x_) (by omega) (by omega) (by omega)) (cwV 1 hts gX4_setNew_X3_valueAt rfl rfl rfl (by decide +kernel) ⟨Nat.le_of_ble_eq_true rfl, Nat.le_of_ble_eq_true rfl⟩) (hP_.sub (ws' := [(h1_, .inr (3, [.ref a1_, .ref b1_, .int (iI ((n_ : Nat) : Int))])), (a1_, .inl (cI, 48, .inl (aI v_))), (b1_, .inl (cZ, 48, .inl (aB f_)))]) [1, 2, 3] rfl) hK_ 0 rfl rfl rfl hl_.1 rfl (Nat.le_of_ble_eq_true rfl) dX4_setNew_31 ⟨Nat.zero_le _, Nat.zero_le _⟩ ?_
      refine lv_istore_n (lv' := [(3, .int (iI (vAt n_ v_ (x_)))), (0, .ref h_), (1, .int (iI (x_))), (2, .int (iI (y_)))]) hx_ hb_ dX4_setNew_34 rfl hl_ (by decide) rfl (fun ls_ hl_ => ?_)
      refine lv_aload_n hx_ hb_ dX4_setNew_35 rfl (lv_at hl_ 1 rfl) ?_
      refine va_get (D := G_) (ci := 4) (v := .ref h1_) (C := RX4) (T := TX4) (N := 6) hx_ hb_ hts hi4_ hown hK_ hP_ 0 rfl rfl 1 (by decide) hf16_ (fun _ h9 => h9) rfl dX4_setNew_36 ?_
      refine lv_iload_n hx_ hb_ dX4_setNew_39 rfl (lv_at hl_ 2 rfl) ?_
      refine lv_iload_n hx_ hb_ dX4_setNew_40 rfl (lv_at hl_ 3 rfl) ?_
      refine wr_V (As := [.int (iI (x_)), .int (iI (y_))]) (rest := []) (wr := [(h_, .inr (4, [.ref r1_, .ref h1_, .ref r3, .ref r4, .ref r5, .int (iI (bZ bu))]))]) (wn := fun u_ => [(h_, .inr (4, [.ref r1_, .ref h1_, .ref r3, .ref r4, .ref r5, .int (iI (bZ bu))])), (h1_, .inr (3, [.ref a1_, .ref b1_, .int (iI ((n_ : Nat) : Int))])), (a1_, .inl (cI, 48, .inl (aI (va_up v_ (x_).toNat (y_))))), (b1_, .inl (cZ, 48, .inl (aB f_)))]) ⟨hx_, hb_, hml, hown, hts⟩ (c_X3_replace l_ G_ cI cZ h1_ a1_ b1_ n_ v_ f_ (x_) (y_) (by omega) (by omega) (by omega) s_.heap.size) (cwV 2 hts gX4_setNew_X3_replace rfl rfl rfl (by decide +kernel) ⟨Nat.le_of_ble_eq_true rfl, Nat.le_of_ble_eq_true rfl⟩) hP_ hK_ hD_ hS_ hA_ [1, 2, 3] [0] [0, 1, 2, 3] rfl rfl (by decide) (fun _ => rfl) (fun _ => rfl) 0 rfl rfl rfl hl_.1 rfl (Nat.le_of_ble_eq_true rfl) dX4_setNew_41 ⟨Nat.zero_le _, Nat.zero_le _⟩ (fun u_ H_ locs hu41 hP_ hD_ hS_ => ?_)
      try dsimp only at hu41
      have hP_ : va_P G_ vwCl [(h_, .inr (4, [.ref r1_, .ref h1_, .ref r3, .ref r4, .ref r5, .int (iI (bZ bu))])), (h1_, .inr (3, [.ref a1_, .ref b1_, .int (iI ((n_ : Nat) : Int))])), (a1_, .inl (cI, 48, .inl (aI (va_up v_ (x_).toNat (y_))))), (b1_, .inl (cZ, 48, .inl (aB f_)))] H_ := hP_
      have hD_ : va_D A_ [(h_, .inr (4, [.ref r1_, .ref h1_, .ref r3, .ref r4, .ref r5, .int (iI (bZ bu))])), (h1_, .inr (3, [.ref a1_, .ref b1_, .int (iI ((n_ : Nat) : Int))])), (a1_, .inl (cI, 48, .inl (aI (va_up v_ (x_).toNat (y_))))), (b1_, .inl (cZ, 48, .inl (aB f_)))] := hD_
      refine lv_aload_n hx_ hb_ dX4_setNew_44 rfl (lv_at hl_ 1 rfl) ?_
      refine lv_iconst (v := iI ((0 : Nat) : Int)) hx_ hb_ dX4_setNew_45 rfl ?_
      refine q_cast (b := bZ false) rfl ?_
      refine va_put (D := G_) (ci := 4) (v := .int (iI (bZ false))) (ty := .boolean) (C := RX4) (T := TX4) (N := 6) hx_ hb_ hts hi4_ tyX4 tyX4_ok nmX4 hown hK_ hP_ hD_ hS_ 0 rfl rfl 5 (by decide) hf40_ (fun _ h9 => h9) rfl (by decide +kernel) (nar_bZ _) (fit_bZ _) (Nat.le_of_ble_eq_true rfl) dX4_setNew_46 (fun H_ locs hP_ hD_ hS_ => ?_)
      have hP_ : va_P G_ vwCl [(h_, .inr (4, [.ref r1_, .ref h1_, .ref r3, .ref r4, .ref r5, .int (iI (bZ false))])), (h1_, .inr (3, [.ref a1_, .ref b1_, .int (iI ((n_ : Nat) : Int))])), (a1_, .inl (cI, 48, .inl (aI (va_up v_ (x_).toNat (y_))))), (b1_, .inl (cZ, 48, .inl (aB f_)))] H_ := hP_
      have hD_ : va_D A_ [(h_, .inr (4, [.ref r1_, .ref h1_, .ref r3, .ref r4, .ref r5, .int (iI (bZ false))])), (h1_, .inr (3, [.ref a1_, .ref b1_, .int (iI ((n_ : Nat) : Int))])), (a1_, .inl (cI, 48, .inl (aI (va_up v_ (x_).toNat (y_))))), (b1_, .inl (cZ, 48, .inl (aB f_)))] := hD_
      refine lv_iload_n hx_ hb_ dX4_setNew_49 rfl (lv_at hl_ 0 rfl) ?_
      rw [← hQe]
      exact W.iret hx_ hb_ hr (fun tt1 htt1 hWW1 => ⟨⟨_, (va_up v_ x_.toNat y_, false), rfl, ⟨congrArg iI (by show _ = snR n_ v_ x_ y_; unfold snR; rw [if_pos c8_, if_pos c19_]; unfold vAt; rw [if_pos c8_]), by unfold snS; rw [if_pos (by omega)]⟩, by show va_P G_ vwCl _ tt1.heap; rw [htt1]; exact hP_⟩, hS_.F htt1⟩) hS_.2.2 dX4_setNew_50
    · skip
      refine lv_sipush (v := iI (-10001)) hx_ hb_ dX4_setNew_22 rfl ?_
      rw [← hQe]
      exact W.iret hx_ hb_ hr (fun tt1 htt1 hWW1 => ⟨⟨_, (v_, bu), rfl, ⟨congrArg iI (by show _ = snR n_ v_ x_ y_; unfold snR; rw [if_pos c8_, if_neg c19_]), by unfold snS; rw [if_neg (by omega)]⟩, by show va_P G_ vwCl _ tt1.heap; rw [htt1]; exact hP_⟩, hS_.F htt1⟩) hS_.2.2 dX4_setNew_25
  · skip
    refine lv_sipush (v := iI (-10003)) hx_ hb_ dX4_setNew_11 rfl ?_
    rw [← hQe]
    exact W.iret hx_ hb_ hr (fun tt1 htt1 hWW1 => ⟨⟨_, (v_, bu), rfl, ⟨congrArg iI (by show _ = snR n_ v_ x_ y_; unfold snR; rw [if_neg c8_]), by unfold snS; rw [if_neg (by omega)]⟩, by show va_P G_ vwCl _ tt1.heap; rw [htt1]; exact hP_⟩, hS_.F htt1⟩) hS_.2.2 dX4_setNew_14

set_option maxHeartbeats 4000000 in
set_option maxRecDepth 100000 in
/-- clear -/
theorem c_X4_clear (l_ : Launch) (G_ : va_G) (cI cZ : ClassId) (h_ r3 r4 r5 : Nat) (bu : Bool) (h1_ a1_ b1_ : Nat) (no_ : Nat) (vo_ : Nat → Int) (fo_ : Nat → Bool) (h2_ a2_ b2_ : Nat) (nn_ : Nat) (vn_ : Nat → Int) (fn_ : Nat → Bool) (sz : Nat) : WrI (S := Unit) l_ yX4_clear wsX4_clear ({ frames := 1, cells := 0, slots := 0, locals := 20 }) G_ cI cZ [.ref h_] ((h_, .inr (4, [.ref h1_, .ref h2_, .ref r3, .ref r4, .ref r5, .int (iI (bZ bu))])) :: (wIm cI cZ h1_ a1_ b1_ no_ vo_ fo_ ++ wIm cI cZ h2_ a2_ b2_ nn_ vn_ fn_)) sz (fun _ => ((no_ + nn_ : Nat) : Int)) (fun _ => True) (fun _ => (h_, .inr (4, [.ref h1_, .ref h2_, .ref r3, .ref r4, .ref r5, .int (iI (bZ false))])) :: (wIm cI cZ h1_ a1_ b1_ 0 vo_ fo_ ++ wIm cI cZ h2_ a2_ b2_ 0 vn_ fn_)) := by
  refine Met.ofW (cc := cX4_clear) (maxL := 2) (ret := (some .int)) (by decide) rfl ?_
  intro p_ e_ s_ m_ args below meth c_ s₁ B hml hv
  obtain ⟨hargs, hsz, hP_, hK_, hD0⟩ := hv
  have hx_ := B.exec
  have hb_ := B.bytes
  have hr := B.returns
  have hts := atoms_spec (ws := wsX4_clear) B.pre
  have hown : s_.vm.findClass RX4 = some m_.cls := findClass_of_methodNamed B.named
  have hlocks := B.notSynchronized
  have hi4_ : ∀ w_ ∈ wsX40, w_ ∈ wsX4_clear := by decide +kernel
  have hf10_ := hts (.fieldLink RX4 10 "RelocatingPatch" "oldImage" "LRelocatingPatch$Image;") (by decide +kernel)
  have hf16_ := hts (.fieldLink RX4 16 "RelocatingPatch" "newImage" "LRelocatingPatch$Image;") (by decide +kernel)
  have hf40_ := hts (.fieldLink RX4 40 "RelocatingPatch" "built" "Z") (by decide +kernel)
  subst hsz
  have hD_ := hD0.self (sz := s_.heap.size)
  generalize hAe : va_A ((h_, .inr (4, [.ref h1_, .ref h2_, .ref r3, .ref r4, .ref r5, .int (iI (bZ bu))])) :: (wIm cI cZ h1_ a1_ b1_ no_ vo_ fo_ ++ wIm cI cZ h2_ a2_ b2_ nn_ vn_ fn_)) s_.heap.size = A_ at hD_ ⊢
  have hA_ : ∀ q_ : Nat, s_.heap.size ≤ q_ → A_ q_ := fun q_ h_ => by rw [← hAe]; exact Or.inr h_
  have hS_ : va_S A_ s_.heap s_.heap [] := va_S.rf
  have hP_ : va_P G_ vwCl [(h_, .inr (4, [.ref h1_, .ref h2_, .ref r3, .ref r4, .ref r5, .int (iI (bZ bu))])), (h1_, .inr (3, [.ref a1_, .ref b1_, .int (iI ((no_ : Nat) : Int))])), (a1_, .inl (cI, 48, .inl (aI vo_))), (b1_, .inl (cZ, 48, .inl (aB fo_))), (h2_, .inr (3, [.ref a2_, .ref b2_, .int (iI ((nn_ : Nat) : Int))])), (a2_, .inl (cI, 48, .inl (aI vn_))), (b2_, .inl (cZ, 48, .inl (aB fn_)))] s_.heap := hP_
  have hD_ : va_D A_ [(h_, .inr (4, [.ref h1_, .ref h2_, .ref r3, .ref r4, .ref r5, .int (iI (bZ bu))])), (h1_, .inr (3, [.ref a1_, .ref b1_, .int (iI ((no_ : Nat) : Int))])), (a1_, .inl (cI, 48, .inl (aI vo_))), (b1_, .inl (cZ, 48, .inl (aB fo_))), (h2_, .inr (3, [.ref a2_, .ref b2_, .int (iI ((nn_ : Nat) : Int))])), (a2_, .inl (cI, 48, .inl (aI vn_))), (b2_, .inl (cZ, 48, .inl (aB fn_)))] := hD_
  generalize hQe : MQ below (va_Qi (S := Unit) (fun r1_ u1 => r1_ = iI ((fun _ => ((no_ + nn_ : Nat) : Int)) u1) ∧ (fun _ => True) u1) (fun u1 t1 => va_P G_ vwCl ((fun _ => (h_, .inr (4, [.ref h1_, .ref h2_, .ref r3, .ref r4, .ref r5, .int (iI (bZ false))])) :: (wIm cI cZ h1_ a1_ b1_ 0 vo_ fo_ ++ wIm cI cZ h2_ a2_ b2_ 0 vn_ fn_)) u1) t1.heap) A_) args s_ 0 0 A_ = Q_
  rw [show entryFrame m_ args 2 = entryFrame m_ ([.ref h_] : List Value).toArray 2 from by rw [hargs], lg_entry_eq]
  have hl_ := lv_entry ([.ref h_]) (n := 2) (Nat.le_of_ble_eq_true rfl)
  generalize (lg_sl ([.ref h_]) ++ List.replicate (2 - (lg_sl ([.ref h_])).length) Slot.unset).toArray = ls_ at hl_ ⊢
  have hl_ : lv_has ls_ 2 [(0, .ref h_)] := hl_
  refine lv_aload_n hx_ hb_ dX4_clear_0 rfl (lv_at hl_ 0 rfl) ?_
  refine va_get (D := G_) (ci := 4) (v := .ref h1_) (C := RX4) (T := TX4) (N := 6) hx_ hb_ hts hi4_ hown hK_ hP_ 0 rfl rfl 0 (by decide) hf10_ (fun _ h9 => h9) rfl dX4_clear_1 ?_
  refine ro_V (As := []) (rest := []) ⟨hx_, hb_, hml, hown, hts⟩ (c_X3_size l_ G_ cI cZ h1_ a1_ b1_ no_ vo_ fo_) (cwV 0 hts gX4_clear_X3_size rfl rfl rfl (by decide +kernel) ⟨Nat.le_of_ble_eq_true rfl, Nat.le_of_ble_eq_true rfl⟩) (hP_.sub (ws' := [(h1_, .inr (3, [.ref a1_, .ref b1_, .int (iI ((no_ : Nat) : Int))])), (a1_, .inl (cI, 48, .inl (aI vo_))), (b1_, .inl (cZ, 48, .inl (aB fo_)))]) [1, 2, 3] rfl) hK_ 0 rfl rfl rfl hl_.1 rfl (Nat.le_of_ble_eq_true rfl) dX4_clear_4 ⟨Nat.zero_le _, Nat.zero_le _⟩ ?_
  refine lv_aload_n hx_ hb_ dX4_clear_7 rfl (lv_at hl_ 0 rfl) ?_
  refine va_get (D := G_) (ci := 4) (v := .ref h2_) (C := RX4) (T := TX4) (N := 6) hx_ hb_ hts hi4_ hown hK_ hP_ 0 rfl rfl 1 (by decide) hf16_ (fun _ h9 => h9) rfl dX4_clear_8 ?_
  refine ro_V (As := []) (rest := [.int (iI ((no_ : Nat) : Int))]) ⟨hx_, hb_, hml, hown, hts⟩ (c_X3_size l_ G_ cI cZ h2_ a2_ b2_ nn_ vn_ fn_) (cwV 0 hts gX4_clear_X3_size rfl rfl rfl (by decide +kernel) ⟨Nat.le_of_ble_eq_true rfl, Nat.le_of_ble_eq_true rfl⟩) (hP_.sub (ws' := [(h2_, .inr (3, [.ref a2_, .ref b2_, .int (iI ((nn_ : Nat) : Int))])), (a2_, .inl (cI, 48, .inl (aI vn_))), (b2_, .inl (cZ, 48, .inl (aB fn_)))]) [4, 5, 6] rfl) hK_ 0 rfl rfl rfl hl_.1 rfl (Nat.le_of_ble_eq_true rfl) dX4_clear_11 ⟨Nat.zero_le _, Nat.zero_le _⟩ ?_
  refine q_iaddN hx_ hb_ dX4_clear_14 ?_
  refine lv_istore_n (lv' := [(1, .int (iI ((no_ + nn_ : Nat) : Int))), (0, .ref h_)]) hx_ hb_ dX4_clear_15 rfl hl_ (by decide) rfl (fun ls_ hl_ => ?_)
  refine lv_aload_n hx_ hb_ dX4_clear_16 rfl (lv_at hl_ 1 rfl) ?_
  refine va_get (D := G_) (ci := 4) (v := .ref h1_) (C := RX4) (T := TX4) (N := 6) hx_ hb_ hts hi4_ hown hK_ hP_ 0 rfl rfl 0 (by decide) hf10_ (fun _ h9 => h9) rfl dX4_clear_17 ?_
  refine wr_V (As := []) (rest := []) (wr := [(h_, .inr (4, [.ref h1_, .ref h2_, .ref r3, .ref r4, .ref r5, .int (iI (bZ bu))])), (h2_, .inr (3, [.ref a2_, .ref b2_, .int (iI ((nn_ : Nat) : Int))])), (a2_, .inl (cI, 48, .inl (aI vn_))), (b2_, .inl (cZ, 48, .inl (aB fn_)))]) (wn := fun u_ => [(h_, .inr (4, [.ref h1_, .ref h2_, .ref r3, .ref r4, .ref r5, .int (iI (bZ bu))])), (h1_, .inr (3, [.ref a1_, .ref b1_, .int (iI ((0 : Nat) : Int))])), (a1_, .inl (cI, 48, .inl (aI vo_))), (b1_, .inl (cZ, 48, .inl (aB fo_))), (h2_, .inr (3, [.ref a2_, .ref b2_, .int (iI ((nn_ : Nat) : Int))])), (a2_, .inl (cI, 48, .inl (aI vn_))), (b2_, .inl (cZ, 48, .inl (aB fn_)))]) ⟨hx_, hb_, hml, hown, hts⟩ (c_X3_removeAll l_ G_ cI cZ h1_ a1_ b1_ no_ vo_ fo_ s_.heap.size) (cwV 0 hts gX4_clear_X3_removeAll rfl rfl rfl (by decide +kernel) ⟨Nat.le_of_ble_eq_true rfl, Nat.le_of_ble_eq_true rfl⟩) hP_ hK_ hD_ hS_ hA_ [1, 2, 3] [0, 4, 5, 6] [0, 4, 5, 6, 1, 2, 3] rfl rfl (by decide) (fun _ => rfl) (fun _ => rfl) 0 rfl rfl rfl hl_.1 rfl (Nat.le_of_ble_eq_true rfl) dX4_clear_20 ⟨Nat.zero_le _, Nat.zero_le _⟩ (fun u_ H_ locs hu20 hP_ hD_ hS_ => ?_)
  try dsimp only at hu20
  have hP_ : va_P G_ vwCl [(h_, .inr (4, [.ref h1_, .ref h2_, .ref r3, .ref r4, .ref r5, .int (iI (bZ bu))])), (h1_, .inr (3, [.ref a1_, .ref b1_, .int (iI ((0 : Nat) : Int))])), (a1_, .inl (cI, 48, .inl (aI vo_))), (b1_, .inl (cZ, 48, .inl (aB fo_))), (h2_, .inr (3, [.ref a2_, .ref b2_, .int (iI ((nn_ : Nat) : Int))])), (a2_, .inl (cI, 48, .inl (aI vn_))), (b2_, .inl (cZ, 48, .inl (aB fn_)))] H_ := hP_
  have hD_ : va_D A_ [(h_, .inr (4, [.ref h1_, .ref h2_, .ref r3, .ref r4, .ref r5, .int (iI (bZ bu))])), (h1_, .inr (3, [.ref a1_, .ref b1_, .int (iI ((0 : Nat) : Int))])), (a1_, .inl (cI, 48, .inl (aI vo_))), (b1_, .inl (cZ, 48, .inl (aB fo_))), (h2_, .inr (3, [.ref a2_, .ref b2_, .int (iI ((nn_ : Nat) : Int))])), (a2_, .inl (cI, 48, .inl (aI vn_))), (b2_, .inl (cZ, 48, .inl (aB fn_)))] := hD_
  refine lv_aload_n hx_ hb_ dX4_clear_23 rfl (lv_at hl_ 1 rfl) ?_
  refine va_get (D := G_) (ci := 4) (v := .ref h2_) (C := RX4) (T := TX4) (N := 6) hx_ hb_ hts hi4_ hown hK_ hP_ 0 rfl rfl 1 (by decide) hf16_ (fun _ h9 => h9) rfl dX4_clear_24 ?_
  refine wr_V (As := []) (rest := []) (wr := [(h_, .inr (4, [.ref h1_, .ref h2_, .ref r3, .ref r4, .ref r5, .int (iI (bZ bu))])), (h1_, .inr (3, [.ref a1_, .ref b1_, .int (iI ((0 : Nat) : Int))])), (a1_, .inl (cI, 48, .inl (aI vo_))), (b1_, .inl (cZ, 48, .inl (aB fo_)))]) (wn := fun u_ => [(h_, .inr (4, [.ref h1_, .ref h2_, .ref r3, .ref r4, .ref r5, .int (iI (bZ bu))])), (h1_, .inr (3, [.ref a1_, .ref b1_, .int (iI ((0 : Nat) : Int))])), (a1_, .inl (cI, 48, .inl (aI vo_))), (b1_, .inl (cZ, 48, .inl (aB fo_))), (h2_, .inr (3, [.ref a2_, .ref b2_, .int (iI ((0 : Nat) : Int))])), (a2_, .inl (cI, 48, .inl (aI vn_))), (b2_, .inl (cZ, 48, .inl (aB fn_)))]) ⟨hx_, hb_, hml, hown, hts⟩ (c_X3_removeAll l_ G_ cI cZ h2_ a2_ b2_ nn_ vn_ fn_ H_.size) (cwV 0 hts gX4_clear_X3_removeAll rfl rfl rfl (by decide +kernel) ⟨Nat.le_of_ble_eq_true rfl, Nat.le_of_ble_eq_true rfl⟩) hP_ hK_ hD_ hS_ hA_ [4, 5, 6] [0, 1, 2, 3] [0, 1, 2, 3, 4, 5, 6] rfl rfl (by decide) (fun _ => rfl) (fun _ => rfl) 0 rfl rfl rfl hl_.1 rfl (Nat.le_of_ble_eq_true rfl) dX4_clear_27 ⟨Nat.zero_le _, Nat.zero_le _⟩ (fun u_ H_ locs hu27 hP_ hD_ hS_ => ?_)
  try dsimp only at hu27
  have hP_ : va_P G_ vwCl [(h_, .inr (4, [.ref h1_, .ref h2_, .ref r3, .ref r4, .ref r5, .int (iI (bZ bu))])), (h1_, .inr (3, [.ref a1_, .ref b1_, .int (iI ((0 : Nat) : Int))])), (a1_, .inl (cI, 48, .inl (aI vo_))), (b1_, .inl (cZ, 48, .inl (aB fo_))), (h2_, .inr (3, [.ref a2_, .ref b2_, .int (iI ((0 : Nat) : Int))])), (a2_, .inl (cI, 48, .inl (aI vn_))), (b2_, .inl (cZ, 48, .inl (aB fn_)))] H_ := hP_
  have hD_ : va_D A_ [(h_, .inr (4, [.ref h1_, .ref h2_, .ref r3, .ref r4, .ref r5, .int (iI (bZ bu))])), (h1_, .inr (3, [.ref a1_, .ref b1_, .int (iI ((0 : Nat) : Int))])), (a1_, .inl (cI, 48, .inl (aI vo_))), (b1_, .inl (cZ, 48, .inl (aB fo_))), (h2_, .inr (3, [.ref a2_, .ref b2_, .int (iI ((0 : Nat) : Int))])), (a2_, .inl (cI, 48, .inl (aI vn_))), (b2_, .inl (cZ, 48, .inl (aB fn_)))] := hD_
  refine lv_aload_n hx_ hb_ dX4_clear_30 rfl (lv_at hl_ 1 rfl) ?_
  refine lv_iconst (v := iI ((0 : Nat) : Int)) hx_ hb_ dX4_clear_31 rfl ?_
  refine q_cast (b := bZ false) rfl ?_
  refine va_put (D := G_) (ci := 4) (v := .int (iI (bZ false))) (ty := .boolean) (C := RX4) (T := TX4) (N := 6) hx_ hb_ hts hi4_ tyX4 tyX4_ok nmX4 hown hK_ hP_ hD_ hS_ 0 rfl rfl 5 (by decide) hf40_ (fun _ h9 => h9) rfl (by decide +kernel) (nar_bZ _) (fit_bZ _) (Nat.le_of_ble_eq_true rfl) dX4_clear_32 (fun H_ locs hP_ hD_ hS_ => ?_)
  have hP_ : va_P G_ vwCl [(h_, .inr (4, [.ref h1_, .ref h2_, .ref r3, .ref r4, .ref r5, .int (iI (bZ false))])), (h1_, .inr (3, [.ref a1_, .ref b1_, .int (iI ((0 : Nat) : Int))])), (a1_, .inl (cI, 48, .inl (aI vo_))), (b1_, .inl (cZ, 48, .inl (aB fo_))), (h2_, .inr (3, [.ref a2_, .ref b2_, .int (iI ((0 : Nat) : Int))])), (a2_, .inl (cI, 48, .inl (aI vn_))), (b2_, .inl (cZ, 48, .inl (aB fn_)))] H_ := hP_
  have hD_ : va_D A_ [(h_, .inr (4, [.ref h1_, .ref h2_, .ref r3, .ref r4, .ref r5, .int (iI (bZ false))])), (h1_, .inr (3, [.ref a1_, .ref b1_, .int (iI ((0 : Nat) : Int))])), (a1_, .inl (cI, 48, .inl (aI vo_))), (b1_, .inl (cZ, 48, .inl (aB fo_))), (h2_, .inr (3, [.ref a2_, .ref b2_, .int (iI ((0 : Nat) : Int))])), (a2_, .inl (cI, 48, .inl (aI vn_))), (b2_, .inl (cZ, 48, .inl (aB fn_)))] := hD_
  refine lv_iload_n hx_ hb_ dX4_clear_35 rfl (lv_at hl_ 0 rfl) ?_
  rw [← hQe]
  exact W.iret hx_ hb_ hr (fun tt1 htt1 hWW1 => ⟨⟨_, (), rfl, ⟨congrArg iI (rfl), trivial⟩, by show va_P G_ vwCl _ tt1.heap; rw [htt1]; exact hP_⟩, hS_.F htt1⟩) hS_.2.2 dX4_clear_36

set_option maxHeartbeats 4000000 in
set_option maxRecDepth 100000 in
/-- oldLength -/
theorem c_X4_oldLength (l_ : Launch) (G_ : va_G) (cI cZ : ClassId) (ad : Nat → Nat) (bu : Bool) (no_ : Nat) (vo_ : Nat → Int) (fo_ : Nat → Bool) (nn_ : Nat) (vn_ : Nat → Int) (fn_ : Nat → Bool) (k_ : Nat) (os_ ns_ ln_ : Nat → Nat) (ot_ nt_ : Nat → Bool) (ru_ : Nat → Nat) (bo_ bn_ bl_ : Nat) (od_ : Nat → Nat) (wt_ dr_ : Nat → Bool) (sp_ : Nat)    : Ro l_ yX4_oldLength wsX4_oldLength ({ frames := 1, cells := 0, slots := 0, locals := 20 }) G_ cI cZ [.ref (ad 0)] (wRP cI cZ ad bu no_ vo_ fo_ nn_ vn_ fn_ k_ os_ ns_ ln_ ot_ nt_ ru_ bo_ bn_ bl_ od_ wt_ dr_ sp_) ((no_ : Nat) : Int) := by
  refine Met.ofW (cc := cX4_oldLength) (maxL := 1) (ret := (some .int)) (by decide) rfl ?_
  intro p_ e_ s_ m_ args below meth c_ s₁ B hml hv
  obtain ⟨hargs, hP_, hK_⟩ := hv
  have hx_ := B.exec
  have hb_ := B.bytes
  have hr := B.returns
  have hts := atoms_spec (ws := wsX4_oldLength) B.pre
  have hown : s_.vm.findClass RX4 = some m_.cls := findClass_of_methodNamed B.named
  have hlocks := B.notSynchronized
  have hi4_ : ∀ w_ ∈ wsX40, w_ ∈ wsX4_oldLength := by decide +kernel
  have hf10_ := hts (.fieldLink RX4 10 "RelocatingPatch" "oldImage" "LRelocatingPatch$Image;") (by decide +kernel)
  have hP_ : va_P G_ vwCl [(ad 0, .inr (4, [.ref (ad 1), .ref (ad 4), .ref (ad 7), .ref (ad 11), .ref (ad 15), .int (iI (bZ bu))])), (ad 1, .inr (3, [.ref (ad 2), .ref (ad 3), .int (iI ((no_ : Nat) : Int))])), (ad 2, .inl (cI, 48, .inl (aI vo_))), (ad 3, .inl (cZ, 48, .inl (aB fo_))), (ad 4, .inr (3, [.ref (ad 5), .ref (ad 6), .int (iI ((nn_ : Nat) : Int))])), (ad 5, .inl (cI, 48, .inl (aI vn_))), (ad 6, .inl (cZ, 48, .inl (aB fn_))), (ad 7, .inr (1, [.ref (ad 8), .ref (ad 9), .ref (ad 10), .int (iI ((k_ : Nat) : Int))])), (ad 8, .inl (cI, 48, .inl (aN os_))), (ad 9, .inl (cI, 48, .inl (aN ns_))), (ad 10, .inl (cI, 48, .inl (aN ln_))), (ad 11, .inr (0, [.ref (ad 12), .ref (ad 13), .ref (ad 14), .int (iI ((bo_ : Nat) : Int)), .int (iI ((bn_ : Nat) : Int)), .int (iI ((bl_ : Nat) : Int))])), (ad 12, .inl (cZ, 48, .inl (aB ot_))), (ad 13, .inl (cZ, 48, .inl (aB nt_))), (ad 14, .inl (cI, 49, .inl (aN ru_))), (ad 15, .inr (2, [.ref (ad 16), .ref (ad 17), .ref (ad 18), .int (iI ((sp_ : Nat) : Int))])), (ad 16, .inl (cI, 48, .inl (aN od_))), (ad 17, .inl (cZ, 48, .inl (aB wt_))), (ad 18, .inl (cZ, 48, .inl (aB dr_)))] s_.heap := hP_
  generalize hQe : MQ below (vp_Si (fun r_ => r_ = iI ((no_ : Nat) : Int))) args s_ 0 0 (fun _ => False) = Q_
  rw [show entryFrame m_ args 1 = entryFrame m_ ([.ref (ad 0)] : List Value).toArray 1 from by rw [hargs], lg_entry_eq]
  have hl_ := lv_entry ([.ref (ad 0)]) (n := 1) (Nat.le_of_ble_eq_true rfl)
  generalize (lg_sl ([.ref (ad 0)]) ++ List.replicate (1 - (lg_sl ([.ref (ad 0)])).length) Slot.unset).toArray = ls_ at hl_ ⊢
  have hl_ : lv_has ls_ 1 [(0, .ref (ad 0))] := hl_
  refine lv_aload_n hx_ hb_ dX4_oldLength_0 rfl (lv_at hl_ 0 rfl) ?_
  refine va_get (D := G_) (ci := 4) (v := .ref (ad 1)) (C := RX4) (T := TX4) (N := 6) hx_ hb_ hts hi4_ hown hK_ hP_ 0 rfl rfl 0 (by decide) hf10_ (fun _ h9 => h9) rfl dX4_oldLength_1 ?_
  refine ro_V (As := []) (rest := []) ⟨hx_, hb_, hml, hown, hts⟩ (c_X3_size l_ G_ cI cZ (ad 1) (ad 2) (ad 3) no_ vo_ fo_) (cwV 0 hts gX4_oldLength_X3_size rfl rfl rfl (by decide +kernel) ⟨Nat.le_of_ble_eq_true rfl, Nat.le_of_ble_eq_true rfl⟩) (hP_.sub (ws' := [(ad 1, .inr (3, [.ref (ad 2), .ref (ad 3), .int (iI ((no_ : Nat) : Int))])), (ad 2, .inl (cI, 48, .inl (aI vo_))), (ad 3, .inl (cZ, 48, .inl (aB fo_)))]) [1, 2, 3] rfl) hK_ 0 rfl rfl rfl hl_.1 rfl (Nat.le_of_ble_eq_true rfl) dX4_oldLength_4 ⟨Nat.zero_le _, Nat.zero_le _⟩ ?_
  rw [← hQe]
  exact W.iret hx_ hb_ hr (fun tt1 htt1 hWW1 => ⟨_, rfl, congrArg iI (by first | rfl | omega), htt1⟩) (fun q_ h_ => absurd h_ List.not_mem_nil) dX4_oldLength_7

set_option maxHeartbeats 4000000 in
set_option maxRecDepth 100000 in
/-- newLength -/
theorem c_X4_newLength (l_ : Launch) (G_ : va_G) (cI cZ : ClassId) (ad : Nat → Nat) (bu : Bool) (no_ : Nat) (vo_ : Nat → Int) (fo_ : Nat → Bool) (nn_ : Nat) (vn_ : Nat → Int) (fn_ : Nat → Bool) (k_ : Nat) (os_ ns_ ln_ : Nat → Nat) (ot_ nt_ : Nat → Bool) (ru_ : Nat → Nat) (bo_ bn_ bl_ : Nat) (od_ : Nat → Nat) (wt_ dr_ : Nat → Bool) (sp_ : Nat)    : Ro l_ yX4_newLength wsX4_newLength ({ frames := 1, cells := 0, slots := 0, locals := 20 }) G_ cI cZ [.ref (ad 0)] (wRP cI cZ ad bu no_ vo_ fo_ nn_ vn_ fn_ k_ os_ ns_ ln_ ot_ nt_ ru_ bo_ bn_ bl_ od_ wt_ dr_ sp_) ((nn_ : Nat) : Int) := by
  refine Met.ofW (cc := cX4_newLength) (maxL := 1) (ret := (some .int)) (by decide) rfl ?_
  intro p_ e_ s_ m_ args below meth c_ s₁ B hml hv
  obtain ⟨hargs, hP_, hK_⟩ := hv
  have hx_ := B.exec
  have hb_ := B.bytes
  have hr := B.returns
  have hts := atoms_spec (ws := wsX4_newLength) B.pre
  have hown : s_.vm.findClass RX4 = some m_.cls := findClass_of_methodNamed B.named
  have hlocks := B.notSynchronized
  have hi4_ : ∀ w_ ∈ wsX40, w_ ∈ wsX4_newLength := by decide +kernel
  have hf16_ := hts (.fieldLink RX4 16 "RelocatingPatch" "newImage" "LRelocatingPatch$Image;") (by decide +kernel)
  have hP_ : va_P G_ vwCl [(ad 0, .inr (4, [.ref (ad 1), .ref (ad 4), .ref (ad 7), .ref (ad 11), .ref (ad 15), .int (iI (bZ bu))])), (ad 1, .inr (3, [.ref (ad 2), .ref (ad 3), .int (iI ((no_ : Nat) : Int))])), (ad 2, .inl (cI, 48, .inl (aI vo_))), (ad 3, .inl (cZ, 48, .inl (aB fo_))), (ad 4, .inr (3, [.ref (ad 5), .ref (ad 6), .int (iI ((nn_ : Nat) : Int))])), (ad 5, .inl (cI, 48, .inl (aI vn_))), (ad 6, .inl (cZ, 48, .inl (aB fn_))), (ad 7, .inr (1, [.ref (ad 8), .ref (ad 9), .ref (ad 10), .int (iI ((k_ : Nat) : Int))])), (ad 8, .inl (cI, 48, .inl (aN os_))), (ad 9, .inl (cI, 48, .inl (aN ns_))), (ad 10, .inl (cI, 48, .inl (aN ln_))), (ad 11, .inr (0, [.ref (ad 12), .ref (ad 13), .ref (ad 14), .int (iI ((bo_ : Nat) : Int)), .int (iI ((bn_ : Nat) : Int)), .int (iI ((bl_ : Nat) : Int))])), (ad 12, .inl (cZ, 48, .inl (aB ot_))), (ad 13, .inl (cZ, 48, .inl (aB nt_))), (ad 14, .inl (cI, 49, .inl (aN ru_))), (ad 15, .inr (2, [.ref (ad 16), .ref (ad 17), .ref (ad 18), .int (iI ((sp_ : Nat) : Int))])), (ad 16, .inl (cI, 48, .inl (aN od_))), (ad 17, .inl (cZ, 48, .inl (aB wt_))), (ad 18, .inl (cZ, 48, .inl (aB dr_)))] s_.heap := hP_
  generalize hQe : MQ below (vp_Si (fun r_ => r_ = iI ((nn_ : Nat) : Int))) args s_ 0 0 (fun _ => False) = Q_
  rw [show entryFrame m_ args 1 = entryFrame m_ ([.ref (ad 0)] : List Value).toArray 1 from by rw [hargs], lg_entry_eq]
  have hl_ := lv_entry ([.ref (ad 0)]) (n := 1) (Nat.le_of_ble_eq_true rfl)
  generalize (lg_sl ([.ref (ad 0)]) ++ List.replicate (1 - (lg_sl ([.ref (ad 0)])).length) Slot.unset).toArray = ls_ at hl_ ⊢
  have hl_ : lv_has ls_ 1 [(0, .ref (ad 0))] := hl_
  refine lv_aload_n hx_ hb_ dX4_newLength_0 rfl (lv_at hl_ 0 rfl) ?_
  refine va_get (D := G_) (ci := 4) (v := .ref (ad 4)) (C := RX4) (T := TX4) (N := 6) hx_ hb_ hts hi4_ hown hK_ hP_ 0 rfl rfl 1 (by decide) hf16_ (fun _ h9 => h9) rfl dX4_newLength_1 ?_
  refine ro_V (As := []) (rest := []) ⟨hx_, hb_, hml, hown, hts⟩ (c_X3_size l_ G_ cI cZ (ad 4) (ad 5) (ad 6) nn_ vn_ fn_) (cwV 0 hts gX4_newLength_X3_size rfl rfl rfl (by decide +kernel) ⟨Nat.le_of_ble_eq_true rfl, Nat.le_of_ble_eq_true rfl⟩) (hP_.sub (ws' := [(ad 4, .inr (3, [.ref (ad 5), .ref (ad 6), .int (iI ((nn_ : Nat) : Int))])), (ad 5, .inl (cI, 48, .inl (aI vn_))), (ad 6, .inl (cZ, 48, .inl (aB fn_)))]) [4, 5, 6] rfl) hK_ 0 rfl rfl rfl hl_.1 rfl (Nat.le_of_ble_eq_true rfl) dX4_newLength_4 ⟨Nat.zero_le _, Nat.zero_le _⟩ ?_
  rw [← hQe]
  exact W.iret hx_ hb_ hr (fun tt1 htt1 hWW1 => ⟨_, rfl, congrArg iI (by first | rfl | omega), htt1⟩) (fun q_ h_ => absurd h_ List.not_mem_nil) dX4_newLength_7

set_option maxHeartbeats 4000000 in
set_option maxRecDepth 100000 in
/-- newValue -/
theorem c_X4_newValue (l_ : Launch) (G_ : va_G) (cI cZ : ClassId) (ad : Nat → Nat) (bu : Bool) (no_ : Nat) (vo_ : Nat → Int) (fo_ : Nat → Bool) (nn_ : Nat) (vn_ : Nat → Int) (fn_ : Nat → Bool) (k_ : Nat) (os_ ns_ ln_ : Nat → Nat) (ot_ nt_ : Nat → Bool) (ru_ : Nat → Nat) (bo_ bn_ bl_ : Nat) (od_ : Nat → Nat) (wt_ dr_ : Nat → Bool) (sp_ : Nat) (x_ : Int) (hnn : nn_ ≤ 48) (hx1 : -2147483648 ≤ x_) (hx2 : x_ < 2147483648) : Ro l_ yX4_newValue wsX4_newValue ({ frames := 2, cells := 0, slots := 0, locals := 42 }) G_ cI cZ [.ref (ad 0), .int (iI (x_))] (wRP cI cZ ad bu no_ vo_ fo_ nn_ vn_ fn_ k_ os_ ns_ ln_ ot_ nt_ ru_ bo_ bn_ bl_ od_ wt_ dr_ sp_) (nvR nn_ vn_ x_) := by
  refine Met.ofW (cc := cX4_newValue) (maxL := 2) (ret := (some .int)) (by decide) rfl ?_
  intro p_ e_ s_ m_ args below meth c_ s₁ B hml hv
  obtain ⟨hargs, hP_, hK_⟩ := hv
  have hx_ := B.exec
  have hb_ := B.bytes
  have hr := B.returns
  have hts := atoms_spec (ws := wsX4_newValue) B.pre
  have hown : s_.vm.findClass RX4 = some m_.cls := findClass_of_methodNamed B.named
  have hlocks := B.notSynchronized
  have hi4_ : ∀ w_ ∈ wsX40, w_ ∈ wsX4_newValue := by decide +kernel
  have hf16_ := hts (.fieldLink RX4 16 "RelocatingPatch" "newImage" "LRelocatingPatch$Image;") (by decide +kernel)
  have hP_ : va_P G_ vwCl [(ad 0, .inr (4, [.ref (ad 1), .ref (ad 4), .ref (ad 7), .ref (ad 11), .ref (ad 15), .int (iI (bZ bu))])), (ad 1, .inr (3, [.ref (ad 2), .ref (ad 3), .int (iI ((no_ : Nat) : Int))])), (ad 2, .inl (cI, 48, .inl (aI vo_))), (ad 3, .inl (cZ, 48, .inl (aB fo_))), (ad 4, .inr (3, [.ref (ad 5), .ref (ad 6), .int (iI ((nn_ : Nat) : Int))])), (ad 5, .inl (cI, 48, .inl (aI vn_))), (ad 6, .inl (cZ, 48, .inl (aB fn_))), (ad 7, .inr (1, [.ref (ad 8), .ref (ad 9), .ref (ad 10), .int (iI ((k_ : Nat) : Int))])), (ad 8, .inl (cI, 48, .inl (aN os_))), (ad 9, .inl (cI, 48, .inl (aN ns_))), (ad 10, .inl (cI, 48, .inl (aN ln_))), (ad 11, .inr (0, [.ref (ad 12), .ref (ad 13), .ref (ad 14), .int (iI ((bo_ : Nat) : Int)), .int (iI ((bn_ : Nat) : Int)), .int (iI ((bl_ : Nat) : Int))])), (ad 12, .inl (cZ, 48, .inl (aB ot_))), (ad 13, .inl (cZ, 48, .inl (aB nt_))), (ad 14, .inl (cI, 49, .inl (aN ru_))), (ad 15, .inr (2, [.ref (ad 16), .ref (ad 17), .ref (ad 18), .int (iI ((sp_ : Nat) : Int))])), (ad 16, .inl (cI, 48, .inl (aN od_))), (ad 17, .inl (cZ, 48, .inl (aB wt_))), (ad 18, .inl (cZ, 48, .inl (aB dr_)))] s_.heap := hP_
  generalize hQe : MQ below (vp_Si (fun r_ => r_ = iI (nvR nn_ vn_ x_))) args s_ 0 0 (fun _ => False) = Q_
  rw [show entryFrame m_ args 2 = entryFrame m_ ([.ref (ad 0), .int (iI (x_))] : List Value).toArray 2 from by rw [hargs], lg_entry_eq]
  have hl_ := lv_entry ([.ref (ad 0), .int (iI (x_))]) (n := 2) (Nat.le_of_ble_eq_true rfl)
  generalize (lg_sl ([.ref (ad 0), .int (iI (x_))]) ++ List.replicate (2 - (lg_sl ([.ref (ad 0), .int (iI (x_))])).length) Slot.unset).toArray = ls_ at hl_ ⊢
  have hl_ : lv_has ls_ 2 [(0, .ref (ad 0)), (1, .int (iI (x_)))] := hl_
  refine lv_aload_n hx_ hb_ dX4_newValue_0 rfl (lv_at hl_ 0 rfl) ?_
  refine va_get (D := G_) (ci := 4) (v := .ref (ad 4)) (C := RX4) (T := TX4) (N := 6) hx_ hb_ hts hi4_ hown hK_ hP_ 0 rfl rfl 1 (by decide) hf16_ (fun _ h9 => h9) rfl dX4_newValue_1 ?_
  refine lv_iload_n hx_ hb_ dX4_newValue_4 rfl (lv_at hl_ 1 rfl) ?_
  refine ro_V (As := [.int (iI (x_))]) (rest := []) ⟨hx_, hb_, hml, hown, hts⟩ (c_X3_holds l_ G_ cI cZ (ad 4) (ad 5) (ad 6) nn_ vn_ fn_ (x_) (by omega) (by omega) (by omega)) (cwV 1 hts gX4_newValue_X3_holds rfl rfl rfl (by decide +kernel) ⟨Nat.le_of_ble_eq_true rfl, Nat.le_of_ble_eq_true rfl⟩) (hP_.sub (ws' := [(ad 4, .inr (3, [.ref (ad 5), .ref (ad 6), .int (iI ((nn_ : Nat) : Int))])), (ad 5, .inl (cI, 48, .inl (aI vn_))), (ad 6, .inl (cZ, 48, .inl (aB fn_)))]) [4, 5, 6] rfl) hK_ 0 rfl rfl rfl hl_.1 rfl (Nat.le_of_ble_eq_true rfl) dX4_newValue_5 ⟨Nat.zero_le _, Nat.zero_le _⟩ ?_
  refine q_df (tgt := 22) hx_ hb_ dX4_newValue_8 (by decide) (fun c8_ => ?_) (fun c8_ => ?_)
  · skip
    refine lv_sipush (v := iI (-10003)) hx_ hb_ dX4_newValue_22 rfl ?_
    rw [← hQe]
    exact W.iret hx_ hb_ hr (fun tt1 htt1 hWW1 => ⟨_, rfl, congrArg iI (by unfold nvR; rw [if_neg c8_]), htt1⟩) (fun q_ h_ => absurd h_ List.not_mem_nil) dX4_newValue_25
  · skip
    refine lv_aload_n hx_ hb_ dX4_newValue_11 rfl (lv_at hl_ 0 rfl) ?_
    refine va_get (D := G_) (ci := 4) (v := .ref (ad 4)) (C := RX4) (T := TX4) (N := 6) hx_ hb_ hts hi4_ hown hK_ hP_ 0 rfl rfl 1 (by decide) hf16_ (fun _ h9 => h9) rfl dX4_newValue_12 ?_
    refine lv_iload_n hx_ hb_ dX4_newValue_15 rfl (lv_at hl_ 1 rfl) ?_
    refine ro_V (As := [.int (iI (x_))]) (rest := []) ⟨hx_, hb_, hml, hown, hts⟩ (c_X3_valueAt l_ G_ cI cZ (ad 4) (ad 5) (ad 6) nn_ vn_ fn_ (x_) (by omega) (by omega) (by omega)) (cwV 1 hts gX4_newValue_X3_valueAt rfl rfl rfl (by decide +kernel) ⟨Nat.le_of_ble_eq_true rfl, Nat.le_of_ble_eq_true rfl⟩) (hP_.sub (ws' := [(ad 4, .inr (3, [.ref (ad 5), .ref (ad 6), .int (iI ((nn_ : Nat) : Int))])), (ad 5, .inl (cI, 48, .inl (aI vn_))), (ad 6, .inl (cZ, 48, .inl (aB fn_)))]) [4, 5, 6] rfl) hK_ 0 rfl rfl rfl hl_.1 rfl (Nat.le_of_ble_eq_true rfl) dX4_newValue_16 ⟨Nat.zero_le _, Nat.zero_le _⟩ ?_
    refine lv_goto (tgt := 25) hx_ hb_ dX4_newValue_19 (by decide) ?_
    rw [← hQe]
    exact W.iret hx_ hb_ hr (fun tt1 htt1 hWW1 => ⟨_, rfl, congrArg iI (by unfold nvR vAt; rw [if_pos c8_, if_pos c8_]), htt1⟩) (fun q_ h_ => absurd h_ List.not_mem_nil) dX4_newValue_25

set_option maxHeartbeats 4000000 in
set_option maxRecDepth 100000 in
/-- build -/
theorem c_X4_build (l_ : Launch) (G_ : va_G) (cI cZ : ClassId) (ad : Nat → Nat) (bu : Bool) (no_ : Nat) (vo_ : Nat → Int) (fo_ : Nat → Bool) (nn_ : Nat) (vn_ : Nat → Int) (fn_ : Nat → Bool) (k_ : Nat) (os_ ns_ ln_ : Nat → Nat) (ot_ nt_ : Nat → Bool) (ru_ : Nat → Nat) (bo_ bn_ bl_ : Nat) (od_ : Nat → Nat) (wt_ dr_ : Nat → Bool) (sp_ : Nat) (x_ : Int) (hno : no_ ≤ 48) (hnn : nn_ ≤ 48) (hvo : ∀ j_, 0 ≤ vo_ j_ ∧ vo_ j_ ≤ 9999) (hvn : ∀ j_, 0 ≤ vn_ j_ ∧ vn_ j_ ≤ 9999) (hx1 : -2147483648 ≤ x_) (hx2 : x_ < 2147483648) (sz : Nat) : WrI (S := Bool × Nat × (Nat → Nat) × (Nat → Nat) × (Nat → Nat) × (Nat → Bool) × (Nat → Bool) × (Nat → Nat) × Nat × Nat × Nat × (Nat → Nat) × (Nat → Bool) × (Nat → Bool) × Nat) l_ yX4_build wsX4_build ({ frames := 6, cells := 0, slots := 0, locals := 140 }) G_ cI cZ [.ref (ad 0), .int (iI (x_))] (wRP cI cZ ad bu no_ vo_ fo_ nn_ vn_ fn_ k_ os_ ns_ ln_ ot_ nt_ ru_ bo_ bn_ bl_ od_ wt_ dr_ sp_) sz (fun u_ => bdR u_.2.1 x_) (fun u_ => (¬ (1 ≤ x_ ∧ x_ ≤ 16) → u_ = (bu, k_, os_, ns_, ln_, ot_, nt_, ru_, bo_, bn_, bl_, od_, wt_, dr_, sp_)) ∧ ((1 ≤ x_ ∧ x_ ≤ 16) → u_.1 = true ∧ BdP no_ nn_ (mtc vo_ vn_ fo_ fn_) x_.toNat u_.2.1 u_.2.2.1 u_.2.2.2.1 u_.2.2.2.2.1 u_.2.2.2.2.2.2.2.2.2.2.2.2.1 u_.2.2.2.2.2.2.2.2.2.2.2.2.2.1 u_.2.2.2.2.2.2.2.2.2.2.2.1 u_.2.2.2.2.2.2.2.2.2.2.2.2.2.2)) (fun u_ => wRP cI cZ ad u_.1 no_ vo_ fo_ nn_ vn_ fn_ u_.2.1 u_.2.2.1 u_.2.2.2.1 u_.2.2.2.2.1 u_.2.2.2.2.2.1 u_.2.2.2.2.2.2.1 u_.2.2.2.2.2.2.2.1 u_.2.2.2.2.2.2.2.2.1 u_.2.2.2.2.2.2.2.2.2.1 u_.2.2.2.2.2.2.2.2.2.2.1 u_.2.2.2.2.2.2.2.2.2.2.2.1 u_.2.2.2.2.2.2.2.2.2.2.2.2.1 u_.2.2.2.2.2.2.2.2.2.2.2.2.2.1 u_.2.2.2.2.2.2.2.2.2.2.2.2.2.2) := by
  refine Met.ofW (cc := cX4_build) (maxL := 2) (ret := (some .int)) (by decide) rfl ?_
  intro p_ e_ s_ m_ args below meth c_ s₁ B hml hv
  obtain ⟨hargs, hsz, hP_, hK_, hD0⟩ := hv
  have hx_ := B.exec
  have hb_ := B.bytes
  have hr := B.returns
  have hts := atoms_spec (ws := wsX4_build) B.pre
  have hown : s_.vm.findClass RX4 = some m_.cls := findClass_of_methodNamed B.named
  have hlocks := B.notSynchronized
  have hi4_ : ∀ w_ ∈ wsX40, w_ ∈ wsX4_build := by decide +kernel
  have hf10_ := hts (.fieldLink RX4 10 "RelocatingPatch" "oldImage" "LRelocatingPatch$Image;") (by decide +kernel)
  have hf16_ := hts (.fieldLink RX4 16 "RelocatingPatch" "newImage" "LRelocatingPatch$Image;") (by decide +kernel)
  have hf22_ := hts (.fieldLink RX4 22 "RelocatingPatch" "blocks" "LRelocatingPatch$Blocks;") (by decide +kernel)
  have hf29_ := hts (.fieldLink RX4 29 "RelocatingPatch" "aligner" "LRelocatingPatch$Aligner;") (by decide +kernel)
  have hf36_ := hts (.fieldLink RX4 36 "RelocatingPatch" "copyOrder" "LRelocatingPatch$CopyOrder;") (by decide +kernel)
  have hf40_ := hts (.fieldLink RX4 40 "RelocatingPatch" "built" "Z") (by decide +kernel)
  subst hsz
  have hD_ := hD0.self (sz := s_.heap.size)
  generalize hAe : va_A (wRP cI cZ ad bu no_ vo_ fo_ nn_ vn_ fn_ k_ os_ ns_ ln_ ot_ nt_ ru_ bo_ bn_ bl_ od_ wt_ dr_ sp_) s_.heap.size = A_ at hD_ ⊢
  have hA_ : ∀ q_ : Nat, s_.heap.size ≤ q_ → A_ q_ := fun q_ h_ => by rw [← hAe]; exact Or.inr h_
  have hS_ : va_S A_ s_.heap s_.heap [] := va_S.rf
  have hP_ : va_P G_ vwCl [(ad 0, .inr (4, [.ref (ad 1), .ref (ad 4), .ref (ad 7), .ref (ad 11), .ref (ad 15), .int (iI (bZ bu))])), (ad 1, .inr (3, [.ref (ad 2), .ref (ad 3), .int (iI ((no_ : Nat) : Int))])), (ad 2, .inl (cI, 48, .inl (aI vo_))), (ad 3, .inl (cZ, 48, .inl (aB fo_))), (ad 4, .inr (3, [.ref (ad 5), .ref (ad 6), .int (iI ((nn_ : Nat) : Int))])), (ad 5, .inl (cI, 48, .inl (aI vn_))), (ad 6, .inl (cZ, 48, .inl (aB fn_))), (ad 7, .inr (1, [.ref (ad 8), .ref (ad 9), .ref (ad 10), .int (iI ((k_ : Nat) : Int))])), (ad 8, .inl (cI, 48, .inl (aN os_))), (ad 9, .inl (cI, 48, .inl (aN ns_))), (ad 10, .inl (cI, 48, .inl (aN ln_))), (ad 11, .inr (0, [.ref (ad 12), .ref (ad 13), .ref (ad 14), .int (iI ((bo_ : Nat) : Int)), .int (iI ((bn_ : Nat) : Int)), .int (iI ((bl_ : Nat) : Int))])), (ad 12, .inl (cZ, 48, .inl (aB ot_))), (ad 13, .inl (cZ, 48, .inl (aB nt_))), (ad 14, .inl (cI, 49, .inl (aN ru_))), (ad 15, .inr (2, [.ref (ad 16), .ref (ad 17), .ref (ad 18), .int (iI ((sp_ : Nat) : Int))])), (ad 16, .inl (cI, 48, .inl (aN od_))), (ad 17, .inl (cZ, 48, .inl (aB wt_))), (ad 18, .inl (cZ, 48, .inl (aB dr_)))] s_.heap := hP_
  have hD_ : va_D A_ [(ad 0, .inr (4, [.ref (ad 1), .ref (ad 4), .ref (ad 7), .ref (ad 11), .ref (ad 15), .int (iI (bZ bu))])), (ad 1, .inr (3, [.ref (ad 2), .ref (ad 3), .int (iI ((no_ : Nat) : Int))])), (ad 2, .inl (cI, 48, .inl (aI vo_))), (ad 3, .inl (cZ, 48, .inl (aB fo_))), (ad 4, .inr (3, [.ref (ad 5), .ref (ad 6), .int (iI ((nn_ : Nat) : Int))])), (ad 5, .inl (cI, 48, .inl (aI vn_))), (ad 6, .inl (cZ, 48, .inl (aB fn_))), (ad 7, .inr (1, [.ref (ad 8), .ref (ad 9), .ref (ad 10), .int (iI ((k_ : Nat) : Int))])), (ad 8, .inl (cI, 48, .inl (aN os_))), (ad 9, .inl (cI, 48, .inl (aN ns_))), (ad 10, .inl (cI, 48, .inl (aN ln_))), (ad 11, .inr (0, [.ref (ad 12), .ref (ad 13), .ref (ad 14), .int (iI ((bo_ : Nat) : Int)), .int (iI ((bn_ : Nat) : Int)), .int (iI ((bl_ : Nat) : Int))])), (ad 12, .inl (cZ, 48, .inl (aB ot_))), (ad 13, .inl (cZ, 48, .inl (aB nt_))), (ad 14, .inl (cI, 49, .inl (aN ru_))), (ad 15, .inr (2, [.ref (ad 16), .ref (ad 17), .ref (ad 18), .int (iI ((sp_ : Nat) : Int))])), (ad 16, .inl (cI, 48, .inl (aN od_))), (ad 17, .inl (cZ, 48, .inl (aB wt_))), (ad 18, .inl (cZ, 48, .inl (aB dr_)))] := hD_
  generalize hQe : MQ below (va_Qi (S := Bool × Nat × (Nat → Nat) × (Nat → Nat) × (Nat → Nat) × (Nat → Bool) × (Nat → Bool) × (Nat → Nat) × Nat × Nat × Nat × (Nat → Nat) × (Nat → Bool) × (Nat → Bool) × Nat) (fun r1_ u1 => r1_ = iI ((fun u_ => bdR u_.2.1 x_) u1) ∧ (fun u_ => (¬ (1 ≤ x_ ∧ x_ ≤ 16) → u_ = (bu, k_, os_, ns_, ln_, ot_, nt_, ru_, bo_, bn_, bl_, od_, wt_, dr_, sp_)) ∧ ((1 ≤ x_ ∧ x_ ≤ 16) → u_.1 = true ∧ BdP no_ nn_ (mtc vo_ vn_ fo_ fn_) x_.toNat u_.2.1 u_.2.2.1 u_.2.2.2.1 u_.2.2.2.2.1 u_.2.2.2.2.2.2.2.2.2.2.2.2.1 u_.2.2.2.2.2.2.2.2.2.2.2.2.2.1 u_.2.2.2.2.2.2.2.2.2.2.2.1 u_.2.2.2.2.2.2.2.2.2.2.2.2.2.2)) u1) (fun u1 t1 => va_P G_ vwCl ((fun u_ => wRP cI cZ ad u_.1 no_ vo_ fo_ nn_ vn_ fn_ u_.2.1 u_.2.2.1 u_.2.2.2.1 u_.2.2.2.2.1 u_.2.2.2.2.2.1 u_.2.2.2.2.2.2.1 u_.2.2.2.2.2.2.2.1 u_.2.2.2.2.2.2.2.2.1 u_.2.2.2.2.2.2.2.2.2.1 u_.2.2.2.2.2.2.2.2.2.2.1 u_.2.2.2.2.2.2.2.2.2.2.2.1 u_.2.2.2.2.2.2.2.2.2.2.2.2.1 u_.2.2.2.2.2.2.2.2.2.2.2.2.2.1 u_.2.2.2.2.2.2.2.2.2.2.2.2.2.2) u1) t1.heap) A_) args s_ 0 0 A_ = Q_
  rw [show entryFrame m_ args 2 = entryFrame m_ ([.ref (ad 0), .int (iI (x_))] : List Value).toArray 2 from by rw [hargs], lg_entry_eq]
  have hl_ := lv_entry ([.ref (ad 0), .int (iI (x_))]) (n := 2) (Nat.le_of_ble_eq_true rfl)
  generalize (lg_sl ([.ref (ad 0), .int (iI (x_))]) ++ List.replicate (2 - (lg_sl ([.ref (ad 0), .int (iI (x_))])).length) Slot.unset).toArray = ls_ at hl_ ⊢
  have hl_ : lv_has ls_ 2 [(0, .ref (ad 0)), (1, .int (iI (x_)))] := hl_
  refine lv_iload_n hx_ hb_ dX4_build_0 rfl (lv_at hl_ 1 rfl) ?_
  refine lv_iconst (v := iI ((1 : Nat) : Int)) hx_ hb_ dX4_build_1 rfl ?_
  refine q_icmp_lt (tgt := 11) hx_ hb_ dX4_build_2 (by decide) (⟨by omega, by omega⟩) (⟨by decide, by decide⟩) (fun c2_ => ?_) (fun c2_ => ?_)
  · skip
    refine lv_sipush (v := iI (-10001)) hx_ hb_ dX4_build_11 rfl ?_
    rw [← hQe]
    exact W.iret hx_ hb_ hr (fun tt1 htt1 hWW1 => ⟨⟨_, (bu, k_, os_, ns_, ln_, ot_, nt_, ru_, bo_, bn_, bl_, od_, wt_, dr_, sp_), rfl, ⟨congrArg iI (by show _ = bdR k_ x_; unfold bdR; rw [if_neg (by omega)]), ⟨fun _ => rfl, fun h0_ => absurd h0_ (by omega)⟩⟩, by show va_P G_ vwCl _ tt1.heap; rw [htt1]; exact hP_⟩, hS_.F htt1⟩) hS_.2.2 dX4_build_14
  · skip
    refine lv_iload_n hx_ hb_ dX4_build_5 rfl (lv_at hl_ 1 rfl) ?_
    refine lv_bipush (v := iI ((16 : Nat) : Int)) hx_ hb_ dX4_build_6 rfl ?_
    refine q_icmp_le (tgt := 15) hx_ hb_ dX4_build_8 (by decide) (⟨by omega, by omega⟩) (⟨by decide, by decide⟩) (fun c8_ => ?_) (fun c8_ => ?_)
    · skip
      refine lv_aload_n hx_ hb_ dX4_build_15 rfl (lv_at hl_ 0 rfl) ?_
      refine va_get (D := G_) (ci := 4) (v := .ref (ad 11)) (C := RX4) (T := TX4) (N := 6) hx_ hb_ hts hi4_ hown hK_ hP_ 0 rfl rfl 3 (by decide) hf29_ (fun _ h9 => h9) rfl dX4_build_16 ?_
      refine lv_aload_n hx_ hb_ dX4_build_19 rfl (lv_at hl_ 0 rfl) ?_
      refine va_get (D := G_) (ci := 4) (v := .ref (ad 1)) (C := RX4) (T := TX4) (N := 6) hx_ hb_ hts hi4_ hown hK_ hP_ 0 rfl rfl 0 (by decide) hf10_ (fun _ h9 => h9) rfl dX4_build_20 ?_
      refine lv_aload_n hx_ hb_ dX4_build_23 rfl (lv_at hl_ 0 rfl) ?_
      refine va_get (D := G_) (ci := 4) (v := .ref (ad 4)) (C := RX4) (T := TX4) (N := 6) hx_ hb_ hts hi4_ hown hK_ hP_ 0 rfl rfl 1 (by decide) hf16_ (fun _ h9 => h9) rfl dX4_build_24 ?_
      refine lv_aload_n hx_ hb_ dX4_build_27 rfl (lv_at hl_ 0 rfl) ?_
      refine va_get (D := G_) (ci := 4) (v := .ref (ad 7)) (C := RX4) (T := TX4) (N := 6) hx_ hb_ hts hi4_ hown hK_ hP_ 0 rfl rfl 2 (by decide) hf22_ (fun _ h9 => h9) rfl dX4_build_28 ?_
      refine lv_iload_n hx_ hb_ dX4_build_31 rfl (lv_at hl_ 1 rfl) ?_
      refine q_cast (b := ((x_.toNat : Nat) : Int)) (by omega) ?_
      refine wr_V (As := [.ref (ad 1), .ref (ad 4), .ref (ad 7), .int (iI ((x_.toNat : Nat) : Int))]) (rest := []) (wr := [(ad 0, .inr (4, [.ref (ad 1), .ref (ad 4), .ref (ad 7), .ref (ad 11), .ref (ad 15), .int (iI (bZ bu))])), (ad 15, .inr (2, [.ref (ad 16), .ref (ad 17), .ref (ad 18), .int (iI ((sp_ : Nat) : Int))])), (ad 16, .inl (cI, 48, .inl (aN od_))), (ad 17, .inl (cZ, 48, .inl (aB wt_))), (ad 18, .inl (cZ, 48, .inl (aB dr_)))]) (wn := fun u_ => [(ad 0, .inr (4, [.ref (ad 1), .ref (ad 4), .ref (ad 7), .ref (ad 11), .ref (ad 15), .int (iI (bZ bu))])), (ad 1, .inr (3, [.ref (ad 2), .ref (ad 3), .int (iI ((no_ : Nat) : Int))])), (ad 2, .inl (cI, 48, .inl (aI vo_))), (ad 3, .inl (cZ, 48, .inl (aB fo_))), (ad 4, .inr (3, [.ref (ad 5), .ref (ad 6), .int (iI ((nn_ : Nat) : Int))])), (ad 5, .inl (cI, 48, .inl (aI vn_))), (ad 6, .inl (cZ, 48, .inl (aB fn_))), (ad 7, .inr (1, [.ref (ad 8), .ref (ad 9), .ref (ad 10), .int (iI ((u_.2.2.2.2.2.2.1 : Nat) : Int))])), (ad 8, .inl (cI, 48, .inl (aN u_.2.2.2.2.2.2.2.1))), (ad 9, .inl (cI, 48, .inl (aN u_.2.2.2.2.2.2.2.2.1))), (ad 10, .inl (cI, 48, .inl (aN u_.2.2.2.2.2.2.2.2.2))), (ad 11, .inr (0, [.ref (ad 12), .ref (ad 13), .ref (ad 14), .int (iI ((u_.2.2.2.1 : Nat) : Int)), .int (iI ((u_.2.2.2.2.1 : Nat) : Int)), .int (iI ((u_.2.2.2.2.2.1 : Nat) : Int))])), (ad 12, .inl (cZ, 48, .inl (aB u_.1))), (ad 13, .inl (cZ, 48, .inl (aB u_.2.1))), (ad 14, .inl (cI, 49, .inl (aN u_.2.2.1))), (ad 15, .inr (2, [.ref (ad 16), .ref (ad 17), .ref (ad 18), .int (iI ((sp_ : Nat) : Int))])), (ad 16, .inl (cI, 48, .inl (aN od_))), (ad 17, .inl (cZ, 48, .inl (aB wt_))), (ad 18, .inl (cZ, 48, .inl (aB dr_)))]) ⟨hx_, hb_, hml, hown, hts⟩ (c_X0_align l_ G_ cI cZ (ad 11) (ad 12) (ad 13) (ad 14) ot_ nt_ ru_ bo_ bn_ bl_ (ad 1) (ad 2) (ad 3) no_ vo_ fo_ (ad 4) (ad 5) (ad 6) nn_ vn_ fn_ (ad 7) (ad 8) (ad 9) (ad 10) k_ os_ ns_ ln_ x_.toNat (by omega) (by omega) hvo hvn (by omega) (by omega) s_.heap.size) (cwV 4 hts gX4_build_X0_align rfl rfl rfl (by decide +kernel) ⟨Nat.le_of_ble_eq_true rfl, Nat.le_of_ble_eq_true rfl⟩) hP_ hK_ hD_ hS_ hA_ [11, 12, 13, 14, 1, 2, 3, 4, 5, 6, 7, 8, 9, 10] [0, 15, 16, 17, 18] [0, 9, 10, 11, 12, 13, 14, 15, 16, 17, 18, 5, 6, 7, 8, 1, 2, 3, 4] rfl rfl (by decide) (fun _ => rfl) (fun _ => rfl) 0 rfl rfl rfl hl_.1 rfl (Nat.le_of_ble_eq_true rfl) dX4_build_32 ⟨Nat.zero_le _, Nat.zero_le _⟩ (fun u_ H_ locs hu32 hP_ hD_ hS_ => ?_)
      obtain ⟨ot_32, nt_32, ru_32, bo_32, bn_32, bl_32, k_32, os_32, ns_32, ln_32⟩ := u_
      try dsimp only at hu32
      have hP_ : va_P G_ vwCl [(ad 0, .inr (4, [.ref (ad 1), .ref (ad 4), .ref (ad 7), .ref (ad 11), .ref (ad 15), .int (iI (bZ bu))])), (ad 1, .inr (3, [.ref (ad 2), .ref (ad 3), .int (iI ((no_ : Nat) : Int))])), (ad 2, .inl (cI, 48, .inl (aI vo_))), (ad 3, .inl (cZ, 48, .inl (aB fo_))), (ad 4, .inr (3, [.ref (ad 5), .ref (ad 6), .int (iI ((nn_ : Nat) : Int))])), (ad 5, .inl (cI, 48, .inl (aI vn_))), (ad 6, .inl (cZ, 48, .inl (aB fn_))), (ad 7, .inr (1, [.ref (ad 8), .ref (ad 9), .ref (ad 10), .int (iI ((k_32 : Nat) : Int))])), (ad 8, .inl (cI, 48, .inl (aN os_32))), (ad 9, .inl (cI, 48, .inl (aN ns_32))), (ad 10, .inl (cI, 48, .inl (aN ln_32))), (ad 11, .inr (0, [.ref (ad 12), .ref (ad 13), .ref (ad 14), .int (iI ((bo_32 : Nat) : Int)), .int (iI ((bn_32 : Nat) : Int)), .int (iI ((bl_32 : Nat) : Int))])), (ad 12, .inl (cZ, 48, .inl (aB ot_32))), (ad 13, .inl (cZ, 48, .inl (aB nt_32))), (ad 14, .inl (cI, 49, .inl (aN ru_32))), (ad 15, .inr (2, [.ref (ad 16), .ref (ad 17), .ref (ad 18), .int (iI ((sp_ : Nat) : Int))])), (ad 16, .inl (cI, 48, .inl (aN od_))), (ad 17, .inl (cZ, 48, .inl (aB wt_))), (ad 18, .inl (cZ, 48, .inl (aB dr_)))] H_ := hP_
      have hD_ : va_D A_ [(ad 0, .inr (4, [.ref (ad 1), .ref (ad 4), .ref (ad 7), .ref (ad 11), .ref (ad 15), .int (iI (bZ bu))])), (ad 1, .inr (3, [.ref (ad 2), .ref (ad 3), .int (iI ((no_ : Nat) : Int))])), (ad 2, .inl (cI, 48, .inl (aI vo_))), (ad 3, .inl (cZ, 48, .inl (aB fo_))), (ad 4, .inr (3, [.ref (ad 5), .ref (ad 6), .int (iI ((nn_ : Nat) : Int))])), (ad 5, .inl (cI, 48, .inl (aI vn_))), (ad 6, .inl (cZ, 48, .inl (aB fn_))), (ad 7, .inr (1, [.ref (ad 8), .ref (ad 9), .ref (ad 10), .int (iI ((k_32 : Nat) : Int))])), (ad 8, .inl (cI, 48, .inl (aN os_32))), (ad 9, .inl (cI, 48, .inl (aN ns_32))), (ad 10, .inl (cI, 48, .inl (aN ln_32))), (ad 11, .inr (0, [.ref (ad 12), .ref (ad 13), .ref (ad 14), .int (iI ((bo_32 : Nat) : Int)), .int (iI ((bn_32 : Nat) : Int)), .int (iI ((bl_32 : Nat) : Int))])), (ad 12, .inl (cZ, 48, .inl (aB ot_32))), (ad 13, .inl (cZ, 48, .inl (aB nt_32))), (ad 14, .inl (cI, 49, .inl (aN ru_32))), (ad 15, .inr (2, [.ref (ad 16), .ref (ad 17), .ref (ad 18), .int (iI ((sp_ : Nat) : Int))])), (ad 16, .inl (cI, 48, .inl (aN od_))), (ad 17, .inl (cZ, 48, .inl (aB wt_))), (ad 18, .inl (cZ, 48, .inl (aB dr_)))] := hD_
      have hk9 : k_32 ≤ 48 := hu32.1
      obtain ⟨bs, hc1, hc2, hc3⟩ := hu32.2
      have hge := Chn_geo (show 1 ≤ x_.toNat by omega) hc1
      have hB_ := SE_B48 hge hc3 hno hnn
      refine lv_aload_n hx_ hb_ dX4_build_35 rfl (lv_at hl_ 0 rfl) ?_
      refine va_get (D := G_) (ci := 4) (v := .ref (ad 15)) (C := RX4) (T := TX4) (N := 6) hx_ hb_ hts hi4_ hown hK_ hP_ 0 rfl rfl 4 (by decide) hf36_ (fun _ h9 => h9) rfl dX4_build_36 ?_
      refine lv_aload_n hx_ hb_ dX4_build_39 rfl (lv_at hl_ 0 rfl) ?_
      refine va_get (D := G_) (ci := 4) (v := .ref (ad 7)) (C := RX4) (T := TX4) (N := 6) hx_ hb_ hts hi4_ hown hK_ hP_ 0 rfl rfl 2 (by decide) hf22_ (fun _ h9 => h9) rfl dX4_build_40 ?_
      refine wr_V (As := [.ref (ad 7)]) (rest := []) (wr := [(ad 0, .inr (4, [.ref (ad 1), .ref (ad 4), .ref (ad 7), .ref (ad 11), .ref (ad 15), .int (iI (bZ bu))])), (ad 1, .inr (3, [.ref (ad 2), .ref (ad 3), .int (iI ((no_ : Nat) : Int))])), (ad 2, .inl (cI, 48, .inl (aI vo_))), (ad 3, .inl (cZ, 48, .inl (aB fo_))), (ad 4, .inr (3, [.ref (ad 5), .ref (ad 6), .int (iI ((nn_ : Nat) : Int))])), (ad 5, .inl (cI, 48, .inl (aI vn_))), (ad 6, .inl (cZ, 48, .inl (aB fn_))), (ad 11, .inr (0, [.ref (ad 12), .ref (ad 13), .ref (ad 14), .int (iI ((bo_32 : Nat) : Int)), .int (iI ((bn_32 : Nat) : Int)), .int (iI ((bl_32 : Nat) : Int))])), (ad 12, .inl (cZ, 48, .inl (aB ot_32))), (ad 13, .inl (cZ, 48, .inl (aB nt_32))), (ad 14, .inl (cI, 49, .inl (aN ru_32)))]) (wn := fun u_ => [(ad 0, .inr (4, [.ref (ad 1), .ref (ad 4), .ref (ad 7), .ref (ad 11), .ref (ad 15), .int (iI (bZ bu))])), (ad 1, .inr (3, [.ref (ad 2), .ref (ad 3), .int (iI ((no_ : Nat) : Int))])), (ad 2, .inl (cI, 48, .inl (aI vo_))), (ad 3, .inl (cZ, 48, .inl (aB fo_))), (ad 4, .inr (3, [.ref (ad 5), .ref (ad 6), .int (iI ((nn_ : Nat) : Int))])), (ad 5, .inl (cI, 48, .inl (aI vn_))), (ad 6, .inl (cZ, 48, .inl (aB fn_))), (ad 7, .inr (1, [.ref (ad 8), .ref (ad 9), .ref (ad 10), .int (iI ((k_32 : Nat) : Int))])), (ad 8, .inl (cI, 48, .inl (aN os_32))), (ad 9, .inl (cI, 48, .inl (aN ns_32))), (ad 10, .inl (cI, 48, .inl (aN ln_32))), (ad 11, .inr (0, [.ref (ad 12), .ref (ad 13), .ref (ad 14), .int (iI ((bo_32 : Nat) : Int)), .int (iI ((bn_32 : Nat) : Int)), .int (iI ((bl_32 : Nat) : Int))])), (ad 12, .inl (cZ, 48, .inl (aB ot_32))), (ad 13, .inl (cZ, 48, .inl (aB nt_32))), (ad 14, .inl (cI, 49, .inl (aN ru_32))), (ad 15, .inr (2, [.ref (ad 16), .ref (ad 17), .ref (ad 18), .int (iI ((u_.2.2.2 : Nat) : Int))])), (ad 16, .inl (cI, 48, .inl (aN u_.1))), (ad 17, .inl (cZ, 48, .inl (aB u_.2.1))), (ad 18, .inl (cZ, 48, .inl (aB u_.2.2.1)))]) ⟨hx_, hb_, hml, hown, hts⟩ (c_X2_arrange l_ G_ cI cZ (ad 15) (ad 16) (ad 17) (ad 18) od_ wt_ dr_ sp_ (ad 7) (ad 8) (ad 9) (ad 10) k_32 os_32 ns_32 ln_32 (by omega) (hB_) H_.size) (cwV 1 hts gX4_build_X2_arrange rfl rfl rfl (by decide +kernel) ⟨Nat.le_of_ble_eq_true rfl, Nat.le_of_ble_eq_true rfl⟩) hP_ hK_ hD_ hS_ hA_ [15, 16, 17, 18, 7, 8, 9, 10] [0, 1, 2, 3, 4, 5, 6, 11, 12, 13, 14] [0, 1, 2, 3, 4, 5, 6, 15, 16, 17, 18, 7, 8, 9, 10, 11, 12, 13, 14] rfl rfl (by decide) (fun _ => rfl) (fun _ => rfl) 0 rfl rfl rfl hl_.1 rfl (Nat.le_of_ble_eq_true rfl) dX4_build_43 ⟨Nat.zero_le _, Nat.zero_le _⟩ (fun u_ H_ locs hu43 hP_ hD_ hS_ => ?_)
      obtain ⟨od_43, wt_43, dr_43, sp_43⟩ := u_
      try dsimp only at hu43
      have hP_ : va_P G_ vwCl [(ad 0, .inr (4, [.ref (ad 1), .ref (ad 4), .ref (ad 7), .ref (ad 11), .ref (ad 15), .int (iI (bZ bu))])), (ad 1, .inr (3, [.ref (ad 2), .ref (ad 3), .int (iI ((no_ : Nat) : Int))])), (ad 2, .inl (cI, 48, .inl (aI vo_))), (ad 3, .inl (cZ, 48, .inl (aB fo_))), (ad 4, .inr (3, [.ref (ad 5), .ref (ad 6), .int (iI ((nn_ : Nat) : Int))])), (ad 5, .inl (cI, 48, .inl (aI vn_))), (ad 6, .inl (cZ, 48, .inl (aB fn_))), (ad 7, .inr (1, [.ref (ad 8), .ref (ad 9), .ref (ad 10), .int (iI ((k_32 : Nat) : Int))])), (ad 8, .inl (cI, 48, .inl (aN os_32))), (ad 9, .inl (cI, 48, .inl (aN ns_32))), (ad 10, .inl (cI, 48, .inl (aN ln_32))), (ad 11, .inr (0, [.ref (ad 12), .ref (ad 13), .ref (ad 14), .int (iI ((bo_32 : Nat) : Int)), .int (iI ((bn_32 : Nat) : Int)), .int (iI ((bl_32 : Nat) : Int))])), (ad 12, .inl (cZ, 48, .inl (aB ot_32))), (ad 13, .inl (cZ, 48, .inl (aB nt_32))), (ad 14, .inl (cI, 49, .inl (aN ru_32))), (ad 15, .inr (2, [.ref (ad 16), .ref (ad 17), .ref (ad 18), .int (iI ((sp_43 : Nat) : Int))])), (ad 16, .inl (cI, 48, .inl (aN od_43))), (ad 17, .inl (cZ, 48, .inl (aB wt_43))), (ad 18, .inl (cZ, 48, .inl (aB dr_43)))] H_ := hP_
      have hD_ : va_D A_ [(ad 0, .inr (4, [.ref (ad 1), .ref (ad 4), .ref (ad 7), .ref (ad 11), .ref (ad 15), .int (iI (bZ bu))])), (ad 1, .inr (3, [.ref (ad 2), .ref (ad 3), .int (iI ((no_ : Nat) : Int))])), (ad 2, .inl (cI, 48, .inl (aI vo_))), (ad 3, .inl (cZ, 48, .inl (aB fo_))), (ad 4, .inr (3, [.ref (ad 5), .ref (ad 6), .int (iI ((nn_ : Nat) : Int))])), (ad 5, .inl (cI, 48, .inl (aI vn_))), (ad 6, .inl (cZ, 48, .inl (aB fn_))), (ad 7, .inr (1, [.ref (ad 8), .ref (ad 9), .ref (ad 10), .int (iI ((k_32 : Nat) : Int))])), (ad 8, .inl (cI, 48, .inl (aN os_32))), (ad 9, .inl (cI, 48, .inl (aN ns_32))), (ad 10, .inl (cI, 48, .inl (aN ln_32))), (ad 11, .inr (0, [.ref (ad 12), .ref (ad 13), .ref (ad 14), .int (iI ((bo_32 : Nat) : Int)), .int (iI ((bn_32 : Nat) : Int)), .int (iI ((bl_32 : Nat) : Int))])), (ad 12, .inl (cZ, 48, .inl (aB ot_32))), (ad 13, .inl (cZ, 48, .inl (aB nt_32))), (ad 14, .inl (cI, 49, .inl (aN ru_32))), (ad 15, .inr (2, [.ref (ad 16), .ref (ad 17), .ref (ad 18), .int (iI ((sp_43 : Nat) : Int))])), (ad 16, .inl (cI, 48, .inl (aN od_43))), (ad 17, .inl (cZ, 48, .inl (aB wt_43))), (ad 18, .inl (cZ, 48, .inl (aB dr_43)))] := hD_
      refine lv_aload_n hx_ hb_ dX4_build_46 rfl (lv_at hl_ 0 rfl) ?_
      refine lv_iconst (v := iI ((1 : Nat) : Int)) hx_ hb_ dX4_build_47 rfl ?_
      refine q_cast (b := bZ true) rfl ?_
      refine va_put (D := G_) (ci := 4) (v := .int (iI (bZ true))) (ty := .boolean) (C := RX4) (T := TX4) (N := 6) hx_ hb_ hts hi4_ tyX4 tyX4_ok nmX4 hown hK_ hP_ hD_ hS_ 0 rfl rfl 5 (by decide) hf40_ (fun _ h9 => h9) rfl (by decide +kernel) (nar_bZ _) (fit_bZ _) (Nat.le_of_ble_eq_true rfl) dX4_build_48 (fun H_ locs hP_ hD_ hS_ => ?_)
      have hP_ : va_P G_ vwCl [(ad 0, .inr (4, [.ref (ad 1), .ref (ad 4), .ref (ad 7), .ref (ad 11), .ref (ad 15), .int (iI (bZ true))])), (ad 1, .inr (3, [.ref (ad 2), .ref (ad 3), .int (iI ((no_ : Nat) : Int))])), (ad 2, .inl (cI, 48, .inl (aI vo_))), (ad 3, .inl (cZ, 48, .inl (aB fo_))), (ad 4, .inr (3, [.ref (ad 5), .ref (ad 6), .int (iI ((nn_ : Nat) : Int))])), (ad 5, .inl (cI, 48, .inl (aI vn_))), (ad 6, .inl (cZ, 48, .inl (aB fn_))), (ad 7, .inr (1, [.ref (ad 8), .ref (ad 9), .ref (ad 10), .int (iI ((k_32 : Nat) : Int))])), (ad 8, .inl (cI, 48, .inl (aN os_32))), (ad 9, .inl (cI, 48, .inl (aN ns_32))), (ad 10, .inl (cI, 48, .inl (aN ln_32))), (ad 11, .inr (0, [.ref (ad 12), .ref (ad 13), .ref (ad 14), .int (iI ((bo_32 : Nat) : Int)), .int (iI ((bn_32 : Nat) : Int)), .int (iI ((bl_32 : Nat) : Int))])), (ad 12, .inl (cZ, 48, .inl (aB ot_32))), (ad 13, .inl (cZ, 48, .inl (aB nt_32))), (ad 14, .inl (cI, 49, .inl (aN ru_32))), (ad 15, .inr (2, [.ref (ad 16), .ref (ad 17), .ref (ad 18), .int (iI ((sp_43 : Nat) : Int))])), (ad 16, .inl (cI, 48, .inl (aN od_43))), (ad 17, .inl (cZ, 48, .inl (aB wt_43))), (ad 18, .inl (cZ, 48, .inl (aB dr_43)))] H_ := hP_
      have hD_ : va_D A_ [(ad 0, .inr (4, [.ref (ad 1), .ref (ad 4), .ref (ad 7), .ref (ad 11), .ref (ad 15), .int (iI (bZ true))])), (ad 1, .inr (3, [.ref (ad 2), .ref (ad 3), .int (iI ((no_ : Nat) : Int))])), (ad 2, .inl (cI, 48, .inl (aI vo_))), (ad 3, .inl (cZ, 48, .inl (aB fo_))), (ad 4, .inr (3, [.ref (ad 5), .ref (ad 6), .int (iI ((nn_ : Nat) : Int))])), (ad 5, .inl (cI, 48, .inl (aI vn_))), (ad 6, .inl (cZ, 48, .inl (aB fn_))), (ad 7, .inr (1, [.ref (ad 8), .ref (ad 9), .ref (ad 10), .int (iI ((k_32 : Nat) : Int))])), (ad 8, .inl (cI, 48, .inl (aN os_32))), (ad 9, .inl (cI, 48, .inl (aN ns_32))), (ad 10, .inl (cI, 48, .inl (aN ln_32))), (ad 11, .inr (0, [.ref (ad 12), .ref (ad 13), .ref (ad 14), .int (iI ((bo_32 : Nat) : Int)), .int (iI ((bn_32 : Nat) : Int)), .int (iI ((bl_32 : Nat) : Int))])), (ad 12, .inl (cZ, 48, .inl (aB ot_32))), (ad 13, .inl (cZ, 48, .inl (aB nt_32))), (ad 14, .inl (cI, 49, .inl (aN ru_32))), (ad 15, .inr (2, [.ref (ad 16), .ref (ad 17), .ref (ad 18), .int (iI ((sp_43 : Nat) : Int))])), (ad 16, .inl (cI, 48, .inl (aN od_43))), (ad 17, .inl (cZ, 48, .inl (aB wt_43))), (ad 18, .inl (cZ, 48, .inl (aB dr_43)))] := hD_
      refine lv_aload_n hx_ hb_ dX4_build_51 rfl (lv_at hl_ 0 rfl) ?_
      refine va_get (D := G_) (ci := 4) (v := .ref (ad 7)) (C := RX4) (T := TX4) (N := 6) hx_ hb_ hts hi4_ hown hK_ hP_ 0 rfl rfl 2 (by decide) hf22_ (fun _ h9 => h9) rfl dX4_build_52 ?_
      refine ro_V (As := []) (rest := []) ⟨hx_, hb_, hml, hown, hts⟩ (c_X1_size l_ G_ cI cZ (ad 7) (ad 8) (ad 9) (ad 10) k_32 os_32 ns_32 ln_32) (cwV 0 hts gX4_build_X1_size rfl rfl rfl (by decide +kernel) ⟨Nat.le_of_ble_eq_true rfl, Nat.le_of_ble_eq_true rfl⟩) (hP_.sub (ws' := [(ad 7, .inr (1, [.ref (ad 8), .ref (ad 9), .ref (ad 10), .int (iI ((k_32 : Nat) : Int))])), (ad 8, .inl (cI, 48, .inl (aN os_32))), (ad 9, .inl (cI, 48, .inl (aN ns_32))), (ad 10, .inl (cI, 48, .inl (aN ln_32)))]) [7, 8, 9, 10] rfl) hK_ 0 rfl rfl rfl hl_.1 rfl (Nat.le_of_ble_eq_true rfl) dX4_build_55 ⟨Nat.zero_le _, Nat.zero_le _⟩ ?_
      rw [← hQe]
      exact W.iret hx_ hb_ hr (fun tt1 htt1 hWW1 => ⟨⟨_, (true, k_32, os_32, ns_32, ln_32, ot_32, nt_32, ru_32, bo_32, bn_32, bl_32, od_43, wt_43, dr_43, sp_43), rfl, ⟨congrArg iI (by show _ = bdR k_32 x_; unfold bdR; rw [if_pos (by omega)]), ⟨fun h0_ => absurd (show 1 ≤ x_ ∧ x_ ≤ 16 by omega) h0_, fun _ => ⟨rfl, hu32.1, hu32.2, hu43⟩⟩⟩, by show va_P G_ vwCl _ tt1.heap; rw [htt1]; exact hP_⟩, hS_.F htt1⟩) hS_.2.2 dX4_build_58
    · skip
      refine lv_sipush (v := iI (-10001)) hx_ hb_ dX4_build_11 rfl ?_
      rw [← hQe]
      exact W.iret hx_ hb_ hr (fun tt1 htt1 hWW1 => ⟨⟨_, (bu, k_, os_, ns_, ln_, ot_, nt_, ru_, bo_, bn_, bl_, od_, wt_, dr_, sp_), rfl, ⟨congrArg iI (by show _ = bdR k_ x_; unfold bdR; rw [if_neg (by omega)]), ⟨fun _ => rfl, fun h0_ => absurd h0_ (by omega)⟩⟩, by show va_P G_ vwCl _ tt1.heap; rw [htt1]; exact hP_⟩, hS_.F htt1⟩) hS_.2.2 dX4_build_14

set_option maxHeartbeats 4000000 in
set_option maxRecDepth 100000 in
/-- blockOldStart -/
theorem c_X4_blockOldStart (l_ : Launch) (G_ : va_G) (cI cZ : ClassId) (ad : Nat → Nat) (bu : Bool) (no_ : Nat) (vo_ : Nat → Int) (fo_ : Nat → Bool) (nn_ : Nat) (vn_ : Nat → Int) (fn_ : Nat → Bool) (k_ : Nat) (os_ ns_ ln_ : Nat → Nat) (ot_ nt_ : Nat → Bool) (ru_ : Nat → Nat) (bo_ bn_ bl_ : Nat) (od_ : Nat → Nat) (wt_ dr_ : Nat → Bool) (sp_ : Nat) (x_ : Int) (hno : no_ ≤ 48) (hnn : nn_ ≤ 48) (hvo : ∀ j_, 0 ≤ vo_ j_ ∧ vo_ j_ ≤ 9999) (hvn : ∀ j_, 0 ≤ vn_ j_ ∧ vn_ j_ ≤ 9999) (hbu : bu = true → k_ ≤ 48 ∧ B48 k_ os_ ns_ ln_ ∧ Gd no_ nn_ k_ os_ ns_ ln_ ∧ CoR k_ os_ ns_ ln_ k_ wt_ dr_ od_ sp_) (hx1 : -2147483648 ≤ x_) (hx2 : x_ < 2147483648) : Ro l_ yX4_blockOldStart wsX4_blockOldStart ({ frames := 2, cells := 0, slots := 0, locals := 42 }) G_ cI cZ [.ref (ad 0), .int (iI (x_))] (wRP cI cZ ad bu no_ vo_ fo_ nn_ vn_ fn_ k_ os_ ns_ ln_ ot_ nt_ ru_ bo_ bn_ bl_ od_ wt_ dr_ sp_) (A_ofb bu k_ os_ x_) := by
  refine Met.ofW (cc := cX4_blockOldStart) (maxL := 3) (ret := (some .int)) (by decide) rfl ?_
  intro p_ e_ s_ m_ args below meth c_ s₁ B hml hv
  obtain ⟨hargs, hP_, hK_⟩ := hv
  have hx_ := B.exec
  have hb_ := B.bytes
  have hr := B.returns
  have hts := atoms_spec (ws := wsX4_blockOldStart) B.pre
  have hown : s_.vm.findClass RX4 = some m_.cls := findClass_of_methodNamed B.named
  have hlocks := B.notSynchronized
  have hi4_ : ∀ w_ ∈ wsX40, w_ ∈ wsX4_blockOldStart := by decide +kernel
  have hf22_ := hts (.fieldLink RX4 22 "RelocatingPatch" "blocks" "LRelocatingPatch$Blocks;") (by decide +kernel)
  have hP_ : va_P G_ vwCl [(ad 0, .inr (4, [.ref (ad 1), .ref (ad 4), .ref (ad 7), .ref (ad 11), .ref (ad 15), .int (iI (bZ bu))])), (ad 1, .inr (3, [.ref (ad 2), .ref (ad 3), .int (iI ((no_ : Nat) : Int))])), (ad 2, .inl (cI, 48, .inl (aI vo_))), (ad 3, .inl (cZ, 48, .inl (aB fo_))), (ad 4, .inr (3, [.ref (ad 5), .ref (ad 6), .int (iI ((nn_ : Nat) : Int))])), (ad 5, .inl (cI, 48, .inl (aI vn_))), (ad 6, .inl (cZ, 48, .inl (aB fn_))), (ad 7, .inr (1, [.ref (ad 8), .ref (ad 9), .ref (ad 10), .int (iI ((k_ : Nat) : Int))])), (ad 8, .inl (cI, 48, .inl (aN os_))), (ad 9, .inl (cI, 48, .inl (aN ns_))), (ad 10, .inl (cI, 48, .inl (aN ln_))), (ad 11, .inr (0, [.ref (ad 12), .ref (ad 13), .ref (ad 14), .int (iI ((bo_ : Nat) : Int)), .int (iI ((bn_ : Nat) : Int)), .int (iI ((bl_ : Nat) : Int))])), (ad 12, .inl (cZ, 48, .inl (aB ot_))), (ad 13, .inl (cZ, 48, .inl (aB nt_))), (ad 14, .inl (cI, 49, .inl (aN ru_))), (ad 15, .inr (2, [.ref (ad 16), .ref (ad 17), .ref (ad 18), .int (iI ((sp_ : Nat) : Int))])), (ad 16, .inl (cI, 48, .inl (aN od_))), (ad 17, .inl (cZ, 48, .inl (aB wt_))), (ad 18, .inl (cZ, 48, .inl (aB dr_)))] s_.heap := hP_
  generalize hQe : MQ below (vp_Si (fun r_ => r_ = iI (A_ofb bu k_ os_ x_))) args s_ 0 0 (fun _ => False) = Q_
  rw [show entryFrame m_ args 3 = entryFrame m_ ([.ref (ad 0), .int (iI (x_))] : List Value).toArray 3 from by rw [hargs], lg_entry_eq]
  have hl_ := lv_entry ([.ref (ad 0), .int (iI (x_))]) (n := 3) (Nat.le_of_ble_eq_true rfl)
  generalize (lg_sl ([.ref (ad 0), .int (iI (x_))]) ++ List.replicate (3 - (lg_sl ([.ref (ad 0), .int (iI (x_))])).length) Slot.unset).toArray = ls_ at hl_ ⊢
  have hl_ : lv_has ls_ 3 [(0, .ref (ad 0)), (1, .int (iI (x_)))] := hl_
  refine lv_aload_n hx_ hb_ dX4_blockOldStart_0 rfl (lv_at hl_ 0 rfl) ?_
  refine lv_iload_n hx_ hb_ dX4_blockOldStart_1 rfl (lv_at hl_ 1 rfl) ?_
  refine ro_V (As := [.int (iI (x_))]) (rest := []) ⟨hx_, hb_, hml, hown, hts⟩ (c_X4_blockError l_ G_ cI cZ ad bu no_ vo_ fo_ nn_ vn_ fn_ k_ os_ ns_ ln_ ot_ nt_ ru_ bo_ bn_ bl_ od_ wt_ dr_ sp_ (x_) (fun h_ => (hbu h_).1) (by omega) (by omega)) (cwV 1 hts gX4_blockOldStart_X4_blockError rfl rfl rfl (by decide +kernel) ⟨Nat.le_of_ble_eq_true rfl, Nat.le_of_ble_eq_true rfl⟩) (hP_.sub (ws' := [(ad 0, .inr (4, [.ref (ad 1), .ref (ad 4), .ref (ad 7), .ref (ad 11), .ref (ad 15), .int (iI (bZ bu))])), (ad 1, .inr (3, [.ref (ad 2), .ref (ad 3), .int (iI ((no_ : Nat) : Int))])), (ad 2, .inl (cI, 48, .inl (aI vo_))), (ad 3, .inl (cZ, 48, .inl (aB fo_))), (ad 4, .inr (3, [.ref (ad 5), .ref (ad 6), .int (iI ((nn_ : Nat) : Int))])), (ad 5, .inl (cI, 48, .inl (aI vn_))), (ad 6, .inl (cZ, 48, .inl (aB fn_))), (ad 7, .inr (1, [.ref (ad 8), .ref (ad 9), .ref (ad 10), .int (iI ((k_ : Nat) : Int))])), (ad 8, .inl (cI, 48, .inl (aN os_))), (ad 9, .inl (cI, 48, .inl (aN ns_))), (ad 10, .inl (cI, 48, .inl (aN ln_))), (ad 11, .inr (0, [.ref (ad 12), .ref (ad 13), .ref (ad 14), .int (iI ((bo_ : Nat) : Int)), .int (iI ((bn_ : Nat) : Int)), .int (iI ((bl_ : Nat) : Int))])), (ad 12, .inl (cZ, 48, .inl (aB ot_))), (ad 13, .inl (cZ, 48, .inl (aB nt_))), (ad 14, .inl (cI, 49, .inl (aN ru_))), (ad 15, .inr (2, [.ref (ad 16), .ref (ad 17), .ref (ad 18), .int (iI ((sp_ : Nat) : Int))])), (ad 16, .inl (cI, 48, .inl (aN od_))), (ad 17, .inl (cZ, 48, .inl (aB wt_))), (ad 18, .inl (cZ, 48, .inl (aB dr_)))]) [0, 1, 2, 3, 4, 5, 6, 7, 8, 9, 10, 11, 12, 13, 14, 15, 16, 17, 18] rfl) hK_ 0 rfl rfl rfl hl_.1 rfl (Nat.le_of_ble_eq_true rfl) dX4_blockOldStart_2 ⟨Nat.zero_le _, Nat.zero_le _⟩ ?_
  refine lv_istore_n (lv' := [(2, .int (iI (eR bu k_ (x_)))), (0, .ref (ad 0)), (1, .int (iI (x_)))]) hx_ hb_ dX4_blockOldStart_5 rfl hl_ (by decide) rfl (fun ls_ hl_ => ?_)
  refine lv_iload_n hx_ hb_ dX4_blockOldStart_6 rfl (lv_at hl_ 0 rfl) ?_
  refine q_if_eq (tgt := 14) hx_ hb_ dX4_blockOldStart_7 (by decide) (eR_R _ _ _) (fun c7_ => ?_) (fun c7_ => ?_)
  · skip
    obtain ⟨hb0, hx3, hx4⟩ := eR_0 c7_
    obtain ⟨hk_, hB_, hgd, hco⟩ := hbu hb0
    refine lv_aload_n hx_ hb_ dX4_blockOldStart_14 rfl (lv_at hl_ 1 rfl) ?_
    refine va_get (D := G_) (ci := 4) (v := .ref (ad 7)) (C := RX4) (T := TX4) (N := 6) hx_ hb_ hts hi4_ hown hK_ hP_ 0 rfl rfl 2 (by decide) hf22_ (fun _ h9 => h9) rfl dX4_blockOldStart_15 ?_
    refine lv_iload_n hx_ hb_ dX4_blockOldStart_18 rfl (lv_at hl_ 2 rfl) ?_
    refine q_cast (b := ((x_.toNat : Nat) : Int)) (by omega) ?_
    refine ro_V (As := [.int (iI ((x_.toNat : Nat) : Int))]) (rest := []) ⟨hx_, hb_, hml, hown, hts⟩ (c_X1_oldStart l_ G_ cI cZ (ad 7) (ad 8) (ad 9) (ad 10) k_ os_ ns_ ln_ x_.toNat (by omega) (by omega)) (cwV 1 hts gX4_blockOldStart_X1_oldStart rfl rfl rfl (by decide +kernel) ⟨Nat.le_of_ble_eq_true rfl, Nat.le_of_ble_eq_true rfl⟩) (hP_.sub (ws' := [(ad 7, .inr (1, [.ref (ad 8), .ref (ad 9), .ref (ad 10), .int (iI ((k_ : Nat) : Int))])), (ad 8, .inl (cI, 48, .inl (aN os_))), (ad 9, .inl (cI, 48, .inl (aN ns_))), (ad 10, .inl (cI, 48, .inl (aN ln_)))]) [7, 8, 9, 10] rfl) hK_ 0 rfl rfl rfl hl_.1 rfl (Nat.le_of_ble_eq_true rfl) dX4_blockOldStart_19 ⟨Nat.zero_le _, Nat.zero_le _⟩ ?_
    rw [← hQe]
    exact W.iret hx_ hb_ hr (fun tt1 htt1 hWW1 => ⟨_, rfl, congrArg iI (if2 hb0 ⟨hx3, hx4⟩), htt1⟩) (fun q_ h_ => absurd h_ List.not_mem_nil) dX4_blockOldStart_22
  · skip
    refine lv_iload_n hx_ hb_ dX4_blockOldStart_10 rfl (lv_at hl_ 0 rfl) ?_
    refine lv_goto (tgt := 22) hx_ hb_ dX4_blockOldStart_11 (by decide) ?_
    rw [← hQe]
    exact W.iret hx_ hb_ hr (fun tt1 htt1 hWW1 => ⟨_, rfl, congrArg iI (eR_ne _ c7_), htt1⟩) (fun q_ h_ => absurd h_ List.not_mem_nil) dX4_blockOldStart_22

set_option maxHeartbeats 4000000 in
set_option maxRecDepth 100000 in
/-- blockNewStart -/
theorem c_X4_blockNewStart (l_ : Launch) (G_ : va_G) (cI cZ : ClassId) (ad : Nat → Nat) (bu : Bool) (no_ : Nat) (vo_ : Nat → Int) (fo_ : Nat → Bool) (nn_ : Nat) (vn_ : Nat → Int) (fn_ : Nat → Bool) (k_ : Nat) (os_ ns_ ln_ : Nat → Nat) (ot_ nt_ : Nat → Bool) (ru_ : Nat → Nat) (bo_ bn_ bl_ : Nat) (od_ : Nat → Nat) (wt_ dr_ : Nat → Bool) (sp_ : Nat) (x_ : Int) (hno : no_ ≤ 48) (hnn : nn_ ≤ 48) (hvo : ∀ j_, 0 ≤ vo_ j_ ∧ vo_ j_ ≤ 9999) (hvn : ∀ j_, 0 ≤ vn_ j_ ∧ vn_ j_ ≤ 9999) (hbu : bu = true → k_ ≤ 48 ∧ B48 k_ os_ ns_ ln_ ∧ Gd no_ nn_ k_ os_ ns_ ln_ ∧ CoR k_ os_ ns_ ln_ k_ wt_ dr_ od_ sp_) (hx1 : -2147483648 ≤ x_) (hx2 : x_ < 2147483648) : Ro l_ yX4_blockNewStart wsX4_blockNewStart ({ frames := 2, cells := 0, slots := 0, locals := 42 }) G_ cI cZ [.ref (ad 0), .int (iI (x_))] (wRP cI cZ ad bu no_ vo_ fo_ nn_ vn_ fn_ k_ os_ ns_ ln_ ot_ nt_ ru_ bo_ bn_ bl_ od_ wt_ dr_ sp_) (A_ofb bu k_ ns_ x_) := by
  refine Met.ofW (cc := cX4_blockNewStart) (maxL := 3) (ret := (some .int)) (by decide) rfl ?_
  intro p_ e_ s_ m_ args below meth c_ s₁ B hml hv
  obtain ⟨hargs, hP_, hK_⟩ := hv
  have hx_ := B.exec
  have hb_ := B.bytes
  have hr := B.returns
  have hts := atoms_spec (ws := wsX4_blockNewStart) B.pre
  have hown : s_.vm.findClass RX4 = some m_.cls := findClass_of_methodNamed B.named
  have hlocks := B.notSynchronized
  have hi4_ : ∀ w_ ∈ wsX40, w_ ∈ wsX4_blockNewStart := by decide +kernel
  have hf22_ := hts (.fieldLink RX4 22 "RelocatingPatch" "blocks" "LRelocatingPatch$Blocks;") (by decide +kernel)
  have hP_ : va_P G_ vwCl [(ad 0, .inr (4, [.ref (ad 1), .ref (ad 4), .ref (ad 7), .ref (ad 11), .ref (ad 15), .int (iI (bZ bu))])), (ad 1, .inr (3, [.ref (ad 2), .ref (ad 3), .int (iI ((no_ : Nat) : Int))])), (ad 2, .inl (cI, 48, .inl (aI vo_))), (ad 3, .inl (cZ, 48, .inl (aB fo_))), (ad 4, .inr (3, [.ref (ad 5), .ref (ad 6), .int (iI ((nn_ : Nat) : Int))])), (ad 5, .inl (cI, 48, .inl (aI vn_))), (ad 6, .inl (cZ, 48, .inl (aB fn_))), (ad 7, .inr (1, [.ref (ad 8), .ref (ad 9), .ref (ad 10), .int (iI ((k_ : Nat) : Int))])), (ad 8, .inl (cI, 48, .inl (aN os_))), (ad 9, .inl (cI, 48, .inl (aN ns_))), (ad 10, .inl (cI, 48, .inl (aN ln_))), (ad 11, .inr (0, [.ref (ad 12), .ref (ad 13), .ref (ad 14), .int (iI ((bo_ : Nat) : Int)), .int (iI ((bn_ : Nat) : Int)), .int (iI ((bl_ : Nat) : Int))])), (ad 12, .inl (cZ, 48, .inl (aB ot_))), (ad 13, .inl (cZ, 48, .inl (aB nt_))), (ad 14, .inl (cI, 49, .inl (aN ru_))), (ad 15, .inr (2, [.ref (ad 16), .ref (ad 17), .ref (ad 18), .int (iI ((sp_ : Nat) : Int))])), (ad 16, .inl (cI, 48, .inl (aN od_))), (ad 17, .inl (cZ, 48, .inl (aB wt_))), (ad 18, .inl (cZ, 48, .inl (aB dr_)))] s_.heap := hP_
  generalize hQe : MQ below (vp_Si (fun r_ => r_ = iI (A_ofb bu k_ ns_ x_))) args s_ 0 0 (fun _ => False) = Q_
  rw [show entryFrame m_ args 3 = entryFrame m_ ([.ref (ad 0), .int (iI (x_))] : List Value).toArray 3 from by rw [hargs], lg_entry_eq]
  have hl_ := lv_entry ([.ref (ad 0), .int (iI (x_))]) (n := 3) (Nat.le_of_ble_eq_true rfl)
  generalize (lg_sl ([.ref (ad 0), .int (iI (x_))]) ++ List.replicate (3 - (lg_sl ([.ref (ad 0), .int (iI (x_))])).length) Slot.unset).toArray = ls_ at hl_ ⊢
  have hl_ : lv_has ls_ 3 [(0, .ref (ad 0)), (1, .int (iI (x_)))] := hl_
  refine lv_aload_n hx_ hb_ dX4_blockNewStart_0 rfl (lv_at hl_ 0 rfl) ?_
  refine lv_iload_n hx_ hb_ dX4_blockNewStart_1 rfl (lv_at hl_ 1 rfl) ?_
  refine ro_V (As := [.int (iI (x_))]) (rest := []) ⟨hx_, hb_, hml, hown, hts⟩ (c_X4_blockError l_ G_ cI cZ ad bu no_ vo_ fo_ nn_ vn_ fn_ k_ os_ ns_ ln_ ot_ nt_ ru_ bo_ bn_ bl_ od_ wt_ dr_ sp_ (x_) (fun h_ => (hbu h_).1) (by omega) (by omega)) (cwV 1 hts gX4_blockNewStart_X4_blockError rfl rfl rfl (by decide +kernel) ⟨Nat.le_of_ble_eq_true rfl, Nat.le_of_ble_eq_true rfl⟩) (hP_.sub (ws' := [(ad 0, .inr (4, [.ref (ad 1), .ref (ad 4), .ref (ad 7), .ref (ad 11), .ref (ad 15), .int (iI (bZ bu))])), (ad 1, .inr (3, [.ref (ad 2), .ref (ad 3), .int (iI ((no_ : Nat) : Int))])), (ad 2, .inl (cI, 48, .inl (aI vo_))), (ad 3, .inl (cZ, 48, .inl (aB fo_))), (ad 4, .inr (3, [.ref (ad 5), .ref (ad 6), .int (iI ((nn_ : Nat) : Int))])), (ad 5, .inl (cI, 48, .inl (aI vn_))), (ad 6, .inl (cZ, 48, .inl (aB fn_))), (ad 7, .inr (1, [.ref (ad 8), .ref (ad 9), .ref (ad 10), .int (iI ((k_ : Nat) : Int))])), (ad 8, .inl (cI, 48, .inl (aN os_))), (ad 9, .inl (cI, 48, .inl (aN ns_))), (ad 10, .inl (cI, 48, .inl (aN ln_))), (ad 11, .inr (0, [.ref (ad 12), .ref (ad 13), .ref (ad 14), .int (iI ((bo_ : Nat) : Int)), .int (iI ((bn_ : Nat) : Int)), .int (iI ((bl_ : Nat) : Int))])), (ad 12, .inl (cZ, 48, .inl (aB ot_))), (ad 13, .inl (cZ, 48, .inl (aB nt_))), (ad 14, .inl (cI, 49, .inl (aN ru_))), (ad 15, .inr (2, [.ref (ad 16), .ref (ad 17), .ref (ad 18), .int (iI ((sp_ : Nat) : Int))])), (ad 16, .inl (cI, 48, .inl (aN od_))), (ad 17, .inl (cZ, 48, .inl (aB wt_))), (ad 18, .inl (cZ, 48, .inl (aB dr_)))]) [0, 1, 2, 3, 4, 5, 6, 7, 8, 9, 10, 11, 12, 13, 14, 15, 16, 17, 18] rfl) hK_ 0 rfl rfl rfl hl_.1 rfl (Nat.le_of_ble_eq_true rfl) dX4_blockNewStart_2 ⟨Nat.zero_le _, Nat.zero_le _⟩ ?_
  refine lv_istore_n (lv' := [(2, .int (iI (eR bu k_ (x_)))), (0, .ref (ad 0)), (1, .int (iI (x_)))]) hx_ hb_ dX4_blockNewStart_5 rfl hl_ (by decide) rfl (fun ls_ hl_ => ?_)
  refine lv_iload_n hx_ hb_ dX4_blockNewStart_6 rfl (lv_at hl_ 0 rfl) ?_
  refine q_if_eq (tgt := 14) hx_ hb_ dX4_blockNewStart_7 (by decide) (eR_R _ _ _) (fun c7_ => ?_) (fun c7_ => ?_)
  · skip
    obtain ⟨hb0, hx3, hx4⟩ := eR_0 c7_
    obtain ⟨hk_, hB_, hgd, hco⟩ := hbu hb0
    refine lv_aload_n hx_ hb_ dX4_blockNewStart_14 rfl (lv_at hl_ 1 rfl) ?_
    refine va_get (D := G_) (ci := 4) (v := .ref (ad 7)) (C := RX4) (T := TX4) (N := 6) hx_ hb_ hts hi4_ hown hK_ hP_ 0 rfl rfl 2 (by decide) hf22_ (fun _ h9 => h9) rfl dX4_blockNewStart_15 ?_
    refine lv_iload_n hx_ hb_ dX4_blockNewStart_18 rfl (lv_at hl_ 2 rfl) ?_
    refine q_cast (b := ((x_.toNat : Nat) : Int)) (by omega) ?_
    refine ro_V (As := [.int (iI ((x_.toNat : Nat) : Int))]) (rest := []) ⟨hx_, hb_, hml, hown, hts⟩ (c_X1_newStart l_ G_ cI cZ (ad 7) (ad 8) (ad 9) (ad 10) k_ os_ ns_ ln_ x_.toNat (by omega) (by omega)) (cwV 1 hts gX4_blockNewStart_X1_newStart rfl rfl rfl (by decide +kernel) ⟨Nat.le_of_ble_eq_true rfl, Nat.le_of_ble_eq_true rfl⟩) (hP_.sub (ws' := [(ad 7, .inr (1, [.ref (ad 8), .ref (ad 9), .ref (ad 10), .int (iI ((k_ : Nat) : Int))])), (ad 8, .inl (cI, 48, .inl (aN os_))), (ad 9, .inl (cI, 48, .inl (aN ns_))), (ad 10, .inl (cI, 48, .inl (aN ln_)))]) [7, 8, 9, 10] rfl) hK_ 0 rfl rfl rfl hl_.1 rfl (Nat.le_of_ble_eq_true rfl) dX4_blockNewStart_19 ⟨Nat.zero_le _, Nat.zero_le _⟩ ?_
    rw [← hQe]
    exact W.iret hx_ hb_ hr (fun tt1 htt1 hWW1 => ⟨_, rfl, congrArg iI (if2 hb0 ⟨hx3, hx4⟩), htt1⟩) (fun q_ h_ => absurd h_ List.not_mem_nil) dX4_blockNewStart_22
  · skip
    refine lv_iload_n hx_ hb_ dX4_blockNewStart_10 rfl (lv_at hl_ 0 rfl) ?_
    refine lv_goto (tgt := 22) hx_ hb_ dX4_blockNewStart_11 (by decide) ?_
    rw [← hQe]
    exact W.iret hx_ hb_ hr (fun tt1 htt1 hWW1 => ⟨_, rfl, congrArg iI (eR_ne _ c7_), htt1⟩) (fun q_ h_ => absurd h_ List.not_mem_nil) dX4_blockNewStart_22

set_option maxHeartbeats 4000000 in
set_option maxRecDepth 100000 in
/-- blockLength -/
theorem c_X4_blockLength (l_ : Launch) (G_ : va_G) (cI cZ : ClassId) (ad : Nat → Nat) (bu : Bool) (no_ : Nat) (vo_ : Nat → Int) (fo_ : Nat → Bool) (nn_ : Nat) (vn_ : Nat → Int) (fn_ : Nat → Bool) (k_ : Nat) (os_ ns_ ln_ : Nat → Nat) (ot_ nt_ : Nat → Bool) (ru_ : Nat → Nat) (bo_ bn_ bl_ : Nat) (od_ : Nat → Nat) (wt_ dr_ : Nat → Bool) (sp_ : Nat) (x_ : Int) (hno : no_ ≤ 48) (hnn : nn_ ≤ 48) (hvo : ∀ j_, 0 ≤ vo_ j_ ∧ vo_ j_ ≤ 9999) (hvn : ∀ j_, 0 ≤ vn_ j_ ∧ vn_ j_ ≤ 9999) (hbu : bu = true → k_ ≤ 48 ∧ B48 k_ os_ ns_ ln_ ∧ Gd no_ nn_ k_ os_ ns_ ln_ ∧ CoR k_ os_ ns_ ln_ k_ wt_ dr_ od_ sp_) (hx1 : -2147483648 ≤ x_) (hx2 : x_ < 2147483648) : Ro l_ yX4_blockLength wsX4_blockLength ({ frames := 2, cells := 0, slots := 0, locals := 42 }) G_ cI cZ [.ref (ad 0), .int (iI (x_))] (wRP cI cZ ad bu no_ vo_ fo_ nn_ vn_ fn_ k_ os_ ns_ ln_ ot_ nt_ ru_ bo_ bn_ bl_ od_ wt_ dr_ sp_) (A_ofb bu k_ ln_ x_) := by
  refine Met.ofW (cc := cX4_blockLength) (maxL := 3) (ret := (some .int)) (by decide) rfl ?_
  intro p_ e_ s_ m_ args below meth c_ s₁ B hml hv
  obtain ⟨hargs, hP_, hK_⟩ := hv
  have hx_ := B.exec
  have hb_ := B.bytes
  have hr := B.returns
  have hts := atoms_spec (ws := wsX4_blockLength) B.pre
  have hown : s_.vm.findClass RX4 = some m_.cls := findClass_of_methodNamed B.named
  have hlocks := B.notSynchronized
  have hi4_ : ∀ w_ ∈ wsX40, w_ ∈ wsX4_blockLength := by decide +kernel
  have hf22_ := hts (.fieldLink RX4 22 "RelocatingPatch" "blocks" "LRelocatingPatch$Blocks;") (by decide +kernel)
  have hP_ : va_P G_ vwCl [(ad 0, .inr (4, [.ref (ad 1), .ref (ad 4), .ref (ad 7), .ref (ad 11), .ref (ad 15), .int (iI (bZ bu))])), (ad 1, .inr (3, [.ref (ad 2), .ref (ad 3), .int (iI ((no_ : Nat) : Int))])), (ad 2, .inl (cI, 48, .inl (aI vo_))), (ad 3, .inl (cZ, 48, .inl (aB fo_))), (ad 4, .inr (3, [.ref (ad 5), .ref (ad 6), .int (iI ((nn_ : Nat) : Int))])), (ad 5, .inl (cI, 48, .inl (aI vn_))), (ad 6, .inl (cZ, 48, .inl (aB fn_))), (ad 7, .inr (1, [.ref (ad 8), .ref (ad 9), .ref (ad 10), .int (iI ((k_ : Nat) : Int))])), (ad 8, .inl (cI, 48, .inl (aN os_))), (ad 9, .inl (cI, 48, .inl (aN ns_))), (ad 10, .inl (cI, 48, .inl (aN ln_))), (ad 11, .inr (0, [.ref (ad 12), .ref (ad 13), .ref (ad 14), .int (iI ((bo_ : Nat) : Int)), .int (iI ((bn_ : Nat) : Int)), .int (iI ((bl_ : Nat) : Int))])), (ad 12, .inl (cZ, 48, .inl (aB ot_))), (ad 13, .inl (cZ, 48, .inl (aB nt_))), (ad 14, .inl (cI, 49, .inl (aN ru_))), (ad 15, .inr (2, [.ref (ad 16), .ref (ad 17), .ref (ad 18), .int (iI ((sp_ : Nat) : Int))])), (ad 16, .inl (cI, 48, .inl (aN od_))), (ad 17, .inl (cZ, 48, .inl (aB wt_))), (ad 18, .inl (cZ, 48, .inl (aB dr_)))] s_.heap := hP_
  generalize hQe : MQ below (vp_Si (fun r_ => r_ = iI (A_ofb bu k_ ln_ x_))) args s_ 0 0 (fun _ => False) = Q_
  rw [show entryFrame m_ args 3 = entryFrame m_ ([.ref (ad 0), .int (iI (x_))] : List Value).toArray 3 from by rw [hargs], lg_entry_eq]
  have hl_ := lv_entry ([.ref (ad 0), .int (iI (x_))]) (n := 3) (Nat.le_of_ble_eq_true rfl)
  generalize (lg_sl ([.ref (ad 0), .int (iI (x_))]) ++ List.replicate (3 - (lg_sl ([.ref (ad 0), .int (iI (x_))])).length) Slot.unset).toArray = ls_ at hl_ ⊢
  have hl_ : lv_has ls_ 3 [(0, .ref (ad 0)), (1, .int (iI (x_)))] := hl_
  refine lv_aload_n hx_ hb_ dX4_blockLength_0 rfl (lv_at hl_ 0 rfl) ?_
  refine lv_iload_n hx_ hb_ dX4_blockLength_1 rfl (lv_at hl_ 1 rfl) ?_
  refine ro_V (As := [.int (iI (x_))]) (rest := []) ⟨hx_, hb_, hml, hown, hts⟩ (c_X4_blockError l_ G_ cI cZ ad bu no_ vo_ fo_ nn_ vn_ fn_ k_ os_ ns_ ln_ ot_ nt_ ru_ bo_ bn_ bl_ od_ wt_ dr_ sp_ (x_) (fun h_ => (hbu h_).1) (by omega) (by omega)) (cwV 1 hts gX4_blockLength_X4_blockError rfl rfl rfl (by decide +kernel) ⟨Nat.le_of_ble_eq_true rfl, Nat.le_of_ble_eq_true rfl⟩) (hP_.sub (ws' := [(ad 0, .inr (4, [.ref (ad 1), .ref (ad 4), .ref (ad 7), .ref (ad 11), .ref (ad 15), .int (iI (bZ bu))])), (ad 1, .inr (3, [.ref (ad 2), .ref (ad 3), .int (iI ((no_ : Nat) : Int))])), (ad 2, .inl (cI, 48, .inl (aI vo_))), (ad 3, .inl (cZ, 48, .inl (aB fo_))), (ad 4, .inr (3, [.ref (ad 5), .ref (ad 6), .int (iI ((nn_ : Nat) : Int))])), (ad 5, .inl (cI, 48, .inl (aI vn_))), (ad 6, .inl (cZ, 48, .inl (aB fn_))), (ad 7, .inr (1, [.ref (ad 8), .ref (ad 9), .ref (ad 10), .int (iI ((k_ : Nat) : Int))])), (ad 8, .inl (cI, 48, .inl (aN os_))), (ad 9, .inl (cI, 48, .inl (aN ns_))), (ad 10, .inl (cI, 48, .inl (aN ln_))), (ad 11, .inr (0, [.ref (ad 12), .ref (ad 13), .ref (ad 14), .int (iI ((bo_ : Nat) : Int)), .int (iI ((bn_ : Nat) : Int)), .int (iI ((bl_ : Nat) : Int))])), (ad 12, .inl (cZ, 48, .inl (aB ot_))), (ad 13, .inl (cZ, 48, .inl (aB nt_))), (ad 14, .inl (cI, 49, .inl (aN ru_))), (ad 15, .inr (2, [.ref (ad 16), .ref (ad 17), .ref (ad 18), .int (iI ((sp_ : Nat) : Int))])), (ad 16, .inl (cI, 48, .inl (aN od_))), (ad 17, .inl (cZ, 48, .inl (aB wt_))), (ad 18, .inl (cZ, 48, .inl (aB dr_)))]) [0, 1, 2, 3, 4, 5, 6, 7, 8, 9, 10, 11, 12, 13, 14, 15, 16, 17, 18] rfl) hK_ 0 rfl rfl rfl hl_.1 rfl (Nat.le_of_ble_eq_true rfl) dX4_blockLength_2 ⟨Nat.zero_le _, Nat.zero_le _⟩ ?_
  refine lv_istore_n (lv' := [(2, .int (iI (eR bu k_ (x_)))), (0, .ref (ad 0)), (1, .int (iI (x_)))]) hx_ hb_ dX4_blockLength_5 rfl hl_ (by decide) rfl (fun ls_ hl_ => ?_)
  refine lv_iload_n hx_ hb_ dX4_blockLength_6 rfl (lv_at hl_ 0 rfl) ?_
  refine q_if_eq (tgt := 14) hx_ hb_ dX4_blockLength_7 (by decide) (eR_R _ _ _) (fun c7_ => ?_) (fun c7_ => ?_)
  · skip
    obtain ⟨hb0, hx3, hx4⟩ := eR_0 c7_
    obtain ⟨hk_, hB_, hgd, hco⟩ := hbu hb0
    refine lv_aload_n hx_ hb_ dX4_blockLength_14 rfl (lv_at hl_ 1 rfl) ?_
    refine va_get (D := G_) (ci := 4) (v := .ref (ad 7)) (C := RX4) (T := TX4) (N := 6) hx_ hb_ hts hi4_ hown hK_ hP_ 0 rfl rfl 2 (by decide) hf22_ (fun _ h9 => h9) rfl dX4_blockLength_15 ?_
    refine lv_iload_n hx_ hb_ dX4_blockLength_18 rfl (lv_at hl_ 2 rfl) ?_
    refine q_cast (b := ((x_.toNat : Nat) : Int)) (by omega) ?_
    refine ro_V (As := [.int (iI ((x_.toNat : Nat) : Int))]) (rest := []) ⟨hx_, hb_, hml, hown, hts⟩ (c_X1_length l_ G_ cI cZ (ad 7) (ad 8) (ad 9) (ad 10) k_ os_ ns_ ln_ x_.toNat (by omega) (by omega)) (cwV 1 hts gX4_blockLength_X1_length rfl rfl rfl (by decide +kernel) ⟨Nat.le_of_ble_eq_true rfl, Nat.le_of_ble_eq_true rfl⟩) (hP_.sub (ws' := [(ad 7, .inr (1, [.ref (ad 8), .ref (ad 9), .ref (ad 10), .int (iI ((k_ : Nat) : Int))])), (ad 8, .inl (cI, 48, .inl (aN os_))), (ad 9, .inl (cI, 48, .inl (aN ns_))), (ad 10, .inl (cI, 48, .inl (aN ln_)))]) [7, 8, 9, 10] rfl) hK_ 0 rfl rfl rfl hl_.1 rfl (Nat.le_of_ble_eq_true rfl) dX4_blockLength_19 ⟨Nat.zero_le _, Nat.zero_le _⟩ ?_
    rw [← hQe]
    exact W.iret hx_ hb_ hr (fun tt1 htt1 hWW1 => ⟨_, rfl, congrArg iI (if2 hb0 ⟨hx3, hx4⟩), htt1⟩) (fun q_ h_ => absurd h_ List.not_mem_nil) dX4_blockLength_22
  · skip
    refine lv_iload_n hx_ hb_ dX4_blockLength_10 rfl (lv_at hl_ 0 rfl) ?_
    refine lv_goto (tgt := 22) hx_ hb_ dX4_blockLength_11 (by decide) ?_
    rw [← hQe]
    exact W.iret hx_ hb_ hr (fun tt1 htt1 hWW1 => ⟨_, rfl, congrArg iI (eR_ne _ c7_), htt1⟩) (fun q_ h_ => absurd h_ List.not_mem_nil) dX4_blockLength_22

set_option maxHeartbeats 4000000 in
set_option maxRecDepth 100000 in
/-- blockOf -/
theorem c_X4_blockOf (l_ : Launch) (G_ : va_G) (cI cZ : ClassId) (ad : Nat → Nat) (bu : Bool) (no_ : Nat) (vo_ : Nat → Int) (fo_ : Nat → Bool) (nn_ : Nat) (vn_ : Nat → Int) (fn_ : Nat → Bool) (k_ : Nat) (os_ ns_ ln_ : Nat → Nat) (ot_ nt_ : Nat → Bool) (ru_ : Nat → Nat) (bo_ bn_ bl_ : Nat) (od_ : Nat → Nat) (wt_ dr_ : Nat → Bool) (sp_ : Nat) (x_ : Int) (hno : no_ ≤ 48) (hnn : nn_ ≤ 48) (hvo : ∀ j_, 0 ≤ vo_ j_ ∧ vo_ j_ ≤ 9999) (hvn : ∀ j_, 0 ≤ vn_ j_ ∧ vn_ j_ ≤ 9999) (hbu : bu = true → k_ ≤ 48 ∧ B48 k_ os_ ns_ ln_ ∧ Gd no_ nn_ k_ os_ ns_ ln_ ∧ CoR k_ os_ ns_ ln_ k_ wt_ dr_ od_ sp_) (hx1 : -2147483648 ≤ x_) (hx2 : x_ < 2147483648) : Ro l_ yX4_blockOf wsX4_blockOf ({ frames := 4, cells := 0, slots := 0, locals := 87 }) G_ cI cZ [.ref (ad 0), .int (iI (x_))] (wRP cI cZ ad bu no_ vo_ fo_ nn_ vn_ fn_ k_ os_ ns_ ln_ ot_ nt_ ru_ bo_ bn_ bl_ od_ wt_ dr_ sp_) (A_bof bu nn_ k_ ns_ ln_ x_) := by
  refine Met.ofW (cc := cX4_blockOf) (maxL := 4) (ret := (some .int)) (by decide) rfl ?_
  intro p_ e_ s_ m_ args below meth c_ s₁ B hml hv
  obtain ⟨hargs, hP_, hK_⟩ := hv
  have hx_ := B.exec
  have hb_ := B.bytes
  have hr := B.returns
  have hts := atoms_spec (ws := wsX4_blockOf) B.pre
  have hown : s_.vm.findClass RX4 = some m_.cls := findClass_of_methodNamed B.named
  have hlocks := B.notSynchronized
  have hi4_ : ∀ w_ ∈ wsX40, w_ ∈ wsX4_blockOf := by decide +kernel
  have hf22_ := hts (.fieldLink RX4 22 "RelocatingPatch" "blocks" "LRelocatingPatch$Blocks;") (by decide +kernel)
  have hP_ : va_P G_ vwCl [(ad 0, .inr (4, [.ref (ad 1), .ref (ad 4), .ref (ad 7), .ref (ad 11), .ref (ad 15), .int (iI (bZ bu))])), (ad 1, .inr (3, [.ref (ad 2), .ref (ad 3), .int (iI ((no_ : Nat) : Int))])), (ad 2, .inl (cI, 48, .inl (aI vo_))), (ad 3, .inl (cZ, 48, .inl (aB fo_))), (ad 4, .inr (3, [.ref (ad 5), .ref (ad 6), .int (iI ((nn_ : Nat) : Int))])), (ad 5, .inl (cI, 48, .inl (aI vn_))), (ad 6, .inl (cZ, 48, .inl (aB fn_))), (ad 7, .inr (1, [.ref (ad 8), .ref (ad 9), .ref (ad 10), .int (iI ((k_ : Nat) : Int))])), (ad 8, .inl (cI, 48, .inl (aN os_))), (ad 9, .inl (cI, 48, .inl (aN ns_))), (ad 10, .inl (cI, 48, .inl (aN ln_))), (ad 11, .inr (0, [.ref (ad 12), .ref (ad 13), .ref (ad 14), .int (iI ((bo_ : Nat) : Int)), .int (iI ((bn_ : Nat) : Int)), .int (iI ((bl_ : Nat) : Int))])), (ad 12, .inl (cZ, 48, .inl (aB ot_))), (ad 13, .inl (cZ, 48, .inl (aB nt_))), (ad 14, .inl (cI, 49, .inl (aN ru_))), (ad 15, .inr (2, [.ref (ad 16), .ref (ad 17), .ref (ad 18), .int (iI ((sp_ : Nat) : Int))])), (ad 16, .inl (cI, 48, .inl (aN od_))), (ad 17, .inl (cZ, 48, .inl (aB wt_))), (ad 18, .inl (cZ, 48, .inl (aB dr_)))] s_.heap := hP_
  generalize hQe : MQ below (vp_Si (fun r_ => r_ = iI (A_bof bu nn_ k_ ns_ ln_ x_))) args s_ 0 0 (fun _ => False) = Q_
  rw [show entryFrame m_ args 4 = entryFrame m_ ([.ref (ad 0), .int (iI (x_))] : List Value).toArray 4 from by rw [hargs], lg_entry_eq]
  have hl_ := lv_entry ([.ref (ad 0), .int (iI (x_))]) (n := 4) (Nat.le_of_ble_eq_true rfl)
  generalize (lg_sl ([.ref (ad 0), .int (iI (x_))]) ++ List.replicate (4 - (lg_sl ([.ref (ad 0), .int (iI (x_))])).length) Slot.unset).toArray = ls_ at hl_ ⊢
  have hl_ : lv_has ls_ 4 [(0, .ref (ad 0)), (1, .int (iI (x_)))] := hl_
  refine lv_aload_n hx_ hb_ dX4_blockOf_0 rfl (lv_at hl_ 0 rfl) ?_
  refine lv_iload_n hx_ hb_ dX4_blockOf_1 rfl (lv_at hl_ 1 rfl) ?_
  refine ro_V (As := [.int (iI (x_))]) (rest := []) ⟨hx_, hb_, hml, hown, hts⟩ (c_X4_newWordError l_ G_ cI cZ ad bu no_ vo_ fo_ nn_ vn_ fn_ k_ os_ ns_ ln_ ot_ nt_ ru_ bo_ bn_ bl_ od_ wt_ dr_ sp_ (x_) (fun _ => hnn) (by omega) (by omega)) (cwV 1 hts gX4_blockOf_X4_newWordError rfl rfl rfl (by decide +kernel) ⟨Nat.le_of_ble_eq_true rfl, Nat.le_of_ble_eq_true rfl⟩) (hP_.sub (ws' := [(ad 0, .inr (4, [.ref (ad 1), .ref (ad 4), .ref (ad 7), .ref (ad 11), .ref (ad 15), .int (iI (bZ bu))])), (ad 1, .inr (3, [.ref (ad 2), .ref (ad 3), .int (iI ((no_ : Nat) : Int))])), (ad 2, .inl (cI, 48, .inl (aI vo_))), (ad 3, .inl (cZ, 48, .inl (aB fo_))), (ad 4, .inr (3, [.ref (ad 5), .ref (ad 6), .int (iI ((nn_ : Nat) : Int))])), (ad 5, .inl (cI, 48, .inl (aI vn_))), (ad 6, .inl (cZ, 48, .inl (aB fn_))), (ad 7, .inr (1, [.ref (ad 8), .ref (ad 9), .ref (ad 10), .int (iI ((k_ : Nat) : Int))])), (ad 8, .inl (cI, 48, .inl (aN os_))), (ad 9, .inl (cI, 48, .inl (aN ns_))), (ad 10, .inl (cI, 48, .inl (aN ln_))), (ad 11, .inr (0, [.ref (ad 12), .ref (ad 13), .ref (ad 14), .int (iI ((bo_ : Nat) : Int)), .int (iI ((bn_ : Nat) : Int)), .int (iI ((bl_ : Nat) : Int))])), (ad 12, .inl (cZ, 48, .inl (aB ot_))), (ad 13, .inl (cZ, 48, .inl (aB nt_))), (ad 14, .inl (cI, 49, .inl (aN ru_))), (ad 15, .inr (2, [.ref (ad 16), .ref (ad 17), .ref (ad 18), .int (iI ((sp_ : Nat) : Int))])), (ad 16, .inl (cI, 48, .inl (aN od_))), (ad 17, .inl (cZ, 48, .inl (aB wt_))), (ad 18, .inl (cZ, 48, .inl (aB dr_)))]) [0, 1, 2, 3, 4, 5, 6, 7, 8, 9, 10, 11, 12, 13, 14, 15, 16, 17, 18] rfl) hK_ 0 rfl rfl rfl hl_.1 rfl (Nat.le_of_ble_eq_true rfl) dX4_blockOf_2 ⟨Nat.zero_le _, Nat.zero_le _⟩ ?_
  refine lv_istore_n (lv' := [(2, .int (iI (eR bu nn_ (x_)))), (0, .ref (ad 0)), (1, .int (iI (x_)))]) hx_ hb_ dX4_blockOf_5 rfl hl_ (by decide) rfl (fun ls_ hl_ => ?_)
  refine lv_iload_n hx_ hb_ dX4_blockOf_6 rfl (lv_at hl_ 0 rfl) ?_
  refine q_if_eq (tgt := 12) hx_ hb_ dX4_blockOf_7 (by decide) (eR_R _ _ _) (fun c7_ => ?_) (fun c7_ => ?_)
  · skip
    obtain ⟨hb0, hx3, hx4⟩ := eR_0 c7_
    obtain ⟨hk_, hB_, hgd, hco⟩ := hbu hb0
    have hxn : ((x_.toNat : Nat) : Int) = x_ := by omega
    refine lv_aload_n hx_ hb_ dX4_blockOf_12 rfl (lv_at hl_ 1 rfl) ?_
    refine va_get (D := G_) (ci := 4) (v := .ref (ad 7)) (C := RX4) (T := TX4) (N := 6) hx_ hb_ hts hi4_ hown hK_ hP_ 0 rfl rfl 2 (by decide) hf22_ (fun _ h9 => h9) rfl dX4_blockOf_13 ?_
    refine lv_iload_n hx_ hb_ dX4_blockOf_16 rfl (lv_at hl_ 2 rfl) ?_
    refine ro_V (As := [.int (iI (x_))]) (rest := []) ⟨hx_, hb_, hml, hown, hts⟩ (c_X1_withNewIndex l_ G_ cI cZ (ad 7) (ad 8) (ad 9) (ad 10) k_ os_ ns_ ln_ (x_) (by omega) (hB_) (by omega) (by omega)) (cwV 1 hts gX4_blockOf_X1_withNewIndex rfl rfl rfl (by decide +kernel) ⟨Nat.le_of_ble_eq_true rfl, Nat.le_of_ble_eq_true rfl⟩) (hP_.sub (ws' := [(ad 7, .inr (1, [.ref (ad 8), .ref (ad 9), .ref (ad 10), .int (iI ((k_ : Nat) : Int))])), (ad 8, .inl (cI, 48, .inl (aN os_))), (ad 9, .inl (cI, 48, .inl (aN ns_))), (ad 10, .inl (cI, 48, .inl (aN ln_)))]) [7, 8, 9, 10] rfl) hK_ 0 rfl rfl rfl hl_.1 rfl (Nat.le_of_ble_eq_true rfl) dX4_blockOf_17 ⟨Nat.zero_le _, Nat.zero_le _⟩ ?_
    refine lv_istore_n (lv' := [(3, .int (iI (wI (wni k_ ns_ ln_ (x_)) k_ (-1)))), (2, .int (iI (eR bu nn_ (x_)))), (0, .ref (ad 0)), (1, .int (iI (x_)))]) hx_ hb_ dX4_blockOf_20 rfl hl_ (by decide) rfl (fun ls_ hl_ => ?_)
    refine lv_iload_n hx_ hb_ dX4_blockOf_21 rfl (lv_at hl_ 0 rfl) ?_
    refine lv_iconst (v := iI (-1)) hx_ hb_ dX4_blockOf_22 rfl ?_
    refine q_icmp_ne (tgt := 32) hx_ hb_ dX4_blockOf_23 (by decide) (wI_R hk_ ⟨by decide, by decide⟩) (⟨by decide, by decide⟩) (fun c23_ => ?_) (fun c23_ => ?_)
    · skip
      refine lv_iload_n hx_ hb_ dX4_blockOf_32 rfl (lv_at hl_ 0 rfl) ?_
      rw [← hQe]
      exact W.iret hx_ hb_ hr (fun tt1 htt1 hWW1 => ⟨_, rfl, congrArg iI (by unfold A_bof bx; rw [if_pos hb0, if_pos ⟨hx3, hx4⟩, hxn, wI_hit (wI_ne c23_), wI_hit (wI_ne c23_)]), htt1⟩) (fun q_ h_ => absurd h_ List.not_mem_nil) dX4_blockOf_33
    · skip
      refine lv_sipush (v := iI (-10005)) hx_ hb_ dX4_blockOf_26 rfl ?_
      refine lv_goto (tgt := 33) hx_ hb_ dX4_blockOf_29 (by decide) ?_
      rw [← hQe]
      exact W.iret hx_ hb_ hr (fun tt1 htt1 hWW1 => ⟨_, rfl, congrArg iI (by unfold A_bof bx; rw [if_pos hb0, if_pos ⟨hx3, hx4⟩, hxn]; unfold wI; rw [if_neg (wI_nlt (by decide) c23_)]), htt1⟩) (fun q_ h_ => absurd h_ List.not_mem_nil) dX4_blockOf_33
  · skip
    refine lv_iload_n hx_ hb_ dX4_blockOf_10 rfl (lv_at hl_ 0 rfl) ?_
    rw [← hQe]
    exact W.iret hx_ hb_ hr (fun tt1 htt1 hWW1 => ⟨_, rfl, congrArg iI (eR_ne _ c7_), htt1⟩) (fun q_ h_ => absurd h_ List.not_mem_nil) dX4_blockOf_11

set_option maxHeartbeats 4000000 in
set_option maxRecDepth 100000 in
/-- predictedAddress -/
theorem c_X4_predictedAddress (l_ : Launch) (G_ : va_G) (cI cZ : ClassId) (ad : Nat → Nat) (bu : Bool) (no_ : Nat) (vo_ : Nat → Int) (fo_ : Nat → Bool) (nn_ : Nat) (vn_ : Nat → Int) (fn_ : Nat → Bool) (k_ : Nat) (os_ ns_ ln_ : Nat → Nat) (ot_ nt_ : Nat → Bool) (ru_ : Nat → Nat) (bo_ bn_ bl_ : Nat) (od_ : Nat → Nat) (wt_ dr_ : Nat → Bool) (sp_ : Nat) (x_ : Int) (hno : no_ ≤ 48) (hnn : nn_ ≤ 48) (hvo : ∀ j_, 0 ≤ vo_ j_ ∧ vo_ j_ ≤ 9999) (hvn : ∀ j_, 0 ≤ vn_ j_ ∧ vn_ j_ ≤ 9999) (hbu : bu = true → k_ ≤ 48 ∧ B48 k_ os_ ns_ ln_ ∧ Gd no_ nn_ k_ os_ ns_ ln_ ∧ CoR k_ os_ ns_ ln_ k_ wt_ dr_ od_ sp_) (hx1 : -2147483648 ≤ x_) (hx2 : x_ < 2147483648) : Ro l_ yX4_predictedAddress wsX4_predictedAddress ({ frames := 3, cells := 0, slots := 0, locals := 66 }) G_ cI cZ [.ref (ad 0), .int (iI (x_))] (wRP cI cZ ad bu no_ vo_ fo_ nn_ vn_ fn_ k_ os_ ns_ ln_ ot_ nt_ ru_ bo_ bn_ bl_ od_ wt_ dr_ sp_) (A_pad bu k_ os_ ns_ x_) := by
  refine Met.ofW (cc := cX4_predictedAddress) (maxL := 2) (ret := (some .int)) (by decide) rfl ?_
  intro p_ e_ s_ m_ args below meth c_ s₁ B hml hv
  obtain ⟨hargs, hP_, hK_⟩ := hv
  have hx_ := B.exec
  have hb_ := B.bytes
  have hr := B.returns
  have hts := atoms_spec (ws := wsX4_predictedAddress) B.pre
  have hown : s_.vm.findClass RX4 = some m_.cls := findClass_of_methodNamed B.named
  have hlocks := B.notSynchronized
  have hi4_ : ∀ w_ ∈ wsX40, w_ ∈ wsX4_predictedAddress := by decide +kernel
  have hf22_ := hts (.fieldLink RX4 22 "RelocatingPatch" "blocks" "LRelocatingPatch$Blocks;") (by decide +kernel)
  have hf40_ := hts (.fieldLink RX4 40 "RelocatingPatch" "built" "Z") (by decide +kernel)
  have hP_ : va_P G_ vwCl [(ad 0, .inr (4, [.ref (ad 1), .ref (ad 4), .ref (ad 7), .ref (ad 11), .ref (ad 15), .int (iI (bZ bu))])), (ad 1, .inr (3, [.ref (ad 2), .ref (ad 3), .int (iI ((no_ : Nat) : Int))])), (ad 2, .inl (cI, 48, .inl (aI vo_))), (ad 3, .inl (cZ, 48, .inl (aB fo_))), (ad 4, .inr (3, [.ref (ad 5), .ref (ad 6), .int (iI ((nn_ : Nat) : Int))])), (ad 5, .inl (cI, 48, .inl (aI vn_))), (ad 6, .inl (cZ, 48, .inl (aB fn_))), (ad 7, .inr (1, [.ref (ad 8), .ref (ad 9), .ref (ad 10), .int (iI ((k_ : Nat) : Int))])), (ad 8, .inl (cI, 48, .inl (aN os_))), (ad 9, .inl (cI, 48, .inl (aN ns_))), (ad 10, .inl (cI, 48, .inl (aN ln_))), (ad 11, .inr (0, [.ref (ad 12), .ref (ad 13), .ref (ad 14), .int (iI ((bo_ : Nat) : Int)), .int (iI ((bn_ : Nat) : Int)), .int (iI ((bl_ : Nat) : Int))])), (ad 12, .inl (cZ, 48, .inl (aB ot_))), (ad 13, .inl (cZ, 48, .inl (aB nt_))), (ad 14, .inl (cI, 49, .inl (aN ru_))), (ad 15, .inr (2, [.ref (ad 16), .ref (ad 17), .ref (ad 18), .int (iI ((sp_ : Nat) : Int))])), (ad 16, .inl (cI, 48, .inl (aN od_))), (ad 17, .inl (cZ, 48, .inl (aB wt_))), (ad 18, .inl (cZ, 48, .inl (aB dr_)))] s_.heap := hP_
  generalize hQe : MQ below (vp_Si (fun r_ => r_ = iI (A_pad bu k_ os_ ns_ x_))) args s_ 0 0 (fun _ => False) = Q_
  rw [show entryFrame m_ args 2 = entryFrame m_ ([.ref (ad 0), .int (iI (x_))] : List Value).toArray 2 from by rw [hargs], lg_entry_eq]
  have hl_ := lv_entry ([.ref (ad 0), .int (iI (x_))]) (n := 2) (Nat.le_of_ble_eq_true rfl)
  generalize (lg_sl ([.ref (ad 0), .int (iI (x_))]) ++ List.replicate (2 - (lg_sl ([.ref (ad 0), .int (iI (x_))])).length) Slot.unset).toArray = ls_ at hl_ ⊢
  have hl_ : lv_has ls_ 2 [(0, .ref (ad 0)), (1, .int (iI (x_)))] := hl_
  refine lv_aload_n hx_ hb_ dX4_predictedAddress_0 rfl (lv_at hl_ 0 rfl) ?_
  refine va_get (D := G_) (ci := 4) (v := .int (iI (bZ bu))) (C := RX4) (T := TX4) (N := 6) hx_ hb_ hts hi4_ hown hK_ hP_ 0 rfl rfl 5 (by decide) hf40_ (fun _ h9 => h9) rfl dX4_predictedAddress_1 ?_
  refine q_bt (tgt := 11) hx_ hb_ dX4_predictedAddress_4 (by decide) (fun c4_ => ?_) (fun c4_ => ?_)
  · skip
    obtain ⟨hk_, hB_, hgd, hco⟩ := hbu c4_
    refine lv_iload_n hx_ hb_ dX4_predictedAddress_11 rfl (lv_at hl_ 1 rfl) ?_
    refine ro_S (As := [.int (iI (x_))]) (rest := []) ⟨hx_, hb_, hml, hown, hts⟩ (c_X4_isValue l_ G_ cI cZ (x_) (by omega) (by omega)) (va_cwS 1 hts gX4_predictedAddress_X4_isValue rfl rfl rfl (by decide +kernel) ⟨Nat.le_of_ble_eq_true rfl, Nat.le_of_ble_eq_true rfl⟩) (hP_.sub (ws' := []) [] rfl) hK_ rfl hl_.1 rfl (Nat.le_of_ble_eq_true rfl) dX4_predictedAddress_12 ⟨Nat.zero_le _, Nat.zero_le _⟩ ?_
    refine q_df (tgt := 29) hx_ hb_ dX4_predictedAddress_15 (by decide) (fun c15_ => ?_) (fun c15_ => ?_)
    · skip
      refine lv_sipush (v := iI (-10001)) hx_ hb_ dX4_predictedAddress_29 rfl ?_
      rw [← hQe]
      exact W.iret hx_ hb_ hr (fun tt1 htt1 hWW1 => ⟨_, rfl, congrArg iI (if3 c4_ c15_), htt1⟩) (fun q_ h_ => absurd h_ List.not_mem_nil) dX4_predictedAddress_32
    · skip
      refine lv_aload_n hx_ hb_ dX4_predictedAddress_18 rfl (lv_at hl_ 0 rfl) ?_
      refine va_get (D := G_) (ci := 4) (v := .ref (ad 7)) (C := RX4) (T := TX4) (N := 6) hx_ hb_ hts hi4_ hown hK_ hP_ 0 rfl rfl 2 (by decide) hf22_ (fun _ h9 => h9) rfl dX4_predictedAddress_19 ?_
      refine lv_iload_n hx_ hb_ dX4_predictedAddress_22 rfl (lv_at hl_ 1 rfl) ?_
      refine ro_V (As := [.int (iI (x_))]) (rest := []) ⟨hx_, hb_, hml, hown, hts⟩ (c_X1_moved l_ G_ cI cZ (ad 7) (ad 8) (ad 9) (ad 10) k_ os_ ns_ ln_ (x_) (by omega) (hB_) (by omega) (by omega)) (cwV 1 hts gX4_predictedAddress_X1_moved rfl rfl rfl (by decide +kernel) ⟨Nat.le_of_ble_eq_true rfl, Nat.le_of_ble_eq_true rfl⟩) (hP_.sub (ws' := [(ad 7, .inr (1, [.ref (ad 8), .ref (ad 9), .ref (ad 10), .int (iI ((k_ : Nat) : Int))])), (ad 8, .inl (cI, 48, .inl (aN os_))), (ad 9, .inl (cI, 48, .inl (aN ns_))), (ad 10, .inl (cI, 48, .inl (aN ln_)))]) [7, 8, 9, 10] rfl) hK_ 0 rfl rfl rfl hl_.1 rfl (Nat.le_of_ble_eq_true rfl) dX4_predictedAddress_23 ⟨Nat.zero_le _, Nat.zero_le _⟩ ?_
      refine lv_goto (tgt := 32) hx_ hb_ dX4_predictedAddress_26 (by decide) ?_
      rw [← hQe]
      exact W.iret hx_ hb_ hr (fun tt1 htt1 hWW1 => ⟨_, rfl, congrArg iI (if2 c4_ c15_), htt1⟩) (fun q_ h_ => absurd h_ List.not_mem_nil) dX4_predictedAddress_32
  · skip
    refine lv_sipush (v := iI (-10004)) hx_ hb_ dX4_predictedAddress_7 rfl ?_
    rw [← hQe]
    exact W.iret hx_ hb_ hr (fun tt1 htt1 hWW1 => ⟨_, rfl, congrArg iI (if0 c4_), htt1⟩) (fun q_ h_ => absurd h_ List.not_mem_nil) dX4_predictedAddress_10

set_option maxHeartbeats 4000000 in
set_option maxRecDepth 100000 in
/-- prediction -/
theorem c_X4_prediction (l_ : Launch) (G_ : va_G) (cI cZ : ClassId) (ad : Nat → Nat) (bu : Bool) (no_ : Nat) (vo_ : Nat → Int) (fo_ : Nat → Bool) (nn_ : Nat) (vn_ : Nat → Int) (fn_ : Nat → Bool) (k_ : Nat) (os_ ns_ ln_ : Nat → Nat) (ot_ nt_ : Nat → Bool) (ru_ : Nat → Nat) (bo_ bn_ bl_ : Nat) (od_ : Nat → Nat) (wt_ dr_ : Nat → Bool) (sp_ : Nat) (j_ : Nat) (y_ : Nat) (hno : no_ ≤ 48) (hnn : nn_ ≤ 48) (hvo : ∀ j_, 0 ≤ vo_ j_ ∧ vo_ j_ ≤ 9999) (hvn : ∀ j_, 0 ≤ vn_ j_ ∧ vn_ j_ ≤ 9999) (hk_ : k_ ≤ 48) (hB_ : B48 k_ os_ ns_ ln_) (hgd : Gd no_ nn_ k_ os_ ns_ ln_) (hj_ : j_ < k_) (hjy : ns_ j_ ≤ y_) (hjn : oN os_ ns_ j_ y_ < no_) : Ro l_ yX4_prediction wsX4_prediction ({ frames := 3, cells := 0, slots := 0, locals := 66 }) G_ cI cZ [.ref (ad 0), .int (iI ((j_ : Nat) : Int)), .int (iI ((y_ : Nat) : Int))] (wRP cI cZ ad bu no_ vo_ fo_ nn_ vn_ fn_ k_ os_ ns_ ln_ ot_ nt_ ru_ bo_ bn_ bl_ od_ wt_ dr_ sp_) (prd vo_ fo_ k_ os_ ns_ j_ y_) := by
  refine Met.ofW (cc := cX4_prediction) (maxL := 5) (ret := (some .int)) (by decide) rfl ?_
  intro p_ e_ s_ m_ args below meth c_ s₁ B hml hv
  obtain ⟨hargs, hP_, hK_⟩ := hv
  have hx_ := B.exec
  have hb_ := B.bytes
  have hr := B.returns
  have hts := atoms_spec (ws := wsX4_prediction) B.pre
  have hown : s_.vm.findClass RX4 = some m_.cls := findClass_of_methodNamed B.named
  have hlocks := B.notSynchronized
  have hi4_ : ∀ w_ ∈ wsX40, w_ ∈ wsX4_prediction := by decide +kernel
  have hf10_ := hts (.fieldLink RX4 10 "RelocatingPatch" "oldImage" "LRelocatingPatch$Image;") (by decide +kernel)
  have hf22_ := hts (.fieldLink RX4 22 "RelocatingPatch" "blocks" "LRelocatingPatch$Blocks;") (by decide +kernel)
  have hP_ : va_P G_ vwCl [(ad 0, .inr (4, [.ref (ad 1), .ref (ad 4), .ref (ad 7), .ref (ad 11), .ref (ad 15), .int (iI (bZ bu))])), (ad 1, .inr (3, [.ref (ad 2), .ref (ad 3), .int (iI ((no_ : Nat) : Int))])), (ad 2, .inl (cI, 48, .inl (aI vo_))), (ad 3, .inl (cZ, 48, .inl (aB fo_))), (ad 4, .inr (3, [.ref (ad 5), .ref (ad 6), .int (iI ((nn_ : Nat) : Int))])), (ad 5, .inl (cI, 48, .inl (aI vn_))), (ad 6, .inl (cZ, 48, .inl (aB fn_))), (ad 7, .inr (1, [.ref (ad 8), .ref (ad 9), .ref (ad 10), .int (iI ((k_ : Nat) : Int))])), (ad 8, .inl (cI, 48, .inl (aN os_))), (ad 9, .inl (cI, 48, .inl (aN ns_))), (ad 10, .inl (cI, 48, .inl (aN ln_))), (ad 11, .inr (0, [.ref (ad 12), .ref (ad 13), .ref (ad 14), .int (iI ((bo_ : Nat) : Int)), .int (iI ((bn_ : Nat) : Int)), .int (iI ((bl_ : Nat) : Int))])), (ad 12, .inl (cZ, 48, .inl (aB ot_))), (ad 13, .inl (cZ, 48, .inl (aB nt_))), (ad 14, .inl (cI, 49, .inl (aN ru_))), (ad 15, .inr (2, [.ref (ad 16), .ref (ad 17), .ref (ad 18), .int (iI ((sp_ : Nat) : Int))])), (ad 16, .inl (cI, 48, .inl (aN od_))), (ad 17, .inl (cZ, 48, .inl (aB wt_))), (ad 18, .inl (cZ, 48, .inl (aB dr_)))] s_.heap := hP_
  generalize hQe : MQ below (vp_Si (fun r_ => r_ = iI (prd vo_ fo_ k_ os_ ns_ j_ y_))) args s_ 0 0 (fun _ => False) = Q_
  have fv1 := hvo (oN os_ ns_ j_ y_)
  rw [show entryFrame m_ args 5 = entryFrame m_ ([.ref (ad 0), .int (iI ((j_ : Nat) : Int)), .int (iI ((y_ : Nat) : Int))] : List Value).toArray 5 from by rw [hargs], lg_entry_eq]
  have hl_ := lv_entry ([.ref (ad 0), .int (iI ((j_ : Nat) : Int)), .int (iI ((y_ : Nat) : Int))]) (n := 5) (Nat.le_of_ble_eq_true rfl)
  generalize (lg_sl ([.ref (ad 0), .int (iI ((j_ : Nat) : Int)), .int (iI ((y_ : Nat) : Int))]) ++ List.replicate (5 - (lg_sl ([.ref (ad 0), .int (iI ((j_ : Nat) : Int)), .int (iI ((y_ : Nat) : Int))])).length) Slot.unset).toArray = ls_ at hl_ ⊢
  have hl_ : lv_has ls_ 5 [(0, .ref (ad 0)), (1, .int (iI ((j_ : Nat) : Int))), (2, .int (iI ((y_ : Nat) : Int)))] := hl_
  refine lv_aload_n hx_ hb_ dX4_prediction_0 rfl (lv_at hl_ 0 rfl) ?_
  refine va_get (D := G_) (ci := 4) (v := .ref (ad 7)) (C := RX4) (T := TX4) (N := 6) hx_ hb_ hts hi4_ hown hK_ hP_ 0 rfl rfl 2 (by decide) hf22_ (fun _ h9 => h9) rfl dX4_prediction_1 ?_
  refine lv_iload_n hx_ hb_ dX4_prediction_4 rfl (lv_at hl_ 1 rfl) ?_
  refine lv_iload_n hx_ hb_ dX4_prediction_5 rfl (lv_at hl_ 2 rfl) ?_
  refine ro_V (As := [.int (iI ((j_ : Nat) : Int)), .int (iI ((y_ : Nat) : Int))]) (rest := []) ⟨hx_, hb_, hml, hown, hts⟩ (c_X1_oldIndex l_ G_ cI cZ (ad 7) (ad 8) (ad 9) (ad 10) k_ os_ ns_ ln_ j_ ((y_ : Nat) : Int) (by omega) (by omega)) (cwV 2 hts gX4_prediction_X1_oldIndex rfl rfl rfl (by decide +kernel) ⟨Nat.le_of_ble_eq_true rfl, Nat.le_of_ble_eq_true rfl⟩) (hP_.sub (ws' := [(ad 7, .inr (1, [.ref (ad 8), .ref (ad 9), .ref (ad 10), .int (iI ((k_ : Nat) : Int))])), (ad 8, .inl (cI, 48, .inl (aN os_))), (ad 9, .inl (cI, 48, .inl (aN ns_))), (ad 10, .inl (cI, 48, .inl (aN ln_)))]) [7, 8, 9, 10] rfl) hK_ 0 rfl rfl rfl hl_.1 rfl (Nat.le_of_ble_eq_true rfl) dX4_prediction_6 ⟨Nat.zero_le _, Nat.zero_le _⟩ ?_
  refine q_cast (b := ((oN os_ ns_ j_ y_ : Nat) : Int)) (oN_cast hjy) ?_
  refine lv_istore_n (lv' := [(3, .int (iI ((oN os_ ns_ j_ y_ : Nat) : Int))), (0, .ref (ad 0)), (1, .int (iI ((j_ : Nat) : Int))), (2, .int (iI ((y_ : Nat) : Int)))]) hx_ hb_ dX4_prediction_9 rfl hl_ (by decide) rfl (fun ls_ hl_ => ?_)
  refine lv_aload_n hx_ hb_ dX4_prediction_10 rfl (lv_at hl_ 1 rfl) ?_
  refine va_get (D := G_) (ci := 4) (v := .ref (ad 1)) (C := RX4) (T := TX4) (N := 6) hx_ hb_ hts hi4_ hown hK_ hP_ 0 rfl rfl 0 (by decide) hf10_ (fun _ h9 => h9) rfl dX4_prediction_11 ?_
  refine lv_iload_n hx_ hb_ dX4_prediction_14 rfl (lv_at hl_ 0 rfl) ?_
  refine ro_V (As := [.int (iI ((oN os_ ns_ j_ y_ : Nat) : Int))]) (rest := []) ⟨hx_, hb_, hml, hown, hts⟩ (c_X3_valueAt l_ G_ cI cZ (ad 1) (ad 2) (ad 3) no_ vo_ fo_ ((oN os_ ns_ j_ y_ : Nat) : Int) (by omega) (by omega) (by omega)) (cwV 1 hts gX4_prediction_X3_valueAt rfl rfl rfl (by decide +kernel) ⟨Nat.le_of_ble_eq_true rfl, Nat.le_of_ble_eq_true rfl⟩) (hP_.sub (ws' := [(ad 1, .inr (3, [.ref (ad 2), .ref (ad 3), .int (iI ((no_ : Nat) : Int))])), (ad 2, .inl (cI, 48, .inl (aI vo_))), (ad 3, .inl (cZ, 48, .inl (aB fo_)))]) [1, 2, 3] rfl) hK_ 0 rfl rfl rfl hl_.1 rfl (Nat.le_of_ble_eq_true rfl) dX4_prediction_15 ⟨Nat.zero_le _, Nat.zero_le _⟩ ?_
  refine q_cast (b := (vo_ (oN os_ ns_ j_ y_))) (vAt_in hjn) ?_
  refine lv_istore (lv' := [(4, .int (iI (vo_ (oN os_ ns_ j_ y_)))), (3, .int (iI ((oN os_ ns_ j_ y_ : Nat) : Int))), (0, .ref (ad 0)), (1, .int (iI ((j_ : Nat) : Int))), (2, .int (iI ((y_ : Nat) : Int)))]) hx_ hb_ dX4_prediction_18 hl_ (by decide) rfl (fun ls_ hl_ => ?_)
  refine lv_aload_n hx_ hb_ dX4_prediction_20 rfl (lv_at hl_ 2 rfl) ?_
  refine va_get (D := G_) (ci := 4) (v := .ref (ad 1)) (C := RX4) (T := TX4) (N := 6) hx_ hb_ hts hi4_ hown hK_ hP_ 0 rfl rfl 0 (by decide) hf10_ (fun _ h9 => h9) rfl dX4_prediction_21 ?_
  refine lv_iload_n hx_ hb_ dX4_prediction_24 rfl (lv_at hl_ 1 rfl) ?_
  refine ro_V (As := [.int (iI ((oN os_ ns_ j_ y_ : Nat) : Int))]) (rest := []) ⟨hx_, hb_, hml, hown, hts⟩ (c_X3_isAddress l_ G_ cI cZ (ad 1) (ad 2) (ad 3) no_ vo_ fo_ ((oN os_ ns_ j_ y_ : Nat) : Int) (by omega) (by omega) (by omega)) (cwV 1 hts gX4_prediction_X3_isAddress rfl rfl rfl (by decide +kernel) ⟨Nat.le_of_ble_eq_true rfl, Nat.le_of_ble_eq_true rfl⟩) (hP_.sub (ws' := [(ad 1, .inr (3, [.ref (ad 2), .ref (ad 3), .int (iI ((no_ : Nat) : Int))])), (ad 2, .inl (cI, 48, .inl (aI vo_))), (ad 3, .inl (cZ, 48, .inl (aB fo_)))]) [1, 2, 3] rfl) hK_ 0 rfl rfl rfl hl_.1 rfl (Nat.le_of_ble_eq_true rfl) dX4_prediction_25 ⟨Nat.zero_le _, Nat.zero_le _⟩ ?_
  refine q_cast (b := (bZ (fo_ (oN os_ ns_ j_ y_)))) (congrArg bZ (fAt_in hjn)) ?_
  refine q_bf (tgt := 43) hx_ hb_ dX4_prediction_28 (by decide) (fun c28_ => ?_) (fun c28_ => ?_)
  · skip
    refine lv_iload hx_ hb_ dX4_prediction_43 (lv_at hl_ 0 rfl) ?_
    rw [← hQe]
    exact W.iret hx_ hb_ hr (fun tt1 htt1 hWW1 => ⟨_, rfl, congrArg iI (by unfold prd; rw [if_neg (by rw [c28_]; decide)]), htt1⟩) (fun q_ h_ => absurd h_ List.not_mem_nil) dX4_prediction_45
  · skip
    refine lv_aload_n hx_ hb_ dX4_prediction_31 rfl (lv_at hl_ 2 rfl) ?_
    refine va_get (D := G_) (ci := 4) (v := .ref (ad 7)) (C := RX4) (T := TX4) (N := 6) hx_ hb_ hts hi4_ hown hK_ hP_ 0 rfl rfl 2 (by decide) hf22_ (fun _ h9 => h9) rfl dX4_prediction_32 ?_
    refine lv_iload hx_ hb_ dX4_prediction_35 (lv_at hl_ 0 rfl) ?_
    refine ro_V (As := [.int (iI (vo_ (oN os_ ns_ j_ y_)))]) (rest := []) ⟨hx_, hb_, hml, hown, hts⟩ (c_X1_moved l_ G_ cI cZ (ad 7) (ad 8) (ad 9) (ad 10) k_ os_ ns_ ln_ (vo_ (oN os_ ns_ j_ y_)) (by omega) (hB_) (by omega) (by omega)) (cwV 1 hts gX4_prediction_X1_moved rfl rfl rfl (by decide +kernel) ⟨Nat.le_of_ble_eq_true rfl, Nat.le_of_ble_eq_true rfl⟩) (hP_.sub (ws' := [(ad 7, .inr (1, [.ref (ad 8), .ref (ad 9), .ref (ad 10), .int (iI ((k_ : Nat) : Int))])), (ad 8, .inl (cI, 48, .inl (aN os_))), (ad 9, .inl (cI, 48, .inl (aN ns_))), (ad 10, .inl (cI, 48, .inl (aN ln_)))]) [7, 8, 9, 10] rfl) hK_ 0 rfl rfl rfl hl_.1 rfl (Nat.le_of_ble_eq_true rfl) dX4_prediction_37 ⟨Nat.zero_le _, Nat.zero_le _⟩ ?_
    refine lv_goto (tgt := 45) hx_ hb_ dX4_prediction_40 (by decide) ?_
    rw [← hQe]
    exact W.iret hx_ hb_ hr (fun tt1 htt1 hWW1 => ⟨_, rfl, congrArg iI (by unfold prd; rw [if_pos c28_]), htt1⟩) (fun q_ h_ => absurd h_ List.not_mem_nil) dX4_prediction_45

set_option maxHeartbeats 4000000 in
set_option maxRecDepth 100000 in
/-- needsCorrection -/
theorem c_X4_needsCorrection (l_ : Launch) (G_ : va_G) (cI cZ : ClassId) (ad : Nat → Nat) (bu : Bool) (no_ : Nat) (vo_ : Nat → Int) (fo_ : Nat → Bool) (nn_ : Nat) (vn_ : Nat → Int) (fn_ : Nat → Bool) (k_ : Nat) (os_ ns_ ln_ : Nat → Nat) (ot_ nt_ : Nat → Bool) (ru_ : Nat → Nat) (bo_ bn_ bl_ : Nat) (od_ : Nat → Nat) (wt_ dr_ : Nat → Bool) (sp_ : Nat) (y_ : Nat) (hno : no_ ≤ 48) (hnn : nn_ ≤ 48) (hvo : ∀ j_, 0 ≤ vo_ j_ ∧ vo_ j_ ≤ 9999) (hvn : ∀ j_, 0 ≤ vn_ j_ ∧ vn_ j_ ≤ 9999) (hk_ : k_ ≤ 48) (hB_ : B48 k_ os_ ns_ ln_) (hgd : Gd no_ nn_ k_ os_ ns_ ln_) (hy0 : y_ < nn_) : Ro l_ yX4_needsCorrection wsX4_needsCorrection ({ frames := 4, cells := 0, slots := 0, locals := 90 }) G_ cI cZ [.ref (ad 0), .int (iI ((y_ : Nat) : Int))] (wRP cI cZ ad bu no_ vo_ fo_ nn_ vn_ fn_ k_ os_ ns_ ln_ ot_ nt_ ru_ bo_ bn_ bl_ od_ wt_ dr_ sp_) (bZ (ncr vo_ fo_ vn_ k_ os_ ns_ ln_ y_)) := by
  refine Met.ofW (cc := cX4_needsCorrection) (maxL := 3) (ret := (some .boolean)) (by decide) rfl ?_
  intro p_ e_ s_ m_ args below meth c_ s₁ B hml hv
  obtain ⟨hargs, hP_, hK_⟩ := hv
  have hx_ := B.exec
  have hb_ := B.bytes
  have hr := B.returns
  have hts := atoms_spec (ws := wsX4_needsCorrection) B.pre
  have hown : s_.vm.findClass RX4 = some m_.cls := findClass_of_methodNamed B.named
  have hlocks := B.notSynchronized
  have hi4_ : ∀ w_ ∈ wsX40, w_ ∈ wsX4_needsCorrection := by decide +kernel
  have hf16_ := hts (.fieldLink RX4 16 "RelocatingPatch" "newImage" "LRelocatingPatch$Image;") (by decide +kernel)
  have hf22_ := hts (.fieldLink RX4 22 "RelocatingPatch" "blocks" "LRelocatingPatch$Blocks;") (by decide +kernel)
  have hP_ : va_P G_ vwCl [(ad 0, .inr (4, [.ref (ad 1), .ref (ad 4), .ref (ad 7), .ref (ad 11), .ref (ad 15), .int (iI (bZ bu))])), (ad 1, .inr (3, [.ref (ad 2), .ref (ad 3), .int (iI ((no_ : Nat) : Int))])), (ad 2, .inl (cI, 48, .inl (aI vo_))), (ad 3, .inl (cZ, 48, .inl (aB fo_))), (ad 4, .inr (3, [.ref (ad 5), .ref (ad 6), .int (iI ((nn_ : Nat) : Int))])), (ad 5, .inl (cI, 48, .inl (aI vn_))), (ad 6, .inl (cZ, 48, .inl (aB fn_))), (ad 7, .inr (1, [.ref (ad 8), .ref (ad 9), .ref (ad 10), .int (iI ((k_ : Nat) : Int))])), (ad 8, .inl (cI, 48, .inl (aN os_))), (ad 9, .inl (cI, 48, .inl (aN ns_))), (ad 10, .inl (cI, 48, .inl (aN ln_))), (ad 11, .inr (0, [.ref (ad 12), .ref (ad 13), .ref (ad 14), .int (iI ((bo_ : Nat) : Int)), .int (iI ((bn_ : Nat) : Int)), .int (iI ((bl_ : Nat) : Int))])), (ad 12, .inl (cZ, 48, .inl (aB ot_))), (ad 13, .inl (cZ, 48, .inl (aB nt_))), (ad 14, .inl (cI, 49, .inl (aN ru_))), (ad 15, .inr (2, [.ref (ad 16), .ref (ad 17), .ref (ad 18), .int (iI ((sp_ : Nat) : Int))])), (ad 16, .inl (cI, 48, .inl (aN od_))), (ad 17, .inl (cZ, 48, .inl (aB wt_))), (ad 18, .inl (cZ, 48, .inl (aB dr_)))] s_.heap := hP_
  generalize hQe : MQ below (vp_Si (fun r_ => r_ = iI (bZ (ncr vo_ fo_ vn_ k_ os_ ns_ ln_ y_)))) args s_ 0 0 (fun _ => False) = Q_
  have fv2 := hvn y_
  rw [show entryFrame m_ args 3 = entryFrame m_ ([.ref (ad 0), .int (iI ((y_ : Nat) : Int))] : List Value).toArray 3 from by rw [hargs], lg_entry_eq]
  have hl_ := lv_entry ([.ref (ad 0), .int (iI ((y_ : Nat) : Int))]) (n := 3) (Nat.le_of_ble_eq_true rfl)
  generalize (lg_sl ([.ref (ad 0), .int (iI ((y_ : Nat) : Int))]) ++ List.replicate (3 - (lg_sl ([.ref (ad 0), .int (iI ((y_ : Nat) : Int))])).length) Slot.unset).toArray = ls_ at hl_ ⊢
  have hl_ : lv_has ls_ 3 [(0, .ref (ad 0)), (1, .int (iI ((y_ : Nat) : Int)))] := hl_
  refine lv_aload_n hx_ hb_ dX4_needsCorrection_0 rfl (lv_at hl_ 0 rfl) ?_
  refine va_get (D := G_) (ci := 4) (v := .ref (ad 7)) (C := RX4) (T := TX4) (N := 6) hx_ hb_ hts hi4_ hown hK_ hP_ 0 rfl rfl 2 (by decide) hf22_ (fun _ h9 => h9) rfl dX4_needsCorrection_1 ?_
  refine lv_iload_n hx_ hb_ dX4_needsCorrection_4 rfl (lv_at hl_ 1 rfl) ?_
  refine ro_V (As := [.int (iI ((y_ : Nat) : Int))]) (rest := []) ⟨hx_, hb_, hml, hown, hts⟩ (c_X1_withNewIndex l_ G_ cI cZ (ad 7) (ad 8) (ad 9) (ad 10) k_ os_ ns_ ln_ ((y_ : Nat) : Int) (by omega) (hB_) (by omega) (by omega)) (cwV 1 hts gX4_needsCorrection_X1_withNewIndex rfl rfl rfl (by decide +kernel) ⟨Nat.le_of_ble_eq_true rfl, Nat.le_of_ble_eq_true rfl⟩) (hP_.sub (ws' := [(ad 7, .inr (1, [.ref (ad 8), .ref (ad 9), .ref (ad 10), .int (iI ((k_ : Nat) : Int))])), (ad 8, .inl (cI, 48, .inl (aN os_))), (ad 9, .inl (cI, 48, .inl (aN ns_))), (ad 10, .inl (cI, 48, .inl (aN ln_)))]) [7, 8, 9, 10] rfl) hK_ 0 rfl rfl rfl hl_.1 rfl (Nat.le_of_ble_eq_true rfl) dX4_needsCorrection_5 ⟨Nat.zero_le _, Nat.zero_le _⟩ ?_
  refine lv_istore_n (lv' := [(2, .int (iI (wI (wni k_ ns_ ln_ ((y_ : Nat) : Int)) k_ (-1)))), (0, .ref (ad 0)), (1, .int (iI ((y_ : Nat) : Int)))]) hx_ hb_ dX4_needsCorrection_8 rfl hl_ (by decide) rfl (fun ls_ hl_ => ?_)
  refine lv_iload_n hx_ hb_ dX4_needsCorrection_9 rfl (lv_at hl_ 0 rfl) ?_
  refine lv_iconst (v := iI (-1)) hx_ hb_ dX4_needsCorrection_10 rfl ?_
  refine q_icmp_eq (tgt := 35) hx_ hb_ dX4_needsCorrection_11 (by decide) (wI_R hk_ ⟨by decide, by decide⟩) (⟨by decide, by decide⟩) (fun c11_ => ?_) (fun c11_ => ?_)
  · skip
    refine lv_iconst (v := iI ((0 : Nat) : Int)) hx_ hb_ dX4_needsCorrection_35 rfl ?_
    rw [← hQe]
    refine q_cast (b := bZ false) rfl ?_
    exact W.zret (v := _) hx_ hb_ hr (nar_bZ _) (fun tt1 htt1 hWW1 => ⟨_, rfl, congrArg iI (congrArg bZ (by unfold ncr bx; rw [decide_eq_false (wI_nlt (by decide) c11_)]; rfl)), htt1⟩) (fun q_ h_ => absurd h_ List.not_mem_nil) dX4_needsCorrection_36
  · skip
    have hbx : bx k_ ns_ ln_ y_ < k_ := wI_ne c11_
    have hbi := bx_in hgd hbx
    have fv3 := prd_R (fo := fo_) (j := (bx k_ ns_ ln_ y_)) (w := y_) hB_ hvo
    refine lv_aload_n hx_ hb_ dX4_needsCorrection_14 rfl (lv_at hl_ 1 rfl) ?_
    refine lv_iload_n hx_ hb_ dX4_needsCorrection_15 rfl (lv_at hl_ 0 rfl) ?_
    refine q_cast (b := ((bx k_ ns_ ln_ y_ : Nat) : Int)) (wI_hit hbx) ?_
    refine lv_iload_n hx_ hb_ dX4_needsCorrection_16 rfl (lv_at hl_ 2 rfl) ?_
    refine ro_V (As := [.int (iI ((bx k_ ns_ ln_ y_ : Nat) : Int)), .int (iI ((y_ : Nat) : Int))]) (rest := []) ⟨hx_, hb_, hml, hown, hts⟩ (c_X4_prediction l_ G_ cI cZ ad bu no_ vo_ fo_ nn_ vn_ fn_ k_ os_ ns_ ln_ ot_ nt_ ru_ bo_ bn_ bl_ od_ wt_ dr_ sp_ (bx k_ ns_ ln_ y_) y_ hno hnn hvo hvn hk_ hB_ hgd (hbx) (hbi.2.1) (hbi.1)) (cwV 2 hts gX4_needsCorrection_X4_prediction rfl rfl rfl (by decide +kernel) ⟨Nat.le_of_ble_eq_true rfl, Nat.le_of_ble_eq_true rfl⟩) (hP_.sub (ws' := [(ad 0, .inr (4, [.ref (ad 1), .ref (ad 4), .ref (ad 7), .ref (ad 11), .ref (ad 15), .int (iI (bZ bu))])), (ad 1, .inr (3, [.ref (ad 2), .ref (ad 3), .int (iI ((no_ : Nat) : Int))])), (ad 2, .inl (cI, 48, .inl (aI vo_))), (ad 3, .inl (cZ, 48, .inl (aB fo_))), (ad 4, .inr (3, [.ref (ad 5), .ref (ad 6), .int (iI ((nn_ : Nat) : Int))])), (ad 5, .inl (cI, 48, .inl (aI vn_))), (ad 6, .inl (cZ, 48, .inl (aB fn_))), (ad 7, .inr (1, [.ref (ad 8), .ref (ad 9), .ref (ad 10), .int (iI ((k_ : Nat) : Int))])), (ad 8, .inl (cI, 48, .inl (aN os_))), (ad 9, .inl (cI, 48, .inl (aN ns_))), (ad 10, .inl (cI, 48, .inl (aN ln_))), (ad 11, .inr (0, [.ref (ad 12), .ref (ad 13), .ref (ad 14), .int (iI ((bo_ : Nat) : Int)), .int (iI ((bn_ : Nat) : Int)), .int (iI ((bl_ : Nat) : Int))])), (ad 12, .inl (cZ, 48, .inl (aB ot_))), (ad 13, .inl (cZ, 48, .inl (aB nt_))), (ad 14, .inl (cI, 49, .inl (aN ru_))), (ad 15, .inr (2, [.ref (ad 16), .ref (ad 17), .ref (ad 18), .int (iI ((sp_ : Nat) : Int))])), (ad 16, .inl (cI, 48, .inl (aN od_))), (ad 17, .inl (cZ, 48, .inl (aB wt_))), (ad 18, .inl (cZ, 48, .inl (aB dr_)))]) [0, 1, 2, 3, 4, 5, 6, 7, 8, 9, 10, 11, 12, 13, 14, 15, 16, 17, 18] rfl) hK_ 0 rfl rfl rfl hl_.1 rfl (Nat.le_of_ble_eq_true rfl) dX4_needsCorrection_17 ⟨Nat.zero_le _, Nat.zero_le _⟩ ?_
    refine lv_aload_n hx_ hb_ dX4_needsCorrection_20 rfl (lv_at hl_ 1 rfl) ?_
    refine va_get (D := G_) (ci := 4) (v := .ref (ad 4)) (C := RX4) (T := TX4) (N := 6) hx_ hb_ hts hi4_ hown hK_ hP_ 0 rfl rfl 1 (by decide) hf16_ (fun _ h9 => h9) rfl dX4_needsCorrection_21 ?_
    refine lv_iload_n hx_ hb_ dX4_needsCorrection_24 rfl (lv_at hl_ 2 rfl) ?_
    refine ro_V (As := [.int (iI ((y_ : Nat) : Int))]) (rest := [.int (iI (prd vo_ fo_ k_ os_ ns_ (bx k_ ns_ ln_ y_) y_))]) ⟨hx_, hb_, hml, hown, hts⟩ (c_X3_valueAt l_ G_ cI cZ (ad 4) (ad 5) (ad 6) nn_ vn_ fn_ ((y_ : Nat) : Int) (by omega) (by omega) (by omega)) (cwV 1 hts gX4_needsCorrection_X3_valueAt rfl rfl rfl (by decide +kernel) ⟨Nat.le_of_ble_eq_true rfl, Nat.le_of_ble_eq_true rfl⟩) (hP_.sub (ws' := [(ad 4, .inr (3, [.ref (ad 5), .ref (ad 6), .int (iI ((nn_ : Nat) : Int))])), (ad 5, .inl (cI, 48, .inl (aI vn_))), (ad 6, .inl (cZ, 48, .inl (aB fn_)))]) [4, 5, 6] rfl) hK_ 0 rfl rfl rfl hl_.1 rfl (Nat.le_of_ble_eq_true rfl) dX4_needsCorrection_25 ⟨Nat.zero_le _, Nat.zero_le _⟩ ?_
    refine q_cast (b := (vn_ y_)) (vAt_in hy0) ?_
    refine q_icmp_eq (tgt := 35) hx_ hb_ dX4_needsCorrection_28 (by decide) (⟨by omega, by omega⟩) (⟨by omega, by omega⟩) (fun c28_ => ?_) (fun c28_ => ?_)
    · skip
      refine lv_iconst (v := iI ((0 : Nat) : Int)) hx_ hb_ dX4_needsCorrection_35 rfl ?_
      rw [← hQe]
      refine q_cast (b := bZ false) rfl ?_
      exact W.zret (v := _) hx_ hb_ hr (nar_bZ _) (fun tt1 htt1 hWW1 => ⟨_, rfl, congrArg iI (congrArg bZ (by unfold ncr; rw [decide_eq_false (show ¬ ¬ _ from fun h0_ => h0_ c28_)]; simp)), htt1⟩) (fun q_ h_ => absurd h_ List.not_mem_nil) dX4_needsCorrection_36
    · skip
      refine lv_iconst (v := iI ((1 : Nat) : Int)) hx_ hb_ dX4_needsCorrection_31 rfl ?_
      refine lv_goto (tgt := 36) hx_ hb_ dX4_needsCorrection_32 (by decide) ?_
      rw [← hQe]
      refine q_cast (b := bZ true) rfl ?_
      exact W.zret (v := _) hx_ hb_ hr (nar_bZ _) (fun tt1 htt1 hWW1 => ⟨_, rfl, congrArg iI (congrArg bZ (by unfold ncr; rw [decide_eq_true hbx, decide_eq_true c28_]; rfl)), htt1⟩) (fun q_ h_ => absurd h_ List.not_mem_nil) dX4_needsCorrection_36

set_option maxHeartbeats 4000000 in
set_option maxRecDepth 100000 in
/-- isChanged -/
theorem c_X4_isChanged (l_ : Launch) (G_ : va_G) (cI cZ : ClassId) (ad : Nat → Nat) (bu : Bool) (no_ : Nat) (vo_ : Nat → Int) (fo_ : Nat → Bool) (nn_ : Nat) (vn_ : Nat → Int) (fn_ : Nat → Bool) (k_ : Nat) (os_ ns_ ln_ : Nat → Nat) (ot_ nt_ : Nat → Bool) (ru_ : Nat → Nat) (bo_ bn_ bl_ : Nat) (od_ : Nat → Nat) (wt_ dr_ : Nat → Bool) (sp_ : Nat) (y_ : Nat) (hno : no_ ≤ 48) (hnn : nn_ ≤ 48) (hvo : ∀ j_, 0 ≤ vo_ j_ ∧ vo_ j_ ≤ 9999) (hvn : ∀ j_, 0 ≤ vn_ j_ ∧ vn_ j_ ≤ 9999) (hk_ : k_ ≤ 48) (hB_ : B48 k_ os_ ns_ ln_) (hgd : Gd no_ nn_ k_ os_ ns_ ln_) (hy0 : y_ < nn_) : Ro l_ yX4_isChanged wsX4_isChanged ({ frames := 4, cells := 0, slots := 0, locals := 87 }) G_ cI cZ [.ref (ad 0), .int (iI ((y_ : Nat) : Int))] (wRP cI cZ ad bu no_ vo_ fo_ nn_ vn_ fn_ k_ os_ ns_ ln_ ot_ nt_ ru_ bo_ bn_ bl_ od_ wt_ dr_ sp_) (bZ (chg vo_ vn_ k_ os_ ns_ ln_ y_)) := by
  refine Met.ofW (cc := cX4_isChanged) (maxL := 3) (ret := (some .boolean)) (by decide) rfl ?_
  intro p_ e_ s_ m_ args below meth c_ s₁ B hml hv
  obtain ⟨hargs, hP_, hK_⟩ := hv
  have hx_ := B.exec
  have hb_ := B.bytes
  have hr := B.returns
  have hts := atoms_spec (ws := wsX4_isChanged) B.pre
  have hown : s_.vm.findClass RX4 = some m_.cls := findClass_of_methodNamed B.named
  have hlocks := B.notSynchronized
  have hi4_ : ∀ w_ ∈ wsX40, w_ ∈ wsX4_isChanged := by decide +kernel
  have hf10_ := hts (.fieldLink RX4 10 "RelocatingPatch" "oldImage" "LRelocatingPatch$Image;") (by decide +kernel)
  have hf16_ := hts (.fieldLink RX4 16 "RelocatingPatch" "newImage" "LRelocatingPatch$Image;") (by decide +kernel)
  have hf22_ := hts (.fieldLink RX4 22 "RelocatingPatch" "blocks" "LRelocatingPatch$Blocks;") (by decide +kernel)
  have hP_ : va_P G_ vwCl [(ad 0, .inr (4, [.ref (ad 1), .ref (ad 4), .ref (ad 7), .ref (ad 11), .ref (ad 15), .int (iI (bZ bu))])), (ad 1, .inr (3, [.ref (ad 2), .ref (ad 3), .int (iI ((no_ : Nat) : Int))])), (ad 2, .inl (cI, 48, .inl (aI vo_))), (ad 3, .inl (cZ, 48, .inl (aB fo_))), (ad 4, .inr (3, [.ref (ad 5), .ref (ad 6), .int (iI ((nn_ : Nat) : Int))])), (ad 5, .inl (cI, 48, .inl (aI vn_))), (ad 6, .inl (cZ, 48, .inl (aB fn_))), (ad 7, .inr (1, [.ref (ad 8), .ref (ad 9), .ref (ad 10), .int (iI ((k_ : Nat) : Int))])), (ad 8, .inl (cI, 48, .inl (aN os_))), (ad 9, .inl (cI, 48, .inl (aN ns_))), (ad 10, .inl (cI, 48, .inl (aN ln_))), (ad 11, .inr (0, [.ref (ad 12), .ref (ad 13), .ref (ad 14), .int (iI ((bo_ : Nat) : Int)), .int (iI ((bn_ : Nat) : Int)), .int (iI ((bl_ : Nat) : Int))])), (ad 12, .inl (cZ, 48, .inl (aB ot_))), (ad 13, .inl (cZ, 48, .inl (aB nt_))), (ad 14, .inl (cI, 49, .inl (aN ru_))), (ad 15, .inr (2, [.ref (ad 16), .ref (ad 17), .ref (ad 18), .int (iI ((sp_ : Nat) : Int))])), (ad 16, .inl (cI, 48, .inl (aN od_))), (ad 17, .inl (cZ, 48, .inl (aB wt_))), (ad 18, .inl (cZ, 48, .inl (aB dr_)))] s_.heap := hP_
  generalize hQe : MQ below (vp_Si (fun r_ => r_ = iI (bZ (chg vo_ vn_ k_ os_ ns_ ln_ y_)))) args s_ 0 0 (fun _ => False) = Q_
  have fv2 := hvn y_
  rw [show entryFrame m_ args 3 = entryFrame m_ ([.ref (ad 0), .int (iI ((y_ : Nat) : Int))] : List Value).toArray 3 from by rw [hargs], lg_entry_eq]
  have hl_ := lv_entry ([.ref (ad 0), .int (iI ((y_ : Nat) : Int))]) (n := 3) (Nat.le_of_ble_eq_true rfl)
  generalize (lg_sl ([.ref (ad 0), .int (iI ((y_ : Nat) : Int))]) ++ List.replicate (3 - (lg_sl ([.ref (ad 0), .int (iI ((y_ : Nat) : Int))])).length) Slot.unset).toArray = ls_ at hl_ ⊢
  have hl_ : lv_has ls_ 3 [(0, .ref (ad 0)), (1, .int (iI ((y_ : Nat) : Int)))] := hl_
  refine lv_aload_n hx_ hb_ dX4_isChanged_0 rfl (lv_at hl_ 0 rfl) ?_
  refine va_get (D := G_) (ci := 4) (v := .ref (ad 7)) (C := RX4) (T := TX4) (N := 6) hx_ hb_ hts hi4_ hown hK_ hP_ 0 rfl rfl 2 (by decide) hf22_ (fun _ h9 => h9) rfl dX4_isChanged_1 ?_
  refine lv_iload_n hx_ hb_ dX4_isChanged_4 rfl (lv_at hl_ 1 rfl) ?_
  refine ro_V (As := [.int (iI ((y_ : Nat) : Int))]) (rest := []) ⟨hx_, hb_, hml, hown, hts⟩ (c_X1_withNewIndex l_ G_ cI cZ (ad 7) (ad 8) (ad 9) (ad 10) k_ os_ ns_ ln_ ((y_ : Nat) : Int) (by omega) (hB_) (by omega) (by omega)) (cwV 1 hts gX4_isChanged_X1_withNewIndex rfl rfl rfl (by decide +kernel) ⟨Nat.le_of_ble_eq_true rfl, Nat.le_of_ble_eq_true rfl⟩) (hP_.sub (ws' := [(ad 7, .inr (1, [.ref (ad 8), .ref (ad 9), .ref (ad 10), .int (iI ((k_ : Nat) : Int))])), (ad 8, .inl (cI, 48, .inl (aN os_))), (ad 9, .inl (cI, 48, .inl (aN ns_))), (ad 10, .inl (cI, 48, .inl (aN ln_)))]) [7, 8, 9, 10] rfl) hK_ 0 rfl rfl rfl hl_.1 rfl (Nat.le_of_ble_eq_true rfl) dX4_isChanged_5 ⟨Nat.zero_le _, Nat.zero_le _⟩ ?_
  refine lv_istore_n (lv' := [(2, .int (iI (wI (wni k_ ns_ ln_ ((y_ : Nat) : Int)) k_ (-1)))), (0, .ref (ad 0)), (1, .int (iI ((y_ : Nat) : Int)))]) hx_ hb_ dX4_isChanged_8 rfl hl_ (by decide) rfl (fun ls_ hl_ => ?_)
  refine lv_iload_n hx_ hb_ dX4_isChanged_9 rfl (lv_at hl_ 0 rfl) ?_
  refine lv_iconst (v := iI (-1)) hx_ hb_ dX4_isChanged_10 rfl ?_
  refine q_icmp_eq (tgt := 45) hx_ hb_ dX4_isChanged_11 (by decide) (wI_R hk_ ⟨by decide, by decide⟩) (⟨by decide, by decide⟩) (fun c11_ => ?_) (fun c11_ => ?_)
  · skip
    refine lv_iconst (v := iI ((0 : Nat) : Int)) hx_ hb_ dX4_isChanged_45 rfl ?_
    rw [← hQe]
    refine q_cast (b := bZ false) rfl ?_
    exact W.zret (v := _) hx_ hb_ hr (nar_bZ _) (fun tt1 htt1 hWW1 => ⟨_, rfl, congrArg iI (congrArg bZ (by unfold chg bx; rw [decide_eq_false (wI_nlt (by decide) c11_)]; rfl)), htt1⟩) (fun q_ h_ => absurd h_ List.not_mem_nil) dX4_isChanged_46
  · skip
    have hbx : bx k_ ns_ ln_ y_ < k_ := wI_ne c11_
    have hbi := bx_in hgd hbx
    have fv3 := prd_R (fo := fo_) (j := (bx k_ ns_ ln_ y_)) (w := y_) hB_ hvo
    have fv4 := hvo (oN os_ ns_ (bx k_ ns_ ln_ y_) y_)
    refine lv_aload_n hx_ hb_ dX4_isChanged_14 rfl (lv_at hl_ 1 rfl) ?_
    refine va_get (D := G_) (ci := 4) (v := .ref (ad 1)) (C := RX4) (T := TX4) (N := 6) hx_ hb_ hts hi4_ hown hK_ hP_ 0 rfl rfl 0 (by decide) hf10_ (fun _ h9 => h9) rfl dX4_isChanged_15 ?_
    refine lv_aload_n hx_ hb_ dX4_isChanged_18 rfl (lv_at hl_ 1 rfl) ?_
    refine va_get (D := G_) (ci := 4) (v := .ref (ad 7)) (C := RX4) (T := TX4) (N := 6) hx_ hb_ hts hi4_ hown hK_ hP_ 0 rfl rfl 2 (by decide) hf22_ (fun _ h9 => h9) rfl dX4_isChanged_19 ?_
    refine lv_iload_n hx_ hb_ dX4_isChanged_22 rfl (lv_at hl_ 0 rfl) ?_
    refine q_cast (b := ((bx k_ ns_ ln_ y_ : Nat) : Int)) (wI_hit hbx) ?_
    refine lv_iload_n hx_ hb_ dX4_isChanged_23 rfl (lv_at hl_ 2 rfl) ?_
    refine ro_V (As := [.int (iI ((bx k_ ns_ ln_ y_ : Nat) : Int)), .int (iI ((y_ : Nat) : Int))]) (rest := [.ref (ad 1)]) ⟨hx_, hb_, hml, hown, hts⟩ (c_X1_oldIndex l_ G_ cI cZ (ad 7) (ad 8) (ad 9) (ad 10) k_ os_ ns_ ln_ (bx k_ ns_ ln_ y_) ((y_ : Nat) : Int) (by omega) (hbx)) (cwV 2 hts gX4_isChanged_X1_oldIndex rfl rfl rfl (by decide +kernel) ⟨Nat.le_of_ble_eq_true rfl, Nat.le_of_ble_eq_true rfl⟩) (hP_.sub (ws' := [(ad 7, .inr (1, [.ref (ad 8), .ref (ad 9), .ref (ad 10), .int (iI ((k_ : Nat) : Int))])), (ad 8, .inl (cI, 48, .inl (aN os_))), (ad 9, .inl (cI, 48, .inl (aN ns_))), (ad 10, .inl (cI, 48, .inl (aN ln_)))]) [7, 8, 9, 10] rfl) hK_ 0 rfl rfl rfl hl_.1 rfl (Nat.le_of_ble_eq_true rfl) dX4_isChanged_24 ⟨Nat.zero_le _, Nat.zero_le _⟩ ?_
    refine q_cast (b := ((oN os_ ns_ (bx k_ ns_ ln_ y_) y_ : Nat) : Int)) (oN_cast hbi.2.1) ?_
    refine ro_V (As := [.int (iI ((oN os_ ns_ (bx k_ ns_ ln_ y_) y_ : Nat) : Int))]) (rest := []) ⟨hx_, hb_, hml, hown, hts⟩ (c_X3_valueAt l_ G_ cI cZ (ad 1) (ad 2) (ad 3) no_ vo_ fo_ ((oN os_ ns_ (bx k_ ns_ ln_ y_) y_ : Nat) : Int) (by omega) (by omega) (by omega)) (cwV 1 hts gX4_isChanged_X3_valueAt rfl rfl rfl (by decide +kernel) ⟨Nat.le_of_ble_eq_true rfl, Nat.le_of_ble_eq_true rfl⟩) (hP_.sub (ws' := [(ad 1, .inr (3, [.ref (ad 2), .ref (ad 3), .int (iI ((no_ : Nat) : Int))])), (ad 2, .inl (cI, 48, .inl (aI vo_))), (ad 3, .inl (cZ, 48, .inl (aB fo_)))]) [1, 2, 3] rfl) hK_ 0 rfl rfl rfl hl_.1 rfl (Nat.le_of_ble_eq_true rfl) dX4_isChanged_27 ⟨Nat.zero_le _, Nat.zero_le _⟩ ?_
    refine q_cast (b := (vo_ (oN os_ ns_ (bx k_ ns_ ln_ y_) y_))) (vAt_in hbi.1) ?_
    refine lv_aload_n hx_ hb_ dX4_isChanged_30 rfl (lv_at hl_ 1 rfl) ?_
    refine va_get (D := G_) (ci := 4) (v := .ref (ad 4)) (C := RX4) (T := TX4) (N := 6) hx_ hb_ hts hi4_ hown hK_ hP_ 0 rfl rfl 1 (by decide) hf16_ (fun _ h9 => h9) rfl dX4_isChanged_31 ?_
    refine lv_iload_n hx_ hb_ dX4_isChanged_34 rfl (lv_at hl_ 2 rfl) ?_
    refine ro_V (As := [.int (iI ((y_ : Nat) : Int))]) (rest := [.int (iI (vo_ (oN os_ ns_ (bx k_ ns_ ln_ y_) y_)))]) ⟨hx_, hb_, hml, hown, hts⟩ (c_X3_valueAt l_ G_ cI cZ (ad 4) (ad 5) (ad 6) nn_ vn_ fn_ ((y_ : Nat) : Int) (by omega) (by omega) (by omega)) (cwV 1 hts gX4_isChanged_X3_valueAt rfl rfl rfl (by decide +kernel) ⟨Nat.le_of_ble_eq_true rfl, Nat.le_of_ble_eq_true rfl⟩) (hP_.sub (ws' := [(ad 4, .inr (3, [.ref (ad 5), .ref (ad 6), .int (iI ((nn_ : Nat) : Int))])), (ad 5, .inl (cI, 48, .inl (aI vn_))), (ad 6, .inl (cZ, 48, .inl (aB fn_)))]) [4, 5, 6] rfl) hK_ 0 rfl rfl rfl hl_.1 rfl (Nat.le_of_ble_eq_true rfl) dX4_isChanged_35 ⟨Nat.zero_le _, Nat.zero_le _⟩ ?_
    refine q_cast (b := (vn_ y_)) (vAt_in hy0) ?_
    refine q_icmp_eq (tgt := 45) hx_ hb_ dX4_isChanged_38 (by decide) (⟨by omega, by omega⟩) (⟨by omega, by omega⟩) (fun c38_ => ?_) (fun c38_ => ?_)
    · skip
      refine lv_iconst (v := iI ((0 : Nat) : Int)) hx_ hb_ dX4_isChanged_45 rfl ?_
      rw [← hQe]
      refine q_cast (b := bZ false) rfl ?_
      exact W.zret (v := _) hx_ hb_ hr (nar_bZ _) (fun tt1 htt1 hWW1 => ⟨_, rfl, congrArg iI (congrArg bZ (by unfold chg; rw [decide_eq_false (show ¬ ¬ _ from fun h0_ => h0_ c38_)]; simp)), htt1⟩) (fun q_ h_ => absurd h_ List.not_mem_nil) dX4_isChanged_46
    · skip
      refine lv_iconst (v := iI ((1 : Nat) : Int)) hx_ hb_ dX4_isChanged_41 rfl ?_
      refine lv_goto (tgt := 46) hx_ hb_ dX4_isChanged_42 (by decide) ?_
      rw [← hQe]
      refine q_cast (b := bZ true) rfl ?_
      exact W.zret (v := _) hx_ hb_ hr (nar_bZ _) (fun tt1 htt1 hWW1 => ⟨_, rfl, congrArg iI (congrArg bZ (by unfold chg; rw [decide_eq_true hbx, decide_eq_true c38_]; rfl)), htt1⟩) (fun q_ h_ => absurd h_ List.not_mem_nil) dX4_isChanged_46

set_option maxHeartbeats 4000000 in
set_option maxRecDepth 100000 in
/-- isCopied -/
theorem c_X4_isCopied (l_ : Launch) (G_ : va_G) (cI cZ : ClassId) (ad : Nat → Nat) (bu : Bool) (no_ : Nat) (vo_ : Nat → Int) (fo_ : Nat → Bool) (nn_ : Nat) (vn_ : Nat → Int) (fn_ : Nat → Bool) (k_ : Nat) (os_ ns_ ln_ : Nat → Nat) (ot_ nt_ : Nat → Bool) (ru_ : Nat → Nat) (bo_ bn_ bl_ : Nat) (od_ : Nat → Nat) (wt_ dr_ : Nat → Bool) (sp_ : Nat) (y_ : Nat) (hno : no_ ≤ 48) (hnn : nn_ ≤ 48) (hvo : ∀ j_, 0 ≤ vo_ j_ ∧ vo_ j_ ≤ 9999) (hvn : ∀ j_, 0 ≤ vn_ j_ ∧ vn_ j_ ≤ 9999) (hk_ : k_ ≤ 48) (hB_ : B48 k_ os_ ns_ ln_) (hgd : Gd no_ nn_ k_ os_ ns_ ln_) (hco : CoR k_ os_ ns_ ln_ k_ wt_ dr_ od_ sp_) (hy0 : y_ < nn_) : Ro l_ yX4_isCopied wsX4_isCopied ({ frames := 4, cells := 0, slots := 0, locals := 87 }) G_ cI cZ [.ref (ad 0), .int (iI ((y_ : Nat) : Int))] (wRP cI cZ ad bu no_ vo_ fo_ nn_ vn_ fn_ k_ os_ ns_ ln_ ot_ nt_ ru_ bo_ bn_ bl_ od_ wt_ dr_ sp_) (bZ (isc k_ os_ ns_ ln_ y_)) := by
  refine Met.ofW (cc := cX4_isCopied) (maxL := 3) (ret := (some .boolean)) (by decide) rfl ?_
  intro p_ e_ s_ m_ args below meth c_ s₁ B hml hv
  obtain ⟨hargs, hP_, hK_⟩ := hv
  have hx_ := B.exec
  have hb_ := B.bytes
  have hr := B.returns
  have hts := atoms_spec (ws := wsX4_isCopied) B.pre
  have hown : s_.vm.findClass RX4 = some m_.cls := findClass_of_methodNamed B.named
  have hlocks := B.notSynchronized
  have hi4_ : ∀ w_ ∈ wsX40, w_ ∈ wsX4_isCopied := by decide +kernel
  have hf22_ := hts (.fieldLink RX4 22 "RelocatingPatch" "blocks" "LRelocatingPatch$Blocks;") (by decide +kernel)
  have hf36_ := hts (.fieldLink RX4 36 "RelocatingPatch" "copyOrder" "LRelocatingPatch$CopyOrder;") (by decide +kernel)
  have hP_ : va_P G_ vwCl [(ad 0, .inr (4, [.ref (ad 1), .ref (ad 4), .ref (ad 7), .ref (ad 11), .ref (ad 15), .int (iI (bZ bu))])), (ad 1, .inr (3, [.ref (ad 2), .ref (ad 3), .int (iI ((no_ : Nat) : Int))])), (ad 2, .inl (cI, 48, .inl (aI vo_))), (ad 3, .inl (cZ, 48, .inl (aB fo_))), (ad 4, .inr (3, [.ref (ad 5), .ref (ad 6), .int (iI ((nn_ : Nat) : Int))])), (ad 5, .inl (cI, 48, .inl (aI vn_))), (ad 6, .inl (cZ, 48, .inl (aB fn_))), (ad 7, .inr (1, [.ref (ad 8), .ref (ad 9), .ref (ad 10), .int (iI ((k_ : Nat) : Int))])), (ad 8, .inl (cI, 48, .inl (aN os_))), (ad 9, .inl (cI, 48, .inl (aN ns_))), (ad 10, .inl (cI, 48, .inl (aN ln_))), (ad 11, .inr (0, [.ref (ad 12), .ref (ad 13), .ref (ad 14), .int (iI ((bo_ : Nat) : Int)), .int (iI ((bn_ : Nat) : Int)), .int (iI ((bl_ : Nat) : Int))])), (ad 12, .inl (cZ, 48, .inl (aB ot_))), (ad 13, .inl (cZ, 48, .inl (aB nt_))), (ad 14, .inl (cI, 49, .inl (aN ru_))), (ad 15, .inr (2, [.ref (ad 16), .ref (ad 17), .ref (ad 18), .int (iI ((sp_ : Nat) : Int))])), (ad 16, .inl (cI, 48, .inl (aN od_))), (ad 17, .inl (cZ, 48, .inl (aB wt_))), (ad 18, .inl (cZ, 48, .inl (aB dr_)))] s_.heap := hP_
  generalize hQe : MQ below (vp_Si (fun r_ => r_ = iI (bZ (isc k_ os_ ns_ ln_ y_)))) args s_ 0 0 (fun _ => False) = Q_
  rw [show entryFrame m_ args 3 = entryFrame m_ ([.ref (ad 0), .int (iI ((y_ : Nat) : Int))] : List Value).toArray 3 from by rw [hargs], lg_entry_eq]
  have hl_ := lv_entry ([.ref (ad 0), .int (iI ((y_ : Nat) : Int))]) (n := 3) (Nat.le_of_ble_eq_true rfl)
  generalize (lg_sl ([.ref (ad 0), .int (iI ((y_ : Nat) : Int))]) ++ List.replicate (3 - (lg_sl ([.ref (ad 0), .int (iI ((y_ : Nat) : Int))])).length) Slot.unset).toArray = ls_ at hl_ ⊢
  have hl_ : lv_has ls_ 3 [(0, .ref (ad 0)), (1, .int (iI ((y_ : Nat) : Int)))] := hl_
  refine lv_aload_n hx_ hb_ dX4_isCopied_0 rfl (lv_at hl_ 0 rfl) ?_
  refine va_get (D := G_) (ci := 4) (v := .ref (ad 7)) (C := RX4) (T := TX4) (N := 6) hx_ hb_ hts hi4_ hown hK_ hP_ 0 rfl rfl 2 (by decide) hf22_ (fun _ h9 => h9) rfl dX4_isCopied_1 ?_
  refine lv_iload_n hx_ hb_ dX4_isCopied_4 rfl (lv_at hl_ 1 rfl) ?_
  refine ro_V (As := [.int (iI ((y_ : Nat) : Int))]) (rest := []) ⟨hx_, hb_, hml, hown, hts⟩ (c_X1_withNewIndex l_ G_ cI cZ (ad 7) (ad 8) (ad 9) (ad 10) k_ os_ ns_ ln_ ((y_ : Nat) : Int) (by omega) (hB_) (by omega) (by omega)) (cwV 1 hts gX4_isCopied_X1_withNewIndex rfl rfl rfl (by decide +kernel) ⟨Nat.le_of_ble_eq_true rfl, Nat.le_of_ble_eq_true rfl⟩) (hP_.sub (ws' := [(ad 7, .inr (1, [.ref (ad 8), .ref (ad 9), .ref (ad 10), .int (iI ((k_ : Nat) : Int))])), (ad 8, .inl (cI, 48, .inl (aN os_))), (ad 9, .inl (cI, 48, .inl (aN ns_))), (ad 10, .inl (cI, 48, .inl (aN ln_)))]) [7, 8, 9, 10] rfl) hK_ 0 rfl rfl rfl hl_.1 rfl (Nat.le_of_ble_eq_true rfl) dX4_isCopied_5 ⟨Nat.zero_le _, Nat.zero_le _⟩ ?_
  refine lv_istore_n (lv' := [(2, .int (iI (wI (wni k_ ns_ ln_ ((y_ : Nat) : Int)) k_ (-1)))), (0, .ref (ad 0)), (1, .int (iI ((y_ : Nat) : Int)))]) hx_ hb_ dX4_isCopied_8 rfl hl_ (by decide) rfl (fun ls_ hl_ => ?_)
  refine lv_iload_n hx_ hb_ dX4_isCopied_9 rfl (lv_at hl_ 0 rfl) ?_
  refine lv_iconst (v := iI (-1)) hx_ hb_ dX4_isCopied_10 rfl ?_
  refine q_icmp_eq (tgt := 29) hx_ hb_ dX4_isCopied_11 (by decide) (wI_R hk_ ⟨by decide, by decide⟩) (⟨by decide, by decide⟩) (fun c11_ => ?_) (fun c11_ => ?_)
  · skip
    refine lv_iconst (v := iI ((0 : Nat) : Int)) hx_ hb_ dX4_isCopied_29 rfl ?_
    rw [← hQe]
    refine q_cast (b := bZ false) rfl ?_
    exact W.zret (v := _) hx_ hb_ hr (nar_bZ _) (fun tt1 htt1 hWW1 => ⟨_, rfl, congrArg iI (congrArg bZ (by unfold isc bx; rw [decide_eq_false (wI_nlt (by decide) c11_)]; rfl)), htt1⟩) (fun q_ h_ => absurd h_ List.not_mem_nil) dX4_isCopied_30
  · skip
    have hbx : bx k_ ns_ ln_ y_ < k_ := wI_ne c11_
    have hd0 := hco.2.1 (bx k_ ns_ ln_ y_) hbx
    refine lv_aload_n hx_ hb_ dX4_isCopied_14 rfl (lv_at hl_ 1 rfl) ?_
    refine va_get (D := G_) (ci := 4) (v := .ref (ad 15)) (C := RX4) (T := TX4) (N := 6) hx_ hb_ hts hi4_ hown hK_ hP_ 0 rfl rfl 4 (by decide) hf36_ (fun _ h9 => h9) rfl dX4_isCopied_15 ?_
    refine lv_iload_n hx_ hb_ dX4_isCopied_18 rfl (lv_at hl_ 0 rfl) ?_
    refine q_cast (b := ((bx k_ ns_ ln_ y_ : Nat) : Int)) (wI_hit hbx) ?_
    refine ro_V (As := [.int (iI ((bx k_ ns_ ln_ y_ : Nat) : Int))]) (rest := []) ⟨hx_, hb_, hml, hown, hts⟩ (c_X2_drops l_ G_ cI cZ (ad 15) (ad 16) (ad 17) (ad 18) od_ wt_ dr_ sp_ (bx k_ ns_ ln_ y_) (by omega)) (cwV 1 hts gX4_isCopied_X2_drops rfl rfl rfl (by decide +kernel) ⟨Nat.le_of_ble_eq_true rfl, Nat.le_of_ble_eq_true rfl⟩) (hP_.sub (ws' := [(ad 15, .inr (2, [.ref (ad 16), .ref (ad 17), .ref (ad 18), .int (iI ((sp_ : Nat) : Int))])), (ad 16, .inl (cI, 48, .inl (aN od_))), (ad 17, .inl (cZ, 48, .inl (aB wt_))), (ad 18, .inl (cZ, 48, .inl (aB dr_)))]) [15, 16, 17, 18] rfl) hK_ 0 rfl rfl rfl hl_.1 rfl (Nat.le_of_ble_eq_true rfl) dX4_isCopied_19 ⟨Nat.zero_le _, Nat.zero_le _⟩ ?_
    refine q_bt (tgt := 29) hx_ hb_ dX4_isCopied_22 (by decide) (fun c22_ => ?_) (fun c22_ => ?_)
    · skip
      refine lv_iconst (v := iI ((0 : Nat) : Int)) hx_ hb_ dX4_isCopied_29 rfl ?_
      rw [← hQe]
      refine q_cast (b := bZ false) rfl ?_
      exact W.zret (v := _) hx_ hb_ hr (nar_bZ _) (fun tt1 htt1 hWW1 => ⟨_, rfl, congrArg iI (congrArg bZ (by rw [c22_] at hd0; unfold isc; rw [decide_eq_false (show ¬ ¬ _ from fun h0_ => h0_ (of_decide_eq_true hd0.symm))]; simp)), htt1⟩) (fun q_ h_ => absurd h_ List.not_mem_nil) dX4_isCopied_30
    · skip
      refine lv_iconst (v := iI ((1 : Nat) : Int)) hx_ hb_ dX4_isCopied_25 rfl ?_
      refine lv_goto (tgt := 30) hx_ hb_ dX4_isCopied_26 (by decide) ?_
      rw [← hQe]
      refine q_cast (b := bZ true) rfl ?_
      exact W.zret (v := _) hx_ hb_ hr (nar_bZ _) (fun tt1 htt1 hWW1 => ⟨_, rfl, congrArg iI (congrArg bZ (by rw [c22_] at hd0; unfold isc; rw [decide_eq_true hbx, decide_eq_true (of_decide_eq_false hd0.symm)]; rfl)), htt1⟩) (fun q_ h_ => absurd h_ List.not_mem_nil) dX4_isCopied_30

set_option maxHeartbeats 4000000 in
set_option maxRecDepth 100000 in
/-- inPlaceWordCost -/
theorem c_X4_inPlaceWordCost (l_ : Launch) (G_ : va_G) (cI cZ : ClassId) (ad : Nat → Nat) (bu : Bool) (no_ : Nat) (vo_ : Nat → Int) (fo_ : Nat → Bool) (nn_ : Nat) (vn_ : Nat → Int) (fn_ : Nat → Bool) (k_ : Nat) (os_ ns_ ln_ : Nat → Nat) (ot_ nt_ : Nat → Bool) (ru_ : Nat → Nat) (bo_ bn_ bl_ : Nat) (od_ : Nat → Nat) (wt_ dr_ : Nat → Bool) (sp_ : Nat) (y_ : Nat) (hno : no_ ≤ 48) (hnn : nn_ ≤ 48) (hvo : ∀ j_, 0 ≤ vo_ j_ ∧ vo_ j_ ≤ 9999) (hvn : ∀ j_, 0 ≤ vn_ j_ ∧ vn_ j_ ≤ 9999) (hk_ : k_ ≤ 48) (hB_ : B48 k_ os_ ns_ ln_) (hgd : Gd no_ nn_ k_ os_ ns_ ln_) (hco : CoR k_ os_ ns_ ln_ k_ wt_ dr_ od_ sp_) (hy0 : y_ < nn_) : Ro l_ yX4_inPlaceWordCost wsX4_inPlaceWordCost ({ frames := 5, cells := 0, slots := 0, locals := 112 }) G_ cI cZ [.ref (ad 0), .int (iI ((y_ : Nat) : Int))] (wRP cI cZ ad bu no_ vo_ fo_ nn_ vn_ fn_ k_ os_ ns_ ln_ ot_ nt_ ru_ bo_ bn_ bl_ od_ wt_ dr_ sp_) ((ipc vo_ fo_ vn_ k_ os_ ns_ ln_ y_ : Nat) : Int) := by
  refine Met.ofW (cc := cX4_inPlaceWordCost) (maxL := 2) (ret := (some .int)) (by decide) rfl ?_
  intro p_ e_ s_ m_ args below meth c_ s₁ B hml hv
  obtain ⟨hargs, hP_, hK_⟩ := hv
  have hx_ := B.exec
  have hb_ := B.bytes
  have hr := B.returns
  have hts := atoms_spec (ws := wsX4_inPlaceWordCost) B.pre
  have hown : s_.vm.findClass RX4 = some m_.cls := findClass_of_methodNamed B.named
  have hlocks := B.notSynchronized
  have hP_ : va_P G_ vwCl [(ad 0, .inr (4, [.ref (ad 1), .ref (ad 4), .ref (ad 7), .ref (ad 11), .ref (ad 15), .int (iI (bZ bu))])), (ad 1, .inr (3, [.ref (ad 2), .ref (ad 3), .int (iI ((no_ : Nat) : Int))])), (ad 2, .inl (cI, 48, .inl (aI vo_))), (ad 3, .inl (cZ, 48, .inl (aB fo_))), (ad 4, .inr (3, [.ref (ad 5), .ref (ad 6), .int (iI ((nn_ : Nat) : Int))])), (ad 5, .inl (cI, 48, .inl (aI vn_))), (ad 6, .inl (cZ, 48, .inl (aB fn_))), (ad 7, .inr (1, [.ref (ad 8), .ref (ad 9), .ref (ad 10), .int (iI ((k_ : Nat) : Int))])), (ad 8, .inl (cI, 48, .inl (aN os_))), (ad 9, .inl (cI, 48, .inl (aN ns_))), (ad 10, .inl (cI, 48, .inl (aN ln_))), (ad 11, .inr (0, [.ref (ad 12), .ref (ad 13), .ref (ad 14), .int (iI ((bo_ : Nat) : Int)), .int (iI ((bn_ : Nat) : Int)), .int (iI ((bl_ : Nat) : Int))])), (ad 12, .inl (cZ, 48, .inl (aB ot_))), (ad 13, .inl (cZ, 48, .inl (aB nt_))), (ad 14, .inl (cI, 49, .inl (aN ru_))), (ad 15, .inr (2, [.ref (ad 16), .ref (ad 17), .ref (ad 18), .int (iI ((sp_ : Nat) : Int))])), (ad 16, .inl (cI, 48, .inl (aN od_))), (ad 17, .inl (cZ, 48, .inl (aB wt_))), (ad 18, .inl (cZ, 48, .inl (aB dr_)))] s_.heap := hP_
  generalize hQe : MQ below (vp_Si (fun r_ => r_ = iI ((ipc vo_ fo_ vn_ k_ os_ ns_ ln_ y_ : Nat) : Int))) args s_ 0 0 (fun _ => False) = Q_
  rw [show entryFrame m_ args 2 = entryFrame m_ ([.ref (ad 0), .int (iI ((y_ : Nat) : Int))] : List Value).toArray 2 from by rw [hargs], lg_entry_eq]
  have hl_ := lv_entry ([.ref (ad 0), .int (iI ((y_ : Nat) : Int))]) (n := 2) (Nat.le_of_ble_eq_true rfl)
  generalize (lg_sl ([.ref (ad 0), .int (iI ((y_ : Nat) : Int))]) ++ List.replicate (2 - (lg_sl ([.ref (ad 0), .int (iI ((y_ : Nat) : Int))])).length) Slot.unset).toArray = ls_ at hl_ ⊢
  have hl_ : lv_has ls_ 2 [(0, .ref (ad 0)), (1, .int (iI ((y_ : Nat) : Int)))] := hl_
  refine lv_aload_n hx_ hb_ dX4_inPlaceWordCost_0 rfl (lv_at hl_ 0 rfl) ?_
  refine lv_iload_n hx_ hb_ dX4_inPlaceWordCost_1 rfl (lv_at hl_ 1 rfl) ?_
  refine ro_V (As := [.int (iI ((y_ : Nat) : Int))]) (rest := []) ⟨hx_, hb_, hml, hown, hts⟩ (c_X4_isCopied l_ G_ cI cZ ad bu no_ vo_ fo_ nn_ vn_ fn_ k_ os_ ns_ ln_ ot_ nt_ ru_ bo_ bn_ bl_ od_ wt_ dr_ sp_ y_ hno hnn hvo hvn hk_ hB_ hgd hco (by omega)) (cwV 1 hts gX4_inPlaceWordCost_X4_isCopied rfl rfl rfl (by decide +kernel) ⟨Nat.le_of_ble_eq_true rfl, Nat.le_of_ble_eq_true rfl⟩) (hP_.sub (ws' := [(ad 0, .inr (4, [.ref (ad 1), .ref (ad 4), .ref (ad 7), .ref (ad 11), .ref (ad 15), .int (iI (bZ bu))])), (ad 1, .inr (3, [.ref (ad 2), .ref (ad 3), .int (iI ((no_ : Nat) : Int))])), (ad 2, .inl (cI, 48, .inl (aI vo_))), (ad 3, .inl (cZ, 48, .inl (aB fo_))), (ad 4, .inr (3, [.ref (ad 5), .ref (ad 6), .int (iI ((nn_ : Nat) : Int))])), (ad 5, .inl (cI, 48, .inl (aI vn_))), (ad 6, .inl (cZ, 48, .inl (aB fn_))), (ad 7, .inr (1, [.ref (ad 8), .ref (ad 9), .ref (ad 10), .int (iI ((k_ : Nat) : Int))])), (ad 8, .inl (cI, 48, .inl (aN os_))), (ad 9, .inl (cI, 48, .inl (aN ns_))), (ad 10, .inl (cI, 48, .inl (aN ln_))), (ad 11, .inr (0, [.ref (ad 12), .ref (ad 13), .ref (ad 14), .int (iI ((bo_ : Nat) : Int)), .int (iI ((bn_ : Nat) : Int)), .int (iI ((bl_ : Nat) : Int))])), (ad 12, .inl (cZ, 48, .inl (aB ot_))), (ad 13, .inl (cZ, 48, .inl (aB nt_))), (ad 14, .inl (cI, 49, .inl (aN ru_))), (ad 15, .inr (2, [.ref (ad 16), .ref (ad 17), .ref (ad 18), .int (iI ((sp_ : Nat) : Int))])), (ad 16, .inl (cI, 48, .inl (aN od_))), (ad 17, .inl (cZ, 48, .inl (aB wt_))), (ad 18, .inl (cZ, 48, .inl (aB dr_)))]) [0, 1, 2, 3, 4, 5, 6, 7, 8, 9, 10, 11, 12, 13, 14, 15, 16, 17, 18] rfl) hK_ 0 rfl rfl rfl hl_.1 rfl (Nat.le_of_ble_eq_true rfl) dX4_inPlaceWordCost_2 ⟨Nat.zero_le _, Nat.zero_le _⟩ ?_
  refine q_bt (tgt := 10) hx_ hb_ dX4_inPlaceWordCost_5 (by decide) (fun c5_ => ?_) (fun c5_ => ?_)
  · skip
    refine lv_aload_n hx_ hb_ dX4_inPlaceWordCost_10 rfl (lv_at hl_ 0 rfl) ?_
    refine lv_iload_n hx_ hb_ dX4_inPlaceWordCost_11 rfl (lv_at hl_ 1 rfl) ?_
    refine ro_V (As := [.int (iI ((y_ : Nat) : Int))]) (rest := []) ⟨hx_, hb_, hml, hown, hts⟩ (c_X4_needsCorrection l_ G_ cI cZ ad bu no_ vo_ fo_ nn_ vn_ fn_ k_ os_ ns_ ln_ ot_ nt_ ru_ bo_ bn_ bl_ od_ wt_ dr_ sp_ y_ hno hnn hvo hvn hk_ hB_ hgd (by omega)) (cwV 1 hts gX4_inPlaceWordCost_X4_needsCorrection rfl rfl rfl (by decide +kernel) ⟨Nat.le_of_ble_eq_true rfl, Nat.le_of_ble_eq_true rfl⟩) (hP_.sub (ws' := [(ad 0, .inr (4, [.ref (ad 1), .ref (ad 4), .ref (ad 7), .ref (ad 11), .ref (ad 15), .int (iI (bZ bu))])), (ad 1, .inr (3, [.ref (ad 2), .ref (ad 3), .int (iI ((no_ : Nat) : Int))])), (ad 2, .inl (cI, 48, .inl (aI vo_))), (ad 3, .inl (cZ, 48, .inl (aB fo_))), (ad 4, .inr (3, [.ref (ad 5), .ref (ad 6), .int (iI ((nn_ : Nat) : Int))])), (ad 5, .inl (cI, 48, .inl (aI vn_))), (ad 6, .inl (cZ, 48, .inl (aB fn_))), (ad 7, .inr (1, [.ref (ad 8), .ref (ad 9), .ref (ad 10), .int (iI ((k_ : Nat) : Int))])), (ad 8, .inl (cI, 48, .inl (aN os_))), (ad 9, .inl (cI, 48, .inl (aN ns_))), (ad 10, .inl (cI, 48, .inl (aN ln_))), (ad 11, .inr (0, [.ref (ad 12), .ref (ad 13), .ref (ad 14), .int (iI ((bo_ : Nat) : Int)), .int (iI ((bn_ : Nat) : Int)), .int (iI ((bl_ : Nat) : Int))])), (ad 12, .inl (cZ, 48, .inl (aB ot_))), (ad 13, .inl (cZ, 48, .inl (aB nt_))), (ad 14, .inl (cI, 49, .inl (aN ru_))), (ad 15, .inr (2, [.ref (ad 16), .ref (ad 17), .ref (ad 18), .int (iI ((sp_ : Nat) : Int))])), (ad 16, .inl (cI, 48, .inl (aN od_))), (ad 17, .inl (cZ, 48, .inl (aB wt_))), (ad 18, .inl (cZ, 48, .inl (aB dr_)))]) [0, 1, 2, 3, 4, 5, 6, 7, 8, 9, 10, 11, 12, 13, 14, 15, 16, 17, 18] rfl) hK_ 0 rfl rfl rfl hl_.1 rfl (Nat.le_of_ble_eq_true rfl) dX4_inPlaceWordCost_12 ⟨Nat.zero_le _, Nat.zero_le _⟩ ?_
    refine q_bf (tgt := 22) hx_ hb_ dX4_inPlaceWordCost_15 (by decide) (fun c15_ => ?_) (fun c15_ => ?_)
    · skip
      refine lv_iconst (v := iI ((0 : Nat) : Int)) hx_ hb_ dX4_inPlaceWordCost_22 rfl ?_
      rw [← hQe]
      exact W.iret hx_ hb_ hr (fun tt1 htt1 hWW1 => ⟨_, rfl, congrArg iI (by unfold ipc; rw [if_pos c5_, if_neg (by rw [c15_]; decide)]), htt1⟩) (fun q_ h_ => absurd h_ List.not_mem_nil) dX4_inPlaceWordCost_23
    · skip
      refine lv_iconst (v := iI ((2 : Nat) : Int)) hx_ hb_ dX4_inPlaceWordCost_18 rfl ?_
      refine lv_goto (tgt := 23) hx_ hb_ dX4_inPlaceWordCost_19 (by decide) ?_
      rw [← hQe]
      exact W.iret hx_ hb_ hr (fun tt1 htt1 hWW1 => ⟨_, rfl, congrArg iI (by unfold ipc; rw [if_pos c5_, if_pos c15_]), htt1⟩) (fun q_ h_ => absurd h_ List.not_mem_nil) dX4_inPlaceWordCost_23
  · skip
    refine lv_iconst (v := iI ((1 : Nat) : Int)) hx_ hb_ dX4_inPlaceWordCost_8 rfl ?_
    rw [← hQe]
    exact W.iret hx_ hb_ hr (fun tt1 htt1 hWW1 => ⟨_, rfl, congrArg iI (by unfold ipc; rw [if_neg (by rw [c5_]; decide)]), htt1⟩) (fun q_ h_ => absurd h_ List.not_mem_nil) dX4_inPlaceWordCost_9

set_option maxHeartbeats 4000000 in
set_option maxRecDepth 100000 in
/-- corrections -/
theorem c_X4_corrections (l_ : Launch) (G_ : va_G) (cI cZ : ClassId) (ad : Nat → Nat) (bu : Bool) (no_ : Nat) (vo_ : Nat → Int) (fo_ : Nat → Bool) (nn_ : Nat) (vn_ : Nat → Int) (fn_ : Nat → Bool) (k_ : Nat) (os_ ns_ ln_ : Nat → Nat) (ot_ nt_ : Nat → Bool) (ru_ : Nat → Nat) (bo_ bn_ bl_ : Nat) (od_ : Nat → Nat) (wt_ dr_ : Nat → Bool) (sp_ : Nat)  (hno : no_ ≤ 48) (hnn : nn_ ≤ 48) (hvo : ∀ j_, 0 ≤ vo_ j_ ∧ vo_ j_ ≤ 9999) (hvn : ∀ j_, 0 ≤ vn_ j_ ∧ vn_ j_ ≤ 9999) (hk_ : k_ ≤ 48) (hB_ : B48 k_ os_ ns_ ln_) (hgd : Gd no_ nn_ k_ os_ ns_ ln_) : Ro l_ yX4_corrections wsX4_corrections ({ frames := 5, cells := 0, slots := 0, locals := 112 }) G_ cI cZ [.ref (ad 0)] (wRP cI cZ ad bu no_ vo_ fo_ nn_ vn_ fn_ k_ os_ ns_ ln_ ot_ nt_ ru_ bo_ bn_ bl_ od_ wt_ dr_ sp_) ((cnt (ncr vo_ fo_ vn_ k_ os_ ns_ ln_) nn_ : Nat) : Int) := by
  refine Met.ofW (cc := cX4_corrections) (maxL := 3) (ret := (some .int)) (by decide) rfl ?_
  intro p_ e_ s_ m_ args below meth c_ s₁ B hml hv
  obtain ⟨hargs, hP_, hK_⟩ := hv
  have hx_ := B.exec
  have hb_ := B.bytes
  have hr := B.returns
  have hts := atoms_spec (ws := wsX4_corrections) B.pre
  have hown : s_.vm.findClass RX4 = some m_.cls := findClass_of_methodNamed B.named
  have hlocks := B.notSynchronized
  have hi4_ : ∀ w_ ∈ wsX40, w_ ∈ wsX4_corrections := by decide +kernel
  have hf16_ := hts (.fieldLink RX4 16 "RelocatingPatch" "newImage" "LRelocatingPatch$Image;") (by decide +kernel)
  have hP_ : va_P G_ vwCl [(ad 0, .inr (4, [.ref (ad 1), .ref (ad 4), .ref (ad 7), .ref (ad 11), .ref (ad 15), .int (iI (bZ bu))])), (ad 1, .inr (3, [.ref (ad 2), .ref (ad 3), .int (iI ((no_ : Nat) : Int))])), (ad 2, .inl (cI, 48, .inl (aI vo_))), (ad 3, .inl (cZ, 48, .inl (aB fo_))), (ad 4, .inr (3, [.ref (ad 5), .ref (ad 6), .int (iI ((nn_ : Nat) : Int))])), (ad 5, .inl (cI, 48, .inl (aI vn_))), (ad 6, .inl (cZ, 48, .inl (aB fn_))), (ad 7, .inr (1, [.ref (ad 8), .ref (ad 9), .ref (ad 10), .int (iI ((k_ : Nat) : Int))])), (ad 8, .inl (cI, 48, .inl (aN os_))), (ad 9, .inl (cI, 48, .inl (aN ns_))), (ad 10, .inl (cI, 48, .inl (aN ln_))), (ad 11, .inr (0, [.ref (ad 12), .ref (ad 13), .ref (ad 14), .int (iI ((bo_ : Nat) : Int)), .int (iI ((bn_ : Nat) : Int)), .int (iI ((bl_ : Nat) : Int))])), (ad 12, .inl (cZ, 48, .inl (aB ot_))), (ad 13, .inl (cZ, 48, .inl (aB nt_))), (ad 14, .inl (cI, 49, .inl (aN ru_))), (ad 15, .inr (2, [.ref (ad 16), .ref (ad 17), .ref (ad 18), .int (iI ((sp_ : Nat) : Int))])), (ad 16, .inl (cI, 48, .inl (aN od_))), (ad 17, .inl (cZ, 48, .inl (aB wt_))), (ad 18, .inl (cZ, 48, .inl (aB dr_)))] s_.heap := hP_
  generalize hQe : MQ below (vp_Si (fun r_ => r_ = iI ((cnt (ncr vo_ fo_ vn_ k_ os_ ns_ ln_) nn_ : Nat) : Int))) args s_ 0 0 (fun _ => False) = Q_
  have lp4 : ∀ (n_ : Nat) (i_ : Nat) (q_ : Nat) (ls_ : Array Slot), (i_ ≤ nn_) → (nn_ + 1 ≤ i_ + n_) → (q_ = cnt (ncr vo_ fo_ vn_ k_ os_ ns_ ln_) i_) → lv_has ls_ 3 [(0, .ref (ad 0)), (1, .int (iI ((q_ : Nat) : Int))), (2, .int (iI ((i_ : Nat) : Int)))] → W p_ l_ e_ (headSpec wsX4_corrections ({ frames := 5, cells := 0, slots := 0, locals := 112 })).room s_ m_ args below meth c_ s_.heap [] 0 0 Q_ (F0 m_ 4 ls_ []) := by
    intro n_
    induction n_ with
    | zero =>
      intro i_ q_ ls_ hi_ hn_ hq_
      exact False.elim (by omega)
    | succ n_ ih_ =>
      intro i_ q_ ls_ hi_ hn_ hq_ hl_
      refine lv_iload_n hx_ hb_ dX4_corrections_4 rfl (lv_at hl_ 2 rfl) ?_
      refine lv_aload_n hx_ hb_ dX4_corrections_5 rfl (lv_at hl_ 0 rfl) ?_
      refine va_get (D := G_) (ci := 4) (v := .ref (ad 4)) (C := RX4) (T := TX4) (N := 6) hx_ hb_ hts hi4_ hown hK_ hP_ 0 rfl rfl 1 (by decide) hf16_ (fun _ h9 => h9) rfl dX4_corrections_6 ?_
      refine ro_V (As := []) (rest := [.int (iI ((i_ : Nat) : Int))]) ⟨hx_, hb_, hml, hown, hts⟩ (c_X3_size l_ G_ cI cZ (ad 4) (ad 5) (ad 6) nn_ vn_ fn_) (cwV 0 hts gX4_corrections_X3_size rfl rfl rfl (by decide +kernel) ⟨Nat.le_of_ble_eq_true rfl, Nat.le_of_ble_eq_true rfl⟩) (hP_.sub (ws' := [(ad 4, .inr (3, [.ref (ad 5), .ref (ad 6), .int (iI ((nn_ : Nat) : Int))])), (ad 5, .inl (cI, 48, .inl (aI vn_))), (ad 6, .inl (cZ, 48, .inl (aB fn_)))]) [4, 5, 6] rfl) hK_ 0 rfl rfl rfl hl_.1 rfl (Nat.le_of_ble_eq_true rfl) dX4_corrections_9 ⟨Nat.zero_le _, Nat.zero_le _⟩ ?_
      refine q_icmp_ge (tgt := 32) hx_ hb_ dX4_corrections_12 (by decide) (⟨by omega, by omega⟩) (⟨by omega, by omega⟩) (fun c12_ => ?_) (fun c12_ => ?_)
      · skip
        refine lv_iload_n hx_ hb_ dX4_corrections_32 rfl (lv_at hl_ 1 rfl) ?_
        rw [← hQe]
        exact W.iret hx_ hb_ hr (fun tt1 htt1 hWW1 => ⟨_, rfl, congrArg iI (by rw [hq_, show i_ = nn_ from by omega]), htt1⟩) (fun q_ h_ => absurd h_ List.not_mem_nil) dX4_corrections_33
      · skip
        refine lv_aload_n hx_ hb_ dX4_corrections_15 rfl (lv_at hl_ 0 rfl) ?_
        refine lv_iload_n hx_ hb_ dX4_corrections_16 rfl (lv_at hl_ 2 rfl) ?_
        refine ro_V (As := [.int (iI ((i_ : Nat) : Int))]) (rest := []) ⟨hx_, hb_, hml, hown, hts⟩ (c_X4_needsCorrection l_ G_ cI cZ ad bu no_ vo_ fo_ nn_ vn_ fn_ k_ os_ ns_ ln_ ot_ nt_ ru_ bo_ bn_ bl_ od_ wt_ dr_ sp_ i_ hno hnn hvo hvn hk_ hB_ hgd (by omega)) (cwV 1 hts gX4_corrections_X4_needsCorrection rfl rfl rfl (by decide +kernel) ⟨Nat.le_of_ble_eq_true rfl, Nat.le_of_ble_eq_true rfl⟩) (hP_.sub (ws' := [(ad 0, .inr (4, [.ref (ad 1), .ref (ad 4), .ref (ad 7), .ref (ad 11), .ref (ad 15), .int (iI (bZ bu))])), (ad 1, .inr (3, [.ref (ad 2), .ref (ad 3), .int (iI ((no_ : Nat) : Int))])), (ad 2, .inl (cI, 48, .inl (aI vo_))), (ad 3, .inl (cZ, 48, .inl (aB fo_))), (ad 4, .inr (3, [.ref (ad 5), .ref (ad 6), .int (iI ((nn_ : Nat) : Int))])), (ad 5, .inl (cI, 48, .inl (aI vn_))), (ad 6, .inl (cZ, 48, .inl (aB fn_))), (ad 7, .inr (1, [.ref (ad 8), .ref (ad 9), .ref (ad 10), .int (iI ((k_ : Nat) : Int))])), (ad 8, .inl (cI, 48, .inl (aN os_))), (ad 9, .inl (cI, 48, .inl (aN ns_))), (ad 10, .inl (cI, 48, .inl (aN ln_))), (ad 11, .inr (0, [.ref (ad 12), .ref (ad 13), .ref (ad 14), .int (iI ((bo_ : Nat) : Int)), .int (iI ((bn_ : Nat) : Int)), .int (iI ((bl_ : Nat) : Int))])), (ad 12, .inl (cZ, 48, .inl (aB ot_))), (ad 13, .inl (cZ, 48, .inl (aB nt_))), (ad 14, .inl (cI, 49, .inl (aN ru_))), (ad 15, .inr (2, [.ref (ad 16), .ref (ad 17), .ref (ad 18), .int (iI ((sp_ : Nat) : Int))])), (ad 16, .inl (cI, 48, .inl (aN od_))), (ad 17, .inl (cZ, 48, .inl (aB wt_))), (ad 18, .inl (cZ, 48, .inl (aB dr_)))]) [0, 1, 2, 3, 4, 5, 6, 7, 8, 9, 10, 11, 12, 13, 14, 15, 16, 17, 18] rfl) hK_ 0 rfl rfl rfl hl_.1 rfl (Nat.le_of_ble_eq_true rfl) dX4_corrections_17 ⟨Nat.zero_le _, Nat.zero_le _⟩ ?_
        refine q_bf (tgt := 26) hx_ hb_ dX4_corrections_20 (by decide) (fun c20_ => ?_) (fun c20_ => ?_)
        · skip
          refine q_iinc (k := 2) ((i_ + 1 : Nat) : Int) hx_ hb_ dX4_corrections_26 hl_ rfl (rfl) (by decide) (lv' := [(2, .int (iI ((i_ + 1 : Nat) : Int))), (0, .ref (ad 0)), (1, .int (iI ((q_ : Nat) : Int)))]) rfl (fun ls_ hl_ => ?_)
          refine lv_goto (tgt := 4) hx_ hb_ dX4_corrections_29 (by decide) ?_
          exact ih_ (i_ + 1) q_ ls_ (by omega) (by omega) (by rw [hq_, cnt_s0 c20_]) (lv_sub hl_ [1, 2, 0] rfl)
        · skip
          refine q_iinc (k := 1) ((q_ + 1 : Nat) : Int) hx_ hb_ dX4_corrections_23 hl_ rfl (rfl) (by decide) (lv' := [(1, .int (iI ((q_ + 1 : Nat) : Int))), (0, .ref (ad 0)), (2, .int (iI ((i_ : Nat) : Int)))]) rfl (fun ls_ hl_ => ?_)
          refine q_iinc (k := 2) ((i_ + 1 : Nat) : Int) hx_ hb_ dX4_corrections_26 hl_ rfl (rfl) (by decide) (lv' := [(2, .int (iI ((i_ + 1 : Nat) : Int))), (1, .int (iI ((q_ + 1 : Nat) : Int))), (0, .ref (ad 0))]) rfl (fun ls_ hl_ => ?_)
          refine lv_goto (tgt := 4) hx_ hb_ dX4_corrections_29 (by decide) ?_
          exact ih_ (i_ + 1) (q_ + 1) ls_ (by omega) (by omega) (by rw [hq_, cnt_s1 c20_]) (lv_sub hl_ [2, 1, 0] rfl)
  rw [show entryFrame m_ args 3 = entryFrame m_ ([.ref (ad 0)] : List Value).toArray 3 from by rw [hargs], lg_entry_eq]
  have hl_ := lv_entry ([.ref (ad 0)]) (n := 3) (Nat.le_of_ble_eq_true rfl)
  generalize (lg_sl ([.ref (ad 0)]) ++ List.replicate (3 - (lg_sl ([.ref (ad 0)])).length) Slot.unset).toArray = ls_ at hl_ ⊢
  have hl_ : lv_has ls_ 3 [(0, .ref (ad 0))] := hl_
  refine lv_iconst (v := iI ((0 : Nat) : Int)) hx_ hb_ dX4_corrections_0 rfl ?_
  refine lv_istore_n (lv' := [(1, .int (iI ((0 : Nat) : Int))), (0, .ref (ad 0))]) hx_ hb_ dX4_corrections_1 rfl hl_ (by decide) rfl (fun ls_ hl_ => ?_)
  refine lv_iconst (v := iI ((0 : Nat) : Int)) hx_ hb_ dX4_corrections_2 rfl ?_
  refine lv_istore_n (lv' := [(2, .int (iI ((0 : Nat) : Int))), (1, .int (iI ((0 : Nat) : Int))), (0, .ref (ad 0))]) hx_ hb_ dX4_corrections_3 rfl hl_ (by decide) rfl (fun ls_ hl_ => ?_)
  exact lp4 (nn_ + 1) 0 0 ls_ (by omega) (by omega) (rfl) (lv_sub hl_ [2, 1, 0] rfl)

set_option maxHeartbeats 4000000 in
set_option maxRecDepth 100000 in
/-- changedWords -/
theorem c_X4_changedWords (l_ : Launch) (G_ : va_G) (cI cZ : ClassId) (ad : Nat → Nat) (bu : Bool) (no_ : Nat) (vo_ : Nat → Int) (fo_ : Nat → Bool) (nn_ : Nat) (vn_ : Nat → Int) (fn_ : Nat → Bool) (k_ : Nat) (os_ ns_ ln_ : Nat → Nat) (ot_ nt_ : Nat → Bool) (ru_ : Nat → Nat) (bo_ bn_ bl_ : Nat) (od_ : Nat → Nat) (wt_ dr_ : Nat → Bool) (sp_ : Nat)  (hno : no_ ≤ 48) (hnn : nn_ ≤ 48) (hvo : ∀ j_, 0 ≤ vo_ j_ ∧ vo_ j_ ≤ 9999) (hvn : ∀ j_, 0 ≤ vn_ j_ ∧ vn_ j_ ≤ 9999) (hk_ : k_ ≤ 48) (hB_ : B48 k_ os_ ns_ ln_) (hgd : Gd no_ nn_ k_ os_ ns_ ln_) : Ro l_ yX4_changedWords wsX4_changedWords ({ frames := 5, cells := 0, slots := 0, locals := 109 }) G_ cI cZ [.ref (ad 0)] (wRP cI cZ ad bu no_ vo_ fo_ nn_ vn_ fn_ k_ os_ ns_ ln_ ot_ nt_ ru_ bo_ bn_ bl_ od_ wt_ dr_ sp_) ((cnt (chg vo_ vn_ k_ os_ ns_ ln_) nn_ : Nat) : Int) := by
  refine Met.ofW (cc := cX4_changedWords) (maxL := 3) (ret := (some .int)) (by decide) rfl ?_
  intro p_ e_ s_ m_ args below meth c_ s₁ B hml hv
  obtain ⟨hargs, hP_, hK_⟩ := hv
  have hx_ := B.exec
  have hb_ := B.bytes
  have hr := B.returns
  have hts := atoms_spec (ws := wsX4_changedWords) B.pre
  have hown : s_.vm.findClass RX4 = some m_.cls := findClass_of_methodNamed B.named
  have hlocks := B.notSynchronized
  have hi4_ : ∀ w_ ∈ wsX40, w_ ∈ wsX4_changedWords := by decide +kernel
  have hf16_ := hts (.fieldLink RX4 16 "RelocatingPatch" "newImage" "LRelocatingPatch$Image;") (by decide +kernel)
  have hP_ : va_P G_ vwCl [(ad 0, .inr (4, [.ref (ad 1), .ref (ad 4), .ref (ad 7), .ref (ad 11), .ref (ad 15), .int (iI (bZ bu))])), (ad 1, .inr (3, [.ref (ad 2), .ref (ad 3), .int (iI ((no_ : Nat) : Int))])), (ad 2, .inl (cI, 48, .inl (aI vo_))), (ad 3, .inl (cZ, 48, .inl (aB fo_))), (ad 4, .inr (3, [.ref (ad 5), .ref (ad 6), .int (iI ((nn_ : Nat) : Int))])), (ad 5, .inl (cI, 48, .inl (aI vn_))), (ad 6, .inl (cZ, 48, .inl (aB fn_))), (ad 7, .inr (1, [.ref (ad 8), .ref (ad 9), .ref (ad 10), .int (iI ((k_ : Nat) : Int))])), (ad 8, .inl (cI, 48, .inl (aN os_))), (ad 9, .inl (cI, 48, .inl (aN ns_))), (ad 10, .inl (cI, 48, .inl (aN ln_))), (ad 11, .inr (0, [.ref (ad 12), .ref (ad 13), .ref (ad 14), .int (iI ((bo_ : Nat) : Int)), .int (iI ((bn_ : Nat) : Int)), .int (iI ((bl_ : Nat) : Int))])), (ad 12, .inl (cZ, 48, .inl (aB ot_))), (ad 13, .inl (cZ, 48, .inl (aB nt_))), (ad 14, .inl (cI, 49, .inl (aN ru_))), (ad 15, .inr (2, [.ref (ad 16), .ref (ad 17), .ref (ad 18), .int (iI ((sp_ : Nat) : Int))])), (ad 16, .inl (cI, 48, .inl (aN od_))), (ad 17, .inl (cZ, 48, .inl (aB wt_))), (ad 18, .inl (cZ, 48, .inl (aB dr_)))] s_.heap := hP_
  generalize hQe : MQ below (vp_Si (fun r_ => r_ = iI ((cnt (chg vo_ vn_ k_ os_ ns_ ln_) nn_ : Nat) : Int))) args s_ 0 0 (fun _ => False) = Q_
  have lp4 : ∀ (n_ : Nat) (i_ : Nat) (q_ : Nat) (ls_ : Array Slot), (i_ ≤ nn_) → (nn_ + 1 ≤ i_ + n_) → (q_ = cnt (chg vo_ vn_ k_ os_ ns_ ln_) i_) → lv_has ls_ 3 [(0, .ref (ad 0)), (1, .int (iI ((q_ : Nat) : Int))), (2, .int (iI ((i_ : Nat) : Int)))] → W p_ l_ e_ (headSpec wsX4_changedWords ({ frames := 5, cells := 0, slots := 0, locals := 109 })).room s_ m_ args below meth c_ s_.heap [] 0 0 Q_ (F0 m_ 4 ls_ []) := by
    intro n_
    induction n_ with
    | zero =>
      intro i_ q_ ls_ hi_ hn_ hq_
      exact False.elim (by omega)
    | succ n_ ih_ =>
      intro i_ q_ ls_ hi_ hn_ hq_ hl_
      refine lv_iload_n hx_ hb_ dX4_changedWords_4 rfl (lv_at hl_ 2 rfl) ?_
      refine lv_aload_n hx_ hb_ dX4_changedWords_5 rfl (lv_at hl_ 0 rfl) ?_
      refine va_get (D := G_) (ci := 4) (v := .ref (ad 4)) (C := RX4) (T := TX4) (N := 6) hx_ hb_ hts hi4_ hown hK_ hP_ 0 rfl rfl 1 (by decide) hf16_ (fun _ h9 => h9) rfl dX4_changedWords_6 ?_
      refine ro_V (As := []) (rest := [.int (iI ((i_ : Nat) : Int))]) ⟨hx_, hb_, hml, hown, hts⟩ (c_X3_size l_ G_ cI cZ (ad 4) (ad 5) (ad 6) nn_ vn_ fn_) (cwV 0 hts gX4_changedWords_X3_size rfl rfl rfl (by decide +kernel) ⟨Nat.le_of_ble_eq_true rfl, Nat.le_of_ble_eq_true rfl⟩) (hP_.sub (ws' := [(ad 4, .inr (3, [.ref (ad 5), .ref (ad 6), .int (iI ((nn_ : Nat) : Int))])), (ad 5, .inl (cI, 48, .inl (aI vn_))), (ad 6, .inl (cZ, 48, .inl (aB fn_)))]) [4, 5, 6] rfl) hK_ 0 rfl rfl rfl hl_.1 rfl (Nat.le_of_ble_eq_true rfl) dX4_changedWords_9 ⟨Nat.zero_le _, Nat.zero_le _⟩ ?_
      refine q_icmp_ge (tgt := 32) hx_ hb_ dX4_changedWords_12 (by decide) (⟨by omega, by omega⟩) (⟨by omega, by omega⟩) (fun c12_ => ?_) (fun c12_ => ?_)
      · skip
        refine lv_iload_n hx_ hb_ dX4_changedWords_32 rfl (lv_at hl_ 1 rfl) ?_
        rw [← hQe]
        exact W.iret hx_ hb_ hr (fun tt1 htt1 hWW1 => ⟨_, rfl, congrArg iI (by rw [hq_, show i_ = nn_ from by omega]), htt1⟩) (fun q_ h_ => absurd h_ List.not_mem_nil) dX4_changedWords_33
      · skip
        refine lv_aload_n hx_ hb_ dX4_changedWords_15 rfl (lv_at hl_ 0 rfl) ?_
        refine lv_iload_n hx_ hb_ dX4_changedWords_16 rfl (lv_at hl_ 2 rfl) ?_
        refine ro_V (As := [.int (iI ((i_ : Nat) : Int))]) (rest := []) ⟨hx_, hb_, hml, hown, hts⟩ (c_X4_isChanged l_ G_ cI cZ ad bu no_ vo_ fo_ nn_ vn_ fn_ k_ os_ ns_ ln_ ot_ nt_ ru_ bo_ bn_ bl_ od_ wt_ dr_ sp_ i_ hno hnn hvo hvn hk_ hB_ hgd (by omega)) (cwV 1 hts gX4_changedWords_X4_isChanged rfl rfl rfl (by decide +kernel) ⟨Nat.le_of_ble_eq_true rfl, Nat.le_of_ble_eq_true rfl⟩) (hP_.sub (ws' := [(ad 0, .inr (4, [.ref (ad 1), .ref (ad 4), .ref (ad 7), .ref (ad 11), .ref (ad 15), .int (iI (bZ bu))])), (ad 1, .inr (3, [.ref (ad 2), .ref (ad 3), .int (iI ((no_ : Nat) : Int))])), (ad 2, .inl (cI, 48, .inl (aI vo_))), (ad 3, .inl (cZ, 48, .inl (aB fo_))), (ad 4, .inr (3, [.ref (ad 5), .ref (ad 6), .int (iI ((nn_ : Nat) : Int))])), (ad 5, .inl (cI, 48, .inl (aI vn_))), (ad 6, .inl (cZ, 48, .inl (aB fn_))), (ad 7, .inr (1, [.ref (ad 8), .ref (ad 9), .ref (ad 10), .int (iI ((k_ : Nat) : Int))])), (ad 8, .inl (cI, 48, .inl (aN os_))), (ad 9, .inl (cI, 48, .inl (aN ns_))), (ad 10, .inl (cI, 48, .inl (aN ln_))), (ad 11, .inr (0, [.ref (ad 12), .ref (ad 13), .ref (ad 14), .int (iI ((bo_ : Nat) : Int)), .int (iI ((bn_ : Nat) : Int)), .int (iI ((bl_ : Nat) : Int))])), (ad 12, .inl (cZ, 48, .inl (aB ot_))), (ad 13, .inl (cZ, 48, .inl (aB nt_))), (ad 14, .inl (cI, 49, .inl (aN ru_))), (ad 15, .inr (2, [.ref (ad 16), .ref (ad 17), .ref (ad 18), .int (iI ((sp_ : Nat) : Int))])), (ad 16, .inl (cI, 48, .inl (aN od_))), (ad 17, .inl (cZ, 48, .inl (aB wt_))), (ad 18, .inl (cZ, 48, .inl (aB dr_)))]) [0, 1, 2, 3, 4, 5, 6, 7, 8, 9, 10, 11, 12, 13, 14, 15, 16, 17, 18] rfl) hK_ 0 rfl rfl rfl hl_.1 rfl (Nat.le_of_ble_eq_true rfl) dX4_changedWords_17 ⟨Nat.zero_le _, Nat.zero_le _⟩ ?_
        refine q_bf (tgt := 26) hx_ hb_ dX4_changedWords_20 (by decide) (fun c20_ => ?_) (fun c20_ => ?_)
        · skip
          refine q_iinc (k := 2) ((i_ + 1 : Nat) : Int) hx_ hb_ dX4_changedWords_26 hl_ rfl (rfl) (by decide) (lv' := [(2, .int (iI ((i_ + 1 : Nat) : Int))), (0, .ref (ad 0)), (1, .int (iI ((q_ : Nat) : Int)))]) rfl (fun ls_ hl_ => ?_)
          refine lv_goto (tgt := 4) hx_ hb_ dX4_changedWords_29 (by decide) ?_
          exact ih_ (i_ + 1) q_ ls_ (by omega) (by omega) (by rw [hq_, cnt_s0 c20_]) (lv_sub hl_ [1, 2, 0] rfl)
        · skip
          refine q_iinc (k := 1) ((q_ + 1 : Nat) : Int) hx_ hb_ dX4_changedWords_23 hl_ rfl (rfl) (by decide) (lv' := [(1, .int (iI ((q_ + 1 : Nat) : Int))), (0, .ref (ad 0)), (2, .int (iI ((i_ : Nat) : Int)))]) rfl (fun ls_ hl_ => ?_)
          refine q_iinc (k := 2) ((i_ + 1 : Nat) : Int) hx_ hb_ dX4_changedWords_26 hl_ rfl (rfl) (by decide) (lv' := [(2, .int (iI ((i_ + 1 : Nat) : Int))), (1, .int (iI ((q_ + 1 : Nat) : Int))), (0, .ref (ad 0))]) rfl (fun ls_ hl_ => ?_)
          refine lv_goto (tgt := 4) hx_ hb_ dX4_changedWords_29 (by decide) ?_
          exact ih_ (i_ + 1) (q_ + 1) ls_ (by omega) (by omega) (by rw [hq_, cnt_s1 c20_]) (lv_sub hl_ [2, 1, 0] rfl)
  rw [show entryFrame m_ args 3 = entryFrame m_ ([.ref (ad 0)] : List Value).toArray 3 from by rw [hargs], lg_entry_eq]
  have hl_ := lv_entry ([.ref (ad 0)]) (n := 3) (Nat.le_of_ble_eq_true rfl)
  generalize (lg_sl ([.ref (ad 0)]) ++ List.replicate (3 - (lg_sl ([.ref (ad 0)])).length) Slot.unset).toArray = ls_ at hl_ ⊢
  have hl_ : lv_has ls_ 3 [(0, .ref (ad 0))] := hl_
  refine lv_iconst (v := iI ((0 : Nat) : Int)) hx_ hb_ dX4_changedWords_0 rfl ?_
  refine lv_istore_n (lv' := [(1, .int (iI ((0 : Nat) : Int))), (0, .ref (ad 0))]) hx_ hb_ dX4_changedWords_1 rfl hl_ (by decide) rfl (fun ls_ hl_ => ?_)
  refine lv_iconst (v := iI ((0 : Nat) : Int)) hx_ hb_ dX4_changedWords_2 rfl ?_
  refine lv_istore_n (lv' := [(2, .int (iI ((0 : Nat) : Int))), (1, .int (iI ((0 : Nat) : Int))), (0, .ref (ad 0))]) hx_ hb_ dX4_changedWords_3 rfl hl_ (by decide) rfl (fun ls_ hl_ => ?_)
  exact lp4 (nn_ + 1) 0 0 ls_ (by omega) (by omega) (rfl) (lv_sub hl_ [2, 1, 0] rfl)

set_option maxHeartbeats 4000000 in
set_option maxRecDepth 100000 in
/-- literals -/
theorem c_X4_literals (l_ : Launch) (G_ : va_G) (cI cZ : ClassId) (ad : Nat → Nat) (bu : Bool) (no_ : Nat) (vo_ : Nat → Int) (fo_ : Nat → Bool) (nn_ : Nat) (vn_ : Nat → Int) (fn_ : Nat → Bool) (k_ : Nat) (os_ ns_ ln_ : Nat → Nat) (ot_ nt_ : Nat → Bool) (ru_ : Nat → Nat) (bo_ bn_ bl_ : Nat) (od_ : Nat → Nat) (wt_ dr_ : Nat → Bool) (sp_ : Nat)  (hno : no_ ≤ 48) (hnn : nn_ ≤ 48) (hvo : ∀ j_, 0 ≤ vo_ j_ ∧ vo_ j_ ≤ 9999) (hvn : ∀ j_, 0 ≤ vn_ j_ ∧ vn_ j_ ≤ 9999) (hk_ : k_ ≤ 48) (hB_ : B48 k_ os_ ns_ ln_) (hgd : Gd no_ nn_ k_ os_ ns_ ln_) : Ro l_ yX4_literals wsX4_literals ({ frames := 2, cells := 0, slots := 0, locals := 42 }) G_ cI cZ [.ref (ad 0)] (wRP cI cZ ad bu no_ vo_ fo_ nn_ vn_ fn_ k_ os_ ns_ ln_ ot_ nt_ ru_ bo_ bn_ bl_ od_ wt_ dr_ sp_) ((lit nn_ k_ ns_ ln_ : Nat) : Int) := by
  refine Met.ofW (cc := cX4_literals) (maxL := 3) (ret := (some .int)) (by decide) rfl ?_
  intro p_ e_ s_ m_ args below meth c_ s₁ B hml hv
  obtain ⟨hargs, hP_, hK_⟩ := hv
  have hx_ := B.exec
  have hb_ := B.bytes
  have hr := B.returns
  have hts := atoms_spec (ws := wsX4_literals) B.pre
  have hown : s_.vm.findClass RX4 = some m_.cls := findClass_of_methodNamed B.named
  have hlocks := B.notSynchronized
  have hi4_ : ∀ w_ ∈ wsX40, w_ ∈ wsX4_literals := by decide +kernel
  have hf16_ := hts (.fieldLink RX4 16 "RelocatingPatch" "newImage" "LRelocatingPatch$Image;") (by decide +kernel)
  have hf22_ := hts (.fieldLink RX4 22 "RelocatingPatch" "blocks" "LRelocatingPatch$Blocks;") (by decide +kernel)
  have hP_ : va_P G_ vwCl [(ad 0, .inr (4, [.ref (ad 1), .ref (ad 4), .ref (ad 7), .ref (ad 11), .ref (ad 15), .int (iI (bZ bu))])), (ad 1, .inr (3, [.ref (ad 2), .ref (ad 3), .int (iI ((no_ : Nat) : Int))])), (ad 2, .inl (cI, 48, .inl (aI vo_))), (ad 3, .inl (cZ, 48, .inl (aB fo_))), (ad 4, .inr (3, [.ref (ad 5), .ref (ad 6), .int (iI ((nn_ : Nat) : Int))])), (ad 5, .inl (cI, 48, .inl (aI vn_))), (ad 6, .inl (cZ, 48, .inl (aB fn_))), (ad 7, .inr (1, [.ref (ad 8), .ref (ad 9), .ref (ad 10), .int (iI ((k_ : Nat) : Int))])), (ad 8, .inl (cI, 48, .inl (aN os_))), (ad 9, .inl (cI, 48, .inl (aN ns_))), (ad 10, .inl (cI, 48, .inl (aN ln_))), (ad 11, .inr (0, [.ref (ad 12), .ref (ad 13), .ref (ad 14), .int (iI ((bo_ : Nat) : Int)), .int (iI ((bn_ : Nat) : Int)), .int (iI ((bl_ : Nat) : Int))])), (ad 12, .inl (cZ, 48, .inl (aB ot_))), (ad 13, .inl (cZ, 48, .inl (aB nt_))), (ad 14, .inl (cI, 49, .inl (aN ru_))), (ad 15, .inr (2, [.ref (ad 16), .ref (ad 17), .ref (ad 18), .int (iI ((sp_ : Nat) : Int))])), (ad 16, .inl (cI, 48, .inl (aN od_))), (ad 17, .inl (cZ, 48, .inl (aB wt_))), (ad 18, .inl (cZ, 48, .inl (aB dr_)))] s_.heap := hP_
  generalize hQe : MQ below (vp_Si (fun r_ => r_ = iI ((lit nn_ k_ ns_ ln_ : Nat) : Int))) args s_ 0 0 (fun _ => False) = Q_
  have lp10 : ∀ (n_ : Nat) (i_ : Nat) (q_ : Nat) (ls_ : Array Slot), (i_ ≤ k_) → (k_ + 1 ≤ i_ + n_) → (q_ + smN ln_ i_ = nn_) → lv_has ls_ 3 [(0, .ref (ad 0)), (1, .int (iI ((q_ : Nat) : Int))), (2, .int (iI ((i_ : Nat) : Int)))] → W p_ l_ e_ (headSpec wsX4_literals ({ frames := 2, cells := 0, slots := 0, locals := 42 })).room s_ m_ args below meth c_ s_.heap [] 0 0 Q_ (F0 m_ 10 ls_ []) := by
    intro n_
    induction n_ with
    | zero =>
      intro i_ q_ ls_ hi_ hn_ hq_
      exact False.elim (by omega)
    | succ n_ ih_ =>
      intro i_ q_ ls_ hi_ hn_ hq_ hl_
      refine lv_iload_n hx_ hb_ dX4_literals_10 rfl (lv_at hl_ 2 rfl) ?_
      refine lv_aload_n hx_ hb_ dX4_literals_11 rfl (lv_at hl_ 0 rfl) ?_
      refine va_get (D := G_) (ci := 4) (v := .ref (ad 7)) (C := RX4) (T := TX4) (N := 6) hx_ hb_ hts hi4_ hown hK_ hP_ 0 rfl rfl 2 (by decide) hf22_ (fun _ h9 => h9) rfl dX4_literals_12 ?_
      refine ro_V (As := []) (rest := [.int (iI ((i_ : Nat) : Int))]) ⟨hx_, hb_, hml, hown, hts⟩ (c_X1_size l_ G_ cI cZ (ad 7) (ad 8) (ad 9) (ad 10) k_ os_ ns_ ln_) (cwV 0 hts gX4_literals_X1_size rfl rfl rfl (by decide +kernel) ⟨Nat.le_of_ble_eq_true rfl, Nat.le_of_ble_eq_true rfl⟩) (hP_.sub (ws' := [(ad 7, .inr (1, [.ref (ad 8), .ref (ad 9), .ref (ad 10), .int (iI ((k_ : Nat) : Int))])), (ad 8, .inl (cI, 48, .inl (aN os_))), (ad 9, .inl (cI, 48, .inl (aN ns_))), (ad 10, .inl (cI, 48, .inl (aN ln_)))]) [7, 8, 9, 10] rfl) hK_ 0 rfl rfl rfl hl_.1 rfl (Nat.le_of_ble_eq_true rfl) dX4_literals_15 ⟨Nat.zero_le _, Nat.zero_le _⟩ ?_
      refine q_icmp_ge (tgt := 38) hx_ hb_ dX4_literals_18 (by decide) (⟨by omega, by omega⟩) (⟨by omega, by omega⟩) (fun c18_ => ?_) (fun c18_ => ?_)
      · skip
        refine lv_iload_n hx_ hb_ dX4_literals_38 rfl (lv_at hl_ 1 rfl) ?_
        rw [← hQe]
        exact W.iret hx_ hb_ hr (fun tt1 htt1 hWW1 => ⟨_, rfl, congrArg iI (by have hls := lit_sum hgd; have e0 : i_ = k_ := (by omega); rw [e0] at hq_; omega), htt1⟩) (fun q_ h_ => absurd h_ List.not_mem_nil) dX4_literals_39
      · skip
        have hsm : smN ln_ (i_ + 1) ≤ smN ln_ k_ := smN_mono ln_ (by omega)
        have hls := lit_sum hgd
        have hsi : smN ln_ (i_ + 1) = smN ln_ i_ + ln_ i_ := rfl
        refine lv_iload_n hx_ hb_ dX4_literals_21 rfl (lv_at hl_ 1 rfl) ?_
        refine lv_aload_n hx_ hb_ dX4_literals_22 rfl (lv_at hl_ 0 rfl) ?_
        refine va_get (D := G_) (ci := 4) (v := .ref (ad 7)) (C := RX4) (T := TX4) (N := 6) hx_ hb_ hts hi4_ hown hK_ hP_ 0 rfl rfl 2 (by decide) hf22_ (fun _ h9 => h9) rfl dX4_literals_23 ?_
        refine lv_iload_n hx_ hb_ dX4_literals_26 rfl (lv_at hl_ 2 rfl) ?_
        refine ro_V (As := [.int (iI ((i_ : Nat) : Int))]) (rest := [.int (iI ((q_ : Nat) : Int))]) ⟨hx_, hb_, hml, hown, hts⟩ (c_X1_length l_ G_ cI cZ (ad 7) (ad 8) (ad 9) (ad 10) k_ os_ ns_ ln_ i_ (by omega) (by omega)) (cwV 1 hts gX4_literals_X1_length rfl rfl rfl (by decide +kernel) ⟨Nat.le_of_ble_eq_true rfl, Nat.le_of_ble_eq_true rfl⟩) (hP_.sub (ws' := [(ad 7, .inr (1, [.ref (ad 8), .ref (ad 9), .ref (ad 10), .int (iI ((k_ : Nat) : Int))])), (ad 8, .inl (cI, 48, .inl (aN os_))), (ad 9, .inl (cI, 48, .inl (aN ns_))), (ad 10, .inl (cI, 48, .inl (aN ln_)))]) [7, 8, 9, 10] rfl) hK_ 0 rfl rfl rfl hl_.1 rfl (Nat.le_of_ble_eq_true rfl) dX4_literals_27 ⟨Nat.zero_le _, Nat.zero_le _⟩ ?_
        refine q_isub hx_ hb_ dX4_literals_30 ?_
        refine q_cast (b := ((q_ - ln_ i_ : Nat) : Int)) (by omega) ?_
        refine lv_istore_n (lv' := [(1, .int (iI ((q_ - ln_ i_ : Nat) : Int))), (0, .ref (ad 0)), (2, .int (iI ((i_ : Nat) : Int)))]) hx_ hb_ dX4_literals_31 rfl hl_ (by decide) rfl (fun ls_ hl_ => ?_)
        refine q_iinc (k := 2) ((i_ + 1 : Nat) : Int) hx_ hb_ dX4_literals_32 hl_ rfl (rfl) (by decide) (lv' := [(2, .int (iI ((i_ + 1 : Nat) : Int))), (1, .int (iI ((q_ - ln_ i_ : Nat) : Int))), (0, .ref (ad 0))]) rfl (fun ls_ hl_ => ?_)
        refine lv_goto (tgt := 10) hx_ hb_ dX4_literals_35 (by decide) ?_
        exact ih_ (i_ + 1) (q_ - ln_ i_) ls_ (by omega) (by omega) (by show q_ - ln_ i_ + (smN ln_ i_ + ln_ i_) = nn_; omega) (lv_sub hl_ [2, 1, 0] rfl)
  rw [show entryFrame m_ args 3 = entryFrame m_ ([.ref (ad 0)] : List Value).toArray 3 from by rw [hargs], lg_entry_eq]
  have hl_ := lv_entry ([.ref (ad 0)]) (n := 3) (Nat.le_of_ble_eq_true rfl)
  generalize (lg_sl ([.ref (ad 0)]) ++ List.replicate (3 - (lg_sl ([.ref (ad 0)])).length) Slot.unset).toArray = ls_ at hl_ ⊢
  have hl_ : lv_has ls_ 3 [(0, .ref (ad 0))] := hl_
  refine lv_aload_n hx_ hb_ dX4_literals_0 rfl (lv_at hl_ 0 rfl) ?_
  refine va_get (D := G_) (ci := 4) (v := .ref (ad 4)) (C := RX4) (T := TX4) (N := 6) hx_ hb_ hts hi4_ hown hK_ hP_ 0 rfl rfl 1 (by decide) hf16_ (fun _ h9 => h9) rfl dX4_literals_1 ?_
  refine ro_V (As := []) (rest := []) ⟨hx_, hb_, hml, hown, hts⟩ (c_X3_size l_ G_ cI cZ (ad 4) (ad 5) (ad 6) nn_ vn_ fn_) (cwV 0 hts gX4_literals_X3_size rfl rfl rfl (by decide +kernel) ⟨Nat.le_of_ble_eq_true rfl, Nat.le_of_ble_eq_true rfl⟩) (hP_.sub (ws' := [(ad 4, .inr (3, [.ref (ad 5), .ref (ad 6), .int (iI ((nn_ : Nat) : Int))])), (ad 5, .inl (cI, 48, .inl (aI vn_))), (ad 6, .inl (cZ, 48, .inl (aB fn_)))]) [4, 5, 6] rfl) hK_ 0 rfl rfl rfl hl_.1 rfl (Nat.le_of_ble_eq_true rfl) dX4_literals_4 ⟨Nat.zero_le _, Nat.zero_le _⟩ ?_
  refine lv_istore_n (lv' := [(1, .int (iI ((nn_ : Nat) : Int))), (0, .ref (ad 0))]) hx_ hb_ dX4_literals_7 rfl hl_ (by decide) rfl (fun ls_ hl_ => ?_)
  refine lv_iconst (v := iI ((0 : Nat) : Int)) hx_ hb_ dX4_literals_8 rfl ?_
  refine lv_istore_n (lv' := [(2, .int (iI ((0 : Nat) : Int))), (1, .int (iI ((nn_ : Nat) : Int))), (0, .ref (ad 0))]) hx_ hb_ dX4_literals_9 rfl hl_ (by decide) rfl (fun ls_ hl_ => ?_)
  exact lp10 (k_ + 1) 0 nn_ ls_ (by omega) (by omega) (by show nn_ + 0 = nn_; omega) (lv_sub hl_ [2, 1, 0] rfl)

set_option maxHeartbeats 4000000 in
set_option maxRecDepth 100000 in
/-- blocksAndLiteralsCost -/
theorem c_X4_blocksAndLiteralsCost (l_ : Launch) (G_ : va_G) (cI cZ : ClassId) (ad : Nat → Nat) (bu : Bool) (no_ : Nat) (vo_ : Nat → Int) (fo_ : Nat → Bool) (nn_ : Nat) (vn_ : Nat → Int) (fn_ : Nat → Bool) (k_ : Nat) (os_ ns_ ln_ : Nat → Nat) (ot_ nt_ : Nat → Bool) (ru_ : Nat → Nat) (bo_ bn_ bl_ : Nat) (od_ : Nat → Nat) (wt_ dr_ : Nat → Bool) (sp_ : Nat)  (hno : no_ ≤ 48) (hnn : nn_ ≤ 48) (hvo : ∀ j_, 0 ≤ vo_ j_ ∧ vo_ j_ ≤ 9999) (hvn : ∀ j_, 0 ≤ vn_ j_ ∧ vn_ j_ ≤ 9999) (hk_ : k_ ≤ 48) (hB_ : B48 k_ os_ ns_ ln_) (hgd : Gd no_ nn_ k_ os_ ns_ ln_) : Ro l_ yX4_blocksAndLiteralsCost wsX4_blocksAndLiteralsCost ({ frames := 3, cells := 0, slots := 0, locals := 64 }) G_ cI cZ [.ref (ad 0)] (wRP cI cZ ad bu no_ vo_ fo_ nn_ vn_ fn_ k_ os_ ns_ ln_ ot_ nt_ ru_ bo_ bn_ bl_ od_ wt_ dr_ sp_) ((k_ * 3 + lit nn_ k_ ns_ ln_ * 1 : Nat) : Int) := by
  refine Met.ofW (cc := cX4_blocksAndLiteralsCost) (maxL := 1) (ret := (some .int)) (by decide) rfl ?_
  intro p_ e_ s_ m_ args below meth c_ s₁ B hml hv
  obtain ⟨hargs, hP_, hK_⟩ := hv
  have hx_ := B.exec
  have hb_ := B.bytes
  have hr := B.returns
  have hts := atoms_spec (ws := wsX4_blocksAndLiteralsCost) B.pre
  have hown : s_.vm.findClass RX4 = some m_.cls := findClass_of_methodNamed B.named
  have hlocks := B.notSynchronized
  have hi4_ : ∀ w_ ∈ wsX40, w_ ∈ wsX4_blocksAndLiteralsCost := by decide +kernel
  have hf22_ := hts (.fieldLink RX4 22 "RelocatingPatch" "blocks" "LRelocatingPatch$Blocks;") (by decide +kernel)
  have hP_ : va_P G_ vwCl [(ad 0, .inr (4, [.ref (ad 1), .ref (ad 4), .ref (ad 7), .ref (ad 11), .ref (ad 15), .int (iI (bZ bu))])), (ad 1, .inr (3, [.ref (ad 2), .ref (ad 3), .int (iI ((no_ : Nat) : Int))])), (ad 2, .inl (cI, 48, .inl (aI vo_))), (ad 3, .inl (cZ, 48, .inl (aB fo_))), (ad 4, .inr (3, [.ref (ad 5), .ref (ad 6), .int (iI ((nn_ : Nat) : Int))])), (ad 5, .inl (cI, 48, .inl (aI vn_))), (ad 6, .inl (cZ, 48, .inl (aB fn_))), (ad 7, .inr (1, [.ref (ad 8), .ref (ad 9), .ref (ad 10), .int (iI ((k_ : Nat) : Int))])), (ad 8, .inl (cI, 48, .inl (aN os_))), (ad 9, .inl (cI, 48, .inl (aN ns_))), (ad 10, .inl (cI, 48, .inl (aN ln_))), (ad 11, .inr (0, [.ref (ad 12), .ref (ad 13), .ref (ad 14), .int (iI ((bo_ : Nat) : Int)), .int (iI ((bn_ : Nat) : Int)), .int (iI ((bl_ : Nat) : Int))])), (ad 12, .inl (cZ, 48, .inl (aB ot_))), (ad 13, .inl (cZ, 48, .inl (aB nt_))), (ad 14, .inl (cI, 49, .inl (aN ru_))), (ad 15, .inr (2, [.ref (ad 16), .ref (ad 17), .ref (ad 18), .int (iI ((sp_ : Nat) : Int))])), (ad 16, .inl (cI, 48, .inl (aN od_))), (ad 17, .inl (cZ, 48, .inl (aB wt_))), (ad 18, .inl (cZ, 48, .inl (aB dr_)))] s_.heap := hP_
  generalize hQe : MQ below (vp_Si (fun r_ => r_ = iI ((k_ * 3 + lit nn_ k_ ns_ ln_ * 1 : Nat) : Int))) args s_ 0 0 (fun _ => False) = Q_
  rw [show entryFrame m_ args 1 = entryFrame m_ ([.ref (ad 0)] : List Value).toArray 1 from by rw [hargs], lg_entry_eq]
  have hl_ := lv_entry ([.ref (ad 0)]) (n := 1) (Nat.le_of_ble_eq_true rfl)
  generalize (lg_sl ([.ref (ad 0)]) ++ List.replicate (1 - (lg_sl ([.ref (ad 0)])).length) Slot.unset).toArray = ls_ at hl_ ⊢
  have hl_ : lv_has ls_ 1 [(0, .ref (ad 0))] := hl_
  refine lv_aload_n hx_ hb_ dX4_blocksAndLiteralsCost_0 rfl (lv_at hl_ 0 rfl) ?_
  refine va_get (D := G_) (ci := 4) (v := .ref (ad 7)) (C := RX4) (T := TX4) (N := 6) hx_ hb_ hts hi4_ hown hK_ hP_ 0 rfl rfl 2 (by decide) hf22_ (fun _ h9 => h9) rfl dX4_blocksAndLiteralsCost_1 ?_
  refine ro_V (As := []) (rest := []) ⟨hx_, hb_, hml, hown, hts⟩ (c_X1_size l_ G_ cI cZ (ad 7) (ad 8) (ad 9) (ad 10) k_ os_ ns_ ln_) (cwV 0 hts gX4_blocksAndLiteralsCost_X1_size rfl rfl rfl (by decide +kernel) ⟨Nat.le_of_ble_eq_true rfl, Nat.le_of_ble_eq_true rfl⟩) (hP_.sub (ws' := [(ad 7, .inr (1, [.ref (ad 8), .ref (ad 9), .ref (ad 10), .int (iI ((k_ : Nat) : Int))])), (ad 8, .inl (cI, 48, .inl (aN os_))), (ad 9, .inl (cI, 48, .inl (aN ns_))), (ad 10, .inl (cI, 48, .inl (aN ln_)))]) [7, 8, 9, 10] rfl) hK_ 0 rfl rfl rfl hl_.1 rfl (Nat.le_of_ble_eq_true rfl) dX4_blocksAndLiteralsCost_4 ⟨Nat.zero_le _, Nat.zero_le _⟩ ?_
  refine lv_iconst (v := iI ((3 : Nat) : Int)) hx_ hb_ dX4_blocksAndLiteralsCost_7 rfl ?_
  refine q_imulN hx_ hb_ dX4_blocksAndLiteralsCost_8 ?_
  refine lv_aload_n hx_ hb_ dX4_blocksAndLiteralsCost_9 rfl (lv_at hl_ 0 rfl) ?_
  refine ro_V (As := []) (rest := [.int (iI ((k_ * 3 : Nat) : Int))]) ⟨hx_, hb_, hml, hown, hts⟩ (c_X4_literals l_ G_ cI cZ ad bu no_ vo_ fo_ nn_ vn_ fn_ k_ os_ ns_ ln_ ot_ nt_ ru_ bo_ bn_ bl_ od_ wt_ dr_ sp_  hno hnn hvo hvn hk_ hB_ hgd) (cwV 0 hts gX4_blocksAndLiteralsCost_X4_literals rfl rfl rfl (by decide +kernel) ⟨Nat.le_of_ble_eq_true rfl, Nat.le_of_ble_eq_true rfl⟩) (hP_.sub (ws' := [(ad 0, .inr (4, [.ref (ad 1), .ref (ad 4), .ref (ad 7), .ref (ad 11), .ref (ad 15), .int (iI (bZ bu))])), (ad 1, .inr (3, [.ref (ad 2), .ref (ad 3), .int (iI ((no_ : Nat) : Int))])), (ad 2, .inl (cI, 48, .inl (aI vo_))), (ad 3, .inl (cZ, 48, .inl (aB fo_))), (ad 4, .inr (3, [.ref (ad 5), .ref (ad 6), .int (iI ((nn_ : Nat) : Int))])), (ad 5, .inl (cI, 48, .inl (aI vn_))), (ad 6, .inl (cZ, 48, .inl (aB fn_))), (ad 7, .inr (1, [.ref (ad 8), .ref (ad 9), .ref (ad 10), .int (iI ((k_ : Nat) : Int))])), (ad 8, .inl (cI, 48, .inl (aN os_))), (ad 9, .inl (cI, 48, .inl (aN ns_))), (ad 10, .inl (cI, 48, .inl (aN ln_))), (ad 11, .inr (0, [.ref (ad 12), .ref (ad 13), .ref (ad 14), .int (iI ((bo_ : Nat) : Int)), .int (iI ((bn_ : Nat) : Int)), .int (iI ((bl_ : Nat) : Int))])), (ad 12, .inl (cZ, 48, .inl (aB ot_))), (ad 13, .inl (cZ, 48, .inl (aB nt_))), (ad 14, .inl (cI, 49, .inl (aN ru_))), (ad 15, .inr (2, [.ref (ad 16), .ref (ad 17), .ref (ad 18), .int (iI ((sp_ : Nat) : Int))])), (ad 16, .inl (cI, 48, .inl (aN od_))), (ad 17, .inl (cZ, 48, .inl (aB wt_))), (ad 18, .inl (cZ, 48, .inl (aB dr_)))]) [0, 1, 2, 3, 4, 5, 6, 7, 8, 9, 10, 11, 12, 13, 14, 15, 16, 17, 18] rfl) hK_ 0 rfl rfl rfl hl_.1 rfl (Nat.le_of_ble_eq_true rfl) dX4_blocksAndLiteralsCost_10 ⟨Nat.zero_le _, Nat.zero_le _⟩ ?_
  refine lv_iconst (v := iI ((1 : Nat) : Int)) hx_ hb_ dX4_blocksAndLiteralsCost_13 rfl ?_
  refine q_imulN hx_ hb_ dX4_blocksAndLiteralsCost_14 ?_
  refine q_iaddN hx_ hb_ dX4_blocksAndLiteralsCost_15 ?_
  rw [← hQe]
  exact W.iret hx_ hb_ hr (fun tt1 htt1 hWW1 => ⟨_, rfl, congrArg iI (by first | rfl | omega), htt1⟩) (fun q_ h_ => absurd h_ List.not_mem_nil) dX4_blocksAndLiteralsCost_16

set_option maxHeartbeats 4000000 in
set_option maxRecDepth 100000 in
/-- correctionCount -/
theorem c_X4_correctionCount (l_ : Launch) (G_ : va_G) (cI cZ : ClassId) (ad : Nat → Nat) (bu : Bool) (no_ : Nat) (vo_ : Nat → Int) (fo_ : Nat → Bool) (nn_ : Nat) (vn_ : Nat → Int) (fn_ : Nat → Bool) (k_ : Nat) (os_ ns_ ln_ : Nat → Nat) (ot_ nt_ : Nat → Bool) (ru_ : Nat → Nat) (bo_ bn_ bl_ : Nat) (od_ : Nat → Nat) (wt_ dr_ : Nat → Bool) (sp_ : Nat)  (hno : no_ ≤ 48) (hnn : nn_ ≤ 48) (hvo : ∀ j_, 0 ≤ vo_ j_ ∧ vo_ j_ ≤ 9999) (hvn : ∀ j_, 0 ≤ vn_ j_ ∧ vn_ j_ ≤ 9999) (hbu : bu = true → k_ ≤ 48 ∧ B48 k_ os_ ns_ ln_ ∧ Gd no_ nn_ k_ os_ ns_ ln_ ∧ CoR k_ os_ ns_ ln_ k_ wt_ dr_ od_ sp_)  : Ro l_ yX4_correctionCount wsX4_correctionCount ({ frames := 6, cells := 0, slots := 0, locals := 134 }) G_ cI cZ [.ref (ad 0)] (wRP cI cZ ad bu no_ vo_ fo_ nn_ vn_ fn_ k_ os_ ns_ ln_ ot_ nt_ ru_ bo_ bn_ bl_ od_ wt_ dr_ sp_) (A_cc bu (cnt (ncr vo_ fo_ vn_ k_ os_ ns_ ln_) nn_)) := by
  refine Met.ofW (cc := cX4_correctionCount) (maxL := 1) (ret := (some .int)) (by decide) rfl ?_
  intro p_ e_ s_ m_ args below meth c_ s₁ B hml hv
  obtain ⟨hargs, hP_, hK_⟩ := hv
  have hx_ := B.exec
  have hb_ := B.bytes
  have hr := B.returns
  have hts := atoms_spec (ws := wsX4_correctionCount) B.pre
  have hown : s_.vm.findClass RX4 = some m_.cls := findClass_of_methodNamed B.named
  have hlocks := B.notSynchronized
  have hi4_ : ∀ w_ ∈ wsX40, w_ ∈ wsX4_correctionCount := by decide +kernel
  have hf40_ := hts (.fieldLink RX4 40 "RelocatingPatch" "built" "Z") (by decide +kernel)
  have hP_ : va_P G_ vwCl [(ad 0, .inr (4, [.ref (ad 1), .ref (ad 4), .ref (ad 7), .ref (ad 11), .ref (ad 15), .int (iI (bZ bu))])), (ad 1, .inr (3, [.ref (ad 2), .ref (ad 3), .int (iI ((no_ : Nat) : Int))])), (ad 2, .inl (cI, 48, .inl (aI vo_))), (ad 3, .inl (cZ, 48, .inl (aB fo_))), (ad 4, .inr (3, [.ref (ad 5), .ref (ad 6), .int (iI ((nn_ : Nat) : Int))])), (ad 5, .inl (cI, 48, .inl (aI vn_))), (ad 6, .inl (cZ, 48, .inl (aB fn_))), (ad 7, .inr (1, [.ref (ad 8), .ref (ad 9), .ref (ad 10), .int (iI ((k_ : Nat) : Int))])), (ad 8, .inl (cI, 48, .inl (aN os_))), (ad 9, .inl (cI, 48, .inl (aN ns_))), (ad 10, .inl (cI, 48, .inl (aN ln_))), (ad 11, .inr (0, [.ref (ad 12), .ref (ad 13), .ref (ad 14), .int (iI ((bo_ : Nat) : Int)), .int (iI ((bn_ : Nat) : Int)), .int (iI ((bl_ : Nat) : Int))])), (ad 12, .inl (cZ, 48, .inl (aB ot_))), (ad 13, .inl (cZ, 48, .inl (aB nt_))), (ad 14, .inl (cI, 49, .inl (aN ru_))), (ad 15, .inr (2, [.ref (ad 16), .ref (ad 17), .ref (ad 18), .int (iI ((sp_ : Nat) : Int))])), (ad 16, .inl (cI, 48, .inl (aN od_))), (ad 17, .inl (cZ, 48, .inl (aB wt_))), (ad 18, .inl (cZ, 48, .inl (aB dr_)))] s_.heap := hP_
  generalize hQe : MQ below (vp_Si (fun r_ => r_ = iI (A_cc bu (cnt (ncr vo_ fo_ vn_ k_ os_ ns_ ln_) nn_)))) args s_ 0 0 (fun _ => False) = Q_
  rw [show entryFrame m_ args 1 = entryFrame m_ ([.ref (ad 0)] : List Value).toArray 1 from by rw [hargs], lg_entry_eq]
  have hl_ := lv_entry ([.ref (ad 0)]) (n := 1) (Nat.le_of_ble_eq_true rfl)
  generalize (lg_sl ([.ref (ad 0)]) ++ List.replicate (1 - (lg_sl ([.ref (ad 0)])).length) Slot.unset).toArray = ls_ at hl_ ⊢
  have hl_ : lv_has ls_ 1 [(0, .ref (ad 0))] := hl_
  refine lv_aload_n hx_ hb_ dX4_correctionCount_0 rfl (lv_at hl_ 0 rfl) ?_
  refine va_get (D := G_) (ci := 4) (v := .int (iI (bZ bu))) (C := RX4) (T := TX4) (N := 6) hx_ hb_ hts hi4_ hown hK_ hP_ 0 rfl rfl 5 (by decide) hf40_ (fun _ h9 => h9) rfl dX4_correctionCount_1 ?_
  refine q_bf (tgt := 14) hx_ hb_ dX4_correctionCount_4 (by decide) (fun c4_ => ?_) (fun c4_ => ?_)
  · skip
    refine lv_sipush (v := iI (-10004)) hx_ hb_ dX4_correctionCount_14 rfl ?_
    rw [← hQe]
    exact W.iret hx_ hb_ hr (fun tt1 htt1 hWW1 => ⟨_, rfl, congrArg iI (if0 c4_), htt1⟩) (fun q_ h_ => absurd h_ List.not_mem_nil) dX4_correctionCount_17
  · skip
    obtain ⟨hk_, hB_, hgd, hco⟩ := hbu c4_
    refine lv_aload_n hx_ hb_ dX4_correctionCount_7 rfl (lv_at hl_ 0 rfl) ?_
    refine ro_V (As := []) (rest := []) ⟨hx_, hb_, hml, hown, hts⟩ (c_X4_corrections l_ G_ cI cZ ad bu no_ vo_ fo_ nn_ vn_ fn_ k_ os_ ns_ ln_ ot_ nt_ ru_ bo_ bn_ bl_ od_ wt_ dr_ sp_  hno hnn hvo hvn hk_ hB_ hgd) (cwV 0 hts gX4_correctionCount_X4_corrections rfl rfl rfl (by decide +kernel) ⟨Nat.le_of_ble_eq_true rfl, Nat.le_of_ble_eq_true rfl⟩) (hP_.sub (ws' := [(ad 0, .inr (4, [.ref (ad 1), .ref (ad 4), .ref (ad 7), .ref (ad 11), .ref (ad 15), .int (iI (bZ bu))])), (ad 1, .inr (3, [.ref (ad 2), .ref (ad 3), .int (iI ((no_ : Nat) : Int))])), (ad 2, .inl (cI, 48, .inl (aI vo_))), (ad 3, .inl (cZ, 48, .inl (aB fo_))), (ad 4, .inr (3, [.ref (ad 5), .ref (ad 6), .int (iI ((nn_ : Nat) : Int))])), (ad 5, .inl (cI, 48, .inl (aI vn_))), (ad 6, .inl (cZ, 48, .inl (aB fn_))), (ad 7, .inr (1, [.ref (ad 8), .ref (ad 9), .ref (ad 10), .int (iI ((k_ : Nat) : Int))])), (ad 8, .inl (cI, 48, .inl (aN os_))), (ad 9, .inl (cI, 48, .inl (aN ns_))), (ad 10, .inl (cI, 48, .inl (aN ln_))), (ad 11, .inr (0, [.ref (ad 12), .ref (ad 13), .ref (ad 14), .int (iI ((bo_ : Nat) : Int)), .int (iI ((bn_ : Nat) : Int)), .int (iI ((bl_ : Nat) : Int))])), (ad 12, .inl (cZ, 48, .inl (aB ot_))), (ad 13, .inl (cZ, 48, .inl (aB nt_))), (ad 14, .inl (cI, 49, .inl (aN ru_))), (ad 15, .inr (2, [.ref (ad 16), .ref (ad 17), .ref (ad 18), .int (iI ((sp_ : Nat) : Int))])), (ad 16, .inl (cI, 48, .inl (aN od_))), (ad 17, .inl (cZ, 48, .inl (aB wt_))), (ad 18, .inl (cZ, 48, .inl (aB dr_)))]) [0, 1, 2, 3, 4, 5, 6, 7, 8, 9, 10, 11, 12, 13, 14, 15, 16, 17, 18] rfl) hK_ 0 rfl rfl rfl hl_.1 rfl (Nat.le_of_ble_eq_true rfl) dX4_correctionCount_8 ⟨Nat.zero_le _, Nat.zero_le _⟩ ?_
    refine lv_goto (tgt := 17) hx_ hb_ dX4_correctionCount_11 (by decide) ?_
    rw [← hQe]
    exact W.iret hx_ hb_ hr (fun tt1 htt1 hWW1 => ⟨_, rfl, congrArg iI (if1 c4_), htt1⟩) (fun q_ h_ => absurd h_ List.not_mem_nil) dX4_correctionCount_17

set_option maxHeartbeats 4000000 in
set_option maxRecDepth 100000 in
/-- literalCount -/
theorem c_X4_literalCount (l_ : Launch) (G_ : va_G) (cI cZ : ClassId) (ad : Nat → Nat) (bu : Bool) (no_ : Nat) (vo_ : Nat → Int) (fo_ : Nat → Bool) (nn_ : Nat) (vn_ : Nat → Int) (fn_ : Nat → Bool) (k_ : Nat) (os_ ns_ ln_ : Nat → Nat) (ot_ nt_ : Nat → Bool) (ru_ : Nat → Nat) (bo_ bn_ bl_ : Nat) (od_ : Nat → Nat) (wt_ dr_ : Nat → Bool) (sp_ : Nat)  (hno : no_ ≤ 48) (hnn : nn_ ≤ 48) (hvo : ∀ j_, 0 ≤ vo_ j_ ∧ vo_ j_ ≤ 9999) (hvn : ∀ j_, 0 ≤ vn_ j_ ∧ vn_ j_ ≤ 9999) (hbu : bu = true → k_ ≤ 48 ∧ B48 k_ os_ ns_ ln_ ∧ Gd no_ nn_ k_ os_ ns_ ln_ ∧ CoR k_ os_ ns_ ln_ k_ wt_ dr_ od_ sp_)  : Ro l_ yX4_literalCount wsX4_literalCount ({ frames := 3, cells := 0, slots := 0, locals := 64 }) G_ cI cZ [.ref (ad 0)] (wRP cI cZ ad bu no_ vo_ fo_ nn_ vn_ fn_ k_ os_ ns_ ln_ ot_ nt_ ru_ bo_ bn_ bl_ od_ wt_ dr_ sp_) (A_cc bu (lit nn_ k_ ns_ ln_)) := by
  refine Met.ofW (cc := cX4_literalCount) (maxL := 1) (ret := (some .int)) (by decide) rfl ?_
  intro p_ e_ s_ m_ args below meth c_ s₁ B hml hv
  obtain ⟨hargs, hP_, hK_⟩ := hv
  have hx_ := B.exec
  have hb_ := B.bytes
  have hr := B.returns
  have hts := atoms_spec (ws := wsX4_literalCount) B.pre
  have hown : s_.vm.findClass RX4 = some m_.cls := findClass_of_methodNamed B.named
  have hlocks := B.notSynchronized
  have hi4_ : ∀ w_ ∈ wsX40, w_ ∈ wsX4_literalCount := by decide +kernel
  have hf40_ := hts (.fieldLink RX4 40 "RelocatingPatch" "built" "Z") (by decide +kernel)
  have hP_ : va_P G_ vwCl [(ad 0, .inr (4, [.ref (ad 1), .ref (ad 4), .ref (ad 7), .ref (ad 11), .ref (ad 15), .int (iI (bZ bu))])), (ad 1, .inr (3, [.ref (ad 2), .ref (ad 3), .int (iI ((no_ : Nat) : Int))])), (ad 2, .inl (cI, 48, .inl (aI vo_))), (ad 3, .inl (cZ, 48, .inl (aB fo_))), (ad 4, .inr (3, [.ref (ad 5), .ref (ad 6), .int (iI ((nn_ : Nat) : Int))])), (ad 5, .inl (cI, 48, .inl (aI vn_))), (ad 6, .inl (cZ, 48, .inl (aB fn_))), (ad 7, .inr (1, [.ref (ad 8), .ref (ad 9), .ref (ad 10), .int (iI ((k_ : Nat) : Int))])), (ad 8, .inl (cI, 48, .inl (aN os_))), (ad 9, .inl (cI, 48, .inl (aN ns_))), (ad 10, .inl (cI, 48, .inl (aN ln_))), (ad 11, .inr (0, [.ref (ad 12), .ref (ad 13), .ref (ad 14), .int (iI ((bo_ : Nat) : Int)), .int (iI ((bn_ : Nat) : Int)), .int (iI ((bl_ : Nat) : Int))])), (ad 12, .inl (cZ, 48, .inl (aB ot_))), (ad 13, .inl (cZ, 48, .inl (aB nt_))), (ad 14, .inl (cI, 49, .inl (aN ru_))), (ad 15, .inr (2, [.ref (ad 16), .ref (ad 17), .ref (ad 18), .int (iI ((sp_ : Nat) : Int))])), (ad 16, .inl (cI, 48, .inl (aN od_))), (ad 17, .inl (cZ, 48, .inl (aB wt_))), (ad 18, .inl (cZ, 48, .inl (aB dr_)))] s_.heap := hP_
  generalize hQe : MQ below (vp_Si (fun r_ => r_ = iI (A_cc bu (lit nn_ k_ ns_ ln_)))) args s_ 0 0 (fun _ => False) = Q_
  rw [show entryFrame m_ args 1 = entryFrame m_ ([.ref (ad 0)] : List Value).toArray 1 from by rw [hargs], lg_entry_eq]
  have hl_ := lv_entry ([.ref (ad 0)]) (n := 1) (Nat.le_of_ble_eq_true rfl)
  generalize (lg_sl ([.ref (ad 0)]) ++ List.replicate (1 - (lg_sl ([.ref (ad 0)])).length) Slot.unset).toArray = ls_ at hl_ ⊢
  have hl_ : lv_has ls_ 1 [(0, .ref (ad 0))] := hl_
  refine lv_aload_n hx_ hb_ dX4_literalCount_0 rfl (lv_at hl_ 0 rfl) ?_
  refine va_get (D := G_) (ci := 4) (v := .int (iI (bZ bu))) (C := RX4) (T := TX4) (N := 6) hx_ hb_ hts hi4_ hown hK_ hP_ 0 rfl rfl 5 (by decide) hf40_ (fun _ h9 => h9) rfl dX4_literalCount_1 ?_
  refine q_bf (tgt := 14) hx_ hb_ dX4_literalCount_4 (by decide) (fun c4_ => ?_) (fun c4_ => ?_)
  · skip
    refine lv_sipush (v := iI (-10004)) hx_ hb_ dX4_literalCount_14 rfl ?_
    rw [← hQe]
    exact W.iret hx_ hb_ hr (fun tt1 htt1 hWW1 => ⟨_, rfl, congrArg iI (if0 c4_), htt1⟩) (fun q_ h_ => absurd h_ List.not_mem_nil) dX4_literalCount_17
  · skip
    obtain ⟨hk_, hB_, hgd, hco⟩ := hbu c4_
    refine lv_aload_n hx_ hb_ dX4_literalCount_7 rfl (lv_at hl_ 0 rfl) ?_
    refine ro_V (As := []) (rest := []) ⟨hx_, hb_, hml, hown, hts⟩ (c_X4_literals l_ G_ cI cZ ad bu no_ vo_ fo_ nn_ vn_ fn_ k_ os_ ns_ ln_ ot_ nt_ ru_ bo_ bn_ bl_ od_ wt_ dr_ sp_  hno hnn hvo hvn hk_ hB_ hgd) (cwV 0 hts gX4_literalCount_X4_literals rfl rfl rfl (by decide +kernel) ⟨Nat.le_of_ble_eq_true rfl, Nat.le_of_ble_eq_true rfl⟩) (hP_.sub (ws' := [(ad 0, .inr (4, [.ref (ad 1), .ref (ad 4), .ref (ad 7), .ref (ad 11), .ref (ad 15), .int (iI (bZ bu))])), (ad 1, .inr (3, [.ref (ad 2), .ref (ad 3), .int (iI ((no_ : Nat) : Int))])), (ad 2, .inl (cI, 48, .inl (aI vo_))), (ad 3, .inl (cZ, 48, .inl (aB fo_))), (ad 4, .inr (3, [.ref (ad 5), .ref (ad 6), .int (iI ((nn_ : Nat) : Int))])), (ad 5, .inl (cI, 48, .inl (aI vn_))), (ad 6, .inl (cZ, 48, .inl (aB fn_))), (ad 7, .inr (1, [.ref (ad 8), .ref (ad 9), .ref (ad 10), .int (iI ((k_ : Nat) : Int))])), (ad 8, .inl (cI, 48, .inl (aN os_))), (ad 9, .inl (cI, 48, .inl (aN ns_))), (ad 10, .inl (cI, 48, .inl (aN ln_))), (ad 11, .inr (0, [.ref (ad 12), .ref (ad 13), .ref (ad 14), .int (iI ((bo_ : Nat) : Int)), .int (iI ((bn_ : Nat) : Int)), .int (iI ((bl_ : Nat) : Int))])), (ad 12, .inl (cZ, 48, .inl (aB ot_))), (ad 13, .inl (cZ, 48, .inl (aB nt_))), (ad 14, .inl (cI, 49, .inl (aN ru_))), (ad 15, .inr (2, [.ref (ad 16), .ref (ad 17), .ref (ad 18), .int (iI ((sp_ : Nat) : Int))])), (ad 16, .inl (cI, 48, .inl (aN od_))), (ad 17, .inl (cZ, 48, .inl (aB wt_))), (ad 18, .inl (cZ, 48, .inl (aB dr_)))]) [0, 1, 2, 3, 4, 5, 6, 7, 8, 9, 10, 11, 12, 13, 14, 15, 16, 17, 18] rfl) hK_ 0 rfl rfl rfl hl_.1 rfl (Nat.le_of_ble_eq_true rfl) dX4_literalCount_8 ⟨Nat.zero_le _, Nat.zero_le _⟩ ?_
    refine lv_goto (tgt := 17) hx_ hb_ dX4_literalCount_11 (by decide) ?_
    rw [← hQe]
    exact W.iret hx_ hb_ hr (fun tt1 htt1 hWW1 => ⟨_, rfl, congrArg iI (if1 c4_), htt1⟩) (fun q_ h_ => absurd h_ List.not_mem_nil) dX4_literalCount_17

set_option maxHeartbeats 4000000 in
set_option maxRecDepth 100000 in
/-- patchSize -/
theorem c_X4_patchSize (l_ : Launch) (G_ : va_G) (cI cZ : ClassId) (ad : Nat → Nat) (bu : Bool) (no_ : Nat) (vo_ : Nat → Int) (fo_ : Nat → Bool) (nn_ : Nat) (vn_ : Nat → Int) (fn_ : Nat → Bool) (k_ : Nat) (os_ ns_ ln_ : Nat → Nat) (ot_ nt_ : Nat → Bool) (ru_ : Nat → Nat) (bo_ bn_ bl_ : Nat) (od_ : Nat → Nat) (wt_ dr_ : Nat → Bool) (sp_ : Nat)  (hno : no_ ≤ 48) (hnn : nn_ ≤ 48) (hvo : ∀ j_, 0 ≤ vo_ j_ ∧ vo_ j_ ≤ 9999) (hvn : ∀ j_, 0 ≤ vn_ j_ ∧ vn_ j_ ≤ 9999) (hbu : bu = true → k_ ≤ 48 ∧ B48 k_ os_ ns_ ln_ ∧ Gd no_ nn_ k_ os_ ns_ ln_ ∧ CoR k_ os_ ns_ ln_ k_ wt_ dr_ od_ sp_)  : Ro l_ yX4_patchSize wsX4_patchSize ({ frames := 6, cells := 0, slots := 0, locals := 134 }) G_ cI cZ [.ref (ad 0)] (wRP cI cZ ad bu no_ vo_ fo_ nn_ vn_ fn_ k_ os_ ns_ ln_ ot_ nt_ ru_ bo_ bn_ bl_ od_ wt_ dr_ sp_) (A_cc bu (3 * k_ + lit nn_ k_ ns_ ln_ + 2 * cnt (ncr vo_ fo_ vn_ k_ os_ ns_ ln_) nn_)) := by
  refine Met.ofW (cc := cX4_patchSize) (maxL := 1) (ret := (some .int)) (by decide) rfl ?_
  intro p_ e_ s_ m_ args below meth c_ s₁ B hml hv
  obtain ⟨hargs, hP_, hK_⟩ := hv
  have hx_ := B.exec
  have hb_ := B.bytes
  have hr := B.returns
  have hts := atoms_spec (ws := wsX4_patchSize) B.pre
  have hown : s_.vm.findClass RX4 = some m_.cls := findClass_of_methodNamed B.named
  have hlocks := B.notSynchronized
  have hi4_ : ∀ w_ ∈ wsX40, w_ ∈ wsX4_patchSize := by decide +kernel
  have hf40_ := hts (.fieldLink RX4 40 "RelocatingPatch" "built" "Z") (by decide +kernel)
  have hP_ : va_P G_ vwCl [(ad 0, .inr (4, [.ref (ad 1), .ref (ad 4), .ref (ad 7), .ref (ad 11), .ref (ad 15), .int (iI (bZ bu))])), (ad 1, .inr (3, [.ref (ad 2), .ref (ad 3), .int (iI ((no_ : Nat) : Int))])), (ad 2, .inl (cI, 48, .inl (aI vo_))), (ad 3, .inl (cZ, 48, .inl (aB fo_))), (ad 4, .inr (3, [.ref (ad 5), .ref (ad 6), .int (iI ((nn_ : Nat) : Int))])), (ad 5, .inl (cI, 48, .inl (aI vn_))), (ad 6, .inl (cZ, 48, .inl (aB fn_))), (ad 7, .inr (1, [.ref (ad 8), .ref (ad 9), .ref (ad 10), .int (iI ((k_ : Nat) : Int))])), (ad 8, .inl (cI, 48, .inl (aN os_))), (ad 9, .inl (cI, 48, .inl (aN ns_))), (ad 10, .inl (cI, 48, .inl (aN ln_))), (ad 11, .inr (0, [.ref (ad 12), .ref (ad 13), .ref (ad 14), .int (iI ((bo_ : Nat) : Int)), .int (iI ((bn_ : Nat) : Int)), .int (iI ((bl_ : Nat) : Int))])), (ad 12, .inl (cZ, 48, .inl (aB ot_))), (ad 13, .inl (cZ, 48, .inl (aB nt_))), (ad 14, .inl (cI, 49, .inl (aN ru_))), (ad 15, .inr (2, [.ref (ad 16), .ref (ad 17), .ref (ad 18), .int (iI ((sp_ : Nat) : Int))])), (ad 16, .inl (cI, 48, .inl (aN od_))), (ad 17, .inl (cZ, 48, .inl (aB wt_))), (ad 18, .inl (cZ, 48, .inl (aB dr_)))] s_.heap := hP_
  generalize hQe : MQ below (vp_Si (fun r_ => r_ = iI (A_cc bu (3 * k_ + lit nn_ k_ ns_ ln_ + 2 * cnt (ncr vo_ fo_ vn_ k_ os_ ns_ ln_) nn_)))) args s_ 0 0 (fun _ => False) = Q_
  rw [show entryFrame m_ args 1 = entryFrame m_ ([.ref (ad 0)] : List Value).toArray 1 from by rw [hargs], lg_entry_eq]
  have hl_ := lv_entry ([.ref (ad 0)]) (n := 1) (Nat.le_of_ble_eq_true rfl)
  generalize (lg_sl ([.ref (ad 0)]) ++ List.replicate (1 - (lg_sl ([.ref (ad 0)])).length) Slot.unset).toArray = ls_ at hl_ ⊢
  have hl_ : lv_has ls_ 1 [(0, .ref (ad 0))] := hl_
  refine lv_aload_n hx_ hb_ dX4_patchSize_0 rfl (lv_at hl_ 0 rfl) ?_
  refine va_get (D := G_) (ci := 4) (v := .int (iI (bZ bu))) (C := RX4) (T := TX4) (N := 6) hx_ hb_ hts hi4_ hown hK_ hP_ 0 rfl rfl 5 (by decide) hf40_ (fun _ h9 => h9) rfl dX4_patchSize_1 ?_
  refine q_bf (tgt := 21) hx_ hb_ dX4_patchSize_4 (by decide) (fun c4_ => ?_) (fun c4_ => ?_)
  · skip
    refine lv_sipush (v := iI (-10004)) hx_ hb_ dX4_patchSize_21 rfl ?_
    rw [← hQe]
    exact W.iret hx_ hb_ hr (fun tt1 htt1 hWW1 => ⟨_, rfl, congrArg iI (if0 c4_), htt1⟩) (fun q_ h_ => absurd h_ List.not_mem_nil) dX4_patchSize_24
  · skip
    obtain ⟨hk_, hB_, hgd, hco⟩ := hbu c4_
    refine lv_aload_n hx_ hb_ dX4_patchSize_7 rfl (lv_at hl_ 0 rfl) ?_
    refine ro_V (As := []) (rest := []) ⟨hx_, hb_, hml, hown, hts⟩ (c_X4_blocksAndLiteralsCost l_ G_ cI cZ ad bu no_ vo_ fo_ nn_ vn_ fn_ k_ os_ ns_ ln_ ot_ nt_ ru_ bo_ bn_ bl_ od_ wt_ dr_ sp_  hno hnn hvo hvn hk_ hB_ hgd) (cwV 0 hts gX4_patchSize_X4_blocksAndLiteralsCost rfl rfl rfl (by decide +kernel) ⟨Nat.le_of_ble_eq_true rfl, Nat.le_of_ble_eq_true rfl⟩) (hP_.sub (ws' := [(ad 0, .inr (4, [.ref (ad 1), .ref (ad 4), .ref (ad 7), .ref (ad 11), .ref (ad 15), .int (iI (bZ bu))])), (ad 1, .inr (3, [.ref (ad 2), .ref (ad 3), .int (iI ((no_ : Nat) : Int))])), (ad 2, .inl (cI, 48, .inl (aI vo_))), (ad 3, .inl (cZ, 48, .inl (aB fo_))), (ad 4, .inr (3, [.ref (ad 5), .ref (ad 6), .int (iI ((nn_ : Nat) : Int))])), (ad 5, .inl (cI, 48, .inl (aI vn_))), (ad 6, .inl (cZ, 48, .inl (aB fn_))), (ad 7, .inr (1, [.ref (ad 8), .ref (ad 9), .ref (ad 10), .int (iI ((k_ : Nat) : Int))])), (ad 8, .inl (cI, 48, .inl (aN os_))), (ad 9, .inl (cI, 48, .inl (aN ns_))), (ad 10, .inl (cI, 48, .inl (aN ln_))), (ad 11, .inr (0, [.ref (ad 12), .ref (ad 13), .ref (ad 14), .int (iI ((bo_ : Nat) : Int)), .int (iI ((bn_ : Nat) : Int)), .int (iI ((bl_ : Nat) : Int))])), (ad 12, .inl (cZ, 48, .inl (aB ot_))), (ad 13, .inl (cZ, 48, .inl (aB nt_))), (ad 14, .inl (cI, 49, .inl (aN ru_))), (ad 15, .inr (2, [.ref (ad 16), .ref (ad 17), .ref (ad 18), .int (iI ((sp_ : Nat) : Int))])), (ad 16, .inl (cI, 48, .inl (aN od_))), (ad 17, .inl (cZ, 48, .inl (aB wt_))), (ad 18, .inl (cZ, 48, .inl (aB dr_)))]) [0, 1, 2, 3, 4, 5, 6, 7, 8, 9, 10, 11, 12, 13, 14, 15, 16, 17, 18] rfl) hK_ 0 rfl rfl rfl hl_.1 rfl (Nat.le_of_ble_eq_true rfl) dX4_patchSize_8 ⟨Nat.zero_le _, Nat.zero_le _⟩ ?_
    refine lv_aload_n hx_ hb_ dX4_patchSize_11 rfl (lv_at hl_ 0 rfl) ?_
    refine ro_V (As := []) (rest := [.int (iI ((k_ * 3 + lit nn_ k_ ns_ ln_ * 1 : Nat) : Int))]) ⟨hx_, hb_, hml, hown, hts⟩ (c_X4_corrections l_ G_ cI cZ ad bu no_ vo_ fo_ nn_ vn_ fn_ k_ os_ ns_ ln_ ot_ nt_ ru_ bo_ bn_ bl_ od_ wt_ dr_ sp_  hno hnn hvo hvn hk_ hB_ hgd) (cwV 0 hts gX4_patchSize_X4_corrections rfl rfl rfl (by decide +kernel) ⟨Nat.le_of_ble_eq_true rfl, Nat.le_of_ble_eq_true rfl⟩) (hP_.sub (ws' := [(ad 0, .inr (4, [.ref (ad 1), .ref (ad 4), .ref (ad 7), .ref (ad 11), .ref (ad 15), .int (iI (bZ bu))])), (ad 1, .inr (3, [.ref (ad 2), .ref (ad 3), .int (iI ((no_ : Nat) : Int))])), (ad 2, .inl (cI, 48, .inl (aI vo_))), (ad 3, .inl (cZ, 48, .inl (aB fo_))), (ad 4, .inr (3, [.ref (ad 5), .ref (ad 6), .int (iI ((nn_ : Nat) : Int))])), (ad 5, .inl (cI, 48, .inl (aI vn_))), (ad 6, .inl (cZ, 48, .inl (aB fn_))), (ad 7, .inr (1, [.ref (ad 8), .ref (ad 9), .ref (ad 10), .int (iI ((k_ : Nat) : Int))])), (ad 8, .inl (cI, 48, .inl (aN os_))), (ad 9, .inl (cI, 48, .inl (aN ns_))), (ad 10, .inl (cI, 48, .inl (aN ln_))), (ad 11, .inr (0, [.ref (ad 12), .ref (ad 13), .ref (ad 14), .int (iI ((bo_ : Nat) : Int)), .int (iI ((bn_ : Nat) : Int)), .int (iI ((bl_ : Nat) : Int))])), (ad 12, .inl (cZ, 48, .inl (aB ot_))), (ad 13, .inl (cZ, 48, .inl (aB nt_))), (ad 14, .inl (cI, 49, .inl (aN ru_))), (ad 15, .inr (2, [.ref (ad 16), .ref (ad 17), .ref (ad 18), .int (iI ((sp_ : Nat) : Int))])), (ad 16, .inl (cI, 48, .inl (aN od_))), (ad 17, .inl (cZ, 48, .inl (aB wt_))), (ad 18, .inl (cZ, 48, .inl (aB dr_)))]) [0, 1, 2, 3, 4, 5, 6, 7, 8, 9, 10, 11, 12, 13, 14, 15, 16, 17, 18] rfl) hK_ 0 rfl rfl rfl hl_.1 rfl (Nat.le_of_ble_eq_true rfl) dX4_patchSize_12 ⟨Nat.zero_le _, Nat.zero_le _⟩ ?_
    refine lv_iconst (v := iI ((2 : Nat) : Int)) hx_ hb_ dX4_patchSize_15 rfl ?_
    refine q_imulN hx_ hb_ dX4_patchSize_16 ?_
    refine q_iaddN hx_ hb_ dX4_patchSize_17 ?_
    refine lv_goto (tgt := 24) hx_ hb_ dX4_patchSize_18 (by decide) ?_
    rw [← hQe]
    exact W.iret hx_ hb_ hr (fun tt1 htt1 hWW1 => ⟨_, rfl, congrArg iI (by unfold A_cc; rw [if_pos c4_]; omega), htt1⟩) (fun q_ h_ => absurd h_ List.not_mem_nil) dX4_patchSize_24

set_option maxHeartbeats 4000000 in
set_option maxRecDepth 100000 in
/-- unpredictedSize -/
theorem c_X4_unpredictedSize (l_ : Launch) (G_ : va_G) (cI cZ : ClassId) (ad : Nat → Nat) (bu : Bool) (no_ : Nat) (vo_ : Nat → Int) (fo_ : Nat → Bool) (nn_ : Nat) (vn_ : Nat → Int) (fn_ : Nat → Bool) (k_ : Nat) (os_ ns_ ln_ : Nat → Nat) (ot_ nt_ : Nat → Bool) (ru_ : Nat → Nat) (bo_ bn_ bl_ : Nat) (od_ : Nat → Nat) (wt_ dr_ : Nat → Bool) (sp_ : Nat)  (hno : no_ ≤ 48) (hnn : nn_ ≤ 48) (hvo : ∀ j_, 0 ≤ vo_ j_ ∧ vo_ j_ ≤ 9999) (hvn : ∀ j_, 0 ≤ vn_ j_ ∧ vn_ j_ ≤ 9999) (hbu : bu = true → k_ ≤ 48 ∧ B48 k_ os_ ns_ ln_ ∧ Gd no_ nn_ k_ os_ ns_ ln_ ∧ CoR k_ os_ ns_ ln_ k_ wt_ dr_ od_ sp_)  : Ro l_ yX4_unpredictedSize wsX4_unpredictedSize ({ frames := 6, cells := 0, slots := 0, locals := 131 }) G_ cI cZ [.ref (ad 0)] (wRP cI cZ ad bu no_ vo_ fo_ nn_ vn_ fn_ k_ os_ ns_ ln_ ot_ nt_ ru_ bo_ bn_ bl_ od_ wt_ dr_ sp_) (A_cc bu (3 * k_ + lit nn_ k_ ns_ ln_ + 2 * cnt (chg vo_ vn_ k_ os_ ns_ ln_) nn_)) := by
  refine Met.ofW (cc := cX4_unpredictedSize) (maxL := 1) (ret := (some .int)) (by decide) rfl ?_
  intro p_ e_ s_ m_ args below meth c_ s₁ B hml hv
  obtain ⟨hargs, hP_, hK_⟩ := hv
  have hx_ := B.exec
  have hb_ := B.bytes
  have hr := B.returns
  have hts := atoms_spec (ws := wsX4_unpredictedSize) B.pre
  have hown : s_.vm.findClass RX4 = some m_.cls := findClass_of_methodNamed B.named
  have hlocks := B.notSynchronized
  have hi4_ : ∀ w_ ∈ wsX40, w_ ∈ wsX4_unpredictedSize := by decide +kernel
  have hf40_ := hts (.fieldLink RX4 40 "RelocatingPatch" "built" "Z") (by decide +kernel)
  have hP_ : va_P G_ vwCl [(ad 0, .inr (4, [.ref (ad 1), .ref (ad 4), .ref (ad 7), .ref (ad 11), .ref (ad 15), .int (iI (bZ bu))])), (ad 1, .inr (3, [.ref (ad 2), .ref (ad 3), .int (iI ((no_ : Nat) : Int))])), (ad 2, .inl (cI, 48, .inl (aI vo_))), (ad 3, .inl (cZ, 48, .inl (aB fo_))), (ad 4, .inr (3, [.ref (ad 5), .ref (ad 6), .int (iI ((nn_ : Nat) : Int))])), (ad 5, .inl (cI, 48, .inl (aI vn_))), (ad 6, .inl (cZ, 48, .inl (aB fn_))), (ad 7, .inr (1, [.ref (ad 8), .ref (ad 9), .ref (ad 10), .int (iI ((k_ : Nat) : Int))])), (ad 8, .inl (cI, 48, .inl (aN os_))), (ad 9, .inl (cI, 48, .inl (aN ns_))), (ad 10, .inl (cI, 48, .inl (aN ln_))), (ad 11, .inr (0, [.ref (ad 12), .ref (ad 13), .ref (ad 14), .int (iI ((bo_ : Nat) : Int)), .int (iI ((bn_ : Nat) : Int)), .int (iI ((bl_ : Nat) : Int))])), (ad 12, .inl (cZ, 48, .inl (aB ot_))), (ad 13, .inl (cZ, 48, .inl (aB nt_))), (ad 14, .inl (cI, 49, .inl (aN ru_))), (ad 15, .inr (2, [.ref (ad 16), .ref (ad 17), .ref (ad 18), .int (iI ((sp_ : Nat) : Int))])), (ad 16, .inl (cI, 48, .inl (aN od_))), (ad 17, .inl (cZ, 48, .inl (aB wt_))), (ad 18, .inl (cZ, 48, .inl (aB dr_)))] s_.heap := hP_
  generalize hQe : MQ below (vp_Si (fun r_ => r_ = iI (A_cc bu (3 * k_ + lit nn_ k_ ns_ ln_ + 2 * cnt (chg vo_ vn_ k_ os_ ns_ ln_) nn_)))) args s_ 0 0 (fun _ => False) = Q_
  rw [show entryFrame m_ args 1 = entryFrame m_ ([.ref (ad 0)] : List Value).toArray 1 from by rw [hargs], lg_entry_eq]
  have hl_ := lv_entry ([.ref (ad 0)]) (n := 1) (Nat.le_of_ble_eq_true rfl)
  generalize (lg_sl ([.ref (ad 0)]) ++ List.replicate (1 - (lg_sl ([.ref (ad 0)])).length) Slot.unset).toArray = ls_ at hl_ ⊢
  have hl_ : lv_has ls_ 1 [(0, .ref (ad 0))] := hl_
  refine lv_aload_n hx_ hb_ dX4_unpredictedSize_0 rfl (lv_at hl_ 0 rfl) ?_
  refine va_get (D := G_) (ci := 4) (v := .int (iI (bZ bu))) (C := RX4) (T := TX4) (N := 6) hx_ hb_ hts hi4_ hown hK_ hP_ 0 rfl rfl 5 (by decide) hf40_ (fun _ h9 => h9) rfl dX4_unpredictedSize_1 ?_
  refine q_bf (tgt := 21) hx_ hb_ dX4_unpredictedSize_4 (by decide) (fun c4_ => ?_) (fun c4_ => ?_)
  · skip
    refine lv_sipush (v := iI (-10004)) hx_ hb_ dX4_unpredictedSize_21 rfl ?_
    rw [← hQe]
    exact W.iret hx_ hb_ hr (fun tt1 htt1 hWW1 => ⟨_, rfl, congrArg iI (if0 c4_), htt1⟩) (fun q_ h_ => absurd h_ List.not_mem_nil) dX4_unpredictedSize_24
  · skip
    obtain ⟨hk_, hB_, hgd, hco⟩ := hbu c4_
    refine lv_aload_n hx_ hb_ dX4_unpredictedSize_7 rfl (lv_at hl_ 0 rfl) ?_
    refine ro_V (As := []) (rest := []) ⟨hx_, hb_, hml, hown, hts⟩ (c_X4_blocksAndLiteralsCost l_ G_ cI cZ ad bu no_ vo_ fo_ nn_ vn_ fn_ k_ os_ ns_ ln_ ot_ nt_ ru_ bo_ bn_ bl_ od_ wt_ dr_ sp_  hno hnn hvo hvn hk_ hB_ hgd) (cwV 0 hts gX4_unpredictedSize_X4_blocksAndLiteralsCost rfl rfl rfl (by decide +kernel) ⟨Nat.le_of_ble_eq_true rfl, Nat.le_of_ble_eq_true rfl⟩) (hP_.sub (ws' := [(ad 0, .inr (4, [.ref (ad 1), .ref (ad 4), .ref (ad 7), .ref (ad 11), .ref (ad 15), .int (iI (bZ bu))])), (ad 1, .inr (3, [.ref (ad 2), .ref (ad 3), .int (iI ((no_ : Nat) : Int))])), (ad 2, .inl (cI, 48, .inl (aI vo_))), (ad 3, .inl (cZ, 48, .inl (aB fo_))), (ad 4, .inr (3, [.ref (ad 5), .ref (ad 6), .int (iI ((nn_ : Nat) : Int))])), (ad 5, .inl (cI, 48, .inl (aI vn_))), (ad 6, .inl (cZ, 48, .inl (aB fn_))), (ad 7, .inr (1, [.ref (ad 8), .ref (ad 9), .ref (ad 10), .int (iI ((k_ : Nat) : Int))])), (ad 8, .inl (cI, 48, .inl (aN os_))), (ad 9, .inl (cI, 48, .inl (aN ns_))), (ad 10, .inl (cI, 48, .inl (aN ln_))), (ad 11, .inr (0, [.ref (ad 12), .ref (ad 13), .ref (ad 14), .int (iI ((bo_ : Nat) : Int)), .int (iI ((bn_ : Nat) : Int)), .int (iI ((bl_ : Nat) : Int))])), (ad 12, .inl (cZ, 48, .inl (aB ot_))), (ad 13, .inl (cZ, 48, .inl (aB nt_))), (ad 14, .inl (cI, 49, .inl (aN ru_))), (ad 15, .inr (2, [.ref (ad 16), .ref (ad 17), .ref (ad 18), .int (iI ((sp_ : Nat) : Int))])), (ad 16, .inl (cI, 48, .inl (aN od_))), (ad 17, .inl (cZ, 48, .inl (aB wt_))), (ad 18, .inl (cZ, 48, .inl (aB dr_)))]) [0, 1, 2, 3, 4, 5, 6, 7, 8, 9, 10, 11, 12, 13, 14, 15, 16, 17, 18] rfl) hK_ 0 rfl rfl rfl hl_.1 rfl (Nat.le_of_ble_eq_true rfl) dX4_unpredictedSize_8 ⟨Nat.zero_le _, Nat.zero_le _⟩ ?_
    refine lv_aload_n hx_ hb_ dX4_unpredictedSize_11 rfl (lv_at hl_ 0 rfl) ?_
    refine ro_V (As := []) (rest := [.int (iI ((k_ * 3 + lit nn_ k_ ns_ ln_ * 1 : Nat) : Int))]) ⟨hx_, hb_, hml, hown, hts⟩ (c_X4_changedWords l_ G_ cI cZ ad bu no_ vo_ fo_ nn_ vn_ fn_ k_ os_ ns_ ln_ ot_ nt_ ru_ bo_ bn_ bl_ od_ wt_ dr_ sp_  hno hnn hvo hvn hk_ hB_ hgd) (cwV 0 hts gX4_unpredictedSize_X4_changedWords rfl rfl rfl (by decide +kernel) ⟨Nat.le_of_ble_eq_true rfl, Nat.le_of_ble_eq_true rfl⟩) (hP_.sub (ws' := [(ad 0, .inr (4, [.ref (ad 1), .ref (ad 4), .ref (ad 7), .ref (ad 11), .ref (ad 15), .int (iI (bZ bu))])), (ad 1, .inr (3, [.ref (ad 2), .ref (ad 3), .int (iI ((no_ : Nat) : Int))])), (ad 2, .inl (cI, 48, .inl (aI vo_))), (ad 3, .inl (cZ, 48, .inl (aB fo_))), (ad 4, .inr (3, [.ref (ad 5), .ref (ad 6), .int (iI ((nn_ : Nat) : Int))])), (ad 5, .inl (cI, 48, .inl (aI vn_))), (ad 6, .inl (cZ, 48, .inl (aB fn_))), (ad 7, .inr (1, [.ref (ad 8), .ref (ad 9), .ref (ad 10), .int (iI ((k_ : Nat) : Int))])), (ad 8, .inl (cI, 48, .inl (aN os_))), (ad 9, .inl (cI, 48, .inl (aN ns_))), (ad 10, .inl (cI, 48, .inl (aN ln_))), (ad 11, .inr (0, [.ref (ad 12), .ref (ad 13), .ref (ad 14), .int (iI ((bo_ : Nat) : Int)), .int (iI ((bn_ : Nat) : Int)), .int (iI ((bl_ : Nat) : Int))])), (ad 12, .inl (cZ, 48, .inl (aB ot_))), (ad 13, .inl (cZ, 48, .inl (aB nt_))), (ad 14, .inl (cI, 49, .inl (aN ru_))), (ad 15, .inr (2, [.ref (ad 16), .ref (ad 17), .ref (ad 18), .int (iI ((sp_ : Nat) : Int))])), (ad 16, .inl (cI, 48, .inl (aN od_))), (ad 17, .inl (cZ, 48, .inl (aB wt_))), (ad 18, .inl (cZ, 48, .inl (aB dr_)))]) [0, 1, 2, 3, 4, 5, 6, 7, 8, 9, 10, 11, 12, 13, 14, 15, 16, 17, 18] rfl) hK_ 0 rfl rfl rfl hl_.1 rfl (Nat.le_of_ble_eq_true rfl) dX4_unpredictedSize_12 ⟨Nat.zero_le _, Nat.zero_le _⟩ ?_
    refine lv_iconst (v := iI ((2 : Nat) : Int)) hx_ hb_ dX4_unpredictedSize_15 rfl ?_
    refine q_imulN hx_ hb_ dX4_unpredictedSize_16 ?_
    refine q_iaddN hx_ hb_ dX4_unpredictedSize_17 ?_
    refine lv_goto (tgt := 24) hx_ hb_ dX4_unpredictedSize_18 (by decide) ?_
    rw [← hQe]
    exact W.iret hx_ hb_ hr (fun tt1 htt1 hWW1 => ⟨_, rfl, congrArg iI (by unfold A_cc; rw [if_pos c4_]; omega), htt1⟩) (fun q_ h_ => absurd h_ List.not_mem_nil) dX4_unpredictedSize_24

set_option maxHeartbeats 4000000 in
set_option maxRecDepth 100000 in
/-- correctionIndex -/
theorem c_X4_correctionIndex (l_ : Launch) (G_ : va_G) (cI cZ : ClassId) (ad : Nat → Nat) (bu : Bool) (no_ : Nat) (vo_ : Nat → Int) (fo_ : Nat → Bool) (nn_ : Nat) (vn_ : Nat → Int) (fn_ : Nat → Bool) (k_ : Nat) (os_ ns_ ln_ : Nat → Nat) (ot_ nt_ : Nat → Bool) (ru_ : Nat → Nat) (bo_ bn_ bl_ : Nat) (od_ : Nat → Nat) (wt_ dr_ : Nat → Bool) (sp_ : Nat) (x_ : Int) (hno : no_ ≤ 48) (hnn : nn_ ≤ 48) (hvo : ∀ j_, 0 ≤ vo_ j_ ∧ vo_ j_ ≤ 9999) (hvn : ∀ j_, 0 ≤ vn_ j_ ∧ vn_ j_ ≤ 9999) (hbu : bu = true → k_ ≤ 48 ∧ B48 k_ os_ ns_ ln_ ∧ Gd no_ nn_ k_ os_ ns_ ln_ ∧ CoR k_ os_ ns_ ln_ k_ wt_ dr_ od_ sp_) (hx1 : -2147483648 ≤ x_) (hx2 : x_ < 2147483648) : Ro l_ yX4_correctionIndex wsX4_correctionIndex ({ frames := 5, cells := 0, slots := 0, locals := 112 }) G_ cI cZ [.ref (ad 0), .int (iI (x_))] (wRP cI cZ ad bu no_ vo_ fo_ nn_ vn_ fn_ k_ os_ ns_ ln_ ot_ nt_ ru_ bo_ bn_ bl_ od_ wt_ dr_ sp_) (A_ci bu nn_ (ncr vo_ fo_ vn_ k_ os_ ns_ ln_) x_) := by
  refine Met.ofW (cc := cX4_correctionIndex) (maxL := 4) (ret := (some .int)) (by decide) rfl ?_
  intro p_ e_ s_ m_ args below meth c_ s₁ B hml hv
  obtain ⟨hargs, hP_, hK_⟩ := hv
  have hx_ := B.exec
  have hb_ := B.bytes
  have hr := B.returns
  have hts := atoms_spec (ws := wsX4_correctionIndex) B.pre
  have hown : s_.vm.findClass RX4 = some m_.cls := findClass_of_methodNamed B.named
  have hlocks := B.notSynchronized
  have hi4_ : ∀ w_ ∈ wsX40, w_ ∈ wsX4_correctionIndex := by decide +kernel
  have hf16_ := hts (.fieldLink RX4 16 "RelocatingPatch" "newImage" "LRelocatingPatch$Image;") (by decide +kernel)
  have hf40_ := hts (.fieldLink RX4 40 "RelocatingPatch" "built" "Z") (by decide +kernel)
  have hP_ : va_P G_ vwCl [(ad 0, .inr (4, [.ref (ad 1), .ref (ad 4), .ref (ad 7), .ref (ad 11), .ref (ad 15), .int (iI (bZ bu))])), (ad 1, .inr (3, [.ref (ad 2), .ref (ad 3), .int (iI ((no_ : Nat) : Int))])), (ad 2, .inl (cI, 48, .inl (aI vo_))), (ad 3, .inl (cZ, 48, .inl (aB fo_))), (ad 4, .inr (3, [.ref (ad 5), .ref (ad 6), .int (iI ((nn_ : Nat) : Int))])), (ad 5, .inl (cI, 48, .inl (aI vn_))), (ad 6, .inl (cZ, 48, .inl (aB fn_))), (ad 7, .inr (1, [.ref (ad 8), .ref (ad 9), .ref (ad 10), .int (iI ((k_ : Nat) : Int))])), (ad 8, .inl (cI, 48, .inl (aN os_))), (ad 9, .inl (cI, 48, .inl (aN ns_))), (ad 10, .inl (cI, 48, .inl (aN ln_))), (ad 11, .inr (0, [.ref (ad 12), .ref (ad 13), .ref (ad 14), .int (iI ((bo_ : Nat) : Int)), .int (iI ((bn_ : Nat) : Int)), .int (iI ((bl_ : Nat) : Int))])), (ad 12, .inl (cZ, 48, .inl (aB ot_))), (ad 13, .inl (cZ, 48, .inl (aB nt_))), (ad 14, .inl (cI, 49, .inl (aN ru_))), (ad 15, .inr (2, [.ref (ad 16), .ref (ad 17), .ref (ad 18), .int (iI ((sp_ : Nat) : Int))])), (ad 16, .inl (cI, 48, .inl (aN od_))), (ad 17, .inl (cZ, 48, .inl (aB wt_))), (ad 18, .inl (cZ, 48, .inl (aB dr_)))] s_.heap := hP_
  generalize hQe : MQ below (vp_Si (fun r_ => r_ = iI (A_ci bu nn_ (ncr vo_ fo_ vn_ k_ os_ ns_ ln_) x_))) args s_ 0 0 (fun _ => False) = Q_
  have lp15 : ∀ (n_ : Nat) (i_ : Nat) (q_ : Nat) (ls_ : Array Slot), (bu = true) → (i_ ≤ nn_) → (nn_ + 1 ≤ i_ + n_) → (q_ = cnt (ncr vo_ fo_ vn_ k_ os_ ns_ ln_) i_) → (∀ j_, j_ < i_ → ((ncr vo_ fo_ vn_ k_ os_ ns_ ln_) j_ && decide (((cnt (ncr vo_ fo_ vn_ k_ os_ ns_ ln_) j_ : Nat) : Int) = x_)) = false) → lv_has ls_ 4 [(0, .ref (ad 0)), (1, .int (iI (x_))), (2, .int (iI ((q_ : Nat) : Int))), (3, .int (iI ((i_ : Nat) : Int)))] → W p_ l_ e_ (headSpec wsX4_correctionIndex ({ frames := 5, cells := 0, slots := 0, locals := 112 })).room s_ m_ args below meth c_ s_.heap [] 0 0 Q_ (F0 m_ 15 ls_ []) := by
    intro n_
    induction n_ with
    | zero =>
      intro i_ q_ ls_ hb0 hi_ hn_ hq_ hno0
      exact False.elim (by omega)
    | succ n_ ih_ =>
      intro i_ q_ ls_ hb0 hi_ hn_ hq_ hno0 hl_
      obtain ⟨hk_, hB_, hgd, hco⟩ := hbu hb0
      have hsl : sp_ ≤ 48 := by rw [hco.2.2.2]; exact Nat.le_trans (its_ok k_ os_ ns_ ln_ k_).1 hk_
      have hcl := cnt_le (ncr vo_ fo_ vn_ k_ os_ ns_ ln_) i_
      refine lv_iload_n hx_ hb_ dX4_correctionIndex_15 rfl (lv_at hl_ 3 rfl) ?_
      refine lv_aload_n hx_ hb_ dX4_correctionIndex_16 rfl (lv_at hl_ 0 rfl) ?_
      refine va_get (D := G_) (ci := 4) (v := .ref (ad 4)) (C := RX4) (T := TX4) (N := 6) hx_ hb_ hts hi4_ hown hK_ hP_ 0 rfl rfl 1 (by decide) hf16_ (fun _ h9 => h9) rfl dX4_correctionIndex_17 ?_
      refine ro_V (As := []) (rest := [.int (iI ((i_ : Nat) : Int))]) ⟨hx_, hb_, hml, hown, hts⟩ (c_X3_size l_ G_ cI cZ (ad 4) (ad 5) (ad 6) nn_ vn_ fn_) (cwV 0 hts gX4_correctionIndex_X3_size rfl rfl rfl (by decide +kernel) ⟨Nat.le_of_ble_eq_true rfl, Nat.le_of_ble_eq_true rfl⟩) (hP_.sub (ws' := [(ad 4, .inr (3, [.ref (ad 5), .ref (ad 6), .int (iI ((nn_ : Nat) : Int))])), (ad 5, .inl (cI, 48, .inl (aI vn_))), (ad 6, .inl (cZ, 48, .inl (aB fn_)))]) [4, 5, 6] rfl) hK_ 0 rfl rfl rfl hl_.1 rfl (Nat.le_of_ble_eq_true rfl) dX4_correctionIndex_20 ⟨Nat.zero_le _, Nat.zero_le _⟩ ?_
      refine q_icmp_ge (tgt := 50) hx_ hb_ dX4_correctionIndex_23 (by decide) (⟨by omega, by omega⟩) (⟨by omega, by omega⟩) (fun c23_ => ?_) (fun c23_ => ?_)
      · skip
        refine lv_sipush (v := iI (-10003)) hx_ hb_ dX4_correctionIndex_50 rfl ?_
        rw [← hQe]
        exact W.iret hx_ hb_ hr (fun tt1 htt1 hWW1 => ⟨_, rfl, congrArg iI (by unfold A_ci; rw [if_pos hb0]; exact fst_wI (Or.inl ⟨rfl, fun j_ hj_ => hno0 j_ (by omega)⟩)), htt1⟩) (fun q_ h_ => absurd h_ List.not_mem_nil) dX4_correctionIndex_53
      · skip
        refine lv_aload_n hx_ hb_ dX4_correctionIndex_26 rfl (lv_at hl_ 0 rfl) ?_
        refine lv_iload_n hx_ hb_ dX4_correctionIndex_27 rfl (lv_at hl_ 3 rfl) ?_
        refine ro_V (As := [.int (iI ((i_ : Nat) : Int))]) (rest := []) ⟨hx_, hb_, hml, hown, hts⟩ (c_X4_needsCorrection l_ G_ cI cZ ad bu no_ vo_ fo_ nn_ vn_ fn_ k_ os_ ns_ ln_ ot_ nt_ ru_ bo_ bn_ bl_ od_ wt_ dr_ sp_ i_ hno hnn hvo hvn hk_ hB_ hgd (by omega)) (cwV 1 hts gX4_correctionIndex_X4_needsCorrection rfl rfl rfl (by decide +kernel) ⟨Nat.le_of_ble_eq_true rfl, Nat.le_of_ble_eq_true rfl⟩) (hP_.sub (ws' := [(ad 0, .inr (4, [.ref (ad 1), .ref (ad 4), .ref (ad 7), .ref (ad 11), .ref (ad 15), .int (iI (bZ bu))])), (ad 1, .inr (3, [.ref (ad 2), .ref (ad 3), .int (iI ((no_ : Nat) : Int))])), (ad 2, .inl (cI, 48, .inl (aI vo_))), (ad 3, .inl (cZ, 48, .inl (aB fo_))), (ad 4, .inr (3, [.ref (ad 5), .ref (ad 6), .int (iI ((nn_ : Nat) : Int))])), (ad 5, .inl (cI, 48, .inl (aI vn_))), (ad 6, .inl (cZ, 48, .inl (aB fn_))), (ad 7, .inr (1, [.ref (ad 8), .ref (ad 9), .ref (ad 10), .int (iI ((k_ : Nat) : Int))])), (ad 8, .inl (cI, 48, .inl (aN os_))), (ad 9, .inl (cI, 48, .inl (aN ns_))), (ad 10, .inl (cI, 48, .inl (aN ln_))), (ad 11, .inr (0, [.ref (ad 12), .ref (ad 13), .ref (ad 14), .int (iI ((bo_ : Nat) : Int)), .int (iI ((bn_ : Nat) : Int)), .int (iI ((bl_ : Nat) : Int))])), (ad 12, .inl (cZ, 48, .inl (aB ot_))), (ad 13, .inl (cZ, 48, .inl (aB nt_))), (ad 14, .inl (cI, 49, .inl (aN ru_))), (ad 15, .inr (2, [.ref (ad 16), .ref (ad 17), .ref (ad 18), .int (iI ((sp_ : Nat) : Int))])), (ad 16, .inl (cI, 48, .inl (aN od_))), (ad 17, .inl (cZ, 48, .inl (aB wt_))), (ad 18, .inl (cZ, 48, .inl (aB dr_)))]) [0, 1, 2, 3, 4, 5, 6, 7, 8, 9, 10, 11, 12, 13, 14, 15, 16, 17, 18] rfl) hK_ 0 rfl rfl rfl hl_.1 rfl (Nat.le_of_ble_eq_true rfl) dX4_correctionIndex_28 ⟨Nat.zero_le _, Nat.zero_le _⟩ ?_
        refine q_bf (tgt := 44) hx_ hb_ dX4_correctionIndex_31 (by decide) (fun c31_ => ?_) (fun c31_ => ?_)
        · skip
          refine q_iinc (k := 3) ((i_ + 1 : Nat) : Int) hx_ hb_ dX4_correctionIndex_44 hl_ rfl (rfl) (by decide) (lv' := [(3, .int (iI ((i_ + 1 : Nat) : Int))), (0, .ref (ad 0)), (1, .int (iI (x_))), (2, .int (iI ((q_ : Nat) : Int)))]) rfl (fun ls_ hl_ => ?_)
          refine lv_goto (tgt := 15) hx_ hb_ dX4_correctionIndex_47 (by decide) ?_
          exact ih_ (i_ + 1) q_ ls_ (hb0) (by omega) (by omega) (by rw [hq_, cnt_s0 c31_]) (lt_s hno0 (by rw [c31_]; rfl)) (lv_sub hl_ [1, 2, 3, 0] rfl)
        · skip
          refine lv_iload_n hx_ hb_ dX4_correctionIndex_34 rfl (lv_at hl_ 2 rfl) ?_
          refine lv_iload_n hx_ hb_ dX4_correctionIndex_35 rfl (lv_at hl_ 1 rfl) ?_
          refine q_icmp_ne (tgt := 41) hx_ hb_ dX4_correctionIndex_36 (by decide) (⟨by omega, by omega⟩) (⟨by omega, by omega⟩) (fun c36_ => ?_) (fun c36_ => ?_)
          · skip
            refine q_iinc (k := 2) ((q_ + 1 : Nat) : Int) hx_ hb_ dX4_correctionIndex_41 hl_ rfl (rfl) (by decide) (lv' := [(2, .int (iI ((q_ + 1 : Nat) : Int))), (0, .ref (ad 0)), (1, .int (iI (x_))), (3, .int (iI ((i_ : Nat) : Int)))]) rfl (fun ls_ hl_ => ?_)
            refine q_iinc (k := 3) ((i_ + 1 : Nat) : Int) hx_ hb_ dX4_correctionIndex_44 hl_ rfl (rfl) (by decide) (lv' := [(3, .int (iI ((i_ + 1 : Nat) : Int))), (2, .int (iI ((q_ + 1 : Nat) : Int))), (0, .ref (ad 0)), (1, .int (iI (x_)))]) rfl (fun ls_ hl_ => ?_)
            refine lv_goto (tgt := 15) hx_ hb_ dX4_correctionIndex_47 (by decide) ?_
            exact ih_ (i_ + 1) (q_ + 1) ls_ (hb0) (by omega) (by omega) (by rw [hq_, cnt_s1 c31_]) (lt_s hno0 (by rw [← hq_, decide_eq_false c36_]; simp)) (lv_sub hl_ [2, 3, 1, 0] rfl)
          · skip
            refine lv_iload_n hx_ hb_ dX4_correctionIndex_39 rfl (lv_at hl_ 3 rfl) ?_
            rw [← hQe]
            exact W.iret hx_ hb_ hr (fun tt1 htt1 hWW1 => ⟨_, rfl, congrArg iI (by unfold A_ci; rw [if_pos hb0]; exact fst_wI (Or.inr ⟨i_, by omega, by rw [c31_, ← hq_, decide_eq_true c36_]; rfl, hno0, rfl⟩)), htt1⟩) (fun q_ h_ => absurd h_ List.not_mem_nil) dX4_correctionIndex_40
  rw [show entryFrame m_ args 4 = entryFrame m_ ([.ref (ad 0), .int (iI (x_))] : List Value).toArray 4 from by rw [hargs], lg_entry_eq]
  have hl_ := lv_entry ([.ref (ad 0), .int (iI (x_))]) (n := 4) (Nat.le_of_ble_eq_true rfl)
  generalize (lg_sl ([.ref (ad 0), .int (iI (x_))]) ++ List.replicate (4 - (lg_sl ([.ref (ad 0), .int (iI (x_))])).length) Slot.unset).toArray = ls_ at hl_ ⊢
  have hl_ : lv_has ls_ 4 [(0, .ref (ad 0)), (1, .int (iI (x_)))] := hl_
  refine lv_aload_n hx_ hb_ dX4_correctionIndex_0 rfl (lv_at hl_ 0 rfl) ?_
  refine va_get (D := G_) (ci := 4) (v := .int (iI (bZ bu))) (C := RX4) (T := TX4) (N := 6) hx_ hb_ hts hi4_ hown hK_ hP_ 0 rfl rfl 5 (by decide) hf40_ (fun _ h9 => h9) rfl dX4_correctionIndex_1 ?_
  refine q_bt (tgt := 11) hx_ hb_ dX4_correctionIndex_4 (by decide) (fun c4_ => ?_) (fun c4_ => ?_)
  · skip
    refine lv_iconst (v := iI ((0 : Nat) : Int)) hx_ hb_ dX4_correctionIndex_11 rfl ?_
    refine lv_istore_n (lv' := [(2, .int (iI ((0 : Nat) : Int))), (0, .ref (ad 0)), (1, .int (iI (x_)))]) hx_ hb_ dX4_correctionIndex_12 rfl hl_ (by decide) rfl (fun ls_ hl_ => ?_)
    refine lv_iconst (v := iI ((0 : Nat) : Int)) hx_ hb_ dX4_correctionIndex_13 rfl ?_
    refine lv_istore_n (lv' := [(3, .int (iI ((0 : Nat) : Int))), (2, .int (iI ((0 : Nat) : Int))), (0, .ref (ad 0)), (1, .int (iI (x_)))]) hx_ hb_ dX4_correctionIndex_14 rfl hl_ (by decide) rfl (fun ls_ hl_ => ?_)
    exact lp15 (nn_ + 1) 0 0 ls_ (c4_) (by omega) (by omega) (rfl) (fun j_ hj_ => absurd hj_ (Nat.not_lt_zero _)) (lv_sub hl_ [2, 3, 1, 0] rfl)
  · skip
    refine lv_sipush (v := iI (-10004)) hx_ hb_ dX4_correctionIndex_7 rfl ?_
    rw [← hQe]
    exact W.iret hx_ hb_ hr (fun tt1 htt1 hWW1 => ⟨_, rfl, congrArg iI (if0 c4_), htt1⟩) (fun q_ h_ => absurd h_ List.not_mem_nil) dX4_correctionIndex_10

set_option maxHeartbeats 4000000 in
set_option maxRecDepth 100000 in
/-- copyCount -/
theorem c_X4_copyCount (l_ : Launch) (G_ : va_G) (cI cZ : ClassId) (ad : Nat → Nat) (bu : Bool) (no_ : Nat) (vo_ : Nat → Int) (fo_ : Nat → Bool) (nn_ : Nat) (vn_ : Nat → Int) (fn_ : Nat → Bool) (k_ : Nat) (os_ ns_ ln_ : Nat → Nat) (ot_ nt_ : Nat → Bool) (ru_ : Nat → Nat) (bo_ bn_ bl_ : Nat) (od_ : Nat → Nat) (wt_ dr_ : Nat → Bool) (sp_ : Nat)  (hno : no_ ≤ 48) (hnn : nn_ ≤ 48) (hvo : ∀ j_, 0 ≤ vo_ j_ ∧ vo_ j_ ≤ 9999) (hvn : ∀ j_, 0 ≤ vn_ j_ ∧ vn_ j_ ≤ 9999) (hbu : bu = true → k_ ≤ 48 ∧ B48 k_ os_ ns_ ln_ ∧ Gd no_ nn_ k_ os_ ns_ ln_ ∧ CoR k_ os_ ns_ ln_ k_ wt_ dr_ od_ sp_)  : Ro l_ yX4_copyCount wsX4_copyCount ({ frames := 1, cells := 0, slots := 0, locals := 20 }) G_ cI cZ [.ref (ad 0)] (wRP cI cZ ad bu no_ vo_ fo_ nn_ vn_ fn_ k_ os_ ns_ ln_ ot_ nt_ ru_ bo_ bn_ bl_ od_ wt_ dr_ sp_) (A_cc bu (its k_ os_ ns_ ln_ k_).2.2) := by
  refine Met.ofW (cc := cX4_copyCount) (maxL := 1) (ret := (some .int)) (by decide) rfl ?_
  intro p_ e_ s_ m_ args below meth c_ s₁ B hml hv
  obtain ⟨hargs, hP_, hK_⟩ := hv
  have hx_ := B.exec
  have hb_ := B.bytes
  have hr := B.returns
  have hts := atoms_spec (ws := wsX4_copyCount) B.pre
  have hown : s_.vm.findClass RX4 = some m_.cls := findClass_of_methodNamed B.named
  have hlocks := B.notSynchronized
  have hi4_ : ∀ w_ ∈ wsX40, w_ ∈ wsX4_copyCount := by decide +kernel
  have hf36_ := hts (.fieldLink RX4 36 "RelocatingPatch" "copyOrder" "LRelocatingPatch$CopyOrder;") (by decide +kernel)
  have hf40_ := hts (.fieldLink RX4 40 "RelocatingPatch" "built" "Z") (by decide +kernel)
  have hP_ : va_P G_ vwCl [(ad 0, .inr (4, [.ref (ad 1), .ref (ad 4), .ref (ad 7), .ref (ad 11), .ref (ad 15), .int (iI (bZ bu))])), (ad 1, .inr (3, [.ref (ad 2), .ref (ad 3), .int (iI ((no_ : Nat) : Int))])), (ad 2, .inl (cI, 48, .inl (aI vo_))), (ad 3, .inl (cZ, 48, .inl (aB fo_))), (ad 4, .inr (3, [.ref (ad 5), .ref (ad 6), .int (iI ((nn_ : Nat) : Int))])), (ad 5, .inl (cI, 48, .inl (aI vn_))), (ad 6, .inl (cZ, 48, .inl (aB fn_))), (ad 7, .inr (1, [.ref (ad 8), .ref (ad 9), .ref (ad 10), .int (iI ((k_ : Nat) : Int))])), (ad 8, .inl (cI, 48, .inl (aN os_))), (ad 9, .inl (cI, 48, .inl (aN ns_))), (ad 10, .inl (cI, 48, .inl (aN ln_))), (ad 11, .inr (0, [.ref (ad 12), .ref (ad 13), .ref (ad 14), .int (iI ((bo_ : Nat) : Int)), .int (iI ((bn_ : Nat) : Int)), .int (iI ((bl_ : Nat) : Int))])), (ad 12, .inl (cZ, 48, .inl (aB ot_))), (ad 13, .inl (cZ, 48, .inl (aB nt_))), (ad 14, .inl (cI, 49, .inl (aN ru_))), (ad 15, .inr (2, [.ref (ad 16), .ref (ad 17), .ref (ad 18), .int (iI ((sp_ : Nat) : Int))])), (ad 16, .inl (cI, 48, .inl (aN od_))), (ad 17, .inl (cZ, 48, .inl (aB wt_))), (ad 18, .inl (cZ, 48, .inl (aB dr_)))] s_.heap := hP_
  generalize hQe : MQ below (vp_Si (fun r_ => r_ = iI (A_cc bu (its k_ os_ ns_ ln_ k_).2.2))) args s_ 0 0 (fun _ => False) = Q_
  rw [show entryFrame m_ args 1 = entryFrame m_ ([.ref (ad 0)] : List Value).toArray 1 from by rw [hargs], lg_entry_eq]
  have hl_ := lv_entry ([.ref (ad 0)]) (n := 1) (Nat.le_of_ble_eq_true rfl)
  generalize (lg_sl ([.ref (ad 0)]) ++ List.replicate (1 - (lg_sl ([.ref (ad 0)])).length) Slot.unset).toArray = ls_ at hl_ ⊢
  have hl_ : lv_has ls_ 1 [(0, .ref (ad 0))] := hl_
  refine lv_aload_n hx_ hb_ dX4_copyCount_0 rfl (lv_at hl_ 0 rfl) ?_
  refine va_get (D := G_) (ci := 4) (v := .int (iI (bZ bu))) (C := RX4) (T := TX4) (N := 6) hx_ hb_ hts hi4_ hown hK_ hP_ 0 rfl rfl 5 (by decide) hf40_ (fun _ h9 => h9) rfl dX4_copyCount_1 ?_
  refine q_bf (tgt := 17) hx_ hb_ dX4_copyCount_4 (by decide) (fun c4_ => ?_) (fun c4_ => ?_)
  · skip
    refine lv_sipush (v := iI (-10004)) hx_ hb_ dX4_copyCount_17 rfl ?_
    rw [← hQe]
    exact W.iret hx_ hb_ hr (fun tt1 htt1 hWW1 => ⟨_, rfl, congrArg iI (if0 c4_), htt1⟩) (fun q_ h_ => absurd h_ List.not_mem_nil) dX4_copyCount_20
  · skip
    obtain ⟨hk_, hB_, hgd, hco⟩ := hbu c4_
    refine lv_aload_n hx_ hb_ dX4_copyCount_7 rfl (lv_at hl_ 0 rfl) ?_
    refine va_get (D := G_) (ci := 4) (v := .ref (ad 15)) (C := RX4) (T := TX4) (N := 6) hx_ hb_ hts hi4_ hown hK_ hP_ 0 rfl rfl 4 (by decide) hf36_ (fun _ h9 => h9) rfl dX4_copyCount_8 ?_
    refine ro_V (As := []) (rest := []) ⟨hx_, hb_, hml, hown, hts⟩ (c_X2_steps l_ G_ cI cZ (ad 15) (ad 16) (ad 17) (ad 18) od_ wt_ dr_ sp_) (cwV 0 hts gX4_copyCount_X2_steps rfl rfl rfl (by decide +kernel) ⟨Nat.le_of_ble_eq_true rfl, Nat.le_of_ble_eq_true rfl⟩) (hP_.sub (ws' := [(ad 15, .inr (2, [.ref (ad 16), .ref (ad 17), .ref (ad 18), .int (iI ((sp_ : Nat) : Int))])), (ad 16, .inl (cI, 48, .inl (aN od_))), (ad 17, .inl (cZ, 48, .inl (aB wt_))), (ad 18, .inl (cZ, 48, .inl (aB dr_)))]) [15, 16, 17, 18] rfl) hK_ 0 rfl rfl rfl hl_.1 rfl (Nat.le_of_ble_eq_true rfl) dX4_copyCount_11 ⟨Nat.zero_le _, Nat.zero_le _⟩ ?_
    refine lv_goto (tgt := 20) hx_ hb_ dX4_copyCount_14 (by decide) ?_
    rw [← hQe]
    exact W.iret hx_ hb_ hr (fun tt1 htt1 hWW1 => ⟨_, rfl, congrArg iI (by unfold A_cc; rw [if_pos c4_, hco.2.2.2]), htt1⟩) (fun q_ h_ => absurd h_ List.not_mem_nil) dX4_copyCount_20

set_option maxHeartbeats 4000000 in
set_option maxRecDepth 100000 in
/-- copyStep -/
theorem c_X4_copyStep (l_ : Launch) (G_ : va_G) (cI cZ : ClassId) (ad : Nat → Nat) (bu : Bool) (no_ : Nat) (vo_ : Nat → Int) (fo_ : Nat → Bool) (nn_ : Nat) (vn_ : Nat → Int) (fn_ : Nat → Bool) (k_ : Nat) (os_ ns_ ln_ : Nat → Nat) (ot_ nt_ : Nat → Bool) (ru_ : Nat → Nat) (bo_ bn_ bl_ : Nat) (od_ : Nat → Nat) (wt_ dr_ : Nat → Bool) (sp_ : Nat) (x_ : Int) (hno : no_ ≤ 48) (hnn : nn_ ≤ 48) (hvo : ∀ j_, 0 ≤ vo_ j_ ∧ vo_ j_ ≤ 9999) (hvn : ∀ j_, 0 ≤ vn_ j_ ∧ vn_ j_ ≤ 9999) (hbu : bu = true → k_ ≤ 48 ∧ B48 k_ os_ ns_ ln_ ∧ Gd no_ nn_ k_ os_ ns_ ln_ ∧ CoR k_ os_ ns_ ln_ k_ wt_ dr_ od_ sp_) (hx1 : -2147483648 ≤ x_) (hx2 : x_ < 2147483648) : Ro l_ yX4_copyStep wsX4_copyStep ({ frames := 2, cells := 0, slots := 0, locals := 42 }) G_ cI cZ [.ref (ad 0), .int (iI (x_))] (wRP cI cZ ad bu no_ vo_ fo_ nn_ vn_ fn_ k_ os_ ns_ ln_ ot_ nt_ ru_ bo_ bn_ bl_ od_ wt_ dr_ sp_) (A_ofb bu (its k_ os_ ns_ ln_ k_).2.2 (its k_ os_ ns_ ln_ k_).2.1 x_) := by
  refine Met.ofW (cc := cX4_copyStep) (maxL := 2) (ret := (some .int)) (by decide) rfl ?_
  intro p_ e_ s_ m_ args below meth c_ s₁ B hml hv
  obtain ⟨hargs, hP_, hK_⟩ := hv
  have hx_ := B.exec
  have hb_ := B.bytes
  have hr := B.returns
  have hts := atoms_spec (ws := wsX4_copyStep) B.pre
  have hown : s_.vm.findClass RX4 = some m_.cls := findClass_of_methodNamed B.named
  have hlocks := B.notSynchronized
  have hi4_ : ∀ w_ ∈ wsX40, w_ ∈ wsX4_copyStep := by decide +kernel
  have hf36_ := hts (.fieldLink RX4 36 "RelocatingPatch" "copyOrder" "LRelocatingPatch$CopyOrder;") (by decide +kernel)
  have hf40_ := hts (.fieldLink RX4 40 "RelocatingPatch" "built" "Z") (by decide +kernel)
  have hP_ : va_P G_ vwCl [(ad 0, .inr (4, [.ref (ad 1), .ref (ad 4), .ref (ad 7), .ref (ad 11), .ref (ad 15), .int (iI (bZ bu))])), (ad 1, .inr (3, [.ref (ad 2), .ref (ad 3), .int (iI ((no_ : Nat) : Int))])), (ad 2, .inl (cI, 48, .inl (aI vo_))), (ad 3, .inl (cZ, 48, .inl (aB fo_))), (ad 4, .inr (3, [.ref (ad 5), .ref (ad 6), .int (iI ((nn_ : Nat) : Int))])), (ad 5, .inl (cI, 48, .inl (aI vn_))), (ad 6, .inl (cZ, 48, .inl (aB fn_))), (ad 7, .inr (1, [.ref (ad 8), .ref (ad 9), .ref (ad 10), .int (iI ((k_ : Nat) : Int))])), (ad 8, .inl (cI, 48, .inl (aN os_))), (ad 9, .inl (cI, 48, .inl (aN ns_))), (ad 10, .inl (cI, 48, .inl (aN ln_))), (ad 11, .inr (0, [.ref (ad 12), .ref (ad 13), .ref (ad 14), .int (iI ((bo_ : Nat) : Int)), .int (iI ((bn_ : Nat) : Int)), .int (iI ((bl_ : Nat) : Int))])), (ad 12, .inl (cZ, 48, .inl (aB ot_))), (ad 13, .inl (cZ, 48, .inl (aB nt_))), (ad 14, .inl (cI, 49, .inl (aN ru_))), (ad 15, .inr (2, [.ref (ad 16), .ref (ad 17), .ref (ad 18), .int (iI ((sp_ : Nat) : Int))])), (ad 16, .inl (cI, 48, .inl (aN od_))), (ad 17, .inl (cZ, 48, .inl (aB wt_))), (ad 18, .inl (cZ, 48, .inl (aB dr_)))] s_.heap := hP_
  generalize hQe : MQ below (vp_Si (fun r_ => r_ = iI (A_ofb bu (its k_ os_ ns_ ln_ k_).2.2 (its k_ os_ ns_ ln_ k_).2.1 x_))) args s_ 0 0 (fun _ => False) = Q_
  rw [show entryFrame m_ args 2 = entryFrame m_ ([.ref (ad 0), .int (iI (x_))] : List Value).toArray 2 from by rw [hargs], lg_entry_eq]
  have hl_ := lv_entry ([.ref (ad 0), .int (iI (x_))]) (n := 2) (Nat.le_of_ble_eq_true rfl)
  generalize (lg_sl ([.ref (ad 0), .int (iI (x_))]) ++ List.replicate (2 - (lg_sl ([.ref (ad 0), .int (iI (x_))])).length) Slot.unset).toArray = ls_ at hl_ ⊢
  have hl_ : lv_has ls_ 2 [(0, .ref (ad 0)), (1, .int (iI (x_)))] := hl_
  refine lv_aload_n hx_ hb_ dX4_copyStep_0 rfl (lv_at hl_ 0 rfl) ?_
  refine va_get (D := G_) (ci := 4) (v := .int (iI (bZ bu))) (C := RX4) (T := TX4) (N := 6) hx_ hb_ hts hi4_ hown hK_ hP_ 0 rfl rfl 5 (by decide) hf40_ (fun _ h9 => h9) rfl dX4_copyStep_1 ?_
  refine q_bt (tgt := 11) hx_ hb_ dX4_copyStep_4 (by decide) (fun c4_ => ?_) (fun c4_ => ?_)
  · skip
    obtain ⟨hk_, hB_, hgd, hco⟩ := hbu c4_
    have hsl : sp_ ≤ 48 := by rw [hco.2.2.2]; exact Nat.le_trans (its_ok k_ os_ ns_ ln_ k_).1 hk_
    refine lv_aload_n hx_ hb_ dX4_copyStep_11 rfl (lv_at hl_ 0 rfl) ?_
    refine va_get (D := G_) (ci := 4) (v := .ref (ad 15)) (C := RX4) (T := TX4) (N := 6) hx_ hb_ hts hi4_ hown hK_ hP_ 0 rfl rfl 4 (by decide) hf36_ (fun _ h9 => h9) rfl dX4_copyStep_12 ?_
    refine lv_iload_n hx_ hb_ dX4_copyStep_15 rfl (lv_at hl_ 1 rfl) ?_
    refine ro_V (As := [.int (iI (x_))]) (rest := []) ⟨hx_, hb_, hml, hown, hts⟩ (c_X2_hasStep l_ G_ cI cZ (ad 15) (ad 16) (ad 17) (ad 18) od_ wt_ dr_ sp_ (x_) (by omega) (by omega) (by omega)) (cwV 1 hts gX4_copyStep_X2_hasStep rfl rfl rfl (by decide +kernel) ⟨Nat.le_of_ble_eq_true rfl, Nat.le_of_ble_eq_true rfl⟩) (hP_.sub (ws' := [(ad 15, .inr (2, [.ref (ad 16), .ref (ad 17), .ref (ad 18), .int (iI ((sp_ : Nat) : Int))])), (ad 16, .inl (cI, 48, .inl (aN od_))), (ad 17, .inl (cZ, 48, .inl (aB wt_))), (ad 18, .inl (cZ, 48, .inl (aB dr_)))]) [15, 16, 17, 18] rfl) hK_ 0 rfl rfl rfl hl_.1 rfl (Nat.le_of_ble_eq_true rfl) dX4_copyStep_16 ⟨Nat.zero_le _, Nat.zero_le _⟩ ?_
    refine q_df (tgt := 33) hx_ hb_ dX4_copyStep_19 (by decide) (fun c19_ => ?_) (fun c19_ => ?_)
    · skip
      refine lv_sipush (v := iI (-10003)) hx_ hb_ dX4_copyStep_33 rfl ?_
      rw [← hQe]
      exact W.iret hx_ hb_ hr (fun tt1 htt1 hWW1 => ⟨_, rfl, congrArg iI (by unfold A_ofb; rw [if_pos c4_, ← hco.2.2.2, if_neg c19_]), htt1⟩) (fun q_ h_ => absurd h_ List.not_mem_nil) dX4_copyStep_36
    · skip
      refine lv_aload_n hx_ hb_ dX4_copyStep_22 rfl (lv_at hl_ 0 rfl) ?_
      refine va_get (D := G_) (ci := 4) (v := .ref (ad 15)) (C := RX4) (T := TX4) (N := 6) hx_ hb_ hts hi4_ hown hK_ hP_ 0 rfl rfl 4 (by decide) hf36_ (fun _ h9 => h9) rfl dX4_copyStep_23 ?_
      refine lv_iload_n hx_ hb_ dX4_copyStep_26 rfl (lv_at hl_ 1 rfl) ?_
      refine q_cast (b := ((x_.toNat : Nat) : Int)) (by omega) ?_
      refine ro_V (As := [.int (iI ((x_.toNat : Nat) : Int))]) (rest := []) ⟨hx_, hb_, hml, hown, hts⟩ (c_X2_blockOfStep l_ G_ cI cZ (ad 15) (ad 16) (ad 17) (ad 18) od_ wt_ dr_ sp_ x_.toNat (by omega) (by omega)) (cwV 1 hts gX4_copyStep_X2_blockOfStep rfl rfl rfl (by decide +kernel) ⟨Nat.le_of_ble_eq_true rfl, Nat.le_of_ble_eq_true rfl⟩) (hP_.sub (ws' := [(ad 15, .inr (2, [.ref (ad 16), .ref (ad 17), .ref (ad 18), .int (iI ((sp_ : Nat) : Int))])), (ad 16, .inl (cI, 48, .inl (aN od_))), (ad 17, .inl (cZ, 48, .inl (aB wt_))), (ad 18, .inl (cZ, 48, .inl (aB dr_)))]) [15, 16, 17, 18] rfl) hK_ 0 rfl rfl rfl hl_.1 rfl (Nat.le_of_ble_eq_true rfl) dX4_copyStep_27 ⟨Nat.zero_le _, Nat.zero_le _⟩ ?_
      refine lv_goto (tgt := 36) hx_ hb_ dX4_copyStep_30 (by decide) ?_
      rw [← hQe]
      exact W.iret hx_ hb_ hr (fun tt1 htt1 hWW1 => ⟨_, rfl, congrArg iI (by unfold A_ofb; rw [if_pos c4_, ← hco.2.2.2, if_pos c19_, hco.2.2.1 x_.toNat (by omega)]), htt1⟩) (fun q_ h_ => absurd h_ List.not_mem_nil) dX4_copyStep_36
  · skip
    refine lv_sipush (v := iI (-10004)) hx_ hb_ dX4_copyStep_7 rfl ?_
    rw [← hQe]
    exact W.iret hx_ hb_ hr (fun tt1 htt1 hWW1 => ⟨_, rfl, congrArg iI (if0 c4_), htt1⟩) (fun q_ h_ => absurd h_ List.not_mem_nil) dX4_copyStep_10

set_option maxHeartbeats 4000000 in
set_option maxRecDepth 100000 in
/-- isDropped -/
theorem c_X4_isDropped (l_ : Launch) (G_ : va_G) (cI cZ : ClassId) (ad : Nat → Nat) (bu : Bool) (no_ : Nat) (vo_ : Nat → Int) (fo_ : Nat → Bool) (nn_ : Nat) (vn_ : Nat → Int) (fn_ : Nat → Bool) (k_ : Nat) (os_ ns_ ln_ : Nat → Nat) (ot_ nt_ : Nat → Bool) (ru_ : Nat → Nat) (bo_ bn_ bl_ : Nat) (od_ : Nat → Nat) (wt_ dr_ : Nat → Bool) (sp_ : Nat) (x_ : Int) (hno : no_ ≤ 48) (hnn : nn_ ≤ 48) (hvo : ∀ j_, 0 ≤ vo_ j_ ∧ vo_ j_ ≤ 9999) (hvn : ∀ j_, 0 ≤ vn_ j_ ∧ vn_ j_ ≤ 9999) (hbu : bu = true → k_ ≤ 48 ∧ B48 k_ os_ ns_ ln_ ∧ Gd no_ nn_ k_ os_ ns_ ln_ ∧ CoR k_ os_ ns_ ln_ k_ wt_ dr_ od_ sp_) (hx1 : -2147483648 ≤ x_) (hx2 : x_ < 2147483648) : Ro l_ yX4_isDropped wsX4_isDropped ({ frames := 2, cells := 0, slots := 0, locals := 42 }) G_ cI cZ [.ref (ad 0), .int (iI (x_))] (wRP cI cZ ad bu no_ vo_ fo_ nn_ vn_ fn_ k_ os_ ns_ ln_ ot_ nt_ ru_ bo_ bn_ bl_ od_ wt_ dr_ sp_) (A_drp bu k_ os_ ns_ ln_ x_) := by
  refine Met.ofW (cc := cX4_isDropped) (maxL := 3) (ret := (some .int)) (by decide) rfl ?_
  intro p_ e_ s_ m_ args below meth c_ s₁ B hml hv
  obtain ⟨hargs, hP_, hK_⟩ := hv
  have hx_ := B.exec
  have hb_ := B.bytes
  have hr := B.returns
  have hts := atoms_spec (ws := wsX4_isDropped) B.pre
  have hown : s_.vm.findClass RX4 = some m_.cls := findClass_of_methodNamed B.named
  have hlocks := B.notSynchronized
  have hi4_ : ∀ w_ ∈ wsX40, w_ ∈ wsX4_isDropped := by decide +kernel
  have hf36_ := hts (.fieldLink RX4 36 "RelocatingPatch" "copyOrder" "LRelocatingPatch$CopyOrder;") (by decide +kernel)
  have hP_ : va_P G_ vwCl [(ad 0, .inr (4, [.ref (ad 1), .ref (ad 4), .ref (ad 7), .ref (ad 11), .ref (ad 15), .int (iI (bZ bu))])), (ad 1, .inr (3, [.ref (ad 2), .ref (ad 3), .int (iI ((no_ : Nat) : Int))])), (ad 2, .inl (cI, 48, .inl (aI vo_))), (ad 3, .inl (cZ, 48, .inl (aB fo_))), (ad 4, .inr (3, [.ref (ad 5), .ref (ad 6), .int (iI ((nn_ : Nat) : Int))])), (ad 5, .inl (cI, 48, .inl (aI vn_))), (ad 6, .inl (cZ, 48, .inl (aB fn_))), (ad 7, .inr (1, [.ref (ad 8), .ref (ad 9), .ref (ad 10), .int (iI ((k_ : Nat) : Int))])), (ad 8, .inl (cI, 48, .inl (aN os_))), (ad 9, .inl (cI, 48, .inl (aN ns_))), (ad 10, .inl (cI, 48, .inl (aN ln_))), (ad 11, .inr (0, [.ref (ad 12), .ref (ad 13), .ref (ad 14), .int (iI ((bo_ : Nat) : Int)), .int (iI ((bn_ : Nat) : Int)), .int (iI ((bl_ : Nat) : Int))])), (ad 12, .inl (cZ, 48, .inl (aB ot_))), (ad 13, .inl (cZ, 48, .inl (aB nt_))), (ad 14, .inl (cI, 49, .inl (aN ru_))), (ad 15, .inr (2, [.ref (ad 16), .ref (ad 17), .ref (ad 18), .int (iI ((sp_ : Nat) : Int))])), (ad 16, .inl (cI, 48, .inl (aN od_))), (ad 17, .inl (cZ, 48, .inl (aB wt_))), (ad 18, .inl (cZ, 48, .inl (aB dr_)))] s_.heap := hP_
  generalize hQe : MQ below (vp_Si (fun r_ => r_ = iI (A_drp bu k_ os_ ns_ ln_ x_))) args s_ 0 0 (fun _ => False) = Q_
  rw [show entryFrame m_ args 3 = entryFrame m_ ([.ref (ad 0), .int (iI (x_))] : List Value).toArray 3 from by rw [hargs], lg_entry_eq]
  have hl_ := lv_entry ([.ref (ad 0), .int (iI (x_))]) (n := 3) (Nat.le_of_ble_eq_true rfl)
  generalize (lg_sl ([.ref (ad 0), .int (iI (x_))]) ++ List.replicate (3 - (lg_sl ([.ref (ad 0), .int (iI (x_))])).length) Slot.unset).toArray = ls_ at hl_ ⊢
  have hl_ : lv_has ls_ 3 [(0, .ref (ad 0)), (1, .int (iI (x_)))] := hl_
  refine lv_aload_n hx_ hb_ dX4_isDropped_0 rfl (lv_at hl_ 0 rfl) ?_
  refine lv_iload_n hx_ hb_ dX4_isDropped_1 rfl (lv_at hl_ 1 rfl) ?_
  refine ro_V (As := [.int (iI (x_))]) (rest := []) ⟨hx_, hb_, hml, hown, hts⟩ (c_X4_blockError l_ G_ cI cZ ad bu no_ vo_ fo_ nn_ vn_ fn_ k_ os_ ns_ ln_ ot_ nt_ ru_ bo_ bn_ bl_ od_ wt_ dr_ sp_ (x_) (fun h_ => (hbu h_).1) (by omega) (by omega)) (cwV 1 hts gX4_isDropped_X4_blockError rfl rfl rfl (by decide +kernel) ⟨Nat.le_of_ble_eq_true rfl, Nat.le_of_ble_eq_true rfl⟩) (hP_.sub (ws' := [(ad 0, .inr (4, [.ref (ad 1), .ref (ad 4), .ref (ad 7), .ref (ad 11), .ref (ad 15), .int (iI (bZ bu))])), (ad 1, .inr (3, [.ref (ad 2), .ref (ad 3), .int (iI ((no_ : Nat) : Int))])), (ad 2, .inl (cI, 48, .inl (aI vo_))), (ad 3, .inl (cZ, 48, .inl (aB fo_))), (ad 4, .inr (3, [.ref (ad 5), .ref (ad 6), .int (iI ((nn_ : Nat) : Int))])), (ad 5, .inl (cI, 48, .inl (aI vn_))), (ad 6, .inl (cZ, 48, .inl (aB fn_))), (ad 7, .inr (1, [.ref (ad 8), .ref (ad 9), .ref (ad 10), .int (iI ((k_ : Nat) : Int))])), (ad 8, .inl (cI, 48, .inl (aN os_))), (ad 9, .inl (cI, 48, .inl (aN ns_))), (ad 10, .inl (cI, 48, .inl (aN ln_))), (ad 11, .inr (0, [.ref (ad 12), .ref (ad 13), .ref (ad 14), .int (iI ((bo_ : Nat) : Int)), .int (iI ((bn_ : Nat) : Int)), .int (iI ((bl_ : Nat) : Int))])), (ad 12, .inl (cZ, 48, .inl (aB ot_))), (ad 13, .inl (cZ, 48, .inl (aB nt_))), (ad 14, .inl (cI, 49, .inl (aN ru_))), (ad 15, .inr (2, [.ref (ad 16), .ref (ad 17), .ref (ad 18), .int (iI ((sp_ : Nat) : Int))])), (ad 16, .inl (cI, 48, .inl (aN od_))), (ad 17, .inl (cZ, 48, .inl (aB wt_))), (ad 18, .inl (cZ, 48, .inl (aB dr_)))]) [0, 1, 2, 3, 4, 5, 6, 7, 8, 9, 10, 11, 12, 13, 14, 15, 16, 17, 18] rfl) hK_ 0 rfl rfl rfl hl_.1 rfl (Nat.le_of_ble_eq_true rfl) dX4_isDropped_2 ⟨Nat.zero_le _, Nat.zero_le _⟩ ?_
  refine lv_istore_n (lv' := [(2, .int (iI (eR bu k_ (x_)))), (0, .ref (ad 0)), (1, .int (iI (x_)))]) hx_ hb_ dX4_isDropped_5 rfl hl_ (by decide) rfl (fun ls_ hl_ => ?_)
  refine lv_iload_n hx_ hb_ dX4_isDropped_6 rfl (lv_at hl_ 0 rfl) ?_
  refine q_if_eq (tgt := 12) hx_ hb_ dX4_isDropped_7 (by decide) (eR_R _ _ _) (fun c7_ => ?_) (fun c7_ => ?_)
  · skip
    obtain ⟨hb0, hx3, hx4⟩ := eR_0 c7_
    obtain ⟨hk_, hB_, hgd, hco⟩ := hbu hb0
    have hd0 := hco.2.1 x_.toNat (by omega)
    refine lv_aload_n hx_ hb_ dX4_isDropped_12 rfl (lv_at hl_ 1 rfl) ?_
    refine va_get (D := G_) (ci := 4) (v := .ref (ad 15)) (C := RX4) (T := TX4) (N := 6) hx_ hb_ hts hi4_ hown hK_ hP_ 0 rfl rfl 4 (by decide) hf36_ (fun _ h9 => h9) rfl dX4_isDropped_13 ?_
    refine lv_iload_n hx_ hb_ dX4_isDropped_16 rfl (lv_at hl_ 2 rfl) ?_
    refine q_cast (b := ((x_.toNat : Nat) : Int)) (by omega) ?_
    refine ro_V (As := [.int (iI ((x_.toNat : Nat) : Int))]) (rest := []) ⟨hx_, hb_, hml, hown, hts⟩ (c_X2_drops l_ G_ cI cZ (ad 15) (ad 16) (ad 17) (ad 18) od_ wt_ dr_ sp_ x_.toNat (by omega)) (cwV 1 hts gX4_isDropped_X2_drops rfl rfl rfl (by decide +kernel) ⟨Nat.le_of_ble_eq_true rfl, Nat.le_of_ble_eq_true rfl⟩) (hP_.sub (ws' := [(ad 15, .inr (2, [.ref (ad 16), .ref (ad 17), .ref (ad 18), .int (iI ((sp_ : Nat) : Int))])), (ad 16, .inl (cI, 48, .inl (aN od_))), (ad 17, .inl (cZ, 48, .inl (aB wt_))), (ad 18, .inl (cZ, 48, .inl (aB dr_)))]) [15, 16, 17, 18] rfl) hK_ 0 rfl rfl rfl hl_.1 rfl (Nat.le_of_ble_eq_true rfl) dX4_isDropped_17 ⟨Nat.zero_le _, Nat.zero_le _⟩ ?_
    refine q_bf (tgt := 27) hx_ hb_ dX4_isDropped_20 (by decide) (fun c20_ => ?_) (fun c20_ => ?_)
    · skip
      refine lv_iconst (v := iI ((0 : Nat) : Int)) hx_ hb_ dX4_isDropped_27 rfl ?_
      rw [← hQe]
      exact W.iret hx_ hb_ hr (fun tt1 htt1 hWW1 => ⟨_, rfl, congrArg iI (by rw [c20_] at hd0; unfold A_drp; rw [if_pos hb0, if_pos ⟨hx3, hx4⟩, if_neg (of_decide_eq_false hd0.symm)]; rfl), htt1⟩) (fun q_ h_ => absurd h_ List.not_mem_nil) dX4_isDropped_28
    · skip
      refine lv_iconst (v := iI ((1 : Nat) : Int)) hx_ hb_ dX4_isDropped_23 rfl ?_
      refine lv_goto (tgt := 28) hx_ hb_ dX4_isDropped_24 (by decide) ?_
      rw [← hQe]
      exact W.iret hx_ hb_ hr (fun tt1 htt1 hWW1 => ⟨_, rfl, congrArg iI (by rw [c20_] at hd0; unfold A_drp; rw [if_pos hb0, if_pos ⟨hx3, hx4⟩, if_pos (of_decide_eq_true hd0.symm)]; rfl), htt1⟩) (fun q_ h_ => absurd h_ List.not_mem_nil) dX4_isDropped_28
  · skip
    refine lv_iload_n hx_ hb_ dX4_isDropped_10 rfl (lv_at hl_ 0 rfl) ?_
    rw [← hQe]
    exact W.iret hx_ hb_ hr (fun tt1 htt1 hWW1 => ⟨_, rfl, congrArg iI (eR_ne _ c7_), htt1⟩) (fun q_ h_ => absurd h_ List.not_mem_nil) dX4_isDropped_11

set_option maxHeartbeats 4000000 in
set_option maxRecDepth 100000 in
/-- memoryValue -/
theorem c_X4_memoryValue (l_ : Launch) (G_ : va_G) (cI cZ : ClassId) (ad : Nat → Nat) (bu : Bool) (no_ : Nat) (vo_ : Nat → Int) (fo_ : Nat → Bool) (nn_ : Nat) (vn_ : Nat → Int) (fn_ : Nat → Bool) (k_ : Nat) (os_ ns_ ln_ : Nat → Nat) (ot_ nt_ : Nat → Bool) (ru_ : Nat → Nat) (bo_ bn_ bl_ : Nat) (od_ : Nat → Nat) (wt_ dr_ : Nat → Bool) (sp_ : Nat) (q_ : Nat) (y_ : Nat) (hno : no_ ≤ 48) (hnn : nn_ ≤ 48) (hvo : ∀ j_, 0 ≤ vo_ j_ ∧ vo_ j_ ≤ 9999) (hvn : ∀ j_, 0 ≤ vn_ j_ ∧ vn_ j_ ≤ 9999) (hk_ : k_ ≤ 48) (hB_ : B48 k_ os_ ns_ ln_) (hgd : Gd no_ nn_ k_ os_ ns_ ln_) (hco : CoR k_ os_ ns_ ln_ k_ wt_ dr_ od_ sp_) (hq_ : q_ ≤ sp_) (hy0 : y_ ≤ 48) : Ro l_ yX4_memoryValue wsX4_memoryValue ({ frames := 4, cells := 0, slots := 0, locals := 91 }) G_ cI cZ [.ref (ad 0), .int (iI ((q_ : Nat) : Int)), .int (iI ((y_ : Nat) : Int))] (wRP cI cZ ad bu no_ vo_ fo_ nn_ vn_ fn_ k_ os_ ns_ ln_ ot_ nt_ ru_ bo_ bn_ bl_ od_ wt_ dr_ sp_) (vAt no_ vo_ (org (its k_ os_ ns_ ln_ k_).2.1 os_ ns_ ln_ q_ ((y_ : Nat) : Int))) := by
  refine Met.ofW (cc := cX4_memoryValue) (maxL := 3) (ret := (some .int)) (by decide) rfl ?_
  intro p_ e_ s_ m_ args below meth c_ s₁ B hml hv
  obtain ⟨hargs, hP_, hK_⟩ := hv
  have hx_ := B.exec
  have hb_ := B.bytes
  have hr := B.returns
  have hts := atoms_spec (ws := wsX4_memoryValue) B.pre
  have hown : s_.vm.findClass RX4 = some m_.cls := findClass_of_methodNamed B.named
  have hlocks := B.notSynchronized
  have hi4_ : ∀ w_ ∈ wsX40, w_ ∈ wsX4_memoryValue := by decide +kernel
  have hf10_ := hts (.fieldLink RX4 10 "RelocatingPatch" "oldImage" "LRelocatingPatch$Image;") (by decide +kernel)
  have hf22_ := hts (.fieldLink RX4 22 "RelocatingPatch" "blocks" "LRelocatingPatch$Blocks;") (by decide +kernel)
  have hf36_ := hts (.fieldLink RX4 36 "RelocatingPatch" "copyOrder" "LRelocatingPatch$CopyOrder;") (by decide +kernel)
  have hP_ : va_P G_ vwCl [(ad 0, .inr (4, [.ref (ad 1), .ref (ad 4), .ref (ad 7), .ref (ad 11), .ref (ad 15), .int (iI (bZ bu))])), (ad 1, .inr (3, [.ref (ad 2), .ref (ad 3), .int (iI ((no_ : Nat) : Int))])), (ad 2, .inl (cI, 48, .inl (aI vo_))), (ad 3, .inl (cZ, 48, .inl (aB fo_))), (ad 4, .inr (3, [.ref (ad 5), .ref (ad 6), .int (iI ((nn_ : Nat) : Int))])), (ad 5, .inl (cI, 48, .inl (aI vn_))), (ad 6, .inl (cZ, 48, .inl (aB fn_))), (ad 7, .inr (1, [.ref (ad 8), .ref (ad 9), .ref (ad 10), .int (iI ((k_ : Nat) : Int))])), (ad 8, .inl (cI, 48, .inl (aN os_))), (ad 9, .inl (cI, 48, .inl (aN ns_))), (ad 10, .inl (cI, 48, .inl (aN ln_))), (ad 11, .inr (0, [.ref (ad 12), .ref (ad 13), .ref (ad 14), .int (iI ((bo_ : Nat) : Int)), .int (iI ((bn_ : Nat) : Int)), .int (iI ((bl_ : Nat) : Int))])), (ad 12, .inl (cZ, 48, .inl (aB ot_))), (ad 13, .inl (cZ, 48, .inl (aB nt_))), (ad 14, .inl (cI, 49, .inl (aN ru_))), (ad 15, .inr (2, [.ref (ad 16), .ref (ad 17), .ref (ad 18), .int (iI ((sp_ : Nat) : Int))])), (ad 16, .inl (cI, 48, .inl (aN od_))), (ad 17, .inl (cZ, 48, .inl (aB wt_))), (ad 18, .inl (cZ, 48, .inl (aB dr_)))] s_.heap := hP_
  generalize hQe : MQ below (vp_Si (fun r_ => r_ = iI (vAt no_ vo_ (org (its k_ os_ ns_ ln_ k_).2.1 os_ ns_ ln_ q_ ((y_ : Nat) : Int))))) args s_ 0 0 (fun _ => False) = Q_
  have hsl : sp_ ≤ 48 := by rw [hco.2.2.2]; exact Nat.le_trans (its_ok k_ os_ ns_ ln_ k_).1 hk_
  have hodk : ∀ j_, j_ < q_ → od_ j_ < k_ := fun j_ hj_ => by rw [hco.2.2.1 j_ (by omega)]; exact (its_ok k_ os_ ns_ ln_ k_).2.1 j_ (by rw [← hco.2.2.2]; omega)
  have hoe : org od_ os_ ns_ ln_ q_ ((y_ : Nat) : Int) = org (its k_ os_ ns_ ln_ k_).2.1 os_ ns_ ln_ q_ ((y_ : Nat) : Int) := org_congr (fun j_ hj_ => hco.2.2.1 j_ (by omega))
  have hor := org_R (od := (its k_ os_ ns_ ln_ k_).2.1) (s := q_) (x := ((y_ : Nat) : Int)) hB_ (fun j_ hj_ => (its_ok k_ os_ ns_ ln_ k_).2.1 j_ (by rw [← hco.2.2.2]; omega)) (by omega) (by omega)
  rw [show entryFrame m_ args 3 = entryFrame m_ ([.ref (ad 0), .int (iI ((q_ : Nat) : Int)), .int (iI ((y_ : Nat) : Int))] : List Value).toArray 3 from by rw [hargs], lg_entry_eq]
  have hl_ := lv_entry ([.ref (ad 0), .int (iI ((q_ : Nat) : Int)), .int (iI ((y_ : Nat) : Int))]) (n := 3) (Nat.le_of_ble_eq_true rfl)
  generalize (lg_sl ([.ref (ad 0), .int (iI ((q_ : Nat) : Int)), .int (iI ((y_ : Nat) : Int))]) ++ List.replicate (3 - (lg_sl ([.ref (ad 0), .int (iI ((q_ : Nat) : Int)), .int (iI ((y_ : Nat) : Int))])).length) Slot.unset).toArray = ls_ at hl_ ⊢
  have hl_ : lv_has ls_ 3 [(0, .ref (ad 0)), (1, .int (iI ((q_ : Nat) : Int))), (2, .int (iI ((y_ : Nat) : Int)))] := hl_
  refine lv_aload_n hx_ hb_ dX4_memoryValue_0 rfl (lv_at hl_ 0 rfl) ?_
  refine va_get (D := G_) (ci := 4) (v := .ref (ad 1)) (C := RX4) (T := TX4) (N := 6) hx_ hb_ hts hi4_ hown hK_ hP_ 0 rfl rfl 0 (by decide) hf10_ (fun _ h9 => h9) rfl dX4_memoryValue_1 ?_
  refine lv_aload_n hx_ hb_ dX4_memoryValue_4 rfl (lv_at hl_ 0 rfl) ?_
  refine va_get (D := G_) (ci := 4) (v := .ref (ad 15)) (C := RX4) (T := TX4) (N := 6) hx_ hb_ hts hi4_ hown hK_ hP_ 0 rfl rfl 4 (by decide) hf36_ (fun _ h9 => h9) rfl dX4_memoryValue_5 ?_
  refine lv_aload_n hx_ hb_ dX4_memoryValue_8 rfl (lv_at hl_ 0 rfl) ?_
  refine va_get (D := G_) (ci := 4) (v := .ref (ad 7)) (C := RX4) (T := TX4) (N := 6) hx_ hb_ hts hi4_ hown hK_ hP_ 0 rfl rfl 2 (by decide) hf22_ (fun _ h9 => h9) rfl dX4_memoryValue_9 ?_
  refine lv_iload_n hx_ hb_ dX4_memoryValue_12 rfl (lv_at hl_ 1 rfl) ?_
  refine lv_iload_n hx_ hb_ dX4_memoryValue_13 rfl (lv_at hl_ 2 rfl) ?_
  refine ro_V (As := [.ref (ad 7), .int (iI ((q_ : Nat) : Int)), .int (iI ((y_ : Nat) : Int))]) (rest := [.ref (ad 1)]) ⟨hx_, hb_, hml, hown, hts⟩ (c_X2_origin l_ G_ cI cZ (ad 15) (ad 16) (ad 17) (ad 18) od_ wt_ dr_ sp_ (ad 7) (ad 8) (ad 9) (ad 10) k_ os_ ns_ ln_ q_ ((y_ : Nat) : Int) (by omega) (hB_) (by omega) (hq_) (hodk) (by omega) (by omega)) (cwV 3 hts gX4_memoryValue_X2_origin rfl rfl rfl (by decide +kernel) ⟨Nat.le_of_ble_eq_true rfl, Nat.le_of_ble_eq_true rfl⟩) (hP_.sub (ws' := [(ad 15, .inr (2, [.ref (ad 16), .ref (ad 17), .ref (ad 18), .int (iI ((sp_ : Nat) : Int))])), (ad 16, .inl (cI, 48, .inl (aN od_))), (ad 17, .inl (cZ, 48, .inl (aB wt_))), (ad 18, .inl (cZ, 48, .inl (aB dr_))), (ad 7, .inr (1, [.ref (ad 8), .ref (ad 9), .ref (ad 10), .int (iI ((k_ : Nat) : Int))])), (ad 8, .inl (cI, 48, .inl (aN os_))), (ad 9, .inl (cI, 48, .inl (aN ns_))), (ad 10, .inl (cI, 48, .inl (aN ln_)))]) [15, 16, 17, 18, 7, 8, 9, 10] rfl) hK_ 0 rfl rfl rfl hl_.1 rfl (Nat.le_of_ble_eq_true rfl) dX4_memoryValue_14 ⟨Nat.zero_le _, Nat.zero_le _⟩ ?_
  refine q_cast (b := (org (its k_ os_ ns_ ln_ k_).2.1 os_ ns_ ln_ q_ ((y_ : Nat) : Int))) (hoe) ?_
  refine ro_V (As := [.int (iI (org (its k_ os_ ns_ ln_ k_).2.1 os_ ns_ ln_ q_ ((y_ : Nat) : Int)))]) (rest := []) ⟨hx_, hb_, hml, hown, hts⟩ (c_X3_valueAt l_ G_ cI cZ (ad 1) (ad 2) (ad 3) no_ vo_ fo_ (org (its k_ os_ ns_ ln_ k_).2.1 os_ ns_ ln_ q_ ((y_ : Nat) : Int)) (by omega) (by omega) (by omega)) (cwV 1 hts gX4_memoryValue_X3_valueAt rfl rfl rfl (by decide +kernel) ⟨Nat.le_of_ble_eq_true rfl, Nat.le_of_ble_eq_true rfl⟩) (hP_.sub (ws' := [(ad 1, .inr (3, [.ref (ad 2), .ref (ad 3), .int (iI ((no_ : Nat) : Int))])), (ad 2, .inl (cI, 48, .inl (aI vo_))), (ad 3, .inl (cZ, 48, .inl (aB fo_)))]) [1, 2, 3] rfl) hK_ 0 rfl rfl rfl hl_.1 rfl (Nat.le_of_ble_eq_true rfl) dX4_memoryValue_17 ⟨Nat.zero_le _, Nat.zero_le _⟩ ?_
  rw [← hQe]
  exact W.iret hx_ hb_ hr (fun tt1 htt1 hWW1 => ⟨_, rfl, congrArg iI (rfl), htt1⟩) (fun q_ h_ => absurd h_ List.not_mem_nil) dX4_memoryValue_20

set_option maxHeartbeats 4000000 in
set_option maxRecDepth 100000 in
/-- inPlaceSize -/
theorem c_X4_inPlaceSize (l_ : Launch) (G_ : va_G) (cI cZ : ClassId) (ad : Nat → Nat) (bu : Bool) (no_ : Nat) (vo_ : Nat → Int) (fo_ : Nat → Bool) (nn_ : Nat) (vn_ : Nat → Int) (fn_ : Nat → Bool) (k_ : Nat) (os_ ns_ ln_ : Nat → Nat) (ot_ nt_ : Nat → Bool) (ru_ : Nat → Nat) (bo_ bn_ bl_ : Nat) (od_ : Nat → Nat) (wt_ dr_ : Nat → Bool) (sp_ : Nat)  (hno : no_ ≤ 48) (hnn : nn_ ≤ 48) (hvo : ∀ j_, 0 ≤ vo_ j_ ∧ vo_ j_ ≤ 9999) (hvn : ∀ j_, 0 ≤ vn_ j_ ∧ vn_ j_ ≤ 9999) (hbu : bu = true → k_ ≤ 48 ∧ B48 k_ os_ ns_ ln_ ∧ Gd no_ nn_ k_ os_ ns_ ln_ ∧ CoR k_ os_ ns_ ln_ k_ wt_ dr_ od_ sp_)  : Ro l_ yX4_inPlaceSize wsX4_inPlaceSize ({ frames := 6, cells := 0, slots := 0, locals := 133 }) G_ cI cZ [.ref (ad 0)] (wRP cI cZ ad bu no_ vo_ fo_ nn_ vn_ fn_ k_ os_ ns_ ln_ ot_ nt_ ru_ bo_ bn_ bl_ od_ wt_ dr_ sp_) (A_cc bu (3 * (its k_ os_ ns_ ln_ k_).2.2 + smN (ipc vo_ fo_ vn_ k_ os_ ns_ ln_) nn_)) := by
  refine Met.ofW (cc := cX4_inPlaceSize) (maxL := 3) (ret := (some .int)) (by decide) rfl ?_
  intro p_ e_ s_ m_ args below meth c_ s₁ B hml hv
  obtain ⟨hargs, hP_, hK_⟩ := hv
  have hx_ := B.exec
  have hb_ := B.bytes
  have hr := B.returns
  have hts := atoms_spec (ws := wsX4_inPlaceSize) B.pre
  have hown : s_.vm.findClass RX4 = some m_.cls := findClass_of_methodNamed B.named
  have hlocks := B.notSynchronized
  have hi4_ : ∀ w_ ∈ wsX40, w_ ∈ wsX4_inPlaceSize := by decide +kernel
  have hf16_ := hts (.fieldLink RX4 16 "RelocatingPatch" "newImage" "LRelocatingPatch$Image;") (by decide +kernel)
  have hf36_ := hts (.fieldLink RX4 36 "RelocatingPatch" "copyOrder" "LRelocatingPatch$CopyOrder;") (by decide +kernel)
  have hf40_ := hts (.fieldLink RX4 40 "RelocatingPatch" "built" "Z") (by decide +kernel)
  have hP_ : va_P G_ vwCl [(ad 0, .inr (4, [.ref (ad 1), .ref (ad 4), .ref (ad 7), .ref (ad 11), .ref (ad 15), .int (iI (bZ bu))])), (ad 1, .inr (3, [.ref (ad 2), .ref (ad 3), .int (iI ((no_ : Nat) : Int))])), (ad 2, .inl (cI, 48, .inl (aI vo_))), (ad 3, .inl (cZ, 48, .inl (aB fo_))), (ad 4, .inr (3, [.ref (ad 5), .ref (ad 6), .int (iI ((nn_ : Nat) : Int))])), (ad 5, .inl (cI, 48, .inl (aI vn_))), (ad 6, .inl (cZ, 48, .inl (aB fn_))), (ad 7, .inr (1, [.ref (ad 8), .ref (ad 9), .ref (ad 10), .int (iI ((k_ : Nat) : Int))])), (ad 8, .inl (cI, 48, .inl (aN os_))), (ad 9, .inl (cI, 48, .inl (aN ns_))), (ad 10, .inl (cI, 48, .inl (aN ln_))), (ad 11, .inr (0, [.ref (ad 12), .ref (ad 13), .ref (ad 14), .int (iI ((bo_ : Nat) : Int)), .int (iI ((bn_ : Nat) : Int)), .int (iI ((bl_ : Nat) : Int))])), (ad 12, .inl (cZ, 48, .inl (aB ot_))), (ad 13, .inl (cZ, 48, .inl (aB nt_))), (ad 14, .inl (cI, 49, .inl (aN ru_))), (ad 15, .inr (2, [.ref (ad 16), .ref (ad 17), .ref (ad 18), .int (iI ((sp_ : Nat) : Int))])), (ad 16, .inl (cI, 48, .inl (aN od_))), (ad 17, .inl (cZ, 48, .inl (aB wt_))), (ad 18, .inl (cZ, 48, .inl (aB dr_)))] s_.heap := hP_
  generalize hQe : MQ below (vp_Si (fun r_ => r_ = iI (A_cc bu (3 * (its k_ os_ ns_ ln_ k_).2.2 + smN (ipc vo_ fo_ vn_ k_ os_ ns_ ln_) nn_)))) args s_ 0 0 (fun _ => False) = Q_
  have lp23 : ∀ (n_ : Nat) (i_ : Nat) (q_ : Nat) (ls_ : Array Slot), (bu = true) → (i_ ≤ nn_) → (nn_ + 1 ≤ i_ + n_) → (q_ = sp_ * 3 + smN (ipc vo_ fo_ vn_ k_ os_ ns_ ln_) i_) → lv_has ls_ 3 [(0, .ref (ad 0)), (1, .int (iI ((q_ : Nat) : Int))), (2, .int (iI ((i_ : Nat) : Int)))] → W p_ l_ e_ (headSpec wsX4_inPlaceSize ({ frames := 6, cells := 0, slots := 0, locals := 133 })).room s_ m_ args below meth c_ s_.heap [] 0 0 Q_ (F0 m_ 23 ls_ []) := by
    intro n_
    induction n_ with
    | zero =>
      intro i_ q_ ls_ hb0 hi_ hn_ hq_
      exact False.elim (by omega)
    | succ n_ ih_ =>
      intro i_ q_ ls_ hb0 hi_ hn_ hq_ hl_
      obtain ⟨hk_, hB_, hgd, hco⟩ := hbu hb0
      have hsl : sp_ ≤ 48 := by rw [hco.2.2.2]; exact Nat.le_trans (its_ok k_ os_ ns_ ln_ k_).1 hk_
      refine lv_iload_n hx_ hb_ dX4_inPlaceSize_23 rfl (lv_at hl_ 2 rfl) ?_
      refine lv_aload_n hx_ hb_ dX4_inPlaceSize_24 rfl (lv_at hl_ 0 rfl) ?_
      refine va_get (D := G_) (ci := 4) (v := .ref (ad 4)) (C := RX4) (T := TX4) (N := 6) hx_ hb_ hts hi4_ hown hK_ hP_ 0 rfl rfl 1 (by decide) hf16_ (fun _ h9 => h9) rfl dX4_inPlaceSize_25 ?_
      refine ro_V (As := []) (rest := [.int (iI ((i_ : Nat) : Int))]) ⟨hx_, hb_, hml, hown, hts⟩ (c_X3_size l_ G_ cI cZ (ad 4) (ad 5) (ad 6) nn_ vn_ fn_) (cwV 0 hts gX4_inPlaceSize_X3_size rfl rfl rfl (by decide +kernel) ⟨Nat.le_of_ble_eq_true rfl, Nat.le_of_ble_eq_true rfl⟩) (hP_.sub (ws' := [(ad 4, .inr (3, [.ref (ad 5), .ref (ad 6), .int (iI ((nn_ : Nat) : Int))])), (ad 5, .inl (cI, 48, .inl (aI vn_))), (ad 6, .inl (cZ, 48, .inl (aB fn_)))]) [4, 5, 6] rfl) hK_ 0 rfl rfl rfl hl_.1 rfl (Nat.le_of_ble_eq_true rfl) dX4_inPlaceSize_28 ⟨Nat.zero_le _, Nat.zero_le _⟩ ?_
      refine q_icmp_ge (tgt := 48) hx_ hb_ dX4_inPlaceSize_31 (by decide) (⟨by omega, by omega⟩) (⟨by omega, by omega⟩) (fun c31_ => ?_) (fun c31_ => ?_)
      · skip
        refine lv_iload_n hx_ hb_ dX4_inPlaceSize_48 rfl (lv_at hl_ 1 rfl) ?_
        rw [← hQe]
        exact W.iret hx_ hb_ hr (fun tt1 htt1 hWW1 => ⟨_, rfl, congrArg iI (by unfold A_cc; rw [if_pos hb0, ← hco.2.2.2, hq_, show i_ = nn_ from by omega]; omega), htt1⟩) (fun q_ h_ => absurd h_ List.not_mem_nil) dX4_inPlaceSize_49
      · skip
        refine lv_iload_n hx_ hb_ dX4_inPlaceSize_34 rfl (lv_at hl_ 1 rfl) ?_
        refine lv_aload_n hx_ hb_ dX4_inPlaceSize_35 rfl (lv_at hl_ 0 rfl) ?_
        refine lv_iload_n hx_ hb_ dX4_inPlaceSize_36 rfl (lv_at hl_ 2 rfl) ?_
        refine ro_V (As := [.int (iI ((i_ : Nat) : Int))]) (rest := [.int (iI ((q_ : Nat) : Int))]) ⟨hx_, hb_, hml, hown, hts⟩ (c_X4_inPlaceWordCost l_ G_ cI cZ ad bu no_ vo_ fo_ nn_ vn_ fn_ k_ os_ ns_ ln_ ot_ nt_ ru_ bo_ bn_ bl_ od_ wt_ dr_ sp_ i_ hno hnn hvo hvn hk_ hB_ hgd hco (by omega)) (cwV 1 hts gX4_inPlaceSize_X4_inPlaceWordCost rfl rfl rfl (by decide +kernel) ⟨Nat.le_of_ble_eq_true rfl, Nat.le_of_ble_eq_true rfl⟩) (hP_.sub (ws' := [(ad 0, .inr (4, [.ref (ad 1), .ref (ad 4), .ref (ad 7), .ref (ad 11), .ref (ad 15), .int (iI (bZ bu))])), (ad 1, .inr (3, [.ref (ad 2), .ref (ad 3), .int (iI ((no_ : Nat) : Int))])), (ad 2, .inl (cI, 48, .inl (aI vo_))), (ad 3, .inl (cZ, 48, .inl (aB fo_))), (ad 4, .inr (3, [.ref (ad 5), .ref (ad 6), .int (iI ((nn_ : Nat) : Int))])), (ad 5, .inl (cI, 48, .inl (aI vn_))), (ad 6, .inl (cZ, 48, .inl (aB fn_))), (ad 7, .inr (1, [.ref (ad 8), .ref (ad 9), .ref (ad 10), .int (iI ((k_ : Nat) : Int))])), (ad 8, .inl (cI, 48, .inl (aN os_))), (ad 9, .inl (cI, 48, .inl (aN ns_))), (ad 10, .inl (cI, 48, .inl (aN ln_))), (ad 11, .inr (0, [.ref (ad 12), .ref (ad 13), .ref (ad 14), .int (iI ((bo_ : Nat) : Int)), .int (iI ((bn_ : Nat) : Int)), .int (iI ((bl_ : Nat) : Int))])), (ad 12, .inl (cZ, 48, .inl (aB ot_))), (ad 13, .inl (cZ, 48, .inl (aB nt_))), (ad 14, .inl (cI, 49, .inl (aN ru_))), (ad 15, .inr (2, [.ref (ad 16), .ref (ad 17), .ref (ad 18), .int (iI ((sp_ : Nat) : Int))])), (ad 16, .inl (cI, 48, .inl (aN od_))), (ad 17, .inl (cZ, 48, .inl (aB wt_))), (ad 18, .inl (cZ, 48, .inl (aB dr_)))]) [0, 1, 2, 3, 4, 5, 6, 7, 8, 9, 10, 11, 12, 13, 14, 15, 16, 17, 18] rfl) hK_ 0 rfl rfl rfl hl_.1 rfl (Nat.le_of_ble_eq_true rfl) dX4_inPlaceSize_37 ⟨Nat.zero_le _, Nat.zero_le _⟩ ?_
        refine q_iaddN hx_ hb_ dX4_inPlaceSize_40 ?_
        refine lv_istore_n (lv' := [(1, .int (iI ((q_ + (ipc vo_ fo_ vn_ k_ os_ ns_ ln_ i_) : Nat) : Int))), (0, .ref (ad 0)), (2, .int (iI ((i_ : Nat) : Int)))]) hx_ hb_ dX4_inPlaceSize_41 rfl hl_ (by decide) rfl (fun ls_ hl_ => ?_)
        refine q_iinc (k := 2) ((i_ + 1 : Nat) : Int) hx_ hb_ dX4_inPlaceSize_42 hl_ rfl (rfl) (by decide) (lv' := [(2, .int (iI ((i_ + 1 : Nat) : Int))), (1, .int (iI ((q_ + (ipc vo_ fo_ vn_ k_ os_ ns_ ln_ i_) : Nat) : Int))), (0, .ref (ad 0))]) rfl (fun ls_ hl_ => ?_)
        refine lv_goto (tgt := 23) hx_ hb_ dX4_inPlaceSize_45 (by decide) ?_
        exact ih_ (i_ + 1) (q_ + (ipc vo_ fo_ vn_ k_ os_ ns_ ln_ i_)) ls_ (hb0) (by omega) (by omega) (by show q_ + (ipc vo_ fo_ vn_ k_ os_ ns_ ln_) i_ = sp_ * 3 + (smN (ipc vo_ fo_ vn_ k_ os_ ns_ ln_) i_ + (ipc vo_ fo_ vn_ k_ os_ ns_ ln_) i_); omega) (lv_sub hl_ [2, 1, 0] rfl)
  rw [show entryFrame m_ args 3 = entryFrame m_ ([.ref (ad 0)] : List Value).toArray 3 from by rw [hargs], lg_entry_eq]
  have hl_ := lv_entry ([.ref (ad 0)]) (n := 3) (Nat.le_of_ble_eq_true rfl)
  generalize (lg_sl ([.ref (ad 0)]) ++ List.replicate (3 - (lg_sl ([.ref (ad 0)])).length) Slot.unset).toArray = ls_ at hl_ ⊢
  have hl_ : lv_has ls_ 3 [(0, .ref (ad 0))] := hl_
  refine lv_aload_n hx_ hb_ dX4_inPlaceSize_0 rfl (lv_at hl_ 0 rfl) ?_
  refine va_get (D := G_) (ci := 4) (v := .int (iI (bZ bu))) (C := RX4) (T := TX4) (N := 6) hx_ hb_ hts hi4_ hown hK_ hP_ 0 rfl rfl 5 (by decide) hf40_ (fun _ h9 => h9) rfl dX4_inPlaceSize_1 ?_
  refine q_bt (tgt := 11) hx_ hb_ dX4_inPlaceSize_4 (by decide) (fun c4_ => ?_) (fun c4_ => ?_)
  · skip
    refine lv_aload_n hx_ hb_ dX4_inPlaceSize_11 rfl (lv_at hl_ 0 rfl) ?_
    refine va_get (D := G_) (ci := 4) (v := .ref (ad 15)) (C := RX4) (T := TX4) (N := 6) hx_ hb_ hts hi4_ hown hK_ hP_ 0 rfl rfl 4 (by decide) hf36_ (fun _ h9 => h9) rfl dX4_inPlaceSize_12 ?_
    refine ro_V (As := []) (rest := []) ⟨hx_, hb_, hml, hown, hts⟩ (c_X2_steps l_ G_ cI cZ (ad 15) (ad 16) (ad 17) (ad 18) od_ wt_ dr_ sp_) (cwV 0 hts gX4_inPlaceSize_X2_steps rfl rfl rfl (by decide +kernel) ⟨Nat.le_of_ble_eq_true rfl, Nat.le_of_ble_eq_true rfl⟩) (hP_.sub (ws' := [(ad 15, .inr (2, [.ref (ad 16), .ref (ad 17), .ref (ad 18), .int (iI ((sp_ : Nat) : Int))])), (ad 16, .inl (cI, 48, .inl (aN od_))), (ad 17, .inl (cZ, 48, .inl (aB wt_))), (ad 18, .inl (cZ, 48, .inl (aB dr_)))]) [15, 16, 17, 18] rfl) hK_ 0 rfl rfl rfl hl_.1 rfl (Nat.le_of_ble_eq_true rfl) dX4_inPlaceSize_15 ⟨Nat.zero_le _, Nat.zero_le _⟩ ?_
    refine lv_iconst (v := iI ((3 : Nat) : Int)) hx_ hb_ dX4_inPlaceSize_18 rfl ?_
    refine q_imulN hx_ hb_ dX4_inPlaceSize_19 ?_
    refine lv_istore_n (lv' := [(1, .int (iI ((sp_ * 3 : Nat) : Int))), (0, .ref (ad 0))]) hx_ hb_ dX4_inPlaceSize_20 rfl hl_ (by decide) rfl (fun ls_ hl_ => ?_)
    refine lv_iconst (v := iI ((0 : Nat) : Int)) hx_ hb_ dX4_inPlaceSize_21 rfl ?_
    refine lv_istore_n (lv' := [(2, .int (iI ((0 : Nat) : Int))), (1, .int (iI ((sp_ * 3 : Nat) : Int))), (0, .ref (ad 0))]) hx_ hb_ dX4_inPlaceSize_22 rfl hl_ (by decide) rfl (fun ls_ hl_ => ?_)
    exact lp23 (nn_ + 1) 0 (sp_ * 3) ls_ (c4_) (by omega) (by omega) (by show sp_ * 3 = sp_ * 3 + 0; omega) (lv_sub hl_ [2, 1, 0] rfl)
  · skip
    refine lv_sipush (v := iI (-10004)) hx_ hb_ dX4_inPlaceSize_7 rfl ?_
    rw [← hQe]
    exact W.iret hx_ hb_ hr (fun tt1 htt1 hWW1 => ⟨_, rfl, congrArg iI (if0 c4_), htt1⟩) (fun q_ h_ => absurd h_ List.not_mem_nil) dX4_inPlaceSize_10

set_option maxHeartbeats 4000000 in
set_option maxRecDepth 100000 in
/-- memoryAfter -/
theorem c_X4_memoryAfter (l_ : Launch) (G_ : va_G) (cI cZ : ClassId) (ad : Nat → Nat) (bu : Bool) (no_ : Nat) (vo_ : Nat → Int) (fo_ : Nat → Bool) (nn_ : Nat) (vn_ : Nat → Int) (fn_ : Nat → Bool) (k_ : Nat) (os_ ns_ ln_ : Nat → Nat) (ot_ nt_ : Nat → Bool) (ru_ : Nat → Nat) (bo_ bn_ bl_ : Nat) (od_ : Nat → Nat) (wt_ dr_ : Nat → Bool) (sp_ : Nat) (x_ : Int) (y_ : Int) (hno : no_ ≤ 48) (hnn : nn_ ≤ 48) (hvo : ∀ j_, 0 ≤ vo_ j_ ∧ vo_ j_ ≤ 9999) (hvn : ∀ j_, 0 ≤ vn_ j_ ∧ vn_ j_ ≤ 9999) (hbu : bu = true → k_ ≤ 48 ∧ B48 k_ os_ ns_ ln_ ∧ Gd no_ nn_ k_ os_ ns_ ln_ ∧ CoR k_ os_ ns_ ln_ k_ wt_ dr_ od_ sp_) (hx1 : -2147483648 ≤ x_) (hx2 : x_ < 2147483648) (hy1 : -2147483648 ≤ y_) (hy2 : y_ < 2147483648) : Ro l_ yX4_memoryAfter wsX4_memoryAfter ({ frames := 5, cells := 0, slots := 0, locals := 113 }) G_ cI cZ [.ref (ad 0), .int (iI (x_)), .int (iI (y_))] (wRP cI cZ ad bu no_ vo_ fo_ nn_ vn_ fn_ k_ os_ ns_ ln_ ot_ nt_ ru_ bo_ bn_ bl_ od_ wt_ dr_ sp_) (A_mem bu no_ vo_ nn_ k_ os_ ns_ ln_ x_ y_) := by
  refine Met.ofW (cc := cX4_memoryAfter) (maxL := 4) (ret := (some .int)) (by decide) rfl ?_
  intro p_ e_ s_ m_ args below meth c_ s₁ B hml hv
  obtain ⟨hargs, hP_, hK_⟩ := hv
  have hx_ := B.exec
  have hb_ := B.bytes
  have hr := B.returns
  have hts := atoms_spec (ws := wsX4_memoryAfter) B.pre
  have hown : s_.vm.findClass RX4 = some m_.cls := findClass_of_methodNamed B.named
  have hlocks := B.notSynchronized
  have hi4_ : ∀ w_ ∈ wsX40, w_ ∈ wsX4_memoryAfter := by decide +kernel
  have hf10_ := hts (.fieldLink RX4 10 "RelocatingPatch" "oldImage" "LRelocatingPatch$Image;") (by decide +kernel)
  have hf16_ := hts (.fieldLink RX4 16 "RelocatingPatch" "newImage" "LRelocatingPatch$Image;") (by decide +kernel)
  have hf36_ := hts (.fieldLink RX4 36 "RelocatingPatch" "copyOrder" "LRelocatingPatch$CopyOrder;") (by decide +kernel)
  have hf40_ := hts (.fieldLink RX4 40 "RelocatingPatch" "built" "Z") (by decide +kernel)
  have hP_ : va_P G_ vwCl [(ad 0, .inr (4, [.ref (ad 1), .ref (ad 4), .ref (ad 7), .ref (ad 11), .ref (ad 15), .int (iI (bZ bu))])), (ad 1, .inr (3, [.ref (ad 2), .ref (ad 3), .int (iI ((no_ : Nat) : Int))])), (ad 2, .inl (cI, 48, .inl (aI vo_))), (ad 3, .inl (cZ, 48, .inl (aB fo_))), (ad 4, .inr (3, [.ref (ad 5), .ref (ad 6), .int (iI ((nn_ : Nat) : Int))])), (ad 5, .inl (cI, 48, .inl (aI vn_))), (ad 6, .inl (cZ, 48, .inl (aB fn_))), (ad 7, .inr (1, [.ref (ad 8), .ref (ad 9), .ref (ad 10), .int (iI ((k_ : Nat) : Int))])), (ad 8, .inl (cI, 48, .inl (aN os_))), (ad 9, .inl (cI, 48, .inl (aN ns_))), (ad 10, .inl (cI, 48, .inl (aN ln_))), (ad 11, .inr (0, [.ref (ad 12), .ref (ad 13), .ref (ad 14), .int (iI ((bo_ : Nat) : Int)), .int (iI ((bn_ : Nat) : Int)), .int (iI ((bl_ : Nat) : Int))])), (ad 12, .inl (cZ, 48, .inl (aB ot_))), (ad 13, .inl (cZ, 48, .inl (aB nt_))), (ad 14, .inl (cI, 49, .inl (aN ru_))), (ad 15, .inr (2, [.ref (ad 16), .ref (ad 17), .ref (ad 18), .int (iI ((sp_ : Nat) : Int))])), (ad 16, .inl (cI, 48, .inl (aN od_))), (ad 17, .inl (cZ, 48, .inl (aB wt_))), (ad 18, .inl (cZ, 48, .inl (aB dr_)))] s_.heap := hP_
  generalize hQe : MQ below (vp_Si (fun r_ => r_ = iI (A_mem bu no_ vo_ nn_ k_ os_ ns_ ln_ x_ y_))) args s_ 0 0 (fun _ => False) = Q_
  rw [show entryFrame m_ args 4 = entryFrame m_ ([.ref (ad 0), .int (iI (x_)), .int (iI (y_))] : List Value).toArray 4 from by rw [hargs], lg_entry_eq]
  have hl_ := lv_entry ([.ref (ad 0), .int (iI (x_)), .int (iI (y_))]) (n := 4) (Nat.le_of_ble_eq_true rfl)
  generalize (lg_sl ([.ref (ad 0), .int (iI (x_)), .int (iI (y_))]) ++ List.replicate (4 - (lg_sl ([.ref (ad 0), .int (iI (x_)), .int (iI (y_))])).length) Slot.unset).toArray = ls_ at hl_ ⊢
  have hl_ : lv_has ls_ 4 [(0, .ref (ad 0)), (1, .int (iI (x_))), (2, .int (iI (y_)))] := hl_
  refine lv_aload_n hx_ hb_ dX4_memoryAfter_0 rfl (lv_at hl_ 0 rfl) ?_
  refine va_get (D := G_) (ci := 4) (v := .int (iI (bZ bu))) (C := RX4) (T := TX4) (N := 6) hx_ hb_ hts hi4_ hown hK_ hP_ 0 rfl rfl 5 (by decide) hf40_ (fun _ h9 => h9) rfl dX4_memoryAfter_1 ?_
  refine q_bt (tgt := 11) hx_ hb_ dX4_memoryAfter_4 (by decide) (fun c4_ => ?_) (fun c4_ => ?_)
  · skip
    obtain ⟨hk_, hB_, hgd, hco⟩ := hbu c4_
    have hsl : sp_ ≤ 48 := by rw [hco.2.2.2]; exact Nat.le_trans (its_ok k_ os_ ns_ ln_ k_).1 hk_
    refine lv_iload_n hx_ hb_ dX4_memoryAfter_11 rfl (lv_at hl_ 1 rfl) ?_
    refine q_if_lt (tgt := 26) hx_ hb_ dX4_memoryAfter_12 (by decide) (⟨by omega, by omega⟩) (fun c12_ => ?_) (fun c12_ => ?_)
    · skip
      refine lv_sipush (v := iI (-10001)) hx_ hb_ dX4_memoryAfter_26 rfl ?_
      rw [← hQe]
      exact W.iret hx_ hb_ hr (fun tt1 htt1 hWW1 => ⟨_, rfl, congrArg iI (by unfold A_mem; rw [if_pos c4_, ← hco.2.2.2, if_neg (by omega)]), htt1⟩) (fun q_ h_ => absurd h_ List.not_mem_nil) dX4_memoryAfter_29
    · skip
      refine lv_iload_n hx_ hb_ dX4_memoryAfter_15 rfl (lv_at hl_ 1 rfl) ?_
      refine lv_aload_n hx_ hb_ dX4_memoryAfter_16 rfl (lv_at hl_ 0 rfl) ?_
      refine va_get (D := G_) (ci := 4) (v := .ref (ad 15)) (C := RX4) (T := TX4) (N := 6) hx_ hb_ hts hi4_ hown hK_ hP_ 0 rfl rfl 4 (by decide) hf36_ (fun _ h9 => h9) rfl dX4_memoryAfter_17 ?_
      refine ro_V (As := []) (rest := [.int (iI (x_))]) ⟨hx_, hb_, hml, hown, hts⟩ (c_X2_steps l_ G_ cI cZ (ad 15) (ad 16) (ad 17) (ad 18) od_ wt_ dr_ sp_) (cwV 0 hts gX4_memoryAfter_X2_steps rfl rfl rfl (by decide +kernel) ⟨Nat.le_of_ble_eq_true rfl, Nat.le_of_ble_eq_true rfl⟩) (hP_.sub (ws' := [(ad 15, .inr (2, [.ref (ad 16), .ref (ad 17), .ref (ad 18), .int (iI ((sp_ : Nat) : Int))])), (ad 16, .inl (cI, 48, .inl (aN od_))), (ad 17, .inl (cZ, 48, .inl (aB wt_))), (ad 18, .inl (cZ, 48, .inl (aB dr_)))]) [15, 16, 17, 18] rfl) hK_ 0 rfl rfl rfl hl_.1 rfl (Nat.le_of_ble_eq_true rfl) dX4_memoryAfter_20 ⟨Nat.zero_le _, Nat.zero_le _⟩ ?_
      refine q_icmp_le (tgt := 30) hx_ hb_ dX4_memoryAfter_23 (by decide) (⟨by omega, by omega⟩) (⟨by omega, by omega⟩) (fun c23_ => ?_) (fun c23_ => ?_)
      · skip
        refine lv_aload_n hx_ hb_ dX4_memoryAfter_30 rfl (lv_at hl_ 0 rfl) ?_
        refine va_get (D := G_) (ci := 4) (v := .ref (ad 1)) (C := RX4) (T := TX4) (N := 6) hx_ hb_ hts hi4_ hown hK_ hP_ 0 rfl rfl 0 (by decide) hf10_ (fun _ h9 => h9) rfl dX4_memoryAfter_31 ?_
        refine ro_V (As := []) (rest := []) ⟨hx_, hb_, hml, hown, hts⟩ (c_X3_size l_ G_ cI cZ (ad 1) (ad 2) (ad 3) no_ vo_ fo_) (cwV 0 hts gX4_memoryAfter_X3_size rfl rfl rfl (by decide +kernel) ⟨Nat.le_of_ble_eq_true rfl, Nat.le_of_ble_eq_true rfl⟩) (hP_.sub (ws' := [(ad 1, .inr (3, [.ref (ad 2), .ref (ad 3), .int (iI ((no_ : Nat) : Int))])), (ad 2, .inl (cI, 48, .inl (aI vo_))), (ad 3, .inl (cZ, 48, .inl (aB fo_)))]) [1, 2, 3] rfl) hK_ 0 rfl rfl rfl hl_.1 rfl (Nat.le_of_ble_eq_true rfl) dX4_memoryAfter_34 ⟨Nat.zero_le _, Nat.zero_le _⟩ ?_
        refine lv_aload_n hx_ hb_ dX4_memoryAfter_37 rfl (lv_at hl_ 0 rfl) ?_
        refine va_get (D := G_) (ci := 4) (v := .ref (ad 4)) (C := RX4) (T := TX4) (N := 6) hx_ hb_ hts hi4_ hown hK_ hP_ 0 rfl rfl 1 (by decide) hf16_ (fun _ h9 => h9) rfl dX4_memoryAfter_38 ?_
        refine ro_V (As := []) (rest := [.int (iI ((no_ : Nat) : Int))]) ⟨hx_, hb_, hml, hown, hts⟩ (c_X3_size l_ G_ cI cZ (ad 4) (ad 5) (ad 6) nn_ vn_ fn_) (cwV 0 hts gX4_memoryAfter_X3_size rfl rfl rfl (by decide +kernel) ⟨Nat.le_of_ble_eq_true rfl, Nat.le_of_ble_eq_true rfl⟩) (hP_.sub (ws' := [(ad 4, .inr (3, [.ref (ad 5), .ref (ad 6), .int (iI ((nn_ : Nat) : Int))])), (ad 5, .inl (cI, 48, .inl (aI vn_))), (ad 6, .inl (cZ, 48, .inl (aB fn_)))]) [4, 5, 6] rfl) hK_ 0 rfl rfl rfl hl_.1 rfl (Nat.le_of_ble_eq_true rfl) dX4_memoryAfter_41 ⟨Nat.zero_le _, Nat.zero_le _⟩ ?_
        refine q_max hx_ hb_ (hml.trans hl_.1.symm) hown (hts (.methodLink RX4 154 Lib.Math.max.name) (by decide +kernel)) (hts (.static Lib.Math.max.name) (by decide +kernel)) (hts (.initialized "java/lang/Math") (by decide +kernel)) (hts (.code Lib.Math.max.name Lib.Math.max.code 2 (some .int)) (by decide +kernel)) (Nat.le_of_ble_eq_true rfl) (Nat.le_of_ble_eq_true rfl) (Nat.zero_le _) (Nat.zero_le _) hno hnn dX4_memoryAfter_44 ?_
        have hmx : Nat.max no_ nn_ ≤ 48 := Nat.max_le.mpr ⟨hno, hnn⟩
        refine lv_istore_n (lv' := [(3, .int (iI ((Nat.max no_ nn_ : Nat) : Int))), (0, .ref (ad 0)), (1, .int (iI (x_))), (2, .int (iI (y_)))]) hx_ hb_ dX4_memoryAfter_47 rfl hl_ (by decide) rfl (fun ls_ hl_ => ?_)
        refine lv_iload_n hx_ hb_ dX4_memoryAfter_48 rfl (lv_at hl_ 3 rfl) ?_
        refine q_if_lt (tgt := 57) hx_ hb_ dX4_memoryAfter_49 (by decide) (⟨by omega, by omega⟩) (fun c49_ => ?_) (fun c49_ => ?_)
        · skip
          refine lv_sipush (v := iI (-10003)) hx_ hb_ dX4_memoryAfter_57 rfl ?_
          rw [← hQe]
          exact W.iret hx_ hb_ hr (fun tt1 htt1 hWW1 => ⟨_, rfl, congrArg iI (by unfold A_mem; rw [if_pos c4_, ← hco.2.2.2, if_pos (by omega), if_neg (by omega)]), htt1⟩) (fun q_ h_ => absurd h_ List.not_mem_nil) dX4_memoryAfter_60
        · skip
          refine lv_iload_n hx_ hb_ dX4_memoryAfter_52 rfl (lv_at hl_ 3 rfl) ?_
          refine lv_iload_n hx_ hb_ dX4_memoryAfter_53 rfl (lv_at hl_ 0 rfl) ?_
          refine q_icmp_lt (tgt := 61) hx_ hb_ dX4_memoryAfter_54 (by decide) (⟨by omega, by omega⟩) (⟨by omega, by omega⟩) (fun c54_ => ?_) (fun c54_ => ?_)
          · skip
            refine lv_aload_n hx_ hb_ dX4_memoryAfter_61 rfl (lv_at hl_ 1 rfl) ?_
            refine lv_iload_n hx_ hb_ dX4_memoryAfter_62 rfl (lv_at hl_ 2 rfl) ?_
            refine q_cast (b := ((x_.toNat : Nat) : Int)) (by omega) ?_
            refine lv_iload_n hx_ hb_ dX4_memoryAfter_63 rfl (lv_at hl_ 3 rfl) ?_
            refine q_cast (b := ((y_.toNat : Nat) : Int)) (by omega) ?_
            refine ro_V (As := [.int (iI ((x_.toNat : Nat) : Int)), .int (iI ((y_.toNat : Nat) : Int))]) (rest := []) ⟨hx_, hb_, hml, hown, hts⟩ (c_X4_memoryValue l_ G_ cI cZ ad bu no_ vo_ fo_ nn_ vn_ fn_ k_ os_ ns_ ln_ ot_ nt_ ru_ bo_ bn_ bl_ od_ wt_ dr_ sp_ x_.toNat y_.toNat hno hnn hvo hvn hk_ hB_ hgd hco (by omega) (by omega)) (cwV 2 hts gX4_memoryAfter_X4_memoryValue rfl rfl rfl (by decide +kernel) ⟨Nat.le_of_ble_eq_true rfl, Nat.le_of_ble_eq_true rfl⟩) (hP_.sub (ws' := [(ad 0, .inr (4, [.ref (ad 1), .ref (ad 4), .ref (ad 7), .ref (ad 11), .ref (ad 15), .int (iI (bZ bu))])), (ad 1, .inr (3, [.ref (ad 2), .ref (ad 3), .int (iI ((no_ : Nat) : Int))])), (ad 2, .inl (cI, 48, .inl (aI vo_))), (ad 3, .inl (cZ, 48, .inl (aB fo_))), (ad 4, .inr (3, [.ref (ad 5), .ref (ad 6), .int (iI ((nn_ : Nat) : Int))])), (ad 5, .inl (cI, 48, .inl (aI vn_))), (ad 6, .inl (cZ, 48, .inl (aB fn_))), (ad 7, .inr (1, [.ref (ad 8), .ref (ad 9), .ref (ad 10), .int (iI ((k_ : Nat) : Int))])), (ad 8, .inl (cI, 48, .inl (aN os_))), (ad 9, .inl (cI, 48, .inl (aN ns_))), (ad 10, .inl (cI, 48, .inl (aN ln_))), (ad 11, .inr (0, [.ref (ad 12), .ref (ad 13), .ref (ad 14), .int (iI ((bo_ : Nat) : Int)), .int (iI ((bn_ : Nat) : Int)), .int (iI ((bl_ : Nat) : Int))])), (ad 12, .inl (cZ, 48, .inl (aB ot_))), (ad 13, .inl (cZ, 48, .inl (aB nt_))), (ad 14, .inl (cI, 49, .inl (aN ru_))), (ad 15, .inr (2, [.ref (ad 16), .ref (ad 17), .ref (ad 18), .int (iI ((sp_ : Nat) : Int))])), (ad 16, .inl (cI, 48, .inl (aN od_))), (ad 17, .inl (cZ, 48, .inl (aB wt_))), (ad 18, .inl (cZ, 48, .inl (aB dr_)))]) [0, 1, 2, 3, 4, 5, 6, 7, 8, 9, 10, 11, 12, 13, 14, 15, 16, 17, 18] rfl) hK_ 0 rfl rfl rfl hl_.1 rfl (Nat.le_of_ble_eq_true rfl) dX4_memoryAfter_64 ⟨Nat.zero_le _, Nat.zero_le _⟩ ?_
            rw [← hQe]
            exact W.iret hx_ hb_ hr (fun tt1 htt1 hWW1 => ⟨_, rfl, congrArg iI (by unfold A_mem; rw [if_pos c4_, ← hco.2.2.2, if_pos (by omega), if_pos (by omega), show ((y_.toNat : Nat) : Int) = y_ from by omega]), htt1⟩) (fun q_ h_ => absurd h_ List.not_mem_nil) dX4_memoryAfter_67
          · skip
            refine lv_sipush (v := iI (-10003)) hx_ hb_ dX4_memoryAfter_57 rfl ?_
            rw [← hQe]
            exact W.iret hx_ hb_ hr (fun tt1 htt1 hWW1 => ⟨_, rfl, congrArg iI (by unfold A_mem; rw [if_pos c4_, ← hco.2.2.2, if_pos (by omega), if_neg (by omega)]), htt1⟩) (fun q_ h_ => absurd h_ List.not_mem_nil) dX4_memoryAfter_60
      · skip
        refine lv_sipush (v := iI (-10001)) hx_ hb_ dX4_memoryAfter_26 rfl ?_
        rw [← hQe]
        exact W.iret hx_ hb_ hr (fun tt1 htt1 hWW1 => ⟨_, rfl, congrArg iI (by unfold A_mem; rw [if_pos c4_, ← hco.2.2.2, if_neg (by omega)]), htt1⟩) (fun q_ h_ => absurd h_ List.not_mem_nil) dX4_memoryAfter_29
  · skip
    refine lv_sipush (v := iI (-10004)) hx_ hb_ dX4_memoryAfter_7 rfl ?_
    rw [← hQe]
    exact W.iret hx_ hb_ hr (fun tt1 htt1 hWW1 => ⟨_, rfl, congrArg iI (if0 c4_), htt1⟩) (fun q_ h_ => absurd h_ List.not_mem_nil) dX4_memoryAfter_10

set_option maxHeartbeats 4000000 in
set_option maxRecDepth 100000 in
/-- patchedValue -/
theorem c_X4_patchedValue (l_ : Launch) (G_ : va_G) (cI cZ : ClassId) (ad : Nat → Nat) (bu : Bool) (no_ : Nat) (vo_ : Nat → Int) (fo_ : Nat → Bool) (nn_ : Nat) (vn_ : Nat → Int) (fn_ : Nat → Bool) (k_ : Nat) (os_ ns_ ln_ : Nat → Nat) (ot_ nt_ : Nat → Bool) (ru_ : Nat → Nat) (bo_ bn_ bl_ : Nat) (od_ : Nat → Nat) (wt_ dr_ : Nat → Bool) (sp_ : Nat) (x_ : Int) (hno : no_ ≤ 48) (hnn : nn_ ≤ 48) (hvo : ∀ j_, 0 ≤ vo_ j_ ∧ vo_ j_ ≤ 9999) (hvn : ∀ j_, 0 ≤ vn_ j_ ∧ vn_ j_ ≤ 9999) (hbu : bu = true → k_ ≤ 48 ∧ B48 k_ os_ ns_ ln_ ∧ Gd no_ nn_ k_ os_ ns_ ln_ ∧ CoR k_ os_ ns_ ln_ k_ wt_ dr_ od_ sp_) (hx1 : -2147483648 ≤ x_) (hx2 : x_ < 2147483648) : Ro l_ yX4_patchedValue wsX4_patchedValue ({ frames := 5, cells := 0, slots := 0, locals := 113 }) G_ cI cZ [.ref (ad 0), .int (iI (x_))] (wRP cI cZ ad bu no_ vo_ fo_ nn_ vn_ fn_ k_ os_ ns_ ln_ ot_ nt_ ru_ bo_ bn_ bl_ od_ wt_ dr_ sp_) (A_pat bu no_ vo_ fo_ nn_ vn_ k_ os_ ns_ ln_ x_) := by
  refine Met.ofW (cc := cX4_patchedValue) (maxL := 5) (ret := (some .int)) (by decide) rfl ?_
  intro p_ e_ s_ m_ args below meth c_ s₁ B hml hv
  obtain ⟨hargs, hP_, hK_⟩ := hv
  have hx_ := B.exec
  have hb_ := B.bytes
  have hr := B.returns
  have hts := atoms_spec (ws := wsX4_patchedValue) B.pre
  have hown : s_.vm.findClass RX4 = some m_.cls := findClass_of_methodNamed B.named
  have hlocks := B.notSynchronized
  have hi4_ : ∀ w_ ∈ wsX40, w_ ∈ wsX4_patchedValue := by decide +kernel
  have hf10_ := hts (.fieldLink RX4 10 "RelocatingPatch" "oldImage" "LRelocatingPatch$Image;") (by decide +kernel)
  have hf16_ := hts (.fieldLink RX4 16 "RelocatingPatch" "newImage" "LRelocatingPatch$Image;") (by decide +kernel)
  have hf22_ := hts (.fieldLink RX4 22 "RelocatingPatch" "blocks" "LRelocatingPatch$Blocks;") (by decide +kernel)
  have hf36_ := hts (.fieldLink RX4 36 "RelocatingPatch" "copyOrder" "LRelocatingPatch$CopyOrder;") (by decide +kernel)
  have hP_ : va_P G_ vwCl [(ad 0, .inr (4, [.ref (ad 1), .ref (ad 4), .ref (ad 7), .ref (ad 11), .ref (ad 15), .int (iI (bZ bu))])), (ad 1, .inr (3, [.ref (ad 2), .ref (ad 3), .int (iI ((no_ : Nat) : Int))])), (ad 2, .inl (cI, 48, .inl (aI vo_))), (ad 3, .inl (cZ, 48, .inl (aB fo_))), (ad 4, .inr (3, [.ref (ad 5), .ref (ad 6), .int (iI ((nn_ : Nat) : Int))])), (ad 5, .inl (cI, 48, .inl (aI vn_))), (ad 6, .inl (cZ, 48, .inl (aB fn_))), (ad 7, .inr (1, [.ref (ad 8), .ref (ad 9), .ref (ad 10), .int (iI ((k_ : Nat) : Int))])), (ad 8, .inl (cI, 48, .inl (aN os_))), (ad 9, .inl (cI, 48, .inl (aN ns_))), (ad 10, .inl (cI, 48, .inl (aN ln_))), (ad 11, .inr (0, [.ref (ad 12), .ref (ad 13), .ref (ad 14), .int (iI ((bo_ : Nat) : Int)), .int (iI ((bn_ : Nat) : Int)), .int (iI ((bl_ : Nat) : Int))])), (ad 12, .inl (cZ, 48, .inl (aB ot_))), (ad 13, .inl (cZ, 48, .inl (aB nt_))), (ad 14, .inl (cI, 49, .inl (aN ru_))), (ad 15, .inr (2, [.ref (ad 16), .ref (ad 17), .ref (ad 18), .int (iI ((sp_ : Nat) : Int))])), (ad 16, .inl (cI, 48, .inl (aN od_))), (ad 17, .inl (cZ, 48, .inl (aB wt_))), (ad 18, .inl (cZ, 48, .inl (aB dr_)))] s_.heap := hP_
  generalize hQe : MQ below (vp_Si (fun r_ => r_ = iI (A_pat bu no_ vo_ fo_ nn_ vn_ k_ os_ ns_ ln_ x_))) args s_ 0 0 (fun _ => False) = Q_
  rw [show entryFrame m_ args 5 = entryFrame m_ ([.ref (ad 0), .int (iI (x_))] : List Value).toArray 5 from by rw [hargs], lg_entry_eq]
  have hl_ := lv_entry ([.ref (ad 0), .int (iI (x_))]) (n := 5) (Nat.le_of_ble_eq_true rfl)
  generalize (lg_sl ([.ref (ad 0), .int (iI (x_))]) ++ List.replicate (5 - (lg_sl ([.ref (ad 0), .int (iI (x_))])).length) Slot.unset).toArray = ls_ at hl_ ⊢
  have hl_ : lv_has ls_ 5 [(0, .ref (ad 0)), (1, .int (iI (x_)))] := hl_
  refine lv_aload_n hx_ hb_ dX4_patchedValue_0 rfl (lv_at hl_ 0 rfl) ?_
  refine lv_iload_n hx_ hb_ dX4_patchedValue_1 rfl (lv_at hl_ 1 rfl) ?_
  refine ro_V (As := [.int (iI (x_))]) (rest := []) ⟨hx_, hb_, hml, hown, hts⟩ (c_X4_newWordError l_ G_ cI cZ ad bu no_ vo_ fo_ nn_ vn_ fn_ k_ os_ ns_ ln_ ot_ nt_ ru_ bo_ bn_ bl_ od_ wt_ dr_ sp_ (x_) (fun _ => hnn) (by omega) (by omega)) (cwV 1 hts gX4_patchedValue_X4_newWordError rfl rfl rfl (by decide +kernel) ⟨Nat.le_of_ble_eq_true rfl, Nat.le_of_ble_eq_true rfl⟩) (hP_.sub (ws' := [(ad 0, .inr (4, [.ref (ad 1), .ref (ad 4), .ref (ad 7), .ref (ad 11), .ref (ad 15), .int (iI (bZ bu))])), (ad 1, .inr (3, [.ref (ad 2), .ref (ad 3), .int (iI ((no_ : Nat) : Int))])), (ad 2, .inl (cI, 48, .inl (aI vo_))), (ad 3, .inl (cZ, 48, .inl (aB fo_))), (ad 4, .inr (3, [.ref (ad 5), .ref (ad 6), .int (iI ((nn_ : Nat) : Int))])), (ad 5, .inl (cI, 48, .inl (aI vn_))), (ad 6, .inl (cZ, 48, .inl (aB fn_))), (ad 7, .inr (1, [.ref (ad 8), .ref (ad 9), .ref (ad 10), .int (iI ((k_ : Nat) : Int))])), (ad 8, .inl (cI, 48, .inl (aN os_))), (ad 9, .inl (cI, 48, .inl (aN ns_))), (ad 10, .inl (cI, 48, .inl (aN ln_))), (ad 11, .inr (0, [.ref (ad 12), .ref (ad 13), .ref (ad 14), .int (iI ((bo_ : Nat) : Int)), .int (iI ((bn_ : Nat) : Int)), .int (iI ((bl_ : Nat) : Int))])), (ad 12, .inl (cZ, 48, .inl (aB ot_))), (ad 13, .inl (cZ, 48, .inl (aB nt_))), (ad 14, .inl (cI, 49, .inl (aN ru_))), (ad 15, .inr (2, [.ref (ad 16), .ref (ad 17), .ref (ad 18), .int (iI ((sp_ : Nat) : Int))])), (ad 16, .inl (cI, 48, .inl (aN od_))), (ad 17, .inl (cZ, 48, .inl (aB wt_))), (ad 18, .inl (cZ, 48, .inl (aB dr_)))]) [0, 1, 2, 3, 4, 5, 6, 7, 8, 9, 10, 11, 12, 13, 14, 15, 16, 17, 18] rfl) hK_ 0 rfl rfl rfl hl_.1 rfl (Nat.le_of_ble_eq_true rfl) dX4_patchedValue_2 ⟨Nat.zero_le _, Nat.zero_le _⟩ ?_
  refine lv_istore_n (lv' := [(2, .int (iI (eR bu nn_ (x_)))), (0, .ref (ad 0)), (1, .int (iI (x_)))]) hx_ hb_ dX4_patchedValue_5 rfl hl_ (by decide) rfl (fun ls_ hl_ => ?_)
  refine lv_iload_n hx_ hb_ dX4_patchedValue_6 rfl (lv_at hl_ 0 rfl) ?_
  refine q_if_eq (tgt := 12) hx_ hb_ dX4_patchedValue_7 (by decide) (eR_R _ _ _) (fun c7_ => ?_) (fun c7_ => ?_)
  · skip
    obtain ⟨hb0, hx3, hx4⟩ := eR_0 c7_
    obtain ⟨hk_, hB_, hgd, hco⟩ := hbu hb0
    have hxn : ((x_.toNat : Nat) : Int) = x_ := by omega
    have hsl : sp_ ≤ 48 := by rw [hco.2.2.2]; exact Nat.le_trans (its_ok k_ os_ ns_ ln_ k_).1 hk_
    refine lv_aload_n hx_ hb_ dX4_patchedValue_12 rfl (lv_at hl_ 1 rfl) ?_
    refine lv_iload_n hx_ hb_ dX4_patchedValue_13 rfl (lv_at hl_ 2 rfl) ?_
    refine q_cast (b := ((x_.toNat : Nat) : Int)) (by omega) ?_
    refine ro_V (As := [.int (iI ((x_.toNat : Nat) : Int))]) (rest := []) ⟨hx_, hb_, hml, hown, hts⟩ (c_X4_isCopied l_ G_ cI cZ ad bu no_ vo_ fo_ nn_ vn_ fn_ k_ os_ ns_ ln_ ot_ nt_ ru_ bo_ bn_ bl_ od_ wt_ dr_ sp_ x_.toNat hno hnn hvo hvn hk_ hB_ hgd hco (by omega)) (cwV 1 hts gX4_patchedValue_X4_isCopied rfl rfl rfl (by decide +kernel) ⟨Nat.le_of_ble_eq_true rfl, Nat.le_of_ble_eq_true rfl⟩) (hP_.sub (ws' := [(ad 0, .inr (4, [.ref (ad 1), .ref (ad 4), .ref (ad 7), .ref (ad 11), .ref (ad 15), .int (iI (bZ bu))])), (ad 1, .inr (3, [.ref (ad 2), .ref (ad 3), .int (iI ((no_ : Nat) : Int))])), (ad 2, .inl (cI, 48, .inl (aI vo_))), (ad 3, .inl (cZ, 48, .inl (aB fo_))), (ad 4, .inr (3, [.ref (ad 5), .ref (ad 6), .int (iI ((nn_ : Nat) : Int))])), (ad 5, .inl (cI, 48, .inl (aI vn_))), (ad 6, .inl (cZ, 48, .inl (aB fn_))), (ad 7, .inr (1, [.ref (ad 8), .ref (ad 9), .ref (ad 10), .int (iI ((k_ : Nat) : Int))])), (ad 8, .inl (cI, 48, .inl (aN os_))), (ad 9, .inl (cI, 48, .inl (aN ns_))), (ad 10, .inl (cI, 48, .inl (aN ln_))), (ad 11, .inr (0, [.ref (ad 12), .ref (ad 13), .ref (ad 14), .int (iI ((bo_ : Nat) : Int)), .int (iI ((bn_ : Nat) : Int)), .int (iI ((bl_ : Nat) : Int))])), (ad 12, .inl (cZ, 48, .inl (aB ot_))), (ad 13, .inl (cZ, 48, .inl (aB nt_))), (ad 14, .inl (cI, 49, .inl (aN ru_))), (ad 15, .inr (2, [.ref (ad 16), .ref (ad 17), .ref (ad 18), .int (iI ((sp_ : Nat) : Int))])), (ad 16, .inl (cI, 48, .inl (aN od_))), (ad 17, .inl (cZ, 48, .inl (aB wt_))), (ad 18, .inl (cZ, 48, .inl (aB dr_)))]) [0, 1, 2, 3, 4, 5, 6, 7, 8, 9, 10, 11, 12, 13, 14, 15, 16, 17, 18] rfl) hK_ 0 rfl rfl rfl hl_.1 rfl (Nat.le_of_ble_eq_true rfl) dX4_patchedValue_14 ⟨Nat.zero_le _, Nat.zero_le _⟩ ?_
    refine q_bf (tgt := 28) hx_ hb_ dX4_patchedValue_17 (by decide) (fun c17_ => ?_) (fun c17_ => ?_)
    · skip
      refine lv_aload_n hx_ hb_ dX4_patchedValue_28 rfl (lv_at hl_ 1 rfl) ?_
      refine va_get (D := G_) (ci := 4) (v := .ref (ad 4)) (C := RX4) (T := TX4) (N := 6) hx_ hb_ hts hi4_ hown hK_ hP_ 0 rfl rfl 1 (by decide) hf16_ (fun _ h9 => h9) rfl dX4_patchedValue_29 ?_
      refine lv_iload_n hx_ hb_ dX4_patchedValue_32 rfl (lv_at hl_ 2 rfl) ?_
      refine q_cast (b := ((x_.toNat : Nat) : Int)) (by omega) ?_
      refine ro_V (As := [.int (iI ((x_.toNat : Nat) : Int))]) (rest := []) ⟨hx_, hb_, hml, hown, hts⟩ (c_X3_valueAt l_ G_ cI cZ (ad 4) (ad 5) (ad 6) nn_ vn_ fn_ ((x_.toNat : Nat) : Int) (by omega) (by omega) (by omega)) (cwV 1 hts gX4_patchedValue_X3_valueAt rfl rfl rfl (by decide +kernel) ⟨Nat.le_of_ble_eq_true rfl, Nat.le_of_ble_eq_true rfl⟩) (hP_.sub (ws' := [(ad 4, .inr (3, [.ref (ad 5), .ref (ad 6), .int (iI ((nn_ : Nat) : Int))])), (ad 5, .inl (cI, 48, .inl (aI vn_))), (ad 6, .inl (cZ, 48, .inl (aB fn_)))]) [4, 5, 6] rfl) hK_ 0 rfl rfl rfl hl_.1 rfl (Nat.le_of_ble_eq_true rfl) dX4_patchedValue_33 ⟨Nat.zero_le _, Nat.zero_le _⟩ ?_
      refine q_cast (b := (vn_ x_.toNat)) (vAt_in (by omega)) ?_
      rw [← hQe]
      exact W.iret hx_ hb_ hr (fun tt1 htt1 hWW1 => ⟨_, rfl, congrArg iI (by unfold A_pat; rw [if_pos hb0, if_pos ⟨hx3, hx4⟩, if_neg (by rw [c17_]; simp)]), htt1⟩) (fun q_ h_ => absurd h_ List.not_mem_nil) dX4_patchedValue_36
    · skip
      refine lv_aload_n hx_ hb_ dX4_patchedValue_20 rfl (lv_at hl_ 1 rfl) ?_
      refine lv_iload_n hx_ hb_ dX4_patchedValue_21 rfl (lv_at hl_ 2 rfl) ?_
      refine q_cast (b := ((x_.toNat : Nat) : Int)) (by omega) ?_
      refine ro_V (As := [.int (iI ((x_.toNat : Nat) : Int))]) (rest := []) ⟨hx_, hb_, hml, hown, hts⟩ (c_X4_needsCorrection l_ G_ cI cZ ad bu no_ vo_ fo_ nn_ vn_ fn_ k_ os_ ns_ ln_ ot_ nt_ ru_ bo_ bn_ bl_ od_ wt_ dr_ sp_ x_.toNat hno hnn hvo hvn hk_ hB_ hgd (by omega)) (cwV 1 hts gX4_patchedValue_X4_needsCorrection rfl rfl rfl (by decide +kernel) ⟨Nat.le_of_ble_eq_true rfl, Nat.le_of_ble_eq_true rfl⟩) (hP_.sub (ws' := [(ad 0, .inr (4, [.ref (ad 1), .ref (ad 4), .ref (ad 7), .ref (ad 11), .ref (ad 15), .int (iI (bZ bu))])), (ad 1, .inr (3, [.ref (ad 2), .ref (ad 3), .int (iI ((no_ : Nat) : Int))])), (ad 2, .inl (cI, 48, .inl (aI vo_))), (ad 3, .inl (cZ, 48, .inl (aB fo_))), (ad 4, .inr (3, [.ref (ad 5), .ref (ad 6), .int (iI ((nn_ : Nat) : Int))])), (ad 5, .inl (cI, 48, .inl (aI vn_))), (ad 6, .inl (cZ, 48, .inl (aB fn_))), (ad 7, .inr (1, [.ref (ad 8), .ref (ad 9), .ref (ad 10), .int (iI ((k_ : Nat) : Int))])), (ad 8, .inl (cI, 48, .inl (aN os_))), (ad 9, .inl (cI, 48, .inl (aN ns_))), (ad 10, .inl (cI, 48, .inl (aN ln_))), (ad 11, .inr (0, [.ref (ad 12), .ref (ad 13), .ref (ad 14), .int (iI ((bo_ : Nat) : Int)), .int (iI ((bn_ : Nat) : Int)), .int (iI ((bl_ : Nat) : Int))])), (ad 12, .inl (cZ, 48, .inl (aB ot_))), (ad 13, .inl (cZ, 48, .inl (aB nt_))), (ad 14, .inl (cI, 49, .inl (aN ru_))), (ad 15, .inr (2, [.ref (ad 16), .ref (ad 17), .ref (ad 18), .int (iI ((sp_ : Nat) : Int))])), (ad 16, .inl (cI, 48, .inl (aN od_))), (ad 17, .inl (cZ, 48, .inl (aB wt_))), (ad 18, .inl (cZ, 48, .inl (aB dr_)))]) [0, 1, 2, 3, 4, 5, 6, 7, 8, 9, 10, 11, 12, 13, 14, 15, 16, 17, 18] rfl) hK_ 0 rfl rfl rfl hl_.1 rfl (Nat.le_of_ble_eq_true rfl) dX4_patchedValue_22 ⟨Nat.zero_le _, Nat.zero_le _⟩ ?_
      refine q_bf (tgt := 37) hx_ hb_ dX4_patchedValue_25 (by decide) (fun c25_ => ?_) (fun c25_ => ?_)
      · skip
        have hbx : bx k_ ns_ ln_ x_.toNat < k_ := by have h0_ := c17_; unfold isc at h0_; simp at h0_; exact h0_.1
        have hbi := bx_in hgd hbx
        refine lv_aload_n hx_ hb_ dX4_patchedValue_37 rfl (lv_at hl_ 1 rfl) ?_
        refine lv_aload_n hx_ hb_ dX4_patchedValue_38 rfl (lv_at hl_ 1 rfl) ?_
        refine va_get (D := G_) (ci := 4) (v := .ref (ad 15)) (C := RX4) (T := TX4) (N := 6) hx_ hb_ hts hi4_ hown hK_ hP_ 0 rfl rfl 4 (by decide) hf36_ (fun _ h9 => h9) rfl dX4_patchedValue_39 ?_
        refine ro_V (As := []) (rest := [.ref (ad 0)]) ⟨hx_, hb_, hml, hown, hts⟩ (c_X2_steps l_ G_ cI cZ (ad 15) (ad 16) (ad 17) (ad 18) od_ wt_ dr_ sp_) (cwV 0 hts gX4_patchedValue_X2_steps rfl rfl rfl (by decide +kernel) ⟨Nat.le_of_ble_eq_true rfl, Nat.le_of_ble_eq_true rfl⟩) (hP_.sub (ws' := [(ad 15, .inr (2, [.ref (ad 16), .ref (ad 17), .ref (ad 18), .int (iI ((sp_ : Nat) : Int))])), (ad 16, .inl (cI, 48, .inl (aN od_))), (ad 17, .inl (cZ, 48, .inl (aB wt_))), (ad 18, .inl (cZ, 48, .inl (aB dr_)))]) [15, 16, 17, 18] rfl) hK_ 0 rfl rfl rfl hl_.1 rfl (Nat.le_of_ble_eq_true rfl) dX4_patchedValue_42 ⟨Nat.zero_le _, Nat.zero_le _⟩ ?_
        refine lv_iload_n hx_ hb_ dX4_patchedValue_45 rfl (lv_at hl_ 2 rfl) ?_
        refine q_cast (b := ((x_.toNat : Nat) : Int)) (by omega) ?_
        refine ro_V (As := [.int (iI ((sp_ : Nat) : Int)), .int (iI ((x_.toNat : Nat) : Int))]) (rest := []) ⟨hx_, hb_, hml, hown, hts⟩ (c_X4_memoryValue l_ G_ cI cZ ad bu no_ vo_ fo_ nn_ vn_ fn_ k_ os_ ns_ ln_ ot_ nt_ ru_ bo_ bn_ bl_ od_ wt_ dr_ sp_ sp_ x_.toNat hno hnn hvo hvn hk_ hB_ hgd hco (by omega) (by omega)) (cwV 2 hts gX4_patchedValue_X4_memoryValue rfl rfl rfl (by decide +kernel) ⟨Nat.le_of_ble_eq_true rfl, Nat.le_of_ble_eq_true rfl⟩) (hP_.sub (ws' := [(ad 0, .inr (4, [.ref (ad 1), .ref (ad 4), .ref (ad 7), .ref (ad 11), .ref (ad 15), .int (iI (bZ bu))])), (ad 1, .inr (3, [.ref (ad 2), .ref (ad 3), .int (iI ((no_ : Nat) : Int))])), (ad 2, .inl (cI, 48, .inl (aI vo_))), (ad 3, .inl (cZ, 48, .inl (aB fo_))), (ad 4, .inr (3, [.ref (ad 5), .ref (ad 6), .int (iI ((nn_ : Nat) : Int))])), (ad 5, .inl (cI, 48, .inl (aI vn_))), (ad 6, .inl (cZ, 48, .inl (aB fn_))), (ad 7, .inr (1, [.ref (ad 8), .ref (ad 9), .ref (ad 10), .int (iI ((k_ : Nat) : Int))])), (ad 8, .inl (cI, 48, .inl (aN os_))), (ad 9, .inl (cI, 48, .inl (aN ns_))), (ad 10, .inl (cI, 48, .inl (aN ln_))), (ad 11, .inr (0, [.ref (ad 12), .ref (ad 13), .ref (ad 14), .int (iI ((bo_ : Nat) : Int)), .int (iI ((bn_ : Nat) : Int)), .int (iI ((bl_ : Nat) : Int))])), (ad 12, .inl (cZ, 48, .inl (aB ot_))), (ad 13, .inl (cZ, 48, .inl (aB nt_))), (ad 14, .inl (cI, 49, .inl (aN ru_))), (ad 15, .inr (2, [.ref (ad 16), .ref (ad 17), .ref (ad 18), .int (iI ((sp_ : Nat) : Int))])), (ad 16, .inl (cI, 48, .inl (aN od_))), (ad 17, .inl (cZ, 48, .inl (aB wt_))), (ad 18, .inl (cZ, 48, .inl (aB dr_)))]) [0, 1, 2, 3, 4, 5, 6, 7, 8, 9, 10, 11, 12, 13, 14, 15, 16, 17, 18] rfl) hK_ 0 rfl rfl rfl hl_.1 rfl (Nat.le_of_ble_eq_true rfl) dX4_patchedValue_46 ⟨Nat.zero_le _, Nat.zero_le _⟩ ?_
        refine lv_istore_n (lv' := [(3, .int (iI (vAt no_ vo_ (org (its k_ os_ ns_ ln_ k_).2.1 os_ ns_ ln_ sp_ ((x_.toNat : Nat) : Int))))), (2, .int (iI (eR bu nn_ (x_)))), (0, .ref (ad 0)), (1, .int (iI (x_)))]) hx_ hb_ dX4_patchedValue_49 rfl hl_ (by decide) rfl (fun ls_ hl_ => ?_)
        have fv5 := vAt_R (no := no_) (x := org (its k_ os_ ns_ ln_ k_).2.1 os_ ns_ ln_ sp_ ((x_.toNat : Nat) : Int)) hvo
        refine lv_aload_n hx_ hb_ dX4_patchedValue_50 rfl (lv_at hl_ 2 rfl) ?_
        refine va_get (D := G_) (ci := 4) (v := .ref (ad 7)) (C := RX4) (T := TX4) (N := 6) hx_ hb_ hts hi4_ hown hK_ hP_ 0 rfl rfl 2 (by decide) hf22_ (fun _ h9 => h9) rfl dX4_patchedValue_51 ?_
        refine lv_aload_n hx_ hb_ dX4_patchedValue_54 rfl (lv_at hl_ 2 rfl) ?_
        refine va_get (D := G_) (ci := 4) (v := .ref (ad 7)) (C := RX4) (T := TX4) (N := 6) hx_ hb_ hts hi4_ hown hK_ hP_ 0 rfl rfl 2 (by decide) hf22_ (fun _ h9 => h9) rfl dX4_patchedValue_55 ?_
        refine lv_iload_n hx_ hb_ dX4_patchedValue_58 rfl (lv_at hl_ 3 rfl) ?_
        refine q_cast (b := ((x_.toNat : Nat) : Int)) (by omega) ?_
        refine ro_V (As := [.int (iI ((x_.toNat : Nat) : Int))]) (rest := [.ref (ad 7)]) ⟨hx_, hb_, hml, hown, hts⟩ (c_X1_withNewIndex l_ G_ cI cZ (ad 7) (ad 8) (ad 9) (ad 10) k_ os_ ns_ ln_ ((x_.toNat : Nat) : Int) (by omega) (hB_) (by omega) (by omega)) (cwV 1 hts gX4_patchedValue_X1_withNewIndex rfl rfl rfl (by decide +kernel) ⟨Nat.le_of_ble_eq_true rfl, Nat.le_of_ble_eq_true rfl⟩) (hP_.sub (ws' := [(ad 7, .inr (1, [.ref (ad 8), .ref (ad 9), .ref (ad 10), .int (iI ((k_ : Nat) : Int))])), (ad 8, .inl (cI, 48, .inl (aN os_))), (ad 9, .inl (cI, 48, .inl (aN ns_))), (ad 10, .inl (cI, 48, .inl (aN ln_)))]) [7, 8, 9, 10] rfl) hK_ 0 rfl rfl rfl hl_.1 rfl (Nat.le_of_ble_eq_true rfl) dX4_patchedValue_59 ⟨Nat.zero_le _, Nat.zero_le _⟩ ?_
        refine q_cast (b := ((bx k_ ns_ ln_ x_.toNat : Nat) : Int)) (wI_hit hbx) ?_
        refine lv_iload_n hx_ hb_ dX4_patchedValue_62 rfl (lv_at hl_ 3 rfl) ?_
        refine q_cast (b := ((x_.toNat : Nat) : Int)) (by omega) ?_
        refine ro_V (As := [.int (iI ((bx k_ ns_ ln_ x_.toNat : Nat) : Int)), .int (iI ((x_.toNat : Nat) : Int))]) (rest := []) ⟨hx_, hb_, hml, hown, hts⟩ (c_X1_oldIndex l_ G_ cI cZ (ad 7) (ad 8) (ad 9) (ad 10) k_ os_ ns_ ln_ (bx k_ ns_ ln_ x_.toNat) ((x_.toNat : Nat) : Int) (by omega) (hbx)) (cwV 2 hts gX4_patchedValue_X1_oldIndex rfl rfl rfl (by decide +kernel) ⟨Nat.le_of_ble_eq_true rfl, Nat.le_of_ble_eq_true rfl⟩) (hP_.sub (ws' := [(ad 7, .inr (1, [.ref (ad 8), .ref (ad 9), .ref (ad 10), .int (iI ((k_ : Nat) : Int))])), (ad 8, .inl (cI, 48, .inl (aN os_))), (ad 9, .inl (cI, 48, .inl (aN ns_))), (ad 10, .inl (cI, 48, .inl (aN ln_)))]) [7, 8, 9, 10] rfl) hK_ 0 rfl rfl rfl hl_.1 rfl (Nat.le_of_ble_eq_true rfl) dX4_patchedValue_63 ⟨Nat.zero_le _, Nat.zero_le _⟩ ?_
        refine q_cast (b := ((oN os_ ns_ (bx k_ ns_ ln_ x_.toNat) x_.toNat : Nat) : Int)) (oN_cast hbi.2.1) ?_
        refine lv_istore (lv' := [(4, .int (iI ((oN os_ ns_ (bx k_ ns_ ln_ x_.toNat) x_.toNat : Nat) : Int))), (3, .int (iI (vAt no_ vo_ (org (its k_ os_ ns_ ln_ k_).2.1 os_ ns_ ln_ sp_ ((x_.toNat : Nat) : Int))))), (2, .int (iI (eR bu nn_ (x_)))), (0, .ref (ad 0)), (1, .int (iI (x_)))]) hx_ hb_ dX4_patchedValue_66 hl_ (by decide) rfl (fun ls_ hl_ => ?_)
        refine lv_aload_n hx_ hb_ dX4_patchedValue_68 rfl (lv_at hl_ 3 rfl) ?_
        refine va_get (D := G_) (ci := 4) (v := .ref (ad 1)) (C := RX4) (T := TX4) (N := 6) hx_ hb_ hts hi4_ hown hK_ hP_ 0 rfl rfl 0 (by decide) hf10_ (fun _ h9 => h9) rfl dX4_patchedValue_69 ?_
        refine lv_iload hx_ hb_ dX4_patchedValue_72 (lv_at hl_ 0 rfl) ?_
        refine ro_V (As := [.int (iI ((oN os_ ns_ (bx k_ ns_ ln_ x_.toNat) x_.toNat : Nat) : Int))]) (rest := []) ⟨hx_, hb_, hml, hown, hts⟩ (c_X3_isAddress l_ G_ cI cZ (ad 1) (ad 2) (ad 3) no_ vo_ fo_ ((oN os_ ns_ (bx k_ ns_ ln_ x_.toNat) x_.toNat : Nat) : Int) (by omega) (by omega) (by omega)) (cwV 1 hts gX4_patchedValue_X3_isAddress rfl rfl rfl (by decide +kernel) ⟨Nat.le_of_ble_eq_true rfl, Nat.le_of_ble_eq_true rfl⟩) (hP_.sub (ws' := [(ad 1, .inr (3, [.ref (ad 2), .ref (ad 3), .int (iI ((no_ : Nat) : Int))])), (ad 2, .inl (cI, 48, .inl (aI vo_))), (ad 3, .inl (cZ, 48, .inl (aB fo_)))]) [1, 2, 3] rfl) hK_ 0 rfl rfl rfl hl_.1 rfl (Nat.le_of_ble_eq_true rfl) dX4_patchedValue_74 ⟨Nat.zero_le _, Nat.zero_le _⟩ ?_
        refine q_cast (b := (bZ (fo_ (oN os_ ns_ (bx k_ ns_ ln_ x_.toNat) x_.toNat)))) (congrArg bZ (fAt_in hbi.1)) ?_
        refine q_bf (tgt := 91) hx_ hb_ dX4_patchedValue_77 (by decide) (fun c77_ => ?_) (fun c77_ => ?_)
        · skip
          refine lv_iload_n hx_ hb_ dX4_patchedValue_91 rfl (lv_at hl_ 1 rfl) ?_
          rw [← hQe]
          exact W.iret hx_ hb_ hr (fun tt1 htt1 hWW1 => ⟨_, rfl, congrArg iI (by unfold A_pat; rw [if_pos hb0, if_pos ⟨hx3, hx4⟩, if_pos ⟨c17_, c25_⟩, if_neg (by rw [c77_]; decide), ← hco.2.2.2, hxn]), htt1⟩) (fun q_ h_ => absurd h_ List.not_mem_nil) dX4_patchedValue_92
        · skip
          refine lv_aload_n hx_ hb_ dX4_patchedValue_80 rfl (lv_at hl_ 3 rfl) ?_
          refine va_get (D := G_) (ci := 4) (v := .ref (ad 7)) (C := RX4) (T := TX4) (N := 6) hx_ hb_ hts hi4_ hown hK_ hP_ 0 rfl rfl 2 (by decide) hf22_ (fun _ h9 => h9) rfl dX4_patchedValue_81 ?_
          refine lv_iload_n hx_ hb_ dX4_patchedValue_84 rfl (lv_at hl_ 1 rfl) ?_
          refine ro_V (As := [.int (iI (vAt no_ vo_ (org (its k_ os_ ns_ ln_ k_).2.1 os_ ns_ ln_ sp_ ((x_.toNat : Nat) : Int))))]) (rest := []) ⟨hx_, hb_, hml, hown, hts⟩ (c_X1_moved l_ G_ cI cZ (ad 7) (ad 8) (ad 9) (ad 10) k_ os_ ns_ ln_ (vAt no_ vo_ (org (its k_ os_ ns_ ln_ k_).2.1 os_ ns_ ln_ sp_ ((x_.toNat : Nat) : Int))) (by omega) (hB_) (by omega) (by omega)) (cwV 1 hts gX4_patchedValue_X1_moved rfl rfl rfl (by decide +kernel) ⟨Nat.le_of_ble_eq_true rfl, Nat.le_of_ble_eq_true rfl⟩) (hP_.sub (ws' := [(ad 7, .inr (1, [.ref (ad 8), .ref (ad 9), .ref (ad 10), .int (iI ((k_ : Nat) : Int))])), (ad 8, .inl (cI, 48, .inl (aN os_))), (ad 9, .inl (cI, 48, .inl (aN ns_))), (ad 10, .inl (cI, 48, .inl (aN ln_)))]) [7, 8, 9, 10] rfl) hK_ 0 rfl rfl rfl hl_.1 rfl (Nat.le_of_ble_eq_true rfl) dX4_patchedValue_85 ⟨Nat.zero_le _, Nat.zero_le _⟩ ?_
          refine lv_goto (tgt := 92) hx_ hb_ dX4_patchedValue_88 (by decide) ?_
          rw [← hQe]
          exact W.iret hx_ hb_ hr (fun tt1 htt1 hWW1 => ⟨_, rfl, congrArg iI (by unfold A_pat; rw [if_pos hb0, if_pos ⟨hx3, hx4⟩, if_pos ⟨c17_, c25_⟩, if_pos c77_, ← hco.2.2.2, hxn]), htt1⟩) (fun q_ h_ => absurd h_ List.not_mem_nil) dX4_patchedValue_92
      · skip
        refine lv_aload_n hx_ hb_ dX4_patchedValue_28 rfl (lv_at hl_ 1 rfl) ?_
        refine va_get (D := G_) (ci := 4) (v := .ref (ad 4)) (C := RX4) (T := TX4) (N := 6) hx_ hb_ hts hi4_ hown hK_ hP_ 0 rfl rfl 1 (by decide) hf16_ (fun _ h9 => h9) rfl dX4_patchedValue_29 ?_
        refine lv_iload_n hx_ hb_ dX4_patchedValue_32 rfl (lv_at hl_ 2 rfl) ?_
        refine q_cast (b := ((x_.toNat : Nat) : Int)) (by omega) ?_
        refine ro_V (As := [.int (iI ((x_.toNat : Nat) : Int))]) (rest := []) ⟨hx_, hb_, hml, hown, hts⟩ (c_X3_valueAt l_ G_ cI cZ (ad 4) (ad 5) (ad 6) nn_ vn_ fn_ ((x_.toNat : Nat) : Int) (by omega) (by omega) (by omega)) (cwV 1 hts gX4_patchedValue_X3_valueAt rfl rfl rfl (by decide +kernel) ⟨Nat.le_of_ble_eq_true rfl, Nat.le_of_ble_eq_true rfl⟩) (hP_.sub (ws' := [(ad 4, .inr (3, [.ref (ad 5), .ref (ad 6), .int (iI ((nn_ : Nat) : Int))])), (ad 5, .inl (cI, 48, .inl (aI vn_))), (ad 6, .inl (cZ, 48, .inl (aB fn_)))]) [4, 5, 6] rfl) hK_ 0 rfl rfl rfl hl_.1 rfl (Nat.le_of_ble_eq_true rfl) dX4_patchedValue_33 ⟨Nat.zero_le _, Nat.zero_le _⟩ ?_
        refine q_cast (b := (vn_ x_.toNat)) (vAt_in (by omega)) ?_
        rw [← hQe]
        exact W.iret hx_ hb_ hr (fun tt1 htt1 hWW1 => ⟨_, rfl, congrArg iI (by unfold A_pat; rw [if_pos hb0, if_pos ⟨hx3, hx4⟩, if_neg (by rw [c25_]; simp)]), htt1⟩) (fun q_ h_ => absurd h_ List.not_mem_nil) dX4_patchedValue_36
  · skip
    refine lv_iload_n hx_ hb_ dX4_patchedValue_10 rfl (lv_at hl_ 0 rfl) ?_
    rw [← hQe]
    exact W.iret hx_ hb_ hr (fun tt1 htt1 hWW1 => ⟨_, rfl, congrArg iI (eR_ne _ c7_), htt1⟩) (fun q_ h_ => absurd h_ List.not_mem_nil) dX4_patchedValue_11

set_option maxHeartbeats 4000000 in
set_option maxRecDepth 100000 in
/-- predictedValue -/
theorem c_X4_predictedValue (l_ : Launch) (G_ : va_G) (cI cZ : ClassId) (ad : Nat → Nat) (bu : Bool) (no_ : Nat) (vo_ : Nat → Int) (fo_ : Nat → Bool) (nn_ : Nat) (vn_ : Nat → Int) (fn_ : Nat → Bool) (k_ : Nat) (os_ ns_ ln_ : Nat → Nat) (ot_ nt_ : Nat → Bool) (ru_ : Nat → Nat) (bo_ bn_ bl_ : Nat) (od_ : Nat → Nat) (wt_ dr_ : Nat → Bool) (sp_ : Nat) (x_ : Int) (hno : no_ ≤ 48) (hnn : nn_ ≤ 48) (hvo : ∀ j_, 0 ≤ vo_ j_ ∧ vo_ j_ ≤ 9999) (hvn : ∀ j_, 0 ≤ vn_ j_ ∧ vn_ j_ ≤ 9999) (hbu : bu = true → k_ ≤ 48 ∧ B48 k_ os_ ns_ ln_ ∧ Gd no_ nn_ k_ os_ ns_ ln_ ∧ CoR k_ os_ ns_ ln_ k_ wt_ dr_ od_ sp_) (hx1 : -2147483648 ≤ x_) (hx2 : x_ < 2147483648) : Ro l_ yX4_predictedValue wsX4_predictedValue ({ frames := 4, cells := 0, slots := 0, locals := 90 }) G_ cI cZ [.ref (ad 0), .int (iI (x_))] (wRP cI cZ ad bu no_ vo_ fo_ nn_ vn_ fn_ k_ os_ ns_ ln_ ot_ nt_ ru_ bo_ bn_ bl_ od_ wt_ dr_ sp_) (A_pvl bu nn_ vo_ fo_ k_ os_ ns_ ln_ x_) := by
  refine Met.ofW (cc := cX4_predictedValue) (maxL := 4) (ret := (some .int)) (by decide) rfl ?_
  intro p_ e_ s_ m_ args below meth c_ s₁ B hml hv
  obtain ⟨hargs, hP_, hK_⟩ := hv
  have hx_ := B.exec
  have hb_ := B.bytes
  have hr := B.returns
  have hts := atoms_spec (ws := wsX4_predictedValue) B.pre
  have hown : s_.vm.findClass RX4 = some m_.cls := findClass_of_methodNamed B.named
  have hlocks := B.notSynchronized
  have hi4_ : ∀ w_ ∈ wsX40, w_ ∈ wsX4_predictedValue := by decide +kernel
  have hf22_ := hts (.fieldLink RX4 22 "RelocatingPatch" "blocks" "LRelocatingPatch$Blocks;") (by decide +kernel)
  have hP_ : va_P G_ vwCl [(ad 0, .inr (4, [.ref (ad 1), .ref (ad 4), .ref (ad 7), .ref (ad 11), .ref (ad 15), .int (iI (bZ bu))])), (ad 1, .inr (3, [.ref (ad 2), .ref (ad 3), .int (iI ((no_ : Nat) : Int))])), (ad 2, .inl (cI, 48, .inl (aI vo_))), (ad 3, .inl (cZ, 48, .inl (aB fo_))), (ad 4, .inr (3, [.ref (ad 5), .ref (ad 6), .int (iI ((nn_ : Nat) : Int))])), (ad 5, .inl (cI, 48, .inl (aI vn_))), (ad 6, .inl (cZ, 48, .inl (aB fn_))), (ad 7, .inr (1, [.ref (ad 8), .ref (ad 9), .ref (ad 10), .int (iI ((k_ : Nat) : Int))])), (ad 8, .inl (cI, 48, .inl (aN os_))), (ad 9, .inl (cI, 48, .inl (aN ns_))), (ad 10, .inl (cI, 48, .inl (aN ln_))), (ad 11, .inr (0, [.ref (ad 12), .ref (ad 13), .ref (ad 14), .int (iI ((bo_ : Nat) : Int)), .int (iI ((bn_ : Nat) : Int)), .int (iI ((bl_ : Nat) : Int))])), (ad 12, .inl (cZ, 48, .inl (aB ot_))), (ad 13, .inl (cZ, 48, .inl (aB nt_))), (ad 14, .inl (cI, 49, .inl (aN ru_))), (ad 15, .inr (2, [.ref (ad 16), .ref (ad 17), .ref (ad 18), .int (iI ((sp_ : Nat) : Int))])), (ad 16, .inl (cI, 48, .inl (aN od_))), (ad 17, .inl (cZ, 48, .inl (aB wt_))), (ad 18, .inl (cZ, 48, .inl (aB dr_)))] s_.heap := hP_
  generalize hQe : MQ below (vp_Si (fun r_ => r_ = iI (A_pvl bu nn_ vo_ fo_ k_ os_ ns_ ln_ x_))) args s_ 0 0 (fun _ => False) = Q_
  rw [show entryFrame m_ args 4 = entryFrame m_ ([.ref (ad 0), .int (iI (x_))] : List Value).toArray 4 from by rw [hargs], lg_entry_eq]
  have hl_ := lv_entry ([.ref (ad 0), .int (iI (x_))]) (n := 4) (Nat.le_of_ble_eq_true rfl)
  generalize (lg_sl ([.ref (ad 0), .int (iI (x_))]) ++ List.replicate (4 - (lg_sl ([.ref (ad 0), .int (iI (x_))])).length) Slot.unset).toArray = ls_ at hl_ ⊢
  have hl_ : lv_has ls_ 4 [(0, .ref (ad 0)), (1, .int (iI (x_)))] := hl_
  refine lv_aload_n hx_ hb_ dX4_predictedValue_0 rfl (lv_at hl_ 0 rfl) ?_
  refine lv_iload_n hx_ hb_ dX4_predictedValue_1 rfl (lv_at hl_ 1 rfl) ?_
  refine ro_V (As := [.int (iI (x_))]) (rest := []) ⟨hx_, hb_, hml, hown, hts⟩ (c_X4_newWordError l_ G_ cI cZ ad bu no_ vo_ fo_ nn_ vn_ fn_ k_ os_ ns_ ln_ ot_ nt_ ru_ bo_ bn_ bl_ od_ wt_ dr_ sp_ (x_) (fun _ => hnn) (by omega) (by omega)) (cwV 1 hts gX4_predictedValue_X4_newWordError rfl rfl rfl (by decide +kernel) ⟨Nat.le_of_ble_eq_true rfl, Nat.le_of_ble_eq_true rfl⟩) (hP_.sub (ws' := [(ad 0, .inr (4, [.ref (ad 1), .ref (ad 4), .ref (ad 7), .ref (ad 11), .ref (ad 15), .int (iI (bZ bu))])), (ad 1, .inr (3, [.ref (ad 2), .ref (ad 3), .int (iI ((no_ : Nat) : Int))])), (ad 2, .inl (cI, 48, .inl (aI vo_))), (ad 3, .inl (cZ, 48, .inl (aB fo_))), (ad 4, .inr (3, [.ref (ad 5), .ref (ad 6), .int (iI ((nn_ : Nat) : Int))])), (ad 5, .inl (cI, 48, .inl (aI vn_))), (ad 6, .inl (cZ, 48, .inl (aB fn_))), (ad 7, .inr (1, [.ref (ad 8), .ref (ad 9), .ref (ad 10), .int (iI ((k_ : Nat) : Int))])), (ad 8, .inl (cI, 48, .inl (aN os_))), (ad 9, .inl (cI, 48, .inl (aN ns_))), (ad 10, .inl (cI, 48, .inl (aN ln_))), (ad 11, .inr (0, [.ref (ad 12), .ref (ad 13), .ref (ad 14), .int (iI ((bo_ : Nat) : Int)), .int (iI ((bn_ : Nat) : Int)), .int (iI ((bl_ : Nat) : Int))])), (ad 12, .inl (cZ, 48, .inl (aB ot_))), (ad 13, .inl (cZ, 48, .inl (aB nt_))), (ad 14, .inl (cI, 49, .inl (aN ru_))), (ad 15, .inr (2, [.ref (ad 16), .ref (ad 17), .ref (ad 18), .int (iI ((sp_ : Nat) : Int))])), (ad 16, .inl (cI, 48, .inl (aN od_))), (ad 17, .inl (cZ, 48, .inl (aB wt_))), (ad 18, .inl (cZ, 48, .inl (aB dr_)))]) [0, 1, 2, 3, 4, 5, 6, 7, 8, 9, 10, 11, 12, 13, 14, 15, 16, 17, 18] rfl) hK_ 0 rfl rfl rfl hl_.1 rfl (Nat.le_of_ble_eq_true rfl) dX4_predictedValue_2 ⟨Nat.zero_le _, Nat.zero_le _⟩ ?_
  refine lv_istore_n (lv' := [(2, .int (iI (eR bu nn_ (x_)))), (0, .ref (ad 0)), (1, .int (iI (x_)))]) hx_ hb_ dX4_predictedValue_5 rfl hl_ (by decide) rfl (fun ls_ hl_ => ?_)
  refine lv_iload_n hx_ hb_ dX4_predictedValue_6 rfl (lv_at hl_ 0 rfl) ?_
  refine q_if_eq (tgt := 12) hx_ hb_ dX4_predictedValue_7 (by decide) (eR_R _ _ _) (fun c7_ => ?_) (fun c7_ => ?_)
  · skip
    obtain ⟨hb0, hx3, hx4⟩ := eR_0 c7_
    obtain ⟨hk_, hB_, hgd, hco⟩ := hbu hb0
    have hxn : ((x_.toNat : Nat) : Int) = x_ := by omega
    refine lv_aload_n hx_ hb_ dX4_predictedValue_12 rfl (lv_at hl_ 1 rfl) ?_
    refine va_get (D := G_) (ci := 4) (v := .ref (ad 7)) (C := RX4) (T := TX4) (N := 6) hx_ hb_ hts hi4_ hown hK_ hP_ 0 rfl rfl 2 (by decide) hf22_ (fun _ h9 => h9) rfl dX4_predictedValue_13 ?_
    refine lv_iload_n hx_ hb_ dX4_predictedValue_16 rfl (lv_at hl_ 2 rfl) ?_
    refine q_cast (b := ((x_.toNat : Nat) : Int)) (by omega) ?_
    refine ro_V (As := [.int (iI ((x_.toNat : Nat) : Int))]) (rest := []) ⟨hx_, hb_, hml, hown, hts⟩ (c_X1_withNewIndex l_ G_ cI cZ (ad 7) (ad 8) (ad 9) (ad 10) k_ os_ ns_ ln_ ((x_.toNat : Nat) : Int) (by omega) (hB_) (by omega) (by omega)) (cwV 1 hts gX4_predictedValue_X1_withNewIndex rfl rfl rfl (by decide +kernel) ⟨Nat.le_of_ble_eq_true rfl, Nat.le_of_ble_eq_true rfl⟩) (hP_.sub (ws' := [(ad 7, .inr (1, [.ref (ad 8), .ref (ad 9), .ref (ad 10), .int (iI ((k_ : Nat) : Int))])), (ad 8, .inl (cI, 48, .inl (aN os_))), (ad 9, .inl (cI, 48, .inl (aN ns_))), (ad 10, .inl (cI, 48, .inl (aN ln_)))]) [7, 8, 9, 10] rfl) hK_ 0 rfl rfl rfl hl_.1 rfl (Nat.le_of_ble_eq_true rfl) dX4_predictedValue_17 ⟨Nat.zero_le _, Nat.zero_le _⟩ ?_
    refine lv_istore_n (lv' := [(3, .int (iI (wI (wni k_ ns_ ln_ ((x_.toNat : Nat) : Int)) k_ (-1)))), (2, .int (iI (eR bu nn_ (x_)))), (0, .ref (ad 0)), (1, .int (iI (x_)))]) hx_ hb_ dX4_predictedValue_20 rfl hl_ (by decide) rfl (fun ls_ hl_ => ?_)
    refine lv_iload_n hx_ hb_ dX4_predictedValue_21 rfl (lv_at hl_ 0 rfl) ?_
    refine lv_iconst (v := iI (-1)) hx_ hb_ dX4_predictedValue_22 rfl ?_
    refine q_icmp_ne (tgt := 32) hx_ hb_ dX4_predictedValue_23 (by decide) (wI_R hk_ ⟨by decide, by decide⟩) (⟨by decide, by decide⟩) (fun c23_ => ?_) (fun c23_ => ?_)
    · skip
      have hbx : bx k_ ns_ ln_ x_.toNat < k_ := wI_ne c23_
      have hbi := bx_in hgd hbx
      refine lv_aload_n hx_ hb_ dX4_predictedValue_32 rfl (lv_at hl_ 2 rfl) ?_
      refine lv_iload_n hx_ hb_ dX4_predictedValue_33 rfl (lv_at hl_ 0 rfl) ?_
      refine q_cast (b := ((bx k_ ns_ ln_ x_.toNat : Nat) : Int)) (wI_hit hbx) ?_
      refine lv_iload_n hx_ hb_ dX4_predictedValue_34 rfl (lv_at hl_ 3 rfl) ?_
      refine q_cast (b := ((x_.toNat : Nat) : Int)) (by omega) ?_
      refine ro_V (As := [.int (iI ((bx k_ ns_ ln_ x_.toNat : Nat) : Int)), .int (iI ((x_.toNat : Nat) : Int))]) (rest := []) ⟨hx_, hb_, hml, hown, hts⟩ (c_X4_prediction l_ G_ cI cZ ad bu no_ vo_ fo_ nn_ vn_ fn_ k_ os_ ns_ ln_ ot_ nt_ ru_ bo_ bn_ bl_ od_ wt_ dr_ sp_ (bx k_ ns_ ln_ x_.toNat) x_.toNat hno hnn hvo hvn hk_ hB_ hgd (hbx) (hbi.2.1) (hbi.1)) (cwV 2 hts gX4_predictedValue_X4_prediction rfl rfl rfl (by decide +kernel) ⟨Nat.le_of_ble_eq_true rfl, Nat.le_of_ble_eq_true rfl⟩) (hP_.sub (ws' := [(ad 0, .inr (4, [.ref (ad 1), .ref (ad 4), .ref (ad 7), .ref (ad 11), .ref (ad 15), .int (iI (bZ bu))])), (ad 1, .inr (3, [.ref (ad 2), .ref (ad 3), .int (iI ((no_ : Nat) : Int))])), (ad 2, .inl (cI, 48, .inl (aI vo_))), (ad 3, .inl (cZ, 48, .inl (aB fo_))), (ad 4, .inr (3, [.ref (ad 5), .ref (ad 6), .int (iI ((nn_ : Nat) : Int))])), (ad 5, .inl (cI, 48, .inl (aI vn_))), (ad 6, .inl (cZ, 48, .inl (aB fn_))), (ad 7, .inr (1, [.ref (ad 8), .ref (ad 9), .ref (ad 10), .int (iI ((k_ : Nat) : Int))])), (ad 8, .inl (cI, 48, .inl (aN os_))), (ad 9, .inl (cI, 48, .inl (aN ns_))), (ad 10, .inl (cI, 48, .inl (aN ln_))), (ad 11, .inr (0, [.ref (ad 12), .ref (ad 13), .ref (ad 14), .int (iI ((bo_ : Nat) : Int)), .int (iI ((bn_ : Nat) : Int)), .int (iI ((bl_ : Nat) : Int))])), (ad 12, .inl (cZ, 48, .inl (aB ot_))), (ad 13, .inl (cZ, 48, .inl (aB nt_))), (ad 14, .inl (cI, 49, .inl (aN ru_))), (ad 15, .inr (2, [.ref (ad 16), .ref (ad 17), .ref (ad 18), .int (iI ((sp_ : Nat) : Int))])), (ad 16, .inl (cI, 48, .inl (aN od_))), (ad 17, .inl (cZ, 48, .inl (aB wt_))), (ad 18, .inl (cZ, 48, .inl (aB dr_)))]) [0, 1, 2, 3, 4, 5, 6, 7, 8, 9, 10, 11, 12, 13, 14, 15, 16, 17, 18] rfl) hK_ 0 rfl rfl rfl hl_.1 rfl (Nat.le_of_ble_eq_true rfl) dX4_predictedValue_35 ⟨Nat.zero_le _, Nat.zero_le _⟩ ?_
      rw [← hQe]
      exact W.iret hx_ hb_ hr (fun tt1 htt1 hWW1 => ⟨_, rfl, congrArg iI (by unfold A_pvl; rw [if_pos hb0, if_pos ⟨hx3, hx4⟩, if_pos hbx]), htt1⟩) (fun q_ h_ => absurd h_ List.not_mem_nil) dX4_predictedValue_38
    · skip
      refine lv_sipush (v := iI (-10005)) hx_ hb_ dX4_predictedValue_26 rfl ?_
      refine lv_goto (tgt := 38) hx_ hb_ dX4_predictedValue_29 (by decide) ?_
      rw [← hQe]
      exact W.iret hx_ hb_ hr (fun tt1 htt1 hWW1 => ⟨_, rfl, congrArg iI (by unfold A_pvl; rw [if_pos hb0, if_pos ⟨hx3, hx4⟩, if_neg (show ¬ bx k_ ns_ ln_ x_.toNat < k_ from wI_nlt (by decide) c23_)]), htt1⟩) (fun q_ h_ => absurd h_ List.not_mem_nil) dX4_predictedValue_38
  · skip
    refine lv_iload_n hx_ hb_ dX4_predictedValue_10 rfl (lv_at hl_ 0 rfl) ?_
    rw [← hQe]
    exact W.iret hx_ hb_ hr (fun tt1 htt1 hWW1 => ⟨_, rfl, congrArg iI (eR_ne _ c7_), htt1⟩) (fun q_ h_ => absurd h_ List.not_mem_nil) dX4_predictedValue_11
