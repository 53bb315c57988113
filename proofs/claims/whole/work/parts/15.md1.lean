set_option maxHeartbeats 4000000 in
set_option maxRecDepth 100000 in
/-- within -/
theorem c_X5_within (l_ : Launch) (G_ : va_G) (cI cZ : ClassId) (x_ y_ z_ : Int) (hx1 : -2147483648 ≤ x_) (hx2 : x_ < 2147483648) (hy1 : -2147483648 ≤ y_) (hy2 : y_ < 2147483648) (hz1 : -2147483648 ≤ z_) (hz2 : z_ < 2147483648) : Ro l_ yX5_within wsX5_within ({ frames := 0, cells := 0, slots := 0, locals := 0 }) G_ cI cZ [.int (iI (x_)), .int (iI (y_)), .int (iI (z_))] [] (bZ (decide (y_ ≤ x_ ∧ x_ ≤ z_))) := by
  refine Met.ofW (cc := cX5_within) (maxL := 3) (ret := (some .boolean)) (by decide) rfl ?_
  intro p_ e_ s_ m_ args below meth c_ s₁ B hml hv
  obtain ⟨hargs, hP_, hK_⟩ := hv
  have hx_ := B.exec
  have hb_ := B.bytes
  have hr := B.returns
  have hts := atoms_spec (ws := wsX5_within) B.pre
  have hown : s_.vm.findClass RX5 = some m_.cls := findClass_of_methodNamed B.named
  have hlocks := B.notSynchronized
  have hP_ : va_P G_ vwCl [] s_.heap := hP_
  generalize hQe : MQ below (vp_Si (fun r_ => r_ = iI (bZ (decide (y_ ≤ x_ ∧ x_ ≤ z_))))) args s_ 0 0 (fun _ => False) = Q_
  rw [show entryFrame m_ args 3 = entryFrame m_ ([.int (iI (x_)), .int (iI (y_)), .int (iI (z_))] : List Value).toArray 3 from by rw [hargs], lg_entry_eq]
  have hl_ := lv_entry ([.int (iI (x_)), .int (iI (y_)), .int (iI (z_))]) (n := 3) (Nat.le_of_ble_eq_true rfl)
  generalize (lg_sl ([.int (iI (x_)), .int (iI (y_)), .int (iI (z_))]) ++ List.replicate (3 - (lg_sl ([.int (iI (x_)), .int (iI (y_)), .int (iI (z_))])).length) Slot.unset).toArray = ls_ at hl_ ⊢
  have hl_ : lv_has ls_ 3 [(0, .int (iI (x_))), (1, .int (iI (y_))), (2, .int (iI (z_)))] := hl_
  refine lv_iload_n hx_ hb_ dX5_within_0 rfl (lv_at hl_ 0 rfl) ?_
  refine lv_iload_n hx_ hb_ dX5_within_1 rfl (lv_at hl_ 1 rfl) ?_
  refine q_icmp_lt (tgt := 14) hx_ hb_ dX5_within_2 (by decide) (⟨by omega, by omega⟩) (⟨by omega, by omega⟩) (fun c2_ => ?_) (fun c2_ => ?_)
  · skip
    refine lv_iconst (v := iI ((0 : Nat) : Int)) hx_ hb_ dX5_within_14 rfl ?_
    rw [← hQe]
    refine q_cast (b := bZ false) rfl ?_
    exact W.zret (v := _) hx_ hb_ hr (nar_bZ _) (fun tt1 htt1 hWW1 => ⟨_, rfl, congrArg iI (congrArg bZ (decide_eq_false (by omega)).symm), htt1⟩) (fun q_ h_ => absurd h_ List.not_mem_nil) dX5_within_15
  · skip
    refine lv_iload_n hx_ hb_ dX5_within_5 rfl (lv_at hl_ 0 rfl) ?_
    refine lv_iload_n hx_ hb_ dX5_within_6 rfl (lv_at hl_ 2 rfl) ?_
    refine q_icmp_gt (tgt := 14) hx_ hb_ dX5_within_7 (by decide) (⟨by omega, by omega⟩) (⟨by omega, by omega⟩) (fun c7_ => ?_) (fun c7_ => ?_)
    · skip
      refine lv_iconst (v := iI ((0 : Nat) : Int)) hx_ hb_ dX5_within_14 rfl ?_
      rw [← hQe]
      refine q_cast (b := bZ false) rfl ?_
      exact W.zret (v := _) hx_ hb_ hr (nar_bZ _) (fun tt1 htt1 hWW1 => ⟨_, rfl, congrArg iI (congrArg bZ (decide_eq_false (by omega)).symm), htt1⟩) (fun q_ h_ => absurd h_ List.not_mem_nil) dX5_within_15
    · skip
      refine lv_iconst (v := iI ((1 : Nat) : Int)) hx_ hb_ dX5_within_10 rfl ?_
      refine lv_goto (tgt := 15) hx_ hb_ dX5_within_11 (by decide) ?_
      rw [← hQe]
      refine q_cast (b := bZ true) rfl ?_
      exact W.zret (v := _) hx_ hb_ hr (nar_bZ _) (fun tt1 htt1 hWW1 => ⟨_, rfl, congrArg iI (congrArg bZ (decide_eq_true (by omega)).symm), htt1⟩) (fun q_ h_ => absurd h_ List.not_mem_nil) dX5_within_15

set_option maxHeartbeats 4000000 in
set_option maxRecDepth 100000 in
/-- isNew -/
theorem c_X5_isNew (l_ : Launch) (G_ : va_G) (cI cZ : ClassId) (am_ : Nat → Nat) (bu_ : Bool) (no_ : Nat) (vo_ : Nat → Int) (fo_ : Nat → Bool) (nn_ : Nat) (vn_ : Nat → Int) (fn_ : Nat → Bool) (k_ : Nat) (osr nsr lnr : Nat → Nat) (ba_ : Nat → Int) (tk_ : Nat → Bool) (rt_ : Nat → Nat) (cp_ : Nat) (cd_ so_ : Nat → Nat) (me_ bf_ : Nat → Int) (x_ : Int) (hnn : nn_ ≤ 48) (hx1 : -2147483648 ≤ x_) (hx2 : x_ < 2147483648) : Ro l_ yX5_isNew wsX5_isNew ({ frames := 1, cells := 0, slots := 0, locals := 22 }) G_ cI cZ [.ref (am_ 0), .int (iI (x_))] (wMd cI cZ am_ bu_ no_ vo_ fo_ nn_ vn_ fn_ k_ osr nsr lnr ba_ tk_ rt_ cp_ cd_ so_ me_ bf_) (bZ (decide (0 ≤ x_ ∧ x_ < ((nn_ : Nat) : Int)))) := by
  refine Met.ofW (cc := cX5_isNew) (maxL := 2) (ret := (some .boolean)) (by decide) rfl ?_
  intro p_ e_ s_ m_ args below meth c_ s₁ B hml hv
  obtain ⟨hargs, hP_, hK_⟩ := hv
  have hx_ := B.exec
  have hb_ := B.bytes
  have hr := B.returns
  have hts := atoms_spec (ws := wsX5_isNew) B.pre
  have hown : s_.vm.findClass RX5 = some m_.cls := findClass_of_methodNamed B.named
  have hlocks := B.notSynchronized
  have hi5_ : ∀ w_ ∈ wsX50, w_ ∈ wsX5_isNew := by decide +kernel
  have hf57_ := hts (.fieldLink RX5 57 "RelocatingPatchModel" "news" "I") (by decide +kernel)
  have hP_ : va_P G_ vwCl [(am_ 0, .inr (5, [.int (iI ((no_ : Nat) : Int)), .ref (am_ 1), .ref (am_ 2), .int (iI ((nn_ : Nat) : Int)), .ref (am_ 3), .ref (am_ 4), .int (iI (bZ bu_)), .int (iI ((k_ : Nat) : Int)), .ref (am_ 5), .ref (am_ 6), .ref (am_ 7), .ref (am_ 8), .ref (am_ 9), .ref (am_ 10), .int (iI ((cp_ : Nat) : Int)), .ref (am_ 11), .ref (am_ 12), .ref (am_ 13), .ref (am_ 14)])), (am_ 1, .inl (cI, 48, .inl (aI vo_))), (am_ 2, .inl (cZ, 48, .inl (aB fo_))), (am_ 3, .inl (cI, 48, .inl (aI vn_))), (am_ 4, .inl (cZ, 48, .inl (aB fn_))), (am_ 5, .inl (cI, 48, .inl (aN osr))), (am_ 6, .inl (cI, 48, .inl (aN nsr))), (am_ 7, .inl (cI, 48, .inl (aN lnr))), (am_ 8, .inl (cI, 48, .inl (aI ba_))), (am_ 9, .inl (cZ, 48, .inl (aB tk_))), (am_ 10, .inl (cI, 2401, .inl (aN rt_))), (am_ 11, .inl (cI, 48, .inl (aN cd_))), (am_ 12, .inl (cI, 48, .inl (aN so_))), (am_ 13, .inl (cI, 48, .inl (aI me_))), (am_ 14, .inl (cI, 48, .inl (aI bf_)))] s_.heap := hP_
  generalize hQe : MQ below (vp_Si (fun r_ => r_ = iI (bZ (decide (0 ≤ x_ ∧ x_ < ((nn_ : Nat) : Int)))))) args s_ 0 0 (fun _ => False) = Q_
  rw [show entryFrame m_ args 2 = entryFrame m_ ([.ref (am_ 0), .int (iI (x_))] : List Value).toArray 2 from by rw [hargs], lg_entry_eq]
  have hl_ := lv_entry ([.ref (am_ 0), .int (iI (x_))]) (n := 2) (Nat.le_of_ble_eq_true rfl)
  generalize (lg_sl ([.ref (am_ 0), .int (iI (x_))]) ++ List.replicate (2 - (lg_sl ([.ref (am_ 0), .int (iI (x_))])).length) Slot.unset).toArray = ls_ at hl_ ⊢
  have hl_ : lv_has ls_ 2 [(0, .ref (am_ 0)), (1, .int (iI (x_)))] := hl_
  refine lv_iload_n hx_ hb_ dX5_isNew_0 rfl (lv_at hl_ 1 rfl) ?_
  refine lv_iconst (v := iI ((0 : Nat) : Int)) hx_ hb_ dX5_isNew_1 rfl ?_
  refine lv_aload_n hx_ hb_ dX5_isNew_2 rfl (lv_at hl_ 0 rfl) ?_
  refine va_get (D := G_) (ci := 5) (v := .int (iI ((nn_ : Nat) : Int))) (C := RX5) (T := TX5) (N := 19) hx_ hb_ hts hi5_ hown hK_ hP_ 0 rfl rfl 3 (by decide) hf57_ (fun _ h9 => h9) rfl dX5_isNew_3 ?_
  refine lv_iconst (v := iI ((1 : Nat) : Int)) hx_ hb_ dX5_isNew_6 rfl ?_
  refine q_isub hx_ hb_ dX5_isNew_7 ?_
  refine ro_S (As := [.int (iI (x_)), .int (iI ((0 : Nat) : Int)), .int (iI (((nn_ : Nat) : Int) - ((1 : Nat) : Int)))]) (rest := []) ⟨hx_, hb_, hml, hown, hts⟩ (c_X5_within l_ G_ cI cZ (x_) ((0 : Nat) : Int) (((nn_ : Nat) : Int) - ((1 : Nat) : Int)) (by omega) (by omega) (by omega) (by omega) (by omega) (by omega)) (va_cwS 3 hts gX5_isNew_X5_within rfl rfl rfl (by decide +kernel) ⟨Nat.le_of_ble_eq_true rfl, Nat.le_of_ble_eq_true rfl⟩) (hP_.sub (ws' := []) [] rfl) hK_ rfl hl_.1 rfl (Nat.le_of_ble_eq_true rfl) dX5_isNew_8 ⟨Nat.zero_le _, Nat.zero_le _⟩ ?_
  refine q_cast (b := (bZ (decide (0 ≤ x_ ∧ x_ < ((nn_ : Nat) : Int))))) (congrArg bZ (decide_eq_decide.mpr ⟨fun h0_ => by omega, fun h0_ => by omega⟩)) ?_
  rw [← hQe]
  exact W.zret (v := _) hx_ hb_ hr (nar_bZ _) (fun tt1 htt1 hWW1 => ⟨_, rfl, congrArg iI (congrArg bZ (rfl)), htt1⟩) (fun q_ h_ => absurd h_ List.not_mem_nil) dX5_isNew_11

set_option maxHeartbeats 4000000 in
set_option maxRecDepth 100000 in
/-- appendOld -/
theorem c_X5_appendOld (l_ : Launch) (G_ : va_G) (cI cZ : ClassId) (am_ : Nat → Nat) (bu_ : Bool) (no_ : Nat) (vo_ : Nat → Int) (fo_ : Nat → Bool) (nn_ : Nat) (vn_ : Nat → Int) (fn_ : Nat → Bool) (k_ : Nat) (osr nsr lnr : Nat → Nat) (ba_ : Nat → Int) (tk_ : Nat → Bool) (rt_ : Nat → Nat) (cp_ : Nat) (cd_ so_ : Nat → Nat) (me_ bf_ : Nat → Int) (x_ : Int) (t_ : Bool) (hn0 : no_ ≤ 48) (hx1 : -2147483648 ≤ x_) (hx2 : x_ < 2147483648) (sz : Nat) : WrI (S := Nat × (Nat → Int) × (Nat → Bool) × Bool) l_ yX5_appendOld wsX5_appendOld ({ frames := 1, cells := 0, slots := 0, locals := 22 }) G_ cI cZ [.ref (am_ 0), .int (iI (x_)), .int (iI (bZ t_))] (wMd cI cZ am_ bu_ no_ vo_ fo_ nn_ vn_ fn_ k_ osr nsr lnr ba_ tk_ rt_ cp_ cd_ so_ me_ bf_) sz (fun _ => apR no_ x_) (fun u_ => u_ = apS no_ vo_ fo_ bu_ x_ t_) (fun u_ => wMd cI cZ am_ u_.2.2.2 u_.1 u_.2.1 u_.2.2.1 nn_ vn_ fn_ k_ osr nsr lnr ba_ tk_ rt_ cp_ cd_ so_ me_ bf_) := by
  refine Met.ofW (cc := cX5_appendOld) (maxL := 3) (ret := (some .int)) (by decide) rfl ?_
  intro p_ e_ s_ m_ args below meth c_ s₁ B hml hv
  obtain ⟨hargs, hsz, hP_, hK_, hD0⟩ := hv
  have hx_ := B.exec
  have hb_ := B.bytes
  have hr := B.returns
  have hts := atoms_spec (ws := wsX5_appendOld) B.pre
  have hown : s_.vm.findClass RX5 = some m_.cls := findClass_of_methodNamed B.named
  have hlocks := B.notSynchronized
  have hi5_ : ∀ w_ ∈ wsX50, w_ ∈ wsX5_appendOld := by decide +kernel
  have hf7_ := hts (.fieldLink RX5 7 "RelocatingPatchModel" "oldValue" "[I") (by decide +kernel)
  have hf13_ := hts (.fieldLink RX5 13 "RelocatingPatchModel" "oldAddress" "[Z") (by decide +kernel)
  have hf53_ := hts (.fieldLink RX5 53 "RelocatingPatchModel" "isBuilt" "Z") (by decide +kernel)
  have hf65_ := hts (.fieldLink RX5 65 "RelocatingPatchModel" "olds" "I") (by decide +kernel)
  subst hsz
  have hD_ := hD0.self (sz := s_.heap.size)
  generalize hAe : va_A (wMd cI cZ am_ bu_ no_ vo_ fo_ nn_ vn_ fn_ k_ osr nsr lnr ba_ tk_ rt_ cp_ cd_ so_ me_ bf_) s_.heap.size = A_ at hD_ ⊢
  have hA_ : ∀ q_ : Nat, s_.heap.size ≤ q_ → A_ q_ := fun q_ h_ => by rw [← hAe]; exact Or.inr h_
  have hS_ : va_S A_ s_.heap s_.heap [] := va_S.rf
  have hP_ : va_P G_ vwCl [(am_ 0, .inr (5, [.int (iI ((no_ : Nat) : Int)), .ref (am_ 1), .ref (am_ 2), .int (iI ((nn_ : Nat) : Int)), .ref (am_ 3), .ref (am_ 4), .int (iI (bZ bu_)), .int (iI ((k_ : Nat) : Int)), .ref (am_ 5), .ref (am_ 6), .ref (am_ 7), .ref (am_ 8), .ref (am_ 9), .ref (am_ 10), .int (iI ((cp_ : Nat) : Int)), .ref (am_ 11), .ref (am_ 12), .ref (am_ 13), .ref (am_ 14)])), (am_ 1, .inl (cI, 48, .inl (aI vo_))), (am_ 2, .inl (cZ, 48, .inl (aB fo_))), (am_ 3, .inl (cI, 48, .inl (aI vn_))), (am_ 4, .inl (cZ, 48, .inl (aB fn_))), (am_ 5, .inl (cI, 48, .inl (aN osr))), (am_ 6, .inl (cI, 48, .inl (aN nsr))), (am_ 7, .inl (cI, 48, .inl (aN lnr))), (am_ 8, .inl (cI, 48, .inl (aI ba_))), (am_ 9, .inl (cZ, 48, .inl (aB tk_))), (am_ 10, .inl (cI, 2401, .inl (aN rt_))), (am_ 11, .inl (cI, 48, .inl (aN cd_))), (am_ 12, .inl (cI, 48, .inl (aN so_))), (am_ 13, .inl (cI, 48, .inl (aI me_))), (am_ 14, .inl (cI, 48, .inl (aI bf_)))] s_.heap := hP_
  have hD_ : va_D A_ [(am_ 0, .inr (5, [.int (iI ((no_ : Nat) : Int)), .ref (am_ 1), .ref (am_ 2), .int (iI ((nn_ : Nat) : Int)), .ref (am_ 3), .ref (am_ 4), .int (iI (bZ bu_)), .int (iI ((k_ : Nat) : Int)), .ref (am_ 5), .ref (am_ 6), .ref (am_ 7), .ref (am_ 8), .ref (am_ 9), .ref (am_ 10), .int (iI ((cp_ : Nat) : Int)), .ref (am_ 11), .ref (am_ 12), .ref (am_ 13), .ref (am_ 14)])), (am_ 1, .inl (cI, 48, .inl (aI vo_))), (am_ 2, .inl (cZ, 48, .inl (aB fo_))), (am_ 3, .inl (cI, 48, .inl (aI vn_))), (am_ 4, .inl (cZ, 48, .inl (aB fn_))), (am_ 5, .inl (cI, 48, .inl (aN osr))), (am_ 6, .inl (cI, 48, .inl (aN nsr))), (am_ 7, .inl (cI, 48, .inl (aN lnr))), (am_ 8, .inl (cI, 48, .inl (aI ba_))), (am_ 9, .inl (cZ, 48, .inl (aB tk_))), (am_ 10, .inl (cI, 2401, .inl (aN rt_))), (am_ 11, .inl (cI, 48, .inl (aN cd_))), (am_ 12, .inl (cI, 48, .inl (aN so_))), (am_ 13, .inl (cI, 48, .inl (aI me_))), (am_ 14, .inl (cI, 48, .inl (aI bf_)))] := hD_
  generalize hQe : MQ below (va_Qi (S := Nat × (Nat → Int) × (Nat → Bool) × Bool) (fun r1_ u1 => r1_ = iI ((fun _ => apR no_ x_) u1) ∧ (fun u_ => u_ = apS no_ vo_ fo_ bu_ x_ t_) u1) (fun u1 t1 => va_P G_ vwCl ((fun u_ => wMd cI cZ am_ u_.2.2.2 u_.1 u_.2.1 u_.2.2.1 nn_ vn_ fn_ k_ osr nsr lnr ba_ tk_ rt_ cp_ cd_ so_ me_ bf_) u1) t1.heap) A_) args s_ 0 0 A_ = Q_
  rw [show entryFrame m_ args 3 = entryFrame m_ ([.ref (am_ 0), .int (iI (x_)), .int (iI (bZ t_))] : List Value).toArray 3 from by rw [hargs], lg_entry_eq]
  have hl_ := lv_entry ([.ref (am_ 0), .int (iI (x_)), .int (iI (bZ t_))]) (n := 3) (Nat.le_of_ble_eq_true rfl)
  generalize (lg_sl ([.ref (am_ 0), .int (iI (x_)), .int (iI (bZ t_))]) ++ List.replicate (3 - (lg_sl ([.ref (am_ 0), .int (iI (x_)), .int (iI (bZ t_))])).length) Slot.unset).toArray = ls_ at hl_ ⊢
  have hl_ : lv_has ls_ 3 [(0, .ref (am_ 0)), (1, .int (iI (x_))), (2, .int (iI (bZ t_)))] := hl_
  refine lv_iload_n hx_ hb_ dX5_appendOld_0 rfl (lv_at hl_ 1 rfl) ?_
  refine lv_iconst (v := iI ((0 : Nat) : Int)) hx_ hb_ dX5_appendOld_1 rfl ?_
  refine lv_sipush (v := iI ((9999 : Nat) : Int)) hx_ hb_ dX5_appendOld_2 rfl ?_
  refine ro_S (As := [.int (iI (x_)), .int (iI ((0 : Nat) : Int)), .int (iI ((9999 : Nat) : Int))]) (rest := []) ⟨hx_, hb_, hml, hown, hts⟩ (c_X5_within l_ G_ cI cZ (x_) ((0 : Nat) : Int) ((9999 : Nat) : Int) (by omega) (by omega) (by omega) (by omega) (by omega) (by omega)) (va_cwS 3 hts gX5_appendOld_X5_within rfl rfl rfl (by decide +kernel) ⟨Nat.le_of_ble_eq_true rfl, Nat.le_of_ble_eq_true rfl⟩) (hP_.sub (ws' := []) [] rfl) hK_ rfl hl_.1 rfl (Nat.le_of_ble_eq_true rfl) dX5_appendOld_5 ⟨Nat.zero_le _, Nat.zero_le _⟩ ?_
  refine q_dt (tgt := 15) hx_ hb_ dX5_appendOld_8 (by decide) (fun c8_ => ?_) (fun c8_ => ?_)
  · skip
    refine lv_aload_n hx_ hb_ dX5_appendOld_15 rfl (lv_at hl_ 0 rfl) ?_
    refine va_get (D := G_) (ci := 5) (v := .int (iI ((no_ : Nat) : Int))) (C := RX5) (T := TX5) (N := 19) hx_ hb_ hts hi5_ hown hK_ hP_ 0 rfl rfl 0 (by decide) hf65_ (fun _ h9 => h9) rfl dX5_appendOld_16 ?_
    refine lv_bipush (v := iI ((48 : Nat) : Int)) hx_ hb_ dX5_appendOld_19 rfl ?_
    refine q_icmp_ne (tgt := 28) hx_ hb_ dX5_appendOld_21 (by decide) (⟨by omega, by omega⟩) (⟨by decide, by decide⟩) (fun c21_ => ?_) (fun c21_ => ?_)
    · skip
      refine lv_aload_n hx_ hb_ dX5_appendOld_28 rfl (lv_at hl_ 0 rfl) ?_
      refine va_get (D := G_) (ci := 5) (v := .ref (am_ 1)) (C := RX5) (T := TX5) (N := 19) hx_ hb_ hts hi5_ hown hK_ hP_ 0 rfl rfl 1 (by decide) hf7_ (fun _ h9 => h9) rfl dX5_appendOld_29 ?_
      refine lv_aload_n hx_ hb_ dX5_appendOld_32 rfl (lv_at hl_ 0 rfl) ?_
      refine va_get (D := G_) (ci := 5) (v := .int (iI ((no_ : Nat) : Int))) (C := RX5) (T := TX5) (N := 19) hx_ hb_ hts hi5_ hown hK_ hP_ 0 rfl rfl 0 (by decide) hf65_ (fun _ h9 => h9) rfl dX5_appendOld_33 ?_
      refine lv_iload_n hx_ hb_ dX5_appendOld_36 rfl (lv_at hl_ 1 rfl) ?_
      refine q_istI hx_ hb_ hK_ hP_ hD_ hS_ 1 rfl (by decide) (no_) (by omega) (x_) dX5_appendOld_37 (ws' := [(am_ 0, .inr (5, [.int (iI ((no_ : Nat) : Int)), .ref (am_ 1), .ref (am_ 2), .int (iI ((nn_ : Nat) : Int)), .ref (am_ 3), .ref (am_ 4), .int (iI (bZ bu_)), .int (iI ((k_ : Nat) : Int)), .ref (am_ 5), .ref (am_ 6), .ref (am_ 7), .ref (am_ 8), .ref (am_ 9), .ref (am_ 10), .int (iI ((cp_ : Nat) : Int)), .ref (am_ 11), .ref (am_ 12), .ref (am_ 13), .ref (am_ 14)])), (am_ 1, .inl (cI, 48, .inl (aI (va_up vo_ no_ x_)))), (am_ 2, .inl (cZ, 48, .inl (aB fo_))), (am_ 3, .inl (cI, 48, .inl (aI vn_))), (am_ 4, .inl (cZ, 48, .inl (aB fn_))), (am_ 5, .inl (cI, 48, .inl (aN osr))), (am_ 6, .inl (cI, 48, .inl (aN nsr))), (am_ 7, .inl (cI, 48, .inl (aN lnr))), (am_ 8, .inl (cI, 48, .inl (aI ba_))), (am_ 9, .inl (cZ, 48, .inl (aB tk_))), (am_ 10, .inl (cI, 2401, .inl (aN rt_))), (am_ 11, .inl (cI, 48, .inl (aN cd_))), (am_ 12, .inl (cI, 48, .inl (aN so_))), (am_ 13, .inl (cI, 48, .inl (aI me_))), (am_ 14, .inl (cI, 48, .inl (aI bf_)))]) rfl (fun H_ locs hP_ hD_ hS_ => ?_)
      refine lv_aload_n hx_ hb_ dX5_appendOld_38 rfl (lv_at hl_ 0 rfl) ?_
      refine va_get (D := G_) (ci := 5) (v := .ref (am_ 2)) (C := RX5) (T := TX5) (N := 19) hx_ hb_ hts hi5_ hown hK_ hP_ 0 rfl rfl 2 (by decide) hf13_ (fun _ h9 => h9) rfl dX5_appendOld_39 ?_
      refine lv_aload_n hx_ hb_ dX5_appendOld_42 rfl (lv_at hl_ 0 rfl) ?_
      refine va_get (D := G_) (ci := 5) (v := .int (iI ((no_ : Nat) : Int))) (C := RX5) (T := TX5) (N := 19) hx_ hb_ hts hi5_ hown hK_ hP_ 0 rfl rfl 0 (by decide) hf65_ (fun _ h9 => h9) rfl dX5_appendOld_43 ?_
      refine lv_iload_n hx_ hb_ dX5_appendOld_46 rfl (lv_at hl_ 2 rfl) ?_
      refine q_zst hx_ hb_ hK_ hP_ hD_ hS_ 2 rfl (by decide) (no_) (by omega) (t_) dX5_appendOld_47 (ws' := [(am_ 0, .inr (5, [.int (iI ((no_ : Nat) : Int)), .ref (am_ 1), .ref (am_ 2), .int (iI ((nn_ : Nat) : Int)), .ref (am_ 3), .ref (am_ 4), .int (iI (bZ bu_)), .int (iI ((k_ : Nat) : Int)), .ref (am_ 5), .ref (am_ 6), .ref (am_ 7), .ref (am_ 8), .ref (am_ 9), .ref (am_ 10), .int (iI ((cp_ : Nat) : Int)), .ref (am_ 11), .ref (am_ 12), .ref (am_ 13), .ref (am_ 14)])), (am_ 1, .inl (cI, 48, .inl (aI (va_up vo_ no_ x_)))), (am_ 2, .inl (cZ, 48, .inl (aB (va_up fo_ no_ t_)))), (am_ 3, .inl (cI, 48, .inl (aI vn_))), (am_ 4, .inl (cZ, 48, .inl (aB fn_))), (am_ 5, .inl (cI, 48, .inl (aN osr))), (am_ 6, .inl (cI, 48, .inl (aN nsr))), (am_ 7, .inl (cI, 48, .inl (aN lnr))), (am_ 8, .inl (cI, 48, .inl (aI ba_))), (am_ 9, .inl (cZ, 48, .inl (aB tk_))), (am_ 10, .inl (cI, 2401, .inl (aN rt_))), (am_ 11, .inl (cI, 48, .inl (aN cd_))), (am_ 12, .inl (cI, 48, .inl (aN so_))), (am_ 13, .inl (cI, 48, .inl (aI me_))), (am_ 14, .inl (cI, 48, .inl (aI bf_)))]) rfl (fun H_ locs hP_ hD_ hS_ => ?_)
      refine lv_aload_n hx_ hb_ dX5_appendOld_48 rfl (lv_at hl_ 0 rfl) ?_
      refine lv_dup hx_ hb_ dX5_appendOld_49 rfl ?_
      refine va_get (D := G_) (ci := 5) (v := .int (iI ((no_ : Nat) : Int))) (C := RX5) (T := TX5) (N := 19) hx_ hb_ hts hi5_ hown hK_ hP_ 0 rfl rfl 0 (by decide) hf65_ (fun _ h9 => h9) rfl dX5_appendOld_50 ?_
      refine lv_iconst (v := iI ((1 : Nat) : Int)) hx_ hb_ dX5_appendOld_53 rfl ?_
      refine q_iaddN hx_ hb_ dX5_appendOld_54 ?_
      refine va_put (D := G_) (ci := 5) (v := .int (iI ((no_ + 1 : Nat) : Int))) (ty := .int) (C := RX5) (T := TX5) (N := 19) hx_ hb_ hts hi5_ tyX5 tyX5_ok nmX5 hown hK_ hP_ hD_ hS_ 0 rfl rfl 0 (by decide) hf65_ (fun _ h9 => h9) rfl (by decide +kernel) rfl rfl (Nat.le_of_ble_eq_true rfl) dX5_appendOld_55 (fun H_ locs hP_ hD_ hS_ => ?_)
      have hP_ : va_P G_ vwCl [(am_ 0, .inr (5, [.int (iI ((no_ + 1 : Nat) : Int)), .ref (am_ 1), .ref (am_ 2), .int (iI ((nn_ : Nat) : Int)), .ref (am_ 3), .ref (am_ 4), .int (iI (bZ bu_)), .int (iI ((k_ : Nat) : Int)), .ref (am_ 5), .ref (am_ 6), .ref (am_ 7), .ref (am_ 8), .ref (am_ 9), .ref (am_ 10), .int (iI ((cp_ : Nat) : Int)), .ref (am_ 11), .ref (am_ 12), .ref (am_ 13), .ref (am_ 14)])), (am_ 1, .inl (cI, 48, .inl (aI (va_up vo_ no_ x_)))), (am_ 2, .inl (cZ, 48, .inl (aB (va_up fo_ no_ t_)))), (am_ 3, .inl (cI, 48, .inl (aI vn_))), (am_ 4, .inl (cZ, 48, .inl (aB fn_))), (am_ 5, .inl (cI, 48, .inl (aN osr))), (am_ 6, .inl (cI, 48, .inl (aN nsr))), (am_ 7, .inl (cI, 48, .inl (aN lnr))), (am_ 8, .inl (cI, 48, .inl (aI ba_))), (am_ 9, .inl (cZ, 48, .inl (aB tk_))), (am_ 10, .inl (cI, 2401, .inl (aN rt_))), (am_ 11, .inl (cI, 48, .inl (aN cd_))), (am_ 12, .inl (cI, 48, .inl (aN so_))), (am_ 13, .inl (cI, 48, .inl (aI me_))), (am_ 14, .inl (cI, 48, .inl (aI bf_)))] H_ := hP_
      have hD_ : va_D A_ [(am_ 0, .inr (5, [.int (iI ((no_ + 1 : Nat) : Int)), .ref (am_ 1), .ref (am_ 2), .int (iI ((nn_ : Nat) : Int)), .ref (am_ 3), .ref (am_ 4), .int (iI (bZ bu_)), .int (iI ((k_ : Nat) : Int)), .ref (am_ 5), .ref (am_ 6), .ref (am_ 7), .ref (am_ 8), .ref (am_ 9), .ref (am_ 10), .int (iI ((cp_ : Nat) : Int)), .ref (am_ 11), .ref (am_ 12), .ref (am_ 13), .ref (am_ 14)])), (am_ 1, .inl (cI, 48, .inl (aI (va_up vo_ no_ x_)))), (am_ 2, .inl (cZ, 48, .inl (aB (va_up fo_ no_ t_)))), (am_ 3, .inl (cI, 48, .inl (aI vn_))), (am_ 4, .inl (cZ, 48, .inl (aB fn_))), (am_ 5, .inl (cI, 48, .inl (aN osr))), (am_ 6, .inl (cI, 48, .inl (aN nsr))), (am_ 7, .inl (cI, 48, .inl (aN lnr))), (am_ 8, .inl (cI, 48, .inl (aI ba_))), (am_ 9, .inl (cZ, 48, .inl (aB tk_))), (am_ 10, .inl (cI, 2401, .inl (aN rt_))), (am_ 11, .inl (cI, 48, .inl (aN cd_))), (am_ 12, .inl (cI, 48, .inl (aN so_))), (am_ 13, .inl (cI, 48, .inl (aI me_))), (am_ 14, .inl (cI, 48, .inl (aI bf_)))] := hD_
      refine lv_aload_n hx_ hb_ dX5_appendOld_58 rfl (lv_at hl_ 0 rfl) ?_
      refine lv_iconst (v := iI ((0 : Nat) : Int)) hx_ hb_ dX5_appendOld_59 rfl ?_
      refine q_cast (b := bZ false) rfl ?_
      refine va_put (D := G_) (ci := 5) (v := .int (iI (bZ false))) (ty := .boolean) (C := RX5) (T := TX5) (N := 19) hx_ hb_ hts hi5_ tyX5 tyX5_ok nmX5 hown hK_ hP_ hD_ hS_ 0 rfl rfl 6 (by decide) hf53_ (fun _ h9 => h9) rfl (by decide +kernel) (nar_bZ _) (fit_bZ _) (Nat.le_of_ble_eq_true rfl) dX5_appendOld_60 (fun H_ locs hP_ hD_ hS_ => ?_)
      have hP_ : va_P G_ vwCl [(am_ 0, .inr (5, [.int (iI ((no_ + 1 : Nat) : Int)), .ref (am_ 1), .ref (am_ 2), .int (iI ((nn_ : Nat) : Int)), .ref (am_ 3), .ref (am_ 4), .int (iI (bZ false)), .int (iI ((k_ : Nat) : Int)), .ref (am_ 5), .ref (am_ 6), .ref (am_ 7), .ref (am_ 8), .ref (am_ 9), .ref (am_ 10), .int (iI ((cp_ : Nat) : Int)), .ref (am_ 11), .ref (am_ 12), .ref (am_ 13), .ref (am_ 14)])), (am_ 1, .inl (cI, 48, .inl (aI (va_up vo_ no_ x_)))), (am_ 2, .inl (cZ, 48, .inl (aB (va_up fo_ no_ t_)))), (am_ 3, .inl (cI, 48, .inl (aI vn_))), (am_ 4, .inl (cZ, 48, .inl (aB fn_))), (am_ 5, .inl (cI, 48, .inl (aN osr))), (am_ 6, .inl (cI, 48, .inl (aN nsr))), (am_ 7, .inl (cI, 48, .inl (aN lnr))), (am_ 8, .inl (cI, 48, .inl (aI ba_))), (am_ 9, .inl (cZ, 48, .inl (aB tk_))), (am_ 10, .inl (cI, 2401, .inl (aN rt_))), (am_ 11, .inl (cI, 48, .inl (aN cd_))), (am_ 12, .inl (cI, 48, .inl (aN so_))), (am_ 13, .inl (cI, 48, .inl (aI me_))), (am_ 14, .inl (cI, 48, .inl (aI bf_)))] H_ := hP_
      have hD_ : va_D A_ [(am_ 0, .inr (5, [.int (iI ((no_ + 1 : Nat) : Int)), .ref (am_ 1), .ref (am_ 2), .int (iI ((nn_ : Nat) : Int)), .ref (am_ 3), .ref (am_ 4), .int (iI (bZ false)), .int (iI ((k_ : Nat) : Int)), .ref (am_ 5), .ref (am_ 6), .ref (am_ 7), .ref (am_ 8), .ref (am_ 9), .ref (am_ 10), .int (iI ((cp_ : Nat) : Int)), .ref (am_ 11), .ref (am_ 12), .ref (am_ 13), .ref (am_ 14)])), (am_ 1, .inl (cI, 48, .inl (aI (va_up vo_ no_ x_)))), (am_ 2, .inl (cZ, 48, .inl (aB (va_up fo_ no_ t_)))), (am_ 3, .inl (cI, 48, .inl (aI vn_))), (am_ 4, .inl (cZ, 48, .inl (aB fn_))), (am_ 5, .inl (cI, 48, .inl (aN osr))), (am_ 6, .inl (cI, 48, .inl (aN nsr))), (am_ 7, .inl (cI, 48, .inl (aN lnr))), (am_ 8, .inl (cI, 48, .inl (aI ba_))), (am_ 9, .inl (cZ, 48, .inl (aB tk_))), (am_ 10, .inl (cI, 2401, .inl (aN rt_))), (am_ 11, .inl (cI, 48, .inl (aN cd_))), (am_ 12, .inl (cI, 48, .inl (aN so_))), (am_ 13, .inl (cI, 48, .inl (aI me_))), (am_ 14, .inl (cI, 48, .inl (aI bf_)))] := hD_
      refine lv_aload_n hx_ hb_ dX5_appendOld_63 rfl (lv_at hl_ 0 rfl) ?_
      refine va_get (D := G_) (ci := 5) (v := .int (iI ((no_ + 1 : Nat) : Int))) (C := RX5) (T := TX5) (N := 19) hx_ hb_ hts hi5_ hown hK_ hP_ 0 rfl rfl 0 (by decide) hf65_ (fun _ h9 => h9) rfl dX5_appendOld_64 ?_
      refine lv_iconst (v := iI ((1 : Nat) : Int)) hx_ hb_ dX5_appendOld_67 rfl ?_
      refine q_isub hx_ hb_ dX5_appendOld_68 ?_
      rw [← hQe]
      exact W.iret hx_ hb_ hr (fun tt1 htt1 hWW1 => ⟨⟨_, (no_ + 1, va_up vo_ no_ x_, va_up fo_ no_ t_, false), rfl, ⟨congrArg iI (by show _ = apR no_ x_; unfold apR; rw [if_pos (by omega), if_pos (by omega)]; omega), by unfold apS; rw [if_pos (by omega)]⟩, by show va_P G_ vwCl _ tt1.heap; rw [htt1]; exact hP_⟩, hS_.F htt1⟩) hS_.2.2 dX5_appendOld_69
    · skip
      refine lv_sipush (v := iI (-10002)) hx_ hb_ dX5_appendOld_24 rfl ?_
      rw [← hQe]
      exact W.iret hx_ hb_ hr (fun tt1 htt1 hWW1 => ⟨⟨_, (no_, vo_, fo_, bu_), rfl, ⟨congrArg iI (by show _ = apR no_ x_; unfold apR; rw [if_pos (by omega), if_neg (by omega)]), by unfold apS; rw [if_neg (by omega)]⟩, by show va_P G_ vwCl _ tt1.heap; rw [htt1]; exact hP_⟩, hS_.F htt1⟩) hS_.2.2 dX5_appendOld_27
  · skip
    refine lv_sipush (v := iI (-10001)) hx_ hb_ dX5_appendOld_11 rfl ?_
    rw [← hQe]
    exact W.iret hx_ hb_ hr (fun tt1 htt1 hWW1 => ⟨⟨_, (no_, vo_, fo_, bu_), rfl, ⟨congrArg iI (by show _ = apR no_ x_; unfold apR; rw [if_neg (by omega)]), by unfold apS; rw [if_neg (by omega)]⟩, by show va_P G_ vwCl _ tt1.heap; rw [htt1]; exact hP_⟩, hS_.F htt1⟩) hS_.2.2 dX5_appendOld_14

set_option maxHeartbeats 4000000 in
set_option maxRecDepth 100000 in
/-- appendNew -/
theorem c_X5_appendNew (l_ : Launch) (G_ : va_G) (cI cZ : ClassId) (am_ : Nat → Nat) (bu_ : Bool) (no_ : Nat) (vo_ : Nat → Int) (fo_ : Nat → Bool) (nn_ : Nat) (vn_ : Nat → Int) (fn_ : Nat → Bool) (k_ : Nat) (osr nsr lnr : Nat → Nat) (ba_ : Nat → Int) (tk_ : Nat → Bool) (rt_ : Nat → Nat) (cp_ : Nat) (cd_ so_ : Nat → Nat) (me_ bf_ : Nat → Int) (x_ : Int) (t_ : Bool) (hn0 : nn_ ≤ 48) (hx1 : -2147483648 ≤ x_) (hx2 : x_ < 2147483648) (sz : Nat) : WrI (S := Nat × (Nat → Int) × (Nat → Bool) × Bool) l_ yX5_appendNew wsX5_appendNew ({ frames := 1, cells := 0, slots := 0, locals := 22 }) G_ cI cZ [.ref (am_ 0), .int (iI (x_)), .int (iI (bZ t_))] (wMd cI cZ am_ bu_ no_ vo_ fo_ nn_ vn_ fn_ k_ osr nsr lnr ba_ tk_ rt_ cp_ cd_ so_ me_ bf_) sz (fun _ => apR nn_ x_) (fun u_ => u_ = apS nn_ vn_ fn_ bu_ x_ t_) (fun u_ => wMd cI cZ am_ u_.2.2.2 no_ vo_ fo_ u_.1 u_.2.1 u_.2.2.1 k_ osr nsr lnr ba_ tk_ rt_ cp_ cd_ so_ me_ bf_) := by
  refine Met.ofW (cc := cX5_appendNew) (maxL := 3) (ret := (some .int)) (by decide) rfl ?_
  intro p_ e_ s_ m_ args below meth c_ s₁ B hml hv
  obtain ⟨hargs, hsz, hP_, hK_, hD0⟩ := hv
  have hx_ := B.exec
  have hb_ := B.bytes
  have hr := B.returns
  have hts := atoms_spec (ws := wsX5_appendNew) B.pre
  have hown : s_.vm.findClass RX5 = some m_.cls := findClass_of_methodNamed B.named
  have hlocks := B.notSynchronized
  have hi5_ : ∀ w_ ∈ wsX50, w_ ∈ wsX5_appendNew := by decide +kernel
  have hf17_ := hts (.fieldLink RX5 17 "RelocatingPatchModel" "newValues" "[I") (by decide +kernel)
  have hf20_ := hts (.fieldLink RX5 20 "RelocatingPatchModel" "newAddress" "[Z") (by decide +kernel)
  have hf53_ := hts (.fieldLink RX5 53 "RelocatingPatchModel" "isBuilt" "Z") (by decide +kernel)
  have hf57_ := hts (.fieldLink RX5 57 "RelocatingPatchModel" "news" "I") (by decide +kernel)
  subst hsz
  have hD_ := hD0.self (sz := s_.heap.size)
  generalize hAe : va_A (wMd cI cZ am_ bu_ no_ vo_ fo_ nn_ vn_ fn_ k_ osr nsr lnr ba_ tk_ rt_ cp_ cd_ so_ me_ bf_) s_.heap.size = A_ at hD_ ⊢
  have hA_ : ∀ q_ : Nat, s_.heap.size ≤ q_ → A_ q_ := fun q_ h_ => by rw [← hAe]; exact Or.inr h_
  have hS_ : va_S A_ s_.heap s_.heap [] := va_S.rf
  have hP_ : va_P G_ vwCl [(am_ 0, .inr (5, [.int (iI ((no_ : Nat) : Int)), .ref (am_ 1), .ref (am_ 2), .int (iI ((nn_ : Nat) : Int)), .ref (am_ 3), .ref (am_ 4), .int (iI (bZ bu_)), .int (iI ((k_ : Nat) : Int)), .ref (am_ 5), .ref (am_ 6), .ref (am_ 7), .ref (am_ 8), .ref (am_ 9), .ref (am_ 10), .int (iI ((cp_ : Nat) : Int)), .ref (am_ 11), .ref (am_ 12), .ref (am_ 13), .ref (am_ 14)])), (am_ 1, .inl (cI, 48, .inl (aI vo_))), (am_ 2, .inl (cZ, 48, .inl (aB fo_))), (am_ 3, .inl (cI, 48, .inl (aI vn_))), (am_ 4, .inl (cZ, 48, .inl (aB fn_))), (am_ 5, .inl (cI, 48, .inl (aN osr))), (am_ 6, .inl (cI, 48, .inl (aN nsr))), (am_ 7, .inl (cI, 48, .inl (aN lnr))), (am_ 8, .inl (cI, 48, .inl (aI ba_))), (am_ 9, .inl (cZ, 48, .inl (aB tk_))), (am_ 10, .inl (cI, 2401, .inl (aN rt_))), (am_ 11, .inl (cI, 48, .inl (aN cd_))), (am_ 12, .inl (cI, 48, .inl (aN so_))), (am_ 13, .inl (cI, 48, .inl (aI me_))), (am_ 14, .inl (cI, 48, .inl (aI bf_)))] s_.heap := hP_
  have hD_ : va_D A_ [(am_ 0, .inr (5, [.int (iI ((no_ : Nat) : Int)), .ref (am_ 1), .ref (am_ 2), .int (iI ((nn_ : Nat) : Int)), .ref (am_ 3), .ref (am_ 4), .int (iI (bZ bu_)), .int (iI ((k_ : Nat) : Int)), .ref (am_ 5), .ref (am_ 6), .ref (am_ 7), .ref (am_ 8), .ref (am_ 9), .ref (am_ 10), .int (iI ((cp_ : Nat) : Int)), .ref (am_ 11), .ref (am_ 12), .ref (am_ 13), .ref (am_ 14)])), (am_ 1, .inl (cI, 48, .inl (aI vo_))), (am_ 2, .inl (cZ, 48, .inl (aB fo_))), (am_ 3, .inl (cI, 48, .inl (aI vn_))), (am_ 4, .inl (cZ, 48, .inl (aB fn_))), (am_ 5, .inl (cI, 48, .inl (aN osr))), (am_ 6, .inl (cI, 48, .inl (aN nsr))), (am_ 7, .inl (cI, 48, .inl (aN lnr))), (am_ 8, .inl (cI, 48, .inl (aI ba_))), (am_ 9, .inl (cZ, 48, .inl (aB tk_))), (am_ 10, .inl (cI, 2401, .inl (aN rt_))), (am_ 11, .inl (cI, 48, .inl (aN cd_))), (am_ 12, .inl (cI, 48, .inl (aN so_))), (am_ 13, .inl (cI, 48, .inl (aI me_))), (am_ 14, .inl (cI, 48, .inl (aI bf_)))] := hD_
  generalize hQe : MQ below (va_Qi (S := Nat × (Nat → Int) × (Nat → Bool) × Bool) (fun r1_ u1 => r1_ = iI ((fun _ => apR nn_ x_) u1) ∧ (fun u_ => u_ = apS nn_ vn_ fn_ bu_ x_ t_) u1) (fun u1 t1 => va_P G_ vwCl ((fun u_ => wMd cI cZ am_ u_.2.2.2 no_ vo_ fo_ u_.1 u_.2.1 u_.2.2.1 k_ osr nsr lnr ba_ tk_ rt_ cp_ cd_ so_ me_ bf_) u1) t1.heap) A_) args s_ 0 0 A_ = Q_
  rw [show entryFrame m_ args 3 = entryFrame m_ ([.ref (am_ 0), .int (iI (x_)), .int (iI (bZ t_))] : List Value).toArray 3 from by rw [hargs], lg_entry_eq]
  have hl_ := lv_entry ([.ref (am_ 0), .int (iI (x_)), .int (iI (bZ t_))]) (n := 3) (Nat.le_of_ble_eq_true rfl)
  generalize (lg_sl ([.ref (am_ 0), .int (iI (x_)), .int (iI (bZ t_))]) ++ List.replicate (3 - (lg_sl ([.ref (am_ 0), .int (iI (x_)), .int (iI (bZ t_))])).length) Slot.unset).toArray = ls_ at hl_ ⊢
  have hl_ : lv_has ls_ 3 [(0, .ref (am_ 0)), (1, .int (iI (x_))), (2, .int (iI (bZ t_)))] := hl_
  refine lv_iload_n hx_ hb_ dX5_appendNew_0 rfl (lv_at hl_ 1 rfl) ?_
  refine lv_iconst (v := iI ((0 : Nat) : Int)) hx_ hb_ dX5_appendNew_1 rfl ?_
  refine lv_sipush (v := iI ((9999 : Nat) : Int)) hx_ hb_ dX5_appendNew_2 rfl ?_
  refine ro_S (As := [.int (iI (x_)), .int (iI ((0 : Nat) : Int)), .int (iI ((9999 : Nat) : Int))]) (rest := []) ⟨hx_, hb_, hml, hown, hts⟩ (c_X5_within l_ G_ cI cZ (x_) ((0 : Nat) : Int) ((9999 : Nat) : Int) (by omega) (by omega) (by omega) (by omega) (by omega) (by omega)) (va_cwS 3 hts gX5_appendNew_X5_within rfl rfl rfl (by decide +kernel) ⟨Nat.le_of_ble_eq_true rfl, Nat.le_of_ble_eq_true rfl⟩) (hP_.sub (ws' := []) [] rfl) hK_ rfl hl_.1 rfl (Nat.le_of_ble_eq_true rfl) dX5_appendNew_5 ⟨Nat.zero_le _, Nat.zero_le _⟩ ?_
  refine q_dt (tgt := 15) hx_ hb_ dX5_appendNew_8 (by decide) (fun c8_ => ?_) (fun c8_ => ?_)
  · skip
    refine lv_aload_n hx_ hb_ dX5_appendNew_15 rfl (lv_at hl_ 0 rfl) ?_
    refine va_get (D := G_) (ci := 5) (v := .int (iI ((nn_ : Nat) : Int))) (C := RX5) (T := TX5) (N := 19) hx_ hb_ hts hi5_ hown hK_ hP_ 0 rfl rfl 3 (by decide) hf57_ (fun _ h9 => h9) rfl dX5_appendNew_16 ?_
    refine lv_bipush (v := iI ((48 : Nat) : Int)) hx_ hb_ dX5_appendNew_19 rfl ?_
    refine q_icmp_ne (tgt := 28) hx_ hb_ dX5_appendNew_21 (by decide) (⟨by omega, by omega⟩) (⟨by decide, by decide⟩) (fun c21_ => ?_) (fun c21_ => ?_)
    · skip
      refine lv_aload_n hx_ hb_ dX5_appendNew_28 rfl (lv_at hl_ 0 rfl) ?_
      refine va_get (D := G_) (ci := 5) (v := .ref (am_ 3)) (C := RX5) (T := TX5) (N := 19) hx_ hb_ hts hi5_ hown hK_ hP_ 0 rfl rfl 4 (by decide) hf17_ (fun _ h9 => h9) rfl dX5_appendNew_29 ?_
      refine lv_aload_n hx_ hb_ dX5_appendNew_32 rfl (lv_at hl_ 0 rfl) ?_
      refine va_get (D := G_) (ci := 5) (v := .int (iI ((nn_ : Nat) : Int))) (C := RX5) (T := TX5) (N := 19) hx_ hb_ hts hi5_ hown hK_ hP_ 0 rfl rfl 3 (by decide) hf57_ (fun _ h9 => h9) rfl dX5_appendNew_33 ?_
      refine lv_iload_n hx_ hb_ dX5_appendNew_36 rfl (lv_at hl_ 1 rfl) ?_
      refine q_istI hx_ hb_ hK_ hP_ hD_ hS_ 3 rfl (by decide) (nn_) (by omega) (x_) dX5_appendNew_37 (ws' := [(am_ 0, .inr (5, [.int (iI ((no_ : Nat) : Int)), .ref (am_ 1), .ref (am_ 2), .int (iI ((nn_ : Nat) : Int)), .ref (am_ 3), .ref (am_ 4), .int (iI (bZ bu_)), .int (iI ((k_ : Nat) : Int)), .ref (am_ 5), .ref (am_ 6), .ref (am_ 7), .ref (am_ 8), .ref (am_ 9), .ref (am_ 10), .int (iI ((cp_ : Nat) : Int)), .ref (am_ 11), .ref (am_ 12), .ref (am_ 13), .ref (am_ 14)])), (am_ 1, .inl (cI, 48, .inl (aI vo_))), (am_ 2, .inl (cZ, 48, .inl (aB fo_))), (am_ 3, .inl (cI, 48, .inl (aI (va_up vn_ nn_ x_)))), (am_ 4, .inl (cZ, 48, .inl (aB fn_))), (am_ 5, .inl (cI, 48, .inl (aN osr))), (am_ 6, .inl (cI, 48, .inl (aN nsr))), (am_ 7, .inl (cI, 48, .inl (aN lnr))), (am_ 8, .inl (cI, 48, .inl (aI ba_))), (am_ 9, .inl (cZ, 48, .inl (aB tk_))), (am_ 10, .inl (cI, 2401, .inl (aN rt_))), (am_ 11, .inl (cI, 48, .inl (aN cd_))), (am_ 12, .inl (cI, 48, .inl (aN so_))), (am_ 13, .inl (cI, 48, .inl (aI me_))), (am_ 14, .inl (cI, 48, .inl (aI bf_)))]) rfl (fun H_ locs hP_ hD_ hS_ => ?_)
      refine lv_aload_n hx_ hb_ dX5_appendNew_38 rfl (lv_at hl_ 0 rfl) ?_
      refine va_get (D := G_) (ci := 5) (v := .ref (am_ 4)) (C := RX5) (T := TX5) (N := 19) hx_ hb_ hts hi5_ hown hK_ hP_ 0 rfl rfl 5 (by decide) hf20_ (fun _ h9 => h9) rfl dX5_appendNew_39 ?_
      refine lv_aload_n hx_ hb_ dX5_appendNew_42 rfl (lv_at hl_ 0 rfl) ?_
      refine va_get (D := G_) (ci := 5) (v := .int (iI ((nn_ : Nat) : Int))) (C := RX5) (T := TX5) (N := 19) hx_ hb_ hts hi5_ hown hK_ hP_ 0 rfl rfl 3 (by decide) hf57_ (fun _ h9 => h9) rfl dX5_appendNew_43 ?_
      refine lv_iload_n hx_ hb_ dX5_appendNew_46 rfl (lv_at hl_ 2 rfl) ?_
      refine q_zst hx_ hb_ hK_ hP_ hD_ hS_ 4 rfl (by decide) (nn_) (by omega) (t_) dX5_appendNew_47 (ws' := [(am_ 0, .inr (5, [.int (iI ((no_ : Nat) : Int)), .ref (am_ 1), .ref (am_ 2), .int (iI ((nn_ : Nat) : Int)), .ref (am_ 3), .ref (am_ 4), .int (iI (bZ bu_)), .int (iI ((k_ : Nat) : Int)), .ref (am_ 5), .ref (am_ 6), .ref (am_ 7), .ref (am_ 8), .ref (am_ 9), .ref (am_ 10), .int (iI ((cp_ : Nat) : Int)), .ref (am_ 11), .ref (am_ 12), .ref (am_ 13), .ref (am_ 14)])), (am_ 1, .inl (cI, 48, .inl (aI vo_))), (am_ 2, .inl (cZ, 48, .inl (aB fo_))), (am_ 3, .inl (cI, 48, .inl (aI (va_up vn_ nn_ x_)))), (am_ 4, .inl (cZ, 48, .inl (aB (va_up fn_ nn_ t_)))), (am_ 5, .inl (cI, 48, .inl (aN osr))), (am_ 6, .inl (cI, 48, .inl (aN nsr))), (am_ 7, .inl (cI, 48, .inl (aN lnr))), (am_ 8, .inl (cI, 48, .inl (aI ba_))), (am_ 9, .inl (cZ, 48, .inl (aB tk_))), (am_ 10, .inl (cI, 2401, .inl (aN rt_))), (am_ 11, .inl (cI, 48, .inl (aN cd_))), (am_ 12, .inl (cI, 48, .inl (aN so_))), (am_ 13, .inl (cI, 48, .inl (aI me_))), (am_ 14, .inl (cI, 48, .inl (aI bf_)))]) rfl (fun H_ locs hP_ hD_ hS_ => ?_)
      refine lv_aload_n hx_ hb_ dX5_appendNew_48 rfl (lv_at hl_ 0 rfl) ?_
      refine lv_dup hx_ hb_ dX5_appendNew_49 rfl ?_
      refine va_get (D := G_) (ci := 5) (v := .int (iI ((nn_ : Nat) : Int))) (C := RX5) (T := TX5) (N := 19) hx_ hb_ hts hi5_ hown hK_ hP_ 0 rfl rfl 3 (by decide) hf57_ (fun _ h9 => h9) rfl dX5_appendNew_50 ?_
      refine lv_iconst (v := iI ((1 : Nat) : Int)) hx_ hb_ dX5_appendNew_53 rfl ?_
      refine q_iaddN hx_ hb_ dX5_appendNew_54 ?_
      refine va_put (D := G_) (ci := 5) (v := .int (iI ((nn_ + 1 : Nat) : Int))) (ty := .int) (C := RX5) (T := TX5) (N := 19) hx_ hb_ hts hi5_ tyX5 tyX5_ok nmX5 hown hK_ hP_ hD_ hS_ 0 rfl rfl 3 (by decide) hf57_ (fun _ h9 => h9) rfl (by decide +kernel) rfl rfl (Nat.le_of_ble_eq_true rfl) dX5_appendNew_55 (fun H_ locs hP_ hD_ hS_ => ?_)
      have hP_ : va_P G_ vwCl [(am_ 0, .inr (5, [.int (iI ((no_ : Nat) : Int)), .ref (am_ 1), .ref (am_ 2), .int (iI ((nn_ + 1 : Nat) : Int)), .ref (am_ 3), .ref (am_ 4), .int (iI (bZ bu_)), .int (iI ((k_ : Nat) : Int)), .ref (am_ 5), .ref (am_ 6), .ref (am_ 7), .ref (am_ 8), .ref (am_ 9), .ref (am_ 10), .int (iI ((cp_ : Nat) : Int)), .ref (am_ 11), .ref (am_ 12), .ref (am_ 13), .ref (am_ 14)])), (am_ 1, .inl (cI, 48, .inl (aI vo_))), (am_ 2, .inl (cZ, 48, .inl (aB fo_))), (am_ 3, .inl (cI, 48, .inl (aI (va_up vn_ nn_ x_)))), (am_ 4, .inl (cZ, 48, .inl (aB (va_up fn_ nn_ t_)))), (am_ 5, .inl (cI, 48, .inl (aN osr))), (am_ 6, .inl (cI, 48, .inl (aN nsr))), (am_ 7, .inl (cI, 48, .inl (aN lnr))), (am_ 8, .inl (cI, 48, .inl (aI ba_))), (am_ 9, .inl (cZ, 48, .inl (aB tk_))), (am_ 10, .inl (cI, 2401, .inl (aN rt_))), (am_ 11, .inl (cI, 48, .inl (aN cd_))), (am_ 12, .inl (cI, 48, .inl (aN so_))), (am_ 13, .inl (cI, 48, .inl (aI me_))), (am_ 14, .inl (cI, 48, .inl (aI bf_)))] H_ := hP_
      have hD_ : va_D A_ [(am_ 0, .inr (5, [.int (iI ((no_ : Nat) : Int)), .ref (am_ 1), .ref (am_ 2), .int (iI ((nn_ + 1 : Nat) : Int)), .ref (am_ 3), .ref (am_ 4), .int (iI (bZ bu_)), .int (iI ((k_ : Nat) : Int)), .ref (am_ 5), .ref (am_ 6), .ref (am_ 7), .ref (am_ 8), .ref (am_ 9), .ref (am_ 10), .int (iI ((cp_ : Nat) : Int)), .ref (am_ 11), .ref (am_ 12), .ref (am_ 13), .ref (am_ 14)])), (am_ 1, .inl (cI, 48, .inl (aI vo_))), (am_ 2, .inl (cZ, 48, .inl (aB fo_))), (am_ 3, .inl (cI, 48, .inl (aI (va_up vn_ nn_ x_)))), (am_ 4, .inl (cZ, 48, .inl (aB (va_up fn_ nn_ t_)))), (am_ 5, .inl (cI, 48, .inl (aN osr))), (am_ 6, .inl (cI, 48, .inl (aN nsr))), (am_ 7, .inl (cI, 48, .inl (aN lnr))), (am_ 8, .inl (cI, 48, .inl (aI ba_))), (am_ 9, .inl (cZ, 48, .inl (aB tk_))), (am_ 10, .inl (cI, 2401, .inl (aN rt_))), (am_ 11, .inl (cI, 48, .inl (aN cd_))), (am_ 12, .inl (cI, 48, .inl (aN so_))), (am_ 13, .inl (cI, 48, .inl (aI me_))), (am_ 14, .inl (cI, 48, .inl (aI bf_)))] := hD_
      refine lv_aload_n hx_ hb_ dX5_appendNew_58 rfl (lv_at hl_ 0 rfl) ?_
      refine lv_iconst (v := iI ((0 : Nat) : Int)) hx_ hb_ dX5_appendNew_59 rfl ?_
      refine q_cast (b := bZ false) rfl ?_
      refine va_put (D := G_) (ci := 5) (v := .int (iI (bZ false))) (ty := .boolean) (C := RX5) (T := TX5) (N := 19) hx_ hb_ hts hi5_ tyX5 tyX5_ok nmX5 hown hK_ hP_ hD_ hS_ 0 rfl rfl 6 (by decide) hf53_ (fun _ h9 => h9) rfl (by decide +kernel) (nar_bZ _) (fit_bZ _) (Nat.le_of_ble_eq_true rfl) dX5_appendNew_60 (fun H_ locs hP_ hD_ hS_ => ?_)
      have hP_ : va_P G_ vwCl [(am_ 0, .inr (5, [.int (iI ((no_ : Nat) : Int)), .ref (am_ 1), .ref (am_ 2), .int (iI ((nn_ + 1 : Nat) : Int)), .ref (am_ 3), .ref (am_ 4), .int (iI (bZ false)), .int (iI ((k_ : Nat) : Int)), .ref (am_ 5), .ref (am_ 6), .ref (am_ 7), .ref (am_ 8), .ref (am_ 9), .ref (am_ 10), .int (iI ((cp_ : Nat) : Int)), .ref (am_ 11), .ref (am_ 12), .ref (am_ 13), .ref (am_ 14)])), (am_ 1, .inl (cI, 48, .inl (aI vo_))), (am_ 2, .inl (cZ, 48, .inl (aB fo_))), (am_ 3, .inl (cI, 48, .inl (aI (va_up vn_ nn_ x_)))), (am_ 4, .inl (cZ, 48, .inl (aB (va_up fn_ nn_ t_)))), (am_ 5, .inl (cI, 48, .inl (aN osr))), (am_ 6, .inl (cI, 48, .inl (aN nsr))), (am_ 7, .inl (cI, 48, .inl (aN lnr))), (am_ 8, .inl (cI, 48, .inl (aI ba_))), (am_ 9, .inl (cZ, 48, .inl (aB tk_))), (am_ 10, .inl (cI, 2401, .inl (aN rt_))), (am_ 11, .inl (cI, 48, .inl (aN cd_))), (am_ 12, .inl (cI, 48, .inl (aN so_))), (am_ 13, .inl (cI, 48, .inl (aI me_))), (am_ 14, .inl (cI, 48, .inl (aI bf_)))] H_ := hP_
      have hD_ : va_D A_ [(am_ 0, .inr (5, [.int (iI ((no_ : Nat) : Int)), .ref (am_ 1), .ref (am_ 2), .int (iI ((nn_ + 1 : Nat) : Int)), .ref (am_ 3), .ref (am_ 4), .int (iI (bZ false)), .int (iI ((k_ : Nat) : Int)), .ref (am_ 5), .ref (am_ 6), .ref (am_ 7), .ref (am_ 8), .ref (am_ 9), .ref (am_ 10), .int (iI ((cp_ : Nat) : Int)), .ref (am_ 11), .ref (am_ 12), .ref (am_ 13), .ref (am_ 14)])), (am_ 1, .inl (cI, 48, .inl (aI vo_))), (am_ 2, .inl (cZ, 48, .inl (aB fo_))), (am_ 3, .inl (cI, 48, .inl (aI (va_up vn_ nn_ x_)))), (am_ 4, .inl (cZ, 48, .inl (aB (va_up fn_ nn_ t_)))), (am_ 5, .inl (cI, 48, .inl (aN osr))), (am_ 6, .inl (cI, 48, .inl (aN nsr))), (am_ 7, .inl (cI, 48, .inl (aN lnr))), (am_ 8, .inl (cI, 48, .inl (aI ba_))), (am_ 9, .inl (cZ, 48, .inl (aB tk_))), (am_ 10, .inl (cI, 2401, .inl (aN rt_))), (am_ 11, .inl (cI, 48, .inl (aN cd_))), (am_ 12, .inl (cI, 48, .inl (aN so_))), (am_ 13, .inl (cI, 48, .inl (aI me_))), (am_ 14, .inl (cI, 48, .inl (aI bf_)))] := hD_
      refine lv_aload_n hx_ hb_ dX5_appendNew_63 rfl (lv_at hl_ 0 rfl) ?_
      refine va_get (D := G_) (ci := 5) (v := .int (iI ((nn_ + 1 : Nat) : Int))) (C := RX5) (T := TX5) (N := 19) hx_ hb_ hts hi5_ hown hK_ hP_ 0 rfl rfl 3 (by decide) hf57_ (fun _ h9 => h9) rfl dX5_appendNew_64 ?_
      refine lv_iconst (v := iI ((1 : Nat) : Int)) hx_ hb_ dX5_appendNew_67 rfl ?_
      refine q_isub hx_ hb_ dX5_appendNew_68 ?_
      rw [← hQe]
      exact W.iret hx_ hb_ hr (fun tt1 htt1 hWW1 => ⟨⟨_, (nn_ + 1, va_up vn_ nn_ x_, va_up fn_ nn_ t_, false), rfl, ⟨congrArg iI (by show _ = apR nn_ x_; unfold apR; rw [if_pos (by omega), if_pos (by omega)]; omega), by unfold apS; rw [if_pos (by omega)]⟩, by show va_P G_ vwCl _ tt1.heap; rw [htt1]; exact hP_⟩, hS_.F htt1⟩) hS_.2.2 dX5_appendNew_69
    · skip
      refine lv_sipush (v := iI (-10002)) hx_ hb_ dX5_appendNew_24 rfl ?_
      rw [← hQe]
      exact W.iret hx_ hb_ hr (fun tt1 htt1 hWW1 => ⟨⟨_, (nn_, vn_, fn_, bu_), rfl, ⟨congrArg iI (by show _ = apR nn_ x_; unfold apR; rw [if_pos (by omega), if_neg (by omega)]), by unfold apS; rw [if_neg (by omega)]⟩, by show va_P G_ vwCl _ tt1.heap; rw [htt1]; exact hP_⟩, hS_.F htt1⟩) hS_.2.2 dX5_appendNew_27
  · skip
    refine lv_sipush (v := iI (-10001)) hx_ hb_ dX5_appendNew_11 rfl ?_
    rw [← hQe]
    exact W.iret hx_ hb_ hr (fun tt1 htt1 hWW1 => ⟨⟨_, (nn_, vn_, fn_, bu_), rfl, ⟨congrArg iI (by show _ = apR nn_ x_; unfold apR; rw [if_neg (by omega)]), by unfold apS; rw [if_neg (by omega)]⟩, by show va_P G_ vwCl _ tt1.heap; rw [htt1]; exact hP_⟩, hS_.F htt1⟩) hS_.2.2 dX5_appendNew_14

set_option maxHeartbeats 4000000 in
set_option maxRecDepth 100000 in
/-- setNew -/
theorem c_X5_setNew (l_ : Launch) (G_ : va_G) (cI cZ : ClassId) (am_ : Nat → Nat) (bu_ : Bool) (no_ : Nat) (vo_ : Nat → Int) (fo_ : Nat → Bool) (nn_ : Nat) (vn_ : Nat → Int) (fn_ : Nat → Bool) (k_ : Nat) (osr nsr lnr : Nat → Nat) (ba_ : Nat → Int) (tk_ : Nat → Bool) (rt_ : Nat → Nat) (cp_ : Nat) (cd_ so_ : Nat → Nat) (me_ bf_ : Nat → Int) (x_ y_ : Int) (hn0 : nn_ ≤ 48) (hx1 : -2147483648 ≤ x_) (hx2 : x_ < 2147483648) (hy1 : -2147483648 ≤ y_) (hy2 : y_ < 2147483648) (sz : Nat) : WrI (S := (Nat → Int) × Bool) l_ yX5_setNew wsX5_setNew ({ frames := 2, cells := 0, slots := 0, locals := 43 }) G_ cI cZ [.ref (am_ 0), .int (iI (x_)), .int (iI (y_))] (wMd cI cZ am_ bu_ no_ vo_ fo_ nn_ vn_ fn_ k_ osr nsr lnr ba_ tk_ rt_ cp_ cd_ so_ me_ bf_) sz (fun _ => snR nn_ vn_ x_ y_) (fun u_ => u_ = snS nn_ vn_ bu_ x_ y_) (fun u_ => wMd cI cZ am_ u_.2 no_ vo_ fo_ nn_ u_.1 fn_ k_ osr nsr lnr ba_ tk_ rt_ cp_ cd_ so_ me_ bf_) := by
  refine Met.ofW (cc := cX5_setNew) (maxL := 4) (ret := (some .int)) (by decide) rfl ?_
  intro p_ e_ s_ m_ args below meth c_ s₁ B hml hv
  obtain ⟨hargs, hsz, hP_, hK_, hD0⟩ := hv
  have hx_ := B.exec
  have hb_ := B.bytes
  have hr := B.returns
  have hts := atoms_spec (ws := wsX5_setNew) B.pre
  have hown : s_.vm.findClass RX5 = some m_.cls := findClass_of_methodNamed B.named
  have hlocks := B.notSynchronized
  have hi5_ : ∀ w_ ∈ wsX50, w_ ∈ wsX5_setNew := by decide +kernel
  have hf17_ := hts (.fieldLink RX5 17 "RelocatingPatchModel" "newValues" "[I") (by decide +kernel)
  have hf53_ := hts (.fieldLink RX5 53 "RelocatingPatchModel" "isBuilt" "Z") (by decide +kernel)
  subst hsz
  have hD_ := hD0.self (sz := s_.heap.size)
  generalize hAe : va_A (wMd cI cZ am_ bu_ no_ vo_ fo_ nn_ vn_ fn_ k_ osr nsr lnr ba_ tk_ rt_ cp_ cd_ so_ me_ bf_) s_.heap.size = A_ at hD_ ⊢
  have hA_ : ∀ q_ : Nat, s_.heap.size ≤ q_ → A_ q_ := fun q_ h_ => by rw [← hAe]; exact Or.inr h_
  have hS_ : va_S A_ s_.heap s_.heap [] := va_S.rf
  have hP_ : va_P G_ vwCl [(am_ 0, .inr (5, [.int (iI ((no_ : Nat) : Int)), .ref (am_ 1), .ref (am_ 2), .int (iI ((nn_ : Nat) : Int)), .ref (am_ 3), .ref (am_ 4), .int (iI (bZ bu_)), .int (iI ((k_ : Nat) : Int)), .ref (am_ 5), .ref (am_ 6), .ref (am_ 7), .ref (am_ 8), .ref (am_ 9), .ref (am_ 10), .int (iI ((cp_ : Nat) : Int)), .ref (am_ 11), .ref (am_ 12), .ref (am_ 13), .ref (am_ 14)])), (am_ 1, .inl (cI, 48, .inl (aI vo_))), (am_ 2, .inl (cZ, 48, .inl (aB fo_))), (am_ 3, .inl (cI, 48, .inl (aI vn_))), (am_ 4, .inl (cZ, 48, .inl (aB fn_))), (am_ 5, .inl (cI, 48, .inl (aN osr))), (am_ 6, .inl (cI, 48, .inl (aN nsr))), (am_ 7, .inl (cI, 48, .inl (aN lnr))), (am_ 8, .inl (cI, 48, .inl (aI ba_))), (am_ 9, .inl (cZ, 48, .inl (aB tk_))), (am_ 10, .inl (cI, 2401, .inl (aN rt_))), (am_ 11, .inl (cI, 48, .inl (aN cd_))), (am_ 12, .inl (cI, 48, .inl (aN so_))), (am_ 13, .inl (cI, 48, .inl (aI me_))), (am_ 14, .inl (cI, 48, .inl (aI bf_)))] s_.heap := hP_
  have hD_ : va_D A_ [(am_ 0, .inr (5, [.int (iI ((no_ : Nat) : Int)), .ref (am_ 1), .ref (am_ 2), .int (iI ((nn_ : Nat) : Int)), .ref (am_ 3), .ref (am_ 4), .int (iI (bZ bu_)), .int (iI ((k_ : Nat) : Int)), .ref (am_ 5), .ref (am_ 6), .ref (am_ 7), .ref (am_ 8), .ref (am_ 9), .ref (am_ 10), .int (iI ((cp_ : Nat) : Int)), .ref (am_ 11), .ref (am_ 12), .ref (am_ 13), .ref (am_ 14)])), (am_ 1, .inl (cI, 48, .inl (aI vo_))), (am_ 2, .inl (cZ, 48, .inl (aB fo_))), (am_ 3, .inl (cI, 48, .inl (aI vn_))), (am_ 4, .inl (cZ, 48, .inl (aB fn_))), (am_ 5, .inl (cI, 48, .inl (aN osr))), (am_ 6, .inl (cI, 48, .inl (aN nsr))), (am_ 7, .inl (cI, 48, .inl (aN lnr))), (am_ 8, .inl (cI, 48, .inl (aI ba_))), (am_ 9, .inl (cZ, 48, .inl (aB tk_))), (am_ 10, .inl (cI, 2401, .inl (aN rt_))), (am_ 11, .inl (cI, 48, .inl (aN cd_))), (am_ 12, .inl (cI, 48, .inl (aN so_))), (am_ 13, .inl (cI, 48, .inl (aI me_))), (am_ 14, .inl (cI, 48, .inl (aI bf_)))] := hD_
  generalize hQe : MQ below (va_Qi (S := (Nat → Int) × Bool) (fun r1_ u1 => r1_ = iI ((fun _ => snR nn_ vn_ x_ y_) u1) ∧ (fun u_ => u_ = snS nn_ vn_ bu_ x_ y_) u1) (fun u1 t1 => va_P G_ vwCl ((fun u_ => wMd cI cZ am_ u_.2 no_ vo_ fo_ nn_ u_.1 fn_ k_ osr nsr lnr ba_ tk_ rt_ cp_ cd_ so_ me_ bf_) u1) t1.heap) A_) args s_ 0 0 A_ = Q_
  rw [show entryFrame m_ args 4 = entryFrame m_ ([.ref (am_ 0), .int (iI (x_)), .int (iI (y_))] : List Value).toArray 4 from by rw [hargs], lg_entry_eq]
  have hl_ := lv_entry ([.ref (am_ 0), .int (iI (x_)), .int (iI (y_))]) (n := 4) (Nat.le_of_ble_eq_true rfl)
  generalize (lg_sl ([.ref (am_ 0), .int (iI (x_)), .int (iI (y_))]) ++ List.replicate (4 - (lg_sl ([.ref (am_ 0), .int (iI (x_)), .int (iI (y_))])).length) Slot.unset).toArray = ls_ at hl_ ⊢
  have hl_ : lv_has ls_ 4 [(0, .ref (am_ 0)), (1, .int (iI (x_))), (2, .int (iI (y_)))] := hl_
  refine lv_aload_n hx_ hb_ dX5_setNew_0 rfl (lv_at hl_ 0 rfl) ?_
  refine lv_iload_n hx_ hb_ dX5_setNew_1 rfl (lv_at hl_ 1 rfl) ?_
  refine ro_V (As := [.int (iI (x_))]) (rest := []) ⟨hx_, hb_, hml, hown, hts⟩ (c_X5_isNew l_ G_ cI cZ am_ bu_ no_ vo_ fo_ nn_ vn_ fn_ k_ osr nsr lnr ba_ tk_ rt_ cp_ cd_ so_ me_ bf_ (x_) (by omega) (by omega) (by omega)) (cwV 1 hts gX5_setNew_X5_isNew rfl rfl rfl (by decide +kernel) ⟨Nat.le_of_ble_eq_true rfl, Nat.le_of_ble_eq_true rfl⟩) (hP_.sub (ws' := [(am_ 0, .inr (5, [.int (iI ((no_ : Nat) : Int)), .ref (am_ 1), .ref (am_ 2), .int (iI ((nn_ : Nat) : Int)), .ref (am_ 3), .ref (am_ 4), .int (iI (bZ bu_)), .int (iI ((k_ : Nat) : Int)), .ref (am_ 5), .ref (am_ 6), .ref (am_ 7), .ref (am_ 8), .ref (am_ 9), .ref (am_ 10), .int (iI ((cp_ : Nat) : Int)), .ref (am_ 11), .ref (am_ 12), .ref (am_ 13), .ref (am_ 14)])), (am_ 1, .inl (cI, 48, .inl (aI vo_))), (am_ 2, .inl (cZ, 48, .inl (aB fo_))), (am_ 3, .inl (cI, 48, .inl (aI vn_))), (am_ 4, .inl (cZ, 48, .inl (aB fn_))), (am_ 5, .inl (cI, 48, .inl (aN osr))), (am_ 6, .inl (cI, 48, .inl (aN nsr))), (am_ 7, .inl (cI, 48, .inl (aN lnr))), (am_ 8, .inl (cI, 48, .inl (aI ba_))), (am_ 9, .inl (cZ, 48, .inl (aB tk_))), (am_ 10, .inl (cI, 2401, .inl (aN rt_))), (am_ 11, .inl (cI, 48, .inl (aN cd_))), (am_ 12, .inl (cI, 48, .inl (aN so_))), (am_ 13, .inl (cI, 48, .inl (aI me_))), (am_ 14, .inl (cI, 48, .inl (aI bf_)))]) [0, 1, 2, 3, 4, 5, 6, 7, 8, 9, 10, 11, 12, 13, 14] rfl) hK_ 0 rfl rfl rfl hl_.1 rfl (Nat.le_of_ble_eq_true rfl) dX5_setNew_2 ⟨Nat.zero_le _, Nat.zero_le _⟩ ?_
  refine q_dt (tgt := 12) hx_ hb_ dX5_setNew_5 (by decide) (fun c5_ => ?_) (fun c5_ => ?_)
  · skip
    refine lv_iload_n hx_ hb_ dX5_setNew_12 rfl (lv_at hl_ 2 rfl) ?_
    refine lv_iconst (v := iI ((0 : Nat) : Int)) hx_ hb_ dX5_setNew_13 rfl ?_
    refine lv_sipush (v := iI ((9999 : Nat) : Int)) hx_ hb_ dX5_setNew_14 rfl ?_
    refine ro_S (As := [.int (iI (y_)), .int (iI ((0 : Nat) : Int)), .int (iI ((9999 : Nat) : Int))]) (rest := []) ⟨hx_, hb_, hml, hown, hts⟩ (c_X5_within l_ G_ cI cZ (y_) ((0 : Nat) : Int) ((9999 : Nat) : Int) (by omega) (by omega) (by omega) (by omega) (by omega) (by omega)) (va_cwS 3 hts gX5_setNew_X5_within rfl rfl rfl (by decide +kernel) ⟨Nat.le_of_ble_eq_true rfl, Nat.le_of_ble_eq_true rfl⟩) (hP_.sub (ws' := []) [] rfl) hK_ rfl hl_.1 rfl (Nat.le_of_ble_eq_true rfl) dX5_setNew_17 ⟨Nat.zero_le _, Nat.zero_le _⟩ ?_
    refine q_dt (tgt := 27) hx_ hb_ dX5_setNew_20 (by decide) (fun c20_ => ?_) (fun c20_ => ?_)
    · skip
      refine lv_aload_n hx_ hb_ dX5_setNew_27 rfl (lv_at hl_ 0 rfl) ?_
      refine va_get (D := G_) (ci := 5) (v := .ref (am_ 3)) (C := RX5) (T := TX5) (N := 19) hx_ hb_ hts hi5_ hown hK_ hP_ 0 rfl rfl 4 (by decide) hf17_ (fun _ h9 => h9) rfl dX5_setNew_28 ?_
      refine lv_iload_n hx_ hb_ dX5_setNew_31 rfl (lv_at hl_ 1 rfl) ?_
      refine q_cast (b := ((x_.toNat : Nat) : Int)) (by omega) ?_
      refine q_ildI hx_ hb_ hK_ hP_ 3 rfl (by decide) (x_.toNat) (by omega) (vn_ x_.toNat) (rfl) dX5_setNew_32 ?_
      refine lv_istore_n (lv' := [(3, .int (iI (vn_ x_.toNat))), (0, .ref (am_ 0)), (1, .int (iI (x_))), (2, .int (iI (y_)))]) hx_ hb_ dX5_setNew_33 rfl hl_ (by decide) rfl (fun ls_ hl_ => ?_)
      refine lv_aload_n hx_ hb_ dX5_setNew_34 rfl (lv_at hl_ 1 rfl) ?_
      refine va_get (D := G_) (ci := 5) (v := .ref (am_ 3)) (C := RX5) (T := TX5) (N := 19) hx_ hb_ hts hi5_ hown hK_ hP_ 0 rfl rfl 4 (by decide) hf17_ (fun _ h9 => h9) rfl dX5_setNew_35 ?_
      refine lv_iload_n hx_ hb_ dX5_setNew_38 rfl (lv_at hl_ 2 rfl) ?_
      refine q_cast (b := ((x_.toNat : Nat) : Int)) (by omega) ?_
      refine lv_iload_n hx_ hb_ dX5_setNew_39 rfl (lv_at hl_ 3 rfl) ?_
      refine q_istI hx_ hb_ hK_ hP_ hD_ hS_ 3 rfl (by decide) (x_.toNat) (by omega) (y_) dX5_setNew_40 (ws' := [(am_ 0, .inr (5, [.int (iI ((no_ : Nat) : Int)), .ref (am_ 1), .ref (am_ 2), .int (iI ((nn_ : Nat) : Int)), .ref (am_ 3), .ref (am_ 4), .int (iI (bZ bu_)), .int (iI ((k_ : Nat) : Int)), .ref (am_ 5), .ref (am_ 6), .ref (am_ 7), .ref (am_ 8), .ref (am_ 9), .ref (am_ 10), .int (iI ((cp_ : Nat) : Int)), .ref (am_ 11), .ref (am_ 12), .ref (am_ 13), .ref (am_ 14)])), (am_ 1, .inl (cI, 48, .inl (aI vo_))), (am_ 2, .inl (cZ, 48, .inl (aB fo_))), (am_ 3, .inl (cI, 48, .inl (aI (va_up vn_ x_.toNat y_)))), (am_ 4, .inl (cZ, 48, .inl (aB fn_))), (am_ 5, .inl (cI, 48, .inl (aN osr))), (am_ 6, .inl (cI, 48, .inl (aN nsr))), (am_ 7, .inl (cI, 48, .inl (aN lnr))), (am_ 8, .inl (cI, 48, .inl (aI ba_))), (am_ 9, .inl (cZ, 48, .inl (aB tk_))), (am_ 10, .inl (cI, 2401, .inl (aN rt_))), (am_ 11, .inl (cI, 48, .inl (aN cd_))), (am_ 12, .inl (cI, 48, .inl (aN so_))), (am_ 13, .inl (cI, 48, .inl (aI me_))), (am_ 14, .inl (cI, 48, .inl (aI bf_)))]) rfl (fun H_ locs hP_ hD_ hS_ => ?_)
      refine lv_aload_n hx_ hb_ dX5_setNew_41 rfl (lv_at hl_ 1 rfl) ?_
      refine lv_iconst (v := iI ((0 : Nat) : Int)) hx_ hb_ dX5_setNew_42 rfl ?_
      refine q_cast (b := bZ false) rfl ?_
      refine va_put (D := G_) (ci := 5) (v := .int (iI (bZ false))) (ty := .boolean) (C := RX5) (T := TX5) (N := 19) hx_ hb_ hts hi5_ tyX5 tyX5_ok nmX5 hown hK_ hP_ hD_ hS_ 0 rfl rfl 6 (by decide) hf53_ (fun _ h9 => h9) rfl (by decide +kernel) (nar_bZ _) (fit_bZ _) (Nat.le_of_ble_eq_true rfl) dX5_setNew_43 (fun H_ locs hP_ hD_ hS_ => ?_)
      have hP_ : va_P G_ vwCl [(am_ 0, .inr (5, [.int (iI ((no_ : Nat) : Int)), .ref (am_ 1), .ref (am_ 2), .int (iI ((nn_ : Nat) : Int)), .ref (am_ 3), .ref (am_ 4), .int (iI (bZ false)), .int (iI ((k_ : Nat) : Int)), .ref (am_ 5), .ref (am_ 6), .ref (am_ 7), .ref (am_ 8), .ref (am_ 9), .ref (am_ 10), .int (iI ((cp_ : Nat) : Int)), .ref (am_ 11), .ref (am_ 12), .ref (am_ 13), .ref (am_ 14)])), (am_ 1, .inl (cI, 48, .inl (aI vo_))), (am_ 2, .inl (cZ, 48, .inl (aB fo_))), (am_ 3, .inl (cI, 48, .inl (aI (va_up vn_ x_.toNat y_)))), (am_ 4, .inl (cZ, 48, .inl (aB fn_))), (am_ 5, .inl (cI, 48, .inl (aN osr))), (am_ 6, .inl (cI, 48, .inl (aN nsr))), (am_ 7, .inl (cI, 48, .inl (aN lnr))), (am_ 8, .inl (cI, 48, .inl (aI ba_))), (am_ 9, .inl (cZ, 48, .inl (aB tk_))), (am_ 10, .inl (cI, 2401, .inl (aN rt_))), (am_ 11, .inl (cI, 48, .inl (aN cd_))), (am_ 12, .inl (cI, 48, .inl (aN so_))), (am_ 13, .inl (cI, 48, .inl (aI me_))), (am_ 14, .inl (cI, 48, .inl (aI bf_)))] H_ := hP_
      have hD_ : va_D A_ [(am_ 0, .inr (5, [.int (iI ((no_ : Nat) : Int)), .ref (am_ 1), .ref (am_ 2), .int (iI ((nn_ : Nat) : Int)), .ref (am_ 3), .ref (am_ 4), .int (iI (bZ false)), .int (iI ((k_ : Nat) : Int)), .ref (am_ 5), .ref (am_ 6), .ref (am_ 7), .ref (am_ 8), .ref (am_ 9), .ref (am_ 10), .int (iI ((cp_ : Nat) : Int)), .ref (am_ 11), .ref (am_ 12), .ref (am_ 13), .ref (am_ 14)])), (am_ 1, .inl (cI, 48, .inl (aI vo_))), (am_ 2, .inl (cZ, 48, .inl (aB fo_))), (am_ 3, .inl (cI, 48, .inl (aI (va_up vn_ x_.toNat y_)))), (am_ 4, .inl (cZ, 48, .inl (aB fn_))), (am_ 5, .inl (cI, 48, .inl (aN osr))), (am_ 6, .inl (cI, 48, .inl (aN nsr))), (am_ 7, .inl (cI, 48, .inl (aN lnr))), (am_ 8, .inl (cI, 48, .inl (aI ba_))), (am_ 9, .inl (cZ, 48, .inl (aB tk_))), (am_ 10, .inl (cI, 2401, .inl (aN rt_))), (am_ 11, .inl (cI, 48, .inl (aN cd_))), (am_ 12, .inl (cI, 48, .inl (aN so_))), (am_ 13, .inl (cI, 48, .inl (aI me_))), (am_ 14, .inl (cI, 48, .inl (aI bf_)))] := hD_
      refine lv_iload_n hx_ hb_ dX5_setNew_46 rfl (lv_at hl_ 0 rfl) ?_
      rw [← hQe]
      exact W.iret hx_ hb_ hr (fun tt1 htt1 hWW1 => ⟨⟨_, (va_up vn_ x_.toNat y_, false), rfl, ⟨congrArg iI (by show _ = snR nn_ vn_ x_ y_; unfold snR; rw [if_pos c5_, if_pos (by omega)]), by unfold snS; rw [if_pos (by omega)]⟩, by show va_P G_ vwCl _ tt1.heap; rw [htt1]; exact hP_⟩, hS_.F htt1⟩) hS_.2.2 dX5_setNew_47
    · skip
      refine lv_sipush (v := iI (-10001)) hx_ hb_ dX5_setNew_23 rfl ?_
      rw [← hQe]
      exact W.iret hx_ hb_ hr (fun tt1 htt1 hWW1 => ⟨⟨_, (vn_, bu_), rfl, ⟨congrArg iI (by show _ = snR nn_ vn_ x_ y_; unfold snR; rw [if_pos c5_, if_neg (by omega)]), by unfold snS; rw [if_neg (by omega)]⟩, by show va_P G_ vwCl _ tt1.heap; rw [htt1]; exact hP_⟩, hS_.F htt1⟩) hS_.2.2 dX5_setNew_26
  · skip
    refine lv_sipush (v := iI (-10003)) hx_ hb_ dX5_setNew_8 rfl ?_
    rw [← hQe]
    exact W.iret hx_ hb_ hr (fun tt1 htt1 hWW1 => ⟨⟨_, (vn_, bu_), rfl, ⟨congrArg iI (by show _ = snR nn_ vn_ x_ y_; unfold snR; rw [if_neg c5_]), by unfold snS; rw [if_neg (by omega)]⟩, by show va_P G_ vwCl _ tt1.heap; rw [htt1]; exact hP_⟩, hS_.F htt1⟩) hS_.2.2 dX5_setNew_11

set_option maxHeartbeats 4000000 in
set_option maxRecDepth 100000 in
/-- clear -/
theorem c_X5_clear (l_ : Launch) (G_ : va_G) (cI cZ : ClassId) (am_ : Nat → Nat) (bu_ : Bool) (no_ : Nat) (vo_ : Nat → Int) (fo_ : Nat → Bool) (nn_ : Nat) (vn_ : Nat → Int) (fn_ : Nat → Bool) (k_ : Nat) (osr nsr lnr : Nat → Nat) (ba_ : Nat → Int) (tk_ : Nat → Bool) (rt_ : Nat → Nat) (cp_ : Nat) (cd_ so_ : Nat → Nat) (me_ bf_ : Nat → Int) (sz : Nat) : WrI (S := Unit) l_ yX5_clear wsX5_clear ({ frames := 0, cells := 0, slots := 0, locals := 0 }) G_ cI cZ [.ref (am_ 0)] (wMd cI cZ am_ bu_ no_ vo_ fo_ nn_ vn_ fn_ k_ osr nsr lnr ba_ tk_ rt_ cp_ cd_ so_ me_ bf_) sz (fun _ => ((no_ + nn_ : Nat) : Int)) (fun _ => True) (fun _ => wMd cI cZ am_ false 0 vo_ fo_ 0 vn_ fn_ k_ osr nsr lnr ba_ tk_ rt_ cp_ cd_ so_ me_ bf_) := by
  refine Met.ofW (cc := cX5_clear) (maxL := 2) (ret := (some .int)) (by decide) rfl ?_
  intro p_ e_ s_ m_ args below meth c_ s₁ B hml hv
  obtain ⟨hargs, hsz, hP_, hK_, hD0⟩ := hv
  have hx_ := B.exec
  have hb_ := B.bytes
  have hr := B.returns
  have hts := atoms_spec (ws := wsX5_clear) B.pre
  have hown : s_.vm.findClass RX5 = some m_.cls := findClass_of_methodNamed B.named
  have hlocks := B.notSynchronized
  have hi5_ : ∀ w_ ∈ wsX50, w_ ∈ wsX5_clear := by decide +kernel
  have hf53_ := hts (.fieldLink RX5 53 "RelocatingPatchModel" "isBuilt" "Z") (by decide +kernel)
  have hf57_ := hts (.fieldLink RX5 57 "RelocatingPatchModel" "news" "I") (by decide +kernel)
  have hf65_ := hts (.fieldLink RX5 65 "RelocatingPatchModel" "olds" "I") (by decide +kernel)
  subst hsz
  have hD_ := hD0.self (sz := s_.heap.size)
  generalize hAe : va_A (wMd cI cZ am_ bu_ no_ vo_ fo_ nn_ vn_ fn_ k_ osr nsr lnr ba_ tk_ rt_ cp_ cd_ so_ me_ bf_) s_.heap.size = A_ at hD_ ⊢
  have hA_ : ∀ q_ : Nat, s_.heap.size ≤ q_ → A_ q_ := fun q_ h_ => by rw [← hAe]; exact Or.inr h_
  have hS_ : va_S A_ s_.heap s_.heap [] := va_S.rf
  have hP_ : va_P G_ vwCl [(am_ 0, .inr (5, [.int (iI ((no_ : Nat) : Int)), .ref (am_ 1), .ref (am_ 2), .int (iI ((nn_ : Nat) : Int)), .ref (am_ 3), .ref (am_ 4), .int (iI (bZ bu_)), .int (iI ((k_ : Nat) : Int)), .ref (am_ 5), .ref (am_ 6), .ref (am_ 7), .ref (am_ 8), .ref (am_ 9), .ref (am_ 10), .int (iI ((cp_ : Nat) : Int)), .ref (am_ 11), .ref (am_ 12), .ref (am_ 13), .ref (am_ 14)])), (am_ 1, .inl (cI, 48, .inl (aI vo_))), (am_ 2, .inl (cZ, 48, .inl (aB fo_))), (am_ 3, .inl (cI, 48, .inl (aI vn_))), (am_ 4, .inl (cZ, 48, .inl (aB fn_))), (am_ 5, .inl (cI, 48, .inl (aN osr))), (am_ 6, .inl (cI, 48, .inl (aN nsr))), (am_ 7, .inl (cI, 48, .inl (aN lnr))), (am_ 8, .inl (cI, 48, .inl (aI ba_))), (am_ 9, .inl (cZ, 48, .inl (aB tk_))), (am_ 10, .inl (cI, 2401, .inl (aN rt_))), (am_ 11, .inl (cI, 48, .inl (aN cd_))), (am_ 12, .inl (cI, 48, .inl (aN so_))), (am_ 13, .inl (cI, 48, .inl (aI me_))), (am_ 14, .inl (cI, 48, .inl (aI bf_)))] s_.heap := hP_
  have hD_ : va_D A_ [(am_ 0, .inr (5, [.int (iI ((no_ : Nat) : Int)), .ref (am_ 1), .ref (am_ 2), .int (iI ((nn_ : Nat) : Int)), .ref (am_ 3), .ref (am_ 4), .int (iI (bZ bu_)), .int (iI ((k_ : Nat) : Int)), .ref (am_ 5), .ref (am_ 6), .ref (am_ 7), .ref (am_ 8), .ref (am_ 9), .ref (am_ 10), .int (iI ((cp_ : Nat) : Int)), .ref (am_ 11), .ref (am_ 12), .ref (am_ 13), .ref (am_ 14)])), (am_ 1, .inl (cI, 48, .inl (aI vo_))), (am_ 2, .inl (cZ, 48, .inl (aB fo_))), (am_ 3, .inl (cI, 48, .inl (aI vn_))), (am_ 4, .inl (cZ, 48, .inl (aB fn_))), (am_ 5, .inl (cI, 48, .inl (aN osr))), (am_ 6, .inl (cI, 48, .inl (aN nsr))), (am_ 7, .inl (cI, 48, .inl (aN lnr))), (am_ 8, .inl (cI, 48, .inl (aI ba_))), (am_ 9, .inl (cZ, 48, .inl (aB tk_))), (am_ 10, .inl (cI, 2401, .inl (aN rt_))), (am_ 11, .inl (cI, 48, .inl (aN cd_))), (am_ 12, .inl (cI, 48, .inl (aN so_))), (am_ 13, .inl (cI, 48, .inl (aI me_))), (am_ 14, .inl (cI, 48, .inl (aI bf_)))] := hD_
  generalize hQe : MQ below (va_Qi (S := Unit) (fun r1_ u1 => r1_ = iI ((fun _ => ((no_ + nn_ : Nat) : Int)) u1) ∧ (fun _ => True) u1) (fun u1 t1 => va_P G_ vwCl ((fun _ => wMd cI cZ am_ false 0 vo_ fo_ 0 vn_ fn_ k_ osr nsr lnr ba_ tk_ rt_ cp_ cd_ so_ me_ bf_) u1) t1.heap) A_) args s_ 0 0 A_ = Q_
  rw [show entryFrame m_ args 2 = entryFrame m_ ([.ref (am_ 0)] : List Value).toArray 2 from by rw [hargs], lg_entry_eq]
  have hl_ := lv_entry ([.ref (am_ 0)]) (n := 2) (Nat.le_of_ble_eq_true rfl)
  generalize (lg_sl ([.ref (am_ 0)]) ++ List.replicate (2 - (lg_sl ([.ref (am_ 0)])).length) Slot.unset).toArray = ls_ at hl_ ⊢
  have hl_ : lv_has ls_ 2 [(0, .ref (am_ 0))] := hl_
  refine lv_aload_n hx_ hb_ dX5_clear_0 rfl (lv_at hl_ 0 rfl) ?_
  refine va_get (D := G_) (ci := 5) (v := .int (iI ((no_ : Nat) : Int))) (C := RX5) (T := TX5) (N := 19) hx_ hb_ hts hi5_ hown hK_ hP_ 0 rfl rfl 0 (by decide) hf65_ (fun _ h9 => h9) rfl dX5_clear_1 ?_
  refine lv_aload_n hx_ hb_ dX5_clear_4 rfl (lv_at hl_ 0 rfl) ?_
  refine va_get (D := G_) (ci := 5) (v := .int (iI ((nn_ : Nat) : Int))) (C := RX5) (T := TX5) (N := 19) hx_ hb_ hts hi5_ hown hK_ hP_ 0 rfl rfl 3 (by decide) hf57_ (fun _ h9 => h9) rfl dX5_clear_5 ?_
  refine q_iaddN hx_ hb_ dX5_clear_8 ?_
  refine lv_istore_n (lv' := [(1, .int (iI ((no_ + nn_ : Nat) : Int))), (0, .ref (am_ 0))]) hx_ hb_ dX5_clear_9 rfl hl_ (by decide) rfl (fun ls_ hl_ => ?_)
  refine lv_aload_n hx_ hb_ dX5_clear_10 rfl (lv_at hl_ 1 rfl) ?_
  refine lv_iconst (v := iI ((0 : Nat) : Int)) hx_ hb_ dX5_clear_11 rfl ?_
  refine va_put (D := G_) (ci := 5) (v := .int (iI ((0 : Nat) : Int))) (ty := .int) (C := RX5) (T := TX5) (N := 19) hx_ hb_ hts hi5_ tyX5 tyX5_ok nmX5 hown hK_ hP_ hD_ hS_ 0 rfl rfl 0 (by decide) hf65_ (fun _ h9 => h9) rfl (by decide +kernel) rfl rfl (Nat.le_of_ble_eq_true rfl) dX5_clear_12 (fun H_ locs hP_ hD_ hS_ => ?_)
  have hP_ : va_P G_ vwCl [(am_ 0, .inr (5, [.int (iI ((0 : Nat) : Int)), .ref (am_ 1), .ref (am_ 2), .int (iI ((nn_ : Nat) : Int)), .ref (am_ 3), .ref (am_ 4), .int (iI (bZ bu_)), .int (iI ((k_ : Nat) : Int)), .ref (am_ 5), .ref (am_ 6), .ref (am_ 7), .ref (am_ 8), .ref (am_ 9), .ref (am_ 10), .int (iI ((cp_ : Nat) : Int)), .ref (am_ 11), .ref (am_ 12), .ref (am_ 13), .ref (am_ 14)])), (am_ 1, .inl (cI, 48, .inl (aI vo_))), (am_ 2, .inl (cZ, 48, .inl (aB fo_))), (am_ 3, .inl (cI, 48, .inl (aI vn_))), (am_ 4, .inl (cZ, 48, .inl (aB fn_))), (am_ 5, .inl (cI, 48, .inl (aN osr))), (am_ 6, .inl (cI, 48, .inl (aN nsr))), (am_ 7, .inl (cI, 48, .inl (aN lnr))), (am_ 8, .inl (cI, 48, .inl (aI ba_))), (am_ 9, .inl (cZ, 48, .inl (aB tk_))), (am_ 10, .inl (cI, 2401, .inl (aN rt_))), (am_ 11, .inl (cI, 48, .inl (aN cd_))), (am_ 12, .inl (cI, 48, .inl (aN so_))), (am_ 13, .inl (cI, 48, .inl (aI me_))), (am_ 14, .inl (cI, 48, .inl (aI bf_)))] H_ := hP_
  have hD_ : va_D A_ [(am_ 0, .inr (5, [.int (iI ((0 : Nat) : Int)), .ref (am_ 1), .ref (am_ 2), .int (iI ((nn_ : Nat) : Int)), .ref (am_ 3), .ref (am_ 4), .int (iI (bZ bu_)), .int (iI ((k_ : Nat) : Int)), .ref (am_ 5), .ref (am_ 6), .ref (am_ 7), .ref (am_ 8), .ref (am_ 9), .ref (am_ 10), .int (iI ((cp_ : Nat) : Int)), .ref (am_ 11), .ref (am_ 12), .ref (am_ 13), .ref (am_ 14)])), (am_ 1, .inl (cI, 48, .inl (aI vo_))), (am_ 2, .inl (cZ, 48, .inl (aB fo_))), (am_ 3, .inl (cI, 48, .inl (aI vn_))), (am_ 4, .inl (cZ, 48, .inl (aB fn_))), (am_ 5, .inl (cI, 48, .inl (aN osr))), (am_ 6, .inl (cI, 48, .inl (aN nsr))), (am_ 7, .inl (cI, 48, .inl (aN lnr))), (am_ 8, .inl (cI, 48, .inl (aI ba_))), (am_ 9, .inl (cZ, 48, .inl (aB tk_))), (am_ 10, .inl (cI, 2401, .inl (aN rt_))), (am_ 11, .inl (cI, 48, .inl (aN cd_))), (am_ 12, .inl (cI, 48, .inl (aN so_))), (am_ 13, .inl (cI, 48, .inl (aI me_))), (am_ 14, .inl (cI, 48, .inl (aI bf_)))] := hD_
  refine lv_aload_n hx_ hb_ dX5_clear_15 rfl (lv_at hl_ 1 rfl) ?_
  refine lv_iconst (v := iI ((0 : Nat) : Int)) hx_ hb_ dX5_clear_16 rfl ?_
  refine va_put (D := G_) (ci := 5) (v := .int (iI ((0 : Nat) : Int))) (ty := .int) (C := RX5) (T := TX5) (N := 19) hx_ hb_ hts hi5_ tyX5 tyX5_ok nmX5 hown hK_ hP_ hD_ hS_ 0 rfl rfl 3 (by decide) hf57_ (fun _ h9 => h9) rfl (by decide +kernel) rfl rfl (Nat.le_of_ble_eq_true rfl) dX5_clear_17 (fun H_ locs hP_ hD_ hS_ => ?_)
  have hP_ : va_P G_ vwCl [(am_ 0, .inr (5, [.int (iI ((0 : Nat) : Int)), .ref (am_ 1), .ref (am_ 2), .int (iI ((0 : Nat) : Int)), .ref (am_ 3), .ref (am_ 4), .int (iI (bZ bu_)), .int (iI ((k_ : Nat) : Int)), .ref (am_ 5), .ref (am_ 6), .ref (am_ 7), .ref (am_ 8), .ref (am_ 9), .ref (am_ 10), .int (iI ((cp_ : Nat) : Int)), .ref (am_ 11), .ref (am_ 12), .ref (am_ 13), .ref (am_ 14)])), (am_ 1, .inl (cI, 48, .inl (aI vo_))), (am_ 2, .inl (cZ, 48, .inl (aB fo_))), (am_ 3, .inl (cI, 48, .inl (aI vn_))), (am_ 4, .inl (cZ, 48, .inl (aB fn_))), (am_ 5, .inl (cI, 48, .inl (aN osr))), (am_ 6, .inl (cI, 48, .inl (aN nsr))), (am_ 7, .inl (cI, 48, .inl (aN lnr))), (am_ 8, .inl (cI, 48, .inl (aI ba_))), (am_ 9, .inl (cZ, 48, .inl (aB tk_))), (am_ 10, .inl (cI, 2401, .inl (aN rt_))), (am_ 11, .inl (cI, 48, .inl (aN cd_))), (am_ 12, .inl (cI, 48, .inl (aN so_))), (am_ 13, .inl (cI, 48, .inl (aI me_))), (am_ 14, .inl (cI, 48, .inl (aI bf_)))] H_ := hP_
  have hD_ : va_D A_ [(am_ 0, .inr (5, [.int (iI ((0 : Nat) : Int)), .ref (am_ 1), .ref (am_ 2), .int (iI ((0 : Nat) : Int)), .ref (am_ 3), .ref (am_ 4), .int (iI (bZ bu_)), .int (iI ((k_ : Nat) : Int)), .ref (am_ 5), .ref (am_ 6), .ref (am_ 7), .ref (am_ 8), .ref (am_ 9), .ref (am_ 10), .int (iI ((cp_ : Nat) : Int)), .ref (am_ 11), .ref (am_ 12), .ref (am_ 13), .ref (am_ 14)])), (am_ 1, .inl (cI, 48, .inl (aI vo_))), (am_ 2, .inl (cZ, 48, .inl (aB fo_))), (am_ 3, .inl (cI, 48, .inl (aI vn_))), (am_ 4, .inl (cZ, 48, .inl (aB fn_))), (am_ 5, .inl (cI, 48, .inl (aN osr))), (am_ 6, .inl (cI, 48, .inl (aN nsr))), (am_ 7, .inl (cI, 48, .inl (aN lnr))), (am_ 8, .inl (cI, 48, .inl (aI ba_))), (am_ 9, .inl (cZ, 48, .inl (aB tk_))), (am_ 10, .inl (cI, 2401, .inl (aN rt_))), (am_ 11, .inl (cI, 48, .inl (aN cd_))), (am_ 12, .inl (cI, 48, .inl (aN so_))), (am_ 13, .inl (cI, 48, .inl (aI me_))), (am_ 14, .inl (cI, 48, .inl (aI bf_)))] := hD_
  refine lv_aload_n hx_ hb_ dX5_clear_20 rfl (lv_at hl_ 1 rfl) ?_
  refine lv_iconst (v := iI ((0 : Nat) : Int)) hx_ hb_ dX5_clear_21 rfl ?_
  refine q_cast (b := bZ false) rfl ?_
  refine va_put (D := G_) (ci := 5) (v := .int (iI (bZ false))) (ty := .boolean) (C := RX5) (T := TX5) (N := 19) hx_ hb_ hts hi5_ tyX5 tyX5_ok nmX5 hown hK_ hP_ hD_ hS_ 0 rfl rfl 6 (by decide) hf53_ (fun _ h9 => h9) rfl (by decide +kernel) (nar_bZ _) (fit_bZ _) (Nat.le_of_ble_eq_true rfl) dX5_clear_22 (fun H_ locs hP_ hD_ hS_ => ?_)
  have hP_ : va_P G_ vwCl [(am_ 0, .inr (5, [.int (iI ((0 : Nat) : Int)), .ref (am_ 1), .ref (am_ 2), .int (iI ((0 : Nat) : Int)), .ref (am_ 3), .ref (am_ 4), .int (iI (bZ false)), .int (iI ((k_ : Nat) : Int)), .ref (am_ 5), .ref (am_ 6), .ref (am_ 7), .ref (am_ 8), .ref (am_ 9), .ref (am_ 10), .int (iI ((cp_ : Nat) : Int)), .ref (am_ 11), .ref (am_ 12), .ref (am_ 13), .ref (am_ 14)])), (am_ 1, .inl (cI, 48, .inl (aI vo_))), (am_ 2, .inl (cZ, 48, .inl (aB fo_))), (am_ 3, .inl (cI, 48, .inl (aI vn_))), (am_ 4, .inl (cZ, 48, .inl (aB fn_))), (am_ 5, .inl (cI, 48, .inl (aN osr))), (am_ 6, .inl (cI, 48, .inl (aN nsr))), (am_ 7, .inl (cI, 48, .inl (aN lnr))), (am_ 8, .inl (cI, 48, .inl (aI ba_))), (am_ 9, .inl (cZ, 48, .inl (aB tk_))), (am_ 10, .inl (cI, 2401, .inl (aN rt_))), (am_ 11, .inl (cI, 48, .inl (aN cd_))), (am_ 12, .inl (cI, 48, .inl (aN so_))), (am_ 13, .inl (cI, 48, .inl (aI me_))), (am_ 14, .inl (cI, 48, .inl (aI bf_)))] H_ := hP_
  have hD_ : va_D A_ [(am_ 0, .inr (5, [.int (iI ((0 : Nat) : Int)), .ref (am_ 1), .ref (am_ 2), .int (iI ((0 : Nat) : Int)), .ref (am_ 3), .ref (am_ 4), .int (iI (bZ false)), .int (iI ((k_ : Nat) : Int)), .ref (am_ 5), .ref (am_ 6), .ref (am_ 7), .ref (am_ 8), .ref (am_ 9), .ref (am_ 10), .int (iI ((cp_ : Nat) : Int)), .ref (am_ 11), .ref (am_ 12), .ref (am_ 13), .ref (am_ 14)])), (am_ 1, .inl (cI, 48, .inl (aI vo_))), (am_ 2, .inl (cZ, 48, .inl (aB fo_))), (am_ 3, .inl (cI, 48, .inl (aI vn_))), (am_ 4, .inl (cZ, 48, .inl (aB fn_))), (am_ 5, .inl (cI, 48, .inl (aN osr))), (am_ 6, .inl (cI, 48, .inl (aN nsr))), (am_ 7, .inl (cI, 48, .inl (aN lnr))), (am_ 8, .inl (cI, 48, .inl (aI ba_))), (am_ 9, .inl (cZ, 48, .inl (aB tk_))), (am_ 10, .inl (cI, 2401, .inl (aN rt_))), (am_ 11, .inl (cI, 48, .inl (aN cd_))), (am_ 12, .inl (cI, 48, .inl (aN so_))), (am_ 13, .inl (cI, 48, .inl (aI me_))), (am_ 14, .inl (cI, 48, .inl (aI bf_)))] := hD_
  refine lv_iload_n hx_ hb_ dX5_clear_25 rfl (lv_at hl_ 0 rfl) ?_
  rw [← hQe]
  exact W.iret hx_ hb_ hr (fun tt1 htt1 hWW1 => ⟨⟨_, (), rfl, ⟨congrArg iI (rfl), trivial⟩, by show va_P G_ vwCl _ tt1.heap; rw [htt1]; exact hP_⟩, hS_.F htt1⟩) hS_.2.2 dX5_clear_26

set_option maxHeartbeats 4000000 in
set_option maxRecDepth 100000 in
/-- oldLength -/
theorem c_X5_oldLength (l_ : Launch) (G_ : va_G) (cI cZ : ClassId) (am_ : Nat → Nat) (bu_ : Bool) (no_ : Nat) (vo_ : Nat → Int) (fo_ : Nat → Bool) (nn_ : Nat) (vn_ : Nat → Int) (fn_ : Nat → Bool) (k_ : Nat) (osr nsr lnr : Nat → Nat) (ba_ : Nat → Int) (tk_ : Nat → Bool) (rt_ : Nat → Nat) (cp_ : Nat) (cd_ so_ : Nat → Nat) (me_ bf_ : Nat → Int)    : Ro l_ yX5_oldLength wsX5_oldLength ({ frames := 0, cells := 0, slots := 0, locals := 0 }) G_ cI cZ [.ref (am_ 0)] (wMd cI cZ am_ bu_ no_ vo_ fo_ nn_ vn_ fn_ k_ osr nsr lnr ba_ tk_ rt_ cp_ cd_ so_ me_ bf_) ((no_ : Nat) : Int) := by
  refine Met.ofW (cc := cX5_oldLength) (maxL := 1) (ret := (some .int)) (by decide) rfl ?_
  intro p_ e_ s_ m_ args below meth c_ s₁ B hml hv
  obtain ⟨hargs, hP_, hK_⟩ := hv
  have hx_ := B.exec
  have hb_ := B.bytes
  have hr := B.returns
  have hts := atoms_spec (ws := wsX5_oldLength) B.pre
  have hown : s_.vm.findClass RX5 = some m_.cls := findClass_of_methodNamed B.named
  have hlocks := B.notSynchronized
  have hi5_ : ∀ w_ ∈ wsX50, w_ ∈ wsX5_oldLength := by decide +kernel
  have hf65_ := hts (.fieldLink RX5 65 "RelocatingPatchModel" "olds" "I") (by decide +kernel)
  have hP_ : va_P G_ vwCl [(am_ 0, .inr (5, [.int (iI ((no_ : Nat) : Int)), .ref (am_ 1), .ref (am_ 2), .int (iI ((nn_ : Nat) : Int)), .ref (am_ 3), .ref (am_ 4), .int (iI (bZ bu_)), .int (iI ((k_ : Nat) : Int)), .ref (am_ 5), .ref (am_ 6), .ref (am_ 7), .ref (am_ 8), .ref (am_ 9), .ref (am_ 10), .int (iI ((cp_ : Nat) : Int)), .ref (am_ 11), .ref (am_ 12), .ref (am_ 13), .ref (am_ 14)])), (am_ 1, .inl (cI, 48, .inl (aI vo_))), (am_ 2, .inl (cZ, 48, .inl (aB fo_))), (am_ 3, .inl (cI, 48, .inl (aI vn_))), (am_ 4, .inl (cZ, 48, .inl (aB fn_))), (am_ 5, .inl (cI, 48, .inl (aN osr))), (am_ 6, .inl (cI, 48, .inl (aN nsr))), (am_ 7, .inl (cI, 48, .inl (aN lnr))), (am_ 8, .inl (cI, 48, .inl (aI ba_))), (am_ 9, .inl (cZ, 48, .inl (aB tk_))), (am_ 10, .inl (cI, 2401, .inl (aN rt_))), (am_ 11, .inl (cI, 48, .inl (aN cd_))), (am_ 12, .inl (cI, 48, .inl (aN so_))), (am_ 13, .inl (cI, 48, .inl (aI me_))), (am_ 14, .inl (cI, 48, .inl (aI bf_)))] s_.heap := hP_
  generalize hQe : MQ below (vp_Si (fun r_ => r_ = iI ((no_ : Nat) : Int))) args s_ 0 0 (fun _ => False) = Q_
  rw [show entryFrame m_ args 1 = entryFrame m_ ([.ref (am_ 0)] : List Value).toArray 1 from by rw [hargs], lg_entry_eq]
  have hl_ := lv_entry ([.ref (am_ 0)]) (n := 1) (Nat.le_of_ble_eq_true rfl)
  generalize (lg_sl ([.ref (am_ 0)]) ++ List.replicate (1 - (lg_sl ([.ref (am_ 0)])).length) Slot.unset).toArray = ls_ at hl_ ⊢
  have hl_ : lv_has ls_ 1 [(0, .ref (am_ 0))] := hl_
  refine lv_aload_n hx_ hb_ dX5_oldLength_0 rfl (lv_at hl_ 0 rfl) ?_
  refine va_get (D := G_) (ci := 5) (v := .int (iI ((no_ : Nat) : Int))) (C := RX5) (T := TX5) (N := 19) hx_ hb_ hts hi5_ hown hK_ hP_ 0 rfl rfl 0 (by decide) hf65_ (fun _ h9 => h9) rfl dX5_oldLength_1 ?_
  rw [← hQe]
  exact W.iret hx_ hb_ hr (fun tt1 htt1 hWW1 => ⟨_, rfl, congrArg iI (by first | rfl | omega), htt1⟩) (fun q_ h_ => absurd h_ List.not_mem_nil) dX5_oldLength_4

set_option maxHeartbeats 4000000 in
set_option maxRecDepth 100000 in
/-- newLength -/
theorem c_X5_newLength (l_ : Launch) (G_ : va_G) (cI cZ : ClassId) (am_ : Nat → Nat) (bu_ : Bool) (no_ : Nat) (vo_ : Nat → Int) (fo_ : Nat → Bool) (nn_ : Nat) (vn_ : Nat → Int) (fn_ : Nat → Bool) (k_ : Nat) (osr nsr lnr : Nat → Nat) (ba_ : Nat → Int) (tk_ : Nat → Bool) (rt_ : Nat → Nat) (cp_ : Nat) (cd_ so_ : Nat → Nat) (me_ bf_ : Nat → Int)    : Ro l_ yX5_newLength wsX5_newLength ({ frames := 0, cells := 0, slots := 0, locals := 0 }) G_ cI cZ [.ref (am_ 0)] (wMd cI cZ am_ bu_ no_ vo_ fo_ nn_ vn_ fn_ k_ osr nsr lnr ba_ tk_ rt_ cp_ cd_ so_ me_ bf_) ((nn_ : Nat) : Int) := by
  refine Met.ofW (cc := cX5_newLength) (maxL := 1) (ret := (some .int)) (by decide) rfl ?_
  intro p_ e_ s_ m_ args below meth c_ s₁ B hml hv
  obtain ⟨hargs, hP_, hK_⟩ := hv
  have hx_ := B.exec
  have hb_ := B.bytes
  have hr := B.returns
  have hts := atoms_spec (ws := wsX5_newLength) B.pre
  have hown : s_.vm.findClass RX5 = some m_.cls := findClass_of_methodNamed B.named
  have hlocks := B.notSynchronized
  have hi5_ : ∀ w_ ∈ wsX50, w_ ∈ wsX5_newLength := by decide +kernel
  have hf57_ := hts (.fieldLink RX5 57 "RelocatingPatchModel" "news" "I") (by decide +kernel)
  have hP_ : va_P G_ vwCl [(am_ 0, .inr (5, [.int (iI ((no_ : Nat) : Int)), .ref (am_ 1), .ref (am_ 2), .int (iI ((nn_ : Nat) : Int)), .ref (am_ 3), .ref (am_ 4), .int (iI (bZ bu_)), .int (iI ((k_ : Nat) : Int)), .ref (am_ 5), .ref (am_ 6), .ref (am_ 7), .ref (am_ 8), .ref (am_ 9), .ref (am_ 10), .int (iI ((cp_ : Nat) : Int)), .ref (am_ 11), .ref (am_ 12), .ref (am_ 13), .ref (am_ 14)])), (am_ 1, .inl (cI, 48, .inl (aI vo_))), (am_ 2, .inl (cZ, 48, .inl (aB fo_))), (am_ 3, .inl (cI, 48, .inl (aI vn_))), (am_ 4, .inl (cZ, 48, .inl (aB fn_))), (am_ 5, .inl (cI, 48, .inl (aN osr))), (am_ 6, .inl (cI, 48, .inl (aN nsr))), (am_ 7, .inl (cI, 48, .inl (aN lnr))), (am_ 8, .inl (cI, 48, .inl (aI ba_))), (am_ 9, .inl (cZ, 48, .inl (aB tk_))), (am_ 10, .inl (cI, 2401, .inl (aN rt_))), (am_ 11, .inl (cI, 48, .inl (aN cd_))), (am_ 12, .inl (cI, 48, .inl (aN so_))), (am_ 13, .inl (cI, 48, .inl (aI me_))), (am_ 14, .inl (cI, 48, .inl (aI bf_)))] s_.heap := hP_
  generalize hQe : MQ below (vp_Si (fun r_ => r_ = iI ((nn_ : Nat) : Int))) args s_ 0 0 (fun _ => False) = Q_
  rw [show entryFrame m_ args 1 = entryFrame m_ ([.ref (am_ 0)] : List Value).toArray 1 from by rw [hargs], lg_entry_eq]
  have hl_ := lv_entry ([.ref (am_ 0)]) (n := 1) (Nat.le_of_ble_eq_true rfl)
  generalize (lg_sl ([.ref (am_ 0)]) ++ List.replicate (1 - (lg_sl ([.ref (am_ 0)])).length) Slot.unset).toArray = ls_ at hl_ ⊢
  have hl_ : lv_has ls_ 1 [(0, .ref (am_ 0))] := hl_
  refine lv_aload_n hx_ hb_ dX5_newLength_0 rfl (lv_at hl_ 0 rfl) ?_
  refine va_get (D := G_) (ci := 5) (v := .int (iI ((nn_ : Nat) : Int))) (C := RX5) (T := TX5) (N := 19) hx_ hb_ hts hi5_ hown hK_ hP_ 0 rfl rfl 3 (by decide) hf57_ (fun _ h9 => h9) rfl dX5_newLength_1 ?_
  rw [← hQe]
  exact W.iret hx_ hb_ hr (fun tt1 htt1 hWW1 => ⟨_, rfl, congrArg iI (by first | rfl | omega), htt1⟩) (fun q_ h_ => absurd h_ List.not_mem_nil) dX5_newLength_4

set_option maxHeartbeats 4000000 in
set_option maxRecDepth 100000 in
/-- newValue -/
theorem c_X5_newValue (l_ : Launch) (G_ : va_G) (cI cZ : ClassId) (am_ : Nat → Nat) (bu_ : Bool) (no_ : Nat) (vo_ : Nat → Int) (fo_ : Nat → Bool) (nn_ : Nat) (vn_ : Nat → Int) (fn_ : Nat → Bool) (k_ : Nat) (osr nsr lnr : Nat → Nat) (ba_ : Nat → Int) (tk_ : Nat → Bool) (rt_ : Nat → Nat) (cp_ : Nat) (cd_ so_ : Nat → Nat) (me_ bf_ : Nat → Int) (x_ : Int) (hnn : nn_ ≤ 48) (hx1 : -2147483648 ≤ x_) (hx2 : x_ < 2147483648) : Ro l_ yX5_newValue wsX5_newValue ({ frames := 2, cells := 0, slots := 0, locals := 43 }) G_ cI cZ [.ref (am_ 0), .int (iI (x_))] (wMd cI cZ am_ bu_ no_ vo_ fo_ nn_ vn_ fn_ k_ osr nsr lnr ba_ tk_ rt_ cp_ cd_ so_ me_ bf_) (nvR nn_ vn_ x_) := by
  refine Met.ofW (cc := cX5_newValue) (maxL := 2) (ret := (some .int)) (by decide) rfl ?_
  intro p_ e_ s_ m_ args below meth c_ s₁ B hml hv
  obtain ⟨hargs, hP_, hK_⟩ := hv
  have hx_ := B.exec
  have hb_ := B.bytes
  have hr := B.returns
  have hts := atoms_spec (ws := wsX5_newValue) B.pre
  have hown : s_.vm.findClass RX5 = some m_.cls := findClass_of_methodNamed B.named
  have hlocks := B.notSynchronized
  have hi5_ : ∀ w_ ∈ wsX50, w_ ∈ wsX5_newValue := by decide +kernel
  have hf17_ := hts (.fieldLink RX5 17 "RelocatingPatchModel" "newValues" "[I") (by decide +kernel)
  have hP_ : va_P G_ vwCl [(am_ 0, .inr (5, [.int (iI ((no_ : Nat) : Int)), .ref (am_ 1), .ref (am_ 2), .int (iI ((nn_ : Nat) : Int)), .ref (am_ 3), .ref (am_ 4), .int (iI (bZ bu_)), .int (iI ((k_ : Nat) : Int)), .ref (am_ 5), .ref (am_ 6), .ref (am_ 7), .ref (am_ 8), .ref (am_ 9), .ref (am_ 10), .int (iI ((cp_ : Nat) : Int)), .ref (am_ 11), .ref (am_ 12), .ref (am_ 13), .ref (am_ 14)])), (am_ 1, .inl (cI, 48, .inl (aI vo_))), (am_ 2, .inl (cZ, 48, .inl (aB fo_))), (am_ 3, .inl (cI, 48, .inl (aI vn_))), (am_ 4, .inl (cZ, 48, .inl (aB fn_))), (am_ 5, .inl (cI, 48, .inl (aN osr))), (am_ 6, .inl (cI, 48, .inl (aN nsr))), (am_ 7, .inl (cI, 48, .inl (aN lnr))), (am_ 8, .inl (cI, 48, .inl (aI ba_))), (am_ 9, .inl (cZ, 48, .inl (aB tk_))), (am_ 10, .inl (cI, 2401, .inl (aN rt_))), (am_ 11, .inl (cI, 48, .inl (aN cd_))), (am_ 12, .inl (cI, 48, .inl (aN so_))), (am_ 13, .inl (cI, 48, .inl (aI me_))), (am_ 14, .inl (cI, 48, .inl (aI bf_)))] s_.heap := hP_
  generalize hQe : MQ below (vp_Si (fun r_ => r_ = iI (nvR nn_ vn_ x_))) args s_ 0 0 (fun _ => False) = Q_
  rw [show entryFrame m_ args 2 = entryFrame m_ ([.ref (am_ 0), .int (iI (x_))] : List Value).toArray 2 from by rw [hargs], lg_entry_eq]
  have hl_ := lv_entry ([.ref (am_ 0), .int (iI (x_))]) (n := 2) (Nat.le_of_ble_eq_true rfl)
  generalize (lg_sl ([.ref (am_ 0), .int (iI (x_))]) ++ List.replicate (2 - (lg_sl ([.ref (am_ 0), .int (iI (x_))])).length) Slot.unset).toArray = ls_ at hl_ ⊢
  have hl_ : lv_has ls_ 2 [(0, .ref (am_ 0)), (1, .int (iI (x_)))] := hl_
  refine lv_aload_n hx_ hb_ dX5_newValue_0 rfl (lv_at hl_ 0 rfl) ?_
  refine lv_iload_n hx_ hb_ dX5_newValue_1 rfl (lv_at hl_ 1 rfl) ?_
  refine ro_V (As := [.int (iI (x_))]) (rest := []) ⟨hx_, hb_, hml, hown, hts⟩ (c_X5_isNew l_ G_ cI cZ am_ bu_ no_ vo_ fo_ nn_ vn_ fn_ k_ osr nsr lnr ba_ tk_ rt_ cp_ cd_ so_ me_ bf_ (x_) (by omega) (by omega) (by omega)) (cwV 1 hts gX5_newValue_X5_isNew rfl rfl rfl (by decide +kernel) ⟨Nat.le_of_ble_eq_true rfl, Nat.le_of_ble_eq_true rfl⟩) (hP_.sub (ws' := [(am_ 0, .inr (5, [.int (iI ((no_ : Nat) : Int)), .ref (am_ 1), .ref (am_ 2), .int (iI ((nn_ : Nat) : Int)), .ref (am_ 3), .ref (am_ 4), .int (iI (bZ bu_)), .int (iI ((k_ : Nat) : Int)), .ref (am_ 5), .ref (am_ 6), .ref (am_ 7), .ref (am_ 8), .ref (am_ 9), .ref (am_ 10), .int (iI ((cp_ : Nat) : Int)), .ref (am_ 11), .ref (am_ 12), .ref (am_ 13), .ref (am_ 14)])), (am_ 1, .inl (cI, 48, .inl (aI vo_))), (am_ 2, .inl (cZ, 48, .inl (aB fo_))), (am_ 3, .inl (cI, 48, .inl (aI vn_))), (am_ 4, .inl (cZ, 48, .inl (aB fn_))), (am_ 5, .inl (cI, 48, .inl (aN osr))), (am_ 6, .inl (cI, 48, .inl (aN nsr))), (am_ 7, .inl (cI, 48, .inl (aN lnr))), (am_ 8, .inl (cI, 48, .inl (aI ba_))), (am_ 9, .inl (cZ, 48, .inl (aB tk_))), (am_ 10, .inl (cI, 2401, .inl (aN rt_))), (am_ 11, .inl (cI, 48, .inl (aN cd_))), (am_ 12, .inl (cI, 48, .inl (aN so_))), (am_ 13, .inl (cI, 48, .inl (aI me_))), (am_ 14, .inl (cI, 48, .inl (aI bf_)))]) [0, 1, 2, 3, 4, 5, 6, 7, 8, 9, 10, 11, 12, 13, 14] rfl) hK_ 0 rfl rfl rfl hl_.1 rfl (Nat.le_of_ble_eq_true rfl) dX5_newValue_2 ⟨Nat.zero_le _, Nat.zero_le _⟩ ?_
  refine q_df (tgt := 17) hx_ hb_ dX5_newValue_5 (by decide) (fun c5_ => ?_) (fun c5_ => ?_)
  · skip
    refine lv_sipush (v := iI (-10003)) hx_ hb_ dX5_newValue_17 rfl ?_
    rw [← hQe]
    exact W.iret hx_ hb_ hr (fun tt1 htt1 hWW1 => ⟨_, rfl, congrArg iI (by unfold nvR; rw [if_neg c5_]), htt1⟩) (fun q_ h_ => absurd h_ List.not_mem_nil) dX5_newValue_20
  · skip
    refine lv_aload_n hx_ hb_ dX5_newValue_8 rfl (lv_at hl_ 0 rfl) ?_
    refine va_get (D := G_) (ci := 5) (v := .ref (am_ 3)) (C := RX5) (T := TX5) (N := 19) hx_ hb_ hts hi5_ hown hK_ hP_ 0 rfl rfl 4 (by decide) hf17_ (fun _ h9 => h9) rfl dX5_newValue_9 ?_
    refine lv_iload_n hx_ hb_ dX5_newValue_12 rfl (lv_at hl_ 1 rfl) ?_
    refine q_cast (b := ((x_.toNat : Nat) : Int)) (by omega) ?_
    refine q_ildI hx_ hb_ hK_ hP_ 3 rfl (by decide) (x_.toNat) (by omega) (vn_ x_.toNat) (rfl) dX5_newValue_13 ?_
    refine lv_goto (tgt := 20) hx_ hb_ dX5_newValue_14 (by decide) ?_
    rw [← hQe]
    exact W.iret hx_ hb_ hr (fun tt1 htt1 hWW1 => ⟨_, rfl, congrArg iI (by unfold nvR; rw [if_pos c5_]), htt1⟩) (fun q_ h_ => absurd h_ List.not_mem_nil) dX5_newValue_20

set_option maxHeartbeats 4000000 in
set_option maxRecDepth 100000 in
/-- ofBlock -/
theorem c_X5_ofBlock (l_ : Launch) (G_ : va_G) (cI cZ : ClassId) (am_ : Nat → Nat) (bu_ : Bool) (no_ nn_ kr cp_ : Nat) (va : Nat) (fr : Nat → Nat) (k_ : Nat) (f_ : Nat → Nat) (x_ : Int) (hof : bu_ = true → k_ = kr ∧ k_ ≤ 48 ∧ ∀ j_, j_ < k_ → fr j_ = f_ j_) (hx1 : -2147483648 ≤ x_) (hx2 : x_ < 2147483648) : Ro l_ yX5_ofBlock wsX5_ofBlock ({ frames := 1, cells := 0, slots := 0, locals := 22 }) G_ cI cZ [.ref (am_ 0), .int (iI (x_)), .ref va] [(am_ 0, .inr (5, [.int (iI ((no_ : Nat) : Int)), .ref (am_ 1), .ref (am_ 2), .int (iI ((nn_ : Nat) : Int)), .ref (am_ 3), .ref (am_ 4), .int (iI (bZ bu_)), .int (iI ((kr : Nat) : Int)), .ref (am_ 5), .ref (am_ 6), .ref (am_ 7), .ref (am_ 8), .ref (am_ 9), .ref (am_ 10), .int (iI ((cp_ : Nat) : Int)), .ref (am_ 11), .ref (am_ 12), .ref (am_ 13), .ref (am_ 14)])), (va, .inl (cI, 48, .inl (aN fr)))] (A_ofb bu_ k_ f_ x_) := by
  refine Met.ofW (cc := cX5_ofBlock) (maxL := 3) (ret := (some .int)) (by decide) rfl ?_
  intro p_ e_ s_ m_ args below meth c_ s₁ B hml hv
  obtain ⟨hargs, hP_, hK_⟩ := hv
  have hx_ := B.exec
  have hb_ := B.bytes
  have hr := B.returns
  have hts := atoms_spec (ws := wsX5_ofBlock) B.pre
  have hown : s_.vm.findClass RX5 = some m_.cls := findClass_of_methodNamed B.named
  have hlocks := B.notSynchronized
  have hi5_ : ∀ w_ ∈ wsX50, w_ ∈ wsX5_ofBlock := by decide +kernel
  have hf53_ := hts (.fieldLink RX5 53 "RelocatingPatchModel" "isBuilt" "Z") (by decide +kernel)
  have hf93_ := hts (.fieldLink RX5 93 "RelocatingPatchModel" "blocks" "I") (by decide +kernel)
  have hP_ : va_P G_ vwCl [(am_ 0, .inr (5, [.int (iI ((no_ : Nat) : Int)), .ref (am_ 1), .ref (am_ 2), .int (iI ((nn_ : Nat) : Int)), .ref (am_ 3), .ref (am_ 4), .int (iI (bZ bu_)), .int (iI ((kr : Nat) : Int)), .ref (am_ 5), .ref (am_ 6), .ref (am_ 7), .ref (am_ 8), .ref (am_ 9), .ref (am_ 10), .int (iI ((cp_ : Nat) : Int)), .ref (am_ 11), .ref (am_ 12), .ref (am_ 13), .ref (am_ 14)])), (va, .inl (cI, 48, .inl (aN fr)))] s_.heap := hP_
  generalize hQe : MQ below (vp_Si (fun r_ => r_ = iI (A_ofb bu_ k_ f_ x_))) args s_ 0 0 (fun _ => False) = Q_
  rw [show entryFrame m_ args 3 = entryFrame m_ ([.ref (am_ 0), .int (iI (x_)), .ref va] : List Value).toArray 3 from by rw [hargs], lg_entry_eq]
  have hl_ := lv_entry ([.ref (am_ 0), .int (iI (x_)), .ref va]) (n := 3) (Nat.le_of_ble_eq_true rfl)
  generalize (lg_sl ([.ref (am_ 0), .int (iI (x_)), .ref va]) ++ List.replicate (3 - (lg_sl ([.ref (am_ 0), .int (iI (x_)), .ref va])).length) Slot.unset).toArray = ls_ at hl_ ⊢
  have hl_ : lv_has ls_ 3 [(0, .ref (am_ 0)), (1, .int (iI (x_))), (2, .ref va)] := hl_
  refine lv_aload_n hx_ hb_ dX5_ofBlock_0 rfl (lv_at hl_ 0 rfl) ?_
  refine va_get (D := G_) (ci := 5) (v := .int (iI (bZ bu_))) (C := RX5) (T := TX5) (N := 19) hx_ hb_ hts hi5_ hown hK_ hP_ 0 rfl rfl 6 (by decide) hf53_ (fun _ h9 => h9) rfl dX5_ofBlock_1 ?_
  refine q_bt (tgt := 11) hx_ hb_ dX5_ofBlock_4 (by decide) (fun c4_ => ?_) (fun c4_ => ?_)
  · skip
    obtain ⟨hkr, hk_, hfr⟩ := hof c4_
    have hP_ : va_P G_ vwCl [(am_ 0, .inr (5, [.int (iI ((no_ : Nat) : Int)), .ref (am_ 1), .ref (am_ 2), .int (iI ((nn_ : Nat) : Int)), .ref (am_ 3), .ref (am_ 4), .int (iI (bZ bu_)), .int (iI ((k_ : Nat) : Int)), .ref (am_ 5), .ref (am_ 6), .ref (am_ 7), .ref (am_ 8), .ref (am_ 9), .ref (am_ 10), .int (iI ((cp_ : Nat) : Int)), .ref (am_ 11), .ref (am_ 12), .ref (am_ 13), .ref (am_ 14)])), (va, .inl (cI, 48, .inl (aN fr)))] s_.heap := by rw [hkr]; exact hP_
    refine lv_iload_n hx_ hb_ dX5_ofBlock_11 rfl (lv_at hl_ 1 rfl) ?_
    refine lv_iconst (v := iI ((0 : Nat) : Int)) hx_ hb_ dX5_ofBlock_12 rfl ?_
    refine lv_aload_n hx_ hb_ dX5_ofBlock_13 rfl (lv_at hl_ 0 rfl) ?_
    refine va_get (D := G_) (ci := 5) (v := .int (iI ((k_ : Nat) : Int))) (C := RX5) (T := TX5) (N := 19) hx_ hb_ hts hi5_ hown hK_ hP_ 0 rfl rfl 7 (by decide) hf93_ (fun _ h9 => h9) rfl dX5_ofBlock_14 ?_
    refine lv_iconst (v := iI ((1 : Nat) : Int)) hx_ hb_ dX5_ofBlock_17 rfl ?_
    refine q_isub hx_ hb_ dX5_ofBlock_18 ?_
    refine ro_S (As := [.int (iI (x_)), .int (iI ((0 : Nat) : Int)), .int (iI (((k_ : Nat) : Int) - ((1 : Nat) : Int)))]) (rest := []) ⟨hx_, hb_, hml, hown, hts⟩ (c_X5_within l_ G_ cI cZ (x_) ((0 : Nat) : Int) (((k_ : Nat) : Int) - ((1 : Nat) : Int)) (by omega) (by omega) (by omega) (by omega) (by omega) (by omega)) (va_cwS 3 hts gX5_ofBlock_X5_within rfl rfl rfl (by decide +kernel) ⟨Nat.le_of_ble_eq_true rfl, Nat.le_of_ble_eq_true rfl⟩) (hP_.sub (ws' := []) [] rfl) hK_ rfl hl_.1 rfl (Nat.le_of_ble_eq_true rfl) dX5_ofBlock_19 ⟨Nat.zero_le _, Nat.zero_le _⟩ ?_
    refine q_df (tgt := 31) hx_ hb_ dX5_ofBlock_22 (by decide) (fun c22_ => ?_) (fun c22_ => ?_)
    · skip
      refine lv_sipush (v := iI (-10003)) hx_ hb_ dX5_ofBlock_31 rfl ?_
      rw [← hQe]
      exact W.iret hx_ hb_ hr (fun tt1 htt1 hWW1 => ⟨_, rfl, congrArg iI (if3 c4_ (by omega)), htt1⟩) (fun q_ h_ => absurd h_ List.not_mem_nil) dX5_ofBlock_34
    · skip
      refine lv_aload_n hx_ hb_ dX5_ofBlock_25 rfl (lv_at hl_ 2 rfl) ?_
      refine lv_iload_n hx_ hb_ dX5_ofBlock_26 rfl (lv_at hl_ 1 rfl) ?_
      refine q_cast (b := ((x_.toNat : Nat) : Int)) (by omega) ?_
      refine q_ildN hx_ hb_ hK_ hP_ 1 rfl (by decide) (x_.toNat) (by omega) (f_ x_.toNat) (hfr x_.toNat (by omega)) dX5_ofBlock_27 ?_
      refine lv_goto (tgt := 34) hx_ hb_ dX5_ofBlock_28 (by decide) ?_
      rw [← hQe]
      exact W.iret hx_ hb_ hr (fun tt1 htt1 hWW1 => ⟨_, rfl, congrArg iI (if2 c4_ (by omega)), htt1⟩) (fun q_ h_ => absurd h_ List.not_mem_nil) dX5_ofBlock_34
  · skip
    refine lv_sipush (v := iI (-10004)) hx_ hb_ dX5_ofBlock_7 rfl ?_
    rw [← hQe]
    exact W.iret hx_ hb_ hr (fun tt1 htt1 hWW1 => ⟨_, rfl, congrArg iI (if0 c4_), htt1⟩) (fun q_ h_ => absurd h_ List.not_mem_nil) dX5_ofBlock_10

set_option maxHeartbeats 4000000 in
set_option maxRecDepth 100000 in
/-- blockOldStart -/
theorem c_X5_blockOldStart (l_ : Launch) (G_ : va_G) (cI cZ : ClassId) (am_ : Nat → Nat) (bu_ : Bool) (no_ : Nat) (vo_ : Nat → Int) (fo_ : Nat → Bool) (nn_ : Nat) (vn_ : Nat → Int) (fn_ : Nat → Bool) (kr : Nat) (osr nsr lnr : Nat → Nat) (ba_ : Nat → Int) (tk_ : Nat → Bool) (rt_ : Nat → Nat) (cp_ : Nat) (cd_ so_ : Nat → Nat) (me_ bf_ : Nat → Int) (k_ : Nat) (os_ ns_ ln_ : Nat → Nat) (x_ : Int) (hno : no_ ≤ 48) (hnn : nn_ ≤ 48) (hvo : ∀ j_, 0 ≤ vo_ j_ ∧ vo_ j_ ≤ 9999) (hvn : ∀ j_, 0 ≤ vn_ j_ ∧ vn_ j_ ≤ 9999) (hmb : bu_ = true → k_ = kr ∧ MdI no_ nn_ k_ os_ ns_ ln_ osr nsr lnr ba_ cp_ cd_ so_) (hx1 : -2147483648 ≤ x_) (hx2 : x_ < 2147483648) : Ro l_ yX5_blockOldStart wsX5_blockOldStart ({ frames := 2, cells := 0, slots := 0, locals := 44 }) G_ cI cZ [.ref (am_ 0), .int (iI (x_))] (wMd cI cZ am_ bu_ no_ vo_ fo_ nn_ vn_ fn_ kr osr nsr lnr ba_ tk_ rt_ cp_ cd_ so_ me_ bf_) (A_ofb bu_ k_ os_ x_) := by
  refine Met.ofW (cc := cX5_blockOldStart) (maxL := 2) (ret := (some .int)) (by decide) rfl ?_
  intro p_ e_ s_ m_ args below meth c_ s₁ B hml hv
  obtain ⟨hargs, hP_, hK_⟩ := hv
  have hx_ := B.exec
  have hb_ := B.bytes
  have hr := B.returns
  have hts := atoms_spec (ws := wsX5_blockOldStart) B.pre
  have hown : s_.vm.findClass RX5 = some m_.cls := findClass_of_methodNamed B.named
  have hlocks := B.notSynchronized
  have hi5_ : ∀ w_ ∈ wsX50, w_ ∈ wsX5_blockOldStart := by decide +kernel
  have hf23_ := hts (.fieldLink RX5 23 "RelocatingPatchModel" "oldStart" "[I") (by decide +kernel)
  have hP_ : va_P G_ vwCl [(am_ 0, .inr (5, [.int (iI ((no_ : Nat) : Int)), .ref (am_ 1), .ref (am_ 2), .int (iI ((nn_ : Nat) : Int)), .ref (am_ 3), .ref (am_ 4), .int (iI (bZ bu_)), .int (iI ((kr : Nat) : Int)), .ref (am_ 5), .ref (am_ 6), .ref (am_ 7), .ref (am_ 8), .ref (am_ 9), .ref (am_ 10), .int (iI ((cp_ : Nat) : Int)), .ref (am_ 11), .ref (am_ 12), .ref (am_ 13), .ref (am_ 14)])), (am_ 1, .inl (cI, 48, .inl (aI vo_))), (am_ 2, .inl (cZ, 48, .inl (aB fo_))), (am_ 3, .inl (cI, 48, .inl (aI vn_))), (am_ 4, .inl (cZ, 48, .inl (aB fn_))), (am_ 5, .inl (cI, 48, .inl (aN osr))), (am_ 6, .inl (cI, 48, .inl (aN nsr))), (am_ 7, .inl (cI, 48, .inl (aN lnr))), (am_ 8, .inl (cI, 48, .inl (aI ba_))), (am_ 9, .inl (cZ, 48, .inl (aB tk_))), (am_ 10, .inl (cI, 2401, .inl (aN rt_))), (am_ 11, .inl (cI, 48, .inl (aN cd_))), (am_ 12, .inl (cI, 48, .inl (aN so_))), (am_ 13, .inl (cI, 48, .inl (aI me_))), (am_ 14, .inl (cI, 48, .inl (aI bf_)))] s_.heap := hP_
  generalize hQe : MQ below (vp_Si (fun r_ => r_ = iI (A_ofb bu_ k_ os_ x_))) args s_ 0 0 (fun _ => False) = Q_
  rw [show entryFrame m_ args 2 = entryFrame m_ ([.ref (am_ 0), .int (iI (x_))] : List Value).toArray 2 from by rw [hargs], lg_entry_eq]
  have hl_ := lv_entry ([.ref (am_ 0), .int (iI (x_))]) (n := 2) (Nat.le_of_ble_eq_true rfl)
  generalize (lg_sl ([.ref (am_ 0), .int (iI (x_))]) ++ List.replicate (2 - (lg_sl ([.ref (am_ 0), .int (iI (x_))])).length) Slot.unset).toArray = ls_ at hl_ ⊢
  have hl_ : lv_has ls_ 2 [(0, .ref (am_ 0)), (1, .int (iI (x_)))] := hl_
  refine lv_aload_n hx_ hb_ dX5_blockOldStart_0 rfl (lv_at hl_ 0 rfl) ?_
  refine lv_iload_n hx_ hb_ dX5_blockOldStart_1 rfl (lv_at hl_ 1 rfl) ?_
  refine lv_aload_n hx_ hb_ dX5_blockOldStart_2 rfl (lv_at hl_ 0 rfl) ?_
  refine va_get (D := G_) (ci := 5) (v := .ref (am_ 5)) (C := RX5) (T := TX5) (N := 19) hx_ hb_ hts hi5_ hown hK_ hP_ 0 rfl rfl 8 (by decide) hf23_ (fun _ h9 => h9) rfl dX5_blockOldStart_3 ?_
  refine ro_V (As := [.int (iI (x_)), .ref (am_ 5)]) (rest := []) ⟨hx_, hb_, hml, hown, hts⟩ (c_X5_ofBlock l_ G_ cI cZ am_ bu_ no_ nn_ kr cp_ (am_ 5) osr k_ os_ (x_) (fun h0_ => by obtain ⟨q1, q2⟩ := hmb h0_; exact ⟨q1, q2.1, fun j_ hj_ => (q2.2.2.2.1 j_ hj_).1⟩) (by omega) (by omega)) (cwV 2 hts gX5_blockOldStart_X5_ofBlock rfl rfl rfl (by decide +kernel) ⟨Nat.le_of_ble_eq_true rfl, Nat.le_of_ble_eq_true rfl⟩) (hP_.sub (ws' := [(am_ 0, .inr (5, [.int (iI ((no_ : Nat) : Int)), .ref (am_ 1), .ref (am_ 2), .int (iI ((nn_ : Nat) : Int)), .ref (am_ 3), .ref (am_ 4), .int (iI (bZ bu_)), .int (iI ((kr : Nat) : Int)), .ref (am_ 5), .ref (am_ 6), .ref (am_ 7), .ref (am_ 8), .ref (am_ 9), .ref (am_ 10), .int (iI ((cp_ : Nat) : Int)), .ref (am_ 11), .ref (am_ 12), .ref (am_ 13), .ref (am_ 14)])), (am_ 5, .inl (cI, 48, .inl (aN osr)))]) [0, 5] rfl) hK_ 0 rfl rfl rfl hl_.1 rfl (Nat.le_of_ble_eq_true rfl) dX5_blockOldStart_6 ⟨Nat.zero_le _, Nat.zero_le _⟩ ?_
  rw [← hQe]
  exact W.iret hx_ hb_ hr (fun tt1 htt1 hWW1 => ⟨_, rfl, congrArg iI (rfl), htt1⟩) (fun q_ h_ => absurd h_ List.not_mem_nil) dX5_blockOldStart_9

set_option maxHeartbeats 4000000 in
set_option maxRecDepth 100000 in
/-- blockNewStart -/
theorem c_X5_blockNewStart (l_ : Launch) (G_ : va_G) (cI cZ : ClassId) (am_ : Nat → Nat) (bu_ : Bool) (no_ : Nat) (vo_ : Nat → Int) (fo_ : Nat → Bool) (nn_ : Nat) (vn_ : Nat → Int) (fn_ : Nat → Bool) (kr : Nat) (osr nsr lnr : Nat → Nat) (ba_ : Nat → Int) (tk_ : Nat → Bool) (rt_ : Nat → Nat) (cp_ : Nat) (cd_ so_ : Nat → Nat) (me_ bf_ : Nat → Int) (k_ : Nat) (os_ ns_ ln_ : Nat → Nat) (x_ : Int) (hno : no_ ≤ 48) (hnn : nn_ ≤ 48) (hvo : ∀ j_, 0 ≤ vo_ j_ ∧ vo_ j_ ≤ 9999) (hvn : ∀ j_, 0 ≤ vn_ j_ ∧ vn_ j_ ≤ 9999) (hmb : bu_ = true → k_ = kr ∧ MdI no_ nn_ k_ os_ ns_ ln_ osr nsr lnr ba_ cp_ cd_ so_) (hx1 : -2147483648 ≤ x_) (hx2 : x_ < 2147483648) : Ro l_ yX5_blockNewStart wsX5_blockNewStart ({ frames := 2, cells := 0, slots := 0, locals := 44 }) G_ cI cZ [.ref (am_ 0), .int (iI (x_))] (wMd cI cZ am_ bu_ no_ vo_ fo_ nn_ vn_ fn_ kr osr nsr lnr ba_ tk_ rt_ cp_ cd_ so_ me_ bf_) (A_ofb bu_ k_ ns_ x_) := by
  refine Met.ofW (cc := cX5_blockNewStart) (maxL := 2) (ret := (some .int)) (by decide) rfl ?_
  intro p_ e_ s_ m_ args below meth c_ s₁ B hml hv
  obtain ⟨hargs, hP_, hK_⟩ := hv
  have hx_ := B.exec
  have hb_ := B.bytes
  have hr := B.returns
  have hts := atoms_spec (ws := wsX5_blockNewStart) B.pre
  have hown : s_.vm.findClass RX5 = some m_.cls := findClass_of_methodNamed B.named
  have hlocks := B.notSynchronized
  have hi5_ : ∀ w_ ∈ wsX50, w_ ∈ wsX5_blockNewStart := by decide +kernel
  have hf26_ := hts (.fieldLink RX5 26 "RelocatingPatchModel" "newStart" "[I") (by decide +kernel)
  have hP_ : va_P G_ vwCl [(am_ 0, .inr (5, [.int (iI ((no_ : Nat) : Int)), .ref (am_ 1), .ref (am_ 2), .int (iI ((nn_ : Nat) : Int)), .ref (am_ 3), .ref (am_ 4), .int (iI (bZ bu_)), .int (iI ((kr : Nat) : Int)), .ref (am_ 5), .ref (am_ 6), .ref (am_ 7), .ref (am_ 8), .ref (am_ 9), .ref (am_ 10), .int (iI ((cp_ : Nat) : Int)), .ref (am_ 11), .ref (am_ 12), .ref (am_ 13), .ref (am_ 14)])), (am_ 1, .inl (cI, 48, .inl (aI vo_))), (am_ 2, .inl (cZ, 48, .inl (aB fo_))), (am_ 3, .inl (cI, 48, .inl (aI vn_))), (am_ 4, .inl (cZ, 48, .inl (aB fn_))), (am_ 5, .inl (cI, 48, .inl (aN osr))), (am_ 6, .inl (cI, 48, .inl (aN nsr))), (am_ 7, .inl (cI, 48, .inl (aN lnr))), (am_ 8, .inl (cI, 48, .inl (aI ba_))), (am_ 9, .inl (cZ, 48, .inl (aB tk_))), (am_ 10, .inl (cI, 2401, .inl (aN rt_))), (am_ 11, .inl (cI, 48, .inl (aN cd_))), (am_ 12, .inl (cI, 48, .inl (aN so_))), (am_ 13, .inl (cI, 48, .inl (aI me_))), (am_ 14, .inl (cI, 48, .inl (aI bf_)))] s_.heap := hP_
  generalize hQe : MQ below (vp_Si (fun r_ => r_ = iI (A_ofb bu_ k_ ns_ x_))) args s_ 0 0 (fun _ => False) = Q_
  rw [show entryFrame m_ args 2 = entryFrame m_ ([.ref (am_ 0), .int (iI (x_))] : List Value).toArray 2 from by rw [hargs], lg_entry_eq]
  have hl_ := lv_entry ([.ref (am_ 0), .int (iI (x_))]) (n := 2) (Nat.le_of_ble_eq_true rfl)
  generalize (lg_sl ([.ref (am_ 0), .int (iI (x_))]) ++ List.replicate (2 - (lg_sl ([.ref (am_ 0), .int (iI (x_))])).length) Slot.unset).toArray = ls_ at hl_ ⊢
  have hl_ : lv_has ls_ 2 [(0, .ref (am_ 0)), (1, .int (iI (x_)))] := hl_
  refine lv_aload_n hx_ hb_ dX5_blockNewStart_0 rfl (lv_at hl_ 0 rfl) ?_
  refine lv_iload_n hx_ hb_ dX5_blockNewStart_1 rfl (lv_at hl_ 1 rfl) ?_
  refine lv_aload_n hx_ hb_ dX5_blockNewStart_2 rfl (lv_at hl_ 0 rfl) ?_
  refine va_get (D := G_) (ci := 5) (v := .ref (am_ 6)) (C := RX5) (T := TX5) (N := 19) hx_ hb_ hts hi5_ hown hK_ hP_ 0 rfl rfl 9 (by decide) hf26_ (fun _ h9 => h9) rfl dX5_blockNewStart_3 ?_
  refine ro_V (As := [.int (iI (x_)), .ref (am_ 6)]) (rest := []) ⟨hx_, hb_, hml, hown, hts⟩ (c_X5_ofBlock l_ G_ cI cZ am_ bu_ no_ nn_ kr cp_ (am_ 6) nsr k_ ns_ (x_) (fun h0_ => by obtain ⟨q1, q2⟩ := hmb h0_; exact ⟨q1, q2.1, fun j_ hj_ => (q2.2.2.2.1 j_ hj_).2.1⟩) (by omega) (by omega)) (cwV 2 hts gX5_blockNewStart_X5_ofBlock rfl rfl rfl (by decide +kernel) ⟨Nat.le_of_ble_eq_true rfl, Nat.le_of_ble_eq_true rfl⟩) (hP_.sub (ws' := [(am_ 0, .inr (5, [.int (iI ((no_ : Nat) : Int)), .ref (am_ 1), .ref (am_ 2), .int (iI ((nn_ : Nat) : Int)), .ref (am_ 3), .ref (am_ 4), .int (iI (bZ bu_)), .int (iI ((kr : Nat) : Int)), .ref (am_ 5), .ref (am_ 6), .ref (am_ 7), .ref (am_ 8), .ref (am_ 9), .ref (am_ 10), .int (iI ((cp_ : Nat) : Int)), .ref (am_ 11), .ref (am_ 12), .ref (am_ 13), .ref (am_ 14)])), (am_ 6, .inl (cI, 48, .inl (aN nsr)))]) [0, 6] rfl) hK_ 0 rfl rfl rfl hl_.1 rfl (Nat.le_of_ble_eq_true rfl) dX5_blockNewStart_6 ⟨Nat.zero_le _, Nat.zero_le _⟩ ?_
  rw [← hQe]
  exact W.iret hx_ hb_ hr (fun tt1 htt1 hWW1 => ⟨_, rfl, congrArg iI (rfl), htt1⟩) (fun q_ h_ => absurd h_ List.not_mem_nil) dX5_blockNewStart_9

set_option maxHeartbeats 4000000 in
set_option maxRecDepth 100000 in
/-- blockLength -/
theorem c_X5_blockLength (l_ : Launch) (G_ : va_G) (cI cZ : ClassId) (am_ : Nat → Nat) (bu_ : Bool) (no_ : Nat) (vo_ : Nat → Int) (fo_ : Nat → Bool) (nn_ : Nat) (vn_ : Nat → Int) (fn_ : Nat → Bool) (kr : Nat) (osr nsr lnr : Nat → Nat) (ba_ : Nat → Int) (tk_ : Nat → Bool) (rt_ : Nat → Nat) (cp_ : Nat) (cd_ so_ : Nat → Nat) (me_ bf_ : Nat → Int) (k_ : Nat) (os_ ns_ ln_ : Nat → Nat) (x_ : Int) (hno : no_ ≤ 48) (hnn : nn_ ≤ 48) (hvo : ∀ j_, 0 ≤ vo_ j_ ∧ vo_ j_ ≤ 9999) (hvn : ∀ j_, 0 ≤ vn_ j_ ∧ vn_ j_ ≤ 9999) (hmb : bu_ = true → k_ = kr ∧ MdI no_ nn_ k_ os_ ns_ ln_ osr nsr lnr ba_ cp_ cd_ so_) (hx1 : -2147483648 ≤ x_) (hx2 : x_ < 2147483648) : Ro l_ yX5_blockLength wsX5_blockLength ({ frames := 2, cells := 0, slots := 0, locals := 44 }) G_ cI cZ [.ref (am_ 0), .int (iI (x_))] (wMd cI cZ am_ bu_ no_ vo_ fo_ nn_ vn_ fn_ kr osr nsr lnr ba_ tk_ rt_ cp_ cd_ so_ me_ bf_) (A_ofb bu_ k_ ln_ x_) := by
  refine Met.ofW (cc := cX5_blockLength) (maxL := 2) (ret := (some .int)) (by decide) rfl ?_
  intro p_ e_ s_ m_ args below meth c_ s₁ B hml hv
  obtain ⟨hargs, hP_, hK_⟩ := hv
  have hx_ := B.exec
  have hb_ := B.bytes
  have hr := B.returns
  have hts := atoms_spec (ws := wsX5_blockLength) B.pre
  have hown : s_.vm.findClass RX5 = some m_.cls := findClass_of_methodNamed B.named
  have hlocks := B.notSynchronized
  have hi5_ : ∀ w_ ∈ wsX50, w_ ∈ wsX5_blockLength := by decide +kernel
  have hf29_ := hts (.fieldLink RX5 29 "RelocatingPatchModel" "length" "[I") (by decide +kernel)
  have hP_ : va_P G_ vwCl [(am_ 0, .inr (5, [.int (iI ((no_ : Nat) : Int)), .ref (am_ 1), .ref (am_ 2), .int (iI ((nn_ : Nat) : Int)), .ref (am_ 3), .ref (am_ 4), .int (iI (bZ bu_)), .int (iI ((kr : Nat) : Int)), .ref (am_ 5), .ref (am_ 6), .ref (am_ 7), .ref (am_ 8), .ref (am_ 9), .ref (am_ 10), .int (iI ((cp_ : Nat) : Int)), .ref (am_ 11), .ref (am_ 12), .ref (am_ 13), .ref (am_ 14)])), (am_ 1, .inl (cI, 48, .inl (aI vo_))), (am_ 2, .inl (cZ, 48, .inl (aB fo_))), (am_ 3, .inl (cI, 48, .inl (aI vn_))), (am_ 4, .inl (cZ, 48, .inl (aB fn_))), (am_ 5, .inl (cI, 48, .inl (aN osr))), (am_ 6, .inl (cI, 48, .inl (aN nsr))), (am_ 7, .inl (cI, 48, .inl (aN lnr))), (am_ 8, .inl (cI, 48, .inl (aI ba_))), (am_ 9, .inl (cZ, 48, .inl (aB tk_))), (am_ 10, .inl (cI, 2401, .inl (aN rt_))), (am_ 11, .inl (cI, 48, .inl (aN cd_))), (am_ 12, .inl (cI, 48, .inl (aN so_))), (am_ 13, .inl (cI, 48, .inl (aI me_))), (am_ 14, .inl (cI, 48, .inl (aI bf_)))] s_.heap := hP_
  generalize hQe : MQ below (vp_Si (fun r_ => r_ = iI (A_ofb bu_ k_ ln_ x_))) args s_ 0 0 (fun _ => False) = Q_
  rw [show entryFrame m_ args 2 = entryFrame m_ ([.ref (am_ 0), .int (iI (x_))] : List Value).toArray 2 from by rw [hargs], lg_entry_eq]
  have hl_ := lv_entry ([.ref (am_ 0), .int (iI (x_))]) (n := 2) (Nat.le_of_ble_eq_true rfl)
  generalize (lg_sl ([.ref (am_ 0), .int (iI (x_))]) ++ List.replicate (2 - (lg_sl ([.ref (am_ 0), .int (iI (x_))])).length) Slot.unset).toArray = ls_ at hl_ ⊢
  have hl_ : lv_has ls_ 2 [(0, .ref (am_ 0)), (1, .int (iI (x_)))] := hl_
  refine lv_aload_n hx_ hb_ dX5_blockLength_0 rfl (lv_at hl_ 0 rfl) ?_
  refine lv_iload_n hx_ hb_ dX5_blockLength_1 rfl (lv_at hl_ 1 rfl) ?_
  refine lv_aload_n hx_ hb_ dX5_blockLength_2 rfl (lv_at hl_ 0 rfl) ?_
  refine va_get (D := G_) (ci := 5) (v := .ref (am_ 7)) (C := RX5) (T := TX5) (N := 19) hx_ hb_ hts hi5_ hown hK_ hP_ 0 rfl rfl 10 (by decide) hf29_ (fun _ h9 => h9) rfl dX5_blockLength_3 ?_
  refine ro_V (As := [.int (iI (x_)), .ref (am_ 7)]) (rest := []) ⟨hx_, hb_, hml, hown, hts⟩ (c_X5_ofBlock l_ G_ cI cZ am_ bu_ no_ nn_ kr cp_ (am_ 7) lnr k_ ln_ (x_) (fun h0_ => by obtain ⟨q1, q2⟩ := hmb h0_; exact ⟨q1, q2.1, fun j_ hj_ => (q2.2.2.2.1 j_ hj_).2.2⟩) (by omega) (by omega)) (cwV 2 hts gX5_blockLength_X5_ofBlock rfl rfl rfl (by decide +kernel) ⟨Nat.le_of_ble_eq_true rfl, Nat.le_of_ble_eq_true rfl⟩) (hP_.sub (ws' := [(am_ 0, .inr (5, [.int (iI ((no_ : Nat) : Int)), .ref (am_ 1), .ref (am_ 2), .int (iI ((nn_ : Nat) : Int)), .ref (am_ 3), .ref (am_ 4), .int (iI (bZ bu_)), .int (iI ((kr : Nat) : Int)), .ref (am_ 5), .ref (am_ 6), .ref (am_ 7), .ref (am_ 8), .ref (am_ 9), .ref (am_ 10), .int (iI ((cp_ : Nat) : Int)), .ref (am_ 11), .ref (am_ 12), .ref (am_ 13), .ref (am_ 14)])), (am_ 7, .inl (cI, 48, .inl (aN lnr)))]) [0, 7] rfl) hK_ 0 rfl rfl rfl hl_.1 rfl (Nat.le_of_ble_eq_true rfl) dX5_blockLength_6 ⟨Nat.zero_le _, Nat.zero_le _⟩ ?_
  rw [← hQe]
  exact W.iret hx_ hb_ hr (fun tt1 htt1 hWW1 => ⟨_, rfl, congrArg iI (rfl), htt1⟩) (fun q_ h_ => absurd h_ List.not_mem_nil) dX5_blockLength_9

set_option maxHeartbeats 4000000 in
set_option maxRecDepth 100000 in
/-- blockOf -/
theorem c_X5_blockOf (l_ : Launch) (G_ : va_G) (cI cZ : ClassId) (am_ : Nat → Nat) (bu_ : Bool) (no_ : Nat) (vo_ : Nat → Int) (fo_ : Nat → Bool) (nn_ : Nat) (vn_ : Nat → Int) (fn_ : Nat → Bool) (kr : Nat) (osr nsr lnr : Nat → Nat) (ba_ : Nat → Int) (tk_ : Nat → Bool) (rt_ : Nat → Nat) (cp_ : Nat) (cd_ so_ : Nat → Nat) (me_ bf_ : Nat → Int) (k_ : Nat) (os_ ns_ ln_ : Nat → Nat) (x_ : Int) (hno : no_ ≤ 48) (hnn : nn_ ≤ 48) (hvo : ∀ j_, 0 ≤ vo_ j_ ∧ vo_ j_ ≤ 9999) (hvn : ∀ j_, 0 ≤ vn_ j_ ∧ vn_ j_ ≤ 9999) (hmb : bu_ = true → k_ = kr ∧ MdI no_ nn_ k_ os_ ns_ ln_ osr nsr lnr ba_ cp_ cd_ so_) (hx1 : -2147483648 ≤ x_) (hx2 : x_ < 2147483648) : Ro l_ yX5_blockOf wsX5_blockOf ({ frames := 2, cells := 0, slots := 0, locals := 43 }) G_ cI cZ [.ref (am_ 0), .int (iI (x_))] (wMd cI cZ am_ bu_ no_ vo_ fo_ nn_ vn_ fn_ kr osr nsr lnr ba_ tk_ rt_ cp_ cd_ so_ me_ bf_) (A_bof bu_ nn_ k_ ns_ ln_ x_) := by
  refine Met.ofW (cc := cX5_blockOf) (maxL := 2) (ret := (some .int)) (by decide) rfl ?_
  intro p_ e_ s_ m_ args below meth c_ s₁ B hml hv
  obtain ⟨hargs, hP_, hK_⟩ := hv
  have hx_ := B.exec
  have hb_ := B.bytes
  have hr := B.returns
  have hts := atoms_spec (ws := wsX5_blockOf) B.pre
  have hown : s_.vm.findClass RX5 = some m_.cls := findClass_of_methodNamed B.named
  have hlocks := B.notSynchronized
  have hi5_ : ∀ w_ ∈ wsX50, w_ ∈ wsX5_blockOf := by decide +kernel
  have hf32_ := hts (.fieldLink RX5 32 "RelocatingPatchModel" "blockAt" "[I") (by decide +kernel)
  have hf53_ := hts (.fieldLink RX5 53 "RelocatingPatchModel" "isBuilt" "Z") (by decide +kernel)
  have hP_ : va_P G_ vwCl [(am_ 0, .inr (5, [.int (iI ((no_ : Nat) : Int)), .ref (am_ 1), .ref (am_ 2), .int (iI ((nn_ : Nat) : Int)), .ref (am_ 3), .ref (am_ 4), .int (iI (bZ bu_)), .int (iI ((kr : Nat) : Int)), .ref (am_ 5), .ref (am_ 6), .ref (am_ 7), .ref (am_ 8), .ref (am_ 9), .ref (am_ 10), .int (iI ((cp_ : Nat) : Int)), .ref (am_ 11), .ref (am_ 12), .ref (am_ 13), .ref (am_ 14)])), (am_ 1, .inl (cI, 48, .inl (aI vo_))), (am_ 2, .inl (cZ, 48, .inl (aB fo_))), (am_ 3, .inl (cI, 48, .inl (aI vn_))), (am_ 4, .inl (cZ, 48, .inl (aB fn_))), (am_ 5, .inl (cI, 48, .inl (aN osr))), (am_ 6, .inl (cI, 48, .inl (aN nsr))), (am_ 7, .inl (cI, 48, .inl (aN lnr))), (am_ 8, .inl (cI, 48, .inl (aI ba_))), (am_ 9, .inl (cZ, 48, .inl (aB tk_))), (am_ 10, .inl (cI, 2401, .inl (aN rt_))), (am_ 11, .inl (cI, 48, .inl (aN cd_))), (am_ 12, .inl (cI, 48, .inl (aN so_))), (am_ 13, .inl (cI, 48, .inl (aI me_))), (am_ 14, .inl (cI, 48, .inl (aI bf_)))] s_.heap := hP_
  generalize hQe : MQ below (vp_Si (fun r_ => r_ = iI (A_bof bu_ nn_ k_ ns_ ln_ x_))) args s_ 0 0 (fun _ => False) = Q_
  rw [show entryFrame m_ args 2 = entryFrame m_ ([.ref (am_ 0), .int (iI (x_))] : List Value).toArray 2 from by rw [hargs], lg_entry_eq]
  have hl_ := lv_entry ([.ref (am_ 0), .int (iI (x_))]) (n := 2) (Nat.le_of_ble_eq_true rfl)
  generalize (lg_sl ([.ref (am_ 0), .int (iI (x_))]) ++ List.replicate (2 - (lg_sl ([.ref (am_ 0), .int (iI (x_))])).length) Slot.unset).toArray = ls_ at hl_ ⊢
  have hl_ : lv_has ls_ 2 [(0, .ref (am_ 0)), (1, .int (iI (x_)))] := hl_
  refine lv_aload_n hx_ hb_ dX5_blockOf_0 rfl (lv_at hl_ 0 rfl) ?_
  refine va_get (D := G_) (ci := 5) (v := .int (iI (bZ bu_))) (C := RX5) (T := TX5) (N := 19) hx_ hb_ hts hi5_ hown hK_ hP_ 0 rfl rfl 6 (by decide) hf53_ (fun _ h9 => h9) rfl dX5_blockOf_1 ?_
  refine q_bt (tgt := 11) hx_ hb_ dX5_blockOf_4 (by decide) (fun c4_ => ?_) (fun c4_ => ?_)
  · skip
    obtain ⟨hkr, hmd⟩ := hmb c4_
    have hmd0 := hmd
    obtain ⟨hk_, hB_, hgd, ha_, hba, hso, hcp, hcd⟩ := hmd0
    have hcl : cp_ ≤ 48 := by rw [hcp]; exact Nat.le_trans (its_ok k_ os_ ns_ ln_ k_).1 hk_
    have hP_ : va_P G_ vwCl [(am_ 0, .inr (5, [.int (iI ((no_ : Nat) : Int)), .ref (am_ 1), .ref (am_ 2), .int (iI ((nn_ : Nat) : Int)), .ref (am_ 3), .ref (am_ 4), .int (iI (bZ bu_)), .int (iI ((k_ : Nat) : Int)), .ref (am_ 5), .ref (am_ 6), .ref (am_ 7), .ref (am_ 8), .ref (am_ 9), .ref (am_ 10), .int (iI ((cp_ : Nat) : Int)), .ref (am_ 11), .ref (am_ 12), .ref (am_ 13), .ref (am_ 14)])), (am_ 1, .inl (cI, 48, .inl (aI vo_))), (am_ 2, .inl (cZ, 48, .inl (aB fo_))), (am_ 3, .inl (cI, 48, .inl (aI vn_))), (am_ 4, .inl (cZ, 48, .inl (aB fn_))), (am_ 5, .inl (cI, 48, .inl (aN osr))), (am_ 6, .inl (cI, 48, .inl (aN nsr))), (am_ 7, .inl (cI, 48, .inl (aN lnr))), (am_ 8, .inl (cI, 48, .inl (aI ba_))), (am_ 9, .inl (cZ, 48, .inl (aB tk_))), (am_ 10, .inl (cI, 2401, .inl (aN rt_))), (am_ 11, .inl (cI, 48, .inl (aN cd_))), (am_ 12, .inl (cI, 48, .inl (aN so_))), (am_ 13, .inl (cI, 48, .inl (aI me_))), (am_ 14, .inl (cI, 48, .inl (aI bf_)))] s_.heap := by rw [hkr]; exact hP_
    refine lv_aload_n hx_ hb_ dX5_blockOf_11 rfl (lv_at hl_ 0 rfl) ?_
    refine lv_iload_n hx_ hb_ dX5_blockOf_12 rfl (lv_at hl_ 1 rfl) ?_
    refine ro_V (As := [.int (iI (x_))]) (rest := []) ⟨hx_, hb_, hml, hown, hts⟩ (c_X5_isNew l_ G_ cI cZ am_ bu_ no_ vo_ fo_ nn_ vn_ fn_ k_ osr nsr lnr ba_ tk_ rt_ cp_ cd_ so_ me_ bf_ (x_) (by omega) (by omega) (by omega)) (cwV 1 hts gX5_blockOf_X5_isNew rfl rfl rfl (by decide +kernel) ⟨Nat.le_of_ble_eq_true rfl, Nat.le_of_ble_eq_true rfl⟩) (hP_.sub (ws' := [(am_ 0, .inr (5, [.int (iI ((no_ : Nat) : Int)), .ref (am_ 1), .ref (am_ 2), .int (iI ((nn_ : Nat) : Int)), .ref (am_ 3), .ref (am_ 4), .int (iI (bZ bu_)), .int (iI ((k_ : Nat) : Int)), .ref (am_ 5), .ref (am_ 6), .ref (am_ 7), .ref (am_ 8), .ref (am_ 9), .ref (am_ 10), .int (iI ((cp_ : Nat) : Int)), .ref (am_ 11), .ref (am_ 12), .ref (am_ 13), .ref (am_ 14)])), (am_ 1, .inl (cI, 48, .inl (aI vo_))), (am_ 2, .inl (cZ, 48, .inl (aB fo_))), (am_ 3, .inl (cI, 48, .inl (aI vn_))), (am_ 4, .inl (cZ, 48, .inl (aB fn_))), (am_ 5, .inl (cI, 48, .inl (aN osr))), (am_ 6, .inl (cI, 48, .inl (aN nsr))), (am_ 7, .inl (cI, 48, .inl (aN lnr))), (am_ 8, .inl (cI, 48, .inl (aI ba_))), (am_ 9, .inl (cZ, 48, .inl (aB tk_))), (am_ 10, .inl (cI, 2401, .inl (aN rt_))), (am_ 11, .inl (cI, 48, .inl (aN cd_))), (am_ 12, .inl (cI, 48, .inl (aN so_))), (am_ 13, .inl (cI, 48, .inl (aI me_))), (am_ 14, .inl (cI, 48, .inl (aI bf_)))]) [0, 1, 2, 3, 4, 5, 6, 7, 8, 9, 10, 11, 12, 13, 14] rfl) hK_ 0 rfl rfl rfl hl_.1 rfl (Nat.le_of_ble_eq_true rfl) dX5_blockOf_13 ⟨Nat.zero_le _, Nat.zero_le _⟩ ?_
    refine q_df (tgt := 28) hx_ hb_ dX5_blockOf_16 (by decide) (fun c16_ => ?_) (fun c16_ => ?_)
    · skip
      refine lv_sipush (v := iI (-10003)) hx_ hb_ dX5_blockOf_28 rfl ?_
      rw [← hQe]
      exact W.iret hx_ hb_ hr (fun tt1 htt1 hWW1 => ⟨_, rfl, congrArg iI (if3 c4_ c16_), htt1⟩) (fun q_ h_ => absurd h_ List.not_mem_nil) dX5_blockOf_31
    · skip
      refine lv_aload_n hx_ hb_ dX5_blockOf_19 rfl (lv_at hl_ 0 rfl) ?_
      refine va_get (D := G_) (ci := 5) (v := .ref (am_ 8)) (C := RX5) (T := TX5) (N := 19) hx_ hb_ hts hi5_ hown hK_ hP_ 0 rfl rfl 11 (by decide) hf32_ (fun _ h9 => h9) rfl dX5_blockOf_20 ?_
      refine lv_iload_n hx_ hb_ dX5_blockOf_23 rfl (lv_at hl_ 1 rfl) ?_
      refine q_cast (b := ((x_.toNat : Nat) : Int)) (by omega) ?_
      refine q_ildI hx_ hb_ hK_ hP_ 8 rfl (by decide) (x_.toNat) (by omega) (wI (bx k_ ns_ ln_ x_.toNat) k_ (-10005)) (hba x_.toNat (by omega)) dX5_blockOf_24 ?_
      refine lv_goto (tgt := 31) hx_ hb_ dX5_blockOf_25 (by decide) ?_
      rw [← hQe]
      exact W.iret hx_ hb_ hr (fun tt1 htt1 hWW1 => ⟨_, rfl, congrArg iI (if2 c4_ c16_), htt1⟩) (fun q_ h_ => absurd h_ List.not_mem_nil) dX5_blockOf_31
  · skip
    refine lv_sipush (v := iI (-10004)) hx_ hb_ dX5_blockOf_7 rfl ?_
    rw [← hQe]
    exact W.iret hx_ hb_ hr (fun tt1 htt1 hWW1 => ⟨_, rfl, congrArg iI (if0 c4_), htt1⟩) (fun q_ h_ => absurd h_ List.not_mem_nil) dX5_blockOf_10

set_option maxHeartbeats 4000000 in
set_option maxRecDepth 100000 in
/-- predicts -/
theorem c_X5_predicts (l_ : Launch) (G_ : va_G) (cI cZ : ClassId) (am_ : Nat → Nat) (bu_ : Bool) (no_ : Nat) (vo_ : Nat → Int) (fo_ : Nat → Bool) (nn_ : Nat) (vn_ : Nat → Int) (fn_ : Nat → Bool) (k_ : Nat) (osr nsr lnr : Nat → Nat) (ba_ : Nat → Int) (tk_ : Nat → Bool) (rt_ : Nat → Nat) (cp_ : Nat) (cd_ so_ : Nat → Nat) (me_ bf_ : Nat → Int) (os_ ns_ ln_ : Nat → Nat) (x_ : Int) (hno : no_ ≤ 48) (hnn : nn_ ≤ 48) (hvo : ∀ j_, 0 ≤ vo_ j_ ∧ vo_ j_ ≤ 9999) (hvn : ∀ j_, 0 ≤ vn_ j_ ∧ vn_ j_ ≤ 9999) (hmd : MdI no_ nn_ k_ os_ ns_ ln_ osr nsr lnr ba_ cp_ cd_ so_) (hx1 : -2147483648 ≤ x_) (hx2 : x_ < 2147483648) : Ro l_ yX5_predicts wsX5_predicts ({ frames := 0, cells := 0, slots := 0, locals := 0 }) G_ cI cZ [.ref (am_ 0), .int (iI (x_))] (wMd cI cZ am_ bu_ no_ vo_ fo_ nn_ vn_ fn_ k_ osr nsr lnr ba_ tk_ rt_ cp_ cd_ so_ me_ bf_) (mv k_ os_ ns_ x_) := by
  refine Met.ofW (cc := cX5_predicts) (maxL := 5) (ret := (some .int)) (by decide) rfl ?_
  intro p_ e_ s_ m_ args below meth c_ s₁ B hml hv
  obtain ⟨hargs, hP_, hK_⟩ := hv
  have hx_ := B.exec
  have hb_ := B.bytes
  have hr := B.returns
  have hts := atoms_spec (ws := wsX5_predicts) B.pre
  have hown : s_.vm.findClass RX5 = some m_.cls := findClass_of_methodNamed B.named
  have hlocks := B.notSynchronized
  have hi5_ : ∀ w_ ∈ wsX50, w_ ∈ wsX5_predicts := by decide +kernel
  have hf23_ := hts (.fieldLink RX5 23 "RelocatingPatchModel" "oldStart" "[I") (by decide +kernel)
  have hf26_ := hts (.fieldLink RX5 26 "RelocatingPatchModel" "newStart" "[I") (by decide +kernel)
  have hf93_ := hts (.fieldLink RX5 93 "RelocatingPatchModel" "blocks" "I") (by decide +kernel)
  have hP_ : va_P G_ vwCl [(am_ 0, .inr (5, [.int (iI ((no_ : Nat) : Int)), .ref (am_ 1), .ref (am_ 2), .int (iI ((nn_ : Nat) : Int)), .ref (am_ 3), .ref (am_ 4), .int (iI (bZ bu_)), .int (iI ((k_ : Nat) : Int)), .ref (am_ 5), .ref (am_ 6), .ref (am_ 7), .ref (am_ 8), .ref (am_ 9), .ref (am_ 10), .int (iI ((cp_ : Nat) : Int)), .ref (am_ 11), .ref (am_ 12), .ref (am_ 13), .ref (am_ 14)])), (am_ 1, .inl (cI, 48, .inl (aI vo_))), (am_ 2, .inl (cZ, 48, .inl (aB fo_))), (am_ 3, .inl (cI, 48, .inl (aI vn_))), (am_ 4, .inl (cZ, 48, .inl (aB fn_))), (am_ 5, .inl (cI, 48, .inl (aN osr))), (am_ 6, .inl (cI, 48, .inl (aN nsr))), (am_ 7, .inl (cI, 48, .inl (aN lnr))), (am_ 8, .inl (cI, 48, .inl (aI ba_))), (am_ 9, .inl (cZ, 48, .inl (aB tk_))), (am_ 10, .inl (cI, 2401, .inl (aN rt_))), (am_ 11, .inl (cI, 48, .inl (aN cd_))), (am_ 12, .inl (cI, 48, .inl (aN so_))), (am_ 13, .inl (cI, 48, .inl (aI me_))), (am_ 14, .inl (cI, 48, .inl (aI bf_)))] s_.heap := hP_
  generalize hQe : MQ below (vp_Si (fun r_ => r_ = iI (mv k_ os_ ns_ x_))) args s_ 0 0 (fun _ => False) = Q_
  have hmd0 := hmd
  obtain ⟨hk_, hB_, hgd, ha_, hba, hso, hcp, hcd⟩ := hmd0
  have hcl : cp_ ≤ 48 := by rw [hcp]; exact Nat.le_trans (its_ok k_ os_ ns_ ln_ k_).1 hk_
  have lp6 : ∀ (n_ : Nat) (i_ : Nat) (gz : Int) (ls_ : Array Slot), (i_ ≤ k_) → (k_ + 1 ≤ i_ + n_) → (gz = oV (-10005) (gde os_ x_ i_)) → lv_has ls_ 5 [(0, .ref (am_ 0)), (1, .int (iI (x_))), (2, .int (iI (gz))), (3, .int (iI ((i_ : Nat) : Int)))] → W p_ l_ e_ (headSpec wsX5_predicts ({ frames := 0, cells := 0, slots := 0, locals := 0 })).room s_ m_ args below meth c_ s_.heap [] 0 0 Q_ (F0 m_ 6 ls_ []) := by
    intro n_
    induction n_ with
    | zero =>
      intro i_ gz ls_ hi_ hn_ hg_
      exact False.elim (by omega)
    | succ n_ ih6 =>
      intro i_ gz ls_ hi_ hn_ hg_ hl_
      have hgr : -10005 ≤ gz ∧ gz < 49 := by rw [hg_]; cases h_ : gde os_ x_ i_ with | none => exact ⟨by decide, by decide⟩ | some g_ => exact ⟨by show (-10005 : Int) ≤ (g_ : Int); omega, by have := (bst_lt h_).1; show (g_ : Int) < 49; omega⟩
      refine lv_iload_n hx_ hb_ dX5_predicts_6 rfl (lv_at hl_ 3 rfl) ?_
      refine lv_aload_n hx_ hb_ dX5_predicts_7 rfl (lv_at hl_ 0 rfl) ?_
      refine va_get (D := G_) (ci := 5) (v := .int (iI ((k_ : Nat) : Int))) (C := RX5) (T := TX5) (N := 19) hx_ hb_ hts hi5_ hown hK_ hP_ 0 rfl rfl 7 (by decide) hf93_ (fun _ h9 => h9) rfl dX5_predicts_8 ?_
      refine q_icmp_ge (tgt := 70) hx_ hb_ dX5_predicts_11 (by decide) (⟨by omega, by omega⟩) (⟨by omega, by omega⟩) (fun c11_ => ?_) (fun c11_ => ?_)
      · skip
        have hik : i_ = k_ := by omega
        rw [hik] at hg_
        refine lv_iload_n hx_ hb_ dX5_predicts_70 rfl (lv_at hl_ 2 rfl) ?_
        refine lv_sipush (v := iI (-10005)) hx_ hb_ dX5_predicts_71 rfl ?_
        refine q_icmp_ne (tgt := 81) hx_ hb_ dX5_predicts_74 (by decide) (⟨by omega, by omega⟩) (⟨by decide, by decide⟩) (fun c74_ => ?_) (fun c74_ => ?_)
        · skip
          obtain ⟨g_, hgs, hgz⟩ : ∃ g_, gde os_ x_ k_ = some g_ ∧ gz = (g_ : Int) := by rw [hg_] at c74_; obtain ⟨g_, h1_, h2_⟩ := oV_some c74_; exact ⟨g_, h1_, by rw [hg_, h2_]⟩
          have hgl := (bst_lt hgs).1
          subst hgz
          have fb2 := hB_ g_ (by omega)
          refine lv_iload_n hx_ hb_ dX5_predicts_81 rfl (lv_at hl_ 1 rfl) ?_
          refine lv_aload_n hx_ hb_ dX5_predicts_82 rfl (lv_at hl_ 0 rfl) ?_
          refine va_get (D := G_) (ci := 5) (v := .ref (am_ 6)) (C := RX5) (T := TX5) (N := 19) hx_ hb_ hts hi5_ hown hK_ hP_ 0 rfl rfl 9 (by decide) hf26_ (fun _ h9 => h9) rfl dX5_predicts_83 ?_
          refine lv_iload_n hx_ hb_ dX5_predicts_86 rfl (lv_at hl_ 2 rfl) ?_
          refine q_ildN hx_ hb_ hK_ hP_ 6 rfl (by decide) (g_) (by omega) (ns_ g_) ((ha_ g_ (by omega)).2.1) dX5_predicts_87 ?_
          refine q_iadd hx_ hb_ dX5_predicts_88 ?_
          refine lv_aload_n hx_ hb_ dX5_predicts_89 rfl (lv_at hl_ 0 rfl) ?_
          refine va_get (D := G_) (ci := 5) (v := .ref (am_ 5)) (C := RX5) (T := TX5) (N := 19) hx_ hb_ hts hi5_ hown hK_ hP_ 0 rfl rfl 8 (by decide) hf23_ (fun _ h9 => h9) rfl dX5_predicts_90 ?_
          refine lv_iload_n hx_ hb_ dX5_predicts_93 rfl (lv_at hl_ 2 rfl) ?_
          refine q_ildN hx_ hb_ hK_ hP_ 5 rfl (by decide) (g_) (by omega) (os_ g_) ((ha_ g_ (by omega)).1) dX5_predicts_94 ?_
          refine q_isub hx_ hb_ dX5_predicts_95 ?_
          rw [← hQe]
          exact W.iret hx_ hb_ hr (fun tt1 htt1 hWW1 => ⟨_, rfl, congrArg iI (by unfold mv; rw [hgs]), htt1⟩) (fun q_ h_ => absurd h_ List.not_mem_nil) dX5_predicts_96
        · skip
          refine lv_iload_n hx_ hb_ dX5_predicts_77 rfl (lv_at hl_ 1 rfl) ?_
          refine lv_goto (tgt := 96) hx_ hb_ dX5_predicts_78 (by decide) ?_
          rw [← hQe]
          exact W.iret hx_ hb_ hr (fun tt1 htt1 hWW1 => ⟨_, rfl, congrArg iI (by unfold mv; rw [oV_none (by decide) (hg_.symm.trans c74_)]), htt1⟩) (fun q_ h_ => absurd h_ List.not_mem_nil) dX5_predicts_96
      · skip
        have fb1 := hB_ i_ (by omega)
        refine lv_aload_n hx_ hb_ dX5_predicts_14 rfl (lv_at hl_ 0 rfl) ?_
        refine va_get (D := G_) (ci := 5) (v := .ref (am_ 5)) (C := RX5) (T := TX5) (N := 19) hx_ hb_ hts hi5_ hown hK_ hP_ 0 rfl rfl 8 (by decide) hf23_ (fun _ h9 => h9) rfl dX5_predicts_15 ?_
        refine lv_iload_n hx_ hb_ dX5_predicts_18 rfl (lv_at hl_ 3 rfl) ?_
        refine q_ildN hx_ hb_ hK_ hP_ 5 rfl (by decide) (i_) (by omega) (os_ i_) ((ha_ i_ (by omega)).1) dX5_predicts_19 ?_
        refine lv_iload_n hx_ hb_ dX5_predicts_20 rfl (lv_at hl_ 1 rfl) ?_
        refine q_icmp_gt (tgt := 28) hx_ hb_ dX5_predicts_21 (by decide) (⟨by omega, by omega⟩) (⟨by omega, by omega⟩) (fun c21_ => ?_) (fun c21_ => ?_)
        · skip
          refine lv_iconst (v := iI ((0 : Nat) : Int)) hx_ hb_ dX5_predicts_28 rfl ?_
          refine lv_istore (lv' := [(4, .int (iI ((0 : Nat) : Int))), (0, .ref (am_ 0)), (1, .int (iI (x_))), (2, .int (iI (gz))), (3, .int (iI ((i_ : Nat) : Int)))]) hx_ hb_ dX5_predicts_29 hl_ (by decide) rfl (fun ls_ hl_ => ?_)
          refine lv_iload hx_ hb_ dX5_predicts_31 (lv_at hl_ 0 rfl) ?_
          refine q_if_eq (tgt := 62) hx_ hb_ dX5_predicts_33 (by decide) (⟨by decide, by decide⟩) (fun _ => ?_) (fun h0_ => absurd h0_ (by decide))
          refine lv_iload_n hx_ hb_ dX5_predicts_62 rfl (lv_at hl_ 3 rfl) ?_
          refine lv_istore_n (lv' := [(2, .int (iI (gz))), (4, .int (iI ((0 : Nat) : Int))), (0, .ref (am_ 0)), (1, .int (iI (x_))), (3, .int (iI ((i_ : Nat) : Int)))]) hx_ hb_ dX5_predicts_63 rfl hl_ (by decide) rfl (fun ls_ hl_ => ?_)
          refine q_iinc (k := 4) ((i_ + 1 : Nat) : Int) hx_ hb_ dX5_predicts_64 hl_ rfl (rfl) (by decide) (lv' := [(3, .int (iI ((i_ + 1 : Nat) : Int))), (2, .int (iI (gz))), (4, .int (iI ((0 : Nat) : Int))), (0, .ref (am_ 0)), (1, .int (iI (x_)))]) rfl (fun ls_ hl_ => ?_)
          refine lv_goto (tgt := 6) hx_ hb_ dX5_predicts_67 (by decide) ?_
          exact ih6 (i_ + 1) ((gz)) ls_ (by omega) (by omega) (by rw [hg_]; unfold gde; rw [bst_skip (decide_eq_false (by omega))]) (lv_sub hl_ [3, 4, 1, 0] rfl)
        · skip
          refine lv_iconst (v := iI ((1 : Nat) : Int)) hx_ hb_ dX5_predicts_24 rfl ?_
          refine lv_goto (tgt := 29) hx_ hb_ dX5_predicts_25 (by decide) ?_
          refine lv_istore (lv' := [(4, .int (iI ((1 : Nat) : Int))), (0, .ref (am_ 0)), (1, .int (iI (x_))), (2, .int (iI (gz))), (3, .int (iI ((i_ : Nat) : Int)))]) hx_ hb_ dX5_predicts_29 hl_ (by decide) rfl (fun ls_ hl_ => ?_)
          refine lv_iload hx_ hb_ dX5_predicts_31 (lv_at hl_ 0 rfl) ?_
          refine q_if_eq (tgt := 62) hx_ hb_ dX5_predicts_33 (by decide) (⟨by decide, by decide⟩) (fun h0_ => absurd h0_ (by decide)) (fun _ => ?_)
          refine lv_iload_n hx_ hb_ dX5_predicts_36 rfl (lv_at hl_ 3 rfl) ?_
          refine lv_sipush (v := iI (-10005)) hx_ hb_ dX5_predicts_37 rfl ?_
          refine q_icmp_eq (tgt := 58) hx_ hb_ dX5_predicts_40 (by decide) (⟨by omega, by omega⟩) (⟨by decide, by decide⟩) (fun c40_ => ?_) (fun c40_ => ?_)
          · skip
            refine lv_iload_n hx_ hb_ dX5_predicts_58 rfl (lv_at hl_ 4 rfl) ?_
            refine lv_goto (tgt := 63) hx_ hb_ dX5_predicts_59 (by decide) ?_
            refine lv_istore_n (lv' := [(2, .int (iI ((i_ : Nat) : Int))), (4, .int (iI ((1 : Nat) : Int))), (0, .ref (am_ 0)), (1, .int (iI (x_))), (3, .int (iI ((i_ : Nat) : Int)))]) hx_ hb_ dX5_predicts_63 rfl hl_ (by decide) rfl (fun ls_ hl_ => ?_)
            refine q_iinc (k := 4) ((i_ + 1 : Nat) : Int) hx_ hb_ dX5_predicts_64 hl_ rfl (rfl) (by decide) (lv' := [(3, .int (iI ((i_ + 1 : Nat) : Int))), (2, .int (iI ((i_ : Nat) : Int))), (4, .int (iI ((1 : Nat) : Int))), (0, .ref (am_ 0)), (1, .int (iI (x_)))]) rfl (fun ls_ hl_ => ?_)
            refine lv_goto (tgt := 6) hx_ hb_ dX5_predicts_67 (by decide) ?_
            exact ih6 (i_ + 1) (((i_ : Nat) : Int)) ls_ (by omega) (by omega) (by unfold gde; rw [bst_ns (oV_none (by decide) (hg_.symm.trans c40_)) (decide_eq_true (by omega))]; rfl) (lv_sub hl_ [3, 4, 1, 0] rfl)
          · skip
            obtain ⟨g_, hgs, hgz⟩ : ∃ g_, gde os_ x_ i_ = some g_ ∧ gz = (g_ : Int) := by rw [hg_] at c40_; obtain ⟨g_, h1_, h2_⟩ := oV_some c40_; exact ⟨g_, h1_, by rw [hg_, h2_]⟩
            have hgl := (bst_lt hgs).1
            subst hgz
            have fb2 := hB_ g_ (by omega)
            refine lv_aload_n hx_ hb_ dX5_predicts_43 rfl (lv_at hl_ 1 rfl) ?_
            refine va_get (D := G_) (ci := 5) (v := .ref (am_ 5)) (C := RX5) (T := TX5) (N := 19) hx_ hb_ hts hi5_ hown hK_ hP_ 0 rfl rfl 8 (by decide) hf23_ (fun _ h9 => h9) rfl dX5_predicts_44 ?_
            refine lv_iload_n hx_ hb_ dX5_predicts_47 rfl (lv_at hl_ 4 rfl) ?_
            refine q_ildN hx_ hb_ hK_ hP_ 5 rfl (by decide) (i_) (by omega) (os_ i_) ((ha_ i_ (by omega)).1) dX5_predicts_48 ?_
            refine lv_aload_n hx_ hb_ dX5_predicts_49 rfl (lv_at hl_ 1 rfl) ?_
            refine va_get (D := G_) (ci := 5) (v := .ref (am_ 5)) (C := RX5) (T := TX5) (N := 19) hx_ hb_ hts hi5_ hown hK_ hP_ 0 rfl rfl 8 (by decide) hf23_ (fun _ h9 => h9) rfl dX5_predicts_50 ?_
            refine lv_iload_n hx_ hb_ dX5_predicts_53 rfl (lv_at hl_ 3 rfl) ?_
            refine q_ildN hx_ hb_ hK_ hP_ 5 rfl (by decide) (g_) (by omega) (os_ g_) ((ha_ g_ (by omega)).1) dX5_predicts_54 ?_
            refine q_icmp_le (tgt := 62) hx_ hb_ dX5_predicts_55 (by decide) (⟨by omega, by omega⟩) (⟨by omega, by omega⟩) (fun c55_ => ?_) (fun c55_ => ?_)
            · skip
              refine lv_iload_n hx_ hb_ dX5_predicts_62 rfl (lv_at hl_ 3 rfl) ?_
              refine lv_istore_n (lv' := [(2, .int (iI ((g_ : Nat) : Int))), (4, .int (iI ((1 : Nat) : Int))), (0, .ref (am_ 0)), (1, .int (iI (x_))), (3, .int (iI ((i_ : Nat) : Int)))]) hx_ hb_ dX5_predicts_63 rfl hl_ (by decide) rfl (fun ls_ hl_ => ?_)
              refine q_iinc (k := 4) ((i_ + 1 : Nat) : Int) hx_ hb_ dX5_predicts_64 hl_ rfl (rfl) (by decide) (lv' := [(3, .int (iI ((i_ + 1 : Nat) : Int))), (2, .int (iI ((g_ : Nat) : Int))), (4, .int (iI ((1 : Nat) : Int))), (0, .ref (am_ 0)), (1, .int (iI (x_)))]) rfl (fun ls_ hl_ => ?_)
              refine lv_goto (tgt := 6) hx_ hb_ dX5_predicts_67 (by decide) ?_
              exact ih6 (i_ + 1) (((g_ : Nat) : Int)) ls_ (by omega) (by omega) (by unfold gde; rw [bst_sk hgs (decide_eq_false (by omega))]; rfl) (lv_sub hl_ [3, 4, 1, 0] rfl)
            · skip
              refine lv_iload_n hx_ hb_ dX5_predicts_58 rfl (lv_at hl_ 4 rfl) ?_
              refine lv_goto (tgt := 63) hx_ hb_ dX5_predicts_59 (by decide) ?_
              refine lv_istore_n (lv' := [(2, .int (iI ((i_ : Nat) : Int))), (4, .int (iI ((1 : Nat) : Int))), (0, .ref (am_ 0)), (1, .int (iI (x_))), (3, .int (iI ((i_ : Nat) : Int)))]) hx_ hb_ dX5_predicts_63 rfl hl_ (by decide) rfl (fun ls_ hl_ => ?_)
              refine q_iinc (k := 4) ((i_ + 1 : Nat) : Int) hx_ hb_ dX5_predicts_64 hl_ rfl (rfl) (by decide) (lv' := [(3, .int (iI ((i_ + 1 : Nat) : Int))), (2, .int (iI ((i_ : Nat) : Int))), (4, .int (iI ((1 : Nat) : Int))), (0, .ref (am_ 0)), (1, .int (iI (x_)))]) rfl (fun ls_ hl_ => ?_)
              refine lv_goto (tgt := 6) hx_ hb_ dX5_predicts_67 (by decide) ?_
              exact ih6 (i_ + 1) (((i_ : Nat) : Int)) ls_ (by omega) (by omega) (by unfold gde; rw [bst_ss hgs (decide_eq_true (by omega)) (decide_eq_true (by omega))]; rfl) (lv_sub hl_ [3, 4, 1, 0] rfl)
  rw [show entryFrame m_ args 5 = entryFrame m_ ([.ref (am_ 0), .int (iI (x_))] : List Value).toArray 5 from by rw [hargs], lg_entry_eq]
  have hl_ := lv_entry ([.ref (am_ 0), .int (iI (x_))]) (n := 5) (Nat.le_of_ble_eq_true rfl)
  generalize (lg_sl ([.ref (am_ 0), .int (iI (x_))]) ++ List.replicate (5 - (lg_sl ([.ref (am_ 0), .int (iI (x_))])).length) Slot.unset).toArray = ls_ at hl_ ⊢
  have hl_ : lv_has ls_ 5 [(0, .ref (am_ 0)), (1, .int (iI (x_)))] := hl_
  refine lv_sipush (v := iI (-10005)) hx_ hb_ dX5_predicts_0 rfl ?_
  refine lv_istore_n (lv' := [(2, .int (iI (-10005))), (0, .ref (am_ 0)), (1, .int (iI (x_)))]) hx_ hb_ dX5_predicts_3 rfl hl_ (by decide) rfl (fun ls_ hl_ => ?_)
  refine lv_iconst (v := iI ((0 : Nat) : Int)) hx_ hb_ dX5_predicts_4 rfl ?_
  refine lv_istore_n (lv' := [(3, .int (iI ((0 : Nat) : Int))), (2, .int (iI (-10005))), (0, .ref (am_ 0)), (1, .int (iI (x_)))]) hx_ hb_ dX5_predicts_5 rfl hl_ (by decide) rfl (fun ls_ hl_ => ?_)
  exact lp6 (k_ + 1) 0 (-10005) ls_ (by omega) (by omega) (rfl) (lv_sub hl_ [2, 3, 1, 0] rfl)

set_option maxHeartbeats 4000000 in
set_option maxRecDepth 100000 in
/-- predictedAddress -/
theorem c_X5_predictedAddress (l_ : Launch) (G_ : va_G) (cI cZ : ClassId) (am_ : Nat → Nat) (bu_ : Bool) (no_ : Nat) (vo_ : Nat → Int) (fo_ : Nat → Bool) (nn_ : Nat) (vn_ : Nat → Int) (fn_ : Nat → Bool) (kr : Nat) (osr nsr lnr : Nat → Nat) (ba_ : Nat → Int) (tk_ : Nat → Bool) (rt_ : Nat → Nat) (cp_ : Nat) (cd_ so_ : Nat → Nat) (me_ bf_ : Nat → Int) (k_ : Nat) (os_ ns_ ln_ : Nat → Nat) (x_ : Int) (hno : no_ ≤ 48) (hnn : nn_ ≤ 48) (hvo : ∀ j_, 0 ≤ vo_ j_ ∧ vo_ j_ ≤ 9999) (hvn : ∀ j_, 0 ≤ vn_ j_ ∧ vn_ j_ ≤ 9999) (hmb : bu_ = true → k_ = kr ∧ MdI no_ nn_ k_ os_ ns_ ln_ osr nsr lnr ba_ cp_ cd_ so_) (hx1 : -2147483648 ≤ x_) (hx2 : x_ < 2147483648) : Ro l_ yX5_predictedAddress wsX5_predictedAddress ({ frames := 1, cells := 0, slots := 0, locals := 24 }) G_ cI cZ [.ref (am_ 0), .int (iI (x_))] (wMd cI cZ am_ bu_ no_ vo_ fo_ nn_ vn_ fn_ kr osr nsr lnr ba_ tk_ rt_ cp_ cd_ so_ me_ bf_) (A_pad bu_ k_ os_ ns_ x_) := by
  refine Met.ofW (cc := cX5_predictedAddress) (maxL := 2) (ret := (some .int)) (by decide) rfl ?_
  intro p_ e_ s_ m_ args below meth c_ s₁ B hml hv
  obtain ⟨hargs, hP_, hK_⟩ := hv
  have hx_ := B.exec
  have hb_ := B.bytes
  have hr := B.returns
  have hts := atoms_spec (ws := wsX5_predictedAddress) B.pre
  have hown : s_.vm.findClass RX5 = some m_.cls := findClass_of_methodNamed B.named
  have hlocks := B.notSynchronized
  have hi5_ : ∀ w_ ∈ wsX50, w_ ∈ wsX5_predictedAddress := by decide +kernel
  have hf53_ := hts (.fieldLink RX5 53 "RelocatingPatchModel" "isBuilt" "Z") (by decide +kernel)
  have hP_ : va_P G_ vwCl [(am_ 0, .inr (5, [.int (iI ((no_ : Nat) : Int)), .ref (am_ 1), .ref (am_ 2), .int (iI ((nn_ : Nat) : Int)), .ref (am_ 3), .ref (am_ 4), .int (iI (bZ bu_)), .int (iI ((kr : Nat) : Int)), .ref (am_ 5), .ref (am_ 6), .ref (am_ 7), .ref (am_ 8), .ref (am_ 9), .ref (am_ 10), .int (iI ((cp_ : Nat) : Int)), .ref (am_ 11), .ref (am_ 12), .ref (am_ 13), .ref (am_ 14)])), (am_ 1, .inl (cI, 48, .inl (aI vo_))), (am_ 2, .inl (cZ, 48, .inl (aB fo_))), (am_ 3, .inl (cI, 48, .inl (aI vn_))), (am_ 4, .inl (cZ, 48, .inl (aB fn_))), (am_ 5, .inl (cI, 48, .inl (aN osr))), (am_ 6, .inl (cI, 48, .inl (aN nsr))), (am_ 7, .inl (cI, 48, .inl (aN lnr))), (am_ 8, .inl (cI, 48, .inl (aI ba_))), (am_ 9, .inl (cZ, 48, .inl (aB tk_))), (am_ 10, .inl (cI, 2401, .inl (aN rt_))), (am_ 11, .inl (cI, 48, .inl (aN cd_))), (am_ 12, .inl (cI, 48, .inl (aN so_))), (am_ 13, .inl (cI, 48, .inl (aI me_))), (am_ 14, .inl (cI, 48, .inl (aI bf_)))] s_.heap := hP_
  generalize hQe : MQ below (vp_Si (fun r_ => r_ = iI (A_pad bu_ k_ os_ ns_ x_))) args s_ 0 0 (fun _ => False) = Q_
  rw [show entryFrame m_ args 2 = entryFrame m_ ([.ref (am_ 0), .int (iI (x_))] : List Value).toArray 2 from by rw [hargs], lg_entry_eq]
  have hl_ := lv_entry ([.ref (am_ 0), .int (iI (x_))]) (n := 2) (Nat.le_of_ble_eq_true rfl)
  generalize (lg_sl ([.ref (am_ 0), .int (iI (x_))]) ++ List.replicate (2 - (lg_sl ([.ref (am_ 0), .int (iI (x_))])).length) Slot.unset).toArray = ls_ at hl_ ⊢
  have hl_ : lv_has ls_ 2 [(0, .ref (am_ 0)), (1, .int (iI (x_)))] := hl_
  refine lv_aload_n hx_ hb_ dX5_predictedAddress_0 rfl (lv_at hl_ 0 rfl) ?_
  refine va_get (D := G_) (ci := 5) (v := .int (iI (bZ bu_))) (C := RX5) (T := TX5) (N := 19) hx_ hb_ hts hi5_ hown hK_ hP_ 0 rfl rfl 6 (by decide) hf53_ (fun _ h9 => h9) rfl dX5_predictedAddress_1 ?_
  refine q_bt (tgt := 11) hx_ hb_ dX5_predictedAddress_4 (by decide) (fun c4_ => ?_) (fun c4_ => ?_)
  · skip
    obtain ⟨hkr, hmd⟩ := hmb c4_
    have hmd0 := hmd
    obtain ⟨hk_, hB_, hgd, ha_, hba, hso, hcp, hcd⟩ := hmd0
    have hcl : cp_ ≤ 48 := by rw [hcp]; exact Nat.le_trans (its_ok k_ os_ ns_ ln_ k_).1 hk_
    have hP_ : va_P G_ vwCl [(am_ 0, .inr (5, [.int (iI ((no_ : Nat) : Int)), .ref (am_ 1), .ref (am_ 2), .int (iI ((nn_ : Nat) : Int)), .ref (am_ 3), .ref (am_ 4), .int (iI (bZ bu_)), .int (iI ((k_ : Nat) : Int)), .ref (am_ 5), .ref (am_ 6), .ref (am_ 7), .ref (am_ 8), .ref (am_ 9), .ref (am_ 10), .int (iI ((cp_ : Nat) : Int)), .ref (am_ 11), .ref (am_ 12), .ref (am_ 13), .ref (am_ 14)])), (am_ 1, .inl (cI, 48, .inl (aI vo_))), (am_ 2, .inl (cZ, 48, .inl (aB fo_))), (am_ 3, .inl (cI, 48, .inl (aI vn_))), (am_ 4, .inl (cZ, 48, .inl (aB fn_))), (am_ 5, .inl (cI, 48, .inl (aN osr))), (am_ 6, .inl (cI, 48, .inl (aN nsr))), (am_ 7, .inl (cI, 48, .inl (aN lnr))), (am_ 8, .inl (cI, 48, .inl (aI ba_))), (am_ 9, .inl (cZ, 48, .inl (aB tk_))), (am_ 10, .inl (cI, 2401, .inl (aN rt_))), (am_ 11, .inl (cI, 48, .inl (aN cd_))), (am_ 12, .inl (cI, 48, .inl (aN so_))), (am_ 13, .inl (cI, 48, .inl (aI me_))), (am_ 14, .inl (cI, 48, .inl (aI bf_)))] s_.heap := by rw [hkr]; exact hP_
    refine lv_iload_n hx_ hb_ dX5_predictedAddress_11 rfl (lv_at hl_ 1 rfl) ?_
    refine lv_iconst (v := iI ((0 : Nat) : Int)) hx_ hb_ dX5_predictedAddress_12 rfl ?_
    refine lv_sipush (v := iI ((9999 : Nat) : Int)) hx_ hb_ dX5_predictedAddress_13 rfl ?_
    refine ro_S (As := [.int (iI (x_)), .int (iI ((0 : Nat) : Int)), .int (iI ((9999 : Nat) : Int))]) (rest := []) ⟨hx_, hb_, hml, hown, hts⟩ (c_X5_within l_ G_ cI cZ (x_) ((0 : Nat) : Int) ((9999 : Nat) : Int) (by omega) (by omega) (by omega) (by omega) (by omega) (by omega)) (va_cwS 3 hts gX5_predictedAddress_X5_within rfl rfl rfl (by decide +kernel) ⟨Nat.le_of_ble_eq_true rfl, Nat.le_of_ble_eq_true rfl⟩) (hP_.sub (ws' := []) [] rfl) hK_ rfl hl_.1 rfl (Nat.le_of_ble_eq_true rfl) dX5_predictedAddress_16 ⟨Nat.zero_le _, Nat.zero_le _⟩ ?_
    refine q_df (tgt := 30) hx_ hb_ dX5_predictedAddress_19 (by decide) (fun c19_ => ?_) (fun c19_ => ?_)
    · skip
      refine lv_sipush (v := iI (-10001)) hx_ hb_ dX5_predictedAddress_30 rfl ?_
      rw [← hQe]
      exact W.iret hx_ hb_ hr (fun tt1 htt1 hWW1 => ⟨_, rfl, congrArg iI (if3 c4_ (by omega)), htt1⟩) (fun q_ h_ => absurd h_ List.not_mem_nil) dX5_predictedAddress_33
    · skip
      refine lv_aload_n hx_ hb_ dX5_predictedAddress_22 rfl (lv_at hl_ 0 rfl) ?_
      refine lv_iload_n hx_ hb_ dX5_predictedAddress_23 rfl (lv_at hl_ 1 rfl) ?_
      refine ro_V (As := [.int (iI (x_))]) (rest := []) ⟨hx_, hb_, hml, hown, hts⟩ (c_X5_predicts l_ G_ cI cZ am_ bu_ no_ vo_ fo_ nn_ vn_ fn_ k_ osr nsr lnr ba_ tk_ rt_ cp_ cd_ so_ me_ bf_ os_ ns_ ln_ (x_) hno hnn hvo hvn hmd (by omega) (by omega)) (cwV 1 hts gX5_predictedAddress_X5_predicts rfl rfl rfl (by decide +kernel) ⟨Nat.le_of_ble_eq_true rfl, Nat.le_of_ble_eq_true rfl⟩) (hP_.sub (ws' := [(am_ 0, .inr (5, [.int (iI ((no_ : Nat) : Int)), .ref (am_ 1), .ref (am_ 2), .int (iI ((nn_ : Nat) : Int)), .ref (am_ 3), .ref (am_ 4), .int (iI (bZ bu_)), .int (iI ((k_ : Nat) : Int)), .ref (am_ 5), .ref (am_ 6), .ref (am_ 7), .ref (am_ 8), .ref (am_ 9), .ref (am_ 10), .int (iI ((cp_ : Nat) : Int)), .ref (am_ 11), .ref (am_ 12), .ref (am_ 13), .ref (am_ 14)])), (am_ 1, .inl (cI, 48, .inl (aI vo_))), (am_ 2, .inl (cZ, 48, .inl (aB fo_))), (am_ 3, .inl (cI, 48, .inl (aI vn_))), (am_ 4, .inl (cZ, 48, .inl (aB fn_))), (am_ 5, .inl (cI, 48, .inl (aN osr))), (am_ 6, .inl (cI, 48, .inl (aN nsr))), (am_ 7, .inl (cI, 48, .inl (aN lnr))), (am_ 8, .inl (cI, 48, .inl (aI ba_))), (am_ 9, .inl (cZ, 48, .inl (aB tk_))), (am_ 10, .inl (cI, 2401, .inl (aN rt_))), (am_ 11, .inl (cI, 48, .inl (aN cd_))), (am_ 12, .inl (cI, 48, .inl (aN so_))), (am_ 13, .inl (cI, 48, .inl (aI me_))), (am_ 14, .inl (cI, 48, .inl (aI bf_)))]) [0, 1, 2, 3, 4, 5, 6, 7, 8, 9, 10, 11, 12, 13, 14] rfl) hK_ 0 rfl rfl rfl hl_.1 rfl (Nat.le_of_ble_eq_true rfl) dX5_predictedAddress_24 ⟨Nat.zero_le _, Nat.zero_le _⟩ ?_
      refine lv_goto (tgt := 33) hx_ hb_ dX5_predictedAddress_27 (by decide) ?_
      rw [← hQe]
      exact W.iret hx_ hb_ hr (fun tt1 htt1 hWW1 => ⟨_, rfl, congrArg iI (if2 c4_ (by omega)), htt1⟩) (fun q_ h_ => absurd h_ List.not_mem_nil) dX5_predictedAddress_33
  · skip
    refine lv_sipush (v := iI (-10004)) hx_ hb_ dX5_predictedAddress_7 rfl ?_
    rw [← hQe]
    exact W.iret hx_ hb_ hr (fun tt1 htt1 hWW1 => ⟨_, rfl, congrArg iI (if0 c4_), htt1⟩) (fun q_ h_ => absurd h_ List.not_mem_nil) dX5_predictedAddress_10

set_option maxHeartbeats 4000000 in
set_option maxRecDepth 100000 in
/-- oldIndexOf -/
theorem c_X5_oldIndexOf (l_ : Launch) (G_ : va_G) (cI cZ : ClassId) (am_ : Nat → Nat) (bu_ : Bool) (no_ : Nat) (vo_ : Nat → Int) (fo_ : Nat → Bool) (nn_ : Nat) (vn_ : Nat → Int) (fn_ : Nat → Bool) (k_ : Nat) (osr nsr lnr : Nat → Nat) (ba_ : Nat → Int) (tk_ : Nat → Bool) (rt_ : Nat → Nat) (cp_ : Nat) (cd_ so_ : Nat → Nat) (me_ bf_ : Nat → Int) (os_ ns_ ln_ : Nat → Nat) (y_ : Nat) (hno : no_ ≤ 48) (hnn : nn_ ≤ 48) (hvo : ∀ j_, 0 ≤ vo_ j_ ∧ vo_ j_ ≤ 9999) (hvn : ∀ j_, 0 ≤ vn_ j_ ∧ vn_ j_ ≤ 9999) (hmd : MdI no_ nn_ k_ os_ ns_ ln_ osr nsr lnr ba_ cp_ cd_ so_) (hy0 : y_ < nn_) (hbx : bx k_ ns_ ln_ y_ < k_) : Ro l_ yX5_oldIndexOf wsX5_oldIndexOf ({ frames := 0, cells := 0, slots := 0, locals := 0 }) G_ cI cZ [.ref (am_ 0), .int (iI ((y_ : Nat) : Int))] (wMd cI cZ am_ bu_ no_ vo_ fo_ nn_ vn_ fn_ k_ osr nsr lnr ba_ tk_ rt_ cp_ cd_ so_ me_ bf_) ((oN os_ ns_ (bx k_ ns_ ln_ y_) y_ : Nat) : Int) := by
  refine Met.ofW (cc := cX5_oldIndexOf) (maxL := 3) (ret := (some .int)) (by decide) rfl ?_
  intro p_ e_ s_ m_ args below meth c_ s₁ B hml hv
  obtain ⟨hargs, hP_, hK_⟩ := hv
  have hx_ := B.exec
  have hb_ := B.bytes
  have hr := B.returns
  have hts := atoms_spec (ws := wsX5_oldIndexOf) B.pre
  have hown : s_.vm.findClass RX5 = some m_.cls := findClass_of_methodNamed B.named
  have hlocks := B.notSynchronized
  have hi5_ : ∀ w_ ∈ wsX50, w_ ∈ wsX5_oldIndexOf := by decide +kernel
  have hf23_ := hts (.fieldLink RX5 23 "RelocatingPatchModel" "oldStart" "[I") (by decide +kernel)
  have hf26_ := hts (.fieldLink RX5 26 "RelocatingPatchModel" "newStart" "[I") (by decide +kernel)
  have hf32_ := hts (.fieldLink RX5 32 "RelocatingPatchModel" "blockAt" "[I") (by decide +kernel)
  have hP_ : va_P G_ vwCl [(am_ 0, .inr (5, [.int (iI ((no_ : Nat) : Int)), .ref (am_ 1), .ref (am_ 2), .int (iI ((nn_ : Nat) : Int)), .ref (am_ 3), .ref (am_ 4), .int (iI (bZ bu_)), .int (iI ((k_ : Nat) : Int)), .ref (am_ 5), .ref (am_ 6), .ref (am_ 7), .ref (am_ 8), .ref (am_ 9), .ref (am_ 10), .int (iI ((cp_ : Nat) : Int)), .ref (am_ 11), .ref (am_ 12), .ref (am_ 13), .ref (am_ 14)])), (am_ 1, .inl (cI, 48, .inl (aI vo_))), (am_ 2, .inl (cZ, 48, .inl (aB fo_))), (am_ 3, .inl (cI, 48, .inl (aI vn_))), (am_ 4, .inl (cZ, 48, .inl (aB fn_))), (am_ 5, .inl (cI, 48, .inl (aN osr))), (am_ 6, .inl (cI, 48, .inl (aN nsr))), (am_ 7, .inl (cI, 48, .inl (aN lnr))), (am_ 8, .inl (cI, 48, .inl (aI ba_))), (am_ 9, .inl (cZ, 48, .inl (aB tk_))), (am_ 10, .inl (cI, 2401, .inl (aN rt_))), (am_ 11, .inl (cI, 48, .inl (aN cd_))), (am_ 12, .inl (cI, 48, .inl (aN so_))), (am_ 13, .inl (cI, 48, .inl (aI me_))), (am_ 14, .inl (cI, 48, .inl (aI bf_)))] s_.heap := hP_
  generalize hQe : MQ below (vp_Si (fun r_ => r_ = iI ((oN os_ ns_ (bx k_ ns_ ln_ y_) y_ : Nat) : Int))) args s_ 0 0 (fun _ => False) = Q_
  have hmd0 := hmd
  obtain ⟨hk_, hB_, hgd, ha_, hba, hso, hcp, hcd⟩ := hmd0
  have hcl : cp_ ≤ 48 := by rw [hcp]; exact Nat.le_trans (its_ok k_ os_ ns_ ln_ k_).1 hk_
  have hbi := bx_in hgd hbx
  rw [show entryFrame m_ args 3 = entryFrame m_ ([.ref (am_ 0), .int (iI ((y_ : Nat) : Int))] : List Value).toArray 3 from by rw [hargs], lg_entry_eq]
  have hl_ := lv_entry ([.ref (am_ 0), .int (iI ((y_ : Nat) : Int))]) (n := 3) (Nat.le_of_ble_eq_true rfl)
  generalize (lg_sl ([.ref (am_ 0), .int (iI ((y_ : Nat) : Int))]) ++ List.replicate (3 - (lg_sl ([.ref (am_ 0), .int (iI ((y_ : Nat) : Int))])).length) Slot.unset).toArray = ls_ at hl_ ⊢
  have hl_ : lv_has ls_ 3 [(0, .ref (am_ 0)), (1, .int (iI ((y_ : Nat) : Int)))] := hl_
  refine lv_aload_n hx_ hb_ dX5_oldIndexOf_0 rfl (lv_at hl_ 0 rfl) ?_
  refine va_get (D := G_) (ci := 5) (v := .ref (am_ 8)) (C := RX5) (T := TX5) (N := 19) hx_ hb_ hts hi5_ hown hK_ hP_ 0 rfl rfl 11 (by decide) hf32_ (fun _ h9 => h9) rfl dX5_oldIndexOf_1 ?_
  refine lv_iload_n hx_ hb_ dX5_oldIndexOf_4 rfl (lv_at hl_ 1 rfl) ?_
  refine q_ildI hx_ hb_ hK_ hP_ 8 rfl (by decide) (y_) (by omega) (wI (bx k_ ns_ ln_ y_) k_ (-10005)) (hba y_ (by omega)) dX5_oldIndexOf_5 ?_
  refine lv_istore_n (lv' := [(2, .int (iI (wI (bx k_ ns_ ln_ y_) k_ (-10005)))), (0, .ref (am_ 0)), (1, .int (iI ((y_ : Nat) : Int)))]) hx_ hb_ dX5_oldIndexOf_6 rfl hl_ (by decide) rfl (fun ls_ hl_ => ?_)
  refine lv_aload_n hx_ hb_ dX5_oldIndexOf_7 rfl (lv_at hl_ 1 rfl) ?_
  refine va_get (D := G_) (ci := 5) (v := .ref (am_ 5)) (C := RX5) (T := TX5) (N := 19) hx_ hb_ hts hi5_ hown hK_ hP_ 0 rfl rfl 8 (by decide) hf23_ (fun _ h9 => h9) rfl dX5_oldIndexOf_8 ?_
  refine lv_iload_n hx_ hb_ dX5_oldIndexOf_11 rfl (lv_at hl_ 0 rfl) ?_
  refine q_cast (b := ((bx k_ ns_ ln_ y_ : Nat) : Int)) (wI_hit hbx) ?_
  refine q_ildN hx_ hb_ hK_ hP_ 5 rfl (by decide) (bx k_ ns_ ln_ y_) (by omega) (os_ (bx k_ ns_ ln_ y_)) ((ha_ (bx k_ ns_ ln_ y_) (by omega)).1) dX5_oldIndexOf_12 ?_
  refine lv_iload_n hx_ hb_ dX5_oldIndexOf_13 rfl (lv_at hl_ 2 rfl) ?_
  refine q_iaddN hx_ hb_ dX5_oldIndexOf_14 ?_
  refine lv_aload_n hx_ hb_ dX5_oldIndexOf_15 rfl (lv_at hl_ 1 rfl) ?_
  refine va_get (D := G_) (ci := 5) (v := .ref (am_ 6)) (C := RX5) (T := TX5) (N := 19) hx_ hb_ hts hi5_ hown hK_ hP_ 0 rfl rfl 9 (by decide) hf26_ (fun _ h9 => h9) rfl dX5_oldIndexOf_16 ?_
  refine lv_iload_n hx_ hb_ dX5_oldIndexOf_19 rfl (lv_at hl_ 0 rfl) ?_
  refine q_cast (b := ((bx k_ ns_ ln_ y_ : Nat) : Int)) (wI_hit hbx) ?_
  refine q_ildN hx_ hb_ hK_ hP_ 6 rfl (by decide) (bx k_ ns_ ln_ y_) (by omega) (ns_ (bx k_ ns_ ln_ y_)) ((ha_ (bx k_ ns_ ln_ y_) (by omega)).2.1) dX5_oldIndexOf_20 ?_
  refine q_isub hx_ hb_ dX5_oldIndexOf_21 ?_
  refine q_cast (b := ((oN os_ ns_ (bx k_ ns_ ln_ y_) y_ : Nat) : Int)) (by unfold oN; omega) ?_
  rw [← hQe]
  exact W.iret hx_ hb_ hr (fun tt1 htt1 hWW1 => ⟨_, rfl, congrArg iI (by first | rfl | omega), htt1⟩) (fun q_ h_ => absurd h_ List.not_mem_nil) dX5_oldIndexOf_22

set_option maxHeartbeats 4000000 in
set_option maxRecDepth 100000 in
/-- predictedAt -/
theorem c_X5_predictedAt (l_ : Launch) (G_ : va_G) (cI cZ : ClassId) (am_ : Nat → Nat) (bu_ : Bool) (no_ : Nat) (vo_ : Nat → Int) (fo_ : Nat → Bool) (nn_ : Nat) (vn_ : Nat → Int) (fn_ : Nat → Bool) (k_ : Nat) (osr nsr lnr : Nat → Nat) (ba_ : Nat → Int) (tk_ : Nat → Bool) (rt_ : Nat → Nat) (cp_ : Nat) (cd_ so_ : Nat → Nat) (me_ bf_ : Nat → Int) (os_ ns_ ln_ : Nat → Nat) (y_ : Nat) (hno : no_ ≤ 48) (hnn : nn_ ≤ 48) (hvo : ∀ j_, 0 ≤ vo_ j_ ∧ vo_ j_ ≤ 9999) (hvn : ∀ j_, 0 ≤ vn_ j_ ∧ vn_ j_ ≤ 9999) (hmd : MdI no_ nn_ k_ os_ ns_ ln_ osr nsr lnr ba_ cp_ cd_ so_) (hy0 : y_ < nn_) (hbx : bx k_ ns_ ln_ y_ < k_) : Ro l_ yX5_predictedAt wsX5_predictedAt ({ frames := 1, cells := 0, slots := 0, locals := 24 }) G_ cI cZ [.ref (am_ 0), .int (iI ((y_ : Nat) : Int))] (wMd cI cZ am_ bu_ no_ vo_ fo_ nn_ vn_ fn_ k_ osr nsr lnr ba_ tk_ rt_ cp_ cd_ so_ me_ bf_) (prd vo_ fo_ k_ os_ ns_ (bx k_ ns_ ln_ y_) y_) := by
  refine Met.ofW (cc := cX5_predictedAt) (maxL := 3) (ret := (some .int)) (by decide) rfl ?_
  intro p_ e_ s_ m_ args below meth c_ s₁ B hml hv
  obtain ⟨hargs, hP_, hK_⟩ := hv
  have hx_ := B.exec
  have hb_ := B.bytes
  have hr := B.returns
  have hts := atoms_spec (ws := wsX5_predictedAt) B.pre
  have hown : s_.vm.findClass RX5 = some m_.cls := findClass_of_methodNamed B.named
  have hlocks := B.notSynchronized
  have hi5_ : ∀ w_ ∈ wsX50, w_ ∈ wsX5_predictedAt := by decide +kernel
  have hf7_ := hts (.fieldLink RX5 7 "RelocatingPatchModel" "oldValue" "[I") (by decide +kernel)
  have hf13_ := hts (.fieldLink RX5 13 "RelocatingPatchModel" "oldAddress" "[Z") (by decide +kernel)
  have hP_ : va_P G_ vwCl [(am_ 0, .inr (5, [.int (iI ((no_ : Nat) : Int)), .ref (am_ 1), .ref (am_ 2), .int (iI ((nn_ : Nat) : Int)), .ref (am_ 3), .ref (am_ 4), .int (iI (bZ bu_)), .int (iI ((k_ : Nat) : Int)), .ref (am_ 5), .ref (am_ 6), .ref (am_ 7), .ref (am_ 8), .ref (am_ 9), .ref (am_ 10), .int (iI ((cp_ : Nat) : Int)), .ref (am_ 11), .ref (am_ 12), .ref (am_ 13), .ref (am_ 14)])), (am_ 1, .inl (cI, 48, .inl (aI vo_))), (am_ 2, .inl (cZ, 48, .inl (aB fo_))), (am_ 3, .inl (cI, 48, .inl (aI vn_))), (am_ 4, .inl (cZ, 48, .inl (aB fn_))), (am_ 5, .inl (cI, 48, .inl (aN osr))), (am_ 6, .inl (cI, 48, .inl (aN nsr))), (am_ 7, .inl (cI, 48, .inl (aN lnr))), (am_ 8, .inl (cI, 48, .inl (aI ba_))), (am_ 9, .inl (cZ, 48, .inl (aB tk_))), (am_ 10, .inl (cI, 2401, .inl (aN rt_))), (am_ 11, .inl (cI, 48, .inl (aN cd_))), (am_ 12, .inl (cI, 48, .inl (aN so_))), (am_ 13, .inl (cI, 48, .inl (aI me_))), (am_ 14, .inl (cI, 48, .inl (aI bf_)))] s_.heap := hP_
  generalize hQe : MQ below (vp_Si (fun r_ => r_ = iI (prd vo_ fo_ k_ os_ ns_ (bx k_ ns_ ln_ y_) y_))) args s_ 0 0 (fun _ => False) = Q_
  have hmd0 := hmd
  obtain ⟨hk_, hB_, hgd, ha_, hba, hso, hcp, hcd⟩ := hmd0
  have hcl : cp_ ≤ 48 := by rw [hcp]; exact Nat.le_trans (its_ok k_ os_ ns_ ln_ k_).1 hk_
  have hbi := bx_in hgd hbx
  have fv1 := hvo (oN os_ ns_ (bx k_ ns_ ln_ y_) y_)
  rw [show entryFrame m_ args 3 = entryFrame m_ ([.ref (am_ 0), .int (iI ((y_ : Nat) : Int))] : List Value).toArray 3 from by rw [hargs], lg_entry_eq]
  have hl_ := lv_entry ([.ref (am_ 0), .int (iI ((y_ : Nat) : Int))]) (n := 3) (Nat.le_of_ble_eq_true rfl)
  generalize (lg_sl ([.ref (am_ 0), .int (iI ((y_ : Nat) : Int))]) ++ List.replicate (3 - (lg_sl ([.ref (am_ 0), .int (iI ((y_ : Nat) : Int))])).length) Slot.unset).toArray = ls_ at hl_ ⊢
  have hl_ : lv_has ls_ 3 [(0, .ref (am_ 0)), (1, .int (iI ((y_ : Nat) : Int)))] := hl_
  refine lv_aload_n hx_ hb_ dX5_predictedAt_0 rfl (lv_at hl_ 0 rfl) ?_
  refine lv_iload_n hx_ hb_ dX5_predictedAt_1 rfl (lv_at hl_ 1 rfl) ?_
  refine ro_V (As := [.int (iI ((y_ : Nat) : Int))]) (rest := []) ⟨hx_, hb_, hml, hown, hts⟩ (c_X5_oldIndexOf l_ G_ cI cZ am_ bu_ no_ vo_ fo_ nn_ vn_ fn_ k_ osr nsr lnr ba_ tk_ rt_ cp_ cd_ so_ me_ bf_ os_ ns_ ln_ y_ hno hnn hvo hvn hmd (by omega) (hbx)) (cwV 1 hts gX5_predictedAt_X5_oldIndexOf rfl rfl rfl (by decide +kernel) ⟨Nat.le_of_ble_eq_true rfl, Nat.le_of_ble_eq_true rfl⟩) (hP_.sub (ws' := [(am_ 0, .inr (5, [.int (iI ((no_ : Nat) : Int)), .ref (am_ 1), .ref (am_ 2), .int (iI ((nn_ : Nat) : Int)), .ref (am_ 3), .ref (am_ 4), .int (iI (bZ bu_)), .int (iI ((k_ : Nat) : Int)), .ref (am_ 5), .ref (am_ 6), .ref (am_ 7), .ref (am_ 8), .ref (am_ 9), .ref (am_ 10), .int (iI ((cp_ : Nat) : Int)), .ref (am_ 11), .ref (am_ 12), .ref (am_ 13), .ref (am_ 14)])), (am_ 1, .inl (cI, 48, .inl (aI vo_))), (am_ 2, .inl (cZ, 48, .inl (aB fo_))), (am_ 3, .inl (cI, 48, .inl (aI vn_))), (am_ 4, .inl (cZ, 48, .inl (aB fn_))), (am_ 5, .inl (cI, 48, .inl (aN osr))), (am_ 6, .inl (cI, 48, .inl (aN nsr))), (am_ 7, .inl (cI, 48, .inl (aN lnr))), (am_ 8, .inl (cI, 48, .inl (aI ba_))), (am_ 9, .inl (cZ, 48, .inl (aB tk_))), (am_ 10, .inl (cI, 2401, .inl (aN rt_))), (am_ 11, .inl (cI, 48, .inl (aN cd_))), (am_ 12, .inl (cI, 48, .inl (aN so_))), (am_ 13, .inl (cI, 48, .inl (aI me_))), (am_ 14, .inl (cI, 48, .inl (aI bf_)))]) [0, 1, 2, 3, 4, 5, 6, 7, 8, 9, 10, 11, 12, 13, 14] rfl) hK_ 0 rfl rfl rfl hl_.1 rfl (Nat.le_of_ble_eq_true rfl) dX5_predictedAt_2 ⟨Nat.zero_le _, Nat.zero_le _⟩ ?_
  refine lv_istore_n (lv' := [(2, .int (iI ((oN os_ ns_ (bx k_ ns_ ln_ y_) y_ : Nat) : Int))), (0, .ref (am_ 0)), (1, .int (iI ((y_ : Nat) : Int)))]) hx_ hb_ dX5_predictedAt_5 rfl hl_ (by decide) rfl (fun ls_ hl_ => ?_)
  refine lv_aload_n hx_ hb_ dX5_predictedAt_6 rfl (lv_at hl_ 1 rfl) ?_
  refine va_get (D := G_) (ci := 5) (v := .ref (am_ 2)) (C := RX5) (T := TX5) (N := 19) hx_ hb_ hts hi5_ hown hK_ hP_ 0 rfl rfl 2 (by decide) hf13_ (fun _ h9 => h9) rfl dX5_predictedAt_7 ?_
  refine lv_iload_n hx_ hb_ dX5_predictedAt_10 rfl (lv_at hl_ 0 rfl) ?_
  refine q_zld hx_ hb_ hK_ hP_ 2 rfl (by decide) (oN os_ ns_ (bx k_ ns_ ln_ y_) y_) (by omega) (fo_ (oN os_ ns_ (bx k_ ns_ ln_ y_) y_)) (rfl) dX5_predictedAt_11 ?_
  refine q_bf (tgt := 28) hx_ hb_ dX5_predictedAt_12 (by decide) (fun c12_ => ?_) (fun c12_ => ?_)
  · skip
    refine lv_aload_n hx_ hb_ dX5_predictedAt_28 rfl (lv_at hl_ 1 rfl) ?_
    refine va_get (D := G_) (ci := 5) (v := .ref (am_ 1)) (C := RX5) (T := TX5) (N := 19) hx_ hb_ hts hi5_ hown hK_ hP_ 0 rfl rfl 1 (by decide) hf7_ (fun _ h9 => h9) rfl dX5_predictedAt_29 ?_
    refine lv_iload_n hx_ hb_ dX5_predictedAt_32 rfl (lv_at hl_ 0 rfl) ?_
    refine q_ildI hx_ hb_ hK_ hP_ 1 rfl (by decide) (oN os_ ns_ (bx k_ ns_ ln_ y_) y_) (by omega) (vo_ (oN os_ ns_ (bx k_ ns_ ln_ y_) y_)) (rfl) dX5_predictedAt_33 ?_
    rw [← hQe]
    exact W.iret hx_ hb_ hr (fun tt1 htt1 hWW1 => ⟨_, rfl, congrArg iI (by unfold prd; rw [if_neg (by rw [c12_]; decide)]), htt1⟩) (fun q_ h_ => absurd h_ List.not_mem_nil) dX5_predictedAt_34
  · skip
    refine lv_aload_n hx_ hb_ dX5_predictedAt_15 rfl (lv_at hl_ 1 rfl) ?_
    refine lv_aload_n hx_ hb_ dX5_predictedAt_16 rfl (lv_at hl_ 1 rfl) ?_
    refine va_get (D := G_) (ci := 5) (v := .ref (am_ 1)) (C := RX5) (T := TX5) (N := 19) hx_ hb_ hts hi5_ hown hK_ hP_ 0 rfl rfl 1 (by decide) hf7_ (fun _ h9 => h9) rfl dX5_predictedAt_17 ?_
    refine lv_iload_n hx_ hb_ dX5_predictedAt_20 rfl (lv_at hl_ 0 rfl) ?_
    refine q_ildI hx_ hb_ hK_ hP_ 1 rfl (by decide) (oN os_ ns_ (bx k_ ns_ ln_ y_) y_) (by omega) (vo_ (oN os_ ns_ (bx k_ ns_ ln_ y_) y_)) (rfl) dX5_predictedAt_21 ?_
    refine ro_V (As := [.int (iI (vo_ (oN os_ ns_ (bx k_ ns_ ln_ y_) y_)))]) (rest := []) ⟨hx_, hb_, hml, hown, hts⟩ (c_X5_predicts l_ G_ cI cZ am_ bu_ no_ vo_ fo_ nn_ vn_ fn_ k_ osr nsr lnr ba_ tk_ rt_ cp_ cd_ so_ me_ bf_ os_ ns_ ln_ (vo_ (oN os_ ns_ (bx k_ ns_ ln_ y_) y_)) hno hnn hvo hvn hmd (by omega) (by omega)) (cwV 1 hts gX5_predictedAt_X5_predicts rfl rfl rfl (by decide +kernel) ⟨Nat.le_of_ble_eq_true rfl, Nat.le_of_ble_eq_true rfl⟩) (hP_.sub (ws' := [(am_ 0, .inr (5, [.int (iI ((no_ : Nat) : Int)), .ref (am_ 1), .ref (am_ 2), .int (iI ((nn_ : Nat) : Int)), .ref (am_ 3), .ref (am_ 4), .int (iI (bZ bu_)), .int (iI ((k_ : Nat) : Int)), .ref (am_ 5), .ref (am_ 6), .ref (am_ 7), .ref (am_ 8), .ref (am_ 9), .ref (am_ 10), .int (iI ((cp_ : Nat) : Int)), .ref (am_ 11), .ref (am_ 12), .ref (am_ 13), .ref (am_ 14)])), (am_ 1, .inl (cI, 48, .inl (aI vo_))), (am_ 2, .inl (cZ, 48, .inl (aB fo_))), (am_ 3, .inl (cI, 48, .inl (aI vn_))), (am_ 4, .inl (cZ, 48, .inl (aB fn_))), (am_ 5, .inl (cI, 48, .inl (aN osr))), (am_ 6, .inl (cI, 48, .inl (aN nsr))), (am_ 7, .inl (cI, 48, .inl (aN lnr))), (am_ 8, .inl (cI, 48, .inl (aI ba_))), (am_ 9, .inl (cZ, 48, .inl (aB tk_))), (am_ 10, .inl (cI, 2401, .inl (aN rt_))), (am_ 11, .inl (cI, 48, .inl (aN cd_))), (am_ 12, .inl (cI, 48, .inl (aN so_))), (am_ 13, .inl (cI, 48, .inl (aI me_))), (am_ 14, .inl (cI, 48, .inl (aI bf_)))]) [0, 1, 2, 3, 4, 5, 6, 7, 8, 9, 10, 11, 12, 13, 14] rfl) hK_ 0 rfl rfl rfl hl_.1 rfl (Nat.le_of_ble_eq_true rfl) dX5_predictedAt_22 ⟨Nat.zero_le _, Nat.zero_le _⟩ ?_
    refine lv_goto (tgt := 34) hx_ hb_ dX5_predictedAt_25 (by decide) ?_
    rw [← hQe]
    exact W.iret hx_ hb_ hr (fun tt1 htt1 hWW1 => ⟨_, rfl, congrArg iI (by unfold prd; rw [if_pos c12_]), htt1⟩) (fun q_ h_ => absurd h_ List.not_mem_nil) dX5_predictedAt_34

set_option maxHeartbeats 4000000 in
set_option maxRecDepth 100000 in
/-- isCorrected -/
theorem c_X5_isCorrected (l_ : Launch) (G_ : va_G) (cI cZ : ClassId) (am_ : Nat → Nat) (bu_ : Bool) (no_ : Nat) (vo_ : Nat → Int) (fo_ : Nat → Bool) (nn_ : Nat) (vn_ : Nat → Int) (fn_ : Nat → Bool) (k_ : Nat) (osr nsr lnr : Nat → Nat) (ba_ : Nat → Int) (tk_ : Nat → Bool) (rt_ : Nat → Nat) (cp_ : Nat) (cd_ so_ : Nat → Nat) (me_ bf_ : Nat → Int) (os_ ns_ ln_ : Nat → Nat) (y_ : Nat) (hno : no_ ≤ 48) (hnn : nn_ ≤ 48) (hvo : ∀ j_, 0 ≤ vo_ j_ ∧ vo_ j_ ≤ 9999) (hvn : ∀ j_, 0 ≤ vn_ j_ ∧ vn_ j_ ≤ 9999) (hmd : MdI no_ nn_ k_ os_ ns_ ln_ osr nsr lnr ba_ cp_ cd_ so_) (hy0 : y_ < nn_) : Ro l_ yX5_isCorrected wsX5_isCorrected ({ frames := 2, cells := 0, slots := 0, locals := 46 }) G_ cI cZ [.ref (am_ 0), .int (iI ((y_ : Nat) : Int))] (wMd cI cZ am_ bu_ no_ vo_ fo_ nn_ vn_ fn_ k_ osr nsr lnr ba_ tk_ rt_ cp_ cd_ so_ me_ bf_) (bZ (ncr vo_ fo_ vn_ k_ os_ ns_ ln_ y_)) := by
  refine Met.ofW (cc := cX5_isCorrected) (maxL := 2) (ret := (some .boolean)) (by decide) rfl ?_
  intro p_ e_ s_ m_ args below meth c_ s₁ B hml hv
  obtain ⟨hargs, hP_, hK_⟩ := hv
  have hx_ := B.exec
  have hb_ := B.bytes
  have hr := B.returns
  have hts := atoms_spec (ws := wsX5_isCorrected) B.pre
  have hown : s_.vm.findClass RX5 = some m_.cls := findClass_of_methodNamed B.named
  have hlocks := B.notSynchronized
  have hi5_ : ∀ w_ ∈ wsX50, w_ ∈ wsX5_isCorrected := by decide +kernel
  have hf17_ := hts (.fieldLink RX5 17 "RelocatingPatchModel" "newValues" "[I") (by decide +kernel)
  have hf32_ := hts (.fieldLink RX5 32 "RelocatingPatchModel" "blockAt" "[I") (by decide +kernel)
  have hP_ : va_P G_ vwCl [(am_ 0, .inr (5, [.int (iI ((no_ : Nat) : Int)), .ref (am_ 1), .ref (am_ 2), .int (iI ((nn_ : Nat) : Int)), .ref (am_ 3), .ref (am_ 4), .int (iI (bZ bu_)), .int (iI ((k_ : Nat) : Int)), .ref (am_ 5), .ref (am_ 6), .ref (am_ 7), .ref (am_ 8), .ref (am_ 9), .ref (am_ 10), .int (iI ((cp_ : Nat) : Int)), .ref (am_ 11), .ref (am_ 12), .ref (am_ 13), .ref (am_ 14)])), (am_ 1, .inl (cI, 48, .inl (aI vo_))), (am_ 2, .inl (cZ, 48, .inl (aB fo_))), (am_ 3, .inl (cI, 48, .inl (aI vn_))), (am_ 4, .inl (cZ, 48, .inl (aB fn_))), (am_ 5, .inl (cI, 48, .inl (aN osr))), (am_ 6, .inl (cI, 48, .inl (aN nsr))), (am_ 7, .inl (cI, 48, .inl (aN lnr))), (am_ 8, .inl (cI, 48, .inl (aI ba_))), (am_ 9, .inl (cZ, 48, .inl (aB tk_))), (am_ 10, .inl (cI, 2401, .inl (aN rt_))), (am_ 11, .inl (cI, 48, .inl (aN cd_))), (am_ 12, .inl (cI, 48, .inl (aN so_))), (am_ 13, .inl (cI, 48, .inl (aI me_))), (am_ 14, .inl (cI, 48, .inl (aI bf_)))] s_.heap := hP_
  generalize hQe : MQ below (vp_Si (fun r_ => r_ = iI (bZ (ncr vo_ fo_ vn_ k_ os_ ns_ ln_ y_)))) args s_ 0 0 (fun _ => False) = Q_
  have hmd0 := hmd
  obtain ⟨hk_, hB_, hgd, ha_, hba, hso, hcp, hcd⟩ := hmd0
  have hcl : cp_ ≤ 48 := by rw [hcp]; exact Nat.le_trans (its_ok k_ os_ ns_ ln_ k_).1 hk_
  have fv2 := hvn y_
  rw [show entryFrame m_ args 2 = entryFrame m_ ([.ref (am_ 0), .int (iI ((y_ : Nat) : Int))] : List Value).toArray 2 from by rw [hargs], lg_entry_eq]
  have hl_ := lv_entry ([.ref (am_ 0), .int (iI ((y_ : Nat) : Int))]) (n := 2) (Nat.le_of_ble_eq_true rfl)
  generalize (lg_sl ([.ref (am_ 0), .int (iI ((y_ : Nat) : Int))]) ++ List.replicate (2 - (lg_sl ([.ref (am_ 0), .int (iI ((y_ : Nat) : Int))])).length) Slot.unset).toArray = ls_ at hl_ ⊢
  have hl_ : lv_has ls_ 2 [(0, .ref (am_ 0)), (1, .int (iI ((y_ : Nat) : Int)))] := hl_
  refine lv_aload_n hx_ hb_ dX5_isCorrected_0 rfl (lv_at hl_ 0 rfl) ?_
  refine va_get (D := G_) (ci := 5) (v := .ref (am_ 8)) (C := RX5) (T := TX5) (N := 19) hx_ hb_ hts hi5_ hown hK_ hP_ 0 rfl rfl 11 (by decide) hf32_ (fun _ h9 => h9) rfl dX5_isCorrected_1 ?_
  refine lv_iload_n hx_ hb_ dX5_isCorrected_4 rfl (lv_at hl_ 1 rfl) ?_
  refine q_ildI hx_ hb_ hK_ hP_ 8 rfl (by decide) (y_) (by omega) (wI (bx k_ ns_ ln_ y_) k_ (-10005)) (hba y_ (by omega)) dX5_isCorrected_5 ?_
  refine lv_sipush (v := iI (-10005)) hx_ hb_ dX5_isCorrected_6 rfl ?_
  refine q_icmp_eq (tgt := 30) hx_ hb_ dX5_isCorrected_9 (by decide) (wI_R hk_ ⟨by decide, by decide⟩) (⟨by decide, by decide⟩) (fun c9_ => ?_) (fun c9_ => ?_)
  · skip
    refine lv_iconst (v := iI ((0 : Nat) : Int)) hx_ hb_ dX5_isCorrected_30 rfl ?_
    rw [← hQe]
    refine q_cast (b := bZ false) rfl ?_
    exact W.zret (v := _) hx_ hb_ hr (nar_bZ _) (fun tt1 htt1 hWW1 => ⟨_, rfl, congrArg iI (congrArg bZ (by unfold ncr; rw [decide_eq_false (wI_nlt (by decide) c9_)]; rfl)), htt1⟩) (fun q_ h_ => absurd h_ List.not_mem_nil) dX5_isCorrected_31
  · skip
    have hbx : bx k_ ns_ ln_ y_ < k_ := wI_ne c9_
    have hbi := bx_in hgd hbx
    have fv3 := prd_R (fo := fo_) (j := (bx k_ ns_ ln_ y_)) (w := y_) hB_ hvo
    have fv4 := hvo (oN os_ ns_ (bx k_ ns_ ln_ y_) y_)
    refine lv_aload_n hx_ hb_ dX5_isCorrected_12 rfl (lv_at hl_ 0 rfl) ?_
    refine lv_iload_n hx_ hb_ dX5_isCorrected_13 rfl (lv_at hl_ 1 rfl) ?_
    refine ro_V (As := [.int (iI ((y_ : Nat) : Int))]) (rest := []) ⟨hx_, hb_, hml, hown, hts⟩ (c_X5_predictedAt l_ G_ cI cZ am_ bu_ no_ vo_ fo_ nn_ vn_ fn_ k_ osr nsr lnr ba_ tk_ rt_ cp_ cd_ so_ me_ bf_ os_ ns_ ln_ y_ hno hnn hvo hvn hmd (by omega) (hbx)) (cwV 1 hts gX5_isCorrected_X5_predictedAt rfl rfl rfl (by decide +kernel) ⟨Nat.le_of_ble_eq_true rfl, Nat.le_of_ble_eq_true rfl⟩) (hP_.sub (ws' := [(am_ 0, .inr (5, [.int (iI ((no_ : Nat) : Int)), .ref (am_ 1), .ref (am_ 2), .int (iI ((nn_ : Nat) : Int)), .ref (am_ 3), .ref (am_ 4), .int (iI (bZ bu_)), .int (iI ((k_ : Nat) : Int)), .ref (am_ 5), .ref (am_ 6), .ref (am_ 7), .ref (am_ 8), .ref (am_ 9), .ref (am_ 10), .int (iI ((cp_ : Nat) : Int)), .ref (am_ 11), .ref (am_ 12), .ref (am_ 13), .ref (am_ 14)])), (am_ 1, .inl (cI, 48, .inl (aI vo_))), (am_ 2, .inl (cZ, 48, .inl (aB fo_))), (am_ 3, .inl (cI, 48, .inl (aI vn_))), (am_ 4, .inl (cZ, 48, .inl (aB fn_))), (am_ 5, .inl (cI, 48, .inl (aN osr))), (am_ 6, .inl (cI, 48, .inl (aN nsr))), (am_ 7, .inl (cI, 48, .inl (aN lnr))), (am_ 8, .inl (cI, 48, .inl (aI ba_))), (am_ 9, .inl (cZ, 48, .inl (aB tk_))), (am_ 10, .inl (cI, 2401, .inl (aN rt_))), (am_ 11, .inl (cI, 48, .inl (aN cd_))), (am_ 12, .inl (cI, 48, .inl (aN so_))), (am_ 13, .inl (cI, 48, .inl (aI me_))), (am_ 14, .inl (cI, 48, .inl (aI bf_)))]) [0, 1, 2, 3, 4, 5, 6, 7, 8, 9, 10, 11, 12, 13, 14] rfl) hK_ 0 rfl rfl rfl hl_.1 rfl (Nat.le_of_ble_eq_true rfl) dX5_isCorrected_14 ⟨Nat.zero_le _, Nat.zero_le _⟩ ?_
    refine lv_aload_n hx_ hb_ dX5_isCorrected_17 rfl (lv_at hl_ 0 rfl) ?_
    refine va_get (D := G_) (ci := 5) (v := .ref (am_ 3)) (C := RX5) (T := TX5) (N := 19) hx_ hb_ hts hi5_ hown hK_ hP_ 0 rfl rfl 4 (by decide) hf17_ (fun _ h9 => h9) rfl dX5_isCorrected_18 ?_
    refine lv_iload_n hx_ hb_ dX5_isCorrected_21 rfl (lv_at hl_ 1 rfl) ?_
    refine q_ildI hx_ hb_ hK_ hP_ 3 rfl (by decide) (y_) (by omega) (vn_ y_) (rfl) dX5_isCorrected_22 ?_
    refine q_icmp_eq (tgt := 30) hx_ hb_ dX5_isCorrected_23 (by decide) (⟨by omega, by omega⟩) (⟨by omega, by omega⟩) (fun c23_ => ?_) (fun c23_ => ?_)
    · skip
      refine lv_iconst (v := iI ((0 : Nat) : Int)) hx_ hb_ dX5_isCorrected_30 rfl ?_
      rw [← hQe]
      refine q_cast (b := bZ false) rfl ?_
      exact W.zret (v := _) hx_ hb_ hr (nar_bZ _) (fun tt1 htt1 hWW1 => ⟨_, rfl, congrArg iI (congrArg bZ (by unfold ncr; rw [decide_eq_false (show ¬ ¬ _ from fun h0_ => h0_ c23_)]; simp)), htt1⟩) (fun q_ h_ => absurd h_ List.not_mem_nil) dX5_isCorrected_31
    · skip
      refine lv_iconst (v := iI ((1 : Nat) : Int)) hx_ hb_ dX5_isCorrected_26 rfl ?_
      refine lv_goto (tgt := 31) hx_ hb_ dX5_isCorrected_27 (by decide) ?_
      rw [← hQe]
      refine q_cast (b := bZ true) rfl ?_
      exact W.zret (v := _) hx_ hb_ hr (nar_bZ _) (fun tt1 htt1 hWW1 => ⟨_, rfl, congrArg iI (congrArg bZ (by unfold ncr; rw [decide_eq_true hbx, decide_eq_true c23_]; rfl)), htt1⟩) (fun q_ h_ => absurd h_ List.not_mem_nil) dX5_isCorrected_31

set_option maxHeartbeats 4000000 in
set_option maxRecDepth 100000 in
/-- isCopied -/
theorem c_X5_isCopied (l_ : Launch) (G_ : va_G) (cI cZ : ClassId) (am_ : Nat → Nat) (bu_ : Bool) (no_ : Nat) (vo_ : Nat → Int) (fo_ : Nat → Bool) (nn_ : Nat) (vn_ : Nat → Int) (fn_ : Nat → Bool) (k_ : Nat) (osr nsr lnr : Nat → Nat) (ba_ : Nat → Int) (tk_ : Nat → Bool) (rt_ : Nat → Nat) (cp_ : Nat) (cd_ so_ : Nat → Nat) (me_ bf_ : Nat → Int) (os_ ns_ ln_ : Nat → Nat) (y_ : Nat) (hno : no_ ≤ 48) (hnn : nn_ ≤ 48) (hvo : ∀ j_, 0 ≤ vo_ j_ ∧ vo_ j_ ≤ 9999) (hvn : ∀ j_, 0 ≤ vn_ j_ ∧ vn_ j_ ≤ 9999) (hmd : MdI no_ nn_ k_ os_ ns_ ln_ osr nsr lnr ba_ cp_ cd_ so_) (hy0 : y_ < nn_) : Ro l_ yX5_isCopied wsX5_isCopied ({ frames := 0, cells := 0, slots := 0, locals := 0 }) G_ cI cZ [.ref (am_ 0), .int (iI ((y_ : Nat) : Int))] (wMd cI cZ am_ bu_ no_ vo_ fo_ nn_ vn_ fn_ k_ osr nsr lnr ba_ tk_ rt_ cp_ cd_ so_ me_ bf_) (bZ (isc k_ os_ ns_ ln_ y_)) := by
  refine Met.ofW (cc := cX5_isCopied) (maxL := 2) (ret := (some .boolean)) (by decide) rfl ?_
  intro p_ e_ s_ m_ args below meth c_ s₁ B hml hv
  obtain ⟨hargs, hP_, hK_⟩ := hv
  have hx_ := B.exec
  have hb_ := B.bytes
  have hr := B.returns
  have hts := atoms_spec (ws := wsX5_isCopied) B.pre
  have hown : s_.vm.findClass RX5 = some m_.cls := findClass_of_methodNamed B.named
  have hlocks := B.notSynchronized
  have hi5_ : ∀ w_ ∈ wsX50, w_ ∈ wsX5_isCopied := by decide +kernel
  have hf32_ := hts (.fieldLink RX5 32 "RelocatingPatchModel" "blockAt" "[I") (by decide +kernel)
  have hf44_ := hts (.fieldLink RX5 44 "RelocatingPatchModel" "stateOf" "[I") (by decide +kernel)
  have hP_ : va_P G_ vwCl [(am_ 0, .inr (5, [.int (iI ((no_ : Nat) : Int)), .ref (am_ 1), .ref (am_ 2), .int (iI ((nn_ : Nat) : Int)), .ref (am_ 3), .ref (am_ 4), .int (iI (bZ bu_)), .int (iI ((k_ : Nat) : Int)), .ref (am_ 5), .ref (am_ 6), .ref (am_ 7), .ref (am_ 8), .ref (am_ 9), .ref (am_ 10), .int (iI ((cp_ : Nat) : Int)), .ref (am_ 11), .ref (am_ 12), .ref (am_ 13), .ref (am_ 14)])), (am_ 1, .inl (cI, 48, .inl (aI vo_))), (am_ 2, .inl (cZ, 48, .inl (aB fo_))), (am_ 3, .inl (cI, 48, .inl (aI vn_))), (am_ 4, .inl (cZ, 48, .inl (aB fn_))), (am_ 5, .inl (cI, 48, .inl (aN osr))), (am_ 6, .inl (cI, 48, .inl (aN nsr))), (am_ 7, .inl (cI, 48, .inl (aN lnr))), (am_ 8, .inl (cI, 48, .inl (aI ba_))), (am_ 9, .inl (cZ, 48, .inl (aB tk_))), (am_ 10, .inl (cI, 2401, .inl (aN rt_))), (am_ 11, .inl (cI, 48, .inl (aN cd_))), (am_ 12, .inl (cI, 48, .inl (aN so_))), (am_ 13, .inl (cI, 48, .inl (aI me_))), (am_ 14, .inl (cI, 48, .inl (aI bf_)))] s_.heap := hP_
  generalize hQe : MQ below (vp_Si (fun r_ => r_ = iI (bZ (isc k_ os_ ns_ ln_ y_)))) args s_ 0 0 (fun _ => False) = Q_
  have hmd0 := hmd
  obtain ⟨hk_, hB_, hgd, ha_, hba, hso, hcp, hcd⟩ := hmd0
  have hcl : cp_ ≤ 48 := by rw [hcp]; exact Nat.le_trans (its_ok k_ os_ ns_ ln_ k_).1 hk_
  rw [show entryFrame m_ args 2 = entryFrame m_ ([.ref (am_ 0), .int (iI ((y_ : Nat) : Int))] : List Value).toArray 2 from by rw [hargs], lg_entry_eq]
  have hl_ := lv_entry ([.ref (am_ 0), .int (iI ((y_ : Nat) : Int))]) (n := 2) (Nat.le_of_ble_eq_true rfl)
  generalize (lg_sl ([.ref (am_ 0), .int (iI ((y_ : Nat) : Int))]) ++ List.replicate (2 - (lg_sl ([.ref (am_ 0), .int (iI ((y_ : Nat) : Int))])).length) Slot.unset).toArray = ls_ at hl_ ⊢
  have hl_ : lv_has ls_ 2 [(0, .ref (am_ 0)), (1, .int (iI ((y_ : Nat) : Int)))] := hl_
  refine lv_aload_n hx_ hb_ dX5_isCopied_0 rfl (lv_at hl_ 0 rfl) ?_
  refine va_get (D := G_) (ci := 5) (v := .ref (am_ 8)) (C := RX5) (T := TX5) (N := 19) hx_ hb_ hts hi5_ hown hK_ hP_ 0 rfl rfl 11 (by decide) hf32_ (fun _ h9 => h9) rfl dX5_isCopied_1 ?_
  refine lv_iload_n hx_ hb_ dX5_isCopied_4 rfl (lv_at hl_ 1 rfl) ?_
  refine q_ildI hx_ hb_ hK_ hP_ 8 rfl (by decide) (y_) (by omega) (wI (bx k_ ns_ ln_ y_) k_ (-10005)) (hba y_ (by omega)) dX5_isCopied_5 ?_
  refine lv_sipush (v := iI (-10005)) hx_ hb_ dX5_isCopied_6 rfl ?_
  refine q_icmp_eq (tgt := 31) hx_ hb_ dX5_isCopied_9 (by decide) (wI_R hk_ ⟨by decide, by decide⟩) (⟨by decide, by decide⟩) (fun c9_ => ?_) (fun c9_ => ?_)
  · skip
    refine lv_iconst (v := iI ((0 : Nat) : Int)) hx_ hb_ dX5_isCopied_31 rfl ?_
    rw [← hQe]
    refine q_cast (b := bZ false) rfl ?_
    exact W.zret (v := _) hx_ hb_ hr (nar_bZ _) (fun tt1 htt1 hWW1 => ⟨_, rfl, congrArg iI (congrArg bZ (by unfold isc; rw [decide_eq_false (wI_nlt (by decide) c9_)]; rfl)), htt1⟩) (fun q_ h_ => absurd h_ List.not_mem_nil) dX5_isCopied_32
  · skip
    have hbx : bx k_ ns_ ln_ y_ < k_ := wI_ne c9_
    have hdn := its_done k_ os_ ns_ ln_ hbx
    refine lv_aload_n hx_ hb_ dX5_isCopied_12 rfl (lv_at hl_ 0 rfl) ?_
    refine va_get (D := G_) (ci := 5) (v := .ref (am_ 12)) (C := RX5) (T := TX5) (N := 19) hx_ hb_ hts hi5_ hown hK_ hP_ 0 rfl rfl 16 (by decide) hf44_ (fun _ h9 => h9) rfl dX5_isCopied_13 ?_
    refine lv_aload_n hx_ hb_ dX5_isCopied_16 rfl (lv_at hl_ 0 rfl) ?_
    refine va_get (D := G_) (ci := 5) (v := .ref (am_ 8)) (C := RX5) (T := TX5) (N := 19) hx_ hb_ hts hi5_ hown hK_ hP_ 0 rfl rfl 11 (by decide) hf32_ (fun _ h9 => h9) rfl dX5_isCopied_17 ?_
    refine lv_iload_n hx_ hb_ dX5_isCopied_20 rfl (lv_at hl_ 1 rfl) ?_
    refine q_ildI hx_ hb_ hK_ hP_ 8 rfl (by decide) (y_) (by omega) (wI (bx k_ ns_ ln_ y_) k_ (-10005)) (hba y_ (by omega)) dX5_isCopied_21 ?_
    refine q_cast (b := ((bx k_ ns_ ln_ y_ : Nat) : Int)) (wI_hit hbx) ?_
    refine q_ildN hx_ hb_ hK_ hP_ 12 rfl (by decide) (bx k_ ns_ ln_ y_) (by omega) ((its k_ os_ ns_ ln_ k_).1 (bx k_ ns_ ln_ y_)) (hso (bx k_ ns_ ln_ y_) hbx) dX5_isCopied_22 ?_
    refine lv_iconst (v := iI ((1 : Nat) : Int)) hx_ hb_ dX5_isCopied_23 rfl ?_
    refine q_icmp_ne (tgt := 31) hx_ hb_ dX5_isCopied_24 (by decide) (⟨by omega, by omega⟩) (⟨by decide, by decide⟩) (fun c24_ => ?_) (fun c24_ => ?_)
    · skip
      refine lv_iconst (v := iI ((0 : Nat) : Int)) hx_ hb_ dX5_isCopied_31 rfl ?_
      rw [← hQe]
      refine q_cast (b := bZ false) rfl ?_
      exact W.zret (v := _) hx_ hb_ hr (nar_bZ _) (fun tt1 htt1 hWW1 => ⟨_, rfl, congrArg iI (congrArg bZ (by unfold isc; rw [decide_eq_false (show ¬ ¬ _ from fun h0_ => h0_ (by omega))]; simp)), htt1⟩) (fun q_ h_ => absurd h_ List.not_mem_nil) dX5_isCopied_32
    · skip
      refine lv_iconst (v := iI ((1 : Nat) : Int)) hx_ hb_ dX5_isCopied_27 rfl ?_
      refine lv_goto (tgt := 32) hx_ hb_ dX5_isCopied_28 (by decide) ?_
      rw [← hQe]
      refine q_cast (b := bZ true) rfl ?_
      exact W.zret (v := _) hx_ hb_ hr (nar_bZ _) (fun tt1 htt1 hWW1 => ⟨_, rfl, congrArg iI (congrArg bZ (by unfold isc; rw [decide_eq_true hbx, decide_eq_true (by omega)]; rfl)), htt1⟩) (fun q_ h_ => absurd h_ List.not_mem_nil) dX5_isCopied_32

set_option maxHeartbeats 4000000 in
set_option maxRecDepth 100000 in
/-- predictedValue -/
theorem c_X5_predictedValue (l_ : Launch) (G_ : va_G) (cI cZ : ClassId) (am_ : Nat → Nat) (bu_ : Bool) (no_ : Nat) (vo_ : Nat → Int) (fo_ : Nat → Bool) (nn_ : Nat) (vn_ : Nat → Int) (fn_ : Nat → Bool) (kr : Nat) (osr nsr lnr : Nat → Nat) (ba_ : Nat → Int) (tk_ : Nat → Bool) (rt_ : Nat → Nat) (cp_ : Nat) (cd_ so_ : Nat → Nat) (me_ bf_ : Nat → Int) (k_ : Nat) (os_ ns_ ln_ : Nat → Nat) (x_ : Int) (hno : no_ ≤ 48) (hnn : nn_ ≤ 48) (hvo : ∀ j_, 0 ≤ vo_ j_ ∧ vo_ j_ ≤ 9999) (hvn : ∀ j_, 0 ≤ vn_ j_ ∧ vn_ j_ ≤ 9999) (hmb : bu_ = true → k_ = kr ∧ MdI no_ nn_ k_ os_ ns_ ln_ osr nsr lnr ba_ cp_ cd_ so_) (hx1 : -2147483648 ≤ x_) (hx2 : x_ < 2147483648) : Ro l_ yX5_predictedValue wsX5_predictedValue ({ frames := 2, cells := 0, slots := 0, locals := 46 }) G_ cI cZ [.ref (am_ 0), .int (iI (x_))] (wMd cI cZ am_ bu_ no_ vo_ fo_ nn_ vn_ fn_ kr osr nsr lnr ba_ tk_ rt_ cp_ cd_ so_ me_ bf_) (A_pvl bu_ nn_ vo_ fo_ k_ os_ ns_ ln_ x_) := by
  refine Met.ofW (cc := cX5_predictedValue) (maxL := 2) (ret := (some .int)) (by decide) rfl ?_
  intro p_ e_ s_ m_ args below meth c_ s₁ B hml hv
  obtain ⟨hargs, hP_, hK_⟩ := hv
  have hx_ := B.exec
  have hb_ := B.bytes
  have hr := B.returns
  have hts := atoms_spec (ws := wsX5_predictedValue) B.pre
  have hown : s_.vm.findClass RX5 = some m_.cls := findClass_of_methodNamed B.named
  have hlocks := B.notSynchronized
  have hi5_ : ∀ w_ ∈ wsX50, w_ ∈ wsX5_predictedValue := by decide +kernel
  have hf32_ := hts (.fieldLink RX5 32 "RelocatingPatchModel" "blockAt" "[I") (by decide +kernel)
  have hf53_ := hts (.fieldLink RX5 53 "RelocatingPatchModel" "isBuilt" "Z") (by decide +kernel)
  have hP_ : va_P G_ vwCl [(am_ 0, .inr (5, [.int (iI ((no_ : Nat) : Int)), .ref (am_ 1), .ref (am_ 2), .int (iI ((nn_ : Nat) : Int)), .ref (am_ 3), .ref (am_ 4), .int (iI (bZ bu_)), .int (iI ((kr : Nat) : Int)), .ref (am_ 5), .ref (am_ 6), .ref (am_ 7), .ref (am_ 8), .ref (am_ 9), .ref (am_ 10), .int (iI ((cp_ : Nat) : Int)), .ref (am_ 11), .ref (am_ 12), .ref (am_ 13), .ref (am_ 14)])), (am_ 1, .inl (cI, 48, .inl (aI vo_))), (am_ 2, .inl (cZ, 48, .inl (aB fo_))), (am_ 3, .inl (cI, 48, .inl (aI vn_))), (am_ 4, .inl (cZ, 48, .inl (aB fn_))), (am_ 5, .inl (cI, 48, .inl (aN osr))), (am_ 6, .inl (cI, 48, .inl (aN nsr))), (am_ 7, .inl (cI, 48, .inl (aN lnr))), (am_ 8, .inl (cI, 48, .inl (aI ba_))), (am_ 9, .inl (cZ, 48, .inl (aB tk_))), (am_ 10, .inl (cI, 2401, .inl (aN rt_))), (am_ 11, .inl (cI, 48, .inl (aN cd_))), (am_ 12, .inl (cI, 48, .inl (aN so_))), (am_ 13, .inl (cI, 48, .inl (aI me_))), (am_ 14, .inl (cI, 48, .inl (aI bf_)))] s_.heap := hP_
  generalize hQe : MQ below (vp_Si (fun r_ => r_ = iI (A_pvl bu_ nn_ vo_ fo_ k_ os_ ns_ ln_ x_))) args s_ 0 0 (fun _ => False) = Q_
  rw [show entryFrame m_ args 2 = entryFrame m_ ([.ref (am_ 0), .int (iI (x_))] : List Value).toArray 2 from by rw [hargs], lg_entry_eq]
  have hl_ := lv_entry ([.ref (am_ 0), .int (iI (x_))]) (n := 2) (Nat.le_of_ble_eq_true rfl)
  generalize (lg_sl ([.ref (am_ 0), .int (iI (x_))]) ++ List.replicate (2 - (lg_sl ([.ref (am_ 0), .int (iI (x_))])).length) Slot.unset).toArray = ls_ at hl_ ⊢
  have hl_ : lv_has ls_ 2 [(0, .ref (am_ 0)), (1, .int (iI (x_)))] := hl_
  refine lv_aload_n hx_ hb_ dX5_predictedValue_0 rfl (lv_at hl_ 0 rfl) ?_
  refine va_get (D := G_) (ci := 5) (v := .int (iI (bZ bu_))) (C := RX5) (T := TX5) (N := 19) hx_ hb_ hts hi5_ hown hK_ hP_ 0 rfl rfl 6 (by decide) hf53_ (fun _ h9 => h9) rfl dX5_predictedValue_1 ?_
  refine q_bt (tgt := 11) hx_ hb_ dX5_predictedValue_4 (by decide) (fun c4_ => ?_) (fun c4_ => ?_)
  · skip
    obtain ⟨hkr, hmd⟩ := hmb c4_
    have hmd0 := hmd
    obtain ⟨hk_, hB_, hgd, ha_, hba, hso, hcp, hcd⟩ := hmd0
    have hcl : cp_ ≤ 48 := by rw [hcp]; exact Nat.le_trans (its_ok k_ os_ ns_ ln_ k_).1 hk_
    have hP_ : va_P G_ vwCl [(am_ 0, .inr (5, [.int (iI ((no_ : Nat) : Int)), .ref (am_ 1), .ref (am_ 2), .int (iI ((nn_ : Nat) : Int)), .ref (am_ 3), .ref (am_ 4), .int (iI (bZ bu_)), .int (iI ((k_ : Nat) : Int)), .ref (am_ 5), .ref (am_ 6), .ref (am_ 7), .ref (am_ 8), .ref (am_ 9), .ref (am_ 10), .int (iI ((cp_ : Nat) : Int)), .ref (am_ 11), .ref (am_ 12), .ref (am_ 13), .ref (am_ 14)])), (am_ 1, .inl (cI, 48, .inl (aI vo_))), (am_ 2, .inl (cZ, 48, .inl (aB fo_))), (am_ 3, .inl (cI, 48, .inl (aI vn_))), (am_ 4, .inl (cZ, 48, .inl (aB fn_))), (am_ 5, .inl (cI, 48, .inl (aN osr))), (am_ 6, .inl (cI, 48, .inl (aN nsr))), (am_ 7, .inl (cI, 48, .inl (aN lnr))), (am_ 8, .inl (cI, 48, .inl (aI ba_))), (am_ 9, .inl (cZ, 48, .inl (aB tk_))), (am_ 10, .inl (cI, 2401, .inl (aN rt_))), (am_ 11, .inl (cI, 48, .inl (aN cd_))), (am_ 12, .inl (cI, 48, .inl (aN so_))), (am_ 13, .inl (cI, 48, .inl (aI me_))), (am_ 14, .inl (cI, 48, .inl (aI bf_)))] s_.heap := by rw [hkr]; exact hP_
    refine lv_aload_n hx_ hb_ dX5_predictedValue_11 rfl (lv_at hl_ 0 rfl) ?_
    refine lv_iload_n hx_ hb_ dX5_predictedValue_12 rfl (lv_at hl_ 1 rfl) ?_
    refine ro_V (As := [.int (iI (x_))]) (rest := []) ⟨hx_, hb_, hml, hown, hts⟩ (c_X5_isNew l_ G_ cI cZ am_ bu_ no_ vo_ fo_ nn_ vn_ fn_ k_ osr nsr lnr ba_ tk_ rt_ cp_ cd_ so_ me_ bf_ (x_) (by omega) (by omega) (by omega)) (cwV 1 hts gX5_predictedValue_X5_isNew rfl rfl rfl (by decide +kernel) ⟨Nat.le_of_ble_eq_true rfl, Nat.le_of_ble_eq_true rfl⟩) (hP_.sub (ws' := [(am_ 0, .inr (5, [.int (iI ((no_ : Nat) : Int)), .ref (am_ 1), .ref (am_ 2), .int (iI ((nn_ : Nat) : Int)), .ref (am_ 3), .ref (am_ 4), .int (iI (bZ bu_)), .int (iI ((k_ : Nat) : Int)), .ref (am_ 5), .ref (am_ 6), .ref (am_ 7), .ref (am_ 8), .ref (am_ 9), .ref (am_ 10), .int (iI ((cp_ : Nat) : Int)), .ref (am_ 11), .ref (am_ 12), .ref (am_ 13), .ref (am_ 14)])), (am_ 1, .inl (cI, 48, .inl (aI vo_))), (am_ 2, .inl (cZ, 48, .inl (aB fo_))), (am_ 3, .inl (cI, 48, .inl (aI vn_))), (am_ 4, .inl (cZ, 48, .inl (aB fn_))), (am_ 5, .inl (cI, 48, .inl (aN osr))), (am_ 6, .inl (cI, 48, .inl (aN nsr))), (am_ 7, .inl (cI, 48, .inl (aN lnr))), (am_ 8, .inl (cI, 48, .inl (aI ba_))), (am_ 9, .inl (cZ, 48, .inl (aB tk_))), (am_ 10, .inl (cI, 2401, .inl (aN rt_))), (am_ 11, .inl (cI, 48, .inl (aN cd_))), (am_ 12, .inl (cI, 48, .inl (aN so_))), (am_ 13, .inl (cI, 48, .inl (aI me_))), (am_ 14, .inl (cI, 48, .inl (aI bf_)))]) [0, 1, 2, 3, 4, 5, 6, 7, 8, 9, 10, 11, 12, 13, 14] rfl) hK_ 0 rfl rfl rfl hl_.1 rfl (Nat.le_of_ble_eq_true rfl) dX5_predictedValue_13 ⟨Nat.zero_le _, Nat.zero_le _⟩ ?_
    refine q_dt (tgt := 23) hx_ hb_ dX5_predictedValue_16 (by decide) (fun c16_ => ?_) (fun c16_ => ?_)
    · skip
      refine lv_aload_n hx_ hb_ dX5_predictedValue_23 rfl (lv_at hl_ 0 rfl) ?_
      refine va_get (D := G_) (ci := 5) (v := .ref (am_ 8)) (C := RX5) (T := TX5) (N := 19) hx_ hb_ hts hi5_ hown hK_ hP_ 0 rfl rfl 11 (by decide) hf32_ (fun _ h9 => h9) rfl dX5_predictedValue_24 ?_
      refine lv_iload_n hx_ hb_ dX5_predictedValue_27 rfl (lv_at hl_ 1 rfl) ?_
      refine q_cast (b := ((x_.toNat : Nat) : Int)) (by omega) ?_
      refine q_ildI hx_ hb_ hK_ hP_ 8 rfl (by decide) (x_.toNat) (by omega) (wI (bx k_ ns_ ln_ x_.toNat) k_ (-10005)) (hba x_.toNat (by omega)) dX5_predictedValue_28 ?_
      refine lv_sipush (v := iI (-10005)) hx_ hb_ dX5_predictedValue_29 rfl ?_
      refine q_icmp_ne (tgt := 41) hx_ hb_ dX5_predictedValue_32 (by decide) (wI_R hk_ ⟨by decide, by decide⟩) (⟨by decide, by decide⟩) (fun c32_ => ?_) (fun c32_ => ?_)
      · skip
        have hbx : bx k_ ns_ ln_ x_.toNat < k_ := wI_ne c32_
        refine lv_aload_n hx_ hb_ dX5_predictedValue_41 rfl (lv_at hl_ 0 rfl) ?_
        refine lv_iload_n hx_ hb_ dX5_predictedValue_42 rfl (lv_at hl_ 1 rfl) ?_
        refine q_cast (b := ((x_.toNat : Nat) : Int)) (by omega) ?_
        refine ro_V (As := [.int (iI ((x_.toNat : Nat) : Int))]) (rest := []) ⟨hx_, hb_, hml, hown, hts⟩ (c_X5_predictedAt l_ G_ cI cZ am_ bu_ no_ vo_ fo_ nn_ vn_ fn_ k_ osr nsr lnr ba_ tk_ rt_ cp_ cd_ so_ me_ bf_ os_ ns_ ln_ x_.toNat hno hnn hvo hvn hmd (by omega) (hbx)) (cwV 1 hts gX5_predictedValue_X5_predictedAt rfl rfl rfl (by decide +kernel) ⟨Nat.le_of_ble_eq_true rfl, Nat.le_of_ble_eq_true rfl⟩) (hP_.sub (ws' := [(am_ 0, .inr (5, [.int (iI ((no_ : Nat) : Int)), .ref (am_ 1), .ref (am_ 2), .int (iI ((nn_ : Nat) : Int)), .ref (am_ 3), .ref (am_ 4), .int (iI (bZ bu_)), .int (iI ((k_ : Nat) : Int)), .ref (am_ 5), .ref (am_ 6), .ref (am_ 7), .ref (am_ 8), .ref (am_ 9), .ref (am_ 10), .int (iI ((cp_ : Nat) : Int)), .ref (am_ 11), .ref (am_ 12), .ref (am_ 13), .ref (am_ 14)])), (am_ 1, .inl (cI, 48, .inl (aI vo_))), (am_ 2, .inl (cZ, 48, .inl (aB fo_))), (am_ 3, .inl (cI, 48, .inl (aI vn_))), (am_ 4, .inl (cZ, 48, .inl (aB fn_))), (am_ 5, .inl (cI, 48, .inl (aN osr))), (am_ 6, .inl (cI, 48, .inl (aN nsr))), (am_ 7, .inl (cI, 48, .inl (aN lnr))), (am_ 8, .inl (cI, 48, .inl (aI ba_))), (am_ 9, .inl (cZ, 48, .inl (aB tk_))), (am_ 10, .inl (cI, 2401, .inl (aN rt_))), (am_ 11, .inl (cI, 48, .inl (aN cd_))), (am_ 12, .inl (cI, 48, .inl (aN so_))), (am_ 13, .inl (cI, 48, .inl (aI me_))), (am_ 14, .inl (cI, 48, .inl (aI bf_)))]) [0, 1, 2, 3, 4, 5, 6, 7, 8, 9, 10, 11, 12, 13, 14] rfl) hK_ 0 rfl rfl rfl hl_.1 rfl (Nat.le_of_ble_eq_true rfl) dX5_predictedValue_43 ⟨Nat.zero_le _, Nat.zero_le _⟩ ?_
        rw [← hQe]
        exact W.iret hx_ hb_ hr (fun tt1 htt1 hWW1 => ⟨_, rfl, congrArg iI (by unfold A_pvl; rw [if_pos c4_, if_pos c16_, if_pos hbx]), htt1⟩) (fun q_ h_ => absurd h_ List.not_mem_nil) dX5_predictedValue_46
      · skip
        refine lv_sipush (v := iI (-10005)) hx_ hb_ dX5_predictedValue_35 rfl ?_
        refine lv_goto (tgt := 46) hx_ hb_ dX5_predictedValue_38 (by decide) ?_
        rw [← hQe]
        exact W.iret hx_ hb_ hr (fun tt1 htt1 hWW1 => ⟨_, rfl, congrArg iI (by unfold A_pvl; rw [if_pos c4_, if_pos c16_, if_neg (wI_nlt (by decide) c32_)]), htt1⟩) (fun q_ h_ => absurd h_ List.not_mem_nil) dX5_predictedValue_46
    · skip
      refine lv_sipush (v := iI (-10003)) hx_ hb_ dX5_predictedValue_19 rfl ?_
      rw [← hQe]
      exact W.iret hx_ hb_ hr (fun tt1 htt1 hWW1 => ⟨_, rfl, congrArg iI (if3 c4_ c16_), htt1⟩) (fun q_ h_ => absurd h_ List.not_mem_nil) dX5_predictedValue_22
  · skip
    refine lv_sipush (v := iI (-10004)) hx_ hb_ dX5_predictedValue_7 rfl ?_
    rw [← hQe]
    exact W.iret hx_ hb_ hr (fun tt1 htt1 hWW1 => ⟨_, rfl, congrArg iI (if0 c4_), htt1⟩) (fun q_ h_ => absurd h_ List.not_mem_nil) dX5_predictedValue_10

set_option maxHeartbeats 4000000 in
set_option maxRecDepth 100000 in
/-- corrections -/
theorem c_X5_corrections (l_ : Launch) (G_ : va_G) (cI cZ : ClassId) (am_ : Nat → Nat) (bu_ : Bool) (no_ : Nat) (vo_ : Nat → Int) (fo_ : Nat → Bool) (nn_ : Nat) (vn_ : Nat → Int) (fn_ : Nat → Bool) (k_ : Nat) (osr nsr lnr : Nat → Nat) (ba_ : Nat → Int) (tk_ : Nat → Bool) (rt_ : Nat → Nat) (cp_ : Nat) (cd_ so_ : Nat → Nat) (me_ bf_ : Nat → Int) (os_ ns_ ln_ : Nat → Nat)  (hno : no_ ≤ 48) (hnn : nn_ ≤ 48) (hvo : ∀ j_, 0 ≤ vo_ j_ ∧ vo_ j_ ≤ 9999) (hvn : ∀ j_, 0 ≤ vn_ j_ ∧ vn_ j_ ≤ 9999) (hmd : MdI no_ nn_ k_ os_ ns_ ln_ osr nsr lnr ba_ cp_ cd_ so_) : Ro l_ yX5_corrections wsX5_corrections ({ frames := 3, cells := 0, slots := 0, locals := 67 }) G_ cI cZ [.ref (am_ 0)] (wMd cI cZ am_ bu_ no_ vo_ fo_ nn_ vn_ fn_ k_ osr nsr lnr ba_ tk_ rt_ cp_ cd_ so_ me_ bf_) ((cnt (ncr vo_ fo_ vn_ k_ os_ ns_ ln_) nn_ : Nat) : Int) := by
  refine Met.ofW (cc := cX5_corrections) (maxL := 3) (ret := (some .int)) (by decide) rfl ?_
  intro p_ e_ s_ m_ args below meth c_ s₁ B hml hv
  obtain ⟨hargs, hP_, hK_⟩ := hv
  have hx_ := B.exec
  have hb_ := B.bytes
  have hr := B.returns
  have hts := atoms_spec (ws := wsX5_corrections) B.pre
  have hown : s_.vm.findClass RX5 = some m_.cls := findClass_of_methodNamed B.named
  have hlocks := B.notSynchronized
  have hi5_ : ∀ w_ ∈ wsX50, w_ ∈ wsX5_corrections := by decide +kernel
  have hf57_ := hts (.fieldLink RX5 57 "RelocatingPatchModel" "news" "I") (by decide +kernel)
  have hP_ : va_P G_ vwCl [(am_ 0, .inr (5, [.int (iI ((no_ : Nat) : Int)), .ref (am_ 1), .ref (am_ 2), .int (iI ((nn_ : Nat) : Int)), .ref (am_ 3), .ref (am_ 4), .int (iI (bZ bu_)), .int (iI ((k_ : Nat) : Int)), .ref (am_ 5), .ref (am_ 6), .ref (am_ 7), .ref (am_ 8), .ref (am_ 9), .ref (am_ 10), .int (iI ((cp_ : Nat) : Int)), .ref (am_ 11), .ref (am_ 12), .ref (am_ 13), .ref (am_ 14)])), (am_ 1, .inl (cI, 48, .inl (aI vo_))), (am_ 2, .inl (cZ, 48, .inl (aB fo_))), (am_ 3, .inl (cI, 48, .inl (aI vn_))), (am_ 4, .inl (cZ, 48, .inl (aB fn_))), (am_ 5, .inl (cI, 48, .inl (aN osr))), (am_ 6, .inl (cI, 48, .inl (aN nsr))), (am_ 7, .inl (cI, 48, .inl (aN lnr))), (am_ 8, .inl (cI, 48, .inl (aI ba_))), (am_ 9, .inl (cZ, 48, .inl (aB tk_))), (am_ 10, .inl (cI, 2401, .inl (aN rt_))), (am_ 11, .inl (cI, 48, .inl (aN cd_))), (am_ 12, .inl (cI, 48, .inl (aN so_))), (am_ 13, .inl (cI, 48, .inl (aI me_))), (am_ 14, .inl (cI, 48, .inl (aI bf_)))] s_.heap := hP_
  generalize hQe : MQ below (vp_Si (fun r_ => r_ = iI ((cnt (ncr vo_ fo_ vn_ k_ os_ ns_ ln_) nn_ : Nat) : Int))) args s_ 0 0 (fun _ => False) = Q_
  have hmd0 := hmd
  obtain ⟨hk_, hB_, hgd, ha_, hba, hso, hcp, hcd⟩ := hmd0
  have hcl : cp_ ≤ 48 := by rw [hcp]; exact Nat.le_trans (its_ok k_ os_ ns_ ln_ k_).1 hk_
  have lp4 : ∀ (n_ : Nat) (i_ : Nat) (q_ : Nat) (ls_ : Array Slot), (i_ ≤ nn_) → (nn_ + 1 ≤ i_ + n_) → (q_ = cnt (ncr vo_ fo_ vn_ k_ os_ ns_ ln_) i_) → lv_has ls_ 3 [(0, .ref (am_ 0)), (1, .int (iI ((q_ : Nat) : Int))), (2, .int (iI ((i_ : Nat) : Int)))] → W p_ l_ e_ (headSpec wsX5_corrections ({ frames := 3, cells := 0, slots := 0, locals := 67 })).room s_ m_ args below meth c_ s_.heap [] 0 0 Q_ (F0 m_ 4 ls_ []) := by
    intro n_
    induction n_ with
    | zero =>
      intro i_ q_ ls_ hi_ hn_ hq_
      exact False.elim (by omega)
    | succ n_ ih4 =>
      intro i_ q_ ls_ hi_ hn_ hq_ hl_
      refine lv_iload_n hx_ hb_ dX5_corrections_4 rfl (lv_at hl_ 2 rfl) ?_
      refine lv_aload_n hx_ hb_ dX5_corrections_5 rfl (lv_at hl_ 0 rfl) ?_
      refine va_get (D := G_) (ci := 5) (v := .int (iI ((nn_ : Nat) : Int))) (C := RX5) (T := TX5) (N := 19) hx_ hb_ hts hi5_ hown hK_ hP_ 0 rfl rfl 3 (by decide) hf57_ (fun _ h9 => h9) rfl dX5_corrections_6 ?_
      refine q_icmp_ge (tgt := 34) hx_ hb_ dX5_corrections_9 (by decide) (⟨by omega, by omega⟩) (⟨by omega, by omega⟩) (fun c9_ => ?_) (fun c9_ => ?_)
      · skip
        refine lv_iload_n hx_ hb_ dX5_corrections_34 rfl (lv_at hl_ 1 rfl) ?_
        rw [← hQe]
        exact W.iret hx_ hb_ hr (fun tt1 htt1 hWW1 => ⟨_, rfl, congrArg iI (by rw [hq_, show i_ = nn_ from by omega]), htt1⟩) (fun q_ h_ => absurd h_ List.not_mem_nil) dX5_corrections_35
      · skip
        refine lv_iload_n hx_ hb_ dX5_corrections_12 rfl (lv_at hl_ 1 rfl) ?_
        refine lv_aload_n hx_ hb_ dX5_corrections_13 rfl (lv_at hl_ 0 rfl) ?_
        refine lv_iload_n hx_ hb_ dX5_corrections_14 rfl (lv_at hl_ 2 rfl) ?_
        refine ro_V (As := [.int (iI ((i_ : Nat) : Int))]) (rest := [.int (iI ((q_ : Nat) : Int))]) ⟨hx_, hb_, hml, hown, hts⟩ (c_X5_isCorrected l_ G_ cI cZ am_ bu_ no_ vo_ fo_ nn_ vn_ fn_ k_ osr nsr lnr ba_ tk_ rt_ cp_ cd_ so_ me_ bf_ os_ ns_ ln_ i_ hno hnn hvo hvn hmd (by omega)) (cwV 1 hts gX5_corrections_X5_isCorrected rfl rfl rfl (by decide +kernel) ⟨Nat.le_of_ble_eq_true rfl, Nat.le_of_ble_eq_true rfl⟩) (hP_.sub (ws' := [(am_ 0, .inr (5, [.int (iI ((no_ : Nat) : Int)), .ref (am_ 1), .ref (am_ 2), .int (iI ((nn_ : Nat) : Int)), .ref (am_ 3), .ref (am_ 4), .int (iI (bZ bu_)), .int (iI ((k_ : Nat) : Int)), .ref (am_ 5), .ref (am_ 6), .ref (am_ 7), .ref (am_ 8), .ref (am_ 9), .ref (am_ 10), .int (iI ((cp_ : Nat) : Int)), .ref (am_ 11), .ref (am_ 12), .ref (am_ 13), .ref (am_ 14)])), (am_ 1, .inl (cI, 48, .inl (aI vo_))), (am_ 2, .inl (cZ, 48, .inl (aB fo_))), (am_ 3, .inl (cI, 48, .inl (aI vn_))), (am_ 4, .inl (cZ, 48, .inl (aB fn_))), (am_ 5, .inl (cI, 48, .inl (aN osr))), (am_ 6, .inl (cI, 48, .inl (aN nsr))), (am_ 7, .inl (cI, 48, .inl (aN lnr))), (am_ 8, .inl (cI, 48, .inl (aI ba_))), (am_ 9, .inl (cZ, 48, .inl (aB tk_))), (am_ 10, .inl (cI, 2401, .inl (aN rt_))), (am_ 11, .inl (cI, 48, .inl (aN cd_))), (am_ 12, .inl (cI, 48, .inl (aN so_))), (am_ 13, .inl (cI, 48, .inl (aI me_))), (am_ 14, .inl (cI, 48, .inl (aI bf_)))]) [0, 1, 2, 3, 4, 5, 6, 7, 8, 9, 10, 11, 12, 13, 14] rfl) hK_ 0 rfl rfl rfl hl_.1 rfl (Nat.le_of_ble_eq_true rfl) dX5_corrections_15 ⟨Nat.zero_le _, Nat.zero_le _⟩ ?_
        refine q_bf (tgt := 25) hx_ hb_ dX5_corrections_18 (by decide) (fun c18_ => ?_) (fun c18_ => ?_)
        · skip
          refine lv_iconst (v := iI ((0 : Nat) : Int)) hx_ hb_ dX5_corrections_25 rfl ?_
          refine q_iaddN hx_ hb_ dX5_corrections_26 ?_
          refine lv_istore_n (lv' := [(1, .int (iI ((q_ + 0 : Nat) : Int))), (0, .ref (am_ 0)), (2, .int (iI ((i_ : Nat) : Int)))]) hx_ hb_ dX5_corrections_27 rfl hl_ (by decide) rfl (fun ls_ hl_ => ?_)
          refine q_iinc (k := 2) ((i_ + 1 : Nat) : Int) hx_ hb_ dX5_corrections_28 hl_ rfl (rfl) (by decide) (lv' := [(2, .int (iI ((i_ + 1 : Nat) : Int))), (1, .int (iI ((q_ + 0 : Nat) : Int))), (0, .ref (am_ 0))]) rfl (fun ls_ hl_ => ?_)
          refine lv_goto (tgt := 4) hx_ hb_ dX5_corrections_31 (by decide) ?_
          exact ih4 (i_ + 1) (q_ + 0) ls_ (by omega) (by omega) (by rw [cnt_s0 c18_]; omega) (lv_sub hl_ [2, 1, 0] rfl)
        · skip
          refine lv_iconst (v := iI ((1 : Nat) : Int)) hx_ hb_ dX5_corrections_21 rfl ?_
          refine lv_goto (tgt := 26) hx_ hb_ dX5_corrections_22 (by decide) ?_
          refine q_iaddN hx_ hb_ dX5_corrections_26 ?_
          refine lv_istore_n (lv' := [(1, .int (iI ((q_ + 1 : Nat) : Int))), (0, .ref (am_ 0)), (2, .int (iI ((i_ : Nat) : Int)))]) hx_ hb_ dX5_corrections_27 rfl hl_ (by decide) rfl (fun ls_ hl_ => ?_)
          refine q_iinc (k := 2) ((i_ + 1 : Nat) : Int) hx_ hb_ dX5_corrections_28 hl_ rfl (rfl) (by decide) (lv' := [(2, .int (iI ((i_ + 1 : Nat) : Int))), (1, .int (iI ((q_ + 1 : Nat) : Int))), (0, .ref (am_ 0))]) rfl (fun ls_ hl_ => ?_)
          refine lv_goto (tgt := 4) hx_ hb_ dX5_corrections_31 (by decide) ?_
          exact ih4 (i_ + 1) (q_ + 1) ls_ (by omega) (by omega) (by rw [cnt_s1 c18_]; omega) (lv_sub hl_ [2, 1, 0] rfl)
  rw [show entryFrame m_ args 3 = entryFrame m_ ([.ref (am_ 0)] : List Value).toArray 3 from by rw [hargs], lg_entry_eq]
  have hl_ := lv_entry ([.ref (am_ 0)]) (n := 3) (Nat.le_of_ble_eq_true rfl)
  generalize (lg_sl ([.ref (am_ 0)]) ++ List.replicate (3 - (lg_sl ([.ref (am_ 0)])).length) Slot.unset).toArray = ls_ at hl_ ⊢
  have hl_ : lv_has ls_ 3 [(0, .ref (am_ 0))] := hl_
  refine lv_iconst (v := iI ((0 : Nat) : Int)) hx_ hb_ dX5_corrections_0 rfl ?_
  refine lv_istore_n (lv' := [(1, .int (iI ((0 : Nat) : Int))), (0, .ref (am_ 0))]) hx_ hb_ dX5_corrections_1 rfl hl_ (by decide) rfl (fun ls_ hl_ => ?_)
  refine lv_iconst (v := iI ((0 : Nat) : Int)) hx_ hb_ dX5_corrections_2 rfl ?_
  refine lv_istore_n (lv' := [(2, .int (iI ((0 : Nat) : Int))), (1, .int (iI ((0 : Nat) : Int))), (0, .ref (am_ 0))]) hx_ hb_ dX5_corrections_3 rfl hl_ (by decide) rfl (fun ls_ hl_ => ?_)
  exact lp4 (nn_ + 1) 0 0 ls_ (by omega) (by omega) (rfl) (lv_sub hl_ [2, 1, 0] rfl)

set_option maxHeartbeats 4000000 in
set_option maxRecDepth 100000 in
/-- literals -/
theorem c_X5_literals (l_ : Launch) (G_ : va_G) (cI cZ : ClassId) (am_ : Nat → Nat) (bu_ : Bool) (no_ : Nat) (vo_ : Nat → Int) (fo_ : Nat → Bool) (nn_ : Nat) (vn_ : Nat → Int) (fn_ : Nat → Bool) (k_ : Nat) (osr nsr lnr : Nat → Nat) (ba_ : Nat → Int) (tk_ : Nat → Bool) (rt_ : Nat → Nat) (cp_ : Nat) (cd_ so_ : Nat → Nat) (me_ bf_ : Nat → Int) (os_ ns_ ln_ : Nat → Nat)  (hno : no_ ≤ 48) (hnn : nn_ ≤ 48) (hvo : ∀ j_, 0 ≤ vo_ j_ ∧ vo_ j_ ≤ 9999) (hvn : ∀ j_, 0 ≤ vn_ j_ ∧ vn_ j_ ≤ 9999) (hmd : MdI no_ nn_ k_ os_ ns_ ln_ osr nsr lnr ba_ cp_ cd_ so_) : Ro l_ yX5_literals wsX5_literals ({ frames := 0, cells := 0, slots := 0, locals := 0 }) G_ cI cZ [.ref (am_ 0)] (wMd cI cZ am_ bu_ no_ vo_ fo_ nn_ vn_ fn_ k_ osr nsr lnr ba_ tk_ rt_ cp_ cd_ so_ me_ bf_) ((lit nn_ k_ ns_ ln_ : Nat) : Int) := by
  refine Met.ofW (cc := cX5_literals) (maxL := 3) (ret := (some .int)) (by decide) rfl ?_
  intro p_ e_ s_ m_ args below meth c_ s₁ B hml hv
  obtain ⟨hargs, hP_, hK_⟩ := hv
  have hx_ := B.exec
  have hb_ := B.bytes
  have hr := B.returns
  have hts := atoms_spec (ws := wsX5_literals) B.pre
  have hown : s_.vm.findClass RX5 = some m_.cls := findClass_of_methodNamed B.named
  have hlocks := B.notSynchronized
  have hi5_ : ∀ w_ ∈ wsX50, w_ ∈ wsX5_literals := by decide +kernel
  have hf32_ := hts (.fieldLink RX5 32 "RelocatingPatchModel" "blockAt" "[I") (by decide +kernel)
  have hf57_ := hts (.fieldLink RX5 57 "RelocatingPatchModel" "news" "I") (by decide +kernel)
  have hP_ : va_P G_ vwCl [(am_ 0, .inr (5, [.int (iI ((no_ : Nat) : Int)), .ref (am_ 1), .ref (am_ 2), .int (iI ((nn_ : Nat) : Int)), .ref (am_ 3), .ref (am_ 4), .int (iI (bZ bu_)), .int (iI ((k_ : Nat) : Int)), .ref (am_ 5), .ref (am_ 6), .ref (am_ 7), .ref (am_ 8), .ref (am_ 9), .ref (am_ 10), .int (iI ((cp_ : Nat) : Int)), .ref (am_ 11), .ref (am_ 12), .ref (am_ 13), .ref (am_ 14)])), (am_ 1, .inl (cI, 48, .inl (aI vo_))), (am_ 2, .inl (cZ, 48, .inl (aB fo_))), (am_ 3, .inl (cI, 48, .inl (aI vn_))), (am_ 4, .inl (cZ, 48, .inl (aB fn_))), (am_ 5, .inl (cI, 48, .inl (aN osr))), (am_ 6, .inl (cI, 48, .inl (aN nsr))), (am_ 7, .inl (cI, 48, .inl (aN lnr))), (am_ 8, .inl (cI, 48, .inl (aI ba_))), (am_ 9, .inl (cZ, 48, .inl (aB tk_))), (am_ 10, .inl (cI, 2401, .inl (aN rt_))), (am_ 11, .inl (cI, 48, .inl (aN cd_))), (am_ 12, .inl (cI, 48, .inl (aN so_))), (am_ 13, .inl (cI, 48, .inl (aI me_))), (am_ 14, .inl (cI, 48, .inl (aI bf_)))] s_.heap := hP_
  generalize hQe : MQ below (vp_Si (fun r_ => r_ = iI ((lit nn_ k_ ns_ ln_ : Nat) : Int))) args s_ 0 0 (fun _ => False) = Q_
  have hmd0 := hmd
  obtain ⟨hk_, hB_, hgd, ha_, hba, hso, hcp, hcd⟩ := hmd0
  have hcl : cp_ ≤ 48 := by rw [hcp]; exact Nat.le_trans (its_ok k_ os_ ns_ ln_ k_).1 hk_
  have lp4 : ∀ (n_ : Nat) (i_ : Nat) (q_ : Nat) (ls_ : Array Slot), (i_ ≤ nn_) → (nn_ + 1 ≤ i_ + n_) → (q_ = cnt (fun w_ => decide (¬ bx k_ ns_ ln_ w_ < k_)) i_) → lv_has ls_ 3 [(0, .ref (am_ 0)), (1, .int (iI ((q_ : Nat) : Int))), (2, .int (iI ((i_ : Nat) : Int)))] → W p_ l_ e_ (headSpec wsX5_literals ({ frames := 0, cells := 0, slots := 0, locals := 0 })).room s_ m_ args below meth c_ s_.heap [] 0 0 Q_ (F0 m_ 4 ls_ []) := by
    intro n_
    induction n_ with
    | zero =>
      intro i_ q_ ls_ hi_ hn_ hq_
      exact False.elim (by omega)
    | succ n_ ih4 =>
      intro i_ q_ ls_ hi_ hn_ hq_ hl_
      refine lv_iload_n hx_ hb_ dX5_literals_4 rfl (lv_at hl_ 2 rfl) ?_
      refine lv_aload_n hx_ hb_ dX5_literals_5 rfl (lv_at hl_ 0 rfl) ?_
      refine va_get (D := G_) (ci := 5) (v := .int (iI ((nn_ : Nat) : Int))) (C := RX5) (T := TX5) (N := 19) hx_ hb_ hts hi5_ hown hK_ hP_ 0 rfl rfl 3 (by decide) hf57_ (fun _ h9 => h9) rfl dX5_literals_6 ?_
      refine q_icmp_ge (tgt := 38) hx_ hb_ dX5_literals_9 (by decide) (⟨by omega, by omega⟩) (⟨by omega, by omega⟩) (fun c9_ => ?_) (fun c9_ => ?_)
      · skip
        refine lv_iload_n hx_ hb_ dX5_literals_38 rfl (lv_at hl_ 1 rfl) ?_
        rw [← hQe]
        exact W.iret hx_ hb_ hr (fun tt1 htt1 hWW1 => ⟨_, rfl, congrArg iI (by unfold lit; rw [hq_, show i_ = nn_ from by omega]), htt1⟩) (fun q_ h_ => absurd h_ List.not_mem_nil) dX5_literals_39
      · skip
        refine lv_iload_n hx_ hb_ dX5_literals_12 rfl (lv_at hl_ 1 rfl) ?_
        refine lv_aload_n hx_ hb_ dX5_literals_13 rfl (lv_at hl_ 0 rfl) ?_
        refine va_get (D := G_) (ci := 5) (v := .ref (am_ 8)) (C := RX5) (T := TX5) (N := 19) hx_ hb_ hts hi5_ hown hK_ hP_ 0 rfl rfl 11 (by decide) hf32_ (fun _ h9 => h9) rfl dX5_literals_14 ?_
        refine lv_iload_n hx_ hb_ dX5_literals_17 rfl (lv_at hl_ 2 rfl) ?_
        refine q_ildI hx_ hb_ hK_ hP_ 8 rfl (by decide) (i_) (by omega) (wI (bx k_ ns_ ln_ i_) k_ (-10005)) (hba i_ (by omega)) dX5_literals_18 ?_
        refine lv_sipush (v := iI (-10005)) hx_ hb_ dX5_literals_19 rfl ?_
        refine q_icmp_ne (tgt := 29) hx_ hb_ dX5_literals_22 (by decide) (wI_R hk_ ⟨by decide, by decide⟩) (⟨by decide, by decide⟩) (fun c22_ => ?_) (fun c22_ => ?_)
        · skip
          refine lv_iconst (v := iI ((0 : Nat) : Int)) hx_ hb_ dX5_literals_29 rfl ?_
          refine q_iaddN hx_ hb_ dX5_literals_30 ?_
          refine lv_istore_n (lv' := [(1, .int (iI ((q_ + 0 : Nat) : Int))), (0, .ref (am_ 0)), (2, .int (iI ((i_ : Nat) : Int)))]) hx_ hb_ dX5_literals_31 rfl hl_ (by decide) rfl (fun ls_ hl_ => ?_)
          refine q_iinc (k := 2) ((i_ + 1 : Nat) : Int) hx_ hb_ dX5_literals_32 hl_ rfl (rfl) (by decide) (lv' := [(2, .int (iI ((i_ + 1 : Nat) : Int))), (1, .int (iI ((q_ + 0 : Nat) : Int))), (0, .ref (am_ 0))]) rfl (fun ls_ hl_ => ?_)
          refine lv_goto (tgt := 4) hx_ hb_ dX5_literals_35 (by decide) ?_
          exact ih4 (i_ + 1) (q_ + 0) ls_ (by omega) (by omega) (by rw [cnt_s0 (decide_eq_false (fun h0_ => h0_ (wI_ne c22_)))]; omega) (lv_sub hl_ [2, 1, 0] rfl)
        · skip
          refine lv_iconst (v := iI ((1 : Nat) : Int)) hx_ hb_ dX5_literals_25 rfl ?_
          refine lv_goto (tgt := 30) hx_ hb_ dX5_literals_26 (by decide) ?_
          refine q_iaddN hx_ hb_ dX5_literals_30 ?_
          refine lv_istore_n (lv' := [(1, .int (iI ((q_ + 1 : Nat) : Int))), (0, .ref (am_ 0)), (2, .int (iI ((i_ : Nat) : Int)))]) hx_ hb_ dX5_literals_31 rfl hl_ (by decide) rfl (fun ls_ hl_ => ?_)
          refine q_iinc (k := 2) ((i_ + 1 : Nat) : Int) hx_ hb_ dX5_literals_32 hl_ rfl (rfl) (by decide) (lv' := [(2, .int (iI ((i_ + 1 : Nat) : Int))), (1, .int (iI ((q_ + 1 : Nat) : Int))), (0, .ref (am_ 0))]) rfl (fun ls_ hl_ => ?_)
          refine lv_goto (tgt := 4) hx_ hb_ dX5_literals_35 (by decide) ?_
          exact ih4 (i_ + 1) (q_ + 1) ls_ (by omega) (by omega) (by rw [cnt_s1 (decide_eq_true (wI_nlt (by decide) c22_))]; omega) (lv_sub hl_ [2, 1, 0] rfl)
  rw [show entryFrame m_ args 3 = entryFrame m_ ([.ref (am_ 0)] : List Value).toArray 3 from by rw [hargs], lg_entry_eq]
  have hl_ := lv_entry ([.ref (am_ 0)]) (n := 3) (Nat.le_of_ble_eq_true rfl)
  generalize (lg_sl ([.ref (am_ 0)]) ++ List.replicate (3 - (lg_sl ([.ref (am_ 0)])).length) Slot.unset).toArray = ls_ at hl_ ⊢
  have hl_ : lv_has ls_ 3 [(0, .ref (am_ 0))] := hl_
  refine lv_iconst (v := iI ((0 : Nat) : Int)) hx_ hb_ dX5_literals_0 rfl ?_
  refine lv_istore_n (lv' := [(1, .int (iI ((0 : Nat) : Int))), (0, .ref (am_ 0))]) hx_ hb_ dX5_literals_1 rfl hl_ (by decide) rfl (fun ls_ hl_ => ?_)
  refine lv_iconst (v := iI ((0 : Nat) : Int)) hx_ hb_ dX5_literals_2 rfl ?_
  refine lv_istore_n (lv' := [(2, .int (iI ((0 : Nat) : Int))), (1, .int (iI ((0 : Nat) : Int))), (0, .ref (am_ 0))]) hx_ hb_ dX5_literals_3 rfl hl_ (by decide) rfl (fun ls_ hl_ => ?_)
  exact lp4 (nn_ + 1) 0 0 ls_ (by omega) (by omega) (rfl) (lv_sub hl_ [2, 1, 0] rfl)

set_option maxHeartbeats 4000000 in
set_option maxRecDepth 100000 in
/-- correctionCount -/
theorem c_X5_correctionCount (l_ : Launch) (G_ : va_G) (cI cZ : ClassId) (am_ : Nat → Nat) (bu_ : Bool) (no_ : Nat) (vo_ : Nat → Int) (fo_ : Nat → Bool) (nn_ : Nat) (vn_ : Nat → Int) (fn_ : Nat → Bool) (kr : Nat) (osr nsr lnr : Nat → Nat) (ba_ : Nat → Int) (tk_ : Nat → Bool) (rt_ : Nat → Nat) (cp_ : Nat) (cd_ so_ : Nat → Nat) (me_ bf_ : Nat → Int) (k_ : Nat) (os_ ns_ ln_ : Nat → Nat)  (hno : no_ ≤ 48) (hnn : nn_ ≤ 48) (hvo : ∀ j_, 0 ≤ vo_ j_ ∧ vo_ j_ ≤ 9999) (hvn : ∀ j_, 0 ≤ vn_ j_ ∧ vn_ j_ ≤ 9999) (hmb : bu_ = true → k_ = kr ∧ MdI no_ nn_ k_ os_ ns_ ln_ osr nsr lnr ba_ cp_ cd_ so_)  : Ro l_ yX5_correctionCount wsX5_correctionCount ({ frames := 4, cells := 0, slots := 0, locals := 89 }) G_ cI cZ [.ref (am_ 0)] (wMd cI cZ am_ bu_ no_ vo_ fo_ nn_ vn_ fn_ kr osr nsr lnr ba_ tk_ rt_ cp_ cd_ so_ me_ bf_) (A_cc bu_ (cnt (ncr vo_ fo_ vn_ k_ os_ ns_ ln_) nn_)) := by
  refine Met.ofW (cc := cX5_correctionCount) (maxL := 1) (ret := (some .int)) (by decide) rfl ?_
  intro p_ e_ s_ m_ args below meth c_ s₁ B hml hv
  obtain ⟨hargs, hP_, hK_⟩ := hv
  have hx_ := B.exec
  have hb_ := B.bytes
  have hr := B.returns
  have hts := atoms_spec (ws := wsX5_correctionCount) B.pre
  have hown : s_.vm.findClass RX5 = some m_.cls := findClass_of_methodNamed B.named
  have hlocks := B.notSynchronized
  have hi5_ : ∀ w_ ∈ wsX50, w_ ∈ wsX5_correctionCount := by decide +kernel
  have hf53_ := hts (.fieldLink RX5 53 "RelocatingPatchModel" "isBuilt" "Z") (by decide +kernel)
  have hP_ : va_P G_ vwCl [(am_ 0, .inr (5, [.int (iI ((no_ : Nat) : Int)), .ref (am_ 1), .ref (am_ 2), .int (iI ((nn_ : Nat) : Int)), .ref (am_ 3), .ref (am_ 4), .int (iI (bZ bu_)), .int (iI ((kr : Nat) : Int)), .ref (am_ 5), .ref (am_ 6), .ref (am_ 7), .ref (am_ 8), .ref (am_ 9), .ref (am_ 10), .int (iI ((cp_ : Nat) : Int)), .ref (am_ 11), .ref (am_ 12), .ref (am_ 13), .ref (am_ 14)])), (am_ 1, .inl (cI, 48, .inl (aI vo_))), (am_ 2, .inl (cZ, 48, .inl (aB fo_))), (am_ 3, .inl (cI, 48, .inl (aI vn_))), (am_ 4, .inl (cZ, 48, .inl (aB fn_))), (am_ 5, .inl (cI, 48, .inl (aN osr))), (am_ 6, .inl (cI, 48, .inl (aN nsr))), (am_ 7, .inl (cI, 48, .inl (aN lnr))), (am_ 8, .inl (cI, 48, .inl (aI ba_))), (am_ 9, .inl (cZ, 48, .inl (aB tk_))), (am_ 10, .inl (cI, 2401, .inl (aN rt_))), (am_ 11, .inl (cI, 48, .inl (aN cd_))), (am_ 12, .inl (cI, 48, .inl (aN so_))), (am_ 13, .inl (cI, 48, .inl (aI me_))), (am_ 14, .inl (cI, 48, .inl (aI bf_)))] s_.heap := hP_
  generalize hQe : MQ below (vp_Si (fun r_ => r_ = iI (A_cc bu_ (cnt (ncr vo_ fo_ vn_ k_ os_ ns_ ln_) nn_)))) args s_ 0 0 (fun _ => False) = Q_
  rw [show entryFrame m_ args 1 = entryFrame m_ ([.ref (am_ 0)] : List Value).toArray 1 from by rw [hargs], lg_entry_eq]
  have hl_ := lv_entry ([.ref (am_ 0)]) (n := 1) (Nat.le_of_ble_eq_true rfl)
  generalize (lg_sl ([.ref (am_ 0)]) ++ List.replicate (1 - (lg_sl ([.ref (am_ 0)])).length) Slot.unset).toArray = ls_ at hl_ ⊢
  have hl_ : lv_has ls_ 1 [(0, .ref (am_ 0))] := hl_
  refine lv_aload_n hx_ hb_ dX5_correctionCount_0 rfl (lv_at hl_ 0 rfl) ?_
  refine va_get (D := G_) (ci := 5) (v := .int (iI (bZ bu_))) (C := RX5) (T := TX5) (N := 19) hx_ hb_ hts hi5_ hown hK_ hP_ 0 rfl rfl 6 (by decide) hf53_ (fun _ h9 => h9) rfl dX5_correctionCount_1 ?_
  refine q_bf (tgt := 14) hx_ hb_ dX5_correctionCount_4 (by decide) (fun c4_ => ?_) (fun c4_ => ?_)
  · skip
    refine lv_sipush (v := iI (-10004)) hx_ hb_ dX5_correctionCount_14 rfl ?_
    rw [← hQe]
    exact W.iret hx_ hb_ hr (fun tt1 htt1 hWW1 => ⟨_, rfl, congrArg iI (if0 c4_), htt1⟩) (fun q_ h_ => absurd h_ List.not_mem_nil) dX5_correctionCount_17
  · skip
    obtain ⟨hkr, hmd⟩ := hmb c4_
    have hmd0 := hmd
    obtain ⟨hk_, hB_, hgd, ha_, hba, hso, hcp, hcd⟩ := hmd0
    have hcl : cp_ ≤ 48 := by rw [hcp]; exact Nat.le_trans (its_ok k_ os_ ns_ ln_ k_).1 hk_
    have hP_ : va_P G_ vwCl [(am_ 0, .inr (5, [.int (iI ((no_ : Nat) : Int)), .ref (am_ 1), .ref (am_ 2), .int (iI ((nn_ : Nat) : Int)), .ref (am_ 3), .ref (am_ 4), .int (iI (bZ bu_)), .int (iI ((k_ : Nat) : Int)), .ref (am_ 5), .ref (am_ 6), .ref (am_ 7), .ref (am_ 8), .ref (am_ 9), .ref (am_ 10), .int (iI ((cp_ : Nat) : Int)), .ref (am_ 11), .ref (am_ 12), .ref (am_ 13), .ref (am_ 14)])), (am_ 1, .inl (cI, 48, .inl (aI vo_))), (am_ 2, .inl (cZ, 48, .inl (aB fo_))), (am_ 3, .inl (cI, 48, .inl (aI vn_))), (am_ 4, .inl (cZ, 48, .inl (aB fn_))), (am_ 5, .inl (cI, 48, .inl (aN osr))), (am_ 6, .inl (cI, 48, .inl (aN nsr))), (am_ 7, .inl (cI, 48, .inl (aN lnr))), (am_ 8, .inl (cI, 48, .inl (aI ba_))), (am_ 9, .inl (cZ, 48, .inl (aB tk_))), (am_ 10, .inl (cI, 2401, .inl (aN rt_))), (am_ 11, .inl (cI, 48, .inl (aN cd_))), (am_ 12, .inl (cI, 48, .inl (aN so_))), (am_ 13, .inl (cI, 48, .inl (aI me_))), (am_ 14, .inl (cI, 48, .inl (aI bf_)))] s_.heap := by rw [hkr]; exact hP_
    refine lv_aload_n hx_ hb_ dX5_correctionCount_7 rfl (lv_at hl_ 0 rfl) ?_
    refine ro_V (As := []) (rest := []) ⟨hx_, hb_, hml, hown, hts⟩ (c_X5_corrections l_ G_ cI cZ am_ bu_ no_ vo_ fo_ nn_ vn_ fn_ k_ osr nsr lnr ba_ tk_ rt_ cp_ cd_ so_ me_ bf_ os_ ns_ ln_  hno hnn hvo hvn hmd) (cwV 0 hts gX5_correctionCount_X5_corrections rfl rfl rfl (by decide +kernel) ⟨Nat.le_of_ble_eq_true rfl, Nat.le_of_ble_eq_true rfl⟩) (hP_.sub (ws' := [(am_ 0, .inr (5, [.int (iI ((no_ : Nat) : Int)), .ref (am_ 1), .ref (am_ 2), .int (iI ((nn_ : Nat) : Int)), .ref (am_ 3), .ref (am_ 4), .int (iI (bZ bu_)), .int (iI ((k_ : Nat) : Int)), .ref (am_ 5), .ref (am_ 6), .ref (am_ 7), .ref (am_ 8), .ref (am_ 9), .ref (am_ 10), .int (iI ((cp_ : Nat) : Int)), .ref (am_ 11), .ref (am_ 12), .ref (am_ 13), .ref (am_ 14)])), (am_ 1, .inl (cI, 48, .inl (aI vo_))), (am_ 2, .inl (cZ, 48, .inl (aB fo_))), (am_ 3, .inl (cI, 48, .inl (aI vn_))), (am_ 4, .inl (cZ, 48, .inl (aB fn_))), (am_ 5, .inl (cI, 48, .inl (aN osr))), (am_ 6, .inl (cI, 48, .inl (aN nsr))), (am_ 7, .inl (cI, 48, .inl (aN lnr))), (am_ 8, .inl (cI, 48, .inl (aI ba_))), (am_ 9, .inl (cZ, 48, .inl (aB tk_))), (am_ 10, .inl (cI, 2401, .inl (aN rt_))), (am_ 11, .inl (cI, 48, .inl (aN cd_))), (am_ 12, .inl (cI, 48, .inl (aN so_))), (am_ 13, .inl (cI, 48, .inl (aI me_))), (am_ 14, .inl (cI, 48, .inl (aI bf_)))]) [0, 1, 2, 3, 4, 5, 6, 7, 8, 9, 10, 11, 12, 13, 14] rfl) hK_ 0 rfl rfl rfl hl_.1 rfl (Nat.le_of_ble_eq_true rfl) dX5_correctionCount_8 ⟨Nat.zero_le _, Nat.zero_le _⟩ ?_
    refine lv_goto (tgt := 17) hx_ hb_ dX5_correctionCount_11 (by decide) ?_
    rw [← hQe]
    exact W.iret hx_ hb_ hr (fun tt1 htt1 hWW1 => ⟨_, rfl, congrArg iI (if1 c4_), htt1⟩) (fun q_ h_ => absurd h_ List.not_mem_nil) dX5_correctionCount_17

set_option maxHeartbeats 4000000 in
set_option maxRecDepth 100000 in
/-- literalCount -/
theorem c_X5_literalCount (l_ : Launch) (G_ : va_G) (cI cZ : ClassId) (am_ : Nat → Nat) (bu_ : Bool) (no_ : Nat) (vo_ : Nat → Int) (fo_ : Nat → Bool) (nn_ : Nat) (vn_ : Nat → Int) (fn_ : Nat → Bool) (kr : Nat) (osr nsr lnr : Nat → Nat) (ba_ : Nat → Int) (tk_ : Nat → Bool) (rt_ : Nat → Nat) (cp_ : Nat) (cd_ so_ : Nat → Nat) (me_ bf_ : Nat → Int) (k_ : Nat) (os_ ns_ ln_ : Nat → Nat)  (hno : no_ ≤ 48) (hnn : nn_ ≤ 48) (hvo : ∀ j_, 0 ≤ vo_ j_ ∧ vo_ j_ ≤ 9999) (hvn : ∀ j_, 0 ≤ vn_ j_ ∧ vn_ j_ ≤ 9999) (hmb : bu_ = true → k_ = kr ∧ MdI no_ nn_ k_ os_ ns_ ln_ osr nsr lnr ba_ cp_ cd_ so_)  : Ro l_ yX5_literalCount wsX5_literalCount ({ frames := 1, cells := 0, slots := 0, locals := 22 }) G_ cI cZ [.ref (am_ 0)] (wMd cI cZ am_ bu_ no_ vo_ fo_ nn_ vn_ fn_ kr osr nsr lnr ba_ tk_ rt_ cp_ cd_ so_ me_ bf_) (A_cc bu_ (lit nn_ k_ ns_ ln_)) := by
  refine Met.ofW (cc := cX5_literalCount) (maxL := 1) (ret := (some .int)) (by decide) rfl ?_
  intro p_ e_ s_ m_ args below meth c_ s₁ B hml hv
  obtain ⟨hargs, hP_, hK_⟩ := hv
  have hx_ := B.exec
  have hb_ := B.bytes
  have hr := B.returns
  have hts := atoms_spec (ws := wsX5_literalCount) B.pre
  have hown : s_.vm.findClass RX5 = some m_.cls := findClass_of_methodNamed B.named
  have hlocks := B.notSynchronized
  have hi5_ : ∀ w_ ∈ wsX50, w_ ∈ wsX5_literalCount := by decide +kernel
  have hf53_ := hts (.fieldLink RX5 53 "RelocatingPatchModel" "isBuilt" "Z") (by decide +kernel)
  have hP_ : va_P G_ vwCl [(am_ 0, .inr (5, [.int (iI ((no_ : Nat) : Int)), .ref (am_ 1), .ref (am_ 2), .int (iI ((nn_ : Nat) : Int)), .ref (am_ 3), .ref (am_ 4), .int (iI (bZ bu_)), .int (iI ((kr : Nat) : Int)), .ref (am_ 5), .ref (am_ 6), .ref (am_ 7), .ref (am_ 8), .ref (am_ 9), .ref (am_ 10), .int (iI ((cp_ : Nat) : Int)), .ref (am_ 11), .ref (am_ 12), .ref (am_ 13), .ref (am_ 14)])), (am_ 1, .inl (cI, 48, .inl (aI vo_))), (am_ 2, .inl (cZ, 48, .inl (aB fo_))), (am_ 3, .inl (cI, 48, .inl (aI vn_))), (am_ 4, .inl (cZ, 48, .inl (aB fn_))), (am_ 5, .inl (cI, 48, .inl (aN osr))), (am_ 6, .inl (cI, 48, .inl (aN nsr))), (am_ 7, .inl (cI, 48, .inl (aN lnr))), (am_ 8, .inl (cI, 48, .inl (aI ba_))), (am_ 9, .inl (cZ, 48, .inl (aB tk_))), (am_ 10, .inl (cI, 2401, .inl (aN rt_))), (am_ 11, .inl (cI, 48, .inl (aN cd_))), (am_ 12, .inl (cI, 48, .inl (aN so_))), (am_ 13, .inl (cI, 48, .inl (aI me_))), (am_ 14, .inl (cI, 48, .inl (aI bf_)))] s_.heap := hP_
  generalize hQe : MQ below (vp_Si (fun r_ => r_ = iI (A_cc bu_ (lit nn_ k_ ns_ ln_)))) args s_ 0 0 (fun _ => False) = Q_
  rw [show entryFrame m_ args 1 = entryFrame m_ ([.ref (am_ 0)] : List Value).toArray 1 from by rw [hargs], lg_entry_eq]
  have hl_ := lv_entry ([.ref (am_ 0)]) (n := 1) (Nat.le_of_ble_eq_true rfl)
  generalize (lg_sl ([.ref (am_ 0)]) ++ List.replicate (1 - (lg_sl ([.ref (am_ 0)])).length) Slot.unset).toArray = ls_ at hl_ ⊢
  have hl_ : lv_has ls_ 1 [(0, .ref (am_ 0))] := hl_
  refine lv_aload_n hx_ hb_ dX5_literalCount_0 rfl (lv_at hl_ 0 rfl) ?_
  refine va_get (D := G_) (ci := 5) (v := .int (iI (bZ bu_))) (C := RX5) (T := TX5) (N := 19) hx_ hb_ hts hi5_ hown hK_ hP_ 0 rfl rfl 6 (by decide) hf53_ (fun _ h9 => h9) rfl dX5_literalCount_1 ?_
  refine q_bf (tgt := 14) hx_ hb_ dX5_literalCount_4 (by decide) (fun c4_ => ?_) (fun c4_ => ?_)
  · skip
    refine lv_sipush (v := iI (-10004)) hx_ hb_ dX5_literalCount_14 rfl ?_
    rw [← hQe]
    exact W.iret hx_ hb_ hr (fun tt1 htt1 hWW1 => ⟨_, rfl, congrArg iI (if0 c4_), htt1⟩) (fun q_ h_ => absurd h_ List.not_mem_nil) dX5_literalCount_17
  · skip
    obtain ⟨hkr, hmd⟩ := hmb c4_
    have hmd0 := hmd
    obtain ⟨hk_, hB_, hgd, ha_, hba, hso, hcp, hcd⟩ := hmd0
    have hcl : cp_ ≤ 48 := by rw [hcp]; exact Nat.le_trans (its_ok k_ os_ ns_ ln_ k_).1 hk_
    have hP_ : va_P G_ vwCl [(am_ 0, .inr (5, [.int (iI ((no_ : Nat) : Int)), .ref (am_ 1), .ref (am_ 2), .int (iI ((nn_ : Nat) : Int)), .ref (am_ 3), .ref (am_ 4), .int (iI (bZ bu_)), .int (iI ((k_ : Nat) : Int)), .ref (am_ 5), .ref (am_ 6), .ref (am_ 7), .ref (am_ 8), .ref (am_ 9), .ref (am_ 10), .int (iI ((cp_ : Nat) : Int)), .ref (am_ 11), .ref (am_ 12), .ref (am_ 13), .ref (am_ 14)])), (am_ 1, .inl (cI, 48, .inl (aI vo_))), (am_ 2, .inl (cZ, 48, .inl (aB fo_))), (am_ 3, .inl (cI, 48, .inl (aI vn_))), (am_ 4, .inl (cZ, 48, .inl (aB fn_))), (am_ 5, .inl (cI, 48, .inl (aN osr))), (am_ 6, .inl (cI, 48, .inl (aN nsr))), (am_ 7, .inl (cI, 48, .inl (aN lnr))), (am_ 8, .inl (cI, 48, .inl (aI ba_))), (am_ 9, .inl (cZ, 48, .inl (aB tk_))), (am_ 10, .inl (cI, 2401, .inl (aN rt_))), (am_ 11, .inl (cI, 48, .inl (aN cd_))), (am_ 12, .inl (cI, 48, .inl (aN so_))), (am_ 13, .inl (cI, 48, .inl (aI me_))), (am_ 14, .inl (cI, 48, .inl (aI bf_)))] s_.heap := by rw [hkr]; exact hP_
    refine lv_aload_n hx_ hb_ dX5_literalCount_7 rfl (lv_at hl_ 0 rfl) ?_
    refine ro_V (As := []) (rest := []) ⟨hx_, hb_, hml, hown, hts⟩ (c_X5_literals l_ G_ cI cZ am_ bu_ no_ vo_ fo_ nn_ vn_ fn_ k_ osr nsr lnr ba_ tk_ rt_ cp_ cd_ so_ me_ bf_ os_ ns_ ln_  hno hnn hvo hvn hmd) (cwV 0 hts gX5_literalCount_X5_literals rfl rfl rfl (by decide +kernel) ⟨Nat.le_of_ble_eq_true rfl, Nat.le_of_ble_eq_true rfl⟩) (hP_.sub (ws' := [(am_ 0, .inr (5, [.int (iI ((no_ : Nat) : Int)), .ref (am_ 1), .ref (am_ 2), .int (iI ((nn_ : Nat) : Int)), .ref (am_ 3), .ref (am_ 4), .int (iI (bZ bu_)), .int (iI ((k_ : Nat) : Int)), .ref (am_ 5), .ref (am_ 6), .ref (am_ 7), .ref (am_ 8), .ref (am_ 9), .ref (am_ 10), .int (iI ((cp_ : Nat) : Int)), .ref (am_ 11), .ref (am_ 12), .ref (am_ 13), .ref (am_ 14)])), (am_ 1, .inl (cI, 48, .inl (aI vo_))), (am_ 2, .inl (cZ, 48, .inl (aB fo_))), (am_ 3, .inl (cI, 48, .inl (aI vn_))), (am_ 4, .inl (cZ, 48, .inl (aB fn_))), (am_ 5, .inl (cI, 48, .inl (aN osr))), (am_ 6, .inl (cI, 48, .inl (aN nsr))), (am_ 7, .inl (cI, 48, .inl (aN lnr))), (am_ 8, .inl (cI, 48, .inl (aI ba_))), (am_ 9, .inl (cZ, 48, .inl (aB tk_))), (am_ 10, .inl (cI, 2401, .inl (aN rt_))), (am_ 11, .inl (cI, 48, .inl (aN cd_))), (am_ 12, .inl (cI, 48, .inl (aN so_))), (am_ 13, .inl (cI, 48, .inl (aI me_))), (am_ 14, .inl (cI, 48, .inl (aI bf_)))]) [0, 1, 2, 3, 4, 5, 6, 7, 8, 9, 10, 11, 12, 13, 14] rfl) hK_ 0 rfl rfl rfl hl_.1 rfl (Nat.le_of_ble_eq_true rfl) dX5_literalCount_8 ⟨Nat.zero_le _, Nat.zero_le _⟩ ?_
    refine lv_goto (tgt := 17) hx_ hb_ dX5_literalCount_11 (by decide) ?_
    rw [← hQe]
    exact W.iret hx_ hb_ hr (fun tt1 htt1 hWW1 => ⟨_, rfl, congrArg iI (if1 c4_), htt1⟩) (fun q_ h_ => absurd h_ List.not_mem_nil) dX5_literalCount_17

set_option maxHeartbeats 4000000 in
set_option maxRecDepth 100000 in
/-- patchSize -/
theorem c_X5_patchSize (l_ : Launch) (G_ : va_G) (cI cZ : ClassId) (am_ : Nat → Nat) (bu_ : Bool) (no_ : Nat) (vo_ : Nat → Int) (fo_ : Nat → Bool) (nn_ : Nat) (vn_ : Nat → Int) (fn_ : Nat → Bool) (kr : Nat) (osr nsr lnr : Nat → Nat) (ba_ : Nat → Int) (tk_ : Nat → Bool) (rt_ : Nat → Nat) (cp_ : Nat) (cd_ so_ : Nat → Nat) (me_ bf_ : Nat → Int) (k_ : Nat) (os_ ns_ ln_ : Nat → Nat)  (hno : no_ ≤ 48) (hnn : nn_ ≤ 48) (hvo : ∀ j_, 0 ≤ vo_ j_ ∧ vo_ j_ ≤ 9999) (hvn : ∀ j_, 0 ≤ vn_ j_ ∧ vn_ j_ ≤ 9999) (hmb : bu_ = true → k_ = kr ∧ MdI no_ nn_ k_ os_ ns_ ln_ osr nsr lnr ba_ cp_ cd_ so_)  : Ro l_ yX5_patchSize wsX5_patchSize ({ frames := 4, cells := 0, slots := 0, locals := 89 }) G_ cI cZ [.ref (am_ 0)] (wMd cI cZ am_ bu_ no_ vo_ fo_ nn_ vn_ fn_ kr osr nsr lnr ba_ tk_ rt_ cp_ cd_ so_ me_ bf_) (A_cc bu_ (3 * k_ + lit nn_ k_ ns_ ln_ + 2 * cnt (ncr vo_ fo_ vn_ k_ os_ ns_ ln_) nn_)) := by
  refine Met.ofW (cc := cX5_patchSize) (maxL := 1) (ret := (some .int)) (by decide) rfl ?_
  intro p_ e_ s_ m_ args below meth c_ s₁ B hml hv
  obtain ⟨hargs, hP_, hK_⟩ := hv
  have hx_ := B.exec
  have hb_ := B.bytes
  have hr := B.returns
  have hts := atoms_spec (ws := wsX5_patchSize) B.pre
  have hown : s_.vm.findClass RX5 = some m_.cls := findClass_of_methodNamed B.named
  have hlocks := B.notSynchronized
  have hi5_ : ∀ w_ ∈ wsX50, w_ ∈ wsX5_patchSize := by decide +kernel
  have hf53_ := hts (.fieldLink RX5 53 "RelocatingPatchModel" "isBuilt" "Z") (by decide +kernel)
  have hf93_ := hts (.fieldLink RX5 93 "RelocatingPatchModel" "blocks" "I") (by decide +kernel)
  have hP_ : va_P G_ vwCl [(am_ 0, .inr (5, [.int (iI ((no_ : Nat) : Int)), .ref (am_ 1), .ref (am_ 2), .int (iI ((nn_ : Nat) : Int)), .ref (am_ 3), .ref (am_ 4), .int (iI (bZ bu_)), .int (iI ((kr : Nat) : Int)), .ref (am_ 5), .ref (am_ 6), .ref (am_ 7), .ref (am_ 8), .ref (am_ 9), .ref (am_ 10), .int (iI ((cp_ : Nat) : Int)), .ref (am_ 11), .ref (am_ 12), .ref (am_ 13), .ref (am_ 14)])), (am_ 1, .inl (cI, 48, .inl (aI vo_))), (am_ 2, .inl (cZ, 48, .inl (aB fo_))), (am_ 3, .inl (cI, 48, .inl (aI vn_))), (am_ 4, .inl (cZ, 48, .inl (aB fn_))), (am_ 5, .inl (cI, 48, .inl (aN osr))), (am_ 6, .inl (cI, 48, .inl (aN nsr))), (am_ 7, .inl (cI, 48, .inl (aN lnr))), (am_ 8, .inl (cI, 48, .inl (aI ba_))), (am_ 9, .inl (cZ, 48, .inl (aB tk_))), (am_ 10, .inl (cI, 2401, .inl (aN rt_))), (am_ 11, .inl (cI, 48, .inl (aN cd_))), (am_ 12, .inl (cI, 48, .inl (aN so_))), (am_ 13, .inl (cI, 48, .inl (aI me_))), (am_ 14, .inl (cI, 48, .inl (aI bf_)))] s_.heap := hP_
  generalize hQe : MQ below (vp_Si (fun r_ => r_ = iI (A_cc bu_ (3 * k_ + lit nn_ k_ ns_ ln_ + 2 * cnt (ncr vo_ fo_ vn_ k_ os_ ns_ ln_) nn_)))) args s_ 0 0 (fun _ => False) = Q_
  rw [show entryFrame m_ args 1 = entryFrame m_ ([.ref (am_ 0)] : List Value).toArray 1 from by rw [hargs], lg_entry_eq]
  have hl_ := lv_entry ([.ref (am_ 0)]) (n := 1) (Nat.le_of_ble_eq_true rfl)
  generalize (lg_sl ([.ref (am_ 0)]) ++ List.replicate (1 - (lg_sl ([.ref (am_ 0)])).length) Slot.unset).toArray = ls_ at hl_ ⊢
  have hl_ : lv_has ls_ 1 [(0, .ref (am_ 0))] := hl_
  refine lv_aload_n hx_ hb_ dX5_patchSize_0 rfl (lv_at hl_ 0 rfl) ?_
  refine va_get (D := G_) (ci := 5) (v := .int (iI (bZ bu_))) (C := RX5) (T := TX5) (N := 19) hx_ hb_ hts hi5_ hown hK_ hP_ 0 rfl rfl 6 (by decide) hf53_ (fun _ h9 => h9) rfl dX5_patchSize_1 ?_
  refine q_bf (tgt := 28) hx_ hb_ dX5_patchSize_4 (by decide) (fun c4_ => ?_) (fun c4_ => ?_)
  · skip
    refine lv_sipush (v := iI (-10004)) hx_ hb_ dX5_patchSize_28 rfl ?_
    rw [← hQe]
    exact W.iret hx_ hb_ hr (fun tt1 htt1 hWW1 => ⟨_, rfl, congrArg iI (if0 c4_), htt1⟩) (fun q_ h_ => absurd h_ List.not_mem_nil) dX5_patchSize_31
  · skip
    obtain ⟨hkr, hmd⟩ := hmb c4_
    have hmd0 := hmd
    obtain ⟨hk_, hB_, hgd, ha_, hba, hso, hcp, hcd⟩ := hmd0
    have hcl : cp_ ≤ 48 := by rw [hcp]; exact Nat.le_trans (its_ok k_ os_ ns_ ln_ k_).1 hk_
    have hP_ : va_P G_ vwCl [(am_ 0, .inr (5, [.int (iI ((no_ : Nat) : Int)), .ref (am_ 1), .ref (am_ 2), .int (iI ((nn_ : Nat) : Int)), .ref (am_ 3), .ref (am_ 4), .int (iI (bZ bu_)), .int (iI ((k_ : Nat) : Int)), .ref (am_ 5), .ref (am_ 6), .ref (am_ 7), .ref (am_ 8), .ref (am_ 9), .ref (am_ 10), .int (iI ((cp_ : Nat) : Int)), .ref (am_ 11), .ref (am_ 12), .ref (am_ 13), .ref (am_ 14)])), (am_ 1, .inl (cI, 48, .inl (aI vo_))), (am_ 2, .inl (cZ, 48, .inl (aB fo_))), (am_ 3, .inl (cI, 48, .inl (aI vn_))), (am_ 4, .inl (cZ, 48, .inl (aB fn_))), (am_ 5, .inl (cI, 48, .inl (aN osr))), (am_ 6, .inl (cI, 48, .inl (aN nsr))), (am_ 7, .inl (cI, 48, .inl (aN lnr))), (am_ 8, .inl (cI, 48, .inl (aI ba_))), (am_ 9, .inl (cZ, 48, .inl (aB tk_))), (am_ 10, .inl (cI, 2401, .inl (aN rt_))), (am_ 11, .inl (cI, 48, .inl (aN cd_))), (am_ 12, .inl (cI, 48, .inl (aN so_))), (am_ 13, .inl (cI, 48, .inl (aI me_))), (am_ 14, .inl (cI, 48, .inl (aI bf_)))] s_.heap := by rw [hkr]; exact hP_
    refine lv_iconst (v := iI ((3 : Nat) : Int)) hx_ hb_ dX5_patchSize_7 rfl ?_
    refine lv_aload_n hx_ hb_ dX5_patchSize_8 rfl (lv_at hl_ 0 rfl) ?_
    refine va_get (D := G_) (ci := 5) (v := .int (iI ((k_ : Nat) : Int))) (C := RX5) (T := TX5) (N := 19) hx_ hb_ hts hi5_ hown hK_ hP_ 0 rfl rfl 7 (by decide) hf93_ (fun _ h9 => h9) rfl dX5_patchSize_9 ?_
    refine q_imulN hx_ hb_ dX5_patchSize_12 ?_
    refine lv_aload_n hx_ hb_ dX5_patchSize_13 rfl (lv_at hl_ 0 rfl) ?_
    refine ro_V (As := []) (rest := [.int (iI ((3 * k_ : Nat) : Int))]) ⟨hx_, hb_, hml, hown, hts⟩ (c_X5_literals l_ G_ cI cZ am_ bu_ no_ vo_ fo_ nn_ vn_ fn_ k_ osr nsr lnr ba_ tk_ rt_ cp_ cd_ so_ me_ bf_ os_ ns_ ln_  hno hnn hvo hvn hmd) (cwV 0 hts gX5_patchSize_X5_literals rfl rfl rfl (by decide +kernel) ⟨Nat.le_of_ble_eq_true rfl, Nat.le_of_ble_eq_true rfl⟩) (hP_.sub (ws' := [(am_ 0, .inr (5, [.int (iI ((no_ : Nat) : Int)), .ref (am_ 1), .ref (am_ 2), .int (iI ((nn_ : Nat) : Int)), .ref (am_ 3), .ref (am_ 4), .int (iI (bZ bu_)), .int (iI ((k_ : Nat) : Int)), .ref (am_ 5), .ref (am_ 6), .ref (am_ 7), .ref (am_ 8), .ref (am_ 9), .ref (am_ 10), .int (iI ((cp_ : Nat) : Int)), .ref (am_ 11), .ref (am_ 12), .ref (am_ 13), .ref (am_ 14)])), (am_ 1, .inl (cI, 48, .inl (aI vo_))), (am_ 2, .inl (cZ, 48, .inl (aB fo_))), (am_ 3, .inl (cI, 48, .inl (aI vn_))), (am_ 4, .inl (cZ, 48, .inl (aB fn_))), (am_ 5, .inl (cI, 48, .inl (aN osr))), (am_ 6, .inl (cI, 48, .inl (aN nsr))), (am_ 7, .inl (cI, 48, .inl (aN lnr))), (am_ 8, .inl (cI, 48, .inl (aI ba_))), (am_ 9, .inl (cZ, 48, .inl (aB tk_))), (am_ 10, .inl (cI, 2401, .inl (aN rt_))), (am_ 11, .inl (cI, 48, .inl (aN cd_))), (am_ 12, .inl (cI, 48, .inl (aN so_))), (am_ 13, .inl (cI, 48, .inl (aI me_))), (am_ 14, .inl (cI, 48, .inl (aI bf_)))]) [0, 1, 2, 3, 4, 5, 6, 7, 8, 9, 10, 11, 12, 13, 14] rfl) hK_ 0 rfl rfl rfl hl_.1 rfl (Nat.le_of_ble_eq_true rfl) dX5_patchSize_14 ⟨Nat.zero_le _, Nat.zero_le _⟩ ?_
    refine q_iaddN hx_ hb_ dX5_patchSize_17 ?_
    refine lv_iconst (v := iI ((2 : Nat) : Int)) hx_ hb_ dX5_patchSize_18 rfl ?_
    refine lv_aload_n hx_ hb_ dX5_patchSize_19 rfl (lv_at hl_ 0 rfl) ?_
    refine ro_V (As := []) (rest := [.int (iI ((2 : Nat) : Int)), .int (iI (((3 * k_) + (lit nn_ k_ ns_ ln_) : Nat) : Int))]) ⟨hx_, hb_, hml, hown, hts⟩ (c_X5_corrections l_ G_ cI cZ am_ bu_ no_ vo_ fo_ nn_ vn_ fn_ k_ osr nsr lnr ba_ tk_ rt_ cp_ cd_ so_ me_ bf_ os_ ns_ ln_  hno hnn hvo hvn hmd) (cwV 0 hts gX5_patchSize_X5_corrections rfl rfl rfl (by decide +kernel) ⟨Nat.le_of_ble_eq_true rfl, Nat.le_of_ble_eq_true rfl⟩) (hP_.sub (ws' := [(am_ 0, .inr (5, [.int (iI ((no_ : Nat) : Int)), .ref (am_ 1), .ref (am_ 2), .int (iI ((nn_ : Nat) : Int)), .ref (am_ 3), .ref (am_ 4), .int (iI (bZ bu_)), .int (iI ((k_ : Nat) : Int)), .ref (am_ 5), .ref (am_ 6), .ref (am_ 7), .ref (am_ 8), .ref (am_ 9), .ref (am_ 10), .int (iI ((cp_ : Nat) : Int)), .ref (am_ 11), .ref (am_ 12), .ref (am_ 13), .ref (am_ 14)])), (am_ 1, .inl (cI, 48, .inl (aI vo_))), (am_ 2, .inl (cZ, 48, .inl (aB fo_))), (am_ 3, .inl (cI, 48, .inl (aI vn_))), (am_ 4, .inl (cZ, 48, .inl (aB fn_))), (am_ 5, .inl (cI, 48, .inl (aN osr))), (am_ 6, .inl (cI, 48, .inl (aN nsr))), (am_ 7, .inl (cI, 48, .inl (aN lnr))), (am_ 8, .inl (cI, 48, .inl (aI ba_))), (am_ 9, .inl (cZ, 48, .inl (aB tk_))), (am_ 10, .inl (cI, 2401, .inl (aN rt_))), (am_ 11, .inl (cI, 48, .inl (aN cd_))), (am_ 12, .inl (cI, 48, .inl (aN so_))), (am_ 13, .inl (cI, 48, .inl (aI me_))), (am_ 14, .inl (cI, 48, .inl (aI bf_)))]) [0, 1, 2, 3, 4, 5, 6, 7, 8, 9, 10, 11, 12, 13, 14] rfl) hK_ 0 rfl rfl rfl hl_.1 rfl (Nat.le_of_ble_eq_true rfl) dX5_patchSize_20 ⟨Nat.zero_le _, Nat.zero_le _⟩ ?_
    refine q_imulN hx_ hb_ dX5_patchSize_23 ?_
    refine q_iaddN hx_ hb_ dX5_patchSize_24 ?_
    refine lv_goto (tgt := 31) hx_ hb_ dX5_patchSize_25 (by decide) ?_
    rw [← hQe]
    exact W.iret hx_ hb_ hr (fun tt1 htt1 hWW1 => ⟨_, rfl, congrArg iI (if1 c4_), htt1⟩) (fun q_ h_ => absurd h_ List.not_mem_nil) dX5_patchSize_31

set_option maxHeartbeats 4000000 in
set_option maxRecDepth 100000 in
/-- unpredictedSize -/
theorem c_X5_unpredictedSize (l_ : Launch) (G_ : va_G) (cI cZ : ClassId) (am_ : Nat → Nat) (bu_ : Bool) (no_ : Nat) (vo_ : Nat → Int) (fo_ : Nat → Bool) (nn_ : Nat) (vn_ : Nat → Int) (fn_ : Nat → Bool) (kr : Nat) (osr nsr lnr : Nat → Nat) (ba_ : Nat → Int) (tk_ : Nat → Bool) (rt_ : Nat → Nat) (cp_ : Nat) (cd_ so_ : Nat → Nat) (me_ bf_ : Nat → Int) (k_ : Nat) (os_ ns_ ln_ : Nat → Nat)  (hno : no_ ≤ 48) (hnn : nn_ ≤ 48) (hvo : ∀ j_, 0 ≤ vo_ j_ ∧ vo_ j_ ≤ 9999) (hvn : ∀ j_, 0 ≤ vn_ j_ ∧ vn_ j_ ≤ 9999) (hmb : bu_ = true → k_ = kr ∧ MdI no_ nn_ k_ os_ ns_ ln_ osr nsr lnr ba_ cp_ cd_ so_)  : Ro l_ yX5_unpredictedSize wsX5_unpredictedSize ({ frames := 1, cells := 0, slots := 0, locals := 22 }) G_ cI cZ [.ref (am_ 0)] (wMd cI cZ am_ bu_ no_ vo_ fo_ nn_ vn_ fn_ kr osr nsr lnr ba_ tk_ rt_ cp_ cd_ so_ me_ bf_) (A_cc bu_ (3 * k_ + lit nn_ k_ ns_ ln_ + 2 * cnt (chg vo_ vn_ k_ os_ ns_ ln_) nn_)) := by
  refine Met.ofW (cc := cX5_unpredictedSize) (maxL := 3) (ret := (some .int)) (by decide) rfl ?_
  intro p_ e_ s_ m_ args below meth c_ s₁ B hml hv
  obtain ⟨hargs, hP_, hK_⟩ := hv
  have hx_ := B.exec
  have hb_ := B.bytes
  have hr := B.returns
  have hts := atoms_spec (ws := wsX5_unpredictedSize) B.pre
  have hown : s_.vm.findClass RX5 = some m_.cls := findClass_of_methodNamed B.named
  have hlocks := B.notSynchronized
  have hi5_ : ∀ w_ ∈ wsX50, w_ ∈ wsX5_unpredictedSize := by decide +kernel
  have hf7_ := hts (.fieldLink RX5 7 "RelocatingPatchModel" "oldValue" "[I") (by decide +kernel)
  have hf17_ := hts (.fieldLink RX5 17 "RelocatingPatchModel" "newValues" "[I") (by decide +kernel)
  have hf32_ := hts (.fieldLink RX5 32 "RelocatingPatchModel" "blockAt" "[I") (by decide +kernel)
  have hf53_ := hts (.fieldLink RX5 53 "RelocatingPatchModel" "isBuilt" "Z") (by decide +kernel)
  have hf57_ := hts (.fieldLink RX5 57 "RelocatingPatchModel" "news" "I") (by decide +kernel)
  have hf93_ := hts (.fieldLink RX5 93 "RelocatingPatchModel" "blocks" "I") (by decide +kernel)
  have hP_ : va_P G_ vwCl [(am_ 0, .inr (5, [.int (iI ((no_ : Nat) : Int)), .ref (am_ 1), .ref (am_ 2), .int (iI ((nn_ : Nat) : Int)), .ref (am_ 3), .ref (am_ 4), .int (iI (bZ bu_)), .int (iI ((kr : Nat) : Int)), .ref (am_ 5), .ref (am_ 6), .ref (am_ 7), .ref (am_ 8), .ref (am_ 9), .ref (am_ 10), .int (iI ((cp_ : Nat) : Int)), .ref (am_ 11), .ref (am_ 12), .ref (am_ 13), .ref (am_ 14)])), (am_ 1, .inl (cI, 48, .inl (aI vo_))), (am_ 2, .inl (cZ, 48, .inl (aB fo_))), (am_ 3, .inl (cI, 48, .inl (aI vn_))), (am_ 4, .inl (cZ, 48, .inl (aB fn_))), (am_ 5, .inl (cI, 48, .inl (aN osr))), (am_ 6, .inl (cI, 48, .inl (aN nsr))), (am_ 7, .inl (cI, 48, .inl (aN lnr))), (am_ 8, .inl (cI, 48, .inl (aI ba_))), (am_ 9, .inl (cZ, 48, .inl (aB tk_))), (am_ 10, .inl (cI, 2401, .inl (aN rt_))), (am_ 11, .inl (cI, 48, .inl (aN cd_))), (am_ 12, .inl (cI, 48, .inl (aN so_))), (am_ 13, .inl (cI, 48, .inl (aI me_))), (am_ 14, .inl (cI, 48, .inl (aI bf_)))] s_.heap := hP_
  generalize hQe : MQ below (vp_Si (fun r_ => r_ = iI (A_cc bu_ (3 * k_ + lit nn_ k_ ns_ ln_ + 2 * cnt (chg vo_ vn_ k_ os_ ns_ ln_) nn_)))) args s_ 0 0 (fun _ => False) = Q_
  have lp15 : ∀ (n_ : Nat) (i_ : Nat) (q_ : Nat) (ls_ : Array Slot), (bu_ = true) → (i_ ≤ nn_) → (nn_ + 1 ≤ i_ + n_) → (q_ = cnt (chg vo_ vn_ k_ os_ ns_ ln_) i_) → lv_has ls_ 3 [(0, .ref (am_ 0)), (1, .int (iI ((q_ : Nat) : Int))), (2, .int (iI ((i_ : Nat) : Int)))] → W p_ l_ e_ (headSpec wsX5_unpredictedSize ({ frames := 1, cells := 0, slots := 0, locals := 22 })).room s_ m_ args below meth c_ s_.heap [] 0 0 Q_ (F0 m_ 15 ls_ []) := by
    intro n_
    induction n_ with
    | zero =>
      intro i_ q_ ls_ hb0 hi_ hn_ hq_
      exact False.elim (by omega)
    | succ n_ ih15 =>
      intro i_ q_ ls_ hb0 hi_ hn_ hq_ hl_
      obtain ⟨hkr, hmd⟩ := hmb hb0
      have hmd0 := hmd
      obtain ⟨hk_, hB_, hgd, ha_, hba, hso, hcp, hcd⟩ := hmd0
      have hcl : cp_ ≤ 48 := by rw [hcp]; exact Nat.le_trans (its_ok k_ os_ ns_ ln_ k_).1 hk_
      have hP_ : va_P G_ vwCl [(am_ 0, .inr (5, [.int (iI ((no_ : Nat) : Int)), .ref (am_ 1), .ref (am_ 2), .int (iI ((nn_ : Nat) : Int)), .ref (am_ 3), .ref (am_ 4), .int (iI (bZ bu_)), .int (iI ((k_ : Nat) : Int)), .ref (am_ 5), .ref (am_ 6), .ref (am_ 7), .ref (am_ 8), .ref (am_ 9), .ref (am_ 10), .int (iI ((cp_ : Nat) : Int)), .ref (am_ 11), .ref (am_ 12), .ref (am_ 13), .ref (am_ 14)])), (am_ 1, .inl (cI, 48, .inl (aI vo_))), (am_ 2, .inl (cZ, 48, .inl (aB fo_))), (am_ 3, .inl (cI, 48, .inl (aI vn_))), (am_ 4, .inl (cZ, 48, .inl (aB fn_))), (am_ 5, .inl (cI, 48, .inl (aN osr))), (am_ 6, .inl (cI, 48, .inl (aN nsr))), (am_ 7, .inl (cI, 48, .inl (aN lnr))), (am_ 8, .inl (cI, 48, .inl (aI ba_))), (am_ 9, .inl (cZ, 48, .inl (aB tk_))), (am_ 10, .inl (cI, 2401, .inl (aN rt_))), (am_ 11, .inl (cI, 48, .inl (aN cd_))), (am_ 12, .inl (cI, 48, .inl (aN so_))), (am_ 13, .inl (cI, 48, .inl (aI me_))), (am_ 14, .inl (cI, 48, .inl (aI bf_)))] s_.heap := by rw [hkr]; exact hP_
      refine lv_iload_n hx_ hb_ dX5_unpredictedSize_15 rfl (lv_at hl_ 2 rfl) ?_
      refine lv_aload_n hx_ hb_ dX5_unpredictedSize_16 rfl (lv_at hl_ 0 rfl) ?_
      refine va_get (D := G_) (ci := 5) (v := .int (iI ((nn_ : Nat) : Int))) (C := RX5) (T := TX5) (N := 19) hx_ hb_ hts hi5_ hown hK_ hP_ 0 rfl rfl 3 (by decide) hf57_ (fun _ h9 => h9) rfl dX5_unpredictedSize_17 ?_
      refine q_icmp_ge (tgt := 68) hx_ hb_ dX5_unpredictedSize_20 (by decide) (⟨by omega, by omega⟩) (⟨by omega, by omega⟩) (fun c20_ => ?_) (fun c20_ => ?_)
      · skip
        refine lv_iconst (v := iI ((3 : Nat) : Int)) hx_ hb_ dX5_unpredictedSize_68 rfl ?_
        refine lv_aload_n hx_ hb_ dX5_unpredictedSize_69 rfl (lv_at hl_ 0 rfl) ?_
        refine va_get (D := G_) (ci := 5) (v := .int (iI ((k_ : Nat) : Int))) (C := RX5) (T := TX5) (N := 19) hx_ hb_ hts hi5_ hown hK_ hP_ 0 rfl rfl 7 (by decide) hf93_ (fun _ h9 => h9) rfl dX5_unpredictedSize_70 ?_
        refine q_imulN hx_ hb_ dX5_unpredictedSize_73 ?_
        refine lv_aload_n hx_ hb_ dX5_unpredictedSize_74 rfl (lv_at hl_ 0 rfl) ?_
        refine ro_V (As := []) (rest := [.int (iI ((3 * k_ : Nat) : Int))]) ⟨hx_, hb_, hml, hown, hts⟩ (c_X5_literals l_ G_ cI cZ am_ bu_ no_ vo_ fo_ nn_ vn_ fn_ k_ osr nsr lnr ba_ tk_ rt_ cp_ cd_ so_ me_ bf_ os_ ns_ ln_  hno hnn hvo hvn hmd) (cwV 0 hts gX5_unpredictedSize_X5_literals rfl rfl rfl (by decide +kernel) ⟨Nat.le_of_ble_eq_true rfl, Nat.le_of_ble_eq_true rfl⟩) (hP_.sub (ws' := [(am_ 0, .inr (5, [.int (iI ((no_ : Nat) : Int)), .ref (am_ 1), .ref (am_ 2), .int (iI ((nn_ : Nat) : Int)), .ref (am_ 3), .ref (am_ 4), .int (iI (bZ bu_)), .int (iI ((k_ : Nat) : Int)), .ref (am_ 5), .ref (am_ 6), .ref (am_ 7), .ref (am_ 8), .ref (am_ 9), .ref (am_ 10), .int (iI ((cp_ : Nat) : Int)), .ref (am_ 11), .ref (am_ 12), .ref (am_ 13), .ref (am_ 14)])), (am_ 1, .inl (cI, 48, .inl (aI vo_))), (am_ 2, .inl (cZ, 48, .inl (aB fo_))), (am_ 3, .inl (cI, 48, .inl (aI vn_))), (am_ 4, .inl (cZ, 48, .inl (aB fn_))), (am_ 5, .inl (cI, 48, .inl (aN osr))), (am_ 6, .inl (cI, 48, .inl (aN nsr))), (am_ 7, .inl (cI, 48, .inl (aN lnr))), (am_ 8, .inl (cI, 48, .inl (aI ba_))), (am_ 9, .inl (cZ, 48, .inl (aB tk_))), (am_ 10, .inl (cI, 2401, .inl (aN rt_))), (am_ 11, .inl (cI, 48, .inl (aN cd_))), (am_ 12, .inl (cI, 48, .inl (aN so_))), (am_ 13, .inl (cI, 48, .inl (aI me_))), (am_ 14, .inl (cI, 48, .inl (aI bf_)))]) [0, 1, 2, 3, 4, 5, 6, 7, 8, 9, 10, 11, 12, 13, 14] rfl) hK_ 0 rfl rfl rfl hl_.1 rfl (Nat.le_of_ble_eq_true rfl) dX5_unpredictedSize_75 ⟨Nat.zero_le _, Nat.zero_le _⟩ ?_
        refine q_iaddN hx_ hb_ dX5_unpredictedSize_78 ?_
        refine lv_iconst (v := iI ((2 : Nat) : Int)) hx_ hb_ dX5_unpredictedSize_79 rfl ?_
        refine lv_iload_n hx_ hb_ dX5_unpredictedSize_80 rfl (lv_at hl_ 1 rfl) ?_
        refine q_imulN hx_ hb_ dX5_unpredictedSize_81 ?_
        refine q_iaddN hx_ hb_ dX5_unpredictedSize_82 ?_
        rw [← hQe]
        exact W.iret hx_ hb_ hr (fun tt1 htt1 hWW1 => ⟨_, rfl, congrArg iI (by unfold A_cc; rw [if_pos hb0, hq_, show i_ = nn_ from by omega]), htt1⟩) (fun q_ h_ => absurd h_ List.not_mem_nil) dX5_unpredictedSize_83
      · skip
        refine lv_iload_n hx_ hb_ dX5_unpredictedSize_23 rfl (lv_at hl_ 1 rfl) ?_
        refine lv_aload_n hx_ hb_ dX5_unpredictedSize_24 rfl (lv_at hl_ 0 rfl) ?_
        refine va_get (D := G_) (ci := 5) (v := .ref (am_ 8)) (C := RX5) (T := TX5) (N := 19) hx_ hb_ hts hi5_ hown hK_ hP_ 0 rfl rfl 11 (by decide) hf32_ (fun _ h9 => h9) rfl dX5_unpredictedSize_25 ?_
        refine lv_iload_n hx_ hb_ dX5_unpredictedSize_28 rfl (lv_at hl_ 2 rfl) ?_
        refine q_ildI hx_ hb_ hK_ hP_ 8 rfl (by decide) (i_) (by omega) (wI (bx k_ ns_ ln_ i_) k_ (-10005)) (hba i_ (by omega)) dX5_unpredictedSize_29 ?_
        refine lv_sipush (v := iI (-10005)) hx_ hb_ dX5_unpredictedSize_30 rfl ?_
        refine q_icmp_eq (tgt := 59) hx_ hb_ dX5_unpredictedSize_33 (by decide) (wI_R hk_ ⟨by decide, by decide⟩) (⟨by decide, by decide⟩) (fun c33_ => ?_) (fun c33_ => ?_)
        · skip
          refine lv_iconst (v := iI ((0 : Nat) : Int)) hx_ hb_ dX5_unpredictedSize_59 rfl ?_
          refine q_iaddN hx_ hb_ dX5_unpredictedSize_60 ?_
          refine lv_istore_n (lv' := [(1, .int (iI ((q_ + 0 : Nat) : Int))), (0, .ref (am_ 0)), (2, .int (iI ((i_ : Nat) : Int)))]) hx_ hb_ dX5_unpredictedSize_61 rfl hl_ (by decide) rfl (fun ls_ hl_ => ?_)
          refine q_iinc (k := 2) ((i_ + 1 : Nat) : Int) hx_ hb_ dX5_unpredictedSize_62 hl_ rfl (rfl) (by decide) (lv' := [(2, .int (iI ((i_ + 1 : Nat) : Int))), (1, .int (iI ((q_ + 0 : Nat) : Int))), (0, .ref (am_ 0))]) rfl (fun ls_ hl_ => ?_)
          refine lv_goto (tgt := 15) hx_ hb_ dX5_unpredictedSize_65 (by decide) ?_
          exact ih15 (i_ + 1) (q_ + 0) ls_ (hb0) (by omega) (by omega) (by rw [cnt_s0 (by unfold chg; rw [decide_eq_false (wI_nlt (by decide) c33_)]; rfl)]; omega) (lv_sub hl_ [2, 1, 0] rfl)
        · skip
          have hbx : bx k_ ns_ ln_ i_ < k_ := wI_ne c33_
          have hbi := bx_in hgd hbx
          have fv3 := prd_R (fo := fo_) (j := (bx k_ ns_ ln_ i_)) (w := i_) hB_ hvo
          have fv4 := hvo (oN os_ ns_ (bx k_ ns_ ln_ i_) i_)
          have fv2 := hvn i_
          refine lv_aload_n hx_ hb_ dX5_unpredictedSize_36 rfl (lv_at hl_ 0 rfl) ?_
          refine va_get (D := G_) (ci := 5) (v := .ref (am_ 1)) (C := RX5) (T := TX5) (N := 19) hx_ hb_ hts hi5_ hown hK_ hP_ 0 rfl rfl 1 (by decide) hf7_ (fun _ h9 => h9) rfl dX5_unpredictedSize_37 ?_
          refine lv_aload_n hx_ hb_ dX5_unpredictedSize_40 rfl (lv_at hl_ 0 rfl) ?_
          refine lv_iload_n hx_ hb_ dX5_unpredictedSize_41 rfl (lv_at hl_ 2 rfl) ?_
          refine ro_V (As := [.int (iI ((i_ : Nat) : Int))]) (rest := [.ref (am_ 1), .int (iI ((q_ : Nat) : Int))]) ⟨hx_, hb_, hml, hown, hts⟩ (c_X5_oldIndexOf l_ G_ cI cZ am_ bu_ no_ vo_ fo_ nn_ vn_ fn_ k_ osr nsr lnr ba_ tk_ rt_ cp_ cd_ so_ me_ bf_ os_ ns_ ln_ i_ hno hnn hvo hvn hmd (by omega) (hbx)) (cwV 1 hts gX5_unpredictedSize_X5_oldIndexOf rfl rfl rfl (by decide +kernel) ⟨Nat.le_of_ble_eq_true rfl, Nat.le_of_ble_eq_true rfl⟩) (hP_.sub (ws' := [(am_ 0, .inr (5, [.int (iI ((no_ : Nat) : Int)), .ref (am_ 1), .ref (am_ 2), .int (iI ((nn_ : Nat) : Int)), .ref (am_ 3), .ref (am_ 4), .int (iI (bZ bu_)), .int (iI ((k_ : Nat) : Int)), .ref (am_ 5), .ref (am_ 6), .ref (am_ 7), .ref (am_ 8), .ref (am_ 9), .ref (am_ 10), .int (iI ((cp_ : Nat) : Int)), .ref (am_ 11), .ref (am_ 12), .ref (am_ 13), .ref (am_ 14)])), (am_ 1, .inl (cI, 48, .inl (aI vo_))), (am_ 2, .inl (cZ, 48, .inl (aB fo_))), (am_ 3, .inl (cI, 48, .inl (aI vn_))), (am_ 4, .inl (cZ, 48, .inl (aB fn_))), (am_ 5, .inl (cI, 48, .inl (aN osr))), (am_ 6, .inl (cI, 48, .inl (aN nsr))), (am_ 7, .inl (cI, 48, .inl (aN lnr))), (am_ 8, .inl (cI, 48, .inl (aI ba_))), (am_ 9, .inl (cZ, 48, .inl (aB tk_))), (am_ 10, .inl (cI, 2401, .inl (aN rt_))), (am_ 11, .inl (cI, 48, .inl (aN cd_))), (am_ 12, .inl (cI, 48, .inl (aN so_))), (am_ 13, .inl (cI, 48, .inl (aI me_))), (am_ 14, .inl (cI, 48, .inl (aI bf_)))]) [0, 1, 2, 3, 4, 5, 6, 7, 8, 9, 10, 11, 12, 13, 14] rfl) hK_ 0 rfl rfl rfl hl_.1 rfl (Nat.le_of_ble_eq_true rfl) dX5_unpredictedSize_42 ⟨Nat.zero_le _, Nat.zero_le _⟩ ?_
          refine q_ildI hx_ hb_ hK_ hP_ 1 rfl (by decide) (oN os_ ns_ (bx k_ ns_ ln_ i_) i_) (by omega) (vo_ (oN os_ ns_ (bx k_ ns_ ln_ i_) i_)) (rfl) dX5_unpredictedSize_45 ?_
          refine lv_aload_n hx_ hb_ dX5_unpredictedSize_46 rfl (lv_at hl_ 0 rfl) ?_
          refine va_get (D := G_) (ci := 5) (v := .ref (am_ 3)) (C := RX5) (T := TX5) (N := 19) hx_ hb_ hts hi5_ hown hK_ hP_ 0 rfl rfl 4 (by decide) hf17_ (fun _ h9 => h9) rfl dX5_unpredictedSize_47 ?_
          refine lv_iload_n hx_ hb_ dX5_unpredictedSize_50 rfl (lv_at hl_ 2 rfl) ?_
          refine q_ildI hx_ hb_ hK_ hP_ 3 rfl (by decide) (i_) (by omega) (vn_ i_) (rfl) dX5_unpredictedSize_51 ?_
          refine q_icmp_eq (tgt := 59) hx_ hb_ dX5_unpredictedSize_52 (by decide) (⟨by omega, by omega⟩) (⟨by omega, by omega⟩) (fun c52_ => ?_) (fun c52_ => ?_)
          · skip
            refine lv_iconst (v := iI ((0 : Nat) : Int)) hx_ hb_ dX5_unpredictedSize_59 rfl ?_
            refine q_iaddN hx_ hb_ dX5_unpredictedSize_60 ?_
            refine lv_istore_n (lv' := [(1, .int (iI ((q_ + 0 : Nat) : Int))), (0, .ref (am_ 0)), (2, .int (iI ((i_ : Nat) : Int)))]) hx_ hb_ dX5_unpredictedSize_61 rfl hl_ (by decide) rfl (fun ls_ hl_ => ?_)
            refine q_iinc (k := 2) ((i_ + 1 : Nat) : Int) hx_ hb_ dX5_unpredictedSize_62 hl_ rfl (rfl) (by decide) (lv' := [(2, .int (iI ((i_ + 1 : Nat) : Int))), (1, .int (iI ((q_ + 0 : Nat) : Int))), (0, .ref (am_ 0))]) rfl (fun ls_ hl_ => ?_)
            refine lv_goto (tgt := 15) hx_ hb_ dX5_unpredictedSize_65 (by decide) ?_
            exact ih15 (i_ + 1) (q_ + 0) ls_ (hb0) (by omega) (by omega) (by rw [cnt_s0 (by unfold chg; rw [decide_eq_false (show ¬ ¬ _ from fun h0_ => h0_ c52_)]; simp)]; omega) (lv_sub hl_ [2, 1, 0] rfl)
          · skip
            refine lv_iconst (v := iI ((1 : Nat) : Int)) hx_ hb_ dX5_unpredictedSize_55 rfl ?_
            refine lv_goto (tgt := 60) hx_ hb_ dX5_unpredictedSize_56 (by decide) ?_
            refine q_iaddN hx_ hb_ dX5_unpredictedSize_60 ?_
            refine lv_istore_n (lv' := [(1, .int (iI ((q_ + 1 : Nat) : Int))), (0, .ref (am_ 0)), (2, .int (iI ((i_ : Nat) : Int)))]) hx_ hb_ dX5_unpredictedSize_61 rfl hl_ (by decide) rfl (fun ls_ hl_ => ?_)
            refine q_iinc (k := 2) ((i_ + 1 : Nat) : Int) hx_ hb_ dX5_unpredictedSize_62 hl_ rfl (rfl) (by decide) (lv' := [(2, .int (iI ((i_ + 1 : Nat) : Int))), (1, .int (iI ((q_ + 1 : Nat) : Int))), (0, .ref (am_ 0))]) rfl (fun ls_ hl_ => ?_)
            refine lv_goto (tgt := 15) hx_ hb_ dX5_unpredictedSize_65 (by decide) ?_
            exact ih15 (i_ + 1) (q_ + 1) ls_ (hb0) (by omega) (by omega) (by rw [cnt_s1 (by unfold chg; rw [decide_eq_true hbx, decide_eq_true c52_]; rfl)]; omega) (lv_sub hl_ [2, 1, 0] rfl)
  rw [show entryFrame m_ args 3 = entryFrame m_ ([.ref (am_ 0)] : List Value).toArray 3 from by rw [hargs], lg_entry_eq]
  have hl_ := lv_entry ([.ref (am_ 0)]) (n := 3) (Nat.le_of_ble_eq_true rfl)
  generalize (lg_sl ([.ref (am_ 0)]) ++ List.replicate (3 - (lg_sl ([.ref (am_ 0)])).length) Slot.unset).toArray = ls_ at hl_ ⊢
  have hl_ : lv_has ls_ 3 [(0, .ref (am_ 0))] := hl_
  refine lv_aload_n hx_ hb_ dX5_unpredictedSize_0 rfl (lv_at hl_ 0 rfl) ?_
  refine va_get (D := G_) (ci := 5) (v := .int (iI (bZ bu_))) (C := RX5) (T := TX5) (N := 19) hx_ hb_ hts hi5_ hown hK_ hP_ 0 rfl rfl 6 (by decide) hf53_ (fun _ h9 => h9) rfl dX5_unpredictedSize_1 ?_
  refine q_bt (tgt := 11) hx_ hb_ dX5_unpredictedSize_4 (by decide) (fun c4_ => ?_) (fun c4_ => ?_)
  · skip
    refine lv_iconst (v := iI ((0 : Nat) : Int)) hx_ hb_ dX5_unpredictedSize_11 rfl ?_
    refine lv_istore_n (lv' := [(1, .int (iI ((0 : Nat) : Int))), (0, .ref (am_ 0))]) hx_ hb_ dX5_unpredictedSize_12 rfl hl_ (by decide) rfl (fun ls_ hl_ => ?_)
    refine lv_iconst (v := iI ((0 : Nat) : Int)) hx_ hb_ dX5_unpredictedSize_13 rfl ?_
    refine lv_istore_n (lv' := [(2, .int (iI ((0 : Nat) : Int))), (1, .int (iI ((0 : Nat) : Int))), (0, .ref (am_ 0))]) hx_ hb_ dX5_unpredictedSize_14 rfl hl_ (by decide) rfl (fun ls_ hl_ => ?_)
    exact lp15 (nn_ + 1) 0 0 ls_ (c4_) (by omega) (by omega) (rfl) (lv_sub hl_ [2, 1, 0] rfl)
  · skip
    refine lv_sipush (v := iI (-10004)) hx_ hb_ dX5_unpredictedSize_7 rfl ?_
    rw [← hQe]
    exact W.iret hx_ hb_ hr (fun tt1 htt1 hWW1 => ⟨_, rfl, congrArg iI (if0 c4_), htt1⟩) (fun q_ h_ => absurd h_ List.not_mem_nil) dX5_unpredictedSize_10

set_option maxHeartbeats 4000000 in
set_option maxRecDepth 100000 in
/-- correctionIndex -/
theorem c_X5_correctionIndex (l_ : Launch) (G_ : va_G) (cI cZ : ClassId) (am_ : Nat → Nat) (bu_ : Bool) (no_ : Nat) (vo_ : Nat → Int) (fo_ : Nat → Bool) (nn_ : Nat) (vn_ : Nat → Int) (fn_ : Nat → Bool) (kr : Nat) (osr nsr lnr : Nat → Nat) (ba_ : Nat → Int) (tk_ : Nat → Bool) (rt_ : Nat → Nat) (cp_ : Nat) (cd_ so_ : Nat → Nat) (me_ bf_ : Nat → Int) (k_ : Nat) (os_ ns_ ln_ : Nat → Nat) (x_ : Int) (hno : no_ ≤ 48) (hnn : nn_ ≤ 48) (hvo : ∀ j_, 0 ≤ vo_ j_ ∧ vo_ j_ ≤ 9999) (hvn : ∀ j_, 0 ≤ vn_ j_ ∧ vn_ j_ ≤ 9999) (hmb : bu_ = true → k_ = kr ∧ MdI no_ nn_ k_ os_ ns_ ln_ osr nsr lnr ba_ cp_ cd_ so_) (hx1 : -2147483648 ≤ x_) (hx2 : x_ < 2147483648) : Ro l_ yX5_correctionIndex wsX5_correctionIndex ({ frames := 3, cells := 0, slots := 0, locals := 67 }) G_ cI cZ [.ref (am_ 0), .int (iI (x_))] (wMd cI cZ am_ bu_ no_ vo_ fo_ nn_ vn_ fn_ kr osr nsr lnr ba_ tk_ rt_ cp_ cd_ so_ me_ bf_) (A_ci bu_ nn_ (ncr vo_ fo_ vn_ k_ os_ ns_ ln_) x_) := by
  refine Met.ofW (cc := cX5_correctionIndex) (maxL := 4) (ret := (some .int)) (by decide) rfl ?_
  intro p_ e_ s_ m_ args below meth c_ s₁ B hml hv
  obtain ⟨hargs, hP_, hK_⟩ := hv
  have hx_ := B.exec
  have hb_ := B.bytes
  have hr := B.returns
  have hts := atoms_spec (ws := wsX5_correctionIndex) B.pre
  have hown : s_.vm.findClass RX5 = some m_.cls := findClass_of_methodNamed B.named
  have hlocks := B.notSynchronized
  have hi5_ : ∀ w_ ∈ wsX50, w_ ∈ wsX5_correctionIndex := by decide +kernel
  have hf53_ := hts (.fieldLink RX5 53 "RelocatingPatchModel" "isBuilt" "Z") (by decide +kernel)
  have hf57_ := hts (.fieldLink RX5 57 "RelocatingPatchModel" "news" "I") (by decide +kernel)
  have hP_ : va_P G_ vwCl [(am_ 0, .inr (5, [.int (iI ((no_ : Nat) : Int)), .ref (am_ 1), .ref (am_ 2), .int (iI ((nn_ : Nat) : Int)), .ref (am_ 3), .ref (am_ 4), .int (iI (bZ bu_)), .int (iI ((kr : Nat) : Int)), .ref (am_ 5), .ref (am_ 6), .ref (am_ 7), .ref (am_ 8), .ref (am_ 9), .ref (am_ 10), .int (iI ((cp_ : Nat) : Int)), .ref (am_ 11), .ref (am_ 12), .ref (am_ 13), .ref (am_ 14)])), (am_ 1, .inl (cI, 48, .inl (aI vo_))), (am_ 2, .inl (cZ, 48, .inl (aB fo_))), (am_ 3, .inl (cI, 48, .inl (aI vn_))), (am_ 4, .inl (cZ, 48, .inl (aB fn_))), (am_ 5, .inl (cI, 48, .inl (aN osr))), (am_ 6, .inl (cI, 48, .inl (aN nsr))), (am_ 7, .inl (cI, 48, .inl (aN lnr))), (am_ 8, .inl (cI, 48, .inl (aI ba_))), (am_ 9, .inl (cZ, 48, .inl (aB tk_))), (am_ 10, .inl (cI, 2401, .inl (aN rt_))), (am_ 11, .inl (cI, 48, .inl (aN cd_))), (am_ 12, .inl (cI, 48, .inl (aN so_))), (am_ 13, .inl (cI, 48, .inl (aI me_))), (am_ 14, .inl (cI, 48, .inl (aI bf_)))] s_.heap := hP_
  generalize hQe : MQ below (vp_Si (fun r_ => r_ = iI (A_ci bu_ nn_ (ncr vo_ fo_ vn_ k_ os_ ns_ ln_) x_))) args s_ 0 0 (fun _ => False) = Q_
  have lp15 : ∀ (n_ : Nat) (i_ : Nat) (lz : Int) (ls_ : Array Slot), (bu_ = true) → (i_ ≤ nn_) → (nn_ + 1 ≤ i_ + n_) → (0 ≤ lz ∨ lz = x_) → (lz = x_ - ((cnt (ncr vo_ fo_ vn_ k_ os_ ns_ ln_) i_ : Nat) : Int)) → (∀ j_, j_ < i_ → ((ncr vo_ fo_ vn_ k_ os_ ns_ ln_) j_ && decide (((cnt (ncr vo_ fo_ vn_ k_ os_ ns_ ln_) j_ : Nat) : Int) = x_)) = false) → lv_has ls_ 4 [(0, .ref (am_ 0)), (1, .int (iI (x_))), (2, .int (iI (lz))), (3, .int (iI ((i_ : Nat) : Int)))] → W p_ l_ e_ (headSpec wsX5_correctionIndex ({ frames := 3, cells := 0, slots := 0, locals := 67 })).room s_ m_ args below meth c_ s_.heap [] 0 0 Q_ (F0 m_ 15 ls_ []) := by
    intro n_
    induction n_ with
    | zero =>
      intro i_ lz ls_ hb0 hi_ hn_ hlb hq_ hno0
      exact False.elim (by omega)
    | succ n_ ih15 =>
      intro i_ lz ls_ hb0 hi_ hn_ hlb hq_ hno0 hl_
      have hcn := cnt_le (ncr vo_ fo_ vn_ k_ os_ ns_ ln_) i_
      have hlz : -2147483648 ≤ lz ∧ lz < 2147483648 := by omega
      obtain ⟨hkr, hmd⟩ := hmb hb0
      have hmd0 := hmd
      obtain ⟨hk_, hB_, hgd, ha_, hba, hso, hcp, hcd⟩ := hmd0
      have hcl : cp_ ≤ 48 := by rw [hcp]; exact Nat.le_trans (its_ok k_ os_ ns_ ln_ k_).1 hk_
      have hP_ : va_P G_ vwCl [(am_ 0, .inr (5, [.int (iI ((no_ : Nat) : Int)), .ref (am_ 1), .ref (am_ 2), .int (iI ((nn_ : Nat) : Int)), .ref (am_ 3), .ref (am_ 4), .int (iI (bZ bu_)), .int (iI ((k_ : Nat) : Int)), .ref (am_ 5), .ref (am_ 6), .ref (am_ 7), .ref (am_ 8), .ref (am_ 9), .ref (am_ 10), .int (iI ((cp_ : Nat) : Int)), .ref (am_ 11), .ref (am_ 12), .ref (am_ 13), .ref (am_ 14)])), (am_ 1, .inl (cI, 48, .inl (aI vo_))), (am_ 2, .inl (cZ, 48, .inl (aB fo_))), (am_ 3, .inl (cI, 48, .inl (aI vn_))), (am_ 4, .inl (cZ, 48, .inl (aB fn_))), (am_ 5, .inl (cI, 48, .inl (aN osr))), (am_ 6, .inl (cI, 48, .inl (aN nsr))), (am_ 7, .inl (cI, 48, .inl (aN lnr))), (am_ 8, .inl (cI, 48, .inl (aI ba_))), (am_ 9, .inl (cZ, 48, .inl (aB tk_))), (am_ 10, .inl (cI, 2401, .inl (aN rt_))), (am_ 11, .inl (cI, 48, .inl (aN cd_))), (am_ 12, .inl (cI, 48, .inl (aN so_))), (am_ 13, .inl (cI, 48, .inl (aI me_))), (am_ 14, .inl (cI, 48, .inl (aI bf_)))] s_.heap := by rw [hkr]; exact hP_
      refine lv_iload_n hx_ hb_ dX5_correctionIndex_15 rfl (lv_at hl_ 3 rfl) ?_
      refine lv_aload_n hx_ hb_ dX5_correctionIndex_16 rfl (lv_at hl_ 0 rfl) ?_
      refine va_get (D := G_) (ci := 5) (v := .int (iI ((nn_ : Nat) : Int))) (C := RX5) (T := TX5) (N := 19) hx_ hb_ hts hi5_ hown hK_ hP_ 0 rfl rfl 3 (by decide) hf57_ (fun _ h9 => h9) rfl dX5_correctionIndex_17 ?_
      refine q_icmp_ge (tgt := 50) hx_ hb_ dX5_correctionIndex_20 (by decide) (⟨by omega, by omega⟩) (⟨by omega, by omega⟩) (fun c20_ => ?_) (fun c20_ => ?_)
      · skip
        refine lv_sipush (v := iI (-10003)) hx_ hb_ dX5_correctionIndex_50 rfl ?_
        rw [← hQe]
        exact W.iret hx_ hb_ hr (fun tt1 htt1 hWW1 => ⟨_, rfl, congrArg iI (by unfold A_ci; rw [if_pos hb0]; exact fst_wI (Or.inl ⟨rfl, fun j_ hj_ => hno0 j_ (by omega)⟩)), htt1⟩) (fun q_ h_ => absurd h_ List.not_mem_nil) dX5_correctionIndex_53
      · skip
        refine lv_iload_n hx_ hb_ dX5_correctionIndex_23 rfl (lv_at hl_ 2 rfl) ?_
        refine q_if_lt (tgt := 50) hx_ hb_ dX5_correctionIndex_24 (by decide) (⟨by omega, by omega⟩) (fun c24_ => ?_) (fun c24_ => ?_)
        · skip
          refine lv_sipush (v := iI (-10003)) hx_ hb_ dX5_correctionIndex_50 rfl ?_
          rw [← hQe]
          exact W.iret hx_ hb_ hr (fun tt1 htt1 hWW1 => ⟨_, rfl, congrArg iI (by unfold A_ci; rw [if_pos hb0]; exact fst_wI (Or.inl ⟨rfl, fun j_ hj_ => by rw [decide_eq_false (show ¬ (((cnt (ncr vo_ fo_ vn_ k_ os_ ns_ ln_) j_ : Nat) : Int) = x_) from fun h0_ => by omega)]; simp⟩)), htt1⟩) (fun q_ h_ => absurd h_ List.not_mem_nil) dX5_correctionIndex_53
        · skip
          refine lv_aload_n hx_ hb_ dX5_correctionIndex_27 rfl (lv_at hl_ 0 rfl) ?_
          refine lv_iload_n hx_ hb_ dX5_correctionIndex_28 rfl (lv_at hl_ 3 rfl) ?_
          refine ro_V (As := [.int (iI ((i_ : Nat) : Int))]) (rest := []) ⟨hx_, hb_, hml, hown, hts⟩ (c_X5_isCorrected l_ G_ cI cZ am_ bu_ no_ vo_ fo_ nn_ vn_ fn_ k_ osr nsr lnr ba_ tk_ rt_ cp_ cd_ so_ me_ bf_ os_ ns_ ln_ i_ hno hnn hvo hvn hmd (by omega)) (cwV 1 hts gX5_correctionIndex_X5_isCorrected rfl rfl rfl (by decide +kernel) ⟨Nat.le_of_ble_eq_true rfl, Nat.le_of_ble_eq_true rfl⟩) (hP_.sub (ws' := [(am_ 0, .inr (5, [.int (iI ((no_ : Nat) : Int)), .ref (am_ 1), .ref (am_ 2), .int (iI ((nn_ : Nat) : Int)), .ref (am_ 3), .ref (am_ 4), .int (iI (bZ bu_)), .int (iI ((k_ : Nat) : Int)), .ref (am_ 5), .ref (am_ 6), .ref (am_ 7), .ref (am_ 8), .ref (am_ 9), .ref (am_ 10), .int (iI ((cp_ : Nat) : Int)), .ref (am_ 11), .ref (am_ 12), .ref (am_ 13), .ref (am_ 14)])), (am_ 1, .inl (cI, 48, .inl (aI vo_))), (am_ 2, .inl (cZ, 48, .inl (aB fo_))), (am_ 3, .inl (cI, 48, .inl (aI vn_))), (am_ 4, .inl (cZ, 48, .inl (aB fn_))), (am_ 5, .inl (cI, 48, .inl (aN osr))), (am_ 6, .inl (cI, 48, .inl (aN nsr))), (am_ 7, .inl (cI, 48, .inl (aN lnr))), (am_ 8, .inl (cI, 48, .inl (aI ba_))), (am_ 9, .inl (cZ, 48, .inl (aB tk_))), (am_ 10, .inl (cI, 2401, .inl (aN rt_))), (am_ 11, .inl (cI, 48, .inl (aN cd_))), (am_ 12, .inl (cI, 48, .inl (aN so_))), (am_ 13, .inl (cI, 48, .inl (aI me_))), (am_ 14, .inl (cI, 48, .inl (aI bf_)))]) [0, 1, 2, 3, 4, 5, 6, 7, 8, 9, 10, 11, 12, 13, 14] rfl) hK_ 0 rfl rfl rfl hl_.1 rfl (Nat.le_of_ble_eq_true rfl) dX5_correctionIndex_29 ⟨Nat.zero_le _, Nat.zero_le _⟩ ?_
          refine q_bf (tgt := 44) hx_ hb_ dX5_correctionIndex_32 (by decide) (fun c32_ => ?_) (fun c32_ => ?_)
          · skip
            refine q_iinc (k := 3) ((i_ + 1 : Nat) : Int) hx_ hb_ dX5_correctionIndex_44 hl_ rfl (rfl) (by decide) (lv' := [(3, .int (iI ((i_ + 1 : Nat) : Int))), (0, .ref (am_ 0)), (1, .int (iI (x_))), (2, .int (iI (lz)))]) rfl (fun ls_ hl_ => ?_)
            refine lv_goto (tgt := 15) hx_ hb_ dX5_correctionIndex_47 (by decide) ?_
            exact ih15 (i_ + 1) ((lz)) ls_ (hb0) (by omega) (by omega) (hlb) (by rw [hq_, cnt_s0 c32_]) (lt_s hno0 (by rw [c32_]; rfl)) (lv_sub hl_ [1, 2, 3, 0] rfl)
          · skip
            refine lv_iload_n hx_ hb_ dX5_correctionIndex_35 rfl (lv_at hl_ 2 rfl) ?_
            refine q_if_ne (tgt := 41) hx_ hb_ dX5_correctionIndex_36 (by decide) (⟨by omega, by omega⟩) (fun c36_ => ?_) (fun c36_ => ?_)
            · skip
              refine q_iinc (k := 2) ((lz) + (-1)) hx_ hb_ dX5_correctionIndex_41 hl_ rfl (rfl) (by decide) (lv' := [(2, .int (iI ((lz) + (-1)))), (0, .ref (am_ 0)), (1, .int (iI (x_))), (3, .int (iI ((i_ : Nat) : Int)))]) rfl (fun ls_ hl_ => ?_)
              refine q_iinc (k := 3) ((i_ + 1 : Nat) : Int) hx_ hb_ dX5_correctionIndex_44 hl_ rfl (rfl) (by decide) (lv' := [(3, .int (iI ((i_ + 1 : Nat) : Int))), (2, .int (iI ((lz) + (-1)))), (0, .ref (am_ 0)), (1, .int (iI (x_)))]) rfl (fun ls_ hl_ => ?_)
              refine lv_goto (tgt := 15) hx_ hb_ dX5_correctionIndex_47 (by decide) ?_
              exact ih15 (i_ + 1) (((lz) + (-1))) ls_ (hb0) (by omega) (by omega) (Or.inl (by omega)) (by rw [cnt_s1 c32_]; omega) (lt_s hno0 (by rw [decide_eq_false (show ¬ _ from fun h0_ => c36_ (by omega))]; simp)) (lv_sub hl_ [2, 3, 1, 0] rfl)
            · skip
              refine lv_iload_n hx_ hb_ dX5_correctionIndex_39 rfl (lv_at hl_ 3 rfl) ?_
              rw [← hQe]
              exact W.iret hx_ hb_ hr (fun tt1 htt1 hWW1 => ⟨_, rfl, congrArg iI (by unfold A_ci; rw [if_pos hb0]; exact fst_wI (Or.inr ⟨i_, by omega, by rw [c32_, decide_eq_true (show _ = x_ by omega)]; rfl, hno0, rfl⟩)), htt1⟩) (fun q_ h_ => absurd h_ List.not_mem_nil) dX5_correctionIndex_40
  rw [show entryFrame m_ args 4 = entryFrame m_ ([.ref (am_ 0), .int (iI (x_))] : List Value).toArray 4 from by rw [hargs], lg_entry_eq]
  have hl_ := lv_entry ([.ref (am_ 0), .int (iI (x_))]) (n := 4) (Nat.le_of_ble_eq_true rfl)
  generalize (lg_sl ([.ref (am_ 0), .int (iI (x_))]) ++ List.replicate (4 - (lg_sl ([.ref (am_ 0), .int (iI (x_))])).length) Slot.unset).toArray = ls_ at hl_ ⊢
  have hl_ : lv_has ls_ 4 [(0, .ref (am_ 0)), (1, .int (iI (x_)))] := hl_
  refine lv_aload_n hx_ hb_ dX5_correctionIndex_0 rfl (lv_at hl_ 0 rfl) ?_
  refine va_get (D := G_) (ci := 5) (v := .int (iI (bZ bu_))) (C := RX5) (T := TX5) (N := 19) hx_ hb_ hts hi5_ hown hK_ hP_ 0 rfl rfl 6 (by decide) hf53_ (fun _ h9 => h9) rfl dX5_correctionIndex_1 ?_
  refine q_bt (tgt := 11) hx_ hb_ dX5_correctionIndex_4 (by decide) (fun c4_ => ?_) (fun c4_ => ?_)
  · skip
    refine lv_iload_n hx_ hb_ dX5_correctionIndex_11 rfl (lv_at hl_ 1 rfl) ?_
    refine lv_istore_n (lv' := [(2, .int (iI (x_))), (0, .ref (am_ 0)), (1, .int (iI (x_)))]) hx_ hb_ dX5_correctionIndex_12 rfl hl_ (by decide) rfl (fun ls_ hl_ => ?_)
    refine lv_iconst (v := iI ((0 : Nat) : Int)) hx_ hb_ dX5_correctionIndex_13 rfl ?_
    refine lv_istore_n (lv' := [(3, .int (iI ((0 : Nat) : Int))), (2, .int (iI (x_))), (0, .ref (am_ 0)), (1, .int (iI (x_)))]) hx_ hb_ dX5_correctionIndex_14 rfl hl_ (by decide) rfl (fun ls_ hl_ => ?_)
    exact lp15 (nn_ + 1) 0 x_ ls_ (c4_) (by omega) (by omega) (Or.inr rfl) (by show x_ = x_ - ((0 : Nat) : Int); omega) (fun j_ hj_ => absurd hj_ (Nat.not_lt_zero _)) (lv_sub hl_ [2, 3, 1, 0] rfl)
  · skip
    refine lv_sipush (v := iI (-10004)) hx_ hb_ dX5_correctionIndex_7 rfl ?_
    rw [← hQe]
    exact W.iret hx_ hb_ hr (fun tt1 htt1 hWW1 => ⟨_, rfl, congrArg iI (if0 c4_), htt1⟩) (fun q_ h_ => absurd h_ List.not_mem_nil) dX5_correctionIndex_10

set_option maxHeartbeats 4000000 in
set_option maxRecDepth 100000 in
/-- copyCount -/
theorem c_X5_copyCount (l_ : Launch) (G_ : va_G) (cI cZ : ClassId) (am_ : Nat → Nat) (bu_ : Bool) (no_ : Nat) (vo_ : Nat → Int) (fo_ : Nat → Bool) (nn_ : Nat) (vn_ : Nat → Int) (fn_ : Nat → Bool) (kr : Nat) (osr nsr lnr : Nat → Nat) (ba_ : Nat → Int) (tk_ : Nat → Bool) (rt_ : Nat → Nat) (cp_ : Nat) (cd_ so_ : Nat → Nat) (me_ bf_ : Nat → Int) (k_ : Nat) (os_ ns_ ln_ : Nat → Nat)  (hno : no_ ≤ 48) (hnn : nn_ ≤ 48) (hvo : ∀ j_, 0 ≤ vo_ j_ ∧ vo_ j_ ≤ 9999) (hvn : ∀ j_, 0 ≤ vn_ j_ ∧ vn_ j_ ≤ 9999) (hmb : bu_ = true → k_ = kr ∧ MdI no_ nn_ k_ os_ ns_ ln_ osr nsr lnr ba_ cp_ cd_ so_)  : Ro l_ yX5_copyCount wsX5_copyCount ({ frames := 0, cells := 0, slots := 0, locals := 0 }) G_ cI cZ [.ref (am_ 0)] (wMd cI cZ am_ bu_ no_ vo_ fo_ nn_ vn_ fn_ kr osr nsr lnr ba_ tk_ rt_ cp_ cd_ so_ me_ bf_) (A_cc bu_ (its k_ os_ ns_ ln_ k_).2.2) := by
  refine Met.ofW (cc := cX5_copyCount) (maxL := 1) (ret := (some .int)) (by decide) rfl ?_
  intro p_ e_ s_ m_ args below meth c_ s₁ B hml hv
  obtain ⟨hargs, hP_, hK_⟩ := hv
  have hx_ := B.exec
  have hb_ := B.bytes
  have hr := B.returns
  have hts := atoms_spec (ws := wsX5_copyCount) B.pre
  have hown : s_.vm.findClass RX5 = some m_.cls := findClass_of_methodNamed B.named
  have hlocks := B.notSynchronized
  have hi5_ : ∀ w_ ∈ wsX50, w_ ∈ wsX5_copyCount := by decide +kernel
  have hf53_ := hts (.fieldLink RX5 53 "RelocatingPatchModel" "isBuilt" "Z") (by decide +kernel)
  have hf125_ := hts (.fieldLink RX5 125 "RelocatingPatchModel" "copies" "I") (by decide +kernel)
  have hP_ : va_P G_ vwCl [(am_ 0, .inr (5, [.int (iI ((no_ : Nat) : Int)), .ref (am_ 1), .ref (am_ 2), .int (iI ((nn_ : Nat) : Int)), .ref (am_ 3), .ref (am_ 4), .int (iI (bZ bu_)), .int (iI ((kr : Nat) : Int)), .ref (am_ 5), .ref (am_ 6), .ref (am_ 7), .ref (am_ 8), .ref (am_ 9), .ref (am_ 10), .int (iI ((cp_ : Nat) : Int)), .ref (am_ 11), .ref (am_ 12), .ref (am_ 13), .ref (am_ 14)])), (am_ 1, .inl (cI, 48, .inl (aI vo_))), (am_ 2, .inl (cZ, 48, .inl (aB fo_))), (am_ 3, .inl (cI, 48, .inl (aI vn_))), (am_ 4, .inl (cZ, 48, .inl (aB fn_))), (am_ 5, .inl (cI, 48, .inl (aN osr))), (am_ 6, .inl (cI, 48, .inl (aN nsr))), (am_ 7, .inl (cI, 48, .inl (aN lnr))), (am_ 8, .inl (cI, 48, .inl (aI ba_))), (am_ 9, .inl (cZ, 48, .inl (aB tk_))), (am_ 10, .inl (cI, 2401, .inl (aN rt_))), (am_ 11, .inl (cI, 48, .inl (aN cd_))), (am_ 12, .inl (cI, 48, .inl (aN so_))), (am_ 13, .inl (cI, 48, .inl (aI me_))), (am_ 14, .inl (cI, 48, .inl (aI bf_)))] s_.heap := hP_
  generalize hQe : MQ below (vp_Si (fun r_ => r_ = iI (A_cc bu_ (its k_ os_ ns_ ln_ k_).2.2))) args s_ 0 0 (fun _ => False) = Q_
  rw [show entryFrame m_ args 1 = entryFrame m_ ([.ref (am_ 0)] : List Value).toArray 1 from by rw [hargs], lg_entry_eq]
  have hl_ := lv_entry ([.ref (am_ 0)]) (n := 1) (Nat.le_of_ble_eq_true rfl)
  generalize (lg_sl ([.ref (am_ 0)]) ++ List.replicate (1 - (lg_sl ([.ref (am_ 0)])).length) Slot.unset).toArray = ls_ at hl_ ⊢
  have hl_ : lv_has ls_ 1 [(0, .ref (am_ 0))] := hl_
  refine lv_aload_n hx_ hb_ dX5_copyCount_0 rfl (lv_at hl_ 0 rfl) ?_
  refine va_get (D := G_) (ci := 5) (v := .int (iI (bZ bu_))) (C := RX5) (T := TX5) (N := 19) hx_ hb_ hts hi5_ hown hK_ hP_ 0 rfl rfl 6 (by decide) hf53_ (fun _ h9 => h9) rfl dX5_copyCount_1 ?_
  refine q_bf (tgt := 14) hx_ hb_ dX5_copyCount_4 (by decide) (fun c4_ => ?_) (fun c4_ => ?_)
  · skip
    refine lv_sipush (v := iI (-10004)) hx_ hb_ dX5_copyCount_14 rfl ?_
    rw [← hQe]
    exact W.iret hx_ hb_ hr (fun tt1 htt1 hWW1 => ⟨_, rfl, congrArg iI (if0 c4_), htt1⟩) (fun q_ h_ => absurd h_ List.not_mem_nil) dX5_copyCount_17
  · skip
    obtain ⟨hkr, hmd⟩ := hmb c4_
    have hmd0 := hmd
    obtain ⟨hk_, hB_, hgd, ha_, hba, hso, hcp, hcd⟩ := hmd0
    have hcl : cp_ ≤ 48 := by rw [hcp]; exact Nat.le_trans (its_ok k_ os_ ns_ ln_ k_).1 hk_
    have hP_ : va_P G_ vwCl [(am_ 0, .inr (5, [.int (iI ((no_ : Nat) : Int)), .ref (am_ 1), .ref (am_ 2), .int (iI ((nn_ : Nat) : Int)), .ref (am_ 3), .ref (am_ 4), .int (iI (bZ bu_)), .int (iI ((k_ : Nat) : Int)), .ref (am_ 5), .ref (am_ 6), .ref (am_ 7), .ref (am_ 8), .ref (am_ 9), .ref (am_ 10), .int (iI ((cp_ : Nat) : Int)), .ref (am_ 11), .ref (am_ 12), .ref (am_ 13), .ref (am_ 14)])), (am_ 1, .inl (cI, 48, .inl (aI vo_))), (am_ 2, .inl (cZ, 48, .inl (aB fo_))), (am_ 3, .inl (cI, 48, .inl (aI vn_))), (am_ 4, .inl (cZ, 48, .inl (aB fn_))), (am_ 5, .inl (cI, 48, .inl (aN osr))), (am_ 6, .inl (cI, 48, .inl (aN nsr))), (am_ 7, .inl (cI, 48, .inl (aN lnr))), (am_ 8, .inl (cI, 48, .inl (aI ba_))), (am_ 9, .inl (cZ, 48, .inl (aB tk_))), (am_ 10, .inl (cI, 2401, .inl (aN rt_))), (am_ 11, .inl (cI, 48, .inl (aN cd_))), (am_ 12, .inl (cI, 48, .inl (aN so_))), (am_ 13, .inl (cI, 48, .inl (aI me_))), (am_ 14, .inl (cI, 48, .inl (aI bf_)))] s_.heap := by rw [hkr]; exact hP_
    refine lv_aload_n hx_ hb_ dX5_copyCount_7 rfl (lv_at hl_ 0 rfl) ?_
    refine va_get (D := G_) (ci := 5) (v := .int (iI ((cp_ : Nat) : Int))) (C := RX5) (T := TX5) (N := 19) hx_ hb_ hts hi5_ hown hK_ hP_ 0 rfl rfl 14 (by decide) hf125_ (fun _ h9 => h9) rfl dX5_copyCount_8 ?_
    refine lv_goto (tgt := 17) hx_ hb_ dX5_copyCount_11 (by decide) ?_
    rw [← hQe]
    exact W.iret hx_ hb_ hr (fun tt1 htt1 hWW1 => ⟨_, rfl, congrArg iI (by unfold A_cc; rw [if_pos c4_, hcp]), htt1⟩) (fun q_ h_ => absurd h_ List.not_mem_nil) dX5_copyCount_17

set_option maxHeartbeats 4000000 in
set_option maxRecDepth 100000 in
/-- copyStep -/
theorem c_X5_copyStep (l_ : Launch) (G_ : va_G) (cI cZ : ClassId) (am_ : Nat → Nat) (bu_ : Bool) (no_ : Nat) (vo_ : Nat → Int) (fo_ : Nat → Bool) (nn_ : Nat) (vn_ : Nat → Int) (fn_ : Nat → Bool) (kr : Nat) (osr nsr lnr : Nat → Nat) (ba_ : Nat → Int) (tk_ : Nat → Bool) (rt_ : Nat → Nat) (cp_ : Nat) (cd_ so_ : Nat → Nat) (me_ bf_ : Nat → Int) (k_ : Nat) (os_ ns_ ln_ : Nat → Nat) (x_ : Int) (hno : no_ ≤ 48) (hnn : nn_ ≤ 48) (hvo : ∀ j_, 0 ≤ vo_ j_ ∧ vo_ j_ ≤ 9999) (hvn : ∀ j_, 0 ≤ vn_ j_ ∧ vn_ j_ ≤ 9999) (hmb : bu_ = true → k_ = kr ∧ MdI no_ nn_ k_ os_ ns_ ln_ osr nsr lnr ba_ cp_ cd_ so_) (hx1 : -2147483648 ≤ x_) (hx2 : x_ < 2147483648) : Ro l_ yX5_copyStep wsX5_copyStep ({ frames := 1, cells := 0, slots := 0, locals := 22 }) G_ cI cZ [.ref (am_ 0), .int (iI (x_))] (wMd cI cZ am_ bu_ no_ vo_ fo_ nn_ vn_ fn_ kr osr nsr lnr ba_ tk_ rt_ cp_ cd_ so_ me_ bf_) (A_ofb bu_ (its k_ os_ ns_ ln_ k_).2.2 (its k_ os_ ns_ ln_ k_).2.1 x_) := by
  refine Met.ofW (cc := cX5_copyStep) (maxL := 2) (ret := (some .int)) (by decide) rfl ?_
  intro p_ e_ s_ m_ args below meth c_ s₁ B hml hv
  obtain ⟨hargs, hP_, hK_⟩ := hv
  have hx_ := B.exec
  have hb_ := B.bytes
  have hr := B.returns
  have hts := atoms_spec (ws := wsX5_copyStep) B.pre
  have hown : s_.vm.findClass RX5 = some m_.cls := findClass_of_methodNamed B.named
  have hlocks := B.notSynchronized
  have hi5_ : ∀ w_ ∈ wsX50, w_ ∈ wsX5_copyStep := by decide +kernel
  have hf41_ := hts (.fieldLink RX5 41 "RelocatingPatchModel" "copied" "[I") (by decide +kernel)
  have hf53_ := hts (.fieldLink RX5 53 "RelocatingPatchModel" "isBuilt" "Z") (by decide +kernel)
  have hf125_ := hts (.fieldLink RX5 125 "RelocatingPatchModel" "copies" "I") (by decide +kernel)
  have hP_ : va_P G_ vwCl [(am_ 0, .inr (5, [.int (iI ((no_ : Nat) : Int)), .ref (am_ 1), .ref (am_ 2), .int (iI ((nn_ : Nat) : Int)), .ref (am_ 3), .ref (am_ 4), .int (iI (bZ bu_)), .int (iI ((kr : Nat) : Int)), .ref (am_ 5), .ref (am_ 6), .ref (am_ 7), .ref (am_ 8), .ref (am_ 9), .ref (am_ 10), .int (iI ((cp_ : Nat) : Int)), .ref (am_ 11), .ref (am_ 12), .ref (am_ 13), .ref (am_ 14)])), (am_ 1, .inl (cI, 48, .inl (aI vo_))), (am_ 2, .inl (cZ, 48, .inl (aB fo_))), (am_ 3, .inl (cI, 48, .inl (aI vn_))), (am_ 4, .inl (cZ, 48, .inl (aB fn_))), (am_ 5, .inl (cI, 48, .inl (aN osr))), (am_ 6, .inl (cI, 48, .inl (aN nsr))), (am_ 7, .inl (cI, 48, .inl (aN lnr))), (am_ 8, .inl (cI, 48, .inl (aI ba_))), (am_ 9, .inl (cZ, 48, .inl (aB tk_))), (am_ 10, .inl (cI, 2401, .inl (aN rt_))), (am_ 11, .inl (cI, 48, .inl (aN cd_))), (am_ 12, .inl (cI, 48, .inl (aN so_))), (am_ 13, .inl (cI, 48, .inl (aI me_))), (am_ 14, .inl (cI, 48, .inl (aI bf_)))] s_.heap := hP_
  generalize hQe : MQ below (vp_Si (fun r_ => r_ = iI (A_ofb bu_ (its k_ os_ ns_ ln_ k_).2.2 (its k_ os_ ns_ ln_ k_).2.1 x_))) args s_ 0 0 (fun _ => False) = Q_
  rw [show entryFrame m_ args 2 = entryFrame m_ ([.ref (am_ 0), .int (iI (x_))] : List Value).toArray 2 from by rw [hargs], lg_entry_eq]
  have hl_ := lv_entry ([.ref (am_ 0), .int (iI (x_))]) (n := 2) (Nat.le_of_ble_eq_true rfl)
  generalize (lg_sl ([.ref (am_ 0), .int (iI (x_))]) ++ List.replicate (2 - (lg_sl ([.ref (am_ 0), .int (iI (x_))])).length) Slot.unset).toArray = ls_ at hl_ ⊢
  have hl_ : lv_has ls_ 2 [(0, .ref (am_ 0)), (1, .int (iI (x_)))] := hl_
  refine lv_aload_n hx_ hb_ dX5_copyStep_0 rfl (lv_at hl_ 0 rfl) ?_
  refine va_get (D := G_) (ci := 5) (v := .int (iI (bZ bu_))) (C := RX5) (T := TX5) (N := 19) hx_ hb_ hts hi5_ hown hK_ hP_ 0 rfl rfl 6 (by decide) hf53_ (fun _ h9 => h9) rfl dX5_copyStep_1 ?_
  refine q_bt (tgt := 11) hx_ hb_ dX5_copyStep_4 (by decide) (fun c4_ => ?_) (fun c4_ => ?_)
  · skip
    obtain ⟨hkr, hmd⟩ := hmb c4_
    have hmd0 := hmd
    obtain ⟨hk_, hB_, hgd, ha_, hba, hso, hcp, hcd⟩ := hmd0
    have hcl : cp_ ≤ 48 := by rw [hcp]; exact Nat.le_trans (its_ok k_ os_ ns_ ln_ k_).1 hk_
    have hP_ : va_P G_ vwCl [(am_ 0, .inr (5, [.int (iI ((no_ : Nat) : Int)), .ref (am_ 1), .ref (am_ 2), .int (iI ((nn_ : Nat) : Int)), .ref (am_ 3), .ref (am_ 4), .int (iI (bZ bu_)), .int (iI ((k_ : Nat) : Int)), .ref (am_ 5), .ref (am_ 6), .ref (am_ 7), .ref (am_ 8), .ref (am_ 9), .ref (am_ 10), .int (iI ((cp_ : Nat) : Int)), .ref (am_ 11), .ref (am_ 12), .ref (am_ 13), .ref (am_ 14)])), (am_ 1, .inl (cI, 48, .inl (aI vo_))), (am_ 2, .inl (cZ, 48, .inl (aB fo_))), (am_ 3, .inl (cI, 48, .inl (aI vn_))), (am_ 4, .inl (cZ, 48, .inl (aB fn_))), (am_ 5, .inl (cI, 48, .inl (aN osr))), (am_ 6, .inl (cI, 48, .inl (aN nsr))), (am_ 7, .inl (cI, 48, .inl (aN lnr))), (am_ 8, .inl (cI, 48, .inl (aI ba_))), (am_ 9, .inl (cZ, 48, .inl (aB tk_))), (am_ 10, .inl (cI, 2401, .inl (aN rt_))), (am_ 11, .inl (cI, 48, .inl (aN cd_))), (am_ 12, .inl (cI, 48, .inl (aN so_))), (am_ 13, .inl (cI, 48, .inl (aI me_))), (am_ 14, .inl (cI, 48, .inl (aI bf_)))] s_.heap := by rw [hkr]; exact hP_
    refine lv_iload_n hx_ hb_ dX5_copyStep_11 rfl (lv_at hl_ 1 rfl) ?_
    refine lv_iconst (v := iI ((0 : Nat) : Int)) hx_ hb_ dX5_copyStep_12 rfl ?_
    refine lv_aload_n hx_ hb_ dX5_copyStep_13 rfl (lv_at hl_ 0 rfl) ?_
    refine va_get (D := G_) (ci := 5) (v := .int (iI ((cp_ : Nat) : Int))) (C := RX5) (T := TX5) (N := 19) hx_ hb_ hts hi5_ hown hK_ hP_ 0 rfl rfl 14 (by decide) hf125_ (fun _ h9 => h9) rfl dX5_copyStep_14 ?_
    refine lv_iconst (v := iI ((1 : Nat) : Int)) hx_ hb_ dX5_copyStep_17 rfl ?_
    refine q_isub hx_ hb_ dX5_copyStep_18 ?_
    refine ro_S (As := [.int (iI (x_)), .int (iI ((0 : Nat) : Int)), .int (iI (((cp_ : Nat) : Int) - ((1 : Nat) : Int)))]) (rest := []) ⟨hx_, hb_, hml, hown, hts⟩ (c_X5_within l_ G_ cI cZ (x_) ((0 : Nat) : Int) (((cp_ : Nat) : Int) - ((1 : Nat) : Int)) (by omega) (by omega) (by omega) (by omega) (by omega) (by omega)) (va_cwS 3 hts gX5_copyStep_X5_within rfl rfl rfl (by decide +kernel) ⟨Nat.le_of_ble_eq_true rfl, Nat.le_of_ble_eq_true rfl⟩) (hP_.sub (ws' := []) [] rfl) hK_ rfl hl_.1 rfl (Nat.le_of_ble_eq_true rfl) dX5_copyStep_19 ⟨Nat.zero_le _, Nat.zero_le _⟩ ?_
    refine q_df (tgt := 34) hx_ hb_ dX5_copyStep_22 (by decide) (fun c22_ => ?_) (fun c22_ => ?_)
    · skip
      refine lv_sipush (v := iI (-10003)) hx_ hb_ dX5_copyStep_34 rfl ?_
      rw [← hQe]
      exact W.iret hx_ hb_ hr (fun tt1 htt1 hWW1 => ⟨_, rfl, congrArg iI (by unfold A_ofb; rw [if_pos c4_, ← hcp, if_neg (by omega)]), htt1⟩) (fun q_ h_ => absurd h_ List.not_mem_nil) dX5_copyStep_37
    · skip
      refine lv_aload_n hx_ hb_ dX5_copyStep_25 rfl (lv_at hl_ 0 rfl) ?_
      refine va_get (D := G_) (ci := 5) (v := .ref (am_ 11)) (C := RX5) (T := TX5) (N := 19) hx_ hb_ hts hi5_ hown hK_ hP_ 0 rfl rfl 15 (by decide) hf41_ (fun _ h9 => h9) rfl dX5_copyStep_26 ?_
      refine lv_iload_n hx_ hb_ dX5_copyStep_29 rfl (lv_at hl_ 1 rfl) ?_
      refine q_cast (b := ((x_.toNat : Nat) : Int)) (by omega) ?_
      refine q_ildN hx_ hb_ hK_ hP_ 11 rfl (by decide) (x_.toNat) (by omega) (cd_ x_.toNat) (rfl) dX5_copyStep_30 ?_
      refine lv_goto (tgt := 37) hx_ hb_ dX5_copyStep_31 (by decide) ?_
      rw [← hQe]
      exact W.iret hx_ hb_ hr (fun tt1 htt1 hWW1 => ⟨_, rfl, congrArg iI (by unfold A_ofb; rw [if_pos c4_, ← hcp, if_pos (by omega), hcd x_.toNat (by omega)]), htt1⟩) (fun q_ h_ => absurd h_ List.not_mem_nil) dX5_copyStep_37
  · skip
    refine lv_sipush (v := iI (-10004)) hx_ hb_ dX5_copyStep_7 rfl ?_
    rw [← hQe]
    exact W.iret hx_ hb_ hr (fun tt1 htt1 hWW1 => ⟨_, rfl, congrArg iI (if0 c4_), htt1⟩) (fun q_ h_ => absurd h_ List.not_mem_nil) dX5_copyStep_10

set_option maxHeartbeats 4000000 in
set_option maxRecDepth 100000 in
/-- isDropped -/
theorem c_X5_isDropped (l_ : Launch) (G_ : va_G) (cI cZ : ClassId) (am_ : Nat → Nat) (bu_ : Bool) (no_ : Nat) (vo_ : Nat → Int) (fo_ : Nat → Bool) (nn_ : Nat) (vn_ : Nat → Int) (fn_ : Nat → Bool) (kr : Nat) (osr nsr lnr : Nat → Nat) (ba_ : Nat → Int) (tk_ : Nat → Bool) (rt_ : Nat → Nat) (cp_ : Nat) (cd_ so_ : Nat → Nat) (me_ bf_ : Nat → Int) (k_ : Nat) (os_ ns_ ln_ : Nat → Nat) (x_ : Int) (hno : no_ ≤ 48) (hnn : nn_ ≤ 48) (hvo : ∀ j_, 0 ≤ vo_ j_ ∧ vo_ j_ ≤ 9999) (hvn : ∀ j_, 0 ≤ vn_ j_ ∧ vn_ j_ ≤ 9999) (hmb : bu_ = true → k_ = kr ∧ MdI no_ nn_ k_ os_ ns_ ln_ osr nsr lnr ba_ cp_ cd_ so_) (hx1 : -2147483648 ≤ x_) (hx2 : x_ < 2147483648) : Ro l_ yX5_isDropped wsX5_isDropped ({ frames := 1, cells := 0, slots := 0, locals := 22 }) G_ cI cZ [.ref (am_ 0), .int (iI (x_))] (wMd cI cZ am_ bu_ no_ vo_ fo_ nn_ vn_ fn_ kr osr nsr lnr ba_ tk_ rt_ cp_ cd_ so_ me_ bf_) (A_drp bu_ k_ os_ ns_ ln_ x_) := by
  refine Met.ofW (cc := cX5_isDropped) (maxL := 2) (ret := (some .int)) (by decide) rfl ?_
  intro p_ e_ s_ m_ args below meth c_ s₁ B hml hv
  obtain ⟨hargs, hP_, hK_⟩ := hv
  have hx_ := B.exec
  have hb_ := B.bytes
  have hr := B.returns
  have hts := atoms_spec (ws := wsX5_isDropped) B.pre
  have hown : s_.vm.findClass RX5 = some m_.cls := findClass_of_methodNamed B.named
  have hlocks := B.notSynchronized
  have hi5_ : ∀ w_ ∈ wsX50, w_ ∈ wsX5_isDropped := by decide +kernel
  have hf44_ := hts (.fieldLink RX5 44 "RelocatingPatchModel" "stateOf" "[I") (by decide +kernel)
  have hf53_ := hts (.fieldLink RX5 53 "RelocatingPatchModel" "isBuilt" "Z") (by decide +kernel)
  have hf93_ := hts (.fieldLink RX5 93 "RelocatingPatchModel" "blocks" "I") (by decide +kernel)
  have hP_ : va_P G_ vwCl [(am_ 0, .inr (5, [.int (iI ((no_ : Nat) : Int)), .ref (am_ 1), .ref (am_ 2), .int (iI ((nn_ : Nat) : Int)), .ref (am_ 3), .ref (am_ 4), .int (iI (bZ bu_)), .int (iI ((kr : Nat) : Int)), .ref (am_ 5), .ref (am_ 6), .ref (am_ 7), .ref (am_ 8), .ref (am_ 9), .ref (am_ 10), .int (iI ((cp_ : Nat) : Int)), .ref (am_ 11), .ref (am_ 12), .ref (am_ 13), .ref (am_ 14)])), (am_ 1, .inl (cI, 48, .inl (aI vo_))), (am_ 2, .inl (cZ, 48, .inl (aB fo_))), (am_ 3, .inl (cI, 48, .inl (aI vn_))), (am_ 4, .inl (cZ, 48, .inl (aB fn_))), (am_ 5, .inl (cI, 48, .inl (aN osr))), (am_ 6, .inl (cI, 48, .inl (aN nsr))), (am_ 7, .inl (cI, 48, .inl (aN lnr))), (am_ 8, .inl (cI, 48, .inl (aI ba_))), (am_ 9, .inl (cZ, 48, .inl (aB tk_))), (am_ 10, .inl (cI, 2401, .inl (aN rt_))), (am_ 11, .inl (cI, 48, .inl (aN cd_))), (am_ 12, .inl (cI, 48, .inl (aN so_))), (am_ 13, .inl (cI, 48, .inl (aI me_))), (am_ 14, .inl (cI, 48, .inl (aI bf_)))] s_.heap := hP_
  generalize hQe : MQ below (vp_Si (fun r_ => r_ = iI (A_drp bu_ k_ os_ ns_ ln_ x_))) args s_ 0 0 (fun _ => False) = Q_
  rw [show entryFrame m_ args 2 = entryFrame m_ ([.ref (am_ 0), .int (iI (x_))] : List Value).toArray 2 from by rw [hargs], lg_entry_eq]
  have hl_ := lv_entry ([.ref (am_ 0), .int (iI (x_))]) (n := 2) (Nat.le_of_ble_eq_true rfl)
  generalize (lg_sl ([.ref (am_ 0), .int (iI (x_))]) ++ List.replicate (2 - (lg_sl ([.ref (am_ 0), .int (iI (x_))])).length) Slot.unset).toArray = ls_ at hl_ ⊢
  have hl_ : lv_has ls_ 2 [(0, .ref (am_ 0)), (1, .int (iI (x_)))] := hl_
  refine lv_aload_n hx_ hb_ dX5_isDropped_0 rfl (lv_at hl_ 0 rfl) ?_
  refine va_get (D := G_) (ci := 5) (v := .int (iI (bZ bu_))) (C := RX5) (T := TX5) (N := 19) hx_ hb_ hts hi5_ hown hK_ hP_ 0 rfl rfl 6 (by decide) hf53_ (fun _ h9 => h9) rfl dX5_isDropped_1 ?_
  refine q_bt (tgt := 11) hx_ hb_ dX5_isDropped_4 (by decide) (fun c4_ => ?_) (fun c4_ => ?_)
  · skip
    obtain ⟨hkr, hmd⟩ := hmb c4_
    have hmd0 := hmd
    obtain ⟨hk_, hB_, hgd, ha_, hba, hso, hcp, hcd⟩ := hmd0
    have hcl : cp_ ≤ 48 := by rw [hcp]; exact Nat.le_trans (its_ok k_ os_ ns_ ln_ k_).1 hk_
    have hP_ : va_P G_ vwCl [(am_ 0, .inr (5, [.int (iI ((no_ : Nat) : Int)), .ref (am_ 1), .ref (am_ 2), .int (iI ((nn_ : Nat) : Int)), .ref (am_ 3), .ref (am_ 4), .int (iI (bZ bu_)), .int (iI ((k_ : Nat) : Int)), .ref (am_ 5), .ref (am_ 6), .ref (am_ 7), .ref (am_ 8), .ref (am_ 9), .ref (am_ 10), .int (iI ((cp_ : Nat) : Int)), .ref (am_ 11), .ref (am_ 12), .ref (am_ 13), .ref (am_ 14)])), (am_ 1, .inl (cI, 48, .inl (aI vo_))), (am_ 2, .inl (cZ, 48, .inl (aB fo_))), (am_ 3, .inl (cI, 48, .inl (aI vn_))), (am_ 4, .inl (cZ, 48, .inl (aB fn_))), (am_ 5, .inl (cI, 48, .inl (aN osr))), (am_ 6, .inl (cI, 48, .inl (aN nsr))), (am_ 7, .inl (cI, 48, .inl (aN lnr))), (am_ 8, .inl (cI, 48, .inl (aI ba_))), (am_ 9, .inl (cZ, 48, .inl (aB tk_))), (am_ 10, .inl (cI, 2401, .inl (aN rt_))), (am_ 11, .inl (cI, 48, .inl (aN cd_))), (am_ 12, .inl (cI, 48, .inl (aN so_))), (am_ 13, .inl (cI, 48, .inl (aI me_))), (am_ 14, .inl (cI, 48, .inl (aI bf_)))] s_.heap := by rw [hkr]; exact hP_
    refine lv_iload_n hx_ hb_ dX5_isDropped_11 rfl (lv_at hl_ 1 rfl) ?_
    refine lv_iconst (v := iI ((0 : Nat) : Int)) hx_ hb_ dX5_isDropped_12 rfl ?_
    refine lv_aload_n hx_ hb_ dX5_isDropped_13 rfl (lv_at hl_ 0 rfl) ?_
    refine va_get (D := G_) (ci := 5) (v := .int (iI ((k_ : Nat) : Int))) (C := RX5) (T := TX5) (N := 19) hx_ hb_ hts hi5_ hown hK_ hP_ 0 rfl rfl 7 (by decide) hf93_ (fun _ h9 => h9) rfl dX5_isDropped_14 ?_
    refine lv_iconst (v := iI ((1 : Nat) : Int)) hx_ hb_ dX5_isDropped_17 rfl ?_
    refine q_isub hx_ hb_ dX5_isDropped_18 ?_
    refine ro_S (As := [.int (iI (x_)), .int (iI ((0 : Nat) : Int)), .int (iI (((k_ : Nat) : Int) - ((1 : Nat) : Int)))]) (rest := []) ⟨hx_, hb_, hml, hown, hts⟩ (c_X5_within l_ G_ cI cZ (x_) ((0 : Nat) : Int) (((k_ : Nat) : Int) - ((1 : Nat) : Int)) (by omega) (by omega) (by omega) (by omega) (by omega) (by omega)) (va_cwS 3 hts gX5_isDropped_X5_within rfl rfl rfl (by decide +kernel) ⟨Nat.le_of_ble_eq_true rfl, Nat.le_of_ble_eq_true rfl⟩) (hP_.sub (ws' := []) [] rfl) hK_ rfl hl_.1 rfl (Nat.le_of_ble_eq_true rfl) dX5_isDropped_19 ⟨Nat.zero_le _, Nat.zero_le _⟩ ?_
    refine q_dt (tgt := 29) hx_ hb_ dX5_isDropped_22 (by decide) (fun c22_ => ?_) (fun c22_ => ?_)
    · skip
      have hdn := its_done k_ os_ ns_ ln_ (show x_.toNat < k_ by omega)
      refine lv_aload_n hx_ hb_ dX5_isDropped_29 rfl (lv_at hl_ 0 rfl) ?_
      refine va_get (D := G_) (ci := 5) (v := .ref (am_ 12)) (C := RX5) (T := TX5) (N := 19) hx_ hb_ hts hi5_ hown hK_ hP_ 0 rfl rfl 16 (by decide) hf44_ (fun _ h9 => h9) rfl dX5_isDropped_30 ?_
      refine lv_iload_n hx_ hb_ dX5_isDropped_33 rfl (lv_at hl_ 1 rfl) ?_
      refine q_cast (b := ((x_.toNat : Nat) : Int)) (by omega) ?_
      refine q_ildN hx_ hb_ hK_ hP_ 12 rfl (by decide) (x_.toNat) (by omega) ((its k_ os_ ns_ ln_ k_).1 x_.toNat) (hso x_.toNat (by omega)) dX5_isDropped_34 ?_
      refine lv_iconst (v := iI ((2 : Nat) : Int)) hx_ hb_ dX5_isDropped_35 rfl ?_
      refine q_icmp_ne (tgt := 43) hx_ hb_ dX5_isDropped_36 (by decide) (⟨by omega, by omega⟩) (⟨by decide, by decide⟩) (fun c36_ => ?_) (fun c36_ => ?_)
      · skip
        refine lv_iconst (v := iI ((0 : Nat) : Int)) hx_ hb_ dX5_isDropped_43 rfl ?_
        rw [← hQe]
        exact W.iret hx_ hb_ hr (fun tt1 htt1 hWW1 => ⟨_, rfl, congrArg iI (by unfold A_drp; rw [if_pos c4_, if_pos (by omega), if_neg (by omega)]; rfl), htt1⟩) (fun q_ h_ => absurd h_ List.not_mem_nil) dX5_isDropped_44
      · skip
        refine lv_iconst (v := iI ((1 : Nat) : Int)) hx_ hb_ dX5_isDropped_39 rfl ?_
        refine lv_goto (tgt := 44) hx_ hb_ dX5_isDropped_40 (by decide) ?_
        rw [← hQe]
        exact W.iret hx_ hb_ hr (fun tt1 htt1 hWW1 => ⟨_, rfl, congrArg iI (by unfold A_drp; rw [if_pos c4_, if_pos (by omega), if_pos (by omega)]; rfl), htt1⟩) (fun q_ h_ => absurd h_ List.not_mem_nil) dX5_isDropped_44
    · skip
      refine lv_sipush (v := iI (-10003)) hx_ hb_ dX5_isDropped_25 rfl ?_
      rw [← hQe]
      exact W.iret hx_ hb_ hr (fun tt1 htt1 hWW1 => ⟨_, rfl, congrArg iI (if3 c4_ (by omega)), htt1⟩) (fun q_ h_ => absurd h_ List.not_mem_nil) dX5_isDropped_28
  · skip
    refine lv_sipush (v := iI (-10004)) hx_ hb_ dX5_isDropped_7 rfl ?_
    rw [← hQe]
    exact W.iret hx_ hb_ hr (fun tt1 htt1 hWW1 => ⟨_, rfl, congrArg iI (if0 c4_), htt1⟩) (fun q_ h_ => absurd h_ List.not_mem_nil) dX5_isDropped_10

set_option maxHeartbeats 4000000 in
set_option maxRecDepth 100000 in
/-- inPlaceSize -/
theorem c_X5_inPlaceSize (l_ : Launch) (G_ : va_G) (cI cZ : ClassId) (am_ : Nat → Nat) (bu_ : Bool) (no_ : Nat) (vo_ : Nat → Int) (fo_ : Nat → Bool) (nn_ : Nat) (vn_ : Nat → Int) (fn_ : Nat → Bool) (kr : Nat) (osr nsr lnr : Nat → Nat) (ba_ : Nat → Int) (tk_ : Nat → Bool) (rt_ : Nat → Nat) (cp_ : Nat) (cd_ so_ : Nat → Nat) (me_ bf_ : Nat → Int) (k_ : Nat) (os_ ns_ ln_ : Nat → Nat)  (hno : no_ ≤ 48) (hnn : nn_ ≤ 48) (hvo : ∀ j_, 0 ≤ vo_ j_ ∧ vo_ j_ ≤ 9999) (hvn : ∀ j_, 0 ≤ vn_ j_ ∧ vn_ j_ ≤ 9999) (hmb : bu_ = true → k_ = kr ∧ MdI no_ nn_ k_ os_ ns_ ln_ osr nsr lnr ba_ cp_ cd_ so_)  : Ro l_ yX5_inPlaceSize wsX5_inPlaceSize ({ frames := 3, cells := 0, slots := 0, locals := 67 }) G_ cI cZ [.ref (am_ 0)] (wMd cI cZ am_ bu_ no_ vo_ fo_ nn_ vn_ fn_ kr osr nsr lnr ba_ tk_ rt_ cp_ cd_ so_ me_ bf_) (A_cc bu_ (3 * (its k_ os_ ns_ ln_ k_).2.2 + smN (ipc vo_ fo_ vn_ k_ os_ ns_ ln_) nn_)) := by
  refine Met.ofW (cc := cX5_inPlaceSize) (maxL := 3) (ret := (some .int)) (by decide) rfl ?_
  intro p_ e_ s_ m_ args below meth c_ s₁ B hml hv
  obtain ⟨hargs, hP_, hK_⟩ := hv
  have hx_ := B.exec
  have hb_ := B.bytes
  have hr := B.returns
  have hts := atoms_spec (ws := wsX5_inPlaceSize) B.pre
  have hown : s_.vm.findClass RX5 = some m_.cls := findClass_of_methodNamed B.named
  have hlocks := B.notSynchronized
  have hi5_ : ∀ w_ ∈ wsX50, w_ ∈ wsX5_inPlaceSize := by decide +kernel
  have hf53_ := hts (.fieldLink RX5 53 "RelocatingPatchModel" "isBuilt" "Z") (by decide +kernel)
  have hf57_ := hts (.fieldLink RX5 57 "RelocatingPatchModel" "news" "I") (by decide +kernel)
  have hf125_ := hts (.fieldLink RX5 125 "RelocatingPatchModel" "copies" "I") (by decide +kernel)
  have hP_ : va_P G_ vwCl [(am_ 0, .inr (5, [.int (iI ((no_ : Nat) : Int)), .ref (am_ 1), .ref (am_ 2), .int (iI ((nn_ : Nat) : Int)), .ref (am_ 3), .ref (am_ 4), .int (iI (bZ bu_)), .int (iI ((kr : Nat) : Int)), .ref (am_ 5), .ref (am_ 6), .ref (am_ 7), .ref (am_ 8), .ref (am_ 9), .ref (am_ 10), .int (iI ((cp_ : Nat) : Int)), .ref (am_ 11), .ref (am_ 12), .ref (am_ 13), .ref (am_ 14)])), (am_ 1, .inl (cI, 48, .inl (aI vo_))), (am_ 2, .inl (cZ, 48, .inl (aB fo_))), (am_ 3, .inl (cI, 48, .inl (aI vn_))), (am_ 4, .inl (cZ, 48, .inl (aB fn_))), (am_ 5, .inl (cI, 48, .inl (aN osr))), (am_ 6, .inl (cI, 48, .inl (aN nsr))), (am_ 7, .inl (cI, 48, .inl (aN lnr))), (am_ 8, .inl (cI, 48, .inl (aI ba_))), (am_ 9, .inl (cZ, 48, .inl (aB tk_))), (am_ 10, .inl (cI, 2401, .inl (aN rt_))), (am_ 11, .inl (cI, 48, .inl (aN cd_))), (am_ 12, .inl (cI, 48, .inl (aN so_))), (am_ 13, .inl (cI, 48, .inl (aI me_))), (am_ 14, .inl (cI, 48, .inl (aI bf_)))] s_.heap := hP_
  generalize hQe : MQ below (vp_Si (fun r_ => r_ = iI (A_cc bu_ (3 * (its k_ os_ ns_ ln_ k_).2.2 + smN (ipc vo_ fo_ vn_ k_ os_ ns_ ln_) nn_)))) args s_ 0 0 (fun _ => False) = Q_
  have lp20 : ∀ (n_ : Nat) (i_ : Nat) (q_ : Nat) (ls_ : Array Slot), (bu_ = true) → (i_ ≤ nn_) → (nn_ + 1 ≤ i_ + n_) → (q_ = 3 * cp_ + smN (ipc vo_ fo_ vn_ k_ os_ ns_ ln_) i_) → lv_has ls_ 3 [(0, .ref (am_ 0)), (1, .int (iI ((q_ : Nat) : Int))), (2, .int (iI ((i_ : Nat) : Int)))] → W p_ l_ e_ (headSpec wsX5_inPlaceSize ({ frames := 3, cells := 0, slots := 0, locals := 67 })).room s_ m_ args below meth c_ s_.heap [] 0 0 Q_ (F0 m_ 20 ls_ []) := by
    intro n_
    induction n_ with
    | zero =>
      intro i_ q_ ls_ hb0 hi_ hn_ hq_
      exact False.elim (by omega)
    | succ n_ ih20 =>
      intro i_ q_ ls_ hb0 hi_ hn_ hq_ hl_
      obtain ⟨hkr, hmd⟩ := hmb hb0
      have hmd0 := hmd
      obtain ⟨hk_, hB_, hgd, ha_, hba, hso, hcp, hcd⟩ := hmd0
      have hcl : cp_ ≤ 48 := by rw [hcp]; exact Nat.le_trans (its_ok k_ os_ ns_ ln_ k_).1 hk_
      have hP_ : va_P G_ vwCl [(am_ 0, .inr (5, [.int (iI ((no_ : Nat) : Int)), .ref (am_ 1), .ref (am_ 2), .int (iI ((nn_ : Nat) : Int)), .ref (am_ 3), .ref (am_ 4), .int (iI (bZ bu_)), .int (iI ((k_ : Nat) : Int)), .ref (am_ 5), .ref (am_ 6), .ref (am_ 7), .ref (am_ 8), .ref (am_ 9), .ref (am_ 10), .int (iI ((cp_ : Nat) : Int)), .ref (am_ 11), .ref (am_ 12), .ref (am_ 13), .ref (am_ 14)])), (am_ 1, .inl (cI, 48, .inl (aI vo_))), (am_ 2, .inl (cZ, 48, .inl (aB fo_))), (am_ 3, .inl (cI, 48, .inl (aI vn_))), (am_ 4, .inl (cZ, 48, .inl (aB fn_))), (am_ 5, .inl (cI, 48, .inl (aN osr))), (am_ 6, .inl (cI, 48, .inl (aN nsr))), (am_ 7, .inl (cI, 48, .inl (aN lnr))), (am_ 8, .inl (cI, 48, .inl (aI ba_))), (am_ 9, .inl (cZ, 48, .inl (aB tk_))), (am_ 10, .inl (cI, 2401, .inl (aN rt_))), (am_ 11, .inl (cI, 48, .inl (aN cd_))), (am_ 12, .inl (cI, 48, .inl (aN so_))), (am_ 13, .inl (cI, 48, .inl (aI me_))), (am_ 14, .inl (cI, 48, .inl (aI bf_)))] s_.heap := by rw [hkr]; exact hP_
      refine lv_iload_n hx_ hb_ dX5_inPlaceSize_20 rfl (lv_at hl_ 2 rfl) ?_
      refine lv_aload_n hx_ hb_ dX5_inPlaceSize_21 rfl (lv_at hl_ 0 rfl) ?_
      refine va_get (D := G_) (ci := 5) (v := .int (iI ((nn_ : Nat) : Int))) (C := RX5) (T := TX5) (N := 19) hx_ hb_ hts hi5_ hown hK_ hP_ 0 rfl rfl 3 (by decide) hf57_ (fun _ h9 => h9) rfl dX5_inPlaceSize_22 ?_
      refine q_icmp_ge (tgt := 62) hx_ hb_ dX5_inPlaceSize_25 (by decide) (⟨by omega, by omega⟩) (⟨by omega, by omega⟩) (fun c25_ => ?_) (fun c25_ => ?_)
      · skip
        refine lv_iload_n hx_ hb_ dX5_inPlaceSize_62 rfl (lv_at hl_ 1 rfl) ?_
        rw [← hQe]
        exact W.iret hx_ hb_ hr (fun tt1 htt1 hWW1 => ⟨_, rfl, congrArg iI (by unfold A_cc; rw [if_pos hb0, ← hcp, hq_, show i_ = nn_ from by omega]), htt1⟩) (fun q_ h_ => absurd h_ List.not_mem_nil) dX5_inPlaceSize_63
      · skip
        refine lv_iload_n hx_ hb_ dX5_inPlaceSize_28 rfl (lv_at hl_ 1 rfl) ?_
        refine lv_aload_n hx_ hb_ dX5_inPlaceSize_29 rfl (lv_at hl_ 0 rfl) ?_
        refine lv_iload_n hx_ hb_ dX5_inPlaceSize_30 rfl (lv_at hl_ 2 rfl) ?_
        refine ro_V (As := [.int (iI ((i_ : Nat) : Int))]) (rest := [.int (iI ((q_ : Nat) : Int))]) ⟨hx_, hb_, hml, hown, hts⟩ (c_X5_isCopied l_ G_ cI cZ am_ bu_ no_ vo_ fo_ nn_ vn_ fn_ k_ osr nsr lnr ba_ tk_ rt_ cp_ cd_ so_ me_ bf_ os_ ns_ ln_ i_ hno hnn hvo hvn hmd (by omega)) (cwV 1 hts gX5_inPlaceSize_X5_isCopied rfl rfl rfl (by decide +kernel) ⟨Nat.le_of_ble_eq_true rfl, Nat.le_of_ble_eq_true rfl⟩) (hP_.sub (ws' := [(am_ 0, .inr (5, [.int (iI ((no_ : Nat) : Int)), .ref (am_ 1), .ref (am_ 2), .int (iI ((nn_ : Nat) : Int)), .ref (am_ 3), .ref (am_ 4), .int (iI (bZ bu_)), .int (iI ((k_ : Nat) : Int)), .ref (am_ 5), .ref (am_ 6), .ref (am_ 7), .ref (am_ 8), .ref (am_ 9), .ref (am_ 10), .int (iI ((cp_ : Nat) : Int)), .ref (am_ 11), .ref (am_ 12), .ref (am_ 13), .ref (am_ 14)])), (am_ 1, .inl (cI, 48, .inl (aI vo_))), (am_ 2, .inl (cZ, 48, .inl (aB fo_))), (am_ 3, .inl (cI, 48, .inl (aI vn_))), (am_ 4, .inl (cZ, 48, .inl (aB fn_))), (am_ 5, .inl (cI, 48, .inl (aN osr))), (am_ 6, .inl (cI, 48, .inl (aN nsr))), (am_ 7, .inl (cI, 48, .inl (aN lnr))), (am_ 8, .inl (cI, 48, .inl (aI ba_))), (am_ 9, .inl (cZ, 48, .inl (aB tk_))), (am_ 10, .inl (cI, 2401, .inl (aN rt_))), (am_ 11, .inl (cI, 48, .inl (aN cd_))), (am_ 12, .inl (cI, 48, .inl (aN so_))), (am_ 13, .inl (cI, 48, .inl (aI me_))), (am_ 14, .inl (cI, 48, .inl (aI bf_)))]) [0, 1, 2, 3, 4, 5, 6, 7, 8, 9, 10, 11, 12, 13, 14] rfl) hK_ 0 rfl rfl rfl hl_.1 rfl (Nat.le_of_ble_eq_true rfl) dX5_inPlaceSize_31 ⟨Nat.zero_le _, Nat.zero_le _⟩ ?_
        refine q_bt (tgt := 41) hx_ hb_ dX5_inPlaceSize_34 (by decide) (fun c34_ => ?_) (fun c34_ => ?_)
        · skip
          refine lv_aload_n hx_ hb_ dX5_inPlaceSize_41 rfl (lv_at hl_ 0 rfl) ?_
          refine lv_iload_n hx_ hb_ dX5_inPlaceSize_42 rfl (lv_at hl_ 2 rfl) ?_
          refine ro_V (As := [.int (iI ((i_ : Nat) : Int))]) (rest := [.int (iI ((q_ : Nat) : Int))]) ⟨hx_, hb_, hml, hown, hts⟩ (c_X5_isCorrected l_ G_ cI cZ am_ bu_ no_ vo_ fo_ nn_ vn_ fn_ k_ osr nsr lnr ba_ tk_ rt_ cp_ cd_ so_ me_ bf_ os_ ns_ ln_ i_ hno hnn hvo hvn hmd (by omega)) (cwV 1 hts gX5_inPlaceSize_X5_isCorrected rfl rfl rfl (by decide +kernel) ⟨Nat.le_of_ble_eq_true rfl, Nat.le_of_ble_eq_true rfl⟩) (hP_.sub (ws' := [(am_ 0, .inr (5, [.int (iI ((no_ : Nat) : Int)), .ref (am_ 1), .ref (am_ 2), .int (iI ((nn_ : Nat) : Int)), .ref (am_ 3), .ref (am_ 4), .int (iI (bZ bu_)), .int (iI ((k_ : Nat) : Int)), .ref (am_ 5), .ref (am_ 6), .ref (am_ 7), .ref (am_ 8), .ref (am_ 9), .ref (am_ 10), .int (iI ((cp_ : Nat) : Int)), .ref (am_ 11), .ref (am_ 12), .ref (am_ 13), .ref (am_ 14)])), (am_ 1, .inl (cI, 48, .inl (aI vo_))), (am_ 2, .inl (cZ, 48, .inl (aB fo_))), (am_ 3, .inl (cI, 48, .inl (aI vn_))), (am_ 4, .inl (cZ, 48, .inl (aB fn_))), (am_ 5, .inl (cI, 48, .inl (aN osr))), (am_ 6, .inl (cI, 48, .inl (aN nsr))), (am_ 7, .inl (cI, 48, .inl (aN lnr))), (am_ 8, .inl (cI, 48, .inl (aI ba_))), (am_ 9, .inl (cZ, 48, .inl (aB tk_))), (am_ 10, .inl (cI, 2401, .inl (aN rt_))), (am_ 11, .inl (cI, 48, .inl (aN cd_))), (am_ 12, .inl (cI, 48, .inl (aN so_))), (am_ 13, .inl (cI, 48, .inl (aI me_))), (am_ 14, .inl (cI, 48, .inl (aI bf_)))]) [0, 1, 2, 3, 4, 5, 6, 7, 8, 9, 10, 11, 12, 13, 14] rfl) hK_ 0 rfl rfl rfl hl_.1 rfl (Nat.le_of_ble_eq_true rfl) dX5_inPlaceSize_43 ⟨Nat.zero_le _, Nat.zero_le _⟩ ?_
          refine q_bf (tgt := 53) hx_ hb_ dX5_inPlaceSize_46 (by decide) (fun c46_ => ?_) (fun c46_ => ?_)
          · skip
            refine lv_iconst (v := iI ((0 : Nat) : Int)) hx_ hb_ dX5_inPlaceSize_53 rfl ?_
            refine q_iaddN hx_ hb_ dX5_inPlaceSize_54 ?_
            refine lv_istore_n (lv' := [(1, .int (iI ((q_ + 0 : Nat) : Int))), (0, .ref (am_ 0)), (2, .int (iI ((i_ : Nat) : Int)))]) hx_ hb_ dX5_inPlaceSize_55 rfl hl_ (by decide) rfl (fun ls_ hl_ => ?_)
            refine q_iinc (k := 2) ((i_ + 1 : Nat) : Int) hx_ hb_ dX5_inPlaceSize_56 hl_ rfl (rfl) (by decide) (lv' := [(2, .int (iI ((i_ + 1 : Nat) : Int))), (1, .int (iI ((q_ + 0 : Nat) : Int))), (0, .ref (am_ 0))]) rfl (fun ls_ hl_ => ?_)
            refine lv_goto (tgt := 20) hx_ hb_ dX5_inPlaceSize_59 (by decide) ?_
            exact ih20 (i_ + 1) (q_ + 0) ls_ (hb0) (by omega) (by omega) (by have ee : (ipc vo_ fo_ vn_ k_ os_ ns_ ln_) i_ = 0 := (by unfold ipc; rw [if_pos c34_, if_neg (by rw [c46_]; decide)]); show q_ + 0 = 3 * cp_ + (smN (ipc vo_ fo_ vn_ k_ os_ ns_ ln_) i_ + (ipc vo_ fo_ vn_ k_ os_ ns_ ln_) i_); omega) (lv_sub hl_ [2, 1, 0] rfl)
          · skip
            refine lv_iconst (v := iI ((2 : Nat) : Int)) hx_ hb_ dX5_inPlaceSize_49 rfl ?_
            refine lv_goto (tgt := 54) hx_ hb_ dX5_inPlaceSize_50 (by decide) ?_
            refine q_iaddN hx_ hb_ dX5_inPlaceSize_54 ?_
            refine lv_istore_n (lv' := [(1, .int (iI ((q_ + 2 : Nat) : Int))), (0, .ref (am_ 0)), (2, .int (iI ((i_ : Nat) : Int)))]) hx_ hb_ dX5_inPlaceSize_55 rfl hl_ (by decide) rfl (fun ls_ hl_ => ?_)
            refine q_iinc (k := 2) ((i_ + 1 : Nat) : Int) hx_ hb_ dX5_inPlaceSize_56 hl_ rfl (rfl) (by decide) (lv' := [(2, .int (iI ((i_ + 1 : Nat) : Int))), (1, .int (iI ((q_ + 2 : Nat) : Int))), (0, .ref (am_ 0))]) rfl (fun ls_ hl_ => ?_)
            refine lv_goto (tgt := 20) hx_ hb_ dX5_inPlaceSize_59 (by decide) ?_
            exact ih20 (i_ + 1) (q_ + 2) ls_ (hb0) (by omega) (by omega) (by have ee : (ipc vo_ fo_ vn_ k_ os_ ns_ ln_) i_ = 2 := (by unfold ipc; rw [if_pos c34_, if_pos c46_]); show q_ + 2 = 3 * cp_ + (smN (ipc vo_ fo_ vn_ k_ os_ ns_ ln_) i_ + (ipc vo_ fo_ vn_ k_ os_ ns_ ln_) i_); omega) (lv_sub hl_ [2, 1, 0] rfl)
        · skip
          refine lv_iconst (v := iI ((1 : Nat) : Int)) hx_ hb_ dX5_inPlaceSize_37 rfl ?_
          refine lv_goto (tgt := 54) hx_ hb_ dX5_inPlaceSize_38 (by decide) ?_
          refine q_iaddN hx_ hb_ dX5_inPlaceSize_54 ?_
          refine lv_istore_n (lv' := [(1, .int (iI ((q_ + 1 : Nat) : Int))), (0, .ref (am_ 0)), (2, .int (iI ((i_ : Nat) : Int)))]) hx_ hb_ dX5_inPlaceSize_55 rfl hl_ (by decide) rfl (fun ls_ hl_ => ?_)
          refine q_iinc (k := 2) ((i_ + 1 : Nat) : Int) hx_ hb_ dX5_inPlaceSize_56 hl_ rfl (rfl) (by decide) (lv' := [(2, .int (iI ((i_ + 1 : Nat) : Int))), (1, .int (iI ((q_ + 1 : Nat) : Int))), (0, .ref (am_ 0))]) rfl (fun ls_ hl_ => ?_)
          refine lv_goto (tgt := 20) hx_ hb_ dX5_inPlaceSize_59 (by decide) ?_
          exact ih20 (i_ + 1) (q_ + 1) ls_ (hb0) (by omega) (by omega) (by have ee : (ipc vo_ fo_ vn_ k_ os_ ns_ ln_) i_ = 1 := (by unfold ipc; rw [if_neg (by rw [c34_]; decide)]); show q_ + 1 = 3 * cp_ + (smN (ipc vo_ fo_ vn_ k_ os_ ns_ ln_) i_ + (ipc vo_ fo_ vn_ k_ os_ ns_ ln_) i_); omega) (lv_sub hl_ [2, 1, 0] rfl)
  rw [show entryFrame m_ args 3 = entryFrame m_ ([.ref (am_ 0)] : List Value).toArray 3 from by rw [hargs], lg_entry_eq]
  have hl_ := lv_entry ([.ref (am_ 0)]) (n := 3) (Nat.le_of_ble_eq_true rfl)
  generalize (lg_sl ([.ref (am_ 0)]) ++ List.replicate (3 - (lg_sl ([.ref (am_ 0)])).length) Slot.unset).toArray = ls_ at hl_ ⊢
  have hl_ : lv_has ls_ 3 [(0, .ref (am_ 0))] := hl_
  refine lv_aload_n hx_ hb_ dX5_inPlaceSize_0 rfl (lv_at hl_ 0 rfl) ?_
  refine va_get (D := G_) (ci := 5) (v := .int (iI (bZ bu_))) (C := RX5) (T := TX5) (N := 19) hx_ hb_ hts hi5_ hown hK_ hP_ 0 rfl rfl 6 (by decide) hf53_ (fun _ h9 => h9) rfl dX5_inPlaceSize_1 ?_
  refine q_bt (tgt := 11) hx_ hb_ dX5_inPlaceSize_4 (by decide) (fun c4_ => ?_) (fun c4_ => ?_)
  · skip
    refine lv_iconst (v := iI ((3 : Nat) : Int)) hx_ hb_ dX5_inPlaceSize_11 rfl ?_
    refine lv_aload_n hx_ hb_ dX5_inPlaceSize_12 rfl (lv_at hl_ 0 rfl) ?_
    refine va_get (D := G_) (ci := 5) (v := .int (iI ((cp_ : Nat) : Int))) (C := RX5) (T := TX5) (N := 19) hx_ hb_ hts hi5_ hown hK_ hP_ 0 rfl rfl 14 (by decide) hf125_ (fun _ h9 => h9) rfl dX5_inPlaceSize_13 ?_
    refine q_imulN hx_ hb_ dX5_inPlaceSize_16 ?_
    refine lv_istore_n (lv' := [(1, .int (iI ((3 * cp_ : Nat) : Int))), (0, .ref (am_ 0))]) hx_ hb_ dX5_inPlaceSize_17 rfl hl_ (by decide) rfl (fun ls_ hl_ => ?_)
    refine lv_iconst (v := iI ((0 : Nat) : Int)) hx_ hb_ dX5_inPlaceSize_18 rfl ?_
    refine lv_istore_n (lv' := [(2, .int (iI ((0 : Nat) : Int))), (1, .int (iI ((3 * cp_ : Nat) : Int))), (0, .ref (am_ 0))]) hx_ hb_ dX5_inPlaceSize_19 rfl hl_ (by decide) rfl (fun ls_ hl_ => ?_)
    exact lp20 (nn_ + 1) 0 (3 * cp_) ls_ (c4_) (by omega) (by omega) (by show 3 * cp_ = 3 * cp_ + 0; omega) (lv_sub hl_ [2, 1, 0] rfl)
  · skip
    refine lv_sipush (v := iI (-10004)) hx_ hb_ dX5_inPlaceSize_7 rfl ?_
    rw [← hQe]
    exact W.iret hx_ hb_ hr (fun tt1 htt1 hWW1 => ⟨_, rfl, congrArg iI (if0 c4_), htt1⟩) (fun q_ h_ => absurd h_ List.not_mem_nil) dX5_inPlaceSize_10

theorem pl_step {f_ g_ : Nat → Int} {b_ : Nat → Int} {ns_ os_ i_ j_ : Nat} (h_ : f_ j_ = if ns_ ≤ j_ ∧ j_ < ns_ + i_ then g_ (os_ + (j_ - ns_)) else g_ j_) (hb_ : b_ i_ = g_ (os_ + i_)) : va_up f_ (ns_ + i_) (b_ i_) j_ = if ns_ ≤ j_ ∧ j_ < ns_ + (i_ + 1) then g_ (os_ + (j_ - ns_)) else g_ j_ := by
  by_cases e_ : j_ = ns_ + i_
  · rw [e_, up_eq, if_pos (by omega), hb_, show ns_ + i_ - ns_ = i_ from by omega]
  · rw [up_ne e_, h_]
    by_cases h0_ : ns_ ≤ j_ ∧ j_ < ns_ + i_
    · rw [if_pos h0_, if_pos (by omega)]
    · rw [if_neg h0_, if_neg (by omega)]
theorem pl_org {no_ nn_ k_ : Nat} {od_ os_ ns_ ln_ : Nat → Nat} {vo_ : Nat → Int} {q_ i_ : Nat} {f_ g_ : Nat → Int} (hg_ : Gd no_ nn_ k_ os_ ns_ ln_) (hno : no_ ≤ 48) (hbk : od_ q_ < k_) (hme : ∀ j_, j_ < 48 → g_ j_ = vAt no_ vo_ (org od_ os_ ns_ ln_ q_ ((j_ : Nat) : Int))) (hi_ : i_ = ln_ (od_ q_)) (hm_ : ∀ j_, j_ < 48 → f_ j_ = if ns_ (od_ q_) ≤ j_ ∧ j_ < ns_ (od_ q_) + i_ then g_ (os_ (od_ q_) + (j_ - ns_ (od_ q_))) else g_ j_) : ∀ j_, j_ < 48 → f_ j_ = vAt no_ vo_ (org od_ os_ ns_ ln_ (q_ + 1) ((j_ : Nat) : Int)) := by
  intro j_ hj_
  have hgb := hg_.1 (od_ q_) hbk
  rw [hm_ j_ hj_, hi_]
  show _ = vAt no_ vo_ (org od_ os_ ns_ ln_ q_ (if cv ns_ ln_ ((j_ : Nat) : Int) (od_ q_) = true then _ else _))
  by_cases h0_ : ns_ (od_ q_) ≤ j_ ∧ j_ < ns_ (od_ q_) + ln_ (od_ q_)
  · rw [if_pos h0_, if_pos (show cv ns_ ln_ ((j_ : Nat) : Int) (od_ q_) = true from decide_eq_true (by omega)), hme _ (by omega)]
    congr 2
    omega
  · rw [if_neg h0_, if_neg (fun h1_ => h0_ (by have := of_decide_eq_true h1_; omega)), hme j_ hj_]

set_option maxHeartbeats 4000000 in
set_option maxRecDepth 100000 in
/-- plays -/
theorem c_X5_plays (l_ : Launch) (G_ : va_G) (cI cZ : ClassId) (am_ : Nat → Nat) (bu_ : Bool) (no_ : Nat) (vo_ : Nat → Int) (fo_ : Nat → Bool) (nn_ : Nat) (vn_ : Nat → Int) (fn_ : Nat → Bool) (k_ : Nat) (osr nsr lnr : Nat → Nat) (ba_ : Nat → Int) (tk_ : Nat → Bool) (rt_ : Nat → Nat) (cp_ : Nat) (cd_ so_ : Nat → Nat) (me_ bf_ : Nat → Int) (os_ ns_ ln_ : Nat → Nat) (y_ : Nat) (hno : no_ ≤ 48) (hnn : nn_ ≤ 48) (hvo : ∀ j_, 0 ≤ vo_ j_ ∧ vo_ j_ ≤ 9999) (hvn : ∀ j_, 0 ≤ vn_ j_ ∧ vn_ j_ ≤ 9999) (hmd : MdI no_ nn_ k_ os_ ns_ ln_ osr nsr lnr ba_ cp_ cd_ so_) (hy_ : y_ ≤ cp_) (sz : Nat) : Wr (S := (Nat → Int) × (Nat → Int)) l_ yX5_plays wsX5_plays ({ frames := 0, cells := 0, slots := 0, locals := 0 }) G_ cI cZ [.ref (am_ 0), .int (iI ((y_ : Nat) : Int))] (wMd cI cZ am_ bu_ no_ vo_ fo_ nn_ vn_ fn_ k_ osr nsr lnr ba_ tk_ rt_ cp_ cd_ so_ me_ bf_) sz (fun u_ => ∀ j_, j_ < 48 → u_.1 j_ = vAt no_ vo_ (org (its k_ os_ ns_ ln_ k_).2.1 os_ ns_ ln_ y_ ((j_ : Nat) : Int))) (fun u_ => wMd cI cZ am_ bu_ no_ vo_ fo_ nn_ vn_ fn_ k_ osr nsr lnr ba_ tk_ rt_ cp_ cd_ so_ u_.1 u_.2) := by
  refine Met.ofW (cc := cX5_plays) (maxL := 5) (ret := (none)) (by decide) rfl ?_
  intro p_ e_ s_ m_ args below meth c_ s₁ B hml hv
  obtain ⟨hargs, hsz, hP_, hK_, hD0⟩ := hv
  have hx_ := B.exec
  have hb_ := B.bytes
  have hr := B.returns
  have hts := atoms_spec (ws := wsX5_plays) B.pre
  have hown : s_.vm.findClass RX5 = some m_.cls := findClass_of_methodNamed B.named
  have hlocks := B.notSynchronized
  have hi5_ : ∀ w_ ∈ wsX50, w_ ∈ wsX5_plays := by decide +kernel
  have hf7_ := hts (.fieldLink RX5 7 "RelocatingPatchModel" "oldValue" "[I") (by decide +kernel)
  have hf23_ := hts (.fieldLink RX5 23 "RelocatingPatchModel" "oldStart" "[I") (by decide +kernel)
  have hf26_ := hts (.fieldLink RX5 26 "RelocatingPatchModel" "newStart" "[I") (by decide +kernel)
  have hf29_ := hts (.fieldLink RX5 29 "RelocatingPatchModel" "length" "[I") (by decide +kernel)
  have hf41_ := hts (.fieldLink RX5 41 "RelocatingPatchModel" "copied" "[I") (by decide +kernel)
  have hf47_ := hts (.fieldLink RX5 47 "RelocatingPatchModel" "memory" "[I") (by decide +kernel)
  have hf50_ := hts (.fieldLink RX5 50 "RelocatingPatchModel" "buffer" "[I") (by decide +kernel)
  have hf65_ := hts (.fieldLink RX5 65 "RelocatingPatchModel" "olds" "I") (by decide +kernel)
  subst hsz
  have hD_ := hD0.self (sz := s_.heap.size)
  generalize hAe : va_A (wMd cI cZ am_ bu_ no_ vo_ fo_ nn_ vn_ fn_ k_ osr nsr lnr ba_ tk_ rt_ cp_ cd_ so_ me_ bf_) s_.heap.size = A_ at hD_ ⊢
  have hA_ : ∀ q_ : Nat, s_.heap.size ≤ q_ → A_ q_ := fun q_ h_ => by rw [← hAe]; exact Or.inr h_
  have hS_ : va_S A_ s_.heap s_.heap [] := va_S.rf
  have hP_ : va_P G_ vwCl [(am_ 0, .inr (5, [.int (iI ((no_ : Nat) : Int)), .ref (am_ 1), .ref (am_ 2), .int (iI ((nn_ : Nat) : Int)), .ref (am_ 3), .ref (am_ 4), .int (iI (bZ bu_)), .int (iI ((k_ : Nat) : Int)), .ref (am_ 5), .ref (am_ 6), .ref (am_ 7), .ref (am_ 8), .ref (am_ 9), .ref (am_ 10), .int (iI ((cp_ : Nat) : Int)), .ref (am_ 11), .ref (am_ 12), .ref (am_ 13), .ref (am_ 14)])), (am_ 1, .inl (cI, 48, .inl (aI vo_))), (am_ 2, .inl (cZ, 48, .inl (aB fo_))), (am_ 3, .inl (cI, 48, .inl (aI vn_))), (am_ 4, .inl (cZ, 48, .inl (aB fn_))), (am_ 5, .inl (cI, 48, .inl (aN osr))), (am_ 6, .inl (cI, 48, .inl (aN nsr))), (am_ 7, .inl (cI, 48, .inl (aN lnr))), (am_ 8, .inl (cI, 48, .inl (aI ba_))), (am_ 9, .inl (cZ, 48, .inl (aB tk_))), (am_ 10, .inl (cI, 2401, .inl (aN rt_))), (am_ 11, .inl (cI, 48, .inl (aN cd_))), (am_ 12, .inl (cI, 48, .inl (aN so_))), (am_ 13, .inl (cI, 48, .inl (aI me_))), (am_ 14, .inl (cI, 48, .inl (aI bf_)))] s_.heap := hP_
  have hD_ : va_D A_ [(am_ 0, .inr (5, [.int (iI ((no_ : Nat) : Int)), .ref (am_ 1), .ref (am_ 2), .int (iI ((nn_ : Nat) : Int)), .ref (am_ 3), .ref (am_ 4), .int (iI (bZ bu_)), .int (iI ((k_ : Nat) : Int)), .ref (am_ 5), .ref (am_ 6), .ref (am_ 7), .ref (am_ 8), .ref (am_ 9), .ref (am_ 10), .int (iI ((cp_ : Nat) : Int)), .ref (am_ 11), .ref (am_ 12), .ref (am_ 13), .ref (am_ 14)])), (am_ 1, .inl (cI, 48, .inl (aI vo_))), (am_ 2, .inl (cZ, 48, .inl (aB fo_))), (am_ 3, .inl (cI, 48, .inl (aI vn_))), (am_ 4, .inl (cZ, 48, .inl (aB fn_))), (am_ 5, .inl (cI, 48, .inl (aN osr))), (am_ 6, .inl (cI, 48, .inl (aN nsr))), (am_ 7, .inl (cI, 48, .inl (aN lnr))), (am_ 8, .inl (cI, 48, .inl (aI ba_))), (am_ 9, .inl (cZ, 48, .inl (aB tk_))), (am_ 10, .inl (cI, 2401, .inl (aN rt_))), (am_ 11, .inl (cI, 48, .inl (aN cd_))), (am_ 12, .inl (cI, 48, .inl (aN so_))), (am_ 13, .inl (cI, 48, .inl (aI me_))), (am_ 14, .inl (cI, 48, .inl (aI bf_)))] := hD_
  generalize hQe : MQ below (va_Qv (S := (Nat → Int) × (Nat → Int)) (fun u_ => ∀ j_, j_ < 48 → u_.1 j_ = vAt no_ vo_ (org (its k_ os_ ns_ ln_ k_).2.1 os_ ns_ ln_ y_ ((j_ : Nat) : Int))) (fun u1 t1 => va_P G_ vwCl ((fun u_ => wMd cI cZ am_ bu_ no_ vo_ fo_ nn_ vn_ fn_ k_ osr nsr lnr ba_ tk_ rt_ cp_ cd_ so_ u_.1 u_.2) u1) t1.heap) A_) args s_ 0 0 A_ = Q_
  have hmd0 := hmd
  obtain ⟨hk_, hB_, hgd, ha_, hba, hso, hcp, hcd⟩ := hmd0
  have hcl : cp_ ≤ 48 := by rw [hcp]; exact Nat.le_trans (its_ok k_ os_ ns_ ln_ k_).1 hk_
  have lp40 : ∀ (n_ : Nat) (q_ : Nat) (m1 : Nat → Int) (b1_ : Nat → Int) (H_ : Heap) (locs : List Loc) (ls_ : Array Slot), (q_ ≤ y_) → (y_ + 1 ≤ q_ + n_) → (∀ j_, j_ < 48 → m1 j_ = vAt no_ vo_ (org (its k_ os_ ns_ ln_ k_).2.1 os_ ns_ ln_ q_ ((j_ : Nat) : Int))) → va_P G_ vwCl [(am_ 0, .inr (5, [.int (iI ((no_ : Nat) : Int)), .ref (am_ 1), .ref (am_ 2), .int (iI ((nn_ : Nat) : Int)), .ref (am_ 3), .ref (am_ 4), .int (iI (bZ bu_)), .int (iI ((k_ : Nat) : Int)), .ref (am_ 5), .ref (am_ 6), .ref (am_ 7), .ref (am_ 8), .ref (am_ 9), .ref (am_ 10), .int (iI ((cp_ : Nat) : Int)), .ref (am_ 11), .ref (am_ 12), .ref (am_ 13), .ref (am_ 14)])), (am_ 1, .inl (cI, 48, .inl (aI vo_))), (am_ 2, .inl (cZ, 48, .inl (aB fo_))), (am_ 3, .inl (cI, 48, .inl (aI vn_))), (am_ 4, .inl (cZ, 48, .inl (aB fn_))), (am_ 5, .inl (cI, 48, .inl (aN osr))), (am_ 6, .inl (cI, 48, .inl (aN nsr))), (am_ 7, .inl (cI, 48, .inl (aN lnr))), (am_ 8, .inl (cI, 48, .inl (aI ba_))), (am_ 9, .inl (cZ, 48, .inl (aB tk_))), (am_ 10, .inl (cI, 2401, .inl (aN rt_))), (am_ 11, .inl (cI, 48, .inl (aN cd_))), (am_ 12, .inl (cI, 48, .inl (aN so_))), (am_ 13, .inl (cI, 48, .inl (aI m1))), (am_ 14, .inl (cI, 48, .inl (aI b1_)))] H_ → va_D A_ [(am_ 0, .inr (5, [.int (iI ((no_ : Nat) : Int)), .ref (am_ 1), .ref (am_ 2), .int (iI ((nn_ : Nat) : Int)), .ref (am_ 3), .ref (am_ 4), .int (iI (bZ bu_)), .int (iI ((k_ : Nat) : Int)), .ref (am_ 5), .ref (am_ 6), .ref (am_ 7), .ref (am_ 8), .ref (am_ 9), .ref (am_ 10), .int (iI ((cp_ : Nat) : Int)), .ref (am_ 11), .ref (am_ 12), .ref (am_ 13), .ref (am_ 14)])), (am_ 1, .inl (cI, 48, .inl (aI vo_))), (am_ 2, .inl (cZ, 48, .inl (aB fo_))), (am_ 3, .inl (cI, 48, .inl (aI vn_))), (am_ 4, .inl (cZ, 48, .inl (aB fn_))), (am_ 5, .inl (cI, 48, .inl (aN osr))), (am_ 6, .inl (cI, 48, .inl (aN nsr))), (am_ 7, .inl (cI, 48, .inl (aN lnr))), (am_ 8, .inl (cI, 48, .inl (aI ba_))), (am_ 9, .inl (cZ, 48, .inl (aB tk_))), (am_ 10, .inl (cI, 2401, .inl (aN rt_))), (am_ 11, .inl (cI, 48, .inl (aN cd_))), (am_ 12, .inl (cI, 48, .inl (aN so_))), (am_ 13, .inl (cI, 48, .inl (aI m1))), (am_ 14, .inl (cI, 48, .inl (aI b1_)))] → va_S A_ s_.heap H_ locs → lv_has ls_ 5 [(0, .ref (am_ 0)), (1, .int (iI ((y_ : Nat) : Int))), (2, .int (iI ((q_ : Nat) : Int)))] → W p_ l_ e_ (headSpec wsX5_plays ({ frames := 0, cells := 0, slots := 0, locals := 0 })).room s_ m_ args below meth c_ H_ locs 0 0 Q_ (F0 m_ 40 ls_ []) := by
    intro n_
    induction n_ with
    | zero =>
      intro q_ m1 b1_ H_ locs ls_ hq_ hn_ hme
      exact False.elim (by omega)
    | succ n_ ih40 =>
      intro q_ m1 b1_ H_ locs ls_ hq_ hn_ hme hP_ hD_ hS_ hl_
      have lp96 : ∀ (n_ : Nat) (i_ : Nat) (m2 : Nat → Int) (b2_ : Nat → Int) (H_ : Heap) (locs : List Loc) (ls_ : Array Slot), (q_ < y_) → (((its k_ os_ ns_ ln_ k_).2.1 q_) < k_) → (i_ ≤ ln_ ((its k_ os_ ns_ ln_ k_).2.1 q_)) → (ln_ ((its k_ os_ ns_ ln_ k_).2.1 q_) + 1 ≤ i_ + n_) → (∀ j_, j_ < ln_ ((its k_ os_ ns_ ln_ k_).2.1 q_) → b2_ j_ = m1 (os_ ((its k_ os_ ns_ ln_ k_).2.1 q_) + j_)) → (∀ j_, j_ < 48 → m2 j_ = if ns_ ((its k_ os_ ns_ ln_ k_).2.1 q_) ≤ j_ ∧ j_ < ns_ ((its k_ os_ ns_ ln_ k_).2.1 q_) + i_ then m1 (os_ ((its k_ os_ ns_ ln_ k_).2.1 q_) + (j_ - ns_ ((its k_ os_ ns_ ln_ k_).2.1 q_))) else m1 j_) → va_P G_ vwCl [(am_ 0, .inr (5, [.int (iI ((no_ : Nat) : Int)), .ref (am_ 1), .ref (am_ 2), .int (iI ((nn_ : Nat) : Int)), .ref (am_ 3), .ref (am_ 4), .int (iI (bZ bu_)), .int (iI ((k_ : Nat) : Int)), .ref (am_ 5), .ref (am_ 6), .ref (am_ 7), .ref (am_ 8), .ref (am_ 9), .ref (am_ 10), .int (iI ((cp_ : Nat) : Int)), .ref (am_ 11), .ref (am_ 12), .ref (am_ 13), .ref (am_ 14)])), (am_ 1, .inl (cI, 48, .inl (aI vo_))), (am_ 2, .inl (cZ, 48, .inl (aB fo_))), (am_ 3, .inl (cI, 48, .inl (aI vn_))), (am_ 4, .inl (cZ, 48, .inl (aB fn_))), (am_ 5, .inl (cI, 48, .inl (aN osr))), (am_ 6, .inl (cI, 48, .inl (aN nsr))), (am_ 7, .inl (cI, 48, .inl (aN lnr))), (am_ 8, .inl (cI, 48, .inl (aI ba_))), (am_ 9, .inl (cZ, 48, .inl (aB tk_))), (am_ 10, .inl (cI, 2401, .inl (aN rt_))), (am_ 11, .inl (cI, 48, .inl (aN cd_))), (am_ 12, .inl (cI, 48, .inl (aN so_))), (am_ 13, .inl (cI, 48, .inl (aI m2))), (am_ 14, .inl (cI, 48, .inl (aI b2_)))] H_ → va_D A_ [(am_ 0, .inr (5, [.int (iI ((no_ : Nat) : Int)), .ref (am_ 1), .ref (am_ 2), .int (iI ((nn_ : Nat) : Int)), .ref (am_ 3), .ref (am_ 4), .int (iI (bZ bu_)), .int (iI ((k_ : Nat) : Int)), .ref (am_ 5), .ref (am_ 6), .ref (am_ 7), .ref (am_ 8), .ref (am_ 9), .ref (am_ 10), .int (iI ((cp_ : Nat) : Int)), .ref (am_ 11), .ref (am_ 12), .ref (am_ 13), .ref (am_ 14)])), (am_ 1, .inl (cI, 48, .inl (aI vo_))), (am_ 2, .inl (cZ, 48, .inl (aB fo_))), (am_ 3, .inl (cI, 48, .inl (aI vn_))), (am_ 4, .inl (cZ, 48, .inl (aB fn_))), (am_ 5, .inl (cI, 48, .inl (aN osr))), (am_ 6, .inl (cI, 48, .inl (aN nsr))), (am_ 7, .inl (cI, 48, .inl (aN lnr))), (am_ 8, .inl (cI, 48, .inl (aI ba_))), (am_ 9, .inl (cZ, 48, .inl (aB tk_))), (am_ 10, .inl (cI, 2401, .inl (aN rt_))), (am_ 11, .inl (cI, 48, .inl (aN cd_))), (am_ 12, .inl (cI, 48, .inl (aN so_))), (am_ 13, .inl (cI, 48, .inl (aI m2))), (am_ 14, .inl (cI, 48, .inl (aI b2_)))] → va_S A_ s_.heap H_ locs → lv_has ls_ 5 [(0, .ref (am_ 0)), (1, .int (iI ((y_ : Nat) : Int))), (2, .int (iI ((q_ : Nat) : Int))), (3, .int (iI (((its k_ os_ ns_ ln_ k_).2.1 q_ : Nat) : Int))), (4, .int (iI ((i_ : Nat) : Int)))] → W p_ l_ e_ (headSpec wsX5_plays ({ frames := 0, cells := 0, slots := 0, locals := 0 })).room s_ m_ args below meth c_ H_ locs 0 0 Q_ (F0 m_ 96 ls_ []) := by
        intro n_
        induction n_ with
        | zero =>
          intro i_ m2 b2_ H_ locs ls_ hqy hbk hi_ hn_ hz hm_
          exact False.elim (by omega)
        | succ n_ ih96 =>
          intro i_ m2 b2_ H_ locs ls_ hqy hbk hi_ hn_ hz hm_ hP_ hD_ hS_ hl_
          have fg := hgd.1 ((its k_ os_ ns_ ln_ k_).2.1 q_) hbk
          refine lv_iload hx_ hb_ dX5_plays_96 (lv_at hl_ 4 rfl) ?_
          refine lv_aload_n hx_ hb_ dX5_plays_98 rfl (lv_at hl_ 0 rfl) ?_
          refine va_get (D := G_) (ci := 5) (v := .ref (am_ 7)) (C := RX5) (T := TX5) (N := 19) hx_ hb_ hts hi5_ hown hK_ hP_ 0 rfl rfl 10 (by decide) hf29_ (fun _ h9 => h9) rfl dX5_plays_99 ?_
          refine lv_iload_n hx_ hb_ dX5_plays_102 rfl (lv_at hl_ 3 rfl) ?_
          refine q_ildN hx_ hb_ hK_ hP_ 7 rfl (by decide) ((its k_ os_ ns_ ln_ k_).2.1 q_) (by omega) (ln_ ((its k_ os_ ns_ ln_ k_).2.1 q_)) ((ha_ ((its k_ os_ ns_ ln_ k_).2.1 q_) hbk).2.2) dX5_plays_103 ?_
          refine q_icmp_ge (tgt := 134) hx_ hb_ dX5_plays_104 (by decide) (⟨by omega, by omega⟩) (⟨by omega, by omega⟩) (fun c104_ => ?_) (fun c104_ => ?_)
          · skip
            refine q_iinc (k := 2) ((q_ + 1 : Nat) : Int) hx_ hb_ dX5_plays_134 hl_ rfl (rfl) (by decide) (lv' := [(2, .int (iI ((q_ + 1 : Nat) : Int))), (0, .ref (am_ 0)), (1, .int (iI ((y_ : Nat) : Int))), (3, .int (iI (((its k_ os_ ns_ ln_ k_).2.1 q_ : Nat) : Int))), (4, .int (iI ((i_ : Nat) : Int)))]) rfl (fun ls_ hl_ => ?_)
            refine lv_goto (tgt := 40) hx_ hb_ dX5_plays_137 (by decide) ?_
            exact ih40 (q_ + 1) m2 b2_ _ _ ls_ (by omega) (by omega) (fun j_ hj_ => pl_org (od_ := (its k_ os_ ns_ ln_ k_).2.1) hgd hno hbk hme (show i_ = ln_ ((its k_ os_ ns_ ln_ k_).2.1 q_) by omega) hm_ j_ hj_) hP_ hD_ hS_ (lv_sub hl_ [1, 2, 0] rfl)
          · skip
            refine lv_aload_n hx_ hb_ dX5_plays_107 rfl (lv_at hl_ 0 rfl) ?_
            refine va_get (D := G_) (ci := 5) (v := .ref (am_ 13)) (C := RX5) (T := TX5) (N := 19) hx_ hb_ hts hi5_ hown hK_ hP_ 0 rfl rfl 17 (by decide) hf47_ (fun _ h9 => h9) rfl dX5_plays_108 ?_
            refine lv_aload_n hx_ hb_ dX5_plays_111 rfl (lv_at hl_ 0 rfl) ?_
            refine va_get (D := G_) (ci := 5) (v := .ref (am_ 6)) (C := RX5) (T := TX5) (N := 19) hx_ hb_ hts hi5_ hown hK_ hP_ 0 rfl rfl 9 (by decide) hf26_ (fun _ h9 => h9) rfl dX5_plays_112 ?_
            refine lv_iload_n hx_ hb_ dX5_plays_115 rfl (lv_at hl_ 3 rfl) ?_
            refine q_ildN hx_ hb_ hK_ hP_ 6 rfl (by decide) ((its k_ os_ ns_ ln_ k_).2.1 q_) (by omega) (ns_ ((its k_ os_ ns_ ln_ k_).2.1 q_)) ((ha_ ((its k_ os_ ns_ ln_ k_).2.1 q_) hbk).2.1) dX5_plays_116 ?_
            refine lv_iload hx_ hb_ dX5_plays_117 (lv_at hl_ 4 rfl) ?_
            refine q_iaddN hx_ hb_ dX5_plays_119 ?_
            refine lv_aload_n hx_ hb_ dX5_plays_120 rfl (lv_at hl_ 0 rfl) ?_
            refine va_get (D := G_) (ci := 5) (v := .ref (am_ 14)) (C := RX5) (T := TX5) (N := 19) hx_ hb_ hts hi5_ hown hK_ hP_ 0 rfl rfl 18 (by decide) hf50_ (fun _ h9 => h9) rfl dX5_plays_121 ?_
            refine lv_iload hx_ hb_ dX5_plays_124 (lv_at hl_ 4 rfl) ?_
            refine q_ildI hx_ hb_ hK_ hP_ 14 rfl (by decide) (i_) (by omega) (b2_ i_) (rfl) dX5_plays_126 ?_
            refine q_istI hx_ hb_ hK_ hP_ hD_ hS_ 13 rfl (by decide) ((ns_ ((its k_ os_ ns_ ln_ k_).2.1 q_)) + i_) (by omega) (b2_ i_) dX5_plays_127 (ws' := [(am_ 0, .inr (5, [.int (iI ((no_ : Nat) : Int)), .ref (am_ 1), .ref (am_ 2), .int (iI ((nn_ : Nat) : Int)), .ref (am_ 3), .ref (am_ 4), .int (iI (bZ bu_)), .int (iI ((k_ : Nat) : Int)), .ref (am_ 5), .ref (am_ 6), .ref (am_ 7), .ref (am_ 8), .ref (am_ 9), .ref (am_ 10), .int (iI ((cp_ : Nat) : Int)), .ref (am_ 11), .ref (am_ 12), .ref (am_ 13), .ref (am_ 14)])), (am_ 1, .inl (cI, 48, .inl (aI vo_))), (am_ 2, .inl (cZ, 48, .inl (aB fo_))), (am_ 3, .inl (cI, 48, .inl (aI vn_))), (am_ 4, .inl (cZ, 48, .inl (aB fn_))), (am_ 5, .inl (cI, 48, .inl (aN osr))), (am_ 6, .inl (cI, 48, .inl (aN nsr))), (am_ 7, .inl (cI, 48, .inl (aN lnr))), (am_ 8, .inl (cI, 48, .inl (aI ba_))), (am_ 9, .inl (cZ, 48, .inl (aB tk_))), (am_ 10, .inl (cI, 2401, .inl (aN rt_))), (am_ 11, .inl (cI, 48, .inl (aN cd_))), (am_ 12, .inl (cI, 48, .inl (aN so_))), (am_ 13, .inl (cI, 48, .inl (aI (va_up m2 ((ns_ ((its k_ os_ ns_ ln_ k_).2.1 q_)) + i_) (b2_ i_))))), (am_ 14, .inl (cI, 48, .inl (aI b2_)))]) rfl (fun H_ locs hP_ hD_ hS_ => ?_)
            refine q_iinc (k := 4) ((i_ + 1 : Nat) : Int) hx_ hb_ dX5_plays_128 hl_ rfl (rfl) (by decide) (lv' := [(4, .int (iI ((i_ + 1 : Nat) : Int))), (0, .ref (am_ 0)), (1, .int (iI ((y_ : Nat) : Int))), (2, .int (iI ((q_ : Nat) : Int))), (3, .int (iI (((its k_ os_ ns_ ln_ k_).2.1 q_ : Nat) : Int)))]) rfl (fun ls_ hl_ => ?_)
            refine lv_goto (tgt := 96) hx_ hb_ dX5_plays_131 (by decide) ?_
            exact ih96 (i_ + 1) (va_up m2 ((ns_ ((its k_ os_ ns_ ln_ k_).2.1 q_)) + i_) (b2_ i_)) b2_ _ _ ls_ (hqy) (hbk) (by omega) (by omega) (hz) (fun j_ hj_ => pl_step (hm_ j_ hj_) (hz i_ (by omega))) hP_ hD_ hS_ (lv_sub hl_ [1, 2, 3, 4, 0] rfl)
      have lp55 : ∀ (n_ : Nat) (i_ : Nat) (b2_ : Nat → Int) (H_ : Heap) (locs : List Loc) (ls_ : Array Slot), (q_ < y_) → (((its k_ os_ ns_ ln_ k_).2.1 q_) < k_) → (i_ ≤ ln_ ((its k_ os_ ns_ ln_ k_).2.1 q_)) → (ln_ ((its k_ os_ ns_ ln_ k_).2.1 q_) + 1 ≤ i_ + n_) → (∀ j_, j_ < i_ → b2_ j_ = m1 (os_ ((its k_ os_ ns_ ln_ k_).2.1 q_) + j_)) → va_P G_ vwCl [(am_ 0, .inr (5, [.int (iI ((no_ : Nat) : Int)), .ref (am_ 1), .ref (am_ 2), .int (iI ((nn_ : Nat) : Int)), .ref (am_ 3), .ref (am_ 4), .int (iI (bZ bu_)), .int (iI ((k_ : Nat) : Int)), .ref (am_ 5), .ref (am_ 6), .ref (am_ 7), .ref (am_ 8), .ref (am_ 9), .ref (am_ 10), .int (iI ((cp_ : Nat) : Int)), .ref (am_ 11), .ref (am_ 12), .ref (am_ 13), .ref (am_ 14)])), (am_ 1, .inl (cI, 48, .inl (aI vo_))), (am_ 2, .inl (cZ, 48, .inl (aB fo_))), (am_ 3, .inl (cI, 48, .inl (aI vn_))), (am_ 4, .inl (cZ, 48, .inl (aB fn_))), (am_ 5, .inl (cI, 48, .inl (aN osr))), (am_ 6, .inl (cI, 48, .inl (aN nsr))), (am_ 7, .inl (cI, 48, .inl (aN lnr))), (am_ 8, .inl (cI, 48, .inl (aI ba_))), (am_ 9, .inl (cZ, 48, .inl (aB tk_))), (am_ 10, .inl (cI, 2401, .inl (aN rt_))), (am_ 11, .inl (cI, 48, .inl (aN cd_))), (am_ 12, .inl (cI, 48, .inl (aN so_))), (am_ 13, .inl (cI, 48, .inl (aI m1))), (am_ 14, .inl (cI, 48, .inl (aI b2_)))] H_ → va_D A_ [(am_ 0, .inr (5, [.int (iI ((no_ : Nat) : Int)), .ref (am_ 1), .ref (am_ 2), .int (iI ((nn_ : Nat) : Int)), .ref (am_ 3), .ref (am_ 4), .int (iI (bZ bu_)), .int (iI ((k_ : Nat) : Int)), .ref (am_ 5), .ref (am_ 6), .ref (am_ 7), .ref (am_ 8), .ref (am_ 9), .ref (am_ 10), .int (iI ((cp_ : Nat) : Int)), .ref (am_ 11), .ref (am_ 12), .ref (am_ 13), .ref (am_ 14)])), (am_ 1, .inl (cI, 48, .inl (aI vo_))), (am_ 2, .inl (cZ, 48, .inl (aB fo_))), (am_ 3, .inl (cI, 48, .inl (aI vn_))), (am_ 4, .inl (cZ, 48, .inl (aB fn_))), (am_ 5, .inl (cI, 48, .inl (aN osr))), (am_ 6, .inl (cI, 48, .inl (aN nsr))), (am_ 7, .inl (cI, 48, .inl (aN lnr))), (am_ 8, .inl (cI, 48, .inl (aI ba_))), (am_ 9, .inl (cZ, 48, .inl (aB tk_))), (am_ 10, .inl (cI, 2401, .inl (aN rt_))), (am_ 11, .inl (cI, 48, .inl (aN cd_))), (am_ 12, .inl (cI, 48, .inl (aN so_))), (am_ 13, .inl (cI, 48, .inl (aI m1))), (am_ 14, .inl (cI, 48, .inl (aI b2_)))] → va_S A_ s_.heap H_ locs → lv_has ls_ 5 [(0, .ref (am_ 0)), (1, .int (iI ((y_ : Nat) : Int))), (2, .int (iI ((q_ : Nat) : Int))), (3, .int (iI (((its k_ os_ ns_ ln_ k_).2.1 q_ : Nat) : Int))), (4, .int (iI ((i_ : Nat) : Int)))] → W p_ l_ e_ (headSpec wsX5_plays ({ frames := 0, cells := 0, slots := 0, locals := 0 })).room s_ m_ args below meth c_ H_ locs 0 0 Q_ (F0 m_ 55 ls_ []) := by
        intro n_
        induction n_ with
        | zero =>
          intro i_ b2_ H_ locs ls_ hqy hbk hi_ hn_ hz
          exact False.elim (by omega)
        | succ n_ ih55 =>
          intro i_ b2_ H_ locs ls_ hqy hbk hi_ hn_ hz hP_ hD_ hS_ hl_
          have fg := hgd.1 ((its k_ os_ ns_ ln_ k_).2.1 q_) hbk
          refine lv_iload hx_ hb_ dX5_plays_55 (lv_at hl_ 4 rfl) ?_
          refine lv_aload_n hx_ hb_ dX5_plays_57 rfl (lv_at hl_ 0 rfl) ?_
          refine va_get (D := G_) (ci := 5) (v := .ref (am_ 7)) (C := RX5) (T := TX5) (N := 19) hx_ hb_ hts hi5_ hown hK_ hP_ 0 rfl rfl 10 (by decide) hf29_ (fun _ h9 => h9) rfl dX5_plays_58 ?_
          refine lv_iload_n hx_ hb_ dX5_plays_61 rfl (lv_at hl_ 3 rfl) ?_
          refine q_ildN hx_ hb_ hK_ hP_ 7 rfl (by decide) ((its k_ os_ ns_ ln_ k_).2.1 q_) (by omega) (ln_ ((its k_ os_ ns_ ln_ k_).2.1 q_)) ((ha_ ((its k_ os_ ns_ ln_ k_).2.1 q_) hbk).2.2) dX5_plays_62 ?_
          refine q_icmp_ge (tgt := 93) hx_ hb_ dX5_plays_63 (by decide) (⟨by omega, by omega⟩) (⟨by omega, by omega⟩) (fun c63_ => ?_) (fun c63_ => ?_)
          · skip
            refine lv_iconst (v := iI ((0 : Nat) : Int)) hx_ hb_ dX5_plays_93 rfl ?_
            refine lv_istore (lv' := [(4, .int (iI ((0 : Nat) : Int))), (0, .ref (am_ 0)), (1, .int (iI ((y_ : Nat) : Int))), (2, .int (iI ((q_ : Nat) : Int))), (3, .int (iI (((its k_ os_ ns_ ln_ k_).2.1 q_ : Nat) : Int)))]) hx_ hb_ dX5_plays_94 hl_ (by decide) rfl (fun ls_ hl_ => ?_)
            exact lp96 (ln_ ((its k_ os_ ns_ ln_ k_).2.1 q_) + 1) 0 m1 b2_ _ _ ls_ (hqy) (hbk) (by omega) (by omega) (fun j_ hj_ => hz j_ (by omega)) (fun j_ hj_ => by rw [if_neg (by omega)]) hP_ hD_ hS_ (lv_sub hl_ [1, 2, 3, 4, 0] rfl)
          · skip
            refine lv_aload_n hx_ hb_ dX5_plays_66 rfl (lv_at hl_ 0 rfl) ?_
            refine va_get (D := G_) (ci := 5) (v := .ref (am_ 14)) (C := RX5) (T := TX5) (N := 19) hx_ hb_ hts hi5_ hown hK_ hP_ 0 rfl rfl 18 (by decide) hf50_ (fun _ h9 => h9) rfl dX5_plays_67 ?_
            refine lv_iload hx_ hb_ dX5_plays_70 (lv_at hl_ 4 rfl) ?_
            refine lv_aload_n hx_ hb_ dX5_plays_72 rfl (lv_at hl_ 0 rfl) ?_
            refine va_get (D := G_) (ci := 5) (v := .ref (am_ 13)) (C := RX5) (T := TX5) (N := 19) hx_ hb_ hts hi5_ hown hK_ hP_ 0 rfl rfl 17 (by decide) hf47_ (fun _ h9 => h9) rfl dX5_plays_73 ?_
            refine lv_aload_n hx_ hb_ dX5_plays_76 rfl (lv_at hl_ 0 rfl) ?_
            refine va_get (D := G_) (ci := 5) (v := .ref (am_ 5)) (C := RX5) (T := TX5) (N := 19) hx_ hb_ hts hi5_ hown hK_ hP_ 0 rfl rfl 8 (by decide) hf23_ (fun _ h9 => h9) rfl dX5_plays_77 ?_
            refine lv_iload_n hx_ hb_ dX5_plays_80 rfl (lv_at hl_ 3 rfl) ?_
            refine q_ildN hx_ hb_ hK_ hP_ 5 rfl (by decide) ((its k_ os_ ns_ ln_ k_).2.1 q_) (by omega) (os_ ((its k_ os_ ns_ ln_ k_).2.1 q_)) ((ha_ ((its k_ os_ ns_ ln_ k_).2.1 q_) hbk).1) dX5_plays_81 ?_
            refine lv_iload hx_ hb_ dX5_plays_82 (lv_at hl_ 4 rfl) ?_
            refine q_iaddN hx_ hb_ dX5_plays_84 ?_
            refine q_ildI hx_ hb_ hK_ hP_ 13 rfl (by decide) ((os_ ((its k_ os_ ns_ ln_ k_).2.1 q_)) + i_) (by omega) (m1 ((os_ ((its k_ os_ ns_ ln_ k_).2.1 q_)) + i_)) (rfl) dX5_plays_85 ?_
            refine q_istI hx_ hb_ hK_ hP_ hD_ hS_ 14 rfl (by decide) (i_) (by omega) (m1 ((os_ ((its k_ os_ ns_ ln_ k_).2.1 q_)) + i_)) dX5_plays_86 (ws' := [(am_ 0, .inr (5, [.int (iI ((no_ : Nat) : Int)), .ref (am_ 1), .ref (am_ 2), .int (iI ((nn_ : Nat) : Int)), .ref (am_ 3), .ref (am_ 4), .int (iI (bZ bu_)), .int (iI ((k_ : Nat) : Int)), .ref (am_ 5), .ref (am_ 6), .ref (am_ 7), .ref (am_ 8), .ref (am_ 9), .ref (am_ 10), .int (iI ((cp_ : Nat) : Int)), .ref (am_ 11), .ref (am_ 12), .ref (am_ 13), .ref (am_ 14)])), (am_ 1, .inl (cI, 48, .inl (aI vo_))), (am_ 2, .inl (cZ, 48, .inl (aB fo_))), (am_ 3, .inl (cI, 48, .inl (aI vn_))), (am_ 4, .inl (cZ, 48, .inl (aB fn_))), (am_ 5, .inl (cI, 48, .inl (aN osr))), (am_ 6, .inl (cI, 48, .inl (aN nsr))), (am_ 7, .inl (cI, 48, .inl (aN lnr))), (am_ 8, .inl (cI, 48, .inl (aI ba_))), (am_ 9, .inl (cZ, 48, .inl (aB tk_))), (am_ 10, .inl (cI, 2401, .inl (aN rt_))), (am_ 11, .inl (cI, 48, .inl (aN cd_))), (am_ 12, .inl (cI, 48, .inl (aN so_))), (am_ 13, .inl (cI, 48, .inl (aI m1))), (am_ 14, .inl (cI, 48, .inl (aI (va_up b2_ i_ (m1 ((os_ ((its k_ os_ ns_ ln_ k_).2.1 q_)) + i_))))))]) rfl (fun H_ locs hP_ hD_ hS_ => ?_)
            refine q_iinc (k := 4) ((i_ + 1 : Nat) : Int) hx_ hb_ dX5_plays_87 hl_ rfl (rfl) (by decide) (lv' := [(4, .int (iI ((i_ + 1 : Nat) : Int))), (0, .ref (am_ 0)), (1, .int (iI ((y_ : Nat) : Int))), (2, .int (iI ((q_ : Nat) : Int))), (3, .int (iI (((its k_ os_ ns_ ln_ k_).2.1 q_ : Nat) : Int)))]) rfl (fun ls_ hl_ => ?_)
            refine lv_goto (tgt := 55) hx_ hb_ dX5_plays_90 (by decide) ?_
            exact ih55 (i_ + 1) (va_up b2_ i_ (m1 ((os_ ((its k_ os_ ns_ ln_ k_).2.1 q_)) + i_))) _ _ ls_ (hqy) (hbk) (by omega) (by omega) (lt_s (fun j_ hj_ => by rw [up_ne (by omega)]; exact hz j_ hj_) up_eq) hP_ hD_ hS_ (lv_sub hl_ [1, 2, 3, 4, 0] rfl)
      refine lv_iload_n hx_ hb_ dX5_plays_40 rfl (lv_at hl_ 2 rfl) ?_
      refine lv_iload_n hx_ hb_ dX5_plays_41 rfl (lv_at hl_ 1 rfl) ?_
      refine q_icmp_ge (tgt := 140) hx_ hb_ dX5_plays_42 (by decide) (⟨by omega, by omega⟩) (⟨by omega, by omega⟩) (fun c42_ => ?_) (fun c42_ => ?_)
      · skip
        rw [← hQe]
        exact W.vret hx_ hb_ hr (fun tt1 htt1 hWW1 => ⟨⟨(m1, b1_), rfl, by have e0_ : q_ = y_ := (by omega); rw [e0_] at hme; exact hme, by show va_P G_ vwCl _ tt1.heap; rw [htt1]; exact hP_⟩, hS_.F htt1⟩) hS_.2.2 dX5_plays_140
      · skip
        have hbk : ((its k_ os_ ns_ ln_ k_).2.1 q_) < k_ := (its_ok k_ os_ ns_ ln_ k_).2.1 q_ (by rw [← hcp]; omega)
        refine lv_aload_n hx_ hb_ dX5_plays_45 rfl (lv_at hl_ 0 rfl) ?_
        refine va_get (D := G_) (ci := 5) (v := .ref (am_ 11)) (C := RX5) (T := TX5) (N := 19) hx_ hb_ hts hi5_ hown hK_ hP_ 0 rfl rfl 15 (by decide) hf41_ (fun _ h9 => h9) rfl dX5_plays_46 ?_
        refine lv_iload_n hx_ hb_ dX5_plays_49 rfl (lv_at hl_ 2 rfl) ?_
        refine q_ildN hx_ hb_ hK_ hP_ 11 rfl (by decide) (q_) (by omega) ((its k_ os_ ns_ ln_ k_).2.1 q_) (hcd q_ (by omega)) dX5_plays_50 ?_
        refine lv_istore_n (lv' := [(3, .int (iI (((its k_ os_ ns_ ln_ k_).2.1 q_ : Nat) : Int))), (0, .ref (am_ 0)), (1, .int (iI ((y_ : Nat) : Int))), (2, .int (iI ((q_ : Nat) : Int)))]) hx_ hb_ dX5_plays_51 rfl hl_ (by decide) rfl (fun ls_ hl_ => ?_)
        refine lv_iconst (v := iI ((0 : Nat) : Int)) hx_ hb_ dX5_plays_52 rfl ?_
        refine lv_istore (lv' := [(4, .int (iI ((0 : Nat) : Int))), (3, .int (iI (((its k_ os_ ns_ ln_ k_).2.1 q_ : Nat) : Int))), (0, .ref (am_ 0)), (1, .int (iI ((y_ : Nat) : Int))), (2, .int (iI ((q_ : Nat) : Int)))]) hx_ hb_ dX5_plays_53 hl_ (by decide) rfl (fun ls_ hl_ => ?_)
        exact lp55 (ln_ ((its k_ os_ ns_ ln_ k_).2.1 q_) + 1) 0 b1_ _ _ ls_ (by omega) (hbk) (by omega) (by omega) (fun j_ hj_ => absurd hj_ (Nat.not_lt_zero _)) hP_ hD_ hS_ (lv_sub hl_ [2, 3, 4, 1, 0] rfl)
  have lp2 : ∀ (n_ : Nat) (i_ : Nat) (m1 : Nat → Int) (H_ : Heap) (locs : List Loc) (ls_ : Array Slot), (i_ ≤ 48) → (49 ≤ i_ + n_) → (∀ j_, j_ < i_ → m1 j_ = vAt no_ vo_ ((j_ : Nat) : Int)) → va_P G_ vwCl [(am_ 0, .inr (5, [.int (iI ((no_ : Nat) : Int)), .ref (am_ 1), .ref (am_ 2), .int (iI ((nn_ : Nat) : Int)), .ref (am_ 3), .ref (am_ 4), .int (iI (bZ bu_)), .int (iI ((k_ : Nat) : Int)), .ref (am_ 5), .ref (am_ 6), .ref (am_ 7), .ref (am_ 8), .ref (am_ 9), .ref (am_ 10), .int (iI ((cp_ : Nat) : Int)), .ref (am_ 11), .ref (am_ 12), .ref (am_ 13), .ref (am_ 14)])), (am_ 1, .inl (cI, 48, .inl (aI vo_))), (am_ 2, .inl (cZ, 48, .inl (aB fo_))), (am_ 3, .inl (cI, 48, .inl (aI vn_))), (am_ 4, .inl (cZ, 48, .inl (aB fn_))), (am_ 5, .inl (cI, 48, .inl (aN osr))), (am_ 6, .inl (cI, 48, .inl (aN nsr))), (am_ 7, .inl (cI, 48, .inl (aN lnr))), (am_ 8, .inl (cI, 48, .inl (aI ba_))), (am_ 9, .inl (cZ, 48, .inl (aB tk_))), (am_ 10, .inl (cI, 2401, .inl (aN rt_))), (am_ 11, .inl (cI, 48, .inl (aN cd_))), (am_ 12, .inl (cI, 48, .inl (aN so_))), (am_ 13, .inl (cI, 48, .inl (aI m1))), (am_ 14, .inl (cI, 48, .inl (aI bf_)))] H_ → va_D A_ [(am_ 0, .inr (5, [.int (iI ((no_ : Nat) : Int)), .ref (am_ 1), .ref (am_ 2), .int (iI ((nn_ : Nat) : Int)), .ref (am_ 3), .ref (am_ 4), .int (iI (bZ bu_)), .int (iI ((k_ : Nat) : Int)), .ref (am_ 5), .ref (am_ 6), .ref (am_ 7), .ref (am_ 8), .ref (am_ 9), .ref (am_ 10), .int (iI ((cp_ : Nat) : Int)), .ref (am_ 11), .ref (am_ 12), .ref (am_ 13), .ref (am_ 14)])), (am_ 1, .inl (cI, 48, .inl (aI vo_))), (am_ 2, .inl (cZ, 48, .inl (aB fo_))), (am_ 3, .inl (cI, 48, .inl (aI vn_))), (am_ 4, .inl (cZ, 48, .inl (aB fn_))), (am_ 5, .inl (cI, 48, .inl (aN osr))), (am_ 6, .inl (cI, 48, .inl (aN nsr))), (am_ 7, .inl (cI, 48, .inl (aN lnr))), (am_ 8, .inl (cI, 48, .inl (aI ba_))), (am_ 9, .inl (cZ, 48, .inl (aB tk_))), (am_ 10, .inl (cI, 2401, .inl (aN rt_))), (am_ 11, .inl (cI, 48, .inl (aN cd_))), (am_ 12, .inl (cI, 48, .inl (aN so_))), (am_ 13, .inl (cI, 48, .inl (aI m1))), (am_ 14, .inl (cI, 48, .inl (aI bf_)))] → va_S A_ s_.heap H_ locs → lv_has ls_ 5 [(0, .ref (am_ 0)), (1, .int (iI ((y_ : Nat) : Int))), (2, .int (iI ((i_ : Nat) : Int)))] → W p_ l_ e_ (headSpec wsX5_plays ({ frames := 0, cells := 0, slots := 0, locals := 0 })).room s_ m_ args below meth c_ H_ locs 0 0 Q_ (F0 m_ 2 ls_ []) := by
    intro n_
    induction n_ with
    | zero =>
      intro i_ m1 H_ locs ls_ hi_ hn_ hz
      exact False.elim (by omega)
    | succ n_ ih2 =>
      intro i_ m1 H_ locs ls_ hi_ hn_ hz hP_ hD_ hS_ hl_
      refine lv_iload_n hx_ hb_ dX5_plays_2 rfl (lv_at hl_ 2 rfl) ?_
      refine lv_bipush (v := iI ((48 : Nat) : Int)) hx_ hb_ dX5_plays_3 rfl ?_
      refine q_icmp_ge (tgt := 38) hx_ hb_ dX5_plays_5 (by decide) (⟨by omega, by omega⟩) (⟨by decide, by decide⟩) (fun c5_ => ?_) (fun c5_ => ?_)
      · skip
        refine lv_iconst (v := iI ((0 : Nat) : Int)) hx_ hb_ dX5_plays_38 rfl ?_
        refine lv_istore_n (lv' := [(2, .int (iI ((0 : Nat) : Int))), (0, .ref (am_ 0)), (1, .int (iI ((y_ : Nat) : Int)))]) hx_ hb_ dX5_plays_39 rfl hl_ (by decide) rfl (fun ls_ hl_ => ?_)
        exact lp40 (y_ + 1) 0 m1 bf_ _ _ ls_ (by omega) (by omega) (fun j_ hj_ => hz j_ (by omega)) hP_ hD_ hS_ (lv_sub hl_ [1, 2, 0] rfl)
      · skip
        refine lv_aload_n hx_ hb_ dX5_plays_8 rfl (lv_at hl_ 0 rfl) ?_
        refine va_get (D := G_) (ci := 5) (v := .ref (am_ 13)) (C := RX5) (T := TX5) (N := 19) hx_ hb_ hts hi5_ hown hK_ hP_ 0 rfl rfl 17 (by decide) hf47_ (fun _ h9 => h9) rfl dX5_plays_9 ?_
        refine lv_iload_n hx_ hb_ dX5_plays_12 rfl (lv_at hl_ 2 rfl) ?_
        refine lv_iload_n hx_ hb_ dX5_plays_13 rfl (lv_at hl_ 2 rfl) ?_
        refine lv_aload_n hx_ hb_ dX5_plays_14 rfl (lv_at hl_ 0 rfl) ?_
        refine va_get (D := G_) (ci := 5) (v := .int (iI ((no_ : Nat) : Int))) (C := RX5) (T := TX5) (N := 19) hx_ hb_ hts hi5_ hown hK_ hP_ 0 rfl rfl 0 (by decide) hf65_ (fun _ h9 => h9) rfl dX5_plays_15 ?_
        refine q_icmp_ge (tgt := 30) hx_ hb_ dX5_plays_18 (by decide) (⟨by omega, by omega⟩) (⟨by omega, by omega⟩) (fun c18_ => ?_) (fun c18_ => ?_)
        · skip
          refine lv_iconst (v := iI ((0 : Nat) : Int)) hx_ hb_ dX5_plays_30 rfl ?_
          refine q_istI hx_ hb_ hK_ hP_ hD_ hS_ 13 rfl (by decide) (i_) (by omega) (((0 : Nat) : Int)) dX5_plays_31 (ws' := [(am_ 0, .inr (5, [.int (iI ((no_ : Nat) : Int)), .ref (am_ 1), .ref (am_ 2), .int (iI ((nn_ : Nat) : Int)), .ref (am_ 3), .ref (am_ 4), .int (iI (bZ bu_)), .int (iI ((k_ : Nat) : Int)), .ref (am_ 5), .ref (am_ 6), .ref (am_ 7), .ref (am_ 8), .ref (am_ 9), .ref (am_ 10), .int (iI ((cp_ : Nat) : Int)), .ref (am_ 11), .ref (am_ 12), .ref (am_ 13), .ref (am_ 14)])), (am_ 1, .inl (cI, 48, .inl (aI vo_))), (am_ 2, .inl (cZ, 48, .inl (aB fo_))), (am_ 3, .inl (cI, 48, .inl (aI vn_))), (am_ 4, .inl (cZ, 48, .inl (aB fn_))), (am_ 5, .inl (cI, 48, .inl (aN osr))), (am_ 6, .inl (cI, 48, .inl (aN nsr))), (am_ 7, .inl (cI, 48, .inl (aN lnr))), (am_ 8, .inl (cI, 48, .inl (aI ba_))), (am_ 9, .inl (cZ, 48, .inl (aB tk_))), (am_ 10, .inl (cI, 2401, .inl (aN rt_))), (am_ 11, .inl (cI, 48, .inl (aN cd_))), (am_ 12, .inl (cI, 48, .inl (aN so_))), (am_ 13, .inl (cI, 48, .inl (aI (va_up m1 i_ (((0 : Nat) : Int)))))), (am_ 14, .inl (cI, 48, .inl (aI bf_)))]) rfl (fun H_ locs hP_ hD_ hS_ => ?_)
          refine q_iinc (k := 2) ((i_ + 1 : Nat) : Int) hx_ hb_ dX5_plays_32 hl_ rfl (rfl) (by decide) (lv' := [(2, .int (iI ((i_ + 1 : Nat) : Int))), (0, .ref (am_ 0)), (1, .int (iI ((y_ : Nat) : Int)))]) rfl (fun ls_ hl_ => ?_)
          refine lv_goto (tgt := 2) hx_ hb_ dX5_plays_35 (by decide) ?_
          exact ih2 (i_ + 1) (va_up m1 i_ (((0 : Nat) : Int))) _ _ ls_ (by omega) (by omega) (lt_s (fun j_ hj_ => by rw [up_ne (by omega)]; exact hz j_ hj_) (by rw [up_eq]; unfold vAt; rw [if_neg (by omega)]; rfl)) hP_ hD_ hS_ (lv_sub hl_ [1, 2, 0] rfl)
        · skip
          refine lv_aload_n hx_ hb_ dX5_plays_21 rfl (lv_at hl_ 0 rfl) ?_
          refine va_get (D := G_) (ci := 5) (v := .ref (am_ 1)) (C := RX5) (T := TX5) (N := 19) hx_ hb_ hts hi5_ hown hK_ hP_ 0 rfl rfl 1 (by decide) hf7_ (fun _ h9 => h9) rfl dX5_plays_22 ?_
          refine lv_iload_n hx_ hb_ dX5_plays_25 rfl (lv_at hl_ 2 rfl) ?_
          refine q_ildI hx_ hb_ hK_ hP_ 1 rfl (by decide) (i_) (by omega) (vo_ i_) (rfl) dX5_plays_26 ?_
          refine lv_goto (tgt := 31) hx_ hb_ dX5_plays_27 (by decide) ?_
          refine q_istI hx_ hb_ hK_ hP_ hD_ hS_ 13 rfl (by decide) (i_) (by omega) (vo_ i_) dX5_plays_31 (ws' := [(am_ 0, .inr (5, [.int (iI ((no_ : Nat) : Int)), .ref (am_ 1), .ref (am_ 2), .int (iI ((nn_ : Nat) : Int)), .ref (am_ 3), .ref (am_ 4), .int (iI (bZ bu_)), .int (iI ((k_ : Nat) : Int)), .ref (am_ 5), .ref (am_ 6), .ref (am_ 7), .ref (am_ 8), .ref (am_ 9), .ref (am_ 10), .int (iI ((cp_ : Nat) : Int)), .ref (am_ 11), .ref (am_ 12), .ref (am_ 13), .ref (am_ 14)])), (am_ 1, .inl (cI, 48, .inl (aI vo_))), (am_ 2, .inl (cZ, 48, .inl (aB fo_))), (am_ 3, .inl (cI, 48, .inl (aI vn_))), (am_ 4, .inl (cZ, 48, .inl (aB fn_))), (am_ 5, .inl (cI, 48, .inl (aN osr))), (am_ 6, .inl (cI, 48, .inl (aN nsr))), (am_ 7, .inl (cI, 48, .inl (aN lnr))), (am_ 8, .inl (cI, 48, .inl (aI ba_))), (am_ 9, .inl (cZ, 48, .inl (aB tk_))), (am_ 10, .inl (cI, 2401, .inl (aN rt_))), (am_ 11, .inl (cI, 48, .inl (aN cd_))), (am_ 12, .inl (cI, 48, .inl (aN so_))), (am_ 13, .inl (cI, 48, .inl (aI (va_up m1 i_ (vo_ i_))))), (am_ 14, .inl (cI, 48, .inl (aI bf_)))]) rfl (fun H_ locs hP_ hD_ hS_ => ?_)
          refine q_iinc (k := 2) ((i_ + 1 : Nat) : Int) hx_ hb_ dX5_plays_32 hl_ rfl (rfl) (by decide) (lv' := [(2, .int (iI ((i_ + 1 : Nat) : Int))), (0, .ref (am_ 0)), (1, .int (iI ((y_ : Nat) : Int)))]) rfl (fun ls_ hl_ => ?_)
          refine lv_goto (tgt := 2) hx_ hb_ dX5_plays_35 (by decide) ?_
          exact ih2 (i_ + 1) (va_up m1 i_ (vo_ i_)) _ _ ls_ (by omega) (by omega) (lt_s (fun j_ hj_ => by rw [up_ne (by omega)]; exact hz j_ hj_) (by rw [up_eq]; unfold vAt; rw [if_pos (by omega)]; rfl)) hP_ hD_ hS_ (lv_sub hl_ [1, 2, 0] rfl)
  rw [show entryFrame m_ args 5 = entryFrame m_ ([.ref (am_ 0), .int (iI ((y_ : Nat) : Int))] : List Value).toArray 5 from by rw [hargs], lg_entry_eq]
  have hl_ := lv_entry ([.ref (am_ 0), .int (iI ((y_ : Nat) : Int))]) (n := 5) (Nat.le_of_ble_eq_true rfl)
  generalize (lg_sl ([.ref (am_ 0), .int (iI ((y_ : Nat) : Int))]) ++ List.replicate (5 - (lg_sl ([.ref (am_ 0), .int (iI ((y_ : Nat) : Int))])).length) Slot.unset).toArray = ls_ at hl_ ⊢
  have hl_ : lv_has ls_ 5 [(0, .ref (am_ 0)), (1, .int (iI ((y_ : Nat) : Int)))] := hl_
  refine lv_iconst (v := iI ((0 : Nat) : Int)) hx_ hb_ dX5_plays_0 rfl ?_
  refine lv_istore_n (lv' := [(2, .int (iI ((0 : Nat) : Int))), (0, .ref (am_ 0)), (1, .int (iI ((y_ : Nat) : Int)))]) hx_ hb_ dX5_plays_1 rfl hl_ (by decide) rfl (fun ls_ hl_ => ?_)
  exact lp2 (49) 0 me_ _ _ ls_ (by omega) (by omega) (fun j_ hj_ => absurd hj_ (Nat.not_lt_zero _)) hP_ hD_ hS_ (lv_sub hl_ [1, 2, 0] rfl)

set_option maxHeartbeats 4000000 in
set_option maxRecDepth 100000 in
/-- memoryAfter -/
theorem c_X5_memoryAfter (l_ : Launch) (G_ : va_G) (cI cZ : ClassId) (am_ : Nat → Nat) (bu_ : Bool) (no_ : Nat) (vo_ : Nat → Int) (fo_ : Nat → Bool) (nn_ : Nat) (vn_ : Nat → Int) (fn_ : Nat → Bool) (kr : Nat) (osr nsr lnr : Nat → Nat) (ba_ : Nat → Int) (tk_ : Nat → Bool) (rt_ : Nat → Nat) (cp_ : Nat) (cd_ so_ : Nat → Nat) (me_ bf_ : Nat → Int) (k_ : Nat) (os_ ns_ ln_ : Nat → Nat) (x_ : Int) (y_ : Int) (hno : no_ ≤ 48) (hnn : nn_ ≤ 48) (hvo : ∀ j_, 0 ≤ vo_ j_ ∧ vo_ j_ ≤ 9999) (hvn : ∀ j_, 0 ≤ vn_ j_ ∧ vn_ j_ ≤ 9999) (hmb : bu_ = true → k_ = kr ∧ MdI no_ nn_ k_ os_ ns_ ln_ osr nsr lnr ba_ cp_ cd_ so_) (hx1 : -2147483648 ≤ x_) (hx2 : x_ < 2147483648) (hy1 : -2147483648 ≤ y_) (hy2 : y_ < 2147483648) (sz : Nat) : WrI (S := (Nat → Int) × (Nat → Int)) l_ yX5_memoryAfter wsX5_memoryAfter ({ frames := 1, cells := 0, slots := 0, locals := 24 }) G_ cI cZ [.ref (am_ 0), .int (iI (x_)), .int (iI (y_))] (wMd cI cZ am_ bu_ no_ vo_ fo_ nn_ vn_ fn_ kr osr nsr lnr ba_ tk_ rt_ cp_ cd_ so_ me_ bf_) sz (fun _ => A_mem bu_ no_ vo_ nn_ k_ os_ ns_ ln_ x_ y_) (fun _ => True) (fun u_ => wMd cI cZ am_ bu_ no_ vo_ fo_ nn_ vn_ fn_ kr osr nsr lnr ba_ tk_ rt_ cp_ cd_ so_ u_.1 u_.2) := by
  refine Met.ofW (cc := cX5_memoryAfter) (maxL := 3) (ret := (some .int)) (by decide) rfl ?_
  intro p_ e_ s_ m_ args below meth c_ s₁ B hml hv
  obtain ⟨hargs, hsz, hP_, hK_, hD0⟩ := hv
  have hx_ := B.exec
  have hb_ := B.bytes
  have hr := B.returns
  have hts := atoms_spec (ws := wsX5_memoryAfter) B.pre
  have hown : s_.vm.findClass RX5 = some m_.cls := findClass_of_methodNamed B.named
  have hlocks := B.notSynchronized
  have hi5_ : ∀ w_ ∈ wsX50, w_ ∈ wsX5_memoryAfter := by decide +kernel
  have hf47_ := hts (.fieldLink RX5 47 "RelocatingPatchModel" "memory" "[I") (by decide +kernel)
  have hf53_ := hts (.fieldLink RX5 53 "RelocatingPatchModel" "isBuilt" "Z") (by decide +kernel)
  have hf57_ := hts (.fieldLink RX5 57 "RelocatingPatchModel" "news" "I") (by decide +kernel)
  have hf65_ := hts (.fieldLink RX5 65 "RelocatingPatchModel" "olds" "I") (by decide +kernel)
  have hf125_ := hts (.fieldLink RX5 125 "RelocatingPatchModel" "copies" "I") (by decide +kernel)
  subst hsz
  have hD_ := hD0.self (sz := s_.heap.size)
  generalize hAe : va_A (wMd cI cZ am_ bu_ no_ vo_ fo_ nn_ vn_ fn_ kr osr nsr lnr ba_ tk_ rt_ cp_ cd_ so_ me_ bf_) s_.heap.size = A_ at hD_ ⊢
  have hA_ : ∀ q_ : Nat, s_.heap.size ≤ q_ → A_ q_ := fun q_ h_ => by rw [← hAe]; exact Or.inr h_
  have hS_ : va_S A_ s_.heap s_.heap [] := va_S.rf
  have hP_ : va_P G_ vwCl [(am_ 0, .inr (5, [.int (iI ((no_ : Nat) : Int)), .ref (am_ 1), .ref (am_ 2), .int (iI ((nn_ : Nat) : Int)), .ref (am_ 3), .ref (am_ 4), .int (iI (bZ bu_)), .int (iI ((kr : Nat) : Int)), .ref (am_ 5), .ref (am_ 6), .ref (am_ 7), .ref (am_ 8), .ref (am_ 9), .ref (am_ 10), .int (iI ((cp_ : Nat) : Int)), .ref (am_ 11), .ref (am_ 12), .ref (am_ 13), .ref (am_ 14)])), (am_ 1, .inl (cI, 48, .inl (aI vo_))), (am_ 2, .inl (cZ, 48, .inl (aB fo_))), (am_ 3, .inl (cI, 48, .inl (aI vn_))), (am_ 4, .inl (cZ, 48, .inl (aB fn_))), (am_ 5, .inl (cI, 48, .inl (aN osr))), (am_ 6, .inl (cI, 48, .inl (aN nsr))), (am_ 7, .inl (cI, 48, .inl (aN lnr))), (am_ 8, .inl (cI, 48, .inl (aI ba_))), (am_ 9, .inl (cZ, 48, .inl (aB tk_))), (am_ 10, .inl (cI, 2401, .inl (aN rt_))), (am_ 11, .inl (cI, 48, .inl (aN cd_))), (am_ 12, .inl (cI, 48, .inl (aN so_))), (am_ 13, .inl (cI, 48, .inl (aI me_))), (am_ 14, .inl (cI, 48, .inl (aI bf_)))] s_.heap := hP_
  have hD_ : va_D A_ [(am_ 0, .inr (5, [.int (iI ((no_ : Nat) : Int)), .ref (am_ 1), .ref (am_ 2), .int (iI ((nn_ : Nat) : Int)), .ref (am_ 3), .ref (am_ 4), .int (iI (bZ bu_)), .int (iI ((kr : Nat) : Int)), .ref (am_ 5), .ref (am_ 6), .ref (am_ 7), .ref (am_ 8), .ref (am_ 9), .ref (am_ 10), .int (iI ((cp_ : Nat) : Int)), .ref (am_ 11), .ref (am_ 12), .ref (am_ 13), .ref (am_ 14)])), (am_ 1, .inl (cI, 48, .inl (aI vo_))), (am_ 2, .inl (cZ, 48, .inl (aB fo_))), (am_ 3, .inl (cI, 48, .inl (aI vn_))), (am_ 4, .inl (cZ, 48, .inl (aB fn_))), (am_ 5, .inl (cI, 48, .inl (aN osr))), (am_ 6, .inl (cI, 48, .inl (aN nsr))), (am_ 7, .inl (cI, 48, .inl (aN lnr))), (am_ 8, .inl (cI, 48, .inl (aI ba_))), (am_ 9, .inl (cZ, 48, .inl (aB tk_))), (am_ 10, .inl (cI, 2401, .inl (aN rt_))), (am_ 11, .inl (cI, 48, .inl (aN cd_))), (am_ 12, .inl (cI, 48, .inl (aN so_))), (am_ 13, .inl (cI, 48, .inl (aI me_))), (am_ 14, .inl (cI, 48, .inl (aI bf_)))] := hD_
  generalize hQe : MQ below (va_Qi (S := (Nat → Int) × (Nat → Int)) (fun r1_ u1 => r1_ = iI ((fun _ => A_mem bu_ no_ vo_ nn_ k_ os_ ns_ ln_ x_ y_) u1) ∧ (fun _ => True) u1) (fun u1 t1 => va_P G_ vwCl ((fun u_ => wMd cI cZ am_ bu_ no_ vo_ fo_ nn_ vn_ fn_ kr osr nsr lnr ba_ tk_ rt_ cp_ cd_ so_ u_.1 u_.2) u1) t1.heap) A_) args s_ 0 0 A_ = Q_
  rw [show entryFrame m_ args 3 = entryFrame m_ ([.ref (am_ 0), .int (iI (x_)), .int (iI (y_))] : List Value).toArray 3 from by rw [hargs], lg_entry_eq]
  have hl_ := lv_entry ([.ref (am_ 0), .int (iI (x_)), .int (iI (y_))]) (n := 3) (Nat.le_of_ble_eq_true rfl)
  generalize (lg_sl ([.ref (am_ 0), .int (iI (x_)), .int (iI (y_))]) ++ List.replicate (3 - (lg_sl ([.ref (am_ 0), .int (iI (x_)), .int (iI (y_))])).length) Slot.unset).toArray = ls_ at hl_ ⊢
  have hl_ : lv_has ls_ 3 [(0, .ref (am_ 0)), (1, .int (iI (x_))), (2, .int (iI (y_)))] := hl_
  refine lv_aload_n hx_ hb_ dX5_memoryAfter_0 rfl (lv_at hl_ 0 rfl) ?_
  refine va_get (D := G_) (ci := 5) (v := .int (iI (bZ bu_))) (C := RX5) (T := TX5) (N := 19) hx_ hb_ hts hi5_ hown hK_ hP_ 0 rfl rfl 6 (by decide) hf53_ (fun _ h9 => h9) rfl dX5_memoryAfter_1 ?_
  refine q_bt (tgt := 11) hx_ hb_ dX5_memoryAfter_4 (by decide) (fun c4_ => ?_) (fun c4_ => ?_)
  · skip
    obtain ⟨hkr, hmd⟩ := hmb c4_
    have hmd0 := hmd
    obtain ⟨hk_, hB_, hgd, ha_, hba, hso, hcp, hcd⟩ := hmd0
    have hcl : cp_ ≤ 48 := by rw [hcp]; exact Nat.le_trans (its_ok k_ os_ ns_ ln_ k_).1 hk_
    have hP_ : va_P G_ vwCl [(am_ 0, .inr (5, [.int (iI ((no_ : Nat) : Int)), .ref (am_ 1), .ref (am_ 2), .int (iI ((nn_ : Nat) : Int)), .ref (am_ 3), .ref (am_ 4), .int (iI (bZ bu_)), .int (iI ((k_ : Nat) : Int)), .ref (am_ 5), .ref (am_ 6), .ref (am_ 7), .ref (am_ 8), .ref (am_ 9), .ref (am_ 10), .int (iI ((cp_ : Nat) : Int)), .ref (am_ 11), .ref (am_ 12), .ref (am_ 13), .ref (am_ 14)])), (am_ 1, .inl (cI, 48, .inl (aI vo_))), (am_ 2, .inl (cZ, 48, .inl (aB fo_))), (am_ 3, .inl (cI, 48, .inl (aI vn_))), (am_ 4, .inl (cZ, 48, .inl (aB fn_))), (am_ 5, .inl (cI, 48, .inl (aN osr))), (am_ 6, .inl (cI, 48, .inl (aN nsr))), (am_ 7, .inl (cI, 48, .inl (aN lnr))), (am_ 8, .inl (cI, 48, .inl (aI ba_))), (am_ 9, .inl (cZ, 48, .inl (aB tk_))), (am_ 10, .inl (cI, 2401, .inl (aN rt_))), (am_ 11, .inl (cI, 48, .inl (aN cd_))), (am_ 12, .inl (cI, 48, .inl (aN so_))), (am_ 13, .inl (cI, 48, .inl (aI me_))), (am_ 14, .inl (cI, 48, .inl (aI bf_)))] s_.heap := by rw [hkr]; exact hP_
    have hD_ : va_D A_ [(am_ 0, .inr (5, [.int (iI ((no_ : Nat) : Int)), .ref (am_ 1), .ref (am_ 2), .int (iI ((nn_ : Nat) : Int)), .ref (am_ 3), .ref (am_ 4), .int (iI (bZ bu_)), .int (iI ((k_ : Nat) : Int)), .ref (am_ 5), .ref (am_ 6), .ref (am_ 7), .ref (am_ 8), .ref (am_ 9), .ref (am_ 10), .int (iI ((cp_ : Nat) : Int)), .ref (am_ 11), .ref (am_ 12), .ref (am_ 13), .ref (am_ 14)])), (am_ 1, .inl (cI, 48, .inl (aI vo_))), (am_ 2, .inl (cZ, 48, .inl (aB fo_))), (am_ 3, .inl (cI, 48, .inl (aI vn_))), (am_ 4, .inl (cZ, 48, .inl (aB fn_))), (am_ 5, .inl (cI, 48, .inl (aN osr))), (am_ 6, .inl (cI, 48, .inl (aN nsr))), (am_ 7, .inl (cI, 48, .inl (aN lnr))), (am_ 8, .inl (cI, 48, .inl (aI ba_))), (am_ 9, .inl (cZ, 48, .inl (aB tk_))), (am_ 10, .inl (cI, 2401, .inl (aN rt_))), (am_ 11, .inl (cI, 48, .inl (aN cd_))), (am_ 12, .inl (cI, 48, .inl (aN so_))), (am_ 13, .inl (cI, 48, .inl (aI me_))), (am_ 14, .inl (cI, 48, .inl (aI bf_)))] := by rw [hkr]; exact hD_
    refine lv_iload_n hx_ hb_ dX5_memoryAfter_11 rfl (lv_at hl_ 1 rfl) ?_
    refine lv_iconst (v := iI ((0 : Nat) : Int)) hx_ hb_ dX5_memoryAfter_12 rfl ?_
    refine lv_aload_n hx_ hb_ dX5_memoryAfter_13 rfl (lv_at hl_ 0 rfl) ?_
    refine va_get (D := G_) (ci := 5) (v := .int (iI ((cp_ : Nat) : Int))) (C := RX5) (T := TX5) (N := 19) hx_ hb_ hts hi5_ hown hK_ hP_ 0 rfl rfl 14 (by decide) hf125_ (fun _ h9 => h9) rfl dX5_memoryAfter_14 ?_
    refine ro_S (As := [.int (iI (x_)), .int (iI ((0 : Nat) : Int)), .int (iI ((cp_ : Nat) : Int))]) (rest := []) ⟨hx_, hb_, hml, hown, hts⟩ (c_X5_within l_ G_ cI cZ (x_) ((0 : Nat) : Int) ((cp_ : Nat) : Int) (by omega) (by omega) (by omega) (by omega) (by omega) (by omega)) (va_cwS 3 hts gX5_memoryAfter_X5_within rfl rfl rfl (by decide +kernel) ⟨Nat.le_of_ble_eq_true rfl, Nat.le_of_ble_eq_true rfl⟩) (hP_.sub (ws' := []) [] rfl) hK_ rfl hl_.1 rfl (Nat.le_of_ble_eq_true rfl) dX5_memoryAfter_17 ⟨Nat.zero_le _, Nat.zero_le _⟩ ?_
    refine q_dt (tgt := 27) hx_ hb_ dX5_memoryAfter_20 (by decide) (fun c20_ => ?_) (fun c20_ => ?_)
    · skip
      refine lv_iload_n hx_ hb_ dX5_memoryAfter_27 rfl (lv_at hl_ 2 rfl) ?_
      refine lv_iconst (v := iI ((0 : Nat) : Int)) hx_ hb_ dX5_memoryAfter_28 rfl ?_
      refine lv_aload_n hx_ hb_ dX5_memoryAfter_29 rfl (lv_at hl_ 0 rfl) ?_
      refine va_get (D := G_) (ci := 5) (v := .int (iI ((no_ : Nat) : Int))) (C := RX5) (T := TX5) (N := 19) hx_ hb_ hts hi5_ hown hK_ hP_ 0 rfl rfl 0 (by decide) hf65_ (fun _ h9 => h9) rfl dX5_memoryAfter_30 ?_
      refine lv_aload_n hx_ hb_ dX5_memoryAfter_33 rfl (lv_at hl_ 0 rfl) ?_
      refine va_get (D := G_) (ci := 5) (v := .int (iI ((nn_ : Nat) : Int))) (C := RX5) (T := TX5) (N := 19) hx_ hb_ hts hi5_ hown hK_ hP_ 0 rfl rfl 3 (by decide) hf57_ (fun _ h9 => h9) rfl dX5_memoryAfter_34 ?_
      refine q_icmp_le (tgt := 47) hx_ hb_ dX5_memoryAfter_37 (by decide) (⟨by omega, by omega⟩) (⟨by omega, by omega⟩) (fun c37_ => ?_) (fun c37_ => ?_)
      · skip
        refine lv_aload_n hx_ hb_ dX5_memoryAfter_47 rfl (lv_at hl_ 0 rfl) ?_
        refine va_get (D := G_) (ci := 5) (v := .int (iI ((nn_ : Nat) : Int))) (C := RX5) (T := TX5) (N := 19) hx_ hb_ hts hi5_ hown hK_ hP_ 0 rfl rfl 3 (by decide) hf57_ (fun _ h9 => h9) rfl dX5_memoryAfter_48 ?_
        refine lv_iconst (v := iI ((1 : Nat) : Int)) hx_ hb_ dX5_memoryAfter_51 rfl ?_
        refine q_isub hx_ hb_ dX5_memoryAfter_52 ?_
        refine ro_S (As := [.int (iI (y_)), .int (iI ((0 : Nat) : Int)), .int (iI (((nn_ : Nat) : Int) - ((1 : Nat) : Int)))]) (rest := []) ⟨hx_, hb_, hml, hown, hts⟩ (c_X5_within l_ G_ cI cZ (y_) ((0 : Nat) : Int) (((nn_ : Nat) : Int) - ((1 : Nat) : Int)) (by omega) (by omega) (by omega) (by omega) (by omega) (by omega)) (va_cwS 3 hts gX5_memoryAfter_X5_within rfl rfl rfl (by decide +kernel) ⟨Nat.le_of_ble_eq_true rfl, Nat.le_of_ble_eq_true rfl⟩) (hP_.sub (ws' := []) [] rfl) hK_ rfl hl_.1 rfl (Nat.le_of_ble_eq_true rfl) dX5_memoryAfter_53 ⟨Nat.zero_le _, Nat.zero_le _⟩ ?_
        refine q_dt (tgt := 63) hx_ hb_ dX5_memoryAfter_56 (by decide) (fun c56_ => ?_) (fun c56_ => ?_)
        · skip
          refine lv_aload_n hx_ hb_ dX5_memoryAfter_63 rfl (lv_at hl_ 0 rfl) ?_
          refine lv_iload_n hx_ hb_ dX5_memoryAfter_64 rfl (lv_at hl_ 1 rfl) ?_
          refine q_cast (b := ((x_.toNat : Nat) : Int)) (by omega) ?_
          refine wr_V (As := [.int (iI ((x_.toNat : Nat) : Int))]) (rest := []) (wr := []) (wn := fun u_ => [(am_ 0, .inr (5, [.int (iI ((no_ : Nat) : Int)), .ref (am_ 1), .ref (am_ 2), .int (iI ((nn_ : Nat) : Int)), .ref (am_ 3), .ref (am_ 4), .int (iI (bZ bu_)), .int (iI ((k_ : Nat) : Int)), .ref (am_ 5), .ref (am_ 6), .ref (am_ 7), .ref (am_ 8), .ref (am_ 9), .ref (am_ 10), .int (iI ((cp_ : Nat) : Int)), .ref (am_ 11), .ref (am_ 12), .ref (am_ 13), .ref (am_ 14)])), (am_ 1, .inl (cI, 48, .inl (aI vo_))), (am_ 2, .inl (cZ, 48, .inl (aB fo_))), (am_ 3, .inl (cI, 48, .inl (aI vn_))), (am_ 4, .inl (cZ, 48, .inl (aB fn_))), (am_ 5, .inl (cI, 48, .inl (aN osr))), (am_ 6, .inl (cI, 48, .inl (aN nsr))), (am_ 7, .inl (cI, 48, .inl (aN lnr))), (am_ 8, .inl (cI, 48, .inl (aI ba_))), (am_ 9, .inl (cZ, 48, .inl (aB tk_))), (am_ 10, .inl (cI, 2401, .inl (aN rt_))), (am_ 11, .inl (cI, 48, .inl (aN cd_))), (am_ 12, .inl (cI, 48, .inl (aN so_))), (am_ 13, .inl (cI, 48, .inl (aI u_.1))), (am_ 14, .inl (cI, 48, .inl (aI u_.2)))]) ⟨hx_, hb_, hml, hown, hts⟩ (c_X5_plays l_ G_ cI cZ am_ bu_ no_ vo_ fo_ nn_ vn_ fn_ k_ osr nsr lnr ba_ tk_ rt_ cp_ cd_ so_ me_ bf_ os_ ns_ ln_ x_.toNat hno hnn hvo hvn hmd (by omega) s_.heap.size) (cwV 1 hts gX5_memoryAfter_X5_plays rfl rfl rfl (by decide +kernel) ⟨Nat.le_of_ble_eq_true rfl, Nat.le_of_ble_eq_true rfl⟩) hP_ hK_ hD_ hS_ hA_ [0, 1, 2, 3, 4, 5, 6, 7, 8, 9, 10, 11, 12, 13, 14] [] [0, 1, 2, 3, 4, 5, 6, 7, 8, 9, 10, 11, 12, 13, 14] rfl rfl (by decide) (fun _ => rfl) (fun _ => rfl) 0 rfl rfl rfl hl_.1 rfl (Nat.le_of_ble_eq_true rfl) dX5_memoryAfter_65 ⟨Nat.zero_le _, Nat.zero_le _⟩ (fun u_ H_ locs hu65 hP_ hD_ hS_ => ?_)
          obtain ⟨me_65, bf_65⟩ := u_
          try dsimp only at hu65
          have hP_ : va_P G_ vwCl [(am_ 0, .inr (5, [.int (iI ((no_ : Nat) : Int)), .ref (am_ 1), .ref (am_ 2), .int (iI ((nn_ : Nat) : Int)), .ref (am_ 3), .ref (am_ 4), .int (iI (bZ bu_)), .int (iI ((k_ : Nat) : Int)), .ref (am_ 5), .ref (am_ 6), .ref (am_ 7), .ref (am_ 8), .ref (am_ 9), .ref (am_ 10), .int (iI ((cp_ : Nat) : Int)), .ref (am_ 11), .ref (am_ 12), .ref (am_ 13), .ref (am_ 14)])), (am_ 1, .inl (cI, 48, .inl (aI vo_))), (am_ 2, .inl (cZ, 48, .inl (aB fo_))), (am_ 3, .inl (cI, 48, .inl (aI vn_))), (am_ 4, .inl (cZ, 48, .inl (aB fn_))), (am_ 5, .inl (cI, 48, .inl (aN osr))), (am_ 6, .inl (cI, 48, .inl (aN nsr))), (am_ 7, .inl (cI, 48, .inl (aN lnr))), (am_ 8, .inl (cI, 48, .inl (aI ba_))), (am_ 9, .inl (cZ, 48, .inl (aB tk_))), (am_ 10, .inl (cI, 2401, .inl (aN rt_))), (am_ 11, .inl (cI, 48, .inl (aN cd_))), (am_ 12, .inl (cI, 48, .inl (aN so_))), (am_ 13, .inl (cI, 48, .inl (aI me_65))), (am_ 14, .inl (cI, 48, .inl (aI bf_65)))] H_ := hP_
          have hD_ : va_D A_ [(am_ 0, .inr (5, [.int (iI ((no_ : Nat) : Int)), .ref (am_ 1), .ref (am_ 2), .int (iI ((nn_ : Nat) : Int)), .ref (am_ 3), .ref (am_ 4), .int (iI (bZ bu_)), .int (iI ((k_ : Nat) : Int)), .ref (am_ 5), .ref (am_ 6), .ref (am_ 7), .ref (am_ 8), .ref (am_ 9), .ref (am_ 10), .int (iI ((cp_ : Nat) : Int)), .ref (am_ 11), .ref (am_ 12), .ref (am_ 13), .ref (am_ 14)])), (am_ 1, .inl (cI, 48, .inl (aI vo_))), (am_ 2, .inl (cZ, 48, .inl (aB fo_))), (am_ 3, .inl (cI, 48, .inl (aI vn_))), (am_ 4, .inl (cZ, 48, .inl (aB fn_))), (am_ 5, .inl (cI, 48, .inl (aN osr))), (am_ 6, .inl (cI, 48, .inl (aN nsr))), (am_ 7, .inl (cI, 48, .inl (aN lnr))), (am_ 8, .inl (cI, 48, .inl (aI ba_))), (am_ 9, .inl (cZ, 48, .inl (aB tk_))), (am_ 10, .inl (cI, 2401, .inl (aN rt_))), (am_ 11, .inl (cI, 48, .inl (aN cd_))), (am_ 12, .inl (cI, 48, .inl (aN so_))), (am_ 13, .inl (cI, 48, .inl (aI me_65))), (am_ 14, .inl (cI, 48, .inl (aI bf_65)))] := hD_
          refine lv_aload_n hx_ hb_ dX5_memoryAfter_68 rfl (lv_at hl_ 0 rfl) ?_
          refine va_get (D := G_) (ci := 5) (v := .ref (am_ 13)) (C := RX5) (T := TX5) (N := 19) hx_ hb_ hts hi5_ hown hK_ hP_ 0 rfl rfl 17 (by decide) hf47_ (fun _ h9 => h9) rfl dX5_memoryAfter_69 ?_
          refine lv_iload_n hx_ hb_ dX5_memoryAfter_72 rfl (lv_at hl_ 2 rfl) ?_
          refine q_cast (b := ((y_.toNat : Nat) : Int)) (by omega) ?_
          refine q_ildI hx_ hb_ hK_ hP_ 13 rfl (by decide) (y_.toNat) (by omega) (me_65 y_.toNat) (rfl) dX5_memoryAfter_73 ?_
          rw [← hQe]
          have hP_ : va_P G_ vwCl [(am_ 0, .inr (5, [.int (iI ((no_ : Nat) : Int)), .ref (am_ 1), .ref (am_ 2), .int (iI ((nn_ : Nat) : Int)), .ref (am_ 3), .ref (am_ 4), .int (iI (bZ bu_)), .int (iI ((kr : Nat) : Int)), .ref (am_ 5), .ref (am_ 6), .ref (am_ 7), .ref (am_ 8), .ref (am_ 9), .ref (am_ 10), .int (iI ((cp_ : Nat) : Int)), .ref (am_ 11), .ref (am_ 12), .ref (am_ 13), .ref (am_ 14)])), (am_ 1, .inl (cI, 48, .inl (aI vo_))), (am_ 2, .inl (cZ, 48, .inl (aB fo_))), (am_ 3, .inl (cI, 48, .inl (aI vn_))), (am_ 4, .inl (cZ, 48, .inl (aB fn_))), (am_ 5, .inl (cI, 48, .inl (aN osr))), (am_ 6, .inl (cI, 48, .inl (aN nsr))), (am_ 7, .inl (cI, 48, .inl (aN lnr))), (am_ 8, .inl (cI, 48, .inl (aI ba_))), (am_ 9, .inl (cZ, 48, .inl (aB tk_))), (am_ 10, .inl (cI, 2401, .inl (aN rt_))), (am_ 11, .inl (cI, 48, .inl (aN cd_))), (am_ 12, .inl (cI, 48, .inl (aN so_))), (am_ 13, .inl (cI, 48, .inl (aI me_65))), (am_ 14, .inl (cI, 48, .inl (aI bf_65)))] H_ := by rw [← hkr]; exact hP_
          exact W.iret hx_ hb_ hr (fun tt1 htt1 hWW1 => ⟨⟨_, (me_65, bf_65), rfl, ⟨congrArg iI (by show _ = A_mem bu_ no_ vo_ nn_ k_ os_ ns_ ln_ x_ y_; unfold A_mem; rw [if_pos c4_, ← hcp, if_pos (by omega), if_pos (by have hm1 : no_ ≤ Nat.max no_ nn_ := Nat.le_max_left no_ nn_; have hm2 : nn_ ≤ Nat.max no_ nn_ := Nat.le_max_right no_ nn_; have hm3 : Nat.max no_ nn_ ≤ no_ ∨ Nat.max no_ nn_ ≤ nn_ := (by rcases Nat.le_total no_ nn_ with h0_ | h0_; exact Or.inr (Nat.max_le.mpr ⟨h0_, Nat.le_refl _⟩); exact Or.inl (Nat.max_le.mpr ⟨Nat.le_refl _, h0_⟩)); omega), hu65 y_.toNat (by omega), show ((y_.toNat : Nat) : Int) = y_ from by omega]), trivial⟩, by show va_P G_ vwCl _ tt1.heap; rw [htt1]; exact hP_⟩, hS_.F htt1⟩) hS_.2.2 dX5_memoryAfter_74
        · skip
          refine lv_sipush (v := iI (-10003)) hx_ hb_ dX5_memoryAfter_59 rfl ?_
          rw [← hQe]
          have hP_ : va_P G_ vwCl [(am_ 0, .inr (5, [.int (iI ((no_ : Nat) : Int)), .ref (am_ 1), .ref (am_ 2), .int (iI ((nn_ : Nat) : Int)), .ref (am_ 3), .ref (am_ 4), .int (iI (bZ bu_)), .int (iI ((kr : Nat) : Int)), .ref (am_ 5), .ref (am_ 6), .ref (am_ 7), .ref (am_ 8), .ref (am_ 9), .ref (am_ 10), .int (iI ((cp_ : Nat) : Int)), .ref (am_ 11), .ref (am_ 12), .ref (am_ 13), .ref (am_ 14)])), (am_ 1, .inl (cI, 48, .inl (aI vo_))), (am_ 2, .inl (cZ, 48, .inl (aB fo_))), (am_ 3, .inl (cI, 48, .inl (aI vn_))), (am_ 4, .inl (cZ, 48, .inl (aB fn_))), (am_ 5, .inl (cI, 48, .inl (aN osr))), (am_ 6, .inl (cI, 48, .inl (aN nsr))), (am_ 7, .inl (cI, 48, .inl (aN lnr))), (am_ 8, .inl (cI, 48, .inl (aI ba_))), (am_ 9, .inl (cZ, 48, .inl (aB tk_))), (am_ 10, .inl (cI, 2401, .inl (aN rt_))), (am_ 11, .inl (cI, 48, .inl (aN cd_))), (am_ 12, .inl (cI, 48, .inl (aN so_))), (am_ 13, .inl (cI, 48, .inl (aI me_))), (am_ 14, .inl (cI, 48, .inl (aI bf_)))] s_.heap := by rw [← hkr]; exact hP_
          exact W.iret hx_ hb_ hr (fun tt1 htt1 hWW1 => ⟨⟨_, (me_, bf_), rfl, ⟨congrArg iI (by show _ = A_mem bu_ no_ vo_ nn_ k_ os_ ns_ ln_ x_ y_; unfold A_mem; rw [if_pos c4_, ← hcp, if_pos (by omega), if_neg (by have hm1 : no_ ≤ Nat.max no_ nn_ := Nat.le_max_left no_ nn_; have hm2 : nn_ ≤ Nat.max no_ nn_ := Nat.le_max_right no_ nn_; have hm3 : Nat.max no_ nn_ ≤ no_ ∨ Nat.max no_ nn_ ≤ nn_ := (by rcases Nat.le_total no_ nn_ with h0_ | h0_; exact Or.inr (Nat.max_le.mpr ⟨h0_, Nat.le_refl _⟩); exact Or.inl (Nat.max_le.mpr ⟨Nat.le_refl _, h0_⟩)); omega)]), trivial⟩, by show va_P G_ vwCl _ tt1.heap; rw [htt1]; exact hP_⟩, hS_.F htt1⟩) hS_.2.2 dX5_memoryAfter_62
      · skip
        refine lv_aload_n hx_ hb_ dX5_memoryAfter_40 rfl (lv_at hl_ 0 rfl) ?_
        refine va_get (D := G_) (ci := 5) (v := .int (iI ((no_ : Nat) : Int))) (C := RX5) (T := TX5) (N := 19) hx_ hb_ hts hi5_ hown hK_ hP_ 0 rfl rfl 0 (by decide) hf65_ (fun _ h9 => h9) rfl dX5_memoryAfter_41 ?_
        refine lv_goto (tgt := 51) hx_ hb_ dX5_memoryAfter_44 (by decide) ?_
        refine lv_iconst (v := iI ((1 : Nat) : Int)) hx_ hb_ dX5_memoryAfter_51 rfl ?_
        refine q_isub hx_ hb_ dX5_memoryAfter_52 ?_
        refine ro_S (As := [.int (iI (y_)), .int (iI ((0 : Nat) : Int)), .int (iI (((no_ : Nat) : Int) - ((1 : Nat) : Int)))]) (rest := []) ⟨hx_, hb_, hml, hown, hts⟩ (c_X5_within l_ G_ cI cZ (y_) ((0 : Nat) : Int) (((no_ : Nat) : Int) - ((1 : Nat) : Int)) (by omega) (by omega) (by omega) (by omega) (by omega) (by omega)) (va_cwS 3 hts gX5_memoryAfter_X5_within rfl rfl rfl (by decide +kernel) ⟨Nat.le_of_ble_eq_true rfl, Nat.le_of_ble_eq_true rfl⟩) (hP_.sub (ws' := []) [] rfl) hK_ rfl hl_.1 rfl (Nat.le_of_ble_eq_true rfl) dX5_memoryAfter_53 ⟨Nat.zero_le _, Nat.zero_le _⟩ ?_
        refine q_dt (tgt := 63) hx_ hb_ dX5_memoryAfter_56 (by decide) (fun c56_ => ?_) (fun c56_ => ?_)
        · skip
          refine lv_aload_n hx_ hb_ dX5_memoryAfter_63 rfl (lv_at hl_ 0 rfl) ?_
          refine lv_iload_n hx_ hb_ dX5_memoryAfter_64 rfl (lv_at hl_ 1 rfl) ?_
          refine q_cast (b := ((x_.toNat : Nat) : Int)) (by omega) ?_
          refine wr_V (As := [.int (iI ((x_.toNat : Nat) : Int))]) (rest := []) (wr := []) (wn := fun u_ => [(am_ 0, .inr (5, [.int (iI ((no_ : Nat) : Int)), .ref (am_ 1), .ref (am_ 2), .int (iI ((nn_ : Nat) : Int)), .ref (am_ 3), .ref (am_ 4), .int (iI (bZ bu_)), .int (iI ((k_ : Nat) : Int)), .ref (am_ 5), .ref (am_ 6), .ref (am_ 7), .ref (am_ 8), .ref (am_ 9), .ref (am_ 10), .int (iI ((cp_ : Nat) : Int)), .ref (am_ 11), .ref (am_ 12), .ref (am_ 13), .ref (am_ 14)])), (am_ 1, .inl (cI, 48, .inl (aI vo_))), (am_ 2, .inl (cZ, 48, .inl (aB fo_))), (am_ 3, .inl (cI, 48, .inl (aI vn_))), (am_ 4, .inl (cZ, 48, .inl (aB fn_))), (am_ 5, .inl (cI, 48, .inl (aN osr))), (am_ 6, .inl (cI, 48, .inl (aN nsr))), (am_ 7, .inl (cI, 48, .inl (aN lnr))), (am_ 8, .inl (cI, 48, .inl (aI ba_))), (am_ 9, .inl (cZ, 48, .inl (aB tk_))), (am_ 10, .inl (cI, 2401, .inl (aN rt_))), (am_ 11, .inl (cI, 48, .inl (aN cd_))), (am_ 12, .inl (cI, 48, .inl (aN so_))), (am_ 13, .inl (cI, 48, .inl (aI u_.1))), (am_ 14, .inl (cI, 48, .inl (aI u_.2)))]) ⟨hx_, hb_, hml, hown, hts⟩ (c_X5_plays l_ G_ cI cZ am_ bu_ no_ vo_ fo_ nn_ vn_ fn_ k_ osr nsr lnr ba_ tk_ rt_ cp_ cd_ so_ me_ bf_ os_ ns_ ln_ x_.toNat hno hnn hvo hvn hmd (by omega) s_.heap.size) (cwV 1 hts gX5_memoryAfter_X5_plays rfl rfl rfl (by decide +kernel) ⟨Nat.le_of_ble_eq_true rfl, Nat.le_of_ble_eq_true rfl⟩) hP_ hK_ hD_ hS_ hA_ [0, 1, 2, 3, 4, 5, 6, 7, 8, 9, 10, 11, 12, 13, 14] [] [0, 1, 2, 3, 4, 5, 6, 7, 8, 9, 10, 11, 12, 13, 14] rfl rfl (by decide) (fun _ => rfl) (fun _ => rfl) 0 rfl rfl rfl hl_.1 rfl (Nat.le_of_ble_eq_true rfl) dX5_memoryAfter_65 ⟨Nat.zero_le _, Nat.zero_le _⟩ (fun u_ H_ locs hu65 hP_ hD_ hS_ => ?_)
          obtain ⟨me_65, bf_65⟩ := u_
          try dsimp only at hu65
          have hP_ : va_P G_ vwCl [(am_ 0, .inr (5, [.int (iI ((no_ : Nat) : Int)), .ref (am_ 1), .ref (am_ 2), .int (iI ((nn_ : Nat) : Int)), .ref (am_ 3), .ref (am_ 4), .int (iI (bZ bu_)), .int (iI ((k_ : Nat) : Int)), .ref (am_ 5), .ref (am_ 6), .ref (am_ 7), .ref (am_ 8), .ref (am_ 9), .ref (am_ 10), .int (iI ((cp_ : Nat) : Int)), .ref (am_ 11), .ref (am_ 12), .ref (am_ 13), .ref (am_ 14)])), (am_ 1, .inl (cI, 48, .inl (aI vo_))), (am_ 2, .inl (cZ, 48, .inl (aB fo_))), (am_ 3, .inl (cI, 48, .inl (aI vn_))), (am_ 4, .inl (cZ, 48, .inl (aB fn_))), (am_ 5, .inl (cI, 48, .inl (aN osr))), (am_ 6, .inl (cI, 48, .inl (aN nsr))), (am_ 7, .inl (cI, 48, .inl (aN lnr))), (am_ 8, .inl (cI, 48, .inl (aI ba_))), (am_ 9, .inl (cZ, 48, .inl (aB tk_))), (am_ 10, .inl (cI, 2401, .inl (aN rt_))), (am_ 11, .inl (cI, 48, .inl (aN cd_))), (am_ 12, .inl (cI, 48, .inl (aN so_))), (am_ 13, .inl (cI, 48, .inl (aI me_65))), (am_ 14, .inl (cI, 48, .inl (aI bf_65)))] H_ := hP_
          have hD_ : va_D A_ [(am_ 0, .inr (5, [.int (iI ((no_ : Nat) : Int)), .ref (am_ 1), .ref (am_ 2), .int (iI ((nn_ : Nat) : Int)), .ref (am_ 3), .ref (am_ 4), .int (iI (bZ bu_)), .int (iI ((k_ : Nat) : Int)), .ref (am_ 5), .ref (am_ 6), .ref (am_ 7), .ref (am_ 8), .ref (am_ 9), .ref (am_ 10), .int (iI ((cp_ : Nat) : Int)), .ref (am_ 11), .ref (am_ 12), .ref (am_ 13), .ref (am_ 14)])), (am_ 1, .inl (cI, 48, .inl (aI vo_))), (am_ 2, .inl (cZ, 48, .inl (aB fo_))), (am_ 3, .inl (cI, 48, .inl (aI vn_))), (am_ 4, .inl (cZ, 48, .inl (aB fn_))), (am_ 5, .inl (cI, 48, .inl (aN osr))), (am_ 6, .inl (cI, 48, .inl (aN nsr))), (am_ 7, .inl (cI, 48, .inl (aN lnr))), (am_ 8, .inl (cI, 48, .inl (aI ba_))), (am_ 9, .inl (cZ, 48, .inl (aB tk_))), (am_ 10, .inl (cI, 2401, .inl (aN rt_))), (am_ 11, .inl (cI, 48, .inl (aN cd_))), (am_ 12, .inl (cI, 48, .inl (aN so_))), (am_ 13, .inl (cI, 48, .inl (aI me_65))), (am_ 14, .inl (cI, 48, .inl (aI bf_65)))] := hD_
          refine lv_aload_n hx_ hb_ dX5_memoryAfter_68 rfl (lv_at hl_ 0 rfl) ?_
          refine va_get (D := G_) (ci := 5) (v := .ref (am_ 13)) (C := RX5) (T := TX5) (N := 19) hx_ hb_ hts hi5_ hown hK_ hP_ 0 rfl rfl 17 (by decide) hf47_ (fun _ h9 => h9) rfl dX5_memoryAfter_69 ?_
          refine lv_iload_n hx_ hb_ dX5_memoryAfter_72 rfl (lv_at hl_ 2 rfl) ?_
          refine q_cast (b := ((y_.toNat : Nat) : Int)) (by omega) ?_
          refine q_ildI hx_ hb_ hK_ hP_ 13 rfl (by decide) (y_.toNat) (by omega) (me_65 y_.toNat) (rfl) dX5_memoryAfter_73 ?_
          rw [← hQe]
          have hP_ : va_P G_ vwCl [(am_ 0, .inr (5, [.int (iI ((no_ : Nat) : Int)), .ref (am_ 1), .ref (am_ 2), .int (iI ((nn_ : Nat) : Int)), .ref (am_ 3), .ref (am_ 4), .int (iI (bZ bu_)), .int (iI ((kr : Nat) : Int)), .ref (am_ 5), .ref (am_ 6), .ref (am_ 7), .ref (am_ 8), .ref (am_ 9), .ref (am_ 10), .int (iI ((cp_ : Nat) : Int)), .ref (am_ 11), .ref (am_ 12), .ref (am_ 13), .ref (am_ 14)])), (am_ 1, .inl (cI, 48, .inl (aI vo_))), (am_ 2, .inl (cZ, 48, .inl (aB fo_))), (am_ 3, .inl (cI, 48, .inl (aI vn_))), (am_ 4, .inl (cZ, 48, .inl (aB fn_))), (am_ 5, .inl (cI, 48, .inl (aN osr))), (am_ 6, .inl (cI, 48, .inl (aN nsr))), (am_ 7, .inl (cI, 48, .inl (aN lnr))), (am_ 8, .inl (cI, 48, .inl (aI ba_))), (am_ 9, .inl (cZ, 48, .inl (aB tk_))), (am_ 10, .inl (cI, 2401, .inl (aN rt_))), (am_ 11, .inl (cI, 48, .inl (aN cd_))), (am_ 12, .inl (cI, 48, .inl (aN so_))), (am_ 13, .inl (cI, 48, .inl (aI me_65))), (am_ 14, .inl (cI, 48, .inl (aI bf_65)))] H_ := by rw [← hkr]; exact hP_
          exact W.iret hx_ hb_ hr (fun tt1 htt1 hWW1 => ⟨⟨_, (me_65, bf_65), rfl, ⟨congrArg iI (by show _ = A_mem bu_ no_ vo_ nn_ k_ os_ ns_ ln_ x_ y_; unfold A_mem; rw [if_pos c4_, ← hcp, if_pos (by omega), if_pos (by have hm1 : no_ ≤ Nat.max no_ nn_ := Nat.le_max_left no_ nn_; have hm2 : nn_ ≤ Nat.max no_ nn_ := Nat.le_max_right no_ nn_; have hm3 : Nat.max no_ nn_ ≤ no_ ∨ Nat.max no_ nn_ ≤ nn_ := (by rcases Nat.le_total no_ nn_ with h0_ | h0_; exact Or.inr (Nat.max_le.mpr ⟨h0_, Nat.le_refl _⟩); exact Or.inl (Nat.max_le.mpr ⟨Nat.le_refl _, h0_⟩)); omega), hu65 y_.toNat (by omega), show ((y_.toNat : Nat) : Int) = y_ from by omega]), trivial⟩, by show va_P G_ vwCl _ tt1.heap; rw [htt1]; exact hP_⟩, hS_.F htt1⟩) hS_.2.2 dX5_memoryAfter_74
        · skip
          refine lv_sipush (v := iI (-10003)) hx_ hb_ dX5_memoryAfter_59 rfl ?_
          rw [← hQe]
          have hP_ : va_P G_ vwCl [(am_ 0, .inr (5, [.int (iI ((no_ : Nat) : Int)), .ref (am_ 1), .ref (am_ 2), .int (iI ((nn_ : Nat) : Int)), .ref (am_ 3), .ref (am_ 4), .int (iI (bZ bu_)), .int (iI ((kr : Nat) : Int)), .ref (am_ 5), .ref (am_ 6), .ref (am_ 7), .ref (am_ 8), .ref (am_ 9), .ref (am_ 10), .int (iI ((cp_ : Nat) : Int)), .ref (am_ 11), .ref (am_ 12), .ref (am_ 13), .ref (am_ 14)])), (am_ 1, .inl (cI, 48, .inl (aI vo_))), (am_ 2, .inl (cZ, 48, .inl (aB fo_))), (am_ 3, .inl (cI, 48, .inl (aI vn_))), (am_ 4, .inl (cZ, 48, .inl (aB fn_))), (am_ 5, .inl (cI, 48, .inl (aN osr))), (am_ 6, .inl (cI, 48, .inl (aN nsr))), (am_ 7, .inl (cI, 48, .inl (aN lnr))), (am_ 8, .inl (cI, 48, .inl (aI ba_))), (am_ 9, .inl (cZ, 48, .inl (aB tk_))), (am_ 10, .inl (cI, 2401, .inl (aN rt_))), (am_ 11, .inl (cI, 48, .inl (aN cd_))), (am_ 12, .inl (cI, 48, .inl (aN so_))), (am_ 13, .inl (cI, 48, .inl (aI me_))), (am_ 14, .inl (cI, 48, .inl (aI bf_)))] s_.heap := by rw [← hkr]; exact hP_
          exact W.iret hx_ hb_ hr (fun tt1 htt1 hWW1 => ⟨⟨_, (me_, bf_), rfl, ⟨congrArg iI (by show _ = A_mem bu_ no_ vo_ nn_ k_ os_ ns_ ln_ x_ y_; unfold A_mem; rw [if_pos c4_, ← hcp, if_pos (by omega), if_neg (by have hm1 : no_ ≤ Nat.max no_ nn_ := Nat.le_max_left no_ nn_; have hm2 : nn_ ≤ Nat.max no_ nn_ := Nat.le_max_right no_ nn_; have hm3 : Nat.max no_ nn_ ≤ no_ ∨ Nat.max no_ nn_ ≤ nn_ := (by rcases Nat.le_total no_ nn_ with h0_ | h0_; exact Or.inr (Nat.max_le.mpr ⟨h0_, Nat.le_refl _⟩); exact Or.inl (Nat.max_le.mpr ⟨Nat.le_refl _, h0_⟩)); omega)]), trivial⟩, by show va_P G_ vwCl _ tt1.heap; rw [htt1]; exact hP_⟩, hS_.F htt1⟩) hS_.2.2 dX5_memoryAfter_62
    · skip
      refine lv_sipush (v := iI (-10001)) hx_ hb_ dX5_memoryAfter_23 rfl ?_
      rw [← hQe]
      have hP_ : va_P G_ vwCl [(am_ 0, .inr (5, [.int (iI ((no_ : Nat) : Int)), .ref (am_ 1), .ref (am_ 2), .int (iI ((nn_ : Nat) : Int)), .ref (am_ 3), .ref (am_ 4), .int (iI (bZ bu_)), .int (iI ((kr : Nat) : Int)), .ref (am_ 5), .ref (am_ 6), .ref (am_ 7), .ref (am_ 8), .ref (am_ 9), .ref (am_ 10), .int (iI ((cp_ : Nat) : Int)), .ref (am_ 11), .ref (am_ 12), .ref (am_ 13), .ref (am_ 14)])), (am_ 1, .inl (cI, 48, .inl (aI vo_))), (am_ 2, .inl (cZ, 48, .inl (aB fo_))), (am_ 3, .inl (cI, 48, .inl (aI vn_))), (am_ 4, .inl (cZ, 48, .inl (aB fn_))), (am_ 5, .inl (cI, 48, .inl (aN osr))), (am_ 6, .inl (cI, 48, .inl (aN nsr))), (am_ 7, .inl (cI, 48, .inl (aN lnr))), (am_ 8, .inl (cI, 48, .inl (aI ba_))), (am_ 9, .inl (cZ, 48, .inl (aB tk_))), (am_ 10, .inl (cI, 2401, .inl (aN rt_))), (am_ 11, .inl (cI, 48, .inl (aN cd_))), (am_ 12, .inl (cI, 48, .inl (aN so_))), (am_ 13, .inl (cI, 48, .inl (aI me_))), (am_ 14, .inl (cI, 48, .inl (aI bf_)))] s_.heap := by rw [← hkr]; exact hP_
      exact W.iret hx_ hb_ hr (fun tt1 htt1 hWW1 => ⟨⟨_, (me_, bf_), rfl, ⟨congrArg iI (by show _ = A_mem bu_ no_ vo_ nn_ k_ os_ ns_ ln_ x_ y_; unfold A_mem; rw [if_pos c4_, ← hcp, if_neg (by omega)]), trivial⟩, by show va_P G_ vwCl _ tt1.heap; rw [htt1]; exact hP_⟩, hS_.F htt1⟩) hS_.2.2 dX5_memoryAfter_26
  · skip
    refine lv_sipush (v := iI (-10004)) hx_ hb_ dX5_memoryAfter_7 rfl ?_
    rw [← hQe]
    exact W.iret hx_ hb_ hr (fun tt1 htt1 hWW1 => ⟨⟨_, (me_, bf_), rfl, ⟨congrArg iI (by show _ = A_mem bu_ no_ vo_ nn_ k_ os_ ns_ ln_ x_ y_; unfold A_mem; exact if0 c4_), trivial⟩, by show va_P G_ vwCl _ tt1.heap; rw [htt1]; exact hP_⟩, hS_.F htt1⟩) hS_.2.2 dX5_memoryAfter_10

set_option maxHeartbeats 4000000 in
set_option maxRecDepth 100000 in
/-- patchedValue -/
theorem c_X5_patchedValue (l_ : Launch) (G_ : va_G) (cI cZ : ClassId) (am_ : Nat → Nat) (bu_ : Bool) (no_ : Nat) (vo_ : Nat → Int) (fo_ : Nat → Bool) (nn_ : Nat) (vn_ : Nat → Int) (fn_ : Nat → Bool) (kr : Nat) (osr nsr lnr : Nat → Nat) (ba_ : Nat → Int) (tk_ : Nat → Bool) (rt_ : Nat → Nat) (cp_ : Nat) (cd_ so_ : Nat → Nat) (me_ bf_ : Nat → Int) (k_ : Nat) (os_ ns_ ln_ : Nat → Nat) (x_ : Int) (hno : no_ ≤ 48) (hnn : nn_ ≤ 48) (hvo : ∀ j_, 0 ≤ vo_ j_ ∧ vo_ j_ ≤ 9999) (hvn : ∀ j_, 0 ≤ vn_ j_ ∧ vn_ j_ ≤ 9999) (hmb : bu_ = true → k_ = kr ∧ MdI no_ nn_ k_ os_ ns_ ln_ osr nsr lnr ba_ cp_ cd_ so_) (hx1 : -2147483648 ≤ x_) (hx2 : x_ < 2147483648) (sz : Nat) : WrI (S := (Nat → Int) × (Nat → Int)) l_ yX5_patchedValue wsX5_patchedValue ({ frames := 3, cells := 0, slots := 0, locals := 67 }) G_ cI cZ [.ref (am_ 0), .int (iI (x_))] (wMd cI cZ am_ bu_ no_ vo_ fo_ nn_ vn_ fn_ kr osr nsr lnr ba_ tk_ rt_ cp_ cd_ so_ me_ bf_) sz (fun _ => A_pat bu_ no_ vo_ fo_ nn_ vn_ k_ os_ ns_ ln_ x_) (fun _ => True) (fun u_ => wMd cI cZ am_ bu_ no_ vo_ fo_ nn_ vn_ fn_ kr osr nsr lnr ba_ tk_ rt_ cp_ cd_ so_ u_.1 u_.2) := by
  refine Met.ofW (cc := cX5_patchedValue) (maxL := 2) (ret := (some .int)) (by decide) rfl ?_
  intro p_ e_ s_ m_ args below meth c_ s₁ B hml hv
  obtain ⟨hargs, hsz, hP_, hK_, hD0⟩ := hv
  have hx_ := B.exec
  have hb_ := B.bytes
  have hr := B.returns
  have hts := atoms_spec (ws := wsX5_patchedValue) B.pre
  have hown : s_.vm.findClass RX5 = some m_.cls := findClass_of_methodNamed B.named
  have hlocks := B.notSynchronized
  have hi5_ : ∀ w_ ∈ wsX50, w_ ∈ wsX5_patchedValue := by decide +kernel
  have hf13_ := hts (.fieldLink RX5 13 "RelocatingPatchModel" "oldAddress" "[Z") (by decide +kernel)
  have hf17_ := hts (.fieldLink RX5 17 "RelocatingPatchModel" "newValues" "[I") (by decide +kernel)
  have hf47_ := hts (.fieldLink RX5 47 "RelocatingPatchModel" "memory" "[I") (by decide +kernel)
  have hf53_ := hts (.fieldLink RX5 53 "RelocatingPatchModel" "isBuilt" "Z") (by decide +kernel)
  have hf125_ := hts (.fieldLink RX5 125 "RelocatingPatchModel" "copies" "I") (by decide +kernel)
  subst hsz
  have hD_ := hD0.self (sz := s_.heap.size)
  generalize hAe : va_A (wMd cI cZ am_ bu_ no_ vo_ fo_ nn_ vn_ fn_ kr osr nsr lnr ba_ tk_ rt_ cp_ cd_ so_ me_ bf_) s_.heap.size = A_ at hD_ ⊢
  have hA_ : ∀ q_ : Nat, s_.heap.size ≤ q_ → A_ q_ := fun q_ h_ => by rw [← hAe]; exact Or.inr h_
  have hS_ : va_S A_ s_.heap s_.heap [] := va_S.rf
  have hP_ : va_P G_ vwCl [(am_ 0, .inr (5, [.int (iI ((no_ : Nat) : Int)), .ref (am_ 1), .ref (am_ 2), .int (iI ((nn_ : Nat) : Int)), .ref (am_ 3), .ref (am_ 4), .int (iI (bZ bu_)), .int (iI ((kr : Nat) : Int)), .ref (am_ 5), .ref (am_ 6), .ref (am_ 7), .ref (am_ 8), .ref (am_ 9), .ref (am_ 10), .int (iI ((cp_ : Nat) : Int)), .ref (am_ 11), .ref (am_ 12), .ref (am_ 13), .ref (am_ 14)])), (am_ 1, .inl (cI, 48, .inl (aI vo_))), (am_ 2, .inl (cZ, 48, .inl (aB fo_))), (am_ 3, .inl (cI, 48, .inl (aI vn_))), (am_ 4, .inl (cZ, 48, .inl (aB fn_))), (am_ 5, .inl (cI, 48, .inl (aN osr))), (am_ 6, .inl (cI, 48, .inl (aN nsr))), (am_ 7, .inl (cI, 48, .inl (aN lnr))), (am_ 8, .inl (cI, 48, .inl (aI ba_))), (am_ 9, .inl (cZ, 48, .inl (aB tk_))), (am_ 10, .inl (cI, 2401, .inl (aN rt_))), (am_ 11, .inl (cI, 48, .inl (aN cd_))), (am_ 12, .inl (cI, 48, .inl (aN so_))), (am_ 13, .inl (cI, 48, .inl (aI me_))), (am_ 14, .inl (cI, 48, .inl (aI bf_)))] s_.heap := hP_
  have hD_ : va_D A_ [(am_ 0, .inr (5, [.int (iI ((no_ : Nat) : Int)), .ref (am_ 1), .ref (am_ 2), .int (iI ((nn_ : Nat) : Int)), .ref (am_ 3), .ref (am_ 4), .int (iI (bZ bu_)), .int (iI ((kr : Nat) : Int)), .ref (am_ 5), .ref (am_ 6), .ref (am_ 7), .ref (am_ 8), .ref (am_ 9), .ref (am_ 10), .int (iI ((cp_ : Nat) : Int)), .ref (am_ 11), .ref (am_ 12), .ref (am_ 13), .ref (am_ 14)])), (am_ 1, .inl (cI, 48, .inl (aI vo_))), (am_ 2, .inl (cZ, 48, .inl (aB fo_))), (am_ 3, .inl (cI, 48, .inl (aI vn_))), (am_ 4, .inl (cZ, 48, .inl (aB fn_))), (am_ 5, .inl (cI, 48, .inl (aN osr))), (am_ 6, .inl (cI, 48, .inl (aN nsr))), (am_ 7, .inl (cI, 48, .inl (aN lnr))), (am_ 8, .inl (cI, 48, .inl (aI ba_))), (am_ 9, .inl (cZ, 48, .inl (aB tk_))), (am_ 10, .inl (cI, 2401, .inl (aN rt_))), (am_ 11, .inl (cI, 48, .inl (aN cd_))), (am_ 12, .inl (cI, 48, .inl (aN so_))), (am_ 13, .inl (cI, 48, .inl (aI me_))), (am_ 14, .inl (cI, 48, .inl (aI bf_)))] := hD_
  generalize hQe : MQ below (va_Qi (S := (Nat → Int) × (Nat → Int)) (fun r1_ u1 => r1_ = iI ((fun _ => A_pat bu_ no_ vo_ fo_ nn_ vn_ k_ os_ ns_ ln_ x_) u1) ∧ (fun _ => True) u1) (fun u1 t1 => va_P G_ vwCl ((fun u_ => wMd cI cZ am_ bu_ no_ vo_ fo_ nn_ vn_ fn_ kr osr nsr lnr ba_ tk_ rt_ cp_ cd_ so_ u_.1 u_.2) u1) t1.heap) A_) args s_ 0 0 A_ = Q_
  rw [show entryFrame m_ args 2 = entryFrame m_ ([.ref (am_ 0), .int (iI (x_))] : List Value).toArray 2 from by rw [hargs], lg_entry_eq]
  have hl_ := lv_entry ([.ref (am_ 0), .int (iI (x_))]) (n := 2) (Nat.le_of_ble_eq_true rfl)
  generalize (lg_sl ([.ref (am_ 0), .int (iI (x_))]) ++ List.replicate (2 - (lg_sl ([.ref (am_ 0), .int (iI (x_))])).length) Slot.unset).toArray = ls_ at hl_ ⊢
  have hl_ : lv_has ls_ 2 [(0, .ref (am_ 0)), (1, .int (iI (x_)))] := hl_
  refine lv_aload_n hx_ hb_ dX5_patchedValue_0 rfl (lv_at hl_ 0 rfl) ?_
  refine va_get (D := G_) (ci := 5) (v := .int (iI (bZ bu_))) (C := RX5) (T := TX5) (N := 19) hx_ hb_ hts hi5_ hown hK_ hP_ 0 rfl rfl 6 (by decide) hf53_ (fun _ h9 => h9) rfl dX5_patchedValue_1 ?_
  refine q_bt (tgt := 11) hx_ hb_ dX5_patchedValue_4 (by decide) (fun c4_ => ?_) (fun c4_ => ?_)
  · skip
    obtain ⟨hkr, hmd⟩ := hmb c4_
    have hmd0 := hmd
    obtain ⟨hk_, hB_, hgd, ha_, hba, hso, hcp, hcd⟩ := hmd0
    have hcl : cp_ ≤ 48 := by rw [hcp]; exact Nat.le_trans (its_ok k_ os_ ns_ ln_ k_).1 hk_
    have hP_ : va_P G_ vwCl [(am_ 0, .inr (5, [.int (iI ((no_ : Nat) : Int)), .ref (am_ 1), .ref (am_ 2), .int (iI ((nn_ : Nat) : Int)), .ref (am_ 3), .ref (am_ 4), .int (iI (bZ bu_)), .int (iI ((k_ : Nat) : Int)), .ref (am_ 5), .ref (am_ 6), .ref (am_ 7), .ref (am_ 8), .ref (am_ 9), .ref (am_ 10), .int (iI ((cp_ : Nat) : Int)), .ref (am_ 11), .ref (am_ 12), .ref (am_ 13), .ref (am_ 14)])), (am_ 1, .inl (cI, 48, .inl (aI vo_))), (am_ 2, .inl (cZ, 48, .inl (aB fo_))), (am_ 3, .inl (cI, 48, .inl (aI vn_))), (am_ 4, .inl (cZ, 48, .inl (aB fn_))), (am_ 5, .inl (cI, 48, .inl (aN osr))), (am_ 6, .inl (cI, 48, .inl (aN nsr))), (am_ 7, .inl (cI, 48, .inl (aN lnr))), (am_ 8, .inl (cI, 48, .inl (aI ba_))), (am_ 9, .inl (cZ, 48, .inl (aB tk_))), (am_ 10, .inl (cI, 2401, .inl (aN rt_))), (am_ 11, .inl (cI, 48, .inl (aN cd_))), (am_ 12, .inl (cI, 48, .inl (aN so_))), (am_ 13, .inl (cI, 48, .inl (aI me_))), (am_ 14, .inl (cI, 48, .inl (aI bf_)))] s_.heap := by rw [hkr]; exact hP_
    have hD_ : va_D A_ [(am_ 0, .inr (5, [.int (iI ((no_ : Nat) : Int)), .ref (am_ 1), .ref (am_ 2), .int (iI ((nn_ : Nat) : Int)), .ref (am_ 3), .ref (am_ 4), .int (iI (bZ bu_)), .int (iI ((k_ : Nat) : Int)), .ref (am_ 5), .ref (am_ 6), .ref (am_ 7), .ref (am_ 8), .ref (am_ 9), .ref (am_ 10), .int (iI ((cp_ : Nat) : Int)), .ref (am_ 11), .ref (am_ 12), .ref (am_ 13), .ref (am_ 14)])), (am_ 1, .inl (cI, 48, .inl (aI vo_))), (am_ 2, .inl (cZ, 48, .inl (aB fo_))), (am_ 3, .inl (cI, 48, .inl (aI vn_))), (am_ 4, .inl (cZ, 48, .inl (aB fn_))), (am_ 5, .inl (cI, 48, .inl (aN osr))), (am_ 6, .inl (cI, 48, .inl (aN nsr))), (am_ 7, .inl (cI, 48, .inl (aN lnr))), (am_ 8, .inl (cI, 48, .inl (aI ba_))), (am_ 9, .inl (cZ, 48, .inl (aB tk_))), (am_ 10, .inl (cI, 2401, .inl (aN rt_))), (am_ 11, .inl (cI, 48, .inl (aN cd_))), (am_ 12, .inl (cI, 48, .inl (aN so_))), (am_ 13, .inl (cI, 48, .inl (aI me_))), (am_ 14, .inl (cI, 48, .inl (aI bf_)))] := by rw [hkr]; exact hD_
    refine lv_aload_n hx_ hb_ dX5_patchedValue_11 rfl (lv_at hl_ 0 rfl) ?_
    refine lv_iload_n hx_ hb_ dX5_patchedValue_12 rfl (lv_at hl_ 1 rfl) ?_
    refine ro_V (As := [.int (iI (x_))]) (rest := []) ⟨hx_, hb_, hml, hown, hts⟩ (c_X5_isNew l_ G_ cI cZ am_ bu_ no_ vo_ fo_ nn_ vn_ fn_ k_ osr nsr lnr ba_ tk_ rt_ cp_ cd_ so_ me_ bf_ (x_) (by omega) (by omega) (by omega)) (cwV 1 hts gX5_patchedValue_X5_isNew rfl rfl rfl (by decide +kernel) ⟨Nat.le_of_ble_eq_true rfl, Nat.le_of_ble_eq_true rfl⟩) (hP_.sub (ws' := [(am_ 0, .inr (5, [.int (iI ((no_ : Nat) : Int)), .ref (am_ 1), .ref (am_ 2), .int (iI ((nn_ : Nat) : Int)), .ref (am_ 3), .ref (am_ 4), .int (iI (bZ bu_)), .int (iI ((k_ : Nat) : Int)), .ref (am_ 5), .ref (am_ 6), .ref (am_ 7), .ref (am_ 8), .ref (am_ 9), .ref (am_ 10), .int (iI ((cp_ : Nat) : Int)), .ref (am_ 11), .ref (am_ 12), .ref (am_ 13), .ref (am_ 14)])), (am_ 1, .inl (cI, 48, .inl (aI vo_))), (am_ 2, .inl (cZ, 48, .inl (aB fo_))), (am_ 3, .inl (cI, 48, .inl (aI vn_))), (am_ 4, .inl (cZ, 48, .inl (aB fn_))), (am_ 5, .inl (cI, 48, .inl (aN osr))), (am_ 6, .inl (cI, 48, .inl (aN nsr))), (am_ 7, .inl (cI, 48, .inl (aN lnr))), (am_ 8, .inl (cI, 48, .inl (aI ba_))), (am_ 9, .inl (cZ, 48, .inl (aB tk_))), (am_ 10, .inl (cI, 2401, .inl (aN rt_))), (am_ 11, .inl (cI, 48, .inl (aN cd_))), (am_ 12, .inl (cI, 48, .inl (aN so_))), (am_ 13, .inl (cI, 48, .inl (aI me_))), (am_ 14, .inl (cI, 48, .inl (aI bf_)))]) [0, 1, 2, 3, 4, 5, 6, 7, 8, 9, 10, 11, 12, 13, 14] rfl) hK_ 0 rfl rfl rfl hl_.1 rfl (Nat.le_of_ble_eq_true rfl) dX5_patchedValue_13 ⟨Nat.zero_le _, Nat.zero_le _⟩ ?_
    refine q_dt (tgt := 23) hx_ hb_ dX5_patchedValue_16 (by decide) (fun c16_ => ?_) (fun c16_ => ?_)
    · skip
      refine lv_aload_n hx_ hb_ dX5_patchedValue_23 rfl (lv_at hl_ 0 rfl) ?_
      refine lv_iload_n hx_ hb_ dX5_patchedValue_24 rfl (lv_at hl_ 1 rfl) ?_
      refine q_cast (b := ((x_.toNat : Nat) : Int)) (by omega) ?_
      refine ro_V (As := [.int (iI ((x_.toNat : Nat) : Int))]) (rest := []) ⟨hx_, hb_, hml, hown, hts⟩ (c_X5_isCopied l_ G_ cI cZ am_ bu_ no_ vo_ fo_ nn_ vn_ fn_ k_ osr nsr lnr ba_ tk_ rt_ cp_ cd_ so_ me_ bf_ os_ ns_ ln_ x_.toNat hno hnn hvo hvn hmd (by omega)) (cwV 1 hts gX5_patchedValue_X5_isCopied rfl rfl rfl (by decide +kernel) ⟨Nat.le_of_ble_eq_true rfl, Nat.le_of_ble_eq_true rfl⟩) (hP_.sub (ws' := [(am_ 0, .inr (5, [.int (iI ((no_ : Nat) : Int)), .ref (am_ 1), .ref (am_ 2), .int (iI ((nn_ : Nat) : Int)), .ref (am_ 3), .ref (am_ 4), .int (iI (bZ bu_)), .int (iI ((k_ : Nat) : Int)), .ref (am_ 5), .ref (am_ 6), .ref (am_ 7), .ref (am_ 8), .ref (am_ 9), .ref (am_ 10), .int (iI ((cp_ : Nat) : Int)), .ref (am_ 11), .ref (am_ 12), .ref (am_ 13), .ref (am_ 14)])), (am_ 1, .inl (cI, 48, .inl (aI vo_))), (am_ 2, .inl (cZ, 48, .inl (aB fo_))), (am_ 3, .inl (cI, 48, .inl (aI vn_))), (am_ 4, .inl (cZ, 48, .inl (aB fn_))), (am_ 5, .inl (cI, 48, .inl (aN osr))), (am_ 6, .inl (cI, 48, .inl (aN nsr))), (am_ 7, .inl (cI, 48, .inl (aN lnr))), (am_ 8, .inl (cI, 48, .inl (aI ba_))), (am_ 9, .inl (cZ, 48, .inl (aB tk_))), (am_ 10, .inl (cI, 2401, .inl (aN rt_))), (am_ 11, .inl (cI, 48, .inl (aN cd_))), (am_ 12, .inl (cI, 48, .inl (aN so_))), (am_ 13, .inl (cI, 48, .inl (aI me_))), (am_ 14, .inl (cI, 48, .inl (aI bf_)))]) [0, 1, 2, 3, 4, 5, 6, 7, 8, 9, 10, 11, 12, 13, 14] rfl) hK_ 0 rfl rfl rfl hl_.1 rfl (Nat.le_of_ble_eq_true rfl) dX5_patchedValue_25 ⟨Nat.zero_le _, Nat.zero_le _⟩ ?_
      refine q_bf (tgt := 39) hx_ hb_ dX5_patchedValue_28 (by decide) (fun c28_ => ?_) (fun c28_ => ?_)
      · skip
        refine lv_aload_n hx_ hb_ dX5_patchedValue_39 rfl (lv_at hl_ 0 rfl) ?_
        refine va_get (D := G_) (ci := 5) (v := .ref (am_ 3)) (C := RX5) (T := TX5) (N := 19) hx_ hb_ hts hi5_ hown hK_ hP_ 0 rfl rfl 4 (by decide) hf17_ (fun _ h9 => h9) rfl dX5_patchedValue_40 ?_
        refine lv_iload_n hx_ hb_ dX5_patchedValue_43 rfl (lv_at hl_ 1 rfl) ?_
        refine q_cast (b := ((x_.toNat : Nat) : Int)) (by omega) ?_
        refine q_ildI hx_ hb_ hK_ hP_ 3 rfl (by decide) (x_.toNat) (by omega) (vn_ x_.toNat) (rfl) dX5_patchedValue_44 ?_
        rw [← hQe]
        have hP_ : va_P G_ vwCl [(am_ 0, .inr (5, [.int (iI ((no_ : Nat) : Int)), .ref (am_ 1), .ref (am_ 2), .int (iI ((nn_ : Nat) : Int)), .ref (am_ 3), .ref (am_ 4), .int (iI (bZ bu_)), .int (iI ((kr : Nat) : Int)), .ref (am_ 5), .ref (am_ 6), .ref (am_ 7), .ref (am_ 8), .ref (am_ 9), .ref (am_ 10), .int (iI ((cp_ : Nat) : Int)), .ref (am_ 11), .ref (am_ 12), .ref (am_ 13), .ref (am_ 14)])), (am_ 1, .inl (cI, 48, .inl (aI vo_))), (am_ 2, .inl (cZ, 48, .inl (aB fo_))), (am_ 3, .inl (cI, 48, .inl (aI vn_))), (am_ 4, .inl (cZ, 48, .inl (aB fn_))), (am_ 5, .inl (cI, 48, .inl (aN osr))), (am_ 6, .inl (cI, 48, .inl (aN nsr))), (am_ 7, .inl (cI, 48, .inl (aN lnr))), (am_ 8, .inl (cI, 48, .inl (aI ba_))), (am_ 9, .inl (cZ, 48, .inl (aB tk_))), (am_ 10, .inl (cI, 2401, .inl (aN rt_))), (am_ 11, .inl (cI, 48, .inl (aN cd_))), (am_ 12, .inl (cI, 48, .inl (aN so_))), (am_ 13, .inl (cI, 48, .inl (aI me_))), (am_ 14, .inl (cI, 48, .inl (aI bf_)))] s_.heap := by rw [← hkr]; exact hP_
        exact W.iret hx_ hb_ hr (fun tt1 htt1 hWW1 => ⟨⟨_, (me_, bf_), rfl, ⟨congrArg iI (by show _ = A_pat bu_ no_ vo_ fo_ nn_ vn_ k_ os_ ns_ ln_ x_; unfold A_pat; rw [if_pos c4_, if_pos c16_, if_neg (by rw [c28_]; simp)]), trivial⟩, by show va_P G_ vwCl _ tt1.heap; rw [htt1]; exact hP_⟩, hS_.F htt1⟩) hS_.2.2 dX5_patchedValue_45
      · skip
        refine lv_aload_n hx_ hb_ dX5_patchedValue_31 rfl (lv_at hl_ 0 rfl) ?_
        refine lv_iload_n hx_ hb_ dX5_patchedValue_32 rfl (lv_at hl_ 1 rfl) ?_
        refine q_cast (b := ((x_.toNat : Nat) : Int)) (by omega) ?_
        refine ro_V (As := [.int (iI ((x_.toNat : Nat) : Int))]) (rest := []) ⟨hx_, hb_, hml, hown, hts⟩ (c_X5_isCorrected l_ G_ cI cZ am_ bu_ no_ vo_ fo_ nn_ vn_ fn_ k_ osr nsr lnr ba_ tk_ rt_ cp_ cd_ so_ me_ bf_ os_ ns_ ln_ x_.toNat hno hnn hvo hvn hmd (by omega)) (cwV 1 hts gX5_patchedValue_X5_isCorrected rfl rfl rfl (by decide +kernel) ⟨Nat.le_of_ble_eq_true rfl, Nat.le_of_ble_eq_true rfl⟩) (hP_.sub (ws' := [(am_ 0, .inr (5, [.int (iI ((no_ : Nat) : Int)), .ref (am_ 1), .ref (am_ 2), .int (iI ((nn_ : Nat) : Int)), .ref (am_ 3), .ref (am_ 4), .int (iI (bZ bu_)), .int (iI ((k_ : Nat) : Int)), .ref (am_ 5), .ref (am_ 6), .ref (am_ 7), .ref (am_ 8), .ref (am_ 9), .ref (am_ 10), .int (iI ((cp_ : Nat) : Int)), .ref (am_ 11), .ref (am_ 12), .ref (am_ 13), .ref (am_ 14)])), (am_ 1, .inl (cI, 48, .inl (aI vo_))), (am_ 2, .inl (cZ, 48, .inl (aB fo_))), (am_ 3, .inl (cI, 48, .inl (aI vn_))), (am_ 4, .inl (cZ, 48, .inl (aB fn_))), (am_ 5, .inl (cI, 48, .inl (aN osr))), (am_ 6, .inl (cI, 48, .inl (aN nsr))), (am_ 7, .inl (cI, 48, .inl (aN lnr))), (am_ 8, .inl (cI, 48, .inl (aI ba_))), (am_ 9, .inl (cZ, 48, .inl (aB tk_))), (am_ 10, .inl (cI, 2401, .inl (aN rt_))), (am_ 11, .inl (cI, 48, .inl (aN cd_))), (am_ 12, .inl (cI, 48, .inl (aN so_))), (am_ 13, .inl (cI, 48, .inl (aI me_))), (am_ 14, .inl (cI, 48, .inl (aI bf_)))]) [0, 1, 2, 3, 4, 5, 6, 7, 8, 9, 10, 11, 12, 13, 14] rfl) hK_ 0 rfl rfl rfl hl_.1 rfl (Nat.le_of_ble_eq_true rfl) dX5_patchedValue_33 ⟨Nat.zero_le _, Nat.zero_le _⟩ ?_
        refine q_bf (tgt := 46) hx_ hb_ dX5_patchedValue_36 (by decide) (fun c36_ => ?_) (fun c36_ => ?_)
        · skip
          have hbx : bx k_ ns_ ln_ x_.toNat < k_ := by have h0_ := c28_; unfold isc at h0_; simp at h0_; exact h0_.1
          have hbi := bx_in hgd hbx
          refine lv_aload_n hx_ hb_ dX5_patchedValue_46 rfl (lv_at hl_ 0 rfl) ?_
          refine lv_aload_n hx_ hb_ dX5_patchedValue_47 rfl (lv_at hl_ 0 rfl) ?_
          refine va_get (D := G_) (ci := 5) (v := .int (iI ((cp_ : Nat) : Int))) (C := RX5) (T := TX5) (N := 19) hx_ hb_ hts hi5_ hown hK_ hP_ 0 rfl rfl 14 (by decide) hf125_ (fun _ h9 => h9) rfl dX5_patchedValue_48 ?_
          refine wr_V (As := [.int (iI ((cp_ : Nat) : Int))]) (rest := []) (wr := []) (wn := fun u_ => [(am_ 0, .inr (5, [.int (iI ((no_ : Nat) : Int)), .ref (am_ 1), .ref (am_ 2), .int (iI ((nn_ : Nat) : Int)), .ref (am_ 3), .ref (am_ 4), .int (iI (bZ bu_)), .int (iI ((k_ : Nat) : Int)), .ref (am_ 5), .ref (am_ 6), .ref (am_ 7), .ref (am_ 8), .ref (am_ 9), .ref (am_ 10), .int (iI ((cp_ : Nat) : Int)), .ref (am_ 11), .ref (am_ 12), .ref (am_ 13), .ref (am_ 14)])), (am_ 1, .inl (cI, 48, .inl (aI vo_))), (am_ 2, .inl (cZ, 48, .inl (aB fo_))), (am_ 3, .inl (cI, 48, .inl (aI vn_))), (am_ 4, .inl (cZ, 48, .inl (aB fn_))), (am_ 5, .inl (cI, 48, .inl (aN osr))), (am_ 6, .inl (cI, 48, .inl (aN nsr))), (am_ 7, .inl (cI, 48, .inl (aN lnr))), (am_ 8, .inl (cI, 48, .inl (aI ba_))), (am_ 9, .inl (cZ, 48, .inl (aB tk_))), (am_ 10, .inl (cI, 2401, .inl (aN rt_))), (am_ 11, .inl (cI, 48, .inl (aN cd_))), (am_ 12, .inl (cI, 48, .inl (aN so_))), (am_ 13, .inl (cI, 48, .inl (aI u_.1))), (am_ 14, .inl (cI, 48, .inl (aI u_.2)))]) ⟨hx_, hb_, hml, hown, hts⟩ (c_X5_plays l_ G_ cI cZ am_ bu_ no_ vo_ fo_ nn_ vn_ fn_ k_ osr nsr lnr ba_ tk_ rt_ cp_ cd_ so_ me_ bf_ os_ ns_ ln_ cp_ hno hnn hvo hvn hmd (by omega) s_.heap.size) (cwV 1 hts gX5_patchedValue_X5_plays rfl rfl rfl (by decide +kernel) ⟨Nat.le_of_ble_eq_true rfl, Nat.le_of_ble_eq_true rfl⟩) hP_ hK_ hD_ hS_ hA_ [0, 1, 2, 3, 4, 5, 6, 7, 8, 9, 10, 11, 12, 13, 14] [] [0, 1, 2, 3, 4, 5, 6, 7, 8, 9, 10, 11, 12, 13, 14] rfl rfl (by decide) (fun _ => rfl) (fun _ => rfl) 0 rfl rfl rfl hl_.1 rfl (Nat.le_of_ble_eq_true rfl) dX5_patchedValue_51 ⟨Nat.zero_le _, Nat.zero_le _⟩ (fun u_ H_ locs hu51 hP_ hD_ hS_ => ?_)
          obtain ⟨me_51, bf_51⟩ := u_
          try dsimp only at hu51
          have hP_ : va_P G_ vwCl [(am_ 0, .inr (5, [.int (iI ((no_ : Nat) : Int)), .ref (am_ 1), .ref (am_ 2), .int (iI ((nn_ : Nat) : Int)), .ref (am_ 3), .ref (am_ 4), .int (iI (bZ bu_)), .int (iI ((k_ : Nat) : Int)), .ref (am_ 5), .ref (am_ 6), .ref (am_ 7), .ref (am_ 8), .ref (am_ 9), .ref (am_ 10), .int (iI ((cp_ : Nat) : Int)), .ref (am_ 11), .ref (am_ 12), .ref (am_ 13), .ref (am_ 14)])), (am_ 1, .inl (cI, 48, .inl (aI vo_))), (am_ 2, .inl (cZ, 48, .inl (aB fo_))), (am_ 3, .inl (cI, 48, .inl (aI vn_))), (am_ 4, .inl (cZ, 48, .inl (aB fn_))), (am_ 5, .inl (cI, 48, .inl (aN osr))), (am_ 6, .inl (cI, 48, .inl (aN nsr))), (am_ 7, .inl (cI, 48, .inl (aN lnr))), (am_ 8, .inl (cI, 48, .inl (aI ba_))), (am_ 9, .inl (cZ, 48, .inl (aB tk_))), (am_ 10, .inl (cI, 2401, .inl (aN rt_))), (am_ 11, .inl (cI, 48, .inl (aN cd_))), (am_ 12, .inl (cI, 48, .inl (aN so_))), (am_ 13, .inl (cI, 48, .inl (aI me_51))), (am_ 14, .inl (cI, 48, .inl (aI bf_51)))] H_ := hP_
          have hD_ : va_D A_ [(am_ 0, .inr (5, [.int (iI ((no_ : Nat) : Int)), .ref (am_ 1), .ref (am_ 2), .int (iI ((nn_ : Nat) : Int)), .ref (am_ 3), .ref (am_ 4), .int (iI (bZ bu_)), .int (iI ((k_ : Nat) : Int)), .ref (am_ 5), .ref (am_ 6), .ref (am_ 7), .ref (am_ 8), .ref (am_ 9), .ref (am_ 10), .int (iI ((cp_ : Nat) : Int)), .ref (am_ 11), .ref (am_ 12), .ref (am_ 13), .ref (am_ 14)])), (am_ 1, .inl (cI, 48, .inl (aI vo_))), (am_ 2, .inl (cZ, 48, .inl (aB fo_))), (am_ 3, .inl (cI, 48, .inl (aI vn_))), (am_ 4, .inl (cZ, 48, .inl (aB fn_))), (am_ 5, .inl (cI, 48, .inl (aN osr))), (am_ 6, .inl (cI, 48, .inl (aN nsr))), (am_ 7, .inl (cI, 48, .inl (aN lnr))), (am_ 8, .inl (cI, 48, .inl (aI ba_))), (am_ 9, .inl (cZ, 48, .inl (aB tk_))), (am_ 10, .inl (cI, 2401, .inl (aN rt_))), (am_ 11, .inl (cI, 48, .inl (aN cd_))), (am_ 12, .inl (cI, 48, .inl (aN so_))), (am_ 13, .inl (cI, 48, .inl (aI me_51))), (am_ 14, .inl (cI, 48, .inl (aI bf_51)))] := hD_
          have hxm := hu51 x_.toNat (by omega)
          rw [show ((x_.toNat : Nat) : Int) = x_ from by omega] at hxm
          have fv5 := vAt_R (no := no_) (x := org (its k_ os_ ns_ ln_ k_).2.1 os_ ns_ ln_ cp_ x_) hvo
          rw [← hxm] at fv5
          refine lv_aload_n hx_ hb_ dX5_patchedValue_54 rfl (lv_at hl_ 0 rfl) ?_
          refine va_get (D := G_) (ci := 5) (v := .ref (am_ 2)) (C := RX5) (T := TX5) (N := 19) hx_ hb_ hts hi5_ hown hK_ hP_ 0 rfl rfl 2 (by decide) hf13_ (fun _ h9 => h9) rfl dX5_patchedValue_55 ?_
          refine lv_aload_n hx_ hb_ dX5_patchedValue_58 rfl (lv_at hl_ 0 rfl) ?_
          refine lv_iload_n hx_ hb_ dX5_patchedValue_59 rfl (lv_at hl_ 1 rfl) ?_
          refine q_cast (b := ((x_.toNat : Nat) : Int)) (by omega) ?_
          refine ro_V (As := [.int (iI ((x_.toNat : Nat) : Int))]) (rest := [.ref (am_ 2)]) ⟨hx_, hb_, hml, hown, hts⟩ (c_X5_oldIndexOf l_ G_ cI cZ am_ bu_ no_ vo_ fo_ nn_ vn_ fn_ k_ osr nsr lnr ba_ tk_ rt_ cp_ cd_ so_ me_51 bf_51 os_ ns_ ln_ x_.toNat hno hnn hvo hvn hmd (by omega) (hbx)) (cwV 1 hts gX5_patchedValue_X5_oldIndexOf rfl rfl rfl (by decide +kernel) ⟨Nat.le_of_ble_eq_true rfl, Nat.le_of_ble_eq_true rfl⟩) (hP_.sub (ws' := [(am_ 0, .inr (5, [.int (iI ((no_ : Nat) : Int)), .ref (am_ 1), .ref (am_ 2), .int (iI ((nn_ : Nat) : Int)), .ref (am_ 3), .ref (am_ 4), .int (iI (bZ bu_)), .int (iI ((k_ : Nat) : Int)), .ref (am_ 5), .ref (am_ 6), .ref (am_ 7), .ref (am_ 8), .ref (am_ 9), .ref (am_ 10), .int (iI ((cp_ : Nat) : Int)), .ref (am_ 11), .ref (am_ 12), .ref (am_ 13), .ref (am_ 14)])), (am_ 1, .inl (cI, 48, .inl (aI vo_))), (am_ 2, .inl (cZ, 48, .inl (aB fo_))), (am_ 3, .inl (cI, 48, .inl (aI vn_))), (am_ 4, .inl (cZ, 48, .inl (aB fn_))), (am_ 5, .inl (cI, 48, .inl (aN osr))), (am_ 6, .inl (cI, 48, .inl (aN nsr))), (am_ 7, .inl (cI, 48, .inl (aN lnr))), (am_ 8, .inl (cI, 48, .inl (aI ba_))), (am_ 9, .inl (cZ, 48, .inl (aB tk_))), (am_ 10, .inl (cI, 2401, .inl (aN rt_))), (am_ 11, .inl (cI, 48, .inl (aN cd_))), (am_ 12, .inl (cI, 48, .inl (aN so_))), (am_ 13, .inl (cI, 48, .inl (aI me_51))), (am_ 14, .inl (cI, 48, .inl (aI bf_51)))]) [0, 1, 2, 3, 4, 5, 6, 7, 8, 9, 10, 11, 12, 13, 14] rfl) hK_ 0 rfl rfl rfl hl_.1 rfl (Nat.le_of_ble_eq_true rfl) dX5_patchedValue_60 ⟨Nat.zero_le _, Nat.zero_le _⟩ ?_
          refine q_zld hx_ hb_ hK_ hP_ 2 rfl (by decide) (oN os_ ns_ (bx k_ ns_ ln_ x_.toNat) x_.toNat) (by omega) (fo_ (oN os_ ns_ (bx k_ ns_ ln_ x_.toNat) x_.toNat)) (rfl) dX5_patchedValue_63 ?_
          refine q_bf (tgt := 80) hx_ hb_ dX5_patchedValue_64 (by decide) (fun c64_ => ?_) (fun c64_ => ?_)
          · skip
            refine lv_aload_n hx_ hb_ dX5_patchedValue_80 rfl (lv_at hl_ 0 rfl) ?_
            refine va_get (D := G_) (ci := 5) (v := .ref (am_ 13)) (C := RX5) (T := TX5) (N := 19) hx_ hb_ hts hi5_ hown hK_ hP_ 0 rfl rfl 17 (by decide) hf47_ (fun _ h9 => h9) rfl dX5_patchedValue_81 ?_
            refine lv_iload_n hx_ hb_ dX5_patchedValue_84 rfl (lv_at hl_ 1 rfl) ?_
            refine q_cast (b := ((x_.toNat : Nat) : Int)) (by omega) ?_
            refine q_ildI hx_ hb_ hK_ hP_ 13 rfl (by decide) (x_.toNat) (by omega) (me_51 x_.toNat) (rfl) dX5_patchedValue_85 ?_
            rw [← hQe]
            have hP_ : va_P G_ vwCl [(am_ 0, .inr (5, [.int (iI ((no_ : Nat) : Int)), .ref (am_ 1), .ref (am_ 2), .int (iI ((nn_ : Nat) : Int)), .ref (am_ 3), .ref (am_ 4), .int (iI (bZ bu_)), .int (iI ((kr : Nat) : Int)), .ref (am_ 5), .ref (am_ 6), .ref (am_ 7), .ref (am_ 8), .ref (am_ 9), .ref (am_ 10), .int (iI ((cp_ : Nat) : Int)), .ref (am_ 11), .ref (am_ 12), .ref (am_ 13), .ref (am_ 14)])), (am_ 1, .inl (cI, 48, .inl (aI vo_))), (am_ 2, .inl (cZ, 48, .inl (aB fo_))), (am_ 3, .inl (cI, 48, .inl (aI vn_))), (am_ 4, .inl (cZ, 48, .inl (aB fn_))), (am_ 5, .inl (cI, 48, .inl (aN osr))), (am_ 6, .inl (cI, 48, .inl (aN nsr))), (am_ 7, .inl (cI, 48, .inl (aN lnr))), (am_ 8, .inl (cI, 48, .inl (aI ba_))), (am_ 9, .inl (cZ, 48, .inl (aB tk_))), (am_ 10, .inl (cI, 2401, .inl (aN rt_))), (am_ 11, .inl (cI, 48, .inl (aN cd_))), (am_ 12, .inl (cI, 48, .inl (aN so_))), (am_ 13, .inl (cI, 48, .inl (aI me_51))), (am_ 14, .inl (cI, 48, .inl (aI bf_51)))] H_ := by rw [← hkr]; exact hP_
            exact W.iret hx_ hb_ hr (fun tt1 htt1 hWW1 => ⟨⟨_, (me_51, bf_51), rfl, ⟨congrArg iI (by show _ = A_pat bu_ no_ vo_ fo_ nn_ vn_ k_ os_ ns_ ln_ x_; unfold A_pat; rw [if_pos c4_, if_pos c16_, if_pos ⟨c28_, c36_⟩, if_neg (by rw [c64_]; decide), ← hcp, hxm]), trivial⟩, by show va_P G_ vwCl _ tt1.heap; rw [htt1]; exact hP_⟩, hS_.F htt1⟩) hS_.2.2 dX5_patchedValue_86
          · skip
            refine lv_aload_n hx_ hb_ dX5_patchedValue_67 rfl (lv_at hl_ 0 rfl) ?_
            refine lv_aload_n hx_ hb_ dX5_patchedValue_68 rfl (lv_at hl_ 0 rfl) ?_
            refine va_get (D := G_) (ci := 5) (v := .ref (am_ 13)) (C := RX5) (T := TX5) (N := 19) hx_ hb_ hts hi5_ hown hK_ hP_ 0 rfl rfl 17 (by decide) hf47_ (fun _ h9 => h9) rfl dX5_patchedValue_69 ?_
            refine lv_iload_n hx_ hb_ dX5_patchedValue_72 rfl (lv_at hl_ 1 rfl) ?_
            refine q_cast (b := ((x_.toNat : Nat) : Int)) (by omega) ?_
            refine q_ildI hx_ hb_ hK_ hP_ 13 rfl (by decide) (x_.toNat) (by omega) (me_51 x_.toNat) (rfl) dX5_patchedValue_73 ?_
            refine ro_V (As := [.int (iI (me_51 x_.toNat))]) (rest := []) ⟨hx_, hb_, hml, hown, hts⟩ (c_X5_predicts l_ G_ cI cZ am_ bu_ no_ vo_ fo_ nn_ vn_ fn_ k_ osr nsr lnr ba_ tk_ rt_ cp_ cd_ so_ me_51 bf_51 os_ ns_ ln_ (me_51 x_.toNat) hno hnn hvo hvn hmd (by omega) (by omega)) (cwV 1 hts gX5_patchedValue_X5_predicts rfl rfl rfl (by decide +kernel) ⟨Nat.le_of_ble_eq_true rfl, Nat.le_of_ble_eq_true rfl⟩) (hP_.sub (ws' := [(am_ 0, .inr (5, [.int (iI ((no_ : Nat) : Int)), .ref (am_ 1), .ref (am_ 2), .int (iI ((nn_ : Nat) : Int)), .ref (am_ 3), .ref (am_ 4), .int (iI (bZ bu_)), .int (iI ((k_ : Nat) : Int)), .ref (am_ 5), .ref (am_ 6), .ref (am_ 7), .ref (am_ 8), .ref (am_ 9), .ref (am_ 10), .int (iI ((cp_ : Nat) : Int)), .ref (am_ 11), .ref (am_ 12), .ref (am_ 13), .ref (am_ 14)])), (am_ 1, .inl (cI, 48, .inl (aI vo_))), (am_ 2, .inl (cZ, 48, .inl (aB fo_))), (am_ 3, .inl (cI, 48, .inl (aI vn_))), (am_ 4, .inl (cZ, 48, .inl (aB fn_))), (am_ 5, .inl (cI, 48, .inl (aN osr))), (am_ 6, .inl (cI, 48, .inl (aN nsr))), (am_ 7, .inl (cI, 48, .inl (aN lnr))), (am_ 8, .inl (cI, 48, .inl (aI ba_))), (am_ 9, .inl (cZ, 48, .inl (aB tk_))), (am_ 10, .inl (cI, 2401, .inl (aN rt_))), (am_ 11, .inl (cI, 48, .inl (aN cd_))), (am_ 12, .inl (cI, 48, .inl (aN so_))), (am_ 13, .inl (cI, 48, .inl (aI me_51))), (am_ 14, .inl (cI, 48, .inl (aI bf_51)))]) [0, 1, 2, 3, 4, 5, 6, 7, 8, 9, 10, 11, 12, 13, 14] rfl) hK_ 0 rfl rfl rfl hl_.1 rfl (Nat.le_of_ble_eq_true rfl) dX5_patchedValue_74 ⟨Nat.zero_le _, Nat.zero_le _⟩ ?_
            refine lv_goto (tgt := 86) hx_ hb_ dX5_patchedValue_77 (by decide) ?_
            rw [← hQe]
            have hP_ : va_P G_ vwCl [(am_ 0, .inr (5, [.int (iI ((no_ : Nat) : Int)), .ref (am_ 1), .ref (am_ 2), .int (iI ((nn_ : Nat) : Int)), .ref (am_ 3), .ref (am_ 4), .int (iI (bZ bu_)), .int (iI ((kr : Nat) : Int)), .ref (am_ 5), .ref (am_ 6), .ref (am_ 7), .ref (am_ 8), .ref (am_ 9), .ref (am_ 10), .int (iI ((cp_ : Nat) : Int)), .ref (am_ 11), .ref (am_ 12), .ref (am_ 13), .ref (am_ 14)])), (am_ 1, .inl (cI, 48, .inl (aI vo_))), (am_ 2, .inl (cZ, 48, .inl (aB fo_))), (am_ 3, .inl (cI, 48, .inl (aI vn_))), (am_ 4, .inl (cZ, 48, .inl (aB fn_))), (am_ 5, .inl (cI, 48, .inl (aN osr))), (am_ 6, .inl (cI, 48, .inl (aN nsr))), (am_ 7, .inl (cI, 48, .inl (aN lnr))), (am_ 8, .inl (cI, 48, .inl (aI ba_))), (am_ 9, .inl (cZ, 48, .inl (aB tk_))), (am_ 10, .inl (cI, 2401, .inl (aN rt_))), (am_ 11, .inl (cI, 48, .inl (aN cd_))), (am_ 12, .inl (cI, 48, .inl (aN so_))), (am_ 13, .inl (cI, 48, .inl (aI me_51))), (am_ 14, .inl (cI, 48, .inl (aI bf_51)))] H_ := by rw [← hkr]; exact hP_
            exact W.iret hx_ hb_ hr (fun tt1 htt1 hWW1 => ⟨⟨_, (me_51, bf_51), rfl, ⟨congrArg iI (by show _ = A_pat bu_ no_ vo_ fo_ nn_ vn_ k_ os_ ns_ ln_ x_; unfold A_pat; rw [if_pos c4_, if_pos c16_, if_pos ⟨c28_, c36_⟩, if_pos c64_, ← hcp, hxm]), trivial⟩, by show va_P G_ vwCl _ tt1.heap; rw [htt1]; exact hP_⟩, hS_.F htt1⟩) hS_.2.2 dX5_patchedValue_86
        · skip
          refine lv_aload_n hx_ hb_ dX5_patchedValue_39 rfl (lv_at hl_ 0 rfl) ?_
          refine va_get (D := G_) (ci := 5) (v := .ref (am_ 3)) (C := RX5) (T := TX5) (N := 19) hx_ hb_ hts hi5_ hown hK_ hP_ 0 rfl rfl 4 (by decide) hf17_ (fun _ h9 => h9) rfl dX5_patchedValue_40 ?_
          refine lv_iload_n hx_ hb_ dX5_patchedValue_43 rfl (lv_at hl_ 1 rfl) ?_
          refine q_cast (b := ((x_.toNat : Nat) : Int)) (by omega) ?_
          refine q_ildI hx_ hb_ hK_ hP_ 3 rfl (by decide) (x_.toNat) (by omega) (vn_ x_.toNat) (rfl) dX5_patchedValue_44 ?_
          rw [← hQe]
          have hP_ : va_P G_ vwCl [(am_ 0, .inr (5, [.int (iI ((no_ : Nat) : Int)), .ref (am_ 1), .ref (am_ 2), .int (iI ((nn_ : Nat) : Int)), .ref (am_ 3), .ref (am_ 4), .int (iI (bZ bu_)), .int (iI ((kr : Nat) : Int)), .ref (am_ 5), .ref (am_ 6), .ref (am_ 7), .ref (am_ 8), .ref (am_ 9), .ref (am_ 10), .int (iI ((cp_ : Nat) : Int)), .ref (am_ 11), .ref (am_ 12), .ref (am_ 13), .ref (am_ 14)])), (am_ 1, .inl (cI, 48, .inl (aI vo_))), (am_ 2, .inl (cZ, 48, .inl (aB fo_))), (am_ 3, .inl (cI, 48, .inl (aI vn_))), (am_ 4, .inl (cZ, 48, .inl (aB fn_))), (am_ 5, .inl (cI, 48, .inl (aN osr))), (am_ 6, .inl (cI, 48, .inl (aN nsr))), (am_ 7, .inl (cI, 48, .inl (aN lnr))), (am_ 8, .inl (cI, 48, .inl (aI ba_))), (am_ 9, .inl (cZ, 48, .inl (aB tk_))), (am_ 10, .inl (cI, 2401, .inl (aN rt_))), (am_ 11, .inl (cI, 48, .inl (aN cd_))), (am_ 12, .inl (cI, 48, .inl (aN so_))), (am_ 13, .inl (cI, 48, .inl (aI me_))), (am_ 14, .inl (cI, 48, .inl (aI bf_)))] s_.heap := by rw [← hkr]; exact hP_
          exact W.iret hx_ hb_ hr (fun tt1 htt1 hWW1 => ⟨⟨_, (me_, bf_), rfl, ⟨congrArg iI (by show _ = A_pat bu_ no_ vo_ fo_ nn_ vn_ k_ os_ ns_ ln_ x_; unfold A_pat; rw [if_pos c4_, if_pos c16_, if_neg (by rw [c36_]; simp)]), trivial⟩, by show va_P G_ vwCl _ tt1.heap; rw [htt1]; exact hP_⟩, hS_.F htt1⟩) hS_.2.2 dX5_patchedValue_45
    · skip
      refine lv_sipush (v := iI (-10003)) hx_ hb_ dX5_patchedValue_19 rfl ?_
      rw [← hQe]
      have hP_ : va_P G_ vwCl [(am_ 0, .inr (5, [.int (iI ((no_ : Nat) : Int)), .ref (am_ 1), .ref (am_ 2), .int (iI ((nn_ : Nat) : Int)), .ref (am_ 3), .ref (am_ 4), .int (iI (bZ bu_)), .int (iI ((kr : Nat) : Int)), .ref (am_ 5), .ref (am_ 6), .ref (am_ 7), .ref (am_ 8), .ref (am_ 9), .ref (am_ 10), .int (iI ((cp_ : Nat) : Int)), .ref (am_ 11), .ref (am_ 12), .ref (am_ 13), .ref (am_ 14)])), (am_ 1, .inl (cI, 48, .inl (aI vo_))), (am_ 2, .inl (cZ, 48, .inl (aB fo_))), (am_ 3, .inl (cI, 48, .inl (aI vn_))), (am_ 4, .inl (cZ, 48, .inl (aB fn_))), (am_ 5, .inl (cI, 48, .inl (aN osr))), (am_ 6, .inl (cI, 48, .inl (aN nsr))), (am_ 7, .inl (cI, 48, .inl (aN lnr))), (am_ 8, .inl (cI, 48, .inl (aI ba_))), (am_ 9, .inl (cZ, 48, .inl (aB tk_))), (am_ 10, .inl (cI, 2401, .inl (aN rt_))), (am_ 11, .inl (cI, 48, .inl (aN cd_))), (am_ 12, .inl (cI, 48, .inl (aN so_))), (am_ 13, .inl (cI, 48, .inl (aI me_))), (am_ 14, .inl (cI, 48, .inl (aI bf_)))] s_.heap := by rw [← hkr]; exact hP_
      exact W.iret hx_ hb_ hr (fun tt1 htt1 hWW1 => ⟨⟨_, (me_, bf_), rfl, ⟨congrArg iI (by show _ = A_pat bu_ no_ vo_ fo_ nn_ vn_ k_ os_ ns_ ln_ x_; unfold A_pat; exact if3 c4_ c16_), trivial⟩, by show va_P G_ vwCl _ tt1.heap; rw [htt1]; exact hP_⟩, hS_.F htt1⟩) hS_.2.2 dX5_patchedValue_22
  · skip
    refine lv_sipush (v := iI (-10004)) hx_ hb_ dX5_patchedValue_7 rfl ?_
    rw [← hQe]
    exact W.iret hx_ hb_ hr (fun tt1 htt1 hWW1 => ⟨⟨_, (me_, bf_), rfl, ⟨congrArg iI (by show _ = A_pat bu_ no_ vo_ fo_ nn_ vn_ k_ os_ ns_ ln_ x_; unfold A_pat; exact if0 c4_), trivial⟩, by show va_P G_ vwCl _ tt1.heap; rw [htt1]; exact hP_⟩, hS_.F htt1⟩) hS_.2.2 dX5_patchedValue_10
