set_option maxHeartbeats 4000000 in
set_option maxRecDepth 100000 in
/-- matches -/
theorem c_X5_matches (l_ : Launch) (G_ : va_G) (cI cZ : ClassId) (am_ : Nat → Nat) (bu_ : Bool) (no_ : Nat) (vo_ : Nat → Int) (fo_ : Nat → Bool) (nn_ : Nat) (vn_ : Nat → Int) (fn_ : Nat → Bool) (k_ : Nat) (osr nsr lnr : Nat → Nat) (ba_ : Nat → Int) (tk_ : Nat → Bool) (rt_ : Nat → Nat) (cp_ : Nat) (cd_ so_ : Nat → Nat) (me_ bf_ : Nat → Int) (x_ y_ : Nat) (hno : no_ ≤ 48) (hnn : nn_ ≤ 48) (hvo : ∀ j_, 0 ≤ vo_ j_ ∧ vo_ j_ ≤ 9999) (hvn : ∀ j_, 0 ≤ vn_ j_ ∧ vn_ j_ ≤ 9999) (hx0 : x_ < no_) (hy0 : y_ < nn_) : Ro l_ yX5_matches wsX5_matches ({ frames := 0, cells := 0, slots := 0, locals := 0 }) G_ cI cZ [.ref (am_ 0), .int (iI ((x_ : Nat) : Int)), .int (iI ((y_ : Nat) : Int))] (wMd cI cZ am_ bu_ no_ vo_ fo_ nn_ vn_ fn_ k_ osr nsr lnr ba_ tk_ rt_ cp_ cd_ so_ me_ bf_) (bZ (mtc vo_ vn_ fo_ fn_ x_ y_)) := by
  refine Met.ofW (cc := cX5_matches) (maxL := 5) (ret := (some .boolean)) (by decide) rfl ?_
  intro p_ e_ s_ m_ args below meth c_ s₁ B hml hv
  obtain ⟨hargs, hP_, hK_⟩ := hv
  have hx_ := B.exec
  have hb_ := B.bytes
  have hr := B.returns
  have hts := atoms_spec (ws := wsX5_matches) B.pre
  have hown : s_.vm.findClass RX5 = some m_.cls := findClass_of_methodNamed B.named
  have hlocks := B.notSynchronized
  have hi5_ : ∀ w_ ∈ wsX50, w_ ∈ wsX5_matches := by decide +kernel
  have hf7_ := hts (.fieldLink RX5 7 "RelocatingPatchModel" "oldValue" "[I") (by decide +kernel)
  have hf13_ := hts (.fieldLink RX5 13 "RelocatingPatchModel" "oldAddress" "[Z") (by decide +kernel)
  have hf17_ := hts (.fieldLink RX5 17 "RelocatingPatchModel" "newValues" "[I") (by decide +kernel)
  have hf20_ := hts (.fieldLink RX5 20 "RelocatingPatchModel" "newAddress" "[Z") (by decide +kernel)
  have hP_ : va_P G_ vwCl [(am_ 0, .inr (5, [.int (iI ((no_ : Nat) : Int)), .ref (am_ 1), .ref (am_ 2), .int (iI ((nn_ : Nat) : Int)), .ref (am_ 3), .ref (am_ 4), .int (iI (bZ bu_)), .int (iI ((k_ : Nat) : Int)), .ref (am_ 5), .ref (am_ 6), .ref (am_ 7), .ref (am_ 8), .ref (am_ 9), .ref (am_ 10), .int (iI ((cp_ : Nat) : Int)), .ref (am_ 11), .ref (am_ 12), .ref (am_ 13), .ref (am_ 14)])), (am_ 1, .inl (cI, 48, .inl (aI vo_))), (am_ 2, .inl (cZ, 48, .inl (aB fo_))), (am_ 3, .inl (cI, 48, .inl (aI vn_))), (am_ 4, .inl (cZ, 48, .inl (aB fn_))), (am_ 5, .inl (cI, 48, .inl (aN osr))), (am_ 6, .inl (cI, 48, .inl (aN nsr))), (am_ 7, .inl (cI, 48, .inl (aN lnr))), (am_ 8, .inl (cI, 48, .inl (aI ba_))), (am_ 9, .inl (cZ, 48, .inl (aB tk_))), (am_ 10, .inl (cI, 2401, .inl (aN rt_))), (am_ 11, .inl (cI, 48, .inl (aN cd_))), (am_ 12, .inl (cI, 48, .inl (aN so_))), (am_ 13, .inl (cI, 48, .inl (aI me_))), (am_ 14, .inl (cI, 48, .inl (aI bf_)))] s_.heap := hP_
  generalize hQe : MQ below (vp_Si (fun r_ => r_ = iI (bZ (mtc vo_ vn_ fo_ fn_ x_ y_)))) args s_ 0 0 (fun _ => False) = Q_
  have fv1 := hvo x_
  have fv2 := hvn y_
  rw [show entryFrame m_ args 5 = entryFrame m_ ([.ref (am_ 0), .int (iI ((x_ : Nat) : Int)), .int (iI ((y_ : Nat) : Int))] : List Value).toArray 5 from by rw [hargs], lg_entry_eq]
  have hl_ := lv_entry ([.ref (am_ 0), .int (iI ((x_ : Nat) : Int)), .int (iI ((y_ : Nat) : Int))]) (n := 5) (Nat.le_of_ble_eq_true rfl)
  generalize (lg_sl ([.ref (am_ 0), .int (iI ((x_ : Nat) : Int)), .int (iI ((y_ : Nat) : Int))]) ++ List.replicate (5 - (lg_sl ([.ref (am_ 0), .int (iI ((x_ : Nat) : Int)), .int (iI ((y_ : Nat) : Int))])).length) Slot.unset).toArray = ls_ at hl_ ⊢
  have hl_ : lv_has ls_ 5 [(0, .ref (am_ 0)), (1, .int (iI ((x_ : Nat) : Int))), (2, .int (iI ((y_ : Nat) : Int)))] := hl_
  refine lv_aload_n hx_ hb_ dX5_matches_0 rfl (lv_at hl_ 0 rfl) ?_
  refine va_get (D := G_) (ci := 5) (v := .ref (am_ 2)) (C := RX5) (T := TX5) (N := 19) hx_ hb_ hts hi5_ hown hK_ hP_ 0 rfl rfl 2 (by decide) hf13_ (fun _ h9 => h9) rfl dX5_matches_1 ?_
  refine lv_iload_n hx_ hb_ dX5_matches_4 rfl (lv_at hl_ 1 rfl) ?_
  refine q_zld hx_ hb_ hK_ hP_ 2 rfl (by decide) (x_) (by omega) (fo_ x_) (rfl) dX5_matches_5 ?_
  refine q_bf (tgt := 22) hx_ hb_ dX5_matches_6 (by decide) (fun c6_ => ?_) (fun c6_ => ?_)
  · skip
    refine lv_iconst (v := iI ((0 : Nat) : Int)) hx_ hb_ dX5_matches_22 rfl ?_
    refine lv_istore_n (lv' := [(3, .int (iI ((0 : Nat) : Int))), (0, .ref (am_ 0)), (1, .int (iI ((x_ : Nat) : Int))), (2, .int (iI ((y_ : Nat) : Int)))]) hx_ hb_ dX5_matches_23 rfl hl_ (by decide) rfl (fun ls_ hl_ => ?_)
    refine lv_aload_n hx_ hb_ dX5_matches_24 rfl (lv_at hl_ 1 rfl) ?_
    refine va_get (D := G_) (ci := 5) (v := .ref (am_ 2)) (C := RX5) (T := TX5) (N := 19) hx_ hb_ hts hi5_ hown hK_ hP_ 0 rfl rfl 2 (by decide) hf13_ (fun _ h9 => h9) rfl dX5_matches_25 ?_
    refine lv_iload_n hx_ hb_ dX5_matches_28 rfl (lv_at hl_ 2 rfl) ?_
    refine q_zld hx_ hb_ hK_ hP_ 2 rfl (by decide) (x_) (by omega) (fo_ x_) (rfl) dX5_matches_29 ?_
    refine q_bt (tgt := 61) hx_ hb_ dX5_matches_30 (by decide) (fun c30_ => absurd c30_ (by rw [c6_]; decide)) (fun c30_ => ?_)
    refine lv_aload_n hx_ hb_ dX5_matches_33 rfl (lv_at hl_ 1 rfl) ?_
    refine va_get (D := G_) (ci := 5) (v := .ref (am_ 4)) (C := RX5) (T := TX5) (N := 19) hx_ hb_ hts hi5_ hown hK_ hP_ 0 rfl rfl 5 (by decide) hf20_ (fun _ h9 => h9) rfl dX5_matches_34 ?_
    refine lv_iload_n hx_ hb_ dX5_matches_37 rfl (lv_at hl_ 3 rfl) ?_
    refine q_zld hx_ hb_ hK_ hP_ 4 rfl (by decide) (y_) (by omega) (fn_ y_) (rfl) dX5_matches_38 ?_
    refine q_bt (tgt := 61) hx_ hb_ dX5_matches_39 (by decide) (fun c39_ => ?_) (fun c39_ => ?_)
    · skip
      refine lv_iconst (v := iI ((0 : Nat) : Int)) hx_ hb_ dX5_matches_61 rfl ?_
      refine lv_istore (lv' := [(4, .int (iI ((0 : Nat) : Int))), (3, .int (iI ((0 : Nat) : Int))), (0, .ref (am_ 0)), (1, .int (iI ((x_ : Nat) : Int))), (2, .int (iI ((y_ : Nat) : Int)))]) hx_ hb_ dX5_matches_62 hl_ (by decide) rfl (fun ls_ hl_ => ?_)
      refine lv_iload_n hx_ hb_ dX5_matches_64 rfl (lv_at hl_ 1 rfl) ?_
      refine q_if_ne (tgt := 73) hx_ hb_ dX5_matches_65 (by decide) (⟨by decide, by decide⟩) (fun h0_ => absurd h0_ (by decide)) (fun _ => ?_)
      refine lv_iload hx_ hb_ dX5_matches_68 (lv_at hl_ 0 rfl) ?_
      refine q_if_eq (tgt := 77) hx_ hb_ dX5_matches_70 (by decide) (⟨by decide, by decide⟩) (fun _ => ?_) (fun h0_ => absurd h0_ (by decide))
      refine lv_iconst (v := iI ((0 : Nat) : Int)) hx_ hb_ dX5_matches_77 rfl ?_
      rw [← hQe]
      refine q_cast (b := bZ false) rfl ?_
      exact W.zret (v := _) hx_ hb_ hr (nar_bZ _) (fun tt1 htt1 hWW1 => ⟨_, rfl, congrArg iI (congrArg bZ (by unfold mtc; rw [if_neg (by rw [c6_, c39_]; decide)])), htt1⟩) (fun q_ h_ => absurd h_ List.not_mem_nil) dX5_matches_78
    · skip
      refine lv_aload_n hx_ hb_ dX5_matches_42 rfl (lv_at hl_ 1 rfl) ?_
      refine va_get (D := G_) (ci := 5) (v := .ref (am_ 1)) (C := RX5) (T := TX5) (N := 19) hx_ hb_ hts hi5_ hown hK_ hP_ 0 rfl rfl 1 (by decide) hf7_ (fun _ h9 => h9) rfl dX5_matches_43 ?_
      refine lv_iload_n hx_ hb_ dX5_matches_46 rfl (lv_at hl_ 2 rfl) ?_
      refine q_ildI hx_ hb_ hK_ hP_ 1 rfl (by decide) (x_) (by omega) (vo_ x_) (rfl) dX5_matches_47 ?_
      refine lv_aload_n hx_ hb_ dX5_matches_48 rfl (lv_at hl_ 1 rfl) ?_
      refine va_get (D := G_) (ci := 5) (v := .ref (am_ 3)) (C := RX5) (T := TX5) (N := 19) hx_ hb_ hts hi5_ hown hK_ hP_ 0 rfl rfl 4 (by decide) hf17_ (fun _ h9 => h9) rfl dX5_matches_49 ?_
      refine lv_iload_n hx_ hb_ dX5_matches_52 rfl (lv_at hl_ 3 rfl) ?_
      refine q_ildI hx_ hb_ hK_ hP_ 3 rfl (by decide) (y_) (by omega) (vn_ y_) (rfl) dX5_matches_53 ?_
      refine q_icmp_ne (tgt := 61) hx_ hb_ dX5_matches_54 (by decide) (⟨by omega, by omega⟩) (⟨by omega, by omega⟩) (fun c54_ => ?_) (fun c54_ => ?_)
      · skip
        refine lv_iconst (v := iI ((0 : Nat) : Int)) hx_ hb_ dX5_matches_61 rfl ?_
        refine lv_istore (lv' := [(4, .int (iI ((0 : Nat) : Int))), (3, .int (iI ((0 : Nat) : Int))), (0, .ref (am_ 0)), (1, .int (iI ((x_ : Nat) : Int))), (2, .int (iI ((y_ : Nat) : Int)))]) hx_ hb_ dX5_matches_62 hl_ (by decide) rfl (fun ls_ hl_ => ?_)
        refine lv_iload_n hx_ hb_ dX5_matches_64 rfl (lv_at hl_ 1 rfl) ?_
        refine q_if_ne (tgt := 73) hx_ hb_ dX5_matches_65 (by decide) (⟨by decide, by decide⟩) (fun h0_ => absurd h0_ (by decide)) (fun _ => ?_)
        refine lv_iload hx_ hb_ dX5_matches_68 (lv_at hl_ 0 rfl) ?_
        refine q_if_eq (tgt := 77) hx_ hb_ dX5_matches_70 (by decide) (⟨by decide, by decide⟩) (fun _ => ?_) (fun h0_ => absurd h0_ (by decide))
        refine lv_iconst (v := iI ((0 : Nat) : Int)) hx_ hb_ dX5_matches_77 rfl ?_
        rw [← hQe]
        refine q_cast (b := bZ false) rfl ?_
        exact W.zret (v := _) hx_ hb_ hr (nar_bZ _) (fun tt1 htt1 hWW1 => ⟨_, rfl, congrArg iI (congrArg bZ (by unfold mtc; rw [if_pos (by rw [c6_, c39_]), c6_, decide_eq_false c54_]; rfl)), htt1⟩) (fun q_ h_ => absurd h_ List.not_mem_nil) dX5_matches_78
      · skip
        refine lv_iconst (v := iI ((1 : Nat) : Int)) hx_ hb_ dX5_matches_57 rfl ?_
        refine lv_goto (tgt := 62) hx_ hb_ dX5_matches_58 (by decide) ?_
        refine lv_istore (lv' := [(4, .int (iI ((1 : Nat) : Int))), (3, .int (iI ((0 : Nat) : Int))), (0, .ref (am_ 0)), (1, .int (iI ((x_ : Nat) : Int))), (2, .int (iI ((y_ : Nat) : Int)))]) hx_ hb_ dX5_matches_62 hl_ (by decide) rfl (fun ls_ hl_ => ?_)
        refine lv_iload_n hx_ hb_ dX5_matches_64 rfl (lv_at hl_ 1 rfl) ?_
        refine q_if_ne (tgt := 73) hx_ hb_ dX5_matches_65 (by decide) (⟨by decide, by decide⟩) (fun h0_ => absurd h0_ (by decide)) (fun _ => ?_)
        refine lv_iload hx_ hb_ dX5_matches_68 (lv_at hl_ 0 rfl) ?_
        refine q_if_eq (tgt := 77) hx_ hb_ dX5_matches_70 (by decide) (⟨by decide, by decide⟩) (fun h0_ => absurd h0_ (by decide)) (fun _ => ?_)
        refine lv_iconst (v := iI ((1 : Nat) : Int)) hx_ hb_ dX5_matches_73 rfl ?_
        refine lv_goto (tgt := 78) hx_ hb_ dX5_matches_74 (by decide) ?_
        rw [← hQe]
        refine q_cast (b := bZ true) rfl ?_
        exact W.zret (v := _) hx_ hb_ hr (nar_bZ _) (fun tt1 htt1 hWW1 => ⟨_, rfl, congrArg iI (congrArg bZ (by unfold mtc; rw [if_pos (by rw [c6_, c39_]), c6_, decide_eq_true c54_]; rfl)), htt1⟩) (fun q_ h_ => absurd h_ List.not_mem_nil) dX5_matches_78
  · skip
    refine lv_aload_n hx_ hb_ dX5_matches_9 rfl (lv_at hl_ 0 rfl) ?_
    refine va_get (D := G_) (ci := 5) (v := .ref (am_ 4)) (C := RX5) (T := TX5) (N := 19) hx_ hb_ hts hi5_ hown hK_ hP_ 0 rfl rfl 5 (by decide) hf20_ (fun _ h9 => h9) rfl dX5_matches_10 ?_
    refine lv_iload_n hx_ hb_ dX5_matches_13 rfl (lv_at hl_ 2 rfl) ?_
    refine q_zld hx_ hb_ hK_ hP_ 4 rfl (by decide) (y_) (by omega) (fn_ y_) (rfl) dX5_matches_14 ?_
    refine q_bf (tgt := 22) hx_ hb_ dX5_matches_15 (by decide) (fun c15_ => ?_) (fun c15_ => ?_)
    · skip
      refine lv_iconst (v := iI ((0 : Nat) : Int)) hx_ hb_ dX5_matches_22 rfl ?_
      refine lv_istore_n (lv' := [(3, .int (iI ((0 : Nat) : Int))), (0, .ref (am_ 0)), (1, .int (iI ((x_ : Nat) : Int))), (2, .int (iI ((y_ : Nat) : Int)))]) hx_ hb_ dX5_matches_23 rfl hl_ (by decide) rfl (fun ls_ hl_ => ?_)
      refine lv_aload_n hx_ hb_ dX5_matches_24 rfl (lv_at hl_ 1 rfl) ?_
      refine va_get (D := G_) (ci := 5) (v := .ref (am_ 2)) (C := RX5) (T := TX5) (N := 19) hx_ hb_ hts hi5_ hown hK_ hP_ 0 rfl rfl 2 (by decide) hf13_ (fun _ h9 => h9) rfl dX5_matches_25 ?_
      refine lv_iload_n hx_ hb_ dX5_matches_28 rfl (lv_at hl_ 2 rfl) ?_
      refine q_zld hx_ hb_ hK_ hP_ 2 rfl (by decide) (x_) (by omega) (fo_ x_) (rfl) dX5_matches_29 ?_
      refine q_bt (tgt := 61) hx_ hb_ dX5_matches_30 (by decide) (fun c30_ => ?_) (fun c30_ => absurd c30_ (by rw [c6_]; decide))
      refine lv_iconst (v := iI ((0 : Nat) : Int)) hx_ hb_ dX5_matches_61 rfl ?_
      refine lv_istore (lv' := [(4, .int (iI ((0 : Nat) : Int))), (3, .int (iI ((0 : Nat) : Int))), (0, .ref (am_ 0)), (1, .int (iI ((x_ : Nat) : Int))), (2, .int (iI ((y_ : Nat) : Int)))]) hx_ hb_ dX5_matches_62 hl_ (by decide) rfl (fun ls_ hl_ => ?_)
      refine lv_iload_n hx_ hb_ dX5_matches_64 rfl (lv_at hl_ 1 rfl) ?_
      refine q_if_ne (tgt := 73) hx_ hb_ dX5_matches_65 (by decide) (⟨by decide, by decide⟩) (fun h0_ => absurd h0_ (by decide)) (fun _ => ?_)
      refine lv_iload hx_ hb_ dX5_matches_68 (lv_at hl_ 0 rfl) ?_
      refine q_if_eq (tgt := 77) hx_ hb_ dX5_matches_70 (by decide) (⟨by decide, by decide⟩) (fun _ => ?_) (fun h0_ => absurd h0_ (by decide))
      refine lv_iconst (v := iI ((0 : Nat) : Int)) hx_ hb_ dX5_matches_77 rfl ?_
      rw [← hQe]
      refine q_cast (b := bZ false) rfl ?_
      exact W.zret (v := _) hx_ hb_ hr (nar_bZ _) (fun tt1 htt1 hWW1 => ⟨_, rfl, congrArg iI (congrArg bZ (by unfold mtc; rw [if_neg (by rw [c6_, c15_]; decide)])), htt1⟩) (fun q_ h_ => absurd h_ List.not_mem_nil) dX5_matches_78
    · skip
      refine lv_iconst (v := iI ((1 : Nat) : Int)) hx_ hb_ dX5_matches_18 rfl ?_
      refine lv_goto (tgt := 23) hx_ hb_ dX5_matches_19 (by decide) ?_
      refine lv_istore_n (lv' := [(3, .int (iI ((1 : Nat) : Int))), (0, .ref (am_ 0)), (1, .int (iI ((x_ : Nat) : Int))), (2, .int (iI ((y_ : Nat) : Int)))]) hx_ hb_ dX5_matches_23 rfl hl_ (by decide) rfl (fun ls_ hl_ => ?_)
      refine lv_aload_n hx_ hb_ dX5_matches_24 rfl (lv_at hl_ 1 rfl) ?_
      refine va_get (D := G_) (ci := 5) (v := .ref (am_ 2)) (C := RX5) (T := TX5) (N := 19) hx_ hb_ hts hi5_ hown hK_ hP_ 0 rfl rfl 2 (by decide) hf13_ (fun _ h9 => h9) rfl dX5_matches_25 ?_
      refine lv_iload_n hx_ hb_ dX5_matches_28 rfl (lv_at hl_ 2 rfl) ?_
      refine q_zld hx_ hb_ hK_ hP_ 2 rfl (by decide) (x_) (by omega) (fo_ x_) (rfl) dX5_matches_29 ?_
      refine q_bt (tgt := 61) hx_ hb_ dX5_matches_30 (by decide) (fun c30_ => ?_) (fun c30_ => absurd c30_ (by rw [c6_]; decide))
      refine lv_iconst (v := iI ((0 : Nat) : Int)) hx_ hb_ dX5_matches_61 rfl ?_
      refine lv_istore (lv' := [(4, .int (iI ((0 : Nat) : Int))), (3, .int (iI ((1 : Nat) : Int))), (0, .ref (am_ 0)), (1, .int (iI ((x_ : Nat) : Int))), (2, .int (iI ((y_ : Nat) : Int)))]) hx_ hb_ dX5_matches_62 hl_ (by decide) rfl (fun ls_ hl_ => ?_)
      refine lv_iload_n hx_ hb_ dX5_matches_64 rfl (lv_at hl_ 1 rfl) ?_
      refine q_if_ne (tgt := 73) hx_ hb_ dX5_matches_65 (by decide) (⟨by decide, by decide⟩) (fun _ => ?_) (fun h0_ => absurd h0_ (by decide))
      refine lv_iconst (v := iI ((1 : Nat) : Int)) hx_ hb_ dX5_matches_73 rfl ?_
      refine lv_goto (tgt := 78) hx_ hb_ dX5_matches_74 (by decide) ?_
      rw [← hQe]
      refine q_cast (b := bZ true) rfl ?_
      exact W.zret (v := _) hx_ hb_ hr (nar_bZ _) (fun tt1 htt1 hWW1 => ⟨_, rfl, congrArg iI (congrArg bZ (by unfold mtc; rw [if_pos (by rw [c6_, c15_]), c6_]; rfl)), htt1⟩) (fun q_ h_ => absurd h_ List.not_mem_nil) dX5_matches_78

set_option maxHeartbeats 4000000 in
set_option maxRecDepth 100000 in
/-- findsRuns -/
theorem c_X5_findsRuns (l_ : Launch) (G_ : va_G) (cI cZ : ClassId) (am_ : Nat → Nat) (bu_ : Bool) (no_ : Nat) (vo_ : Nat → Int) (fo_ : Nat → Bool) (nn_ : Nat) (vn_ : Nat → Int) (fn_ : Nat → Bool) (k_ : Nat) (osr nsr lnr : Nat → Nat) (ba_ : Nat → Int) (tk_ : Nat → Bool) (rt_ : Nat → Nat) (cp_ : Nat) (cd_ so_ : Nat → Nat) (me_ bf_ : Nat → Int) (hno : no_ ≤ 48) (hnn : nn_ ≤ 48) (hvo : ∀ j_, 0 ≤ vo_ j_ ∧ vo_ j_ ≤ 9999) (hvn : ∀ j_, 0 ≤ vn_ j_ ∧ vn_ j_ ≤ 9999) (hbr : ∀ w_, w_ < nn_ → -10005 ≤ ba_ w_ ∧ ba_ w_ ≤ 2401) (sz : Nat) : Wr (S := (Nat → Nat)) l_ yX5_findsRuns wsX5_findsRuns ({ frames := 1, cells := 0, slots := 0, locals := 24 }) G_ cI cZ [.ref (am_ 0)] (wMd cI cZ am_ bu_ no_ vo_ fo_ nn_ vn_ fn_ k_ osr nsr lnr ba_ tk_ rt_ cp_ cd_ so_ me_ bf_) sz (fun u_ => ∀ w_ o_, w_ ≤ nn_ → o_ ≤ no_ → u_ (49 * w_ + o_) = rn (Mf no_ nn_ (mtc vo_ vn_ fo_ fn_) tk_ (fun w_ => decide (¬ ba_ w_ = -10005))) nn_ o_ w_) (fun u_ => wMd cI cZ am_ bu_ no_ vo_ fo_ nn_ vn_ fn_ k_ osr nsr lnr ba_ tk_ u_ cp_ cd_ so_ me_ bf_) := by
  refine Met.ofW (cc := cX5_findsRuns) (maxL := 4) (ret := (none)) (by decide) rfl ?_
  intro p_ e_ s_ m_ args below meth c_ s₁ B hml hv
  obtain ⟨hargs, hsz, hP_, hK_, hD0⟩ := hv
  have hx_ := B.exec
  have hb_ := B.bytes
  have hr := B.returns
  have hts := atoms_spec (ws := wsX5_findsRuns) B.pre
  have hown : s_.vm.findClass RX5 = some m_.cls := findClass_of_methodNamed B.named
  have hlocks := B.notSynchronized
  have hi5_ : ∀ w_ ∈ wsX50, w_ ∈ wsX5_findsRuns := by decide +kernel
  have hf32_ := hts (.fieldLink RX5 32 "RelocatingPatchModel" "blockAt" "[I") (by decide +kernel)
  have hf35_ := hts (.fieldLink RX5 35 "RelocatingPatchModel" "isTaken" "[Z") (by decide +kernel)
  have hf38_ := hts (.fieldLink RX5 38 "RelocatingPatchModel" "run" "[I") (by decide +kernel)
  have hf57_ := hts (.fieldLink RX5 57 "RelocatingPatchModel" "news" "I") (by decide +kernel)
  have hf65_ := hts (.fieldLink RX5 65 "RelocatingPatchModel" "olds" "I") (by decide +kernel)
  subst hsz
  have hD_ := hD0.self (sz := s_.heap.size)
  generalize hAe : va_A (wMd cI cZ am_ bu_ no_ vo_ fo_ nn_ vn_ fn_ k_ osr nsr lnr ba_ tk_ rt_ cp_ cd_ so_ me_ bf_) s_.heap.size = A_ at hD_ ⊢
  have hA_ : ∀ q_ : Nat, s_.heap.size ≤ q_ → A_ q_ := fun q_ h_ => by rw [← hAe]; exact Or.inr h_
  have hS_ : va_S A_ s_.heap s_.heap [] := va_S.rf
  have hP_ : va_P G_ vwCl [(am_ 0, .inr (5, [.int (iI ((no_ : Nat) : Int)), .ref (am_ 1), .ref (am_ 2), .int (iI ((nn_ : Nat) : Int)), .ref (am_ 3), .ref (am_ 4), .int (iI (bZ bu_)), .int (iI ((k_ : Nat) : Int)), .ref (am_ 5), .ref (am_ 6), .ref (am_ 7), .ref (am_ 8), .ref (am_ 9), .ref (am_ 10), .int (iI ((cp_ : Nat) : Int)), .ref (am_ 11), .ref (am_ 12), .ref (am_ 13), .ref (am_ 14)])), (am_ 1, .inl (cI, 48, .inl (aI vo_))), (am_ 2, .inl (cZ, 48, .inl (aB fo_))), (am_ 3, .inl (cI, 48, .inl (aI vn_))), (am_ 4, .inl (cZ, 48, .inl (aB fn_))), (am_ 5, .inl (cI, 48, .inl (aN osr))), (am_ 6, .inl (cI, 48, .inl (aN nsr))), (am_ 7, .inl (cI, 48, .inl (aN lnr))), (am_ 8, .inl (cI, 48, .inl (aI ba_))), (am_ 9, .inl (cZ, 48, .inl (aB tk_))), (am_ 10, .inl (cI, 2401, .inl (aN rt_))), (am_ 11, .inl (cI, 48, .inl (aN cd_))), (am_ 12, .inl (cI, 48, .inl (aN so_))), (am_ 13, .inl (cI, 48, .inl (aI me_))), (am_ 14, .inl (cI, 48, .inl (aI bf_)))] s_.heap := hP_
  have hD_ : va_D A_ [(am_ 0, .inr (5, [.int (iI ((no_ : Nat) : Int)), .ref (am_ 1), .ref (am_ 2), .int (iI ((nn_ : Nat) : Int)), .ref (am_ 3), .ref (am_ 4), .int (iI (bZ bu_)), .int (iI ((k_ : Nat) : Int)), .ref (am_ 5), .ref (am_ 6), .ref (am_ 7), .ref (am_ 8), .ref (am_ 9), .ref (am_ 10), .int (iI ((cp_ : Nat) : Int)), .ref (am_ 11), .ref (am_ 12), .ref (am_ 13), .ref (am_ 14)])), (am_ 1, .inl (cI, 48, .inl (aI vo_))), (am_ 2, .inl (cZ, 48, .inl (aB fo_))), (am_ 3, .inl (cI, 48, .inl (aI vn_))), (am_ 4, .inl (cZ, 48, .inl (aB fn_))), (am_ 5, .inl (cI, 48, .inl (aN osr))), (am_ 6, .inl (cI, 48, .inl (aN nsr))), (am_ 7, .inl (cI, 48, .inl (aN lnr))), (am_ 8, .inl (cI, 48, .inl (aI ba_))), (am_ 9, .inl (cZ, 48, .inl (aB tk_))), (am_ 10, .inl (cI, 2401, .inl (aN rt_))), (am_ 11, .inl (cI, 48, .inl (aN cd_))), (am_ 12, .inl (cI, 48, .inl (aN so_))), (am_ 13, .inl (cI, 48, .inl (aI me_))), (am_ 14, .inl (cI, 48, .inl (aI bf_)))] := hD_
  generalize hQe : MQ below (va_Qv (S := (Nat → Nat)) (fun u_ => ∀ w_ o_, w_ ≤ nn_ → o_ ≤ no_ → u_ (49 * w_ + o_) = rn (Mf no_ nn_ (mtc vo_ vn_ fo_ fn_) tk_ (fun w_ => decide (¬ ba_ w_ = -10005))) nn_ o_ w_) (fun u1 t1 => va_P G_ vwCl ((fun u_ => wMd cI cZ am_ bu_ no_ vo_ fo_ nn_ vn_ fn_ k_ osr nsr lnr ba_ tk_ u_ cp_ cd_ so_ me_ bf_) u1) t1.heap) A_) args s_ 0 0 A_ = Q_
  have lp5 : ∀ (n_ : Nat) (t_ : Nat) (wz : Int) (r1_ : Nat → Nat) (H_ : Heap) (locs : List Loc) (ls_ : Array Slot), (wz = (t_ : Int) - 1) → (t_ ≤ nn_ + 1) → (t_ + 1 ≤ n_) → (∀ w_ o_, t_ ≤ w_ → w_ ≤ nn_ → o_ ≤ no_ → r1_ (49 * w_ + o_) = rn (Mf no_ nn_ (mtc vo_ vn_ fo_ fn_) tk_ (fun w_ => decide (¬ ba_ w_ = -10005))) nn_ o_ w_) → va_P G_ vwCl [(am_ 0, .inr (5, [.int (iI ((no_ : Nat) : Int)), .ref (am_ 1), .ref (am_ 2), .int (iI ((nn_ : Nat) : Int)), .ref (am_ 3), .ref (am_ 4), .int (iI (bZ bu_)), .int (iI ((k_ : Nat) : Int)), .ref (am_ 5), .ref (am_ 6), .ref (am_ 7), .ref (am_ 8), .ref (am_ 9), .ref (am_ 10), .int (iI ((cp_ : Nat) : Int)), .ref (am_ 11), .ref (am_ 12), .ref (am_ 13), .ref (am_ 14)])), (am_ 1, .inl (cI, 48, .inl (aI vo_))), (am_ 2, .inl (cZ, 48, .inl (aB fo_))), (am_ 3, .inl (cI, 48, .inl (aI vn_))), (am_ 4, .inl (cZ, 48, .inl (aB fn_))), (am_ 5, .inl (cI, 48, .inl (aN osr))), (am_ 6, .inl (cI, 48, .inl (aN nsr))), (am_ 7, .inl (cI, 48, .inl (aN lnr))), (am_ 8, .inl (cI, 48, .inl (aI ba_))), (am_ 9, .inl (cZ, 48, .inl (aB tk_))), (am_ 10, .inl (cI, 2401, .inl (aN r1_))), (am_ 11, .inl (cI, 48, .inl (aN cd_))), (am_ 12, .inl (cI, 48, .inl (aN so_))), (am_ 13, .inl (cI, 48, .inl (aI me_))), (am_ 14, .inl (cI, 48, .inl (aI bf_)))] H_ → va_D A_ [(am_ 0, .inr (5, [.int (iI ((no_ : Nat) : Int)), .ref (am_ 1), .ref (am_ 2), .int (iI ((nn_ : Nat) : Int)), .ref (am_ 3), .ref (am_ 4), .int (iI (bZ bu_)), .int (iI ((k_ : Nat) : Int)), .ref (am_ 5), .ref (am_ 6), .ref (am_ 7), .ref (am_ 8), .ref (am_ 9), .ref (am_ 10), .int (iI ((cp_ : Nat) : Int)), .ref (am_ 11), .ref (am_ 12), .ref (am_ 13), .ref (am_ 14)])), (am_ 1, .inl (cI, 48, .inl (aI vo_))), (am_ 2, .inl (cZ, 48, .inl (aB fo_))), (am_ 3, .inl (cI, 48, .inl (aI vn_))), (am_ 4, .inl (cZ, 48, .inl (aB fn_))), (am_ 5, .inl (cI, 48, .inl (aN osr))), (am_ 6, .inl (cI, 48, .inl (aN nsr))), (am_ 7, .inl (cI, 48, .inl (aN lnr))), (am_ 8, .inl (cI, 48, .inl (aI ba_))), (am_ 9, .inl (cZ, 48, .inl (aB tk_))), (am_ 10, .inl (cI, 2401, .inl (aN r1_))), (am_ 11, .inl (cI, 48, .inl (aN cd_))), (am_ 12, .inl (cI, 48, .inl (aN so_))), (am_ 13, .inl (cI, 48, .inl (aI me_))), (am_ 14, .inl (cI, 48, .inl (aI bf_)))] → va_S A_ s_.heap H_ locs → lv_has ls_ 4 [(0, .ref (am_ 0)), (1, .int (iI (wz)))] → W p_ l_ e_ (headSpec wsX5_findsRuns ({ frames := 1, cells := 0, slots := 0, locals := 24 })).room s_ m_ args below meth c_ H_ locs 0 0 Q_ (F0 m_ 5 ls_ []) := by
    intro n_
    induction n_ with
    | zero =>
      intro t_ wz r1_ H_ locs ls_ hwz htn hn_ hrow
      exact False.elim (by omega)
    | succ n_ ih5 =>
      intro t_ wz r1_ H_ locs ls_ hwz htn hn_ hrow hP_ hD_ hS_ hl_
      have lp14 : ∀ (n_ : Nat) (q_ : Nat) (oz : Int) (r1_ : Nat → Nat) (H_ : Heap) (locs : List Loc) (ls_ : Array Slot), (0 < t_) → (t_ ≤ nn_ + 1) → (oz = (q_ : Int) - 1) → (q_ ≤ no_ + 1) → (q_ + 1 ≤ n_) → (∀ w_ o_, t_ ≤ w_ → w_ ≤ nn_ → o_ ≤ no_ → r1_ (49 * w_ + o_) = rn (Mf no_ nn_ (mtc vo_ vn_ fo_ fn_) tk_ (fun w_ => decide (¬ ba_ w_ = -10005))) nn_ o_ w_) → (∀ o_, q_ ≤ o_ → o_ ≤ no_ → r1_ (49 * (t_ - 1) + o_) = rn (Mf no_ nn_ (mtc vo_ vn_ fo_ fn_) tk_ (fun w_ => decide (¬ ba_ w_ = -10005))) nn_ o_ (t_ - 1)) → va_P G_ vwCl [(am_ 0, .inr (5, [.int (iI ((no_ : Nat) : Int)), .ref (am_ 1), .ref (am_ 2), .int (iI ((nn_ : Nat) : Int)), .ref (am_ 3), .ref (am_ 4), .int (iI (bZ bu_)), .int (iI ((k_ : Nat) : Int)), .ref (am_ 5), .ref (am_ 6), .ref (am_ 7), .ref (am_ 8), .ref (am_ 9), .ref (am_ 10), .int (iI ((cp_ : Nat) : Int)), .ref (am_ 11), .ref (am_ 12), .ref (am_ 13), .ref (am_ 14)])), (am_ 1, .inl (cI, 48, .inl (aI vo_))), (am_ 2, .inl (cZ, 48, .inl (aB fo_))), (am_ 3, .inl (cI, 48, .inl (aI vn_))), (am_ 4, .inl (cZ, 48, .inl (aB fn_))), (am_ 5, .inl (cI, 48, .inl (aN osr))), (am_ 6, .inl (cI, 48, .inl (aN nsr))), (am_ 7, .inl (cI, 48, .inl (aN lnr))), (am_ 8, .inl (cI, 48, .inl (aI ba_))), (am_ 9, .inl (cZ, 48, .inl (aB tk_))), (am_ 10, .inl (cI, 2401, .inl (aN r1_))), (am_ 11, .inl (cI, 48, .inl (aN cd_))), (am_ 12, .inl (cI, 48, .inl (aN so_))), (am_ 13, .inl (cI, 48, .inl (aI me_))), (am_ 14, .inl (cI, 48, .inl (aI bf_)))] H_ → va_D A_ [(am_ 0, .inr (5, [.int (iI ((no_ : Nat) : Int)), .ref (am_ 1), .ref (am_ 2), .int (iI ((nn_ : Nat) : Int)), .ref (am_ 3), .ref (am_ 4), .int (iI (bZ bu_)), .int (iI ((k_ : Nat) : Int)), .ref (am_ 5), .ref (am_ 6), .ref (am_ 7), .ref (am_ 8), .ref (am_ 9), .ref (am_ 10), .int (iI ((cp_ : Nat) : Int)), .ref (am_ 11), .ref (am_ 12), .ref (am_ 13), .ref (am_ 14)])), (am_ 1, .inl (cI, 48, .inl (aI vo_))), (am_ 2, .inl (cZ, 48, .inl (aB fo_))), (am_ 3, .inl (cI, 48, .inl (aI vn_))), (am_ 4, .inl (cZ, 48, .inl (aB fn_))), (am_ 5, .inl (cI, 48, .inl (aN osr))), (am_ 6, .inl (cI, 48, .inl (aN nsr))), (am_ 7, .inl (cI, 48, .inl (aN lnr))), (am_ 8, .inl (cI, 48, .inl (aI ba_))), (am_ 9, .inl (cZ, 48, .inl (aB tk_))), (am_ 10, .inl (cI, 2401, .inl (aN r1_))), (am_ 11, .inl (cI, 48, .inl (aN cd_))), (am_ 12, .inl (cI, 48, .inl (aN so_))), (am_ 13, .inl (cI, 48, .inl (aI me_))), (am_ 14, .inl (cI, 48, .inl (aI bf_)))] → va_S A_ s_.heap H_ locs → lv_has ls_ 4 [(0, .ref (am_ 0)), (1, .int (iI (wz))), (2, .int (iI (oz)))] → W p_ l_ e_ (headSpec wsX5_findsRuns ({ frames := 1, cells := 0, slots := 0, locals := 24 })).room s_ m_ args below meth c_ H_ locs 0 0 Q_ (F0 m_ 14 ls_ []) := by
        intro n_
        induction n_ with
        | zero =>
          intro q_ oz r1_ H_ locs ls_ ht0 htn hoz hqn hn_ hrow hcur
          exact False.elim (by omega)
        | succ n_ ih14 =>
          intro q_ oz r1_ H_ locs ls_ ht0 htn hoz hqn hn_ hrow hcur hP_ hD_ hS_ hl_
          refine lv_iload_n hx_ hb_ dX5_findsRuns_14 rfl (lv_at hl_ 2 rfl) ?_
          refine q_if_lt (tgt := 112) hx_ hb_ dX5_findsRuns_15 (by decide) (⟨by omega, by omega⟩) (fun c15_ => ?_) (fun c15_ => ?_)
          · skip
            have hq1 : q_ = 0 := by omega
            refine q_iinc (k := 1) ((wz) + (-1)) hx_ hb_ dX5_findsRuns_112 hl_ rfl (rfl) (by decide) (lv' := [(1, .int (iI ((wz) + (-1)))), (0, .ref (am_ 0)), (2, .int (iI (oz)))]) rfl (fun ls_ hl_ => ?_)
            refine lv_goto (tgt := 5) hx_ hb_ dX5_findsRuns_115 (by decide) ?_
            exact ih5 (t_ - 1) (((wz) + (-1))) r1_ _ _ ls_ (by omega) (by omega) (by omega) (fun w_ o_ h1_ h2_ h3_ => by by_cases h4 : w_ = t_ - 1; rw [h4]; exact hcur o_ (by omega) h3_; exact hrow w_ o_ (by omega) h2_ h3_) hP_ hD_ hS_ (lv_sub hl_ [1, 0] rfl)
          · skip
            have hq1 : 0 < q_ := by omega
            refine lv_iload_n hx_ hb_ dX5_findsRuns_18 rfl (lv_at hl_ 1 rfl) ?_
            refine q_cast (b := ((t_ - 1 : Nat) : Int)) (by omega) ?_
            refine lv_aload_n hx_ hb_ dX5_findsRuns_19 rfl (lv_at hl_ 0 rfl) ?_
            refine va_get (D := G_) (ci := 5) (v := .int (iI ((nn_ : Nat) : Int))) (C := RX5) (T := TX5) (N := 19) hx_ hb_ hts hi5_ hown hK_ hP_ 0 rfl rfl 3 (by decide) hf57_ (fun _ h9 => h9) rfl dX5_findsRuns_20 ?_
            refine q_icmp_ge (tgt := 68) hx_ hb_ dX5_findsRuns_23 (by decide) (⟨by omega, by omega⟩) (⟨by omega, by omega⟩) (fun c23_ => ?_) (fun c23_ => ?_)
            · skip
              have er : 0 = rn (Mf no_ nn_ (mtc vo_ vn_ fo_ fn_) tk_ (fun w_ => decide (¬ ba_ w_ = -10005))) nn_ (q_ - 1) (t_ - 1) := (rn_no (by unfold Mf; rw [decide_eq_false (by omega)]; rfl)).symm
              refine lv_iconst (v := iI ((0 : Nat) : Int)) hx_ hb_ dX5_findsRuns_68 rfl ?_
              refine lv_istore_n (lv' := [(3, .int (iI ((0 : Nat) : Int))), (0, .ref (am_ 0)), (1, .int (iI (wz))), (2, .int (iI (oz)))]) hx_ hb_ dX5_findsRuns_69 rfl hl_ (by decide) rfl (fun ls_ hl_ => ?_)
              refine lv_aload_n hx_ hb_ dX5_findsRuns_70 rfl (lv_at hl_ 1 rfl) ?_
              refine va_get (D := G_) (ci := 5) (v := .ref (am_ 10)) (C := RX5) (T := TX5) (N := 19) hx_ hb_ hts hi5_ hown hK_ hP_ 0 rfl rfl 13 (by decide) hf38_ (fun _ h9 => h9) rfl dX5_findsRuns_71 ?_
              refine lv_bipush (v := iI ((49 : Nat) : Int)) hx_ hb_ dX5_findsRuns_74 rfl ?_
              refine lv_iload_n hx_ hb_ dX5_findsRuns_76 rfl (lv_at hl_ 2 rfl) ?_
              refine q_cast (b := ((t_ - 1 : Nat) : Int)) (by omega) ?_
              refine q_imulN hx_ hb_ dX5_findsRuns_77 ?_
              refine lv_iload_n hx_ hb_ dX5_findsRuns_78 rfl (lv_at hl_ 3 rfl) ?_
              refine q_cast (b := ((q_ - 1 : Nat) : Int)) (by omega) ?_
              refine q_iaddN hx_ hb_ dX5_findsRuns_79 ?_
              refine lv_iload_n hx_ hb_ dX5_findsRuns_80 rfl (lv_at hl_ 0 rfl) ?_
              refine q_if_eq (tgt := 104) hx_ hb_ dX5_findsRuns_81 (by decide) (⟨by decide, by decide⟩) (fun _ => ?_) (fun h0_ => absurd h0_ (by decide))
              refine lv_iconst (v := iI ((0 : Nat) : Int)) hx_ hb_ dX5_findsRuns_104 rfl ?_
              refine q_istN hx_ hb_ hK_ hP_ hD_ hS_ 10 rfl (by decide) ((49 * (t_ - 1)) + (q_ - 1)) (by omega) (0) dX5_findsRuns_105 (ws' := [(am_ 0, .inr (5, [.int (iI ((no_ : Nat) : Int)), .ref (am_ 1), .ref (am_ 2), .int (iI ((nn_ : Nat) : Int)), .ref (am_ 3), .ref (am_ 4), .int (iI (bZ bu_)), .int (iI ((k_ : Nat) : Int)), .ref (am_ 5), .ref (am_ 6), .ref (am_ 7), .ref (am_ 8), .ref (am_ 9), .ref (am_ 10), .int (iI ((cp_ : Nat) : Int)), .ref (am_ 11), .ref (am_ 12), .ref (am_ 13), .ref (am_ 14)])), (am_ 1, .inl (cI, 48, .inl (aI vo_))), (am_ 2, .inl (cZ, 48, .inl (aB fo_))), (am_ 3, .inl (cI, 48, .inl (aI vn_))), (am_ 4, .inl (cZ, 48, .inl (aB fn_))), (am_ 5, .inl (cI, 48, .inl (aN osr))), (am_ 6, .inl (cI, 48, .inl (aN nsr))), (am_ 7, .inl (cI, 48, .inl (aN lnr))), (am_ 8, .inl (cI, 48, .inl (aI ba_))), (am_ 9, .inl (cZ, 48, .inl (aB tk_))), (am_ 10, .inl (cI, 2401, .inl (aN (va_up r1_ ((49 * (t_ - 1)) + (q_ - 1)) 0)))), (am_ 11, .inl (cI, 48, .inl (aN cd_))), (am_ 12, .inl (cI, 48, .inl (aN so_))), (am_ 13, .inl (cI, 48, .inl (aI me_))), (am_ 14, .inl (cI, 48, .inl (aI bf_)))]) rfl (fun H_ locs hP_ hD_ hS_ => ?_)
              refine q_iinc (k := 3) ((oz) + (-1)) hx_ hb_ dX5_findsRuns_106 hl_ rfl (rfl) (by decide) (lv' := [(2, .int (iI ((oz) + (-1)))), (3, .int (iI ((0 : Nat) : Int))), (0, .ref (am_ 0)), (1, .int (iI (wz)))]) rfl (fun ls_ hl_ => ?_)
              refine lv_goto (tgt := 14) hx_ hb_ dX5_findsRuns_109 (by decide) ?_
              exact ih14 (q_ - 1) (((oz) + (-1))) (va_up r1_ ((49 * (t_ - 1)) + (q_ - 1)) 0) _ _ ls_ (ht0) (htn) (by omega) (by omega) (by omega) (fun w_ o_ h1_ h2_ h3_ => by rw [up_ne (by omega)]; exact hrow w_ o_ h1_ h2_ h3_) (fun o_ h1_ h2_ => by by_cases h4 : o_ = q_ - 1; rw [h4, up_eq]; exact er; rw [up_ne (by omega)]; exact hcur o_ (by omega) h2_) hP_ hD_ hS_ (lv_sub hl_ [2, 3, 0] rfl)
            · skip
              refine lv_iload_n hx_ hb_ dX5_findsRuns_26 rfl (lv_at hl_ 2 rfl) ?_
              refine q_cast (b := ((q_ - 1 : Nat) : Int)) (by omega) ?_
              refine lv_aload_n hx_ hb_ dX5_findsRuns_27 rfl (lv_at hl_ 0 rfl) ?_
              refine va_get (D := G_) (ci := 5) (v := .int (iI ((no_ : Nat) : Int))) (C := RX5) (T := TX5) (N := 19) hx_ hb_ hts hi5_ hown hK_ hP_ 0 rfl rfl 0 (by decide) hf65_ (fun _ h9 => h9) rfl dX5_findsRuns_28 ?_
              refine q_icmp_ge (tgt := 68) hx_ hb_ dX5_findsRuns_31 (by decide) (⟨by omega, by omega⟩) (⟨by omega, by omega⟩) (fun c31_ => ?_) (fun c31_ => ?_)
              · skip
                have er : 0 = rn (Mf no_ nn_ (mtc vo_ vn_ fo_ fn_) tk_ (fun w_ => decide (¬ ba_ w_ = -10005))) nn_ (q_ - 1) (t_ - 1) := (rn_no (by unfold Mf; rw [decide_eq_false (by omega)]; rfl)).symm
                refine lv_iconst (v := iI ((0 : Nat) : Int)) hx_ hb_ dX5_findsRuns_68 rfl ?_
                refine lv_istore_n (lv' := [(3, .int (iI ((0 : Nat) : Int))), (0, .ref (am_ 0)), (1, .int (iI (wz))), (2, .int (iI (oz)))]) hx_ hb_ dX5_findsRuns_69 rfl hl_ (by decide) rfl (fun ls_ hl_ => ?_)
                refine lv_aload_n hx_ hb_ dX5_findsRuns_70 rfl (lv_at hl_ 1 rfl) ?_
                refine va_get (D := G_) (ci := 5) (v := .ref (am_ 10)) (C := RX5) (T := TX5) (N := 19) hx_ hb_ hts hi5_ hown hK_ hP_ 0 rfl rfl 13 (by decide) hf38_ (fun _ h9 => h9) rfl dX5_findsRuns_71 ?_
                refine lv_bipush (v := iI ((49 : Nat) : Int)) hx_ hb_ dX5_findsRuns_74 rfl ?_
                refine lv_iload_n hx_ hb_ dX5_findsRuns_76 rfl (lv_at hl_ 2 rfl) ?_
                refine q_cast (b := ((t_ - 1 : Nat) : Int)) (by omega) ?_
                refine q_imulN hx_ hb_ dX5_findsRuns_77 ?_
                refine lv_iload_n hx_ hb_ dX5_findsRuns_78 rfl (lv_at hl_ 3 rfl) ?_
                refine q_cast (b := ((q_ - 1 : Nat) : Int)) (by omega) ?_
                refine q_iaddN hx_ hb_ dX5_findsRuns_79 ?_
                refine lv_iload_n hx_ hb_ dX5_findsRuns_80 rfl (lv_at hl_ 0 rfl) ?_
                refine q_if_eq (tgt := 104) hx_ hb_ dX5_findsRuns_81 (by decide) (⟨by decide, by decide⟩) (fun _ => ?_) (fun h0_ => absurd h0_ (by decide))
                refine lv_iconst (v := iI ((0 : Nat) : Int)) hx_ hb_ dX5_findsRuns_104 rfl ?_
                refine q_istN hx_ hb_ hK_ hP_ hD_ hS_ 10 rfl (by decide) ((49 * (t_ - 1)) + (q_ - 1)) (by omega) (0) dX5_findsRuns_105 (ws' := [(am_ 0, .inr (5, [.int (iI ((no_ : Nat) : Int)), .ref (am_ 1), .ref (am_ 2), .int (iI ((nn_ : Nat) : Int)), .ref (am_ 3), .ref (am_ 4), .int (iI (bZ bu_)), .int (iI ((k_ : Nat) : Int)), .ref (am_ 5), .ref (am_ 6), .ref (am_ 7), .ref (am_ 8), .ref (am_ 9), .ref (am_ 10), .int (iI ((cp_ : Nat) : Int)), .ref (am_ 11), .ref (am_ 12), .ref (am_ 13), .ref (am_ 14)])), (am_ 1, .inl (cI, 48, .inl (aI vo_))), (am_ 2, .inl (cZ, 48, .inl (aB fo_))), (am_ 3, .inl (cI, 48, .inl (aI vn_))), (am_ 4, .inl (cZ, 48, .inl (aB fn_))), (am_ 5, .inl (cI, 48, .inl (aN osr))), (am_ 6, .inl (cI, 48, .inl (aN nsr))), (am_ 7, .inl (cI, 48, .inl (aN lnr))), (am_ 8, .inl (cI, 48, .inl (aI ba_))), (am_ 9, .inl (cZ, 48, .inl (aB tk_))), (am_ 10, .inl (cI, 2401, .inl (aN (va_up r1_ ((49 * (t_ - 1)) + (q_ - 1)) 0)))), (am_ 11, .inl (cI, 48, .inl (aN cd_))), (am_ 12, .inl (cI, 48, .inl (aN so_))), (am_ 13, .inl (cI, 48, .inl (aI me_))), (am_ 14, .inl (cI, 48, .inl (aI bf_)))]) rfl (fun H_ locs hP_ hD_ hS_ => ?_)
                refine q_iinc (k := 3) ((oz) + (-1)) hx_ hb_ dX5_findsRuns_106 hl_ rfl (rfl) (by decide) (lv' := [(2, .int (iI ((oz) + (-1)))), (3, .int (iI ((0 : Nat) : Int))), (0, .ref (am_ 0)), (1, .int (iI (wz)))]) rfl (fun ls_ hl_ => ?_)
                refine lv_goto (tgt := 14) hx_ hb_ dX5_findsRuns_109 (by decide) ?_
                exact ih14 (q_ - 1) (((oz) + (-1))) (va_up r1_ ((49 * (t_ - 1)) + (q_ - 1)) 0) _ _ ls_ (ht0) (htn) (by omega) (by omega) (by omega) (fun w_ o_ h1_ h2_ h3_ => by rw [up_ne (by omega)]; exact hrow w_ o_ h1_ h2_ h3_) (fun o_ h1_ h2_ => by by_cases h4 : o_ = q_ - 1; rw [h4, up_eq]; exact er; rw [up_ne (by omega)]; exact hcur o_ (by omega) h2_) hP_ hD_ hS_ (lv_sub hl_ [2, 3, 0] rfl)
              · skip
                have fba := hbr (t_ - 1) (by omega)
                refine lv_aload_n hx_ hb_ dX5_findsRuns_34 rfl (lv_at hl_ 0 rfl) ?_
                refine va_get (D := G_) (ci := 5) (v := .ref (am_ 8)) (C := RX5) (T := TX5) (N := 19) hx_ hb_ hts hi5_ hown hK_ hP_ 0 rfl rfl 11 (by decide) hf32_ (fun _ h9 => h9) rfl dX5_findsRuns_35 ?_
                refine lv_iload_n hx_ hb_ dX5_findsRuns_38 rfl (lv_at hl_ 1 rfl) ?_
                refine q_cast (b := ((t_ - 1 : Nat) : Int)) (by omega) ?_
                refine q_ildI hx_ hb_ hK_ hP_ 8 rfl (by decide) (t_ - 1) (by omega) (ba_ (t_ - 1)) (rfl) dX5_findsRuns_39 ?_
                refine lv_sipush (v := iI (-10005)) hx_ hb_ dX5_findsRuns_40 rfl ?_
                refine q_icmp_ne (tgt := 68) hx_ hb_ dX5_findsRuns_43 (by decide) (⟨by omega, by omega⟩) (⟨by decide, by decide⟩) (fun c43_ => ?_) (fun c43_ => ?_)
                · skip
                  have er : 0 = rn (Mf no_ nn_ (mtc vo_ vn_ fo_ fn_) tk_ (fun w_ => decide (¬ ba_ w_ = -10005))) nn_ (q_ - 1) (t_ - 1) := (rn_no (by unfold Mf; simp [c43_])).symm
                  refine lv_iconst (v := iI ((0 : Nat) : Int)) hx_ hb_ dX5_findsRuns_68 rfl ?_
                  refine lv_istore_n (lv' := [(3, .int (iI ((0 : Nat) : Int))), (0, .ref (am_ 0)), (1, .int (iI (wz))), (2, .int (iI (oz)))]) hx_ hb_ dX5_findsRuns_69 rfl hl_ (by decide) rfl (fun ls_ hl_ => ?_)
                  refine lv_aload_n hx_ hb_ dX5_findsRuns_70 rfl (lv_at hl_ 1 rfl) ?_
                  refine va_get (D := G_) (ci := 5) (v := .ref (am_ 10)) (C := RX5) (T := TX5) (N := 19) hx_ hb_ hts hi5_ hown hK_ hP_ 0 rfl rfl 13 (by decide) hf38_ (fun _ h9 => h9) rfl dX5_findsRuns_71 ?_
                  refine lv_bipush (v := iI ((49 : Nat) : Int)) hx_ hb_ dX5_findsRuns_74 rfl ?_
                  refine lv_iload_n hx_ hb_ dX5_findsRuns_76 rfl (lv_at hl_ 2 rfl) ?_
                  refine q_cast (b := ((t_ - 1 : Nat) : Int)) (by omega) ?_
                  refine q_imulN hx_ hb_ dX5_findsRuns_77 ?_
                  refine lv_iload_n hx_ hb_ dX5_findsRuns_78 rfl (lv_at hl_ 3 rfl) ?_
                  refine q_cast (b := ((q_ - 1 : Nat) : Int)) (by omega) ?_
                  refine q_iaddN hx_ hb_ dX5_findsRuns_79 ?_
                  refine lv_iload_n hx_ hb_ dX5_findsRuns_80 rfl (lv_at hl_ 0 rfl) ?_
                  refine q_if_eq (tgt := 104) hx_ hb_ dX5_findsRuns_81 (by decide) (⟨by decide, by decide⟩) (fun _ => ?_) (fun h0_ => absurd h0_ (by decide))
                  refine lv_iconst (v := iI ((0 : Nat) : Int)) hx_ hb_ dX5_findsRuns_104 rfl ?_
                  refine q_istN hx_ hb_ hK_ hP_ hD_ hS_ 10 rfl (by decide) ((49 * (t_ - 1)) + (q_ - 1)) (by omega) (0) dX5_findsRuns_105 (ws' := [(am_ 0, .inr (5, [.int (iI ((no_ : Nat) : Int)), .ref (am_ 1), .ref (am_ 2), .int (iI ((nn_ : Nat) : Int)), .ref (am_ 3), .ref (am_ 4), .int (iI (bZ bu_)), .int (iI ((k_ : Nat) : Int)), .ref (am_ 5), .ref (am_ 6), .ref (am_ 7), .ref (am_ 8), .ref (am_ 9), .ref (am_ 10), .int (iI ((cp_ : Nat) : Int)), .ref (am_ 11), .ref (am_ 12), .ref (am_ 13), .ref (am_ 14)])), (am_ 1, .inl (cI, 48, .inl (aI vo_))), (am_ 2, .inl (cZ, 48, .inl (aB fo_))), (am_ 3, .inl (cI, 48, .inl (aI vn_))), (am_ 4, .inl (cZ, 48, .inl (aB fn_))), (am_ 5, .inl (cI, 48, .inl (aN osr))), (am_ 6, .inl (cI, 48, .inl (aN nsr))), (am_ 7, .inl (cI, 48, .inl (aN lnr))), (am_ 8, .inl (cI, 48, .inl (aI ba_))), (am_ 9, .inl (cZ, 48, .inl (aB tk_))), (am_ 10, .inl (cI, 2401, .inl (aN (va_up r1_ ((49 * (t_ - 1)) + (q_ - 1)) 0)))), (am_ 11, .inl (cI, 48, .inl (aN cd_))), (am_ 12, .inl (cI, 48, .inl (aN so_))), (am_ 13, .inl (cI, 48, .inl (aI me_))), (am_ 14, .inl (cI, 48, .inl (aI bf_)))]) rfl (fun H_ locs hP_ hD_ hS_ => ?_)
                  refine q_iinc (k := 3) ((oz) + (-1)) hx_ hb_ dX5_findsRuns_106 hl_ rfl (rfl) (by decide) (lv' := [(2, .int (iI ((oz) + (-1)))), (3, .int (iI ((0 : Nat) : Int))), (0, .ref (am_ 0)), (1, .int (iI (wz)))]) rfl (fun ls_ hl_ => ?_)
                  refine lv_goto (tgt := 14) hx_ hb_ dX5_findsRuns_109 (by decide) ?_
                  exact ih14 (q_ - 1) (((oz) + (-1))) (va_up r1_ ((49 * (t_ - 1)) + (q_ - 1)) 0) _ _ ls_ (ht0) (htn) (by omega) (by omega) (by omega) (fun w_ o_ h1_ h2_ h3_ => by rw [up_ne (by omega)]; exact hrow w_ o_ h1_ h2_ h3_) (fun o_ h1_ h2_ => by by_cases h4 : o_ = q_ - 1; rw [h4, up_eq]; exact er; rw [up_ne (by omega)]; exact hcur o_ (by omega) h2_) hP_ hD_ hS_ (lv_sub hl_ [2, 3, 0] rfl)
                · skip
                  refine lv_aload_n hx_ hb_ dX5_findsRuns_46 rfl (lv_at hl_ 0 rfl) ?_
                  refine va_get (D := G_) (ci := 5) (v := .ref (am_ 9)) (C := RX5) (T := TX5) (N := 19) hx_ hb_ hts hi5_ hown hK_ hP_ 0 rfl rfl 12 (by decide) hf35_ (fun _ h9 => h9) rfl dX5_findsRuns_47 ?_
                  refine lv_iload_n hx_ hb_ dX5_findsRuns_50 rfl (lv_at hl_ 2 rfl) ?_
                  refine q_cast (b := ((q_ - 1 : Nat) : Int)) (by omega) ?_
                  refine q_zld hx_ hb_ hK_ hP_ 9 rfl (by decide) (q_ - 1) (by omega) (tk_ (q_ - 1)) (rfl) dX5_findsRuns_51 ?_
                  refine q_bt (tgt := 68) hx_ hb_ dX5_findsRuns_52 (by decide) (fun c52_ => ?_) (fun c52_ => ?_)
                  · skip
                    have er : 0 = rn (Mf no_ nn_ (mtc vo_ vn_ fo_ fn_) tk_ (fun w_ => decide (¬ ba_ w_ = -10005))) nn_ (q_ - 1) (t_ - 1) := (rn_no (by unfold Mf; simp [c52_])).symm
                    refine lv_iconst (v := iI ((0 : Nat) : Int)) hx_ hb_ dX5_findsRuns_68 rfl ?_
                    refine lv_istore_n (lv' := [(3, .int (iI ((0 : Nat) : Int))), (0, .ref (am_ 0)), (1, .int (iI (wz))), (2, .int (iI (oz)))]) hx_ hb_ dX5_findsRuns_69 rfl hl_ (by decide) rfl (fun ls_ hl_ => ?_)
                    refine lv_aload_n hx_ hb_ dX5_findsRuns_70 rfl (lv_at hl_ 1 rfl) ?_
                    refine va_get (D := G_) (ci := 5) (v := .ref (am_ 10)) (C := RX5) (T := TX5) (N := 19) hx_ hb_ hts hi5_ hown hK_ hP_ 0 rfl rfl 13 (by decide) hf38_ (fun _ h9 => h9) rfl dX5_findsRuns_71 ?_
                    refine lv_bipush (v := iI ((49 : Nat) : Int)) hx_ hb_ dX5_findsRuns_74 rfl ?_
                    refine lv_iload_n hx_ hb_ dX5_findsRuns_76 rfl (lv_at hl_ 2 rfl) ?_
                    refine q_cast (b := ((t_ - 1 : Nat) : Int)) (by omega) ?_
                    refine q_imulN hx_ hb_ dX5_findsRuns_77 ?_
                    refine lv_iload_n hx_ hb_ dX5_findsRuns_78 rfl (lv_at hl_ 3 rfl) ?_
                    refine q_cast (b := ((q_ - 1 : Nat) : Int)) (by omega) ?_
                    refine q_iaddN hx_ hb_ dX5_findsRuns_79 ?_
                    refine lv_iload_n hx_ hb_ dX5_findsRuns_80 rfl (lv_at hl_ 0 rfl) ?_
                    refine q_if_eq (tgt := 104) hx_ hb_ dX5_findsRuns_81 (by decide) (⟨by decide, by decide⟩) (fun _ => ?_) (fun h0_ => absurd h0_ (by decide))
                    refine lv_iconst (v := iI ((0 : Nat) : Int)) hx_ hb_ dX5_findsRuns_104 rfl ?_
                    refine q_istN hx_ hb_ hK_ hP_ hD_ hS_ 10 rfl (by decide) ((49 * (t_ - 1)) + (q_ - 1)) (by omega) (0) dX5_findsRuns_105 (ws' := [(am_ 0, .inr (5, [.int (iI ((no_ : Nat) : Int)), .ref (am_ 1), .ref (am_ 2), .int (iI ((nn_ : Nat) : Int)), .ref (am_ 3), .ref (am_ 4), .int (iI (bZ bu_)), .int (iI ((k_ : Nat) : Int)), .ref (am_ 5), .ref (am_ 6), .ref (am_ 7), .ref (am_ 8), .ref (am_ 9), .ref (am_ 10), .int (iI ((cp_ : Nat) : Int)), .ref (am_ 11), .ref (am_ 12), .ref (am_ 13), .ref (am_ 14)])), (am_ 1, .inl (cI, 48, .inl (aI vo_))), (am_ 2, .inl (cZ, 48, .inl (aB fo_))), (am_ 3, .inl (cI, 48, .inl (aI vn_))), (am_ 4, .inl (cZ, 48, .inl (aB fn_))), (am_ 5, .inl (cI, 48, .inl (aN osr))), (am_ 6, .inl (cI, 48, .inl (aN nsr))), (am_ 7, .inl (cI, 48, .inl (aN lnr))), (am_ 8, .inl (cI, 48, .inl (aI ba_))), (am_ 9, .inl (cZ, 48, .inl (aB tk_))), (am_ 10, .inl (cI, 2401, .inl (aN (va_up r1_ ((49 * (t_ - 1)) + (q_ - 1)) 0)))), (am_ 11, .inl (cI, 48, .inl (aN cd_))), (am_ 12, .inl (cI, 48, .inl (aN so_))), (am_ 13, .inl (cI, 48, .inl (aI me_))), (am_ 14, .inl (cI, 48, .inl (aI bf_)))]) rfl (fun H_ locs hP_ hD_ hS_ => ?_)
                    refine q_iinc (k := 3) ((oz) + (-1)) hx_ hb_ dX5_findsRuns_106 hl_ rfl (rfl) (by decide) (lv' := [(2, .int (iI ((oz) + (-1)))), (3, .int (iI ((0 : Nat) : Int))), (0, .ref (am_ 0)), (1, .int (iI (wz)))]) rfl (fun ls_ hl_ => ?_)
                    refine lv_goto (tgt := 14) hx_ hb_ dX5_findsRuns_109 (by decide) ?_
                    exact ih14 (q_ - 1) (((oz) + (-1))) (va_up r1_ ((49 * (t_ - 1)) + (q_ - 1)) 0) _ _ ls_ (ht0) (htn) (by omega) (by omega) (by omega) (fun w_ o_ h1_ h2_ h3_ => by rw [up_ne (by omega)]; exact hrow w_ o_ h1_ h2_ h3_) (fun o_ h1_ h2_ => by by_cases h4 : o_ = q_ - 1; rw [h4, up_eq]; exact er; rw [up_ne (by omega)]; exact hcur o_ (by omega) h2_) hP_ hD_ hS_ (lv_sub hl_ [2, 3, 0] rfl)
                  · skip
                    refine lv_aload_n hx_ hb_ dX5_findsRuns_55 rfl (lv_at hl_ 0 rfl) ?_
                    refine lv_iload_n hx_ hb_ dX5_findsRuns_56 rfl (lv_at hl_ 2 rfl) ?_
                    refine q_cast (b := ((q_ - 1 : Nat) : Int)) (by omega) ?_
                    refine lv_iload_n hx_ hb_ dX5_findsRuns_57 rfl (lv_at hl_ 1 rfl) ?_
                    refine q_cast (b := ((t_ - 1 : Nat) : Int)) (by omega) ?_
                    refine ro_V (As := [.int (iI ((q_ - 1 : Nat) : Int)), .int (iI ((t_ - 1 : Nat) : Int))]) (rest := []) ⟨hx_, hb_, hml, hown, hts⟩ (c_X5_matches l_ G_ cI cZ am_ bu_ no_ vo_ fo_ nn_ vn_ fn_ k_ osr nsr lnr ba_ tk_ r1_ cp_ cd_ so_ me_ bf_ (q_ - 1) (t_ - 1) hno hnn hvo hvn (by omega) (by omega)) (cwV 2 hts gX5_findsRuns_X5_matches rfl rfl rfl (by decide +kernel) ⟨Nat.le_of_ble_eq_true rfl, Nat.le_of_ble_eq_true rfl⟩) (hP_.sub (ws' := [(am_ 0, .inr (5, [.int (iI ((no_ : Nat) : Int)), .ref (am_ 1), .ref (am_ 2), .int (iI ((nn_ : Nat) : Int)), .ref (am_ 3), .ref (am_ 4), .int (iI (bZ bu_)), .int (iI ((k_ : Nat) : Int)), .ref (am_ 5), .ref (am_ 6), .ref (am_ 7), .ref (am_ 8), .ref (am_ 9), .ref (am_ 10), .int (iI ((cp_ : Nat) : Int)), .ref (am_ 11), .ref (am_ 12), .ref (am_ 13), .ref (am_ 14)])), (am_ 1, .inl (cI, 48, .inl (aI vo_))), (am_ 2, .inl (cZ, 48, .inl (aB fo_))), (am_ 3, .inl (cI, 48, .inl (aI vn_))), (am_ 4, .inl (cZ, 48, .inl (aB fn_))), (am_ 5, .inl (cI, 48, .inl (aN osr))), (am_ 6, .inl (cI, 48, .inl (aN nsr))), (am_ 7, .inl (cI, 48, .inl (aN lnr))), (am_ 8, .inl (cI, 48, .inl (aI ba_))), (am_ 9, .inl (cZ, 48, .inl (aB tk_))), (am_ 10, .inl (cI, 2401, .inl (aN r1_))), (am_ 11, .inl (cI, 48, .inl (aN cd_))), (am_ 12, .inl (cI, 48, .inl (aN so_))), (am_ 13, .inl (cI, 48, .inl (aI me_))), (am_ 14, .inl (cI, 48, .inl (aI bf_)))]) [0, 1, 2, 3, 4, 5, 6, 7, 8, 9, 10, 11, 12, 13, 14] rfl) hK_ 0 rfl rfl rfl hl_.1 rfl (Nat.le_of_ble_eq_true rfl) dX5_findsRuns_58 ⟨Nat.zero_le _, Nat.zero_le _⟩ ?_
                    refine q_bf (tgt := 68) hx_ hb_ dX5_findsRuns_61 (by decide) (fun c61_ => ?_) (fun c61_ => ?_)
                    · skip
                      have er : 0 = rn (Mf no_ nn_ (mtc vo_ vn_ fo_ fn_) tk_ (fun w_ => decide (¬ ba_ w_ = -10005))) nn_ (q_ - 1) (t_ - 1) := (rn_no (by unfold Mf; simp [c61_])).symm
                      refine lv_iconst (v := iI ((0 : Nat) : Int)) hx_ hb_ dX5_findsRuns_68 rfl ?_
                      refine lv_istore_n (lv' := [(3, .int (iI ((0 : Nat) : Int))), (0, .ref (am_ 0)), (1, .int (iI (wz))), (2, .int (iI (oz)))]) hx_ hb_ dX5_findsRuns_69 rfl hl_ (by decide) rfl (fun ls_ hl_ => ?_)
                      refine lv_aload_n hx_ hb_ dX5_findsRuns_70 rfl (lv_at hl_ 1 rfl) ?_
                      refine va_get (D := G_) (ci := 5) (v := .ref (am_ 10)) (C := RX5) (T := TX5) (N := 19) hx_ hb_ hts hi5_ hown hK_ hP_ 0 rfl rfl 13 (by decide) hf38_ (fun _ h9 => h9) rfl dX5_findsRuns_71 ?_
                      refine lv_bipush (v := iI ((49 : Nat) : Int)) hx_ hb_ dX5_findsRuns_74 rfl ?_
                      refine lv_iload_n hx_ hb_ dX5_findsRuns_76 rfl (lv_at hl_ 2 rfl) ?_
                      refine q_cast (b := ((t_ - 1 : Nat) : Int)) (by omega) ?_
                      refine q_imulN hx_ hb_ dX5_findsRuns_77 ?_
                      refine lv_iload_n hx_ hb_ dX5_findsRuns_78 rfl (lv_at hl_ 3 rfl) ?_
                      refine q_cast (b := ((q_ - 1 : Nat) : Int)) (by omega) ?_
                      refine q_iaddN hx_ hb_ dX5_findsRuns_79 ?_
                      refine lv_iload_n hx_ hb_ dX5_findsRuns_80 rfl (lv_at hl_ 0 rfl) ?_
                      refine q_if_eq (tgt := 104) hx_ hb_ dX5_findsRuns_81 (by decide) (⟨by decide, by decide⟩) (fun _ => ?_) (fun h0_ => absurd h0_ (by decide))
                      refine lv_iconst (v := iI ((0 : Nat) : Int)) hx_ hb_ dX5_findsRuns_104 rfl ?_
                      refine q_istN hx_ hb_ hK_ hP_ hD_ hS_ 10 rfl (by decide) ((49 * (t_ - 1)) + (q_ - 1)) (by omega) (0) dX5_findsRuns_105 (ws' := [(am_ 0, .inr (5, [.int (iI ((no_ : Nat) : Int)), .ref (am_ 1), .ref (am_ 2), .int (iI ((nn_ : Nat) : Int)), .ref (am_ 3), .ref (am_ 4), .int (iI (bZ bu_)), .int (iI ((k_ : Nat) : Int)), .ref (am_ 5), .ref (am_ 6), .ref (am_ 7), .ref (am_ 8), .ref (am_ 9), .ref (am_ 10), .int (iI ((cp_ : Nat) : Int)), .ref (am_ 11), .ref (am_ 12), .ref (am_ 13), .ref (am_ 14)])), (am_ 1, .inl (cI, 48, .inl (aI vo_))), (am_ 2, .inl (cZ, 48, .inl (aB fo_))), (am_ 3, .inl (cI, 48, .inl (aI vn_))), (am_ 4, .inl (cZ, 48, .inl (aB fn_))), (am_ 5, .inl (cI, 48, .inl (aN osr))), (am_ 6, .inl (cI, 48, .inl (aN nsr))), (am_ 7, .inl (cI, 48, .inl (aN lnr))), (am_ 8, .inl (cI, 48, .inl (aI ba_))), (am_ 9, .inl (cZ, 48, .inl (aB tk_))), (am_ 10, .inl (cI, 2401, .inl (aN (va_up r1_ ((49 * (t_ - 1)) + (q_ - 1)) 0)))), (am_ 11, .inl (cI, 48, .inl (aN cd_))), (am_ 12, .inl (cI, 48, .inl (aN so_))), (am_ 13, .inl (cI, 48, .inl (aI me_))), (am_ 14, .inl (cI, 48, .inl (aI bf_)))]) rfl (fun H_ locs hP_ hD_ hS_ => ?_)
                      refine q_iinc (k := 3) ((oz) + (-1)) hx_ hb_ dX5_findsRuns_106 hl_ rfl (rfl) (by decide) (lv' := [(2, .int (iI ((oz) + (-1)))), (3, .int (iI ((0 : Nat) : Int))), (0, .ref (am_ 0)), (1, .int (iI (wz)))]) rfl (fun ls_ hl_ => ?_)
                      refine lv_goto (tgt := 14) hx_ hb_ dX5_findsRuns_109 (by decide) ?_
                      exact ih14 (q_ - 1) (((oz) + (-1))) (va_up r1_ ((49 * (t_ - 1)) + (q_ - 1)) 0) _ _ ls_ (ht0) (htn) (by omega) (by omega) (by omega) (fun w_ o_ h1_ h2_ h3_ => by rw [up_ne (by omega)]; exact hrow w_ o_ h1_ h2_ h3_) (fun o_ h1_ h2_ => by by_cases h4 : o_ = q_ - 1; rw [h4, up_eq]; exact er; rw [up_ne (by omega)]; exact hcur o_ (by omega) h2_) hP_ hD_ hS_ (lv_sub hl_ [2, 3, 0] rfl)
                    · skip
                      have er : 1 + rn (Mf no_ nn_ (mtc vo_ vn_ fo_ fn_) tk_ (fun w_ => decide (¬ ba_ w_ = -10005))) nn_ (q_ - 1 + 1) (t_ - 1 + 1) = rn (Mf no_ nn_ (mtc vo_ vn_ fo_ fn_) tk_ (fun w_ => decide (¬ ba_ w_ = -10005))) nn_ (q_ - 1) (t_ - 1) := by rw [rn_yes (o := q_ - 1) (w := t_ - 1) (by omega) (by unfold Mf; simp [c43_, c52_, c61_]; omega)]; omega
                      refine lv_iconst (v := iI ((1 : Nat) : Int)) hx_ hb_ dX5_findsRuns_64 rfl ?_
                      refine lv_goto (tgt := 69) hx_ hb_ dX5_findsRuns_65 (by decide) ?_
                      refine lv_istore_n (lv' := [(3, .int (iI ((1 : Nat) : Int))), (0, .ref (am_ 0)), (1, .int (iI (wz))), (2, .int (iI (oz)))]) hx_ hb_ dX5_findsRuns_69 rfl hl_ (by decide) rfl (fun ls_ hl_ => ?_)
                      refine lv_aload_n hx_ hb_ dX5_findsRuns_70 rfl (lv_at hl_ 1 rfl) ?_
                      refine va_get (D := G_) (ci := 5) (v := .ref (am_ 10)) (C := RX5) (T := TX5) (N := 19) hx_ hb_ hts hi5_ hown hK_ hP_ 0 rfl rfl 13 (by decide) hf38_ (fun _ h9 => h9) rfl dX5_findsRuns_71 ?_
                      refine lv_bipush (v := iI ((49 : Nat) : Int)) hx_ hb_ dX5_findsRuns_74 rfl ?_
                      refine lv_iload_n hx_ hb_ dX5_findsRuns_76 rfl (lv_at hl_ 2 rfl) ?_
                      refine q_cast (b := ((t_ - 1 : Nat) : Int)) (by omega) ?_
                      refine q_imulN hx_ hb_ dX5_findsRuns_77 ?_
                      refine lv_iload_n hx_ hb_ dX5_findsRuns_78 rfl (lv_at hl_ 3 rfl) ?_
                      refine q_cast (b := ((q_ - 1 : Nat) : Int)) (by omega) ?_
                      refine q_iaddN hx_ hb_ dX5_findsRuns_79 ?_
                      refine lv_iload_n hx_ hb_ dX5_findsRuns_80 rfl (lv_at hl_ 0 rfl) ?_
                      refine q_if_eq (tgt := 104) hx_ hb_ dX5_findsRuns_81 (by decide) (⟨by decide, by decide⟩) (fun h0_ => absurd h0_ (by decide)) (fun _ => ?_)
                      refine lv_iconst (v := iI ((1 : Nat) : Int)) hx_ hb_ dX5_findsRuns_84 rfl ?_
                      refine lv_aload_n hx_ hb_ dX5_findsRuns_85 rfl (lv_at hl_ 1 rfl) ?_
                      refine va_get (D := G_) (ci := 5) (v := .ref (am_ 10)) (C := RX5) (T := TX5) (N := 19) hx_ hb_ hts hi5_ hown hK_ hP_ 0 rfl rfl 13 (by decide) hf38_ (fun _ h9 => h9) rfl dX5_findsRuns_86 ?_
                      refine lv_bipush (v := iI ((49 : Nat) : Int)) hx_ hb_ dX5_findsRuns_89 rfl ?_
                      refine lv_iload_n hx_ hb_ dX5_findsRuns_91 rfl (lv_at hl_ 2 rfl) ?_
                      refine q_cast (b := ((t_ - 1 : Nat) : Int)) (by omega) ?_
                      refine lv_iconst (v := iI ((1 : Nat) : Int)) hx_ hb_ dX5_findsRuns_92 rfl ?_
                      refine q_iaddN hx_ hb_ dX5_findsRuns_93 ?_
                      refine q_imulN hx_ hb_ dX5_findsRuns_94 ?_
                      refine lv_iload_n hx_ hb_ dX5_findsRuns_95 rfl (lv_at hl_ 3 rfl) ?_
                      refine q_cast (b := ((q_ - 1 : Nat) : Int)) (by omega) ?_
                      refine q_iaddN hx_ hb_ dX5_findsRuns_96 ?_
                      refine lv_iconst (v := iI ((1 : Nat) : Int)) hx_ hb_ dX5_findsRuns_97 rfl ?_
                      refine q_iaddN hx_ hb_ dX5_findsRuns_98 ?_
                      refine q_ildN hx_ hb_ hK_ hP_ 10 rfl (by decide) (((49 * ((t_ - 1) + 1)) + (q_ - 1)) + 1) (by omega) (rn (Mf no_ nn_ (mtc vo_ vn_ fo_ fn_) tk_ (fun w_ => decide (¬ ba_ w_ = -10005))) nn_ (q_ - 1 + 1) (t_ - 1 + 1)) (by rw [show 49 * (t_ - 1 + 1) + (q_ - 1) + 1 = 49 * (t_ - 1 + 1) + (q_ - 1 + 1) from by omega]; exact hrow _ _ (by omega) (by omega) (by omega)) dX5_findsRuns_99 ?_
                      refine q_iaddN hx_ hb_ dX5_findsRuns_100 ?_
                      refine lv_goto (tgt := 105) hx_ hb_ dX5_findsRuns_101 (by decide) ?_
                      refine q_istN hx_ hb_ hK_ hP_ hD_ hS_ 10 rfl (by decide) ((49 * (t_ - 1)) + (q_ - 1)) (by omega) (1 + (rn (Mf no_ nn_ (mtc vo_ vn_ fo_ fn_) tk_ (fun w_ => decide (¬ ba_ w_ = -10005))) nn_ (q_ - 1 + 1) (t_ - 1 + 1))) dX5_findsRuns_105 (ws' := [(am_ 0, .inr (5, [.int (iI ((no_ : Nat) : Int)), .ref (am_ 1), .ref (am_ 2), .int (iI ((nn_ : Nat) : Int)), .ref (am_ 3), .ref (am_ 4), .int (iI (bZ bu_)), .int (iI ((k_ : Nat) : Int)), .ref (am_ 5), .ref (am_ 6), .ref (am_ 7), .ref (am_ 8), .ref (am_ 9), .ref (am_ 10), .int (iI ((cp_ : Nat) : Int)), .ref (am_ 11), .ref (am_ 12), .ref (am_ 13), .ref (am_ 14)])), (am_ 1, .inl (cI, 48, .inl (aI vo_))), (am_ 2, .inl (cZ, 48, .inl (aB fo_))), (am_ 3, .inl (cI, 48, .inl (aI vn_))), (am_ 4, .inl (cZ, 48, .inl (aB fn_))), (am_ 5, .inl (cI, 48, .inl (aN osr))), (am_ 6, .inl (cI, 48, .inl (aN nsr))), (am_ 7, .inl (cI, 48, .inl (aN lnr))), (am_ 8, .inl (cI, 48, .inl (aI ba_))), (am_ 9, .inl (cZ, 48, .inl (aB tk_))), (am_ 10, .inl (cI, 2401, .inl (aN (va_up r1_ ((49 * (t_ - 1)) + (q_ - 1)) (1 + (rn (Mf no_ nn_ (mtc vo_ vn_ fo_ fn_) tk_ (fun w_ => decide (¬ ba_ w_ = -10005))) nn_ (q_ - 1 + 1) (t_ - 1 + 1))))))), (am_ 11, .inl (cI, 48, .inl (aN cd_))), (am_ 12, .inl (cI, 48, .inl (aN so_))), (am_ 13, .inl (cI, 48, .inl (aI me_))), (am_ 14, .inl (cI, 48, .inl (aI bf_)))]) rfl (fun H_ locs hP_ hD_ hS_ => ?_)
                      refine q_iinc (k := 3) ((oz) + (-1)) hx_ hb_ dX5_findsRuns_106 hl_ rfl (rfl) (by decide) (lv' := [(2, .int (iI ((oz) + (-1)))), (3, .int (iI ((1 : Nat) : Int))), (0, .ref (am_ 0)), (1, .int (iI (wz)))]) rfl (fun ls_ hl_ => ?_)
                      refine lv_goto (tgt := 14) hx_ hb_ dX5_findsRuns_109 (by decide) ?_
                      exact ih14 (q_ - 1) (((oz) + (-1))) (va_up r1_ ((49 * (t_ - 1)) + (q_ - 1)) (1 + (rn (Mf no_ nn_ (mtc vo_ vn_ fo_ fn_) tk_ (fun w_ => decide (¬ ba_ w_ = -10005))) nn_ (q_ - 1 + 1) (t_ - 1 + 1)))) _ _ ls_ (ht0) (htn) (by omega) (by omega) (by omega) (fun w_ o_ h1_ h2_ h3_ => by rw [up_ne (by omega)]; exact hrow w_ o_ h1_ h2_ h3_) (fun o_ h1_ h2_ => by by_cases h4 : o_ = q_ - 1; rw [h4, up_eq]; exact er; rw [up_ne (by omega)]; exact hcur o_ (by omega) h2_) hP_ hD_ hS_ (lv_sub hl_ [2, 3, 0] rfl)
      refine lv_iload_n hx_ hb_ dX5_findsRuns_5 rfl (lv_at hl_ 1 rfl) ?_
      refine q_if_lt (tgt := 118) hx_ hb_ dX5_findsRuns_6 (by decide) (⟨by omega, by omega⟩) (fun c6_ => ?_) (fun c6_ => ?_)
      · skip
        rw [← hQe]
        exact W.vret hx_ hb_ hr (fun tt1 htt1 hWW1 => ⟨⟨r1_, rfl, fun w_ o_ h1_ h2_ => hrow w_ o_ (by omega) h1_ h2_, by show va_P G_ vwCl _ tt1.heap; rw [htt1]; exact hP_⟩, hS_.F htt1⟩) hS_.2.2 dX5_findsRuns_118
      · skip
        have ht1 : 0 < t_ := by omega
        refine lv_aload_n hx_ hb_ dX5_findsRuns_9 rfl (lv_at hl_ 0 rfl) ?_
        refine va_get (D := G_) (ci := 5) (v := .int (iI ((no_ : Nat) : Int))) (C := RX5) (T := TX5) (N := 19) hx_ hb_ hts hi5_ hown hK_ hP_ 0 rfl rfl 0 (by decide) hf65_ (fun _ h9 => h9) rfl dX5_findsRuns_10 ?_
        refine lv_istore_n (lv' := [(2, .int (iI ((no_ : Nat) : Int))), (0, .ref (am_ 0)), (1, .int (iI (wz)))]) hx_ hb_ dX5_findsRuns_13 rfl hl_ (by decide) rfl (fun ls_ hl_ => ?_)
        exact lp14 (no_ + 2) (no_ + 1) (((no_ : Nat) : Int)) r1_ _ _ ls_ (by omega) (by omega) (by omega) (by omega) (by omega) (hrow) (fun o_ h1_ h2_ => absurd h1_ (by omega)) hP_ hD_ hS_ (lv_sub hl_ [1, 2, 0] rfl)
  rw [show entryFrame m_ args 4 = entryFrame m_ ([.ref (am_ 0)] : List Value).toArray 4 from by rw [hargs], lg_entry_eq]
  have hl_ := lv_entry ([.ref (am_ 0)]) (n := 4) (Nat.le_of_ble_eq_true rfl)
  generalize (lg_sl ([.ref (am_ 0)]) ++ List.replicate (4 - (lg_sl ([.ref (am_ 0)])).length) Slot.unset).toArray = ls_ at hl_ ⊢
  have hl_ : lv_has ls_ 4 [(0, .ref (am_ 0))] := hl_
  refine lv_aload_n hx_ hb_ dX5_findsRuns_0 rfl (lv_at hl_ 0 rfl) ?_
  refine va_get (D := G_) (ci := 5) (v := .int (iI ((nn_ : Nat) : Int))) (C := RX5) (T := TX5) (N := 19) hx_ hb_ hts hi5_ hown hK_ hP_ 0 rfl rfl 3 (by decide) hf57_ (fun _ h9 => h9) rfl dX5_findsRuns_1 ?_
  refine lv_istore_n (lv' := [(1, .int (iI ((nn_ : Nat) : Int))), (0, .ref (am_ 0))]) hx_ hb_ dX5_findsRuns_4 rfl hl_ (by decide) rfl (fun ls_ hl_ => ?_)
  exact lp5 (nn_ + 2) (nn_ + 1) (((nn_ : Nat) : Int)) rt_ _ _ ls_ (by omega) (by omega) (by omega) (fun w_ o_ h1_ h2_ h3_ => absurd h1_ (by omega)) hP_ hD_ hS_ (lv_sub hl_ [1, 0] rfl)

set_option maxHeartbeats 4000000 in
set_option maxRecDepth 100000 in
/-- longestRun -/
theorem c_X5_longestRun (l_ : Launch) (G_ : va_G) (cI cZ : ClassId) (am_ : Nat → Nat) (bu_ : Bool) (no_ : Nat) (vo_ : Nat → Int) (fo_ : Nat → Bool) (nn_ : Nat) (vn_ : Nat → Int) (fn_ : Nat → Bool) (k_ : Nat) (osr nsr lnr : Nat → Nat) (ba_ : Nat → Int) (tk_ : Nat → Bool) (rt_ : Nat → Nat) (cp_ : Nat) (cd_ so_ : Nat → Nat) (me_ bf_ : Nat → Int) (hno : no_ ≤ 48) (hnn : nn_ ≤ 48) (hvo : ∀ j_, 0 ≤ vo_ j_ ∧ vo_ j_ ≤ 9999) (hvn : ∀ j_, 0 ≤ vn_ j_ ∧ vn_ j_ ≤ 9999) (hbr : ∀ w_, w_ < nn_ → -10005 ≤ ba_ w_ ∧ ba_ w_ ≤ 2401) (sz : Nat) : WrI (S := (Nat → Nat) × Nat × Nat × Nat) l_ yX5_longestRun wsX5_longestRun ({ frames := 2, cells := 0, slots := 0, locals := 47 }) G_ cI cZ [.ref (am_ 0)] (wMd cI cZ am_ bu_ no_ vo_ fo_ nn_ vn_ fn_ k_ osr nsr lnr ba_ tk_ rt_ cp_ cd_ so_ me_ bf_) sz (fun u_ => ((49 * u_.2.2.1 + u_.2.2.2 : Nat) : Int)) (fun u_ => PB no_ nn_ (Mf no_ nn_ (mtc vo_ vn_ fo_ fn_) tk_ (fun w_ => decide (¬ ba_ w_ = -10005))) RT u_.2.1 u_.2.2.1 u_.2.2.2 ∧ u_.1 (49 * u_.2.2.1 + u_.2.2.2) = u_.2.1) (fun u_ => wMd cI cZ am_ bu_ no_ vo_ fo_ nn_ vn_ fn_ k_ osr nsr lnr ba_ tk_ u_.1 cp_ cd_ so_ me_ bf_) := by
  refine Met.ofW (cc := cX5_longestRun) (maxL := 4) (ret := (some .int)) (by decide) rfl ?_
  intro p_ e_ s_ m_ args below meth c_ s₁ B hml hv
  obtain ⟨hargs, hsz, hP_, hK_, hD0⟩ := hv
  have hx_ := B.exec
  have hb_ := B.bytes
  have hr := B.returns
  have hts := atoms_spec (ws := wsX5_longestRun) B.pre
  have hown : s_.vm.findClass RX5 = some m_.cls := findClass_of_methodNamed B.named
  have hlocks := B.notSynchronized
  have hi5_ : ∀ w_ ∈ wsX50, w_ ∈ wsX5_longestRun := by decide +kernel
  have hf38_ := hts (.fieldLink RX5 38 "RelocatingPatchModel" "run" "[I") (by decide +kernel)
  have hf57_ := hts (.fieldLink RX5 57 "RelocatingPatchModel" "news" "I") (by decide +kernel)
  have hf65_ := hts (.fieldLink RX5 65 "RelocatingPatchModel" "olds" "I") (by decide +kernel)
  subst hsz
  have hD_ := hD0.self (sz := s_.heap.size)
  generalize hAe : va_A (wMd cI cZ am_ bu_ no_ vo_ fo_ nn_ vn_ fn_ k_ osr nsr lnr ba_ tk_ rt_ cp_ cd_ so_ me_ bf_) s_.heap.size = A_ at hD_ ⊢
  have hA_ : ∀ q_ : Nat, s_.heap.size ≤ q_ → A_ q_ := fun q_ h_ => by rw [← hAe]; exact Or.inr h_
  have hS_ : va_S A_ s_.heap s_.heap [] := va_S.rf
  have hP_ : va_P G_ vwCl [(am_ 0, .inr (5, [.int (iI ((no_ : Nat) : Int)), .ref (am_ 1), .ref (am_ 2), .int (iI ((nn_ : Nat) : Int)), .ref (am_ 3), .ref (am_ 4), .int (iI (bZ bu_)), .int (iI ((k_ : Nat) : Int)), .ref (am_ 5), .ref (am_ 6), .ref (am_ 7), .ref (am_ 8), .ref (am_ 9), .ref (am_ 10), .int (iI ((cp_ : Nat) : Int)), .ref (am_ 11), .ref (am_ 12), .ref (am_ 13), .ref (am_ 14)])), (am_ 1, .inl (cI, 48, .inl (aI vo_))), (am_ 2, .inl (cZ, 48, .inl (aB fo_))), (am_ 3, .inl (cI, 48, .inl (aI vn_))), (am_ 4, .inl (cZ, 48, .inl (aB fn_))), (am_ 5, .inl (cI, 48, .inl (aN osr))), (am_ 6, .inl (cI, 48, .inl (aN nsr))), (am_ 7, .inl (cI, 48, .inl (aN lnr))), (am_ 8, .inl (cI, 48, .inl (aI ba_))), (am_ 9, .inl (cZ, 48, .inl (aB tk_))), (am_ 10, .inl (cI, 2401, .inl (aN rt_))), (am_ 11, .inl (cI, 48, .inl (aN cd_))), (am_ 12, .inl (cI, 48, .inl (aN so_))), (am_ 13, .inl (cI, 48, .inl (aI me_))), (am_ 14, .inl (cI, 48, .inl (aI bf_)))] s_.heap := hP_
  have hD_ : va_D A_ [(am_ 0, .inr (5, [.int (iI ((no_ : Nat) : Int)), .ref (am_ 1), .ref (am_ 2), .int (iI ((nn_ : Nat) : Int)), .ref (am_ 3), .ref (am_ 4), .int (iI (bZ bu_)), .int (iI ((k_ : Nat) : Int)), .ref (am_ 5), .ref (am_ 6), .ref (am_ 7), .ref (am_ 8), .ref (am_ 9), .ref (am_ 10), .int (iI ((cp_ : Nat) : Int)), .ref (am_ 11), .ref (am_ 12), .ref (am_ 13), .ref (am_ 14)])), (am_ 1, .inl (cI, 48, .inl (aI vo_))), (am_ 2, .inl (cZ, 48, .inl (aB fo_))), (am_ 3, .inl (cI, 48, .inl (aI vn_))), (am_ 4, .inl (cZ, 48, .inl (aB fn_))), (am_ 5, .inl (cI, 48, .inl (aN osr))), (am_ 6, .inl (cI, 48, .inl (aN nsr))), (am_ 7, .inl (cI, 48, .inl (aN lnr))), (am_ 8, .inl (cI, 48, .inl (aI ba_))), (am_ 9, .inl (cZ, 48, .inl (aB tk_))), (am_ 10, .inl (cI, 2401, .inl (aN rt_))), (am_ 11, .inl (cI, 48, .inl (aN cd_))), (am_ 12, .inl (cI, 48, .inl (aN so_))), (am_ 13, .inl (cI, 48, .inl (aI me_))), (am_ 14, .inl (cI, 48, .inl (aI bf_)))] := hD_
  generalize hQe : MQ below (va_Qi (S := (Nat → Nat) × Nat × Nat × Nat) (fun r1_ u1 => r1_ = iI ((fun u_ => ((49 * u_.2.2.1 + u_.2.2.2 : Nat) : Int)) u1) ∧ (fun u_ => PB no_ nn_ (Mf no_ nn_ (mtc vo_ vn_ fo_ fn_) tk_ (fun w_ => decide (¬ ba_ w_ = -10005))) RT u_.2.1 u_.2.2.1 u_.2.2.2 ∧ u_.1 (49 * u_.2.2.1 + u_.2.2.2) = u_.2.1) u1) (fun u1 t1 => va_P G_ vwCl ((fun u_ => wMd cI cZ am_ bu_ no_ vo_ fo_ nn_ vn_ fn_ k_ osr nsr lnr ba_ tk_ u_.1 cp_ cd_ so_ me_ bf_) u1) t1.heap) A_) args s_ 0 0 A_ = Q_
  rw [show entryFrame m_ args 4 = entryFrame m_ ([.ref (am_ 0)] : List Value).toArray 4 from by rw [hargs], lg_entry_eq]
  have hl_ := lv_entry ([.ref (am_ 0)]) (n := 4) (Nat.le_of_ble_eq_true rfl)
  generalize (lg_sl ([.ref (am_ 0)]) ++ List.replicate (4 - (lg_sl ([.ref (am_ 0)])).length) Slot.unset).toArray = ls_ at hl_ ⊢
  have hl_ : lv_has ls_ 4 [(0, .ref (am_ 0))] := hl_
  refine lv_aload_n hx_ hb_ dX5_longestRun_0 rfl (lv_at hl_ 0 rfl) ?_
  refine wr_V (As := []) (rest := []) (wr := []) (wn := fun u_ => [(am_ 0, .inr (5, [.int (iI ((no_ : Nat) : Int)), .ref (am_ 1), .ref (am_ 2), .int (iI ((nn_ : Nat) : Int)), .ref (am_ 3), .ref (am_ 4), .int (iI (bZ bu_)), .int (iI ((k_ : Nat) : Int)), .ref (am_ 5), .ref (am_ 6), .ref (am_ 7), .ref (am_ 8), .ref (am_ 9), .ref (am_ 10), .int (iI ((cp_ : Nat) : Int)), .ref (am_ 11), .ref (am_ 12), .ref (am_ 13), .ref (am_ 14)])), (am_ 1, .inl (cI, 48, .inl (aI vo_))), (am_ 2, .inl (cZ, 48, .inl (aB fo_))), (am_ 3, .inl (cI, 48, .inl (aI vn_))), (am_ 4, .inl (cZ, 48, .inl (aB fn_))), (am_ 5, .inl (cI, 48, .inl (aN osr))), (am_ 6, .inl (cI, 48, .inl (aN nsr))), (am_ 7, .inl (cI, 48, .inl (aN lnr))), (am_ 8, .inl (cI, 48, .inl (aI ba_))), (am_ 9, .inl (cZ, 48, .inl (aB tk_))), (am_ 10, .inl (cI, 2401, .inl (aN u_))), (am_ 11, .inl (cI, 48, .inl (aN cd_))), (am_ 12, .inl (cI, 48, .inl (aN so_))), (am_ 13, .inl (cI, 48, .inl (aI me_))), (am_ 14, .inl (cI, 48, .inl (aI bf_)))]) ⟨hx_, hb_, hml, hown, hts⟩ (c_X5_findsRuns l_ G_ cI cZ am_ bu_ no_ vo_ fo_ nn_ vn_ fn_ k_ osr nsr lnr ba_ tk_ rt_ cp_ cd_ so_ me_ bf_ hno hnn hvo hvn (hbr) s_.heap.size) (cwV 0 hts gX5_longestRun_X5_findsRuns rfl rfl rfl (by decide +kernel) ⟨Nat.le_of_ble_eq_true rfl, Nat.le_of_ble_eq_true rfl⟩) hP_ hK_ hD_ hS_ hA_ [0, 1, 2, 3, 4, 5, 6, 7, 8, 9, 10, 11, 12, 13, 14] [] [0, 1, 2, 3, 4, 5, 6, 7, 8, 9, 10, 11, 12, 13, 14] rfl rfl (by decide) (fun _ => rfl) (fun _ => rfl) 0 rfl rfl rfl hl_.1 rfl (Nat.le_of_ble_eq_true rfl) dX5_longestRun_1 ⟨Nat.zero_le _, Nat.zero_le _⟩ (fun u_ H_ locs hu1 hP_ hD_ hS_ => ?_)
  obtain ⟨rt_1, rfl⟩ : ∃ z_, z_ = u_ := ⟨_, rfl⟩
  try dsimp only at hu1
  have hP_ : va_P G_ vwCl [(am_ 0, .inr (5, [.int (iI ((no_ : Nat) : Int)), .ref (am_ 1), .ref (am_ 2), .int (iI ((nn_ : Nat) : Int)), .ref (am_ 3), .ref (am_ 4), .int (iI (bZ bu_)), .int (iI ((k_ : Nat) : Int)), .ref (am_ 5), .ref (am_ 6), .ref (am_ 7), .ref (am_ 8), .ref (am_ 9), .ref (am_ 10), .int (iI ((cp_ : Nat) : Int)), .ref (am_ 11), .ref (am_ 12), .ref (am_ 13), .ref (am_ 14)])), (am_ 1, .inl (cI, 48, .inl (aI vo_))), (am_ 2, .inl (cZ, 48, .inl (aB fo_))), (am_ 3, .inl (cI, 48, .inl (aI vn_))), (am_ 4, .inl (cZ, 48, .inl (aB fn_))), (am_ 5, .inl (cI, 48, .inl (aN osr))), (am_ 6, .inl (cI, 48, .inl (aN nsr))), (am_ 7, .inl (cI, 48, .inl (aN lnr))), (am_ 8, .inl (cI, 48, .inl (aI ba_))), (am_ 9, .inl (cZ, 48, .inl (aB tk_))), (am_ 10, .inl (cI, 2401, .inl (aN rt_1))), (am_ 11, .inl (cI, 48, .inl (aN cd_))), (am_ 12, .inl (cI, 48, .inl (aN so_))), (am_ 13, .inl (cI, 48, .inl (aI me_))), (am_ 14, .inl (cI, 48, .inl (aI bf_)))] H_ := hP_
  have hD_ : va_D A_ [(am_ 0, .inr (5, [.int (iI ((no_ : Nat) : Int)), .ref (am_ 1), .ref (am_ 2), .int (iI ((nn_ : Nat) : Int)), .ref (am_ 3), .ref (am_ 4), .int (iI (bZ bu_)), .int (iI ((k_ : Nat) : Int)), .ref (am_ 5), .ref (am_ 6), .ref (am_ 7), .ref (am_ 8), .ref (am_ 9), .ref (am_ 10), .int (iI ((cp_ : Nat) : Int)), .ref (am_ 11), .ref (am_ 12), .ref (am_ 13), .ref (am_ 14)])), (am_ 1, .inl (cI, 48, .inl (aI vo_))), (am_ 2, .inl (cZ, 48, .inl (aB fo_))), (am_ 3, .inl (cI, 48, .inl (aI vn_))), (am_ 4, .inl (cZ, 48, .inl (aB fn_))), (am_ 5, .inl (cI, 48, .inl (aN osr))), (am_ 6, .inl (cI, 48, .inl (aN nsr))), (am_ 7, .inl (cI, 48, .inl (aN lnr))), (am_ 8, .inl (cI, 48, .inl (aI ba_))), (am_ 9, .inl (cZ, 48, .inl (aB tk_))), (am_ 10, .inl (cI, 2401, .inl (aN rt_1))), (am_ 11, .inl (cI, 48, .inl (aN cd_))), (am_ 12, .inl (cI, 48, .inl (aN so_))), (am_ 13, .inl (cI, 48, .inl (aI me_))), (am_ 14, .inl (cI, 48, .inl (aI bf_)))] := hD_
  have lp8 : ∀ (n_ : Nat) (i_ : Nat) (bl_ : Nat) (bn_ : Nat) (bo_ : Nat) (H_ : Heap) (locs : List Loc) (ls_ : Array Slot), (i_ ≤ nn_) → (nn_ + 1 ≤ i_ + n_) → (QB no_ nn_ (Mf no_ nn_ (mtc vo_ vn_ fo_ fn_) tk_ (fun w_ => decide (¬ ba_ w_ = -10005))) (RR i_ 0) bl_ bn_ bo_) → va_P G_ vwCl [(am_ 0, .inr (5, [.int (iI ((no_ : Nat) : Int)), .ref (am_ 1), .ref (am_ 2), .int (iI ((nn_ : Nat) : Int)), .ref (am_ 3), .ref (am_ 4), .int (iI (bZ bu_)), .int (iI ((k_ : Nat) : Int)), .ref (am_ 5), .ref (am_ 6), .ref (am_ 7), .ref (am_ 8), .ref (am_ 9), .ref (am_ 10), .int (iI ((cp_ : Nat) : Int)), .ref (am_ 11), .ref (am_ 12), .ref (am_ 13), .ref (am_ 14)])), (am_ 1, .inl (cI, 48, .inl (aI vo_))), (am_ 2, .inl (cZ, 48, .inl (aB fo_))), (am_ 3, .inl (cI, 48, .inl (aI vn_))), (am_ 4, .inl (cZ, 48, .inl (aB fn_))), (am_ 5, .inl (cI, 48, .inl (aN osr))), (am_ 6, .inl (cI, 48, .inl (aN nsr))), (am_ 7, .inl (cI, 48, .inl (aN lnr))), (am_ 8, .inl (cI, 48, .inl (aI ba_))), (am_ 9, .inl (cZ, 48, .inl (aB tk_))), (am_ 10, .inl (cI, 2401, .inl (aN rt_1))), (am_ 11, .inl (cI, 48, .inl (aN cd_))), (am_ 12, .inl (cI, 48, .inl (aN so_))), (am_ 13, .inl (cI, 48, .inl (aI me_))), (am_ 14, .inl (cI, 48, .inl (aI bf_)))] H_ → va_D A_ [(am_ 0, .inr (5, [.int (iI ((no_ : Nat) : Int)), .ref (am_ 1), .ref (am_ 2), .int (iI ((nn_ : Nat) : Int)), .ref (am_ 3), .ref (am_ 4), .int (iI (bZ bu_)), .int (iI ((k_ : Nat) : Int)), .ref (am_ 5), .ref (am_ 6), .ref (am_ 7), .ref (am_ 8), .ref (am_ 9), .ref (am_ 10), .int (iI ((cp_ : Nat) : Int)), .ref (am_ 11), .ref (am_ 12), .ref (am_ 13), .ref (am_ 14)])), (am_ 1, .inl (cI, 48, .inl (aI vo_))), (am_ 2, .inl (cZ, 48, .inl (aB fo_))), (am_ 3, .inl (cI, 48, .inl (aI vn_))), (am_ 4, .inl (cZ, 48, .inl (aB fn_))), (am_ 5, .inl (cI, 48, .inl (aN osr))), (am_ 6, .inl (cI, 48, .inl (aN nsr))), (am_ 7, .inl (cI, 48, .inl (aN lnr))), (am_ 8, .inl (cI, 48, .inl (aI ba_))), (am_ 9, .inl (cZ, 48, .inl (aB tk_))), (am_ 10, .inl (cI, 2401, .inl (aN rt_1))), (am_ 11, .inl (cI, 48, .inl (aN cd_))), (am_ 12, .inl (cI, 48, .inl (aN so_))), (am_ 13, .inl (cI, 48, .inl (aI me_))), (am_ 14, .inl (cI, 48, .inl (aI bf_)))] → va_S A_ s_.heap H_ locs → lv_has ls_ 4 [(0, .ref (am_ 0)), (1, .int (iI ((49 * bn_ + bo_ : Nat) : Int))), (2, .int (iI ((i_ : Nat) : Int)))] → W p_ l_ e_ (headSpec wsX5_longestRun ({ frames := 2, cells := 0, slots := 0, locals := 47 })).room s_ m_ args below meth c_ H_ locs 0 0 Q_ (F0 m_ 8 ls_ []) := by
    intro n_
    induction n_ with
    | zero =>
      intro i_ bl_ bn_ bo_ H_ locs ls_ hi_ hn_ hqb
      exact False.elim (by omega)
    | succ n_ ih8 =>
      intro i_ bl_ bn_ bo_ H_ locs ls_ hi_ hn_ hqb hP_ hD_ hS_ hl_
      have lp18 : ∀ (n_ : Nat) (j_ : Nat) (bl_ : Nat) (bn_ : Nat) (bo_ : Nat) (H_ : Heap) (locs : List Loc) (ls_ : Array Slot), (i_ < nn_) → (j_ ≤ no_) → (no_ + 1 ≤ j_ + n_) → (QB no_ nn_ (Mf no_ nn_ (mtc vo_ vn_ fo_ fn_) tk_ (fun w_ => decide (¬ ba_ w_ = -10005))) (RR i_ j_) bl_ bn_ bo_) → va_P G_ vwCl [(am_ 0, .inr (5, [.int (iI ((no_ : Nat) : Int)), .ref (am_ 1), .ref (am_ 2), .int (iI ((nn_ : Nat) : Int)), .ref (am_ 3), .ref (am_ 4), .int (iI (bZ bu_)), .int (iI ((k_ : Nat) : Int)), .ref (am_ 5), .ref (am_ 6), .ref (am_ 7), .ref (am_ 8), .ref (am_ 9), .ref (am_ 10), .int (iI ((cp_ : Nat) : Int)), .ref (am_ 11), .ref (am_ 12), .ref (am_ 13), .ref (am_ 14)])), (am_ 1, .inl (cI, 48, .inl (aI vo_))), (am_ 2, .inl (cZ, 48, .inl (aB fo_))), (am_ 3, .inl (cI, 48, .inl (aI vn_))), (am_ 4, .inl (cZ, 48, .inl (aB fn_))), (am_ 5, .inl (cI, 48, .inl (aN osr))), (am_ 6, .inl (cI, 48, .inl (aN nsr))), (am_ 7, .inl (cI, 48, .inl (aN lnr))), (am_ 8, .inl (cI, 48, .inl (aI ba_))), (am_ 9, .inl (cZ, 48, .inl (aB tk_))), (am_ 10, .inl (cI, 2401, .inl (aN rt_1))), (am_ 11, .inl (cI, 48, .inl (aN cd_))), (am_ 12, .inl (cI, 48, .inl (aN so_))), (am_ 13, .inl (cI, 48, .inl (aI me_))), (am_ 14, .inl (cI, 48, .inl (aI bf_)))] H_ → va_D A_ [(am_ 0, .inr (5, [.int (iI ((no_ : Nat) : Int)), .ref (am_ 1), .ref (am_ 2), .int (iI ((nn_ : Nat) : Int)), .ref (am_ 3), .ref (am_ 4), .int (iI (bZ bu_)), .int (iI ((k_ : Nat) : Int)), .ref (am_ 5), .ref (am_ 6), .ref (am_ 7), .ref (am_ 8), .ref (am_ 9), .ref (am_ 10), .int (iI ((cp_ : Nat) : Int)), .ref (am_ 11), .ref (am_ 12), .ref (am_ 13), .ref (am_ 14)])), (am_ 1, .inl (cI, 48, .inl (aI vo_))), (am_ 2, .inl (cZ, 48, .inl (aB fo_))), (am_ 3, .inl (cI, 48, .inl (aI vn_))), (am_ 4, .inl (cZ, 48, .inl (aB fn_))), (am_ 5, .inl (cI, 48, .inl (aN osr))), (am_ 6, .inl (cI, 48, .inl (aN nsr))), (am_ 7, .inl (cI, 48, .inl (aN lnr))), (am_ 8, .inl (cI, 48, .inl (aI ba_))), (am_ 9, .inl (cZ, 48, .inl (aB tk_))), (am_ 10, .inl (cI, 2401, .inl (aN rt_1))), (am_ 11, .inl (cI, 48, .inl (aN cd_))), (am_ 12, .inl (cI, 48, .inl (aN so_))), (am_ 13, .inl (cI, 48, .inl (aI me_))), (am_ 14, .inl (cI, 48, .inl (aI bf_)))] → va_S A_ s_.heap H_ locs → lv_has ls_ 4 [(0, .ref (am_ 0)), (1, .int (iI ((49 * bn_ + bo_ : Nat) : Int))), (2, .int (iI ((i_ : Nat) : Int))), (3, .int (iI ((j_ : Nat) : Int)))] → W p_ l_ e_ (headSpec wsX5_longestRun ({ frames := 2, cells := 0, slots := 0, locals := 47 })).room s_ m_ args below meth c_ H_ locs 0 0 Q_ (F0 m_ 18 ls_ []) := by
        intro n_
        induction n_ with
        | zero =>
          intro j_ bl_ bn_ bo_ H_ locs ls_ hin hj_ hn_ hqb
          exact False.elim (by omega)
        | succ n_ ih18 =>
          intro j_ bl_ bn_ bo_ H_ locs ls_ hin hj_ hn_ hqb hP_ hD_ hS_ hl_
          have hqr := hqb.2.2.2.2
          have hrl1 := rn_le (Mf no_ nn_ (mtc vo_ vn_ fo_ fn_) tk_ (fun w_ => decide (¬ ba_ w_ = -10005))) nn_ bo_ bn_
          have hrl2 := rn_le (Mf no_ nn_ (mtc vo_ vn_ fo_ fn_) tk_ (fun w_ => decide (¬ ba_ w_ = -10005))) nn_ j_ i_
          refine lv_iload_n hx_ hb_ dX5_longestRun_18 rfl (lv_at hl_ 3 rfl) ?_
          refine lv_aload_n hx_ hb_ dX5_longestRun_19 rfl (lv_at hl_ 0 rfl) ?_
          refine va_get (D := G_) (ci := 5) (v := .int (iI ((no_ : Nat) : Int))) (C := RX5) (T := TX5) (N := 19) hx_ hb_ hts hi5_ hown hK_ hP_ 0 rfl rfl 0 (by decide) hf65_ (fun _ h9 => h9) rfl dX5_longestRun_20 ?_
          refine q_icmp_ge (tgt := 63) hx_ hb_ dX5_longestRun_23 (by decide) (⟨by omega, by omega⟩) (⟨by omega, by omega⟩) (fun c23_ => ?_) (fun c23_ => ?_)
          · skip
            refine q_iinc (k := 2) ((i_ + 1 : Nat) : Int) hx_ hb_ dX5_longestRun_63 hl_ rfl (rfl) (by decide) (lv' := [(2, .int (iI ((i_ + 1 : Nat) : Int))), (0, .ref (am_ 0)), (1, .int (iI ((49 * bn_ + bo_ : Nat) : Int))), (3, .int (iI ((j_ : Nat) : Int)))]) rfl (fun ls_ hl_ => ?_)
            refine lv_goto (tgt := 8) hx_ hb_ dX5_longestRun_66 (by decide) ?_
            exact ih8 (i_ + 1) bl_ bn_ bo_ _ _ ls_ (by omega) (by omega) (QB_row (show j_ = no_ by omega) hqb) hP_ hD_ hS_ (lv_sub hl_ [1, 2, 0] rfl)
          · skip
            refine lv_aload_n hx_ hb_ dX5_longestRun_26 rfl (lv_at hl_ 0 rfl) ?_
            refine va_get (D := G_) (ci := 5) (v := .ref (am_ 10)) (C := RX5) (T := TX5) (N := 19) hx_ hb_ hts hi5_ hown hK_ hP_ 0 rfl rfl 13 (by decide) hf38_ (fun _ h9 => h9) rfl dX5_longestRun_27 ?_
            refine lv_bipush (v := iI ((49 : Nat) : Int)) hx_ hb_ dX5_longestRun_30 rfl ?_
            refine lv_iload_n hx_ hb_ dX5_longestRun_32 rfl (lv_at hl_ 2 rfl) ?_
            refine q_imulN hx_ hb_ dX5_longestRun_33 ?_
            refine lv_iload_n hx_ hb_ dX5_longestRun_34 rfl (lv_at hl_ 3 rfl) ?_
            refine q_iaddN hx_ hb_ dX5_longestRun_35 ?_
            refine q_ildN hx_ hb_ hK_ hP_ 10 rfl (by decide) ((49 * i_) + j_) (by omega) (rn (Mf no_ nn_ (mtc vo_ vn_ fo_ fn_) tk_ (fun w_ => decide (¬ ba_ w_ = -10005))) nn_ j_ i_) (hu1 i_ j_ (by omega) (by omega)) dX5_longestRun_36 ?_
            refine lv_aload_n hx_ hb_ dX5_longestRun_37 rfl (lv_at hl_ 0 rfl) ?_
            refine va_get (D := G_) (ci := 5) (v := .ref (am_ 10)) (C := RX5) (T := TX5) (N := 19) hx_ hb_ hts hi5_ hown hK_ hP_ 0 rfl rfl 13 (by decide) hf38_ (fun _ h9 => h9) rfl dX5_longestRun_38 ?_
            refine lv_iload_n hx_ hb_ dX5_longestRun_41 rfl (lv_at hl_ 1 rfl) ?_
            refine q_ildN hx_ hb_ hK_ hP_ 10 rfl (by decide) (49 * bn_ + bo_) (by omega) (rn (Mf no_ nn_ (mtc vo_ vn_ fo_ fn_) tk_ (fun w_ => decide (¬ ba_ w_ = -10005))) nn_ bo_ bn_) (hu1 bn_ bo_ (by omega) (by omega)) dX5_longestRun_42 ?_
            refine q_icmp_le (tgt := 55) hx_ hb_ dX5_longestRun_43 (by decide) (⟨by omega, by omega⟩) (⟨by omega, by omega⟩) (fun c43_ => ?_) (fun c43_ => ?_)
            · skip
              refine lv_iload_n hx_ hb_ dX5_longestRun_55 rfl (lv_at hl_ 1 rfl) ?_
              refine lv_istore_n (lv' := [(1, .int (iI ((49 * bn_ + bo_ : Nat) : Int))), (0, .ref (am_ 0)), (2, .int (iI ((i_ : Nat) : Int))), (3, .int (iI ((j_ : Nat) : Int)))]) hx_ hb_ dX5_longestRun_56 rfl hl_ (by decide) rfl (fun ls_ hl_ => ?_)
              refine q_iinc (k := 3) ((j_ + 1 : Nat) : Int) hx_ hb_ dX5_longestRun_57 hl_ rfl (rfl) (by decide) (lv' := [(3, .int (iI ((j_ + 1 : Nat) : Int))), (1, .int (iI ((49 * bn_ + bo_ : Nat) : Int))), (0, .ref (am_ 0)), (2, .int (iI ((i_ : Nat) : Int)))]) rfl (fun ls_ hl_ => ?_)
              refine lv_goto (tgt := 18) hx_ hb_ dX5_longestRun_60 (by decide) ?_
              exact ih18 (j_ + 1) bl_ bn_ bo_ _ _ ls_ (hin) (by omega) (by omega) (QB_keep hqb (by have h0_ := hqb.2.1; omega)) hP_ hD_ hS_ (lv_sub hl_ [2, 1, 3, 0] rfl)
            · skip
              refine lv_bipush (v := iI ((49 : Nat) : Int)) hx_ hb_ dX5_longestRun_46 rfl ?_
              refine lv_iload_n hx_ hb_ dX5_longestRun_48 rfl (lv_at hl_ 2 rfl) ?_
              refine q_imulN hx_ hb_ dX5_longestRun_49 ?_
              refine lv_iload_n hx_ hb_ dX5_longestRun_50 rfl (lv_at hl_ 3 rfl) ?_
              refine q_iaddN hx_ hb_ dX5_longestRun_51 ?_
              refine lv_goto (tgt := 56) hx_ hb_ dX5_longestRun_52 (by decide) ?_
              refine lv_istore_n (lv' := [(1, .int (iI (((49 * i_) + j_ : Nat) : Int))), (0, .ref (am_ 0)), (2, .int (iI ((i_ : Nat) : Int))), (3, .int (iI ((j_ : Nat) : Int)))]) hx_ hb_ dX5_longestRun_56 rfl hl_ (by decide) rfl (fun ls_ hl_ => ?_)
              refine q_iinc (k := 3) ((j_ + 1 : Nat) : Int) hx_ hb_ dX5_longestRun_57 hl_ rfl (rfl) (by decide) (lv' := [(3, .int (iI ((j_ + 1 : Nat) : Int))), (1, .int (iI (((49 * i_) + j_ : Nat) : Int))), (0, .ref (am_ 0)), (2, .int (iI ((i_ : Nat) : Int)))]) rfl (fun ls_ hl_ => ?_)
              refine lv_goto (tgt := 18) hx_ hb_ dX5_longestRun_60 (by decide) ?_
              exact ih18 (j_ + 1) (rn (Mf no_ nn_ (mtc vo_ vn_ fo_ fn_) tk_ (fun w_ => decide (¬ ba_ w_ = -10005))) nn_ j_ i_) i_ j_ _ _ ls_ (hin) (by omega) (by omega) (QB_yes hqb (by omega) (by omega) (by have h0_ := hqb.2.1; omega)) hP_ hD_ hS_ (lv_sub hl_ [2, 1, 3, 0] rfl)
      refine lv_iload_n hx_ hb_ dX5_longestRun_8 rfl (lv_at hl_ 2 rfl) ?_
      refine lv_aload_n hx_ hb_ dX5_longestRun_9 rfl (lv_at hl_ 0 rfl) ?_
      refine va_get (D := G_) (ci := 5) (v := .int (iI ((nn_ : Nat) : Int))) (C := RX5) (T := TX5) (N := 19) hx_ hb_ hts hi5_ hown hK_ hP_ 0 rfl rfl 3 (by decide) hf57_ (fun _ h9 => h9) rfl dX5_longestRun_10 ?_
      refine q_icmp_ge (tgt := 69) hx_ hb_ dX5_longestRun_13 (by decide) (⟨by omega, by omega⟩) (⟨by omega, by omega⟩) (fun c13_ => ?_) (fun c13_ => ?_)
      · skip
        refine lv_iload_n hx_ hb_ dX5_longestRun_69 rfl (lv_at hl_ 1 rfl) ?_
        rw [← hQe]
        exact W.iret hx_ hb_ hr (fun tt1 htt1 hWW1 => ⟨⟨_, (rt_1, bl_, bn_, bo_), rfl, ⟨congrArg iI (rfl), ⟨QB_end (show i_ = nn_ by omega) hqb, by show rt_1 (49 * bn_ + bo_) = bl_; rw [hu1 bn_ bo_ (by have h0_ := hqb.2.2.2.2; omega) (by have h0_ := hqb.2.2.2.2; omega)]; exact hqb.2.1⟩⟩, by show va_P G_ vwCl _ tt1.heap; rw [htt1]; exact hP_⟩, hS_.F htt1⟩) hS_.2.2 dX5_longestRun_70
      · skip
        refine lv_iconst (v := iI ((0 : Nat) : Int)) hx_ hb_ dX5_longestRun_16 rfl ?_
        refine lv_istore_n (lv' := [(3, .int (iI ((0 : Nat) : Int))), (0, .ref (am_ 0)), (1, .int (iI ((49 * bn_ + bo_ : Nat) : Int))), (2, .int (iI ((i_ : Nat) : Int)))]) hx_ hb_ dX5_longestRun_17 rfl hl_ (by decide) rfl (fun ls_ hl_ => ?_)
        exact lp18 (no_ + 1) 0 bl_ bn_ bo_ _ _ ls_ (by omega) (by omega) (by omega) (hqb) hP_ hD_ hS_ (lv_sub hl_ [1, 2, 3, 0] rfl)
  refine lv_iconst (v := iI ((0 : Nat) : Int)) hx_ hb_ dX5_longestRun_4 rfl ?_
  refine lv_istore_n (lv' := [(1, .int (iI ((0 : Nat) : Int))), (0, .ref (am_ 0))]) hx_ hb_ dX5_longestRun_5 rfl hl_ (by decide) rfl (fun ls_ hl_ => ?_)
  refine lv_iconst (v := iI ((0 : Nat) : Int)) hx_ hb_ dX5_longestRun_6 rfl ?_
  refine lv_istore_n (lv' := [(2, .int (iI ((0 : Nat) : Int))), (1, .int (iI ((0 : Nat) : Int))), (0, .ref (am_ 0))]) hx_ hb_ dX5_longestRun_7 rfl hl_ (by decide) rfl (fun ls_ hl_ => ?_)
  exact lp8 (nn_ + 1) 0 (rn (Mf no_ nn_ (mtc vo_ vn_ fo_ fn_) tk_ (fun w_ => decide (¬ ba_ w_ = -10005))) nn_ 0 0) 0 0 _ _ ls_ (by omega) (by omega) (QB_0) hP_ hD_ hS_ (lv_sub hl_ [2, 1, 0] rfl)

theorem tb_step {f_ g_ : Nat → Int} {b_ i_ j_ : Nat} {p_ : Int} (h_ : f_ j_ = if b_ ≤ j_ ∧ j_ < b_ + i_ then p_ else g_ j_) : va_up f_ (b_ + i_) p_ j_ = if b_ ≤ j_ ∧ j_ < b_ + (i_ + 1) then p_ else g_ j_ := by
  by_cases e_ : j_ = b_ + i_
  · rw [e_, up_eq, if_pos (by omega)]
  · rw [up_ne e_, h_]
    by_cases h0_ : b_ ≤ j_ ∧ j_ < b_ + i_
    · rw [if_pos h0_, if_pos (by omega)]
    · rw [if_neg h0_, if_neg (by omega)]

set_option maxHeartbeats 4000000 in
set_option maxRecDepth 100000 in
/-- takes -/
theorem c_X5_takes (l_ : Launch) (G_ : va_G) (cI cZ : ClassId) (am_ : Nat → Nat) (bu_ : Bool) (no_ : Nat) (vo_ : Nat → Int) (fo_ : Nat → Bool) (nn_ : Nat) (vn_ : Nat → Int) (fn_ : Nat → Bool) (k_ : Nat) (osr nsr lnr : Nat → Nat) (ba_ : Nat → Int) (tk_ : Nat → Bool) (rt_ : Nat → Nat) (cp_ : Nat) (cd_ so_ : Nat → Nat) (me_ bf_ : Nat → Int) (bl_ bn_ bo_ : Nat) (hrt : rt_ (49 * bn_ + bo_) = bl_) (hb1 : bn_ + bl_ ≤ 48) (hb2 : bo_ + bl_ ≤ 48) (hb3 : bn_ ≤ 48 ∧ bo_ ≤ 48) (sz : Nat) : Wr (S := (Nat → Int) × (Nat → Bool)) l_ yX5_takes wsX5_takes ({ frames := 0, cells := 0, slots := 0, locals := 0 }) G_ cI cZ [.ref (am_ 0), .int (iI ((49 * bn_ + bo_ : Nat) : Int))] (wMd cI cZ am_ bu_ no_ vo_ fo_ nn_ vn_ fn_ k_ osr nsr lnr ba_ tk_ rt_ cp_ cd_ so_ me_ bf_) sz (fun u_ => ∀ j_, j_ < 48 → (u_.1 j_ = if bn_ ≤ j_ ∧ j_ < bn_ + bl_ then ((49 * bn_ + bo_ : Nat) : Int) else ba_ j_) ∧ u_.2 j_ = (tk_ j_ || decide (bo_ ≤ j_ ∧ j_ < bo_ + bl_))) (fun u_ => wMd cI cZ am_ bu_ no_ vo_ fo_ nn_ vn_ fn_ k_ osr nsr lnr u_.1 u_.2 rt_ cp_ cd_ so_ me_ bf_) := by
  refine Met.ofW (cc := cX5_takes) (maxL := 3) (ret := (none)) (by decide) rfl ?_
  intro p_ e_ s_ m_ args below meth c_ s₁ B hml hv
  obtain ⟨hargs, hsz, hP_, hK_, hD0⟩ := hv
  have hx_ := B.exec
  have hb_ := B.bytes
  have hr := B.returns
  have hts := atoms_spec (ws := wsX5_takes) B.pre
  have hown : s_.vm.findClass RX5 = some m_.cls := findClass_of_methodNamed B.named
  have hlocks := B.notSynchronized
  have hi5_ : ∀ w_ ∈ wsX50, w_ ∈ wsX5_takes := by decide +kernel
  have hf32_ := hts (.fieldLink RX5 32 "RelocatingPatchModel" "blockAt" "[I") (by decide +kernel)
  have hf35_ := hts (.fieldLink RX5 35 "RelocatingPatchModel" "isTaken" "[Z") (by decide +kernel)
  have hf38_ := hts (.fieldLink RX5 38 "RelocatingPatchModel" "run" "[I") (by decide +kernel)
  subst hsz
  have hD_ := hD0.self (sz := s_.heap.size)
  generalize hAe : va_A (wMd cI cZ am_ bu_ no_ vo_ fo_ nn_ vn_ fn_ k_ osr nsr lnr ba_ tk_ rt_ cp_ cd_ so_ me_ bf_) s_.heap.size = A_ at hD_ ⊢
  have hA_ : ∀ q_ : Nat, s_.heap.size ≤ q_ → A_ q_ := fun q_ h_ => by rw [← hAe]; exact Or.inr h_
  have hS_ : va_S A_ s_.heap s_.heap [] := va_S.rf
  have hP_ : va_P G_ vwCl [(am_ 0, .inr (5, [.int (iI ((no_ : Nat) : Int)), .ref (am_ 1), .ref (am_ 2), .int (iI ((nn_ : Nat) : Int)), .ref (am_ 3), .ref (am_ 4), .int (iI (bZ bu_)), .int (iI ((k_ : Nat) : Int)), .ref (am_ 5), .ref (am_ 6), .ref (am_ 7), .ref (am_ 8), .ref (am_ 9), .ref (am_ 10), .int (iI ((cp_ : Nat) : Int)), .ref (am_ 11), .ref (am_ 12), .ref (am_ 13), .ref (am_ 14)])), (am_ 1, .inl (cI, 48, .inl (aI vo_))), (am_ 2, .inl (cZ, 48, .inl (aB fo_))), (am_ 3, .inl (cI, 48, .inl (aI vn_))), (am_ 4, .inl (cZ, 48, .inl (aB fn_))), (am_ 5, .inl (cI, 48, .inl (aN osr))), (am_ 6, .inl (cI, 48, .inl (aN nsr))), (am_ 7, .inl (cI, 48, .inl (aN lnr))), (am_ 8, .inl (cI, 48, .inl (aI ba_))), (am_ 9, .inl (cZ, 48, .inl (aB tk_))), (am_ 10, .inl (cI, 2401, .inl (aN rt_))), (am_ 11, .inl (cI, 48, .inl (aN cd_))), (am_ 12, .inl (cI, 48, .inl (aN so_))), (am_ 13, .inl (cI, 48, .inl (aI me_))), (am_ 14, .inl (cI, 48, .inl (aI bf_)))] s_.heap := hP_
  have hD_ : va_D A_ [(am_ 0, .inr (5, [.int (iI ((no_ : Nat) : Int)), .ref (am_ 1), .ref (am_ 2), .int (iI ((nn_ : Nat) : Int)), .ref (am_ 3), .ref (am_ 4), .int (iI (bZ bu_)), .int (iI ((k_ : Nat) : Int)), .ref (am_ 5), .ref (am_ 6), .ref (am_ 7), .ref (am_ 8), .ref (am_ 9), .ref (am_ 10), .int (iI ((cp_ : Nat) : Int)), .ref (am_ 11), .ref (am_ 12), .ref (am_ 13), .ref (am_ 14)])), (am_ 1, .inl (cI, 48, .inl (aI vo_))), (am_ 2, .inl (cZ, 48, .inl (aB fo_))), (am_ 3, .inl (cI, 48, .inl (aI vn_))), (am_ 4, .inl (cZ, 48, .inl (aB fn_))), (am_ 5, .inl (cI, 48, .inl (aN osr))), (am_ 6, .inl (cI, 48, .inl (aN nsr))), (am_ 7, .inl (cI, 48, .inl (aN lnr))), (am_ 8, .inl (cI, 48, .inl (aI ba_))), (am_ 9, .inl (cZ, 48, .inl (aB tk_))), (am_ 10, .inl (cI, 2401, .inl (aN rt_))), (am_ 11, .inl (cI, 48, .inl (aN cd_))), (am_ 12, .inl (cI, 48, .inl (aN so_))), (am_ 13, .inl (cI, 48, .inl (aI me_))), (am_ 14, .inl (cI, 48, .inl (aI bf_)))] := hD_
  generalize hQe : MQ below (va_Qv (S := (Nat → Int) × (Nat → Bool)) (fun u_ => ∀ j_, j_ < 48 → (u_.1 j_ = if bn_ ≤ j_ ∧ j_ < bn_ + bl_ then ((49 * bn_ + bo_ : Nat) : Int) else ba_ j_) ∧ u_.2 j_ = (tk_ j_ || decide (bo_ ≤ j_ ∧ j_ < bo_ + bl_))) (fun u1 t1 => va_P G_ vwCl ((fun u_ => wMd cI cZ am_ bu_ no_ vo_ fo_ nn_ vn_ fn_ k_ osr nsr lnr u_.1 u_.2 rt_ cp_ cd_ so_ me_ bf_) u1) t1.heap) A_) args s_ 0 0 A_ = Q_
  have lp2 : ∀ (n_ : Nat) (i_ : Nat) (b1_ : Nat → Int) (t1 : Nat → Bool) (H_ : Heap) (locs : List Loc) (ls_ : Array Slot), (i_ ≤ bl_) → (bl_ + 1 ≤ i_ + n_) → (∀ j_, j_ < 48 → (b1_ j_ = if bn_ ≤ j_ ∧ j_ < bn_ + i_ then ((49 * bn_ + bo_ : Nat) : Int) else ba_ j_) ∧ t1 j_ = (tk_ j_ || decide (bo_ ≤ j_ ∧ j_ < bo_ + i_))) → va_P G_ vwCl [(am_ 0, .inr (5, [.int (iI ((no_ : Nat) : Int)), .ref (am_ 1), .ref (am_ 2), .int (iI ((nn_ : Nat) : Int)), .ref (am_ 3), .ref (am_ 4), .int (iI (bZ bu_)), .int (iI ((k_ : Nat) : Int)), .ref (am_ 5), .ref (am_ 6), .ref (am_ 7), .ref (am_ 8), .ref (am_ 9), .ref (am_ 10), .int (iI ((cp_ : Nat) : Int)), .ref (am_ 11), .ref (am_ 12), .ref (am_ 13), .ref (am_ 14)])), (am_ 1, .inl (cI, 48, .inl (aI vo_))), (am_ 2, .inl (cZ, 48, .inl (aB fo_))), (am_ 3, .inl (cI, 48, .inl (aI vn_))), (am_ 4, .inl (cZ, 48, .inl (aB fn_))), (am_ 5, .inl (cI, 48, .inl (aN osr))), (am_ 6, .inl (cI, 48, .inl (aN nsr))), (am_ 7, .inl (cI, 48, .inl (aN lnr))), (am_ 8, .inl (cI, 48, .inl (aI b1_))), (am_ 9, .inl (cZ, 48, .inl (aB t1))), (am_ 10, .inl (cI, 2401, .inl (aN rt_))), (am_ 11, .inl (cI, 48, .inl (aN cd_))), (am_ 12, .inl (cI, 48, .inl (aN so_))), (am_ 13, .inl (cI, 48, .inl (aI me_))), (am_ 14, .inl (cI, 48, .inl (aI bf_)))] H_ → va_D A_ [(am_ 0, .inr (5, [.int (iI ((no_ : Nat) : Int)), .ref (am_ 1), .ref (am_ 2), .int (iI ((nn_ : Nat) : Int)), .ref (am_ 3), .ref (am_ 4), .int (iI (bZ bu_)), .int (iI ((k_ : Nat) : Int)), .ref (am_ 5), .ref (am_ 6), .ref (am_ 7), .ref (am_ 8), .ref (am_ 9), .ref (am_ 10), .int (iI ((cp_ : Nat) : Int)), .ref (am_ 11), .ref (am_ 12), .ref (am_ 13), .ref (am_ 14)])), (am_ 1, .inl (cI, 48, .inl (aI vo_))), (am_ 2, .inl (cZ, 48, .inl (aB fo_))), (am_ 3, .inl (cI, 48, .inl (aI vn_))), (am_ 4, .inl (cZ, 48, .inl (aB fn_))), (am_ 5, .inl (cI, 48, .inl (aN osr))), (am_ 6, .inl (cI, 48, .inl (aN nsr))), (am_ 7, .inl (cI, 48, .inl (aN lnr))), (am_ 8, .inl (cI, 48, .inl (aI b1_))), (am_ 9, .inl (cZ, 48, .inl (aB t1))), (am_ 10, .inl (cI, 2401, .inl (aN rt_))), (am_ 11, .inl (cI, 48, .inl (aN cd_))), (am_ 12, .inl (cI, 48, .inl (aN so_))), (am_ 13, .inl (cI, 48, .inl (aI me_))), (am_ 14, .inl (cI, 48, .inl (aI bf_)))] → va_S A_ s_.heap H_ locs → lv_has ls_ 3 [(0, .ref (am_ 0)), (1, .int (iI ((49 * bn_ + bo_ : Nat) : Int))), (2, .int (iI ((i_ : Nat) : Int)))] → W p_ l_ e_ (headSpec wsX5_takes ({ frames := 0, cells := 0, slots := 0, locals := 0 })).room s_ m_ args below meth c_ H_ locs 0 0 Q_ (F0 m_ 2 ls_ []) := by
    intro n_
    induction n_ with
    | zero =>
      intro i_ b1_ t1 H_ locs ls_ hi_ hn_ hz
      exact False.elim (by omega)
    | succ n_ ih2 =>
      intro i_ b1_ t1 H_ locs ls_ hi_ hn_ hz hP_ hD_ hS_ hl_
      refine lv_iload_n hx_ hb_ dX5_takes_2 rfl (lv_at hl_ 2 rfl) ?_
      refine lv_aload_n hx_ hb_ dX5_takes_3 rfl (lv_at hl_ 0 rfl) ?_
      refine va_get (D := G_) (ci := 5) (v := .ref (am_ 10)) (C := RX5) (T := TX5) (N := 19) hx_ hb_ hts hi5_ hown hK_ hP_ 0 rfl rfl 13 (by decide) hf38_ (fun _ h9 => h9) rfl dX5_takes_4 ?_
      refine lv_iload_n hx_ hb_ dX5_takes_7 rfl (lv_at hl_ 1 rfl) ?_
      refine q_ildN hx_ hb_ hK_ hP_ 10 rfl (by decide) (49 * bn_ + bo_) (by omega) (bl_) (hrt) dX5_takes_8 ?_
      refine q_icmp_ge (tgt := 42) hx_ hb_ dX5_takes_9 (by decide) (⟨by omega, by omega⟩) (⟨by omega, by omega⟩) (fun c9_ => ?_) (fun c9_ => ?_)
      · skip
        rw [← hQe]
        exact W.vret hx_ hb_ hr (fun tt1 htt1 hWW1 => ⟨⟨(b1_, t1), rfl, by have e0_ : i_ = bl_ := (by omega); rw [e0_] at hz; exact hz, by show va_P G_ vwCl _ tt1.heap; rw [htt1]; exact hP_⟩, hS_.F htt1⟩) hS_.2.2 dX5_takes_42
      · skip
        refine lv_aload_n hx_ hb_ dX5_takes_12 rfl (lv_at hl_ 0 rfl) ?_
        refine va_get (D := G_) (ci := 5) (v := .ref (am_ 8)) (C := RX5) (T := TX5) (N := 19) hx_ hb_ hts hi5_ hown hK_ hP_ 0 rfl rfl 11 (by decide) hf32_ (fun _ h9 => h9) rfl dX5_takes_13 ?_
        refine lv_iload_n hx_ hb_ dX5_takes_16 rfl (lv_at hl_ 1 rfl) ?_
        refine lv_bipush (v := iI ((49 : Nat) : Int)) hx_ hb_ dX5_takes_17 rfl ?_
        refine q_idiv hx_ hb_ (by omega) dX5_takes_19 ?_
        refine q_cast (b := ((bn_ : Nat) : Int)) (by omega) ?_
        refine lv_iload_n hx_ hb_ dX5_takes_20 rfl (lv_at hl_ 2 rfl) ?_
        refine q_iaddN hx_ hb_ dX5_takes_21 ?_
        refine lv_iload_n hx_ hb_ dX5_takes_22 rfl (lv_at hl_ 1 rfl) ?_
        refine q_istI hx_ hb_ hK_ hP_ hD_ hS_ 8 rfl (by decide) (bn_ + i_) (by omega) (((49 * bn_ + bo_ : Nat) : Int)) dX5_takes_23 (ws' := [(am_ 0, .inr (5, [.int (iI ((no_ : Nat) : Int)), .ref (am_ 1), .ref (am_ 2), .int (iI ((nn_ : Nat) : Int)), .ref (am_ 3), .ref (am_ 4), .int (iI (bZ bu_)), .int (iI ((k_ : Nat) : Int)), .ref (am_ 5), .ref (am_ 6), .ref (am_ 7), .ref (am_ 8), .ref (am_ 9), .ref (am_ 10), .int (iI ((cp_ : Nat) : Int)), .ref (am_ 11), .ref (am_ 12), .ref (am_ 13), .ref (am_ 14)])), (am_ 1, .inl (cI, 48, .inl (aI vo_))), (am_ 2, .inl (cZ, 48, .inl (aB fo_))), (am_ 3, .inl (cI, 48, .inl (aI vn_))), (am_ 4, .inl (cZ, 48, .inl (aB fn_))), (am_ 5, .inl (cI, 48, .inl (aN osr))), (am_ 6, .inl (cI, 48, .inl (aN nsr))), (am_ 7, .inl (cI, 48, .inl (aN lnr))), (am_ 8, .inl (cI, 48, .inl (aI (va_up b1_ (bn_ + i_) (((49 * bn_ + bo_ : Nat) : Int)))))), (am_ 9, .inl (cZ, 48, .inl (aB t1))), (am_ 10, .inl (cI, 2401, .inl (aN rt_))), (am_ 11, .inl (cI, 48, .inl (aN cd_))), (am_ 12, .inl (cI, 48, .inl (aN so_))), (am_ 13, .inl (cI, 48, .inl (aI me_))), (am_ 14, .inl (cI, 48, .inl (aI bf_)))]) rfl (fun H_ locs hP_ hD_ hS_ => ?_)
        refine lv_aload_n hx_ hb_ dX5_takes_24 rfl (lv_at hl_ 0 rfl) ?_
        refine va_get (D := G_) (ci := 5) (v := .ref (am_ 9)) (C := RX5) (T := TX5) (N := 19) hx_ hb_ hts hi5_ hown hK_ hP_ 0 rfl rfl 12 (by decide) hf35_ (fun _ h9 => h9) rfl dX5_takes_25 ?_
        refine lv_iload_n hx_ hb_ dX5_takes_28 rfl (lv_at hl_ 1 rfl) ?_
        refine lv_bipush (v := iI ((49 : Nat) : Int)) hx_ hb_ dX5_takes_29 rfl ?_
        refine q_irem hx_ hb_ (by omega) dX5_takes_31 ?_
        refine q_cast (b := ((bo_ : Nat) : Int)) (by omega) ?_
        refine lv_iload_n hx_ hb_ dX5_takes_32 rfl (lv_at hl_ 2 rfl) ?_
        refine q_iaddN hx_ hb_ dX5_takes_33 ?_
        refine lv_iconst (v := iI ((1 : Nat) : Int)) hx_ hb_ dX5_takes_34 rfl ?_
        refine q_cast (b := bZ (true)) rfl ?_
        refine q_zst hx_ hb_ hK_ hP_ hD_ hS_ 9 rfl (by decide) (bo_ + i_) (by omega) (true) dX5_takes_35 (ws' := [(am_ 0, .inr (5, [.int (iI ((no_ : Nat) : Int)), .ref (am_ 1), .ref (am_ 2), .int (iI ((nn_ : Nat) : Int)), .ref (am_ 3), .ref (am_ 4), .int (iI (bZ bu_)), .int (iI ((k_ : Nat) : Int)), .ref (am_ 5), .ref (am_ 6), .ref (am_ 7), .ref (am_ 8), .ref (am_ 9), .ref (am_ 10), .int (iI ((cp_ : Nat) : Int)), .ref (am_ 11), .ref (am_ 12), .ref (am_ 13), .ref (am_ 14)])), (am_ 1, .inl (cI, 48, .inl (aI vo_))), (am_ 2, .inl (cZ, 48, .inl (aB fo_))), (am_ 3, .inl (cI, 48, .inl (aI vn_))), (am_ 4, .inl (cZ, 48, .inl (aB fn_))), (am_ 5, .inl (cI, 48, .inl (aN osr))), (am_ 6, .inl (cI, 48, .inl (aN nsr))), (am_ 7, .inl (cI, 48, .inl (aN lnr))), (am_ 8, .inl (cI, 48, .inl (aI (va_up b1_ (bn_ + i_) (((49 * bn_ + bo_ : Nat) : Int)))))), (am_ 9, .inl (cZ, 48, .inl (aB (va_up t1 (bo_ + i_) true)))), (am_ 10, .inl (cI, 2401, .inl (aN rt_))), (am_ 11, .inl (cI, 48, .inl (aN cd_))), (am_ 12, .inl (cI, 48, .inl (aN so_))), (am_ 13, .inl (cI, 48, .inl (aI me_))), (am_ 14, .inl (cI, 48, .inl (aI bf_)))]) rfl (fun H_ locs hP_ hD_ hS_ => ?_)
        refine q_iinc (k := 2) ((i_ + 1 : Nat) : Int) hx_ hb_ dX5_takes_36 hl_ rfl (rfl) (by decide) (lv' := [(2, .int (iI ((i_ + 1 : Nat) : Int))), (0, .ref (am_ 0)), (1, .int (iI ((49 * bn_ + bo_ : Nat) : Int)))]) rfl (fun ls_ hl_ => ?_)
        refine lv_goto (tgt := 2) hx_ hb_ dX5_takes_39 (by decide) ?_
        exact ih2 (i_ + 1) (va_up b1_ (bn_ + i_) (((49 * bn_ + bo_ : Nat) : Int))) (va_up t1 (bo_ + i_) true) _ _ ls_ (by omega) (by omega) (fun j_ hj_ => ⟨tb_step (hz j_ hj_).1, tk_step (hz j_ hj_).2⟩) hP_ hD_ hS_ (lv_sub hl_ [1, 2, 0] rfl)
  rw [show entryFrame m_ args 3 = entryFrame m_ ([.ref (am_ 0), .int (iI ((49 * bn_ + bo_ : Nat) : Int))] : List Value).toArray 3 from by rw [hargs], lg_entry_eq]
  have hl_ := lv_entry ([.ref (am_ 0), .int (iI ((49 * bn_ + bo_ : Nat) : Int))]) (n := 3) (Nat.le_of_ble_eq_true rfl)
  generalize (lg_sl ([.ref (am_ 0), .int (iI ((49 * bn_ + bo_ : Nat) : Int))]) ++ List.replicate (3 - (lg_sl ([.ref (am_ 0), .int (iI ((49 * bn_ + bo_ : Nat) : Int))])).length) Slot.unset).toArray = ls_ at hl_ ⊢
  have hl_ : lv_has ls_ 3 [(0, .ref (am_ 0)), (1, .int (iI ((49 * bn_ + bo_ : Nat) : Int)))] := hl_
  refine lv_iconst (v := iI ((0 : Nat) : Int)) hx_ hb_ dX5_takes_0 rfl ?_
  refine lv_istore_n (lv' := [(2, .int (iI ((0 : Nat) : Int))), (0, .ref (am_ 0)), (1, .int (iI ((49 * bn_ + bo_ : Nat) : Int)))]) hx_ hb_ dX5_takes_1 rfl hl_ (by decide) rfl (fun ls_ hl_ => ?_)
  exact lp2 (bl_ + 1) 0 ba_ tk_ _ _ ls_ (by omega) (by omega) (fun j_ hj_ => ⟨by rw [if_neg (by omega)], by rw [decide_eq_false (by omega)]; simp⟩) hP_ hD_ hS_ (lv_sub hl_ [1, 2, 0] rfl)

set_option maxHeartbeats 4000000 in
set_option maxRecDepth 100000 in
/-- numbers -/
theorem c_X5_numbers (l_ : Launch) (G_ : va_G) (cI cZ : ClassId) (am_ : Nat → Nat) (bu_ : Bool) (no_ : Nat) (vo_ : Nat → Int) (fo_ : Nat → Bool) (nn_ : Nat) (vn_ : Nat → Int) (fn_ : Nat → Bool) (k_ : Nat) (osr nsr lnr : Nat → Nat) (ba_ : Nat → Int) (tk_ : Nat → Bool) (rt_ : Nat → Nat) (cp_ : Nat) (cd_ so_ : Nat → Nat) (me_ bf_ : Nat → Int) (bs : List bT) (hno : no_ ≤ 48) (hnn : nn_ ≤ 48) (hge : Geo no_ nn_ bs) (hpl : ∀ w_, w_ < nn_ → ba_ w_ = plc bs w_) (sz : Nat) : Wr (S := Nat × (Nat → Nat) × (Nat → Nat) × (Nat → Nat) × (Nat → Int)) l_ yX5_numbers wsX5_numbers ({ frames := 0, cells := 0, slots := 0, locals := 0 }) G_ cI cZ [.ref (am_ 0)] (wMd cI cZ am_ bu_ no_ vo_ fo_ nn_ vn_ fn_ k_ osr nsr lnr ba_ tk_ rt_ cp_ cd_ so_ me_ bf_) sz (fun u_ => u_.1 ≤ 48 ∧ SE u_.1 u_.2.1 u_.2.2.1 u_.2.2.2.1 bs ∧ ∀ x_, x_ < nn_ → u_.2.2.2.2 x_ = wI (bx u_.1 u_.2.2.1 u_.2.2.2.1 x_) u_.1 (-10005)) (fun u_ => wMd cI cZ am_ bu_ no_ vo_ fo_ nn_ vn_ fn_ u_.1 u_.2.1 u_.2.2.1 u_.2.2.2.1 u_.2.2.2.2 tk_ rt_ cp_ cd_ so_ me_ bf_) := by
  refine Met.ofW (cc := cX5_numbers) (maxL := 4) (ret := (none)) (by decide) rfl ?_
  intro p_ e_ s_ m_ args below meth c_ s₁ B hml hv
  obtain ⟨hargs, hsz, hP_, hK_, hD0⟩ := hv
  have hx_ := B.exec
  have hb_ := B.bytes
  have hr := B.returns
  have hts := atoms_spec (ws := wsX5_numbers) B.pre
  have hown : s_.vm.findClass RX5 = some m_.cls := findClass_of_methodNamed B.named
  have hlocks := B.notSynchronized
  have hi5_ : ∀ w_ ∈ wsX50, w_ ∈ wsX5_numbers := by decide +kernel
  have hf23_ := hts (.fieldLink RX5 23 "RelocatingPatchModel" "oldStart" "[I") (by decide +kernel)
  have hf26_ := hts (.fieldLink RX5 26 "RelocatingPatchModel" "newStart" "[I") (by decide +kernel)
  have hf29_ := hts (.fieldLink RX5 29 "RelocatingPatchModel" "length" "[I") (by decide +kernel)
  have hf32_ := hts (.fieldLink RX5 32 "RelocatingPatchModel" "blockAt" "[I") (by decide +kernel)
  have hf57_ := hts (.fieldLink RX5 57 "RelocatingPatchModel" "news" "I") (by decide +kernel)
  have hf93_ := hts (.fieldLink RX5 93 "RelocatingPatchModel" "blocks" "I") (by decide +kernel)
  subst hsz
  have hD_ := hD0.self (sz := s_.heap.size)
  generalize hAe : va_A (wMd cI cZ am_ bu_ no_ vo_ fo_ nn_ vn_ fn_ k_ osr nsr lnr ba_ tk_ rt_ cp_ cd_ so_ me_ bf_) s_.heap.size = A_ at hD_ ⊢
  have hA_ : ∀ q_ : Nat, s_.heap.size ≤ q_ → A_ q_ := fun q_ h_ => by rw [← hAe]; exact Or.inr h_
  have hS_ : va_S A_ s_.heap s_.heap [] := va_S.rf
  have hP_ : va_P G_ vwCl [(am_ 0, .inr (5, [.int (iI ((no_ : Nat) : Int)), .ref (am_ 1), .ref (am_ 2), .int (iI ((nn_ : Nat) : Int)), .ref (am_ 3), .ref (am_ 4), .int (iI (bZ bu_)), .int (iI ((k_ : Nat) : Int)), .ref (am_ 5), .ref (am_ 6), .ref (am_ 7), .ref (am_ 8), .ref (am_ 9), .ref (am_ 10), .int (iI ((cp_ : Nat) : Int)), .ref (am_ 11), .ref (am_ 12), .ref (am_ 13), .ref (am_ 14)])), (am_ 1, .inl (cI, 48, .inl (aI vo_))), (am_ 2, .inl (cZ, 48, .inl (aB fo_))), (am_ 3, .inl (cI, 48, .inl (aI vn_))), (am_ 4, .inl (cZ, 48, .inl (aB fn_))), (am_ 5, .inl (cI, 48, .inl (aN osr))), (am_ 6, .inl (cI, 48, .inl (aN nsr))), (am_ 7, .inl (cI, 48, .inl (aN lnr))), (am_ 8, .inl (cI, 48, .inl (aI ba_))), (am_ 9, .inl (cZ, 48, .inl (aB tk_))), (am_ 10, .inl (cI, 2401, .inl (aN rt_))), (am_ 11, .inl (cI, 48, .inl (aN cd_))), (am_ 12, .inl (cI, 48, .inl (aN so_))), (am_ 13, .inl (cI, 48, .inl (aI me_))), (am_ 14, .inl (cI, 48, .inl (aI bf_)))] s_.heap := hP_
  have hD_ : va_D A_ [(am_ 0, .inr (5, [.int (iI ((no_ : Nat) : Int)), .ref (am_ 1), .ref (am_ 2), .int (iI ((nn_ : Nat) : Int)), .ref (am_ 3), .ref (am_ 4), .int (iI (bZ bu_)), .int (iI ((k_ : Nat) : Int)), .ref (am_ 5), .ref (am_ 6), .ref (am_ 7), .ref (am_ 8), .ref (am_ 9), .ref (am_ 10), .int (iI ((cp_ : Nat) : Int)), .ref (am_ 11), .ref (am_ 12), .ref (am_ 13), .ref (am_ 14)])), (am_ 1, .inl (cI, 48, .inl (aI vo_))), (am_ 2, .inl (cZ, 48, .inl (aB fo_))), (am_ 3, .inl (cI, 48, .inl (aI vn_))), (am_ 4, .inl (cZ, 48, .inl (aB fn_))), (am_ 5, .inl (cI, 48, .inl (aN osr))), (am_ 6, .inl (cI, 48, .inl (aN nsr))), (am_ 7, .inl (cI, 48, .inl (aN lnr))), (am_ 8, .inl (cI, 48, .inl (aI ba_))), (am_ 9, .inl (cZ, 48, .inl (aB tk_))), (am_ 10, .inl (cI, 2401, .inl (aN rt_))), (am_ 11, .inl (cI, 48, .inl (aN cd_))), (am_ 12, .inl (cI, 48, .inl (aN so_))), (am_ 13, .inl (cI, 48, .inl (aI me_))), (am_ 14, .inl (cI, 48, .inl (aI bf_)))] := hD_
  generalize hQe : MQ below (va_Qv (S := Nat × (Nat → Nat) × (Nat → Nat) × (Nat → Nat) × (Nat → Int)) (fun u_ => u_.1 ≤ 48 ∧ SE u_.1 u_.2.1 u_.2.2.1 u_.2.2.2.1 bs ∧ ∀ x_, x_ < nn_ → u_.2.2.2.2 x_ = wI (bx u_.1 u_.2.2.1 u_.2.2.2.1 x_) u_.1 (-10005)) (fun u1 t1 => va_P G_ vwCl ((fun u_ => wMd cI cZ am_ bu_ no_ vo_ fo_ nn_ vn_ fn_ u_.1 u_.2.1 u_.2.2.1 u_.2.2.2.1 u_.2.2.2.2 tk_ rt_ cp_ cd_ so_ me_ bf_) u1) t1.heap) A_) args s_ 0 0 A_ = Q_
  have lp11 : ∀ (n_ : Nat) (i_ : Nat) (mb : Nat) (o1_ : Nat → Nat) (n1_ : Nat → Nat) (l1_ : Nat → Nat) (b1_ : Nat → Int) (la : Int) (H_ : Heap) (locs : List Loc) (ls_ : Array Slot), (i_ ≤ nn_) → (nn_ + 1 ≤ i_ + n_) → (NmI nn_ bs i_ mb o1_ n1_ l1_ b1_ la) → va_P G_ vwCl [(am_ 0, .inr (5, [.int (iI ((no_ : Nat) : Int)), .ref (am_ 1), .ref (am_ 2), .int (iI ((nn_ : Nat) : Int)), .ref (am_ 3), .ref (am_ 4), .int (iI (bZ bu_)), .int (iI ((mb : Nat) : Int)), .ref (am_ 5), .ref (am_ 6), .ref (am_ 7), .ref (am_ 8), .ref (am_ 9), .ref (am_ 10), .int (iI ((cp_ : Nat) : Int)), .ref (am_ 11), .ref (am_ 12), .ref (am_ 13), .ref (am_ 14)])), (am_ 1, .inl (cI, 48, .inl (aI vo_))), (am_ 2, .inl (cZ, 48, .inl (aB fo_))), (am_ 3, .inl (cI, 48, .inl (aI vn_))), (am_ 4, .inl (cZ, 48, .inl (aB fn_))), (am_ 5, .inl (cI, 48, .inl (aN o1_))), (am_ 6, .inl (cI, 48, .inl (aN n1_))), (am_ 7, .inl (cI, 48, .inl (aN l1_))), (am_ 8, .inl (cI, 48, .inl (aI b1_))), (am_ 9, .inl (cZ, 48, .inl (aB tk_))), (am_ 10, .inl (cI, 2401, .inl (aN rt_))), (am_ 11, .inl (cI, 48, .inl (aN cd_))), (am_ 12, .inl (cI, 48, .inl (aN so_))), (am_ 13, .inl (cI, 48, .inl (aI me_))), (am_ 14, .inl (cI, 48, .inl (aI bf_)))] H_ → va_D A_ [(am_ 0, .inr (5, [.int (iI ((no_ : Nat) : Int)), .ref (am_ 1), .ref (am_ 2), .int (iI ((nn_ : Nat) : Int)), .ref (am_ 3), .ref (am_ 4), .int (iI (bZ bu_)), .int (iI ((mb : Nat) : Int)), .ref (am_ 5), .ref (am_ 6), .ref (am_ 7), .ref (am_ 8), .ref (am_ 9), .ref (am_ 10), .int (iI ((cp_ : Nat) : Int)), .ref (am_ 11), .ref (am_ 12), .ref (am_ 13), .ref (am_ 14)])), (am_ 1, .inl (cI, 48, .inl (aI vo_))), (am_ 2, .inl (cZ, 48, .inl (aB fo_))), (am_ 3, .inl (cI, 48, .inl (aI vn_))), (am_ 4, .inl (cZ, 48, .inl (aB fn_))), (am_ 5, .inl (cI, 48, .inl (aN o1_))), (am_ 6, .inl (cI, 48, .inl (aN n1_))), (am_ 7, .inl (cI, 48, .inl (aN l1_))), (am_ 8, .inl (cI, 48, .inl (aI b1_))), (am_ 9, .inl (cZ, 48, .inl (aB tk_))), (am_ 10, .inl (cI, 2401, .inl (aN rt_))), (am_ 11, .inl (cI, 48, .inl (aN cd_))), (am_ 12, .inl (cI, 48, .inl (aN so_))), (am_ 13, .inl (cI, 48, .inl (aI me_))), (am_ 14, .inl (cI, 48, .inl (aI bf_)))] → va_S A_ s_.heap H_ locs → lv_has ls_ 4 [(0, .ref (am_ 0)), (1, .int (iI (la))), (2, .int (iI ((i_ : Nat) : Int)))] → W p_ l_ e_ (headSpec wsX5_numbers ({ frames := 0, cells := 0, slots := 0, locals := 0 })).room s_ m_ args below meth c_ H_ locs 0 0 Q_ (F0 m_ 11 ls_ []) := by
    intro n_
    induction n_ with
    | zero =>
      intro i_ mb o1_ n1_ l1_ b1_ la H_ locs ls_ hi_ hn_ hnm
      exact False.elim (by omega)
    | succ n_ ih11 =>
      intro i_ mb o1_ n1_ l1_ b1_ la H_ locs ls_ hi_ hn_ hnm hP_ hD_ hS_ hl_
      have hmi := hnm.1
      have hla : -10005 ≤ la ∧ la ≤ 2401 := by rw [hnm.2.2.2.2.2.2]; by_cases h0_ : i_ = 0; rw [if_pos h0_]; exact ⟨by decide, by decide⟩; rw [if_neg h0_]; exact plc_R hge hno hnn _
      refine lv_iload_n hx_ hb_ dX5_numbers_11 rfl (lv_at hl_ 2 rfl) ?_
      refine lv_aload_n hx_ hb_ dX5_numbers_12 rfl (lv_at hl_ 0 rfl) ?_
      refine va_get (D := G_) (ci := 5) (v := .int (iI ((nn_ : Nat) : Int))) (C := RX5) (T := TX5) (N := 19) hx_ hb_ hts hi5_ hown hK_ hP_ 0 rfl rfl 3 (by decide) hf57_ (fun _ h9 => h9) rfl dX5_numbers_13 ?_
      refine q_icmp_ge (tgt := 119) hx_ hb_ dX5_numbers_16 (by decide) (⟨by omega, by omega⟩) (⟨by omega, by omega⟩) (fun c16_ => ?_) (fun c16_ => ?_)
      · skip
        rw [← hQe]
        exact W.vret hx_ hb_ hr (fun tt1 htt1 hWW1 => ⟨⟨(mb, o1_, n1_, l1_, b1_), rfl, by have e0_ : i_ = nn_ := (by omega); rw [e0_] at hnm; have h0_ := Nm_end hge hnm; exact ⟨by show mb ≤ 48; omega, h0_.1, h0_.2⟩, by show va_P G_ vwCl _ tt1.heap; rw [htt1]; exact hP_⟩, hS_.F htt1⟩) hS_.2.2 dX5_numbers_119
      · skip
        have hpw : -10005 ≤ b1_ i_ ∧ b1_ i_ ≤ 2401 := by rw [hnm.2.2.2.2.2.1 i_ (Nat.le_refl _) (by omega)]; exact plc_R hge hno hnn _
        refine lv_aload_n hx_ hb_ dX5_numbers_19 rfl (lv_at hl_ 0 rfl) ?_
        refine va_get (D := G_) (ci := 5) (v := .ref (am_ 8)) (C := RX5) (T := TX5) (N := 19) hx_ hb_ hts hi5_ hown hK_ hP_ 0 rfl rfl 11 (by decide) hf32_ (fun _ h9 => h9) rfl dX5_numbers_20 ?_
        refine lv_iload_n hx_ hb_ dX5_numbers_23 rfl (lv_at hl_ 2 rfl) ?_
        refine q_ildI hx_ hb_ hK_ hP_ 8 rfl (by decide) (i_) (by omega) (b1_ i_) (rfl) dX5_numbers_24 ?_
        refine lv_istore_n (lv' := [(3, .int (iI (b1_ i_))), (0, .ref (am_ 0)), (1, .int (iI (la))), (2, .int (iI ((i_ : Nat) : Int)))]) hx_ hb_ dX5_numbers_25 rfl hl_ (by decide) rfl (fun ls_ hl_ => ?_)
        refine lv_iload_n hx_ hb_ dX5_numbers_26 rfl (lv_at hl_ 0 rfl) ?_
        refine lv_sipush (v := iI (-10005)) hx_ hb_ dX5_numbers_27 rfl ?_
        refine q_icmp_eq (tgt := 111) hx_ hb_ dX5_numbers_30 (by decide) (⟨by omega, by omega⟩) (⟨by decide, by decide⟩) (fun c30_ => ?_) (fun c30_ => ?_)
        · skip
          refine lv_iload_n hx_ hb_ dX5_numbers_111 rfl (lv_at hl_ 0 rfl) ?_
          refine lv_istore_n (lv' := [(1, .int (iI (b1_ i_))), (3, .int (iI (b1_ i_))), (0, .ref (am_ 0)), (2, .int (iI ((i_ : Nat) : Int)))]) hx_ hb_ dX5_numbers_112 rfl hl_ (by decide) rfl (fun ls_ hl_ => ?_)
          refine q_iinc (k := 3) ((i_ + 1 : Nat) : Int) hx_ hb_ dX5_numbers_113 hl_ rfl (rfl) (by decide) (lv' := [(2, .int (iI ((i_ + 1 : Nat) : Int))), (1, .int (iI (b1_ i_))), (3, .int (iI (b1_ i_))), (0, .ref (am_ 0))]) rfl (fun ls_ hl_ => ?_)
          refine lv_goto (tgt := 11) hx_ hb_ dX5_numbers_116 (by decide) ?_
          exact ih11 (i_ + 1) mb o1_ n1_ l1_ b1_ ((b1_ i_)) _ _ ls_ (by omega) (by omega) (Nm_none hge hnm (by omega) c30_) hP_ hD_ hS_ (lv_sub hl_ [3, 1, 0] rfl)
        · skip
          obtain ⟨bb, hb1, hb2, hb3, hb4⟩ := Nm_b (no := no_) hnm (show i_ < nn_ by omega) c30_
          have hbg := Geo_mem hge bb hb1
          refine lv_iload_n hx_ hb_ dX5_numbers_33 rfl (lv_at hl_ 0 rfl) ?_
          refine lv_iload_n hx_ hb_ dX5_numbers_34 rfl (lv_at hl_ 2 rfl) ?_
          refine q_icmp_eq (tgt := 84) hx_ hb_ dX5_numbers_35 (by decide) (⟨by omega, by omega⟩) (⟨by omega, by omega⟩) (fun c35_ => ?_) (fun c35_ => ?_)
          · skip
            have hnw := Nm_old hge hno hnm (show i_ < nn_ by omega) hb1 hb2 hb3 c35_
            refine lv_aload_n hx_ hb_ dX5_numbers_84 rfl (lv_at hl_ 1 rfl) ?_
            refine va_get (D := G_) (ci := 5) (v := .ref (am_ 7)) (C := RX5) (T := TX5) (N := 19) hx_ hb_ hts hi5_ hown hK_ hP_ 0 rfl rfl 10 (by decide) hf29_ (fun _ h9 => h9) rfl dX5_numbers_85 ?_
            refine lv_aload_n hx_ hb_ dX5_numbers_88 rfl (lv_at hl_ 1 rfl) ?_
            refine va_get (D := G_) (ci := 5) (v := .int (iI ((mb : Nat) : Int))) (C := RX5) (T := TX5) (N := 19) hx_ hb_ hts hi5_ hown hK_ hP_ 0 rfl rfl 7 (by decide) hf93_ (fun _ h9 => h9) rfl dX5_numbers_89 ?_
            refine lv_iconst (v := iI ((1 : Nat) : Int)) hx_ hb_ dX5_numbers_92 rfl ?_
            refine q_isub hx_ hb_ dX5_numbers_93 ?_
            refine q_cast (b := ((mb - 1 : Nat) : Int)) (by omega) ?_
            refine lv_dup2_11 hx_ hb_ dX5_numbers_94 rfl rfl ?_
            refine q_ildN hx_ hb_ hK_ hP_ 7 rfl (by decide) (mb - 1) (by omega) (l1_ (mb - 1)) (rfl) dX5_numbers_95 ?_
            refine lv_iconst (v := iI ((1 : Nat) : Int)) hx_ hb_ dX5_numbers_96 rfl ?_
            refine q_iaddN hx_ hb_ dX5_numbers_97 ?_
            refine q_istN hx_ hb_ hK_ hP_ hD_ hS_ 7 rfl (by decide) (mb - 1) (by omega) ((l1_ (mb - 1)) + 1) dX5_numbers_98 (ws' := [(am_ 0, .inr (5, [.int (iI ((no_ : Nat) : Int)), .ref (am_ 1), .ref (am_ 2), .int (iI ((nn_ : Nat) : Int)), .ref (am_ 3), .ref (am_ 4), .int (iI (bZ bu_)), .int (iI ((mb : Nat) : Int)), .ref (am_ 5), .ref (am_ 6), .ref (am_ 7), .ref (am_ 8), .ref (am_ 9), .ref (am_ 10), .int (iI ((cp_ : Nat) : Int)), .ref (am_ 11), .ref (am_ 12), .ref (am_ 13), .ref (am_ 14)])), (am_ 1, .inl (cI, 48, .inl (aI vo_))), (am_ 2, .inl (cZ, 48, .inl (aB fo_))), (am_ 3, .inl (cI, 48, .inl (aI vn_))), (am_ 4, .inl (cZ, 48, .inl (aB fn_))), (am_ 5, .inl (cI, 48, .inl (aN o1_))), (am_ 6, .inl (cI, 48, .inl (aN n1_))), (am_ 7, .inl (cI, 48, .inl (aN (va_up l1_ (mb - 1) ((l1_ (mb - 1)) + 1))))), (am_ 8, .inl (cI, 48, .inl (aI b1_))), (am_ 9, .inl (cZ, 48, .inl (aB tk_))), (am_ 10, .inl (cI, 2401, .inl (aN rt_))), (am_ 11, .inl (cI, 48, .inl (aN cd_))), (am_ 12, .inl (cI, 48, .inl (aN so_))), (am_ 13, .inl (cI, 48, .inl (aI me_))), (am_ 14, .inl (cI, 48, .inl (aI bf_)))]) rfl (fun H_ locs hP_ hD_ hS_ => ?_)
            refine lv_aload_n hx_ hb_ dX5_numbers_99 rfl (lv_at hl_ 1 rfl) ?_
            refine va_get (D := G_) (ci := 5) (v := .ref (am_ 8)) (C := RX5) (T := TX5) (N := 19) hx_ hb_ hts hi5_ hown hK_ hP_ 0 rfl rfl 11 (by decide) hf32_ (fun _ h9 => h9) rfl dX5_numbers_100 ?_
            refine lv_iload_n hx_ hb_ dX5_numbers_103 rfl (lv_at hl_ 3 rfl) ?_
            refine lv_aload_n hx_ hb_ dX5_numbers_104 rfl (lv_at hl_ 1 rfl) ?_
            refine va_get (D := G_) (ci := 5) (v := .int (iI ((mb : Nat) : Int))) (C := RX5) (T := TX5) (N := 19) hx_ hb_ hts hi5_ hown hK_ hP_ 0 rfl rfl 7 (by decide) hf93_ (fun _ h9 => h9) rfl dX5_numbers_105 ?_
            refine lv_iconst (v := iI ((1 : Nat) : Int)) hx_ hb_ dX5_numbers_108 rfl ?_
            refine q_isub hx_ hb_ dX5_numbers_109 ?_
            refine q_cast (b := ((mb - 1 : Nat) : Int)) (by omega) ?_
            refine q_istI hx_ hb_ hK_ hP_ hD_ hS_ 8 rfl (by decide) (i_) (by omega) (((mb - 1 : Nat) : Int)) dX5_numbers_110 (ws' := [(am_ 0, .inr (5, [.int (iI ((no_ : Nat) : Int)), .ref (am_ 1), .ref (am_ 2), .int (iI ((nn_ : Nat) : Int)), .ref (am_ 3), .ref (am_ 4), .int (iI (bZ bu_)), .int (iI ((mb : Nat) : Int)), .ref (am_ 5), .ref (am_ 6), .ref (am_ 7), .ref (am_ 8), .ref (am_ 9), .ref (am_ 10), .int (iI ((cp_ : Nat) : Int)), .ref (am_ 11), .ref (am_ 12), .ref (am_ 13), .ref (am_ 14)])), (am_ 1, .inl (cI, 48, .inl (aI vo_))), (am_ 2, .inl (cZ, 48, .inl (aB fo_))), (am_ 3, .inl (cI, 48, .inl (aI vn_))), (am_ 4, .inl (cZ, 48, .inl (aB fn_))), (am_ 5, .inl (cI, 48, .inl (aN o1_))), (am_ 6, .inl (cI, 48, .inl (aN n1_))), (am_ 7, .inl (cI, 48, .inl (aN (va_up l1_ (mb - 1) ((l1_ (mb - 1)) + 1))))), (am_ 8, .inl (cI, 48, .inl (aI (va_up b1_ i_ (((mb - 1 : Nat) : Int)))))), (am_ 9, .inl (cZ, 48, .inl (aB tk_))), (am_ 10, .inl (cI, 2401, .inl (aN rt_))), (am_ 11, .inl (cI, 48, .inl (aN cd_))), (am_ 12, .inl (cI, 48, .inl (aN so_))), (am_ 13, .inl (cI, 48, .inl (aI me_))), (am_ 14, .inl (cI, 48, .inl (aI bf_)))]) rfl (fun H_ locs hP_ hD_ hS_ => ?_)
            refine lv_iload_n hx_ hb_ dX5_numbers_111 rfl (lv_at hl_ 0 rfl) ?_
            refine lv_istore_n (lv' := [(1, .int (iI (b1_ i_))), (3, .int (iI (b1_ i_))), (0, .ref (am_ 0)), (2, .int (iI ((i_ : Nat) : Int)))]) hx_ hb_ dX5_numbers_112 rfl hl_ (by decide) rfl (fun ls_ hl_ => ?_)
            refine q_iinc (k := 3) ((i_ + 1 : Nat) : Int) hx_ hb_ dX5_numbers_113 hl_ rfl (rfl) (by decide) (lv' := [(2, .int (iI ((i_ + 1 : Nat) : Int))), (1, .int (iI (b1_ i_))), (3, .int (iI (b1_ i_))), (0, .ref (am_ 0))]) rfl (fun ls_ hl_ => ?_)
            refine lv_goto (tgt := 11) hx_ hb_ dX5_numbers_116 (by decide) ?_
            exact ih11 (i_ + 1) mb o1_ n1_ (va_up l1_ (mb - 1) ((l1_ (mb - 1)) + 1)) (va_up b1_ i_ (((mb - 1 : Nat) : Int))) ((b1_ i_)) _ _ ls_ (by omega) (by omega) (hnw.2) hP_ hD_ hS_ (lv_sub hl_ [3, 1, 0] rfl)
          · skip
            have hnw := Nm_new hge hnm (show i_ < nn_ by omega) hb1 hb2 hb3 c35_
            refine lv_aload_n hx_ hb_ dX5_numbers_38 rfl (lv_at hl_ 1 rfl) ?_
            refine va_get (D := G_) (ci := 5) (v := .ref (am_ 5)) (C := RX5) (T := TX5) (N := 19) hx_ hb_ hts hi5_ hown hK_ hP_ 0 rfl rfl 8 (by decide) hf23_ (fun _ h9 => h9) rfl dX5_numbers_39 ?_
            refine lv_aload_n hx_ hb_ dX5_numbers_42 rfl (lv_at hl_ 1 rfl) ?_
            refine va_get (D := G_) (ci := 5) (v := .int (iI ((mb : Nat) : Int))) (C := RX5) (T := TX5) (N := 19) hx_ hb_ hts hi5_ hown hK_ hP_ 0 rfl rfl 7 (by decide) hf93_ (fun _ h9 => h9) rfl dX5_numbers_43 ?_
            refine lv_iload_n hx_ hb_ dX5_numbers_46 rfl (lv_at hl_ 0 rfl) ?_
            refine q_cast (b := ((49 * bb.2.1 + bb.2.2 : Nat) : Int)) (hb4) ?_
            refine lv_bipush (v := iI ((49 : Nat) : Int)) hx_ hb_ dX5_numbers_47 rfl ?_
            refine q_irem hx_ hb_ (by omega) dX5_numbers_49 ?_
            refine q_cast (b := ((bb.2.2 : Nat) : Int)) (by omega) ?_
            refine q_istN hx_ hb_ hK_ hP_ hD_ hS_ 5 rfl (by decide) (mb) (by omega) (bb.2.2) dX5_numbers_50 (ws' := [(am_ 0, .inr (5, [.int (iI ((no_ : Nat) : Int)), .ref (am_ 1), .ref (am_ 2), .int (iI ((nn_ : Nat) : Int)), .ref (am_ 3), .ref (am_ 4), .int (iI (bZ bu_)), .int (iI ((mb : Nat) : Int)), .ref (am_ 5), .ref (am_ 6), .ref (am_ 7), .ref (am_ 8), .ref (am_ 9), .ref (am_ 10), .int (iI ((cp_ : Nat) : Int)), .ref (am_ 11), .ref (am_ 12), .ref (am_ 13), .ref (am_ 14)])), (am_ 1, .inl (cI, 48, .inl (aI vo_))), (am_ 2, .inl (cZ, 48, .inl (aB fo_))), (am_ 3, .inl (cI, 48, .inl (aI vn_))), (am_ 4, .inl (cZ, 48, .inl (aB fn_))), (am_ 5, .inl (cI, 48, .inl (aN (va_up o1_ mb bb.2.2)))), (am_ 6, .inl (cI, 48, .inl (aN n1_))), (am_ 7, .inl (cI, 48, .inl (aN l1_))), (am_ 8, .inl (cI, 48, .inl (aI b1_))), (am_ 9, .inl (cZ, 48, .inl (aB tk_))), (am_ 10, .inl (cI, 2401, .inl (aN rt_))), (am_ 11, .inl (cI, 48, .inl (aN cd_))), (am_ 12, .inl (cI, 48, .inl (aN so_))), (am_ 13, .inl (cI, 48, .inl (aI me_))), (am_ 14, .inl (cI, 48, .inl (aI bf_)))]) rfl (fun H_ locs hP_ hD_ hS_ => ?_)
            refine lv_aload_n hx_ hb_ dX5_numbers_51 rfl (lv_at hl_ 1 rfl) ?_
            refine va_get (D := G_) (ci := 5) (v := .ref (am_ 6)) (C := RX5) (T := TX5) (N := 19) hx_ hb_ hts hi5_ hown hK_ hP_ 0 rfl rfl 9 (by decide) hf26_ (fun _ h9 => h9) rfl dX5_numbers_52 ?_
            refine lv_aload_n hx_ hb_ dX5_numbers_55 rfl (lv_at hl_ 1 rfl) ?_
            refine va_get (D := G_) (ci := 5) (v := .int (iI ((mb : Nat) : Int))) (C := RX5) (T := TX5) (N := 19) hx_ hb_ hts hi5_ hown hK_ hP_ 0 rfl rfl 7 (by decide) hf93_ (fun _ h9 => h9) rfl dX5_numbers_56 ?_
            refine lv_iload_n hx_ hb_ dX5_numbers_59 rfl (lv_at hl_ 0 rfl) ?_
            refine q_cast (b := ((49 * bb.2.1 + bb.2.2 : Nat) : Int)) (hb4) ?_
            refine lv_bipush (v := iI ((49 : Nat) : Int)) hx_ hb_ dX5_numbers_60 rfl ?_
            refine q_idiv hx_ hb_ (by omega) dX5_numbers_62 ?_
            refine q_cast (b := ((bb.2.1 : Nat) : Int)) (by omega) ?_
            refine q_istN hx_ hb_ hK_ hP_ hD_ hS_ 6 rfl (by decide) (mb) (by omega) (bb.2.1) dX5_numbers_63 (ws' := [(am_ 0, .inr (5, [.int (iI ((no_ : Nat) : Int)), .ref (am_ 1), .ref (am_ 2), .int (iI ((nn_ : Nat) : Int)), .ref (am_ 3), .ref (am_ 4), .int (iI (bZ bu_)), .int (iI ((mb : Nat) : Int)), .ref (am_ 5), .ref (am_ 6), .ref (am_ 7), .ref (am_ 8), .ref (am_ 9), .ref (am_ 10), .int (iI ((cp_ : Nat) : Int)), .ref (am_ 11), .ref (am_ 12), .ref (am_ 13), .ref (am_ 14)])), (am_ 1, .inl (cI, 48, .inl (aI vo_))), (am_ 2, .inl (cZ, 48, .inl (aB fo_))), (am_ 3, .inl (cI, 48, .inl (aI vn_))), (am_ 4, .inl (cZ, 48, .inl (aB fn_))), (am_ 5, .inl (cI, 48, .inl (aN (va_up o1_ mb bb.2.2)))), (am_ 6, .inl (cI, 48, .inl (aN (va_up n1_ mb bb.2.1)))), (am_ 7, .inl (cI, 48, .inl (aN l1_))), (am_ 8, .inl (cI, 48, .inl (aI b1_))), (am_ 9, .inl (cZ, 48, .inl (aB tk_))), (am_ 10, .inl (cI, 2401, .inl (aN rt_))), (am_ 11, .inl (cI, 48, .inl (aN cd_))), (am_ 12, .inl (cI, 48, .inl (aN so_))), (am_ 13, .inl (cI, 48, .inl (aI me_))), (am_ 14, .inl (cI, 48, .inl (aI bf_)))]) rfl (fun H_ locs hP_ hD_ hS_ => ?_)
            refine lv_aload_n hx_ hb_ dX5_numbers_64 rfl (lv_at hl_ 1 rfl) ?_
            refine va_get (D := G_) (ci := 5) (v := .ref (am_ 7)) (C := RX5) (T := TX5) (N := 19) hx_ hb_ hts hi5_ hown hK_ hP_ 0 rfl rfl 10 (by decide) hf29_ (fun _ h9 => h9) rfl dX5_numbers_65 ?_
            refine lv_aload_n hx_ hb_ dX5_numbers_68 rfl (lv_at hl_ 1 rfl) ?_
            refine va_get (D := G_) (ci := 5) (v := .int (iI ((mb : Nat) : Int))) (C := RX5) (T := TX5) (N := 19) hx_ hb_ hts hi5_ hown hK_ hP_ 0 rfl rfl 7 (by decide) hf93_ (fun _ h9 => h9) rfl dX5_numbers_69 ?_
            refine lv_iconst (v := iI ((0 : Nat) : Int)) hx_ hb_ dX5_numbers_72 rfl ?_
            refine q_istN hx_ hb_ hK_ hP_ hD_ hS_ 7 rfl (by decide) (mb) (by omega) (0) dX5_numbers_73 (ws' := [(am_ 0, .inr (5, [.int (iI ((no_ : Nat) : Int)), .ref (am_ 1), .ref (am_ 2), .int (iI ((nn_ : Nat) : Int)), .ref (am_ 3), .ref (am_ 4), .int (iI (bZ bu_)), .int (iI ((mb : Nat) : Int)), .ref (am_ 5), .ref (am_ 6), .ref (am_ 7), .ref (am_ 8), .ref (am_ 9), .ref (am_ 10), .int (iI ((cp_ : Nat) : Int)), .ref (am_ 11), .ref (am_ 12), .ref (am_ 13), .ref (am_ 14)])), (am_ 1, .inl (cI, 48, .inl (aI vo_))), (am_ 2, .inl (cZ, 48, .inl (aB fo_))), (am_ 3, .inl (cI, 48, .inl (aI vn_))), (am_ 4, .inl (cZ, 48, .inl (aB fn_))), (am_ 5, .inl (cI, 48, .inl (aN (va_up o1_ mb bb.2.2)))), (am_ 6, .inl (cI, 48, .inl (aN (va_up n1_ mb bb.2.1)))), (am_ 7, .inl (cI, 48, .inl (aN (va_up l1_ mb 0)))), (am_ 8, .inl (cI, 48, .inl (aI b1_))), (am_ 9, .inl (cZ, 48, .inl (aB tk_))), (am_ 10, .inl (cI, 2401, .inl (aN rt_))), (am_ 11, .inl (cI, 48, .inl (aN cd_))), (am_ 12, .inl (cI, 48, .inl (aN so_))), (am_ 13, .inl (cI, 48, .inl (aI me_))), (am_ 14, .inl (cI, 48, .inl (aI bf_)))]) rfl (fun H_ locs hP_ hD_ hS_ => ?_)
            refine lv_aload_n hx_ hb_ dX5_numbers_74 rfl (lv_at hl_ 1 rfl) ?_
            refine lv_dup hx_ hb_ dX5_numbers_75 rfl ?_
            refine va_get (D := G_) (ci := 5) (v := .int (iI ((mb : Nat) : Int))) (C := RX5) (T := TX5) (N := 19) hx_ hb_ hts hi5_ hown hK_ hP_ 0 rfl rfl 7 (by decide) hf93_ (fun _ h9 => h9) rfl dX5_numbers_76 ?_
            refine lv_iconst (v := iI ((1 : Nat) : Int)) hx_ hb_ dX5_numbers_79 rfl ?_
            refine q_iaddN hx_ hb_ dX5_numbers_80 ?_
            refine va_put (D := G_) (ci := 5) (v := .int (iI ((mb + 1 : Nat) : Int))) (ty := .int) (C := RX5) (T := TX5) (N := 19) hx_ hb_ hts hi5_ tyX5 tyX5_ok nmX5 hown hK_ hP_ hD_ hS_ 0 rfl rfl 7 (by decide) hf93_ (fun _ h9 => h9) rfl (by decide +kernel) rfl rfl (Nat.le_of_ble_eq_true rfl) dX5_numbers_81 (fun H_ locs hP_ hD_ hS_ => ?_)
            have hP_ : va_P G_ vwCl [(am_ 0, .inr (5, [.int (iI ((no_ : Nat) : Int)), .ref (am_ 1), .ref (am_ 2), .int (iI ((nn_ : Nat) : Int)), .ref (am_ 3), .ref (am_ 4), .int (iI (bZ bu_)), .int (iI ((mb + 1 : Nat) : Int)), .ref (am_ 5), .ref (am_ 6), .ref (am_ 7), .ref (am_ 8), .ref (am_ 9), .ref (am_ 10), .int (iI ((cp_ : Nat) : Int)), .ref (am_ 11), .ref (am_ 12), .ref (am_ 13), .ref (am_ 14)])), (am_ 1, .inl (cI, 48, .inl (aI vo_))), (am_ 2, .inl (cZ, 48, .inl (aB fo_))), (am_ 3, .inl (cI, 48, .inl (aI vn_))), (am_ 4, .inl (cZ, 48, .inl (aB fn_))), (am_ 5, .inl (cI, 48, .inl (aN (va_up o1_ mb bb.2.2)))), (am_ 6, .inl (cI, 48, .inl (aN (va_up n1_ mb bb.2.1)))), (am_ 7, .inl (cI, 48, .inl (aN (va_up l1_ mb 0)))), (am_ 8, .inl (cI, 48, .inl (aI b1_))), (am_ 9, .inl (cZ, 48, .inl (aB tk_))), (am_ 10, .inl (cI, 2401, .inl (aN rt_))), (am_ 11, .inl (cI, 48, .inl (aN cd_))), (am_ 12, .inl (cI, 48, .inl (aN so_))), (am_ 13, .inl (cI, 48, .inl (aI me_))), (am_ 14, .inl (cI, 48, .inl (aI bf_)))] H_ := hP_
            have hD_ : va_D A_ [(am_ 0, .inr (5, [.int (iI ((no_ : Nat) : Int)), .ref (am_ 1), .ref (am_ 2), .int (iI ((nn_ : Nat) : Int)), .ref (am_ 3), .ref (am_ 4), .int (iI (bZ bu_)), .int (iI ((mb + 1 : Nat) : Int)), .ref (am_ 5), .ref (am_ 6), .ref (am_ 7), .ref (am_ 8), .ref (am_ 9), .ref (am_ 10), .int (iI ((cp_ : Nat) : Int)), .ref (am_ 11), .ref (am_ 12), .ref (am_ 13), .ref (am_ 14)])), (am_ 1, .inl (cI, 48, .inl (aI vo_))), (am_ 2, .inl (cZ, 48, .inl (aB fo_))), (am_ 3, .inl (cI, 48, .inl (aI vn_))), (am_ 4, .inl (cZ, 48, .inl (aB fn_))), (am_ 5, .inl (cI, 48, .inl (aN (va_up o1_ mb bb.2.2)))), (am_ 6, .inl (cI, 48, .inl (aN (va_up n1_ mb bb.2.1)))), (am_ 7, .inl (cI, 48, .inl (aN (va_up l1_ mb 0)))), (am_ 8, .inl (cI, 48, .inl (aI b1_))), (am_ 9, .inl (cZ, 48, .inl (aB tk_))), (am_ 10, .inl (cI, 2401, .inl (aN rt_))), (am_ 11, .inl (cI, 48, .inl (aN cd_))), (am_ 12, .inl (cI, 48, .inl (aN so_))), (am_ 13, .inl (cI, 48, .inl (aI me_))), (am_ 14, .inl (cI, 48, .inl (aI bf_)))] := hD_
            refine lv_aload_n hx_ hb_ dX5_numbers_84 rfl (lv_at hl_ 1 rfl) ?_
            refine va_get (D := G_) (ci := 5) (v := .ref (am_ 7)) (C := RX5) (T := TX5) (N := 19) hx_ hb_ hts hi5_ hown hK_ hP_ 0 rfl rfl 10 (by decide) hf29_ (fun _ h9 => h9) rfl dX5_numbers_85 ?_
            refine lv_aload_n hx_ hb_ dX5_numbers_88 rfl (lv_at hl_ 1 rfl) ?_
            refine va_get (D := G_) (ci := 5) (v := .int (iI ((mb + 1 : Nat) : Int))) (C := RX5) (T := TX5) (N := 19) hx_ hb_ hts hi5_ hown hK_ hP_ 0 rfl rfl 7 (by decide) hf93_ (fun _ h9 => h9) rfl dX5_numbers_89 ?_
            refine lv_iconst (v := iI ((1 : Nat) : Int)) hx_ hb_ dX5_numbers_92 rfl ?_
            refine q_isub hx_ hb_ dX5_numbers_93 ?_
            refine q_cast (b := ((mb : Nat) : Int)) (by omega) ?_
            refine lv_dup2_11 hx_ hb_ dX5_numbers_94 rfl rfl ?_
            refine q_ildN hx_ hb_ hK_ hP_ 7 rfl (by decide) (mb) (by omega) (0) (up_eq) dX5_numbers_95 ?_
            refine lv_iconst (v := iI ((1 : Nat) : Int)) hx_ hb_ dX5_numbers_96 rfl ?_
            refine q_iaddN hx_ hb_ dX5_numbers_97 ?_
            refine q_istN hx_ hb_ hK_ hP_ hD_ hS_ 7 rfl (by decide) (mb) (by omega) (0 + 1) dX5_numbers_98 (ws' := [(am_ 0, .inr (5, [.int (iI ((no_ : Nat) : Int)), .ref (am_ 1), .ref (am_ 2), .int (iI ((nn_ : Nat) : Int)), .ref (am_ 3), .ref (am_ 4), .int (iI (bZ bu_)), .int (iI ((mb + 1 : Nat) : Int)), .ref (am_ 5), .ref (am_ 6), .ref (am_ 7), .ref (am_ 8), .ref (am_ 9), .ref (am_ 10), .int (iI ((cp_ : Nat) : Int)), .ref (am_ 11), .ref (am_ 12), .ref (am_ 13), .ref (am_ 14)])), (am_ 1, .inl (cI, 48, .inl (aI vo_))), (am_ 2, .inl (cZ, 48, .inl (aB fo_))), (am_ 3, .inl (cI, 48, .inl (aI vn_))), (am_ 4, .inl (cZ, 48, .inl (aB fn_))), (am_ 5, .inl (cI, 48, .inl (aN (va_up o1_ mb bb.2.2)))), (am_ 6, .inl (cI, 48, .inl (aN (va_up n1_ mb bb.2.1)))), (am_ 7, .inl (cI, 48, .inl (aN (va_up (va_up l1_ mb 0) mb (0 + 1))))), (am_ 8, .inl (cI, 48, .inl (aI b1_))), (am_ 9, .inl (cZ, 48, .inl (aB tk_))), (am_ 10, .inl (cI, 2401, .inl (aN rt_))), (am_ 11, .inl (cI, 48, .inl (aN cd_))), (am_ 12, .inl (cI, 48, .inl (aN so_))), (am_ 13, .inl (cI, 48, .inl (aI me_))), (am_ 14, .inl (cI, 48, .inl (aI bf_)))]) rfl (fun H_ locs hP_ hD_ hS_ => ?_)
            refine lv_aload_n hx_ hb_ dX5_numbers_99 rfl (lv_at hl_ 1 rfl) ?_
            refine va_get (D := G_) (ci := 5) (v := .ref (am_ 8)) (C := RX5) (T := TX5) (N := 19) hx_ hb_ hts hi5_ hown hK_ hP_ 0 rfl rfl 11 (by decide) hf32_ (fun _ h9 => h9) rfl dX5_numbers_100 ?_
            refine lv_iload_n hx_ hb_ dX5_numbers_103 rfl (lv_at hl_ 3 rfl) ?_
            refine lv_aload_n hx_ hb_ dX5_numbers_104 rfl (lv_at hl_ 1 rfl) ?_
            refine va_get (D := G_) (ci := 5) (v := .int (iI ((mb + 1 : Nat) : Int))) (C := RX5) (T := TX5) (N := 19) hx_ hb_ hts hi5_ hown hK_ hP_ 0 rfl rfl 7 (by decide) hf93_ (fun _ h9 => h9) rfl dX5_numbers_105 ?_
            refine lv_iconst (v := iI ((1 : Nat) : Int)) hx_ hb_ dX5_numbers_108 rfl ?_
            refine q_isub hx_ hb_ dX5_numbers_109 ?_
            refine q_cast (b := ((mb : Nat) : Int)) (by omega) ?_
            refine q_istI hx_ hb_ hK_ hP_ hD_ hS_ 8 rfl (by decide) (i_) (by omega) (((mb : Nat) : Int)) dX5_numbers_110 (ws' := [(am_ 0, .inr (5, [.int (iI ((no_ : Nat) : Int)), .ref (am_ 1), .ref (am_ 2), .int (iI ((nn_ : Nat) : Int)), .ref (am_ 3), .ref (am_ 4), .int (iI (bZ bu_)), .int (iI ((mb + 1 : Nat) : Int)), .ref (am_ 5), .ref (am_ 6), .ref (am_ 7), .ref (am_ 8), .ref (am_ 9), .ref (am_ 10), .int (iI ((cp_ : Nat) : Int)), .ref (am_ 11), .ref (am_ 12), .ref (am_ 13), .ref (am_ 14)])), (am_ 1, .inl (cI, 48, .inl (aI vo_))), (am_ 2, .inl (cZ, 48, .inl (aB fo_))), (am_ 3, .inl (cI, 48, .inl (aI vn_))), (am_ 4, .inl (cZ, 48, .inl (aB fn_))), (am_ 5, .inl (cI, 48, .inl (aN (va_up o1_ mb bb.2.2)))), (am_ 6, .inl (cI, 48, .inl (aN (va_up n1_ mb bb.2.1)))), (am_ 7, .inl (cI, 48, .inl (aN (va_up (va_up l1_ mb 0) mb (0 + 1))))), (am_ 8, .inl (cI, 48, .inl (aI (va_up b1_ i_ (((mb : Nat) : Int)))))), (am_ 9, .inl (cZ, 48, .inl (aB tk_))), (am_ 10, .inl (cI, 2401, .inl (aN rt_))), (am_ 11, .inl (cI, 48, .inl (aN cd_))), (am_ 12, .inl (cI, 48, .inl (aN so_))), (am_ 13, .inl (cI, 48, .inl (aI me_))), (am_ 14, .inl (cI, 48, .inl (aI bf_)))]) rfl (fun H_ locs hP_ hD_ hS_ => ?_)
            refine lv_iload_n hx_ hb_ dX5_numbers_111 rfl (lv_at hl_ 0 rfl) ?_
            refine lv_istore_n (lv' := [(1, .int (iI (b1_ i_))), (3, .int (iI (b1_ i_))), (0, .ref (am_ 0)), (2, .int (iI ((i_ : Nat) : Int)))]) hx_ hb_ dX5_numbers_112 rfl hl_ (by decide) rfl (fun ls_ hl_ => ?_)
            refine q_iinc (k := 3) ((i_ + 1 : Nat) : Int) hx_ hb_ dX5_numbers_113 hl_ rfl (rfl) (by decide) (lv' := [(2, .int (iI ((i_ + 1 : Nat) : Int))), (1, .int (iI (b1_ i_))), (3, .int (iI (b1_ i_))), (0, .ref (am_ 0))]) rfl (fun ls_ hl_ => ?_)
            refine lv_goto (tgt := 11) hx_ hb_ dX5_numbers_116 (by decide) ?_
            exact ih11 (i_ + 1) (mb + 1) (va_up o1_ mb bb.2.2) (va_up n1_ mb bb.2.1) (va_up (va_up l1_ mb 0) mb (0 + 1)) (va_up b1_ i_ (((mb : Nat) : Int))) ((b1_ i_)) _ _ ls_ (by omega) (by omega) (hnw.2) hP_ hD_ hS_ (lv_sub hl_ [3, 1, 0] rfl)
  rw [show entryFrame m_ args 4 = entryFrame m_ ([.ref (am_ 0)] : List Value).toArray 4 from by rw [hargs], lg_entry_eq]
  have hl_ := lv_entry ([.ref (am_ 0)]) (n := 4) (Nat.le_of_ble_eq_true rfl)
  generalize (lg_sl ([.ref (am_ 0)]) ++ List.replicate (4 - (lg_sl ([.ref (am_ 0)])).length) Slot.unset).toArray = ls_ at hl_ ⊢
  have hl_ : lv_has ls_ 4 [(0, .ref (am_ 0))] := hl_
  refine lv_aload_n hx_ hb_ dX5_numbers_0 rfl (lv_at hl_ 0 rfl) ?_
  refine lv_iconst (v := iI ((0 : Nat) : Int)) hx_ hb_ dX5_numbers_1 rfl ?_
  refine va_put (D := G_) (ci := 5) (v := .int (iI ((0 : Nat) : Int))) (ty := .int) (C := RX5) (T := TX5) (N := 19) hx_ hb_ hts hi5_ tyX5 tyX5_ok nmX5 hown hK_ hP_ hD_ hS_ 0 rfl rfl 7 (by decide) hf93_ (fun _ h9 => h9) rfl (by decide +kernel) rfl rfl (Nat.le_of_ble_eq_true rfl) dX5_numbers_2 (fun H_ locs hP_ hD_ hS_ => ?_)
  have hP_ : va_P G_ vwCl [(am_ 0, .inr (5, [.int (iI ((no_ : Nat) : Int)), .ref (am_ 1), .ref (am_ 2), .int (iI ((nn_ : Nat) : Int)), .ref (am_ 3), .ref (am_ 4), .int (iI (bZ bu_)), .int (iI ((0 : Nat) : Int)), .ref (am_ 5), .ref (am_ 6), .ref (am_ 7), .ref (am_ 8), .ref (am_ 9), .ref (am_ 10), .int (iI ((cp_ : Nat) : Int)), .ref (am_ 11), .ref (am_ 12), .ref (am_ 13), .ref (am_ 14)])), (am_ 1, .inl (cI, 48, .inl (aI vo_))), (am_ 2, .inl (cZ, 48, .inl (aB fo_))), (am_ 3, .inl (cI, 48, .inl (aI vn_))), (am_ 4, .inl (cZ, 48, .inl (aB fn_))), (am_ 5, .inl (cI, 48, .inl (aN osr))), (am_ 6, .inl (cI, 48, .inl (aN nsr))), (am_ 7, .inl (cI, 48, .inl (aN lnr))), (am_ 8, .inl (cI, 48, .inl (aI ba_))), (am_ 9, .inl (cZ, 48, .inl (aB tk_))), (am_ 10, .inl (cI, 2401, .inl (aN rt_))), (am_ 11, .inl (cI, 48, .inl (aN cd_))), (am_ 12, .inl (cI, 48, .inl (aN so_))), (am_ 13, .inl (cI, 48, .inl (aI me_))), (am_ 14, .inl (cI, 48, .inl (aI bf_)))] H_ := hP_
  have hD_ : va_D A_ [(am_ 0, .inr (5, [.int (iI ((no_ : Nat) : Int)), .ref (am_ 1), .ref (am_ 2), .int (iI ((nn_ : Nat) : Int)), .ref (am_ 3), .ref (am_ 4), .int (iI (bZ bu_)), .int (iI ((0 : Nat) : Int)), .ref (am_ 5), .ref (am_ 6), .ref (am_ 7), .ref (am_ 8), .ref (am_ 9), .ref (am_ 10), .int (iI ((cp_ : Nat) : Int)), .ref (am_ 11), .ref (am_ 12), .ref (am_ 13), .ref (am_ 14)])), (am_ 1, .inl (cI, 48, .inl (aI vo_))), (am_ 2, .inl (cZ, 48, .inl (aB fo_))), (am_ 3, .inl (cI, 48, .inl (aI vn_))), (am_ 4, .inl (cZ, 48, .inl (aB fn_))), (am_ 5, .inl (cI, 48, .inl (aN osr))), (am_ 6, .inl (cI, 48, .inl (aN nsr))), (am_ 7, .inl (cI, 48, .inl (aN lnr))), (am_ 8, .inl (cI, 48, .inl (aI ba_))), (am_ 9, .inl (cZ, 48, .inl (aB tk_))), (am_ 10, .inl (cI, 2401, .inl (aN rt_))), (am_ 11, .inl (cI, 48, .inl (aN cd_))), (am_ 12, .inl (cI, 48, .inl (aN so_))), (am_ 13, .inl (cI, 48, .inl (aI me_))), (am_ 14, .inl (cI, 48, .inl (aI bf_)))] := hD_
  refine lv_sipush (v := iI (-10005)) hx_ hb_ dX5_numbers_5 rfl ?_
  refine lv_istore_n (lv' := [(1, .int (iI (-10005))), (0, .ref (am_ 0))]) hx_ hb_ dX5_numbers_8 rfl hl_ (by decide) rfl (fun ls_ hl_ => ?_)
  refine lv_iconst (v := iI ((0 : Nat) : Int)) hx_ hb_ dX5_numbers_9 rfl ?_
  refine lv_istore_n (lv' := [(2, .int (iI ((0 : Nat) : Int))), (1, .int (iI (-10005))), (0, .ref (am_ 0))]) hx_ hb_ dX5_numbers_10 rfl hl_ (by decide) rfl (fun ls_ hl_ => ?_)
  exact lp11 (nn_ + 1) 0 0 osr nsr lnr ba_ (-10005) _ _ ls_ (by omega) (by omega) (Nm_0 hpl) hP_ hD_ hS_ (lv_sub hl_ [2, 1, 0] rfl)

set_option maxHeartbeats 4000000 in
set_option maxRecDepth 100000 in
/-- isBefore -/
theorem c_X5_isBefore (l_ : Launch) (G_ : va_G) (cI cZ : ClassId) (am_ : Nat → Nat) (bu_ : Bool) (no_ : Nat) (vo_ : Nat → Int) (fo_ : Nat → Bool) (nn_ : Nat) (vn_ : Nat → Int) (fn_ : Nat → Bool) (k_ : Nat) (osr nsr lnr : Nat → Nat) (ba_ : Nat → Int) (tk_ : Nat → Bool) (rt_ : Nat → Nat) (cp_ : Nat) (cd_ so_ : Nat → Nat) (me_ bf_ : Nat → Int) (os_ ns_ ln_ : Nat → Nat) (x_ : Nat) (y_ : Nat) (hk_ : k_ ≤ 48) (hB_ : B48 k_ os_ ns_ ln_) (ha_ : ∀ j_, j_ < k_ → osr j_ = os_ j_ ∧ nsr j_ = ns_ j_ ∧ lnr j_ = ln_ j_) (hx0 : x_ < k_) (hy0 : y_ < k_) : Ro l_ yX5_isBefore wsX5_isBefore ({ frames := 0, cells := 0, slots := 0, locals := 0 }) G_ cI cZ [.ref (am_ 0), .int (iI ((x_ : Nat) : Int)), .int (iI ((y_ : Nat) : Int))] (wMd cI cZ am_ bu_ no_ vo_ fo_ nn_ vn_ fn_ k_ osr nsr lnr ba_ tk_ rt_ cp_ cd_ so_ me_ bf_) (bZ (mgb os_ ns_ ln_ x_ y_)) := by
  refine Met.ofW (cc := cX5_isBefore) (maxL := 3) (ret := (some .boolean)) (by decide) rfl ?_
  intro p_ e_ s_ m_ args below meth c_ s₁ B hml hv
  obtain ⟨hargs, hP_, hK_⟩ := hv
  have hx_ := B.exec
  have hb_ := B.bytes
  have hr := B.returns
  have hts := atoms_spec (ws := wsX5_isBefore) B.pre
  have hown : s_.vm.findClass RX5 = some m_.cls := findClass_of_methodNamed B.named
  have hlocks := B.notSynchronized
  have hi5_ : ∀ w_ ∈ wsX50, w_ ∈ wsX5_isBefore := by decide +kernel
  have hf23_ := hts (.fieldLink RX5 23 "RelocatingPatchModel" "oldStart" "[I") (by decide +kernel)
  have hf26_ := hts (.fieldLink RX5 26 "RelocatingPatchModel" "newStart" "[I") (by decide +kernel)
  have hf29_ := hts (.fieldLink RX5 29 "RelocatingPatchModel" "length" "[I") (by decide +kernel)
  have hP_ : va_P G_ vwCl [(am_ 0, .inr (5, [.int (iI ((no_ : Nat) : Int)), .ref (am_ 1), .ref (am_ 2), .int (iI ((nn_ : Nat) : Int)), .ref (am_ 3), .ref (am_ 4), .int (iI (bZ bu_)), .int (iI ((k_ : Nat) : Int)), .ref (am_ 5), .ref (am_ 6), .ref (am_ 7), .ref (am_ 8), .ref (am_ 9), .ref (am_ 10), .int (iI ((cp_ : Nat) : Int)), .ref (am_ 11), .ref (am_ 12), .ref (am_ 13), .ref (am_ 14)])), (am_ 1, .inl (cI, 48, .inl (aI vo_))), (am_ 2, .inl (cZ, 48, .inl (aB fo_))), (am_ 3, .inl (cI, 48, .inl (aI vn_))), (am_ 4, .inl (cZ, 48, .inl (aB fn_))), (am_ 5, .inl (cI, 48, .inl (aN osr))), (am_ 6, .inl (cI, 48, .inl (aN nsr))), (am_ 7, .inl (cI, 48, .inl (aN lnr))), (am_ 8, .inl (cI, 48, .inl (aI ba_))), (am_ 9, .inl (cZ, 48, .inl (aB tk_))), (am_ 10, .inl (cI, 2401, .inl (aN rt_))), (am_ 11, .inl (cI, 48, .inl (aN cd_))), (am_ 12, .inl (cI, 48, .inl (aN so_))), (am_ 13, .inl (cI, 48, .inl (aI me_))), (am_ 14, .inl (cI, 48, .inl (aI bf_)))] s_.heap := hP_
  generalize hQe : MQ below (vp_Si (fun r_ => r_ = iI (bZ (mgb os_ ns_ ln_ x_ y_)))) args s_ 0 0 (fun _ => False) = Q_
  have fb1 := hB_ x_ hx0
  have fb2 := hB_ y_ hy0
  rw [show entryFrame m_ args 3 = entryFrame m_ ([.ref (am_ 0), .int (iI ((x_ : Nat) : Int)), .int (iI ((y_ : Nat) : Int))] : List Value).toArray 3 from by rw [hargs], lg_entry_eq]
  have hl_ := lv_entry ([.ref (am_ 0), .int (iI ((x_ : Nat) : Int)), .int (iI ((y_ : Nat) : Int))]) (n := 3) (Nat.le_of_ble_eq_true rfl)
  generalize (lg_sl ([.ref (am_ 0), .int (iI ((x_ : Nat) : Int)), .int (iI ((y_ : Nat) : Int))]) ++ List.replicate (3 - (lg_sl ([.ref (am_ 0), .int (iI ((x_ : Nat) : Int)), .int (iI ((y_ : Nat) : Int))])).length) Slot.unset).toArray = ls_ at hl_ ⊢
  have hl_ : lv_has ls_ 3 [(0, .ref (am_ 0)), (1, .int (iI ((x_ : Nat) : Int))), (2, .int (iI ((y_ : Nat) : Int)))] := hl_
  refine lv_iload_n hx_ hb_ dX5_isBefore_0 rfl (lv_at hl_ 1 rfl) ?_
  refine lv_iload_n hx_ hb_ dX5_isBefore_1 rfl (lv_at hl_ 2 rfl) ?_
  refine q_icmp_eq (tgt := 53) hx_ hb_ dX5_isBefore_2 (by decide) (⟨by omega, by omega⟩) (⟨by omega, by omega⟩) (fun c2_ => ?_) (fun c2_ => ?_)
  · skip
    refine lv_iconst (v := iI ((0 : Nat) : Int)) hx_ hb_ dX5_isBefore_53 rfl ?_
    rw [← hQe]
    refine q_cast (b := bZ false) rfl ?_
    exact W.zret (v := _) hx_ hb_ hr (nar_bZ _) (fun tt1 htt1 hWW1 => ⟨_, rfl, congrArg iI (congrArg bZ ((decide_eq_false (by omega)).symm)), htt1⟩) (fun q_ h_ => absurd h_ List.not_mem_nil) dX5_isBefore_54
  · skip
    refine lv_aload_n hx_ hb_ dX5_isBefore_5 rfl (lv_at hl_ 0 rfl) ?_
    refine va_get (D := G_) (ci := 5) (v := .ref (am_ 6)) (C := RX5) (T := TX5) (N := 19) hx_ hb_ hts hi5_ hown hK_ hP_ 0 rfl rfl 9 (by decide) hf26_ (fun _ h9 => h9) rfl dX5_isBefore_6 ?_
    refine lv_iload_n hx_ hb_ dX5_isBefore_9 rfl (lv_at hl_ 2 rfl) ?_
    refine q_ildN hx_ hb_ hK_ hP_ 6 rfl (by decide) (y_) (by omega) (ns_ y_) ((ha_ y_ (by omega)).2.1) dX5_isBefore_10 ?_
    refine lv_aload_n hx_ hb_ dX5_isBefore_11 rfl (lv_at hl_ 0 rfl) ?_
    refine va_get (D := G_) (ci := 5) (v := .ref (am_ 5)) (C := RX5) (T := TX5) (N := 19) hx_ hb_ hts hi5_ hown hK_ hP_ 0 rfl rfl 8 (by decide) hf23_ (fun _ h9 => h9) rfl dX5_isBefore_12 ?_
    refine lv_iload_n hx_ hb_ dX5_isBefore_15 rfl (lv_at hl_ 1 rfl) ?_
    refine q_ildN hx_ hb_ hK_ hP_ 5 rfl (by decide) (x_) (by omega) (os_ x_) ((ha_ x_ (by omega)).1) dX5_isBefore_16 ?_
    refine lv_aload_n hx_ hb_ dX5_isBefore_17 rfl (lv_at hl_ 0 rfl) ?_
    refine va_get (D := G_) (ci := 5) (v := .ref (am_ 7)) (C := RX5) (T := TX5) (N := 19) hx_ hb_ hts hi5_ hown hK_ hP_ 0 rfl rfl 10 (by decide) hf29_ (fun _ h9 => h9) rfl dX5_isBefore_18 ?_
    refine lv_iload_n hx_ hb_ dX5_isBefore_21 rfl (lv_at hl_ 1 rfl) ?_
    refine q_ildN hx_ hb_ hK_ hP_ 7 rfl (by decide) (x_) (by omega) (ln_ x_) ((ha_ x_ (by omega)).2.2) dX5_isBefore_22 ?_
    refine q_iaddN hx_ hb_ dX5_isBefore_23 ?_
    refine q_icmp_ge (tgt := 53) hx_ hb_ dX5_isBefore_24 (by decide) (⟨by omega, by omega⟩) (⟨by omega, by omega⟩) (fun c24_ => ?_) (fun c24_ => ?_)
    · skip
      refine lv_iconst (v := iI ((0 : Nat) : Int)) hx_ hb_ dX5_isBefore_53 rfl ?_
      rw [← hQe]
      refine q_cast (b := bZ false) rfl ?_
      exact W.zret (v := _) hx_ hb_ hr (nar_bZ _) (fun tt1 htt1 hWW1 => ⟨_, rfl, congrArg iI (congrArg bZ ((decide_eq_false (by omega)).symm)), htt1⟩) (fun q_ h_ => absurd h_ List.not_mem_nil) dX5_isBefore_54
    · skip
      refine lv_aload_n hx_ hb_ dX5_isBefore_27 rfl (lv_at hl_ 0 rfl) ?_
      refine va_get (D := G_) (ci := 5) (v := .ref (am_ 5)) (C := RX5) (T := TX5) (N := 19) hx_ hb_ hts hi5_ hown hK_ hP_ 0 rfl rfl 8 (by decide) hf23_ (fun _ h9 => h9) rfl dX5_isBefore_28 ?_
      refine lv_iload_n hx_ hb_ dX5_isBefore_31 rfl (lv_at hl_ 1 rfl) ?_
      refine q_ildN hx_ hb_ hK_ hP_ 5 rfl (by decide) (x_) (by omega) (os_ x_) ((ha_ x_ (by omega)).1) dX5_isBefore_32 ?_
      refine lv_aload_n hx_ hb_ dX5_isBefore_33 rfl (lv_at hl_ 0 rfl) ?_
      refine va_get (D := G_) (ci := 5) (v := .ref (am_ 6)) (C := RX5) (T := TX5) (N := 19) hx_ hb_ hts hi5_ hown hK_ hP_ 0 rfl rfl 9 (by decide) hf26_ (fun _ h9 => h9) rfl dX5_isBefore_34 ?_
      refine lv_iload_n hx_ hb_ dX5_isBefore_37 rfl (lv_at hl_ 2 rfl) ?_
      refine q_ildN hx_ hb_ hK_ hP_ 6 rfl (by decide) (y_) (by omega) (ns_ y_) ((ha_ y_ (by omega)).2.1) dX5_isBefore_38 ?_
      refine lv_aload_n hx_ hb_ dX5_isBefore_39 rfl (lv_at hl_ 0 rfl) ?_
      refine va_get (D := G_) (ci := 5) (v := .ref (am_ 7)) (C := RX5) (T := TX5) (N := 19) hx_ hb_ hts hi5_ hown hK_ hP_ 0 rfl rfl 10 (by decide) hf29_ (fun _ h9 => h9) rfl dX5_isBefore_40 ?_
      refine lv_iload_n hx_ hb_ dX5_isBefore_43 rfl (lv_at hl_ 2 rfl) ?_
      refine q_ildN hx_ hb_ hK_ hP_ 7 rfl (by decide) (y_) (by omega) (ln_ y_) ((ha_ y_ (by omega)).2.2) dX5_isBefore_44 ?_
      refine q_iaddN hx_ hb_ dX5_isBefore_45 ?_
      refine q_icmp_ge (tgt := 53) hx_ hb_ dX5_isBefore_46 (by decide) (⟨by omega, by omega⟩) (⟨by omega, by omega⟩) (fun c46_ => ?_) (fun c46_ => ?_)
      · skip
        refine lv_iconst (v := iI ((0 : Nat) : Int)) hx_ hb_ dX5_isBefore_53 rfl ?_
        rw [← hQe]
        refine q_cast (b := bZ false) rfl ?_
        exact W.zret (v := _) hx_ hb_ hr (nar_bZ _) (fun tt1 htt1 hWW1 => ⟨_, rfl, congrArg iI (congrArg bZ ((decide_eq_false (by omega)).symm)), htt1⟩) (fun q_ h_ => absurd h_ List.not_mem_nil) dX5_isBefore_54
      · skip
        refine lv_iconst (v := iI ((1 : Nat) : Int)) hx_ hb_ dX5_isBefore_49 rfl ?_
        refine lv_goto (tgt := 54) hx_ hb_ dX5_isBefore_50 (by decide) ?_
        rw [← hQe]
        refine q_cast (b := bZ true) rfl ?_
        exact W.zret (v := _) hx_ hb_ hr (nar_bZ _) (fun tt1 htt1 hWW1 => ⟨_, rfl, congrArg iI (congrArg bZ ((decide_eq_true (by omega)).symm)), htt1⟩) (fun q_ h_ => absurd h_ List.not_mem_nil) dX5_isBefore_54

set_option maxHeartbeats 4000000 in
set_option maxRecDepth 100000 in
/-- isReady -/
theorem c_X5_isReady (l_ : Launch) (G_ : va_G) (cI cZ : ClassId) (am_ : Nat → Nat) (bu_ : Bool) (no_ : Nat) (vo_ : Nat → Int) (fo_ : Nat → Bool) (nn_ : Nat) (vn_ : Nat → Int) (fn_ : Nat → Bool) (k_ : Nat) (osr nsr lnr : Nat → Nat) (ba_ : Nat → Int) (tk_ : Nat → Bool) (rt_ : Nat → Nat) (cp_ : Nat) (cd_ so_ : Nat → Nat) (me_ bf_ : Nat → Int) (os_ ns_ ln_ : Nat → Nat) (y_ : Nat) (hk_ : k_ ≤ 48) (hB_ : B48 k_ os_ ns_ ln_) (ha_ : ∀ j_, j_ < k_ → osr j_ = os_ j_ ∧ nsr j_ = ns_ j_ ∧ lnr j_ = ln_ j_) (hs2 : ∀ b_, b_ < k_ → so_ b_ ≤ 2) (hy0 : y_ < k_) : Ro l_ yX5_isReady wsX5_isReady ({ frames := 1, cells := 0, slots := 0, locals := 22 }) G_ cI cZ [.ref (am_ 0), .int (iI ((y_ : Nat) : Int))] (wMd cI cZ am_ bu_ no_ vo_ fo_ nn_ vn_ fn_ k_ osr nsr lnr ba_ tk_ rt_ cp_ cd_ so_ me_ bf_) (bZ (rdy k_ os_ ns_ ln_ (wtf so_) y_)) := by
  refine Met.ofW (cc := cX5_isReady) (maxL := 3) (ret := (some .boolean)) (by decide) rfl ?_
  intro p_ e_ s_ m_ args below meth c_ s₁ B hml hv
  obtain ⟨hargs, hP_, hK_⟩ := hv
  have hx_ := B.exec
  have hb_ := B.bytes
  have hr := B.returns
  have hts := atoms_spec (ws := wsX5_isReady) B.pre
  have hown : s_.vm.findClass RX5 = some m_.cls := findClass_of_methodNamed B.named
  have hlocks := B.notSynchronized
  have hi5_ : ∀ w_ ∈ wsX50, w_ ∈ wsX5_isReady := by decide +kernel
  have hf44_ := hts (.fieldLink RX5 44 "RelocatingPatchModel" "stateOf" "[I") (by decide +kernel)
  have hf93_ := hts (.fieldLink RX5 93 "RelocatingPatchModel" "blocks" "I") (by decide +kernel)
  have hP_ : va_P G_ vwCl [(am_ 0, .inr (5, [.int (iI ((no_ : Nat) : Int)), .ref (am_ 1), .ref (am_ 2), .int (iI ((nn_ : Nat) : Int)), .ref (am_ 3), .ref (am_ 4), .int (iI (bZ bu_)), .int (iI ((k_ : Nat) : Int)), .ref (am_ 5), .ref (am_ 6), .ref (am_ 7), .ref (am_ 8), .ref (am_ 9), .ref (am_ 10), .int (iI ((cp_ : Nat) : Int)), .ref (am_ 11), .ref (am_ 12), .ref (am_ 13), .ref (am_ 14)])), (am_ 1, .inl (cI, 48, .inl (aI vo_))), (am_ 2, .inl (cZ, 48, .inl (aB fo_))), (am_ 3, .inl (cI, 48, .inl (aI vn_))), (am_ 4, .inl (cZ, 48, .inl (aB fn_))), (am_ 5, .inl (cI, 48, .inl (aN osr))), (am_ 6, .inl (cI, 48, .inl (aN nsr))), (am_ 7, .inl (cI, 48, .inl (aN lnr))), (am_ 8, .inl (cI, 48, .inl (aI ba_))), (am_ 9, .inl (cZ, 48, .inl (aB tk_))), (am_ 10, .inl (cI, 2401, .inl (aN rt_))), (am_ 11, .inl (cI, 48, .inl (aN cd_))), (am_ 12, .inl (cI, 48, .inl (aN so_))), (am_ 13, .inl (cI, 48, .inl (aI me_))), (am_ 14, .inl (cI, 48, .inl (aI bf_)))] s_.heap := hP_
  generalize hQe : MQ below (vp_Si (fun r_ => r_ = iI (bZ (rdy k_ os_ ns_ ln_ (wtf so_) y_)))) args s_ 0 0 (fun _ => False) = Q_
  have lp2 : ∀ (n_ : Nat) (i_ : Nat) (ls_ : Array Slot), (i_ ≤ k_) → (k_ + 1 ≤ i_ + n_) → (∀ j_, j_ < i_ → (wtf so_ j_ && mgb os_ ns_ ln_ j_ y_) = false) → lv_has ls_ 3 [(0, .ref (am_ 0)), (1, .int (iI ((y_ : Nat) : Int))), (2, .int (iI ((i_ : Nat) : Int)))] → W p_ l_ e_ (headSpec wsX5_isReady ({ frames := 1, cells := 0, slots := 0, locals := 22 })).room s_ m_ args below meth c_ s_.heap [] 0 0 Q_ (F0 m_ 2 ls_ []) := by
    intro n_
    induction n_ with
    | zero =>
      intro i_ ls_ hi_ hn_ hno9
      exact False.elim (by omega)
    | succ n_ ih2 =>
      intro i_ ls_ hi_ hn_ hno9 hl_
      refine lv_iload_n hx_ hb_ dX5_isReady_2 rfl (lv_at hl_ 2 rfl) ?_
      refine lv_aload_n hx_ hb_ dX5_isReady_3 rfl (lv_at hl_ 0 rfl) ?_
      refine va_get (D := G_) (ci := 5) (v := .int (iI ((k_ : Nat) : Int))) (C := RX5) (T := TX5) (N := 19) hx_ hb_ hts hi5_ hown hK_ hP_ 0 rfl rfl 7 (by decide) hf93_ (fun _ h9 => h9) rfl dX5_isReady_4 ?_
      refine q_icmp_ge (tgt := 36) hx_ hb_ dX5_isReady_7 (by decide) (⟨by omega, by omega⟩) (⟨by omega, by omega⟩) (fun c7_ => ?_) (fun c7_ => ?_)
      · skip
        refine lv_iconst (v := iI ((1 : Nat) : Int)) hx_ hb_ dX5_isReady_36 rfl ?_
        rw [← hQe]
        refine q_cast (b := bZ true) rfl ?_
        exact W.zret (v := _) hx_ hb_ hr (nar_bZ _) (fun tt1 htt1 hWW1 => ⟨_, rfl, congrArg iI (congrArg bZ ((rdy_yes (fun j_ hj_ => hno9 j_ (by omega))).symm)), htt1⟩) (fun q_ h_ => absurd h_ List.not_mem_nil) dX5_isReady_37
      · skip
        have fs := hs2 i_ (by omega)
        refine lv_aload_n hx_ hb_ dX5_isReady_10 rfl (lv_at hl_ 0 rfl) ?_
        refine va_get (D := G_) (ci := 5) (v := .ref (am_ 12)) (C := RX5) (T := TX5) (N := 19) hx_ hb_ hts hi5_ hown hK_ hP_ 0 rfl rfl 16 (by decide) hf44_ (fun _ h9 => h9) rfl dX5_isReady_11 ?_
        refine lv_iload_n hx_ hb_ dX5_isReady_14 rfl (lv_at hl_ 2 rfl) ?_
        refine q_ildN hx_ hb_ hK_ hP_ 12 rfl (by decide) (i_) (by omega) (so_ i_) (rfl) dX5_isReady_15 ?_
        refine q_if_ne (tgt := 30) hx_ hb_ dX5_isReady_16 (by decide) (⟨by omega, by omega⟩) (fun c16_ => ?_) (fun c16_ => ?_)
        · skip
          refine q_iinc (k := 2) ((i_ + 1 : Nat) : Int) hx_ hb_ dX5_isReady_30 hl_ rfl (rfl) (by decide) (lv' := [(2, .int (iI ((i_ + 1 : Nat) : Int))), (0, .ref (am_ 0)), (1, .int (iI ((y_ : Nat) : Int)))]) rfl (fun ls_ hl_ => ?_)
          refine lv_goto (tgt := 2) hx_ hb_ dX5_isReady_33 (by decide) ?_
          exact ih2 (i_ + 1) ls_ (by omega) (by omega) (lt_s hno9 (by unfold wtf; rw [decide_eq_false (by omega)]; rfl)) (lv_sub hl_ [1, 2, 0] rfl)
        · skip
          refine lv_aload_n hx_ hb_ dX5_isReady_19 rfl (lv_at hl_ 0 rfl) ?_
          refine lv_iload_n hx_ hb_ dX5_isReady_20 rfl (lv_at hl_ 2 rfl) ?_
          refine lv_iload_n hx_ hb_ dX5_isReady_21 rfl (lv_at hl_ 1 rfl) ?_
          refine ro_V (As := [.int (iI ((i_ : Nat) : Int)), .int (iI ((y_ : Nat) : Int))]) (rest := []) ⟨hx_, hb_, hml, hown, hts⟩ (c_X5_isBefore l_ G_ cI cZ am_ bu_ no_ vo_ fo_ nn_ vn_ fn_ k_ osr nsr lnr ba_ tk_ rt_ cp_ cd_ so_ me_ bf_ os_ ns_ ln_ i_ y_ hk_ hB_ ha_ (by omega) (by omega)) (cwV 2 hts gX5_isReady_X5_isBefore rfl rfl rfl (by decide +kernel) ⟨Nat.le_of_ble_eq_true rfl, Nat.le_of_ble_eq_true rfl⟩) (hP_.sub (ws' := [(am_ 0, .inr (5, [.int (iI ((no_ : Nat) : Int)), .ref (am_ 1), .ref (am_ 2), .int (iI ((nn_ : Nat) : Int)), .ref (am_ 3), .ref (am_ 4), .int (iI (bZ bu_)), .int (iI ((k_ : Nat) : Int)), .ref (am_ 5), .ref (am_ 6), .ref (am_ 7), .ref (am_ 8), .ref (am_ 9), .ref (am_ 10), .int (iI ((cp_ : Nat) : Int)), .ref (am_ 11), .ref (am_ 12), .ref (am_ 13), .ref (am_ 14)])), (am_ 1, .inl (cI, 48, .inl (aI vo_))), (am_ 2, .inl (cZ, 48, .inl (aB fo_))), (am_ 3, .inl (cI, 48, .inl (aI vn_))), (am_ 4, .inl (cZ, 48, .inl (aB fn_))), (am_ 5, .inl (cI, 48, .inl (aN osr))), (am_ 6, .inl (cI, 48, .inl (aN nsr))), (am_ 7, .inl (cI, 48, .inl (aN lnr))), (am_ 8, .inl (cI, 48, .inl (aI ba_))), (am_ 9, .inl (cZ, 48, .inl (aB tk_))), (am_ 10, .inl (cI, 2401, .inl (aN rt_))), (am_ 11, .inl (cI, 48, .inl (aN cd_))), (am_ 12, .inl (cI, 48, .inl (aN so_))), (am_ 13, .inl (cI, 48, .inl (aI me_))), (am_ 14, .inl (cI, 48, .inl (aI bf_)))]) [0, 1, 2, 3, 4, 5, 6, 7, 8, 9, 10, 11, 12, 13, 14] rfl) hK_ 0 rfl rfl rfl hl_.1 rfl (Nat.le_of_ble_eq_true rfl) dX5_isReady_22 ⟨Nat.zero_le _, Nat.zero_le _⟩ ?_
          refine q_bf (tgt := 30) hx_ hb_ dX5_isReady_25 (by decide) (fun c25_ => ?_) (fun c25_ => ?_)
          · skip
            refine q_iinc (k := 2) ((i_ + 1 : Nat) : Int) hx_ hb_ dX5_isReady_30 hl_ rfl (rfl) (by decide) (lv' := [(2, .int (iI ((i_ + 1 : Nat) : Int))), (0, .ref (am_ 0)), (1, .int (iI ((y_ : Nat) : Int)))]) rfl (fun ls_ hl_ => ?_)
            refine lv_goto (tgt := 2) hx_ hb_ dX5_isReady_33 (by decide) ?_
            exact ih2 (i_ + 1) ls_ (by omega) (by omega) (lt_s hno9 (by rw [c25_]; simp)) (lv_sub hl_ [1, 2, 0] rfl)
          · skip
            refine lv_iconst (v := iI ((0 : Nat) : Int)) hx_ hb_ dX5_isReady_28 rfl ?_
            rw [← hQe]
            refine q_cast (b := bZ false) rfl ?_
            exact W.zret (v := _) hx_ hb_ hr (nar_bZ _) (fun tt1 htt1 hWW1 => ⟨_, rfl, congrArg iI (congrArg bZ ((rdy_no (by omega) (decide_eq_true (by omega)) c25_).symm)), htt1⟩) (fun q_ h_ => absurd h_ List.not_mem_nil) dX5_isReady_29
  rw [show entryFrame m_ args 3 = entryFrame m_ ([.ref (am_ 0), .int (iI ((y_ : Nat) : Int))] : List Value).toArray 3 from by rw [hargs], lg_entry_eq]
  have hl_ := lv_entry ([.ref (am_ 0), .int (iI ((y_ : Nat) : Int))]) (n := 3) (Nat.le_of_ble_eq_true rfl)
  generalize (lg_sl ([.ref (am_ 0), .int (iI ((y_ : Nat) : Int))]) ++ List.replicate (3 - (lg_sl ([.ref (am_ 0), .int (iI ((y_ : Nat) : Int))])).length) Slot.unset).toArray = ls_ at hl_ ⊢
  have hl_ : lv_has ls_ 3 [(0, .ref (am_ 0)), (1, .int (iI ((y_ : Nat) : Int)))] := hl_
  refine lv_iconst (v := iI ((0 : Nat) : Int)) hx_ hb_ dX5_isReady_0 rfl ?_
  refine lv_istore_n (lv' := [(2, .int (iI ((0 : Nat) : Int))), (0, .ref (am_ 0)), (1, .int (iI ((y_ : Nat) : Int)))]) hx_ hb_ dX5_isReady_1 rfl hl_ (by decide) rfl (fun ls_ hl_ => ?_)
  exact lp2 (k_ + 1) 0 ls_ (by omega) (by omega) (fun j_ hj_ => absurd hj_ (Nat.not_lt_zero _)) (lv_sub hl_ [1, 2, 0] rfl)

set_option maxHeartbeats 4000000 in
set_option maxRecDepth 100000 in
/-- firstReady -/
theorem c_X5_firstReady (l_ : Launch) (G_ : va_G) (cI cZ : ClassId) (am_ : Nat → Nat) (bu_ : Bool) (no_ : Nat) (vo_ : Nat → Int) (fo_ : Nat → Bool) (nn_ : Nat) (vn_ : Nat → Int) (fn_ : Nat → Bool) (k_ : Nat) (osr nsr lnr : Nat → Nat) (ba_ : Nat → Int) (tk_ : Nat → Bool) (rt_ : Nat → Nat) (cp_ : Nat) (cd_ so_ : Nat → Nat) (me_ bf_ : Nat → Int) (os_ ns_ ln_ : Nat → Nat)  (hk_ : k_ ≤ 48) (hB_ : B48 k_ os_ ns_ ln_) (ha_ : ∀ j_, j_ < k_ → osr j_ = os_ j_ ∧ nsr j_ = ns_ j_ ∧ lnr j_ = ln_ j_) (hs2 : ∀ b_, b_ < k_ → so_ b_ ≤ 2) : Ro l_ yX5_firstReady wsX5_firstReady ({ frames := 2, cells := 0, slots := 0, locals := 44 }) G_ cI cZ [.ref (am_ 0)] (wMd cI cZ am_ bu_ no_ vo_ fo_ nn_ vn_ fn_ k_ osr nsr lnr ba_ tk_ rt_ cp_ cd_ so_ me_ bf_) (wI (frd k_ os_ ns_ ln_ (wtf so_)) k_ (-10005)) := by
  refine Met.ofW (cc := cX5_firstReady) (maxL := 2) (ret := (some .int)) (by decide) rfl ?_
  intro p_ e_ s_ m_ args below meth c_ s₁ B hml hv
  obtain ⟨hargs, hP_, hK_⟩ := hv
  have hx_ := B.exec
  have hb_ := B.bytes
  have hr := B.returns
  have hts := atoms_spec (ws := wsX5_firstReady) B.pre
  have hown : s_.vm.findClass RX5 = some m_.cls := findClass_of_methodNamed B.named
  have hlocks := B.notSynchronized
  have hi5_ : ∀ w_ ∈ wsX50, w_ ∈ wsX5_firstReady := by decide +kernel
  have hf44_ := hts (.fieldLink RX5 44 "RelocatingPatchModel" "stateOf" "[I") (by decide +kernel)
  have hf93_ := hts (.fieldLink RX5 93 "RelocatingPatchModel" "blocks" "I") (by decide +kernel)
  have hP_ : va_P G_ vwCl [(am_ 0, .inr (5, [.int (iI ((no_ : Nat) : Int)), .ref (am_ 1), .ref (am_ 2), .int (iI ((nn_ : Nat) : Int)), .ref (am_ 3), .ref (am_ 4), .int (iI (bZ bu_)), .int (iI ((k_ : Nat) : Int)), .ref (am_ 5), .ref (am_ 6), .ref (am_ 7), .ref (am_ 8), .ref (am_ 9), .ref (am_ 10), .int (iI ((cp_ : Nat) : Int)), .ref (am_ 11), .ref (am_ 12), .ref (am_ 13), .ref (am_ 14)])), (am_ 1, .inl (cI, 48, .inl (aI vo_))), (am_ 2, .inl (cZ, 48, .inl (aB fo_))), (am_ 3, .inl (cI, 48, .inl (aI vn_))), (am_ 4, .inl (cZ, 48, .inl (aB fn_))), (am_ 5, .inl (cI, 48, .inl (aN osr))), (am_ 6, .inl (cI, 48, .inl (aN nsr))), (am_ 7, .inl (cI, 48, .inl (aN lnr))), (am_ 8, .inl (cI, 48, .inl (aI ba_))), (am_ 9, .inl (cZ, 48, .inl (aB tk_))), (am_ 10, .inl (cI, 2401, .inl (aN rt_))), (am_ 11, .inl (cI, 48, .inl (aN cd_))), (am_ 12, .inl (cI, 48, .inl (aN so_))), (am_ 13, .inl (cI, 48, .inl (aI me_))), (am_ 14, .inl (cI, 48, .inl (aI bf_)))] s_.heap := hP_
  generalize hQe : MQ below (vp_Si (fun r_ => r_ = iI (wI (frd k_ os_ ns_ ln_ (wtf so_)) k_ (-10005)))) args s_ 0 0 (fun _ => False) = Q_
  have lp2 : ∀ (n_ : Nat) (i_ : Nat) (ls_ : Array Slot), (i_ ≤ k_) → (k_ + 1 ≤ i_ + n_) → (∀ j_, j_ < i_ → (wtf so_ j_ && rdy k_ os_ ns_ ln_ (wtf so_) j_) = false) → lv_has ls_ 2 [(0, .ref (am_ 0)), (1, .int (iI ((i_ : Nat) : Int)))] → W p_ l_ e_ (headSpec wsX5_firstReady ({ frames := 2, cells := 0, slots := 0, locals := 44 })).room s_ m_ args below meth c_ s_.heap [] 0 0 Q_ (F0 m_ 2 ls_ []) := by
    intro n_
    induction n_ with
    | zero =>
      intro i_ ls_ hi_ hn_ hno9
      exact False.elim (by omega)
    | succ n_ ih2 =>
      intro i_ ls_ hi_ hn_ hno9 hl_
      refine lv_iload_n hx_ hb_ dX5_firstReady_2 rfl (lv_at hl_ 1 rfl) ?_
      refine lv_aload_n hx_ hb_ dX5_firstReady_3 rfl (lv_at hl_ 0 rfl) ?_
      refine va_get (D := G_) (ci := 5) (v := .int (iI ((k_ : Nat) : Int))) (C := RX5) (T := TX5) (N := 19) hx_ hb_ hts hi5_ hown hK_ hP_ 0 rfl rfl 7 (by decide) hf93_ (fun _ h9 => h9) rfl dX5_firstReady_4 ?_
      refine q_icmp_ge (tgt := 35) hx_ hb_ dX5_firstReady_7 (by decide) (⟨by omega, by omega⟩) (⟨by omega, by omega⟩) (fun c7_ => ?_) (fun c7_ => ?_)
      · skip
        refine lv_sipush (v := iI (-10005)) hx_ hb_ dX5_firstReady_35 rfl ?_
        rw [← hQe]
        exact W.iret hx_ hb_ hr (fun tt1 htt1 hWW1 => ⟨_, rfl, congrArg iI (fst_wI (Or.inl ⟨rfl, fun j_ hj_ => hno9 j_ (by omega)⟩)), htt1⟩) (fun q_ h_ => absurd h_ List.not_mem_nil) dX5_firstReady_38
      · skip
        have fs := hs2 i_ (by omega)
        refine lv_aload_n hx_ hb_ dX5_firstReady_10 rfl (lv_at hl_ 0 rfl) ?_
        refine va_get (D := G_) (ci := 5) (v := .ref (am_ 12)) (C := RX5) (T := TX5) (N := 19) hx_ hb_ hts hi5_ hown hK_ hP_ 0 rfl rfl 16 (by decide) hf44_ (fun _ h9 => h9) rfl dX5_firstReady_11 ?_
        refine lv_iload_n hx_ hb_ dX5_firstReady_14 rfl (lv_at hl_ 1 rfl) ?_
        refine q_ildN hx_ hb_ hK_ hP_ 12 rfl (by decide) (i_) (by omega) (so_ i_) (rfl) dX5_firstReady_15 ?_
        refine q_if_ne (tgt := 29) hx_ hb_ dX5_firstReady_16 (by decide) (⟨by omega, by omega⟩) (fun c16_ => ?_) (fun c16_ => ?_)
        · skip
          refine q_iinc (k := 1) ((i_ + 1 : Nat) : Int) hx_ hb_ dX5_firstReady_29 hl_ rfl (rfl) (by decide) (lv' := [(1, .int (iI ((i_ + 1 : Nat) : Int))), (0, .ref (am_ 0))]) rfl (fun ls_ hl_ => ?_)
          refine lv_goto (tgt := 2) hx_ hb_ dX5_firstReady_32 (by decide) ?_
          exact ih2 (i_ + 1) ls_ (by omega) (by omega) (lt_s hno9 (by unfold wtf; rw [decide_eq_false (by omega)]; rfl)) (lv_sub hl_ [1, 0] rfl)
        · skip
          refine lv_aload_n hx_ hb_ dX5_firstReady_19 rfl (lv_at hl_ 0 rfl) ?_
          refine lv_iload_n hx_ hb_ dX5_firstReady_20 rfl (lv_at hl_ 1 rfl) ?_
          refine ro_V (As := [.int (iI ((i_ : Nat) : Int))]) (rest := []) ⟨hx_, hb_, hml, hown, hts⟩ (c_X5_isReady l_ G_ cI cZ am_ bu_ no_ vo_ fo_ nn_ vn_ fn_ k_ osr nsr lnr ba_ tk_ rt_ cp_ cd_ so_ me_ bf_ os_ ns_ ln_ i_ hk_ hB_ ha_ (hs2) (by omega)) (cwV 1 hts gX5_firstReady_X5_isReady rfl rfl rfl (by decide +kernel) ⟨Nat.le_of_ble_eq_true rfl, Nat.le_of_ble_eq_true rfl⟩) (hP_.sub (ws' := [(am_ 0, .inr (5, [.int (iI ((no_ : Nat) : Int)), .ref (am_ 1), .ref (am_ 2), .int (iI ((nn_ : Nat) : Int)), .ref (am_ 3), .ref (am_ 4), .int (iI (bZ bu_)), .int (iI ((k_ : Nat) : Int)), .ref (am_ 5), .ref (am_ 6), .ref (am_ 7), .ref (am_ 8), .ref (am_ 9), .ref (am_ 10), .int (iI ((cp_ : Nat) : Int)), .ref (am_ 11), .ref (am_ 12), .ref (am_ 13), .ref (am_ 14)])), (am_ 1, .inl (cI, 48, .inl (aI vo_))), (am_ 2, .inl (cZ, 48, .inl (aB fo_))), (am_ 3, .inl (cI, 48, .inl (aI vn_))), (am_ 4, .inl (cZ, 48, .inl (aB fn_))), (am_ 5, .inl (cI, 48, .inl (aN osr))), (am_ 6, .inl (cI, 48, .inl (aN nsr))), (am_ 7, .inl (cI, 48, .inl (aN lnr))), (am_ 8, .inl (cI, 48, .inl (aI ba_))), (am_ 9, .inl (cZ, 48, .inl (aB tk_))), (am_ 10, .inl (cI, 2401, .inl (aN rt_))), (am_ 11, .inl (cI, 48, .inl (aN cd_))), (am_ 12, .inl (cI, 48, .inl (aN so_))), (am_ 13, .inl (cI, 48, .inl (aI me_))), (am_ 14, .inl (cI, 48, .inl (aI bf_)))]) [0, 1, 2, 3, 4, 5, 6, 7, 8, 9, 10, 11, 12, 13, 14] rfl) hK_ 0 rfl rfl rfl hl_.1 rfl (Nat.le_of_ble_eq_true rfl) dX5_firstReady_21 ⟨Nat.zero_le _, Nat.zero_le _⟩ ?_
          refine q_bf (tgt := 29) hx_ hb_ dX5_firstReady_24 (by decide) (fun c24_ => ?_) (fun c24_ => ?_)
          · skip
            refine q_iinc (k := 1) ((i_ + 1 : Nat) : Int) hx_ hb_ dX5_firstReady_29 hl_ rfl (rfl) (by decide) (lv' := [(1, .int (iI ((i_ + 1 : Nat) : Int))), (0, .ref (am_ 0))]) rfl (fun ls_ hl_ => ?_)
            refine lv_goto (tgt := 2) hx_ hb_ dX5_firstReady_32 (by decide) ?_
            exact ih2 (i_ + 1) ls_ (by omega) (by omega) (lt_s hno9 (by rw [c24_]; simp)) (lv_sub hl_ [1, 0] rfl)
          · skip
            refine lv_iload_n hx_ hb_ dX5_firstReady_27 rfl (lv_at hl_ 1 rfl) ?_
            rw [← hQe]
            exact W.iret hx_ hb_ hr (fun tt1 htt1 hWW1 => ⟨_, rfl, congrArg iI (fst_wI (Or.inr ⟨i_, by omega, by rw [c24_]; unfold wtf; rw [decide_eq_true (by omega)]; rfl, hno9, rfl⟩)), htt1⟩) (fun q_ h_ => absurd h_ List.not_mem_nil) dX5_firstReady_28
  rw [show entryFrame m_ args 2 = entryFrame m_ ([.ref (am_ 0)] : List Value).toArray 2 from by rw [hargs], lg_entry_eq]
  have hl_ := lv_entry ([.ref (am_ 0)]) (n := 2) (Nat.le_of_ble_eq_true rfl)
  generalize (lg_sl ([.ref (am_ 0)]) ++ List.replicate (2 - (lg_sl ([.ref (am_ 0)])).length) Slot.unset).toArray = ls_ at hl_ ⊢
  have hl_ : lv_has ls_ 2 [(0, .ref (am_ 0))] := hl_
  refine lv_iconst (v := iI ((0 : Nat) : Int)) hx_ hb_ dX5_firstReady_0 rfl ?_
  refine lv_istore_n (lv' := [(1, .int (iI ((0 : Nat) : Int))), (0, .ref (am_ 0))]) hx_ hb_ dX5_firstReady_1 rfl hl_ (by decide) rfl (fun ls_ hl_ => ?_)
  exact lp2 (k_ + 1) 0 ls_ (by omega) (by omega) (fun j_ hj_ => absurd hj_ (Nat.not_lt_zero _)) (lv_sub hl_ [1, 0] rfl)

set_option maxHeartbeats 4000000 in
set_option maxRecDepth 100000 in
/-- shortest -/
theorem c_X5_shortest (l_ : Launch) (G_ : va_G) (cI cZ : ClassId) (am_ : Nat → Nat) (bu_ : Bool) (no_ : Nat) (vo_ : Nat → Int) (fo_ : Nat → Bool) (nn_ : Nat) (vn_ : Nat → Int) (fn_ : Nat → Bool) (k_ : Nat) (osr nsr lnr : Nat → Nat) (ba_ : Nat → Int) (tk_ : Nat → Bool) (rt_ : Nat → Nat) (cp_ : Nat) (cd_ so_ : Nat → Nat) (me_ bf_ : Nat → Int) (os_ ns_ ln_ : Nat → Nat)  (hk_ : k_ ≤ 48) (hB_ : B48 k_ os_ ns_ ln_) (ha_ : ∀ j_, j_ < k_ → osr j_ = os_ j_ ∧ nsr j_ = ns_ j_ ∧ lnr j_ = ln_ j_) (hs2 : ∀ b_, b_ < k_ → so_ b_ ≤ 2) : Ro l_ yX5_shortest wsX5_shortest ({ frames := 0, cells := 0, slots := 0, locals := 0 }) G_ cI cZ [.ref (am_ 0)] (wMd cI cZ am_ bu_ no_ vo_ fo_ nn_ vn_ fn_ k_ osr nsr lnr ba_ tk_ rt_ cp_ cd_ so_ me_ bf_) (oV (-10005) (shw k_ ln_ (wtf so_))) := by
  refine Met.ofW (cc := cX5_shortest) (maxL := 3) (ret := (some .int)) (by decide) rfl ?_
  intro p_ e_ s_ m_ args below meth c_ s₁ B hml hv
  obtain ⟨hargs, hP_, hK_⟩ := hv
  have hx_ := B.exec
  have hb_ := B.bytes
  have hr := B.returns
  have hts := atoms_spec (ws := wsX5_shortest) B.pre
  have hown : s_.vm.findClass RX5 = some m_.cls := findClass_of_methodNamed B.named
  have hlocks := B.notSynchronized
  have hi5_ : ∀ w_ ∈ wsX50, w_ ∈ wsX5_shortest := by decide +kernel
  have hf29_ := hts (.fieldLink RX5 29 "RelocatingPatchModel" "length" "[I") (by decide +kernel)
  have hf44_ := hts (.fieldLink RX5 44 "RelocatingPatchModel" "stateOf" "[I") (by decide +kernel)
  have hf93_ := hts (.fieldLink RX5 93 "RelocatingPatchModel" "blocks" "I") (by decide +kernel)
  have hP_ : va_P G_ vwCl [(am_ 0, .inr (5, [.int (iI ((no_ : Nat) : Int)), .ref (am_ 1), .ref (am_ 2), .int (iI ((nn_ : Nat) : Int)), .ref (am_ 3), .ref (am_ 4), .int (iI (bZ bu_)), .int (iI ((k_ : Nat) : Int)), .ref (am_ 5), .ref (am_ 6), .ref (am_ 7), .ref (am_ 8), .ref (am_ 9), .ref (am_ 10), .int (iI ((cp_ : Nat) : Int)), .ref (am_ 11), .ref (am_ 12), .ref (am_ 13), .ref (am_ 14)])), (am_ 1, .inl (cI, 48, .inl (aI vo_))), (am_ 2, .inl (cZ, 48, .inl (aB fo_))), (am_ 3, .inl (cI, 48, .inl (aI vn_))), (am_ 4, .inl (cZ, 48, .inl (aB fn_))), (am_ 5, .inl (cI, 48, .inl (aN osr))), (am_ 6, .inl (cI, 48, .inl (aN nsr))), (am_ 7, .inl (cI, 48, .inl (aN lnr))), (am_ 8, .inl (cI, 48, .inl (aI ba_))), (am_ 9, .inl (cZ, 48, .inl (aB tk_))), (am_ 10, .inl (cI, 2401, .inl (aN rt_))), (am_ 11, .inl (cI, 48, .inl (aN cd_))), (am_ 12, .inl (cI, 48, .inl (aN so_))), (am_ 13, .inl (cI, 48, .inl (aI me_))), (am_ 14, .inl (cI, 48, .inl (aI bf_)))] s_.heap := hP_
  generalize hQe : MQ below (vp_Si (fun r_ => r_ = iI (oV (-10005) (shw k_ ln_ (wtf so_))))) args s_ 0 0 (fun _ => False) = Q_
  have lp6 : ∀ (n_ : Nat) (i_ : Nat) (gz : Int) (ls_ : Array Slot), (i_ ≤ k_) → (k_ + 1 ≤ i_ + n_) → (gz = oV (-10005) (shw i_ ln_ (wtf so_))) → lv_has ls_ 3 [(0, .ref (am_ 0)), (1, .int (iI (gz))), (2, .int (iI ((i_ : Nat) : Int)))] → W p_ l_ e_ (headSpec wsX5_shortest ({ frames := 0, cells := 0, slots := 0, locals := 0 })).room s_ m_ args below meth c_ s_.heap [] 0 0 Q_ (F0 m_ 6 ls_ []) := by
    intro n_
    induction n_ with
    | zero =>
      intro i_ gz ls_ hi_ hn_ hg_
      exact False.elim (by omega)
    | succ n_ ih6 =>
      intro i_ gz ls_ hi_ hn_ hg_ hl_
      have hgr : -10005 ≤ gz ∧ gz < 49 := by rw [hg_]; cases h_ : shw i_ ln_ (wtf so_) with | none => exact ⟨by decide, by decide⟩ | some g_ => exact ⟨by show (-10005 : Int) ≤ (g_ : Int); omega, by have := (bst_lt h_).1; show (g_ : Int) < 49; omega⟩
      refine lv_iload_n hx_ hb_ dX5_shortest_6 rfl (lv_at hl_ 2 rfl) ?_
      refine lv_aload_n hx_ hb_ dX5_shortest_7 rfl (lv_at hl_ 0 rfl) ?_
      refine va_get (D := G_) (ci := 5) (v := .int (iI ((k_ : Nat) : Int))) (C := RX5) (T := TX5) (N := 19) hx_ hb_ hts hi5_ hown hK_ hP_ 0 rfl rfl 7 (by decide) hf93_ (fun _ h9 => h9) rfl dX5_shortest_8 ?_
      refine q_icmp_ge (tgt := 57) hx_ hb_ dX5_shortest_11 (by decide) (⟨by omega, by omega⟩) (⟨by omega, by omega⟩) (fun c11_ => ?_) (fun c11_ => ?_)
      · skip
        have hik : i_ = k_ := by omega
        rw [hik] at hg_
        refine lv_iload_n hx_ hb_ dX5_shortest_57 rfl (lv_at hl_ 1 rfl) ?_
        rw [← hQe]
        exact W.iret hx_ hb_ hr (fun tt1 htt1 hWW1 => ⟨_, rfl, congrArg iI (hg_), htt1⟩) (fun q_ h_ => absurd h_ List.not_mem_nil) dX5_shortest_58
      · skip
        have fb1 := hB_ i_ (by omega)
        have fs := hs2 i_ (by omega)
        refine lv_aload_n hx_ hb_ dX5_shortest_14 rfl (lv_at hl_ 0 rfl) ?_
        refine va_get (D := G_) (ci := 5) (v := .ref (am_ 12)) (C := RX5) (T := TX5) (N := 19) hx_ hb_ hts hi5_ hown hK_ hP_ 0 rfl rfl 16 (by decide) hf44_ (fun _ h9 => h9) rfl dX5_shortest_15 ?_
        refine lv_iload_n hx_ hb_ dX5_shortest_18 rfl (lv_at hl_ 2 rfl) ?_
        refine q_ildN hx_ hb_ hK_ hP_ 12 rfl (by decide) (i_) (by omega) (so_ i_) (rfl) dX5_shortest_19 ?_
        refine q_if_ne (tgt := 49) hx_ hb_ dX5_shortest_20 (by decide) (⟨by omega, by omega⟩) (fun c20_ => ?_) (fun c20_ => ?_)
        · skip
          refine lv_iload_n hx_ hb_ dX5_shortest_49 rfl (lv_at hl_ 1 rfl) ?_
          refine lv_istore_n (lv' := [(1, .int (iI (gz))), (0, .ref (am_ 0)), (2, .int (iI ((i_ : Nat) : Int)))]) hx_ hb_ dX5_shortest_50 rfl hl_ (by decide) rfl (fun ls_ hl_ => ?_)
          refine q_iinc (k := 2) ((i_ + 1 : Nat) : Int) hx_ hb_ dX5_shortest_51 hl_ rfl (rfl) (by decide) (lv' := [(2, .int (iI ((i_ + 1 : Nat) : Int))), (1, .int (iI (gz))), (0, .ref (am_ 0))]) rfl (fun ls_ hl_ => ?_)
          refine lv_goto (tgt := 6) hx_ hb_ dX5_shortest_54 (by decide) ?_
          exact ih6 (i_ + 1) ((gz)) ls_ (by omega) (by omega) (by rw [hg_]; unfold shw; rw [bst_skip (decide_eq_false (by omega))]) (lv_sub hl_ [2, 1, 0] rfl)
        · skip
          refine lv_iload_n hx_ hb_ dX5_shortest_23 rfl (lv_at hl_ 1 rfl) ?_
          refine lv_sipush (v := iI (-10005)) hx_ hb_ dX5_shortest_24 rfl ?_
          refine q_icmp_eq (tgt := 45) hx_ hb_ dX5_shortest_27 (by decide) (⟨by omega, by omega⟩) (⟨by decide, by decide⟩) (fun c27_ => ?_) (fun c27_ => ?_)
          · skip
            refine lv_iload_n hx_ hb_ dX5_shortest_45 rfl (lv_at hl_ 2 rfl) ?_
            refine lv_goto (tgt := 50) hx_ hb_ dX5_shortest_46 (by decide) ?_
            refine lv_istore_n (lv' := [(1, .int (iI ((i_ : Nat) : Int))), (0, .ref (am_ 0)), (2, .int (iI ((i_ : Nat) : Int)))]) hx_ hb_ dX5_shortest_50 rfl hl_ (by decide) rfl (fun ls_ hl_ => ?_)
            refine q_iinc (k := 2) ((i_ + 1 : Nat) : Int) hx_ hb_ dX5_shortest_51 hl_ rfl (rfl) (by decide) (lv' := [(2, .int (iI ((i_ + 1 : Nat) : Int))), (1, .int (iI ((i_ : Nat) : Int))), (0, .ref (am_ 0))]) rfl (fun ls_ hl_ => ?_)
            refine lv_goto (tgt := 6) hx_ hb_ dX5_shortest_54 (by decide) ?_
            exact ih6 (i_ + 1) (((i_ : Nat) : Int)) ls_ (by omega) (by omega) (by unfold shw; rw [bst_ns (oV_none (by decide) (hg_.symm.trans c27_)) (decide_eq_true (by omega))]; rfl) (lv_sub hl_ [2, 1, 0] rfl)
          · skip
            obtain ⟨g_, hgs, hgz⟩ : ∃ g_, shw i_ ln_ (wtf so_) = some g_ ∧ gz = (g_ : Int) := by rw [hg_] at c27_; obtain ⟨g_, h1_, h2_⟩ := oV_some c27_; exact ⟨g_, h1_, by rw [hg_, h2_]⟩
            have hgl := (bst_lt hgs).1
            subst hgz
            have fb3 := hB_ g_ (by omega)
            refine lv_aload_n hx_ hb_ dX5_shortest_30 rfl (lv_at hl_ 0 rfl) ?_
            refine va_get (D := G_) (ci := 5) (v := .ref (am_ 7)) (C := RX5) (T := TX5) (N := 19) hx_ hb_ hts hi5_ hown hK_ hP_ 0 rfl rfl 10 (by decide) hf29_ (fun _ h9 => h9) rfl dX5_shortest_31 ?_
            refine lv_iload_n hx_ hb_ dX5_shortest_34 rfl (lv_at hl_ 2 rfl) ?_
            refine q_ildN hx_ hb_ hK_ hP_ 7 rfl (by decide) (i_) (by omega) (ln_ i_) ((ha_ i_ (by omega)).2.2) dX5_shortest_35 ?_
            refine lv_aload_n hx_ hb_ dX5_shortest_36 rfl (lv_at hl_ 0 rfl) ?_
            refine va_get (D := G_) (ci := 5) (v := .ref (am_ 7)) (C := RX5) (T := TX5) (N := 19) hx_ hb_ hts hi5_ hown hK_ hP_ 0 rfl rfl 10 (by decide) hf29_ (fun _ h9 => h9) rfl dX5_shortest_37 ?_
            refine lv_iload_n hx_ hb_ dX5_shortest_40 rfl (lv_at hl_ 1 rfl) ?_
            refine q_ildN hx_ hb_ hK_ hP_ 7 rfl (by decide) (g_) (by omega) (ln_ g_) ((ha_ g_ (by omega)).2.2) dX5_shortest_41 ?_
            refine q_icmp_ge (tgt := 49) hx_ hb_ dX5_shortest_42 (by decide) (⟨by omega, by omega⟩) (⟨by omega, by omega⟩) (fun c42_ => ?_) (fun c42_ => ?_)
            · skip
              refine lv_iload_n hx_ hb_ dX5_shortest_49 rfl (lv_at hl_ 1 rfl) ?_
              refine lv_istore_n (lv' := [(1, .int (iI ((g_ : Nat) : Int))), (0, .ref (am_ 0)), (2, .int (iI ((i_ : Nat) : Int)))]) hx_ hb_ dX5_shortest_50 rfl hl_ (by decide) rfl (fun ls_ hl_ => ?_)
              refine q_iinc (k := 2) ((i_ + 1 : Nat) : Int) hx_ hb_ dX5_shortest_51 hl_ rfl (rfl) (by decide) (lv' := [(2, .int (iI ((i_ + 1 : Nat) : Int))), (1, .int (iI ((g_ : Nat) : Int))), (0, .ref (am_ 0))]) rfl (fun ls_ hl_ => ?_)
              refine lv_goto (tgt := 6) hx_ hb_ dX5_shortest_54 (by decide) ?_
              exact ih6 (i_ + 1) (((g_ : Nat) : Int)) ls_ (by omega) (by omega) (by unfold shw; rw [bst_sk hgs (decide_eq_false (by omega))]; rfl) (lv_sub hl_ [2, 1, 0] rfl)
            · skip
              refine lv_iload_n hx_ hb_ dX5_shortest_45 rfl (lv_at hl_ 2 rfl) ?_
              refine lv_goto (tgt := 50) hx_ hb_ dX5_shortest_46 (by decide) ?_
              refine lv_istore_n (lv' := [(1, .int (iI ((i_ : Nat) : Int))), (0, .ref (am_ 0)), (2, .int (iI ((i_ : Nat) : Int)))]) hx_ hb_ dX5_shortest_50 rfl hl_ (by decide) rfl (fun ls_ hl_ => ?_)
              refine q_iinc (k := 2) ((i_ + 1 : Nat) : Int) hx_ hb_ dX5_shortest_51 hl_ rfl (rfl) (by decide) (lv' := [(2, .int (iI ((i_ + 1 : Nat) : Int))), (1, .int (iI ((i_ : Nat) : Int))), (0, .ref (am_ 0))]) rfl (fun ls_ hl_ => ?_)
              refine lv_goto (tgt := 6) hx_ hb_ dX5_shortest_54 (by decide) ?_
              exact ih6 (i_ + 1) (((i_ : Nat) : Int)) ls_ (by omega) (by omega) (by unfold shw; rw [bst_ss hgs (decide_eq_true (by omega)) (decide_eq_true (by omega))]; rfl) (lv_sub hl_ [2, 1, 0] rfl)
  rw [show entryFrame m_ args 3 = entryFrame m_ ([.ref (am_ 0)] : List Value).toArray 3 from by rw [hargs], lg_entry_eq]
  have hl_ := lv_entry ([.ref (am_ 0)]) (n := 3) (Nat.le_of_ble_eq_true rfl)
  generalize (lg_sl ([.ref (am_ 0)]) ++ List.replicate (3 - (lg_sl ([.ref (am_ 0)])).length) Slot.unset).toArray = ls_ at hl_ ⊢
  have hl_ : lv_has ls_ 3 [(0, .ref (am_ 0))] := hl_
  refine lv_sipush (v := iI (-10005)) hx_ hb_ dX5_shortest_0 rfl ?_
  refine lv_istore_n (lv' := [(1, .int (iI (-10005))), (0, .ref (am_ 0))]) hx_ hb_ dX5_shortest_3 rfl hl_ (by decide) rfl (fun ls_ hl_ => ?_)
  refine lv_iconst (v := iI ((0 : Nat) : Int)) hx_ hb_ dX5_shortest_4 rfl ?_
  refine lv_istore_n (lv' := [(2, .int (iI ((0 : Nat) : Int))), (1, .int (iI (-10005))), (0, .ref (am_ 0))]) hx_ hb_ dX5_shortest_5 rfl hl_ (by decide) rfl (fun ls_ hl_ => ?_)
  exact lp6 (k_ + 1) 0 (-10005) ls_ (by omega) (by omega) (rfl) (lv_sub hl_ [2, 1, 0] rfl)

set_option maxHeartbeats 4000000 in
set_option maxRecDepth 100000 in
/-- orders -/
theorem c_X5_orders (l_ : Launch) (G_ : va_G) (cI cZ : ClassId) (am_ : Nat → Nat) (bu_ : Bool) (no_ : Nat) (vo_ : Nat → Int) (fo_ : Nat → Bool) (nn_ : Nat) (vn_ : Nat → Int) (fn_ : Nat → Bool) (k_ : Nat) (osr nsr lnr : Nat → Nat) (ba_ : Nat → Int) (tk_ : Nat → Bool) (rt_ : Nat → Nat) (cp_ : Nat) (cd_ so_ : Nat → Nat) (me_ bf_ : Nat → Int) (os_ ns_ ln_ : Nat → Nat) (hk_ : k_ ≤ 48) (hB_ : B48 k_ os_ ns_ ln_) (ha_ : ∀ j_, j_ < k_ → osr j_ = os_ j_ ∧ nsr j_ = ns_ j_ ∧ lnr j_ = ln_ j_) (sz : Nat) : Wr (S := Nat × (Nat → Nat) × (Nat → Nat)) l_ yX5_orders wsX5_orders ({ frames := 3, cells := 0, slots := 0, locals := 65 }) G_ cI cZ [.ref (am_ 0)] (wMd cI cZ am_ bu_ no_ vo_ fo_ nn_ vn_ fn_ k_ osr nsr lnr ba_ tk_ rt_ cp_ cd_ so_ me_ bf_) sz (fun u_ => CoM k_ os_ ns_ ln_ k_ u_.2.2 u_.2.1 u_.1) (fun u_ => wMd cI cZ am_ bu_ no_ vo_ fo_ nn_ vn_ fn_ k_ osr nsr lnr ba_ tk_ rt_ u_.1 u_.2.1 u_.2.2 me_ bf_) := by
  refine Met.ofW (cc := cX5_orders) (maxL := 3) (ret := (none)) (by decide) rfl ?_
  intro p_ e_ s_ m_ args below meth c_ s₁ B hml hv
  obtain ⟨hargs, hsz, hP_, hK_, hD0⟩ := hv
  have hx_ := B.exec
  have hb_ := B.bytes
  have hr := B.returns
  have hts := atoms_spec (ws := wsX5_orders) B.pre
  have hown : s_.vm.findClass RX5 = some m_.cls := findClass_of_methodNamed B.named
  have hlocks := B.notSynchronized
  have hi5_ : ∀ w_ ∈ wsX50, w_ ∈ wsX5_orders := by decide +kernel
  have hf41_ := hts (.fieldLink RX5 41 "RelocatingPatchModel" "copied" "[I") (by decide +kernel)
  have hf44_ := hts (.fieldLink RX5 44 "RelocatingPatchModel" "stateOf" "[I") (by decide +kernel)
  have hf93_ := hts (.fieldLink RX5 93 "RelocatingPatchModel" "blocks" "I") (by decide +kernel)
  have hf125_ := hts (.fieldLink RX5 125 "RelocatingPatchModel" "copies" "I") (by decide +kernel)
  subst hsz
  have hD_ := hD0.self (sz := s_.heap.size)
  generalize hAe : va_A (wMd cI cZ am_ bu_ no_ vo_ fo_ nn_ vn_ fn_ k_ osr nsr lnr ba_ tk_ rt_ cp_ cd_ so_ me_ bf_) s_.heap.size = A_ at hD_ ⊢
  have hA_ : ∀ q_ : Nat, s_.heap.size ≤ q_ → A_ q_ := fun q_ h_ => by rw [← hAe]; exact Or.inr h_
  have hS_ : va_S A_ s_.heap s_.heap [] := va_S.rf
  have hP_ : va_P G_ vwCl [(am_ 0, .inr (5, [.int (iI ((no_ : Nat) : Int)), .ref (am_ 1), .ref (am_ 2), .int (iI ((nn_ : Nat) : Int)), .ref (am_ 3), .ref (am_ 4), .int (iI (bZ bu_)), .int (iI ((k_ : Nat) : Int)), .ref (am_ 5), .ref (am_ 6), .ref (am_ 7), .ref (am_ 8), .ref (am_ 9), .ref (am_ 10), .int (iI ((cp_ : Nat) : Int)), .ref (am_ 11), .ref (am_ 12), .ref (am_ 13), .ref (am_ 14)])), (am_ 1, .inl (cI, 48, .inl (aI vo_))), (am_ 2, .inl (cZ, 48, .inl (aB fo_))), (am_ 3, .inl (cI, 48, .inl (aI vn_))), (am_ 4, .inl (cZ, 48, .inl (aB fn_))), (am_ 5, .inl (cI, 48, .inl (aN osr))), (am_ 6, .inl (cI, 48, .inl (aN nsr))), (am_ 7, .inl (cI, 48, .inl (aN lnr))), (am_ 8, .inl (cI, 48, .inl (aI ba_))), (am_ 9, .inl (cZ, 48, .inl (aB tk_))), (am_ 10, .inl (cI, 2401, .inl (aN rt_))), (am_ 11, .inl (cI, 48, .inl (aN cd_))), (am_ 12, .inl (cI, 48, .inl (aN so_))), (am_ 13, .inl (cI, 48, .inl (aI me_))), (am_ 14, .inl (cI, 48, .inl (aI bf_)))] s_.heap := hP_
  have hD_ : va_D A_ [(am_ 0, .inr (5, [.int (iI ((no_ : Nat) : Int)), .ref (am_ 1), .ref (am_ 2), .int (iI ((nn_ : Nat) : Int)), .ref (am_ 3), .ref (am_ 4), .int (iI (bZ bu_)), .int (iI ((k_ : Nat) : Int)), .ref (am_ 5), .ref (am_ 6), .ref (am_ 7), .ref (am_ 8), .ref (am_ 9), .ref (am_ 10), .int (iI ((cp_ : Nat) : Int)), .ref (am_ 11), .ref (am_ 12), .ref (am_ 13), .ref (am_ 14)])), (am_ 1, .inl (cI, 48, .inl (aI vo_))), (am_ 2, .inl (cZ, 48, .inl (aB fo_))), (am_ 3, .inl (cI, 48, .inl (aI vn_))), (am_ 4, .inl (cZ, 48, .inl (aB fn_))), (am_ 5, .inl (cI, 48, .inl (aN osr))), (am_ 6, .inl (cI, 48, .inl (aN nsr))), (am_ 7, .inl (cI, 48, .inl (aN lnr))), (am_ 8, .inl (cI, 48, .inl (aI ba_))), (am_ 9, .inl (cZ, 48, .inl (aB tk_))), (am_ 10, .inl (cI, 2401, .inl (aN rt_))), (am_ 11, .inl (cI, 48, .inl (aN cd_))), (am_ 12, .inl (cI, 48, .inl (aN so_))), (am_ 13, .inl (cI, 48, .inl (aI me_))), (am_ 14, .inl (cI, 48, .inl (aI bf_)))] := hD_
  generalize hQe : MQ below (va_Qv (S := Nat × (Nat → Nat) × (Nat → Nat)) (fun u_ => CoM k_ os_ ns_ ln_ k_ u_.2.2 u_.2.1 u_.1) (fun u1 t1 => va_P G_ vwCl ((fun u_ => wMd cI cZ am_ bu_ no_ vo_ fo_ nn_ vn_ fn_ k_ osr nsr lnr ba_ tk_ rt_ u_.1 u_.2.1 u_.2.2 me_ bf_) u1) t1.heap) A_) args s_ 0 0 A_ = Q_
  have lp30 : ∀ (n_ : Nat) (r_ : Nat) (cp_ : Nat) (cd_ : Nat → Nat) (so_ : Nat → Nat) (H_ : Heap) (locs : List Loc) (ls_ : Array Slot), (r_ ≤ k_) → (k_ + 1 ≤ r_ + n_) → (CoM k_ os_ ns_ ln_ r_ so_ cd_ cp_) → va_P G_ vwCl [(am_ 0, .inr (5, [.int (iI ((no_ : Nat) : Int)), .ref (am_ 1), .ref (am_ 2), .int (iI ((nn_ : Nat) : Int)), .ref (am_ 3), .ref (am_ 4), .int (iI (bZ bu_)), .int (iI ((k_ : Nat) : Int)), .ref (am_ 5), .ref (am_ 6), .ref (am_ 7), .ref (am_ 8), .ref (am_ 9), .ref (am_ 10), .int (iI ((cp_ : Nat) : Int)), .ref (am_ 11), .ref (am_ 12), .ref (am_ 13), .ref (am_ 14)])), (am_ 1, .inl (cI, 48, .inl (aI vo_))), (am_ 2, .inl (cZ, 48, .inl (aB fo_))), (am_ 3, .inl (cI, 48, .inl (aI vn_))), (am_ 4, .inl (cZ, 48, .inl (aB fn_))), (am_ 5, .inl (cI, 48, .inl (aN osr))), (am_ 6, .inl (cI, 48, .inl (aN nsr))), (am_ 7, .inl (cI, 48, .inl (aN lnr))), (am_ 8, .inl (cI, 48, .inl (aI ba_))), (am_ 9, .inl (cZ, 48, .inl (aB tk_))), (am_ 10, .inl (cI, 2401, .inl (aN rt_))), (am_ 11, .inl (cI, 48, .inl (aN cd_))), (am_ 12, .inl (cI, 48, .inl (aN so_))), (am_ 13, .inl (cI, 48, .inl (aI me_))), (am_ 14, .inl (cI, 48, .inl (aI bf_)))] H_ → va_D A_ [(am_ 0, .inr (5, [.int (iI ((no_ : Nat) : Int)), .ref (am_ 1), .ref (am_ 2), .int (iI ((nn_ : Nat) : Int)), .ref (am_ 3), .ref (am_ 4), .int (iI (bZ bu_)), .int (iI ((k_ : Nat) : Int)), .ref (am_ 5), .ref (am_ 6), .ref (am_ 7), .ref (am_ 8), .ref (am_ 9), .ref (am_ 10), .int (iI ((cp_ : Nat) : Int)), .ref (am_ 11), .ref (am_ 12), .ref (am_ 13), .ref (am_ 14)])), (am_ 1, .inl (cI, 48, .inl (aI vo_))), (am_ 2, .inl (cZ, 48, .inl (aB fo_))), (am_ 3, .inl (cI, 48, .inl (aI vn_))), (am_ 4, .inl (cZ, 48, .inl (aB fn_))), (am_ 5, .inl (cI, 48, .inl (aN osr))), (am_ 6, .inl (cI, 48, .inl (aN nsr))), (am_ 7, .inl (cI, 48, .inl (aN lnr))), (am_ 8, .inl (cI, 48, .inl (aI ba_))), (am_ 9, .inl (cZ, 48, .inl (aB tk_))), (am_ 10, .inl (cI, 2401, .inl (aN rt_))), (am_ 11, .inl (cI, 48, .inl (aN cd_))), (am_ 12, .inl (cI, 48, .inl (aN so_))), (am_ 13, .inl (cI, 48, .inl (aI me_))), (am_ 14, .inl (cI, 48, .inl (aI bf_)))] → va_S A_ s_.heap H_ locs → lv_has ls_ 3 [(0, .ref (am_ 0)), (1, .int (iI ((r_ : Nat) : Int)))] → W p_ l_ e_ (headSpec wsX5_orders ({ frames := 3, cells := 0, slots := 0, locals := 65 })).room s_ m_ args below meth c_ H_ locs 0 0 Q_ (F0 m_ 30 ls_ []) := by
    intro n_
    induction n_ with
    | zero =>
      intro r_ cp_ cd_ so_ H_ locs ls_ hr0_ hn_ hc_
      exact False.elim (by omega)
    | succ n_ ih30 =>
      intro r_ cp_ cd_ so_ H_ locs ls_ hr0_ hn_ hc_ hP_ hD_ hS_ hl_
      have hcl : cp_ ≤ r_ := by rw [hc_.2.2]; exact (its_ok k_ os_ ns_ ln_ r_).1
      have hs2 : ∀ b_, b_ < k_ → so_ b_ ≤ 2 := fun b_ hb_ => by rw [hc_.1 b_ hb_]; exact its_vals k_ os_ ns_ ln_ r_ b_
      refine lv_iload_n hx_ hb_ dX5_orders_30 rfl (lv_at hl_ 1 rfl) ?_
      refine lv_aload_n hx_ hb_ dX5_orders_31 rfl (lv_at hl_ 0 rfl) ?_
      refine va_get (D := G_) (ci := 5) (v := .int (iI ((k_ : Nat) : Int))) (C := RX5) (T := TX5) (N := 19) hx_ hb_ hts hi5_ hown hK_ hP_ 0 rfl rfl 7 (by decide) hf93_ (fun _ h9 => h9) rfl dX5_orders_32 ?_
      refine q_icmp_ge (tgt := 96) hx_ hb_ dX5_orders_35 (by decide) (⟨by omega, by omega⟩) (⟨by omega, by omega⟩) (fun c35_ => ?_) (fun c35_ => ?_)
      · skip
        rw [← hQe]
        exact W.vret hx_ hb_ hr (fun tt1 htt1 hWW1 => ⟨⟨(cp_, cd_, so_), rfl, by have e0_ : r_ = k_ := (by omega); rw [e0_] at hc_; exact hc_, by show va_P G_ vwCl _ tt1.heap; rw [htt1]; exact hP_⟩, hS_.F htt1⟩) hS_.2.2 dX5_orders_96
      · skip
        refine lv_aload_n hx_ hb_ dX5_orders_38 rfl (lv_at hl_ 0 rfl) ?_
        refine ro_V (As := []) (rest := []) ⟨hx_, hb_, hml, hown, hts⟩ (c_X5_firstReady l_ G_ cI cZ am_ bu_ no_ vo_ fo_ nn_ vn_ fn_ k_ osr nsr lnr ba_ tk_ rt_ cp_ cd_ so_ me_ bf_ os_ ns_ ln_  hk_ hB_ ha_ (hs2)) (cwV 0 hts gX5_orders_X5_firstReady rfl rfl rfl (by decide +kernel) ⟨Nat.le_of_ble_eq_true rfl, Nat.le_of_ble_eq_true rfl⟩) (hP_.sub (ws' := [(am_ 0, .inr (5, [.int (iI ((no_ : Nat) : Int)), .ref (am_ 1), .ref (am_ 2), .int (iI ((nn_ : Nat) : Int)), .ref (am_ 3), .ref (am_ 4), .int (iI (bZ bu_)), .int (iI ((k_ : Nat) : Int)), .ref (am_ 5), .ref (am_ 6), .ref (am_ 7), .ref (am_ 8), .ref (am_ 9), .ref (am_ 10), .int (iI ((cp_ : Nat) : Int)), .ref (am_ 11), .ref (am_ 12), .ref (am_ 13), .ref (am_ 14)])), (am_ 1, .inl (cI, 48, .inl (aI vo_))), (am_ 2, .inl (cZ, 48, .inl (aB fo_))), (am_ 3, .inl (cI, 48, .inl (aI vn_))), (am_ 4, .inl (cZ, 48, .inl (aB fn_))), (am_ 5, .inl (cI, 48, .inl (aN osr))), (am_ 6, .inl (cI, 48, .inl (aN nsr))), (am_ 7, .inl (cI, 48, .inl (aN lnr))), (am_ 8, .inl (cI, 48, .inl (aI ba_))), (am_ 9, .inl (cZ, 48, .inl (aB tk_))), (am_ 10, .inl (cI, 2401, .inl (aN rt_))), (am_ 11, .inl (cI, 48, .inl (aN cd_))), (am_ 12, .inl (cI, 48, .inl (aN so_))), (am_ 13, .inl (cI, 48, .inl (aI me_))), (am_ 14, .inl (cI, 48, .inl (aI bf_)))]) [0, 1, 2, 3, 4, 5, 6, 7, 8, 9, 10, 11, 12, 13, 14] rfl) hK_ 0 rfl rfl rfl hl_.1 rfl (Nat.le_of_ble_eq_true rfl) dX5_orders_39 ⟨Nat.zero_le _, Nat.zero_le _⟩ ?_
        refine lv_istore_n (lv' := [(2, .int (iI (wI (frd k_ os_ ns_ ln_ (wtf so_)) k_ (-10005)))), (0, .ref (am_ 0)), (1, .int (iI ((r_ : Nat) : Int)))]) hx_ hb_ dX5_orders_42 rfl hl_ (by decide) rfl (fun ls_ hl_ => ?_)
        refine lv_iload_n hx_ hb_ dX5_orders_43 rfl (lv_at hl_ 0 rfl) ?_
        refine lv_sipush (v := iI (-10005)) hx_ hb_ dX5_orders_44 rfl ?_
        refine q_icmp_ne (tgt := 63) hx_ hb_ dX5_orders_47 (by decide) (wI_R hk_ ⟨by decide, by decide⟩) (⟨by decide, by decide⟩) (fun c47_ => ?_) (fun c47_ => ?_)
        · skip
          have hfr := wI_ne c47_
          refine lv_aload_n hx_ hb_ dX5_orders_63 rfl (lv_at hl_ 1 rfl) ?_
          refine va_get (D := G_) (ci := 5) (v := .ref (am_ 12)) (C := RX5) (T := TX5) (N := 19) hx_ hb_ hts hi5_ hown hK_ hP_ 0 rfl rfl 16 (by decide) hf44_ (fun _ h9 => h9) rfl dX5_orders_64 ?_
          refine lv_iload_n hx_ hb_ dX5_orders_67 rfl (lv_at hl_ 0 rfl) ?_
          refine q_cast (b := ((frd k_ os_ ns_ ln_ (wtf so_) : Nat) : Int)) (wI_hit hfr) ?_
          refine lv_iconst (v := iI ((1 : Nat) : Int)) hx_ hb_ dX5_orders_68 rfl ?_
          refine q_istN hx_ hb_ hK_ hP_ hD_ hS_ 12 rfl (by decide) (frd k_ os_ ns_ ln_ (wtf so_)) (by omega) (1) dX5_orders_69 (ws' := [(am_ 0, .inr (5, [.int (iI ((no_ : Nat) : Int)), .ref (am_ 1), .ref (am_ 2), .int (iI ((nn_ : Nat) : Int)), .ref (am_ 3), .ref (am_ 4), .int (iI (bZ bu_)), .int (iI ((k_ : Nat) : Int)), .ref (am_ 5), .ref (am_ 6), .ref (am_ 7), .ref (am_ 8), .ref (am_ 9), .ref (am_ 10), .int (iI ((cp_ : Nat) : Int)), .ref (am_ 11), .ref (am_ 12), .ref (am_ 13), .ref (am_ 14)])), (am_ 1, .inl (cI, 48, .inl (aI vo_))), (am_ 2, .inl (cZ, 48, .inl (aB fo_))), (am_ 3, .inl (cI, 48, .inl (aI vn_))), (am_ 4, .inl (cZ, 48, .inl (aB fn_))), (am_ 5, .inl (cI, 48, .inl (aN osr))), (am_ 6, .inl (cI, 48, .inl (aN nsr))), (am_ 7, .inl (cI, 48, .inl (aN lnr))), (am_ 8, .inl (cI, 48, .inl (aI ba_))), (am_ 9, .inl (cZ, 48, .inl (aB tk_))), (am_ 10, .inl (cI, 2401, .inl (aN rt_))), (am_ 11, .inl (cI, 48, .inl (aN cd_))), (am_ 12, .inl (cI, 48, .inl (aN (va_up so_ (frd k_ os_ ns_ ln_ (wtf so_)) 1)))), (am_ 13, .inl (cI, 48, .inl (aI me_))), (am_ 14, .inl (cI, 48, .inl (aI bf_)))]) rfl (fun H_ locs hP_ hD_ hS_ => ?_)
          refine lv_aload_n hx_ hb_ dX5_orders_70 rfl (lv_at hl_ 1 rfl) ?_
          refine va_get (D := G_) (ci := 5) (v := .ref (am_ 11)) (C := RX5) (T := TX5) (N := 19) hx_ hb_ hts hi5_ hown hK_ hP_ 0 rfl rfl 15 (by decide) hf41_ (fun _ h9 => h9) rfl dX5_orders_71 ?_
          refine lv_aload_n hx_ hb_ dX5_orders_74 rfl (lv_at hl_ 1 rfl) ?_
          refine va_get (D := G_) (ci := 5) (v := .int (iI ((cp_ : Nat) : Int))) (C := RX5) (T := TX5) (N := 19) hx_ hb_ hts hi5_ hown hK_ hP_ 0 rfl rfl 14 (by decide) hf125_ (fun _ h9 => h9) rfl dX5_orders_75 ?_
          refine lv_iload_n hx_ hb_ dX5_orders_78 rfl (lv_at hl_ 0 rfl) ?_
          refine q_cast (b := ((frd k_ os_ ns_ ln_ (wtf so_) : Nat) : Int)) (wI_hit hfr) ?_
          refine q_istN hx_ hb_ hK_ hP_ hD_ hS_ 11 rfl (by decide) (cp_) (by omega) (frd k_ os_ ns_ ln_ (wtf so_)) dX5_orders_79 (ws' := [(am_ 0, .inr (5, [.int (iI ((no_ : Nat) : Int)), .ref (am_ 1), .ref (am_ 2), .int (iI ((nn_ : Nat) : Int)), .ref (am_ 3), .ref (am_ 4), .int (iI (bZ bu_)), .int (iI ((k_ : Nat) : Int)), .ref (am_ 5), .ref (am_ 6), .ref (am_ 7), .ref (am_ 8), .ref (am_ 9), .ref (am_ 10), .int (iI ((cp_ : Nat) : Int)), .ref (am_ 11), .ref (am_ 12), .ref (am_ 13), .ref (am_ 14)])), (am_ 1, .inl (cI, 48, .inl (aI vo_))), (am_ 2, .inl (cZ, 48, .inl (aB fo_))), (am_ 3, .inl (cI, 48, .inl (aI vn_))), (am_ 4, .inl (cZ, 48, .inl (aB fn_))), (am_ 5, .inl (cI, 48, .inl (aN osr))), (am_ 6, .inl (cI, 48, .inl (aN nsr))), (am_ 7, .inl (cI, 48, .inl (aN lnr))), (am_ 8, .inl (cI, 48, .inl (aI ba_))), (am_ 9, .inl (cZ, 48, .inl (aB tk_))), (am_ 10, .inl (cI, 2401, .inl (aN rt_))), (am_ 11, .inl (cI, 48, .inl (aN (va_up cd_ cp_ (frd k_ os_ ns_ ln_ (wtf so_)))))), (am_ 12, .inl (cI, 48, .inl (aN (va_up so_ (frd k_ os_ ns_ ln_ (wtf so_)) 1)))), (am_ 13, .inl (cI, 48, .inl (aI me_))), (am_ 14, .inl (cI, 48, .inl (aI bf_)))]) rfl (fun H_ locs hP_ hD_ hS_ => ?_)
          refine lv_aload_n hx_ hb_ dX5_orders_80 rfl (lv_at hl_ 1 rfl) ?_
          refine lv_dup hx_ hb_ dX5_orders_81 rfl ?_
          refine va_get (D := G_) (ci := 5) (v := .int (iI ((cp_ : Nat) : Int))) (C := RX5) (T := TX5) (N := 19) hx_ hb_ hts hi5_ hown hK_ hP_ 0 rfl rfl 14 (by decide) hf125_ (fun _ h9 => h9) rfl dX5_orders_82 ?_
          refine lv_iconst (v := iI ((1 : Nat) : Int)) hx_ hb_ dX5_orders_85 rfl ?_
          refine q_iaddN hx_ hb_ dX5_orders_86 ?_
          refine va_put (D := G_) (ci := 5) (v := .int (iI ((cp_ + 1 : Nat) : Int))) (ty := .int) (C := RX5) (T := TX5) (N := 19) hx_ hb_ hts hi5_ tyX5 tyX5_ok nmX5 hown hK_ hP_ hD_ hS_ 0 rfl rfl 14 (by decide) hf125_ (fun _ h9 => h9) rfl (by decide +kernel) rfl rfl (Nat.le_of_ble_eq_true rfl) dX5_orders_87 (fun H_ locs hP_ hD_ hS_ => ?_)
          have hP_ : va_P G_ vwCl [(am_ 0, .inr (5, [.int (iI ((no_ : Nat) : Int)), .ref (am_ 1), .ref (am_ 2), .int (iI ((nn_ : Nat) : Int)), .ref (am_ 3), .ref (am_ 4), .int (iI (bZ bu_)), .int (iI ((k_ : Nat) : Int)), .ref (am_ 5), .ref (am_ 6), .ref (am_ 7), .ref (am_ 8), .ref (am_ 9), .ref (am_ 10), .int (iI ((cp_ + 1 : Nat) : Int)), .ref (am_ 11), .ref (am_ 12), .ref (am_ 13), .ref (am_ 14)])), (am_ 1, .inl (cI, 48, .inl (aI vo_))), (am_ 2, .inl (cZ, 48, .inl (aB fo_))), (am_ 3, .inl (cI, 48, .inl (aI vn_))), (am_ 4, .inl (cZ, 48, .inl (aB fn_))), (am_ 5, .inl (cI, 48, .inl (aN osr))), (am_ 6, .inl (cI, 48, .inl (aN nsr))), (am_ 7, .inl (cI, 48, .inl (aN lnr))), (am_ 8, .inl (cI, 48, .inl (aI ba_))), (am_ 9, .inl (cZ, 48, .inl (aB tk_))), (am_ 10, .inl (cI, 2401, .inl (aN rt_))), (am_ 11, .inl (cI, 48, .inl (aN (va_up cd_ cp_ (frd k_ os_ ns_ ln_ (wtf so_)))))), (am_ 12, .inl (cI, 48, .inl (aN (va_up so_ (frd k_ os_ ns_ ln_ (wtf so_)) 1)))), (am_ 13, .inl (cI, 48, .inl (aI me_))), (am_ 14, .inl (cI, 48, .inl (aI bf_)))] H_ := hP_
          have hD_ : va_D A_ [(am_ 0, .inr (5, [.int (iI ((no_ : Nat) : Int)), .ref (am_ 1), .ref (am_ 2), .int (iI ((nn_ : Nat) : Int)), .ref (am_ 3), .ref (am_ 4), .int (iI (bZ bu_)), .int (iI ((k_ : Nat) : Int)), .ref (am_ 5), .ref (am_ 6), .ref (am_ 7), .ref (am_ 8), .ref (am_ 9), .ref (am_ 10), .int (iI ((cp_ + 1 : Nat) : Int)), .ref (am_ 11), .ref (am_ 12), .ref (am_ 13), .ref (am_ 14)])), (am_ 1, .inl (cI, 48, .inl (aI vo_))), (am_ 2, .inl (cZ, 48, .inl (aB fo_))), (am_ 3, .inl (cI, 48, .inl (aI vn_))), (am_ 4, .inl (cZ, 48, .inl (aB fn_))), (am_ 5, .inl (cI, 48, .inl (aN osr))), (am_ 6, .inl (cI, 48, .inl (aN nsr))), (am_ 7, .inl (cI, 48, .inl (aN lnr))), (am_ 8, .inl (cI, 48, .inl (aI ba_))), (am_ 9, .inl (cZ, 48, .inl (aB tk_))), (am_ 10, .inl (cI, 2401, .inl (aN rt_))), (am_ 11, .inl (cI, 48, .inl (aN (va_up cd_ cp_ (frd k_ os_ ns_ ln_ (wtf so_)))))), (am_ 12, .inl (cI, 48, .inl (aN (va_up so_ (frd k_ os_ ns_ ln_ (wtf so_)) 1)))), (am_ 13, .inl (cI, 48, .inl (aI me_))), (am_ 14, .inl (cI, 48, .inl (aI bf_)))] := hD_
          refine q_iinc (k := 2) ((r_ + 1 : Nat) : Int) hx_ hb_ dX5_orders_90 hl_ rfl (rfl) (by decide) (lv' := [(1, .int (iI ((r_ + 1 : Nat) : Int))), (2, .int (iI (wI (frd k_ os_ ns_ ln_ (wtf so_)) k_ (-10005)))), (0, .ref (am_ 0))]) rfl (fun ls_ hl_ => ?_)
          refine lv_goto (tgt := 30) hx_ hb_ dX5_orders_93 (by decide) ?_
          exact ih30 (r_ + 1) (cp_ + 1) (va_up cd_ cp_ (frd k_ os_ ns_ ln_ (wtf so_))) (va_up so_ (frd k_ os_ ns_ ln_ (wtf so_)) 1) _ _ ls_ (by omega) (by omega) (CoM_copy hc_ hfr) hP_ hD_ hS_ (lv_sub hl_ [2, 0] rfl)
        · skip
          have hfr := wI_nlt (by decide) c47_
          obtain ⟨g_, hgs⟩ := shw_some (os := os_) (ns := ns_) (show r_ < k_ from by omega) (CoM_wt hc_)
          have hgl := bst_lt hgs
          refine lv_aload_n hx_ hb_ dX5_orders_50 rfl (lv_at hl_ 1 rfl) ?_
          refine va_get (D := G_) (ci := 5) (v := .ref (am_ 12)) (C := RX5) (T := TX5) (N := 19) hx_ hb_ hts hi5_ hown hK_ hP_ 0 rfl rfl 16 (by decide) hf44_ (fun _ h9 => h9) rfl dX5_orders_51 ?_
          refine lv_aload_n hx_ hb_ dX5_orders_54 rfl (lv_at hl_ 1 rfl) ?_
          refine ro_V (As := []) (rest := [.ref (am_ 12)]) ⟨hx_, hb_, hml, hown, hts⟩ (c_X5_shortest l_ G_ cI cZ am_ bu_ no_ vo_ fo_ nn_ vn_ fn_ k_ osr nsr lnr ba_ tk_ rt_ cp_ cd_ so_ me_ bf_ os_ ns_ ln_  hk_ hB_ ha_ (hs2)) (cwV 0 hts gX5_orders_X5_shortest rfl rfl rfl (by decide +kernel) ⟨Nat.le_of_ble_eq_true rfl, Nat.le_of_ble_eq_true rfl⟩) (hP_.sub (ws' := [(am_ 0, .inr (5, [.int (iI ((no_ : Nat) : Int)), .ref (am_ 1), .ref (am_ 2), .int (iI ((nn_ : Nat) : Int)), .ref (am_ 3), .ref (am_ 4), .int (iI (bZ bu_)), .int (iI ((k_ : Nat) : Int)), .ref (am_ 5), .ref (am_ 6), .ref (am_ 7), .ref (am_ 8), .ref (am_ 9), .ref (am_ 10), .int (iI ((cp_ : Nat) : Int)), .ref (am_ 11), .ref (am_ 12), .ref (am_ 13), .ref (am_ 14)])), (am_ 1, .inl (cI, 48, .inl (aI vo_))), (am_ 2, .inl (cZ, 48, .inl (aB fo_))), (am_ 3, .inl (cI, 48, .inl (aI vn_))), (am_ 4, .inl (cZ, 48, .inl (aB fn_))), (am_ 5, .inl (cI, 48, .inl (aN osr))), (am_ 6, .inl (cI, 48, .inl (aN nsr))), (am_ 7, .inl (cI, 48, .inl (aN lnr))), (am_ 8, .inl (cI, 48, .inl (aI ba_))), (am_ 9, .inl (cZ, 48, .inl (aB tk_))), (am_ 10, .inl (cI, 2401, .inl (aN rt_))), (am_ 11, .inl (cI, 48, .inl (aN cd_))), (am_ 12, .inl (cI, 48, .inl (aN so_))), (am_ 13, .inl (cI, 48, .inl (aI me_))), (am_ 14, .inl (cI, 48, .inl (aI bf_)))]) [0, 1, 2, 3, 4, 5, 6, 7, 8, 9, 10, 11, 12, 13, 14] rfl) hK_ 0 rfl rfl rfl hl_.1 rfl (Nat.le_of_ble_eq_true rfl) dX5_orders_55 ⟨Nat.zero_le _, Nat.zero_le _⟩ ?_
          refine q_cast (b := ((g_ : Nat) : Int)) (by rw [hgs]; rfl) ?_
          refine lv_iconst (v := iI ((2 : Nat) : Int)) hx_ hb_ dX5_orders_58 rfl ?_
          refine q_istN hx_ hb_ hK_ hP_ hD_ hS_ 12 rfl (by decide) (g_) (by omega) (2) dX5_orders_59 (ws' := [(am_ 0, .inr (5, [.int (iI ((no_ : Nat) : Int)), .ref (am_ 1), .ref (am_ 2), .int (iI ((nn_ : Nat) : Int)), .ref (am_ 3), .ref (am_ 4), .int (iI (bZ bu_)), .int (iI ((k_ : Nat) : Int)), .ref (am_ 5), .ref (am_ 6), .ref (am_ 7), .ref (am_ 8), .ref (am_ 9), .ref (am_ 10), .int (iI ((cp_ : Nat) : Int)), .ref (am_ 11), .ref (am_ 12), .ref (am_ 13), .ref (am_ 14)])), (am_ 1, .inl (cI, 48, .inl (aI vo_))), (am_ 2, .inl (cZ, 48, .inl (aB fo_))), (am_ 3, .inl (cI, 48, .inl (aI vn_))), (am_ 4, .inl (cZ, 48, .inl (aB fn_))), (am_ 5, .inl (cI, 48, .inl (aN osr))), (am_ 6, .inl (cI, 48, .inl (aN nsr))), (am_ 7, .inl (cI, 48, .inl (aN lnr))), (am_ 8, .inl (cI, 48, .inl (aI ba_))), (am_ 9, .inl (cZ, 48, .inl (aB tk_))), (am_ 10, .inl (cI, 2401, .inl (aN rt_))), (am_ 11, .inl (cI, 48, .inl (aN cd_))), (am_ 12, .inl (cI, 48, .inl (aN (va_up so_ g_ 2)))), (am_ 13, .inl (cI, 48, .inl (aI me_))), (am_ 14, .inl (cI, 48, .inl (aI bf_)))]) rfl (fun H_ locs hP_ hD_ hS_ => ?_)
          refine lv_goto (tgt := 90) hx_ hb_ dX5_orders_60 (by decide) ?_
          refine q_iinc (k := 2) ((r_ + 1 : Nat) : Int) hx_ hb_ dX5_orders_90 hl_ rfl (rfl) (by decide) (lv' := [(1, .int (iI ((r_ + 1 : Nat) : Int))), (2, .int (iI (wI (frd k_ os_ ns_ ln_ (wtf so_)) k_ (-10005)))), (0, .ref (am_ 0))]) rfl (fun ls_ hl_ => ?_)
          refine lv_goto (tgt := 30) hx_ hb_ dX5_orders_93 (by decide) ?_
          exact ih30 (r_ + 1) cp_ cd_ (va_up so_ g_ 2) _ _ ls_ (by omega) (by omega) (CoM_drop hc_ hfr hgs) hP_ hD_ hS_ (lv_sub hl_ [2, 0] rfl)
  have lp7 : ∀ (n_ : Nat) (i_ : Nat) (s1 : Nat → Nat) (H_ : Heap) (locs : List Loc) (ls_ : Array Slot), (i_ ≤ k_) → (k_ + 1 ≤ i_ + n_) → (∀ j_, j_ < i_ → s1 j_ = 0) → va_P G_ vwCl [(am_ 0, .inr (5, [.int (iI ((no_ : Nat) : Int)), .ref (am_ 1), .ref (am_ 2), .int (iI ((nn_ : Nat) : Int)), .ref (am_ 3), .ref (am_ 4), .int (iI (bZ bu_)), .int (iI ((k_ : Nat) : Int)), .ref (am_ 5), .ref (am_ 6), .ref (am_ 7), .ref (am_ 8), .ref (am_ 9), .ref (am_ 10), .int (iI ((0 : Nat) : Int)), .ref (am_ 11), .ref (am_ 12), .ref (am_ 13), .ref (am_ 14)])), (am_ 1, .inl (cI, 48, .inl (aI vo_))), (am_ 2, .inl (cZ, 48, .inl (aB fo_))), (am_ 3, .inl (cI, 48, .inl (aI vn_))), (am_ 4, .inl (cZ, 48, .inl (aB fn_))), (am_ 5, .inl (cI, 48, .inl (aN osr))), (am_ 6, .inl (cI, 48, .inl (aN nsr))), (am_ 7, .inl (cI, 48, .inl (aN lnr))), (am_ 8, .inl (cI, 48, .inl (aI ba_))), (am_ 9, .inl (cZ, 48, .inl (aB tk_))), (am_ 10, .inl (cI, 2401, .inl (aN rt_))), (am_ 11, .inl (cI, 48, .inl (aN cd_))), (am_ 12, .inl (cI, 48, .inl (aN s1))), (am_ 13, .inl (cI, 48, .inl (aI me_))), (am_ 14, .inl (cI, 48, .inl (aI bf_)))] H_ → va_D A_ [(am_ 0, .inr (5, [.int (iI ((no_ : Nat) : Int)), .ref (am_ 1), .ref (am_ 2), .int (iI ((nn_ : Nat) : Int)), .ref (am_ 3), .ref (am_ 4), .int (iI (bZ bu_)), .int (iI ((k_ : Nat) : Int)), .ref (am_ 5), .ref (am_ 6), .ref (am_ 7), .ref (am_ 8), .ref (am_ 9), .ref (am_ 10), .int (iI ((0 : Nat) : Int)), .ref (am_ 11), .ref (am_ 12), .ref (am_ 13), .ref (am_ 14)])), (am_ 1, .inl (cI, 48, .inl (aI vo_))), (am_ 2, .inl (cZ, 48, .inl (aB fo_))), (am_ 3, .inl (cI, 48, .inl (aI vn_))), (am_ 4, .inl (cZ, 48, .inl (aB fn_))), (am_ 5, .inl (cI, 48, .inl (aN osr))), (am_ 6, .inl (cI, 48, .inl (aN nsr))), (am_ 7, .inl (cI, 48, .inl (aN lnr))), (am_ 8, .inl (cI, 48, .inl (aI ba_))), (am_ 9, .inl (cZ, 48, .inl (aB tk_))), (am_ 10, .inl (cI, 2401, .inl (aN rt_))), (am_ 11, .inl (cI, 48, .inl (aN cd_))), (am_ 12, .inl (cI, 48, .inl (aN s1))), (am_ 13, .inl (cI, 48, .inl (aI me_))), (am_ 14, .inl (cI, 48, .inl (aI bf_)))] → va_S A_ s_.heap H_ locs → lv_has ls_ 3 [(0, .ref (am_ 0)), (1, .int (iI ((i_ : Nat) : Int)))] → W p_ l_ e_ (headSpec wsX5_orders ({ frames := 3, cells := 0, slots := 0, locals := 65 })).room s_ m_ args below meth c_ H_ locs 0 0 Q_ (F0 m_ 7 ls_ []) := by
    intro n_
    induction n_ with
    | zero =>
      intro i_ s1 H_ locs ls_ hi_ hn_ hz
      exact False.elim (by omega)
    | succ n_ ih7 =>
      intro i_ s1 H_ locs ls_ hi_ hn_ hz hP_ hD_ hS_ hl_
      refine lv_iload_n hx_ hb_ dX5_orders_7 rfl (lv_at hl_ 1 rfl) ?_
      refine lv_aload_n hx_ hb_ dX5_orders_8 rfl (lv_at hl_ 0 rfl) ?_
      refine va_get (D := G_) (ci := 5) (v := .int (iI ((k_ : Nat) : Int))) (C := RX5) (T := TX5) (N := 19) hx_ hb_ hts hi5_ hown hK_ hP_ 0 rfl rfl 7 (by decide) hf93_ (fun _ h9 => h9) rfl dX5_orders_9 ?_
      refine q_icmp_ge (tgt := 28) hx_ hb_ dX5_orders_12 (by decide) (⟨by omega, by omega⟩) (⟨by omega, by omega⟩) (fun c12_ => ?_) (fun c12_ => ?_)
      · skip
        refine lv_iconst (v := iI ((0 : Nat) : Int)) hx_ hb_ dX5_orders_28 rfl ?_
        refine lv_istore_n (lv' := [(1, .int (iI ((0 : Nat) : Int))), (0, .ref (am_ 0))]) hx_ hb_ dX5_orders_29 rfl hl_ (by decide) rfl (fun ls_ hl_ => ?_)
        exact lp30 (k_ + 1) 0 0 cd_ s1 _ _ ls_ (by omega) (by omega) (⟨fun b_ hb_ => hz b_ (by omega), fun j_ hj_ => absurd hj_ (Nat.not_lt_zero _), rfl⟩) hP_ hD_ hS_ (lv_sub hl_ [1, 0] rfl)
      · skip
        refine lv_aload_n hx_ hb_ dX5_orders_15 rfl (lv_at hl_ 0 rfl) ?_
        refine va_get (D := G_) (ci := 5) (v := .ref (am_ 12)) (C := RX5) (T := TX5) (N := 19) hx_ hb_ hts hi5_ hown hK_ hP_ 0 rfl rfl 16 (by decide) hf44_ (fun _ h9 => h9) rfl dX5_orders_16 ?_
        refine lv_iload_n hx_ hb_ dX5_orders_19 rfl (lv_at hl_ 1 rfl) ?_
        refine lv_iconst (v := iI ((0 : Nat) : Int)) hx_ hb_ dX5_orders_20 rfl ?_
        refine q_istN hx_ hb_ hK_ hP_ hD_ hS_ 12 rfl (by decide) (i_) (by omega) (0) dX5_orders_21 (ws' := [(am_ 0, .inr (5, [.int (iI ((no_ : Nat) : Int)), .ref (am_ 1), .ref (am_ 2), .int (iI ((nn_ : Nat) : Int)), .ref (am_ 3), .ref (am_ 4), .int (iI (bZ bu_)), .int (iI ((k_ : Nat) : Int)), .ref (am_ 5), .ref (am_ 6), .ref (am_ 7), .ref (am_ 8), .ref (am_ 9), .ref (am_ 10), .int (iI ((0 : Nat) : Int)), .ref (am_ 11), .ref (am_ 12), .ref (am_ 13), .ref (am_ 14)])), (am_ 1, .inl (cI, 48, .inl (aI vo_))), (am_ 2, .inl (cZ, 48, .inl (aB fo_))), (am_ 3, .inl (cI, 48, .inl (aI vn_))), (am_ 4, .inl (cZ, 48, .inl (aB fn_))), (am_ 5, .inl (cI, 48, .inl (aN osr))), (am_ 6, .inl (cI, 48, .inl (aN nsr))), (am_ 7, .inl (cI, 48, .inl (aN lnr))), (am_ 8, .inl (cI, 48, .inl (aI ba_))), (am_ 9, .inl (cZ, 48, .inl (aB tk_))), (am_ 10, .inl (cI, 2401, .inl (aN rt_))), (am_ 11, .inl (cI, 48, .inl (aN cd_))), (am_ 12, .inl (cI, 48, .inl (aN (va_up s1 i_ 0)))), (am_ 13, .inl (cI, 48, .inl (aI me_))), (am_ 14, .inl (cI, 48, .inl (aI bf_)))]) rfl (fun H_ locs hP_ hD_ hS_ => ?_)
        refine q_iinc (k := 1) ((i_ + 1 : Nat) : Int) hx_ hb_ dX5_orders_22 hl_ rfl (rfl) (by decide) (lv' := [(1, .int (iI ((i_ + 1 : Nat) : Int))), (0, .ref (am_ 0))]) rfl (fun ls_ hl_ => ?_)
        refine lv_goto (tgt := 7) hx_ hb_ dX5_orders_25 (by decide) ?_
        exact ih7 (i_ + 1) (va_up s1 i_ 0) _ _ ls_ (by omega) (by omega) (lt_s (fun j_ hj_ => by rw [up_ne (by omega)]; exact hz j_ hj_) up_eq) hP_ hD_ hS_ (lv_sub hl_ [1, 0] rfl)
  rw [show entryFrame m_ args 3 = entryFrame m_ ([.ref (am_ 0)] : List Value).toArray 3 from by rw [hargs], lg_entry_eq]
  have hl_ := lv_entry ([.ref (am_ 0)]) (n := 3) (Nat.le_of_ble_eq_true rfl)
  generalize (lg_sl ([.ref (am_ 0)]) ++ List.replicate (3 - (lg_sl ([.ref (am_ 0)])).length) Slot.unset).toArray = ls_ at hl_ ⊢
  have hl_ : lv_has ls_ 3 [(0, .ref (am_ 0))] := hl_
  refine lv_aload_n hx_ hb_ dX5_orders_0 rfl (lv_at hl_ 0 rfl) ?_
  refine lv_iconst (v := iI ((0 : Nat) : Int)) hx_ hb_ dX5_orders_1 rfl ?_
  refine va_put (D := G_) (ci := 5) (v := .int (iI ((0 : Nat) : Int))) (ty := .int) (C := RX5) (T := TX5) (N := 19) hx_ hb_ hts hi5_ tyX5 tyX5_ok nmX5 hown hK_ hP_ hD_ hS_ 0 rfl rfl 14 (by decide) hf125_ (fun _ h9 => h9) rfl (by decide +kernel) rfl rfl (Nat.le_of_ble_eq_true rfl) dX5_orders_2 (fun H_ locs hP_ hD_ hS_ => ?_)
  have hP_ : va_P G_ vwCl [(am_ 0, .inr (5, [.int (iI ((no_ : Nat) : Int)), .ref (am_ 1), .ref (am_ 2), .int (iI ((nn_ : Nat) : Int)), .ref (am_ 3), .ref (am_ 4), .int (iI (bZ bu_)), .int (iI ((k_ : Nat) : Int)), .ref (am_ 5), .ref (am_ 6), .ref (am_ 7), .ref (am_ 8), .ref (am_ 9), .ref (am_ 10), .int (iI ((0 : Nat) : Int)), .ref (am_ 11), .ref (am_ 12), .ref (am_ 13), .ref (am_ 14)])), (am_ 1, .inl (cI, 48, .inl (aI vo_))), (am_ 2, .inl (cZ, 48, .inl (aB fo_))), (am_ 3, .inl (cI, 48, .inl (aI vn_))), (am_ 4, .inl (cZ, 48, .inl (aB fn_))), (am_ 5, .inl (cI, 48, .inl (aN osr))), (am_ 6, .inl (cI, 48, .inl (aN nsr))), (am_ 7, .inl (cI, 48, .inl (aN lnr))), (am_ 8, .inl (cI, 48, .inl (aI ba_))), (am_ 9, .inl (cZ, 48, .inl (aB tk_))), (am_ 10, .inl (cI, 2401, .inl (aN rt_))), (am_ 11, .inl (cI, 48, .inl (aN cd_))), (am_ 12, .inl (cI, 48, .inl (aN so_))), (am_ 13, .inl (cI, 48, .inl (aI me_))), (am_ 14, .inl (cI, 48, .inl (aI bf_)))] H_ := hP_
  have hD_ : va_D A_ [(am_ 0, .inr (5, [.int (iI ((no_ : Nat) : Int)), .ref (am_ 1), .ref (am_ 2), .int (iI ((nn_ : Nat) : Int)), .ref (am_ 3), .ref (am_ 4), .int (iI (bZ bu_)), .int (iI ((k_ : Nat) : Int)), .ref (am_ 5), .ref (am_ 6), .ref (am_ 7), .ref (am_ 8), .ref (am_ 9), .ref (am_ 10), .int (iI ((0 : Nat) : Int)), .ref (am_ 11), .ref (am_ 12), .ref (am_ 13), .ref (am_ 14)])), (am_ 1, .inl (cI, 48, .inl (aI vo_))), (am_ 2, .inl (cZ, 48, .inl (aB fo_))), (am_ 3, .inl (cI, 48, .inl (aI vn_))), (am_ 4, .inl (cZ, 48, .inl (aB fn_))), (am_ 5, .inl (cI, 48, .inl (aN osr))), (am_ 6, .inl (cI, 48, .inl (aN nsr))), (am_ 7, .inl (cI, 48, .inl (aN lnr))), (am_ 8, .inl (cI, 48, .inl (aI ba_))), (am_ 9, .inl (cZ, 48, .inl (aB tk_))), (am_ 10, .inl (cI, 2401, .inl (aN rt_))), (am_ 11, .inl (cI, 48, .inl (aN cd_))), (am_ 12, .inl (cI, 48, .inl (aN so_))), (am_ 13, .inl (cI, 48, .inl (aI me_))), (am_ 14, .inl (cI, 48, .inl (aI bf_)))] := hD_
  refine lv_iconst (v := iI ((0 : Nat) : Int)) hx_ hb_ dX5_orders_5 rfl ?_
  refine lv_istore_n (lv' := [(1, .int (iI ((0 : Nat) : Int))), (0, .ref (am_ 0))]) hx_ hb_ dX5_orders_6 rfl hl_ (by decide) rfl (fun ls_ hl_ => ?_)
  exact lp7 (k_ + 1) 0 so_ _ _ ls_ (by omega) (by omega) (fun j_ hj_ => absurd hj_ (Nat.not_lt_zero _)) hP_ hD_ hS_ (lv_sub hl_ [1, 0] rfl)

set_option maxHeartbeats 4000000 in
set_option maxRecDepth 100000 in
/-- build -/
theorem c_X5_build (l_ : Launch) (G_ : va_G) (cI cZ : ClassId) (am_ : Nat → Nat) (bu_ : Bool) (no_ : Nat) (vo_ : Nat → Int) (fo_ : Nat → Bool) (nn_ : Nat) (vn_ : Nat → Int) (fn_ : Nat → Bool) (kr : Nat) (osr nsr lnr : Nat → Nat) (ba_ : Nat → Int) (tk_ : Nat → Bool) (rt_ : Nat → Nat) (cp_ : Nat) (cd_ so_ : Nat → Nat) (me_ bf_ : Nat → Int) (k_ : Nat) (os_ ns_ ln_ : Nat → Nat) (x_ : Int) (hno : no_ ≤ 48) (hnn : nn_ ≤ 48) (hvo : ∀ j_, 0 ≤ vo_ j_ ∧ vo_ j_ ≤ 9999) (hvn : ∀ j_, 0 ≤ vn_ j_ ∧ vn_ j_ ≤ 9999) (hbd : (1 ≤ x_ ∧ x_ ≤ 16) → ∃ bs, Chn no_ nn_ (mtc vo_ vn_ fo_ fn_) x_.toNat bs ∧ Fnl no_ nn_ (mtc vo_ vn_ fo_ fn_) x_.toNat bs ∧ SE k_ os_ ns_ ln_ bs) (hx1 : -2147483648 ≤ x_) (hx2 : x_ < 2147483648) (sz : Nat) : WrI (S := Bool × Nat × (Nat → Nat) × (Nat → Nat) × (Nat → Nat) × (Nat → Int) × (Nat → Bool) × (Nat → Nat) × Nat × (Nat → Nat) × (Nat → Nat)) l_ yX5_build wsX5_build ({ frames := 4, cells := 0, slots := 0, locals := 87 }) G_ cI cZ [.ref (am_ 0), .int (iI (x_))] (wMd cI cZ am_ bu_ no_ vo_ fo_ nn_ vn_ fn_ kr osr nsr lnr ba_ tk_ rt_ cp_ cd_ so_ me_ bf_) sz (fun u_ => bdR u_.2.1 x_) (fun u_ => (¬ (1 ≤ x_ ∧ x_ ≤ 16) → u_ = (bu_, kr, osr, nsr, lnr, ba_, tk_, rt_, cp_, cd_, so_)) ∧ ((1 ≤ x_ ∧ x_ ≤ 16) → u_.1 = true ∧ k_ = u_.2.1 ∧ MdI no_ nn_ k_ os_ ns_ ln_ u_.2.2.1 u_.2.2.2.1 u_.2.2.2.2.1 u_.2.2.2.2.2.1 u_.2.2.2.2.2.2.2.2.1 u_.2.2.2.2.2.2.2.2.2.1 u_.2.2.2.2.2.2.2.2.2.2)) (fun u_ => wMd cI cZ am_ u_.1 no_ vo_ fo_ nn_ vn_ fn_ u_.2.1 u_.2.2.1 u_.2.2.2.1 u_.2.2.2.2.1 u_.2.2.2.2.2.1 u_.2.2.2.2.2.2.1 u_.2.2.2.2.2.2.2.1 u_.2.2.2.2.2.2.2.2.1 u_.2.2.2.2.2.2.2.2.2.1 u_.2.2.2.2.2.2.2.2.2.2 me_ bf_) := by
  refine Met.ofW (cc := cX5_build) (maxL := 3) (ret := (some .int)) (by decide) rfl ?_
  intro p_ e_ s_ m_ args below meth c_ s₁ B hml hv
  obtain ⟨hargs, hsz, hP_, hK_, hD0⟩ := hv
  have hx_ := B.exec
  have hb_ := B.bytes
  have hr := B.returns
  have hts := atoms_spec (ws := wsX5_build) B.pre
  have hown : s_.vm.findClass RX5 = some m_.cls := findClass_of_methodNamed B.named
  have hlocks := B.notSynchronized
  have hi5_ : ∀ w_ ∈ wsX50, w_ ∈ wsX5_build := by decide +kernel
  have hf32_ := hts (.fieldLink RX5 32 "RelocatingPatchModel" "blockAt" "[I") (by decide +kernel)
  have hf35_ := hts (.fieldLink RX5 35 "RelocatingPatchModel" "isTaken" "[Z") (by decide +kernel)
  have hf38_ := hts (.fieldLink RX5 38 "RelocatingPatchModel" "run" "[I") (by decide +kernel)
  have hf53_ := hts (.fieldLink RX5 53 "RelocatingPatchModel" "isBuilt" "Z") (by decide +kernel)
  have hf93_ := hts (.fieldLink RX5 93 "RelocatingPatchModel" "blocks" "I") (by decide +kernel)
  subst hsz
  have hD_ := hD0.self (sz := s_.heap.size)
  generalize hAe : va_A (wMd cI cZ am_ bu_ no_ vo_ fo_ nn_ vn_ fn_ kr osr nsr lnr ba_ tk_ rt_ cp_ cd_ so_ me_ bf_) s_.heap.size = A_ at hD_ ⊢
  have hA_ : ∀ q_ : Nat, s_.heap.size ≤ q_ → A_ q_ := fun q_ h_ => by rw [← hAe]; exact Or.inr h_
  have hS_ : va_S A_ s_.heap s_.heap [] := va_S.rf
  have hP_ : va_P G_ vwCl [(am_ 0, .inr (5, [.int (iI ((no_ : Nat) : Int)), .ref (am_ 1), .ref (am_ 2), .int (iI ((nn_ : Nat) : Int)), .ref (am_ 3), .ref (am_ 4), .int (iI (bZ bu_)), .int (iI ((kr : Nat) : Int)), .ref (am_ 5), .ref (am_ 6), .ref (am_ 7), .ref (am_ 8), .ref (am_ 9), .ref (am_ 10), .int (iI ((cp_ : Nat) : Int)), .ref (am_ 11), .ref (am_ 12), .ref (am_ 13), .ref (am_ 14)])), (am_ 1, .inl (cI, 48, .inl (aI vo_))), (am_ 2, .inl (cZ, 48, .inl (aB fo_))), (am_ 3, .inl (cI, 48, .inl (aI vn_))), (am_ 4, .inl (cZ, 48, .inl (aB fn_))), (am_ 5, .inl (cI, 48, .inl (aN osr))), (am_ 6, .inl (cI, 48, .inl (aN nsr))), (am_ 7, .inl (cI, 48, .inl (aN lnr))), (am_ 8, .inl (cI, 48, .inl (aI ba_))), (am_ 9, .inl (cZ, 48, .inl (aB tk_))), (am_ 10, .inl (cI, 2401, .inl (aN rt_))), (am_ 11, .inl (cI, 48, .inl (aN cd_))), (am_ 12, .inl (cI, 48, .inl (aN so_))), (am_ 13, .inl (cI, 48, .inl (aI me_))), (am_ 14, .inl (cI, 48, .inl (aI bf_)))] s_.heap := hP_
  have hD_ : va_D A_ [(am_ 0, .inr (5, [.int (iI ((no_ : Nat) : Int)), .ref (am_ 1), .ref (am_ 2), .int (iI ((nn_ : Nat) : Int)), .ref (am_ 3), .ref (am_ 4), .int (iI (bZ bu_)), .int (iI ((kr : Nat) : Int)), .ref (am_ 5), .ref (am_ 6), .ref (am_ 7), .ref (am_ 8), .ref (am_ 9), .ref (am_ 10), .int (iI ((cp_ : Nat) : Int)), .ref (am_ 11), .ref (am_ 12), .ref (am_ 13), .ref (am_ 14)])), (am_ 1, .inl (cI, 48, .inl (aI vo_))), (am_ 2, .inl (cZ, 48, .inl (aB fo_))), (am_ 3, .inl (cI, 48, .inl (aI vn_))), (am_ 4, .inl (cZ, 48, .inl (aB fn_))), (am_ 5, .inl (cI, 48, .inl (aN osr))), (am_ 6, .inl (cI, 48, .inl (aN nsr))), (am_ 7, .inl (cI, 48, .inl (aN lnr))), (am_ 8, .inl (cI, 48, .inl (aI ba_))), (am_ 9, .inl (cZ, 48, .inl (aB tk_))), (am_ 10, .inl (cI, 2401, .inl (aN rt_))), (am_ 11, .inl (cI, 48, .inl (aN cd_))), (am_ 12, .inl (cI, 48, .inl (aN so_))), (am_ 13, .inl (cI, 48, .inl (aI me_))), (am_ 14, .inl (cI, 48, .inl (aI bf_)))] := hD_
  generalize hQe : MQ below (va_Qi (S := Bool × Nat × (Nat → Nat) × (Nat → Nat) × (Nat → Nat) × (Nat → Int) × (Nat → Bool) × (Nat → Nat) × Nat × (Nat → Nat) × (Nat → Nat)) (fun r1_ u1 => r1_ = iI ((fun u_ => bdR u_.2.1 x_) u1) ∧ (fun u_ => (¬ (1 ≤ x_ ∧ x_ ≤ 16) → u_ = (bu_, kr, osr, nsr, lnr, ba_, tk_, rt_, cp_, cd_, so_)) ∧ ((1 ≤ x_ ∧ x_ ≤ 16) → u_.1 = true ∧ k_ = u_.2.1 ∧ MdI no_ nn_ k_ os_ ns_ ln_ u_.2.2.1 u_.2.2.2.1 u_.2.2.2.2.1 u_.2.2.2.2.2.1 u_.2.2.2.2.2.2.2.2.1 u_.2.2.2.2.2.2.2.2.2.1 u_.2.2.2.2.2.2.2.2.2.2)) u1) (fun u1 t1 => va_P G_ vwCl ((fun u_ => wMd cI cZ am_ u_.1 no_ vo_ fo_ nn_ vn_ fn_ u_.2.1 u_.2.2.1 u_.2.2.2.1 u_.2.2.2.2.1 u_.2.2.2.2.2.1 u_.2.2.2.2.2.2.1 u_.2.2.2.2.2.2.2.1 u_.2.2.2.2.2.2.2.2.1 u_.2.2.2.2.2.2.2.2.2.1 u_.2.2.2.2.2.2.2.2.2.2 me_ bf_) u1) t1.heap) A_) args s_ 0 0 A_ = Q_
  have lp49 : ∀ (n_ : Nat) (bs : List bT) (b1_ : Nat → Int) (t1 : Nat → Bool) (r1_ : Nat → Nat) (bl_ : Nat) (bn_ : Nat) (bo_ : Nat) (H_ : Heap) (locs : List Loc) (ls_ : Array Slot), (1 ≤ x_) → (x_ ≤ 16) → (50 ≤ bs.length + n_) → (Chn no_ nn_ (mtc vo_ vn_ fo_ fn_) x_.toNat bs) → (∀ j_, j_ < 48 → b1_ j_ = plc bs j_ ∧ t1 j_ = tO bs j_) → (PB no_ nn_ (MM no_ nn_ (mtc vo_ vn_ fo_ fn_) bs) RT bl_ bn_ bo_) → (r1_ (49 * bn_ + bo_) = bl_) → va_P G_ vwCl [(am_ 0, .inr (5, [.int (iI ((no_ : Nat) : Int)), .ref (am_ 1), .ref (am_ 2), .int (iI ((nn_ : Nat) : Int)), .ref (am_ 3), .ref (am_ 4), .int (iI (bZ bu_)), .int (iI ((kr : Nat) : Int)), .ref (am_ 5), .ref (am_ 6), .ref (am_ 7), .ref (am_ 8), .ref (am_ 9), .ref (am_ 10), .int (iI ((cp_ : Nat) : Int)), .ref (am_ 11), .ref (am_ 12), .ref (am_ 13), .ref (am_ 14)])), (am_ 1, .inl (cI, 48, .inl (aI vo_))), (am_ 2, .inl (cZ, 48, .inl (aB fo_))), (am_ 3, .inl (cI, 48, .inl (aI vn_))), (am_ 4, .inl (cZ, 48, .inl (aB fn_))), (am_ 5, .inl (cI, 48, .inl (aN osr))), (am_ 6, .inl (cI, 48, .inl (aN nsr))), (am_ 7, .inl (cI, 48, .inl (aN lnr))), (am_ 8, .inl (cI, 48, .inl (aI b1_))), (am_ 9, .inl (cZ, 48, .inl (aB t1))), (am_ 10, .inl (cI, 2401, .inl (aN r1_))), (am_ 11, .inl (cI, 48, .inl (aN cd_))), (am_ 12, .inl (cI, 48, .inl (aN so_))), (am_ 13, .inl (cI, 48, .inl (aI me_))), (am_ 14, .inl (cI, 48, .inl (aI bf_)))] H_ → va_D A_ [(am_ 0, .inr (5, [.int (iI ((no_ : Nat) : Int)), .ref (am_ 1), .ref (am_ 2), .int (iI ((nn_ : Nat) : Int)), .ref (am_ 3), .ref (am_ 4), .int (iI (bZ bu_)), .int (iI ((kr : Nat) : Int)), .ref (am_ 5), .ref (am_ 6), .ref (am_ 7), .ref (am_ 8), .ref (am_ 9), .ref (am_ 10), .int (iI ((cp_ : Nat) : Int)), .ref (am_ 11), .ref (am_ 12), .ref (am_ 13), .ref (am_ 14)])), (am_ 1, .inl (cI, 48, .inl (aI vo_))), (am_ 2, .inl (cZ, 48, .inl (aB fo_))), (am_ 3, .inl (cI, 48, .inl (aI vn_))), (am_ 4, .inl (cZ, 48, .inl (aB fn_))), (am_ 5, .inl (cI, 48, .inl (aN osr))), (am_ 6, .inl (cI, 48, .inl (aN nsr))), (am_ 7, .inl (cI, 48, .inl (aN lnr))), (am_ 8, .inl (cI, 48, .inl (aI b1_))), (am_ 9, .inl (cZ, 48, .inl (aB t1))), (am_ 10, .inl (cI, 2401, .inl (aN r1_))), (am_ 11, .inl (cI, 48, .inl (aN cd_))), (am_ 12, .inl (cI, 48, .inl (aN so_))), (am_ 13, .inl (cI, 48, .inl (aI me_))), (am_ 14, .inl (cI, 48, .inl (aI bf_)))] → va_S A_ s_.heap H_ locs → lv_has ls_ 3 [(0, .ref (am_ 0)), (1, .int (iI (x_))), (2, .int (iI ((49 * bn_ + bo_ : Nat) : Int)))] → W p_ l_ e_ (headSpec wsX5_build ({ frames := 4, cells := 0, slots := 0, locals := 87 })).room s_ m_ args below meth c_ H_ locs 0 0 Q_ (F0 m_ 49 ls_ []) := by
    intro n_
    induction n_ with
    | zero =>
      intro bs b1_ t1 r1_ bl_ bn_ bo_ H_ locs ls_ hx3 hx4 hn_ hch hag0 hpb hrt
      exact False.elim (by have h0_ := Chn_len (show 1 ≤ x_.toNat by omega) hch; have h1_ := cnt_le (tN bs) nn_; omega)
    | succ n_ ih49 =>
      intro bs b1_ t1 r1_ bl_ bn_ bo_ H_ locs ls_ hx3 hx4 hn_ hch hag0 hpb hrt hP_ hD_ hS_ hl_
      have hle := PB_le hpb
      have hge := Chn_geo (show 1 ≤ x_.toNat by omega) hch
      refine lv_aload_n hx_ hb_ dX5_build_49 rfl (lv_at hl_ 0 rfl) ?_
      refine va_get (D := G_) (ci := 5) (v := .ref (am_ 10)) (C := RX5) (T := TX5) (N := 19) hx_ hb_ hts hi5_ hown hK_ hP_ 0 rfl rfl 13 (by decide) hf38_ (fun _ h9 => h9) rfl dX5_build_50 ?_
      refine lv_iload_n hx_ hb_ dX5_build_53 rfl (lv_at hl_ 2 rfl) ?_
      refine q_ildN hx_ hb_ hK_ hP_ 10 rfl (by decide) (49 * bn_ + bo_) (by omega) (bl_) (hrt) dX5_build_54 ?_
      refine lv_iload_n hx_ hb_ dX5_build_55 rfl (lv_at hl_ 1 rfl) ?_
      refine q_icmp_lt (tgt := 72) hx_ hb_ dX5_build_56 (by decide) (⟨by omega, by omega⟩) (⟨by omega, by omega⟩) (fun c56_ => ?_) (fun c56_ => ?_)
      · skip
        have hfn : Fnl no_ nn_ (mtc vo_ vn_ fo_ fn_) x_.toNat bs := ⟨(bl_, bn_, bo_), hpb, by show bl_ < x_.toNat; omega⟩
        have hpl : ∀ w_, w_ < nn_ → b1_ w_ = plc bs w_ := fun w_ hw_ => (hag0 w_ (by omega)).1
        refine lv_aload_n hx_ hb_ dX5_build_72 rfl (lv_at hl_ 0 rfl) ?_
        refine wr_V (As := []) (rest := []) (wr := []) (wn := fun u_ => [(am_ 0, .inr (5, [.int (iI ((no_ : Nat) : Int)), .ref (am_ 1), .ref (am_ 2), .int (iI ((nn_ : Nat) : Int)), .ref (am_ 3), .ref (am_ 4), .int (iI (bZ bu_)), .int (iI ((u_.1 : Nat) : Int)), .ref (am_ 5), .ref (am_ 6), .ref (am_ 7), .ref (am_ 8), .ref (am_ 9), .ref (am_ 10), .int (iI ((cp_ : Nat) : Int)), .ref (am_ 11), .ref (am_ 12), .ref (am_ 13), .ref (am_ 14)])), (am_ 1, .inl (cI, 48, .inl (aI vo_))), (am_ 2, .inl (cZ, 48, .inl (aB fo_))), (am_ 3, .inl (cI, 48, .inl (aI vn_))), (am_ 4, .inl (cZ, 48, .inl (aB fn_))), (am_ 5, .inl (cI, 48, .inl (aN u_.2.1))), (am_ 6, .inl (cI, 48, .inl (aN u_.2.2.1))), (am_ 7, .inl (cI, 48, .inl (aN u_.2.2.2.1))), (am_ 8, .inl (cI, 48, .inl (aI u_.2.2.2.2))), (am_ 9, .inl (cZ, 48, .inl (aB t1))), (am_ 10, .inl (cI, 2401, .inl (aN r1_))), (am_ 11, .inl (cI, 48, .inl (aN cd_))), (am_ 12, .inl (cI, 48, .inl (aN so_))), (am_ 13, .inl (cI, 48, .inl (aI me_))), (am_ 14, .inl (cI, 48, .inl (aI bf_)))]) ⟨hx_, hb_, hml, hown, hts⟩ (c_X5_numbers l_ G_ cI cZ am_ bu_ no_ vo_ fo_ nn_ vn_ fn_ kr osr nsr lnr b1_ t1 r1_ cp_ cd_ so_ me_ bf_ bs hno hnn (hge) (hpl) H_.size) (cwV 0 hts gX5_build_X5_numbers rfl rfl rfl (by decide +kernel) ⟨Nat.le_of_ble_eq_true rfl, Nat.le_of_ble_eq_true rfl⟩) hP_ hK_ hD_ hS_ hA_ [0, 1, 2, 3, 4, 5, 6, 7, 8, 9, 10, 11, 12, 13, 14] [] [0, 1, 2, 3, 4, 5, 6, 7, 8, 9, 10, 11, 12, 13, 14] rfl rfl (by decide) (fun _ => rfl) (fun _ => rfl) 0 rfl rfl rfl hl_.1 rfl (Nat.le_of_ble_eq_true rfl) dX5_build_73 ⟨Nat.zero_le _, Nat.zero_le _⟩ (fun u_ H_ locs hu73 hP_ hD_ hS_ => ?_)
        obtain ⟨k_73, osr_73, nsr_73, lnr_73, ba_73⟩ := u_
        try dsimp only at hu73
        have hP_ : va_P G_ vwCl [(am_ 0, .inr (5, [.int (iI ((no_ : Nat) : Int)), .ref (am_ 1), .ref (am_ 2), .int (iI ((nn_ : Nat) : Int)), .ref (am_ 3), .ref (am_ 4), .int (iI (bZ bu_)), .int (iI ((k_73 : Nat) : Int)), .ref (am_ 5), .ref (am_ 6), .ref (am_ 7), .ref (am_ 8), .ref (am_ 9), .ref (am_ 10), .int (iI ((cp_ : Nat) : Int)), .ref (am_ 11), .ref (am_ 12), .ref (am_ 13), .ref (am_ 14)])), (am_ 1, .inl (cI, 48, .inl (aI vo_))), (am_ 2, .inl (cZ, 48, .inl (aB fo_))), (am_ 3, .inl (cI, 48, .inl (aI vn_))), (am_ 4, .inl (cZ, 48, .inl (aB fn_))), (am_ 5, .inl (cI, 48, .inl (aN osr_73))), (am_ 6, .inl (cI, 48, .inl (aN nsr_73))), (am_ 7, .inl (cI, 48, .inl (aN lnr_73))), (am_ 8, .inl (cI, 48, .inl (aI ba_73))), (am_ 9, .inl (cZ, 48, .inl (aB t1))), (am_ 10, .inl (cI, 2401, .inl (aN r1_))), (am_ 11, .inl (cI, 48, .inl (aN cd_))), (am_ 12, .inl (cI, 48, .inl (aN so_))), (am_ 13, .inl (cI, 48, .inl (aI me_))), (am_ 14, .inl (cI, 48, .inl (aI bf_)))] H_ := hP_
        have hD_ : va_D A_ [(am_ 0, .inr (5, [.int (iI ((no_ : Nat) : Int)), .ref (am_ 1), .ref (am_ 2), .int (iI ((nn_ : Nat) : Int)), .ref (am_ 3), .ref (am_ 4), .int (iI (bZ bu_)), .int (iI ((k_73 : Nat) : Int)), .ref (am_ 5), .ref (am_ 6), .ref (am_ 7), .ref (am_ 8), .ref (am_ 9), .ref (am_ 10), .int (iI ((cp_ : Nat) : Int)), .ref (am_ 11), .ref (am_ 12), .ref (am_ 13), .ref (am_ 14)])), (am_ 1, .inl (cI, 48, .inl (aI vo_))), (am_ 2, .inl (cZ, 48, .inl (aB fo_))), (am_ 3, .inl (cI, 48, .inl (aI vn_))), (am_ 4, .inl (cZ, 48, .inl (aB fn_))), (am_ 5, .inl (cI, 48, .inl (aN osr_73))), (am_ 6, .inl (cI, 48, .inl (aN nsr_73))), (am_ 7, .inl (cI, 48, .inl (aN lnr_73))), (am_ 8, .inl (cI, 48, .inl (aI ba_73))), (am_ 9, .inl (cZ, 48, .inl (aB t1))), (am_ 10, .inl (cI, 2401, .inl (aN r1_))), (am_ 11, .inl (cI, 48, .inl (aN cd_))), (am_ 12, .inl (cI, 48, .inl (aN so_))), (am_ 13, .inl (cI, 48, .inl (aI me_))), (am_ 14, .inl (cI, 48, .inl (aI bf_)))] := hD_
        obtain ⟨bs9, hc9, hf9_, hse9⟩ := hbd ⟨hx3, hx4⟩
        have ebs : bs9 = bs := Chn_uniq hc9 hch hf9_ hfn
        rw [ebs] at hse9
        have hse := hse9
        obtain ⟨ek, ha_⟩ := SE_uniq hge hse hu73.2.1
        have hk_ : k_ ≤ 48 := by rw [ek]; exact hu73.1
        have hB_ := SE_B48 hge hse hno hnn
        subst ek
        have hu73 : k_ ≤ 48 ∧ SE k_ osr_73 nsr_73 lnr_73 bs ∧ ∀ x_, x_ < nn_ → ba_73 x_ = wI (bx k_ ns_ ln_ x_) k_ (-10005) := ⟨hu73.1, hu73.2.1, fun x_ hx_ => by rw [hu73.2.2 x_ hx_, bx_congr ha_]⟩
        have hP_ : va_P G_ vwCl [(am_ 0, .inr (5, [.int (iI ((no_ : Nat) : Int)), .ref (am_ 1), .ref (am_ 2), .int (iI ((nn_ : Nat) : Int)), .ref (am_ 3), .ref (am_ 4), .int (iI (bZ bu_)), .int (iI ((k_ : Nat) : Int)), .ref (am_ 5), .ref (am_ 6), .ref (am_ 7), .ref (am_ 8), .ref (am_ 9), .ref (am_ 10), .int (iI ((cp_ : Nat) : Int)), .ref (am_ 11), .ref (am_ 12), .ref (am_ 13), .ref (am_ 14)])), (am_ 1, .inl (cI, 48, .inl (aI vo_))), (am_ 2, .inl (cZ, 48, .inl (aB fo_))), (am_ 3, .inl (cI, 48, .inl (aI vn_))), (am_ 4, .inl (cZ, 48, .inl (aB fn_))), (am_ 5, .inl (cI, 48, .inl (aN osr_73))), (am_ 6, .inl (cI, 48, .inl (aN nsr_73))), (am_ 7, .inl (cI, 48, .inl (aN lnr_73))), (am_ 8, .inl (cI, 48, .inl (aI ba_73))), (am_ 9, .inl (cZ, 48, .inl (aB t1))), (am_ 10, .inl (cI, 2401, .inl (aN r1_))), (am_ 11, .inl (cI, 48, .inl (aN cd_))), (am_ 12, .inl (cI, 48, .inl (aN so_))), (am_ 13, .inl (cI, 48, .inl (aI me_))), (am_ 14, .inl (cI, 48, .inl (aI bf_)))] H_ := hP_
        have hD_ : va_D A_ [(am_ 0, .inr (5, [.int (iI ((no_ : Nat) : Int)), .ref (am_ 1), .ref (am_ 2), .int (iI ((nn_ : Nat) : Int)), .ref (am_ 3), .ref (am_ 4), .int (iI (bZ bu_)), .int (iI ((k_ : Nat) : Int)), .ref (am_ 5), .ref (am_ 6), .ref (am_ 7), .ref (am_ 8), .ref (am_ 9), .ref (am_ 10), .int (iI ((cp_ : Nat) : Int)), .ref (am_ 11), .ref (am_ 12), .ref (am_ 13), .ref (am_ 14)])), (am_ 1, .inl (cI, 48, .inl (aI vo_))), (am_ 2, .inl (cZ, 48, .inl (aB fo_))), (am_ 3, .inl (cI, 48, .inl (aI vn_))), (am_ 4, .inl (cZ, 48, .inl (aB fn_))), (am_ 5, .inl (cI, 48, .inl (aN osr_73))), (am_ 6, .inl (cI, 48, .inl (aN nsr_73))), (am_ 7, .inl (cI, 48, .inl (aN lnr_73))), (am_ 8, .inl (cI, 48, .inl (aI ba_73))), (am_ 9, .inl (cZ, 48, .inl (aB t1))), (am_ 10, .inl (cI, 2401, .inl (aN r1_))), (am_ 11, .inl (cI, 48, .inl (aN cd_))), (am_ 12, .inl (cI, 48, .inl (aN so_))), (am_ 13, .inl (cI, 48, .inl (aI me_))), (am_ 14, .inl (cI, 48, .inl (aI bf_)))] := hD_
        refine lv_aload_n hx_ hb_ dX5_build_76 rfl (lv_at hl_ 0 rfl) ?_
        refine wr_V (As := []) (rest := []) (wr := []) (wn := fun u_ => [(am_ 0, .inr (5, [.int (iI ((no_ : Nat) : Int)), .ref (am_ 1), .ref (am_ 2), .int (iI ((nn_ : Nat) : Int)), .ref (am_ 3), .ref (am_ 4), .int (iI (bZ bu_)), .int (iI ((k_ : Nat) : Int)), .ref (am_ 5), .ref (am_ 6), .ref (am_ 7), .ref (am_ 8), .ref (am_ 9), .ref (am_ 10), .int (iI ((u_.1 : Nat) : Int)), .ref (am_ 11), .ref (am_ 12), .ref (am_ 13), .ref (am_ 14)])), (am_ 1, .inl (cI, 48, .inl (aI vo_))), (am_ 2, .inl (cZ, 48, .inl (aB fo_))), (am_ 3, .inl (cI, 48, .inl (aI vn_))), (am_ 4, .inl (cZ, 48, .inl (aB fn_))), (am_ 5, .inl (cI, 48, .inl (aN osr_73))), (am_ 6, .inl (cI, 48, .inl (aN nsr_73))), (am_ 7, .inl (cI, 48, .inl (aN lnr_73))), (am_ 8, .inl (cI, 48, .inl (aI ba_73))), (am_ 9, .inl (cZ, 48, .inl (aB t1))), (am_ 10, .inl (cI, 2401, .inl (aN r1_))), (am_ 11, .inl (cI, 48, .inl (aN u_.2.1))), (am_ 12, .inl (cI, 48, .inl (aN u_.2.2))), (am_ 13, .inl (cI, 48, .inl (aI me_))), (am_ 14, .inl (cI, 48, .inl (aI bf_)))]) ⟨hx_, hb_, hml, hown, hts⟩ (c_X5_orders l_ G_ cI cZ am_ bu_ no_ vo_ fo_ nn_ vn_ fn_ k_ osr_73 nsr_73 lnr_73 ba_73 t1 r1_ cp_ cd_ so_ me_ bf_ os_ ns_ ln_ hk_ hB_ ha_ H_.size) (cwV 0 hts gX5_build_X5_orders rfl rfl rfl (by decide +kernel) ⟨Nat.le_of_ble_eq_true rfl, Nat.le_of_ble_eq_true rfl⟩) hP_ hK_ hD_ hS_ hA_ [0, 1, 2, 3, 4, 5, 6, 7, 8, 9, 10, 11, 12, 13, 14] [] [0, 1, 2, 3, 4, 5, 6, 7, 8, 9, 10, 11, 12, 13, 14] rfl rfl (by decide) (fun _ => rfl) (fun _ => rfl) 0 rfl rfl rfl hl_.1 rfl (Nat.le_of_ble_eq_true rfl) dX5_build_77 ⟨Nat.zero_le _, Nat.zero_le _⟩ (fun u_ H_ locs hu77 hP_ hD_ hS_ => ?_)
        obtain ⟨cp_77, cd_77, so_77⟩ := u_
        try dsimp only at hu77
        have hP_ : va_P G_ vwCl [(am_ 0, .inr (5, [.int (iI ((no_ : Nat) : Int)), .ref (am_ 1), .ref (am_ 2), .int (iI ((nn_ : Nat) : Int)), .ref (am_ 3), .ref (am_ 4), .int (iI (bZ bu_)), .int (iI ((k_ : Nat) : Int)), .ref (am_ 5), .ref (am_ 6), .ref (am_ 7), .ref (am_ 8), .ref (am_ 9), .ref (am_ 10), .int (iI ((cp_77 : Nat) : Int)), .ref (am_ 11), .ref (am_ 12), .ref (am_ 13), .ref (am_ 14)])), (am_ 1, .inl (cI, 48, .inl (aI vo_))), (am_ 2, .inl (cZ, 48, .inl (aB fo_))), (am_ 3, .inl (cI, 48, .inl (aI vn_))), (am_ 4, .inl (cZ, 48, .inl (aB fn_))), (am_ 5, .inl (cI, 48, .inl (aN osr_73))), (am_ 6, .inl (cI, 48, .inl (aN nsr_73))), (am_ 7, .inl (cI, 48, .inl (aN lnr_73))), (am_ 8, .inl (cI, 48, .inl (aI ba_73))), (am_ 9, .inl (cZ, 48, .inl (aB t1))), (am_ 10, .inl (cI, 2401, .inl (aN r1_))), (am_ 11, .inl (cI, 48, .inl (aN cd_77))), (am_ 12, .inl (cI, 48, .inl (aN so_77))), (am_ 13, .inl (cI, 48, .inl (aI me_))), (am_ 14, .inl (cI, 48, .inl (aI bf_)))] H_ := hP_
        have hD_ : va_D A_ [(am_ 0, .inr (5, [.int (iI ((no_ : Nat) : Int)), .ref (am_ 1), .ref (am_ 2), .int (iI ((nn_ : Nat) : Int)), .ref (am_ 3), .ref (am_ 4), .int (iI (bZ bu_)), .int (iI ((k_ : Nat) : Int)), .ref (am_ 5), .ref (am_ 6), .ref (am_ 7), .ref (am_ 8), .ref (am_ 9), .ref (am_ 10), .int (iI ((cp_77 : Nat) : Int)), .ref (am_ 11), .ref (am_ 12), .ref (am_ 13), .ref (am_ 14)])), (am_ 1, .inl (cI, 48, .inl (aI vo_))), (am_ 2, .inl (cZ, 48, .inl (aB fo_))), (am_ 3, .inl (cI, 48, .inl (aI vn_))), (am_ 4, .inl (cZ, 48, .inl (aB fn_))), (am_ 5, .inl (cI, 48, .inl (aN osr_73))), (am_ 6, .inl (cI, 48, .inl (aN nsr_73))), (am_ 7, .inl (cI, 48, .inl (aN lnr_73))), (am_ 8, .inl (cI, 48, .inl (aI ba_73))), (am_ 9, .inl (cZ, 48, .inl (aB t1))), (am_ 10, .inl (cI, 2401, .inl (aN r1_))), (am_ 11, .inl (cI, 48, .inl (aN cd_77))), (am_ 12, .inl (cI, 48, .inl (aN so_77))), (am_ 13, .inl (cI, 48, .inl (aI me_))), (am_ 14, .inl (cI, 48, .inl (aI bf_)))] := hD_
        refine lv_aload_n hx_ hb_ dX5_build_80 rfl (lv_at hl_ 0 rfl) ?_
        refine lv_iconst (v := iI ((1 : Nat) : Int)) hx_ hb_ dX5_build_81 rfl ?_
        refine q_cast (b := bZ true) rfl ?_
        refine va_put (D := G_) (ci := 5) (v := .int (iI (bZ true))) (ty := .boolean) (C := RX5) (T := TX5) (N := 19) hx_ hb_ hts hi5_ tyX5 tyX5_ok nmX5 hown hK_ hP_ hD_ hS_ 0 rfl rfl 6 (by decide) hf53_ (fun _ h9 => h9) rfl (by decide +kernel) (nar_bZ _) (fit_bZ _) (Nat.le_of_ble_eq_true rfl) dX5_build_82 (fun H_ locs hP_ hD_ hS_ => ?_)
        have hP_ : va_P G_ vwCl [(am_ 0, .inr (5, [.int (iI ((no_ : Nat) : Int)), .ref (am_ 1), .ref (am_ 2), .int (iI ((nn_ : Nat) : Int)), .ref (am_ 3), .ref (am_ 4), .int (iI (bZ true)), .int (iI ((k_ : Nat) : Int)), .ref (am_ 5), .ref (am_ 6), .ref (am_ 7), .ref (am_ 8), .ref (am_ 9), .ref (am_ 10), .int (iI ((cp_77 : Nat) : Int)), .ref (am_ 11), .ref (am_ 12), .ref (am_ 13), .ref (am_ 14)])), (am_ 1, .inl (cI, 48, .inl (aI vo_))), (am_ 2, .inl (cZ, 48, .inl (aB fo_))), (am_ 3, .inl (cI, 48, .inl (aI vn_))), (am_ 4, .inl (cZ, 48, .inl (aB fn_))), (am_ 5, .inl (cI, 48, .inl (aN osr_73))), (am_ 6, .inl (cI, 48, .inl (aN nsr_73))), (am_ 7, .inl (cI, 48, .inl (aN lnr_73))), (am_ 8, .inl (cI, 48, .inl (aI ba_73))), (am_ 9, .inl (cZ, 48, .inl (aB t1))), (am_ 10, .inl (cI, 2401, .inl (aN r1_))), (am_ 11, .inl (cI, 48, .inl (aN cd_77))), (am_ 12, .inl (cI, 48, .inl (aN so_77))), (am_ 13, .inl (cI, 48, .inl (aI me_))), (am_ 14, .inl (cI, 48, .inl (aI bf_)))] H_ := hP_
        have hD_ : va_D A_ [(am_ 0, .inr (5, [.int (iI ((no_ : Nat) : Int)), .ref (am_ 1), .ref (am_ 2), .int (iI ((nn_ : Nat) : Int)), .ref (am_ 3), .ref (am_ 4), .int (iI (bZ true)), .int (iI ((k_ : Nat) : Int)), .ref (am_ 5), .ref (am_ 6), .ref (am_ 7), .ref (am_ 8), .ref (am_ 9), .ref (am_ 10), .int (iI ((cp_77 : Nat) : Int)), .ref (am_ 11), .ref (am_ 12), .ref (am_ 13), .ref (am_ 14)])), (am_ 1, .inl (cI, 48, .inl (aI vo_))), (am_ 2, .inl (cZ, 48, .inl (aB fo_))), (am_ 3, .inl (cI, 48, .inl (aI vn_))), (am_ 4, .inl (cZ, 48, .inl (aB fn_))), (am_ 5, .inl (cI, 48, .inl (aN osr_73))), (am_ 6, .inl (cI, 48, .inl (aN nsr_73))), (am_ 7, .inl (cI, 48, .inl (aN lnr_73))), (am_ 8, .inl (cI, 48, .inl (aI ba_73))), (am_ 9, .inl (cZ, 48, .inl (aB t1))), (am_ 10, .inl (cI, 2401, .inl (aN r1_))), (am_ 11, .inl (cI, 48, .inl (aN cd_77))), (am_ 12, .inl (cI, 48, .inl (aN so_77))), (am_ 13, .inl (cI, 48, .inl (aI me_))), (am_ 14, .inl (cI, 48, .inl (aI bf_)))] := hD_
        refine lv_aload_n hx_ hb_ dX5_build_85 rfl (lv_at hl_ 0 rfl) ?_
        refine va_get (D := G_) (ci := 5) (v := .int (iI ((k_ : Nat) : Int))) (C := RX5) (T := TX5) (N := 19) hx_ hb_ hts hi5_ hown hK_ hP_ 0 rfl rfl 7 (by decide) hf93_ (fun _ h9 => h9) rfl dX5_build_86 ?_
        rw [← hQe]
        exact W.iret hx_ hb_ hr (fun tt1 htt1 hWW1 => ⟨⟨_, (true, k_, osr_73, nsr_73, lnr_73, ba_73, t1, r1_, cp_77, cd_77, so_77), rfl, ⟨congrArg iI (by show _ = bdR k_ x_; unfold bdR; rw [if_pos (by omega)]), ⟨fun h0_ => absurd (show 1 ≤ x_ ∧ x_ ≤ 16 by omega) h0_, fun _ => ⟨rfl, rfl, hk_, hB_, SE_Gd hge hse, ha_, hu73.2.2, hu77.1, hu77.2.2, hu77.2.1⟩⟩⟩, by show va_P G_ vwCl _ tt1.heap; rw [htt1]; exact hP_⟩, hS_.F htt1⟩) hS_.2.2 dX5_build_89
      · skip
        have hend := PB_run (ot := tO bs) (nt := tN bs) hpb (show bl_ - 1 < bl_ by omega)
        refine lv_aload_n hx_ hb_ dX5_build_59 rfl (lv_at hl_ 0 rfl) ?_
        refine lv_iload_n hx_ hb_ dX5_build_60 rfl (lv_at hl_ 2 rfl) ?_
        refine wr_V (As := [.int (iI ((49 * bn_ + bo_ : Nat) : Int))]) (rest := []) (wr := []) (wn := fun u_ => [(am_ 0, .inr (5, [.int (iI ((no_ : Nat) : Int)), .ref (am_ 1), .ref (am_ 2), .int (iI ((nn_ : Nat) : Int)), .ref (am_ 3), .ref (am_ 4), .int (iI (bZ bu_)), .int (iI ((kr : Nat) : Int)), .ref (am_ 5), .ref (am_ 6), .ref (am_ 7), .ref (am_ 8), .ref (am_ 9), .ref (am_ 10), .int (iI ((cp_ : Nat) : Int)), .ref (am_ 11), .ref (am_ 12), .ref (am_ 13), .ref (am_ 14)])), (am_ 1, .inl (cI, 48, .inl (aI vo_))), (am_ 2, .inl (cZ, 48, .inl (aB fo_))), (am_ 3, .inl (cI, 48, .inl (aI vn_))), (am_ 4, .inl (cZ, 48, .inl (aB fn_))), (am_ 5, .inl (cI, 48, .inl (aN osr))), (am_ 6, .inl (cI, 48, .inl (aN nsr))), (am_ 7, .inl (cI, 48, .inl (aN lnr))), (am_ 8, .inl (cI, 48, .inl (aI u_.1))), (am_ 9, .inl (cZ, 48, .inl (aB u_.2))), (am_ 10, .inl (cI, 2401, .inl (aN r1_))), (am_ 11, .inl (cI, 48, .inl (aN cd_))), (am_ 12, .inl (cI, 48, .inl (aN so_))), (am_ 13, .inl (cI, 48, .inl (aI me_))), (am_ 14, .inl (cI, 48, .inl (aI bf_)))]) ⟨hx_, hb_, hml, hown, hts⟩ (c_X5_takes l_ G_ cI cZ am_ bu_ no_ vo_ fo_ nn_ vn_ fn_ kr osr nsr lnr b1_ t1 r1_ cp_ cd_ so_ me_ bf_ bl_ bn_ bo_ (hrt) (by omega) (by omega) (by omega) H_.size) (cwV 1 hts gX5_build_X5_takes rfl rfl rfl (by decide +kernel) ⟨Nat.le_of_ble_eq_true rfl, Nat.le_of_ble_eq_true rfl⟩) hP_ hK_ hD_ hS_ hA_ [0, 1, 2, 3, 4, 5, 6, 7, 8, 9, 10, 11, 12, 13, 14] [] [0, 1, 2, 3, 4, 5, 6, 7, 8, 9, 10, 11, 12, 13, 14] rfl rfl (by decide) (fun _ => rfl) (fun _ => rfl) 0 rfl rfl rfl hl_.1 rfl (Nat.le_of_ble_eq_true rfl) dX5_build_61 ⟨Nat.zero_le _, Nat.zero_le _⟩ (fun u_ H_ locs hu61 hP_ hD_ hS_ => ?_)
        obtain ⟨ba_61, tk_61⟩ := u_
        try dsimp only at hu61
        have hP_ : va_P G_ vwCl [(am_ 0, .inr (5, [.int (iI ((no_ : Nat) : Int)), .ref (am_ 1), .ref (am_ 2), .int (iI ((nn_ : Nat) : Int)), .ref (am_ 3), .ref (am_ 4), .int (iI (bZ bu_)), .int (iI ((kr : Nat) : Int)), .ref (am_ 5), .ref (am_ 6), .ref (am_ 7), .ref (am_ 8), .ref (am_ 9), .ref (am_ 10), .int (iI ((cp_ : Nat) : Int)), .ref (am_ 11), .ref (am_ 12), .ref (am_ 13), .ref (am_ 14)])), (am_ 1, .inl (cI, 48, .inl (aI vo_))), (am_ 2, .inl (cZ, 48, .inl (aB fo_))), (am_ 3, .inl (cI, 48, .inl (aI vn_))), (am_ 4, .inl (cZ, 48, .inl (aB fn_))), (am_ 5, .inl (cI, 48, .inl (aN osr))), (am_ 6, .inl (cI, 48, .inl (aN nsr))), (am_ 7, .inl (cI, 48, .inl (aN lnr))), (am_ 8, .inl (cI, 48, .inl (aI ba_61))), (am_ 9, .inl (cZ, 48, .inl (aB tk_61))), (am_ 10, .inl (cI, 2401, .inl (aN r1_))), (am_ 11, .inl (cI, 48, .inl (aN cd_))), (am_ 12, .inl (cI, 48, .inl (aN so_))), (am_ 13, .inl (cI, 48, .inl (aI me_))), (am_ 14, .inl (cI, 48, .inl (aI bf_)))] H_ := hP_
        have hD_ : va_D A_ [(am_ 0, .inr (5, [.int (iI ((no_ : Nat) : Int)), .ref (am_ 1), .ref (am_ 2), .int (iI ((nn_ : Nat) : Int)), .ref (am_ 3), .ref (am_ 4), .int (iI (bZ bu_)), .int (iI ((kr : Nat) : Int)), .ref (am_ 5), .ref (am_ 6), .ref (am_ 7), .ref (am_ 8), .ref (am_ 9), .ref (am_ 10), .int (iI ((cp_ : Nat) : Int)), .ref (am_ 11), .ref (am_ 12), .ref (am_ 13), .ref (am_ 14)])), (am_ 1, .inl (cI, 48, .inl (aI vo_))), (am_ 2, .inl (cZ, 48, .inl (aB fo_))), (am_ 3, .inl (cI, 48, .inl (aI vn_))), (am_ 4, .inl (cZ, 48, .inl (aB fn_))), (am_ 5, .inl (cI, 48, .inl (aN osr))), (am_ 6, .inl (cI, 48, .inl (aN nsr))), (am_ 7, .inl (cI, 48, .inl (aN lnr))), (am_ 8, .inl (cI, 48, .inl (aI ba_61))), (am_ 9, .inl (cZ, 48, .inl (aB tk_61))), (am_ 10, .inl (cI, 2401, .inl (aN r1_))), (am_ 11, .inl (cI, 48, .inl (aN cd_))), (am_ 12, .inl (cI, 48, .inl (aN so_))), (am_ 13, .inl (cI, 48, .inl (aI me_))), (am_ 14, .inl (cI, 48, .inl (aI bf_)))] := hD_
        have hag : ∀ j_, j_ < 48 → ba_61 j_ = plc ((bl_, bn_, bo_) :: bs) j_ ∧ tk_61 j_ = tO ((bl_, bn_, bo_) :: bs) j_ := fun j_ hj_ => ⟨by rw [(hu61 j_ hj_).1, (hag0 j_ hj_).1]; rfl, by rw [(hu61 j_ hj_).2, (hag0 j_ hj_).2, tO_cons, Bool.or_comm]⟩
        have hge2 : Geo no_ nn_ ((bl_, bn_, bo_) :: bs) := Chn_geo (show 1 ≤ x_.toNat by omega) (show Chn no_ nn_ (mtc vo_ vn_ fo_ fn_) x_.toNat ((bl_, bn_, bo_) :: bs) from ⟨hch, hpb, by show x_.toNat ≤ bl_; omega⟩)
        refine lv_aload_n hx_ hb_ dX5_build_64 rfl (lv_at hl_ 0 rfl) ?_
        refine wr_VI (As := []) (rest := []) (wr := []) (wn := fun u_ => [(am_ 0, .inr (5, [.int (iI ((no_ : Nat) : Int)), .ref (am_ 1), .ref (am_ 2), .int (iI ((nn_ : Nat) : Int)), .ref (am_ 3), .ref (am_ 4), .int (iI (bZ bu_)), .int (iI ((kr : Nat) : Int)), .ref (am_ 5), .ref (am_ 6), .ref (am_ 7), .ref (am_ 8), .ref (am_ 9), .ref (am_ 10), .int (iI ((cp_ : Nat) : Int)), .ref (am_ 11), .ref (am_ 12), .ref (am_ 13), .ref (am_ 14)])), (am_ 1, .inl (cI, 48, .inl (aI vo_))), (am_ 2, .inl (cZ, 48, .inl (aB fo_))), (am_ 3, .inl (cI, 48, .inl (aI vn_))), (am_ 4, .inl (cZ, 48, .inl (aB fn_))), (am_ 5, .inl (cI, 48, .inl (aN osr))), (am_ 6, .inl (cI, 48, .inl (aN nsr))), (am_ 7, .inl (cI, 48, .inl (aN lnr))), (am_ 8, .inl (cI, 48, .inl (aI ba_61))), (am_ 9, .inl (cZ, 48, .inl (aB tk_61))), (am_ 10, .inl (cI, 2401, .inl (aN u_.1))), (am_ 11, .inl (cI, 48, .inl (aN cd_))), (am_ 12, .inl (cI, 48, .inl (aN so_))), (am_ 13, .inl (cI, 48, .inl (aI me_))), (am_ 14, .inl (cI, 48, .inl (aI bf_)))]) ⟨hx_, hb_, hml, hown, hts⟩ (c_X5_longestRun l_ G_ cI cZ am_ bu_ no_ vo_ fo_ nn_ vn_ fn_ kr osr nsr lnr ba_61 tk_61 r1_ cp_ cd_ so_ me_ bf_ hno hnn hvo hvn (fun w_ hw_ => by rw [(hag w_ (by omega)).1]; exact plc_R hge2 hno hnn w_) H_.size) (cwV 0 hts gX5_build_X5_longestRun rfl rfl rfl (by decide +kernel) ⟨Nat.le_of_ble_eq_true rfl, Nat.le_of_ble_eq_true rfl⟩) hP_ hK_ hD_ hS_ hA_ [0, 1, 2, 3, 4, 5, 6, 7, 8, 9, 10, 11, 12, 13, 14] [] [0, 1, 2, 3, 4, 5, 6, 7, 8, 9, 10, 11, 12, 13, 14] rfl rfl (by decide) (fun _ => rfl) (fun _ => rfl) 0 rfl rfl rfl hl_.1 rfl (Nat.le_of_ble_eq_true rfl) dX5_build_65 ⟨Nat.zero_le _, Nat.zero_le _⟩ (fun u_ H_ locs hu65 hP_ hD_ hS_ => ?_)
        obtain ⟨rt_65, bl_65, bn_65, bo_65⟩ := u_
        try dsimp only at hu65
        have hP_ : va_P G_ vwCl [(am_ 0, .inr (5, [.int (iI ((no_ : Nat) : Int)), .ref (am_ 1), .ref (am_ 2), .int (iI ((nn_ : Nat) : Int)), .ref (am_ 3), .ref (am_ 4), .int (iI (bZ bu_)), .int (iI ((kr : Nat) : Int)), .ref (am_ 5), .ref (am_ 6), .ref (am_ 7), .ref (am_ 8), .ref (am_ 9), .ref (am_ 10), .int (iI ((cp_ : Nat) : Int)), .ref (am_ 11), .ref (am_ 12), .ref (am_ 13), .ref (am_ 14)])), (am_ 1, .inl (cI, 48, .inl (aI vo_))), (am_ 2, .inl (cZ, 48, .inl (aB fo_))), (am_ 3, .inl (cI, 48, .inl (aI vn_))), (am_ 4, .inl (cZ, 48, .inl (aB fn_))), (am_ 5, .inl (cI, 48, .inl (aN osr))), (am_ 6, .inl (cI, 48, .inl (aN nsr))), (am_ 7, .inl (cI, 48, .inl (aN lnr))), (am_ 8, .inl (cI, 48, .inl (aI ba_61))), (am_ 9, .inl (cZ, 48, .inl (aB tk_61))), (am_ 10, .inl (cI, 2401, .inl (aN rt_65))), (am_ 11, .inl (cI, 48, .inl (aN cd_))), (am_ 12, .inl (cI, 48, .inl (aN so_))), (am_ 13, .inl (cI, 48, .inl (aI me_))), (am_ 14, .inl (cI, 48, .inl (aI bf_)))] H_ := hP_
        have hD_ : va_D A_ [(am_ 0, .inr (5, [.int (iI ((no_ : Nat) : Int)), .ref (am_ 1), .ref (am_ 2), .int (iI ((nn_ : Nat) : Int)), .ref (am_ 3), .ref (am_ 4), .int (iI (bZ bu_)), .int (iI ((kr : Nat) : Int)), .ref (am_ 5), .ref (am_ 6), .ref (am_ 7), .ref (am_ 8), .ref (am_ 9), .ref (am_ 10), .int (iI ((cp_ : Nat) : Int)), .ref (am_ 11), .ref (am_ 12), .ref (am_ 13), .ref (am_ 14)])), (am_ 1, .inl (cI, 48, .inl (aI vo_))), (am_ 2, .inl (cZ, 48, .inl (aB fo_))), (am_ 3, .inl (cI, 48, .inl (aI vn_))), (am_ 4, .inl (cZ, 48, .inl (aB fn_))), (am_ 5, .inl (cI, 48, .inl (aN osr))), (am_ 6, .inl (cI, 48, .inl (aN nsr))), (am_ 7, .inl (cI, 48, .inl (aN lnr))), (am_ 8, .inl (cI, 48, .inl (aI ba_61))), (am_ 9, .inl (cZ, 48, .inl (aB tk_61))), (am_ 10, .inl (cI, 2401, .inl (aN rt_65))), (am_ 11, .inl (cI, 48, .inl (aN cd_))), (am_ 12, .inl (cI, 48, .inl (aN so_))), (am_ 13, .inl (cI, 48, .inl (aI me_))), (am_ 14, .inl (cI, 48, .inl (aI bf_)))] := hD_
        refine lv_istore_n (lv' := [(2, .int (iI ((49 * bn_65 + bo_65 : Nat) : Int))), (0, .ref (am_ 0)), (1, .int (iI (x_)))]) hx_ hb_ dX5_build_68 rfl hl_ (by decide) rfl (fun ls_ hl_ => ?_)
        refine lv_goto (tgt := 49) hx_ hb_ dX5_build_69 (by decide) ?_
        exact ih49 ((bl_, bn_, bo_) :: bs) ba_61 tk_61 rt_65 bl_65 bn_65 bo_65 _ _ ls_ (hx3) (hx4) (by show 50 ≤ (bs.length + 1) + n_; omega) (⟨hch, hpb, by show x_.toNat ≤ bl_; omega⟩) (hag) (by rw [← MMeq no_ nn_ (mtc vo_ vn_ fo_ fn_) hag hno hnn]; exact hu65.1) (hu65.2) hP_ hD_ hS_ (lv_sub hl_ [1, 2, 0] rfl)
  have lp16 : ∀ (n_ : Nat) (i_ : Nat) (b1_ : Nat → Int) (t1 : Nat → Bool) (H_ : Heap) (locs : List Loc) (ls_ : Array Slot), (1 ≤ x_) → (x_ ≤ 16) → (i_ ≤ 48) → (49 ≤ i_ + n_) → (∀ j_, j_ < i_ → b1_ j_ = -10005 ∧ t1 j_ = false) → va_P G_ vwCl [(am_ 0, .inr (5, [.int (iI ((no_ : Nat) : Int)), .ref (am_ 1), .ref (am_ 2), .int (iI ((nn_ : Nat) : Int)), .ref (am_ 3), .ref (am_ 4), .int (iI (bZ bu_)), .int (iI ((kr : Nat) : Int)), .ref (am_ 5), .ref (am_ 6), .ref (am_ 7), .ref (am_ 8), .ref (am_ 9), .ref (am_ 10), .int (iI ((cp_ : Nat) : Int)), .ref (am_ 11), .ref (am_ 12), .ref (am_ 13), .ref (am_ 14)])), (am_ 1, .inl (cI, 48, .inl (aI vo_))), (am_ 2, .inl (cZ, 48, .inl (aB fo_))), (am_ 3, .inl (cI, 48, .inl (aI vn_))), (am_ 4, .inl (cZ, 48, .inl (aB fn_))), (am_ 5, .inl (cI, 48, .inl (aN osr))), (am_ 6, .inl (cI, 48, .inl (aN nsr))), (am_ 7, .inl (cI, 48, .inl (aN lnr))), (am_ 8, .inl (cI, 48, .inl (aI b1_))), (am_ 9, .inl (cZ, 48, .inl (aB t1))), (am_ 10, .inl (cI, 2401, .inl (aN rt_))), (am_ 11, .inl (cI, 48, .inl (aN cd_))), (am_ 12, .inl (cI, 48, .inl (aN so_))), (am_ 13, .inl (cI, 48, .inl (aI me_))), (am_ 14, .inl (cI, 48, .inl (aI bf_)))] H_ → va_D A_ [(am_ 0, .inr (5, [.int (iI ((no_ : Nat) : Int)), .ref (am_ 1), .ref (am_ 2), .int (iI ((nn_ : Nat) : Int)), .ref (am_ 3), .ref (am_ 4), .int (iI (bZ bu_)), .int (iI ((kr : Nat) : Int)), .ref (am_ 5), .ref (am_ 6), .ref (am_ 7), .ref (am_ 8), .ref (am_ 9), .ref (am_ 10), .int (iI ((cp_ : Nat) : Int)), .ref (am_ 11), .ref (am_ 12), .ref (am_ 13), .ref (am_ 14)])), (am_ 1, .inl (cI, 48, .inl (aI vo_))), (am_ 2, .inl (cZ, 48, .inl (aB fo_))), (am_ 3, .inl (cI, 48, .inl (aI vn_))), (am_ 4, .inl (cZ, 48, .inl (aB fn_))), (am_ 5, .inl (cI, 48, .inl (aN osr))), (am_ 6, .inl (cI, 48, .inl (aN nsr))), (am_ 7, .inl (cI, 48, .inl (aN lnr))), (am_ 8, .inl (cI, 48, .inl (aI b1_))), (am_ 9, .inl (cZ, 48, .inl (aB t1))), (am_ 10, .inl (cI, 2401, .inl (aN rt_))), (am_ 11, .inl (cI, 48, .inl (aN cd_))), (am_ 12, .inl (cI, 48, .inl (aN so_))), (am_ 13, .inl (cI, 48, .inl (aI me_))), (am_ 14, .inl (cI, 48, .inl (aI bf_)))] → va_S A_ s_.heap H_ locs → lv_has ls_ 3 [(0, .ref (am_ 0)), (1, .int (iI (x_))), (2, .int (iI ((i_ : Nat) : Int)))] → W p_ l_ e_ (headSpec wsX5_build ({ frames := 4, cells := 0, slots := 0, locals := 87 })).room s_ m_ args below meth c_ H_ locs 0 0 Q_ (F0 m_ 16 ls_ []) := by
    intro n_
    induction n_ with
    | zero =>
      intro i_ b1_ t1 H_ locs ls_ hx3 hx4 hi_ hn_ hz
      exact False.elim (by omega)
    | succ n_ ih16 =>
      intro i_ b1_ t1 H_ locs ls_ hx3 hx4 hi_ hn_ hz hP_ hD_ hS_ hl_
      refine lv_iload_n hx_ hb_ dX5_build_16 rfl (lv_at hl_ 2 rfl) ?_
      refine lv_bipush (v := iI ((48 : Nat) : Int)) hx_ hb_ dX5_build_17 rfl ?_
      refine q_icmp_ge (tgt := 44) hx_ hb_ dX5_build_19 (by decide) (⟨by omega, by omega⟩) (⟨by decide, by decide⟩) (fun c19_ => ?_) (fun c19_ => ?_)
      · skip
        have hz9 : ∀ j_, j_ < 48 → b1_ j_ = -10005 := fun j_ hj_ => (hz j_ (by omega)).1
        refine lv_aload_n hx_ hb_ dX5_build_44 rfl (lv_at hl_ 0 rfl) ?_
        refine wr_VI (As := []) (rest := []) (wr := []) (wn := fun u_ => [(am_ 0, .inr (5, [.int (iI ((no_ : Nat) : Int)), .ref (am_ 1), .ref (am_ 2), .int (iI ((nn_ : Nat) : Int)), .ref (am_ 3), .ref (am_ 4), .int (iI (bZ bu_)), .int (iI ((kr : Nat) : Int)), .ref (am_ 5), .ref (am_ 6), .ref (am_ 7), .ref (am_ 8), .ref (am_ 9), .ref (am_ 10), .int (iI ((cp_ : Nat) : Int)), .ref (am_ 11), .ref (am_ 12), .ref (am_ 13), .ref (am_ 14)])), (am_ 1, .inl (cI, 48, .inl (aI vo_))), (am_ 2, .inl (cZ, 48, .inl (aB fo_))), (am_ 3, .inl (cI, 48, .inl (aI vn_))), (am_ 4, .inl (cZ, 48, .inl (aB fn_))), (am_ 5, .inl (cI, 48, .inl (aN osr))), (am_ 6, .inl (cI, 48, .inl (aN nsr))), (am_ 7, .inl (cI, 48, .inl (aN lnr))), (am_ 8, .inl (cI, 48, .inl (aI b1_))), (am_ 9, .inl (cZ, 48, .inl (aB t1))), (am_ 10, .inl (cI, 2401, .inl (aN u_.1))), (am_ 11, .inl (cI, 48, .inl (aN cd_))), (am_ 12, .inl (cI, 48, .inl (aN so_))), (am_ 13, .inl (cI, 48, .inl (aI me_))), (am_ 14, .inl (cI, 48, .inl (aI bf_)))]) ⟨hx_, hb_, hml, hown, hts⟩ (c_X5_longestRun l_ G_ cI cZ am_ bu_ no_ vo_ fo_ nn_ vn_ fn_ kr osr nsr lnr b1_ t1 rt_ cp_ cd_ so_ me_ bf_ hno hnn hvo hvn (fun w_ hw_ => by rw [hz9 w_ (by omega)]; exact ⟨by decide, by decide⟩) H_.size) (cwV 0 hts gX5_build_X5_longestRun rfl rfl rfl (by decide +kernel) ⟨Nat.le_of_ble_eq_true rfl, Nat.le_of_ble_eq_true rfl⟩) hP_ hK_ hD_ hS_ hA_ [0, 1, 2, 3, 4, 5, 6, 7, 8, 9, 10, 11, 12, 13, 14] [] [0, 1, 2, 3, 4, 5, 6, 7, 8, 9, 10, 11, 12, 13, 14] rfl rfl (by decide) (fun _ => rfl) (fun _ => rfl) 0 rfl rfl rfl hl_.1 rfl (Nat.le_of_ble_eq_true rfl) dX5_build_45 ⟨Nat.zero_le _, Nat.zero_le _⟩ (fun u_ H_ locs hu45 hP_ hD_ hS_ => ?_)
        obtain ⟨rt_45, bl_45, bn_45, bo_45⟩ := u_
        try dsimp only at hu45
        have hP_ : va_P G_ vwCl [(am_ 0, .inr (5, [.int (iI ((no_ : Nat) : Int)), .ref (am_ 1), .ref (am_ 2), .int (iI ((nn_ : Nat) : Int)), .ref (am_ 3), .ref (am_ 4), .int (iI (bZ bu_)), .int (iI ((kr : Nat) : Int)), .ref (am_ 5), .ref (am_ 6), .ref (am_ 7), .ref (am_ 8), .ref (am_ 9), .ref (am_ 10), .int (iI ((cp_ : Nat) : Int)), .ref (am_ 11), .ref (am_ 12), .ref (am_ 13), .ref (am_ 14)])), (am_ 1, .inl (cI, 48, .inl (aI vo_))), (am_ 2, .inl (cZ, 48, .inl (aB fo_))), (am_ 3, .inl (cI, 48, .inl (aI vn_))), (am_ 4, .inl (cZ, 48, .inl (aB fn_))), (am_ 5, .inl (cI, 48, .inl (aN osr))), (am_ 6, .inl (cI, 48, .inl (aN nsr))), (am_ 7, .inl (cI, 48, .inl (aN lnr))), (am_ 8, .inl (cI, 48, .inl (aI b1_))), (am_ 9, .inl (cZ, 48, .inl (aB t1))), (am_ 10, .inl (cI, 2401, .inl (aN rt_45))), (am_ 11, .inl (cI, 48, .inl (aN cd_))), (am_ 12, .inl (cI, 48, .inl (aN so_))), (am_ 13, .inl (cI, 48, .inl (aI me_))), (am_ 14, .inl (cI, 48, .inl (aI bf_)))] H_ := hP_
        have hD_ : va_D A_ [(am_ 0, .inr (5, [.int (iI ((no_ : Nat) : Int)), .ref (am_ 1), .ref (am_ 2), .int (iI ((nn_ : Nat) : Int)), .ref (am_ 3), .ref (am_ 4), .int (iI (bZ bu_)), .int (iI ((kr : Nat) : Int)), .ref (am_ 5), .ref (am_ 6), .ref (am_ 7), .ref (am_ 8), .ref (am_ 9), .ref (am_ 10), .int (iI ((cp_ : Nat) : Int)), .ref (am_ 11), .ref (am_ 12), .ref (am_ 13), .ref (am_ 14)])), (am_ 1, .inl (cI, 48, .inl (aI vo_))), (am_ 2, .inl (cZ, 48, .inl (aB fo_))), (am_ 3, .inl (cI, 48, .inl (aI vn_))), (am_ 4, .inl (cZ, 48, .inl (aB fn_))), (am_ 5, .inl (cI, 48, .inl (aN osr))), (am_ 6, .inl (cI, 48, .inl (aN nsr))), (am_ 7, .inl (cI, 48, .inl (aN lnr))), (am_ 8, .inl (cI, 48, .inl (aI b1_))), (am_ 9, .inl (cZ, 48, .inl (aB t1))), (am_ 10, .inl (cI, 2401, .inl (aN rt_45))), (am_ 11, .inl (cI, 48, .inl (aN cd_))), (am_ 12, .inl (cI, 48, .inl (aN so_))), (am_ 13, .inl (cI, 48, .inl (aI me_))), (am_ 14, .inl (cI, 48, .inl (aI bf_)))] := hD_
        refine lv_istore_n (lv' := [(2, .int (iI ((49 * bn_45 + bo_45 : Nat) : Int))), (0, .ref (am_ 0)), (1, .int (iI (x_)))]) hx_ hb_ dX5_build_48 rfl hl_ (by decide) rfl (fun ls_ hl_ => ?_)
        exact lp49 (50) ([]) b1_ t1 rt_45 bl_45 bn_45 bo_45 _ _ ls_ (hx3) (hx4) (by show 50 ≤ 0 + 50; omega) (trivial) (fun j_ hj_ => ⟨(hz j_ (by omega)).1, (hz j_ (by omega)).2⟩) (by rw [← MMeq no_ nn_ (mtc vo_ vn_ fo_ fn_) (bs := []) (fun j_ hj_ => ⟨(hz j_ (by omega)).1, (hz j_ (by omega)).2⟩) hno hnn]; exact hu45.1) (hu45.2) hP_ hD_ hS_ (lv_sub hl_ [1, 2, 0] rfl)
      · skip
        refine lv_aload_n hx_ hb_ dX5_build_22 rfl (lv_at hl_ 0 rfl) ?_
        refine va_get (D := G_) (ci := 5) (v := .ref (am_ 8)) (C := RX5) (T := TX5) (N := 19) hx_ hb_ hts hi5_ hown hK_ hP_ 0 rfl rfl 11 (by decide) hf32_ (fun _ h9 => h9) rfl dX5_build_23 ?_
        refine lv_iload_n hx_ hb_ dX5_build_26 rfl (lv_at hl_ 2 rfl) ?_
        refine lv_sipush (v := iI (-10005)) hx_ hb_ dX5_build_27 rfl ?_
        refine q_istI hx_ hb_ hK_ hP_ hD_ hS_ 8 rfl (by decide) (i_) (by omega) (-10005) dX5_build_30 (ws' := [(am_ 0, .inr (5, [.int (iI ((no_ : Nat) : Int)), .ref (am_ 1), .ref (am_ 2), .int (iI ((nn_ : Nat) : Int)), .ref (am_ 3), .ref (am_ 4), .int (iI (bZ bu_)), .int (iI ((kr : Nat) : Int)), .ref (am_ 5), .ref (am_ 6), .ref (am_ 7), .ref (am_ 8), .ref (am_ 9), .ref (am_ 10), .int (iI ((cp_ : Nat) : Int)), .ref (am_ 11), .ref (am_ 12), .ref (am_ 13), .ref (am_ 14)])), (am_ 1, .inl (cI, 48, .inl (aI vo_))), (am_ 2, .inl (cZ, 48, .inl (aB fo_))), (am_ 3, .inl (cI, 48, .inl (aI vn_))), (am_ 4, .inl (cZ, 48, .inl (aB fn_))), (am_ 5, .inl (cI, 48, .inl (aN osr))), (am_ 6, .inl (cI, 48, .inl (aN nsr))), (am_ 7, .inl (cI, 48, .inl (aN lnr))), (am_ 8, .inl (cI, 48, .inl (aI (va_up b1_ i_ (-10005))))), (am_ 9, .inl (cZ, 48, .inl (aB t1))), (am_ 10, .inl (cI, 2401, .inl (aN rt_))), (am_ 11, .inl (cI, 48, .inl (aN cd_))), (am_ 12, .inl (cI, 48, .inl (aN so_))), (am_ 13, .inl (cI, 48, .inl (aI me_))), (am_ 14, .inl (cI, 48, .inl (aI bf_)))]) rfl (fun H_ locs hP_ hD_ hS_ => ?_)
        refine lv_aload_n hx_ hb_ dX5_build_31 rfl (lv_at hl_ 0 rfl) ?_
        refine va_get (D := G_) (ci := 5) (v := .ref (am_ 9)) (C := RX5) (T := TX5) (N := 19) hx_ hb_ hts hi5_ hown hK_ hP_ 0 rfl rfl 12 (by decide) hf35_ (fun _ h9 => h9) rfl dX5_build_32 ?_
        refine lv_iload_n hx_ hb_ dX5_build_35 rfl (lv_at hl_ 2 rfl) ?_
        refine lv_iconst (v := iI ((0 : Nat) : Int)) hx_ hb_ dX5_build_36 rfl ?_
        refine q_cast (b := bZ (false)) rfl ?_
        refine q_zst hx_ hb_ hK_ hP_ hD_ hS_ 9 rfl (by decide) (i_) (by omega) (false) dX5_build_37 (ws' := [(am_ 0, .inr (5, [.int (iI ((no_ : Nat) : Int)), .ref (am_ 1), .ref (am_ 2), .int (iI ((nn_ : Nat) : Int)), .ref (am_ 3), .ref (am_ 4), .int (iI (bZ bu_)), .int (iI ((kr : Nat) : Int)), .ref (am_ 5), .ref (am_ 6), .ref (am_ 7), .ref (am_ 8), .ref (am_ 9), .ref (am_ 10), .int (iI ((cp_ : Nat) : Int)), .ref (am_ 11), .ref (am_ 12), .ref (am_ 13), .ref (am_ 14)])), (am_ 1, .inl (cI, 48, .inl (aI vo_))), (am_ 2, .inl (cZ, 48, .inl (aB fo_))), (am_ 3, .inl (cI, 48, .inl (aI vn_))), (am_ 4, .inl (cZ, 48, .inl (aB fn_))), (am_ 5, .inl (cI, 48, .inl (aN osr))), (am_ 6, .inl (cI, 48, .inl (aN nsr))), (am_ 7, .inl (cI, 48, .inl (aN lnr))), (am_ 8, .inl (cI, 48, .inl (aI (va_up b1_ i_ (-10005))))), (am_ 9, .inl (cZ, 48, .inl (aB (va_up t1 i_ false)))), (am_ 10, .inl (cI, 2401, .inl (aN rt_))), (am_ 11, .inl (cI, 48, .inl (aN cd_))), (am_ 12, .inl (cI, 48, .inl (aN so_))), (am_ 13, .inl (cI, 48, .inl (aI me_))), (am_ 14, .inl (cI, 48, .inl (aI bf_)))]) rfl (fun H_ locs hP_ hD_ hS_ => ?_)
        refine q_iinc (k := 2) ((i_ + 1 : Nat) : Int) hx_ hb_ dX5_build_38 hl_ rfl (rfl) (by decide) (lv' := [(2, .int (iI ((i_ + 1 : Nat) : Int))), (0, .ref (am_ 0)), (1, .int (iI (x_)))]) rfl (fun ls_ hl_ => ?_)
        refine lv_goto (tgt := 16) hx_ hb_ dX5_build_41 (by decide) ?_
        exact ih16 (i_ + 1) (va_up b1_ i_ (-10005)) (va_up t1 i_ false) _ _ ls_ (hx3) (hx4) (by omega) (by omega) (fun j_ hj_ => by by_cases h0_ : j_ = i_; rw [h0_]; exact ⟨up_eq, up_eq⟩; rw [up_ne h0_, up_ne h0_]; exact hz j_ (by omega)) hP_ hD_ hS_ (lv_sub hl_ [1, 2, 0] rfl)
  rw [show entryFrame m_ args 3 = entryFrame m_ ([.ref (am_ 0), .int (iI (x_))] : List Value).toArray 3 from by rw [hargs], lg_entry_eq]
  have hl_ := lv_entry ([.ref (am_ 0), .int (iI (x_))]) (n := 3) (Nat.le_of_ble_eq_true rfl)
  generalize (lg_sl ([.ref (am_ 0), .int (iI (x_))]) ++ List.replicate (3 - (lg_sl ([.ref (am_ 0), .int (iI (x_))])).length) Slot.unset).toArray = ls_ at hl_ ⊢
  have hl_ : lv_has ls_ 3 [(0, .ref (am_ 0)), (1, .int (iI (x_)))] := hl_
  refine lv_iload_n hx_ hb_ dX5_build_0 rfl (lv_at hl_ 1 rfl) ?_
  refine lv_iconst (v := iI ((1 : Nat) : Int)) hx_ hb_ dX5_build_1 rfl ?_
  refine lv_bipush (v := iI ((16 : Nat) : Int)) hx_ hb_ dX5_build_2 rfl ?_
  refine ro_S (As := [.int (iI (x_)), .int (iI ((1 : Nat) : Int)), .int (iI ((16 : Nat) : Int))]) (rest := []) ⟨hx_, hb_, hml, hown, hts⟩ (c_X5_within l_ G_ cI cZ (x_) ((1 : Nat) : Int) ((16 : Nat) : Int) (by omega) (by omega) (by omega) (by omega) (by omega) (by omega)) (va_cwS 3 hts gX5_build_X5_within rfl rfl rfl (by decide +kernel) ⟨Nat.le_of_ble_eq_true rfl, Nat.le_of_ble_eq_true rfl⟩) (hP_.sub (ws' := []) [] rfl) hK_ rfl hl_.1 rfl (Nat.le_of_ble_eq_true rfl) dX5_build_4 ⟨Nat.zero_le _, Nat.zero_le _⟩ ?_
  refine q_dt (tgt := 14) hx_ hb_ dX5_build_7 (by decide) (fun c7_ => ?_) (fun c7_ => ?_)
  · skip
    refine lv_iconst (v := iI ((0 : Nat) : Int)) hx_ hb_ dX5_build_14 rfl ?_
    refine lv_istore_n (lv' := [(2, .int (iI ((0 : Nat) : Int))), (0, .ref (am_ 0)), (1, .int (iI (x_)))]) hx_ hb_ dX5_build_15 rfl hl_ (by decide) rfl (fun ls_ hl_ => ?_)
    exact lp16 (49) 0 ba_ tk_ _ _ ls_ (by omega) (by omega) (by omega) (by omega) (fun j_ hj_ => absurd hj_ (Nat.not_lt_zero _)) hP_ hD_ hS_ (lv_sub hl_ [1, 2, 0] rfl)
  · skip
    refine lv_sipush (v := iI (-10001)) hx_ hb_ dX5_build_10 rfl ?_
    rw [← hQe]
    exact W.iret hx_ hb_ hr (fun tt1 htt1 hWW1 => ⟨⟨_, (bu_, kr, osr, nsr, lnr, ba_, tk_, rt_, cp_, cd_, so_), rfl, ⟨congrArg iI (by show _ = bdR kr x_; unfold bdR; rw [if_neg (by omega)]), ⟨fun _ => rfl, fun h0_ => absurd h0_ (by omega)⟩⟩, by show va_P G_ vwCl _ tt1.heap; rw [htt1]; exact hP_⟩, hS_.F htt1⟩) hS_.2.2 dX5_build_13
