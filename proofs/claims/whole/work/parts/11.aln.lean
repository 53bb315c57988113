set_option maxHeartbeats 4000000 in
set_option maxRecDepth 100000 in
/-- Aligner.isFree -/
theorem c_X0_isFree (l_ : Launch) (G_ : va_G) (cI cZ : ClassId) (h_ a_ b_ d_ : Nat) (ot_ nt_ : Nat → Bool) (ru_ : Nat → Nat) (bo_ bn_ bl_ : Nat) (x_ y_ : Nat) (hx0 : x_ < 48) (hy0 : y_ < 48) : Ro l_ yX0_isFree wsX0_isFree ({ frames := 0, cells := 0, slots := 0, locals := 0 }) G_ cI cZ [.ref h_, .int (iI ((x_ : Nat) : Int)), .int (iI ((y_ : Nat) : Int))] (wAl cI cZ h_ a_ b_ d_ ot_ nt_ ru_ bo_ bn_ bl_) (bZ (!ot_ x_ && !nt_ y_)) := by
  refine Met.ofW (cc := cX0_isFree) (maxL := 3) (ret := (some .boolean)) (by decide) rfl ?_
  intro p_ e_ s_ m_ args below meth c_ s₁ B hml hv
  obtain ⟨hargs, hP_, hK_⟩ := hv
  have hx_ := B.exec
  have hb_ := B.bytes
  have hr := B.returns
  have hts := atoms_spec (ws := wsX0_isFree) B.pre
  have hown : s_.vm.findClass RX0 = some m_.cls := findClass_of_methodNamed B.named
  have hlocks := B.notSynchronized
  have hi0_ : ∀ w_ ∈ wsX00, w_ ∈ wsX0_isFree := by decide +kernel
  have hf9_ := hts (.fieldLink RX0 9 "RelocatingPatch$Aligner" "oldTaken" "[Z") (by decide +kernel)
  have hf15_ := hts (.fieldLink RX0 15 "RelocatingPatch$Aligner" "newTaken" "[Z") (by decide +kernel)
  have hP_ : va_P G_ vwCl [(h_, .inr (0, [.ref a_, .ref b_, .ref d_, .int (iI ((bo_ : Nat) : Int)), .int (iI ((bn_ : Nat) : Int)), .int (iI ((bl_ : Nat) : Int))])), (a_, .inl (cZ, 48, .inl (aB ot_))), (b_, .inl (cZ, 48, .inl (aB nt_))), (d_, .inl (cI, 49, .inl (aN ru_)))] s_.heap := hP_
  generalize hQe : MQ below (vp_Si (fun r_ => r_ = iI (bZ (!ot_ x_ && !nt_ y_)))) args s_ 0 0 (fun _ => False) = Q_
  rw [show entryFrame m_ args 3 = entryFrame m_ ([.ref h_, .int (iI ((x_ : Nat) : Int)), .int (iI ((y_ : Nat) : Int))] : List Value).toArray 3 from by rw [hargs], lg_entry_eq]
  have hl_ := lv_entry ([.ref h_, .int (iI ((x_ : Nat) : Int)), .int (iI ((y_ : Nat) : Int))]) (n := 3) (Nat.le_of_ble_eq_true rfl)
  generalize (lg_sl ([.ref h_, .int (iI ((x_ : Nat) : Int)), .int (iI ((y_ : Nat) : Int))]) ++ List.replicate (3 - (lg_sl ([.ref h_, .int (iI ((x_ : Nat) : Int)), .int (iI ((y_ : Nat) : Int))])).length) Slot.unset).toArray = ls_ at hl_ ⊢
  have hl_ : lv_has ls_ 3 [(0, .ref h_), (1, .int (iI ((x_ : Nat) : Int))), (2, .int (iI ((y_ : Nat) : Int)))] := hl_
  refine lv_iload_n hx_ hb_ dX0_isFree_0 rfl (lv_at hl_ 1 rfl) ?_
  refine q_if_lt (tgt := 42) hx_ hb_ dX0_isFree_1 (by decide) (⟨by omega, by omega⟩) (fun c1_ => absurd c1_ (by omega)) (fun c1_ => ?_)
  refine lv_iload_n hx_ hb_ dX0_isFree_4 rfl (lv_at hl_ 1 rfl) ?_
  refine lv_bipush (v := iI ((48 : Nat) : Int)) hx_ hb_ dX0_isFree_5 rfl ?_
  refine q_icmp_ge (tgt := 42) hx_ hb_ dX0_isFree_7 (by decide) (⟨by omega, by omega⟩) (⟨by decide, by decide⟩) (fun c7_ => absurd c7_ (by omega)) (fun c7_ => ?_)
  refine lv_aload_n hx_ hb_ dX0_isFree_10 rfl (lv_at hl_ 0 rfl) ?_
  refine va_get (D := G_) (ci := 0) (v := .ref a_) (C := RX0) (T := TX0) (N := 6) hx_ hb_ hts hi0_ hown hK_ hP_ 0 rfl rfl 0 (by decide) hf9_ (fun _ h9 => h9) rfl dX0_isFree_11 ?_
  refine lv_iload_n hx_ hb_ dX0_isFree_14 rfl (lv_at hl_ 1 rfl) ?_
  refine q_zld hx_ hb_ hK_ hP_ 1 rfl (by decide) (x_) (by omega) (ot_ x_) (rfl) dX0_isFree_15 ?_
  refine q_bt (tgt := 42) hx_ hb_ dX0_isFree_16 (by decide) (fun c16_ => ?_) (fun c16_ => ?_)
  · skip
    refine lv_iconst (v := iI ((0 : Nat) : Int)) hx_ hb_ dX0_isFree_42 rfl ?_
    rw [← hQe]
    refine q_cast (b := bZ false) rfl ?_
    exact W.zret (v := _) hx_ hb_ hr (nar_bZ _) (fun tt1 htt1 hWW1 => ⟨_, rfl, congrArg iI (congrArg bZ (by rw [c16_]; rfl)), htt1⟩) (fun q_ h_ => absurd h_ List.not_mem_nil) dX0_isFree_43
  · skip
    refine lv_iload_n hx_ hb_ dX0_isFree_19 rfl (lv_at hl_ 2 rfl) ?_
    refine q_if_lt (tgt := 42) hx_ hb_ dX0_isFree_20 (by decide) (⟨by omega, by omega⟩) (fun c20_ => absurd c20_ (by omega)) (fun c20_ => ?_)
    refine lv_iload_n hx_ hb_ dX0_isFree_23 rfl (lv_at hl_ 2 rfl) ?_
    refine lv_bipush (v := iI ((48 : Nat) : Int)) hx_ hb_ dX0_isFree_24 rfl ?_
    refine q_icmp_ge (tgt := 42) hx_ hb_ dX0_isFree_26 (by decide) (⟨by omega, by omega⟩) (⟨by decide, by decide⟩) (fun c26_ => absurd c26_ (by omega)) (fun c26_ => ?_)
    refine lv_aload_n hx_ hb_ dX0_isFree_29 rfl (lv_at hl_ 0 rfl) ?_
    refine va_get (D := G_) (ci := 0) (v := .ref b_) (C := RX0) (T := TX0) (N := 6) hx_ hb_ hts hi0_ hown hK_ hP_ 0 rfl rfl 1 (by decide) hf15_ (fun _ h9 => h9) rfl dX0_isFree_30 ?_
    refine lv_iload_n hx_ hb_ dX0_isFree_33 rfl (lv_at hl_ 2 rfl) ?_
    refine q_zld hx_ hb_ hK_ hP_ 2 rfl (by decide) (y_) (by omega) (nt_ y_) (rfl) dX0_isFree_34 ?_
    refine q_bt (tgt := 42) hx_ hb_ dX0_isFree_35 (by decide) (fun c35_ => ?_) (fun c35_ => ?_)
    · skip
      refine lv_iconst (v := iI ((0 : Nat) : Int)) hx_ hb_ dX0_isFree_42 rfl ?_
      rw [← hQe]
      refine q_cast (b := bZ false) rfl ?_
      exact W.zret (v := _) hx_ hb_ hr (nar_bZ _) (fun tt1 htt1 hWW1 => ⟨_, rfl, congrArg iI (congrArg bZ (by rw [c35_]; simp)), htt1⟩) (fun q_ h_ => absurd h_ List.not_mem_nil) dX0_isFree_43
    · skip
      refine lv_iconst (v := iI ((1 : Nat) : Int)) hx_ hb_ dX0_isFree_38 rfl ?_
      refine lv_goto (tgt := 43) hx_ hb_ dX0_isFree_39 (by decide) ?_
      rw [← hQe]
      refine q_cast (b := bZ true) rfl ?_
      exact W.zret (v := _) hx_ hb_ hr (nar_bZ _) (fun tt1 htt1 hWW1 => ⟨_, rfl, congrArg iI (congrArg bZ (by rw [c16_, c35_]; rfl)), htt1⟩) (fun q_ h_ => absurd h_ List.not_mem_nil) dX0_isFree_43

set_option maxHeartbeats 4000000 in
set_option maxRecDepth 100000 in
/-- Aligner.isBetter -/
theorem c_X0_isBetter (l_ : Launch) (G_ : va_G) (cI cZ : ClassId) (h_ a_ b_ d_ : Nat) (ot_ nt_ : Nat → Bool) (ru_ : Nat → Nat) (bo_ bn_ bl_ : Nat) (x_ y_ : Nat) (hx0 : x_ ≤ 100) (hy0 : y_ ≤ 100) (hbl : bl_ ≤ 100) (hbn : bn_ ≤ 100) : Ro l_ yX0_isBetter wsX0_isBetter ({ frames := 0, cells := 0, slots := 0, locals := 0 }) G_ cI cZ [.ref h_, .int (iI ((x_ : Nat) : Int)), .int (iI ((y_ : Nat) : Int))] (wAl cI cZ h_ a_ b_ d_ ot_ nt_ ru_ bo_ bn_ bl_) (bZ (decide (bl_ < x_ ∨ (x_ = bl_ ∧ y_ < bn_)))) := by
  refine Met.ofW (cc := cX0_isBetter) (maxL := 3) (ret := (some .boolean)) (by decide) rfl ?_
  intro p_ e_ s_ m_ args below meth c_ s₁ B hml hv
  obtain ⟨hargs, hP_, hK_⟩ := hv
  have hx_ := B.exec
  have hb_ := B.bytes
  have hr := B.returns
  have hts := atoms_spec (ws := wsX0_isBetter) B.pre
  have hown : s_.vm.findClass RX0 = some m_.cls := findClass_of_methodNamed B.named
  have hlocks := B.notSynchronized
  have hi0_ : ∀ w_ ∈ wsX00, w_ ∈ wsX0_isBetter := by decide +kernel
  have hf26_ := hts (.fieldLink RX0 26 "RelocatingPatch$Aligner" "bestNew" "I") (by decide +kernel)
  have hf29_ := hts (.fieldLink RX0 29 "RelocatingPatch$Aligner" "bestLength" "I") (by decide +kernel)
  have hP_ : va_P G_ vwCl [(h_, .inr (0, [.ref a_, .ref b_, .ref d_, .int (iI ((bo_ : Nat) : Int)), .int (iI ((bn_ : Nat) : Int)), .int (iI ((bl_ : Nat) : Int))])), (a_, .inl (cZ, 48, .inl (aB ot_))), (b_, .inl (cZ, 48, .inl (aB nt_))), (d_, .inl (cI, 49, .inl (aN ru_)))] s_.heap := hP_
  generalize hQe : MQ below (vp_Si (fun r_ => r_ = iI (bZ (decide (bl_ < x_ ∨ (x_ = bl_ ∧ y_ < bn_)))))) args s_ 0 0 (fun _ => False) = Q_
  rw [show entryFrame m_ args 3 = entryFrame m_ ([.ref h_, .int (iI ((x_ : Nat) : Int)), .int (iI ((y_ : Nat) : Int))] : List Value).toArray 3 from by rw [hargs], lg_entry_eq]
  have hl_ := lv_entry ([.ref h_, .int (iI ((x_ : Nat) : Int)), .int (iI ((y_ : Nat) : Int))]) (n := 3) (Nat.le_of_ble_eq_true rfl)
  generalize (lg_sl ([.ref h_, .int (iI ((x_ : Nat) : Int)), .int (iI ((y_ : Nat) : Int))]) ++ List.replicate (3 - (lg_sl ([.ref h_, .int (iI ((x_ : Nat) : Int)), .int (iI ((y_ : Nat) : Int))])).length) Slot.unset).toArray = ls_ at hl_ ⊢
  have hl_ : lv_has ls_ 3 [(0, .ref h_), (1, .int (iI ((x_ : Nat) : Int))), (2, .int (iI ((y_ : Nat) : Int)))] := hl_
  refine lv_iload_n hx_ hb_ dX0_isBetter_0 rfl (lv_at hl_ 1 rfl) ?_
  refine lv_aload_n hx_ hb_ dX0_isBetter_1 rfl (lv_at hl_ 0 rfl) ?_
  refine va_get (D := G_) (ci := 0) (v := .int (iI ((bl_ : Nat) : Int))) (C := RX0) (T := TX0) (N := 6) hx_ hb_ hts hi0_ hown hK_ hP_ 0 rfl rfl 5 (by decide) hf29_ (fun _ h9 => h9) rfl dX0_isBetter_2 ?_
  refine q_icmp_gt (tgt := 24) hx_ hb_ dX0_isBetter_5 (by decide) (⟨by omega, by omega⟩) (⟨by omega, by omega⟩) (fun c5_ => ?_) (fun c5_ => ?_)
  · skip
    refine lv_iconst (v := iI ((1 : Nat) : Int)) hx_ hb_ dX0_isBetter_24 rfl ?_
    refine lv_goto (tgt := 29) hx_ hb_ dX0_isBetter_25 (by decide) ?_
    rw [← hQe]
    refine q_cast (b := bZ true) rfl ?_
    exact W.zret (v := _) hx_ hb_ hr (nar_bZ _) (fun tt1 htt1 hWW1 => ⟨_, rfl, congrArg iI (congrArg bZ (decide_eq_true (by omega)).symm), htt1⟩) (fun q_ h_ => absurd h_ List.not_mem_nil) dX0_isBetter_29
  · skip
    refine lv_iload_n hx_ hb_ dX0_isBetter_8 rfl (lv_at hl_ 1 rfl) ?_
    refine lv_aload_n hx_ hb_ dX0_isBetter_9 rfl (lv_at hl_ 0 rfl) ?_
    refine va_get (D := G_) (ci := 0) (v := .int (iI ((bl_ : Nat) : Int))) (C := RX0) (T := TX0) (N := 6) hx_ hb_ hts hi0_ hown hK_ hP_ 0 rfl rfl 5 (by decide) hf29_ (fun _ h9 => h9) rfl dX0_isBetter_10 ?_
    refine q_icmp_ne (tgt := 28) hx_ hb_ dX0_isBetter_13 (by decide) (⟨by omega, by omega⟩) (⟨by omega, by omega⟩) (fun c13_ => ?_) (fun c13_ => ?_)
    · skip
      refine lv_iconst (v := iI ((0 : Nat) : Int)) hx_ hb_ dX0_isBetter_28 rfl ?_
      rw [← hQe]
      refine q_cast (b := bZ false) rfl ?_
      exact W.zret (v := _) hx_ hb_ hr (nar_bZ _) (fun tt1 htt1 hWW1 => ⟨_, rfl, congrArg iI (congrArg bZ (decide_eq_false (by omega)).symm), htt1⟩) (fun q_ h_ => absurd h_ List.not_mem_nil) dX0_isBetter_29
    · skip
      refine lv_iload_n hx_ hb_ dX0_isBetter_16 rfl (lv_at hl_ 2 rfl) ?_
      refine lv_aload_n hx_ hb_ dX0_isBetter_17 rfl (lv_at hl_ 0 rfl) ?_
      refine va_get (D := G_) (ci := 0) (v := .int (iI ((bn_ : Nat) : Int))) (C := RX0) (T := TX0) (N := 6) hx_ hb_ hts hi0_ hown hK_ hP_ 0 rfl rfl 4 (by decide) hf26_ (fun _ h9 => h9) rfl dX0_isBetter_18 ?_
      refine q_icmp_ge (tgt := 28) hx_ hb_ dX0_isBetter_21 (by decide) (⟨by omega, by omega⟩) (⟨by omega, by omega⟩) (fun c21_ => ?_) (fun c21_ => ?_)
      · skip
        refine lv_iconst (v := iI ((0 : Nat) : Int)) hx_ hb_ dX0_isBetter_28 rfl ?_
        rw [← hQe]
        refine q_cast (b := bZ false) rfl ?_
        exact W.zret (v := _) hx_ hb_ hr (nar_bZ _) (fun tt1 htt1 hWW1 => ⟨_, rfl, congrArg iI (congrArg bZ (decide_eq_false (by omega)).symm), htt1⟩) (fun q_ h_ => absurd h_ List.not_mem_nil) dX0_isBetter_29
      · skip
        refine lv_iconst (v := iI ((1 : Nat) : Int)) hx_ hb_ dX0_isBetter_24 rfl ?_
        refine lv_goto (tgt := 29) hx_ hb_ dX0_isBetter_25 (by decide) ?_
        rw [← hQe]
        refine q_cast (b := bZ true) rfl ?_
        exact W.zret (v := _) hx_ hb_ hr (nar_bZ _) (fun tt1 htt1 hWW1 => ⟨_, rfl, congrArg iI (congrArg bZ (decide_eq_true (by omega)).symm), htt1⟩) (fun q_ h_ => absurd h_ List.not_mem_nil) dX0_isBetter_29

set_option maxHeartbeats 4000000 in
set_option maxRecDepth 100000 in
/-- Aligner.wordsMatch -/
theorem c_X0_wordsMatch (l_ : Launch) (G_ : va_G) (cI cZ : ClassId) (h1_ a1_ b1_ : Nat) (no_ : Nat) (vo_ : Nat → Int) (fo_ : Nat → Bool) (h2_ a2_ b2_ : Nat) (nn_ : Nat) (vn_ : Nat → Int) (fn_ : Nat → Bool) (x_ y_ : Nat) (hno : no_ ≤ 48) (hnn : nn_ ≤ 48) (hvo : ∀ j_, 0 ≤ vo_ j_ ∧ vo_ j_ ≤ 9999) (hvn : ∀ j_, 0 ≤ vn_ j_ ∧ vn_ j_ ≤ 9999) (hx0 : x_ < no_) (hy0 : y_ < nn_) : Ro l_ yX0_wordsMatch wsX0_wordsMatch ({ frames := 2, cells := 0, slots := 0, locals := 42 }) G_ cI cZ [.ref h1_, .int (iI ((x_ : Nat) : Int)), .ref h2_, .int (iI ((y_ : Nat) : Int))] (wIm cI cZ h1_ a1_ b1_ no_ vo_ fo_ ++ wIm cI cZ h2_ a2_ b2_ nn_ vn_ fn_) (bZ (mtc vo_ vn_ fo_ fn_ x_ y_)) := by
  refine Met.ofW (cc := cX0_wordsMatch) (maxL := 5) (ret := (some .boolean)) (by decide) rfl ?_
  intro p_ e_ s_ m_ args below meth c_ s₁ B hml hv
  obtain ⟨hargs, hP_, hK_⟩ := hv
  have hx_ := B.exec
  have hb_ := B.bytes
  have hr := B.returns
  have hts := atoms_spec (ws := wsX0_wordsMatch) B.pre
  have hown : s_.vm.findClass RX0 = some m_.cls := findClass_of_methodNamed B.named
  have hlocks := B.notSynchronized
  have hP_ : va_P G_ vwCl [(h1_, .inr (3, [.ref a1_, .ref b1_, .int (iI ((no_ : Nat) : Int))])), (a1_, .inl (cI, 48, .inl (aI vo_))), (b1_, .inl (cZ, 48, .inl (aB fo_))), (h2_, .inr (3, [.ref a2_, .ref b2_, .int (iI ((nn_ : Nat) : Int))])), (a2_, .inl (cI, 48, .inl (aI vn_))), (b2_, .inl (cZ, 48, .inl (aB fn_)))] s_.heap := hP_
  generalize hQe : MQ below (vp_Si (fun r_ => r_ = iI (bZ (mtc vo_ vn_ fo_ fn_ x_ y_)))) args s_ 0 0 (fun _ => False) = Q_
  have fv1 := hvo x_
  have fv2 := hvn y_
  rw [show entryFrame m_ args 5 = entryFrame m_ ([.ref h1_, .int (iI ((x_ : Nat) : Int)), .ref h2_, .int (iI ((y_ : Nat) : Int))] : List Value).toArray 5 from by rw [hargs], lg_entry_eq]
  have hl_ := lv_entry ([.ref h1_, .int (iI ((x_ : Nat) : Int)), .ref h2_, .int (iI ((y_ : Nat) : Int))]) (n := 5) (Nat.le_of_ble_eq_true rfl)
  generalize (lg_sl ([.ref h1_, .int (iI ((x_ : Nat) : Int)), .ref h2_, .int (iI ((y_ : Nat) : Int))]) ++ List.replicate (5 - (lg_sl ([.ref h1_, .int (iI ((x_ : Nat) : Int)), .ref h2_, .int (iI ((y_ : Nat) : Int))])).length) Slot.unset).toArray = ls_ at hl_ ⊢
  have hl_ : lv_has ls_ 5 [(0, .ref h1_), (1, .int (iI ((x_ : Nat) : Int))), (2, .ref h2_), (3, .int (iI ((y_ : Nat) : Int)))] := hl_
  refine lv_aload_n hx_ hb_ dX0_wordsMatch_0 rfl (lv_at hl_ 0 rfl) ?_
  refine lv_iload_n hx_ hb_ dX0_wordsMatch_1 rfl (lv_at hl_ 1 rfl) ?_
  refine ro_V (As := [.int (iI ((x_ : Nat) : Int))]) (rest := []) ⟨hx_, hb_, hml, hown, hts⟩ (c_X3_isAddress l_ G_ cI cZ h1_ a1_ b1_ no_ vo_ fo_ ((x_ : Nat) : Int) (by omega) (by omega) (by omega)) (cwV 1 hts gX0_wordsMatch_X3_isAddress rfl rfl rfl (by decide +kernel) ⟨Nat.le_of_ble_eq_true rfl, Nat.le_of_ble_eq_true rfl⟩) (hP_.sub (ws' := [(h1_, .inr (3, [.ref a1_, .ref b1_, .int (iI ((no_ : Nat) : Int))])), (a1_, .inl (cI, 48, .inl (aI vo_))), (b1_, .inl (cZ, 48, .inl (aB fo_)))]) [0, 1, 2] rfl) hK_ 0 rfl rfl rfl hl_.1 rfl (Nat.le_of_ble_eq_true rfl) dX0_wordsMatch_2 ⟨Nat.zero_le _, Nat.zero_le _⟩ ?_
  refine q_cast (b := (bZ (fo_ x_))) (congrArg bZ (fAt_in (by omega))) ?_
  refine lv_istore (lv' := [(4, .int (iI (bZ (fo_ x_)))), (0, .ref h1_), (1, .int (iI ((x_ : Nat) : Int))), (2, .ref h2_), (3, .int (iI ((y_ : Nat) : Int)))]) hx_ hb_ dX0_wordsMatch_5 hl_ (by decide) rfl (fun ls_ hl_ => ?_)
  refine lv_iload hx_ hb_ dX0_wordsMatch_7 (lv_at hl_ 0 rfl) ?_
  refine lv_aload_n hx_ hb_ dX0_wordsMatch_9 rfl (lv_at hl_ 3 rfl) ?_
  refine lv_iload_n hx_ hb_ dX0_wordsMatch_10 rfl (lv_at hl_ 4 rfl) ?_
  refine ro_V (As := [.int (iI ((y_ : Nat) : Int))]) (rest := [.int (iI (bZ (fo_ x_)))]) ⟨hx_, hb_, hml, hown, hts⟩ (c_X3_isAddress l_ G_ cI cZ h2_ a2_ b2_ nn_ vn_ fn_ ((y_ : Nat) : Int) (by omega) (by omega) (by omega)) (cwV 1 hts gX0_wordsMatch_X3_isAddress rfl rfl rfl (by decide +kernel) ⟨Nat.le_of_ble_eq_true rfl, Nat.le_of_ble_eq_true rfl⟩) (hP_.sub (ws' := [(h2_, .inr (3, [.ref a2_, .ref b2_, .int (iI ((nn_ : Nat) : Int))])), (a2_, .inl (cI, 48, .inl (aI vn_))), (b2_, .inl (cZ, 48, .inl (aB fn_)))]) [3, 4, 5] rfl) hK_ 0 rfl rfl rfl hl_.1 rfl (Nat.le_of_ble_eq_true rfl) dX0_wordsMatch_11 ⟨Nat.zero_le _, Nat.zero_le _⟩ ?_
  refine q_cast (b := (bZ (fn_ y_))) (congrArg bZ (fAt_in (by omega))) ?_
  refine q_icmp_eq (tgt := 19) hx_ hb_ dX0_wordsMatch_14 (by decide) (bZ_R _) (bZ_R _) (fun c14_ => ?_) (fun c14_ => ?_)
  · skip
    refine lv_iload hx_ hb_ dX0_wordsMatch_19 (lv_at hl_ 0 rfl) ?_
    refine q_bt (tgt := 37) hx_ hb_ dX0_wordsMatch_21 (by decide) (fun c21_ => ?_) (fun c21_ => ?_)
    · skip
      refine lv_iconst (v := iI ((1 : Nat) : Int)) hx_ hb_ dX0_wordsMatch_37 rfl ?_
      refine lv_goto (tgt := 42) hx_ hb_ dX0_wordsMatch_38 (by decide) ?_
      rw [← hQe]
      refine q_cast (b := bZ true) rfl ?_
      exact W.zret (v := _) hx_ hb_ hr (nar_bZ _) (fun tt1 htt1 hWW1 => ⟨_, rfl, congrArg iI (congrArg bZ (by unfold mtc; rw [if_pos (bZ_inj c14_), c21_]; rfl)), htt1⟩) (fun q_ h_ => absurd h_ List.not_mem_nil) dX0_wordsMatch_42
    · skip
      refine lv_aload_n hx_ hb_ dX0_wordsMatch_24 rfl (lv_at hl_ 1 rfl) ?_
      refine lv_iload_n hx_ hb_ dX0_wordsMatch_25 rfl (lv_at hl_ 2 rfl) ?_
      refine ro_V (As := [.int (iI ((x_ : Nat) : Int))]) (rest := []) ⟨hx_, hb_, hml, hown, hts⟩ (c_X3_valueAt l_ G_ cI cZ h1_ a1_ b1_ no_ vo_ fo_ ((x_ : Nat) : Int) (by omega) (by omega) (by omega)) (cwV 1 hts gX0_wordsMatch_X3_valueAt rfl rfl rfl (by decide +kernel) ⟨Nat.le_of_ble_eq_true rfl, Nat.le_of_ble_eq_true rfl⟩) (hP_.sub (ws' := [(h1_, .inr (3, [.ref a1_, .ref b1_, .int (iI ((no_ : Nat) : Int))])), (a1_, .inl (cI, 48, .inl (aI vo_))), (b1_, .inl (cZ, 48, .inl (aB fo_)))]) [0, 1, 2] rfl) hK_ 0 rfl rfl rfl hl_.1 rfl (Nat.le_of_ble_eq_true rfl) dX0_wordsMatch_26 ⟨Nat.zero_le _, Nat.zero_le _⟩ ?_
      refine q_cast (b := (vo_ x_)) (vAt_in (by omega)) ?_
      refine lv_aload_n hx_ hb_ dX0_wordsMatch_29 rfl (lv_at hl_ 3 rfl) ?_
      refine lv_iload_n hx_ hb_ dX0_wordsMatch_30 rfl (lv_at hl_ 4 rfl) ?_
      refine ro_V (As := [.int (iI ((y_ : Nat) : Int))]) (rest := [.int (iI (vo_ x_))]) ⟨hx_, hb_, hml, hown, hts⟩ (c_X3_valueAt l_ G_ cI cZ h2_ a2_ b2_ nn_ vn_ fn_ ((y_ : Nat) : Int) (by omega) (by omega) (by omega)) (cwV 1 hts gX0_wordsMatch_X3_valueAt rfl rfl rfl (by decide +kernel) ⟨Nat.le_of_ble_eq_true rfl, Nat.le_of_ble_eq_true rfl⟩) (hP_.sub (ws' := [(h2_, .inr (3, [.ref a2_, .ref b2_, .int (iI ((nn_ : Nat) : Int))])), (a2_, .inl (cI, 48, .inl (aI vn_))), (b2_, .inl (cZ, 48, .inl (aB fn_)))]) [3, 4, 5] rfl) hK_ 0 rfl rfl rfl hl_.1 rfl (Nat.le_of_ble_eq_true rfl) dX0_wordsMatch_31 ⟨Nat.zero_le _, Nat.zero_le _⟩ ?_
      refine q_cast (b := (vn_ y_)) (vAt_in (by omega)) ?_
      refine q_icmp_ne (tgt := 41) hx_ hb_ dX0_wordsMatch_34 (by decide) (⟨by omega, by omega⟩) (⟨by omega, by omega⟩) (fun c34_ => ?_) (fun c34_ => ?_)
      · skip
        refine lv_iconst (v := iI ((0 : Nat) : Int)) hx_ hb_ dX0_wordsMatch_41 rfl ?_
        rw [← hQe]
        refine q_cast (b := bZ false) rfl ?_
        exact W.zret (v := _) hx_ hb_ hr (nar_bZ _) (fun tt1 htt1 hWW1 => ⟨_, rfl, congrArg iI (congrArg bZ (by unfold mtc; rw [if_pos (bZ_inj c14_), c21_, decide_eq_false c34_]; rfl)), htt1⟩) (fun q_ h_ => absurd h_ List.not_mem_nil) dX0_wordsMatch_42
      · skip
        refine lv_iconst (v := iI ((1 : Nat) : Int)) hx_ hb_ dX0_wordsMatch_37 rfl ?_
        refine lv_goto (tgt := 42) hx_ hb_ dX0_wordsMatch_38 (by decide) ?_
        rw [← hQe]
        refine q_cast (b := bZ true) rfl ?_
        exact W.zret (v := _) hx_ hb_ hr (nar_bZ _) (fun tt1 htt1 hWW1 => ⟨_, rfl, congrArg iI (congrArg bZ (by unfold mtc; rw [if_pos (bZ_inj c14_), decide_eq_true c34_]; simp)), htt1⟩) (fun q_ h_ => absurd h_ List.not_mem_nil) dX0_wordsMatch_42
  · skip
    refine lv_iconst (v := iI ((0 : Nat) : Int)) hx_ hb_ dX0_wordsMatch_17 rfl ?_
    rw [← hQe]
    refine q_cast (b := bZ false) rfl ?_
    exact W.zret (v := _) hx_ hb_ hr (nar_bZ _) (fun tt1 htt1 hWW1 => ⟨_, rfl, congrArg iI (congrArg bZ (by unfold mtc; rw [if_neg (fun h_ => c14_ (congrArg bZ h_))])), htt1⟩) (fun q_ h_ => absurd h_ List.not_mem_nil) dX0_wordsMatch_18

set_option maxHeartbeats 4000000 in
set_option maxRecDepth 100000 in
/-- Aligner.freeAllWords -/
theorem c_X0_freeAllWords (l_ : Launch) (G_ : va_G) (cI cZ : ClassId) (h_ a_ b_ d_ : Nat) (ot_ nt_ : Nat → Bool) (ru_ : Nat → Nat) (bo_ bn_ bl_ : Nat) (sz : Nat) : Wr (S := (Nat → Bool) × (Nat → Bool)) l_ yX0_freeAllWords wsX0_freeAllWords ({ frames := 0, cells := 0, slots := 0, locals := 0 }) G_ cI cZ [.ref h_] (wAl cI cZ h_ a_ b_ d_ ot_ nt_ ru_ bo_ bn_ bl_) sz (fun u_ => ∀ j_, j_ < 48 → u_.1 j_ = false ∧ u_.2 j_ = false) (fun u_ => wAl cI cZ h_ a_ b_ d_ u_.1 u_.2 ru_ bo_ bn_ bl_) := by
  refine Met.ofW (cc := cX0_freeAllWords) (maxL := 2) (ret := (none)) (by decide) rfl ?_
  intro p_ e_ s_ m_ args below meth c_ s₁ B hml hv
  obtain ⟨hargs, hsz, hP_, hK_, hD0⟩ := hv
  have hx_ := B.exec
  have hb_ := B.bytes
  have hr := B.returns
  have hts := atoms_spec (ws := wsX0_freeAllWords) B.pre
  have hown : s_.vm.findClass RX0 = some m_.cls := findClass_of_methodNamed B.named
  have hlocks := B.notSynchronized
  have hi0_ : ∀ w_ ∈ wsX00, w_ ∈ wsX0_freeAllWords := by decide +kernel
  have hf9_ := hts (.fieldLink RX0 9 "RelocatingPatch$Aligner" "oldTaken" "[Z") (by decide +kernel)
  have hf15_ := hts (.fieldLink RX0 15 "RelocatingPatch$Aligner" "newTaken" "[Z") (by decide +kernel)
  subst hsz
  have hD_ := hD0.self (sz := s_.heap.size)
  generalize hAe : va_A (wAl cI cZ h_ a_ b_ d_ ot_ nt_ ru_ bo_ bn_ bl_) s_.heap.size = A_ at hD_ ⊢
  have hA_ : ∀ q_ : Nat, s_.heap.size ≤ q_ → A_ q_ := fun q_ h_ => by rw [← hAe]; exact Or.inr h_
  have hS_ : va_S A_ s_.heap s_.heap [] := va_S.rf
  have hP_ : va_P G_ vwCl [(h_, .inr (0, [.ref a_, .ref b_, .ref d_, .int (iI ((bo_ : Nat) : Int)), .int (iI ((bn_ : Nat) : Int)), .int (iI ((bl_ : Nat) : Int))])), (a_, .inl (cZ, 48, .inl (aB ot_))), (b_, .inl (cZ, 48, .inl (aB nt_))), (d_, .inl (cI, 49, .inl (aN ru_)))] s_.heap := hP_
  have hD_ : va_D A_ [(h_, .inr (0, [.ref a_, .ref b_, .ref d_, .int (iI ((bo_ : Nat) : Int)), .int (iI ((bn_ : Nat) : Int)), .int (iI ((bl_ : Nat) : Int))])), (a_, .inl (cZ, 48, .inl (aB ot_))), (b_, .inl (cZ, 48, .inl (aB nt_))), (d_, .inl (cI, 49, .inl (aN ru_)))] := hD_
  generalize hQe : MQ below (va_Qv (S := (Nat → Bool) × (Nat → Bool)) (fun u_ => ∀ j_, j_ < 48 → u_.1 j_ = false ∧ u_.2 j_ = false) (fun u1 t1 => va_P G_ vwCl ((fun u_ => wAl cI cZ h_ a_ b_ d_ u_.1 u_.2 ru_ bo_ bn_ bl_) u1) t1.heap) A_) args s_ 0 0 A_ = Q_
  have lp2 : ∀ (n_ : Nat) (i_ : Nat) (o1_ : Nat → Bool) (n1_ : Nat → Bool) (H_ : Heap) (locs : List Loc) (ls_ : Array Slot), (i_ ≤ 48) → (49 ≤ i_ + n_) → (∀ j_, j_ < i_ → o1_ j_ = false ∧ n1_ j_ = false) → va_P G_ vwCl [(h_, .inr (0, [.ref a_, .ref b_, .ref d_, .int (iI ((bo_ : Nat) : Int)), .int (iI ((bn_ : Nat) : Int)), .int (iI ((bl_ : Nat) : Int))])), (a_, .inl (cZ, 48, .inl (aB o1_))), (b_, .inl (cZ, 48, .inl (aB n1_))), (d_, .inl (cI, 49, .inl (aN ru_)))] H_ → va_D A_ [(h_, .inr (0, [.ref a_, .ref b_, .ref d_, .int (iI ((bo_ : Nat) : Int)), .int (iI ((bn_ : Nat) : Int)), .int (iI ((bl_ : Nat) : Int))])), (a_, .inl (cZ, 48, .inl (aB o1_))), (b_, .inl (cZ, 48, .inl (aB n1_))), (d_, .inl (cI, 49, .inl (aN ru_)))] → va_S A_ s_.heap H_ locs → lv_has ls_ 2 [(0, .ref h_), (1, .int (iI ((i_ : Nat) : Int)))] → W p_ l_ e_ (headSpec wsX0_freeAllWords ({ frames := 0, cells := 0, slots := 0, locals := 0 })).room s_ m_ args below meth c_ H_ locs 0 0 Q_ (F0 m_ 2 ls_ []) := by
    intro n_
    induction n_ with
    | zero =>
      intro i_ o1_ n1_ H_ locs ls_ hi_ hn_ hz
      exact False.elim (by omega)
    | succ n_ ih_ =>
      intro i_ o1_ n1_ H_ locs ls_ hi_ hn_ hz hP_ hD_ hS_ hl_
      refine lv_iload_n hx_ hb_ dX0_freeAllWords_2 rfl (lv_at hl_ 1 rfl) ?_
      refine lv_bipush (v := iI ((48 : Nat) : Int)) hx_ hb_ dX0_freeAllWords_3 rfl ?_
      refine q_icmp_ge (tgt := 28) hx_ hb_ dX0_freeAllWords_5 (by decide) (⟨by omega, by omega⟩) (⟨by decide, by decide⟩) (fun c5_ => ?_) (fun c5_ => ?_)
      · skip
        rw [← hQe]
        exact W.vret hx_ hb_ hr (fun tt1 htt1 hWW1 => ⟨⟨(o1_, n1_), rfl, fun j_ hj_ => hz j_ (by omega), by show va_P G_ vwCl _ tt1.heap; rw [htt1]; exact hP_⟩, hS_.F htt1⟩) hS_.2.2 dX0_freeAllWords_28
      · skip
        refine lv_aload_n hx_ hb_ dX0_freeAllWords_8 rfl (lv_at hl_ 0 rfl) ?_
        refine va_get (D := G_) (ci := 0) (v := .ref a_) (C := RX0) (T := TX0) (N := 6) hx_ hb_ hts hi0_ hown hK_ hP_ 0 rfl rfl 0 (by decide) hf9_ (fun _ h9 => h9) rfl dX0_freeAllWords_9 ?_
        refine lv_iload_n hx_ hb_ dX0_freeAllWords_12 rfl (lv_at hl_ 1 rfl) ?_
        refine lv_iconst (v := iI ((0 : Nat) : Int)) hx_ hb_ dX0_freeAllWords_13 rfl ?_
        refine q_cast (b := bZ (false)) rfl ?_
        refine q_zst hx_ hb_ hK_ hP_ hD_ hS_ 1 rfl (by decide) (i_) (by omega) (false) dX0_freeAllWords_14 (ws' := [(h_, .inr (0, [.ref a_, .ref b_, .ref d_, .int (iI ((bo_ : Nat) : Int)), .int (iI ((bn_ : Nat) : Int)), .int (iI ((bl_ : Nat) : Int))])), (a_, .inl (cZ, 48, .inl (aB (va_up o1_ i_ false)))), (b_, .inl (cZ, 48, .inl (aB n1_))), (d_, .inl (cI, 49, .inl (aN ru_)))]) rfl (fun H_ locs hP_ hD_ hS_ => ?_)
        refine lv_aload_n hx_ hb_ dX0_freeAllWords_15 rfl (lv_at hl_ 0 rfl) ?_
        refine va_get (D := G_) (ci := 0) (v := .ref b_) (C := RX0) (T := TX0) (N := 6) hx_ hb_ hts hi0_ hown hK_ hP_ 0 rfl rfl 1 (by decide) hf15_ (fun _ h9 => h9) rfl dX0_freeAllWords_16 ?_
        refine lv_iload_n hx_ hb_ dX0_freeAllWords_19 rfl (lv_at hl_ 1 rfl) ?_
        refine lv_iconst (v := iI ((0 : Nat) : Int)) hx_ hb_ dX0_freeAllWords_20 rfl ?_
        refine q_cast (b := bZ (false)) rfl ?_
        refine q_zst hx_ hb_ hK_ hP_ hD_ hS_ 2 rfl (by decide) (i_) (by omega) (false) dX0_freeAllWords_21 (ws' := [(h_, .inr (0, [.ref a_, .ref b_, .ref d_, .int (iI ((bo_ : Nat) : Int)), .int (iI ((bn_ : Nat) : Int)), .int (iI ((bl_ : Nat) : Int))])), (a_, .inl (cZ, 48, .inl (aB (va_up o1_ i_ false)))), (b_, .inl (cZ, 48, .inl (aB (va_up n1_ i_ false)))), (d_, .inl (cI, 49, .inl (aN ru_)))]) rfl (fun H_ locs hP_ hD_ hS_ => ?_)
        refine q_iinc (k := 1) ((i_ + 1 : Nat) : Int) hx_ hb_ dX0_freeAllWords_22 hl_ rfl (rfl) (by decide) (lv' := [(1, .int (iI ((i_ + 1 : Nat) : Int))), (0, .ref h_)]) rfl (fun ls_ hl_ => ?_)
        refine lv_goto (tgt := 2) hx_ hb_ dX0_freeAllWords_25 (by decide) ?_
        exact ih_ (i_ + 1) (va_up o1_ i_ false) (va_up n1_ i_ false) _ _ ls_ (by omega) (by omega) (fun j_ hj_ => by by_cases h0_ : j_ = i_; simp [va_up, h0_]; simp only [va_up, if_neg h0_]; exact hz j_ (by omega)) hP_ hD_ hS_ (lv_sub hl_ [1, 0] rfl)
  rw [show entryFrame m_ args 2 = entryFrame m_ ([.ref h_] : List Value).toArray 2 from by rw [hargs], lg_entry_eq]
  have hl_ := lv_entry ([.ref h_]) (n := 2) (Nat.le_of_ble_eq_true rfl)
  generalize (lg_sl ([.ref h_]) ++ List.replicate (2 - (lg_sl ([.ref h_])).length) Slot.unset).toArray = ls_ at hl_ ⊢
  have hl_ : lv_has ls_ 2 [(0, .ref h_)] := hl_
  refine lv_iconst (v := iI ((0 : Nat) : Int)) hx_ hb_ dX0_freeAllWords_0 rfl ?_
  refine lv_istore_n (lv' := [(1, .int (iI ((0 : Nat) : Int))), (0, .ref h_)]) hx_ hb_ dX0_freeAllWords_1 rfl hl_ (by decide) rfl (fun ls_ hl_ => ?_)
  exact lp2 (49) 0 ot_ nt_ _ _ ls_ (by omega) (by omega) (fun j_ hj_ => absurd hj_ (Nat.not_lt_zero _)) hP_ hD_ hS_ (lv_sub hl_ [1, 0] rfl)

theorem tk_step {f_ g_ : Nat → Bool} {b_ i_ j_ : Nat} (h_ : f_ j_ = (g_ j_ || decide (b_ ≤ j_ ∧ j_ < b_ + i_))) : va_up f_ (b_ + i_) true j_ = (g_ j_ || decide (b_ ≤ j_ ∧ j_ < b_ + (i_ + 1))) := by
  by_cases h0_ : j_ = b_ + i_
  · rw [h0_]; simp only [va_up, if_pos]; rw [decide_eq_true (by omega)]; simp
  · simp only [va_up, if_neg h0_]; rw [h_]; congr 1; exact decide_eq_decide.mpr ⟨fun h1_ => by omega, fun h1_ => by omega⟩

set_option maxHeartbeats 4000000 in
set_option maxRecDepth 100000 in
/-- Aligner.takeLongestRun -/
theorem c_X0_takeLongestRun (l_ : Launch) (G_ : va_G) (cI cZ : ClassId) (h_ a_ b_ d_ : Nat) (ot_ nt_ : Nat → Bool) (ru_ : Nat → Nat) (bo_ bn_ bl_ : Nat) (hfr : ∀ t_, t_ < bl_ → ot_ (bo_ + t_) = false ∧ nt_ (bn_ + t_) = false) (hb1 : bo_ + bl_ ≤ 48) (hb2 : bn_ + bl_ ≤ 48) (sz : Nat) : Wr (S := (Nat → Bool) × (Nat → Bool)) l_ yX0_takeLongestRun wsX0_takeLongestRun ({ frames := 1, cells := 0, slots := 0, locals := 22 }) G_ cI cZ [.ref h_] (wAl cI cZ h_ a_ b_ d_ ot_ nt_ ru_ bo_ bn_ bl_) sz (fun u_ => ∀ j_, j_ < 48 → u_.1 j_ = (ot_ j_ || decide (bo_ ≤ j_ ∧ j_ < bo_ + bl_)) ∧ u_.2 j_ = (nt_ j_ || decide (bn_ ≤ j_ ∧ j_ < bn_ + bl_))) (fun u_ => wAl cI cZ h_ a_ b_ d_ u_.1 u_.2 ru_ bo_ bn_ bl_) := by
  refine Met.ofW (cc := cX0_takeLongestRun) (maxL := 2) (ret := (none)) (by decide) rfl ?_
  intro p_ e_ s_ m_ args below meth c_ s₁ B hml hv
  obtain ⟨hargs, hsz, hP_, hK_, hD0⟩ := hv
  have hx_ := B.exec
  have hb_ := B.bytes
  have hr := B.returns
  have hts := atoms_spec (ws := wsX0_takeLongestRun) B.pre
  have hown : s_.vm.findClass RX0 = some m_.cls := findClass_of_methodNamed B.named
  have hlocks := B.notSynchronized
  have hi0_ : ∀ w_ ∈ wsX00, w_ ∈ wsX0_takeLongestRun := by decide +kernel
  have hf9_ := hts (.fieldLink RX0 9 "RelocatingPatch$Aligner" "oldTaken" "[Z") (by decide +kernel)
  have hf15_ := hts (.fieldLink RX0 15 "RelocatingPatch$Aligner" "newTaken" "[Z") (by decide +kernel)
  have hf22_ := hts (.fieldLink RX0 22 "RelocatingPatch$Aligner" "bestOld" "I") (by decide +kernel)
  have hf26_ := hts (.fieldLink RX0 26 "RelocatingPatch$Aligner" "bestNew" "I") (by decide +kernel)
  have hf29_ := hts (.fieldLink RX0 29 "RelocatingPatch$Aligner" "bestLength" "I") (by decide +kernel)
  subst hsz
  have hD_ := hD0.self (sz := s_.heap.size)
  generalize hAe : va_A (wAl cI cZ h_ a_ b_ d_ ot_ nt_ ru_ bo_ bn_ bl_) s_.heap.size = A_ at hD_ ⊢
  have hA_ : ∀ q_ : Nat, s_.heap.size ≤ q_ → A_ q_ := fun q_ h_ => by rw [← hAe]; exact Or.inr h_
  have hS_ : va_S A_ s_.heap s_.heap [] := va_S.rf
  have hP_ : va_P G_ vwCl [(h_, .inr (0, [.ref a_, .ref b_, .ref d_, .int (iI ((bo_ : Nat) : Int)), .int (iI ((bn_ : Nat) : Int)), .int (iI ((bl_ : Nat) : Int))])), (a_, .inl (cZ, 48, .inl (aB ot_))), (b_, .inl (cZ, 48, .inl (aB nt_))), (d_, .inl (cI, 49, .inl (aN ru_)))] s_.heap := hP_
  have hD_ : va_D A_ [(h_, .inr (0, [.ref a_, .ref b_, .ref d_, .int (iI ((bo_ : Nat) : Int)), .int (iI ((bn_ : Nat) : Int)), .int (iI ((bl_ : Nat) : Int))])), (a_, .inl (cZ, 48, .inl (aB ot_))), (b_, .inl (cZ, 48, .inl (aB nt_))), (d_, .inl (cI, 49, .inl (aN ru_)))] := hD_
  generalize hQe : MQ below (va_Qv (S := (Nat → Bool) × (Nat → Bool)) (fun u_ => ∀ j_, j_ < 48 → u_.1 j_ = (ot_ j_ || decide (bo_ ≤ j_ ∧ j_ < bo_ + bl_)) ∧ u_.2 j_ = (nt_ j_ || decide (bn_ ≤ j_ ∧ j_ < bn_ + bl_))) (fun u1 t1 => va_P G_ vwCl ((fun u_ => wAl cI cZ h_ a_ b_ d_ u_.1 u_.2 ru_ bo_ bn_ bl_) u1) t1.heap) A_) args s_ 0 0 A_ = Q_
  have lp2 : ∀ (n_ : Nat) (i_ : Nat) (o1_ : Nat → Bool) (n1_ : Nat → Bool) (H_ : Heap) (locs : List Loc) (ls_ : Array Slot), (i_ ≤ bl_) → (bl_ + 1 ≤ i_ + n_) → (∀ j_, j_ < 48 → o1_ j_ = (ot_ j_ || decide (bo_ ≤ j_ ∧ j_ < bo_ + i_)) ∧ n1_ j_ = (nt_ j_ || decide (bn_ ≤ j_ ∧ j_ < bn_ + i_))) → va_P G_ vwCl [(h_, .inr (0, [.ref a_, .ref b_, .ref d_, .int (iI ((bo_ : Nat) : Int)), .int (iI ((bn_ : Nat) : Int)), .int (iI ((bl_ : Nat) : Int))])), (a_, .inl (cZ, 48, .inl (aB o1_))), (b_, .inl (cZ, 48, .inl (aB n1_))), (d_, .inl (cI, 49, .inl (aN ru_)))] H_ → va_D A_ [(h_, .inr (0, [.ref a_, .ref b_, .ref d_, .int (iI ((bo_ : Nat) : Int)), .int (iI ((bn_ : Nat) : Int)), .int (iI ((bl_ : Nat) : Int))])), (a_, .inl (cZ, 48, .inl (aB o1_))), (b_, .inl (cZ, 48, .inl (aB n1_))), (d_, .inl (cI, 49, .inl (aN ru_)))] → va_S A_ s_.heap H_ locs → lv_has ls_ 2 [(0, .ref h_), (1, .int (iI ((i_ : Nat) : Int)))] → W p_ l_ e_ (headSpec wsX0_takeLongestRun ({ frames := 1, cells := 0, slots := 0, locals := 22 })).room s_ m_ args below meth c_ H_ locs 0 0 Q_ (F0 m_ 2 ls_ []) := by
    intro n_
    induction n_ with
    | zero =>
      intro i_ o1_ n1_ H_ locs ls_ hi_ hn_ hz
      exact False.elim (by omega)
    | succ n_ ih_ =>
      intro i_ o1_ n1_ H_ locs ls_ hi_ hn_ hz hP_ hD_ hS_ hl_
      refine lv_iload_n hx_ hb_ dX0_takeLongestRun_2 rfl (lv_at hl_ 1 rfl) ?_
      refine lv_aload_n hx_ hb_ dX0_takeLongestRun_3 rfl (lv_at hl_ 0 rfl) ?_
      refine va_get (D := G_) (ci := 0) (v := .int (iI ((bl_ : Nat) : Int))) (C := RX0) (T := TX0) (N := 6) hx_ hb_ hts hi0_ hown hK_ hP_ 0 rfl rfl 5 (by decide) hf29_ (fun _ h9 => h9) rfl dX0_takeLongestRun_4 ?_
      refine q_icmp_ge (tgt := 59) hx_ hb_ dX0_takeLongestRun_7 (by decide) (⟨by omega, by omega⟩) (⟨by omega, by omega⟩) (fun c7_ => ?_) (fun c7_ => ?_)
      · skip
        rw [← hQe]
        exact W.vret hx_ hb_ hr (fun tt1 htt1 hWW1 => ⟨⟨(o1_, n1_), rfl, by have e0 : i_ = bl_ := (by omega); rw [e0] at hz; exact hz, by show va_P G_ vwCl _ tt1.heap; rw [htt1]; exact hP_⟩, hS_.F htt1⟩) hS_.2.2 dX0_takeLongestRun_59
      · skip
        refine lv_aload_n hx_ hb_ dX0_takeLongestRun_10 rfl (lv_at hl_ 0 rfl) ?_
        refine lv_aload_n hx_ hb_ dX0_takeLongestRun_11 rfl (lv_at hl_ 0 rfl) ?_
        refine va_get (D := G_) (ci := 0) (v := .int (iI ((bo_ : Nat) : Int))) (C := RX0) (T := TX0) (N := 6) hx_ hb_ hts hi0_ hown hK_ hP_ 0 rfl rfl 3 (by decide) hf22_ (fun _ h9 => h9) rfl dX0_takeLongestRun_12 ?_
        refine lv_iload_n hx_ hb_ dX0_takeLongestRun_15 rfl (lv_at hl_ 1 rfl) ?_
        refine q_iaddN hx_ hb_ dX0_takeLongestRun_16 ?_
        refine lv_aload_n hx_ hb_ dX0_takeLongestRun_17 rfl (lv_at hl_ 0 rfl) ?_
        refine va_get (D := G_) (ci := 0) (v := .int (iI ((bn_ : Nat) : Int))) (C := RX0) (T := TX0) (N := 6) hx_ hb_ hts hi0_ hown hK_ hP_ 0 rfl rfl 4 (by decide) hf26_ (fun _ h9 => h9) rfl dX0_takeLongestRun_18 ?_
        refine lv_iload_n hx_ hb_ dX0_takeLongestRun_21 rfl (lv_at hl_ 1 rfl) ?_
        refine q_iaddN hx_ hb_ dX0_takeLongestRun_22 ?_
        refine ro_V (As := [.int (iI ((bo_ + i_ : Nat) : Int)), .int (iI ((bn_ + i_ : Nat) : Int))]) (rest := []) ⟨hx_, hb_, hml, hown, hts⟩ (c_X0_isFree l_ G_ cI cZ h_ a_ b_ d_ o1_ n1_ ru_ bo_ bn_ bl_ (bo_ + i_) (bn_ + i_) (by omega) (by omega)) (cwV 2 hts gX0_takeLongestRun_X0_isFree rfl rfl rfl (by decide +kernel) ⟨Nat.le_of_ble_eq_true rfl, Nat.le_of_ble_eq_true rfl⟩) (hP_.sub (ws' := [(h_, .inr (0, [.ref a_, .ref b_, .ref d_, .int (iI ((bo_ : Nat) : Int)), .int (iI ((bn_ : Nat) : Int)), .int (iI ((bl_ : Nat) : Int))])), (a_, .inl (cZ, 48, .inl (aB o1_))), (b_, .inl (cZ, 48, .inl (aB n1_))), (d_, .inl (cI, 49, .inl (aN ru_)))]) [0, 1, 2, 3] rfl) hK_ 0 rfl rfl rfl hl_.1 rfl (Nat.le_of_ble_eq_true rfl) dX0_takeLongestRun_23 ⟨Nat.zero_le _, Nat.zero_le _⟩ ?_
        refine q_bf (tgt := 53) hx_ hb_ dX0_takeLongestRun_26 (by decide) (fun c26_ => absurd c26_ (by rw [(hz (bo_ + i_) (by omega)).1, (hz (bn_ + i_) (by omega)).2, (hfr i_ (by omega)).1, (hfr i_ (by omega)).2, decide_eq_false (show ¬ (bo_ ≤ bo_ + i_ ∧ bo_ + i_ < bo_ + i_) by omega), decide_eq_false (show ¬ (bn_ ≤ bn_ + i_ ∧ bn_ + i_ < bn_ + i_) by omega)]; decide)) (fun c26_ => ?_)
        refine lv_aload_n hx_ hb_ dX0_takeLongestRun_29 rfl (lv_at hl_ 0 rfl) ?_
        refine va_get (D := G_) (ci := 0) (v := .ref a_) (C := RX0) (T := TX0) (N := 6) hx_ hb_ hts hi0_ hown hK_ hP_ 0 rfl rfl 0 (by decide) hf9_ (fun _ h9 => h9) rfl dX0_takeLongestRun_30 ?_
        refine lv_aload_n hx_ hb_ dX0_takeLongestRun_33 rfl (lv_at hl_ 0 rfl) ?_
        refine va_get (D := G_) (ci := 0) (v := .int (iI ((bo_ : Nat) : Int))) (C := RX0) (T := TX0) (N := 6) hx_ hb_ hts hi0_ hown hK_ hP_ 0 rfl rfl 3 (by decide) hf22_ (fun _ h9 => h9) rfl dX0_takeLongestRun_34 ?_
        refine lv_iload_n hx_ hb_ dX0_takeLongestRun_37 rfl (lv_at hl_ 1 rfl) ?_
        refine q_iaddN hx_ hb_ dX0_takeLongestRun_38 ?_
        refine lv_iconst (v := iI ((1 : Nat) : Int)) hx_ hb_ dX0_takeLongestRun_39 rfl ?_
        refine q_cast (b := bZ (true)) rfl ?_
        refine q_zst hx_ hb_ hK_ hP_ hD_ hS_ 1 rfl (by decide) (bo_ + i_) (by omega) (true) dX0_takeLongestRun_40 (ws' := [(h_, .inr (0, [.ref a_, .ref b_, .ref d_, .int (iI ((bo_ : Nat) : Int)), .int (iI ((bn_ : Nat) : Int)), .int (iI ((bl_ : Nat) : Int))])), (a_, .inl (cZ, 48, .inl (aB (va_up o1_ (bo_ + i_) true)))), (b_, .inl (cZ, 48, .inl (aB n1_))), (d_, .inl (cI, 49, .inl (aN ru_)))]) rfl (fun H_ locs hP_ hD_ hS_ => ?_)
        refine lv_aload_n hx_ hb_ dX0_takeLongestRun_41 rfl (lv_at hl_ 0 rfl) ?_
        refine va_get (D := G_) (ci := 0) (v := .ref b_) (C := RX0) (T := TX0) (N := 6) hx_ hb_ hts hi0_ hown hK_ hP_ 0 rfl rfl 1 (by decide) hf15_ (fun _ h9 => h9) rfl dX0_takeLongestRun_42 ?_
        refine lv_aload_n hx_ hb_ dX0_takeLongestRun_45 rfl (lv_at hl_ 0 rfl) ?_
        refine va_get (D := G_) (ci := 0) (v := .int (iI ((bn_ : Nat) : Int))) (C := RX0) (T := TX0) (N := 6) hx_ hb_ hts hi0_ hown hK_ hP_ 0 rfl rfl 4 (by decide) hf26_ (fun _ h9 => h9) rfl dX0_takeLongestRun_46 ?_
        refine lv_iload_n hx_ hb_ dX0_takeLongestRun_49 rfl (lv_at hl_ 1 rfl) ?_
        refine q_iaddN hx_ hb_ dX0_takeLongestRun_50 ?_
        refine lv_iconst (v := iI ((1 : Nat) : Int)) hx_ hb_ dX0_takeLongestRun_51 rfl ?_
        refine q_cast (b := bZ (true)) rfl ?_
        refine q_zst hx_ hb_ hK_ hP_ hD_ hS_ 2 rfl (by decide) (bn_ + i_) (by omega) (true) dX0_takeLongestRun_52 (ws' := [(h_, .inr (0, [.ref a_, .ref b_, .ref d_, .int (iI ((bo_ : Nat) : Int)), .int (iI ((bn_ : Nat) : Int)), .int (iI ((bl_ : Nat) : Int))])), (a_, .inl (cZ, 48, .inl (aB (va_up o1_ (bo_ + i_) true)))), (b_, .inl (cZ, 48, .inl (aB (va_up n1_ (bn_ + i_) true)))), (d_, .inl (cI, 49, .inl (aN ru_)))]) rfl (fun H_ locs hP_ hD_ hS_ => ?_)
        refine q_iinc (k := 1) ((i_ + 1 : Nat) : Int) hx_ hb_ dX0_takeLongestRun_53 hl_ rfl (rfl) (by decide) (lv' := [(1, .int (iI ((i_ + 1 : Nat) : Int))), (0, .ref h_)]) rfl (fun ls_ hl_ => ?_)
        refine lv_goto (tgt := 2) hx_ hb_ dX0_takeLongestRun_56 (by decide) ?_
        exact ih_ (i_ + 1) (va_up o1_ (bo_ + i_) true) (va_up n1_ (bn_ + i_) true) _ _ ls_ (by omega) (by omega) (fun j_ hj_ => ⟨tk_step (hz j_ hj_).1, tk_step (hz j_ hj_).2⟩) hP_ hD_ hS_ (lv_sub hl_ [1, 0] rfl)
  rw [show entryFrame m_ args 2 = entryFrame m_ ([.ref h_] : List Value).toArray 2 from by rw [hargs], lg_entry_eq]
  have hl_ := lv_entry ([.ref h_]) (n := 2) (Nat.le_of_ble_eq_true rfl)
  generalize (lg_sl ([.ref h_]) ++ List.replicate (2 - (lg_sl ([.ref h_])).length) Slot.unset).toArray = ls_ at hl_ ⊢
  have hl_ : lv_has ls_ 2 [(0, .ref h_)] := hl_
  refine lv_iconst (v := iI ((0 : Nat) : Int)) hx_ hb_ dX0_takeLongestRun_0 rfl ?_
  refine lv_istore_n (lv' := [(1, .int (iI ((0 : Nat) : Int))), (0, .ref h_)]) hx_ hb_ dX0_takeLongestRun_1 rfl hl_ (by decide) rfl (fun ls_ hl_ => ?_)
  exact lp2 (bl_ + 1) 0 ot_ nt_ _ _ ls_ (by omega) (by omega) (fun j_ hj_ => ⟨by rw [decide_eq_false (by omega)]; simp, by rw [decide_eq_false (by omega)]; simp⟩) hP_ hD_ hS_ (lv_sub hl_ [1, 0] rfl)

set_option maxHeartbeats 4000000 in
set_option maxRecDepth 100000 in
/-- Aligner.extendRuns -/
theorem c_X0_extendRuns (l_ : Launch) (G_ : va_G) (cI cZ : ClassId) (h_ a_ b_ d_ : Nat) (ot_ nt_ : Nat → Bool) (ru_ : Nat → Nat) (bo_ bn_ bl_ : Nat) (h1_ a1_ b1_ : Nat) (no_ : Nat) (vo_ : Nat → Int) (fo_ : Nat → Bool) (h2_ a2_ b2_ : Nat) (nn_ : Nat) (vn_ : Nat → Int) (fn_ : Nat → Bool) (y_ : Nat) (hno : no_ ≤ 48) (hnn : nn_ ≤ 48) (hvo : ∀ j_, 0 ≤ vo_ j_ ∧ vo_ j_ ≤ 9999) (hvn : ∀ j_, 0 ≤ vn_ j_ ∧ vn_ j_ ≤ 9999) (hy0 : y_ < nn_) (hru : ∀ j_, j_ ≤ 48 → ru_ j_ = rn (Mf no_ nn_ (mtc vo_ vn_ fo_ fn_) ot_ nt_) nn_ j_ (y_ + 1)) (hpb : PB no_ nn_ (Mf no_ nn_ (mtc vo_ vn_ fo_ fn_) ot_ nt_) (RC y_ 0) bl_ bn_ bo_) (sz : Nat) : Wr (S := (Nat → Nat) × Nat × Nat × Nat) l_ yX0_extendRuns wsX0_extendRuns ({ frames := 3, cells := 0, slots := 0, locals := 66 }) G_ cI cZ [.ref h_, .ref h1_, .ref h2_, .int (iI ((y_ : Nat) : Int))] (wAl cI cZ h_ a_ b_ d_ ot_ nt_ ru_ bo_ bn_ bl_ ++ (wIm cI cZ h1_ a1_ b1_ no_ vo_ fo_ ++ wIm cI cZ h2_ a2_ b2_ nn_ vn_ fn_)) sz (fun u_ => (∀ j_, j_ ≤ 48 → u_.1 j_ = rn (Mf no_ nn_ (mtc vo_ vn_ fo_ fn_) ot_ nt_) nn_ j_ y_) ∧ PB no_ nn_ (Mf no_ nn_ (mtc vo_ vn_ fo_ fn_) ot_ nt_) (RC y_ no_) u_.2.2.2 u_.2.2.1 u_.2.1) (fun u_ => wAl cI cZ h_ a_ b_ d_ ot_ nt_ u_.1 u_.2.1 u_.2.2.1 u_.2.2.2 ++ (wIm cI cZ h1_ a1_ b1_ no_ vo_ fo_ ++ wIm cI cZ h2_ a2_ b2_ nn_ vn_ fn_)) := by
  refine Met.ofW (cc := cX0_extendRuns) (maxL := 7) (ret := (none)) (by decide) rfl ?_
  intro p_ e_ s_ m_ args below meth c_ s₁ B hml hv
  obtain ⟨hargs, hsz, hP_, hK_, hD0⟩ := hv
  have hx_ := B.exec
  have hb_ := B.bytes
  have hr := B.returns
  have hts := atoms_spec (ws := wsX0_extendRuns) B.pre
  have hown : s_.vm.findClass RX0 = some m_.cls := findClass_of_methodNamed B.named
  have hlocks := B.notSynchronized
  have hi0_ : ∀ w_ ∈ wsX00, w_ ∈ wsX0_extendRuns := by decide +kernel
  have hf18_ := hts (.fieldLink RX0 18 "RelocatingPatch$Aligner" "runs" "[I") (by decide +kernel)
  have hf22_ := hts (.fieldLink RX0 22 "RelocatingPatch$Aligner" "bestOld" "I") (by decide +kernel)
  have hf26_ := hts (.fieldLink RX0 26 "RelocatingPatch$Aligner" "bestNew" "I") (by decide +kernel)
  have hf29_ := hts (.fieldLink RX0 29 "RelocatingPatch$Aligner" "bestLength" "I") (by decide +kernel)
  subst hsz
  have hD_ := hD0.self (sz := s_.heap.size)
  generalize hAe : va_A (wAl cI cZ h_ a_ b_ d_ ot_ nt_ ru_ bo_ bn_ bl_ ++ (wIm cI cZ h1_ a1_ b1_ no_ vo_ fo_ ++ wIm cI cZ h2_ a2_ b2_ nn_ vn_ fn_)) s_.heap.size = A_ at hD_ ⊢
  have hA_ : ∀ q_ : Nat, s_.heap.size ≤ q_ → A_ q_ := fun q_ h_ => by rw [← hAe]; exact Or.inr h_
  have hS_ : va_S A_ s_.heap s_.heap [] := va_S.rf
  have hP_ : va_P G_ vwCl [(h_, .inr (0, [.ref a_, .ref b_, .ref d_, .int (iI ((bo_ : Nat) : Int)), .int (iI ((bn_ : Nat) : Int)), .int (iI ((bl_ : Nat) : Int))])), (a_, .inl (cZ, 48, .inl (aB ot_))), (b_, .inl (cZ, 48, .inl (aB nt_))), (d_, .inl (cI, 49, .inl (aN ru_))), (h1_, .inr (3, [.ref a1_, .ref b1_, .int (iI ((no_ : Nat) : Int))])), (a1_, .inl (cI, 48, .inl (aI vo_))), (b1_, .inl (cZ, 48, .inl (aB fo_))), (h2_, .inr (3, [.ref a2_, .ref b2_, .int (iI ((nn_ : Nat) : Int))])), (a2_, .inl (cI, 48, .inl (aI vn_))), (b2_, .inl (cZ, 48, .inl (aB fn_)))] s_.heap := hP_
  have hD_ : va_D A_ [(h_, .inr (0, [.ref a_, .ref b_, .ref d_, .int (iI ((bo_ : Nat) : Int)), .int (iI ((bn_ : Nat) : Int)), .int (iI ((bl_ : Nat) : Int))])), (a_, .inl (cZ, 48, .inl (aB ot_))), (b_, .inl (cZ, 48, .inl (aB nt_))), (d_, .inl (cI, 49, .inl (aN ru_))), (h1_, .inr (3, [.ref a1_, .ref b1_, .int (iI ((no_ : Nat) : Int))])), (a1_, .inl (cI, 48, .inl (aI vo_))), (b1_, .inl (cZ, 48, .inl (aB fo_))), (h2_, .inr (3, [.ref a2_, .ref b2_, .int (iI ((nn_ : Nat) : Int))])), (a2_, .inl (cI, 48, .inl (aI vn_))), (b2_, .inl (cZ, 48, .inl (aB fn_)))] := hD_
  generalize hQe : MQ below (va_Qv (S := (Nat → Nat) × Nat × Nat × Nat) (fun u_ => (∀ j_, j_ ≤ 48 → u_.1 j_ = rn (Mf no_ nn_ (mtc vo_ vn_ fo_ fn_) ot_ nt_) nn_ j_ y_) ∧ PB no_ nn_ (Mf no_ nn_ (mtc vo_ vn_ fo_ fn_) ot_ nt_) (RC y_ no_) u_.2.2.2 u_.2.2.1 u_.2.1) (fun u1 t1 => va_P G_ vwCl ((fun u_ => wAl cI cZ h_ a_ b_ d_ ot_ nt_ u_.1 u_.2.1 u_.2.2.1 u_.2.2.2 ++ (wIm cI cZ h1_ a1_ b1_ no_ vo_ fo_ ++ wIm cI cZ h2_ a2_ b2_ nn_ vn_ fn_)) u1) t1.heap) A_) args s_ 0 0 A_ = Q_
  have lp3 : ∀ (n_ : Nat) (i_ : Nat) (r1_ : Nat → Nat) (o1_ : Nat) (n1_ : Nat) (l1_ : Nat) (H_ : Heap) (locs : List Loc) (ls_ : Array Slot), (i_ ≤ no_) → (no_ + 1 ≤ i_ + n_) → (∀ j_, j_ < i_ → r1_ j_ = rn (Mf no_ nn_ (mtc vo_ vn_ fo_ fn_) ot_ nt_) nn_ j_ y_) → (∀ j_, i_ ≤ j_ → j_ ≤ 48 → r1_ j_ = rn (Mf no_ nn_ (mtc vo_ vn_ fo_ fn_) ot_ nt_) nn_ j_ (y_ + 1)) → (PB no_ nn_ (Mf no_ nn_ (mtc vo_ vn_ fo_ fn_) ot_ nt_) (RC y_ i_) l1_ n1_ o1_) → va_P G_ vwCl [(h_, .inr (0, [.ref a_, .ref b_, .ref d_, .int (iI ((o1_ : Nat) : Int)), .int (iI ((n1_ : Nat) : Int)), .int (iI ((l1_ : Nat) : Int))])), (a_, .inl (cZ, 48, .inl (aB ot_))), (b_, .inl (cZ, 48, .inl (aB nt_))), (d_, .inl (cI, 49, .inl (aN r1_))), (h1_, .inr (3, [.ref a1_, .ref b1_, .int (iI ((no_ : Nat) : Int))])), (a1_, .inl (cI, 48, .inl (aI vo_))), (b1_, .inl (cZ, 48, .inl (aB fo_))), (h2_, .inr (3, [.ref a2_, .ref b2_, .int (iI ((nn_ : Nat) : Int))])), (a2_, .inl (cI, 48, .inl (aI vn_))), (b2_, .inl (cZ, 48, .inl (aB fn_)))] H_ → va_D A_ [(h_, .inr (0, [.ref a_, .ref b_, .ref d_, .int (iI ((o1_ : Nat) : Int)), .int (iI ((n1_ : Nat) : Int)), .int (iI ((l1_ : Nat) : Int))])), (a_, .inl (cZ, 48, .inl (aB ot_))), (b_, .inl (cZ, 48, .inl (aB nt_))), (d_, .inl (cI, 49, .inl (aN r1_))), (h1_, .inr (3, [.ref a1_, .ref b1_, .int (iI ((no_ : Nat) : Int))])), (a1_, .inl (cI, 48, .inl (aI vo_))), (b1_, .inl (cZ, 48, .inl (aB fo_))), (h2_, .inr (3, [.ref a2_, .ref b2_, .int (iI ((nn_ : Nat) : Int))])), (a2_, .inl (cI, 48, .inl (aI vn_))), (b2_, .inl (cZ, 48, .inl (aB fn_)))] → va_S A_ s_.heap H_ locs → lv_has ls_ 7 [(0, .ref h_), (1, .ref h1_), (2, .ref h2_), (3, .int (iI ((y_ : Nat) : Int))), (4, .int (iI ((i_ : Nat) : Int)))] → W p_ l_ e_ (headSpec wsX0_extendRuns ({ frames := 3, cells := 0, slots := 0, locals := 66 })).room s_ m_ args below meth c_ H_ locs 0 0 Q_ (F0 m_ 3 ls_ []) := by
    intro n_
    induction n_ with
    | zero =>
      intro i_ r1_ o1_ n1_ l1_ H_ locs ls_ hi_ hn_ hlo hhi hq_
      exact False.elim (by omega)
    | succ n_ ih_ =>
      intro i_ r1_ o1_ n1_ l1_ H_ locs ls_ hi_ hn_ hlo hhi hq_ hP_ hD_ hS_ hl_
      have hle := PB_le hq_
      refine lv_iload hx_ hb_ dX0_extendRuns_3 (lv_at hl_ 4 rfl) ?_
      refine lv_aload_n hx_ hb_ dX0_extendRuns_5 rfl (lv_at hl_ 1 rfl) ?_
      refine ro_V (As := []) (rest := [.int (iI ((i_ : Nat) : Int))]) ⟨hx_, hb_, hml, hown, hts⟩ (c_X3_size l_ G_ cI cZ h1_ a1_ b1_ no_ vo_ fo_) (cwV 0 hts gX0_extendRuns_X3_size rfl rfl rfl (by decide +kernel) ⟨Nat.le_of_ble_eq_true rfl, Nat.le_of_ble_eq_true rfl⟩) (hP_.sub (ws' := [(h1_, .inr (3, [.ref a1_, .ref b1_, .int (iI ((no_ : Nat) : Int))])), (a1_, .inl (cI, 48, .inl (aI vo_))), (b1_, .inl (cZ, 48, .inl (aB fo_)))]) [4, 5, 6] rfl) hK_ 0 rfl rfl rfl hl_.1 rfl (Nat.le_of_ble_eq_true rfl) dX0_extendRuns_6 ⟨Nat.zero_le _, Nat.zero_le _⟩ ?_
      refine q_icmp_ge (tgt := 111) hx_ hb_ dX0_extendRuns_9 (by decide) (⟨by omega, by omega⟩) (⟨by omega, by omega⟩) (fun c9_ => ?_) (fun c9_ => ?_)
      · skip
        rw [← hQe]
        exact W.vret hx_ hb_ hr (fun tt1 htt1 hWW1 => ⟨⟨(r1_, o1_, n1_, l1_), rfl, ⟨fun j_ hj_ => (Nat.lt_or_ge j_ no_).elim (fun h0_ => hlo j_ (by omega)) (fun h0_ => by show r1_ j_ = rn (Mf no_ nn_ (mtc vo_ vn_ fo_ fn_) ot_ nt_) nn_ j_ y_; rw [hhi j_ (by omega) hj_, rn_no (by unfold Mf; rw [decide_eq_false (by omega)]; rfl), rn_no (by unfold Mf; rw [decide_eq_false (by omega)]; rfl)]), by have e0 : i_ = no_ := (by omega); rw [e0] at hq_; exact hq_⟩, by show va_P G_ vwCl _ tt1.heap; rw [htt1]; exact hP_⟩, hS_.F htt1⟩) hS_.2.2 dX0_extendRuns_111
      · skip
        refine lv_iload hx_ hb_ dX0_extendRuns_12 (lv_at hl_ 4 rfl) ?_
        refine lv_bipush (v := iI ((48 : Nat) : Int)) hx_ hb_ dX0_extendRuns_14 rfl ?_
        refine q_icmp_ge (tgt := 111) hx_ hb_ dX0_extendRuns_16 (by decide) (⟨by omega, by omega⟩) (⟨by decide, by decide⟩) (fun c16_ => absurd c16_ (by omega)) (fun c16_ => ?_)
        refine lv_aload_n hx_ hb_ dX0_extendRuns_19 rfl (lv_at hl_ 0 rfl) ?_
        refine lv_iload hx_ hb_ dX0_extendRuns_20 (lv_at hl_ 4 rfl) ?_
        refine lv_iload_n hx_ hb_ dX0_extendRuns_22 rfl (lv_at hl_ 3 rfl) ?_
        refine ro_V (As := [.int (iI ((i_ : Nat) : Int)), .int (iI ((y_ : Nat) : Int))]) (rest := []) ⟨hx_, hb_, hml, hown, hts⟩ (c_X0_isFree l_ G_ cI cZ h_ a_ b_ d_ ot_ nt_ r1_ o1_ n1_ l1_ i_ y_ (by omega) (by omega)) (cwV 2 hts gX0_extendRuns_X0_isFree rfl rfl rfl (by decide +kernel) ⟨Nat.le_of_ble_eq_true rfl, Nat.le_of_ble_eq_true rfl⟩) (hP_.sub (ws' := [(h_, .inr (0, [.ref a_, .ref b_, .ref d_, .int (iI ((o1_ : Nat) : Int)), .int (iI ((n1_ : Nat) : Int)), .int (iI ((l1_ : Nat) : Int))])), (a_, .inl (cZ, 48, .inl (aB ot_))), (b_, .inl (cZ, 48, .inl (aB nt_))), (d_, .inl (cI, 49, .inl (aN r1_)))]) [0, 1, 2, 3] rfl) hK_ 0 rfl rfl rfl hl_.1 rfl (Nat.le_of_ble_eq_true rfl) dX0_extendRuns_23 ⟨Nat.zero_le _, Nat.zero_le _⟩ ?_
        refine q_bf (tgt := 44) hx_ hb_ dX0_extendRuns_26 (by decide) (fun c26_ => ?_) (fun c26_ => ?_)
        · skip
          have er : 0 = rn (Mf no_ nn_ (mtc vo_ vn_ fo_ fn_) ot_ nt_) nn_ i_ y_ := (rn_no (by rw [Mf_in (by omega) hy0]; rw [c26_]; rfl)).symm
          refine lv_iconst (v := iI ((0 : Nat) : Int)) hx_ hb_ dX0_extendRuns_44 rfl ?_
          refine lv_istore (lv' := [(5, .int (iI ((0 : Nat) : Int))), (0, .ref h_), (1, .ref h1_), (2, .ref h2_), (3, .int (iI ((y_ : Nat) : Int))), (4, .int (iI ((i_ : Nat) : Int)))]) hx_ hb_ dX0_extendRuns_45 hl_ (by decide) rfl (fun ls_ hl_ => ?_)
          refine lv_iload hx_ hb_ dX0_extendRuns_47 (lv_at hl_ 0 rfl) ?_
          refine q_if_eq (tgt := 66) hx_ hb_ dX0_extendRuns_49 (by decide) (⟨by decide, by decide⟩) (fun _ => ?_) (fun h0_ => absurd h0_ (by decide))
          refine lv_iconst (v := iI ((0 : Nat) : Int)) hx_ hb_ dX0_extendRuns_66 rfl ?_
          refine lv_istore (lv' := [(6, .int (iI ((0 : Nat) : Int))), (5, .int (iI ((0 : Nat) : Int))), (0, .ref h_), (1, .ref h1_), (2, .ref h2_), (3, .int (iI ((y_ : Nat) : Int))), (4, .int (iI ((i_ : Nat) : Int)))]) hx_ hb_ dX0_extendRuns_67 hl_ (by decide) rfl (fun ls_ hl_ => ?_)
          refine lv_aload_n hx_ hb_ dX0_extendRuns_69 rfl (lv_at hl_ 2 rfl) ?_
          refine va_get (D := G_) (ci := 0) (v := .ref d_) (C := RX0) (T := TX0) (N := 6) hx_ hb_ hts hi0_ hown hK_ hP_ 0 rfl rfl 2 (by decide) hf18_ (fun _ h9 => h9) rfl dX0_extendRuns_70 ?_
          refine lv_iload hx_ hb_ dX0_extendRuns_73 (lv_at hl_ 6 rfl) ?_
          refine lv_iload hx_ hb_ dX0_extendRuns_75 (lv_at hl_ 0 rfl) ?_
          refine q_istN hx_ hb_ hK_ hP_ hD_ hS_ 3 rfl (by decide) (i_) (by omega) (0) dX0_extendRuns_77 (ws' := [(h_, .inr (0, [.ref a_, .ref b_, .ref d_, .int (iI ((o1_ : Nat) : Int)), .int (iI ((n1_ : Nat) : Int)), .int (iI ((l1_ : Nat) : Int))])), (a_, .inl (cZ, 48, .inl (aB ot_))), (b_, .inl (cZ, 48, .inl (aB nt_))), (d_, .inl (cI, 49, .inl (aN (va_up r1_ i_ 0)))), (h1_, .inr (3, [.ref a1_, .ref b1_, .int (iI ((no_ : Nat) : Int))])), (a1_, .inl (cI, 48, .inl (aI vo_))), (b1_, .inl (cZ, 48, .inl (aB fo_))), (h2_, .inr (3, [.ref a2_, .ref b2_, .int (iI ((nn_ : Nat) : Int))])), (a2_, .inl (cI, 48, .inl (aI vn_))), (b2_, .inl (cZ, 48, .inl (aB fn_)))]) rfl (fun H_ locs hP_ hD_ hS_ => ?_)
          refine lv_aload_n hx_ hb_ dX0_extendRuns_78 rfl (lv_at hl_ 2 rfl) ?_
          refine lv_iload hx_ hb_ dX0_extendRuns_79 (lv_at hl_ 0 rfl) ?_
          refine lv_iload_n hx_ hb_ dX0_extendRuns_81 rfl (lv_at hl_ 5 rfl) ?_
          refine ro_V (As := [.int (iI ((0 : Nat) : Int)), .int (iI ((y_ : Nat) : Int))]) (rest := []) ⟨hx_, hb_, hml, hown, hts⟩ (c_X0_isBetter l_ G_ cI cZ h_ a_ b_ d_ ot_ nt_ (va_up r1_ i_ 0) o1_ n1_ l1_ 0 y_ (by omega) (by omega) (by omega) (by omega)) (cwV 2 hts gX0_extendRuns_X0_isBetter rfl rfl rfl (by decide +kernel) ⟨Nat.le_of_ble_eq_true rfl, Nat.le_of_ble_eq_true rfl⟩) (hP_.sub (ws' := [(h_, .inr (0, [.ref a_, .ref b_, .ref d_, .int (iI ((o1_ : Nat) : Int)), .int (iI ((n1_ : Nat) : Int)), .int (iI ((l1_ : Nat) : Int))])), (a_, .inl (cZ, 48, .inl (aB ot_))), (b_, .inl (cZ, 48, .inl (aB nt_))), (d_, .inl (cI, 49, .inl (aN (va_up r1_ i_ 0))))]) [0, 1, 2, 3] rfl) hK_ 0 rfl rfl rfl hl_.1 rfl (Nat.le_of_ble_eq_true rfl) dX0_extendRuns_82 ⟨Nat.zero_le _, Nat.zero_le _⟩ ?_
          refine q_df (tgt := 105) hx_ hb_ dX0_extendRuns_85 (by decide) (fun c85_ => ?_) (fun c85_ => ?_)
          · skip
            refine q_iinc (k := 6) ((i_ + 1 : Nat) : Int) hx_ hb_ dX0_extendRuns_105 hl_ rfl (rfl) (by decide) (lv' := [(4, .int (iI ((i_ + 1 : Nat) : Int))), (6, .int (iI ((0 : Nat) : Int))), (5, .int (iI ((0 : Nat) : Int))), (0, .ref h_), (1, .ref h1_), (2, .ref h2_), (3, .int (iI ((y_ : Nat) : Int)))]) rfl (fun ls_ hl_ => ?_)
            refine lv_goto (tgt := 3) hx_ hb_ dX0_extendRuns_108 (by decide) ?_
            exact ih_ (i_ + 1) (va_up r1_ i_ 0) o1_ n1_ l1_ _ _ ls_ (by omega) (by omega) (lt_s (fun j_ hj_ => by rw [show va_up r1_ i_ _ j_ = r1_ j_ from if_neg (by omega)]; exact hlo j_ hj_) (by rw [← er]; exact if_pos rfl)) (fun j_ h1_ h2_ => by rw [show va_up r1_ i_ _ j_ = r1_ j_ from if_neg (by omega)]; exact hhi j_ (by omega) h2_) ((PB_keep hq_ (by rw [← er]; omega))) hP_ hD_ hS_ (lv_sub hl_ [3, 4, 5, 6, 0] rfl)
          · skip
            refine lv_aload_n hx_ hb_ dX0_extendRuns_88 rfl (lv_at hl_ 2 rfl) ?_
            refine lv_iload hx_ hb_ dX0_extendRuns_89 (lv_at hl_ 0 rfl) ?_
            refine va_put (D := G_) (ci := 0) (v := .int (iI ((0 : Nat) : Int))) (ty := .int) (C := RX0) (T := TX0) (N := 6) hx_ hb_ hts hi0_ tyX0 tyX0_ok nmX0 hown hK_ hP_ hD_ hS_ 0 rfl rfl 5 (by decide) hf29_ (fun _ h9 => h9) rfl (by decide +kernel) rfl rfl (Nat.le_of_ble_eq_true rfl) dX0_extendRuns_91 (fun H_ locs hP_ hD_ hS_ => ?_)
            have hP_ : va_P G_ vwCl [(h_, .inr (0, [.ref a_, .ref b_, .ref d_, .int (iI ((o1_ : Nat) : Int)), .int (iI ((n1_ : Nat) : Int)), .int (iI ((0 : Nat) : Int))])), (a_, .inl (cZ, 48, .inl (aB ot_))), (b_, .inl (cZ, 48, .inl (aB nt_))), (d_, .inl (cI, 49, .inl (aN (va_up r1_ i_ 0)))), (h1_, .inr (3, [.ref a1_, .ref b1_, .int (iI ((no_ : Nat) : Int))])), (a1_, .inl (cI, 48, .inl (aI vo_))), (b1_, .inl (cZ, 48, .inl (aB fo_))), (h2_, .inr (3, [.ref a2_, .ref b2_, .int (iI ((nn_ : Nat) : Int))])), (a2_, .inl (cI, 48, .inl (aI vn_))), (b2_, .inl (cZ, 48, .inl (aB fn_)))] H_ := hP_
            have hD_ : va_D A_ [(h_, .inr (0, [.ref a_, .ref b_, .ref d_, .int (iI ((o1_ : Nat) : Int)), .int (iI ((n1_ : Nat) : Int)), .int (iI ((0 : Nat) : Int))])), (a_, .inl (cZ, 48, .inl (aB ot_))), (b_, .inl (cZ, 48, .inl (aB nt_))), (d_, .inl (cI, 49, .inl (aN (va_up r1_ i_ 0)))), (h1_, .inr (3, [.ref a1_, .ref b1_, .int (iI ((no_ : Nat) : Int))])), (a1_, .inl (cI, 48, .inl (aI vo_))), (b1_, .inl (cZ, 48, .inl (aB fo_))), (h2_, .inr (3, [.ref a2_, .ref b2_, .int (iI ((nn_ : Nat) : Int))])), (a2_, .inl (cI, 48, .inl (aI vn_))), (b2_, .inl (cZ, 48, .inl (aB fn_)))] := hD_
            refine lv_aload_n hx_ hb_ dX0_extendRuns_94 rfl (lv_at hl_ 2 rfl) ?_
            refine lv_iload_n hx_ hb_ dX0_extendRuns_95 rfl (lv_at hl_ 5 rfl) ?_
            refine va_put (D := G_) (ci := 0) (v := .int (iI ((y_ : Nat) : Int))) (ty := .int) (C := RX0) (T := TX0) (N := 6) hx_ hb_ hts hi0_ tyX0 tyX0_ok nmX0 hown hK_ hP_ hD_ hS_ 0 rfl rfl 4 (by decide) hf26_ (fun _ h9 => h9) rfl (by decide +kernel) rfl rfl (Nat.le_of_ble_eq_true rfl) dX0_extendRuns_96 (fun H_ locs hP_ hD_ hS_ => ?_)
            have hP_ : va_P G_ vwCl [(h_, .inr (0, [.ref a_, .ref b_, .ref d_, .int (iI ((o1_ : Nat) : Int)), .int (iI ((y_ : Nat) : Int)), .int (iI ((0 : Nat) : Int))])), (a_, .inl (cZ, 48, .inl (aB ot_))), (b_, .inl (cZ, 48, .inl (aB nt_))), (d_, .inl (cI, 49, .inl (aN (va_up r1_ i_ 0)))), (h1_, .inr (3, [.ref a1_, .ref b1_, .int (iI ((no_ : Nat) : Int))])), (a1_, .inl (cI, 48, .inl (aI vo_))), (b1_, .inl (cZ, 48, .inl (aB fo_))), (h2_, .inr (3, [.ref a2_, .ref b2_, .int (iI ((nn_ : Nat) : Int))])), (a2_, .inl (cI, 48, .inl (aI vn_))), (b2_, .inl (cZ, 48, .inl (aB fn_)))] H_ := hP_
            have hD_ : va_D A_ [(h_, .inr (0, [.ref a_, .ref b_, .ref d_, .int (iI ((o1_ : Nat) : Int)), .int (iI ((y_ : Nat) : Int)), .int (iI ((0 : Nat) : Int))])), (a_, .inl (cZ, 48, .inl (aB ot_))), (b_, .inl (cZ, 48, .inl (aB nt_))), (d_, .inl (cI, 49, .inl (aN (va_up r1_ i_ 0)))), (h1_, .inr (3, [.ref a1_, .ref b1_, .int (iI ((no_ : Nat) : Int))])), (a1_, .inl (cI, 48, .inl (aI vo_))), (b1_, .inl (cZ, 48, .inl (aB fo_))), (h2_, .inr (3, [.ref a2_, .ref b2_, .int (iI ((nn_ : Nat) : Int))])), (a2_, .inl (cI, 48, .inl (aI vn_))), (b2_, .inl (cZ, 48, .inl (aB fn_)))] := hD_
            refine lv_aload_n hx_ hb_ dX0_extendRuns_99 rfl (lv_at hl_ 2 rfl) ?_
            refine lv_iload hx_ hb_ dX0_extendRuns_100 (lv_at hl_ 6 rfl) ?_
            refine va_put (D := G_) (ci := 0) (v := .int (iI ((i_ : Nat) : Int))) (ty := .int) (C := RX0) (T := TX0) (N := 6) hx_ hb_ hts hi0_ tyX0 tyX0_ok nmX0 hown hK_ hP_ hD_ hS_ 0 rfl rfl 3 (by decide) hf22_ (fun _ h9 => h9) rfl (by decide +kernel) rfl rfl (Nat.le_of_ble_eq_true rfl) dX0_extendRuns_102 (fun H_ locs hP_ hD_ hS_ => ?_)
            have hP_ : va_P G_ vwCl [(h_, .inr (0, [.ref a_, .ref b_, .ref d_, .int (iI ((i_ : Nat) : Int)), .int (iI ((y_ : Nat) : Int)), .int (iI ((0 : Nat) : Int))])), (a_, .inl (cZ, 48, .inl (aB ot_))), (b_, .inl (cZ, 48, .inl (aB nt_))), (d_, .inl (cI, 49, .inl (aN (va_up r1_ i_ 0)))), (h1_, .inr (3, [.ref a1_, .ref b1_, .int (iI ((no_ : Nat) : Int))])), (a1_, .inl (cI, 48, .inl (aI vo_))), (b1_, .inl (cZ, 48, .inl (aB fo_))), (h2_, .inr (3, [.ref a2_, .ref b2_, .int (iI ((nn_ : Nat) : Int))])), (a2_, .inl (cI, 48, .inl (aI vn_))), (b2_, .inl (cZ, 48, .inl (aB fn_)))] H_ := hP_
            have hD_ : va_D A_ [(h_, .inr (0, [.ref a_, .ref b_, .ref d_, .int (iI ((i_ : Nat) : Int)), .int (iI ((y_ : Nat) : Int)), .int (iI ((0 : Nat) : Int))])), (a_, .inl (cZ, 48, .inl (aB ot_))), (b_, .inl (cZ, 48, .inl (aB nt_))), (d_, .inl (cI, 49, .inl (aN (va_up r1_ i_ 0)))), (h1_, .inr (3, [.ref a1_, .ref b1_, .int (iI ((no_ : Nat) : Int))])), (a1_, .inl (cI, 48, .inl (aI vo_))), (b1_, .inl (cZ, 48, .inl (aB fo_))), (h2_, .inr (3, [.ref a2_, .ref b2_, .int (iI ((nn_ : Nat) : Int))])), (a2_, .inl (cI, 48, .inl (aI vn_))), (b2_, .inl (cZ, 48, .inl (aB fn_)))] := hD_
            refine q_iinc (k := 6) ((i_ + 1 : Nat) : Int) hx_ hb_ dX0_extendRuns_105 hl_ rfl (rfl) (by decide) (lv' := [(4, .int (iI ((i_ + 1 : Nat) : Int))), (6, .int (iI ((0 : Nat) : Int))), (5, .int (iI ((0 : Nat) : Int))), (0, .ref h_), (1, .ref h1_), (2, .ref h2_), (3, .int (iI ((y_ : Nat) : Int)))]) rfl (fun ls_ hl_ => ?_)
            refine lv_goto (tgt := 3) hx_ hb_ dX0_extendRuns_108 (by decide) ?_
            exact ih_ (i_ + 1) (va_up r1_ i_ 0) i_ y_ 0 _ _ ls_ (by omega) (by omega) (lt_s (fun j_ hj_ => by rw [show va_up r1_ i_ _ j_ = r1_ j_ from if_neg (by omega)]; exact hlo j_ hj_) (by rw [← er]; exact if_pos rfl)) (fun j_ h1_ h2_ => by rw [show va_up r1_ i_ _ j_ = r1_ j_ from if_neg (by omega)]; exact hhi j_ (by omega) h2_) ((by rw [er]; exact PB_yes hq_ (by omega) (by omega) (by rw [← er]; omega))) hP_ hD_ hS_ (lv_sub hl_ [3, 4, 5, 6, 0] rfl)
        · skip
          refine lv_aload_n hx_ hb_ dX0_extendRuns_29 rfl (lv_at hl_ 1 rfl) ?_
          refine lv_iload hx_ hb_ dX0_extendRuns_30 (lv_at hl_ 4 rfl) ?_
          refine lv_aload_n hx_ hb_ dX0_extendRuns_32 rfl (lv_at hl_ 2 rfl) ?_
          refine lv_iload_n hx_ hb_ dX0_extendRuns_33 rfl (lv_at hl_ 3 rfl) ?_
          refine ro_S (As := [.ref h1_, .int (iI ((i_ : Nat) : Int)), .ref h2_, .int (iI ((y_ : Nat) : Int))]) (rest := []) ⟨hx_, hb_, hml, hown, hts⟩ (c_X0_wordsMatch l_ G_ cI cZ h1_ a1_ b1_ no_ vo_ fo_ h2_ a2_ b2_ nn_ vn_ fn_ i_ y_ (by omega) (by omega) hvo hvn (by omega) (by omega)) (va_cwS 4 hts gX0_extendRuns_X0_wordsMatch rfl rfl rfl (by decide +kernel) ⟨Nat.le_of_ble_eq_true rfl, Nat.le_of_ble_eq_true rfl⟩) (hP_.sub (ws' := [(h1_, .inr (3, [.ref a1_, .ref b1_, .int (iI ((no_ : Nat) : Int))])), (a1_, .inl (cI, 48, .inl (aI vo_))), (b1_, .inl (cZ, 48, .inl (aB fo_))), (h2_, .inr (3, [.ref a2_, .ref b2_, .int (iI ((nn_ : Nat) : Int))])), (a2_, .inl (cI, 48, .inl (aI vn_))), (b2_, .inl (cZ, 48, .inl (aB fn_)))]) [4, 5, 6, 7, 8, 9] rfl) hK_ rfl hl_.1 rfl (Nat.le_of_ble_eq_true rfl) dX0_extendRuns_34 ⟨Nat.zero_le _, Nat.zero_le _⟩ ?_
          refine q_bf (tgt := 44) hx_ hb_ dX0_extendRuns_37 (by decide) (fun c37_ => ?_) (fun c37_ => ?_)
          · skip
            have er : 0 = rn (Mf no_ nn_ (mtc vo_ vn_ fo_ fn_) ot_ nt_) nn_ i_ y_ := (rn_no (by rw [Mf_in (by omega) hy0]; rw [c37_]; simp)).symm
            refine lv_iconst (v := iI ((0 : Nat) : Int)) hx_ hb_ dX0_extendRuns_44 rfl ?_
            refine lv_istore (lv' := [(5, .int (iI ((0 : Nat) : Int))), (0, .ref h_), (1, .ref h1_), (2, .ref h2_), (3, .int (iI ((y_ : Nat) : Int))), (4, .int (iI ((i_ : Nat) : Int)))]) hx_ hb_ dX0_extendRuns_45 hl_ (by decide) rfl (fun ls_ hl_ => ?_)
            refine lv_iload hx_ hb_ dX0_extendRuns_47 (lv_at hl_ 0 rfl) ?_
            refine q_if_eq (tgt := 66) hx_ hb_ dX0_extendRuns_49 (by decide) (⟨by decide, by decide⟩) (fun _ => ?_) (fun h0_ => absurd h0_ (by decide))
            refine lv_iconst (v := iI ((0 : Nat) : Int)) hx_ hb_ dX0_extendRuns_66 rfl ?_
            refine lv_istore (lv' := [(6, .int (iI ((0 : Nat) : Int))), (5, .int (iI ((0 : Nat) : Int))), (0, .ref h_), (1, .ref h1_), (2, .ref h2_), (3, .int (iI ((y_ : Nat) : Int))), (4, .int (iI ((i_ : Nat) : Int)))]) hx_ hb_ dX0_extendRuns_67 hl_ (by decide) rfl (fun ls_ hl_ => ?_)
            refine lv_aload_n hx_ hb_ dX0_extendRuns_69 rfl (lv_at hl_ 2 rfl) ?_
            refine va_get (D := G_) (ci := 0) (v := .ref d_) (C := RX0) (T := TX0) (N := 6) hx_ hb_ hts hi0_ hown hK_ hP_ 0 rfl rfl 2 (by decide) hf18_ (fun _ h9 => h9) rfl dX0_extendRuns_70 ?_
            refine lv_iload hx_ hb_ dX0_extendRuns_73 (lv_at hl_ 6 rfl) ?_
            refine lv_iload hx_ hb_ dX0_extendRuns_75 (lv_at hl_ 0 rfl) ?_
            refine q_istN hx_ hb_ hK_ hP_ hD_ hS_ 3 rfl (by decide) (i_) (by omega) (0) dX0_extendRuns_77 (ws' := [(h_, .inr (0, [.ref a_, .ref b_, .ref d_, .int (iI ((o1_ : Nat) : Int)), .int (iI ((n1_ : Nat) : Int)), .int (iI ((l1_ : Nat) : Int))])), (a_, .inl (cZ, 48, .inl (aB ot_))), (b_, .inl (cZ, 48, .inl (aB nt_))), (d_, .inl (cI, 49, .inl (aN (va_up r1_ i_ 0)))), (h1_, .inr (3, [.ref a1_, .ref b1_, .int (iI ((no_ : Nat) : Int))])), (a1_, .inl (cI, 48, .inl (aI vo_))), (b1_, .inl (cZ, 48, .inl (aB fo_))), (h2_, .inr (3, [.ref a2_, .ref b2_, .int (iI ((nn_ : Nat) : Int))])), (a2_, .inl (cI, 48, .inl (aI vn_))), (b2_, .inl (cZ, 48, .inl (aB fn_)))]) rfl (fun H_ locs hP_ hD_ hS_ => ?_)
            refine lv_aload_n hx_ hb_ dX0_extendRuns_78 rfl (lv_at hl_ 2 rfl) ?_
            refine lv_iload hx_ hb_ dX0_extendRuns_79 (lv_at hl_ 0 rfl) ?_
            refine lv_iload_n hx_ hb_ dX0_extendRuns_81 rfl (lv_at hl_ 5 rfl) ?_
            refine ro_V (As := [.int (iI ((0 : Nat) : Int)), .int (iI ((y_ : Nat) : Int))]) (rest := []) ⟨hx_, hb_, hml, hown, hts⟩ (c_X0_isBetter l_ G_ cI cZ h_ a_ b_ d_ ot_ nt_ (va_up r1_ i_ 0) o1_ n1_ l1_ 0 y_ (by omega) (by omega) (by omega) (by omega)) (cwV 2 hts gX0_extendRuns_X0_isBetter rfl rfl rfl (by decide +kernel) ⟨Nat.le_of_ble_eq_true rfl, Nat.le_of_ble_eq_true rfl⟩) (hP_.sub (ws' := [(h_, .inr (0, [.ref a_, .ref b_, .ref d_, .int (iI ((o1_ : Nat) : Int)), .int (iI ((n1_ : Nat) : Int)), .int (iI ((l1_ : Nat) : Int))])), (a_, .inl (cZ, 48, .inl (aB ot_))), (b_, .inl (cZ, 48, .inl (aB nt_))), (d_, .inl (cI, 49, .inl (aN (va_up r1_ i_ 0))))]) [0, 1, 2, 3] rfl) hK_ 0 rfl rfl rfl hl_.1 rfl (Nat.le_of_ble_eq_true rfl) dX0_extendRuns_82 ⟨Nat.zero_le _, Nat.zero_le _⟩ ?_
            refine q_df (tgt := 105) hx_ hb_ dX0_extendRuns_85 (by decide) (fun c85_ => ?_) (fun c85_ => ?_)
            · skip
              refine q_iinc (k := 6) ((i_ + 1 : Nat) : Int) hx_ hb_ dX0_extendRuns_105 hl_ rfl (rfl) (by decide) (lv' := [(4, .int (iI ((i_ + 1 : Nat) : Int))), (6, .int (iI ((0 : Nat) : Int))), (5, .int (iI ((0 : Nat) : Int))), (0, .ref h_), (1, .ref h1_), (2, .ref h2_), (3, .int (iI ((y_ : Nat) : Int)))]) rfl (fun ls_ hl_ => ?_)
              refine lv_goto (tgt := 3) hx_ hb_ dX0_extendRuns_108 (by decide) ?_
              exact ih_ (i_ + 1) (va_up r1_ i_ 0) o1_ n1_ l1_ _ _ ls_ (by omega) (by omega) (lt_s (fun j_ hj_ => by rw [show va_up r1_ i_ _ j_ = r1_ j_ from if_neg (by omega)]; exact hlo j_ hj_) (by rw [← er]; exact if_pos rfl)) (fun j_ h1_ h2_ => by rw [show va_up r1_ i_ _ j_ = r1_ j_ from if_neg (by omega)]; exact hhi j_ (by omega) h2_) ((PB_keep hq_ (by rw [← er]; omega))) hP_ hD_ hS_ (lv_sub hl_ [3, 4, 5, 6, 0] rfl)
            · skip
              refine lv_aload_n hx_ hb_ dX0_extendRuns_88 rfl (lv_at hl_ 2 rfl) ?_
              refine lv_iload hx_ hb_ dX0_extendRuns_89 (lv_at hl_ 0 rfl) ?_
              refine va_put (D := G_) (ci := 0) (v := .int (iI ((0 : Nat) : Int))) (ty := .int) (C := RX0) (T := TX0) (N := 6) hx_ hb_ hts hi0_ tyX0 tyX0_ok nmX0 hown hK_ hP_ hD_ hS_ 0 rfl rfl 5 (by decide) hf29_ (fun _ h9 => h9) rfl (by decide +kernel) rfl rfl (Nat.le_of_ble_eq_true rfl) dX0_extendRuns_91 (fun H_ locs hP_ hD_ hS_ => ?_)
              have hP_ : va_P G_ vwCl [(h_, .inr (0, [.ref a_, .ref b_, .ref d_, .int (iI ((o1_ : Nat) : Int)), .int (iI ((n1_ : Nat) : Int)), .int (iI ((0 : Nat) : Int))])), (a_, .inl (cZ, 48, .inl (aB ot_))), (b_, .inl (cZ, 48, .inl (aB nt_))), (d_, .inl (cI, 49, .inl (aN (va_up r1_ i_ 0)))), (h1_, .inr (3, [.ref a1_, .ref b1_, .int (iI ((no_ : Nat) : Int))])), (a1_, .inl (cI, 48, .inl (aI vo_))), (b1_, .inl (cZ, 48, .inl (aB fo_))), (h2_, .inr (3, [.ref a2_, .ref b2_, .int (iI ((nn_ : Nat) : Int))])), (a2_, .inl (cI, 48, .inl (aI vn_))), (b2_, .inl (cZ, 48, .inl (aB fn_)))] H_ := hP_
              have hD_ : va_D A_ [(h_, .inr (0, [.ref a_, .ref b_, .ref d_, .int (iI ((o1_ : Nat) : Int)), .int (iI ((n1_ : Nat) : Int)), .int (iI ((0 : Nat) : Int))])), (a_, .inl (cZ, 48, .inl (aB ot_))), (b_, .inl (cZ, 48, .inl (aB nt_))), (d_, .inl (cI, 49, .inl (aN (va_up r1_ i_ 0)))), (h1_, .inr (3, [.ref a1_, .ref b1_, .int (iI ((no_ : Nat) : Int))])), (a1_, .inl (cI, 48, .inl (aI vo_))), (b1_, .inl (cZ, 48, .inl (aB fo_))), (h2_, .inr (3, [.ref a2_, .ref b2_, .int (iI ((nn_ : Nat) : Int))])), (a2_, .inl (cI, 48, .inl (aI vn_))), (b2_, .inl (cZ, 48, .inl (aB fn_)))] := hD_
              refine lv_aload_n hx_ hb_ dX0_extendRuns_94 rfl (lv_at hl_ 2 rfl) ?_
              refine lv_iload_n hx_ hb_ dX0_extendRuns_95 rfl (lv_at hl_ 5 rfl) ?_
              refine va_put (D := G_) (ci := 0) (v := .int (iI ((y_ : Nat) : Int))) (ty := .int) (C := RX0) (T := TX0) (N := 6) hx_ hb_ hts hi0_ tyX0 tyX0_ok nmX0 hown hK_ hP_ hD_ hS_ 0 rfl rfl 4 (by decide) hf26_ (fun _ h9 => h9) rfl (by decide +kernel) rfl rfl (Nat.le_of_ble_eq_true rfl) dX0_extendRuns_96 (fun H_ locs hP_ hD_ hS_ => ?_)
              have hP_ : va_P G_ vwCl [(h_, .inr (0, [.ref a_, .ref b_, .ref d_, .int (iI ((o1_ : Nat) : Int)), .int (iI ((y_ : Nat) : Int)), .int (iI ((0 : Nat) : Int))])), (a_, .inl (cZ, 48, .inl (aB ot_))), (b_, .inl (cZ, 48, .inl (aB nt_))), (d_, .inl (cI, 49, .inl (aN (va_up r1_ i_ 0)))), (h1_, .inr (3, [.ref a1_, .ref b1_, .int (iI ((no_ : Nat) : Int))])), (a1_, .inl (cI, 48, .inl (aI vo_))), (b1_, .inl (cZ, 48, .inl (aB fo_))), (h2_, .inr (3, [.ref a2_, .ref b2_, .int (iI ((nn_ : Nat) : Int))])), (a2_, .inl (cI, 48, .inl (aI vn_))), (b2_, .inl (cZ, 48, .inl (aB fn_)))] H_ := hP_
              have hD_ : va_D A_ [(h_, .inr (0, [.ref a_, .ref b_, .ref d_, .int (iI ((o1_ : Nat) : Int)), .int (iI ((y_ : Nat) : Int)), .int (iI ((0 : Nat) : Int))])), (a_, .inl (cZ, 48, .inl (aB ot_))), (b_, .inl (cZ, 48, .inl (aB nt_))), (d_, .inl (cI, 49, .inl (aN (va_up r1_ i_ 0)))), (h1_, .inr (3, [.ref a1_, .ref b1_, .int (iI ((no_ : Nat) : Int))])), (a1_, .inl (cI, 48, .inl (aI vo_))), (b1_, .inl (cZ, 48, .inl (aB fo_))), (h2_, .inr (3, [.ref a2_, .ref b2_, .int (iI ((nn_ : Nat) : Int))])), (a2_, .inl (cI, 48, .inl (aI vn_))), (b2_, .inl (cZ, 48, .inl (aB fn_)))] := hD_
              refine lv_aload_n hx_ hb_ dX0_extendRuns_99 rfl (lv_at hl_ 2 rfl) ?_
              refine lv_iload hx_ hb_ dX0_extendRuns_100 (lv_at hl_ 6 rfl) ?_
              refine va_put (D := G_) (ci := 0) (v := .int (iI ((i_ : Nat) : Int))) (ty := .int) (C := RX0) (T := TX0) (N := 6) hx_ hb_ hts hi0_ tyX0 tyX0_ok nmX0 hown hK_ hP_ hD_ hS_ 0 rfl rfl 3 (by decide) hf22_ (fun _ h9 => h9) rfl (by decide +kernel) rfl rfl (Nat.le_of_ble_eq_true rfl) dX0_extendRuns_102 (fun H_ locs hP_ hD_ hS_ => ?_)
              have hP_ : va_P G_ vwCl [(h_, .inr (0, [.ref a_, .ref b_, .ref d_, .int (iI ((i_ : Nat) : Int)), .int (iI ((y_ : Nat) : Int)), .int (iI ((0 : Nat) : Int))])), (a_, .inl (cZ, 48, .inl (aB ot_))), (b_, .inl (cZ, 48, .inl (aB nt_))), (d_, .inl (cI, 49, .inl (aN (va_up r1_ i_ 0)))), (h1_, .inr (3, [.ref a1_, .ref b1_, .int (iI ((no_ : Nat) : Int))])), (a1_, .inl (cI, 48, .inl (aI vo_))), (b1_, .inl (cZ, 48, .inl (aB fo_))), (h2_, .inr (3, [.ref a2_, .ref b2_, .int (iI ((nn_ : Nat) : Int))])), (a2_, .inl (cI, 48, .inl (aI vn_))), (b2_, .inl (cZ, 48, .inl (aB fn_)))] H_ := hP_
              have hD_ : va_D A_ [(h_, .inr (0, [.ref a_, .ref b_, .ref d_, .int (iI ((i_ : Nat) : Int)), .int (iI ((y_ : Nat) : Int)), .int (iI ((0 : Nat) : Int))])), (a_, .inl (cZ, 48, .inl (aB ot_))), (b_, .inl (cZ, 48, .inl (aB nt_))), (d_, .inl (cI, 49, .inl (aN (va_up r1_ i_ 0)))), (h1_, .inr (3, [.ref a1_, .ref b1_, .int (iI ((no_ : Nat) : Int))])), (a1_, .inl (cI, 48, .inl (aI vo_))), (b1_, .inl (cZ, 48, .inl (aB fo_))), (h2_, .inr (3, [.ref a2_, .ref b2_, .int (iI ((nn_ : Nat) : Int))])), (a2_, .inl (cI, 48, .inl (aI vn_))), (b2_, .inl (cZ, 48, .inl (aB fn_)))] := hD_
              refine q_iinc (k := 6) ((i_ + 1 : Nat) : Int) hx_ hb_ dX0_extendRuns_105 hl_ rfl (rfl) (by decide) (lv' := [(4, .int (iI ((i_ + 1 : Nat) : Int))), (6, .int (iI ((0 : Nat) : Int))), (5, .int (iI ((0 : Nat) : Int))), (0, .ref h_), (1, .ref h1_), (2, .ref h2_), (3, .int (iI ((y_ : Nat) : Int)))]) rfl (fun ls_ hl_ => ?_)
              refine lv_goto (tgt := 3) hx_ hb_ dX0_extendRuns_108 (by decide) ?_
              exact ih_ (i_ + 1) (va_up r1_ i_ 0) i_ y_ 0 _ _ ls_ (by omega) (by omega) (lt_s (fun j_ hj_ => by rw [show va_up r1_ i_ _ j_ = r1_ j_ from if_neg (by omega)]; exact hlo j_ hj_) (by rw [← er]; exact if_pos rfl)) (fun j_ h1_ h2_ => by rw [show va_up r1_ i_ _ j_ = r1_ j_ from if_neg (by omega)]; exact hhi j_ (by omega) h2_) ((by rw [er]; exact PB_yes hq_ (by omega) (by omega) (by rw [← er]; omega))) hP_ hD_ hS_ (lv_sub hl_ [3, 4, 5, 6, 0] rfl)
          · skip
            have er : r1_ (i_ + 1) + 1 = rn (Mf no_ nn_ (mtc vo_ vn_ fo_ fn_) ot_ nt_) nn_ i_ y_ := by rw [hhi (i_ + 1) (by omega) (by omega)]; exact (rn_yes hy0 (by rw [Mf_in (by omega) hy0, c26_, c37_]; rfl)).symm
            have hrl := rn_le (Mf no_ nn_ (mtc vo_ vn_ fo_ fn_) ot_ nt_) nn_ i_ y_
            refine lv_iconst (v := iI ((1 : Nat) : Int)) hx_ hb_ dX0_extendRuns_40 rfl ?_
            refine lv_goto (tgt := 45) hx_ hb_ dX0_extendRuns_41 (by decide) ?_
            refine lv_istore (lv' := [(5, .int (iI ((1 : Nat) : Int))), (0, .ref h_), (1, .ref h1_), (2, .ref h2_), (3, .int (iI ((y_ : Nat) : Int))), (4, .int (iI ((i_ : Nat) : Int)))]) hx_ hb_ dX0_extendRuns_45 hl_ (by decide) rfl (fun ls_ hl_ => ?_)
            refine lv_iload hx_ hb_ dX0_extendRuns_47 (lv_at hl_ 0 rfl) ?_
            refine q_if_eq (tgt := 66) hx_ hb_ dX0_extendRuns_49 (by decide) (⟨by decide, by decide⟩) (fun h0_ => absurd h0_ (by decide)) (fun _ => ?_)
            refine lv_aload_n hx_ hb_ dX0_extendRuns_52 rfl (lv_at hl_ 1 rfl) ?_
            refine va_get (D := G_) (ci := 0) (v := .ref d_) (C := RX0) (T := TX0) (N := 6) hx_ hb_ hts hi0_ hown hK_ hP_ 0 rfl rfl 2 (by decide) hf18_ (fun _ h9 => h9) rfl dX0_extendRuns_53 ?_
            refine lv_iload hx_ hb_ dX0_extendRuns_56 (lv_at hl_ 5 rfl) ?_
            refine lv_iconst (v := iI ((1 : Nat) : Int)) hx_ hb_ dX0_extendRuns_58 rfl ?_
            refine q_iaddN hx_ hb_ dX0_extendRuns_59 ?_
            refine q_ildN hx_ hb_ hK_ hP_ 3 rfl (by decide) (i_ + 1) (by omega) (r1_ (i_ + 1)) (rfl) dX0_extendRuns_60 ?_
            refine lv_iconst (v := iI ((1 : Nat) : Int)) hx_ hb_ dX0_extendRuns_61 rfl ?_
            refine q_iaddN hx_ hb_ dX0_extendRuns_62 ?_
            refine lv_goto (tgt := 67) hx_ hb_ dX0_extendRuns_63 (by decide) ?_
            refine lv_istore (lv' := [(6, .int (iI (((r1_ (i_ + 1)) + 1 : Nat) : Int))), (5, .int (iI ((1 : Nat) : Int))), (0, .ref h_), (1, .ref h1_), (2, .ref h2_), (3, .int (iI ((y_ : Nat) : Int))), (4, .int (iI ((i_ : Nat) : Int)))]) hx_ hb_ dX0_extendRuns_67 hl_ (by decide) rfl (fun ls_ hl_ => ?_)
            refine lv_aload_n hx_ hb_ dX0_extendRuns_69 rfl (lv_at hl_ 2 rfl) ?_
            refine va_get (D := G_) (ci := 0) (v := .ref d_) (C := RX0) (T := TX0) (N := 6) hx_ hb_ hts hi0_ hown hK_ hP_ 0 rfl rfl 2 (by decide) hf18_ (fun _ h9 => h9) rfl dX0_extendRuns_70 ?_
            refine lv_iload hx_ hb_ dX0_extendRuns_73 (lv_at hl_ 6 rfl) ?_
            refine lv_iload hx_ hb_ dX0_extendRuns_75 (lv_at hl_ 0 rfl) ?_
            refine q_istN hx_ hb_ hK_ hP_ hD_ hS_ 3 rfl (by decide) (i_) (by omega) ((r1_ (i_ + 1)) + 1) dX0_extendRuns_77 (ws' := [(h_, .inr (0, [.ref a_, .ref b_, .ref d_, .int (iI ((o1_ : Nat) : Int)), .int (iI ((n1_ : Nat) : Int)), .int (iI ((l1_ : Nat) : Int))])), (a_, .inl (cZ, 48, .inl (aB ot_))), (b_, .inl (cZ, 48, .inl (aB nt_))), (d_, .inl (cI, 49, .inl (aN (va_up r1_ i_ ((r1_ (i_ + 1)) + 1))))), (h1_, .inr (3, [.ref a1_, .ref b1_, .int (iI ((no_ : Nat) : Int))])), (a1_, .inl (cI, 48, .inl (aI vo_))), (b1_, .inl (cZ, 48, .inl (aB fo_))), (h2_, .inr (3, [.ref a2_, .ref b2_, .int (iI ((nn_ : Nat) : Int))])), (a2_, .inl (cI, 48, .inl (aI vn_))), (b2_, .inl (cZ, 48, .inl (aB fn_)))]) rfl (fun H_ locs hP_ hD_ hS_ => ?_)
            refine lv_aload_n hx_ hb_ dX0_extendRuns_78 rfl (lv_at hl_ 2 rfl) ?_
            refine lv_iload hx_ hb_ dX0_extendRuns_79 (lv_at hl_ 0 rfl) ?_
            refine lv_iload_n hx_ hb_ dX0_extendRuns_81 rfl (lv_at hl_ 5 rfl) ?_
            refine ro_V (As := [.int (iI (((r1_ (i_ + 1)) + 1 : Nat) : Int)), .int (iI ((y_ : Nat) : Int))]) (rest := []) ⟨hx_, hb_, hml, hown, hts⟩ (c_X0_isBetter l_ G_ cI cZ h_ a_ b_ d_ ot_ nt_ (va_up r1_ i_ ((r1_ (i_ + 1)) + 1)) o1_ n1_ l1_ ((r1_ (i_ + 1)) + 1) y_ (by omega) (by omega) (by omega) (by omega)) (cwV 2 hts gX0_extendRuns_X0_isBetter rfl rfl rfl (by decide +kernel) ⟨Nat.le_of_ble_eq_true rfl, Nat.le_of_ble_eq_true rfl⟩) (hP_.sub (ws' := [(h_, .inr (0, [.ref a_, .ref b_, .ref d_, .int (iI ((o1_ : Nat) : Int)), .int (iI ((n1_ : Nat) : Int)), .int (iI ((l1_ : Nat) : Int))])), (a_, .inl (cZ, 48, .inl (aB ot_))), (b_, .inl (cZ, 48, .inl (aB nt_))), (d_, .inl (cI, 49, .inl (aN (va_up r1_ i_ ((r1_ (i_ + 1)) + 1)))))]) [0, 1, 2, 3] rfl) hK_ 0 rfl rfl rfl hl_.1 rfl (Nat.le_of_ble_eq_true rfl) dX0_extendRuns_82 ⟨Nat.zero_le _, Nat.zero_le _⟩ ?_
            refine q_df (tgt := 105) hx_ hb_ dX0_extendRuns_85 (by decide) (fun c85_ => ?_) (fun c85_ => ?_)
            · skip
              refine q_iinc (k := 6) ((i_ + 1 : Nat) : Int) hx_ hb_ dX0_extendRuns_105 hl_ rfl (rfl) (by decide) (lv' := [(4, .int (iI ((i_ + 1 : Nat) : Int))), (6, .int (iI (((r1_ (i_ + 1)) + 1 : Nat) : Int))), (5, .int (iI ((1 : Nat) : Int))), (0, .ref h_), (1, .ref h1_), (2, .ref h2_), (3, .int (iI ((y_ : Nat) : Int)))]) rfl (fun ls_ hl_ => ?_)
              refine lv_goto (tgt := 3) hx_ hb_ dX0_extendRuns_108 (by decide) ?_
              exact ih_ (i_ + 1) (va_up r1_ i_ ((r1_ (i_ + 1)) + 1)) o1_ n1_ l1_ _ _ ls_ (by omega) (by omega) (lt_s (fun j_ hj_ => by rw [show va_up r1_ i_ _ j_ = r1_ j_ from if_neg (by omega)]; exact hlo j_ hj_) (by rw [← er]; exact if_pos rfl)) (fun j_ h1_ h2_ => by rw [show va_up r1_ i_ _ j_ = r1_ j_ from if_neg (by omega)]; exact hhi j_ (by omega) h2_) ((PB_keep hq_ (by rw [← er]; omega))) hP_ hD_ hS_ (lv_sub hl_ [3, 4, 5, 6, 0] rfl)
            · skip
              refine lv_aload_n hx_ hb_ dX0_extendRuns_88 rfl (lv_at hl_ 2 rfl) ?_
              refine lv_iload hx_ hb_ dX0_extendRuns_89 (lv_at hl_ 0 rfl) ?_
              refine va_put (D := G_) (ci := 0) (v := .int (iI (((r1_ (i_ + 1)) + 1 : Nat) : Int))) (ty := .int) (C := RX0) (T := TX0) (N := 6) hx_ hb_ hts hi0_ tyX0 tyX0_ok nmX0 hown hK_ hP_ hD_ hS_ 0 rfl rfl 5 (by decide) hf29_ (fun _ h9 => h9) rfl (by decide +kernel) rfl rfl (Nat.le_of_ble_eq_true rfl) dX0_extendRuns_91 (fun H_ locs hP_ hD_ hS_ => ?_)
              have hP_ : va_P G_ vwCl [(h_, .inr (0, [.ref a_, .ref b_, .ref d_, .int (iI ((o1_ : Nat) : Int)), .int (iI ((n1_ : Nat) : Int)), .int (iI (((r1_ (i_ + 1)) + 1 : Nat) : Int))])), (a_, .inl (cZ, 48, .inl (aB ot_))), (b_, .inl (cZ, 48, .inl (aB nt_))), (d_, .inl (cI, 49, .inl (aN (va_up r1_ i_ ((r1_ (i_ + 1)) + 1))))), (h1_, .inr (3, [.ref a1_, .ref b1_, .int (iI ((no_ : Nat) : Int))])), (a1_, .inl (cI, 48, .inl (aI vo_))), (b1_, .inl (cZ, 48, .inl (aB fo_))), (h2_, .inr (3, [.ref a2_, .ref b2_, .int (iI ((nn_ : Nat) : Int))])), (a2_, .inl (cI, 48, .inl (aI vn_))), (b2_, .inl (cZ, 48, .inl (aB fn_)))] H_ := hP_
              have hD_ : va_D A_ [(h_, .inr (0, [.ref a_, .ref b_, .ref d_, .int (iI ((o1_ : Nat) : Int)), .int (iI ((n1_ : Nat) : Int)), .int (iI (((r1_ (i_ + 1)) + 1 : Nat) : Int))])), (a_, .inl (cZ, 48, .inl (aB ot_))), (b_, .inl (cZ, 48, .inl (aB nt_))), (d_, .inl (cI, 49, .inl (aN (va_up r1_ i_ ((r1_ (i_ + 1)) + 1))))), (h1_, .inr (3, [.ref a1_, .ref b1_, .int (iI ((no_ : Nat) : Int))])), (a1_, .inl (cI, 48, .inl (aI vo_))), (b1_, .inl (cZ, 48, .inl (aB fo_))), (h2_, .inr (3, [.ref a2_, .ref b2_, .int (iI ((nn_ : Nat) : Int))])), (a2_, .inl (cI, 48, .inl (aI vn_))), (b2_, .inl (cZ, 48, .inl (aB fn_)))] := hD_
              refine lv_aload_n hx_ hb_ dX0_extendRuns_94 rfl (lv_at hl_ 2 rfl) ?_
              refine lv_iload_n hx_ hb_ dX0_extendRuns_95 rfl (lv_at hl_ 5 rfl) ?_
              refine va_put (D := G_) (ci := 0) (v := .int (iI ((y_ : Nat) : Int))) (ty := .int) (C := RX0) (T := TX0) (N := 6) hx_ hb_ hts hi0_ tyX0 tyX0_ok nmX0 hown hK_ hP_ hD_ hS_ 0 rfl rfl 4 (by decide) hf26_ (fun _ h9 => h9) rfl (by decide +kernel) rfl rfl (Nat.le_of_ble_eq_true rfl) dX0_extendRuns_96 (fun H_ locs hP_ hD_ hS_ => ?_)
              have hP_ : va_P G_ vwCl [(h_, .inr (0, [.ref a_, .ref b_, .ref d_, .int (iI ((o1_ : Nat) : Int)), .int (iI ((y_ : Nat) : Int)), .int (iI (((r1_ (i_ + 1)) + 1 : Nat) : Int))])), (a_, .inl (cZ, 48, .inl (aB ot_))), (b_, .inl (cZ, 48, .inl (aB nt_))), (d_, .inl (cI, 49, .inl (aN (va_up r1_ i_ ((r1_ (i_ + 1)) + 1))))), (h1_, .inr (3, [.ref a1_, .ref b1_, .int (iI ((no_ : Nat) : Int))])), (a1_, .inl (cI, 48, .inl (aI vo_))), (b1_, .inl (cZ, 48, .inl (aB fo_))), (h2_, .inr (3, [.ref a2_, .ref b2_, .int (iI ((nn_ : Nat) : Int))])), (a2_, .inl (cI, 48, .inl (aI vn_))), (b2_, .inl (cZ, 48, .inl (aB fn_)))] H_ := hP_
              have hD_ : va_D A_ [(h_, .inr (0, [.ref a_, .ref b_, .ref d_, .int (iI ((o1_ : Nat) : Int)), .int (iI ((y_ : Nat) : Int)), .int (iI (((r1_ (i_ + 1)) + 1 : Nat) : Int))])), (a_, .inl (cZ, 48, .inl (aB ot_))), (b_, .inl (cZ, 48, .inl (aB nt_))), (d_, .inl (cI, 49, .inl (aN (va_up r1_ i_ ((r1_ (i_ + 1)) + 1))))), (h1_, .inr (3, [.ref a1_, .ref b1_, .int (iI ((no_ : Nat) : Int))])), (a1_, .inl (cI, 48, .inl (aI vo_))), (b1_, .inl (cZ, 48, .inl (aB fo_))), (h2_, .inr (3, [.ref a2_, .ref b2_, .int (iI ((nn_ : Nat) : Int))])), (a2_, .inl (cI, 48, .inl (aI vn_))), (b2_, .inl (cZ, 48, .inl (aB fn_)))] := hD_
              refine lv_aload_n hx_ hb_ dX0_extendRuns_99 rfl (lv_at hl_ 2 rfl) ?_
              refine lv_iload hx_ hb_ dX0_extendRuns_100 (lv_at hl_ 6 rfl) ?_
              refine va_put (D := G_) (ci := 0) (v := .int (iI ((i_ : Nat) : Int))) (ty := .int) (C := RX0) (T := TX0) (N := 6) hx_ hb_ hts hi0_ tyX0 tyX0_ok nmX0 hown hK_ hP_ hD_ hS_ 0 rfl rfl 3 (by decide) hf22_ (fun _ h9 => h9) rfl (by decide +kernel) rfl rfl (Nat.le_of_ble_eq_true rfl) dX0_extendRuns_102 (fun H_ locs hP_ hD_ hS_ => ?_)
              have hP_ : va_P G_ vwCl [(h_, .inr (0, [.ref a_, .ref b_, .ref d_, .int (iI ((i_ : Nat) : Int)), .int (iI ((y_ : Nat) : Int)), .int (iI (((r1_ (i_ + 1)) + 1 : Nat) : Int))])), (a_, .inl (cZ, 48, .inl (aB ot_))), (b_, .inl (cZ, 48, .inl (aB nt_))), (d_, .inl (cI, 49, .inl (aN (va_up r1_ i_ ((r1_ (i_ + 1)) + 1))))), (h1_, .inr (3, [.ref a1_, .ref b1_, .int (iI ((no_ : Nat) : Int))])), (a1_, .inl (cI, 48, .inl (aI vo_))), (b1_, .inl (cZ, 48, .inl (aB fo_))), (h2_, .inr (3, [.ref a2_, .ref b2_, .int (iI ((nn_ : Nat) : Int))])), (a2_, .inl (cI, 48, .inl (aI vn_))), (b2_, .inl (cZ, 48, .inl (aB fn_)))] H_ := hP_
              have hD_ : va_D A_ [(h_, .inr (0, [.ref a_, .ref b_, .ref d_, .int (iI ((i_ : Nat) : Int)), .int (iI ((y_ : Nat) : Int)), .int (iI (((r1_ (i_ + 1)) + 1 : Nat) : Int))])), (a_, .inl (cZ, 48, .inl (aB ot_))), (b_, .inl (cZ, 48, .inl (aB nt_))), (d_, .inl (cI, 49, .inl (aN (va_up r1_ i_ ((r1_ (i_ + 1)) + 1))))), (h1_, .inr (3, [.ref a1_, .ref b1_, .int (iI ((no_ : Nat) : Int))])), (a1_, .inl (cI, 48, .inl (aI vo_))), (b1_, .inl (cZ, 48, .inl (aB fo_))), (h2_, .inr (3, [.ref a2_, .ref b2_, .int (iI ((nn_ : Nat) : Int))])), (a2_, .inl (cI, 48, .inl (aI vn_))), (b2_, .inl (cZ, 48, .inl (aB fn_)))] := hD_
              refine q_iinc (k := 6) ((i_ + 1 : Nat) : Int) hx_ hb_ dX0_extendRuns_105 hl_ rfl (rfl) (by decide) (lv' := [(4, .int (iI ((i_ + 1 : Nat) : Int))), (6, .int (iI (((r1_ (i_ + 1)) + 1 : Nat) : Int))), (5, .int (iI ((1 : Nat) : Int))), (0, .ref h_), (1, .ref h1_), (2, .ref h2_), (3, .int (iI ((y_ : Nat) : Int)))]) rfl (fun ls_ hl_ => ?_)
              refine lv_goto (tgt := 3) hx_ hb_ dX0_extendRuns_108 (by decide) ?_
              exact ih_ (i_ + 1) (va_up r1_ i_ ((r1_ (i_ + 1)) + 1)) i_ y_ ((r1_ (i_ + 1)) + 1) _ _ ls_ (by omega) (by omega) (lt_s (fun j_ hj_ => by rw [show va_up r1_ i_ _ j_ = r1_ j_ from if_neg (by omega)]; exact hlo j_ hj_) (by rw [← er]; exact if_pos rfl)) (fun j_ h1_ h2_ => by rw [show va_up r1_ i_ _ j_ = r1_ j_ from if_neg (by omega)]; exact hhi j_ (by omega) h2_) ((by rw [er]; exact PB_yes hq_ (by omega) (by omega) (by rw [← er]; omega))) hP_ hD_ hS_ (lv_sub hl_ [3, 4, 5, 6, 0] rfl)
  rw [show entryFrame m_ args 7 = entryFrame m_ ([.ref h_, .ref h1_, .ref h2_, .int (iI ((y_ : Nat) : Int))] : List Value).toArray 7 from by rw [hargs], lg_entry_eq]
  have hl_ := lv_entry ([.ref h_, .ref h1_, .ref h2_, .int (iI ((y_ : Nat) : Int))]) (n := 7) (Nat.le_of_ble_eq_true rfl)
  generalize (lg_sl ([.ref h_, .ref h1_, .ref h2_, .int (iI ((y_ : Nat) : Int))]) ++ List.replicate (7 - (lg_sl ([.ref h_, .ref h1_, .ref h2_, .int (iI ((y_ : Nat) : Int))])).length) Slot.unset).toArray = ls_ at hl_ ⊢
  have hl_ : lv_has ls_ 7 [(0, .ref h_), (1, .ref h1_), (2, .ref h2_), (3, .int (iI ((y_ : Nat) : Int)))] := hl_
  refine lv_iconst (v := iI ((0 : Nat) : Int)) hx_ hb_ dX0_extendRuns_0 rfl ?_
  refine lv_istore (lv' := [(4, .int (iI ((0 : Nat) : Int))), (0, .ref h_), (1, .ref h1_), (2, .ref h2_), (3, .int (iI ((y_ : Nat) : Int)))]) hx_ hb_ dX0_extendRuns_1 hl_ (by decide) rfl (fun ls_ hl_ => ?_)
  exact lp3 (no_ + 1) 0 ru_ bo_ bn_ bl_ _ _ ls_ (by omega) (by omega) (fun j_ hj_ => absurd hj_ (Nat.not_lt_zero _)) (fun j_ _ hj_ => hru j_ hj_) (hpb) hP_ hD_ hS_ (lv_sub hl_ [1, 2, 3, 4, 0] rfl)

set_option maxHeartbeats 4000000 in
set_option maxRecDepth 100000 in
/-- Aligner.findLongestRun -/
theorem c_X0_findLongestRun (l_ : Launch) (G_ : va_G) (cI cZ : ClassId) (h_ a_ b_ d_ : Nat) (ot_ nt_ : Nat → Bool) (ru_ : Nat → Nat) (bo_ bn_ bl_ : Nat) (h1_ a1_ b1_ : Nat) (no_ : Nat) (vo_ : Nat → Int) (fo_ : Nat → Bool) (h2_ a2_ b2_ : Nat) (nn_ : Nat) (vn_ : Nat → Int) (fn_ : Nat → Bool) (hno : no_ ≤ 48) (hnn : nn_ ≤ 48) (hvo : ∀ j_, 0 ≤ vo_ j_ ∧ vo_ j_ ≤ 9999) (hvn : ∀ j_, 0 ≤ vn_ j_ ∧ vn_ j_ ≤ 9999) (sz : Nat) : Wr (S := (Nat → Nat) × Nat × Nat × Nat) l_ yX0_findLongestRun wsX0_findLongestRun ({ frames := 4, cells := 0, slots := 0, locals := 92 }) G_ cI cZ [.ref h_, .ref h1_, .ref h2_] (wAl cI cZ h_ a_ b_ d_ ot_ nt_ ru_ bo_ bn_ bl_ ++ (wIm cI cZ h1_ a1_ b1_ no_ vo_ fo_ ++ wIm cI cZ h2_ a2_ b2_ nn_ vn_ fn_)) sz (fun u_ => PB no_ nn_ (Mf no_ nn_ (mtc vo_ vn_ fo_ fn_) ot_ nt_) RT u_.2.2.2 u_.2.2.1 u_.2.1) (fun u_ => wAl cI cZ h_ a_ b_ d_ ot_ nt_ u_.1 u_.2.1 u_.2.2.1 u_.2.2.2 ++ (wIm cI cZ h1_ a1_ b1_ no_ vo_ fo_ ++ wIm cI cZ h2_ a2_ b2_ nn_ vn_ fn_)) := by
  refine Met.ofW (cc := cX0_findLongestRun) (maxL := 4) (ret := (none)) (by decide) rfl ?_
  intro p_ e_ s_ m_ args below meth c_ s₁ B hml hv
  obtain ⟨hargs, hsz, hP_, hK_, hD0⟩ := hv
  have hx_ := B.exec
  have hb_ := B.bytes
  have hr := B.returns
  have hts := atoms_spec (ws := wsX0_findLongestRun) B.pre
  have hown : s_.vm.findClass RX0 = some m_.cls := findClass_of_methodNamed B.named
  have hlocks := B.notSynchronized
  have hi0_ : ∀ w_ ∈ wsX00, w_ ∈ wsX0_findLongestRun := by decide +kernel
  have hf18_ := hts (.fieldLink RX0 18 "RelocatingPatch$Aligner" "runs" "[I") (by decide +kernel)
  have hf22_ := hts (.fieldLink RX0 22 "RelocatingPatch$Aligner" "bestOld" "I") (by decide +kernel)
  have hf26_ := hts (.fieldLink RX0 26 "RelocatingPatch$Aligner" "bestNew" "I") (by decide +kernel)
  have hf29_ := hts (.fieldLink RX0 29 "RelocatingPatch$Aligner" "bestLength" "I") (by decide +kernel)
  subst hsz
  have hD_ := hD0.self (sz := s_.heap.size)
  generalize hAe : va_A (wAl cI cZ h_ a_ b_ d_ ot_ nt_ ru_ bo_ bn_ bl_ ++ (wIm cI cZ h1_ a1_ b1_ no_ vo_ fo_ ++ wIm cI cZ h2_ a2_ b2_ nn_ vn_ fn_)) s_.heap.size = A_ at hD_ ⊢
  have hA_ : ∀ q_ : Nat, s_.heap.size ≤ q_ → A_ q_ := fun q_ h_ => by rw [← hAe]; exact Or.inr h_
  have hS_ : va_S A_ s_.heap s_.heap [] := va_S.rf
  have hP_ : va_P G_ vwCl [(h_, .inr (0, [.ref a_, .ref b_, .ref d_, .int (iI ((bo_ : Nat) : Int)), .int (iI ((bn_ : Nat) : Int)), .int (iI ((bl_ : Nat) : Int))])), (a_, .inl (cZ, 48, .inl (aB ot_))), (b_, .inl (cZ, 48, .inl (aB nt_))), (d_, .inl (cI, 49, .inl (aN ru_))), (h1_, .inr (3, [.ref a1_, .ref b1_, .int (iI ((no_ : Nat) : Int))])), (a1_, .inl (cI, 48, .inl (aI vo_))), (b1_, .inl (cZ, 48, .inl (aB fo_))), (h2_, .inr (3, [.ref a2_, .ref b2_, .int (iI ((nn_ : Nat) : Int))])), (a2_, .inl (cI, 48, .inl (aI vn_))), (b2_, .inl (cZ, 48, .inl (aB fn_)))] s_.heap := hP_
  have hD_ : va_D A_ [(h_, .inr (0, [.ref a_, .ref b_, .ref d_, .int (iI ((bo_ : Nat) : Int)), .int (iI ((bn_ : Nat) : Int)), .int (iI ((bl_ : Nat) : Int))])), (a_, .inl (cZ, 48, .inl (aB ot_))), (b_, .inl (cZ, 48, .inl (aB nt_))), (d_, .inl (cI, 49, .inl (aN ru_))), (h1_, .inr (3, [.ref a1_, .ref b1_, .int (iI ((no_ : Nat) : Int))])), (a1_, .inl (cI, 48, .inl (aI vo_))), (b1_, .inl (cZ, 48, .inl (aB fo_))), (h2_, .inr (3, [.ref a2_, .ref b2_, .int (iI ((nn_ : Nat) : Int))])), (a2_, .inl (cI, 48, .inl (aI vn_))), (b2_, .inl (cZ, 48, .inl (aB fn_)))] := hD_
  generalize hQe : MQ below (va_Qv (S := (Nat → Nat) × Nat × Nat × Nat) (fun u_ => PB no_ nn_ (Mf no_ nn_ (mtc vo_ vn_ fo_ fn_) ot_ nt_) RT u_.2.2.2 u_.2.2.1 u_.2.1) (fun u1 t1 => va_P G_ vwCl ((fun u_ => wAl cI cZ h_ a_ b_ d_ ot_ nt_ u_.1 u_.2.1 u_.2.2.1 u_.2.2.2 ++ (wIm cI cZ h1_ a1_ b1_ no_ vo_ fo_ ++ wIm cI cZ h2_ a2_ b2_ nn_ vn_ fn_)) u1) t1.heap) A_) args s_ 0 0 A_ = Q_
  have lp43 : ∀ (n_ : Nat) (t_ : Nat) (r1_ : Nat → Nat) (o1_ : Nat) (n1_ : Nat) (l1_ : Nat) (H_ : Heap) (locs : List Loc) (ls_ : Array Slot), (t_ ≤ nn_) → (t_ + 1 ≤ n_) → (∀ j_, j_ ≤ 48 → r1_ j_ = rn (Mf no_ nn_ (mtc vo_ vn_ fo_ fn_) ot_ nt_) nn_ j_ t_) → (PB no_ nn_ (Mf no_ nn_ (mtc vo_ vn_ fo_ fn_) ot_ nt_) (fun w_ _ => t_ ≤ w_) l1_ n1_ o1_) → va_P G_ vwCl [(h_, .inr (0, [.ref a_, .ref b_, .ref d_, .int (iI ((o1_ : Nat) : Int)), .int (iI ((n1_ : Nat) : Int)), .int (iI ((l1_ : Nat) : Int))])), (a_, .inl (cZ, 48, .inl (aB ot_))), (b_, .inl (cZ, 48, .inl (aB nt_))), (d_, .inl (cI, 49, .inl (aN r1_))), (h1_, .inr (3, [.ref a1_, .ref b1_, .int (iI ((no_ : Nat) : Int))])), (a1_, .inl (cI, 48, .inl (aI vo_))), (b1_, .inl (cZ, 48, .inl (aB fo_))), (h2_, .inr (3, [.ref a2_, .ref b2_, .int (iI ((nn_ : Nat) : Int))])), (a2_, .inl (cI, 48, .inl (aI vn_))), (b2_, .inl (cZ, 48, .inl (aB fn_)))] H_ → va_D A_ [(h_, .inr (0, [.ref a_, .ref b_, .ref d_, .int (iI ((o1_ : Nat) : Int)), .int (iI ((n1_ : Nat) : Int)), .int (iI ((l1_ : Nat) : Int))])), (a_, .inl (cZ, 48, .inl (aB ot_))), (b_, .inl (cZ, 48, .inl (aB nt_))), (d_, .inl (cI, 49, .inl (aN r1_))), (h1_, .inr (3, [.ref a1_, .ref b1_, .int (iI ((no_ : Nat) : Int))])), (a1_, .inl (cI, 48, .inl (aI vo_))), (b1_, .inl (cZ, 48, .inl (aB fo_))), (h2_, .inr (3, [.ref a2_, .ref b2_, .int (iI ((nn_ : Nat) : Int))])), (a2_, .inl (cI, 48, .inl (aI vn_))), (b2_, .inl (cZ, 48, .inl (aB fn_)))] → va_S A_ s_.heap H_ locs → lv_has ls_ 4 [(0, .ref h_), (1, .ref h1_), (2, .ref h2_), (3, .int (iI (((t_ : Nat) : Int) - ((1 : Nat) : Int))))] → W p_ l_ e_ (headSpec wsX0_findLongestRun ({ frames := 4, cells := 0, slots := 0, locals := 92 })).room s_ m_ args below meth c_ H_ locs 0 0 Q_ (F0 m_ 43 ls_ []) := by
    intro n_
    induction n_ with
    | zero =>
      intro t_ r1_ o1_ n1_ l1_ H_ locs ls_ ht_ hn_ hru hq_
      exact False.elim (by omega)
    | succ n_ ih_ =>
      intro t_ r1_ o1_ n1_ l1_ H_ locs ls_ ht_ hn_ hru hq_ hP_ hD_ hS_ hl_
      refine lv_iload_n hx_ hb_ dX0_findLongestRun_43 rfl (lv_at hl_ 3 rfl) ?_
      refine q_if_lt (tgt := 60) hx_ hb_ dX0_findLongestRun_44 (by decide) (⟨by omega, by omega⟩) (fun c44_ => ?_) (fun c44_ => ?_)
      · skip
        rw [← hQe]
        exact W.vret hx_ hb_ hr (fun tt1 htt1 hWW1 => ⟨⟨(r1_, o1_, n1_, l1_), rfl, PB_set hq_ (fun w_ o_ hw_ ho_ => ⟨fun _ => trivial, fun _ => by omega⟩), by show va_P G_ vwCl _ tt1.heap; rw [htt1]; exact hP_⟩, hS_.F htt1⟩) hS_.2.2 dX0_findLongestRun_60
      · skip
        refine lv_aload_n hx_ hb_ dX0_findLongestRun_47 rfl (lv_at hl_ 0 rfl) ?_
        refine lv_aload_n hx_ hb_ dX0_findLongestRun_48 rfl (lv_at hl_ 1 rfl) ?_
        refine lv_aload_n hx_ hb_ dX0_findLongestRun_49 rfl (lv_at hl_ 2 rfl) ?_
        refine lv_iload_n hx_ hb_ dX0_findLongestRun_50 rfl (lv_at hl_ 3 rfl) ?_
        refine q_cast (b := ((t_ - 1 : Nat) : Int)) (by omega) ?_
        refine wr_V (As := [.ref h1_, .ref h2_, .int (iI ((t_ - 1 : Nat) : Int))]) (rest := []) (wr := []) (wn := fun u_ => [(h_, .inr (0, [.ref a_, .ref b_, .ref d_, .int (iI ((u_.2.1 : Nat) : Int)), .int (iI ((u_.2.2.1 : Nat) : Int)), .int (iI ((u_.2.2.2 : Nat) : Int))])), (a_, .inl (cZ, 48, .inl (aB ot_))), (b_, .inl (cZ, 48, .inl (aB nt_))), (d_, .inl (cI, 49, .inl (aN u_.1))), (h1_, .inr (3, [.ref a1_, .ref b1_, .int (iI ((no_ : Nat) : Int))])), (a1_, .inl (cI, 48, .inl (aI vo_))), (b1_, .inl (cZ, 48, .inl (aB fo_))), (h2_, .inr (3, [.ref a2_, .ref b2_, .int (iI ((nn_ : Nat) : Int))])), (a2_, .inl (cI, 48, .inl (aI vn_))), (b2_, .inl (cZ, 48, .inl (aB fn_)))]) ⟨hx_, hb_, hml, hown, hts⟩ (c_X0_extendRuns l_ G_ cI cZ h_ a_ b_ d_ ot_ nt_ r1_ o1_ n1_ l1_ h1_ a1_ b1_ no_ vo_ fo_ h2_ a2_ b2_ nn_ vn_ fn_ (t_ - 1) (by omega) (by omega) hvo hvn (by omega) (fun j_ hj_ => by rw [hru j_ hj_, show t_ - 1 + 1 = t_ from by omega]) (PB_set hq_ (fun w_ o_ hw_ ho_ => ⟨fun h0_ => by have h0_ : t_ ≤ w_ := h0_; show t_ - 1 < w_ ∨ (w_ = t_ - 1 ∧ o_ < 0); omega, fun h0_ => by have h0_ : t_ - 1 < w_ ∨ (w_ = t_ - 1 ∧ o_ < 0) := h0_; show t_ ≤ w_; omega⟩)) H_.size) (cwV 3 hts gX0_findLongestRun_X0_extendRuns rfl rfl rfl (by decide +kernel) ⟨Nat.le_of_ble_eq_true rfl, Nat.le_of_ble_eq_true rfl⟩) hP_ hK_ hD_ hS_ hA_ [0, 1, 2, 3, 4, 5, 6, 7, 8, 9] [] [0, 1, 2, 3, 4, 5, 6, 7, 8, 9] rfl rfl (by decide) (fun _ => rfl) (fun _ => rfl) 0 rfl rfl rfl hl_.1 rfl (Nat.le_of_ble_eq_true rfl) dX0_findLongestRun_51 ⟨Nat.zero_le _, Nat.zero_le _⟩ (fun u_ H_ locs hu51 hP_ hD_ hS_ => ?_)
        obtain ⟨ru_51, bo_51, bn_51, bl_51⟩ := u_
        try dsimp only at hu51
        have hP_ : va_P G_ vwCl [(h_, .inr (0, [.ref a_, .ref b_, .ref d_, .int (iI ((bo_51 : Nat) : Int)), .int (iI ((bn_51 : Nat) : Int)), .int (iI ((bl_51 : Nat) : Int))])), (a_, .inl (cZ, 48, .inl (aB ot_))), (b_, .inl (cZ, 48, .inl (aB nt_))), (d_, .inl (cI, 49, .inl (aN ru_51))), (h1_, .inr (3, [.ref a1_, .ref b1_, .int (iI ((no_ : Nat) : Int))])), (a1_, .inl (cI, 48, .inl (aI vo_))), (b1_, .inl (cZ, 48, .inl (aB fo_))), (h2_, .inr (3, [.ref a2_, .ref b2_, .int (iI ((nn_ : Nat) : Int))])), (a2_, .inl (cI, 48, .inl (aI vn_))), (b2_, .inl (cZ, 48, .inl (aB fn_)))] H_ := hP_
        have hD_ : va_D A_ [(h_, .inr (0, [.ref a_, .ref b_, .ref d_, .int (iI ((bo_51 : Nat) : Int)), .int (iI ((bn_51 : Nat) : Int)), .int (iI ((bl_51 : Nat) : Int))])), (a_, .inl (cZ, 48, .inl (aB ot_))), (b_, .inl (cZ, 48, .inl (aB nt_))), (d_, .inl (cI, 49, .inl (aN ru_51))), (h1_, .inr (3, [.ref a1_, .ref b1_, .int (iI ((no_ : Nat) : Int))])), (a1_, .inl (cI, 48, .inl (aI vo_))), (b1_, .inl (cZ, 48, .inl (aB fo_))), (h2_, .inr (3, [.ref a2_, .ref b2_, .int (iI ((nn_ : Nat) : Int))])), (a2_, .inl (cI, 48, .inl (aI vn_))), (b2_, .inl (cZ, 48, .inl (aB fn_)))] := hD_
        refine q_iinc (k := 3) (((t_ - 1 : Nat) : Int) - ((1 : Nat) : Int)) hx_ hb_ dX0_findLongestRun_54 hl_ rfl (by omega) (by decide) (lv' := [(3, .int (iI (((t_ - 1 : Nat) : Int) - ((1 : Nat) : Int)))), (0, .ref h_), (1, .ref h1_), (2, .ref h2_)]) rfl (fun ls_ hl_ => ?_)
        refine lv_goto (tgt := 43) hx_ hb_ dX0_findLongestRun_57 (by decide) ?_
        exact ih_ (t_ - 1) ru_51 bo_51 bn_51 bl_51 _ _ ls_ (by omega) (by omega) (hu51.1) (PB_set hu51.2 (fun w_ o_ hw_ ho_ => ⟨fun h0_ => by have h0_ : t_ - 1 < w_ ∨ (w_ = t_ - 1 ∧ o_ < no_) := h0_; show t_ - 1 ≤ w_; omega, fun h0_ => by have h0_ : t_ - 1 ≤ w_ := h0_; show t_ - 1 < w_ ∨ (w_ = t_ - 1 ∧ o_ < no_); omega⟩)) hP_ hD_ hS_ (lv_sub hl_ [1, 2, 3, 0] rfl)
  have lp17 : ∀ (n_ : Nat) (i_ : Nat) (r1_ : Nat → Nat) (H_ : Heap) (locs : List Loc) (ls_ : Array Slot), (i_ ≤ 49) → (50 ≤ i_ + n_) → (∀ j_, j_ < i_ → r1_ j_ = 0) → va_P G_ vwCl [(h_, .inr (0, [.ref a_, .ref b_, .ref d_, .int (iI ((0 : Nat) : Int)), .int (iI ((0 : Nat) : Int)), .int (iI ((0 : Nat) : Int))])), (a_, .inl (cZ, 48, .inl (aB ot_))), (b_, .inl (cZ, 48, .inl (aB nt_))), (d_, .inl (cI, 49, .inl (aN r1_))), (h1_, .inr (3, [.ref a1_, .ref b1_, .int (iI ((no_ : Nat) : Int))])), (a1_, .inl (cI, 48, .inl (aI vo_))), (b1_, .inl (cZ, 48, .inl (aB fo_))), (h2_, .inr (3, [.ref a2_, .ref b2_, .int (iI ((nn_ : Nat) : Int))])), (a2_, .inl (cI, 48, .inl (aI vn_))), (b2_, .inl (cZ, 48, .inl (aB fn_)))] H_ → va_D A_ [(h_, .inr (0, [.ref a_, .ref b_, .ref d_, .int (iI ((0 : Nat) : Int)), .int (iI ((0 : Nat) : Int)), .int (iI ((0 : Nat) : Int))])), (a_, .inl (cZ, 48, .inl (aB ot_))), (b_, .inl (cZ, 48, .inl (aB nt_))), (d_, .inl (cI, 49, .inl (aN r1_))), (h1_, .inr (3, [.ref a1_, .ref b1_, .int (iI ((no_ : Nat) : Int))])), (a1_, .inl (cI, 48, .inl (aI vo_))), (b1_, .inl (cZ, 48, .inl (aB fo_))), (h2_, .inr (3, [.ref a2_, .ref b2_, .int (iI ((nn_ : Nat) : Int))])), (a2_, .inl (cI, 48, .inl (aI vn_))), (b2_, .inl (cZ, 48, .inl (aB fn_)))] → va_S A_ s_.heap H_ locs → lv_has ls_ 4 [(0, .ref h_), (1, .ref h1_), (2, .ref h2_), (3, .int (iI ((i_ : Nat) : Int)))] → W p_ l_ e_ (headSpec wsX0_findLongestRun ({ frames := 4, cells := 0, slots := 0, locals := 92 })).room s_ m_ args below meth c_ H_ locs 0 0 Q_ (F0 m_ 17 ls_ []) := by
    intro n_
    induction n_ with
    | zero =>
      intro i_ r1_ H_ locs ls_ hi_ hn_ hz
      exact False.elim (by omega)
    | succ n_ ih_ =>
      intro i_ r1_ H_ locs ls_ hi_ hn_ hz hP_ hD_ hS_ hl_
      refine lv_iload_n hx_ hb_ dX0_findLongestRun_17 rfl (lv_at hl_ 3 rfl) ?_
      refine lv_bipush (v := iI ((48 : Nat) : Int)) hx_ hb_ dX0_findLongestRun_18 rfl ?_
      refine q_icmp_gt (tgt := 36) hx_ hb_ dX0_findLongestRun_20 (by decide) (⟨by omega, by omega⟩) (⟨by decide, by decide⟩) (fun c20_ => ?_) (fun c20_ => ?_)
      · skip
        refine lv_aload_n hx_ hb_ dX0_findLongestRun_36 rfl (lv_at hl_ 2 rfl) ?_
        refine ro_V (As := []) (rest := []) ⟨hx_, hb_, hml, hown, hts⟩ (c_X3_size l_ G_ cI cZ h2_ a2_ b2_ nn_ vn_ fn_) (cwV 0 hts gX0_findLongestRun_X3_size rfl rfl rfl (by decide +kernel) ⟨Nat.le_of_ble_eq_true rfl, Nat.le_of_ble_eq_true rfl⟩) (hP_.sub (ws' := [(h2_, .inr (3, [.ref a2_, .ref b2_, .int (iI ((nn_ : Nat) : Int))])), (a2_, .inl (cI, 48, .inl (aI vn_))), (b2_, .inl (cZ, 48, .inl (aB fn_)))]) [7, 8, 9] rfl) hK_ 0 rfl rfl rfl hl_.1 rfl (Nat.le_of_ble_eq_true rfl) dX0_findLongestRun_37 ⟨Nat.zero_le _, Nat.zero_le _⟩ ?_
        refine lv_iconst (v := iI ((1 : Nat) : Int)) hx_ hb_ dX0_findLongestRun_40 rfl ?_
        refine q_isub hx_ hb_ dX0_findLongestRun_41 ?_
        refine lv_istore_n (lv' := [(3, .int (iI (((nn_ : Nat) : Int) - ((1 : Nat) : Int)))), (0, .ref h_), (1, .ref h1_), (2, .ref h2_)]) hx_ hb_ dX0_findLongestRun_42 rfl hl_ (by decide) rfl (fun ls_ hl_ => ?_)
        exact lp43 (nn_ + 1) nn_ r1_ 0 0 0 _ _ ls_ (by omega) (by omega) (fun j_ hj_ => by rw [hz j_ (by omega), rn_end _ _ _ (Nat.le_refl _)]) (PB_0 (fun w_ o_ hw_ _ hr => by have hr : nn_ ≤ w_ := hr; omega)) hP_ hD_ hS_ (lv_sub hl_ [1, 2, 3, 0] rfl)
      · skip
        refine lv_aload_n hx_ hb_ dX0_findLongestRun_23 rfl (lv_at hl_ 0 rfl) ?_
        refine va_get (D := G_) (ci := 0) (v := .ref d_) (C := RX0) (T := TX0) (N := 6) hx_ hb_ hts hi0_ hown hK_ hP_ 0 rfl rfl 2 (by decide) hf18_ (fun _ h9 => h9) rfl dX0_findLongestRun_24 ?_
        refine lv_iload_n hx_ hb_ dX0_findLongestRun_27 rfl (lv_at hl_ 3 rfl) ?_
        refine lv_iconst (v := iI ((0 : Nat) : Int)) hx_ hb_ dX0_findLongestRun_28 rfl ?_
        refine q_istN hx_ hb_ hK_ hP_ hD_ hS_ 3 rfl (by decide) (i_) (by omega) (0) dX0_findLongestRun_29 (ws' := [(h_, .inr (0, [.ref a_, .ref b_, .ref d_, .int (iI ((0 : Nat) : Int)), .int (iI ((0 : Nat) : Int)), .int (iI ((0 : Nat) : Int))])), (a_, .inl (cZ, 48, .inl (aB ot_))), (b_, .inl (cZ, 48, .inl (aB nt_))), (d_, .inl (cI, 49, .inl (aN (va_up r1_ i_ 0)))), (h1_, .inr (3, [.ref a1_, .ref b1_, .int (iI ((no_ : Nat) : Int))])), (a1_, .inl (cI, 48, .inl (aI vo_))), (b1_, .inl (cZ, 48, .inl (aB fo_))), (h2_, .inr (3, [.ref a2_, .ref b2_, .int (iI ((nn_ : Nat) : Int))])), (a2_, .inl (cI, 48, .inl (aI vn_))), (b2_, .inl (cZ, 48, .inl (aB fn_)))]) rfl (fun H_ locs hP_ hD_ hS_ => ?_)
        refine q_iinc (k := 3) ((i_ + 1 : Nat) : Int) hx_ hb_ dX0_findLongestRun_30 hl_ rfl (rfl) (by decide) (lv' := [(3, .int (iI ((i_ + 1 : Nat) : Int))), (0, .ref h_), (1, .ref h1_), (2, .ref h2_)]) rfl (fun ls_ hl_ => ?_)
        refine lv_goto (tgt := 17) hx_ hb_ dX0_findLongestRun_33 (by decide) ?_
        exact ih_ (i_ + 1) (va_up r1_ i_ 0) _ _ ls_ (by omega) (by omega) (lt_s (fun j_ hj_ => by rw [show va_up r1_ i_ _ j_ = r1_ j_ from if_neg (by omega)]; exact hz j_ hj_) (if_pos rfl)) hP_ hD_ hS_ (lv_sub hl_ [1, 2, 3, 0] rfl)
  rw [show entryFrame m_ args 4 = entryFrame m_ ([.ref h_, .ref h1_, .ref h2_] : List Value).toArray 4 from by rw [hargs], lg_entry_eq]
  have hl_ := lv_entry ([.ref h_, .ref h1_, .ref h2_]) (n := 4) (Nat.le_of_ble_eq_true rfl)
  generalize (lg_sl ([.ref h_, .ref h1_, .ref h2_]) ++ List.replicate (4 - (lg_sl ([.ref h_, .ref h1_, .ref h2_])).length) Slot.unset).toArray = ls_ at hl_ ⊢
  have hl_ : lv_has ls_ 4 [(0, .ref h_), (1, .ref h1_), (2, .ref h2_)] := hl_
  refine lv_aload_n hx_ hb_ dX0_findLongestRun_0 rfl (lv_at hl_ 0 rfl) ?_
  refine lv_iconst (v := iI ((0 : Nat) : Int)) hx_ hb_ dX0_findLongestRun_1 rfl ?_
  refine va_put (D := G_) (ci := 0) (v := .int (iI ((0 : Nat) : Int))) (ty := .int) (C := RX0) (T := TX0) (N := 6) hx_ hb_ hts hi0_ tyX0 tyX0_ok nmX0 hown hK_ hP_ hD_ hS_ 0 rfl rfl 3 (by decide) hf22_ (fun _ h9 => h9) rfl (by decide +kernel) rfl rfl (Nat.le_of_ble_eq_true rfl) dX0_findLongestRun_2 (fun H_ locs hP_ hD_ hS_ => ?_)
  have hP_ : va_P G_ vwCl [(h_, .inr (0, [.ref a_, .ref b_, .ref d_, .int (iI ((0 : Nat) : Int)), .int (iI ((bn_ : Nat) : Int)), .int (iI ((bl_ : Nat) : Int))])), (a_, .inl (cZ, 48, .inl (aB ot_))), (b_, .inl (cZ, 48, .inl (aB nt_))), (d_, .inl (cI, 49, .inl (aN ru_))), (h1_, .inr (3, [.ref a1_, .ref b1_, .int (iI ((no_ : Nat) : Int))])), (a1_, .inl (cI, 48, .inl (aI vo_))), (b1_, .inl (cZ, 48, .inl (aB fo_))), (h2_, .inr (3, [.ref a2_, .ref b2_, .int (iI ((nn_ : Nat) : Int))])), (a2_, .inl (cI, 48, .inl (aI vn_))), (b2_, .inl (cZ, 48, .inl (aB fn_)))] H_ := hP_
  have hD_ : va_D A_ [(h_, .inr (0, [.ref a_, .ref b_, .ref d_, .int (iI ((0 : Nat) : Int)), .int (iI ((bn_ : Nat) : Int)), .int (iI ((bl_ : Nat) : Int))])), (a_, .inl (cZ, 48, .inl (aB ot_))), (b_, .inl (cZ, 48, .inl (aB nt_))), (d_, .inl (cI, 49, .inl (aN ru_))), (h1_, .inr (3, [.ref a1_, .ref b1_, .int (iI ((no_ : Nat) : Int))])), (a1_, .inl (cI, 48, .inl (aI vo_))), (b1_, .inl (cZ, 48, .inl (aB fo_))), (h2_, .inr (3, [.ref a2_, .ref b2_, .int (iI ((nn_ : Nat) : Int))])), (a2_, .inl (cI, 48, .inl (aI vn_))), (b2_, .inl (cZ, 48, .inl (aB fn_)))] := hD_
  refine lv_aload_n hx_ hb_ dX0_findLongestRun_5 rfl (lv_at hl_ 0 rfl) ?_
  refine lv_iconst (v := iI ((0 : Nat) : Int)) hx_ hb_ dX0_findLongestRun_6 rfl ?_
  refine va_put (D := G_) (ci := 0) (v := .int (iI ((0 : Nat) : Int))) (ty := .int) (C := RX0) (T := TX0) (N := 6) hx_ hb_ hts hi0_ tyX0 tyX0_ok nmX0 hown hK_ hP_ hD_ hS_ 0 rfl rfl 4 (by decide) hf26_ (fun _ h9 => h9) rfl (by decide +kernel) rfl rfl (Nat.le_of_ble_eq_true rfl) dX0_findLongestRun_7 (fun H_ locs hP_ hD_ hS_ => ?_)
  have hP_ : va_P G_ vwCl [(h_, .inr (0, [.ref a_, .ref b_, .ref d_, .int (iI ((0 : Nat) : Int)), .int (iI ((0 : Nat) : Int)), .int (iI ((bl_ : Nat) : Int))])), (a_, .inl (cZ, 48, .inl (aB ot_))), (b_, .inl (cZ, 48, .inl (aB nt_))), (d_, .inl (cI, 49, .inl (aN ru_))), (h1_, .inr (3, [.ref a1_, .ref b1_, .int (iI ((no_ : Nat) : Int))])), (a1_, .inl (cI, 48, .inl (aI vo_))), (b1_, .inl (cZ, 48, .inl (aB fo_))), (h2_, .inr (3, [.ref a2_, .ref b2_, .int (iI ((nn_ : Nat) : Int))])), (a2_, .inl (cI, 48, .inl (aI vn_))), (b2_, .inl (cZ, 48, .inl (aB fn_)))] H_ := hP_
  have hD_ : va_D A_ [(h_, .inr (0, [.ref a_, .ref b_, .ref d_, .int (iI ((0 : Nat) : Int)), .int (iI ((0 : Nat) : Int)), .int (iI ((bl_ : Nat) : Int))])), (a_, .inl (cZ, 48, .inl (aB ot_))), (b_, .inl (cZ, 48, .inl (aB nt_))), (d_, .inl (cI, 49, .inl (aN ru_))), (h1_, .inr (3, [.ref a1_, .ref b1_, .int (iI ((no_ : Nat) : Int))])), (a1_, .inl (cI, 48, .inl (aI vo_))), (b1_, .inl (cZ, 48, .inl (aB fo_))), (h2_, .inr (3, [.ref a2_, .ref b2_, .int (iI ((nn_ : Nat) : Int))])), (a2_, .inl (cI, 48, .inl (aI vn_))), (b2_, .inl (cZ, 48, .inl (aB fn_)))] := hD_
  refine lv_aload_n hx_ hb_ dX0_findLongestRun_10 rfl (lv_at hl_ 0 rfl) ?_
  refine lv_iconst (v := iI ((0 : Nat) : Int)) hx_ hb_ dX0_findLongestRun_11 rfl ?_
  refine va_put (D := G_) (ci := 0) (v := .int (iI ((0 : Nat) : Int))) (ty := .int) (C := RX0) (T := TX0) (N := 6) hx_ hb_ hts hi0_ tyX0 tyX0_ok nmX0 hown hK_ hP_ hD_ hS_ 0 rfl rfl 5 (by decide) hf29_ (fun _ h9 => h9) rfl (by decide +kernel) rfl rfl (Nat.le_of_ble_eq_true rfl) dX0_findLongestRun_12 (fun H_ locs hP_ hD_ hS_ => ?_)
  have hP_ : va_P G_ vwCl [(h_, .inr (0, [.ref a_, .ref b_, .ref d_, .int (iI ((0 : Nat) : Int)), .int (iI ((0 : Nat) : Int)), .int (iI ((0 : Nat) : Int))])), (a_, .inl (cZ, 48, .inl (aB ot_))), (b_, .inl (cZ, 48, .inl (aB nt_))), (d_, .inl (cI, 49, .inl (aN ru_))), (h1_, .inr (3, [.ref a1_, .ref b1_, .int (iI ((no_ : Nat) : Int))])), (a1_, .inl (cI, 48, .inl (aI vo_))), (b1_, .inl (cZ, 48, .inl (aB fo_))), (h2_, .inr (3, [.ref a2_, .ref b2_, .int (iI ((nn_ : Nat) : Int))])), (a2_, .inl (cI, 48, .inl (aI vn_))), (b2_, .inl (cZ, 48, .inl (aB fn_)))] H_ := hP_
  have hD_ : va_D A_ [(h_, .inr (0, [.ref a_, .ref b_, .ref d_, .int (iI ((0 : Nat) : Int)), .int (iI ((0 : Nat) : Int)), .int (iI ((0 : Nat) : Int))])), (a_, .inl (cZ, 48, .inl (aB ot_))), (b_, .inl (cZ, 48, .inl (aB nt_))), (d_, .inl (cI, 49, .inl (aN ru_))), (h1_, .inr (3, [.ref a1_, .ref b1_, .int (iI ((no_ : Nat) : Int))])), (a1_, .inl (cI, 48, .inl (aI vo_))), (b1_, .inl (cZ, 48, .inl (aB fo_))), (h2_, .inr (3, [.ref a2_, .ref b2_, .int (iI ((nn_ : Nat) : Int))])), (a2_, .inl (cI, 48, .inl (aI vn_))), (b2_, .inl (cZ, 48, .inl (aB fn_)))] := hD_
  refine lv_iconst (v := iI ((0 : Nat) : Int)) hx_ hb_ dX0_findLongestRun_15 rfl ?_
  refine lv_istore_n (lv' := [(3, .int (iI ((0 : Nat) : Int))), (0, .ref h_), (1, .ref h1_), (2, .ref h2_)]) hx_ hb_ dX0_findLongestRun_16 rfl hl_ (by decide) rfl (fun ls_ hl_ => ?_)
  exact lp17 (50) 0 ru_ _ _ ls_ (by omega) (by omega) (fun j_ hj_ => absurd hj_ (Nat.not_lt_zero _)) hP_ hD_ hS_ (lv_sub hl_ [1, 2, 3, 0] rfl)

set_option maxHeartbeats 4000000 in
set_option maxRecDepth 100000 in
/-- Aligner.align -/
theorem c_X0_align (l_ : Launch) (G_ : va_G) (cI cZ : ClassId) (h_ a_ b_ d_ : Nat) (ot_ nt_ : Nat → Bool) (ru_ : Nat → Nat) (bo_ bn_ bl_ : Nat) (h1_ a1_ b1_ : Nat) (no_ : Nat) (vo_ : Nat → Int) (fo_ : Nat → Bool) (h2_ a2_ b2_ : Nat) (nn_ : Nat) (vn_ : Nat → Int) (fn_ : Nat → Bool) (h3_ a3_ b3_ d3_ : Nat) (k_ : Nat) (os_ ns_ ln_ : Nat → Nat) (ml : Nat) (hno : no_ ≤ 48) (hnn : nn_ ≤ 48) (hvo : ∀ j_, 0 ≤ vo_ j_ ∧ vo_ j_ ≤ 9999) (hvn : ∀ j_, 0 ≤ vn_ j_ ∧ vn_ j_ ≤ 9999) (hm1 : 1 ≤ ml) (hm2 : ml ≤ 16) (sz : Nat) : Wr (S := (Nat → Bool) × (Nat → Bool) × (Nat → Nat) × Nat × Nat × Nat × Nat × (Nat → Nat) × (Nat → Nat) × (Nat → Nat)) l_ yX0_align wsX0_align ({ frames := 5, cells := 0, slots := 0, locals := 115 }) G_ cI cZ [.ref h_, .ref h1_, .ref h2_, .ref h3_, .int (iI ((ml : Nat) : Int))] (wAl cI cZ h_ a_ b_ d_ ot_ nt_ ru_ bo_ bn_ bl_ ++ (wIm cI cZ h1_ a1_ b1_ no_ vo_ fo_ ++ wIm cI cZ h2_ a2_ b2_ nn_ vn_ fn_) ++ wBl cI h3_ a3_ b3_ d3_ k_ os_ ns_ ln_) sz (fun u_ => u_.2.2.2.2.2.2.1 ≤ 48 ∧ ∃ bs, Chn no_ nn_ (mtc vo_ vn_ fo_ fn_) ml bs ∧ Fnl no_ nn_ (mtc vo_ vn_ fo_ fn_) ml bs ∧ SE u_.2.2.2.2.2.2.1 u_.2.2.2.2.2.2.2.1 u_.2.2.2.2.2.2.2.2.1 u_.2.2.2.2.2.2.2.2.2 bs) (fun u_ => wAl cI cZ h_ a_ b_ d_ u_.1 u_.2.1 u_.2.2.1 u_.2.2.2.1 u_.2.2.2.2.1 u_.2.2.2.2.2.1 ++ (wIm cI cZ h1_ a1_ b1_ no_ vo_ fo_ ++ wIm cI cZ h2_ a2_ b2_ nn_ vn_ fn_) ++ wBl cI h3_ a3_ b3_ d3_ u_.2.2.2.2.2.2.1 u_.2.2.2.2.2.2.2.1 u_.2.2.2.2.2.2.2.2.1 u_.2.2.2.2.2.2.2.2.2) := by
  refine Met.ofW (cc := cX0_align) (maxL := 6) (ret := (none)) (by decide) rfl ?_
  intro p_ e_ s_ m_ args below meth c_ s₁ B hml hv
  obtain ⟨hargs, hsz, hP_, hK_, hD0⟩ := hv
  have hx_ := B.exec
  have hb_ := B.bytes
  have hr := B.returns
  have hts := atoms_spec (ws := wsX0_align) B.pre
  have hown : s_.vm.findClass RX0 = some m_.cls := findClass_of_methodNamed B.named
  have hlocks := B.notSynchronized
  have hi0_ : ∀ w_ ∈ wsX00, w_ ∈ wsX0_align := by decide +kernel
  have hf22_ := hts (.fieldLink RX0 22 "RelocatingPatch$Aligner" "bestOld" "I") (by decide +kernel)
  have hf26_ := hts (.fieldLink RX0 26 "RelocatingPatch$Aligner" "bestNew" "I") (by decide +kernel)
  have hf29_ := hts (.fieldLink RX0 29 "RelocatingPatch$Aligner" "bestLength" "I") (by decide +kernel)
  subst hsz
  have hD_ := hD0.self (sz := s_.heap.size)
  generalize hAe : va_A (wAl cI cZ h_ a_ b_ d_ ot_ nt_ ru_ bo_ bn_ bl_ ++ (wIm cI cZ h1_ a1_ b1_ no_ vo_ fo_ ++ wIm cI cZ h2_ a2_ b2_ nn_ vn_ fn_) ++ wBl cI h3_ a3_ b3_ d3_ k_ os_ ns_ ln_) s_.heap.size = A_ at hD_ ⊢
  have hA_ : ∀ q_ : Nat, s_.heap.size ≤ q_ → A_ q_ := fun q_ h_ => by rw [← hAe]; exact Or.inr h_
  have hS_ : va_S A_ s_.heap s_.heap [] := va_S.rf
  have hP_ : va_P G_ vwCl [(h_, .inr (0, [.ref a_, .ref b_, .ref d_, .int (iI ((bo_ : Nat) : Int)), .int (iI ((bn_ : Nat) : Int)), .int (iI ((bl_ : Nat) : Int))])), (a_, .inl (cZ, 48, .inl (aB ot_))), (b_, .inl (cZ, 48, .inl (aB nt_))), (d_, .inl (cI, 49, .inl (aN ru_))), (h1_, .inr (3, [.ref a1_, .ref b1_, .int (iI ((no_ : Nat) : Int))])), (a1_, .inl (cI, 48, .inl (aI vo_))), (b1_, .inl (cZ, 48, .inl (aB fo_))), (h2_, .inr (3, [.ref a2_, .ref b2_, .int (iI ((nn_ : Nat) : Int))])), (a2_, .inl (cI, 48, .inl (aI vn_))), (b2_, .inl (cZ, 48, .inl (aB fn_))), (h3_, .inr (1, [.ref a3_, .ref b3_, .ref d3_, .int (iI ((k_ : Nat) : Int))])), (a3_, .inl (cI, 48, .inl (aN os_))), (b3_, .inl (cI, 48, .inl (aN ns_))), (d3_, .inl (cI, 48, .inl (aN ln_)))] s_.heap := hP_
  have hD_ : va_D A_ [(h_, .inr (0, [.ref a_, .ref b_, .ref d_, .int (iI ((bo_ : Nat) : Int)), .int (iI ((bn_ : Nat) : Int)), .int (iI ((bl_ : Nat) : Int))])), (a_, .inl (cZ, 48, .inl (aB ot_))), (b_, .inl (cZ, 48, .inl (aB nt_))), (d_, .inl (cI, 49, .inl (aN ru_))), (h1_, .inr (3, [.ref a1_, .ref b1_, .int (iI ((no_ : Nat) : Int))])), (a1_, .inl (cI, 48, .inl (aI vo_))), (b1_, .inl (cZ, 48, .inl (aB fo_))), (h2_, .inr (3, [.ref a2_, .ref b2_, .int (iI ((nn_ : Nat) : Int))])), (a2_, .inl (cI, 48, .inl (aI vn_))), (b2_, .inl (cZ, 48, .inl (aB fn_))), (h3_, .inr (1, [.ref a3_, .ref b3_, .ref d3_, .int (iI ((k_ : Nat) : Int))])), (a3_, .inl (cI, 48, .inl (aN os_))), (b3_, .inl (cI, 48, .inl (aN ns_))), (d3_, .inl (cI, 48, .inl (aN ln_)))] := hD_
  generalize hQe : MQ below (va_Qv (S := (Nat → Bool) × (Nat → Bool) × (Nat → Nat) × Nat × Nat × Nat × Nat × (Nat → Nat) × (Nat → Nat) × (Nat → Nat)) (fun u_ => u_.2.2.2.2.2.2.1 ≤ 48 ∧ ∃ bs, Chn no_ nn_ (mtc vo_ vn_ fo_ fn_) ml bs ∧ Fnl no_ nn_ (mtc vo_ vn_ fo_ fn_) ml bs ∧ SE u_.2.2.2.2.2.2.1 u_.2.2.2.2.2.2.2.1 u_.2.2.2.2.2.2.2.2.1 u_.2.2.2.2.2.2.2.2.2 bs) (fun u1 t1 => va_P G_ vwCl ((fun u_ => wAl cI cZ h_ a_ b_ d_ u_.1 u_.2.1 u_.2.2.1 u_.2.2.2.1 u_.2.2.2.2.1 u_.2.2.2.2.2.1 ++ (wIm cI cZ h1_ a1_ b1_ no_ vo_ fo_ ++ wIm cI cZ h2_ a2_ b2_ nn_ vn_ fn_) ++ wBl cI h3_ a3_ b3_ d3_ u_.2.2.2.2.2.2.1 u_.2.2.2.2.2.2.2.1 u_.2.2.2.2.2.2.2.2.1 u_.2.2.2.2.2.2.2.2.2) u1) t1.heap) A_) args s_ 0 0 A_ = Q_
  have lp11 : ∀ (n_ : Nat) (r_ : Nat) (bs : List bT) (ot_ : Nat → Bool) (nt_ : Nat → Bool) (ru_ : Nat → Nat) (bo_ : Nat) (bn_ : Nat) (bl_ : Nat) (k_ : Nat) (os_ : Nat → Nat) (ns_ : Nat → Nat) (ln_ : Nat → Nat) (H_ : Heap) (locs : List Loc) (ls_ : Array Slot), (r_ ≤ 48) → (49 ≤ r_ + n_) → (k_ = r_) → (Chn no_ nn_ (mtc vo_ vn_ fo_ fn_) ml bs) → (∀ j_, j_ < 48 → ot_ j_ = tO bs j_ ∧ nt_ j_ = tN bs j_) → (SE k_ os_ ns_ ln_ bs) → (r_ = bs.length) → va_P G_ vwCl [(h_, .inr (0, [.ref a_, .ref b_, .ref d_, .int (iI ((bo_ : Nat) : Int)), .int (iI ((bn_ : Nat) : Int)), .int (iI ((bl_ : Nat) : Int))])), (a_, .inl (cZ, 48, .inl (aB ot_))), (b_, .inl (cZ, 48, .inl (aB nt_))), (d_, .inl (cI, 49, .inl (aN ru_))), (h1_, .inr (3, [.ref a1_, .ref b1_, .int (iI ((no_ : Nat) : Int))])), (a1_, .inl (cI, 48, .inl (aI vo_))), (b1_, .inl (cZ, 48, .inl (aB fo_))), (h2_, .inr (3, [.ref a2_, .ref b2_, .int (iI ((nn_ : Nat) : Int))])), (a2_, .inl (cI, 48, .inl (aI vn_))), (b2_, .inl (cZ, 48, .inl (aB fn_))), (h3_, .inr (1, [.ref a3_, .ref b3_, .ref d3_, .int (iI ((k_ : Nat) : Int))])), (a3_, .inl (cI, 48, .inl (aN os_))), (b3_, .inl (cI, 48, .inl (aN ns_))), (d3_, .inl (cI, 48, .inl (aN ln_)))] H_ → va_D A_ [(h_, .inr (0, [.ref a_, .ref b_, .ref d_, .int (iI ((bo_ : Nat) : Int)), .int (iI ((bn_ : Nat) : Int)), .int (iI ((bl_ : Nat) : Int))])), (a_, .inl (cZ, 48, .inl (aB ot_))), (b_, .inl (cZ, 48, .inl (aB nt_))), (d_, .inl (cI, 49, .inl (aN ru_))), (h1_, .inr (3, [.ref a1_, .ref b1_, .int (iI ((no_ : Nat) : Int))])), (a1_, .inl (cI, 48, .inl (aI vo_))), (b1_, .inl (cZ, 48, .inl (aB fo_))), (h2_, .inr (3, [.ref a2_, .ref b2_, .int (iI ((nn_ : Nat) : Int))])), (a2_, .inl (cI, 48, .inl (aI vn_))), (b2_, .inl (cZ, 48, .inl (aB fn_))), (h3_, .inr (1, [.ref a3_, .ref b3_, .ref d3_, .int (iI ((k_ : Nat) : Int))])), (a3_, .inl (cI, 48, .inl (aN os_))), (b3_, .inl (cI, 48, .inl (aN ns_))), (d3_, .inl (cI, 48, .inl (aN ln_)))] → va_S A_ s_.heap H_ locs → lv_has ls_ 6 [(0, .ref h_), (1, .ref h1_), (2, .ref h2_), (3, .ref h3_), (4, .int (iI ((ml : Nat) : Int))), (5, .int (iI ((r_ : Nat) : Int)))] → W p_ l_ e_ (headSpec wsX0_align ({ frames := 5, cells := 0, slots := 0, locals := 115 })).room s_ m_ args below meth c_ H_ locs 0 0 Q_ (F0 m_ 11 ls_ []) := by
    intro n_
    induction n_ with
    | zero =>
      intro r_ bs ot_ nt_ ru_ bo_ bn_ bl_ k_ os_ ns_ ln_ H_ locs ls_ hr0_ hn_ hkr hch htk hse hrl
      exact False.elim (by omega)
    | succ n_ ih_ =>
      intro r_ bs ot_ nt_ ru_ bo_ bn_ bl_ k_ os_ ns_ ln_ H_ locs ls_ hr0_ hn_ hkr hch htk hse hrl hP_ hD_ hS_ hl_
      have hge := Chn_geo hm1 hch
      have hB_ := SE_B48 hge hse hno hnn
      have hMM : Mf no_ nn_ (mtc vo_ vn_ fo_ fn_) ot_ nt_ = MM no_ nn_ (mtc vo_ vn_ fo_ fn_) bs := Mf_congr (fun o_ ho_ => (htk o_ (by omega)).1) (fun w_ hw_ => (htk w_ (by omega)).2)
      refine lv_iload hx_ hb_ dX0_align_11 (lv_at hl_ 5 rfl) ?_
      refine lv_bipush (v := iI ((48 : Nat) : Int)) hx_ hb_ dX0_align_13 rfl ?_
      refine q_icmp_ge (tgt := 60) hx_ hb_ dX0_align_15 (by decide) (⟨by omega, by omega⟩) (⟨by decide, by decide⟩) (fun c15_ => ?_) (fun c15_ => ?_)
      · skip
        rw [← hQe]
        exact W.vret hx_ hb_ hr (fun tt1 htt1 hWW1 => ⟨⟨(ot_, nt_, ru_, bo_, bn_, bl_, k_, os_, ns_, ln_), rfl, ⟨by show k_ ≤ 48; omega, bs, hch, Chn_full hm1 hch (by omega), hse⟩, by show va_P G_ vwCl _ tt1.heap; rw [htt1]; exact hP_⟩, hS_.F htt1⟩) hS_.2.2 dX0_align_60
      · skip
        refine lv_aload_n hx_ hb_ dX0_align_18 rfl (lv_at hl_ 0 rfl) ?_
        refine lv_aload_n hx_ hb_ dX0_align_19 rfl (lv_at hl_ 1 rfl) ?_
        refine lv_aload_n hx_ hb_ dX0_align_20 rfl (lv_at hl_ 2 rfl) ?_
        refine wr_V (As := [.ref h1_, .ref h2_]) (rest := []) (wr := [(h3_, .inr (1, [.ref a3_, .ref b3_, .ref d3_, .int (iI ((k_ : Nat) : Int))])), (a3_, .inl (cI, 48, .inl (aN os_))), (b3_, .inl (cI, 48, .inl (aN ns_))), (d3_, .inl (cI, 48, .inl (aN ln_)))]) (wn := fun u_ => [(h_, .inr (0, [.ref a_, .ref b_, .ref d_, .int (iI ((u_.2.1 : Nat) : Int)), .int (iI ((u_.2.2.1 : Nat) : Int)), .int (iI ((u_.2.2.2 : Nat) : Int))])), (a_, .inl (cZ, 48, .inl (aB ot_))), (b_, .inl (cZ, 48, .inl (aB nt_))), (d_, .inl (cI, 49, .inl (aN u_.1))), (h1_, .inr (3, [.ref a1_, .ref b1_, .int (iI ((no_ : Nat) : Int))])), (a1_, .inl (cI, 48, .inl (aI vo_))), (b1_, .inl (cZ, 48, .inl (aB fo_))), (h2_, .inr (3, [.ref a2_, .ref b2_, .int (iI ((nn_ : Nat) : Int))])), (a2_, .inl (cI, 48, .inl (aI vn_))), (b2_, .inl (cZ, 48, .inl (aB fn_))), (h3_, .inr (1, [.ref a3_, .ref b3_, .ref d3_, .int (iI ((k_ : Nat) : Int))])), (a3_, .inl (cI, 48, .inl (aN os_))), (b3_, .inl (cI, 48, .inl (aN ns_))), (d3_, .inl (cI, 48, .inl (aN ln_)))]) ⟨hx_, hb_, hml, hown, hts⟩ (c_X0_findLongestRun l_ G_ cI cZ h_ a_ b_ d_ ot_ nt_ ru_ bo_ bn_ bl_ h1_ a1_ b1_ no_ vo_ fo_ h2_ a2_ b2_ nn_ vn_ fn_ (by omega) (by omega) hvo hvn H_.size) (cwV 2 hts gX0_align_X0_findLongestRun rfl rfl rfl (by decide +kernel) ⟨Nat.le_of_ble_eq_true rfl, Nat.le_of_ble_eq_true rfl⟩) hP_ hK_ hD_ hS_ hA_ [0, 1, 2, 3, 4, 5, 6, 7, 8, 9] [10, 11, 12, 13] [4, 5, 6, 7, 8, 9, 10, 11, 12, 13, 0, 1, 2, 3] rfl rfl (by decide) (fun _ => rfl) (fun _ => rfl) 0 rfl rfl rfl hl_.1 rfl (Nat.le_of_ble_eq_true rfl) dX0_align_21 ⟨Nat.zero_le _, Nat.zero_le _⟩ (fun u_ H_ locs hu21 hP_ hD_ hS_ => ?_)
        obtain ⟨ru_21, bo_21, bn_21, bl_21⟩ := u_
        try dsimp only at hu21
        have hP_ : va_P G_ vwCl [(h_, .inr (0, [.ref a_, .ref b_, .ref d_, .int (iI ((bo_21 : Nat) : Int)), .int (iI ((bn_21 : Nat) : Int)), .int (iI ((bl_21 : Nat) : Int))])), (a_, .inl (cZ, 48, .inl (aB ot_))), (b_, .inl (cZ, 48, .inl (aB nt_))), (d_, .inl (cI, 49, .inl (aN ru_21))), (h1_, .inr (3, [.ref a1_, .ref b1_, .int (iI ((no_ : Nat) : Int))])), (a1_, .inl (cI, 48, .inl (aI vo_))), (b1_, .inl (cZ, 48, .inl (aB fo_))), (h2_, .inr (3, [.ref a2_, .ref b2_, .int (iI ((nn_ : Nat) : Int))])), (a2_, .inl (cI, 48, .inl (aI vn_))), (b2_, .inl (cZ, 48, .inl (aB fn_))), (h3_, .inr (1, [.ref a3_, .ref b3_, .ref d3_, .int (iI ((k_ : Nat) : Int))])), (a3_, .inl (cI, 48, .inl (aN os_))), (b3_, .inl (cI, 48, .inl (aN ns_))), (d3_, .inl (cI, 48, .inl (aN ln_)))] H_ := hP_
        have hD_ : va_D A_ [(h_, .inr (0, [.ref a_, .ref b_, .ref d_, .int (iI ((bo_21 : Nat) : Int)), .int (iI ((bn_21 : Nat) : Int)), .int (iI ((bl_21 : Nat) : Int))])), (a_, .inl (cZ, 48, .inl (aB ot_))), (b_, .inl (cZ, 48, .inl (aB nt_))), (d_, .inl (cI, 49, .inl (aN ru_21))), (h1_, .inr (3, [.ref a1_, .ref b1_, .int (iI ((no_ : Nat) : Int))])), (a1_, .inl (cI, 48, .inl (aI vo_))), (b1_, .inl (cZ, 48, .inl (aB fo_))), (h2_, .inr (3, [.ref a2_, .ref b2_, .int (iI ((nn_ : Nat) : Int))])), (a2_, .inl (cI, 48, .inl (aI vn_))), (b2_, .inl (cZ, 48, .inl (aB fn_))), (h3_, .inr (1, [.ref a3_, .ref b3_, .ref d3_, .int (iI ((k_ : Nat) : Int))])), (a3_, .inl (cI, 48, .inl (aN os_))), (b3_, .inl (cI, 48, .inl (aN ns_))), (d3_, .inl (cI, 48, .inl (aN ln_)))] := hD_
        have hpb : PB no_ nn_ (MM no_ nn_ (mtc vo_ vn_ fo_ fn_) bs) RT bl_21 bn_21 bo_21 := by rw [← hMM]; exact hu21
        have hle := PB_le hpb
        refine lv_aload_n hx_ hb_ dX0_align_24 rfl (lv_at hl_ 0 rfl) ?_
        refine va_get (D := G_) (ci := 0) (v := .int (iI ((bl_21 : Nat) : Int))) (C := RX0) (T := TX0) (N := 6) hx_ hb_ hts hi0_ hown hK_ hP_ 0 rfl rfl 5 (by decide) hf29_ (fun _ h9 => h9) rfl dX0_align_25 ?_
        refine lv_iload hx_ hb_ dX0_align_28 (lv_at hl_ 4 rfl) ?_
        refine q_icmp_ge (tgt := 34) hx_ hb_ dX0_align_30 (by decide) (⟨by omega, by omega⟩) (⟨by omega, by omega⟩) (fun c30_ => ?_) (fun c30_ => ?_)
        · skip
          have hrun := fun t_ (ht_ : t_ < bl_21) => PB_run (ot := tO bs) (nt := tN bs) hpb ht_
          have hend := hrun (bl_21 - 1) (by omega)
          have hdj : ∀ c_, c_ ∈ bs → c_.2.1 ≠ bn_21 := fun c_ hc_ he => by
            have h0_ := (hrun 0 (by omega)).2.2.2
            rw [tN_mem hc_ ⟨by omega, by have := (Geo_mem hge c_ hc_).1; omega⟩] at h0_
            cases h0_
          refine lv_aload_n hx_ hb_ dX0_align_34 rfl (lv_at hl_ 0 rfl) ?_
          refine wr_V (As := []) (rest := []) (wr := [(h1_, .inr (3, [.ref a1_, .ref b1_, .int (iI ((no_ : Nat) : Int))])), (a1_, .inl (cI, 48, .inl (aI vo_))), (b1_, .inl (cZ, 48, .inl (aB fo_))), (h2_, .inr (3, [.ref a2_, .ref b2_, .int (iI ((nn_ : Nat) : Int))])), (a2_, .inl (cI, 48, .inl (aI vn_))), (b2_, .inl (cZ, 48, .inl (aB fn_))), (h3_, .inr (1, [.ref a3_, .ref b3_, .ref d3_, .int (iI ((k_ : Nat) : Int))])), (a3_, .inl (cI, 48, .inl (aN os_))), (b3_, .inl (cI, 48, .inl (aN ns_))), (d3_, .inl (cI, 48, .inl (aN ln_)))]) (wn := fun u_ => [(h_, .inr (0, [.ref a_, .ref b_, .ref d_, .int (iI ((bo_21 : Nat) : Int)), .int (iI ((bn_21 : Nat) : Int)), .int (iI ((bl_21 : Nat) : Int))])), (a_, .inl (cZ, 48, .inl (aB u_.1))), (b_, .inl (cZ, 48, .inl (aB u_.2))), (d_, .inl (cI, 49, .inl (aN ru_21))), (h1_, .inr (3, [.ref a1_, .ref b1_, .int (iI ((no_ : Nat) : Int))])), (a1_, .inl (cI, 48, .inl (aI vo_))), (b1_, .inl (cZ, 48, .inl (aB fo_))), (h2_, .inr (3, [.ref a2_, .ref b2_, .int (iI ((nn_ : Nat) : Int))])), (a2_, .inl (cI, 48, .inl (aI vn_))), (b2_, .inl (cZ, 48, .inl (aB fn_))), (h3_, .inr (1, [.ref a3_, .ref b3_, .ref d3_, .int (iI ((k_ : Nat) : Int))])), (a3_, .inl (cI, 48, .inl (aN os_))), (b3_, .inl (cI, 48, .inl (aN ns_))), (d3_, .inl (cI, 48, .inl (aN ln_)))]) ⟨hx_, hb_, hml, hown, hts⟩ (c_X0_takeLongestRun l_ G_ cI cZ h_ a_ b_ d_ ot_ nt_ ru_21 bo_21 bn_21 bl_21 (fun t_ ht_ => ⟨by rw [(htk _ (by have := hrun t_ ht_; omega)).1]; exact (hrun t_ ht_).2.2.1, by rw [(htk _ (by have := hrun t_ ht_; omega)).2]; exact (hrun t_ ht_).2.2.2⟩) (by omega) (by omega) H_.size) (cwV 0 hts gX0_align_X0_takeLongestRun rfl rfl rfl (by decide +kernel) ⟨Nat.le_of_ble_eq_true rfl, Nat.le_of_ble_eq_true rfl⟩) hP_ hK_ hD_ hS_ hA_ [0, 1, 2, 3] [4, 5, 6, 7, 8, 9, 10, 11, 12, 13] [10, 11, 12, 13, 0, 1, 2, 3, 4, 5, 6, 7, 8, 9] rfl rfl (by decide) (fun _ => rfl) (fun _ => rfl) 0 rfl rfl rfl hl_.1 rfl (Nat.le_of_ble_eq_true rfl) dX0_align_35 ⟨Nat.zero_le _, Nat.zero_le _⟩ (fun u_ H_ locs hu35 hP_ hD_ hS_ => ?_)
          obtain ⟨ot_35, nt_35⟩ := u_
          try dsimp only at hu35
          have hP_ : va_P G_ vwCl [(h_, .inr (0, [.ref a_, .ref b_, .ref d_, .int (iI ((bo_21 : Nat) : Int)), .int (iI ((bn_21 : Nat) : Int)), .int (iI ((bl_21 : Nat) : Int))])), (a_, .inl (cZ, 48, .inl (aB ot_35))), (b_, .inl (cZ, 48, .inl (aB nt_35))), (d_, .inl (cI, 49, .inl (aN ru_21))), (h1_, .inr (3, [.ref a1_, .ref b1_, .int (iI ((no_ : Nat) : Int))])), (a1_, .inl (cI, 48, .inl (aI vo_))), (b1_, .inl (cZ, 48, .inl (aB fo_))), (h2_, .inr (3, [.ref a2_, .ref b2_, .int (iI ((nn_ : Nat) : Int))])), (a2_, .inl (cI, 48, .inl (aI vn_))), (b2_, .inl (cZ, 48, .inl (aB fn_))), (h3_, .inr (1, [.ref a3_, .ref b3_, .ref d3_, .int (iI ((k_ : Nat) : Int))])), (a3_, .inl (cI, 48, .inl (aN os_))), (b3_, .inl (cI, 48, .inl (aN ns_))), (d3_, .inl (cI, 48, .inl (aN ln_)))] H_ := hP_
          have hD_ : va_D A_ [(h_, .inr (0, [.ref a_, .ref b_, .ref d_, .int (iI ((bo_21 : Nat) : Int)), .int (iI ((bn_21 : Nat) : Int)), .int (iI ((bl_21 : Nat) : Int))])), (a_, .inl (cZ, 48, .inl (aB ot_35))), (b_, .inl (cZ, 48, .inl (aB nt_35))), (d_, .inl (cI, 49, .inl (aN ru_21))), (h1_, .inr (3, [.ref a1_, .ref b1_, .int (iI ((no_ : Nat) : Int))])), (a1_, .inl (cI, 48, .inl (aI vo_))), (b1_, .inl (cZ, 48, .inl (aB fo_))), (h2_, .inr (3, [.ref a2_, .ref b2_, .int (iI ((nn_ : Nat) : Int))])), (a2_, .inl (cI, 48, .inl (aI vn_))), (b2_, .inl (cZ, 48, .inl (aB fn_))), (h3_, .inr (1, [.ref a3_, .ref b3_, .ref d3_, .int (iI ((k_ : Nat) : Int))])), (a3_, .inl (cI, 48, .inl (aN os_))), (b3_, .inl (cI, 48, .inl (aN ns_))), (d3_, .inl (cI, 48, .inl (aN ln_)))] := hD_
          refine lv_aload_n hx_ hb_ dX0_align_38 rfl (lv_at hl_ 3 rfl) ?_
          refine lv_aload_n hx_ hb_ dX0_align_39 rfl (lv_at hl_ 0 rfl) ?_
          refine va_get (D := G_) (ci := 0) (v := .int (iI ((bo_21 : Nat) : Int))) (C := RX0) (T := TX0) (N := 6) hx_ hb_ hts hi0_ hown hK_ hP_ 0 rfl rfl 3 (by decide) hf22_ (fun _ h9 => h9) rfl dX0_align_40 ?_
          refine lv_aload_n hx_ hb_ dX0_align_43 rfl (lv_at hl_ 0 rfl) ?_
          refine va_get (D := G_) (ci := 0) (v := .int (iI ((bn_21 : Nat) : Int))) (C := RX0) (T := TX0) (N := 6) hx_ hb_ hts hi0_ hown hK_ hP_ 0 rfl rfl 4 (by decide) hf26_ (fun _ h9 => h9) rfl dX0_align_44 ?_
          refine lv_aload_n hx_ hb_ dX0_align_47 rfl (lv_at hl_ 0 rfl) ?_
          refine va_get (D := G_) (ci := 0) (v := .int (iI ((bl_21 : Nat) : Int))) (C := RX0) (T := TX0) (N := 6) hx_ hb_ hts hi0_ hown hK_ hP_ 0 rfl rfl 5 (by decide) hf29_ (fun _ h9 => h9) rfl dX0_align_48 ?_
          refine wr_V (As := [.int (iI ((bo_21 : Nat) : Int)), .int (iI ((bn_21 : Nat) : Int)), .int (iI ((bl_21 : Nat) : Int))]) (rest := []) (wr := [(h_, .inr (0, [.ref a_, .ref b_, .ref d_, .int (iI ((bo_21 : Nat) : Int)), .int (iI ((bn_21 : Nat) : Int)), .int (iI ((bl_21 : Nat) : Int))])), (a_, .inl (cZ, 48, .inl (aB ot_35))), (b_, .inl (cZ, 48, .inl (aB nt_35))), (d_, .inl (cI, 49, .inl (aN ru_21))), (h1_, .inr (3, [.ref a1_, .ref b1_, .int (iI ((no_ : Nat) : Int))])), (a1_, .inl (cI, 48, .inl (aI vo_))), (b1_, .inl (cZ, 48, .inl (aB fo_))), (h2_, .inr (3, [.ref a2_, .ref b2_, .int (iI ((nn_ : Nat) : Int))])), (a2_, .inl (cI, 48, .inl (aI vn_))), (b2_, .inl (cZ, 48, .inl (aB fn_)))]) (wn := fun u_ => [(h_, .inr (0, [.ref a_, .ref b_, .ref d_, .int (iI ((bo_21 : Nat) : Int)), .int (iI ((bn_21 : Nat) : Int)), .int (iI ((bl_21 : Nat) : Int))])), (a_, .inl (cZ, 48, .inl (aB ot_35))), (b_, .inl (cZ, 48, .inl (aB nt_35))), (d_, .inl (cI, 49, .inl (aN ru_21))), (h1_, .inr (3, [.ref a1_, .ref b1_, .int (iI ((no_ : Nat) : Int))])), (a1_, .inl (cI, 48, .inl (aI vo_))), (b1_, .inl (cZ, 48, .inl (aB fo_))), (h2_, .inr (3, [.ref a2_, .ref b2_, .int (iI ((nn_ : Nat) : Int))])), (a2_, .inl (cI, 48, .inl (aI vn_))), (b2_, .inl (cZ, 48, .inl (aB fn_))), (h3_, .inr (1, [.ref a3_, .ref b3_, .ref d3_, .int (iI ((k_ + 1 : Nat) : Int))])), (a3_, .inl (cI, 48, .inl (aN (ins os_ u_ k_ bo_21)))), (b3_, .inl (cI, 48, .inl (aN (ins ns_ u_ k_ bn_21)))), (d3_, .inl (cI, 48, .inl (aN (ins ln_ u_ k_ bl_21))))]) ⟨hx_, hb_, hml, hown, hts⟩ (c_X1_insert l_ G_ cI cZ h3_ a3_ b3_ d3_ k_ os_ ns_ ln_ bo_21 bn_21 bl_21 (by omega) (hB_) (by omega) H_.size) (cwV 3 hts gX0_align_X1_insert rfl rfl rfl (by decide +kernel) ⟨Nat.le_of_ble_eq_true rfl, Nat.le_of_ble_eq_true rfl⟩) hP_ hK_ hD_ hS_ hA_ [10, 11, 12, 13] [0, 1, 2, 3, 4, 5, 6, 7, 8, 9] [0, 1, 2, 3, 4, 5, 6, 7, 8, 9, 10, 11, 12, 13] rfl rfl (by decide) (fun _ => rfl) (fun _ => rfl) 0 rfl rfl rfl hl_.1 rfl (Nat.le_of_ble_eq_true rfl) dX0_align_51 ⟨Nat.zero_le _, Nat.zero_le _⟩ (fun u_ H_ locs hu51 hP_ hD_ hS_ => ?_)
          obtain ⟨pl_51, rfl⟩ : ∃ z_, z_ = u_ := ⟨_, rfl⟩
          try dsimp only at hu51
          have hP_ : va_P G_ vwCl [(h_, .inr (0, [.ref a_, .ref b_, .ref d_, .int (iI ((bo_21 : Nat) : Int)), .int (iI ((bn_21 : Nat) : Int)), .int (iI ((bl_21 : Nat) : Int))])), (a_, .inl (cZ, 48, .inl (aB ot_35))), (b_, .inl (cZ, 48, .inl (aB nt_35))), (d_, .inl (cI, 49, .inl (aN ru_21))), (h1_, .inr (3, [.ref a1_, .ref b1_, .int (iI ((no_ : Nat) : Int))])), (a1_, .inl (cI, 48, .inl (aI vo_))), (b1_, .inl (cZ, 48, .inl (aB fo_))), (h2_, .inr (3, [.ref a2_, .ref b2_, .int (iI ((nn_ : Nat) : Int))])), (a2_, .inl (cI, 48, .inl (aI vn_))), (b2_, .inl (cZ, 48, .inl (aB fn_))), (h3_, .inr (1, [.ref a3_, .ref b3_, .ref d3_, .int (iI ((k_ + 1 : Nat) : Int))])), (a3_, .inl (cI, 48, .inl (aN (ins os_ pl_51 k_ bo_21)))), (b3_, .inl (cI, 48, .inl (aN (ins ns_ pl_51 k_ bn_21)))), (d3_, .inl (cI, 48, .inl (aN (ins ln_ pl_51 k_ bl_21))))] H_ := hP_
          have hD_ : va_D A_ [(h_, .inr (0, [.ref a_, .ref b_, .ref d_, .int (iI ((bo_21 : Nat) : Int)), .int (iI ((bn_21 : Nat) : Int)), .int (iI ((bl_21 : Nat) : Int))])), (a_, .inl (cZ, 48, .inl (aB ot_35))), (b_, .inl (cZ, 48, .inl (aB nt_35))), (d_, .inl (cI, 49, .inl (aN ru_21))), (h1_, .inr (3, [.ref a1_, .ref b1_, .int (iI ((no_ : Nat) : Int))])), (a1_, .inl (cI, 48, .inl (aI vo_))), (b1_, .inl (cZ, 48, .inl (aB fo_))), (h2_, .inr (3, [.ref a2_, .ref b2_, .int (iI ((nn_ : Nat) : Int))])), (a2_, .inl (cI, 48, .inl (aI vn_))), (b2_, .inl (cZ, 48, .inl (aB fn_))), (h3_, .inr (1, [.ref a3_, .ref b3_, .ref d3_, .int (iI ((k_ + 1 : Nat) : Int))])), (a3_, .inl (cI, 48, .inl (aN (ins os_ pl_51 k_ bo_21)))), (b3_, .inl (cI, 48, .inl (aN (ins ns_ pl_51 k_ bn_21)))), (d3_, .inl (cI, 48, .inl (aN (ins ln_ pl_51 k_ bl_21))))] := hD_
          refine q_iinc (k := 5) ((r_ + 1 : Nat) : Int) hx_ hb_ dX0_align_54 hl_ rfl (rfl) (by decide) (lv' := [(5, .int (iI ((r_ + 1 : Nat) : Int))), (0, .ref h_), (1, .ref h1_), (2, .ref h2_), (3, .ref h3_), (4, .int (iI ((ml : Nat) : Int)))]) rfl (fun ls_ hl_ => ?_)
          refine lv_goto (tgt := 11) hx_ hb_ dX0_align_57 (by decide) ?_
          exact ih_ (r_ + 1) ((bl_21, bn_21, bo_21) :: bs) ot_35 nt_35 ru_21 bo_21 bn_21 bl_21 (k_ + 1) (ins os_ pl_51 k_ bo_21) (ins ns_ pl_51 k_ bn_21) (ins ln_ pl_51 k_ bl_21) _ _ ls_ (by omega) (by omega) (by omega) (⟨hch, hpb, by omega⟩) (fun j_ hj_ => ⟨by rw [(hu35 j_ hj_).1, tO_cons, (htk j_ hj_).1, Bool.or_comm], by rw [(hu35 j_ hj_).2, tN_cons, (htk j_ hj_).2, Bool.or_comm]⟩) (SE_ins (b := (bl_21, bn_21, bo_21)) hse (fun c_ hc_ => hdj c_ hc_) hu51.1 hu51.2.1 hu51.2.2) (by show r_ + 1 = bs.length + 1; omega) hP_ hD_ hS_ (lv_sub hl_ [1, 2, 3, 4, 5, 0] rfl)
        · skip
          rw [← hQe]
          exact W.vret hx_ hb_ hr (fun tt1 htt1 hWW1 => ⟨⟨(ot_, nt_, ru_21, bo_21, bn_21, bl_21, k_, os_, ns_, ln_), rfl, ⟨by show k_ ≤ 48; omega, bs, hch, ⟨(bl_21, bn_21, bo_21), hpb, by show bl_21 < ml; omega⟩, hse⟩, by show va_P G_ vwCl _ tt1.heap; rw [htt1]; exact hP_⟩, hS_.F htt1⟩) hS_.2.2 dX0_align_33
  rw [show entryFrame m_ args 6 = entryFrame m_ ([.ref h_, .ref h1_, .ref h2_, .ref h3_, .int (iI ((ml : Nat) : Int))] : List Value).toArray 6 from by rw [hargs], lg_entry_eq]
  have hl_ := lv_entry ([.ref h_, .ref h1_, .ref h2_, .ref h3_, .int (iI ((ml : Nat) : Int))]) (n := 6) (Nat.le_of_ble_eq_true rfl)
  generalize (lg_sl ([.ref h_, .ref h1_, .ref h2_, .ref h3_, .int (iI ((ml : Nat) : Int))]) ++ List.replicate (6 - (lg_sl ([.ref h_, .ref h1_, .ref h2_, .ref h3_, .int (iI ((ml : Nat) : Int))])).length) Slot.unset).toArray = ls_ at hl_ ⊢
  have hl_ : lv_has ls_ 6 [(0, .ref h_), (1, .ref h1_), (2, .ref h2_), (3, .ref h3_), (4, .int (iI ((ml : Nat) : Int)))] := hl_
  refine lv_aload_n hx_ hb_ dX0_align_0 rfl (lv_at hl_ 3 rfl) ?_
  refine wr_V (As := []) (rest := []) (wr := [(h_, .inr (0, [.ref a_, .ref b_, .ref d_, .int (iI ((bo_ : Nat) : Int)), .int (iI ((bn_ : Nat) : Int)), .int (iI ((bl_ : Nat) : Int))])), (a_, .inl (cZ, 48, .inl (aB ot_))), (b_, .inl (cZ, 48, .inl (aB nt_))), (d_, .inl (cI, 49, .inl (aN ru_))), (h1_, .inr (3, [.ref a1_, .ref b1_, .int (iI ((no_ : Nat) : Int))])), (a1_, .inl (cI, 48, .inl (aI vo_))), (b1_, .inl (cZ, 48, .inl (aB fo_))), (h2_, .inr (3, [.ref a2_, .ref b2_, .int (iI ((nn_ : Nat) : Int))])), (a2_, .inl (cI, 48, .inl (aI vn_))), (b2_, .inl (cZ, 48, .inl (aB fn_)))]) (wn := fun u_ => [(h_, .inr (0, [.ref a_, .ref b_, .ref d_, .int (iI ((bo_ : Nat) : Int)), .int (iI ((bn_ : Nat) : Int)), .int (iI ((bl_ : Nat) : Int))])), (a_, .inl (cZ, 48, .inl (aB ot_))), (b_, .inl (cZ, 48, .inl (aB nt_))), (d_, .inl (cI, 49, .inl (aN ru_))), (h1_, .inr (3, [.ref a1_, .ref b1_, .int (iI ((no_ : Nat) : Int))])), (a1_, .inl (cI, 48, .inl (aI vo_))), (b1_, .inl (cZ, 48, .inl (aB fo_))), (h2_, .inr (3, [.ref a2_, .ref b2_, .int (iI ((nn_ : Nat) : Int))])), (a2_, .inl (cI, 48, .inl (aI vn_))), (b2_, .inl (cZ, 48, .inl (aB fn_))), (h3_, .inr (1, [.ref a3_, .ref b3_, .ref d3_, .int (iI ((0 : Nat) : Int))])), (a3_, .inl (cI, 48, .inl (aN os_))), (b3_, .inl (cI, 48, .inl (aN ns_))), (d3_, .inl (cI, 48, .inl (aN ln_)))]) ⟨hx_, hb_, hml, hown, hts⟩ (c_X1_removeAll l_ G_ cI cZ h3_ a3_ b3_ d3_ k_ os_ ns_ ln_ s_.heap.size) (cwV 0 hts gX0_align_X1_removeAll rfl rfl rfl (by decide +kernel) ⟨Nat.le_of_ble_eq_true rfl, Nat.le_of_ble_eq_true rfl⟩) hP_ hK_ hD_ hS_ hA_ [10, 11, 12, 13] [0, 1, 2, 3, 4, 5, 6, 7, 8, 9] [0, 1, 2, 3, 4, 5, 6, 7, 8, 9, 10, 11, 12, 13] rfl rfl (by decide) (fun _ => rfl) (fun _ => rfl) 0 rfl rfl rfl hl_.1 rfl (Nat.le_of_ble_eq_true rfl) dX0_align_1 ⟨Nat.zero_le _, Nat.zero_le _⟩ (fun u_ H_ locs hu1 hP_ hD_ hS_ => ?_)
  try dsimp only at hu1
  have hP_ : va_P G_ vwCl [(h_, .inr (0, [.ref a_, .ref b_, .ref d_, .int (iI ((bo_ : Nat) : Int)), .int (iI ((bn_ : Nat) : Int)), .int (iI ((bl_ : Nat) : Int))])), (a_, .inl (cZ, 48, .inl (aB ot_))), (b_, .inl (cZ, 48, .inl (aB nt_))), (d_, .inl (cI, 49, .inl (aN ru_))), (h1_, .inr (3, [.ref a1_, .ref b1_, .int (iI ((no_ : Nat) : Int))])), (a1_, .inl (cI, 48, .inl (aI vo_))), (b1_, .inl (cZ, 48, .inl (aB fo_))), (h2_, .inr (3, [.ref a2_, .ref b2_, .int (iI ((nn_ : Nat) : Int))])), (a2_, .inl (cI, 48, .inl (aI vn_))), (b2_, .inl (cZ, 48, .inl (aB fn_))), (h3_, .inr (1, [.ref a3_, .ref b3_, .ref d3_, .int (iI ((0 : Nat) : Int))])), (a3_, .inl (cI, 48, .inl (aN os_))), (b3_, .inl (cI, 48, .inl (aN ns_))), (d3_, .inl (cI, 48, .inl (aN ln_)))] H_ := hP_
  have hD_ : va_D A_ [(h_, .inr (0, [.ref a_, .ref b_, .ref d_, .int (iI ((bo_ : Nat) : Int)), .int (iI ((bn_ : Nat) : Int)), .int (iI ((bl_ : Nat) : Int))])), (a_, .inl (cZ, 48, .inl (aB ot_))), (b_, .inl (cZ, 48, .inl (aB nt_))), (d_, .inl (cI, 49, .inl (aN ru_))), (h1_, .inr (3, [.ref a1_, .ref b1_, .int (iI ((no_ : Nat) : Int))])), (a1_, .inl (cI, 48, .inl (aI vo_))), (b1_, .inl (cZ, 48, .inl (aB fo_))), (h2_, .inr (3, [.ref a2_, .ref b2_, .int (iI ((nn_ : Nat) : Int))])), (a2_, .inl (cI, 48, .inl (aI vn_))), (b2_, .inl (cZ, 48, .inl (aB fn_))), (h3_, .inr (1, [.ref a3_, .ref b3_, .ref d3_, .int (iI ((0 : Nat) : Int))])), (a3_, .inl (cI, 48, .inl (aN os_))), (b3_, .inl (cI, 48, .inl (aN ns_))), (d3_, .inl (cI, 48, .inl (aN ln_)))] := hD_
  refine lv_aload_n hx_ hb_ dX0_align_4 rfl (lv_at hl_ 0 rfl) ?_
  refine wr_V (As := []) (rest := []) (wr := [(h1_, .inr (3, [.ref a1_, .ref b1_, .int (iI ((no_ : Nat) : Int))])), (a1_, .inl (cI, 48, .inl (aI vo_))), (b1_, .inl (cZ, 48, .inl (aB fo_))), (h2_, .inr (3, [.ref a2_, .ref b2_, .int (iI ((nn_ : Nat) : Int))])), (a2_, .inl (cI, 48, .inl (aI vn_))), (b2_, .inl (cZ, 48, .inl (aB fn_))), (h3_, .inr (1, [.ref a3_, .ref b3_, .ref d3_, .int (iI ((0 : Nat) : Int))])), (a3_, .inl (cI, 48, .inl (aN os_))), (b3_, .inl (cI, 48, .inl (aN ns_))), (d3_, .inl (cI, 48, .inl (aN ln_)))]) (wn := fun u_ => [(h_, .inr (0, [.ref a_, .ref b_, .ref d_, .int (iI ((bo_ : Nat) : Int)), .int (iI ((bn_ : Nat) : Int)), .int (iI ((bl_ : Nat) : Int))])), (a_, .inl (cZ, 48, .inl (aB u_.1))), (b_, .inl (cZ, 48, .inl (aB u_.2))), (d_, .inl (cI, 49, .inl (aN ru_))), (h1_, .inr (3, [.ref a1_, .ref b1_, .int (iI ((no_ : Nat) : Int))])), (a1_, .inl (cI, 48, .inl (aI vo_))), (b1_, .inl (cZ, 48, .inl (aB fo_))), (h2_, .inr (3, [.ref a2_, .ref b2_, .int (iI ((nn_ : Nat) : Int))])), (a2_, .inl (cI, 48, .inl (aI vn_))), (b2_, .inl (cZ, 48, .inl (aB fn_))), (h3_, .inr (1, [.ref a3_, .ref b3_, .ref d3_, .int (iI ((0 : Nat) : Int))])), (a3_, .inl (cI, 48, .inl (aN os_))), (b3_, .inl (cI, 48, .inl (aN ns_))), (d3_, .inl (cI, 48, .inl (aN ln_)))]) ⟨hx_, hb_, hml, hown, hts⟩ (c_X0_freeAllWords l_ G_ cI cZ h_ a_ b_ d_ ot_ nt_ ru_ bo_ bn_ bl_ H_.size) (cwV 0 hts gX0_align_X0_freeAllWords rfl rfl rfl (by decide +kernel) ⟨Nat.le_of_ble_eq_true rfl, Nat.le_of_ble_eq_true rfl⟩) hP_ hK_ hD_ hS_ hA_ [0, 1, 2, 3] [4, 5, 6, 7, 8, 9, 10, 11, 12, 13] [10, 11, 12, 13, 0, 1, 2, 3, 4, 5, 6, 7, 8, 9] rfl rfl (by decide) (fun _ => rfl) (fun _ => rfl) 0 rfl rfl rfl hl_.1 rfl (Nat.le_of_ble_eq_true rfl) dX0_align_5 ⟨Nat.zero_le _, Nat.zero_le _⟩ (fun u_ H_ locs hu5 hP_ hD_ hS_ => ?_)
  obtain ⟨ot_5, nt_5⟩ := u_
  try dsimp only at hu5
  have hP_ : va_P G_ vwCl [(h_, .inr (0, [.ref a_, .ref b_, .ref d_, .int (iI ((bo_ : Nat) : Int)), .int (iI ((bn_ : Nat) : Int)), .int (iI ((bl_ : Nat) : Int))])), (a_, .inl (cZ, 48, .inl (aB ot_5))), (b_, .inl (cZ, 48, .inl (aB nt_5))), (d_, .inl (cI, 49, .inl (aN ru_))), (h1_, .inr (3, [.ref a1_, .ref b1_, .int (iI ((no_ : Nat) : Int))])), (a1_, .inl (cI, 48, .inl (aI vo_))), (b1_, .inl (cZ, 48, .inl (aB fo_))), (h2_, .inr (3, [.ref a2_, .ref b2_, .int (iI ((nn_ : Nat) : Int))])), (a2_, .inl (cI, 48, .inl (aI vn_))), (b2_, .inl (cZ, 48, .inl (aB fn_))), (h3_, .inr (1, [.ref a3_, .ref b3_, .ref d3_, .int (iI ((0 : Nat) : Int))])), (a3_, .inl (cI, 48, .inl (aN os_))), (b3_, .inl (cI, 48, .inl (aN ns_))), (d3_, .inl (cI, 48, .inl (aN ln_)))] H_ := hP_
  have hD_ : va_D A_ [(h_, .inr (0, [.ref a_, .ref b_, .ref d_, .int (iI ((bo_ : Nat) : Int)), .int (iI ((bn_ : Nat) : Int)), .int (iI ((bl_ : Nat) : Int))])), (a_, .inl (cZ, 48, .inl (aB ot_5))), (b_, .inl (cZ, 48, .inl (aB nt_5))), (d_, .inl (cI, 49, .inl (aN ru_))), (h1_, .inr (3, [.ref a1_, .ref b1_, .int (iI ((no_ : Nat) : Int))])), (a1_, .inl (cI, 48, .inl (aI vo_))), (b1_, .inl (cZ, 48, .inl (aB fo_))), (h2_, .inr (3, [.ref a2_, .ref b2_, .int (iI ((nn_ : Nat) : Int))])), (a2_, .inl (cI, 48, .inl (aI vn_))), (b2_, .inl (cZ, 48, .inl (aB fn_))), (h3_, .inr (1, [.ref a3_, .ref b3_, .ref d3_, .int (iI ((0 : Nat) : Int))])), (a3_, .inl (cI, 48, .inl (aN os_))), (b3_, .inl (cI, 48, .inl (aN ns_))), (d3_, .inl (cI, 48, .inl (aN ln_)))] := hD_
  refine lv_iconst (v := iI ((0 : Nat) : Int)) hx_ hb_ dX0_align_8 rfl ?_
  refine lv_istore (lv' := [(5, .int (iI ((0 : Nat) : Int))), (0, .ref h_), (1, .ref h1_), (2, .ref h2_), (3, .ref h3_), (4, .int (iI ((ml : Nat) : Int)))]) hx_ hb_ dX0_align_9 hl_ (by decide) rfl (fun ls_ hl_ => ?_)
  exact lp11 (49) 0 ([]) ot_5 nt_5 ru_ bo_ bn_ bl_ 0 os_ ns_ ln_ _ _ ls_ (by omega) (by omega) (rfl) (trivial) (fun j_ hj_ => (hu5 j_ hj_)) (⟨fun i_ hi_ => absurd hi_ (Nat.not_lt_zero _), fun b_ hb_ => absurd hb_ List.not_mem_nil, fun i_ j_ _ hj_ => absurd hj_ (Nat.not_lt_zero _)⟩) (rfl) hP_ hD_ hS_ (lv_sub hl_ [1, 2, 3, 4, 5, 0] rfl)
