set_option maxHeartbeats 4000000 in
set_option maxRecDepth 100000 in
/-- the law's loop -/
theorem law_loop {p_ : Program} {l_ : Launch} {e_ : Env} {s_ : State} {m_ : MethodId} {below : List Frame} {meth : Method} {c_ : Code} {b_ L : Nat} {xs : Nat → Int32} {G_ : va_G} {cI cZ : ClassId} {ad am_ : Nat → Nat} {A_ : Nat → Prop} (hL : L ≤ 1536) (C0 : lw_At p_ s_ m_ meth c_ b_ L xs) (hK_ : va_K G_ vwCl (tY cI cZ) s_) (hA_ : ∀ q_ : Nat, s_.heap.size ≤ q_ → A_ q_) (hbA : ¬ A_ b_) (hout : ∀ q_ : Nat, A_ q_ → s_.heap.size ≤ q_) : ∀ (n_ i_ : Nat), i_ ≤ L + 2 → L + 3 ≤ i_ + n_ → LawAt p_ l_ e_ s_ m_ below meth c_ b_ G_ cI cZ ad am_ A_ 18 i_ := by
  intro n_
  induction n_ with
  | zero => intro i_ h1_ h2_; exact absurd h2_ (by omega)
  | succ n_ ih_ =>
    intro i_ h1_ h2_
    have C1 := C0
    obtain ⟨hx_, hb_, hr, hml, hown0, hts0, hX, hbl, hlocks, hgv⟩ := C1
    intro bu_ no_ vo_ fo_ nn_ vn_ fn_ k_ os_ ns_ ln_ ot_ nt_ ru_ bo_ bn_ bl_ od_ wt_ dr_ sp_ kr osr nsr lnr ba_ tk_ rt_ cp_ cd_ so_ me_ bf_ H_ locs ls_ hI hP_ hD_ hS_ hl_
    refine lv_iload_n hx_ hb_ dL_law_18 rfl (lv_at hl_ 3 rfl) ?_
    refine lv_aload_n hx_ hb_ dL_law_19 rfl (lv_at hl_ 0 rfl) ?_
    refine va_slen hx_ hb_ hX hbl hbA hS_ dL_law_20 ?_
    refine W.eq (g2 := F0 m_ 21 ls_ [.int (iI ((L : Nat) : Int)), .int (iI ((i_ : Nat) : Int))]) rfl ?_
    refine lv_iconst (v := iI ((3 : Nat) : Int)) hx_ hb_ dL_law_21 rfl ?_
    refine q_isub hx_ hb_ dL_law_22 ?_
    refine q_icmp_gt (tgt := 711) hx_ hb_ dL_law_23 (by decide) ⟨by omega, by omega⟩ ⟨by omega, by omega⟩ (fun c23_ => ?_) (fun c23_ => ?_)
    · refine lv_iconst (v := 1) hx_ hb_ dL_law_711 (by decide) ?_
      refine va_forget (fun q_ hq_ => hout _ (hS_.2.2 q_ hq_)) ?_
      exact lw_ret hx_ hb_ hr hlocks dL_law_712
    · have hi_ : i_ + 3 ≤ L := by omega
      have K : LawAt p_ l_ e_ s_ m_ below meth c_ b_ G_ cI cZ ad am_ A_ 705 i_ := by
        intro bu_ no_ vo_ fo_ nn_ vn_ fn_ k_ os_ ns_ ln_ ot_ nt_ ru_ bo_ bn_ bl_ od_ wt_ dr_ sp_ kr osr nsr lnr ba_ tk_ rt_ cp_ cd_ so_ me_ bf_ H_ locs ls_ hI hP_ hD_ hS_ hl_
        refine q_iinc (k := 3) ((i_ + 3 : Nat) : Int) hx_ hb_ dL_law_705 hl_ rfl rfl (by decide) (lv' := [(3, .int (iI ((i_ + 3 : Nat) : Int))), (0, .ref b_), (1, .ref (ad 0)), (2, .ref (am_ 0))]) rfl (fun ls_ hl_ => ?_)
        refine lv_goto (tgt := 18) hx_ hb_ dL_law_708 (by decide) ?_
        exact ih_ (i_ + 3) (by omega) (by omega) bu_ no_ vo_ fo_ nn_ vn_ fn_ k_ os_ ns_ ln_ ot_ nt_ ru_ bo_ bn_ bl_ od_ wt_ dr_ sp_ kr osr nsr lnr ba_ tk_ rt_ cp_ cd_ so_ me_ bf_ H_ locs ls_ hI hP_ hD_ hS_ (lv_sub hl_ [1, 2, 3, 0] rfl)
      refine lv_aload_n hx_ hb_ dL_law_26 rfl (lv_at hl_ 0 rfl) ?_
      refine lv_iload_n hx_ hb_ dL_law_27 rfl (lv_at hl_ 3 rfl) ?_
      refine va_sld hx_ hb_ hX hbl hbA hS_ (iI_in (show i_ < L by omega) (by omega)) dL_law_28 ?_
      refine lv_bipush (v := 31) hx_ hb_ dL_law_29 (by decide) ?_
      refine lv_iand hx_ hb_ dL_law_31 ?_
      obtain ⟨j_, hj_, he⟩ := pk_andE (xs (iI ((i_ : Nat) : Int)).toNatClampNeg) (m := 31) 5 (by decide)
      rw [he]
      have hj_ : j_ < 32 := hj_
      rcases (show j_ = 0 ∨ j_ = 1 ∨ j_ = 2 ∨ j_ = 3 ∨ j_ = 4 ∨ j_ = 5 ∨ j_ = 6 ∨ j_ = 7 ∨ j_ = 8 ∨ j_ = 9 ∨ j_ = 10 ∨ j_ = 11 ∨ j_ = 12 ∨ j_ = 13 ∨ j_ = 14 ∨ j_ = 15 ∨ j_ = 16 ∨ j_ = 17 ∨ j_ = 18 ∨ j_ = 19 ∨ j_ = 20 ∨ j_ = 21 ∨ j_ = 22 ∨ j_ = 23 ∨ j_ = 24 ∨ 25 ≤ j_ by omega) with rfl | rfl | rfl | rfl | rfl | rfl | rfl | rfl | rfl | rfl | rfl | rfl | rfl | rfl | rfl | rfl | rfl | rfl | rfl | rfl | rfl | rfl | rfl | rfl | rfl | hge
      · refine lv_tableIn (off := 116) (tgt := 148) hx_ hb_ dL_law_32 (by decide) (by decide) (by decide) (by decide) ?_
        exact law_case_0 hL C0 hK_ hA_ hbA hi_ K bu_ no_ vo_ fo_ nn_ vn_ fn_ k_ os_ ns_ ln_ ot_ nt_ ru_ bo_ bn_ bl_ od_ wt_ dr_ sp_ kr osr nsr lnr ba_ tk_ rt_ cp_ cd_ so_ me_ bf_ H_ locs ls_ hI hP_ hD_ hS_ hl_
      · refine lv_tableIn (off := 165) (tgt := 197) hx_ hb_ dL_law_32 (by decide) (by decide) (by decide) (by decide) ?_
        exact law_case_1 hL C0 hK_ hA_ hbA hi_ K bu_ no_ vo_ fo_ nn_ vn_ fn_ k_ os_ ns_ ln_ ot_ nt_ ru_ bo_ bn_ bl_ od_ wt_ dr_ sp_ kr osr nsr lnr ba_ tk_ rt_ cp_ cd_ so_ me_ bf_ H_ locs ls_ hI hP_ hD_ hS_ hl_
      · refine lv_tableIn (off := 214) (tgt := 246) hx_ hb_ dL_law_32 (by decide) (by decide) (by decide) (by decide) ?_
        exact law_case_2 hL C0 hK_ hA_ hbA hi_ K bu_ no_ vo_ fo_ nn_ vn_ fn_ k_ os_ ns_ ln_ ot_ nt_ ru_ bo_ bn_ bl_ od_ wt_ dr_ sp_ kr osr nsr lnr ba_ tk_ rt_ cp_ cd_ so_ me_ bf_ H_ locs ls_ hI hP_ hD_ hS_ hl_
      · refine lv_tableIn (off := 247) (tgt := 279) hx_ hb_ dL_law_32 (by decide) (by decide) (by decide) (by decide) ?_
        exact law_case_3 hL C0 hK_ hA_ hbA hi_ K bu_ no_ vo_ fo_ nn_ vn_ fn_ k_ os_ ns_ ln_ ot_ nt_ ru_ bo_ bn_ bl_ od_ wt_ dr_ sp_ kr osr nsr lnr ba_ tk_ rt_ cp_ cd_ so_ me_ bf_ H_ locs ls_ hI hP_ hD_ hS_ hl_
      · refine lv_tableIn (off := 260) (tgt := 292) hx_ hb_ dL_law_32 (by decide) (by decide) (by decide) (by decide) ?_
        exact law_case_4 hL C0 hK_ hA_ hbA hi_ K bu_ no_ vo_ fo_ nn_ vn_ fn_ k_ os_ ns_ ln_ ot_ nt_ ru_ bo_ bn_ bl_ od_ wt_ dr_ sp_ kr osr nsr lnr ba_ tk_ rt_ cp_ cd_ so_ me_ bf_ H_ locs ls_ hI hP_ hD_ hS_ hl_
      · refine lv_tableIn (off := 273) (tgt := 305) hx_ hb_ dL_law_32 (by decide) (by decide) (by decide) (by decide) ?_
        exact law_case_5 hL C0 hK_ hA_ hbA hi_ K bu_ no_ vo_ fo_ nn_ vn_ fn_ k_ os_ ns_ ln_ ot_ nt_ ru_ bo_ bn_ bl_ od_ wt_ dr_ sp_ kr osr nsr lnr ba_ tk_ rt_ cp_ cd_ so_ me_ bf_ H_ locs ls_ hI hP_ hD_ hS_ hl_
      · refine lv_tableIn (off := 286) (tgt := 318) hx_ hb_ dL_law_32 (by decide) (by decide) (by decide) (by decide) ?_
        exact law_case_6 hL C0 hK_ hA_ hbA hi_ K bu_ no_ vo_ fo_ nn_ vn_ fn_ k_ os_ ns_ ln_ ot_ nt_ ru_ bo_ bn_ bl_ od_ wt_ dr_ sp_ kr osr nsr lnr ba_ tk_ rt_ cp_ cd_ so_ me_ bf_ H_ locs ls_ hI hP_ hD_ hS_ hl_
      · refine lv_tableIn (off := 309) (tgt := 341) hx_ hb_ dL_law_32 (by decide) (by decide) (by decide) (by decide) ?_
        exact law_case_7 hL C0 hK_ hA_ hbA hi_ K bu_ no_ vo_ fo_ nn_ vn_ fn_ k_ os_ ns_ ln_ ot_ nt_ ru_ bo_ bn_ bl_ od_ wt_ dr_ sp_ kr osr nsr lnr ba_ tk_ rt_ cp_ cd_ so_ me_ bf_ H_ locs ls_ hI hP_ hD_ hS_ hl_
      · refine lv_tableIn (off := 332) (tgt := 364) hx_ hb_ dL_law_32 (by decide) (by decide) (by decide) (by decide) ?_
        exact law_case_8 hL C0 hK_ hA_ hbA hi_ K bu_ no_ vo_ fo_ nn_ vn_ fn_ k_ os_ ns_ ln_ ot_ nt_ ru_ bo_ bn_ bl_ od_ wt_ dr_ sp_ kr osr nsr lnr ba_ tk_ rt_ cp_ cd_ so_ me_ bf_ H_ locs ls_ hI hP_ hD_ hS_ hl_
      · refine lv_tableIn (off := 355) (tgt := 387) hx_ hb_ dL_law_32 (by decide) (by decide) (by decide) (by decide) ?_
        exact law_case_9 hL C0 hK_ hA_ hbA hi_ K bu_ no_ vo_ fo_ nn_ vn_ fn_ k_ os_ ns_ ln_ ot_ nt_ ru_ bo_ bn_ bl_ od_ wt_ dr_ sp_ kr osr nsr lnr ba_ tk_ rt_ cp_ cd_ so_ me_ bf_ H_ locs ls_ hI hP_ hD_ hS_ hl_
      · refine lv_tableIn (off := 378) (tgt := 410) hx_ hb_ dL_law_32 (by decide) (by decide) (by decide) (by decide) ?_
        exact law_case_10 hL C0 hK_ hA_ hbA hi_ K bu_ no_ vo_ fo_ nn_ vn_ fn_ k_ os_ ns_ ln_ ot_ nt_ ru_ bo_ bn_ bl_ od_ wt_ dr_ sp_ kr osr nsr lnr ba_ tk_ rt_ cp_ cd_ so_ me_ bf_ H_ locs ls_ hI hP_ hD_ hS_ hl_
      · refine lv_tableIn (off := 401) (tgt := 433) hx_ hb_ dL_law_32 (by decide) (by decide) (by decide) (by decide) ?_
        exact law_case_11 hL C0 hK_ hA_ hbA hi_ K bu_ no_ vo_ fo_ nn_ vn_ fn_ k_ os_ ns_ ln_ ot_ nt_ ru_ bo_ bn_ bl_ od_ wt_ dr_ sp_ kr osr nsr lnr ba_ tk_ rt_ cp_ cd_ so_ me_ bf_ H_ locs ls_ hI hP_ hD_ hS_ hl_
      · refine lv_tableIn (off := 424) (tgt := 456) hx_ hb_ dL_law_32 (by decide) (by decide) (by decide) (by decide) ?_
        exact law_case_12 hL C0 hK_ hA_ hbA hi_ K bu_ no_ vo_ fo_ nn_ vn_ fn_ k_ os_ ns_ ln_ ot_ nt_ ru_ bo_ bn_ bl_ od_ wt_ dr_ sp_ kr osr nsr lnr ba_ tk_ rt_ cp_ cd_ so_ me_ bf_ H_ locs ls_ hI hP_ hD_ hS_ hl_
      · refine lv_tableIn (off := 447) (tgt := 479) hx_ hb_ dL_law_32 (by decide) (by decide) (by decide) (by decide) ?_
        exact law_case_13 hL C0 hK_ hA_ hbA hi_ K bu_ no_ vo_ fo_ nn_ vn_ fn_ k_ os_ ns_ ln_ ot_ nt_ ru_ bo_ bn_ bl_ od_ wt_ dr_ sp_ kr osr nsr lnr ba_ tk_ rt_ cp_ cd_ so_ me_ bf_ H_ locs ls_ hI hP_ hD_ hS_ hl_
      · refine lv_tableIn (off := 470) (tgt := 502) hx_ hb_ dL_law_32 (by decide) (by decide) (by decide) (by decide) ?_
        exact law_case_14 hL C0 hK_ hA_ hbA hi_ K bu_ no_ vo_ fo_ nn_ vn_ fn_ k_ os_ ns_ ln_ ot_ nt_ ru_ bo_ bn_ bl_ od_ wt_ dr_ sp_ kr osr nsr lnr ba_ tk_ rt_ cp_ cd_ so_ me_ bf_ H_ locs ls_ hI hP_ hD_ hS_ hl_
      · refine lv_tableIn (off := 483) (tgt := 515) hx_ hb_ dL_law_32 (by decide) (by decide) (by decide) (by decide) ?_
        exact law_case_15 hL C0 hK_ hA_ hbA hi_ K bu_ no_ vo_ fo_ nn_ vn_ fn_ k_ os_ ns_ ln_ ot_ nt_ ru_ bo_ bn_ bl_ od_ wt_ dr_ sp_ kr osr nsr lnr ba_ tk_ rt_ cp_ cd_ so_ me_ bf_ H_ locs ls_ hI hP_ hD_ hS_ hl_
      · refine lv_tableIn (off := 506) (tgt := 538) hx_ hb_ dL_law_32 (by decide) (by decide) (by decide) (by decide) ?_
        exact law_case_16 hL C0 hK_ hA_ hbA hi_ K bu_ no_ vo_ fo_ nn_ vn_ fn_ k_ os_ ns_ ln_ ot_ nt_ ru_ bo_ bn_ bl_ od_ wt_ dr_ sp_ kr osr nsr lnr ba_ tk_ rt_ cp_ cd_ so_ me_ bf_ H_ locs ls_ hI hP_ hD_ hS_ hl_
      · refine lv_tableIn (off := 519) (tgt := 551) hx_ hb_ dL_law_32 (by decide) (by decide) (by decide) (by decide) ?_
        exact law_case_17 hL C0 hK_ hA_ hbA hi_ K bu_ no_ vo_ fo_ nn_ vn_ fn_ k_ os_ ns_ ln_ ot_ nt_ ru_ bo_ bn_ bl_ od_ wt_ dr_ sp_ kr osr nsr lnr ba_ tk_ rt_ cp_ cd_ so_ me_ bf_ H_ locs ls_ hI hP_ hD_ hS_ hl_
      · refine lv_tableIn (off := 532) (tgt := 564) hx_ hb_ dL_law_32 (by decide) (by decide) (by decide) (by decide) ?_
        exact law_case_18 hL C0 hK_ hA_ hbA hi_ K bu_ no_ vo_ fo_ nn_ vn_ fn_ k_ os_ ns_ ln_ ot_ nt_ ru_ bo_ bn_ bl_ od_ wt_ dr_ sp_ kr osr nsr lnr ba_ tk_ rt_ cp_ cd_ so_ me_ bf_ H_ locs ls_ hI hP_ hD_ hS_ hl_
      · refine lv_tableIn (off := 545) (tgt := 577) hx_ hb_ dL_law_32 (by decide) (by decide) (by decide) (by decide) ?_
        exact law_case_19 hL C0 hK_ hA_ hbA hi_ K bu_ no_ vo_ fo_ nn_ vn_ fn_ k_ os_ ns_ ln_ ot_ nt_ ru_ bo_ bn_ bl_ od_ wt_ dr_ sp_ kr osr nsr lnr ba_ tk_ rt_ cp_ cd_ so_ me_ bf_ H_ locs ls_ hI hP_ hD_ hS_ hl_
      · refine lv_tableIn (off := 558) (tgt := 590) hx_ hb_ dL_law_32 (by decide) (by decide) (by decide) (by decide) ?_
        exact law_case_20 hL C0 hK_ hA_ hbA hi_ K bu_ no_ vo_ fo_ nn_ vn_ fn_ k_ os_ ns_ ln_ ot_ nt_ ru_ bo_ bn_ bl_ od_ wt_ dr_ sp_ kr osr nsr lnr ba_ tk_ rt_ cp_ cd_ so_ me_ bf_ H_ locs ls_ hI hP_ hD_ hS_ hl_
      · refine lv_tableIn (off := 581) (tgt := 613) hx_ hb_ dL_law_32 (by decide) (by decide) (by decide) (by decide) ?_
        exact law_case_21 hL C0 hK_ hA_ hbA hi_ K bu_ no_ vo_ fo_ nn_ vn_ fn_ k_ os_ ns_ ln_ ot_ nt_ ru_ bo_ bn_ bl_ od_ wt_ dr_ sp_ kr osr nsr lnr ba_ tk_ rt_ cp_ cd_ so_ me_ bf_ H_ locs ls_ hI hP_ hD_ hS_ hl_
      · refine lv_tableIn (off := 604) (tgt := 636) hx_ hb_ dL_law_32 (by decide) (by decide) (by decide) (by decide) ?_
        exact law_case_22 hL C0 hK_ hA_ hbA hi_ K bu_ no_ vo_ fo_ nn_ vn_ fn_ k_ os_ ns_ ln_ ot_ nt_ ru_ bo_ bn_ bl_ od_ wt_ dr_ sp_ kr osr nsr lnr ba_ tk_ rt_ cp_ cd_ so_ me_ bf_ H_ locs ls_ hI hP_ hD_ hS_ hl_
      · refine lv_tableIn (off := 617) (tgt := 649) hx_ hb_ dL_law_32 (by decide) (by decide) (by decide) (by decide) ?_
        exact law_case_23 hL C0 hK_ hA_ hbA hi_ K bu_ no_ vo_ fo_ nn_ vn_ fn_ k_ os_ ns_ ln_ ot_ nt_ ru_ bo_ bn_ bl_ od_ wt_ dr_ sp_ kr osr nsr lnr ba_ tk_ rt_ cp_ cd_ so_ me_ bf_ H_ locs ls_ hI hP_ hD_ hS_ hl_
      · refine lv_tableIn (off := 650) (tgt := 682) hx_ hb_ dL_law_32 (by decide) (by decide) (by decide) (by decide) ?_
        exact law_case_24 hL C0 hK_ hA_ hbA hi_ K bu_ no_ vo_ fo_ nn_ vn_ fn_ k_ os_ ns_ ln_ ot_ nt_ ru_ bo_ bn_ bl_ od_ wt_ dr_ sp_ kr osr nsr lnr ba_ tk_ rt_ cp_ cd_ so_ me_ bf_ H_ locs ls_ hI hP_ hD_ hS_ hl_
      · refine lv_tableOut (tgt := 705) hx_ hb_ dL_law_32 (Or.inr ?_) (by decide) ?_
        · rw [nI_toInt (by omega)]; omega
        · exact K bu_ no_ vo_ fo_ nn_ vn_ fn_ k_ os_ ns_ ln_ ot_ nt_ ru_ bo_ bn_ bl_ od_ wt_ dr_ sp_ kr osr nsr lnr ba_ tk_ rt_ cp_ cd_ so_ me_ bf_ H_ locs ls_ hI hP_ hD_ hS_ hl_
