theorem wd_DD {cA cA' : FieldType → ClassId} {aK aR : Nat → Nat} {A : Nat → Prop} {K0 R0 : Mem} (K R : Mem) {sK sR : List Shp} (h : va_D A (wd cA aK K0 0 sK ++ wd cA' aR R0 0 sR)) : va_D A (wd cA aK K 0 sK ++ wd cA' aR R 0 sR) := by
  have key : ∀ (k : Nat) (q : Nat × va_E), (wd cA aK K 0 sK ++ wd cA' aR R 0 sR)[k]? = some q → ∃ e, (wd cA aK K0 0 sK ++ wd cA' aR R0 0 sR)[k]? = some (q.1, e) := by
    intro k q hk
    by_cases hl : k < sK.length
    · rw [List.getElem?_append_left (by rw [wd_len]; exact hl)] at hk ⊢
      exact wd_addr sK 0 k q.1 q.2 hk
    · rw [List.getElem?_append_right (by rw [wd_len]; omega), wd_len] at hk ⊢
      exact wd_addr sR 0 _ q.1 q.2 hk
  refine ⟨fun i j p q hi hj e => ?_, fun k q hk => ?_⟩
  · obtain ⟨e1, h1⟩ := key i p hi
    obtain ⟨e2, h2⟩ := key j q hj
    exact h.1 i j _ _ h1 h2 e
  · obtain ⟨e1, h1⟩ := key k q hk
    exact h.2 k (q.1, e1) h1
set_option maxRecDepth 100000 in
set_option maxHeartbeats 8000000 in
theorem law_loop {G : Ctx} {Rel : Mem → Mem → Prop} {b N : Nat} {xs : Nat → Int32} {aK aR : Nat → Nat} (C : Cx G RL cL_law 4 136 3501) (S : Scr G b N xs) (hN : N ≤ 3072) (hDD : ∀ K R, va_D (gA G) (wd (gC G) aK K 0 shsK ++ wd (gC G) aR R 0 shsR)) (hret : ∀ w L, V G 4 w 1556 L [.int 1]) (s_knit : Sim2 Rel A8_knit A9_knit) (s_told : Sim2 Rel A8_told A9_told) (s_as : Sim2 Rel A8_as A9_as) (s_turns : Sim2 Rel A8_turns A9_turns) (s_set : Sim3 Rel A8_set A9_set) (s_drops : Sim2 Rel A8_drops A9_drops) (s_hooks : Sim2 Rel A8_hooks A9_hooks) (s_rule : Sim2 Rel A8_rule A9_rule) (s_deal : Sim1 Rel A8_deal A9_deal) (s_seed : Sim1 Rel A8_seed A9_seed) (s_nights : Sim1 Rel A8_nights A9_nights) (s_town : Sim1 Rel A8_town A9_town) (s_way : Sim4 Rel A8_way A9_way) (s_reach : Sim2 Rel A8_reach A9_reach) (s_pulled : Sim2 Rel A8_pulled A9_pulled) (s_worst : Sim1 Rel A8_worst A9_worst) (s_needs : Sim2 Rel A8_needs A9_needs) (s_behind : Sim2 Rel A8_behind A9_behind) (s_gone : Sim2 Rel A8_gone A9_gone) (s_thick : Sim3 Rel A8_thick A9_thick) (s_becomes : Sim3 Rel A8_becomes A9_becomes) (s_like : Sim2 Rel A8_like A9_like) (s_fee : Sim0 Rel A8_fee A9_fee) (s_fine : Sim1 Rel A8_fine A9_fine) (s_feed : Sim3 Rel A8_feed A9_feed) (s_trim : Sim1 Rel A8_trim A9_trim) (s_text : Sim0 Rel A8_text A9_text) (s_textTold : Sim2 Rel A8_textTold A9_textTold) (s_why : Sim1 Rel A8_why A9_why) (s_sheet : Sim3 Rel A8_sheet A9_sheet) (s_mark : Sim3 Rel A8_mark A9_mark) (s_pour : Sim1 Rel A8_pour A9_pour) (s_reads : Sim1 Rel A8_reads A9_reads) (s_copy : Sim5 Rel A8_copy A9_copy) (s_lay : Sim3 Rel A8_lay A9_lay) (s_ask : Sim2 Rel A8_ask A9_ask) (s_item : Sim2 Rel A8_item A9_item) (s_rest : Sim2 Rel A8_rest A9_rest) (s_tell : Sim1 Rel A8_tell A9_tell) (s_check : Sim1 Rel A8_check A9_check) (s_keep : Sim0 Rel A8_keep A9_keep) (s_back : Sim0 Rel A8_back A9_back) (s_count : Sim1 Rel A8_count A9_count) : ∀ (n i : Nat), i ≤ N → N < i + 6 * n + 6 → ∀ K R, Rel K R → V G 4 (wd (gC G) aK K 0 shsK ++ wd (gC G) aR R 0 shsR) 18 [(0, .ref b), (1, .ref (aK 0)), (2, .ref (aR 0)), (3, .int (nI i))] [] := by
  intro n
  induction n with
  | zero =>
    intro i hi hn K R hrel
    refine v_iload_n C dL_law_18 rfl rfl 3 rfl ?_
    refine v_aload_n C dL_law_19 rfl rfl 0 rfl ?_
    refine v_slenx C S dL_law_20 rfl ?_
    refine v_bipush C dL_law_21 rfl bi_6 ?_
    refine v_isub C dL_law_23 rfl ?_
    refine v_icmp_gt C dL_law_24 (tgt := 1555) (by decide) rfl (fun c => ?_) (fun c => absurd ((law_stop hi hN).mpr (by omega)) c)
    refine v_iconst C dL_law_1555 rfl ic_1 ?_
    exact hret _ _
  | succ n ih =>
    intro i hi hn K R hrel
    refine v_iload_n C dL_law_18 rfl rfl 3 rfl ?_
    refine v_aload_n C dL_law_19 rfl rfl 0 rfl ?_
    refine v_slenx C S dL_law_20 rfl ?_
    refine v_bipush C dL_law_21 rfl bi_6 ?_
    refine v_isub C dL_law_23 rfl ?_
    refine v_icmp_gt C dL_law_24 (tgt := 1555) (by decide) rfl (fun c => ?_) (fun c => ?_)
    · refine v_iconst C dL_law_1555 rfl ic_1 ?_
      exact hret _ _
    have hi6 : i + 6 ≤ N := Nat.not_lt.mp fun q => c ((law_stop hi hN).mpr q)
    have kk : ∀ K' R', Rel K' R' → V G 4 (wd (gC G) aK K' 0 shsK ++ wd (gC G) aR R' 0 shsR) 1549 [(0, .ref b), (1, .ref (aK 0)), (2, .ref (aR 0)), (3, .int (nI i))] [] := by
      intro K' R' hrel'
      refine v_iinc C dL_law_1549 rfl 3 rfl (v := nI (i + 6)) (nI_addc i 6) (by decide) (L' := [(3, .int (nI (i + 6))), (0, .ref b), (1, .ref (aK 0)), (2, .ref (aR 0))]) rfl ?_
      refine v_goto C dL_law_1552 (tgt := 18) (by decide) ?_
      refine v_sub [1, 2, 3, 0] rfl ?_
      exact ih (i + 6) hi6 (by omega) K' R' hrel'
    refine v_aload_n C dL_law_27 rfl rfl 0 rfl ?_
    refine v_iload_n C dL_law_28 rfl rfl 3 rfl ?_
    refine v_sld C S (inb_nI (by omega) (by omega)) dL_law_29 rfl ?_
    refine v_bipush C dL_law_30 rfl bi_63 ?_
    refine v_iand C dL_law_32 rfl ?_
    generalize xs (nI i).toNatClampNeg &&& 63 = x
    by_cases c0 : x = 0
    · refine v_tsIn C dL_law_33 c0 (by decide) (by decide) (off := 187) (by decide) (tgt := 220) (by decide) ?_
      exact lc_knit C S hN hDD s_knit hi6 hrel kk
    by_cases c1 : x = 1
    · refine v_tsIn C dL_law_33 c1 (by decide) (by decide) (off := 220) (by decide) (tgt := 253) (by decide) ?_
      exact lc_told C S hN hDD s_told hi6 hrel kk
    by_cases c2 : x = 2
    · refine v_tsIn C dL_law_33 c2 (by decide) (by decide) (off := 253) (by decide) (tgt := 286) (by decide) ?_
      exact lc_as C S hN hDD s_as hi6 hrel kk
    by_cases c3 : x = 3
    · refine v_tsIn C dL_law_33 c3 (by decide) (by decide) (off := 286) (by decide) (tgt := 319) (by decide) ?_
      exact lc_turns C S hN hDD s_turns hi6 hrel kk
    by_cases c4 : x = 4
    · refine v_tsIn C dL_law_33 c4 (by decide) (by decide) (off := 319) (by decide) (tgt := 352) (by decide) ?_
      exact lc_set C S hN hDD s_set hi6 hrel kk
    by_cases c5 : x = 5
    · refine v_tsIn C dL_law_33 c5 (by decide) (by decide) (off := 362) (by decide) (tgt := 395) (by decide) ?_
      exact lc_drops C S hN hDD s_drops hi6 hrel kk
    by_cases c6 : x = 6
    · refine v_tsIn C dL_law_33 c6 (by decide) (by decide) (off := 395) (by decide) (tgt := 428) (by decide) ?_
      exact lc_hooks C S hN hDD s_hooks hi6 hrel kk
    by_cases c7 : x = 7
    · refine v_tsIn C dL_law_33 c7 (by decide) (by decide) (off := 428) (by decide) (tgt := 461) (by decide) ?_
      exact lc_rule C S hN hDD s_rule hi6 hrel kk
    by_cases c8 : x = 8
    · refine v_tsIn C dL_law_33 c8 (by decide) (by decide) (off := 461) (by decide) (tgt := 494) (by decide) ?_
      exact lc_deal C S hN hDD s_deal hi6 hrel kk
    by_cases c9 : x = 9
    · refine v_tsIn C dL_law_33 c9 (by decide) (by decide) (off := 484) (by decide) (tgt := 517) (by decide) ?_
      exact lc_seed C S hN hDD s_seed hi6 hrel kk
    by_cases c10 : x = 10
    · refine v_tsIn C dL_law_33 c10 (by decide) (by decide) (off := 507) (by decide) (tgt := 540) (by decide) ?_
      exact lc_nights C S hN hDD s_nights hi6 hrel kk
    by_cases c11 : x = 11
    · refine v_tsIn C dL_law_33 c11 (by decide) (by decide) (off := 530) (by decide) (tgt := 563) (by decide) ?_
      exact lc_town C S hN hDD s_town hi6 hrel kk
    by_cases c12 : x = 12
    · refine v_tsIn C dL_law_33 c12 (by decide) (by decide) (off := 553) (by decide) (tgt := 586) (by decide) ?_
      exact lc_way C S hN hDD s_way hi6 hrel kk
    by_cases c13 : x = 13
    · refine v_tsIn C dL_law_33 c13 (by decide) (by decide) (off := 606) (by decide) (tgt := 639) (by decide) ?_
      exact lc_reach C S hN hDD s_reach hi6 hrel kk
    by_cases c14 : x = 14
    · refine v_tsIn C dL_law_33 c14 (by decide) (by decide) (off := 639) (by decide) (tgt := 672) (by decide) ?_
      exact lc_pulled C S hN hDD s_pulled hi6 hrel kk
    by_cases c15 : x = 15
    · refine v_tsIn C dL_law_33 c15 (by decide) (by decide) (off := 672) (by decide) (tgt := 705) (by decide) ?_
      exact lc_worst C S hN hDD s_worst hi6 hrel kk
    by_cases c16 : x = 16
    · refine v_tsIn C dL_law_33 c16 (by decide) (by decide) (off := 695) (by decide) (tgt := 728) (by decide) ?_
      exact lc_needs C S hN hDD s_needs hi6 hrel kk
    by_cases c17 : x = 17
    · refine v_tsIn C dL_law_33 c17 (by decide) (by decide) (off := 728) (by decide) (tgt := 761) (by decide) ?_
      exact lc_behind C S hN hDD s_behind hi6 hrel kk
    by_cases c18 : x = 18
    · refine v_tsIn C dL_law_33 c18 (by decide) (by decide) (off := 761) (by decide) (tgt := 794) (by decide) ?_
      exact lc_gone C S hN hDD s_gone hi6 hrel kk
    by_cases c19 : x = 19
    · refine v_tsIn C dL_law_33 c19 (by decide) (by decide) (off := 794) (by decide) (tgt := 827) (by decide) ?_
      exact lc_thick C S hN hDD s_thick hi6 hrel kk
    by_cases c20 : x = 20
    · refine v_tsIn C dL_law_33 c20 (by decide) (by decide) (off := 837) (by decide) (tgt := 870) (by decide) ?_
      exact lc_becomes C S hN hDD s_becomes hi6 hrel kk
    by_cases c21 : x = 21
    · refine v_tsIn C dL_law_33 c21 (by decide) (by decide) (off := 880) (by decide) (tgt := 913) (by decide) ?_
      exact lc_like C S hN hDD s_like hi6 hrel kk
    by_cases c22 : x = 22
    · refine v_tsIn C dL_law_33 c22 (by decide) (by decide) (off := 913) (by decide) (tgt := 946) (by decide) ?_
      exact lc_fee C S hN hDD s_fee hi6 hrel kk
    by_cases c23 : x = 23
    · refine v_tsIn C dL_law_33 c23 (by decide) (by decide) (off := 926) (by decide) (tgt := 959) (by decide) ?_
      exact lc_fine C S hN hDD s_fine hi6 hrel kk
    by_cases c24 : x = 24
    · refine v_tsIn C dL_law_33 c24 (by decide) (by decide) (off := 949) (by decide) (tgt := 982) (by decide) ?_
      exact lc_feed C S hN hDD s_feed hi6 hrel kk
    by_cases c25 : x = 25
    · refine v_tsIn C dL_law_33 c25 (by decide) (by decide) (off := 992) (by decide) (tgt := 1025) (by decide) ?_
      exact lc_trim C S hN hDD s_trim hi6 hrel kk
    by_cases c26 : x = 26
    · refine v_tsIn C dL_law_33 c26 (by decide) (by decide) (off := 1015) (by decide) (tgt := 1048) (by decide) ?_
      exact lc_text C S hN hDD s_text hi6 hrel kk
    by_cases c27 : x = 27
    · refine v_tsIn C dL_law_33 c27 (by decide) (by decide) (off := 1028) (by decide) (tgt := 1061) (by decide) ?_
      exact lc_textTold C S hN hDD s_textTold hi6 hrel kk
    by_cases c28 : x = 28
    · refine v_tsIn C dL_law_33 c28 (by decide) (by decide) (off := 1061) (by decide) (tgt := 1094) (by decide) ?_
      exact lc_why C S hN hDD s_why hi6 hrel kk
    by_cases c29 : x = 29
    · refine v_tsIn C dL_law_33 c29 (by decide) (by decide) (off := 1084) (by decide) (tgt := 1117) (by decide) ?_
      exact lc_sheet C S hN hDD s_sheet hi6 hrel kk
    by_cases c30 : x = 30
    · refine v_tsIn C dL_law_33 c30 (by decide) (by decide) (off := 1127) (by decide) (tgt := 1160) (by decide) ?_
      exact lc_mark C S hN hDD s_mark hi6 hrel kk
    by_cases c31 : x = 31
    · refine v_tsIn C dL_law_33 c31 (by decide) (by decide) (off := 1170) (by decide) (tgt := 1203) (by decide) ?_
      exact lc_pour C S hN hDD s_pour hi6 hrel kk
    by_cases c32 : x = 32
    · refine v_tsIn C dL_law_33 c32 (by decide) (by decide) (off := 1193) (by decide) (tgt := 1226) (by decide) ?_
      exact lc_reads C S hN hDD s_reads hi6 hrel kk
    by_cases c33 : x = 33
    · refine v_tsIn C dL_law_33 c33 (by decide) (by decide) (off := 1216) (by decide) (tgt := 1249) (by decide) ?_
      exact lc_copy C S hN hDD s_copy hi6 hrel kk
    by_cases c34 : x = 34
    · refine v_tsIn C dL_law_33 c34 (by decide) (by decide) (off := 1279) (by decide) (tgt := 1312) (by decide) ?_
      exact lc_lay C S hN hDD s_lay hi6 hrel kk
    by_cases c35 : x = 35
    · refine v_tsIn C dL_law_33 c35 (by decide) (by decide) (off := 1322) (by decide) (tgt := 1355) (by decide) ?_
      exact lc_ask C S hN hDD s_ask hi6 hrel kk
    by_cases c36 : x = 36
    · refine v_tsIn C dL_law_33 c36 (by decide) (by decide) (off := 1355) (by decide) (tgt := 1388) (by decide) ?_
      exact lc_item C S hN hDD s_item hi6 hrel kk
    by_cases c37 : x = 37
    · refine v_tsIn C dL_law_33 c37 (by decide) (by decide) (off := 1388) (by decide) (tgt := 1421) (by decide) ?_
      exact lc_rest C S hN hDD s_rest hi6 hrel kk
    by_cases c38 : x = 38
    · refine v_tsIn C dL_law_33 c38 (by decide) (by decide) (off := 1421) (by decide) (tgt := 1454) (by decide) ?_
      exact lc_tell C S hN hDD s_tell hi6 hrel kk
    by_cases c39 : x = 39
    · refine v_tsIn C dL_law_33 c39 (by decide) (by decide) (off := 1444) (by decide) (tgt := 1477) (by decide) ?_
      exact lc_check C S hN hDD s_check hi6 hrel kk
    by_cases c40 : x = 40
    · refine v_tsIn C dL_law_33 c40 (by decide) (by decide) (off := 1467) (by decide) (tgt := 1500) (by decide) ?_
      exact lc_keep C S hN hDD s_keep hi6 hrel kk
    by_cases c41 : x = 41
    · refine v_tsIn C dL_law_33 c41 (by decide) (by decide) (off := 1480) (by decide) (tgt := 1513) (by decide) ?_
      exact lc_back C S hN hDD s_back hi6 hrel kk
    by_cases c42 : x = 42
    · refine v_tsIn C dL_law_33 c42 (by decide) (by decide) (off := 1493) (by decide) (tgt := 1526) (by decide) ?_
      exact lc_count C S hN hDD s_count hi6 hrel kk
    refine v_tsOut C dL_law_33 (by have e0 := lv_neT c0 (k := 0) (a := 0) (by decide); have e1 := lv_neT c1 (k := 1) (a := 1) (by decide); have e2 := lv_neT c2 (k := 2) (a := 2) (by decide); have e3 := lv_neT c3 (k := 3) (a := 3) (by decide); have e4 := lv_neT c4 (k := 4) (a := 4) (by decide); have e5 := lv_neT c5 (k := 5) (a := 5) (by decide); have e6 := lv_neT c6 (k := 6) (a := 6) (by decide); have e7 := lv_neT c7 (k := 7) (a := 7) (by decide); have e8 := lv_neT c8 (k := 8) (a := 8) (by decide); have e9 := lv_neT c9 (k := 9) (a := 9) (by decide); have e10 := lv_neT c10 (k := 10) (a := 10) (by decide); have e11 := lv_neT c11 (k := 11) (a := 11) (by decide); have e12 := lv_neT c12 (k := 12) (a := 12) (by decide); have e13 := lv_neT c13 (k := 13) (a := 13) (by decide); have e14 := lv_neT c14 (k := 14) (a := 14) (by decide); have e15 := lv_neT c15 (k := 15) (a := 15) (by decide); have e16 := lv_neT c16 (k := 16) (a := 16) (by decide); have e17 := lv_neT c17 (k := 17) (a := 17) (by decide); have e18 := lv_neT c18 (k := 18) (a := 18) (by decide); have e19 := lv_neT c19 (k := 19) (a := 19) (by decide); have e20 := lv_neT c20 (k := 20) (a := 20) (by decide); have e21 := lv_neT c21 (k := 21) (a := 21) (by decide); have e22 := lv_neT c22 (k := 22) (a := 22) (by decide); have e23 := lv_neT c23 (k := 23) (a := 23) (by decide); have e24 := lv_neT c24 (k := 24) (a := 24) (by decide); have e25 := lv_neT c25 (k := 25) (a := 25) (by decide); have e26 := lv_neT c26 (k := 26) (a := 26) (by decide); have e27 := lv_neT c27 (k := 27) (a := 27) (by decide); have e28 := lv_neT c28 (k := 28) (a := 28) (by decide); have e29 := lv_neT c29 (k := 29) (a := 29) (by decide); have e30 := lv_neT c30 (k := 30) (a := 30) (by decide); have e31 := lv_neT c31 (k := 31) (a := 31) (by decide); have e32 := lv_neT c32 (k := 32) (a := 32) (by decide); have e33 := lv_neT c33 (k := 33) (a := 33) (by decide); have e34 := lv_neT c34 (k := 34) (a := 34) (by decide); have e35 := lv_neT c35 (k := 35) (a := 35) (by decide); have e36 := lv_neT c36 (k := 36) (a := 36) (by decide); have e37 := lv_neT c37 (k := 37) (a := 37) (by decide); have e38 := lv_neT c38 (k := 38) (a := 38) (by decide); have e39 := lv_neT c39 (k := 39) (a := 39) (by decide); have e40 := lv_neT c40 (k := 40) (a := 40) (by decide); have e41 := lv_neT c41 (k := 41) (a := 41) (by decide); have e42 := lv_neT c42 (k := 42) (a := 42) (by decide); omega) (tgt := 1549) (by decide) ?_
    exact kk K R hrel
set_option maxRecDepth 100000 in
set_option maxHeartbeats 8000000 in
theorem law_walk {G : Ctx} {Rel : Mem → Mem → Prop} {b N : Nat} {xs : Nat → Int32} (C : Cx (setk G 0 0) RL cL_law 4 136 3501) (hRk : 600000 ≤ (gR G).cells) (hRn : 7302250 ≤ (gR G).slots) (S : Scr G b N xs) (hN : N ≤ 3072) (hret : ∀ w L, V (setk G 97 12381) 4 w 1556 L [.int 1]) (s_knit : Sim2 Rel A8_knit A9_knit) (s_told : Sim2 Rel A8_told A9_told) (s_as : Sim2 Rel A8_as A9_as) (s_turns : Sim2 Rel A8_turns A9_turns) (s_set : Sim3 Rel A8_set A9_set) (s_drops : Sim2 Rel A8_drops A9_drops) (s_hooks : Sim2 Rel A8_hooks A9_hooks) (s_rule : Sim2 Rel A8_rule A9_rule) (s_deal : Sim1 Rel A8_deal A9_deal) (s_seed : Sim1 Rel A8_seed A9_seed) (s_nights : Sim1 Rel A8_nights A9_nights) (s_town : Sim1 Rel A8_town A9_town) (s_way : Sim4 Rel A8_way A9_way) (s_reach : Sim2 Rel A8_reach A9_reach) (s_pulled : Sim2 Rel A8_pulled A9_pulled) (s_worst : Sim1 Rel A8_worst A9_worst) (s_needs : Sim2 Rel A8_needs A9_needs) (s_behind : Sim2 Rel A8_behind A9_behind) (s_gone : Sim2 Rel A8_gone A9_gone) (s_thick : Sim3 Rel A8_thick A9_thick) (s_becomes : Sim3 Rel A8_becomes A9_becomes) (s_like : Sim2 Rel A8_like A9_like) (s_fee : Sim0 Rel A8_fee A9_fee) (s_fine : Sim1 Rel A8_fine A9_fine) (s_feed : Sim3 Rel A8_feed A9_feed) (s_trim : Sim1 Rel A8_trim A9_trim) (s_text : Sim0 Rel A8_text A9_text) (s_textTold : Sim2 Rel A8_textTold A9_textTold) (s_why : Sim1 Rel A8_why A9_why) (s_sheet : Sim3 Rel A8_sheet A9_sheet) (s_mark : Sim3 Rel A8_mark A9_mark) (s_pour : Sim1 Rel A8_pour A9_pour) (s_reads : Sim1 Rel A8_reads A9_reads) (s_copy : Sim5 Rel A8_copy A9_copy) (s_lay : Sim3 Rel A8_lay A9_lay) (s_ask : Sim2 Rel A8_ask A9_ask) (s_item : Sim2 Rel A8_item A9_item) (s_rest : Sim2 Rel A8_rest A9_rest) (s_tell : Sim1 Rel A8_tell A9_tell) (s_check : Sim1 Rel A8_check A9_check) (s_keep : Sim0 Rel A8_keep A9_keep) (s_back : Sim0 Rel A8_back A9_back) (s_count : Sim1 Rel A8_count A9_count) (hrel0 : Rel K0 R0) : V (setk G 0 0) 4 [] 0 [(0, .ref b)] [] := by
  have hD : va_D (gA G) ([] : va_W) := ⟨fun i j p q h => by simp at h, fun k q h => by simp at h⟩
  refine x_new C hD (Cn := RX8) (T := TX8) (N := 12) (ci := 7) (ty := tyX8) inX8 tyX8_ok m_18 m_19 m_1 rfl (fs := [.null, .null, .null, .null, .null, .null, .null, .null, .null, .null, .int 0, .int 0]) (by decide) (Nat.le_trans (Nat.le_of_ble_eq_true rfl) hRk) (Nat.le_trans (Nat.le_of_ble_eq_true rfl) hRn) dL_law_0 rfl (fun q hD => ?_)
  show V (setk G 1 12) 4 ([] ++ [(q, .inr (7, [.null, .null, .null, .null, .null, .null, .null, .null, .null, .null, .int 0, .int 0]))]) 3 [(0, .ref b)] [.ref q]
  have C1 := cx_sk C (k' := 1) (n' := 12) (Nat.le_trans (Nat.le_of_ble_eq_true rfl) hRk) (Nat.le_trans (Nat.le_of_ble_eq_true rfl) hRn)
  refine v_dup C1 dL_law_3 rfl rfl ?_
  refine x_call C1 yi_X8_init m_20 (c_X8_init (b := q)) hD (As := []) rfl rfl (Nat.le_of_ble_eq_true rfl) ⟨Nat.le_of_ble_eq_true rfl, Nat.le_of_ble_eq_true rfl⟩ (Nat.le_trans (Nat.le_of_ble_eq_true rfl) hRk) (Nat.le_trans (Nat.le_of_ble_eq_true rfl) hRn) dL_law_4 rfl (fun ad hD => ?_)
  have eq0 : q = adb q ad 0 := rfl
  show V (setk G 76 2296) 4 (wd (gC G) (adb q ad) K0 0 shsK) 7 [(0, .ref b)] [.ref (adb q ad 0)]
  have hD : va_D (gA G) (wd (gC G) (adb q ad) K0 0 shsK) := hD
  generalize adb q ad = aK at hD ⊢
  have C2 := cx_sk C (k' := 76) (n' := 2296) (Nat.le_trans (Nat.le_of_ble_eq_true rfl) hRk) (Nat.le_trans (Nat.le_of_ble_eq_true rfl) hRn)
  refine v_astore_n C2 dL_law_7 rfl rfl (by decide) (L' := [(1, .ref (aK 0)), (0, .ref b)]) rfl ?_
  refine x_new C2 hD (Cn := RX9) (T := TX9) (N := 33) (ci := 8) (ty := tyX9) inX9 tyX9_ok m_838 m_839 m_9 rfl (fs := [.null, .null, .null, .int 0, .null, .null, .null, .null, .null, .null, .null, .null, .null, .null, .null, .null, .int 0, .int 0, .int 0, .int 0, .int 0, .int 0, .int 0, .int 0, .int 0, .int 0, .int 0, .null, .null, .null, .null, .int 0, .null]) (by decide) (Nat.le_trans (Nat.le_of_ble_eq_true rfl) hRk) (Nat.le_trans (Nat.le_of_ble_eq_true rfl) hRn) dL_law_8 rfl (fun q hD => ?_)
  show V (setk G 77 2329) 4 (wd (gC G) aK K0 0 shsK ++ [(q, .inr (8, [.null, .null, .null, .int 0, .null, .null, .null, .null, .null, .null, .null, .null, .null, .null, .null, .null, .int 0, .int 0, .int 0, .int 0, .int 0, .int 0, .int 0, .int 0, .int 0, .int 0, .int 0, .null, .null, .null, .null, .int 0, .null]))]) 11 [(1, .ref (aK 0)), (0, .ref b)] [.ref q]
  have C3 := cx_sk C (k' := 77) (n' := 2329) (Nat.le_trans (Nat.le_of_ble_eq_true rfl) hRk) (Nat.le_trans (Nat.le_of_ble_eq_true rfl) hRn)
  refine v_dup C3 dL_law_11 rfl rfl ?_
  refine x_call C3 yi_X9_init m_840 (c_X9_init (b := q)) hD (As := []) rfl rfl (Nat.le_of_ble_eq_true rfl) ⟨Nat.le_of_ble_eq_true rfl, Nat.le_of_ble_eq_true rfl⟩ (Nat.le_trans (Nat.le_of_ble_eq_true rfl) hRk) (Nat.le_trans (Nat.le_of_ble_eq_true rfl) hRn) dL_law_12 rfl (fun ad hD => ?_)
  show V (setk G 97 12381) 4 (wd (gC G) aK K0 0 shsK ++ wd (gC G) (adb q ad) R0 0 shsR) 15 [(1, .ref (aK 0)), (0, .ref b)] [.ref (adb q ad 0)]
  have hD : va_D (gA G) (wd (gC G) aK K0 0 shsK ++ wd (gC G) (adb q ad) R0 0 shsR) := hD
  generalize adb q ad = aR at hD ⊢
  have C4 := cx_sk C (k' := 97) (n' := 12381) (Nat.le_trans (Nat.le_of_ble_eq_true rfl) hRk) (Nat.le_trans (Nat.le_of_ble_eq_true rfl) hRn)
  refine v_astore_n C4 dL_law_15 rfl rfl (by decide) (L' := [(2, .ref (aR 0)), (1, .ref (aK 0)), (0, .ref b)]) rfl ?_
  refine v_iconst C4 dL_law_16 rfl ic_0 ?_
  refine v_istore_n C4 dL_law_17 rfl rfl (by decide) (L' := [(3, .int 0), (2, .ref (aR 0)), (1, .ref (aK 0)), (0, .ref b)]) rfl ?_
  refine v_sub [3, 2, 1, 0] rfl ?_
  exact law_loop (G := setk G 97 12381) C4 S hN (fun K R => wd_DD K R hD) hret s_knit s_told s_as s_turns s_set s_drops s_hooks s_rule s_deal s_seed s_nights s_town s_way s_reach s_pulled s_worst s_needs s_behind s_gone s_thick s_becomes s_like s_fee s_fine s_feed s_trim s_text s_textTold s_why s_sheet s_mark s_pour s_reads s_copy s_lay s_ask s_item s_rest s_tell s_check s_keep s_back s_count 3072 0 (Nat.zero_le _) (by omega) K0 R0 hrel0
theorem law_start {Rel : Mem → Mem → Prop} (s_knit : Sim2 Rel A8_knit A9_knit) (s_told : Sim2 Rel A8_told A9_told) (s_as : Sim2 Rel A8_as A9_as) (s_turns : Sim2 Rel A8_turns A9_turns) (s_set : Sim3 Rel A8_set A9_set) (s_drops : Sim2 Rel A8_drops A9_drops) (s_hooks : Sim2 Rel A8_hooks A9_hooks) (s_rule : Sim2 Rel A8_rule A9_rule) (s_deal : Sim1 Rel A8_deal A9_deal) (s_seed : Sim1 Rel A8_seed A9_seed) (s_nights : Sim1 Rel A8_nights A9_nights) (s_town : Sim1 Rel A8_town A9_town) (s_way : Sim4 Rel A8_way A9_way) (s_reach : Sim2 Rel A8_reach A9_reach) (s_pulled : Sim2 Rel A8_pulled A9_pulled) (s_worst : Sim1 Rel A8_worst A9_worst) (s_needs : Sim2 Rel A8_needs A9_needs) (s_behind : Sim2 Rel A8_behind A9_behind) (s_gone : Sim2 Rel A8_gone A9_gone) (s_thick : Sim3 Rel A8_thick A9_thick) (s_becomes : Sim3 Rel A8_becomes A9_becomes) (s_like : Sim2 Rel A8_like A9_like) (s_fee : Sim0 Rel A8_fee A9_fee) (s_fine : Sim1 Rel A8_fine A9_fine) (s_feed : Sim3 Rel A8_feed A9_feed) (s_trim : Sim1 Rel A8_trim A9_trim) (s_text : Sim0 Rel A8_text A9_text) (s_textTold : Sim2 Rel A8_textTold A9_textTold) (s_why : Sim1 Rel A8_why A9_why) (s_sheet : Sim3 Rel A8_sheet A9_sheet) (s_mark : Sim3 Rel A8_mark A9_mark) (s_pour : Sim1 Rel A8_pour A9_pour) (s_reads : Sim1 Rel A8_reads A9_reads) (s_copy : Sim5 Rel A8_copy A9_copy) (s_lay : Sim3 Rel A8_lay A9_lay) (s_ask : Sim2 Rel A8_ask A9_ask) (s_item : Sim2 Rel A8_item A9_item) (s_rest : Sim2 Rel A8_rest A9_rest) (s_tell : Sim1 Rel A8_tell A9_tell) (s_check : Sim1 Rel A8_check A9_check) (s_keep : Sim0 Rel A8_keep A9_keep) (s_back : Sim0 Rel A8_back A9_back) (s_count : Sim1 Rel A8_count A9_count) (hrel0 : Rel K0 R0) {p : Program} {e : Env} {s : State} {m : MethodId} {below : List Frame} {meth : Method} {c : Code} (l : Launch) (hflags : l.flags = flags0) {b L : Nat} {xs : Nat → Int32} (hL : L ≤ 3072) (C0 : lw_At p s m meth c b L xs) : W p l e room_1 s m #[Value.ref b] below meth c s.heap [] 0 0 (lw_Z below #[Value.ref b] s) (entryFrame m ([Value.ref b] : List Value).toArray 4) := by
  obtain ⟨hx, hb, hr, hml, hown, hts, hX, hbl, hlocks, hgv⟩ := C0
  obtain ⟨X, hE⟩ := law_ex hts hgv
  obtain ⟨D, cA, hK⟩ := law_K hts
  have C : Cx (setk ((p, l, e, room_1), (s, m, #[Value.ref b], below), (meth, c), (D, cA, X), (fun q : Nat => s.heap.size ≤ q, lw_Z below #[Value.ref b] s, 0, 0)) 0 0) RL cL_law 4 136 3501 := ⟨hx, hb, hml, hown, fun w h => hts w (wsG_in w h), hK, fun q h => h, hE, Nat.le_of_ble_eq_true rfl, Nat.le_of_ble_eq_true rfl, Nat.zero_le _, Nat.zero_le _⟩
  have key := law_walk (Rel := Rel) (N := L) (xs := xs) C (Nat.le_refl _) (Nat.le_refl _) ⟨hX, hbl, fun q h => h⟩ hL (fun w Lo H locs ls hP hS hLl => by
    refine va_forget (fun q hq => hS.2.2 q hq) ?_
    refine W.widen (k := 600000) (n := 7302250) (Nat.le_of_ble_eq_true rfl) (Nat.le_of_ble_eq_true rfl) ?_
    exact lw_ret hx hb hr hlocks dL_law_1556) s_knit s_told s_as s_turns s_set s_drops s_hooks s_rule s_deal s_seed s_nights s_town s_way s_reach s_pulled s_worst s_needs s_behind s_gone s_thick s_becomes s_like s_fee s_fine s_feed s_trim s_text s_textTold s_why s_sheet s_mark s_pour s_reads s_copy s_lay s_ask s_item s_rest s_tell s_check s_keep s_back s_count hrel0
  rw [lg_entry_eq]
  exact key s.heap [] _ (fun k q h => by simp at h) va_S.rf (lv_entry ([.ref b]) (n := 4) (Nat.le_of_ble_eq_true rfl))
