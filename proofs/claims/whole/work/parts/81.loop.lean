/-! the law, 12: its loop and its entry -/
theorem lt36 {j : Nat} (h : j < 36) : j = 0 ∨ j = 1 ∨ j = 2 ∨ j = 3 ∨ j = 4 ∨ j = 5 ∨ j = 6 ∨ j = 7 ∨ j = 8 ∨ j = 9 ∨ j = 10 ∨ j = 11 ∨ j = 12 ∨ j = 13 ∨ j = 14 ∨ j = 15 ∨ j = 16 ∨ j = 17 ∨ j = 18 ∨ j = 19 ∨ j = 20 ∨ j = 21 ∨ j = 22 ∨ j = 23 ∨ j = 24 ∨ j = 25 ∨ j = 26 ∨ j = 27 ∨ j = 28 ∨ j = 29 ∨ j = 30 ∨ j = 31 ∨ j = 32 ∨ j = 33 ∨ j = 34 ∨ j = 35 := by omega
set_option maxHeartbeats 8000000 in
set_option maxRecDepth 100000 in
theorem lw_loop {E : vE} {T : Nat → ClassId} {k n : Nat} (X : vX E cL_law 4 RL wsL_law (vT T) room_1) {b L : Nat} {xs : Nat → Int32} (XS : vS E b L xs) (hL : L ≤ 3072) (hkn : k ≤ room_1.cells ∧ n ≤ room_1.slots) {oX oY : Nat} (hend : ∀ (lv : List (Nat × Value)) (ws : va_W), V E k n 1474 lv [] ws) : ∀ (m q : Nat), 6 * q ≤ L → L < 6 * q + m → ∀ (W : AW) (R : AR) (fd : Int32) (fs : Nat → Int32) (tr : Int32) (ask : Int64) (S : SV) (x : CX) (y : CY), IX W R fd fs tr ask S x → IY W R fd fs tr ask S y → V E k n 18 [(0, .ref b), (1, .ref oX), (2, .ref oY), (3, .int (nI (6 * q)))] [] (clX T oX x ++ clY T oY y)
  | 0, q, h1, h2 => by omega
  | m + 1, q, hq1, hq2 => fun W R fd fs tr ask S x y I J => by
    refine v_iload_n X 3 dL_law_18 rfl rfl ?_
    refine v_aload_n X 0 dL_law_19 rfl rfl ?_
    refine v_slen X XS dL_law_20 ?_
    refine v_bipush X dL_law_21 (v := (6 : Int32)) (by decide) ?_
    refine v_isub X dL_law_23 ?_
    refine v_icmp_gt X (tgt := 1474) dL_law_24 (by decide) (fun _ => hend _ _) (fun c => ?_)
    have hq : 6 * q + 6 ≤ L := by
      refine Classical.byContradiction fun z => c ?_
      by_cases h6 : 6 ≤ L
      · have e : nI L - 6 = nI (L - 6) := nI_sub h6
        rw [e]
        exact (nI_ltI (by omega) (by omega)).mpr (by omega)
      · have e0 : q = 0 := by omega
        rcases (show L = 0 ∨ L = 1 ∨ L = 2 ∨ L = 3 ∨ L = 4 ∨ L = 5 by omega) with e | e | e | e | e | e <;> rw [e, e0] <;> decide
    have h0 : vp_in (nI (6 * q)) L := vp_in_nI (by omega) (by omega)
    have h1 : vp_in (nI (6 * q) + 1) L := by rw [show nI (6 * q) + 1 = nI (6 * q + 1) from nI_add _ 1]; exact vp_in_nI (by omega) (by omega)
    have h2 : vp_in (nI (6 * q) + 2) L := by rw [show nI (6 * q) + 2 = nI (6 * q + 2) from nI_add _ 2]; exact vp_in_nI (by omega) (by omega)
    have h3 : vp_in (nI (6 * q) + 3) L := by rw [show nI (6 * q) + 3 = nI (6 * q + 3) from nI_add _ 3]; exact vp_in_nI (by omega) (by omega)
    have h4 : vp_in (nI (6 * q) + 4) L := by rw [show nI (6 * q) + 4 = nI (6 * q + 4) from nI_add _ 4]; exact vp_in_nI (by omega) (by omega)
    have h5 : vp_in (nI (6 * q) + 5) L := by rw [show nI (6 * q) + 5 = nI (6 * q + 5) from nI_add _ 5]; exact vp_in_nI (by omega) (by omega)
    have K : LK E T k n b oX oY (nI (6 * q)) := fun W R fd fs tr ask S x y I J => by
      refine v_iinc X 3 dL_law_1468 rfl (v := nI (6 * (q + 1))) (nI_add (6 * q) 6) (by decide) (lv' := [(3, .int (nI (6 * (q + 1)))), (0, .ref b), (1, .ref oX), (2, .ref oY)]) rfl ?_
      refine v_goto X (tgt := 18) dL_law_1471 (by decide) ?_
      refine v_lv (lv' := [(0, .ref b), (1, .ref oX), (2, .ref oY), (3, .int (nI (6 * (q + 1))))]) [1, 2, 3, 0] rfl ?_
      exact lw_loop X XS hL hkn hend m (q + 1) (by omega) (by omega) W R fd fs tr ask S x y I J
    refine v_aload_n X 0 dL_law_27 rfl rfl ?_
    refine v_iload_n X 3 dL_law_28 rfl rfl ?_
    refine v_sld X XS h0 dL_law_29 ?_
    refine v_bipush X dL_law_30 (v := (63 : Int32)) (by decide) ?_
    refine v_iand X dL_law_32 ?_
    refine v_topi (fun z ez => ?_)
    by_cases hz : z.toInt < 0 ∨ 35 < z.toInt
    · exact v_tsOut X (tgt := 1468) dL_law_33 hz (by decide) (K W R fd fs tr ask S x y I J)
    · obtain ⟨j, hj, ej⟩ : ∃ j : Nat, j < 36 ∧ z.toInt = (j : Int) := ⟨z.toInt.toNat, by omega, by omega⟩
      rcases lt36 hj with rfl | rfl | rfl | rfl | rfl | rfl | rfl | rfl | rfl | rfl | rfl | rfl | rfl | rfl | rfl | rfl | rfl | rfl | rfl | rfl | rfl | rfl | rfl | rfl | rfl | rfl | rfl | rfl | rfl | rfl | rfl | rfl | rfl | rfl | rfl | rfl
      · exact v_tsIn X (off := 159) (tgt := 192) dL_law_33 (by rw [ej]; decide) (by rw [ej]; decide) (by rw [ej]; rfl) (by decide) (lc_world X XS hkn h1 h2 h3 h4 h5 rfl rfl rfl rfl rfl I J K)
      · exact v_tsIn X (off := 192) (tgt := 225) dL_law_33 (by rw [ej]; decide) (by rw [ej]; decide) (by rw [ej]; rfl) (by decide) (lc_line X XS hkn h1 h2 h3 h4 h5 rfl rfl rfl rfl rfl I J K)
      · exact v_tsIn X (off := 225) (tgt := 258) dL_law_33 (by rw [ej]; decide) (by rw [ej]; decide) (by rw [ej]; rfl) (by decide) (lc_grid X XS hkn h1 h2 h3 h4 h5 rfl rfl rfl rfl rfl I J K)
      · exact v_tsIn X (off := 268) (tgt := 301) dL_law_33 (by rw [ej]; decide) (by rw [ej]; decide) (by rw [ej]; rfl) (by decide) (lc_form X XS hkn h1 h2 h3 h4 h5 rfl rfl rfl rfl rfl I J K)
      · exact v_tsIn X (off := 301) (tgt := 334) dL_law_33 (by rw [ej]; decide) (by rw [ej]; decide) (by rw [ej]; rfl) (by decide) (lc_dual X XS hkn h1 h2 h3 h4 h5 rfl rfl rfl rfl rfl I J K)
      · exact v_tsIn X (off := 334) (tgt := 367) dL_law_33 (by rw [ej]; decide) (by rw [ej]; decide) (by rw [ej]; rfl) (by decide) (lc_derive X XS hkn h1 h2 h3 h4 h5 rfl rfl rfl rfl rfl I J K)
      · exact v_tsIn X (off := 377) (tgt := 410) dL_law_33 (by rw [ej]; decide) (by rw [ej]; decide) (by rw [ej]; rfl) (by decide) (lc_part X XS hkn h1 h2 h3 h4 h5 rfl rfl rfl rfl rfl I J K)
      · exact v_tsIn X (off := 450) (tgt := 483) dL_law_33 (by rw [ej]; decide) (by rw [ej]; decide) (by rw [ej]; rfl) (by decide) (lc_drop X XS hkn h1 h2 h3 h4 h5 rfl rfl rfl rfl rfl I J K)
      · exact v_tsIn X (off := 473) (tgt := 506) dL_law_33 (by rw [ej]; decide) (by rw [ej]; decide) (by rw [ej]; rfl) (by decide) (lc_told X XS hkn h1 h2 h3 h4 h5 rfl rfl rfl rfl rfl I J K)
      · exact v_tsIn X (off := 506) (tgt := 539) dL_law_33 (by rw [ej]; decide) (by rw [ej]; decide) (by rw [ej]; rfl) (by decide) (lc_mark X XS hkn h1 h2 h3 h4 h5 rfl rfl rfl rfl rfl I J K)
      · exact v_tsIn X (off := 539) (tgt := 572) dL_law_33 (by rw [ej]; decide) (by rw [ej]; decide) (by rw [ej]; rfl) (by decide) (lc_points X XS hkn h1 h2 h3 h4 h5 rfl rfl rfl rfl rfl I J K)
      · exact v_tsIn X (off := 572) (tgt := 605) dL_law_33 (by rw [ej]; decide) (by rw [ej]; decide) (by rw [ej]; rfl) (by decide) (lc_lines X XS hkn h1 h2 h3 h4 h5 rfl rfl rfl rfl rfl I J K)
      · exact v_tsIn X (off := 605) (tgt := 638) dL_law_33 (by rw [ej]; decide) (by rw [ej]; decide) (by rw [ej]; rfl) (by decide) (lc_fault X XS hkn h1 h2 h3 h4 h5 rfl rfl rfl rfl rfl I J K)
      · exact v_tsIn X (off := 628) (tgt := 661) dL_law_33 (by rw [ej]; decide) (by rw [ej]; decide) (by rw [ej]; rfl) (by decide) (lc_mean X XS hkn h1 h2 h3 h4 h5 rfl rfl rfl rfl rfl I J K)
      · exact v_tsIn X (off := 651) (tgt := 684) dL_law_33 (by rw [ej]; decide) (by rw [ej]; decide) (by rw [ej]; rfl) (by decide) (lc_perp X XS hkn h1 h2 h3 h4 h5 rfl rfl rfl rfl rfl I J K)
      · exact v_tsIn X (off := 714) (tgt := 747) dL_law_33 (by rw [ej]; decide) (by rw [ej]; decide) (by rw [ej]; rfl) (by decide) (lc_span X XS hkn h1 h2 h3 h4 h5 rfl rfl rfl rfl rfl I J K)
      · exact v_tsIn X (off := 757) (tgt := 790) dL_law_33 (by rw [ej]; decide) (by rw [ej]; decide) (by rw [ej]; rfl) (by decide) (lc_regular X XS hkn h1 h2 h3 h4 h5 rfl rfl rfl rfl rfl I J K)
      · exact v_tsIn X (off := 790) (tgt := 823) dL_law_33 (by rw [ej]; decide) (by rw [ej]; decide) (by rw [ej]; rfl) (by decide) (lc_centres X XS hkn h1 h2 h3 h4 h5 rfl rfl rfl rfl rfl I J K)
      · exact v_tsIn X (off := 843) (tgt := 876) dL_law_33 (by rw [ej]; decide) (by rw [ej]; decide) (by rw [ej]; rfl) (by decide) (lc_ovoid X XS hkn h1 h2 h3 h4 h5 rfl rfl rfl rfl rfl I J K)
      · exact v_tsIn X (off := 876) (tgt := 909) dL_law_33 (by rw [ej]; decide) (by rw [ej]; decide) (by rw [ej]; rfl) (by decide) (lc_spread X XS hkn h1 h2 h3 h4 h5 rfl rfl rfl rfl rfl I J K)
      · exact v_tsIn X (off := 909) (tgt := 942) dL_law_33 (by rw [ej]; decide) (by rw [ej]; decide) (by rw [ej]; rfl) (by decide) (lc_ovoids X XS hkn h1 h2 h3 h4 h5 rfl rfl rfl rfl rfl I J K)
      · exact v_tsIn X (off := 942) (tgt := 975) dL_law_33 (by rw [ej]; decide) (by rw [ej]; decide) (by rw [ej]; rfl) (by decide) (lc_tries X XS hkn h1 h2 h3 h4 h5 rfl rfl rfl rfl rfl I J K)
      · exact v_tsIn X (off := 955) (tgt := 988) dL_law_33 (by rw [ej]; decide) (by rw [ej]; decide) (by rw [ej]; rfl) (by decide) (lc_meets X XS hkn h1 h2 h3 h4 h5 rfl rfl rfl rfl rfl I J K)
      · exact v_tsIn X (off := 1044) (tgt := 1077) dL_law_33 (by rw [ej]; decide) (by rw [ej]; decide) (by rw [ej]; rfl) (by decide) (lc_rank X XS hkn h1 h2 h3 h4 h5 rfl rfl rfl rfl rfl I J K)
      · exact v_tsIn X (off := 1077) (tgt := 1110) dL_law_33 (by rw [ej]; decide) (by rw [ej]; decide) (by rw [ej]; rfl) (by decide) (lc_alike X XS hkn h1 h2 h3 h4 h5 rfl rfl rfl rfl rfl I J K)
      · exact v_tsIn X (off := 1120) (tgt := 1153) dL_law_33 (by rw [ej]; decide) (by rw [ej]; decide) (by rw [ej]; rfl) (by decide) (lc_sent X XS hkn h1 h2 h3 h4 h5 rfl rfl rfl rfl rfl I J K)
      · exact v_tsIn X (off := 1143) (tgt := 1176) dL_law_33 (by rw [ej]; decide) (by rw [ej]; decide) (by rw [ej]; rfl) (by decide) (lc_far X XS hkn h1 h2 h3 h4 h5 rfl rfl rfl rfl rfl I J K)
      · exact v_tsIn X (off := 1186) (tgt := 1219) dL_law_33 (by rw [ej]; decide) (by rw [ej]; decide) (by rw [ej]; rfl) (by decide) (lc_row X XS hkn h1 h2 h3 h4 h5 rfl rfl rfl rfl rfl I J K)
      · exact v_tsIn X (off := 1219) (tgt := 1252) dL_law_33 (by rw [ej]; decide) (by rw [ej]; decide) (by rw [ej]; rfl) (by decide) (lc_lay X XS hkn h1 h2 h3 h4 h5 rfl rfl rfl rfl rfl I J K)
      · exact v_tsIn X (off := 1262) (tgt := 1295) dL_law_33 (by rw [ej]; decide) (by rw [ej]; decide) (by rw [ej]; rfl) (by decide) (lc_tear X XS hkn h1 h2 h3 h4 h5 rfl rfl rfl rfl rfl I J K)
      · exact v_tsIn X (off := 1285) (tgt := 1318) dL_law_33 (by rw [ej]; decide) (by rw [ej]; decide) (by rw [ej]; rfl) (by decide) (lc_copy X XS hkn h1 h2 h3 h4 h5 rfl rfl rfl rfl rfl I J K)
      · exact v_tsIn X (off := 1348) (tgt := 1381) dL_law_33 (by rw [ej]; decide) (by rw [ej]; decide) (by rw [ej]; rfl) (by decide) (lc_asked X XS hkn h1 h2 h3 h4 h5 rfl rfl rfl rfl rfl I J K)
      · exact v_tsIn X (off := 1362) (tgt := 1395) dL_law_33 (by rw [ej]; decide) (by rw [ej]; decide) (by rw [ej]; rfl) (by decide) (lc_count X XS hkn h1 h2 h3 h4 h5 rfl rfl rfl rfl rfl I J K)
      · exact v_tsIn X (off := 1385) (tgt := 1418) dL_law_33 (by rw [ej]; decide) (by rw [ej]; decide) (by rw [ej]; rfl) (by decide) (lc_finding X XS hkn h1 h2 h3 h4 h5 rfl rfl rfl rfl rfl I J K)
      · exact v_tsIn X (off := 1398) (tgt := 1431) dL_law_33 (by rw [ej]; decide) (by rw [ej]; decide) (by rw [ej]; rfl) (by decide) (lc_findings X XS hkn h1 h2 h3 h4 h5 rfl rfl rfl rfl rfl I J K)
      · exact v_tsIn X (off := 1421) (tgt := 1454) dL_law_33 (by rw [ej]; decide) (by rw [ej]; decide) (by rw [ej]; rfl) (by decide) (lc_digest X XS hkn h1 h2 h3 h4 h5 rfl rfl rfl rfl rfl I J K)
