theorem vX0_sortByChange (E : rp_E) (post : Option Int32 → rp_M → Prop) (M : rp_M) {r1 n1 : Nat} (hr1 : r1 < 170) (sr1 : rp_sh r1 = (0, n1, []))  (h : rp_G E YX0_sortByChange post 2 [.ref 139, .ref r1, .int 0, .null] [] M) : rp_Run E YX0_sortByChange [.ref 139, .ref r1] M post := by
  refine ok_start (by decide) oX0_sortByChange (Nat.le_of_ble_eq_true rfl) ?_
  refine ok_iconst (v := 0) dX0_sortByChange_0 (by decide) ?_
  refine ok_istore_n dX0_sortByChange_1 rfl (by decide) rfl ?_
  exact ok_mask [true, true, true, false] h
theorem vX0_sortByChange_2 (E : rp_E) (post : Option Int32 → rp_M → Prop) (M : rp_M) {r1 n1 : Nat} (hr1 : r1 < 170) (sr1 : rp_sh r1 = (0, n1, [])) (l2 : Int32) (h : ((M 139 7) ≤ l2 → (post none M)) ∧ (¬ (M 139 7) ≤ l2 → (rp_G E YX0_sortByChange post 12 [.ref 139, .ref r1, .int l2, .int l2] [] M))) : rp_G E YX0_sortByChange post 2 [.ref 139, .ref r1, .int l2, .null] [] M := by
  refine ok_iload_n dX0_sortByChange_2 rfl rfl ?_
  refine ok_aload_n dX0_sortByChange_3 rfl rfl ?_
  refine ok_getI dX0_sortByChange_4 fX0_sortByChange_33 (by decide) rp_k139 rfl ?_
  refine ok_icmp_ge (tgt := 65) dX0_sortByChange_7 (by decide) (fun c1 => ?_) (fun c1 => ?_)
  · replace h := h.1 c1
    exact ok_return dX0_sortByChange_65 rfl h
  · replace h := h.2 c1
    refine ok_iload_n dX0_sortByChange_10 rfl rfl ?_
    refine ok_istore_n dX0_sortByChange_11 rfl (by decide) rfl ?_
    exact ok_mask [true, true, true, true] h
theorem vX0_sortByChange_12 (E : rp_E) (post : Option Int32 → rp_M → Prop) (M : rp_M) {r1 n1 : Nat} (hr1 : r1 < 170) (sr1 : rp_sh r1 = (0, n1, [])) (l2 : Int32) (l3 : Int32) (h : (l3 ≤ 0 → (vp_in l3 12 ∧ (∀ M4, M4 = rp_s M 145 (Int32.toNatClampNeg l3) l2 → (rp_G E YX0_sortByChange post 2 [.ref 139, .ref r1, .int (l2 + 1), .null] [] M4)))) ∧ (¬ l3 ≤ 0 → (vp_in (l3 - 1) 12 ∧ (vp_in (M 145 (Int32.toNatClampNeg (l3 - 1))) n1 ∧ (vp_in l2 n1 ∧ (((M r1 (Int32.toNatClampNeg l2)) ≤ (M r1 (Int32.toNatClampNeg (M 145 (Int32.toNatClampNeg (l3 - 1))))) → (vp_in l3 12 ∧ (∀ M10, M10 = rp_s M 145 (Int32.toNatClampNeg l3) l2 → (rp_G E YX0_sortByChange post 2 [.ref 139, .ref r1, .int (l2 + 1), .null] [] M10)))) ∧ (¬ (M r1 (Int32.toNatClampNeg l2)) ≤ (M r1 (Int32.toNatClampNeg (M 145 (Int32.toNatClampNeg (l3 - 1))))) → (vp_in l3 12 ∧ (∀ M12, M12 = rp_s M 145 (Int32.toNatClampNeg l3) (M 145 (Int32.toNatClampNeg (l3 - 1))) → (rp_G E YX0_sortByChange post 12 [.ref 139, .ref r1, .int l2, .int (l3 + (-1))] [] M12)))))))))) : rp_G E YX0_sortByChange post 12 [.ref 139, .ref r1, .int l2, .int l3] [] M := by
  refine ok_iload_n dX0_sortByChange_12 rfl rfl ?_
  refine ok_if_le (tgt := 52) dX0_sortByChange_13 (by decide) (fun c2 => ?_) (fun c2 => ?_)
  · replace h := h.1 c2
    refine ok_aload_n dX0_sortByChange_52 rfl rfl ?_
    refine ok_getR (j := 145) dX0_sortByChange_53 fX0_sortByChange_27 (by decide) rp_k139 rfl (by decide) ?_
    refine ok_iload_n dX0_sortByChange_56 rfl rfl ?_
    refine ok_iload_n dX0_sortByChange_57 rfl rfl ?_
    have b3 := h.1
    replace h := h.2
    refine ok_iastore dX0_sortByChange_58 (by decide) rp_k145 b3 rfl ?_
    replace h := h _ rfl
    refine ok_iinc2 (w := 1) dX0_sortByChange_59 rfl (by decide) (by decide) rfl ?_
    refine ok_goto (tgt := 2) dX0_sortByChange_62 (by decide) ?_
    exact ok_mask [true, true, true, false] h
  · replace h := h.2 c2
    refine ok_aload_n dX0_sortByChange_16 rfl rfl ?_
    refine ok_aload_n dX0_sortByChange_17 rfl rfl ?_
    refine ok_getR (j := 145) dX0_sortByChange_18 fX0_sortByChange_27 (by decide) rp_k139 rfl (by decide) ?_
    refine ok_iload_n dX0_sortByChange_21 rfl rfl ?_
    refine ok_iconst (v := 1) dX0_sortByChange_22 (by decide) ?_
    refine ok_isub dX0_sortByChange_23 ?_
    have b5 := h.1
    replace h := h.2
    refine ok_iaload dX0_sortByChange_24 (by decide) rp_k145 b5 rfl ?_
    have b6 := h.1
    replace h := h.2
    refine ok_iaload dX0_sortByChange_25 hr1 sr1 b6 rfl ?_
    refine ok_aload_n dX0_sortByChange_26 rfl rfl ?_
    refine ok_iload_n dX0_sortByChange_27 rfl rfl ?_
    have b7 := h.1
    replace h := h.2
    refine ok_iaload dX0_sortByChange_28 hr1 sr1 b7 rfl ?_
    refine ok_icmp_ge (tgt := 52) dX0_sortByChange_29 (by decide) (fun c8 => ?_) (fun c8 => ?_)
    · replace h := h.1 c8
      refine ok_aload_n dX0_sortByChange_52 rfl rfl ?_
      refine ok_getR (j := 145) dX0_sortByChange_53 fX0_sortByChange_27 (by decide) rp_k139 rfl (by decide) ?_
      refine ok_iload_n dX0_sortByChange_56 rfl rfl ?_
      refine ok_iload_n dX0_sortByChange_57 rfl rfl ?_
      have b9 := h.1
      replace h := h.2
      refine ok_iastore dX0_sortByChange_58 (by decide) rp_k145 b9 rfl ?_
      replace h := h _ rfl
      refine ok_iinc2 (w := 1) dX0_sortByChange_59 rfl (by decide) (by decide) rfl ?_
      refine ok_goto (tgt := 2) dX0_sortByChange_62 (by decide) ?_
      exact ok_mask [true, true, true, false] h
    · replace h := h.2 c8
      refine ok_aload_n dX0_sortByChange_32 rfl rfl ?_
      refine ok_getR (j := 145) dX0_sortByChange_33 fX0_sortByChange_27 (by decide) rp_k139 rfl (by decide) ?_
      refine ok_iload_n dX0_sortByChange_36 rfl rfl ?_
      refine ok_aload_n dX0_sortByChange_37 rfl rfl ?_
      refine ok_getR (j := 145) dX0_sortByChange_38 fX0_sortByChange_27 (by decide) rp_k139 rfl (by decide) ?_
      refine ok_iload_n dX0_sortByChange_41 rfl rfl ?_
      refine ok_iconst (v := 1) dX0_sortByChange_42 (by decide) ?_
      refine ok_isub dX0_sortByChange_43 ?_
      refine ok_iaload dX0_sortByChange_44 (by decide) rp_k145 b5 rfl ?_
      have b11 := h.1
      replace h := h.2
      refine ok_iastore dX0_sortByChange_45 (by decide) rp_k145 b11 rfl ?_
      replace h := h _ rfl
      refine ok_iinc2 (w := (-1)) dX0_sortByChange_46 rfl (by decide) (by decide) rfl ?_
      refine ok_goto (tgt := 12) dX0_sortByChange_49 (by decide) ?_
      exact ok_mask [true, true, true, true] h
theorem vX0_fillProtected (E : rp_E) (post : Option Int32 → rp_M → Prop) (M : rp_M) {r1 n1 : Nat} (hr1 : r1 < 170) (sr1 : rp_sh r1 = (0, n1, [])) {r2 n2 : Nat} (hr2 : r2 < 170) (sr2 : rp_sh r2 = (0, n2, [])) {r3 n3 : Nat} (hr3 : r3 < 170) (sr3 : rp_sh r3 = (0, n3, [])) (l4 : Int32) (l5 : Int32) (h : ∃ P3 : rp_M → Prop, rp_Run E YX0_sortByChange [.ref 139, .ref r3] M (rp_P0 P3) ∧ (∀ M1, P3 M1 → (vp_in 0 n1 ∧ (∀ M6, M6 = rp_s M1 r1 0 0 → (∀ M7, M7 = rp_s M6 144 0 0 → (rp_G E YX0_fillProtected post 19 [.ref 139, .ref r1, .ref r2, .ref r3, .int l4, .int l5, .int 0, .null, .null, .null, .null, .null] [] M7)))))) : rp_Run E YX0_fillProtected [.ref 139, .ref r1, .ref r2, .ref r3, .int l4, .int l5] M post := by
  refine ok_start (by decide) oX0_fillProtected (Nat.le_of_ble_eq_true rfl) ?_
  refine ok_aload_n dX0_fillProtected_0 rfl rfl ?_
  refine ok_aload_n dX0_fillProtected_1 rfl rfl ?_
  obtain ⟨P3, r2, h⟩ := h
  refine ok_callV2 dX0_fillProtected_2 kX0_fillProtected_69 r2 (by decide) rp_k139 rfl rfl (Nat.le_of_ble_eq_true rfl) ?_
  rintro _ M1 ⟨rfl, q4⟩
  replace h := h M1 q4
  refine ok_aload_n dX0_fillProtected_5 rfl rfl ?_
  refine ok_iconst (v := 0) dX0_fillProtected_6 (by decide) ?_
  refine ok_iconst (v := 0) dX0_fillProtected_7 (by decide) ?_
  have b5 := h.1
  replace h := h.2
  refine ok_iastore (j := 0) dX0_fillProtected_8 hr1 sr1 b5 (by decide) ?_
  replace h := h _ rfl
  refine ok_aload_n dX0_fillProtected_9 rfl rfl ?_
  refine ok_getR (j := 144) dX0_fillProtected_10 fX0_fillProtected_24 (by decide) rp_k139 rfl (by decide) ?_
  refine ok_iconst (v := 0) dX0_fillProtected_13 (by decide) ?_
  refine ok_iconst (v := 0) dX0_fillProtected_14 (by decide) ?_
  refine ok_iastore (j := 0) dX0_fillProtected_15 (by decide) rp_k144 (rp_vi (by decide)) (by decide) ?_
  replace h := h _ rfl
  refine ok_iconst (v := 0) dX0_fillProtected_16 (by decide) ?_
  refine ok_istore dX0_fillProtected_17 (by decide) rfl ?_
  exact ok_mask [true, true, true, true, true, true, true, false, false, false, false, false] h
theorem vX0_fillProtected_19 (E : rp_E) (post : Option Int32 → rp_M → Prop) (M : rp_M) {r1 n1 : Nat} (hr1 : r1 < 170) (sr1 : rp_sh r1 = (0, n1, [])) {r2 n2 : Nat} (hr2 : r2 < 170) (sr2 : rp_sh r2 = (0, n2, [])) {r3 n3 : Nat} (hr3 : r3 < 170) (sr3 : rp_sh r3 = (0, n3, [])) (l4 : Int32) (l5 : Int32) (l6 : Int32) (h : ((M 139 7) ≤ l6 → (post none M)) ∧ (¬ (M 139 7) ≤ l6 → (vp_in l6 12 ∧ (vp_in (M 145 (Int32.toNatClampNeg l6)) n2 ∧ (vp_in (M 145 (Int32.toNatClampNeg l6)) n3 ∧ (rp_G E YX0_fillProtected post 60 [.ref 139, .ref r1, .ref r2, .ref r3, .int l4, .int l5, .int l6, .int (M 145 (Int32.toNatClampNeg l6)), .int ((M r2 (Int32.toNatClampNeg (M 145 (Int32.toNatClampNeg l6)))) + (l4 * (M r3 (Int32.toNatClampNeg (M 145 (Int32.toNatClampNeg l6)))))), .int ((1 : Int32) <<< (l6 &&& 31) : Int32), .int 0, .null] [] M)))))) : rp_G E YX0_fillProtected post 19 [.ref 139, .ref r1, .ref r2, .ref r3, .int l4, .int l5, .int l6, .null, .null, .null, .null, .null] [] M := by
  refine ok_iload dX0_fillProtected_19 rfl ?_
  refine ok_aload_n dX0_fillProtected_21 rfl rfl ?_
  refine ok_getI dX0_fillProtected_22 fX0_fillProtected_33 (by decide) rp_k139 rfl ?_
  refine ok_icmp_ge (tgt := 138) dX0_fillProtected_25 (by decide) (fun c8 => ?_) (fun c8 => ?_)
  · replace h := h.1 c8
    exact ok_return dX0_fillProtected_138 rfl h
  · replace h := h.2 c8
    refine ok_aload_n dX0_fillProtected_28 rfl rfl ?_
    refine ok_getR (j := 145) dX0_fillProtected_29 fX0_fillProtected_27 (by decide) rp_k139 rfl (by decide) ?_
    refine ok_iload dX0_fillProtected_32 rfl ?_
    have b9 := h.1
    replace h := h.2
    refine ok_iaload dX0_fillProtected_34 (by decide) rp_k145 b9 rfl ?_
    refine ok_istore dX0_fillProtected_35 (by decide) rfl ?_
    refine ok_aload_n dX0_fillProtected_37 rfl rfl ?_
    refine ok_iload dX0_fillProtected_38 rfl ?_
    have b10 := h.1
    replace h := h.2
    refine ok_iaload dX0_fillProtected_40 hr2 sr2 b10 rfl ?_
    refine ok_iload dX0_fillProtected_41 rfl ?_
    refine ok_aload_n dX0_fillProtected_43 rfl rfl ?_
    refine ok_iload dX0_fillProtected_44 rfl ?_
    have b11 := h.1
    replace h := h.2
    refine ok_iaload dX0_fillProtected_46 hr3 sr3 b11 rfl ?_
    refine ok_imul dX0_fillProtected_47 ?_
    refine ok_iadd dX0_fillProtected_48 ?_
    refine ok_istore dX0_fillProtected_49 (by decide) rfl ?_
    refine ok_iconst (v := 1) dX0_fillProtected_51 (by decide) ?_
    refine ok_iload dX0_fillProtected_52 rfl ?_
    refine ok_ishl dX0_fillProtected_54 ?_
    refine ok_istore dX0_fillProtected_55 (by decide) rfl ?_
    refine ok_iconst (v := 0) dX0_fillProtected_57 (by decide) ?_
    refine ok_istore dX0_fillProtected_58 (by decide) rfl ?_
    exact ok_mask [true, true, true, true, true, true, true, true, true, true, true, false] h
theorem vX0_fillProtected_60 (E : rp_E) (post : Option Int32 → rp_M → Prop) (M : rp_M) {r1 n1 : Nat} (hr1 : r1 < 170) (sr1 : rp_sh r1 = (0, n1, [])) {r2 n2 : Nat} (hr2 : r2 < 170) (sr2 : rp_sh r2 = (0, n2, [])) {r3 n3 : Nat} (hr3 : r3 < 170) (sr3 : rp_sh r3 = (0, n3, [])) (l4 : Int32) (l5 : Int32) (l6 : Int32) (l7 : Int32) (l8 : Int32) (l9 : Int32) (l10 : Int32) (h : (l9 ≤ l10 → (rp_G E YX0_fillProtected post 19 [.ref 139, .ref r1, .ref r2, .ref r3, .int l4, .int l5, .int (l6 + 1), .null, .null, .null, .null, .null] [] M)) ∧ (¬ l9 ≤ l10 → (vp_in l10 4096 ∧ (vp_in (l9 ||| l10) 4096 ∧ (∀ M15, M15 = rp_s M 144 (Int32.toNatClampNeg (l9 ||| l10)) ((M 144 (Int32.toNatClampNeg l10)) ||| ((1 : Int32) <<< (l7 &&& 31) : Int32)) → (vp_in (M15 144 (Int32.toNatClampNeg l10)) n1 ∧ (∃ v17 M18, rp_C E YJ6_bitCount_0f7a4 [.int ((M 144 (Int32.toNatClampNeg l10)) ||| ((1 : Int32) <<< (l7 &&& 31) : Int32))] M15 (some v17) M18 ∧ ((l5 < v17 → (vp_in l7 n2 ∧ (vp_in ((M 144 (Int32.toNatClampNeg l10)) ||| ((1 : Int32) <<< (l7 &&& 31) : Int32)) n1 ∧ (∀ M23, M23 = rp_s M18 r1 (Int32.toNatClampNeg ((M 144 (Int32.toNatClampNeg l10)) ||| ((1 : Int32) <<< (l7 &&& 31) : Int32))) ((M15 r1 (Int32.toNatClampNeg (M15 144 (Int32.toNatClampNeg l10)))) + (M18 r2 (Int32.toNatClampNeg l7))) → (rp_G E YX0_fillProtected post 60 [.ref 139, .ref r1, .ref r2, .ref r3, .int l4, .int l5, .int l6, .int l7, .int l8, .int l9, .int (l10 + 1), .null] [] M23))))) ∧ (¬ l5 < v17 → (vp_in ((M 144 (Int32.toNatClampNeg l10)) ||| ((1 : Int32) <<< (l7 &&& 31) : Int32)) n1 ∧ (∀ M25, M25 = rp_s M18 r1 (Int32.toNatClampNeg ((M 144 (Int32.toNatClampNeg l10)) ||| ((1 : Int32) <<< (l7 &&& 31) : Int32))) ((M15 r1 (Int32.toNatClampNeg (M15 144 (Int32.toNatClampNeg l10)))) + l8) → (rp_G E YX0_fillProtected post 60 [.ref 139, .ref r1, .ref r2, .ref r3, .int l4, .int l5, .int l6, .int l7, .int l8, .int l9, .int (l10 + 1), .null] [] M25)))))))))))) : rp_G E YX0_fillProtected post 60 [.ref 139, .ref r1, .ref r2, .ref r3, .int l4, .int l5, .int l6, .int l7, .int l8, .int l9, .int l10, .null] [] M := by
  refine ok_iload dX0_fillProtected_60 rfl ?_
  refine ok_iload dX0_fillProtected_62 rfl ?_
  refine ok_icmp_ge (tgt := 132) dX0_fillProtected_64 (by decide) (fun c12 => ?_) (fun c12 => ?_)
  · replace h := h.1 c12
    refine ok_iinc2 (w := 1) dX0_fillProtected_132 rfl (by decide) (by decide) rfl ?_
    refine ok_goto (tgt := 19) dX0_fillProtected_135 (by decide) ?_
    exact ok_mask [true, true, true, true, true, true, true, false, false, false, false, false] h
  · replace h := h.2 c12
    refine ok_aload_n dX0_fillProtected_67 rfl rfl ?_
    refine ok_getR (j := 144) dX0_fillProtected_68 fX0_fillProtected_24 (by decide) rp_k139 rfl (by decide) ?_
    refine ok_iload dX0_fillProtected_71 rfl ?_
    have b13 := h.1
    replace h := h.2
    refine ok_iaload dX0_fillProtected_73 (by decide) rp_k144 b13 rfl ?_
    refine ok_iconst (v := 1) dX0_fillProtected_74 (by decide) ?_
    refine ok_iload dX0_fillProtected_75 rfl ?_
    refine ok_ishl dX0_fillProtected_77 ?_
    refine ok_ior dX0_fillProtected_78 ?_
    refine ok_istore dX0_fillProtected_79 (by decide) rfl ?_
    refine ok_aload_n dX0_fillProtected_81 rfl rfl ?_
    refine ok_getR (j := 144) dX0_fillProtected_82 fX0_fillProtected_24 (by decide) rp_k139 rfl (by decide) ?_
    refine ok_iload dX0_fillProtected_85 rfl ?_
    refine ok_iload dX0_fillProtected_87 rfl ?_
    refine ok_ior dX0_fillProtected_89 ?_
    refine ok_iload dX0_fillProtected_90 rfl ?_
    have b14 := h.1
    replace h := h.2
    refine ok_iastore dX0_fillProtected_92 (by decide) rp_k144 b14 rfl ?_
    replace h := h _ rfl
    refine ok_aload_n dX0_fillProtected_93 rfl rfl ?_
    refine ok_iload dX0_fillProtected_94 rfl ?_
    refine ok_aload_n dX0_fillProtected_96 rfl rfl ?_
    refine ok_aload_n dX0_fillProtected_97 rfl rfl ?_
    refine ok_getR (j := 144) dX0_fillProtected_98 fX0_fillProtected_24 (by decide) rp_k139 rfl (by decide) ?_
    refine ok_iload dX0_fillProtected_101 rfl ?_
    refine ok_iaload dX0_fillProtected_103 (by decide) rp_k144 b13 rfl ?_
    have b16 := h.1
    replace h := h.2
    refine ok_iaload dX0_fillProtected_104 hr1 sr1 b16 rfl ?_
    refine ok_iload dX0_fillProtected_105 rfl ?_
    obtain ⟨v17, M18, r19, h⟩ := h
    refine ok_callS2 dX0_fillProtected_107 kX0_fillProtected_73 r19 rfl rfl (Nat.le_of_ble_eq_true rfl) ?_
    rintro _ _ ⟨rfl, rfl⟩
    refine ok_iload dX0_fillProtected_110 rfl ?_
    refine ok_icmp_gt (tgt := 120) dX0_fillProtected_112 (by decide) (fun c20 => ?_) (fun c20 => ?_)
    · replace h := h.1 c20
      refine ok_aload_n dX0_fillProtected_120 rfl rfl ?_
      refine ok_iload dX0_fillProtected_121 rfl ?_
      have b21 := h.1
      replace h := h.2
      refine ok_iaload dX0_fillProtected_123 hr2 sr2 b21 rfl ?_
      refine ok_iadd dX0_fillProtected_124 ?_
      have b22 := h.1
      replace h := h.2
      refine ok_iastore dX0_fillProtected_125 hr1 sr1 b22 rfl ?_
      replace h := h _ rfl
      refine ok_iinc2 (w := 1) dX0_fillProtected_126 rfl (by decide) (by decide) rfl ?_
      refine ok_goto (tgt := 60) dX0_fillProtected_129 (by decide) ?_
      exact ok_mask [true, true, true, true, true, true, true, true, true, true, true, false] h
    · replace h := h.2 c20
      refine ok_iload dX0_fillProtected_115 rfl ?_
      refine ok_goto (tgt := 124) dX0_fillProtected_117 (by decide) ?_
      refine ok_iadd dX0_fillProtected_124 ?_
      have b24 := h.1
      replace h := h.2
      refine ok_iastore dX0_fillProtected_125 hr1 sr1 b24 rfl ?_
      replace h := h _ rfl
      refine ok_iinc2 (w := 1) dX0_fillProtected_126 rfl (by decide) (by decide) rfl ?_
      refine ok_goto (tgt := 60) dX0_fillProtected_129 (by decide) ?_
      exact ok_mask [true, true, true, true, true, true, true, true, true, true, true, false] h
theorem vX0_fillRequired (E : rp_E) (post : Option Int32 → rp_M → Prop) (M : rp_M)  (h : ∀ M1, M1 = rp_s M 143 0 0 → (rp_G E YX0_fillRequired post 9 [.ref 139, .ref 0, .int 0, .null, .null, .null] [] M1)) : rp_Run E YX0_fillRequired [.ref 139, .ref 0] M post := by
  refine ok_start (by decide) oX0_fillRequired (Nat.le_of_ble_eq_true rfl) ?_
  refine ok_aload_n dX0_fillRequired_0 rfl rfl ?_
  refine ok_getR (j := 143) dX0_fillRequired_1 fX0_fillRequired_21 (by decide) rp_k139 rfl (by decide) ?_
  refine ok_iconst (v := 0) dX0_fillRequired_4 (by decide) ?_
  refine ok_iconst (v := 0) dX0_fillRequired_5 (by decide) ?_
  refine ok_iastore (j := 0) dX0_fillRequired_6 (by decide) rp_k143 (rp_vi (by decide)) (by decide) ?_
  replace h := h _ rfl
  refine ok_iconst (v := 0) dX0_fillRequired_7 (by decide) ?_
  refine ok_istore_n dX0_fillRequired_8 rfl (by decide) rfl ?_
  exact ok_mask [true, true, true, false, false, false] h
theorem vX0_fillRequired_9 (E : rp_E) (post : Option Int32 → rp_M → Prop) (M : rp_M) (l2 : Int32) (h : ((M 139 7) ≤ l2 → (post none M)) ∧ (¬ (M 139 7) ≤ l2 → (∃ v3 M4, rp_C E YX4_rivals [.ref 0, .int l2] M (some v3) M4 ∧ (rp_G E YX0_fillRequired post 31 [.ref 139, .ref 0, .int l2, .int ((1 : Int32) <<< (l2 &&& 31) : Int32), .int v3, .int 0] [] M4)))) : rp_G E YX0_fillRequired post 9 [.ref 139, .ref 0, .int l2, .null, .null, .null] [] M := by
  refine ok_iload_n dX0_fillRequired_9 rfl rfl ?_
  refine ok_aload_n dX0_fillRequired_10 rfl rfl ?_
  refine ok_getI dX0_fillRequired_11 fX0_fillRequired_33 (by decide) rp_k139 rfl ?_
  refine ok_icmp_ge (tgt := 84) dX0_fillRequired_14 (by decide) (fun c2 => ?_) (fun c2 => ?_)
  · replace h := h.1 c2
    exact ok_return dX0_fillRequired_84 rfl h
  · replace h := h.2 c2
    refine ok_iconst (v := 1) dX0_fillRequired_17 (by decide) ?_
    refine ok_iload_n dX0_fillRequired_18 rfl rfl ?_
    refine ok_ishl dX0_fillRequired_19 ?_
    refine ok_istore_n dX0_fillRequired_20 rfl (by decide) rfl ?_
    refine ok_aload_n dX0_fillRequired_21 rfl rfl ?_
    refine ok_iload_n dX0_fillRequired_22 rfl rfl ?_
    obtain ⟨v3, M4, r5, h⟩ := h
    refine ok_callV2 dX0_fillRequired_23 kX0_fillRequired_79 r5 (by decide) rp_k0 rfl rfl (Nat.le_of_ble_eq_true rfl) ?_
    rintro _ _ ⟨rfl, rfl⟩
    refine ok_istore dX0_fillRequired_26 (by decide) rfl ?_
    refine ok_iconst (v := 0) dX0_fillRequired_28 (by decide) ?_
    refine ok_istore dX0_fillRequired_29 (by decide) rfl ?_
    exact ok_mask [true, true, true, true, true, true] h
theorem vX0_fillRequired_31 (E : rp_E) (post : Option Int32 → rp_M → Prop) (M : rp_M) (l2 : Int32) (l3 : Int32) (l4 : Int32) (l5 : Int32) (h : (l3 ≤ l5 → (rp_G E YX0_fillRequired post 9 [.ref 139, .ref 0, .int (l2 + 1), .null, .null, .null] [] M)) ∧ (¬ l3 ≤ l5 → (((l5 &&& l4) = 0 → (vp_in l5 4096 ∧ (vp_in l2 12 ∧ (vp_in (l3 ||| l5) 4096 ∧ (∀ M11, M11 = rp_s M 143 (Int32.toNatClampNeg (l3 ||| l5)) ((M 143 (Int32.toNatClampNeg l5)) ||| (M 8 (Int32.toNatClampNeg l2))) → (rp_G E YX0_fillRequired post 31 [.ref 139, .ref 0, .int l2, .int l3, .int l4, .int (l5 + 1)] [] M11)))))) ∧ (¬ (l5 &&& l4) = 0 → (vp_in (l3 ||| l5) 4096 ∧ (∀ M13, M13 = rp_s M 143 (Int32.toNatClampNeg (l3 ||| l5)) (-1) → (rp_G E YX0_fillRequired post 31 [.ref 139, .ref 0, .int l2, .int l3, .int l4, .int (l5 + 1)] [] M13))))))) : rp_G E YX0_fillRequired post 31 [.ref 139, .ref 0, .int l2, .int l3, .int l4, .int l5] [] M := by
  refine ok_iload dX0_fillRequired_31 rfl ?_
  refine ok_iload_n dX0_fillRequired_33 rfl rfl ?_
  refine ok_icmp_ge (tgt := 78) dX0_fillRequired_34 (by decide) (fun c6 => ?_) (fun c6 => ?_)
  · replace h := h.1 c6
    refine ok_iinc2 (w := 1) dX0_fillRequired_78 rfl (by decide) (by decide) rfl ?_
    refine ok_goto (tgt := 9) dX0_fillRequired_81 (by decide) ?_
    exact ok_mask [true, true, true, false, false, false] h
  · replace h := h.2 c6
    refine ok_aload_n dX0_fillRequired_37 rfl rfl ?_
    refine ok_getR (j := 143) dX0_fillRequired_38 fX0_fillRequired_21 (by decide) rp_k139 rfl (by decide) ?_
    refine ok_iload_n dX0_fillRequired_41 rfl rfl ?_
    refine ok_iload dX0_fillRequired_42 rfl ?_
    refine ok_ior dX0_fillRequired_44 ?_
    refine ok_iload dX0_fillRequired_45 rfl ?_
    refine ok_iload dX0_fillRequired_47 rfl ?_
    refine ok_iand dX0_fillRequired_49 ?_
    refine ok_if_eq (tgt := 57) dX0_fillRequired_50 (by decide) (fun c7 => ?_) (fun c7 => ?_)
    · replace h := h.1 c7
      refine ok_aload_n dX0_fillRequired_57 rfl rfl ?_
      refine ok_getR (j := 143) dX0_fillRequired_58 fX0_fillRequired_21 (by decide) rp_k139 rfl (by decide) ?_
      refine ok_iload dX0_fillRequired_61 rfl ?_
      have b8 := h.1
      replace h := h.2
      refine ok_iaload dX0_fillRequired_63 (by decide) rp_k143 b8 rfl ?_
      refine ok_aload_n dX0_fillRequired_64 rfl rfl ?_
      refine ok_getR (j := 8) dX0_fillRequired_65 fX0_fillRequired_82 (by decide) rp_k0 rfl (by decide) ?_
      refine ok_iload_n dX0_fillRequired_68 rfl rfl ?_
      have b9 := h.1
      replace h := h.2
      refine ok_iaload dX0_fillRequired_69 (by decide) rp_k8 b9 rfl ?_
      refine ok_ior dX0_fillRequired_70 ?_
      have b10 := h.1
      replace h := h.2
      refine ok_iastore dX0_fillRequired_71 (by decide) rp_k143 b10 rfl ?_
      replace h := h _ rfl
      refine ok_iinc2 (w := 1) dX0_fillRequired_72 rfl (by decide) (by decide) rfl ?_
      refine ok_goto (tgt := 31) dX0_fillRequired_75 (by decide) ?_
      exact ok_mask [true, true, true, true, true, true] h
    · replace h := h.2 c7
      refine ok_iconst (v := (-1)) dX0_fillRequired_53 (by decide) ?_
      refine ok_goto (tgt := 71) dX0_fillRequired_54 (by decide) ?_
      have b12 := h.1
      replace h := h.2
      refine ok_iastore dX0_fillRequired_71 (by decide) rp_k143 b12 rfl ?_
      replace h := h _ rfl
      refine ok_iinc2 (w := 1) dX0_fillRequired_72 rfl (by decide) (by decide) rfl ?_
      refine ok_goto (tgt := 31) dX0_fillRequired_75 (by decide) ?_
      exact ok_mask [true, true, true, true, true, true] h
theorem vX0_fill (E : rp_E) (post : Option Int32 → rp_M → Prop) (M : rp_M) (l2 : Int32) (l3 : Int32) (h : ∀ M1, M1 = rp_s M 139 7 (M 0 4) → (∀ M2, M2 = rp_s M1 139 8 ((1 : Int32) <<< ((M1 139 7) &&& 31) : Int32) → (∃ P5 : rp_M → Prop, rp_Run E YX0_fillProtected [.ref 139, .ref 140, .ref 3, .ref 4, .int 1, .int l2] M2 (rp_P0 P5) ∧ (∀ M3, P5 M3 → (∃ P9 : rp_M → Prop, rp_Run E YX0_fillProtected [.ref 139, .ref 141, .ref 2, .ref 5, .int (-1), .int l3] M3 (rp_P0 P9) ∧ (∀ M7, P9 M7 → (∃ P13 : rp_M → Prop, rp_Run E YX5_sumUp [.ref 142, .ref 2, .int (M7 139 7)] M7 (rp_P0 P13) ∧ (∀ M11, P13 M11 → (∃ P17 : rp_M → Prop, rp_Run E YX0_fillRequired [.ref 139, .ref 0] M11 (rp_P0 P17) ∧ (∀ M15, P17 M15 → (post none M15))))))))))) : rp_Run E YX0_fill [.ref 139, .ref 0, .int l2, .int l3] M post := by
  refine ok_start (by decide) oX0_fill (Nat.le_of_ble_eq_true rfl) ?_
  refine ok_aload_n dX0_fill_0 rfl rfl ?_
  refine ok_aload_n dX0_fill_1 rfl rfl ?_
  refine ok_getI dX0_fill_2 fX0_fill_44 (by decide) rp_k0 rfl ?_
  refine ok_put dX0_fill_5 pX0_fill_33 (by decide) rp_k139 rfl rfl rfl ?_
  replace h := h _ rfl
  refine ok_aload_n dX0_fill_8 rfl rfl ?_
  refine ok_iconst (v := 1) dX0_fill_9 (by decide) ?_
  refine ok_aload_n dX0_fill_10 rfl rfl ?_
  refine ok_getI dX0_fill_11 fX0_fill_33 (by decide) rp_k139 rfl ?_
  refine ok_ishl dX0_fill_14 ?_
  refine ok_put dX0_fill_15 pX0_fill_37 (by decide) rp_k139 rfl rfl rfl ?_
  replace h := h _ rfl
  refine ok_aload_n dX0_fill_18 rfl rfl ?_
  refine ok_aload_n dX0_fill_19 rfl rfl ?_
  refine ok_getR (j := 140) dX0_fill_20 fX0_fill_9 (by decide) rp_k139 rfl (by decide) ?_
  refine ok_aload_n dX0_fill_23 rfl rfl ?_
  refine ok_getR (j := 1) dX0_fill_24 fX0_fill_47 (by decide) rp_k0 rfl (by decide) ?_
  refine ok_iconst (v := 1) dX0_fill_27 (by decide) ?_
  refine ok_aaload2 (j := 3) dX0_fill_28 (by decide) rp_k1 (rp_vi (by decide)) (by rfl) (by decide) ?_
  refine ok_aload_n dX0_fill_29 rfl rfl ?_
  refine ok_getR (j := 1) dX0_fill_30 fX0_fill_47 (by decide) rp_k0 rfl (by decide) ?_
  refine ok_iconst (v := 2) dX0_fill_33 (by decide) ?_
  refine ok_aaload2 (j := 4) dX0_fill_34 (by decide) rp_k1 (rp_vi (by decide)) (by rfl) (by decide) ?_
  refine ok_iconst (v := 1) dX0_fill_35 (by decide) ?_
  refine ok_iload_n dX0_fill_36 rfl rfl ?_
  obtain ⟨P5, r4, h⟩ := h
  refine ok_callV2 dX0_fill_37 kX0_fill_51 r4 (by decide) rp_k139 rfl rfl (Nat.le_of_ble_eq_true rfl) ?_
  rintro _ M3 ⟨rfl, q6⟩
  replace h := h M3 q6
  refine ok_aload_n dX0_fill_40 rfl rfl ?_
  refine ok_aload_n dX0_fill_41 rfl rfl ?_
  refine ok_getR (j := 141) dX0_fill_42 fX0_fill_15 (by decide) rp_k139 rfl (by decide) ?_
  refine ok_aload_n dX0_fill_45 rfl rfl ?_
  refine ok_getR (j := 1) dX0_fill_46 fX0_fill_47 (by decide) rp_k0 rfl (by decide) ?_
  refine ok_iconst (v := 0) dX0_fill_49 (by decide) ?_
  refine ok_aaload2 (j := 2) dX0_fill_50 (by decide) rp_k1 (rp_vi (by decide)) (by rfl) (by decide) ?_
  refine ok_aload_n dX0_fill_51 rfl rfl ?_
  refine ok_getR (j := 1) dX0_fill_52 fX0_fill_47 (by decide) rp_k0 rfl (by decide) ?_
  refine ok_iconst (v := 3) dX0_fill_55 (by decide) ?_
  refine ok_aaload2 (j := 5) dX0_fill_56 (by decide) rp_k1 (rp_vi (by decide)) (by rfl) (by decide) ?_
  refine ok_iconst (v := (-1)) dX0_fill_57 (by decide) ?_
  refine ok_iload_n dX0_fill_58 rfl rfl ?_
  obtain ⟨P9, r8, h⟩ := h
  refine ok_callV2 dX0_fill_59 kX0_fill_51 r8 (by decide) rp_k139 rfl rfl (Nat.le_of_ble_eq_true rfl) ?_
  rintro _ M7 ⟨rfl, q10⟩
  replace h := h M7 q10
  refine ok_aload_n dX0_fill_62 rfl rfl ?_
  refine ok_getR (j := 142) dX0_fill_63 fX0_fill_18 (by decide) rp_k139 rfl (by decide) ?_
  refine ok_aload_n dX0_fill_66 rfl rfl ?_
  refine ok_getR (j := 1) dX0_fill_67 fX0_fill_47 (by decide) rp_k0 rfl (by decide) ?_
  refine ok_iconst (v := 0) dX0_fill_70 (by decide) ?_
  refine ok_aaload2 (j := 2) dX0_fill_71 (by decide) rp_k1 (rp_vi (by decide)) (by rfl) (by decide) ?_
  refine ok_aload_n dX0_fill_72 rfl rfl ?_
  refine ok_getI dX0_fill_73 fX0_fill_33 (by decide) rp_k139 rfl ?_
  obtain ⟨P13, r12, h⟩ := h
  refine ok_callN2 dX0_fill_76 kX0_fill_55.1 oX5_sumUp uX5_sumUp kX0_fill_55.2.1 (fun U hU => hU.2.1) kX0_fill_55.2.2.1 kX0_fill_55.2.2.2 r12 rfl rfl (Nat.le_of_ble_eq_true rfl) ?_
  rintro _ M11 ⟨rfl, q14⟩
  replace h := h M11 q14
  refine ok_aload_n dX0_fill_79 rfl rfl ?_
  refine ok_aload_n dX0_fill_80 rfl rfl ?_
  obtain ⟨P17, r16, h⟩ := h
  refine ok_callV2 dX0_fill_81 kX0_fill_59 r16 (by decide) rp_k139 rfl rfl (Nat.le_of_ble_eq_true rfl) ?_
  rintro _ M15 ⟨rfl, q18⟩
  replace h := h M15 q18
  exact ok_return dX0_fill_84 rfl h
theorem vX0_fillWeights (E : rp_E) (post : Option Int32 → rp_M → Prop) (M : rp_M) (l2 : Int32) (l3 : Int32) (l4 : Int32) (h : ∀ M1, M1 = rp_row M 146 (va_cpy (M 4) (M 146) 0 0 12) → (vp_in l3 12 ∧ (∀ M3, M3 = rp_s M1 146 (Int32.toNatClampNeg l3) ((M1 146 (Int32.toNatClampNeg l3)) + l4) → (∃ P6 : rp_M → Prop, rp_Run E YX0_fillProtected [.ref 139, .ref 140, .ref 3, .ref 146, .int 1, .int l2] M3 (rp_P0 P6) ∧ (∀ M4, P6 M4 → (post none M4)))))) : rp_Run E YX0_fillWeights [.ref 139, .ref 0, .int l2, .int l3, .int l4] M post := by
  refine ok_start (by decide) oX0_fillWeights (Nat.le_of_ble_eq_true rfl) ?_
  refine ok_aload_n dX0_fillWeights_0 rfl rfl ?_
  refine ok_getR (j := 1) dX0_fillWeights_1 fX0_fillWeights_47 (by decide) rp_k0 rfl (by decide) ?_
  refine ok_iconst (v := 2) dX0_fillWeights_4 (by decide) ?_
  refine ok_aaload2 (j := 4) dX0_fillWeights_5 (by decide) rp_k1 (rp_vi (by decide)) (by rfl) (by decide) ?_
  refine ok_iconst (v := 0) dX0_fillWeights_6 (by decide) ?_
  refine ok_aload_n dX0_fillWeights_7 rfl rfl ?_
  refine ok_getR (j := 146) dX0_fillWeights_8 fX0_fillWeights_30 (by decide) rp_k139 rfl (by decide) ?_
  refine ok_iconst (v := 0) dX0_fillWeights_11 (by decide) ?_
  refine ok_bipush (v := 12) dX0_fillWeights_12 (by decide) ?_
  refine ok_copy dX0_fillWeights_14 kX0_fillWeights_63 (by decide) (by decide) rp_k4 rp_k146 (by decide) (by decide) (by decide) (by decide) (by decide) (by decide) ?_
  replace h := h _ rfl
  refine ok_aload_n dX0_fillWeights_17 rfl rfl ?_
  refine ok_getR (j := 146) dX0_fillWeights_18 fX0_fillWeights_30 (by decide) rp_k139 rfl (by decide) ?_
  refine ok_iload_n dX0_fillWeights_21 rfl rfl ?_
  refine ok_dup2 dX0_fillWeights_22 rfl rfl ?_
  have b2 := h.1
  replace h := h.2
  refine ok_iaload dX0_fillWeights_23 (by decide) rp_k146 b2 rfl ?_
  refine ok_iload dX0_fillWeights_24 rfl ?_
  refine ok_iadd dX0_fillWeights_26 ?_
  refine ok_iastore dX0_fillWeights_27 (by decide) rp_k146 b2 rfl ?_
  replace h := h _ rfl
  refine ok_aload_n dX0_fillWeights_28 rfl rfl ?_
  refine ok_aload_n dX0_fillWeights_29 rfl rfl ?_
  refine ok_getR (j := 140) dX0_fillWeights_30 fX0_fillWeights_9 (by decide) rp_k139 rfl (by decide) ?_
  refine ok_aload_n dX0_fillWeights_33 rfl rfl ?_
  refine ok_getR (j := 1) dX0_fillWeights_34 fX0_fillWeights_47 (by decide) rp_k0 rfl (by decide) ?_
  refine ok_iconst (v := 1) dX0_fillWeights_37 (by decide) ?_
  refine ok_aaload2 (j := 3) dX0_fillWeights_38 (by decide) rp_k1 (rp_vi (by decide)) (by rfl) (by decide) ?_
  refine ok_aload_n dX0_fillWeights_39 rfl rfl ?_
  refine ok_getR (j := 146) dX0_fillWeights_40 fX0_fillWeights_30 (by decide) rp_k139 rfl (by decide) ?_
  refine ok_iconst (v := 1) dX0_fillWeights_43 (by decide) ?_
  refine ok_iload_n dX0_fillWeights_44 rfl rfl ?_
  obtain ⟨P6, r5, h⟩ := h
  refine ok_callV2 dX0_fillWeights_45 kX0_fillWeights_51 r5 (by decide) rp_k139 rfl rfl (Nat.le_of_ble_eq_true rfl) ?_
  rintro _ M4 ⟨rfl, q7⟩
  replace h := h M4 q7
  exact ok_return dX0_fillWeights_48 rfl h
theorem vX0_allows (E : rp_E) (post : Option Int32 → rp_M → Prop) (M : rp_M) (l1 : Int32) (h : vp_in l1 4096 ∧ ((¬ ((M 143 (Int32.toNatClampNeg l1)) &&& (l1 ^^^ (-1))) = 0 → (post (some 0) M)) ∧ (((M 143 (Int32.toNatClampNeg l1)) &&& (l1 ^^^ (-1))) = 0 → (post (some 1) M)))) : rp_Run E YX0_allows [.ref 139, .int l1] M post := by
  refine ok_start (by decide) oX0_allows (Nat.le_of_ble_eq_true rfl) ?_
  refine ok_aload_n dX0_allows_0 rfl rfl ?_
  refine ok_getR (j := 143) dX0_allows_1 fX0_allows_21 (by decide) rp_k139 rfl (by decide) ?_
  refine ok_iload_n dX0_allows_4 rfl rfl ?_
  have b1 := h.1
  replace h := h.2
  refine ok_iaload dX0_allows_5 (by decide) rp_k143 b1 rfl ?_
  refine ok_iload_n dX0_allows_6 rfl rfl ?_
  refine ok_iconst (v := (-1)) dX0_allows_7 (by decide) ?_
  refine ok_ixor dX0_allows_8 ?_
  refine ok_iand dX0_allows_9 ?_
  refine ok_if_ne (tgt := 17) dX0_allows_10 (by decide) (fun c2 => ?_) (fun c2 => ?_)
  · replace h := h.1 c2
    refine ok_iconst (v := 0) dX0_allows_17 (by decide) ?_
    exact ok_zreturn dX0_allows_18 rfl (by decide) h
  · replace h := h.2 c2
    refine ok_iconst (v := 1) dX0_allows_13 (by decide) ?_
    refine ok_goto (tgt := 18) dX0_allows_14 (by decide) ?_
    exact ok_zreturn dX0_allows_18 rfl (by decide) h
theorem vX0_stands (E : rp_E) (post : Option Int32 → rp_M → Prop) (M : rp_M) (l1 : Int32) (l2 : Int32) (h : vp_in l1 4096 ∧ ((l2 < (M 140 (Int32.toNatClampNeg l1)) → (post (some 0) M)) ∧ (¬ l2 < (M 140 (Int32.toNatClampNeg l1)) → (∃ v3 M4, rp_C E YX0_allows [.ref 139, .int l1] M (some v3) M4 ∧ ((v3 = 0 → (post (some 0) M4)) ∧ (¬ v3 = 0 → (post (some 1) M4))))))) : rp_Run E YX0_stands [.ref 139, .int l1, .int l2] M post := by
  refine ok_start (by decide) oX0_stands (Nat.le_of_ble_eq_true rfl) ?_
  refine ok_aload_n dX0_stands_0 rfl rfl ?_
  refine ok_getR (j := 140) dX0_stands_1 fX0_stands_9 (by decide) rp_k139 rfl (by decide) ?_
  refine ok_iload_n dX0_stands_4 rfl rfl ?_
  have b1 := h.1
  replace h := h.2
  refine ok_iaload dX0_stands_5 (by decide) rp_k140 b1 rfl ?_
  refine ok_iload_n dX0_stands_6 rfl rfl ?_
  refine ok_icmp_gt (tgt := 22) dX0_stands_7 (by decide) (fun c2 => ?_) (fun c2 => ?_)
  · replace h := h.1 c2
    refine ok_iconst (v := 0) dX0_stands_22 (by decide) ?_
    exact ok_zreturn dX0_stands_23 rfl (by decide) h
  · replace h := h.2 c2
    refine ok_aload_n dX0_stands_10 rfl rfl ?_
    refine ok_iload_n dX0_stands_11 rfl rfl ?_
    obtain ⟨v3, M4, r5, h⟩ := h
    refine ok_callV2 dX0_stands_12 kX0_stands_85 r5 (by decide) rp_k139 rfl rfl (Nat.le_of_ble_eq_true rfl) ?_
    rintro _ _ ⟨rfl, rfl⟩
    refine ok_if_eq (tgt := 22) dX0_stands_15 (by decide) (fun c6 => ?_) (fun c6 => ?_)
    · replace h := h.1 c6
      refine ok_iconst (v := 0) dX0_stands_22 (by decide) ?_
      exact ok_zreturn dX0_stands_23 rfl (by decide) h
    · replace h := h.2 c6
      refine ok_iconst (v := 1) dX0_stands_18 (by decide) ?_
      refine ok_goto (tgt := 23) dX0_stands_19 (by decide) ?_
      exact ok_zreturn dX0_stands_23 rfl (by decide) h
theorem vX0_isBefore (E : rp_E) (post : Option Int32 → rp_M → Prop) (M : rp_M) (l1 : Int32) (l2 : Int32) (h : vp_in l1 4096 ∧ (vp_in l2 4096 ∧ (((M 141 (Int32.toNatClampNeg l1)) = (M 141 (Int32.toNatClampNeg l2)) → (((M 140 (Int32.toNatClampNeg l1)) = (M 140 (Int32.toNatClampNeg l2)) → ((l2 ≤ l1 → (post (some 0) M)) ∧ (¬ l2 ≤ l1 → (post (some 1) M)))) ∧ (¬ (M 140 (Int32.toNatClampNeg l1)) = (M 140 (Int32.toNatClampNeg l2)) → (((M 140 (Int32.toNatClampNeg l2)) ≤ (M 140 (Int32.toNatClampNeg l1)) → (post (some 0) M)) ∧ (¬ (M 140 (Int32.toNatClampNeg l2)) ≤ (M 140 (Int32.toNatClampNeg l1)) → (post (some 1) M)))))) ∧ (¬ (M 141 (Int32.toNatClampNeg l1)) = (M 141 (Int32.toNatClampNeg l2)) → (((M 141 (Int32.toNatClampNeg l1)) ≤ (M 141 (Int32.toNatClampNeg l2)) → (post (some 0) M)) ∧ (¬ (M 141 (Int32.toNatClampNeg l1)) ≤ (M 141 (Int32.toNatClampNeg l2)) → (post (some 1) M))))))) : rp_Run E YX0_isBefore [.ref 139, .int l1, .int l2] M post := by
  refine ok_start (by decide) oX0_isBefore (Nat.le_of_ble_eq_true rfl) ?_
  refine ok_aload_n dX0_isBefore_0 rfl rfl ?_
  refine ok_getR (j := 141) dX0_isBefore_1 fX0_isBefore_15 (by decide) rp_k139 rfl (by decide) ?_
  refine ok_iload_n dX0_isBefore_4 rfl rfl ?_
  have b1 := h.1
  replace h := h.2
  refine ok_iaload dX0_isBefore_5 (by decide) rp_k141 b1 rfl ?_
  refine ok_aload_n dX0_isBefore_6 rfl rfl ?_
  refine ok_getR (j := 141) dX0_isBefore_7 fX0_isBefore_15 (by decide) rp_k139 rfl (by decide) ?_
  refine ok_iload_n dX0_isBefore_10 rfl rfl ?_
  have b2 := h.1
  replace h := h.2
  refine ok_iaload dX0_isBefore_11 (by decide) rp_k141 b2 rfl ?_
  refine ok_icmp_eq (tgt := 36) dX0_isBefore_12 (by decide) (fun c3 => ?_) (fun c3 => ?_)
  · replace h := h.1 c3
    refine ok_aload_n dX0_isBefore_36 rfl rfl ?_
    refine ok_getR (j := 140) dX0_isBefore_37 fX0_isBefore_9 (by decide) rp_k139 rfl (by decide) ?_
    refine ok_iload_n dX0_isBefore_40 rfl rfl ?_
    refine ok_iaload dX0_isBefore_41 (by decide) rp_k140 b1 rfl ?_
    refine ok_aload_n dX0_isBefore_42 rfl rfl ?_
    refine ok_getR (j := 140) dX0_isBefore_43 fX0_isBefore_9 (by decide) rp_k139 rfl (by decide) ?_
    refine ok_iload_n dX0_isBefore_46 rfl rfl ?_
    refine ok_iaload dX0_isBefore_47 (by decide) rp_k140 b2 rfl ?_
    refine ok_icmp_eq (tgt := 72) dX0_isBefore_48 (by decide) (fun c4 => ?_) (fun c4 => ?_)
    · replace h := h.1 c4
      refine ok_iload_n dX0_isBefore_72 rfl rfl ?_
      refine ok_iload_n dX0_isBefore_73 rfl rfl ?_
      refine ok_icmp_ge (tgt := 81) dX0_isBefore_74 (by decide) (fun c5 => ?_) (fun c5 => ?_)
      · replace h := h.1 c5
        refine ok_iconst (v := 0) dX0_isBefore_81 (by decide) ?_
        exact ok_zreturn dX0_isBefore_82 rfl (by decide) h
      · replace h := h.2 c5
        refine ok_iconst (v := 1) dX0_isBefore_77 (by decide) ?_
        refine ok_goto (tgt := 82) dX0_isBefore_78 (by decide) ?_
        exact ok_zreturn dX0_isBefore_82 rfl (by decide) h
    · replace h := h.2 c4
      refine ok_aload_n dX0_isBefore_51 rfl rfl ?_
      refine ok_getR (j := 140) dX0_isBefore_52 fX0_isBefore_9 (by decide) rp_k139 rfl (by decide) ?_
      refine ok_iload_n dX0_isBefore_55 rfl rfl ?_
      refine ok_iaload dX0_isBefore_56 (by decide) rp_k140 b1 rfl ?_
      refine ok_aload_n dX0_isBefore_57 rfl rfl ?_
      refine ok_getR (j := 140) dX0_isBefore_58 fX0_isBefore_9 (by decide) rp_k139 rfl (by decide) ?_
      refine ok_iload_n dX0_isBefore_61 rfl rfl ?_
      refine ok_iaload dX0_isBefore_62 (by decide) rp_k140 b2 rfl ?_
      refine ok_icmp_ge (tgt := 70) dX0_isBefore_63 (by decide) (fun c6 => ?_) (fun c6 => ?_)
      · replace h := h.1 c6
        refine ok_iconst (v := 0) dX0_isBefore_70 (by decide) ?_
        exact ok_zreturn dX0_isBefore_71 rfl (by decide) h
      · replace h := h.2 c6
        refine ok_iconst (v := 1) dX0_isBefore_66 (by decide) ?_
        refine ok_goto (tgt := 71) dX0_isBefore_67 (by decide) ?_
        exact ok_zreturn dX0_isBefore_71 rfl (by decide) h
  · replace h := h.2 c3
    refine ok_aload_n dX0_isBefore_15 rfl rfl ?_
    refine ok_getR (j := 141) dX0_isBefore_16 fX0_isBefore_15 (by decide) rp_k139 rfl (by decide) ?_
    refine ok_iload_n dX0_isBefore_19 rfl rfl ?_
    refine ok_iaload dX0_isBefore_20 (by decide) rp_k141 b1 rfl ?_
    refine ok_aload_n dX0_isBefore_21 rfl rfl ?_
    refine ok_getR (j := 141) dX0_isBefore_22 fX0_isBefore_15 (by decide) rp_k139 rfl (by decide) ?_
    refine ok_iload_n dX0_isBefore_25 rfl rfl ?_
    refine ok_iaload dX0_isBefore_26 (by decide) rp_k141 b2 rfl ?_
    refine ok_icmp_le (tgt := 34) dX0_isBefore_27 (by decide) (fun c7 => ?_) (fun c7 => ?_)
    · replace h := h.1 c7
      refine ok_iconst (v := 0) dX0_isBefore_34 (by decide) ?_
      exact ok_zreturn dX0_isBefore_35 rfl (by decide) h
    · replace h := h.2 c7
      refine ok_iconst (v := 1) dX0_isBefore_30 (by decide) ?_
      refine ok_goto (tgt := 35) dX0_isBefore_31 (by decide) ?_
      exact ok_zreturn dX0_isBefore_35 rfl (by decide) h
theorem vX0_first (E : rp_E) (post : Option Int32 → rp_M → Prop) (M : rp_M) (l1 : Int32) (l2 : Int32) (l3 : Int32) (h : rp_G E YX0_first post 7 [.ref 139, .int l1, .int l2, .int l3, .int (-6), .int 0, .null] [] M) : rp_Run E YX0_first [.ref 139, .int l1, .int l2, .int l3] M post := by
  refine ok_start (by decide) oX0_first (Nat.le_of_ble_eq_true rfl) ?_
  refine ok_bipush (v := (-6)) dX0_first_0 (by decide) ?_
  refine ok_istore dX0_first_2 (by decide) rfl ?_
  refine ok_iconst (v := 0) dX0_first_4 (by decide) ?_
  refine ok_istore dX0_first_5 (by decide) rfl ?_
  exact ok_mask [true, true, true, true, true, true, false] h
theorem vX0_first_7 (E : rp_E) (post : Option Int32 → rp_M → Prop) (M : rp_M) (l1 : Int32) (l2 : Int32) (l3 : Int32) (l4 : Int32) (l5 : Int32) (h : ((M 139 8) ≤ l5 → (post (some l4) M)) ∧ (¬ (M 139 8) ≤ l5 → ((¬ (l5 &&& l2) = l2 → (rp_G E YX0_first post 7 [.ref 139, .int l1, .int l2, .int l3, .int l4, .int (l5 + 1), .null] [] M)) ∧ ((l5 &&& l2) = l2 → ((¬ (l5 &&& l3) = 0 → (rp_G E YX0_first post 7 [.ref 139, .int l1, .int l2, .int l3, .int l4, .int (l5 + 1), .null] [] M)) ∧ ((l5 &&& l3) = 0 → (∃ v7 M8, rp_C E YX0_stands [.ref 139, .int l5, .int l1] M (some v7) M8 ∧ ((v7 = 0 → (rp_G E YX0_first post 7 [.ref 139, .int l1, .int l2, .int l3, .int l4, .int (l5 + 1), .null] [] M8)) ∧ (¬ v7 = 0 → ((l4 < 0 → (rp_G E YX0_first post 7 [.ref 139, .int l1, .int l2, .int l3, .int l5, .int (l5 + 1), .null] [] M8)) ∧ (¬ l4 < 0 → (∃ v12 M13, rp_C E YX0_isBefore [.ref 139, .int l5, .int l4] M8 (some v12) M13 ∧ ((v12 = 0 → (rp_G E YX0_first post 7 [.ref 139, .int l1, .int l2, .int l3, .int l4, .int (l5 + 1), .null] [] M13)) ∧ (¬ v12 = 0 → (rp_G E YX0_first post 7 [.ref 139, .int l1, .int l2, .int l3, .int l5, .int (l5 + 1), .null] [] M13))))))))))))))) : rp_G E YX0_first post 7 [.ref 139, .int l1, .int l2, .int l3, .int l4, .int l5, .null] [] M := by
  refine ok_iload dX0_first_7 rfl ?_
  refine ok_aload_n dX0_first_9 rfl rfl ?_
  refine ok_getI dX0_first_10 fX0_first_37 (by decide) rp_k139 rfl ?_
  refine ok_icmp_ge (tgt := 79) dX0_first_13 (by decide) (fun c1 => ?_) (fun c1 => ?_)
  · replace h := h.1 c1
    refine ok_iload dX0_first_79 rfl ?_
    exact ok_ireturn dX0_first_81 rfl h
  · replace h := h.2 c1
    refine ok_iload dX0_first_16 rfl ?_
    refine ok_iload_n dX0_first_18 rfl rfl ?_
    refine ok_iand dX0_first_19 ?_
    refine ok_iload_n dX0_first_20 rfl rfl ?_
    refine ok_icmp_ne (tgt := 35) dX0_first_21 (by decide) (fun c2 => ?_) (fun c2 => ?_)
    · replace h := h.1 c2
      refine ok_iconst (v := 0) dX0_first_35 (by decide) ?_
      refine ok_istore dX0_first_36 (by decide) rfl ?_
      refine ok_iload dX0_first_38 rfl ?_
      refine ok_if_eq (tgt := 73) dX0_first_40 (by decide) (fun c3 => ?_) (fun c3 => absurd c3 (by decide))
      refine ok_iinc2 (w := 1) dX0_first_73 rfl (by decide) (by decide) rfl ?_
      refine ok_goto (tgt := 7) dX0_first_76 (by decide) ?_
      exact ok_mask [true, true, true, true, true, true, false] h
    · replace h := h.2 c2
      refine ok_iload dX0_first_24 rfl ?_
      refine ok_iload_n dX0_first_26 rfl rfl ?_
      refine ok_iand dX0_first_27 ?_
      refine ok_if_ne (tgt := 35) dX0_first_28 (by decide) (fun c4 => ?_) (fun c4 => ?_)
      · replace h := h.1 c4
        refine ok_iconst (v := 0) dX0_first_35 (by decide) ?_
        refine ok_istore dX0_first_36 (by decide) rfl ?_
        refine ok_iload dX0_first_38 rfl ?_
        refine ok_if_eq (tgt := 73) dX0_first_40 (by decide) (fun c5 => ?_) (fun c5 => absurd c5 (by decide))
        refine ok_iinc2 (w := 1) dX0_first_73 rfl (by decide) (by decide) rfl ?_
        refine ok_goto (tgt := 7) dX0_first_76 (by decide) ?_
        exact ok_mask [true, true, true, true, true, true, false] h
      · replace h := h.2 c4
        refine ok_iconst (v := 1) dX0_first_31 (by decide) ?_
        refine ok_goto (tgt := 36) dX0_first_32 (by decide) ?_
        refine ok_istore dX0_first_36 (by decide) rfl ?_
        refine ok_iload dX0_first_38 rfl ?_
        refine ok_if_eq (tgt := 73) dX0_first_40 (by decide) (fun c6 => absurd c6 (by decide)) (fun c6 => ?_)
        refine ok_aload_n dX0_first_43 rfl rfl ?_
        refine ok_iload dX0_first_44 rfl ?_
        refine ok_iload_n dX0_first_46 rfl rfl ?_
        obtain ⟨v7, M8, r9, h⟩ := h
        refine ok_callV2 dX0_first_47 kX0_first_89 r9 (by decide) rp_k139 rfl rfl (Nat.le_of_ble_eq_true rfl) ?_
        rintro _ _ ⟨rfl, rfl⟩
        refine ok_if_eq (tgt := 73) dX0_first_50 (by decide) (fun c10 => ?_) (fun c10 => ?_)
        · replace h := h.1 c10
          refine ok_iinc2 (w := 1) dX0_first_73 rfl (by decide) (by decide) rfl ?_
          refine ok_goto (tgt := 7) dX0_first_76 (by decide) ?_
          exact ok_mask [true, true, true, true, true, true, false] h
        · replace h := h.2 c10
          refine ok_iload dX0_first_53 rfl ?_
          refine ok_if_lt (tgt := 69) dX0_first_55 (by decide) (fun c11 => ?_) (fun c11 => ?_)
          · replace h := h.1 c11
            refine ok_iload dX0_first_69 rfl ?_
            refine ok_istore dX0_first_71 (by decide) rfl ?_
            refine ok_iinc2 (w := 1) dX0_first_73 rfl (by decide) (by decide) rfl ?_
            refine ok_goto (tgt := 7) dX0_first_76 (by decide) ?_
            exact ok_mask [true, true, true, true, true, true, false] h
          · replace h := h.2 c11
            refine ok_aload_n dX0_first_58 rfl rfl ?_
            refine ok_iload dX0_first_59 rfl ?_
            refine ok_iload dX0_first_61 rfl ?_
            obtain ⟨v12, M13, r14, h⟩ := h
            refine ok_callV2 dX0_first_63 kX0_first_93 r14 (by decide) rp_k139 rfl rfl (Nat.le_of_ble_eq_true rfl) ?_
            rintro _ _ ⟨rfl, rfl⟩
            refine ok_if_eq (tgt := 73) dX0_first_66 (by decide) (fun c15 => ?_) (fun c15 => ?_)
            · replace h := h.1 c15
              refine ok_iinc2 (w := 1) dX0_first_73 rfl (by decide) (by decide) rfl ?_
              refine ok_goto (tgt := 7) dX0_first_76 (by decide) ?_
              exact ok_mask [true, true, true, true, true, true, false] h
            · replace h := h.2 c15
              refine ok_iload dX0_first_69 rfl ?_
              refine ok_istore dX0_first_71 (by decide) rfl ?_
              refine ok_iinc2 (w := 1) dX0_first_73 rfl (by decide) (by decide) rfl ?_
              refine ok_goto (tgt := 7) dX0_first_76 (by decide) ?_
              exact ok_mask [true, true, true, true, true, true, false] h
theorem vX0_firstOfAll (E : rp_E) (post : Option Int32 → rp_M → Prop) (M : rp_M) (l1 : Int32) (h : ∃ v1 M2, rp_C E YX0_first [.ref 139, .int l1, .int 0, .int 0] M (some v1) M2 ∧ (post (some (if v1 < 0 then 0 else v1)) M2)) : rp_Run E YX0_firstOfAll [.ref 139, .int l1] M post := by
  refine ok_start (by decide) oX0_firstOfAll (Nat.le_of_ble_eq_true rfl) ?_
  refine ok_aload_n dX0_firstOfAll_0 rfl rfl ?_
  refine ok_iload_n dX0_firstOfAll_1 rfl rfl ?_
  refine ok_iconst (v := 0) dX0_firstOfAll_2 (by decide) ?_
  refine ok_iconst (v := 0) dX0_firstOfAll_3 (by decide) ?_
  obtain ⟨v1, M2, r3, h⟩ := h
  refine ok_callV2 dX0_firstOfAll_4 kX0_firstOfAll_96 r3 (by decide) rp_k139 rfl rfl (Nat.le_of_ble_eq_true rfl) ?_
  rintro _ _ ⟨rfl, rfl⟩
  refine ok_iconst (v := 0) dX0_firstOfAll_7 (by decide) ?_
  refine ok_mmax dX0_firstOfAll_8 kX0_firstOfAll_100 (by decide) ?_
  exact ok_ireturn dX0_firstOfAll_11 rfl h
theorem vX0_firstNear (E : rp_E) (post : Option Int32 → rp_M → Prop) (M : rp_M) (l1 : Int32) (l2 : Int32) (h : rp_G E YX0_firstNear post 5 [.ref 139, .int l1, .int l2, .int l1, .int 0, .null, .null, .null] [] M) : rp_Run E YX0_firstNear [.ref 139, .int l1, .int l2] M post := by
  refine ok_start (by decide) oX0_firstNear (Nat.le_of_ble_eq_true rfl) ?_
  refine ok_iload_n dX0_firstNear_0 rfl rfl ?_
  refine ok_istore_n dX0_firstNear_1 rfl (by decide) rfl ?_
  refine ok_iconst (v := 0) dX0_firstNear_2 (by decide) ?_
  refine ok_istore dX0_firstNear_3 (by decide) rfl ?_
  exact ok_mask [true, true, true, true, true, false, false, false] h
theorem vX0_firstNear_5 (E : rp_E) (post : Option Int32 → rp_M → Prop) (M : rp_M) (l1 : Int32) (l2 : Int32) (l3 : Int32) (l4 : Int32) (h : ((M 139 7) ≤ l4 → (post (some l3) M)) ∧ (¬ (M 139 7) ≤ l4 → (rp_G E YX0_firstNear post 18 [.ref 139, .int l1, .int l2, .int l3, .int l4, .int l4, .null, .null] [] M))) : rp_G E YX0_firstNear post 5 [.ref 139, .int l1, .int l2, .int l3, .int l4, .null, .null, .null] [] M := by
  refine ok_iload dX0_firstNear_5 rfl ?_
  refine ok_aload_n dX0_firstNear_7 rfl rfl ?_
  refine ok_getI dX0_firstNear_8 fX0_firstNear_33 (by decide) rp_k139 rfl ?_
  refine ok_icmp_ge (tgt := 109) dX0_firstNear_11 (by decide) (fun c1 => ?_) (fun c1 => ?_)
  · replace h := h.1 c1
    refine ok_iload_n dX0_firstNear_109 rfl rfl ?_
    exact ok_ireturn dX0_firstNear_110 rfl h
  · replace h := h.2 c1
    refine ok_iload dX0_firstNear_14 rfl ?_
    refine ok_istore dX0_firstNear_16 (by decide) rfl ?_
    exact ok_mask [true, true, true, true, true, true, false, false] h
theorem vX0_firstNear_18 (E : rp_E) (post : Option Int32 → rp_M → Prop) (M : rp_M) (l1 : Int32) (l2 : Int32) (l3 : Int32) (l4 : Int32) (l5 : Int32) (h : ((M 139 7) ≤ l5 → (rp_G E YX0_firstNear post 5 [.ref 139, .int l1, .int l2, .int l3, .int (l4 + 1), .null, .null, .null] [] M)) ∧ (¬ (M 139 7) ≤ l5 → ((¬ (((l1 >>> (l4 &&& 31) : Int32) ^^^ (l1 >>> (l5 &&& 31) : Int32)) &&& 1) = 1 → (rp_G E YX0_firstNear post 49 [.ref 139, .int l1, .int l2, .int l3, .int l4, .int l5, .int 0, .null] [] M)) ∧ ((((l1 >>> (l4 &&& 31) : Int32) ^^^ (l1 >>> (l5 &&& 31) : Int32)) &&& 1) = 1 → (rp_G E YX0_firstNear post 49 [.ref 139, .int l1, .int l2, .int l3, .int l4, .int l5, .int 1, .null] [] M))))) : rp_G E YX0_firstNear post 18 [.ref 139, .int l1, .int l2, .int l3, .int l4, .int l5, .null, .null] [] M := by
  refine ok_iload dX0_firstNear_18 rfl ?_
  refine ok_aload_n dX0_firstNear_20 rfl rfl ?_
  refine ok_getI dX0_firstNear_21 fX0_firstNear_33 (by decide) rp_k139 rfl ?_
  refine ok_icmp_ge (tgt := 103) dX0_firstNear_24 (by decide) (fun c2 => ?_) (fun c2 => ?_)
  · replace h := h.1 c2
    refine ok_iinc2 (w := 1) dX0_firstNear_103 rfl (by decide) (by decide) rfl ?_
    refine ok_goto (tgt := 5) dX0_firstNear_106 (by decide) ?_
    exact ok_mask [true, true, true, true, true, false, false, false] h
  · replace h := h.2 c2
    refine ok_iload_n dX0_firstNear_27 rfl rfl ?_
    refine ok_iload dX0_firstNear_28 rfl ?_
    refine ok_ishr dX0_firstNear_30 ?_
    refine ok_iload_n dX0_firstNear_31 rfl rfl ?_
    refine ok_iload dX0_firstNear_32 rfl ?_
    refine ok_ishr dX0_firstNear_34 ?_
    refine ok_ixor dX0_firstNear_35 ?_
    refine ok_iconst (v := 1) dX0_firstNear_36 (by decide) ?_
    refine ok_iand dX0_firstNear_37 ?_
    refine ok_iconst (v := 1) dX0_firstNear_38 (by decide) ?_
    refine ok_icmp_ne (tgt := 46) dX0_firstNear_39 (by decide) (fun c3 => ?_) (fun c3 => ?_)
    · replace h := h.1 c3
      refine ok_iconst (v := 0) dX0_firstNear_46 (by decide) ?_
      refine ok_istore dX0_firstNear_47 (by decide) rfl ?_
      exact ok_mask [true, true, true, true, true, true, true, false] h
    · replace h := h.2 c3
      refine ok_iconst (v := 1) dX0_firstNear_42 (by decide) ?_
      refine ok_goto (tgt := 47) dX0_firstNear_43 (by decide) ?_
      refine ok_istore dX0_firstNear_47 (by decide) rfl ?_
      exact ok_mask [true, true, true, true, true, true, true, false] h
theorem vX0_firstNear_49 (E : rp_E) (post : Option Int32 → rp_M → Prop) (M : rp_M) (l1 : Int32) (l2 : Int32) (l3 : Int32) (l4 : Int32) (l5 : Int32) (l6 : Int32) (h : (l4 = l5 → (∃ v5 M6, rp_C E YX0_stands [.ref 139, .int (l1 ^^^ (((1 : Int32) <<< (l4 &&& 31) : Int32) ||| ((1 : Int32) <<< (l5 &&& 31) : Int32))), .int l2] M (some v5) M6 ∧ ((v5 = 0 → (rp_G E YX0_firstNear post 18 [.ref 139, .int l1, .int l2, .int l3, .int l4, .int (l5 + 1), .null, .null] [] M6)) ∧ (¬ v5 = 0 → (∃ v9 M10, rp_C E YX0_isBefore [.ref 139, .int (l1 ^^^ (((1 : Int32) <<< (l4 &&& 31) : Int32) ||| ((1 : Int32) <<< (l5 &&& 31) : Int32))), .int l3] M6 (some v9) M10 ∧ ((v9 = 0 → (rp_G E YX0_firstNear post 18 [.ref 139, .int l1, .int l2, .int l3, .int l4, .int (l5 + 1), .null, .null] [] M10)) ∧ (¬ v9 = 0 → (rp_G E YX0_firstNear post 18 [.ref 139, .int l1, .int l2, .int (l1 ^^^ (((1 : Int32) <<< (l4 &&& 31) : Int32) ||| ((1 : Int32) <<< (l5 &&& 31) : Int32))), .int l4, .int (l5 + 1), .null, .null] [] M10)))))))) ∧ (¬ l4 = l5 → ((l6 = 0 → (rp_G E YX0_firstNear post 18 [.ref 139, .int l1, .int l2, .int l3, .int l4, .int (l5 + 1), .null, .null] [] M)) ∧ (¬ l6 = 0 → (∃ v14 M15, rp_C E YX0_stands [.ref 139, .int (l1 ^^^ (((1 : Int32) <<< (l4 &&& 31) : Int32) ||| ((1 : Int32) <<< (l5 &&& 31) : Int32))), .int l2] M (some v14) M15 ∧ ((v14 = 0 → (rp_G E YX0_firstNear post 18 [.ref 139, .int l1, .int l2, .int l3, .int l4, .int (l5 + 1), .null, .null] [] M15)) ∧ (¬ v14 = 0 → (∃ v18 M19, rp_C E YX0_isBefore [.ref 139, .int (l1 ^^^ (((1 : Int32) <<< (l4 &&& 31) : Int32) ||| ((1 : Int32) <<< (l5 &&& 31) : Int32))), .int l3] M15 (some v18) M19 ∧ ((v18 = 0 → (rp_G E YX0_firstNear post 18 [.ref 139, .int l1, .int l2, .int l3, .int l4, .int (l5 + 1), .null, .null] [] M19)) ∧ (¬ v18 = 0 → (rp_G E YX0_firstNear post 18 [.ref 139, .int l1, .int l2, .int (l1 ^^^ (((1 : Int32) <<< (l4 &&& 31) : Int32) ||| ((1 : Int32) <<< (l5 &&& 31) : Int32))), .int l4, .int (l5 + 1), .null, .null] [] M19))))))))))) : rp_G E YX0_firstNear post 49 [.ref 139, .int l1, .int l2, .int l3, .int l4, .int l5, .int l6, .null] [] M := by
  refine ok_iload_n dX0_firstNear_49 rfl rfl ?_
  refine ok_iconst (v := 1) dX0_firstNear_50 (by decide) ?_
  refine ok_iload dX0_firstNear_51 rfl ?_
  refine ok_ishl dX0_firstNear_53 ?_
  refine ok_iconst (v := 1) dX0_firstNear_54 (by decide) ?_
  refine ok_iload dX0_firstNear_55 rfl ?_
  refine ok_ishl dX0_firstNear_57 ?_
  refine ok_ior dX0_firstNear_58 ?_
  refine ok_ixor dX0_firstNear_59 ?_
  refine ok_istore dX0_firstNear_60 (by decide) rfl ?_
  refine ok_iload dX0_firstNear_62 rfl ?_
  refine ok_iload dX0_firstNear_64 rfl ?_
  refine ok_icmp_eq (tgt := 74) dX0_firstNear_66 (by decide) (fun c4 => ?_) (fun c4 => ?_)
  · replace h := h.1 c4
    refine ok_aload_n dX0_firstNear_74 rfl rfl ?_
    refine ok_iload dX0_firstNear_75 rfl ?_
    refine ok_iload_n dX0_firstNear_77 rfl rfl ?_
    obtain ⟨v5, M6, r7, h⟩ := h
    refine ok_callV2 dX0_firstNear_78 kX0_firstNear_89 r7 (by decide) rp_k139 rfl rfl (Nat.le_of_ble_eq_true rfl) ?_
    rintro _ _ ⟨rfl, rfl⟩
    refine ok_if_eq (tgt := 97) dX0_firstNear_81 (by decide) (fun c8 => ?_) (fun c8 => ?_)
    · replace h := h.1 c8
      refine ok_iinc2 (w := 1) dX0_firstNear_97 rfl (by decide) (by decide) rfl ?_
      refine ok_goto (tgt := 18) dX0_firstNear_100 (by decide) ?_
      exact ok_mask [true, true, true, true, true, true, false, false] h
    · replace h := h.2 c8
      refine ok_aload_n dX0_firstNear_84 rfl rfl ?_
      refine ok_iload dX0_firstNear_85 rfl ?_
      refine ok_iload_n dX0_firstNear_87 rfl rfl ?_
      obtain ⟨v9, M10, r11, h⟩ := h
      refine ok_callV2 dX0_firstNear_88 kX0_firstNear_93 r11 (by decide) rp_k139 rfl rfl (Nat.le_of_ble_eq_true rfl) ?_
      rintro _ _ ⟨rfl, rfl⟩
      refine ok_if_eq (tgt := 97) dX0_firstNear_91 (by decide) (fun c12 => ?_) (fun c12 => ?_)
      · replace h := h.1 c12
        refine ok_iinc2 (w := 1) dX0_firstNear_97 rfl (by decide) (by decide) rfl ?_
        refine ok_goto (tgt := 18) dX0_firstNear_100 (by decide) ?_
        exact ok_mask [true, true, true, true, true, true, false, false] h
      · replace h := h.2 c12
        refine ok_iload dX0_firstNear_94 rfl ?_
        refine ok_istore_n dX0_firstNear_96 rfl (by decide) rfl ?_
        refine ok_iinc2 (w := 1) dX0_firstNear_97 rfl (by decide) (by decide) rfl ?_
        refine ok_goto (tgt := 18) dX0_firstNear_100 (by decide) ?_
        exact ok_mask [true, true, true, true, true, true, false, false] h
  · replace h := h.2 c4
    refine ok_iload dX0_firstNear_69 rfl ?_
    refine ok_if_eq (tgt := 97) dX0_firstNear_71 (by decide) (fun c13 => ?_) (fun c13 => ?_)
    · replace h := h.1 c13
      refine ok_iinc2 (w := 1) dX0_firstNear_97 rfl (by decide) (by decide) rfl ?_
      refine ok_goto (tgt := 18) dX0_firstNear_100 (by decide) ?_
      exact ok_mask [true, true, true, true, true, true, false, false] h
    · replace h := h.2 c13
      refine ok_aload_n dX0_firstNear_74 rfl rfl ?_
      refine ok_iload dX0_firstNear_75 rfl ?_
      refine ok_iload_n dX0_firstNear_77 rfl rfl ?_
      obtain ⟨v14, M15, r16, h⟩ := h
      refine ok_callV2 dX0_firstNear_78 kX0_firstNear_89 r16 (by decide) rp_k139 rfl rfl (Nat.le_of_ble_eq_true rfl) ?_
      rintro _ _ ⟨rfl, rfl⟩
      refine ok_if_eq (tgt := 97) dX0_firstNear_81 (by decide) (fun c17 => ?_) (fun c17 => ?_)
      · replace h := h.1 c17
        refine ok_iinc2 (w := 1) dX0_firstNear_97 rfl (by decide) (by decide) rfl ?_
        refine ok_goto (tgt := 18) dX0_firstNear_100 (by decide) ?_
        exact ok_mask [true, true, true, true, true, true, false, false] h
      · replace h := h.2 c17
        refine ok_aload_n dX0_firstNear_84 rfl rfl ?_
        refine ok_iload dX0_firstNear_85 rfl ?_
        refine ok_iload_n dX0_firstNear_87 rfl rfl ?_
        obtain ⟨v18, M19, r20, h⟩ := h
        refine ok_callV2 dX0_firstNear_88 kX0_firstNear_93 r20 (by decide) rp_k139 rfl rfl (Nat.le_of_ble_eq_true rfl) ?_
        rintro _ _ ⟨rfl, rfl⟩
        refine ok_if_eq (tgt := 97) dX0_firstNear_91 (by decide) (fun c21 => ?_) (fun c21 => ?_)
        · replace h := h.1 c21
          refine ok_iinc2 (w := 1) dX0_firstNear_97 rfl (by decide) (by decide) rfl ?_
          refine ok_goto (tgt := 18) dX0_firstNear_100 (by decide) ?_
          exact ok_mask [true, true, true, true, true, true, false, false] h
        · replace h := h.2 c21
          refine ok_iload dX0_firstNear_94 rfl ?_
          refine ok_istore_n dX0_firstNear_96 rfl (by decide) rfl ?_
          refine ok_iinc2 (w := 1) dX0_firstNear_97 rfl (by decide) (by decide) rfl ?_
          refine ok_goto (tgt := 18) dX0_firstNear_100 (by decide) ?_
          exact ok_mask [true, true, true, true, true, true, false, false] h
theorem vX0_fitting (E : rp_E) (post : Option Int32 → rp_M → Prop) (M : rp_M) (l1 : Int32) (h : rp_G E YX0_fitting post 4 [.ref 139, .int l1, .int 0, .int 0] [] M) : rp_Run E YX0_fitting [.ref 139, .int l1] M post := by
  refine ok_start (by decide) oX0_fitting (Nat.le_of_ble_eq_true rfl) ?_
  refine ok_iconst (v := 0) dX0_fitting_0 (by decide) ?_
  refine ok_istore_n dX0_fitting_1 rfl (by decide) rfl ?_
  refine ok_iconst (v := 0) dX0_fitting_2 (by decide) ?_
  refine ok_istore_n dX0_fitting_3 rfl (by decide) rfl ?_
  exact ok_mask [true, true, true, true] h
theorem vX0_fitting_4 (E : rp_E) (post : Option Int32 → rp_M → Prop) (M : rp_M) (l1 : Int32) (l2 : Int32) (l3 : Int32) (h : ((M 139 8) ≤ l3 → (post (some l2) M)) ∧ (¬ (M 139 8) ≤ l3 → (∃ v2 M3, rp_C E YX0_stands [.ref 139, .int l3, .int l1] M (some v2) M3 ∧ ((v2 = 0 → (rp_G E YX0_fitting post 4 [.ref 139, .int l1, .int l2, .int (l3 + 1)] [] M3)) ∧ (¬ v2 = 0 → (rp_G E YX0_fitting post 4 [.ref 139, .int l1, .int (l2 + 1), .int (l3 + 1)] [] M3)))))) : rp_G E YX0_fitting post 4 [.ref 139, .int l1, .int l2, .int l3] [] M := by
  refine ok_iload_n dX0_fitting_4 rfl rfl ?_
  refine ok_aload_n dX0_fitting_5 rfl rfl ?_
  refine ok_getI dX0_fitting_6 fX0_fitting_37 (by decide) rp_k139 rfl ?_
  refine ok_icmp_ge (tgt := 30) dX0_fitting_9 (by decide) (fun c1 => ?_) (fun c1 => ?_)
  · replace h := h.1 c1
    refine ok_iload_n dX0_fitting_30 rfl rfl ?_
    exact ok_ireturn dX0_fitting_31 rfl h
  · replace h := h.2 c1
    refine ok_aload_n dX0_fitting_12 rfl rfl ?_
    refine ok_iload_n dX0_fitting_13 rfl rfl ?_
    refine ok_iload_n dX0_fitting_14 rfl rfl ?_
    obtain ⟨v2, M3, r4, h⟩ := h
    refine ok_callV2 dX0_fitting_15 kX0_fitting_89 r4 (by decide) rp_k139 rfl rfl (Nat.le_of_ble_eq_true rfl) ?_
    rintro _ _ ⟨rfl, rfl⟩
    refine ok_if_eq (tgt := 24) dX0_fitting_18 (by decide) (fun c5 => ?_) (fun c5 => ?_)
    · replace h := h.1 c5
      refine ok_iinc2 (w := 1) dX0_fitting_24 rfl (by decide) (by decide) rfl ?_
      refine ok_goto (tgt := 4) dX0_fitting_27 (by decide) ?_
      exact ok_mask [true, true, true, true] h
    · replace h := h.2 c5
      refine ok_iinc2 (w := 1) dX0_fitting_21 rfl (by decide) (by decide) rfl ?_
      refine ok_iinc2 (w := 1) dX0_fitting_24 rfl (by decide) (by decide) rfl ?_
      refine ok_goto (tgt := 4) dX0_fitting_27 (by decide) ?_
      exact ok_mask [true, true, true, true] h
theorem vX0_shiftedProfit (E : rp_E) (post : Option Int32 → rp_M → Prop) (M : rp_M) (l1 : Int32) (h : (0 ≤ l1 → (vp_in l1 4096 ∧ (post (some ((M 141 (Int32.toNatClampNeg l1)) + 100000)) M))) ∧ (¬ 0 ≤ l1 → (post (some (-6)) M))) : rp_Run E YX0_shiftedProfit [.ref 139, .int l1] M post := by
  refine ok_start (by decide) oX0_shiftedProfit (Nat.le_of_ble_eq_true rfl) ?_
  refine ok_iload_n dX0_shiftedProfit_0 rfl rfl ?_
  refine ok_if_ge (tgt := 9) dX0_shiftedProfit_1 (by decide) (fun c1 => ?_) (fun c1 => ?_)
  · replace h := h.1 c1
    refine ok_aload_n dX0_shiftedProfit_9 rfl rfl ?_
    refine ok_getR (j := 141) dX0_shiftedProfit_10 fX0_shiftedProfit_15 (by decide) rp_k139 rfl (by decide) ?_
    refine ok_iload_n dX0_shiftedProfit_13 rfl rfl ?_
    have b2 := h.1
    replace h := h.2
    refine ok_iaload dX0_shiftedProfit_14 (by decide) rp_k141 b2 rfl ?_
    refine ok_ldc fX0_shiftedProfit_106 dX0_shiftedProfit_15 ?_
    refine ok_iadd dX0_shiftedProfit_17 ?_
    exact ok_ireturn dX0_shiftedProfit_18 rfl h
  · replace h := h.2 c1
    refine ok_bipush (v := (-6)) dX0_shiftedProfit_4 (by decide) ?_
    refine ok_goto (tgt := 18) dX0_shiftedProfit_6 (by decide) ?_
    exact ok_ireturn dX0_shiftedProfit_18 rfl h
