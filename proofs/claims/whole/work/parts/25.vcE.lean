theorem vX5_amongBest (E : rp_E) (post : Option Int32 → rp_M → Prop) (M : rp_M) (l1 : Int32) (l2 : Int32) (h : rp_G E YX5_amongBest post 22 [.ref 154, .int l1, .int l2, .int ((M 139 8) - 1), .int 0, .int ((M 139 8) - 1), .int 0, .int 0] [] M) : rp_Run E YX5_amongBest [.ref 154, .int l1, .int l2] M post := by
  refine ok_start (by decide) oX5_amongBest (Nat.le_of_ble_eq_true rfl) ?_
  refine ok_aload_n dX5_amongBest_0 rfl rfl ?_
  refine ok_getR (j := 139) dX5_amongBest_1 fX5_amongBest_37 (by decide) rp_k154 rfl (by decide) ?_
  refine ok_getI dX5_amongBest_4 fX5_amongBest_195 (by decide) rp_k139 rfl ?_
  refine ok_iconst (v := 1) dX5_amongBest_7 (by decide) ?_
  refine ok_isub dX5_amongBest_8 ?_
  refine ok_istore_n dX5_amongBest_9 rfl (by decide) rfl ?_
  refine ok_iconst (v := 0) dX5_amongBest_10 (by decide) ?_
  refine ok_istore dX5_amongBest_11 (by decide) rfl ?_
  refine ok_iload_n dX5_amongBest_13 rfl rfl ?_
  refine ok_istore dX5_amongBest_14 (by decide) rfl ?_
  refine ok_iconst (v := 0) dX5_amongBest_16 (by decide) ?_
  refine ok_istore dX5_amongBest_17 (by decide) rfl ?_
  refine ok_iconst (v := 0) dX5_amongBest_19 (by decide) ?_
  refine ok_istore dX5_amongBest_20 (by decide) rfl ?_
  exact ok_mask [true, true, true, true, true, true, true, true] h
theorem vX5_amongBest_22 (E : rp_E) (post : Option Int32 → rp_M → Prop) (M : rp_M) (l1 : Int32) (l2 : Int32) (l3 : Int32) (l4 : Int32) (l5 : Int32) (l6 : Int32) (l7 : Int32) (h : ((M 139 8) ≤ l7 → ((¬ l2 = 3 → ((¬ l2 = 4 → (post (some (l3 &&& (l6 ^^^ (-1)))) M)) ∧ (l2 = 4 → (post (some l5) M)))) ∧ (l2 = 3 → (post (some l4) M)))) ∧ (¬ (M 139 8) ≤ l7 → (vp_in l7 4096 ∧ (vp_in l1 4096 ∧ ((¬ (M 141 (Int32.toNatClampNeg l7)) = (M 141 (Int32.toNatClampNeg l1)) → (rp_G E YX5_amongBest post 22 [.ref 154, .int l1, .int l2, .int l3, .int l4, .int l5, .int l6, .int (l7 + 1)] [] M)) ∧ ((M 141 (Int32.toNatClampNeg l7)) = (M 141 (Int32.toNatClampNeg l1)) → (∃ v7 M8, rp_C E YX5_capacity [.ref 154] M (some v7) M8 ∧ (∃ v10 M11, rp_C E YX0_stands [.ref 139, .int l7, .int v7] M8 (some v10) M11 ∧ ((v10 = 0 → (rp_G E YX5_amongBest post 22 [.ref 154, .int l1, .int l2, .int l3, .int l4, .int l5, .int l6, .int (l7 + 1)] [] M11)) ∧ (¬ v10 = 0 → (rp_G E YX5_amongBest post 22 [.ref 154, .int l1, .int l2, .int l3, .int (l4 + 1), .int (l5 &&& l7), .int (l6 ||| l7), .int (l7 + 1)] [] M11))))))))))) : rp_G E YX5_amongBest post 22 [.ref 154, .int l1, .int l2, .int l3, .int l4, .int l5, .int l6, .int l7] [] M := by
  refine ok_iload dX5_amongBest_22 rfl ?_
  refine ok_aload_n dX5_amongBest_24 rfl rfl ?_
  refine ok_getR (j := 139) dX5_amongBest_25 fX5_amongBest_37 (by decide) rp_k154 rfl (by decide) ?_
  refine ok_getI dX5_amongBest_28 fX5_amongBest_195 (by decide) rp_k139 rfl ?_
  refine ok_icmp_ge (tgt := 95) dX5_amongBest_31 (by decide) (fun c1 => ?_) (fun c1 => ?_)
  · replace h := h.1 c1
    refine ok_iload_n dX5_amongBest_95 rfl rfl ?_
    refine ok_iconst (v := 3) dX5_amongBest_96 (by decide) ?_
    refine ok_icmp_ne (tgt := 103) dX5_amongBest_97 (by decide) (fun c2 => ?_) (fun c2 => ?_)
    · replace h := h.1 c2
      refine ok_iload_n dX5_amongBest_103 rfl rfl ?_
      refine ok_iconst (v := 4) dX5_amongBest_104 (by decide) ?_
      refine ok_icmp_ne (tgt := 113) dX5_amongBest_105 (by decide) (fun c3 => ?_) (fun c3 => ?_)
      · replace h := h.1 c3
        refine ok_iload_n dX5_amongBest_113 rfl rfl ?_
        refine ok_iload dX5_amongBest_114 rfl ?_
        refine ok_iconst (v := (-1)) dX5_amongBest_116 (by decide) ?_
        refine ok_ixor dX5_amongBest_117 ?_
        refine ok_iand dX5_amongBest_118 ?_
        exact ok_ireturn dX5_amongBest_119 rfl h
      · replace h := h.2 c3
        refine ok_iload dX5_amongBest_108 rfl ?_
        refine ok_goto (tgt := 119) dX5_amongBest_110 (by decide) ?_
        exact ok_ireturn dX5_amongBest_119 rfl h
    · replace h := h.2 c2
      refine ok_iload dX5_amongBest_100 rfl ?_
      exact ok_ireturn dX5_amongBest_102 rfl h
  · replace h := h.2 c1
    refine ok_aload_n dX5_amongBest_34 rfl rfl ?_
    refine ok_getR (j := 139) dX5_amongBest_35 fX5_amongBest_37 (by decide) rp_k154 rfl (by decide) ?_
    refine ok_getR (j := 141) dX5_amongBest_38 fX5_amongBest_198 (by decide) rp_k139 rfl (by decide) ?_
    refine ok_iload dX5_amongBest_41 rfl ?_
    have b4 := h.1
    replace h := h.2
    refine ok_iaload dX5_amongBest_43 (by decide) rp_k141 b4 rfl ?_
    refine ok_aload_n dX5_amongBest_44 rfl rfl ?_
    refine ok_getR (j := 139) dX5_amongBest_45 fX5_amongBest_37 (by decide) rp_k154 rfl (by decide) ?_
    refine ok_getR (j := 141) dX5_amongBest_48 fX5_amongBest_198 (by decide) rp_k139 rfl (by decide) ?_
    refine ok_iload_n dX5_amongBest_51 rfl rfl ?_
    have b5 := h.1
    replace h := h.2
    refine ok_iaload dX5_amongBest_52 (by decide) rp_k141 b5 rfl ?_
    refine ok_icmp_ne (tgt := 89) dX5_amongBest_53 (by decide) (fun c6 => ?_) (fun c6 => ?_)
    · replace h := h.1 c6
      refine ok_iinc2 (w := 1) dX5_amongBest_89 rfl (by decide) (by decide) rfl ?_
      refine ok_goto (tgt := 22) dX5_amongBest_92 (by decide) ?_
      exact ok_mask [true, true, true, true, true, true, true, true] h
    · replace h := h.2 c6
      refine ok_aload_n dX5_amongBest_56 rfl rfl ?_
      refine ok_getR (j := 139) dX5_amongBest_57 fX5_amongBest_37 (by decide) rp_k154 rfl (by decide) ?_
      refine ok_iload dX5_amongBest_60 rfl ?_
      refine ok_aload_n dX5_amongBest_62 rfl rfl ?_
      obtain ⟨v7, M8, r9, h⟩ := h
      refine ok_callV2 dX5_amongBest_63 kX5_amongBest_153 r9 (by decide) rp_k154 rfl rfl (Nat.le_of_ble_eq_true rfl) ?_
      rintro _ _ ⟨rfl, rfl⟩
      obtain ⟨v10, M11, r12, h⟩ := h
      refine ok_callV2 dX5_amongBest_66 kX5_amongBest_208 r12 (by decide) rp_k139 rfl rfl (Nat.le_of_ble_eq_true rfl) ?_
      rintro _ _ ⟨rfl, rfl⟩
      refine ok_if_eq (tgt := 89) dX5_amongBest_69 (by decide) (fun c13 => ?_) (fun c13 => ?_)
      · replace h := h.1 c13
        refine ok_iinc2 (w := 1) dX5_amongBest_89 rfl (by decide) (by decide) rfl ?_
        refine ok_goto (tgt := 22) dX5_amongBest_92 (by decide) ?_
        exact ok_mask [true, true, true, true, true, true, true, true] h
      · replace h := h.2 c13
        refine ok_iinc2 (w := 1) dX5_amongBest_72 rfl (by decide) (by decide) rfl ?_
        refine ok_iload dX5_amongBest_75 rfl ?_
        refine ok_iload dX5_amongBest_77 rfl ?_
        refine ok_iand dX5_amongBest_79 ?_
        refine ok_istore dX5_amongBest_80 (by decide) rfl ?_
        refine ok_iload dX5_amongBest_82 rfl ?_
        refine ok_iload dX5_amongBest_84 rfl ?_
        refine ok_ior dX5_amongBest_86 ?_
        refine ok_istore dX5_amongBest_87 (by decide) rfl ?_
        refine ok_iinc2 (w := 1) dX5_amongBest_89 rfl (by decide) (by decide) rfl ?_
        refine ok_goto (tgt := 22) dX5_amongBest_92 (by decide) ?_
        exact ok_mask [true, true, true, true, true, true, true, true] h
theorem vX5_best (E : rp_E) (post : Option Int32 → rp_M → Prop) (M : rp_M) (l1 : Int32) (h : (l1 < 0 → (post (some (-2)) M)) ∧ (¬ l1 < 0 → ((l1 ≤ 6 → (∃ P5 : rp_M → Prop, rp_Run E YX5_prepare [.ref 154] M (rp_P0 P5) ∧ (∀ M3, P5 M3 → (∃ v7 M8, rp_C E YX5_capacity [.ref 154] M3 (some v7) M8 ∧ (∃ v10 M11, rp_C E YX0_firstOfAll [.ref 139, .int v7] M8 (some v10) M11 ∧ ((l1 = 0 → (post (some v10) M11)) ∧ (l1 = 1 → (∃ v13 M14, rp_C E YX0_shiftedProfit [.ref 139, .int v10] M11 (some v13) M14 ∧ (post (some v13) M14))) ∧ (l1 = 2 → (vp_in v10 4096 ∧ (post (some (M11 140 (Int32.toNatClampNeg v10))) M11))) ∧ (l1 = 3 → (∃ v17 M18, rp_C E YX5_amongBest [.ref 154, .int v10, .int l1] M11 (some v17) M18 ∧ (post (some v17) M18))) ∧ (l1 = 4 → (∃ v20 M21, rp_C E YX5_amongBest [.ref 154, .int v10, .int l1] M11 (some v20) M21 ∧ (post (some v20) M21))) ∧ (l1 = 5 → (∃ v23 M24, rp_C E YX5_amongBest [.ref 154, .int v10, .int l1] M11 (some v23) M24 ∧ (post (some v23) M24))) ∧ (l1 = 6 → (∃ v26 M27, rp_C E YX5_capacity [.ref 154] M11 (some v26) M27 ∧ (∃ v29 M30, rp_C E YX0_fitting [.ref 139, .int v26] M27 (some v29) M30 ∧ (post (some v29) M30)))) ∧ (¬ l1 = 0 → ¬ l1 = 1 → ¬ l1 = 2 → ¬ l1 = 3 → ¬ l1 = 4 → ¬ l1 = 5 → ¬ l1 = 6 → (∃ v32 M33, rp_C E YX5_amongBest [.ref 154, .int v10, .int l1] M11 (some v32) M33 ∧ (post (some v32) M33))))))))) ∧ (¬ l1 ≤ 6 → (post (some (-2)) M))))) : rp_Run E YX5_best [.ref 154, .int l1] M post := by
  refine ok_start (by decide) oX5_best (Nat.le_of_ble_eq_true rfl) ?_
  refine ok_iload_n dX5_best_0 rfl rfl ?_
  refine ok_if_lt (tgt := 10) dX5_best_1 (by decide) (fun c1 => ?_) (fun c1 => ?_)
  · replace h := h.1 c1
    refine ok_bipush (v := (-2)) dX5_best_10 (by decide) ?_
    exact ok_ireturn dX5_best_12 rfl h
  · replace h := h.2 c1
    refine ok_iload_n dX5_best_4 rfl rfl ?_
    refine ok_bipush (v := 6) dX5_best_5 (by decide) ?_
    refine ok_icmp_le (tgt := 13) dX5_best_7 (by decide) (fun c2 => ?_) (fun c2 => ?_)
    · replace h := h.1 c2
      refine ok_aload_n dX5_best_13 rfl rfl ?_
      obtain ⟨P5, r4, h⟩ := h
      refine ok_callV2 dX5_best_14 kX5_best_147 r4 (by decide) rp_k154 rfl rfl (Nat.le_of_ble_eq_true rfl) ?_
      rintro _ M3 ⟨rfl, q6⟩
      replace h := h M3 q6
      refine ok_aload_n dX5_best_17 rfl rfl ?_
      refine ok_getR (j := 139) dX5_best_18 fX5_best_37 (by decide) rp_k154 rfl (by decide) ?_
      refine ok_aload_n dX5_best_21 rfl rfl ?_
      obtain ⟨v7, M8, r9, h⟩ := h
      refine ok_callV2 dX5_best_22 kX5_best_153 r9 (by decide) rp_k154 rfl rfl (Nat.le_of_ble_eq_true rfl) ?_
      rintro _ _ ⟨rfl, rfl⟩
      obtain ⟨v10, M11, r12, h⟩ := h
      refine ok_callV2 dX5_best_25 kX5_best_169 r12 (by decide) rp_k139 rfl rfl (Nat.le_of_ble_eq_true rfl) ?_
      rintro _ _ ⟨rfl, rfl⟩
      refine ok_istore_n dX5_best_28 rfl (by decide) rfl ?_
      refine ok_iload_n dX5_best_29 rfl rfl ?_
      by_cases c30_0 : l1 = 0
      · replace h := h.1 c30_0
        refine ok_tabIn (k := 0) (tgt := 72) dX5_best_30 (by rw [c30_0]; decide) (by decide) (by rfl) (by decide) ?_
        refine ok_iload_n dX5_best_72 rfl rfl ?_
        exact ok_ireturn dX5_best_73 rfl h
      replace h := h.2
      by_cases c30_1 : l1 = 1
      · replace h := h.1 c30_1
        refine ok_tabIn (k := 1) (tgt := 74) dX5_best_30 (by rw [c30_1]; decide) (by decide) (by rfl) (by decide) ?_
        refine ok_aload_n dX5_best_74 rfl rfl ?_
        refine ok_getR (j := 139) dX5_best_75 fX5_best_37 (by decide) rp_k154 rfl (by decide) ?_
        refine ok_iload_n dX5_best_78 rfl rfl ?_
        obtain ⟨v13, M14, r15, h⟩ := h
        refine ok_callV2 dX5_best_79 kX5_best_172 r15 (by decide) rp_k139 rfl rfl (Nat.le_of_ble_eq_true rfl) ?_
        rintro _ _ ⟨rfl, rfl⟩
        exact ok_ireturn dX5_best_82 rfl h
      replace h := h.2
      by_cases c30_2 : l1 = 2
      · replace h := h.1 c30_2
        refine ok_tabIn (k := 2) (tgt := 83) dX5_best_30 (by rw [c30_2]; decide) (by decide) (by rfl) (by decide) ?_
        refine ok_aload_n dX5_best_83 rfl rfl ?_
        refine ok_getR (j := 139) dX5_best_84 fX5_best_37 (by decide) rp_k154 rfl (by decide) ?_
        refine ok_getR (j := 140) dX5_best_87 fX5_best_175 (by decide) rp_k139 rfl (by decide) ?_
        refine ok_iload_n dX5_best_90 rfl rfl ?_
        have b16 := h.1
        replace h := h.2
        refine ok_iaload dX5_best_91 (by decide) rp_k140 b16 rfl ?_
        exact ok_ireturn dX5_best_92 rfl h
      replace h := h.2
      by_cases c30_3 : l1 = 3
      · replace h := h.1 c30_3
        refine ok_tabIn (k := 3) (tgt := 105) dX5_best_30 (by rw [c30_3]; decide) (by decide) (by rfl) (by decide) ?_
        refine ok_aload_n dX5_best_105 rfl rfl ?_
        refine ok_iload_n dX5_best_106 rfl rfl ?_
        refine ok_iload_n dX5_best_107 rfl rfl ?_
        obtain ⟨v17, M18, r19, h⟩ := h
        refine ok_callV2 dX5_best_108 kX5_best_181 r19 (by decide) rp_k154 rfl rfl (Nat.le_of_ble_eq_true rfl) ?_
        rintro _ _ ⟨rfl, rfl⟩
        exact ok_ireturn dX5_best_111 rfl h
      replace h := h.2
      by_cases c30_4 : l1 = 4
      · replace h := h.1 c30_4
        refine ok_tabIn (k := 4) (tgt := 105) dX5_best_30 (by rw [c30_4]; decide) (by decide) (by rfl) (by decide) ?_
        refine ok_aload_n dX5_best_105 rfl rfl ?_
        refine ok_iload_n dX5_best_106 rfl rfl ?_
        refine ok_iload_n dX5_best_107 rfl rfl ?_
        obtain ⟨v20, M21, r22, h⟩ := h
        refine ok_callV2 dX5_best_108 kX5_best_181 r22 (by decide) rp_k154 rfl rfl (Nat.le_of_ble_eq_true rfl) ?_
        rintro _ _ ⟨rfl, rfl⟩
        exact ok_ireturn dX5_best_111 rfl h
      replace h := h.2
      by_cases c30_5 : l1 = 5
      · replace h := h.1 c30_5
        refine ok_tabIn (k := 5) (tgt := 105) dX5_best_30 (by rw [c30_5]; decide) (by decide) (by rfl) (by decide) ?_
        refine ok_aload_n dX5_best_105 rfl rfl ?_
        refine ok_iload_n dX5_best_106 rfl rfl ?_
        refine ok_iload_n dX5_best_107 rfl rfl ?_
        obtain ⟨v23, M24, r25, h⟩ := h
        refine ok_callV2 dX5_best_108 kX5_best_181 r25 (by decide) rp_k154 rfl rfl (Nat.le_of_ble_eq_true rfl) ?_
        rintro _ _ ⟨rfl, rfl⟩
        exact ok_ireturn dX5_best_111 rfl h
      replace h := h.2
      by_cases c30_6 : l1 = 6
      · replace h := h.1 c30_6
        refine ok_tabIn (k := 6) (tgt := 93) dX5_best_30 (by rw [c30_6]; decide) (by decide) (by rfl) (by decide) ?_
        refine ok_aload_n dX5_best_93 rfl rfl ?_
        refine ok_getR (j := 139) dX5_best_94 fX5_best_37 (by decide) rp_k154 rfl (by decide) ?_
        refine ok_aload_n dX5_best_97 rfl rfl ?_
        obtain ⟨v26, M27, r28, h⟩ := h
        refine ok_callV2 dX5_best_98 kX5_best_153 r28 (by decide) rp_k154 rfl rfl (Nat.le_of_ble_eq_true rfl) ?_
        rintro _ _ ⟨rfl, rfl⟩
        obtain ⟨v29, M30, r31, h⟩ := h
        refine ok_callV2 dX5_best_101 kX5_best_178 r31 (by decide) rp_k139 rfl rfl (Nat.le_of_ble_eq_true rfl) ?_
        rintro _ _ ⟨rfl, rfl⟩
        exact ok_ireturn dX5_best_104 rfl h
      replace h := h.2
      replace h := h c30_0 c30_1 c30_2 c30_3 c30_4 c30_5 c30_6
      refine ok_tabOut (tgt := 105) dX5_best_30 (by have q := rp_tab_out (x := l1) 7 (by decide) (fun j hj => match j, hj with | 0, _ => c30_0 | 1, _ => c30_1 | 2, _ => c30_2 | 3, _ => c30_3 | 4, _ => c30_4 | 5, _ => c30_5 | 6, _ => c30_6 | j + 7, hj => absurd hj (by omega)); omega) (by decide) ?_
      refine ok_aload_n dX5_best_105 rfl rfl ?_
      refine ok_iload_n dX5_best_106 rfl rfl ?_
      refine ok_iload_n dX5_best_107 rfl rfl ?_
      obtain ⟨v32, M33, r34, h⟩ := h
      refine ok_callV2 dX5_best_108 kX5_best_181 r34 (by decide) rp_k154 rfl rfl (Nat.le_of_ble_eq_true rfl) ?_
      rintro _ _ ⟨rfl, rfl⟩
      exact ok_ireturn dX5_best_111 rfl h
    · replace h := h.2 c2
      refine ok_bipush (v := (-2)) dX5_best_10 (by decide) ?_
      exact ok_ireturn dX5_best_12 rfl h
theorem vX5_isBudget (E : rp_E) (post : Option Int32 → rp_M → Prop) (M : rp_M) (l0 : Int32) (h : (l0 < 0 → (post (some 0) M)) ∧ (¬ l0 < 0 → ((12 < l0 → (post (some 0) M)) ∧ (¬ 12 < l0 → (post (some 1) M))))) : rp_Run E YX5_isBudget [.int l0] M post := by
  refine ok_start (by decide) oX5_isBudget (Nat.le_of_ble_eq_true rfl) ?_
  refine ok_iload_n dX5_isBudget_0 rfl rfl ?_
  refine ok_if_lt (tgt := 14) dX5_isBudget_1 (by decide) (fun c1 => ?_) (fun c1 => ?_)
  · replace h := h.1 c1
    refine ok_iconst (v := 0) dX5_isBudget_14 (by decide) ?_
    exact ok_zreturn dX5_isBudget_15 rfl (by decide) h
  · replace h := h.2 c1
    refine ok_iload_n dX5_isBudget_4 rfl rfl ?_
    refine ok_bipush (v := 12) dX5_isBudget_5 (by decide) ?_
    refine ok_icmp_gt (tgt := 14) dX5_isBudget_7 (by decide) (fun c2 => ?_) (fun c2 => ?_)
    · replace h := h.1 c2
      refine ok_iconst (v := 0) dX5_isBudget_14 (by decide) ?_
      exact ok_zreturn dX5_isBudget_15 rfl (by decide) h
    · replace h := h.2 c2
      refine ok_iconst (v := 1) dX5_isBudget_10 (by decide) ?_
      refine ok_goto (tgt := 15) dX5_isBudget_11 (by decide) ?_
      exact ok_zreturn dX5_isBudget_15 rfl (by decide) h
theorem vX5_bestWith (E : rp_E) (post : Option Int32 → rp_M → Prop) (M : rp_M) (l1 : Int32) (l2 : Int32) (l3 : Int32) (h : (l1 < 0 → (post (some (-2)) M)) ∧ (¬ l1 < 0 → ((9999 < l1 → (post (some (-2)) M)) ∧ (¬ 9999 < l1 → (∃ v3 M4, rp_C E YX5_isBudget [.int l2] M (some v3) M4 ∧ ((v3 = 0 → (post (some (-2)) M4)) ∧ (¬ v3 = 0 → (∃ v7 M8, rp_C E YX5_isBudget [.int l3] M4 (some v7) M8 ∧ ((¬ v7 = 0 → (∃ P13 : rp_M → Prop, rp_Run E YX0_fill [.ref 139, .ref 0, .int l2, .int l3] M8 (rp_P0 P13) ∧ (∀ M11, P13 M11 → (∀ M15, M15 = rp_s M11 139 9 0 → (∃ v16 M17, rp_C E YX0_firstOfAll [.ref 139, .int l1] M15 (some v16) M17 ∧ (∃ v19 M20, rp_C E YX0_shiftedProfit [.ref 139, .int v16] M17 (some v19) M20 ∧ (post (some v19) M20))))))) ∧ (v7 = 0 → (post (some (-2)) M8))))))))))) : rp_Run E YX5_bestWith [.ref 154, .int l1, .int l2, .int l3] M post := by
  refine ok_start (by decide) oX5_bestWith (Nat.le_of_ble_eq_true rfl) ?_
  refine ok_iload_n dX5_bestWith_0 rfl rfl ?_
  refine ok_if_lt (tgt := 25) dX5_bestWith_1 (by decide) (fun c1 => ?_) (fun c1 => ?_)
  · replace h := h.1 c1
    refine ok_bipush (v := (-2)) dX5_bestWith_25 (by decide) ?_
    exact ok_ireturn dX5_bestWith_27 rfl h
  · replace h := h.2 c1
    refine ok_iload_n dX5_bestWith_4 rfl rfl ?_
    refine ok_sipush (v := 9999) dX5_bestWith_5 (by decide) ?_
    refine ok_icmp_gt (tgt := 25) dX5_bestWith_8 (by decide) (fun c2 => ?_) (fun c2 => ?_)
    · replace h := h.1 c2
      refine ok_bipush (v := (-2)) dX5_bestWith_25 (by decide) ?_
      exact ok_ireturn dX5_bestWith_27 rfl h
    · replace h := h.2 c2
      refine ok_iload_n dX5_bestWith_11 rfl rfl ?_
      obtain ⟨v3, M4, r5, h⟩ := h
      refine ok_callS2 dX5_bestWith_12 kX5_bestWith_184 r5 rfl rfl (Nat.le_of_ble_eq_true rfl) ?_
      rintro _ _ ⟨rfl, rfl⟩
      refine ok_if_eq (tgt := 25) dX5_bestWith_15 (by decide) (fun c6 => ?_) (fun c6 => ?_)
      · replace h := h.1 c6
        refine ok_bipush (v := (-2)) dX5_bestWith_25 (by decide) ?_
        exact ok_ireturn dX5_bestWith_27 rfl h
      · replace h := h.2 c6
        refine ok_iload_n dX5_bestWith_18 rfl rfl ?_
        obtain ⟨v7, M8, r9, h⟩ := h
        refine ok_callS2 dX5_bestWith_19 kX5_bestWith_184 r9 rfl rfl (Nat.le_of_ble_eq_true rfl) ?_
        rintro _ _ ⟨rfl, rfl⟩
        refine ok_if_ne (tgt := 28) dX5_bestWith_22 (by decide) (fun c10 => ?_) (fun c10 => ?_)
        · replace h := h.1 c10
          refine ok_aload_n dX5_bestWith_28 rfl rfl ?_
          refine ok_getR (j := 139) dX5_bestWith_29 fX5_bestWith_37 (by decide) rp_k154 rfl (by decide) ?_
          refine ok_aload_n dX5_bestWith_32 rfl rfl ?_
          refine ok_getR (j := 0) dX5_bestWith_33 fX5_bestWith_10 (by decide) rp_k154 rfl (by decide) ?_
          refine ok_iload_n dX5_bestWith_36 rfl rfl ?_
          refine ok_iload_n dX5_bestWith_37 rfl rfl ?_
          obtain ⟨P13, r12, h⟩ := h
          refine ok_callV2 dX5_bestWith_38 kX5_bestWith_187 r12 (by decide) rp_k139 rfl rfl (Nat.le_of_ble_eq_true rfl) ?_
          rintro _ M11 ⟨rfl, q14⟩
          replace h := h M11 q14
          refine ok_aload_n dX5_bestWith_41 rfl rfl ?_
          refine ok_getR (j := 139) dX5_bestWith_42 fX5_bestWith_37 (by decide) rp_k154 rfl (by decide) ?_
          refine ok_iconst (v := 0) dX5_bestWith_45 (by decide) ?_
          refine ok_put dX5_bestWith_46 pX5_bestWith_191 (by decide) rp_k139 rfl (by decide) (by decide) ?_
          replace h := h _ rfl
          refine ok_aload_n dX5_bestWith_49 rfl rfl ?_
          refine ok_getR (j := 139) dX5_bestWith_50 fX5_bestWith_37 (by decide) rp_k154 rfl (by decide) ?_
          refine ok_aload_n dX5_bestWith_53 rfl rfl ?_
          refine ok_getR (j := 139) dX5_bestWith_54 fX5_bestWith_37 (by decide) rp_k154 rfl (by decide) ?_
          refine ok_iload_n dX5_bestWith_57 rfl rfl ?_
          obtain ⟨v16, M17, r18, h⟩ := h
          refine ok_callV2 dX5_bestWith_58 kX5_bestWith_169 r18 (by decide) rp_k139 rfl rfl (Nat.le_of_ble_eq_true rfl) ?_
          rintro _ _ ⟨rfl, rfl⟩
          obtain ⟨v19, M20, r21, h⟩ := h
          refine ok_callV2 dX5_bestWith_61 kX5_bestWith_172 r21 (by decide) rp_k139 rfl rfl (Nat.le_of_ble_eq_true rfl) ?_
          rintro _ _ ⟨rfl, rfl⟩
          exact ok_ireturn dX5_bestWith_64 rfl h
        · replace h := h.2 c10
          refine ok_bipush (v := (-2)) dX5_bestWith_25 (by decide) ?_
          exact ok_ireturn dX5_bestWith_27 rfl h
theorem vX5_leastCapacity (E : rp_E) (post : Option Int32 → rp_M → Prop) (M : rp_M) (l1 : Int32) (h : (l1 < 0 → (post (some (-2)) M)) ∧ (¬ l1 < 0 → ((l1 ≤ 12000 → (∃ P5 : rp_M → Prop, rp_Run E YX5_prepare [.ref 154] M (rp_P0 P5) ∧ (∀ M3, P5 M3 → (rp_G E YX5_leastCapacity post 24 [.ref 154, .int l1, .int 10000, .int 0] [] M3)))) ∧ (¬ l1 ≤ 12000 → (post (some (-2)) M))))) : rp_Run E YX5_leastCapacity [.ref 154, .int l1] M post := by
  refine ok_start (by decide) oX5_leastCapacity (Nat.le_of_ble_eq_true rfl) ?_
  refine ok_iload_n dX5_leastCapacity_0 rfl rfl ?_
  refine ok_if_lt (tgt := 11) dX5_leastCapacity_1 (by decide) (fun c1 => ?_) (fun c1 => ?_)
  · replace h := h.1 c1
    refine ok_bipush (v := (-2)) dX5_leastCapacity_11 (by decide) ?_
    exact ok_ireturn dX5_leastCapacity_13 rfl h
  · replace h := h.2 c1
    refine ok_iload_n dX5_leastCapacity_4 rfl rfl ?_
    refine ok_sipush (v := 12000) dX5_leastCapacity_5 (by decide) ?_
    refine ok_icmp_le (tgt := 14) dX5_leastCapacity_8 (by decide) (fun c2 => ?_) (fun c2 => ?_)
    · replace h := h.1 c2
      refine ok_aload_n dX5_leastCapacity_14 rfl rfl ?_
      obtain ⟨P5, r4, h⟩ := h
      refine ok_callV2 dX5_leastCapacity_15 kX5_leastCapacity_147 r4 (by decide) rp_k154 rfl rfl (Nat.le_of_ble_eq_true rfl) ?_
      rintro _ M3 ⟨rfl, q6⟩
      replace h := h M3 q6
      refine ok_sipush (v := 10000) dX5_leastCapacity_18 (by decide) ?_
      refine ok_istore_n dX5_leastCapacity_21 rfl (by decide) rfl ?_
      refine ok_iconst (v := 0) dX5_leastCapacity_22 (by decide) ?_
      refine ok_istore_n dX5_leastCapacity_23 rfl (by decide) rfl ?_
      exact ok_mask [true, true, true, true] h
    · replace h := h.2 c2
      refine ok_bipush (v := (-2)) dX5_leastCapacity_11 (by decide) ?_
      exact ok_ireturn dX5_leastCapacity_13 rfl h
theorem vX5_leastCapacity_24 (E : rp_E) (post : Option Int32 → rp_M → Prop) (M : rp_M) (l1 : Int32) (l2 : Int32) (l3 : Int32) (h : ((M 139 8) ≤ l3 → ((l2 ≤ 9999 → (post (some l2) M)) ∧ (¬ l2 ≤ 9999 → (post (some (-6)) M)))) ∧ (¬ (M 139 8) ≤ l3 → (vp_in l3 4096 ∧ (((M 141 (Int32.toNatClampNeg l3)) < l1 → (rp_G E YX5_leastCapacity post 24 [.ref 154, .int l1, .int l2, .int (l3 + 1)] [] M)) ∧ (¬ (M 141 (Int32.toNatClampNeg l3)) < l1 → ((l2 ≤ (M 140 (Int32.toNatClampNeg l3)) → (rp_G E YX5_leastCapacity post 24 [.ref 154, .int l1, .int l2, .int (l3 + 1)] [] M)) ∧ (¬ l2 ≤ (M 140 (Int32.toNatClampNeg l3)) → (∃ v12 M13, rp_C E YX0_allows [.ref 139, .int l3] M (some v12) M13 ∧ ((v12 = 0 → (rp_G E YX5_leastCapacity post 24 [.ref 154, .int l1, .int l2, .int (l3 + 1)] [] M13)) ∧ (¬ v12 = 0 → (rp_G E YX5_leastCapacity post 24 [.ref 154, .int l1, .int (M13 140 (Int32.toNatClampNeg l3)), .int (l3 + 1)] [] M13))))))))))) : rp_G E YX5_leastCapacity post 24 [.ref 154, .int l1, .int l2, .int l3] [] M := by
  refine ok_iload_n dX5_leastCapacity_24 rfl rfl ?_
  refine ok_aload_n dX5_leastCapacity_25 rfl rfl ?_
  refine ok_getR (j := 139) dX5_leastCapacity_26 fX5_leastCapacity_37 (by decide) rp_k154 rfl (by decide) ?_
  refine ok_getI dX5_leastCapacity_29 fX5_leastCapacity_195 (by decide) rp_k139 rfl ?_
  refine ok_icmp_ge (tgt := 88) dX5_leastCapacity_32 (by decide) (fun c7 => ?_) (fun c7 => ?_)
  · replace h := h.1 c7
    refine ok_iload_n dX5_leastCapacity_88 rfl rfl ?_
    refine ok_sipush (v := 9999) dX5_leastCapacity_89 (by decide) ?_
    refine ok_icmp_le (tgt := 100) dX5_leastCapacity_92 (by decide) (fun c8 => ?_) (fun c8 => ?_)
    · replace h := h.1 c8
      refine ok_iload_n dX5_leastCapacity_100 rfl rfl ?_
      exact ok_ireturn dX5_leastCapacity_101 rfl h
    · replace h := h.2 c8
      refine ok_bipush (v := (-6)) dX5_leastCapacity_95 (by decide) ?_
      refine ok_goto (tgt := 101) dX5_leastCapacity_97 (by decide) ?_
      exact ok_ireturn dX5_leastCapacity_101 rfl h
  · replace h := h.2 c7
    refine ok_aload_n dX5_leastCapacity_35 rfl rfl ?_
    refine ok_getR (j := 139) dX5_leastCapacity_36 fX5_leastCapacity_37 (by decide) rp_k154 rfl (by decide) ?_
    refine ok_getR (j := 141) dX5_leastCapacity_39 fX5_leastCapacity_198 (by decide) rp_k139 rfl (by decide) ?_
    refine ok_iload_n dX5_leastCapacity_42 rfl rfl ?_
    have b9 := h.1
    replace h := h.2
    refine ok_iaload dX5_leastCapacity_43 (by decide) rp_k141 b9 rfl ?_
    refine ok_iload_n dX5_leastCapacity_44 rfl rfl ?_
    refine ok_icmp_lt (tgt := 82) dX5_leastCapacity_45 (by decide) (fun c10 => ?_) (fun c10 => ?_)
    · replace h := h.1 c10
      refine ok_iinc2 (w := 1) dX5_leastCapacity_82 rfl (by decide) (by decide) rfl ?_
      refine ok_goto (tgt := 24) dX5_leastCapacity_85 (by decide) ?_
      exact ok_mask [true, true, true, true] h
    · replace h := h.2 c10
      refine ok_aload_n dX5_leastCapacity_48 rfl rfl ?_
      refine ok_getR (j := 139) dX5_leastCapacity_49 fX5_leastCapacity_37 (by decide) rp_k154 rfl (by decide) ?_
      refine ok_getR (j := 140) dX5_leastCapacity_52 fX5_leastCapacity_175 (by decide) rp_k139 rfl (by decide) ?_
      refine ok_iload_n dX5_leastCapacity_55 rfl rfl ?_
      refine ok_iaload dX5_leastCapacity_56 (by decide) rp_k140 b9 rfl ?_
      refine ok_iload_n dX5_leastCapacity_57 rfl rfl ?_
      refine ok_icmp_ge (tgt := 82) dX5_leastCapacity_58 (by decide) (fun c11 => ?_) (fun c11 => ?_)
      · replace h := h.1 c11
        refine ok_iinc2 (w := 1) dX5_leastCapacity_82 rfl (by decide) (by decide) rfl ?_
        refine ok_goto (tgt := 24) dX5_leastCapacity_85 (by decide) ?_
        exact ok_mask [true, true, true, true] h
      · replace h := h.2 c11
        refine ok_aload_n dX5_leastCapacity_61 rfl rfl ?_
        refine ok_getR (j := 139) dX5_leastCapacity_62 fX5_leastCapacity_37 (by decide) rp_k154 rfl (by decide) ?_
        refine ok_iload_n dX5_leastCapacity_65 rfl rfl ?_
        obtain ⟨v12, M13, r14, h⟩ := h
        refine ok_callV2 dX5_leastCapacity_66 kX5_leastCapacity_150 r14 (by decide) rp_k139 rfl rfl (Nat.le_of_ble_eq_true rfl) ?_
        rintro _ _ ⟨rfl, rfl⟩
        refine ok_if_eq (tgt := 82) dX5_leastCapacity_69 (by decide) (fun c15 => ?_) (fun c15 => ?_)
        · replace h := h.1 c15
          refine ok_iinc2 (w := 1) dX5_leastCapacity_82 rfl (by decide) (by decide) rfl ?_
          refine ok_goto (tgt := 24) dX5_leastCapacity_85 (by decide) ?_
          exact ok_mask [true, true, true, true] h
        · replace h := h.2 c15
          refine ok_aload_n dX5_leastCapacity_72 rfl rfl ?_
          refine ok_getR (j := 139) dX5_leastCapacity_73 fX5_leastCapacity_37 (by decide) rp_k154 rfl (by decide) ?_
          refine ok_getR (j := 140) dX5_leastCapacity_76 fX5_leastCapacity_175 (by decide) rp_k139 rfl (by decide) ?_
          refine ok_iload_n dX5_leastCapacity_79 rfl rfl ?_
          refine ok_iaload dX5_leastCapacity_80 (by decide) rp_k140 b9 rfl ?_
          refine ok_istore_n dX5_leastCapacity_81 rfl (by decide) rfl ?_
          refine ok_iinc2 (w := 1) dX5_leastCapacity_82 rfl (by decide) (by decide) rfl ?_
          refine ok_goto (tgt := 24) dX5_leastCapacity_85 (by decide) ?_
          exact ok_mask [true, true, true, true] h
theorem vX5_staysBest (E : rp_E) (post : Option Int32 → rp_M → Prop) (M : rp_M) (l1 : Int32) (l2 : Int32) (l3 : Int32) (h : ∃ v1 M2, rp_C E YX5_budget [.ref 154, .int 1] M (some v1) M2 ∧ (∃ P6 : rp_M → Prop, rp_Run E YX0_fillWeights [.ref 139, .ref 0, .int v1, .int l2, .int l3] M2 (rp_P0 P6) ∧ (∀ M4, P6 M4 → (∃ v8 M9, rp_C E YX5_capacity [.ref 154] M4 (some v8) M9 ∧ (∃ v11 M12, rp_C E YX0_firstOfAll [.ref 139, .int v8] M9 (some v11) M12 ∧ ((¬ v11 = l1 → (post (some 0) M12)) ∧ (v11 = l1 → (post (some 1) M12)))))))) : rp_Run E YX5_staysBest [.ref 154, .int l1, .int l2, .int l3] M post := by
  refine ok_start (by decide) oX5_staysBest (Nat.le_of_ble_eq_true rfl) ?_
  refine ok_aload_n dX5_staysBest_0 rfl rfl ?_
  refine ok_getR (j := 139) dX5_staysBest_1 fX5_staysBest_37 (by decide) rp_k154 rfl (by decide) ?_
  refine ok_aload_n dX5_staysBest_4 rfl rfl ?_
  refine ok_getR (j := 0) dX5_staysBest_5 fX5_staysBest_10 (by decide) rp_k154 rfl (by decide) ?_
  refine ok_aload_n dX5_staysBest_8 rfl rfl ?_
  refine ok_iconst (v := 1) dX5_staysBest_9 (by decide) ?_
  obtain ⟨v1, M2, r3, h⟩ := h
  refine ok_callV2 dX5_staysBest_10 kX5_staysBest_134 r3 (by decide) rp_k154 rfl rfl (Nat.le_of_ble_eq_true rfl) ?_
  rintro _ _ ⟨rfl, rfl⟩
  refine ok_iload_n dX5_staysBest_13 rfl rfl ?_
  refine ok_iload_n dX5_staysBest_14 rfl rfl ?_
  obtain ⟨P6, r5, h⟩ := h
  refine ok_callV2 dX5_staysBest_15 kX5_staysBest_276 r5 (by decide) rp_k139 rfl rfl (Nat.le_of_ble_eq_true rfl) ?_
  rintro _ M4 ⟨rfl, q7⟩
  replace h := h M4 q7
  refine ok_aload_n dX5_staysBest_18 rfl rfl ?_
  refine ok_getR (j := 139) dX5_staysBest_19 fX5_staysBest_37 (by decide) rp_k154 rfl (by decide) ?_
  refine ok_aload_n dX5_staysBest_22 rfl rfl ?_
  obtain ⟨v8, M9, r10, h⟩ := h
  refine ok_callV2 dX5_staysBest_23 kX5_staysBest_153 r10 (by decide) rp_k154 rfl rfl (Nat.le_of_ble_eq_true rfl) ?_
  rintro _ _ ⟨rfl, rfl⟩
  obtain ⟨v11, M12, r13, h⟩ := h
  refine ok_callV2 dX5_staysBest_26 kX5_staysBest_169 r13 (by decide) rp_k139 rfl rfl (Nat.le_of_ble_eq_true rfl) ?_
  rintro _ _ ⟨rfl, rfl⟩
  refine ok_iload_n dX5_staysBest_29 rfl rfl ?_
  refine ok_icmp_ne (tgt := 37) dX5_staysBest_30 (by decide) (fun c14 => ?_) (fun c14 => ?_)
  · replace h := h.1 c14
    refine ok_iconst (v := 0) dX5_staysBest_37 (by decide) ?_
    exact ok_zreturn dX5_staysBest_38 rfl (by decide) h
  · replace h := h.2 c14
    refine ok_iconst (v := 1) dX5_staysBest_33 (by decide) ?_
    refine ok_goto (tgt := 38) dX5_staysBest_34 (by decide) ?_
    exact ok_zreturn dX5_staysBest_38 rfl (by decide) h
theorem vX5_headroom (E : rp_E) (post : Option Int32 → rp_M → Prop) (M : rp_M) (l1 : Int32) (h : ∃ v1 M2, rp_C E YX5_exists [.ref 154, .int l1] M (some v1) M2 ∧ ((¬ v1 = 0 → (∃ P7 : rp_M → Prop, rp_Run E YX5_prepare [.ref 154] M2 (rp_P0 P7) ∧ (∀ M5, P7 M5 → (∃ v9 M10, rp_C E YX5_capacity [.ref 154] M5 (some v9) M10 ∧ (∃ v12 M13, rp_C E YX0_firstOfAll [.ref 139, .int v9] M10 (some v12) M13 ∧ (vp_in l1 12 ∧ ((¬ ((v12 >>> (l1 &&& 31) : Int32) &&& 1) = 0 → (rp_G E YX5_headroom post 60 [.ref 154, .int l1, .int v12, .int ((999 : Int32) - (M13 4 (Int32.toNatClampNeg l1))), .int 0, .int 512] [] M13)) ∧ (((v12 >>> (l1 &&& 31) : Int32) &&& 1) = 0 → (post (some ((999 : Int32) - (M13 4 (Int32.toNatClampNeg l1)))) M13))))))))) ∧ (v1 = 0 → (post (some (-1)) M2)))) : rp_Run E YX5_headroom [.ref 154, .int l1] M post := by
  refine ok_start (by decide) oX5_headroom (Nat.le_of_ble_eq_true rfl) ?_
  refine ok_aload_n dX5_headroom_0 rfl rfl ?_
  refine ok_iload_n dX5_headroom_1 rfl rfl ?_
  obtain ⟨v1, M2, r3, h⟩ := h
  refine ok_callV2 dX5_headroom_2 kX5_headroom_69 r3 (by decide) rp_k154 rfl rfl (Nat.le_of_ble_eq_true rfl) ?_
  rintro _ _ ⟨rfl, rfl⟩
  refine ok_if_ne (tgt := 10) dX5_headroom_5 (by decide) (fun c4 => ?_) (fun c4 => ?_)
  · replace h := h.1 c4
    refine ok_aload_n dX5_headroom_10 rfl rfl ?_
    obtain ⟨P7, r6, h⟩ := h
    refine ok_callV2 dX5_headroom_11 kX5_headroom_147 r6 (by decide) rp_k154 rfl rfl (Nat.le_of_ble_eq_true rfl) ?_
    rintro _ M5 ⟨rfl, q8⟩
    replace h := h M5 q8
    refine ok_aload_n dX5_headroom_14 rfl rfl ?_
    refine ok_getR (j := 139) dX5_headroom_15 fX5_headroom_37 (by decide) rp_k154 rfl (by decide) ?_
    refine ok_aload_n dX5_headroom_18 rfl rfl ?_
    obtain ⟨v9, M10, r11, h⟩ := h
    refine ok_callV2 dX5_headroom_19 kX5_headroom_153 r11 (by decide) rp_k154 rfl rfl (Nat.le_of_ble_eq_true rfl) ?_
    rintro _ _ ⟨rfl, rfl⟩
    obtain ⟨v12, M13, r14, h⟩ := h
    refine ok_callV2 dX5_headroom_22 kX5_headroom_169 r14 (by decide) rp_k139 rfl rfl (Nat.le_of_ble_eq_true rfl) ?_
    rintro _ _ ⟨rfl, rfl⟩
    refine ok_istore_n dX5_headroom_25 rfl (by decide) rfl ?_
    refine ok_sipush (v := 999) dX5_headroom_26 (by decide) ?_
    refine ok_aload_n dX5_headroom_29 rfl rfl ?_
    refine ok_getR (j := 0) dX5_headroom_30 fX5_headroom_10 (by decide) rp_k154 rfl (by decide) ?_
    refine ok_getR (j := 1) dX5_headroom_33 fX5_headroom_81 (by decide) rp_k0 rfl (by decide) ?_
    refine ok_iconst (v := 2) dX5_headroom_36 (by decide) ?_
    refine ok_aaload2 (j := 4) dX5_headroom_37 (by decide) rp_k1 (rp_vi (by decide)) (by rfl) (by decide) ?_
    refine ok_iload_n dX5_headroom_38 rfl rfl ?_
    have b15 := h.1
    replace h := h.2
    refine ok_iaload dX5_headroom_39 (by decide) rp_k4 b15 rfl ?_
    refine ok_isub dX5_headroom_40 ?_
    refine ok_istore_n dX5_headroom_41 rfl (by decide) rfl ?_
    refine ok_iload_n dX5_headroom_42 rfl rfl ?_
    refine ok_iload_n dX5_headroom_43 rfl rfl ?_
    refine ok_ishr dX5_headroom_44 ?_
    refine ok_iconst (v := 1) dX5_headroom_45 (by decide) ?_
    refine ok_iand dX5_headroom_46 ?_
    refine ok_if_ne (tgt := 52) dX5_headroom_47 (by decide) (fun c16 => ?_) (fun c16 => ?_)
    · replace h := h.1 c16
      refine ok_iconst (v := 0) dX5_headroom_52 (by decide) ?_
      refine ok_istore dX5_headroom_53 (by decide) rfl ?_
      refine ok_sipush (v := 512) dX5_headroom_55 (by decide) ?_
      refine ok_istore dX5_headroom_58 (by decide) rfl ?_
      exact ok_mask [true, true, true, true, true, true] h
    · replace h := h.2 c16
      refine ok_iload_n dX5_headroom_50 rfl rfl ?_
      exact ok_ireturn dX5_headroom_51 rfl h
  · replace h := h.2 c4
    refine ok_iconst (v := (-1)) dX5_headroom_8 (by decide) ?_
    exact ok_ireturn dX5_headroom_9 rfl h
theorem vX5_headroom_60 (E : rp_E) (post : Option Int32 → rp_M → Prop) (M : rp_M) (l1 : Int32) (l2 : Int32) (l3 : Int32) (l4 : Int32) (l5 : Int32) (h : (l5 ≤ 0 → (∀ M18, M18 = rp_s M 139 9 0 → (post (some l4) M18))) ∧ (¬ l5 ≤ 0 → ((l3 < (l4 + l5) → (rp_G E YX5_headroom post 60 [.ref 154, .int l1, .int l2, .int l3, .int l4, .int (l5 / 2)] [] M)) ∧ (¬ l3 < (l4 + l5) → (∃ P23 : Int32 → rp_M → Prop, rp_Run E YX5_staysBest [.ref 154, .int l2, .int l1, .int (l4 + l5)] M (rp_P P23) ∧ (∀ v20 M21, P23 v20 M21 → ((v20 = 0 → (rp_G E YX5_headroom post 60 [.ref 154, .int l1, .int l2, .int l3, .int l4, .int (l5 / 2)] [] M21)) ∧ (¬ v20 = 0 → (rp_G E YX5_headroom post 60 [.ref 154, .int l1, .int l2, .int l3, .int (l4 + l5), .int (l5 / 2)] [] M21))))))))) : rp_G E YX5_headroom post 60 [.ref 154, .int l1, .int l2, .int l3, .int l4, .int l5] [] M := by
  refine ok_iload dX5_headroom_60 rfl ?_
  refine ok_if_le (tgt := 104) dX5_headroom_62 (by decide) (fun c17 => ?_) (fun c17 => ?_)
  · replace h := h.1 c17
    refine ok_aload_n dX5_headroom_104 rfl rfl ?_
    refine ok_getR (j := 139) dX5_headroom_105 fX5_headroom_37 (by decide) rp_k154 rfl (by decide) ?_
    refine ok_iconst (v := 0) dX5_headroom_108 (by decide) ?_
    refine ok_put dX5_headroom_109 pX5_headroom_191 (by decide) rp_k139 rfl (by decide) (by decide) ?_
    replace h := h _ rfl
    refine ok_iload dX5_headroom_112 rfl ?_
    exact ok_ireturn dX5_headroom_114 rfl h
  · replace h := h.2 c17
    refine ok_iload dX5_headroom_65 rfl ?_
    refine ok_iload dX5_headroom_67 rfl ?_
    refine ok_iadd dX5_headroom_69 ?_
    refine ok_iload_n dX5_headroom_70 rfl rfl ?_
    refine ok_icmp_gt (tgt := 95) dX5_headroom_71 (by decide) (fun c19 => ?_) (fun c19 => ?_)
    · replace h := h.1 c19
      refine ok_iload dX5_headroom_95 rfl ?_
      refine ok_iconst (v := 2) dX5_headroom_97 (by decide) ?_
      refine ok_idiv dX5_headroom_98 (by decide) ?_
      refine ok_istore dX5_headroom_99 (by decide) rfl ?_
      refine ok_goto (tgt := 60) dX5_headroom_101 (by decide) ?_
      exact ok_mask [true, true, true, true, true, true] h
    · replace h := h.2 c19
      refine ok_aload_n dX5_headroom_74 rfl rfl ?_
      refine ok_iload_n dX5_headroom_75 rfl rfl ?_
      refine ok_iload_n dX5_headroom_76 rfl rfl ?_
      refine ok_iload dX5_headroom_77 rfl ?_
      refine ok_iload dX5_headroom_79 rfl ?_
      refine ok_iadd dX5_headroom_81 ?_
      obtain ⟨P23, r22, h⟩ := h
      refine ok_callV2 dX5_headroom_82 kX5_headroom_201 r22 (by decide) rp_k154 rfl rfl (Nat.le_of_ble_eq_true rfl) ?_
      rintro _ M21 ⟨v20, rfl, q24⟩
      replace h := h v20 M21 q24
      refine ok_if_eq (tgt := 95) dX5_headroom_85 (by decide) (fun c25 => ?_) (fun c25 => ?_)
      · replace h := h.1 c25
        refine ok_iload dX5_headroom_95 rfl ?_
        refine ok_iconst (v := 2) dX5_headroom_97 (by decide) ?_
        refine ok_idiv dX5_headroom_98 (by decide) ?_
        refine ok_istore dX5_headroom_99 (by decide) rfl ?_
        refine ok_goto (tgt := 60) dX5_headroom_101 (by decide) ?_
        exact ok_mask [true, true, true, true, true, true] h
      · replace h := h.2 c25
        refine ok_iload dX5_headroom_88 rfl ?_
        refine ok_iload dX5_headroom_90 rfl ?_
        refine ok_iadd dX5_headroom_92 ?_
        refine ok_istore dX5_headroom_93 (by decide) rfl ?_
        refine ok_iload dX5_headroom_95 rfl ?_
        refine ok_iconst (v := 2) dX5_headroom_97 (by decide) ?_
        refine ok_idiv dX5_headroom_98 (by decide) ?_
        refine ok_istore dX5_headroom_99 (by decide) rfl ?_
        refine ok_goto (tgt := 60) dX5_headroom_101 (by decide) ?_
        exact ok_mask [true, true, true, true, true, true] h
theorem vX5_greedy (E : rp_E) (post : Option Int32 → rp_M → Prop) (M : rp_M) (l1 : Int32) (h : (l1 = 0 → (∃ P4 : rp_M → Prop, rp_Run E YX5_prepare [.ref 154] M (rp_P0 P4) ∧ (∀ M2, P4 M2 → (rp_G E YX5_greedy post 23 [.ref 154, .int l1, .int 0, .int 0, .int 0, .null] [] M2)))) ∧ (¬ l1 = 0 → ((l1 = 1 → (∃ P9 : rp_M → Prop, rp_Run E YX5_prepare [.ref 154] M (rp_P0 P9) ∧ (∀ M7, P9 M7 → (rp_G E YX5_greedy post 23 [.ref 154, .int l1, .int 0, .int 0, .int 0, .null] [] M7)))) ∧ (¬ l1 = 1 → (post (some (-2)) M))))) : rp_Run E YX5_greedy [.ref 154, .int l1] M post := by
  refine ok_start (by decide) oX5_greedy (Nat.le_of_ble_eq_true rfl) ?_
  refine ok_iload_n dX5_greedy_0 rfl rfl ?_
  refine ok_if_eq (tgt := 12) dX5_greedy_1 (by decide) (fun c1 => ?_) (fun c1 => ?_)
  · replace h := h.1 c1
    refine ok_aload_n dX5_greedy_12 rfl rfl ?_
    obtain ⟨P4, r3, h⟩ := h
    refine ok_callV2 dX5_greedy_13 kX5_greedy_147 r3 (by decide) rp_k154 rfl rfl (Nat.le_of_ble_eq_true rfl) ?_
    rintro _ M2 ⟨rfl, q5⟩
    replace h := h M2 q5
    refine ok_iconst (v := 0) dX5_greedy_16 (by decide) ?_
    refine ok_istore_n dX5_greedy_17 rfl (by decide) rfl ?_
    refine ok_iconst (v := 0) dX5_greedy_18 (by decide) ?_
    refine ok_istore_n dX5_greedy_19 rfl (by decide) rfl ?_
    refine ok_iconst (v := 0) dX5_greedy_20 (by decide) ?_
    refine ok_istore dX5_greedy_21 (by decide) rfl ?_
    exact ok_mask [true, true, true, true, true, false] h
  · replace h := h.2 c1
    refine ok_iload_n dX5_greedy_4 rfl rfl ?_
    refine ok_iconst (v := 1) dX5_greedy_5 (by decide) ?_
    refine ok_icmp_eq (tgt := 12) dX5_greedy_6 (by decide) (fun c6 => ?_) (fun c6 => ?_)
    · replace h := h.1 c6
      refine ok_aload_n dX5_greedy_12 rfl rfl ?_
      obtain ⟨P9, r8, h⟩ := h
      refine ok_callV2 dX5_greedy_13 kX5_greedy_147 r8 (by decide) rp_k154 rfl rfl (Nat.le_of_ble_eq_true rfl) ?_
      rintro _ M7 ⟨rfl, q10⟩
      replace h := h M7 q10
      refine ok_iconst (v := 0) dX5_greedy_16 (by decide) ?_
      refine ok_istore_n dX5_greedy_17 rfl (by decide) rfl ?_
      refine ok_iconst (v := 0) dX5_greedy_18 (by decide) ?_
      refine ok_istore_n dX5_greedy_19 rfl (by decide) rfl ?_
      refine ok_iconst (v := 0) dX5_greedy_20 (by decide) ?_
      refine ok_istore dX5_greedy_21 (by decide) rfl ?_
      exact ok_mask [true, true, true, true, true, false] h
    · replace h := h.2 c6
      refine ok_bipush (v := (-2)) dX5_greedy_9 (by decide) ?_
      exact ok_ireturn dX5_greedy_11 rfl h
theorem vX5_greedy_23 (E : rp_E) (post : Option Int32 → rp_M → Prop) (M : rp_M) (l1 : Int32) (l2 : Int32) (l3 : Int32) (l4 : Int32) (h : ((M 0 4) ≤ l4 → ((¬ l1 = 0 → (∃ v13 M14, rp_C E YX0_shiftedProfit [.ref 139, .int l2] M (some v13) M14 ∧ (post (some v13) M14))) ∧ (l1 = 0 → (post (some l2) M)))) ∧ (¬ (M 0 4) ≤ l4 → (∃ v16 M17, rp_C E YX4_mostFruitful [.ref 0, .int l3] M (some v16) M17 ∧ (∃ v19 M20, rp_C E YX5_capacity [.ref 154] M17 (some v19) M20 ∧ (∃ v22 M23, rp_C E YX0_stands [.ref 139, .int (l2 ||| ((1 : Int32) <<< (v16 &&& 31) : Int32)), .int v19] M20 (some v22) M23 ∧ ((v22 = 0 → (rp_G E YX5_greedy post 23 [.ref 154, .int l1, .int l2, .int (l3 ||| ((1 : Int32) <<< (v16 &&& 31) : Int32)), .int (l4 + 1), .null] [] M23)) ∧ (¬ v22 = 0 → (rp_G E YX5_greedy post 23 [.ref 154, .int l1, .int (l2 ||| ((1 : Int32) <<< (v16 &&& 31) : Int32)), .int (l3 ||| ((1 : Int32) <<< (v16 &&& 31) : Int32)), .int (l4 + 1), .null] [] M23)))))))) : rp_G E YX5_greedy post 23 [.ref 154, .int l1, .int l2, .int l3, .int l4, .null] [] M := by
  refine ok_iload dX5_greedy_23 rfl ?_
  refine ok_aload_n dX5_greedy_25 rfl rfl ?_
  refine ok_getR (j := 0) dX5_greedy_26 fX5_greedy_10 (by decide) rp_k154 rfl (by decide) ?_
  refine ok_getI dX5_greedy_29 fX5_greedy_59 (by decide) rp_k0 rfl ?_
  refine ok_icmp_ge (tgt := 85) dX5_greedy_32 (by decide) (fun c11 => ?_) (fun c11 => ?_)
  · replace h := h.1 c11
    refine ok_iload_n dX5_greedy_85 rfl rfl ?_
    refine ok_if_ne (tgt := 93) dX5_greedy_86 (by decide) (fun c12 => ?_) (fun c12 => ?_)
    · replace h := h.1 c12
      refine ok_aload_n dX5_greedy_93 rfl rfl ?_
      refine ok_getR (j := 139) dX5_greedy_94 fX5_greedy_37 (by decide) rp_k154 rfl (by decide) ?_
      refine ok_iload_n dX5_greedy_97 rfl rfl ?_
      obtain ⟨v13, M14, r15, h⟩ := h
      refine ok_callV2 dX5_greedy_98 kX5_greedy_172 r15 (by decide) rp_k139 rfl rfl (Nat.le_of_ble_eq_true rfl) ?_
      rintro _ _ ⟨rfl, rfl⟩
      exact ok_ireturn dX5_greedy_101 rfl h
    · replace h := h.2 c12
      refine ok_iload_n dX5_greedy_89 rfl rfl ?_
      refine ok_goto (tgt := 101) dX5_greedy_90 (by decide) ?_
      exact ok_ireturn dX5_greedy_101 rfl h
  · replace h := h.2 c11
    refine ok_aload_n dX5_greedy_35 rfl rfl ?_
    refine ok_getR (j := 0) dX5_greedy_36 fX5_greedy_10 (by decide) rp_k154 rfl (by decide) ?_
    refine ok_iload_n dX5_greedy_39 rfl rfl ?_
    obtain ⟨v16, M17, r18, h⟩ := h
    refine ok_callV2 dX5_greedy_40 kX5_greedy_205 r18 (by decide) rp_k0 rfl rfl (Nat.le_of_ble_eq_true rfl) ?_
    rintro _ _ ⟨rfl, rfl⟩
    refine ok_istore dX5_greedy_43 (by decide) rfl ?_
    refine ok_iload_n dX5_greedy_45 rfl rfl ?_
    refine ok_iconst (v := 1) dX5_greedy_46 (by decide) ?_
    refine ok_iload dX5_greedy_47 rfl ?_
    refine ok_ishl dX5_greedy_49 ?_
    refine ok_ior dX5_greedy_50 ?_
    refine ok_istore_n dX5_greedy_51 rfl (by decide) rfl ?_
    refine ok_aload_n dX5_greedy_52 rfl rfl ?_
    refine ok_getR (j := 139) dX5_greedy_53 fX5_greedy_37 (by decide) rp_k154 rfl (by decide) ?_
    refine ok_iload_n dX5_greedy_56 rfl rfl ?_
    refine ok_iconst (v := 1) dX5_greedy_57 (by decide) ?_
    refine ok_iload dX5_greedy_58 rfl ?_
    refine ok_ishl dX5_greedy_60 ?_
    refine ok_ior dX5_greedy_61 ?_
    refine ok_aload_n dX5_greedy_62 rfl rfl ?_
    obtain ⟨v19, M20, r21, h⟩ := h
    refine ok_callV2 dX5_greedy_63 kX5_greedy_153 r21 (by decide) rp_k154 rfl rfl (Nat.le_of_ble_eq_true rfl) ?_
    rintro _ _ ⟨rfl, rfl⟩
    obtain ⟨v22, M23, r24, h⟩ := h
    refine ok_callV2 dX5_greedy_66 kX5_greedy_208 r24 (by decide) rp_k139 rfl rfl (Nat.le_of_ble_eq_true rfl) ?_
    rintro _ _ ⟨rfl, rfl⟩
    refine ok_if_eq (tgt := 79) dX5_greedy_69 (by decide) (fun c25 => ?_) (fun c25 => ?_)
    · replace h := h.1 c25
      refine ok_iinc2 (w := 1) dX5_greedy_79 rfl (by decide) (by decide) rfl ?_
      refine ok_goto (tgt := 23) dX5_greedy_82 (by decide) ?_
      exact ok_mask [true, true, true, true, true, false] h
    · replace h := h.2 c25
      refine ok_iload_n dX5_greedy_72 rfl rfl ?_
      refine ok_iconst (v := 1) dX5_greedy_73 (by decide) ?_
      refine ok_iload dX5_greedy_74 rfl ?_
      refine ok_ishl dX5_greedy_76 ?_
      refine ok_ior dX5_greedy_77 ?_
      refine ok_istore_n dX5_greedy_78 rfl (by decide) rfl ?_
      refine ok_iinc2 (w := 1) dX5_greedy_79 rfl (by decide) (by decide) rfl ?_
      refine ok_goto (tgt := 23) dX5_greedy_82 (by decide) ?_
      exact ok_mask [true, true, true, true, true, false] h
theorem vX5_forced (E : rp_E) (post : Option Int32 → rp_M → Prop) (M : rp_M) (l1 : Int32) (l2 : Int32) (l3 : Int32) (h : ∃ v1 M2, rp_C E YX5_isChoice [.ref 154, .int l1] M (some v1) M2 ∧ ((v1 = 0 → (post (some (-1)) M2)) ∧ (¬ v1 = 0 → (∃ v5 M6, rp_C E YX5_isChoice [.ref 154, .int l2] M2 (some v5) M6 ∧ ((¬ v5 = 0 → ((l3 = 0 → (((l1 &&& l2) = 0 → (∃ P13 : rp_M → Prop, rp_Run E YX5_prepare [.ref 154] M6 (rp_P0 P13) ∧ (∀ M11, P13 M11 → (∃ v15 M16, rp_C E YX5_capacity [.ref 154] M11 (some v15) M16 ∧ (∃ v18 M19, rp_C E YX0_first [.ref 139, .int v15, .int l1, .int l2] M16 (some v18) M19 ∧ ((¬ l3 = 0 → (∃ v22 M23, rp_C E YX0_shiftedProfit [.ref 139, .int v18] M19 (some v22) M23 ∧ (post (some v22) M23))) ∧ (l3 = 0 → (post (some v18) M19)))))))) ∧ (¬ (l1 &&& l2) = 0 → (post (some (-5)) M6)))) ∧ (¬ l3 = 0 → ((l3 = 1 → (((l1 &&& l2) = 0 → (∃ P29 : rp_M → Prop, rp_Run E YX5_prepare [.ref 154] M6 (rp_P0 P29) ∧ (∀ M27, P29 M27 → (∃ v31 M32, rp_C E YX5_capacity [.ref 154] M27 (some v31) M32 ∧ (∃ v34 M35, rp_C E YX0_first [.ref 139, .int v31, .int l1, .int l2] M32 (some v34) M35 ∧ ((¬ l3 = 0 → (∃ v38 M39, rp_C E YX0_shiftedProfit [.ref 139, .int v34] M35 (some v38) M39 ∧ (post (some v38) M39))) ∧ (l3 = 0 → (post (some v34) M35)))))))) ∧ (¬ (l1 &&& l2) = 0 → (post (some (-5)) M6)))) ∧ (¬ l3 = 1 → (post (some (-2)) M6)))))) ∧ (v5 = 0 → (post (some (-1)) M6))))))) : rp_Run E YX5_forced [.ref 154, .int l1, .int l2, .int l3] M post := by
  refine ok_start (by decide) oX5_forced (Nat.le_of_ble_eq_true rfl) ?_
  refine ok_aload_n dX5_forced_0 rfl rfl ?_
  refine ok_iload_n dX5_forced_1 rfl rfl ?_
  obtain ⟨v1, M2, r3, h⟩ := h
  refine ok_callV2 dX5_forced_2 kX5_forced_128 r3 (by decide) rp_k154 rfl rfl (Nat.le_of_ble_eq_true rfl) ?_
  rintro _ _ ⟨rfl, rfl⟩
  refine ok_if_eq (tgt := 16) dX5_forced_5 (by decide) (fun c4 => ?_) (fun c4 => ?_)
  · replace h := h.1 c4
    refine ok_iconst (v := (-1)) dX5_forced_16 (by decide) ?_
    exact ok_ireturn dX5_forced_17 rfl h
  · replace h := h.2 c4
    refine ok_aload_n dX5_forced_8 rfl rfl ?_
    refine ok_iload_n dX5_forced_9 rfl rfl ?_
    obtain ⟨v5, M6, r7, h⟩ := h
    refine ok_callV2 dX5_forced_10 kX5_forced_128 r7 (by decide) rp_k154 rfl rfl (Nat.le_of_ble_eq_true rfl) ?_
    rintro _ _ ⟨rfl, rfl⟩
    refine ok_if_ne (tgt := 18) dX5_forced_13 (by decide) (fun c8 => ?_) (fun c8 => ?_)
    · replace h := h.1 c8
      refine ok_iload_n dX5_forced_18 rfl rfl ?_
      refine ok_if_eq (tgt := 30) dX5_forced_19 (by decide) (fun c9 => ?_) (fun c9 => ?_)
      · replace h := h.1 c9
        refine ok_iload_n dX5_forced_30 rfl rfl ?_
        refine ok_iload_n dX5_forced_31 rfl rfl ?_
        refine ok_iand dX5_forced_32 ?_
        refine ok_if_eq (tgt := 39) dX5_forced_33 (by decide) (fun c10 => ?_) (fun c10 => ?_)
        · replace h := h.1 c10
          refine ok_aload_n dX5_forced_39 rfl rfl ?_
          obtain ⟨P13, r12, h⟩ := h
          refine ok_callV2 dX5_forced_40 kX5_forced_147 r12 (by decide) rp_k154 rfl rfl (Nat.le_of_ble_eq_true rfl) ?_
          rintro _ M11 ⟨rfl, q14⟩
          replace h := h M11 q14
          refine ok_aload_n dX5_forced_43 rfl rfl ?_
          refine ok_getR (j := 139) dX5_forced_44 fX5_forced_37 (by decide) rp_k154 rfl (by decide) ?_
          refine ok_aload_n dX5_forced_47 rfl rfl ?_
          obtain ⟨v15, M16, r17, h⟩ := h
          refine ok_callV2 dX5_forced_48 kX5_forced_153 r17 (by decide) rp_k154 rfl rfl (Nat.le_of_ble_eq_true rfl) ?_
          rintro _ _ ⟨rfl, rfl⟩
          refine ok_iload_n dX5_forced_51 rfl rfl ?_
          refine ok_iload_n dX5_forced_52 rfl rfl ?_
          obtain ⟨v18, M19, r20, h⟩ := h
          refine ok_callV2 dX5_forced_53 kX5_forced_211 r20 (by decide) rp_k139 rfl rfl (Nat.le_of_ble_eq_true rfl) ?_
          rintro _ _ ⟨rfl, rfl⟩
          refine ok_istore dX5_forced_56 (by decide) rfl ?_
          refine ok_iload_n dX5_forced_58 rfl rfl ?_
          refine ok_if_ne (tgt := 67) dX5_forced_59 (by decide) (fun c21 => ?_) (fun c21 => ?_)
          · replace h := h.1 c21
            refine ok_aload_n dX5_forced_67 rfl rfl ?_
            refine ok_getR (j := 139) dX5_forced_68 fX5_forced_37 (by decide) rp_k154 rfl (by decide) ?_
            refine ok_iload dX5_forced_71 rfl ?_
            obtain ⟨v22, M23, r24, h⟩ := h
            refine ok_callV2 dX5_forced_73 kX5_forced_172 r24 (by decide) rp_k139 rfl rfl (Nat.le_of_ble_eq_true rfl) ?_
            rintro _ _ ⟨rfl, rfl⟩
            exact ok_ireturn dX5_forced_76 rfl h
          · replace h := h.2 c21
            refine ok_iload dX5_forced_62 rfl ?_
            refine ok_goto (tgt := 76) dX5_forced_64 (by decide) ?_
            exact ok_ireturn dX5_forced_76 rfl h
        · replace h := h.2 c10
          refine ok_bipush (v := (-5)) dX5_forced_36 (by decide) ?_
          exact ok_ireturn dX5_forced_38 rfl h
      · replace h := h.2 c9
        refine ok_iload_n dX5_forced_22 rfl rfl ?_
        refine ok_iconst (v := 1) dX5_forced_23 (by decide) ?_
        refine ok_icmp_eq (tgt := 30) dX5_forced_24 (by decide) (fun c25 => ?_) (fun c25 => ?_)
        · replace h := h.1 c25
          refine ok_iload_n dX5_forced_30 rfl rfl ?_
          refine ok_iload_n dX5_forced_31 rfl rfl ?_
          refine ok_iand dX5_forced_32 ?_
          refine ok_if_eq (tgt := 39) dX5_forced_33 (by decide) (fun c26 => ?_) (fun c26 => ?_)
          · replace h := h.1 c26
            refine ok_aload_n dX5_forced_39 rfl rfl ?_
            obtain ⟨P29, r28, h⟩ := h
            refine ok_callV2 dX5_forced_40 kX5_forced_147 r28 (by decide) rp_k154 rfl rfl (Nat.le_of_ble_eq_true rfl) ?_
            rintro _ M27 ⟨rfl, q30⟩
            replace h := h M27 q30
            refine ok_aload_n dX5_forced_43 rfl rfl ?_
            refine ok_getR (j := 139) dX5_forced_44 fX5_forced_37 (by decide) rp_k154 rfl (by decide) ?_
            refine ok_aload_n dX5_forced_47 rfl rfl ?_
            obtain ⟨v31, M32, r33, h⟩ := h
            refine ok_callV2 dX5_forced_48 kX5_forced_153 r33 (by decide) rp_k154 rfl rfl (Nat.le_of_ble_eq_true rfl) ?_
            rintro _ _ ⟨rfl, rfl⟩
            refine ok_iload_n dX5_forced_51 rfl rfl ?_
            refine ok_iload_n dX5_forced_52 rfl rfl ?_
            obtain ⟨v34, M35, r36, h⟩ := h
            refine ok_callV2 dX5_forced_53 kX5_forced_211 r36 (by decide) rp_k139 rfl rfl (Nat.le_of_ble_eq_true rfl) ?_
            rintro _ _ ⟨rfl, rfl⟩
            refine ok_istore dX5_forced_56 (by decide) rfl ?_
            refine ok_iload_n dX5_forced_58 rfl rfl ?_
            refine ok_if_ne (tgt := 67) dX5_forced_59 (by decide) (fun c37 => ?_) (fun c37 => ?_)
            · replace h := h.1 c37
              refine ok_aload_n dX5_forced_67 rfl rfl ?_
              refine ok_getR (j := 139) dX5_forced_68 fX5_forced_37 (by decide) rp_k154 rfl (by decide) ?_
              refine ok_iload dX5_forced_71 rfl ?_
              obtain ⟨v38, M39, r40, h⟩ := h
              refine ok_callV2 dX5_forced_73 kX5_forced_172 r40 (by decide) rp_k139 rfl rfl (Nat.le_of_ble_eq_true rfl) ?_
              rintro _ _ ⟨rfl, rfl⟩
              exact ok_ireturn dX5_forced_76 rfl h
            · replace h := h.2 c37
              refine ok_iload dX5_forced_62 rfl ?_
              refine ok_goto (tgt := 76) dX5_forced_64 (by decide) ?_
              exact ok_ireturn dX5_forced_76 rfl h
          · replace h := h.2 c26
            refine ok_bipush (v := (-5)) dX5_forced_36 (by decide) ?_
            exact ok_ireturn dX5_forced_38 rfl h
        · replace h := h.2 c25
          refine ok_bipush (v := (-2)) dX5_forced_27 (by decide) ?_
          exact ok_ireturn dX5_forced_29 rfl h
    · replace h := h.2 c8
      refine ok_iconst (v := (-1)) dX5_forced_16 (by decide) ?_
      exact ok_ireturn dX5_forced_17 rfl h
theorem vX5_frontier (E : rp_E) (post : Option Int32 → rp_M → Prop) (M : rp_M) (l1 : Int32) (l2 : Int32) (h : (l2 < 0 → (post (some (-2)) M)) ∧ (¬ l2 < 0 → ((l2 ≤ 2 → (∃ P5 : rp_M → Prop, rp_Run E YX5_prepare [.ref 154] M (rp_P0 P5) ∧ (∀ M3, P5 M3 → (∃ P9 : rp_M → Prop, rp_Run E YX3_buildFrontier [.ref 147, .ref 139] M3 (rp_P0 P9) ∧ (∀ M7, P9 M7 → ((¬ l1 = (-1) → (∃ v12 M13, rp_C E YX3_stepAt [.ref 147, .int l1] M7 (some v12) M13 ∧ ((v12 < 0 → (post (some v12) M13)) ∧ (¬ v12 < 0 → ((¬ l2 = 2 → ((¬ l2 = 0 → (∃ v18 M19, rp_C E YX0_shiftedProfit [.ref 139, .int v12] M13 (some v18) M19 ∧ (post (some v18) M19))) ∧ (l2 = 0 → (vp_in v12 4096 ∧ (post (some (M13 140 (Int32.toNatClampNeg v12))) M13))))) ∧ (l2 = 2 → (post (some v12) M13))))))) ∧ (l1 = (-1) → (post (some (M7 147 1)) M7)))))))) ∧ (¬ l2 ≤ 2 → (post (some (-2)) M))))) : rp_Run E YX5_frontier [.ref 154, .int l1, .int l2] M post := by
  refine ok_start (by decide) oX5_frontier (Nat.le_of_ble_eq_true rfl) ?_
  refine ok_iload_n dX5_frontier_0 rfl rfl ?_
  refine ok_if_lt (tgt := 9) dX5_frontier_1 (by decide) (fun c1 => ?_) (fun c1 => ?_)
  · replace h := h.1 c1
    refine ok_bipush (v := (-2)) dX5_frontier_9 (by decide) ?_
    exact ok_ireturn dX5_frontier_11 rfl h
  · replace h := h.2 c1
    refine ok_iload_n dX5_frontier_4 rfl rfl ?_
    refine ok_iconst (v := 2) dX5_frontier_5 (by decide) ?_
    refine ok_icmp_le (tgt := 12) dX5_frontier_6 (by decide) (fun c2 => ?_) (fun c2 => ?_)
    · replace h := h.1 c2
      refine ok_aload_n dX5_frontier_12 rfl rfl ?_
      obtain ⟨P5, r4, h⟩ := h
      refine ok_callV2 dX5_frontier_13 kX5_frontier_147 r4 (by decide) rp_k154 rfl rfl (Nat.le_of_ble_eq_true rfl) ?_
      rintro _ M3 ⟨rfl, q6⟩
      replace h := h M3 q6
      refine ok_aload_n dX5_frontier_16 rfl rfl ?_
      refine ok_getR (j := 147) dX5_frontier_17 fX5_frontier_44 (by decide) rp_k154 rfl (by decide) ?_
      refine ok_aload_n dX5_frontier_20 rfl rfl ?_
      refine ok_getR (j := 139) dX5_frontier_21 fX5_frontier_37 (by decide) rp_k154 rfl (by decide) ?_
      obtain ⟨P9, r8, h⟩ := h
      refine ok_callV2 dX5_frontier_24 kX5_frontier_214 r8 (by decide) rp_k147 rfl rfl (Nat.le_of_ble_eq_true rfl) ?_
      rintro _ M7 ⟨rfl, q10⟩
      replace h := h M7 q10
      refine ok_iload_n dX5_frontier_27 rfl rfl ?_
      refine ok_iconst (v := (-1)) dX5_frontier_28 (by decide) ?_
      refine ok_icmp_ne (tgt := 40) dX5_frontier_29 (by decide) (fun c11 => ?_) (fun c11 => ?_)
      · replace h := h.1 c11
        refine ok_aload_n dX5_frontier_40 rfl rfl ?_
        refine ok_getR (j := 147) dX5_frontier_41 fX5_frontier_44 (by decide) rp_k154 rfl (by decide) ?_
        refine ok_iload_n dX5_frontier_44 rfl rfl ?_
        obtain ⟨v12, M13, r14, h⟩ := h
        refine ok_callV2 dX5_frontier_45 kX5_frontier_219 r14 (by decide) rp_k147 rfl rfl (Nat.le_of_ble_eq_true rfl) ?_
        rintro _ _ ⟨rfl, rfl⟩
        refine ok_istore_n dX5_frontier_48 rfl (by decide) rfl ?_
        refine ok_iload_n dX5_frontier_49 rfl rfl ?_
        refine ok_if_lt (tgt := 58) dX5_frontier_50 (by decide) (fun c15 => ?_) (fun c15 => ?_)
        · replace h := h.1 c15
          refine ok_iload_n dX5_frontier_58 rfl rfl ?_
          exact ok_ireturn dX5_frontier_59 rfl h
        · replace h := h.2 c15
          refine ok_iload_n dX5_frontier_53 rfl rfl ?_
          refine ok_iconst (v := 2) dX5_frontier_54 (by decide) ?_
          refine ok_icmp_ne (tgt := 60) dX5_frontier_55 (by decide) (fun c16 => ?_) (fun c16 => ?_)
          · replace h := h.1 c16
            refine ok_iload_n dX5_frontier_60 rfl rfl ?_
            refine ok_if_ne (tgt := 76) dX5_frontier_61 (by decide) (fun c17 => ?_) (fun c17 => ?_)
            · replace h := h.1 c17
              refine ok_aload_n dX5_frontier_76 rfl rfl ?_
              refine ok_getR (j := 139) dX5_frontier_77 fX5_frontier_37 (by decide) rp_k154 rfl (by decide) ?_
              refine ok_iload_n dX5_frontier_80 rfl rfl ?_
              obtain ⟨v18, M19, r20, h⟩ := h
              refine ok_callV2 dX5_frontier_81 kX5_frontier_172 r20 (by decide) rp_k139 rfl rfl (Nat.le_of_ble_eq_true rfl) ?_
              rintro _ _ ⟨rfl, rfl⟩
              exact ok_ireturn dX5_frontier_84 rfl h
            · replace h := h.2 c17
              refine ok_aload_n dX5_frontier_64 rfl rfl ?_
              refine ok_getR (j := 139) dX5_frontier_65 fX5_frontier_37 (by decide) rp_k154 rfl (by decide) ?_
              refine ok_getR (j := 140) dX5_frontier_68 fX5_frontier_175 (by decide) rp_k139 rfl (by decide) ?_
              refine ok_iload_n dX5_frontier_71 rfl rfl ?_
              have b21 := h.1
              replace h := h.2
              refine ok_iaload dX5_frontier_72 (by decide) rp_k140 b21 rfl ?_
              refine ok_goto (tgt := 84) dX5_frontier_73 (by decide) ?_
              exact ok_ireturn dX5_frontier_84 rfl h
          · replace h := h.2 c16
            refine ok_iload_n dX5_frontier_58 rfl rfl ?_
            exact ok_ireturn dX5_frontier_59 rfl h
      · replace h := h.2 c11
        refine ok_aload_n dX5_frontier_32 rfl rfl ?_
        refine ok_getR (j := 147) dX5_frontier_33 fX5_frontier_44 (by decide) rp_k154 rfl (by decide) ?_
        refine ok_getI dX5_frontier_36 fX5_frontier_218 (by decide) rp_k147 rfl ?_
        exact ok_ireturn dX5_frontier_39 rfl h
    · replace h := h.2 c2
      refine ok_bipush (v := (-2)) dX5_frontier_9 (by decide) ?_
      exact ok_ireturn dX5_frontier_11 rfl h
theorem vX5_improve (E : rp_E) (post : Option Int32 → rp_M → Prop) (M : rp_M) (l1 : Int32) (l2 : Int32) (h : ∃ v1 M2, rp_C E YX5_isChoice [.ref 154, .int l1] M (some v1) M2 ∧ ((¬ v1 = 0 → ((l2 = 0 → (∃ P8 : rp_M → Prop, rp_Run E YX5_prepare [.ref 154] M2 (rp_P0 P8) ∧ (∀ M6, P8 M6 → (∃ v10 M11, rp_C E YX5_capacity [.ref 154] M6 (some v10) M11 ∧ (∃ v13 M14, rp_C E YX0_stands [.ref 139, .int l1, .int v10] M11 (some v13) M14 ∧ ((¬ v13 = 0 → (rp_G E YX5_improve post 52 [.ref 154, .null, .int l2, .int l1, .int 0, .int 0, .null] [] M14)) ∧ (v13 = 0 → (post (some (-5)) M14)))))))) ∧ (¬ l2 = 0 → ((l2 = 1 → (∃ P20 : rp_M → Prop, rp_Run E YX5_prepare [.ref 154] M2 (rp_P0 P20) ∧ (∀ M18, P20 M18 → (∃ v22 M23, rp_C E YX5_capacity [.ref 154] M18 (some v22) M23 ∧ (∃ v25 M26, rp_C E YX0_stands [.ref 139, .int l1, .int v22] M23 (some v25) M26 ∧ ((¬ v25 = 0 → (rp_G E YX5_improve post 52 [.ref 154, .null, .int l2, .int l1, .int 0, .int 0, .null] [] M26)) ∧ (v25 = 0 → (post (some (-5)) M26)))))))) ∧ (¬ l2 = 1 → (post (some (-2)) M2)))))) ∧ (v1 = 0 → (post (some (-1)) M2)))) : rp_Run E YX5_improve [.ref 154, .int l1, .int l2] M post := by
  refine ok_start (by decide) oX5_improve (Nat.le_of_ble_eq_true rfl) ?_
  refine ok_aload_n dX5_improve_0 rfl rfl ?_
  refine ok_iload_n dX5_improve_1 rfl rfl ?_
  obtain ⟨v1, M2, r3, h⟩ := h
  refine ok_callV2 dX5_improve_2 kX5_improve_128 r3 (by decide) rp_k154 rfl rfl (Nat.le_of_ble_eq_true rfl) ?_
  rintro _ _ ⟨rfl, rfl⟩
  refine ok_if_ne (tgt := 10) dX5_improve_5 (by decide) (fun c4 => ?_) (fun c4 => ?_)
  · replace h := h.1 c4
    refine ok_iload_n dX5_improve_10 rfl rfl ?_
    refine ok_if_eq (tgt := 22) dX5_improve_11 (by decide) (fun c5 => ?_) (fun c5 => ?_)
    · replace h := h.1 c5
      refine ok_aload_n dX5_improve_22 rfl rfl ?_
      obtain ⟨P8, r7, h⟩ := h
      refine ok_callV2 dX5_improve_23 kX5_improve_147 r7 (by decide) rp_k154 rfl rfl (Nat.le_of_ble_eq_true rfl) ?_
      rintro _ M6 ⟨rfl, q9⟩
      replace h := h M6 q9
      refine ok_aload_n dX5_improve_26 rfl rfl ?_
      refine ok_getR (j := 139) dX5_improve_27 fX5_improve_37 (by decide) rp_k154 rfl (by decide) ?_
      refine ok_iload_n dX5_improve_30 rfl rfl ?_
      refine ok_aload_n dX5_improve_31 rfl rfl ?_
      obtain ⟨v10, M11, r12, h⟩ := h
      refine ok_callV2 dX5_improve_32 kX5_improve_153 r12 (by decide) rp_k154 rfl rfl (Nat.le_of_ble_eq_true rfl) ?_
      rintro _ _ ⟨rfl, rfl⟩
      obtain ⟨v13, M14, r15, h⟩ := h
      refine ok_callV2 dX5_improve_35 kX5_improve_208 r15 (by decide) rp_k139 rfl rfl (Nat.le_of_ble_eq_true rfl) ?_
      rintro _ _ ⟨rfl, rfl⟩
      refine ok_if_ne (tgt := 44) dX5_improve_38 (by decide) (fun c16 => ?_) (fun c16 => ?_)
      · replace h := h.1 c16
        refine ok_iload_n dX5_improve_44 rfl rfl ?_
        refine ok_istore_n dX5_improve_45 rfl (by decide) rfl ?_
        refine ok_iconst (v := 0) dX5_improve_46 (by decide) ?_
        refine ok_istore dX5_improve_47 (by decide) rfl ?_
        refine ok_iconst (v := 0) dX5_improve_49 (by decide) ?_
        refine ok_istore dX5_improve_50 (by decide) rfl ?_
        exact ok_mask [true, false, true, true, true, true, false] h
      · replace h := h.2 c16
        refine ok_bipush (v := (-5)) dX5_improve_41 (by decide) ?_
        exact ok_ireturn dX5_improve_43 rfl h
    · replace h := h.2 c5
      refine ok_iload_n dX5_improve_14 rfl rfl ?_
      refine ok_iconst (v := 1) dX5_improve_15 (by decide) ?_
      refine ok_icmp_eq (tgt := 22) dX5_improve_16 (by decide) (fun c17 => ?_) (fun c17 => ?_)
      · replace h := h.1 c17
        refine ok_aload_n dX5_improve_22 rfl rfl ?_
        obtain ⟨P20, r19, h⟩ := h
        refine ok_callV2 dX5_improve_23 kX5_improve_147 r19 (by decide) rp_k154 rfl rfl (Nat.le_of_ble_eq_true rfl) ?_
        rintro _ M18 ⟨rfl, q21⟩
        replace h := h M18 q21
        refine ok_aload_n dX5_improve_26 rfl rfl ?_
        refine ok_getR (j := 139) dX5_improve_27 fX5_improve_37 (by decide) rp_k154 rfl (by decide) ?_
        refine ok_iload_n dX5_improve_30 rfl rfl ?_
        refine ok_aload_n dX5_improve_31 rfl rfl ?_
        obtain ⟨v22, M23, r24, h⟩ := h
        refine ok_callV2 dX5_improve_32 kX5_improve_153 r24 (by decide) rp_k154 rfl rfl (Nat.le_of_ble_eq_true rfl) ?_
        rintro _ _ ⟨rfl, rfl⟩
        obtain ⟨v25, M26, r27, h⟩ := h
        refine ok_callV2 dX5_improve_35 kX5_improve_208 r27 (by decide) rp_k139 rfl rfl (Nat.le_of_ble_eq_true rfl) ?_
        rintro _ _ ⟨rfl, rfl⟩
        refine ok_if_ne (tgt := 44) dX5_improve_38 (by decide) (fun c28 => ?_) (fun c28 => ?_)
        · replace h := h.1 c28
          refine ok_iload_n dX5_improve_44 rfl rfl ?_
          refine ok_istore_n dX5_improve_45 rfl (by decide) rfl ?_
          refine ok_iconst (v := 0) dX5_improve_46 (by decide) ?_
          refine ok_istore dX5_improve_47 (by decide) rfl ?_
          refine ok_iconst (v := 0) dX5_improve_49 (by decide) ?_
          refine ok_istore dX5_improve_50 (by decide) rfl ?_
          exact ok_mask [true, false, true, true, true, true, false] h
        · replace h := h.2 c28
          refine ok_bipush (v := (-5)) dX5_improve_41 (by decide) ?_
          exact ok_ireturn dX5_improve_43 rfl h
      · replace h := h.2 c17
        refine ok_bipush (v := (-2)) dX5_improve_19 (by decide) ?_
        exact ok_ireturn dX5_improve_21 rfl h
  · replace h := h.2 c4
    refine ok_iconst (v := (-1)) dX5_improve_8 (by decide) ?_
    exact ok_ireturn dX5_improve_9 rfl h
theorem vX5_improve_52 (E : rp_E) (post : Option Int32 → rp_M → Prop) (M : rp_M) (l2 : Int32) (l3 : Int32) (l4 : Int32) (l5 : Int32) (h : (4096 ≤ l5 → ((¬ l2 = 0 → (post (some l4) M)) ∧ (l2 = 0 → (post (some l3) M)))) ∧ (¬ 4096 ≤ l5 → (∃ v31 M32, rp_C E YX5_capacity [.ref 154] M (some v31) M32 ∧ (∃ v34 M35, rp_C E YX0_firstNear [.ref 139, .int l3, .int v31] M32 (some v34) M35 ∧ ((¬ v34 = l3 → (rp_G E YX5_improve post 52 [.ref 154, .null, .int l2, .int v34, .int (l4 + 1), .int (l5 + 1), .null] [] M35)) ∧ (v34 = l3 → ((¬ l2 = 0 → (post (some l4) M35)) ∧ (l2 = 0 → (post (some l3) M35))))))))) : rp_G E YX5_improve post 52 [.ref 154, .null, .int l2, .int l3, .int l4, .int l5, .null] [] M := by
  refine ok_iload dX5_improve_52 rfl ?_
  refine ok_sipush (v := 4096) dX5_improve_54 (by decide) ?_
  refine ok_icmp_ge (tgt := 95) dX5_improve_57 (by decide) (fun c29 => ?_) (fun c29 => ?_)
  · replace h := h.1 c29
    refine ok_iload_n dX5_improve_95 rfl rfl ?_
    refine ok_if_ne (tgt := 103) dX5_improve_96 (by decide) (fun c30 => ?_) (fun c30 => ?_)
    · replace h := h.1 c30
      refine ok_iload dX5_improve_103 rfl ?_
      exact ok_ireturn dX5_improve_105 rfl h
    · replace h := h.2 c30
      refine ok_iload_n dX5_improve_99 rfl rfl ?_
      refine ok_goto (tgt := 105) dX5_improve_100 (by decide) ?_
      exact ok_ireturn dX5_improve_105 rfl h
  · replace h := h.2 c29
    refine ok_aload_n dX5_improve_60 rfl rfl ?_
    refine ok_getR (j := 139) dX5_improve_61 fX5_improve_37 (by decide) rp_k154 rfl (by decide) ?_
    refine ok_iload_n dX5_improve_64 rfl rfl ?_
    refine ok_aload_n dX5_improve_65 rfl rfl ?_
    obtain ⟨v31, M32, r33, h⟩ := h
    refine ok_callV2 dX5_improve_66 kX5_improve_153 r33 (by decide) rp_k154 rfl rfl (Nat.le_of_ble_eq_true rfl) ?_
    rintro _ _ ⟨rfl, rfl⟩
    obtain ⟨v34, M35, r36, h⟩ := h
    refine ok_callV2 dX5_improve_69 kX5_improve_222 r36 (by decide) rp_k139 rfl rfl (Nat.le_of_ble_eq_true rfl) ?_
    rintro _ _ ⟨rfl, rfl⟩
    refine ok_istore dX5_improve_72 (by decide) rfl ?_
    refine ok_iload dX5_improve_74 rfl ?_
    refine ok_iload_n dX5_improve_76 rfl rfl ?_
    refine ok_icmp_ne (tgt := 83) dX5_improve_77 (by decide) (fun c37 => ?_) (fun c37 => ?_)
    · replace h := h.1 c37
      refine ok_iload dX5_improve_83 rfl ?_
      refine ok_istore_n dX5_improve_85 rfl (by decide) rfl ?_
      refine ok_iinc2 (w := 1) dX5_improve_86 rfl (by decide) (by decide) rfl ?_
      refine ok_iinc2 (w := 1) dX5_improve_89 rfl (by decide) (by decide) rfl ?_
      refine ok_goto (tgt := 52) dX5_improve_92 (by decide) ?_
      exact ok_mask [true, false, true, true, true, true, false] h
    · replace h := h.2 c37
      refine ok_goto (tgt := 95) dX5_improve_80 (by decide) ?_
      refine ok_iload_n dX5_improve_95 rfl rfl ?_
      refine ok_if_ne (tgt := 103) dX5_improve_96 (by decide) (fun c38 => ?_) (fun c38 => ?_)
      · replace h := h.1 c38
        refine ok_iload dX5_improve_103 rfl ?_
        exact ok_ireturn dX5_improve_105 rfl h
      · replace h := h.2 c38
        refine ok_iload_n dX5_improve_99 rfl rfl ?_
        refine ok_goto (tgt := 105) dX5_improve_100 (by decide) ?_
        exact ok_ireturn dX5_improve_105 rfl h
theorem vX5_isLevel (E : rp_E) (post : Option Int32 → rp_M → Prop) (M : rp_M) (l1 : Int32) (h : (l1 < 0 → (post (some 0) M)) ∧ (¬ l1 < 0 → (((M 0 4) < l1 → (post (some 0) M)) ∧ (¬ (M 0 4) < l1 → (post (some 1) M))))) : rp_Run E YX5_isLevel [.ref 154, .int l1] M post := by
  refine ok_start (by decide) oX5_isLevel (Nat.le_of_ble_eq_true rfl) ?_
  refine ok_iload_n dX5_isLevel_0 rfl rfl ?_
  refine ok_if_lt (tgt := 19) dX5_isLevel_1 (by decide) (fun c1 => ?_) (fun c1 => ?_)
  · replace h := h.1 c1
    refine ok_iconst (v := 0) dX5_isLevel_19 (by decide) ?_
    exact ok_zreturn dX5_isLevel_20 rfl (by decide) h
  · replace h := h.2 c1
    refine ok_iload_n dX5_isLevel_4 rfl rfl ?_
    refine ok_aload_n dX5_isLevel_5 rfl rfl ?_
    refine ok_getR (j := 0) dX5_isLevel_6 fX5_isLevel_10 (by decide) rp_k154 rfl (by decide) ?_
    refine ok_getI dX5_isLevel_9 fX5_isLevel_59 (by decide) rp_k0 rfl ?_
    refine ok_icmp_gt (tgt := 19) dX5_isLevel_12 (by decide) (fun c2 => ?_) (fun c2 => ?_)
    · replace h := h.1 c2
      refine ok_iconst (v := 0) dX5_isLevel_19 (by decide) ?_
      exact ok_zreturn dX5_isLevel_20 rfl (by decide) h
    · replace h := h.2 c2
      refine ok_iconst (v := 1) dX5_isLevel_15 (by decide) ?_
      refine ok_goto (tgt := 20) dX5_isLevel_16 (by decide) ?_
      exact ok_zreturn dX5_isLevel_20 rfl (by decide) h
theorem vX5_list (E : rp_E) (post : Option Int32 → rp_M → Prop) (M : rp_M) (l1 : Int32) (l2 : Int32) (h : ∃ v1 M2, rp_C E YX5_isLevel [.ref 154, .int l1] M (some v1) M2 ∧ ((¬ v1 = 0 → (∃ P7 : rp_M → Prop, rp_Run E YX5_prepare [.ref 154] M2 (rp_P0 P7) ∧ (∀ M5, P7 M5 → (∃ v9 M10, rp_C E YX5_capacity [.ref 154] M5 (some v9) M10 ∧ (∃ P14 : rp_M → Prop, rp_Run E YX3_buildList [.ref 147, .ref 139, .int l1, .int v9] M10 (rp_P0 P14) ∧ (∀ M12, P14 M12 → ((¬ l2 = (-1) → (∃ v17 M18, rp_C E YX3_stepAt [.ref 147, .int l2] M12 (some v17) M18 ∧ (post (some v17) M18))) ∧ (l2 = (-1) → (post (some (M12 147 1)) M12))))))))) ∧ (v1 = 0 → (post (some (-1)) M2)))) : rp_Run E YX5_list [.ref 154, .int l1, .int l2] M post := by
  refine ok_start (by decide) oX5_list (Nat.le_of_ble_eq_true rfl) ?_
  refine ok_aload_n dX5_list_0 rfl rfl ?_
  refine ok_iload_n dX5_list_1 rfl rfl ?_
  obtain ⟨v1, M2, r3, h⟩ := h
  refine ok_callV2 dX5_list_2 kX5_list_225 r3 (by decide) rp_k154 rfl rfl (Nat.le_of_ble_eq_true rfl) ?_
  rintro _ _ ⟨rfl, rfl⟩
  refine ok_if_ne (tgt := 10) dX5_list_5 (by decide) (fun c4 => ?_) (fun c4 => ?_)
  · replace h := h.1 c4
    refine ok_aload_n dX5_list_10 rfl rfl ?_
    obtain ⟨P7, r6, h⟩ := h
    refine ok_callV2 dX5_list_11 kX5_list_147 r6 (by decide) rp_k154 rfl rfl (Nat.le_of_ble_eq_true rfl) ?_
    rintro _ M5 ⟨rfl, q8⟩
    replace h := h M5 q8
    refine ok_aload_n dX5_list_14 rfl rfl ?_
    refine ok_getR (j := 147) dX5_list_15 fX5_list_44 (by decide) rp_k154 rfl (by decide) ?_
    refine ok_aload_n dX5_list_18 rfl rfl ?_
    refine ok_getR (j := 139) dX5_list_19 fX5_list_37 (by decide) rp_k154 rfl (by decide) ?_
    refine ok_iload_n dX5_list_22 rfl rfl ?_
    refine ok_aload_n dX5_list_23 rfl rfl ?_
    obtain ⟨v9, M10, r11, h⟩ := h
    refine ok_callV2 dX5_list_24 kX5_list_153 r11 (by decide) rp_k154 rfl rfl (Nat.le_of_ble_eq_true rfl) ?_
    rintro _ _ ⟨rfl, rfl⟩
    obtain ⟨P14, r13, h⟩ := h
    refine ok_callV2 dX5_list_27 kX5_list_228 r13 (by decide) rp_k147 rfl rfl (Nat.le_of_ble_eq_true rfl) ?_
    rintro _ M12 ⟨rfl, q15⟩
    replace h := h M12 q15
    refine ok_iload_n dX5_list_30 rfl rfl ?_
    refine ok_iconst (v := (-1)) dX5_list_31 (by decide) ?_
    refine ok_icmp_ne (tgt := 45) dX5_list_32 (by decide) (fun c16 => ?_) (fun c16 => ?_)
    · replace h := h.1 c16
      refine ok_aload_n dX5_list_45 rfl rfl ?_
      refine ok_getR (j := 147) dX5_list_46 fX5_list_44 (by decide) rp_k154 rfl (by decide) ?_
      refine ok_iload_n dX5_list_49 rfl rfl ?_
      obtain ⟨v17, M18, r19, h⟩ := h
      refine ok_callV2 dX5_list_50 kX5_list_219 r19 (by decide) rp_k147 rfl rfl (Nat.le_of_ble_eq_true rfl) ?_
      rintro _ _ ⟨rfl, rfl⟩
      exact ok_ireturn dX5_list_53 rfl h
    · replace h := h.2 c16
      refine ok_aload_n dX5_list_35 rfl rfl ?_
      refine ok_getR (j := 147) dX5_list_36 fX5_list_44 (by decide) rp_k154 rfl (by decide) ?_
      refine ok_getI dX5_list_39 fX5_list_218 (by decide) rp_k147 rfl ?_
      refine ok_goto (tgt := 53) dX5_list_42 (by decide) ?_
      exact ok_ireturn dX5_list_53 rfl h
  · replace h := h.2 c4
    refine ok_iconst (v := (-1)) dX5_list_8 (by decide) ?_
    exact ok_ireturn dX5_list_9 rfl h
theorem vX5_dominator (E : rp_E) (post : Option Int32 → rp_M → Prop) (M : rp_M) (l1 : Int32) (l2 : Int32) (h : ∃ v1 M2, rp_C E YX5_isLevel [.ref 154, .int l1] M (some v1) M2 ∧ ((v1 = 0 → (post (some (-1)) M2)) ∧ (¬ v1 = 0 → ((l2 < 0 → (post (some (-1)) M2)) ∧ (¬ l2 < 0 → ((l2 < ((1 : Int32) <<< (l1 &&& 31) : Int32) → (∃ P9 : rp_M → Prop, rp_Run E YX5_prepare [.ref 154] M2 (rp_P0 P9) ∧ (∀ M7, P9 M7 → (vp_in l2 4096 ∧ (∃ v12 M13, rp_C E YX5_capacity [.ref 154] M7 (some v12) M13 ∧ (((M7 140 (Int32.toNatClampNeg l2)) ≤ v12 → (∃ v16 M17, rp_C E YX5_capacity [.ref 154] M13 (some v16) M17 ∧ (∃ P21 : rp_M → Prop, rp_Run E YX3_buildList [.ref 147, .ref 139, .int l1, .int v16] M17 (rp_P0 P21) ∧ (∀ M19, P21 M19 → (∃ v23 M24, rp_C E YX3_firstWith [.ref 147, .ref 142, .int (M19 142 (Int32.toNatClampNeg l2))] M19 (some v23) M24 ∧ ((¬ v23 = l2 → (post (some v23) M24)) ∧ (v23 = l2 → (post (some (-6)) M24)))))))) ∧ (¬ (M7 140 (Int32.toNatClampNeg l2)) ≤ v12 → (post (some (-5)) M13)))))))) ∧ (¬ l2 < ((1 : Int32) <<< (l1 &&& 31) : Int32) → (post (some (-1)) M2)))))))) : rp_Run E YX5_dominator [.ref 154, .int l1, .int l2] M post := by
  refine ok_start (by decide) oX5_dominator (Nat.le_of_ble_eq_true rfl) ?_
  refine ok_aload_n dX5_dominator_0 rfl rfl ?_
  refine ok_iload_n dX5_dominator_1 rfl rfl ?_
  obtain ⟨v1, M2, r3, h⟩ := h
  refine ok_callV2 dX5_dominator_2 kX5_dominator_225 r3 (by decide) rp_k154 rfl rfl (Nat.le_of_ble_eq_true rfl) ?_
  rintro _ _ ⟨rfl, rfl⟩
  refine ok_if_eq (tgt := 19) dX5_dominator_5 (by decide) (fun c4 => ?_) (fun c4 => ?_)
  · replace h := h.1 c4
    refine ok_iconst (v := (-1)) dX5_dominator_19 (by decide) ?_
    exact ok_ireturn dX5_dominator_20 rfl h
  · replace h := h.2 c4
    refine ok_iload_n dX5_dominator_8 rfl rfl ?_
    refine ok_if_lt (tgt := 19) dX5_dominator_9 (by decide) (fun c5 => ?_) (fun c5 => ?_)
    · replace h := h.1 c5
      refine ok_iconst (v := (-1)) dX5_dominator_19 (by decide) ?_
      exact ok_ireturn dX5_dominator_20 rfl h
    · replace h := h.2 c5
      refine ok_iload_n dX5_dominator_12 rfl rfl ?_
      refine ok_iconst (v := 1) dX5_dominator_13 (by decide) ?_
      refine ok_iload_n dX5_dominator_14 rfl rfl ?_
      refine ok_ishl dX5_dominator_15 ?_
      refine ok_icmp_lt (tgt := 21) dX5_dominator_16 (by decide) (fun c6 => ?_) (fun c6 => ?_)
      · replace h := h.1 c6
        refine ok_aload_n dX5_dominator_21 rfl rfl ?_
        obtain ⟨P9, r8, h⟩ := h
        refine ok_callV2 dX5_dominator_22 kX5_dominator_147 r8 (by decide) rp_k154 rfl rfl (Nat.le_of_ble_eq_true rfl) ?_
        rintro _ M7 ⟨rfl, q10⟩
        replace h := h M7 q10
        refine ok_aload_n dX5_dominator_25 rfl rfl ?_
        refine ok_getR (j := 139) dX5_dominator_26 fX5_dominator_37 (by decide) rp_k154 rfl (by decide) ?_
        refine ok_getR (j := 140) dX5_dominator_29 fX5_dominator_175 (by decide) rp_k139 rfl (by decide) ?_
        refine ok_iload_n dX5_dominator_32 rfl rfl ?_
        have b11 := h.1
        replace h := h.2
        refine ok_iaload dX5_dominator_33 (by decide) rp_k140 b11 rfl ?_
        refine ok_aload_n dX5_dominator_34 rfl rfl ?_
        obtain ⟨v12, M13, r14, h⟩ := h
        refine ok_callV2 dX5_dominator_35 kX5_dominator_153 r14 (by decide) rp_k154 rfl rfl (Nat.le_of_ble_eq_true rfl) ?_
        rintro _ _ ⟨rfl, rfl⟩
        refine ok_icmp_le (tgt := 44) dX5_dominator_38 (by decide) (fun c15 => ?_) (fun c15 => ?_)
        · replace h := h.1 c15
          refine ok_aload_n dX5_dominator_44 rfl rfl ?_
          refine ok_getR (j := 147) dX5_dominator_45 fX5_dominator_44 (by decide) rp_k154 rfl (by decide) ?_
          refine ok_aload_n dX5_dominator_48 rfl rfl ?_
          refine ok_getR (j := 139) dX5_dominator_49 fX5_dominator_37 (by decide) rp_k154 rfl (by decide) ?_
          refine ok_iload_n dX5_dominator_52 rfl rfl ?_
          refine ok_aload_n dX5_dominator_53 rfl rfl ?_
          obtain ⟨v16, M17, r18, h⟩ := h
          refine ok_callV2 dX5_dominator_54 kX5_dominator_153 r18 (by decide) rp_k154 rfl rfl (Nat.le_of_ble_eq_true rfl) ?_
          rintro _ _ ⟨rfl, rfl⟩
          obtain ⟨P21, r20, h⟩ := h
          refine ok_callV2 dX5_dominator_57 kX5_dominator_228 r20 (by decide) rp_k147 rfl rfl (Nat.le_of_ble_eq_true rfl) ?_
          rintro _ M19 ⟨rfl, q22⟩
          replace h := h M19 q22
          refine ok_aload_n dX5_dominator_60 rfl rfl ?_
          refine ok_getR (j := 147) dX5_dominator_61 fX5_dominator_44 (by decide) rp_k154 rfl (by decide) ?_
          refine ok_aload_n dX5_dominator_64 rfl rfl ?_
          refine ok_getR (j := 139) dX5_dominator_65 fX5_dominator_37 (by decide) rp_k154 rfl (by decide) ?_
          refine ok_getR (j := 142) dX5_dominator_68 fX5_dominator_232 (by decide) rp_k139 rfl (by decide) ?_
          refine ok_aload_n dX5_dominator_71 rfl rfl ?_
          refine ok_getR (j := 139) dX5_dominator_72 fX5_dominator_37 (by decide) rp_k154 rfl (by decide) ?_
          refine ok_getR (j := 142) dX5_dominator_75 fX5_dominator_232 (by decide) rp_k139 rfl (by decide) ?_
          refine ok_iload_n dX5_dominator_78 rfl rfl ?_
          refine ok_iaload dX5_dominator_79 (by decide) rp_k142 b11 rfl ?_
          obtain ⟨v23, M24, r25, h⟩ := h
          refine ok_callV2 dX5_dominator_80 kX5_dominator_235 r25 (by decide) rp_k147 rfl rfl (Nat.le_of_ble_eq_true rfl) ?_
          rintro _ _ ⟨rfl, rfl⟩
          refine ok_istore_n dX5_dominator_83 rfl (by decide) rfl ?_
          refine ok_iload_n dX5_dominator_84 rfl rfl ?_
          refine ok_iload_n dX5_dominator_85 rfl rfl ?_
          refine ok_icmp_ne (tgt := 94) dX5_dominator_86 (by decide) (fun c26 => ?_) (fun c26 => ?_)
          · replace h := h.1 c26
            refine ok_iload_n dX5_dominator_94 rfl rfl ?_
            exact ok_ireturn dX5_dominator_95 rfl h
          · replace h := h.2 c26
            refine ok_bipush (v := (-6)) dX5_dominator_89 (by decide) ?_
            refine ok_goto (tgt := 95) dX5_dominator_91 (by decide) ?_
            exact ok_ireturn dX5_dominator_95 rfl h
        · replace h := h.2 c15
          refine ok_bipush (v := (-5)) dX5_dominator_41 (by decide) ?_
          exact ok_ireturn dX5_dominator_43 rfl h
      · replace h := h.2 c6
        refine ok_iconst (v := (-1)) dX5_dominator_19 (by decide) ?_
        exact ok_ireturn dX5_dominator_20 rfl h
theorem vX5_thresholds (E : rp_E) (post : Option Int32 → rp_M → Prop) (M : rp_M)  (h : ∃ v1 M2, rp_C E YX4_thresholdBelow [.ref 0, .int 1000] M (some v1) M2 ∧ (rp_G E YX5_thresholds post 15 [.ref 154, .int 0, .int v1, .int 0] [] M2)) : rp_Run E YX5_thresholds [.ref 154] M post := by
  refine ok_start (by decide) oX5_thresholds (Nat.le_of_ble_eq_true rfl) ?_
  refine ok_iconst (v := 0) dX5_thresholds_0 (by decide) ?_
  refine ok_istore_n dX5_thresholds_1 rfl (by decide) rfl ?_
  refine ok_aload_n dX5_thresholds_2 rfl rfl ?_
  refine ok_getR (j := 0) dX5_thresholds_3 fX5_thresholds_10 (by decide) rp_k154 rfl (by decide) ?_
  refine ok_sipush (v := 1000) dX5_thresholds_6 (by decide) ?_
  obtain ⟨v1, M2, r3, h⟩ := h
  refine ok_callV2 dX5_thresholds_9 kX5_thresholds_280 r3 (by decide) rp_k0 rfl rfl (Nat.le_of_ble_eq_true rfl) ?_
  rintro _ _ ⟨rfl, rfl⟩
  refine ok_istore_n dX5_thresholds_12 rfl (by decide) rfl ?_
  refine ok_iconst (v := 0) dX5_thresholds_13 (by decide) ?_
  refine ok_istore_n dX5_thresholds_14 rfl (by decide) rfl ?_
  exact ok_mask [true, true, true, true] h
theorem vX5_thresholds_15 (E : rp_E) (post : Option Int32 → rp_M → Prop) (M : rp_M) (l1 : Int32) (l2 : Int32) (l3 : Int32) (h : (12 < l3 → (post (some l1) M)) ∧ (¬ 12 < l3 → ((l2 < 0 → (post (some l1) M)) ∧ (¬ l2 < 0 → (∃ v6 M7, rp_C E YX4_thresholdBelow [.ref 0, .int l2] M (some v6) M7 ∧ (rp_G E YX5_thresholds post 15 [.ref 154, .int (l1 + 1), .int v6, .int (l3 + 1)] [] M7)))))) : rp_G E YX5_thresholds post 15 [.ref 154, .int l1, .int l2, .int l3] [] M := by
  refine ok_iload_n dX5_thresholds_15 rfl rfl ?_
  refine ok_bipush (v := 12) dX5_thresholds_16 (by decide) ?_
  refine ok_icmp_gt (tgt := 43) dX5_thresholds_18 (by decide) (fun c4 => ?_) (fun c4 => ?_)
  · replace h := h.1 c4
    refine ok_iload_n dX5_thresholds_43 rfl rfl ?_
    exact ok_ireturn dX5_thresholds_44 rfl h
  · replace h := h.2 c4
    refine ok_iload_n dX5_thresholds_21 rfl rfl ?_
    refine ok_if_lt (tgt := 43) dX5_thresholds_22 (by decide) (fun c5 => ?_) (fun c5 => ?_)
    · replace h := h.1 c5
      refine ok_iload_n dX5_thresholds_43 rfl rfl ?_
      exact ok_ireturn dX5_thresholds_44 rfl h
    · replace h := h.2 c5
      refine ok_iinc2 (w := 1) dX5_thresholds_25 rfl (by decide) (by decide) rfl ?_
      refine ok_aload_n dX5_thresholds_28 rfl rfl ?_
      refine ok_getR (j := 0) dX5_thresholds_29 fX5_thresholds_10 (by decide) rp_k154 rfl (by decide) ?_
      refine ok_iload_n dX5_thresholds_32 rfl rfl ?_
      obtain ⟨v6, M7, r8, h⟩ := h
      refine ok_callV2 dX5_thresholds_33 kX5_thresholds_280 r8 (by decide) rp_k0 rfl rfl (Nat.le_of_ble_eq_true rfl) ?_
      rintro _ _ ⟨rfl, rfl⟩
      refine ok_istore_n dX5_thresholds_36 rfl (by decide) rfl ?_
      refine ok_iinc2 (w := 1) dX5_thresholds_37 rfl (by decide) (by decide) rfl ?_
      refine ok_goto (tgt := 15) dX5_thresholds_40 (by decide) ?_
      exact ok_mask [true, true, true, true] h
theorem vX5_thresholdAt (E : rp_E) (post : Option Int32 → rp_M → Prop) (M : rp_M) (l1 : Int32) (h : rp_G E YX5_thresholdAt post 6 [.ref 154, .int l1, .int 1000, .int 0] [] M) : rp_Run E YX5_thresholdAt [.ref 154, .int l1] M post := by
  refine ok_start (by decide) oX5_thresholdAt (Nat.le_of_ble_eq_true rfl) ?_
  refine ok_sipush (v := 1000) dX5_thresholdAt_0 (by decide) ?_
  refine ok_istore_n dX5_thresholdAt_3 rfl (by decide) rfl ?_
  refine ok_iconst (v := 0) dX5_thresholdAt_4 (by decide) ?_
  refine ok_istore_n dX5_thresholdAt_5 rfl (by decide) rfl ?_
  exact ok_mask [true, true, true, true] h
theorem vX5_thresholdAt_6 (E : rp_E) (post : Option Int32 → rp_M → Prop) (M : rp_M) (l1 : Int32) (l2 : Int32) (l3 : Int32) (h : (l1 < l3 → (post (some l2) M)) ∧ (¬ l1 < l3 → ((12 < l3 → (post (some l2) M)) ∧ (¬ 12 < l3 → (∃ v3 M4, rp_C E YX4_thresholdBelow [.ref 0, .int l2] M (some v3) M4 ∧ (rp_G E YX5_thresholdAt post 6 [.ref 154, .int l1, .int v3, .int (l3 + 1)] [] M4)))))) : rp_G E YX5_thresholdAt post 6 [.ref 154, .int l1, .int l2, .int l3] [] M := by
  refine ok_iload_n dX5_thresholdAt_6 rfl rfl ?_
  refine ok_iload_n dX5_thresholdAt_7 rfl rfl ?_
  refine ok_icmp_gt (tgt := 32) dX5_thresholdAt_8 (by decide) (fun c1 => ?_) (fun c1 => ?_)
  · replace h := h.1 c1
    refine ok_iload_n dX5_thresholdAt_32 rfl rfl ?_
    exact ok_ireturn dX5_thresholdAt_33 rfl h
  · replace h := h.2 c1
    refine ok_iload_n dX5_thresholdAt_11 rfl rfl ?_
    refine ok_bipush (v := 12) dX5_thresholdAt_12 (by decide) ?_
    refine ok_icmp_gt (tgt := 32) dX5_thresholdAt_14 (by decide) (fun c2 => ?_) (fun c2 => ?_)
    · replace h := h.1 c2
      refine ok_iload_n dX5_thresholdAt_32 rfl rfl ?_
      exact ok_ireturn dX5_thresholdAt_33 rfl h
    · replace h := h.2 c2
      refine ok_aload_n dX5_thresholdAt_17 rfl rfl ?_
      refine ok_getR (j := 0) dX5_thresholdAt_18 fX5_thresholdAt_10 (by decide) rp_k154 rfl (by decide) ?_
      refine ok_iload_n dX5_thresholdAt_21 rfl rfl ?_
      obtain ⟨v3, M4, r5, h⟩ := h
      refine ok_callV2 dX5_thresholdAt_22 kX5_thresholdAt_280 r5 (by decide) rp_k0 rfl rfl (Nat.le_of_ble_eq_true rfl) ?_
      rintro _ _ ⟨rfl, rfl⟩
      refine ok_istore_n dX5_thresholdAt_25 rfl (by decide) rfl ?_
      refine ok_iinc2 (w := 1) dX5_thresholdAt_26 rfl (by decide) (by decide) rfl ?_
      refine ok_goto (tgt := 6) dX5_thresholdAt_29 (by decide) ?_
      exact ok_mask [true, true, true, true] h
theorem vX5_threshold (E : rp_E) (post : Option Int32 → rp_M → Prop) (M : rp_M) (l1 : Int32) (h : (¬ l1 = (-1) → ((l1 < 0 → (post (some (-6)) M)) ∧ (¬ l1 < 0 → (∃ v3 M4, rp_C E YX5_thresholds [.ref 154] M (some v3) M4 ∧ ((v3 ≤ l1 → (post (some (-6)) M4)) ∧ (¬ v3 ≤ l1 → (∃ v7 M8, rp_C E YX5_thresholdAt [.ref 154, .int l1] M4 (some v7) M8 ∧ (post (some v7) M8)))))))) ∧ (l1 = (-1) → (∃ v10 M11, rp_C E YX5_thresholds [.ref 154] M (some v10) M11 ∧ (post (some v10) M11)))) : rp_Run E YX5_threshold [.ref 154, .int l1] M post := by
  refine ok_start (by decide) oX5_threshold (Nat.le_of_ble_eq_true rfl) ?_
  refine ok_iload_n dX5_threshold_0 rfl rfl ?_
  refine ok_iconst (v := (-1)) dX5_threshold_1 (by decide) ?_
  refine ok_icmp_ne (tgt := 10) dX5_threshold_2 (by decide) (fun c1 => ?_) (fun c1 => ?_)
  · replace h := h.1 c1
    refine ok_iload_n dX5_threshold_10 rfl rfl ?_
    refine ok_if_lt (tgt := 30) dX5_threshold_11 (by decide) (fun c2 => ?_) (fun c2 => ?_)
    · replace h := h.1 c2
      refine ok_bipush (v := (-6)) dX5_threshold_30 (by decide) ?_
      exact ok_ireturn dX5_threshold_32 rfl h
    · replace h := h.2 c2
      refine ok_iload_n dX5_threshold_14 rfl rfl ?_
      refine ok_aload_n dX5_threshold_15 rfl rfl ?_
      obtain ⟨v3, M4, r5, h⟩ := h
      refine ok_callV2 dX5_threshold_16 kX5_threshold_239 r5 (by decide) rp_k154 rfl rfl (Nat.le_of_ble_eq_true rfl) ?_
      rintro _ _ ⟨rfl, rfl⟩
      refine ok_icmp_ge (tgt := 30) dX5_threshold_19 (by decide) (fun c6 => ?_) (fun c6 => ?_)
      · replace h := h.1 c6
        refine ok_bipush (v := (-6)) dX5_threshold_30 (by decide) ?_
        exact ok_ireturn dX5_threshold_32 rfl h
      · replace h := h.2 c6
        refine ok_aload_n dX5_threshold_22 rfl rfl ?_
        refine ok_iload_n dX5_threshold_23 rfl rfl ?_
        obtain ⟨v7, M8, r9, h⟩ := h
        refine ok_callV2 dX5_threshold_24 kX5_threshold_242 r9 (by decide) rp_k154 rfl rfl (Nat.le_of_ble_eq_true rfl) ?_
        rintro _ _ ⟨rfl, rfl⟩
        refine ok_goto (tgt := 32) dX5_threshold_27 (by decide) ?_
        exact ok_ireturn dX5_threshold_32 rfl h
  · replace h := h.2 c1
    refine ok_aload_n dX5_threshold_5 rfl rfl ?_
    obtain ⟨v10, M11, r12, h⟩ := h
    refine ok_callV2 dX5_threshold_6 kX5_threshold_239 r12 (by decide) rp_k154 rfl rfl (Nat.le_of_ble_eq_true rfl) ?_
    rintro _ _ ⟨rfl, rfl⟩
    exact ok_ireturn dX5_threshold_9 rfl h
theorem vX5_plain (E : rp_E) (post : Option Int32 → rp_M → Prop) (M : rp_M) (l1 : Int32) (h : (l1 < 0 → (post (some (-1)) M)) ∧ (¬ l1 < 0 → (∃ v2 M3, rp_C E YX5_thresholds [.ref 154] M (some v2) M3 ∧ ((l1 < v2 → (∃ v6 M7, rp_C E YX5_thresholdAt [.ref 154, .int l1] M3 (some v6) M7 ∧ (∃ v9 M10, rp_C E YX5_capacity [.ref 154] M7 (some v9) M10 ∧ (∃ v12 M13, rp_C E YX5_budget [.ref 154, .int 1] M10 (some v12) M13 ∧ ((0 ≤ (v9 - (v12 * v6)) → (∃ P18 : rp_M → Prop, rp_Run E YX5_prepare [.ref 154] M13 (rp_P0 P18) ∧ (∀ M16, P18 M16 → (∃ P23 : Int32 → rp_M → Prop, rp_Run E YX2_plainValue [.ref 149, .ref 139, .ref 0, .int v6, .int (v9 - (v12 * v6))] M16 (rp_P P23) ∧ (∀ v20 M21, P23 v20 M21 → (post (some v20) M21)))))) ∧ (¬ 0 ≤ (v9 - (v12 * v6)) → (post (some (-6)) M13))))))) ∧ (¬ l1 < v2 → (post (some (-1)) M3)))))) : rp_Run E YX5_plain [.ref 154, .int l1] M post := by
  refine ok_start (by decide) oX5_plain (Nat.le_of_ble_eq_true rfl) ?_
  refine ok_iload_n dX5_plain_0 rfl rfl ?_
  refine ok_if_lt (tgt := 12) dX5_plain_1 (by decide) (fun c1 => ?_) (fun c1 => ?_)
  · replace h := h.1 c1
    refine ok_iconst (v := (-1)) dX5_plain_12 (by decide) ?_
    exact ok_ireturn dX5_plain_13 rfl h
  · replace h := h.2 c1
    refine ok_iload_n dX5_plain_4 rfl rfl ?_
    refine ok_aload_n dX5_plain_5 rfl rfl ?_
    obtain ⟨v2, M3, r4, h⟩ := h
    refine ok_callV2 dX5_plain_6 kX5_plain_239 r4 (by decide) rp_k154 rfl rfl (Nat.le_of_ble_eq_true rfl) ?_
    rintro _ _ ⟨rfl, rfl⟩
    refine ok_icmp_lt (tgt := 14) dX5_plain_9 (by decide) (fun c5 => ?_) (fun c5 => ?_)
    · replace h := h.1 c5
      refine ok_aload_n dX5_plain_14 rfl rfl ?_
      refine ok_iload_n dX5_plain_15 rfl rfl ?_
      obtain ⟨v6, M7, r8, h⟩ := h
      refine ok_callV2 dX5_plain_16 kX5_plain_242 r8 (by decide) rp_k154 rfl rfl (Nat.le_of_ble_eq_true rfl) ?_
      rintro _ _ ⟨rfl, rfl⟩
      refine ok_istore_n dX5_plain_19 rfl (by decide) rfl ?_
      refine ok_aload_n dX5_plain_20 rfl rfl ?_
      obtain ⟨v9, M10, r11, h⟩ := h
      refine ok_callV2 dX5_plain_21 kX5_plain_153 r11 (by decide) rp_k154 rfl rfl (Nat.le_of_ble_eq_true rfl) ?_
      rintro _ _ ⟨rfl, rfl⟩
      refine ok_aload_n dX5_plain_24 rfl rfl ?_
      refine ok_iconst (v := 1) dX5_plain_25 (by decide) ?_
      obtain ⟨v12, M13, r14, h⟩ := h
      refine ok_callV2 dX5_plain_26 kX5_plain_134 r14 (by decide) rp_k154 rfl rfl (Nat.le_of_ble_eq_true rfl) ?_
      rintro _ _ ⟨rfl, rfl⟩
      refine ok_iload_n dX5_plain_29 rfl rfl ?_
      refine ok_imul dX5_plain_30 ?_
      refine ok_isub dX5_plain_31 ?_
      refine ok_istore_n dX5_plain_32 rfl (by decide) rfl ?_
      refine ok_iload_n dX5_plain_33 rfl rfl ?_
      refine ok_if_ge (tgt := 40) dX5_plain_34 (by decide) (fun c15 => ?_) (fun c15 => ?_)
      · replace h := h.1 c15
        refine ok_aload_n dX5_plain_40 rfl rfl ?_
        obtain ⟨P18, r17, h⟩ := h
        refine ok_callV2 dX5_plain_41 kX5_plain_147 r17 (by decide) rp_k154 rfl rfl (Nat.le_of_ble_eq_true rfl) ?_
        rintro _ M16 ⟨rfl, q19⟩
        replace h := h M16 q19
        refine ok_aload_n dX5_plain_44 rfl rfl ?_
        refine ok_getR (j := 149) dX5_plain_45 fX5_plain_51 (by decide) rp_k154 rfl (by decide) ?_
        refine ok_aload_n dX5_plain_48 rfl rfl ?_
        refine ok_getR (j := 139) dX5_plain_49 fX5_plain_37 (by decide) rp_k154 rfl (by decide) ?_
        refine ok_aload_n dX5_plain_52 rfl rfl ?_
        refine ok_getR (j := 0) dX5_plain_53 fX5_plain_10 (by decide) rp_k154 rfl (by decide) ?_
        refine ok_iload_n dX5_plain_56 rfl rfl ?_
        refine ok_iload_n dX5_plain_57 rfl rfl ?_
        obtain ⟨P23, r22, h⟩ := h
        refine ok_callV2 dX5_plain_58 kX5_plain_245 r22 (by decide) rp_k149 rfl rfl (Nat.le_of_ble_eq_true rfl) ?_
        rintro _ M21 ⟨v20, rfl, q24⟩
        replace h := h v20 M21 q24
        exact ok_ireturn dX5_plain_61 rfl h
      · replace h := h.2 c15
        refine ok_bipush (v := (-6)) dX5_plain_37 (by decide) ?_
        exact ok_ireturn dX5_plain_39 rfl h
    · replace h := h.2 c5
      refine ok_iconst (v := (-1)) dX5_plain_12 (by decide) ?_
      exact ok_ireturn dX5_plain_13 rfl h
theorem vX5_recovered (E : rp_E) (post : Option Int32 → rp_M → Prop) (M : rp_M) (l1 : Int32) (l2 : Int32) (l3 : Int32) (h : ∃ v1 M2, rp_C E YX5_isChoice [.ref 154, .int l1] M (some v1) M2 ∧ ((v1 = 0 → (post (some (-1)) M2)) ∧ (¬ v1 = 0 → (∃ v5 M6, rp_C E YX5_isChoice [.ref 154, .int l2] M2 (some v5) M6 ∧ ((¬ v5 = 0 → ((l3 < 0 → (post (some (-2)) M6)) ∧ (¬ l3 < 0 → ((l3 ≤ 12 → (∃ v11 M12, rp_C E YJ6_bitCount_0f7a4 [.int l2] M6 (some v11) M12 ∧ (∃ v14 M15, rp_C E YX5_budget [.ref 154, .int 1] M12 (some v14) M15 ∧ ((v11 ≤ v14 → (∃ P20 : rp_M → Prop, rp_Run E YX5_prepare [.ref 154] M15 (rp_P0 P20) ∧ (∀ M18, P20 M18 → (∃ P24 : rp_M → Prop, rp_Run E YX2_collect [.ref 149, .ref 139, .ref 0, .int l1, .int l3] M18 (rp_P0 P24) ∧ (∀ M22, P24 M22 → (∃ v26 M27, rp_C E YX5_capacity [.ref 154] M22 (some v26) M27 ∧ (∃ P32 : Int32 → rp_M → Prop, rp_Run E YX2_profitIn [.ref 149, .int l2, .int 100000, .ref 142, .int v26] M27 (rp_P P32) ∧ (∀ v29 M30, P32 v29 M30 → (post (some v29) M30))))))))) ∧ (¬ v11 ≤ v14 → (post (some (-5)) M15)))))) ∧ (¬ l3 ≤ 12 → (post (some (-2)) M6)))))) ∧ (v5 = 0 → (post (some (-1)) M6))))))) : rp_Run E YX5_recovered [.ref 154, .int l1, .int l2, .int l3] M post := by
  refine ok_start (by decide) oX5_recovered (Nat.le_of_ble_eq_true rfl) ?_
  refine ok_aload_n dX5_recovered_0 rfl rfl ?_
  refine ok_iload_n dX5_recovered_1 rfl rfl ?_
  obtain ⟨v1, M2, r3, h⟩ := h
  refine ok_callV2 dX5_recovered_2 kX5_recovered_128 r3 (by decide) rp_k154 rfl rfl (Nat.le_of_ble_eq_true rfl) ?_
  rintro _ _ ⟨rfl, rfl⟩
  refine ok_if_eq (tgt := 16) dX5_recovered_5 (by decide) (fun c4 => ?_) (fun c4 => ?_)
  · replace h := h.1 c4
    refine ok_iconst (v := (-1)) dX5_recovered_16 (by decide) ?_
    exact ok_ireturn dX5_recovered_17 rfl h
  · replace h := h.2 c4
    refine ok_aload_n dX5_recovered_8 rfl rfl ?_
    refine ok_iload_n dX5_recovered_9 rfl rfl ?_
    obtain ⟨v5, M6, r7, h⟩ := h
    refine ok_callV2 dX5_recovered_10 kX5_recovered_128 r7 (by decide) rp_k154 rfl rfl (Nat.le_of_ble_eq_true rfl) ?_
    rintro _ _ ⟨rfl, rfl⟩
    refine ok_if_ne (tgt := 18) dX5_recovered_13 (by decide) (fun c8 => ?_) (fun c8 => ?_)
    · replace h := h.1 c8
      refine ok_iload_n dX5_recovered_18 rfl rfl ?_
      refine ok_if_lt (tgt := 28) dX5_recovered_19 (by decide) (fun c9 => ?_) (fun c9 => ?_)
      · replace h := h.1 c9
        refine ok_bipush (v := (-2)) dX5_recovered_28 (by decide) ?_
        exact ok_ireturn dX5_recovered_30 rfl h
      · replace h := h.2 c9
        refine ok_iload_n dX5_recovered_22 rfl rfl ?_
        refine ok_bipush (v := 12) dX5_recovered_23 (by decide) ?_
        refine ok_icmp_le (tgt := 31) dX5_recovered_25 (by decide) (fun c10 => ?_) (fun c10 => ?_)
        · replace h := h.1 c10
          refine ok_iload_n dX5_recovered_31 rfl rfl ?_
          obtain ⟨v11, M12, r13, h⟩ := h
          refine ok_callS2 dX5_recovered_32 kX5_recovered_164 r13 rfl rfl (Nat.le_of_ble_eq_true rfl) ?_
          rintro _ _ ⟨rfl, rfl⟩
          refine ok_aload_n dX5_recovered_35 rfl rfl ?_
          refine ok_iconst (v := 1) dX5_recovered_36 (by decide) ?_
          obtain ⟨v14, M15, r16, h⟩ := h
          refine ok_callV2 dX5_recovered_37 kX5_recovered_134 r16 (by decide) rp_k154 rfl rfl (Nat.le_of_ble_eq_true rfl) ?_
          rintro _ _ ⟨rfl, rfl⟩
          refine ok_icmp_le (tgt := 46) dX5_recovered_40 (by decide) (fun c17 => ?_) (fun c17 => ?_)
          · replace h := h.1 c17
            refine ok_aload_n dX5_recovered_46 rfl rfl ?_
            obtain ⟨P20, r19, h⟩ := h
            refine ok_callV2 dX5_recovered_47 kX5_recovered_147 r19 (by decide) rp_k154 rfl rfl (Nat.le_of_ble_eq_true rfl) ?_
            rintro _ M18 ⟨rfl, q21⟩
            replace h := h M18 q21
            refine ok_aload_n dX5_recovered_50 rfl rfl ?_
            refine ok_getR (j := 149) dX5_recovered_51 fX5_recovered_51 (by decide) rp_k154 rfl (by decide) ?_
            refine ok_aload_n dX5_recovered_54 rfl rfl ?_
            refine ok_getR (j := 139) dX5_recovered_55 fX5_recovered_37 (by decide) rp_k154 rfl (by decide) ?_
            refine ok_aload_n dX5_recovered_58 rfl rfl ?_
            refine ok_getR (j := 0) dX5_recovered_59 fX5_recovered_10 (by decide) rp_k154 rfl (by decide) ?_
            refine ok_iload_n dX5_recovered_62 rfl rfl ?_
            refine ok_iload_n dX5_recovered_63 rfl rfl ?_
            obtain ⟨P24, r23, h⟩ := h
            refine ok_callV2 dX5_recovered_64 kX5_recovered_249 r23 (by decide) rp_k149 rfl rfl (Nat.le_of_ble_eq_true rfl) ?_
            rintro _ M22 ⟨rfl, q25⟩
            replace h := h M22 q25
            refine ok_aload_n dX5_recovered_67 rfl rfl ?_
            refine ok_getR (j := 149) dX5_recovered_68 fX5_recovered_51 (by decide) rp_k154 rfl (by decide) ?_
            refine ok_iload_n dX5_recovered_71 rfl rfl ?_
            refine ok_ldc fX5_recovered_143 dX5_recovered_72 ?_
            refine ok_aload_n dX5_recovered_74 rfl rfl ?_
            refine ok_getR (j := 139) dX5_recovered_75 fX5_recovered_37 (by decide) rp_k154 rfl (by decide) ?_
            refine ok_getR (j := 142) dX5_recovered_78 fX5_recovered_232 (by decide) rp_k139 rfl (by decide) ?_
            refine ok_aload_n dX5_recovered_81 rfl rfl ?_
            obtain ⟨v26, M27, r28, h⟩ := h
            refine ok_callV2 dX5_recovered_82 kX5_recovered_153 r28 (by decide) rp_k154 rfl rfl (Nat.le_of_ble_eq_true rfl) ?_
            rintro _ _ ⟨rfl, rfl⟩
            obtain ⟨P32, r31, h⟩ := h
            refine ok_callV2 dX5_recovered_85 kX5_recovered_253 r31 (by decide) rp_k149 rfl rfl (Nat.le_of_ble_eq_true rfl) ?_
            rintro _ M30 ⟨v29, rfl, q33⟩
            replace h := h v29 M30 q33
            exact ok_ireturn dX5_recovered_88 rfl h
          · replace h := h.2 c17
            refine ok_bipush (v := (-5)) dX5_recovered_43 (by decide) ?_
            exact ok_ireturn dX5_recovered_45 rfl h
        · replace h := h.2 c10
          refine ok_bipush (v := (-2)) dX5_recovered_28 (by decide) ?_
          exact ok_ireturn dX5_recovered_30 rfl h
    · replace h := h.2 c8
      refine ok_iconst (v := (-1)) dX5_recovered_16 (by decide) ?_
      exact ok_ireturn dX5_recovered_17 rfl h
theorem vX5_adversary (E : rp_E) (post : Option Int32 → rp_M → Prop) (M : rp_M) (l1 : Int32) (l2 : Int32) (l3 : Int32) (h : ∃ v1 M2, rp_C E YX5_isChoice [.ref 154, .int l1] M (some v1) M2 ∧ ((¬ v1 = 0 → ((l2 < 0 → (post (some (-2)) M2)) ∧ (¬ l2 < 0 → ((12 < l2 → (post (some (-2)) M2)) ∧ (¬ 12 < l2 → ((l3 < 0 → (post (some (-2)) M2)) ∧ (¬ l3 < 0 → ((l3 ≤ 1 → (∃ P11 : rp_M → Prop, rp_Run E YX5_prepare [.ref 154] M2 (rp_P0 P11) ∧ (∀ M9, P11 M9 → (∃ P15 : rp_M → Prop, rp_Run E YX2_collect [.ref 149, .ref 139, .ref 0, .int l1, .int l2] M9 (rp_P0 P15) ∧ (∀ M13, P15 M13 → (rp_G E YX5_adversary post 63 [.ref 154, .int l1, .null, .int l3, .int 100000, .int 0, .int 0, .null] [] M13)))))) ∧ (¬ l3 ≤ 1 → (post (some (-2)) M2)))))))))) ∧ (v1 = 0 → (post (some (-1)) M2)))) : rp_Run E YX5_adversary [.ref 154, .int l1, .int l2, .int l3] M post := by
  refine ok_start (by decide) oX5_adversary (Nat.le_of_ble_eq_true rfl) ?_
  refine ok_aload_n dX5_adversary_0 rfl rfl ?_
  refine ok_iload_n dX5_adversary_1 rfl rfl ?_
  obtain ⟨v1, M2, r3, h⟩ := h
  refine ok_callV2 dX5_adversary_2 kX5_adversary_128 r3 (by decide) rp_k154 rfl rfl (Nat.le_of_ble_eq_true rfl) ?_
  rintro _ _ ⟨rfl, rfl⟩
  refine ok_if_ne (tgt := 10) dX5_adversary_5 (by decide) (fun c4 => ?_) (fun c4 => ?_)
  · replace h := h.1 c4
    refine ok_iload_n dX5_adversary_10 rfl rfl ?_
    refine ok_if_lt (tgt := 29) dX5_adversary_11 (by decide) (fun c5 => ?_) (fun c5 => ?_)
    · replace h := h.1 c5
      refine ok_bipush (v := (-2)) dX5_adversary_29 (by decide) ?_
      exact ok_ireturn dX5_adversary_31 rfl h
    · replace h := h.2 c5
      refine ok_iload_n dX5_adversary_14 rfl rfl ?_
      refine ok_bipush (v := 12) dX5_adversary_15 (by decide) ?_
      refine ok_icmp_gt (tgt := 29) dX5_adversary_17 (by decide) (fun c6 => ?_) (fun c6 => ?_)
      · replace h := h.1 c6
        refine ok_bipush (v := (-2)) dX5_adversary_29 (by decide) ?_
        exact ok_ireturn dX5_adversary_31 rfl h
      · replace h := h.2 c6
        refine ok_iload_n dX5_adversary_20 rfl rfl ?_
        refine ok_if_lt (tgt := 29) dX5_adversary_21 (by decide) (fun c7 => ?_) (fun c7 => ?_)
        · replace h := h.1 c7
          refine ok_bipush (v := (-2)) dX5_adversary_29 (by decide) ?_
          exact ok_ireturn dX5_adversary_31 rfl h
        · replace h := h.2 c7
          refine ok_iload_n dX5_adversary_24 rfl rfl ?_
          refine ok_iconst (v := 1) dX5_adversary_25 (by decide) ?_
          refine ok_icmp_le (tgt := 32) dX5_adversary_26 (by decide) (fun c8 => ?_) (fun c8 => ?_)
          · replace h := h.1 c8
            refine ok_aload_n dX5_adversary_32 rfl rfl ?_
            obtain ⟨P11, r10, h⟩ := h
            refine ok_callV2 dX5_adversary_33 kX5_adversary_147 r10 (by decide) rp_k154 rfl rfl (Nat.le_of_ble_eq_true rfl) ?_
            rintro _ M9 ⟨rfl, q12⟩
            replace h := h M9 q12
            refine ok_aload_n dX5_adversary_36 rfl rfl ?_
            refine ok_getR (j := 149) dX5_adversary_37 fX5_adversary_51 (by decide) rp_k154 rfl (by decide) ?_
            refine ok_aload_n dX5_adversary_40 rfl rfl ?_
            refine ok_getR (j := 139) dX5_adversary_41 fX5_adversary_37 (by decide) rp_k154 rfl (by decide) ?_
            refine ok_aload_n dX5_adversary_44 rfl rfl ?_
            refine ok_getR (j := 0) dX5_adversary_45 fX5_adversary_10 (by decide) rp_k154 rfl (by decide) ?_
            refine ok_iload_n dX5_adversary_48 rfl rfl ?_
            refine ok_iload_n dX5_adversary_49 rfl rfl ?_
            obtain ⟨P15, r14, h⟩ := h
            refine ok_callV2 dX5_adversary_50 kX5_adversary_249 r14 (by decide) rp_k149 rfl rfl (Nat.le_of_ble_eq_true rfl) ?_
            rintro _ M13 ⟨rfl, q16⟩
            replace h := h M13 q16
            refine ok_ldc fX5_adversary_143 dX5_adversary_53 ?_
            refine ok_istore dX5_adversary_55 (by decide) rfl ?_
            refine ok_iconst (v := 0) dX5_adversary_57 (by decide) ?_
            refine ok_istore dX5_adversary_58 (by decide) rfl ?_
            refine ok_iconst (v := 0) dX5_adversary_60 (by decide) ?_
            refine ok_istore dX5_adversary_61 (by decide) rfl ?_
            exact ok_mask [true, true, false, true, true, true, true, false] h
          · replace h := h.2 c8
            refine ok_bipush (v := (-2)) dX5_adversary_29 (by decide) ?_
            exact ok_ireturn dX5_adversary_31 rfl h
  · replace h := h.2 c4
    refine ok_iconst (v := (-1)) dX5_adversary_8 (by decide) ?_
    exact ok_ireturn dX5_adversary_9 rfl h
theorem vX5_adversary_63 (E : rp_E) (post : Option Int32 → rp_M → Prop) (M : rp_M) (l1 : Int32) (l3 : Int32) (l4 : Int32) (l5 : Int32) (l6 : Int32) (h : (l1 < l6 → ((¬ l3 = 0 → (post (some l5) M)) ∧ (l3 = 0 → (post (some l4) M)))) ∧ (¬ l1 < l6 → ((l4 < 0 → ((¬ l3 = 0 → (post (some l5) M)) ∧ (l3 = 0 → (post (some l4) M)))) ∧ (¬ l4 < 0 → ((¬ (l6 &&& (l1 ^^^ (-1))) = 0 → (rp_G E YX5_adversary post 63 [.ref 154, .int l1, .null, .int l3, .int l4, .int l5, .int (l6 + 1), .null] [] M)) ∧ ((l6 &&& (l1 ^^^ (-1))) = 0 → (∃ v22 M23, rp_C E YJ6_bitCount_0f7a4 [.int l6] M (some v22) M23 ∧ (∃ v25 M26, rp_C E YX5_budget [.ref 154, .int 1] M23 (some v25) M26 ∧ ((v22 ≤ v25 → (∃ v29 M30, rp_C E YX5_capacity [.ref 154] M26 (some v29) M30 ∧ (∃ P35 : Int32 → rp_M → Prop, rp_Run E YX2_profitIn [.ref 149, .int l6, .int l4, .ref 142, .int v29] M30 (rp_P P35) ∧ (∀ v32 M33, P35 v32 M33 → ((l4 ≤ v32 → (rp_G E YX5_adversary post 63 [.ref 154, .int l1, .null, .int l3, .int l4, .int l5, .int (l6 + 1), .null] [] M33)) ∧ (¬ l4 ≤ v32 → (rp_G E YX5_adversary post 63 [.ref 154, .int l1, .null, .int l3, .int v32, .int l6, .int (l6 + 1), .null] [] M33))))))) ∧ (¬ v22 ≤ v25 → (rp_G E YX5_adversary post 63 [.ref 154, .int l1, .null, .int l3, .int l4, .int l5, .int (l6 + 1), .null] [] M26))))))))))) : rp_G E YX5_adversary post 63 [.ref 154, .int l1, .null, .int l3, .int l4, .int l5, .int l6, .null] [] M := by
  refine ok_iload dX5_adversary_63 rfl ?_
  refine ok_iload_n dX5_adversary_65 rfl rfl ?_
  refine ok_icmp_gt (tgt := 144) dX5_adversary_66 (by decide) (fun c17 => ?_) (fun c17 => ?_)
  · replace h := h.1 c17
    refine ok_iload_n dX5_adversary_144 rfl rfl ?_
    refine ok_if_ne (tgt := 153) dX5_adversary_145 (by decide) (fun c18 => ?_) (fun c18 => ?_)
    · replace h := h.1 c18
      refine ok_iload dX5_adversary_153 rfl ?_
      exact ok_ireturn dX5_adversary_155 rfl h
    · replace h := h.2 c18
      refine ok_iload dX5_adversary_148 rfl ?_
      refine ok_goto (tgt := 155) dX5_adversary_150 (by decide) ?_
      exact ok_ireturn dX5_adversary_155 rfl h
  · replace h := h.2 c17
    refine ok_iload dX5_adversary_69 rfl ?_
    refine ok_if_lt (tgt := 144) dX5_adversary_71 (by decide) (fun c19 => ?_) (fun c19 => ?_)
    · replace h := h.1 c19
      refine ok_iload_n dX5_adversary_144 rfl rfl ?_
      refine ok_if_ne (tgt := 153) dX5_adversary_145 (by decide) (fun c20 => ?_) (fun c20 => ?_)
      · replace h := h.1 c20
        refine ok_iload dX5_adversary_153 rfl ?_
        exact ok_ireturn dX5_adversary_155 rfl h
      · replace h := h.2 c20
        refine ok_iload dX5_adversary_148 rfl ?_
        refine ok_goto (tgt := 155) dX5_adversary_150 (by decide) ?_
        exact ok_ireturn dX5_adversary_155 rfl h
    · replace h := h.2 c19
      refine ok_iload dX5_adversary_74 rfl ?_
      refine ok_iload_n dX5_adversary_76 rfl rfl ?_
      refine ok_iconst (v := (-1)) dX5_adversary_77 (by decide) ?_
      refine ok_ixor dX5_adversary_78 ?_
      refine ok_iand dX5_adversary_79 ?_
      refine ok_if_ne (tgt := 138) dX5_adversary_80 (by decide) (fun c21 => ?_) (fun c21 => ?_)
      · replace h := h.1 c21
        refine ok_iinc2 (w := 1) dX5_adversary_138 rfl (by decide) (by decide) rfl ?_
        refine ok_goto (tgt := 63) dX5_adversary_141 (by decide) ?_
        exact ok_mask [true, true, false, true, true, true, true, false] h
      · replace h := h.2 c21
        refine ok_iload dX5_adversary_83 rfl ?_
        obtain ⟨v22, M23, r24, h⟩ := h
        refine ok_callS2 dX5_adversary_85 kX5_adversary_164 r24 rfl rfl (Nat.le_of_ble_eq_true rfl) ?_
        rintro _ _ ⟨rfl, rfl⟩
        refine ok_aload_n dX5_adversary_88 rfl rfl ?_
        refine ok_iconst (v := 1) dX5_adversary_89 (by decide) ?_
        obtain ⟨v25, M26, r27, h⟩ := h
        refine ok_callV2 dX5_adversary_90 kX5_adversary_134 r27 (by decide) rp_k154 rfl rfl (Nat.le_of_ble_eq_true rfl) ?_
        rintro _ _ ⟨rfl, rfl⟩
        refine ok_icmp_le (tgt := 99) dX5_adversary_93 (by decide) (fun c28 => ?_) (fun c28 => ?_)
        · replace h := h.1 c28
          refine ok_aload_n dX5_adversary_99 rfl rfl ?_
          refine ok_getR (j := 149) dX5_adversary_100 fX5_adversary_51 (by decide) rp_k154 rfl (by decide) ?_
          refine ok_iload dX5_adversary_103 rfl ?_
          refine ok_iload dX5_adversary_105 rfl ?_
          refine ok_aload_n dX5_adversary_107 rfl rfl ?_
          refine ok_getR (j := 139) dX5_adversary_108 fX5_adversary_37 (by decide) rp_k154 rfl (by decide) ?_
          refine ok_getR (j := 142) dX5_adversary_111 fX5_adversary_232 (by decide) rp_k139 rfl (by decide) ?_
          refine ok_aload_n dX5_adversary_114 rfl rfl ?_
          obtain ⟨v29, M30, r31, h⟩ := h
          refine ok_callV2 dX5_adversary_115 kX5_adversary_153 r31 (by decide) rp_k154 rfl rfl (Nat.le_of_ble_eq_true rfl) ?_
          rintro _ _ ⟨rfl, rfl⟩
          obtain ⟨P35, r34, h⟩ := h
          refine ok_callV2 dX5_adversary_118 kX5_adversary_253 r34 (by decide) rp_k149 rfl rfl (Nat.le_of_ble_eq_true rfl) ?_
          rintro _ M33 ⟨v32, rfl, q36⟩
          replace h := h v32 M33 q36
          refine ok_istore dX5_adversary_121 (by decide) rfl ?_
          refine ok_iload dX5_adversary_123 rfl ?_
          refine ok_iload dX5_adversary_125 rfl ?_
          refine ok_icmp_ge (tgt := 138) dX5_adversary_127 (by decide) (fun c37 => ?_) (fun c37 => ?_)
          · replace h := h.1 c37
            refine ok_iinc2 (w := 1) dX5_adversary_138 rfl (by decide) (by decide) rfl ?_
            refine ok_goto (tgt := 63) dX5_adversary_141 (by decide) ?_
            exact ok_mask [true, true, false, true, true, true, true, false] h
          · replace h := h.2 c37
            refine ok_iload dX5_adversary_130 rfl ?_
            refine ok_istore dX5_adversary_132 (by decide) rfl ?_
            refine ok_iload dX5_adversary_134 rfl ?_
            refine ok_istore dX5_adversary_136 (by decide) rfl ?_
            refine ok_iinc2 (w := 1) dX5_adversary_138 rfl (by decide) (by decide) rfl ?_
            refine ok_goto (tgt := 63) dX5_adversary_141 (by decide) ?_
            exact ok_mask [true, true, false, true, true, true, true, false] h
        · replace h := h.2 c28
          refine ok_goto (tgt := 138) dX5_adversary_96 (by decide) ?_
          refine ok_iinc2 (w := 1) dX5_adversary_138 rfl (by decide) (by decide) rfl ?_
          refine ok_goto (tgt := 63) dX5_adversary_141 (by decide) ?_
          exact ok_mask [true, true, false, true, true, true, true, false] h
theorem vX5_undo (E : rp_E) (post : Option Int32 → rp_M → Prop) (M : rp_M)  (h : (¬ (M 154 2) = 0 → ((¬ (M 154 3) = 0 → (∀ M3, M3 = rp_s M 154 3 ((M 154 3) - 1) → (∀ M4, M4 = rp_s M3 154 2 ((M3 154 2) - 1) → (vp_in (M4 154 3) 12 ∧ (∃ P8 : rp_M → Prop, rp_Run E YX4_copyFrom [.ref 0, .ref (10 * (1 + Int32.toNatClampNeg (M4 154 3)))] M4 (rp_P0 P8) ∧ (∀ M6, P8 M6 → (∀ M10, M10 = rp_s M6 139 9 0 → (post (some (M10 154 2)) M10)))))))) ∧ ((M 154 3) = 0 → (∀ M11, M11 = rp_s M 154 3 11 → (∀ M12, M12 = rp_s M11 154 2 ((M11 154 2) - 1) → (vp_in (M12 154 3) 12 ∧ (∃ P16 : rp_M → Prop, rp_Run E YX4_copyFrom [.ref 0, .ref (10 * (1 + Int32.toNatClampNeg (M12 154 3)))] M12 (rp_P0 P16) ∧ (∀ M14, P16 M14 → (∀ M18, M18 = rp_s M14 139 9 0 → (post (some (M18 154 2)) M18)))))))))) ∧ ((M 154 2) = 0 → (post (some (-5)) M))) : rp_Run E YX5_undo [.ref 154] M post := by
  refine ok_start (by decide) oX5_undo (Nat.le_of_ble_eq_true rfl) ?_
  refine ok_aload_n dX5_undo_0 rfl rfl ?_
  refine ok_getI dX5_undo_1 fX5_undo_20 (by decide) rp_k154 rfl ?_
  refine ok_if_ne (tgt := 10) dX5_undo_4 (by decide) (fun c1 => ?_) (fun c1 => ?_)
  · replace h := h.1 c1
    refine ok_aload_n dX5_undo_10 rfl rfl ?_
    refine ok_aload_n dX5_undo_11 rfl rfl ?_
    refine ok_getI dX5_undo_12 fX5_undo_24 (by decide) rp_k154 rfl ?_
    refine ok_if_ne (tgt := 23) dX5_undo_15 (by decide) (fun c2 => ?_) (fun c2 => ?_)
    · replace h := h.1 c2
      refine ok_aload_n dX5_undo_23 rfl rfl ?_
      refine ok_getI dX5_undo_24 fX5_undo_24 (by decide) rp_k154 rfl ?_
      refine ok_iconst (v := 1) dX5_undo_27 (by decide) ?_
      refine ok_isub dX5_undo_28 ?_
      refine ok_put dX5_undo_29 pX5_undo_24 (by decide) rp_k154 rfl rfl rfl ?_
      replace h := h _ rfl
      refine ok_aload_n dX5_undo_32 rfl rfl ?_
      refine ok_dup dX5_undo_33 rfl ?_
      refine ok_getI dX5_undo_34 fX5_undo_20 (by decide) rp_k154 rfl ?_
      refine ok_iconst (v := 1) dX5_undo_37 (by decide) ?_
      refine ok_isub dX5_undo_38 ?_
      refine ok_put dX5_undo_39 pX5_undo_20 (by decide) rp_k154 rfl rfl rfl ?_
      replace h := h _ rfl
      refine ok_aload_n dX5_undo_42 rfl rfl ?_
      refine ok_getR (j := 0) dX5_undo_43 fX5_undo_10 (by decide) rp_k154 rfl (by decide) ?_
      refine ok_aload_n dX5_undo_46 rfl rfl ?_
      refine ok_getR (j := 130) dX5_undo_47 fX5_undo_16 (by decide) rp_k154 rfl (by decide) ?_
      refine ok_aload_n dX5_undo_50 rfl rfl ?_
      refine ok_getI dX5_undo_51 fX5_undo_24 (by decide) rp_k154 rfl ?_
      have b5 := h.1
      replace h := h.2
      refine ok_hist dX5_undo_54 b5 ?_
      obtain ⟨P8, r7, h⟩ := h
      refine ok_callV2 dX5_undo_55 kX5_undo_257 r7 (by decide) rp_k0 rfl rfl (Nat.le_of_ble_eq_true rfl) ?_
      rintro _ M6 ⟨rfl, q9⟩
      replace h := h M6 q9
      refine ok_aload_n dX5_undo_58 rfl rfl ?_
      refine ok_getR (j := 139) dX5_undo_59 fX5_undo_37 (by decide) rp_k154 rfl (by decide) ?_
      refine ok_iconst (v := 0) dX5_undo_62 (by decide) ?_
      refine ok_put dX5_undo_63 pX5_undo_191 (by decide) rp_k139 rfl (by decide) (by decide) ?_
      replace h := h _ rfl
      refine ok_aload_n dX5_undo_66 rfl rfl ?_
      refine ok_getI dX5_undo_67 fX5_undo_20 (by decide) rp_k154 rfl ?_
      exact ok_ireturn dX5_undo_70 rfl h
    · replace h := h.2 c2
      refine ok_bipush (v := 11) dX5_undo_18 (by decide) ?_
      refine ok_goto (tgt := 29) dX5_undo_20 (by decide) ?_
      refine ok_put dX5_undo_29 pX5_undo_24 (by decide) rp_k154 rfl rfl rfl ?_
      replace h := h _ rfl
      refine ok_aload_n dX5_undo_32 rfl rfl ?_
      refine ok_dup dX5_undo_33 rfl ?_
      refine ok_getI dX5_undo_34 fX5_undo_20 (by decide) rp_k154 rfl ?_
      refine ok_iconst (v := 1) dX5_undo_37 (by decide) ?_
      refine ok_isub dX5_undo_38 ?_
      refine ok_put dX5_undo_39 pX5_undo_20 (by decide) rp_k154 rfl rfl rfl ?_
      replace h := h _ rfl
      refine ok_aload_n dX5_undo_42 rfl rfl ?_
      refine ok_getR (j := 0) dX5_undo_43 fX5_undo_10 (by decide) rp_k154 rfl (by decide) ?_
      refine ok_aload_n dX5_undo_46 rfl rfl ?_
      refine ok_getR (j := 130) dX5_undo_47 fX5_undo_16 (by decide) rp_k154 rfl (by decide) ?_
      refine ok_aload_n dX5_undo_50 rfl rfl ?_
      refine ok_getI dX5_undo_51 fX5_undo_24 (by decide) rp_k154 rfl ?_
      have b13 := h.1
      replace h := h.2
      refine ok_hist dX5_undo_54 b13 ?_
      obtain ⟨P16, r15, h⟩ := h
      refine ok_callV2 dX5_undo_55 kX5_undo_257 r15 (by decide) rp_k0 rfl rfl (Nat.le_of_ble_eq_true rfl) ?_
      rintro _ M14 ⟨rfl, q17⟩
      replace h := h M14 q17
      refine ok_aload_n dX5_undo_58 rfl rfl ?_
      refine ok_getR (j := 139) dX5_undo_59 fX5_undo_37 (by decide) rp_k154 rfl (by decide) ?_
      refine ok_iconst (v := 0) dX5_undo_62 (by decide) ?_
      refine ok_put dX5_undo_63 pX5_undo_191 (by decide) rp_k139 rfl (by decide) (by decide) ?_
      replace h := h _ rfl
      refine ok_aload_n dX5_undo_66 rfl rfl ?_
      refine ok_getI dX5_undo_67 fX5_undo_20 (by decide) rp_k154 rfl ?_
      exact ok_ireturn dX5_undo_70 rfl h
  · replace h := h.2 c1
    refine ok_bipush (v := (-5)) dX5_undo_7 (by decide) ?_
    exact ok_ireturn dX5_undo_9 rfl h
theorem vX5_count (E : rp_E) (post : Option Int32 → rp_M → Prop) (M : rp_M) (l1 : Int32) (h : (l1 = 0 → (post (some (M 0 4)) M)) ∧ (l1 = 1 → (vp_in (l1 - 1) 3 ∧ (post (some (M 9 (Int32.toNatClampNeg (l1 - 1)))) M))) ∧ (l1 = 2 → (vp_in (l1 - 1) 3 ∧ (post (some (M 9 (Int32.toNatClampNeg (l1 - 1)))) M))) ∧ (l1 = 3 → (vp_in (l1 - 1) 3 ∧ (post (some (M 9 (Int32.toNatClampNeg (l1 - 1)))) M))) ∧ (l1 = 4 → (∃ v4 M5, rp_C E YX4_bitsIn [.ref 0, .ref 7] M (some v4) M5 ∧ (post (some (v4 / 2)) M5))) ∧ (l1 = 5 → (∃ v7 M8, rp_C E YX4_bitsIn [.ref 0, .ref 8] M (some v7) M8 ∧ (post (some v7) M8))) ∧ (l1 = 6 → (post (some (M 131 1)) M)) ∧ (l1 = 7 → (post (some (M 154 2)) M)) ∧ (¬ l1 = 0 → ¬ l1 = 1 → ¬ l1 = 2 → ¬ l1 = 3 → ¬ l1 = 4 → ¬ l1 = 5 → ¬ l1 = 6 → ¬ l1 = 7 → (post (some (-2)) M))) : rp_Run E YX5_count [.ref 154, .int l1] M post := by
  refine ok_start (by decide) oX5_count (Nat.le_of_ble_eq_true rfl) ?_
  refine ok_iload_n dX5_count_0 rfl rfl ?_
  by_cases c1_0 : l1 = 0
  · replace h := h.1 c1_0
    refine ok_tabIn (k := 0) (tgt := 48) dX5_count_1 (by rw [c1_0]; decide) (by decide) (by rfl) (by decide) ?_
    refine ok_aload_n dX5_count_48 rfl rfl ?_
    refine ok_getR (j := 0) dX5_count_49 fX5_count_10 (by decide) rp_k154 rfl (by decide) ?_
    refine ok_getI dX5_count_52 fX5_count_59 (by decide) rp_k0 rfl ?_
    exact ok_ireturn dX5_count_55 rfl h
  replace h := h.2
  by_cases c1_1 : l1 = 1
  · replace h := h.1 c1_1
    refine ok_tabIn (k := 1) (tgt := 56) dX5_count_1 (by rw [c1_1]; decide) (by decide) (by rfl) (by decide) ?_
    refine ok_aload_n dX5_count_56 rfl rfl ?_
    refine ok_getR (j := 0) dX5_count_57 fX5_count_10 (by decide) rp_k154 rfl (by decide) ?_
    refine ok_getR (j := 9) dX5_count_60 fX5_count_102 (by decide) rp_k0 rfl (by decide) ?_
    refine ok_iload_n dX5_count_63 rfl rfl ?_
    refine ok_iconst (v := 1) dX5_count_64 (by decide) ?_
    refine ok_isub dX5_count_65 ?_
    have b1 := h.1
    replace h := h.2
    refine ok_iaload dX5_count_66 (by decide) rp_k9 b1 rfl ?_
    exact ok_ireturn dX5_count_67 rfl h
  replace h := h.2
  by_cases c1_2 : l1 = 2
  · replace h := h.1 c1_2
    refine ok_tabIn (k := 2) (tgt := 56) dX5_count_1 (by rw [c1_2]; decide) (by decide) (by rfl) (by decide) ?_
    refine ok_aload_n dX5_count_56 rfl rfl ?_
    refine ok_getR (j := 0) dX5_count_57 fX5_count_10 (by decide) rp_k154 rfl (by decide) ?_
    refine ok_getR (j := 9) dX5_count_60 fX5_count_102 (by decide) rp_k0 rfl (by decide) ?_
    refine ok_iload_n dX5_count_63 rfl rfl ?_
    refine ok_iconst (v := 1) dX5_count_64 (by decide) ?_
    refine ok_isub dX5_count_65 ?_
    have b2 := h.1
    replace h := h.2
    refine ok_iaload dX5_count_66 (by decide) rp_k9 b2 rfl ?_
    exact ok_ireturn dX5_count_67 rfl h
  replace h := h.2
  by_cases c1_3 : l1 = 3
  · replace h := h.1 c1_3
    refine ok_tabIn (k := 3) (tgt := 56) dX5_count_1 (by rw [c1_3]; decide) (by decide) (by rfl) (by decide) ?_
    refine ok_aload_n dX5_count_56 rfl rfl ?_
    refine ok_getR (j := 0) dX5_count_57 fX5_count_10 (by decide) rp_k154 rfl (by decide) ?_
    refine ok_getR (j := 9) dX5_count_60 fX5_count_102 (by decide) rp_k0 rfl (by decide) ?_
    refine ok_iload_n dX5_count_63 rfl rfl ?_
    refine ok_iconst (v := 1) dX5_count_64 (by decide) ?_
    refine ok_isub dX5_count_65 ?_
    have b3 := h.1
    replace h := h.2
    refine ok_iaload dX5_count_66 (by decide) rp_k9 b3 rfl ?_
    exact ok_ireturn dX5_count_67 rfl h
  replace h := h.2
  by_cases c1_4 : l1 = 4
  · replace h := h.1 c1_4
    refine ok_tabIn (k := 4) (tgt := 68) dX5_count_1 (by rw [c1_4]; decide) (by decide) (by rfl) (by decide) ?_
    refine ok_aload_n dX5_count_68 rfl rfl ?_
    refine ok_getR (j := 0) dX5_count_69 fX5_count_10 (by decide) rp_k154 rfl (by decide) ?_
    refine ok_aload_n dX5_count_72 rfl rfl ?_
    refine ok_getR (j := 0) dX5_count_73 fX5_count_10 (by decide) rp_k154 rfl (by decide) ?_
    refine ok_getR (j := 7) dX5_count_76 fX5_count_85 (by decide) rp_k0 rfl (by decide) ?_
    obtain ⟨v4, M5, r6, h⟩ := h
    refine ok_callV2 dX5_count_79 kX5_count_261 r6 (by decide) rp_k0 rfl rfl (Nat.le_of_ble_eq_true rfl) ?_
    rintro _ _ ⟨rfl, rfl⟩
    refine ok_iconst (v := 2) dX5_count_82 (by decide) ?_
    refine ok_idiv dX5_count_83 (by decide) ?_
    exact ok_ireturn dX5_count_84 rfl h
  replace h := h.2
  by_cases c1_5 : l1 = 5
  · replace h := h.1 c1_5
    refine ok_tabIn (k := 5) (tgt := 85) dX5_count_1 (by rw [c1_5]; decide) (by decide) (by rfl) (by decide) ?_
    refine ok_aload_n dX5_count_85 rfl rfl ?_
    refine ok_getR (j := 0) dX5_count_86 fX5_count_10 (by decide) rp_k154 rfl (by decide) ?_
    refine ok_aload_n dX5_count_89 rfl rfl ?_
    refine ok_getR (j := 0) dX5_count_90 fX5_count_10 (by decide) rp_k154 rfl (by decide) ?_
    refine ok_getR (j := 8) dX5_count_93 fX5_count_89 (by decide) rp_k0 rfl (by decide) ?_
    obtain ⟨v7, M8, r9, h⟩ := h
    refine ok_callV2 dX5_count_96 kX5_count_261 r9 (by decide) rp_k0 rfl rfl (Nat.le_of_ble_eq_true rfl) ?_
    rintro _ _ ⟨rfl, rfl⟩
    exact ok_ireturn dX5_count_99 rfl h
  replace h := h.2
  by_cases c1_6 : l1 = 6
  · replace h := h.1 c1_6
    refine ok_tabIn (k := 6) (tgt := 100) dX5_count_1 (by rw [c1_6]; decide) (by decide) (by rfl) (by decide) ?_
    refine ok_aload_n dX5_count_100 rfl rfl ?_
    refine ok_getR (j := 131) dX5_count_101 fX5_count_30 (by decide) rp_k154 rfl (by decide) ?_
    refine ok_getI dX5_count_104 fX5_count_109 (by decide) rp_k131 rfl ?_
    exact ok_ireturn dX5_count_107 rfl h
  replace h := h.2
  by_cases c1_7 : l1 = 7
  · replace h := h.1 c1_7
    refine ok_tabIn (k := 7) (tgt := 108) dX5_count_1 (by rw [c1_7]; decide) (by decide) (by rfl) (by decide) ?_
    refine ok_aload_n dX5_count_108 rfl rfl ?_
    refine ok_getI dX5_count_109 fX5_count_20 (by decide) rp_k154 rfl ?_
    exact ok_ireturn dX5_count_112 rfl h
  replace h := h.2
  replace h := h c1_0 c1_1 c1_2 c1_3 c1_4 c1_5 c1_6 c1_7
  refine ok_tabOut (tgt := 113) dX5_count_1 (by have q := rp_tab_out (x := l1) 8 (by decide) (fun j hj => match j, hj with | 0, _ => c1_0 | 1, _ => c1_1 | 2, _ => c1_2 | 3, _ => c1_3 | 4, _ => c1_4 | 5, _ => c1_5 | 6, _ => c1_6 | 7, _ => c1_7 | j + 8, hj => absurd hj (by omega)); omega) (by decide) ?_
  refine ok_bipush (v := (-2)) dX5_count_113 (by decide) ?_
  exact ok_ireturn dX5_count_115 rfl h
