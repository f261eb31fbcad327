theorem vX6_layOwnTables (E : rp_E) (post : Option Int32 → rp_M → Prop) (M : rp_M)  (h : ∃ P3 : rp_M → Prop, rp_Run E YX6_layTables [.ref 155, .int (M 156 2), .int (M 156 3)] M (rp_P0 P3) ∧ (∀ M1, P3 M1 → (post none M1))) : rp_Run E YX6_layOwnTables [.ref 155] M post := by
  refine ok_start (by decide) oX6_layOwnTables (Nat.le_of_ble_eq_true rfl) ?_
  refine ok_aload_n dX6_layOwnTables_0 rfl rfl ?_
  refine ok_aload_n dX6_layOwnTables_1 rfl rfl ?_
  refine ok_getR (j := 156) dX6_layOwnTables_2 fX6_layOwnTables_7 (by decide) rp_k155 rfl (by decide) ?_
  refine ok_iconst (v := 2) dX6_layOwnTables_5 (by decide) ?_
  refine ok_iaload (j := 2) dX6_layOwnTables_6 (by decide) rp_k156 (rp_vi (by decide)) (by decide) ?_
  refine ok_aload_n dX6_layOwnTables_7 rfl rfl ?_
  refine ok_getR (j := 156) dX6_layOwnTables_8 fX6_layOwnTables_7 (by decide) rp_k155 rfl (by decide) ?_
  refine ok_iconst (v := 3) dX6_layOwnTables_11 (by decide) ?_
  refine ok_iaload (j := 3) dX6_layOwnTables_12 (by decide) rp_k156 (rp_vi (by decide)) (by decide) ?_
  obtain ⟨P3, r2, h⟩ := h
  refine ok_callV2 dX6_layOwnTables_13 kX6_layOwnTables_144 r2 (by decide) rp_k155 rfl rfl (Nat.le_of_ble_eq_true rfl) ?_
  rintro _ M1 ⟨rfl, q4⟩
  replace h := h M1 q4
  exact ok_return dX6_layOwnTables_16 rfl h
theorem vX6_mostBudget (E : rp_E) (post : Option Int32 → rp_M → Prop) (M : rp_M) (l1 : Int32) (h : rp_G E YX6_mostBudget post 5 [.ref 155, .int l1, .int (-6), .int 0] [] M) : rp_Run E YX6_mostBudget [.ref 155, .int l1] M post := by
  refine ok_start (by decide) oX6_mostBudget (Nat.le_of_ble_eq_true rfl) ?_
  refine ok_bipush (v := (-6)) dX6_mostBudget_0 (by decide) ?_
  refine ok_istore_n dX6_mostBudget_2 rfl (by decide) rfl ?_
  refine ok_iconst (v := 0) dX6_mostBudget_3 (by decide) ?_
  refine ok_istore_n dX6_mostBudget_4 rfl (by decide) rfl ?_
  exact ok_mask [true, true, true, true] h
theorem vX6_mostBudget_5 (E : rp_E) (post : Option Int32 → rp_M → Prop) (M : rp_M) (l1 : Int32) (l2 : Int32) (l3 : Int32) (h : (12 < l3 → (post (some l2) M)) ∧ (¬ 12 < l3 → (∃ v2 M3, rp_C E YX6_protectedWeight [.ref 155, .int l1, .int l3] M (some v2) M3 ∧ (((M3 156 1) < v2 → (rp_G E YX6_mostBudget post 5 [.ref 155, .int l1, .int l2, .int (l3 + 1)] [] M3)) ∧ (¬ (M3 156 1) < v2 → (rp_G E YX6_mostBudget post 5 [.ref 155, .int l1, .int l3, .int (l3 + 1)] [] M3)))))) : rp_G E YX6_mostBudget post 5 [.ref 155, .int l1, .int l2, .int l3] [] M := by
  refine ok_iload_n dX6_mostBudget_5 rfl rfl ?_
  refine ok_bipush (v := 12) dX6_mostBudget_6 (by decide) ?_
  refine ok_icmp_gt (tgt := 38) dX6_mostBudget_8 (by decide) (fun c1 => ?_) (fun c1 => ?_)
  · replace h := h.1 c1
    refine ok_iload_n dX6_mostBudget_38 rfl rfl ?_
    exact ok_ireturn dX6_mostBudget_39 rfl h
  · replace h := h.2 c1
    refine ok_aload_n dX6_mostBudget_11 rfl rfl ?_
    refine ok_iload_n dX6_mostBudget_12 rfl rfl ?_
    refine ok_iload_n dX6_mostBudget_13 rfl rfl ?_
    obtain ⟨v2, M3, r4, h⟩ := h
    refine ok_callV2 dX6_mostBudget_14 kX6_mostBudget_138 r4 (by decide) rp_k155 rfl rfl (Nat.le_of_ble_eq_true rfl) ?_
    rintro _ _ ⟨rfl, rfl⟩
    refine ok_aload_n dX6_mostBudget_17 rfl rfl ?_
    refine ok_getR (j := 156) dX6_mostBudget_18 fX6_mostBudget_7 (by decide) rp_k155 rfl (by decide) ?_
    refine ok_iconst (v := 1) dX6_mostBudget_21 (by decide) ?_
    refine ok_iaload (j := 1) dX6_mostBudget_22 (by decide) rp_k156 (rp_vi (by decide)) (by decide) ?_
    refine ok_icmp_gt (tgt := 30) dX6_mostBudget_23 (by decide) (fun c5 => ?_) (fun c5 => ?_)
    · replace h := h.1 c5
      refine ok_iload_n dX6_mostBudget_30 rfl rfl ?_
      refine ok_istore_n dX6_mostBudget_31 rfl (by decide) rfl ?_
      refine ok_iinc2 (w := 1) dX6_mostBudget_32 rfl (by decide) (by decide) rfl ?_
      refine ok_goto (tgt := 5) dX6_mostBudget_35 (by decide) ?_
      exact ok_mask [true, true, true, true] h
    · replace h := h.2 c5
      refine ok_iload_n dX6_mostBudget_26 rfl rfl ?_
      refine ok_goto (tgt := 31) dX6_mostBudget_27 (by decide) ?_
      refine ok_istore_n dX6_mostBudget_31 rfl (by decide) rfl ?_
      refine ok_iinc2 (w := 1) dX6_mostBudget_32 rfl (by decide) (by decide) rfl ?_
      refine ok_goto (tgt := 5) dX6_mostBudget_35 (by decide) ?_
      exact ok_mask [true, true, true, true] h
theorem vX6_choice (E : rp_E) (post : Option Int32 → rp_M → Prop) (M : rp_M) (l1 : Int32) (l2 : Int32) (h : ∃ v1 M2, rp_C E YX6_isChoice [.ref 155, .int l1] M (some v1) M2 ∧ ((¬ v1 = 0 → ((l2 = 0 → (∃ v5 M6, rp_C E YX6_sum [.ref 155, .int l1, .int 1] M2 (some v5) M6 ∧ (post (some v5) M6))) ∧ (l2 = 1 → (∃ v8 M9, rp_C E YX6_protectedWeight [.ref 155, .int l1, .int (M2 156 2)] M2 (some v8) M9 ∧ (post (some v8) M9))) ∧ (l2 = 2 → (∃ v11 M12, rp_C E YX6_sum [.ref 155, .int l1, .int 0] M2 (some v11) M12 ∧ (post (some (v11 + 100000)) M12))) ∧ (l2 = 3 → (∃ v14 M15, rp_C E YX6_protectedProfit [.ref 155, .int l1, .int (M2 156 3)] M2 (some v14) M15 ∧ (post (some (v14 + 100000)) M15))) ∧ (l2 = 4 → (∃ v17 M18, rp_C E YX6_isAllowed [.ref 155, .int l1] M2 (some v17) M18 ∧ ((v17 = 0 → (post (some 0) M18)) ∧ (¬ v17 = 0 → (post (some 1) M18))))) ∧ (l2 = 5 → (∃ v21 M22, rp_C E YX6_protectedWeight [.ref 155, .int l1, .int (M2 156 2)] M2 (some v21) M22 ∧ (((M22 156 1) < v21 → (post (some 0) M22)) ∧ (¬ (M22 156 1) < v21 → (post (some 1) M22))))) ∧ (l2 = 6 → (∃ v25 M26, rp_C E YX6_worst [.ref 155, .int l1, .int 2, .int (M2 156 2)] M2 (some v25) M26 ∧ (post (some v25) M26))) ∧ (l2 = 7 → (∃ v28 M29, rp_C E YX6_worst [.ref 155, .int l1, .int 3, .int (M2 156 3)] M2 (some v28) M29 ∧ (post (some v28) M29))) ∧ (l2 = 8 → (∃ v31 M32, rp_C E YX6_mostBudget [.ref 155, .int l1] M2 (some v31) M32 ∧ (post (some v31) M32))) ∧ (¬ l2 = 0 → ¬ l2 = 1 → ¬ l2 = 2 → ¬ l2 = 3 → ¬ l2 = 4 → ¬ l2 = 5 → ¬ l2 = 6 → ¬ l2 = 7 → ¬ l2 = 8 → (post (some (-2)) M2)))) ∧ (v1 = 0 → (post (some (-1)) M2)))) : rp_Run E YX6_choice [.ref 155, .int l1, .int l2] M post := by
  refine ok_start (by decide) oX6_choice (Nat.le_of_ble_eq_true rfl) ?_
  refine ok_aload_n dX6_choice_0 rfl rfl ?_
  refine ok_iload_n dX6_choice_1 rfl rfl ?_
  obtain ⟨v1, M2, r3, h⟩ := h
  refine ok_callV2 dX6_choice_2 kX6_choice_148 r3 (by decide) rp_k155 rfl rfl (Nat.le_of_ble_eq_true rfl) ?_
  rintro _ _ ⟨rfl, rfl⟩
  refine ok_if_ne (tgt := 10) dX6_choice_5 (by decide) (fun c4 => ?_) (fun c4 => ?_)
  · replace h := h.1 c4
    refine ok_aload_n dX6_choice_10 rfl rfl ?_
    refine ok_getR (j := 156) dX6_choice_11 fX6_choice_7 (by decide) rp_k155 rfl (by decide) ?_
    refine ok_iconst (v := 2) dX6_choice_14 (by decide) ?_
    refine ok_iaload (j := 2) dX6_choice_15 (by decide) rp_k156 (rp_vi (by decide)) (by decide) ?_
    refine ok_istore_n dX6_choice_16 rfl (by decide) rfl ?_
    refine ok_iload_n dX6_choice_17 rfl rfl ?_
    by_cases c18_0 : l2 = 0
    · replace h := h.1 c18_0
      refine ok_tabIn (k := 0) (tgt := 68) dX6_choice_18 (by rw [c18_0]; decide) (by decide) (by rfl) (by decide) ?_
      refine ok_aload_n dX6_choice_68 rfl rfl ?_
      refine ok_iload_n dX6_choice_69 rfl rfl ?_
      refine ok_iconst (v := 1) dX6_choice_70 (by decide) ?_
      obtain ⟨v5, M6, r7, h⟩ := h
      refine ok_callV2 dX6_choice_71 kX6_choice_125 r7 (by decide) rp_k155 rfl rfl (Nat.le_of_ble_eq_true rfl) ?_
      rintro _ _ ⟨rfl, rfl⟩
      exact ok_ireturn dX6_choice_74 rfl h
    replace h := h.2
    by_cases c18_1 : l2 = 1
    · replace h := h.1 c18_1
      refine ok_tabIn (k := 1) (tgt := 75) dX6_choice_18 (by rw [c18_1]; decide) (by decide) (by rfl) (by decide) ?_
      refine ok_aload_n dX6_choice_75 rfl rfl ?_
      refine ok_iload_n dX6_choice_76 rfl rfl ?_
      refine ok_iload_n dX6_choice_77 rfl rfl ?_
      obtain ⟨v8, M9, r10, h⟩ := h
      refine ok_callV2 dX6_choice_78 kX6_choice_138 r10 (by decide) rp_k155 rfl rfl (Nat.le_of_ble_eq_true rfl) ?_
      rintro _ _ ⟨rfl, rfl⟩
      exact ok_ireturn dX6_choice_81 rfl h
    replace h := h.2
    by_cases c18_2 : l2 = 2
    · replace h := h.1 c18_2
      refine ok_tabIn (k := 2) (tgt := 82) dX6_choice_18 (by rw [c18_2]; decide) (by decide) (by rfl) (by decide) ?_
      refine ok_aload_n dX6_choice_82 rfl rfl ?_
      refine ok_iload_n dX6_choice_83 rfl rfl ?_
      refine ok_iconst (v := 0) dX6_choice_84 (by decide) ?_
      obtain ⟨v11, M12, r13, h⟩ := h
      refine ok_callV2 dX6_choice_85 kX6_choice_125 r13 (by decide) rp_k155 rfl rfl (Nat.le_of_ble_eq_true rfl) ?_
      rintro _ _ ⟨rfl, rfl⟩
      refine ok_ldc fX6_choice_151 dX6_choice_88 ?_
      refine ok_iadd dX6_choice_90 ?_
      exact ok_ireturn dX6_choice_91 rfl h
    replace h := h.2
    by_cases c18_3 : l2 = 3
    · replace h := h.1 c18_3
      refine ok_tabIn (k := 3) (tgt := 92) dX6_choice_18 (by rw [c18_3]; decide) (by decide) (by rfl) (by decide) ?_
      refine ok_aload_n dX6_choice_92 rfl rfl ?_
      refine ok_iload_n dX6_choice_93 rfl rfl ?_
      refine ok_aload_n dX6_choice_94 rfl rfl ?_
      refine ok_getR (j := 156) dX6_choice_95 fX6_choice_7 (by decide) rp_k155 rfl (by decide) ?_
      refine ok_iconst (v := 3) dX6_choice_98 (by decide) ?_
      refine ok_iaload (j := 3) dX6_choice_99 (by decide) rp_k156 (rp_vi (by decide)) (by decide) ?_
      obtain ⟨v14, M15, r16, h⟩ := h
      refine ok_callV2 dX6_choice_100 kX6_choice_141 r16 (by decide) rp_k155 rfl rfl (Nat.le_of_ble_eq_true rfl) ?_
      rintro _ _ ⟨rfl, rfl⟩
      refine ok_ldc fX6_choice_151 dX6_choice_103 ?_
      refine ok_iadd dX6_choice_105 ?_
      exact ok_ireturn dX6_choice_106 rfl h
    replace h := h.2
    by_cases c18_4 : l2 = 4
    · replace h := h.1 c18_4
      refine ok_tabIn (k := 4) (tgt := 107) dX6_choice_18 (by rw [c18_4]; decide) (by decide) (by rfl) (by decide) ?_
      refine ok_aload_n dX6_choice_107 rfl rfl ?_
      refine ok_iload_n dX6_choice_108 rfl rfl ?_
      obtain ⟨v17, M18, r19, h⟩ := h
      refine ok_callV2 dX6_choice_109 kX6_choice_135 r19 (by decide) rp_k155 rfl rfl (Nat.le_of_ble_eq_true rfl) ?_
      rintro _ _ ⟨rfl, rfl⟩
      refine ok_if_eq (tgt := 119) dX6_choice_112 (by decide) (fun c20 => ?_) (fun c20 => ?_)
      · replace h := h.1 c20
        refine ok_iconst (v := 0) dX6_choice_119 (by decide) ?_
        exact ok_ireturn dX6_choice_120 rfl h
      · replace h := h.2 c20
        refine ok_iconst (v := 1) dX6_choice_115 (by decide) ?_
        refine ok_goto (tgt := 120) dX6_choice_116 (by decide) ?_
        exact ok_ireturn dX6_choice_120 rfl h
    replace h := h.2
    by_cases c18_5 : l2 = 5
    · replace h := h.1 c18_5
      refine ok_tabIn (k := 5) (tgt := 121) dX6_choice_18 (by rw [c18_5]; decide) (by decide) (by rfl) (by decide) ?_
      refine ok_aload_n dX6_choice_121 rfl rfl ?_
      refine ok_iload_n dX6_choice_122 rfl rfl ?_
      refine ok_iload_n dX6_choice_123 rfl rfl ?_
      obtain ⟨v21, M22, r23, h⟩ := h
      refine ok_callV2 dX6_choice_124 kX6_choice_138 r23 (by decide) rp_k155 rfl rfl (Nat.le_of_ble_eq_true rfl) ?_
      rintro _ _ ⟨rfl, rfl⟩
      refine ok_aload_n dX6_choice_127 rfl rfl ?_
      refine ok_getR (j := 156) dX6_choice_128 fX6_choice_7 (by decide) rp_k155 rfl (by decide) ?_
      refine ok_iconst (v := 1) dX6_choice_131 (by decide) ?_
      refine ok_iaload (j := 1) dX6_choice_132 (by decide) rp_k156 (rp_vi (by decide)) (by decide) ?_
      refine ok_icmp_gt (tgt := 140) dX6_choice_133 (by decide) (fun c24 => ?_) (fun c24 => ?_)
      · replace h := h.1 c24
        refine ok_iconst (v := 0) dX6_choice_140 (by decide) ?_
        exact ok_ireturn dX6_choice_141 rfl h
      · replace h := h.2 c24
        refine ok_iconst (v := 1) dX6_choice_136 (by decide) ?_
        refine ok_goto (tgt := 141) dX6_choice_137 (by decide) ?_
        exact ok_ireturn dX6_choice_141 rfl h
    replace h := h.2
    by_cases c18_6 : l2 = 6
    · replace h := h.1 c18_6
      refine ok_tabIn (k := 6) (tgt := 142) dX6_choice_18 (by rw [c18_6]; decide) (by decide) (by rfl) (by decide) ?_
      refine ok_aload_n dX6_choice_142 rfl rfl ?_
      refine ok_iload_n dX6_choice_143 rfl rfl ?_
      refine ok_iconst (v := 2) dX6_choice_144 (by decide) ?_
      refine ok_iload_n dX6_choice_145 rfl rfl ?_
      obtain ⟨v25, M26, r27, h⟩ := h
      refine ok_callV2 dX6_choice_146 kX6_choice_128 r27 (by decide) rp_k155 rfl rfl (Nat.le_of_ble_eq_true rfl) ?_
      rintro _ _ ⟨rfl, rfl⟩
      exact ok_ireturn dX6_choice_149 rfl h
    replace h := h.2
    by_cases c18_7 : l2 = 7
    · replace h := h.1 c18_7
      refine ok_tabIn (k := 7) (tgt := 150) dX6_choice_18 (by rw [c18_7]; decide) (by decide) (by rfl) (by decide) ?_
      refine ok_aload_n dX6_choice_150 rfl rfl ?_
      refine ok_iload_n dX6_choice_151 rfl rfl ?_
      refine ok_iconst (v := 3) dX6_choice_152 (by decide) ?_
      refine ok_aload_n dX6_choice_153 rfl rfl ?_
      refine ok_getR (j := 156) dX6_choice_154 fX6_choice_7 (by decide) rp_k155 rfl (by decide) ?_
      refine ok_iconst (v := 3) dX6_choice_157 (by decide) ?_
      refine ok_iaload (j := 3) dX6_choice_158 (by decide) rp_k156 (rp_vi (by decide)) (by decide) ?_
      obtain ⟨v28, M29, r30, h⟩ := h
      refine ok_callV2 dX6_choice_159 kX6_choice_128 r30 (by decide) rp_k155 rfl rfl (Nat.le_of_ble_eq_true rfl) ?_
      rintro _ _ ⟨rfl, rfl⟩
      exact ok_ireturn dX6_choice_162 rfl h
    replace h := h.2
    by_cases c18_8 : l2 = 8
    · replace h := h.1 c18_8
      refine ok_tabIn (k := 8) (tgt := 163) dX6_choice_18 (by rw [c18_8]; decide) (by decide) (by rfl) (by decide) ?_
      refine ok_aload_n dX6_choice_163 rfl rfl ?_
      refine ok_iload_n dX6_choice_164 rfl rfl ?_
      obtain ⟨v31, M32, r33, h⟩ := h
      refine ok_callV2 dX6_choice_165 kX6_choice_152 r33 (by decide) rp_k155 rfl rfl (Nat.le_of_ble_eq_true rfl) ?_
      rintro _ _ ⟨rfl, rfl⟩
      exact ok_ireturn dX6_choice_168 rfl h
    replace h := h.2
    replace h := h c18_0 c18_1 c18_2 c18_3 c18_4 c18_5 c18_6 c18_7 c18_8
    refine ok_tabOut (tgt := 169) dX6_choice_18 (by have q := rp_tab_out (x := l2) 9 (by decide) (fun j hj => match j, hj with | 0, _ => c18_0 | 1, _ => c18_1 | 2, _ => c18_2 | 3, _ => c18_3 | 4, _ => c18_4 | 5, _ => c18_5 | 6, _ => c18_6 | 7, _ => c18_7 | 8, _ => c18_8 | j + 9, hj => absurd hj (by omega)); omega) (by decide) ?_
    refine ok_bipush (v := (-2)) dX6_choice_169 (by decide) ?_
    exact ok_ireturn dX6_choice_171 rfl h
  · replace h := h.2 c4
    refine ok_iconst (v := (-1)) dX6_choice_8 (by decide) ?_
    exact ok_ireturn dX6_choice_9 rfl h
theorem vX6_weightIn (E : rp_E) (post : Option Int32 → rp_M → Prop) (M : rp_M) (l1 : Int32) (l2 : Int32) (h : ∃ v1 M2, rp_C E YX6_isChoice [.ref 155, .int l1] M (some v1) M2 ∧ ((v1 = 0 → (post (some (-1)) M2)) ∧ (¬ v1 = 0 → (∃ v5 M6, rp_C E YX6_isChoice [.ref 155, .int l2] M2 (some v5) M6 ∧ ((¬ v5 = 0 → (∃ v9 M10, rp_C E YX6_sizeOf [.int l2] M6 (some v9) M10 ∧ ((v9 ≤ (M10 156 2) → (∃ v13 M14, rp_C E YX6_sum [.ref 155, .int l1, .int 1] M10 (some v13) M14 ∧ (∃ v16 M17, rp_C E YX6_sum [.ref 155, .int (l1 &&& l2), .int 2] M14 (some v16) M17 ∧ (post (some (v13 + v16)) M17)))) ∧ (¬ v9 ≤ (M10 156 2) → (post (some (-5)) M10))))) ∧ (v5 = 0 → (post (some (-1)) M6))))))) : rp_Run E YX6_weightIn [.ref 155, .int l1, .int l2] M post := by
  refine ok_start (by decide) oX6_weightIn (Nat.le_of_ble_eq_true rfl) ?_
  refine ok_aload_n dX6_weightIn_0 rfl rfl ?_
  refine ok_iload_n dX6_weightIn_1 rfl rfl ?_
  obtain ⟨v1, M2, r3, h⟩ := h
  refine ok_callV2 dX6_weightIn_2 kX6_weightIn_148 r3 (by decide) rp_k155 rfl rfl (Nat.le_of_ble_eq_true rfl) ?_
  rintro _ _ ⟨rfl, rfl⟩
  refine ok_if_eq (tgt := 16) dX6_weightIn_5 (by decide) (fun c4 => ?_) (fun c4 => ?_)
  · replace h := h.1 c4
    refine ok_iconst (v := (-1)) dX6_weightIn_16 (by decide) ?_
    exact ok_ireturn dX6_weightIn_17 rfl h
  · replace h := h.2 c4
    refine ok_aload_n dX6_weightIn_8 rfl rfl ?_
    refine ok_iload_n dX6_weightIn_9 rfl rfl ?_
    obtain ⟨v5, M6, r7, h⟩ := h
    refine ok_callV2 dX6_weightIn_10 kX6_weightIn_148 r7 (by decide) rp_k155 rfl rfl (Nat.le_of_ble_eq_true rfl) ?_
    rintro _ _ ⟨rfl, rfl⟩
    refine ok_if_ne (tgt := 18) dX6_weightIn_13 (by decide) (fun c8 => ?_) (fun c8 => ?_)
    · replace h := h.1 c8
      refine ok_iload_n dX6_weightIn_18 rfl rfl ?_
      obtain ⟨v9, M10, r11, h⟩ := h
      refine ok_callS2 dX6_weightIn_19 kX6_weightIn_155 r11 rfl rfl (Nat.le_of_ble_eq_true rfl) ?_
      rintro _ _ ⟨rfl, rfl⟩
      refine ok_aload_n dX6_weightIn_22 rfl rfl ?_
      refine ok_getR (j := 156) dX6_weightIn_23 fX6_weightIn_7 (by decide) rp_k155 rfl (by decide) ?_
      refine ok_iconst (v := 2) dX6_weightIn_26 (by decide) ?_
      refine ok_iaload (j := 2) dX6_weightIn_27 (by decide) rp_k156 (rp_vi (by decide)) (by decide) ?_
      refine ok_icmp_le (tgt := 34) dX6_weightIn_28 (by decide) (fun c12 => ?_) (fun c12 => ?_)
      · replace h := h.1 c12
        refine ok_aload_n dX6_weightIn_34 rfl rfl ?_
        refine ok_iload_n dX6_weightIn_35 rfl rfl ?_
        refine ok_iconst (v := 1) dX6_weightIn_36 (by decide) ?_
        obtain ⟨v13, M14, r15, h⟩ := h
        refine ok_callV2 dX6_weightIn_37 kX6_weightIn_125 r15 (by decide) rp_k155 rfl rfl (Nat.le_of_ble_eq_true rfl) ?_
        rintro _ _ ⟨rfl, rfl⟩
        refine ok_aload_n dX6_weightIn_40 rfl rfl ?_
        refine ok_iload_n dX6_weightIn_41 rfl rfl ?_
        refine ok_iload_n dX6_weightIn_42 rfl rfl ?_
        refine ok_iand dX6_weightIn_43 ?_
        refine ok_iconst (v := 2) dX6_weightIn_44 (by decide) ?_
        obtain ⟨v16, M17, r18, h⟩ := h
        refine ok_callV2 dX6_weightIn_45 kX6_weightIn_125 r18 (by decide) rp_k155 rfl rfl (Nat.le_of_ble_eq_true rfl) ?_
        rintro _ _ ⟨rfl, rfl⟩
        refine ok_iadd dX6_weightIn_48 ?_
        exact ok_ireturn dX6_weightIn_49 rfl h
      · replace h := h.2 c12
        refine ok_bipush (v := (-5)) dX6_weightIn_31 (by decide) ?_
        exact ok_ireturn dX6_weightIn_33 rfl h
    · replace h := h.2 c8
      refine ok_iconst (v := (-1)) dX6_weightIn_16 (by decide) ?_
      exact ok_ireturn dX6_weightIn_17 rfl h
theorem vX6_bestBy (E : rp_E) (post : Option Int32 → rp_M → Prop) (M : rp_M) (l1 : Int32) (h : rp_G E YX6_bestBy post 4 [.ref 155, .int l1, .int 0, .int 0, .null] [] M) : rp_Run E YX6_bestBy [.ref 155, .int l1] M post := by
  refine ok_start (by decide) oX6_bestBy (Nat.le_of_ble_eq_true rfl) ?_
  refine ok_iconst (v := 0) dX6_bestBy_0 (by decide) ?_
  refine ok_istore_n dX6_bestBy_1 rfl (by decide) rfl ?_
  refine ok_iconst (v := 0) dX6_bestBy_2 (by decide) ?_
  refine ok_istore_n dX6_bestBy_3 rfl (by decide) rfl ?_
  exact ok_mask [true, true, true, true, false] h
theorem vX6_bestBy_4 (E : rp_E) (post : Option Int32 → rp_M → Prop) (M : rp_M) (l1 : Int32) (l2 : Int32) (l3 : Int32) (h : ∃ v1 M2, rp_C E YX6_sets [.ref 155] M (some v1) M2 ∧ ((v1 ≤ l3 → (post (some l2) M2)) ∧ (¬ v1 ≤ l3 → (vp_in l3 4096 ∧ (((M2 162 (Int32.toNatClampNeg l3)) = 0 → (rp_G E YX6_bestBy post 4 [.ref 155, .int l1, .int l2, .int (l3 + 1), .null] [] M2)) ∧ (¬ (M2 162 (Int32.toNatClampNeg l3)) = 0 → ((l1 < (M2 160 (Int32.toNatClampNeg l3)) → (rp_G E YX6_bestBy post 4 [.ref 155, .int l1, .int l2, .int (l3 + 1), .null] [] M2)) ∧ (¬ l1 < (M2 160 (Int32.toNatClampNeg l3)) → (vp_in l2 4096 ∧ (((M2 161 (Int32.toNatClampNeg l2)) < (M2 161 (Int32.toNatClampNeg l3)) → (rp_G E YX6_bestBy post 4 [.ref 155, .int l1, .int l3, .int (l3 + 1), .null] [] M2)) ∧ (¬ (M2 161 (Int32.toNatClampNeg l2)) < (M2 161 (Int32.toNatClampNeg l3)) → ((¬ (M2 161 (Int32.toNatClampNeg l3)) = (M2 161 (Int32.toNatClampNeg l2)) → (rp_G E YX6_bestBy post 4 [.ref 155, .int l1, .int l2, .int (l3 + 1), .null] [] M2)) ∧ ((M2 161 (Int32.toNatClampNeg l3)) = (M2 161 (Int32.toNatClampNeg l2)) → (((M2 160 (Int32.toNatClampNeg l2)) ≤ (M2 160 (Int32.toNatClampNeg l3)) → (rp_G E YX6_bestBy post 4 [.ref 155, .int l1, .int l2, .int (l3 + 1), .null] [] M2)) ∧ (¬ (M2 160 (Int32.toNatClampNeg l2)) ≤ (M2 160 (Int32.toNatClampNeg l3)) → (rp_G E YX6_bestBy post 4 [.ref 155, .int l1, .int l3, .int (l3 + 1), .null] [] M2)))))))))))))))) : rp_G E YX6_bestBy post 4 [.ref 155, .int l1, .int l2, .int l3, .null] [] M := by
  refine ok_iload_n dX6_bestBy_4 rfl rfl ?_
  refine ok_aload_n dX6_bestBy_5 rfl rfl ?_
  obtain ⟨v1, M2, r3, h⟩ := h
  refine ok_callV2 dX6_bestBy_6 kX6_bestBy_132 r3 (by decide) rp_k155 rfl rfl (Nat.le_of_ble_eq_true rfl) ?_
  rintro _ _ ⟨rfl, rfl⟩
  refine ok_icmp_ge (tgt := 100) dX6_bestBy_9 (by decide) (fun c4 => ?_) (fun c4 => ?_)
  · replace h := h.1 c4
    refine ok_iload_n dX6_bestBy_100 rfl rfl ?_
    exact ok_ireturn dX6_bestBy_101 rfl h
  · replace h := h.2 c4
    refine ok_aload_n dX6_bestBy_12 rfl rfl ?_
    refine ok_getR (j := 162) dX6_bestBy_13 fX6_bestBy_28 (by decide) rp_k155 rfl (by decide) ?_
    refine ok_iload_n dX6_bestBy_16 rfl rfl ?_
    have b5 := h.1
    replace h := h.2
    refine ok_zaload dX6_bestBy_17 (by decide) rp_k162 b5 rfl ?_
    refine ok_if_eq (tgt := 94) dX6_bestBy_18 (by decide) (fun c6 => ?_) (fun c6 => ?_)
    · replace h := h.1 c6
      refine ok_iinc2 (w := 1) dX6_bestBy_94 rfl (by decide) (by decide) rfl ?_
      refine ok_goto (tgt := 4) dX6_bestBy_97 (by decide) ?_
      exact ok_mask [true, true, true, true, false] h
    · replace h := h.2 c6
      refine ok_aload_n dX6_bestBy_21 rfl rfl ?_
      refine ok_getR (j := 160) dX6_bestBy_22 fX6_bestBy_22 (by decide) rp_k155 rfl (by decide) ?_
      refine ok_iload_n dX6_bestBy_25 rfl rfl ?_
      refine ok_iaload dX6_bestBy_26 (by decide) rp_k160 b5 rfl ?_
      refine ok_iload_n dX6_bestBy_27 rfl rfl ?_
      refine ok_icmp_gt (tgt := 94) dX6_bestBy_28 (by decide) (fun c7 => ?_) (fun c7 => ?_)
      · replace h := h.1 c7
        refine ok_iinc2 (w := 1) dX6_bestBy_94 rfl (by decide) (by decide) rfl ?_
        refine ok_goto (tgt := 4) dX6_bestBy_97 (by decide) ?_
        exact ok_mask [true, true, true, true, false] h
      · replace h := h.2 c7
        refine ok_aload_n dX6_bestBy_31 rfl rfl ?_
        refine ok_getR (j := 161) dX6_bestBy_32 fX6_bestBy_25 (by decide) rp_k155 rfl (by decide) ?_
        refine ok_iload_n dX6_bestBy_35 rfl rfl ?_
        refine ok_iaload dX6_bestBy_36 (by decide) rp_k161 b5 rfl ?_
        refine ok_aload_n dX6_bestBy_37 rfl rfl ?_
        refine ok_getR (j := 161) dX6_bestBy_38 fX6_bestBy_25 (by decide) rp_k155 rfl (by decide) ?_
        refine ok_iload_n dX6_bestBy_41 rfl rfl ?_
        have b8 := h.1
        replace h := h.2
        refine ok_iaload dX6_bestBy_42 (by decide) rp_k161 b8 rfl ?_
        refine ok_icmp_gt (tgt := 76) dX6_bestBy_43 (by decide) (fun c9 => ?_) (fun c9 => ?_)
        · replace h := h.1 c9
          refine ok_iconst (v := 1) dX6_bestBy_76 (by decide) ?_
          refine ok_goto (tgt := 81) dX6_bestBy_77 (by decide) ?_
          refine ok_istore dX6_bestBy_81 (by decide) rfl ?_
          refine ok_iload dX6_bestBy_83 rfl ?_
          refine ok_if_eq (tgt := 92) dX6_bestBy_85 (by decide) (fun c10 => absurd c10 (by decide)) (fun c10 => ?_)
          refine ok_iload_n dX6_bestBy_88 rfl rfl ?_
          refine ok_goto (tgt := 93) dX6_bestBy_89 (by decide) ?_
          refine ok_istore_n dX6_bestBy_93 rfl (by decide) rfl ?_
          refine ok_iinc2 (w := 1) dX6_bestBy_94 rfl (by decide) (by decide) rfl ?_
          refine ok_goto (tgt := 4) dX6_bestBy_97 (by decide) ?_
          exact ok_mask [true, true, true, true, false] h
        · replace h := h.2 c9
          refine ok_aload_n dX6_bestBy_46 rfl rfl ?_
          refine ok_getR (j := 161) dX6_bestBy_47 fX6_bestBy_25 (by decide) rp_k155 rfl (by decide) ?_
          refine ok_iload_n dX6_bestBy_50 rfl rfl ?_
          refine ok_iaload dX6_bestBy_51 (by decide) rp_k161 b5 rfl ?_
          refine ok_aload_n dX6_bestBy_52 rfl rfl ?_
          refine ok_getR (j := 161) dX6_bestBy_53 fX6_bestBy_25 (by decide) rp_k155 rfl (by decide) ?_
          refine ok_iload_n dX6_bestBy_56 rfl rfl ?_
          refine ok_iaload dX6_bestBy_57 (by decide) rp_k161 b8 rfl ?_
          refine ok_icmp_ne (tgt := 80) dX6_bestBy_58 (by decide) (fun c11 => ?_) (fun c11 => ?_)
          · replace h := h.1 c11
            refine ok_iconst (v := 0) dX6_bestBy_80 (by decide) ?_
            refine ok_istore dX6_bestBy_81 (by decide) rfl ?_
            refine ok_iload dX6_bestBy_83 rfl ?_
            refine ok_if_eq (tgt := 92) dX6_bestBy_85 (by decide) (fun c12 => ?_) (fun c12 => absurd c12 (by decide))
            refine ok_iload_n dX6_bestBy_92 rfl rfl ?_
            refine ok_istore_n dX6_bestBy_93 rfl (by decide) rfl ?_
            refine ok_iinc2 (w := 1) dX6_bestBy_94 rfl (by decide) (by decide) rfl ?_
            refine ok_goto (tgt := 4) dX6_bestBy_97 (by decide) ?_
            exact ok_mask [true, true, true, true, false] h
          · replace h := h.2 c11
            refine ok_aload_n dX6_bestBy_61 rfl rfl ?_
            refine ok_getR (j := 160) dX6_bestBy_62 fX6_bestBy_22 (by decide) rp_k155 rfl (by decide) ?_
            refine ok_iload_n dX6_bestBy_65 rfl rfl ?_
            refine ok_iaload dX6_bestBy_66 (by decide) rp_k160 b5 rfl ?_
            refine ok_aload_n dX6_bestBy_67 rfl rfl ?_
            refine ok_getR (j := 160) dX6_bestBy_68 fX6_bestBy_22 (by decide) rp_k155 rfl (by decide) ?_
            refine ok_iload_n dX6_bestBy_71 rfl rfl ?_
            refine ok_iaload dX6_bestBy_72 (by decide) rp_k160 b8 rfl ?_
            refine ok_icmp_ge (tgt := 80) dX6_bestBy_73 (by decide) (fun c13 => ?_) (fun c13 => ?_)
            · replace h := h.1 c13
              refine ok_iconst (v := 0) dX6_bestBy_80 (by decide) ?_
              refine ok_istore dX6_bestBy_81 (by decide) rfl ?_
              refine ok_iload dX6_bestBy_83 rfl ?_
              refine ok_if_eq (tgt := 92) dX6_bestBy_85 (by decide) (fun c14 => ?_) (fun c14 => absurd c14 (by decide))
              refine ok_iload_n dX6_bestBy_92 rfl rfl ?_
              refine ok_istore_n dX6_bestBy_93 rfl (by decide) rfl ?_
              refine ok_iinc2 (w := 1) dX6_bestBy_94 rfl (by decide) (by decide) rfl ?_
              refine ok_goto (tgt := 4) dX6_bestBy_97 (by decide) ?_
              exact ok_mask [true, true, true, true, false] h
            · replace h := h.2 c13
              refine ok_iconst (v := 1) dX6_bestBy_76 (by decide) ?_
              refine ok_goto (tgt := 81) dX6_bestBy_77 (by decide) ?_
              refine ok_istore dX6_bestBy_81 (by decide) rfl ?_
              refine ok_iload dX6_bestBy_83 rfl ?_
              refine ok_if_eq (tgt := 92) dX6_bestBy_85 (by decide) (fun c15 => absurd c15 (by decide)) (fun c15 => ?_)
              refine ok_iload_n dX6_bestBy_88 rfl rfl ?_
              refine ok_goto (tgt := 93) dX6_bestBy_89 (by decide) ?_
              refine ok_istore_n dX6_bestBy_93 rfl (by decide) rfl ?_
              refine ok_iinc2 (w := 1) dX6_bestBy_94 rfl (by decide) (by decide) rfl ?_
              refine ok_goto (tgt := 4) dX6_bestBy_97 (by decide) ?_
              exact ok_mask [true, true, true, true, false] h
theorem vX6_amongBest (E : rp_E) (post : Option Int32 → rp_M → Prop) (M : rp_M) (l1 : Int32) (h : ∃ v1 M2, rp_C E YX6_bestBy [.ref 155, .int (M 156 1)] M (some v1) M2 ∧ (∃ v4 M5, rp_C E YX6_sets [.ref 155] M2 (some v4) M5 ∧ (rp_G E YX6_amongBest post 30 [.ref 155, .int l1, .int v1, .int 0, .int (v4 - 1), .int 0, .int 0, .int 0, .null] [] M5))) : rp_Run E YX6_amongBest [.ref 155, .int l1] M post := by
  refine ok_start (by decide) oX6_amongBest (Nat.le_of_ble_eq_true rfl) ?_
  refine ok_aload_n dX6_amongBest_0 rfl rfl ?_
  refine ok_aload_n dX6_amongBest_1 rfl rfl ?_
  refine ok_getR (j := 156) dX6_amongBest_2 fX6_amongBest_7 (by decide) rp_k155 rfl (by decide) ?_
  refine ok_iconst (v := 1) dX6_amongBest_5 (by decide) ?_
  refine ok_iaload (j := 1) dX6_amongBest_6 (by decide) rp_k156 (rp_vi (by decide)) (by decide) ?_
  obtain ⟨v1, M2, r3, h⟩ := h
  refine ok_callV2 dX6_amongBest_7 kX6_amongBest_158 r3 (by decide) rp_k155 rfl rfl (Nat.le_of_ble_eq_true rfl) ?_
  rintro _ _ ⟨rfl, rfl⟩
  refine ok_istore_n dX6_amongBest_10 rfl (by decide) rfl ?_
  refine ok_iconst (v := 0) dX6_amongBest_11 (by decide) ?_
  refine ok_istore_n dX6_amongBest_12 rfl (by decide) rfl ?_
  refine ok_aload_n dX6_amongBest_13 rfl rfl ?_
  obtain ⟨v4, M5, r6, h⟩ := h
  refine ok_callV2 dX6_amongBest_14 kX6_amongBest_132 r6 (by decide) rp_k155 rfl rfl (Nat.le_of_ble_eq_true rfl) ?_
  rintro _ _ ⟨rfl, rfl⟩
  refine ok_iconst (v := 1) dX6_amongBest_17 (by decide) ?_
  refine ok_isub dX6_amongBest_18 ?_
  refine ok_istore dX6_amongBest_19 (by decide) rfl ?_
  refine ok_iconst (v := 0) dX6_amongBest_21 (by decide) ?_
  refine ok_istore dX6_amongBest_22 (by decide) rfl ?_
  refine ok_iconst (v := 0) dX6_amongBest_24 (by decide) ?_
  refine ok_istore dX6_amongBest_25 (by decide) rfl ?_
  refine ok_iconst (v := 0) dX6_amongBest_27 (by decide) ?_
  refine ok_istore dX6_amongBest_28 (by decide) rfl ?_
  exact ok_mask [true, true, true, true, true, true, true, true, false] h
theorem vX6_amongBest_30 (E : rp_E) (post : Option Int32 → rp_M → Prop) (M : rp_M) (l1 : Int32) (l2 : Int32) (l3 : Int32) (l4 : Int32) (l5 : Int32) (l6 : Int32) (l7 : Int32) (h : ∃ v7 M8, rp_C E YX6_sets [.ref 155] M (some v7) M8 ∧ ((v7 ≤ l7 → ((¬ l1 = 3 → ((¬ l1 = 4 → ((¬ l1 = 5 → (post (some l6) M8)) ∧ (l1 = 5 → (∃ v14 M15, rp_C E YX6_sets [.ref 155] M8 (some v14) M15 ∧ (post (some ((v14 - 1) &&& (l5 ^^^ (-1)))) M15))))) ∧ (l1 = 4 → (post (some l4) M8)))) ∧ (l1 = 3 → (post (some l3) M8)))) ∧ (¬ v7 ≤ l7 → (vp_in l7 4096 ∧ (((M8 162 (Int32.toNatClampNeg l7)) = 0 → (rp_G E YX6_amongBest post 30 [.ref 155, .int l1, .int l2, .int l3, .int l4, .int l5, .int (l6 + 0), .int (l7 + 1), .null] [] M8)) ∧ (¬ (M8 162 (Int32.toNatClampNeg l7)) = 0 → (((M8 156 1) < (M8 160 (Int32.toNatClampNeg l7)) → (rp_G E YX6_amongBest post 30 [.ref 155, .int l1, .int l2, .int l3, .int l4, .int l5, .int (l6 + 0), .int (l7 + 1), .null] [] M8)) ∧ (¬ (M8 156 1) < (M8 160 (Int32.toNatClampNeg l7)) → (vp_in l2 4096 ∧ ((¬ (M8 161 (Int32.toNatClampNeg l7)) = (M8 161 (Int32.toNatClampNeg l2)) → (rp_G E YX6_amongBest post 30 [.ref 155, .int l1, .int l2, .int l3, .int l4, .int l5, .int (l6 + 1), .int (l7 + 1), .null] [] M8)) ∧ ((M8 161 (Int32.toNatClampNeg l7)) = (M8 161 (Int32.toNatClampNeg l2)) → (rp_G E YX6_amongBest post 30 [.ref 155, .int l1, .int l2, .int (l3 + 1), .int (l4 &&& l7), .int (l5 ||| l7), .int (l6 + 1), .int (l7 + 1), .null] [] M8)))))))))))) : rp_G E YX6_amongBest post 30 [.ref 155, .int l1, .int l2, .int l3, .int l4, .int l5, .int l6, .int l7, .null] [] M := by
  refine ok_iload dX6_amongBest_30 rfl ?_
  refine ok_aload_n dX6_amongBest_32 rfl rfl ?_
  obtain ⟨v7, M8, r9, h⟩ := h
  refine ok_callV2 dX6_amongBest_33 kX6_amongBest_132 r9 (by decide) rp_k155 rfl rfl (Nat.le_of_ble_eq_true rfl) ?_
  rintro _ _ ⟨rfl, rfl⟩
  refine ok_icmp_ge (tgt := 131) dX6_amongBest_36 (by decide) (fun c10 => ?_) (fun c10 => ?_)
  · replace h := h.1 c10
    refine ok_iload_n dX6_amongBest_131 rfl rfl ?_
    refine ok_iconst (v := 3) dX6_amongBest_132 (by decide) ?_
    refine ok_icmp_ne (tgt := 140) dX6_amongBest_133 (by decide) (fun c11 => ?_) (fun c11 => ?_)
    · replace h := h.1 c11
      refine ok_iload_n dX6_amongBest_140 rfl rfl ?_
      refine ok_iconst (v := 4) dX6_amongBest_141 (by decide) ?_
      refine ok_icmp_ne (tgt := 150) dX6_amongBest_142 (by decide) (fun c12 => ?_) (fun c12 => ?_)
      · replace h := h.1 c12
        refine ok_iload_n dX6_amongBest_150 rfl rfl ?_
        refine ok_iconst (v := 5) dX6_amongBest_151 (by decide) ?_
        refine ok_icmp_ne (tgt := 169) dX6_amongBest_152 (by decide) (fun c13 => ?_) (fun c13 => ?_)
        · replace h := h.1 c13
          refine ok_iload dX6_amongBest_169 rfl ?_
          exact ok_ireturn dX6_amongBest_171 rfl h
        · replace h := h.2 c13
          refine ok_aload_n dX6_amongBest_155 rfl rfl ?_
          obtain ⟨v14, M15, r16, h⟩ := h
          refine ok_callV2 dX6_amongBest_156 kX6_amongBest_132 r16 (by decide) rp_k155 rfl rfl (Nat.le_of_ble_eq_true rfl) ?_
          rintro _ _ ⟨rfl, rfl⟩
          refine ok_iconst (v := 1) dX6_amongBest_159 (by decide) ?_
          refine ok_isub dX6_amongBest_160 ?_
          refine ok_iload dX6_amongBest_161 rfl ?_
          refine ok_iconst (v := (-1)) dX6_amongBest_163 (by decide) ?_
          refine ok_ixor dX6_amongBest_164 ?_
          refine ok_iand dX6_amongBest_165 ?_
          refine ok_goto (tgt := 171) dX6_amongBest_166 (by decide) ?_
          exact ok_ireturn dX6_amongBest_171 rfl h
      · replace h := h.2 c12
        refine ok_iload dX6_amongBest_145 rfl ?_
        refine ok_goto (tgt := 171) dX6_amongBest_147 (by decide) ?_
        exact ok_ireturn dX6_amongBest_171 rfl h
    · replace h := h.2 c11
      refine ok_iload_n dX6_amongBest_136 rfl rfl ?_
      refine ok_goto (tgt := 171) dX6_amongBest_137 (by decide) ?_
      exact ok_ireturn dX6_amongBest_171 rfl h
  · replace h := h.2 c10
    refine ok_aload_n dX6_amongBest_39 rfl rfl ?_
    refine ok_getR (j := 162) dX6_amongBest_40 fX6_amongBest_28 (by decide) rp_k155 rfl (by decide) ?_
    refine ok_iload dX6_amongBest_43 rfl ?_
    have b17 := h.1
    replace h := h.2
    refine ok_zaload dX6_amongBest_45 (by decide) rp_k162 b17 rfl ?_
    refine ok_if_eq (tgt := 69) dX6_amongBest_46 (by decide) (fun c18 => ?_) (fun c18 => ?_)
    · replace h := h.1 c18
      refine ok_iconst (v := 0) dX6_amongBest_69 (by decide) ?_
      refine ok_istore dX6_amongBest_70 (by decide) rfl ?_
      refine ok_iload dX6_amongBest_72 rfl ?_
      refine ok_iload dX6_amongBest_74 rfl ?_
      refine ok_if_eq (tgt := 83) dX6_amongBest_76 (by decide) (fun c19 => ?_) (fun c19 => absurd c19 (by decide))
      refine ok_iconst (v := 0) dX6_amongBest_83 (by decide) ?_
      refine ok_iadd dX6_amongBest_84 ?_
      refine ok_istore dX6_amongBest_85 (by decide) rfl ?_
      refine ok_iload dX6_amongBest_87 rfl ?_
      refine ok_if_eq (tgt := 125) dX6_amongBest_89 (by decide) (fun c20 => ?_) (fun c20 => absurd c20 (by decide))
      refine ok_iinc2 (w := 1) dX6_amongBest_125 rfl (by decide) (by decide) rfl ?_
      refine ok_goto (tgt := 30) dX6_amongBest_128 (by decide) ?_
      exact ok_mask [true, true, true, true, true, true, true, true, false] h
    · replace h := h.2 c18
      refine ok_aload_n dX6_amongBest_49 rfl rfl ?_
      refine ok_getR (j := 160) dX6_amongBest_50 fX6_amongBest_22 (by decide) rp_k155 rfl (by decide) ?_
      refine ok_iload dX6_amongBest_53 rfl ?_
      refine ok_iaload dX6_amongBest_55 (by decide) rp_k160 b17 rfl ?_
      refine ok_aload_n dX6_amongBest_56 rfl rfl ?_
      refine ok_getR (j := 156) dX6_amongBest_57 fX6_amongBest_7 (by decide) rp_k155 rfl (by decide) ?_
      refine ok_iconst (v := 1) dX6_amongBest_60 (by decide) ?_
      refine ok_iaload (j := 1) dX6_amongBest_61 (by decide) rp_k156 (rp_vi (by decide)) (by decide) ?_
      refine ok_icmp_gt (tgt := 69) dX6_amongBest_62 (by decide) (fun c21 => ?_) (fun c21 => ?_)
      · replace h := h.1 c21
        refine ok_iconst (v := 0) dX6_amongBest_69 (by decide) ?_
        refine ok_istore dX6_amongBest_70 (by decide) rfl ?_
        refine ok_iload dX6_amongBest_72 rfl ?_
        refine ok_iload dX6_amongBest_74 rfl ?_
        refine ok_if_eq (tgt := 83) dX6_amongBest_76 (by decide) (fun c22 => ?_) (fun c22 => absurd c22 (by decide))
        refine ok_iconst (v := 0) dX6_amongBest_83 (by decide) ?_
        refine ok_iadd dX6_amongBest_84 ?_
        refine ok_istore dX6_amongBest_85 (by decide) rfl ?_
        refine ok_iload dX6_amongBest_87 rfl ?_
        refine ok_if_eq (tgt := 125) dX6_amongBest_89 (by decide) (fun c23 => ?_) (fun c23 => absurd c23 (by decide))
        refine ok_iinc2 (w := 1) dX6_amongBest_125 rfl (by decide) (by decide) rfl ?_
        refine ok_goto (tgt := 30) dX6_amongBest_128 (by decide) ?_
        exact ok_mask [true, true, true, true, true, true, true, true, false] h
      · replace h := h.2 c21
        refine ok_iconst (v := 1) dX6_amongBest_65 (by decide) ?_
        refine ok_goto (tgt := 70) dX6_amongBest_66 (by decide) ?_
        refine ok_istore dX6_amongBest_70 (by decide) rfl ?_
        refine ok_iload dX6_amongBest_72 rfl ?_
        refine ok_iload dX6_amongBest_74 rfl ?_
        refine ok_if_eq (tgt := 83) dX6_amongBest_76 (by decide) (fun c24 => absurd c24 (by decide)) (fun c24 => ?_)
        refine ok_iconst (v := 1) dX6_amongBest_79 (by decide) ?_
        refine ok_goto (tgt := 84) dX6_amongBest_80 (by decide) ?_
        refine ok_iadd dX6_amongBest_84 ?_
        refine ok_istore dX6_amongBest_85 (by decide) rfl ?_
        refine ok_iload dX6_amongBest_87 rfl ?_
        refine ok_if_eq (tgt := 125) dX6_amongBest_89 (by decide) (fun c25 => absurd c25 (by decide)) (fun c25 => ?_)
        refine ok_aload_n dX6_amongBest_92 rfl rfl ?_
        refine ok_getR (j := 161) dX6_amongBest_93 fX6_amongBest_25 (by decide) rp_k155 rfl (by decide) ?_
        refine ok_iload dX6_amongBest_96 rfl ?_
        refine ok_iaload dX6_amongBest_98 (by decide) rp_k161 b17 rfl ?_
        refine ok_aload_n dX6_amongBest_99 rfl rfl ?_
        refine ok_getR (j := 161) dX6_amongBest_100 fX6_amongBest_25 (by decide) rp_k155 rfl (by decide) ?_
        refine ok_iload_n dX6_amongBest_103 rfl rfl ?_
        have b26 := h.1
        replace h := h.2
        refine ok_iaload dX6_amongBest_104 (by decide) rp_k161 b26 rfl ?_
        refine ok_icmp_ne (tgt := 125) dX6_amongBest_105 (by decide) (fun c27 => ?_) (fun c27 => ?_)
        · replace h := h.1 c27
          refine ok_iinc2 (w := 1) dX6_amongBest_125 rfl (by decide) (by decide) rfl ?_
          refine ok_goto (tgt := 30) dX6_amongBest_128 (by decide) ?_
          exact ok_mask [true, true, true, true, true, true, true, true, false] h
        · replace h := h.2 c27
          refine ok_iinc2 (w := 1) dX6_amongBest_108 rfl (by decide) (by decide) rfl ?_
          refine ok_iload dX6_amongBest_111 rfl ?_
          refine ok_iload dX6_amongBest_113 rfl ?_
          refine ok_iand dX6_amongBest_115 ?_
          refine ok_istore dX6_amongBest_116 (by decide) rfl ?_
          refine ok_iload dX6_amongBest_118 rfl ?_
          refine ok_iload dX6_amongBest_120 rfl ?_
          refine ok_ior dX6_amongBest_122 ?_
          refine ok_istore dX6_amongBest_123 (by decide) rfl ?_
          refine ok_iinc2 (w := 1) dX6_amongBest_125 rfl (by decide) (by decide) rfl ?_
          refine ok_goto (tgt := 30) dX6_amongBest_128 (by decide) ?_
          exact ok_mask [true, true, true, true, true, true, true, true, false] h
theorem vX6_best (E : rp_E) (post : Option Int32 → rp_M → Prop) (M : rp_M) (l1 : Int32) (h : ∃ v1 M2, rp_C E YX6_in [.int l1, .int 0, .int 6] M (some v1) M2 ∧ ((¬ v1 = 0 → (∃ P7 : rp_M → Prop, rp_Run E YX6_layOwnTables [.ref 155] M2 (rp_P0 P7) ∧ (∀ M5, P7 M5 → (∃ v9 M10, rp_C E YX6_bestBy [.ref 155, .int (M5 156 1)] M5 (some v9) M10 ∧ ((¬ l1 = 0 → ((¬ l1 = 1 → ((¬ l1 = 2 → (∃ v15 M16, rp_C E YX6_amongBest [.ref 155, .int l1] M10 (some v15) M16 ∧ (post (some v15) M16))) ∧ (l1 = 2 → (vp_in v9 4096 ∧ (post (some (M10 160 (Int32.toNatClampNeg v9))) M10))))) ∧ (l1 = 1 → (vp_in v9 4096 ∧ (post (some ((M10 161 (Int32.toNatClampNeg v9)) + 100000)) M10))))) ∧ (l1 = 0 → (post (some v9) M10))))))) ∧ (v1 = 0 → (post (some (-2)) M2)))) : rp_Run E YX6_best [.ref 155, .int l1] M post := by
  refine ok_start (by decide) oX6_best (Nat.le_of_ble_eq_true rfl) ?_
  refine ok_iload_n dX6_best_0 rfl rfl ?_
  refine ok_iconst (v := 0) dX6_best_1 (by decide) ?_
  refine ok_bipush (v := 6) dX6_best_2 (by decide) ?_
  obtain ⟨v1, M2, r3, h⟩ := h
  refine ok_callS2 dX6_best_4 kX6_best_53 r3 rfl rfl (Nat.le_of_ble_eq_true rfl) ?_
  rintro _ _ ⟨rfl, rfl⟩
  refine ok_if_ne (tgt := 13) dX6_best_7 (by decide) (fun c4 => ?_) (fun c4 => ?_)
  · replace h := h.1 c4
    refine ok_aload_n dX6_best_13 rfl rfl ?_
    obtain ⟨P7, r6, h⟩ := h
    refine ok_callV2 dX6_best_14 kX6_best_161 r6 (by decide) rp_k155 rfl rfl (Nat.le_of_ble_eq_true rfl) ?_
    rintro _ M5 ⟨rfl, q8⟩
    replace h := h M5 q8
    refine ok_aload_n dX6_best_17 rfl rfl ?_
    refine ok_aload_n dX6_best_18 rfl rfl ?_
    refine ok_getR (j := 156) dX6_best_19 fX6_best_7 (by decide) rp_k155 rfl (by decide) ?_
    refine ok_iconst (v := 1) dX6_best_22 (by decide) ?_
    refine ok_iaload (j := 1) dX6_best_23 (by decide) rp_k156 (rp_vi (by decide)) (by decide) ?_
    obtain ⟨v9, M10, r11, h⟩ := h
    refine ok_callV2 dX6_best_24 kX6_best_158 r11 (by decide) rp_k155 rfl rfl (Nat.le_of_ble_eq_true rfl) ?_
    rintro _ _ ⟨rfl, rfl⟩
    refine ok_istore_n dX6_best_27 rfl (by decide) rfl ?_
    refine ok_iload_n dX6_best_28 rfl rfl ?_
    refine ok_if_ne (tgt := 36) dX6_best_29 (by decide) (fun c12 => ?_) (fun c12 => ?_)
    · replace h := h.1 c12
      refine ok_iload_n dX6_best_36 rfl rfl ?_
      refine ok_iconst (v := 1) dX6_best_37 (by decide) ?_
      refine ok_icmp_ne (tgt := 53) dX6_best_38 (by decide) (fun c13 => ?_) (fun c13 => ?_)
      · replace h := h.1 c13
        refine ok_iload_n dX6_best_53 rfl rfl ?_
        refine ok_iconst (v := 2) dX6_best_54 (by decide) ?_
        refine ok_icmp_ne (tgt := 67) dX6_best_55 (by decide) (fun c14 => ?_) (fun c14 => ?_)
        · replace h := h.1 c14
          refine ok_aload_n dX6_best_67 rfl rfl ?_
          refine ok_iload_n dX6_best_68 rfl rfl ?_
          obtain ⟨v15, M16, r17, h⟩ := h
          refine ok_callV2 dX6_best_69 kX6_best_164 r17 (by decide) rp_k155 rfl rfl (Nat.le_of_ble_eq_true rfl) ?_
          rintro _ _ ⟨rfl, rfl⟩
          exact ok_ireturn dX6_best_72 rfl h
        · replace h := h.2 c14
          refine ok_aload_n dX6_best_58 rfl rfl ?_
          refine ok_getR (j := 160) dX6_best_59 fX6_best_22 (by decide) rp_k155 rfl (by decide) ?_
          refine ok_iload_n dX6_best_62 rfl rfl ?_
          have b18 := h.1
          replace h := h.2
          refine ok_iaload dX6_best_63 (by decide) rp_k160 b18 rfl ?_
          refine ok_goto (tgt := 72) dX6_best_64 (by decide) ?_
          exact ok_ireturn dX6_best_72 rfl h
      · replace h := h.2 c13
        refine ok_aload_n dX6_best_41 rfl rfl ?_
        refine ok_getR (j := 161) dX6_best_42 fX6_best_25 (by decide) rp_k155 rfl (by decide) ?_
        refine ok_iload_n dX6_best_45 rfl rfl ?_
        have b19 := h.1
        replace h := h.2
        refine ok_iaload dX6_best_46 (by decide) rp_k161 b19 rfl ?_
        refine ok_ldc fX6_best_151 dX6_best_47 ?_
        refine ok_iadd dX6_best_49 ?_
        refine ok_goto (tgt := 72) dX6_best_50 (by decide) ?_
        exact ok_ireturn dX6_best_72 rfl h
    · replace h := h.2 c12
      refine ok_iload_n dX6_best_32 rfl rfl ?_
      refine ok_goto (tgt := 72) dX6_best_33 (by decide) ?_
      exact ok_ireturn dX6_best_72 rfl h
  · replace h := h.2 c4
    refine ok_bipush (v := (-2)) dX6_best_10 (by decide) ?_
    exact ok_ireturn dX6_best_12 rfl h
theorem vX6_bestWith (E : rp_E) (post : Option Int32 → rp_M → Prop) (M : rp_M) (l1 : Int32) (l2 : Int32) (l3 : Int32) (h : ∃ v1 M2, rp_C E YX6_in [.int l1, .int 0, .int 9999] M (some v1) M2 ∧ ((v1 = 0 → (post (some (-2)) M2)) ∧ (¬ v1 = 0 → (∃ v5 M6, rp_C E YX6_in [.int l2, .int 0, .int 12] M2 (some v5) M6 ∧ ((v5 = 0 → (post (some (-2)) M6)) ∧ (¬ v5 = 0 → (∃ v9 M10, rp_C E YX6_in [.int l3, .int 0, .int 12] M6 (some v9) M10 ∧ ((¬ v9 = 0 → (∃ P15 : rp_M → Prop, rp_Run E YX6_layTables [.ref 155, .int l2, .int l3] M10 (rp_P0 P15) ∧ (∀ M13, P15 M13 → (∃ v17 M18, rp_C E YX6_bestBy [.ref 155, .int l1] M13 (some v17) M18 ∧ (vp_in v17 4096 ∧ (post (some ((M18 161 (Int32.toNatClampNeg v17)) + 100000)) M18)))))) ∧ (v9 = 0 → (post (some (-2)) M10)))))))))) : rp_Run E YX6_bestWith [.ref 155, .int l1, .int l2, .int l3] M post := by
  refine ok_start (by decide) oX6_bestWith (Nat.le_of_ble_eq_true rfl) ?_
  refine ok_iload_n dX6_bestWith_0 rfl rfl ?_
  refine ok_iconst (v := 0) dX6_bestWith_1 (by decide) ?_
  refine ok_sipush (v := 9999) dX6_bestWith_2 (by decide) ?_
  obtain ⟨v1, M2, r3, h⟩ := h
  refine ok_callS2 dX6_bestWith_5 kX6_bestWith_53 r3 rfl rfl (Nat.le_of_ble_eq_true rfl) ?_
  rintro _ _ ⟨rfl, rfl⟩
  refine ok_if_eq (tgt := 31) dX6_bestWith_8 (by decide) (fun c4 => ?_) (fun c4 => ?_)
  · replace h := h.1 c4
    refine ok_bipush (v := (-2)) dX6_bestWith_31 (by decide) ?_
    exact ok_ireturn dX6_bestWith_33 rfl h
  · replace h := h.2 c4
    refine ok_iload_n dX6_bestWith_11 rfl rfl ?_
    refine ok_iconst (v := 0) dX6_bestWith_12 (by decide) ?_
    refine ok_bipush (v := 12) dX6_bestWith_13 (by decide) ?_
    obtain ⟨v5, M6, r7, h⟩ := h
    refine ok_callS2 dX6_bestWith_15 kX6_bestWith_53 r7 rfl rfl (Nat.le_of_ble_eq_true rfl) ?_
    rintro _ _ ⟨rfl, rfl⟩
    refine ok_if_eq (tgt := 31) dX6_bestWith_18 (by decide) (fun c8 => ?_) (fun c8 => ?_)
    · replace h := h.1 c8
      refine ok_bipush (v := (-2)) dX6_bestWith_31 (by decide) ?_
      exact ok_ireturn dX6_bestWith_33 rfl h
    · replace h := h.2 c8
      refine ok_iload_n dX6_bestWith_21 rfl rfl ?_
      refine ok_iconst (v := 0) dX6_bestWith_22 (by decide) ?_
      refine ok_bipush (v := 12) dX6_bestWith_23 (by decide) ?_
      obtain ⟨v9, M10, r11, h⟩ := h
      refine ok_callS2 dX6_bestWith_25 kX6_bestWith_53 r11 rfl rfl (Nat.le_of_ble_eq_true rfl) ?_
      rintro _ _ ⟨rfl, rfl⟩
      refine ok_if_ne (tgt := 34) dX6_bestWith_28 (by decide) (fun c12 => ?_) (fun c12 => ?_)
      · replace h := h.1 c12
        refine ok_aload_n dX6_bestWith_34 rfl rfl ?_
        refine ok_iload_n dX6_bestWith_35 rfl rfl ?_
        refine ok_iload_n dX6_bestWith_36 rfl rfl ?_
        obtain ⟨P15, r14, h⟩ := h
        refine ok_callV2 dX6_bestWith_37 kX6_bestWith_144 r14 (by decide) rp_k155 rfl rfl (Nat.le_of_ble_eq_true rfl) ?_
        rintro _ M13 ⟨rfl, q16⟩
        replace h := h M13 q16
        refine ok_aload_n dX6_bestWith_40 rfl rfl ?_
        refine ok_getR (j := 161) dX6_bestWith_41 fX6_bestWith_25 (by decide) rp_k155 rfl (by decide) ?_
        refine ok_aload_n dX6_bestWith_44 rfl rfl ?_
        refine ok_iload_n dX6_bestWith_45 rfl rfl ?_
        obtain ⟨v17, M18, r19, h⟩ := h
        refine ok_callV2 dX6_bestWith_46 kX6_bestWith_158 r19 (by decide) rp_k155 rfl rfl (Nat.le_of_ble_eq_true rfl) ?_
        rintro _ _ ⟨rfl, rfl⟩
        have b20 := h.1
        replace h := h.2
        refine ok_iaload dX6_bestWith_49 (by decide) rp_k161 b20 rfl ?_
        refine ok_ldc fX6_bestWith_151 dX6_bestWith_50 ?_
        refine ok_iadd dX6_bestWith_52 ?_
        exact ok_ireturn dX6_bestWith_53 rfl h
      · replace h := h.2 c12
        refine ok_bipush (v := (-2)) dX6_bestWith_31 (by decide) ?_
        exact ok_ireturn dX6_bestWith_33 rfl h
theorem vX6_leastCapacity (E : rp_E) (post : Option Int32 → rp_M → Prop) (M : rp_M) (l1 : Int32) (h : ∃ v1 M2, rp_C E YX6_in [.int l1, .int 0, .int 12000] M (some v1) M2 ∧ ((¬ v1 = 0 → (∃ P7 : rp_M → Prop, rp_Run E YX6_layOwnTables [.ref 155] M2 (rp_P0 P7) ∧ (∀ M5, P7 M5 → (rp_G E YX6_leastCapacity post 23 [.ref 155, .int l1, .int (-6), .int 0] [] M5)))) ∧ (v1 = 0 → (post (some (-2)) M2)))) : rp_Run E YX6_leastCapacity [.ref 155, .int l1] M post := by
  refine ok_start (by decide) oX6_leastCapacity (Nat.le_of_ble_eq_true rfl) ?_
  refine ok_iload_n dX6_leastCapacity_0 rfl rfl ?_
  refine ok_iconst (v := 0) dX6_leastCapacity_1 (by decide) ?_
  refine ok_sipush (v := 12000) dX6_leastCapacity_2 (by decide) ?_
  obtain ⟨v1, M2, r3, h⟩ := h
  refine ok_callS2 dX6_leastCapacity_5 kX6_leastCapacity_53 r3 rfl rfl (Nat.le_of_ble_eq_true rfl) ?_
  rintro _ _ ⟨rfl, rfl⟩
  refine ok_if_ne (tgt := 14) dX6_leastCapacity_8 (by decide) (fun c4 => ?_) (fun c4 => ?_)
  · replace h := h.1 c4
    refine ok_aload_n dX6_leastCapacity_14 rfl rfl ?_
    obtain ⟨P7, r6, h⟩ := h
    refine ok_callV2 dX6_leastCapacity_15 kX6_leastCapacity_161 r6 (by decide) rp_k155 rfl rfl (Nat.le_of_ble_eq_true rfl) ?_
    rintro _ M5 ⟨rfl, q8⟩
    replace h := h M5 q8
    refine ok_bipush (v := (-6)) dX6_leastCapacity_18 (by decide) ?_
    refine ok_istore_n dX6_leastCapacity_20 rfl (by decide) rfl ?_
    refine ok_iconst (v := 0) dX6_leastCapacity_21 (by decide) ?_
    refine ok_istore_n dX6_leastCapacity_22 rfl (by decide) rfl ?_
    exact ok_mask [true, true, true, true] h
  · replace h := h.2 c4
    refine ok_bipush (v := (-2)) dX6_leastCapacity_11 (by decide) ?_
    exact ok_ireturn dX6_leastCapacity_13 rfl h
theorem vX6_leastCapacity_23 (E : rp_E) (post : Option Int32 → rp_M → Prop) (M : rp_M) (l1 : Int32) (l2 : Int32) (l3 : Int32) (h : ∃ v9 M10, rp_C E YX6_sets [.ref 155] M (some v9) M10 ∧ ((v9 ≤ l3 → (post (some l2) M10)) ∧ (¬ v9 ≤ l3 → (vp_in l3 4096 ∧ (((M10 162 (Int32.toNatClampNeg l3)) = 0 → (rp_G E YX6_leastCapacity post 23 [.ref 155, .int l1, .int l2, .int (l3 + 1)] [] M10)) ∧ (¬ (M10 162 (Int32.toNatClampNeg l3)) = 0 → (((M10 161 (Int32.toNatClampNeg l3)) < l1 → (rp_G E YX6_leastCapacity post 23 [.ref 155, .int l1, .int l2, .int (l3 + 1)] [] M10)) ∧ (¬ (M10 161 (Int32.toNatClampNeg l3)) < l1 → ((9999 < (M10 160 (Int32.toNatClampNeg l3)) → (rp_G E YX6_leastCapacity post 23 [.ref 155, .int l1, .int l2, .int (l3 + 1)] [] M10)) ∧ (¬ 9999 < (M10 160 (Int32.toNatClampNeg l3)) → ((l2 < 0 → (rp_G E YX6_leastCapacity post 23 [.ref 155, .int l1, .int (M10 160 (Int32.toNatClampNeg l3)), .int (l3 + 1)] [] M10)) ∧ (¬ l2 < 0 → ((l2 ≤ (M10 160 (Int32.toNatClampNeg l3)) → (rp_G E YX6_leastCapacity post 23 [.ref 155, .int l1, .int l2, .int (l3 + 1)] [] M10)) ∧ (¬ l2 ≤ (M10 160 (Int32.toNatClampNeg l3)) → (rp_G E YX6_leastCapacity post 23 [.ref 155, .int l1, .int (M10 160 (Int32.toNatClampNeg l3)), .int (l3 + 1)] [] M10))))))))))))))) : rp_G E YX6_leastCapacity post 23 [.ref 155, .int l1, .int l2, .int l3] [] M := by
  refine ok_iload_n dX6_leastCapacity_23 rfl rfl ?_
  refine ok_aload_n dX6_leastCapacity_24 rfl rfl ?_
  obtain ⟨v9, M10, r11, h⟩ := h
  refine ok_callV2 dX6_leastCapacity_25 kX6_leastCapacity_132 r11 (by decide) rp_k155 rfl rfl (Nat.le_of_ble_eq_true rfl) ?_
  rintro _ _ ⟨rfl, rfl⟩
  refine ok_icmp_ge (tgt := 89) dX6_leastCapacity_28 (by decide) (fun c12 => ?_) (fun c12 => ?_)
  · replace h := h.1 c12
    refine ok_iload_n dX6_leastCapacity_89 rfl rfl ?_
    exact ok_ireturn dX6_leastCapacity_90 rfl h
  · replace h := h.2 c12
    refine ok_aload_n dX6_leastCapacity_31 rfl rfl ?_
    refine ok_getR (j := 162) dX6_leastCapacity_32 fX6_leastCapacity_28 (by decide) rp_k155 rfl (by decide) ?_
    refine ok_iload_n dX6_leastCapacity_35 rfl rfl ?_
    have b13 := h.1
    replace h := h.2
    refine ok_zaload dX6_leastCapacity_36 (by decide) rp_k162 b13 rfl ?_
    refine ok_if_eq (tgt := 83) dX6_leastCapacity_37 (by decide) (fun c14 => ?_) (fun c14 => ?_)
    · replace h := h.1 c14
      refine ok_iinc2 (w := 1) dX6_leastCapacity_83 rfl (by decide) (by decide) rfl ?_
      refine ok_goto (tgt := 23) dX6_leastCapacity_86 (by decide) ?_
      exact ok_mask [true, true, true, true] h
    · replace h := h.2 c14
      refine ok_aload_n dX6_leastCapacity_40 rfl rfl ?_
      refine ok_getR (j := 161) dX6_leastCapacity_41 fX6_leastCapacity_25 (by decide) rp_k155 rfl (by decide) ?_
      refine ok_iload_n dX6_leastCapacity_44 rfl rfl ?_
      refine ok_iaload dX6_leastCapacity_45 (by decide) rp_k161 b13 rfl ?_
      refine ok_iload_n dX6_leastCapacity_46 rfl rfl ?_
      refine ok_icmp_lt (tgt := 83) dX6_leastCapacity_47 (by decide) (fun c15 => ?_) (fun c15 => ?_)
      · replace h := h.1 c15
        refine ok_iinc2 (w := 1) dX6_leastCapacity_83 rfl (by decide) (by decide) rfl ?_
        refine ok_goto (tgt := 23) dX6_leastCapacity_86 (by decide) ?_
        exact ok_mask [true, true, true, true] h
      · replace h := h.2 c15
        refine ok_aload_n dX6_leastCapacity_50 rfl rfl ?_
        refine ok_getR (j := 160) dX6_leastCapacity_51 fX6_leastCapacity_22 (by decide) rp_k155 rfl (by decide) ?_
        refine ok_iload_n dX6_leastCapacity_54 rfl rfl ?_
        refine ok_iaload dX6_leastCapacity_55 (by decide) rp_k160 b13 rfl ?_
        refine ok_sipush (v := 9999) dX6_leastCapacity_56 (by decide) ?_
        refine ok_icmp_gt (tgt := 83) dX6_leastCapacity_59 (by decide) (fun c16 => ?_) (fun c16 => ?_)
        · replace h := h.1 c16
          refine ok_iinc2 (w := 1) dX6_leastCapacity_83 rfl (by decide) (by decide) rfl ?_
          refine ok_goto (tgt := 23) dX6_leastCapacity_86 (by decide) ?_
          exact ok_mask [true, true, true, true] h
        · replace h := h.2 c16
          refine ok_iload_n dX6_leastCapacity_62 rfl rfl ?_
          refine ok_if_lt (tgt := 76) dX6_leastCapacity_63 (by decide) (fun c17 => ?_) (fun c17 => ?_)
          · replace h := h.1 c17
            refine ok_aload_n dX6_leastCapacity_76 rfl rfl ?_
            refine ok_getR (j := 160) dX6_leastCapacity_77 fX6_leastCapacity_22 (by decide) rp_k155 rfl (by decide) ?_
            refine ok_iload_n dX6_leastCapacity_80 rfl rfl ?_
            refine ok_iaload dX6_leastCapacity_81 (by decide) rp_k160 b13 rfl ?_
            refine ok_istore_n dX6_leastCapacity_82 rfl (by decide) rfl ?_
            refine ok_iinc2 (w := 1) dX6_leastCapacity_83 rfl (by decide) (by decide) rfl ?_
            refine ok_goto (tgt := 23) dX6_leastCapacity_86 (by decide) ?_
            exact ok_mask [true, true, true, true] h
          · replace h := h.2 c17
            refine ok_aload_n dX6_leastCapacity_66 rfl rfl ?_
            refine ok_getR (j := 160) dX6_leastCapacity_67 fX6_leastCapacity_22 (by decide) rp_k155 rfl (by decide) ?_
            refine ok_iload_n dX6_leastCapacity_70 rfl rfl ?_
            refine ok_iaload dX6_leastCapacity_71 (by decide) rp_k160 b13 rfl ?_
            refine ok_iload_n dX6_leastCapacity_72 rfl rfl ?_
            refine ok_icmp_ge (tgt := 83) dX6_leastCapacity_73 (by decide) (fun c18 => ?_) (fun c18 => ?_)
            · replace h := h.1 c18
              refine ok_iinc2 (w := 1) dX6_leastCapacity_83 rfl (by decide) (by decide) rfl ?_
              refine ok_goto (tgt := 23) dX6_leastCapacity_86 (by decide) ?_
              exact ok_mask [true, true, true, true] h
            · replace h := h.2 c18
              refine ok_aload_n dX6_leastCapacity_76 rfl rfl ?_
              refine ok_getR (j := 160) dX6_leastCapacity_77 fX6_leastCapacity_22 (by decide) rp_k155 rfl (by decide) ?_
              refine ok_iload_n dX6_leastCapacity_80 rfl rfl ?_
              refine ok_iaload dX6_leastCapacity_81 (by decide) rp_k160 b13 rfl ?_
              refine ok_istore_n dX6_leastCapacity_82 rfl (by decide) rfl ?_
              refine ok_iinc2 (w := 1) dX6_leastCapacity_83 rfl (by decide) (by decide) rfl ?_
              refine ok_goto (tgt := 23) dX6_leastCapacity_86 (by decide) ?_
              exact ok_mask [true, true, true, true] h
theorem vX6_staysBest (E : rp_E) (post : Option Int32 → rp_M → Prop) (M : rp_M) (l1 : Int32) (h : ∃ v1 M2, rp_C E YX6_protectedWeight [.ref 155, .int l1, .int (M 156 2)] M (some v1) M2 ∧ ((v1 ≤ (M2 156 1) → (rp_G E YX6_staysBest post 26 [.ref 155, .int l1, .int v1, .int 0, .null] [] M2)) ∧ (¬ v1 ≤ (M2 156 1) → (post (some 0) M2)))) : rp_Run E YX6_staysBest [.ref 155, .int l1] M post := by
  refine ok_start (by decide) oX6_staysBest (Nat.le_of_ble_eq_true rfl) ?_
  refine ok_aload_n dX6_staysBest_0 rfl rfl ?_
  refine ok_iload_n dX6_staysBest_1 rfl rfl ?_
  refine ok_aload_n dX6_staysBest_2 rfl rfl ?_
  refine ok_getR (j := 156) dX6_staysBest_3 fX6_staysBest_7 (by decide) rp_k155 rfl (by decide) ?_
  refine ok_iconst (v := 2) dX6_staysBest_6 (by decide) ?_
  refine ok_iaload (j := 2) dX6_staysBest_7 (by decide) rp_k156 (rp_vi (by decide)) (by decide) ?_
  obtain ⟨v1, M2, r3, h⟩ := h
  refine ok_callV2 dX6_staysBest_8 kX6_staysBest_138 r3 (by decide) rp_k155 rfl rfl (Nat.le_of_ble_eq_true rfl) ?_
  rintro _ _ ⟨rfl, rfl⟩
  refine ok_istore_n dX6_staysBest_11 rfl (by decide) rfl ?_
  refine ok_iload_n dX6_staysBest_12 rfl rfl ?_
  refine ok_aload_n dX6_staysBest_13 rfl rfl ?_
  refine ok_getR (j := 156) dX6_staysBest_14 fX6_staysBest_7 (by decide) rp_k155 rfl (by decide) ?_
  refine ok_iconst (v := 1) dX6_staysBest_17 (by decide) ?_
  refine ok_iaload (j := 1) dX6_staysBest_18 (by decide) rp_k156 (rp_vi (by decide)) (by decide) ?_
  refine ok_icmp_le (tgt := 24) dX6_staysBest_19 (by decide) (fun c4 => ?_) (fun c4 => ?_)
  · replace h := h.1 c4
    refine ok_iconst (v := 0) dX6_staysBest_24 (by decide) ?_
    refine ok_istore_n dX6_staysBest_25 rfl (by decide) rfl ?_
    exact ok_mask [true, true, true, true, false] h
  · replace h := h.2 c4
    refine ok_iconst (v := 0) dX6_staysBest_22 (by decide) ?_
    exact ok_zreturn dX6_staysBest_23 rfl (by decide) h
theorem vX6_staysBest_26 (E : rp_E) (post : Option Int32 → rp_M → Prop) (M : rp_M) (l1 : Int32) (l2 : Int32) (l3 : Int32) (h : ∃ v5 M6, rp_C E YX6_sets [.ref 155] M (some v5) M6 ∧ ((v5 ≤ l3 → (post (some 1) M6)) ∧ (¬ v5 ≤ l3 → ((l3 = l1 → (rp_G E YX6_staysBest post 26 [.ref 155, .int l1, .int l2, .int (l3 + 1), .null] [] M6)) ∧ (¬ l3 = l1 → (vp_in l3 4096 ∧ (((M6 162 (Int32.toNatClampNeg l3)) = 0 → (rp_G E YX6_staysBest post 26 [.ref 155, .int l1, .int l2, .int (l3 + 1), .null] [] M6)) ∧ (¬ (M6 162 (Int32.toNatClampNeg l3)) = 0 → (vp_in l1 4096 ∧ ((¬ (M6 161 (Int32.toNatClampNeg l3)) = (M6 161 (Int32.toNatClampNeg l1)) → (rp_G E YX6_staysBest post 26 [.ref 155, .int l1, .int l2, .int (l3 + 1), .null] [] M6)) ∧ ((M6 161 (Int32.toNatClampNeg l3)) = (M6 161 (Int32.toNatClampNeg l1)) → (∃ v14 M15, rp_C E YX6_protectedWeight [.ref 155, .int l3, .int (M6 156 2)] M6 (some v14) M15 ∧ ((v14 < l2 → (post (some 0) M15)) ∧ (¬ v14 < l2 → ((¬ v14 = l2 → (rp_G E YX6_staysBest post 26 [.ref 155, .int l1, .int l2, .int (l3 + 1), .null] [] M15)) ∧ (v14 = l2 → ((l1 ≤ l3 → (rp_G E YX6_staysBest post 26 [.ref 155, .int l1, .int l2, .int (l3 + 1), .null] [] M15)) ∧ (¬ l1 ≤ l3 → (post (some 0) M15))))))))))))))))))) : rp_G E YX6_staysBest post 26 [.ref 155, .int l1, .int l2, .int l3, .null] [] M := by
  refine ok_iload_n dX6_staysBest_26 rfl rfl ?_
  refine ok_aload_n dX6_staysBest_27 rfl rfl ?_
  obtain ⟨v5, M6, r7, h⟩ := h
  refine ok_callV2 dX6_staysBest_28 kX6_staysBest_132 r7 (by decide) rp_k155 rfl rfl (Nat.le_of_ble_eq_true rfl) ?_
  rintro _ _ ⟨rfl, rfl⟩
  refine ok_icmp_ge (tgt := 101) dX6_staysBest_31 (by decide) (fun c8 => ?_) (fun c8 => ?_)
  · replace h := h.1 c8
    refine ok_iconst (v := 1) dX6_staysBest_101 (by decide) ?_
    exact ok_zreturn dX6_staysBest_102 rfl (by decide) h
  · replace h := h.2 c8
    refine ok_iload_n dX6_staysBest_34 rfl rfl ?_
    refine ok_iload_n dX6_staysBest_35 rfl rfl ?_
    refine ok_icmp_eq (tgt := 95) dX6_staysBest_36 (by decide) (fun c9 => ?_) (fun c9 => ?_)
    · replace h := h.1 c9
      refine ok_iinc2 (w := 1) dX6_staysBest_95 rfl (by decide) (by decide) rfl ?_
      refine ok_goto (tgt := 26) dX6_staysBest_98 (by decide) ?_
      exact ok_mask [true, true, true, true, false] h
    · replace h := h.2 c9
      refine ok_aload_n dX6_staysBest_39 rfl rfl ?_
      refine ok_getR (j := 162) dX6_staysBest_40 fX6_staysBest_28 (by decide) rp_k155 rfl (by decide) ?_
      refine ok_iload_n dX6_staysBest_43 rfl rfl ?_
      have b10 := h.1
      replace h := h.2
      refine ok_zaload dX6_staysBest_44 (by decide) rp_k162 b10 rfl ?_
      refine ok_if_eq (tgt := 95) dX6_staysBest_45 (by decide) (fun c11 => ?_) (fun c11 => ?_)
      · replace h := h.1 c11
        refine ok_iinc2 (w := 1) dX6_staysBest_95 rfl (by decide) (by decide) rfl ?_
        refine ok_goto (tgt := 26) dX6_staysBest_98 (by decide) ?_
        exact ok_mask [true, true, true, true, false] h
      · replace h := h.2 c11
        refine ok_aload_n dX6_staysBest_48 rfl rfl ?_
        refine ok_getR (j := 161) dX6_staysBest_49 fX6_staysBest_25 (by decide) rp_k155 rfl (by decide) ?_
        refine ok_iload_n dX6_staysBest_52 rfl rfl ?_
        refine ok_iaload dX6_staysBest_53 (by decide) rp_k161 b10 rfl ?_
        refine ok_aload_n dX6_staysBest_54 rfl rfl ?_
        refine ok_getR (j := 161) dX6_staysBest_55 fX6_staysBest_25 (by decide) rp_k155 rfl (by decide) ?_
        refine ok_iload_n dX6_staysBest_58 rfl rfl ?_
        have b12 := h.1
        replace h := h.2
        refine ok_iaload dX6_staysBest_59 (by decide) rp_k161 b12 rfl ?_
        refine ok_icmp_ne (tgt := 95) dX6_staysBest_60 (by decide) (fun c13 => ?_) (fun c13 => ?_)
        · replace h := h.1 c13
          refine ok_iinc2 (w := 1) dX6_staysBest_95 rfl (by decide) (by decide) rfl ?_
          refine ok_goto (tgt := 26) dX6_staysBest_98 (by decide) ?_
          exact ok_mask [true, true, true, true, false] h
        · replace h := h.2 c13
          refine ok_aload_n dX6_staysBest_63 rfl rfl ?_
          refine ok_iload_n dX6_staysBest_64 rfl rfl ?_
          refine ok_aload_n dX6_staysBest_65 rfl rfl ?_
          refine ok_getR (j := 156) dX6_staysBest_66 fX6_staysBest_7 (by decide) rp_k155 rfl (by decide) ?_
          refine ok_iconst (v := 2) dX6_staysBest_69 (by decide) ?_
          refine ok_iaload (j := 2) dX6_staysBest_70 (by decide) rp_k156 (rp_vi (by decide)) (by decide) ?_
          obtain ⟨v14, M15, r16, h⟩ := h
          refine ok_callV2 dX6_staysBest_71 kX6_staysBest_138 r16 (by decide) rp_k155 rfl rfl (Nat.le_of_ble_eq_true rfl) ?_
          rintro _ _ ⟨rfl, rfl⟩
          refine ok_istore dX6_staysBest_74 (by decide) rfl ?_
          refine ok_iload dX6_staysBest_76 rfl ?_
          refine ok_iload_n dX6_staysBest_78 rfl rfl ?_
          refine ok_icmp_lt (tgt := 93) dX6_staysBest_79 (by decide) (fun c17 => ?_) (fun c17 => ?_)
          · replace h := h.1 c17
            refine ok_iconst (v := 0) dX6_staysBest_93 (by decide) ?_
            exact ok_zreturn dX6_staysBest_94 rfl (by decide) h
          · replace h := h.2 c17
            refine ok_iload dX6_staysBest_82 rfl ?_
            refine ok_iload_n dX6_staysBest_84 rfl rfl ?_
            refine ok_icmp_ne (tgt := 95) dX6_staysBest_85 (by decide) (fun c18 => ?_) (fun c18 => ?_)
            · replace h := h.1 c18
              refine ok_iinc2 (w := 1) dX6_staysBest_95 rfl (by decide) (by decide) rfl ?_
              refine ok_goto (tgt := 26) dX6_staysBest_98 (by decide) ?_
              exact ok_mask [true, true, true, true, false] h
            · replace h := h.2 c18
              refine ok_iload_n dX6_staysBest_88 rfl rfl ?_
              refine ok_iload_n dX6_staysBest_89 rfl rfl ?_
              refine ok_icmp_ge (tgt := 95) dX6_staysBest_90 (by decide) (fun c19 => ?_) (fun c19 => ?_)
              · replace h := h.1 c19
                refine ok_iinc2 (w := 1) dX6_staysBest_95 rfl (by decide) (by decide) rfl ?_
                refine ok_goto (tgt := 26) dX6_staysBest_98 (by decide) ?_
                exact ok_mask [true, true, true, true, false] h
              · replace h := h.2 c19
                refine ok_iconst (v := 0) dX6_staysBest_93 (by decide) ?_
                exact ok_zreturn dX6_staysBest_94 rfl (by decide) h
theorem vX6_headroom (E : rp_E) (post : Option Int32 → rp_M → Prop) (M : rp_M) (l1 : Int32) (h : ∃ v1 M2, rp_C E YX6_isItem [.ref 155, .int l1] M (some v1) M2 ∧ ((¬ v1 = 0 → (∃ P7 : rp_M → Prop, rp_Run E YX6_layOwnTables [.ref 155] M2 (rp_P0 P7) ∧ (∀ M5, P7 M5 → (∃ v9 M10, rp_C E YX6_bestBy [.ref 155, .int (M5 156 1)] M5 (some v9) M10 ∧ (∃ v12 M13, rp_C E YX6_of [.ref 155, .int l1, .int 2] M10 (some v12) M13 ∧ (∃ v15 M16, rp_C E YX6_has [.int v9, .int l1] M13 (some v15) M16 ∧ ((¬ v15 = 0 → (rp_G E YX6_headroom post 61 [.ref 155, .null, .int v9, .int v12, .int (((4 : Int32) + ((5 : Int32) * l1)) + 2), .int 0, .int 1] [] M16)) ∧ (v15 = 0 → (post (some ((999 : Int32) - v12)) M16))))))))) ∧ (v1 = 0 → (post (some (-1)) M2)))) : rp_Run E YX6_headroom [.ref 155, .int l1] M post := by
  refine ok_start (by decide) oX6_headroom (Nat.le_of_ble_eq_true rfl) ?_
  refine ok_aload_n dX6_headroom_0 rfl rfl ?_
  refine ok_iload_n dX6_headroom_1 rfl rfl ?_
  obtain ⟨v1, M2, r3, h⟩ := h
  refine ok_callV2 dX6_headroom_2 kX6_headroom_68 r3 (by decide) rp_k155 rfl rfl (Nat.le_of_ble_eq_true rfl) ?_
  rintro _ _ ⟨rfl, rfl⟩
  refine ok_if_ne (tgt := 10) dX6_headroom_5 (by decide) (fun c4 => ?_) (fun c4 => ?_)
  · replace h := h.1 c4
    refine ok_aload_n dX6_headroom_10 rfl rfl ?_
    obtain ⟨P7, r6, h⟩ := h
    refine ok_callV2 dX6_headroom_11 kX6_headroom_161 r6 (by decide) rp_k155 rfl rfl (Nat.le_of_ble_eq_true rfl) ?_
    rintro _ M5 ⟨rfl, q8⟩
    replace h := h M5 q8
    refine ok_aload_n dX6_headroom_14 rfl rfl ?_
    refine ok_aload_n dX6_headroom_15 rfl rfl ?_
    refine ok_getR (j := 156) dX6_headroom_16 fX6_headroom_7 (by decide) rp_k155 rfl (by decide) ?_
    refine ok_iconst (v := 1) dX6_headroom_19 (by decide) ?_
    refine ok_iaload (j := 1) dX6_headroom_20 (by decide) rp_k156 (rp_vi (by decide)) (by decide) ?_
    obtain ⟨v9, M10, r11, h⟩ := h
    refine ok_callV2 dX6_headroom_21 kX6_headroom_158 r11 (by decide) rp_k155 rfl rfl (Nat.le_of_ble_eq_true rfl) ?_
    rintro _ _ ⟨rfl, rfl⟩
    refine ok_istore_n dX6_headroom_24 rfl (by decide) rfl ?_
    refine ok_aload_n dX6_headroom_25 rfl rfl ?_
    refine ok_iload_n dX6_headroom_26 rfl rfl ?_
    refine ok_iconst (v := 2) dX6_headroom_27 (by decide) ?_
    obtain ⟨v12, M13, r14, h⟩ := h
    refine ok_callV2 dX6_headroom_28 kX6_headroom_72 r14 (by decide) rp_k155 rfl rfl (Nat.le_of_ble_eq_true rfl) ?_
    rintro _ _ ⟨rfl, rfl⟩
    refine ok_istore_n dX6_headroom_31 rfl (by decide) rfl ?_
    refine ok_iload_n dX6_headroom_32 rfl rfl ?_
    refine ok_iload_n dX6_headroom_33 rfl rfl ?_
    obtain ⟨v15, M16, r17, h⟩ := h
    refine ok_callS2 dX6_headroom_34 kX6_headroom_83 r17 rfl rfl (Nat.le_of_ble_eq_true rfl) ?_
    rintro _ _ ⟨rfl, rfl⟩
    refine ok_if_ne (tgt := 46) dX6_headroom_37 (by decide) (fun c18 => ?_) (fun c18 => ?_)
    · replace h := h.1 c18
      refine ok_iconst (v := 4) dX6_headroom_46 (by decide) ?_
      refine ok_iconst (v := 5) dX6_headroom_47 (by decide) ?_
      refine ok_iload_n dX6_headroom_48 rfl rfl ?_
      refine ok_imul dX6_headroom_49 ?_
      refine ok_iadd dX6_headroom_50 ?_
      refine ok_iconst (v := 2) dX6_headroom_51 (by decide) ?_
      refine ok_iadd dX6_headroom_52 ?_
      refine ok_istore dX6_headroom_53 (by decide) rfl ?_
      refine ok_iconst (v := 0) dX6_headroom_55 (by decide) ?_
      refine ok_istore dX6_headroom_56 (by decide) rfl ?_
      refine ok_iconst (v := 1) dX6_headroom_58 (by decide) ?_
      refine ok_istore dX6_headroom_59 (by decide) rfl ?_
      exact ok_mask [true, false, true, true, true, true, true] h
    · replace h := h.2 c18
      refine ok_sipush (v := 999) dX6_headroom_40 (by decide) ?_
      refine ok_iload_n dX6_headroom_43 rfl rfl ?_
      refine ok_isub dX6_headroom_44 ?_
      exact ok_ireturn dX6_headroom_45 rfl h
  · replace h := h.2 c4
    refine ok_iconst (v := (-1)) dX6_headroom_8 (by decide) ?_
    exact ok_ireturn dX6_headroom_9 rfl h
theorem vX6_headroom_61 (E : rp_E) (post : Option Int32 → rp_M → Prop) (M : rp_M) (l2 : Int32) (l3 : Int32) (l4 : Int32) (l5 : Int32) (l6 : Int32) (h : (l6 = 0 → (vp_in l4 88 ∧ (∀ M21, M21 = rp_s M 156 (Int32.toNatClampNeg l4) l3 → (post (some l5) M21)))) ∧ (¬ l6 = 0 → ((999 ≤ (l3 + l5) → (vp_in l4 88 ∧ (∀ M24, M24 = rp_s M 156 (Int32.toNatClampNeg l4) l3 → (post (some l5) M24)))) ∧ (¬ 999 ≤ (l3 + l5) → (vp_in l4 88 ∧ (∀ M26, M26 = rp_s M 156 (Int32.toNatClampNeg l4) ((l3 + l5) + 1) → (∃ v27 M28, rp_C E YX6_staysBest [.ref 155, .int l2] M26 (some v27) M28 ∧ ((v27 = 0 → (rp_G E YX6_headroom post 61 [.ref 155, .null, .int l2, .int l3, .int l4, .int (l5 + 0), .int v27] [] M28)) ∧ (¬ v27 = 0 → (rp_G E YX6_headroom post 61 [.ref 155, .null, .int l2, .int l3, .int l4, .int (l5 + 1), .int v27] [] M28)))))))))) : rp_G E YX6_headroom post 61 [.ref 155, .null, .int l2, .int l3, .int l4, .int l5, .int l6] [] M := by
  refine ok_iload dX6_headroom_61 rfl ?_
  refine ok_if_eq (tgt := 114) dX6_headroom_63 (by decide) (fun c19 => ?_) (fun c19 => ?_)
  · replace h := h.1 c19
    refine ok_aload_n dX6_headroom_114 rfl rfl ?_
    refine ok_getR (j := 156) dX6_headroom_115 fX6_headroom_7 (by decide) rp_k155 rfl (by decide) ?_
    refine ok_iload dX6_headroom_118 rfl ?_
    refine ok_iload_n dX6_headroom_120 rfl rfl ?_
    have b20 := h.1
    replace h := h.2
    refine ok_iastore dX6_headroom_121 (by decide) rp_k156 b20 rfl ?_
    replace h := h _ rfl
    refine ok_iload dX6_headroom_122 rfl ?_
    exact ok_ireturn dX6_headroom_124 rfl h
  · replace h := h.2 c19
    refine ok_iload_n dX6_headroom_66 rfl rfl ?_
    refine ok_iload dX6_headroom_67 rfl ?_
    refine ok_iadd dX6_headroom_69 ?_
    refine ok_sipush (v := 999) dX6_headroom_70 (by decide) ?_
    refine ok_icmp_ge (tgt := 114) dX6_headroom_73 (by decide) (fun c22 => ?_) (fun c22 => ?_)
    · replace h := h.1 c22
      refine ok_aload_n dX6_headroom_114 rfl rfl ?_
      refine ok_getR (j := 156) dX6_headroom_115 fX6_headroom_7 (by decide) rp_k155 rfl (by decide) ?_
      refine ok_iload dX6_headroom_118 rfl ?_
      refine ok_iload_n dX6_headroom_120 rfl rfl ?_
      have b23 := h.1
      replace h := h.2
      refine ok_iastore dX6_headroom_121 (by decide) rp_k156 b23 rfl ?_
      replace h := h _ rfl
      refine ok_iload dX6_headroom_122 rfl ?_
      exact ok_ireturn dX6_headroom_124 rfl h
    · replace h := h.2 c22
      refine ok_aload_n dX6_headroom_76 rfl rfl ?_
      refine ok_getR (j := 156) dX6_headroom_77 fX6_headroom_7 (by decide) rp_k155 rfl (by decide) ?_
      refine ok_iload dX6_headroom_80 rfl ?_
      refine ok_iload_n dX6_headroom_82 rfl rfl ?_
      refine ok_iload dX6_headroom_83 rfl ?_
      refine ok_iadd dX6_headroom_85 ?_
      refine ok_iconst (v := 1) dX6_headroom_86 (by decide) ?_
      refine ok_iadd dX6_headroom_87 ?_
      have b25 := h.1
      replace h := h.2
      refine ok_iastore dX6_headroom_88 (by decide) rp_k156 b25 rfl ?_
      replace h := h _ rfl
      refine ok_aload_n dX6_headroom_89 rfl rfl ?_
      refine ok_iload_n dX6_headroom_90 rfl rfl ?_
      obtain ⟨v27, M28, r29, h⟩ := h
      refine ok_callV2 dX6_headroom_91 kX6_headroom_167 r29 (by decide) rp_k155 rfl rfl (Nat.le_of_ble_eq_true rfl) ?_
      rintro _ _ ⟨rfl, rfl⟩
      refine ok_istore dX6_headroom_94 (by decide) rfl ?_
      refine ok_iload dX6_headroom_96 rfl ?_
      refine ok_iload dX6_headroom_98 rfl ?_
      refine ok_if_eq (tgt := 107) dX6_headroom_100 (by decide) (fun c30 => ?_) (fun c30 => ?_)
      · replace h := h.1 c30
        refine ok_iconst (v := 0) dX6_headroom_107 (by decide) ?_
        refine ok_iadd dX6_headroom_108 ?_
        refine ok_istore dX6_headroom_109 (by decide) rfl ?_
        refine ok_goto (tgt := 61) dX6_headroom_111 (by decide) ?_
        exact ok_mask [true, false, true, true, true, true, true] h
      · replace h := h.2 c30
        refine ok_iconst (v := 1) dX6_headroom_103 (by decide) ?_
        refine ok_goto (tgt := 108) dX6_headroom_104 (by decide) ?_
        refine ok_iadd dX6_headroom_108 ?_
        refine ok_istore dX6_headroom_109 (by decide) rfl ?_
        refine ok_goto (tgt := 61) dX6_headroom_111 (by decide) ?_
        exact ok_mask [true, false, true, true, true, true, true] h
theorem vX6_isAhead (E : rp_E) (post : Option Int32 → rp_M → Prop) (M : rp_M) (l1 : Int32) (l2 : Int32) (h : ∃ v1 M2, rp_C E YX6_of [.ref 155, .int l1, .int 0] M (some v1) M2 ∧ (∃ v4 M5, rp_C E YX6_of [.ref 155, .int l2, .int 1] M2 (some v4) M5 ∧ (∃ v7 M8, rp_C E YX6_of [.ref 155, .int l2, .int 2] M5 (some v7) M8 ∧ (∃ v10 M11, rp_C E YX6_of [.ref 155, .int l2, .int 0] M8 (some v10) M11 ∧ (∃ v13 M14, rp_C E YX6_of [.ref 155, .int l1, .int 1] M11 (some v13) M14 ∧ (∃ v16 M17, rp_C E YX6_of [.ref 155, .int l1, .int 2] M14 (some v16) M17 ∧ (((v10 * (v13 + v16)) < (v1 * (v4 + v7)) → (post (some 1) M17)) ∧ (¬ (v10 * (v13 + v16)) < (v1 * (v4 + v7)) → ((¬ (v1 * (v4 + v7)) = (v10 * (v13 + v16)) → (post (some 0) M17)) ∧ ((v1 * (v4 + v7)) = (v10 * (v13 + v16)) → ((l2 ≤ l1 → (post (some 0) M17)) ∧ (¬ l2 ≤ l1 → (post (some 1) M17))))))))))))) : rp_Run E YX6_isAhead [.ref 155, .int l1, .int l2] M post := by
  refine ok_start (by decide) oX6_isAhead (Nat.le_of_ble_eq_true rfl) ?_
  refine ok_aload_n dX6_isAhead_0 rfl rfl ?_
  refine ok_iload_n dX6_isAhead_1 rfl rfl ?_
  refine ok_iconst (v := 0) dX6_isAhead_2 (by decide) ?_
  obtain ⟨v1, M2, r3, h⟩ := h
  refine ok_callV2 dX6_isAhead_3 kX6_isAhead_72 r3 (by decide) rp_k155 rfl rfl (Nat.le_of_ble_eq_true rfl) ?_
  rintro _ _ ⟨rfl, rfl⟩
  refine ok_aload_n dX6_isAhead_6 rfl rfl ?_
  refine ok_iload_n dX6_isAhead_7 rfl rfl ?_
  refine ok_iconst (v := 1) dX6_isAhead_8 (by decide) ?_
  obtain ⟨v4, M5, r6, h⟩ := h
  refine ok_callV2 dX6_isAhead_9 kX6_isAhead_72 r6 (by decide) rp_k155 rfl rfl (Nat.le_of_ble_eq_true rfl) ?_
  rintro _ _ ⟨rfl, rfl⟩
  refine ok_aload_n dX6_isAhead_12 rfl rfl ?_
  refine ok_iload_n dX6_isAhead_13 rfl rfl ?_
  refine ok_iconst (v := 2) dX6_isAhead_14 (by decide) ?_
  obtain ⟨v7, M8, r9, h⟩ := h
  refine ok_callV2 dX6_isAhead_15 kX6_isAhead_72 r9 (by decide) rp_k155 rfl rfl (Nat.le_of_ble_eq_true rfl) ?_
  rintro _ _ ⟨rfl, rfl⟩
  refine ok_iadd dX6_isAhead_18 ?_
  refine ok_imul dX6_isAhead_19 ?_
  refine ok_istore_n dX6_isAhead_20 rfl (by decide) rfl ?_
  refine ok_aload_n dX6_isAhead_21 rfl rfl ?_
  refine ok_iload_n dX6_isAhead_22 rfl rfl ?_
  refine ok_iconst (v := 0) dX6_isAhead_23 (by decide) ?_
  obtain ⟨v10, M11, r12, h⟩ := h
  refine ok_callV2 dX6_isAhead_24 kX6_isAhead_72 r12 (by decide) rp_k155 rfl rfl (Nat.le_of_ble_eq_true rfl) ?_
  rintro _ _ ⟨rfl, rfl⟩
  refine ok_aload_n dX6_isAhead_27 rfl rfl ?_
  refine ok_iload_n dX6_isAhead_28 rfl rfl ?_
  refine ok_iconst (v := 1) dX6_isAhead_29 (by decide) ?_
  obtain ⟨v13, M14, r15, h⟩ := h
  refine ok_callV2 dX6_isAhead_30 kX6_isAhead_72 r15 (by decide) rp_k155 rfl rfl (Nat.le_of_ble_eq_true rfl) ?_
  rintro _ _ ⟨rfl, rfl⟩
  refine ok_aload_n dX6_isAhead_33 rfl rfl ?_
  refine ok_iload_n dX6_isAhead_34 rfl rfl ?_
  refine ok_iconst (v := 2) dX6_isAhead_35 (by decide) ?_
  obtain ⟨v16, M17, r18, h⟩ := h
  refine ok_callV2 dX6_isAhead_36 kX6_isAhead_72 r18 (by decide) rp_k155 rfl rfl (Nat.le_of_ble_eq_true rfl) ?_
  rintro _ _ ⟨rfl, rfl⟩
  refine ok_iadd dX6_isAhead_39 ?_
  refine ok_imul dX6_isAhead_40 ?_
  refine ok_istore dX6_isAhead_41 (by decide) rfl ?_
  refine ok_iload_n dX6_isAhead_43 rfl rfl ?_
  refine ok_iload dX6_isAhead_44 rfl ?_
  refine ok_icmp_gt (tgt := 60) dX6_isAhead_46 (by decide) (fun c19 => ?_) (fun c19 => ?_)
  · replace h := h.1 c19
    refine ok_iconst (v := 1) dX6_isAhead_60 (by decide) ?_
    refine ok_goto (tgt := 65) dX6_isAhead_61 (by decide) ?_
    exact ok_zreturn dX6_isAhead_65 rfl (by decide) h
  · replace h := h.2 c19
    refine ok_iload_n dX6_isAhead_49 rfl rfl ?_
    refine ok_iload dX6_isAhead_50 rfl ?_
    refine ok_icmp_ne (tgt := 64) dX6_isAhead_52 (by decide) (fun c20 => ?_) (fun c20 => ?_)
    · replace h := h.1 c20
      refine ok_iconst (v := 0) dX6_isAhead_64 (by decide) ?_
      exact ok_zreturn dX6_isAhead_65 rfl (by decide) h
    · replace h := h.2 c20
      refine ok_iload_n dX6_isAhead_55 rfl rfl ?_
      refine ok_iload_n dX6_isAhead_56 rfl rfl ?_
      refine ok_icmp_ge (tgt := 64) dX6_isAhead_57 (by decide) (fun c21 => ?_) (fun c21 => ?_)
      · replace h := h.1 c21
        refine ok_iconst (v := 0) dX6_isAhead_64 (by decide) ?_
        exact ok_zreturn dX6_isAhead_65 rfl (by decide) h
      · replace h := h.2 c21
        refine ok_iconst (v := 1) dX6_isAhead_60 (by decide) ?_
        refine ok_goto (tgt := 65) dX6_isAhead_61 (by decide) ?_
        exact ok_zreturn dX6_isAhead_65 rfl (by decide) h
theorem vX6_greedy (E : rp_E) (post : Option Int32 → rp_M → Prop) (M : rp_M) (l1 : Int32) (h : ∃ v1 M2, rp_C E YX6_in [.int l1, .int 0, .int 1] M (some v1) M2 ∧ ((¬ v1 = 0 → (rp_G E YX6_greedy post 19 [.ref 155, .int l1, .int 0, .int 0, .int 0, .null, .null] [] M2)) ∧ (v1 = 0 → (post (some (-2)) M2)))) : rp_Run E YX6_greedy [.ref 155, .int l1] M post := by
  refine ok_start (by decide) oX6_greedy (Nat.le_of_ble_eq_true rfl) ?_
  refine ok_iload_n dX6_greedy_0 rfl rfl ?_
  refine ok_iconst (v := 0) dX6_greedy_1 (by decide) ?_
  refine ok_iconst (v := 1) dX6_greedy_2 (by decide) ?_
  obtain ⟨v1, M2, r3, h⟩ := h
  refine ok_callS2 dX6_greedy_3 kX6_greedy_53 r3 rfl rfl (Nat.le_of_ble_eq_true rfl) ?_
  rintro _ _ ⟨rfl, rfl⟩
  refine ok_if_ne (tgt := 12) dX6_greedy_6 (by decide) (fun c4 => ?_) (fun c4 => ?_)
  · replace h := h.1 c4
    refine ok_iconst (v := 0) dX6_greedy_12 (by decide) ?_
    refine ok_istore_n dX6_greedy_13 rfl (by decide) rfl ?_
    refine ok_iconst (v := 0) dX6_greedy_14 (by decide) ?_
    refine ok_istore_n dX6_greedy_15 rfl (by decide) rfl ?_
    refine ok_iconst (v := 0) dX6_greedy_16 (by decide) ?_
    refine ok_istore dX6_greedy_17 (by decide) rfl ?_
    exact ok_mask [true, true, true, true, true, false, false] h
  · replace h := h.2 c4
    refine ok_bipush (v := (-2)) dX6_greedy_9 (by decide) ?_
    exact ok_ireturn dX6_greedy_11 rfl h
theorem vX6_greedy_19 (E : rp_E) (post : Option Int32 → rp_M → Prop) (M : rp_M) (l1 : Int32) (l2 : Int32) (l3 : Int32) (l4 : Int32) (h : ((M 156 0) ≤ l4 → ((¬ l1 = 0 → (∃ v7 M8, rp_C E YX6_protectedProfit [.ref 155, .int l3, .int (M 156 3)] M (some v7) M8 ∧ (post (some (v7 + 100000)) M8))) ∧ (l1 = 0 → (post (some l3) M)))) ∧ (¬ (M 156 0) ≤ l4 → (rp_G E YX6_greedy post 37 [.ref 155, .int l1, .int l2, .int l3, .int l4, .int (-6), .int 0] [] M))) : rp_G E YX6_greedy post 19 [.ref 155, .int l1, .int l2, .int l3, .int l4, .null, .null] [] M := by
  refine ok_iload dX6_greedy_19 rfl ?_
  refine ok_aload_n dX6_greedy_21 rfl rfl ?_
  refine ok_getR (j := 156) dX6_greedy_22 fX6_greedy_7 (by decide) rp_k155 rfl (by decide) ?_
  refine ok_iconst (v := 0) dX6_greedy_25 (by decide) ?_
  refine ok_iaload (j := 0) dX6_greedy_26 (by decide) rp_k156 (rp_vi (by decide)) (by decide) ?_
  refine ok_icmp_ge (tgt := 146) dX6_greedy_27 (by decide) (fun c5 => ?_) (fun c5 => ?_)
  · replace h := h.1 c5
    refine ok_iload_n dX6_greedy_146 rfl rfl ?_
    refine ok_if_ne (tgt := 154) dX6_greedy_147 (by decide) (fun c6 => ?_) (fun c6 => ?_)
    · replace h := h.1 c6
      refine ok_aload_n dX6_greedy_154 rfl rfl ?_
      refine ok_iload_n dX6_greedy_155 rfl rfl ?_
      refine ok_aload_n dX6_greedy_156 rfl rfl ?_
      refine ok_getR (j := 156) dX6_greedy_157 fX6_greedy_7 (by decide) rp_k155 rfl (by decide) ?_
      refine ok_iconst (v := 3) dX6_greedy_160 (by decide) ?_
      refine ok_iaload (j := 3) dX6_greedy_161 (by decide) rp_k156 (rp_vi (by decide)) (by decide) ?_
      obtain ⟨v7, M8, r9, h⟩ := h
      refine ok_callV2 dX6_greedy_162 kX6_greedy_141 r9 (by decide) rp_k155 rfl rfl (Nat.le_of_ble_eq_true rfl) ?_
      rintro _ _ ⟨rfl, rfl⟩
      refine ok_ldc fX6_greedy_151 dX6_greedy_165 ?_
      refine ok_iadd dX6_greedy_167 ?_
      exact ok_ireturn dX6_greedy_168 rfl h
    · replace h := h.2 c6
      refine ok_iload_n dX6_greedy_150 rfl rfl ?_
      refine ok_goto (tgt := 168) dX6_greedy_151 (by decide) ?_
      exact ok_ireturn dX6_greedy_168 rfl h
  · replace h := h.2 c5
    refine ok_bipush (v := (-6)) dX6_greedy_30 (by decide) ?_
    refine ok_istore dX6_greedy_32 (by decide) rfl ?_
    refine ok_iconst (v := 0) dX6_greedy_34 (by decide) ?_
    refine ok_istore dX6_greedy_35 (by decide) rfl ?_
    exact ok_mask [true, true, true, true, true, true, true] h
theorem vX6_greedy_37 (E : rp_E) (post : Option Int32 → rp_M → Prop) (M : rp_M) (l1 : Int32) (l2 : Int32) (l3 : Int32) (l4 : Int32) (l5 : Int32) (l6 : Int32) (h : ((M 156 0) ≤ l6 → (∃ v11 M12, rp_C E YX6_isAllowed [.ref 155, .int (l3 ||| ((1 : Int32) <<< (l5 &&& 31) : Int32))] M (some v11) M12 ∧ ((v11 = 0 → (rp_G E YX6_greedy post 19 [.ref 155, .int l1, .int (l2 ||| ((1 : Int32) <<< (l5 &&& 31) : Int32)), .int l3, .int (l4 + 1), .null, .null] [] M12)) ∧ (¬ v11 = 0 → (∃ v15 M16, rp_C E YX6_protectedWeight [.ref 155, .int (l3 ||| ((1 : Int32) <<< (l5 &&& 31) : Int32)), .int (M12 156 2)] M12 (some v15) M16 ∧ (((M16 156 1) < v15 → (rp_G E YX6_greedy post 19 [.ref 155, .int l1, .int (l2 ||| ((1 : Int32) <<< (l5 &&& 31) : Int32)), .int l3, .int (l4 + 1), .null, .null] [] M16)) ∧ (¬ (M16 156 1) < v15 → (rp_G E YX6_greedy post 19 [.ref 155, .int l1, .int (l2 ||| ((1 : Int32) <<< (l5 &&& 31) : Int32)), .int (l3 ||| ((1 : Int32) <<< (l5 &&& 31) : Int32)), .int (l4 + 1), .null, .null] [] M16)))))))) ∧ (¬ (M 156 0) ≤ l6 → (∃ v19 M20, rp_C E YX6_has [.int l2, .int l6] M (some v19) M20 ∧ ((¬ v19 = 0 → (rp_G E YX6_greedy post 37 [.ref 155, .int l1, .int l2, .int l3, .int l4, .int l5, .int (l6 + 1)] [] M20)) ∧ (v19 = 0 → ((l5 < 0 → (rp_G E YX6_greedy post 37 [.ref 155, .int l1, .int l2, .int l3, .int l4, .int l6, .int (l6 + 1)] [] M20)) ∧ (¬ l5 < 0 → (∃ v24 M25, rp_C E YX6_isAhead [.ref 155, .int l6, .int l5] M20 (some v24) M25 ∧ ((v24 = 0 → (rp_G E YX6_greedy post 37 [.ref 155, .int l1, .int l2, .int l3, .int l4, .int l5, .int (l6 + 1)] [] M25)) ∧ (¬ v24 = 0 → (rp_G E YX6_greedy post 37 [.ref 155, .int l1, .int l2, .int l3, .int l4, .int l6, .int (l6 + 1)] [] M25))))))))))) : rp_G E YX6_greedy post 37 [.ref 155, .int l1, .int l2, .int l3, .int l4, .int l5, .int l6] [] M := by
  refine ok_iload dX6_greedy_37 rfl ?_
  refine ok_aload_n dX6_greedy_39 rfl rfl ?_
  refine ok_getR (j := 156) dX6_greedy_40 fX6_greedy_7 (by decide) rp_k155 rfl (by decide) ?_
  refine ok_iconst (v := 0) dX6_greedy_43 (by decide) ?_
  refine ok_iaload (j := 0) dX6_greedy_44 (by decide) rp_k156 (rp_vi (by decide)) (by decide) ?_
  refine ok_icmp_ge (tgt := 88) dX6_greedy_45 (by decide) (fun c10 => ?_) (fun c10 => ?_)
  · replace h := h.1 c10
    refine ok_iload_n dX6_greedy_88 rfl rfl ?_
    refine ok_iconst (v := 1) dX6_greedy_89 (by decide) ?_
    refine ok_iload dX6_greedy_90 rfl ?_
    refine ok_ishl dX6_greedy_92 ?_
    refine ok_ior dX6_greedy_93 ?_
    refine ok_istore_n dX6_greedy_94 rfl (by decide) rfl ?_
    refine ok_iload_n dX6_greedy_95 rfl rfl ?_
    refine ok_iconst (v := 1) dX6_greedy_96 (by decide) ?_
    refine ok_iload dX6_greedy_97 rfl ?_
    refine ok_ishl dX6_greedy_99 ?_
    refine ok_ior dX6_greedy_100 ?_
    refine ok_istore dX6_greedy_101 (by decide) rfl ?_
    refine ok_aload_n dX6_greedy_103 rfl rfl ?_
    refine ok_iload dX6_greedy_104 rfl ?_
    obtain ⟨v11, M12, r13, h⟩ := h
    refine ok_callV2 dX6_greedy_106 kX6_greedy_135 r13 (by decide) rp_k155 rfl rfl (Nat.le_of_ble_eq_true rfl) ?_
    rintro _ _ ⟨rfl, rfl⟩
    refine ok_if_eq (tgt := 138) dX6_greedy_109 (by decide) (fun c14 => ?_) (fun c14 => ?_)
    · replace h := h.1 c14
      refine ok_iload_n dX6_greedy_138 rfl rfl ?_
      refine ok_istore_n dX6_greedy_139 rfl (by decide) rfl ?_
      refine ok_iinc2 (w := 1) dX6_greedy_140 rfl (by decide) (by decide) rfl ?_
      refine ok_goto (tgt := 19) dX6_greedy_143 (by decide) ?_
      exact ok_mask [true, true, true, true, true, false, false] h
    · replace h := h.2 c14
      refine ok_aload_n dX6_greedy_112 rfl rfl ?_
      refine ok_iload dX6_greedy_113 rfl ?_
      refine ok_aload_n dX6_greedy_115 rfl rfl ?_
      refine ok_getR (j := 156) dX6_greedy_116 fX6_greedy_7 (by decide) rp_k155 rfl (by decide) ?_
      refine ok_iconst (v := 2) dX6_greedy_119 (by decide) ?_
      refine ok_iaload (j := 2) dX6_greedy_120 (by decide) rp_k156 (rp_vi (by decide)) (by decide) ?_
      obtain ⟨v15, M16, r17, h⟩ := h
      refine ok_callV2 dX6_greedy_121 kX6_greedy_138 r17 (by decide) rp_k155 rfl rfl (Nat.le_of_ble_eq_true rfl) ?_
      rintro _ _ ⟨rfl, rfl⟩
      refine ok_aload_n dX6_greedy_124 rfl rfl ?_
      refine ok_getR (j := 156) dX6_greedy_125 fX6_greedy_7 (by decide) rp_k155 rfl (by decide) ?_
      refine ok_iconst (v := 1) dX6_greedy_128 (by decide) ?_
      refine ok_iaload (j := 1) dX6_greedy_129 (by decide) rp_k156 (rp_vi (by decide)) (by decide) ?_
      refine ok_icmp_gt (tgt := 138) dX6_greedy_130 (by decide) (fun c18 => ?_) (fun c18 => ?_)
      · replace h := h.1 c18
        refine ok_iload_n dX6_greedy_138 rfl rfl ?_
        refine ok_istore_n dX6_greedy_139 rfl (by decide) rfl ?_
        refine ok_iinc2 (w := 1) dX6_greedy_140 rfl (by decide) (by decide) rfl ?_
        refine ok_goto (tgt := 19) dX6_greedy_143 (by decide) ?_
        exact ok_mask [true, true, true, true, true, false, false] h
      · replace h := h.2 c18
        refine ok_iload dX6_greedy_133 rfl ?_
        refine ok_goto (tgt := 139) dX6_greedy_135 (by decide) ?_
        refine ok_istore_n dX6_greedy_139 rfl (by decide) rfl ?_
        refine ok_iinc2 (w := 1) dX6_greedy_140 rfl (by decide) (by decide) rfl ?_
        refine ok_goto (tgt := 19) dX6_greedy_143 (by decide) ?_
        exact ok_mask [true, true, true, true, true, false, false] h
  · replace h := h.2 c10
    refine ok_iload_n dX6_greedy_48 rfl rfl ?_
    refine ok_iload dX6_greedy_49 rfl ?_
    obtain ⟨v19, M20, r21, h⟩ := h
    refine ok_callS2 dX6_greedy_51 kX6_greedy_83 r21 rfl rfl (Nat.le_of_ble_eq_true rfl) ?_
    rintro _ _ ⟨rfl, rfl⟩
    refine ok_if_ne (tgt := 78) dX6_greedy_54 (by decide) (fun c22 => ?_) (fun c22 => ?_)
    · replace h := h.1 c22
      refine ok_iload dX6_greedy_78 rfl ?_
      refine ok_istore dX6_greedy_80 (by decide) rfl ?_
      refine ok_iinc2 (w := 1) dX6_greedy_82 rfl (by decide) (by decide) rfl ?_
      refine ok_goto (tgt := 37) dX6_greedy_85 (by decide) ?_
      exact ok_mask [true, true, true, true, true, true, true] h
    · replace h := h.2 c22
      refine ok_iload dX6_greedy_57 rfl ?_
      refine ok_if_lt (tgt := 73) dX6_greedy_59 (by decide) (fun c23 => ?_) (fun c23 => ?_)
      · replace h := h.1 c23
        refine ok_iload dX6_greedy_73 rfl ?_
        refine ok_goto (tgt := 80) dX6_greedy_75 (by decide) ?_
        refine ok_istore dX6_greedy_80 (by decide) rfl ?_
        refine ok_iinc2 (w := 1) dX6_greedy_82 rfl (by decide) (by decide) rfl ?_
        refine ok_goto (tgt := 37) dX6_greedy_85 (by decide) ?_
        exact ok_mask [true, true, true, true, true, true, true] h
      · replace h := h.2 c23
        refine ok_aload_n dX6_greedy_62 rfl rfl ?_
        refine ok_iload dX6_greedy_63 rfl ?_
        refine ok_iload dX6_greedy_65 rfl ?_
        obtain ⟨v24, M25, r26, h⟩ := h
        refine ok_callV2 dX6_greedy_67 kX6_greedy_170 r26 (by decide) rp_k155 rfl rfl (Nat.le_of_ble_eq_true rfl) ?_
        rintro _ _ ⟨rfl, rfl⟩
        refine ok_if_eq (tgt := 78) dX6_greedy_70 (by decide) (fun c27 => ?_) (fun c27 => ?_)
        · replace h := h.1 c27
          refine ok_iload dX6_greedy_78 rfl ?_
          refine ok_istore dX6_greedy_80 (by decide) rfl ?_
          refine ok_iinc2 (w := 1) dX6_greedy_82 rfl (by decide) (by decide) rfl ?_
          refine ok_goto (tgt := 37) dX6_greedy_85 (by decide) ?_
          exact ok_mask [true, true, true, true, true, true, true] h
        · replace h := h.2 c27
          refine ok_iload dX6_greedy_73 rfl ?_
          refine ok_goto (tgt := 80) dX6_greedy_75 (by decide) ?_
          refine ok_istore dX6_greedy_80 (by decide) rfl ?_
          refine ok_iinc2 (w := 1) dX6_greedy_82 rfl (by decide) (by decide) rfl ?_
          refine ok_goto (tgt := 37) dX6_greedy_85 (by decide) ?_
          exact ok_mask [true, true, true, true, true, true, true] h
theorem vX6_comesAhead (E : rp_E) (post : Option Int32 → rp_M → Prop) (M : rp_M) (l1 : Int32) (l2 : Int32) (h : vp_in l1 4096 ∧ (vp_in l2 4096 ∧ (((M 161 (Int32.toNatClampNeg l1)) = (M 161 (Int32.toNatClampNeg l2)) → (((M 160 (Int32.toNatClampNeg l1)) = (M 160 (Int32.toNatClampNeg l2)) → ((l2 ≤ l1 → (post (some 0) M)) ∧ (¬ l2 ≤ l1 → (post (some 1) M)))) ∧ (¬ (M 160 (Int32.toNatClampNeg l1)) = (M 160 (Int32.toNatClampNeg l2)) → (((M 160 (Int32.toNatClampNeg l2)) ≤ (M 160 (Int32.toNatClampNeg l1)) → (post (some 0) M)) ∧ (¬ (M 160 (Int32.toNatClampNeg l2)) ≤ (M 160 (Int32.toNatClampNeg l1)) → (post (some 1) M)))))) ∧ (¬ (M 161 (Int32.toNatClampNeg l1)) = (M 161 (Int32.toNatClampNeg l2)) → (((M 161 (Int32.toNatClampNeg l1)) ≤ (M 161 (Int32.toNatClampNeg l2)) → (post (some 0) M)) ∧ (¬ (M 161 (Int32.toNatClampNeg l1)) ≤ (M 161 (Int32.toNatClampNeg l2)) → (post (some 1) M))))))) : rp_Run E YX6_comesAhead [.ref 155, .int l1, .int l2] M post := by
  refine ok_start (by decide) oX6_comesAhead (Nat.le_of_ble_eq_true rfl) ?_
  refine ok_aload_n dX6_comesAhead_0 rfl rfl ?_
  refine ok_getR (j := 161) dX6_comesAhead_1 fX6_comesAhead_25 (by decide) rp_k155 rfl (by decide) ?_
  refine ok_iload_n dX6_comesAhead_4 rfl rfl ?_
  have b1 := h.1
  replace h := h.2
  refine ok_iaload dX6_comesAhead_5 (by decide) rp_k161 b1 rfl ?_
  refine ok_aload_n dX6_comesAhead_6 rfl rfl ?_
  refine ok_getR (j := 161) dX6_comesAhead_7 fX6_comesAhead_25 (by decide) rp_k155 rfl (by decide) ?_
  refine ok_iload_n dX6_comesAhead_10 rfl rfl ?_
  have b2 := h.1
  replace h := h.2
  refine ok_iaload dX6_comesAhead_11 (by decide) rp_k161 b2 rfl ?_
  refine ok_icmp_eq (tgt := 36) dX6_comesAhead_12 (by decide) (fun c3 => ?_) (fun c3 => ?_)
  · replace h := h.1 c3
    refine ok_aload_n dX6_comesAhead_36 rfl rfl ?_
    refine ok_getR (j := 160) dX6_comesAhead_37 fX6_comesAhead_22 (by decide) rp_k155 rfl (by decide) ?_
    refine ok_iload_n dX6_comesAhead_40 rfl rfl ?_
    refine ok_iaload dX6_comesAhead_41 (by decide) rp_k160 b1 rfl ?_
    refine ok_aload_n dX6_comesAhead_42 rfl rfl ?_
    refine ok_getR (j := 160) dX6_comesAhead_43 fX6_comesAhead_22 (by decide) rp_k155 rfl (by decide) ?_
    refine ok_iload_n dX6_comesAhead_46 rfl rfl ?_
    refine ok_iaload dX6_comesAhead_47 (by decide) rp_k160 b2 rfl ?_
    refine ok_icmp_eq (tgt := 74) dX6_comesAhead_48 (by decide) (fun c4 => ?_) (fun c4 => ?_)
    · replace h := h.1 c4
      refine ok_iload_n dX6_comesAhead_74 rfl rfl ?_
      refine ok_iload_n dX6_comesAhead_75 rfl rfl ?_
      refine ok_icmp_ge (tgt := 83) dX6_comesAhead_76 (by decide) (fun c5 => ?_) (fun c5 => ?_)
      · replace h := h.1 c5
        refine ok_iconst (v := 0) dX6_comesAhead_83 (by decide) ?_
        exact ok_zreturn dX6_comesAhead_84 rfl (by decide) h
      · replace h := h.2 c5
        refine ok_iconst (v := 1) dX6_comesAhead_79 (by decide) ?_
        refine ok_goto (tgt := 84) dX6_comesAhead_80 (by decide) ?_
        exact ok_zreturn dX6_comesAhead_84 rfl (by decide) h
    · replace h := h.2 c4
      refine ok_aload_n dX6_comesAhead_51 rfl rfl ?_
      refine ok_getR (j := 160) dX6_comesAhead_52 fX6_comesAhead_22 (by decide) rp_k155 rfl (by decide) ?_
      refine ok_iload_n dX6_comesAhead_55 rfl rfl ?_
      refine ok_iaload dX6_comesAhead_56 (by decide) rp_k160 b1 rfl ?_
      refine ok_aload_n dX6_comesAhead_57 rfl rfl ?_
      refine ok_getR (j := 160) dX6_comesAhead_58 fX6_comesAhead_22 (by decide) rp_k155 rfl (by decide) ?_
      refine ok_iload_n dX6_comesAhead_61 rfl rfl ?_
      refine ok_iaload dX6_comesAhead_62 (by decide) rp_k160 b2 rfl ?_
      refine ok_icmp_ge (tgt := 70) dX6_comesAhead_63 (by decide) (fun c6 => ?_) (fun c6 => ?_)
      · replace h := h.1 c6
        refine ok_iconst (v := 0) dX6_comesAhead_70 (by decide) ?_
        refine ok_goto (tgt := 84) dX6_comesAhead_71 (by decide) ?_
        exact ok_zreturn dX6_comesAhead_84 rfl (by decide) h
      · replace h := h.2 c6
        refine ok_iconst (v := 1) dX6_comesAhead_66 (by decide) ?_
        refine ok_goto (tgt := 84) dX6_comesAhead_67 (by decide) ?_
        exact ok_zreturn dX6_comesAhead_84 rfl (by decide) h
  · replace h := h.2 c3
    refine ok_aload_n dX6_comesAhead_15 rfl rfl ?_
    refine ok_getR (j := 161) dX6_comesAhead_16 fX6_comesAhead_25 (by decide) rp_k155 rfl (by decide) ?_
    refine ok_iload_n dX6_comesAhead_19 rfl rfl ?_
    refine ok_iaload dX6_comesAhead_20 (by decide) rp_k161 b1 rfl ?_
    refine ok_aload_n dX6_comesAhead_21 rfl rfl ?_
    refine ok_getR (j := 161) dX6_comesAhead_22 fX6_comesAhead_25 (by decide) rp_k155 rfl (by decide) ?_
    refine ok_iload_n dX6_comesAhead_25 rfl rfl ?_
    refine ok_iaload dX6_comesAhead_26 (by decide) rp_k161 b2 rfl ?_
    refine ok_icmp_le (tgt := 34) dX6_comesAhead_27 (by decide) (fun c7 => ?_) (fun c7 => ?_)
    · replace h := h.1 c7
      refine ok_iconst (v := 0) dX6_comesAhead_34 (by decide) ?_
      exact ok_zreturn dX6_comesAhead_35 rfl (by decide) h
    · replace h := h.2 c7
      refine ok_iconst (v := 1) dX6_comesAhead_30 (by decide) ?_
      refine ok_goto (tgt := 35) dX6_comesAhead_31 (by decide) ?_
      exact ok_zreturn dX6_comesAhead_35 rfl (by decide) h
theorem vX6_isGood (E : rp_E) (post : Option Int32 → rp_M → Prop) (M : rp_M) (l1 : Int32) (h : vp_in l1 4096 ∧ (((M 162 (Int32.toNatClampNeg l1)) = 0 → (post (some 0) M)) ∧ (¬ (M 162 (Int32.toNatClampNeg l1)) = 0 → (((M 156 1) < (M 160 (Int32.toNatClampNeg l1)) → (post (some 0) M)) ∧ (¬ (M 156 1) < (M 160 (Int32.toNatClampNeg l1)) → (post (some 1) M)))))) : rp_Run E YX6_isGood [.ref 155, .int l1] M post := by
  refine ok_start (by decide) oX6_isGood (Nat.le_of_ble_eq_true rfl) ?_
  refine ok_aload_n dX6_isGood_0 rfl rfl ?_
  refine ok_getR (j := 162) dX6_isGood_1 fX6_isGood_28 (by decide) rp_k155 rfl (by decide) ?_
  refine ok_iload_n dX6_isGood_4 rfl rfl ?_
  have b1 := h.1
  replace h := h.2
  refine ok_zaload dX6_isGood_5 (by decide) rp_k162 b1 rfl ?_
  refine ok_if_eq (tgt := 28) dX6_isGood_6 (by decide) (fun c2 => ?_) (fun c2 => ?_)
  · replace h := h.1 c2
    refine ok_iconst (v := 0) dX6_isGood_28 (by decide) ?_
    exact ok_zreturn dX6_isGood_29 rfl (by decide) h
  · replace h := h.2 c2
    refine ok_aload_n dX6_isGood_9 rfl rfl ?_
    refine ok_getR (j := 160) dX6_isGood_10 fX6_isGood_22 (by decide) rp_k155 rfl (by decide) ?_
    refine ok_iload_n dX6_isGood_13 rfl rfl ?_
    refine ok_iaload dX6_isGood_14 (by decide) rp_k160 b1 rfl ?_
    refine ok_aload_n dX6_isGood_15 rfl rfl ?_
    refine ok_getR (j := 156) dX6_isGood_16 fX6_isGood_7 (by decide) rp_k155 rfl (by decide) ?_
    refine ok_iconst (v := 1) dX6_isGood_19 (by decide) ?_
    refine ok_iaload (j := 1) dX6_isGood_20 (by decide) rp_k156 (rp_vi (by decide)) (by decide) ?_
    refine ok_icmp_gt (tgt := 28) dX6_isGood_21 (by decide) (fun c3 => ?_) (fun c3 => ?_)
    · replace h := h.1 c3
      refine ok_iconst (v := 0) dX6_isGood_28 (by decide) ?_
      exact ok_zreturn dX6_isGood_29 rfl (by decide) h
    · replace h := h.2 c3
      refine ok_iconst (v := 1) dX6_isGood_24 (by decide) ?_
      refine ok_goto (tgt := 29) dX6_isGood_25 (by decide) ?_
      exact ok_zreturn dX6_isGood_29 rfl (by decide) h
theorem vX6_forced (E : rp_E) (post : Option Int32 → rp_M → Prop) (M : rp_M) (l1 : Int32) (l2 : Int32) (l3 : Int32) (h : ∃ v1 M2, rp_C E YX6_isChoice [.ref 155, .int l1] M (some v1) M2 ∧ ((v1 = 0 → (post (some (-1)) M2)) ∧ (¬ v1 = 0 → (∃ v5 M6, rp_C E YX6_isChoice [.ref 155, .int l2] M2 (some v5) M6 ∧ ((¬ v5 = 0 → (∃ v9 M10, rp_C E YX6_in [.int l3, .int 0, .int 1] M6 (some v9) M10 ∧ ((¬ v9 = 0 → (((l1 &&& l2) = 0 → (∃ P16 : rp_M → Prop, rp_Run E YX6_layOwnTables [.ref 155] M10 (rp_P0 P16) ∧ (∀ M14, P16 M14 → (rp_G E YX6_forced post 50 [.ref 155, .int l1, .int l2, .int l3, .int (-6), .int 0] [] M14)))) ∧ (¬ (l1 &&& l2) = 0 → (post (some (-5)) M10)))) ∧ (v9 = 0 → (post (some (-2)) M10))))) ∧ (v5 = 0 → (post (some (-1)) M6))))))) : rp_Run E YX6_forced [.ref 155, .int l1, .int l2, .int l3] M post := by
  refine ok_start (by decide) oX6_forced (Nat.le_of_ble_eq_true rfl) ?_
  refine ok_aload_n dX6_forced_0 rfl rfl ?_
  refine ok_iload_n dX6_forced_1 rfl rfl ?_
  obtain ⟨v1, M2, r3, h⟩ := h
  refine ok_callV2 dX6_forced_2 kX6_forced_148 r3 (by decide) rp_k155 rfl rfl (Nat.le_of_ble_eq_true rfl) ?_
  rintro _ _ ⟨rfl, rfl⟩
  refine ok_if_eq (tgt := 16) dX6_forced_5 (by decide) (fun c4 => ?_) (fun c4 => ?_)
  · replace h := h.1 c4
    refine ok_iconst (v := (-1)) dX6_forced_16 (by decide) ?_
    exact ok_ireturn dX6_forced_17 rfl h
  · replace h := h.2 c4
    refine ok_aload_n dX6_forced_8 rfl rfl ?_
    refine ok_iload_n dX6_forced_9 rfl rfl ?_
    obtain ⟨v5, M6, r7, h⟩ := h
    refine ok_callV2 dX6_forced_10 kX6_forced_148 r7 (by decide) rp_k155 rfl rfl (Nat.le_of_ble_eq_true rfl) ?_
    rintro _ _ ⟨rfl, rfl⟩
    refine ok_if_ne (tgt := 18) dX6_forced_13 (by decide) (fun c8 => ?_) (fun c8 => ?_)
    · replace h := h.1 c8
      refine ok_iload_n dX6_forced_18 rfl rfl ?_
      refine ok_iconst (v := 0) dX6_forced_19 (by decide) ?_
      refine ok_iconst (v := 1) dX6_forced_20 (by decide) ?_
      obtain ⟨v9, M10, r11, h⟩ := h
      refine ok_callS2 dX6_forced_21 kX6_forced_53 r11 rfl rfl (Nat.le_of_ble_eq_true rfl) ?_
      rintro _ _ ⟨rfl, rfl⟩
      refine ok_if_ne (tgt := 30) dX6_forced_24 (by decide) (fun c12 => ?_) (fun c12 => ?_)
      · replace h := h.1 c12
        refine ok_iload_n dX6_forced_30 rfl rfl ?_
        refine ok_iload_n dX6_forced_31 rfl rfl ?_
        refine ok_iand dX6_forced_32 ?_
        refine ok_if_eq (tgt := 39) dX6_forced_33 (by decide) (fun c13 => ?_) (fun c13 => ?_)
        · replace h := h.1 c13
          refine ok_aload_n dX6_forced_39 rfl rfl ?_
          obtain ⟨P16, r15, h⟩ := h
          refine ok_callV2 dX6_forced_40 kX6_forced_161 r15 (by decide) rp_k155 rfl rfl (Nat.le_of_ble_eq_true rfl) ?_
          rintro _ M14 ⟨rfl, q17⟩
          replace h := h M14 q17
          refine ok_bipush (v := (-6)) dX6_forced_43 (by decide) ?_
          refine ok_istore dX6_forced_45 (by decide) rfl ?_
          refine ok_iconst (v := 0) dX6_forced_47 (by decide) ?_
          refine ok_istore dX6_forced_48 (by decide) rfl ?_
          exact ok_mask [true, true, true, true, true, true] h
        · replace h := h.2 c13
          refine ok_bipush (v := (-5)) dX6_forced_36 (by decide) ?_
          exact ok_ireturn dX6_forced_38 rfl h
      · replace h := h.2 c12
        refine ok_bipush (v := (-2)) dX6_forced_27 (by decide) ?_
        exact ok_ireturn dX6_forced_29 rfl h
    · replace h := h.2 c8
      refine ok_iconst (v := (-1)) dX6_forced_16 (by decide) ?_
      exact ok_ireturn dX6_forced_17 rfl h
theorem vX6_forced_50 (E : rp_E) (post : Option Int32 → rp_M → Prop) (M : rp_M) (l1 : Int32) (l2 : Int32) (l3 : Int32) (l4 : Int32) (l5 : Int32) (h : ∃ v18 M19, rp_C E YX6_sets [.ref 155] M (some v18) M19 ∧ ((v18 ≤ l5 → ((l4 < 0 → (post (some l4) M19)) ∧ (¬ l4 < 0 → ((¬ l3 = 0 → (vp_in l4 4096 ∧ (post (some ((M19 161 (Int32.toNatClampNeg l4)) + 100000)) M19))) ∧ (l3 = 0 → (post (some l4) M19)))))) ∧ (¬ v18 ≤ l5 → ((¬ (l1 &&& (l5 ^^^ (-1))) = 0 → (rp_G E YX6_forced post 50 [.ref 155, .int l1, .int l2, .int l3, .int l4, .int (l5 + 1)] [] M19)) ∧ ((l1 &&& (l5 ^^^ (-1))) = 0 → ((¬ (l2 &&& l5) = 0 → (rp_G E YX6_forced post 50 [.ref 155, .int l1, .int l2, .int l3, .int l4, .int (l5 + 1)] [] M19)) ∧ ((l2 &&& l5) = 0 → (∃ v27 M28, rp_C E YX6_isGood [.ref 155, .int l5] M19 (some v27) M28 ∧ ((v27 = 0 → (rp_G E YX6_forced post 50 [.ref 155, .int l1, .int l2, .int l3, .int l4, .int (l5 + 1)] [] M28)) ∧ (¬ v27 = 0 → ((l4 < 0 → (rp_G E YX6_forced post 50 [.ref 155, .int l1, .int l2, .int l3, .int l5, .int (l5 + 1)] [] M28)) ∧ (¬ l4 < 0 → (∃ v32 M33, rp_C E YX6_comesAhead [.ref 155, .int l5, .int l4] M28 (some v32) M33 ∧ ((v32 = 0 → (rp_G E YX6_forced post 50 [.ref 155, .int l1, .int l2, .int l3, .int l4, .int (l5 + 1)] [] M33)) ∧ (¬ v32 = 0 → (rp_G E YX6_forced post 50 [.ref 155, .int l1, .int l2, .int l3, .int l5, .int (l5 + 1)] [] M33)))))))))))))))) : rp_G E YX6_forced post 50 [.ref 155, .int l1, .int l2, .int l3, .int l4, .int l5] [] M := by
  refine ok_iload dX6_forced_50 rfl ?_
  refine ok_aload_n dX6_forced_52 rfl rfl ?_
  obtain ⟨v18, M19, r20, h⟩ := h
  refine ok_callV2 dX6_forced_53 kX6_forced_132 r20 (by decide) rp_k155 rfl rfl (Nat.le_of_ble_eq_true rfl) ?_
  rintro _ _ ⟨rfl, rfl⟩
  refine ok_icmp_ge (tgt := 110) dX6_forced_56 (by decide) (fun c21 => ?_) (fun c21 => ?_)
  · replace h := h.1 c21
    refine ok_iload dX6_forced_110 rfl ?_
    refine ok_if_lt (tgt := 119) dX6_forced_112 (by decide) (fun c22 => ?_) (fun c22 => ?_)
    · replace h := h.1 c22
      refine ok_iload dX6_forced_119 rfl ?_
      refine ok_goto (tgt := 134) dX6_forced_121 (by decide) ?_
      exact ok_ireturn dX6_forced_134 rfl h
    · replace h := h.2 c22
      refine ok_iload_n dX6_forced_115 rfl rfl ?_
      refine ok_if_ne (tgt := 124) dX6_forced_116 (by decide) (fun c23 => ?_) (fun c23 => ?_)
      · replace h := h.1 c23
        refine ok_aload_n dX6_forced_124 rfl rfl ?_
        refine ok_getR (j := 161) dX6_forced_125 fX6_forced_25 (by decide) rp_k155 rfl (by decide) ?_
        refine ok_iload dX6_forced_128 rfl ?_
        have b24 := h.1
        replace h := h.2
        refine ok_iaload dX6_forced_130 (by decide) rp_k161 b24 rfl ?_
        refine ok_ldc fX6_forced_151 dX6_forced_131 ?_
        refine ok_iadd dX6_forced_133 ?_
        exact ok_ireturn dX6_forced_134 rfl h
      · replace h := h.2 c23
        refine ok_iload dX6_forced_119 rfl ?_
        refine ok_goto (tgt := 134) dX6_forced_121 (by decide) ?_
        exact ok_ireturn dX6_forced_134 rfl h
  · replace h := h.2 c21
    refine ok_iload_n dX6_forced_59 rfl rfl ?_
    refine ok_iload dX6_forced_60 rfl ?_
    refine ok_iconst (v := (-1)) dX6_forced_62 (by decide) ?_
    refine ok_ixor dX6_forced_63 ?_
    refine ok_iand dX6_forced_64 ?_
    refine ok_if_ne (tgt := 104) dX6_forced_65 (by decide) (fun c25 => ?_) (fun c25 => ?_)
    · replace h := h.1 c25
      refine ok_iinc2 (w := 1) dX6_forced_104 rfl (by decide) (by decide) rfl ?_
      refine ok_goto (tgt := 50) dX6_forced_107 (by decide) ?_
      exact ok_mask [true, true, true, true, true, true] h
    · replace h := h.2 c25
      refine ok_iload_n dX6_forced_68 rfl rfl ?_
      refine ok_iload dX6_forced_69 rfl ?_
      refine ok_iand dX6_forced_71 ?_
      refine ok_if_ne (tgt := 104) dX6_forced_72 (by decide) (fun c26 => ?_) (fun c26 => ?_)
      · replace h := h.1 c26
        refine ok_iinc2 (w := 1) dX6_forced_104 rfl (by decide) (by decide) rfl ?_
        refine ok_goto (tgt := 50) dX6_forced_107 (by decide) ?_
        exact ok_mask [true, true, true, true, true, true] h
      · replace h := h.2 c26
        refine ok_aload_n dX6_forced_75 rfl rfl ?_
        refine ok_iload dX6_forced_76 rfl ?_
        obtain ⟨v27, M28, r29, h⟩ := h
        refine ok_callV2 dX6_forced_78 kX6_forced_173 r29 (by decide) rp_k155 rfl rfl (Nat.le_of_ble_eq_true rfl) ?_
        rintro _ _ ⟨rfl, rfl⟩
        refine ok_if_eq (tgt := 104) dX6_forced_81 (by decide) (fun c30 => ?_) (fun c30 => ?_)
        · replace h := h.1 c30
          refine ok_iinc2 (w := 1) dX6_forced_104 rfl (by decide) (by decide) rfl ?_
          refine ok_goto (tgt := 50) dX6_forced_107 (by decide) ?_
          exact ok_mask [true, true, true, true, true, true] h
        · replace h := h.2 c30
          refine ok_iload dX6_forced_84 rfl ?_
          refine ok_if_lt (tgt := 100) dX6_forced_86 (by decide) (fun c31 => ?_) (fun c31 => ?_)
          · replace h := h.1 c31
            refine ok_iload dX6_forced_100 rfl ?_
            refine ok_istore dX6_forced_102 (by decide) rfl ?_
            refine ok_iinc2 (w := 1) dX6_forced_104 rfl (by decide) (by decide) rfl ?_
            refine ok_goto (tgt := 50) dX6_forced_107 (by decide) ?_
            exact ok_mask [true, true, true, true, true, true] h
          · replace h := h.2 c31
            refine ok_aload_n dX6_forced_89 rfl rfl ?_
            refine ok_iload dX6_forced_90 rfl ?_
            refine ok_iload dX6_forced_92 rfl ?_
            obtain ⟨v32, M33, r34, h⟩ := h
            refine ok_callV2 dX6_forced_94 kX6_forced_176 r34 (by decide) rp_k155 rfl rfl (Nat.le_of_ble_eq_true rfl) ?_
            rintro _ _ ⟨rfl, rfl⟩
            refine ok_if_eq (tgt := 104) dX6_forced_97 (by decide) (fun c35 => ?_) (fun c35 => ?_)
            · replace h := h.1 c35
              refine ok_iinc2 (w := 1) dX6_forced_104 rfl (by decide) (by decide) rfl ?_
              refine ok_goto (tgt := 50) dX6_forced_107 (by decide) ?_
              exact ok_mask [true, true, true, true, true, true] h
            · replace h := h.2 c35
              refine ok_iload dX6_forced_100 rfl ?_
              refine ok_istore dX6_forced_102 (by decide) rfl ?_
              refine ok_iinc2 (w := 1) dX6_forced_104 rfl (by decide) (by decide) rfl ?_
              refine ok_goto (tgt := 50) dX6_forced_107 (by decide) ?_
              exact ok_mask [true, true, true, true, true, true] h
theorem vX6_nextStep (E : rp_E) (post : Option Int32 → rp_M → Prop) (M : rp_M) (l1 : Int32) (h : rp_G E YX6_nextStep post 5 [.ref 155, .int l1, .int (-6), .int 0] [] M) : rp_Run E YX6_nextStep [.ref 155, .int l1] M post := by
  refine ok_start (by decide) oX6_nextStep (Nat.le_of_ble_eq_true rfl) ?_
  refine ok_bipush (v := (-6)) dX6_nextStep_0 (by decide) ?_
  refine ok_istore_n dX6_nextStep_2 rfl (by decide) rfl ?_
  refine ok_iconst (v := 0) dX6_nextStep_3 (by decide) ?_
  refine ok_istore_n dX6_nextStep_4 rfl (by decide) rfl ?_
  exact ok_mask [true, true, true, true] h
theorem vX6_nextStep_5 (E : rp_E) (post : Option Int32 → rp_M → Prop) (M : rp_M) (l1 : Int32) (l2 : Int32) (l3 : Int32) (h : ∃ v1 M2, rp_C E YX6_sets [.ref 155] M (some v1) M2 ∧ ((v1 ≤ l3 → (post (some l2) M2)) ∧ (¬ v1 ≤ l3 → (vp_in l3 4096 ∧ (((M2 162 (Int32.toNatClampNeg l3)) = 0 → (rp_G E YX6_nextStep post 5 [.ref 155, .int l1, .int l2, .int (l3 + 1)] [] M2)) ∧ (¬ (M2 162 (Int32.toNatClampNeg l3)) = 0 → (((M2 161 (Int32.toNatClampNeg l3)) ≤ l1 → (rp_G E YX6_nextStep post 5 [.ref 155, .int l1, .int l2, .int (l3 + 1)] [] M2)) ∧ (¬ (M2 161 (Int32.toNatClampNeg l3)) ≤ l1 → ((9999 < (M2 160 (Int32.toNatClampNeg l3)) → (rp_G E YX6_nextStep post 5 [.ref 155, .int l1, .int l2, .int (l3 + 1)] [] M2)) ∧ (¬ 9999 < (M2 160 (Int32.toNatClampNeg l3)) → ((l2 < 0 → (rp_G E YX6_nextStep post 5 [.ref 155, .int l1, .int (M2 160 (Int32.toNatClampNeg l3)), .int (l3 + 1)] [] M2)) ∧ (¬ l2 < 0 → ((l2 ≤ (M2 160 (Int32.toNatClampNeg l3)) → (rp_G E YX6_nextStep post 5 [.ref 155, .int l1, .int l2, .int (l3 + 1)] [] M2)) ∧ (¬ l2 ≤ (M2 160 (Int32.toNatClampNeg l3)) → (rp_G E YX6_nextStep post 5 [.ref 155, .int l1, .int (M2 160 (Int32.toNatClampNeg l3)), .int (l3 + 1)] [] M2))))))))))))))) : rp_G E YX6_nextStep post 5 [.ref 155, .int l1, .int l2, .int l3] [] M := by
  refine ok_iload_n dX6_nextStep_5 rfl rfl ?_
  refine ok_aload_n dX6_nextStep_6 rfl rfl ?_
  obtain ⟨v1, M2, r3, h⟩ := h
  refine ok_callV2 dX6_nextStep_7 kX6_nextStep_132 r3 (by decide) rp_k155 rfl rfl (Nat.le_of_ble_eq_true rfl) ?_
  rintro _ _ ⟨rfl, rfl⟩
  refine ok_icmp_ge (tgt := 71) dX6_nextStep_10 (by decide) (fun c4 => ?_) (fun c4 => ?_)
  · replace h := h.1 c4
    refine ok_iload_n dX6_nextStep_71 rfl rfl ?_
    exact ok_ireturn dX6_nextStep_72 rfl h
  · replace h := h.2 c4
    refine ok_aload_n dX6_nextStep_13 rfl rfl ?_
    refine ok_getR (j := 162) dX6_nextStep_14 fX6_nextStep_28 (by decide) rp_k155 rfl (by decide) ?_
    refine ok_iload_n dX6_nextStep_17 rfl rfl ?_
    have b5 := h.1
    replace h := h.2
    refine ok_zaload dX6_nextStep_18 (by decide) rp_k162 b5 rfl ?_
    refine ok_if_eq (tgt := 65) dX6_nextStep_19 (by decide) (fun c6 => ?_) (fun c6 => ?_)
    · replace h := h.1 c6
      refine ok_iinc2 (w := 1) dX6_nextStep_65 rfl (by decide) (by decide) rfl ?_
      refine ok_goto (tgt := 5) dX6_nextStep_68 (by decide) ?_
      exact ok_mask [true, true, true, true] h
    · replace h := h.2 c6
      refine ok_aload_n dX6_nextStep_22 rfl rfl ?_
      refine ok_getR (j := 161) dX6_nextStep_23 fX6_nextStep_25 (by decide) rp_k155 rfl (by decide) ?_
      refine ok_iload_n dX6_nextStep_26 rfl rfl ?_
      refine ok_iaload dX6_nextStep_27 (by decide) rp_k161 b5 rfl ?_
      refine ok_iload_n dX6_nextStep_28 rfl rfl ?_
      refine ok_icmp_le (tgt := 65) dX6_nextStep_29 (by decide) (fun c7 => ?_) (fun c7 => ?_)
      · replace h := h.1 c7
        refine ok_iinc2 (w := 1) dX6_nextStep_65 rfl (by decide) (by decide) rfl ?_
        refine ok_goto (tgt := 5) dX6_nextStep_68 (by decide) ?_
        exact ok_mask [true, true, true, true] h
      · replace h := h.2 c7
        refine ok_aload_n dX6_nextStep_32 rfl rfl ?_
        refine ok_getR (j := 160) dX6_nextStep_33 fX6_nextStep_22 (by decide) rp_k155 rfl (by decide) ?_
        refine ok_iload_n dX6_nextStep_36 rfl rfl ?_
        refine ok_iaload dX6_nextStep_37 (by decide) rp_k160 b5 rfl ?_
        refine ok_sipush (v := 9999) dX6_nextStep_38 (by decide) ?_
        refine ok_icmp_gt (tgt := 65) dX6_nextStep_41 (by decide) (fun c8 => ?_) (fun c8 => ?_)
        · replace h := h.1 c8
          refine ok_iinc2 (w := 1) dX6_nextStep_65 rfl (by decide) (by decide) rfl ?_
          refine ok_goto (tgt := 5) dX6_nextStep_68 (by decide) ?_
          exact ok_mask [true, true, true, true] h
        · replace h := h.2 c8
          refine ok_iload_n dX6_nextStep_44 rfl rfl ?_
          refine ok_if_lt (tgt := 58) dX6_nextStep_45 (by decide) (fun c9 => ?_) (fun c9 => ?_)
          · replace h := h.1 c9
            refine ok_aload_n dX6_nextStep_58 rfl rfl ?_
            refine ok_getR (j := 160) dX6_nextStep_59 fX6_nextStep_22 (by decide) rp_k155 rfl (by decide) ?_
            refine ok_iload_n dX6_nextStep_62 rfl rfl ?_
            refine ok_iaload dX6_nextStep_63 (by decide) rp_k160 b5 rfl ?_
            refine ok_istore_n dX6_nextStep_64 rfl (by decide) rfl ?_
            refine ok_iinc2 (w := 1) dX6_nextStep_65 rfl (by decide) (by decide) rfl ?_
            refine ok_goto (tgt := 5) dX6_nextStep_68 (by decide) ?_
            exact ok_mask [true, true, true, true] h
          · replace h := h.2 c9
            refine ok_aload_n dX6_nextStep_48 rfl rfl ?_
            refine ok_getR (j := 160) dX6_nextStep_49 fX6_nextStep_22 (by decide) rp_k155 rfl (by decide) ?_
            refine ok_iload_n dX6_nextStep_52 rfl rfl ?_
            refine ok_iaload dX6_nextStep_53 (by decide) rp_k160 b5 rfl ?_
            refine ok_iload_n dX6_nextStep_54 rfl rfl ?_
            refine ok_icmp_ge (tgt := 65) dX6_nextStep_55 (by decide) (fun c10 => ?_) (fun c10 => ?_)
            · replace h := h.1 c10
              refine ok_iinc2 (w := 1) dX6_nextStep_65 rfl (by decide) (by decide) rfl ?_
              refine ok_goto (tgt := 5) dX6_nextStep_68 (by decide) ?_
              exact ok_mask [true, true, true, true] h
            · replace h := h.2 c10
              refine ok_aload_n dX6_nextStep_58 rfl rfl ?_
              refine ok_getR (j := 160) dX6_nextStep_59 fX6_nextStep_22 (by decide) rp_k155 rfl (by decide) ?_
              refine ok_iload_n dX6_nextStep_62 rfl rfl ?_
              refine ok_iaload dX6_nextStep_63 (by decide) rp_k160 b5 rfl ?_
              refine ok_istore_n dX6_nextStep_64 rfl (by decide) rfl ?_
              refine ok_iinc2 (w := 1) dX6_nextStep_65 rfl (by decide) (by decide) rfl ?_
              refine ok_goto (tgt := 5) dX6_nextStep_68 (by decide) ?_
              exact ok_mask [true, true, true, true] h
theorem vX6_frontier (E : rp_E) (post : Option Int32 → rp_M → Prop) (M : rp_M) (l1 : Int32) (l2 : Int32) (h : ∃ v1 M2, rp_C E YX6_in [.int l2, .int 0, .int 2] M (some v1) M2 ∧ ((¬ v1 = 0 → (∃ P7 : rp_M → Prop, rp_Run E YX6_layOwnTables [.ref 155] M2 (rp_P0 P7) ∧ (∀ M5, P7 M5 → (rp_G E YX6_frontier post 21 [.ref 155, .int l1, .int l2, .int 0, .int 0] [] M5)))) ∧ (v1 = 0 → (post (some (-2)) M2)))) : rp_Run E YX6_frontier [.ref 155, .int l1, .int l2] M post := by
  refine ok_start (by decide) oX6_frontier (Nat.le_of_ble_eq_true rfl) ?_
  refine ok_iload_n dX6_frontier_0 rfl rfl ?_
  refine ok_iconst (v := 0) dX6_frontier_1 (by decide) ?_
  refine ok_iconst (v := 2) dX6_frontier_2 (by decide) ?_
  obtain ⟨v1, M2, r3, h⟩ := h
  refine ok_callS2 dX6_frontier_3 kX6_frontier_53 r3 rfl rfl (Nat.le_of_ble_eq_true rfl) ?_
  rintro _ _ ⟨rfl, rfl⟩
  refine ok_if_ne (tgt := 12) dX6_frontier_6 (by decide) (fun c4 => ?_) (fun c4 => ?_)
  · replace h := h.1 c4
    refine ok_aload_n dX6_frontier_12 rfl rfl ?_
    obtain ⟨P7, r6, h⟩ := h
    refine ok_callV2 dX6_frontier_13 kX6_frontier_161 r6 (by decide) rp_k155 rfl rfl (Nat.le_of_ble_eq_true rfl) ?_
    rintro _ M5 ⟨rfl, q8⟩
    replace h := h M5 q8
    refine ok_iconst (v := 0) dX6_frontier_16 (by decide) ?_
    refine ok_istore_n dX6_frontier_17 rfl (by decide) rfl ?_
    refine ok_iconst (v := 0) dX6_frontier_18 (by decide) ?_
    refine ok_istore dX6_frontier_19 (by decide) rfl ?_
    exact ok_mask [true, true, true, true, true] h
  · replace h := h.2 c4
    refine ok_bipush (v := (-2)) dX6_frontier_9 (by decide) ?_
    exact ok_ireturn dX6_frontier_11 rfl h
theorem vX6_frontier_21 (E : rp_E) (post : Option Int32 → rp_M → Prop) (M : rp_M) (l1 : Int32) (l2 : Int32) (l3 : Int32) (l4 : Int32) (h : (l4 < 0 → ((0 ≤ l4 → ((¬ l2 = 0 → ((¬ l2 = 1 → (∃ v13 M14, rp_C E YX6_bestBy [.ref 155, .int l4] M (some v13) M14 ∧ (post (some v13) M14))) ∧ (l2 = 1 → (∃ v16 M17, rp_C E YX6_bestBy [.ref 155, .int l4] M (some v16) M17 ∧ (vp_in v16 4096 ∧ (post (some ((M17 161 (Int32.toNatClampNeg v16)) + 100000)) M17)))))) ∧ (l2 = 0 → (post (some l4) M)))) ∧ (¬ 0 ≤ l4 → ((¬ l1 = (-1) → (post (some (-6)) M)) ∧ (l1 = (-1) → (post (some l3) M)))))) ∧ (¬ l4 < 0 → ((l3 = l1 → ((0 ≤ l4 → ((¬ l2 = 0 → ((¬ l2 = 1 → (∃ v25 M26, rp_C E YX6_bestBy [.ref 155, .int l4] M (some v25) M26 ∧ (post (some v25) M26))) ∧ (l2 = 1 → (∃ v28 M29, rp_C E YX6_bestBy [.ref 155, .int l4] M (some v28) M29 ∧ (vp_in v28 4096 ∧ (post (some ((M29 161 (Int32.toNatClampNeg v28)) + 100000)) M29)))))) ∧ (l2 = 0 → (post (some l4) M)))) ∧ (¬ 0 ≤ l4 → ((¬ l1 = (-1) → (post (some (-6)) M)) ∧ (l1 = (-1) → (post (some l3) M)))))) ∧ (¬ l3 = l1 → (∃ v33 M34, rp_C E YX6_bestBy [.ref 155, .int l4] M (some v33) M34 ∧ (vp_in v33 4096 ∧ (∃ v37 M38, rp_C E YX6_nextStep [.ref 155, .int (M34 161 (Int32.toNatClampNeg v33))] M34 (some v37) M38 ∧ (rp_G E YX6_frontier post 21 [.ref 155, .int l1, .int l2, .int (l3 + 1), .int v37] [] M38)))))))) : rp_G E YX6_frontier post 21 [.ref 155, .int l1, .int l2, .int l3, .int l4] [] M := by
  refine ok_iload dX6_frontier_21 rfl ?_
  refine ok_if_lt (tgt := 54) dX6_frontier_23 (by decide) (fun c9 => ?_) (fun c9 => ?_)
  · replace h := h.1 c9
    refine ok_iload dX6_frontier_54 rfl ?_
    refine ok_if_ge (tgt := 71) dX6_frontier_56 (by decide) (fun c10 => ?_) (fun c10 => ?_)
    · replace h := h.1 c10
      refine ok_iload_n dX6_frontier_71 rfl rfl ?_
      refine ok_if_ne (tgt := 80) dX6_frontier_72 (by decide) (fun c11 => ?_) (fun c11 => ?_)
      · replace h := h.1 c11
        refine ok_iload_n dX6_frontier_80 rfl rfl ?_
        refine ok_iconst (v := 1) dX6_frontier_81 (by decide) ?_
        refine ok_icmp_ne (tgt := 102) dX6_frontier_82 (by decide) (fun c12 => ?_) (fun c12 => ?_)
        · replace h := h.1 c12
          refine ok_aload_n dX6_frontier_102 rfl rfl ?_
          refine ok_iload dX6_frontier_103 rfl ?_
          obtain ⟨v13, M14, r15, h⟩ := h
          refine ok_callV2 dX6_frontier_105 kX6_frontier_158 r15 (by decide) rp_k155 rfl rfl (Nat.le_of_ble_eq_true rfl) ?_
          rintro _ _ ⟨rfl, rfl⟩
          exact ok_ireturn dX6_frontier_108 rfl h
        · replace h := h.2 c12
          refine ok_aload_n dX6_frontier_85 rfl rfl ?_
          refine ok_getR (j := 161) dX6_frontier_86 fX6_frontier_25 (by decide) rp_k155 rfl (by decide) ?_
          refine ok_aload_n dX6_frontier_89 rfl rfl ?_
          refine ok_iload dX6_frontier_90 rfl ?_
          obtain ⟨v16, M17, r18, h⟩ := h
          refine ok_callV2 dX6_frontier_92 kX6_frontier_158 r18 (by decide) rp_k155 rfl rfl (Nat.le_of_ble_eq_true rfl) ?_
          rintro _ _ ⟨rfl, rfl⟩
          have b19 := h.1
          replace h := h.2
          refine ok_iaload dX6_frontier_95 (by decide) rp_k161 b19 rfl ?_
          refine ok_ldc fX6_frontier_151 dX6_frontier_96 ?_
          refine ok_iadd dX6_frontier_98 ?_
          refine ok_goto (tgt := 108) dX6_frontier_99 (by decide) ?_
          exact ok_ireturn dX6_frontier_108 rfl h
      · replace h := h.2 c11
        refine ok_iload dX6_frontier_75 rfl ?_
        refine ok_goto (tgt := 108) dX6_frontier_77 (by decide) ?_
        exact ok_ireturn dX6_frontier_108 rfl h
    · replace h := h.2 c10
      refine ok_iload_n dX6_frontier_59 rfl rfl ?_
      refine ok_iconst (v := (-1)) dX6_frontier_60 (by decide) ?_
      refine ok_icmp_ne (tgt := 68) dX6_frontier_61 (by decide) (fun c20 => ?_) (fun c20 => ?_)
      · replace h := h.1 c20
        refine ok_bipush (v := (-6)) dX6_frontier_68 (by decide) ?_
        exact ok_ireturn dX6_frontier_70 rfl h
      · replace h := h.2 c20
        refine ok_iload_n dX6_frontier_64 rfl rfl ?_
        refine ok_goto (tgt := 70) dX6_frontier_65 (by decide) ?_
        exact ok_ireturn dX6_frontier_70 rfl h
  · replace h := h.2 c9
    refine ok_iload_n dX6_frontier_26 rfl rfl ?_
    refine ok_iload_n dX6_frontier_27 rfl rfl ?_
    refine ok_icmp_eq (tgt := 54) dX6_frontier_28 (by decide) (fun c21 => ?_) (fun c21 => ?_)
    · replace h := h.1 c21
      refine ok_iload dX6_frontier_54 rfl ?_
      refine ok_if_ge (tgt := 71) dX6_frontier_56 (by decide) (fun c22 => ?_) (fun c22 => ?_)
      · replace h := h.1 c22
        refine ok_iload_n dX6_frontier_71 rfl rfl ?_
        refine ok_if_ne (tgt := 80) dX6_frontier_72 (by decide) (fun c23 => ?_) (fun c23 => ?_)
        · replace h := h.1 c23
          refine ok_iload_n dX6_frontier_80 rfl rfl ?_
          refine ok_iconst (v := 1) dX6_frontier_81 (by decide) ?_
          refine ok_icmp_ne (tgt := 102) dX6_frontier_82 (by decide) (fun c24 => ?_) (fun c24 => ?_)
          · replace h := h.1 c24
            refine ok_aload_n dX6_frontier_102 rfl rfl ?_
            refine ok_iload dX6_frontier_103 rfl ?_
            obtain ⟨v25, M26, r27, h⟩ := h
            refine ok_callV2 dX6_frontier_105 kX6_frontier_158 r27 (by decide) rp_k155 rfl rfl (Nat.le_of_ble_eq_true rfl) ?_
            rintro _ _ ⟨rfl, rfl⟩
            exact ok_ireturn dX6_frontier_108 rfl h
          · replace h := h.2 c24
            refine ok_aload_n dX6_frontier_85 rfl rfl ?_
            refine ok_getR (j := 161) dX6_frontier_86 fX6_frontier_25 (by decide) rp_k155 rfl (by decide) ?_
            refine ok_aload_n dX6_frontier_89 rfl rfl ?_
            refine ok_iload dX6_frontier_90 rfl ?_
            obtain ⟨v28, M29, r30, h⟩ := h
            refine ok_callV2 dX6_frontier_92 kX6_frontier_158 r30 (by decide) rp_k155 rfl rfl (Nat.le_of_ble_eq_true rfl) ?_
            rintro _ _ ⟨rfl, rfl⟩
            have b31 := h.1
            replace h := h.2
            refine ok_iaload dX6_frontier_95 (by decide) rp_k161 b31 rfl ?_
            refine ok_ldc fX6_frontier_151 dX6_frontier_96 ?_
            refine ok_iadd dX6_frontier_98 ?_
            refine ok_goto (tgt := 108) dX6_frontier_99 (by decide) ?_
            exact ok_ireturn dX6_frontier_108 rfl h
        · replace h := h.2 c23
          refine ok_iload dX6_frontier_75 rfl ?_
          refine ok_goto (tgt := 108) dX6_frontier_77 (by decide) ?_
          exact ok_ireturn dX6_frontier_108 rfl h
      · replace h := h.2 c22
        refine ok_iload_n dX6_frontier_59 rfl rfl ?_
        refine ok_iconst (v := (-1)) dX6_frontier_60 (by decide) ?_
        refine ok_icmp_ne (tgt := 68) dX6_frontier_61 (by decide) (fun c32 => ?_) (fun c32 => ?_)
        · replace h := h.1 c32
          refine ok_bipush (v := (-6)) dX6_frontier_68 (by decide) ?_
          exact ok_ireturn dX6_frontier_70 rfl h
        · replace h := h.2 c32
          refine ok_iload_n dX6_frontier_64 rfl rfl ?_
          refine ok_goto (tgt := 70) dX6_frontier_65 (by decide) ?_
          exact ok_ireturn dX6_frontier_70 rfl h
    · replace h := h.2 c21
      refine ok_aload_n dX6_frontier_31 rfl rfl ?_
      refine ok_aload_n dX6_frontier_32 rfl rfl ?_
      refine ok_getR (j := 161) dX6_frontier_33 fX6_frontier_25 (by decide) rp_k155 rfl (by decide) ?_
      refine ok_aload_n dX6_frontier_36 rfl rfl ?_
      refine ok_iload dX6_frontier_37 rfl ?_
      obtain ⟨v33, M34, r35, h⟩ := h
      refine ok_callV2 dX6_frontier_39 kX6_frontier_158 r35 (by decide) rp_k155 rfl rfl (Nat.le_of_ble_eq_true rfl) ?_
      rintro _ _ ⟨rfl, rfl⟩
      have b36 := h.1
      replace h := h.2
      refine ok_iaload dX6_frontier_42 (by decide) rp_k161 b36 rfl ?_
      obtain ⟨v37, M38, r39, h⟩ := h
      refine ok_callV2 dX6_frontier_43 kX6_frontier_179 r39 (by decide) rp_k155 rfl rfl (Nat.le_of_ble_eq_true rfl) ?_
      rintro _ _ ⟨rfl, rfl⟩
      refine ok_istore dX6_frontier_46 (by decide) rfl ?_
      refine ok_iinc2 (w := 1) dX6_frontier_48 rfl (by decide) (by decide) rfl ?_
      refine ok_goto (tgt := 21) dX6_frontier_51 (by decide) ?_
      exact ok_mask [true, true, true, true, true] h
theorem vX6_firstNear (E : rp_E) (post : Option Int32 → rp_M → Prop) (M : rp_M) (l1 : Int32) (h : rp_G E YX6_firstNear post 4 [.ref 155, .int l1, .int l1, .int 0, .null, .null, .null] [] M) : rp_Run E YX6_firstNear [.ref 155, .int l1] M post := by
  refine ok_start (by decide) oX6_firstNear (Nat.le_of_ble_eq_true rfl) ?_
  refine ok_iload_n dX6_firstNear_0 rfl rfl ?_
  refine ok_istore_n dX6_firstNear_1 rfl (by decide) rfl ?_
  refine ok_iconst (v := 0) dX6_firstNear_2 (by decide) ?_
  refine ok_istore_n dX6_firstNear_3 rfl (by decide) rfl ?_
  exact ok_mask [true, true, true, true, false, false, false] h
theorem vX6_firstNear_4 (E : rp_E) (post : Option Int32 → rp_M → Prop) (M : rp_M) (l1 : Int32) (l2 : Int32) (l3 : Int32) (h : ((M 156 0) ≤ l3 → (post (some l2) M)) ∧ (¬ (M 156 0) ≤ l3 → (rp_G E YX6_firstNear post 17 [.ref 155, .int l1, .int l2, .int l3, .int l3, .null, .null] [] M))) : rp_G E YX6_firstNear post 4 [.ref 155, .int l1, .int l2, .int l3, .null, .null, .null] [] M := by
  refine ok_iload_n dX6_firstNear_4 rfl rfl ?_
  refine ok_aload_n dX6_firstNear_5 rfl rfl ?_
  refine ok_getR (j := 156) dX6_firstNear_6 fX6_firstNear_7 (by decide) rp_k155 rfl (by decide) ?_
  refine ok_iconst (v := 0) dX6_firstNear_9 (by decide) ?_
  refine ok_iaload (j := 0) dX6_firstNear_10 (by decide) rp_k156 (rp_vi (by decide)) (by decide) ?_
  refine ok_icmp_ge (tgt := 120) dX6_firstNear_11 (by decide) (fun c1 => ?_) (fun c1 => ?_)
  · replace h := h.1 c1
    refine ok_iload_n dX6_firstNear_120 rfl rfl ?_
    exact ok_ireturn dX6_firstNear_121 rfl h
  · replace h := h.2 c1
    refine ok_iload_n dX6_firstNear_14 rfl rfl ?_
    refine ok_istore dX6_firstNear_15 (by decide) rfl ?_
    exact ok_mask [true, true, true, true, true, false, false] h
theorem vX6_firstNear_17 (E : rp_E) (post : Option Int32 → rp_M → Prop) (M : rp_M) (l1 : Int32) (l2 : Int32) (l3 : Int32) (l4 : Int32) (h : ((M 156 0) ≤ l4 → (rp_G E YX6_firstNear post 4 [.ref 155, .int l1, .int l2, .int (l3 + 1), .null, .null, .null] [] M)) ∧ (¬ (M 156 0) ≤ l4 → ((¬ l4 = l3 → (rp_G E YX6_firstNear post 50 [.ref 155, .int l1, .int l2, .int l3, .int l4, .int ((l1 ^^^ ((1 : Int32) <<< (l3 &&& 31) : Int32)) ^^^ ((1 : Int32) <<< (l4 &&& 31) : Int32)), .null] [] M)) ∧ (l4 = l3 → (rp_G E YX6_firstNear post 50 [.ref 155, .int l1, .int l2, .int l3, .int l4, .int ((l1 ^^^ ((1 : Int32) <<< (l3 &&& 31) : Int32)) ^^^ 0), .null] [] M))))) : rp_G E YX6_firstNear post 17 [.ref 155, .int l1, .int l2, .int l3, .int l4, .null, .null] [] M := by
  refine ok_iload dX6_firstNear_17 rfl ?_
  refine ok_aload_n dX6_firstNear_19 rfl rfl ?_
  refine ok_getR (j := 156) dX6_firstNear_20 fX6_firstNear_7 (by decide) rp_k155 rfl (by decide) ?_
  refine ok_iconst (v := 0) dX6_firstNear_23 (by decide) ?_
  refine ok_iaload (j := 0) dX6_firstNear_24 (by decide) rp_k156 (rp_vi (by decide)) (by decide) ?_
  refine ok_icmp_ge (tgt := 114) dX6_firstNear_25 (by decide) (fun c2 => ?_) (fun c2 => ?_)
  · replace h := h.1 c2
    refine ok_iinc2 (w := 1) dX6_firstNear_114 rfl (by decide) (by decide) rfl ?_
    refine ok_goto (tgt := 4) dX6_firstNear_117 (by decide) ?_
    exact ok_mask [true, true, true, true, false, false, false] h
  · replace h := h.2 c2
    refine ok_iload_n dX6_firstNear_28 rfl rfl ?_
    refine ok_iconst (v := 1) dX6_firstNear_29 (by decide) ?_
    refine ok_iload_n dX6_firstNear_30 rfl rfl ?_
    refine ok_ishl dX6_firstNear_31 ?_
    refine ok_ixor dX6_firstNear_32 ?_
    refine ok_iload dX6_firstNear_33 rfl ?_
    refine ok_iload_n dX6_firstNear_35 rfl rfl ?_
    refine ok_icmp_ne (tgt := 43) dX6_firstNear_36 (by decide) (fun c3 => ?_) (fun c3 => ?_)
    · replace h := h.1 c3
      refine ok_iconst (v := 1) dX6_firstNear_43 (by decide) ?_
      refine ok_iload dX6_firstNear_44 rfl ?_
      refine ok_ishl dX6_firstNear_46 ?_
      refine ok_ixor dX6_firstNear_47 ?_
      refine ok_istore dX6_firstNear_48 (by decide) rfl ?_
      exact ok_mask [true, true, true, true, true, true, false] h
    · replace h := h.2 c3
      refine ok_iconst (v := 0) dX6_firstNear_39 (by decide) ?_
      refine ok_goto (tgt := 47) dX6_firstNear_40 (by decide) ?_
      refine ok_ixor dX6_firstNear_47 ?_
      refine ok_istore dX6_firstNear_48 (by decide) rfl ?_
      exact ok_mask [true, true, true, true, true, true, false] h
theorem vX6_firstNear_50 (E : rp_E) (post : Option Int32 → rp_M → Prop) (M : rp_M) (l1 : Int32) (l2 : Int32) (l3 : Int32) (l4 : Int32) (l5 : Int32) (h : (l4 = l3 → (rp_G E YX6_firstNear post 77 [.ref 155, .int l1, .int l2, .int l3, .int l4, .int l5, .int 1] [] M)) ∧ (¬ l4 = l3 → (∃ v5 M6, rp_C E YX6_has [.int l1, .int l3] M (some v5) M6 ∧ (∃ v8 M9, rp_C E YX6_has [.int l1, .int l4] M6 (some v8) M9 ∧ ((v5 = v8 → (rp_G E YX6_firstNear post 77 [.ref 155, .int l1, .int l2, .int l3, .int l4, .int l5, .int 0] [] M9)) ∧ (¬ v5 = v8 → (rp_G E YX6_firstNear post 77 [.ref 155, .int l1, .int l2, .int l3, .int l4, .int l5, .int 1] [] M9))))))) : rp_G E YX6_firstNear post 50 [.ref 155, .int l1, .int l2, .int l3, .int l4, .int l5, .null] [] M := by
  refine ok_iload dX6_firstNear_50 rfl ?_
  refine ok_iload_n dX6_firstNear_52 rfl rfl ?_
  refine ok_icmp_eq (tgt := 70) dX6_firstNear_53 (by decide) (fun c4 => ?_) (fun c4 => ?_)
  · replace h := h.1 c4
    refine ok_iconst (v := 1) dX6_firstNear_70 (by decide) ?_
    refine ok_goto (tgt := 75) dX6_firstNear_71 (by decide) ?_
    refine ok_istore dX6_firstNear_75 (by decide) rfl ?_
    exact ok_mask [true, true, true, true, true, true, true] h
  · replace h := h.2 c4
    refine ok_iload_n dX6_firstNear_56 rfl rfl ?_
    refine ok_iload_n dX6_firstNear_57 rfl rfl ?_
    obtain ⟨v5, M6, r7, h⟩ := h
    refine ok_callS2 dX6_firstNear_58 kX6_firstNear_83 r7 rfl rfl (Nat.le_of_ble_eq_true rfl) ?_
    rintro _ _ ⟨rfl, rfl⟩
    refine ok_iload_n dX6_firstNear_61 rfl rfl ?_
    refine ok_iload dX6_firstNear_62 rfl ?_
    obtain ⟨v8, M9, r10, h⟩ := h
    refine ok_callS2 dX6_firstNear_64 kX6_firstNear_83 r10 rfl rfl (Nat.le_of_ble_eq_true rfl) ?_
    rintro _ _ ⟨rfl, rfl⟩
    refine ok_icmp_eq (tgt := 74) dX6_firstNear_67 (by decide) (fun c11 => ?_) (fun c11 => ?_)
    · replace h := h.1 c11
      refine ok_iconst (v := 0) dX6_firstNear_74 (by decide) ?_
      refine ok_istore dX6_firstNear_75 (by decide) rfl ?_
      exact ok_mask [true, true, true, true, true, true, true] h
    · replace h := h.2 c11
      refine ok_iconst (v := 1) dX6_firstNear_70 (by decide) ?_
      refine ok_goto (tgt := 75) dX6_firstNear_71 (by decide) ?_
      refine ok_istore dX6_firstNear_75 (by decide) rfl ?_
      exact ok_mask [true, true, true, true, true, true, true] h
theorem vX6_firstNear_77 (E : rp_E) (post : Option Int32 → rp_M → Prop) (M : rp_M) (l1 : Int32) (l2 : Int32) (l3 : Int32) (l4 : Int32) (l5 : Int32) (l6 : Int32) (h : (l6 = 0 → (rp_G E YX6_firstNear post 17 [.ref 155, .int l1, .int l2, .int l3, .int (l4 + 1), .null, .null] [] M)) ∧ (¬ l6 = 0 → (∃ v13 M14, rp_C E YX6_isGood [.ref 155, .int l5] M (some v13) M14 ∧ ((v13 = 0 → (rp_G E YX6_firstNear post 17 [.ref 155, .int l1, .int l2, .int l3, .int (l4 + 1), .null, .null] [] M14)) ∧ (¬ v13 = 0 → (∃ v17 M18, rp_C E YX6_comesAhead [.ref 155, .int l5, .int l2] M14 (some v17) M18 ∧ ((v17 = 0 → (rp_G E YX6_firstNear post 17 [.ref 155, .int l1, .int l2, .int l3, .int (l4 + 1), .null, .null] [] M18)) ∧ (¬ v17 = 0 → (rp_G E YX6_firstNear post 17 [.ref 155, .int l1, .int l5, .int l3, .int (l4 + 1), .null, .null] [] M18))))))))) : rp_G E YX6_firstNear post 77 [.ref 155, .int l1, .int l2, .int l3, .int l4, .int l5, .int l6] [] M := by
  refine ok_iload dX6_firstNear_77 rfl ?_
  refine ok_if_eq (tgt := 106) dX6_firstNear_79 (by decide) (fun c12 => ?_) (fun c12 => ?_)
  · replace h := h.1 c12
    refine ok_iload_n dX6_firstNear_106 rfl rfl ?_
    refine ok_istore_n dX6_firstNear_107 rfl (by decide) rfl ?_
    refine ok_iinc2 (w := 1) dX6_firstNear_108 rfl (by decide) (by decide) rfl ?_
    refine ok_goto (tgt := 17) dX6_firstNear_111 (by decide) ?_
    exact ok_mask [true, true, true, true, true, false, false] h
  · replace h := h.2 c12
    refine ok_aload_n dX6_firstNear_82 rfl rfl ?_
    refine ok_iload dX6_firstNear_83 rfl ?_
    obtain ⟨v13, M14, r15, h⟩ := h
    refine ok_callV2 dX6_firstNear_85 kX6_firstNear_173 r15 (by decide) rp_k155 rfl rfl (Nat.le_of_ble_eq_true rfl) ?_
    rintro _ _ ⟨rfl, rfl⟩
    refine ok_if_eq (tgt := 106) dX6_firstNear_88 (by decide) (fun c16 => ?_) (fun c16 => ?_)
    · replace h := h.1 c16
      refine ok_iload_n dX6_firstNear_106 rfl rfl ?_
      refine ok_istore_n dX6_firstNear_107 rfl (by decide) rfl ?_
      refine ok_iinc2 (w := 1) dX6_firstNear_108 rfl (by decide) (by decide) rfl ?_
      refine ok_goto (tgt := 17) dX6_firstNear_111 (by decide) ?_
      exact ok_mask [true, true, true, true, true, false, false] h
    · replace h := h.2 c16
      refine ok_aload_n dX6_firstNear_91 rfl rfl ?_
      refine ok_iload dX6_firstNear_92 rfl ?_
      refine ok_iload_n dX6_firstNear_94 rfl rfl ?_
      obtain ⟨v17, M18, r19, h⟩ := h
      refine ok_callV2 dX6_firstNear_95 kX6_firstNear_176 r19 (by decide) rp_k155 rfl rfl (Nat.le_of_ble_eq_true rfl) ?_
      rintro _ _ ⟨rfl, rfl⟩
      refine ok_if_eq (tgt := 106) dX6_firstNear_98 (by decide) (fun c20 => ?_) (fun c20 => ?_)
      · replace h := h.1 c20
        refine ok_iload_n dX6_firstNear_106 rfl rfl ?_
        refine ok_istore_n dX6_firstNear_107 rfl (by decide) rfl ?_
        refine ok_iinc2 (w := 1) dX6_firstNear_108 rfl (by decide) (by decide) rfl ?_
        refine ok_goto (tgt := 17) dX6_firstNear_111 (by decide) ?_
        exact ok_mask [true, true, true, true, true, false, false] h
      · replace h := h.2 c20
        refine ok_iload dX6_firstNear_101 rfl ?_
        refine ok_goto (tgt := 107) dX6_firstNear_103 (by decide) ?_
        refine ok_istore_n dX6_firstNear_107 rfl (by decide) rfl ?_
        refine ok_iinc2 (w := 1) dX6_firstNear_108 rfl (by decide) (by decide) rfl ?_
        refine ok_goto (tgt := 17) dX6_firstNear_111 (by decide) ?_
        exact ok_mask [true, true, true, true, true, false, false] h
theorem vX6_improve (E : rp_E) (post : Option Int32 → rp_M → Prop) (M : rp_M) (l1 : Int32) (l2 : Int32) (h : ∃ v1 M2, rp_C E YX6_isChoice [.ref 155, .int l1] M (some v1) M2 ∧ ((¬ v1 = 0 → (∃ v5 M6, rp_C E YX6_in [.int l2, .int 0, .int 1] M2 (some v5) M6 ∧ ((¬ v5 = 0 → (∃ P11 : rp_M → Prop, rp_Run E YX6_layOwnTables [.ref 155] M6 (rp_P0 P11) ∧ (∀ M9, P11 M9 → (∃ v13 M14, rp_C E YX6_isGood [.ref 155, .int l1] M9 (some v13) M14 ∧ ((¬ v13 = 0 → (∃ v17 M18, rp_C E YX6_firstNear [.ref 155, .int l1] M14 (some v17) M18 ∧ (rp_G E YX6_improve post 50 [.ref 155, .null, .int l2, .int 0, .int l1, .int v17] [] M18))) ∧ (v13 = 0 → (post (some (-5)) M14))))))) ∧ (v5 = 0 → (post (some (-2)) M6))))) ∧ (v1 = 0 → (post (some (-1)) M2)))) : rp_Run E YX6_improve [.ref 155, .int l1, .int l2] M post := by
  refine ok_start (by decide) oX6_improve (Nat.le_of_ble_eq_true rfl) ?_
  refine ok_aload_n dX6_improve_0 rfl rfl ?_
  refine ok_iload_n dX6_improve_1 rfl rfl ?_
  obtain ⟨v1, M2, r3, h⟩ := h
  refine ok_callV2 dX6_improve_2 kX6_improve_148 r3 (by decide) rp_k155 rfl rfl (Nat.le_of_ble_eq_true rfl) ?_
  rintro _ _ ⟨rfl, rfl⟩
  refine ok_if_ne (tgt := 10) dX6_improve_5 (by decide) (fun c4 => ?_) (fun c4 => ?_)
  · replace h := h.1 c4
    refine ok_iload_n dX6_improve_10 rfl rfl ?_
    refine ok_iconst (v := 0) dX6_improve_11 (by decide) ?_
    refine ok_iconst (v := 1) dX6_improve_12 (by decide) ?_
    obtain ⟨v5, M6, r7, h⟩ := h
    refine ok_callS2 dX6_improve_13 kX6_improve_53 r7 rfl rfl (Nat.le_of_ble_eq_true rfl) ?_
    rintro _ _ ⟨rfl, rfl⟩
    refine ok_if_ne (tgt := 22) dX6_improve_16 (by decide) (fun c8 => ?_) (fun c8 => ?_)
    · replace h := h.1 c8
      refine ok_aload_n dX6_improve_22 rfl rfl ?_
      obtain ⟨P11, r10, h⟩ := h
      refine ok_callV2 dX6_improve_23 kX6_improve_161 r10 (by decide) rp_k155 rfl rfl (Nat.le_of_ble_eq_true rfl) ?_
      rintro _ M9 ⟨rfl, q12⟩
      replace h := h M9 q12
      refine ok_aload_n dX6_improve_26 rfl rfl ?_
      refine ok_iload_n dX6_improve_27 rfl rfl ?_
      obtain ⟨v13, M14, r15, h⟩ := h
      refine ok_callV2 dX6_improve_28 kX6_improve_173 r15 (by decide) rp_k155 rfl rfl (Nat.le_of_ble_eq_true rfl) ?_
      rintro _ _ ⟨rfl, rfl⟩
      refine ok_if_ne (tgt := 37) dX6_improve_31 (by decide) (fun c16 => ?_) (fun c16 => ?_)
      · replace h := h.1 c16
        refine ok_iconst (v := 0) dX6_improve_37 (by decide) ?_
        refine ok_istore_n dX6_improve_38 rfl (by decide) rfl ?_
        refine ok_iload_n dX6_improve_39 rfl rfl ?_
        refine ok_istore dX6_improve_40 (by decide) rfl ?_
        refine ok_aload_n dX6_improve_42 rfl rfl ?_
        refine ok_iload dX6_improve_43 rfl ?_
        obtain ⟨v17, M18, r19, h⟩ := h
        refine ok_callV2 dX6_improve_45 kX6_improve_182 r19 (by decide) rp_k155 rfl rfl (Nat.le_of_ble_eq_true rfl) ?_
        rintro _ _ ⟨rfl, rfl⟩
        refine ok_istore dX6_improve_48 (by decide) rfl ?_
        exact ok_mask [true, false, true, true, true, true] h
      · replace h := h.2 c16
        refine ok_bipush (v := (-5)) dX6_improve_34 (by decide) ?_
        exact ok_ireturn dX6_improve_36 rfl h
    · replace h := h.2 c8
      refine ok_bipush (v := (-2)) dX6_improve_19 (by decide) ?_
      exact ok_ireturn dX6_improve_21 rfl h
  · replace h := h.2 c4
    refine ok_iconst (v := (-1)) dX6_improve_8 (by decide) ?_
    exact ok_ireturn dX6_improve_9 rfl h
theorem vX6_improve_50 (E : rp_E) (post : Option Int32 → rp_M → Prop) (M : rp_M) (l2 : Int32) (l3 : Int32) (l4 : Int32) (l5 : Int32) (h : (l5 = l4 → ((¬ l2 = 0 → (post (some l3) M)) ∧ (l2 = 0 → (post (some l4) M)))) ∧ (¬ l5 = l4 → (∃ v22 M23, rp_C E YX6_firstNear [.ref 155, .int l5] M (some v22) M23 ∧ (rp_G E YX6_improve post 50 [.ref 155, .null, .int l2, .int (l3 + 1), .int l5, .int v22] [] M23)))) : rp_G E YX6_improve post 50 [.ref 155, .null, .int l2, .int l3, .int l4, .int l5] [] M := by
  refine ok_iload dX6_improve_50 rfl ?_
  refine ok_iload dX6_improve_52 rfl ?_
  refine ok_icmp_eq (tgt := 75) dX6_improve_54 (by decide) (fun c20 => ?_) (fun c20 => ?_)
  · replace h := h.1 c20
    refine ok_iload_n dX6_improve_75 rfl rfl ?_
    refine ok_if_ne (tgt := 84) dX6_improve_76 (by decide) (fun c21 => ?_) (fun c21 => ?_)
    · replace h := h.1 c21
      refine ok_iload_n dX6_improve_84 rfl rfl ?_
      exact ok_ireturn dX6_improve_85 rfl h
    · replace h := h.2 c21
      refine ok_iload dX6_improve_79 rfl ?_
      refine ok_goto (tgt := 85) dX6_improve_81 (by decide) ?_
      exact ok_ireturn dX6_improve_85 rfl h
  · replace h := h.2 c20
    refine ok_iload dX6_improve_57 rfl ?_
    refine ok_istore dX6_improve_59 (by decide) rfl ?_
    refine ok_iinc2 (w := 1) dX6_improve_61 rfl (by decide) (by decide) rfl ?_
    refine ok_aload_n dX6_improve_64 rfl rfl ?_
    refine ok_iload dX6_improve_65 rfl ?_
    obtain ⟨v22, M23, r24, h⟩ := h
    refine ok_callV2 dX6_improve_67 kX6_improve_182 r24 (by decide) rp_k155 rfl rfl (Nat.le_of_ble_eq_true rfl) ?_
    rintro _ _ ⟨rfl, rfl⟩
    refine ok_istore dX6_improve_70 (by decide) rfl ?_
    refine ok_goto (tgt := 50) dX6_improve_72 (by decide) ?_
    exact ok_mask [true, false, true, true, true, true] h
theorem vX6_layList (E : rp_E) (post : Option Int32 → rp_M → Prop) (M : rp_M) (l1 : Int32) (h : rp_G E YX6_layList post 6 [.ref 155, .null, .int ((1 : Int32) <<< (l1 &&& 31) : Int32), .int 0, .null, .null, .null] [] M) : rp_Run E YX6_layList [.ref 155, .int l1] M post := by
  refine ok_start (by decide) oX6_layList (Nat.le_of_ble_eq_true rfl) ?_
  refine ok_iconst (v := 1) dX6_layList_0 (by decide) ?_
  refine ok_iload_n dX6_layList_1 rfl rfl ?_
  refine ok_ishl dX6_layList_2 ?_
  refine ok_istore_n dX6_layList_3 rfl (by decide) rfl ?_
  refine ok_iconst (v := 0) dX6_layList_4 (by decide) ?_
  refine ok_istore_n dX6_layList_5 rfl (by decide) rfl ?_
  exact ok_mask [true, false, true, true, false, false, false] h
theorem vX6_layList_6 (E : rp_E) (post : Option Int32 → rp_M → Prop) (M : rp_M) (l2 : Int32) (l3 : Int32) (h : (l2 ≤ l3 → (∀ M2, M2 = rp_s M 155 14 0 → (rp_G E YX6_layList post 56 [.ref 155, .null, .int l2, .int (-1), .int 0, .null, .null] [] M2))) ∧ (¬ l2 ≤ l3 → (∃ v3 M4, rp_C E YX6_sum [.ref 155, .int l3, .int 0] M (some v3) M4 ∧ (vp_in l3 4096 ∧ (∀ M7, M7 = rp_s M4 163 (Int32.toNatClampNeg l3) v3 → (∃ v8 M9, rp_C E YX6_protectedWeight [.ref 155, .int l3, .int (M7 156 2)] M7 (some v8) M9 ∧ (∀ M11, M11 = rp_s M9 160 (Int32.toNatClampNeg l3) v8 → (rp_G E YX6_layList post 6 [.ref 155, .null, .int l2, .int (l3 + 1), .null, .null, .null] [] M11)))))))) : rp_G E YX6_layList post 6 [.ref 155, .null, .int l2, .int l3, .null, .null, .null] [] M := by
  refine ok_iload_n dX6_layList_6 rfl rfl ?_
  refine ok_iload_n dX6_layList_7 rfl rfl ?_
  refine ok_icmp_ge (tgt := 46) dX6_layList_8 (by decide) (fun c1 => ?_) (fun c1 => ?_)
  · replace h := h.1 c1
    refine ok_aload_n dX6_layList_46 rfl rfl ?_
    refine ok_iconst (v := 0) dX6_layList_47 (by decide) ?_
    refine ok_put dX6_layList_48 pX6_layList_185 (by decide) rp_k155 rfl rfl rfl ?_
    replace h := h _ rfl
    refine ok_iconst (v := (-1)) dX6_layList_51 (by decide) ?_
    refine ok_istore_n dX6_layList_52 rfl (by decide) rfl ?_
    refine ok_iconst (v := 0) dX6_layList_53 (by decide) ?_
    refine ok_istore dX6_layList_54 (by decide) rfl ?_
    exact ok_mask [true, false, true, true, true, false, false] h
  · replace h := h.2 c1
    refine ok_aload_n dX6_layList_11 rfl rfl ?_
    refine ok_getR (j := 163) dX6_layList_12 fX6_layList_32 (by decide) rp_k155 rfl (by decide) ?_
    refine ok_iload_n dX6_layList_15 rfl rfl ?_
    refine ok_aload_n dX6_layList_16 rfl rfl ?_
    refine ok_iload_n dX6_layList_17 rfl rfl ?_
    refine ok_iconst (v := 0) dX6_layList_18 (by decide) ?_
    obtain ⟨v3, M4, r5, h⟩ := h
    refine ok_callV2 dX6_layList_19 kX6_layList_125 r5 (by decide) rp_k155 rfl rfl (Nat.le_of_ble_eq_true rfl) ?_
    rintro _ _ ⟨rfl, rfl⟩
    have b6 := h.1
    replace h := h.2
    refine ok_iastore dX6_layList_22 (by decide) rp_k163 b6 rfl ?_
    replace h := h _ rfl
    refine ok_aload_n dX6_layList_23 rfl rfl ?_
    refine ok_getR (j := 160) dX6_layList_24 fX6_layList_22 (by decide) rp_k155 rfl (by decide) ?_
    refine ok_iload_n dX6_layList_27 rfl rfl ?_
    refine ok_aload_n dX6_layList_28 rfl rfl ?_
    refine ok_iload_n dX6_layList_29 rfl rfl ?_
    refine ok_aload_n dX6_layList_30 rfl rfl ?_
    refine ok_getR (j := 156) dX6_layList_31 fX6_layList_7 (by decide) rp_k155 rfl (by decide) ?_
    refine ok_iconst (v := 2) dX6_layList_34 (by decide) ?_
    refine ok_iaload (j := 2) dX6_layList_35 (by decide) rp_k156 (rp_vi (by decide)) (by decide) ?_
    obtain ⟨v8, M9, r10, h⟩ := h
    refine ok_callV2 dX6_layList_36 kX6_layList_138 r10 (by decide) rp_k155 rfl rfl (Nat.le_of_ble_eq_true rfl) ?_
    rintro _ _ ⟨rfl, rfl⟩
    refine ok_iastore dX6_layList_39 (by decide) rp_k160 b6 rfl ?_
    replace h := h _ rfl
    refine ok_iinc2 (w := 1) dX6_layList_40 rfl (by decide) (by decide) rfl ?_
    refine ok_goto (tgt := 6) dX6_layList_43 (by decide) ?_
    exact ok_mask [true, false, true, true, false, false, false] h
theorem vX6_layList_56 (E : rp_E) (post : Option Int32 → rp_M → Prop) (M : rp_M) (l2 : Int32) (l3 : Int32) (l4 : Int32) (h : (l4 < 0 → (post none M)) ∧ (¬ l4 < 0 → (rp_G E YX6_layList post 68 [.ref 155, .null, .int l2, .int l3, .int (-6), .int 0, .null] [] M))) : rp_G E YX6_layList post 56 [.ref 155, .null, .int l2, .int l3, .int l4, .null, .null] [] M := by
  refine ok_iload dX6_layList_56 rfl ?_
  refine ok_if_lt (tgt := 221) dX6_layList_58 (by decide) (fun c12 => ?_) (fun c12 => ?_)
  · replace h := h.1 c12
    exact ok_return dX6_layList_221 rfl h
  · replace h := h.2 c12
    refine ok_bipush (v := (-6)) dX6_layList_61 (by decide) ?_
    refine ok_istore dX6_layList_63 (by decide) rfl ?_
    refine ok_iconst (v := 0) dX6_layList_65 (by decide) ?_
    refine ok_istore dX6_layList_66 (by decide) rfl ?_
    exact ok_mask [true, false, true, true, true, true, false] h
theorem vX6_layList_68 (E : rp_E) (post : Option Int32 → rp_M → Prop) (M : rp_M) (l2 : Int32) (l3 : Int32) (l4 : Int32) (l5 : Int32) (h : (l2 ≤ l5 → ((l4 < 0 → (rp_G E YX6_layList post 56 [.ref 155, .null, .int l2, .int l3, .int l4, .null, .null] [] M)) ∧ (¬ l4 < 0 → (vp_in (M 155 14) 4096 ∧ (∀ M16, M16 = rp_s M 164 (Int32.toNatClampNeg (M 155 14)) l4 → (∀ M17, M17 = rp_s M16 155 14 ((M16 155 14) + 1) → (vp_in l4 4096 ∧ (rp_G E YX6_layList post 56 [.ref 155, .null, .int l2, .int (M17 163 (Int32.toNatClampNeg l4)), .int l4, .null, .null] [] M17)))))))) ∧ (¬ l2 ≤ l5 → (vp_in l5 4096 ∧ (((M 156 1) < (M 160 (Int32.toNatClampNeg l5)) → (rp_G E YX6_layList post 68 [.ref 155, .null, .int l2, .int l3, .int l4, .int (l5 + 1), .null] [] M)) ∧ (¬ (M 156 1) < (M 160 (Int32.toNatClampNeg l5)) → (((M 163 (Int32.toNatClampNeg l5)) ≤ l3 → (rp_G E YX6_layList post 68 [.ref 155, .null, .int l2, .int l3, .int l4, .int (l5 + 1), .null] [] M)) ∧ (¬ (M 163 (Int32.toNatClampNeg l5)) ≤ l3 → ((l4 < 0 → (rp_G E YX6_layList post 68 [.ref 155, .null, .int l2, .int l3, .int l5, .int (l5 + 1), .null] [] M)) ∧ (¬ l4 < 0 → (vp_in l4 4096 ∧ (((M 160 (Int32.toNatClampNeg l5)) < (M 160 (Int32.toNatClampNeg l4)) → (rp_G E YX6_layList post 68 [.ref 155, .null, .int l2, .int l3, .int l5, .int (l5 + 1), .null] [] M)) ∧ (¬ (M 160 (Int32.toNatClampNeg l5)) < (M 160 (Int32.toNatClampNeg l4)) → ((¬ (M 160 (Int32.toNatClampNeg l5)) = (M 160 (Int32.toNatClampNeg l4)) → (rp_G E YX6_layList post 68 [.ref 155, .null, .int l2, .int l3, .int l4, .int (l5 + 1), .null] [] M)) ∧ ((M 160 (Int32.toNatClampNeg l5)) = (M 160 (Int32.toNatClampNeg l4)) → (((M 163 (Int32.toNatClampNeg l5)) ≤ (M 163 (Int32.toNatClampNeg l4)) → (rp_G E YX6_layList post 68 [.ref 155, .null, .int l2, .int l3, .int l4, .int (l5 + 1), .null] [] M)) ∧ (¬ (M 163 (Int32.toNatClampNeg l5)) ≤ (M 163 (Int32.toNatClampNeg l4)) → (rp_G E YX6_layList post 68 [.ref 155, .null, .int l2, .int l3, .int l5, .int (l5 + 1), .null] [] M))))))))))))))))) : rp_G E YX6_layList post 68 [.ref 155, .null, .int l2, .int l3, .int l4, .int l5, .null] [] M := by
  refine ok_iload dX6_layList_68 rfl ?_
  refine ok_iload_n dX6_layList_70 rfl rfl ?_
  refine ok_icmp_ge (tgt := 184) dX6_layList_71 (by decide) (fun c13 => ?_) (fun c13 => ?_)
  · replace h := h.1 c13
    refine ok_iload dX6_layList_184 rfl ?_
    refine ok_if_lt (tgt := 56) dX6_layList_186 (by decide) (fun c14 => ?_) (fun c14 => ?_)
    · replace h := h.1 c14
      exact ok_mask [true, false, true, true, true, false, false] h
    · replace h := h.2 c14
      refine ok_aload_n dX6_layList_189 rfl rfl ?_
      refine ok_getR (j := 164) dX6_layList_190 fX6_layList_35 (by decide) rp_k155 rfl (by decide) ?_
      refine ok_aload_n dX6_layList_193 rfl rfl ?_
      refine ok_getI dX6_layList_194 fX6_layList_185 (by decide) rp_k155 rfl ?_
      refine ok_iload dX6_layList_197 rfl ?_
      have b15 := h.1
      replace h := h.2
      refine ok_iastore dX6_layList_199 (by decide) rp_k164 b15 rfl ?_
      replace h := h _ rfl
      refine ok_aload_n dX6_layList_200 rfl rfl ?_
      refine ok_dup dX6_layList_201 rfl ?_
      refine ok_getI dX6_layList_202 fX6_layList_185 (by decide) rp_k155 rfl ?_
      refine ok_iconst (v := 1) dX6_layList_205 (by decide) ?_
      refine ok_iadd dX6_layList_206 ?_
      refine ok_put dX6_layList_207 pX6_layList_185 (by decide) rp_k155 rfl rfl rfl ?_
      replace h := h _ rfl
      refine ok_aload_n dX6_layList_210 rfl rfl ?_
      refine ok_getR (j := 163) dX6_layList_211 fX6_layList_32 (by decide) rp_k155 rfl (by decide) ?_
      refine ok_iload dX6_layList_214 rfl ?_
      have b18 := h.1
      replace h := h.2
      refine ok_iaload dX6_layList_216 (by decide) rp_k163 b18 rfl ?_
      refine ok_istore_n dX6_layList_217 rfl (by decide) rfl ?_
      refine ok_goto (tgt := 56) dX6_layList_218 (by decide) ?_
      exact ok_mask [true, false, true, true, true, false, false] h
  · replace h := h.2 c13
    refine ok_aload_n dX6_layList_74 rfl rfl ?_
    refine ok_getR (j := 160) dX6_layList_75 fX6_layList_22 (by decide) rp_k155 rfl (by decide) ?_
    refine ok_iload dX6_layList_78 rfl ?_
    have b19 := h.1
    replace h := h.2
    refine ok_iaload dX6_layList_80 (by decide) rp_k160 b19 rfl ?_
    refine ok_aload_n dX6_layList_81 rfl rfl ?_
    refine ok_getR (j := 156) dX6_layList_82 fX6_layList_7 (by decide) rp_k155 rfl (by decide) ?_
    refine ok_iconst (v := 1) dX6_layList_85 (by decide) ?_
    refine ok_iaload (j := 1) dX6_layList_86 (by decide) rp_k156 (rp_vi (by decide)) (by decide) ?_
    refine ok_icmp_gt (tgt := 178) dX6_layList_87 (by decide) (fun c20 => ?_) (fun c20 => ?_)
    · replace h := h.1 c20
      refine ok_iinc2 (w := 1) dX6_layList_178 rfl (by decide) (by decide) rfl ?_
      refine ok_goto (tgt := 68) dX6_layList_181 (by decide) ?_
      exact ok_mask [true, false, true, true, true, true, false] h
    · replace h := h.2 c20
      refine ok_aload_n dX6_layList_90 rfl rfl ?_
      refine ok_getR (j := 163) dX6_layList_91 fX6_layList_32 (by decide) rp_k155 rfl (by decide) ?_
      refine ok_iload dX6_layList_94 rfl ?_
      refine ok_iaload dX6_layList_96 (by decide) rp_k163 b19 rfl ?_
      refine ok_iload_n dX6_layList_97 rfl rfl ?_
      refine ok_icmp_le (tgt := 178) dX6_layList_98 (by decide) (fun c21 => ?_) (fun c21 => ?_)
      · replace h := h.1 c21
        refine ok_iinc2 (w := 1) dX6_layList_178 rfl (by decide) (by decide) rfl ?_
        refine ok_goto (tgt := 68) dX6_layList_181 (by decide) ?_
        exact ok_mask [true, false, true, true, true, true, false] h
      · replace h := h.2 c21
        refine ok_iload dX6_layList_101 rfl ?_
        refine ok_if_lt (tgt := 157) dX6_layList_103 (by decide) (fun c22 => ?_) (fun c22 => ?_)
        · replace h := h.1 c22
          refine ok_iconst (v := 1) dX6_layList_157 (by decide) ?_
          refine ok_goto (tgt := 162) dX6_layList_158 (by decide) ?_
          refine ok_istore dX6_layList_162 (by decide) rfl ?_
          refine ok_iload dX6_layList_164 rfl ?_
          refine ok_if_eq (tgt := 174) dX6_layList_166 (by decide) (fun c23 => absurd c23 (by decide)) (fun c23 => ?_)
          refine ok_iload dX6_layList_169 rfl ?_
          refine ok_goto (tgt := 176) dX6_layList_171 (by decide) ?_
          refine ok_istore dX6_layList_176 (by decide) rfl ?_
          refine ok_iinc2 (w := 1) dX6_layList_178 rfl (by decide) (by decide) rfl ?_
          refine ok_goto (tgt := 68) dX6_layList_181 (by decide) ?_
          exact ok_mask [true, false, true, true, true, true, false] h
        · replace h := h.2 c22
          refine ok_aload_n dX6_layList_106 rfl rfl ?_
          refine ok_getR (j := 160) dX6_layList_107 fX6_layList_22 (by decide) rp_k155 rfl (by decide) ?_
          refine ok_iload dX6_layList_110 rfl ?_
          refine ok_iaload dX6_layList_112 (by decide) rp_k160 b19 rfl ?_
          refine ok_aload_n dX6_layList_113 rfl rfl ?_
          refine ok_getR (j := 160) dX6_layList_114 fX6_layList_22 (by decide) rp_k155 rfl (by decide) ?_
          refine ok_iload dX6_layList_117 rfl ?_
          have b24 := h.1
          replace h := h.2
          refine ok_iaload dX6_layList_119 (by decide) rp_k160 b24 rfl ?_
          refine ok_icmp_lt (tgt := 157) dX6_layList_120 (by decide) (fun c25 => ?_) (fun c25 => ?_)
          · replace h := h.1 c25
            refine ok_iconst (v := 1) dX6_layList_157 (by decide) ?_
            refine ok_goto (tgt := 162) dX6_layList_158 (by decide) ?_
            refine ok_istore dX6_layList_162 (by decide) rfl ?_
            refine ok_iload dX6_layList_164 rfl ?_
            refine ok_if_eq (tgt := 174) dX6_layList_166 (by decide) (fun c26 => absurd c26 (by decide)) (fun c26 => ?_)
            refine ok_iload dX6_layList_169 rfl ?_
            refine ok_goto (tgt := 176) dX6_layList_171 (by decide) ?_
            refine ok_istore dX6_layList_176 (by decide) rfl ?_
            refine ok_iinc2 (w := 1) dX6_layList_178 rfl (by decide) (by decide) rfl ?_
            refine ok_goto (tgt := 68) dX6_layList_181 (by decide) ?_
            exact ok_mask [true, false, true, true, true, true, false] h
          · replace h := h.2 c25
            refine ok_aload_n dX6_layList_123 rfl rfl ?_
            refine ok_getR (j := 160) dX6_layList_124 fX6_layList_22 (by decide) rp_k155 rfl (by decide) ?_
            refine ok_iload dX6_layList_127 rfl ?_
            refine ok_iaload dX6_layList_129 (by decide) rp_k160 b19 rfl ?_
            refine ok_aload_n dX6_layList_130 rfl rfl ?_
            refine ok_getR (j := 160) dX6_layList_131 fX6_layList_22 (by decide) rp_k155 rfl (by decide) ?_
            refine ok_iload dX6_layList_134 rfl ?_
            refine ok_iaload dX6_layList_136 (by decide) rp_k160 b24 rfl ?_
            refine ok_icmp_ne (tgt := 161) dX6_layList_137 (by decide) (fun c27 => ?_) (fun c27 => ?_)
            · replace h := h.1 c27
              refine ok_iconst (v := 0) dX6_layList_161 (by decide) ?_
              refine ok_istore dX6_layList_162 (by decide) rfl ?_
              refine ok_iload dX6_layList_164 rfl ?_
              refine ok_if_eq (tgt := 174) dX6_layList_166 (by decide) (fun c28 => ?_) (fun c28 => absurd c28 (by decide))
              refine ok_iload dX6_layList_174 rfl ?_
              refine ok_istore dX6_layList_176 (by decide) rfl ?_
              refine ok_iinc2 (w := 1) dX6_layList_178 rfl (by decide) (by decide) rfl ?_
              refine ok_goto (tgt := 68) dX6_layList_181 (by decide) ?_
              exact ok_mask [true, false, true, true, true, true, false] h
            · replace h := h.2 c27
              refine ok_aload_n dX6_layList_140 rfl rfl ?_
              refine ok_getR (j := 163) dX6_layList_141 fX6_layList_32 (by decide) rp_k155 rfl (by decide) ?_
              refine ok_iload dX6_layList_144 rfl ?_
              refine ok_iaload dX6_layList_146 (by decide) rp_k163 b19 rfl ?_
              refine ok_aload_n dX6_layList_147 rfl rfl ?_
              refine ok_getR (j := 163) dX6_layList_148 fX6_layList_32 (by decide) rp_k155 rfl (by decide) ?_
              refine ok_iload dX6_layList_151 rfl ?_
              refine ok_iaload dX6_layList_153 (by decide) rp_k163 b24 rfl ?_
              refine ok_icmp_le (tgt := 161) dX6_layList_154 (by decide) (fun c29 => ?_) (fun c29 => ?_)
              · replace h := h.1 c29
                refine ok_iconst (v := 0) dX6_layList_161 (by decide) ?_
                refine ok_istore dX6_layList_162 (by decide) rfl ?_
                refine ok_iload dX6_layList_164 rfl ?_
                refine ok_if_eq (tgt := 174) dX6_layList_166 (by decide) (fun c30 => ?_) (fun c30 => absurd c30 (by decide))
                refine ok_iload dX6_layList_174 rfl ?_
                refine ok_istore dX6_layList_176 (by decide) rfl ?_
                refine ok_iinc2 (w := 1) dX6_layList_178 rfl (by decide) (by decide) rfl ?_
                refine ok_goto (tgt := 68) dX6_layList_181 (by decide) ?_
                exact ok_mask [true, false, true, true, true, true, false] h
              · replace h := h.2 c29
                refine ok_iconst (v := 1) dX6_layList_157 (by decide) ?_
                refine ok_goto (tgt := 162) dX6_layList_158 (by decide) ?_
                refine ok_istore dX6_layList_162 (by decide) rfl ?_
                refine ok_iload dX6_layList_164 rfl ?_
                refine ok_if_eq (tgt := 174) dX6_layList_166 (by decide) (fun c31 => absurd c31 (by decide)) (fun c31 => ?_)
                refine ok_iload dX6_layList_169 rfl ?_
                refine ok_goto (tgt := 176) dX6_layList_171 (by decide) ?_
                refine ok_istore dX6_layList_176 (by decide) rfl ?_
                refine ok_iinc2 (w := 1) dX6_layList_178 rfl (by decide) (by decide) rfl ?_
                refine ok_goto (tgt := 68) dX6_layList_181 (by decide) ?_
                exact ok_mask [true, false, true, true, true, true, false] h
theorem vX6_list (E : rp_E) (post : Option Int32 → rp_M → Prop) (M : rp_M) (l1 : Int32) (l2 : Int32) (h : ∃ v1 M2, rp_C E YX6_in [.int l1, .int 0, .int (M 156 0)] M (some v1) M2 ∧ ((¬ v1 = 0 → (∃ P7 : rp_M → Prop, rp_Run E YX6_layList [.ref 155, .int l1] M2 (rp_P0 P7) ∧ (∀ M5, P7 M5 → ((¬ l2 = (-1) → (∃ v10 M11, rp_C E YX6_in [.int l2, .int 0, .int ((M5 155 14) - 1)] M5 (some v10) M11 ∧ ((v10 = 0 → (post (some (-6)) M11)) ∧ (¬ v10 = 0 → (vp_in l2 4096 ∧ (post (some (M11 164 (Int32.toNatClampNeg l2))) M11)))))) ∧ (l2 = (-1) → (post (some (M5 155 14)) M5)))))) ∧ (v1 = 0 → (post (some (-1)) M2)))) : rp_Run E YX6_list [.ref 155, .int l1, .int l2] M post := by
  refine ok_start (by decide) oX6_list (Nat.le_of_ble_eq_true rfl) ?_
  refine ok_iload_n dX6_list_0 rfl rfl ?_
  refine ok_iconst (v := 0) dX6_list_1 (by decide) ?_
  refine ok_aload_n dX6_list_2 rfl rfl ?_
  refine ok_getR (j := 156) dX6_list_3 fX6_list_7 (by decide) rp_k155 rfl (by decide) ?_
  refine ok_iconst (v := 0) dX6_list_6 (by decide) ?_
  refine ok_iaload (j := 0) dX6_list_7 (by decide) rp_k156 (rp_vi (by decide)) (by decide) ?_
  obtain ⟨v1, M2, r3, h⟩ := h
  refine ok_callS2 dX6_list_8 kX6_list_53 r3 rfl rfl (Nat.le_of_ble_eq_true rfl) ?_
  rintro _ _ ⟨rfl, rfl⟩
  refine ok_if_ne (tgt := 16) dX6_list_11 (by decide) (fun c4 => ?_) (fun c4 => ?_)
  · replace h := h.1 c4
    refine ok_aload_n dX6_list_16 rfl rfl ?_
    refine ok_iload_n dX6_list_17 rfl rfl ?_
    obtain ⟨P7, r6, h⟩ := h
    refine ok_callV2 dX6_list_18 kX6_list_188 r6 (by decide) rp_k155 rfl rfl (Nat.le_of_ble_eq_true rfl) ?_
    rintro _ M5 ⟨rfl, q8⟩
    replace h := h M5 q8
    refine ok_iload_n dX6_list_21 rfl rfl ?_
    refine ok_iconst (v := (-1)) dX6_list_22 (by decide) ?_
    refine ok_icmp_ne (tgt := 33) dX6_list_23 (by decide) (fun c9 => ?_) (fun c9 => ?_)
    · replace h := h.1 c9
      refine ok_iload_n dX6_list_33 rfl rfl ?_
      refine ok_iconst (v := 0) dX6_list_34 (by decide) ?_
      refine ok_aload_n dX6_list_35 rfl rfl ?_
      refine ok_getI dX6_list_36 fX6_list_185 (by decide) rp_k155 rfl ?_
      refine ok_iconst (v := 1) dX6_list_39 (by decide) ?_
      refine ok_isub dX6_list_40 ?_
      obtain ⟨v10, M11, r12, h⟩ := h
      refine ok_callS2 dX6_list_41 kX6_list_53 r12 rfl rfl (Nat.le_of_ble_eq_true rfl) ?_
      rintro _ _ ⟨rfl, rfl⟩
      refine ok_if_eq (tgt := 56) dX6_list_44 (by decide) (fun c13 => ?_) (fun c13 => ?_)
      · replace h := h.1 c13
        refine ok_bipush (v := (-6)) dX6_list_56 (by decide) ?_
        exact ok_ireturn dX6_list_58 rfl h
      · replace h := h.2 c13
        refine ok_aload_n dX6_list_47 rfl rfl ?_
        refine ok_getR (j := 164) dX6_list_48 fX6_list_35 (by decide) rp_k155 rfl (by decide) ?_
        refine ok_iload_n dX6_list_51 rfl rfl ?_
        have b14 := h.1
        replace h := h.2
        refine ok_iaload dX6_list_52 (by decide) rp_k164 b14 rfl ?_
        refine ok_goto (tgt := 58) dX6_list_53 (by decide) ?_
        exact ok_ireturn dX6_list_58 rfl h
    · replace h := h.2 c9
      refine ok_aload_n dX6_list_26 rfl rfl ?_
      refine ok_getI dX6_list_27 fX6_list_185 (by decide) rp_k155 rfl ?_
      refine ok_goto (tgt := 58) dX6_list_30 (by decide) ?_
      exact ok_ireturn dX6_list_58 rfl h
  · replace h := h.2 c4
    refine ok_iconst (v := (-1)) dX6_list_14 (by decide) ?_
    exact ok_ireturn dX6_list_15 rfl h
theorem vX6_dominator (E : rp_E) (post : Option Int32 → rp_M → Prop) (M : rp_M) (l1 : Int32) (l2 : Int32) (h : ∃ v1 M2, rp_C E YX6_in [.int l1, .int 0, .int (M 156 0)] M (some v1) M2 ∧ ((v1 = 0 → (post (some (-1)) M2)) ∧ (¬ v1 = 0 → (∃ v5 M6, rp_C E YX6_in [.int l2, .int 0, .int (((1 : Int32) <<< (l1 &&& 31) : Int32) - 1)] M2 (some v5) M6 ∧ ((¬ v5 = 0 → (∃ P11 : rp_M → Prop, rp_Run E YX6_layList [.ref 155, .int l1] M6 (rp_P0 P11) ∧ (∀ M9, P11 M9 → (vp_in l2 4096 ∧ (((M9 160 (Int32.toNatClampNeg l2)) ≤ (M9 156 1) → (rp_G E YX6_dominator post 54 [.ref 155, .null, .int l2, .int 0] [] M9)) ∧ (¬ (M9 160 (Int32.toNatClampNeg l2)) ≤ (M9 156 1) → (post (some (-5)) M9))))))) ∧ (v5 = 0 → (post (some (-1)) M6))))))) : rp_Run E YX6_dominator [.ref 155, .int l1, .int l2] M post := by
  refine ok_start (by decide) oX6_dominator (Nat.le_of_ble_eq_true rfl) ?_
  refine ok_iload_n dX6_dominator_0 rfl rfl ?_
  refine ok_iconst (v := 0) dX6_dominator_1 (by decide) ?_
  refine ok_aload_n dX6_dominator_2 rfl rfl ?_
  refine ok_getR (j := 156) dX6_dominator_3 fX6_dominator_7 (by decide) rp_k155 rfl (by decide) ?_
  refine ok_iconst (v := 0) dX6_dominator_6 (by decide) ?_
  refine ok_iaload (j := 0) dX6_dominator_7 (by decide) rp_k156 (rp_vi (by decide)) (by decide) ?_
  obtain ⟨v1, M2, r3, h⟩ := h
  refine ok_callS2 dX6_dominator_8 kX6_dominator_53 r3 rfl rfl (Nat.le_of_ble_eq_true rfl) ?_
  rintro _ _ ⟨rfl, rfl⟩
  refine ok_if_eq (tgt := 27) dX6_dominator_11 (by decide) (fun c4 => ?_) (fun c4 => ?_)
  · replace h := h.1 c4
    refine ok_iconst (v := (-1)) dX6_dominator_27 (by decide) ?_
    exact ok_ireturn dX6_dominator_28 rfl h
  · replace h := h.2 c4
    refine ok_iload_n dX6_dominator_14 rfl rfl ?_
    refine ok_iconst (v := 0) dX6_dominator_15 (by decide) ?_
    refine ok_iconst (v := 1) dX6_dominator_16 (by decide) ?_
    refine ok_iload_n dX6_dominator_17 rfl rfl ?_
    refine ok_ishl dX6_dominator_18 ?_
    refine ok_iconst (v := 1) dX6_dominator_19 (by decide) ?_
    refine ok_isub dX6_dominator_20 ?_
    obtain ⟨v5, M6, r7, h⟩ := h
    refine ok_callS2 dX6_dominator_21 kX6_dominator_53 r7 rfl rfl (Nat.le_of_ble_eq_true rfl) ?_
    rintro _ _ ⟨rfl, rfl⟩
    refine ok_if_ne (tgt := 29) dX6_dominator_24 (by decide) (fun c8 => ?_) (fun c8 => ?_)
    · replace h := h.1 c8
      refine ok_aload_n dX6_dominator_29 rfl rfl ?_
      refine ok_iload_n dX6_dominator_30 rfl rfl ?_
      obtain ⟨P11, r10, h⟩ := h
      refine ok_callV2 dX6_dominator_31 kX6_dominator_188 r10 (by decide) rp_k155 rfl rfl (Nat.le_of_ble_eq_true rfl) ?_
      rintro _ M9 ⟨rfl, q12⟩
      replace h := h M9 q12
      refine ok_aload_n dX6_dominator_34 rfl rfl ?_
      refine ok_getR (j := 160) dX6_dominator_35 fX6_dominator_22 (by decide) rp_k155 rfl (by decide) ?_
      refine ok_iload_n dX6_dominator_38 rfl rfl ?_
      have b13 := h.1
      replace h := h.2
      refine ok_iaload dX6_dominator_39 (by decide) rp_k160 b13 rfl ?_
      refine ok_aload_n dX6_dominator_40 rfl rfl ?_
      refine ok_getR (j := 156) dX6_dominator_41 fX6_dominator_7 (by decide) rp_k155 rfl (by decide) ?_
      refine ok_iconst (v := 1) dX6_dominator_44 (by decide) ?_
      refine ok_iaload (j := 1) dX6_dominator_45 (by decide) rp_k156 (rp_vi (by decide)) (by decide) ?_
      refine ok_icmp_le (tgt := 52) dX6_dominator_46 (by decide) (fun c14 => ?_) (fun c14 => ?_)
      · replace h := h.1 c14
        refine ok_iconst (v := 0) dX6_dominator_52 (by decide) ?_
        refine ok_istore_n dX6_dominator_53 rfl (by decide) rfl ?_
        exact ok_mask [true, false, true, true] h
      · replace h := h.2 c14
        refine ok_bipush (v := (-5)) dX6_dominator_49 (by decide) ?_
        exact ok_ireturn dX6_dominator_51 rfl h
    · replace h := h.2 c8
      refine ok_iconst (v := (-1)) dX6_dominator_27 (by decide) ?_
      exact ok_ireturn dX6_dominator_28 rfl h
theorem vX6_dominator_54 (E : rp_E) (post : Option Int32 → rp_M → Prop) (M : rp_M) (l2 : Int32) (l3 : Int32) (h : ((M 155 14) ≤ l3 → (rp_G E YX6_dominator post 83 [.ref 155, .null, .int l2, .int 0] [] M)) ∧ (¬ (M 155 14) ≤ l3 → (vp_in l3 4096 ∧ ((¬ (M 164 (Int32.toNatClampNeg l3)) = l2 → (rp_G E YX6_dominator post 54 [.ref 155, .null, .int l2, .int (l3 + 1)] [] M)) ∧ ((M 164 (Int32.toNatClampNeg l3)) = l2 → (post (some (-6)) M)))))) : rp_G E YX6_dominator post 54 [.ref 155, .null, .int l2, .int l3] [] M := by
  refine ok_iload_n dX6_dominator_54 rfl rfl ?_
  refine ok_aload_n dX6_dominator_55 rfl rfl ?_
  refine ok_getI dX6_dominator_56 fX6_dominator_185 (by decide) rp_k155 rfl ?_
  refine ok_icmp_ge (tgt := 81) dX6_dominator_59 (by decide) (fun c15 => ?_) (fun c15 => ?_)
  · replace h := h.1 c15
    refine ok_iconst (v := 0) dX6_dominator_81 (by decide) ?_
    refine ok_istore_n dX6_dominator_82 rfl (by decide) rfl ?_
    exact ok_mask [true, false, true, true] h
  · replace h := h.2 c15
    refine ok_aload_n dX6_dominator_62 rfl rfl ?_
    refine ok_getR (j := 164) dX6_dominator_63 fX6_dominator_35 (by decide) rp_k155 rfl (by decide) ?_
    refine ok_iload_n dX6_dominator_66 rfl rfl ?_
    have b16 := h.1
    replace h := h.2
    refine ok_iaload dX6_dominator_67 (by decide) rp_k164 b16 rfl ?_
    refine ok_iload_n dX6_dominator_68 rfl rfl ?_
    refine ok_icmp_ne (tgt := 75) dX6_dominator_69 (by decide) (fun c17 => ?_) (fun c17 => ?_)
    · replace h := h.1 c17
      refine ok_iinc2 (w := 1) dX6_dominator_75 rfl (by decide) (by decide) rfl ?_
      refine ok_goto (tgt := 54) dX6_dominator_78 (by decide) ?_
      exact ok_mask [true, false, true, true] h
    · replace h := h.2 c17
      refine ok_bipush (v := (-6)) dX6_dominator_72 (by decide) ?_
      exact ok_ireturn dX6_dominator_74 rfl h
theorem vX6_dominator_83 (E : rp_E) (post : Option Int32 → rp_M → Prop) (M : rp_M) (l2 : Int32) (l3 : Int32) (h : vp_in l3 4096 ∧ (vp_in (M 164 (Int32.toNatClampNeg l3)) 4096 ∧ (vp_in l2 4096 ∧ (((M 163 (Int32.toNatClampNeg (M 164 (Int32.toNatClampNeg l3)))) < (M 163 (Int32.toNatClampNeg l2)) → (rp_G E YX6_dominator post 83 [.ref 155, .null, .int l2, .int (l3 + 1)] [] M)) ∧ (¬ (M 163 (Int32.toNatClampNeg (M 164 (Int32.toNatClampNeg l3)))) < (M 163 (Int32.toNatClampNeg l2)) → (((M 160 (Int32.toNatClampNeg (M 164 (Int32.toNatClampNeg l3)))) ≤ (M 160 (Int32.toNatClampNeg l2)) → (post (some (M 164 (Int32.toNatClampNeg l3))) M)) ∧ (¬ (M 160 (Int32.toNatClampNeg (M 164 (Int32.toNatClampNeg l3)))) ≤ (M 160 (Int32.toNatClampNeg l2)) → (rp_G E YX6_dominator post 83 [.ref 155, .null, .int l2, .int (l3 + 1)] [] M)))))))) : rp_G E YX6_dominator post 83 [.ref 155, .null, .int l2, .int l3] [] M := by
  refine ok_aload_n dX6_dominator_83 rfl rfl ?_
  refine ok_getR (j := 163) dX6_dominator_84 fX6_dominator_32 (by decide) rp_k155 rfl (by decide) ?_
  refine ok_aload_n dX6_dominator_87 rfl rfl ?_
  refine ok_getR (j := 164) dX6_dominator_88 fX6_dominator_35 (by decide) rp_k155 rfl (by decide) ?_
  refine ok_iload_n dX6_dominator_91 rfl rfl ?_
  have b18 := h.1
  replace h := h.2
  refine ok_iaload dX6_dominator_92 (by decide) rp_k164 b18 rfl ?_
  have b19 := h.1
  replace h := h.2
  refine ok_iaload dX6_dominator_93 (by decide) rp_k163 b19 rfl ?_
  refine ok_aload_n dX6_dominator_94 rfl rfl ?_
  refine ok_getR (j := 163) dX6_dominator_95 fX6_dominator_32 (by decide) rp_k155 rfl (by decide) ?_
  refine ok_iload_n dX6_dominator_98 rfl rfl ?_
  have b20 := h.1
  replace h := h.2
  refine ok_iaload dX6_dominator_99 (by decide) rp_k163 b20 rfl ?_
  refine ok_icmp_lt (tgt := 123) dX6_dominator_100 (by decide) (fun c21 => ?_) (fun c21 => ?_)
  · replace h := h.1 c21
    refine ok_iinc2 (w := 1) dX6_dominator_123 rfl (by decide) (by decide) rfl ?_
    refine ok_goto (tgt := 83) dX6_dominator_126 (by decide) ?_
    exact ok_mask [true, false, true, true] h
  · replace h := h.2 c21
    refine ok_aload_n dX6_dominator_103 rfl rfl ?_
    refine ok_getR (j := 160) dX6_dominator_104 fX6_dominator_22 (by decide) rp_k155 rfl (by decide) ?_
    refine ok_aload_n dX6_dominator_107 rfl rfl ?_
    refine ok_getR (j := 164) dX6_dominator_108 fX6_dominator_35 (by decide) rp_k155 rfl (by decide) ?_
    refine ok_iload_n dX6_dominator_111 rfl rfl ?_
    refine ok_iaload dX6_dominator_112 (by decide) rp_k164 b18 rfl ?_
    refine ok_iaload dX6_dominator_113 (by decide) rp_k160 b19 rfl ?_
    refine ok_aload_n dX6_dominator_114 rfl rfl ?_
    refine ok_getR (j := 160) dX6_dominator_115 fX6_dominator_22 (by decide) rp_k155 rfl (by decide) ?_
    refine ok_iload_n dX6_dominator_118 rfl rfl ?_
    refine ok_iaload dX6_dominator_119 (by decide) rp_k160 b20 rfl ?_
    refine ok_icmp_le (tgt := 129) dX6_dominator_120 (by decide) (fun c22 => ?_) (fun c22 => ?_)
    · replace h := h.1 c22
      refine ok_aload_n dX6_dominator_129 rfl rfl ?_
      refine ok_getR (j := 164) dX6_dominator_130 fX6_dominator_35 (by decide) rp_k155 rfl (by decide) ?_
      refine ok_iload_n dX6_dominator_133 rfl rfl ?_
      refine ok_iaload dX6_dominator_134 (by decide) rp_k164 b18 rfl ?_
      exact ok_ireturn dX6_dominator_135 rfl h
    · replace h := h.2 c22
      refine ok_iinc2 (w := 1) dX6_dominator_123 rfl (by decide) (by decide) rfl ?_
      refine ok_goto (tgt := 83) dX6_dominator_126 (by decide) ?_
      exact ok_mask [true, false, true, true] h
theorem vX6_layThresholds (E : rp_E) (post : Option Int32 → rp_M → Prop) (M : rp_M)  (h : rp_G E YX6_layThresholds post 6 [.ref 155, .int 0, .int 1000, .null, .null, .null] [] M) : rp_Run E YX6_layThresholds [.ref 155] M post := by
  refine ok_start (by decide) oX6_layThresholds (Nat.le_of_ble_eq_true rfl) ?_
  refine ok_iconst (v := 0) dX6_layThresholds_0 (by decide) ?_
  refine ok_istore_n dX6_layThresholds_1 rfl (by decide) rfl ?_
  refine ok_sipush (v := 1000) dX6_layThresholds_2 (by decide) ?_
  refine ok_istore_n dX6_layThresholds_5 rfl (by decide) rfl ?_
  exact ok_mask [true, true, true, false, false, false] h
theorem vX6_layThresholds_6 (E : rp_E) (post : Option Int32 → rp_M → Prop) (M : rp_M) (l1 : Int32) (l2 : Int32) (h : (l2 ≤ 0 → (post (some l1) M)) ∧ (¬ l2 ≤ 0 → (rp_G E YX6_layThresholds post 15 [.ref 155, .int l1, .int l2, .int 0, .int 0, .null] [] M))) : rp_G E YX6_layThresholds post 6 [.ref 155, .int l1, .int l2, .null, .null, .null] [] M := by
  refine ok_iload_n dX6_layThresholds_6 rfl rfl ?_
  refine ok_if_le (tgt := 75) dX6_layThresholds_7 (by decide) (fun c1 => ?_) (fun c1 => ?_)
  · replace h := h.1 c1
    refine ok_iload_n dX6_layThresholds_75 rfl rfl ?_
    exact ok_ireturn dX6_layThresholds_76 rfl h
  · replace h := h.2 c1
    refine ok_iconst (v := 0) dX6_layThresholds_10 (by decide) ?_
    refine ok_istore_n dX6_layThresholds_11 rfl (by decide) rfl ?_
    refine ok_iconst (v := 0) dX6_layThresholds_12 (by decide) ?_
    refine ok_istore dX6_layThresholds_13 (by decide) rfl ?_
    exact ok_mask [true, true, true, true, true, false] h
theorem vX6_layThresholds_15 (E : rp_E) (post : Option Int32 → rp_M → Prop) (M : rp_M) (l1 : Int32) (l2 : Int32) (l3 : Int32) (l4 : Int32) (h : ((M 156 0) ≤ l4 → (vp_in l1 13 ∧ (∀ M4, M4 = rp_s M 165 (Int32.toNatClampNeg l1) l3 → (rp_G E YX6_layThresholds post 6 [.ref 155, .int (l1 + 1), .int l3, .null, .null, .null] [] M4)))) ∧ (¬ (M 156 0) ≤ l4 → (∃ v5 M6, rp_C E YX6_of [.ref 155, .int l4, .int 2] M (some v5) M6 ∧ ((l2 ≤ v5 → (rp_G E YX6_layThresholds post 15 [.ref 155, .int l1, .int l2, .int l3, .int (l4 + 1), .null] [] M6)) ∧ (¬ l2 ≤ v5 → ((v5 ≤ l3 → (rp_G E YX6_layThresholds post 15 [.ref 155, .int l1, .int l2, .int l3, .int (l4 + 1), .null] [] M6)) ∧ (¬ v5 ≤ l3 → (rp_G E YX6_layThresholds post 15 [.ref 155, .int l1, .int l2, .int v5, .int (l4 + 1), .null] [] M6)))))))) : rp_G E YX6_layThresholds post 15 [.ref 155, .int l1, .int l2, .int l3, .int l4, .null] [] M := by
  refine ok_iload dX6_layThresholds_15 rfl ?_
  refine ok_aload_n dX6_layThresholds_17 rfl rfl ?_
  refine ok_getR (j := 156) dX6_layThresholds_18 fX6_layThresholds_7 (by decide) rp_k155 rfl (by decide) ?_
  refine ok_iconst (v := 0) dX6_layThresholds_21 (by decide) ?_
  refine ok_iaload (j := 0) dX6_layThresholds_22 (by decide) rp_k156 (rp_vi (by decide)) (by decide) ?_
  refine ok_icmp_ge (tgt := 60) dX6_layThresholds_23 (by decide) (fun c2 => ?_) (fun c2 => ?_)
  · replace h := h.1 c2
    refine ok_aload_n dX6_layThresholds_60 rfl rfl ?_
    refine ok_getR (j := 165) dX6_layThresholds_61 fX6_layThresholds_38 (by decide) rp_k155 rfl (by decide) ?_
    refine ok_iload_n dX6_layThresholds_64 rfl rfl ?_
    refine ok_iload_n dX6_layThresholds_65 rfl rfl ?_
    have b3 := h.1
    replace h := h.2
    refine ok_iastore dX6_layThresholds_66 (by decide) rp_k165 b3 rfl ?_
    replace h := h _ rfl
    refine ok_iinc2 (w := 1) dX6_layThresholds_67 rfl (by decide) (by decide) rfl ?_
    refine ok_iload_n dX6_layThresholds_70 rfl rfl ?_
    refine ok_istore_n dX6_layThresholds_71 rfl (by decide) rfl ?_
    refine ok_goto (tgt := 6) dX6_layThresholds_72 (by decide) ?_
    exact ok_mask [true, true, true, false, false, false] h
  · replace h := h.2 c2
    refine ok_aload_n dX6_layThresholds_26 rfl rfl ?_
    refine ok_iload dX6_layThresholds_27 rfl ?_
    refine ok_iconst (v := 2) dX6_layThresholds_29 (by decide) ?_
    obtain ⟨v5, M6, r7, h⟩ := h
    refine ok_callV2 dX6_layThresholds_30 kX6_layThresholds_72 r7 (by decide) rp_k155 rfl rfl (Nat.le_of_ble_eq_true rfl) ?_
    rintro _ _ ⟨rfl, rfl⟩
    refine ok_istore dX6_layThresholds_33 (by decide) rfl ?_
    refine ok_iload dX6_layThresholds_35 rfl ?_
    refine ok_iload_n dX6_layThresholds_37 rfl rfl ?_
    refine ok_icmp_ge (tgt := 52) dX6_layThresholds_38 (by decide) (fun c8 => ?_) (fun c8 => ?_)
    · replace h := h.1 c8
      refine ok_iload_n dX6_layThresholds_52 rfl rfl ?_
      refine ok_istore_n dX6_layThresholds_53 rfl (by decide) rfl ?_
      refine ok_iinc2 (w := 1) dX6_layThresholds_54 rfl (by decide) (by decide) rfl ?_
      refine ok_goto (tgt := 15) dX6_layThresholds_57 (by decide) ?_
      exact ok_mask [true, true, true, true, true, false] h
    · replace h := h.2 c8
      refine ok_iload dX6_layThresholds_41 rfl ?_
      refine ok_iload_n dX6_layThresholds_43 rfl rfl ?_
      refine ok_icmp_le (tgt := 52) dX6_layThresholds_44 (by decide) (fun c9 => ?_) (fun c9 => ?_)
      · replace h := h.1 c9
        refine ok_iload_n dX6_layThresholds_52 rfl rfl ?_
        refine ok_istore_n dX6_layThresholds_53 rfl (by decide) rfl ?_
        refine ok_iinc2 (w := 1) dX6_layThresholds_54 rfl (by decide) (by decide) rfl ?_
        refine ok_goto (tgt := 15) dX6_layThresholds_57 (by decide) ?_
        exact ok_mask [true, true, true, true, true, false] h
      · replace h := h.2 c9
        refine ok_iload dX6_layThresholds_47 rfl ?_
        refine ok_goto (tgt := 53) dX6_layThresholds_49 (by decide) ?_
        refine ok_istore_n dX6_layThresholds_53 rfl (by decide) rfl ?_
        refine ok_iinc2 (w := 1) dX6_layThresholds_54 rfl (by decide) (by decide) rfl ?_
        refine ok_goto (tgt := 15) dX6_layThresholds_57 (by decide) ?_
        exact ok_mask [true, true, true, true, true, false] h
theorem vX6_threshold (E : rp_E) (post : Option Int32 → rp_M → Prop) (M : rp_M) (l1 : Int32) (h : ∃ P4 : Int32 → rp_M → Prop, rp_Run E YX6_layThresholds [.ref 155] M (rp_P P4) ∧ (∀ v1 M2, P4 v1 M2 → ((¬ l1 = (-1) → (∃ v7 M8, rp_C E YX6_in [.int l1, .int 0, .int (v1 - 1)] M2 (some v7) M8 ∧ ((v7 = 0 → (post (some (-6)) M8)) ∧ (¬ v7 = 0 → (vp_in l1 13 ∧ (post (some (M8 165 (Int32.toNatClampNeg l1))) M8)))))) ∧ (l1 = (-1) → (post (some v1) M2))))) : rp_Run E YX6_threshold [.ref 155, .int l1] M post := by
  refine ok_start (by decide) oX6_threshold (Nat.le_of_ble_eq_true rfl) ?_
  refine ok_aload_n dX6_threshold_0 rfl rfl ?_
  obtain ⟨P4, r3, h⟩ := h
  refine ok_callV2 dX6_threshold_1 kX6_threshold_191 r3 (by decide) rp_k155 rfl rfl (Nat.le_of_ble_eq_true rfl) ?_
  rintro _ M2 ⟨v1, rfl, q5⟩
  replace h := h v1 M2 q5
  refine ok_istore_n dX6_threshold_4 rfl (by decide) rfl ?_
  refine ok_iload_n dX6_threshold_5 rfl rfl ?_
  refine ok_iconst (v := (-1)) dX6_threshold_6 (by decide) ?_
  refine ok_icmp_ne (tgt := 14) dX6_threshold_7 (by decide) (fun c6 => ?_) (fun c6 => ?_)
  · replace h := h.1 c6
    refine ok_iload_n dX6_threshold_14 rfl rfl ?_
    refine ok_iconst (v := 0) dX6_threshold_15 (by decide) ?_
    refine ok_iload_n dX6_threshold_16 rfl rfl ?_
    refine ok_iconst (v := 1) dX6_threshold_17 (by decide) ?_
    refine ok_isub dX6_threshold_18 ?_
    obtain ⟨v7, M8, r9, h⟩ := h
    refine ok_callS2 dX6_threshold_19 kX6_threshold_53 r9 rfl rfl (Nat.le_of_ble_eq_true rfl) ?_
    rintro _ _ ⟨rfl, rfl⟩
    refine ok_if_eq (tgt := 34) dX6_threshold_22 (by decide) (fun c10 => ?_) (fun c10 => ?_)
    · replace h := h.1 c10
      refine ok_bipush (v := (-6)) dX6_threshold_34 (by decide) ?_
      exact ok_ireturn dX6_threshold_36 rfl h
    · replace h := h.2 c10
      refine ok_aload_n dX6_threshold_25 rfl rfl ?_
      refine ok_getR (j := 165) dX6_threshold_26 fX6_threshold_38 (by decide) rp_k155 rfl (by decide) ?_
      refine ok_iload_n dX6_threshold_29 rfl rfl ?_
      have b11 := h.1
      replace h := h.2
      refine ok_iaload dX6_threshold_30 (by decide) rp_k165 b11 rfl ?_
      refine ok_goto (tgt := 36) dX6_threshold_31 (by decide) ?_
      exact ok_ireturn dX6_threshold_36 rfl h
  · replace h := h.2 c6
    refine ok_iload_n dX6_threshold_10 rfl rfl ?_
    refine ok_goto (tgt := 36) dX6_threshold_11 (by decide) ?_
    exact ok_ireturn dX6_threshold_36 rfl h
theorem vX6_plain (E : rp_E) (post : Option Int32 → rp_M → Prop) (M : rp_M) (l1 : Int32) (h : ∃ P4 : Int32 → rp_M → Prop, rp_Run E YX6_layThresholds [.ref 155] M (rp_P P4) ∧ (∀ v1 M2, P4 v1 M2 → (∃ v6 M7, rp_C E YX6_in [.int l1, .int 0, .int (v1 - 1)] M2 (some v6) M7 ∧ ((¬ v6 = 0 → (vp_in l1 13 ∧ ((0 ≤ ((M7 156 1) - ((M7 156 2) * (M7 165 (Int32.toNatClampNeg l1)))) → (rp_G E YX6_plain post 52 [.ref 155, .null, .int (M7 165 (Int32.toNatClampNeg l1)), .int ((M7 156 1) - ((M7 156 2) * (M7 165 (Int32.toNatClampNeg l1)))), .int 0, .int 0, .null, .null, .null] [] M7)) ∧ (¬ 0 ≤ ((M7 156 1) - ((M7 156 2) * (M7 165 (Int32.toNatClampNeg l1)))) → (post (some (-6)) M7))))) ∧ (v6 = 0 → (post (some (-1)) M7)))))) : rp_Run E YX6_plain [.ref 155, .int l1] M post := by
  refine ok_start (by decide) oX6_plain (Nat.le_of_ble_eq_true rfl) ?_
  refine ok_iload_n dX6_plain_0 rfl rfl ?_
  refine ok_iconst (v := 0) dX6_plain_1 (by decide) ?_
  refine ok_aload_n dX6_plain_2 rfl rfl ?_
  obtain ⟨P4, r3, h⟩ := h
  refine ok_callV2 dX6_plain_3 kX6_plain_191 r3 (by decide) rp_k155 rfl rfl (Nat.le_of_ble_eq_true rfl) ?_
  rintro _ M2 ⟨v1, rfl, q5⟩
  replace h := h v1 M2 q5
  refine ok_iconst (v := 1) dX6_plain_6 (by decide) ?_
  refine ok_isub dX6_plain_7 ?_
  obtain ⟨v6, M7, r8, h⟩ := h
  refine ok_callS2 dX6_plain_8 kX6_plain_53 r8 rfl rfl (Nat.le_of_ble_eq_true rfl) ?_
  rintro _ _ ⟨rfl, rfl⟩
  refine ok_if_ne (tgt := 16) dX6_plain_11 (by decide) (fun c9 => ?_) (fun c9 => ?_)
  · replace h := h.1 c9
    refine ok_aload_n dX6_plain_16 rfl rfl ?_
    refine ok_getR (j := 165) dX6_plain_17 fX6_plain_38 (by decide) rp_k155 rfl (by decide) ?_
    refine ok_iload_n dX6_plain_20 rfl rfl ?_
    have b10 := h.1
    replace h := h.2
    refine ok_iaload dX6_plain_21 (by decide) rp_k165 b10 rfl ?_
    refine ok_istore_n dX6_plain_22 rfl (by decide) rfl ?_
    refine ok_aload_n dX6_plain_23 rfl rfl ?_
    refine ok_getR (j := 156) dX6_plain_24 fX6_plain_7 (by decide) rp_k155 rfl (by decide) ?_
    refine ok_iconst (v := 1) dX6_plain_27 (by decide) ?_
    refine ok_iaload (j := 1) dX6_plain_28 (by decide) rp_k156 (rp_vi (by decide)) (by decide) ?_
    refine ok_aload_n dX6_plain_29 rfl rfl ?_
    refine ok_getR (j := 156) dX6_plain_30 fX6_plain_7 (by decide) rp_k155 rfl (by decide) ?_
    refine ok_iconst (v := 2) dX6_plain_33 (by decide) ?_
    refine ok_iaload (j := 2) dX6_plain_34 (by decide) rp_k156 (rp_vi (by decide)) (by decide) ?_
    refine ok_iload_n dX6_plain_35 rfl rfl ?_
    refine ok_imul dX6_plain_36 ?_
    refine ok_isub dX6_plain_37 ?_
    refine ok_istore_n dX6_plain_38 rfl (by decide) rfl ?_
    refine ok_iload_n dX6_plain_39 rfl rfl ?_
    refine ok_if_ge (tgt := 46) dX6_plain_40 (by decide) (fun c11 => ?_) (fun c11 => ?_)
    · replace h := h.1 c11
      refine ok_iconst (v := 0) dX6_plain_46 (by decide) ?_
      refine ok_istore dX6_plain_47 (by decide) rfl ?_
      refine ok_iconst (v := 0) dX6_plain_49 (by decide) ?_
      refine ok_istore dX6_plain_50 (by decide) rfl ?_
      exact ok_mask [true, false, true, true, true, true, false, false, false] h
    · replace h := h.2 c11
      refine ok_bipush (v := (-6)) dX6_plain_43 (by decide) ?_
      exact ok_ireturn dX6_plain_45 rfl h
  · replace h := h.2 c9
    refine ok_iconst (v := (-1)) dX6_plain_14 (by decide) ?_
    exact ok_ireturn dX6_plain_15 rfl h
theorem vX6_plain_52 (E : rp_E) (post : Option Int32 → rp_M → Prop) (M : rp_M) (l2 : Int32) (l3 : Int32) (l4 : Int32) (l5 : Int32) (h : ∃ v12 M13, rp_C E YX6_sets [.ref 155] M (some v12) M13 ∧ ((v12 ≤ l5 → (post (some l4) M13)) ∧ (¬ v12 ≤ l5 → (rp_G E YX6_plain post 67 [.ref 155, .null, .int l2, .int l3, .int l4, .int l5, .int 0, .int 0, .null] [] M13)))) : rp_G E YX6_plain post 52 [.ref 155, .null, .int l2, .int l3, .int l4, .int l5, .null, .null, .null] [] M := by
  refine ok_iload dX6_plain_52 rfl ?_
  refine ok_aload_n dX6_plain_54 rfl rfl ?_
  obtain ⟨v12, M13, r14, h⟩ := h
  refine ok_callV2 dX6_plain_55 kX6_plain_132 r14 (by decide) rp_k155 rfl rfl (Nat.le_of_ble_eq_true rfl) ?_
  rintro _ _ ⟨rfl, rfl⟩
  refine ok_icmp_ge (tgt := 179) dX6_plain_58 (by decide) (fun c15 => ?_) (fun c15 => ?_)
  · replace h := h.1 c15
    refine ok_iload dX6_plain_179 rfl ?_
    exact ok_ireturn dX6_plain_181 rfl h
  · replace h := h.2 c15
    refine ok_iconst (v := 0) dX6_plain_61 (by decide) ?_
    refine ok_istore dX6_plain_62 (by decide) rfl ?_
    refine ok_iconst (v := 0) dX6_plain_64 (by decide) ?_
    refine ok_istore dX6_plain_65 (by decide) rfl ?_
    exact ok_mask [true, false, true, true, true, true, true, true, false] h
theorem vX6_plain_67 (E : rp_E) (post : Option Int32 → rp_M → Prop) (M : rp_M) (l2 : Int32) (l3 : Int32) (l4 : Int32) (l5 : Int32) (l6 : Int32) (l7 : Int32) (h : ((M 156 0) ≤ l7 → (∃ v17 M18, rp_C E YX6_sum [.ref 155, .int l5, .int 0] M (some v17) M18 ∧ ((l3 < l6 → (rp_G E YX6_plain post 52 [.ref 155, .null, .int l2, .int l3, .int l4, .int (l5 + 1), .null, .null, .null] [] M18)) ∧ (¬ l3 < l6 → ((v17 ≤ l4 → (rp_G E YX6_plain post 52 [.ref 155, .null, .int l2, .int l3, .int l4, .int (l5 + 1), .null, .null, .null] [] M18)) ∧ (¬ v17 ≤ l4 → (∃ v22 M23, rp_C E YX6_isAllowed [.ref 155, .int l5] M18 (some v22) M23 ∧ ((v22 = 0 → (rp_G E YX6_plain post 52 [.ref 155, .null, .int l2, .int l3, .int l4, .int (l5 + 1), .null, .null, .null] [] M23)) ∧ (¬ v22 = 0 → (rp_G E YX6_plain post 52 [.ref 155, .null, .int l2, .int l3, .int v17, .int (l5 + 1), .null, .null, .null] [] M23)))))))))) ∧ (¬ (M 156 0) ≤ l7 → (∃ v26 M27, rp_C E YX6_of [.ref 155, .int l7, .int 2] M (some v26) M27 ∧ (∃ v29 M30, rp_C E YX6_has [.int l5, .int l7] M27 (some v29) M30 ∧ ((v29 = 0 → (rp_G E YX6_plain post 67 [.ref 155, .null, .int l2, .int l3, .int l4, .int l5, .int (l6 + 0), .int (l7 + 1), .null] [] M30)) ∧ (¬ v29 = 0 → (∃ v33 M34, rp_C E YX6_of [.ref 155, .int l7, .int 1] M30 (some v33) M34 ∧ (((v26 - l2) ≤ 0 → (rp_G E YX6_plain post 67 [.ref 155, .null, .int l2, .int l3, .int l4, .int l5, .int (l6 + (v33 + 0)), .int (l7 + 1), .null] [] M34)) ∧ (¬ (v26 - l2) ≤ 0 → (rp_G E YX6_plain post 67 [.ref 155, .null, .int l2, .int l3, .int l4, .int l5, .int (l6 + (v33 + (v26 - l2))), .int (l7 + 1), .null] [] M34)))))))))) : rp_G E YX6_plain post 67 [.ref 155, .null, .int l2, .int l3, .int l4, .int l5, .int l6, .int l7, .null] [] M := by
  refine ok_iload dX6_plain_67 rfl ?_
  refine ok_aload_n dX6_plain_69 rfl rfl ?_
  refine ok_getR (j := 156) dX6_plain_70 fX6_plain_7 (by decide) rp_k155 rfl (by decide) ?_
  refine ok_iconst (v := 0) dX6_plain_73 (by decide) ?_
  refine ok_iaload (j := 0) dX6_plain_74 (by decide) rp_k156 (rp_vi (by decide)) (by decide) ?_
  refine ok_icmp_ge (tgt := 133) dX6_plain_75 (by decide) (fun c16 => ?_) (fun c16 => ?_)
  · replace h := h.1 c16
    refine ok_aload_n dX6_plain_133 rfl rfl ?_
    refine ok_iload dX6_plain_134 rfl ?_
    refine ok_iconst (v := 0) dX6_plain_136 (by decide) ?_
    obtain ⟨v17, M18, r19, h⟩ := h
    refine ok_callV2 dX6_plain_137 kX6_plain_125 r19 (by decide) rp_k155 rfl rfl (Nat.le_of_ble_eq_true rfl) ?_
    rintro _ _ ⟨rfl, rfl⟩
    refine ok_istore dX6_plain_140 (by decide) rfl ?_
    refine ok_iload dX6_plain_142 rfl ?_
    refine ok_iload_n dX6_plain_144 rfl rfl ?_
    refine ok_icmp_gt (tgt := 169) dX6_plain_145 (by decide) (fun c20 => ?_) (fun c20 => ?_)
    · replace h := h.1 c20
      refine ok_iload dX6_plain_169 rfl ?_
      refine ok_istore dX6_plain_171 (by decide) rfl ?_
      refine ok_iinc2 (w := 1) dX6_plain_173 rfl (by decide) (by decide) rfl ?_
      refine ok_goto (tgt := 52) dX6_plain_176 (by decide) ?_
      exact ok_mask [true, false, true, true, true, true, false, false, false] h
    · replace h := h.2 c20
      refine ok_iload dX6_plain_148 rfl ?_
      refine ok_iload dX6_plain_150 rfl ?_
      refine ok_icmp_le (tgt := 169) dX6_plain_152 (by decide) (fun c21 => ?_) (fun c21 => ?_)
      · replace h := h.1 c21
        refine ok_iload dX6_plain_169 rfl ?_
        refine ok_istore dX6_plain_171 (by decide) rfl ?_
        refine ok_iinc2 (w := 1) dX6_plain_173 rfl (by decide) (by decide) rfl ?_
        refine ok_goto (tgt := 52) dX6_plain_176 (by decide) ?_
        exact ok_mask [true, false, true, true, true, true, false, false, false] h
      · replace h := h.2 c21
        refine ok_aload_n dX6_plain_155 rfl rfl ?_
        refine ok_iload dX6_plain_156 rfl ?_
        obtain ⟨v22, M23, r24, h⟩ := h
        refine ok_callV2 dX6_plain_158 kX6_plain_135 r24 (by decide) rp_k155 rfl rfl (Nat.le_of_ble_eq_true rfl) ?_
        rintro _ _ ⟨rfl, rfl⟩
        refine ok_if_eq (tgt := 169) dX6_plain_161 (by decide) (fun c25 => ?_) (fun c25 => ?_)
        · replace h := h.1 c25
          refine ok_iload dX6_plain_169 rfl ?_
          refine ok_istore dX6_plain_171 (by decide) rfl ?_
          refine ok_iinc2 (w := 1) dX6_plain_173 rfl (by decide) (by decide) rfl ?_
          refine ok_goto (tgt := 52) dX6_plain_176 (by decide) ?_
          exact ok_mask [true, false, true, true, true, true, false, false, false] h
        · replace h := h.2 c25
          refine ok_iload dX6_plain_164 rfl ?_
          refine ok_goto (tgt := 171) dX6_plain_166 (by decide) ?_
          refine ok_istore dX6_plain_171 (by decide) rfl ?_
          refine ok_iinc2 (w := 1) dX6_plain_173 rfl (by decide) (by decide) rfl ?_
          refine ok_goto (tgt := 52) dX6_plain_176 (by decide) ?_
          exact ok_mask [true, false, true, true, true, true, false, false, false] h
  · replace h := h.2 c16
    refine ok_aload_n dX6_plain_78 rfl rfl ?_
    refine ok_iload dX6_plain_79 rfl ?_
    refine ok_iconst (v := 2) dX6_plain_81 (by decide) ?_
    obtain ⟨v26, M27, r28, h⟩ := h
    refine ok_callV2 dX6_plain_82 kX6_plain_72 r28 (by decide) rp_k155 rfl rfl (Nat.le_of_ble_eq_true rfl) ?_
    rintro _ _ ⟨rfl, rfl⟩
    refine ok_iload_n dX6_plain_85 rfl rfl ?_
    refine ok_isub dX6_plain_86 ?_
    refine ok_istore dX6_plain_87 (by decide) rfl ?_
    refine ok_iload dX6_plain_89 rfl ?_
    refine ok_iload dX6_plain_91 rfl ?_
    refine ok_iload dX6_plain_93 rfl ?_
    obtain ⟨v29, M30, r31, h⟩ := h
    refine ok_callS2 dX6_plain_95 kX6_plain_83 r31 rfl rfl (Nat.le_of_ble_eq_true rfl) ?_
    rintro _ _ ⟨rfl, rfl⟩
    refine ok_if_eq (tgt := 123) dX6_plain_98 (by decide) (fun c32 => ?_) (fun c32 => ?_)
    · replace h := h.1 c32
      refine ok_iconst (v := 0) dX6_plain_123 (by decide) ?_
      refine ok_iadd dX6_plain_124 ?_
      refine ok_istore dX6_plain_125 (by decide) rfl ?_
      refine ok_iinc2 (w := 1) dX6_plain_127 rfl (by decide) (by decide) rfl ?_
      refine ok_goto (tgt := 67) dX6_plain_130 (by decide) ?_
      exact ok_mask [true, false, true, true, true, true, true, true, false] h
    · replace h := h.2 c32
      refine ok_aload_n dX6_plain_101 rfl rfl ?_
      refine ok_iload dX6_plain_102 rfl ?_
      refine ok_iconst (v := 1) dX6_plain_104 (by decide) ?_
      obtain ⟨v33, M34, r35, h⟩ := h
      refine ok_callV2 dX6_plain_105 kX6_plain_72 r35 (by decide) rp_k155 rfl rfl (Nat.le_of_ble_eq_true rfl) ?_
      rintro _ _ ⟨rfl, rfl⟩
      refine ok_iload dX6_plain_108 rfl ?_
      refine ok_if_le (tgt := 118) dX6_plain_110 (by decide) (fun c36 => ?_) (fun c36 => ?_)
      · replace h := h.1 c36
        refine ok_iconst (v := 0) dX6_plain_118 (by decide) ?_
        refine ok_iadd dX6_plain_119 ?_
        refine ok_goto (tgt := 124) dX6_plain_120 (by decide) ?_
        refine ok_iadd dX6_plain_124 ?_
        refine ok_istore dX6_plain_125 (by decide) rfl ?_
        refine ok_iinc2 (w := 1) dX6_plain_127 rfl (by decide) (by decide) rfl ?_
        refine ok_goto (tgt := 67) dX6_plain_130 (by decide) ?_
        exact ok_mask [true, false, true, true, true, true, true, true, false] h
      · replace h := h.2 c36
        refine ok_iload dX6_plain_113 rfl ?_
        refine ok_goto (tgt := 119) dX6_plain_115 (by decide) ?_
        refine ok_iadd dX6_plain_119 ?_
        refine ok_goto (tgt := 124) dX6_plain_120 (by decide) ?_
        refine ok_iadd dX6_plain_124 ?_
        refine ok_istore dX6_plain_125 (by decide) rfl ?_
        refine ok_iinc2 (w := 1) dX6_plain_127 rfl (by decide) (by decide) rfl ?_
        refine ok_goto (tgt := 67) dX6_plain_130 (by decide) ?_
        exact ok_mask [true, false, true, true, true, true, true, true, false] h
theorem vX6_layRests (E : rp_E) (post : Option Int32 → rp_M → Prop) (M : rp_M) (l1 : Int32) (l2 : Int32) (h : ∀ M1, M1 = rp_s M 155 20 0 → (rp_G E YX6_layRests post 7 [.ref 155, .int l1, .int l2, .int 0] [] M1)) : rp_Run E YX6_layRests [.ref 155, .int l1, .int l2] M post := by
  refine ok_start (by decide) oX6_layRests (Nat.le_of_ble_eq_true rfl) ?_
  refine ok_aload_n dX6_layRests_0 rfl rfl ?_
  refine ok_iconst (v := 0) dX6_layRests_1 (by decide) ?_
  refine ok_put dX6_layRests_2 pX6_layRests_194 (by decide) rp_k155 rfl rfl rfl ?_
  replace h := h _ rfl
  refine ok_iconst (v := 0) dX6_layRests_5 (by decide) ?_
  refine ok_istore_n dX6_layRests_6 rfl (by decide) rfl ?_
  exact ok_mask [true, true, true, true] h
theorem vX6_layRests_7 (E : rp_E) (post : Option Int32 → rp_M → Prop) (M : rp_M) (l1 : Int32) (l2 : Int32) (l3 : Int32) (h : ∃ v2 M3, rp_C E YX6_sets [.ref 155] M (some v2) M3 ∧ ((v2 ≤ l3 → (post none M3)) ∧ (¬ v2 ≤ l3 → (∃ v6 M7, rp_C E YX6_sum [.ref 155, .int l3, .int 2] M3 (some v6) M7 ∧ (vp_in l3 4096 ∧ (∀ M10, M10 = rp_s M7 169 (Int32.toNatClampNeg l3) v6 → ((¬ (l3 &&& (l1 ^^^ (-1))) = 0 → (rp_G E YX6_layRests post 7 [.ref 155, .int l1, .int l2, .int (l3 + 1)] [] M10)) ∧ ((l3 &&& (l1 ^^^ (-1))) = 0 → (∃ v12 M13, rp_C E YX6_sizeOf [.int (l1 ^^^ l3)] M10 (some v12) M13 ∧ ((l2 < v12 → (rp_G E YX6_layRests post 7 [.ref 155, .int l1, .int l2, .int (l3 + 1)] [] M13)) ∧ (¬ l2 < v12 → (∃ v16 M17, rp_C E YX6_isAllowed [.ref 155, .int l3] M13 (some v16) M17 ∧ ((v16 = 0 → (rp_G E YX6_layRests post 7 [.ref 155, .int l1, .int l2, .int (l3 + 1)] [] M17)) ∧ (¬ v16 = 0 → (vp_in (M17 155 20) 4096 ∧ (∀ M21, M21 = rp_s M17 166 (Int32.toNatClampNeg (M17 155 20)) l3 → (∃ v22 M23, rp_C E YX6_sum [.ref 155, .int l3, .int 1] M21 (some v22) M23 ∧ (vp_in (M21 155 20) 4096 ∧ (∀ M26, M26 = rp_s M23 167 (Int32.toNatClampNeg (M21 155 20)) v22 → (∃ v27 M28, rp_C E YX6_sum [.ref 155, .int l3, .int 0] M26 (some v27) M28 ∧ (vp_in (M26 155 20) 4096 ∧ (∀ M31, M31 = rp_s M28 168 (Int32.toNatClampNeg (M26 155 20)) v27 → (∀ M32, M32 = rp_s M31 155 20 ((M31 155 20) + 1) → (rp_G E YX6_layRests post 7 [.ref 155, .int l1, .int l2, .int (l3 + 1)] [] M32)))))))))))))))))))))))) : rp_G E YX6_layRests post 7 [.ref 155, .int l1, .int l2, .int l3] [] M := by
  refine ok_iload_n dX6_layRests_7 rfl rfl ?_
  refine ok_aload_n dX6_layRests_8 rfl rfl ?_
  obtain ⟨v2, M3, r4, h⟩ := h
  refine ok_callV2 dX6_layRests_9 kX6_layRests_132 r4 (by decide) rp_k155 rfl rfl (Nat.le_of_ble_eq_true rfl) ?_
  rintro _ _ ⟨rfl, rfl⟩
  refine ok_icmp_ge (tgt := 109) dX6_layRests_12 (by decide) (fun c5 => ?_) (fun c5 => ?_)
  · replace h := h.1 c5
    exact ok_return dX6_layRests_109 rfl h
  · replace h := h.2 c5
    refine ok_aload_n dX6_layRests_15 rfl rfl ?_
    refine ok_getR (j := 169) dX6_layRests_16 fX6_layRests_50 (by decide) rp_k155 rfl (by decide) ?_
    refine ok_iload_n dX6_layRests_19 rfl rfl ?_
    refine ok_aload_n dX6_layRests_20 rfl rfl ?_
    refine ok_iload_n dX6_layRests_21 rfl rfl ?_
    refine ok_iconst (v := 2) dX6_layRests_22 (by decide) ?_
    obtain ⟨v6, M7, r8, h⟩ := h
    refine ok_callV2 dX6_layRests_23 kX6_layRests_125 r8 (by decide) rp_k155 rfl rfl (Nat.le_of_ble_eq_true rfl) ?_
    rintro _ _ ⟨rfl, rfl⟩
    have b9 := h.1
    replace h := h.2
    refine ok_iastore dX6_layRests_26 (by decide) rp_k169 b9 rfl ?_
    replace h := h _ rfl
    refine ok_iload_n dX6_layRests_27 rfl rfl ?_
    refine ok_iload_n dX6_layRests_28 rfl rfl ?_
    refine ok_iconst (v := (-1)) dX6_layRests_29 (by decide) ?_
    refine ok_ixor dX6_layRests_30 ?_
    refine ok_iand dX6_layRests_31 ?_
    refine ok_if_ne (tgt := 103) dX6_layRests_32 (by decide) (fun c11 => ?_) (fun c11 => ?_)
    · replace h := h.1 c11
      refine ok_iinc2 (w := 1) dX6_layRests_103 rfl (by decide) (by decide) rfl ?_
      refine ok_goto (tgt := 7) dX6_layRests_106 (by decide) ?_
      exact ok_mask [true, true, true, true] h
    · replace h := h.2 c11
      refine ok_iload_n dX6_layRests_35 rfl rfl ?_
      refine ok_iload_n dX6_layRests_36 rfl rfl ?_
      refine ok_ixor dX6_layRests_37 ?_
      obtain ⟨v12, M13, r14, h⟩ := h
      refine ok_callS2 dX6_layRests_38 kX6_layRests_155 r14 rfl rfl (Nat.le_of_ble_eq_true rfl) ?_
      rintro _ _ ⟨rfl, rfl⟩
      refine ok_iload_n dX6_layRests_41 rfl rfl ?_
      refine ok_icmp_gt (tgt := 103) dX6_layRests_42 (by decide) (fun c15 => ?_) (fun c15 => ?_)
      · replace h := h.1 c15
        refine ok_iinc2 (w := 1) dX6_layRests_103 rfl (by decide) (by decide) rfl ?_
        refine ok_goto (tgt := 7) dX6_layRests_106 (by decide) ?_
        exact ok_mask [true, true, true, true] h
      · replace h := h.2 c15
        refine ok_aload_n dX6_layRests_45 rfl rfl ?_
        refine ok_iload_n dX6_layRests_46 rfl rfl ?_
        obtain ⟨v16, M17, r18, h⟩ := h
        refine ok_callV2 dX6_layRests_47 kX6_layRests_135 r18 (by decide) rp_k155 rfl rfl (Nat.le_of_ble_eq_true rfl) ?_
        rintro _ _ ⟨rfl, rfl⟩
        refine ok_if_eq (tgt := 103) dX6_layRests_50 (by decide) (fun c19 => ?_) (fun c19 => ?_)
        · replace h := h.1 c19
          refine ok_iinc2 (w := 1) dX6_layRests_103 rfl (by decide) (by decide) rfl ?_
          refine ok_goto (tgt := 7) dX6_layRests_106 (by decide) ?_
          exact ok_mask [true, true, true, true] h
        · replace h := h.2 c19
          refine ok_aload_n dX6_layRests_53 rfl rfl ?_
          refine ok_getR (j := 166) dX6_layRests_54 fX6_layRests_41 (by decide) rp_k155 rfl (by decide) ?_
          refine ok_aload_n dX6_layRests_57 rfl rfl ?_
          refine ok_getI dX6_layRests_58 fX6_layRests_194 (by decide) rp_k155 rfl ?_
          refine ok_iload_n dX6_layRests_61 rfl rfl ?_
          have b20 := h.1
          replace h := h.2
          refine ok_iastore dX6_layRests_62 (by decide) rp_k166 b20 rfl ?_
          replace h := h _ rfl
          refine ok_aload_n dX6_layRests_63 rfl rfl ?_
          refine ok_getR (j := 167) dX6_layRests_64 fX6_layRests_44 (by decide) rp_k155 rfl (by decide) ?_
          refine ok_aload_n dX6_layRests_67 rfl rfl ?_
          refine ok_getI dX6_layRests_68 fX6_layRests_194 (by decide) rp_k155 rfl ?_
          refine ok_aload_n dX6_layRests_71 rfl rfl ?_
          refine ok_iload_n dX6_layRests_72 rfl rfl ?_
          refine ok_iconst (v := 1) dX6_layRests_73 (by decide) ?_
          obtain ⟨v22, M23, r24, h⟩ := h
          refine ok_callV2 dX6_layRests_74 kX6_layRests_125 r24 (by decide) rp_k155 rfl rfl (Nat.le_of_ble_eq_true rfl) ?_
          rintro _ _ ⟨rfl, rfl⟩
          have b25 := h.1
          replace h := h.2
          refine ok_iastore dX6_layRests_77 (by decide) rp_k167 b25 rfl ?_
          replace h := h _ rfl
          refine ok_aload_n dX6_layRests_78 rfl rfl ?_
          refine ok_getR (j := 168) dX6_layRests_79 fX6_layRests_47 (by decide) rp_k155 rfl (by decide) ?_
          refine ok_aload_n dX6_layRests_82 rfl rfl ?_
          refine ok_getI dX6_layRests_83 fX6_layRests_194 (by decide) rp_k155 rfl ?_
          refine ok_aload_n dX6_layRests_86 rfl rfl ?_
          refine ok_iload_n dX6_layRests_87 rfl rfl ?_
          refine ok_iconst (v := 0) dX6_layRests_88 (by decide) ?_
          obtain ⟨v27, M28, r29, h⟩ := h
          refine ok_callV2 dX6_layRests_89 kX6_layRests_125 r29 (by decide) rp_k155 rfl rfl (Nat.le_of_ble_eq_true rfl) ?_
          rintro _ _ ⟨rfl, rfl⟩
          have b30 := h.1
          replace h := h.2
          refine ok_iastore dX6_layRests_92 (by decide) rp_k168 b30 rfl ?_
          replace h := h _ rfl
          refine ok_aload_n dX6_layRests_93 rfl rfl ?_
          refine ok_dup dX6_layRests_94 rfl ?_
          refine ok_getI dX6_layRests_95 fX6_layRests_194 (by decide) rp_k155 rfl ?_
          refine ok_iconst (v := 1) dX6_layRests_98 (by decide) ?_
          refine ok_iadd dX6_layRests_99 ?_
          refine ok_put dX6_layRests_100 pX6_layRests_194 (by decide) rp_k155 rfl rfl rfl ?_
          replace h := h _ rfl
          refine ok_iinc2 (w := 1) dX6_layRests_103 rfl (by decide) (by decide) rfl ?_
          refine ok_goto (tgt := 7) dX6_layRests_106 (by decide) ?_
          exact ok_mask [true, true, true, true] h
theorem vX6_recoveredBy (E : rp_E) (post : Option Int32 → rp_M → Prop) (M : rp_M) (l1 : Int32) (h : rp_G E YX6_recoveredBy post 5 [.ref 155, .int l1, .int (-6), .int 0] [] M) : rp_Run E YX6_recoveredBy [.ref 155, .int l1] M post := by
  refine ok_start (by decide) oX6_recoveredBy (Nat.le_of_ble_eq_true rfl) ?_
  refine ok_bipush (v := (-6)) dX6_recoveredBy_0 (by decide) ?_
  refine ok_istore_n dX6_recoveredBy_2 rfl (by decide) rfl ?_
  refine ok_iconst (v := 0) dX6_recoveredBy_3 (by decide) ?_
  refine ok_istore_n dX6_recoveredBy_4 rfl (by decide) rfl ?_
  exact ok_mask [true, true, true, true] h
theorem vX6_recoveredBy_5 (E : rp_E) (post : Option Int32 → rp_M → Prop) (M : rp_M) (l1 : Int32) (l2 : Int32) (l3 : Int32) (h : ((M 155 20) ≤ l3 → (post (some l2) M)) ∧ (¬ (M 155 20) ≤ l3 → (vp_in l3 4096 ∧ (((M 168 (Int32.toNatClampNeg l3)) ≤ l2 → (rp_G E YX6_recoveredBy post 5 [.ref 155, .int l1, .int l2, .int (l3 + 1)] [] M)) ∧ (¬ (M 168 (Int32.toNatClampNeg l3)) ≤ l2 → (vp_in (l1 &&& (M 166 (Int32.toNatClampNeg l3))) 4096 ∧ (((M 156 1) < ((M 167 (Int32.toNatClampNeg l3)) + (M 169 (Int32.toNatClampNeg (l1 &&& (M 166 (Int32.toNatClampNeg l3)))))) → (rp_G E YX6_recoveredBy post 5 [.ref 155, .int l1, .int l2, .int (l3 + 1)] [] M)) ∧ (¬ (M 156 1) < ((M 167 (Int32.toNatClampNeg l3)) + (M 169 (Int32.toNatClampNeg (l1 &&& (M 166 (Int32.toNatClampNeg l3)))))) → (rp_G E YX6_recoveredBy post 5 [.ref 155, .int l1, .int (M 168 (Int32.toNatClampNeg l3)), .int (l3 + 1)] [] M))))))))) : rp_G E YX6_recoveredBy post 5 [.ref 155, .int l1, .int l2, .int l3] [] M := by
  refine ok_iload_n dX6_recoveredBy_5 rfl rfl ?_
  refine ok_aload_n dX6_recoveredBy_6 rfl rfl ?_
  refine ok_getI dX6_recoveredBy_7 fX6_recoveredBy_194 (by decide) rp_k155 rfl ?_
  refine ok_icmp_ge (tgt := 65) dX6_recoveredBy_10 (by decide) (fun c1 => ?_) (fun c1 => ?_)
  · replace h := h.1 c1
    refine ok_iload_n dX6_recoveredBy_65 rfl rfl ?_
    exact ok_ireturn dX6_recoveredBy_66 rfl h
  · replace h := h.2 c1
    refine ok_aload_n dX6_recoveredBy_13 rfl rfl ?_
    refine ok_getR (j := 168) dX6_recoveredBy_14 fX6_recoveredBy_47 (by decide) rp_k155 rfl (by decide) ?_
    refine ok_iload_n dX6_recoveredBy_17 rfl rfl ?_
    have b2 := h.1
    replace h := h.2
    refine ok_iaload dX6_recoveredBy_18 (by decide) rp_k168 b2 rfl ?_
    refine ok_iload_n dX6_recoveredBy_19 rfl rfl ?_
    refine ok_icmp_le (tgt := 59) dX6_recoveredBy_20 (by decide) (fun c3 => ?_) (fun c3 => ?_)
    · replace h := h.1 c3
      refine ok_iinc2 (w := 1) dX6_recoveredBy_59 rfl (by decide) (by decide) rfl ?_
      refine ok_goto (tgt := 5) dX6_recoveredBy_62 (by decide) ?_
      exact ok_mask [true, true, true, true] h
    · replace h := h.2 c3
      refine ok_aload_n dX6_recoveredBy_23 rfl rfl ?_
      refine ok_getR (j := 167) dX6_recoveredBy_24 fX6_recoveredBy_44 (by decide) rp_k155 rfl (by decide) ?_
      refine ok_iload_n dX6_recoveredBy_27 rfl rfl ?_
      refine ok_iaload dX6_recoveredBy_28 (by decide) rp_k167 b2 rfl ?_
      refine ok_aload_n dX6_recoveredBy_29 rfl rfl ?_
      refine ok_getR (j := 169) dX6_recoveredBy_30 fX6_recoveredBy_50 (by decide) rp_k155 rfl (by decide) ?_
      refine ok_iload_n dX6_recoveredBy_33 rfl rfl ?_
      refine ok_aload_n dX6_recoveredBy_34 rfl rfl ?_
      refine ok_getR (j := 166) dX6_recoveredBy_35 fX6_recoveredBy_41 (by decide) rp_k155 rfl (by decide) ?_
      refine ok_iload_n dX6_recoveredBy_38 rfl rfl ?_
      refine ok_iaload dX6_recoveredBy_39 (by decide) rp_k166 b2 rfl ?_
      refine ok_iand dX6_recoveredBy_40 ?_
      have b4 := h.1
      replace h := h.2
      refine ok_iaload dX6_recoveredBy_41 (by decide) rp_k169 b4 rfl ?_
      refine ok_iadd dX6_recoveredBy_42 ?_
      refine ok_aload_n dX6_recoveredBy_43 rfl rfl ?_
      refine ok_getR (j := 156) dX6_recoveredBy_44 fX6_recoveredBy_7 (by decide) rp_k155 rfl (by decide) ?_
      refine ok_iconst (v := 1) dX6_recoveredBy_47 (by decide) ?_
      refine ok_iaload (j := 1) dX6_recoveredBy_48 (by decide) rp_k156 (rp_vi (by decide)) (by decide) ?_
      refine ok_icmp_gt (tgt := 59) dX6_recoveredBy_49 (by decide) (fun c5 => ?_) (fun c5 => ?_)
      · replace h := h.1 c5
        refine ok_iinc2 (w := 1) dX6_recoveredBy_59 rfl (by decide) (by decide) rfl ?_
        refine ok_goto (tgt := 5) dX6_recoveredBy_62 (by decide) ?_
        exact ok_mask [true, true, true, true] h
      · replace h := h.2 c5
        refine ok_aload_n dX6_recoveredBy_52 rfl rfl ?_
        refine ok_getR (j := 168) dX6_recoveredBy_53 fX6_recoveredBy_47 (by decide) rp_k155 rfl (by decide) ?_
        refine ok_iload_n dX6_recoveredBy_56 rfl rfl ?_
        refine ok_iaload dX6_recoveredBy_57 (by decide) rp_k168 b2 rfl ?_
        refine ok_istore_n dX6_recoveredBy_58 rfl (by decide) rfl ?_
        refine ok_iinc2 (w := 1) dX6_recoveredBy_59 rfl (by decide) (by decide) rfl ?_
        refine ok_goto (tgt := 5) dX6_recoveredBy_62 (by decide) ?_
        exact ok_mask [true, true, true, true] h
theorem vX6_recovered (E : rp_E) (post : Option Int32 → rp_M → Prop) (M : rp_M) (l1 : Int32) (l2 : Int32) (l3 : Int32) (h : ∃ v1 M2, rp_C E YX6_isChoice [.ref 155, .int l1] M (some v1) M2 ∧ ((v1 = 0 → (post (some (-1)) M2)) ∧ (¬ v1 = 0 → (∃ v5 M6, rp_C E YX6_isChoice [.ref 155, .int l2] M2 (some v5) M6 ∧ ((¬ v5 = 0 → (∃ v9 M10, rp_C E YX6_in [.int l3, .int 0, .int 12] M6 (some v9) M10 ∧ ((¬ v9 = 0 → (∃ v13 M14, rp_C E YX6_sizeOf [.int l2] M10 (some v13) M14 ∧ ((v13 ≤ (M14 156 2) → (∃ P19 : rp_M → Prop, rp_Run E YX6_layRests [.ref 155, .int l1, .int l3] M14 (rp_P0 P19) ∧ (∀ M17, P19 M17 → (∃ v21 M22, rp_C E YX6_recoveredBy [.ref 155, .int l2] M17 (some v21) M22 ∧ (post (some v21) M22))))) ∧ (¬ v13 ≤ (M14 156 2) → (post (some (-5)) M14))))) ∧ (v9 = 0 → (post (some (-2)) M10))))) ∧ (v5 = 0 → (post (some (-1)) M6))))))) : rp_Run E YX6_recovered [.ref 155, .int l1, .int l2, .int l3] M post := by
  refine ok_start (by decide) oX6_recovered (Nat.le_of_ble_eq_true rfl) ?_
  refine ok_aload_n dX6_recovered_0 rfl rfl ?_
  refine ok_iload_n dX6_recovered_1 rfl rfl ?_
  obtain ⟨v1, M2, r3, h⟩ := h
  refine ok_callV2 dX6_recovered_2 kX6_recovered_148 r3 (by decide) rp_k155 rfl rfl (Nat.le_of_ble_eq_true rfl) ?_
  rintro _ _ ⟨rfl, rfl⟩
  refine ok_if_eq (tgt := 16) dX6_recovered_5 (by decide) (fun c4 => ?_) (fun c4 => ?_)
  · replace h := h.1 c4
    refine ok_iconst (v := (-1)) dX6_recovered_16 (by decide) ?_
    exact ok_ireturn dX6_recovered_17 rfl h
  · replace h := h.2 c4
    refine ok_aload_n dX6_recovered_8 rfl rfl ?_
    refine ok_iload_n dX6_recovered_9 rfl rfl ?_
    obtain ⟨v5, M6, r7, h⟩ := h
    refine ok_callV2 dX6_recovered_10 kX6_recovered_148 r7 (by decide) rp_k155 rfl rfl (Nat.le_of_ble_eq_true rfl) ?_
    rintro _ _ ⟨rfl, rfl⟩
    refine ok_if_ne (tgt := 18) dX6_recovered_13 (by decide) (fun c8 => ?_) (fun c8 => ?_)
    · replace h := h.1 c8
      refine ok_iload_n dX6_recovered_18 rfl rfl ?_
      refine ok_iconst (v := 0) dX6_recovered_19 (by decide) ?_
      refine ok_bipush (v := 12) dX6_recovered_20 (by decide) ?_
      obtain ⟨v9, M10, r11, h⟩ := h
      refine ok_callS2 dX6_recovered_22 kX6_recovered_53 r11 rfl rfl (Nat.le_of_ble_eq_true rfl) ?_
      rintro _ _ ⟨rfl, rfl⟩
      refine ok_if_ne (tgt := 31) dX6_recovered_25 (by decide) (fun c12 => ?_) (fun c12 => ?_)
      · replace h := h.1 c12
        refine ok_iload_n dX6_recovered_31 rfl rfl ?_
        obtain ⟨v13, M14, r15, h⟩ := h
        refine ok_callS2 dX6_recovered_32 kX6_recovered_155 r15 rfl rfl (Nat.le_of_ble_eq_true rfl) ?_
        rintro _ _ ⟨rfl, rfl⟩
        refine ok_aload_n dX6_recovered_35 rfl rfl ?_
        refine ok_getR (j := 156) dX6_recovered_36 fX6_recovered_7 (by decide) rp_k155 rfl (by decide) ?_
        refine ok_iconst (v := 2) dX6_recovered_39 (by decide) ?_
        refine ok_iaload (j := 2) dX6_recovered_40 (by decide) rp_k156 (rp_vi (by decide)) (by decide) ?_
        refine ok_icmp_le (tgt := 47) dX6_recovered_41 (by decide) (fun c16 => ?_) (fun c16 => ?_)
        · replace h := h.1 c16
          refine ok_aload_n dX6_recovered_47 rfl rfl ?_
          refine ok_iload_n dX6_recovered_48 rfl rfl ?_
          refine ok_iload_n dX6_recovered_49 rfl rfl ?_
          obtain ⟨P19, r18, h⟩ := h
          refine ok_callV2 dX6_recovered_50 kX6_recovered_197 r18 (by decide) rp_k155 rfl rfl (Nat.le_of_ble_eq_true rfl) ?_
          rintro _ M17 ⟨rfl, q20⟩
          replace h := h M17 q20
          refine ok_aload_n dX6_recovered_53 rfl rfl ?_
          refine ok_iload_n dX6_recovered_54 rfl rfl ?_
          obtain ⟨v21, M22, r23, h⟩ := h
          refine ok_callV2 dX6_recovered_55 kX6_recovered_200 r23 (by decide) rp_k155 rfl rfl (Nat.le_of_ble_eq_true rfl) ?_
          rintro _ _ ⟨rfl, rfl⟩
          exact ok_ireturn dX6_recovered_58 rfl h
        · replace h := h.2 c16
          refine ok_bipush (v := (-5)) dX6_recovered_44 (by decide) ?_
          exact ok_ireturn dX6_recovered_46 rfl h
      · replace h := h.2 c12
        refine ok_bipush (v := (-2)) dX6_recovered_28 (by decide) ?_
        exact ok_ireturn dX6_recovered_30 rfl h
    · replace h := h.2 c8
      refine ok_iconst (v := (-1)) dX6_recovered_16 (by decide) ?_
      exact ok_ireturn dX6_recovered_17 rfl h
theorem vX6_adversary (E : rp_E) (post : Option Int32 → rp_M → Prop) (M : rp_M) (l1 : Int32) (l2 : Int32) (l3 : Int32) (h : ∃ v1 M2, rp_C E YX6_isChoice [.ref 155, .int l1] M (some v1) M2 ∧ ((¬ v1 = 0 → (∃ v5 M6, rp_C E YX6_in [.int l2, .int 0, .int 12] M2 (some v5) M6 ∧ ((v5 = 0 → (post (some (-2)) M6)) ∧ (¬ v5 = 0 → (∃ v9 M10, rp_C E YX6_in [.int l3, .int 0, .int 1] M6 (some v9) M10 ∧ ((¬ v9 = 0 → (∃ P15 : rp_M → Prop, rp_Run E YX6_layRests [.ref 155, .int l1, .int l2] M10 (rp_P0 P15) ∧ (∀ M13, P15 M13 → (∃ v17 M18, rp_C E YX6_recoveredBy [.ref 155, .int 0] M13 (some v17) M18 ∧ (rp_G E YX6_adversary post 51 [.ref 155, .int l1, .null, .int l3, .int v17, .int 0, .int 1, .null] [] M18))))) ∧ (v9 = 0 → (post (some (-2)) M10)))))))) ∧ (v1 = 0 → (post (some (-1)) M2)))) : rp_Run E YX6_adversary [.ref 155, .int l1, .int l2, .int l3] M post := by
  refine ok_start (by decide) oX6_adversary (Nat.le_of_ble_eq_true rfl) ?_
  refine ok_aload_n dX6_adversary_0 rfl rfl ?_
  refine ok_iload_n dX6_adversary_1 rfl rfl ?_
  obtain ⟨v1, M2, r3, h⟩ := h
  refine ok_callV2 dX6_adversary_2 kX6_adversary_148 r3 (by decide) rp_k155 rfl rfl (Nat.le_of_ble_eq_true rfl) ?_
  rintro _ _ ⟨rfl, rfl⟩
  refine ok_if_ne (tgt := 10) dX6_adversary_5 (by decide) (fun c4 => ?_) (fun c4 => ?_)
  · replace h := h.1 c4
    refine ok_iload_n dX6_adversary_10 rfl rfl ?_
    refine ok_iconst (v := 0) dX6_adversary_11 (by decide) ?_
    refine ok_bipush (v := 12) dX6_adversary_12 (by decide) ?_
    obtain ⟨v5, M6, r7, h⟩ := h
    refine ok_callS2 dX6_adversary_14 kX6_adversary_53 r7 rfl rfl (Nat.le_of_ble_eq_true rfl) ?_
    rintro _ _ ⟨rfl, rfl⟩
    refine ok_if_eq (tgt := 29) dX6_adversary_17 (by decide) (fun c8 => ?_) (fun c8 => ?_)
    · replace h := h.1 c8
      refine ok_bipush (v := (-2)) dX6_adversary_29 (by decide) ?_
      exact ok_ireturn dX6_adversary_31 rfl h
    · replace h := h.2 c8
      refine ok_iload_n dX6_adversary_20 rfl rfl ?_
      refine ok_iconst (v := 0) dX6_adversary_21 (by decide) ?_
      refine ok_iconst (v := 1) dX6_adversary_22 (by decide) ?_
      obtain ⟨v9, M10, r11, h⟩ := h
      refine ok_callS2 dX6_adversary_23 kX6_adversary_53 r11 rfl rfl (Nat.le_of_ble_eq_true rfl) ?_
      rintro _ _ ⟨rfl, rfl⟩
      refine ok_if_ne (tgt := 32) dX6_adversary_26 (by decide) (fun c12 => ?_) (fun c12 => ?_)
      · replace h := h.1 c12
        refine ok_aload_n dX6_adversary_32 rfl rfl ?_
        refine ok_iload_n dX6_adversary_33 rfl rfl ?_
        refine ok_iload_n dX6_adversary_34 rfl rfl ?_
        obtain ⟨P15, r14, h⟩ := h
        refine ok_callV2 dX6_adversary_35 kX6_adversary_197 r14 (by decide) rp_k155 rfl rfl (Nat.le_of_ble_eq_true rfl) ?_
        rintro _ M13 ⟨rfl, q16⟩
        replace h := h M13 q16
        refine ok_aload_n dX6_adversary_38 rfl rfl ?_
        refine ok_iconst (v := 0) dX6_adversary_39 (by decide) ?_
        obtain ⟨v17, M18, r19, h⟩ := h
        refine ok_callV2 dX6_adversary_40 kX6_adversary_200 r19 (by decide) rp_k155 rfl rfl (Nat.le_of_ble_eq_true rfl) ?_
        rintro _ _ ⟨rfl, rfl⟩
        refine ok_istore dX6_adversary_43 (by decide) rfl ?_
        refine ok_iconst (v := 0) dX6_adversary_45 (by decide) ?_
        refine ok_istore dX6_adversary_46 (by decide) rfl ?_
        refine ok_iconst (v := 1) dX6_adversary_48 (by decide) ?_
        refine ok_istore dX6_adversary_49 (by decide) rfl ?_
        exact ok_mask [true, true, false, true, true, true, true, false] h
      · replace h := h.2 c12
        refine ok_bipush (v := (-2)) dX6_adversary_29 (by decide) ?_
        exact ok_ireturn dX6_adversary_31 rfl h
  · replace h := h.2 c4
    refine ok_iconst (v := (-1)) dX6_adversary_8 (by decide) ?_
    exact ok_ireturn dX6_adversary_9 rfl h
theorem vX6_adversary_51 (E : rp_E) (post : Option Int32 → rp_M → Prop) (M : rp_M) (l1 : Int32) (l3 : Int32) (l4 : Int32) (l5 : Int32) (l6 : Int32) (h : ∃ v20 M21, rp_C E YX6_sets [.ref 155] M (some v20) M21 ∧ ((v20 ≤ l6 → ((¬ l3 = 0 → (post (some l5) M21)) ∧ (l3 = 0 → (post (some l4) M21)))) ∧ (¬ v20 ≤ l6 → ((¬ (l6 &&& (l1 ^^^ (-1))) = 0 → (rp_G E YX6_adversary post 51 [.ref 155, .int l1, .null, .int l3, .int l4, .int l5, .int (l6 + 1), .null] [] M21)) ∧ ((l6 &&& (l1 ^^^ (-1))) = 0 → (∃ v26 M27, rp_C E YX6_sizeOf [.int l6] M21 (some v26) M27 ∧ (((M27 156 2) < v26 → (rp_G E YX6_adversary post 51 [.ref 155, .int l1, .null, .int l3, .int l4, .int l5, .int (l6 + 1), .null] [] M27)) ∧ (¬ (M27 156 2) < v26 → ((l4 < 0 → (rp_G E YX6_adversary post 51 [.ref 155, .int l1, .null, .int l3, .int l4, .int l5, .int (l6 + 1), .null] [] M27)) ∧ (¬ l4 < 0 → (∃ v31 M32, rp_C E YX6_recoveredBy [.ref 155, .int l6] M27 (some v31) M32 ∧ ((l4 ≤ v31 → (rp_G E YX6_adversary post 51 [.ref 155, .int l1, .null, .int l3, .int l4, .int l5, .int (l6 + 1), .null] [] M32)) ∧ (¬ l4 ≤ v31 → (rp_G E YX6_adversary post 51 [.ref 155, .int l1, .null, .int l3, .int v31, .int l6, .int (l6 + 1), .null] [] M32)))))))))))))) : rp_G E YX6_adversary post 51 [.ref 155, .int l1, .null, .int l3, .int l4, .int l5, .int l6, .null] [] M := by
  refine ok_iload dX6_adversary_51 rfl ?_
  refine ok_aload_n dX6_adversary_53 rfl rfl ?_
  obtain ⟨v20, M21, r22, h⟩ := h
  refine ok_callV2 dX6_adversary_54 kX6_adversary_132 r22 (by decide) rp_k155 rfl rfl (Nat.le_of_ble_eq_true rfl) ?_
  rintro _ _ ⟨rfl, rfl⟩
  refine ok_icmp_ge (tgt := 117) dX6_adversary_57 (by decide) (fun c23 => ?_) (fun c23 => ?_)
  · replace h := h.1 c23
    refine ok_iload_n dX6_adversary_117 rfl rfl ?_
    refine ok_if_ne (tgt := 126) dX6_adversary_118 (by decide) (fun c24 => ?_) (fun c24 => ?_)
    · replace h := h.1 c24
      refine ok_iload dX6_adversary_126 rfl ?_
      exact ok_ireturn dX6_adversary_128 rfl h
    · replace h := h.2 c24
      refine ok_iload dX6_adversary_121 rfl ?_
      refine ok_goto (tgt := 128) dX6_adversary_123 (by decide) ?_
      exact ok_ireturn dX6_adversary_128 rfl h
  · replace h := h.2 c23
    refine ok_iload dX6_adversary_60 rfl ?_
    refine ok_iload_n dX6_adversary_62 rfl rfl ?_
    refine ok_iconst (v := (-1)) dX6_adversary_63 (by decide) ?_
    refine ok_ixor dX6_adversary_64 ?_
    refine ok_iand dX6_adversary_65 ?_
    refine ok_if_ne (tgt := 111) dX6_adversary_66 (by decide) (fun c25 => ?_) (fun c25 => ?_)
    · replace h := h.1 c25
      refine ok_iinc2 (w := 1) dX6_adversary_111 rfl (by decide) (by decide) rfl ?_
      refine ok_goto (tgt := 51) dX6_adversary_114 (by decide) ?_
      exact ok_mask [true, true, false, true, true, true, true, false] h
    · replace h := h.2 c25
      refine ok_iload dX6_adversary_69 rfl ?_
      obtain ⟨v26, M27, r28, h⟩ := h
      refine ok_callS2 dX6_adversary_71 kX6_adversary_155 r28 rfl rfl (Nat.le_of_ble_eq_true rfl) ?_
      rintro _ _ ⟨rfl, rfl⟩
      refine ok_aload_n dX6_adversary_74 rfl rfl ?_
      refine ok_getR (j := 156) dX6_adversary_75 fX6_adversary_7 (by decide) rp_k155 rfl (by decide) ?_
      refine ok_iconst (v := 2) dX6_adversary_78 (by decide) ?_
      refine ok_iaload (j := 2) dX6_adversary_79 (by decide) rp_k156 (rp_vi (by decide)) (by decide) ?_
      refine ok_icmp_gt (tgt := 111) dX6_adversary_80 (by decide) (fun c29 => ?_) (fun c29 => ?_)
      · replace h := h.1 c29
        refine ok_iinc2 (w := 1) dX6_adversary_111 rfl (by decide) (by decide) rfl ?_
        refine ok_goto (tgt := 51) dX6_adversary_114 (by decide) ?_
        exact ok_mask [true, true, false, true, true, true, true, false] h
      · replace h := h.2 c29
        refine ok_iload dX6_adversary_83 rfl ?_
        refine ok_if_lt (tgt := 111) dX6_adversary_85 (by decide) (fun c30 => ?_) (fun c30 => ?_)
        · replace h := h.1 c30
          refine ok_iinc2 (w := 1) dX6_adversary_111 rfl (by decide) (by decide) rfl ?_
          refine ok_goto (tgt := 51) dX6_adversary_114 (by decide) ?_
          exact ok_mask [true, true, false, true, true, true, true, false] h
        · replace h := h.2 c30
          refine ok_aload_n dX6_adversary_88 rfl rfl ?_
          refine ok_iload dX6_adversary_89 rfl ?_
          obtain ⟨v31, M32, r33, h⟩ := h
          refine ok_callV2 dX6_adversary_91 kX6_adversary_200 r33 (by decide) rp_k155 rfl rfl (Nat.le_of_ble_eq_true rfl) ?_
          rintro _ _ ⟨rfl, rfl⟩
          refine ok_istore dX6_adversary_94 (by decide) rfl ?_
          refine ok_iload dX6_adversary_96 rfl ?_
          refine ok_iload dX6_adversary_98 rfl ?_
          refine ok_icmp_ge (tgt := 111) dX6_adversary_100 (by decide) (fun c34 => ?_) (fun c34 => ?_)
          · replace h := h.1 c34
            refine ok_iinc2 (w := 1) dX6_adversary_111 rfl (by decide) (by decide) rfl ?_
            refine ok_goto (tgt := 51) dX6_adversary_114 (by decide) ?_
            exact ok_mask [true, true, false, true, true, true, true, false] h
          · replace h := h.2 c34
            refine ok_iload dX6_adversary_103 rfl ?_
            refine ok_istore dX6_adversary_105 (by decide) rfl ?_
            refine ok_iload dX6_adversary_107 rfl ?_
            refine ok_istore dX6_adversary_109 (by decide) rfl ?_
            refine ok_iinc2 (w := 1) dX6_adversary_111 rfl (by decide) (by decide) rfl ?_
            refine ok_goto (tgt := 51) dX6_adversary_114 (by decide) ?_
            exact ok_mask [true, true, false, true, true, true, true, false] h
theorem vX6_undo (E : rp_E) (post : Option Int32 → rp_M → Prop) (M : rp_M)  (h : (¬ (M 155 2) = 0 → (∀ M2, M2 = rp_s M 155 2 ((M 155 2) - 1) → (rp_G E YX6_undo post 22 [.ref 155, .int 0] [] M2))) ∧ ((M 155 2) = 0 → (post (some (-5)) M))) : rp_Run E YX6_undo [.ref 155] M post := by
  refine ok_start (by decide) oX6_undo (Nat.le_of_ble_eq_true rfl) ?_
  refine ok_aload_n dX6_undo_0 rfl rfl ?_
  refine ok_getI dX6_undo_1 fX6_undo_57 (by decide) rp_k155 rfl ?_
  refine ok_if_ne (tgt := 10) dX6_undo_4 (by decide) (fun c1 => ?_) (fun c1 => ?_)
  · replace h := h.1 c1
    refine ok_aload_n dX6_undo_10 rfl rfl ?_
    refine ok_dup dX6_undo_11 rfl ?_
    refine ok_getI dX6_undo_12 fX6_undo_57 (by decide) rp_k155 rfl ?_
    refine ok_iconst (v := 1) dX6_undo_15 (by decide) ?_
    refine ok_isub dX6_undo_16 ?_
    refine ok_put dX6_undo_17 pX6_undo_57 (by decide) rp_k155 rfl rfl rfl ?_
    replace h := h _ rfl
    refine ok_iconst (v := 0) dX6_undo_20 (by decide) ?_
    refine ok_istore_n dX6_undo_21 rfl (by decide) rfl ?_
    exact ok_mask [true, true] h
  · replace h := h.2 c1
    refine ok_bipush (v := (-5)) dX6_undo_7 (by decide) ?_
    exact ok_ireturn dX6_undo_9 rfl h
theorem vX6_undo_22 (E : rp_E) (post : Option Int32 → rp_M → Prop) (M : rp_M) (l1 : Int32) (h : (88 ≤ l1 → (post (some (M 155 2)) M)) ∧ (¬ 88 ≤ l1 → (vp_in (((88 : Int32) * (M 155 2)) + l1) 1056 ∧ (vp_in l1 88 ∧ (∀ M6, M6 = rp_s M 156 (Int32.toNatClampNeg l1) (M 157 (Int32.toNatClampNeg (((88 : Int32) * (M 155 2)) + l1))) → (rp_G E YX6_undo post 22 [.ref 155, .int (l1 + 1)] [] M6)))))) : rp_G E YX6_undo post 22 [.ref 155, .int l1] [] M := by
  refine ok_iload_n dX6_undo_22 rfl rfl ?_
  refine ok_bipush (v := 88) dX6_undo_23 (by decide) ?_
  refine ok_icmp_ge (tgt := 54) dX6_undo_25 (by decide) (fun c3 => ?_) (fun c3 => ?_)
  · replace h := h.1 c3
    refine ok_aload_n dX6_undo_54 rfl rfl ?_
    refine ok_getI dX6_undo_55 fX6_undo_57 (by decide) rp_k155 rfl ?_
    exact ok_ireturn dX6_undo_58 rfl h
  · replace h := h.2 c3
    refine ok_aload_n dX6_undo_28 rfl rfl ?_
    refine ok_getR (j := 156) dX6_undo_29 fX6_undo_7 (by decide) rp_k155 rfl (by decide) ?_
    refine ok_iload_n dX6_undo_32 rfl rfl ?_
    refine ok_aload_n dX6_undo_33 rfl rfl ?_
    refine ok_getR (j := 157) dX6_undo_34 fX6_undo_13 (by decide) rp_k155 rfl (by decide) ?_
    refine ok_bipush (v := 88) dX6_undo_37 (by decide) ?_
    refine ok_aload_n dX6_undo_39 rfl rfl ?_
    refine ok_getI dX6_undo_40 fX6_undo_57 (by decide) rp_k155 rfl ?_
    refine ok_imul dX6_undo_43 ?_
    refine ok_iload_n dX6_undo_44 rfl rfl ?_
    refine ok_iadd dX6_undo_45 ?_
    have b4 := h.1
    replace h := h.2
    refine ok_iaload dX6_undo_46 (by decide) rp_k157 b4 rfl ?_
    have b5 := h.1
    replace h := h.2
    refine ok_iastore dX6_undo_47 (by decide) rp_k156 b5 rfl ?_
    replace h := h _ rfl
    refine ok_iinc2 (w := 1) dX6_undo_48 rfl (by decide) (by decide) rfl ?_
    refine ok_goto (tgt := 22) dX6_undo_51 (by decide) ?_
    exact ok_mask [true, true] h
theorem vX6_pairs (E : rp_E) (post : Option Int32 → rp_M → Prop) (M : rp_M) (l1 : Int32) (h : rp_G E YX6_pairs post 4 [.ref 155, .int l1, .int 0, .int 0] [] M) : rp_Run E YX6_pairs [.ref 155, .int l1] M post := by
  refine ok_start (by decide) oX6_pairs (Nat.le_of_ble_eq_true rfl) ?_
  refine ok_iconst (v := 0) dX6_pairs_0 (by decide) ?_
  refine ok_istore_n dX6_pairs_1 rfl (by decide) rfl ?_
  refine ok_iconst (v := 0) dX6_pairs_2 (by decide) ?_
  refine ok_istore_n dX6_pairs_3 rfl (by decide) rfl ?_
  exact ok_mask [true, true, true, true] h
theorem vX6_pairs_4 (E : rp_E) (post : Option Int32 → rp_M → Prop) (M : rp_M) (l1 : Int32) (l2 : Int32) (l3 : Int32) (h : ((M 156 0) ≤ l3 → (post (some l2) M)) ∧ (¬ (M 156 0) ≤ l3 → (vp_in (l1 + l3) 88 ∧ (∃ v3 M4, rp_C E YX6_sizeOf [.int (M 156 (Int32.toNatClampNeg (l1 + l3)))] M (some v3) M4 ∧ (rp_G E YX6_pairs post 4 [.ref 155, .int l1, .int (l2 + v3), .int (l3 + 1)] [] M4))))) : rp_G E YX6_pairs post 4 [.ref 155, .int l1, .int l2, .int l3] [] M := by
  refine ok_iload_n dX6_pairs_4 rfl rfl ?_
  refine ok_aload_n dX6_pairs_5 rfl rfl ?_
  refine ok_getR (j := 156) dX6_pairs_6 fX6_pairs_7 (by decide) rp_k155 rfl (by decide) ?_
  refine ok_iconst (v := 0) dX6_pairs_9 (by decide) ?_
  refine ok_iaload (j := 0) dX6_pairs_10 (by decide) rp_k156 (rp_vi (by decide)) (by decide) ?_
  refine ok_icmp_ge (tgt := 34) dX6_pairs_11 (by decide) (fun c1 => ?_) (fun c1 => ?_)
  · replace h := h.1 c1
    refine ok_iload_n dX6_pairs_34 rfl rfl ?_
    exact ok_ireturn dX6_pairs_35 rfl h
  · replace h := h.2 c1
    refine ok_iload_n dX6_pairs_14 rfl rfl ?_
    refine ok_aload_n dX6_pairs_15 rfl rfl ?_
    refine ok_getR (j := 156) dX6_pairs_16 fX6_pairs_7 (by decide) rp_k155 rfl (by decide) ?_
    refine ok_iload_n dX6_pairs_19 rfl rfl ?_
    refine ok_iload_n dX6_pairs_20 rfl rfl ?_
    refine ok_iadd dX6_pairs_21 ?_
    have b2 := h.1
    replace h := h.2
    refine ok_iaload dX6_pairs_22 (by decide) rp_k156 b2 rfl ?_
    obtain ⟨v3, M4, r5, h⟩ := h
    refine ok_callS2 dX6_pairs_23 kX6_pairs_155 r5 rfl rfl (Nat.le_of_ble_eq_true rfl) ?_
    rintro _ _ ⟨rfl, rfl⟩
    refine ok_iadd dX6_pairs_26 ?_
    refine ok_istore_n dX6_pairs_27 rfl (by decide) rfl ?_
    refine ok_iinc2 (w := 1) dX6_pairs_28 rfl (by decide) (by decide) rfl ?_
    refine ok_goto (tgt := 4) dX6_pairs_31 (by decide) ?_
    exact ok_mask [true, true, true, true] h
theorem vX6_count (E : rp_E) (post : Option Int32 → rp_M → Prop) (M : rp_M) (l1 : Int32) (h : (l1 = 0 → (vp_in l1 88 ∧ (post (some (M 156 (Int32.toNatClampNeg l1))) M))) ∧ (l1 = 1 → (vp_in l1 88 ∧ (post (some (M 156 (Int32.toNatClampNeg l1))) M))) ∧ (l1 = 2 → (vp_in l1 88 ∧ (post (some (M 156 (Int32.toNatClampNeg l1))) M))) ∧ (l1 = 3 → (vp_in l1 88 ∧ (post (some (M 156 (Int32.toNatClampNeg l1))) M))) ∧ (l1 = 4 → (∃ v5 M6, rp_C E YX6_pairs [.ref 155, .int 64] M (some v5) M6 ∧ (post (some (v5 / 2)) M6))) ∧ (l1 = 5 → (∃ v8 M9, rp_C E YX6_pairs [.ref 155, .int 76] M (some v8) M9 ∧ (post (some v8) M9))) ∧ (l1 = 6 → (post (some (M 155 4)) M)) ∧ (l1 = 7 → (post (some (M 155 2)) M)) ∧ (¬ l1 = 0 → ¬ l1 = 1 → ¬ l1 = 2 → ¬ l1 = 3 → ¬ l1 = 4 → ¬ l1 = 5 → ¬ l1 = 6 → ¬ l1 = 7 → (post (some (-2)) M))) : rp_Run E YX6_count [.ref 155, .int l1] M post := by
  refine ok_start (by decide) oX6_count (Nat.le_of_ble_eq_true rfl) ?_
  refine ok_iload_n dX6_count_0 rfl rfl ?_
  by_cases c1_0 : l1 = 0
  · replace h := h.1 c1_0
    refine ok_tabIn (k := 0) (tgt := 48) dX6_count_1 (by rw [c1_0]; decide) (by decide) (by rfl) (by decide) ?_
    refine ok_aload_n dX6_count_48 rfl rfl ?_
    refine ok_getR (j := 156) dX6_count_49 fX6_count_7 (by decide) rp_k155 rfl (by decide) ?_
    refine ok_iload_n dX6_count_52 rfl rfl ?_
    have b1 := h.1
    replace h := h.2
    refine ok_iaload dX6_count_53 (by decide) rp_k156 b1 rfl ?_
    exact ok_ireturn dX6_count_54 rfl h
  replace h := h.2
  by_cases c1_1 : l1 = 1
  · replace h := h.1 c1_1
    refine ok_tabIn (k := 1) (tgt := 48) dX6_count_1 (by rw [c1_1]; decide) (by decide) (by rfl) (by decide) ?_
    refine ok_aload_n dX6_count_48 rfl rfl ?_
    refine ok_getR (j := 156) dX6_count_49 fX6_count_7 (by decide) rp_k155 rfl (by decide) ?_
    refine ok_iload_n dX6_count_52 rfl rfl ?_
    have b2 := h.1
    replace h := h.2
    refine ok_iaload dX6_count_53 (by decide) rp_k156 b2 rfl ?_
    exact ok_ireturn dX6_count_54 rfl h
  replace h := h.2
  by_cases c1_2 : l1 = 2
  · replace h := h.1 c1_2
    refine ok_tabIn (k := 2) (tgt := 48) dX6_count_1 (by rw [c1_2]; decide) (by decide) (by rfl) (by decide) ?_
    refine ok_aload_n dX6_count_48 rfl rfl ?_
    refine ok_getR (j := 156) dX6_count_49 fX6_count_7 (by decide) rp_k155 rfl (by decide) ?_
    refine ok_iload_n dX6_count_52 rfl rfl ?_
    have b3 := h.1
    replace h := h.2
    refine ok_iaload dX6_count_53 (by decide) rp_k156 b3 rfl ?_
    exact ok_ireturn dX6_count_54 rfl h
  replace h := h.2
  by_cases c1_3 : l1 = 3
  · replace h := h.1 c1_3
    refine ok_tabIn (k := 3) (tgt := 48) dX6_count_1 (by rw [c1_3]; decide) (by decide) (by rfl) (by decide) ?_
    refine ok_aload_n dX6_count_48 rfl rfl ?_
    refine ok_getR (j := 156) dX6_count_49 fX6_count_7 (by decide) rp_k155 rfl (by decide) ?_
    refine ok_iload_n dX6_count_52 rfl rfl ?_
    have b4 := h.1
    replace h := h.2
    refine ok_iaload dX6_count_53 (by decide) rp_k156 b4 rfl ?_
    exact ok_ireturn dX6_count_54 rfl h
  replace h := h.2
  by_cases c1_4 : l1 = 4
  · replace h := h.1 c1_4
    refine ok_tabIn (k := 4) (tgt := 55) dX6_count_1 (by rw [c1_4]; decide) (by decide) (by rfl) (by decide) ?_
    refine ok_aload_n dX6_count_55 rfl rfl ?_
    refine ok_bipush (v := 64) dX6_count_56 (by decide) ?_
    obtain ⟨v5, M6, r7, h⟩ := h
    refine ok_callV2 dX6_count_58 kX6_count_203 r7 (by decide) rp_k155 rfl rfl (Nat.le_of_ble_eq_true rfl) ?_
    rintro _ _ ⟨rfl, rfl⟩
    refine ok_iconst (v := 2) dX6_count_61 (by decide) ?_
    refine ok_idiv dX6_count_62 (by decide) ?_
    exact ok_ireturn dX6_count_63 rfl h
  replace h := h.2
  by_cases c1_5 : l1 = 5
  · replace h := h.1 c1_5
    refine ok_tabIn (k := 5) (tgt := 64) dX6_count_1 (by rw [c1_5]; decide) (by decide) (by rfl) (by decide) ?_
    refine ok_aload_n dX6_count_64 rfl rfl ?_
    refine ok_bipush (v := 76) dX6_count_65 (by decide) ?_
    obtain ⟨v8, M9, r10, h⟩ := h
    refine ok_callV2 dX6_count_67 kX6_count_203 r10 (by decide) rp_k155 rfl rfl (Nat.le_of_ble_eq_true rfl) ?_
    rintro _ _ ⟨rfl, rfl⟩
    exact ok_ireturn dX6_count_70 rfl h
  replace h := h.2
  by_cases c1_6 : l1 = 6
  · replace h := h.1 c1_6
    refine ok_tabIn (k := 6) (tgt := 71) dX6_count_1 (by rw [c1_6]; decide) (by decide) (by rfl) (by decide) ?_
    refine ok_aload_n dX6_count_71 rfl rfl ?_
    refine ok_getI dX6_count_72 fX6_count_92 (by decide) rp_k155 rfl ?_
    exact ok_ireturn dX6_count_75 rfl h
  replace h := h.2
  by_cases c1_7 : l1 = 7
  · replace h := h.1 c1_7
    refine ok_tabIn (k := 7) (tgt := 76) dX6_count_1 (by rw [c1_7]; decide) (by decide) (by rfl) (by decide) ?_
    refine ok_aload_n dX6_count_76 rfl rfl ?_
    refine ok_getI dX6_count_77 fX6_count_57 (by decide) rp_k155 rfl ?_
    exact ok_ireturn dX6_count_80 rfl h
  replace h := h.2
  replace h := h c1_0 c1_1 c1_2 c1_3 c1_4 c1_5 c1_6 c1_7
  refine ok_tabOut (tgt := 81) dX6_count_1 (by have q := rp_tab_out (x := l1) 8 (by decide) (fun j hj => match j, hj with | 0, _ => c1_0 | 1, _ => c1_1 | 2, _ => c1_2 | 3, _ => c1_3 | 4, _ => c1_4 | 5, _ => c1_5 | 6, _ => c1_6 | 7, _ => c1_7 | j + 8, hj => absurd hj (by omega)); omega) (by decide) ?_
  refine ok_bipush (v := (-2)) dX6_count_81 (by decide) ?_
  exact ok_ireturn dX6_count_83 rfl h
