theorem vX1_lengthOf (E : rp_E) (post : Option Int32 → rp_M → Prop) (M : rp_M) (l0 : Int64) (h : rp_G E YX1_lengthOf post 8 [.null, .null, .long l0, .null, .int 0, .int 0, .null] [] M) : rp_Run E YX1_lengthOf [.long l0] M post := by
  refine ok_start (by decide) oX1_lengthOf (Nat.le_of_ble_eq_true rfl) ?_
  refine ok_lload_n dX1_lengthOf_0 rfl rfl ?_
  refine ok_lstore_n dX1_lengthOf_1 rfl (by decide) rfl ?_
  refine ok_iconst (v := 0) dX1_lengthOf_2 (by decide) ?_
  refine ok_istore dX1_lengthOf_3 (by decide) rfl ?_
  refine ok_iconst (v := 0) dX1_lengthOf_5 (by decide) ?_
  refine ok_istore dX1_lengthOf_6 (by decide) rfl ?_
  exact ok_mask [false, false, true, false, true, true, false] h
theorem vX1_lengthOf_8 (E : rp_E) (post : Option Int32 → rp_M → Prop) (M : rp_M) (l2 : Int64) (l4 : Int32) (l5 : Int32) (h : (8 ≤ l5 → ((¬ (lg_cmp l2 0) = 0 → (post (some 0) M)) ∧ ((lg_cmp l2 0) = 0 → (post (some l4) M)))) ∧ (¬ 8 ≤ l5 → (((lg_cmp (l2 &&& 255) 0) = 0 → ((¬ (lg_cmp l2 0) = 0 → (post (some 0) M)) ∧ ((lg_cmp l2 0) = 0 → (post (some l4) M)))) ∧ (¬ (lg_cmp (l2 &&& 255) 0) = 0 → (((Int64.toInt32 (l2 &&& 255)) < 33 → (post (some 0) M)) ∧ (¬ (Int64.toInt32 (l2 &&& 255)) < 33 → (((Int64.toInt32 (l2 &&& 255)) ≤ 126 → (rp_G E YX1_lengthOf post 8 [.null, .null, .long (rp_lush l2 8), .null, .int (l4 + 1), .int (l5 + 1), .null] [] M)) ∧ (¬ (Int64.toInt32 (l2 &&& 255)) ≤ 126 → (post (some 0) M))))))))) : rp_G E YX1_lengthOf post 8 [.null, .null, .long l2, .null, .int l4, .int l5, .null] [] M := by
  refine ok_iload dX1_lengthOf_8 rfl ?_
  refine ok_bipush (v := 8) dX1_lengthOf_10 (by decide) ?_
  refine ok_icmp_ge (tgt := 63) dX1_lengthOf_12 (by decide) (fun c1 => ?_) (fun c1 => ?_)
  · replace h := h.1 c1
    refine ok_lload_n dX1_lengthOf_63 rfl rfl ?_
    refine ok_lconst (v := 0) dX1_lengthOf_64 (by decide) ?_
    refine ok_lcmp dX1_lengthOf_65 ?_
    refine ok_if_ne (tgt := 74) dX1_lengthOf_66 (by decide) (fun c2 => ?_) (fun c2 => ?_)
    · replace h := h.1 c2
      refine ok_iconst (v := 0) dX1_lengthOf_74 (by decide) ?_
      exact ok_ireturn dX1_lengthOf_75 rfl h
    · replace h := h.2 c2
      refine ok_iload dX1_lengthOf_69 rfl ?_
      refine ok_goto (tgt := 75) dX1_lengthOf_71 (by decide) ?_
      exact ok_ireturn dX1_lengthOf_75 rfl h
  · replace h := h.2 c1
    refine ok_lload_n dX1_lengthOf_15 rfl rfl ?_
    refine ok_ldc2 fX1_lengthOf_30 dX1_lengthOf_16 ?_
    refine ok_land dX1_lengthOf_19 ?_
    refine ok_lconst (v := 0) dX1_lengthOf_20 (by decide) ?_
    refine ok_lcmp dX1_lengthOf_21 ?_
    refine ok_if_eq (tgt := 63) dX1_lengthOf_22 (by decide) (fun c3 => ?_) (fun c3 => ?_)
    · replace h := h.1 c3
      refine ok_lload_n dX1_lengthOf_63 rfl rfl ?_
      refine ok_lconst (v := 0) dX1_lengthOf_64 (by decide) ?_
      refine ok_lcmp dX1_lengthOf_65 ?_
      refine ok_if_ne (tgt := 74) dX1_lengthOf_66 (by decide) (fun c4 => ?_) (fun c4 => ?_)
      · replace h := h.1 c4
        refine ok_iconst (v := 0) dX1_lengthOf_74 (by decide) ?_
        exact ok_ireturn dX1_lengthOf_75 rfl h
      · replace h := h.2 c4
        refine ok_iload dX1_lengthOf_69 rfl ?_
        refine ok_goto (tgt := 75) dX1_lengthOf_71 (by decide) ?_
        exact ok_ireturn dX1_lengthOf_75 rfl h
    · replace h := h.2 c3
      refine ok_lload_n dX1_lengthOf_25 rfl rfl ?_
      refine ok_ldc2 fX1_lengthOf_30 dX1_lengthOf_26 ?_
      refine ok_land dX1_lengthOf_29 ?_
      refine ok_l2i dX1_lengthOf_30 ?_
      refine ok_istore dX1_lengthOf_31 (by decide) rfl ?_
      refine ok_iload dX1_lengthOf_33 rfl ?_
      refine ok_bipush (v := 33) dX1_lengthOf_35 (by decide) ?_
      refine ok_icmp_lt (tgt := 47) dX1_lengthOf_37 (by decide) (fun c5 => ?_) (fun c5 => ?_)
      · replace h := h.1 c5
        refine ok_iconst (v := 0) dX1_lengthOf_47 (by decide) ?_
        exact ok_ireturn dX1_lengthOf_48 rfl h
      · replace h := h.2 c5
        refine ok_iload dX1_lengthOf_40 rfl ?_
        refine ok_bipush (v := 126) dX1_lengthOf_42 (by decide) ?_
        refine ok_icmp_le (tgt := 49) dX1_lengthOf_44 (by decide) (fun c6 => ?_) (fun c6 => ?_)
        · replace h := h.1 c6
          refine ok_iinc2 (w := 1) dX1_lengthOf_49 rfl (by decide) (by decide) rfl ?_
          refine ok_lload_n dX1_lengthOf_52 rfl rfl ?_
          refine ok_bipush (v := 8) dX1_lengthOf_53 (by decide) ?_
          refine ok_lushr dX1_lengthOf_55 ?_
          refine ok_lstore_n dX1_lengthOf_56 rfl (by decide) rfl ?_
          refine ok_iinc2 (w := 1) dX1_lengthOf_57 rfl (by decide) (by decide) rfl ?_
          refine ok_goto (tgt := 8) dX1_lengthOf_60 (by decide) ?_
          exact ok_mask [false, false, true, false, true, true, false] h
        · replace h := h.2 c6
          refine ok_iconst (v := 0) dX1_lengthOf_47 (by decide) ?_
          exact ok_ireturn dX1_lengthOf_48 rfl h
theorem vX1_append (E : rp_E) (post : Option Int32 → rp_M → Prop) (M : rp_M) (l1 : Int64) (l3 : Int32) (h : rp_G E YX1_append post 5 [.ref 131, .long l1, .null, .null, .int (l3 - 1)] [] M) : rp_Run E YX1_append [.ref 131, .long l1, .int l3] M post := by
  refine ok_start (by decide) oX1_append (Nat.le_of_ble_eq_true rfl) ?_
  refine ok_iload_n dX1_append_0 rfl rfl ?_
  refine ok_iconst (v := 1) dX1_append_1 (by decide) ?_
  refine ok_isub dX1_append_2 ?_
  refine ok_istore dX1_append_3 (by decide) rfl ?_
  exact ok_mask [true, true, false, false, true] h
theorem vX1_append_5 (E : rp_E) (post : Option Int32 → rp_M → Prop) (M : rp_M) (l1 : Int64) (l4 : Int32) (h : (l4 < 0 → (post none M)) ∧ (¬ l4 < 0 → ((80 ≤ (M 131 1) → (post none M)) ∧ (¬ 80 ≤ (M 131 1) → (vp_in (M 131 1) 80 ∧ (∀ M4, M4 = rp_s M 132 (Int32.toNatClampNeg (M 131 1)) (Int64.toInt32 ((rp_lush l1 ((8 : Int32) * l4)) &&& 255)) → (∀ M5, M5 = rp_s M4 131 1 ((M4 131 1) + 1) → (rp_G E YX1_append post 5 [.ref 131, .long l1, .null, .null, .int (l4 + (-1))] [] M5)))))))) : rp_G E YX1_append post 5 [.ref 131, .long l1, .null, .null, .int l4] [] M := by
  refine ok_iload dX1_append_5 rfl ?_
  refine ok_if_lt (tgt := 56) dX1_append_7 (by decide) (fun c1 => ?_) (fun c1 => ?_)
  · replace h := h.1 c1
    exact ok_return dX1_append_56 rfl h
  · replace h := h.2 c1
    refine ok_aload_n dX1_append_10 rfl rfl ?_
    refine ok_getI dX1_append_11 fX1_append_15 (by decide) rp_k131 rfl ?_
    refine ok_bipush (v := 80) dX1_append_14 (by decide) ?_
    refine ok_icmp_ge (tgt := 56) dX1_append_16 (by decide) (fun c2 => ?_) (fun c2 => ?_)
    · replace h := h.1 c2
      exact ok_return dX1_append_56 rfl h
    · replace h := h.2 c2
      refine ok_aload_n dX1_append_19 rfl rfl ?_
      refine ok_getR (j := 132) dX1_append_20 fX1_append_9 (by decide) rp_k131 rfl (by decide) ?_
      refine ok_aload_n dX1_append_23 rfl rfl ?_
      refine ok_getI dX1_append_24 fX1_append_15 (by decide) rp_k131 rfl ?_
      refine ok_lload_n dX1_append_27 rfl rfl ?_
      refine ok_bipush (v := 8) dX1_append_28 (by decide) ?_
      refine ok_iload dX1_append_30 rfl ?_
      refine ok_imul dX1_append_32 ?_
      refine ok_lushr dX1_append_33 ?_
      refine ok_ldc2 fX1_append_30 dX1_append_34 ?_
      refine ok_land dX1_append_37 ?_
      refine ok_l2i dX1_append_38 ?_
      have b3 := h.1
      replace h := h.2
      refine ok_iastore dX1_append_39 (by decide) rp_k132 b3 rfl ?_
      replace h := h _ rfl
      refine ok_aload_n dX1_append_40 rfl rfl ?_
      refine ok_dup dX1_append_41 rfl ?_
      refine ok_getI dX1_append_42 fX1_append_15 (by decide) rp_k131 rfl ?_
      refine ok_iconst (v := 1) dX1_append_45 (by decide) ?_
      refine ok_iadd dX1_append_46 ?_
      refine ok_put dX1_append_47 pX1_append_15 (by decide) rp_k131 rfl rfl rfl ?_
      replace h := h _ rfl
      refine ok_iinc2 (w := (-1)) dX1_append_50 rfl (by decide) (by decide) rfl ?_
      refine ok_goto (tgt := 5) dX1_append_53 (by decide) ?_
      exact ok_mask [true, true, false, false, true] h
theorem vX1_digit (E : rp_E) (post : Option Int32 → rp_M → Prop) (M : rp_M)  (h : ((M 131 1) ≤ (M 131 4) → (post (some (-1)) M)) ∧ (¬ (M 131 1) ≤ (M 131 4) → (vp_in (M 131 4) 80 ∧ (((M 132 (Int32.toNatClampNeg (M 131 4))) < 48 → (post (some (-1)) M)) ∧ (¬ (M 132 (Int32.toNatClampNeg (M 131 4))) < 48 → (((M 132 (Int32.toNatClampNeg (M 131 4))) ≤ 57 → (post (some ((M 132 (Int32.toNatClampNeg (M 131 4))) - 48)) M)) ∧ (¬ (M 132 (Int32.toNatClampNeg (M 131 4))) ≤ 57 → (post (some (-1)) M)))))))) : rp_Run E YX1_digit [.ref 131] M post := by
  refine ok_start (by decide) oX1_digit (Nat.le_of_ble_eq_true rfl) ?_
  refine ok_aload_n dX1_digit_0 rfl rfl ?_
  refine ok_getI dX1_digit_1 fX1_digit_27 (by decide) rp_k131 rfl ?_
  refine ok_aload_n dX1_digit_4 rfl rfl ?_
  refine ok_getI dX1_digit_5 fX1_digit_15 (by decide) rp_k131 rfl ?_
  refine ok_icmp_ge (tgt := 39) dX1_digit_8 (by decide) (fun c1 => ?_) (fun c1 => ?_)
  · replace h := h.1 c1
    refine ok_iconst (v := (-1)) dX1_digit_39 (by decide) ?_
    exact ok_ireturn dX1_digit_40 rfl h
  · replace h := h.2 c1
    refine ok_aload_n dX1_digit_11 rfl rfl ?_
    refine ok_getR (j := 132) dX1_digit_12 fX1_digit_9 (by decide) rp_k131 rfl (by decide) ?_
    refine ok_aload_n dX1_digit_15 rfl rfl ?_
    refine ok_getI dX1_digit_16 fX1_digit_27 (by decide) rp_k131 rfl ?_
    have b2 := h.1
    replace h := h.2
    refine ok_iaload dX1_digit_19 (by decide) rp_k132 b2 rfl ?_
    refine ok_bipush (v := 48) dX1_digit_20 (by decide) ?_
    refine ok_icmp_lt (tgt := 39) dX1_digit_22 (by decide) (fun c3 => ?_) (fun c3 => ?_)
    · replace h := h.1 c3
      refine ok_iconst (v := (-1)) dX1_digit_39 (by decide) ?_
      exact ok_ireturn dX1_digit_40 rfl h
    · replace h := h.2 c3
      refine ok_aload_n dX1_digit_25 rfl rfl ?_
      refine ok_getR (j := 132) dX1_digit_26 fX1_digit_9 (by decide) rp_k131 rfl (by decide) ?_
      refine ok_aload_n dX1_digit_29 rfl rfl ?_
      refine ok_getI dX1_digit_30 fX1_digit_27 (by decide) rp_k131 rfl ?_
      refine ok_iaload dX1_digit_33 (by decide) rp_k132 b2 rfl ?_
      refine ok_bipush (v := 57) dX1_digit_34 (by decide) ?_
      refine ok_icmp_le (tgt := 41) dX1_digit_36 (by decide) (fun c4 => ?_) (fun c4 => ?_)
      · replace h := h.1 c4
        refine ok_aload_n dX1_digit_41 rfl rfl ?_
        refine ok_getR (j := 132) dX1_digit_42 fX1_digit_9 (by decide) rp_k131 rfl (by decide) ?_
        refine ok_aload_n dX1_digit_45 rfl rfl ?_
        refine ok_getI dX1_digit_46 fX1_digit_27 (by decide) rp_k131 rfl ?_
        refine ok_iaload dX1_digit_49 (by decide) rp_k132 b2 rfl ?_
        refine ok_bipush (v := 48) dX1_digit_50 (by decide) ?_
        refine ok_isub dX1_digit_52 ?_
        exact ok_ireturn dX1_digit_53 rfl h
      · replace h := h.2 c4
        refine ok_iconst (v := (-1)) dX1_digit_39 (by decide) ?_
        exact ok_ireturn dX1_digit_40 rfl h
theorem vX1_readNumber (E : rp_E) (post : Option Int32 → rp_M → Prop) (M : rp_M) (l1 : Int32) (l2 : Int32) (h : ∃ v1 M2, rp_C E YX1_digit [.ref 131] M (some v1) M2 ∧ ((l2 ≤ v1 → (∀ M5, M5 = rp_s M2 131 4 ((M2 131 4) + 1) → (rp_G E YX1_readNumber post 25 [.ref 131, .int l1, .null, .int v1, .int 1] [] M5))) ∧ (¬ l2 ≤ v1 → (post (some 0) M2)))) : rp_Run E YX1_readNumber [.ref 131, .int l1, .int l2] M post := by
  refine ok_start (by decide) oX1_readNumber (Nat.le_of_ble_eq_true rfl) ?_
  refine ok_aload_n dX1_readNumber_0 rfl rfl ?_
  obtain ⟨v1, M2, r3, h⟩ := h
  refine ok_callV2 dX1_readNumber_1 kX1_readNumber_51 r3 (by decide) rp_k131 rfl rfl (Nat.le_of_ble_eq_true rfl) ?_
  rintro _ _ ⟨rfl, rfl⟩
  refine ok_istore_n dX1_readNumber_4 rfl (by decide) rfl ?_
  refine ok_iload_n dX1_readNumber_5 rfl rfl ?_
  refine ok_iload_n dX1_readNumber_6 rfl rfl ?_
  refine ok_icmp_ge (tgt := 12) dX1_readNumber_7 (by decide) (fun c4 => ?_) (fun c4 => ?_)
  · replace h := h.1 c4
    refine ok_aload_n dX1_readNumber_12 rfl rfl ?_
    refine ok_dup dX1_readNumber_13 rfl ?_
    refine ok_getI dX1_readNumber_14 fX1_readNumber_27 (by decide) rp_k131 rfl ?_
    refine ok_iconst (v := 1) dX1_readNumber_17 (by decide) ?_
    refine ok_iadd dX1_readNumber_18 ?_
    refine ok_put dX1_readNumber_19 pX1_readNumber_27 (by decide) rp_k131 rfl rfl rfl ?_
    replace h := h _ rfl
    refine ok_iconst (v := 1) dX1_readNumber_22 (by decide) ?_
    refine ok_istore dX1_readNumber_23 (by decide) rfl ?_
    exact ok_mask [true, true, false, true, true] h
  · replace h := h.2 c4
    refine ok_iconst (v := 0) dX1_readNumber_10 (by decide) ?_
    exact ok_zreturn dX1_readNumber_11 rfl (by decide) h
theorem vX1_readNumber_25 (E : rp_E) (post : Option Int32 → rp_M → Prop) (M : rp_M) (l1 : Int32) (l3 : Int32) (l4 : Int32) (h : (3 ≤ l4 → (vp_in l1 5 ∧ (vp_in (M 131 3) 20 ∧ (∀ M9, M9 = rp_s M (134 + Int32.toNatClampNeg l1) (Int32.toNatClampNeg (M 131 3)) l3 → (post (some 1) M9))))) ∧ (¬ 3 ≤ l4 → ((l3 ≤ 0 → (vp_in l1 5 ∧ (vp_in (M 131 3) 20 ∧ (∀ M13, M13 = rp_s M (134 + Int32.toNatClampNeg l1) (Int32.toNatClampNeg (M 131 3)) l3 → (post (some 1) M13))))) ∧ (¬ l3 ≤ 0 → (∃ v14 M15, rp_C E YX1_digit [.ref 131] M (some v14) M15 ∧ ((v14 < 0 → (vp_in l1 5 ∧ (vp_in (M15 131 3) 20 ∧ (∀ M20, M20 = rp_s M15 (134 + Int32.toNatClampNeg l1) (Int32.toNatClampNeg (M15 131 3)) l3 → (post (some 1) M20))))) ∧ (¬ v14 < 0 → (∃ v21 M22, rp_C E YX1_digit [.ref 131] M15 (some v21) M22 ∧ (∀ M24, M24 = rp_s M22 131 4 ((M22 131 4) + 1) → (rp_G E YX1_readNumber post 25 [.ref 131, .int l1, .null, .int ((l3 * 10) + v21), .int (l4 + 1)] [] M24)))))))))) : rp_G E YX1_readNumber post 25 [.ref 131, .int l1, .null, .int l3, .int l4] [] M := by
  refine ok_iload dX1_readNumber_25 rfl ?_
  refine ok_iconst (v := 3) dX1_readNumber_27 (by decide) ?_
  refine ok_icmp_ge (tgt := 68) dX1_readNumber_28 (by decide) (fun c6 => ?_) (fun c6 => ?_)
  · replace h := h.1 c6
    refine ok_aload_n dX1_readNumber_68 rfl rfl ?_
    refine ok_getR (j := 133) dX1_readNumber_69 fX1_readNumber_21 (by decide) rp_k131 rfl (by decide) ?_
    refine ok_iload_n dX1_readNumber_72 rfl rfl ?_
    have b7 := h.1
    replace h := h.2
    refine ok_propP dX1_readNumber_73 b7 ?_
    refine ok_aload_n dX1_readNumber_74 rfl rfl ?_
    refine ok_getI dX1_readNumber_75 fX1_readNumber_24 (by decide) rp_k131 rfl ?_
    refine ok_iload_n dX1_readNumber_78 rfl rfl ?_
    have b8 := h.1
    replace h := h.2
    refine ok_iastore dX1_readNumber_79 (by have := rp_b b7; omega) (rp_sh_pP (rp_b b7)) b8 rfl ?_
    replace h := h _ rfl
    refine ok_iconst (v := 1) dX1_readNumber_80 (by decide) ?_
    exact ok_zreturn dX1_readNumber_81 rfl (by decide) h
  · replace h := h.2 c6
    refine ok_iload_n dX1_readNumber_31 rfl rfl ?_
    refine ok_if_le (tgt := 68) dX1_readNumber_32 (by decide) (fun c10 => ?_) (fun c10 => ?_)
    · replace h := h.1 c10
      refine ok_aload_n dX1_readNumber_68 rfl rfl ?_
      refine ok_getR (j := 133) dX1_readNumber_69 fX1_readNumber_21 (by decide) rp_k131 rfl (by decide) ?_
      refine ok_iload_n dX1_readNumber_72 rfl rfl ?_
      have b11 := h.1
      replace h := h.2
      refine ok_propP dX1_readNumber_73 b11 ?_
      refine ok_aload_n dX1_readNumber_74 rfl rfl ?_
      refine ok_getI dX1_readNumber_75 fX1_readNumber_24 (by decide) rp_k131 rfl ?_
      refine ok_iload_n dX1_readNumber_78 rfl rfl ?_
      have b12 := h.1
      replace h := h.2
      refine ok_iastore dX1_readNumber_79 (by have := rp_b b11; omega) (rp_sh_pP (rp_b b11)) b12 rfl ?_
      replace h := h _ rfl
      refine ok_iconst (v := 1) dX1_readNumber_80 (by decide) ?_
      exact ok_zreturn dX1_readNumber_81 rfl (by decide) h
    · replace h := h.2 c10
      refine ok_aload_n dX1_readNumber_35 rfl rfl ?_
      obtain ⟨v14, M15, r16, h⟩ := h
      refine ok_callV2 dX1_readNumber_36 kX1_readNumber_51 r16 (by decide) rp_k131 rfl rfl (Nat.le_of_ble_eq_true rfl) ?_
      rintro _ _ ⟨rfl, rfl⟩
      refine ok_if_lt (tgt := 68) dX1_readNumber_39 (by decide) (fun c17 => ?_) (fun c17 => ?_)
      · replace h := h.1 c17
        refine ok_aload_n dX1_readNumber_68 rfl rfl ?_
        refine ok_getR (j := 133) dX1_readNumber_69 fX1_readNumber_21 (by decide) rp_k131 rfl (by decide) ?_
        refine ok_iload_n dX1_readNumber_72 rfl rfl ?_
        have b18 := h.1
        replace h := h.2
        refine ok_propP dX1_readNumber_73 b18 ?_
        refine ok_aload_n dX1_readNumber_74 rfl rfl ?_
        refine ok_getI dX1_readNumber_75 fX1_readNumber_24 (by decide) rp_k131 rfl ?_
        refine ok_iload_n dX1_readNumber_78 rfl rfl ?_
        have b19 := h.1
        replace h := h.2
        refine ok_iastore dX1_readNumber_79 (by have := rp_b b18; omega) (rp_sh_pP (rp_b b18)) b19 rfl ?_
        replace h := h _ rfl
        refine ok_iconst (v := 1) dX1_readNumber_80 (by decide) ?_
        exact ok_zreturn dX1_readNumber_81 rfl (by decide) h
      · replace h := h.2 c17
        refine ok_iload_n dX1_readNumber_42 rfl rfl ?_
        refine ok_bipush (v := 10) dX1_readNumber_43 (by decide) ?_
        refine ok_imul dX1_readNumber_45 ?_
        refine ok_aload_n dX1_readNumber_46 rfl rfl ?_
        obtain ⟨v21, M22, r23, h⟩ := h
        refine ok_callV2 dX1_readNumber_47 kX1_readNumber_51 r23 (by decide) rp_k131 rfl rfl (Nat.le_of_ble_eq_true rfl) ?_
        rintro _ _ ⟨rfl, rfl⟩
        refine ok_iadd dX1_readNumber_50 ?_
        refine ok_istore_n dX1_readNumber_51 rfl (by decide) rfl ?_
        refine ok_aload_n dX1_readNumber_52 rfl rfl ?_
        refine ok_dup dX1_readNumber_53 rfl ?_
        refine ok_getI dX1_readNumber_54 fX1_readNumber_27 (by decide) rp_k131 rfl ?_
        refine ok_iconst (v := 1) dX1_readNumber_57 (by decide) ?_
        refine ok_iadd dX1_readNumber_58 ?_
        refine ok_put dX1_readNumber_59 pX1_readNumber_27 (by decide) rp_k131 rfl rfl rfl ?_
        replace h := h _ rfl
        refine ok_iinc2 (w := 1) dX1_readNumber_62 rfl (by decide) (by decide) rfl ?_
        refine ok_goto (tgt := 25) dX1_readNumber_65 (by decide) ?_
        exact ok_mask [true, true, false, true, true] h
theorem vX1_accept (E : rp_E) (post : Option Int32 → rp_M → Prop) (M : rp_M) (l1 : Int32) (h : ((M 131 1) ≤ (M 131 4) → (post (some 0) M)) ∧ (¬ (M 131 1) ≤ (M 131 4) → (vp_in (M 131 4) 80 ∧ (((M 132 (Int32.toNatClampNeg (M 131 4))) = l1 → (∀ M4, M4 = rp_s M 131 4 ((M 131 4) + 1) → (post (some 1) M4))) ∧ (¬ (M 132 (Int32.toNatClampNeg (M 131 4))) = l1 → (post (some 0) M)))))) : rp_Run E YX1_accept [.ref 131, .int l1] M post := by
  refine ok_start (by decide) oX1_accept (Nat.le_of_ble_eq_true rfl) ?_
  refine ok_aload_n dX1_accept_0 rfl rfl ?_
  refine ok_getI dX1_accept_1 fX1_accept_27 (by decide) rp_k131 rfl ?_
  refine ok_aload_n dX1_accept_4 rfl rfl ?_
  refine ok_getI dX1_accept_5 fX1_accept_15 (by decide) rp_k131 rfl ?_
  refine ok_icmp_ge (tgt := 24) dX1_accept_8 (by decide) (fun c1 => ?_) (fun c1 => ?_)
  · replace h := h.1 c1
    refine ok_iconst (v := 0) dX1_accept_24 (by decide) ?_
    exact ok_zreturn dX1_accept_25 rfl (by decide) h
  · replace h := h.2 c1
    refine ok_aload_n dX1_accept_11 rfl rfl ?_
    refine ok_getR (j := 132) dX1_accept_12 fX1_accept_9 (by decide) rp_k131 rfl (by decide) ?_
    refine ok_aload_n dX1_accept_15 rfl rfl ?_
    refine ok_getI dX1_accept_16 fX1_accept_27 (by decide) rp_k131 rfl ?_
    have b2 := h.1
    replace h := h.2
    refine ok_iaload dX1_accept_19 (by decide) rp_k132 b2 rfl ?_
    refine ok_iload_n dX1_accept_20 rfl rfl ?_
    refine ok_icmp_eq (tgt := 26) dX1_accept_21 (by decide) (fun c3 => ?_) (fun c3 => ?_)
    · replace h := h.1 c3
      refine ok_aload_n dX1_accept_26 rfl rfl ?_
      refine ok_dup dX1_accept_27 rfl ?_
      refine ok_getI dX1_accept_28 fX1_accept_27 (by decide) rp_k131 rfl ?_
      refine ok_iconst (v := 1) dX1_accept_31 (by decide) ?_
      refine ok_iadd dX1_accept_32 ?_
      refine ok_put dX1_accept_33 pX1_accept_27 (by decide) rp_k131 rfl rfl rfl ?_
      replace h := h _ rfl
      refine ok_iconst (v := 1) dX1_accept_36 (by decide) ?_
      exact ok_zreturn dX1_accept_37 rfl (by decide) h
    · replace h := h.2 c3
      refine ok_iconst (v := 0) dX1_accept_24 (by decide) ?_
      exact ok_zreturn dX1_accept_25 rfl (by decide) h
theorem vX1_readDeviation (E : rp_E) (post : Option Int32 → rp_M → Prop) (M : rp_M) (l1 : Int32) (l2 : Int32) (h : ∃ P4 : Int32 → rp_M → Prop, rp_Run E YX1_accept [.ref 131, .int l1] M (rp_P P4) ∧ (∀ v1 M2, P4 v1 M2 → ((v1 = 0 → (vp_in l2 5 ∧ (vp_in (M2 131 3) 20 ∧ (∀ M9, M9 = rp_s M2 (134 + Int32.toNatClampNeg l2) (Int32.toNatClampNeg (M2 131 3)) 0 → (post (some 1) M9))))) ∧ (¬ v1 = 0 → (∃ P13 : Int32 → rp_M → Prop, rp_Run E YX1_readNumber [.ref 131, .int l2, .int 0] M2 (rp_P P13) ∧ (∀ v10 M11, P13 v10 M11 → (narrow .boolean (.int v10) = .int v10 ∧ (post (some v10) M11)))))))) : rp_Run E YX1_readDeviation [.ref 131, .int l1, .int l2] M post := by
  refine ok_start (by decide) oX1_readDeviation (Nat.le_of_ble_eq_true rfl) ?_
  refine ok_aload_n dX1_readDeviation_0 rfl rfl ?_
  refine ok_iload_n dX1_readDeviation_1 rfl rfl ?_
  obtain ⟨P4, r3, h⟩ := h
  refine ok_callV2 dX1_readDeviation_2 kX1_readDeviation_36 r3 (by decide) rp_k131 rfl rfl (Nat.le_of_ble_eq_true rfl) ?_
  rintro _ M2 ⟨v1, rfl, q5⟩
  replace h := h v1 M2 q5
  refine ok_if_eq (tgt := 15) dX1_readDeviation_5 (by decide) (fun c6 => ?_) (fun c6 => ?_)
  · replace h := h.1 c6
    refine ok_aload_n dX1_readDeviation_15 rfl rfl ?_
    refine ok_getR (j := 133) dX1_readDeviation_16 fX1_readDeviation_21 (by decide) rp_k131 rfl (by decide) ?_
    refine ok_iload_n dX1_readDeviation_19 rfl rfl ?_
    have b7 := h.1
    replace h := h.2
    refine ok_propP dX1_readDeviation_20 b7 ?_
    refine ok_aload_n dX1_readDeviation_21 rfl rfl ?_
    refine ok_getI dX1_readDeviation_22 fX1_readDeviation_24 (by decide) rp_k131 rfl ?_
    refine ok_iconst (v := 0) dX1_readDeviation_25 (by decide) ?_
    have b8 := h.1
    replace h := h.2
    refine ok_iastore dX1_readDeviation_26 (by have := rp_b b7; omega) (rp_sh_pP (rp_b b7)) b8 rfl ?_
    replace h := h _ rfl
    refine ok_iconst (v := 1) dX1_readDeviation_27 (by decide) ?_
    exact ok_zreturn dX1_readDeviation_28 rfl (by decide) h
  · replace h := h.2 c6
    refine ok_aload_n dX1_readDeviation_8 rfl rfl ?_
    refine ok_iload_n dX1_readDeviation_9 rfl rfl ?_
    refine ok_iconst (v := 0) dX1_readDeviation_10 (by decide) ?_
    obtain ⟨P13, r12, h⟩ := h
    refine ok_callV2 dX1_readDeviation_11 kX1_readDeviation_40 r12 (by decide) rp_k131 rfl rfl (Nat.le_of_ble_eq_true rfl) ?_
    rintro _ M11 ⟨v10, rfl, q14⟩
    replace h := h v10 M11 q14
    exact ok_zreturn dX1_readDeviation_14 rfl h.1 h.2
theorem vX1_readGroup (E : rp_E) (post : Option Int32 → rp_M → Prop) (M : rp_M)  (h : vp_in (M 131 3) 20 ∧ (∀ M2, M2 = rp_s M 138 (Int32.toNatClampNeg (M 131 3)) (-1) → (∃ P6 : Int32 → rp_M → Prop, rp_Run E YX1_accept [.ref 131, .int 64] M2 (rp_P P6) ∧ (∀ v3 M4, P6 v3 M4 → ((¬ v3 = 0 → (∃ v9 M10, rp_C E YX1_digit [.ref 131] M4 (some v9) M10 ∧ ((v9 < 0 → (post (some 0) M10)) ∧ (¬ v9 < 0 → ((v9 ≤ 3 → (vp_in (M10 131 3) 20 ∧ (∀ M15, M15 = rp_s M10 138 (Int32.toNatClampNeg (M10 131 3)) v9 → (∀ M16, M16 = rp_s M15 131 4 ((M15 131 4) + 1) → (post (some 1) M16))))) ∧ (¬ v9 ≤ 3 → (post (some 0) M10))))))) ∧ (v3 = 0 → (post (some 1) M4))))))) : rp_Run E YX1_readGroup [.ref 131] M post := by
  refine ok_start (by decide) oX1_readGroup (Nat.le_of_ble_eq_true rfl) ?_
  refine ok_aload_n dX1_readGroup_0 rfl rfl ?_
  refine ok_getR (j := 133) dX1_readGroup_1 fX1_readGroup_21 (by decide) rp_k131 rfl (by decide) ?_
  refine ok_iconst (v := 4) dX1_readGroup_4 (by decide) ?_
  refine ok_aaload2 (j := 138) dX1_readGroup_5 (by decide) rp_k133 (rp_vi (by decide)) (by rfl) (by decide) ?_
  refine ok_aload_n dX1_readGroup_6 rfl rfl ?_
  refine ok_getI dX1_readGroup_7 fX1_readGroup_24 (by decide) rp_k131 rfl ?_
  refine ok_iconst (v := (-1)) dX1_readGroup_10 (by decide) ?_
  have b1 := h.1
  replace h := h.2
  refine ok_iastore dX1_readGroup_11 (by decide) rp_k138 b1 rfl ?_
  replace h := h _ rfl
  refine ok_aload_n dX1_readGroup_12 rfl rfl ?_
  refine ok_bipush (v := 64) dX1_readGroup_13 (by decide) ?_
  obtain ⟨P6, r5, h⟩ := h
  refine ok_callV2 dX1_readGroup_15 kX1_readGroup_36 r5 (by decide) rp_k131 rfl rfl (Nat.le_of_ble_eq_true rfl) ?_
  rintro _ M4 ⟨v3, rfl, q7⟩
  replace h := h v3 M4 q7
  refine ok_if_ne (tgt := 23) dX1_readGroup_18 (by decide) (fun c8 => ?_) (fun c8 => ?_)
  · replace h := h.1 c8
    refine ok_aload_n dX1_readGroup_23 rfl rfl ?_
    obtain ⟨v9, M10, r11, h⟩ := h
    refine ok_callV2 dX1_readGroup_24 kX1_readGroup_51 r11 (by decide) rp_k131 rfl rfl (Nat.le_of_ble_eq_true rfl) ?_
    rintro _ _ ⟨rfl, rfl⟩
    refine ok_istore_n dX1_readGroup_27 rfl (by decide) rfl ?_
    refine ok_iload_n dX1_readGroup_28 rfl rfl ?_
    refine ok_if_lt (tgt := 37) dX1_readGroup_29 (by decide) (fun c12 => ?_) (fun c12 => ?_)
    · replace h := h.1 c12
      refine ok_iconst (v := 0) dX1_readGroup_37 (by decide) ?_
      exact ok_zreturn dX1_readGroup_38 rfl (by decide) h
    · replace h := h.2 c12
      refine ok_iload_n dX1_readGroup_32 rfl rfl ?_
      refine ok_iconst (v := 3) dX1_readGroup_33 (by decide) ?_
      refine ok_icmp_le (tgt := 39) dX1_readGroup_34 (by decide) (fun c13 => ?_) (fun c13 => ?_)
      · replace h := h.1 c13
        refine ok_aload_n dX1_readGroup_39 rfl rfl ?_
        refine ok_getR (j := 133) dX1_readGroup_40 fX1_readGroup_21 (by decide) rp_k131 rfl (by decide) ?_
        refine ok_iconst (v := 4) dX1_readGroup_43 (by decide) ?_
        refine ok_aaload2 (j := 138) dX1_readGroup_44 (by decide) rp_k133 (rp_vi (by decide)) (by rfl) (by decide) ?_
        refine ok_aload_n dX1_readGroup_45 rfl rfl ?_
        refine ok_getI dX1_readGroup_46 fX1_readGroup_24 (by decide) rp_k131 rfl ?_
        refine ok_iload_n dX1_readGroup_49 rfl rfl ?_
        have b14 := h.1
        replace h := h.2
        refine ok_iastore dX1_readGroup_50 (by decide) rp_k138 b14 rfl ?_
        replace h := h _ rfl
        refine ok_aload_n dX1_readGroup_51 rfl rfl ?_
        refine ok_dup dX1_readGroup_52 rfl ?_
        refine ok_getI dX1_readGroup_53 fX1_readGroup_27 (by decide) rp_k131 rfl ?_
        refine ok_iconst (v := 1) dX1_readGroup_56 (by decide) ?_
        refine ok_iadd dX1_readGroup_57 ?_
        refine ok_put dX1_readGroup_58 pX1_readGroup_27 (by decide) rp_k131 rfl rfl rfl ?_
        replace h := h _ rfl
        refine ok_iconst (v := 1) dX1_readGroup_61 (by decide) ?_
        exact ok_zreturn dX1_readGroup_62 rfl (by decide) h
      · replace h := h.2 c13
        refine ok_iconst (v := 0) dX1_readGroup_37 (by decide) ?_
        exact ok_zreturn dX1_readGroup_38 rfl (by decide) h
  · replace h := h.2 c8
    refine ok_iconst (v := 1) dX1_readGroup_21 (by decide) ?_
    exact ok_zreturn dX1_readGroup_22 rfl (by decide) h
theorem vX1_readItem (E : rp_E) (post : Option Int32 → rp_M → Prop) (M : rp_M)  (h : ∃ P4 : Int32 → rp_M → Prop, rp_Run E YX1_readNumber [.ref 131, .int 0, .int 1] M (rp_P P4) ∧ (∀ v1 M2, P4 v1 M2 → ((v1 = 0 → (post (some 0) M2)) ∧ (¬ v1 = 0 → (∃ P10 : Int32 → rp_M → Prop, rp_Run E YX1_accept [.ref 131, .int 47] M2 (rp_P P10) ∧ (∀ v7 M8, P10 v7 M8 → ((v7 = 0 → (post (some 0) M8)) ∧ (¬ v7 = 0 → (∃ P16 : Int32 → rp_M → Prop, rp_Run E YX1_readNumber [.ref 131, .int 1, .int 1] M8 (rp_P P16) ∧ (∀ v13 M14, P16 v13 M14 → ((v13 = 0 → (post (some 0) M14)) ∧ (¬ v13 = 0 → (∃ P22 : Int32 → rp_M → Prop, rp_Run E YX1_readDeviation [.ref 131, .int 43, .int 2] M14 (rp_P P22) ∧ (∀ v19 M20, P22 v19 M20 → ((v19 = 0 → (post (some 0) M20)) ∧ (¬ v19 = 0 → (∃ P28 : Int32 → rp_M → Prop, rp_Run E YX1_readDeviation [.ref 131, .int 45, .int 3] M20 (rp_P P28) ∧ (∀ v25 M26, P28 v25 M26 → ((v25 = 0 → (post (some 0) M26)) ∧ (¬ v25 = 0 → (∃ P34 : Int32 → rp_M → Prop, rp_Run E YX1_readGroup [.ref 131] M26 (rp_P P34) ∧ (∀ v31 M32, P34 v31 M32 → ((v31 = 0 → (post (some 0) M32)) ∧ (¬ v31 = 0 → (post (some 1) M32))))))))))))))))))))))))) : rp_Run E YX1_readItem [.ref 131] M post := by
  refine ok_start (by decide) oX1_readItem (Nat.le_of_ble_eq_true rfl) ?_
  refine ok_aload_n dX1_readItem_0 rfl rfl ?_
  refine ok_iconst (v := 0) dX1_readItem_1 (by decide) ?_
  refine ok_iconst (v := 1) dX1_readItem_2 (by decide) ?_
  obtain ⟨P4, r3, h⟩ := h
  refine ok_callV2 dX1_readItem_3 kX1_readItem_40 r3 (by decide) rp_k131 rfl rfl (Nat.le_of_ble_eq_true rfl) ?_
  rintro _ M2 ⟨v1, rfl, q5⟩
  replace h := h v1 M2 q5
  refine ok_if_eq (tgt := 58) dX1_readItem_6 (by decide) (fun c6 => ?_) (fun c6 => ?_)
  · replace h := h.1 c6
    refine ok_iconst (v := 0) dX1_readItem_58 (by decide) ?_
    exact ok_zreturn dX1_readItem_59 rfl (by decide) h
  · replace h := h.2 c6
    refine ok_aload_n dX1_readItem_9 rfl rfl ?_
    refine ok_bipush (v := 47) dX1_readItem_10 (by decide) ?_
    obtain ⟨P10, r9, h⟩ := h
    refine ok_callV2 dX1_readItem_12 kX1_readItem_36 r9 (by decide) rp_k131 rfl rfl (Nat.le_of_ble_eq_true rfl) ?_
    rintro _ M8 ⟨v7, rfl, q11⟩
    replace h := h v7 M8 q11
    refine ok_if_eq (tgt := 58) dX1_readItem_15 (by decide) (fun c12 => ?_) (fun c12 => ?_)
    · replace h := h.1 c12
      refine ok_iconst (v := 0) dX1_readItem_58 (by decide) ?_
      exact ok_zreturn dX1_readItem_59 rfl (by decide) h
    · replace h := h.2 c12
      refine ok_aload_n dX1_readItem_18 rfl rfl ?_
      refine ok_iconst (v := 1) dX1_readItem_19 (by decide) ?_
      refine ok_iconst (v := 1) dX1_readItem_20 (by decide) ?_
      obtain ⟨P16, r15, h⟩ := h
      refine ok_callV2 dX1_readItem_21 kX1_readItem_40 r15 (by decide) rp_k131 rfl rfl (Nat.le_of_ble_eq_true rfl) ?_
      rintro _ M14 ⟨v13, rfl, q17⟩
      replace h := h v13 M14 q17
      refine ok_if_eq (tgt := 58) dX1_readItem_24 (by decide) (fun c18 => ?_) (fun c18 => ?_)
      · replace h := h.1 c18
        refine ok_iconst (v := 0) dX1_readItem_58 (by decide) ?_
        exact ok_zreturn dX1_readItem_59 rfl (by decide) h
      · replace h := h.2 c18
        refine ok_aload_n dX1_readItem_27 rfl rfl ?_
        refine ok_bipush (v := 43) dX1_readItem_28 (by decide) ?_
        refine ok_iconst (v := 2) dX1_readItem_30 (by decide) ?_
        obtain ⟨P22, r21, h⟩ := h
        refine ok_callV2 dX1_readItem_31 kX1_readItem_44 r21 (by decide) rp_k131 rfl rfl (Nat.le_of_ble_eq_true rfl) ?_
        rintro _ M20 ⟨v19, rfl, q23⟩
        replace h := h v19 M20 q23
        refine ok_if_eq (tgt := 58) dX1_readItem_34 (by decide) (fun c24 => ?_) (fun c24 => ?_)
        · replace h := h.1 c24
          refine ok_iconst (v := 0) dX1_readItem_58 (by decide) ?_
          exact ok_zreturn dX1_readItem_59 rfl (by decide) h
        · replace h := h.2 c24
          refine ok_aload_n dX1_readItem_37 rfl rfl ?_
          refine ok_bipush (v := 45) dX1_readItem_38 (by decide) ?_
          refine ok_iconst (v := 3) dX1_readItem_40 (by decide) ?_
          obtain ⟨P28, r27, h⟩ := h
          refine ok_callV2 dX1_readItem_41 kX1_readItem_44 r27 (by decide) rp_k131 rfl rfl (Nat.le_of_ble_eq_true rfl) ?_
          rintro _ M26 ⟨v25, rfl, q29⟩
          replace h := h v25 M26 q29
          refine ok_if_eq (tgt := 58) dX1_readItem_44 (by decide) (fun c30 => ?_) (fun c30 => ?_)
          · replace h := h.1 c30
            refine ok_iconst (v := 0) dX1_readItem_58 (by decide) ?_
            exact ok_zreturn dX1_readItem_59 rfl (by decide) h
          · replace h := h.2 c30
            refine ok_aload_n dX1_readItem_47 rfl rfl ?_
            obtain ⟨P34, r33, h⟩ := h
            refine ok_callV2 dX1_readItem_48 kX1_readItem_48 r33 (by decide) rp_k131 rfl rfl (Nat.le_of_ble_eq_true rfl) ?_
            rintro _ M32 ⟨v31, rfl, q35⟩
            replace h := h v31 M32 q35
            refine ok_if_eq (tgt := 58) dX1_readItem_51 (by decide) (fun c36 => ?_) (fun c36 => ?_)
            · replace h := h.1 c36
              refine ok_iconst (v := 0) dX1_readItem_58 (by decide) ?_
              exact ok_zreturn dX1_readItem_59 rfl (by decide) h
            · replace h := h.2 c36
              refine ok_iconst (v := 1) dX1_readItem_54 (by decide) ?_
              refine ok_goto (tgt := 59) dX1_readItem_55 (by decide) ?_
              exact ok_zreturn dX1_readItem_59 rfl (by decide) h
theorem vX1_read (E : rp_E) (post : Option Int32 → rp_M → Prop) (M : rp_M)  (h : ∀ M1, M1 = rp_s M 131 4 0 → (∀ M2, M2 = rp_s M1 131 3 0 → (rp_G E YX1_read post 12 [.ref 131, .int 0] [] M2))) : rp_Run E YX1_read [.ref 131] M post := by
  refine ok_start (by decide) oX1_read (Nat.le_of_ble_eq_true rfl) ?_
  refine ok_aload_n dX1_read_0 rfl rfl ?_
  refine ok_iconst (v := 0) dX1_read_1 (by decide) ?_
  refine ok_put dX1_read_2 pX1_read_27 (by decide) rp_k131 rfl rfl rfl ?_
  replace h := h _ rfl
  refine ok_aload_n dX1_read_5 rfl rfl ?_
  refine ok_iconst (v := 0) dX1_read_6 (by decide) ?_
  refine ok_put dX1_read_7 pX1_read_24 (by decide) rp_k131 rfl rfl rfl ?_
  replace h := h _ rfl
  refine ok_iconst (v := 0) dX1_read_10 (by decide) ?_
  refine ok_istore_n dX1_read_11 rfl (by decide) rfl ?_
  exact ok_mask [true, true] h
theorem vX1_read_12 (E : rp_E) (post : Option Int32 → rp_M → Prop) (M : rp_M) (l1 : Int32) (h : (20 ≤ l1 → (post (some 0) M)) ∧ (¬ 20 ≤ l1 → (∃ P7 : Int32 → rp_M → Prop, rp_Run E YX1_readItem [.ref 131] M (rp_P P7) ∧ (∀ v4 M5, P7 v4 M5 → ((¬ v4 = 0 → (∀ M10, M10 = rp_s M5 131 3 ((M5 131 3) + 1) → ((¬ (M10 131 4) = (M10 131 1) → (∃ P15 : Int32 → rp_M → Prop, rp_Run E YX1_accept [.ref 131, .int 59] M10 (rp_P P15) ∧ (∀ v12 M13, P15 v12 M13 → ((¬ v12 = 0 → (rp_G E YX1_read post 12 [.ref 131, .int (l1 + 1)] [] M13)) ∧ (v12 = 0 → (post (some 0) M13)))))) ∧ ((M10 131 4) = (M10 131 1) → (post (some 1) M10))))) ∧ (v4 = 0 → (post (some 0) M5))))))) : rp_G E YX1_read post 12 [.ref 131, .int l1] [] M := by
  refine ok_iload_n dX1_read_12 rfl rfl ?_
  refine ok_bipush (v := 20) dX1_read_13 (by decide) ?_
  refine ok_icmp_ge (tgt := 67) dX1_read_15 (by decide) (fun c3 => ?_) (fun c3 => ?_)
  · replace h := h.1 c3
    refine ok_iconst (v := 0) dX1_read_67 (by decide) ?_
    exact ok_zreturn dX1_read_68 rfl (by decide) h
  · replace h := h.2 c3
    refine ok_aload_n dX1_read_18 rfl rfl ?_
    obtain ⟨P7, r6, h⟩ := h
    refine ok_callV2 dX1_read_19 kX1_read_32 r6 (by decide) rp_k131 rfl rfl (Nat.le_of_ble_eq_true rfl) ?_
    rintro _ M5 ⟨v4, rfl, q8⟩
    replace h := h v4 M5 q8
    refine ok_if_ne (tgt := 27) dX1_read_22 (by decide) (fun c9 => ?_) (fun c9 => ?_)
    · replace h := h.1 c9
      refine ok_aload_n dX1_read_27 rfl rfl ?_
      refine ok_dup dX1_read_28 rfl ?_
      refine ok_getI dX1_read_29 fX1_read_24 (by decide) rp_k131 rfl ?_
      refine ok_iconst (v := 1) dX1_read_32 (by decide) ?_
      refine ok_iadd dX1_read_33 ?_
      refine ok_put dX1_read_34 pX1_read_24 (by decide) rp_k131 rfl rfl rfl ?_
      replace h := h _ rfl
      refine ok_aload_n dX1_read_37 rfl rfl ?_
      refine ok_getI dX1_read_38 fX1_read_27 (by decide) rp_k131 rfl ?_
      refine ok_aload_n dX1_read_41 rfl rfl ?_
      refine ok_getI dX1_read_42 fX1_read_15 (by decide) rp_k131 rfl ?_
      refine ok_icmp_ne (tgt := 50) dX1_read_45 (by decide) (fun c11 => ?_) (fun c11 => ?_)
      · replace h := h.1 c11
        refine ok_aload_n dX1_read_50 rfl rfl ?_
        refine ok_bipush (v := 59) dX1_read_51 (by decide) ?_
        obtain ⟨P15, r14, h⟩ := h
        refine ok_callV2 dX1_read_53 kX1_read_36 r14 (by decide) rp_k131 rfl rfl (Nat.le_of_ble_eq_true rfl) ?_
        rintro _ M13 ⟨v12, rfl, q16⟩
        replace h := h v12 M13 q16
        refine ok_if_ne (tgt := 61) dX1_read_56 (by decide) (fun c17 => ?_) (fun c17 => ?_)
        · replace h := h.1 c17
          refine ok_iinc2 (w := 1) dX1_read_61 rfl (by decide) (by decide) rfl ?_
          refine ok_goto (tgt := 12) dX1_read_64 (by decide) ?_
          exact ok_mask [true, true] h
        · replace h := h.2 c17
          refine ok_iconst (v := 0) dX1_read_59 (by decide) ?_
          exact ok_zreturn dX1_read_60 rfl (by decide) h
      · replace h := h.2 c11
        refine ok_iconst (v := 1) dX1_read_48 (by decide) ?_
        exact ok_zreturn dX1_read_49 rfl (by decide) h
    · replace h := h.2 c9
      refine ok_iconst (v := 0) dX1_read_25 (by decide) ?_
      exact ok_zreturn dX1_read_26 rfl (by decide) h
theorem vX2_collect (E : rp_E) (post : Option Int32 → rp_M → Prop) (M : rp_M) (l3 : Int32) (l4 : Int32) (h : ∃ P3 : rp_M → Prop, rp_Run E YX5_sumUp [.ref 150, .ref 3, .int (M 0 4)] M (rp_P0 P3) ∧ (∀ M1, P3 M1 → (∃ P7 : rp_M → Prop, rp_Run E YX5_sumUp [.ref 151, .ref 4, .int (M1 0 4)] M1 (rp_P0 P7) ∧ (∀ M5, P7 M5 → (∀ M9, M9 = rp_s M5 149 4 0 → (rp_G E YX2_collect post 42 [.ref 149, .ref 139, .null, .int l3, .int l4, .int 0, .null] [] M9)))))) : rp_Run E YX2_collect [.ref 149, .ref 139, .ref 0, .int l3, .int l4] M post := by
  refine ok_start (by decide) oX2_collect (Nat.le_of_ble_eq_true rfl) ?_
  refine ok_aload_n dX2_collect_0 rfl rfl ?_
  refine ok_getR (j := 150) dX2_collect_1 fX2_collect_9 (by decide) rp_k149 rfl (by decide) ?_
  refine ok_aload_n dX2_collect_4 rfl rfl ?_
  refine ok_getR (j := 1) dX2_collect_5 fX2_collect_28 (by decide) rp_k0 rfl (by decide) ?_
  refine ok_iconst (v := 1) dX2_collect_8 (by decide) ?_
  refine ok_aaload2 (j := 3) dX2_collect_9 (by decide) rp_k1 (rp_vi (by decide)) (by rfl) (by decide) ?_
  refine ok_aload_n dX2_collect_10 rfl rfl ?_
  refine ok_getI dX2_collect_11 fX2_collect_34 (by decide) rp_k0 rfl ?_
  obtain ⟨P3, r2, h⟩ := h
  refine ok_callN2 dX2_collect_14 kX2_collect_37.1 oX5_sumUp uX5_sumUp kX2_collect_37.2.1 (fun U hU => hU.2.2) kX2_collect_37.2.2.1 kX2_collect_37.2.2.2 r2 rfl rfl (Nat.le_of_ble_eq_true rfl) ?_
  rintro _ M1 ⟨rfl, q4⟩
  replace h := h M1 q4
  refine ok_aload_n dX2_collect_17 rfl rfl ?_
  refine ok_getR (j := 151) dX2_collect_18 fX2_collect_15 (by decide) rp_k149 rfl (by decide) ?_
  refine ok_aload_n dX2_collect_21 rfl rfl ?_
  refine ok_getR (j := 1) dX2_collect_22 fX2_collect_28 (by decide) rp_k0 rfl (by decide) ?_
  refine ok_iconst (v := 2) dX2_collect_25 (by decide) ?_
  refine ok_aaload2 (j := 4) dX2_collect_26 (by decide) rp_k1 (rp_vi (by decide)) (by rfl) (by decide) ?_
  refine ok_aload_n dX2_collect_27 rfl rfl ?_
  refine ok_getI dX2_collect_28 fX2_collect_34 (by decide) rp_k0 rfl ?_
  obtain ⟨P7, r6, h⟩ := h
  refine ok_callN2 dX2_collect_31 kX2_collect_37.1 oX5_sumUp uX5_sumUp kX2_collect_37.2.1 (fun U hU => hU.2.2) kX2_collect_37.2.2.1 kX2_collect_37.2.2.2 r6 rfl rfl (Nat.le_of_ble_eq_true rfl) ?_
  rintro _ M5 ⟨rfl, q8⟩
  replace h := h M5 q8
  refine ok_aload_n dX2_collect_34 rfl rfl ?_
  refine ok_iconst (v := 0) dX2_collect_35 (by decide) ?_
  refine ok_put dX2_collect_36 pX2_collect_24 (by decide) rp_k149 rfl rfl rfl ?_
  replace h := h _ rfl
  refine ok_iconst (v := 0) dX2_collect_39 (by decide) ?_
  refine ok_istore dX2_collect_40 (by decide) rfl ?_
  exact ok_mask [true, true, false, true, true, true, false] h
theorem vX2_collect_42 (E : rp_E) (post : Option Int32 → rp_M → Prop) (M : rp_M) (l3 : Int32) (l4 : Int32) (l5 : Int32) (h : (l3 < l5 → (post none M)) ∧ (¬ l3 < l5 → ((¬ (l5 &&& (l3 ^^^ (-1))) = 0 → (rp_G E YX2_collect post 42 [.ref 149, .ref 139, .null, .int l3, .int l4, .int (l5 + 1), .null] [] M)) ∧ ((l5 &&& (l3 ^^^ (-1))) = 0 → (∃ v14 M15, rp_C E YJ6_bitCount_0f7a4 [.int (l3 ^^^ l5)] M (some v14) M15 ∧ ((l4 < v14 → (rp_G E YX2_collect post 42 [.ref 149, .ref 139, .null, .int l3, .int l4, .int (l5 + 1), .null] [] M15)) ∧ (¬ l4 < v14 → (∃ v18 M19, rp_C E YX0_allows [.ref 139, .int l5] M15 (some v18) M19 ∧ ((v18 = 0 → (rp_G E YX2_collect post 42 [.ref 149, .ref 139, .null, .int l3, .int l4, .int (l5 + 1), .null] [] M19)) ∧ (¬ v18 = 0 → (vp_in (M19 149 4) 4096 ∧ (∀ M23, M23 = rp_s M19 152 (Int32.toNatClampNeg (M19 149 4)) l5 → (∀ M24, M24 = rp_s M23 149 4 ((M23 149 4) + 1) → (rp_G E YX2_collect post 42 [.ref 149, .ref 139, .null, .int l3, .int l4, .int (l5 + 1), .null] [] M24)))))))))))))) : rp_G E YX2_collect post 42 [.ref 149, .ref 139, .null, .int l3, .int l4, .int l5, .null] [] M := by
  refine ok_iload dX2_collect_42 rfl ?_
  refine ok_iload_n dX2_collect_44 rfl rfl ?_
  refine ok_icmp_gt (tgt := 117) dX2_collect_45 (by decide) (fun c10 => ?_) (fun c10 => ?_)
  · replace h := h.1 c10
    exact ok_return dX2_collect_117 rfl h
  · replace h := h.2 c10
    refine ok_iload dX2_collect_48 rfl ?_
    refine ok_iload_n dX2_collect_50 rfl rfl ?_
    refine ok_iconst (v := (-1)) dX2_collect_51 (by decide) ?_
    refine ok_ixor dX2_collect_52 ?_
    refine ok_iand dX2_collect_53 ?_
    refine ok_if_ne (tgt := 61) dX2_collect_54 (by decide) (fun c11 => ?_) (fun c11 => ?_)
    · replace h := h.1 c11
      refine ok_iconst (v := 0) dX2_collect_61 (by decide) ?_
      refine ok_istore dX2_collect_62 (by decide) rfl ?_
      refine ok_iload dX2_collect_64 rfl ?_
      refine ok_if_eq (tgt := 111) dX2_collect_66 (by decide) (fun c12 => ?_) (fun c12 => absurd c12 (by decide))
      refine ok_iinc2 (w := 1) dX2_collect_111 rfl (by decide) (by decide) rfl ?_
      refine ok_goto (tgt := 42) dX2_collect_114 (by decide) ?_
      exact ok_mask [true, true, false, true, true, true, false] h
    · replace h := h.2 c11
      refine ok_iconst (v := 1) dX2_collect_57 (by decide) ?_
      refine ok_goto (tgt := 62) dX2_collect_58 (by decide) ?_
      refine ok_istore dX2_collect_62 (by decide) rfl ?_
      refine ok_iload dX2_collect_64 rfl ?_
      refine ok_if_eq (tgt := 111) dX2_collect_66 (by decide) (fun c13 => absurd c13 (by decide)) (fun c13 => ?_)
      refine ok_iload_n dX2_collect_69 rfl rfl ?_
      refine ok_iload dX2_collect_70 rfl ?_
      refine ok_ixor dX2_collect_72 ?_
      obtain ⟨v14, M15, r16, h⟩ := h
      refine ok_callS2 dX2_collect_73 kX2_collect_41 r16 rfl rfl (Nat.le_of_ble_eq_true rfl) ?_
      rintro _ _ ⟨rfl, rfl⟩
      refine ok_iload dX2_collect_76 rfl ?_
      refine ok_icmp_gt (tgt := 111) dX2_collect_78 (by decide) (fun c17 => ?_) (fun c17 => ?_)
      · replace h := h.1 c17
        refine ok_iinc2 (w := 1) dX2_collect_111 rfl (by decide) (by decide) rfl ?_
        refine ok_goto (tgt := 42) dX2_collect_114 (by decide) ?_
        exact ok_mask [true, true, false, true, true, true, false] h
      · replace h := h.2 c17
        refine ok_aload_n dX2_collect_81 rfl rfl ?_
        refine ok_iload dX2_collect_82 rfl ?_
        obtain ⟨v18, M19, r20, h⟩ := h
        refine ok_callV2 dX2_collect_84 kX2_collect_47 r20 (by decide) rp_k139 rfl rfl (Nat.le_of_ble_eq_true rfl) ?_
        rintro _ _ ⟨rfl, rfl⟩
        refine ok_if_eq (tgt := 111) dX2_collect_87 (by decide) (fun c21 => ?_) (fun c21 => ?_)
        · replace h := h.1 c21
          refine ok_iinc2 (w := 1) dX2_collect_111 rfl (by decide) (by decide) rfl ?_
          refine ok_goto (tgt := 42) dX2_collect_114 (by decide) ?_
          exact ok_mask [true, true, false, true, true, true, false] h
        · replace h := h.2 c21
          refine ok_aload_n dX2_collect_90 rfl rfl ?_
          refine ok_getR (j := 152) dX2_collect_91 fX2_collect_18 (by decide) rp_k149 rfl (by decide) ?_
          refine ok_aload_n dX2_collect_94 rfl rfl ?_
          refine ok_getI dX2_collect_95 fX2_collect_24 (by decide) rp_k149 rfl ?_
          refine ok_iload dX2_collect_98 rfl ?_
          have b22 := h.1
          replace h := h.2
          refine ok_iastore dX2_collect_100 (by decide) rp_k152 b22 rfl ?_
          replace h := h _ rfl
          refine ok_aload_n dX2_collect_101 rfl rfl ?_
          refine ok_dup dX2_collect_102 rfl ?_
          refine ok_getI dX2_collect_103 fX2_collect_24 (by decide) rp_k149 rfl ?_
          refine ok_iconst (v := 1) dX2_collect_106 (by decide) ?_
          refine ok_iadd dX2_collect_107 ?_
          refine ok_put dX2_collect_108 pX2_collect_24 (by decide) rp_k149 rfl rfl rfl ?_
          replace h := h _ rfl
          refine ok_iinc2 (w := 1) dX2_collect_111 rfl (by decide) (by decide) rfl ?_
          refine ok_goto (tgt := 42) dX2_collect_114 (by decide) ?_
          exact ok_mask [true, true, false, true, true, true, false] h
theorem vX2_profitIn (E : rp_E) (post : Option Int32 → rp_M → Prop) (M : rp_M) {r3 n3 : Nat} (hr3 : r3 < 170) (sr3 : rp_sh r3 = (0, n3, [])) (l1 : Int32) (l2 : Int32) (l4 : Int32) (h : rp_G E YX2_profitIn post 7 [.ref 149, .int l1, .int l2, .ref r3, .int l4, .int (-6), .int 0, .null] [] M) : rp_Run E YX2_profitIn [.ref 149, .int l1, .int l2, .ref r3, .int l4] M post := by
  refine ok_start (by decide) oX2_profitIn (Nat.le_of_ble_eq_true rfl) ?_
  refine ok_bipush (v := (-6)) dX2_profitIn_0 (by decide) ?_
  refine ok_istore dX2_profitIn_2 (by decide) rfl ?_
  refine ok_iconst (v := 0) dX2_profitIn_4 (by decide) ?_
  refine ok_istore dX2_profitIn_5 (by decide) rfl ?_
  exact ok_mask [true, true, true, true, true, true, true, false] h
theorem vX2_profitIn_7 (E : rp_E) (post : Option Int32 → rp_M → Prop) (M : rp_M) {r3 n3 : Nat} (hr3 : r3 < 170) (sr3 : rp_sh r3 = (0, n3, [])) (l1 : Int32) (l2 : Int32) (l4 : Int32) (l5 : Int32) (l6 : Int32) (h : ((M 149 4) ≤ l6 → (post (some l5) M)) ∧ (¬ (M 149 4) ≤ l6 → ((l2 ≤ l5 → (post (some l5) M)) ∧ (¬ l2 ≤ l5 → (vp_in l6 4096 ∧ (vp_in (M 152 (Int32.toNatClampNeg l6)) n3 ∧ (((M r3 (Int32.toNatClampNeg (M 152 (Int32.toNatClampNeg l6)))) ≤ l5 → (rp_G E YX2_profitIn post 7 [.ref 149, .int l1, .int l2, .ref r3, .int l4, .int l5, .int (l6 + 1), .null] [] M)) ∧ (¬ (M r3 (Int32.toNatClampNeg (M 152 (Int32.toNatClampNeg l6)))) ≤ l5 → (vp_in (M 152 (Int32.toNatClampNeg l6)) 4096 ∧ (vp_in ((M 152 (Int32.toNatClampNeg l6)) &&& l1) 4096 ∧ ((l4 < ((M 150 (Int32.toNatClampNeg (M 152 (Int32.toNatClampNeg l6)))) + (M 151 (Int32.toNatClampNeg ((M 152 (Int32.toNatClampNeg l6)) &&& l1)))) → (rp_G E YX2_profitIn post 7 [.ref 149, .int l1, .int l2, .ref r3, .int l4, .int l5, .int (l6 + 1), .null] [] M)) ∧ (¬ l4 < ((M 150 (Int32.toNatClampNeg (M 152 (Int32.toNatClampNeg l6)))) + (M 151 (Int32.toNatClampNeg ((M 152 (Int32.toNatClampNeg l6)) &&& l1)))) → (∀ M9, M9 = rp_s M 152 (Int32.toNatClampNeg l6) (M 152 0) → (∀ M10, M10 = rp_s M9 152 0 (M 152 (Int32.toNatClampNeg l6)) → (rp_G E YX2_profitIn post 7 [.ref 149, .int l1, .int l2, .ref r3, .int l4, .int (M r3 (Int32.toNatClampNeg (M 152 (Int32.toNatClampNeg l6)))), .int (l6 + 1), .null] [] M10))))))))))))))) : rp_G E YX2_profitIn post 7 [.ref 149, .int l1, .int l2, .ref r3, .int l4, .int l5, .int l6, .null] [] M := by
  refine ok_iload dX2_profitIn_7 rfl ?_
  refine ok_aload_n dX2_profitIn_9 rfl rfl ?_
  refine ok_getI dX2_profitIn_10 fX2_profitIn_24 (by decide) rp_k149 rfl ?_
  refine ok_icmp_ge (tgt := 95) dX2_profitIn_13 (by decide) (fun c1 => ?_) (fun c1 => ?_)
  · replace h := h.1 c1
    refine ok_iload dX2_profitIn_95 rfl ?_
    exact ok_ireturn dX2_profitIn_97 rfl h
  · replace h := h.2 c1
    refine ok_iload dX2_profitIn_16 rfl ?_
    refine ok_iload_n dX2_profitIn_18 rfl rfl ?_
    refine ok_icmp_ge (tgt := 95) dX2_profitIn_19 (by decide) (fun c2 => ?_) (fun c2 => ?_)
    · replace h := h.1 c2
      refine ok_iload dX2_profitIn_95 rfl ?_
      exact ok_ireturn dX2_profitIn_97 rfl h
    · replace h := h.2 c2
      refine ok_aload_n dX2_profitIn_22 rfl rfl ?_
      refine ok_getR (j := 152) dX2_profitIn_23 fX2_profitIn_18 (by decide) rp_k149 rfl (by decide) ?_
      refine ok_iload dX2_profitIn_26 rfl ?_
      have b3 := h.1
      replace h := h.2
      refine ok_iaload dX2_profitIn_28 (by decide) rp_k152 b3 rfl ?_
      refine ok_istore dX2_profitIn_29 (by decide) rfl ?_
      refine ok_aload_n dX2_profitIn_31 rfl rfl ?_
      refine ok_iload dX2_profitIn_32 rfl ?_
      have b4 := h.1
      replace h := h.2
      refine ok_iaload dX2_profitIn_34 hr3 sr3 b4 rfl ?_
      refine ok_iload dX2_profitIn_35 rfl ?_
      refine ok_icmp_le (tgt := 89) dX2_profitIn_37 (by decide) (fun c5 => ?_) (fun c5 => ?_)
      · replace h := h.1 c5
        refine ok_iinc2 (w := 1) dX2_profitIn_89 rfl (by decide) (by decide) rfl ?_
        refine ok_goto (tgt := 7) dX2_profitIn_92 (by decide) ?_
        exact ok_mask [true, true, true, true, true, true, true, false] h
      · replace h := h.2 c5
        refine ok_aload_n dX2_profitIn_40 rfl rfl ?_
        refine ok_getR (j := 150) dX2_profitIn_41 fX2_profitIn_9 (by decide) rp_k149 rfl (by decide) ?_
        refine ok_iload dX2_profitIn_44 rfl ?_
        have b6 := h.1
        replace h := h.2
        refine ok_iaload dX2_profitIn_46 (by decide) rp_k150 b6 rfl ?_
        refine ok_aload_n dX2_profitIn_47 rfl rfl ?_
        refine ok_getR (j := 151) dX2_profitIn_48 fX2_profitIn_15 (by decide) rp_k149 rfl (by decide) ?_
        refine ok_iload dX2_profitIn_51 rfl ?_
        refine ok_iload_n dX2_profitIn_53 rfl rfl ?_
        refine ok_iand dX2_profitIn_54 ?_
        have b7 := h.1
        replace h := h.2
        refine ok_iaload dX2_profitIn_55 (by decide) rp_k151 b7 rfl ?_
        refine ok_iadd dX2_profitIn_56 ?_
        refine ok_iload dX2_profitIn_57 rfl ?_
        refine ok_icmp_gt (tgt := 89) dX2_profitIn_59 (by decide) (fun c8 => ?_) (fun c8 => ?_)
        · replace h := h.1 c8
          refine ok_iinc2 (w := 1) dX2_profitIn_89 rfl (by decide) (by decide) rfl ?_
          refine ok_goto (tgt := 7) dX2_profitIn_92 (by decide) ?_
          exact ok_mask [true, true, true, true, true, true, true, false] h
        · replace h := h.2 c8
          refine ok_aload_n dX2_profitIn_62 rfl rfl ?_
          refine ok_iload dX2_profitIn_63 rfl ?_
          refine ok_iaload dX2_profitIn_65 hr3 sr3 b4 rfl ?_
          refine ok_istore dX2_profitIn_66 (by decide) rfl ?_
          refine ok_aload_n dX2_profitIn_68 rfl rfl ?_
          refine ok_getR (j := 152) dX2_profitIn_69 fX2_profitIn_18 (by decide) rp_k149 rfl (by decide) ?_
          refine ok_iload dX2_profitIn_72 rfl ?_
          refine ok_aload_n dX2_profitIn_74 rfl rfl ?_
          refine ok_getR (j := 152) dX2_profitIn_75 fX2_profitIn_18 (by decide) rp_k149 rfl (by decide) ?_
          refine ok_iconst (v := 0) dX2_profitIn_78 (by decide) ?_
          refine ok_iaload (j := 0) dX2_profitIn_79 (by decide) rp_k152 (rp_vi (by decide)) (by decide) ?_
          refine ok_iastore dX2_profitIn_80 (by decide) rp_k152 b3 rfl ?_
          replace h := h _ rfl
          refine ok_aload_n dX2_profitIn_81 rfl rfl ?_
          refine ok_getR (j := 152) dX2_profitIn_82 fX2_profitIn_18 (by decide) rp_k149 rfl (by decide) ?_
          refine ok_iconst (v := 0) dX2_profitIn_85 (by decide) ?_
          refine ok_iload dX2_profitIn_86 rfl ?_
          refine ok_iastore (j := 0) dX2_profitIn_88 (by decide) rp_k152 (rp_vi (by decide)) (by decide) ?_
          replace h := h _ rfl
          refine ok_iinc2 (w := 1) dX2_profitIn_89 rfl (by decide) (by decide) rfl ?_
          refine ok_goto (tgt := 7) dX2_profitIn_92 (by decide) ?_
          exact ok_mask [true, true, true, true, true, true, true, false] h
theorem vX2_plainValue (E : rp_E) (post : Option Int32 → rp_M → Prop) (M : rp_M) (l3 : Int32) (l4 : Int32) (h : rp_G E YX2_plainValue post 3 [.ref 149, .ref 139, .ref 0, .int l3, .int l4, .int 0, .null] [] M) : rp_Run E YX2_plainValue [.ref 149, .ref 139, .ref 0, .int l3, .int l4] M post := by
  refine ok_start (by decide) oX2_plainValue (Nat.le_of_ble_eq_true rfl) ?_
  refine ok_iconst (v := 0) dX2_plainValue_0 (by decide) ?_
  refine ok_istore dX2_plainValue_1 (by decide) rfl ?_
  exact ok_mask [true, true, true, true, true, true, false] h
theorem vX2_plainValue_3 (E : rp_E) (post : Option Int32 → rp_M → Prop) (M : rp_M) (l3 : Int32) (l4 : Int32) (l5 : Int32) (h : ((M 0 4) ≤ l5 → (∃ P4 : rp_M → Prop, rp_Run E YX5_sumUp [.ref 150, .ref 153, .int (M 0 4)] M (rp_P0 P4) ∧ (∀ M2, P4 M2 → (rp_G E YX2_plainValue post 75 [.ref 149, .ref 139, .null, .null, .int l4, .int 0, .int 0] [] M2)))) ∧ (¬ (M 0 4) ≤ l5 → (vp_in l5 12 ∧ (∀ M7, M7 = rp_s M 153 (Int32.toNatClampNeg l5) ((M 3 (Int32.toNatClampNeg l5)) + (if ((M 4 (Int32.toNatClampNeg l5)) - l3) < 0 then 0 else ((M 4 (Int32.toNatClampNeg l5)) - l3))) → (rp_G E YX2_plainValue post 3 [.ref 149, .ref 139, .ref 0, .int l3, .int l4, .int (l5 + 1), .null] [] M7))))) : rp_G E YX2_plainValue post 3 [.ref 149, .ref 139, .ref 0, .int l3, .int l4, .int l5, .null] [] M := by
  refine ok_iload dX2_plainValue_3 rfl ?_
  refine ok_aload_n dX2_plainValue_5 rfl rfl ?_
  refine ok_getI dX2_plainValue_6 fX2_plainValue_34 (by decide) rp_k0 rfl ?_
  refine ok_icmp_ge (tgt := 54) dX2_plainValue_9 (by decide) (fun c1 => ?_) (fun c1 => ?_)
  · replace h := h.1 c1
    refine ok_aload_n dX2_plainValue_54 rfl rfl ?_
    refine ok_getR (j := 150) dX2_plainValue_55 fX2_plainValue_9 (by decide) rp_k149 rfl (by decide) ?_
    refine ok_aload_n dX2_plainValue_58 rfl rfl ?_
    refine ok_getR (j := 153) dX2_plainValue_59 fX2_plainValue_21 (by decide) rp_k149 rfl (by decide) ?_
    refine ok_aload_n dX2_plainValue_62 rfl rfl ?_
    refine ok_getI dX2_plainValue_63 fX2_plainValue_34 (by decide) rp_k0 rfl ?_
    obtain ⟨P4, r3, h⟩ := h
    refine ok_callN2 dX2_plainValue_66 kX2_plainValue_37.1 oX5_sumUp uX5_sumUp kX2_plainValue_37.2.1 (fun U hU => hU.2.2) kX2_plainValue_37.2.2.1 kX2_plainValue_37.2.2.2 r3 rfl rfl (Nat.le_of_ble_eq_true rfl) ?_
    rintro _ M2 ⟨rfl, q5⟩
    replace h := h M2 q5
    refine ok_iconst (v := 0) dX2_plainValue_69 (by decide) ?_
    refine ok_istore dX2_plainValue_70 (by decide) rfl ?_
    refine ok_iconst (v := 0) dX2_plainValue_72 (by decide) ?_
    refine ok_istore dX2_plainValue_73 (by decide) rfl ?_
    exact ok_mask [true, true, false, false, true, true, true] h
  · replace h := h.2 c1
    refine ok_aload_n dX2_plainValue_12 rfl rfl ?_
    refine ok_getR (j := 1) dX2_plainValue_13 fX2_plainValue_28 (by decide) rp_k0 rfl (by decide) ?_
    refine ok_iconst (v := 2) dX2_plainValue_16 (by decide) ?_
    refine ok_aaload2 (j := 4) dX2_plainValue_17 (by decide) rp_k1 (rp_vi (by decide)) (by rfl) (by decide) ?_
    refine ok_iload dX2_plainValue_18 rfl ?_
    have b6 := h.1
    replace h := h.2
    refine ok_iaload dX2_plainValue_20 (by decide) rp_k4 b6 rfl ?_
    refine ok_iload_n dX2_plainValue_21 rfl rfl ?_
    refine ok_isub dX2_plainValue_22 ?_
    refine ok_iconst (v := 0) dX2_plainValue_23 (by decide) ?_
    refine ok_mmax dX2_plainValue_24 kX2_plainValue_53 (by decide) ?_
    refine ok_istore dX2_plainValue_27 (by decide) rfl ?_
    refine ok_aload_n dX2_plainValue_29 rfl rfl ?_
    refine ok_getR (j := 153) dX2_plainValue_30 fX2_plainValue_21 (by decide) rp_k149 rfl (by decide) ?_
    refine ok_iload dX2_plainValue_33 rfl ?_
    refine ok_aload_n dX2_plainValue_35 rfl rfl ?_
    refine ok_getR (j := 1) dX2_plainValue_36 fX2_plainValue_28 (by decide) rp_k0 rfl (by decide) ?_
    refine ok_iconst (v := 1) dX2_plainValue_39 (by decide) ?_
    refine ok_aaload2 (j := 3) dX2_plainValue_40 (by decide) rp_k1 (rp_vi (by decide)) (by rfl) (by decide) ?_
    refine ok_iload dX2_plainValue_41 rfl ?_
    refine ok_iaload dX2_plainValue_43 (by decide) rp_k3 b6 rfl ?_
    refine ok_iload dX2_plainValue_44 rfl ?_
    refine ok_iadd dX2_plainValue_46 ?_
    refine ok_iastore dX2_plainValue_47 (by decide) rp_k153 b6 rfl ?_
    replace h := h _ rfl
    refine ok_iinc2 (w := 1) dX2_plainValue_48 rfl (by decide) (by decide) rfl ?_
    refine ok_goto (tgt := 3) dX2_plainValue_51 (by decide) ?_
    exact ok_mask [true, true, true, true, true, true, false] h
theorem vX2_plainValue_75 (E : rp_E) (post : Option Int32 → rp_M → Prop) (M : rp_M) (l4 : Int32) (l5 : Int32) (l6 : Int32) (h : ((M 139 8) ≤ l6 → (post (some l5) M)) ∧ (¬ (M 139 8) ≤ l6 → (vp_in l6 4096 ∧ ((l4 < (M 150 (Int32.toNatClampNeg l6)) → (rp_G E YX2_plainValue post 75 [.ref 149, .ref 139, .null, .null, .int l4, .int l5, .int (l6 + 1)] [] M)) ∧ (¬ l4 < (M 150 (Int32.toNatClampNeg l6)) → (((M 142 (Int32.toNatClampNeg l6)) ≤ l5 → (rp_G E YX2_plainValue post 75 [.ref 149, .ref 139, .null, .null, .int l4, .int l5, .int (l6 + 1)] [] M)) ∧ (¬ (M 142 (Int32.toNatClampNeg l6)) ≤ l5 → (∃ v12 M13, rp_C E YX0_allows [.ref 139, .int l6] M (some v12) M13 ∧ ((v12 = 0 → (rp_G E YX2_plainValue post 75 [.ref 149, .ref 139, .null, .null, .int l4, .int l5, .int (l6 + 1)] [] M13)) ∧ (¬ v12 = 0 → (rp_G E YX2_plainValue post 75 [.ref 149, .ref 139, .null, .null, .int l4, .int (M13 142 (Int32.toNatClampNeg l6)), .int (l6 + 1)] [] M13))))))))))) : rp_G E YX2_plainValue post 75 [.ref 149, .ref 139, .null, .null, .int l4, .int l5, .int l6] [] M := by
  refine ok_iload dX2_plainValue_75 rfl ?_
  refine ok_aload_n dX2_plainValue_77 rfl rfl ?_
  refine ok_getI dX2_plainValue_78 fX2_plainValue_59 (by decide) rp_k139 rfl ?_
  refine ok_icmp_ge (tgt := 132) dX2_plainValue_81 (by decide) (fun c8 => ?_) (fun c8 => ?_)
  · replace h := h.1 c8
    refine ok_iload dX2_plainValue_132 rfl ?_
    exact ok_ireturn dX2_plainValue_134 rfl h
  · replace h := h.2 c8
    refine ok_aload_n dX2_plainValue_84 rfl rfl ?_
    refine ok_getR (j := 150) dX2_plainValue_85 fX2_plainValue_9 (by decide) rp_k149 rfl (by decide) ?_
    refine ok_iload dX2_plainValue_88 rfl ?_
    have b9 := h.1
    replace h := h.2
    refine ok_iaload dX2_plainValue_90 (by decide) rp_k150 b9 rfl ?_
    refine ok_iload dX2_plainValue_91 rfl ?_
    refine ok_icmp_gt (tgt := 126) dX2_plainValue_93 (by decide) (fun c10 => ?_) (fun c10 => ?_)
    · replace h := h.1 c10
      refine ok_iinc2 (w := 1) dX2_plainValue_126 rfl (by decide) (by decide) rfl ?_
      refine ok_goto (tgt := 75) dX2_plainValue_129 (by decide) ?_
      exact ok_mask [true, true, false, false, true, true, true] h
    · replace h := h.2 c10
      refine ok_aload_n dX2_plainValue_96 rfl rfl ?_
      refine ok_getR (j := 142) dX2_plainValue_97 fX2_plainValue_62 (by decide) rp_k139 rfl (by decide) ?_
      refine ok_iload dX2_plainValue_100 rfl ?_
      refine ok_iaload dX2_plainValue_102 (by decide) rp_k142 b9 rfl ?_
      refine ok_iload dX2_plainValue_103 rfl ?_
      refine ok_icmp_le (tgt := 126) dX2_plainValue_105 (by decide) (fun c11 => ?_) (fun c11 => ?_)
      · replace h := h.1 c11
        refine ok_iinc2 (w := 1) dX2_plainValue_126 rfl (by decide) (by decide) rfl ?_
        refine ok_goto (tgt := 75) dX2_plainValue_129 (by decide) ?_
        exact ok_mask [true, true, false, false, true, true, true] h
      · replace h := h.2 c11
        refine ok_aload_n dX2_plainValue_108 rfl rfl ?_
        refine ok_iload dX2_plainValue_109 rfl ?_
        obtain ⟨v12, M13, r14, h⟩ := h
        refine ok_callV2 dX2_plainValue_111 kX2_plainValue_47 r14 (by decide) rp_k139 rfl rfl (Nat.le_of_ble_eq_true rfl) ?_
        rintro _ _ ⟨rfl, rfl⟩
        refine ok_if_eq (tgt := 126) dX2_plainValue_114 (by decide) (fun c15 => ?_) (fun c15 => ?_)
        · replace h := h.1 c15
          refine ok_iinc2 (w := 1) dX2_plainValue_126 rfl (by decide) (by decide) rfl ?_
          refine ok_goto (tgt := 75) dX2_plainValue_129 (by decide) ?_
          exact ok_mask [true, true, false, false, true, true, true] h
        · replace h := h.2 c15
          refine ok_aload_n dX2_plainValue_117 rfl rfl ?_
          refine ok_getR (j := 142) dX2_plainValue_118 fX2_plainValue_62 (by decide) rp_k139 rfl (by decide) ?_
          refine ok_iload dX2_plainValue_121 rfl ?_
          refine ok_iaload dX2_plainValue_123 (by decide) rp_k142 b9 rfl ?_
          refine ok_istore dX2_plainValue_124 (by decide) rfl ?_
          refine ok_iinc2 (w := 1) dX2_plainValue_126 rfl (by decide) (by decide) rfl ?_
          refine ok_goto (tgt := 75) dX2_plainValue_129 (by decide) ?_
          exact ok_mask [true, true, false, false, true, true, true] h
theorem vX3_clear (E : rp_E) (post : Option Int32 → rp_M → Prop) (M : rp_M) (l1 : Int32) (l2 : Int32) (h : rp_G E YX3_clear post 15 [.ref 147, .null, .null, .int (if 9999 < (if l2 < l1 then l2 else l1) then 9999 else (if l2 < l1 then l2 else l1)), .int 0] [] M) : rp_Run E YX3_clear [.ref 147, .int l1, .int l2] M post := by
  refine ok_start (by decide) oX3_clear (Nat.le_of_ble_eq_true rfl) ?_
  refine ok_iload_n dX3_clear_0 rfl rfl ?_
  refine ok_iload_n dX3_clear_1 rfl rfl ?_
  refine ok_mmin dX3_clear_2 kX3_clear_49 (by decide) ?_
  refine ok_sipush (v := 9999) dX3_clear_5 (by decide) ?_
  refine ok_mmin dX3_clear_8 kX3_clear_49 (by decide) ?_
  refine ok_istore_n dX3_clear_11 rfl (by decide) rfl ?_
  refine ok_iconst (v := 0) dX3_clear_12 (by decide) ?_
  refine ok_istore dX3_clear_13 (by decide) rfl ?_
  exact ok_mask [true, false, false, true, true] h
theorem vX3_clear_15 (E : rp_E) (post : Option Int32 → rp_M → Prop) (M : rp_M) (l3 : Int32) (l4 : Int32) (h : (l3 < l4 → (post (some l3) M)) ∧ (¬ l3 < l4 → (vp_in l4 10000 ∧ (∀ M3, M3 = rp_s M 148 (Int32.toNatClampNeg l4) (-1) → (rp_G E YX3_clear post 15 [.ref 147, .null, .null, .int l3, .int (l4 + 1)] [] M3))))) : rp_G E YX3_clear post 15 [.ref 147, .null, .null, .int l3, .int l4] [] M := by
  refine ok_iload dX3_clear_15 rfl ?_
  refine ok_iload_n dX3_clear_17 rfl rfl ?_
  refine ok_icmp_gt (tgt := 35) dX3_clear_18 (by decide) (fun c1 => ?_) (fun c1 => ?_)
  · replace h := h.1 c1
    refine ok_iload_n dX3_clear_35 rfl rfl ?_
    exact ok_ireturn dX3_clear_36 rfl h
  · replace h := h.2 c1
    refine ok_aload_n dX3_clear_21 rfl rfl ?_
    refine ok_getR (j := 148) dX3_clear_22 fX3_clear_9 (by decide) rp_k147 rfl (by decide) ?_
    refine ok_iload dX3_clear_25 rfl ?_
    refine ok_iconst (v := (-1)) dX3_clear_27 (by decide) ?_
    have b2 := h.1
    replace h := h.2
    refine ok_iastore dX3_clear_28 (by decide) rp_k148 b2 rfl ?_
    replace h := h _ rfl
    refine ok_iinc2 (w := 1) dX3_clear_29 rfl (by decide) (by decide) rfl ?_
    refine ok_goto (tgt := 15) dX3_clear_32 (by decide) ?_
    exact ok_mask [true, false, false, true, true] h
theorem vX3_offer (E : rp_E) (post : Option Int32 → rp_M → Prop) (M : rp_M) {r3 n3 : Nat} (hr3 : r3 < 170) (sr3 : rp_sh r3 = (0, n3, [])) (l1 : Int32) (l2 : Int32) (h : vp_in l2 10000 ∧ (((M 148 (Int32.toNatClampNeg l2)) < 0 → (∀ M3, M3 = rp_s M 148 (Int32.toNatClampNeg l2) l1 → (post none M3))) ∧ (¬ (M 148 (Int32.toNatClampNeg l2)) < 0 → (vp_in l1 n3 ∧ (vp_in (M 148 (Int32.toNatClampNeg l2)) n3 ∧ (((M r3 (Int32.toNatClampNeg l1)) ≤ (M r3 (Int32.toNatClampNeg (M 148 (Int32.toNatClampNeg l2)))) → (post none M)) ∧ (¬ (M r3 (Int32.toNatClampNeg l1)) ≤ (M r3 (Int32.toNatClampNeg (M 148 (Int32.toNatClampNeg l2)))) → (∀ M7, M7 = rp_s M 148 (Int32.toNatClampNeg l2) l1 → (post none M7))))))))) : rp_Run E YX3_offer [.ref 147, .int l1, .int l2, .ref r3] M post := by
  refine ok_start (by decide) oX3_offer (Nat.le_of_ble_eq_true rfl) ?_
  refine ok_aload_n dX3_offer_0 rfl rfl ?_
  refine ok_getR (j := 148) dX3_offer_1 fX3_offer_9 (by decide) rp_k147 rfl (by decide) ?_
  refine ok_iload_n dX3_offer_4 rfl rfl ?_
  have b1 := h.1
  replace h := h.2
  refine ok_iaload dX3_offer_5 (by decide) rp_k148 b1 rfl ?_
  refine ok_if_lt (tgt := 23) dX3_offer_6 (by decide) (fun c2 => ?_) (fun c2 => ?_)
  · replace h := h.1 c2
    refine ok_aload_n dX3_offer_23 rfl rfl ?_
    refine ok_getR (j := 148) dX3_offer_24 fX3_offer_9 (by decide) rp_k147 rfl (by decide) ?_
    refine ok_iload_n dX3_offer_27 rfl rfl ?_
    refine ok_iload_n dX3_offer_28 rfl rfl ?_
    refine ok_iastore dX3_offer_29 (by decide) rp_k148 b1 rfl ?_
    replace h := h _ rfl
    exact ok_return dX3_offer_30 rfl h
  · replace h := h.2 c2
    refine ok_aload_n dX3_offer_9 rfl rfl ?_
    refine ok_iload_n dX3_offer_10 rfl rfl ?_
    have b4 := h.1
    replace h := h.2
    refine ok_iaload dX3_offer_11 hr3 sr3 b4 rfl ?_
    refine ok_aload_n dX3_offer_12 rfl rfl ?_
    refine ok_aload_n dX3_offer_13 rfl rfl ?_
    refine ok_getR (j := 148) dX3_offer_14 fX3_offer_9 (by decide) rp_k147 rfl (by decide) ?_
    refine ok_iload_n dX3_offer_17 rfl rfl ?_
    refine ok_iaload dX3_offer_18 (by decide) rp_k148 b1 rfl ?_
    have b5 := h.1
    replace h := h.2
    refine ok_iaload dX3_offer_19 hr3 sr3 b5 rfl ?_
    refine ok_icmp_le (tgt := 30) dX3_offer_20 (by decide) (fun c6 => ?_) (fun c6 => ?_)
    · replace h := h.1 c6
      exact ok_return dX3_offer_30 rfl h
    · replace h := h.2 c6
      refine ok_aload_n dX3_offer_23 rfl rfl ?_
      refine ok_getR (j := 148) dX3_offer_24 fX3_offer_9 (by decide) rp_k147 rfl (by decide) ?_
      refine ok_iload_n dX3_offer_27 rfl rfl ?_
      refine ok_iload_n dX3_offer_28 rfl rfl ?_
      refine ok_iastore dX3_offer_29 (by decide) rp_k148 b1 rfl ?_
      replace h := h _ rfl
      exact ok_return dX3_offer_30 rfl h
theorem vX3_keepRising (E : rp_E) (post : Option Int32 → rp_M → Prop) (M : rp_M) {r2 n2 : Nat} (hr2 : r2 < 170) (sr2 : rp_sh r2 = (0, n2, [])) (l1 : Int32) (h : ∀ M1, M1 = rp_s M 147 1 0 → (rp_G E YX3_keepRising post 7 [.ref 147, .int l1, .ref r2, .int 0, .null] [] M1)) : rp_Run E YX3_keepRising [.ref 147, .int l1, .ref r2] M post := by
  refine ok_start (by decide) oX3_keepRising (Nat.le_of_ble_eq_true rfl) ?_
  refine ok_aload_n dX3_keepRising_0 rfl rfl ?_
  refine ok_iconst (v := 0) dX3_keepRising_1 (by decide) ?_
  refine ok_put dX3_keepRising_2 pX3_keepRising_15 (by decide) rp_k147 rfl rfl rfl ?_
  replace h := h _ rfl
  refine ok_iconst (v := 0) dX3_keepRising_5 (by decide) ?_
  refine ok_istore_n dX3_keepRising_6 rfl (by decide) rfl ?_
  exact ok_mask [true, true, true, true, false] h
theorem vX3_keepRising_7 (E : rp_E) (post : Option Int32 → rp_M → Prop) (M : rp_M) {r2 n2 : Nat} (hr2 : r2 < 170) (sr2 : rp_sh r2 = (0, n2, [])) (l1 : Int32) (l3 : Int32) (h : (l1 < l3 → (post none M)) ∧ (¬ l1 < l3 → (vp_in l3 10000 ∧ (((M 148 (Int32.toNatClampNeg l3)) < 0 → (rp_G E YX3_keepRising post 7 [.ref 147, .int l1, .ref r2, .int (l3 + 1), .null] [] M)) ∧ (¬ (M 148 (Int32.toNatClampNeg l3)) < 0 → (((M 147 1) = 0 → (vp_in (M 147 1) 10000 ∧ (∀ M7, M7 = rp_s M 148 (Int32.toNatClampNeg (M 147 1)) (M 148 (Int32.toNatClampNeg l3)) → (∀ M8, M8 = rp_s M7 147 1 ((M7 147 1) + 1) → (rp_G E YX3_keepRising post 7 [.ref 147, .int l1, .ref r2, .int (l3 + 1), .null] [] M8))))) ∧ (¬ (M 147 1) = 0 → (vp_in (M 148 (Int32.toNatClampNeg l3)) n2 ∧ (vp_in ((M 147 1) - 1) 10000 ∧ (vp_in (M 148 (Int32.toNatClampNeg ((M 147 1) - 1))) n2 ∧ (((M r2 (Int32.toNatClampNeg (M 148 (Int32.toNatClampNeg l3)))) ≤ (M r2 (Int32.toNatClampNeg (M 148 (Int32.toNatClampNeg ((M 147 1) - 1))))) → (rp_G E YX3_keepRising post 7 [.ref 147, .int l1, .ref r2, .int (l3 + 1), .null] [] M)) ∧ (¬ (M r2 (Int32.toNatClampNeg (M 148 (Int32.toNatClampNeg l3)))) ≤ (M r2 (Int32.toNatClampNeg (M 148 (Int32.toNatClampNeg ((M 147 1) - 1))))) → (vp_in (M 147 1) 10000 ∧ (∀ M14, M14 = rp_s M 148 (Int32.toNatClampNeg (M 147 1)) (M 148 (Int32.toNatClampNeg l3)) → (∀ M15, M15 = rp_s M14 147 1 ((M14 147 1) + 1) → (rp_G E YX3_keepRising post 7 [.ref 147, .int l1, .ref r2, .int (l3 + 1), .null] [] M15)))))))))))))))) : rp_G E YX3_keepRising post 7 [.ref 147, .int l1, .ref r2, .int l3, .null] [] M := by
  refine ok_iload_n dX3_keepRising_7 rfl rfl ?_
  refine ok_iload_n dX3_keepRising_8 rfl rfl ?_
  refine ok_icmp_gt (tgt := 79) dX3_keepRising_9 (by decide) (fun c2 => ?_) (fun c2 => ?_)
  · replace h := h.1 c2
    exact ok_return dX3_keepRising_79 rfl h
  · replace h := h.2 c2
    refine ok_aload_n dX3_keepRising_12 rfl rfl ?_
    refine ok_getR (j := 148) dX3_keepRising_13 fX3_keepRising_9 (by decide) rp_k147 rfl (by decide) ?_
    refine ok_iload_n dX3_keepRising_16 rfl rfl ?_
    have b3 := h.1
    replace h := h.2
    refine ok_iaload dX3_keepRising_17 (by decide) rp_k148 b3 rfl ?_
    refine ok_istore dX3_keepRising_18 (by decide) rfl ?_
    refine ok_iload dX3_keepRising_20 rfl ?_
    refine ok_if_lt (tgt := 73) dX3_keepRising_22 (by decide) (fun c4 => ?_) (fun c4 => ?_)
    · replace h := h.1 c4
      refine ok_iinc2 (w := 1) dX3_keepRising_73 rfl (by decide) (by decide) rfl ?_
      refine ok_goto (tgt := 7) dX3_keepRising_76 (by decide) ?_
      exact ok_mask [true, true, true, true, false] h
    · replace h := h.2 c4
      refine ok_aload_n dX3_keepRising_25 rfl rfl ?_
      refine ok_getI dX3_keepRising_26 fX3_keepRising_15 (by decide) rp_k147 rfl ?_
      refine ok_if_eq (tgt := 52) dX3_keepRising_29 (by decide) (fun c5 => ?_) (fun c5 => ?_)
      · replace h := h.1 c5
        refine ok_aload_n dX3_keepRising_52 rfl rfl ?_
        refine ok_getR (j := 148) dX3_keepRising_53 fX3_keepRising_9 (by decide) rp_k147 rfl (by decide) ?_
        refine ok_aload_n dX3_keepRising_56 rfl rfl ?_
        refine ok_getI dX3_keepRising_57 fX3_keepRising_15 (by decide) rp_k147 rfl ?_
        refine ok_iload dX3_keepRising_60 rfl ?_
        have b6 := h.1
        replace h := h.2
        refine ok_iastore dX3_keepRising_62 (by decide) rp_k148 b6 rfl ?_
        replace h := h _ rfl
        refine ok_aload_n dX3_keepRising_63 rfl rfl ?_
        refine ok_dup dX3_keepRising_64 rfl ?_
        refine ok_getI dX3_keepRising_65 fX3_keepRising_15 (by decide) rp_k147 rfl ?_
        refine ok_iconst (v := 1) dX3_keepRising_68 (by decide) ?_
        refine ok_iadd dX3_keepRising_69 ?_
        refine ok_put dX3_keepRising_70 pX3_keepRising_15 (by decide) rp_k147 rfl rfl rfl ?_
        replace h := h _ rfl
        refine ok_iinc2 (w := 1) dX3_keepRising_73 rfl (by decide) (by decide) rfl ?_
        refine ok_goto (tgt := 7) dX3_keepRising_76 (by decide) ?_
        exact ok_mask [true, true, true, true, false] h
      · replace h := h.2 c5
        refine ok_aload_n dX3_keepRising_32 rfl rfl ?_
        refine ok_iload dX3_keepRising_33 rfl ?_
        have b9 := h.1
        replace h := h.2
        refine ok_iaload dX3_keepRising_35 hr2 sr2 b9 rfl ?_
        refine ok_aload_n dX3_keepRising_36 rfl rfl ?_
        refine ok_aload_n dX3_keepRising_37 rfl rfl ?_
        refine ok_getR (j := 148) dX3_keepRising_38 fX3_keepRising_9 (by decide) rp_k147 rfl (by decide) ?_
        refine ok_aload_n dX3_keepRising_41 rfl rfl ?_
        refine ok_getI dX3_keepRising_42 fX3_keepRising_15 (by decide) rp_k147 rfl ?_
        refine ok_iconst (v := 1) dX3_keepRising_45 (by decide) ?_
        refine ok_isub dX3_keepRising_46 ?_
        have b10 := h.1
        replace h := h.2
        refine ok_iaload dX3_keepRising_47 (by decide) rp_k148 b10 rfl ?_
        have b11 := h.1
        replace h := h.2
        refine ok_iaload dX3_keepRising_48 hr2 sr2 b11 rfl ?_
        refine ok_icmp_le (tgt := 73) dX3_keepRising_49 (by decide) (fun c12 => ?_) (fun c12 => ?_)
        · replace h := h.1 c12
          refine ok_iinc2 (w := 1) dX3_keepRising_73 rfl (by decide) (by decide) rfl ?_
          refine ok_goto (tgt := 7) dX3_keepRising_76 (by decide) ?_
          exact ok_mask [true, true, true, true, false] h
        · replace h := h.2 c12
          refine ok_aload_n dX3_keepRising_52 rfl rfl ?_
          refine ok_getR (j := 148) dX3_keepRising_53 fX3_keepRising_9 (by decide) rp_k147 rfl (by decide) ?_
          refine ok_aload_n dX3_keepRising_56 rfl rfl ?_
          refine ok_getI dX3_keepRising_57 fX3_keepRising_15 (by decide) rp_k147 rfl ?_
          refine ok_iload dX3_keepRising_60 rfl ?_
          have b13 := h.1
          replace h := h.2
          refine ok_iastore dX3_keepRising_62 (by decide) rp_k148 b13 rfl ?_
          replace h := h _ rfl
          refine ok_aload_n dX3_keepRising_63 rfl rfl ?_
          refine ok_dup dX3_keepRising_64 rfl ?_
          refine ok_getI dX3_keepRising_65 fX3_keepRising_15 (by decide) rp_k147 rfl ?_
          refine ok_iconst (v := 1) dX3_keepRising_68 (by decide) ?_
          refine ok_iadd dX3_keepRising_69 ?_
          refine ok_put dX3_keepRising_70 pX3_keepRising_15 (by decide) rp_k147 rfl rfl rfl ?_
          replace h := h _ rfl
          refine ok_iinc2 (w := 1) dX3_keepRising_73 rfl (by decide) (by decide) rfl ?_
          refine ok_goto (tgt := 7) dX3_keepRising_76 (by decide) ?_
          exact ok_mask [true, true, true, true, false] h
theorem vX3_buildFrontier (E : rp_E) (post : Option Int32 → rp_M → Prop) (M : rp_M)  (h : vp_in ((M 139 8) - 1) 4096 ∧ (∃ P5 : Int32 → rp_M → Prop, rp_Run E YX3_clear [.ref 147, .int (M 140 (Int32.toNatClampNeg ((M 139 8) - 1))), .int 9999] M (rp_P P5) ∧ (∀ v2 M3, P5 v2 M3 → (rp_G E YX3_buildFrontier post 21 [.ref 147, .ref 139, .int v2, .int 0] [] M3)))) : rp_Run E YX3_buildFrontier [.ref 147, .ref 139] M post := by
  refine ok_start (by decide) oX3_buildFrontier (Nat.le_of_ble_eq_true rfl) ?_
  refine ok_aload_n dX3_buildFrontier_0 rfl rfl ?_
  refine ok_aload_n dX3_buildFrontier_1 rfl rfl ?_
  refine ok_getR (j := 140) dX3_buildFrontier_2 fX3_buildFrontier_19 (by decide) rp_k139 rfl (by decide) ?_
  refine ok_aload_n dX3_buildFrontier_5 rfl rfl ?_
  refine ok_getI dX3_buildFrontier_6 fX3_buildFrontier_24 (by decide) rp_k139 rfl ?_
  refine ok_iconst (v := 1) dX3_buildFrontier_9 (by decide) ?_
  refine ok_isub dX3_buildFrontier_10 ?_
  have b1 := h.1
  replace h := h.2
  refine ok_iaload dX3_buildFrontier_11 (by decide) rp_k140 b1 rfl ?_
  refine ok_sipush (v := 9999) dX3_buildFrontier_12 (by decide) ?_
  obtain ⟨P5, r4, h⟩ := h
  refine ok_callV2 dX3_buildFrontier_15 kX3_buildFrontier_27 r4 (by decide) rp_k147 rfl rfl (Nat.le_of_ble_eq_true rfl) ?_
  rintro _ M3 ⟨v2, rfl, q6⟩
  replace h := h v2 M3 q6
  refine ok_istore_n dX3_buildFrontier_18 rfl (by decide) rfl ?_
  refine ok_iconst (v := 0) dX3_buildFrontier_19 (by decide) ?_
  refine ok_istore_n dX3_buildFrontier_20 rfl (by decide) rfl ?_
  exact ok_mask [true, true, true, true] h
theorem vX3_buildFrontier_21 (E : rp_E) (post : Option Int32 → rp_M → Prop) (M : rp_M) (l2 : Int32) (l3 : Int32) (h : ((M 139 8) ≤ l3 → (∃ P10 : rp_M → Prop, rp_Run E YX3_keepRising [.ref 147, .int l2, .ref 141] M (rp_P0 P10) ∧ (∀ M8, P10 M8 → (post none M8)))) ∧ (¬ (M 139 8) ≤ l3 → (∃ v12 M13, rp_C E YX0_stands [.ref 139, .int l3, .int l2] M (some v12) M13 ∧ ((v12 = 0 → (rp_G E YX3_buildFrontier post 21 [.ref 147, .ref 139, .int l2, .int (l3 + 1)] [] M13)) ∧ (¬ v12 = 0 → (vp_in l3 4096 ∧ (∃ P19 : rp_M → Prop, rp_Run E YX3_offer [.ref 147, .int l3, .int (M13 140 (Int32.toNatClampNeg l3)), .ref 141] M13 (rp_P0 P19) ∧ (∀ M17, P19 M17 → (rp_G E YX3_buildFrontier post 21 [.ref 147, .ref 139, .int l2, .int (l3 + 1)] [] M17))))))))) : rp_G E YX3_buildFrontier post 21 [.ref 147, .ref 139, .int l2, .int l3] [] M := by
  refine ok_iload_n dX3_buildFrontier_21 rfl rfl ?_
  refine ok_aload_n dX3_buildFrontier_22 rfl rfl ?_
  refine ok_getI dX3_buildFrontier_23 fX3_buildFrontier_24 (by decide) rp_k139 rfl ?_
  refine ok_icmp_ge (tgt := 59) dX3_buildFrontier_26 (by decide) (fun c7 => ?_) (fun c7 => ?_)
  · replace h := h.1 c7
    refine ok_aload_n dX3_buildFrontier_59 rfl rfl ?_
    refine ok_iload_n dX3_buildFrontier_60 rfl rfl ?_
    refine ok_aload_n dX3_buildFrontier_61 rfl rfl ?_
    refine ok_getR (j := 141) dX3_buildFrontier_62 fX3_buildFrontier_35 (by decide) rp_k139 rfl (by decide) ?_
    obtain ⟨P10, r9, h⟩ := h
    refine ok_callV2 dX3_buildFrontier_65 kX3_buildFrontier_42 r9 (by decide) rp_k147 rfl rfl (Nat.le_of_ble_eq_true rfl) ?_
    rintro _ M8 ⟨rfl, q11⟩
    replace h := h M8 q11
    exact ok_return dX3_buildFrontier_68 rfl h
  · replace h := h.2 c7
    refine ok_aload_n dX3_buildFrontier_29 rfl rfl ?_
    refine ok_iload_n dX3_buildFrontier_30 rfl rfl ?_
    refine ok_iload_n dX3_buildFrontier_31 rfl rfl ?_
    obtain ⟨v12, M13, r14, h⟩ := h
    refine ok_callV2 dX3_buildFrontier_32 kX3_buildFrontier_31 r14 (by decide) rp_k139 rfl rfl (Nat.le_of_ble_eq_true rfl) ?_
    rintro _ _ ⟨rfl, rfl⟩
    refine ok_if_eq (tgt := 53) dX3_buildFrontier_35 (by decide) (fun c15 => ?_) (fun c15 => ?_)
    · replace h := h.1 c15
      refine ok_iinc2 (w := 1) dX3_buildFrontier_53 rfl (by decide) (by decide) rfl ?_
      refine ok_goto (tgt := 21) dX3_buildFrontier_56 (by decide) ?_
      exact ok_mask [true, true, true, true] h
    · replace h := h.2 c15
      refine ok_aload_n dX3_buildFrontier_38 rfl rfl ?_
      refine ok_iload_n dX3_buildFrontier_39 rfl rfl ?_
      refine ok_aload_n dX3_buildFrontier_40 rfl rfl ?_
      refine ok_getR (j := 140) dX3_buildFrontier_41 fX3_buildFrontier_19 (by decide) rp_k139 rfl (by decide) ?_
      refine ok_iload_n dX3_buildFrontier_44 rfl rfl ?_
      have b16 := h.1
      replace h := h.2
      refine ok_iaload dX3_buildFrontier_45 (by decide) rp_k140 b16 rfl ?_
      refine ok_aload_n dX3_buildFrontier_46 rfl rfl ?_
      refine ok_getR (j := 141) dX3_buildFrontier_47 fX3_buildFrontier_35 (by decide) rp_k139 rfl (by decide) ?_
      obtain ⟨P19, r18, h⟩ := h
      refine ok_callV2 dX3_buildFrontier_50 kX3_buildFrontier_38 r18 (by decide) rp_k147 rfl rfl (Nat.le_of_ble_eq_true rfl) ?_
      rintro _ M17 ⟨rfl, q20⟩
      replace h := h M17 q20
      refine ok_iinc2 (w := 1) dX3_buildFrontier_53 rfl (by decide) (by decide) rfl ?_
      refine ok_goto (tgt := 21) dX3_buildFrontier_56 (by decide) ?_
      exact ok_mask [true, true, true, true] h
theorem vX3_buildList (E : rp_E) (post : Option Int32 → rp_M → Prop) (M : rp_M) (l2 : Int32) (l3 : Int32) (h : vp_in (((1 : Int32) <<< (l2 &&& 31) : Int32) - 1) 4096 ∧ (∃ P5 : Int32 → rp_M → Prop, rp_Run E YX3_clear [.ref 147, .int (M 140 (Int32.toNatClampNeg (((1 : Int32) <<< (l2 &&& 31) : Int32) - 1))), .int l3] M (rp_P P5) ∧ (∀ v2 M3, P5 v2 M3 → (rp_G E YX3_buildList post 24 [.ref 147, .ref 139, .null, .null, .int ((1 : Int32) <<< (l2 &&& 31) : Int32), .int v2, .int 0] [] M3)))) : rp_Run E YX3_buildList [.ref 147, .ref 139, .int l2, .int l3] M post := by
  refine ok_start (by decide) oX3_buildList (Nat.le_of_ble_eq_true rfl) ?_
  refine ok_iconst (v := 1) dX3_buildList_0 (by decide) ?_
  refine ok_iload_n dX3_buildList_1 rfl rfl ?_
  refine ok_ishl dX3_buildList_2 ?_
  refine ok_istore dX3_buildList_3 (by decide) rfl ?_
  refine ok_aload_n dX3_buildList_5 rfl rfl ?_
  refine ok_aload_n dX3_buildList_6 rfl rfl ?_
  refine ok_getR (j := 140) dX3_buildList_7 fX3_buildList_19 (by decide) rp_k139 rfl (by decide) ?_
  refine ok_iload dX3_buildList_10 rfl ?_
  refine ok_iconst (v := 1) dX3_buildList_12 (by decide) ?_
  refine ok_isub dX3_buildList_13 ?_
  have b1 := h.1
  replace h := h.2
  refine ok_iaload dX3_buildList_14 (by decide) rp_k140 b1 rfl ?_
  refine ok_iload_n dX3_buildList_15 rfl rfl ?_
  obtain ⟨P5, r4, h⟩ := h
  refine ok_callV2 dX3_buildList_16 kX3_buildList_27 r4 (by decide) rp_k147 rfl rfl (Nat.le_of_ble_eq_true rfl) ?_
  rintro _ M3 ⟨v2, rfl, q6⟩
  replace h := h v2 M3 q6
  refine ok_istore dX3_buildList_19 (by decide) rfl ?_
  refine ok_iconst (v := 0) dX3_buildList_21 (by decide) ?_
  refine ok_istore dX3_buildList_22 (by decide) rfl ?_
  exact ok_mask [true, true, false, false, true, true, true] h
theorem vX3_buildList_24 (E : rp_E) (post : Option Int32 → rp_M → Prop) (M : rp_M) (l4 : Int32) (l5 : Int32) (l6 : Int32) (h : (l4 ≤ l6 → (∃ P10 : rp_M → Prop, rp_Run E YX3_keepRising [.ref 147, .int l5, .ref 142] M (rp_P0 P10) ∧ (∀ M8, P10 M8 → (post none M8)))) ∧ (¬ l4 ≤ l6 → (vp_in l6 4096 ∧ ((l5 < (M 140 (Int32.toNatClampNeg l6)) → (rp_G E YX3_buildList post 24 [.ref 147, .ref 139, .null, .null, .int l4, .int l5, .int (l6 + 1)] [] M)) ∧ (¬ l5 < (M 140 (Int32.toNatClampNeg l6)) → (∃ P16 : rp_M → Prop, rp_Run E YX3_offer [.ref 147, .int l6, .int (M 140 (Int32.toNatClampNeg l6)), .ref 142] M (rp_P0 P16) ∧ (∀ M14, P16 M14 → (rp_G E YX3_buildList post 24 [.ref 147, .ref 139, .null, .null, .int l4, .int l5, .int (l6 + 1)] [] M14)))))))) : rp_G E YX3_buildList post 24 [.ref 147, .ref 139, .null, .null, .int l4, .int l5, .int l6] [] M := by
  refine ok_iload dX3_buildList_24 rfl ?_
  refine ok_iload dX3_buildList_26 rfl ?_
  refine ok_icmp_ge (tgt := 66) dX3_buildList_28 (by decide) (fun c7 => ?_) (fun c7 => ?_)
  · replace h := h.1 c7
    refine ok_aload_n dX3_buildList_66 rfl rfl ?_
    refine ok_iload dX3_buildList_67 rfl ?_
    refine ok_aload_n dX3_buildList_69 rfl rfl ?_
    refine ok_getR (j := 142) dX3_buildList_70 fX3_buildList_46 (by decide) rp_k139 rfl (by decide) ?_
    obtain ⟨P10, r9, h⟩ := h
    refine ok_callV2 dX3_buildList_73 kX3_buildList_42 r9 (by decide) rp_k147 rfl rfl (Nat.le_of_ble_eq_true rfl) ?_
    rintro _ M8 ⟨rfl, q11⟩
    replace h := h M8 q11
    exact ok_return dX3_buildList_76 rfl h
  · replace h := h.2 c7
    refine ok_aload_n dX3_buildList_31 rfl rfl ?_
    refine ok_getR (j := 140) dX3_buildList_32 fX3_buildList_19 (by decide) rp_k139 rfl (by decide) ?_
    refine ok_iload dX3_buildList_35 rfl ?_
    have b12 := h.1
    replace h := h.2
    refine ok_iaload dX3_buildList_37 (by decide) rp_k140 b12 rfl ?_
    refine ok_iload dX3_buildList_38 rfl ?_
    refine ok_icmp_gt (tgt := 60) dX3_buildList_40 (by decide) (fun c13 => ?_) (fun c13 => ?_)
    · replace h := h.1 c13
      refine ok_iinc2 (w := 1) dX3_buildList_60 rfl (by decide) (by decide) rfl ?_
      refine ok_goto (tgt := 24) dX3_buildList_63 (by decide) ?_
      exact ok_mask [true, true, false, false, true, true, true] h
    · replace h := h.2 c13
      refine ok_aload_n dX3_buildList_43 rfl rfl ?_
      refine ok_iload dX3_buildList_44 rfl ?_
      refine ok_aload_n dX3_buildList_46 rfl rfl ?_
      refine ok_getR (j := 140) dX3_buildList_47 fX3_buildList_19 (by decide) rp_k139 rfl (by decide) ?_
      refine ok_iload dX3_buildList_50 rfl ?_
      refine ok_iaload dX3_buildList_52 (by decide) rp_k140 b12 rfl ?_
      refine ok_aload_n dX3_buildList_53 rfl rfl ?_
      refine ok_getR (j := 142) dX3_buildList_54 fX3_buildList_46 (by decide) rp_k139 rfl (by decide) ?_
      obtain ⟨P16, r15, h⟩ := h
      refine ok_callV2 dX3_buildList_57 kX3_buildList_38 r15 (by decide) rp_k147 rfl rfl (Nat.le_of_ble_eq_true rfl) ?_
      rintro _ M14 ⟨rfl, q17⟩
      replace h := h M14 q17
      refine ok_iinc2 (w := 1) dX3_buildList_60 rfl (by decide) (by decide) rfl ?_
      refine ok_goto (tgt := 24) dX3_buildList_63 (by decide) ?_
      exact ok_mask [true, true, false, false, true, true, true] h
theorem vX3_stepAt (E : rp_E) (post : Option Int32 → rp_M → Prop) (M : rp_M) (l1 : Int32) (h : (l1 < 0 → (post (some (-6)) M)) ∧ (¬ l1 < 0 → (((M 147 1) ≤ l1 → (post (some (-6)) M)) ∧ (¬ (M 147 1) ≤ l1 → (vp_in l1 10000 ∧ (post (some (M 148 (Int32.toNatClampNeg l1))) M)))))) : rp_Run E YX3_stepAt [.ref 147, .int l1] M post := by
  refine ok_start (by decide) oX3_stepAt (Nat.le_of_ble_eq_true rfl) ?_
  refine ok_iload_n dX3_stepAt_0 rfl rfl ?_
  refine ok_if_lt (tgt := 21) dX3_stepAt_1 (by decide) (fun c1 => ?_) (fun c1 => ?_)
  · replace h := h.1 c1
    refine ok_bipush (v := (-6)) dX3_stepAt_21 (by decide) ?_
    exact ok_ireturn dX3_stepAt_23 rfl h
  · replace h := h.2 c1
    refine ok_iload_n dX3_stepAt_4 rfl rfl ?_
    refine ok_aload_n dX3_stepAt_5 rfl rfl ?_
    refine ok_getI dX3_stepAt_6 fX3_stepAt_15 (by decide) rp_k147 rfl ?_
    refine ok_icmp_ge (tgt := 21) dX3_stepAt_9 (by decide) (fun c2 => ?_) (fun c2 => ?_)
    · replace h := h.1 c2
      refine ok_bipush (v := (-6)) dX3_stepAt_21 (by decide) ?_
      exact ok_ireturn dX3_stepAt_23 rfl h
    · replace h := h.2 c2
      refine ok_aload_n dX3_stepAt_12 rfl rfl ?_
      refine ok_getR (j := 148) dX3_stepAt_13 fX3_stepAt_9 (by decide) rp_k147 rfl (by decide) ?_
      refine ok_iload_n dX3_stepAt_16 rfl rfl ?_
      have b3 := h.1
      replace h := h.2
      refine ok_iaload dX3_stepAt_17 (by decide) rp_k148 b3 rfl ?_
      refine ok_goto (tgt := 23) dX3_stepAt_18 (by decide) ?_
      exact ok_ireturn dX3_stepAt_23 rfl h
theorem vX3_firstWith (E : rp_E) (post : Option Int32 → rp_M → Prop) (M : rp_M) {r1 n1 : Nat} (hr1 : r1 < 170) (sr1 : rp_sh r1 = (0, n1, [])) (l2 : Int32) (h : rp_G E YX3_firstWith post 2 [.ref 147, .ref r1, .int l2, .int 0] [] M) : rp_Run E YX3_firstWith [.ref 147, .ref r1, .int l2] M post := by
  refine ok_start (by decide) oX3_firstWith (Nat.le_of_ble_eq_true rfl) ?_
  refine ok_iconst (v := 0) dX3_firstWith_0 (by decide) ?_
  refine ok_istore_n dX3_firstWith_1 rfl (by decide) rfl ?_
  exact ok_mask [true, true, true, true] h
theorem vX3_firstWith_2 (E : rp_E) (post : Option Int32 → rp_M → Prop) (M : rp_M) {r1 n1 : Nat} (hr1 : r1 < 170) (sr1 : rp_sh r1 = (0, n1, [])) (l2 : Int32) (l3 : Int32) (h : ((M 147 1) ≤ l3 → (post (some (-6)) M)) ∧ (¬ (M 147 1) ≤ l3 → (vp_in l3 10000 ∧ (vp_in (M 148 (Int32.toNatClampNeg l3)) n1 ∧ (((M r1 (Int32.toNatClampNeg (M 148 (Int32.toNatClampNeg l3)))) < l2 → (rp_G E YX3_firstWith post 2 [.ref 147, .ref r1, .int l2, .int (l3 + 1)] [] M)) ∧ (¬ (M r1 (Int32.toNatClampNeg (M 148 (Int32.toNatClampNeg l3)))) < l2 → (post (some (M 148 (Int32.toNatClampNeg l3))) M))))))) : rp_G E YX3_firstWith post 2 [.ref 147, .ref r1, .int l2, .int l3] [] M := by
  refine ok_iload_n dX3_firstWith_2 rfl rfl ?_
  refine ok_aload_n dX3_firstWith_3 rfl rfl ?_
  refine ok_getI dX3_firstWith_4 fX3_firstWith_15 (by decide) rp_k147 rfl ?_
  refine ok_icmp_ge (tgt := 35) dX3_firstWith_7 (by decide) (fun c1 => ?_) (fun c1 => ?_)
  · replace h := h.1 c1
    refine ok_bipush (v := (-6)) dX3_firstWith_35 (by decide) ?_
    exact ok_ireturn dX3_firstWith_37 rfl h
  · replace h := h.2 c1
    refine ok_aload_n dX3_firstWith_10 rfl rfl ?_
    refine ok_aload_n dX3_firstWith_11 rfl rfl ?_
    refine ok_getR (j := 148) dX3_firstWith_12 fX3_firstWith_9 (by decide) rp_k147 rfl (by decide) ?_
    refine ok_iload_n dX3_firstWith_15 rfl rfl ?_
    have b2 := h.1
    replace h := h.2
    refine ok_iaload dX3_firstWith_16 (by decide) rp_k148 b2 rfl ?_
    have b3 := h.1
    replace h := h.2
    refine ok_iaload dX3_firstWith_17 hr1 sr1 b3 rfl ?_
    refine ok_iload_n dX3_firstWith_18 rfl rfl ?_
    refine ok_icmp_lt (tgt := 29) dX3_firstWith_19 (by decide) (fun c4 => ?_) (fun c4 => ?_)
    · replace h := h.1 c4
      refine ok_iinc2 (w := 1) dX3_firstWith_29 rfl (by decide) (by decide) rfl ?_
      refine ok_goto (tgt := 2) dX3_firstWith_32 (by decide) ?_
      exact ok_mask [true, true, true, true] h
    · replace h := h.2 c4
      refine ok_aload_n dX3_firstWith_22 rfl rfl ?_
      refine ok_getR (j := 148) dX3_firstWith_23 fX3_firstWith_9 (by decide) rp_k147 rfl (by decide) ?_
      refine ok_iload_n dX3_firstWith_26 rfl rfl ?_
      refine ok_iaload dX3_firstWith_27 (by decide) rp_k148 b2 rfl ?_
      exact ok_ireturn dX3_firstWith_28 rfl h
