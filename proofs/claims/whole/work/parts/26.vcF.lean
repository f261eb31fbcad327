theorem vX6_in (E : rp_E) (post : Option Int32 → rp_M → Prop) (M : rp_M) (l0 : Int32) (l1 : Int32) (l2 : Int32) (h : (l0 < l1 → (post (some 0) M)) ∧ (¬ l0 < l1 → ((l2 < l0 → (post (some 0) M)) ∧ (¬ l2 < l0 → (post (some 1) M))))) : rp_Run E YX6_in [.int l0, .int l1, .int l2] M post := by
  refine ok_start (by decide) oX6_in (Nat.le_of_ble_eq_true rfl) ?_
  refine ok_iload_n dX6_in_0 rfl rfl ?_
  refine ok_iload_n dX6_in_1 rfl rfl ?_
  refine ok_icmp_lt (tgt := 14) dX6_in_2 (by decide) (fun c1 => ?_) (fun c1 => ?_)
  · replace h := h.1 c1
    refine ok_iconst (v := 0) dX6_in_14 (by decide) ?_
    exact ok_zreturn dX6_in_15 rfl (by decide) h
  · replace h := h.2 c1
    refine ok_iload_n dX6_in_5 rfl rfl ?_
    refine ok_iload_n dX6_in_6 rfl rfl ?_
    refine ok_icmp_gt (tgt := 14) dX6_in_7 (by decide) (fun c2 => ?_) (fun c2 => ?_)
    · replace h := h.1 c2
      refine ok_iconst (v := 0) dX6_in_14 (by decide) ?_
      exact ok_zreturn dX6_in_15 rfl (by decide) h
    · replace h := h.2 c2
      refine ok_iconst (v := 1) dX6_in_10 (by decide) ?_
      refine ok_goto (tgt := 15) dX6_in_11 (by decide) ?_
      exact ok_zreturn dX6_in_15 rfl (by decide) h
theorem vX6_has (E : rp_E) (post : Option Int32 → rp_M → Prop) (M : rp_M) (l0 : Int32) (l1 : Int32) (h : (¬ ((l0 >>> (l1 &&& 31) : Int32) &&& 1) = 1 → (post (some 0) M)) ∧ (((l0 >>> (l1 &&& 31) : Int32) &&& 1) = 1 → (post (some 1) M))) : rp_Run E YX6_has [.int l0, .int l1] M post := by
  refine ok_start (by decide) oX6_has (Nat.le_of_ble_eq_true rfl) ?_
  refine ok_iload_n dX6_has_0 rfl rfl ?_
  refine ok_iload_n dX6_has_1 rfl rfl ?_
  refine ok_ishr dX6_has_2 ?_
  refine ok_iconst (v := 1) dX6_has_3 (by decide) ?_
  refine ok_iand dX6_has_4 ?_
  refine ok_iconst (v := 1) dX6_has_5 (by decide) ?_
  refine ok_icmp_ne (tgt := 13) dX6_has_6 (by decide) (fun c1 => ?_) (fun c1 => ?_)
  · replace h := h.1 c1
    refine ok_iconst (v := 0) dX6_has_13 (by decide) ?_
    exact ok_zreturn dX6_has_14 rfl (by decide) h
  · replace h := h.2 c1
    refine ok_iconst (v := 1) dX6_has_9 (by decide) ?_
    refine ok_goto (tgt := 14) dX6_has_10 (by decide) ?_
    exact ok_zreturn dX6_has_14 rfl (by decide) h
theorem vX6_sizeOf (E : rp_E) (post : Option Int32 → rp_M → Prop) (M : rp_M) (l0 : Int32) (h : rp_G E YX6_sizeOf post 4 [.int l0, .int 0, .int 0] [] M) : rp_Run E YX6_sizeOf [.int l0] M post := by
  refine ok_start (by decide) oX6_sizeOf (Nat.le_of_ble_eq_true rfl) ?_
  refine ok_iconst (v := 0) dX6_sizeOf_0 (by decide) ?_
  refine ok_istore_n dX6_sizeOf_1 rfl (by decide) rfl ?_
  refine ok_iconst (v := 0) dX6_sizeOf_2 (by decide) ?_
  refine ok_istore_n dX6_sizeOf_3 rfl (by decide) rfl ?_
  exact ok_mask [true, true, true] h
theorem vX6_sizeOf_4 (E : rp_E) (post : Option Int32 → rp_M → Prop) (M : rp_M) (l0 : Int32) (l1 : Int32) (l2 : Int32) (h : (12 ≤ l2 → (post (some l1) M)) ∧ (¬ 12 ≤ l2 → (rp_G E YX6_sizeOf post 4 [.int l0, .int (l1 + ((l0 >>> (l2 &&& 31) : Int32) &&& 1)), .int (l2 + 1)] [] M))) : rp_G E YX6_sizeOf post 4 [.int l0, .int l1, .int l2] [] M := by
  refine ok_iload_n dX6_sizeOf_4 rfl rfl ?_
  refine ok_bipush (v := 12) dX6_sizeOf_5 (by decide) ?_
  refine ok_icmp_ge (tgt := 24) dX6_sizeOf_7 (by decide) (fun c1 => ?_) (fun c1 => ?_)
  · replace h := h.1 c1
    refine ok_iload_n dX6_sizeOf_24 rfl rfl ?_
    exact ok_ireturn dX6_sizeOf_25 rfl h
  · replace h := h.2 c1
    refine ok_iload_n dX6_sizeOf_10 rfl rfl ?_
    refine ok_iload_n dX6_sizeOf_11 rfl rfl ?_
    refine ok_iload_n dX6_sizeOf_12 rfl rfl ?_
    refine ok_ishr dX6_sizeOf_13 ?_
    refine ok_iconst (v := 1) dX6_sizeOf_14 (by decide) ?_
    refine ok_iand dX6_sizeOf_15 ?_
    refine ok_iadd dX6_sizeOf_16 ?_
    refine ok_istore_n dX6_sizeOf_17 rfl (by decide) rfl ?_
    refine ok_iinc2 (w := 1) dX6_sizeOf_18 rfl (by decide) (by decide) rfl ?_
    refine ok_goto (tgt := 4) dX6_sizeOf_21 (by decide) ?_
    exact ok_mask [true, true, true] h
theorem vX6_isItem (E : rp_E) (post : Option Int32 → rp_M → Prop) (M : rp_M) (l1 : Int32) (h : ∃ v1 M2, rp_C E YX6_in [.int l1, .int 0, .int ((M 156 0) - 1)] M (some v1) M2 ∧ (narrow .boolean (.int v1) = .int v1 ∧ (post (some v1) M2))) : rp_Run E YX6_isItem [.ref 155, .int l1] M post := by
  refine ok_start (by decide) oX6_isItem (Nat.le_of_ble_eq_true rfl) ?_
  refine ok_iload_n dX6_isItem_0 rfl rfl ?_
  refine ok_iconst (v := 0) dX6_isItem_1 (by decide) ?_
  refine ok_aload_n dX6_isItem_2 rfl rfl ?_
  refine ok_getR (j := 156) dX6_isItem_3 fX6_isItem_7 (by decide) rp_k155 rfl (by decide) ?_
  refine ok_iconst (v := 0) dX6_isItem_6 (by decide) ?_
  refine ok_iaload (j := 0) dX6_isItem_7 (by decide) rp_k156 (rp_vi (by decide)) (by decide) ?_
  refine ok_iconst (v := 1) dX6_isItem_8 (by decide) ?_
  refine ok_isub dX6_isItem_9 ?_
  obtain ⟨v1, M2, r3, h⟩ := h
  refine ok_callS2 dX6_isItem_10 kX6_isItem_53 r3 rfl rfl (Nat.le_of_ble_eq_true rfl) ?_
  rintro _ _ ⟨rfl, rfl⟩
  exact ok_zreturn dX6_isItem_13 rfl h.1 h.2
theorem vX6_isChoice (E : rp_E) (post : Option Int32 → rp_M → Prop) (M : rp_M) (l1 : Int32) (h : ∃ v1 M2, rp_C E YX6_in [.int l1, .int 0, .int (((1 : Int32) <<< ((M 156 0) &&& 31) : Int32) - (1 : Int32))] M (some v1) M2 ∧ (narrow .boolean (.int v1) = .int v1 ∧ (post (some v1) M2))) : rp_Run E YX6_isChoice [.ref 155, .int l1] M post := by
  refine ok_start (by decide) oX6_isChoice (Nat.le_of_ble_eq_true rfl) ?_
  refine ok_iload_n dX6_isChoice_0 rfl rfl ?_
  refine ok_iconst (v := 0) dX6_isChoice_1 (by decide) ?_
  refine ok_iconst (v := 1) dX6_isChoice_2 (by decide) ?_
  refine ok_aload_n dX6_isChoice_3 rfl rfl ?_
  refine ok_getR (j := 156) dX6_isChoice_4 fX6_isChoice_7 (by decide) rp_k155 rfl (by decide) ?_
  refine ok_iconst (v := 0) dX6_isChoice_7 (by decide) ?_
  refine ok_iaload (j := 0) dX6_isChoice_8 (by decide) rp_k156 (rp_vi (by decide)) (by decide) ?_
  refine ok_ishl dX6_isChoice_9 ?_
  refine ok_iconst (v := 1) dX6_isChoice_10 (by decide) ?_
  refine ok_isub dX6_isChoice_11 ?_
  obtain ⟨v1, M2, r3, h⟩ := h
  refine ok_callS2 dX6_isChoice_12 kX6_isChoice_53 r3 rfl rfl (Nat.le_of_ble_eq_true rfl) ?_
  rintro _ _ ⟨rfl, rfl⟩
  exact ok_zreturn dX6_isChoice_15 rfl h.1 h.2
theorem vX6_of (E : rp_E) (post : Option Int32 → rp_M → Prop) (M : rp_M) (l1 : Int32) (l2 : Int32) (h : vp_in (((4 : Int32) + ((5 : Int32) * l1)) + l2) 88 ∧ (post (some (M 156 (Int32.toNatClampNeg (((4 : Int32) + ((5 : Int32) * l1)) + l2)))) M)) : rp_Run E YX6_of [.ref 155, .int l1, .int l2] M post := by
  refine ok_start (by decide) oX6_of (Nat.le_of_ble_eq_true rfl) ?_
  refine ok_aload_n dX6_of_0 rfl rfl ?_
  refine ok_getR (j := 156) dX6_of_1 fX6_of_7 (by decide) rp_k155 rfl (by decide) ?_
  refine ok_iconst (v := 4) dX6_of_4 (by decide) ?_
  refine ok_iconst (v := 5) dX6_of_5 (by decide) ?_
  refine ok_iload_n dX6_of_6 rfl rfl ?_
  refine ok_imul dX6_of_7 ?_
  refine ok_iadd dX6_of_8 ?_
  refine ok_iload_n dX6_of_9 rfl rfl ?_
  refine ok_iadd dX6_of_10 ?_
  have b1 := h.1
  replace h := h.2
  refine ok_iaload dX6_of_11 (by decide) rp_k156 b1 rfl ?_
  exact ok_ireturn dX6_of_12 rfl h
theorem vX6_record (E : rp_E) (post : Option Int32 → rp_M → Prop) (M : rp_M)  (h : (¬ (M 155 2) = 12 → (rp_G E YX6_record post 51 [.ref 155, .int 0] [] M)) ∧ ((M 155 2) = 12 → (rp_G E YX6_record post 11 [.ref 155, .int 0] [] M))) : rp_Run E YX6_record [.ref 155] M post := by
  refine ok_start (by decide) oX6_record (Nat.le_of_ble_eq_true rfl) ?_
  refine ok_aload_n dX6_record_0 rfl rfl ?_
  refine ok_getI dX6_record_1 fX6_record_57 (by decide) rp_k155 rfl ?_
  refine ok_bipush (v := 12) dX6_record_4 (by decide) ?_
  refine ok_icmp_ne (tgt := 49) dX6_record_6 (by decide) (fun c1 => ?_) (fun c1 => ?_)
  · replace h := h.1 c1
    refine ok_iconst (v := 0) dX6_record_49 (by decide) ?_
    refine ok_istore_n dX6_record_50 rfl (by decide) rfl ?_
    exact ok_mask [true, true] h
  · replace h := h.2 c1
    refine ok_iconst (v := 0) dX6_record_9 (by decide) ?_
    refine ok_istore_n dX6_record_10 rfl (by decide) rfl ?_
    exact ok_mask [true, true] h
theorem vX6_record_51 (E : rp_E) (post : Option Int32 → rp_M → Prop) (M : rp_M) (l1 : Int32) (h : (88 ≤ l1 → (∀ M3, M3 = rp_s M 155 2 ((M 155 2) + 1) → (post none M3))) ∧ (¬ 88 ≤ l1 → (vp_in l1 88 ∧ (vp_in (((88 : Int32) * (M 155 2)) + l1) 1056 ∧ (∀ M6, M6 = rp_s M 157 (Int32.toNatClampNeg (((88 : Int32) * (M 155 2)) + l1)) (M 156 (Int32.toNatClampNeg l1)) → (rp_G E YX6_record post 51 [.ref 155, .int (l1 + 1)] [] M6)))))) : rp_G E YX6_record post 51 [.ref 155, .int l1] [] M := by
  refine ok_iload_n dX6_record_51 rfl rfl ?_
  refine ok_bipush (v := 88) dX6_record_52 (by decide) ?_
  refine ok_icmp_ge (tgt := 83) dX6_record_54 (by decide) (fun c2 => ?_) (fun c2 => ?_)
  · replace h := h.1 c2
    refine ok_aload_n dX6_record_83 rfl rfl ?_
    refine ok_dup dX6_record_84 rfl ?_
    refine ok_getI dX6_record_85 fX6_record_57 (by decide) rp_k155 rfl ?_
    refine ok_iconst (v := 1) dX6_record_88 (by decide) ?_
    refine ok_iadd dX6_record_89 ?_
    refine ok_put dX6_record_90 pX6_record_57 (by decide) rp_k155 rfl rfl rfl ?_
    replace h := h _ rfl
    exact ok_return dX6_record_93 rfl h
  · replace h := h.2 c2
    refine ok_aload_n dX6_record_57 rfl rfl ?_
    refine ok_getR (j := 157) dX6_record_58 fX6_record_13 (by decide) rp_k155 rfl (by decide) ?_
    refine ok_bipush (v := 88) dX6_record_61 (by decide) ?_
    refine ok_aload_n dX6_record_63 rfl rfl ?_
    refine ok_getI dX6_record_64 fX6_record_57 (by decide) rp_k155 rfl ?_
    refine ok_imul dX6_record_67 ?_
    refine ok_iload_n dX6_record_68 rfl rfl ?_
    refine ok_iadd dX6_record_69 ?_
    refine ok_aload_n dX6_record_70 rfl rfl ?_
    refine ok_getR (j := 156) dX6_record_71 fX6_record_7 (by decide) rp_k155 rfl (by decide) ?_
    refine ok_iload_n dX6_record_74 rfl rfl ?_
    have b4 := h.1
    replace h := h.2
    refine ok_iaload dX6_record_75 (by decide) rp_k156 b4 rfl ?_
    have b5 := h.1
    replace h := h.2
    refine ok_iastore dX6_record_76 (by decide) rp_k157 b5 rfl ?_
    replace h := h _ rfl
    refine ok_iinc2 (w := 1) dX6_record_77 rfl (by decide) (by decide) rfl ?_
    refine ok_goto (tgt := 51) dX6_record_80 (by decide) ?_
    exact ok_mask [true, true] h
theorem vX6_record_11 (E : rp_E) (post : Option Int32 → rp_M → Prop) (M : rp_M) (l1 : Int32) (h : (968 ≤ l1 → (∀ M8, M8 = rp_s M 155 2 ((M 155 2) - 1) → (rp_G E YX6_record post 51 [.ref 155, .int 0] [] M8))) ∧ (¬ 968 ≤ l1 → (vp_in (l1 + 88) 1056 ∧ (vp_in l1 1056 ∧ (∀ M11, M11 = rp_s M 157 (Int32.toNatClampNeg l1) (M 157 (Int32.toNatClampNeg (l1 + 88))) → (rp_G E YX6_record post 11 [.ref 155, .int (l1 + 1)] [] M11)))))) : rp_G E YX6_record post 11 [.ref 155, .int l1] [] M := by
  refine ok_iload_n dX6_record_11 rfl rfl ?_
  refine ok_sipush (v := 968) dX6_record_12 (by decide) ?_
  refine ok_icmp_ge (tgt := 39) dX6_record_15 (by decide) (fun c7 => ?_) (fun c7 => ?_)
  · replace h := h.1 c7
    refine ok_aload_n dX6_record_39 rfl rfl ?_
    refine ok_dup dX6_record_40 rfl ?_
    refine ok_getI dX6_record_41 fX6_record_57 (by decide) rp_k155 rfl ?_
    refine ok_iconst (v := 1) dX6_record_44 (by decide) ?_
    refine ok_isub dX6_record_45 ?_
    refine ok_put dX6_record_46 pX6_record_57 (by decide) rp_k155 rfl rfl rfl ?_
    replace h := h _ rfl
    refine ok_iconst (v := 0) dX6_record_49 (by decide) ?_
    refine ok_istore_n dX6_record_50 rfl (by decide) rfl ?_
    exact ok_mask [true, true] h
  · replace h := h.2 c7
    refine ok_aload_n dX6_record_18 rfl rfl ?_
    refine ok_getR (j := 157) dX6_record_19 fX6_record_13 (by decide) rp_k155 rfl (by decide) ?_
    refine ok_iload_n dX6_record_22 rfl rfl ?_
    refine ok_aload_n dX6_record_23 rfl rfl ?_
    refine ok_getR (j := 157) dX6_record_24 fX6_record_13 (by decide) rp_k155 rfl (by decide) ?_
    refine ok_iload_n dX6_record_27 rfl rfl ?_
    refine ok_bipush (v := 88) dX6_record_28 (by decide) ?_
    refine ok_iadd dX6_record_30 ?_
    have b9 := h.1
    replace h := h.2
    refine ok_iaload dX6_record_31 (by decide) rp_k157 b9 rfl ?_
    have b10 := h.1
    replace h := h.2
    refine ok_iastore dX6_record_32 (by decide) rp_k157 b10 rfl ?_
    replace h := h _ rfl
    refine ok_iinc2 (w := 1) dX6_record_33 rfl (by decide) (by decide) rfl ?_
    refine ok_goto (tgt := 11) dX6_record_36 (by decide) ?_
    exact ok_mask [true, true] h
theorem vX6_append (E : rp_E) (post : Option Int32 → rp_M → Prop) (M : rp_M) (l1 : Int32) (l2 : Int32) (l3 : Int32) (l4 : Int32) (l5 : Int32) (h : vp_in (((4 : Int32) + ((5 : Int32) * (M 156 0))) + 0) 88 ∧ (∀ M2, M2 = rp_s M 156 (Int32.toNatClampNeg (((4 : Int32) + ((5 : Int32) * (M 156 0))) + 0)) l1 → (vp_in (((4 : Int32) + ((5 : Int32) * (M 156 0))) + 1) 88 ∧ (∀ M4, M4 = rp_s M2 156 (Int32.toNatClampNeg (((4 : Int32) + ((5 : Int32) * (M 156 0))) + 1)) l2 → (vp_in (((4 : Int32) + ((5 : Int32) * (M 156 0))) + 2) 88 ∧ (∀ M6, M6 = rp_s M4 156 (Int32.toNatClampNeg (((4 : Int32) + ((5 : Int32) * (M 156 0))) + 2)) l3 → (vp_in (((4 : Int32) + ((5 : Int32) * (M 156 0))) + 3) 88 ∧ (∀ M8, M8 = rp_s M6 156 (Int32.toNatClampNeg (((4 : Int32) + ((5 : Int32) * (M 156 0))) + 3)) l4 → (vp_in (((4 : Int32) + ((5 : Int32) * (M 156 0))) + 4) 88 ∧ (∀ M10, M10 = rp_s M8 156 (Int32.toNatClampNeg (((4 : Int32) + ((5 : Int32) * (M 156 0))) + 4)) l5 → (vp_in ((64 : Int32) + (M 156 0)) 88 ∧ (∀ M12, M12 = rp_s M10 156 (Int32.toNatClampNeg ((64 : Int32) + (M 156 0))) 0 → (vp_in ((76 : Int32) + (M 156 0)) 88 ∧ (∀ M14, M14 = rp_s M12 156 (Int32.toNatClampNeg ((76 : Int32) + (M 156 0))) 0 → (∀ M15, M15 = rp_s M14 156 0 ((M14 156 0) + 1) → (post none M15)))))))))))))))) : rp_Run E YX6_append [.ref 155, .int l1, .int l2, .int l3, .int l4, .int l5] M post := by
  refine ok_start (by decide) oX6_append (Nat.le_of_ble_eq_true rfl) ?_
  refine ok_aload_n dX6_append_0 rfl rfl ?_
  refine ok_getR (j := 156) dX6_append_1 fX6_append_7 (by decide) rp_k155 rfl (by decide) ?_
  refine ok_iconst (v := 0) dX6_append_4 (by decide) ?_
  refine ok_iaload (j := 0) dX6_append_5 (by decide) rp_k156 (rp_vi (by decide)) (by decide) ?_
  refine ok_istore dX6_append_6 (by decide) rfl ?_
  refine ok_aload_n dX6_append_8 rfl rfl ?_
  refine ok_getR (j := 156) dX6_append_9 fX6_append_7 (by decide) rp_k155 rfl (by decide) ?_
  refine ok_iconst (v := 4) dX6_append_12 (by decide) ?_
  refine ok_iconst (v := 5) dX6_append_13 (by decide) ?_
  refine ok_iload dX6_append_14 rfl ?_
  refine ok_imul dX6_append_16 ?_
  refine ok_iadd dX6_append_17 ?_
  refine ok_iconst (v := 0) dX6_append_18 (by decide) ?_
  refine ok_iadd dX6_append_19 ?_
  refine ok_iload_n dX6_append_20 rfl rfl ?_
  have b1 := h.1
  replace h := h.2
  refine ok_iastore dX6_append_21 (by decide) rp_k156 b1 rfl ?_
  replace h := h _ rfl
  refine ok_aload_n dX6_append_22 rfl rfl ?_
  refine ok_getR (j := 156) dX6_append_23 fX6_append_7 (by decide) rp_k155 rfl (by decide) ?_
  refine ok_iconst (v := 4) dX6_append_26 (by decide) ?_
  refine ok_iconst (v := 5) dX6_append_27 (by decide) ?_
  refine ok_iload dX6_append_28 rfl ?_
  refine ok_imul dX6_append_30 ?_
  refine ok_iadd dX6_append_31 ?_
  refine ok_iconst (v := 1) dX6_append_32 (by decide) ?_
  refine ok_iadd dX6_append_33 ?_
  refine ok_iload_n dX6_append_34 rfl rfl ?_
  have b3 := h.1
  replace h := h.2
  refine ok_iastore dX6_append_35 (by decide) rp_k156 b3 rfl ?_
  replace h := h _ rfl
  refine ok_aload_n dX6_append_36 rfl rfl ?_
  refine ok_getR (j := 156) dX6_append_37 fX6_append_7 (by decide) rp_k155 rfl (by decide) ?_
  refine ok_iconst (v := 4) dX6_append_40 (by decide) ?_
  refine ok_iconst (v := 5) dX6_append_41 (by decide) ?_
  refine ok_iload dX6_append_42 rfl ?_
  refine ok_imul dX6_append_44 ?_
  refine ok_iadd dX6_append_45 ?_
  refine ok_iconst (v := 2) dX6_append_46 (by decide) ?_
  refine ok_iadd dX6_append_47 ?_
  refine ok_iload_n dX6_append_48 rfl rfl ?_
  have b5 := h.1
  replace h := h.2
  refine ok_iastore dX6_append_49 (by decide) rp_k156 b5 rfl ?_
  replace h := h _ rfl
  refine ok_aload_n dX6_append_50 rfl rfl ?_
  refine ok_getR (j := 156) dX6_append_51 fX6_append_7 (by decide) rp_k155 rfl (by decide) ?_
  refine ok_iconst (v := 4) dX6_append_54 (by decide) ?_
  refine ok_iconst (v := 5) dX6_append_55 (by decide) ?_
  refine ok_iload dX6_append_56 rfl ?_
  refine ok_imul dX6_append_58 ?_
  refine ok_iadd dX6_append_59 ?_
  refine ok_iconst (v := 3) dX6_append_60 (by decide) ?_
  refine ok_iadd dX6_append_61 ?_
  refine ok_iload dX6_append_62 rfl ?_
  have b7 := h.1
  replace h := h.2
  refine ok_iastore dX6_append_64 (by decide) rp_k156 b7 rfl ?_
  replace h := h _ rfl
  refine ok_aload_n dX6_append_65 rfl rfl ?_
  refine ok_getR (j := 156) dX6_append_66 fX6_append_7 (by decide) rp_k155 rfl (by decide) ?_
  refine ok_iconst (v := 4) dX6_append_69 (by decide) ?_
  refine ok_iconst (v := 5) dX6_append_70 (by decide) ?_
  refine ok_iload dX6_append_71 rfl ?_
  refine ok_imul dX6_append_73 ?_
  refine ok_iadd dX6_append_74 ?_
  refine ok_iconst (v := 4) dX6_append_75 (by decide) ?_
  refine ok_iadd dX6_append_76 ?_
  refine ok_iload dX6_append_77 rfl ?_
  have b9 := h.1
  replace h := h.2
  refine ok_iastore dX6_append_79 (by decide) rp_k156 b9 rfl ?_
  replace h := h _ rfl
  refine ok_aload_n dX6_append_80 rfl rfl ?_
  refine ok_getR (j := 156) dX6_append_81 fX6_append_7 (by decide) rp_k155 rfl (by decide) ?_
  refine ok_bipush (v := 64) dX6_append_84 (by decide) ?_
  refine ok_iload dX6_append_86 rfl ?_
  refine ok_iadd dX6_append_88 ?_
  refine ok_iconst (v := 0) dX6_append_89 (by decide) ?_
  have b11 := h.1
  replace h := h.2
  refine ok_iastore dX6_append_90 (by decide) rp_k156 b11 rfl ?_
  replace h := h _ rfl
  refine ok_aload_n dX6_append_91 rfl rfl ?_
  refine ok_getR (j := 156) dX6_append_92 fX6_append_7 (by decide) rp_k155 rfl (by decide) ?_
  refine ok_bipush (v := 76) dX6_append_95 (by decide) ?_
  refine ok_iload dX6_append_97 rfl ?_
  refine ok_iadd dX6_append_99 ?_
  refine ok_iconst (v := 0) dX6_append_100 (by decide) ?_
  have b13 := h.1
  replace h := h.2
  refine ok_iastore dX6_append_101 (by decide) rp_k156 b13 rfl ?_
  replace h := h _ rfl
  refine ok_aload_n dX6_append_102 rfl rfl ?_
  refine ok_getR (j := 156) dX6_append_103 fX6_append_7 (by decide) rp_k155 rfl (by decide) ?_
  refine ok_iconst (v := 0) dX6_append_106 (by decide) ?_
  refine ok_dup2 dX6_append_107 rfl rfl ?_
  refine ok_iaload (j := 0) dX6_append_108 (by decide) rp_k156 (rp_vi (by decide)) (by decide) ?_
  refine ok_iconst (v := 1) dX6_append_109 (by decide) ?_
  refine ok_iadd dX6_append_110 ?_
  refine ok_iastore (j := 0) dX6_append_111 (by decide) rp_k156 (rp_vi (by decide)) (by decide) ?_
  replace h := h _ rfl
  exact ok_return dX6_append_112 rfl h
theorem vX6_add (E : rp_E) (post : Option Int32 → rp_M → Prop) (M : rp_M) (l1 : Int32) (l2 : Int32) (l3 : Int32) (l4 : Int32) (h : ∃ v1 M2, rp_C E YX6_in [.int l1, .int 1, .int 999] M (some v1) M2 ∧ ((v1 = 0 → (post (some (-2)) M2)) ∧ (¬ v1 = 0 → (∃ v5 M6, rp_C E YX6_in [.int l2, .int 1, .int 999] M2 (some v5) M6 ∧ ((v5 = 0 → (post (some (-2)) M6)) ∧ (¬ v5 = 0 → (∃ v9 M10, rp_C E YX6_in [.int l3, .int 0, .int 999] M6 (some v9) M10 ∧ ((v9 = 0 → (post (some (-2)) M10)) ∧ (¬ v9 = 0 → (∃ v13 M14, rp_C E YX6_in [.int l4, .int 0, .int 999] M10 (some v13) M14 ∧ ((¬ v13 = 0 → ((¬ (M14 156 0) = 12 → (∃ P20 : rp_M → Prop, rp_Run E YX6_record [.ref 155] M14 (rp_P0 P20) ∧ (∀ M18, P20 M18 → (∃ P24 : rp_M → Prop, rp_Run E YX6_append [.ref 155, .int l1, .int l2, .int l3, .int l4, .int (-6)] M18 (rp_P0 P24) ∧ (∀ M22, P24 M22 → (post (some ((M22 156 0) - 1)) M22)))))) ∧ ((M14 156 0) = 12 → (post (some (-4)) M14)))) ∧ (v13 = 0 → (post (some (-2)) M14))))))))))))) : rp_Run E YX6_add [.ref 155, .int l1, .int l2, .int l3, .int l4] M post := by
  refine ok_start (by decide) oX6_add (Nat.le_of_ble_eq_true rfl) ?_
  refine ok_iload_n dX6_add_0 rfl rfl ?_
  refine ok_iconst (v := 1) dX6_add_1 (by decide) ?_
  refine ok_sipush (v := 999) dX6_add_2 (by decide) ?_
  obtain ⟨v1, M2, r3, h⟩ := h
  refine ok_callS2 dX6_add_5 kX6_add_53 r3 rfl rfl (Nat.le_of_ble_eq_true rfl) ?_
  rintro _ _ ⟨rfl, rfl⟩
  refine ok_if_eq (tgt := 45) dX6_add_8 (by decide) (fun c4 => ?_) (fun c4 => ?_)
  · replace h := h.1 c4
    refine ok_bipush (v := (-2)) dX6_add_45 (by decide) ?_
    exact ok_ireturn dX6_add_47 rfl h
  · replace h := h.2 c4
    refine ok_iload_n dX6_add_11 rfl rfl ?_
    refine ok_iconst (v := 1) dX6_add_12 (by decide) ?_
    refine ok_sipush (v := 999) dX6_add_13 (by decide) ?_
    obtain ⟨v5, M6, r7, h⟩ := h
    refine ok_callS2 dX6_add_16 kX6_add_53 r7 rfl rfl (Nat.le_of_ble_eq_true rfl) ?_
    rintro _ _ ⟨rfl, rfl⟩
    refine ok_if_eq (tgt := 45) dX6_add_19 (by decide) (fun c8 => ?_) (fun c8 => ?_)
    · replace h := h.1 c8
      refine ok_bipush (v := (-2)) dX6_add_45 (by decide) ?_
      exact ok_ireturn dX6_add_47 rfl h
    · replace h := h.2 c8
      refine ok_iload_n dX6_add_22 rfl rfl ?_
      refine ok_iconst (v := 0) dX6_add_23 (by decide) ?_
      refine ok_sipush (v := 999) dX6_add_24 (by decide) ?_
      obtain ⟨v9, M10, r11, h⟩ := h
      refine ok_callS2 dX6_add_27 kX6_add_53 r11 rfl rfl (Nat.le_of_ble_eq_true rfl) ?_
      rintro _ _ ⟨rfl, rfl⟩
      refine ok_if_eq (tgt := 45) dX6_add_30 (by decide) (fun c12 => ?_) (fun c12 => ?_)
      · replace h := h.1 c12
        refine ok_bipush (v := (-2)) dX6_add_45 (by decide) ?_
        exact ok_ireturn dX6_add_47 rfl h
      · replace h := h.2 c12
        refine ok_iload dX6_add_33 rfl ?_
        refine ok_iconst (v := 0) dX6_add_35 (by decide) ?_
        refine ok_sipush (v := 999) dX6_add_36 (by decide) ?_
        obtain ⟨v13, M14, r15, h⟩ := h
        refine ok_callS2 dX6_add_39 kX6_add_53 r15 rfl rfl (Nat.le_of_ble_eq_true rfl) ?_
        rintro _ _ ⟨rfl, rfl⟩
        refine ok_if_ne (tgt := 48) dX6_add_42 (by decide) (fun c16 => ?_) (fun c16 => ?_)
        · replace h := h.1 c16
          refine ok_aload_n dX6_add_48 rfl rfl ?_
          refine ok_getR (j := 156) dX6_add_49 fX6_add_7 (by decide) rp_k155 rfl (by decide) ?_
          refine ok_iconst (v := 0) dX6_add_52 (by decide) ?_
          refine ok_iaload (j := 0) dX6_add_53 (by decide) rp_k156 (rp_vi (by decide)) (by decide) ?_
          refine ok_bipush (v := 12) dX6_add_54 (by decide) ?_
          refine ok_icmp_ne (tgt := 62) dX6_add_56 (by decide) (fun c17 => ?_) (fun c17 => ?_)
          · replace h := h.1 c17
            refine ok_aload_n dX6_add_62 rfl rfl ?_
            obtain ⟨P20, r19, h⟩ := h
            refine ok_callV2 dX6_add_63 kX6_add_61 r19 (by decide) rp_k155 rfl rfl (Nat.le_of_ble_eq_true rfl) ?_
            rintro _ M18 ⟨rfl, q21⟩
            replace h := h M18 q21
            refine ok_aload_n dX6_add_66 rfl rfl ?_
            refine ok_iload_n dX6_add_67 rfl rfl ?_
            refine ok_iload_n dX6_add_68 rfl rfl ?_
            refine ok_iload_n dX6_add_69 rfl rfl ?_
            refine ok_iload dX6_add_70 rfl ?_
            refine ok_bipush (v := (-6)) dX6_add_72 (by decide) ?_
            obtain ⟨P24, r23, h⟩ := h
            refine ok_callV2 dX6_add_74 kX6_add_64 r23 (by decide) rp_k155 rfl rfl (Nat.le_of_ble_eq_true rfl) ?_
            rintro _ M22 ⟨rfl, q25⟩
            replace h := h M22 q25
            refine ok_aload_n dX6_add_77 rfl rfl ?_
            refine ok_getR (j := 156) dX6_add_78 fX6_add_7 (by decide) rp_k155 rfl (by decide) ?_
            refine ok_iconst (v := 0) dX6_add_81 (by decide) ?_
            refine ok_iaload (j := 0) dX6_add_82 (by decide) rp_k156 (rp_vi (by decide)) (by decide) ?_
            refine ok_iconst (v := 1) dX6_add_83 (by decide) ?_
            refine ok_isub dX6_add_84 ?_
            exact ok_ireturn dX6_add_85 rfl h
          · replace h := h.2 c17
            refine ok_bipush (v := (-4)) dX6_add_59 (by decide) ?_
            exact ok_ireturn dX6_add_61 rfl h
        · replace h := h.2 c16
          refine ok_bipush (v := (-2)) dX6_add_45 (by decide) ?_
          exact ok_ireturn dX6_add_47 rfl h
theorem vX6_without (E : rp_E) (post : Option Int32 → rp_M → Prop) (M : rp_M) (l0 : Int32) (l1 : Int32) (h : post (some ((l0 &&& (((1 : Int32) <<< (l1 &&& 31) : Int32) - (1 : Int32))) ||| ((l0 >>> ((l1 + 1) &&& 31) : Int32) <<< (l1 &&& 31) : Int32))) M) : rp_Run E YX6_without [.int l0, .int l1] M post := by
  refine ok_start (by decide) oX6_without (Nat.le_of_ble_eq_true rfl) ?_
  refine ok_iload_n dX6_without_0 rfl rfl ?_
  refine ok_iconst (v := 1) dX6_without_1 (by decide) ?_
  refine ok_iload_n dX6_without_2 rfl rfl ?_
  refine ok_ishl dX6_without_3 ?_
  refine ok_iconst (v := 1) dX6_without_4 (by decide) ?_
  refine ok_isub dX6_without_5 ?_
  refine ok_iand dX6_without_6 ?_
  refine ok_istore_n dX6_without_7 rfl (by decide) rfl ?_
  refine ok_iload_n dX6_without_8 rfl rfl ?_
  refine ok_iload_n dX6_without_9 rfl rfl ?_
  refine ok_iload_n dX6_without_10 rfl rfl ?_
  refine ok_iconst (v := 1) dX6_without_11 (by decide) ?_
  refine ok_iadd dX6_without_12 ?_
  refine ok_ishr dX6_without_13 ?_
  refine ok_iload_n dX6_without_14 rfl rfl ?_
  refine ok_ishl dX6_without_15 ?_
  refine ok_ior dX6_without_16 ?_
  exact ok_ireturn dX6_without_17 rfl h
theorem vX6_remove (E : rp_E) (post : Option Int32 → rp_M → Prop) (M : rp_M) (l1 : Int32) (h : ∃ v1 M2, rp_C E YX6_isItem [.ref 155, .int l1] M (some v1) M2 ∧ ((¬ v1 = 0 → (∃ P7 : rp_M → Prop, rp_Run E YX6_record [.ref 155] M2 (rp_P0 P7) ∧ (∀ M5, P7 M5 → (∀ M9, M9 = rp_s M5 156 0 ((M5 156 0) - 1) → (rp_G E YX6_remove post 26 [.ref 155, .int l1, .int l1, .null] [] M9))))) ∧ (v1 = 0 → (post (some (-1)) M2)))) : rp_Run E YX6_remove [.ref 155, .int l1] M post := by
  refine ok_start (by decide) oX6_remove (Nat.le_of_ble_eq_true rfl) ?_
  refine ok_aload_n dX6_remove_0 rfl rfl ?_
  refine ok_iload_n dX6_remove_1 rfl rfl ?_
  obtain ⟨v1, M2, r3, h⟩ := h
  refine ok_callV2 dX6_remove_2 kX6_remove_68 r3 (by decide) rp_k155 rfl rfl (Nat.le_of_ble_eq_true rfl) ?_
  rintro _ _ ⟨rfl, rfl⟩
  refine ok_if_ne (tgt := 10) dX6_remove_5 (by decide) (fun c4 => ?_) (fun c4 => ?_)
  · replace h := h.1 c4
    refine ok_aload_n dX6_remove_10 rfl rfl ?_
    obtain ⟨P7, r6, h⟩ := h
    refine ok_callV2 dX6_remove_11 kX6_remove_61 r6 (by decide) rp_k155 rfl rfl (Nat.le_of_ble_eq_true rfl) ?_
    rintro _ M5 ⟨rfl, q8⟩
    replace h := h M5 q8
    refine ok_aload_n dX6_remove_14 rfl rfl ?_
    refine ok_getR (j := 156) dX6_remove_15 fX6_remove_7 (by decide) rp_k155 rfl (by decide) ?_
    refine ok_iconst (v := 0) dX6_remove_18 (by decide) ?_
    refine ok_dup2 dX6_remove_19 rfl rfl ?_
    refine ok_iaload (j := 0) dX6_remove_20 (by decide) rp_k156 (rp_vi (by decide)) (by decide) ?_
    refine ok_iconst (v := 1) dX6_remove_21 (by decide) ?_
    refine ok_isub dX6_remove_22 ?_
    refine ok_iastore (j := 0) dX6_remove_23 (by decide) rp_k156 (rp_vi (by decide)) (by decide) ?_
    replace h := h _ rfl
    refine ok_iload_n dX6_remove_24 rfl rfl ?_
    refine ok_istore_n dX6_remove_25 rfl (by decide) rfl ?_
    exact ok_mask [true, true, true, false] h
  · replace h := h.2 c4
    refine ok_iconst (v := (-1)) dX6_remove_8 (by decide) ?_
    exact ok_ireturn dX6_remove_9 rfl h
theorem vX6_remove_26 (E : rp_E) (post : Option Int32 → rp_M → Prop) (M : rp_M) (l1 : Int32) (l2 : Int32) (h : ((M 156 0) ≤ l2 → (rp_G E YX6_remove post 117 [.ref 155, .int l1, .int 0, .null] [] M)) ∧ (¬ (M 156 0) ≤ l2 → (rp_G E YX6_remove post 38 [.ref 155, .int l1, .int l2, .int 0] [] M))) : rp_G E YX6_remove post 26 [.ref 155, .int l1, .int l2, .null] [] M := by
  refine ok_iload_n dX6_remove_26 rfl rfl ?_
  refine ok_aload_n dX6_remove_27 rfl rfl ?_
  refine ok_getR (j := 156) dX6_remove_28 fX6_remove_7 (by decide) rp_k155 rfl (by decide) ?_
  refine ok_iconst (v := 0) dX6_remove_31 (by decide) ?_
  refine ok_iaload (j := 0) dX6_remove_32 (by decide) rp_k156 (rp_vi (by decide)) (by decide) ?_
  refine ok_icmp_ge (tgt := 115) dX6_remove_33 (by decide) (fun c10 => ?_) (fun c10 => ?_)
  · replace h := h.1 c10
    refine ok_iconst (v := 0) dX6_remove_115 (by decide) ?_
    refine ok_istore_n dX6_remove_116 rfl (by decide) rfl ?_
    exact ok_mask [true, true, true, false] h
  · replace h := h.2 c10
    refine ok_iconst (v := 0) dX6_remove_36 (by decide) ?_
    refine ok_istore_n dX6_remove_37 rfl (by decide) rfl ?_
    exact ok_mask [true, true, true, true] h
theorem vX6_remove_117 (E : rp_E) (post : Option Int32 → rp_M → Prop) (M : rp_M) (l1 : Int32) (l2 : Int32) (h : ((M 156 0) ≤ l2 → (post (some (M 156 0)) M)) ∧ (¬ (M 156 0) ≤ l2 → (vp_in ((64 : Int32) + l2) 88 ∧ (∃ v13 M14, rp_C E YX6_without [.int (M 156 (Int32.toNatClampNeg ((64 : Int32) + l2))), .int l1] M (some v13) M14 ∧ (∀ M16, M16 = rp_s M14 156 (Int32.toNatClampNeg ((64 : Int32) + l2)) v13 → (vp_in ((76 : Int32) + l2) 88 ∧ (∃ v18 M19, rp_C E YX6_without [.int (M16 156 (Int32.toNatClampNeg ((76 : Int32) + l2))), .int l1] M16 (some v18) M19 ∧ (∀ M21, M21 = rp_s M19 156 (Int32.toNatClampNeg ((76 : Int32) + l2)) v18 → (rp_G E YX6_remove post 117 [.ref 155, .int l1, .int (l2 + 1), .null] [] M21))))))))) : rp_G E YX6_remove post 117 [.ref 155, .int l1, .int l2, .null] [] M := by
  refine ok_iload_n dX6_remove_117 rfl rfl ?_
  refine ok_aload_n dX6_remove_118 rfl rfl ?_
  refine ok_getR (j := 156) dX6_remove_119 fX6_remove_7 (by decide) rp_k155 rfl (by decide) ?_
  refine ok_iconst (v := 0) dX6_remove_122 (by decide) ?_
  refine ok_iaload (j := 0) dX6_remove_123 (by decide) rp_k156 (rp_vi (by decide)) (by decide) ?_
  refine ok_icmp_ge (tgt := 177) dX6_remove_124 (by decide) (fun c11 => ?_) (fun c11 => ?_)
  · replace h := h.1 c11
    refine ok_aload_n dX6_remove_177 rfl rfl ?_
    refine ok_getR (j := 156) dX6_remove_178 fX6_remove_7 (by decide) rp_k155 rfl (by decide) ?_
    refine ok_iconst (v := 0) dX6_remove_181 (by decide) ?_
    refine ok_iaload (j := 0) dX6_remove_182 (by decide) rp_k156 (rp_vi (by decide)) (by decide) ?_
    exact ok_ireturn dX6_remove_183 rfl h
  · replace h := h.2 c11
    refine ok_aload_n dX6_remove_127 rfl rfl ?_
    refine ok_getR (j := 156) dX6_remove_128 fX6_remove_7 (by decide) rp_k155 rfl (by decide) ?_
    refine ok_bipush (v := 64) dX6_remove_131 (by decide) ?_
    refine ok_iload_n dX6_remove_133 rfl rfl ?_
    refine ok_iadd dX6_remove_134 ?_
    refine ok_aload_n dX6_remove_135 rfl rfl ?_
    refine ok_getR (j := 156) dX6_remove_136 fX6_remove_7 (by decide) rp_k155 rfl (by decide) ?_
    refine ok_bipush (v := 64) dX6_remove_139 (by decide) ?_
    refine ok_iload_n dX6_remove_141 rfl rfl ?_
    refine ok_iadd dX6_remove_142 ?_
    have b12 := h.1
    replace h := h.2
    refine ok_iaload dX6_remove_143 (by decide) rp_k156 b12 rfl ?_
    refine ok_iload_n dX6_remove_144 rfl rfl ?_
    obtain ⟨v13, M14, r15, h⟩ := h
    refine ok_callS2 dX6_remove_145 kX6_remove_76 r15 rfl rfl (Nat.le_of_ble_eq_true rfl) ?_
    rintro _ _ ⟨rfl, rfl⟩
    refine ok_iastore dX6_remove_148 (by decide) rp_k156 b12 rfl ?_
    replace h := h _ rfl
    refine ok_aload_n dX6_remove_149 rfl rfl ?_
    refine ok_getR (j := 156) dX6_remove_150 fX6_remove_7 (by decide) rp_k155 rfl (by decide) ?_
    refine ok_bipush (v := 76) dX6_remove_153 (by decide) ?_
    refine ok_iload_n dX6_remove_155 rfl rfl ?_
    refine ok_iadd dX6_remove_156 ?_
    refine ok_aload_n dX6_remove_157 rfl rfl ?_
    refine ok_getR (j := 156) dX6_remove_158 fX6_remove_7 (by decide) rp_k155 rfl (by decide) ?_
    refine ok_bipush (v := 76) dX6_remove_161 (by decide) ?_
    refine ok_iload_n dX6_remove_163 rfl rfl ?_
    refine ok_iadd dX6_remove_164 ?_
    have b17 := h.1
    replace h := h.2
    refine ok_iaload dX6_remove_165 (by decide) rp_k156 b17 rfl ?_
    refine ok_iload_n dX6_remove_166 rfl rfl ?_
    obtain ⟨v18, M19, r20, h⟩ := h
    refine ok_callS2 dX6_remove_167 kX6_remove_76 r20 rfl rfl (Nat.le_of_ble_eq_true rfl) ?_
    rintro _ _ ⟨rfl, rfl⟩
    refine ok_iastore dX6_remove_170 (by decide) rp_k156 b17 rfl ?_
    replace h := h _ rfl
    refine ok_iinc2 (w := 1) dX6_remove_171 rfl (by decide) (by decide) rfl ?_
    refine ok_goto (tgt := 117) dX6_remove_174 (by decide) ?_
    exact ok_mask [true, true, true, false] h
theorem vX6_remove_38 (E : rp_E) (post : Option Int32 → rp_M → Prop) (M : rp_M) (l1 : Int32) (l2 : Int32) (l3 : Int32) (h : (5 ≤ l3 → (vp_in (((64 : Int32) + l2) + 1) 88 ∧ (vp_in ((64 : Int32) + l2) 88 ∧ (∀ M25, M25 = rp_s M 156 (Int32.toNatClampNeg ((64 : Int32) + l2)) (M 156 (Int32.toNatClampNeg (((64 : Int32) + l2) + 1))) → (vp_in (((76 : Int32) + l2) + 1) 88 ∧ (vp_in ((76 : Int32) + l2) 88 ∧ (∀ M28, M28 = rp_s M25 156 (Int32.toNatClampNeg ((76 : Int32) + l2)) (M25 156 (Int32.toNatClampNeg (((76 : Int32) + l2) + 1))) → (rp_G E YX6_remove post 26 [.ref 155, .int l1, .int (l2 + 1), .null] [] M28)))))))) ∧ (¬ 5 ≤ l3 → (∃ v29 M30, rp_C E YX6_of [.ref 155, .int (l2 + 1), .int l3] M (some v29) M30 ∧ (vp_in (((4 : Int32) + ((5 : Int32) * l2)) + l3) 88 ∧ (∀ M33, M33 = rp_s M30 156 (Int32.toNatClampNeg (((4 : Int32) + ((5 : Int32) * l2)) + l3)) v29 → (rp_G E YX6_remove post 38 [.ref 155, .int l1, .int l2, .int (l3 + 1)] [] M33)))))) : rp_G E YX6_remove post 38 [.ref 155, .int l1, .int l2, .int l3] [] M := by
  refine ok_iload_n dX6_remove_38 rfl rfl ?_
  refine ok_iconst (v := 5) dX6_remove_39 (by decide) ?_
  refine ok_icmp_ge (tgt := 69) dX6_remove_40 (by decide) (fun c22 => ?_) (fun c22 => ?_)
  · replace h := h.1 c22
    refine ok_aload_n dX6_remove_69 rfl rfl ?_
    refine ok_getR (j := 156) dX6_remove_70 fX6_remove_7 (by decide) rp_k155 rfl (by decide) ?_
    refine ok_bipush (v := 64) dX6_remove_73 (by decide) ?_
    refine ok_iload_n dX6_remove_75 rfl rfl ?_
    refine ok_iadd dX6_remove_76 ?_
    refine ok_aload_n dX6_remove_77 rfl rfl ?_
    refine ok_getR (j := 156) dX6_remove_78 fX6_remove_7 (by decide) rp_k155 rfl (by decide) ?_
    refine ok_bipush (v := 64) dX6_remove_81 (by decide) ?_
    refine ok_iload_n dX6_remove_83 rfl rfl ?_
    refine ok_iadd dX6_remove_84 ?_
    refine ok_iconst (v := 1) dX6_remove_85 (by decide) ?_
    refine ok_iadd dX6_remove_86 ?_
    have b23 := h.1
    replace h := h.2
    refine ok_iaload dX6_remove_87 (by decide) rp_k156 b23 rfl ?_
    have b24 := h.1
    replace h := h.2
    refine ok_iastore dX6_remove_88 (by decide) rp_k156 b24 rfl ?_
    replace h := h _ rfl
    refine ok_aload_n dX6_remove_89 rfl rfl ?_
    refine ok_getR (j := 156) dX6_remove_90 fX6_remove_7 (by decide) rp_k155 rfl (by decide) ?_
    refine ok_bipush (v := 76) dX6_remove_93 (by decide) ?_
    refine ok_iload_n dX6_remove_95 rfl rfl ?_
    refine ok_iadd dX6_remove_96 ?_
    refine ok_aload_n dX6_remove_97 rfl rfl ?_
    refine ok_getR (j := 156) dX6_remove_98 fX6_remove_7 (by decide) rp_k155 rfl (by decide) ?_
    refine ok_bipush (v := 76) dX6_remove_101 (by decide) ?_
    refine ok_iload_n dX6_remove_103 rfl rfl ?_
    refine ok_iadd dX6_remove_104 ?_
    refine ok_iconst (v := 1) dX6_remove_105 (by decide) ?_
    refine ok_iadd dX6_remove_106 ?_
    have b26 := h.1
    replace h := h.2
    refine ok_iaload dX6_remove_107 (by decide) rp_k156 b26 rfl ?_
    have b27 := h.1
    replace h := h.2
    refine ok_iastore dX6_remove_108 (by decide) rp_k156 b27 rfl ?_
    replace h := h _ rfl
    refine ok_iinc2 (w := 1) dX6_remove_109 rfl (by decide) (by decide) rfl ?_
    refine ok_goto (tgt := 26) dX6_remove_112 (by decide) ?_
    exact ok_mask [true, true, true, false] h
  · replace h := h.2 c22
    refine ok_aload_n dX6_remove_43 rfl rfl ?_
    refine ok_getR (j := 156) dX6_remove_44 fX6_remove_7 (by decide) rp_k155 rfl (by decide) ?_
    refine ok_iconst (v := 4) dX6_remove_47 (by decide) ?_
    refine ok_iconst (v := 5) dX6_remove_48 (by decide) ?_
    refine ok_iload_n dX6_remove_49 rfl rfl ?_
    refine ok_imul dX6_remove_50 ?_
    refine ok_iadd dX6_remove_51 ?_
    refine ok_iload_n dX6_remove_52 rfl rfl ?_
    refine ok_iadd dX6_remove_53 ?_
    refine ok_aload_n dX6_remove_54 rfl rfl ?_
    refine ok_iload_n dX6_remove_55 rfl rfl ?_
    refine ok_iconst (v := 1) dX6_remove_56 (by decide) ?_
    refine ok_iadd dX6_remove_57 ?_
    refine ok_iload_n dX6_remove_58 rfl rfl ?_
    obtain ⟨v29, M30, r31, h⟩ := h
    refine ok_callV2 dX6_remove_59 kX6_remove_72 r31 (by decide) rp_k155 rfl rfl (Nat.le_of_ble_eq_true rfl) ?_
    rintro _ _ ⟨rfl, rfl⟩
    have b32 := h.1
    replace h := h.2
    refine ok_iastore dX6_remove_62 (by decide) rp_k156 b32 rfl ?_
    replace h := h _ rfl
    refine ok_iinc2 (w := 1) dX6_remove_63 rfl (by decide) (by decide) rfl ?_
    refine ok_goto (tgt := 38) dX6_remove_66 (by decide) ?_
    exact ok_mask [true, true, true, true] h
theorem vX6_isProperty (E : rp_E) (post : Option Int32 → rp_M → Prop) (M : rp_M) (l0 : Int32) (l1 : Int32) (h : (l0 = 0 → (∃ v1 M2, rp_C E YX6_in [.int l1, .int 1, .int 999] M (some v1) M2 ∧ (narrow .boolean (.int v1) = .int v1 ∧ (post (some v1) M2)))) ∧ (l0 = 1 → (∃ v4 M5, rp_C E YX6_in [.int l1, .int 1, .int 999] M (some v4) M5 ∧ (narrow .boolean (.int v4) = .int v4 ∧ (post (some v4) M5)))) ∧ (l0 = 2 → (∃ v7 M8, rp_C E YX6_in [.int l1, .int 0, .int 999] M (some v7) M8 ∧ (narrow .boolean (.int v7) = .int v7 ∧ (post (some v7) M8)))) ∧ (l0 = 3 → (∃ v10 M11, rp_C E YX6_in [.int l1, .int 0, .int 999] M (some v10) M11 ∧ (narrow .boolean (.int v10) = .int v10 ∧ (post (some v10) M11)))) ∧ (¬ l0 = 0 → ¬ l0 = 1 → ¬ l0 = 2 → ¬ l0 = 3 → ((¬ l0 = 4 → (post (some 0) M)) ∧ (l0 = 4 → (∃ v14 M15, rp_C E YX6_in [.int l1, .int (-1), .int 3] M (some v14) M15 ∧ ((v14 = 0 → (post (some 0) M15)) ∧ (¬ v14 = 0 → (post (some 1) M15)))))))) : rp_Run E YX6_isProperty [.int l0, .int l1] M post := by
  refine ok_start (by decide) oX6_isProperty (Nat.le_of_ble_eq_true rfl) ?_
  refine ok_iload_n dX6_isProperty_0 rfl rfl ?_
  by_cases c1_0 : l0 = 0
  · replace h := h.1 c1_0
    refine ok_tabIn (k := 0) (tgt := 32) dX6_isProperty_1 (by rw [c1_0]; decide) (by decide) (by rfl) (by decide) ?_
    refine ok_iload_n dX6_isProperty_32 rfl rfl ?_
    refine ok_iconst (v := 1) dX6_isProperty_33 (by decide) ?_
    refine ok_sipush (v := 999) dX6_isProperty_34 (by decide) ?_
    obtain ⟨v1, M2, r3, h⟩ := h
    refine ok_callS2 dX6_isProperty_37 kX6_isProperty_53 r3 rfl rfl (Nat.le_of_ble_eq_true rfl) ?_
    rintro _ _ ⟨rfl, rfl⟩
    exact ok_zreturn dX6_isProperty_40 rfl h.1 h.2
  replace h := h.2
  by_cases c1_1 : l0 = 1
  · replace h := h.1 c1_1
    refine ok_tabIn (k := 1) (tgt := 32) dX6_isProperty_1 (by rw [c1_1]; decide) (by decide) (by rfl) (by decide) ?_
    refine ok_iload_n dX6_isProperty_32 rfl rfl ?_
    refine ok_iconst (v := 1) dX6_isProperty_33 (by decide) ?_
    refine ok_sipush (v := 999) dX6_isProperty_34 (by decide) ?_
    obtain ⟨v4, M5, r6, h⟩ := h
    refine ok_callS2 dX6_isProperty_37 kX6_isProperty_53 r6 rfl rfl (Nat.le_of_ble_eq_true rfl) ?_
    rintro _ _ ⟨rfl, rfl⟩
    exact ok_zreturn dX6_isProperty_40 rfl h.1 h.2
  replace h := h.2
  by_cases c1_2 : l0 = 2
  · replace h := h.1 c1_2
    refine ok_tabIn (k := 2) (tgt := 41) dX6_isProperty_1 (by rw [c1_2]; decide) (by decide) (by rfl) (by decide) ?_
    refine ok_iload_n dX6_isProperty_41 rfl rfl ?_
    refine ok_iconst (v := 0) dX6_isProperty_42 (by decide) ?_
    refine ok_sipush (v := 999) dX6_isProperty_43 (by decide) ?_
    obtain ⟨v7, M8, r9, h⟩ := h
    refine ok_callS2 dX6_isProperty_46 kX6_isProperty_53 r9 rfl rfl (Nat.le_of_ble_eq_true rfl) ?_
    rintro _ _ ⟨rfl, rfl⟩
    exact ok_zreturn dX6_isProperty_49 rfl h.1 h.2
  replace h := h.2
  by_cases c1_3 : l0 = 3
  · replace h := h.1 c1_3
    refine ok_tabIn (k := 3) (tgt := 41) dX6_isProperty_1 (by rw [c1_3]; decide) (by decide) (by rfl) (by decide) ?_
    refine ok_iload_n dX6_isProperty_41 rfl rfl ?_
    refine ok_iconst (v := 0) dX6_isProperty_42 (by decide) ?_
    refine ok_sipush (v := 999) dX6_isProperty_43 (by decide) ?_
    obtain ⟨v10, M11, r12, h⟩ := h
    refine ok_callS2 dX6_isProperty_46 kX6_isProperty_53 r12 rfl rfl (Nat.le_of_ble_eq_true rfl) ?_
    rintro _ _ ⟨rfl, rfl⟩
    exact ok_zreturn dX6_isProperty_49 rfl h.1 h.2
  replace h := h.2
  replace h := h c1_0 c1_1 c1_2 c1_3
  refine ok_tabOut (tgt := 50) dX6_isProperty_1 (by have q := rp_tab_out (x := l0) 4 (by decide) (fun j hj => match j, hj with | 0, _ => c1_0 | 1, _ => c1_1 | 2, _ => c1_2 | 3, _ => c1_3 | j + 4, hj => absurd hj (by omega)); omega) (by decide) ?_
  refine ok_iload_n dX6_isProperty_50 rfl rfl ?_
  refine ok_iconst (v := 4) dX6_isProperty_51 (by decide) ?_
  refine ok_icmp_ne (tgt := 68) dX6_isProperty_52 (by decide) (fun c13 => ?_) (fun c13 => ?_)
  · replace h := h.1 c13
    refine ok_iconst (v := 0) dX6_isProperty_68 (by decide) ?_
    exact ok_zreturn dX6_isProperty_69 rfl (by decide) h
  · replace h := h.2 c13
    refine ok_iload_n dX6_isProperty_55 rfl rfl ?_
    refine ok_iconst (v := (-1)) dX6_isProperty_56 (by decide) ?_
    refine ok_iconst (v := 3) dX6_isProperty_57 (by decide) ?_
    obtain ⟨v14, M15, r16, h⟩ := h
    refine ok_callS2 dX6_isProperty_58 kX6_isProperty_53 r16 rfl rfl (Nat.le_of_ble_eq_true rfl) ?_
    rintro _ _ ⟨rfl, rfl⟩
    refine ok_if_eq (tgt := 68) dX6_isProperty_61 (by decide) (fun c17 => ?_) (fun c17 => ?_)
    · replace h := h.1 c17
      refine ok_iconst (v := 0) dX6_isProperty_68 (by decide) ?_
      exact ok_zreturn dX6_isProperty_69 rfl (by decide) h
    · replace h := h.2 c17
      refine ok_iconst (v := 1) dX6_isProperty_64 (by decide) ?_
      refine ok_goto (tgt := 69) dX6_isProperty_65 (by decide) ?_
      exact ok_zreturn dX6_isProperty_69 rfl (by decide) h
theorem vX6_set (E : rp_E) (post : Option Int32 → rp_M → Prop) (M : rp_M) (l1 : Int32) (l2 : Int32) (l3 : Int32) (h : ∃ v1 M2, rp_C E YX6_isItem [.ref 155, .int l1] M (some v1) M2 ∧ ((¬ v1 = 0 → (∃ v5 M6, rp_C E YX6_isProperty [.int l2, .int l3] M2 (some v5) M6 ∧ ((¬ v5 = 0 → (∃ P11 : rp_M → Prop, rp_Run E YX6_record [.ref 155] M6 (rp_P0 P11) ∧ (∀ M9, P11 M9 → (∃ v13 M14, rp_C E YX6_of [.ref 155, .int l1, .int l2] M9 (some v13) M14 ∧ ((0 ≤ l3 → (vp_in (((4 : Int32) + ((5 : Int32) * l1)) + l2) 88 ∧ (∀ M18, M18 = rp_s M14 156 (Int32.toNatClampNeg (((4 : Int32) + ((5 : Int32) * l1)) + l2)) l3 → (post (some v13) M18)))) ∧ (¬ 0 ≤ l3 → (vp_in (((4 : Int32) + ((5 : Int32) * l1)) + l2) 88 ∧ (∀ M20, M20 = rp_s M14 156 (Int32.toNatClampNeg (((4 : Int32) + ((5 : Int32) * l1)) + l2)) (-6) → (post (some v13) M20))))))))) ∧ (v5 = 0 → (post (some (-2)) M6))))) ∧ (v1 = 0 → (post (some (-1)) M2)))) : rp_Run E YX6_set [.ref 155, .int l1, .int l2, .int l3] M post := by
  refine ok_start (by decide) oX6_set (Nat.le_of_ble_eq_true rfl) ?_
  refine ok_aload_n dX6_set_0 rfl rfl ?_
  refine ok_iload_n dX6_set_1 rfl rfl ?_
  obtain ⟨v1, M2, r3, h⟩ := h
  refine ok_callV2 dX6_set_2 kX6_set_68 r3 (by decide) rp_k155 rfl rfl (Nat.le_of_ble_eq_true rfl) ?_
  rintro _ _ ⟨rfl, rfl⟩
  refine ok_if_ne (tgt := 10) dX6_set_5 (by decide) (fun c4 => ?_) (fun c4 => ?_)
  · replace h := h.1 c4
    refine ok_iload_n dX6_set_10 rfl rfl ?_
    refine ok_iload_n dX6_set_11 rfl rfl ?_
    obtain ⟨v5, M6, r7, h⟩ := h
    refine ok_callS2 dX6_set_12 kX6_set_79 r7 rfl rfl (Nat.le_of_ble_eq_true rfl) ?_
    rintro _ _ ⟨rfl, rfl⟩
    refine ok_if_ne (tgt := 21) dX6_set_15 (by decide) (fun c8 => ?_) (fun c8 => ?_)
    · replace h := h.1 c8
      refine ok_aload_n dX6_set_21 rfl rfl ?_
      obtain ⟨P11, r10, h⟩ := h
      refine ok_callV2 dX6_set_22 kX6_set_61 r10 (by decide) rp_k155 rfl rfl (Nat.le_of_ble_eq_true rfl) ?_
      rintro _ M9 ⟨rfl, q12⟩
      replace h := h M9 q12
      refine ok_aload_n dX6_set_25 rfl rfl ?_
      refine ok_iload_n dX6_set_26 rfl rfl ?_
      refine ok_iload_n dX6_set_27 rfl rfl ?_
      obtain ⟨v13, M14, r15, h⟩ := h
      refine ok_callV2 dX6_set_28 kX6_set_72 r15 (by decide) rp_k155 rfl rfl (Nat.le_of_ble_eq_true rfl) ?_
      rintro _ _ ⟨rfl, rfl⟩
      refine ok_istore dX6_set_31 (by decide) rfl ?_
      refine ok_aload_n dX6_set_33 rfl rfl ?_
      refine ok_getR (j := 156) dX6_set_34 fX6_set_7 (by decide) rp_k155 rfl (by decide) ?_
      refine ok_iconst (v := 4) dX6_set_37 (by decide) ?_
      refine ok_iconst (v := 5) dX6_set_38 (by decide) ?_
      refine ok_iload_n dX6_set_39 rfl rfl ?_
      refine ok_imul dX6_set_40 ?_
      refine ok_iadd dX6_set_41 ?_
      refine ok_iload_n dX6_set_42 rfl rfl ?_
      refine ok_iadd dX6_set_43 ?_
      refine ok_iload_n dX6_set_44 rfl rfl ?_
      refine ok_if_ge (tgt := 53) dX6_set_45 (by decide) (fun c16 => ?_) (fun c16 => ?_)
      · replace h := h.1 c16
        refine ok_iload_n dX6_set_53 rfl rfl ?_
        have b17 := h.1
        replace h := h.2
        refine ok_iastore dX6_set_54 (by decide) rp_k156 b17 rfl ?_
        replace h := h _ rfl
        refine ok_iload dX6_set_55 rfl ?_
        exact ok_ireturn dX6_set_57 rfl h
      · replace h := h.2 c16
        refine ok_bipush (v := (-6)) dX6_set_48 (by decide) ?_
        refine ok_goto (tgt := 54) dX6_set_50 (by decide) ?_
        have b19 := h.1
        replace h := h.2
        refine ok_iastore dX6_set_54 (by decide) rp_k156 b19 rfl ?_
        replace h := h _ rfl
        refine ok_iload dX6_set_55 rfl ?_
        exact ok_ireturn dX6_set_57 rfl h
    · replace h := h.2 c8
      refine ok_bipush (v := (-2)) dX6_set_18 (by decide) ?_
      exact ok_ireturn dX6_set_20 rfl h
  · replace h := h.2 c4
    refine ok_iconst (v := (-1)) dX6_set_8 (by decide) ?_
    exact ok_ireturn dX6_set_9 rfl h
theorem vX6_neededBy (E : rp_E) (post : Option Int32 → rp_M → Prop) (M : rp_M) (l1 : Int32) (h : rp_G E YX6_neededBy post 4 [.ref 155, .int l1, .int 0, .int 0] [] M) : rp_Run E YX6_neededBy [.ref 155, .int l1] M post := by
  refine ok_start (by decide) oX6_neededBy (Nat.le_of_ble_eq_true rfl) ?_
  refine ok_iconst (v := 0) dX6_neededBy_0 (by decide) ?_
  refine ok_istore_n dX6_neededBy_1 rfl (by decide) rfl ?_
  refine ok_iconst (v := 0) dX6_neededBy_2 (by decide) ?_
  refine ok_istore_n dX6_neededBy_3 rfl (by decide) rfl ?_
  exact ok_mask [true, true, true, true] h
theorem vX6_neededBy_4 (E : rp_E) (post : Option Int32 → rp_M → Prop) (M : rp_M) (l1 : Int32) (l2 : Int32) (l3 : Int32) (h : ((M 156 0) ≤ l3 → (post (some l2) M)) ∧ (¬ (M 156 0) ≤ l3 → (vp_in ((76 : Int32) + l3) 88 ∧ (∃ v3 M4, rp_C E YX6_has [.int (M 156 (Int32.toNatClampNeg ((76 : Int32) + l3))), .int l1] M (some v3) M4 ∧ ((v3 = 0 → (rp_G E YX6_neededBy post 4 [.ref 155, .int l1, .int (l2 ||| 0), .int (l3 + 1)] [] M4)) ∧ (¬ v3 = 0 → (rp_G E YX6_neededBy post 4 [.ref 155, .int l1, .int (l2 ||| ((1 : Int32) <<< (l3 &&& 31) : Int32)), .int (l3 + 1)] [] M4))))))) : rp_G E YX6_neededBy post 4 [.ref 155, .int l1, .int l2, .int l3] [] M := by
  refine ok_iload_n dX6_neededBy_4 rfl rfl ?_
  refine ok_aload_n dX6_neededBy_5 rfl rfl ?_
  refine ok_getR (j := 156) dX6_neededBy_6 fX6_neededBy_7 (by decide) rp_k155 rfl (by decide) ?_
  refine ok_iconst (v := 0) dX6_neededBy_9 (by decide) ?_
  refine ok_iaload (j := 0) dX6_neededBy_10 (by decide) rp_k156 (rp_vi (by decide)) (by decide) ?_
  refine ok_icmp_ge (tgt := 46) dX6_neededBy_11 (by decide) (fun c1 => ?_) (fun c1 => ?_)
  · replace h := h.1 c1
    refine ok_iload_n dX6_neededBy_46 rfl rfl ?_
    exact ok_ireturn dX6_neededBy_47 rfl h
  · replace h := h.2 c1
    refine ok_iload_n dX6_neededBy_14 rfl rfl ?_
    refine ok_aload_n dX6_neededBy_15 rfl rfl ?_
    refine ok_getR (j := 156) dX6_neededBy_16 fX6_neededBy_7 (by decide) rp_k155 rfl (by decide) ?_
    refine ok_bipush (v := 76) dX6_neededBy_19 (by decide) ?_
    refine ok_iload_n dX6_neededBy_21 rfl rfl ?_
    refine ok_iadd dX6_neededBy_22 ?_
    have b2 := h.1
    replace h := h.2
    refine ok_iaload dX6_neededBy_23 (by decide) rp_k156 b2 rfl ?_
    refine ok_iload_n dX6_neededBy_24 rfl rfl ?_
    obtain ⟨v3, M4, r5, h⟩ := h
    refine ok_callS2 dX6_neededBy_25 kX6_neededBy_83 r5 rfl rfl (Nat.le_of_ble_eq_true rfl) ?_
    rintro _ _ ⟨rfl, rfl⟩
    refine ok_if_eq (tgt := 37) dX6_neededBy_28 (by decide) (fun c6 => ?_) (fun c6 => ?_)
    · replace h := h.1 c6
      refine ok_iconst (v := 0) dX6_neededBy_37 (by decide) ?_
      refine ok_ior dX6_neededBy_38 ?_
      refine ok_istore_n dX6_neededBy_39 rfl (by decide) rfl ?_
      refine ok_iinc2 (w := 1) dX6_neededBy_40 rfl (by decide) (by decide) rfl ?_
      refine ok_goto (tgt := 4) dX6_neededBy_43 (by decide) ?_
      exact ok_mask [true, true, true, true] h
    · replace h := h.2 c6
      refine ok_iconst (v := 1) dX6_neededBy_31 (by decide) ?_
      refine ok_iload_n dX6_neededBy_32 rfl rfl ?_
      refine ok_ishl dX6_neededBy_33 ?_
      refine ok_goto (tgt := 38) dX6_neededBy_34 (by decide) ?_
      refine ok_ior dX6_neededBy_38 ?_
      refine ok_istore_n dX6_neededBy_39 rfl (by decide) rfl ?_
      refine ok_iinc2 (w := 1) dX6_neededBy_40 rfl (by decide) (by decide) rfl ?_
      refine ok_goto (tgt := 4) dX6_neededBy_43 (by decide) ?_
      exact ok_mask [true, true, true, true] h
theorem vX6_item (E : rp_E) (post : Option Int32 → rp_M → Prop) (M : rp_M) (l1 : Int32) (l2 : Int32) (h : ∃ v1 M2, rp_C E YX6_isItem [.ref 155, .int l1] M (some v1) M2 ∧ ((¬ v1 = 0 → ((l2 = 0 → (∃ v5 M6, rp_C E YX6_of [.ref 155, .int l1, .int l2] M2 (some v5) M6 ∧ (post (some v5) M6))) ∧ (l2 = 1 → (∃ v8 M9, rp_C E YX6_of [.ref 155, .int l1, .int l2] M2 (some v8) M9 ∧ (post (some v8) M9))) ∧ (l2 = 2 → (∃ v11 M12, rp_C E YX6_of [.ref 155, .int l1, .int l2] M2 (some v11) M12 ∧ (post (some v11) M12))) ∧ (l2 = 3 → (∃ v14 M15, rp_C E YX6_of [.ref 155, .int l1, .int l2] M2 (some v14) M15 ∧ (post (some v14) M15))) ∧ (l2 = 4 → (∃ v17 M18, rp_C E YX6_of [.ref 155, .int l1, .int l2] M2 (some v17) M18 ∧ (post (some v17) M18))) ∧ (l2 = 5 → (vp_in ((64 : Int32) + l1) 88 ∧ (post (some (M2 156 (Int32.toNatClampNeg ((64 : Int32) + l1)))) M2))) ∧ (l2 = 6 → (vp_in ((76 : Int32) + l1) 88 ∧ (post (some (M2 156 (Int32.toNatClampNeg ((76 : Int32) + l1)))) M2))) ∧ (l2 = 7 → (∃ v22 M23, rp_C E YX6_neededBy [.ref 155, .int l1] M2 (some v22) M23 ∧ (post (some v22) M23))) ∧ (¬ l2 = 0 → ¬ l2 = 1 → ¬ l2 = 2 → ¬ l2 = 3 → ¬ l2 = 4 → ¬ l2 = 5 → ¬ l2 = 6 → ¬ l2 = 7 → (post (some (-2)) M2)))) ∧ (v1 = 0 → (post (some (-1)) M2)))) : rp_Run E YX6_item [.ref 155, .int l1, .int l2] M post := by
  refine ok_start (by decide) oX6_item (Nat.le_of_ble_eq_true rfl) ?_
  refine ok_aload_n dX6_item_0 rfl rfl ?_
  refine ok_iload_n dX6_item_1 rfl rfl ?_
  obtain ⟨v1, M2, r3, h⟩ := h
  refine ok_callV2 dX6_item_2 kX6_item_68 r3 (by decide) rp_k155 rfl rfl (Nat.le_of_ble_eq_true rfl) ?_
  rintro _ _ ⟨rfl, rfl⟩
  refine ok_if_ne (tgt := 10) dX6_item_5 (by decide) (fun c4 => ?_) (fun c4 => ?_)
  · replace h := h.1 c4
    refine ok_iload_n dX6_item_10 rfl rfl ?_
    by_cases c11_0 : l2 = 0
    · replace h := h.1 c11_0
      refine ok_tabIn (k := 0) (tgt := 56) dX6_item_11 (by rw [c11_0]; decide) (by decide) (by rfl) (by decide) ?_
      refine ok_aload_n dX6_item_56 rfl rfl ?_
      refine ok_iload_n dX6_item_57 rfl rfl ?_
      refine ok_iload_n dX6_item_58 rfl rfl ?_
      obtain ⟨v5, M6, r7, h⟩ := h
      refine ok_callV2 dX6_item_59 kX6_item_72 r7 (by decide) rp_k155 rfl rfl (Nat.le_of_ble_eq_true rfl) ?_
      rintro _ _ ⟨rfl, rfl⟩
      exact ok_ireturn dX6_item_62 rfl h
    replace h := h.2
    by_cases c11_1 : l2 = 1
    · replace h := h.1 c11_1
      refine ok_tabIn (k := 1) (tgt := 56) dX6_item_11 (by rw [c11_1]; decide) (by decide) (by rfl) (by decide) ?_
      refine ok_aload_n dX6_item_56 rfl rfl ?_
      refine ok_iload_n dX6_item_57 rfl rfl ?_
      refine ok_iload_n dX6_item_58 rfl rfl ?_
      obtain ⟨v8, M9, r10, h⟩ := h
      refine ok_callV2 dX6_item_59 kX6_item_72 r10 (by decide) rp_k155 rfl rfl (Nat.le_of_ble_eq_true rfl) ?_
      rintro _ _ ⟨rfl, rfl⟩
      exact ok_ireturn dX6_item_62 rfl h
    replace h := h.2
    by_cases c11_2 : l2 = 2
    · replace h := h.1 c11_2
      refine ok_tabIn (k := 2) (tgt := 56) dX6_item_11 (by rw [c11_2]; decide) (by decide) (by rfl) (by decide) ?_
      refine ok_aload_n dX6_item_56 rfl rfl ?_
      refine ok_iload_n dX6_item_57 rfl rfl ?_
      refine ok_iload_n dX6_item_58 rfl rfl ?_
      obtain ⟨v11, M12, r13, h⟩ := h
      refine ok_callV2 dX6_item_59 kX6_item_72 r13 (by decide) rp_k155 rfl rfl (Nat.le_of_ble_eq_true rfl) ?_
      rintro _ _ ⟨rfl, rfl⟩
      exact ok_ireturn dX6_item_62 rfl h
    replace h := h.2
    by_cases c11_3 : l2 = 3
    · replace h := h.1 c11_3
      refine ok_tabIn (k := 3) (tgt := 56) dX6_item_11 (by rw [c11_3]; decide) (by decide) (by rfl) (by decide) ?_
      refine ok_aload_n dX6_item_56 rfl rfl ?_
      refine ok_iload_n dX6_item_57 rfl rfl ?_
      refine ok_iload_n dX6_item_58 rfl rfl ?_
      obtain ⟨v14, M15, r16, h⟩ := h
      refine ok_callV2 dX6_item_59 kX6_item_72 r16 (by decide) rp_k155 rfl rfl (Nat.le_of_ble_eq_true rfl) ?_
      rintro _ _ ⟨rfl, rfl⟩
      exact ok_ireturn dX6_item_62 rfl h
    replace h := h.2
    by_cases c11_4 : l2 = 4
    · replace h := h.1 c11_4
      refine ok_tabIn (k := 4) (tgt := 56) dX6_item_11 (by rw [c11_4]; decide) (by decide) (by rfl) (by decide) ?_
      refine ok_aload_n dX6_item_56 rfl rfl ?_
      refine ok_iload_n dX6_item_57 rfl rfl ?_
      refine ok_iload_n dX6_item_58 rfl rfl ?_
      obtain ⟨v17, M18, r19, h⟩ := h
      refine ok_callV2 dX6_item_59 kX6_item_72 r19 (by decide) rp_k155 rfl rfl (Nat.le_of_ble_eq_true rfl) ?_
      rintro _ _ ⟨rfl, rfl⟩
      exact ok_ireturn dX6_item_62 rfl h
    replace h := h.2
    by_cases c11_5 : l2 = 5
    · replace h := h.1 c11_5
      refine ok_tabIn (k := 5) (tgt := 63) dX6_item_11 (by rw [c11_5]; decide) (by decide) (by rfl) (by decide) ?_
      refine ok_aload_n dX6_item_63 rfl rfl ?_
      refine ok_getR (j := 156) dX6_item_64 fX6_item_7 (by decide) rp_k155 rfl (by decide) ?_
      refine ok_bipush (v := 64) dX6_item_67 (by decide) ?_
      refine ok_iload_n dX6_item_69 rfl rfl ?_
      refine ok_iadd dX6_item_70 ?_
      have b20 := h.1
      replace h := h.2
      refine ok_iaload dX6_item_71 (by decide) rp_k156 b20 rfl ?_
      exact ok_ireturn dX6_item_72 rfl h
    replace h := h.2
    by_cases c11_6 : l2 = 6
    · replace h := h.1 c11_6
      refine ok_tabIn (k := 6) (tgt := 73) dX6_item_11 (by rw [c11_6]; decide) (by decide) (by rfl) (by decide) ?_
      refine ok_aload_n dX6_item_73 rfl rfl ?_
      refine ok_getR (j := 156) dX6_item_74 fX6_item_7 (by decide) rp_k155 rfl (by decide) ?_
      refine ok_bipush (v := 76) dX6_item_77 (by decide) ?_
      refine ok_iload_n dX6_item_79 rfl rfl ?_
      refine ok_iadd dX6_item_80 ?_
      have b21 := h.1
      replace h := h.2
      refine ok_iaload dX6_item_81 (by decide) rp_k156 b21 rfl ?_
      exact ok_ireturn dX6_item_82 rfl h
    replace h := h.2
    by_cases c11_7 : l2 = 7
    · replace h := h.1 c11_7
      refine ok_tabIn (k := 7) (tgt := 83) dX6_item_11 (by rw [c11_7]; decide) (by decide) (by rfl) (by decide) ?_
      refine ok_aload_n dX6_item_83 rfl rfl ?_
      refine ok_iload_n dX6_item_84 rfl rfl ?_
      obtain ⟨v22, M23, r24, h⟩ := h
      refine ok_callV2 dX6_item_85 kX6_item_86 r24 (by decide) rp_k155 rfl rfl (Nat.le_of_ble_eq_true rfl) ?_
      rintro _ _ ⟨rfl, rfl⟩
      exact ok_ireturn dX6_item_88 rfl h
    replace h := h.2
    replace h := h c11_0 c11_1 c11_2 c11_3 c11_4 c11_5 c11_6 c11_7
    refine ok_tabOut (tgt := 89) dX6_item_11 (by have q := rp_tab_out (x := l2) 8 (by decide) (fun j hj => match j, hj with | 0, _ => c11_0 | 1, _ => c11_1 | 2, _ => c11_2 | 3, _ => c11_3 | 4, _ => c11_4 | 5, _ => c11_5 | 6, _ => c11_6 | 7, _ => c11_7 | j + 8, hj => absurd hj (by omega)); omega) (by decide) ?_
    refine ok_bipush (v := (-2)) dX6_item_89 (by decide) ?_
    exact ok_ireturn dX6_item_91 rfl h
  · replace h := h.2 c4
    refine ok_iconst (v := (-1)) dX6_item_8 (by decide) ?_
    exact ok_ireturn dX6_item_9 rfl h
theorem vX6_conflict (E : rp_E) (post : Option Int32 → rp_M → Prop) (M : rp_M) (l1 : Int32) (l2 : Int32) (h : ∃ v1 M2, rp_C E YX6_isItem [.ref 155, .int l1] M (some v1) M2 ∧ ((v1 = 0 → (post (some (-1)) M2)) ∧ (¬ v1 = 0 → (∃ v5 M6, rp_C E YX6_isItem [.ref 155, .int l2] M2 (some v5) M6 ∧ ((¬ v5 = 0 → ((¬ l1 = l2 → (∃ P12 : rp_M → Prop, rp_Run E YX6_record [.ref 155] M6 (rp_P0 P12) ∧ (∀ M10, P12 M10 → (vp_in ((64 : Int32) + l1) 88 ∧ (∀ M15, M15 = rp_s M10 156 (Int32.toNatClampNeg ((64 : Int32) + l1)) ((M10 156 (Int32.toNatClampNeg ((64 : Int32) + l1))) ^^^ ((1 : Int32) <<< (l2 &&& 31) : Int32)) → (vp_in ((64 : Int32) + l2) 88 ∧ (∀ M17, M17 = rp_s M15 156 (Int32.toNatClampNeg ((64 : Int32) + l2)) ((M15 156 (Int32.toNatClampNeg ((64 : Int32) + l2))) ^^^ ((1 : Int32) <<< (l1 &&& 31) : Int32)) → (post (some (((M17 156 (Int32.toNatClampNeg ((64 : Int32) + l1))) >>> (l2 &&& 31) : Int32) &&& 1)) M17)))))))) ∧ (l1 = l2 → (post (some (-2)) M6)))) ∧ (v5 = 0 → (post (some (-1)) M6))))))) : rp_Run E YX6_conflict [.ref 155, .int l1, .int l2] M post := by
  refine ok_start (by decide) oX6_conflict (Nat.le_of_ble_eq_true rfl) ?_
  refine ok_aload_n dX6_conflict_0 rfl rfl ?_
  refine ok_iload_n dX6_conflict_1 rfl rfl ?_
  obtain ⟨v1, M2, r3, h⟩ := h
  refine ok_callV2 dX6_conflict_2 kX6_conflict_68 r3 (by decide) rp_k155 rfl rfl (Nat.le_of_ble_eq_true rfl) ?_
  rintro _ _ ⟨rfl, rfl⟩
  refine ok_if_eq (tgt := 16) dX6_conflict_5 (by decide) (fun c4 => ?_) (fun c4 => ?_)
  · replace h := h.1 c4
    refine ok_iconst (v := (-1)) dX6_conflict_16 (by decide) ?_
    exact ok_ireturn dX6_conflict_17 rfl h
  · replace h := h.2 c4
    refine ok_aload_n dX6_conflict_8 rfl rfl ?_
    refine ok_iload_n dX6_conflict_9 rfl rfl ?_
    obtain ⟨v5, M6, r7, h⟩ := h
    refine ok_callV2 dX6_conflict_10 kX6_conflict_68 r7 (by decide) rp_k155 rfl rfl (Nat.le_of_ble_eq_true rfl) ?_
    rintro _ _ ⟨rfl, rfl⟩
    refine ok_if_ne (tgt := 18) dX6_conflict_13 (by decide) (fun c8 => ?_) (fun c8 => ?_)
    · replace h := h.1 c8
      refine ok_iload_n dX6_conflict_18 rfl rfl ?_
      refine ok_iload_n dX6_conflict_19 rfl rfl ?_
      refine ok_icmp_ne (tgt := 26) dX6_conflict_20 (by decide) (fun c9 => ?_) (fun c9 => ?_)
      · replace h := h.1 c9
        refine ok_aload_n dX6_conflict_26 rfl rfl ?_
        obtain ⟨P12, r11, h⟩ := h
        refine ok_callV2 dX6_conflict_27 kX6_conflict_61 r11 (by decide) rp_k155 rfl rfl (Nat.le_of_ble_eq_true rfl) ?_
        rintro _ M10 ⟨rfl, q13⟩
        replace h := h M10 q13
        refine ok_aload_n dX6_conflict_30 rfl rfl ?_
        refine ok_getR (j := 156) dX6_conflict_31 fX6_conflict_7 (by decide) rp_k155 rfl (by decide) ?_
        refine ok_bipush (v := 64) dX6_conflict_34 (by decide) ?_
        refine ok_iload_n dX6_conflict_36 rfl rfl ?_
        refine ok_iadd dX6_conflict_37 ?_
        refine ok_dup2 dX6_conflict_38 rfl rfl ?_
        have b14 := h.1
        replace h := h.2
        refine ok_iaload dX6_conflict_39 (by decide) rp_k156 b14 rfl ?_
        refine ok_iconst (v := 1) dX6_conflict_40 (by decide) ?_
        refine ok_iload_n dX6_conflict_41 rfl rfl ?_
        refine ok_ishl dX6_conflict_42 ?_
        refine ok_ixor dX6_conflict_43 ?_
        refine ok_iastore dX6_conflict_44 (by decide) rp_k156 b14 rfl ?_
        replace h := h _ rfl
        refine ok_aload_n dX6_conflict_45 rfl rfl ?_
        refine ok_getR (j := 156) dX6_conflict_46 fX6_conflict_7 (by decide) rp_k155 rfl (by decide) ?_
        refine ok_bipush (v := 64) dX6_conflict_49 (by decide) ?_
        refine ok_iload_n dX6_conflict_51 rfl rfl ?_
        refine ok_iadd dX6_conflict_52 ?_
        refine ok_dup2 dX6_conflict_53 rfl rfl ?_
        have b16 := h.1
        replace h := h.2
        refine ok_iaload dX6_conflict_54 (by decide) rp_k156 b16 rfl ?_
        refine ok_iconst (v := 1) dX6_conflict_55 (by decide) ?_
        refine ok_iload_n dX6_conflict_56 rfl rfl ?_
        refine ok_ishl dX6_conflict_57 ?_
        refine ok_ixor dX6_conflict_58 ?_
        refine ok_iastore dX6_conflict_59 (by decide) rp_k156 b16 rfl ?_
        replace h := h _ rfl
        refine ok_aload_n dX6_conflict_60 rfl rfl ?_
        refine ok_getR (j := 156) dX6_conflict_61 fX6_conflict_7 (by decide) rp_k155 rfl (by decide) ?_
        refine ok_bipush (v := 64) dX6_conflict_64 (by decide) ?_
        refine ok_iload_n dX6_conflict_66 rfl rfl ?_
        refine ok_iadd dX6_conflict_67 ?_
        refine ok_iaload dX6_conflict_68 (by decide) rp_k156 b14 rfl ?_
        refine ok_iload_n dX6_conflict_69 rfl rfl ?_
        refine ok_ishr dX6_conflict_70 ?_
        refine ok_iconst (v := 1) dX6_conflict_71 (by decide) ?_
        refine ok_iand dX6_conflict_72 ?_
        exact ok_ireturn dX6_conflict_73 rfl h
      · replace h := h.2 c9
        refine ok_bipush (v := (-2)) dX6_conflict_23 (by decide) ?_
        exact ok_ireturn dX6_conflict_25 rfl h
    · replace h := h.2 c8
      refine ok_iconst (v := (-1)) dX6_conflict_16 (by decide) ?_
      exact ok_ireturn dX6_conflict_17 rfl h
theorem vX6_need (E : rp_E) (post : Option Int32 → rp_M → Prop) (M : rp_M) (l1 : Int32) (l2 : Int32) (h : ∃ v1 M2, rp_C E YX6_isItem [.ref 155, .int l1] M (some v1) M2 ∧ ((v1 = 0 → (post (some (-1)) M2)) ∧ (¬ v1 = 0 → (∃ v5 M6, rp_C E YX6_isItem [.ref 155, .int l2] M2 (some v5) M6 ∧ ((¬ v5 = 0 → ((¬ l1 = l2 → (∃ P12 : rp_M → Prop, rp_Run E YX6_record [.ref 155] M6 (rp_P0 P12) ∧ (∀ M10, P12 M10 → (vp_in ((76 : Int32) + l1) 88 ∧ (∀ M15, M15 = rp_s M10 156 (Int32.toNatClampNeg ((76 : Int32) + l1)) ((M10 156 (Int32.toNatClampNeg ((76 : Int32) + l1))) ^^^ ((1 : Int32) <<< (l2 &&& 31) : Int32)) → (post (some (((M15 156 (Int32.toNatClampNeg ((76 : Int32) + l1))) >>> (l2 &&& 31) : Int32) &&& 1)) M15)))))) ∧ (l1 = l2 → (post (some (-2)) M6)))) ∧ (v5 = 0 → (post (some (-1)) M6))))))) : rp_Run E YX6_need [.ref 155, .int l1, .int l2] M post := by
  refine ok_start (by decide) oX6_need (Nat.le_of_ble_eq_true rfl) ?_
  refine ok_aload_n dX6_need_0 rfl rfl ?_
  refine ok_iload_n dX6_need_1 rfl rfl ?_
  obtain ⟨v1, M2, r3, h⟩ := h
  refine ok_callV2 dX6_need_2 kX6_need_68 r3 (by decide) rp_k155 rfl rfl (Nat.le_of_ble_eq_true rfl) ?_
  rintro _ _ ⟨rfl, rfl⟩
  refine ok_if_eq (tgt := 16) dX6_need_5 (by decide) (fun c4 => ?_) (fun c4 => ?_)
  · replace h := h.1 c4
    refine ok_iconst (v := (-1)) dX6_need_16 (by decide) ?_
    exact ok_ireturn dX6_need_17 rfl h
  · replace h := h.2 c4
    refine ok_aload_n dX6_need_8 rfl rfl ?_
    refine ok_iload_n dX6_need_9 rfl rfl ?_
    obtain ⟨v5, M6, r7, h⟩ := h
    refine ok_callV2 dX6_need_10 kX6_need_68 r7 (by decide) rp_k155 rfl rfl (Nat.le_of_ble_eq_true rfl) ?_
    rintro _ _ ⟨rfl, rfl⟩
    refine ok_if_ne (tgt := 18) dX6_need_13 (by decide) (fun c8 => ?_) (fun c8 => ?_)
    · replace h := h.1 c8
      refine ok_iload_n dX6_need_18 rfl rfl ?_
      refine ok_iload_n dX6_need_19 rfl rfl ?_
      refine ok_icmp_ne (tgt := 26) dX6_need_20 (by decide) (fun c9 => ?_) (fun c9 => ?_)
      · replace h := h.1 c9
        refine ok_aload_n dX6_need_26 rfl rfl ?_
        obtain ⟨P12, r11, h⟩ := h
        refine ok_callV2 dX6_need_27 kX6_need_61 r11 (by decide) rp_k155 rfl rfl (Nat.le_of_ble_eq_true rfl) ?_
        rintro _ M10 ⟨rfl, q13⟩
        replace h := h M10 q13
        refine ok_aload_n dX6_need_30 rfl rfl ?_
        refine ok_getR (j := 156) dX6_need_31 fX6_need_7 (by decide) rp_k155 rfl (by decide) ?_
        refine ok_bipush (v := 76) dX6_need_34 (by decide) ?_
        refine ok_iload_n dX6_need_36 rfl rfl ?_
        refine ok_iadd dX6_need_37 ?_
        refine ok_dup2 dX6_need_38 rfl rfl ?_
        have b14 := h.1
        replace h := h.2
        refine ok_iaload dX6_need_39 (by decide) rp_k156 b14 rfl ?_
        refine ok_iconst (v := 1) dX6_need_40 (by decide) ?_
        refine ok_iload_n dX6_need_41 rfl rfl ?_
        refine ok_ishl dX6_need_42 ?_
        refine ok_ixor dX6_need_43 ?_
        refine ok_iastore dX6_need_44 (by decide) rp_k156 b14 rfl ?_
        replace h := h _ rfl
        refine ok_aload_n dX6_need_45 rfl rfl ?_
        refine ok_getR (j := 156) dX6_need_46 fX6_need_7 (by decide) rp_k155 rfl (by decide) ?_
        refine ok_bipush (v := 76) dX6_need_49 (by decide) ?_
        refine ok_iload_n dX6_need_51 rfl rfl ?_
        refine ok_iadd dX6_need_52 ?_
        refine ok_iaload dX6_need_53 (by decide) rp_k156 b14 rfl ?_
        refine ok_iload_n dX6_need_54 rfl rfl ?_
        refine ok_ishr dX6_need_55 ?_
        refine ok_iconst (v := 1) dX6_need_56 (by decide) ?_
        refine ok_iand dX6_need_57 ?_
        exact ok_ireturn dX6_need_58 rfl h
      · replace h := h.2 c9
        refine ok_bipush (v := (-2)) dX6_need_23 (by decide) ?_
        exact ok_ireturn dX6_need_25 rfl h
    · replace h := h.2 c8
      refine ok_iconst (v := (-1)) dX6_need_16 (by decide) ?_
      exact ok_ireturn dX6_need_17 rfl h
theorem vX6_rule (E : rp_E) (post : Option Int32 → rp_M → Prop) (M : rp_M) (l1 : Int32) (l2 : Int32) (h : (¬ l1 = 0 → (∃ v2 M3, rp_C E YX6_in [.int l1, .int 1, .int 2] M (some v2) M3 ∧ ((v2 = 0 → (post (some (-2)) M3)) ∧ (¬ v2 = 0 → (∃ v7 M8, rp_C E YX6_in [.int l2, .int 0, .int 12] M3 (some v7) M8 ∧ ((v7 = 0 → (post (some (-2)) M8)) ∧ (¬ v7 = 0 → (∃ P15 : rp_M → Prop, rp_Run E YX6_record [.ref 155] M8 (rp_P0 P15) ∧ (∀ M13, P15 M13 → (vp_in ((1 : Int32) + l1) 88 ∧ (∀ M18, M18 = rp_s M13 156 (Int32.toNatClampNeg ((1 : Int32) + l1)) l2 → (post (some (M13 156 (Int32.toNatClampNeg ((1 : Int32) + l1)))) M18)))))))))))) ∧ (l1 = 0 → (∃ v19 M20, rp_C E YX6_in [.int l2, .int 0, .int 9999] M (some v19) M20 ∧ ((¬ v19 = 0 → (∃ P25 : rp_M → Prop, rp_Run E YX6_record [.ref 155] M20 (rp_P0 P25) ∧ (∀ M23, P25 M23 → (vp_in ((1 : Int32) + l1) 88 ∧ (∀ M28, M28 = rp_s M23 156 (Int32.toNatClampNeg ((1 : Int32) + l1)) l2 → (post (some (M23 156 (Int32.toNatClampNeg ((1 : Int32) + l1)))) M28)))))) ∧ (v19 = 0 → (post (some (-2)) M20)))))) : rp_Run E YX6_rule [.ref 155, .int l1, .int l2] M post := by
  refine ok_start (by decide) oX6_rule (Nat.le_of_ble_eq_true rfl) ?_
  refine ok_iload_n dX6_rule_0 rfl rfl ?_
  refine ok_if_ne (tgt := 15) dX6_rule_1 (by decide) (fun c1 => ?_) (fun c1 => ?_)
  · replace h := h.1 c1
    refine ok_iload_n dX6_rule_15 rfl rfl ?_
    refine ok_iconst (v := 1) dX6_rule_16 (by decide) ?_
    refine ok_iconst (v := 2) dX6_rule_17 (by decide) ?_
    obtain ⟨v2, M3, r4, h⟩ := h
    refine ok_callS2 dX6_rule_18 kX6_rule_53 r4 rfl rfl (Nat.le_of_ble_eq_true rfl) ?_
    rintro _ _ ⟨rfl, rfl⟩
    refine ok_if_eq (tgt := 38) dX6_rule_21 (by decide) (fun c5 => ?_) (fun c5 => ?_)
    · replace h := h.1 c5
      refine ok_iconst (v := 0) dX6_rule_38 (by decide) ?_
      refine ok_istore_n dX6_rule_39 rfl (by decide) rfl ?_
      refine ok_iload_n dX6_rule_40 rfl rfl ?_
      refine ok_if_ne (tgt := 47) dX6_rule_41 (by decide) (fun c6 => absurd c6 (by decide)) (fun c6 => ?_)
      refine ok_bipush (v := (-2)) dX6_rule_44 (by decide) ?_
      exact ok_ireturn dX6_rule_46 rfl h
    · replace h := h.2 c5
      refine ok_iload_n dX6_rule_24 rfl rfl ?_
      refine ok_iconst (v := 0) dX6_rule_25 (by decide) ?_
      refine ok_bipush (v := 12) dX6_rule_26 (by decide) ?_
      obtain ⟨v7, M8, r9, h⟩ := h
      refine ok_callS2 dX6_rule_28 kX6_rule_53 r9 rfl rfl (Nat.le_of_ble_eq_true rfl) ?_
      rintro _ _ ⟨rfl, rfl⟩
      refine ok_if_eq (tgt := 38) dX6_rule_31 (by decide) (fun c10 => ?_) (fun c10 => ?_)
      · replace h := h.1 c10
        refine ok_iconst (v := 0) dX6_rule_38 (by decide) ?_
        refine ok_istore_n dX6_rule_39 rfl (by decide) rfl ?_
        refine ok_iload_n dX6_rule_40 rfl rfl ?_
        refine ok_if_ne (tgt := 47) dX6_rule_41 (by decide) (fun c11 => absurd c11 (by decide)) (fun c11 => ?_)
        refine ok_bipush (v := (-2)) dX6_rule_44 (by decide) ?_
        exact ok_ireturn dX6_rule_46 rfl h
      · replace h := h.2 c10
        refine ok_iconst (v := 1) dX6_rule_34 (by decide) ?_
        refine ok_goto (tgt := 39) dX6_rule_35 (by decide) ?_
        refine ok_istore_n dX6_rule_39 rfl (by decide) rfl ?_
        refine ok_iload_n dX6_rule_40 rfl rfl ?_
        refine ok_if_ne (tgt := 47) dX6_rule_41 (by decide) (fun c12 => ?_) (fun c12 => absurd c12 (by decide))
        refine ok_aload_n dX6_rule_47 rfl rfl ?_
        obtain ⟨P15, r14, h⟩ := h
        refine ok_callV2 dX6_rule_48 kX6_rule_61 r14 (by decide) rp_k155 rfl rfl (Nat.le_of_ble_eq_true rfl) ?_
        rintro _ M13 ⟨rfl, q16⟩
        replace h := h M13 q16
        refine ok_aload_n dX6_rule_51 rfl rfl ?_
        refine ok_getR (j := 156) dX6_rule_52 fX6_rule_7 (by decide) rp_k155 rfl (by decide) ?_
        refine ok_iconst (v := 1) dX6_rule_55 (by decide) ?_
        refine ok_iload_n dX6_rule_56 rfl rfl ?_
        refine ok_iadd dX6_rule_57 ?_
        have b17 := h.1
        replace h := h.2
        refine ok_iaload dX6_rule_58 (by decide) rp_k156 b17 rfl ?_
        refine ok_istore dX6_rule_59 (by decide) rfl ?_
        refine ok_aload_n dX6_rule_61 rfl rfl ?_
        refine ok_getR (j := 156) dX6_rule_62 fX6_rule_7 (by decide) rp_k155 rfl (by decide) ?_
        refine ok_iconst (v := 1) dX6_rule_65 (by decide) ?_
        refine ok_iload_n dX6_rule_66 rfl rfl ?_
        refine ok_iadd dX6_rule_67 ?_
        refine ok_iload_n dX6_rule_68 rfl rfl ?_
        refine ok_iastore dX6_rule_69 (by decide) rp_k156 b17 rfl ?_
        replace h := h _ rfl
        refine ok_iload dX6_rule_70 rfl ?_
        exact ok_ireturn dX6_rule_72 rfl h
  · replace h := h.2 c1
    refine ok_iload_n dX6_rule_4 rfl rfl ?_
    refine ok_iconst (v := 0) dX6_rule_5 (by decide) ?_
    refine ok_sipush (v := 9999) dX6_rule_6 (by decide) ?_
    obtain ⟨v19, M20, r21, h⟩ := h
    refine ok_callS2 dX6_rule_9 kX6_rule_53 r21 rfl rfl (Nat.le_of_ble_eq_true rfl) ?_
    rintro _ _ ⟨rfl, rfl⟩
    refine ok_goto (tgt := 39) dX6_rule_12 (by decide) ?_
    refine ok_istore_n dX6_rule_39 rfl (by decide) rfl ?_
    refine ok_iload_n dX6_rule_40 rfl rfl ?_
    refine ok_if_ne (tgt := 47) dX6_rule_41 (by decide) (fun c22 => ?_) (fun c22 => ?_)
    · replace h := h.1 c22
      refine ok_aload_n dX6_rule_47 rfl rfl ?_
      obtain ⟨P25, r24, h⟩ := h
      refine ok_callV2 dX6_rule_48 kX6_rule_61 r24 (by decide) rp_k155 rfl rfl (Nat.le_of_ble_eq_true rfl) ?_
      rintro _ M23 ⟨rfl, q26⟩
      replace h := h M23 q26
      refine ok_aload_n dX6_rule_51 rfl rfl ?_
      refine ok_getR (j := 156) dX6_rule_52 fX6_rule_7 (by decide) rp_k155 rfl (by decide) ?_
      refine ok_iconst (v := 1) dX6_rule_55 (by decide) ?_
      refine ok_iload_n dX6_rule_56 rfl rfl ?_
      refine ok_iadd dX6_rule_57 ?_
      have b27 := h.1
      replace h := h.2
      refine ok_iaload dX6_rule_58 (by decide) rp_k156 b27 rfl ?_
      refine ok_istore dX6_rule_59 (by decide) rfl ?_
      refine ok_aload_n dX6_rule_61 rfl rfl ?_
      refine ok_getR (j := 156) dX6_rule_62 fX6_rule_7 (by decide) rp_k155 rfl (by decide) ?_
      refine ok_iconst (v := 1) dX6_rule_65 (by decide) ?_
      refine ok_iload_n dX6_rule_66 rfl rfl ?_
      refine ok_iadd dX6_rule_67 ?_
      refine ok_iload_n dX6_rule_68 rfl rfl ?_
      refine ok_iastore dX6_rule_69 (by decide) rp_k156 b27 rfl ?_
      replace h := h _ rfl
      refine ok_iload dX6_rule_70 rfl ?_
      exact ok_ireturn dX6_rule_72 rfl h
    · replace h := h.2 c22
      refine ok_bipush (v := (-2)) dX6_rule_44 (by decide) ?_
      exact ok_ireturn dX6_rule_46 rfl h
theorem vX6_put (E : rp_E) (post : Option Int32 → rp_M → Prop) (M : rp_M) (l1 : Int64) (h : rp_G E YX6_put post 5 [.ref 155, .long l1, .null, .int 0, .long l1, .null, .null] [] M) : rp_Run E YX6_put [.ref 155, .long l1] M post := by
  refine ok_start (by decide) oX6_put (Nat.le_of_ble_eq_true rfl) ?_
  refine ok_iconst (v := 0) dX6_put_0 (by decide) ?_
  refine ok_istore_n dX6_put_1 rfl (by decide) rfl ?_
  refine ok_lload_n dX6_put_2 rfl rfl ?_
  refine ok_lstore dX6_put_3 (by decide) rfl ?_
  exact ok_mask [true, true, false, true, true, false, false] h
theorem vX6_put_5 (E : rp_E) (post : Option Int32 → rp_M → Prop) (M : rp_M) (l1 : Int64) (l3 : Int32) (l4 : Int64) (h : (8 ≤ l3 → ((l3 = 0 → (post (some (-2)) M)) ∧ (¬ l3 = 0 → (((lg_cmp l4 0) = 0 → ((((M 155 4) + l3) ≤ 80 → (rp_G E YX6_put post 86 [.ref 155, .long l1, .null, .int l3, .null, .null, .int 0] [] M)) ∧ (¬ ((M 155 4) + l3) ≤ 80 → (post (some (-4)) M)))) ∧ (¬ (lg_cmp l4 0) = 0 → (post (some (-2)) M)))))) ∧ (¬ 8 ≤ l3 → (((lg_cmp (l4 &&& 255) 0) = 0 → ((l3 = 0 → (post (some (-2)) M)) ∧ (¬ l3 = 0 → (((lg_cmp l4 0) = 0 → ((((M 155 4) + l3) ≤ 80 → (rp_G E YX6_put post 86 [.ref 155, .long l1, .null, .int l3, .null, .null, .int 0] [] M)) ∧ (¬ ((M 155 4) + l3) ≤ 80 → (post (some (-4)) M)))) ∧ (¬ (lg_cmp l4 0) = 0 → (post (some (-2)) M)))))) ∧ (¬ (lg_cmp (l4 &&& 255) 0) = 0 → (∃ v9 M10, rp_C E YX6_in [.int (Int64.toInt32 (l4 &&& 255)), .int 33, .int 126] M (some v9) M10 ∧ ((¬ v9 = 0 → (rp_G E YX6_put post 5 [.ref 155, .long l1, .null, .int (l3 + 1), .long (rp_lush l4 8), .null, .null] [] M10)) ∧ (v9 = 0 → (post (some (-2)) M10)))))))) : rp_G E YX6_put post 5 [.ref 155, .long l1, .null, .int l3, .long l4, .null, .null] [] M := by
  refine ok_iload_n dX6_put_5 rfl rfl ?_
  refine ok_bipush (v := 8) dX6_put_6 (by decide) ?_
  refine ok_icmp_ge (tgt := 55) dX6_put_8 (by decide) (fun c1 => ?_) (fun c1 => ?_)
  · replace h := h.1 c1
    refine ok_iload_n dX6_put_55 rfl rfl ?_
    refine ok_if_eq (tgt := 66) dX6_put_56 (by decide) (fun c2 => ?_) (fun c2 => ?_)
    · replace h := h.1 c2
      refine ok_bipush (v := (-2)) dX6_put_66 (by decide) ?_
      exact ok_ireturn dX6_put_68 rfl h
    · replace h := h.2 c2
      refine ok_lload dX6_put_59 rfl ?_
      refine ok_lconst (v := 0) dX6_put_61 (by decide) ?_
      refine ok_lcmp dX6_put_62 ?_
      refine ok_if_eq (tgt := 69) dX6_put_63 (by decide) (fun c3 => ?_) (fun c3 => ?_)
      · replace h := h.1 c3
        refine ok_aload_n dX6_put_69 rfl rfl ?_
        refine ok_getI dX6_put_70 fX6_put_92 (by decide) rp_k155 rfl ?_
        refine ok_iload_n dX6_put_73 rfl rfl ?_
        refine ok_iadd dX6_put_74 ?_
        refine ok_bipush (v := 80) dX6_put_75 (by decide) ?_
        refine ok_icmp_le (tgt := 83) dX6_put_77 (by decide) (fun c4 => ?_) (fun c4 => ?_)
        · replace h := h.1 c4
          refine ok_iconst (v := 0) dX6_put_83 (by decide) ?_
          refine ok_istore dX6_put_84 (by decide) rfl ?_
          exact ok_mask [true, true, false, true, false, false, true] h
        · replace h := h.2 c4
          refine ok_bipush (v := (-4)) dX6_put_80 (by decide) ?_
          exact ok_ireturn dX6_put_82 rfl h
      · replace h := h.2 c3
        refine ok_bipush (v := (-2)) dX6_put_66 (by decide) ?_
        exact ok_ireturn dX6_put_68 rfl h
  · replace h := h.2 c1
    refine ok_lload dX6_put_11 rfl ?_
    refine ok_ldc2 fX6_put_90 dX6_put_13 ?_
    refine ok_land dX6_put_16 ?_
    refine ok_lconst (v := 0) dX6_put_17 (by decide) ?_
    refine ok_lcmp dX6_put_18 ?_
    refine ok_if_eq (tgt := 55) dX6_put_19 (by decide) (fun c5 => ?_) (fun c5 => ?_)
    · replace h := h.1 c5
      refine ok_iload_n dX6_put_55 rfl rfl ?_
      refine ok_if_eq (tgt := 66) dX6_put_56 (by decide) (fun c6 => ?_) (fun c6 => ?_)
      · replace h := h.1 c6
        refine ok_bipush (v := (-2)) dX6_put_66 (by decide) ?_
        exact ok_ireturn dX6_put_68 rfl h
      · replace h := h.2 c6
        refine ok_lload dX6_put_59 rfl ?_
        refine ok_lconst (v := 0) dX6_put_61 (by decide) ?_
        refine ok_lcmp dX6_put_62 ?_
        refine ok_if_eq (tgt := 69) dX6_put_63 (by decide) (fun c7 => ?_) (fun c7 => ?_)
        · replace h := h.1 c7
          refine ok_aload_n dX6_put_69 rfl rfl ?_
          refine ok_getI dX6_put_70 fX6_put_92 (by decide) rp_k155 rfl ?_
          refine ok_iload_n dX6_put_73 rfl rfl ?_
          refine ok_iadd dX6_put_74 ?_
          refine ok_bipush (v := 80) dX6_put_75 (by decide) ?_
          refine ok_icmp_le (tgt := 83) dX6_put_77 (by decide) (fun c8 => ?_) (fun c8 => ?_)
          · replace h := h.1 c8
            refine ok_iconst (v := 0) dX6_put_83 (by decide) ?_
            refine ok_istore dX6_put_84 (by decide) rfl ?_
            exact ok_mask [true, true, false, true, false, false, true] h
          · replace h := h.2 c8
            refine ok_bipush (v := (-4)) dX6_put_80 (by decide) ?_
            exact ok_ireturn dX6_put_82 rfl h
        · replace h := h.2 c7
          refine ok_bipush (v := (-2)) dX6_put_66 (by decide) ?_
          exact ok_ireturn dX6_put_68 rfl h
    · replace h := h.2 c5
      refine ok_lload dX6_put_22 rfl ?_
      refine ok_ldc2 fX6_put_90 dX6_put_24 ?_
      refine ok_land dX6_put_27 ?_
      refine ok_l2i dX6_put_28 ?_
      refine ok_bipush (v := 33) dX6_put_29 (by decide) ?_
      refine ok_bipush (v := 126) dX6_put_31 (by decide) ?_
      obtain ⟨v9, M10, r11, h⟩ := h
      refine ok_callS2 dX6_put_33 kX6_put_53 r11 rfl rfl (Nat.le_of_ble_eq_true rfl) ?_
      rintro _ _ ⟨rfl, rfl⟩
      refine ok_if_ne (tgt := 42) dX6_put_36 (by decide) (fun c12 => ?_) (fun c12 => ?_)
      · replace h := h.1 c12
        refine ok_iinc2 (w := 1) dX6_put_42 rfl (by decide) (by decide) rfl ?_
        refine ok_lload dX6_put_45 rfl ?_
        refine ok_bipush (v := 8) dX6_put_47 (by decide) ?_
        refine ok_lushr dX6_put_49 ?_
        refine ok_lstore dX6_put_50 (by decide) rfl ?_
        refine ok_goto (tgt := 5) dX6_put_52 (by decide) ?_
        exact ok_mask [true, true, false, true, true, false, false] h
      · replace h := h.2 c12
        refine ok_bipush (v := (-2)) dX6_put_39 (by decide) ?_
        exact ok_ireturn dX6_put_41 rfl h
theorem vX6_put_86 (E : rp_E) (post : Option Int32 → rp_M → Prop) (M : rp_M) (l1 : Int64) (l3 : Int32) (l6 : Int32) (h : (l3 ≤ l6 → (∀ M14, M14 = rp_s M 155 4 ((M 155 4) + l3) → (post (some (M14 155 4)) M14))) ∧ (¬ l3 ≤ l6 → (vp_in ((M 155 4) + l6) 80 ∧ (∀ M16, M16 = rp_s M 158 (Int32.toNatClampNeg ((M 155 4) + l6)) (Int64.toInt32 ((l1 >>> (Int32.toInt64 ((8 : Int32) * ((l3 - 1) - l6)) &&& 63) : Int64) &&& 255)) → (rp_G E YX6_put post 86 [.ref 155, .long l1, .null, .int l3, .null, .null, .int (l6 + 1)] [] M16))))) : rp_G E YX6_put post 86 [.ref 155, .long l1, .null, .int l3, .null, .null, .int l6] [] M := by
  refine ok_iload dX6_put_86 rfl ?_
  refine ok_iload_n dX6_put_88 rfl rfl ?_
  refine ok_icmp_ge (tgt := 126) dX6_put_89 (by decide) (fun c13 => ?_) (fun c13 => ?_)
  · replace h := h.1 c13
    refine ok_aload_n dX6_put_126 rfl rfl ?_
    refine ok_dup dX6_put_127 rfl ?_
    refine ok_getI dX6_put_128 fX6_put_92 (by decide) rp_k155 rfl ?_
    refine ok_iload_n dX6_put_131 rfl rfl ?_
    refine ok_iadd dX6_put_132 ?_
    refine ok_put dX6_put_133 pX6_put_92 (by decide) rp_k155 rfl rfl rfl ?_
    replace h := h _ rfl
    refine ok_aload_n dX6_put_136 rfl rfl ?_
    refine ok_getI dX6_put_137 fX6_put_92 (by decide) rp_k155 rfl ?_
    exact ok_ireturn dX6_put_140 rfl h
  · replace h := h.2 c13
    refine ok_aload_n dX6_put_92 rfl rfl ?_
    refine ok_getR (j := 158) dX6_put_93 fX6_put_16 (by decide) rp_k155 rfl (by decide) ?_
    refine ok_aload_n dX6_put_96 rfl rfl ?_
    refine ok_getI dX6_put_97 fX6_put_92 (by decide) rp_k155 rfl ?_
    refine ok_iload dX6_put_100 rfl ?_
    refine ok_iadd dX6_put_102 ?_
    refine ok_lload_n dX6_put_103 rfl rfl ?_
    refine ok_bipush (v := 8) dX6_put_104 (by decide) ?_
    refine ok_iload_n dX6_put_106 rfl rfl ?_
    refine ok_iconst (v := 1) dX6_put_107 (by decide) ?_
    refine ok_isub dX6_put_108 ?_
    refine ok_iload dX6_put_109 rfl ?_
    refine ok_isub dX6_put_111 ?_
    refine ok_imul dX6_put_112 ?_
    refine ok_lshr dX6_put_113 ?_
    refine ok_ldc2 fX6_put_90 dX6_put_114 ?_
    refine ok_land dX6_put_117 ?_
    refine ok_l2i dX6_put_118 ?_
    have b15 := h.1
    replace h := h.2
    refine ok_iastore dX6_put_119 (by decide) rp_k158 b15 rfl ?_
    replace h := h _ rfl
    refine ok_iinc2 (w := 1) dX6_put_120 rfl (by decide) (by decide) rfl ?_
    refine ok_goto (tgt := 86) dX6_put_123 (by decide) ?_
    exact ok_mask [true, true, false, true, false, false, true] h
theorem vX6_wipe (E : rp_E) (post : Option Int32 → rp_M → Prop) (M : rp_M)  (h : ∀ M1, M1 = rp_s M 155 4 0 → (post (some (M 155 4)) M1)) : rp_Run E YX6_wipe [.ref 155] M post := by
  refine ok_start (by decide) oX6_wipe (Nat.le_of_ble_eq_true rfl) ?_
  refine ok_aload_n dX6_wipe_0 rfl rfl ?_
  refine ok_getI dX6_wipe_1 fX6_wipe_92 (by decide) rp_k155 rfl ?_
  refine ok_istore_n dX6_wipe_4 rfl (by decide) rfl ?_
  refine ok_aload_n dX6_wipe_5 rfl rfl ?_
  refine ok_iconst (v := 0) dX6_wipe_6 (by decide) ?_
  refine ok_put dX6_wipe_7 pX6_wipe_92 (by decide) rp_k155 rfl rfl rfl ?_
  replace h := h _ rfl
  refine ok_iload_n dX6_wipe_10 rfl rfl ?_
  exact ok_ireturn dX6_wipe_11 rfl h
theorem vX6_next (E : rp_E) (post : Option Int32 → rp_M → Prop) (M : rp_M)  (h : ((M 155 4) ≤ (M 155 5) → (post (some 0) M)) ∧ (¬ (M 155 4) ≤ (M 155 5) → (vp_in (M 155 5) 80 ∧ (post (some (M 158 (Int32.toNatClampNeg (M 155 5)))) M)))) : rp_Run E YX6_next [.ref 155] M post := by
  refine ok_start (by decide) oX6_next (Nat.le_of_ble_eq_true rfl) ?_
  refine ok_aload_n dX6_next_0 rfl rfl ?_
  refine ok_getI dX6_next_1 fX6_next_95 (by decide) rp_k155 rfl ?_
  refine ok_aload_n dX6_next_4 rfl rfl ?_
  refine ok_getI dX6_next_5 fX6_next_92 (by decide) rp_k155 rfl ?_
  refine ok_icmp_ge (tgt := 23) dX6_next_8 (by decide) (fun c1 => ?_) (fun c1 => ?_)
  · replace h := h.1 c1
    refine ok_iconst (v := 0) dX6_next_23 (by decide) ?_
    exact ok_ireturn dX6_next_24 rfl h
  · replace h := h.2 c1
    refine ok_aload_n dX6_next_11 rfl rfl ?_
    refine ok_getR (j := 158) dX6_next_12 fX6_next_16 (by decide) rp_k155 rfl (by decide) ?_
    refine ok_aload_n dX6_next_15 rfl rfl ?_
    refine ok_getI dX6_next_16 fX6_next_95 (by decide) rp_k155 rfl ?_
    have b2 := h.1
    replace h := h.2
    refine ok_iaload dX6_next_19 (by decide) rp_k158 b2 rfl ?_
    refine ok_goto (tgt := 24) dX6_next_20 (by decide) ?_
    exact ok_ireturn dX6_next_24 rfl h
theorem vX6_readNumber (E : rp_E) (post : Option Int32 → rp_M → Prop) (M : rp_M) (l1 : Int32) (h : (¬ (M 155 6) = 0 → (∀ M2, M2 = rp_s M 155 6 1 → (post (some 0) M2))) ∧ ((M 155 6) = 0 → (∃ v3 M4, rp_C E YX6_next [.ref 155] M (some v3) M4 ∧ (∃ v6 M7, rp_C E YX6_in [.int v3, .int ((48 : Int32) + l1), .int 57] M4 (some v6) M7 ∧ ((¬ v6 = 0 → (∃ v10 M11, rp_C E YX6_next [.ref 155] M7 (some v10) M11 ∧ (∀ M13, M13 = rp_s M11 155 5 ((M11 155 5) + 1) → (rp_G E YX6_readNumber post 50 [.ref 155, .null, .int (v10 - 48), .int 0] [] M13)))) ∧ (v6 = 0 → (∀ M14, M14 = rp_s M7 155 6 1 → (post (some 0) M14)))))))) : rp_Run E YX6_readNumber [.ref 155, .int l1] M post := by
  refine ok_start (by decide) oX6_readNumber (Nat.le_of_ble_eq_true rfl) ?_
  refine ok_aload_n dX6_readNumber_0 rfl rfl ?_
  refine ok_getI dX6_readNumber_1 fX6_readNumber_98 (by decide) rp_k155 rfl ?_
  refine ok_if_ne (tgt := 23) dX6_readNumber_4 (by decide) (fun c1 => ?_) (fun c1 => ?_)
  · replace h := h.1 c1
    refine ok_aload_n dX6_readNumber_23 rfl rfl ?_
    refine ok_iconst (v := 1) dX6_readNumber_24 (by decide) ?_
    refine ok_put dX6_readNumber_25 pX6_readNumber_98 (by decide) rp_k155 rfl (by decide) (by decide) ?_
    replace h := h _ rfl
    refine ok_iconst (v := 0) dX6_readNumber_28 (by decide) ?_
    exact ok_ireturn dX6_readNumber_29 rfl h
  · replace h := h.2 c1
    refine ok_aload_n dX6_readNumber_7 rfl rfl ?_
    obtain ⟨v3, M4, r5, h⟩ := h
    refine ok_callV2 dX6_readNumber_8 kX6_readNumber_102 r5 (by decide) rp_k155 rfl rfl (Nat.le_of_ble_eq_true rfl) ?_
    rintro _ _ ⟨rfl, rfl⟩
    refine ok_bipush (v := 48) dX6_readNumber_11 (by decide) ?_
    refine ok_iload_n dX6_readNumber_13 rfl rfl ?_
    refine ok_iadd dX6_readNumber_14 ?_
    refine ok_bipush (v := 57) dX6_readNumber_15 (by decide) ?_
    obtain ⟨v6, M7, r8, h⟩ := h
    refine ok_callS2 dX6_readNumber_17 kX6_readNumber_53 r8 rfl rfl (Nat.le_of_ble_eq_true rfl) ?_
    rintro _ _ ⟨rfl, rfl⟩
    refine ok_if_ne (tgt := 30) dX6_readNumber_20 (by decide) (fun c9 => ?_) (fun c9 => ?_)
    · replace h := h.1 c9
      refine ok_aload_n dX6_readNumber_30 rfl rfl ?_
      obtain ⟨v10, M11, r12, h⟩ := h
      refine ok_callV2 dX6_readNumber_31 kX6_readNumber_102 r12 (by decide) rp_k155 rfl rfl (Nat.le_of_ble_eq_true rfl) ?_
      rintro _ _ ⟨rfl, rfl⟩
      refine ok_bipush (v := 48) dX6_readNumber_34 (by decide) ?_
      refine ok_isub dX6_readNumber_36 ?_
      refine ok_istore_n dX6_readNumber_37 rfl (by decide) rfl ?_
      refine ok_aload_n dX6_readNumber_38 rfl rfl ?_
      refine ok_dup dX6_readNumber_39 rfl ?_
      refine ok_getI dX6_readNumber_40 fX6_readNumber_95 (by decide) rp_k155 rfl ?_
      refine ok_iconst (v := 1) dX6_readNumber_43 (by decide) ?_
      refine ok_iadd dX6_readNumber_44 ?_
      refine ok_put dX6_readNumber_45 pX6_readNumber_95 (by decide) rp_k155 rfl rfl rfl ?_
      replace h := h _ rfl
      refine ok_iconst (v := 0) dX6_readNumber_48 (by decide) ?_
      refine ok_istore_n dX6_readNumber_49 rfl (by decide) rfl ?_
      exact ok_mask [true, false, true, true] h
    · replace h := h.2 c9
      refine ok_aload_n dX6_readNumber_23 rfl rfl ?_
      refine ok_iconst (v := 1) dX6_readNumber_24 (by decide) ?_
      refine ok_put dX6_readNumber_25 pX6_readNumber_98 (by decide) rp_k155 rfl (by decide) (by decide) ?_
      replace h := h _ rfl
      refine ok_iconst (v := 0) dX6_readNumber_28 (by decide) ?_
      exact ok_ireturn dX6_readNumber_29 rfl h
theorem vX6_readNumber_50 (E : rp_E) (post : Option Int32 → rp_M → Prop) (M : rp_M) (l2 : Int32) (l3 : Int32) (h : (2 ≤ l3 → (post (some l2) M)) ∧ (¬ 2 ≤ l3 → ((l2 ≤ 0 → (post (some l2) M)) ∧ (¬ l2 ≤ 0 → (∃ v17 M18, rp_C E YX6_next [.ref 155] M (some v17) M18 ∧ (∃ v20 M21, rp_C E YX6_in [.int v17, .int 48, .int 57] M18 (some v20) M21 ∧ ((v20 = 0 → (post (some l2) M21)) ∧ (¬ v20 = 0 → (∃ v24 M25, rp_C E YX6_next [.ref 155] M21 (some v24) M25 ∧ (∀ M27, M27 = rp_s M25 155 5 ((M25 155 5) + 1) → (rp_G E YX6_readNumber post 50 [.ref 155, .null, .int ((((10 : Int32) * l2) + v24) - 48), .int (l3 + 1)] [] M27))))))))))) : rp_G E YX6_readNumber post 50 [.ref 155, .null, .int l2, .int l3] [] M := by
  refine ok_iload_n dX6_readNumber_50 rfl rfl ?_
  refine ok_iconst (v := 2) dX6_readNumber_51 (by decide) ?_
  refine ok_icmp_ge (tgt := 102) dX6_readNumber_52 (by decide) (fun c15 => ?_) (fun c15 => ?_)
  · replace h := h.1 c15
    refine ok_iload_n dX6_readNumber_102 rfl rfl ?_
    exact ok_ireturn dX6_readNumber_103 rfl h
  · replace h := h.2 c15
    refine ok_iload_n dX6_readNumber_55 rfl rfl ?_
    refine ok_if_le (tgt := 102) dX6_readNumber_56 (by decide) (fun c16 => ?_) (fun c16 => ?_)
    · replace h := h.1 c16
      refine ok_iload_n dX6_readNumber_102 rfl rfl ?_
      exact ok_ireturn dX6_readNumber_103 rfl h
    · replace h := h.2 c16
      refine ok_aload_n dX6_readNumber_59 rfl rfl ?_
      obtain ⟨v17, M18, r19, h⟩ := h
      refine ok_callV2 dX6_readNumber_60 kX6_readNumber_102 r19 (by decide) rp_k155 rfl rfl (Nat.le_of_ble_eq_true rfl) ?_
      rintro _ _ ⟨rfl, rfl⟩
      refine ok_bipush (v := 48) dX6_readNumber_63 (by decide) ?_
      refine ok_bipush (v := 57) dX6_readNumber_65 (by decide) ?_
      obtain ⟨v20, M21, r22, h⟩ := h
      refine ok_callS2 dX6_readNumber_67 kX6_readNumber_53 r22 rfl rfl (Nat.le_of_ble_eq_true rfl) ?_
      rintro _ _ ⟨rfl, rfl⟩
      refine ok_if_eq (tgt := 102) dX6_readNumber_70 (by decide) (fun c23 => ?_) (fun c23 => ?_)
      · replace h := h.1 c23
        refine ok_iload_n dX6_readNumber_102 rfl rfl ?_
        exact ok_ireturn dX6_readNumber_103 rfl h
      · replace h := h.2 c23
        refine ok_bipush (v := 10) dX6_readNumber_73 (by decide) ?_
        refine ok_iload_n dX6_readNumber_75 rfl rfl ?_
        refine ok_imul dX6_readNumber_76 ?_
        refine ok_aload_n dX6_readNumber_77 rfl rfl ?_
        obtain ⟨v24, M25, r26, h⟩ := h
        refine ok_callV2 dX6_readNumber_78 kX6_readNumber_102 r26 (by decide) rp_k155 rfl rfl (Nat.le_of_ble_eq_true rfl) ?_
        rintro _ _ ⟨rfl, rfl⟩
        refine ok_iadd dX6_readNumber_81 ?_
        refine ok_bipush (v := 48) dX6_readNumber_82 (by decide) ?_
        refine ok_isub dX6_readNumber_84 ?_
        refine ok_istore_n dX6_readNumber_85 rfl (by decide) rfl ?_
        refine ok_aload_n dX6_readNumber_86 rfl rfl ?_
        refine ok_dup dX6_readNumber_87 rfl ?_
        refine ok_getI dX6_readNumber_88 fX6_readNumber_95 (by decide) rp_k155 rfl ?_
        refine ok_iconst (v := 1) dX6_readNumber_91 (by decide) ?_
        refine ok_iadd dX6_readNumber_92 ?_
        refine ok_put dX6_readNumber_93 pX6_readNumber_95 (by decide) rp_k155 rfl rfl rfl ?_
        replace h := h _ rfl
        refine ok_iinc2 (w := 1) dX6_readNumber_96 rfl (by decide) (by decide) rfl ?_
        refine ok_goto (tgt := 50) dX6_readNumber_99 (by decide) ?_
        exact ok_mask [true, false, true, true] h
theorem vX6_takes (E : rp_E) (post : Option Int32 → rp_M → Prop) (M : rp_M) (l1 : Int32) (h : (¬ (M 155 6) = 0 → (post (some 0) M)) ∧ ((M 155 6) = 0 → (∃ v2 M3, rp_C E YX6_next [.ref 155] M (some v2) M3 ∧ ((v2 = l1 → (∀ M6, M6 = rp_s M3 155 5 ((M3 155 5) + 1) → (post (some 1) M6))) ∧ (¬ v2 = l1 → (post (some 0) M3)))))) : rp_Run E YX6_takes [.ref 155, .int l1] M post := by
  refine ok_start (by decide) oX6_takes (Nat.le_of_ble_eq_true rfl) ?_
  refine ok_aload_n dX6_takes_0 rfl rfl ?_
  refine ok_getI dX6_takes_1 fX6_takes_98 (by decide) rp_k155 rfl ?_
  refine ok_if_ne (tgt := 15) dX6_takes_4 (by decide) (fun c1 => ?_) (fun c1 => ?_)
  · replace h := h.1 c1
    refine ok_iconst (v := 0) dX6_takes_15 (by decide) ?_
    exact ok_zreturn dX6_takes_16 rfl (by decide) h
  · replace h := h.2 c1
    refine ok_aload_n dX6_takes_7 rfl rfl ?_
    obtain ⟨v2, M3, r4, h⟩ := h
    refine ok_callV2 dX6_takes_8 kX6_takes_102 r4 (by decide) rp_k155 rfl rfl (Nat.le_of_ble_eq_true rfl) ?_
    rintro _ _ ⟨rfl, rfl⟩
    refine ok_iload_n dX6_takes_11 rfl rfl ?_
    refine ok_icmp_eq (tgt := 17) dX6_takes_12 (by decide) (fun c5 => ?_) (fun c5 => ?_)
    · replace h := h.1 c5
      refine ok_aload_n dX6_takes_17 rfl rfl ?_
      refine ok_dup dX6_takes_18 rfl ?_
      refine ok_getI dX6_takes_19 fX6_takes_95 (by decide) rp_k155 rfl ?_
      refine ok_iconst (v := 1) dX6_takes_22 (by decide) ?_
      refine ok_iadd dX6_takes_23 ?_
      refine ok_put dX6_takes_24 pX6_takes_95 (by decide) rp_k155 rfl rfl rfl ?_
      replace h := h _ rfl
      refine ok_iconst (v := 1) dX6_takes_27 (by decide) ?_
      exact ok_zreturn dX6_takes_28 rfl (by decide) h
    · replace h := h.2 c5
      refine ok_iconst (v := 0) dX6_takes_15 (by decide) ?_
      exact ok_zreturn dX6_takes_16 rfl (by decide) h
theorem vX6_readGroup (E : rp_E) (post : Option Int32 → rp_M → Prop) (M : rp_M) (l1 : Int32) (h : ∃ v1 M2, rp_C E YX6_next [.ref 155] M (some v1) M2 ∧ (∃ v4 M5, rp_C E YX6_in [.int v1, .int 48, .int 51] M2 (some v4) M5 ∧ ((¬ v4 = 0 → (∃ v8 M9, rp_C E YX6_next [.ref 155] M5 (some v8) M9 ∧ (vp_in (l1 + 4) 120 ∧ (∀ M12, M12 = rp_s M9 159 (Int32.toNatClampNeg (l1 + 4)) (v8 - 48) → (∀ M13, M13 = rp_s M12 155 5 ((M12 155 5) + 1) → (post none M13)))))) ∧ (v4 = 0 → (∀ M14, M14 = rp_s M5 155 6 1 → (post none M14)))))) : rp_Run E YX6_readGroup [.ref 155, .int l1] M post := by
  refine ok_start (by decide) oX6_readGroup (Nat.le_of_ble_eq_true rfl) ?_
  refine ok_aload_n dX6_readGroup_0 rfl rfl ?_
  obtain ⟨v1, M2, r3, h⟩ := h
  refine ok_callV2 dX6_readGroup_1 kX6_readGroup_102 r3 (by decide) rp_k155 rfl rfl (Nat.le_of_ble_eq_true rfl) ?_
  rintro _ _ ⟨rfl, rfl⟩
  refine ok_bipush (v := 48) dX6_readGroup_4 (by decide) ?_
  refine ok_bipush (v := 51) dX6_readGroup_6 (by decide) ?_
  obtain ⟨v4, M5, r6, h⟩ := h
  refine ok_callS2 dX6_readGroup_8 kX6_readGroup_53 r6 rfl rfl (Nat.le_of_ble_eq_true rfl) ?_
  rintro _ _ ⟨rfl, rfl⟩
  refine ok_if_ne (tgt := 20) dX6_readGroup_11 (by decide) (fun c7 => ?_) (fun c7 => ?_)
  · replace h := h.1 c7
    refine ok_aload_n dX6_readGroup_20 rfl rfl ?_
    refine ok_getR (j := 159) dX6_readGroup_21 fX6_readGroup_19 (by decide) rp_k155 rfl (by decide) ?_
    refine ok_iload_n dX6_readGroup_24 rfl rfl ?_
    refine ok_iconst (v := 4) dX6_readGroup_25 (by decide) ?_
    refine ok_iadd dX6_readGroup_26 ?_
    refine ok_aload_n dX6_readGroup_27 rfl rfl ?_
    obtain ⟨v8, M9, r10, h⟩ := h
    refine ok_callV2 dX6_readGroup_28 kX6_readGroup_102 r10 (by decide) rp_k155 rfl rfl (Nat.le_of_ble_eq_true rfl) ?_
    rintro _ _ ⟨rfl, rfl⟩
    refine ok_bipush (v := 48) dX6_readGroup_31 (by decide) ?_
    refine ok_isub dX6_readGroup_33 ?_
    have b11 := h.1
    replace h := h.2
    refine ok_iastore dX6_readGroup_34 (by decide) rp_k159 b11 rfl ?_
    replace h := h _ rfl
    refine ok_aload_n dX6_readGroup_35 rfl rfl ?_
    refine ok_dup dX6_readGroup_36 rfl ?_
    refine ok_getI dX6_readGroup_37 fX6_readGroup_95 (by decide) rp_k155 rfl ?_
    refine ok_iconst (v := 1) dX6_readGroup_40 (by decide) ?_
    refine ok_iadd dX6_readGroup_41 ?_
    refine ok_put dX6_readGroup_42 pX6_readGroup_95 (by decide) rp_k155 rfl rfl rfl ?_
    replace h := h _ rfl
    exact ok_return dX6_readGroup_45 rfl h
  · replace h := h.2 c7
    refine ok_aload_n dX6_readGroup_14 rfl rfl ?_
    refine ok_iconst (v := 1) dX6_readGroup_15 (by decide) ?_
    refine ok_put dX6_readGroup_16 pX6_readGroup_98 (by decide) rp_k155 rfl (by decide) (by decide) ?_
    replace h := h _ rfl
    exact ok_return dX6_readGroup_19 rfl h
theorem vX6_readItem (E : rp_E) (post : Option Int32 → rp_M → Prop) (M : rp_M)  (h : ∃ P4 : Int32 → rp_M → Prop, rp_Run E YX6_readNumber [.ref 155, .int 1] M (rp_P P4) ∧ (∀ v1 M2, P4 v1 M2 → (vp_in (((5 : Int32) * (M 155 8)) + 0) 120 ∧ (∀ M7, M7 = rp_s M2 159 (Int32.toNatClampNeg (((5 : Int32) * (M 155 8)) + 0)) v1 → ((¬ (M7 155 6) = 0 → (∀ M9, M9 = rp_s M7 155 6 1 → (rp_G E YX6_readItem post 45 [.ref 155, .int ((5 : Int32) * (M 155 8))] [] M9))) ∧ ((M7 155 6) = 0 → (∃ P13 : Int32 → rp_M → Prop, rp_Run E YX6_takes [.ref 155, .int 47] M7 (rp_P P13) ∧ (∀ v10 M11, P13 v10 M11 → ((¬ v10 = 0 → (∀ M16, M16 = rp_s M11 155 6 0 → (rp_G E YX6_readItem post 45 [.ref 155, .int ((5 : Int32) * (M 155 8))] [] M16))) ∧ (v10 = 0 → (∀ M17, M17 = rp_s M11 155 6 1 → (rp_G E YX6_readItem post 45 [.ref 155, .int ((5 : Int32) * (M 155 8))] [] M17)))))))))))) : rp_Run E YX6_readItem [.ref 155] M post := by
  refine ok_start (by decide) oX6_readItem (Nat.le_of_ble_eq_true rfl) ?_
  refine ok_iconst (v := 5) dX6_readItem_0 (by decide) ?_
  refine ok_aload_n dX6_readItem_1 rfl rfl ?_
  refine ok_getI dX6_readItem_2 fX6_readItem_106 (by decide) rp_k155 rfl ?_
  refine ok_imul dX6_readItem_5 ?_
  refine ok_istore_n dX6_readItem_6 rfl (by decide) rfl ?_
  refine ok_aload_n dX6_readItem_7 rfl rfl ?_
  refine ok_getR (j := 159) dX6_readItem_8 fX6_readItem_19 (by decide) rp_k155 rfl (by decide) ?_
  refine ok_iload_n dX6_readItem_11 rfl rfl ?_
  refine ok_iconst (v := 0) dX6_readItem_12 (by decide) ?_
  refine ok_iadd dX6_readItem_13 ?_
  refine ok_aload_n dX6_readItem_14 rfl rfl ?_
  refine ok_iconst (v := 1) dX6_readItem_15 (by decide) ?_
  obtain ⟨P4, r3, h⟩ := h
  refine ok_callV2 dX6_readItem_16 kX6_readItem_109 r3 (by decide) rp_k155 rfl rfl (Nat.le_of_ble_eq_true rfl) ?_
  rintro _ M2 ⟨v1, rfl, q5⟩
  replace h := h v1 M2 q5
  have b6 := h.1
  replace h := h.2
  refine ok_iastore dX6_readItem_19 (by decide) rp_k159 b6 rfl ?_
  replace h := h _ rfl
  refine ok_aload_n dX6_readItem_20 rfl rfl ?_
  refine ok_aload_n dX6_readItem_21 rfl rfl ?_
  refine ok_getI dX6_readItem_22 fX6_readItem_98 (by decide) rp_k155 rfl ?_
  refine ok_if_ne (tgt := 37) dX6_readItem_25 (by decide) (fun c8 => ?_) (fun c8 => ?_)
  · replace h := h.1 c8
    refine ok_iconst (v := 1) dX6_readItem_37 (by decide) ?_
    refine ok_goto (tgt := 42) dX6_readItem_38 (by decide) ?_
    refine ok_put dX6_readItem_42 pX6_readItem_98 (by decide) rp_k155 rfl (by decide) (by decide) ?_
    replace h := h _ rfl
    exact ok_mask [true, true] h
  · replace h := h.2 c8
    refine ok_aload_n dX6_readItem_28 rfl rfl ?_
    refine ok_bipush (v := 47) dX6_readItem_29 (by decide) ?_
    obtain ⟨P13, r12, h⟩ := h
    refine ok_callV2 dX6_readItem_31 kX6_readItem_112 r12 (by decide) rp_k155 rfl rfl (Nat.le_of_ble_eq_true rfl) ?_
    rintro _ M11 ⟨v10, rfl, q14⟩
    replace h := h v10 M11 q14
    refine ok_if_ne (tgt := 41) dX6_readItem_34 (by decide) (fun c15 => ?_) (fun c15 => ?_)
    · replace h := h.1 c15
      refine ok_iconst (v := 0) dX6_readItem_41 (by decide) ?_
      refine ok_put dX6_readItem_42 pX6_readItem_98 (by decide) rp_k155 rfl (by decide) (by decide) ?_
      replace h := h _ rfl
      exact ok_mask [true, true] h
    · replace h := h.2 c15
      refine ok_iconst (v := 1) dX6_readItem_37 (by decide) ?_
      refine ok_goto (tgt := 42) dX6_readItem_38 (by decide) ?_
      refine ok_put dX6_readItem_42 pX6_readItem_98 (by decide) rp_k155 rfl (by decide) (by decide) ?_
      replace h := h _ rfl
      exact ok_mask [true, true] h
theorem vX6_readItem_45 (E : rp_E) (post : Option Int32 → rp_M → Prop) (M : rp_M) (l1 : Int32) (h : ∃ P21 : Int32 → rp_M → Prop, rp_Run E YX6_readNumber [.ref 155, .int 1] M (rp_P P21) ∧ (∀ v18 M19, P21 v18 M19 → (vp_in (l1 + 1) 120 ∧ (∀ M24, M24 = rp_s M19 159 (Int32.toNatClampNeg (l1 + 1)) v18 → (∃ P28 : Int32 → rp_M → Prop, rp_Run E YX6_takes [.ref 155, .int 43] M24 (rp_P P28) ∧ (∀ v25 M26, P28 v25 M26 → ((v25 = 0 → (rp_G E YX6_readItem post 83 [.ref 155, .int l1] [.int 0, .int (l1 + 2), .ref 159] M26)) ∧ (¬ v25 = 0 → (∃ P34 : Int32 → rp_M → Prop, rp_Run E YX6_readNumber [.ref 155, .int 0] M26 (rp_P P34) ∧ (∀ v31 M32, P34 v31 M32 → (rp_G E YX6_readItem post 83 [.ref 155, .int l1] [.int v31, .int (l1 + 2), .ref 159] M32))))))))))) : rp_G E YX6_readItem post 45 [.ref 155, .int l1] [] M := by
  refine ok_aload_n dX6_readItem_45 rfl rfl ?_
  refine ok_getR (j := 159) dX6_readItem_46 fX6_readItem_19 (by decide) rp_k155 rfl (by decide) ?_
  refine ok_iload_n dX6_readItem_49 rfl rfl ?_
  refine ok_iconst (v := 1) dX6_readItem_50 (by decide) ?_
  refine ok_iadd dX6_readItem_51 ?_
  refine ok_aload_n dX6_readItem_52 rfl rfl ?_
  refine ok_iconst (v := 1) dX6_readItem_53 (by decide) ?_
  obtain ⟨P21, r20, h⟩ := h
  refine ok_callV2 dX6_readItem_54 kX6_readItem_109 r20 (by decide) rp_k155 rfl rfl (Nat.le_of_ble_eq_true rfl) ?_
  rintro _ M19 ⟨v18, rfl, q22⟩
  replace h := h v18 M19 q22
  have b23 := h.1
  replace h := h.2
  refine ok_iastore dX6_readItem_57 (by decide) rp_k159 b23 rfl ?_
  replace h := h _ rfl
  refine ok_aload_n dX6_readItem_58 rfl rfl ?_
  refine ok_getR (j := 159) dX6_readItem_59 fX6_readItem_19 (by decide) rp_k155 rfl (by decide) ?_
  refine ok_iload_n dX6_readItem_62 rfl rfl ?_
  refine ok_iconst (v := 2) dX6_readItem_63 (by decide) ?_
  refine ok_iadd dX6_readItem_64 ?_
  refine ok_aload_n dX6_readItem_65 rfl rfl ?_
  refine ok_bipush (v := 43) dX6_readItem_66 (by decide) ?_
  obtain ⟨P28, r27, h⟩ := h
  refine ok_callV2 dX6_readItem_68 kX6_readItem_112 r27 (by decide) rp_k155 rfl rfl (Nat.le_of_ble_eq_true rfl) ?_
  rintro _ M26 ⟨v25, rfl, q29⟩
  replace h := h v25 M26 q29
  refine ok_if_eq (tgt := 82) dX6_readItem_71 (by decide) (fun c30 => ?_) (fun c30 => ?_)
  · replace h := h.1 c30
    refine ok_iconst (v := 0) dX6_readItem_82 (by decide) ?_
    exact ok_mask [true, true] h
  · replace h := h.2 c30
    refine ok_aload_n dX6_readItem_74 rfl rfl ?_
    refine ok_iconst (v := 0) dX6_readItem_75 (by decide) ?_
    obtain ⟨P34, r33, h⟩ := h
    refine ok_callV2 dX6_readItem_76 kX6_readItem_109 r33 (by decide) rp_k155 rfl rfl (Nat.le_of_ble_eq_true rfl) ?_
    rintro _ M32 ⟨v31, rfl, q35⟩
    replace h := h v31 M32 q35
    refine ok_goto (tgt := 83) dX6_readItem_79 (by decide) ?_
    exact ok_mask [true, true] h
theorem vX6_readItem_83 (E : rp_E) (post : Option Int32 → rp_M → Prop) (M : rp_M) (l1 : Int32) (s0 : Int32) (s1 : Int32) (h : vp_in s1 120 ∧ (∀ M37, M37 = rp_s M 159 (Int32.toNatClampNeg s1) s0 → (∃ P41 : Int32 → rp_M → Prop, rp_Run E YX6_takes [.ref 155, .int 45] M37 (rp_P P41) ∧ (∀ v38 M39, P41 v38 M39 → ((v38 = 0 → (rp_G E YX6_readItem post 109 [.ref 155, .int l1] [.int 0, .int (l1 + 3), .ref 159] M39)) ∧ (¬ v38 = 0 → (∃ P47 : Int32 → rp_M → Prop, rp_Run E YX6_readNumber [.ref 155, .int 0] M39 (rp_P P47) ∧ (∀ v44 M45, P47 v44 M45 → (rp_G E YX6_readItem post 109 [.ref 155, .int l1] [.int v44, .int (l1 + 3), .ref 159] M45))))))))) : rp_G E YX6_readItem post 83 [.ref 155, .int l1] [.int s0, .int s1, .ref 159] M := by
  have b36 := h.1
  replace h := h.2
  refine ok_iastore dX6_readItem_83 (by decide) rp_k159 b36 rfl ?_
  replace h := h _ rfl
  refine ok_aload_n dX6_readItem_84 rfl rfl ?_
  refine ok_getR (j := 159) dX6_readItem_85 fX6_readItem_19 (by decide) rp_k155 rfl (by decide) ?_
  refine ok_iload_n dX6_readItem_88 rfl rfl ?_
  refine ok_iconst (v := 3) dX6_readItem_89 (by decide) ?_
  refine ok_iadd dX6_readItem_90 ?_
  refine ok_aload_n dX6_readItem_91 rfl rfl ?_
  refine ok_bipush (v := 45) dX6_readItem_92 (by decide) ?_
  obtain ⟨P41, r40, h⟩ := h
  refine ok_callV2 dX6_readItem_94 kX6_readItem_112 r40 (by decide) rp_k155 rfl rfl (Nat.le_of_ble_eq_true rfl) ?_
  rintro _ M39 ⟨v38, rfl, q42⟩
  replace h := h v38 M39 q42
  refine ok_if_eq (tgt := 108) dX6_readItem_97 (by decide) (fun c43 => ?_) (fun c43 => ?_)
  · replace h := h.1 c43
    refine ok_iconst (v := 0) dX6_readItem_108 (by decide) ?_
    exact ok_mask [true, true] h
  · replace h := h.2 c43
    refine ok_aload_n dX6_readItem_100 rfl rfl ?_
    refine ok_iconst (v := 0) dX6_readItem_101 (by decide) ?_
    obtain ⟨P47, r46, h⟩ := h
    refine ok_callV2 dX6_readItem_102 kX6_readItem_109 r46 (by decide) rp_k155 rfl rfl (Nat.le_of_ble_eq_true rfl) ?_
    rintro _ M45 ⟨v44, rfl, q48⟩
    replace h := h v44 M45 q48
    refine ok_goto (tgt := 109) dX6_readItem_105 (by decide) ?_
    exact ok_mask [true, true] h
theorem vX6_readItem_109 (E : rp_E) (post : Option Int32 → rp_M → Prop) (M : rp_M) (l1 : Int32) (s0 : Int32) (s1 : Int32) (h : vp_in s1 120 ∧ (∀ M50, M50 = rp_s M 159 (Int32.toNatClampNeg s1) s0 → (vp_in (l1 + 4) 120 ∧ (∀ M52, M52 = rp_s M50 159 (Int32.toNatClampNeg (l1 + 4)) (-6) → (∃ P56 : Int32 → rp_M → Prop, rp_Run E YX6_takes [.ref 155, .int 64] M52 (rp_P P56) ∧ (∀ v53 M54, P56 v53 M54 → ((v53 = 0 → (rp_G E YX6_readItem post 134 [.ref 155, .null] [] M54)) ∧ (¬ v53 = 0 → (∃ P61 : rp_M → Prop, rp_Run E YX6_readGroup [.ref 155, .int l1] M54 (rp_P0 P61) ∧ (∀ M59, P61 M59 → (rp_G E YX6_readItem post 134 [.ref 155, .null] [] M59))))))))))) : rp_G E YX6_readItem post 109 [.ref 155, .int l1] [.int s0, .int s1, .ref 159] M := by
  have b49 := h.1
  replace h := h.2
  refine ok_iastore dX6_readItem_109 (by decide) rp_k159 b49 rfl ?_
  replace h := h _ rfl
  refine ok_aload_n dX6_readItem_110 rfl rfl ?_
  refine ok_getR (j := 159) dX6_readItem_111 fX6_readItem_19 (by decide) rp_k155 rfl (by decide) ?_
  refine ok_iload_n dX6_readItem_114 rfl rfl ?_
  refine ok_iconst (v := 4) dX6_readItem_115 (by decide) ?_
  refine ok_iadd dX6_readItem_116 ?_
  refine ok_bipush (v := (-6)) dX6_readItem_117 (by decide) ?_
  have b51 := h.1
  replace h := h.2
  refine ok_iastore dX6_readItem_119 (by decide) rp_k159 b51 rfl ?_
  replace h := h _ rfl
  refine ok_aload_n dX6_readItem_120 rfl rfl ?_
  refine ok_bipush (v := 64) dX6_readItem_121 (by decide) ?_
  obtain ⟨P56, r55, h⟩ := h
  refine ok_callV2 dX6_readItem_123 kX6_readItem_112 r55 (by decide) rp_k155 rfl rfl (Nat.le_of_ble_eq_true rfl) ?_
  rintro _ M54 ⟨v53, rfl, q57⟩
  replace h := h v53 M54 q57
  refine ok_if_eq (tgt := 134) dX6_readItem_126 (by decide) (fun c58 => ?_) (fun c58 => ?_)
  · replace h := h.1 c58
    exact ok_mask [true, false] h
  · replace h := h.2 c58
    refine ok_aload_n dX6_readItem_129 rfl rfl ?_
    refine ok_iload_n dX6_readItem_130 rfl rfl ?_
    obtain ⟨P61, r60, h⟩ := h
    refine ok_callV2 dX6_readItem_131 kX6_readItem_115 r60 (by decide) rp_k155 rfl rfl (Nat.le_of_ble_eq_true rfl) ?_
    rintro _ M59 ⟨rfl, q62⟩
    replace h := h M59 q62
    exact ok_mask [true, false] h
theorem vX6_readItem_134 (E : rp_E) (post : Option Int32 → rp_M → Prop) (M : rp_M)  (h : ∀ M63, M63 = rp_s M 155 8 ((M 155 8) + 1) → (post none M63)) : rp_G E YX6_readItem post 134 [.ref 155, .null] [] M := by
  refine ok_aload_n dX6_readItem_134 rfl rfl ?_
  refine ok_dup dX6_readItem_135 rfl ?_
  refine ok_getI dX6_readItem_136 fX6_readItem_106 (by decide) rp_k155 rfl ?_
  refine ok_iconst (v := 1) dX6_readItem_139 (by decide) ?_
  refine ok_iadd dX6_readItem_140 ?_
  refine ok_put dX6_readItem_141 pX6_readItem_106 (by decide) rp_k155 rfl rfl rfl ?_
  replace h := h _ rfl
  exact ok_return dX6_readItem_144 rfl h
theorem vX6_fault (E : rp_E) (post : Option Int32 → rp_M → Prop) (M : rp_M)  (h : ∀ M1, M1 = rp_s M 155 5 0 → (∀ M2, M2 = rp_s M1 155 6 0 → (∀ M3, M3 = rp_s M2 155 8 0 → (∃ P6 : rp_M → Prop, rp_Run E YX6_readItem [.ref 155] M3 (rp_P0 P6) ∧ (∀ M4, P6 M4 → (rp_G E YX6_fault post 19 [.ref 155] [] M4)))))) : rp_Run E YX6_fault [.ref 155] M post := by
  refine ok_start (by decide) oX6_fault (Nat.le_of_ble_eq_true rfl) ?_
  refine ok_aload_n dX6_fault_0 rfl rfl ?_
  refine ok_iconst (v := 0) dX6_fault_1 (by decide) ?_
  refine ok_put dX6_fault_2 pX6_fault_95 (by decide) rp_k155 rfl rfl rfl ?_
  replace h := h _ rfl
  refine ok_aload_n dX6_fault_5 rfl rfl ?_
  refine ok_iconst (v := 0) dX6_fault_6 (by decide) ?_
  refine ok_put dX6_fault_7 pX6_fault_98 (by decide) rp_k155 rfl (by decide) (by decide) ?_
  replace h := h _ rfl
  refine ok_aload_n dX6_fault_10 rfl rfl ?_
  refine ok_iconst (v := 0) dX6_fault_11 (by decide) ?_
  refine ok_put dX6_fault_12 pX6_fault_106 (by decide) rp_k155 rfl rfl rfl ?_
  replace h := h _ rfl
  refine ok_aload_n dX6_fault_15 rfl rfl ?_
  obtain ⟨P6, r5, h⟩ := h
  refine ok_callV2 dX6_fault_16 kX6_fault_119 r5 (by decide) rp_k155 rfl rfl (Nat.le_of_ble_eq_true rfl) ?_
  rintro _ M4 ⟨rfl, q7⟩
  replace h := h M4 q7
  exact ok_mask [true] h
theorem vX6_fault_19 (E : rp_E) (post : Option Int32 → rp_M → Prop) (M : rp_M)  (h : ∃ P11 : Int32 → rp_M → Prop, rp_Run E YX6_takes [.ref 155, .int 59] M (rp_P P11) ∧ (∀ v8 M9, P11 v8 M9 → ((v8 = 0 → ((¬ (M9 155 6) = 0 → (post (some (M9 155 5)) M9)) ∧ ((M9 155 6) = 0 → (((M9 155 4) ≤ (M9 155 5) → (post (some (-6)) M9)) ∧ (¬ (M9 155 4) ≤ (M9 155 5) → (post (some (M9 155 5)) M9)))))) ∧ (¬ v8 = 0 → (∃ P18 : rp_M → Prop, rp_Run E YX6_readItem [.ref 155] M9 (rp_P0 P18) ∧ (∀ M16, P18 M16 → (rp_G E YX6_fault post 19 [.ref 155] [] M16))))))) : rp_G E YX6_fault post 19 [.ref 155] [] M := by
  refine ok_aload_n dX6_fault_19 rfl rfl ?_
  refine ok_bipush (v := 59) dX6_fault_20 (by decide) ?_
  obtain ⟨P11, r10, h⟩ := h
  refine ok_callV2 dX6_fault_22 kX6_fault_112 r10 (by decide) rp_k155 rfl rfl (Nat.le_of_ble_eq_true rfl) ?_
  rintro _ M9 ⟨v8, rfl, q12⟩
  replace h := h v8 M9 q12
  refine ok_if_eq (tgt := 35) dX6_fault_25 (by decide) (fun c13 => ?_) (fun c13 => ?_)
  · replace h := h.1 c13
    refine ok_aload_n dX6_fault_35 rfl rfl ?_
    refine ok_getI dX6_fault_36 fX6_fault_98 (by decide) rp_k155 rfl ?_
    refine ok_if_ne (tgt := 53) dX6_fault_39 (by decide) (fun c14 => ?_) (fun c14 => ?_)
    · replace h := h.1 c14
      refine ok_aload_n dX6_fault_53 rfl rfl ?_
      refine ok_getI dX6_fault_54 fX6_fault_95 (by decide) rp_k155 rfl ?_
      refine ok_goto (tgt := 62) dX6_fault_57 (by decide) ?_
      exact ok_ireturn dX6_fault_62 rfl h
    · replace h := h.2 c14
      refine ok_aload_n dX6_fault_42 rfl rfl ?_
      refine ok_getI dX6_fault_43 fX6_fault_95 (by decide) rp_k155 rfl ?_
      refine ok_aload_n dX6_fault_46 rfl rfl ?_
      refine ok_getI dX6_fault_47 fX6_fault_92 (by decide) rp_k155 rfl ?_
      refine ok_icmp_ge (tgt := 60) dX6_fault_50 (by decide) (fun c15 => ?_) (fun c15 => ?_)
      · replace h := h.1 c15
        refine ok_bipush (v := (-6)) dX6_fault_60 (by decide) ?_
        exact ok_ireturn dX6_fault_62 rfl h
      · replace h := h.2 c15
        refine ok_aload_n dX6_fault_53 rfl rfl ?_
        refine ok_getI dX6_fault_54 fX6_fault_95 (by decide) rp_k155 rfl ?_
        refine ok_goto (tgt := 62) dX6_fault_57 (by decide) ?_
        exact ok_ireturn dX6_fault_62 rfl h
  · replace h := h.2 c13
    refine ok_aload_n dX6_fault_28 rfl rfl ?_
    obtain ⟨P18, r17, h⟩ := h
    refine ok_callV2 dX6_fault_29 kX6_fault_119 r17 (by decide) rp_k155 rfl rfl (Nat.le_of_ble_eq_true rfl) ?_
    rintro _ M16 ⟨rfl, q19⟩
    replace h := h M16 q19
    refine ok_goto (tgt := 19) dX6_fault_32 (by decide) ?_
    exact ok_mask [true] h
theorem vX6_load (E : rp_E) (post : Option Int32 → rp_M → Prop) (M : rp_M)  (h : ∃ P4 : Int32 → rp_M → Prop, rp_Run E YX6_fault [.ref 155] M (rp_P P4) ∧ (∀ v1 M2, P4 v1 M2 → ((v1 = (-6) → ((((M2 156 0) + (M2 155 8)) ≤ 12 → (∃ P10 : rp_M → Prop, rp_Run E YX6_record [.ref 155] M2 (rp_P0 P10) ∧ (∀ M8, P10 M8 → (rp_G E YX6_load post 37 [.ref 155, .int 0, .null] [] M8)))) ∧ (¬ ((M2 156 0) + (M2 155 8)) ≤ 12 → (post (some (-4)) M2)))) ∧ (¬ v1 = (-6) → (post (some (-3)) M2))))) : rp_Run E YX6_load [.ref 155] M post := by
  refine ok_start (by decide) oX6_load (Nat.le_of_ble_eq_true rfl) ?_
  refine ok_aload_n dX6_load_0 rfl rfl ?_
  obtain ⟨P4, r3, h⟩ := h
  refine ok_callV2 dX6_load_1 kX6_load_122 r3 (by decide) rp_k155 rfl rfl (Nat.le_of_ble_eq_true rfl) ?_
  rintro _ M2 ⟨v1, rfl, q5⟩
  replace h := h v1 M2 q5
  refine ok_bipush (v := (-6)) dX6_load_4 (by decide) ?_
  refine ok_icmp_eq (tgt := 12) dX6_load_6 (by decide) (fun c6 => ?_) (fun c6 => ?_)
  · replace h := h.1 c6
    refine ok_aload_n dX6_load_12 rfl rfl ?_
    refine ok_getR (j := 156) dX6_load_13 fX6_load_7 (by decide) rp_k155 rfl (by decide) ?_
    refine ok_iconst (v := 0) dX6_load_16 (by decide) ?_
    refine ok_iaload (j := 0) dX6_load_17 (by decide) rp_k156 (rp_vi (by decide)) (by decide) ?_
    refine ok_aload_n dX6_load_18 rfl rfl ?_
    refine ok_getI dX6_load_19 fX6_load_106 (by decide) rp_k155 rfl ?_
    refine ok_iadd dX6_load_22 ?_
    refine ok_bipush (v := 12) dX6_load_23 (by decide) ?_
    refine ok_icmp_le (tgt := 31) dX6_load_25 (by decide) (fun c7 => ?_) (fun c7 => ?_)
    · replace h := h.1 c7
      refine ok_aload_n dX6_load_31 rfl rfl ?_
      obtain ⟨P10, r9, h⟩ := h
      refine ok_callV2 dX6_load_32 kX6_load_61 r9 (by decide) rp_k155 rfl rfl (Nat.le_of_ble_eq_true rfl) ?_
      rintro _ M8 ⟨rfl, q11⟩
      replace h := h M8 q11
      refine ok_iconst (v := 0) dX6_load_35 (by decide) ?_
      refine ok_istore_n dX6_load_36 rfl (by decide) rfl ?_
      exact ok_mask [true, true, false] h
    · replace h := h.2 c7
      refine ok_bipush (v := (-4)) dX6_load_28 (by decide) ?_
      exact ok_ireturn dX6_load_30 rfl h
  · replace h := h.2 c6
    refine ok_bipush (v := (-3)) dX6_load_9 (by decide) ?_
    exact ok_ireturn dX6_load_11 rfl h
theorem vX6_load_37 (E : rp_E) (post : Option Int32 → rp_M → Prop) (M : rp_M) (l1 : Int32) (h : ((M 155 8) ≤ l1 → (∀ M13, M13 = rp_s M 155 4 0 → (post (some (M13 155 8)) M13))) ∧ (¬ (M 155 8) ≤ l1 → (vp_in ((5 : Int32) * l1) 120 ∧ (vp_in (((5 : Int32) * l1) + 1) 120 ∧ (vp_in (((5 : Int32) * l1) + 2) 120 ∧ (vp_in (((5 : Int32) * l1) + 3) 120 ∧ (vp_in (((5 : Int32) * l1) + 4) 120 ∧ (∃ P21 : rp_M → Prop, rp_Run E YX6_append [.ref 155, .int (M 159 (Int32.toNatClampNeg ((5 : Int32) * l1))), .int (M 159 (Int32.toNatClampNeg (((5 : Int32) * l1) + 1))), .int (M 159 (Int32.toNatClampNeg (((5 : Int32) * l1) + 2))), .int (M 159 (Int32.toNatClampNeg (((5 : Int32) * l1) + 3))), .int (M 159 (Int32.toNatClampNeg (((5 : Int32) * l1) + 4)))] M (rp_P0 P21) ∧ (∀ M19, P21 M19 → (rp_G E YX6_load post 37 [.ref 155, .int (l1 + 1), .null] [] M19)))))))))) : rp_G E YX6_load post 37 [.ref 155, .int l1, .null] [] M := by
  refine ok_iload_n dX6_load_37 rfl rfl ?_
  refine ok_aload_n dX6_load_38 rfl rfl ?_
  refine ok_getI dX6_load_39 fX6_load_106 (by decide) rp_k155 rfl ?_
  refine ok_icmp_ge (tgt := 97) dX6_load_42 (by decide) (fun c12 => ?_) (fun c12 => ?_)
  · replace h := h.1 c12
    refine ok_aload_n dX6_load_97 rfl rfl ?_
    refine ok_iconst (v := 0) dX6_load_98 (by decide) ?_
    refine ok_put dX6_load_99 pX6_load_92 (by decide) rp_k155 rfl rfl rfl ?_
    replace h := h _ rfl
    refine ok_aload_n dX6_load_102 rfl rfl ?_
    refine ok_getI dX6_load_103 fX6_load_106 (by decide) rp_k155 rfl ?_
    exact ok_ireturn dX6_load_106 rfl h
  · replace h := h.2 c12
    refine ok_iconst (v := 5) dX6_load_45 (by decide) ?_
    refine ok_iload_n dX6_load_46 rfl rfl ?_
    refine ok_imul dX6_load_47 ?_
    refine ok_istore_n dX6_load_48 rfl (by decide) rfl ?_
    refine ok_aload_n dX6_load_49 rfl rfl ?_
    refine ok_aload_n dX6_load_50 rfl rfl ?_
    refine ok_getR (j := 159) dX6_load_51 fX6_load_19 (by decide) rp_k155 rfl (by decide) ?_
    refine ok_iload_n dX6_load_54 rfl rfl ?_
    have b14 := h.1
    replace h := h.2
    refine ok_iaload dX6_load_55 (by decide) rp_k159 b14 rfl ?_
    refine ok_aload_n dX6_load_56 rfl rfl ?_
    refine ok_getR (j := 159) dX6_load_57 fX6_load_19 (by decide) rp_k155 rfl (by decide) ?_
    refine ok_iload_n dX6_load_60 rfl rfl ?_
    refine ok_iconst (v := 1) dX6_load_61 (by decide) ?_
    refine ok_iadd dX6_load_62 ?_
    have b15 := h.1
    replace h := h.2
    refine ok_iaload dX6_load_63 (by decide) rp_k159 b15 rfl ?_
    refine ok_aload_n dX6_load_64 rfl rfl ?_
    refine ok_getR (j := 159) dX6_load_65 fX6_load_19 (by decide) rp_k155 rfl (by decide) ?_
    refine ok_iload_n dX6_load_68 rfl rfl ?_
    refine ok_iconst (v := 2) dX6_load_69 (by decide) ?_
    refine ok_iadd dX6_load_70 ?_
    have b16 := h.1
    replace h := h.2
    refine ok_iaload dX6_load_71 (by decide) rp_k159 b16 rfl ?_
    refine ok_aload_n dX6_load_72 rfl rfl ?_
    refine ok_getR (j := 159) dX6_load_73 fX6_load_19 (by decide) rp_k155 rfl (by decide) ?_
    refine ok_iload_n dX6_load_76 rfl rfl ?_
    refine ok_iconst (v := 3) dX6_load_77 (by decide) ?_
    refine ok_iadd dX6_load_78 ?_
    have b17 := h.1
    replace h := h.2
    refine ok_iaload dX6_load_79 (by decide) rp_k159 b17 rfl ?_
    refine ok_aload_n dX6_load_80 rfl rfl ?_
    refine ok_getR (j := 159) dX6_load_81 fX6_load_19 (by decide) rp_k155 rfl (by decide) ?_
    refine ok_iload_n dX6_load_84 rfl rfl ?_
    refine ok_iconst (v := 4) dX6_load_85 (by decide) ?_
    refine ok_iadd dX6_load_86 ?_
    have b18 := h.1
    replace h := h.2
    refine ok_iaload dX6_load_87 (by decide) rp_k159 b18 rfl ?_
    obtain ⟨P21, r20, h⟩ := h
    refine ok_callV2 dX6_load_88 kX6_load_64 r20 (by decide) rp_k155 rfl rfl (Nat.le_of_ble_eq_true rfl) ?_
    rintro _ M19 ⟨rfl, q22⟩
    replace h := h M19 q22
    refine ok_iinc2 (w := 1) dX6_load_91 rfl (by decide) (by decide) rfl ?_
    refine ok_goto (tgt := 37) dX6_load_94 (by decide) ?_
    exact ok_mask [true, true, false] h
theorem vX6_sum (E : rp_E) (post : Option Int32 → rp_M → Prop) (M : rp_M) (l1 : Int32) (l2 : Int32) (h : rp_G E YX6_sum post 5 [.ref 155, .int l1, .int l2, .int 0, .int 0] [] M) : rp_Run E YX6_sum [.ref 155, .int l1, .int l2] M post := by
  refine ok_start (by decide) oX6_sum (Nat.le_of_ble_eq_true rfl) ?_
  refine ok_iconst (v := 0) dX6_sum_0 (by decide) ?_
  refine ok_istore_n dX6_sum_1 rfl (by decide) rfl ?_
  refine ok_iconst (v := 0) dX6_sum_2 (by decide) ?_
  refine ok_istore dX6_sum_3 (by decide) rfl ?_
  exact ok_mask [true, true, true, true, true] h
theorem vX6_sum_5 (E : rp_E) (post : Option Int32 → rp_M → Prop) (M : rp_M) (l1 : Int32) (l2 : Int32) (l3 : Int32) (l4 : Int32) (h : ((M 156 0) ≤ l4 → (post (some l3) M)) ∧ (¬ (M 156 0) ≤ l4 → (∃ v2 M3, rp_C E YX6_has [.int l1, .int l4] M (some v2) M3 ∧ ((v2 = 0 → (rp_G E YX6_sum post 5 [.ref 155, .int l1, .int l2, .int (l3 + 0), .int (l4 + 1)] [] M3)) ∧ (¬ v2 = 0 → (∃ v6 M7, rp_C E YX6_of [.ref 155, .int l4, .int l2] M3 (some v6) M7 ∧ (rp_G E YX6_sum post 5 [.ref 155, .int l1, .int l2, .int (l3 + v6), .int (l4 + 1)] [] M7))))))) : rp_G E YX6_sum post 5 [.ref 155, .int l1, .int l2, .int l3, .int l4] [] M := by
  refine ok_iload dX6_sum_5 rfl ?_
  refine ok_aload_n dX6_sum_7 rfl rfl ?_
  refine ok_getR (j := 156) dX6_sum_8 fX6_sum_7 (by decide) rp_k155 rfl (by decide) ?_
  refine ok_iconst (v := 0) dX6_sum_11 (by decide) ?_
  refine ok_iaload (j := 0) dX6_sum_12 (by decide) rp_k156 (rp_vi (by decide)) (by decide) ?_
  refine ok_icmp_ge (tgt := 45) dX6_sum_13 (by decide) (fun c1 => ?_) (fun c1 => ?_)
  · replace h := h.1 c1
    refine ok_iload_n dX6_sum_45 rfl rfl ?_
    exact ok_ireturn dX6_sum_46 rfl h
  · replace h := h.2 c1
    refine ok_iload_n dX6_sum_16 rfl rfl ?_
    refine ok_iload_n dX6_sum_17 rfl rfl ?_
    refine ok_iload dX6_sum_18 rfl ?_
    obtain ⟨v2, M3, r4, h⟩ := h
    refine ok_callS2 dX6_sum_20 kX6_sum_83 r4 rfl rfl (Nat.le_of_ble_eq_true rfl) ?_
    rintro _ _ ⟨rfl, rfl⟩
    refine ok_if_eq (tgt := 36) dX6_sum_23 (by decide) (fun c5 => ?_) (fun c5 => ?_)
    · replace h := h.1 c5
      refine ok_iconst (v := 0) dX6_sum_36 (by decide) ?_
      refine ok_iadd dX6_sum_37 ?_
      refine ok_istore_n dX6_sum_38 rfl (by decide) rfl ?_
      refine ok_iinc2 (w := 1) dX6_sum_39 rfl (by decide) (by decide) rfl ?_
      refine ok_goto (tgt := 5) dX6_sum_42 (by decide) ?_
      exact ok_mask [true, true, true, true, true] h
    · replace h := h.2 c5
      refine ok_aload_n dX6_sum_26 rfl rfl ?_
      refine ok_iload dX6_sum_27 rfl ?_
      refine ok_iload_n dX6_sum_29 rfl rfl ?_
      obtain ⟨v6, M7, r8, h⟩ := h
      refine ok_callV2 dX6_sum_30 kX6_sum_72 r8 (by decide) rp_k155 rfl rfl (Nat.le_of_ble_eq_true rfl) ?_
      rintro _ _ ⟨rfl, rfl⟩
      refine ok_goto (tgt := 37) dX6_sum_33 (by decide) ?_
      refine ok_iadd dX6_sum_37 ?_
      refine ok_istore_n dX6_sum_38 rfl (by decide) rfl ?_
      refine ok_iinc2 (w := 1) dX6_sum_39 rfl (by decide) (by decide) rfl ?_
      refine ok_goto (tgt := 5) dX6_sum_42 (by decide) ?_
      exact ok_mask [true, true, true, true, true] h
theorem vX6_worst (E : rp_E) (post : Option Int32 → rp_M → Prop) (M : rp_M) (l1 : Int32) (l2 : Int32) (l3 : Int32) (h : rp_G E YX6_worst post 6 [.ref 155, .int l1, .int l2, .int l3, .int 0, .int 0, .null, .null, .null] [] M) : rp_Run E YX6_worst [.ref 155, .int l1, .int l2, .int l3] M post := by
  refine ok_start (by decide) oX6_worst (Nat.le_of_ble_eq_true rfl) ?_
  refine ok_iconst (v := 0) dX6_worst_0 (by decide) ?_
  refine ok_istore dX6_worst_1 (by decide) rfl ?_
  refine ok_iconst (v := 0) dX6_worst_3 (by decide) ?_
  refine ok_istore dX6_worst_4 (by decide) rfl ?_
  exact ok_mask [true, true, true, true, true, true, false, false, false] h
theorem vX6_worst_6 (E : rp_E) (post : Option Int32 → rp_M → Prop) (M : rp_M) (l1 : Int32) (l2 : Int32) (l3 : Int32) (l4 : Int32) (l5 : Int32) (h : (l3 ≤ l5 → (post (some l4) M)) ∧ (¬ l3 ≤ l5 → (rp_G E YX6_worst post 19 [.ref 155, .int l1, .int l2, .int l3, .int l4, .int l5, .int (-6), .int 0, .null] [] M))) : rp_G E YX6_worst post 6 [.ref 155, .int l1, .int l2, .int l3, .int l4, .int l5, .null, .null, .null] [] M := by
  refine ok_iload dX6_worst_6 rfl ?_
  refine ok_iload_n dX6_worst_8 rfl rfl ?_
  refine ok_icmp_ge (tgt := 131) dX6_worst_9 (by decide) (fun c1 => ?_) (fun c1 => ?_)
  · replace h := h.1 c1
    refine ok_iload dX6_worst_131 rfl ?_
    exact ok_ireturn dX6_worst_133 rfl h
  · replace h := h.2 c1
    refine ok_bipush (v := (-6)) dX6_worst_12 (by decide) ?_
    refine ok_istore dX6_worst_14 (by decide) rfl ?_
    refine ok_iconst (v := 0) dX6_worst_16 (by decide) ?_
    refine ok_istore dX6_worst_17 (by decide) rfl ?_
    exact ok_mask [true, true, true, true, true, true, true, true, false] h
theorem vX6_worst_19 (E : rp_E) (post : Option Int32 → rp_M → Prop) (M : rp_M) (l1 : Int32) (l2 : Int32) (l3 : Int32) (l4 : Int32) (l5 : Int32) (l6 : Int32) (l7 : Int32) (h : ((M 156 0) ≤ l7 → ((0 ≤ l6 → (rp_G E YX6_worst post 6 [.ref 155, .int l1, .int l2, .int l3, .int (l4 ||| ((1 : Int32) <<< (l6 &&& 31) : Int32)), .int (l5 + 1), .null, .null, .null] [] M)) ∧ (¬ 0 ≤ l6 → (post (some l4) M)))) ∧ (¬ (M 156 0) ≤ l7 → (∃ v4 M5, rp_C E YX6_has [.int l1, .int l7] M (some v4) M5 ∧ ((v4 = 0 → (rp_G E YX6_worst post 19 [.ref 155, .int l1, .int l2, .int l3, .int l4, .int l5, .int l6, .int (l7 + 1), .null] [] M5)) ∧ (¬ v4 = 0 → (∃ v9 M10, rp_C E YX6_has [.int l4, .int l7] M5 (some v9) M10 ∧ ((¬ v9 = 0 → (rp_G E YX6_worst post 19 [.ref 155, .int l1, .int l2, .int l3, .int l4, .int l5, .int l6, .int (l7 + 1), .null] [] M10)) ∧ (v9 = 0 → (∃ v14 M15, rp_C E YX6_of [.ref 155, .int l7, .int l2] M10 (some v14) M15 ∧ ((v14 ≤ 0 → (rp_G E YX6_worst post 19 [.ref 155, .int l1, .int l2, .int l3, .int l4, .int l5, .int l6, .int (l7 + 1), .null] [] M15)) ∧ (¬ v14 ≤ 0 → ((l6 < 0 → (rp_G E YX6_worst post 19 [.ref 155, .int l1, .int l2, .int l3, .int l4, .int l5, .int l7, .int (l7 + 1), .null] [] M15)) ∧ (¬ l6 < 0 → (∃ v21 M22, rp_C E YX6_of [.ref 155, .int l7, .int l2] M15 (some v21) M22 ∧ (∃ v24 M25, rp_C E YX6_of [.ref 155, .int l6, .int l2] M22 (some v24) M25 ∧ ((v21 ≤ v24 → (rp_G E YX6_worst post 19 [.ref 155, .int l1, .int l2, .int l3, .int l4, .int l5, .int l6, .int (l7 + 1), .null] [] M25)) ∧ (¬ v21 ≤ v24 → (rp_G E YX6_worst post 19 [.ref 155, .int l1, .int l2, .int l3, .int l4, .int l5, .int l7, .int (l7 + 1), .null] [] M25)))))))))))))))))) : rp_G E YX6_worst post 19 [.ref 155, .int l1, .int l2, .int l3, .int l4, .int l5, .int l6, .int l7, .null] [] M := by
  refine ok_iload dX6_worst_19 rfl ?_
  refine ok_aload_n dX6_worst_21 rfl rfl ?_
  refine ok_getR (j := 156) dX6_worst_22 fX6_worst_7 (by decide) rp_k155 rfl (by decide) ?_
  refine ok_iconst (v := 0) dX6_worst_25 (by decide) ?_
  refine ok_iaload (j := 0) dX6_worst_26 (by decide) rp_k156 (rp_vi (by decide)) (by decide) ?_
  refine ok_icmp_ge (tgt := 108) dX6_worst_27 (by decide) (fun c2 => ?_) (fun c2 => ?_)
  · replace h := h.1 c2
    refine ok_iload dX6_worst_108 rfl ?_
    refine ok_if_ge (tgt := 116) dX6_worst_110 (by decide) (fun c3 => ?_) (fun c3 => ?_)
    · replace h := h.1 c3
      refine ok_iload dX6_worst_116 rfl ?_
      refine ok_iconst (v := 1) dX6_worst_118 (by decide) ?_
      refine ok_iload dX6_worst_119 rfl ?_
      refine ok_ishl dX6_worst_121 ?_
      refine ok_ior dX6_worst_122 ?_
      refine ok_istore dX6_worst_123 (by decide) rfl ?_
      refine ok_iinc2 (w := 1) dX6_worst_125 rfl (by decide) (by decide) rfl ?_
      refine ok_goto (tgt := 6) dX6_worst_128 (by decide) ?_
      exact ok_mask [true, true, true, true, true, true, false, false, false] h
    · replace h := h.2 c3
      refine ok_iload dX6_worst_113 rfl ?_
      exact ok_ireturn dX6_worst_115 rfl h
  · replace h := h.2 c2
    refine ok_iload_n dX6_worst_30 rfl rfl ?_
    refine ok_iload dX6_worst_31 rfl ?_
    obtain ⟨v4, M5, r6, h⟩ := h
    refine ok_callS2 dX6_worst_33 kX6_worst_83 r6 rfl rfl (Nat.le_of_ble_eq_true rfl) ?_
    rintro _ _ ⟨rfl, rfl⟩
    refine ok_if_eq (tgt := 63) dX6_worst_36 (by decide) (fun c7 => ?_) (fun c7 => ?_)
    · replace h := h.1 c7
      refine ok_iconst (v := 0) dX6_worst_63 (by decide) ?_
      refine ok_istore dX6_worst_64 (by decide) rfl ?_
      refine ok_iload dX6_worst_66 rfl ?_
      refine ok_if_eq (tgt := 98) dX6_worst_68 (by decide) (fun c8 => ?_) (fun c8 => absurd c8 (by decide))
      refine ok_iload dX6_worst_98 rfl ?_
      refine ok_istore dX6_worst_100 (by decide) rfl ?_
      refine ok_iinc2 (w := 1) dX6_worst_102 rfl (by decide) (by decide) rfl ?_
      refine ok_goto (tgt := 19) dX6_worst_105 (by decide) ?_
      exact ok_mask [true, true, true, true, true, true, true, true, false] h
    · replace h := h.2 c7
      refine ok_iload dX6_worst_39 rfl ?_
      refine ok_iload dX6_worst_41 rfl ?_
      obtain ⟨v9, M10, r11, h⟩ := h
      refine ok_callS2 dX6_worst_43 kX6_worst_83 r11 rfl rfl (Nat.le_of_ble_eq_true rfl) ?_
      rintro _ _ ⟨rfl, rfl⟩
      refine ok_if_ne (tgt := 63) dX6_worst_46 (by decide) (fun c12 => ?_) (fun c12 => ?_)
      · replace h := h.1 c12
        refine ok_iconst (v := 0) dX6_worst_63 (by decide) ?_
        refine ok_istore dX6_worst_64 (by decide) rfl ?_
        refine ok_iload dX6_worst_66 rfl ?_
        refine ok_if_eq (tgt := 98) dX6_worst_68 (by decide) (fun c13 => ?_) (fun c13 => absurd c13 (by decide))
        refine ok_iload dX6_worst_98 rfl ?_
        refine ok_istore dX6_worst_100 (by decide) rfl ?_
        refine ok_iinc2 (w := 1) dX6_worst_102 rfl (by decide) (by decide) rfl ?_
        refine ok_goto (tgt := 19) dX6_worst_105 (by decide) ?_
        exact ok_mask [true, true, true, true, true, true, true, true, false] h
      · replace h := h.2 c12
        refine ok_aload_n dX6_worst_49 rfl rfl ?_
        refine ok_iload dX6_worst_50 rfl ?_
        refine ok_iload_n dX6_worst_52 rfl rfl ?_
        obtain ⟨v14, M15, r16, h⟩ := h
        refine ok_callV2 dX6_worst_53 kX6_worst_72 r16 (by decide) rp_k155 rfl rfl (Nat.le_of_ble_eq_true rfl) ?_
        rintro _ _ ⟨rfl, rfl⟩
        refine ok_if_le (tgt := 63) dX6_worst_56 (by decide) (fun c17 => ?_) (fun c17 => ?_)
        · replace h := h.1 c17
          refine ok_iconst (v := 0) dX6_worst_63 (by decide) ?_
          refine ok_istore dX6_worst_64 (by decide) rfl ?_
          refine ok_iload dX6_worst_66 rfl ?_
          refine ok_if_eq (tgt := 98) dX6_worst_68 (by decide) (fun c18 => ?_) (fun c18 => absurd c18 (by decide))
          refine ok_iload dX6_worst_98 rfl ?_
          refine ok_istore dX6_worst_100 (by decide) rfl ?_
          refine ok_iinc2 (w := 1) dX6_worst_102 rfl (by decide) (by decide) rfl ?_
          refine ok_goto (tgt := 19) dX6_worst_105 (by decide) ?_
          exact ok_mask [true, true, true, true, true, true, true, true, false] h
        · replace h := h.2 c17
          refine ok_iconst (v := 1) dX6_worst_59 (by decide) ?_
          refine ok_goto (tgt := 64) dX6_worst_60 (by decide) ?_
          refine ok_istore dX6_worst_64 (by decide) rfl ?_
          refine ok_iload dX6_worst_66 rfl ?_
          refine ok_if_eq (tgt := 98) dX6_worst_68 (by decide) (fun c19 => absurd c19 (by decide)) (fun c19 => ?_)
          refine ok_iload dX6_worst_71 rfl ?_
          refine ok_if_lt (tgt := 93) dX6_worst_73 (by decide) (fun c20 => ?_) (fun c20 => ?_)
          · replace h := h.1 c20
            refine ok_iload dX6_worst_93 rfl ?_
            refine ok_goto (tgt := 100) dX6_worst_95 (by decide) ?_
            refine ok_istore dX6_worst_100 (by decide) rfl ?_
            refine ok_iinc2 (w := 1) dX6_worst_102 rfl (by decide) (by decide) rfl ?_
            refine ok_goto (tgt := 19) dX6_worst_105 (by decide) ?_
            exact ok_mask [true, true, true, true, true, true, true, true, false] h
          · replace h := h.2 c20
            refine ok_aload_n dX6_worst_76 rfl rfl ?_
            refine ok_iload dX6_worst_77 rfl ?_
            refine ok_iload_n dX6_worst_79 rfl rfl ?_
            obtain ⟨v21, M22, r23, h⟩ := h
            refine ok_callV2 dX6_worst_80 kX6_worst_72 r23 (by decide) rp_k155 rfl rfl (Nat.le_of_ble_eq_true rfl) ?_
            rintro _ _ ⟨rfl, rfl⟩
            refine ok_aload_n dX6_worst_83 rfl rfl ?_
            refine ok_iload dX6_worst_84 rfl ?_
            refine ok_iload_n dX6_worst_86 rfl rfl ?_
            obtain ⟨v24, M25, r26, h⟩ := h
            refine ok_callV2 dX6_worst_87 kX6_worst_72 r26 (by decide) rp_k155 rfl rfl (Nat.le_of_ble_eq_true rfl) ?_
            rintro _ _ ⟨rfl, rfl⟩
            refine ok_icmp_le (tgt := 98) dX6_worst_90 (by decide) (fun c27 => ?_) (fun c27 => ?_)
            · replace h := h.1 c27
              refine ok_iload dX6_worst_98 rfl ?_
              refine ok_istore dX6_worst_100 (by decide) rfl ?_
              refine ok_iinc2 (w := 1) dX6_worst_102 rfl (by decide) (by decide) rfl ?_
              refine ok_goto (tgt := 19) dX6_worst_105 (by decide) ?_
              exact ok_mask [true, true, true, true, true, true, true, true, false] h
            · replace h := h.2 c27
              refine ok_iload dX6_worst_93 rfl ?_
              refine ok_goto (tgt := 100) dX6_worst_95 (by decide) ?_
              refine ok_istore dX6_worst_100 (by decide) rfl ?_
              refine ok_iinc2 (w := 1) dX6_worst_102 rfl (by decide) (by decide) rfl ?_
              refine ok_goto (tgt := 19) dX6_worst_105 (by decide) ?_
              exact ok_mask [true, true, true, true, true, true, true, true, false] h
theorem vX6_protectedWeight (E : rp_E) (post : Option Int32 → rp_M → Prop) (M : rp_M) (l1 : Int32) (l2 : Int32) (h : ∃ v1 M2, rp_C E YX6_sum [.ref 155, .int l1, .int 1] M (some v1) M2 ∧ (∃ v4 M5, rp_C E YX6_worst [.ref 155, .int l1, .int 2, .int l2] M2 (some v4) M5 ∧ (∃ v7 M8, rp_C E YX6_sum [.ref 155, .int v4, .int 2] M5 (some v7) M8 ∧ (post (some (v1 + v7)) M8)))) : rp_Run E YX6_protectedWeight [.ref 155, .int l1, .int l2] M post := by
  refine ok_start (by decide) oX6_protectedWeight (Nat.le_of_ble_eq_true rfl) ?_
  refine ok_aload_n dX6_protectedWeight_0 rfl rfl ?_
  refine ok_iload_n dX6_protectedWeight_1 rfl rfl ?_
  refine ok_iconst (v := 1) dX6_protectedWeight_2 (by decide) ?_
  obtain ⟨v1, M2, r3, h⟩ := h
  refine ok_callV2 dX6_protectedWeight_3 kX6_protectedWeight_125 r3 (by decide) rp_k155 rfl rfl (Nat.le_of_ble_eq_true rfl) ?_
  rintro _ _ ⟨rfl, rfl⟩
  refine ok_aload_n dX6_protectedWeight_6 rfl rfl ?_
  refine ok_aload_n dX6_protectedWeight_7 rfl rfl ?_
  refine ok_iload_n dX6_protectedWeight_8 rfl rfl ?_
  refine ok_iconst (v := 2) dX6_protectedWeight_9 (by decide) ?_
  refine ok_iload_n dX6_protectedWeight_10 rfl rfl ?_
  obtain ⟨v4, M5, r6, h⟩ := h
  refine ok_callV2 dX6_protectedWeight_11 kX6_protectedWeight_128 r6 (by decide) rp_k155 rfl rfl (Nat.le_of_ble_eq_true rfl) ?_
  rintro _ _ ⟨rfl, rfl⟩
  refine ok_iconst (v := 2) dX6_protectedWeight_14 (by decide) ?_
  obtain ⟨v7, M8, r9, h⟩ := h
  refine ok_callV2 dX6_protectedWeight_15 kX6_protectedWeight_125 r9 (by decide) rp_k155 rfl rfl (Nat.le_of_ble_eq_true rfl) ?_
  rintro _ _ ⟨rfl, rfl⟩
  refine ok_iadd dX6_protectedWeight_18 ?_
  exact ok_ireturn dX6_protectedWeight_19 rfl h
theorem vX6_protectedProfit (E : rp_E) (post : Option Int32 → rp_M → Prop) (M : rp_M) (l1 : Int32) (l2 : Int32) (h : ∃ v1 M2, rp_C E YX6_sum [.ref 155, .int l1, .int 0] M (some v1) M2 ∧ (∃ v4 M5, rp_C E YX6_worst [.ref 155, .int l1, .int 3, .int l2] M2 (some v4) M5 ∧ (∃ v7 M8, rp_C E YX6_sum [.ref 155, .int v4, .int 3] M5 (some v7) M8 ∧ (post (some (v1 - v7)) M8)))) : rp_Run E YX6_protectedProfit [.ref 155, .int l1, .int l2] M post := by
  refine ok_start (by decide) oX6_protectedProfit (Nat.le_of_ble_eq_true rfl) ?_
  refine ok_aload_n dX6_protectedProfit_0 rfl rfl ?_
  refine ok_iload_n dX6_protectedProfit_1 rfl rfl ?_
  refine ok_iconst (v := 0) dX6_protectedProfit_2 (by decide) ?_
  obtain ⟨v1, M2, r3, h⟩ := h
  refine ok_callV2 dX6_protectedProfit_3 kX6_protectedProfit_125 r3 (by decide) rp_k155 rfl rfl (Nat.le_of_ble_eq_true rfl) ?_
  rintro _ _ ⟨rfl, rfl⟩
  refine ok_aload_n dX6_protectedProfit_6 rfl rfl ?_
  refine ok_aload_n dX6_protectedProfit_7 rfl rfl ?_
  refine ok_iload_n dX6_protectedProfit_8 rfl rfl ?_
  refine ok_iconst (v := 3) dX6_protectedProfit_9 (by decide) ?_
  refine ok_iload_n dX6_protectedProfit_10 rfl rfl ?_
  obtain ⟨v4, M5, r6, h⟩ := h
  refine ok_callV2 dX6_protectedProfit_11 kX6_protectedProfit_128 r6 (by decide) rp_k155 rfl rfl (Nat.le_of_ble_eq_true rfl) ?_
  rintro _ _ ⟨rfl, rfl⟩
  refine ok_iconst (v := 3) dX6_protectedProfit_14 (by decide) ?_
  obtain ⟨v7, M8, r9, h⟩ := h
  refine ok_callV2 dX6_protectedProfit_15 kX6_protectedProfit_125 r9 (by decide) rp_k155 rfl rfl (Nat.le_of_ble_eq_true rfl) ?_
  rintro _ _ ⟨rfl, rfl⟩
  refine ok_isub dX6_protectedProfit_18 ?_
  exact ok_ireturn dX6_protectedProfit_19 rfl h
theorem vX6_isAllowed (E : rp_E) (post : Option Int32 → rp_M → Prop) (M : rp_M) (l1 : Int32) (h : rp_G E YX6_isAllowed post 4 [.ref 155, .int l1, .int 0, .int 0, .null] [] M) : rp_Run E YX6_isAllowed [.ref 155, .int l1] M post := by
  refine ok_start (by decide) oX6_isAllowed (Nat.le_of_ble_eq_true rfl) ?_
  refine ok_iconst (v := 0) dX6_isAllowed_0 (by decide) ?_
  refine ok_istore_n dX6_isAllowed_1 rfl (by decide) rfl ?_
  refine ok_iconst (v := 0) dX6_isAllowed_2 (by decide) ?_
  refine ok_istore_n dX6_isAllowed_3 rfl (by decide) rfl ?_
  exact ok_mask [true, true, true, true, false] h
theorem vX6_isAllowed_4 (E : rp_E) (post : Option Int32 → rp_M → Prop) (M : rp_M) (l1 : Int32) (l2 : Int32) (l3 : Int32) (h : ((M 156 0) ≤ l3 → (post (some 1) M)) ∧ (¬ (M 156 0) ≤ l3 → (∃ v2 M3, rp_C E YX6_has [.int l1, .int l3] M (some v2) M3 ∧ ((v2 = 0 → (rp_G E YX6_isAllowed post 4 [.ref 155, .int l1, .int l2, .int (l3 + 1), .null] [] M3)) ∧ (¬ v2 = 0 → (∃ v6 M7, rp_C E YX6_of [.ref 155, .int l3, .int 4] M3 (some v6) M7 ∧ (vp_in ((64 : Int32) + l3) 88 ∧ ((¬ ((M7 156 (Int32.toNatClampNeg ((64 : Int32) + l3))) &&& l1) = 0 → (post (some 0) M7)) ∧ (((M7 156 (Int32.toNatClampNeg ((64 : Int32) + l3))) &&& l1) = 0 → (vp_in ((76 : Int32) + l3) 88 ∧ ((¬ ((M7 156 (Int32.toNatClampNeg ((76 : Int32) + l3))) &&& (l1 ^^^ (-1))) = 0 → (post (some 0) M7)) ∧ (((M7 156 (Int32.toNatClampNeg ((76 : Int32) + l3))) &&& (l1 ^^^ (-1))) = 0 → ((v6 < 0 → ((v6 < 0 → (rp_G E YX6_isAllowed post 4 [.ref 155, .int l1, .int (l2 ||| 0), .int (l3 + 1), .null] [] M7)) ∧ (¬ v6 < 0 → (rp_G E YX6_isAllowed post 4 [.ref 155, .int l1, .int (l2 ||| ((1 : Int32) <<< (v6 &&& 31) : Int32)), .int (l3 + 1), .null] [] M7)))) ∧ (¬ v6 < 0 → (∃ v15 M16, rp_C E YX6_has [.int l2, .int v6] M7 (some v15) M16 ∧ ((v15 = 0 → ((v6 < 0 → (rp_G E YX6_isAllowed post 4 [.ref 155, .int l1, .int (l2 ||| 0), .int (l3 + 1), .null] [] M16)) ∧ (¬ v6 < 0 → (rp_G E YX6_isAllowed post 4 [.ref 155, .int l1, .int (l2 ||| ((1 : Int32) <<< (v6 &&& 31) : Int32)), .int (l3 + 1), .null] [] M16)))) ∧ (¬ v15 = 0 → (post (some 0) M16)))))))))))))))))) : rp_G E YX6_isAllowed post 4 [.ref 155, .int l1, .int l2, .int l3, .null] [] M := by
  refine ok_iload_n dX6_isAllowed_4 rfl rfl ?_
  refine ok_aload_n dX6_isAllowed_5 rfl rfl ?_
  refine ok_getR (j := 156) dX6_isAllowed_6 fX6_isAllowed_7 (by decide) rp_k155 rfl (by decide) ?_
  refine ok_iconst (v := 0) dX6_isAllowed_9 (by decide) ?_
  refine ok_iaload (j := 0) dX6_isAllowed_10 (by decide) rp_k156 (rp_vi (by decide)) (by decide) ?_
  refine ok_icmp_ge (tgt := 98) dX6_isAllowed_11 (by decide) (fun c1 => ?_) (fun c1 => ?_)
  · replace h := h.1 c1
    refine ok_iconst (v := 1) dX6_isAllowed_98 (by decide) ?_
    exact ok_zreturn dX6_isAllowed_99 rfl (by decide) h
  · replace h := h.2 c1
    refine ok_iload_n dX6_isAllowed_14 rfl rfl ?_
    refine ok_iload_n dX6_isAllowed_15 rfl rfl ?_
    obtain ⟨v2, M3, r4, h⟩ := h
    refine ok_callS2 dX6_isAllowed_16 kX6_isAllowed_83 r4 rfl rfl (Nat.le_of_ble_eq_true rfl) ?_
    rintro _ _ ⟨rfl, rfl⟩
    refine ok_if_eq (tgt := 92) dX6_isAllowed_19 (by decide) (fun c5 => ?_) (fun c5 => ?_)
    · replace h := h.1 c5
      refine ok_iinc2 (w := 1) dX6_isAllowed_92 rfl (by decide) (by decide) rfl ?_
      refine ok_goto (tgt := 4) dX6_isAllowed_95 (by decide) ?_
      exact ok_mask [true, true, true, true, false] h
    · replace h := h.2 c5
      refine ok_aload_n dX6_isAllowed_22 rfl rfl ?_
      refine ok_iload_n dX6_isAllowed_23 rfl rfl ?_
      refine ok_iconst (v := 4) dX6_isAllowed_24 (by decide) ?_
      obtain ⟨v6, M7, r8, h⟩ := h
      refine ok_callV2 dX6_isAllowed_25 kX6_isAllowed_72 r8 (by decide) rp_k155 rfl rfl (Nat.le_of_ble_eq_true rfl) ?_
      rintro _ _ ⟨rfl, rfl⟩
      refine ok_istore dX6_isAllowed_28 (by decide) rfl ?_
      refine ok_aload_n dX6_isAllowed_30 rfl rfl ?_
      refine ok_getR (j := 156) dX6_isAllowed_31 fX6_isAllowed_7 (by decide) rp_k155 rfl (by decide) ?_
      refine ok_bipush (v := 64) dX6_isAllowed_34 (by decide) ?_
      refine ok_iload_n dX6_isAllowed_36 rfl rfl ?_
      refine ok_iadd dX6_isAllowed_37 ?_
      have b9 := h.1
      replace h := h.2
      refine ok_iaload dX6_isAllowed_38 (by decide) rp_k156 b9 rfl ?_
      refine ok_iload_n dX6_isAllowed_39 rfl rfl ?_
      refine ok_iand dX6_isAllowed_40 ?_
      refine ok_if_ne (tgt := 74) dX6_isAllowed_41 (by decide) (fun c10 => ?_) (fun c10 => ?_)
      · replace h := h.1 c10
        refine ok_iconst (v := 0) dX6_isAllowed_74 (by decide) ?_
        exact ok_zreturn dX6_isAllowed_75 rfl (by decide) h
      · replace h := h.2 c10
        refine ok_aload_n dX6_isAllowed_44 rfl rfl ?_
        refine ok_getR (j := 156) dX6_isAllowed_45 fX6_isAllowed_7 (by decide) rp_k155 rfl (by decide) ?_
        refine ok_bipush (v := 76) dX6_isAllowed_48 (by decide) ?_
        refine ok_iload_n dX6_isAllowed_50 rfl rfl ?_
        refine ok_iadd dX6_isAllowed_51 ?_
        have b11 := h.1
        replace h := h.2
        refine ok_iaload dX6_isAllowed_52 (by decide) rp_k156 b11 rfl ?_
        refine ok_iload_n dX6_isAllowed_53 rfl rfl ?_
        refine ok_iconst (v := (-1)) dX6_isAllowed_54 (by decide) ?_
        refine ok_ixor dX6_isAllowed_55 ?_
        refine ok_iand dX6_isAllowed_56 ?_
        refine ok_if_ne (tgt := 74) dX6_isAllowed_57 (by decide) (fun c12 => ?_) (fun c12 => ?_)
        · replace h := h.1 c12
          refine ok_iconst (v := 0) dX6_isAllowed_74 (by decide) ?_
          exact ok_zreturn dX6_isAllowed_75 rfl (by decide) h
        · replace h := h.2 c12
          refine ok_iload dX6_isAllowed_60 rfl ?_
          refine ok_if_lt (tgt := 76) dX6_isAllowed_62 (by decide) (fun c13 => ?_) (fun c13 => ?_)
          · replace h := h.1 c13
            refine ok_iload_n dX6_isAllowed_76 rfl rfl ?_
            refine ok_iload dX6_isAllowed_77 rfl ?_
            refine ok_if_lt (tgt := 89) dX6_isAllowed_79 (by decide) (fun c14 => ?_) (fun c14 => ?_)
            · replace h := h.1 c14
              refine ok_iconst (v := 0) dX6_isAllowed_89 (by decide) ?_
              refine ok_ior dX6_isAllowed_90 ?_
              refine ok_istore_n dX6_isAllowed_91 rfl (by decide) rfl ?_
              refine ok_iinc2 (w := 1) dX6_isAllowed_92 rfl (by decide) (by decide) rfl ?_
              refine ok_goto (tgt := 4) dX6_isAllowed_95 (by decide) ?_
              exact ok_mask [true, true, true, true, false] h
            · replace h := h.2 c14
              refine ok_iconst (v := 1) dX6_isAllowed_82 (by decide) ?_
              refine ok_iload dX6_isAllowed_83 rfl ?_
              refine ok_ishl dX6_isAllowed_85 ?_
              refine ok_goto (tgt := 90) dX6_isAllowed_86 (by decide) ?_
              refine ok_ior dX6_isAllowed_90 ?_
              refine ok_istore_n dX6_isAllowed_91 rfl (by decide) rfl ?_
              refine ok_iinc2 (w := 1) dX6_isAllowed_92 rfl (by decide) (by decide) rfl ?_
              refine ok_goto (tgt := 4) dX6_isAllowed_95 (by decide) ?_
              exact ok_mask [true, true, true, true, false] h
          · replace h := h.2 c13
            refine ok_iload_n dX6_isAllowed_65 rfl rfl ?_
            refine ok_iload dX6_isAllowed_66 rfl ?_
            obtain ⟨v15, M16, r17, h⟩ := h
            refine ok_callS2 dX6_isAllowed_68 kX6_isAllowed_83 r17 rfl rfl (Nat.le_of_ble_eq_true rfl) ?_
            rintro _ _ ⟨rfl, rfl⟩
            refine ok_if_eq (tgt := 76) dX6_isAllowed_71 (by decide) (fun c18 => ?_) (fun c18 => ?_)
            · replace h := h.1 c18
              refine ok_iload_n dX6_isAllowed_76 rfl rfl ?_
              refine ok_iload dX6_isAllowed_77 rfl ?_
              refine ok_if_lt (tgt := 89) dX6_isAllowed_79 (by decide) (fun c19 => ?_) (fun c19 => ?_)
              · replace h := h.1 c19
                refine ok_iconst (v := 0) dX6_isAllowed_89 (by decide) ?_
                refine ok_ior dX6_isAllowed_90 ?_
                refine ok_istore_n dX6_isAllowed_91 rfl (by decide) rfl ?_
                refine ok_iinc2 (w := 1) dX6_isAllowed_92 rfl (by decide) (by decide) rfl ?_
                refine ok_goto (tgt := 4) dX6_isAllowed_95 (by decide) ?_
                exact ok_mask [true, true, true, true, false] h
              · replace h := h.2 c19
                refine ok_iconst (v := 1) dX6_isAllowed_82 (by decide) ?_
                refine ok_iload dX6_isAllowed_83 rfl ?_
                refine ok_ishl dX6_isAllowed_85 ?_
                refine ok_goto (tgt := 90) dX6_isAllowed_86 (by decide) ?_
                refine ok_ior dX6_isAllowed_90 ?_
                refine ok_istore_n dX6_isAllowed_91 rfl (by decide) rfl ?_
                refine ok_iinc2 (w := 1) dX6_isAllowed_92 rfl (by decide) (by decide) rfl ?_
                refine ok_goto (tgt := 4) dX6_isAllowed_95 (by decide) ?_
                exact ok_mask [true, true, true, true, false] h
            · replace h := h.2 c18
              refine ok_iconst (v := 0) dX6_isAllowed_74 (by decide) ?_
              exact ok_zreturn dX6_isAllowed_75 rfl (by decide) h
theorem vX6_sets (E : rp_E) (post : Option Int32 → rp_M → Prop) (M : rp_M)  (h : post (some ((1 : Int32) <<< ((M 156 0) &&& 31) : Int32)) M) : rp_Run E YX6_sets [.ref 155] M post := by
  refine ok_start (by decide) oX6_sets (Nat.le_of_ble_eq_true rfl) ?_
  refine ok_iconst (v := 1) dX6_sets_0 (by decide) ?_
  refine ok_aload_n dX6_sets_1 rfl rfl ?_
  refine ok_getR (j := 156) dX6_sets_2 fX6_sets_7 (by decide) rp_k155 rfl (by decide) ?_
  refine ok_iconst (v := 0) dX6_sets_5 (by decide) ?_
  refine ok_iaload (j := 0) dX6_sets_6 (by decide) rp_k156 (rp_vi (by decide)) (by decide) ?_
  refine ok_ishl dX6_sets_7 ?_
  exact ok_ireturn dX6_sets_8 rfl h
theorem vX6_layTables (E : rp_E) (post : Option Int32 → rp_M → Prop) (M : rp_M) (l1 : Int32) (l2 : Int32) (h : rp_G E YX6_layTables post 2 [.ref 155, .int l1, .int l2, .int 0] [] M) : rp_Run E YX6_layTables [.ref 155, .int l1, .int l2] M post := by
  refine ok_start (by decide) oX6_layTables (Nat.le_of_ble_eq_true rfl) ?_
  refine ok_iconst (v := 0) dX6_layTables_0 (by decide) ?_
  refine ok_istore_n dX6_layTables_1 rfl (by decide) rfl ?_
  exact ok_mask [true, true, true, true] h
theorem vX6_layTables_2 (E : rp_E) (post : Option Int32 → rp_M → Prop) (M : rp_M) (l1 : Int32) (l2 : Int32) (l3 : Int32) (h : ∃ v1 M2, rp_C E YX6_sets [.ref 155] M (some v1) M2 ∧ ((v1 ≤ l3 → (post none M2)) ∧ (¬ v1 ≤ l3 → (∃ v5 M6, rp_C E YX6_isAllowed [.ref 155, .int l3] M2 (some v5) M6 ∧ (vp_in l3 4096 ∧ (vp_nar .boolean v5 = v5 ∧ (∀ M9, M9 = rp_s M6 162 (Int32.toNatClampNeg l3) v5 → (∃ v10 M11, rp_C E YX6_protectedWeight [.ref 155, .int l3, .int l1] M9 (some v10) M11 ∧ (∀ M13, M13 = rp_s M11 160 (Int32.toNatClampNeg l3) v10 → (∃ v14 M15, rp_C E YX6_protectedProfit [.ref 155, .int l3, .int l2] M13 (some v14) M15 ∧ (∀ M17, M17 = rp_s M15 161 (Int32.toNatClampNeg l3) v14 → (rp_G E YX6_layTables post 2 [.ref 155, .int l1, .int l2, .int (l3 + 1)] [] M17)))))))))))) : rp_G E YX6_layTables post 2 [.ref 155, .int l1, .int l2, .int l3] [] M := by
  refine ok_iload_n dX6_layTables_2 rfl rfl ?_
  refine ok_aload_n dX6_layTables_3 rfl rfl ?_
  obtain ⟨v1, M2, r3, h⟩ := h
  refine ok_callV2 dX6_layTables_4 kX6_layTables_132 r3 (by decide) rp_k155 rfl rfl (Nat.le_of_ble_eq_true rfl) ?_
  rintro _ _ ⟨rfl, rfl⟩
  refine ok_icmp_ge (tgt := 51) dX6_layTables_7 (by decide) (fun c4 => ?_) (fun c4 => ?_)
  · replace h := h.1 c4
    exact ok_return dX6_layTables_51 rfl h
  · replace h := h.2 c4
    refine ok_aload_n dX6_layTables_10 rfl rfl ?_
    refine ok_getR (j := 162) dX6_layTables_11 fX6_layTables_28 (by decide) rp_k155 rfl (by decide) ?_
    refine ok_iload_n dX6_layTables_14 rfl rfl ?_
    refine ok_aload_n dX6_layTables_15 rfl rfl ?_
    refine ok_iload_n dX6_layTables_16 rfl rfl ?_
    obtain ⟨v5, M6, r7, h⟩ := h
    refine ok_callV2 dX6_layTables_17 kX6_layTables_135 r7 (by decide) rp_k155 rfl rfl (Nat.le_of_ble_eq_true rfl) ?_
    rintro _ _ ⟨rfl, rfl⟩
    have b8 := h.1
    replace h := h.2
    refine ok_zastore dX6_layTables_20 (by decide) rp_k162 b8 rfl h.1 ?_
    replace h := h.2
    replace h := h _ rfl
    refine ok_aload_n dX6_layTables_21 rfl rfl ?_
    refine ok_getR (j := 160) dX6_layTables_22 fX6_layTables_22 (by decide) rp_k155 rfl (by decide) ?_
    refine ok_iload_n dX6_layTables_25 rfl rfl ?_
    refine ok_aload_n dX6_layTables_26 rfl rfl ?_
    refine ok_iload_n dX6_layTables_27 rfl rfl ?_
    refine ok_iload_n dX6_layTables_28 rfl rfl ?_
    obtain ⟨v10, M11, r12, h⟩ := h
    refine ok_callV2 dX6_layTables_29 kX6_layTables_138 r12 (by decide) rp_k155 rfl rfl (Nat.le_of_ble_eq_true rfl) ?_
    rintro _ _ ⟨rfl, rfl⟩
    refine ok_iastore dX6_layTables_32 (by decide) rp_k160 b8 rfl ?_
    replace h := h _ rfl
    refine ok_aload_n dX6_layTables_33 rfl rfl ?_
    refine ok_getR (j := 161) dX6_layTables_34 fX6_layTables_25 (by decide) rp_k155 rfl (by decide) ?_
    refine ok_iload_n dX6_layTables_37 rfl rfl ?_
    refine ok_aload_n dX6_layTables_38 rfl rfl ?_
    refine ok_iload_n dX6_layTables_39 rfl rfl ?_
    refine ok_iload_n dX6_layTables_40 rfl rfl ?_
    obtain ⟨v14, M15, r16, h⟩ := h
    refine ok_callV2 dX6_layTables_41 kX6_layTables_141 r16 (by decide) rp_k155 rfl rfl (Nat.le_of_ble_eq_true rfl) ?_
    rintro _ _ ⟨rfl, rfl⟩
    refine ok_iastore dX6_layTables_44 (by decide) rp_k161 b8 rfl ?_
    replace h := h _ rfl
    refine ok_iinc2 (w := 1) dX6_layTables_45 rfl (by decide) (by decide) rfl ?_
    refine ok_goto (tgt := 2) dX6_layTables_48 (by decide) ?_
    exact ok_mask [true, true, true, true] h
