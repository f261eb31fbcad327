theorem vX5_inRange (E : rp_E) (post : Option Int32 → rp_M → Prop) (M : rp_M) (l0 : Int32) (l1 : Int32) (h : vp_in l0 5 ∧ ((l1 < ((rp_sv 0).getD (Int32.toNatClampNeg l0) 0) → (post (some 0) M)) ∧ (¬ l1 < ((rp_sv 0).getD (Int32.toNatClampNeg l0) 0) → ((((rp_sv 1).getD (Int32.toNatClampNeg l0) 0) < l1 → (post (some 0) M)) ∧ (¬ ((rp_sv 1).getD (Int32.toNatClampNeg l0) 0) < l1 → (post (some 1) M)))))) : rp_Run E YX5_inRange [.int l0, .int l1] M post := by
  refine ok_start (by decide) oX5_inRange (Nat.le_of_ble_eq_true rfl) ?_
  refine ok_iload_n dX5_inRange_0 rfl rfl ?_
  refine ok_gets (j := 0) dX5_inRange_1 (by decide) fX5_inRange_270 ?_
  refine ok_iload_n dX5_inRange_4 rfl rfl ?_
  have b1 := h.1
  replace h := h.2
  refine ok_saload dX5_inRange_5 (by decide) b1 ?_
  refine ok_icmp_lt (tgt := 22) dX5_inRange_6 (by decide) (fun c2 => ?_) (fun c2 => ?_)
  · replace h := h.1 c2
    refine ok_iconst (v := 0) dX5_inRange_22 (by decide) ?_
    exact ok_zreturn dX5_inRange_23 rfl (by decide) h
  · replace h := h.2 c2
    refine ok_iload_n dX5_inRange_9 rfl rfl ?_
    refine ok_gets (j := 1) dX5_inRange_10 (by decide) fX5_inRange_273 ?_
    refine ok_iload_n dX5_inRange_13 rfl rfl ?_
    refine ok_saload dX5_inRange_14 (by decide) b1 ?_
    refine ok_icmp_gt (tgt := 22) dX5_inRange_15 (by decide) (fun c3 => ?_) (fun c3 => ?_)
    · replace h := h.1 c3
      refine ok_iconst (v := 0) dX5_inRange_22 (by decide) ?_
      exact ok_zreturn dX5_inRange_23 rfl (by decide) h
    · replace h := h.2 c3
      refine ok_iconst (v := 1) dX5_inRange_18 (by decide) ?_
      refine ok_goto (tgt := 23) dX5_inRange_19 (by decide) ?_
      exact ok_zreturn dX5_inRange_23 rfl (by decide) h
theorem vX5_remember (E : rp_E) (post : Option Int32 → rp_M → Prop) (M : rp_M)  (h : vp_in (M 154 3) 12 ∧ (∃ P4 : rp_M → Prop, rp_Run E YX4_copyFrom [.ref (10 * (1 + Int32.toNatClampNeg (M 154 3))), .ref 0] M (rp_P0 P4) ∧ (∀ M2, P4 M2 → ((¬ (M2 154 3) = 11 → (∀ M7, M7 = rp_s M2 154 3 ((M2 154 3) + 1) → (∀ M8, M8 = rp_s M7 154 2 (if 12 < ((M7 154 2) + 1) then 12 else ((M7 154 2) + 1)) → (∀ M9, M9 = rp_s M8 139 9 0 → (post none M9))))) ∧ ((M2 154 3) = 11 → (∀ M10, M10 = rp_s M2 154 3 0 → (∀ M11, M11 = rp_s M10 154 2 (if 12 < ((M10 154 2) + 1) then 12 else ((M10 154 2) + 1)) → (∀ M12, M12 = rp_s M11 139 9 0 → (post none M12))))))))) : rp_Run E YX5_remember [.ref 154] M post := by
  refine ok_start (by decide) oX5_remember (Nat.le_of_ble_eq_true rfl) ?_
  refine ok_aload_n dX5_remember_0 rfl rfl ?_
  refine ok_getR (j := 130) dX5_remember_1 fX5_remember_16 (by decide) rp_k154 rfl (by decide) ?_
  refine ok_aload_n dX5_remember_4 rfl rfl ?_
  refine ok_getI dX5_remember_5 fX5_remember_24 (by decide) rp_k154 rfl ?_
  have b1 := h.1
  replace h := h.2
  refine ok_hist dX5_remember_8 b1 ?_
  refine ok_aload_n dX5_remember_9 rfl rfl ?_
  refine ok_getR (j := 0) dX5_remember_10 fX5_remember_10 (by decide) rp_k154 rfl (by decide) ?_
  obtain ⟨P4, r3, h⟩ := h
  refine ok_callV2 dX5_remember_13 kX5_remember_257 r3 (by have := rp_b b1; omega) (rp_sh_st (rp_h12 b1)) rfl rfl (Nat.le_of_ble_eq_true rfl) ?_
  rintro _ M2 ⟨rfl, q5⟩
  replace h := h M2 q5
  refine ok_aload_n dX5_remember_16 rfl rfl ?_
  refine ok_aload_n dX5_remember_17 rfl rfl ?_
  refine ok_getI dX5_remember_18 fX5_remember_24 (by decide) rp_k154 rfl ?_
  refine ok_bipush (v := 11) dX5_remember_21 (by decide) ?_
  refine ok_icmp_ne (tgt := 30) dX5_remember_23 (by decide) (fun c6 => ?_) (fun c6 => ?_)
  · replace h := h.1 c6
    refine ok_aload_n dX5_remember_30 rfl rfl ?_
    refine ok_getI dX5_remember_31 fX5_remember_24 (by decide) rp_k154 rfl ?_
    refine ok_iconst (v := 1) dX5_remember_34 (by decide) ?_
    refine ok_iadd dX5_remember_35 ?_
    refine ok_put dX5_remember_36 pX5_remember_24 (by decide) rp_k154 rfl rfl rfl ?_
    replace h := h _ rfl
    refine ok_aload_n dX5_remember_39 rfl rfl ?_
    refine ok_aload_n dX5_remember_40 rfl rfl ?_
    refine ok_getI dX5_remember_41 fX5_remember_20 (by decide) rp_k154 rfl ?_
    refine ok_iconst (v := 1) dX5_remember_44 (by decide) ?_
    refine ok_iadd dX5_remember_45 ?_
    refine ok_bipush (v := 12) dX5_remember_46 (by decide) ?_
    refine ok_mmin dX5_remember_48 kX5_remember_265 (by decide) ?_
    refine ok_put dX5_remember_51 pX5_remember_20 (by decide) rp_k154 rfl rfl rfl ?_
    replace h := h _ rfl
    refine ok_aload_n dX5_remember_54 rfl rfl ?_
    refine ok_getR (j := 139) dX5_remember_55 fX5_remember_37 (by decide) rp_k154 rfl (by decide) ?_
    refine ok_iconst (v := 0) dX5_remember_58 (by decide) ?_
    refine ok_put dX5_remember_59 pX5_remember_191 (by decide) rp_k139 rfl (by decide) (by decide) ?_
    replace h := h _ rfl
    exact ok_return dX5_remember_62 rfl h
  · replace h := h.2 c6
    refine ok_iconst (v := 0) dX5_remember_26 (by decide) ?_
    refine ok_goto (tgt := 36) dX5_remember_27 (by decide) ?_
    refine ok_put dX5_remember_36 pX5_remember_24 (by decide) rp_k154 rfl rfl rfl ?_
    replace h := h _ rfl
    refine ok_aload_n dX5_remember_39 rfl rfl ?_
    refine ok_aload_n dX5_remember_40 rfl rfl ?_
    refine ok_getI dX5_remember_41 fX5_remember_20 (by decide) rp_k154 rfl ?_
    refine ok_iconst (v := 1) dX5_remember_44 (by decide) ?_
    refine ok_iadd dX5_remember_45 ?_
    refine ok_bipush (v := 12) dX5_remember_46 (by decide) ?_
    refine ok_mmin dX5_remember_48 kX5_remember_265 (by decide) ?_
    refine ok_put dX5_remember_51 pX5_remember_20 (by decide) rp_k154 rfl rfl rfl ?_
    replace h := h _ rfl
    refine ok_aload_n dX5_remember_54 rfl rfl ?_
    refine ok_getR (j := 139) dX5_remember_55 fX5_remember_37 (by decide) rp_k154 rfl (by decide) ?_
    refine ok_iconst (v := 0) dX5_remember_58 (by decide) ?_
    refine ok_put dX5_remember_59 pX5_remember_191 (by decide) rp_k139 rfl (by decide) (by decide) ?_
    replace h := h _ rfl
    exact ok_return dX5_remember_62 rfl h
theorem vX5_add (E : rp_E) (post : Option Int32 → rp_M → Prop) (M : rp_M) (l1 : Int32) (l2 : Int32) (l3 : Int32) (l4 : Int32) (h : ∃ v1 M2, rp_C E YX5_inRange [.int 0, .int l1] M (some v1) M2 ∧ ((v1 = 0 → (post (some (-2)) M2)) ∧ (¬ v1 = 0 → (∃ v5 M6, rp_C E YX5_inRange [.int 1, .int l2] M2 (some v5) M6 ∧ ((v5 = 0 → (post (some (-2)) M6)) ∧ (¬ v5 = 0 → (∃ v9 M10, rp_C E YX5_inRange [.int 2, .int l3] M6 (some v9) M10 ∧ ((v9 = 0 → (post (some (-2)) M10)) ∧ (¬ v9 = 0 → (∃ v13 M14, rp_C E YX5_inRange [.int 3, .int l4] M10 (some v13) M14 ∧ ((¬ v13 = 0 → (((M14 0 4) < 12 → (∃ P20 : rp_M → Prop, rp_Run E YX5_remember [.ref 154] M14 (rp_P0 P20) ∧ (∀ M18, P20 M18 → (∃ P24 : rp_M → Prop, rp_Run E YX4_append [.ref 0, .int l1, .int l2, .int l3, .int l4, .int (-1)] M18 (rp_P0 P24) ∧ (∀ M22, P24 M22 → (post (some ((M22 0 4) - 1)) M22)))))) ∧ (¬ (M14 0 4) < 12 → (post (some (-4)) M14)))) ∧ (v13 = 0 → (post (some (-2)) M14))))))))))))) : rp_Run E YX5_add [.ref 154, .int l1, .int l2, .int l3, .int l4] M post := by
  refine ok_start (by decide) oX5_add (Nat.le_of_ble_eq_true rfl) ?_
  refine ok_iconst (v := 0) dX5_add_0 (by decide) ?_
  refine ok_iload_n dX5_add_1 rfl rfl ?_
  obtain ⟨v1, M2, r3, h⟩ := h
  refine ok_callS2 dX5_add_2 kX5_add_55 r3 rfl rfl (Nat.le_of_ble_eq_true rfl) ?_
  rintro _ _ ⟨rfl, rfl⟩
  refine ok_if_eq (tgt := 33) dX5_add_5 (by decide) (fun c4 => ?_) (fun c4 => ?_)
  · replace h := h.1 c4
    refine ok_bipush (v := (-2)) dX5_add_33 (by decide) ?_
    exact ok_ireturn dX5_add_35 rfl h
  · replace h := h.2 c4
    refine ok_iconst (v := 1) dX5_add_8 (by decide) ?_
    refine ok_iload_n dX5_add_9 rfl rfl ?_
    obtain ⟨v5, M6, r7, h⟩ := h
    refine ok_callS2 dX5_add_10 kX5_add_55 r7 rfl rfl (Nat.le_of_ble_eq_true rfl) ?_
    rintro _ _ ⟨rfl, rfl⟩
    refine ok_if_eq (tgt := 33) dX5_add_13 (by decide) (fun c8 => ?_) (fun c8 => ?_)
    · replace h := h.1 c8
      refine ok_bipush (v := (-2)) dX5_add_33 (by decide) ?_
      exact ok_ireturn dX5_add_35 rfl h
    · replace h := h.2 c8
      refine ok_iconst (v := 2) dX5_add_16 (by decide) ?_
      refine ok_iload_n dX5_add_17 rfl rfl ?_
      obtain ⟨v9, M10, r11, h⟩ := h
      refine ok_callS2 dX5_add_18 kX5_add_55 r11 rfl rfl (Nat.le_of_ble_eq_true rfl) ?_
      rintro _ _ ⟨rfl, rfl⟩
      refine ok_if_eq (tgt := 33) dX5_add_21 (by decide) (fun c12 => ?_) (fun c12 => ?_)
      · replace h := h.1 c12
        refine ok_bipush (v := (-2)) dX5_add_33 (by decide) ?_
        exact ok_ireturn dX5_add_35 rfl h
      · replace h := h.2 c12
        refine ok_iconst (v := 3) dX5_add_24 (by decide) ?_
        refine ok_iload dX5_add_25 rfl ?_
        obtain ⟨v13, M14, r15, h⟩ := h
        refine ok_callS2 dX5_add_27 kX5_add_55 r15 rfl rfl (Nat.le_of_ble_eq_true rfl) ?_
        rintro _ _ ⟨rfl, rfl⟩
        refine ok_if_ne (tgt := 36) dX5_add_30 (by decide) (fun c16 => ?_) (fun c16 => ?_)
        · replace h := h.1 c16
          refine ok_aload_n dX5_add_36 rfl rfl ?_
          refine ok_getR (j := 0) dX5_add_37 fX5_add_10 (by decide) rp_k154 rfl (by decide) ?_
          refine ok_getI dX5_add_40 fX5_add_59 (by decide) rp_k0 rfl ?_
          refine ok_bipush (v := 12) dX5_add_43 (by decide) ?_
          refine ok_icmp_lt (tgt := 51) dX5_add_45 (by decide) (fun c17 => ?_) (fun c17 => ?_)
          · replace h := h.1 c17
            refine ok_aload_n dX5_add_51 rfl rfl ?_
            obtain ⟨P20, r19, h⟩ := h
            refine ok_callV2 dX5_add_52 kX5_add_62 r19 (by decide) rp_k154 rfl rfl (Nat.le_of_ble_eq_true rfl) ?_
            rintro _ M18 ⟨rfl, q21⟩
            replace h := h M18 q21
            refine ok_aload_n dX5_add_55 rfl rfl ?_
            refine ok_getR (j := 0) dX5_add_56 fX5_add_10 (by decide) rp_k154 rfl (by decide) ?_
            refine ok_iload_n dX5_add_59 rfl rfl ?_
            refine ok_iload_n dX5_add_60 rfl rfl ?_
            refine ok_iload_n dX5_add_61 rfl rfl ?_
            refine ok_iload dX5_add_62 rfl ?_
            refine ok_iconst (v := (-1)) dX5_add_64 (by decide) ?_
            obtain ⟨P24, r23, h⟩ := h
            refine ok_callV2 dX5_add_65 kX5_add_65 r23 (by decide) rp_k0 rfl rfl (Nat.le_of_ble_eq_true rfl) ?_
            rintro _ M22 ⟨rfl, q25⟩
            replace h := h M22 q25
            refine ok_aload_n dX5_add_68 rfl rfl ?_
            refine ok_getR (j := 0) dX5_add_69 fX5_add_10 (by decide) rp_k154 rfl (by decide) ?_
            refine ok_getI dX5_add_72 fX5_add_59 (by decide) rp_k0 rfl ?_
            refine ok_iconst (v := 1) dX5_add_75 (by decide) ?_
            refine ok_isub dX5_add_76 ?_
            exact ok_ireturn dX5_add_77 rfl h
          · replace h := h.2 c17
            refine ok_bipush (v := (-4)) dX5_add_48 (by decide) ?_
            exact ok_ireturn dX5_add_50 rfl h
        · replace h := h.2 c16
          refine ok_bipush (v := (-2)) dX5_add_33 (by decide) ?_
          exact ok_ireturn dX5_add_35 rfl h
theorem vX5_exists (E : rp_E) (post : Option Int32 → rp_M → Prop) (M : rp_M) (l1 : Int32) (h : (l1 < 0 → (post (some 0) M)) ∧ (¬ l1 < 0 → (((M 0 4) ≤ l1 → (post (some 0) M)) ∧ (¬ (M 0 4) ≤ l1 → (post (some 1) M))))) : rp_Run E YX5_exists [.ref 154, .int l1] M post := by
  refine ok_start (by decide) oX5_exists (Nat.le_of_ble_eq_true rfl) ?_
  refine ok_iload_n dX5_exists_0 rfl rfl ?_
  refine ok_if_lt (tgt := 19) dX5_exists_1 (by decide) (fun c1 => ?_) (fun c1 => ?_)
  · replace h := h.1 c1
    refine ok_iconst (v := 0) dX5_exists_19 (by decide) ?_
    exact ok_zreturn dX5_exists_20 rfl (by decide) h
  · replace h := h.2 c1
    refine ok_iload_n dX5_exists_4 rfl rfl ?_
    refine ok_aload_n dX5_exists_5 rfl rfl ?_
    refine ok_getR (j := 0) dX5_exists_6 fX5_exists_10 (by decide) rp_k154 rfl (by decide) ?_
    refine ok_getI dX5_exists_9 fX5_exists_59 (by decide) rp_k0 rfl ?_
    refine ok_icmp_ge (tgt := 19) dX5_exists_12 (by decide) (fun c2 => ?_) (fun c2 => ?_)
    · replace h := h.1 c2
      refine ok_iconst (v := 0) dX5_exists_19 (by decide) ?_
      exact ok_zreturn dX5_exists_20 rfl (by decide) h
    · replace h := h.2 c2
      refine ok_iconst (v := 1) dX5_exists_15 (by decide) ?_
      refine ok_goto (tgt := 20) dX5_exists_16 (by decide) ?_
      exact ok_zreturn dX5_exists_20 rfl (by decide) h
theorem vX5_remove (E : rp_E) (post : Option Int32 → rp_M → Prop) (M : rp_M) (l1 : Int32) (h : ∃ v1 M2, rp_C E YX5_exists [.ref 154, .int l1] M (some v1) M2 ∧ ((¬ v1 = 0 → (∃ P7 : rp_M → Prop, rp_Run E YX5_remember [.ref 154] M2 (rp_P0 P7) ∧ (∀ M5, P7 M5 → (∃ P11 : rp_M → Prop, rp_Run E YX4_takeOut [.ref 0, .int l1] M5 (rp_P0 P11) ∧ (∀ M9, P11 M9 → (post (some (M9 0 4)) M9)))))) ∧ (v1 = 0 → (post (some (-1)) M2)))) : rp_Run E YX5_remove [.ref 154, .int l1] M post := by
  refine ok_start (by decide) oX5_remove (Nat.le_of_ble_eq_true rfl) ?_
  refine ok_aload_n dX5_remove_0 rfl rfl ?_
  refine ok_iload_n dX5_remove_1 rfl rfl ?_
  obtain ⟨v1, M2, r3, h⟩ := h
  refine ok_callV2 dX5_remove_2 kX5_remove_69 r3 (by decide) rp_k154 rfl rfl (Nat.le_of_ble_eq_true rfl) ?_
  rintro _ _ ⟨rfl, rfl⟩
  refine ok_if_ne (tgt := 10) dX5_remove_5 (by decide) (fun c4 => ?_) (fun c4 => ?_)
  · replace h := h.1 c4
    refine ok_aload_n dX5_remove_10 rfl rfl ?_
    obtain ⟨P7, r6, h⟩ := h
    refine ok_callV2 dX5_remove_11 kX5_remove_62 r6 (by decide) rp_k154 rfl rfl (Nat.le_of_ble_eq_true rfl) ?_
    rintro _ M5 ⟨rfl, q8⟩
    replace h := h M5 q8
    refine ok_aload_n dX5_remove_14 rfl rfl ?_
    refine ok_getR (j := 0) dX5_remove_15 fX5_remove_10 (by decide) rp_k154 rfl (by decide) ?_
    refine ok_iload_n dX5_remove_18 rfl rfl ?_
    obtain ⟨P11, r10, h⟩ := h
    refine ok_callV2 dX5_remove_19 kX5_remove_73 r10 (by decide) rp_k0 rfl rfl (Nat.le_of_ble_eq_true rfl) ?_
    rintro _ M9 ⟨rfl, q12⟩
    replace h := h M9 q12
    refine ok_aload_n dX5_remove_22 rfl rfl ?_
    refine ok_getR (j := 0) dX5_remove_23 fX5_remove_10 (by decide) rp_k154 rfl (by decide) ?_
    refine ok_getI dX5_remove_26 fX5_remove_59 (by decide) rp_k0 rfl ?_
    exact ok_ireturn dX5_remove_29 rfl h
  · replace h := h.2 c4
    refine ok_iconst (v := (-1)) dX5_remove_8 (by decide) ?_
    exact ok_ireturn dX5_remove_9 rfl h
theorem vX5_propertyOf (E : rp_E) (post : Option Int32 → rp_M → Prop) (M : rp_M) (l1 : Int32) (l2 : Int32) (h : vp_in l2 5 ∧ (vp_in l1 12 ∧ ((¬ l2 = 4 → (post (some (M (2 + Int32.toNatClampNeg l2) (Int32.toNatClampNeg l1))) M)) ∧ (l2 = 4 → ((¬ (M (2 + Int32.toNatClampNeg l2) (Int32.toNatClampNeg l1)) = (-1) → (post (some (M (2 + Int32.toNatClampNeg l2) (Int32.toNatClampNeg l1))) M)) ∧ ((M (2 + Int32.toNatClampNeg l2) (Int32.toNatClampNeg l1)) = (-1) → (post (some (-6)) M))))))) : rp_Run E YX5_propertyOf [.ref 154, .int l1, .int l2] M post := by
  refine ok_start (by decide) oX5_propertyOf (Nat.le_of_ble_eq_true rfl) ?_
  refine ok_aload_n dX5_propertyOf_0 rfl rfl ?_
  refine ok_getR (j := 0) dX5_propertyOf_1 fX5_propertyOf_10 (by decide) rp_k154 rfl (by decide) ?_
  refine ok_getR (j := 1) dX5_propertyOf_4 fX5_propertyOf_81 (by decide) rp_k0 rfl (by decide) ?_
  refine ok_iload_n dX5_propertyOf_7 rfl rfl ?_
  have b1 := h.1
  replace h := h.2
  refine ok_prop0 dX5_propertyOf_8 b1 ?_
  refine ok_iload_n dX5_propertyOf_9 rfl rfl ?_
  have b2 := h.1
  replace h := h.2
  refine ok_iaload dX5_propertyOf_10 (by have := rp_b b1; omega) (rp_sh_p0 (rp_b b1)) b2 rfl ?_
  refine ok_istore_n dX5_propertyOf_11 rfl (by decide) rfl ?_
  refine ok_iload_n dX5_propertyOf_12 rfl rfl ?_
  refine ok_iconst (v := 4) dX5_propertyOf_13 (by decide) ?_
  refine ok_icmp_ne (tgt := 27) dX5_propertyOf_14 (by decide) (fun c3 => ?_) (fun c3 => ?_)
  · replace h := h.1 c3
    refine ok_iload_n dX5_propertyOf_27 rfl rfl ?_
    exact ok_ireturn dX5_propertyOf_28 rfl h
  · replace h := h.2 c3
    refine ok_iload_n dX5_propertyOf_17 rfl rfl ?_
    refine ok_iconst (v := (-1)) dX5_propertyOf_18 (by decide) ?_
    refine ok_icmp_ne (tgt := 27) dX5_propertyOf_19 (by decide) (fun c4 => ?_) (fun c4 => ?_)
    · replace h := h.1 c4
      refine ok_iload_n dX5_propertyOf_27 rfl rfl ?_
      exact ok_ireturn dX5_propertyOf_28 rfl h
    · replace h := h.2 c4
      refine ok_bipush (v := (-6)) dX5_propertyOf_22 (by decide) ?_
      refine ok_goto (tgt := 28) dX5_propertyOf_24 (by decide) ?_
      exact ok_ireturn dX5_propertyOf_28 rfl h
theorem vX5_set (E : rp_E) (post : Option Int32 → rp_M → Prop) (M : rp_M) (l1 : Int32) (l2 : Int32) (l3 : Int32) (h : ∃ v1 M2, rp_C E YX5_exists [.ref 154, .int l1] M (some v1) M2 ∧ ((¬ v1 = 0 → ((l2 < 0 → (post (some (-2)) M2)) ∧ (¬ l2 < 0 → ((5 ≤ l2 → (post (some (-2)) M2)) ∧ (¬ 5 ≤ l2 → (∃ v7 M8, rp_C E YX5_inRange [.int l2, .int l3] M2 (some v7) M8 ∧ ((¬ v7 = 0 → (∃ v11 M12, rp_C E YX5_propertyOf [.ref 154, .int l1, .int l2] M8 (some v11) M12 ∧ (∃ P16 : rp_M → Prop, rp_Run E YX5_remember [.ref 154] M12 (rp_P0 P16) ∧ (∀ M14, P16 M14 → (vp_in l2 5 ∧ (vp_in l1 12 ∧ (∀ M20, M20 = rp_s M14 (2 + Int32.toNatClampNeg l2) (Int32.toNatClampNeg l1) l3 → (post (some v11) M20)))))))) ∧ (v7 = 0 → (post (some (-2)) M8))))))))) ∧ (v1 = 0 → (post (some (-1)) M2)))) : rp_Run E YX5_set [.ref 154, .int l1, .int l2, .int l3] M post := by
  refine ok_start (by decide) oX5_set (Nat.le_of_ble_eq_true rfl) ?_
  refine ok_aload_n dX5_set_0 rfl rfl ?_
  refine ok_iload_n dX5_set_1 rfl rfl ?_
  obtain ⟨v1, M2, r3, h⟩ := h
  refine ok_callV2 dX5_set_2 kX5_set_69 r3 (by decide) rp_k154 rfl rfl (Nat.le_of_ble_eq_true rfl) ?_
  rintro _ _ ⟨rfl, rfl⟩
  refine ok_if_ne (tgt := 10) dX5_set_5 (by decide) (fun c4 => ?_) (fun c4 => ?_)
  · replace h := h.1 c4
    refine ok_iload_n dX5_set_10 rfl rfl ?_
    refine ok_if_lt (tgt := 27) dX5_set_11 (by decide) (fun c5 => ?_) (fun c5 => ?_)
    · replace h := h.1 c5
      refine ok_bipush (v := (-2)) dX5_set_27 (by decide) ?_
      exact ok_ireturn dX5_set_29 rfl h
    · replace h := h.2 c5
      refine ok_iload_n dX5_set_14 rfl rfl ?_
      refine ok_iconst (v := 5) dX5_set_15 (by decide) ?_
      refine ok_icmp_ge (tgt := 27) dX5_set_16 (by decide) (fun c6 => ?_) (fun c6 => ?_)
      · replace h := h.1 c6
        refine ok_bipush (v := (-2)) dX5_set_27 (by decide) ?_
        exact ok_ireturn dX5_set_29 rfl h
      · replace h := h.2 c6
        refine ok_iload_n dX5_set_19 rfl rfl ?_
        refine ok_iload_n dX5_set_20 rfl rfl ?_
        obtain ⟨v7, M8, r9, h⟩ := h
        refine ok_callS2 dX5_set_21 kX5_set_55 r9 rfl rfl (Nat.le_of_ble_eq_true rfl) ?_
        rintro _ _ ⟨rfl, rfl⟩
        refine ok_if_ne (tgt := 30) dX5_set_24 (by decide) (fun c10 => ?_) (fun c10 => ?_)
        · replace h := h.1 c10
          refine ok_aload_n dX5_set_30 rfl rfl ?_
          refine ok_iload_n dX5_set_31 rfl rfl ?_
          refine ok_iload_n dX5_set_32 rfl rfl ?_
          obtain ⟨v11, M12, r13, h⟩ := h
          refine ok_callV2 dX5_set_33 kX5_set_77 r13 (by decide) rp_k154 rfl rfl (Nat.le_of_ble_eq_true rfl) ?_
          rintro _ _ ⟨rfl, rfl⟩
          refine ok_istore dX5_set_36 (by decide) rfl ?_
          refine ok_aload_n dX5_set_38 rfl rfl ?_
          obtain ⟨P16, r15, h⟩ := h
          refine ok_callV2 dX5_set_39 kX5_set_62 r15 (by decide) rp_k154 rfl rfl (Nat.le_of_ble_eq_true rfl) ?_
          rintro _ M14 ⟨rfl, q17⟩
          replace h := h M14 q17
          refine ok_aload_n dX5_set_42 rfl rfl ?_
          refine ok_getR (j := 0) dX5_set_43 fX5_set_10 (by decide) rp_k154 rfl (by decide) ?_
          refine ok_getR (j := 1) dX5_set_46 fX5_set_81 (by decide) rp_k0 rfl (by decide) ?_
          refine ok_iload_n dX5_set_49 rfl rfl ?_
          have b18 := h.1
          replace h := h.2
          refine ok_prop0 dX5_set_50 b18 ?_
          refine ok_iload_n dX5_set_51 rfl rfl ?_
          refine ok_iload_n dX5_set_52 rfl rfl ?_
          have b19 := h.1
          replace h := h.2
          refine ok_iastore dX5_set_53 (by have := rp_b b18; omega) (rp_sh_p0 (rp_b b18)) b19 rfl ?_
          replace h := h _ rfl
          refine ok_iload dX5_set_54 rfl ?_
          exact ok_ireturn dX5_set_56 rfl h
        · replace h := h.2 c10
          refine ok_bipush (v := (-2)) dX5_set_27 (by decide) ?_
          exact ok_ireturn dX5_set_29 rfl h
  · replace h := h.2 c4
    refine ok_iconst (v := (-1)) dX5_set_8 (by decide) ?_
    exact ok_ireturn dX5_set_9 rfl h
theorem vX5_item (E : rp_E) (post : Option Int32 → rp_M → Prop) (M : rp_M) (l1 : Int32) (l2 : Int32) (h : ∃ v1 M2, rp_C E YX5_exists [.ref 154, .int l1] M (some v1) M2 ∧ ((¬ v1 = 0 → ((l2 < 0 → ((¬ l2 = 5 → ((¬ l2 = 6 → ((¬ l2 = 7 → (post (some (-2)) M2)) ∧ (l2 = 7 → (∃ v9 M10, rp_C E YX4_neededBy [.ref 0, .int l1] M2 (some v9) M10 ∧ (post (some v9) M10))))) ∧ (l2 = 6 → (vp_in l1 12 ∧ (post (some (M2 8 (Int32.toNatClampNeg l1))) M2))))) ∧ (l2 = 5 → (vp_in l1 12 ∧ (post (some (M2 7 (Int32.toNatClampNeg l1))) M2))))) ∧ (¬ l2 < 0 → ((5 ≤ l2 → ((¬ l2 = 5 → ((¬ l2 = 6 → ((¬ l2 = 7 → (post (some (-2)) M2)) ∧ (l2 = 7 → (∃ v18 M19, rp_C E YX4_neededBy [.ref 0, .int l1] M2 (some v18) M19 ∧ (post (some v18) M19))))) ∧ (l2 = 6 → (vp_in l1 12 ∧ (post (some (M2 8 (Int32.toNatClampNeg l1))) M2))))) ∧ (l2 = 5 → (vp_in l1 12 ∧ (post (some (M2 7 (Int32.toNatClampNeg l1))) M2))))) ∧ (¬ 5 ≤ l2 → (∃ v23 M24, rp_C E YX5_propertyOf [.ref 154, .int l1, .int l2] M2 (some v23) M24 ∧ (post (some v23) M24))))))) ∧ (v1 = 0 → (post (some (-1)) M2)))) : rp_Run E YX5_item [.ref 154, .int l1, .int l2] M post := by
  refine ok_start (by decide) oX5_item (Nat.le_of_ble_eq_true rfl) ?_
  refine ok_aload_n dX5_item_0 rfl rfl ?_
  refine ok_iload_n dX5_item_1 rfl rfl ?_
  obtain ⟨v1, M2, r3, h⟩ := h
  refine ok_callV2 dX5_item_2 kX5_item_69 r3 (by decide) rp_k154 rfl rfl (Nat.le_of_ble_eq_true rfl) ?_
  rintro _ _ ⟨rfl, rfl⟩
  refine ok_if_ne (tgt := 10) dX5_item_5 (by decide) (fun c4 => ?_) (fun c4 => ?_)
  · replace h := h.1 c4
    refine ok_iload_n dX5_item_10 rfl rfl ?_
    refine ok_if_lt (tgt := 26) dX5_item_11 (by decide) (fun c5 => ?_) (fun c5 => ?_)
    · replace h := h.1 c5
      refine ok_iload_n dX5_item_26 rfl rfl ?_
      refine ok_iconst (v := 5) dX5_item_27 (by decide) ?_
      refine ok_icmp_ne (tgt := 41) dX5_item_28 (by decide) (fun c6 => ?_) (fun c6 => ?_)
      · replace h := h.1 c6
        refine ok_iload_n dX5_item_41 rfl rfl ?_
        refine ok_bipush (v := 6) dX5_item_42 (by decide) ?_
        refine ok_icmp_ne (tgt := 57) dX5_item_44 (by decide) (fun c7 => ?_) (fun c7 => ?_)
        · replace h := h.1 c7
          refine ok_iload_n dX5_item_57 rfl rfl ?_
          refine ok_bipush (v := 7) dX5_item_58 (by decide) ?_
          refine ok_icmp_ne (tgt := 72) dX5_item_60 (by decide) (fun c8 => ?_) (fun c8 => ?_)
          · replace h := h.1 c8
            refine ok_bipush (v := (-2)) dX5_item_72 (by decide) ?_
            exact ok_ireturn dX5_item_74 rfl h
          · replace h := h.2 c8
            refine ok_aload_n dX5_item_63 rfl rfl ?_
            refine ok_getR (j := 0) dX5_item_64 fX5_item_10 (by decide) rp_k154 rfl (by decide) ?_
            refine ok_iload_n dX5_item_67 rfl rfl ?_
            obtain ⟨v9, M10, r11, h⟩ := h
            refine ok_callV2 dX5_item_68 kX5_item_92 r11 (by decide) rp_k0 rfl rfl (Nat.le_of_ble_eq_true rfl) ?_
            rintro _ _ ⟨rfl, rfl⟩
            exact ok_ireturn dX5_item_71 rfl h
        · replace h := h.2 c7
          refine ok_aload_n dX5_item_47 rfl rfl ?_
          refine ok_getR (j := 0) dX5_item_48 fX5_item_10 (by decide) rp_k154 rfl (by decide) ?_
          refine ok_getR (j := 8) dX5_item_51 fX5_item_89 (by decide) rp_k0 rfl (by decide) ?_
          refine ok_iload_n dX5_item_54 rfl rfl ?_
          have b12 := h.1
          replace h := h.2
          refine ok_iaload dX5_item_55 (by decide) rp_k8 b12 rfl ?_
          exact ok_ireturn dX5_item_56 rfl h
      · replace h := h.2 c6
        refine ok_aload_n dX5_item_31 rfl rfl ?_
        refine ok_getR (j := 0) dX5_item_32 fX5_item_10 (by decide) rp_k154 rfl (by decide) ?_
        refine ok_getR (j := 7) dX5_item_35 fX5_item_85 (by decide) rp_k0 rfl (by decide) ?_
        refine ok_iload_n dX5_item_38 rfl rfl ?_
        have b13 := h.1
        replace h := h.2
        refine ok_iaload dX5_item_39 (by decide) rp_k7 b13 rfl ?_
        exact ok_ireturn dX5_item_40 rfl h
    · replace h := h.2 c5
      refine ok_iload_n dX5_item_14 rfl rfl ?_
      refine ok_iconst (v := 5) dX5_item_15 (by decide) ?_
      refine ok_icmp_ge (tgt := 26) dX5_item_16 (by decide) (fun c14 => ?_) (fun c14 => ?_)
      · replace h := h.1 c14
        refine ok_iload_n dX5_item_26 rfl rfl ?_
        refine ok_iconst (v := 5) dX5_item_27 (by decide) ?_
        refine ok_icmp_ne (tgt := 41) dX5_item_28 (by decide) (fun c15 => ?_) (fun c15 => ?_)
        · replace h := h.1 c15
          refine ok_iload_n dX5_item_41 rfl rfl ?_
          refine ok_bipush (v := 6) dX5_item_42 (by decide) ?_
          refine ok_icmp_ne (tgt := 57) dX5_item_44 (by decide) (fun c16 => ?_) (fun c16 => ?_)
          · replace h := h.1 c16
            refine ok_iload_n dX5_item_57 rfl rfl ?_
            refine ok_bipush (v := 7) dX5_item_58 (by decide) ?_
            refine ok_icmp_ne (tgt := 72) dX5_item_60 (by decide) (fun c17 => ?_) (fun c17 => ?_)
            · replace h := h.1 c17
              refine ok_bipush (v := (-2)) dX5_item_72 (by decide) ?_
              exact ok_ireturn dX5_item_74 rfl h
            · replace h := h.2 c17
              refine ok_aload_n dX5_item_63 rfl rfl ?_
              refine ok_getR (j := 0) dX5_item_64 fX5_item_10 (by decide) rp_k154 rfl (by decide) ?_
              refine ok_iload_n dX5_item_67 rfl rfl ?_
              obtain ⟨v18, M19, r20, h⟩ := h
              refine ok_callV2 dX5_item_68 kX5_item_92 r20 (by decide) rp_k0 rfl rfl (Nat.le_of_ble_eq_true rfl) ?_
              rintro _ _ ⟨rfl, rfl⟩
              exact ok_ireturn dX5_item_71 rfl h
          · replace h := h.2 c16
            refine ok_aload_n dX5_item_47 rfl rfl ?_
            refine ok_getR (j := 0) dX5_item_48 fX5_item_10 (by decide) rp_k154 rfl (by decide) ?_
            refine ok_getR (j := 8) dX5_item_51 fX5_item_89 (by decide) rp_k0 rfl (by decide) ?_
            refine ok_iload_n dX5_item_54 rfl rfl ?_
            have b21 := h.1
            replace h := h.2
            refine ok_iaload dX5_item_55 (by decide) rp_k8 b21 rfl ?_
            exact ok_ireturn dX5_item_56 rfl h
        · replace h := h.2 c15
          refine ok_aload_n dX5_item_31 rfl rfl ?_
          refine ok_getR (j := 0) dX5_item_32 fX5_item_10 (by decide) rp_k154 rfl (by decide) ?_
          refine ok_getR (j := 7) dX5_item_35 fX5_item_85 (by decide) rp_k0 rfl (by decide) ?_
          refine ok_iload_n dX5_item_38 rfl rfl ?_
          have b22 := h.1
          replace h := h.2
          refine ok_iaload dX5_item_39 (by decide) rp_k7 b22 rfl ?_
          exact ok_ireturn dX5_item_40 rfl h
      · replace h := h.2 c14
        refine ok_aload_n dX5_item_19 rfl rfl ?_
        refine ok_iload_n dX5_item_20 rfl rfl ?_
        refine ok_iload_n dX5_item_21 rfl rfl ?_
        obtain ⟨v23, M24, r25, h⟩ := h
        refine ok_callV2 dX5_item_22 kX5_item_77 r25 (by decide) rp_k154 rfl rfl (Nat.le_of_ble_eq_true rfl) ?_
        rintro _ _ ⟨rfl, rfl⟩
        exact ok_ireturn dX5_item_25 rfl h
  · replace h := h.2 c4
    refine ok_iconst (v := (-1)) dX5_item_8 (by decide) ?_
    exact ok_ireturn dX5_item_9 rfl h
theorem vX5_pairError (E : rp_E) (post : Option Int32 → rp_M → Prop) (M : rp_M) (l1 : Int32) (l2 : Int32) (h : ∃ v1 M2, rp_C E YX5_exists [.ref 154, .int l1] M (some v1) M2 ∧ ((v1 = 0 → (post (some (-1)) M2)) ∧ (¬ v1 = 0 → (∃ v5 M6, rp_C E YX5_exists [.ref 154, .int l2] M2 (some v5) M6 ∧ ((¬ v5 = 0 → ((¬ l1 = l2 → (post (some 0) M6)) ∧ (l1 = l2 → (post (some (-2)) M6)))) ∧ (v5 = 0 → (post (some (-1)) M6))))))) : rp_Run E YX5_pairError [.ref 154, .int l1, .int l2] M post := by
  refine ok_start (by decide) oX5_pairError (Nat.le_of_ble_eq_true rfl) ?_
  refine ok_aload_n dX5_pairError_0 rfl rfl ?_
  refine ok_iload_n dX5_pairError_1 rfl rfl ?_
  obtain ⟨v1, M2, r3, h⟩ := h
  refine ok_callV2 dX5_pairError_2 kX5_pairError_69 r3 (by decide) rp_k154 rfl rfl (Nat.le_of_ble_eq_true rfl) ?_
  rintro _ _ ⟨rfl, rfl⟩
  refine ok_if_eq (tgt := 16) dX5_pairError_5 (by decide) (fun c4 => ?_) (fun c4 => ?_)
  · replace h := h.1 c4
    refine ok_iconst (v := (-1)) dX5_pairError_16 (by decide) ?_
    exact ok_ireturn dX5_pairError_17 rfl h
  · replace h := h.2 c4
    refine ok_aload_n dX5_pairError_8 rfl rfl ?_
    refine ok_iload_n dX5_pairError_9 rfl rfl ?_
    obtain ⟨v5, M6, r7, h⟩ := h
    refine ok_callV2 dX5_pairError_10 kX5_pairError_69 r7 (by decide) rp_k154 rfl rfl (Nat.le_of_ble_eq_true rfl) ?_
    rintro _ _ ⟨rfl, rfl⟩
    refine ok_if_ne (tgt := 18) dX5_pairError_13 (by decide) (fun c8 => ?_) (fun c8 => ?_)
    · replace h := h.1 c8
      refine ok_iload_n dX5_pairError_18 rfl rfl ?_
      refine ok_iload_n dX5_pairError_19 rfl rfl ?_
      refine ok_icmp_ne (tgt := 28) dX5_pairError_20 (by decide) (fun c9 => ?_) (fun c9 => ?_)
      · replace h := h.1 c9
        refine ok_iconst (v := 0) dX5_pairError_28 (by decide) ?_
        exact ok_ireturn dX5_pairError_29 rfl h
      · replace h := h.2 c9
        refine ok_bipush (v := (-2)) dX5_pairError_23 (by decide) ?_
        refine ok_goto (tgt := 29) dX5_pairError_25 (by decide) ?_
        exact ok_ireturn dX5_pairError_29 rfl h
    · replace h := h.2 c8
      refine ok_iconst (v := (-1)) dX5_pairError_16 (by decide) ?_
      exact ok_ireturn dX5_pairError_17 rfl h
theorem vX5_conflict (E : rp_E) (post : Option Int32 → rp_M → Prop) (M : rp_M) (l1 : Int32) (l2 : Int32) (h : ∃ v1 M2, rp_C E YX5_pairError [.ref 154, .int l1, .int l2] M (some v1) M2 ∧ ((v1 = 0 → (∃ P7 : rp_M → Prop, rp_Run E YX5_remember [.ref 154] M2 (rp_P0 P7) ∧ (∀ M5, P7 M5 → (vp_in l1 12 ∧ (∀ M10, M10 = rp_s M5 7 (Int32.toNatClampNeg l1) ((M5 7 (Int32.toNatClampNeg l1)) ^^^ ((1 : Int32) <<< (l2 &&& 31) : Int32)) → (vp_in l2 12 ∧ (∀ M12, M12 = rp_s M10 7 (Int32.toNatClampNeg l2) ((M10 7 (Int32.toNatClampNeg l2)) ^^^ ((1 : Int32) <<< (l1 &&& 31) : Int32)) → (post (some (((M12 7 (Int32.toNatClampNeg l1)) >>> (l2 &&& 31) : Int32) &&& 1)) M12)))))))) ∧ (¬ v1 = 0 → (post (some v1) M2)))) : rp_Run E YX5_conflict [.ref 154, .int l1, .int l2] M post := by
  refine ok_start (by decide) oX5_conflict (Nat.le_of_ble_eq_true rfl) ?_
  refine ok_aload_n dX5_conflict_0 rfl rfl ?_
  refine ok_iload_n dX5_conflict_1 rfl rfl ?_
  refine ok_iload_n dX5_conflict_2 rfl rfl ?_
  obtain ⟨v1, M2, r3, h⟩ := h
  refine ok_callV2 dX5_conflict_3 kX5_conflict_96 r3 (by decide) rp_k154 rfl rfl (Nat.le_of_ble_eq_true rfl) ?_
  rintro _ _ ⟨rfl, rfl⟩
  refine ok_istore_n dX5_conflict_6 rfl (by decide) rfl ?_
  refine ok_iload_n dX5_conflict_7 rfl rfl ?_
  refine ok_if_eq (tgt := 13) dX5_conflict_8 (by decide) (fun c4 => ?_) (fun c4 => ?_)
  · replace h := h.1 c4
    refine ok_aload_n dX5_conflict_13 rfl rfl ?_
    obtain ⟨P7, r6, h⟩ := h
    refine ok_callV2 dX5_conflict_14 kX5_conflict_62 r6 (by decide) rp_k154 rfl rfl (Nat.le_of_ble_eq_true rfl) ?_
    rintro _ M5 ⟨rfl, q8⟩
    replace h := h M5 q8
    refine ok_aload_n dX5_conflict_17 rfl rfl ?_
    refine ok_getR (j := 0) dX5_conflict_18 fX5_conflict_10 (by decide) rp_k154 rfl (by decide) ?_
    refine ok_getR (j := 7) dX5_conflict_21 fX5_conflict_85 (by decide) rp_k0 rfl (by decide) ?_
    refine ok_iload_n dX5_conflict_24 rfl rfl ?_
    refine ok_dup2 dX5_conflict_25 rfl rfl ?_
    have b9 := h.1
    replace h := h.2
    refine ok_iaload dX5_conflict_26 (by decide) rp_k7 b9 rfl ?_
    refine ok_iconst (v := 1) dX5_conflict_27 (by decide) ?_
    refine ok_iload_n dX5_conflict_28 rfl rfl ?_
    refine ok_ishl dX5_conflict_29 ?_
    refine ok_ixor dX5_conflict_30 ?_
    refine ok_iastore dX5_conflict_31 (by decide) rp_k7 b9 rfl ?_
    replace h := h _ rfl
    refine ok_aload_n dX5_conflict_32 rfl rfl ?_
    refine ok_getR (j := 0) dX5_conflict_33 fX5_conflict_10 (by decide) rp_k154 rfl (by decide) ?_
    refine ok_getR (j := 7) dX5_conflict_36 fX5_conflict_85 (by decide) rp_k0 rfl (by decide) ?_
    refine ok_iload_n dX5_conflict_39 rfl rfl ?_
    refine ok_dup2 dX5_conflict_40 rfl rfl ?_
    have b11 := h.1
    replace h := h.2
    refine ok_iaload dX5_conflict_41 (by decide) rp_k7 b11 rfl ?_
    refine ok_iconst (v := 1) dX5_conflict_42 (by decide) ?_
    refine ok_iload_n dX5_conflict_43 rfl rfl ?_
    refine ok_ishl dX5_conflict_44 ?_
    refine ok_ixor dX5_conflict_45 ?_
    refine ok_iastore dX5_conflict_46 (by decide) rp_k7 b11 rfl ?_
    replace h := h _ rfl
    refine ok_aload_n dX5_conflict_47 rfl rfl ?_
    refine ok_getR (j := 0) dX5_conflict_48 fX5_conflict_10 (by decide) rp_k154 rfl (by decide) ?_
    refine ok_getR (j := 7) dX5_conflict_51 fX5_conflict_85 (by decide) rp_k0 rfl (by decide) ?_
    refine ok_iload_n dX5_conflict_54 rfl rfl ?_
    refine ok_iaload dX5_conflict_55 (by decide) rp_k7 b9 rfl ?_
    refine ok_iload_n dX5_conflict_56 rfl rfl ?_
    refine ok_ishr dX5_conflict_57 ?_
    refine ok_iconst (v := 1) dX5_conflict_58 (by decide) ?_
    refine ok_iand dX5_conflict_59 ?_
    exact ok_ireturn dX5_conflict_60 rfl h
  · replace h := h.2 c4
    refine ok_iload_n dX5_conflict_11 rfl rfl ?_
    exact ok_ireturn dX5_conflict_12 rfl h
theorem vX5_need (E : rp_E) (post : Option Int32 → rp_M → Prop) (M : rp_M) (l1 : Int32) (l2 : Int32) (h : ∃ v1 M2, rp_C E YX5_pairError [.ref 154, .int l1, .int l2] M (some v1) M2 ∧ ((v1 = 0 → (∃ P7 : rp_M → Prop, rp_Run E YX5_remember [.ref 154] M2 (rp_P0 P7) ∧ (∀ M5, P7 M5 → (vp_in l1 12 ∧ (∀ M10, M10 = rp_s M5 8 (Int32.toNatClampNeg l1) ((M5 8 (Int32.toNatClampNeg l1)) ^^^ ((1 : Int32) <<< (l2 &&& 31) : Int32)) → (post (some (((M10 8 (Int32.toNatClampNeg l1)) >>> (l2 &&& 31) : Int32) &&& 1)) M10)))))) ∧ (¬ v1 = 0 → (post (some v1) M2)))) : rp_Run E YX5_need [.ref 154, .int l1, .int l2] M post := by
  refine ok_start (by decide) oX5_need (Nat.le_of_ble_eq_true rfl) ?_
  refine ok_aload_n dX5_need_0 rfl rfl ?_
  refine ok_iload_n dX5_need_1 rfl rfl ?_
  refine ok_iload_n dX5_need_2 rfl rfl ?_
  obtain ⟨v1, M2, r3, h⟩ := h
  refine ok_callV2 dX5_need_3 kX5_need_96 r3 (by decide) rp_k154 rfl rfl (Nat.le_of_ble_eq_true rfl) ?_
  rintro _ _ ⟨rfl, rfl⟩
  refine ok_istore_n dX5_need_6 rfl (by decide) rfl ?_
  refine ok_iload_n dX5_need_7 rfl rfl ?_
  refine ok_if_eq (tgt := 13) dX5_need_8 (by decide) (fun c4 => ?_) (fun c4 => ?_)
  · replace h := h.1 c4
    refine ok_aload_n dX5_need_13 rfl rfl ?_
    obtain ⟨P7, r6, h⟩ := h
    refine ok_callV2 dX5_need_14 kX5_need_62 r6 (by decide) rp_k154 rfl rfl (Nat.le_of_ble_eq_true rfl) ?_
    rintro _ M5 ⟨rfl, q8⟩
    replace h := h M5 q8
    refine ok_aload_n dX5_need_17 rfl rfl ?_
    refine ok_getR (j := 0) dX5_need_18 fX5_need_10 (by decide) rp_k154 rfl (by decide) ?_
    refine ok_getR (j := 8) dX5_need_21 fX5_need_89 (by decide) rp_k0 rfl (by decide) ?_
    refine ok_iload_n dX5_need_24 rfl rfl ?_
    refine ok_dup2 dX5_need_25 rfl rfl ?_
    have b9 := h.1
    replace h := h.2
    refine ok_iaload dX5_need_26 (by decide) rp_k8 b9 rfl ?_
    refine ok_iconst (v := 1) dX5_need_27 (by decide) ?_
    refine ok_iload_n dX5_need_28 rfl rfl ?_
    refine ok_ishl dX5_need_29 ?_
    refine ok_ixor dX5_need_30 ?_
    refine ok_iastore dX5_need_31 (by decide) rp_k8 b9 rfl ?_
    replace h := h _ rfl
    refine ok_aload_n dX5_need_32 rfl rfl ?_
    refine ok_getR (j := 0) dX5_need_33 fX5_need_10 (by decide) rp_k154 rfl (by decide) ?_
    refine ok_getR (j := 8) dX5_need_36 fX5_need_89 (by decide) rp_k0 rfl (by decide) ?_
    refine ok_iload_n dX5_need_39 rfl rfl ?_
    refine ok_iaload dX5_need_40 (by decide) rp_k8 b9 rfl ?_
    refine ok_iload_n dX5_need_41 rfl rfl ?_
    refine ok_ishr dX5_need_42 ?_
    refine ok_iconst (v := 1) dX5_need_43 (by decide) ?_
    refine ok_iand dX5_need_44 ?_
    exact ok_ireturn dX5_need_45 rfl h
  · replace h := h.2 c4
    refine ok_iload_n dX5_need_11 rfl rfl ?_
    exact ok_ireturn dX5_need_12 rfl h
theorem vX5_rule (E : rp_E) (post : Option Int32 → rp_M → Prop) (M : rp_M) (l1 : Int32) (l2 : Int32) (h : (l1 < 0 → (post (some (-2)) M)) ∧ (¬ l1 < 0 → ((3 ≤ l1 → (post (some (-2)) M)) ∧ (¬ 3 ≤ l1 → ((l2 < 0 → (post (some (-2)) M)) ∧ (¬ l2 < 0 → (vp_in l1 3 ∧ ((l2 ≤ ((rp_sv 2).getD (Int32.toNatClampNeg l1) 0) → (∃ P8 : rp_M → Prop, rp_Run E YX5_remember [.ref 154] M (rp_P0 P8) ∧ (∀ M6, P8 M6 → (∀ M10, M10 = rp_s M6 9 (Int32.toNatClampNeg l1) l2 → (post (some (M 9 (Int32.toNatClampNeg l1))) M10))))) ∧ (¬ l2 ≤ ((rp_sv 2).getD (Int32.toNatClampNeg l1) 0) → (post (some (-2)) M)))))))))) : rp_Run E YX5_rule [.ref 154, .int l1, .int l2] M post := by
  refine ok_start (by decide) oX5_rule (Nat.le_of_ble_eq_true rfl) ?_
  refine ok_iload_n dX5_rule_0 rfl rfl ?_
  refine ok_if_lt (tgt := 22) dX5_rule_1 (by decide) (fun c1 => ?_) (fun c1 => ?_)
  · replace h := h.1 c1
    refine ok_bipush (v := (-2)) dX5_rule_22 (by decide) ?_
    exact ok_ireturn dX5_rule_24 rfl h
  · replace h := h.2 c1
    refine ok_iload_n dX5_rule_4 rfl rfl ?_
    refine ok_iconst (v := 3) dX5_rule_5 (by decide) ?_
    refine ok_icmp_ge (tgt := 22) dX5_rule_6 (by decide) (fun c2 => ?_) (fun c2 => ?_)
    · replace h := h.1 c2
      refine ok_bipush (v := (-2)) dX5_rule_22 (by decide) ?_
      exact ok_ireturn dX5_rule_24 rfl h
    · replace h := h.2 c2
      refine ok_iload_n dX5_rule_9 rfl rfl ?_
      refine ok_if_lt (tgt := 22) dX5_rule_10 (by decide) (fun c3 => ?_) (fun c3 => ?_)
      · replace h := h.1 c3
        refine ok_bipush (v := (-2)) dX5_rule_22 (by decide) ?_
        exact ok_ireturn dX5_rule_24 rfl h
      · replace h := h.2 c3
        refine ok_iload_n dX5_rule_13 rfl rfl ?_
        refine ok_gets (j := 2) dX5_rule_14 (by decide) fX5_rule_99 ?_
        refine ok_iload_n dX5_rule_17 rfl rfl ?_
        have b4 := h.1
        replace h := h.2
        refine ok_saload dX5_rule_18 (by decide) b4 ?_
        refine ok_icmp_le (tgt := 25) dX5_rule_19 (by decide) (fun c5 => ?_) (fun c5 => ?_)
        · replace h := h.1 c5
          refine ok_aload_n dX5_rule_25 rfl rfl ?_
          refine ok_getR (j := 0) dX5_rule_26 fX5_rule_10 (by decide) rp_k154 rfl (by decide) ?_
          refine ok_getR (j := 9) dX5_rule_29 fX5_rule_102 (by decide) rp_k0 rfl (by decide) ?_
          refine ok_iload_n dX5_rule_32 rfl rfl ?_
          refine ok_iaload dX5_rule_33 (by decide) rp_k9 b4 rfl ?_
          refine ok_istore_n dX5_rule_34 rfl (by decide) rfl ?_
          refine ok_aload_n dX5_rule_35 rfl rfl ?_
          obtain ⟨P8, r7, h⟩ := h
          refine ok_callV2 dX5_rule_36 kX5_rule_62 r7 (by decide) rp_k154 rfl rfl (Nat.le_of_ble_eq_true rfl) ?_
          rintro _ M6 ⟨rfl, q9⟩
          replace h := h M6 q9
          refine ok_aload_n dX5_rule_39 rfl rfl ?_
          refine ok_getR (j := 0) dX5_rule_40 fX5_rule_10 (by decide) rp_k154 rfl (by decide) ?_
          refine ok_getR (j := 9) dX5_rule_43 fX5_rule_102 (by decide) rp_k0 rfl (by decide) ?_
          refine ok_iload_n dX5_rule_46 rfl rfl ?_
          refine ok_iload_n dX5_rule_47 rfl rfl ?_
          refine ok_iastore dX5_rule_48 (by decide) rp_k9 b4 rfl ?_
          replace h := h _ rfl
          refine ok_iload_n dX5_rule_49 rfl rfl ?_
          exact ok_ireturn dX5_rule_50 rfl h
        · replace h := h.2 c5
          refine ok_bipush (v := (-2)) dX5_rule_22 (by decide) ?_
          exact ok_ireturn dX5_rule_24 rfl h
theorem vX5_put (E : rp_E) (post : Option Int32 → rp_M → Prop) (M : rp_M) (l1 : Int64) (h : ∃ v1 M2, rp_C E YX1_lengthOf [.long l1] M (some v1) M2 ∧ ((¬ v1 = 0 → ((((M2 131 1) + v1) ≤ 80 → (∃ P8 : rp_M → Prop, rp_Run E YX1_append [.ref 131, .long l1, .int v1] M2 (rp_P0 P8) ∧ (∀ M6, P8 M6 → (post (some (M6 131 1)) M6)))) ∧ (¬ ((M2 131 1) + v1) ≤ 80 → (post (some (-4)) M2)))) ∧ (v1 = 0 → (post (some (-2)) M2)))) : rp_Run E YX5_put [.ref 154, .long l1] M post := by
  refine ok_start (by decide) oX5_put (Nat.le_of_ble_eq_true rfl) ?_
  refine ok_lload_n dX5_put_0 rfl rfl ?_
  obtain ⟨v1, M2, r3, h⟩ := h
  refine ok_callS2 dX5_put_1 kX5_put_105 r3 rfl rfl (Nat.le_of_ble_eq_true rfl) ?_
  rintro _ _ ⟨rfl, rfl⟩
  refine ok_istore_n dX5_put_4 rfl (by decide) rfl ?_
  refine ok_iload_n dX5_put_5 rfl rfl ?_
  refine ok_if_ne (tgt := 12) dX5_put_6 (by decide) (fun c4 => ?_) (fun c4 => ?_)
  · replace h := h.1 c4
    refine ok_aload_n dX5_put_12 rfl rfl ?_
    refine ok_getR (j := 131) dX5_put_13 fX5_put_30 (by decide) rp_k154 rfl (by decide) ?_
    refine ok_getI dX5_put_16 fX5_put_109 (by decide) rp_k131 rfl ?_
    refine ok_iload_n dX5_put_19 rfl rfl ?_
    refine ok_iadd dX5_put_20 ?_
    refine ok_bipush (v := 80) dX5_put_21 (by decide) ?_
    refine ok_icmp_le (tgt := 29) dX5_put_23 (by decide) (fun c5 => ?_) (fun c5 => ?_)
    · replace h := h.1 c5
      refine ok_aload_n dX5_put_29 rfl rfl ?_
      refine ok_getR (j := 131) dX5_put_30 fX5_put_30 (by decide) rp_k154 rfl (by decide) ?_
      refine ok_lload_n dX5_put_33 rfl rfl ?_
      refine ok_iload_n dX5_put_34 rfl rfl ?_
      obtain ⟨P8, r7, h⟩ := h
      refine ok_callV2 dX5_put_35 kX5_put_112 r7 (by decide) rp_k131 rfl rfl (Nat.le_of_ble_eq_true rfl) ?_
      rintro _ M6 ⟨rfl, q9⟩
      replace h := h M6 q9
      refine ok_aload_n dX5_put_38 rfl rfl ?_
      refine ok_getR (j := 131) dX5_put_39 fX5_put_30 (by decide) rp_k154 rfl (by decide) ?_
      refine ok_getI dX5_put_42 fX5_put_109 (by decide) rp_k131 rfl ?_
      exact ok_ireturn dX5_put_45 rfl h
    · replace h := h.2 c5
      refine ok_bipush (v := (-4)) dX5_put_26 (by decide) ?_
      exact ok_ireturn dX5_put_28 rfl h
  · replace h := h.2 c4
    refine ok_bipush (v := (-2)) dX5_put_9 (by decide) ?_
    exact ok_ireturn dX5_put_11 rfl h
theorem vX5_wipe (E : rp_E) (post : Option Int32 → rp_M → Prop) (M : rp_M)  (h : ∀ M1, M1 = rp_s M 131 1 0 → (post (some (M 131 1)) M1)) : rp_Run E YX5_wipe [.ref 154] M post := by
  refine ok_start (by decide) oX5_wipe (Nat.le_of_ble_eq_true rfl) ?_
  refine ok_aload_n dX5_wipe_0 rfl rfl ?_
  refine ok_getR (j := 131) dX5_wipe_1 fX5_wipe_30 (by decide) rp_k154 rfl (by decide) ?_
  refine ok_getI dX5_wipe_4 fX5_wipe_109 (by decide) rp_k131 rfl ?_
  refine ok_istore_n dX5_wipe_7 rfl (by decide) rfl ?_
  refine ok_aload_n dX5_wipe_8 rfl rfl ?_
  refine ok_getR (j := 131) dX5_wipe_9 fX5_wipe_30 (by decide) rp_k154 rfl (by decide) ?_
  refine ok_iconst (v := 0) dX5_wipe_12 (by decide) ?_
  refine ok_put dX5_wipe_13 pX5_wipe_109 (by decide) rp_k131 rfl rfl rfl ?_
  replace h := h _ rfl
  refine ok_iload_n dX5_wipe_16 rfl rfl ?_
  exact ok_ireturn dX5_wipe_17 rfl h
theorem vX5_fault (E : rp_E) (post : Option Int32 → rp_M → Prop) (M : rp_M)  (h : ∃ P4 : Int32 → rp_M → Prop, rp_Run E YX1_read [.ref 131] M (rp_P P4) ∧ (∀ v1 M2, P4 v1 M2 → ((v1 = 0 → (post (some (M2 131 4)) M2)) ∧ (¬ v1 = 0 → (post (some (-6)) M2))))) : rp_Run E YX5_fault [.ref 154] M post := by
  refine ok_start (by decide) oX5_fault (Nat.le_of_ble_eq_true rfl) ?_
  refine ok_aload_n dX5_fault_0 rfl rfl ?_
  refine ok_getR (j := 131) dX5_fault_1 fX5_fault_30 (by decide) rp_k154 rfl (by decide) ?_
  obtain ⟨P4, r3, h⟩ := h
  refine ok_callV2 dX5_fault_4 kX5_fault_115 r3 (by decide) rp_k131 rfl rfl (Nat.le_of_ble_eq_true rfl) ?_
  rintro _ M2 ⟨v1, rfl, q5⟩
  replace h := h v1 M2 q5
  refine ok_if_eq (tgt := 15) dX5_fault_7 (by decide) (fun c6 => ?_) (fun c6 => ?_)
  · replace h := h.1 c6
    refine ok_aload_n dX5_fault_15 rfl rfl ?_
    refine ok_getR (j := 131) dX5_fault_16 fX5_fault_30 (by decide) rp_k154 rfl (by decide) ?_
    refine ok_getI dX5_fault_19 fX5_fault_119 (by decide) rp_k131 rfl ?_
    exact ok_ireturn dX5_fault_22 rfl h
  · replace h := h.2 c6
    refine ok_bipush (v := (-6)) dX5_fault_10 (by decide) ?_
    refine ok_goto (tgt := 22) dX5_fault_12 (by decide) ?_
    exact ok_ireturn dX5_fault_22 rfl h
theorem vX5_load (E : rp_E) (post : Option Int32 → rp_M → Prop) (M : rp_M)  (h : ∃ P4 : Int32 → rp_M → Prop, rp_Run E YX1_read [.ref 131] M (rp_P P4) ∧ (∀ v1 M2, P4 v1 M2 → ((¬ v1 = 0 → ((((M2 0 4) + (M2 131 3)) ≤ 12 → (∃ P10 : rp_M → Prop, rp_Run E YX5_remember [.ref 154] M2 (rp_P0 P10) ∧ (∀ M8, P10 M8 → (rp_G E YX5_load post 42 [.ref 154, .int 0] [] M8)))) ∧ (¬ ((M2 0 4) + (M2 131 3)) ≤ 12 → (post (some (-4)) M2)))) ∧ (v1 = 0 → (post (some (-3)) M2))))) : rp_Run E YX5_load [.ref 154] M post := by
  refine ok_start (by decide) oX5_load (Nat.le_of_ble_eq_true rfl) ?_
  refine ok_aload_n dX5_load_0 rfl rfl ?_
  refine ok_getR (j := 131) dX5_load_1 fX5_load_30 (by decide) rp_k154 rfl (by decide) ?_
  obtain ⟨P4, r3, h⟩ := h
  refine ok_callV2 dX5_load_4 kX5_load_115 r3 (by decide) rp_k131 rfl rfl (Nat.le_of_ble_eq_true rfl) ?_
  rintro _ M2 ⟨v1, rfl, q5⟩
  replace h := h v1 M2 q5
  refine ok_if_ne (tgt := 13) dX5_load_7 (by decide) (fun c6 => ?_) (fun c6 => ?_)
  · replace h := h.1 c6
    refine ok_aload_n dX5_load_13 rfl rfl ?_
    refine ok_getR (j := 0) dX5_load_14 fX5_load_10 (by decide) rp_k154 rfl (by decide) ?_
    refine ok_getI dX5_load_17 fX5_load_59 (by decide) rp_k0 rfl ?_
    refine ok_aload_n dX5_load_20 rfl rfl ?_
    refine ok_getR (j := 131) dX5_load_21 fX5_load_30 (by decide) rp_k154 rfl (by decide) ?_
    refine ok_getI dX5_load_24 fX5_load_122 (by decide) rp_k131 rfl ?_
    refine ok_iadd dX5_load_27 ?_
    refine ok_bipush (v := 12) dX5_load_28 (by decide) ?_
    refine ok_icmp_le (tgt := 36) dX5_load_30 (by decide) (fun c7 => ?_) (fun c7 => ?_)
    · replace h := h.1 c7
      refine ok_aload_n dX5_load_36 rfl rfl ?_
      obtain ⟨P10, r9, h⟩ := h
      refine ok_callV2 dX5_load_37 kX5_load_62 r9 (by decide) rp_k154 rfl rfl (Nat.le_of_ble_eq_true rfl) ?_
      rintro _ M8 ⟨rfl, q11⟩
      replace h := h M8 q11
      refine ok_iconst (v := 0) dX5_load_40 (by decide) ?_
      refine ok_istore_n dX5_load_41 rfl (by decide) rfl ?_
      exact ok_mask [true, true] h
    · replace h := h.2 c7
      refine ok_bipush (v := (-4)) dX5_load_33 (by decide) ?_
      exact ok_ireturn dX5_load_35 rfl h
  · replace h := h.2 c6
    refine ok_bipush (v := (-3)) dX5_load_10 (by decide) ?_
    exact ok_ireturn dX5_load_12 rfl h
theorem vX5_load_42 (E : rp_E) (post : Option Int32 → rp_M → Prop) (M : rp_M) (l1 : Int32) (h : ((M 131 3) ≤ l1 → (∀ M13, M13 = rp_s M 131 1 0 → (post (some (M13 131 3)) M13))) ∧ (¬ (M 131 3) ≤ l1 → (vp_in l1 20 ∧ (∃ P17 : rp_M → Prop, rp_Run E YX4_append [.ref 0, .int (M 134 (Int32.toNatClampNeg l1)), .int (M 135 (Int32.toNatClampNeg l1)), .int (M 136 (Int32.toNatClampNeg l1)), .int (M 137 (Int32.toNatClampNeg l1)), .int (M 138 (Int32.toNatClampNeg l1))] M (rp_P0 P17) ∧ (∀ M15, P17 M15 → (rp_G E YX5_load post 42 [.ref 154, .int (l1 + 1)] [] M15)))))) : rp_G E YX5_load post 42 [.ref 154, .int l1] [] M := by
  refine ok_iload_n dX5_load_42 rfl rfl ?_
  refine ok_aload_n dX5_load_43 rfl rfl ?_
  refine ok_getR (j := 131) dX5_load_44 fX5_load_30 (by decide) rp_k154 rfl (by decide) ?_
  refine ok_getI dX5_load_47 fX5_load_122 (by decide) rp_k131 rfl ?_
  refine ok_icmp_ge (tgt := 121) dX5_load_50 (by decide) (fun c12 => ?_) (fun c12 => ?_)
  · replace h := h.1 c12
    refine ok_aload_n dX5_load_121 rfl rfl ?_
    refine ok_getR (j := 131) dX5_load_122 fX5_load_30 (by decide) rp_k154 rfl (by decide) ?_
    refine ok_iconst (v := 0) dX5_load_125 (by decide) ?_
    refine ok_put dX5_load_126 pX5_load_109 (by decide) rp_k131 rfl rfl rfl ?_
    replace h := h _ rfl
    refine ok_aload_n dX5_load_129 rfl rfl ?_
    refine ok_getR (j := 131) dX5_load_130 fX5_load_30 (by decide) rp_k154 rfl (by decide) ?_
    refine ok_getI dX5_load_133 fX5_load_122 (by decide) rp_k131 rfl ?_
    exact ok_ireturn dX5_load_136 rfl h
  · replace h := h.2 c12
    refine ok_aload_n dX5_load_53 rfl rfl ?_
    refine ok_getR (j := 0) dX5_load_54 fX5_load_10 (by decide) rp_k154 rfl (by decide) ?_
    refine ok_aload_n dX5_load_57 rfl rfl ?_
    refine ok_getR (j := 131) dX5_load_58 fX5_load_30 (by decide) rp_k154 rfl (by decide) ?_
    refine ok_getR (j := 133) dX5_load_61 fX5_load_125 (by decide) rp_k131 rfl (by decide) ?_
    refine ok_iconst (v := 0) dX5_load_64 (by decide) ?_
    refine ok_aaload2 (j := 134) dX5_load_65 (by decide) rp_k133 (rp_vi (by decide)) (by rfl) (by decide) ?_
    refine ok_iload_n dX5_load_66 rfl rfl ?_
    have b14 := h.1
    replace h := h.2
    refine ok_iaload dX5_load_67 (by decide) rp_k134 b14 rfl ?_
    refine ok_aload_n dX5_load_68 rfl rfl ?_
    refine ok_getR (j := 131) dX5_load_69 fX5_load_30 (by decide) rp_k154 rfl (by decide) ?_
    refine ok_getR (j := 133) dX5_load_72 fX5_load_125 (by decide) rp_k131 rfl (by decide) ?_
    refine ok_iconst (v := 1) dX5_load_75 (by decide) ?_
    refine ok_aaload2 (j := 135) dX5_load_76 (by decide) rp_k133 (rp_vi (by decide)) (by rfl) (by decide) ?_
    refine ok_iload_n dX5_load_77 rfl rfl ?_
    refine ok_iaload dX5_load_78 (by decide) rp_k135 b14 rfl ?_
    refine ok_aload_n dX5_load_79 rfl rfl ?_
    refine ok_getR (j := 131) dX5_load_80 fX5_load_30 (by decide) rp_k154 rfl (by decide) ?_
    refine ok_getR (j := 133) dX5_load_83 fX5_load_125 (by decide) rp_k131 rfl (by decide) ?_
    refine ok_iconst (v := 2) dX5_load_86 (by decide) ?_
    refine ok_aaload2 (j := 136) dX5_load_87 (by decide) rp_k133 (rp_vi (by decide)) (by rfl) (by decide) ?_
    refine ok_iload_n dX5_load_88 rfl rfl ?_
    refine ok_iaload dX5_load_89 (by decide) rp_k136 b14 rfl ?_
    refine ok_aload_n dX5_load_90 rfl rfl ?_
    refine ok_getR (j := 131) dX5_load_91 fX5_load_30 (by decide) rp_k154 rfl (by decide) ?_
    refine ok_getR (j := 133) dX5_load_94 fX5_load_125 (by decide) rp_k131 rfl (by decide) ?_
    refine ok_iconst (v := 3) dX5_load_97 (by decide) ?_
    refine ok_aaload2 (j := 137) dX5_load_98 (by decide) rp_k133 (rp_vi (by decide)) (by rfl) (by decide) ?_
    refine ok_iload_n dX5_load_99 rfl rfl ?_
    refine ok_iaload dX5_load_100 (by decide) rp_k137 b14 rfl ?_
    refine ok_aload_n dX5_load_101 rfl rfl ?_
    refine ok_getR (j := 131) dX5_load_102 fX5_load_30 (by decide) rp_k154 rfl (by decide) ?_
    refine ok_getR (j := 133) dX5_load_105 fX5_load_125 (by decide) rp_k131 rfl (by decide) ?_
    refine ok_iconst (v := 4) dX5_load_108 (by decide) ?_
    refine ok_aaload2 (j := 138) dX5_load_109 (by decide) rp_k133 (rp_vi (by decide)) (by rfl) (by decide) ?_
    refine ok_iload_n dX5_load_110 rfl rfl ?_
    refine ok_iaload dX5_load_111 (by decide) rp_k138 b14 rfl ?_
    obtain ⟨P17, r16, h⟩ := h
    refine ok_callV2 dX5_load_112 kX5_load_65 r16 (by decide) rp_k0 rfl rfl (Nat.le_of_ble_eq_true rfl) ?_
    rintro _ M15 ⟨rfl, q18⟩
    replace h := h M15 q18
    refine ok_iinc2 (w := 1) dX5_load_115 rfl (by decide) (by decide) rfl ?_
    refine ok_goto (tgt := 42) dX5_load_118 (by decide) ?_
    exact ok_mask [true, true] h
theorem vX5_isChoice (E : rp_E) (post : Option Int32 → rp_M → Prop) (M : rp_M) (l1 : Int32) (h : (l1 < 0 → (post (some 0) M)) ∧ (¬ l1 < 0 → ((((1 : Int32) <<< ((M 0 4) &&& 31) : Int32) ≤ l1 → (post (some 0) M)) ∧ (¬ ((1 : Int32) <<< ((M 0 4) &&& 31) : Int32) ≤ l1 → (post (some 1) M))))) : rp_Run E YX5_isChoice [.ref 154, .int l1] M post := by
  refine ok_start (by decide) oX5_isChoice (Nat.le_of_ble_eq_true rfl) ?_
  refine ok_iload_n dX5_isChoice_0 rfl rfl ?_
  refine ok_if_lt (tgt := 21) dX5_isChoice_1 (by decide) (fun c1 => ?_) (fun c1 => ?_)
  · replace h := h.1 c1
    refine ok_iconst (v := 0) dX5_isChoice_21 (by decide) ?_
    exact ok_zreturn dX5_isChoice_22 rfl (by decide) h
  · replace h := h.2 c1
    refine ok_iload_n dX5_isChoice_4 rfl rfl ?_
    refine ok_iconst (v := 1) dX5_isChoice_5 (by decide) ?_
    refine ok_aload_n dX5_isChoice_6 rfl rfl ?_
    refine ok_getR (j := 0) dX5_isChoice_7 fX5_isChoice_10 (by decide) rp_k154 rfl (by decide) ?_
    refine ok_getI dX5_isChoice_10 fX5_isChoice_59 (by decide) rp_k0 rfl ?_
    refine ok_ishl dX5_isChoice_13 ?_
    refine ok_icmp_ge (tgt := 21) dX5_isChoice_14 (by decide) (fun c2 => ?_) (fun c2 => ?_)
    · replace h := h.1 c2
      refine ok_iconst (v := 0) dX5_isChoice_21 (by decide) ?_
      exact ok_zreturn dX5_isChoice_22 rfl (by decide) h
    · replace h := h.2 c2
      refine ok_iconst (v := 1) dX5_isChoice_17 (by decide) ?_
      refine ok_goto (tgt := 22) dX5_isChoice_18 (by decide) ?_
      exact ok_zreturn dX5_isChoice_22 rfl (by decide) h
theorem vX5_budget (E : rp_E) (post : Option Int32 → rp_M → Prop) (M : rp_M) (l1 : Int32) (h : vp_in l1 3 ∧ (post (some (M 9 (Int32.toNatClampNeg l1))) M)) : rp_Run E YX5_budget [.ref 154, .int l1] M post := by
  refine ok_start (by decide) oX5_budget (Nat.le_of_ble_eq_true rfl) ?_
  refine ok_aload_n dX5_budget_0 rfl rfl ?_
  refine ok_getR (j := 0) dX5_budget_1 fX5_budget_10 (by decide) rp_k154 rfl (by decide) ?_
  refine ok_getR (j := 9) dX5_budget_4 fX5_budget_102 (by decide) rp_k0 rfl (by decide) ?_
  refine ok_iload_n dX5_budget_7 rfl rfl ?_
  have b1 := h.1
  replace h := h.2
  refine ok_iaload dX5_budget_8 (by decide) rp_k9 b1 rfl ?_
  exact ok_ireturn dX5_budget_9 rfl h
theorem vX5_protectedWeight (E : rp_E) (post : Option Int32 → rp_M → Prop) (M : rp_M) (l1 : Int32) (l2 : Int32) (h : ∃ v1 M2, rp_C E YX4_worst [.ref 0, .int l1, .int 2, .int l2] M (some v1) M2 ∧ (∃ v4 M5, rp_C E YX4_weightUnder [.ref 0, .int l1, .int v1] M2 (some v4) M5 ∧ (post (some v4) M5))) : rp_Run E YX5_protectedWeight [.ref 154, .int l1, .int l2] M post := by
  refine ok_start (by decide) oX5_protectedWeight (Nat.le_of_ble_eq_true rfl) ?_
  refine ok_aload_n dX5_protectedWeight_0 rfl rfl ?_
  refine ok_getR (j := 0) dX5_protectedWeight_1 fX5_protectedWeight_10 (by decide) rp_k154 rfl (by decide) ?_
  refine ok_iload_n dX5_protectedWeight_4 rfl rfl ?_
  refine ok_aload_n dX5_protectedWeight_5 rfl rfl ?_
  refine ok_getR (j := 0) dX5_protectedWeight_6 fX5_protectedWeight_10 (by decide) rp_k154 rfl (by decide) ?_
  refine ok_iload_n dX5_protectedWeight_9 rfl rfl ?_
  refine ok_iconst (v := 2) dX5_protectedWeight_10 (by decide) ?_
  refine ok_iload_n dX5_protectedWeight_11 rfl rfl ?_
  obtain ⟨v1, M2, r3, h⟩ := h
  refine ok_callV2 dX5_protectedWeight_12 kX5_protectedWeight_157 r3 (by decide) rp_k0 rfl rfl (Nat.le_of_ble_eq_true rfl) ?_
  rintro _ _ ⟨rfl, rfl⟩
  obtain ⟨v4, M5, r6, h⟩ := h
  refine ok_callV2 dX5_protectedWeight_15 kX5_protectedWeight_131 r6 (by decide) rp_k0 rfl rfl (Nat.le_of_ble_eq_true rfl) ?_
  rintro _ _ ⟨rfl, rfl⟩
  exact ok_ireturn dX5_protectedWeight_18 rfl h
theorem vX5_worstProfitScenario (E : rp_E) (post : Option Int32 → rp_M → Prop) (M : rp_M) (l1 : Int32) (h : ∃ v1 M2, rp_C E YX5_budget [.ref 154, .int 2] M (some v1) M2 ∧ (∃ v4 M5, rp_C E YX4_worst [.ref 0, .int l1, .int 3, .int v1] M2 (some v4) M5 ∧ (post (some v4) M5))) : rp_Run E YX5_worstProfitScenario [.ref 154, .int l1] M post := by
  refine ok_start (by decide) oX5_worstProfitScenario (Nat.le_of_ble_eq_true rfl) ?_
  refine ok_aload_n dX5_worstProfitScenario_0 rfl rfl ?_
  refine ok_getR (j := 0) dX5_worstProfitScenario_1 fX5_worstProfitScenario_10 (by decide) rp_k154 rfl (by decide) ?_
  refine ok_iload_n dX5_worstProfitScenario_4 rfl rfl ?_
  refine ok_iconst (v := 3) dX5_worstProfitScenario_5 (by decide) ?_
  refine ok_aload_n dX5_worstProfitScenario_6 rfl rfl ?_
  refine ok_iconst (v := 2) dX5_worstProfitScenario_7 (by decide) ?_
  obtain ⟨v1, M2, r3, h⟩ := h
  refine ok_callV2 dX5_worstProfitScenario_8 kX5_worstProfitScenario_134 r3 (by decide) rp_k154 rfl rfl (Nat.le_of_ble_eq_true rfl) ?_
  rintro _ _ ⟨rfl, rfl⟩
  obtain ⟨v4, M5, r6, h⟩ := h
  refine ok_callV2 dX5_worstProfitScenario_11 kX5_worstProfitScenario_157 r6 (by decide) rp_k0 rfl rfl (Nat.le_of_ble_eq_true rfl) ?_
  rintro _ _ ⟨rfl, rfl⟩
  exact ok_ireturn dX5_worstProfitScenario_14 rfl h
theorem vX5_prepare (E : rp_E) (post : Option Int32 → rp_M → Prop) (M : rp_M)  (h : (¬ (M 139 9) = 0 → (post none M)) ∧ ((M 139 9) = 0 → (∃ v2 M3, rp_C E YX5_budget [.ref 154, .int 1] M (some v2) M3 ∧ (∃ v5 M6, rp_C E YX5_budget [.ref 154, .int 2] M3 (some v5) M6 ∧ (∃ P10 : rp_M → Prop, rp_Run E YX0_fill [.ref 139, .ref 0, .int v2, .int v5] M6 (rp_P0 P10) ∧ (∀ M8, P10 M8 → (∀ M12, M12 = rp_s M8 139 9 1 → (post none M12)))))))) : rp_Run E YX5_prepare [.ref 154] M post := by
  refine ok_start (by decide) oX5_prepare (Nat.le_of_ble_eq_true rfl) ?_
  refine ok_aload_n dX5_prepare_0 rfl rfl ?_
  refine ok_getR (j := 139) dX5_prepare_1 fX5_prepare_37 (by decide) rp_k154 rfl (by decide) ?_
  refine ok_getI dX5_prepare_4 fX5_prepare_191 (by decide) rp_k139 rfl ?_
  refine ok_if_ne (tgt := 39) dX5_prepare_7 (by decide) (fun c1 => ?_) (fun c1 => ?_)
  · replace h := h.1 c1
    exact ok_return dX5_prepare_39 rfl h
  · replace h := h.2 c1
    refine ok_aload_n dX5_prepare_10 rfl rfl ?_
    refine ok_getR (j := 139) dX5_prepare_11 fX5_prepare_37 (by decide) rp_k154 rfl (by decide) ?_
    refine ok_aload_n dX5_prepare_14 rfl rfl ?_
    refine ok_getR (j := 0) dX5_prepare_15 fX5_prepare_10 (by decide) rp_k154 rfl (by decide) ?_
    refine ok_aload_n dX5_prepare_18 rfl rfl ?_
    refine ok_iconst (v := 1) dX5_prepare_19 (by decide) ?_
    obtain ⟨v2, M3, r4, h⟩ := h
    refine ok_callV2 dX5_prepare_20 kX5_prepare_134 r4 (by decide) rp_k154 rfl rfl (Nat.le_of_ble_eq_true rfl) ?_
    rintro _ _ ⟨rfl, rfl⟩
    refine ok_aload_n dX5_prepare_23 rfl rfl ?_
    refine ok_iconst (v := 2) dX5_prepare_24 (by decide) ?_
    obtain ⟨v5, M6, r7, h⟩ := h
    refine ok_callV2 dX5_prepare_25 kX5_prepare_134 r7 (by decide) rp_k154 rfl rfl (Nat.le_of_ble_eq_true rfl) ?_
    rintro _ _ ⟨rfl, rfl⟩
    obtain ⟨P10, r9, h⟩ := h
    refine ok_callV2 dX5_prepare_28 kX5_prepare_187 r9 (by decide) rp_k139 rfl rfl (Nat.le_of_ble_eq_true rfl) ?_
    rintro _ M8 ⟨rfl, q11⟩
    replace h := h M8 q11
    refine ok_aload_n dX5_prepare_31 rfl rfl ?_
    refine ok_getR (j := 139) dX5_prepare_32 fX5_prepare_37 (by decide) rp_k154 rfl (by decide) ?_
    refine ok_iconst (v := 1) dX5_prepare_35 (by decide) ?_
    refine ok_put dX5_prepare_36 pX5_prepare_191 (by decide) rp_k139 rfl (by decide) (by decide) ?_
    replace h := h _ rfl
    exact ok_return dX5_prepare_39 rfl h
theorem vX5_capacity (E : rp_E) (post : Option Int32 → rp_M → Prop) (M : rp_M)  (h : post (some (M 9 0)) M) : rp_Run E YX5_capacity [.ref 154] M post := by
  refine ok_start (by decide) oX5_capacity (Nat.le_of_ble_eq_true rfl) ?_
  refine ok_aload_n dX5_capacity_0 rfl rfl ?_
  refine ok_getR (j := 0) dX5_capacity_1 fX5_capacity_10 (by decide) rp_k154 rfl (by decide) ?_
  refine ok_getR (j := 9) dX5_capacity_4 fX5_capacity_102 (by decide) rp_k0 rfl (by decide) ?_
  refine ok_iconst (v := 0) dX5_capacity_7 (by decide) ?_
  refine ok_iaload (j := 0) dX5_capacity_8 (by decide) rp_k9 (rp_vi (by decide)) (by decide) ?_
  exact ok_ireturn dX5_capacity_9 rfl h
theorem vX5_greatestBudget (E : rp_E) (post : Option Int32 → rp_M → Prop) (M : rp_M) (l1 : Int32) (h : rp_G E YX5_greatestBudget post 3 [.ref 154, .int l1, .int 12] [] M) : rp_Run E YX5_greatestBudget [.ref 154, .int l1] M post := by
  refine ok_start (by decide) oX5_greatestBudget (Nat.le_of_ble_eq_true rfl) ?_
  refine ok_bipush (v := 12) dX5_greatestBudget_0 (by decide) ?_
  refine ok_istore_n dX5_greatestBudget_2 rfl (by decide) rfl ?_
  exact ok_mask [true, true, true] h
theorem vX5_greatestBudget_3 (E : rp_E) (post : Option Int32 → rp_M → Prop) (M : rp_M) (l1 : Int32) (l2 : Int32) (h : (l2 < 0 → (post (some (-6)) M)) ∧ (¬ l2 < 0 → (∃ v2 M3, rp_C E YX5_protectedWeight [.ref 154, .int l1, .int l2] M (some v2) M3 ∧ (∃ v5 M6, rp_C E YX5_capacity [.ref 154] M3 (some v5) M6 ∧ ((v5 < v2 → (rp_G E YX5_greatestBudget post 3 [.ref 154, .int l1, .int (l2 + (-1))] [] M6)) ∧ (¬ v5 < v2 → (post (some l2) M6))))))) : rp_G E YX5_greatestBudget post 3 [.ref 154, .int l1, .int l2] [] M := by
  refine ok_iload_n dX5_greatestBudget_3 rfl rfl ?_
  refine ok_if_lt (tgt := 28) dX5_greatestBudget_4 (by decide) (fun c1 => ?_) (fun c1 => ?_)
  · replace h := h.1 c1
    refine ok_bipush (v := (-6)) dX5_greatestBudget_28 (by decide) ?_
    exact ok_ireturn dX5_greatestBudget_30 rfl h
  · replace h := h.2 c1
    refine ok_aload_n dX5_greatestBudget_7 rfl rfl ?_
    refine ok_iload_n dX5_greatestBudget_8 rfl rfl ?_
    refine ok_iload_n dX5_greatestBudget_9 rfl rfl ?_
    obtain ⟨v2, M3, r4, h⟩ := h
    refine ok_callV2 dX5_greatestBudget_10 kX5_greatestBudget_137 r4 (by decide) rp_k154 rfl rfl (Nat.le_of_ble_eq_true rfl) ?_
    rintro _ _ ⟨rfl, rfl⟩
    refine ok_aload_n dX5_greatestBudget_13 rfl rfl ?_
    obtain ⟨v5, M6, r7, h⟩ := h
    refine ok_callV2 dX5_greatestBudget_14 kX5_greatestBudget_153 r7 (by decide) rp_k154 rfl rfl (Nat.le_of_ble_eq_true rfl) ?_
    rintro _ _ ⟨rfl, rfl⟩
    refine ok_icmp_gt (tgt := 22) dX5_greatestBudget_17 (by decide) (fun c8 => ?_) (fun c8 => ?_)
    · replace h := h.1 c8
      refine ok_iinc2 (w := (-1)) dX5_greatestBudget_22 rfl (by decide) (by decide) rfl ?_
      refine ok_goto (tgt := 3) dX5_greatestBudget_25 (by decide) ?_
      exact ok_mask [true, true, true] h
    · replace h := h.2 c8
      refine ok_iload_n dX5_greatestBudget_20 rfl rfl ?_
      exact ok_ireturn dX5_greatestBudget_21 rfl h
theorem vX5_choice (E : rp_E) (post : Option Int32 → rp_M → Prop) (M : rp_M) (l1 : Int32) (l2 : Int32) (h : ∃ v1 M2, rp_C E YX5_isChoice [.ref 154, .int l1] M (some v1) M2 ∧ ((¬ v1 = 0 → ((l2 = 0 → (∃ v5 M6, rp_C E YX4_weightUnder [.ref 0, .int l1, .int 0] M2 (some v5) M6 ∧ (post (some v5) M6))) ∧ (l2 = 1 → (∃ v8 M9, rp_C E YX5_budget [.ref 154, .int 1] M2 (some v8) M9 ∧ (∃ v11 M12, rp_C E YX5_protectedWeight [.ref 154, .int l1, .int v8] M9 (some v11) M12 ∧ (post (some v11) M12)))) ∧ (l2 = 2 → (∃ v14 M15, rp_C E YX4_profitUnder [.ref 0, .int l1, .int 0] M2 (some v14) M15 ∧ (post (some (v14 + 100000)) M15))) ∧ (l2 = 3 → (∃ v17 M18, rp_C E YX5_worstProfitScenario [.ref 154, .int l1] M2 (some v17) M18 ∧ (∃ v20 M21, rp_C E YX4_profitUnder [.ref 0, .int l1, .int v17] M18 (some v20) M21 ∧ (post (some (v20 + 100000)) M21)))) ∧ (l2 = 4 → (∃ P25 : rp_M → Prop, rp_Run E YX5_prepare [.ref 154] M2 (rp_P0 P25) ∧ (∀ M23, P25 M23 → (∃ v27 M28, rp_C E YX0_allows [.ref 139, .int l1] M23 (some v27) M28 ∧ ((v27 = 0 → (post (some 0) M28)) ∧ (¬ v27 = 0 → (post (some 1) M28))))))) ∧ (l2 = 5 → (∃ v31 M32, rp_C E YX5_budget [.ref 154, .int 1] M2 (some v31) M32 ∧ (∃ v34 M35, rp_C E YX5_protectedWeight [.ref 154, .int l1, .int v31] M32 (some v34) M35 ∧ (∃ v37 M38, rp_C E YX5_capacity [.ref 154] M35 (some v37) M38 ∧ ((v37 < v34 → (post (some 0) M38)) ∧ (¬ v37 < v34 → (post (some 1) M38))))))) ∧ (l2 = 6 → (∃ v41 M42, rp_C E YX5_budget [.ref 154, .int 1] M2 (some v41) M42 ∧ (∃ v44 M45, rp_C E YX4_worst [.ref 0, .int l1, .int 2, .int v41] M42 (some v44) M45 ∧ (post (some v44) M45)))) ∧ (l2 = 7 → (∃ v47 M48, rp_C E YX5_worstProfitScenario [.ref 154, .int l1] M2 (some v47) M48 ∧ (post (some v47) M48))) ∧ (l2 = 8 → (∃ v50 M51, rp_C E YX5_greatestBudget [.ref 154, .int l1] M2 (some v50) M51 ∧ (post (some v50) M51))) ∧ (¬ l2 = 0 → ¬ l2 = 1 → ¬ l2 = 2 → ¬ l2 = 3 → ¬ l2 = 4 → ¬ l2 = 5 → ¬ l2 = 6 → ¬ l2 = 7 → ¬ l2 = 8 → (post (some (-2)) M2)))) ∧ (v1 = 0 → (post (some (-1)) M2)))) : rp_Run E YX5_choice [.ref 154, .int l1, .int l2] M post := by
  refine ok_start (by decide) oX5_choice (Nat.le_of_ble_eq_true rfl) ?_
  refine ok_aload_n dX5_choice_0 rfl rfl ?_
  refine ok_iload_n dX5_choice_1 rfl rfl ?_
  obtain ⟨v1, M2, r3, h⟩ := h
  refine ok_callV2 dX5_choice_2 kX5_choice_128 r3 (by decide) rp_k154 rfl rfl (Nat.le_of_ble_eq_true rfl) ?_
  rintro _ _ ⟨rfl, rfl⟩
  refine ok_if_ne (tgt := 10) dX5_choice_5 (by decide) (fun c4 => ?_) (fun c4 => ?_)
  · replace h := h.1 c4
    refine ok_iload_n dX5_choice_10 rfl rfl ?_
    by_cases c11_0 : l2 = 0
    · replace h := h.1 c11_0
      refine ok_tabIn (k := 0) (tgt := 60) dX5_choice_11 (by rw [c11_0]; decide) (by decide) (by rfl) (by decide) ?_
      refine ok_aload_n dX5_choice_60 rfl rfl ?_
      refine ok_getR (j := 0) dX5_choice_61 fX5_choice_10 (by decide) rp_k154 rfl (by decide) ?_
      refine ok_iload_n dX5_choice_64 rfl rfl ?_
      refine ok_iconst (v := 0) dX5_choice_65 (by decide) ?_
      obtain ⟨v5, M6, r7, h⟩ := h
      refine ok_callV2 dX5_choice_66 kX5_choice_131 r7 (by decide) rp_k0 rfl rfl (Nat.le_of_ble_eq_true rfl) ?_
      rintro _ _ ⟨rfl, rfl⟩
      exact ok_ireturn dX5_choice_69 rfl h
    replace h := h.2
    by_cases c11_1 : l2 = 1
    · replace h := h.1 c11_1
      refine ok_tabIn (k := 1) (tgt := 70) dX5_choice_11 (by rw [c11_1]; decide) (by decide) (by rfl) (by decide) ?_
      refine ok_aload_n dX5_choice_70 rfl rfl ?_
      refine ok_iload_n dX5_choice_71 rfl rfl ?_
      refine ok_aload_n dX5_choice_72 rfl rfl ?_
      refine ok_iconst (v := 1) dX5_choice_73 (by decide) ?_
      obtain ⟨v8, M9, r10, h⟩ := h
      refine ok_callV2 dX5_choice_74 kX5_choice_134 r10 (by decide) rp_k154 rfl rfl (Nat.le_of_ble_eq_true rfl) ?_
      rintro _ _ ⟨rfl, rfl⟩
      obtain ⟨v11, M12, r13, h⟩ := h
      refine ok_callV2 dX5_choice_77 kX5_choice_137 r13 (by decide) rp_k154 rfl rfl (Nat.le_of_ble_eq_true rfl) ?_
      rintro _ _ ⟨rfl, rfl⟩
      exact ok_ireturn dX5_choice_80 rfl h
    replace h := h.2
    by_cases c11_2 : l2 = 2
    · replace h := h.1 c11_2
      refine ok_tabIn (k := 2) (tgt := 81) dX5_choice_11 (by rw [c11_2]; decide) (by decide) (by rfl) (by decide) ?_
      refine ok_aload_n dX5_choice_81 rfl rfl ?_
      refine ok_getR (j := 0) dX5_choice_82 fX5_choice_10 (by decide) rp_k154 rfl (by decide) ?_
      refine ok_iload_n dX5_choice_85 rfl rfl ?_
      refine ok_iconst (v := 0) dX5_choice_86 (by decide) ?_
      obtain ⟨v14, M15, r16, h⟩ := h
      refine ok_callV2 dX5_choice_87 kX5_choice_140 r16 (by decide) rp_k0 rfl rfl (Nat.le_of_ble_eq_true rfl) ?_
      rintro _ _ ⟨rfl, rfl⟩
      refine ok_ldc fX5_choice_143 dX5_choice_90 ?_
      refine ok_iadd dX5_choice_92 ?_
      exact ok_ireturn dX5_choice_93 rfl h
    replace h := h.2
    by_cases c11_3 : l2 = 3
    · replace h := h.1 c11_3
      refine ok_tabIn (k := 3) (tgt := 94) dX5_choice_11 (by rw [c11_3]; decide) (by decide) (by rfl) (by decide) ?_
      refine ok_aload_n dX5_choice_94 rfl rfl ?_
      refine ok_getR (j := 0) dX5_choice_95 fX5_choice_10 (by decide) rp_k154 rfl (by decide) ?_
      refine ok_iload_n dX5_choice_98 rfl rfl ?_
      refine ok_aload_n dX5_choice_99 rfl rfl ?_
      refine ok_iload_n dX5_choice_100 rfl rfl ?_
      obtain ⟨v17, M18, r19, h⟩ := h
      refine ok_callV2 dX5_choice_101 kX5_choice_144 r19 (by decide) rp_k154 rfl rfl (Nat.le_of_ble_eq_true rfl) ?_
      rintro _ _ ⟨rfl, rfl⟩
      obtain ⟨v20, M21, r22, h⟩ := h
      refine ok_callV2 dX5_choice_104 kX5_choice_140 r22 (by decide) rp_k0 rfl rfl (Nat.le_of_ble_eq_true rfl) ?_
      rintro _ _ ⟨rfl, rfl⟩
      refine ok_ldc fX5_choice_143 dX5_choice_107 ?_
      refine ok_iadd dX5_choice_109 ?_
      exact ok_ireturn dX5_choice_110 rfl h
    replace h := h.2
    by_cases c11_4 : l2 = 4
    · replace h := h.1 c11_4
      refine ok_tabIn (k := 4) (tgt := 111) dX5_choice_11 (by rw [c11_4]; decide) (by decide) (by rfl) (by decide) ?_
      refine ok_aload_n dX5_choice_111 rfl rfl ?_
      obtain ⟨P25, r24, h⟩ := h
      refine ok_callV2 dX5_choice_112 kX5_choice_147 r24 (by decide) rp_k154 rfl rfl (Nat.le_of_ble_eq_true rfl) ?_
      rintro _ M23 ⟨rfl, q26⟩
      replace h := h M23 q26
      refine ok_aload_n dX5_choice_115 rfl rfl ?_
      refine ok_getR (j := 139) dX5_choice_116 fX5_choice_37 (by decide) rp_k154 rfl (by decide) ?_
      refine ok_iload_n dX5_choice_119 rfl rfl ?_
      obtain ⟨v27, M28, r29, h⟩ := h
      refine ok_callV2 dX5_choice_120 kX5_choice_150 r29 (by decide) rp_k139 rfl rfl (Nat.le_of_ble_eq_true rfl) ?_
      rintro _ _ ⟨rfl, rfl⟩
      refine ok_if_eq (tgt := 130) dX5_choice_123 (by decide) (fun c30 => ?_) (fun c30 => ?_)
      · replace h := h.1 c30
        refine ok_iconst (v := 0) dX5_choice_130 (by decide) ?_
        exact ok_ireturn dX5_choice_131 rfl h
      · replace h := h.2 c30
        refine ok_iconst (v := 1) dX5_choice_126 (by decide) ?_
        refine ok_goto (tgt := 131) dX5_choice_127 (by decide) ?_
        exact ok_ireturn dX5_choice_131 rfl h
    replace h := h.2
    by_cases c11_5 : l2 = 5
    · replace h := h.1 c11_5
      refine ok_tabIn (k := 5) (tgt := 132) dX5_choice_11 (by rw [c11_5]; decide) (by decide) (by rfl) (by decide) ?_
      refine ok_aload_n dX5_choice_132 rfl rfl ?_
      refine ok_iload_n dX5_choice_133 rfl rfl ?_
      refine ok_aload_n dX5_choice_134 rfl rfl ?_
      refine ok_iconst (v := 1) dX5_choice_135 (by decide) ?_
      obtain ⟨v31, M32, r33, h⟩ := h
      refine ok_callV2 dX5_choice_136 kX5_choice_134 r33 (by decide) rp_k154 rfl rfl (Nat.le_of_ble_eq_true rfl) ?_
      rintro _ _ ⟨rfl, rfl⟩
      obtain ⟨v34, M35, r36, h⟩ := h
      refine ok_callV2 dX5_choice_139 kX5_choice_137 r36 (by decide) rp_k154 rfl rfl (Nat.le_of_ble_eq_true rfl) ?_
      rintro _ _ ⟨rfl, rfl⟩
      refine ok_aload_n dX5_choice_142 rfl rfl ?_
      obtain ⟨v37, M38, r39, h⟩ := h
      refine ok_callV2 dX5_choice_143 kX5_choice_153 r39 (by decide) rp_k154 rfl rfl (Nat.le_of_ble_eq_true rfl) ?_
      rintro _ _ ⟨rfl, rfl⟩
      refine ok_icmp_gt (tgt := 153) dX5_choice_146 (by decide) (fun c40 => ?_) (fun c40 => ?_)
      · replace h := h.1 c40
        refine ok_iconst (v := 0) dX5_choice_153 (by decide) ?_
        exact ok_ireturn dX5_choice_154 rfl h
      · replace h := h.2 c40
        refine ok_iconst (v := 1) dX5_choice_149 (by decide) ?_
        refine ok_goto (tgt := 154) dX5_choice_150 (by decide) ?_
        exact ok_ireturn dX5_choice_154 rfl h
    replace h := h.2
    by_cases c11_6 : l2 = 6
    · replace h := h.1 c11_6
      refine ok_tabIn (k := 6) (tgt := 155) dX5_choice_11 (by rw [c11_6]; decide) (by decide) (by rfl) (by decide) ?_
      refine ok_aload_n dX5_choice_155 rfl rfl ?_
      refine ok_getR (j := 0) dX5_choice_156 fX5_choice_10 (by decide) rp_k154 rfl (by decide) ?_
      refine ok_iload_n dX5_choice_159 rfl rfl ?_
      refine ok_iconst (v := 2) dX5_choice_160 (by decide) ?_
      refine ok_aload_n dX5_choice_161 rfl rfl ?_
      refine ok_iconst (v := 1) dX5_choice_162 (by decide) ?_
      obtain ⟨v41, M42, r43, h⟩ := h
      refine ok_callV2 dX5_choice_163 kX5_choice_134 r43 (by decide) rp_k154 rfl rfl (Nat.le_of_ble_eq_true rfl) ?_
      rintro _ _ ⟨rfl, rfl⟩
      obtain ⟨v44, M45, r46, h⟩ := h
      refine ok_callV2 dX5_choice_166 kX5_choice_157 r46 (by decide) rp_k0 rfl rfl (Nat.le_of_ble_eq_true rfl) ?_
      rintro _ _ ⟨rfl, rfl⟩
      exact ok_ireturn dX5_choice_169 rfl h
    replace h := h.2
    by_cases c11_7 : l2 = 7
    · replace h := h.1 c11_7
      refine ok_tabIn (k := 7) (tgt := 170) dX5_choice_11 (by rw [c11_7]; decide) (by decide) (by rfl) (by decide) ?_
      refine ok_aload_n dX5_choice_170 rfl rfl ?_
      refine ok_iload_n dX5_choice_171 rfl rfl ?_
      obtain ⟨v47, M48, r49, h⟩ := h
      refine ok_callV2 dX5_choice_172 kX5_choice_144 r49 (by decide) rp_k154 rfl rfl (Nat.le_of_ble_eq_true rfl) ?_
      rintro _ _ ⟨rfl, rfl⟩
      exact ok_ireturn dX5_choice_175 rfl h
    replace h := h.2
    by_cases c11_8 : l2 = 8
    · replace h := h.1 c11_8
      refine ok_tabIn (k := 8) (tgt := 176) dX5_choice_11 (by rw [c11_8]; decide) (by decide) (by rfl) (by decide) ?_
      refine ok_aload_n dX5_choice_176 rfl rfl ?_
      refine ok_iload_n dX5_choice_177 rfl rfl ?_
      obtain ⟨v50, M51, r52, h⟩ := h
      refine ok_callV2 dX5_choice_178 kX5_choice_161 r52 (by decide) rp_k154 rfl rfl (Nat.le_of_ble_eq_true rfl) ?_
      rintro _ _ ⟨rfl, rfl⟩
      exact ok_ireturn dX5_choice_181 rfl h
    replace h := h.2
    replace h := h c11_0 c11_1 c11_2 c11_3 c11_4 c11_5 c11_6 c11_7 c11_8
    refine ok_tabOut (tgt := 182) dX5_choice_11 (by have q := rp_tab_out (x := l2) 9 (by decide) (fun j hj => match j, hj with | 0, _ => c11_0 | 1, _ => c11_1 | 2, _ => c11_2 | 3, _ => c11_3 | 4, _ => c11_4 | 5, _ => c11_5 | 6, _ => c11_6 | 7, _ => c11_7 | 8, _ => c11_8 | j + 9, hj => absurd hj (by omega)); omega) (by decide) ?_
    refine ok_bipush (v := (-2)) dX5_choice_182 (by decide) ?_
    exact ok_ireturn dX5_choice_184 rfl h
  · replace h := h.2 c4
    refine ok_iconst (v := (-1)) dX5_choice_8 (by decide) ?_
    exact ok_ireturn dX5_choice_9 rfl h
theorem vX5_weightIn (E : rp_E) (post : Option Int32 → rp_M → Prop) (M : rp_M) (l1 : Int32) (l2 : Int32) (h : ∃ v1 M2, rp_C E YX5_isChoice [.ref 154, .int l1] M (some v1) M2 ∧ ((v1 = 0 → (post (some (-1)) M2)) ∧ (¬ v1 = 0 → (∃ v5 M6, rp_C E YX5_isChoice [.ref 154, .int l2] M2 (some v5) M6 ∧ ((¬ v5 = 0 → (∃ v9 M10, rp_C E YJ6_bitCount_0f7a4 [.int l2] M6 (some v9) M10 ∧ (∃ v12 M13, rp_C E YX5_budget [.ref 154, .int 1] M10 (some v12) M13 ∧ ((v9 ≤ v12 → (∃ v16 M17, rp_C E YX4_weightUnder [.ref 0, .int l1, .int l2] M13 (some v16) M17 ∧ (post (some v16) M17))) ∧ (¬ v9 ≤ v12 → (post (some (-5)) M13)))))) ∧ (v5 = 0 → (post (some (-1)) M6))))))) : rp_Run E YX5_weightIn [.ref 154, .int l1, .int l2] M post := by
  refine ok_start (by decide) oX5_weightIn (Nat.le_of_ble_eq_true rfl) ?_
  refine ok_aload_n dX5_weightIn_0 rfl rfl ?_
  refine ok_iload_n dX5_weightIn_1 rfl rfl ?_
  obtain ⟨v1, M2, r3, h⟩ := h
  refine ok_callV2 dX5_weightIn_2 kX5_weightIn_128 r3 (by decide) rp_k154 rfl rfl (Nat.le_of_ble_eq_true rfl) ?_
  rintro _ _ ⟨rfl, rfl⟩
  refine ok_if_eq (tgt := 16) dX5_weightIn_5 (by decide) (fun c4 => ?_) (fun c4 => ?_)
  · replace h := h.1 c4
    refine ok_iconst (v := (-1)) dX5_weightIn_16 (by decide) ?_
    exact ok_ireturn dX5_weightIn_17 rfl h
  · replace h := h.2 c4
    refine ok_aload_n dX5_weightIn_8 rfl rfl ?_
    refine ok_iload_n dX5_weightIn_9 rfl rfl ?_
    obtain ⟨v5, M6, r7, h⟩ := h
    refine ok_callV2 dX5_weightIn_10 kX5_weightIn_128 r7 (by decide) rp_k154 rfl rfl (Nat.le_of_ble_eq_true rfl) ?_
    rintro _ _ ⟨rfl, rfl⟩
    refine ok_if_ne (tgt := 18) dX5_weightIn_13 (by decide) (fun c8 => ?_) (fun c8 => ?_)
    · replace h := h.1 c8
      refine ok_iload_n dX5_weightIn_18 rfl rfl ?_
      obtain ⟨v9, M10, r11, h⟩ := h
      refine ok_callS2 dX5_weightIn_19 kX5_weightIn_164 r11 rfl rfl (Nat.le_of_ble_eq_true rfl) ?_
      rintro _ _ ⟨rfl, rfl⟩
      refine ok_aload_n dX5_weightIn_22 rfl rfl ?_
      refine ok_iconst (v := 1) dX5_weightIn_23 (by decide) ?_
      obtain ⟨v12, M13, r14, h⟩ := h
      refine ok_callV2 dX5_weightIn_24 kX5_weightIn_134 r14 (by decide) rp_k154 rfl rfl (Nat.le_of_ble_eq_true rfl) ?_
      rintro _ _ ⟨rfl, rfl⟩
      refine ok_icmp_le (tgt := 33) dX5_weightIn_27 (by decide) (fun c15 => ?_) (fun c15 => ?_)
      · replace h := h.1 c15
        refine ok_aload_n dX5_weightIn_33 rfl rfl ?_
        refine ok_getR (j := 0) dX5_weightIn_34 fX5_weightIn_10 (by decide) rp_k154 rfl (by decide) ?_
        refine ok_iload_n dX5_weightIn_37 rfl rfl ?_
        refine ok_iload_n dX5_weightIn_38 rfl rfl ?_
        obtain ⟨v16, M17, r18, h⟩ := h
        refine ok_callV2 dX5_weightIn_39 kX5_weightIn_131 r18 (by decide) rp_k0 rfl rfl (Nat.le_of_ble_eq_true rfl) ?_
        rintro _ _ ⟨rfl, rfl⟩
        exact ok_ireturn dX5_weightIn_42 rfl h
      · replace h := h.2 c15
        refine ok_bipush (v := (-5)) dX5_weightIn_30 (by decide) ?_
        exact ok_ireturn dX5_weightIn_32 rfl h
    · replace h := h.2 c8
      refine ok_iconst (v := (-1)) dX5_weightIn_16 (by decide) ?_
      exact ok_ireturn dX5_weightIn_17 rfl h
