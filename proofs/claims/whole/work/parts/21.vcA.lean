theorem vJ6_bitCount_0f7a4 (E : rp_E) (post : Option Int32 → rp_M → Prop) (M : rp_M) (l0 : Int32) (h : post (some ((((((((l0 - ((rp_ush l0 1) &&& 1431655765)) &&& 858993459) + ((rp_ush (l0 - ((rp_ush l0 1) &&& 1431655765)) 2) &&& 858993459)) + (rp_ush (((l0 - ((rp_ush l0 1) &&& 1431655765)) &&& 858993459) + ((rp_ush (l0 - ((rp_ush l0 1) &&& 1431655765)) 2) &&& 858993459)) 4)) &&& 252645135) + (rp_ush (((((l0 - ((rp_ush l0 1) &&& 1431655765)) &&& 858993459) + ((rp_ush (l0 - ((rp_ush l0 1) &&& 1431655765)) 2) &&& 858993459)) + (rp_ush (((l0 - ((rp_ush l0 1) &&& 1431655765)) &&& 858993459) + ((rp_ush (l0 - ((rp_ush l0 1) &&& 1431655765)) 2) &&& 858993459)) 4)) &&& 252645135) 8)) + (rp_ush ((((((l0 - ((rp_ush l0 1) &&& 1431655765)) &&& 858993459) + ((rp_ush (l0 - ((rp_ush l0 1) &&& 1431655765)) 2) &&& 858993459)) + (rp_ush (((l0 - ((rp_ush l0 1) &&& 1431655765)) &&& 858993459) + ((rp_ush (l0 - ((rp_ush l0 1) &&& 1431655765)) 2) &&& 858993459)) 4)) &&& 252645135) + (rp_ush (((((l0 - ((rp_ush l0 1) &&& 1431655765)) &&& 858993459) + ((rp_ush (l0 - ((rp_ush l0 1) &&& 1431655765)) 2) &&& 858993459)) + (rp_ush (((l0 - ((rp_ush l0 1) &&& 1431655765)) &&& 858993459) + ((rp_ush (l0 - ((rp_ush l0 1) &&& 1431655765)) 2) &&& 858993459)) 4)) &&& 252645135) 8)) 16)) &&& 63)) M) : rp_Run E YJ6_bitCount_0f7a4 [.int l0] M post := by
  refine ok_start (by decide) oJ6_bitCount_0f7a4 (Nat.le_of_ble_eq_true rfl) ?_
  refine ok_iload_n dJ6_bitCount_0f7a4_0 rfl rfl ?_
  refine ok_iload_n dJ6_bitCount_0f7a4_1 rfl rfl ?_
  refine ok_iconst (v := 1) dJ6_bitCount_0f7a4_2 (by decide) ?_
  refine ok_iushr dJ6_bitCount_0f7a4_3 ?_
  refine ok_ldcw fJ6_bitCount_0f7a4_265 dJ6_bitCount_0f7a4_4 ?_
  refine ok_iand dJ6_bitCount_0f7a4_7 ?_
  refine ok_isub dJ6_bitCount_0f7a4_8 ?_
  refine ok_istore_n dJ6_bitCount_0f7a4_9 rfl (by decide) rfl ?_
  refine ok_iload_n dJ6_bitCount_0f7a4_10 rfl rfl ?_
  refine ok_ldcw fJ6_bitCount_0f7a4_266 dJ6_bitCount_0f7a4_11 ?_
  refine ok_iand dJ6_bitCount_0f7a4_14 ?_
  refine ok_iload_n dJ6_bitCount_0f7a4_15 rfl rfl ?_
  refine ok_iconst (v := 2) dJ6_bitCount_0f7a4_16 (by decide) ?_
  refine ok_iushr dJ6_bitCount_0f7a4_17 ?_
  refine ok_ldcw fJ6_bitCount_0f7a4_266 dJ6_bitCount_0f7a4_18 ?_
  refine ok_iand dJ6_bitCount_0f7a4_21 ?_
  refine ok_iadd dJ6_bitCount_0f7a4_22 ?_
  refine ok_istore_n dJ6_bitCount_0f7a4_23 rfl (by decide) rfl ?_
  refine ok_iload_n dJ6_bitCount_0f7a4_24 rfl rfl ?_
  refine ok_iload_n dJ6_bitCount_0f7a4_25 rfl rfl ?_
  refine ok_iconst (v := 4) dJ6_bitCount_0f7a4_26 (by decide) ?_
  refine ok_iushr dJ6_bitCount_0f7a4_27 ?_
  refine ok_iadd dJ6_bitCount_0f7a4_28 ?_
  refine ok_ldcw fJ6_bitCount_0f7a4_267 dJ6_bitCount_0f7a4_29 ?_
  refine ok_iand dJ6_bitCount_0f7a4_32 ?_
  refine ok_istore_n dJ6_bitCount_0f7a4_33 rfl (by decide) rfl ?_
  refine ok_iload_n dJ6_bitCount_0f7a4_34 rfl rfl ?_
  refine ok_iload_n dJ6_bitCount_0f7a4_35 rfl rfl ?_
  refine ok_bipush (v := 8) dJ6_bitCount_0f7a4_36 (by decide) ?_
  refine ok_iushr dJ6_bitCount_0f7a4_38 ?_
  refine ok_iadd dJ6_bitCount_0f7a4_39 ?_
  refine ok_istore_n dJ6_bitCount_0f7a4_40 rfl (by decide) rfl ?_
  refine ok_iload_n dJ6_bitCount_0f7a4_41 rfl rfl ?_
  refine ok_iload_n dJ6_bitCount_0f7a4_42 rfl rfl ?_
  refine ok_bipush (v := 16) dJ6_bitCount_0f7a4_43 (by decide) ?_
  refine ok_iushr dJ6_bitCount_0f7a4_45 ?_
  refine ok_iadd dJ6_bitCount_0f7a4_46 ?_
  refine ok_istore_n dJ6_bitCount_0f7a4_47 rfl (by decide) rfl ?_
  refine ok_iload_n dJ6_bitCount_0f7a4_48 rfl rfl ?_
  refine ok_bipush (v := 63) dJ6_bitCount_0f7a4_49 (by decide) ?_
  refine ok_iand dJ6_bitCount_0f7a4_51 ?_
  exact ok_ireturn dJ6_bitCount_0f7a4_52 rfl h
theorem vX5_sumUp (E : rp_E) (post : Option Int32 → rp_M → Prop) (M : rp_M) {r0 n0 : Nat} (hr0 : r0 < 170) (sr0 : rp_sh r0 = (0, n0, [])) {r1 n1 : Nat} (hr1 : r1 < 170) (sr1 : rp_sh r1 = (0, n1, [])) (l2 : Int32) (h : vp_in 0 n0 ∧ (∀ M2, M2 = rp_s M r0 0 0 → (rp_G E YX5_sumUp post 6 [.ref r0, .ref r1, .int l2, .int 0, .null, .null] [] M2))) : rp_Run E YX5_sumUp [.ref r0, .ref r1, .int l2] M post := by
  refine ok_start (by decide) oX5_sumUp (Nat.le_of_ble_eq_true rfl) ?_
  refine ok_aload_n dX5_sumUp_0 rfl rfl ?_
  refine ok_iconst (v := 0) dX5_sumUp_1 (by decide) ?_
  refine ok_iconst (v := 0) dX5_sumUp_2 (by decide) ?_
  have b1 := h.1
  replace h := h.2
  refine ok_iastore (j := 0) dX5_sumUp_3 hr0 sr0 b1 (by decide) ?_
  replace h := h _ rfl
  refine ok_iconst (v := 0) dX5_sumUp_4 (by decide) ?_
  refine ok_istore_n dX5_sumUp_5 rfl (by decide) rfl ?_
  exact ok_mask [true, true, true, true, false, false] h
theorem vX5_sumUp_6 (E : rp_E) (post : Option Int32 → rp_M → Prop) (M : rp_M) {r0 n0 : Nat} (hr0 : r0 < 170) (sr0 : rp_sh r0 = (0, n0, [])) {r1 n1 : Nat} (hr1 : r1 < 170) (sr1 : rp_sh r1 = (0, n1, [])) (l2 : Int32) (l3 : Int32) (h : (l2 ≤ l3 → (post none M)) ∧ (¬ l2 ≤ l3 → (rp_G E YX5_sumUp post 19 [.ref r0, .ref r1, .int l2, .int l3, .int ((1 : Int32) <<< (l3 &&& 31) : Int32), .int 0] [] M))) : rp_G E YX5_sumUp post 6 [.ref r0, .ref r1, .int l2, .int l3, .null, .null] [] M := by
  refine ok_iload_n dX5_sumUp_6 rfl rfl ?_
  refine ok_iload_n dX5_sumUp_7 rfl rfl ?_
  refine ok_icmp_ge (tgt := 53) dX5_sumUp_8 (by decide) (fun c3 => ?_) (fun c3 => ?_)
  · replace h := h.1 c3
    exact ok_return dX5_sumUp_53 rfl h
  · replace h := h.2 c3
    refine ok_iconst (v := 1) dX5_sumUp_11 (by decide) ?_
    refine ok_iload_n dX5_sumUp_12 rfl rfl ?_
    refine ok_ishl dX5_sumUp_13 ?_
    refine ok_istore dX5_sumUp_14 (by decide) rfl ?_
    refine ok_iconst (v := 0) dX5_sumUp_16 (by decide) ?_
    refine ok_istore dX5_sumUp_17 (by decide) rfl ?_
    exact ok_mask [true, true, true, true, true, true] h
theorem vX5_sumUp_19 (E : rp_E) (post : Option Int32 → rp_M → Prop) (M : rp_M) {r0 n0 : Nat} (hr0 : r0 < 170) (sr0 : rp_sh r0 = (0, n0, [])) {r1 n1 : Nat} (hr1 : r1 < 170) (sr1 : rp_sh r1 = (0, n1, [])) (l2 : Int32) (l3 : Int32) (l4 : Int32) (l5 : Int32) (h : (l4 ≤ l5 → (rp_G E YX5_sumUp post 6 [.ref r0, .ref r1, .int l2, .int (l3 + 1), .null, .null] [] M)) ∧ (¬ l4 ≤ l5 → (vp_in l5 n0 ∧ (vp_in l3 n1 ∧ (vp_in (l4 ||| l5) n0 ∧ (∀ M8, M8 = rp_s M r0 (Int32.toNatClampNeg (l4 ||| l5)) ((M r0 (Int32.toNatClampNeg l5)) + (M r1 (Int32.toNatClampNeg l3))) → (rp_G E YX5_sumUp post 19 [.ref r0, .ref r1, .int l2, .int l3, .int l4, .int (l5 + 1)] [] M8))))))) : rp_G E YX5_sumUp post 19 [.ref r0, .ref r1, .int l2, .int l3, .int l4, .int l5] [] M := by
  refine ok_iload dX5_sumUp_19 rfl ?_
  refine ok_iload dX5_sumUp_21 rfl ?_
  refine ok_icmp_ge (tgt := 47) dX5_sumUp_23 (by decide) (fun c4 => ?_) (fun c4 => ?_)
  · replace h := h.1 c4
    refine ok_iinc2 (w := 1) dX5_sumUp_47 rfl (by decide) (by decide) rfl ?_
    refine ok_goto (tgt := 6) dX5_sumUp_50 (by decide) ?_
    exact ok_mask [true, true, true, true, false, false] h
  · replace h := h.2 c4
    refine ok_aload_n dX5_sumUp_26 rfl rfl ?_
    refine ok_iload dX5_sumUp_27 rfl ?_
    refine ok_iload dX5_sumUp_29 rfl ?_
    refine ok_ior dX5_sumUp_31 ?_
    refine ok_aload_n dX5_sumUp_32 rfl rfl ?_
    refine ok_iload dX5_sumUp_33 rfl ?_
    have b5 := h.1
    replace h := h.2
    refine ok_iaload dX5_sumUp_35 hr0 sr0 b5 rfl ?_
    refine ok_aload_n dX5_sumUp_36 rfl rfl ?_
    refine ok_iload_n dX5_sumUp_37 rfl rfl ?_
    have b6 := h.1
    replace h := h.2
    refine ok_iaload dX5_sumUp_38 hr1 sr1 b6 rfl ?_
    refine ok_iadd dX5_sumUp_39 ?_
    have b7 := h.1
    replace h := h.2
    refine ok_iastore dX5_sumUp_40 hr0 sr0 b7 rfl ?_
    replace h := h _ rfl
    refine ok_iinc2 (w := 1) dX5_sumUp_41 rfl (by decide) (by decide) rfl ?_
    refine ok_goto (tgt := 19) dX5_sumUp_44 (by decide) ?_
    exact ok_mask [true, true, true, true, true, true] h
theorem vX4_rivals (E : rp_E) (post : Option Int32 → rp_M → Prop) (M : rp_M) (l1 : Int32) (h : vp_in l1 12 ∧ (rp_G E YX4_rivals post 19 [.ref 0, .int l1, .int (M 7 (Int32.toNatClampNeg l1)), .int (M 6 (Int32.toNatClampNeg l1)), .int 0] [] M)) : rp_Run E YX4_rivals [.ref 0, .int l1] M post := by
  refine ok_start (by decide) oX4_rivals (Nat.le_of_ble_eq_true rfl) ?_
  refine ok_aload_n dX4_rivals_0 rfl rfl ?_
  refine ok_getR (j := 7) dX4_rivals_1 fX4_rivals_16 (by decide) rp_k0 rfl (by decide) ?_
  refine ok_iload_n dX4_rivals_4 rfl rfl ?_
  have b1 := h.1
  replace h := h.2
  refine ok_iaload dX4_rivals_5 (by decide) rp_k7 b1 rfl ?_
  refine ok_istore_n dX4_rivals_6 rfl (by decide) rfl ?_
  refine ok_aload_n dX4_rivals_7 rfl rfl ?_
  refine ok_getR (j := 1) dX4_rivals_8 fX4_rivals_11 (by decide) rp_k0 rfl (by decide) ?_
  refine ok_iconst (v := 4) dX4_rivals_11 (by decide) ?_
  refine ok_aaload2 (j := 6) dX4_rivals_12 (by decide) rp_k1 (rp_vi (by decide)) (by rfl) (by decide) ?_
  refine ok_iload_n dX4_rivals_13 rfl rfl ?_
  refine ok_iaload dX4_rivals_14 (by decide) rp_k6 b1 rfl ?_
  refine ok_istore_n dX4_rivals_15 rfl (by decide) rfl ?_
  refine ok_iconst (v := 0) dX4_rivals_16 (by decide) ?_
  refine ok_istore dX4_rivals_17 (by decide) rfl ?_
  exact ok_mask [true, true, true, true, true] h
theorem vX4_rivals_19 (E : rp_E) (post : Option Int32 → rp_M → Prop) (M : rp_M) (l1 : Int32) (l2 : Int32) (l3 : Int32) (l4 : Int32) (h : ((M 0 4) ≤ l4 → (post (some l2) M)) ∧ (¬ (M 0 4) ≤ l4 → ((l4 = l1 → (rp_G E YX4_rivals post 19 [.ref 0, .int l1, .int l2, .int l3, .int (l4 + 1)] [] M)) ∧ (¬ l4 = l1 → ((l3 = (-1) → (rp_G E YX4_rivals post 19 [.ref 0, .int l1, .int l2, .int l3, .int (l4 + 1)] [] M)) ∧ (¬ l3 = (-1) → (vp_in l4 12 ∧ ((¬ (M 6 (Int32.toNatClampNeg l4)) = l3 → (rp_G E YX4_rivals post 19 [.ref 0, .int l1, .int l2, .int l3, .int (l4 + 1)] [] M)) ∧ ((M 6 (Int32.toNatClampNeg l4)) = l3 → (rp_G E YX4_rivals post 19 [.ref 0, .int l1, .int (l2 ||| ((1 : Int32) <<< (l4 &&& 31) : Int32)), .int l3, .int (l4 + 1)] [] M)))))))))) : rp_G E YX4_rivals post 19 [.ref 0, .int l1, .int l2, .int l3, .int l4] [] M := by
  refine ok_iload dX4_rivals_19 rfl ?_
  refine ok_aload_n dX4_rivals_21 rfl rfl ?_
  refine ok_getI dX4_rivals_22 fX4_rivals_26 (by decide) rp_k0 rfl ?_
  refine ok_icmp_ge (tgt := 65) dX4_rivals_25 (by decide) (fun c2 => ?_) (fun c2 => ?_)
  · replace h := h.1 c2
    refine ok_iload_n dX4_rivals_65 rfl rfl ?_
    exact ok_ireturn dX4_rivals_66 rfl h
  · replace h := h.2 c2
    refine ok_iload dX4_rivals_28 rfl ?_
    refine ok_iload_n dX4_rivals_30 rfl rfl ?_
    refine ok_icmp_eq (tgt := 59) dX4_rivals_31 (by decide) (fun c3 => ?_) (fun c3 => ?_)
    · replace h := h.1 c3
      refine ok_iinc2 (w := 1) dX4_rivals_59 rfl (by decide) (by decide) rfl ?_
      refine ok_goto (tgt := 19) dX4_rivals_62 (by decide) ?_
      exact ok_mask [true, true, true, true, true] h
    · replace h := h.2 c3
      refine ok_iload_n dX4_rivals_34 rfl rfl ?_
      refine ok_iconst (v := (-1)) dX4_rivals_35 (by decide) ?_
      refine ok_icmp_eq (tgt := 59) dX4_rivals_36 (by decide) (fun c4 => ?_) (fun c4 => ?_)
      · replace h := h.1 c4
        refine ok_iinc2 (w := 1) dX4_rivals_59 rfl (by decide) (by decide) rfl ?_
        refine ok_goto (tgt := 19) dX4_rivals_62 (by decide) ?_
        exact ok_mask [true, true, true, true, true] h
      · replace h := h.2 c4
        refine ok_aload_n dX4_rivals_39 rfl rfl ?_
        refine ok_getR (j := 1) dX4_rivals_40 fX4_rivals_11 (by decide) rp_k0 rfl (by decide) ?_
        refine ok_iconst (v := 4) dX4_rivals_43 (by decide) ?_
        refine ok_aaload2 (j := 6) dX4_rivals_44 (by decide) rp_k1 (rp_vi (by decide)) (by rfl) (by decide) ?_
        refine ok_iload dX4_rivals_45 rfl ?_
        have b5 := h.1
        replace h := h.2
        refine ok_iaload dX4_rivals_47 (by decide) rp_k6 b5 rfl ?_
        refine ok_iload_n dX4_rivals_48 rfl rfl ?_
        refine ok_icmp_ne (tgt := 59) dX4_rivals_49 (by decide) (fun c6 => ?_) (fun c6 => ?_)
        · replace h := h.1 c6
          refine ok_iinc2 (w := 1) dX4_rivals_59 rfl (by decide) (by decide) rfl ?_
          refine ok_goto (tgt := 19) dX4_rivals_62 (by decide) ?_
          exact ok_mask [true, true, true, true, true] h
        · replace h := h.2 c6
          refine ok_iload_n dX4_rivals_52 rfl rfl ?_
          refine ok_iconst (v := 1) dX4_rivals_53 (by decide) ?_
          refine ok_iload dX4_rivals_54 rfl ?_
          refine ok_ishl dX4_rivals_56 ?_
          refine ok_ior dX4_rivals_57 ?_
          refine ok_istore_n dX4_rivals_58 rfl (by decide) rfl ?_
          refine ok_iinc2 (w := 1) dX4_rivals_59 rfl (by decide) (by decide) rfl ?_
          refine ok_goto (tgt := 19) dX4_rivals_62 (by decide) ?_
          exact ok_mask [true, true, true, true, true] h
theorem vX4_copyFrom (E : rp_E) (post : Option Int32 → rp_M → Prop) (M : rp_M) (a b : Nat) (ha : a < 13) (hb : b < 13)  (h : rp_G E YX4_copyFrom post 2 [.ref (10 * a), .ref (10 * b), .int 0] [] M) : rp_Run E YX4_copyFrom [.ref (10 * a), .ref (10 * b)] M post := by
  refine ok_start (by decide) oX4_copyFrom (Nat.le_of_ble_eq_true rfl) ?_
  refine ok_iconst (v := 0) dX4_copyFrom_0 (by decide) ?_
  refine ok_istore_n dX4_copyFrom_1 rfl (by decide) rfl ?_
  exact ok_mask [true, true, true] h
theorem vX4_copyFrom_2 (E : rp_E) (post : Option Int32 → rp_M → Prop) (M : rp_M) (a b : Nat) (ha : a < 13) (hb : b < 13) (l2 : Int32) (h : (5 ≤ l2 → (∀ M2, M2 = rp_row M (10 * a + 7) (va_cpy (M (10 * b + 7)) (M (10 * a + 7)) 0 0 12) → (∀ M3, M3 = rp_row M2 (10 * a + 8) (va_cpy (M2 (10 * b + 8)) (M2 (10 * a + 8)) 0 0 12) → (∀ M4, M4 = rp_row M3 (10 * a + 9) (va_cpy (M3 (10 * b + 9)) (M3 (10 * a + 9)) 0 0 3) → (∀ M5, M5 = rp_s M4 (10 * a) 4 (M4 (10 * b) 4) → (post none M5)))))) ∧ (¬ 5 ≤ l2 → (vp_in l2 5 ∧ (∀ M7, M7 = rp_row M (10 * a + 2 + Int32.toNatClampNeg l2) (va_cpy (M (10 * b + 2 + Int32.toNatClampNeg l2)) (M (10 * a + 2 + Int32.toNatClampNeg l2)) 0 0 12) → (rp_G E YX4_copyFrom post 2 [.ref (10 * a), .ref (10 * b), .int (l2 + 1)] [] M7))))) : rp_G E YX4_copyFrom post 2 [.ref (10 * a), .ref (10 * b), .int l2] [] M := by
  refine ok_iload_n dX4_copyFrom_2 rfl rfl ?_
  refine ok_iconst (v := 5) dX4_copyFrom_3 (by decide) ?_
  refine ok_icmp_ge (tgt := 32) dX4_copyFrom_4 (by decide) (fun c1 => ?_) (fun c1 => ?_)
  · replace h := h.1 c1
    refine ok_aload_n dX4_copyFrom_32 rfl rfl ?_
    refine ok_getR (j := 10 * b + 7) dX4_copyFrom_33 fX4_copyFrom_16 (by omega) (rp_sh_st hb) rfl (by omega) ?_
    refine ok_iconst (v := 0) dX4_copyFrom_36 (by decide) ?_
    refine ok_aload_n dX4_copyFrom_37 rfl rfl ?_
    refine ok_getR (j := 10 * a + 7) dX4_copyFrom_38 fX4_copyFrom_16 (by omega) (rp_sh_st ha) rfl (by omega) ?_
    refine ok_iconst (v := 0) dX4_copyFrom_41 (by decide) ?_
    refine ok_bipush (v := 12) dX4_copyFrom_42 (by decide) ?_
    refine ok_copy dX4_copyFrom_44 kX4_copyFrom_30 (by omega) (by omega) (rp_sh_s7 hb) (rp_sh_s7 ha) (by decide) (by decide) (by decide) (by decide) (by decide) (by decide) ?_
    replace h := h _ rfl
    refine ok_aload_n dX4_copyFrom_47 rfl rfl ?_
    refine ok_getR (j := 10 * b + 8) dX4_copyFrom_48 fX4_copyFrom_20 (by omega) (rp_sh_st hb) rfl (by omega) ?_
    refine ok_iconst (v := 0) dX4_copyFrom_51 (by decide) ?_
    refine ok_aload_n dX4_copyFrom_52 rfl rfl ?_
    refine ok_getR (j := 10 * a + 8) dX4_copyFrom_53 fX4_copyFrom_20 (by omega) (rp_sh_st ha) rfl (by omega) ?_
    refine ok_iconst (v := 0) dX4_copyFrom_56 (by decide) ?_
    refine ok_bipush (v := 12) dX4_copyFrom_57 (by decide) ?_
    refine ok_copy dX4_copyFrom_59 kX4_copyFrom_30 (by omega) (by omega) (rp_sh_s8 hb) (rp_sh_s8 ha) (by decide) (by decide) (by decide) (by decide) (by decide) (by decide) ?_
    replace h := h _ rfl
    refine ok_aload_n dX4_copyFrom_62 rfl rfl ?_
    refine ok_getR (j := 10 * b + 9) dX4_copyFrom_63 fX4_copyFrom_23 (by omega) (rp_sh_st hb) rfl (by omega) ?_
    refine ok_iconst (v := 0) dX4_copyFrom_66 (by decide) ?_
    refine ok_aload_n dX4_copyFrom_67 rfl rfl ?_
    refine ok_getR (j := 10 * a + 9) dX4_copyFrom_68 fX4_copyFrom_23 (by omega) (rp_sh_st ha) rfl (by omega) ?_
    refine ok_iconst (v := 0) dX4_copyFrom_71 (by decide) ?_
    refine ok_iconst (v := 3) dX4_copyFrom_72 (by decide) ?_
    refine ok_copy dX4_copyFrom_73 kX4_copyFrom_30 (by omega) (by omega) (rp_sh_s9 hb) (rp_sh_s9 ha) (by decide) (by decide) (by decide) (by decide) (by decide) (by decide) ?_
    replace h := h _ rfl
    refine ok_aload_n dX4_copyFrom_76 rfl rfl ?_
    refine ok_aload_n dX4_copyFrom_77 rfl rfl ?_
    refine ok_getI dX4_copyFrom_78 fX4_copyFrom_26 (by omega) (rp_sh_st hb) rfl ?_
    refine ok_put dX4_copyFrom_81 pX4_copyFrom_26 (by omega) (rp_sh_st ha) rfl rfl rfl ?_
    replace h := h _ rfl
    exact ok_return dX4_copyFrom_84 rfl h
  · replace h := h.2 c1
    refine ok_aload_n dX4_copyFrom_7 rfl rfl ?_
    refine ok_getR (j := 10 * b + 1) dX4_copyFrom_8 fX4_copyFrom_11 (by omega) (rp_sh_st hb) rfl (by omega) ?_
    refine ok_iload_n dX4_copyFrom_11 rfl rfl ?_
    have b6 := h.1
    replace h := h.2
    refine ok_props hb dX4_copyFrom_12 b6 ?_
    refine ok_iconst (v := 0) dX4_copyFrom_13 (by decide) ?_
    refine ok_aload_n dX4_copyFrom_14 rfl rfl ?_
    refine ok_getR (j := 10 * a + 1) dX4_copyFrom_15 fX4_copyFrom_11 (by omega) (rp_sh_st ha) rfl (by omega) ?_
    refine ok_iload_n dX4_copyFrom_18 rfl rfl ?_
    refine ok_props ha dX4_copyFrom_19 b6 ?_
    refine ok_iconst (v := 0) dX4_copyFrom_20 (by decide) ?_
    refine ok_bipush (v := 12) dX4_copyFrom_21 (by decide) ?_
    refine ok_copy dX4_copyFrom_23 kX4_copyFrom_30 (by have := rp_b b6; omega) (by have := rp_b b6; omega) (rp_sh_ps hb (rp_b b6)) (rp_sh_ps ha (rp_b b6)) (by decide) (by decide) (by decide) (by decide) (by decide) (by decide) ?_
    replace h := h _ rfl
    refine ok_iinc2 (w := 1) dX4_copyFrom_26 rfl (by decide) (by decide) rfl ?_
    refine ok_goto (tgt := 2) dX4_copyFrom_29 (by decide) ?_
    exact ok_mask [true, true, true] h
theorem vX4_append (E : rp_E) (post : Option Int32 → rp_M → Prop) (M : rp_M) (l1 : Int32) (l2 : Int32) (l3 : Int32) (l4 : Int32) (l5 : Int32) (h : ((M 0 4) < 12 → (vp_in (M 0 4) 12 ∧ (∀ M3, M3 = rp_s M 2 (Int32.toNatClampNeg (M 0 4)) l1 → (vp_in (M3 0 4) 12 ∧ (∀ M5, M5 = rp_s M3 3 (Int32.toNatClampNeg (M3 0 4)) l2 → (vp_in (M5 0 4) 12 ∧ (∀ M7, M7 = rp_s M5 4 (Int32.toNatClampNeg (M5 0 4)) l3 → (vp_in (M7 0 4) 12 ∧ (∀ M9, M9 = rp_s M7 5 (Int32.toNatClampNeg (M7 0 4)) l4 → (vp_in (M9 0 4) 12 ∧ (∀ M11, M11 = rp_s M9 6 (Int32.toNatClampNeg (M9 0 4)) l5 → (vp_in (M11 0 4) 12 ∧ (∀ M13, M13 = rp_s M11 7 (Int32.toNatClampNeg (M11 0 4)) 0 → (vp_in (M13 0 4) 12 ∧ (∀ M15, M15 = rp_s M13 8 (Int32.toNatClampNeg (M13 0 4)) 0 → (∀ M16, M16 = rp_s M15 0 4 ((M15 0 4) + 1) → (post none M16))))))))))))))))) ∧ (¬ (M 0 4) < 12 → (post none M))) : rp_Run E YX4_append [.ref 0, .int l1, .int l2, .int l3, .int l4, .int l5] M post := by
  refine ok_start (by decide) oX4_append (Nat.le_of_ble_eq_true rfl) ?_
  refine ok_aload_n dX4_append_0 rfl rfl ?_
  refine ok_getI dX4_append_1 fX4_append_26 (by decide) rp_k0 rfl ?_
  refine ok_bipush (v := 12) dX4_append_4 (by decide) ?_
  refine ok_icmp_lt (tgt := 10) dX4_append_6 (by decide) (fun c1 => ?_) (fun c1 => ?_)
  · replace h := h.1 c1
    refine ok_aload_n dX4_append_10 rfl rfl ?_
    refine ok_getR (j := 1) dX4_append_11 fX4_append_11 (by decide) rp_k0 rfl (by decide) ?_
    refine ok_iconst (v := 0) dX4_append_14 (by decide) ?_
    refine ok_aaload2 (j := 2) dX4_append_15 (by decide) rp_k1 (rp_vi (by decide)) (by rfl) (by decide) ?_
    refine ok_aload_n dX4_append_16 rfl rfl ?_
    refine ok_getI dX4_append_17 fX4_append_26 (by decide) rp_k0 rfl ?_
    refine ok_iload_n dX4_append_20 rfl rfl ?_
    have b2 := h.1
    replace h := h.2
    refine ok_iastore dX4_append_21 (by decide) rp_k2 b2 rfl ?_
    replace h := h _ rfl
    refine ok_aload_n dX4_append_22 rfl rfl ?_
    refine ok_getR (j := 1) dX4_append_23 fX4_append_11 (by decide) rp_k0 rfl (by decide) ?_
    refine ok_iconst (v := 1) dX4_append_26 (by decide) ?_
    refine ok_aaload2 (j := 3) dX4_append_27 (by decide) rp_k1 (rp_vi (by decide)) (by rfl) (by decide) ?_
    refine ok_aload_n dX4_append_28 rfl rfl ?_
    refine ok_getI dX4_append_29 fX4_append_26 (by decide) rp_k0 rfl ?_
    refine ok_iload_n dX4_append_32 rfl rfl ?_
    have b4 := h.1
    replace h := h.2
    refine ok_iastore dX4_append_33 (by decide) rp_k3 b4 rfl ?_
    replace h := h _ rfl
    refine ok_aload_n dX4_append_34 rfl rfl ?_
    refine ok_getR (j := 1) dX4_append_35 fX4_append_11 (by decide) rp_k0 rfl (by decide) ?_
    refine ok_iconst (v := 2) dX4_append_38 (by decide) ?_
    refine ok_aaload2 (j := 4) dX4_append_39 (by decide) rp_k1 (rp_vi (by decide)) (by rfl) (by decide) ?_
    refine ok_aload_n dX4_append_40 rfl rfl ?_
    refine ok_getI dX4_append_41 fX4_append_26 (by decide) rp_k0 rfl ?_
    refine ok_iload_n dX4_append_44 rfl rfl ?_
    have b6 := h.1
    replace h := h.2
    refine ok_iastore dX4_append_45 (by decide) rp_k4 b6 rfl ?_
    replace h := h _ rfl
    refine ok_aload_n dX4_append_46 rfl rfl ?_
    refine ok_getR (j := 1) dX4_append_47 fX4_append_11 (by decide) rp_k0 rfl (by decide) ?_
    refine ok_iconst (v := 3) dX4_append_50 (by decide) ?_
    refine ok_aaload2 (j := 5) dX4_append_51 (by decide) rp_k1 (rp_vi (by decide)) (by rfl) (by decide) ?_
    refine ok_aload_n dX4_append_52 rfl rfl ?_
    refine ok_getI dX4_append_53 fX4_append_26 (by decide) rp_k0 rfl ?_
    refine ok_iload dX4_append_56 rfl ?_
    have b8 := h.1
    replace h := h.2
    refine ok_iastore dX4_append_58 (by decide) rp_k5 b8 rfl ?_
    replace h := h _ rfl
    refine ok_aload_n dX4_append_59 rfl rfl ?_
    refine ok_getR (j := 1) dX4_append_60 fX4_append_11 (by decide) rp_k0 rfl (by decide) ?_
    refine ok_iconst (v := 4) dX4_append_63 (by decide) ?_
    refine ok_aaload2 (j := 6) dX4_append_64 (by decide) rp_k1 (rp_vi (by decide)) (by rfl) (by decide) ?_
    refine ok_aload_n dX4_append_65 rfl rfl ?_
    refine ok_getI dX4_append_66 fX4_append_26 (by decide) rp_k0 rfl ?_
    refine ok_iload dX4_append_69 rfl ?_
    have b10 := h.1
    replace h := h.2
    refine ok_iastore dX4_append_71 (by decide) rp_k6 b10 rfl ?_
    replace h := h _ rfl
    refine ok_aload_n dX4_append_72 rfl rfl ?_
    refine ok_getR (j := 7) dX4_append_73 fX4_append_16 (by decide) rp_k0 rfl (by decide) ?_
    refine ok_aload_n dX4_append_76 rfl rfl ?_
    refine ok_getI dX4_append_77 fX4_append_26 (by decide) rp_k0 rfl ?_
    refine ok_iconst (v := 0) dX4_append_80 (by decide) ?_
    have b12 := h.1
    replace h := h.2
    refine ok_iastore dX4_append_81 (by decide) rp_k7 b12 rfl ?_
    replace h := h _ rfl
    refine ok_aload_n dX4_append_82 rfl rfl ?_
    refine ok_getR (j := 8) dX4_append_83 fX4_append_20 (by decide) rp_k0 rfl (by decide) ?_
    refine ok_aload_n dX4_append_86 rfl rfl ?_
    refine ok_getI dX4_append_87 fX4_append_26 (by decide) rp_k0 rfl ?_
    refine ok_iconst (v := 0) dX4_append_90 (by decide) ?_
    have b14 := h.1
    replace h := h.2
    refine ok_iastore dX4_append_91 (by decide) rp_k8 b14 rfl ?_
    replace h := h _ rfl
    refine ok_aload_n dX4_append_92 rfl rfl ?_
    refine ok_dup dX4_append_93 rfl ?_
    refine ok_getI dX4_append_94 fX4_append_26 (by decide) rp_k0 rfl ?_
    refine ok_iconst (v := 1) dX4_append_97 (by decide) ?_
    refine ok_iadd dX4_append_98 ?_
    refine ok_put dX4_append_99 pX4_append_26 (by decide) rp_k0 rfl rfl rfl ?_
    replace h := h _ rfl
    exact ok_return dX4_append_102 rfl h
  · replace h := h.2 c1
    exact ok_return dX4_append_9 rfl h
theorem vX4_closeGap (E : rp_E) (post : Option Int32 → rp_M → Prop) (M : rp_M) (l0 : Int32) (l1 : Int32) (h : post (some ((l0 &&& (((1 : Int32) <<< (l1 &&& 31) : Int32) - (1 : Int32))) ||| ((l0 >>> (1 &&& 31) : Int32) &&& ((((1 : Int32) <<< (l1 &&& 31) : Int32) - (1 : Int32)) ^^^ (-1 : Int32))))) M) : rp_Run E YX4_closeGap [.int l0, .int l1] M post := by
  refine ok_start (by decide) oX4_closeGap (Nat.le_of_ble_eq_true rfl) ?_
  refine ok_iconst (v := 1) dX4_closeGap_0 (by decide) ?_
  refine ok_iload_n dX4_closeGap_1 rfl rfl ?_
  refine ok_ishl dX4_closeGap_2 ?_
  refine ok_iconst (v := 1) dX4_closeGap_3 (by decide) ?_
  refine ok_isub dX4_closeGap_4 ?_
  refine ok_istore_n dX4_closeGap_5 rfl (by decide) rfl ?_
  refine ok_iload_n dX4_closeGap_6 rfl rfl ?_
  refine ok_iload_n dX4_closeGap_7 rfl rfl ?_
  refine ok_iand dX4_closeGap_8 ?_
  refine ok_iload_n dX4_closeGap_9 rfl rfl ?_
  refine ok_iconst (v := 1) dX4_closeGap_10 (by decide) ?_
  refine ok_ishr dX4_closeGap_11 ?_
  refine ok_iload_n dX4_closeGap_12 rfl rfl ?_
  refine ok_iconst (v := (-1)) dX4_closeGap_13 (by decide) ?_
  refine ok_ixor dX4_closeGap_14 ?_
  refine ok_iand dX4_closeGap_15 ?_
  refine ok_ior dX4_closeGap_16 ?_
  exact ok_ireturn dX4_closeGap_17 rfl h
theorem vX4_takeOut (E : rp_E) (post : Option Int32 → rp_M → Prop) (M : rp_M) (l1 : Int32) (h : rp_G E YX4_takeOut post 4 [.ref 0, .int l1, .int (l1 + 1), .null] [] M) : rp_Run E YX4_takeOut [.ref 0, .int l1] M post := by
  refine ok_start (by decide) oX4_takeOut (Nat.le_of_ble_eq_true rfl) ?_
  refine ok_iload_n dX4_takeOut_0 rfl rfl ?_
  refine ok_iconst (v := 1) dX4_takeOut_1 (by decide) ?_
  refine ok_iadd dX4_takeOut_2 ?_
  refine ok_istore_n dX4_takeOut_3 rfl (by decide) rfl ?_
  exact ok_mask [true, true, true, false] h
theorem vX4_takeOut_4 (E : rp_E) (post : Option Int32 → rp_M → Prop) (M : rp_M) (l1 : Int32) (l2 : Int32) (h : ((M 0 4) ≤ l2 → (∀ M2, M2 = rp_s M 0 4 ((M 0 4) - 1) → (rp_G E YX4_takeOut post 89 [.ref 0, .int l1, .int 0, .null] [] M2))) ∧ (¬ (M 0 4) ≤ l2 → (rp_G E YX4_takeOut post 14 [.ref 0, .int l1, .int l2, .int 0] [] M))) : rp_G E YX4_takeOut post 4 [.ref 0, .int l1, .int l2, .null] [] M := by
  refine ok_iload_n dX4_takeOut_4 rfl rfl ?_
  refine ok_aload_n dX4_takeOut_5 rfl rfl ?_
  refine ok_getI dX4_takeOut_6 fX4_takeOut_26 (by decide) rp_k0 rfl ?_
  refine ok_icmp_ge (tgt := 77) dX4_takeOut_9 (by decide) (fun c1 => ?_) (fun c1 => ?_)
  · replace h := h.1 c1
    refine ok_aload_n dX4_takeOut_77 rfl rfl ?_
    refine ok_dup dX4_takeOut_78 rfl ?_
    refine ok_getI dX4_takeOut_79 fX4_takeOut_26 (by decide) rp_k0 rfl ?_
    refine ok_iconst (v := 1) dX4_takeOut_82 (by decide) ?_
    refine ok_isub dX4_takeOut_83 ?_
    refine ok_put dX4_takeOut_84 pX4_takeOut_26 (by decide) rp_k0 rfl rfl rfl ?_
    replace h := h _ rfl
    refine ok_iconst (v := 0) dX4_takeOut_87 (by decide) ?_
    refine ok_istore_n dX4_takeOut_88 rfl (by decide) rfl ?_
    exact ok_mask [true, true, true, false] h
  · replace h := h.2 c1
    refine ok_iconst (v := 0) dX4_takeOut_12 (by decide) ?_
    refine ok_istore_n dX4_takeOut_13 rfl (by decide) rfl ?_
    exact ok_mask [true, true, true, true] h
theorem vX4_takeOut_89 (E : rp_E) (post : Option Int32 → rp_M → Prop) (M : rp_M) (l1 : Int32) (l2 : Int32) (h : ((M 0 4) ≤ l2 → (post none M)) ∧ (¬ (M 0 4) ≤ l2 → (vp_in l2 12 ∧ (∃ v5 M6, rp_C E YX4_closeGap [.int (M 7 (Int32.toNatClampNeg l2)), .int l1] M (some v5) M6 ∧ (∀ M8, M8 = rp_s M6 7 (Int32.toNatClampNeg l2) v5 → (∃ v9 M10, rp_C E YX4_closeGap [.int (M8 8 (Int32.toNatClampNeg l2)), .int l1] M8 (some v9) M10 ∧ (∀ M12, M12 = rp_s M10 8 (Int32.toNatClampNeg l2) v9 → (rp_G E YX4_takeOut post 89 [.ref 0, .int l1, .int (l2 + 1), .null] [] M12)))))))) : rp_G E YX4_takeOut post 89 [.ref 0, .int l1, .int l2, .null] [] M := by
  refine ok_iload_n dX4_takeOut_89 rfl rfl ?_
  refine ok_aload_n dX4_takeOut_90 rfl rfl ?_
  refine ok_getI dX4_takeOut_91 fX4_takeOut_26 (by decide) rp_k0 rfl ?_
  refine ok_icmp_ge (tgt := 135) dX4_takeOut_94 (by decide) (fun c3 => ?_) (fun c3 => ?_)
  · replace h := h.1 c3
    exact ok_return dX4_takeOut_135 rfl h
  · replace h := h.2 c3
    refine ok_aload_n dX4_takeOut_97 rfl rfl ?_
    refine ok_getR (j := 7) dX4_takeOut_98 fX4_takeOut_16 (by decide) rp_k0 rfl (by decide) ?_
    refine ok_iload_n dX4_takeOut_101 rfl rfl ?_
    refine ok_aload_n dX4_takeOut_102 rfl rfl ?_
    refine ok_getR (j := 7) dX4_takeOut_103 fX4_takeOut_16 (by decide) rp_k0 rfl (by decide) ?_
    refine ok_iload_n dX4_takeOut_106 rfl rfl ?_
    have b4 := h.1
    replace h := h.2
    refine ok_iaload dX4_takeOut_107 (by decide) rp_k7 b4 rfl ?_
    refine ok_iload_n dX4_takeOut_108 rfl rfl ?_
    obtain ⟨v5, M6, r7, h⟩ := h
    refine ok_callS2 dX4_takeOut_109 kX4_takeOut_36 r7 rfl rfl (Nat.le_of_ble_eq_true rfl) ?_
    rintro _ _ ⟨rfl, rfl⟩
    refine ok_iastore dX4_takeOut_112 (by decide) rp_k7 b4 rfl ?_
    replace h := h _ rfl
    refine ok_aload_n dX4_takeOut_113 rfl rfl ?_
    refine ok_getR (j := 8) dX4_takeOut_114 fX4_takeOut_20 (by decide) rp_k0 rfl (by decide) ?_
    refine ok_iload_n dX4_takeOut_117 rfl rfl ?_
    refine ok_aload_n dX4_takeOut_118 rfl rfl ?_
    refine ok_getR (j := 8) dX4_takeOut_119 fX4_takeOut_20 (by decide) rp_k0 rfl (by decide) ?_
    refine ok_iload_n dX4_takeOut_122 rfl rfl ?_
    refine ok_iaload dX4_takeOut_123 (by decide) rp_k8 b4 rfl ?_
    refine ok_iload_n dX4_takeOut_124 rfl rfl ?_
    obtain ⟨v9, M10, r11, h⟩ := h
    refine ok_callS2 dX4_takeOut_125 kX4_takeOut_36 r11 rfl rfl (Nat.le_of_ble_eq_true rfl) ?_
    rintro _ _ ⟨rfl, rfl⟩
    refine ok_iastore dX4_takeOut_128 (by decide) rp_k8 b4 rfl ?_
    replace h := h _ rfl
    refine ok_iinc2 (w := 1) dX4_takeOut_129 rfl (by decide) (by decide) rfl ?_
    refine ok_goto (tgt := 89) dX4_takeOut_132 (by decide) ?_
    exact ok_mask [true, true, true, false] h
theorem vX4_takeOut_14 (E : rp_E) (post : Option Int32 → rp_M → Prop) (M : rp_M) (l1 : Int32) (l2 : Int32) (l3 : Int32) (h : (5 ≤ l3 → (vp_in l2 12 ∧ (vp_in (l2 - 1) 12 ∧ (∀ M16, M16 = rp_s M 7 (Int32.toNatClampNeg (l2 - 1)) (M 7 (Int32.toNatClampNeg l2)) → (∀ M17, M17 = rp_s M16 8 (Int32.toNatClampNeg (l2 - 1)) (M16 8 (Int32.toNatClampNeg l2)) → (rp_G E YX4_takeOut post 4 [.ref 0, .int l1, .int (l2 + 1), .null] [] M17)))))) ∧ (¬ 5 ≤ l3 → (vp_in l3 5 ∧ (vp_in l2 12 ∧ (vp_in (l2 - 1) 12 ∧ (∀ M21, M21 = rp_s M (2 + Int32.toNatClampNeg l3) (Int32.toNatClampNeg (l2 - 1)) (M (2 + Int32.toNatClampNeg l3) (Int32.toNatClampNeg l2)) → (rp_G E YX4_takeOut post 14 [.ref 0, .int l1, .int l2, .int (l3 + 1)] [] M21))))))) : rp_G E YX4_takeOut post 14 [.ref 0, .int l1, .int l2, .int l3] [] M := by
  refine ok_iload_n dX4_takeOut_14 rfl rfl ?_
  refine ok_iconst (v := 5) dX4_takeOut_15 (by decide) ?_
  refine ok_icmp_ge (tgt := 43) dX4_takeOut_16 (by decide) (fun c13 => ?_) (fun c13 => ?_)
  · replace h := h.1 c13
    refine ok_aload_n dX4_takeOut_43 rfl rfl ?_
    refine ok_getR (j := 7) dX4_takeOut_44 fX4_takeOut_16 (by decide) rp_k0 rfl (by decide) ?_
    refine ok_iload_n dX4_takeOut_47 rfl rfl ?_
    refine ok_iconst (v := 1) dX4_takeOut_48 (by decide) ?_
    refine ok_isub dX4_takeOut_49 ?_
    refine ok_aload_n dX4_takeOut_50 rfl rfl ?_
    refine ok_getR (j := 7) dX4_takeOut_51 fX4_takeOut_16 (by decide) rp_k0 rfl (by decide) ?_
    refine ok_iload_n dX4_takeOut_54 rfl rfl ?_
    have b14 := h.1
    replace h := h.2
    refine ok_iaload dX4_takeOut_55 (by decide) rp_k7 b14 rfl ?_
    have b15 := h.1
    replace h := h.2
    refine ok_iastore dX4_takeOut_56 (by decide) rp_k7 b15 rfl ?_
    replace h := h _ rfl
    refine ok_aload_n dX4_takeOut_57 rfl rfl ?_
    refine ok_getR (j := 8) dX4_takeOut_58 fX4_takeOut_20 (by decide) rp_k0 rfl (by decide) ?_
    refine ok_iload_n dX4_takeOut_61 rfl rfl ?_
    refine ok_iconst (v := 1) dX4_takeOut_62 (by decide) ?_
    refine ok_isub dX4_takeOut_63 ?_
    refine ok_aload_n dX4_takeOut_64 rfl rfl ?_
    refine ok_getR (j := 8) dX4_takeOut_65 fX4_takeOut_20 (by decide) rp_k0 rfl (by decide) ?_
    refine ok_iload_n dX4_takeOut_68 rfl rfl ?_
    refine ok_iaload dX4_takeOut_69 (by decide) rp_k8 b14 rfl ?_
    refine ok_iastore dX4_takeOut_70 (by decide) rp_k8 b15 rfl ?_
    replace h := h _ rfl
    refine ok_iinc2 (w := 1) dX4_takeOut_71 rfl (by decide) (by decide) rfl ?_
    refine ok_goto (tgt := 4) dX4_takeOut_74 (by decide) ?_
    exact ok_mask [true, true, true, false] h
  · replace h := h.2 c13
    refine ok_aload_n dX4_takeOut_19 rfl rfl ?_
    refine ok_getR (j := 1) dX4_takeOut_20 fX4_takeOut_11 (by decide) rp_k0 rfl (by decide) ?_
    refine ok_iload_n dX4_takeOut_23 rfl rfl ?_
    have b18 := h.1
    replace h := h.2
    refine ok_prop0 dX4_takeOut_24 b18 ?_
    refine ok_iload_n dX4_takeOut_25 rfl rfl ?_
    refine ok_iconst (v := 1) dX4_takeOut_26 (by decide) ?_
    refine ok_isub dX4_takeOut_27 ?_
    refine ok_aload_n dX4_takeOut_28 rfl rfl ?_
    refine ok_getR (j := 1) dX4_takeOut_29 fX4_takeOut_11 (by decide) rp_k0 rfl (by decide) ?_
    refine ok_iload_n dX4_takeOut_32 rfl rfl ?_
    refine ok_prop0 dX4_takeOut_33 b18 ?_
    refine ok_iload_n dX4_takeOut_34 rfl rfl ?_
    have b19 := h.1
    replace h := h.2
    refine ok_iaload dX4_takeOut_35 (by have := rp_b b18; omega) (rp_sh_p0 (rp_b b18)) b19 rfl ?_
    have b20 := h.1
    replace h := h.2
    refine ok_iastore dX4_takeOut_36 (by have := rp_b b18; omega) (rp_sh_p0 (rp_b b18)) b20 rfl ?_
    replace h := h _ rfl
    refine ok_iinc2 (w := 1) dX4_takeOut_37 rfl (by decide) (by decide) rfl ?_
    refine ok_goto (tgt := 14) dX4_takeOut_40 (by decide) ?_
    exact ok_mask [true, true, true, true] h
theorem vX4_neededBy (E : rp_E) (post : Option Int32 → rp_M → Prop) (M : rp_M) (l1 : Int32) (h : rp_G E YX4_neededBy post 4 [.ref 0, .int l1, .int 0, .int 0] [] M) : rp_Run E YX4_neededBy [.ref 0, .int l1] M post := by
  refine ok_start (by decide) oX4_neededBy (Nat.le_of_ble_eq_true rfl) ?_
  refine ok_iconst (v := 0) dX4_neededBy_0 (by decide) ?_
  refine ok_istore_n dX4_neededBy_1 rfl (by decide) rfl ?_
  refine ok_iconst (v := 0) dX4_neededBy_2 (by decide) ?_
  refine ok_istore_n dX4_neededBy_3 rfl (by decide) rfl ?_
  exact ok_mask [true, true, true, true] h
theorem vX4_neededBy_4 (E : rp_E) (post : Option Int32 → rp_M → Prop) (M : rp_M) (l1 : Int32) (l2 : Int32) (l3 : Int32) (h : ((M 0 4) ≤ l3 → (post (some l2) M)) ∧ (¬ (M 0 4) ≤ l3 → (vp_in l3 12 ∧ ((¬ (((M 8 (Int32.toNatClampNeg l3)) >>> (l1 &&& 31) : Int32) &&& 1) = 1 → (rp_G E YX4_neededBy post 4 [.ref 0, .int l1, .int l2, .int (l3 + 1)] [] M)) ∧ ((((M 8 (Int32.toNatClampNeg l3)) >>> (l1 &&& 31) : Int32) &&& 1) = 1 → (rp_G E YX4_neededBy post 4 [.ref 0, .int l1, .int (l2 ||| ((1 : Int32) <<< (l3 &&& 31) : Int32)), .int (l3 + 1)] [] M)))))) : rp_G E YX4_neededBy post 4 [.ref 0, .int l1, .int l2, .int l3] [] M := by
  refine ok_iload_n dX4_neededBy_4 rfl rfl ?_
  refine ok_aload_n dX4_neededBy_5 rfl rfl ?_
  refine ok_getI dX4_neededBy_6 fX4_neededBy_26 (by decide) rp_k0 rfl ?_
  refine ok_icmp_ge (tgt := 38) dX4_neededBy_9 (by decide) (fun c1 => ?_) (fun c1 => ?_)
  · replace h := h.1 c1
    refine ok_iload_n dX4_neededBy_38 rfl rfl ?_
    exact ok_ireturn dX4_neededBy_39 rfl h
  · replace h := h.2 c1
    refine ok_aload_n dX4_neededBy_12 rfl rfl ?_
    refine ok_getR (j := 8) dX4_neededBy_13 fX4_neededBy_20 (by decide) rp_k0 rfl (by decide) ?_
    refine ok_iload_n dX4_neededBy_16 rfl rfl ?_
    have b2 := h.1
    replace h := h.2
    refine ok_iaload dX4_neededBy_17 (by decide) rp_k8 b2 rfl ?_
    refine ok_iload_n dX4_neededBy_18 rfl rfl ?_
    refine ok_ishr dX4_neededBy_19 ?_
    refine ok_iconst (v := 1) dX4_neededBy_20 (by decide) ?_
    refine ok_iand dX4_neededBy_21 ?_
    refine ok_iconst (v := 1) dX4_neededBy_22 (by decide) ?_
    refine ok_icmp_ne (tgt := 32) dX4_neededBy_23 (by decide) (fun c3 => ?_) (fun c3 => ?_)
    · replace h := h.1 c3
      refine ok_iinc2 (w := 1) dX4_neededBy_32 rfl (by decide) (by decide) rfl ?_
      refine ok_goto (tgt := 4) dX4_neededBy_35 (by decide) ?_
      exact ok_mask [true, true, true, true] h
    · replace h := h.2 c3
      refine ok_iload_n dX4_neededBy_26 rfl rfl ?_
      refine ok_iconst (v := 1) dX4_neededBy_27 (by decide) ?_
      refine ok_iload_n dX4_neededBy_28 rfl rfl ?_
      refine ok_ishl dX4_neededBy_29 ?_
      refine ok_ior dX4_neededBy_30 ?_
      refine ok_istore_n dX4_neededBy_31 rfl (by decide) rfl ?_
      refine ok_iinc2 (w := 1) dX4_neededBy_32 rfl (by decide) (by decide) rfl ?_
      refine ok_goto (tgt := 4) dX4_neededBy_35 (by decide) ?_
      exact ok_mask [true, true, true, true] h
theorem vX4_bitsIn (E : rp_E) (post : Option Int32 → rp_M → Prop) (M : rp_M) {r1 n1 : Nat} (hr1 : r1 < 170) (sr1 : rp_sh r1 = (0, n1, []))  (h : rp_G E YX4_bitsIn post 4 [.ref 0, .ref r1, .int 0, .int 0] [] M) : rp_Run E YX4_bitsIn [.ref 0, .ref r1] M post := by
  refine ok_start (by decide) oX4_bitsIn (Nat.le_of_ble_eq_true rfl) ?_
  refine ok_iconst (v := 0) dX4_bitsIn_0 (by decide) ?_
  refine ok_istore_n dX4_bitsIn_1 rfl (by decide) rfl ?_
  refine ok_iconst (v := 0) dX4_bitsIn_2 (by decide) ?_
  refine ok_istore_n dX4_bitsIn_3 rfl (by decide) rfl ?_
  exact ok_mask [true, true, true, true] h
theorem vX4_bitsIn_4 (E : rp_E) (post : Option Int32 → rp_M → Prop) (M : rp_M) {r1 n1 : Nat} (hr1 : r1 < 170) (sr1 : rp_sh r1 = (0, n1, [])) (l2 : Int32) (l3 : Int32) (h : ((M 0 4) ≤ l3 → (post (some l2) M)) ∧ (¬ (M 0 4) ≤ l3 → (vp_in l3 n1 ∧ (∃ v3 M4, rp_C E YJ6_bitCount_0f7a4 [.int (M r1 (Int32.toNatClampNeg l3))] M (some v3) M4 ∧ (rp_G E YX4_bitsIn post 4 [.ref 0, .ref r1, .int (l2 + v3), .int (l3 + 1)] [] M4))))) : rp_G E YX4_bitsIn post 4 [.ref 0, .ref r1, .int l2, .int l3] [] M := by
  refine ok_iload_n dX4_bitsIn_4 rfl rfl ?_
  refine ok_aload_n dX4_bitsIn_5 rfl rfl ?_
  refine ok_getI dX4_bitsIn_6 fX4_bitsIn_26 (by decide) rp_k0 rfl ?_
  refine ok_icmp_ge (tgt := 27) dX4_bitsIn_9 (by decide) (fun c1 => ?_) (fun c1 => ?_)
  · replace h := h.1 c1
    refine ok_iload_n dX4_bitsIn_27 rfl rfl ?_
    exact ok_ireturn dX4_bitsIn_28 rfl h
  · replace h := h.2 c1
    refine ok_iload_n dX4_bitsIn_12 rfl rfl ?_
    refine ok_aload_n dX4_bitsIn_13 rfl rfl ?_
    refine ok_iload_n dX4_bitsIn_14 rfl rfl ?_
    have b2 := h.1
    replace h := h.2
    refine ok_iaload dX4_bitsIn_15 hr1 sr1 b2 rfl ?_
    obtain ⟨v3, M4, r5, h⟩ := h
    refine ok_callS2 dX4_bitsIn_16 kX4_bitsIn_40 r5 rfl rfl (Nat.le_of_ble_eq_true rfl) ?_
    rintro _ _ ⟨rfl, rfl⟩
    refine ok_iadd dX4_bitsIn_19 ?_
    refine ok_istore_n dX4_bitsIn_20 rfl (by decide) rfl ?_
    refine ok_iinc2 (w := 1) dX4_bitsIn_21 rfl (by decide) (by decide) rfl ?_
    refine ok_goto (tgt := 4) dX4_bitsIn_24 (by decide) ?_
    exact ok_mask [true, true, true, true] h
theorem vX4_sumOf (E : rp_E) (post : Option Int32 → rp_M → Prop) (M : rp_M) (l1 : Int32) (l2 : Int32) (h : rp_G E YX4_sumOf post 5 [.ref 0, .int l1, .int l2, .int 0, .int 0] [] M) : rp_Run E YX4_sumOf [.ref 0, .int l1, .int l2] M post := by
  refine ok_start (by decide) oX4_sumOf (Nat.le_of_ble_eq_true rfl) ?_
  refine ok_iconst (v := 0) dX4_sumOf_0 (by decide) ?_
  refine ok_istore_n dX4_sumOf_1 rfl (by decide) rfl ?_
  refine ok_iconst (v := 0) dX4_sumOf_2 (by decide) ?_
  refine ok_istore dX4_sumOf_3 (by decide) rfl ?_
  exact ok_mask [true, true, true, true, true] h
theorem vX4_sumOf_5 (E : rp_E) (post : Option Int32 → rp_M → Prop) (M : rp_M) (l1 : Int32) (l2 : Int32) (l3 : Int32) (l4 : Int32) (h : ((M 0 4) ≤ l4 → (post (some l3) M)) ∧ (¬ (M 0 4) ≤ l4 → ((¬ ((l1 >>> (l4 &&& 31) : Int32) &&& 1) = 1 → (rp_G E YX4_sumOf post 5 [.ref 0, .int l1, .int l2, .int l3, .int (l4 + 1)] [] M)) ∧ (((l1 >>> (l4 &&& 31) : Int32) &&& 1) = 1 → (vp_in l2 5 ∧ (vp_in l4 12 ∧ (rp_G E YX4_sumOf post 5 [.ref 0, .int l1, .int l2, .int (l3 + (M (2 + Int32.toNatClampNeg l2) (Int32.toNatClampNeg l4))), .int (l4 + 1)] [] M))))))) : rp_G E YX4_sumOf post 5 [.ref 0, .int l1, .int l2, .int l3, .int l4] [] M := by
  refine ok_iload dX4_sumOf_5 rfl ?_
  refine ok_aload_n dX4_sumOf_7 rfl rfl ?_
  refine ok_getI dX4_sumOf_8 fX4_sumOf_26 (by decide) rp_k0 rfl ?_
  refine ok_icmp_ge (tgt := 42) dX4_sumOf_11 (by decide) (fun c1 => ?_) (fun c1 => ?_)
  · replace h := h.1 c1
    refine ok_iload_n dX4_sumOf_42 rfl rfl ?_
    exact ok_ireturn dX4_sumOf_43 rfl h
  · replace h := h.2 c1
    refine ok_iload_n dX4_sumOf_14 rfl rfl ?_
    refine ok_iload dX4_sumOf_15 rfl ?_
    refine ok_ishr dX4_sumOf_17 ?_
    refine ok_iconst (v := 1) dX4_sumOf_18 (by decide) ?_
    refine ok_iand dX4_sumOf_19 ?_
    refine ok_iconst (v := 1) dX4_sumOf_20 (by decide) ?_
    refine ok_icmp_ne (tgt := 36) dX4_sumOf_21 (by decide) (fun c2 => ?_) (fun c2 => ?_)
    · replace h := h.1 c2
      refine ok_iinc2 (w := 1) dX4_sumOf_36 rfl (by decide) (by decide) rfl ?_
      refine ok_goto (tgt := 5) dX4_sumOf_39 (by decide) ?_
      exact ok_mask [true, true, true, true, true] h
    · replace h := h.2 c2
      refine ok_iload_n dX4_sumOf_24 rfl rfl ?_
      refine ok_aload_n dX4_sumOf_25 rfl rfl ?_
      refine ok_getR (j := 1) dX4_sumOf_26 fX4_sumOf_11 (by decide) rp_k0 rfl (by decide) ?_
      refine ok_iload_n dX4_sumOf_29 rfl rfl ?_
      have b3 := h.1
      replace h := h.2
      refine ok_prop0 dX4_sumOf_30 b3 ?_
      refine ok_iload dX4_sumOf_31 rfl ?_
      have b4 := h.1
      replace h := h.2
      refine ok_iaload dX4_sumOf_33 (by have := rp_b b3; omega) (rp_sh_p0 (rp_b b3)) b4 rfl ?_
      refine ok_iadd dX4_sumOf_34 ?_
      refine ok_istore_n dX4_sumOf_35 rfl (by decide) rfl ?_
      refine ok_iinc2 (w := 1) dX4_sumOf_36 rfl (by decide) (by decide) rfl ?_
      refine ok_goto (tgt := 5) dX4_sumOf_39 (by decide) ?_
      exact ok_mask [true, true, true, true, true] h
theorem vX4_weightUnder (E : rp_E) (post : Option Int32 → rp_M → Prop) (M : rp_M) (l1 : Int32) (l2 : Int32) (h : ∃ v1 M2, rp_C E YX4_sumOf [.ref 0, .int l1, .int 1] M (some v1) M2 ∧ (∃ v4 M5, rp_C E YX4_sumOf [.ref 0, .int (l1 &&& l2), .int 2] M2 (some v4) M5 ∧ (post (some (v1 + v4)) M5))) : rp_Run E YX4_weightUnder [.ref 0, .int l1, .int l2] M post := by
  refine ok_start (by decide) oX4_weightUnder (Nat.le_of_ble_eq_true rfl) ?_
  refine ok_aload_n dX4_weightUnder_0 rfl rfl ?_
  refine ok_iload_n dX4_weightUnder_1 rfl rfl ?_
  refine ok_iconst (v := 1) dX4_weightUnder_2 (by decide) ?_
  obtain ⟨v1, M2, r3, h⟩ := h
  refine ok_callV2 dX4_weightUnder_3 kX4_weightUnder_46 r3 (by decide) rp_k0 rfl rfl (Nat.le_of_ble_eq_true rfl) ?_
  rintro _ _ ⟨rfl, rfl⟩
  refine ok_aload_n dX4_weightUnder_6 rfl rfl ?_
  refine ok_iload_n dX4_weightUnder_7 rfl rfl ?_
  refine ok_iload_n dX4_weightUnder_8 rfl rfl ?_
  refine ok_iand dX4_weightUnder_9 ?_
  refine ok_iconst (v := 2) dX4_weightUnder_10 (by decide) ?_
  obtain ⟨v4, M5, r6, h⟩ := h
  refine ok_callV2 dX4_weightUnder_11 kX4_weightUnder_46 r6 (by decide) rp_k0 rfl rfl (Nat.le_of_ble_eq_true rfl) ?_
  rintro _ _ ⟨rfl, rfl⟩
  refine ok_iadd dX4_weightUnder_14 ?_
  exact ok_ireturn dX4_weightUnder_15 rfl h
theorem vX4_profitUnder (E : rp_E) (post : Option Int32 → rp_M → Prop) (M : rp_M) (l1 : Int32) (l2 : Int32) (h : ∃ v1 M2, rp_C E YX4_sumOf [.ref 0, .int l1, .int 0] M (some v1) M2 ∧ (∃ v4 M5, rp_C E YX4_sumOf [.ref 0, .int (l1 &&& l2), .int 3] M2 (some v4) M5 ∧ (post (some (v1 - v4)) M5))) : rp_Run E YX4_profitUnder [.ref 0, .int l1, .int l2] M post := by
  refine ok_start (by decide) oX4_profitUnder (Nat.le_of_ble_eq_true rfl) ?_
  refine ok_aload_n dX4_profitUnder_0 rfl rfl ?_
  refine ok_iload_n dX4_profitUnder_1 rfl rfl ?_
  refine ok_iconst (v := 0) dX4_profitUnder_2 (by decide) ?_
  obtain ⟨v1, M2, r3, h⟩ := h
  refine ok_callV2 dX4_profitUnder_3 kX4_profitUnder_46 r3 (by decide) rp_k0 rfl rfl (Nat.le_of_ble_eq_true rfl) ?_
  rintro _ _ ⟨rfl, rfl⟩
  refine ok_aload_n dX4_profitUnder_6 rfl rfl ?_
  refine ok_iload_n dX4_profitUnder_7 rfl rfl ?_
  refine ok_iload_n dX4_profitUnder_8 rfl rfl ?_
  refine ok_iand dX4_profitUnder_9 ?_
  refine ok_iconst (v := 3) dX4_profitUnder_10 (by decide) ?_
  obtain ⟨v4, M5, r6, h⟩ := h
  refine ok_callV2 dX4_profitUnder_11 kX4_profitUnder_46 r6 (by decide) rp_k0 rfl rfl (Nat.le_of_ble_eq_true rfl) ?_
  rintro _ _ ⟨rfl, rfl⟩
  refine ok_isub dX4_profitUnder_14 ?_
  exact ok_ireturn dX4_profitUnder_15 rfl h
theorem vX4_worst (E : rp_E) (post : Option Int32 → rp_M → Prop) (M : rp_M) (l1 : Int32) (l2 : Int32) (l3 : Int32) (h : rp_G E YX4_worst post 6 [.ref 0, .int l1, .int l2, .int l3, .int 0, .int 0, .null, .null, .null, .null] [] M) : rp_Run E YX4_worst [.ref 0, .int l1, .int l2, .int l3] M post := by
  refine ok_start (by decide) oX4_worst (Nat.le_of_ble_eq_true rfl) ?_
  refine ok_iconst (v := 0) dX4_worst_0 (by decide) ?_
  refine ok_istore dX4_worst_1 (by decide) rfl ?_
  refine ok_iconst (v := 0) dX4_worst_3 (by decide) ?_
  refine ok_istore dX4_worst_4 (by decide) rfl ?_
  exact ok_mask [true, true, true, true, true, true, false, false, false, false] h
theorem vX4_worst_6 (E : rp_E) (post : Option Int32 → rp_M → Prop) (M : rp_M) (l1 : Int32) (l2 : Int32) (l3 : Int32) (l4 : Int32) (l5 : Int32) (h : (l3 ≤ l5 → (post (some l4) M)) ∧ (¬ l3 ≤ l5 → (rp_G E YX4_worst post 21 [.ref 0, .int l1, .int l2, .int l3, .int l4, .int l5, .int (-1), .int 0, .int 0, .null] [] M))) : rp_G E YX4_worst post 6 [.ref 0, .int l1, .int l2, .int l3, .int l4, .int l5, .null, .null, .null, .null] [] M := by
  refine ok_iload dX4_worst_6 rfl ?_
  refine ok_iload_n dX4_worst_8 rfl rfl ?_
  refine ok_icmp_ge (tgt := 115) dX4_worst_9 (by decide) (fun c1 => ?_) (fun c1 => ?_)
  · replace h := h.1 c1
    refine ok_iload dX4_worst_115 rfl ?_
    exact ok_ireturn dX4_worst_117 rfl h
  · replace h := h.2 c1
    refine ok_iconst (v := (-1)) dX4_worst_12 (by decide) ?_
    refine ok_istore dX4_worst_13 (by decide) rfl ?_
    refine ok_iconst (v := 0) dX4_worst_15 (by decide) ?_
    refine ok_istore dX4_worst_16 (by decide) rfl ?_
    refine ok_iconst (v := 0) dX4_worst_18 (by decide) ?_
    refine ok_istore dX4_worst_19 (by decide) rfl ?_
    exact ok_mask [true, true, true, true, true, true, true, true, true, false] h
theorem vX4_worst_21 (E : rp_E) (post : Option Int32 → rp_M → Prop) (M : rp_M) (l1 : Int32) (l2 : Int32) (l3 : Int32) (l4 : Int32) (l5 : Int32) (l6 : Int32) (l7 : Int32) (l8 : Int32) (h : ((M 0 4) ≤ l8 → ((0 ≤ l6 → (rp_G E YX4_worst post 6 [.ref 0, .int l1, .int l2, .int l3, .int (l4 ||| ((1 : Int32) <<< (l6 &&& 31) : Int32)), .int (l5 + 1), .null, .null, .null, .null] [] M)) ∧ (¬ 0 ≤ l6 → (post (some l4) M)))) ∧ (¬ (M 0 4) ≤ l8 → ((¬ (((l1 &&& (l4 ^^^ (-1))) >>> (l8 &&& 31) : Int32) &&& 1) = 1 → (rp_G E YX4_worst post 21 [.ref 0, .int l1, .int l2, .int l3, .int l4, .int l5, .int l6, .int l7, .int (l8 + 1), .null] [] M)) ∧ ((((l1 &&& (l4 ^^^ (-1))) >>> (l8 &&& 31) : Int32) &&& 1) = 1 → (vp_in l2 5 ∧ (vp_in l8 12 ∧ (((M (2 + Int32.toNatClampNeg l2) (Int32.toNatClampNeg l8)) ≤ l7 → (rp_G E YX4_worst post 21 [.ref 0, .int l1, .int l2, .int l3, .int l4, .int l5, .int l6, .int l7, .int (l8 + 1), .null] [] M)) ∧ (¬ (M (2 + Int32.toNatClampNeg l2) (Int32.toNatClampNeg l8)) ≤ l7 → (rp_G E YX4_worst post 21 [.ref 0, .int l1, .int l2, .int l3, .int l4, .int l5, .int l8, .int (M (2 + Int32.toNatClampNeg l2) (Int32.toNatClampNeg l8)), .int (l8 + 1), .null] [] M))))))))) : rp_G E YX4_worst post 21 [.ref 0, .int l1, .int l2, .int l3, .int l4, .int l5, .int l6, .int l7, .int l8, .null] [] M := by
  refine ok_iload dX4_worst_21 rfl ?_
  refine ok_aload_n dX4_worst_23 rfl rfl ?_
  refine ok_getI dX4_worst_24 fX4_worst_26 (by decide) rp_k0 rfl ?_
  refine ok_icmp_ge (tgt := 92) dX4_worst_27 (by decide) (fun c2 => ?_) (fun c2 => ?_)
  · replace h := h.1 c2
    refine ok_iload dX4_worst_92 rfl ?_
    refine ok_if_ge (tgt := 100) dX4_worst_94 (by decide) (fun c3 => ?_) (fun c3 => ?_)
    · replace h := h.1 c3
      refine ok_iload dX4_worst_100 rfl ?_
      refine ok_iconst (v := 1) dX4_worst_102 (by decide) ?_
      refine ok_iload dX4_worst_103 rfl ?_
      refine ok_ishl dX4_worst_105 ?_
      refine ok_ior dX4_worst_106 ?_
      refine ok_istore dX4_worst_107 (by decide) rfl ?_
      refine ok_iinc2 (w := 1) dX4_worst_109 rfl (by decide) (by decide) rfl ?_
      refine ok_goto (tgt := 6) dX4_worst_112 (by decide) ?_
      exact ok_mask [true, true, true, true, true, true, false, false, false, false] h
    · replace h := h.2 c3
      refine ok_goto (tgt := 115) dX4_worst_97 (by decide) ?_
      refine ok_iload dX4_worst_115 rfl ?_
      exact ok_ireturn dX4_worst_117 rfl h
  · replace h := h.2 c2
    refine ok_iload_n dX4_worst_30 rfl rfl ?_
    refine ok_iload dX4_worst_31 rfl ?_
    refine ok_iconst (v := (-1)) dX4_worst_33 (by decide) ?_
    refine ok_ixor dX4_worst_34 ?_
    refine ok_iand dX4_worst_35 ?_
    refine ok_iload dX4_worst_36 rfl ?_
    refine ok_ishr dX4_worst_38 ?_
    refine ok_iconst (v := 1) dX4_worst_39 (by decide) ?_
    refine ok_iand dX4_worst_40 ?_
    refine ok_iconst (v := 1) dX4_worst_41 (by decide) ?_
    refine ok_icmp_ne (tgt := 49) dX4_worst_42 (by decide) (fun c4 => ?_) (fun c4 => ?_)
    · replace h := h.1 c4
      refine ok_iconst (v := 0) dX4_worst_49 (by decide) ?_
      refine ok_istore dX4_worst_50 (by decide) rfl ?_
      refine ok_iload dX4_worst_52 rfl ?_
      refine ok_if_eq (tgt := 86) dX4_worst_54 (by decide) (fun c5 => ?_) (fun c5 => absurd c5 (by decide))
      refine ok_iinc2 (w := 1) dX4_worst_86 rfl (by decide) (by decide) rfl ?_
      refine ok_goto (tgt := 21) dX4_worst_89 (by decide) ?_
      exact ok_mask [true, true, true, true, true, true, true, true, true, false] h
    · replace h := h.2 c4
      refine ok_iconst (v := 1) dX4_worst_45 (by decide) ?_
      refine ok_goto (tgt := 50) dX4_worst_46 (by decide) ?_
      refine ok_istore dX4_worst_50 (by decide) rfl ?_
      refine ok_iload dX4_worst_52 rfl ?_
      refine ok_if_eq (tgt := 86) dX4_worst_54 (by decide) (fun c6 => absurd c6 (by decide)) (fun c6 => ?_)
      refine ok_aload_n dX4_worst_57 rfl rfl ?_
      refine ok_getR (j := 1) dX4_worst_58 fX4_worst_11 (by decide) rp_k0 rfl (by decide) ?_
      refine ok_iload_n dX4_worst_61 rfl rfl ?_
      have b7 := h.1
      replace h := h.2
      refine ok_prop0 dX4_worst_62 b7 ?_
      refine ok_iload dX4_worst_63 rfl ?_
      have b8 := h.1
      replace h := h.2
      refine ok_iaload dX4_worst_65 (by have := rp_b b7; omega) (rp_sh_p0 (rp_b b7)) b8 rfl ?_
      refine ok_iload dX4_worst_66 rfl ?_
      refine ok_icmp_le (tgt := 86) dX4_worst_68 (by decide) (fun c9 => ?_) (fun c9 => ?_)
      · replace h := h.1 c9
        refine ok_iinc2 (w := 1) dX4_worst_86 rfl (by decide) (by decide) rfl ?_
        refine ok_goto (tgt := 21) dX4_worst_89 (by decide) ?_
        exact ok_mask [true, true, true, true, true, true, true, true, true, false] h
      · replace h := h.2 c9
        refine ok_iload dX4_worst_71 rfl ?_
        refine ok_istore dX4_worst_73 (by decide) rfl ?_
        refine ok_aload_n dX4_worst_75 rfl rfl ?_
        refine ok_getR (j := 1) dX4_worst_76 fX4_worst_11 (by decide) rp_k0 rfl (by decide) ?_
        refine ok_iload_n dX4_worst_79 rfl rfl ?_
        refine ok_prop0 dX4_worst_80 b7 ?_
        refine ok_iload dX4_worst_81 rfl ?_
        refine ok_iaload dX4_worst_83 (by have := rp_b b7; omega) (rp_sh_p0 (rp_b b7)) b8 rfl ?_
        refine ok_istore dX4_worst_84 (by decide) rfl ?_
        refine ok_iinc2 (w := 1) dX4_worst_86 rfl (by decide) (by decide) rfl ?_
        refine ok_goto (tgt := 21) dX4_worst_89 (by decide) ?_
        exact ok_mask [true, true, true, true, true, true, true, true, true, false] h
theorem vX4_isMoreFruitful (E : rp_E) (post : Option Int32 → rp_M → Prop) (M : rp_M) (l1 : Int32) (l2 : Int32) (h : vp_in l1 12 ∧ (vp_in l2 12 ∧ ((((M 2 (Int32.toNatClampNeg l1)) * ((M 3 (Int32.toNatClampNeg l2)) + (M 4 (Int32.toNatClampNeg l2)))) ≤ ((M 2 (Int32.toNatClampNeg l2)) * ((M 3 (Int32.toNatClampNeg l1)) + (M 4 (Int32.toNatClampNeg l1)))) → (post (some 0) M)) ∧ (¬ ((M 2 (Int32.toNatClampNeg l1)) * ((M 3 (Int32.toNatClampNeg l2)) + (M 4 (Int32.toNatClampNeg l2)))) ≤ ((M 2 (Int32.toNatClampNeg l2)) * ((M 3 (Int32.toNatClampNeg l1)) + (M 4 (Int32.toNatClampNeg l1)))) → (post (some 1) M))))) : rp_Run E YX4_isMoreFruitful [.ref 0, .int l1, .int l2] M post := by
  refine ok_start (by decide) oX4_isMoreFruitful (Nat.le_of_ble_eq_true rfl) ?_
  refine ok_aload_n dX4_isMoreFruitful_0 rfl rfl ?_
  refine ok_getR (j := 1) dX4_isMoreFruitful_1 fX4_isMoreFruitful_11 (by decide) rp_k0 rfl (by decide) ?_
  refine ok_iconst (v := 1) dX4_isMoreFruitful_4 (by decide) ?_
  refine ok_aaload2 (j := 3) dX4_isMoreFruitful_5 (by decide) rp_k1 (rp_vi (by decide)) (by rfl) (by decide) ?_
  refine ok_iload_n dX4_isMoreFruitful_6 rfl rfl ?_
  have b1 := h.1
  replace h := h.2
  refine ok_iaload dX4_isMoreFruitful_7 (by decide) rp_k3 b1 rfl ?_
  refine ok_aload_n dX4_isMoreFruitful_8 rfl rfl ?_
  refine ok_getR (j := 1) dX4_isMoreFruitful_9 fX4_isMoreFruitful_11 (by decide) rp_k0 rfl (by decide) ?_
  refine ok_iconst (v := 2) dX4_isMoreFruitful_12 (by decide) ?_
  refine ok_aaload2 (j := 4) dX4_isMoreFruitful_13 (by decide) rp_k1 (rp_vi (by decide)) (by rfl) (by decide) ?_
  refine ok_iload_n dX4_isMoreFruitful_14 rfl rfl ?_
  refine ok_iaload dX4_isMoreFruitful_15 (by decide) rp_k4 b1 rfl ?_
  refine ok_iadd dX4_isMoreFruitful_16 ?_
  refine ok_istore_n dX4_isMoreFruitful_17 rfl (by decide) rfl ?_
  refine ok_aload_n dX4_isMoreFruitful_18 rfl rfl ?_
  refine ok_getR (j := 1) dX4_isMoreFruitful_19 fX4_isMoreFruitful_11 (by decide) rp_k0 rfl (by decide) ?_
  refine ok_iconst (v := 1) dX4_isMoreFruitful_22 (by decide) ?_
  refine ok_aaload2 (j := 3) dX4_isMoreFruitful_23 (by decide) rp_k1 (rp_vi (by decide)) (by rfl) (by decide) ?_
  refine ok_iload_n dX4_isMoreFruitful_24 rfl rfl ?_
  have b2 := h.1
  replace h := h.2
  refine ok_iaload dX4_isMoreFruitful_25 (by decide) rp_k3 b2 rfl ?_
  refine ok_aload_n dX4_isMoreFruitful_26 rfl rfl ?_
  refine ok_getR (j := 1) dX4_isMoreFruitful_27 fX4_isMoreFruitful_11 (by decide) rp_k0 rfl (by decide) ?_
  refine ok_iconst (v := 2) dX4_isMoreFruitful_30 (by decide) ?_
  refine ok_aaload2 (j := 4) dX4_isMoreFruitful_31 (by decide) rp_k1 (rp_vi (by decide)) (by rfl) (by decide) ?_
  refine ok_iload_n dX4_isMoreFruitful_32 rfl rfl ?_
  refine ok_iaload dX4_isMoreFruitful_33 (by decide) rp_k4 b2 rfl ?_
  refine ok_iadd dX4_isMoreFruitful_34 ?_
  refine ok_istore dX4_isMoreFruitful_35 (by decide) rfl ?_
  refine ok_aload_n dX4_isMoreFruitful_37 rfl rfl ?_
  refine ok_getR (j := 1) dX4_isMoreFruitful_38 fX4_isMoreFruitful_11 (by decide) rp_k0 rfl (by decide) ?_
  refine ok_iconst (v := 0) dX4_isMoreFruitful_41 (by decide) ?_
  refine ok_aaload2 (j := 2) dX4_isMoreFruitful_42 (by decide) rp_k1 (rp_vi (by decide)) (by rfl) (by decide) ?_
  refine ok_iload_n dX4_isMoreFruitful_43 rfl rfl ?_
  refine ok_iaload dX4_isMoreFruitful_44 (by decide) rp_k2 b1 rfl ?_
  refine ok_iload dX4_isMoreFruitful_45 rfl ?_
  refine ok_imul dX4_isMoreFruitful_47 ?_
  refine ok_aload_n dX4_isMoreFruitful_48 rfl rfl ?_
  refine ok_getR (j := 1) dX4_isMoreFruitful_49 fX4_isMoreFruitful_11 (by decide) rp_k0 rfl (by decide) ?_
  refine ok_iconst (v := 0) dX4_isMoreFruitful_52 (by decide) ?_
  refine ok_aaload2 (j := 2) dX4_isMoreFruitful_53 (by decide) rp_k1 (rp_vi (by decide)) (by rfl) (by decide) ?_
  refine ok_iload_n dX4_isMoreFruitful_54 rfl rfl ?_
  refine ok_iaload dX4_isMoreFruitful_55 (by decide) rp_k2 b2 rfl ?_
  refine ok_iload_n dX4_isMoreFruitful_56 rfl rfl ?_
  refine ok_imul dX4_isMoreFruitful_57 ?_
  refine ok_icmp_le (tgt := 65) dX4_isMoreFruitful_58 (by decide) (fun c3 => ?_) (fun c3 => ?_)
  · replace h := h.1 c3
    refine ok_iconst (v := 0) dX4_isMoreFruitful_65 (by decide) ?_
    exact ok_zreturn dX4_isMoreFruitful_66 rfl (by decide) h
  · replace h := h.2 c3
    refine ok_iconst (v := 1) dX4_isMoreFruitful_61 (by decide) ?_
    refine ok_goto (tgt := 66) dX4_isMoreFruitful_62 (by decide) ?_
    exact ok_zreturn dX4_isMoreFruitful_66 rfl (by decide) h
theorem vX4_mostFruitful (E : rp_E) (post : Option Int32 → rp_M → Prop) (M : rp_M) (l1 : Int32) (h : rp_G E YX4_mostFruitful post 4 [.ref 0, .int l1, .int (-1), .int 0, .null] [] M) : rp_Run E YX4_mostFruitful [.ref 0, .int l1] M post := by
  refine ok_start (by decide) oX4_mostFruitful (Nat.le_of_ble_eq_true rfl) ?_
  refine ok_iconst (v := (-1)) dX4_mostFruitful_0 (by decide) ?_
  refine ok_istore_n dX4_mostFruitful_1 rfl (by decide) rfl ?_
  refine ok_iconst (v := 0) dX4_mostFruitful_2 (by decide) ?_
  refine ok_istore_n dX4_mostFruitful_3 rfl (by decide) rfl ?_
  exact ok_mask [true, true, true, true, false] h
theorem vX4_mostFruitful_4 (E : rp_E) (post : Option Int32 → rp_M → Prop) (M : rp_M) (l1 : Int32) (l2 : Int32) (l3 : Int32) (h : ((M 0 4) ≤ l3 → (post (some (if l2 < 0 then 0 else l2)) M)) ∧ (¬ (M 0 4) ≤ l3 → ((¬ ((l1 >>> (l3 &&& 31) : Int32) &&& 1) = 0 → (rp_G E YX4_mostFruitful post 4 [.ref 0, .int l1, .int l2, .int (l3 + 1), .null] [] M)) ∧ (((l1 >>> (l3 &&& 31) : Int32) &&& 1) = 0 → ((l2 < 0 → (rp_G E YX4_mostFruitful post 4 [.ref 0, .int l1, .int l3, .int (l3 + 1), .null] [] M)) ∧ (¬ l2 < 0 → (∃ v6 M7, rp_C E YX4_isMoreFruitful [.ref 0, .int l3, .int l2] M (some v6) M7 ∧ ((v6 = 0 → (rp_G E YX4_mostFruitful post 4 [.ref 0, .int l1, .int l2, .int (l3 + 1), .null] [] M7)) ∧ (¬ v6 = 0 → (rp_G E YX4_mostFruitful post 4 [.ref 0, .int l1, .int l3, .int (l3 + 1), .null] [] M7)))))))))) : rp_G E YX4_mostFruitful post 4 [.ref 0, .int l1, .int l2, .int l3, .null] [] M := by
  refine ok_iload_n dX4_mostFruitful_4 rfl rfl ?_
  refine ok_aload_n dX4_mostFruitful_5 rfl rfl ?_
  refine ok_getI dX4_mostFruitful_6 fX4_mostFruitful_26 (by decide) rp_k0 rfl ?_
  refine ok_icmp_ge (tgt := 53) dX4_mostFruitful_9 (by decide) (fun c1 => ?_) (fun c1 => ?_)
  · replace h := h.1 c1
    refine ok_iload_n dX4_mostFruitful_53 rfl rfl ?_
    refine ok_iconst (v := 0) dX4_mostFruitful_54 (by decide) ?_
    refine ok_mmax dX4_mostFruitful_55 kX4_mostFruitful_53 (by decide) ?_
    exact ok_ireturn dX4_mostFruitful_58 rfl h
  · replace h := h.2 c1
    refine ok_iload_n dX4_mostFruitful_12 rfl rfl ?_
    refine ok_iload_n dX4_mostFruitful_13 rfl rfl ?_
    refine ok_ishr dX4_mostFruitful_14 ?_
    refine ok_iconst (v := 1) dX4_mostFruitful_15 (by decide) ?_
    refine ok_iand dX4_mostFruitful_16 ?_
    refine ok_if_ne (tgt := 24) dX4_mostFruitful_17 (by decide) (fun c2 => ?_) (fun c2 => ?_)
    · replace h := h.1 c2
      refine ok_iconst (v := 0) dX4_mostFruitful_24 (by decide) ?_
      refine ok_istore dX4_mostFruitful_25 (by decide) rfl ?_
      refine ok_iload dX4_mostFruitful_27 rfl ?_
      refine ok_if_eq (tgt := 47) dX4_mostFruitful_29 (by decide) (fun c3 => ?_) (fun c3 => absurd c3 (by decide))
      refine ok_iinc2 (w := 1) dX4_mostFruitful_47 rfl (by decide) (by decide) rfl ?_
      refine ok_goto (tgt := 4) dX4_mostFruitful_50 (by decide) ?_
      exact ok_mask [true, true, true, true, false] h
    · replace h := h.2 c2
      refine ok_iconst (v := 1) dX4_mostFruitful_20 (by decide) ?_
      refine ok_goto (tgt := 25) dX4_mostFruitful_21 (by decide) ?_
      refine ok_istore dX4_mostFruitful_25 (by decide) rfl ?_
      refine ok_iload dX4_mostFruitful_27 rfl ?_
      refine ok_if_eq (tgt := 47) dX4_mostFruitful_29 (by decide) (fun c4 => absurd c4 (by decide)) (fun c4 => ?_)
      refine ok_iload_n dX4_mostFruitful_32 rfl rfl ?_
      refine ok_if_lt (tgt := 45) dX4_mostFruitful_33 (by decide) (fun c5 => ?_) (fun c5 => ?_)
      · replace h := h.1 c5
        refine ok_iload_n dX4_mostFruitful_45 rfl rfl ?_
        refine ok_istore_n dX4_mostFruitful_46 rfl (by decide) rfl ?_
        refine ok_iinc2 (w := 1) dX4_mostFruitful_47 rfl (by decide) (by decide) rfl ?_
        refine ok_goto (tgt := 4) dX4_mostFruitful_50 (by decide) ?_
        exact ok_mask [true, true, true, true, false] h
      · replace h := h.2 c5
        refine ok_aload_n dX4_mostFruitful_36 rfl rfl ?_
        refine ok_iload_n dX4_mostFruitful_37 rfl rfl ?_
        refine ok_iload_n dX4_mostFruitful_38 rfl rfl ?_
        obtain ⟨v6, M7, r8, h⟩ := h
        refine ok_callV2 dX4_mostFruitful_39 kX4_mostFruitful_49 r8 (by decide) rp_k0 rfl rfl (Nat.le_of_ble_eq_true rfl) ?_
        rintro _ _ ⟨rfl, rfl⟩
        refine ok_if_eq (tgt := 47) dX4_mostFruitful_42 (by decide) (fun c9 => ?_) (fun c9 => ?_)
        · replace h := h.1 c9
          refine ok_iinc2 (w := 1) dX4_mostFruitful_47 rfl (by decide) (by decide) rfl ?_
          refine ok_goto (tgt := 4) dX4_mostFruitful_50 (by decide) ?_
          exact ok_mask [true, true, true, true, false] h
        · replace h := h.2 c9
          refine ok_iload_n dX4_mostFruitful_45 rfl rfl ?_
          refine ok_istore_n dX4_mostFruitful_46 rfl (by decide) rfl ?_
          refine ok_iinc2 (w := 1) dX4_mostFruitful_47 rfl (by decide) (by decide) rfl ?_
          refine ok_goto (tgt := 4) dX4_mostFruitful_50 (by decide) ?_
          exact ok_mask [true, true, true, true, false] h
theorem vX4_thresholdBelow (E : rp_E) (post : Option Int32 → rp_M → Prop) (M : rp_M) (l1 : Int32) (h : (l1 ≤ 0 → (rp_G E YX4_thresholdBelow post 12 [.ref 0, .int l1, .int (-1), .int 0, .null] [] M)) ∧ (¬ l1 ≤ 0 → (rp_G E YX4_thresholdBelow post 12 [.ref 0, .int l1, .int 0, .int 0, .null] [] M))) : rp_Run E YX4_thresholdBelow [.ref 0, .int l1] M post := by
  refine ok_start (by decide) oX4_thresholdBelow (Nat.le_of_ble_eq_true rfl) ?_
  refine ok_iload_n dX4_thresholdBelow_0 rfl rfl ?_
  refine ok_if_le (tgt := 8) dX4_thresholdBelow_1 (by decide) (fun c1 => ?_) (fun c1 => ?_)
  · replace h := h.1 c1
    refine ok_iconst (v := (-1)) dX4_thresholdBelow_8 (by decide) ?_
    refine ok_istore_n dX4_thresholdBelow_9 rfl (by decide) rfl ?_
    refine ok_iconst (v := 0) dX4_thresholdBelow_10 (by decide) ?_
    refine ok_istore_n dX4_thresholdBelow_11 rfl (by decide) rfl ?_
    exact ok_mask [true, true, true, true, false] h
  · replace h := h.2 c1
    refine ok_iconst (v := 0) dX4_thresholdBelow_4 (by decide) ?_
    refine ok_goto (tgt := 9) dX4_thresholdBelow_5 (by decide) ?_
    refine ok_istore_n dX4_thresholdBelow_9 rfl (by decide) rfl ?_
    refine ok_iconst (v := 0) dX4_thresholdBelow_10 (by decide) ?_
    refine ok_istore_n dX4_thresholdBelow_11 rfl (by decide) rfl ?_
    exact ok_mask [true, true, true, true, false] h
theorem vX4_thresholdBelow_12 (E : rp_E) (post : Option Int32 → rp_M → Prop) (M : rp_M) (l1 : Int32) (l2 : Int32) (l3 : Int32) (h : ((M 0 4) ≤ l3 → (post (some l2) M)) ∧ (¬ (M 0 4) ≤ l3 → (vp_in l3 12 ∧ ((l1 ≤ (M 4 (Int32.toNatClampNeg l3)) → (rp_G E YX4_thresholdBelow post 12 [.ref 0, .int l1, .int l2, .int (l3 + 1), .null] [] M)) ∧ (¬ l1 ≤ (M 4 (Int32.toNatClampNeg l3)) → (((M 4 (Int32.toNatClampNeg l3)) ≤ l2 → (rp_G E YX4_thresholdBelow post 12 [.ref 0, .int l1, .int l2, .int (l3 + 1), .null] [] M)) ∧ (¬ (M 4 (Int32.toNatClampNeg l3)) ≤ l2 → (rp_G E YX4_thresholdBelow post 12 [.ref 0, .int l1, .int (M 4 (Int32.toNatClampNeg l3)), .int (l3 + 1), .null] [] M)))))))) : rp_G E YX4_thresholdBelow post 12 [.ref 0, .int l1, .int l2, .int l3, .null] [] M := by
  refine ok_iload_n dX4_thresholdBelow_12 rfl rfl ?_
  refine ok_aload_n dX4_thresholdBelow_13 rfl rfl ?_
  refine ok_getI dX4_thresholdBelow_14 fX4_thresholdBelow_26 (by decide) rp_k0 rfl ?_
  refine ok_icmp_ge (tgt := 51) dX4_thresholdBelow_17 (by decide) (fun c2 => ?_) (fun c2 => ?_)
  · replace h := h.1 c2
    refine ok_iload_n dX4_thresholdBelow_51 rfl rfl ?_
    exact ok_ireturn dX4_thresholdBelow_52 rfl h
  · replace h := h.2 c2
    refine ok_aload_n dX4_thresholdBelow_20 rfl rfl ?_
    refine ok_getR (j := 1) dX4_thresholdBelow_21 fX4_thresholdBelow_11 (by decide) rp_k0 rfl (by decide) ?_
    refine ok_iconst (v := 2) dX4_thresholdBelow_24 (by decide) ?_
    refine ok_aaload2 (j := 4) dX4_thresholdBelow_25 (by decide) rp_k1 (rp_vi (by decide)) (by rfl) (by decide) ?_
    refine ok_iload_n dX4_thresholdBelow_26 rfl rfl ?_
    have b3 := h.1
    replace h := h.2
    refine ok_iaload dX4_thresholdBelow_27 (by decide) rp_k4 b3 rfl ?_
    refine ok_istore dX4_thresholdBelow_28 (by decide) rfl ?_
    refine ok_iload dX4_thresholdBelow_30 rfl ?_
    refine ok_iload_n dX4_thresholdBelow_32 rfl rfl ?_
    refine ok_icmp_ge (tgt := 45) dX4_thresholdBelow_33 (by decide) (fun c4 => ?_) (fun c4 => ?_)
    · replace h := h.1 c4
      refine ok_iinc2 (w := 1) dX4_thresholdBelow_45 rfl (by decide) (by decide) rfl ?_
      refine ok_goto (tgt := 12) dX4_thresholdBelow_48 (by decide) ?_
      exact ok_mask [true, true, true, true, false] h
    · replace h := h.2 c4
      refine ok_iload dX4_thresholdBelow_36 rfl ?_
      refine ok_iload_n dX4_thresholdBelow_38 rfl rfl ?_
      refine ok_icmp_le (tgt := 45) dX4_thresholdBelow_39 (by decide) (fun c5 => ?_) (fun c5 => ?_)
      · replace h := h.1 c5
        refine ok_iinc2 (w := 1) dX4_thresholdBelow_45 rfl (by decide) (by decide) rfl ?_
        refine ok_goto (tgt := 12) dX4_thresholdBelow_48 (by decide) ?_
        exact ok_mask [true, true, true, true, false] h
      · replace h := h.2 c5
        refine ok_iload dX4_thresholdBelow_42 rfl ?_
        refine ok_istore_n dX4_thresholdBelow_44 rfl (by decide) rfl ?_
        refine ok_iinc2 (w := 1) dX4_thresholdBelow_45 rfl (by decide) (by decide) rfl ?_
        refine ok_goto (tgt := 12) dX4_thresholdBelow_48 (by decide) ?_
        exact ok_mask [true, true, true, true, false] h
