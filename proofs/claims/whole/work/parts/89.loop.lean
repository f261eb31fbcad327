/-! THE LAW, 3: its switch and its loop (written by wip/whole/cases.py) -/
section LLP
variable {p : Program} {e : Env} {s : State} {m : MethodId} {below : List Frame} {meth : Method} {c : Code} {b L : Nat} {xs : Nat → Int32} {E : rp_E} {i : Int32} {M : rp_M} {g : rs_G}
theorem lq_switch (C : lq_C p s m meth c b L xs E) (hW : WG g) (hX : IX g M) (hM : IM g M) (h0 : vp_in i L) (h1 : vp_in (i + 1) L) (h2 : vp_in (i + 2) L) (h3 : vp_in (i + 3) L) (h4 : vp_in (i + 4) L) (kk : ∀ g' M', WG g' → IX g' M' → IM g' M' → lq_G p e s m below meth c b E i 1051 [] M') : lq_G p e s m below meth c b E i 26 [] M := by
  intro H locs ls hP hD hS hl
  have hx := C.1.1
  have hb := C.1.2.1
  have hsX := C.1.2.2.2.2.2.2.1
  have hbl := C.1.2.2.2.2.2.2.2.1
  refine lv_aload_n hx hb dL_law_26 rfl (lv_at hl 3 rfl) ?_
  refine lv_iload_n hx hb dL_law_27 rfl (lv_at hl 0 rfl) ?_
  refine va_sld hx hb hsX hbl C.bA hS h0 dL_law_28 ?_
  refine lv_bipush (v := 31) hx hb dL_law_29 (by decide) ?_
  refine lv_iand hx hb dL_law_31 ?_
  obtain ⟨j, hj, ej⟩ := op_nat (xs i.toNatClampNeg)
  rw [ej]
  match j, hj with
  | 0, _ => exact lv_tableIn (off := 132) (tgt := 164) hx hb dL_law_32 (by decide +kernel) (by decide +kernel) (by decide +kernel) (by decide) (lqs_add C hW hX hM h1 h2 h3 h4 kk H locs ls hP hD hS hl)
  | 1, _ => exact lv_tableIn (off := 185) (tgt := 217) hx hb dL_law_32 (by decide +kernel) (by decide +kernel) (by decide +kernel) (by decide) (lqs_remove C hW hX hM h1 kk H locs ls hP hD hS hl)
  | 2, _ => exact lv_tableIn (off := 208) (tgt := 240) hx hb dL_law_32 (by decide +kernel) (by decide +kernel) (by decide +kernel) (by decide) (lqs_set C hW hX hM h1 h2 h3 kk H locs ls hP hD hS hl)
  | 3, _ => exact lv_tableIn (off := 251) (tgt := 283) hx hb dL_law_32 (by decide +kernel) (by decide +kernel) (by decide +kernel) (by decide) (lqs_item C hW hX hM h1 h2 kk H locs ls hP hD hS hl)
  | 4, _ => exact lv_tableIn (off := 284) (tgt := 316) hx hb dL_law_32 (by decide +kernel) (by decide +kernel) (by decide +kernel) (by decide) (lqs_conflict C hW hX hM h1 h2 kk H locs ls hP hD hS hl)
  | 5, _ => exact lv_tableIn (off := 317) (tgt := 349) hx hb dL_law_32 (by decide +kernel) (by decide +kernel) (by decide +kernel) (by decide) (lqs_need C hW hX hM h1 h2 kk H locs ls hP hD hS hl)
  | 6, _ => exact lv_tableIn (off := 350) (tgt := 382) hx hb dL_law_32 (by decide +kernel) (by decide +kernel) (by decide +kernel) (by decide) (lqs_rule C hW hX hM h1 h2 kk H locs ls hP hD hS hl)
  | 7, _ => exact lv_tableIn (off := 383) (tgt := 415) hx hb dL_law_32 (by decide +kernel) (by decide +kernel) (by decide +kernel) (by decide) (lqs_put C hW hX hM h1 h2 kk H locs ls hP hD hS hl)
  | 8, _ => exact lv_tableIn (off := 436) (tgt := 468) hx hb dL_law_32 (by decide +kernel) (by decide +kernel) (by decide +kernel) (by decide) (lqs_wipe C hW hX hM  kk H locs ls hP hD hS hl)
  | 9, _ => exact lv_tableIn (off := 449) (tgt := 481) hx hb dL_law_32 (by decide +kernel) (by decide +kernel) (by decide +kernel) (by decide) (lqs_fault C hW hX hM  kk H locs ls hP hD hS hl)
  | 10, _ => exact lv_tableIn (off := 462) (tgt := 494) hx hb dL_law_32 (by decide +kernel) (by decide +kernel) (by decide +kernel) (by decide) (lqs_load C hW hX hM  kk H locs ls hP hD hS hl)
  | 11, _ => exact lv_tableIn (off := 475) (tgt := 507) hx hb dL_law_32 (by decide +kernel) (by decide +kernel) (by decide +kernel) (by decide) (lqs_choice C hW hX hM h1 h2 kk H locs ls hP hD hS hl)
  | 12, _ => exact lv_tableIn (off := 508) (tgt := 540) hx hb dL_law_32 (by decide +kernel) (by decide +kernel) (by decide +kernel) (by decide) (lqs_weightIn C hW hX hM h1 h2 kk H locs ls hP hD hS hl)
  | 13, _ => exact lv_tableIn (off := 541) (tgt := 573) hx hb dL_law_32 (by decide +kernel) (by decide +kernel) (by decide +kernel) (by decide) (lqs_best C hW hX hM h1 kk H locs ls hP hD hS hl)
  | 14, _ => exact lv_tableIn (off := 564) (tgt := 596) hx hb dL_law_32 (by decide +kernel) (by decide +kernel) (by decide +kernel) (by decide) (lqs_bestWith C hW hX hM h1 h2 h3 kk H locs ls hP hD hS hl)
  | 15, _ => exact lv_tableIn (off := 607) (tgt := 639) hx hb dL_law_32 (by decide +kernel) (by decide +kernel) (by decide +kernel) (by decide) (lqs_leastCapacity C hW hX hM h1 kk H locs ls hP hD hS hl)
  | 16, _ => exact lv_tableIn (off := 630) (tgt := 662) hx hb dL_law_32 (by decide +kernel) (by decide +kernel) (by decide +kernel) (by decide) (lqs_headroom C hW hX hM h1 kk H locs ls hP hD hS hl)
  | 17, _ => exact lv_tableIn (off := 653) (tgt := 685) hx hb dL_law_32 (by decide +kernel) (by decide +kernel) (by decide +kernel) (by decide) (lqs_greedy C hW hX hM h1 kk H locs ls hP hD hS hl)
  | 18, _ => exact lv_tableIn (off := 676) (tgt := 708) hx hb dL_law_32 (by decide +kernel) (by decide +kernel) (by decide +kernel) (by decide) (lqs_forced C hW hX hM h1 h2 h3 kk H locs ls hP hD hS hl)
  | 19, _ => exact lv_tableIn (off := 719) (tgt := 751) hx hb dL_law_32 (by decide +kernel) (by decide +kernel) (by decide +kernel) (by decide) (lqs_frontier C hW hX hM h1 h2 kk H locs ls hP hD hS hl)
  | 20, _ => exact lv_tableIn (off := 752) (tgt := 784) hx hb dL_law_32 (by decide +kernel) (by decide +kernel) (by decide +kernel) (by decide) (lqs_improve C hW hX hM h1 h2 kk H locs ls hP hD hS hl)
  | 21, _ => exact lv_tableIn (off := 785) (tgt := 817) hx hb dL_law_32 (by decide +kernel) (by decide +kernel) (by decide +kernel) (by decide) (lqs_list C hW hX hM h1 h2 kk H locs ls hP hD hS hl)
  | 22, _ => exact lv_tableIn (off := 818) (tgt := 850) hx hb dL_law_32 (by decide +kernel) (by decide +kernel) (by decide +kernel) (by decide) (lqs_dominator C hW hX hM h1 h2 kk H locs ls hP hD hS hl)
  | 23, _ => exact lv_tableIn (off := 851) (tgt := 883) hx hb dL_law_32 (by decide +kernel) (by decide +kernel) (by decide +kernel) (by decide) (lqs_threshold C hW hX hM h1 kk H locs ls hP hD hS hl)
  | 24, _ => exact lv_tableIn (off := 874) (tgt := 906) hx hb dL_law_32 (by decide +kernel) (by decide +kernel) (by decide +kernel) (by decide) (lqs_plain C hW hX hM h1 kk H locs ls hP hD hS hl)
  | 25, _ => exact lv_tableIn (off := 897) (tgt := 929) hx hb dL_law_32 (by decide +kernel) (by decide +kernel) (by decide +kernel) (by decide) (lqs_recovered C hW hX hM h1 h2 h3 kk H locs ls hP hD hS hl)
  | 26, _ => exact lv_tableIn (off := 940) (tgt := 972) hx hb dL_law_32 (by decide +kernel) (by decide +kernel) (by decide +kernel) (by decide) (lqs_adversary C hW hX hM h1 h2 h3 kk H locs ls hP hD hS hl)
  | 27, _ => exact lv_tableIn (off := 983) (tgt := 1015) hx hb dL_law_32 (by decide +kernel) (by decide +kernel) (by decide +kernel) (by decide) (lqs_undo C hW hX hM  kk H locs ls hP hD hS hl)
  | 28, _ => exact lv_tableIn (off := 996) (tgt := 1028) hx hb dL_law_32 (by decide +kernel) (by decide +kernel) (by decide +kernel) (by decide) (lqs_count C hW hX hM h1 kk H locs ls hP hD hS hl)
  | 29, _ => exact lv_tableOut (tgt := 1051) hx hb dL_law_32 (Or.inr (by decide +kernel)) (by decide) (kk g M hW hX hM H locs ls hP hD hS hl)
  | 30, _ => exact lv_tableOut (tgt := 1051) hx hb dL_law_32 (Or.inr (by decide +kernel)) (by decide) (kk g M hW hX hM H locs ls hP hD hS hl)
  | 31, _ => exact lv_tableOut (tgt := 1051) hx hb dL_law_32 (Or.inr (by decide +kernel)) (by decide) (kk g M hW hX hM H locs ls hP hD hS hl)
  | j + 32, hj => exact absurd hj (by omega)
theorem lq_end (t : Nat) (hL : L ≤ 2560) (ht : 5 * t ≤ L) : (Int32.ofNat L - 5 < nI (5 * t)) ↔ L < 5 * t + 5 := by
  have e : Int32.ofNat L - 5 = iI ((L : Int) - (5 : Nat)) := nI_s L 5
  rw [e, ← iI_nat, iI_lt (by omega) (by omega) (by omega) (by omega)]
  constructor
  · intro h
    omega
  · intro h
    omega
theorem law_loop (C : lq_C p s m meth c b L xs E) (hL : L ≤ 2560) : ∀ (n t : Nat) (g : rs_G) (M : rp_M), 5 * t ≤ L → L < 5 * (t + n) → WG g → IX g M → IM g M → lq_G p e s m below meth c b E (nI (5 * t)) 18 [] M
  | 0, t, _, _, h1, h2, _, _, _ => absurd h2 (by omega)
  | n + 1, t, g, M, h1, h2, hW, hX, hM => by
    intro H locs ls hP hD hS hl
    have hx := C.1.1
    have hb := C.1.2.1
    have hr := C.1.2.2.1
    have hsX := C.1.2.2.2.2.2.2.1
    have hbl := C.1.2.2.2.2.2.2.2.1
    have hlocks := C.1.2.2.2.2.2.2.2.2.1
    refine lv_iload_n hx hb dL_law_18 rfl (lv_at hl 0 rfl) ?_
    refine lv_aload_n hx hb dL_law_19 rfl (lv_at hl 3 rfl) ?_
    refine va_slen hx hb hsX hbl C.bA hS dL_law_20 ?_
    refine lv_iconst (v := 5) hx hb dL_law_21 (by decide) ?_
    refine lv_isub hx hb dL_law_22 ?_
    refine lv_icmp_gt (tgt := 1057) hx hb dL_law_23 (by decide) (fun _ => ?_) (fun h => ?_)
    · refine lv_iconst (v := 1) hx hb dL_law_1057 (by decide) ?_
      refine va_forget (fun q hq => ?_) ?_
      · obtain ⟨k, hk, e⟩ := hS.2.2 q hq
        rw [e]
        exact C.2.2.2 k hk
      · refine W.widen (k := 600000) (n := 7302250) (Nat.le_of_ble_eq_true rfl) (Nat.le_of_ble_eq_true rfl) ?_
        exact lw_ret hx hb hr hlocks dL_law_1058
    · have h5 : 5 * t + 5 ≤ L := by
        rw [lq_end t hL h1] at h
        omega
      have hin : ∀ k, k < 5 → vp_in (nI (5 * t) + nI k) L := fun k hk => by
        rw [nI_add]
        exact nI_inb (by omega) (by omega)
      refine lq_switch C hW hX hM (nI_inb (by omega) (by omega)) (hin 1 (by omega)) (hin 2 (by omega)) (hin 3 (by omega)) (hin 4 (by omega)) (fun g2 M2 hW2 hX2 hM2 => ?_) H locs ls hP hD hS hl
      intro H locs ls hP hD hS hl
      refine lv_iinc (v := nI (5 * (t + 1))) (lv' := [(3, .int (nI (5 * (t + 1)))), (2, .ref (E.2.2.1 155)), (1, .ref (E.2.2.1 154)), (0, .ref b)]) hx hb dL_law_1051 hl (k := 0) rfl (nI_add (5 * t) 5) (by decide) rfl (fun ls hl => ?_)
      refine lv_goto (tgt := 18) hx hb dL_law_1054 (by decide) ?_
      exact law_loop C hL n (t + 1) g2 M2 (by omega) (by omega) hW2 hX2 hM2 H locs ls hP hD hS hl
end LLP
