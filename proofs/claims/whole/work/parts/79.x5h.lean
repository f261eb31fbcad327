/-! THE CLASS, 17: thresholds, plain problems -/
theorem c5_thresholds (E : rp_E) {M : rp_M} {S : rs_S} (hw : Wf S) (hr : R0 S M) : rp_C E YX5_thresholds [.ref 154] M (some (nI (tN S))) M := by
  have is := tN_is S
  have hN := tN_le hw
  have tl : ∀ i, tsq S i ≤ 1000 := fun i => by
    cases i with
    | zero => exact Nat.le_refl _
    | succ i => have := tsq_le hw i; omega
  refine rp_C_of (fun post hpost => vX5_thresholds E post M ?_)
  have h0 := c0_thr E hw hr (b := 1000) (by omega)
  rw [if_pos (by omega)] at h0
  refine ⟨_, _, h0, ?_⟩
  suffices key : ∀ i, i ≤ tN S → rp_G E YX5_thresholds post 15 [.ref 154, .int (nI i), .int (if i < tN S then nI (tsq S (i + 1)) else (-1)), .int (nI i)] [] M by
    have k0 := key 0 (Nat.zero_le _)
    rw [if_pos (by omega)] at k0
    exact k0
  refine up_loop (fun i hi ih => vX5_thresholds_15 E post M _ _ _ ?_)
  rw [show (12 : Int32) = nI 12 by rfl, nI_ltI (by omega) (by omega)]
  by_cases q : i < tN S
  · rw [if_pos q]
    have t1 := tl (i + 1)
    refine ⟨fun z => absurd z (by omega), fun _ => ⟨fun z => absurd z (nI_pos (by omega)), fun _ => ⟨_, _, c0_thr E hw hr (b := tsq S (i + 1)) t1, ?_⟩⟩⟩
    have h1 := ih q
    rw [nI_1]
    have e : (if 0 < tsq S (i + 1) then nI (tb S (tsq S (i + 1)) (zn S)) else (-1)) = (if i + 1 < tN S then nI (tsq S (i + 1 + 1)) else (-1)) := by
      by_cases z : i + 1 < tN S
      · rw [if_pos z, if_pos (is.2 (i + 1) z)]
        rfl
      · rw [if_neg z, if_neg (by rw [show i + 1 = tN S by omega, is.1]; omega)]
    rw [e]
    exact h1
  · have e : i = tN S := by omega
    rw [if_neg q, e]
    exact ⟨fun _ => hpost, fun _ => ⟨fun _ => hpost, fun z => absurd (by decide) z⟩⟩
theorem c5_thrAt (E : rp_E) {M : rp_M} {S : rs_S} (hw : Wf S) (hr : R0 S M) {k : Nat} (hk : k < tN S) : rp_C E YX5_thresholdAt [.ref 154, .int (nI k)] M (some (nI (tsq S (k + 1)))) M := by
  have is := tN_is S
  have hN := tN_le hw
  have tl : ∀ i, tsq S i ≤ 1000 := fun i => by
    cases i with
    | zero => exact Nat.le_refl _
    | succ i => have := tsq_le hw i; omega
  refine rp_C_of (fun post hpost => vX5_thresholdAt E post M _ ?_)
  suffices key : ∀ i, i ≤ k + 1 → rp_G E YX5_thresholdAt post 6 [.ref 154, .int (nI k), .int (nI (tsq S i)), .int (nI i)] [] M from key 0 (Nat.zero_le _)
  refine up_loop (fun i hi ih => vX5_thresholdAt_6 E post M _ _ _ ?_)
  rw [nI_ltI (by omega) (by omega), show (12 : Int32) = nI 12 by rfl, nI_ltI (by omega) (by omega)]
  refine ⟨fun z => ?_, fun z => ⟨fun y => absurd y (by omega), fun _ => ?_⟩⟩
  · have e : i = k + 1 := by omega
    rw [e]
    exact hpost
  · have h0 := c0_thr E hw hr (b := tsq S i) (tl i)
    rw [if_pos (is.2 i (by omega))] at h0
    refine ⟨_, _, h0, ?_⟩
    rw [nI_1]
    exact ih (by omega)
theorem thr_in {x : Int32} {N : Nat} (h : 0 ≤ x.toInt ∧ x.toInt ≤ (N : Int) - 1) : ∃ k, k < N ∧ x = nI k ∧ x.toNatClampNeg = k := by
  have e := toNat_nI h.1
  have c := clamp_int h.1
  exact ⟨x.toNatClampNeg, by omega, e, rfl⟩
theorem d5_threshold (E : rp_E) {M : rp_M} {S : rs_S} (hw : Wf S) (hr : R0 S M) (h9 : rdy S M) (x : Int32) : rp_Run E YX5_threshold [.ref 154, .int x] M (rp_P (fun v M' => v = a_threshold S x ∧ scrX S M M')) := by
  have hN := tN_le hw
  have ok : ∀ (v a : Int32), a = v → rp_P (fun v M' => v = a ∧ scrX S M M') (some v) M := fun v a e => ⟨v, rfl, e.symm, scrX.rf h9⟩
  refine vX5_threshold E _ M x ⟨fun hx => ?_, fun hx => ⟨_, _, c5_thresholds E hw hr, ok _ _ (if_pos hx)⟩⟩
  have ea : a_threshold S x = _ := if_neg hx
  rw [ea]
  clear ea
  rw [Int32.lt_d, Int32.toInt_zero]
  refine ⟨fun z => ok _ _ (if_neg (by omega)), fun z => ⟨_, _, c5_thresholds E hw hr, ?_⟩⟩
  rw [Int32.le_d, nI_toInt (by omega)]
  refine ⟨fun y => ok _ _ (if_neg (by omega)), fun y => ?_⟩
  have hin : 0 ≤ x.toInt ∧ x.toInt ≤ (tN S : Int) - 1 := by omega
  obtain ⟨k, hk, e1, e2⟩ := thr_in hin
  rw [if_pos hin, e2, e1]
  exact ⟨_, _, c5_thrAt E hw hr hk, ok _ _ rfl⟩
theorem d2_plain (E : rp_E) {M : rp_M} {S : rs_S} (hw : Wf S) (hr : R0 S M) (ht : tabX S (zg S) (zh S) M) {t room : Nat} (htt : t ≤ 999) (hro : room ≤ 9999) : rp_Run E YX2_plainValue [.ref 149, .ref 139, .ref 0, .int (nI t), .int (nI room)] M (rp_P (fun v M' => v = nI (pvf S t room (2 ^ zn S)) ∧ ∀ k, k < 149 ∨ 153 < k → M' k = M k)) := by
  have hn := hw.n12
  have h2 := hw.two
  refine vX2_plainValue E _ M _ _ ?_
  suffices key : ∀ i, i ≤ zn S → ∀ M1 : rp_M, (∀ k, k < i → M1 153 k = nI (zp S 1 k + (zp S 2 k - t))) → (∀ k, k ≠ 153 → M1 k = M k) → rp_G E YX2_plainValue (rp_P (fun v M' => v = nI (pvf S t room (2 ^ zn S)) ∧ ∀ k, k < 149 ∨ 153 < k → M' k = M k)) 3 [.ref 149, .ref 139, .ref 0, .int (nI t), .int (nI room), .int (nI i), .null] [] M1 from key 0 (Nat.zero_le _) M (fun k hk => absurd hk (by omega)) (fun _ _ => rfl)
  refine up_loop (fun i hi ih M1 q1 q2 => vX2_plainValue_3 E _ M1 _ _ _ ?_)
  have m0 : M1 0 4 = nI (zn S) := by rw [q2 0 (by decide)]; exact hr.1
  rw [m0, nI_leI (by omega) (by omega)]
  refine ⟨fun h => ?_, fun h => ⟨nI_inb (by omega) (by omega), fun M2 e2 => ?_⟩⟩
  · have e : i = zn S := by omega
    subst e
    refine ⟨_, d_sumUp E (r0 := 150) (r1 := 153) (n := zn S) (by omega) rfl (by omega) rfl (by omega) hn _ q1, fun M2 q => ?_⟩
    obtain ⟨w2, k2⟩ := q
    have kk : ∀ k, k < 149 ∨ 153 < k → M2 k = M k := fun k hk => by rw [k2 k (by omega), q2 k (by omega)]
    have t2 : tabX S (zg S) (zh S) M2 := ⟨by rw [kk 139 (by omega)]; exact ht.1, by rw [kk 139 (by omega)]; exact ht.2.1, fun c hc => by
      rw [kk 140 (by omega), kk 141 (by omega), kk 142 (by omega), kk 143 (by omega)]
      exact ht.2.2 c hc⟩
    have pb : ∀ j, pvf S t room j ≤ 11988 := fun j => by
      induction j with
      | zero => exact Nat.zero_le _
      | succ j ih =>
        unfold pvf
        split
        · exact hw.sum (p := 0) (by omega) j
        · exact ih
    have wb : ∀ c, wpl S t c ≤ 24000 := fun c => by
      have := psum_le (f := fun k => zp S 1 k + (zp S 2 k - t)) (c := c) (m := zn S) (B := 1998) (fun k hk => by
        have a1 := hw.p999 (p := 1) (by omega) hk
        have a2 := hw.p999 (p := 2) (by omega) hk
        show zp S 1 k + (zp S 2 k - t) ≤ 1998
        omega)
      have h3 : zn S * 1998 ≤ 12 * 1998 := Nat.mul_le_mul_right _ hn
      unfold wpl
      omega
    suffices key2 : ∀ j, j ≤ 2 ^ zn S → rp_G E YX2_plainValue (rp_P (fun v M' => v = nI (pvf S t room (2 ^ zn S)) ∧ ∀ k, k < 149 ∨ 153 < k → M' k = M k)) 75 [.ref 149, .ref 139, .null, .null, .int (nI room), .int (nI (pvf S t room j)), .int (nI j)] [] M2 from key2 0 (Nat.zero_le _)
    refine up_loop (fun j hj ihj => vX2_plainValue_75 E _ M2 _ _ _ ?_)
    rw [t2.2.1, nI_leI (by omega) (by omega)]
    refine ⟨fun h3 => ?_, fun h3 => ?_⟩
    · have e : j = 2 ^ zn S := by omega
      subst e
      exact ⟨_, rfl, rfl, kk⟩
    have hj2 : j < 2 ^ zn S := by omega
    have h1 := ihj hj2
    have b1 := pb j
    have b2 := wb j
    have b3 := hw.sum (p := 0) (by omega) j
    have e5 : M2 150 j = nI (wpl S t j) := w2 j hj2
    rw [nI_clamp (by omega), e5, (t2.2.2 j hj2).2.2.1, nI_ltI (by omega) (by omega), nI_leI (by omega) (by omega), nI_1]
    have skip : ¬ (wpl S t j ≤ room ∧ pvf S t room j < zsum S 0 j ∧ zalB S j = true) → rp_G E YX2_plainValue (rp_P (fun v M' => v = nI (pvf S t room (2 ^ zn S)) ∧ ∀ k, k < 149 ∨ 153 < k → M' k = M k)) 75 [.ref 149, .ref 139, .null, .null, .int (nI room), .int (nI (pvf S t room j)), .int (nI (j + 1))] [] M2 := fun z => by
      rw [show pvf S t room (j + 1) = pvf S t room j from if_neg z] at h1
      exact h1
    refine ⟨nI_inb (by omega) (by omega), fun z => skip (by omega), fun z => ⟨fun y => skip (by omega), fun y => ⟨_, _, c0_allows E (t2.g hw) hj2, ?_⟩⟩⟩
    rw [bI_n, bI_0]
    refine ⟨fun w => skip (fun v => by rw [w] at v; cases v.2.2), fun w => ?_⟩
    rw [show pvf S t room (j + 1) = zsum S 0 j from if_pos ⟨by omega, by omega, w⟩] at h1
    rw [(t2.2.2 j hj2).2.2.1]
    exact h1
  · have hi2 : i < zn S := by omega
    have v1 : M1 3 i = nI (zp S 1 i) := by rw [q2 3 (by decide)]; exact (hr.2.2.2.2 i hi2).1 1 (by omega)
    have v2 : M1 4 i = nI (zp S 2 i) := by rw [q2 4 (by decide)]; exact (hr.2.2.2.2 i hi2).1 2 (by omega)
    have b2 := hw.p999 (p := 2) (by omega) hi2
    rw [nI_clamp (by omega), v1, v2, nI_s] at e2
    have ev : (if iI ((zp S 2 i : Int) - (t : Int)) < 0 then (0 : Int32) else iI ((zp S 2 i : Int) - (t : Int))) = nI (zp S 2 i - t) := by
      have iff : iI ((zp S 2 i : Int) - (t : Int)) < 0 ↔ (zp S 2 i : Int) - (t : Int) < 0 := iI_lt (b := 0) (by omega) (by omega) (by omega) (by omega)
      by_cases z : (zp S 2 i : Int) - (t : Int) < 0
      · rw [if_pos (iff.mpr z), show zp S 2 i - t = 0 by omega]
        rfl
      · rw [if_neg (fun y => z (iff.mp y)), ← iI_nat]
        congr 1
        omega
    rw [ev, nI_add] at e2
    rw [nI_1]
    refine ih hi2 M2 (fun k hk => ?_) (fun k hk => by rw [e2, rp_s_cell hk, q2 k hk])
    by_cases e : k = i
    · rw [e, e2, rp_s_at]
    · rw [e2, rp_s_ne (by omega)]
      exact q1 k (by omega)
theorem d5_plain (E : rp_E) {M : rp_M} {S : rs_S} (hw : Wf S) (hr : R0 S M) (h9 : rdy S M) (x : Int32) : rp_Run E YX5_plain [.ref 154, .int x] M (rp_P (fun v M' => v = a_plain S x ∧ scrX S M M')) := by
  have hN := tN_le hw
  have hg := hw.2.2.1
  have hcc := hw.2.1
  have ok : ∀ (v a : Int32), a = v → rp_P (fun v M' => v = a ∧ scrX S M M') (some v) M := fun v a e => ⟨v, rfl, e.symm, scrX.rf h9⟩
  refine vX5_plain E _ M x ?_
  rw [Int32.lt_d, Int32.toInt_zero]
  refine ⟨fun z => ok _ _ (if_neg (by omega)), fun z => ⟨_, _, c5_thresholds E hw hr, ?_⟩⟩
  rw [Int32.lt_d, nI_toInt (by omega)]
  refine ⟨fun y => ?_, fun y => ok _ _ (if_neg (by omega))⟩
  have hin : 0 ≤ x.toInt ∧ x.toInt ≤ (tN S : Int) - 1 := by omega
  obtain ⟨k, hk, e1, e2⟩ := thr_in hin
  have ea : a_plain S x = _ := if_pos hin
  rw [ea, e2, e1]
  clear ea
  have tl := tsq_le hw k
  refine ⟨_, _, c5_thrAt E hw hr hk, _, _, c5_cap E hr, _, _, (c5_budget E hr).1, ?_⟩
  have gt : zg S * tsq S (k + 1) ≤ 12 * 999 := Nat.mul_le_mul hg tl
  rw [pk_mul, nI_s, show (0 : Int32) = iI 0 by rfl, iI_le (by omega) (by omega) (by omega) (by omega)]
  refine ⟨fun w => ⟨_, d5_prepare E hw hr h9, fun M1 q => ?_⟩, fun w => ok _ _ (if_neg (by omega))⟩
  have er : iI ((zc S : Int) - ((zg S * tsq S (k + 1) : Nat) : Int)) = nI (zc S - zg S * tsq S (k + 1)) := by
    rw [← iI_nat]
    congr 1
    omega
  rw [er, if_pos (by omega)]
  refine ⟨_, d2_plain E hw q.2.2.1 q.2.1 tl (by omega), fun v M2 q2 => ⟨_, rfl, q2.1, fun k hk => by rw [q2.2 k (by omega), q.2.2.2 k (by omega)], Or.inr ⟨by rw [q2.2 139 (by omega)]; exact q.1, ?_⟩⟩⟩
  have t := q.2.1
  refine ⟨by rw [q2.2 139 (by omega)]; exact t.1, by rw [q2.2 139 (by omega)]; exact t.2.1, fun c hc => ?_⟩
  rw [q2.2 140 (by omega), q2.2 141 (by omega), q2.2 142 (by omega), q2.2 143 (by omega)]
  exact t.2.2 c hc
