/-! ANSWERS, 6: thresholds, plain problems; and the reference's -/
def tb (S : rs_S) (b : Nat) : Nat → Nat
  | 0 => 0
  | k + 1 => if zp S 2 k < b ∧ tb S b k < zp S 2 k then zp S 2 k else tb S b k
def tsq (S : rs_S) : Nat → Nat
  | 0 => 1000
  | i + 1 => tb S (tsq S i) (zn S)
theorem tb_le {S : rs_S} (hw : Wf S) {b : Nat} : ∀ m, m ≤ zn S → tb S b m ≤ 999
  | 0, _ => by show 0 ≤ 999; omega
  | m + 1, h => by
    unfold tb
    split
    · exact hw.p999 (p := 2) (by omega) (show m < zn S by omega)
    · exact tb_le hw m (by omega)
theorem tb_pos {S : rs_S} {b : Nat} : ∀ m, 0 < tb S b m → ∃ k, k < m ∧ zp S 2 k = tb S b m ∧ zp S 2 k < b
  | 0, h => by
    have : tb S b 0 = 0 := rfl
    omega
  | m + 1, h => by
    by_cases q : zp S 2 m < b ∧ tb S b m < zp S 2 m
    · exact ⟨m, by omega, (if_pos q).symm, q.1⟩
    · have e : tb S b (m + 1) = tb S b m := if_neg q
      rw [e] at h ⊢
      obtain ⟨k, k1, k2⟩ := tb_pos m h
      exact ⟨k, by omega, k2⟩
theorem tsq_cnt {S : rs_S} : ∀ i, (∀ j, j ≤ i → 0 < tsq S j) → i + cntp (fun k => zp S 2 k < tsq S i ∧ 0 < zp S 2 k) (zn S) ≤ zn S
  | 0, _ => by
    have := cntp_le (p := fun k => zp S 2 k < tsq S 0 ∧ 0 < zp S 2 k) (zn S)
    omega
  | i + 1, h => by
    have h1 := tsq_cnt i (fun j hj => h j (by omega))
    have h2 : 0 < tb S (tsq S i) (zn S) := h (i + 1) (Nat.le_refl _)
    obtain ⟨k, k1, k2, k3⟩ := tb_pos _ h2
    have h3 := cntp_lt (p := fun k => zp S 2 k < tsq S (i + 1) ∧ 0 < zp S 2 k) (q := fun k => zp S 2 k < tsq S i ∧ 0 < zp S 2 k) (m := zn S) (a := k) (fun c _ hc => ⟨by
        have e : tsq S (i + 1) = tb S (tsq S i) (zn S) := rfl
        rw [e] at hc
        omega, hc.2⟩) k1 ⟨k3, by omega⟩ (fun z => by
        have e : tsq S (i + 1) = tb S (tsq S i) (zn S) := rfl
        rw [e] at z
        omega)
    omega
/-- N is the number of thresholds -/
def isN (S : rs_S) (N : Nat) : Prop := tsq S N = 0 ∧ ∀ j, j < N → 0 < tsq S j
theorem isN_uniq {S : rs_S} {a b : Nat} (ha : isN S a) (hb : isN S b) : a = b := by
  rcases Nat.lt_trichotomy a b with q | q | q
  · have := hb.2 a q
    rw [ha.1] at this
    omega
  · exact q
  · have := ha.2 b q
    rw [hb.1] at this
    omega
theorem isN_le {S : rs_S} {i : Nat} (h : ∀ j, j < i → 0 < tsq S j) : i ≤ zn S + 1 := by
  by_cases e : i = 0
  · omega
  · have := tsq_cnt (i - 1) (fun j hj => h j (by omega))
    omega
theorem isN_ex (S : rs_S) : ∃ N, isN S N := by
  have key : ∀ d i, i + d = zn S + 2 → (∀ j, j < i → 0 < tsq S j) → ∃ N, isN S N := by
    intro d
    induction d with
    | zero =>
      intro i hi h
      have := isN_le h
      omega
    | succ d ih =>
      intro i hi h
      by_cases q : tsq S i = 0
      · exact ⟨i, q, h⟩
      · exact ih (i + 1) (by omega) (fun j hj => by
          by_cases e : j = i
          · rw [e]
            omega
          · exact h j (by omega))
  exact key (zn S + 2) 0 (by omega) (fun j hj => by omega)
noncomputable def tN (S : rs_S) : Nat := Classical.choose (isN_ex S)
theorem tN_is (S : rs_S) : isN S (tN S) := Classical.choose_spec (isN_ex S)
theorem tN_le {S : rs_S} (hw : Wf S) : 1 ≤ tN S ∧ tN S ≤ 13 := by
  have h := tN_is S
  have h1 := isN_le h.2
  have h2 := hw.n12
  refine ⟨?_, by omega⟩
  apply Classical.byContradiction
  intro z
  have e : tN S = 0 := by omega
  have h3 := h.1
  rw [e] at h3
  have : tsq S 0 = 1000 := rfl
  omega
theorem tsq_le {S : rs_S} (hw : Wf S) (i : Nat) : tsq S (i + 1) ≤ 999 := tb_le hw _ (Nat.le_refl _)
noncomputable def a_threshold (S : rs_S) (x : Int32) : Int32 :=
  if x = (-1) then nI (tN S) else if 0 ≤ x.toInt ∧ x.toInt ≤ (tN S : Int) - 1 then nI (tsq S (x.toNatClampNeg + 1)) else (-6)
/-- the weight in a plain problem, and its value -/
def wpl (S : rs_S) (t c : Nat) : Nat := psum (fun k => zp S 1 k + (zp S 2 k - t)) c (zn S)
noncomputable def pvf (S : rs_S) (t room : Nat) : Nat → Nat
  | 0 => 0
  | j + 1 => if wpl S t j ≤ room ∧ pvf S t room j < zsum S 0 j ∧ zalB S j = true then zsum S 0 j else pvf S t room j
noncomputable def a_plain (S : rs_S) (x : Int32) : Int32 :=
  if 0 ≤ x.toInt ∧ x.toInt ≤ (tN S : Int) - 1 then
    (if zg S * tsq S (x.toNatClampNeg + 1) ≤ zc S then nI (pvf S (tsq S (x.toNatClampNeg + 1)) (zc S - zg S * tsq S (x.toNatClampNeg + 1)) (2 ^ zn S)) else (-6))
  else (-1)
theorem d_layThr (E : rp_E) {M : rp_M} {S : rs_S} (hw : Wf S) (hr : RM S (M 156)) : rp_Run E YX6_layThresholds [.ref 155] M (rp_P (fun v M' => v = nI (tN S) ∧ (∀ i, i < tN S → M' 165 i = nI (tsq S (i + 1))) ∧ ∀ k, k ≠ 165 → M' k = M k)) := by
  have hn := hw.n12
  refine vX6_layThresholds E _ M ?_
  have hN := tN_le hw
  generalize hpo : (rp_P (fun v M' => v = nI (tN S) ∧ (∀ i, i < tN S → M' 165 i = nI (tsq S (i + 1))) ∧ ∀ k, k ≠ 165 → M' k = M k)) = post
  suffices key : ∀ d i, i + d = tN S → ∀ M1 : rp_M, (∀ j, j < i → M1 165 j = nI (tsq S (j + 1))) → (∀ k, k ≠ 165 → M1 k = M k) → rp_G E YX6_layThresholds post 6 [.ref 155, .int (nI i), .int (nI (tsq S i)), .null, .null, .null] [] M1 from key (tN S) 0 (by omega) M (fun j hj => by omega) (fun _ _ => rfl)
  have hts : ∀ i, tsq S i ≤ 1000 := fun i => match i with
    | 0 => Nat.le_refl _
    | i + 1 => Nat.le_trans (tsq_le hw i) (by decide)
  intro d
  induction d with
  | zero =>
    intro i hi M1 h1 h2
    have e : i = tN S := by omega
    subst e
    refine vX6_layThresholds_6 E _ M1 _ _ ?_
    rw [(tN_is S).1]
    refine ⟨fun _ => ?_, fun q => absurd (by decide) q⟩
    rw [← hpo]
    exact ⟨_, rfl, rfl, h1, h2⟩
  | succ d ih =>
    intro i hi M1 h1 h2
    have hp := (tN_is S).2 i (by omega)
    have hr1 : RM S (M1 156) := by rw [h2 156 (by decide)]; exact hr
    have hti := hts i
    refine vX6_layThresholds_6 E _ M1 _ _ ?_
    rw [show (0 : Int32) = nI 0 by rfl, nI_leI (by omega) (by omega)]
    refine ⟨fun q => absurd q (by omega), fun _ => ?_⟩
    suffices key : ∀ j, j ≤ zn S → rp_G E YX6_layThresholds post 15 [.ref 155, .int (nI i), .int (nI (tsq S i)), .int (nI (tb S (tsq S i) j)), .int (nI j), .null] [] M1 from key 0 (Nat.zero_le _)
    refine up_loop (fun j hj ihj => vX6_layThresholds_15 E _ M1 _ _ _ _ ?_)
    rw [hr1.1, nI_leI (by omega) (by omega)]
    refine ⟨fun h3 => ⟨nI_inb (by omega) (by omega), fun M2 e2 => ?_⟩, fun h3 => ⟨_, _, c_of E hw hr1 (by omega) (p := 2) (by omega), ?_⟩⟩
    · have e : j = zn S := by omega
      subst e
      rw [nI_clamp (by omega)] at e2
      rw [nI_1]
      refine ih (i + 1) (by omega) M2 (fun j hj2 => ?_) (fun k hk => ?_)
      · rw [e2]
        by_cases e : j = i
        · subst e
          exact rp_s_at _ _ _ _
        · rw [rp_s_ne (by omega)]
          exact h1 j (by omega)
      · rw [e2, rp_s_cell hk]
        exact h2 k hk
    · have ihj := ihj (by omega)
      have b1 := hw.p999 (p := 2) (by omega) (show j < zn S by omega)
      have b2 := tb_le hw (b := tsq S i) j hj
      have et : tb S (tsq S i) (j + 1) = if zp S 2 j < tsq S i ∧ tb S (tsq S i) j < zp S 2 j then zp S 2 j else tb S (tsq S i) j := rfl
      rw [et] at ihj
      rw [nI_leI (by omega) (by omega), nI_leI (by omega) (by omega), nI_1]
      refine ⟨fun h4 => ?_, fun h4 => ⟨fun h5 => ?_, fun h5 => ?_⟩⟩
      · rw [if_neg (by omega)] at ihj
        exact ihj
      · rw [if_neg (by omega)] at ihj
        exact ihj
      · rw [if_pos (by omega)] at ihj
        exact ihj
theorem scr_165 {M M' : rp_M} (h : ∀ k, k ≠ 165 → M' k = M k) : scrM M M' :=
  ⟨fun k hk => h k (by omega), h _ (by decide), h _ (by decide), h _ (by decide), by rw [h 155 (by decide)], by rw [h 155 (by decide)]⟩
theorem d6_threshold (E : rp_E) {M : rp_M} {S : rs_S} (hw : Wf S) (hr : RM S (M 156)) (x : Int32) : rp_Run E YX6_threshold [.ref 155, .int x] M (rp_P (fun v M' => v = a_threshold S x ∧ scrM M M')) := by
  have hN := tN_le hw
  refine vX6_threshold E _ M x ⟨_, d_layThr E hw hr, fun v M1 q => ?_⟩
  obtain ⟨e, h1, h2⟩ := q
  subst e
  have hsc := scr_165 h2
  refine ⟨fun hx => ⟨_, _, c_in E M1 _ _ _, ?_⟩, fun hx => ⟨_, rfl, (if_pos hx).symm, hsc⟩⟩
  have ea : a_threshold S x = _ := if_neg hx
  rw [ea]
  clear ea
  rw [bI_n, bI_0, decide_eq_true_eq, decide_eq_false_iff_not, Int32.toInt_zero, nI_m1 (by omega)]
  refine ⟨fun h3 => ⟨_, rfl, (if_neg h3).symm, hsc⟩, fun h3 => ?_⟩
  rw [if_pos h3]
  have c2 := clamp_int h3.1
  have e2 := toNat_nI h3.1
  generalize x.toNatClampNeg = i at *
  rw [e2, h1 i (by omega)]
  exact ⟨nI_inb (by omega) (by omega), _, rfl, rfl, hsc⟩
theorem d6_plain (E : rp_E) {M : rp_M} {S : rs_S} (hw : Wf S) (hr : RM S (M 156)) (x : Int32) : rp_Run E YX6_plain [.ref 155, .int x] M (rp_P (fun v M' => v = a_plain S x ∧ scrM M M')) := by
  have hN := tN_le hw
  have hn := hw.n12
  have hh2 := hw.two
  have hcap := hw.2.1
  refine vX6_plain E _ M x ⟨_, d_layThr E hw hr, fun v M1 q => ?_⟩
  obtain ⟨e, h1, h2⟩ := q
  subst e
  have hsc := scr_165 h2
  have hr1 : RM S (M1 156) := by rw [h2 156 (by decide)]; exact hr
  refine ⟨_, _, c_in E M1 _ _ _, ?_⟩
  rw [bI_n, bI_0, decide_eq_true_eq, decide_eq_false_iff_not, Int32.toInt_zero, nI_m1 (by omega)]
  refine ⟨fun h3 => ?_, fun h3 => ⟨_, rfl, (if_neg h3).symm, hsc⟩⟩
  have ea : a_plain S x = _ := if_pos h3
  rw [ea]
  clear ea
  have c2 := clamp_int h3.1
  have e2 := toNat_nI h3.1
  generalize x.toNatClampNeg = i at *
  have ht9 := tsq_le hw i
  have hg := hw.2.2.1
  have hmul : zg S * tsq S (i + 1) ≤ 12 * 999 := Nat.mul_le_mul hg ht9
  rw [e2, h1 i (by omega), hr1.2.1, hr1.2.2.1, pk_mul, nI_s]
  generalize tsq S (i + 1) = t at *
  refine ⟨nI_inb (by omega) (by omega), fun h4 => ?_, fun h4 => ?_⟩
  · have h4 : zg S * t ≤ zc S := by
      rw [Int32.le_d, Int32.toInt_zero, iI_toInt (by omega) (by omega)] at h4
      omega
    rw [if_pos h4, show ((zc S : Int) - ((zg S * t : Nat) : Int)) = ((zc S - zg S * t : Nat) : Int) by omega, iI_nat]
    generalize hroom : zc S - zg S * t = room
    have hr9 : room ≤ 9999 := by omega
    generalize hpo : (rp_P (fun v M' => v = nI (pvf S t room (2 ^ zn S)) ∧ scrM M M')) = post
    have hpv : ∀ j, pvf S t room j ≤ 11988 := fun j => by
      induction j with
      | zero => exact Nat.zero_le _
      | succ j ih =>
        unfold pvf
        split
        · exact hw.sum (p := 0) (by omega) j
        · exact ih
    suffices key : ∀ j, j ≤ 2 ^ zn S → rp_G E YX6_plain post 52 [.ref 155, .null, .int (nI t), .int (nI room), .int (nI (pvf S t room j)), .int (nI j), .null, .null, .null] [] M1 from key 0 (Nat.zero_le _)
    refine up_loop (fun j hj ih => vX6_plain_52 E _ M1 _ _ _ _ ?_)
    refine ⟨_, _, c_sets E hn hr1.1, ?_⟩
    rw [nI_leI (by omega) (by omega)]
    refine ⟨fun h5 => ?_, fun h5 => ?_⟩
    · have e : j = 2 ^ zn S := by omega
      subst e
      rw [← hpo]
      exact ⟨_, rfl, rfl, hsc⟩
    suffices key : ∀ k, k ≤ zn S → rp_G E YX6_plain post 67 [.ref 155, .null, .int (nI t), .int (nI room), .int (nI (pvf S t room j)), .int (nI j), .int (nI (psum (fun k => zp S 1 k + (zp S 2 k - t)) j k)), .int (nI k), .null] [] M1 from key 0 (Nat.zero_le _)
    have ih := ih (by omega)
    have ep : pvf S t room (j + 1) = if wpl S t j ≤ room ∧ pvf S t room j < zsum S 0 j ∧ zalB S j = true then zsum S 0 j else pvf S t room j := rfl
    rw [ep] at ih
    have b1 := hpv j
    have b2 := hw.sum (p := 0) (by omega) j
    have b3 : ∀ k, k ≤ zn S → psum (fun k => zp S 1 k + (zp S 2 k - t)) j k ≤ 23976 := fun k hk => by
      have h6 : psum (fun k => zp S 1 k + (zp S 2 k - t)) j k ≤ k * 1998 := psum_le (fun q hq => by
        have h7 := hw.p999 (p := 1) (by omega) (show q < zn S by omega)
        have h8 := hw.p999 (p := 2) (by omega) (show q < zn S by omega)
        show zp S 1 q + (zp S 2 q - t) ≤ 1998
        omega)
      have : k * 1998 ≤ 12 * 1998 := Nat.mul_le_mul_right _ (by omega)
      omega
    refine up_loop (fun k hk ihk => vX6_plain_67 E _ M1 _ _ _ _ _ _ ?_)
    have b4 := b3 k hk
    rw [hr1.1, nI_leI (by omega) (by omega)]
    refine ⟨fun h6 => ⟨_, _, c_sum E hw hr1 (p := 0) (by omega) (by omega), ?_⟩, fun h6 => ⟨_, _, c_of E hw hr1 (by omega) (p := 2) (by omega), _, _, c_has E M1 (by omega) (by omega), ?_⟩⟩
    · have e : k = zn S := by omega
      subst e
      have ew : psum (fun k => zp S 1 k + (zp S 2 k - t)) j (zn S) = wpl S t j := rfl
      rw [ew] at b4 ⊢
      rw [nI_ltI (by omega) (by omega), nI_leI (by omega) (by omega), nI_1]
      refine ⟨fun h7 => ?_, fun h7 => ⟨fun h8 => ?_, fun h8 => ⟨_, _, c_isAllowed E hw hr1 (by omega), ?_⟩⟩⟩
      · rw [if_neg (by omega)] at ih
        exact ih
      · rw [if_neg (by omega)] at ih
        exact ih
      · rw [bI_n, bI_0]
        refine ⟨fun h9 => ?_, fun h9 => ?_⟩
        · rw [if_neg (fun z => by rw [h9] at z; cases z.2.2)] at ih
          exact ih
        · rw [if_pos ⟨by omega, by omega, h9⟩] at ih
          exact ih
    · have ihk := ihk (by omega)
      have es : psum (fun k => zp S 1 k + (zp S 2 k - t)) j (k + 1) = psum (fun k => zp S 1 k + (zp S 2 k - t)) j k + (if j.testBit k then zp S 1 k + (zp S 2 k - t) else 0) := rfl
      rw [es] at ihk
      have d1 := hw.p999 (p := 1) (by omega) (show k < zn S by omega)
      have d2 := hw.p999 (p := 2) (by omega) (show k < zn S by omega)
      rw [bI_n, bI_0, nI_1]
      refine ⟨fun h7 => ?_, fun h7 => ⟨_, _, c_of E hw hr1 (by omega) (p := 1) (by omega), ?_⟩⟩
      · rw [h7] at ihk
        rw [Int32.add_zero]
        exact ihk
      · rw [if_pos h7] at ihk
        rw [nI_s]
        have hi : iI ((zp S 2 k : Int) - (t : Int)) ≤ 0 ↔ zp S 2 k ≤ t := by
          rw [Int32.le_d, Int32.toInt_zero, iI_toInt (by omega) (by omega)]
          omega
        rw [hi]
        refine ⟨fun h8 => ?_, fun h8 => ?_⟩
        · rw [show zp S 2 k - t = 0 by omega] at ihk
          rw [Int32.add_zero, nI_add]
          exact ihk
        · rw [show ((zp S 2 k : Int) - (t : Int)) = ((zp S 2 k - t : Nat) : Int) by omega, iI_nat, nI_add, nI_add]
          exact ihk
  · have h4 : ¬ zg S * t ≤ zc S := fun z => h4 (by
      rw [Int32.le_d, Int32.toInt_zero, iI_toInt (by omega) (by omega)]
      omega)
    rw [if_neg h4]
    exact ⟨_, rfl, rfl, hsc⟩
