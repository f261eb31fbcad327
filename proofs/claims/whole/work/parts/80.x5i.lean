/-! THE CLASS, 18: recovery -/
def fea (S : rs_S) (it R sc r : Nat) : Prop := rOk S it R r ∧ zsum S 1 r + zsum S 2 (sc &&& r) ≤ zc S
theorem rcv_spec {S : rs_S} {it R sc : Nat} : ∀ m, (rcv S it R sc m = none → ∀ r, r < m → ¬ fea S it R sc r) ∧ ∀ p, rcv S it R sc m = some p → (∃ r, r < m ∧ fea S it R sc r ∧ zsum S 0 r = p) ∧ ∀ r, r < m → fea S it R sc r → zsum S 0 r ≤ p
  | 0 => ⟨fun _ r h => absurd h (by omega), fun p h => by cases h⟩
  | m + 1 => by
    obtain ⟨h1, h2⟩ := rcv_spec (S := S) (it := it) (R := R) (sc := sc) m
    by_cases q : rOk S it R m ∧ (∀ p, rcv S it R sc m = some p → p < zsum S 0 m) ∧ zsum S 1 m + zsum S 2 (sc &&& m) ≤ zc S
    · rw [rcv_yes q]
      refine ⟨fun h => (by cases h), fun p h => ?_⟩
      cases h
      refine ⟨⟨m, by omega, ⟨q.1, q.2.2⟩, rfl⟩, fun r hr hf => ?_⟩
      by_cases e : r = m
      · rw [e]
        exact Nat.le_refl _
      · cases z : rcv S it R sc m with
        | none => exact absurd hf (h1 z r (by omega))
        | some p =>
          have := (h2 p z).2 r (by omega) hf
          have := q.2.1 p z
          omega
    · rw [rcv_no q]
      refine ⟨fun h r hr hf => ?_, fun p h => ?_⟩
      · by_cases e : r = m
        · subst e
          exact q ⟨hf.1, fun p hp => (by rw [h] at hp; cases hp), hf.2⟩
        · exact h1 h r (by omega) hf
      · obtain ⟨⟨r, r1, r2, r3⟩, r4⟩ := h2 p h
        refine ⟨⟨r, by omega, r2, r3⟩, fun r' hr' hf => ?_⟩
        by_cases e : r' = m
        · subst e
          apply Classical.byContradiction
          intro z
          exact q ⟨hf.1, fun p' hp' => (by rw [h] at hp'; cases hp'; omega), hf.2⟩
        · exact r4 r' (by omega) hf
/-- the rests, in some order -/
def RSX (S : rs_S) (it R : Nat) (M : rp_M) : Prop := (∃ (K : Nat) (ro : Nat → Nat), K ≤ 4096 ∧ M 149 4 = nI K ∧ (∀ i, i < K → M 152 i = nI (ro i) ∧ rOk S it R (ro i) ∧ ro i < 2 ^ zn S) ∧ ∀ r, r < 2 ^ zn S → rOk S it R r → ∃ i, i < K ∧ ro i = r) ∧ ∀ c, c < 2 ^ zn S → M 150 c = nI (zsum S 1 c) ∧ M 151 c = nI (zsum S 2 c)
theorem sub_le {a b : Nat} (h : a &&& b = a) : a ≤ b := by
  rw [← h]
  exact Nat.and_le_right
theorem not0 {a b : Nat} (ha : a < 2 ^ 31) : nI a &&& (nI b ^^^ (-1)) = 0 ↔ a &&& b = a := by
  rw [nI_not]
  have h := zdf_le a b ha
  rw [show (nI (zdf a b) = 0) = (zdf a b = 0) from propext (nI_eq (b := 0) h (by decide))]
  constructor
  · intro z
    apply Nat.eq_of_testBit_eq
    intro i
    have := congrArg (fun x => x.testBit i) z
    simp only [zdf_bit, Nat.zero_testBit] at this
    rw [Nat.testBit_and]
    cases y1 : a.testBit i <;> cases y2 : b.testBit i <;> rw [y1, y2] at this <;> first | rfl | exact absurd this (by decide)
  · intro z
    apply Nat.eq_of_testBit_eq
    intro i
    have := congrArg (fun x => x.testBit i) z
    simp only [Nat.testBit_and] at this
    rw [zdf_bit, Nat.zero_testBit]
    cases y1 : a.testBit i <;> cases y2 : b.testBit i <;> rw [y1, y2] at this <;> first | rfl | exact absurd this (by decide)
theorem d2_collect (E : rp_E) {M : rp_M} {S : rs_S} (hw : Wf S) (hr : R0 S M) (ht : tabX S (zg S) (zh S) M) {it R : Nat} (hit : it < 2 ^ zn S) (hR : R ≤ 12) : rp_Run E YX2_collect [.ref 149, .ref 139, .ref 0, .int (nI it), .int (nI R)] M (rp_P0 (fun M' => RSX S it R M' ∧ ∀ k, k < 149 ∨ 153 < k → M' k = M k)) := by
  have hn := hw.n12
  have h2 := hw.two
  refine vX2_collect E _ M _ _ ?_
  rw [hr.1]
  refine ⟨_, d_sumUp E (r0 := 150) (r1 := 3) (n := zn S) (by omega) rfl (by omega) rfl (by omega) hn (zp S 1) (fun k hk => (hr.2.2.2.2 k hk).1 1 (by omega)), fun M1 q1 => ?_⟩
  obtain ⟨w1, k1⟩ := q1
  rw [k1 0 (by decide), hr.1]
  refine ⟨_, d_sumUp E (r0 := 151) (r1 := 4) (n := zn S) (by omega) rfl (by omega) rfl (by omega) hn (zp S 2) (fun k hk => by rw [k1 4 (by decide)]; exact (hr.2.2.2.2 k hk).1 2 (by omega)), fun M2 q2 M3 e3 => ?_⟩
  obtain ⟨w2, k2⟩ := q2
  have kk3 : ∀ k, k < 149 ∨ 153 < k → M3 k = M k := fun k hk => by rw [e3, rp_s_cell (by omega), k2 k (by omega), k1 k (by omega)]
  have s3 : ∀ c, c < 2 ^ zn S → M3 150 c = nI (zsum S 1 c) ∧ M3 151 c = nI (zsum S 2 c) := fun c hc => ⟨by rw [e3, rp_s_cell (by decide), k2 150 (by decide), w1 c hc]; rfl, by rw [e3, rp_s_cell (by decide), w2 c hc]; rfl⟩
  suffices key : ∀ j, j ≤ it + 1 → ∀ M4 : rp_M, (∃ (K : Nat) (ro : Nat → Nat), K ≤ j ∧ M4 149 4 = nI K ∧ (∀ i, i < K → M4 152 i = nI (ro i) ∧ rOk S it R (ro i) ∧ ro i < 2 ^ zn S) ∧ ∀ r, r < j → rOk S it R r → ∃ i, i < K ∧ ro i = r) → (∀ k, k ≠ 149 → k ≠ 152 → M4 k = M3 k) → rp_G E YX2_collect (rp_P0 (fun M' => RSX S it R M' ∧ ∀ k, k < 149 ∨ 153 < k → M' k = M k)) 42 [.ref 149, .ref 139, .null, .int (nI it), .int (nI R), .int (nI j), .null] [] M4 from key 0 (by omega) M3 ⟨0, fun i => i, Nat.le_refl _, by rw [e3, rp_s_at]; rfl, fun i hi => absurd hi (by omega), fun r hr => absurd hr (by omega)⟩ (fun _ _ _ => rfl)
  refine up_loop (fun j hj ih M4 q1 q2 => vX2_collect_42 E _ M4 _ _ _ ?_)
  obtain ⟨K, ro, K1, K2, K3, K4⟩ := q1
  have kk4 : ∀ k, k < 149 ∨ 153 < k → M4 k = M k := fun k hk => by rw [q2 k (by omega) (by omega), kk3 k hk]
  rw [nI_ltI (by omega) (by omega)]
  refine ⟨fun h => ⟨rfl, ⟨⟨K, ro, by omega, K2, K3, fun r hr hok => K4 r ?_ hok⟩, fun c hc => ?_⟩, kk4⟩, fun h => ?_⟩
  · have := sub_le hok.1
    omega
  · rw [q2 150 (by decide) (by decide), q2 151 (by decide) (by decide)]
    exact s3 c hc
  have hj2 : j ≤ it := by omega
  have t4 : tabX S (zg S) (zh S) M4 := ⟨by rw [kk4 139 (by omega)]; exact ht.1, by rw [kk4 139 (by omega)]; exact ht.2.1, fun c hc => by
    rw [kk4 140 (by omega), kk4 141 (by omega), kk4 142 (by omega), kk4 143 (by omega)]
    exact ht.2.2 c hc⟩
  rw [not0 (by omega), nI_1, nI_xor]
  have skip : ¬ rOk S it R j → rp_G E YX2_collect (rp_P0 (fun M' => RSX S it R M' ∧ ∀ k, k < 149 ∨ 153 < k → M' k = M k)) 42 [.ref 149, .ref 139, .null, .int (nI it), .int (nI R), .int (nI (j + 1)), .null] [] M4 := fun no => by
    refine ih (by omega) M4 ⟨K, ro, by omega, K2, K3, fun r hr hok => K4 r ?_ hok⟩ q2
    by_cases e : r = j
    · rw [e] at hok
      exact absurd hok no
    · omega
  have hx : it ^^^ j < 2 ^ zn S := Nat.xor_lt_two_pow hit (by omega)
  have hp := pop_le (it ^^^ j)
  refine ⟨fun z => skip (fun y => z y.1), fun z => ⟨_, _, c_bits E M4 (by omega), ?_⟩⟩
  rw [nI_ltI (by omega) (by omega)]
  refine ⟨fun y => skip (fun u => by have := u.2.1; omega), fun y => ⟨_, _, c0_allows E (t4.g hw) (show j < 2 ^ zn S by omega), ?_⟩⟩
  rw [bI_n, bI_0, K2]
  refine ⟨fun u => skip (fun v => by have := v.2.2; rw [u] at this; cases this), fun u => ⟨nI_inb (by omega) (by omega), fun M5 e5 M6 e6 => ?_⟩⟩
  rw [nI_clamp (by omega)] at e5
  have ok : rOk S it R j := ⟨z, by omega, u⟩
  refine ih (by omega) M6 ⟨K + 1, fun i => if i = K then j else ro i, by omega, ?_, fun i hi => ?_, fun r hr hok => ?_⟩ (fun k h1 h2 => by rw [e6, rp_s_cell h1, e5, rp_s_cell h2, q2 k h1 h2])
  · rw [e6, rp_s_at, e5, rp_s_ne (by omega), K2, nI_1]
  · show M6 152 i = nI (if i = K then j else ro i) ∧ rOk S it R (if i = K then j else ro i) ∧ (if i = K then j else ro i) < 2 ^ zn S
    by_cases e : i = K
    · rw [if_pos e, e6, rp_s_cell (by decide), e5, e, rp_s_at]
      exact ⟨rfl, ok, by omega⟩
    · rw [if_neg e, e6, rp_s_cell (by decide), e5, rp_s_ne (by omega)]
      exact K3 i (by omega)
  · by_cases e : r = j
    · exact ⟨K, by omega, by show (if K = K then j else ro K) = r; rw [if_pos rfl, e]⟩
    · obtain ⟨i, i1, i2⟩ := K4 r (by omega) hok
      exact ⟨i, by omega, by show (if i = K then j else ro i) = r; rw [if_neg (by omega)]; exact i2⟩
theorem d2_profit (E : rp_E) {M : rp_M} {S : rs_S} (hw : Wf S) {it R sc : Nat} (hs : RSX S it R M) (hv : ∀ c, c < 2 ^ zn S → M 142 c = nI (zsum S 0 c)) (hsc : sc < 2 ^ zn S) {en : Nat} (hen : en ≤ 100000) : rp_Run E YX2_profitIn [.ref 149, .int (nI sc), .int (nI en), .ref 142, .int (nI (zc S))] M (rp_P (fun v M' => (v = oM (zrec S it R sc) ∨ (∃ p q, v = nI p ∧ zrec S it R sc = some q ∧ en ≤ p ∧ p ≤ q ∧ q ≤ 11988)) ∧ RSX S it R M' ∧ ∀ k, k ≠ 152 → M' k = M k)) := by
  have h2 := hw.two
  have hcc := hw.2.1
  obtain ⟨⟨K, ro, K1, K2, K3, K4⟩, ws⟩ := hs
  refine vX2_profitIn E _ M (r3 := 142) (n3 := 4096) (by omega) rfl _ _ _ ?_
  suffices key : ∀ i, i ≤ K → ∀ (mo : Option Nat) (ro : Nat → Nat) (M1 : rp_M), (∀ i, i < K → M1 152 i = nI (ro i) ∧ rOk S it R (ro i) ∧ ro i < 2 ^ zn S) → (∀ r, r < 2 ^ zn S → rOk S it R r → ∃ i, i < K ∧ ro i = r) → (∀ k, k ≠ 152 → M1 k = M k) → ((mo = none → ∀ i', i' < i → ¬ fea S it R sc (ro i')) ∧ ∀ p, mo = some p → (∃ i', i' < i ∧ fea S it R sc (ro i') ∧ zsum S 0 (ro i') = p) ∧ ∀ i', i' < i → fea S it R sc (ro i') → zsum S 0 (ro i') ≤ p) → rp_G E YX2_profitIn (rp_P (fun v M' => (v = oM (zrec S it R sc) ∨ (∃ p q, v = nI p ∧ zrec S it R sc = some q ∧ en ≤ p ∧ p ≤ q ∧ q ≤ 11988)) ∧ RSX S it R M' ∧ ∀ k, k ≠ 152 → M' k = M k)) 7 [.ref 149, .int (nI sc), .int (nI en), .ref 142, .int (nI (zc S)), .int (oM mo), .int (nI i), .null] [] M1 from key 0 (Nat.zero_le _) none ro M K3 K4 (fun _ _ => rfl) ⟨fun _ i' h => absurd h (by omega), fun p h => by cases h⟩
  refine up_loop (fun i hi ih mo ro M1 R3 R4 kk inv => vX2_profitIn_7 E _ M1 (r3 := 142) (n3 := 4096) (by omega) rfl _ _ _ _ _ ?_)
  have m4 : M1 149 4 = nI K := by rw [kk 149 (by decide)]; exact K2
  have rs : RSX S it R M1 := ⟨⟨K, ro, K1, m4, R3, R4⟩, fun c hc => by rw [kk 150 (by decide), kk 151 (by decide)]; exact ws c hc⟩
  have zs := rcv_spec (S := S) (it := it) (R := R) (sc := sc) (2 ^ zn S)
  have mle : ∀ p, mo = some p → p ≤ 11988 := fun p hp => by
    obtain ⟨⟨i', -, -, e⟩, -⟩ := inv.2 p hp
    rw [← e]
    exact hw.sum (p := 0) (by omega) _
  have mlt : ∀ k, mo = some k → k < 2 ^ 31 := fun k hk => by
    have := mle k hk
    omega
  rw [m4, nI_leI (by omega) (by omega)]
  refine ⟨fun h => ?_, fun h => ⟨fun h3 => ?_, fun h3 => ?_⟩⟩
  · have e : i = K := by omega
    subst e
    refine ⟨_, rfl, Or.inl ?_, rs, kk⟩
    congr 1
    cases hz : zrec S it R sc with
    | none =>
      cases mo with
      | none => rfl
      | some p =>
        obtain ⟨⟨i', i1, i2, i3⟩, -⟩ := inv.2 p rfl
        exact absurd i2 (zs.1 hz _ (R3 i' i1).2.2)
    | some q =>
      obtain ⟨⟨r, r1, r2, r3⟩, r4⟩ := zs.2 q hz
      obtain ⟨i', i1, i2⟩ := R4 r r1 r2.1
      cases mo with
      | none => exact absurd (by rw [i2]; exact r2) (inv.1 rfl i' i1)
      | some p =>
        obtain ⟨⟨j', j1, j2, j3⟩, j4⟩ := inv.2 p rfl
        have a1 := j4 i' i1 (by rw [i2]; exact r2)
        have a2 := r4 _ (R3 j' j1).2.2 j2
        rw [i2] at a1
        congr 1
        omega
  · cases mo with
    | none =>
      have h3 : nI en ≤ (-6) := h3
      rw [Int32.le_d, nI_toInt (by omega), show ((-6 : Int32)).toInt = -6 by decide] at h3
      omega
    | some p =>
      have h3 : nI en ≤ nI p := h3
      have := mle p rfl
      rw [nI_leI (by omega) (by omega)] at h3
      obtain ⟨⟨i', i1, i2, i3⟩, -⟩ := inv.2 p rfl
      cases hz : zrec S it R sc with
      | none => exact absurd i2 (zs.1 hz _ (R3 i' (by omega)).2.2)
      | some q =>
        have a := (zs.2 q hz).2 _ (R3 i' (by omega)).2.2 i2
        exact ⟨_, rfl, Or.inr ⟨p, q, rfl, rfl, h3, by omega, rcv_le hw _ q hz⟩, rs, kk⟩
  · have hi2 : i < K := by omega
    obtain ⟨v1, v2, v3⟩ := R3 i hi2
    have hand : ro i &&& sc < 2 ^ zn S := Nat.lt_of_le_of_lt Nat.and_le_left v3
    have bs := hw.sum (p := 0) (by omega) (ro i)
    have b1 := hw.sum (p := 1) (by omega) (ro i)
    have b2 := hw.sum (p := 2) (by omega) (ro i &&& sc)
    have x1 : M1 142 (ro i) = nI (zsum S 0 (ro i)) := by rw [kk 142 (by decide)]; exact hv _ v3
    have x2 : M1 150 (ro i) = nI (zsum S 1 (ro i)) := by rw [kk 150 (by decide)]; exact (ws _ v3).1
    have x3 : M1 151 (ro i &&& sc) = nI (zsum S 2 (ro i &&& sc)) := by rw [kk 151 (by decide)]; exact (ws _ hand).2
    rw [nI_clamp (by omega), v1, nI_clamp (by omega), x1, nI_and, nI_clamp (by omega), x2, x3, nI_add, nI_ltI (by omega) (by omega), oM_le (by omega) mlt, nI_1]
    have nof : ¬ (fea S it R sc (ro i) ∧ ∀ p, mo = some p → p < zsum S 0 (ro i)) → rp_G E YX2_profitIn (rp_P (fun v M' => (v = oM (zrec S it R sc) ∨ (∃ p q, v = nI p ∧ zrec S it R sc = some q ∧ en ≤ p ∧ p ≤ q ∧ q ≤ 11988)) ∧ RSX S it R M' ∧ ∀ k, k ≠ 152 → M' k = M k)) 7 [.ref 149, .int (nI sc), .int (nI en), .ref 142, .int (nI (zc S)), .int (oM mo), .int (nI (i + 1)), .null] [] M1 := fun no => by
      refine ih hi2 mo ro M1 R3 R4 kk ⟨fun hm i' h' hf => ?_, fun p hp => ?_⟩
      · by_cases e : i' = i
        · subst e
          exact no ⟨hf, fun p hp => by rw [hm] at hp; cases hp⟩
        · exact inv.1 hm i' (by omega) hf
      · obtain ⟨⟨j', j1, j2, j3⟩, j4⟩ := inv.2 p hp
        refine ⟨⟨j', by omega, j2, j3⟩, fun i' h' hf => ?_⟩
        by_cases e : i' = i
        · subst e
          apply Classical.byContradiction
          intro z
          exact no ⟨hf, fun p' hp' => by rw [hp] at hp'; cases hp'; omega⟩
        · exact j4 i' (by omega) hf
    refine ⟨nI_inb (by omega) (by omega), nI_inb (by omega) (by omega), fun z => nof (fun y => z y.2), fun z => ⟨nI_inb (by omega) (by omega), nI_inb (by omega) (by omega), fun y => nof (fun u => ?_), fun y M2 e2 M3 e3 => ?_⟩⟩
    · have := u.1.2
      rw [Nat.and_comm sc (ro i)] at this
      omega
    · have z : ∀ p, mo = some p → p < zsum S 0 (ro i) := Classical.byContradiction z
      have hf : fea S it R sc (ro i) := ⟨v2, by rw [Nat.and_comm sc (ro i)]; omega⟩
      obtain ⟨w1, w2, w3⟩ := R3 0 (by omega)
      -- 0 and i change places
      have nw : ∀ i', i' < K → M3 152 i' = nI ((fun j => if j = 0 then ro i else if j = i then ro 0 else ro j) i') := fun i' h' => by
        show M3 152 i' = nI (if i' = 0 then ro i else if i' = i then ro 0 else ro i')
        by_cases e0 : i' = 0
        · rw [if_pos e0, e3, e0, rp_s_at]
        · rw [if_neg e0, e3, rp_s_ne (by omega)]
          by_cases e1 : i' = i
          · rw [if_pos e1, e2, e1, rp_s_at]
            exact w1
          · rw [if_neg e1, e2, rp_s_ne (by omega)]
            exact (R3 i' h').1
      have same : ∀ i', i' < i + 1 → ∃ j', j' < i + 1 ∧ (fun j => if j = 0 then ro i else if j = i then ro 0 else ro j) i' = ro j' := fun i' h' => by
        show ∃ j', j' < i + 1 ∧ (if i' = 0 then ro i else if i' = i then ro 0 else ro i') = ro j'
        by_cases e0 : i' = 0
        · exact ⟨i, by omega, if_pos e0⟩
        · rw [if_neg e0]
          by_cases e1 : i' = i
          · exact ⟨0, by omega, if_pos e1⟩
          · exact ⟨i', by omega, if_neg e1⟩
      show rp_G E YX2_profitIn _ 7 [.ref 149, .int (nI sc), .int (nI en), .ref 142, .int (nI (zc S)), .int (oM (some (zsum S 0 (ro i)))), .int (nI (i + 1)), .null] [] M3
      refine ih hi2 (some (zsum S 0 (ro i))) (fun j => if j = 0 then ro i else if j = i then ro 0 else ro j) M3 (fun i' h' => ⟨nw i' h', ?_⟩) (fun r hr hok => ?_) (fun k hk => by rw [e3, rp_s_cell hk, e2, rp_s_cell hk, kk k hk]) ⟨fun h => (by cases h), fun p hp => ?_⟩
      · show rOk S it R (if i' = 0 then ro i else if i' = i then ro 0 else ro i') ∧ (if i' = 0 then ro i else if i' = i then ro 0 else ro i') < 2 ^ zn S
        by_cases e0 : i' = 0
        · rw [if_pos e0]
          exact ⟨v2, v3⟩
        · rw [if_neg e0]
          by_cases e1 : i' = i
          · rw [if_pos e1]
            exact ⟨w2, w3⟩
          · rw [if_neg e1]
            exact (R3 i' h').2
      · obtain ⟨j', j1, j2⟩ := R4 r hr hok
        by_cases e0 : j' = 0
        · by_cases ei : i = 0
          · exact ⟨0, by omega, by show (if 0 = 0 then ro i else if 0 = i then ro 0 else ro 0) = r; rw [if_pos rfl, ei, ← e0]; exact j2⟩
          · exact ⟨i, hi2, by show (if i = 0 then ro i else if i = i then ro 0 else ro i) = r; rw [if_neg ei, if_pos rfl, ← e0]; exact j2⟩
        · by_cases e1 : j' = i
          · exact ⟨0, by omega, by show (if 0 = 0 then ro i else if 0 = i then ro 0 else ro 0) = r; rw [if_pos rfl, ← e1]; exact j2⟩
          · exact ⟨j', j1, by show (if j' = 0 then ro i else if j' = i then ro 0 else ro j') = r; rw [if_neg e0, if_neg e1]; exact j2⟩
      · cases hp
        refine ⟨⟨0, by omega, ?_, ?_⟩, fun i' h' hf' => ?_⟩
        · show fea S it R sc (if 0 = 0 then ro i else if 0 = i then ro 0 else ro 0)
          rw [if_pos rfl]
          exact hf
        · show zsum S 0 (if 0 = 0 then ro i else if 0 = i then ro 0 else ro 0) = _
          rw [if_pos rfl]
        · obtain ⟨j', j1, j2⟩ := same i' h'
          have j2 : (if i' = 0 then ro i else if i' = i then ro 0 else ro i') = ro j' := j2
          rw [j2] at hf' ⊢
          by_cases e : j' = i
          · rw [e]
            exact Nat.le_refl _
          · cases hm : mo with
            | none => exact absurd hf' (inv.1 hm j' (by omega))
            | some p =>
              have := (inv.2 p hm).2 j' (by omega) hf'
              have := z p hm
              omega
theorem tab_rc {S : rs_S} {M M' : rp_M} (h : tabX S (zg S) (zh S) M) (k2 : ∀ k, k < 149 ∨ 153 < k → M' k = M k) : tabX S (zg S) (zh S) M' := ⟨by rw [k2 139 (by omega)]; exact h.1, by rw [k2 139 (by omega)]; exact h.2.1, fun c hc => by
    rw [k2 140 (by omega), k2 141 (by omega), k2 142 (by omega), k2 143 (by omega)]
    exact h.2.2 c hc⟩
theorem d5_rec (E : rp_E) {M : rp_M} {S : rs_S} (hw : Wf S) (hr : R0 S M) (h9 : rdy S M) (x y z : Int32) : rp_Run E YX5_recovered [.ref 154, .int x, .int y, .int z] M (rp_P (fun v M' => v = a_rec S x y z ∧ scrX S M M')) := by
  have hn := hw.n12
  have h2 := hw.two
  have hg := hw.2.2.1
  have ok : ∀ (v a : Int32), a = v → rp_P (fun v M' => v = a ∧ scrX S M M') (some v) M := fun v a e => ⟨v, rfl, e.symm, scrX.rf h9⟩
  refine vX5_recovered E _ M x y z ⟨_, _, c5_isChoice E hn hr.1 x, ?_⟩
  rw [bI_n, bI_0]
  refine ⟨fun hx => ok _ _ (if_neg (fun q => by rw [hx] at q; cases q.1)), fun hx => ⟨_, _, c5_isChoice E hn hr.1 y, ?_⟩⟩
  rw [bI_n, bI_0]
  refine ⟨fun hy => ?_, fun hy => ok _ _ (if_neg (fun q => by rw [hy] at q; cases q.2))⟩
  have ea : a_rec S x y z = _ := if_pos ⟨hx, hy⟩
  rw [ea]
  clear ea
  obtain ⟨a, ha, e⟩ := isI_of (by omega) hx
  obtain ⟨b, hb, e2⟩ := isI_of (by omega) hy
  rw [e, e2, nI_clamp (by omega), nI_clamp (by omega), Int32.lt_d, Int32.le_d, Int32.toInt_zero, show ((12 : Int32)).toInt = 12 by decide]
  refine ⟨fun h => ok _ _ (if_neg (by omega)), fun h => ⟨fun h3 => ?_, fun h3 => ok _ _ (if_neg (by omega))⟩⟩
  have hz : 0 ≤ z.toInt ∧ z.toInt ≤ 12 := by omega
  have ez := toNat_nI hz.1
  have cz := clamp_int hz.1
  rw [if_pos hz]
  generalize z.toNatClampNeg = R at *
  subst ez
  have hp := pop_le b
  refine ⟨_, _, c_bits E M (by omega), _, _, (c5_budget E hr).1, ?_⟩
  rw [nI_leI (by omega) (by omega)]
  refine ⟨fun h4 => ⟨_, d5_prepare E hw hr h9, fun M1 q => ⟨_, d2_collect E hw q.2.2.1 q.2.1 ha (by omega), fun M2 q2 => ?_⟩⟩, fun h4 => ok _ _ (if_neg h4)⟩
  obtain ⟨rs, k2⟩ := q2
  have t2 := tab_rc q.2.1 k2
  have hr2 : R0 S M2 := q.2.2.1.keep (fun k hk => k2 k (by omega))
  rw [if_pos h4]
  refine ⟨_, _, c5_cap E hr2, _, d2_profit E hw rs (fun c hc => (t2.2.2 c hc).2.2.1) hb (en := 100000) (by omega), fun v M3 q3 => ?_⟩
  obtain ⟨v3, -, k3⟩ := q3
  refine ⟨_, rfl, ?_, fun k hk => by rw [k3 k (by omega), k2 k (by omega), q.2.2.2 k (by omega)], Or.inr ⟨by rw [k3 139 (by decide), k2 139 (by omega)]; exact q.1, tab_rc t2 (fun k hk => k3 k (by omega))⟩⟩
  rcases v3 with w | ⟨p, q, w1, w2, w3, w4, w5⟩
  · exact w
  · omega
theorem adv_stop {S : rs_S} {it R a : Nat} : ∀ d, (∀ j, a ≤ j → j < a + d → ¬ (j &&& it = j ∧ pop j ≤ zg S ∧ olt (zrec S it R j) (adv S it R a).1)) → adv S it R (a + d) = adv S it R a
  | 0, _ => rfl
  | d + 1, h => by
    have ih := adv_stop d (fun j h1 h2 => h j h1 (by omega))
    have := h (a + d) (by omega) (by omega)
    show adv S it R (a + d + 1) = _
    rw [adv_no (by rw [ih]; exact this), ih]
theorem d5_adv (E : rp_E) {M : rp_M} {S : rs_S} (hw : Wf S) (hr : R0 S M) (h9 : rdy S M) (x z w : Int32) : rp_Run E YX5_adversary [.ref 154, .int x, .int z, .int w] M (rp_P (fun v M' => v = a_adv S x z w ∧ scrX S M M')) := by
  have hn := hw.n12
  have h2 := hw.two
  have hg := hw.2.2.1
  have ok : ∀ (v a : Int32), a = v → rp_P (fun v M' => v = a ∧ scrX S M M') (some v) M := fun v a e => ⟨v, rfl, e.symm, scrX.rf h9⟩
  refine vX5_adversary E _ M x z w ⟨_, _, c5_isChoice E hn hr.1 x, ?_⟩
  rw [bI_n, bI_0]
  refine ⟨fun hx => ?_, fun hx => ok _ _ (if_neg (by rw [hx]; decide))⟩
  have ea : a_adv S x z w = _ := if_pos hx
  rw [ea]
  clear ea
  obtain ⟨it, hit, e⟩ := isI_of (by omega) hx
  rw [e, nI_clamp (by omega), Int32.lt_d, Int32.lt_d, Int32.lt_d, Int32.le_d, Int32.toInt_zero, show ((12 : Int32)).toInt = 12 by decide, show ((1 : Int32)).toInt = 1 by decide]
  refine ⟨fun h => ok _ _ (if_neg (by omega)), fun h => ⟨fun h1 => ok _ _ (if_neg (by omega)), fun h1 => ⟨fun h3 => ok _ _ (if_neg (by omega)), fun h3 => ⟨fun h4 => ?_, fun h4 => ok _ _ (if_neg (by omega))⟩⟩⟩⟩
  have hz : 0 ≤ z.toInt ∧ z.toInt ≤ 12 := by omega
  have ez := toNat_nI hz.1
  have cz := clamp_int hz.1
  rw [if_pos ⟨hz, by omega⟩]
  generalize z.toNatClampNeg = R at *
  subst ez
  refine ⟨_, d5_prepare E hw hr h9, fun M1 q => ⟨_, d2_collect E hw q.2.2.1 q.2.1 hit (by omega), fun M2 q2 => ?_⟩⟩
  obtain ⟨rs, k2⟩ := q2
  suffices key : ∀ j, j ≤ it + 1 → ∀ M3 : rp_M, RSX S it R M3 → (∀ k, k ≠ 152 → M3 k = M2 k) → rp_G E YX5_adversary (rp_P (fun v M' => v = (if w = 0 then oM (adv S it R (2 ^ zn S)).1 else nI (adv S it R (2 ^ zn S)).2) ∧ scrX S M M')) 63 [.ref 154, .int (nI it), .null, .int w, .int (oM (adv S it R j).1), .int (nI (adv S it R j).2), .int (nI j), .null] [] M3 from key 0 (by omega) M2 rs (fun _ _ => rfl)
  refine up_loop (fun j hj ih M3 rs3 k3 => vX5_adversary_63 E _ M3 _ _ _ _ _ ?_)
  have kk : ∀ k, k < 149 ∨ 153 < k → M3 k = M1 k := fun k hk => by rw [k3 k (by omega), k2 k hk]
  have t3 := tab_rc q.2.1 kk
  have hr3 : R0 S M3 := q.2.2.1.keep (fun k hk => kk k (by omega))
  have hsc : scrX S M M3 := ⟨fun k hk => by rw [kk k (by omega), q.2.2.2 k (by omega)], Or.inr ⟨by rw [kk 139 (by omega)]; exact q.1, t3⟩⟩
  have ai := adv_inv hw it R j
  have fin : adv S it R (2 ^ zn S) = adv S it R j → (¬ w = 0 → rp_P (fun v M' => v = (if w = 0 then oM (adv S it R (2 ^ zn S)).1 else nI (adv S it R (2 ^ zn S)).2) ∧ scrX S M M') (some (nI (adv S it R j).2)) M3) ∧ (w = 0 → rp_P (fun v M' => v = (if w = 0 then oM (adv S it R (2 ^ zn S)).1 else nI (adv S it R (2 ^ zn S)).2) ∧ scrX S M M') (some (oM (adv S it R j).1)) M3) := fun e => by
    rw [e]
    exact ⟨fun y => ⟨_, rfl, (if_neg y).symm, hsc⟩, fun y => ⟨_, rfl, (if_pos y).symm, hsc⟩⟩
  rw [nI_ltI (by omega) (by omega)]
  refine ⟨fun h5 => fin ?_, fun h5 => ⟨fun h6 => fin ?_, fun h6 => ?_⟩⟩
  · have := adv_stop (S := S) (it := it) (R := R) (a := j) (2 ^ zn S - j) (fun i i1 i2 z => by
      have := sub_le z.1
      omega)
    rw [show j + (2 ^ zn S - j) = 2 ^ zn S by omega] at this
    exact this
  · have hnone : (adv S it R j).1 = none := (oM_neg (fun k hk => by have := ai.1 k hk; omega)).mp h6
    have := adv_stop (S := S) (it := it) (R := R) (a := j) (2 ^ zn S - j) (fun i i1 i2 z => by
      have := z.2.2
      rw [hnone] at this
      cases hq : zrec S it R i with
      | none => rw [hq] at this; exact this
      | some p => rw [hq] at this; exact this)
    rw [show j + (2 ^ zn S - j) = 2 ^ zn S by omega] at this
    exact this
  · have hj2 : j ≤ it := by omega
    have hsome : (adv S it R j).1 ≠ none := fun z => h6 ((oM_neg (fun k hk => by have := ai.1 k hk; omega)).mpr z)
    rw [not0 (by omega), nI_1]
    have skip : ¬ (j &&& it = j ∧ pop j ≤ zg S ∧ olt (zrec S it R j) (adv S it R j).1) → ∀ M4 : rp_M, RSX S it R M4 → (∀ k, k ≠ 152 → M4 k = M2 k) → rp_G E YX5_adversary (rp_P (fun v M' => v = (if w = 0 then oM (adv S it R (2 ^ zn S)).1 else nI (adv S it R (2 ^ zn S)).2) ∧ scrX S M M')) 63 [.ref 154, .int (nI it), .null, .int w, .int (oM (adv S it R j).1), .int (nI (adv S it R j).2), .int (nI (j + 1)), .null] [] M4 := fun no M4 r4 k4 => by
      have h1 := ih (by omega) M4 r4 k4
      rw [adv_no no] at h1
      exact h1
    refine ⟨fun y => skip (fun u => y u.1) M3 rs3 k3, fun y => ⟨_, _, c_bits E M3 (by omega), _, _, (c5_budget E hr3).1, ?_⟩⟩
    have hp := pop_le j
    rw [nI_leI (by omega) (by omega)]
    refine ⟨fun u => ⟨_, _, c5_cap E hr3, ?_⟩, fun u => skip (fun v => u v.2.1) M3 rs3 k3⟩
    cases hb : (adv S it R j).1 with
    | none => exact absurd hb hsome
    | some b =>
      have hb1 := ai.1 b hb
      rw [hb] at skip
      show ∃ P35 : Int32 → rp_M → Prop, rp_Run E YX2_profitIn [.ref 149, .int (nI j), .int (nI b), .ref 142, .int (nI (zc S))] M3 (rp_P P35) ∧ _
      refine ⟨_, d2_profit E hw rs3 (fun c hc => (t3.2.2 c hc).2.2.1) (show j < 2 ^ zn S by omega) (en := b) (by omega), fun v M4 q4 => ?_⟩
      obtain ⟨v4, r4, k4⟩ := q4
      have k42 : ∀ k, k ≠ 152 → M4 k = M2 k := fun k hk => by rw [k4 k hk, k3 k hk]
      have hol : (nI b ≤ v → ¬ olt (zrec S it R j) (some b)) ∧ (¬ nI b ≤ v → olt (zrec S it R j) (some b) ∧ v = oM (zrec S it R j)) := by
        rcases v4 with c | ⟨p, q, c1, c2, c3, c4, c5⟩
        · have iff := oM_olt (a := zrec S it R j) (b := some b) (fun k hk => by have := rcv_le hw _ k hk; omega) (fun k hk => by cases hk; omega) (fun q => by cases q)
          rw [c]
          exact ⟨fun d1 d2 => absurd d1 (iff.mpr d2), fun d1 => ⟨iff.mp d1, rfl⟩⟩
        · rw [c1, c2, nI_leI (by omega) (by omega)]
          refine ⟨fun _ d => ?_, fun d => absurd c3 d⟩
          have d : q < b := d
          omega
      refine ⟨fun d => skip (fun a => hol.1 d a.2.2) M4 r4 k42, fun d => ?_⟩
      obtain ⟨d1, d2⟩ := hol.2 d
      have h1 := ih (by omega) M4 r4 k42
      rw [adv_yes ⟨y, u, by rw [hb]; exact d1⟩] at h1
      rw [d2]
      exact h1
