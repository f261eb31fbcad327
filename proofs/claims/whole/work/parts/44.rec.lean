/-! ANSWERS, 7: recovery; and the reference's -/
def rOk (S : rs_S) (it R r : Nat) : Prop := r &&& it = r ∧ pop (it ^^^ r) ≤ R ∧ zalB S r = true
/-- the greatest profit of a rest in a scenario -/
noncomputable def rcv (S : rs_S) (it R sc : Nat) : Nat → Option Nat
  | 0 => none
  | j + 1 => if pB (rOk S it R j ∧ (∀ p, rcv S it R sc j = some p → p < zsum S 0 j) ∧ zsum S 1 j + zsum S 2 (sc &&& j) ≤ zc S) = true then some (zsum S 0 j) else rcv S it R sc j
theorem rcv_yes {S : rs_S} {it R sc j : Nat} (h : rOk S it R j ∧ (∀ p, rcv S it R sc j = some p → p < zsum S 0 j) ∧ zsum S 1 j + zsum S 2 (sc &&& j) ≤ zc S) : rcv S it R sc (j + 1) = some (zsum S 0 j) := if_pos (pB_t.mpr h)
theorem rcv_no {S : rs_S} {it R sc j : Nat} (h : ¬ (rOk S it R j ∧ (∀ p, rcv S it R sc j = some p → p < zsum S 0 j) ∧ zsum S 1 j + zsum S 2 (sc &&& j) ≤ zc S)) : rcv S it R sc (j + 1) = rcv S it R sc j := if_neg (fun q => h (pB_t.mp q))
theorem rcv_le {S : rs_S} (hw : Wf S) {it R sc : Nat} : ∀ j p, rcv S it R sc j = some p → p ≤ 11988
  | 0, p, h => by cases h
  | j + 1, p, h => by
    by_cases q : rOk S it R j ∧ (∀ p, rcv S it R sc j = some p → p < zsum S 0 j) ∧ zsum S 1 j + zsum S 2 (sc &&& j) ≤ zc S
    · rw [rcv_yes q] at h
      cases h
      exact hw.sum (p := 0) (by omega) j
    · rw [rcv_no q] at h
      exact rcv_le hw j p h
noncomputable def zrec (S : rs_S) (it R sc : Nat) : Option Nat := rcv S it R sc (2 ^ zn S)
noncomputable def a_rec (S : rs_S) (x y z : Int32) : Int32 :=
  if isI (2 ^ zn S) x = true ∧ isI (2 ^ zn S) y = true then
    (if 0 ≤ z.toInt ∧ z.toInt ≤ 12 then
      (if pop y.toNatClampNeg ≤ zg S then oM (zrec S x.toNatClampNeg z.toNatClampNeg y.toNatClampNeg) else (-5))
     else (-2))
  else (-1)
def olt : Option Nat → Option Nat → Prop
  | none, some _ => True
  | some a, some b => a < b
  | _, none => False
/-- the worst scenario below j, and its profit -/
noncomputable def adv (S : rs_S) (it R : Nat) : Nat → Option Nat × Nat
  | 0 => (some 100000, 0)
  | j + 1 => if pB (j &&& it = j ∧ pop j ≤ zg S ∧ olt (zrec S it R j) (adv S it R j).1) = true then (zrec S it R j, j) else adv S it R j
theorem adv_yes {S : rs_S} {it R j : Nat} (h : j &&& it = j ∧ pop j ≤ zg S ∧ olt (zrec S it R j) (adv S it R j).1) : adv S it R (j + 1) = (zrec S it R j, j) := if_pos (pB_t.mpr h)
theorem adv_no {S : rs_S} {it R j : Nat} (h : ¬ (j &&& it = j ∧ pop j ≤ zg S ∧ olt (zrec S it R j) (adv S it R j).1)) : adv S it R (j + 1) = adv S it R j := if_neg (fun q => h (pB_t.mp q))
theorem pop0 : pop 0 = 0 := psum0 _ _
theorem adv1 {S : rs_S} (hw : Wf S) (it R : Nat) : adv S it R 1 = (zrec S it R 0, 0) := by
  refine adv_yes ⟨Nat.zero_and _, by rw [pop0]; exact Nat.zero_le _, ?_⟩
  show olt (zrec S it R 0) (some 100000)
  cases h : zrec S it R 0 with
  | none => trivial
  | some p =>
    have := rcv_le hw _ p h
    show p < 100000
    omega
theorem adv_inv {S : rs_S} (hw : Wf S) (it R : Nat) : ∀ j, (∀ p, (adv S it R j).1 = some p → p ≤ 100000) ∧ (adv S it R j).2 ≤ j
  | 0 => ⟨fun p h => by cases h; exact Nat.le_refl _, Nat.le_refl _⟩
  | j + 1 => by
    obtain ⟨h1, h2⟩ := adv_inv hw it R j
    by_cases q : j &&& it = j ∧ pop j ≤ zg S ∧ olt (zrec S it R j) (adv S it R j).1
    · rw [adv_yes q]
      exact ⟨fun p h => by have := rcv_le hw _ p h; omega, by show j ≤ _; omega⟩
    · rw [adv_no q]
      exact ⟨h1, by omega⟩
noncomputable def a_adv (S : rs_S) (x z w : Int32) : Int32 :=
  if isI (2 ^ zn S) x = true then
    (if (0 ≤ z.toInt ∧ z.toInt ≤ 12) ∧ (0 ≤ w.toInt ∧ w.toInt ≤ 1) then
      (if w = 0 then oM (adv S x.toNatClampNeg z.toNatClampNeg (2 ^ zn S)).1 else nI (adv S x.toNatClampNeg z.toNatClampNeg (2 ^ zn S)).2)
     else (-2))
  else (-1)
/-- what the reference lays -/
def RS (S : rs_S) (it R : Nat) (M : rp_M) : Prop := M 155 20 = nI (cntp (rOk S it R) (2 ^ zn S)) ∧ (∀ r, r < 2 ^ zn S → rOk S it R r → M 166 (cntp (rOk S it R) r) = nI r ∧ M 167 (cntp (rOk S it R) r) = nI (zsum S 1 r) ∧ M 168 (cntp (rOk S it R) r) = nI (zsum S 0 r)) ∧ ∀ c, c < 2 ^ zn S → M 169 c = nI (zsum S 2 c)
theorem cntp_y {p : Nat → Prop} {j : Nat} (h : p j) : cntp p (j + 1) = cntp p j + 1 := by
  show cntp p j + _ = _
  rw [if_pos (pB_t.mpr h)]
theorem cntp_n {p : Nat → Prop} {j : Nat} (h : ¬ p j) : cntp p (j + 1) = cntp p j := by
  show cntp p j + _ = _
  rw [if_neg (fun z => h (pB_t.mp z)), Nat.add_zero]
theorem d_layRests (E : rp_E) {M : rp_M} {S : rs_S} (hw : Wf S) (hr : RM S (M 156)) {it R : Nat} (hit : it < 2 ^ zn S) (hR : R ≤ 12) : rp_Run E YX6_layRests [.ref 155, .int (nI it), .int (nI R)] M (rp_P0 (fun M' => RS S it R M' ∧ scrM M M')) := by
  have hn := hw.n12
  have h2 := hw.two
  refine vX6_layRests E _ M _ _ (fun M0 e0 => ?_)
  generalize hpo : (rp_P0 (fun M' => RS S it R M' ∧ scrM M M')) = post
  have h0 : scrM M M0 := ⟨fun k hk => by rw [e0, rp_s_cell (by omega)], by rw [e0, rp_s_cell (by decide)], by rw [e0, rp_s_cell (by decide)], by rw [e0, rp_s_cell (by decide)], by rw [e0, rp_s_ne (by decide)], by rw [e0, rp_s_ne (by decide)]⟩
  suffices key : ∀ j, j ≤ 2 ^ zn S → ∀ M1 : rp_M, M1 155 20 = nI (cntp (rOk S it R) j) → (∀ r, r < j → rOk S it R r → M1 166 (cntp (rOk S it R) r) = nI r ∧ M1 167 (cntp (rOk S it R) r) = nI (zsum S 1 r) ∧ M1 168 (cntp (rOk S it R) r) = nI (zsum S 0 r)) → (∀ c, c < j → M1 169 c = nI (zsum S 2 c)) → scrM M M1 → rp_G E YX6_layRests post 7 [.ref 155, .int (nI it), .int (nI R), .int (nI j)] [] M1 from key 0 (Nat.zero_le _) M0 (by rw [e0, rp_s_at]; rfl) (fun r hr2 => by omega) (fun c hc => by omega) h0
  refine up_loop (fun j hj ih M1 q1 q2 q3 q4 => vX6_layRests_7 E _ M1 _ _ _ ?_)
  have hr1 : RM S (M1 156) := by rw [q4.2.1]; exact hr
  refine ⟨_, _, c_sets E hn hr1.1, ?_⟩
  rw [nI_leI (by omega) (by omega)]
  refine ⟨fun h3 => ?_, fun h3 => ⟨_, _, c_sum E hw hr1 (p := 2) (by omega) (by omega), nI_inb (by omega) (by omega), fun M2 e2 => ?_⟩⟩
  · have e : j = 2 ^ zn S := by omega
    subst e
    rw [← hpo]
    exact ⟨rfl, ⟨q1, q2, q3⟩, q4⟩
  rw [nI_clamp (by omega)] at e2
  have hr2 : RM S (M2 156) := by rw [e2, rp_s_cell (by decide)]; exact hr1
  have s2 : scrM M M2 := scrM.tr q4 ⟨fun k hk => by rw [e2, rp_s_cell (by omega)], by rw [e2, rp_s_cell (by decide)], by rw [e2, rp_s_cell (by decide)], by rw [e2, rp_s_cell (by decide)], by rw [e2, rp_s_cell (by decide)], by rw [e2, rp_s_cell (by decide)]⟩
  have q3' : ∀ c, c < j + 1 → M2 169 c = nI (zsum S 2 c) := fun c hc => by
    rw [e2]
    by_cases e : c = j
    · subst e
      exact rp_s_at _ _ _ _
    · rw [rp_s_ne (by omega)]
      exact q3 c (by omega)
  have skip : ¬ rOk S it R j → rp_G E YX6_layRests post 7 [.ref 155, .int (nI it), .int (nI R), .int (nI j + 1)] [] M2 := fun z => by
    rw [nI_1]
    refine ih (by omega) M2 (by rw [cntp_n z, e2, rp_s_cell (by decide)]; exact q1) (fun r hr3 hk => ?_) q3' s2
    have : r ≠ j := fun e => z (e ▸ hk)
    rw [e2, rp_s_cell (by decide), rp_s_cell (by decide), rp_s_cell (by decide)]
    exact q2 r (by omega) hk
  rw [nI_andnot (by omega) (by omega), nI_xor]
  have hx : it ^^^ j < 2 ^ zn S := Nat.xor_lt_two_pow hit (by omega)
  have hp := pop_le (it ^^^ j)
  refine ⟨fun h4 => skip (fun z => h4 z.1), fun h4 => ⟨_, _, c_sizeOf E M2 (by omega), ?_⟩⟩
  rw [nI_ltI (by omega) (by omega)]
  refine ⟨fun h5 => skip (fun z => by have := z.2.1; omega), fun h5 => ⟨_, _, c_isAllowed E hw hr2 (by omega), ?_⟩⟩
  rw [bI_n, bI_0]
  refine ⟨fun h6 => skip (fun z => by have := z.2.2; rw [h6] at this; cases this), fun h6 => ?_⟩
  have hok : rOk S it R j := ⟨h4, by omega, h6⟩
  have hcj := cntp_le (p := rOk S it R) j
  have e20 : M2 155 20 = nI (cntp (rOk S it R) j) := by rw [e2, rp_s_cell (by decide)]; exact q1
  have hb : vp_in (nI (cntp (rOk S it R) j)) 4096 := nI_inb (by omega) (by omega)
  rw [e20, nI_clamp (by omega)]
  refine ⟨hb, fun M3 e3 => ?_⟩
  have hr3 : RM S (M3 156) := by rw [e3, rp_s_cell (by decide)]; exact hr2
  have e30 : M3 155 20 = nI (cntp (rOk S it R) j) := by rw [e3, rp_s_cell (by decide)]; exact e20
  refine ⟨_, _, c_sum E hw hr3 (p := 1) (by omega) (by omega), ?_⟩
  rw [e30, nI_clamp (by omega)]
  refine ⟨hb, fun M4 e4 => ?_⟩
  have hr4 : RM S (M4 156) := by rw [e4, rp_s_cell (by decide)]; exact hr3
  have e40 : M4 155 20 = nI (cntp (rOk S it R) j) := by rw [e4, rp_s_cell (by decide)]; exact e30
  refine ⟨_, _, c_sum E hw hr4 (p := 0) (by omega) (by omega), ?_⟩
  rw [e40, nI_clamp (by omega)]
  refine ⟨hb, fun M5 e5 M6 e6 => ?_⟩
  rw [nI_1]
  refine ih (by omega) M6 ?_ (fun r hr5 hk => ?_) (fun c hc => ?_) (scrM.tr s2 ⟨fun k hk => ?_, ?_, ?_, ?_, ?_, ?_⟩)
  · rw [cntp_y hok, e6, rp_s_at, e5, rp_s_cell (by decide), e40, nI_1]
  · by_cases e : r = j
    · subst e
      refine ⟨?_, ?_, ?_⟩
      · rw [e6, rp_s_cell (by decide), e5, rp_s_cell (by decide), e4, rp_s_cell (by decide), e3, rp_s_at]
      · rw [e6, rp_s_cell (by decide), e5, rp_s_cell (by decide), e4, rp_s_at]
      · rw [e6, rp_s_cell (by decide), e5, rp_s_at]
    · have hne : cntp (rOk S it R) r ≠ cntp (rOk S it R) j := fun z => e (cntp_inj hk hok z)
      obtain ⟨a1, a2, a3⟩ := q2 r (by omega) hk
      refine ⟨?_, ?_, ?_⟩
      · rw [e6, rp_s_cell (by decide), e5, rp_s_cell (by decide), e4, rp_s_cell (by decide), e3, rp_s_ne (by omega), e2, rp_s_cell (by decide), a1]
      · rw [e6, rp_s_cell (by decide), e5, rp_s_cell (by decide), e4, rp_s_ne (by omega), e3, rp_s_cell (by decide), e2, rp_s_cell (by decide), a2]
      · rw [e6, rp_s_cell (by decide), e5, rp_s_ne (by omega), e4, rp_s_cell (by decide), e3, rp_s_cell (by decide), e2, rp_s_cell (by decide), a3]
  · rw [e6, rp_s_cell (by decide), e5, rp_s_cell (by decide), e4, rp_s_cell (by decide), e3, rp_s_cell (by decide)]
    exact q3' c hc
  · rw [e6, rp_s_cell (by omega), e5, rp_s_cell (by omega), e4, rp_s_cell (by omega), e3, rp_s_cell (by omega)]
  · rw [e6, rp_s_cell (by decide), e5, rp_s_cell (by decide), e4, rp_s_cell (by decide), e3, rp_s_cell (by decide)]
  · rw [e6, rp_s_cell (by decide), e5, rp_s_cell (by decide), e4, rp_s_cell (by decide), e3, rp_s_cell (by decide)]
  · rw [e6, rp_s_cell (by decide), e5, rp_s_cell (by decide), e4, rp_s_cell (by decide), e3, rp_s_cell (by decide)]
  · rw [e6, rp_s_ne (by decide), e5, rp_s_cell (by decide), e4, rp_s_cell (by decide), e3, rp_s_cell (by decide)]
  · rw [e6, rp_s_ne (by decide), e5, rp_s_cell (by decide), e4, rp_s_cell (by decide), e3, rp_s_cell (by decide)]
theorem oM_le {r : Option Nat} {n : Nat} (hn : n < 2 ^ 31) (h : ∀ k, r = some k → k < 2 ^ 31) : nI n ≤ oM r ↔ ¬ ∀ p, r = some p → p < n := by
  cases r with
  | none =>
    constructor
    · intro q
      exact absurd q (by
        rw [Int32.le_d, nI_toInt hn]
        show ¬ (n : Int) ≤ (-6 : Int32).toInt
        rw [show (-6 : Int32).toInt = -6 by decide]
        omega)
    · intro q
      exact absurd (fun p hp => by cases hp) q
  | some k =>
    show nI n ≤ nI k ↔ _
    rw [nI_leI hn (h k rfl)]
    constructor
    · intro q z
      have := z k rfl
      omega
    · intro q
      apply Classical.byContradiction
      intro z
      exact q (fun p hp => by cases hp; omega)
theorem c_recBy (E : rp_E) {M : rp_M} {S : rs_S} (hw : Wf S) (hr : RM S (M 156)) {it R sc : Nat} (hs : RS S it R M) (hsc : sc < 2 ^ zn S) : rp_C E YX6_recoveredBy [.ref 155, .int (nI sc)] M (some (oM (zrec S it R sc))) M := by
  have hn := hw.n12
  have h2 := hw.two
  have hcap := hw.2.1
  obtain ⟨q1, q2, q3⟩ := hs
  refine rp_C_of (fun post hpost => vX6_recoveredBy E post M _ ?_)
  have htot := cntp_le (p := rOk S it R) (2 ^ zn S)
  suffices key : ∀ j, j ≤ 2 ^ zn S → rp_G E YX6_recoveredBy post 5 [.ref 155, .int (nI sc), .int (oM (rcv S it R sc j)), .int (nI (cntp (rOk S it R) j))] [] M from key 0 (Nat.zero_le _)
  refine up_loop (fun j hj ih => ?_)
  have hcj := cntp_le (p := rOk S it R) j
  by_cases he : j = 2 ^ zn S
  · subst he
    refine vX6_recoveredBy_5 E _ M _ _ _ ?_
    rw [q1]
    refine ⟨fun _ => hpost, fun q => absurd (nI_le (Nat.le_refl _) (by omega)) q⟩
  have ih := ih (by omega)
  by_cases hok : rOk S it R j
  · refine vX6_recoveredBy_5 E _ M _ _ _ ?_
    have hup := cntp_up hok (show j < 2 ^ zn S by omega)
    obtain ⟨a1, a2, a3⟩ := q2 j (by omega) hok
    have hand : sc &&& j < 2 ^ zn S := Nat.lt_of_le_of_lt Nat.and_le_left hsc
    have b0 := hw.sum (p := 0) (by omega) j
    have b1 := hw.sum (p := 1) (by omega) j
    have b2 := hw.sum (p := 2) (by omega) (sc &&& j)
    have hlt : ∀ k, rcv S it R sc j = some k → k < 2 ^ 31 := fun k hk => by
      have := rcv_le hw j k hk
      omega
    rw [cntp_y hok] at ih
    rw [q1, nI_leI (by omega) (by omega), nI_clamp (by omega), a1, a2, a3, nI_and, nI_clamp (by omega), q3 _ hand, nI_add, hr.2.1, nI_ltI (by omega) (by omega), oM_le (by omega) hlt, nI_1]
    refine ⟨fun h3 => by omega, fun _ => ⟨nI_inb (by omega) (by omega), fun h4 => ?_, fun h4 => ⟨nI_inb (by omega) (by omega), fun h5 => ?_, fun h5 => ?_⟩⟩⟩
    · rw [rcv_no (fun z => h4 z.2.1)] at ih
      exact ih
    · rw [rcv_no (fun z => by have := z.2.2; omega)] at ih
      exact ih
    · rw [rcv_yes ⟨hok, Classical.byContradiction h4, by omega⟩] at ih
      exact ih
  · rw [rcv_no (fun z => hok z.1), cntp_n hok] at ih
    exact ih
theorem d6_rec (E : rp_E) {M : rp_M} {S : rs_S} (hw : Wf S) (hr : RM S (M 156)) (x y z : Int32) : rp_Run E YX6_recovered [.ref 155, .int x, .int y, .int z] M (rp_P (fun v M' => v = a_rec S x y z ∧ scrM M M')) := by
  have hn := hw.n12
  have h2 := hw.two
  have ok : ∀ (v a : Int32), a = v → rp_P (fun v M' => v = a ∧ scrM M M') (some v) M := fun v a e => ⟨v, rfl, e.symm, scrM.rf M⟩
  refine vX6_recovered E _ M x y z ⟨_, _, c_isChoice E hn hr.1 x, ?_⟩
  rw [bI_n, bI_0]
  refine ⟨fun hx => ok _ _ (if_neg (by rw [hx]; exact fun q => by cases q.1)), fun hx => ⟨_, _, c_isChoice E hn hr.1 y, ?_⟩⟩
  rw [bI_n, bI_0]
  refine ⟨fun hy => ⟨_, _, c_in E M _ _ _, ?_⟩, fun hy => ok _ _ (if_neg (by rw [hy]; exact fun q => by cases q.2))⟩
  have ea : a_rec S x y z = _ := if_pos ⟨hx, hy⟩
  rw [ea]
  clear ea
  rw [bI_n, bI_0, decide_eq_true_eq, decide_eq_false_iff_not, Int32.toInt_zero, show (12 : Int32).toInt = 12 by decide]
  refine ⟨fun hin => ?_, fun hin => ok _ _ (if_neg hin)⟩
  rw [if_pos hin]
  obtain ⟨a, ha, e⟩ := isI_of (by omega) hx
  obtain ⟨b, hb, e'⟩ := isI_of (by omega) hy
  have c3 := clamp_int hin.1
  have e3 := toNat_nI hin.1
  generalize z.toNatClampNeg = R at *
  rw [e, e', e3, nI_clamp (by omega), nI_clamp (by omega)]
  refine ⟨_, _, c_sizeOf E M (by omega), ?_⟩
  have hp := pop_le b
  have hg := hw.2.2.1
  rw [hr.2.2.1, nI_leI (by omega) (by omega)]
  refine ⟨fun h3 => ⟨_, d_layRests E hw hr ha (by omega), fun M1 q => ?_⟩, fun h3 => ok _ _ (if_neg h3)⟩
  have hr1 : RM S (M1 156) := by rw [q.2.2.1]; exact hr
  exact ⟨_, _, c_recBy E hw hr1 q.1 hb, _, rfl, (if_pos h3).symm, q.2⟩
theorem oM_olt {a b : Option Nat} (ha : ∀ k, a = some k → k < 2 ^ 31) (hb : ∀ k, b = some k → k < 2 ^ 31) (hn : b ≠ none) : ¬ oM b ≤ oM a ↔ olt a b := by
  cases b with
  | none => exact absurd rfl hn
  | some y =>
    show ¬ nI y ≤ oM a ↔ _
    rw [oM_le (hb y rfl) ha, Classical.not_not]
    cases a with
    | none => exact ⟨fun _ => trivial, fun _ p hp => by cases hp⟩
    | some x => exact ⟨fun q => q x rfl, fun q p hp => by cases hp; exact q⟩
theorem d6_adv (E : rp_E) {M : rp_M} {S : rs_S} (hw : Wf S) (hr : RM S (M 156)) (x z w : Int32) : rp_Run E YX6_adversary [.ref 155, .int x, .int z, .int w] M (rp_P (fun v M' => v = a_adv S x z w ∧ scrM M M')) := by
  have hn := hw.n12
  have h2 := hw.two
  have ok : ∀ (v a : Int32), a = v → rp_P (fun v M' => v = a ∧ scrM M M') (some v) M := fun v a e => ⟨v, rfl, e.symm, scrM.rf M⟩
  refine vX6_adversary E _ M x z w ⟨_, _, c_isChoice E hn hr.1 x, ?_⟩
  rw [bI_n, bI_0]
  refine ⟨fun hx => ⟨_, _, c_in E M _ _ _, ?_⟩, fun hx => ok _ _ (if_neg (by rw [hx]; decide))⟩
  have ea : a_adv S x z w = _ := if_pos hx
  rw [ea]
  clear ea
  rw [bI_n, bI_0, decide_eq_true_eq, decide_eq_false_iff_not, Int32.toInt_zero, show (12 : Int32).toInt = 12 by decide]
  refine ⟨fun hin => ok _ _ (if_neg (fun q => hin q.1)), fun hin => ⟨_, _, c_in E M _ _ _, ?_⟩⟩
  rw [bI_n, bI_0, decide_eq_true_eq, decide_eq_false_iff_not, Int32.toInt_zero, show (1 : Int32).toInt = 1 by decide]
  refine ⟨fun hin2 => ?_, fun hin2 => ok _ _ (if_neg (fun q => hin2 q.2))⟩
  rw [if_pos ⟨hin, hin2⟩]
  obtain ⟨a, ha, e⟩ := isI_of (by omega) hx
  have c3 := clamp_int hin.1
  have e3 := toNat_nI hin.1
  generalize z.toNatClampNeg = R at *
  rw [e, e3, nI_clamp (by omega)]
  refine ⟨_, d_layRests E hw hr ha (by omega), fun M1 q => ?_⟩
  obtain ⟨hs, hsc⟩ := q
  have hr1 : RM S (M1 156) := by rw [hsc.2.1]; exact hr
  refine ⟨_, _, c_recBy E hw hr1 (sc := 0) hs (Nat.two_pow_pos _), ?_⟩
  have h1 := adv1 hw a R
  have g0 : oM (zrec S a R 0) = oM (adv S a R 1).1 ∧ (0 : Int32) = nI (adv S a R 1).2 ∧ (1 : Int32) = nI 1 := by
    rw [h1]
    exact ⟨rfl, rfl, rfl⟩
  rw [g0.1, g0.2.2]
  generalize hpo : (rp_P (fun v M' => v = (if w = 0 then oM (adv S a R (2 ^ zn S)).1 else nI (adv S a R (2 ^ zn S)).2) ∧ scrM M M')) = post
  suffices key : ∀ j, j ≤ 2 ^ zn S → 1 ≤ j → rp_G E YX6_adversary post 51 [.ref 155, .int (nI a), .null, .int w, .int (oM (adv S a R j).1), .int (nI (adv S a R j).2), .int (nI j), .null] [] M1 by
    have := key 1 (Nat.one_le_two_pow) (Nat.le_refl _)
    rw [← g0.2.1] at this
    exact this
  refine up_loop (fun j hj ih hj1 => vX6_adversary_51 E _ M1 _ _ _ _ _ ?_)
  obtain ⟨i1, i2⟩ := adv_inv hw a R j
  refine ⟨_, _, c_sets E hn hr1.1, ?_⟩
  rw [nI_leI (by omega) (by omega)]
  refine ⟨fun h3 => ?_, fun h3 => ?_⟩
  · have e : j = 2 ^ zn S := by omega
    subst e
    rw [← hpo]
    exact ⟨fun q => ⟨_, rfl, (if_neg q).symm, hsc⟩, fun q => ⟨_, rfl, (if_pos q).symm, hsc⟩⟩
  have ih := ih (by omega) (by omega)
  have hp := pop_le j
  have hg := hw.2.2.1
  rw [nI_andnot (by omega) (by omega), nI_1]
  have skip : ¬ (j &&& a = j ∧ pop j ≤ zg S ∧ olt (zrec S a R j) (adv S a R j).1) → rp_G E YX6_adversary post 51 [.ref 155, .int (nI a), .null, .int w, .int (oM (adv S a R j).1), .int (nI (adv S a R j).2), .int (nI (j + 1)), .null] [] M1 := fun q => by
    rw [adv_no q] at ih
    exact ih
  have hlt : ∀ k, (adv S a R j).1 = some k → k < 2 ^ 31 := fun k hk => by
    have := i1 k hk
    omega
  have hlt2 : ∀ k, zrec S a R j = some k → k < 2 ^ 31 := fun k hk => by
    have := rcv_le hw _ k hk
    omega
  refine ⟨fun h4 => skip (fun q => h4 q.1), fun h4 => ⟨_, _, c_sizeOf E M1 (by omega), ?_⟩⟩
  rw [hr1.2.2.1, nI_ltI (by omega) (by omega), oM_neg hlt]
  refine ⟨fun h5 => skip (fun q => by have := q.2.1; omega), fun h5 => ⟨fun h6 => skip (fun q => by
    have := q.2.2
    rw [h6] at this
    cases hz : zrec S a R j with
    | none => rw [hz] at this; exact this
    | some k => rw [hz] at this; exact this), fun h6 => ⟨_, _, c_recBy E hw hr1 hs (by omega), ?_⟩⟩⟩
  rw [oM_olt hlt2 hlt h6]
  refine ⟨fun h7 => skip (fun q => (oM_olt hlt2 hlt h6).mpr q.2.2 h7), fun h7 => ?_⟩
  rw [adv_yes ⟨h4, by omega, h7⟩] at ih
  exact ih
