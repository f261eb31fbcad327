/-! THE CLASS, 13: choice, weightIn, best, bestWith, leastCapacity -/
theorem d5_choice (E : rp_E) {M : rp_M} {S : rs_S} (hw : Wf S) (hr : R0 S M) (h9 : rdy S M) (x w : Int32) : rp_Run E YX5_choice [.ref 154, .int x, .int w] M (rp_P (fun v M' => v = a_choice S x w ∧ scrX S M M')) := by
  have hn := hw.n12
  have h2 := hw.two
  have hcc := hw.2.1
  have ok : ∀ (v a : Int32), a = v → rp_P (fun v M' => v = a ∧ scrX S M M') (some v) M := fun v a e => ⟨v, rfl, e.symm, scrX.rf h9⟩
  refine vX5_choice E _ M x w ⟨_, _, c5_isChoice E hn hr.1 x, ?_⟩
  rw [bI_n, bI_0]
  refine ⟨fun hx => ?_, fun hx => ok _ _ (if_neg (by rw [hx]; decide))⟩
  have ea : a_choice S x w = _ := if_pos hx
  rw [ea]
  clear ea
  obtain ⟨c, hc, e⟩ := isI_of (by omega) hx
  rw [e, nI_clamp (by omega)]
  have hc31 : c < 2 ^ 31 := by omega
  have hh := hw.heavy c (zg S)
  refine ⟨fun h => ?_, fun h => ?_, fun h => ?_, fun h => ?_, fun h => ?_, fun h => ?_, fun h => ?_, fun h => ?_, fun h => ?_, fun h0 h1 h2 h3 h4 h5 h6 h7 h8 => ok _ _ ?_⟩
  · subst h
    refine ⟨_, _, c0_wU E hw hr (s := 0) hc31, ok _ _ ?_⟩
    rw [Nat.and_zero, show zsum S 2 0 = 0 from psum0 _ _]
    rfl
  · subst h
    exact ⟨_, _, (c5_budget E hr).1, _, _, c5_protW E hw hr hc31 hw.2.2.1, ok _ _ rfl⟩
  · subst h
    refine ⟨_, _, c0_pU E hw hr (s := 0) hc31, ok _ _ ?_⟩
    rw [Nat.and_zero, show zsum S 3 0 = 0 from psum0 _ _]
    show nI (zsum S 0 c) + 100000 = _
    rw [show ((zsum S 0 c : Int) - ((0 : Nat) : Int)) = (zsum S 0 c : Int) by omega, iI_nat]
  · subst h
    refine ⟨_, _, c5_wps E hw hr hc31, _, _, c0_pU E hw hr hc31, ok _ _ ?_⟩
    have e3 : c &&& zworst S 3 c (zh S) = zworst S 3 c (zh S) := by
      rw [Nat.and_comm]
      exact wst_sub _
    rw [e3]
    rfl
  · subst h
    refine ⟨_, d5_prepare E hw hr h9, fun M1 q => ⟨_, _, c0_allows E (q.g hw) hc, ?_⟩⟩
    rw [bI_n, bI_0]
    refine ⟨fun z => ⟨_, rfl, ?_, q.sc⟩, fun z => ⟨_, rfl, ?_, q.sc⟩⟩
    · show _ = bI (zalB S c)
      rw [z]
      rfl
    · show _ = bI (zalB S c)
      rw [z]
      rfl
  · subst h
    refine ⟨_, _, (c5_budget E hr).1, _, _, c5_protW E hw hr hc31 hw.2.2.1, _, _, c5_cap E hr, ?_⟩
    rw [nI_ltI (by omega) (by omega)]
    refine ⟨fun z => ok _ _ ?_, fun z => ok _ _ ?_⟩
    · show bI (decide (zheavy S c (zg S) ≤ zc S)) = 0
      rw [decide_eq_false (by omega)]
      rfl
    · show bI (decide (zheavy S c (zg S) ≤ zc S)) = 1
      rw [decide_eq_true (by omega)]
      rfl
  · subst h
    exact ⟨_, _, (c5_budget E hr).1, _, _, c0_worst E hw hr (p := 2) (by omega) hc31 hw.2.2.1, ok _ _ rfl⟩
  · subst h
    exact ⟨_, _, c5_wps E hw hr hc31, ok _ _ rfl⟩
  · subst h
    exact ⟨_, _, c5_greatest E hw hr hc31, ok _ _ rfl⟩
  · rw [if_neg h0, if_neg h1, if_neg h2, if_neg h3, if_neg h4, if_neg h5, if_neg h6, if_neg h7, if_neg h8]
theorem d5_weightIn (E : rp_E) {M : rp_M} {S : rs_S} (hw : Wf S) (hr : R0 S M) (h9 : rdy S M) (x y : Int32) : rp_Run E YX5_weightIn [.ref 154, .int x, .int y] M (rp_P (fun v M' => v = a_weightIn S x y ∧ scrX S M M')) := by
  have hn := hw.n12
  have h2 := hw.two
  have ok : ∀ (v a : Int32), a = v → rp_P (fun v M' => v = a ∧ scrX S M M') (some v) M := fun v a e => ⟨v, rfl, e.symm, scrX.rf h9⟩
  refine vX5_weightIn E _ M x y ⟨_, _, c5_isChoice E hn hr.1 x, ?_⟩
  rw [bI_n, bI_0]
  refine ⟨fun hx => ok _ _ (if_neg (fun q => by rw [hx] at q; cases q.1)), fun hx => ⟨_, _, c5_isChoice E hn hr.1 y, ?_⟩⟩
  rw [bI_n, bI_0]
  refine ⟨fun hy => ?_, fun hy => ok _ _ (if_neg (fun q => by rw [hy] at q; cases q.2))⟩
  have ea : a_weightIn S x y = _ := if_pos ⟨hx, hy⟩
  rw [ea]
  clear ea
  obtain ⟨c, hc, e⟩ := isI_of (by omega) hx
  obtain ⟨d, hd, e2⟩ := isI_of (by omega) hy
  rw [e, e2, nI_clamp (by omega), nI_clamp (by omega)]
  have hp := pop_le d
  have hg := hw.2.2.1
  refine ⟨_, _, c_bits E M (by omega), _, _, (c5_budget E hr).1, ?_⟩
  rw [nI_leI (by omega) (by omega)]
  refine ⟨fun h => ⟨_, _, c0_wU E hw hr (by omega), ok _ _ (if_pos h)⟩, fun h => ok _ _ (if_neg h)⟩
theorem amb4 {S : rs_S} {best : Nat} : ∀ j, (amb S best j).2.2.2 = cntp (fun c => (zalB S c && decide (zheavy S c (zg S) ≤ zc S)) = true) j
  | 0 => rfl
  | j + 1 => by
    have ih := amb4 (S := S) (best := best) j
    by_cases q : zfit S (zg S) (zc S) j = true
    · have e2 : cntp (fun c => (zalB S c && decide (zheavy S c (zg S) ≤ zc S)) = true) (j + 1) = _ := cntp_y q
      rw [e2, ← ih]
      by_cases z : zworth S j (zh S) = zworth S best (zh S)
      · have e : amb S best (j + 1) = ((amb S best j).1 + 1, (amb S best j).2.1 &&& j, (amb S best j).2.2.1 ||| j, (amb S best j).2.2.2 + 1) := (if_pos q).trans (if_pos z)
        rw [e]
      · have e : amb S best (j + 1) = ((amb S best j).1, (amb S best j).2.1, (amb S best j).2.2.1, (amb S best j).2.2.2 + 1) := (if_pos q).trans (if_neg z)
        rw [e]
    · have e2 : cntp (fun c => (zalB S c && decide (zheavy S c (zg S) ≤ zc S)) = true) (j + 1) = _ := cntp_n q
      have e : amb S best (j + 1) = amb S best j := if_neg q
      rw [e2, ← ih, e]
theorem c5_among (E : rp_E) {M : rp_M} {S : rs_S} (hw : Wf S) (hr : R0 S M) (ht : tabX S (zg S) (zh S) M) {best : Nat} (hb : best < 2 ^ zn S) (w : Int32) : rp_C E YX5_amongBest [.ref 154, .int (nI best), .int w] M (some (if w = 3 then nI (amb S best (2 ^ zn S)).1 else if w = 4 then nI (amb S best (2 ^ zn S)).2.1 else nI (2 ^ zn S - 1) &&& (nI (amb S best (2 ^ zn S)).2.2.1 ^^^ (-1)))) M := by
  refine rp_C_of (fun post hpost => vX5_amongBest E post M _ _ ?_)
  have hn := hw.n12
  have h2 := hw.two
  have hc := hw.2.1
  have tg := ht.g hw
  rw [ht.2.1, nI_p1 (Nat.two_pow_pos _)]
  suffices key : ∀ j, j ≤ 2 ^ zn S → rp_G E YX5_amongBest post 22 [.ref 154, .int (nI best), .int w, .int (nI (2 ^ zn S - 1)), .int (nI (amb S best j).1), .int (nI (amb S best j).2.1), .int (nI (amb S best j).2.2.1), .int (nI j)] [] M from key 0 (Nat.zero_le _)
  refine up_loop (fun j hj ih => vX5_amongBest_22 E post M _ _ _ _ _ _ _ ?_)
  rw [ht.2.1, nI_leI (by omega) (by omega)]
  refine ⟨fun h3 => ?_, fun h3 => ?_⟩
  · have e : j = 2 ^ zn S := by omega
    subst e
    refine ⟨fun h4 => ⟨fun h5 => ?_, fun h5 => ?_⟩, fun h4 => ?_⟩
    · rw [if_neg h4, if_neg h5] at hpost
      exact hpost
    · rw [if_neg h4, if_pos h5] at hpost
      exact hpost
    · rw [if_pos h4] at hpost
      exact hpost
  have hj2 : j < 2 ^ zn S := by omega
  rw [nI_clamp (by omega), nI_clamp (by omega)]
  obtain ⟨t1, t2, t3, t4⟩ := ht.2.2 j hj2
  obtain ⟨u1, u2, u3, u4⟩ := ht.2.2 best hb
  have b3 := hw.worth j (zh S)
  have b4 := hw.worth best (zh S)
  have h1 := ih hj2
  rw [t2, u2, iI_eq (by omega) (by omega) (by omega) (by omega), nI_1]
  have skip : ¬ (zfit S (zg S) (zc S) j = true ∧ zworth S j (zh S) = zworth S best (zh S)) → rp_G E YX5_amongBest post 22 [.ref 154, .int (nI best), .int w, .int (nI (2 ^ zn S - 1)), .int (nI (amb S best j).1), .int (nI (amb S best j).2.1), .int (nI (amb S best j).2.2.1), .int (nI (j + 1))] [] M := fun q => by
    by_cases f : zfit S (zg S) (zc S) j = true
    · have e : amb S best (j + 1) = ((amb S best j).1, (amb S best j).2.1, (amb S best j).2.2.1, (amb S best j).2.2.2 + 1) := (if_pos f).trans (if_neg (fun z => q ⟨f, z⟩))
      rw [e] at h1
      exact h1
    · have e : amb S best (j + 1) = amb S best j := if_neg f
      rw [e] at h1
      exact h1
  refine ⟨nI_inb (by omega) (by omega), nI_inb (by omega) (by omega), fun h4 => skip (fun q => h4 q.2), fun h4 => ⟨_, _, c5_cap E hr, _, _, c0_stands E tg hj2 (by omega), ?_⟩⟩
  rw [bI_n, bI_0]
  refine ⟨fun h5 => skip (fun q => by have z : (zalB S j && decide (zheavy S j (zg S) ≤ zc S)) = true := q.1; rw [h5] at z; cases z), fun h5 => ?_⟩
  have e : amb S best (j + 1) = ((amb S best j).1 + 1, (amb S best j).2.1 &&& j, (amb S best j).2.2.1 ||| j, (amb S best j).2.2.2 + 1) := (if_pos h5).trans (if_pos h4)
  rw [e] at h1
  rw [nI_1, nI_and, nI_or]
  exact h1
theorem d5_best (E : rp_E) {M : rp_M} {S : rs_S} (hw : Wf S) (hr : R0 S M) (h9 : rdy S M) (w : Int32) : rp_Run E YX5_best [.ref 154, .int w] M (rp_P (fun v M' => v = a_best S w ∧ scrX S M M')) := by
  have hcc := hw.2.1
  have h2 := hw.two
  have i6 : ((6 : Int32)).toInt = 6 := by decide
  refine vX5_best E _ M w ?_
  rw [Int32.lt_d, Int32.le_d, Int32.toInt_zero, i6]
  refine ⟨fun h => ⟨_, rfl, (if_neg (by omega)).symm, scrX.rf h9⟩, fun h => ⟨fun hh => ⟨_, d5_prepare E hw hr h9, fun M1 q => ?_⟩, fun hh => ⟨_, rfl, (if_neg (by omega)).symm, scrX.rf h9⟩⟩⟩
  have hr1 := q.2.2.1
  have tg := q.g hw
  have hb := zbest_lt S (zg S) (zh S) (zc S)
  have ea : a_best S w = _ := if_pos (show 0 ≤ w.toInt ∧ w.toInt ≤ 6 by omega)
  rw [ea]
  clear ea
  have hbe : rp_C E YX0_firstOfAll [.ref 139, .int (nI (zc S))] M1 (some (nI (zbest S (zg S) (zh S) (zc S)))) M1 := c0_all E tg (by omega)
  refine ⟨_, _, c5_cap E hr1, _, _, hbe, ?_⟩
  generalize hbb : zbest S (zg S) (zh S) (zc S) = best at *
  obtain ⟨t1, t2, t3, t4⟩ := q.2.1.2.2 best hb
  refine ⟨fun z => ?_, fun z => ?_, fun z => ?_, fun z => ?_, fun z => ?_, fun z => ?_, fun z => ?_, fun z0 z1 z2 z3 z4 z5 z6 => ?_⟩
  · subst z
    exact ⟨_, rfl, rfl, q.sc⟩
  · subst z
    exact ⟨_, _, c0_shiftN E tg hb, _, rfl, rfl, q.sc⟩
  · subst z
    rw [nI_clamp (by omega), t1]
    exact ⟨nI_inb (by omega) (by omega), _, rfl, rfl, q.sc⟩
  · subst z
    exact ⟨_, _, c5_among E hw hr1 q.2.1 hb 3, _, rfl, rfl, q.sc⟩
  · subst z
    exact ⟨_, _, c5_among E hw hr1 q.2.1 hb 4, _, rfl, rfl, q.sc⟩
  · subst z
    exact ⟨_, _, c5_among E hw hr1 q.2.1 hb 5, _, rfl, rfl, q.sc⟩
  · subst z
    refine ⟨_, _, c5_cap E hr1, _, _, c0_fitting E tg (by omega), _, rfl, ?_, q.sc⟩
    show _ = nI (amb S best (2 ^ zn S)).2.2.2
    rw [amb4]
  · exfalso
    have e := toNat_nI (x := w) (by omega)
    have c := clamp_int (x := w) (by omega)
    have : w.toNatClampNeg = 0 ∨ w.toNatClampNeg = 1 ∨ w.toNatClampNeg = 2 ∨ w.toNatClampNeg = 3 ∨ w.toNatClampNeg = 4 ∨ w.toNatClampNeg = 5 ∨ w.toNatClampNeg = 6 := by omega
    rcases this with k | k | k | k | k | k | k <;> rw [k] at e
    · exact z0 e
    · exact z1 e
    · exact z2 e
    · exact z3 e
    · exact z4 e
    · exact z5 e
    · exact z6 e
theorem c5_isBudget (E : rp_E) (M : rp_M) (x : Int32) : rp_C E YX5_isBudget [.int x] M (some (bI (decide (0 ≤ x.toInt ∧ x.toInt ≤ 12)))) M := by
  refine rp_C_of (fun post hp => vX5_isBudget E post M x ?_)
  rw [Int32.lt_d, Int32.lt_d, Int32.toInt_zero, show ((12 : Int32)).toInt = 12 by decide]
  refine ⟨fun h => ?_, fun h => ⟨fun h2 => ?_, fun h2 => ?_⟩⟩
  · rw [decide_eq_false (by omega)] at hp
    exact hp
  · rw [decide_eq_false (by omega)] at hp
    exact hp
  · rw [decide_eq_true (by omega)] at hp
    exact hp
theorem d5_bestWith (E : rp_E) {M : rp_M} {S : rs_S} (hw : Wf S) (hr : R0 S M) (h9 : rdy S M) (x y z : Int32) : rp_Run E YX5_bestWith [.ref 154, .int x, .int y, .int z] M (rp_P (fun v M' => v = a_bestWith S x y z ∧ scrX S M M')) := by
  have bad : ¬ ((0 ≤ x.toInt ∧ x.toInt ≤ 9999) ∧ (0 ≤ y.toInt ∧ y.toInt ≤ 12) ∧ (0 ≤ z.toInt ∧ z.toInt ≤ 12)) → rp_P (fun v M' => v = a_bestWith S x y z ∧ scrX S M M') (some (-2)) M := fun h => ⟨_, rfl, (if_neg h).symm, scrX.rf h9⟩
  refine vX5_bestWith E _ M x y z ?_
  rw [Int32.lt_d, Int32.lt_d, Int32.toInt_zero, show ((9999 : Int32)).toInt = 9999 by decide]
  refine ⟨fun h => bad (by omega), fun h => ⟨fun h1 => bad (by omega), fun h1 => ⟨_, _, c5_isBudget E M y, ?_⟩⟩⟩
  rw [bI_n, bI_0, decide_eq_true_eq, decide_eq_false_iff_not]
  refine ⟨fun h2 => bad (by omega), fun h2 => ⟨_, _, c5_isBudget E M z, ?_⟩⟩
  rw [bI_n, bI_0, decide_eq_true_eq, decide_eq_false_iff_not]
  refine ⟨fun h3 => ?_, fun h3 => bad (by omega)⟩
  have h1 : 0 ≤ x.toInt ∧ x.toInt ≤ 9999 := by omega
  have c1 := clamp_int h1.1
  have c2 := clamp_int h2.1
  have c3 := clamp_int h3.1
  have e1 := toNat_nI h1.1
  have e2 := toNat_nI h2.1
  have e3 := toNat_nI h3.1
  have ea : a_bestWith S x y z = iI (zworth S (zbest S y.toNatClampNeg z.toNatClampNeg x.toNatClampNeg) z.toNatClampNeg) + 100000 := if_pos ⟨h1, h2, h3⟩
  rw [ea]
  generalize x.toNatClampNeg = cap at *
  generalize y.toNatClampNeg = g at *
  generalize z.toNatClampNeg = h at *
  rw [e1, e2, e3]
  refine ⟨_, d0_fill E hw hr (by omega) (by omega), fun M1 q M2 e2 => ?_⟩
  obtain ⟨t, -, k⟩ := q
  have k2 : ∀ k, k ≠ 139 → M2 k = M1 k := fun k hk => by rw [e2, rp_s_cell hk]
  have t2 : tabX S g h M2 := ⟨by rw [e2, rp_s_ne (by omega)]; exact t.1, by rw [e2, rp_s_ne (by omega)]; exact t.2.1, fun c hc => by
    rw [k2 140 (by decide), k2 141 (by decide), k2 142 (by decide), k2 143 (by decide)]
    exact t.2.2 c hc⟩
  have tg := t2.g hw
  have hbe : rp_C E YX0_firstOfAll [.ref 139, .int (nI cap)] M2 (some (nI (zbest S g h cap))) M2 := c0_all E tg (by omega)
  exact ⟨_, _, hbe, _, _, c0_shiftN E tg (zbest_lt S g h cap), _, rfl, rfl, fun q hq => by rw [k2 q (by omega), k q (by omega)], Or.inl (by rw [e2, rp_s_at])⟩
theorem d5_least (E : rp_E) {M : rp_M} {S : rs_S} (hw : Wf S) (hr : R0 S M) (h9 : rdy S M) (x : Int32) : rp_Run E YX5_leastCapacity [.ref 154, .int x] M (rp_P (fun v M' => v = a_least S x ∧ scrX S M M')) := by
  have h2 := hw.two
  refine vX5_leastCapacity E _ M x ?_
  rw [Int32.lt_d, Int32.le_d, Int32.toInt_zero, show ((12000 : Int32)).toInt = 12000 by decide]
  refine ⟨fun h => ⟨_, rfl, (if_neg (by omega)).symm, scrX.rf h9⟩, fun h => ⟨fun h1 => ⟨_, d5_prepare E hw hr h9, fun M1 q => ?_⟩, fun h1 => ⟨_, rfl, (if_neg (by omega)).symm, scrX.rf h9⟩⟩⟩
  have ea : a_least S x = oM (lst S x.toInt (2 ^ zn S)) := if_pos (by omega)
  rw [ea]
  have ex : x = iI x.toInt := Int32.toInt_inj.mp (iI_toInt (by omega) (by omega)).symm
  generalize x.toInt = p at *
  subst ex
  have tg := q.g hw
  have ht := q.2.1
  suffices key : ∀ j, j ≤ 2 ^ zn S → rp_G E YX5_leastCapacity (rp_P (fun v M' => v = oM (lst S p (2 ^ zn S)) ∧ scrX S M M')) 24 [.ref 154, .int (iI p), .int (nI ((lst S p j).getD 10000)), .int (nI j)] [] M1 from key 0 (Nat.zero_le _)
  refine up_loop (fun j hj ih => vX5_leastCapacity_24 E _ M1 _ _ _ ?_)
  have hl : (lst S p j).getD 10000 ≤ 10000 ∧ ∀ l, lst S p j = some l → l ≤ 9999 := by
    cases z : lst S p j with
    | none => exact ⟨Nat.le_refl _, fun l hl => by cases hl⟩
    | some l =>
      have := lst_le z
      exact ⟨by show l ≤ _; omega, fun l' hl => by cases hl; exact this⟩
  rw [ht.2.1, nI_leI (by omega) (by omega)]
  refine ⟨fun h3 => ?_, fun h3 => ?_⟩
  · have e : j = 2 ^ zn S := by omega
    subst e
    rw [show (9999 : Int32) = nI 9999 by rfl, nI_leI (by omega) (by omega)]
    refine ⟨fun z => ⟨_, rfl, ?_, q.sc⟩, fun z => ⟨_, rfl, ?_, q.sc⟩⟩
    · cases y : lst S p (2 ^ zn S) with
      | none =>
        rw [y] at z
        have z : 10000 ≤ 9999 := z
        omega
      | some l => rfl
    · cases y : lst S p (2 ^ zn S) with
      | none => rfl
      | some l =>
        rw [y] at z
        have z : ¬ l ≤ 9999 := z
        exact absurd (hl.2 l y) z
  have hj2 : j < 2 ^ zn S := by omega
  obtain ⟨t1, t2, t3, t4⟩ := ht.2.2 j hj2
  have b1 := hw.heavy j (zg S)
  have b3 := hw.worth j (zh S)
  have hi := ih hj2
  rw [nI_clamp (by omega), t1, t2, iI_lt (by omega) (by omega) (by omega) (by omega), nI_leI (by omega) (by omega), nI_1]
  have skip : ¬ (zalB S j = true ∧ p ≤ zworth S j (zh S) ∧ zheavy S j (zg S) ≤ 9999 ∧ ∀ l, lst S p j = some l → zheavy S j (zg S) < l) → rp_G E YX5_leastCapacity (rp_P (fun v M' => v = oM (lst S p (2 ^ zn S)) ∧ scrX S M M')) 24 [.ref 154, .int (iI p), .int (nI ((lst S p j).getD 10000)), .int (nI (j + 1))] [] M1 := fun z => by
    rw [lst_no z] at hi
    exact hi
  refine ⟨nI_inb (by omega) (by omega), fun z => skip (fun y => by omega), fun z => ⟨fun y => skip (fun w => ?_), fun y => ⟨_, _, c0_allows E tg hj2, ?_⟩⟩⟩
  · cases u : lst S p j with
    | none =>
      rw [u] at y
      have y : 10000 ≤ zheavy S j (zg S) := y
      omega
    | some l =>
      rw [u] at y
      have y : l ≤ zheavy S j (zg S) := y
      have := w.2.2.2 l u
      omega
  · rw [bI_n, bI_0]
    refine ⟨fun w => skip (fun u => by rw [w] at u; cases u.1), fun w => ?_⟩
    have hy : zheavy S j (zg S) ≤ 9999 ∧ ∀ l, lst S p j = some l → zheavy S j (zg S) < l := by
      cases u : lst S p j with
      | none =>
        rw [u] at y
        have y : ¬ 10000 ≤ zheavy S j (zg S) := y
        exact ⟨by omega, fun l hl => by cases hl⟩
      | some l =>
        rw [u] at y
        have y : ¬ l ≤ zheavy S j (zg S) := y
        have := hl.2 l u
        exact ⟨by omega, fun l' hl => by cases hl; omega⟩
    rw [lst_yes ⟨w, by omega, hy⟩] at hi
    rw [t1]
    exact hi
