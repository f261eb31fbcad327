/-! THE REFERENCE, 3: best choices -/
theorem c_bestBy (E : rp_E) {M : rp_M} {S : rs_S} (hw : Wf S) (hr : RM S (M 156)) {g h cap : Nat} (ht : tabM S g h M) (hcap : cap < 2 ^ 31) : rp_C E YX6_bestBy [.ref 155, .int (nI cap)] M (some (nI (zbest S g h cap))) M := by
  refine rp_C_of (fun post hpost => vX6_bestBy E post M _ ?_)
  have hn := hw.n12
  have h2 := hw.two
  suffices key : ∀ j, j ≤ 2 ^ zn S → rp_G E YX6_bestBy post 4 [.ref 155, .int (nI cap), .int (nI ((zbestO S g h cap j).getD 0)), .int (nI j), .null] [] M from key 0 (Nat.zero_le _)
  refine up_loop (fun j hj ih => vX6_bestBy_4 E post M _ _ _ ?_)
  refine ⟨_, _, c_sets E hn hr.1, ?_⟩
  rw [nI_leI (by omega) (by omega)]
  refine ⟨fun h3 => ?_, fun h3 => ?_⟩
  · have e : j = 2 ^ zn S := by omega
    subst e
    exact hpost
  have hlt : (zbestO S g h cap j).getD 0 < 2 ^ zn S := by
    by_cases h0 : j = 0
    · subst h0
      exact Nat.two_pow_pos _
    · obtain ⟨b, hb, e⟩ := zbestO_some S g h cap (m := j) (by omega)
      rw [e]
      show b < _
      omega
  have same : zbestO S g h cap (j + 1) = zbestO S g h cap j → rp_G E YX6_bestBy post 4 [.ref 155, .int (nI cap), .int (nI ((zbestO S g h cap j).getD 0)), .int (nI j + 1), .null] [] M := fun e => by
    have h1 := ih (by omega)
    rw [e] at h1
    rw [nI_1]
    exact h1
  have take : zbestO S g h cap (j + 1) = some j → rp_G E YX6_bestBy post 4 [.ref 155, .int (nI cap), .int (nI j), .int (nI j + 1), .null] [] M := fun e => by
    have h1 := ih (by omega)
    rw [e] at h1
    rw [nI_1]
    exact h1
  have zero : j = 0 → zbestO S g h cap (j + 1) = some 0 ∧ (zbestO S g h cap j).getD 0 = 0 := fun e => by
    subst e
    exact ⟨bst_yes ⟨zfit0 S g cap, trivial⟩, rfl⟩
  rw [nI_clamp (by omega), nI_clamp (by omega)]
  obtain ⟨t1, t2, t3⟩ := ht j (by omega)
  obtain ⟨u1, u2, u3⟩ := ht _ hlt
  rw [t1, t2, t3, u1, u2]
  have b1 := hw.heavy j g
  have b2 := hw.heavy ((zbestO S g h cap j).getD 0) g
  have b3 := hw.worth j h
  have b4 := hw.worth ((zbestO S g h cap j).getD 0) h
  rw [iI_lt (by omega) (by omega) (by omega) (by omega), iI_eq (by omega) (by omega) (by omega) (by omega), nI_ltI (by omega) (by omega), nI_leI (by omega) (by omega)]
  refine ⟨nI_inb (by omega) (by omega), fun h4 => ?_, fun h4 => ⟨fun h5 => ?_, fun h5 => ⟨nI_inb (by omega) (by omega), fun h6 => ?_, fun h6 => ⟨fun h7 => ?_, fun h7 => ⟨fun h8 => ?_, fun h8 => ?_⟩⟩⟩⟩⟩
  · rw [bI_0] at h4
    exact same (bst_no (fun q => by have := (zfit_t.mp q.1).1; rw [h4] at this; cases this))
  · exact same (bst_no (fun q => by have := (zfit_t.mp q.1).2; omega))
  all_goals rw [bI_n] at h4
  all_goals have hok : zfit S g cap j = true := zfit_t.mpr ⟨h4, by omega⟩
  all_goals by_cases h0 : j = 0
  · obtain ⟨z1, z2⟩ := zero h0
    rw [h0]
    have := take (by rw [z1, h0])
    rw [h0] at this
    exact this
  · obtain ⟨b, hb, e⟩ := zbestO_some S g h cap (m := j) (by omega)
    refine take (bst_yes ⟨hok, ?_⟩)
    show bbe _ _ j (zbestO S g h cap j)
    rw [e] at h6 ⊢
    exact Or.inl h6
  · obtain ⟨z1, z2⟩ := zero h0
    subst h0
    rw [z2] at h7
    exact absurd rfl h7
  · obtain ⟨b, hb, e⟩ := zbestO_some S g h cap (m := j) (by omega)
    refine same (bst_no (fun q => ?_))
    have q2 : bbe _ _ j (zbestO S g h cap j) := q.2
    rw [e] at h6 h7 q2
    rcases q2 with q2 | q2
    · exact h6 q2
    · exact h7 q2.1
  · obtain ⟨z1, z2⟩ := zero h0
    subst h0
    have := take z1
    rw [z2]
    exact this
  · obtain ⟨b, hb, e⟩ := zbestO_some S g h cap (m := j) (by omega)
    refine same (bst_no (fun q => ?_))
    have q2 : bbe _ _ j (zbestO S g h cap j) := q.2
    rw [e] at h6 h8 q2
    rcases q2 with q2 | q2
    · exact h6 q2
    · have h8 : zheavy S b g ≤ zheavy S j g := h8
      have q3 : zheavy S j g < zheavy S b g := q2.2
      omega
  · obtain ⟨z1, z2⟩ := zero h0
    subst h0
    rw [z2] at h8
    exact absurd (Nat.le_refl _) h8
  · obtain ⟨b, hb, e⟩ := zbestO_some S g h cap (m := j) (by omega)
    refine take (bst_yes ⟨hok, ?_⟩)
    show bbe _ _ j (zbestO S g h cap j)
    rw [e] at h7 h8 ⊢
    exact Or.inr ⟨h7, Nat.lt_of_not_le h8⟩
theorem amb_lt (S : rs_S) (hw : Wf S) (best : Nat) : ∀ j, j ≤ 2 ^ zn S → (amb S best j).1 ≤ j ∧ (amb S best j).2.1 < 2 ^ zn S ∧ (amb S best j).2.2.1 < 2 ^ zn S ∧ (amb S best j).2.2.2 ≤ j
  | 0, _ => ⟨Nat.le_refl _, Nat.sub_lt (Nat.two_pow_pos _) (by decide), Nat.two_pow_pos _, Nat.le_refl _⟩
  | j + 1, h => by
    obtain ⟨h1, h2, h3, h4⟩ := amb_lt S hw best j (by omega)
    unfold amb
    split
    · split
      · exact ⟨by show (amb S best j).1 + 1 ≤ _; omega, Nat.lt_of_le_of_lt Nat.and_le_left h2, Nat.or_lt_two_pow h3 (by omega), by show (amb S best j).2.2.2 + 1 ≤ _; omega⟩
      · exact ⟨by show (amb S best j).1 ≤ _; omega, h2, h3, by show (amb S best j).2.2.2 + 1 ≤ _; omega⟩
    · exact ⟨by omega, h2, h3, by omega⟩
theorem nI_p1 {n : Nat} (h : 0 < n) : nI n - 1 = nI (n - 1) := pk_sub h
theorem c_amongBest (E : rp_E) {M : rp_M} {S : rs_S} (hw : Wf S) (hr : RM S (M 156)) (ht : tabM S (zg S) (zh S) M) {w : Int32} (h0 : ¬ w = 0) (h1 : ¬ w = 1) (h2' : ¬ w = 2) (hin : 0 ≤ w.toInt ∧ w.toInt ≤ 6) : rp_C E YX6_amongBest [.ref 155, .int w] M (some (a_best S w)) M := by
  refine rp_C_of (fun post hpost => vX6_amongBest E post M _ ?_)
  have hn := hw.n12
  have h2 := hw.two
  have hc := hw.2.1
  rw [hr.2.1]
  refine ⟨_, _, c_bestBy E hw hr ht (by omega), _, _, c_sets E hn hr.1, ?_⟩
  unfold a_best at hpost
  rw [if_pos hin, if_neg h0, if_neg h1, if_neg h2'] at hpost
  rw [nI_p1 (Nat.two_pow_pos _)]
  have hb := zbest_lt S (zg S) (zh S) (zc S)
  generalize zbest S (zg S) (zh S) (zc S) = best at hb hpost ⊢
  suffices key : ∀ j, j ≤ 2 ^ zn S → rp_G E YX6_amongBest post 30 [.ref 155, .int w, .int (nI best), .int (nI (amb S best j).1), .int (nI (amb S best j).2.1), .int (nI (amb S best j).2.2.1), .int (nI (amb S best j).2.2.2), .int (nI j), .null] [] M from key 0 (Nat.zero_le _)
  refine up_loop (fun j hj ih => vX6_amongBest_30 E post M _ _ _ _ _ _ _ ?_)
  refine ⟨_, _, c_sets E hn hr.1, ?_⟩
  rw [nI_leI (by omega) (by omega)]
  refine ⟨fun h3 => ?_, fun h3 => ?_⟩
  · have e : j = 2 ^ zn S := by omega
    subst e
    refine ⟨fun h4 => ⟨fun h5 => ⟨fun h6 => ?_, fun h6 => ?_⟩, fun h5 => ?_⟩, fun h4 => ?_⟩
    · rw [if_neg h4, if_neg h5, if_neg h6] at hpost
      exact hpost
    · refine ⟨_, _, c_sets E hn hr.1, ?_⟩
      rw [if_neg h4, if_neg h5, if_pos h6] at hpost
      rw [nI_p1 (Nat.two_pow_pos _)]
      exact hpost
    · rw [if_neg h4, if_pos h5] at hpost
      exact hpost
    · rw [if_pos h4] at hpost
      exact hpost
  obtain ⟨a1, a2, a3, a4⟩ := amb_lt S hw best j hj
  rw [nI_clamp (by omega), nI_clamp (by omega)]
  obtain ⟨t1, t2, t3⟩ := ht j (by omega)
  obtain ⟨u1, u2, u3⟩ := ht _ hb
  have b1 := hw.heavy j (zg S)
  have b3 := hw.worth j (zh S)
  have b4 := hw.worth best (zh S)
  rw [t1, t2, t3, u2, hr.2.1, nI_ltI (by omega) (by omega), iI_eq (by omega) (by omega) (by omega) (by omega), nI_1]
  have nofit : zfit S (zg S) (zc S) j ≠ true → rp_G E YX6_amongBest post 30 [.ref 155, .int w, .int (nI best), .int (nI (amb S best j).1), .int (nI (amb S best j).2.1), .int (nI (amb S best j).2.2.1), .int (nI (amb S best j).2.2.2 + 0), .int (nI (j + 1)), .null] [] M := fun q => by
    have h1 := ih (by omega)
    have e : amb S best (j + 1) = amb S best j := if_neg q
    rw [e] at h1
    rw [Int32.add_zero]
    exact h1
  refine ⟨nI_inb (by omega) (by omega), fun h4 => ?_, fun h4 => ⟨fun h5 => ?_, fun h5 => ⟨nI_inb (by omega) (by omega), fun h6 => ?_, fun h6 => ?_⟩⟩⟩
  · rw [bI_0] at h4
    exact nofit (fun q => by have := (zfit_t.mp q).1; rw [h4] at this; cases this)
  · exact nofit (fun q => by have := (zfit_t.mp q).2; omega)
  · rw [bI_n] at h4
    have h1 := ih (by omega)
    have hf : zfit S (zg S) (zc S) j = true := zfit_t.mpr ⟨h4, by omega⟩
    have e : amb S best (j + 1) = ((amb S best j).1, (amb S best j).2.1, (amb S best j).2.2.1, (amb S best j).2.2.2 + 1) := (if_pos hf).trans (if_neg h6)
    rw [e] at h1
    rw [nI_1]
    exact h1
  · rw [bI_n] at h4
    have h1 := ih (by omega)
    have hf : zfit S (zg S) (zc S) j = true := zfit_t.mpr ⟨h4, by omega⟩
    have e : amb S best (j + 1) = ((amb S best j).1 + 1, (amb S best j).2.1 &&& j, (amb S best j).2.2.1 ||| j, (amb S best j).2.2.2 + 1) := (if_pos hf).trans (if_pos h6)
    rw [e] at h1
    rw [nI_1, nI_1, nI_and, nI_or]
    exact h1
theorem tab_vals {M : rp_M} {S : rs_S} {g h : Nat} (ht : tabM S g h M) {c : Nat} (hc : c < 2 ^ zn S) (hw : Wf S) : M 160 (nI c).toNatClampNeg = nI (zheavy S c g) ∧ M 161 (nI c).toNatClampNeg = iI (zworth S c h) ∧ M 162 (nI c).toNatClampNeg = bI (zalB S c) ∧ vp_in (nI c) 4096 := by
  have := hw.two
  rw [nI_clamp (by omega)]
  exact ⟨(ht c hc).1, (ht c hc).2.1, (ht c hc).2.2, nI_inb (by omega) (by omega)⟩
theorem d6_best (E : rp_E) {M : rp_M} {S : rs_S} (hw : Wf S) (hr : RM S (M 156)) (w : Int32) : rp_Run E YX6_best [.ref 155, .int w] M (rp_P (fun v M' => v = a_best S w ∧ scrM M M')) := by
  refine vX6_best E _ M w ⟨_, _, c_in E M _ _ _, ?_⟩
  rw [bI_n, bI_0, decide_eq_true_eq, decide_eq_false_iff_not, Int32.toInt_zero, show (6 : Int32).toInt = 6 by decide]
  refine ⟨fun hin => ⟨_, d_layOwn E hw hr, fun M1 q => ?_⟩, fun hin => ⟨_, rfl, (if_neg hin).symm, scrM.rf M⟩⟩
  obtain ⟨ht, hk⟩ := q
  have hr1 : RM S (M1 156) := by rw [hk 156 (by decide) (by decide) (by decide)]; exact hr
  have hsc := scr_tab hk
  have hc := hw.2.1
  rw [hr1.2.1]
  refine ⟨_, _, c_bestBy E hw hr1 ht (by omega), fun h0 => ⟨fun h1 => ⟨fun h2 => ?_, fun h2 => ?_⟩, fun h1 => ?_⟩, fun h0 => ?_⟩
  · exact ⟨_, _, c_amongBest E hw hr1 ht h0 h1 h2 hin, _, rfl, rfl, hsc⟩
  · obtain ⟨v1, v2, v3, v4⟩ := tab_vals ht (zbest_lt S (zg S) (zh S) (zc S)) hw
    rw [v1]
    refine ⟨v4, _, rfl, ?_, hsc⟩
    unfold a_best
    rw [if_pos hin, if_neg h0, if_neg h1, if_pos h2]
  · obtain ⟨v1, v2, v3, v4⟩ := tab_vals ht (zbest_lt S (zg S) (zh S) (zc S)) hw
    rw [v2]
    refine ⟨v4, _, rfl, ?_, hsc⟩
    unfold a_best
    rw [if_pos hin, if_neg h0, if_pos h1]
  · refine ⟨_, rfl, ?_, hsc⟩
    unfold a_best
    rw [if_pos hin, if_pos h0]
theorem toNat_nI {x : Int32} (h : 0 ≤ x.toInt) : x = nI x.toNatClampNeg := by
  have h1 : x.toNatClampNeg = x.toInt.toNat := (Int32.toNat_toInt x).symm
  have h2 := Int32.toNatClampNeg_lt x
  apply Int32.toInt_inj.mp
  rw [nI_toInt (by omega)]
  omega
theorem clamp_int {x : Int32} (h : 0 ≤ x.toInt) : (x.toNatClampNeg : Int) = x.toInt := by
  have h1 : x.toNatClampNeg = x.toInt.toNat := (Int32.toNat_toInt x).symm
  omega
theorem d6_bestWith (E : rp_E) {M : rp_M} {S : rs_S} (hw : Wf S) (hr : RM S (M 156)) (x y z : Int32) : rp_Run E YX6_bestWith [.ref 155, .int x, .int y, .int z] M (rp_P (fun v M' => v = a_bestWith S x y z ∧ scrM M M')) := by
  refine vX6_bestWith E _ M x y z ⟨_, _, c_in E M _ _ _, ?_⟩
  rw [bI_n, bI_0, decide_eq_true_eq, decide_eq_false_iff_not, Int32.toInt_zero, show (9999 : Int32).toInt = 9999 by decide]
  refine ⟨fun h1 => ⟨_, rfl, (if_neg (fun q => h1 q.1)).symm, scrM.rf M⟩, fun h1 => ⟨_, _, c_in E M _ _ _, ?_⟩⟩
  rw [bI_n, bI_0, decide_eq_true_eq, decide_eq_false_iff_not, Int32.toInt_zero, show (12 : Int32).toInt = 12 by decide]
  refine ⟨fun h2 => ⟨_, rfl, (if_neg (fun q => h2 q.2.1)).symm, scrM.rf M⟩, fun h2 => ⟨_, _, c_in E M _ _ _, ?_⟩⟩
  rw [bI_n, bI_0, decide_eq_true_eq, decide_eq_false_iff_not, Int32.toInt_zero, show (12 : Int32).toInt = 12 by decide]
  refine ⟨fun h3 => ?_, fun h3 => ⟨_, rfl, (if_neg (fun q => h3 q.2.2)).symm, scrM.rf M⟩⟩
  have c1 := clamp_int h1.1
  have c2 := clamp_int h2.1
  have c3 := clamp_int h3.1
  have e1 := toNat_nI h1.1
  have e2 := toNat_nI h2.1
  have e3 := toNat_nI h3.1
  have ea : a_bestWith S x y z = iI (zworth S (zbest S y.toNatClampNeg z.toNatClampNeg x.toNatClampNeg) z.toNatClampNeg) + 100000 := if_pos ⟨h1, h2, h3⟩
  rw [ea]
  generalize x.toNatClampNeg = cap at *
  generalize y.toNatClampNeg = g at *
  generalize z.toNatClampNeg = h at *
  rw [e1, e2, e3]
  refine ⟨_, d_layTables E hw hr (by omega) (by omega), fun M1 q => ?_⟩
  obtain ⟨ht, hk⟩ := q
  have hr1 : RM S (M1 156) := by rw [hk 156 (by decide) (by decide) (by decide)]; exact hr
  refine ⟨_, _, c_bestBy E hw hr1 ht (by omega), ?_⟩
  obtain ⟨v1, v2, v3, v4⟩ := tab_vals ht (zbest_lt S g h cap) hw
  rw [v2]
  exact ⟨v4, _, rfl, rfl, scr_tab hk⟩
theorem d6_least (E : rp_E) {M : rp_M} {S : rs_S} (hw : Wf S) (hr : RM S (M 156)) (x : Int32) : rp_Run E YX6_leastCapacity [.ref 155, .int x] M (rp_P (fun v M' => v = a_least S x ∧ scrM M M')) := by
  refine vX6_leastCapacity E _ M x ⟨_, _, c_in E M _ _ _, ?_⟩
  rw [bI_n, bI_0, decide_eq_true_eq, decide_eq_false_iff_not, Int32.toInt_zero, show (12000 : Int32).toInt = 12000 by decide]
  refine ⟨fun hin => ⟨_, d_layOwn E hw hr, fun M1 q => ?_⟩, fun hin => ⟨_, rfl, (if_neg hin).symm, scrM.rf M⟩⟩
  obtain ⟨ht, hk⟩ := q
  have hr1 : RM S (M1 156) := by rw [hk 156 (by decide) (by decide) (by decide)]; exact hr
  have hsc := scr_tab hk
  have hn := hw.n12
  have h2 := hw.two
  have ea : a_least S x = oM (lst S x.toInt (2 ^ zn S)) := if_pos hin
  rw [ea]
  suffices key : ∀ j, j ≤ 2 ^ zn S → rp_G E YX6_leastCapacity (rp_P (fun v M' => v = oM (lst S x.toInt (2 ^ zn S)) ∧ scrM M M')) 23 [.ref 155, .int x, .int (oM (lst S x.toInt j)), .int (nI j)] [] M1 from key 0 (Nat.zero_le _)
  refine up_loop (fun j hj ih => vX6_leastCapacity_23 E _ M1 _ _ _ ?_)
  refine ⟨_, _, c_sets E hn hr1.1, ?_⟩
  rw [nI_leI (by omega) (by omega)]
  refine ⟨fun h3 => ?_, fun h3 => ?_⟩
  · have e : j = 2 ^ zn S := by omega
    subst e
    exact ⟨_, rfl, rfl, hsc⟩
  obtain ⟨v1, v2, v3, v4⟩ := tab_vals ht (show j < 2 ^ zn S by omega) hw
  have b1 := hw.heavy j (zg S)
  have b3 := hw.worth j (zh S)
  have hlt : ∀ k, lst S x.toInt j = some k → k < 2 ^ 31 := fun k hk => by
    have := lst_le hk
    omega
  have same : lst S x.toInt (j + 1) = lst S x.toInt j → rp_G E YX6_leastCapacity (rp_P (fun v M' => v = oM (lst S x.toInt (2 ^ zn S)) ∧ scrM M M')) 23 [.ref 155, .int x, .int (oM (lst S x.toInt j)), .int (nI j + 1)] [] M1 := fun e => by
    have h1 := ih (by omega)
    rw [e] at h1
    rw [nI_1]
    exact h1
  have take : lst S x.toInt (j + 1) = some (zheavy S j (zg S)) → rp_G E YX6_leastCapacity (rp_P (fun v M' => v = oM (lst S x.toInt (2 ^ zn S)) ∧ scrM M M')) 23 [.ref 155, .int x, .int (nI (zheavy S j (zg S))), .int (nI j + 1)] [] M1 := fun e => by
    have h1 := ih (by omega)
    rw [e] at h1
    rw [nI_1]
    exact h1
  rw [v1, v2, v3, show (9999 : Int32) = nI 9999 by rfl, nI_ltI (by omega) (by omega)]
  have ex : iI (zworth S j (zh S)) < x ↔ zworth S j (zh S) < x.toInt := by rw [Int32.lt_d, iI_toInt (by omega) (by omega)]
  rw [ex]
  refine ⟨v4, fun h4 => ?_, fun h4 => ⟨fun h5 => ?_, fun h5 => ⟨fun h6 => ?_, fun h6 => ⟨fun h7 => ?_, fun h7 => ?_⟩⟩⟩⟩
  · rw [bI_0] at h4
    exact same (lst_no (fun q => by rw [h4] at q; cases q.1))
  · exact same (lst_no (fun q => by have := q.2.1; omega))
  · exact same (lst_no (fun q => by have := q.2.2.1; omega))
  · rw [bI_n] at h4
    have hk := (oM_neg hlt).mp h7
    exact take (lst_yes ⟨h4, by omega, by omega, fun l hl => by rw [hk] at hl; cases hl⟩)
  · rw [bI_n] at h4
    cases hk : lst S x.toInt j with
    | none => exact absurd ((oM_neg hlt).mpr hk) h7
    | some l =>
      have hl := lst_le hk
      show (nI l ≤ nI (zheavy S j (zg S)) → _) ∧ (¬ nI l ≤ nI (zheavy S j (zg S)) → _)
      rw [nI_leI (by omega) (by omega)]
      refine ⟨fun h8 => ?_, fun h8 => ?_⟩
      · have := same (lst_no (fun q => by have := q.2.2.2 l hk; omega))
        rw [hk] at this
        exact this
      · exact take (lst_yes ⟨h4, by omega, by omega, fun l2 hl2 => by rw [hk] at hl2; cases hl2; omega⟩)
