/-! THE REFERENCE, 5: greedy choices, local steps -/
theorem mul_b {a b c : Nat} (ha : a ≤ 999) (hb : b ≤ 999) (hc : c ≤ 999) : a * (b + c) ≤ 1996002 := by
  have h1 : a * (b + c) ≤ 999 * (b + c) := Nat.mul_le_mul_right _ ha
  have h2 : 999 * (b + c) ≤ 999 * 1998 := Nat.mul_le_mul_left _ (by omega)
  omega
theorem c_isAhead (E : rp_E) {M : rp_M} {S : rs_S} (hw : Wf S) (hr : RM S (M 156)) {k j : Nat} (hk : k < zn S) (hj : j < k) : rp_C E YX6_isAhead [.ref 155, .int (nI k), .int (nI j)] M (some (bI (decide (zp S 0 j * (zp S 1 k + zp S 2 k) < zp S 0 k * (zp S 1 j + zp S 2 j))))) M := by
  refine rp_C_of (fun post hpost => vX6_isAhead E post M _ _ ?_)
  have hj' : j < zn S := by omega
  have hn := hw.n12
  refine ⟨_, _, c_of E hw hr hk (p := 0) (by omega), _, _, c_of E hw hr hj' (p := 1) (by omega), _, _, c_of E hw hr hj' (p := 2) (by omega), _, _, c_of E hw hr hj' (p := 0) (by omega), _, _, c_of E hw hr hk (p := 1) (by omega), _, _, c_of E hw hr hk (p := 2) (by omega), ?_⟩
  have m1 := mul_b (hw.p999 (p := 0) (by omega) hj') (hw.p999 (p := 1) (by omega) hk) (hw.p999 (p := 2) (by omega) hk)
  have m2 := mul_b (hw.p999 (p := 0) (by omega) hk) (hw.p999 (p := 1) (by omega) hj') (hw.p999 (p := 2) (by omega) hj')
  rw [nI_add, nI_add, pk_mul, pk_mul, nI_ltI (by omega) (by omega), nI_eq (by omega) (by omega), nI_leI (by omega) (by omega)]
  refine ⟨fun h => ?_, fun h => ⟨fun h2 => ?_, fun h2 => ⟨fun h3 => ?_, fun h3 => ?_⟩⟩⟩
  · rw [decide_eq_true h] at hpost
    exact hpost
  · rw [decide_eq_false h] at hpost
    exact hpost
  · rw [decide_eq_false h] at hpost
    exact hpost
  · omega
theorem d6_greedy (E : rp_E) {M : rp_M} {S : rs_S} (hw : Wf S) (hr : RM S (M 156)) (w : Int32) : rp_Run E YX6_greedy [.ref 155, .int w] M (rp_P (fun v M' => v = a_greedy S w ∧ scrM M M')) := by
  have hn := hw.n12
  have h2 := hw.two
  have hc := hw.2.1
  refine vX6_greedy E _ M w ⟨_, _, c_in E M _ _ _, ?_⟩
  rw [bI_n, bI_0, decide_eq_true_eq, decide_eq_false_iff_not, Int32.toInt_zero, show (1 : Int32).toInt = 1 by decide]
  refine ⟨fun hin => ?_, fun hin => ⟨_, rfl, (if_neg hin).symm, scrM.rf M⟩⟩
  have ea : a_greedy S w = _ := if_pos hin
  rw [ea]
  clear ea
  generalize hpo : (rp_P (fun v M' => v = (if w = 0 then nI (gst S (zn S)).2 else iI (zworth S (gst S (zn S)).2 (zh S)) + 100000) ∧ scrM M M')) = post
  suffices key : ∀ i, i ≤ zn S → rp_G E YX6_greedy post 19 [.ref 155, .int w, .int (nI (gst S i).1), .int (nI (gst S i).2), .int (nI i), .null, .null] [] M from key 0 (Nat.zero_le _)
  refine up_loop (fun i hi ih => vX6_greedy_19 E post M _ _ _ _ ?_)
  obtain ⟨i1, i2, i3⟩ := gst_inv S i hi
  rw [hr.1, hr.2.2.2.1, nI_leI (by omega) (by omega)]
  refine ⟨fun h => ⟨fun h3 => ⟨_, _, c_protP E hw hr (by omega) hw.2.2.2.1, ?_⟩, fun h3 => ?_⟩, fun h => ?_⟩
  · have e : i = zn S := by omega
    subst e
    rw [← hpo]
    exact ⟨_, rfl, (if_neg h3).symm, scrM.rf M⟩
  · have e : i = zn S := by omega
    subst e
    rw [← hpo]
    exact ⟨_, rfl, (if_pos h3).symm, scrM.rf M⟩
  have ih := ih (by omega)
  obtain ⟨nx, nx1, nx2⟩ := gst_some (show i < zn S by omega)
  have eg : gst S (i + 1) = ((gst S i).1 ||| 2 ^ nx, if zfit S (zg S) (zc S) ((gst S i).2 ||| 2 ^ nx) = true then (gst S i).2 ||| 2 ^ nx else (gst S i).2) := by
    show (match gpk S (gst S i).1 (zn S) with | none => gst S i | some k => _) = _
    rw [nx2]
  rw [eg] at ih
  generalize (gst S i).1 = seen at *
  generalize (gst S i).2 = cur at *
  suffices key : ∀ j, j ≤ zn S → rp_G E YX6_greedy post 37 [.ref 155, .int w, .int (nI seen), .int (nI cur), .int (nI i), .int (oM (gpk S seen j)), .int (nI j)] [] M from key 0 (Nat.zero_le _)
  refine up_loop (fun j hj ihj => vX6_greedy_37 E post M _ _ _ _ _ _ ?_)
  rw [hr.1, nI_leI (by omega) (by omega)]
  refine ⟨fun h3 => ?_, fun h3 => ⟨_, _, c_has E M (by omega) (by omega), ?_⟩⟩
  · have e : j = zn S := by omega
    subst e
    rw [nx2]
    show ∃ v11 M12, rp_C E YX6_isAllowed [.ref 155, .int (nI cur ||| ((1 : Int32) <<< (nI nx &&& 31) : Int32))] M (some v11) M12 ∧ ((v11 = 0 → (rp_G E YX6_greedy post 19 [.ref 155, .int w, .int (nI seen ||| ((1 : Int32) <<< (nI nx &&& 31) : Int32)), .int (nI cur), .int (nI i + 1), .null, .null] [] M12)) ∧ (¬ v11 = 0 → (∃ v15 M16, rp_C E YX6_protectedWeight [.ref 155, .int (nI cur ||| ((1 : Int32) <<< (nI nx &&& 31) : Int32)), .int (M12 156 2)] M12 (some v15) M16 ∧ (((M16 156 1) < v15 → (rp_G E YX6_greedy post 19 [.ref 155, .int w, .int (nI seen ||| ((1 : Int32) <<< (nI nx &&& 31) : Int32)), .int (nI cur), .int (nI i + 1), .null, .null] [] M16)) ∧ (¬ (M16 156 1) < v15 → (rp_G E YX6_greedy post 19 [.ref 155, .int w, .int (nI seen ||| ((1 : Int32) <<< (nI nx &&& 31) : Int32)), .int (nI cur ||| ((1 : Int32) <<< (nI nx &&& 31) : Int32)), .int (nI i + 1), .null, .null] [] M16))))))
    rw [nI_one_shl (by omega), nI_or, nI_or, nI_1]
    have hm : cur ||| 2 ^ nx < 2 ^ zn S := Nat.or_lt_two_pow i3 (Nat.pow_lt_pow_right (by omega) nx1)
    have hh := hw.heavy (cur ||| 2 ^ nx) (zg S)
    refine ⟨_, _, c_isAllowed E hw hr hm, ?_⟩
    rw [bI_n, bI_0]
    refine ⟨fun h4 => ?_, fun h4 => ?_⟩
    · rw [if_neg (fun q => by have := (zfit_t.mp q).1; rw [h4] at this; cases this)] at ih
      exact ih
    · rw [hr.2.2.1]
      refine ⟨_, _, c_protW E hw hr (by omega) hw.2.2.1, ?_⟩
      rw [hr.2.1, nI_ltI (by omega) (by omega)]
      refine ⟨fun h5 => ?_, fun h5 => ?_⟩
      · rw [if_neg (fun q => by have := (zfit_t.mp q).2; omega)] at ih
        exact ih
      · rw [if_pos (zfit_t.mpr ⟨h4, by omega⟩)] at ih
        exact ih
  · have hlt : ∀ k, gpk S seen j = some k → k < 2 ^ 31 := fun k hk => by
      have := (gpk_spec hk).1
      omega
    have ihj := ihj (by omega)
    rw [bI_n, bI_0, nI_1]
    refine ⟨fun h4 => ?_, fun h4 => ⟨fun h5 => ?_, fun h5 => ?_⟩⟩
    · rw [gpk_no (fun q => by rw [h4] at q; cases q.1)] at ihj
      exact ihj
    · have hk := (oM_neg hlt).mp h5
      rw [gpk_yes ⟨h4, fun q hq => by rw [hk] at hq; cases hq⟩] at ihj
      exact ihj
    · cases hk : gpk S seen j with
      | none => exact absurd ((oM_neg hlt).mpr hk) h5
      | some k =>
        have hkj := (gpk_spec hk).1
        refine ⟨_, _, c_isAhead E hw hr (by omega) hkj, ?_⟩
        rw [bI_n, bI_0, decide_eq_true_eq, decide_eq_false_iff_not]
        refine ⟨fun h6 => ?_, fun h6 => ?_⟩
        · rw [gpk_no (fun q => h6 (q.2 k hk)), hk] at ihj
          exact ihj
        · rw [gpk_yes ⟨h4, fun q hq => by rw [hk] at hq; cases hq; exact h6⟩] at ihj
          exact ihj
theorem nst_yes {S : rs_S} {s k m x : Nat} (h : (m = k ∨ s.testBit k ≠ s.testBit m) ∧ zfit S (zg S) (zc S) (nearC s k m) = true ∧ zahead S (nearC s k m) x) : nst S s k m x = nearC s k m := if_pos (pB_t.mpr h)
theorem nst_no {S : rs_S} {s k m x : Nat} (h : ¬ ((m = k ∨ s.testBit k ≠ s.testBit m) ∧ zfit S (zg S) (zc S) (nearC s k m) = true ∧ zahead S (nearC s k m) x)) : nst S s k m x = x := if_neg (fun q => h (pB_t.mp q))
theorem bI_inj {a b : Bool} : bI a = bI b ↔ a = b := by cases a <;> cases b <;> decide
theorem c_firstNear (E : rp_E) {M : rp_M} {S : rs_S} (hw : Wf S) (hr : RM S (M 156)) (ht : tabM S (zg S) (zh S) M) {s : Nat} (hs : s < 2 ^ zn S) : rp_C E YX6_firstNear [.ref 155, .int (nI s)] M (some (nI (fnr S s))) M := by
  refine rp_C_of (fun post hpost => vX6_firstNear E post M _ ?_)
  have hn := hw.n12
  have h2 := hw.two
  suffices key : ∀ k, k ≤ zn S → rp_G E YX6_firstNear post 4 [.ref 155, .int (nI s), .int (nI (nou S s k)), .int (nI k), .null, .null, .null] [] M from key 0 (Nat.zero_le _)
  refine up_loop (fun k hk ih => vX6_firstNear_4 E post M _ _ _ ?_)
  rw [hr.1, nI_leI (by omega) (by omega)]
  refine ⟨fun h => ?_, fun h => ?_⟩
  · have e : k = zn S := by omega
    subst e
    exact hpost
  have ih := ih (by omega)
  have hx := nou_inv hs k hk
  have eo : nou S s (k + 1) = nin S s k (zn S - k) (nou S s k) := rfl
  rw [eo] at ih
  generalize nou S s k = x at *
  suffices key : ∀ d, d ≤ zn S - k → rp_G E YX6_firstNear post 17 [.ref 155, .int (nI s), .int (nI (nin S s k d x)), .int (nI k), .int (nI (k + d)), .null, .null] [] M from key 0 (Nat.zero_le _)
  refine up_loop (fun d hd ihd => vX6_firstNear_17 E post M _ _ _ _ ?_)
  rw [hr.1, nI_leI (by omega) (by omega)]
  refine ⟨fun h3 => ?_, fun h3 => ?_⟩
  · have e : d = zn S - k := by omega
    subst e
    rw [nI_1]
    exact ih
  have ihd := ihd (by omega)
  have ei : nin S s k (d + 1) x = nst S s k (k + d) (nin S s k d x) := rfl
  rw [ei, show k + (d + 1) = k + d + 1 by omega] at ihd
  have hy := nin_inv hs (show k < zn S by omega) d x (by omega) hx
  generalize nin S s k d x = y at *
  have hm : k + d < zn S := by omega
  generalize k + d = m at *
  have hnc := nearC_lt (S := S) hs (show k < zn S by omega) hm
  have tail : ∀ b : Bool, (b = true ↔ (m = k ∨ s.testBit k ≠ s.testBit m)) → rp_G E YX6_firstNear post 77 [.ref 155, .int (nI s), .int (nI y), .int (nI k), .int (nI m), .int (nI (nearC s k m)), .int (bI b)] [] M := fun b hb => by
    refine vX6_firstNear_77 E post M _ _ _ _ _ _ ?_
    rw [bI_n, bI_0, nI_1]
    refine ⟨fun q => ?_, fun q => ⟨_, _, c_isGood E hw hr ht hnc, ?_⟩⟩
    · rw [nst_no (fun z => by rw [hb.mpr z.1] at q; cases q)] at ihd
      exact ihd
    · rw [bI_n, bI_0]
      refine ⟨fun q2 => ?_, fun q2 => ⟨_, _, c_comesAhead E hw ht hnc hy.1, ?_⟩⟩
      · rw [nst_no (fun z => by rw [z.2.1] at q2; cases q2)] at ihd
        exact ihd
      · rw [bI_n, bI_0, pB_f, pB_t]
        refine ⟨fun q3 => ?_, fun q3 => ?_⟩
        · rw [nst_no (fun z => q3 z.2.2)] at ihd
          exact ihd
        · rw [nst_yes ⟨hb.mp q, q2, q3⟩] at ihd
          exact ihd
  have mid : rp_G E YX6_firstNear post 50 [.ref 155, .int (nI s), .int (nI y), .int (nI k), .int (nI m), .int (nI (nearC s k m)), .null] [] M := by
    refine vX6_firstNear_50 E post M _ _ _ _ _ ?_
    rw [nI_eq (by omega) (by omega)]
    refine ⟨fun q => tail true ⟨fun _ => Or.inl q, fun _ => rfl⟩, fun q => ⟨_, _, c_has E M (by omega) (by omega), _, _, c_has E M (by omega) (by omega), ?_⟩⟩
    rw [bI_inj]
    exact ⟨fun q2 => tail false ⟨fun z => (by cases z), fun z => z.elim (fun z => absurd z q) (fun z => absurd q2 z)⟩, fun q2 => tail true ⟨fun _ => Or.inr q2, fun _ => rfl⟩⟩
  rw [nI_one_shl (by omega), nI_one_shl (by omega), nI_xor, nI_xor, nI_eq (by omega) (by omega)]
  refine ⟨fun q => ?_, fun q => ?_⟩
  · have e : nearC s k m = s ^^^ 2 ^ k ^^^ 2 ^ m := by unfold nearC; rw [if_neg q]
    rw [e] at mid
    exact mid
  · have e : nearC s k m = s ^^^ 2 ^ k ^^^ 0 := by unfold nearC; rw [if_pos q]
    rw [e] at mid
    rw [show (0 : Int32) = nI 0 by rfl, nI_xor]
    exact mid
theorem d6_improve (E : rp_E) {M : rp_M} {S : rs_S} (hw : Wf S) (hr : RM S (M 156)) (x w : Int32) : rp_Run E YX6_improve [.ref 155, .int x, .int w] M (rp_P (fun v M' => v = a_improve S x w ∧ scrM M M')) := by
  have hn := hw.n12
  have h2 := hw.two
  have ok : ∀ (v a : Int32), a = v → rp_P (fun v M' => v = a ∧ scrM M M') (some v) M := fun v a e => ⟨v, rfl, e.symm, scrM.rf M⟩
  refine vX6_improve E _ M x w ⟨_, _, c_isChoice E hn hr.1 x, ?_⟩
  rw [bI_n, bI_0]
  refine ⟨fun hx => ⟨_, _, c_in E M _ _ _, ?_⟩, fun hx => ok _ _ (if_neg (by rw [hx]; decide))⟩
  have ea : a_improve S x w = _ := if_pos hx
  rw [ea]
  clear ea
  rw [bI_n, bI_0, decide_eq_true_eq, decide_eq_false_iff_not, Int32.toInt_zero, show (1 : Int32).toInt = 1 by decide]
  refine ⟨fun hin => ⟨_, d_layOwn E hw hr, fun M1 q => ?_⟩, fun hin => ok _ _ (if_neg hin)⟩
  rw [if_pos hin]
  obtain ⟨s, hs, e⟩ := isI_of (by omega) hx
  rw [e, nI_clamp (by omega)]
  obtain ⟨ht, hk⟩ := q
  have hr1 : RM S (M1 156) := by rw [hk 156 (by decide) (by decide) (by decide)]; exact hr
  have hsc := scr_tab hk
  refine ⟨_, _, c_isGood E hw hr1 ht hs, ?_⟩
  rw [bI_n, bI_0]
  refine ⟨fun hg => ⟨_, _, c_firstNear E hw hr1 ht hs, ?_⟩, fun hg => ⟨_, rfl, (if_neg (by rw [hg]; decide)).symm, hsc⟩⟩
  rw [if_pos hg]
  generalize hr0 : imf S 4096 s 0 = r0
  generalize hpo : (rp_P (fun v M' => v = (if w = 0 then nI r0.1 else nI r0.2) ∧ scrM M M')) = post
  have key : ∀ f t k, t < 2 ^ zn S → zrk S t < f → imf S f t k = r0 → rp_G E YX6_improve post 50 [.ref 155, .null, .int w, .int (nI k), .int (nI t), .int (nI (fnr S t))] [] M1 := by
    intro f
    induction f with
    | zero => exact fun t k _ h _ => by omega
    | succ f ih =>
      intro t k ht2 hf himf
      obtain ⟨f1, f2⟩ := fnr_inv ht2
      refine vX6_improve_50 E post M1 _ _ _ _ ?_
      rw [nI_eq (by omega) (by omega)]
      unfold imf at himf
      refine ⟨fun q => ?_, fun q => ⟨_, _, c_firstNear E hw hr1 ht f1, ?_⟩⟩
      · rw [if_pos q] at himf
        rw [← hpo, ← himf]
        exact ⟨fun q2 => ⟨_, rfl, (if_neg q2).symm, hsc⟩, fun q2 => ⟨_, rfl, (if_pos q2).symm, hsc⟩⟩
      · rw [if_neg q] at himf
        have := zrk_lt f1 (f2.resolve_left q)
        rw [nI_1]
        exact ih (fnr S t) (k + 1) f1 (by omega) himf
  have h3 := zrk_top hs
  exact key 4096 s 0 hs (by omega) hr0
