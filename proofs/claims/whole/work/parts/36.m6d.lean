/-! THE REFERENCE, 4: numbers about a choice; forced choices -/
theorem c_mostBudget (E : rp_E) {M : rp_M} {S : rs_S} (hw : Wf S) (hr : RM S (M 156)) {c : Nat} (hc : c < 2 ^ 31) : rp_C E YX6_mostBudget [.ref 155, .int (nI c)] M (some (oM (mbd S c 13))) M := by
  refine rp_C_of (fun post hpost => vX6_mostBudget E post M _ ?_)
  suffices key : ∀ j, j ≤ 13 → rp_G E YX6_mostBudget post 5 [.ref 155, .int (nI c), .int (oM (mbd S c j)), .int (nI j)] [] M from key 0 (Nat.zero_le _)
  refine up_loop (fun j hj ih => vX6_mostBudget_5 E post M _ _ _ ?_)
  rw [show (12 : Int32) = nI 12 by rfl, nI_ltI (by omega) (by omega)]
  refine ⟨fun h => ?_, fun h => ⟨_, _, c_protW E hw hr hc (by omega), ?_⟩⟩
  · have e : j = 13 := by omega
    subst e
    exact hpost
  · have hc := hw.2.1
    have hh := hw.heavy c j
    have h1 := ih (by omega)
    rw [hr.2.1, nI_ltI (by omega) (by omega), nI_1]
    refine ⟨fun h2 => ?_, fun h2 => ?_⟩
    · have e : mbd S c (j + 1) = mbd S c j := if_neg (by omega)
      rw [e] at h1
      exact h1
    · have e : mbd S c (j + 1) = some j := if_pos (by omega)
      rw [e] at h1
      exact h1
theorem d6_choice (E : rp_E) {M : rp_M} {S : rs_S} (hw : Wf S) (hr : RM S (M 156)) (x w : Int32) : rp_Run E YX6_choice [.ref 155, .int x, .int w] M (rp_P (fun v M' => v = a_choice S x w ∧ scrM M M')) := by
  have hn := hw.n12
  have h2 := hw.two
  refine vX6_choice E _ M x w ⟨_, _, c_isChoice E hn hr.1 x, ?_⟩
  rw [bI_n, bI_0, hr.2.2.1, hr.2.2.2.1]
  have ok : ∀ (v a : Int32), a = v → rp_P (fun v M' => v = a ∧ scrM M M') (some v) M := fun v a e => ⟨v, rfl, e.symm, scrM.rf M⟩
  refine ⟨fun hx => ?_, fun hx => ok _ _ (if_neg (by rw [hx]; decide))⟩
  obtain ⟨c, hc, e⟩ := isI_of (by omega) hx
  have ea : a_choice S x w = _ := if_pos hx
  rw [ea]
  clear ea
  rw [e, nI_clamp (by omega)]
  have hcap := hw.2.1
  have hh := hw.heavy c (zg S)
  refine ⟨fun q => ?_, fun q => ?_, fun q => ?_, fun q => ?_, fun q => ?_, fun q => ?_, fun q => ?_, fun q => ?_, fun q => ?_, fun q0 q1 q2 q3 q4 q5 q6 q7 q8 => ?_⟩
  · exact ⟨_, _, c_sum E hw hr (p := 1) (by omega) (by omega), ok _ _ (if_pos q)⟩
  · subst q
    exact ⟨_, _, c_protW E hw hr (by omega) hw.2.2.1, ok _ _ rfl⟩
  · subst q
    exact ⟨_, _, c_sum E hw hr (p := 0) (by omega) (by omega), ok _ _ rfl⟩
  · subst q
    exact ⟨_, _, c_protP E hw hr (by omega) hw.2.2.2.1, ok _ _ rfl⟩
  · subst q
    refine ⟨_, _, c_isAllowed E hw hr hc, ?_⟩
    rw [bI_n, bI_0]
    exact ⟨fun q2 => ok _ _ (by show bI _ = _; rw [q2]; rfl), fun q2 => ok _ _ (by show bI _ = _; rw [q2]; rfl)⟩
  · subst q
    refine ⟨_, _, c_protW E hw hr (by omega) hw.2.2.1, ?_⟩
    rw [hr.2.1, nI_ltI (by omega) (by omega)]
    exact ⟨fun q2 => ok _ _ (by show bI _ = _; rw [decide_eq_false (by omega)]; rfl), fun q2 => ok _ _ (by show bI _ = _; rw [decide_eq_true (by omega)]; rfl)⟩
  · subst q
    exact ⟨_, _, c_worst E hw hr (p := 2) (by omega) (by omega) hw.2.2.1, ok _ _ rfl⟩
  · subst q
    exact ⟨_, _, c_worst E hw hr (p := 3) (by omega) (by omega) hw.2.2.2.1, ok _ _ rfl⟩
  · subst q
    exact ⟨_, _, c_mostBudget E hw hr (by omega), ok _ _ rfl⟩
  · refine ok _ _ ?_
    rw [if_neg q0, if_neg q1, if_neg q2, if_neg q3, if_neg q4, if_neg q5, if_neg q6, if_neg q7, if_neg q8]
theorem d6_weightIn (E : rp_E) {M : rp_M} {S : rs_S} (hw : Wf S) (hr : RM S (M 156)) (x y : Int32) : rp_Run E YX6_weightIn [.ref 155, .int x, .int y] M (rp_P (fun v M' => v = a_weightIn S x y ∧ scrM M M')) := by
  have hn := hw.n12
  have h2 := hw.two
  have ok : ∀ (v a : Int32), a = v → rp_P (fun v M' => v = a ∧ scrM M M') (some v) M := fun v a e => ⟨v, rfl, e.symm, scrM.rf M⟩
  refine vX6_weightIn E _ M x y ⟨_, _, c_isChoice E hn hr.1 x, ?_⟩
  rw [bI_n, bI_0]
  refine ⟨fun hx => ok _ _ (if_neg (by rw [hx]; exact fun q => by cases q.1)), fun hx => ⟨_, _, c_isChoice E hn hr.1 y, ?_⟩⟩
  rw [bI_n, bI_0]
  refine ⟨fun hy => ?_, fun hy => ok _ _ (if_neg (by rw [hy]; exact fun q => by cases q.2))⟩
  obtain ⟨c, hc, e⟩ := isI_of (by omega) hx
  obtain ⟨d, hd, e'⟩ := isI_of (by omega) hy
  have ea : a_weightIn S x y = _ := if_pos ⟨hx, hy⟩
  rw [ea]
  clear ea
  rw [e, e', nI_clamp (by omega), nI_clamp (by omega)]
  refine ⟨_, _, c_sizeOf E M (by omega), ?_⟩
  have hp := pop_le d
  have hg := hw.2.2.1
  have hand : c &&& d < 2 ^ zn S := Nat.lt_of_le_of_lt Nat.and_le_left hc
  rw [hr.2.2.1, nI_leI (by omega) (by omega)]
  refine ⟨fun q => ⟨_, _, c_sum E hw hr (p := 1) (by omega) (by omega), ?_⟩, fun q => ok _ _ (if_neg q)⟩
  rw [nI_and]
  refine ⟨_, _, c_sum E hw hr (p := 2) (by omega) (by omega), ?_⟩
  rw [nI_add]
  exact ok _ _ (if_pos q)
theorem c_isGood (E : rp_E) {M : rp_M} {S : rs_S} (hw : Wf S) (hr : RM S (M 156)) (ht : tabM S (zg S) (zh S) M) {c : Nat} (hc : c < 2 ^ zn S) : rp_C E YX6_isGood [.ref 155, .int (nI c)] M (some (bI (zfit S (zg S) (zc S) c))) M := by
  refine rp_C_of (fun post hpost => vX6_isGood E post M _ ?_)
  obtain ⟨v1, v2, v3, v4⟩ := tab_vals ht hc hw
  have b1 := hw.heavy c (zg S)
  have b2 := hw.2.1
  rw [v1, v3, hr.2.1, nI_ltI (by omega) (by omega), bI_n, bI_0]
  refine ⟨v4, fun h => ?_, fun h => ⟨fun h2 => ?_, fun h2 => ?_⟩⟩
  · have e : zfit S (zg S) (zc S) c = false := by unfold zfit; rw [h]; rfl
    rw [e] at hpost
    exact hpost
  · have e : zfit S (zg S) (zc S) c = false := by unfold zfit; rw [decide_eq_false (by omega), Bool.and_false]
    rw [e] at hpost
    exact hpost
  · rw [zfit_t.mpr ⟨h, by omega⟩] at hpost
    exact hpost
theorem c_comesAhead (E : rp_E) {M : rp_M} {S : rs_S} (hw : Wf S) (ht : tabM S (zg S) (zh S) M) {a b : Nat} (ha : a < 2 ^ zn S) (hb : b < 2 ^ zn S) : rp_C E YX6_comesAhead [.ref 155, .int (nI a), .int (nI b)] M (some (bI (pB (zahead S a b)))) M := by
  refine rp_C_of (fun post hpost => vX6_comesAhead E post M _ _ ?_)
  obtain ⟨v1, v2, v3, v4⟩ := tab_vals ht ha hw
  obtain ⟨u1, u2, u3, u4⟩ := tab_vals ht hb hw
  have h2 := hw.two
  have b1 := hw.heavy a (zg S)
  have b2 := hw.heavy b (zg S)
  have b3 := hw.worth a (zh S)
  have b4 := hw.worth b (zh S)
  rw [v1, v2, u1, u2, iI_eq (by omega) (by omega) (by omega) (by omega), iI_le (by omega) (by omega) (by omega) (by omega), nI_eq (by omega) (by omega), nI_leI (by omega) (by omega), nI_leI (by omega) (by omega)]
  have yes : zahead S a b → post (some 1) M := fun h => by
    rw [pB_t.mpr h] at hpost
    exact hpost
  have no : ¬ zahead S a b → post (some 0) M := fun h => by
    rw [pB_f.mpr h] at hpost
    exact hpost
  unfold zahead at yes no
  exact ⟨v4, u4, fun h => ⟨fun h2 => ⟨fun h3 => no (by omega), fun h3 => yes (by omega)⟩, fun h2 => ⟨fun h3 => no (by omega), fun h3 => yes (by omega)⟩⟩, fun h => ⟨fun h3 => no (by omega), fun h3 => yes (by omega)⟩⟩
theorem d6_forced (E : rp_E) {M : rp_M} {S : rs_S} (hw : Wf S) (hr : RM S (M 156)) (x y w : Int32) : rp_Run E YX6_forced [.ref 155, .int x, .int y, .int w] M (rp_P (fun v M' => v = a_forced S x y w ∧ scrM M M')) := by
  have hn := hw.n12
  have h2 := hw.two
  have ok : ∀ (v a : Int32), a = v → rp_P (fun v M' => v = a ∧ scrM M M') (some v) M := fun v a e => ⟨v, rfl, e.symm, scrM.rf M⟩
  refine vX6_forced E _ M x y w ⟨_, _, c_isChoice E hn hr.1 x, ?_⟩
  rw [bI_n, bI_0]
  refine ⟨fun hx => ok _ _ (if_neg (by rw [hx]; exact fun q => by cases q.1)), fun hx => ⟨_, _, c_isChoice E hn hr.1 y, ?_⟩⟩
  rw [bI_n, bI_0]
  refine ⟨fun hy => ⟨_, _, c_in E M _ _ _, ?_⟩, fun hy => ok _ _ (if_neg (by rw [hy]; exact fun q => by cases q.2))⟩
  have ea : a_forced S x y w = _ := if_pos ⟨hx, hy⟩
  rw [ea]
  clear ea
  rw [bI_n, bI_0, decide_eq_true_eq, decide_eq_false_iff_not, Int32.toInt_zero, show (1 : Int32).toInt = 1 by decide]
  refine ⟨fun hin => ⟨fun hxy => ⟨_, d_layOwn E hw hr, fun M1 q => ?_⟩, fun hxy => ok _ _ ((if_pos hin).trans (if_neg hxy))⟩, fun hin => ok _ _ (if_neg hin)⟩
  rw [if_pos hin, if_pos hxy]
  obtain ⟨a, ha, e⟩ := isI_of (by omega) hx
  obtain ⟨b, hb, e'⟩ := isI_of (by omega) hy
  rw [e, e', nI_clamp (by omega), nI_clamp (by omega)]
  obtain ⟨ht, hk⟩ := q
  have hr1 : RM S (M1 156) := by rw [hk 156 (by decide) (by decide) (by decide)]; exact hr
  have hsc := scr_tab hk
  generalize hpo : (rp_P (fun v M' => v = (match zforced S a b (2 ^ zn S) with | none => (-6) | some b => if w = 0 then nI b else iI (zworth S b (zh S)) + 100000) ∧ scrM M M')) = post
  suffices key : ∀ j, j ≤ 2 ^ zn S → rp_G E YX6_forced post 50 [.ref 155, .int (nI a), .int (nI b), .int w, .int (oM (zforced S a b j)), .int (nI j)] [] M1 from key 0 (Nat.zero_le _)
  refine up_loop (fun j hj ih => vX6_forced_50 E post M1 _ _ _ _ _ ?_)
  refine ⟨_, _, c_sets E hn hr1.1, ?_⟩
  have hlt : ∀ k, zforced S a b j = some k → k < 2 ^ zn S := fun k hk => by
    have := (bst_lt hk).1
    omega
  have hlt2 : ∀ k, zforced S a b j = some k → k < 2 ^ 31 := fun k hk => by
    have := hlt k hk
    omega
  rw [nI_leI (by omega) (by omega)]
  refine ⟨fun h3 => ?_, fun h3 => ?_⟩
  · have e : j = 2 ^ zn S := by omega
    subst e
    cases hz : zforced S a b (2 ^ zn S) with
    | none =>
      refine ⟨fun _ => ?_, fun q => absurd (by decide) q⟩
      rw [← hpo, hz]
      exact ⟨_, rfl, rfl, hsc⟩
    | some k =>
      obtain ⟨v1, v2, v3, v4⟩ := tab_vals ht (hlt k hz) hw
      refine ⟨fun q => absurd q (nI_pos (hlt2 k hz)), fun _ => ⟨fun q => ⟨v4, ?_⟩, fun q => ?_⟩⟩
      · show post (some (M1 161 (nI k).toNatClampNeg + 100000)) M1
        rw [v2, ← hpo, hz]
        exact ⟨_, rfl, (if_neg q).symm, hsc⟩
      · rw [← hpo, hz]
        exact ⟨_, rfl, (if_pos q).symm, hsc⟩
  have same : zforced S a b (j + 1) = zforced S a b j → rp_G E YX6_forced post 50 [.ref 155, .int (nI a), .int (nI b), .int w, .int (oM (zforced S a b j)), .int (nI j + 1)] [] M1 := fun e => by
    have h1 := ih (by omega)
    rw [e] at h1
    rw [nI_1]
    exact h1
  have take : zforced S a b (j + 1) = some j → rp_G E YX6_forced post 50 [.ref 155, .int (nI a), .int (nI b), .int w, .int (nI j), .int (nI j + 1)] [] M1 := fun e => by
    have h1 := ih (by omega)
    rw [e] at h1
    rw [nI_1]
    exact h1
  rw [nI_andnot (by omega) (by omega), and0 (by omega)]
  refine ⟨fun h4 => ?_, fun h4 => ⟨fun h5 => ?_, fun h5 => ⟨_, _, c_isGood E hw hr1 ht (by omega), ?_⟩⟩⟩
  · exact same (bst_no (fun q => by
      have := q.1
      rw [decide_eq_false h4] at this
      cases this))
  · exact same (bst_no (fun q => by
      have := q.1
      rw [decide_eq_false h5, Bool.false_and, Bool.and_false] at this
      cases this))
  rw [bI_n, bI_0]
  refine ⟨fun h6 => ?_, fun h6 => ?_⟩
  · exact same (bst_no (fun q => by
      have := q.1
      rw [h6, Bool.and_false, Bool.and_false] at this
      cases this))
  have hok : (decide (a &&& j = a) && (decide (b &&& j = 0) && zfit S (zg S) (zc S) j)) = true := by rw [decide_eq_true h4, decide_eq_true h5, h6]; rfl
  refine ⟨fun h7 => ?_, fun h7 => ?_⟩
  · have hk := (oM_neg hlt2).mp h7
    refine take (bst_yes ⟨hok, ?_⟩)
    show bbe _ _ j (zforced S a b j)
    rw [hk]
    trivial
  · cases hz : zforced S a b j with
    | none => exact absurd ((oM_neg hlt2).mpr hz) h7
    | some k =>
      have hkj := (bst_lt hz).1
      refine ⟨_, _, c_comesAhead E hw ht (by omega) (hlt k hz), ?_⟩
      rw [bI_n, bI_0, pB_f, pB_t]
      refine ⟨fun h8 => ?_, fun h8 => ?_⟩
      · have := same (bst_no (fun q => by
          have q2 : bbe _ _ j (zforced S a b j) := q.2
          rw [hz] at q2
          exact h8 (q2.elim Or.inl (fun q3 => Or.inr ⟨q3.1, Or.inl q3.2⟩))))
        rw [hz] at this
        exact this
      · refine take (bst_yes ⟨hok, ?_⟩)
        show bbe _ _ j (zforced S a b j)
        rw [hz]
        rcases h8 with h8 | ⟨h8, h9 | h9⟩
        · exact Or.inl h8
        · exact Or.inr ⟨h8, h9⟩
        · omega
