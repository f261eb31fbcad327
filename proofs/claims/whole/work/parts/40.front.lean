/-! ANSWERS, 4: the frontier; and the reference's -/
def fstp (S : rs_S) (w : Nat) : Prop := stp (zalB S) (fun c => zworth S c (zh S)) (fun c => zheavy S c (zg S)) (2 ^ zn S) w
theorem sb_zbest (S : rs_S) (w : Nat) : sb (zalB S) (fun c => zworth S c (zh S)) (fun c => zheavy S c (zg S)) (2 ^ zn S) w = zbest S (zg S) (zh S) w := rfl
noncomputable def fwt (S : rs_S) (x : Int32) : Option Nat := @dite (Option Nat) (∃ u, u ≤ 9999 ∧ fstp S u ∧ x = nI (cntp (fstp S) u)) (Classical.propDecidable _) (fun h => some (Classical.choose h)) (fun _ => none)
theorem fwt_some {S : rs_S} {x : Int32} {u : Nat} (h1 : u ≤ 9999) (h2 : fstp S u) (h3 : x = nI (cntp (fstp S) u)) : fwt S x = some u := by
  have h : ∃ u, u ≤ 9999 ∧ fstp S u ∧ x = nI (cntp (fstp S) u) := ⟨u, h1, h2, h3⟩
  have e : fwt S x = some (Classical.choose h) := @dif_pos _ (Classical.propDecidable _) h _ _ _
  rw [e]
  obtain ⟨a1, a2, a3⟩ := Classical.choose_spec h
  have b1 := cntp_le (p := fstp S) u
  have b2 := cntp_le (p := fstp S) (Classical.choose h)
  have a4 := (nI_eq (by omega) (by omega)).mp (h3.symm.trans a3)
  rw [cntp_inj h2 a2 a4]
theorem fwt_none {S : rs_S} {x : Int32} (h : ∀ u, u ≤ 9999 → fstp S u → x ≠ nI (cntp (fstp S) u)) : fwt S x = none :=
  @dif_neg _ (Classical.propDecidable _) (fun ⟨u, a1, a2, a3⟩ => h u a1 a2 a3) _ _ _
noncomputable def a_frontier (S : rs_S) (x w : Int32) : Int32 :=
  if 0 ≤ w.toInt ∧ w.toInt ≤ 2 then
    (if x = (-1) then nI (cntp (fstp S) 10000) else
      match fwt S x with
      | none => (-6)
      | some u => if w = 0 then nI u else if w = 1 then iI (zworth S (zbest S (zg S) (zh S) u) (zh S)) + 100000 else nI (zbest S (zg S) (zh S) u))
  else (-2)
theorem lst_some {S : rs_S} {p : Int} : ∀ (m l : Nat), lst S p m = some l → (∃ c, c < m ∧ zalB S c = true ∧ p ≤ zworth S c (zh S) ∧ zheavy S c (zg S) = l) ∧ ∀ c, c < m → zalB S c = true → p ≤ zworth S c (zh S) → l ≤ zheavy S c (zg S)
  | 0, l, h => by cases h
  | m + 1, l, h => by
    by_cases q : zalB S m = true ∧ p ≤ zworth S m (zh S) ∧ zheavy S m (zg S) ≤ 9999 ∧ ∀ l, lst S p m = some l → zheavy S m (zg S) < l
    · rw [lst_yes q] at h
      cases h
      refine ⟨⟨m, by omega, q.1, q.2.1, rfl⟩, fun c hc h1 h2 => ?_⟩
      by_cases e : c = m
      · rw [e]
        exact Nat.le_refl _
      · cases hl : lst S p m with
        | some l =>
          have := (lst_some m l hl).2 c (by omega) h1 h2
          have := q.2.2.2 l hl
          omega
        | none =>
          have := lst_none' m hl c (by omega) h1 h2
          have := q.2.2.1
          omega
    · rw [lst_no q] at h
      obtain ⟨⟨c, c1, c2⟩, h2⟩ := lst_some m l h
      refine ⟨⟨c, by omega, c2⟩, fun c hc h1 h3 => ?_⟩
      by_cases e : c = m
      · subst e
        apply Classical.byContradiction
        intro z
        have hl9 := lst_le h
        exact q ⟨h1, h3, by omega, fun l2 hl2 => by rw [h] at hl2; cases hl2; omega⟩
      · exact h2 c (by omega) h1 h3
where
  lst_none' : ∀ (m : Nat), lst S p m = none → ∀ c, c < m → zalB S c = true → p ≤ zworth S c (zh S) → 9999 < zheavy S c (zg S)
    | 0, _, c, hc, _, _ => by omega
    | m + 1, h, c, hc, h1, h2 => by
      by_cases q : zalB S m = true ∧ p ≤ zworth S m (zh S) ∧ zheavy S m (zg S) ≤ 9999 ∧ ∀ l, lst S p m = some l → zheavy S m (zg S) < l
      · rw [lst_yes q] at h
        cases h
      · rw [lst_no q] at h
        by_cases e : c = m
        · subst e
          apply Classical.byContradiction
          intro z
          exact q ⟨h1, h2, by omega, fun l2 hl2 => by rw [h] at hl2; cases hl2⟩
        · exact lst_none' m h c (by omega) h1 h2
theorem c_nextStep (E : rp_E) {M : rp_M} {S : rs_S} (hw : Wf S) (hr : RM S (M 156)) (ht : tabM S (zg S) (zh S) M) {z : Int} (hz1 : -100000 ≤ z) (hz2 : z ≤ 100000) : rp_C E YX6_nextStep [.ref 155, .int (iI z)] M (some (oM (lst S (z + 1) (2 ^ zn S)))) M := by
  refine rp_C_of (fun post hpost => vX6_nextStep E post M _ ?_)
  have hn := hw.n12
  have h2 := hw.two
  suffices key : ∀ j, j ≤ 2 ^ zn S → rp_G E YX6_nextStep post 5 [.ref 155, .int (iI z), .int (oM (lst S (z + 1) j)), .int (nI j)] [] M from key 0 (Nat.zero_le _)
  refine up_loop (fun j hj ih => vX6_nextStep_5 E _ M _ _ _ ?_)
  refine ⟨_, _, c_sets E hn hr.1, ?_⟩
  rw [nI_leI (by omega) (by omega)]
  refine ⟨fun h3 => ?_, fun h3 => ?_⟩
  · have e : j = 2 ^ zn S := by omega
    subst e
    exact hpost
  obtain ⟨v1, v2, v3, v4⟩ := tab_vals ht (show j < 2 ^ zn S by omega) hw
  have b1 := hw.heavy j (zg S)
  have b3 := hw.worth j (zh S)
  have hlt : ∀ k, lst S (z + 1) j = some k → k < 2 ^ 31 := fun k hk => by
    have := lst_le hk
    omega
  have same : lst S (z + 1) (j + 1) = lst S (z + 1) j → rp_G E YX6_nextStep post 5 [.ref 155, .int (iI z), .int (oM (lst S (z + 1) j)), .int (nI j + 1)] [] M := fun e => by
    have h1 := ih (by omega)
    rw [e] at h1
    rw [nI_1]
    exact h1
  have take : lst S (z + 1) (j + 1) = some (zheavy S j (zg S)) → rp_G E YX6_nextStep post 5 [.ref 155, .int (iI z), .int (nI (zheavy S j (zg S))), .int (nI j + 1)] [] M := fun e => by
    have h1 := ih (by omega)
    rw [e] at h1
    rw [nI_1]
    exact h1
  rw [v1, v2, v3, show (9999 : Int32) = nI 9999 by rfl, nI_ltI (by omega) (by omega), iI_le (by omega) (by omega) (by omega) (by omega)]
  refine ⟨v4, fun h4 => ?_, fun h4 => ⟨fun h5 => ?_, fun h5 => ⟨fun h6 => ?_, fun h6 => ⟨fun h7 => ?_, fun h7 => ?_⟩⟩⟩⟩
  · rw [bI_0] at h4
    exact same (lst_no (fun q => by rw [h4] at q; cases q.1))
  · exact same (lst_no (fun q => by have := q.2.1; omega))
  · exact same (lst_no (fun q => by have := q.2.2.1; omega))
  · rw [bI_n] at h4
    have hk := (oM_neg hlt).mp h7
    exact take (lst_yes ⟨h4, by omega, by omega, fun l hl => by rw [hk] at hl; cases hl⟩)
  · rw [bI_n] at h4
    cases hk : lst S (z + 1) j with
    | none => exact absurd ((oM_neg hlt).mpr hk) h7
    | some l =>
      have hl := lst_le hk
      show (nI l ≤ nI (zheavy S j (zg S)) → _) ∧ (¬ nI l ≤ nI (zheavy S j (zg S)) → _)
      rw [nI_leI (by omega) (by omega)]
      refine ⟨fun h8 => ?_, fun h8 => ?_⟩
      · have := same (lst_no (fun q => by have := q.2.2.2 l hk; omega))
        rw [hk] at this
        exact this
      · exact take (lst_yes ⟨h4, by omega, by omega, fun l2 hl2 => by rw [hk] at hl2; cases hl2; omega⟩)
theorem fr0 (S : rs_S) : 0 < 2 ^ zn S ∧ zalB S 0 = true ∧ (fun c => zheavy S c (zg S)) 0 = 0 := ⟨Nat.two_pow_pos _, zal0 S, zheavy0 S _⟩
theorem d6_frontier (E : rp_E) {M : rp_M} {S : rs_S} (hw : Wf S) (hr : RM S (M 156)) (x w : Int32) : rp_Run E YX6_frontier [.ref 155, .int x, .int w] M (rp_P (fun v M' => v = a_frontier S x w ∧ scrM M M')) := by
  have hn := hw.n12
  have h2 := hw.two
  refine vX6_frontier E _ M x w ⟨_, _, c_in E M _ _ _, ?_⟩
  rw [bI_n, bI_0, decide_eq_true_eq, decide_eq_false_iff_not, Int32.toInt_zero, show (2 : Int32).toInt = 2 by decide]
  refine ⟨fun hin => ⟨_, d_layOwn E hw hr, fun M1 q => ?_⟩, fun hin => ⟨_, rfl, (if_neg hin).symm, scrM.rf M⟩⟩
  obtain ⟨ht, hk⟩ := q
  have hr1 : RM S (M1 156) := by rw [hk 156 (by decide) (by decide) (by decide)]; exact hr
  have hsc := scr_tab hk
  have ea : a_frontier S x w = _ := if_pos hin
  rw [ea]
  clear ea
  generalize hpo : (rp_P (fun v M' => v = (if x = (-1) then nI (cntp (fstp S) 10000) else match fwt S x with | none => (-6) | some u => if w = 0 then nI u else if w = 1 then iI (zworth S (zbest S (zg S) (zh S) u) (zh S)) + 100000 else nI (zbest S (zg S) (zh S) u)) ∧ scrM M M')) = post
  obtain ⟨r1, r2, r3⟩ := fr0 S
  suffices key : ∀ f u, 9999 - u < f → u ≤ 9999 → fstp S u → (∀ u', u' < u → fstp S u' → x ≠ nI (cntp (fstp S) u')) → rp_G E YX6_frontier post 21 [.ref 155, .int x, .int w, .int (nI (cntp (fstp S) u)), .int (nI u)] [] M1 from key 10000 0 (by omega) (by omega) (Or.inl rfl) (fun u' h => by omega)
  intro f
  induction f with
  | zero => exact fun u h => by omega
  | succ f ih =>
    intro u hf hu hs hpre
    have hcl := cntp_le (p := fstp S) u
    have hbl := zbest_lt S (zg S) (zh S) u
    refine vX6_frontier_21 E post M1 _ _ _ _ ?_
    refine ⟨fun q => absurd q (nI_pos (by omega)), fun _ => ⟨fun hx => ⟨fun _ => ?_, fun q => absurd (nI_pos' (by omega)) q⟩, fun hx => ⟨_, _, c_bestBy E hw hr1 ht (by omega), ?_⟩⟩⟩
    · have hx1 : ¬ x = (-1) := fun e => by
        rw [e] at hx
        have := congrArg Int32.toInt hx
        rw [nI_toInt (by omega)] at this
        rw [show (-1 : Int32).toInt = -1 by decide] at this
        omega
      have hf := fwt_some hu hs hx.symm
      refine ⟨fun h0 => ⟨fun h1 => ⟨_, _, c_bestBy E hw hr1 ht (by omega), ?_⟩, fun h1 => ⟨_, _, c_bestBy E hw hr1 ht (by omega), ?_⟩⟩, fun h0 => ?_⟩
      · rw [← hpo, if_neg hx1, hf]
        refine ⟨_, rfl, ?_, hsc⟩
        show _ = if w = 0 then nI u else if w = 1 then iI (zworth S (zbest S (zg S) (zh S) u) (zh S)) + 100000 else nI (zbest S (zg S) (zh S) u)
        rw [if_neg h0, if_neg h1]
      · obtain ⟨v1, v2, v3, v4⟩ := tab_vals ht hbl hw
        refine ⟨v4, ?_⟩
        rw [v2, ← hpo, if_neg hx1, hf]
        refine ⟨_, rfl, ?_, hsc⟩
        show _ = if w = 0 then nI u else if w = 1 then iI (zworth S (zbest S (zg S) (zh S) u) (zh S)) + 100000 else nI (zbest S (zg S) (zh S) u)
        rw [if_neg h0, if_pos h1]
      · rw [← hpo, if_neg hx1, hf]
        refine ⟨_, rfl, ?_, hsc⟩
        show _ = if w = 0 then nI u else if w = 1 then iI (zworth S (zbest S (zg S) (zh S) u) (zh S)) + 100000 else nI (zbest S (zg S) (zh S) u)
        rw [if_pos h0]
    · obtain ⟨v1, v2, v3, v4⟩ := tab_vals ht hbl hw
      have b3 := hw.worth (zbest S (zg S) (zh S) u) (zh S)
      refine ⟨v4, ?_⟩
      rw [v2]
      refine ⟨_, _, c_nextStep E hw hr1 ht (by omega) (by omega), ?_⟩
      have hpre2 : ∀ u', u' ≤ u → fstp S u' → x ≠ nI (cntp (fstp S) u') := fun u' h1 h2 => by
        by_cases e : u' = u
        · subst e
          exact fun z => hx z.symm
        · exact hpre u' (by omega) h2
      cases hl : lst S (zworth S (zbest S (zg S) (zh S) u) (zh S) + 1) (2 ^ zn S) with
      | some l =>
        obtain ⟨⟨c, c1, c2, c3, c4⟩, c5⟩ := lst_some _ _ hl
        have hl9 := lst_le hl
        obtain ⟨n1, n2, n3⟩ := stp_next (V := fun c => zworth S c (zh S)) (W := fun c => zheavy S c (zg S)) (w := u) (u := l) r1 r2 r3 ⟨c, c1, c2, by rw [sb_zbest]; show zworth S _ _ < zworth S _ _; omega, c4⟩ (fun c h1 h2 h3 => c5 c h1 h2 (by rw [sb_zbest] at h3; have h3 : zworth S _ _ < zworth S _ _ := h3; omega))
        have hc := cntp_step (p := fstp S) n1 hs n3
        have := ih l (by omega) hl9 n2 (fun u' h1 h2 => by
          by_cases e : u' ≤ u
          · exact hpre2 u' e h2
          · exact absurd h2 (n3 u' (by omega) h1))
        rw [hc] at this
        rw [nI_1]
        exact this
      | none =>
        have hne := lst_some.lst_none' _ hl
        have hend := stp_end (V := fun c => zworth S c (zh S)) (W := fun c => zheavy S c (zg S)) (w := u) (T := 9999) r1 r2 r3 (fun c h1 h2 h3 => hne c h1 h2 (by rw [sb_zbest] at h3; have h3 : zworth S _ _ < zworth S _ _ := h3; omega))
        have hc := cntp_step (p := fstp S) (show u < 10000 by omega) hs (fun x h1 h2 => hend x h1 (by omega))
        refine vX6_frontier_21 E post M1 _ _ _ _ ?_
        refine ⟨fun _ => ⟨fun q => absurd q (by decide), fun _ => ⟨fun hx1 => ?_, fun hx1 => ?_⟩⟩, fun q => absurd (by decide) q⟩
        · rw [← hpo, if_neg hx1, fwt_none (fun u' h1 h2 => by
            by_cases e : u' ≤ u
            · exact hpre2 u' e h2
            · exact absurd h2 (hend u' (by omega) h1))]
          exact ⟨_, rfl, rfl, hsc⟩
        · rw [← hpo, if_pos hx1, hc, nI_1]
          exact ⟨_, rfl, rfl, hsc⟩
