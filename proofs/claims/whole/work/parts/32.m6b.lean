/-! THE REFERENCE, 2: allowed choices, the tables -/
theorem nI_c {k j : Nat} : nI k + nI j = nI (k + j) := nI_add k j
theorem gM_neg {v : Nat} : gM v < 0 ↔ ¬ v < 4 := by
  unfold gM
  by_cases h : v < 4
  · rw [if_pos h]
    exact ⟨fun q => absurd q (nI_pos (by omega)), fun q => absurd h q⟩
  · rw [if_neg h]
    exact ⟨fun _ => h, fun _ => by decide⟩
theorem and0 {a b : Nat} (ha : a < 2 ^ 31) : nI a &&& nI b = 0 ↔ a &&& b = 0 := by
  rw [nI_and, show (0 : Int32) = nI 0 by rfl, nI_eq (Nat.lt_of_le_of_lt Nat.and_le_left ha) (by decide)]
theorem c_isAllowed (E : rp_E) {M : rp_M} {S : rs_S} (hw : Wf S) (hr : RM S (M 156)) {c : Nat} (hc : c < 2 ^ zn S) : rp_C E YX6_isAllowed [.ref 155, .int (nI c)] M (some (bI (zalB S c))) M := by
  refine rp_C_of (fun post hpost => vX6_isAllowed E post M _ ?_)
  have hn := hw.n12
  have h2 := hw.two
  suffices key : ∀ j, j ≤ zn S → ∀ gm, gm < 16 → (∀ g, g < 4 → (gm.testBit g = true ↔ ∃ i, i < j ∧ c.testBit i = true ∧ zp S 4 i = g)) → (∀ k, k < j → c.testBit k = true → zok S c k) → rp_G E YX6_isAllowed post 4 [.ref 155, .int (nI c), .int (nI gm), .int (nI j), .null] [] M from key 0 (Nat.zero_le _) 0 (by decide) (fun g _ => by simp) (fun k hk => by omega)
  refine up_loop (fun j hj ih gm hgm hg hok => vX6_isAllowed_4 E post M _ _ _ ?_)
  rw [hr.1, nI_leI (by omega) (by omega)]
  refine ⟨fun h => ?_, fun h => ⟨_, _, c_has E M (by omega) (by omega), fun hb => ?_, fun hb => ?_⟩⟩
  · have e : j = zn S := by omega
    subst e
    rw [show zalB S c = true from pB_t.mpr hok] at hpost
    exact hpost
  · rw [bI_0] at hb
    rw [nI_1]
    refine ih (by omega) gm hgm (fun g hg4 => ?_) (fun k hk hkb => ?_)
    · rw [hg g hg4]
      constructor
      · rintro ⟨i, h1, h2, h3⟩
        exact ⟨i, by omega, h2, h3⟩
      · rintro ⟨i, h1, h2, h3⟩
        have : i ≠ j := fun e => by rw [e, hb] at h2; cases h2
        exact ⟨i, by omega, h2, h3⟩
    · have : k ≠ j := fun e => by rw [e, hb] at hkb; cases hkb
      exact hok k (by omega) hkb
  · rw [bI_n] at hb
    obtain ⟨-, -, -, -, -, -, hg4, hf, hd, -⟩ := hw.it (show j < zn S by omega)
    have hM := hr.2.2.2.2 j (by omega)
    refine ⟨_, _, c_ofR E M (p := 4) (by omega) (by omega), ?_⟩
    rw [hM.2.1, show (64 : Int32) = nI 64 by rfl, show (76 : Int32) = nI 76 by rfl, nI_c, nI_c, nI_clamp (by omega), nI_clamp (by omega), hM.2.2.1, hM.2.2.2]
    rw [and0 (by omega), nI_andnot (by omega) (by omega)]
    refine ⟨nI_inb (by omega) (by omega), fun h3 => ?_, fun h3 => ⟨nI_inb (by omega) (by omega), fun h4 => ?_, fun h4 => ?_⟩⟩
    · rw [show zalB S c = false from pB_f.mpr (fun q => h3 (q j (by omega) hb).1)] at hpost
      exact hpost
    · rw [show zalB S c = false from pB_f.mpr (fun q => h4 (q j (by omega) hb).2.1)] at hpost
      exact hpost
    · have step : (zp S 4 j < 4 → gm.testBit (zp S 4 j) = false) → ∀ gm', gm' < 16 → (∀ g, g < 4 → (gm'.testBit g = true ↔ (gm.testBit g = true ∨ zp S 4 j = g))) → rp_G E YX6_isAllowed post 4 [.ref 155, .int (nI c), .int (nI gm'), .int (nI j + 1), .null] [] M := fun hfree gm' hgm' hg' => by
        rw [nI_1]
        refine ih (by omega) gm' hgm' (fun g hg4 => ?_) (fun k hk hkb => ?_)
        · rw [hg' g hg4, hg g hg4]
          constructor
          · rintro (⟨i, h1, h2, h3⟩ | h1)
            · exact ⟨i, by omega, h2, h3⟩
            · exact ⟨j, by omega, hb, h1⟩
          · rintro ⟨i, i1, i2, i3⟩
            by_cases e : i = j
            · rw [e] at i3
              exact Or.inr i3
            · exact Or.inl ⟨i, by omega, i2, i3⟩
        · by_cases e : k = j
          · subst e
            refine ⟨h3, h4, fun q i hi hib hie => ?_⟩
            have := hfree q
            rw [Bool.eq_false_iff] at this
            exact this ((hg _ q).mpr ⟨i, hi, hib, hie⟩)
          · exact hok k (by omega) hkb
      simp only [gM_neg]
      refine ⟨fun h5 => ⟨fun _ => ?_, fun h6 => absurd h5 h6⟩, fun h5 => ?_⟩
      · rw [show nI gm ||| 0 = nI gm from by rw [show (0 : Int32) = nI 0 by rfl, nI_or, Nat.or_zero]]
        refine step (fun q => absurd q h5) gm hgm (fun g hg4 => ?_)
        exact ⟨fun q => Or.inl q, fun q => q.elim id (fun e => absurd (by omega) h5)⟩
      · have h5 : zp S 4 j < 4 := Classical.byContradiction h5
        have e5 : gM (zp S 4 j) = nI (zp S 4 j) := if_pos h5
        rw [e5]
        refine ⟨_, _, c_has E M (by omega) (by omega), fun h6 => ⟨fun h7 => absurd h5 h7, fun _ => ?_⟩, fun h6 => ?_⟩
        · rw [bI_0] at h6
          rw [nI_one_shl (by omega), nI_or]
          refine step (fun _ => h6) _ (Nat.or_lt_two_pow (n := 4) hgm (Nat.pow_lt_pow_right (by omega) h5)) (fun g hg4 => ?_)
          rw [Nat.testBit_or, Nat.testBit_two_pow]
          simp
        · rw [bI_n] at h6
          obtain ⟨i, h7, h8, h9⟩ := (hg _ h5).mp h6
          rw [show zalB S c = false from pB_f.mpr (fun q => (q j (by omega) hb).2.2 h5 i h7 h8 h9)] at hpost
          exact hpost
theorem rp_s_at (M : rp_M) (k i : Nat) (x : Int32) : rp_s M k i x k i = x := if_pos ⟨rfl, rfl⟩
theorem rp_s_ne {M : rp_M} {k i q j : Nat} {x : Int32} (h : ¬ (q = k ∧ j = i)) : rp_s M k i x q j = M q j := if_neg h
theorem rp_s_cell {M : rp_M} {k i q : Nat} {x : Int32} (h : q ≠ k) : rp_s M k i x q = M q := by
  funext j
  exact if_neg (fun z => h z.1)
theorem d_layTables (E : rp_E) {M : rp_M} {S : rs_S} (hw : Wf S) (hr : RM S (M 156)) {g h : Nat} (hg : g ≤ 12) (hh : h ≤ 12) : rp_Run E YX6_layTables [.ref 155, .int (nI g), .int (nI h)] M (rp_P0 (fun M' => tabM S g h M' ∧ ∀ k, k ≠ 160 → k ≠ 161 → k ≠ 162 → M' k = M k)) := by
  refine vX6_layTables E _ M _ _ ?_
  have hn := hw.n12
  have h2 := hw.two
  suffices key : ∀ j, j ≤ 2 ^ zn S → ∀ M1 : rp_M, (∀ c, c < j → M1 160 c = nI (zheavy S c g) ∧ M1 161 c = iI (zworth S c h) ∧ M1 162 c = bI (zalB S c)) → (∀ k, k ≠ 160 → k ≠ 161 → k ≠ 162 → M1 k = M k) → rp_G E YX6_layTables (rp_P0 (fun M' => tabM S g h M' ∧ ∀ k, k ≠ 160 → k ≠ 161 → k ≠ 162 → M' k = M k)) 2 [.ref 155, .int (nI g), .int (nI h), .int (nI j)] [] M1 from key 0 (Nat.zero_le _) M (fun c hc => by omega) (fun _ _ _ _ => rfl)
  refine up_loop (fun j hj ih M1 ht hk => vX6_layTables_2 E _ M1 _ _ _ ?_)
  have e156 : M1 156 = M 156 := hk 156 (by decide) (by decide) (by decide)
  have hr1 : RM S (M1 156) := by rw [e156]; exact hr
  refine ⟨_, _, c_sets E hn hr1.1, ?_⟩
  rw [nI_leI (by omega) (by omega)]
  refine ⟨fun h3 => ?_, fun h3 => ?_⟩
  · have e : j = 2 ^ zn S := by omega
    subst e
    exact ⟨rfl, ht, hk⟩
  refine ⟨_, _, c_isAllowed E hw hr1 (by omega), nI_inb (by omega) (by omega), bI_vp _, ?_⟩
  rw [nI_clamp (by omega)]
  intro M2 e2
  have hr2 : RM S (M2 156) := by rw [e2, rp_s_cell (by decide)]; exact hr1
  refine ⟨_, _, c_protW E hw hr2 (by omega) hg, fun M3 e3 => ?_⟩
  have hr3 : RM S (M3 156) := by rw [e3, rp_s_cell (by decide)]; exact hr2
  refine ⟨_, _, c_protP E hw hr3 (by omega) hh, fun M4 e4 => ?_⟩
  rw [nI_1]
  refine ih (by omega) M4 (fun c hc => ?_) (fun k h5 h6 h7 => ?_)
  · rw [e4, e3, e2]
    by_cases e : c = j
    · subst e
      refine ⟨?_, ?_, ?_⟩
      · rw [rp_s_cell (by decide), rp_s_at]
      · rw [rp_s_at]
      · rw [rp_s_cell (by decide), rp_s_cell (by decide), rp_s_at]
    · obtain ⟨a1, a2, a3⟩ := ht c (by omega)
      refine ⟨?_, ?_, ?_⟩
      · rw [rp_s_cell (by decide), rp_s_ne (by omega), rp_s_cell (by decide), a1]
      · rw [rp_s_ne (by omega), rp_s_cell (by decide), rp_s_cell (by decide), a2]
      · rw [rp_s_cell (by decide), rp_s_cell (by decide), rp_s_ne (by omega), a3]
  · rw [e4, e3, e2, rp_s_cell h6, rp_s_cell h5, rp_s_cell h7]
    exact hk k h5 h6 h7
theorem d_layOwn (E : rp_E) {M : rp_M} {S : rs_S} (hw : Wf S) (hr : RM S (M 156)) : rp_Run E YX6_layOwnTables [.ref 155] M (rp_P0 (fun M' => tabM S (zg S) (zh S) M' ∧ ∀ k, k ≠ 160 → k ≠ 161 → k ≠ 162 → M' k = M k)) := by
  refine vX6_layOwnTables E _ M ?_
  rw [hr.2.2.1, hr.2.2.2.1]
  exact ⟨_, d_layTables E hw hr hw.2.2.1 hw.2.2.2.1, fun M1 q => ⟨rfl, q⟩⟩
theorem scr_tab {M M' : rp_M} (h : ∀ k, k ≠ 160 → k ≠ 161 → k ≠ 162 → M' k = M k) : scrM M M' :=
  ⟨fun k hk => h k (by omega) (by omega) (by omega), h _ (by decide) (by decide) (by decide), h _ (by decide) (by decide) (by decide), h _ (by decide) (by decide) (by decide), by rw [h 155 (by decide) (by decide) (by decide)], by rw [h 155 (by decide) (by decide) (by decide)]⟩
