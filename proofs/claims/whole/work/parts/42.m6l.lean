/-! THE REFERENCE, 6: the levels' lists -/
theorem oI_lt {z : Int} (h1 : -2147483648 ≤ z) (h2 : z < 2147483648) {n : Nat} (hn : n < 2147483648) : nI n ≤ iI z ↔ (n : Int) ≤ z := by
  rw [← iI_nat, iI_le (by omega) (by omega) (by omega) (by omega)]
theorem d_layList (E : rp_E) {M : rp_M} {S : rs_S} (hw : Wf S) (hr : RM S (M 156)) {l : Nat} (hl : l ≤ zn S) : rp_Run E YX6_layList [.ref 155, .int (nI l)] M (rp_P0 (fun M' => LL S l M' ∧ scrM M M')) := by
  have hn := hw.n12
  have h2 := hw.two
  have hl2 : 2 ^ l ≤ 4096 := Nat.le_trans (Nat.pow_le_pow_right (by omega) hl) h2
  have hcap := hw.2.1
  refine vX6_layList E _ M _ ?_
  rw [nI_one_shl (by omega)]
  generalize hpo : (rp_P0 (fun M' => LL S l M' ∧ scrM M M')) = post
  suffices key : ∀ j, j ≤ 2 ^ l → ∀ M1 : rp_M, (∀ c, c < j → M1 160 c = nI (lW S c) ∧ M1 163 c = nI (zsum S 0 c)) → (∀ k, k ≠ 160 → k ≠ 163 → M1 k = M k) → rp_G E YX6_layList post 6 [.ref 155, .null, .int (nI (2 ^ l)), .int (nI j), .null, .null, .null] [] M1 from key 0 (Nat.zero_le _) M (fun c hc => by omega) (fun _ _ _ => rfl)
  refine up_loop (fun j hj ih M1 ht hk => vX6_layList_6 E _ M1 _ _ ?_)
  have hr1 : RM S (M1 156) := by rw [hk 156 (by decide) (by decide)]; exact hr
  rw [nI_leI (by omega) (by omega)]
  refine ⟨fun h3 M2 e2 => ?_, fun h3 => ⟨_, _, c_sum E hw hr1 (p := 0) (by omega) (by omega), nI_inb (by omega) (by omega), ?_⟩⟩
  · have e : j = 2 ^ l := by omega
    subst e
    -- the main loop
    suffices key : ∀ f v, zc S + 1 - v < f → v ≤ zc S + 1 → ∀ M3 : rp_M, M3 155 14 = nI (cntp (lstp S l) v) → (∀ u, u < v → lstp S l u → M3 164 (cntp (lstp S l) u) = nI (lsb S l u)) → (∀ c, c < 2 ^ l → M3 160 c = nI (lW S c) ∧ M3 163 c = nI (zsum S 0 c)) → scrM M M3 → ∀ nx : Nat, nx < 2 ^ 31 → rp_G E YX6_layList post 56 [.ref 155, .null, .int (nI (2 ^ l)), .int (iI (lpv S l v)), .int (nI nx), .null, .null] [] M3 by
      have hsc : scrM M M2 := by
        refine ⟨fun k hk2 => ?_, ?_, ?_, ?_, ?_, ?_⟩
        · rw [e2, rp_s_cell (by omega), hk k (by omega) (by omega)]
        · rw [e2, rp_s_cell (by decide), hk _ (by decide) (by decide)]
        · rw [e2, rp_s_cell (by decide), hk _ (by decide) (by decide)]
        · rw [e2, rp_s_cell (by decide), hk _ (by decide) (by decide)]
        · rw [e2, rp_s_ne (by decide), hk _ (by decide) (by decide)]
        · rw [e2, rp_s_ne (by decide), hk _ (by decide) (by decide)]
      exact key (zc S + 2) 0 (by omega) (by omega) M2 (by rw [e2, rp_s_at]; rfl) (fun u hu => by omega) (fun c hc => by rw [e2, rp_s_cell (by decide), rp_s_cell (by decide)]; exact ht c hc) hsc 0 (by decide)
    intro f
    induction f with
    | zero => exact fun v h => by omega
    | succ f ihf =>
      intro v hf hv M3 q1 q2 q3 q4 nx hnx
      have hr3 : RM S (M3 156) := by rw [q4.2.1]; exact hr
      refine vX6_layList_56 E _ M3 _ _ _ ⟨fun q => absurd q (nI_pos hnx), fun _ => ?_⟩
      have hcv := lstp_le S l v
      have hpl : -1 ≤ lpv S l v ∧ lpv S l v ≤ 11988 := by
        unfold lpv
        split
        · omega
        · have h5 := lV_nn S (lsb S l (v - 1))
          have h6 := hw.sum (p := 0) (by omega) (lsb S l (v - 1))
          unfold lV at *
          omega
      suffices key : ∀ j, j ≤ 2 ^ l → rp_G E YX6_layList post 68 [.ref 155, .null, .int (nI (2 ^ l)), .int (iI (lpv S l v)), .int (oM (inx S (lpv S l v) j)), .int (nI j), .null] [] M3 from key 0 (Nat.zero_le _)
      refine up_loop (fun j hj ihj => vX6_layList_68 E _ M3 _ _ _ _ ?_)
      rw [nI_leI (by omega) (by omega)]
      refine ⟨fun h3 => ?_, fun h3 => ?_⟩
      · have e : j = 2 ^ l := by omega
        subst e
        cases hx : inx S (lpv S l v) (2 ^ l) with
        | none =>
          refine ⟨fun _ => ?_, fun q => absurd (by decide) q⟩
          refine vX6_layList_56 E _ M3 _ _ _ ⟨fun _ => ?_, fun q => absurd (by decide) q⟩
          have hend := inx_end hx
          rw [← hpo]
          refine ⟨rfl, ⟨?_, fun u hu hs => ?_, q3⟩, q4⟩
          · rw [q1, cntp_flat hv (fun x hx1 hx2 => hend x hx1 (by omega))]
          · by_cases e : u < v
            · exact q2 u e hs
            · exact absurd hs (hend u (by omega) hu)
        | some b =>
          obtain ⟨s1, s2, s3, s4, s5⟩ := inx_step hx
          have hb := (inx_some _ _ hx).1
          refine ⟨fun q => absurd q (nI_pos (by omega)), fun _ => ?_⟩
          have hcn : cntp (lstp S l) (lW S b) = cntp (lstp S l) v := cntp_flat s1 (fun x hx1 hx2 => s4 x hx1 hx2)
          have hcn2 : cntp (lstp S l) (lW S b + 1) = cntp (lstp S l) v + 1 := by
            show cntp (lstp S l) (lW S b) + _ = _
            rw [if_pos (pB_t.mpr s2), hcn]
          have hcl := lstp_le S l (lW S b + 1)
          rw [q1, nI_clamp (by omega)]
          refine ⟨nI_inb (by omega) (by omega), fun M4 e4 M5 e5 => ⟨nI_inb (by omega) (by omega), ?_⟩⟩
          have ev : M5 163 (nI b).toNatClampNeg = iI (lpv S l (lW S b + 1)) := by
            rw [nI_clamp (by omega), e5, e4, rp_s_cell (by decide), rp_s_cell (by decide), (q3 b hb).2]
            unfold lpv
            rw [if_neg (by omega), Nat.add_sub_cancel, s3, ← iI_nat]
            rfl
          show rp_G E YX6_layList post 56 [.ref 155, .null, .int (nI (2 ^ l)), .int (M5 163 (nI b).toNatClampNeg), .int (nI b), .null, .null] [] M5
          rw [ev]
          refine ihf (lW S b + 1) (by omega) (by omega) M5 ?_ (fun u hu hs => ?_) (fun c hc => ?_) ?_ b (by omega)
          · rw [e5, rp_s_at, e4, rp_s_cell (by decide), q1, nI_1, hcn2]
          · by_cases e : u < v
            · have hlt : cntp (lstp S l) u ≠ cntp (lstp S l) v := fun z => by
                have := cntp_inj hs s2 (z.trans hcn.symm)
                omega
              rw [e5, rp_s_cell (by decide), e4, rp_s_ne (by omega)]
              exact q2 u e hs
            · have e6 : u = lW S b := by
                apply Classical.byContradiction
                intro z
                exact s4 u (by omega) (by omega) hs
              rw [e6, hcn, e5, rp_s_cell (by decide), e4, s3]
              exact rp_s_at _ _ _ _
          · rw [e5, rp_s_cell (by decide), rp_s_cell (by decide), e4, rp_s_cell (by decide), rp_s_cell (by decide)]
            exact q3 c hc
          · refine scrM.tr q4 ⟨fun k hk2 => ?_, ?_, ?_, ?_, ?_, ?_⟩
            · rw [e5, rp_s_cell (by omega), e4, rp_s_cell (by omega)]
            · rw [e5, rp_s_cell (by decide), e4, rp_s_cell (by decide)]
            · rw [e5, rp_s_cell (by decide), e4, rp_s_cell (by decide)]
            · rw [e5, rp_s_cell (by decide), e4, rp_s_cell (by decide)]
            · rw [e5, rp_s_ne (by decide), e4, rp_s_cell (by decide)]
            · rw [e5, rp_s_ne (by decide), e4, rp_s_cell (by decide)]
      · have hlt : ∀ k, inx S (lpv S l v) j = some k → k < 2 ^ 31 := fun k hk2 => by
          have := (inx_some _ _ hk2).1
          omega
        have same : inx S (lpv S l v) (j + 1) = inx S (lpv S l v) j → rp_G E YX6_layList post 68 [.ref 155, .null, .int (nI (2 ^ l)), .int (iI (lpv S l v)), .int (oM (inx S (lpv S l v) j)), .int (nI j + 1), .null] [] M3 := fun e => by
          have h1 := ihj (by omega)
          rw [e] at h1
          rw [nI_1]
          exact h1
        have take : inx S (lpv S l v) (j + 1) = some j → rp_G E YX6_layList post 68 [.ref 155, .null, .int (nI (2 ^ l)), .int (iI (lpv S l v)), .int (nI j), .int (nI j + 1), .null] [] M3 := fun e => by
          have h1 := ihj (by omega)
          rw [e] at h1
          rw [nI_1]
          exact h1
        have b1 : lW S j ≤ 23976 := hw.heavy j (zg S)
        have b2 := hw.sum (p := 0) (by omega) j
        rw [nI_clamp (by omega), (q3 j (by omega)).1, (q3 j (by omega)).2, hr3.2.1, nI_ltI (by omega) (by omega), oI_lt (by omega) (by omega) (by omega)]
        refine ⟨nI_inb (by omega) (by omega), fun h4 => ?_, fun h4 => ⟨fun h5 => ?_, fun h5 => ⟨fun h6 => ?_, fun h6 => ?_⟩⟩⟩
        · exact same (inx_no (fun z => by have := z.1; omega))
        · exact same (inx_no (fun z => by have := z.2.1; unfold lV at this; omega))
        · have hn0 := (oM_neg hlt).mp h6
          exact take (inx_yes ⟨by omega, by unfold lV; omega, fun b hb => by rw [hn0] at hb; cases hb⟩)
        · cases hx : inx S (lpv S l v) j with
          | none => exact absurd ((oM_neg hlt).mpr hx) h6
          | some b =>
            have hb := (inx_some _ _ hx).1
            have b3 : lW S b ≤ 23976 := hw.heavy b (zg S)
            have b4 := hw.sum (p := 0) (by omega) b
            have hsame := same
            rw [hx] at hsame
            show vp_in (nI b) 4096 ∧ ((nI (lW S j) < M3 160 (nI b).toNatClampNeg → _) ∧ (¬ nI (lW S j) < M3 160 (nI b).toNatClampNeg → ((¬ nI (lW S j) = M3 160 (nI b).toNatClampNeg → _) ∧ (nI (lW S j) = M3 160 (nI b).toNatClampNeg → ((nI (zsum S 0 j) ≤ M3 163 (nI b).toNatClampNeg → _) ∧ (¬ nI (zsum S 0 j) ≤ M3 163 (nI b).toNatClampNeg → _))))))
            rw [nI_clamp (by omega), (q3 b (by omega)).1, (q3 b (by omega)).2, nI_ltI (by omega) (by omega), nI_eq (by omega) (by omega), nI_leI (by omega) (by omega)]
            refine ⟨nI_inb (by omega) (by omega), fun h7 => ?_, fun h7 => ⟨fun h8 => ?_, fun h8 => ⟨fun h9 => ?_, fun h9 => ?_⟩⟩⟩
            · exact take (inx_yes ⟨by omega, by unfold lV; omega, fun b2 hb2 => by rw [hx] at hb2; cases hb2; exact Or.inl h7⟩)
            · exact hsame ((inx_no (fun z => by have := z.2.2 b hx; omega)).trans hx)
            · exact hsame ((inx_no (fun z => by have := z.2.2 b hx; unfold lV at this; omega)).trans hx)
            · exact take (inx_yes ⟨by omega, by unfold lV; omega, fun b2 hb2 => by rw [hx] at hb2; cases hb2; exact Or.inr ⟨h8, by unfold lV; omega⟩⟩)
  · rw [nI_clamp (by omega)]
    intro M2 e2
    have hr2 : RM S (M2 156) := by rw [e2, rp_s_cell (by decide)]; exact hr1
    rw [hr2.2.2.1]
    refine ⟨_, _, c_protW E hw hr2 (by omega) hw.2.2.1, fun M3 e3 => ?_⟩
    rw [nI_1]
    refine ih (by omega) M3 (fun c hc => ?_) (fun k h5 h6 => ?_)
    · rw [e3, e2]
      by_cases e : c = j
      · subst e
        exact ⟨rp_s_at _ _ _ _, by rw [rp_s_cell (by decide)]; exact rp_s_at _ _ _ _⟩
      · obtain ⟨a1, a2⟩ := ht c (by omega)
        refine ⟨?_, ?_⟩
        · rw [rp_s_ne (by omega), rp_s_cell (by decide), a1]
        · rw [rp_s_cell (by decide), rp_s_ne (by omega), a2]
    · rw [e3, e2, rp_s_cell h5, rp_s_cell h6]
      exact hk k h5 h6
theorem d6_list (E : rp_E) {M : rp_M} {S : rs_S} (hw : Wf S) (hr : RM S (M 156)) (x y : Int32) : rp_Run E YX6_list [.ref 155, .int x, .int y] M (rp_P (fun v M' => v = a_list S x y ∧ scrM M M')) := by
  have hn := hw.n12
  have h2 := hw.two
  have hcap := hw.2.1
  refine vX6_list E _ M x y ⟨_, _, c_in E M _ _ _, ?_⟩
  rw [hr.1, bI_n, bI_0, decide_eq_true_eq, decide_eq_false_iff_not, Int32.toInt_zero, nI_toInt (by omega)]
  refine ⟨fun hin => ?_, fun hin => ⟨_, rfl, (if_neg hin).symm, scrM.rf M⟩⟩
  have ea : a_list S x y = _ := if_pos hin
  rw [ea]
  clear ea
  have c1 := clamp_int hin.1
  have e1 := toNat_nI hin.1
  generalize x.toNatClampNeg = l at *
  rw [e1]
  have hl : l ≤ zn S := by omega
  have hl2 : 2 ^ l ≤ 4096 := Nat.le_trans (Nat.pow_le_pow_right (by omega) hl) h2
  refine ⟨_, d_layList E hw hr hl, fun M1 q => ?_⟩
  obtain ⟨⟨q1, q2, q3⟩, hsc⟩ := q
  have hle := lstp_le S l (zc S + 1)
  rw [q1]
  refine ⟨fun hy => ⟨_, _, c_in E M1 _ _ _, ?_⟩, fun hy => ⟨_, rfl, (if_pos hy).symm, hsc⟩⟩
  rw [if_neg hy, bI_n, bI_0, decide_eq_true_eq, decide_eq_false_iff_not, Int32.toInt_zero, nI_m1 (by omega)]
  refine ⟨fun h3 => ?_, fun h3 => ?_⟩
  · rw [gwt_none (fun u hu hs e => h3 ?_)]
    · exact ⟨_, rfl, rfl, hsc⟩
    · have h4 : cntp (lstp S l) u < cntp (lstp S l) (zc S + 1) := cntp_up hs (by omega)
      rw [e, nI_toInt (by omega)]
      omega
  · have c2 := clamp_int h3.1
    have e2 := toNat_nI h3.1
    generalize y.toNatClampNeg = i at *
    obtain ⟨u, u1, u2, u3⟩ := cntp_get (p := lstp S l) (N := zc S + 1) (i := i) (by omega)
    rw [e2, gwt_some (by omega) (show u ≤ zc S by omega) u2 (by rw [u3]), ← u3, q2 u (by omega) u2]
    exact ⟨nI_inb (by omega) (by omega), _, rfl, rfl, hsc⟩
theorem d6_dominator (E : rp_E) {M : rp_M} {S : rs_S} (hw : Wf S) (hr : RM S (M 156)) (x y : Int32) : rp_Run E YX6_dominator [.ref 155, .int x, .int y] M (rp_P (fun v M' => v = a_dom S x y ∧ scrM M M')) := by
  have hn := hw.n12
  have h2 := hw.two
  have hcap := hw.2.1
  refine vX6_dominator E _ M x y ⟨_, _, c_in E M _ _ _, ?_⟩
  rw [hr.1, bI_n, bI_0, decide_eq_true_eq, decide_eq_false_iff_not, Int32.toInt_zero, nI_toInt (by omega)]
  refine ⟨fun hin => ⟨_, rfl, (if_neg (fun q => hin q.1)).symm, scrM.rf M⟩, fun hin => ⟨_, _, c_in E M _ _ _, ?_⟩⟩
  have c1 := clamp_int hin.1
  have e1 := toNat_nI hin.1
  have hl : x.toNatClampNeg ≤ zn S := by omega
  unfold a_dom
  generalize x.toNatClampNeg = l at *
  have hl2 : 2 ^ l ≤ 4096 := Nat.le_trans (Nat.pow_le_pow_right (by omega) hl) h2
  have hx := hin
  rw [e1, nI_one_shl (by omega), nI_m1 (by omega), bI_n, bI_0, decide_eq_true_eq, decide_eq_false_iff_not, Int32.toInt_zero]
  rw [nI_toInt (by omega)]
  have hin2 : 0 ≤ (l : Int) ∧ (l : Int) ≤ (zn S : Int) := by omega
  have hiff : isI (2 ^ l) y = true ↔ (0 ≤ y.toInt ∧ y.toInt ≤ ((2 ^ l : Nat) : Int) - 1) := by
    unfold isI
    rw [decide_eq_true_eq]
    omega
  rw [← hiff]
  refine ⟨fun hy => ?_, fun hy => ⟨_, rfl, (if_neg (fun q => hy q.2)).symm, scrM.rf M⟩⟩
  refine ⟨_, d_layList E hw hr hl, fun M1 q => ?_⟩
  obtain ⟨⟨q1, q2, q3⟩, hsc⟩ := q
  have hr1 : RM S (M1 156) := by rw [hsc.2.1]; exact hr
  obtain ⟨c, hc, e2⟩ := isI_of (by omega) hy
  rw [if_pos ⟨hin2, hy⟩, e2, nI_clamp (by omega), (q3 c hc).1, hr1.2.1]
  have b1 : lW S c ≤ 23976 := hw.heavy c (zg S)
  rw [nI_leI (by omega) (by omega)]
  refine ⟨nI_inb (by omega) (by omega), fun hfit => ?_, fun hfit => ⟨_, rfl, (if_neg hfit).symm, hsc⟩⟩
  rw [if_pos hfit]
  obtain ⟨g1, g2, g3⟩ := lge_spec hw hc
  have g4 := lge_stp hw hc
  generalize hpo : (rp_P (fun v M' => v = (if lsb S l (lge S l c) = c then (-6) else nI (lsb S l (lge S l c))) ∧ scrM M M')) = post
  have hle := lstp_le S l (zc S + 1)
  have hlsb : ∀ u, lsb S l u < 2 ^ l := fun u => (lsb_opt S l u).1
  suffices key : ∀ j, j ≤ cntp (lstp S l) (zc S + 1) → (∀ u, u ≤ zc S → lstp S l u → cntp (lstp S l) u < j → lsb S l u ≠ c) → rp_G E YX6_dominator post 54 [.ref 155, .null, .int (nI c), .int (nI j)] [] M1 from key 0 (Nat.zero_le _) (fun u _ _ h => by omega)
  refine up_loop (fun j hj ih hpre => vX6_dominator_54 E post M1 _ _ ?_)
  rw [q1, nI_leI (by omega) (by omega)]
  refine ⟨fun h3 => ?_, fun h3 => ?_⟩
  · -- not in the list: the first one with at least its profit
    have hnot : lsb S l (lge S l c) ≠ c := hpre _ (by omega) g4 (by have := cntp_up g4 (show lge S l c < zc S + 1 by omega); omega)
    have hcg := cntp_up g4 (show lge S l c < zc S + 1 by omega)
    suffices key : ∀ i, i ≤ cntp (lstp S l) (lge S l c) → rp_G E YX6_dominator post 83 [.ref 155, .null, .int (nI c), .int (nI i)] [] M1 from key 0 (Nat.zero_le _)
    refine up_loop (fun i hi ihi => vX6_dominator_83 E post M1 _ _ ?_)
    obtain ⟨u, u1, u2, u3⟩ := cntp_get (p := lstp S l) (N := zc S + 1) (i := i) (by omega)
    have hu := hlsb u
    rw [nI_clamp (show i < 2 ^ 31 by omega), ← u3, q2 u (by omega) u2, nI_clamp (show c < 2 ^ 31 by omega), nI_clamp (show lsb S l u < 2 ^ 31 by omega), (q3 _ hu).1, (q3 _ hu).2, (q3 c hc).1, (q3 c hc).2]
    have b2 := hw.sum (p := 0) (by omega) (lsb S l u)
    have b3 := hw.sum (p := 0) (by omega) c
    have b4 : lW S (lsb S l u) ≤ 23976 := hw.heavy _ (zg S)
    rw [nI_ltI (by omega) (by omega), nI_leI (by omega) (by omega)]
    refine ⟨nI_inb (by omega) (by omega), nI_inb (by omega) (by omega), nI_inb (by omega) (by omega), fun h4 => ?_, fun h4 => ?_⟩
    · have hlt : i < cntp (lstp S l) (lge S l c) := by
        apply Classical.byContradiction
        intro z
        have e : u = lge S l c := cntp_inj u2 g4 (by omega)
        rw [e] at h4
        unfold lV at g1
        omega
      have := ihi hlt
      rw [u3, nI_1]
      exact this
    · have e : u = lge S l c := by
        apply Classical.byContradiction
        intro z
        have hlt : cntp (lstp S l) u ≠ cntp (lstp S l) (lge S l c) := fun y => z (cntp_inj u2 g4 y)
        have hul : u < lge S l c := by
          apply Classical.byContradiction
          intro z2
          have := cntp_up g4 (show lge S l c < u by omega)
          omega
        have := g2 u hul
        unfold lV at this
        omega
      subst e
      have hWu := lstp_W u2
      refine ⟨fun _ => ?_, fun h5 => absurd (by omega) h5⟩
      rw [← hpo]
      exact ⟨_, rfl, (if_neg hnot).symm, hsc⟩
  · obtain ⟨u, u1, u2, u3⟩ := cntp_get (p := lstp S l) (N := zc S + 1) (i := j) (by omega)
    have hu := hlsb u
    rw [nI_clamp (by omega), ← u3, q2 u (by omega) u2, nI_eq (by omega) (by omega), u3]
    refine ⟨nI_inb (by omega) (by omega), fun h4 => ?_, fun h4 => ?_⟩
    · rw [nI_1]
      refine ih (by omega) (fun u' h5 h6 h7 => ?_)
      by_cases e : cntp (lstp S l) u' = j
      · rw [cntp_inj h6 u2 (e.trans u3.symm)]
        exact h4
      · exact hpre u' h5 h6 (by omega)
    · rw [← hpo, ← lge_in hw hc u2 h4, if_pos h4]
      exact ⟨_, rfl, rfl, hsc⟩
