/-! THE CLASS, 16: frontier, list, dominator -/
theorem heavy_mono {S : rs_S} {l c g : Nat} (hc : c < 2 ^ l) : zheavy S c g ≤ zheavy S (2 ^ l - 1) g := by
  have all : ∀ j, c.testBit j = true → (2 ^ l - 1).testBit j = true := fun j h => by
    rw [Nat.testBit_two_pow_sub_one]
    apply decide_eq_true
    apply Classical.byContradiction
    intro z
    rw [Nat.testBit_lt_two_pow (lt_pow hc (by omega))] at h
    cases h
  unfold zheavy
  refine Nat.add_le_add ?_ ?_
  · refine psum_term _ (fun j _ => ?_)
    by_cases q : c.testBit j = true
    · rw [if_pos q, if_pos (all j q)]
      exact Nat.le_refl _
    · rw [if_neg q]
      exact Nat.zero_le _
  · exact wst_best g _ (fun j _ hb => all j (wst_in hb)) (wst_size g)
theorem d3_frontier (E : rp_E) {M : rp_M} {S : rs_S} (hw : Wf S) (ht : tabX S (zg S) (zh S) M) : rp_Run E YX3_buildFrontier [.ref 147, .ref 139] M (rp_P0 (fun M' => SC (zalB S) (fun c => zworth S c (zh S)) (fun c => zheavy S c (zg S)) (2 ^ zn S) 9999 M' ∧ ∀ k, k ≠ 147 → k ≠ 148 → M' k = M k)) := by
  have h2 := hw.two
  have hp := Nat.two_pow_pos (zn S)
  obtain ⟨f1, f2, f3⟩ := fr0 S
  have hX := hw.heavy (2 ^ zn S - 1) (zg S)
  refine vX3_buildFrontier E _ M ?_
  rw [ht.2.1, nI_p1 hp, nI_clamp (by omega), (ht.2.2 (2 ^ zn S - 1) (by omega)).1]
  refine ⟨nI_inb (by omega) (by omega), _, d3_clear E (c := 9999) (by omega) (by omega), fun v M1 q1 => ?_⟩
  obtain ⟨v1, c1, k1⟩ := q1
  rw [v1]
  generalize hT : min (min (zheavy S (2 ^ zn S - 1) (zg S)) 9999) 9999 = T at *
  have hT2 : T ≤ 9999 := by omega
  suffices key : ∀ j, j ≤ 2 ^ zn S → ∀ M2 : rp_M, (∀ w, w ≤ T → M2 148 w = oX (exq (zalB S) (fun c => zworth S c (zh S)) (fun c => zheavy S c (zg S)) w j)) → (∀ k, k ≠ 148 → M2 k = M k) → rp_G E YX3_buildFrontier (rp_P0 (fun M' => SC (zalB S) (fun c => zworth S c (zh S)) (fun c => zheavy S c (zg S)) (2 ^ zn S) 9999 M' ∧ ∀ k, k ≠ 147 → k ≠ 148 → M' k = M k)) 21 [.ref 147, .ref 139, .int (nI T), .int (nI j)] [] M2 from key 0 (Nat.zero_le _) M1 c1 k1
  refine up_loop (fun j hj ih M2 z1 z2 => vX3_buildFrontier_21 E _ M2 _ _ ?_)
  have ht2 : tabX S (zg S) (zh S) M2 := ⟨by rw [z2 139 (by decide)]; exact ht.1, by rw [z2 139 (by decide)]; exact ht.2.1, fun c hc => by
    rw [z2 140 (by decide), z2 141 (by decide), z2 142 (by decide), z2 143 (by decide)]
    exact ht.2.2 c hc⟩
  have hg2 : ∀ c, c < 2 ^ zn S → M2 141 c = iI (zworth S c (zh S)) ∧ -20000 ≤ zworth S c (zh S) ∧ zworth S c (zh S) ≤ 20000 := fun c hc => ⟨(ht2.2.2 c hc).2.1, by have := hw.worth c (zh S); omega, by have := hw.worth c (zh S); omega⟩
  rw [ht2.2.1, nI_leI (by omega) (by omega)]
  refine ⟨fun h => ?_, fun h => ?_⟩
  · have e : j = 2 ^ zn S := by omega
    subst e
    refine ⟨_, d3_rise E f1 (by omega) f2 f3 (r := 141) (by omega) rfl (by omega) hg2 hT2 z1, fun M3 q3 => ⟨rfl, SC_ext q3.1 hT2 (fun u hu su => ?_), fun k h1 h2 => by rw [q3.2 k h1 h2, z2 k h2]⟩⟩
    have := stp_top f1 f2 f3 (X := zheavy S (2 ^ zn S - 1) (zg S)) (fun c hc => heavy_mono hc) su
    omega
  have hj2 : j < 2 ^ zn S := by omega
  have hwj := hw.heavy j (zg S)
  refine ⟨_, _, c0_stands E (ht2.g hw) hj2 (by omega), ?_⟩
  rw [bI_n, bI_0, nI_1]
  refine ⟨fun z => ?_, fun z => ⟨nI_inb (by omega) (by omega), ?_⟩⟩
  · refine ih hj2 M2 (fun w hwT => ?_) z2
    rw [exq_skip (fun y => ?_)]
    · exact z1 w hwT
    · have y2 : zheavy S j (zg S) = w := y.2
      rw [y.1, Bool.true_and, decide_eq_false_iff_not] at z
      omega
  · rw [Bool.and_eq_true, decide_eq_true_eq] at z
    rw [nI_clamp (by omega), (ht2.2.2 j hj2).1]
    refine ⟨_, d3_offer E (ok := zalB S) (V := fun c => zworth S c (zh S)) (W := fun c => zheavy S c (zg S)) (r := 141) (by omega) rfl (by omega) hT2 (fun c hc => hg2 c (by omega)) z.1 z.2 z1, fun M3 q3 => ih hj2 M3 q3.1 (fun k hk => by rw [q3.2 k hk, z2 k hk])⟩
theorem d5_frontier (E : rp_E) {M : rp_M} {S : rs_S} (hw : Wf S) (hr : R0 S M) (h9 : rdy S M) (x w : Int32) : rp_Run E YX5_frontier [.ref 154, .int x, .int w] M (rp_P (fun v M' => v = a_frontier S x w ∧ scrX S M M')) := by
  have h2 := hw.two
  refine vX5_frontier E _ M x w ?_
  rw [Int32.lt_d, Int32.le_d, Int32.toInt_zero, show ((2 : Int32)).toInt = 2 by decide]
  refine ⟨fun h => ⟨_, rfl, (if_neg (by omega)).symm, scrX.rf h9⟩, fun h => ⟨fun h1 => ⟨_, d5_prepare E hw hr h9, fun M1 q => ⟨_, d3_frontier E hw q.2.1, fun M2 q2 => ?_⟩⟩, fun h1 => ⟨_, rfl, (if_neg (by omega)).symm, scrX.rf h9⟩⟩⟩
  obtain ⟨sc, k2⟩ := q2
  have ht2 : tabX S (zg S) (zh S) M2 := ⟨by rw [k2 139 (by decide) (by decide)]; exact q.2.1.1, by rw [k2 139 (by decide) (by decide)]; exact q.2.1.2.1, fun c hc => by
    rw [k2 140 (by decide) (by decide), k2 141 (by decide) (by decide), k2 142 (by decide) (by decide), k2 143 (by decide) (by decide)]
    exact q.2.1.2.2 c hc⟩
  have hsc : scrX S M M2 := ⟨fun k hk => by rw [k2 k (by omega) (by omega), q.2.2.2 k (by omega)], Or.inr ⟨by rw [k2 139 (by decide) (by decide)]; exact q.1, ht2⟩⟩
  have ea : a_frontier S x w = _ := if_pos (show 0 ≤ w.toInt ∧ w.toInt ≤ 2 by omega)
  rw [ea]
  clear ea
  refine ⟨fun hx => ?_, fun hx => ⟨_, rfl, ?_, hsc⟩⟩
  · rw [if_neg hx]
    have st := c3_stepAt E (by omega) sc x
    have ef : gwt (stp (zalB S) (fun c => zworth S c (zh S)) (fun c => zheavy S c (zg S)) (2 ^ zn S)) 9999 x = fwt S x := rfl
    rw [ef] at st
    cases z : fwt S x with
    | none =>
      rw [z] at st
      have st : rp_C E YX3_stepAt [.ref 147, .int x] M2 (some (-6)) M2 := st
      exact ⟨_, _, st, fun _ => ⟨_, rfl, rfl, hsc⟩, fun y => absurd (by decide) y⟩
    | some u =>
      rw [z] at st
      have st : rp_C E YX3_stepAt [.ref 147, .int x] M2 (some (nI (zbest S (zg S) (zh S) u))) M2 := st
      have hb := zbest_lt S (zg S) (zh S) u
      have su : fstp S u := by
        apply Classical.byContradiction
        intro no
        have : ∃ u, u ≤ 9999 ∧ fstp S u ∧ x = nI (cntp (fstp S) u) := by
          apply Classical.byContradiction
          intro w'
          rw [fwt_none (fun u h1 h2 h3 => w' ⟨u, h1, h2, h3⟩)] at z
          cases z
        obtain ⟨u', u1, u2, u3⟩ := this
        rw [fwt_some u1 u2 u3] at z
        cases z
        exact no u2
      have hW : zheavy S (zbest S (zg S) (zh S) u) (zg S) = u := by
        have := stp_W (Nat.two_pow_pos _) (zal0 S) (zheavy0 S (zg S)) su
        exact this
      refine ⟨_, _, st, fun y => absurd y (nI_pos (by omega)), fun _ => ⟨fun y2 => ⟨fun y0 => ?_, fun y0 => ?_⟩, fun y2 => ?_⟩⟩
      · refine ⟨_, _, c0_shiftN E (ht2.g hw) hb, _, rfl, ?_, hsc⟩
        show _ = if w = 0 then nI u else if w = 1 then _ else _
        rw [if_neg y0, if_pos]
        have e := toNat_nI (x := w) (by omega)
        have c := clamp_int (x := w) (by omega)
        have : w.toNatClampNeg = 0 ∨ w.toNatClampNeg = 1 ∨ w.toNatClampNeg = 2 := by omega
        rcases this with k | k | k <;> rw [k] at e
        · exact absurd e y0
        · exact e
        · exact absurd e y2
      · rw [nI_clamp (by omega), (ht2.2.2 _ hb).1]
        refine ⟨nI_inb (by omega) (by omega), _, rfl, ?_, hsc⟩
        show _ = if w = 0 then nI u else if w = 1 then _ else _
        rw [if_pos y0, hW]
      · refine ⟨_, rfl, ?_, hsc⟩
        show _ = if w = 0 then nI u else if w = 1 then _ else _
        rw [y2]
        rfl
  · rw [if_pos hx]
    exact sc.1
theorem c5_isLevel (E : rp_E) {M : rp_M} {n : Nat} (hn : n ≤ 12) (h0 : M 0 4 = nI n) (x : Int32) : rp_C E YX5_isLevel [.ref 154, .int x] M (some (bI (decide (0 ≤ x.toInt ∧ x.toInt ≤ (n : Int))))) M := by
  refine rp_C_of (fun post hp => vX5_isLevel E post M x ?_)
  rw [h0, Int32.lt_d, Int32.lt_d, Int32.toInt_zero, nI_toInt (by omega)]
  refine ⟨fun h => ?_, fun h => ⟨fun h2 => ?_, fun h2 => ?_⟩⟩
  · rw [decide_eq_false (by omega)] at hp
    exact hp
  · rw [decide_eq_false (by omega)] at hp
    exact hp
  · rw [decide_eq_true (by omega)] at hp
    exact hp
theorem d3_list (E : rp_E) {M : rp_M} {S : rs_S} (hw : Wf S) (ht : tabX S (zg S) (zh S) M) {l : Nat} (hl : l ≤ zn S) : rp_Run E YX3_buildList [.ref 147, .ref 139, .int (nI l), .int (nI (zc S))] M (rp_P0 (fun M' => SC (fun _ => true) (lV S) (lW S) (2 ^ l) (zc S) M' ∧ ∀ k, k ≠ 147 → k ≠ 148 → M' k = M k)) := by
  have hn := hw.n12
  have h2 := hw.two
  have hcc := hw.2.1
  have hp := Nat.two_pow_pos l
  have hll : 2 ^ l ≤ 2 ^ zn S := Nat.pow_le_pow_right (by omega) hl
  have hX := hw.heavy (2 ^ l - 1) (zg S)
  refine vX3_buildList E _ M _ _ ?_
  rw [nI_one_shl (by omega), nI_p1 hp, nI_clamp (by omega), (ht.2.2 (2 ^ l - 1) (by omega)).1]
  refine ⟨nI_inb (by omega) (by omega), _, d3_clear E (c := zc S) (by omega) (by omega), fun v M1 q1 => ?_⟩
  obtain ⟨v1, c1, k1⟩ := q1
  rw [v1]
  generalize hT : min (min (zheavy S (2 ^ l - 1) (zg S)) (zc S)) 9999 = T at *
  have hT2 : T ≤ zc S := by omega
  suffices key : ∀ j, j ≤ 2 ^ l → ∀ M2 : rp_M, (∀ w, w ≤ T → M2 148 w = oX (exq (fun _ => true) (lV S) (lW S) w j)) → (∀ k, k ≠ 148 → M2 k = M k) → rp_G E YX3_buildList (rp_P0 (fun M' => SC (fun _ => true) (lV S) (lW S) (2 ^ l) (zc S) M' ∧ ∀ k, k ≠ 147 → k ≠ 148 → M' k = M k)) 24 [.ref 147, .ref 139, .null, .null, .int (nI (2 ^ l)), .int (nI T), .int (nI j)] [] M2 from key 0 (Nat.zero_le _) M1 c1 k1
  refine up_loop (fun j hj ih M2 z1 z2 => vX3_buildList_24 E _ M2 _ _ _ ?_)
  have hg2 : ∀ c, c < 2 ^ l → M2 142 c = iI (lV S c) ∧ -20000 ≤ lV S c ∧ lV S c ≤ 20000 := fun c hc => ⟨by rw [z2 142 (by decide), (ht.2.2 c (by omega)).2.2.1, ← iI_nat]; rfl, by unfold lV; omega, by unfold lV; have := hw.sum (p := 0) (by omega) c; omega⟩
  rw [nI_leI (by omega) (by omega)]
  refine ⟨fun h => ?_, fun h => ?_⟩
  · have e : j = 2 ^ l := by omega
    subst e
    refine ⟨_, d3_rise E hp (by omega) rfl (lW0 S) (r := 142) (by omega) rfl (by omega) hg2 (by omega) z1, fun M3 q3 => ⟨rfl, SC_ext q3.1 hT2 (fun u hu su => ?_), fun k h1 h2 => by rw [q3.2 k h1 h2, z2 k h2]⟩⟩
    have := stp_top hp rfl (lW0 S) (X := zheavy S (2 ^ l - 1) (zg S)) (fun c hc => heavy_mono hc) su
    omega
  have hj2 : j < 2 ^ l := by omega
  have hwj := hw.heavy j (zg S)
  rw [nI_clamp (by omega), z2 140 (by decide), (ht.2.2 j (by omega)).1, nI_ltI (by omega) (by omega), nI_1]
  refine ⟨nI_inb (by omega) (by omega), fun z => ?_, fun z => ?_⟩
  · refine ih hj2 M2 (fun w hwT => ?_) z2
    rw [exq_skip (fun y => ?_)]
    · exact z1 w hwT
    · have y2 : zheavy S j (zg S) = w := y.2
      omega
  · refine ⟨_, d3_offer E (ok := fun _ => true) (V := lV S) (W := lW S) (r := 142) (by omega) rfl (by omega) (by omega) (fun c hc => hg2 c (by omega)) rfl (show zheavy S j (zg S) ≤ T by omega) z1, fun M3 q3 => ih hj2 M3 q3.1 (fun k hk => by rw [q3.2 k hk, z2 k hk])⟩
theorem lev_nat {x : Int32} {n : Nat} (h : 0 ≤ x.toInt ∧ x.toInt ≤ (n : Int)) : ∃ l, l ≤ n ∧ x = nI l ∧ x.toNatClampNeg = l := by
  have e := toNat_nI h.1
  have c := clamp_int h.1
  exact ⟨x.toNatClampNeg, by omega, e, rfl⟩
theorem tab_st {S : rs_S} {M M' : rp_M} (h : tabX S (zg S) (zh S) M) (k2 : ∀ k, k ≠ 147 → k ≠ 148 → M' k = M k) : tabX S (zg S) (zh S) M' := ⟨by rw [k2 139 (by decide) (by decide)]; exact h.1, by rw [k2 139 (by decide) (by decide)]; exact h.2.1, fun c hc => by
    rw [k2 140 (by decide) (by decide), k2 141 (by decide) (by decide), k2 142 (by decide) (by decide), k2 143 (by decide) (by decide)]
    exact h.2.2 c hc⟩
theorem d5_list (E : rp_E) {M : rp_M} {S : rs_S} (hw : Wf S) (hr : R0 S M) (h9 : rdy S M) (x y : Int32) : rp_Run E YX5_list [.ref 154, .int x, .int y] M (rp_P (fun v M' => v = a_list S x y ∧ scrX S M M')) := by
  have hn := hw.n12
  have hcc := hw.2.1
  refine vX5_list E _ M x y ⟨_, _, c5_isLevel E hn hr.1 x, ?_⟩
  rw [bI_n, bI_0, decide_eq_true_eq, decide_eq_false_iff_not]
  refine ⟨fun hx => ⟨_, d5_prepare E hw hr h9, fun M1 q => ?_⟩, fun hx => ⟨_, rfl, (if_neg hx).symm, scrX.rf h9⟩⟩
  have ea : a_list S x y = _ := if_pos hx
  rw [ea]
  clear ea
  obtain ⟨l, hl, e1, e2⟩ := lev_nat hx
  rw [e2, e1]
  refine ⟨_, _, c5_cap E q.2.2.1, _, d3_list E hw q.2.1 hl, fun M2 q2 => ?_⟩
  obtain ⟨sc, k2⟩ := q2
  have hsc : scrX S M M2 := ⟨fun k hk => by rw [k2 k (by omega) (by omega), q.2.2.2 k (by omega)], Or.inr ⟨by rw [k2 139 (by decide) (by decide)]; exact q.1, tab_st q.2.1 k2⟩⟩
  refine ⟨fun hy => ⟨_, _, c3_stepAt E (by omega) sc y, _, rfl, ?_, hsc⟩, fun hy => ⟨_, rfl, ?_, hsc⟩⟩
  · rw [if_neg hy]
    rfl
  · rw [if_pos hy]
    exact sc.1
theorem d5_dominator (E : rp_E) {M : rp_M} {S : rs_S} (hw : Wf S) (hr : R0 S M) (h9 : rdy S M) (x y : Int32) : rp_Run E YX5_dominator [.ref 154, .int x, .int y] M (rp_P (fun v M' => v = a_dom S x y ∧ scrX S M M')) := by
  have hn := hw.n12
  have hcc := hw.2.1
  have h2 := hw.two
  refine vX5_dominator E _ M x y ⟨_, _, c5_isLevel E hn hr.1 x, ?_⟩
  rw [bI_n, bI_0, decide_eq_true_eq, decide_eq_false_iff_not]
  refine ⟨fun hx => ⟨_, rfl, (if_neg (fun z => hx z.1)).symm, scrX.rf h9⟩, fun hx => ?_⟩
  obtain ⟨l, hl, e1, e2⟩ := lev_nat hx
  have hll : 2 ^ l ≤ 2 ^ zn S := Nat.pow_le_pow_right (by omega) hl
  have bad : ¬ isI (2 ^ l) y = true → rp_P (fun v M' => v = a_dom S x y ∧ scrX S M M') (some (-1)) M := fun z => ⟨_, rfl, (if_neg (fun w => z (by have := w.2; rw [e2] at this; exact this))).symm, scrX.rf h9⟩
  rw [e1, nI_one_shl (by omega)]
  rw [← e1]
  refine ⟨fun z => bad (fun w => ?_), fun z => ⟨fun u => ?_, fun u => bad (fun w => ?_)⟩⟩
  · obtain ⟨j, hj, ej⟩ := isI_of (by omega) w
    rw [ej] at z
    exact nI_pos (by omega) z
  · rw [Int32.lt_d, Int32.toInt_zero] at z
    have ey := toNat_nI (x := y) (by omega)
    have ec := clamp_int (x := y) (by omega)
    have hy31 : y.toNatClampNeg < 2 ^ 31 := Int32.toNatClampNeg_lt y
    have ea : a_dom S x y = if lW S y.toNatClampNeg ≤ zc S then (if lsb S l (lge S l y.toNatClampNeg) = y.toNatClampNeg then (-6) else nI (lsb S l (lge S l y.toNatClampNeg))) else (-5) := by
      rw [Int32.lt_d, nI_toInt (by omega)] at u
      unfold a_dom
      rw [e2, if_pos ⟨hx, decide_eq_true ⟨by omega, by omega⟩⟩]
    rw [ea]
    clear ea
    generalize y.toNatClampNeg = c at *
    subst ey
    rw [nI_ltI (by omega) (by omega)] at u
    refine ⟨_, d5_prepare E hw hr h9, fun M1 q => ⟨nI_inb (by omega) (by omega), _, _, c5_cap E q.2.2.1, ?_⟩⟩
    have hwc := hw.heavy c (zg S)
    rw [(q.2.1.2.2 c (by omega)).1, nI_leI (by omega) (by omega)]
    refine ⟨fun fit => ⟨_, _, c5_cap E q.2.2.1, ?_⟩, fun fit => ⟨_, rfl, (if_neg fit).symm, q.sc⟩⟩
    rw [e1, if_pos (show lW S c ≤ zc S from fit)]
    refine ⟨_, d3_list E hw q.2.1 hl, fun M2 q2 => ?_⟩
    obtain ⟨sc, k2⟩ := q2
    have t2 := tab_st q.2.1 k2
    have hsc : scrX S M M2 := ⟨fun k hk => by rw [k2 k (by omega) (by omega), q.2.2.2 k (by omega)], Or.inr ⟨by rw [k2 139 (by decide) (by decide)]; exact q.1, t2⟩⟩
    obtain ⟨g1, g2, g3⟩ := lge_spec hw u
    have gs := lge_stp hw u
    have g3' : lge S l c ≤ zheavy S c (zg S) := g3
    have hlsb : ∀ w, lsb S l w < 2 ^ l := fun w => (lsb_opt S l w).1
    have val : ∀ b, b < 2 ^ l → M2 142 b = nI (zsum S 0 b) ∧ zsum S 0 b ≤ 11988 := fun b hb => ⟨(t2.2.2 b (by omega)).2.2.1, hw.sum (p := 0) (by omega) b⟩
    -- the first with as much
    have fw : rp_C E YX3_firstWith [.ref 147, .ref 142, .int (M2 142 c)] M2 (some (nI (lsb S l (lge S l c)))) M2 := by
      refine rp_C_of (fun post hpost => vX3_firstWith E post M2 (r1 := 142) (n1 := 4096) (by omega) rfl _ ?_)
      rw [(val c u).1]
      have gi : cntp (lstp S l) (lge S l c) < cntp (lstp S l) (zc S + 1) := cntp_up gs (by omega)
      have hcl := cntp_le (p := lstp S l) (zc S + 1)
      suffices key : ∀ i, i ≤ cntp (lstp S l) (lge S l c) → rp_G E YX3_firstWith post 2 [.ref 147, .ref 142, .int (nI (zsum S 0 c)), .int (nI i)] [] M2 from key 0 (Nat.zero_le _)
      refine up_loop (fun i hi ih => vX3_firstWith_2 E post M2 (r1 := 142) (n1 := 4096) (by omega) rfl _ _ ?_)
      have sc1 : M2 147 1 = nI (cntp (lstp S l) (zc S + 1)) := sc.1
      rw [sc1, nI_leI (by omega) (by omega)]
      refine ⟨fun w => absurd w (by omega), fun _ => ?_⟩
      obtain ⟨w, w1, w2, w3⟩ := cntp_get (show i < cntp (lstp S l) (zc S + 1) by omega)
      have s2 : M2 148 i = nI (lsb S l w) := by
        rw [← w3]
        exact sc.2 w (by omega) w2
      have hb := hlsb w
      rw [nI_clamp (by omega), s2, nI_clamp (by omega), (val _ hb).1, nI_ltI (by have := (val _ hb).2; omega) (by have := (val c u).2; omega), nI_1]
      refine ⟨nI_inb (by omega) (by omega), nI_inb (by omega) (by omega), fun v => ih ?_, fun v => ?_⟩
      · apply Classical.byContradiction
        intro no
        have ei : i = cntp (lstp S l) (lge S l c) := by omega
        have ew : w = lge S l c := cntp_inj w2 gs (w3.trans ei)
        rw [ew] at v
        have g1' : (zsum S 0 c : Int) ≤ (zsum S 0 (lsb S l (lge S l c)) : Int) := g1
        omega
      · have ew : w = lge S l c := by
          by_cases lt : w < lge S l c
          · have g2' : (zsum S 0 (lsb S l w) : Int) < (zsum S 0 c : Int) := g2 w lt
            omega
          · by_cases eq : w = lge S l c
            · exact eq
            · have := cntp_up gs (show lge S l c < w by omega)
              omega
        rw [ew]
        exact hpost
    refine ⟨_, _, fw, ?_⟩
    have hb := hlsb (lge S l c)
    rw [nI_eq (by omega) (by omega)]
    exact ⟨fun v => ⟨_, rfl, (if_neg v).symm, hsc⟩, fun v => ⟨_, rfl, (if_pos v).symm, hsc⟩⟩
  · obtain ⟨j, hj, ej⟩ := isI_of (by omega) w
    rw [ej, nI_ltI (by omega) (by omega)] at u
    omega
