/-! THE CLASS, 15: headroom -/
/-- the rows that an increase leaves -/
def hst (S : rs_S) (M : rp_M) : Prop := R0 S M ∧ M 139 7 = nI (zn S) ∧ M 139 8 = nI (2 ^ zn S) ∧ ∀ c, c < 2 ^ zn S → M 141 c = iI (zworth S c (zh S)) ∧ (M 143 c &&& (nI c ^^^ (-1)) = 0 ↔ zalB S c = true)
theorem d5_stays (E : rp_E) {M : rp_M} {S : rs_S} (hw : Wf S) (hs : hst S M) {i d best : Nat} (hi : i < zn S) (hd : zp S 2 i + d ≤ 999) (hb : best < 2 ^ zn S) : rp_Run E YX5_staysBest [.ref 154, .int (nI best), .int (nI i), .int (nI d)] M (rp_P (fun v M' => v = bI (pB ((bst (fun c => zalB S c && decide (Wd S i d c ≤ zc S)) (fun c => zworth S c (zh S)) (Wd S i d) (2 ^ zn S)).getD 0 = best)) ∧ hst S M' ∧ ∀ k, k < 139 ∨ 153 < k → M' k = M k)) := by
  have hn := hw.n12
  have h2 := hw.two
  have hcc := hw.2.1
  obtain ⟨hr, a7, a8, a9⟩ := hs
  have hw' : Wf (zset S 2 i (zp S 2 i + d)) := zset_Wf hw hd
  have pv : ∀ p, p < 4 → ∀ k, k < zn S → M (2 + p) k = nI (zp S p k) := fun p hp k hk => (hr.2.2.2.2 k hk).1 p hp
  -- the weights again
  have fw : rp_Run E YX0_fillWeights [.ref 139, .ref 0, .int (nI (zg S)), .int (nI i), .int (nI d)] M (rp_P0 (fun M' => hst S M' ∧ (∀ c, c < 2 ^ zn S → M' 140 c = nI (Wd S i d c)) ∧ ∀ k, k < 139 ∨ 153 < k → M' k = M k)) := by
    refine vX0_fillWeights E _ M _ _ _ (fun M1 e1 => ?_)
    rw [nI_clamp (by omega)]
    refine ⟨nI_inb (by omega) (by omega), fun M2 e2 => ?_⟩
    have k2 : ∀ k, k ≠ 146 → M2 k = M k := fun k hk => by rw [e2, rp_s_cell hk, e1, rw_ne hk]
    have v2 : ∀ k, k < zn S → M2 146 k = nI (chd (zp S 2) i d k) ∧ chd (zp S 2) i d k < 2 ^ 31 := fun k hk => by
      have o : M1 146 k = nI (zp S 2 k) := by rw [e1, rw_at, cpy_in (by omega)]; exact pv 2 (by omega) k hk
      have b := hw.p999 (p := 2) (by omega) hk
      by_cases q : k = i
      · subst q
        rw [chd_i]
        exact ⟨by rw [e2, rp_s_at, o, nI_add], by omega⟩
      · rw [chd_o q]
        exact ⟨by rw [e2, rp_s_ne (by omega)]; exact o, by omega⟩
    refine ⟨_, d0_prot E (r1 := 140) (r2 := 3) (r3 := 146) (n := zn S) (b := zg S) (by omega) rfl (by omega) rfl (by omega) rfl (by omega) (by omega) (by omega) hn hw.2.2.1 (by rw [k2 139 (by decide)]; exact a7) (zp S 1) (chd (zp S 2) i d) (fun k hk => by rw [k2 3 (by decide)]; exact pv 1 (by omega) k hk) v2 1, fun M3 q3 => ?_⟩
    obtain ⟨w3, k3⟩ := q3
    have k4 : ∀ k, k ≠ 140 → k ≠ 144 → k ≠ 145 → k ≠ 146 → M3 k = M k := fun k z1 z2 z3 z4 => by rw [k3 k z1 z2 z3, k2 k z4]
    refine ⟨rfl, ⟨hr.keep (fun k hk => k4 k (by omega) (by omega) (by omega) (by omega)), by rw [k4 139 (by decide) (by decide) (by decide) (by decide)]; exact a7, by rw [k4 139 (by decide) (by decide) (by decide) (by decide)]; exact a8, fun c hc => by
      rw [k4 141 (by decide) (by decide) (by decide) (by decide), k4 143 (by decide) (by decide) (by decide) (by decide)]
      exact a9 c hc⟩, fun c hc => ?_, fun k hk => k4 k (by omega) (by omega) (by omega) (by omega)⟩
    rw [w3 c hc, ← iI_nat, Wd_eq]
    congr 1
    unfold RR
    rw [Int.one_mul, Int.natCast_add]
  refine vX5_staysBest E _ M _ _ _ ⟨_, _, (c5_budget E hr).1, _, fw, fun M1 q1 => ?_⟩
  obtain ⟨s1, w1, k1⟩ := q1
  have tg : gtab (zn S) (Wd S i d) (fun c => zworth S c (zh S)) (zalB S) M1 := ⟨hn, s1.2.1, s1.2.2.1, fun c hc => ⟨⟨w1 c hc, by unfold Wd; have := hw'.heavy c (zg S); omega⟩, ⟨(s1.2.2.2 c hc).1, by show -20000 ≤ zworth S c (zh S); have := hw.worth c (zh S); omega, by show zworth S c (zh S) ≤ 20000; have := hw.worth c (zh S); omega⟩, (s1.2.2.2 c hc).2⟩⟩
  refine ⟨_, _, c5_cap E s1.1, _, _, c0_all E tg (by omega), ?_⟩
  have hlt : (bst (fun c => zalB S c && decide (Wd S i d c ≤ zc S)) (fun c => zworth S c (zh S)) (Wd S i d) (2 ^ zn S)).getD 0 < 2 ^ zn S := by
    cases q : bst (fun c => zalB S c && decide (Wd S i d c ≤ zc S)) (fun c => zworth S c (zh S)) (Wd S i d) (2 ^ zn S) with
    | none => exact Nat.two_pow_pos _
    | some b => exact (bst_lt q).1
  rw [nI_eq (by omega) (by omega)]
  refine ⟨fun z => ⟨_, rfl, ?_, s1, k1⟩, fun z => ⟨_, rfl, ?_, s1, k1⟩⟩
  · rw [pB_f.mpr z]
    rfl
  · rw [pB_t.mpr z]
    rfl
theorem half : ∀ k, k < 11 → nI (2 ^ (k + 1) / 2) / 2 = nI (2 ^ k / 2) := by decide +kernel
theorem d5_head (E : rp_E) {M : rp_M} {S : rs_S} (hw : Wf S) (hr : R0 S M) (h9 : rdy S M) (x : Int32) : rp_Run E YX5_headroom [.ref 154, .int x] M (rp_P (fun v M' => v = a_head S x ∧ scrX S M M')) := by
  have hn := hw.n12
  have h2 := hw.two
  have hcc := hw.2.1
  refine vX5_headroom E _ M x ⟨_, _, c5_exists E hn hr.1 x, ?_⟩
  rw [bI_n, bI_0]
  refine ⟨fun hx => ⟨_, d5_prepare E hw hr h9, fun M1 q => ?_⟩, fun hx => ⟨_, rfl, (if_neg (by rw [hx]; decide)).symm, scrX.rf h9⟩⟩
  have ea : a_head S x = _ := if_pos hx
  rw [ea]
  clear ea
  obtain ⟨i, hi, e⟩ := isI_of (by omega) hx
  rw [e, nI_clamp (by omega)]
  have hr1 := q.2.2.1
  have tg := q.g hw
  have hb := zbest_lt S (zg S) (zh S) (zc S)
  have hbe : rp_C E YX0_firstOfAll [.ref 139, .int (nI (zc S))] M1 (some (nI (zbest S (zg S) (zh S) (zc S)))) M1 := c0_all E tg (by omega)
  have h99 := hw.p999 (p := 2) (by omega) hi
  refine ⟨_, _, c5_cap E hr1, _, _, hbe, nI_inb (by omega) (by omega), ?_⟩
  rw [show M1 4 i = nI (zp S 2 i) from (hr1.2.2.2.2 i hi).1 2 (by omega), show (999 : Int32) - nI (zp S 2 i) = nI (999 - zp S 2 i) from pk_sub (a := 999) h99, bit0 (by omega) (by omega)]
  refine ⟨fun z => ?_, fun z => ?_⟩
  · have hbit : (zbest S (zg S) (zh S) (zc S)).testBit i = true := by
      cases y : (zbest S (zg S) (zh S) (zc S)).testBit i with
      | true => rfl
      | false => exact absurd y z
    rw [if_pos hbit]
    obtain ⟨p1, p2, p3, p4⟩ := hlin_spec (Z := fun d => zstay S (zset S 2 i (zp S 2 i + d)) (zbest S (zg S) (zh S) (zc S))) (999 - zp S 2 i) 0
    generalize hD : hlin (fun d => zstay S (zset S 2 i (zp S 2 i + d)) (zbest S (zg S) (zh S) (zc S))) (999 - zp S 2 i) 0 = D at *
    have key : ∀ k, k ≤ 10 → ∀ inc, inc ≤ D → D < inc + 2 ^ k → ∀ M2, hst S M2 → (∀ k, k < 139 ∨ 153 < k → M2 k = M k) → rp_G E YX5_headroom (rp_P (fun v M' => v = nI D ∧ scrX S M M')) 60 [.ref 154, .int (nI i), .int (nI (zbest S (zg S) (zh S) (zc S))), .int (nI (999 - zp S 2 i)), .int (nI inc), .int (nI (2 ^ k / 2))] [] M2 := by
      intro k
      induction k with
      | zero =>
        intro _ inc d1 d2 M2 s2 k2
        refine vX5_headroom_60 E _ M2 _ _ _ _ _ ⟨fun _ M3 e3 => ⟨_, rfl, ?_, fun k hk => by rw [e3, rp_s_cell (by omega), k2 k hk], Or.inl (by rw [e3, rp_s_at])⟩, fun y => absurd (by decide) y⟩
        have : inc = D := by
          have d2 : D < inc + 1 := d2
          omega
        rw [this]
      | succ k ihk =>
        intro hk inc d1 d2 M2 s2 k2
        have pk : 2 ^ k ≤ 512 := Nat.le_trans (Nat.pow_le_pow_right (by omega) (show k ≤ 9 by omega)) (by decide)
        have pp := Nat.two_pow_pos k
        have e2 : 2 ^ (k + 1) / 2 = 2 ^ k := by
          rw [Nat.pow_succ]
          omega
        have e3 : 2 ^ (k + 1) = 2 ^ k + 2 ^ k := by
          rw [Nat.pow_succ]
          omega
        have hh := half k (by omega)
        refine vX5_headroom_60 E _ M2 _ _ _ _ _ ?_
        rw [hh, e2, nI_add, nI_ltI (by omega) (by omega), show (0 : Int32) = nI 0 by rfl, nI_leI (by omega) (by omega), show nI 0 = (0 : Int32) by rfl]
        refine ⟨fun y => absurd y (by omega), fun _ => ⟨fun y => ihk (by omega) inc d1 (by omega) M2 s2 k2, fun y => ⟨_, d5_stays E hw s2 (d := inc + 2 ^ k) hi (by omega) hb, fun v M3 q3 => ?_⟩⟩⟩
        obtain ⟨v3, s3, k3⟩ := q3
        have k23 : ∀ k, k < 139 ∨ 153 < k → M3 k = M k := fun k hk => by rw [k3 k hk, k2 k hk]
        have iff := stays_iff hi (inc + 2 ^ k)
        rw [v3, bI_n, bI_0, pB_t, pB_f, iff]
        refine ⟨fun u => ihk (by omega) inc d1 ?_ M3 s3 k23, fun u => ihk (by omega) (inc + 2 ^ k) ?_ (by omega) M3 s3 k23⟩
        · apply Classical.byContradiction
          intro w
          exact u (p3 (inc + 2 ^ k) (by omega) (by omega))
        · apply Classical.byContradiction
          intro w
          exact p4 (by omega) (hZ_anti hi hbit (show D + 1 ≤ inc + 2 ^ k by omega) u)
    exact key 10 (Nat.le_refl _) 0 (Nat.zero_le _) (by omega) M1 ⟨hr1, q.2.1.1, q.2.1.2.1, fun c hc => ⟨(q.2.1.2.2 c hc).2.1, (q.2.1.2.2 c hc).2.2.2⟩⟩ (fun k hk => q.2.2.2 k (by omega))
  · rw [if_neg (by rw [z]; decide)]
    exact ⟨_, rfl, rfl, q.sc⟩
