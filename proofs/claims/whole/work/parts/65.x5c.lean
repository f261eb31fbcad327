/-! THE CLASS, 6: rule, undo, count, wipe, put -/
theorem R0_rul {S : rs_S} {M : rp_M} (hr : R0 S M) {i v : Nat} (hi : i < 3) : R0 (zrul S i v) (rp_s M 9 i (nI v)) := by
  obtain ⟨r1, r2, r3, r4, r5⟩ := hr
  refine ⟨by rw [rp_s_ne (by omega)]; exact r1, ?_, ?_, ?_, fun k hk => ?_⟩
  · show _ = nI (if i = 0 then v else zc S)
    by_cases e : i = 0
    · subst e
      rw [if_pos rfl, rp_s_at]
    · rw [if_neg e, rp_s_ne (by omega), r2]
  · show _ = nI (if i = 1 then v else zg S)
    by_cases e : i = 1
    · subst e
      rw [if_pos rfl, rp_s_at]
    · rw [if_neg e, rp_s_ne (by omega), r3]
  · show _ = nI (if i = 2 then v else zh S)
    by_cases e : i = 2
    · subst e
      rw [if_pos rfl, rp_s_at]
    · rw [if_neg e, rp_s_ne (by omega), r4]
  · obtain ⟨a1, a2, a3, a4⟩ := r5 k hk
    exact ⟨fun p hp => by rw [rp_s_ne (by omega)]; exact a1 p hp, by rw [rp_s_ne (by omega)]; exact a2, by rw [rp_s_ne (by omega)]; exact a3, by rw [rp_s_ne (by omega)]; exact a4⟩
theorem d5_rule (E : rp_E) {M : rp_M} {g : rs_G} (hW : WG g) (hI : IX g M) (x y : Int32) : rp_Run E YX5_rule [.ref 154, .int x, .int y] M (rp_P (fun r M' => r = a_rule g.1 x y ∧ IX (gnew g (nq_rule g.1 x y)) M' ∧ keepM M M')) := by
  have bad : ¬ ruleOk x y → rp_P (fun r M' => r = a_rule g.1 x y ∧ IX (gnew g (nq_rule g.1 x y)) M' ∧ keepM M M') (some (-2)) M := fun h => by
    have e1 : a_rule g.1 x y = (-2) := if_neg (fun q => h (pB_t.mp q))
    have e2 : nq_rule g.1 x y = none := if_neg (fun q => h (pB_t.mp q))
    rw [e1, e2]
    exact ⟨_, rfl, rfl, hI, fun _ _ => rfl⟩
  have i12 : ((12 : Int32)).toInt = 12 := by decide
  have i99 : ((9999 : Int32)).toInt = 9999 := by decide
  refine vX5_rule E _ M x y ⟨fun h => bad (fun z => ?_), fun h => ⟨fun h2 => bad (fun z => ?_), fun h2 => ⟨fun h3 => bad (fun z => ?_), fun h3 => ?_⟩⟩⟩
  · obtain ⟨i, q1, q2, -⟩ := ruleOk_nat z
    rw [q2] at h
    exact nI_pos (by omega) h
  · obtain ⟨i, q1, q2, -⟩ := ruleOk_nat z
    rw [q2, show (3 : Int32) = nI 3 by rfl, nI_leI (by omega) (by omega)] at h2
    omega
  · rw [Int32.lt_d, Int32.toInt_zero] at h3
    rcases z with z | z
    · have := z.2.1
      omega
    · have := z.2.1
      omega
  · rw [Int32.lt_d, Int32.toInt_zero] at h h3
    rw [Int32.le_d, show ((3 : Int32)).toInt = 3 by decide] at h2
    have ep := toNat_nI (x := x) (by omega)
    have ec := clamp_int (x := x) (by omega)
    have ey := toNat_nI (x := y) (by omega)
    have rk : y ≤ (rp_sv 2).getD x.toNatClampNeg 0 ↔ ruleOk x y := by
      have h4 : x.toNatClampNeg = 0 ∨ x.toNatClampNeg = 1 ∨ x.toNatClampNeg = 2 := by omega
      rcases h4 with q | q | q
      · rw [q] at ep ⊢
        rw [ep, show (rp_sv 2).getD 0 0 = 9999 from rfl, Int32.le_d, i99]
        refine ⟨fun z => Or.inl ⟨rfl, by omega, z⟩, fun z => ?_⟩
        rcases z with z | z
        · exact z.2.2
        · rcases z.1 with w | w <;> exact absurd w (by decide)
      · rw [q] at ep ⊢
        rw [ep, show (rp_sv 2).getD 1 0 = 12 from rfl, Int32.le_d, i12]
        refine ⟨fun z => Or.inr ⟨Or.inl rfl, by omega, z⟩, fun z => ?_⟩
        rcases z with z | z
        · exact absurd z.1 (by decide)
        · exact z.2.2
      · rw [q] at ep ⊢
        rw [ep, show (rp_sv 2).getD 2 0 = 12 from rfl, Int32.le_d, i12]
        refine ⟨fun z => Or.inr ⟨Or.inr rfl, by omega, z⟩, fun z => ?_⟩
        rcases z with z | z
        · exact absurd z.1 (by decide)
        · exact z.2.2
    rw [rk]
    refine ⟨by rw [ep]; exact nI_inb (by omega) (by omega), fun ok => ⟨_, d5_remember E hW hI, fun M1 q => ?_⟩, fun no => bad no⟩
    obtain ⟨j1, j2, k1⟩ := q
    intro M2 e3
    have e1 : a_rule g.1 x y = sval g.1 x := if_pos (pB_t.mpr ok)
    have e2 : nq_rule g.1 x y = some (zrul g.1 x.toNatClampNeg y.toNatClampNeg) := if_pos (pB_t.mpr ok)
    rw [e1, e2]
    refine ⟨_, rfl, ?_, IX_row j1 j2 ?_ (fun k hk => by rw [e3, rp_s_cell (by omega)]), fun k hk => by rw [e3, rp_s_cell (by omega), k1 k (by omega)]⟩
    · have h4 : x.toNatClampNeg = 0 ∨ x.toNatClampNeg = 1 ∨ x.toNatClampNeg = 2 := by omega
      rcases h4 with q | q | q
      · rw [q] at ep ⊢
        rw [ep]
        exact hI.1.2.1
      · rw [q] at ep ⊢
        rw [ep]
        exact hI.1.2.2.1
      · rw [q] at ep ⊢
        rw [ep]
        exact hI.1.2.2.2.1
    · have := R0_rul j1.1 (i := x.toNatClampNeg) (v := y.toNatClampNeg) (by omega)
      rw [← ey] at this
      rw [e3]
      exact this
theorem d5_undo (E : rp_E) {M : rp_M} {g : rs_G} (hW : WG g) (hI : IX g M) : rp_Run E YX5_undo [.ref 154] M (rp_P (fun r M' => r = a_undo g ∧ IX (g_undo g) M' ∧ keepM M M')) := by
  obtain ⟨hw, hlen, hws, -, -⟩ := hW
  have hI0 := hI
  obtain ⟨i1, ⟨nk, a1, a2, a3, a4⟩, i3, -⟩ := hI
  refine vX5_undo E _ M ?_
  rw [a3, a2, show (0 : Int32) = nI 0 by rfl, nI_eq (by omega) (by omega), nI_eq (by omega) (by omega), show nI 0 = (0 : Int32) by rfl]
  refine ⟨fun h => ?_, fun h => ?_⟩
  · have hne : g.2.1 ≠ [] := fun e => h (by rw [e]; rfl)
    have hlast : g.2.1.getLast? = some (g.2.1.getLast hne) := List.getLast?_eq_some_getLast hne
    have hg : g.2.1[g.2.1.length - 1]? = some (g.2.1.getLast hne) := by rw [← hlast, List.getLast?_eq_getElem?]
    have hgu : g_undo g = (g.2.1.getLast hne, g.2.1.dropLast, g.2.2) := by unfold g_undo; rw [hlast]
    have ea : a_undo g = nI (g.2.1.length - 1) := if_neg h
    have hrl := a4 _ _ hg
    have hws1 := hws _ (List.getLast_mem hne)
    rw [ea, hgu]
    have fin : ∀ (nk' : Nat), nk' = (nk + 11) % 12 → ∀ M1, M1 = rp_s M 154 3 (nI nk') → ∀ M2, M2 = rp_s M1 154 2 ((M1 154 2) - 1) → (vp_in (M2 154 3) 12 ∧ (∃ P8 : rp_M → Prop, rp_Run E YX4_copyFrom [.ref 0, .ref (10 * (1 + Int32.toNatClampNeg (M2 154 3)))] M2 (rp_P0 P8) ∧ (∀ M6, P8 M6 → (∀ M10, M10 = rp_s M6 139 9 0 → rp_P (fun r M' => r = nI (g.2.1.length - 1) ∧ IX (g.2.1.getLast hne, g.2.1.dropLast, g.2.2) M' ∧ keepM M M') (some (M10 154 2)) M10)))) := by
      intro nk' ek M1 e1 M2 e2
      have t3 : M2 154 3 = nI nk' := by rw [e2, rp_s_ne (by omega), e1, rp_s_at]
      have t2 : M2 154 2 = nI (g.2.1.length - 1) := by
        rw [e2, rp_s_at, e1, rp_s_ne (by omega), a3]
        exact nI_p1 (by omega)
      rw [t3, nI_clamp (by omega)]
      refine ⟨nI_inb (by omega) (by omega), cpd 0 (1 + nk') M2, d0_copy E (a := 0) (b := 1 + nk') (by omega) (by omega) (by omega), fun M3 c3 M4 e4 => ?_⟩
      have kc := c3.2.2.2
      have er : rix nk g.2.1.length (g.2.1.length - 1) = nk' := by unfold rix; omega
      rw [er] at hrl
      have k2 : ∀ k, k ≠ 154 → M2 k = M k := fun k hk => by rw [e2, rp_s_cell hk, e1, rp_s_cell hk]
      have r3 : RX (g.2.1.getLast hne) (10 * 0) M3 := c3.RX hws1.n12 (hrl.keep (fun k k1 k2' => k2 k (by omega)))
      have k4 : ∀ k, 10 ≤ k → k ≠ 139 → k ≠ 154 → M4 k = M k := fun k h1 h2 h3 => by rw [e4, rp_s_cell h2, kc k (by omega), k2 k h3]
      have t42 : M4 154 2 = nI (g.2.1.length - 1) := by rw [e4, rp_s_ne (by omega), kc 154 (by omega)]; exact t2
      have t43 : M4 154 3 = nI nk' := by rw [e4, rp_s_ne (by omega), kc 154 (by omega)]; exact t3
      refine ⟨_, rfl, t42, ⟨(R0_RX.mpr r3).keep (fun k hk => by rw [e4, rp_s_cell (by omega)]), ⟨nk', by omega, t43, ?_, fun j s hj => ?_⟩, ⟨by rw [k4 131 (by omega) (by omega) (by omega)]; exact i3.1, fun i c hi => by rw [k4 132 (by omega) (by omega) (by omega)]; exact i3.2 i c hi⟩, Or.inl (by rw [e4, rp_s_at])⟩, fun k hk => k4 k (by omega) (by omega) (by omega)⟩
      · rw [t42, List.length_dropLast]
      · have hj : g.2.1.dropLast[j]? = some s := hj
        have hjl : j < g.2.1.dropLast.length := (List.getElem?_eq_some_iff.mp hj).1
        rw [List.length_dropLast] at hjl ⊢
        rw [List.getElem?_dropLast, if_pos (by omega)] at hj
        have ee : rix nk' (g.2.1.length - 1) j = rix nk g.2.1.length j := by unfold rix; omega
        rw [ee]
        have hm : rix nk g.2.1.length j < 12 := Nat.mod_lt _ (by omega)
        exact (a4 j s hj).keep (fun k k1 k2 => k4 k (by omega) (by omega) (by omega))
    refine ⟨fun h0 => ?_, fun h0 => fin 11 (by omega)⟩
    rw [nI_p1 (show 0 < nk by omega)]
    exact fin (nk - 1) (by omega)
  · have hnil : g.2.1 = [] := List.eq_nil_of_length_eq_zero h
    have ea : a_undo g = (-5) := if_pos h
    have hgu : g_undo g = g := by unfold g_undo; rw [hnil]; rfl
    rw [ea, hgu]
    exact ⟨_, rfl, rfl, hI0, fun _ _ => rfl⟩
theorem d5_count (E : rp_E) {M : rp_M} {g : rs_G} (hW : WG g) (hI : IX g M) (w : Int32) : rp_Run E YX5_count [.ref 154, .int w] M (rp_P (fun r M' => r = a_count g w ∧ M' = M)) := by
  have hw := hW.1
  have hn := hw.n12
  have h2 := hw.two
  obtain ⟨r1, r2, r3, r4, r5⟩ := hI.1
  obtain ⟨nk, a1, a2, a3, a4⟩ := hI.2.1
  have ok : ∀ (v a : Int32), a = v → rp_P (fun v M' => v = a ∧ M' = M) (some v) M := fun v a e => ⟨v, rfl, e.symm, rfl⟩
  refine vX5_count E _ M w ⟨fun h => ?_, fun h => ?_, fun h => ?_, fun h => ?_, fun h => ?_, fun h => ?_, fun h => ?_, fun h => ?_, fun h0 h1 h2 h3 h4 h5 h6 h7 => ok _ _ ?_⟩
  · subst h
    exact ok _ _ r1.symm
  · subst h
    exact ⟨rp_vi (by decide), ok _ _ r2.symm⟩
  · subst h
    exact ⟨rp_vi (by decide), ok _ _ r3.symm⟩
  · subst h
    exact ⟨rp_vi (by decide), ok _ _ r4.symm⟩
  · subst h
    exact ⟨_, _, c0_bitsIn E hw hI.1 (r := 7) (by omega) rfl (zf g.1) (fun k hk => ⟨(r5 k hk).2.2.1, by have := (hw.it hk).2.2.2.2.2.2.2.1; omega⟩), ok _ _ rfl⟩
  · subst h
    exact ⟨_, _, c0_bitsIn E hw hI.1 (r := 8) (by omega) rfl (zd g.1) (fun k hk => ⟨(r5 k hk).2.2.2, by have := (hw.it hk).2.2.2.2.2.2.2.2.1; omega⟩), ok _ _ rfl⟩
  · subst h
    exact ok _ _ hI.2.2.1.1.symm
  · subst h
    exact ok _ _ a3.symm
  · unfold a_count
    rw [if_neg h0, if_neg h1, if_neg h2, if_neg h3, if_neg h4, if_neg h5, if_neg h6, if_neg h7]
/-- IX speaks of the pad's rows 131 (place 1) and 132 alone -/
theorem IX_pad {g : rs_G} {M M' : rp_M} (h : IX g M) {pd : List Nat} (hp : PX pd M') (hk : ∀ k, k ≠ 131 → k ≠ 132 → (k < 133 ∨ 138 < k) → M' k = M k) : IX (g.1, g.2.1, pd) M' := by
  obtain ⟨i1, i2, -, i4⟩ := h
  refine ⟨i1.keep (fun k q => hk k (by omega) (by omega) (by omega)), i2.keep (fun k k1 k2 => hk k (by omega) (by omega) (by omega)) (by rw [hk 154 (by omega) (by omega) (by omega)]) (by rw [hk 154 (by omega) (by omega) (by omega)]), hp, ?_⟩
  rw [show M' 139 = M 139 from hk 139 (by omega) (by omega) (by omega)]
  rcases i4 with q | q
  · exact Or.inl q
  · refine Or.inr ⟨q.1, ?_⟩
    obtain ⟨-, t1, t2, t3⟩ := q
    refine ⟨by rw [hk 139 (by omega) (by omega) (by omega)]; exact t1, by rw [hk 139 (by omega) (by omega) (by omega)]; exact t2, fun c hc => ?_⟩
    rw [hk 140 (by omega) (by omega) (by omega), hk 141 (by omega) (by omega) (by omega), hk 142 (by omega) (by omega) (by omega), hk 143 (by omega) (by omega) (by omega)]
    exact t3 c hc
theorem d5_wipe (E : rp_E) {M : rp_M} {g : rs_G} (hI : IX g M) : rp_Run E YX5_wipe [.ref 154] M (rp_P (fun v M' => v = nI g.2.2.length ∧ IX (g_wipe g) M' ∧ keepM M M')) := by
  refine vX5_wipe E _ M (fun M1 e1 => ⟨_, rfl, hI.2.2.1.1, IX_pad hI ⟨by rw [e1, rp_s_at]; rfl, fun i c hi => by cases hi⟩ (fun k h1 _ _ => by rw [e1, rp_s_cell h1]), fun k hk => by rw [e1, rp_s_cell (by omega)]⟩)
theorem c1_lengthOf (E : rp_E) (M : rp_M) (x : Int64) : rp_C E YX1_lengthOf [.long x] M (some (nI (chm (uN x)))) M := by
  refine rp_C_of (fun post hpost => vX1_lengthOf E post M _ ?_)
  have main : ∀ f m : Nat, m + f = 8 → ∀ y : Int64, chm (uN x) = ((chl f (uN y)).map (· + m)).getD 0 → rp_G E YX1_lengthOf post 8 [.null, .null, .long y, .null, .int (nI m), .int (nI m), .null] [] M := by
    intro f
    induction f with
    | zero =>
      intro m hm y hy
      refine vX1_lengthOf_8 E _ M _ _ _ ⟨fun _ => ?_, fun h => absurd (show (8 : Int32) ≤ nI m by rw [show m = 8 by omega]; decide) h⟩
      rw [lcmp0]
      unfold chl at hy
      refine ⟨fun q => ?_, fun q => ?_⟩
      · rw [if_neg q] at hy
        rw [hy] at hpost
        exact hpost
      · rw [if_pos q] at hy
        rw [hy] at hpost
        rw [show m = ((some 0).map (· + m)).getD 0 from (Nat.zero_add m).symm]
        exact hpost
    | succ f ih =>
      intro m hm y hy
      refine vX1_lengthOf_8 E _ M _ _ _ ?_
      rw [show (8 : Int32) = nI 8 by rfl, nI_leI (by omega) (by omega), show nI 8 = (8 : Int32) by rfl]
      refine ⟨fun h => absurd h (by omega), fun _ => ?_⟩
      have e1 : Int64.toInt32 (y &&& 255) = nI (uN y % 256) := by
        rw [uN_i32 (by rw [uN_and]; omega), uN_and]
      have hy2 := hy
      rw [lcmp0, uN_and, lcmp0, e1, show (33 : Int32) = nI 33 by rfl, show (126 : Int32) = nI 126 by rfl, nI_ltI (by omega) (by omega), nI_leI (by omega) (by omega)]
      unfold chl at hy
      refine ⟨fun h => ⟨fun q => ?_, fun q => ?_⟩, fun h => ⟨fun q => ?_, fun q => ⟨fun z => ?_, fun z => ?_⟩⟩⟩
      · rw [if_pos h, if_neg q] at hy
        rw [hy] at hpost
        exact hpost
      · rw [if_pos h, if_pos q] at hy
        rw [hy] at hpost
        rw [show m = ((some 0).map (· + m)).getD 0 from (Nat.zero_add m).symm]
        exact hpost
      · rw [if_neg h, if_neg (by omega)] at hy
        rw [hy] at hpost
        exact hpost
      · rw [nI_1]
        refine ih (m + 1) (by omega) (rp_lush y 8) ?_
        rw [hy, uN_ushr (x := y) (y := 8) (k := 8) (by omega) rfl, if_neg h, if_pos (by omega)]
        show ((Option.map (· + 1) (chl f (uN y / 256))).map (· + m)).getD 0 = ((chl f (uN y / 256)).map (· + (m + 1))).getD 0
        cases chl f (uN y / 256) with
        | none => rfl
        | some k => show k + 1 + m = k + (m + 1); omega
      · rw [if_neg h, if_neg (by omega)] at hy
        rw [hy] at hpost
        exact hpost
  refine main 8 0 rfl x ?_
  unfold chm
  cases chl 8 (uN x) with
  | none => rfl
  | some k => rfl
theorem d1_append (E : rp_E) {M : rp_M} {L m : Nat} {x : Int64} (h1 : M 131 1 = nI L) (hL : L + m ≤ 80) (hm : m ≤ 8) (hm0 : 0 < m) : rp_Run E YX1_append [.ref 131, .long x, .int (nI m)] M (rp_P0 (fun M' => M' 131 1 = nI (L + m) ∧ (∀ i, i < L → M' 132 i = M 132 i) ∧ (∀ i, i < m → M' 132 (L + i) = nI (uN x / 2 ^ (8 * (m - 1 - i)) % 256)) ∧ ∀ k, k ≠ 131 → k ≠ 132 → M' k = M k)) := by
  refine vX1_append E _ M _ _ ?_
  suffices key : ∀ j, j ≤ m → ∀ M1 : rp_M, M1 131 1 = nI (L + j) → (∀ i, i < L → M1 132 i = M 132 i) → (∀ i, i < j → M1 132 (L + i) = nI (uN x / 2 ^ (8 * (m - 1 - i)) % 256)) → (∀ k, k ≠ 131 → k ≠ 132 → M1 k = M k) → rp_G E YX1_append (rp_P0 (fun M' => M' 131 1 = nI (L + m) ∧ (∀ i, i < L → M' 132 i = M 132 i) ∧ (∀ i, i < m → M' 132 (L + i) = nI (uN x / 2 ^ (8 * (m - 1 - i)) % 256)) ∧ ∀ k, k ≠ 131 → k ≠ 132 → M' k = M k)) 5 [.ref 131, .long x, .null, .null, .int (nI (m - j) - 1)] [] M1 from key 0 (Nat.zero_le _) M h1 (fun _ _ => rfl) (fun i hi => absurd hi (by omega)) (fun _ _ _ => rfl)
  refine up_loop (fun j hj ih M1 q1 q2 q3 q4 => vX1_append_5 E _ M1 _ _ ?_)
  rw [q1, Int32.lt_d, Int32.toInt_zero, nI_m1 (by omega)]
  refine ⟨fun h => ?_, fun h => ?_⟩
  · have e : j = m := by omega
    subst e
    exact ⟨rfl, q1, q2, q3, q4⟩
  · have hj2 : j < m := by omega
    rw [show (80 : Int32) = nI 80 by rfl, nI_leI (by omega) (by omega)]
    refine ⟨fun z => absurd z (by omega), fun _ => ⟨nI_inb (by omega) (by omega), fun M2 e2 M3 e3 => ?_⟩⟩
    rw [nI_clamp (by omega), nI_p1 (show 0 < m - j by omega), show (8 : Int32) * nI (m - j - 1) = nI (8 * (m - j - 1)) from pk_mul 8 _] at e2
    have ev : Int64.toInt32 (rp_lush x (nI (8 * (m - j - 1))) &&& 255) = nI (uN x / 2 ^ (8 * (m - 1 - j)) % 256) := by
      rw [uN_i32 (by rw [uN_and]; omega), uN_and, uN_ushr (k := 8 * (m - j - 1)) (by omega) rfl, show m - j - 1 = m - 1 - j by omega]
    rw [ev] at e2
    have en : nI (m - j) - 1 + (-1) = nI (m - (j + 1)) - 1 := by
      rw [nI_p1 (show 0 < m - j by omega), show m - j - 1 = m - (j + 1) by omega]
      exact (Int32.sub_eq_add_neg _ _).symm
    rw [en]
    refine ih hj2 M3 ?_ (fun i hi => by rw [e3, rp_s_ne (by omega), e2, rp_s_ne (by omega), q2 i hi]) (fun i hi => ?_) (fun k k1 k2 => by rw [e3, rp_s_cell k1, e2, rp_s_cell k2, q4 k k1 k2])
    · rw [e3, rp_s_at, e2, rp_s_ne (by omega), q1, nI_1]
      rfl
    · rw [e3, rp_s_ne (by omega)]
      by_cases z : i = j
      · rw [e2, z, rp_s_at]
      · rw [e2, rp_s_ne (by omega)]
        exact q3 i (by omega)
theorem d5_put (E : rp_E) {M : rp_M} {g : rs_G} (hW : WG g) (hI : IX g M) (x : Int64) : rp_Run E YX5_put [.ref 154, .long x] M (rp_P (fun v M' => v = a_put g x ∧ IX (g_put g x) M' ∧ keepM M M')) := by
  have hl := hW.2.2.2.1
  have hc := chm_le (uN x)
  refine vX5_put E _ M _ ⟨_, _, c1_lengthOf E M x, ?_⟩
  rw [show (0 : Int32) = nI 0 by rfl, nI_eq (by omega) (by omega), hI.2.2.1.1, nI_add, show (80 : Int32) = nI 80 by rfl, nI_leI (by omega) (by omega)]
  refine ⟨fun h => ⟨fun z => ⟨_, d1_append E hI.2.2.1.1 z hc (by omega), fun M1 q => ?_⟩, fun z => ?_⟩, fun h => ?_⟩
  · obtain ⟨q1, q2, q3, q4⟩ := q
    unfold a_put g_put
    rw [if_neg h, if_neg h, if_pos z, if_pos z]
    refine ⟨_, rfl, q1, IX_pad hI ⟨?_, fun i c hi => ?_⟩ (fun k k1 k2 _ => q4 k k1 k2), fun k hk => q4 k (by omega) (by omega)⟩
    · rw [q1, List.length_append, chs_len]
    · by_cases w : i < g.2.2.length
      · rw [List.getElem?_append_left w] at hi
        rw [q2 i w]
        exact hI.2.2.1.2 i c hi
      · rw [List.getElem?_append_right (by omega)] at hi
        have w2 : i - g.2.2.length < chm (uN x) := by
          apply Classical.byContradiction
          intro z
          rw [List.getElem?_eq_none (by rw [chs_len]; omega)] at hi
          cases hi
        rw [chs_at w2] at hi
        cases hi
        have := q3 (i - g.2.2.length) w2
        rw [show g.2.2.length + (i - g.2.2.length) = i by omega] at this
        exact this
  · unfold a_put g_put
    rw [if_neg h, if_neg h, if_neg z, if_neg z]
    exact ⟨_, rfl, rfl, hI, fun _ _ => rfl⟩
  · unfold a_put g_put
    rw [if_pos h, if_pos h]
    exact ⟨_, rfl, rfl, hI, fun _ _ => rfl⟩
