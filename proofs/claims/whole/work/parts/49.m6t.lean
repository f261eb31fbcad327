/-! THE REFERENCE, 8: the calls that change the state -/
def keepX (M M' : rp_M) : Prop := ∀ k, k < 155 → M' k = M k
theorem d6_add (E : rp_E) {M : rp_M} {g : rs_G} (hW : WG g) (hI : IM g M) (x y z u : Int32) : rp_Run E YX6_add [.ref 155, .int x, .int y, .int z, .int u] M (rp_P (fun v M' => v = a_add g.1 x y z u ∧ IM (gnew g (nq_add g.1 x y z u)) M' ∧ keepX M M')) := by
  have hw := hW.1
  have hn := hw.n12
  have bad : ¬ addOk x y z u → rp_P (fun v M' => v = a_add g.1 x y z u ∧ IM (gnew g (nq_add g.1 x y z u)) M' ∧ keepX M M') (some (-2)) M := fun h => by
    have e1 : a_add g.1 x y z u = (-2) := if_neg (fun q => h (pB_t.mp q))
    have e2 : nq_add g.1 x y z u = none := if_neg (fun q => h (pB_t.mp q))
    rw [e1, e2]
    exact ⟨_, rfl, rfl, hI, fun _ _ => rfl⟩
  refine vX6_add E _ M x y z u ⟨_, _, c_in E M _ _ _, ?_⟩
  rw [bI_n, bI_0, decide_eq_true_eq, decide_eq_false_iff_not, show (1 : Int32).toInt = 1 by decide, show (999 : Int32).toInt = 999 by decide]
  refine ⟨fun h1 => bad (fun q => h1 q.1), fun h1 => ⟨_, _, c_in E M _ _ _, ?_⟩⟩
  rw [bI_n, bI_0, decide_eq_true_eq, decide_eq_false_iff_not, show (1 : Int32).toInt = 1 by decide, show (999 : Int32).toInt = 999 by decide]
  refine ⟨fun h2 => bad (fun q => h2 q.2.1), fun h2 => ⟨_, _, c_in E M _ _ _, ?_⟩⟩
  rw [bI_n, bI_0, decide_eq_true_eq, decide_eq_false_iff_not, show (0 : Int32).toInt = 0 by decide, show (999 : Int32).toInt = 999 by decide]
  refine ⟨fun h3 => bad (fun q => h3 q.2.2.1), fun h3 => ⟨_, _, c_in E M _ _ _, ?_⟩⟩
  rw [bI_n, bI_0, decide_eq_true_eq, decide_eq_false_iff_not, show (0 : Int32).toInt = 0 by decide, show (999 : Int32).toInt = 999 by decide]
  refine ⟨fun h4 => ?_, fun h4 => bad (fun q => h4 q.2.2.2)⟩
  have ok : addOk x y z u := ⟨h1, h2, h3, h4⟩
  rw [hI.1.1, show (12 : Int32) = nI 12 by rfl, nI_eq (by omega) (by omega)]
  have e1 : a_add g.1 x y z u = if zn g.1 = 12 then (-4) else nI (zn g.1) := if_pos (pB_t.mpr ok)
  have e2 : nq_add g.1 x y z u = if zn g.1 = 12 then none else some (zadd g.1 x.toNatClampNeg y.toNatClampNeg z.toNatClampNeg u.toNatClampNeg 4) := if_pos (pB_t.mpr ok)
  rw [e1, e2]
  refine ⟨fun h5 => ⟨_, d_record E hW hI, fun M1 q => ?_⟩, fun h5 => ?_⟩
  · obtain ⟨i1, k1, -⟩ := q
    rw [if_neg h5, if_neg h5]
    have hr1 : RM g.1 (M1 156) := i1.1
    have h := d_append6 E hw hr1 (by omega) x.toNatClampNeg y.toNatClampNeg z.toNatClampNeg u.toNatClampNeg 4
    rw [← (rng_nat h1 (by decide)).2.2, ← (rng_nat h2 (by decide)).2.2, ← (rng_nat h3 (by decide)).2.2, ← (rng_nat h4 (by decide)).2.2] at h
    refine ⟨_, h, fun M2 q => ?_⟩
    obtain ⟨r2, k2⟩ := q
    refine ⟨_, rfl, ?_, IM_row i1 r2 k2, fun k hk => by rw [k2 k (by omega), k1 k (by omega) (by omega)]⟩
    rw [r2.1]
    show nI (zn g.1 + 1) - 1 = nI (zn g.1)
    exact nI_pred _
  · rw [if_pos h5, if_pos h5]
    exact ⟨_, rfl, rfl, hI, fun _ _ => rfl⟩
theorem pval_RM {S : rs_S} {f : Nat → Int32} (hr : RM S f) {k p : Nat} (hk : k < zn S) (hp : p < 5) : f (4 + 5 * k + p) = pval S p k := by
  obtain ⟨a1, a2, -, -⟩ := hr.2.2.2.2 k hk
  unfold pval
  by_cases e : p < 4
  · rw [if_pos e]
    exact a1 p e
  · have : p = 4 := by omega
    subst this
    rw [if_neg e]
    exact a2
theorem RM_zset {S : rs_S} {f : Nat → Int32} (hn : zn S ≤ 12) (hr : RM S f) {k p v : Nat} (hk : k < zn S) (hp : p < 5) : RM (zset S p k v) (upd f (4 + 5 * k + p) (if p < 4 then nI v else gM v)) := by
  obtain ⟨h1, h2, h3, h4, h5⟩ := hr
  refine ⟨(pk_un (by omega)).trans h1, (pk_un (by omega)).trans h2, (pk_un (by omega)).trans h3, (pk_un (by omega)).trans h4, fun j hj => ?_⟩
  have hj' : j < zn S := hj
  obtain ⟨a1, a2, a3, a4⟩ := h5 j hj
  refine ⟨fun q hq => ?_, ?_, (pk_un (by omega)).trans a3, (pk_un (by omega)).trans a4⟩
  · rw [zset_p]
    by_cases e : q = p ∧ j = k
    · obtain ⟨e1, e2⟩ := e
      subst e1
      subst e2
      rw [pk_us, if_pos hq, if_pos (show q = q ∧ j = j from ⟨rfl, rfl⟩)]
    · rw [if_neg e, pk_un (by omega)]
      exact a1 q hq
  · rw [zset_p]
    by_cases e : 4 = p ∧ j = k
    · obtain ⟨e1, e2⟩ := e
      subst e1
      subst e2
      rw [pk_us, if_neg (show ¬ 4 < 4 by omega), if_pos (show 4 = 4 ∧ j = j from ⟨rfl, rfl⟩)]
    · rw [if_neg e, pk_un (by omega)]
      exact a2
theorem c_isProperty (E : rp_E) (M : rp_M) (p v : Int32) : rp_C E YX6_isProperty [.int p, .int v] M (some (bI (pB (propOk p v)))) M := by
  refine rp_C_of (fun post hpost => vX6_isProperty E post M p v ?_)
  have go : ∀ b : Bool, (b = true ↔ propOk p v) → post (some (bI b)) M := fun b hb => by
    have e : pB (propOk p v) = b := by
      cases b with
      | true => exact pB_t.mpr (hb.mp rfl)
      | false => exact pB_f.mpr (fun q => by have := hb.mpr q; cases this)
    rw [e] at hpost
    exact hpost
  have i1 : (1 : Int32).toInt = 1 := by decide
  have i9 : (999 : Int32).toInt = 999 := by decide
  have i0 : (0 : Int32).toInt = 0 := by decide
  have i3 : (3 : Int32).toInt = 3 := by decide
  have im : (-1 : Int32).toInt = -1 := by decide
  refine ⟨fun h => ⟨_, _, c_in E M _ _ _, bI_nar _, go _ ?_⟩, fun h => ⟨_, _, c_in E M _ _ _, bI_nar _, go _ ?_⟩, fun h => ⟨_, _, c_in E M _ _ _, bI_nar _, go _ ?_⟩, fun h => ⟨_, _, c_in E M _ _ _, bI_nar _, go _ ?_⟩, fun h0 h1 h2 h3 => ⟨fun h4 => go false ⟨fun q => (by cases q), fun q => ?_⟩, fun h4 => ⟨_, _, c_in E M _ _ _, ?_⟩⟩⟩
  · rw [decide_eq_true_eq, i1, i9]
    refine ⟨fun q => Or.inl ⟨Or.inl h, q⟩, fun q => ?_⟩
    rcases q with q | q | q
    · exact q.2
    · rw [h] at q
      rcases q.1 with z | z <;> exact absurd z (by decide)
    · rw [h] at q
      exact absurd q.1 (by decide)
  · rw [decide_eq_true_eq, i1, i9]
    refine ⟨fun q => Or.inl ⟨Or.inr h, q⟩, fun q => ?_⟩
    rcases q with q | q | q
    · exact q.2
    · rw [h] at q
      rcases q.1 with z | z <;> exact absurd z (by decide)
    · rw [h] at q
      exact absurd q.1 (by decide)
  · rw [decide_eq_true_eq, i0, i9]
    refine ⟨fun q => Or.inr (Or.inl ⟨Or.inl h, q⟩), fun q => ?_⟩
    rcases q with q | q | q
    · rw [h] at q
      rcases q.1 with z | z <;> exact absurd z (by decide)
    · exact q.2
    · rw [h] at q
      exact absurd q.1 (by decide)
  · rw [decide_eq_true_eq, i0, i9]
    refine ⟨fun q => Or.inr (Or.inl ⟨Or.inr h, q⟩), fun q => ?_⟩
    rcases q with q | q | q
    · rw [h] at q
      rcases q.1 with z | z <;> exact absurd z (by decide)
    · exact q.2
    · rw [h] at q
      exact absurd q.1 (by decide)
  · rcases q with q | q | q
    · exact absurd q.1 (fun z => z.elim h0 h1)
    · exact absurd q.1 (fun z => z.elim h2 h3)
    · exact absurd q.1 h4
  · rw [bI_n, bI_0, decide_eq_true_eq, decide_eq_false_iff_not, im, i3]
    refine ⟨fun h5 => go false ⟨fun q => (by cases q), fun q => ?_⟩, fun h5 => go true ⟨fun _ => Or.inr (Or.inr ⟨h4, h5⟩), fun _ => rfl⟩⟩
    rcases q with q | q | q
    · exact absurd q.1 (fun z => z.elim h0 h1)
    · exact absurd q.1 (fun z => z.elim h2 h3)
    · exact absurd q.2 h5
theorem d6_set (E : rp_E) {M : rp_M} {g : rs_G} (hW : WG g) (hI : IM g M) (x p v : Int32) : rp_Run E YX6_set [.ref 155, .int x, .int p, .int v] M (rp_P (fun r M' => r = a_set g.1 x p v ∧ IM (gnew g (nq_set g.1 x p v)) M' ∧ keepX M M')) := by
  have hw := hW.1
  have hn := hw.n12
  refine vX6_set E _ M x p v ⟨_, _, c_isItem E hn hI.1.1 x, ?_⟩
  rw [bI_n, bI_0]
  refine ⟨fun hx => ⟨_, _, c_isProperty E M p v, ?_⟩, fun hx => ?_⟩
  · rw [bI_n, bI_0]
    have e1 : a_set g.1 x p v = _ := if_pos hx
    rw [e1]
    refine ⟨fun hp => ⟨_, d_record E hW hI, fun M1 q => ?_⟩, fun hp => ?_⟩
    · obtain ⟨i1, k1, -⟩ := q
      have hr1 : RM g.1 (M1 156) := i1.1
      obtain ⟨q, q1, q2, q3, q4, q5, q6, q7⟩ := propOk_p (pB_t.mp hp)
      obtain ⟨i, hi, e⟩ := isI_of (by omega) hx
      have e2 : nq_set g.1 x p v = some (zset g.1 p.toNatClampNeg x.toNatClampNeg (vnat v)) := if_pos ⟨hx, hp⟩
      rw [if_pos hp, e2, e, q2, nI_clamp (by omega), nI_clamp (by omega)]
      refine ⟨_, _, c_ofR E M1 (by omega) q1, ?_⟩
      rw [of_at (by omega) q1, nI_clamp (by omega), pval_RM hr1 hi q1]
      have fin : ∀ y : Int32, y = (if q < 4 then nI (vnat v) else gM (vnat v)) → ∀ M2, M2 = rp_s M1 156 (4 + 5 * i + q) y → rp_P (fun r M' => r = pval g.1 q i ∧ IM (gnew g (some (zset g.1 q i (vnat v)))) M' ∧ keepX M M') (some (pval g.1 q i)) M2 := fun y hy M2 e3 => by
        refine ⟨_, rfl, rfl, IM_row i1 ?_ (fun k hk => by rw [e3, rp_s_cell hk]), fun k hk => by rw [e3, rp_s_cell (by omega), k1 k (by omega) (by omega)]⟩
        rw [e3, rp_s_row1, hy]
        exact RM_zset hn hr1 hi q1
      refine ⟨fun h => ⟨nI_inb (by omega) (by omega), fun M2 e3 => fin _ ?_ M2 e3⟩, fun h => ⟨nI_inb (by omega) (by omega), fun M2 e3 => fin _ ?_ M2 e3⟩⟩
      · rw [Int32.le_d, Int32.toInt_zero] at h
        by_cases hq : q < 4
        · rw [if_pos hq]
          exact (q6 hq).1
        · rw [if_neg hq]
          have r := q7 (by omega)
          have ev : vnat v = v.toNatClampNeg := if_neg (by omega)
          have := clamp_int h
          have := r.2
          rw [ev]
          unfold gM
          rw [if_pos (by omega)]
          exact toNat_nI h
      · rw [Int32.le_d, Int32.toInt_zero] at h
        by_cases hq : q < 4
        · exact absurd (q6 hq).2 h
        · rw [if_neg hq]
          have ev : vnat v = 4 := if_pos (by omega)
          rw [ev]
          rfl
    · have e2 : nq_set g.1 x p v = none := if_neg (fun q => by rw [hp] at q; cases q.2)
      rw [if_neg (by rw [hp]; decide), e2]
      exact ⟨_, rfl, rfl, hI, fun _ _ => rfl⟩
  · have e1 : a_set g.1 x p v = (-1) := if_neg (by rw [hx]; decide)
    have e2 : nq_set g.1 x p v = none := if_neg (fun q => by rw [hx] at q; cases q.1)
    rw [e1, e2]
    exact ⟨_, rfl, rfl, hI, fun _ _ => rfl⟩
