/-! THE REFERENCE, 9: item, conflict, need, rule, undo, count -/
theorem c_neededBy (E : rp_E) {M : rp_M} {S : rs_S} (hw : Wf S) (hr : RM S (M 156)) {i : Nat} (hi : i < 12) : rp_C E YX6_neededBy [.ref 155, .int (nI i)] M (some (nI (nby S i (zn S)))) M := by
  have hn := hw.n12
  have h2 := hw.two
  refine rp_C_of (fun post hpost => vX6_neededBy E post M _ ?_)
  suffices key : ∀ j, j ≤ zn S → rp_G E YX6_neededBy post 4 [.ref 155, .int (nI i), .int (nI (nby S i j)), .int (nI j)] [] M from key 0 (Nat.zero_le _)
  refine up_loop (fun j hj ih => vX6_neededBy_4 E post M _ _ _ ?_)
  rw [hr.1, nI_leI (by omega) (by omega)]
  refine ⟨fun h => ?_, fun h => ?_⟩
  · have e : j = zn S := by omega
    subst e
    exact hpost
  · have ih := ih (by omega)
    have en : nby S i (j + 1) = nby S i j ||| (if (zd S j).testBit i then 2 ^ j else 0) := rfl
    have hd := (hw.it (show j < zn S by omega)).2.2.2.2.2.2.2.2.1
    rw [en] at ih
    rw [show (76 : Int32) = nI 76 by rfl, nI_add, nI_clamp (by omega), (hr.2.2.2.2 j (by omega)).2.2.2, nI_1]
    refine ⟨nI_inb (by omega) (by omega), _, _, c_has E M (by omega) (by omega), ?_⟩
    rw [bI_n, bI_0]
    refine ⟨fun h3 => ?_, fun h3 => ?_⟩
    · rw [h3] at ih
      rw [show (0 : Int32) = nI 0 by rfl, nI_or]
      exact ih
    · rw [if_pos h3] at ih
      rw [nI_one_shl (by omega), nI_or]
      exact ih
theorem d6_item (E : rp_E) {M : rp_M} {S : rs_S} (hw : Wf S) (hr : RM S (M 156)) (x p : Int32) : rp_Run E YX6_item [.ref 155, .int x, .int p] M (rp_P (fun r M' => r = a_item S x p ∧ scrM M M')) := by
  have hn := hw.n12
  have ok : ∀ (v a : Int32), a = v → rp_P (fun v M' => v = a ∧ scrM M M') (some v) M := fun v a e => ⟨v, rfl, e.symm, scrM.rf M⟩
  refine vX6_item E _ M x p ⟨_, _, c_isItem E hn hr.1 x, ?_⟩
  rw [bI_n, bI_0]
  refine ⟨fun hx => ?_, fun hx => ok _ _ (if_neg (by rw [hx]; decide))⟩
  have ea : a_item S x p = _ := if_pos hx
  rw [ea]
  clear ea
  obtain ⟨i, hi, e⟩ := isI_of (by omega) hx
  rw [e, nI_clamp (by omega), show (64 : Int32) = nI 64 by rfl, show (76 : Int32) = nI 76 by rfl, nI_add, nI_add, nI_clamp (by omega), nI_clamp (by omega), (hr.2.2.2.2 i hi).2.2.2, (hr.2.2.2.2 i hi).2.2.1]
  have low : ∀ q, q < 5 → p = nI q → ∃ v M', rp_C E YX6_of [.ref 155, .int (nI i), .int p] M (some v) M' ∧ rp_P (fun v M' => v = (if isI 5 p = true then pval S p.toNatClampNeg i else if p = 5 then nI (zf S i) else if p = 6 then nI (zd S i) else if p = 7 then nI (nby S i (zn S)) else (-2)) ∧ scrM M M') (some v) M' := fun q hq hp => by
    rw [hp]
    refine ⟨_, _, c_ofR E M (by omega) hq, ok _ _ ?_⟩
    rw [if_pos (isI_nI hq (by decide)), nI_clamp (by omega), pval_RM hr hi hq]
  refine ⟨low 0 (by omega), low 1 (by omega), low 2 (by omega), low 3 (by omega), low 4 (by omega), fun h => ⟨nI_inb (by omega) (by omega), ok _ _ ?_⟩, fun h => ⟨nI_inb (by omega) (by omega), ok _ _ ?_⟩, fun h => ⟨_, _, c_neededBy E hw hr (by omega), ok _ _ ?_⟩, fun h0 h1 h2 h3 h4 h5 h6 h7 => ok _ _ ?_⟩
  · rw [h]
    rfl
  · rw [h]
    rfl
  · rw [h]
    rfl
  · have hno : ¬ isI 5 p = true := fun q => by
      obtain ⟨j, hj, ej⟩ := isI_of (by decide) q
      match j, hj with
      | 0, _ => exact h0 ej
      | 1, _ => exact h1 ej
      | 2, _ => exact h2 ej
      | 3, _ => exact h3 ej
      | 4, _ => exact h4 ej
    rw [if_neg hno, if_neg h5, if_neg h6, if_neg h7]
theorem RM_con {S : rs_S} {f f' : Nat → Int32} (hn : zn S ≤ 12) (hr : RM S f) {a b : Nat} (ha : a < zn S) (hb : b < zn S) (hab : a ≠ b) (h1 : f' (64 + a) = nI (ztog (zf S a) b)) (h2 : f' (64 + b) = nI (ztog (zf S b) a)) (h3 : ∀ q, q ≠ 64 + a → q ≠ 64 + b → f' q = f q) : RM (zcon S a b) f' := by
  obtain ⟨r1, r2, r3, r4, r5⟩ := hr
  refine ⟨(h3 _ (by omega) (by omega)).trans r1, (h3 _ (by omega) (by omega)).trans r2, (h3 _ (by omega) (by omega)).trans r3, (h3 _ (by omega) (by omega)).trans r4, fun k hk => ?_⟩
  have hk : k < zn S := hk
  obtain ⟨a1, a2, a3, a4⟩ := r5 k hk
  refine ⟨fun p hp => (h3 _ (by omega) (by omega)).trans (a1 p hp), (h3 _ (by omega) (by omega)).trans a2, ?_, (h3 _ (by omega) (by omega)).trans a4⟩
  show f' (64 + k) = nI (if k = a then ztog (zf S a) b else if k = b then ztog (zf S b) a else zf S k)
  by_cases e1 : k = a
  · subst e1
    rw [if_pos rfl]
    exact h1
  · rw [if_neg e1]
    by_cases e2 : k = b
    · subst e2
      rw [if_pos rfl]
      exact h2
    · rw [if_neg e2, h3 _ (by omega) (by omega)]
      exact a3
theorem RM_nee {S : rs_S} {f f' : Nat → Int32} (hn : zn S ≤ 12) (hr : RM S f) {a b : Nat} (ha : a < zn S) (h1 : f' (76 + a) = nI (ztog (zd S a) b)) (h3 : ∀ q, q ≠ 76 + a → f' q = f q) : RM (znee S a b) f' := by
  obtain ⟨r1, r2, r3, r4, r5⟩ := hr
  refine ⟨(h3 _ (by omega)).trans r1, (h3 _ (by omega)).trans r2, (h3 _ (by omega)).trans r3, (h3 _ (by omega)).trans r4, fun k hk => ?_⟩
  have hk : k < zn S := hk
  obtain ⟨a1, a2, a3, a4⟩ := r5 k hk
  refine ⟨fun p hp => (h3 _ (by omega)).trans (a1 p hp), (h3 _ (by omega)).trans a2, (h3 _ (by omega)).trans a3, ?_⟩
  show f' (76 + k) = nI (if k = a then ztog (zd S a) b else zd S k)
  by_cases e1 : k = a
  · subst e1
    rw [if_pos rfl]
    exact h1
  · rw [if_neg e1, h3 _ (by omega)]
    exact a4
theorem pair_lo {S : rs_S} {x y : Int32} (h : isI (zn S) x = false ∨ isI (zn S) y = false) : a_con S x y = (-1) ∧ nq_con S x y = none ∧ a_nee S x y = (-1) ∧ nq_nee S x y = none := by
  have h1 : ¬ (isI (zn S) x = true ∧ isI (zn S) y = true) := fun q => by
    rcases h with h | h
    · rw [h] at q; cases q.1
    · rw [h] at q; cases q.2
  exact ⟨if_neg h1, if_neg (fun q => h1 ⟨(pB_t.mp q).1, (pB_t.mp q).2.1⟩), if_neg h1, if_neg (fun q => h1 ⟨(pB_t.mp q).1, (pB_t.mp q).2.1⟩)⟩
theorem pair_eq {S : rs_S} {x y : Int32} (h : isI (zn S) x = true ∧ isI (zn S) y = true) (e : x = y) : a_con S x y = (-2) ∧ nq_con S x y = none ∧ a_nee S x y = (-2) ∧ nq_nee S x y = none :=
  ⟨(if_pos h).trans (if_pos e), if_neg (fun q => (pB_t.mp q).2.2 e), (if_pos h).trans (if_pos e), if_neg (fun q => (pB_t.mp q).2.2 e)⟩
theorem bit_bI {m k : Nat} (hm : m < 2 ^ 31) (hk : k < 32) : (nI m >>> (nI k &&& 31)) &&& 1 = bI (m.testBit k) := by
  rw [nI_bit hm hk]
  unfold bI
  split <;> rfl
theorem d6_con (E : rp_E) {M : rp_M} {g : rs_G} (hW : WG g) (hI : IM g M) (x y : Int32) : rp_Run E YX6_conflict [.ref 155, .int x, .int y] M (rp_P (fun r M' => r = a_con g.1 x y ∧ IM (gnew g (nq_con g.1 x y)) M' ∧ keepX M M')) := by
  have hw := hW.1
  have hn := hw.n12
  have h2 := hw.two
  refine vX6_conflict E _ M x y ⟨_, _, c_isItem E hn hI.1.1 x, ?_⟩
  rw [bI_n, bI_0]
  refine ⟨fun hx => ?_, fun hx => ⟨_, _, c_isItem E hn hI.1.1 y, ?_⟩⟩
  · obtain ⟨e1, e2, -⟩ := pair_lo (S := g.1) (x := x) (y := y) (Or.inl hx)
    rw [e1, e2]
    exact ⟨_, rfl, rfl, hI, fun _ _ => rfl⟩
  rw [bI_n, bI_0]
  refine ⟨fun hy => ⟨fun hxy => ⟨_, d_record E hW hI, fun M1 q => ?_⟩, fun hxy => ?_⟩, fun hy => ?_⟩
  · obtain ⟨i1, k1, -⟩ := q
    have hr1 : RM g.1 (M1 156) := i1.1
    have ok : pairOk g.1 x y := ⟨hx, hy, hxy⟩
    obtain ⟨a, b, ha, hb, hab, ex, ey⟩ := pairOk_nat hw ok
    have e1 : a_con g.1 x y = _ := (if_pos ⟨hx, hy⟩).trans (if_neg hxy)
    have e2 : nq_con g.1 x y = some (zcon g.1 x.toNatClampNeg y.toNatClampNeg) := if_pos (pB_t.mpr ok)
    have fa := (hw.it ha).2.2.2.2.2.2.2.1
    have fb := (hw.it hb).2.2.2.2.2.2.2.1
    have ta := ztog_lt fa hb
    rw [e1, e2, ex, ey, nI_clamp (by omega), nI_clamp (by omega), show (64 : Int32) = nI 64 by rfl, nI_add, nI_add, nI_clamp (by omega), nI_clamp (by omega), nI_one_shl (by omega), nI_one_shl (by omega), (hr1.2.2.2.2 a ha).2.2.1, nI_xor]
    refine ⟨nI_inb (by omega) (by omega), fun M2 e3 => ⟨nI_inb (by omega) (by omega), fun M3 e4 => ?_⟩⟩
    rw [e3, rp_s_ne (by omega), (hr1.2.2.2.2 b hb).2.2.1, nI_xor] at e4
    have f1 : M3 156 (64 + a) = nI (ztog (zf g.1 a) b) := by
      rw [e4, rp_s_ne (by omega), rp_s_at]
      rfl
    have f2 : M3 156 (64 + b) = nI (ztog (zf g.1 b) a) := by
      rw [e4, rp_s_at]
      rfl
    rw [f1, bit_bI (by omega) (by omega)]
    refine ⟨_, rfl, rfl, IM_row i1 (RM_con hn hr1 ha hb hab f1 f2 (fun q h3 h4 => ?_)) (fun k hk => ?_), fun k hk => ?_⟩
    · rw [e4, rp_s_ne (by omega), rp_s_ne (by omega)]
    · rw [e4, rp_s_cell hk, rp_s_cell hk]
    · rw [e4, rp_s_cell (by omega), rp_s_cell (by omega), k1 k (by omega) (by omega)]
  · obtain ⟨e1, e2, -⟩ := pair_eq (S := g.1) ⟨hx, hy⟩ hxy
    rw [e1, e2]
    exact ⟨_, rfl, rfl, hI, fun _ _ => rfl⟩
  · obtain ⟨e1, e2, -⟩ := pair_lo (S := g.1) (x := x) (y := y) (Or.inr hy)
    rw [e1, e2]
    exact ⟨_, rfl, rfl, hI, fun _ _ => rfl⟩
theorem d6_nee (E : rp_E) {M : rp_M} {g : rs_G} (hW : WG g) (hI : IM g M) (x y : Int32) : rp_Run E YX6_need [.ref 155, .int x, .int y] M (rp_P (fun r M' => r = a_nee g.1 x y ∧ IM (gnew g (nq_nee g.1 x y)) M' ∧ keepX M M')) := by
  have hw := hW.1
  have hn := hw.n12
  have h2 := hw.two
  refine vX6_need E _ M x y ⟨_, _, c_isItem E hn hI.1.1 x, ?_⟩
  rw [bI_n, bI_0]
  refine ⟨fun hx => ?_, fun hx => ⟨_, _, c_isItem E hn hI.1.1 y, ?_⟩⟩
  · obtain ⟨-, -, e1, e2⟩ := pair_lo (S := g.1) (x := x) (y := y) (Or.inl hx)
    rw [e1, e2]
    exact ⟨_, rfl, rfl, hI, fun _ _ => rfl⟩
  rw [bI_n, bI_0]
  refine ⟨fun hy => ⟨fun hxy => ⟨_, d_record E hW hI, fun M1 q => ?_⟩, fun hxy => ?_⟩, fun hy => ?_⟩
  · obtain ⟨i1, k1, -⟩ := q
    have hr1 : RM g.1 (M1 156) := i1.1
    have ok : pairOk g.1 x y := ⟨hx, hy, hxy⟩
    obtain ⟨a, b, ha, hb, hab, ex, ey⟩ := pairOk_nat hw ok
    have e1 : a_nee g.1 x y = _ := (if_pos ⟨hx, hy⟩).trans (if_neg hxy)
    have e2 : nq_nee g.1 x y = some (znee g.1 x.toNatClampNeg y.toNatClampNeg) := if_pos (pB_t.mpr ok)
    have fa := (hw.it ha).2.2.2.2.2.2.2.2.1
    have ta := ztog_lt fa hb
    rw [e1, e2, ex, ey, nI_clamp (by omega), nI_clamp (by omega), show (76 : Int32) = nI 76 by rfl, nI_add, nI_clamp (by omega), nI_one_shl (by omega), (hr1.2.2.2.2 a ha).2.2.2, nI_xor]
    refine ⟨nI_inb (by omega) (by omega), fun M2 e3 => ?_⟩
    have f1 : M2 156 (76 + a) = nI (ztog (zd g.1 a) b) := by
      rw [e3, rp_s_at]
      rfl
    rw [f1, bit_bI (by omega) (by omega)]
    refine ⟨_, rfl, rfl, IM_row i1 (RM_nee hn hr1 ha f1 (fun q h3 => ?_)) (fun k hk => ?_), fun k hk => ?_⟩
    · rw [e3, rp_s_ne (by omega)]
    · rw [e3, rp_s_cell hk]
    · rw [e3, rp_s_cell (by omega), k1 k (by omega) (by omega)]
  · obtain ⟨-, -, e1, e2⟩ := pair_eq (S := g.1) ⟨hx, hy⟩ hxy
    rw [e1, e2]
    exact ⟨_, rfl, rfl, hI, fun _ _ => rfl⟩
  · obtain ⟨-, -, e1, e2⟩ := pair_lo (S := g.1) (x := x) (y := y) (Or.inr hy)
    rw [e1, e2]
    exact ⟨_, rfl, rfl, hI, fun _ _ => rfl⟩
theorem RM_rul {S : rs_S} {f : Nat → Int32} (hr : RM S f) {i v : Nat} (hi : i < 3) : RM (zrul S i v) (upd f (1 + i) (nI v)) := by
  obtain ⟨r1, r2, r3, r4, r5⟩ := hr
  refine ⟨(pk_un (by omega)).trans r1, ?_, ?_, ?_, fun k hk => ?_⟩
  · show upd f (1 + i) (nI v) 1 = nI (if i = 0 then v else zc S)
    by_cases e : i = 0
    · subst e
      rw [if_pos rfl]
      exact pk_us
    · rw [if_neg e, pk_un (by omega), r2]
  · show upd f (1 + i) (nI v) 2 = nI (if i = 1 then v else zg S)
    by_cases e : i = 1
    · subst e
      rw [if_pos rfl]
      exact pk_us
    · rw [if_neg e, pk_un (by omega), r3]
  · show upd f (1 + i) (nI v) 3 = nI (if i = 2 then v else zh S)
    by_cases e : i = 2
    · subst e
      rw [if_pos rfl]
      exact pk_us
    · rw [if_neg e, pk_un (by omega), r4]
  · obtain ⟨a1, a2, a3, a4⟩ := r5 k hk
    exact ⟨fun p hp => (pk_un (by omega)).trans (a1 p hp), (pk_un (by omega)).trans a2, (pk_un (by omega)).trans a3, (pk_un (by omega)).trans a4⟩
theorem d6_rule (E : rp_E) {M : rp_M} {g : rs_G} (hW : WG g) (hI : IM g M) (x y : Int32) : rp_Run E YX6_rule [.ref 155, .int x, .int y] M (rp_P (fun r M' => r = a_rule g.1 x y ∧ IM (gnew g (nq_rule g.1 x y)) M' ∧ keepX M M')) := by
  have bad : ¬ ruleOk x y → rp_P (fun r M' => r = a_rule g.1 x y ∧ IM (gnew g (nq_rule g.1 x y)) M' ∧ keepX M M') (some (-2)) M := fun h => by
    have e1 : a_rule g.1 x y = (-2) := if_neg (fun q => h (pB_t.mp q))
    have e2 : nq_rule g.1 x y = none := if_neg (fun q => h (pB_t.mp q))
    rw [e1, e2]
    exact ⟨_, rfl, rfl, hI, fun _ _ => rfl⟩
  have good : ruleOk x y → ∃ P : rp_M → Prop, rp_Run E YX6_record [.ref 155] M (rp_P0 P) ∧ ∀ M1, P M1 → (vp_in ((1 : Int32) + x) 88 ∧ ∀ M2, M2 = rp_s M1 156 (Int32.toNatClampNeg ((1 : Int32) + x)) y → rp_P (fun r M' => r = a_rule g.1 x y ∧ IM (gnew g (nq_rule g.1 x y)) M' ∧ keepX M M') (some (M1 156 (Int32.toNatClampNeg ((1 : Int32) + x)))) M2) := fun ok => by
    refine ⟨_, d_record E hW hI, fun M1 q => ?_⟩
    obtain ⟨i1, k1, -⟩ := q
    have hr1 : RM g.1 (M1 156) := i1.1
    obtain ⟨i, q1, q2, q3, q4, q5⟩ := ruleOk_nat ok
    have e1 : a_rule g.1 x y = sval g.1 x := if_pos (pB_t.mpr ok)
    have e2 : nq_rule g.1 x y = some (zrul g.1 x.toNatClampNeg y.toNatClampNeg) := if_pos (pB_t.mpr ok)
    rw [e1, e2]
    generalize y.toNatClampNeg = v at *
    rw [q2, q3, nI_clamp (by omega), show (1 : Int32) = nI 1 by rfl, nI_add, nI_clamp (by omega)]
    refine ⟨nI_inb (by omega) (by omega), fun M2 e3 => ⟨_, rfl, ?_, IM_row i1 ?_ (fun k hk => by rw [e3, rp_s_cell hk]), fun k hk => by rw [e3, rp_s_cell (by omega), k1 k (by omega) (by omega)]⟩⟩
    · match i, q1 with
      | 0, _ => exact hr1.2.1
      | 1, _ => exact hr1.2.2.1
      | 2, _ => exact hr1.2.2.2.1
    · rw [e3, rp_s_row1]
      exact RM_rul hr1 q1
  refine vX6_rule E _ M x y ⟨fun h0 => ⟨_, _, c_in E M _ _ _, ?_⟩, fun h0 => ⟨_, _, c_in E M _ _ _, ?_⟩⟩
  · rw [bI_n, bI_0, decide_eq_true_eq, decide_eq_false_iff_not, show (1 : Int32).toInt = 1 by decide, show (2 : Int32).toInt = 2 by decide]
    refine ⟨fun h1 => bad (fun q => ?_), fun h1 => ⟨_, _, c_in E M _ _ _, ?_⟩⟩
    · rcases q with ⟨q, -⟩ | ⟨q | q, -⟩
      · exact h0 q
      · rw [q] at h1
        exact h1 (by decide)
      · rw [q] at h1
        exact h1 (by decide)
    · have h12 : x = 1 ∨ x = 2 := by
        have c := clamp_int (x := x) (by omega)
        have e := toNat_nI (x := x) (by omega)
        have : x.toNatClampNeg = 1 ∨ x.toNatClampNeg = 2 := by omega
        rcases this with q | q
        · rw [q] at e
          exact Or.inl e
        · rw [q] at e
          exact Or.inr e
      rw [bI_n, bI_0, decide_eq_true_eq, decide_eq_false_iff_not, show (0 : Int32).toInt = 0 by decide, show (12 : Int32).toInt = 12 by decide]
      refine ⟨fun h2 => bad (fun q => ?_), fun h2 => good (Or.inr ⟨h12, h2⟩)⟩
      rcases q with ⟨q, -⟩ | ⟨-, q⟩
      · exact h0 q
      · exact h2 q
  · rw [bI_n, bI_0, decide_eq_true_eq, decide_eq_false_iff_not, show (0 : Int32).toInt = 0 by decide, show (9999 : Int32).toInt = 9999 by decide]
    refine ⟨fun h2 => good (Or.inl ⟨h0, h2⟩), fun h2 => bad (fun q => ?_)⟩
    rcases q with ⟨-, q⟩ | ⟨q, -⟩
    · exact h2 q
    · rw [h0] at q
      rcases q with q | q <;> exact absurd q (by decide)
theorem d6_undo (E : rp_E) {M : rp_M} {g : rs_G} (hW : WG g) (hI : IM g M) : rp_Run E YX6_undo [.ref 155] M (rp_P (fun r M' => r = a_undo g ∧ IM (g_undo g) M' ∧ keepX M M')) := by
  obtain ⟨hw, hlen, hws, -, -⟩ := hW
  have hI0 := hI
  obtain ⟨h1, h2, h3, h4, h5⟩ := hI
  refine vX6_undo E _ M ?_
  rw [h2, show (0 : Int32) = nI 0 by rfl, nI_eq (by omega) (by omega)]
  refine ⟨fun h M1 e1 => ?_, fun h => ?_⟩
  · rw [show (1 : Int32) = nI 1 by rfl, pk_sub (by omega)] at e1
    have hne : g.2.1 ≠ [] := fun e => h (by rw [e]; rfl)
    have hlast : g.2.1.getLast? = some (g.2.1.getLast hne) := List.getLast?_eq_some_getLast hne
    have hg : g.2.1[g.2.1.length - 1]? = some (g.2.1.getLast hne) := by rw [← hlast, List.getLast?_eq_getElem?]
    have hgu : g_undo g = (g.2.1.getLast hne, g.2.1.dropLast, g.2.2) := by unfold g_undo; rw [hlast]
    have hrl := h3 _ _ hg
    have ea : a_undo g = nI (g.2.1.length - 1) := if_neg h
    rw [ea, hgu]
    generalize hK : g.2.1.length - 1 = K at *
    generalize g.2.1.getLast hne = s at *
    have hKl : K ≤ 11 := by omega
    generalize hpo : rp_P (fun r M' => r = nI K ∧ IM (s, g.2.1.dropLast, g.2.2) M' ∧ keepX M M') = post
    suffices key : ∀ j, j ≤ 88 → ∀ M2 : rp_M, (∀ q, q < j → M2 156 q = M 157 (88 * K + q)) → (∀ k, k ≠ 156 → M2 k = M1 k) → rp_G E YX6_undo post 22 [.ref 155, .int (nI j)] [] M2 from key 0 (Nat.zero_le _) M1 (fun q hq => by omega) (fun _ _ => rfl)
    refine up_loop (fun j hj ih M2 q1 q2 => vX6_undo_22 E post M2 _ ?_)
    have e0 : M2 155 2 = nI K := by rw [q2 155 (by decide), e1, rp_s_at]
    have e7 : M2 157 = M 157 := by rw [q2 157 (by decide), e1, rp_s_cell (by decide)]
    rw [e0, show (88 : Int32) = nI 88 by rfl, pk_mul, nI_add, nI_leI (by omega) (by omega), nI_clamp (by omega), nI_clamp (by omega), nI_1]
    refine ⟨fun h' => ?_, fun h' => ⟨nI_inb (by omega) (by omega), nI_inb (by omega) (by omega), fun M3 e3 => ?_⟩⟩
    · have e : j = 88 := by omega
      subst e
      rw [← hpo]
      refine ⟨_, rfl, rfl, ⟨RM_congr (hws s (List.mem_of_getElem? hg)).1 hrl (fun q hq => q1 q hq), ?_, fun i t ht => ?_, ?_, fun i c hi => ?_⟩, fun k hk => by rw [q2 k (by omega), e1, rp_s_cell (by omega)]⟩
      · show M2 155 2 = nI g.2.1.dropLast.length
        rw [e0, List.length_dropLast, hK]
      · have ht : g.2.1.dropLast[i]? = some t := ht
        have hi : i < g.2.1.dropLast.length := (List.getElem?_eq_some_iff.mp ht).1
        rw [List.length_dropLast] at hi
        rw [List.getElem?_dropLast, if_pos (by omega)] at ht
        rw [e7]
        exact h3 i t ht
      · show M2 155 4 = _
        rw [q2 155 (by decide), e1, rp_s_ne (by decide)]
        exact h4
      · rw [q2 158 (by decide), e1, rp_s_cell (by decide)]
        exact h5 i c hi
    · refine ih (by omega) M3 (fun q hq => ?_) (fun k hk => ?_)
      · rw [e3]
        by_cases e : q = j
        · subst e
          rw [rp_s_at, e7]
        · rw [rp_s_ne (by omega)]
          exact q1 q (by omega)
      · rw [e3, rp_s_cell hk]
        exact q2 k hk
  · have hnil : g.2.1 = [] := List.eq_nil_of_length_eq_zero h
    have ea : a_undo g = (-5) := if_pos h
    have hgu : g_undo g = g := by unfold g_undo; rw [hnil]; rfl
    rw [ea, hgu]
    exact ⟨_, rfl, rfl, hI0, fun _ _ => rfl⟩
theorem c_pairs (E : rp_E) {M : rp_M} {n b : Nat} (hn : n ≤ 12) (h0 : M 156 0 = nI n) (hb : b ≤ 76) (f : Nat → Nat) (hf : ∀ k, k < n → M 156 (b + k) = nI (f k) ∧ f k < 4096) : rp_C E YX6_pairs [.ref 155, .int (nI b)] M (some (nI (prs f n))) M := by
  refine rp_C_of (fun post hpost => vX6_pairs E post M _ ?_)
  suffices key : ∀ j, j ≤ n → rp_G E YX6_pairs post 4 [.ref 155, .int (nI b), .int (nI (prs f j)), .int (nI j)] [] M from key 0 (Nat.zero_le _)
  refine up_loop (fun j hj ih => vX6_pairs_4 E post M _ _ _ ?_)
  rw [h0, nI_leI (by omega) (by omega), nI_add, nI_clamp (by omega)]
  refine ⟨fun h => ?_, fun h => ?_⟩
  · have e : j = n := by omega
    subst e
    exact hpost
  · obtain ⟨f1, f2⟩ := hf j (by omega)
    rw [f1]
    refine ⟨nI_inb (by omega) (by omega), _, _, c_sizeOf E M (by omega), ?_⟩
    rw [nI_add, nI_1]
    exact ih (by omega)
theorem d6_count (E : rp_E) {M : rp_M} {g : rs_G} (hW : WG g) (hI : IM g M) (w : Int32) : rp_Run E YX6_count [.ref 155, .int w] M (rp_P (fun r M' => r = a_count g w ∧ scrM M M')) := by
  have hw := hW.1
  have hn := hw.n12
  have h2 := hw.two
  obtain ⟨r1, r2, r3, r4, r5⟩ := hI.1
  have ok : ∀ (v a : Int32), a = v → rp_P (fun v M' => v = a ∧ scrM M M') (some v) M := fun v a e => ⟨v, rfl, e.symm, scrM.rf M⟩
  refine vX6_count E _ M w ⟨fun h => ?_, fun h => ?_, fun h => ?_, fun h => ?_, fun h => ?_, fun h => ?_, fun h => ?_, fun h => ?_, fun h0 h1 h2 h3 h4 h5 h6 h7 => ok _ _ ?_⟩
  · subst h
    exact ⟨rp_vi (by decide), ok _ _ r1.symm⟩
  · subst h
    exact ⟨rp_vi (by decide), ok _ _ r2.symm⟩
  · subst h
    exact ⟨rp_vi (by decide), ok _ _ r3.symm⟩
  · subst h
    exact ⟨rp_vi (by decide), ok _ _ r4.symm⟩
  · subst h
    exact ⟨_, _, c_pairs E (b := 64) hn r1 (by omega) (zf g.1) (fun k hk => ⟨(r5 k hk).2.2.1, by have := (hw.it hk).2.2.2.2.2.2.2.1; omega⟩), ok _ _ rfl⟩
  · subst h
    exact ⟨_, _, c_pairs E (b := 76) hn r1 (by omega) (zd g.1) (fun k hk => ⟨(r5 k hk).2.2.2, by have := (hw.it hk).2.2.2.2.2.2.2.2.1; omega⟩), ok _ _ rfl⟩
  · subst h
    exact ok _ _ hI.2.2.2.1.symm
  · subst h
    exact ok _ _ hI.2.1.symm
  · unfold a_count
    rw [if_neg h0, if_neg h1, if_neg h2, if_neg h3, if_neg h4, if_neg h5, if_neg h6, if_neg h7]
