/-! THE CLASS, 5: set, item, conflict, need, rule, undo, count -/
theorem gX_m1 {v : Nat} : gX v = (-1) ↔ ¬ v < 4 := by
  unfold gX
  split
  · next h =>
    refine ⟨fun q => ?_, fun q => absurd h q⟩
    have q2 := congrArg Int32.toInt q
    rw [nI_toInt (by omega), show ((-1 : Int32)).toInt = -1 by decide] at q2
    omega
  · next h => exact ⟨fun _ => h, fun _ => rfl⟩
theorem gXM {v : Nat} (h : v < 4) : gX v = gM v := by
  unfold gX gM
  rw [if_pos h, if_pos h]
theorem c5_prop (E : rp_E) {M : rp_M} {S : rs_S} (hw : Wf S) (hr : R0 S M) {i q : Nat} (hi : i < zn S) (hq : q < 5) : rp_C E YX5_propertyOf [.ref 154, .int (nI i), .int (nI q)] M (some (pval S q i)) M := by
  refine rp_C_of (fun post hp => vX5_propertyOf E post M _ _ ?_)
  have hn := hw.n12
  obtain ⟨a1, a2, -, -⟩ := hr.2.2.2.2 i hi
  rw [nI_clamp (by omega), nI_clamp (by omega), show (4 : Int32) = nI 4 by rfl, nI_eq (by omega) (by omega)]
  unfold pval at hp
  refine ⟨nI_inb (by omega) (by omega), nI_inb (by omega) (by omega), fun h => ?_, fun h => ?_⟩
  · rw [if_pos (by omega)] at hp
    rw [a1 q (by omega)]
    exact hp
  · subst h
    rw [if_neg (by omega)] at hp
    rw [show M (2 + 4) i = _ from a2, gX_m1]
    refine ⟨fun h => ?_, fun h => ?_⟩
    · rw [gXM (by omega)]
      exact hp
    · rw [show gM (zp S 4 i) = (-6) from if_neg h] at hp
      exact hp
theorem R0_set {S : rs_S} {M M' : rp_M} (hr : R0 S M) {k q v : Nat} (hk : k < zn S) (hq : q < 5) (he : M' = rp_s M (2 + q) k (if q < 4 then nI v else gX v)) : R0 (zset S q k v) M' := by
  obtain ⟨h1, h2, h3, h4, h5⟩ := hr
  subst he
  refine ⟨by rw [rp_s_ne (by omega)]; exact h1, by rw [rp_s_ne (by omega)]; exact h2, by rw [rp_s_ne (by omega)]; exact h3, by rw [rp_s_ne (by omega)]; exact h4, fun j hj => ?_⟩
  have hj' : j < zn S := hj
  obtain ⟨a1, a2, a3, a4⟩ := h5 j hj
  refine ⟨fun p hp => ?_, ?_, by rw [rp_s_ne (by omega)]; exact a3, by rw [rp_s_ne (by omega)]; exact a4⟩
  · rw [zset_p]
    by_cases e : p = q ∧ j = k
    · obtain ⟨e1, e2⟩ := e
      subst e1
      subst e2
      rw [rp_s_at, if_pos hp, if_pos (show p = p ∧ j = j from ⟨rfl, rfl⟩)]
    · rw [if_neg e, rp_s_ne (by omega)]
      exact a1 p hp
  · rw [zset_p]
    by_cases e : 4 = q ∧ j = k
    · obtain ⟨e1, e2⟩ := e
      subst e1
      subst e2
      rw [show (6 : Nat) = 2 + 4 by rfl, rp_s_at, if_neg (show ¬ 4 < 4 by omega), if_pos (show 4 = 4 ∧ j = j from ⟨rfl, rfl⟩)]
    · rw [if_neg e, rp_s_ne (by omega)]
      exact a2
theorem rng_ok {q : Nat} (hq : q < 5) : ∃ lo hi : Int, ((rp_sv 0).getD q 0).toInt = lo ∧ ((rp_sv 1).getD q 0).toInt = hi ∧ ∀ v, rng lo hi v ↔ propOk (nI q) v := by
  match q, hq with
  | 0, _ => exact ⟨1, 999, by decide, by decide, fun v => ⟨fun h => Or.inl ⟨Or.inl rfl, h⟩, fun h => by
      rcases h with h | h | h
      · exact h.2
      · rcases h.1 with z | z <;> exact absurd z (by decide)
      · exact absurd h.1 (by decide)⟩⟩
  | 1, _ => exact ⟨1, 999, by decide, by decide, fun v => ⟨fun h => Or.inl ⟨Or.inr rfl, h⟩, fun h => by
      rcases h with h | h | h
      · exact h.2
      · rcases h.1 with z | z <;> exact absurd z (by decide)
      · exact absurd h.1 (by decide)⟩⟩
  | 2, _ => exact ⟨0, 999, by decide, by decide, fun v => ⟨fun h => Or.inr (Or.inl ⟨Or.inl rfl, h⟩), fun h => by
      rcases h with h | h | h
      · rcases h.1 with z | z <;> exact absurd z (by decide)
      · exact h.2
      · exact absurd h.1 (by decide)⟩⟩
  | 3, _ => exact ⟨0, 999, by decide, by decide, fun v => ⟨fun h => Or.inr (Or.inl ⟨Or.inr rfl, h⟩), fun h => by
      rcases h with h | h | h
      · rcases h.1 with z | z <;> exact absurd z (by decide)
      · exact h.2
      · exact absurd h.1 (by decide)⟩⟩
  | 4, _ => exact ⟨-1, 3, by decide, by decide, fun v => ⟨fun h => Or.inr (Or.inr ⟨rfl, h⟩), fun h => by
      rcases h with h | h | h
      · rcases h.1 with z | z <;> exact absurd z (by decide)
      · rcases h.1 with z | z <;> exact absurd z (by decide)
      · exact h.2⟩⟩
theorem v_gX {v : Int32} (h : rng (-1) 3 v) : v = gX (vnat v) := by
  obtain ⟨h1, h2⟩ := h
  by_cases e : v.toInt < 0
  · rw [show vnat v = 4 from if_pos e, show gX 4 = (-1) from rfl]
    apply Int32.toInt_inj.mp
    rw [show ((-1 : Int32)).toInt = -1 by decide]
    omega
  · rw [show vnat v = v.toNatClampNeg from if_neg e]
    have := clamp_int (x := v) (by omega)
    unfold gX
    rw [if_pos (by omega)]
    exact toNat_nI (by omega)
theorem d5_set (E : rp_E) {M : rp_M} {g : rs_G} (hW : WG g) (hI : IX g M) (x p v : Int32) : rp_Run E YX5_set [.ref 154, .int x, .int p, .int v] M (rp_P (fun r M' => r = a_set g.1 x p v ∧ IX (gnew g (nq_set g.1 x p v)) M' ∧ keepM M M')) := by
  have hw := hW.1
  have hn := hw.n12
  refine vX5_set E _ M x p v ⟨_, _, c5_exists E hn hI.1.1 x, ?_⟩
  rw [bI_n, bI_0]
  refine ⟨fun hx => ?_, fun hx => ?_⟩
  · have e1 : a_set g.1 x p v = _ := if_pos hx
    rw [e1]
    have bad : ¬ propOk p v → rp_P (fun r M' => r = (if pB (propOk p v) = true then pval g.1 p.toNatClampNeg x.toNatClampNeg else (-2)) ∧ IX (gnew g (nq_set g.1 x p v)) M' ∧ keepM M M') (some (-2)) M := fun h => by
      have e2 : nq_set g.1 x p v = none := if_neg (fun q => h (pB_t.mp q.2))
      rw [if_neg (fun q => h (pB_t.mp q)), e2]
      exact ⟨_, rfl, rfl, hI, fun _ _ => rfl⟩
    refine ⟨fun h => bad (fun z => ?_), fun h => ⟨fun h2 => bad (fun z => ?_), fun h2 => ?_⟩⟩
    · obtain ⟨q, q1, q2, -⟩ := propOk_p z
      rw [q2] at h
      exact nI_pos (by omega) h
    · obtain ⟨q, q1, q2, -⟩ := propOk_p z
      rw [q2, show (5 : Int32) = nI 5 by rfl, nI_leI (by omega) (by omega)] at h2
      omega
    · rw [Int32.lt_d, Int32.toInt_zero] at h
      rw [Int32.le_d, show ((5 : Int32)).toInt = 5 by decide] at h2
      have ep := toNat_nI (x := p) (by omega)
      have ec := clamp_int (x := p) (by omega)
      generalize p.toNatClampNeg = q at *
      have hq : q < 5 := by omega
      subst ep
      obtain ⟨lo, hi', b1, b2, b3⟩ := rng_ok hq
      obtain ⟨i, hi, e⟩ := isI_of (by omega) hx
      refine ⟨_, _, c5_inRange E M hq b1 b2 v, ?_⟩
      rw [bI_n, bI_0, pB_t, pB_f, b3]
      refine ⟨fun ok => ?_, fun no => bad no⟩
      have e2 : nq_set g.1 x (nI q) v = some (zset g.1 (nI q).toNatClampNeg x.toNatClampNeg (vnat v)) := if_pos ⟨hx, pB_t.mpr ok⟩
      rw [e2, if_pos (pB_t.mpr ok), e, nI_clamp (by omega), nI_clamp (by omega)]
      refine ⟨_, _, c5_prop E hw hI.1 hi hq, _, d5_remember E hW hI, fun M1 z => ?_⟩
      obtain ⟨j1, j2, k1⟩ := z
      refine ⟨nI_inb (by omega) (by omega), nI_inb (by omega) (by omega), fun M2 e3 => ⟨_, rfl, rfl, IX_row j1 j2 (R0_set j1.1 hi hq (v := vnat v) ?_) (fun k hk => by rw [e3, rp_s_cell (by omega)]), fun k hk => by rw [e3, rp_s_cell (by omega), k1 k (by omega)]⟩⟩
      rw [e3]
      congr 1
      obtain ⟨q', q1, q2, q3, q4, q5, q6, q7⟩ := propOk_p ok
      have eq : q = q' := (nI_eq (by omega) (by omega)).mp q2
      subst eq
      split
      · next z => exact (q6 z).1
      · next z => exact v_gX (q7 (by omega))
  · have e1 : a_set g.1 x p v = (-1) := if_neg (by rw [hx]; decide)
    have e2 : nq_set g.1 x p v = none := if_neg (fun q => by rw [hx] at q; cases q.1)
    rw [e1, e2]
    exact ⟨_, rfl, rfl, hI, fun _ _ => rfl⟩
theorem d5_item (E : rp_E) {M : rp_M} {S : rs_S} (hw : Wf S) (hr : R0 S M) (x p : Int32) : rp_Run E YX5_item [.ref 154, .int x, .int p] M (rp_P (fun r M' => r = a_item S x p ∧ M' = M)) := by
  have hn := hw.n12
  have ok : ∀ (v a : Int32), a = v → rp_P (fun v M' => v = a ∧ M' = M) (some v) M := fun v a e => ⟨v, rfl, e.symm, rfl⟩
  refine vX5_item E _ M x p ⟨_, _, c5_exists E hn hr.1 x, ?_⟩
  rw [bI_n, bI_0]
  refine ⟨fun hx => ?_, fun hx => ok _ _ (if_neg (by rw [hx]; decide))⟩
  have ea : a_item S x p = _ := if_pos hx
  rw [ea]
  clear ea
  obtain ⟨i, hi, e⟩ := isI_of (by omega) hx
  rw [e, nI_clamp (by omega), (hr.2.2.2.2 i hi).2.2.2, (hr.2.2.2.2 i hi).2.2.1]
  have hb : vp_in (nI i) 12 := nI_inb (by omega) (by omega)
  have h5 : ∀ w : Int32, p = 5 → w = nI (zf S i) → rp_P (fun v M' => v = (if isI 5 p = true then pval S p.toNatClampNeg i else if p = 5 then nI (zf S i) else if p = 6 then nI (zd S i) else if p = 7 then nI (nby S i (zn S)) else (-2)) ∧ M' = M) (some w) M := fun w h hw' => ok _ _ (by rw [h, hw']; rfl)
  have h6 : ∀ w : Int32, p = 6 → w = nI (zd S i) → rp_P (fun v M' => v = (if isI 5 p = true then pval S p.toNatClampNeg i else if p = 5 then nI (zf S i) else if p = 6 then nI (zd S i) else if p = 7 then nI (nby S i (zn S)) else (-2)) ∧ M' = M) (some w) M := fun w h hw' => ok _ _ (by rw [h, hw']; rfl)
  have h7 : ∀ w : Int32, p = 7 → w = nI (nby S i (zn S)) → rp_P (fun v M' => v = (if isI 5 p = true then pval S p.toNatClampNeg i else if p = 5 then nI (zf S i) else if p = 6 then nI (zd S i) else if p = 7 then nI (nby S i (zn S)) else (-2)) ∧ M' = M) (some w) M := fun w h hw' => ok _ _ (by rw [h, hw']; rfl)
  have hno : ¬ isI 5 p = true → ¬ p = 5 → ¬ p = 6 → ¬ p = 7 → rp_P (fun v M' => v = (if isI 5 p = true then pval S p.toNatClampNeg i else if p = 5 then nI (zf S i) else if p = 6 then nI (zd S i) else if p = 7 then nI (nby S i (zn S)) else (-2)) ∧ M' = M) (some (-2)) M := fun z0 z5 z6 z7 => ok _ _ (by rw [if_neg z0, if_neg z5, if_neg z6, if_neg z7])
  have out : (p < 0 ∨ 5 ≤ p) → ¬ isI 5 p = true := fun h z => by
    obtain ⟨j, hj, ej⟩ := isI_of (by decide) z
    rcases h with h | h
    · rw [ej] at h
      exact nI_pos (by omega) h
    · rw [ej, show (5 : Int32) = nI 5 by rfl, nI_leI (by omega) (by omega)] at h
      omega
  refine ⟨fun h => ⟨fun z5 => ⟨fun z6 => ⟨fun z7 => hno (out (Or.inl h)) z5 z6 z7, fun z7 => ⟨_, _, c0_neededBy E hw hr (by omega), h7 _ z7 rfl⟩⟩, fun z6 => ⟨hb, h6 _ z6 rfl⟩⟩, fun z5 => ⟨hb, h5 _ z5 rfl⟩⟩, fun h => ⟨fun h' => ⟨fun z5 => ⟨fun z6 => ⟨fun z7 => hno (out (Or.inr h')) z5 z6 z7, fun z7 => ⟨_, _, c0_neededBy E hw hr (by omega), h7 _ z7 rfl⟩⟩, fun z6 => ⟨hb, h6 _ z6 rfl⟩⟩, fun z5 => ⟨hb, h5 _ z5 rfl⟩⟩, fun h' => ?_⟩⟩
  rw [Int32.lt_d, Int32.toInt_zero] at h
  rw [Int32.le_d, show ((5 : Int32)).toInt = 5 by decide] at h'
  have ep := toNat_nI (x := p) (by omega)
  have ec := clamp_int (x := p) (by omega)
  generalize p.toNatClampNeg = q at *
  have hq : q < 5 := by omega
  subst ep
  refine ⟨_, _, c5_prop E hw hr hi hq, ok _ _ ?_⟩
  rw [if_pos (isI_nI hq (by decide))]
theorem c5_pair (E : rp_E) {M : rp_M} {n : Nat} (hn : n ≤ 12) (h0 : M 0 4 = nI n) (x y : Int32) : rp_C E YX5_pairError [.ref 154, .int x, .int y] M (some (if isI n x = true ∧ isI n y = true then (if x = y then (-2) else 0) else (-1))) M := by
  refine rp_C_of (fun post hp => vX5_pairError E post M x y ⟨_, _, c5_exists E hn h0 x, ?_⟩)
  rw [bI_n, bI_0]
  refine ⟨fun hx => ?_, fun hx => ⟨_, _, c5_exists E hn h0 y, ?_⟩⟩
  · rw [if_neg (fun z => by rw [hx] at z; cases z.1)] at hp
    exact hp
  rw [bI_n, bI_0]
  refine ⟨fun hy => ⟨fun e => ?_, fun e => ?_⟩, fun hy => ?_⟩
  · rw [if_pos ⟨hx, hy⟩, if_neg e] at hp
    exact hp
  · rw [if_pos ⟨hx, hy⟩, if_pos e] at hp
    exact hp
  · rw [if_neg (fun z => by rw [hy] at z; cases z.2)] at hp
    exact hp
theorem R0_con {S : rs_S} {M M' : rp_M} (hr : R0 S M) {a b : Nat} (hab : a ≠ b) (h1 : M' 7 a = nI (ztog (zf S a) b)) (h2 : M' 7 b = nI (ztog (zf S b) a)) (h3 : ∀ q, q ≠ a → q ≠ b → M' 7 q = M 7 q) (h4 : ∀ k, k ≠ 7 → M' k = M k) : R0 (zcon S a b) M' := by
  obtain ⟨r1, r2, r3, r4, r5⟩ := hr
  refine ⟨by rw [h4 0 (by decide)]; exact r1, by rw [h4 9 (by decide)]; exact r2, by rw [h4 9 (by decide)]; exact r3, by rw [h4 9 (by decide)]; exact r4, fun k hk => ?_⟩
  obtain ⟨a1, a2, a3, a4⟩ := r5 k hk
  refine ⟨fun p hp => by rw [h4 (2 + p) (by omega)]; exact a1 p hp, by rw [h4 6 (by decide)]; exact a2, ?_, by rw [h4 8 (by decide)]; exact a4⟩
  have ef : zf (zcon S a b) k = if k = a then ztog (zf S a) b else if k = b then ztog (zf S b) a else zf S k := rfl
  rw [ef]
  by_cases e1 : k = a
  · rw [if_pos e1, e1]
    exact h1
  · rw [if_neg e1]
    by_cases e2 : k = b
    · rw [if_pos e2, e2]
      exact h2
    · rw [if_neg e2, h3 k e1 e2]
      exact a3
theorem R0_nee {S : rs_S} {M M' : rp_M} (hr : R0 S M) {a b : Nat} (he : M' = rp_s M 8 a (nI (ztog (zd S a) b))) : R0 (znee S a b) M' := by
  obtain ⟨r1, r2, r3, r4, r5⟩ := hr
  subst he
  refine ⟨by rw [rp_s_ne (by omega)]; exact r1, by rw [rp_s_ne (by omega)]; exact r2, by rw [rp_s_ne (by omega)]; exact r3, by rw [rp_s_ne (by omega)]; exact r4, fun k hk => ?_⟩
  obtain ⟨a1, a2, a3, a4⟩ := r5 k hk
  refine ⟨fun p hp => by rw [rp_s_ne (by omega)]; exact a1 p hp, by rw [rp_s_ne (by omega)]; exact a2, by rw [rp_s_ne (by omega)]; exact a3, ?_⟩
  have ed : zd (znee S a b) k = if k = a then ztog (zd S a) b else zd S k := rfl
  rw [ed]
  by_cases e1 : k = a
  · rw [if_pos e1, e1, rp_s_at]
  · rw [if_neg e1, rp_s_ne (by omega)]
    exact a4
theorem d5_con (E : rp_E) {M : rp_M} {g : rs_G} (hW : WG g) (hI : IX g M) (x y : Int32) : rp_Run E YX5_conflict [.ref 154, .int x, .int y] M (rp_P (fun r M' => r = a_con g.1 x y ∧ IX (gnew g (nq_con g.1 x y)) M' ∧ keepM M M')) := by
  have hw := hW.1
  have hn := hw.n12
  have h2 := hw.two
  refine vX5_conflict E _ M x y ⟨_, _, c5_pair E hn hI.1.1 x y, ?_⟩
  by_cases hxy : isI (zn g.1) x = true ∧ isI (zn g.1) y = true
  · rw [if_pos hxy]
    by_cases e : x = y
    · rw [if_pos e]
      obtain ⟨e1, e2, -⟩ := pair_eq (S := g.1) hxy e
      rw [e1, e2]
      exact ⟨fun z => absurd z (by decide), fun _ => ⟨_, rfl, rfl, hI, fun _ _ => rfl⟩⟩
    · rw [if_neg e]
      refine ⟨fun _ => ⟨_, d5_remember E hW hI, fun M1 q => ?_⟩, fun z => absurd rfl z⟩
      obtain ⟨j1, j2, k1⟩ := q
      have hr1 : R0 g.1 M1 := j1.1
      have ok : pairOk g.1 x y := ⟨hxy.1, hxy.2, e⟩
      obtain ⟨a, b, ha, hb, hab, ex, ey⟩ := pairOk_nat hw ok
      have e1 : a_con g.1 x y = _ := (if_pos hxy).trans (if_neg e)
      have e2 : nq_con g.1 x y = some (zcon g.1 x.toNatClampNeg y.toNatClampNeg) := if_pos (pB_t.mpr ok)
      have fa := (hw.it ha).2.2.2.2.2.2.2.1
      have fb := (hw.it hb).2.2.2.2.2.2.2.1
      have ta := ztog_lt fa hb
      rw [e1, e2, ex, ey, nI_clamp (by omega), nI_clamp (by omega), nI_one_shl (by omega), nI_one_shl (by omega), (hr1.2.2.2.2 a ha).2.2.1, nI_xor]
      refine ⟨nI_inb (by omega) (by omega), fun M2 e3 => ⟨nI_inb (by omega) (by omega), fun M3 e4 => ?_⟩⟩
      rw [e3, rp_s_ne (by omega), (hr1.2.2.2.2 b hb).2.2.1, nI_xor] at e4
      have f1 : M3 7 a = nI (ztog (zf g.1 a) b) := by
        rw [e4, rp_s_ne (by omega), rp_s_at]
        rfl
      have f2 : M3 7 b = nI (ztog (zf g.1 b) a) := by
        rw [e4, rp_s_at]
        rfl
      rw [f1, bit_bI (by omega) (by omega)]
      refine ⟨_, rfl, rfl, IX_row j1 j2 (R0_con hr1 hab f1 f2 (fun q h3 h4 => ?_) (fun k hk => ?_)) (fun k hk => ?_), fun k hk => ?_⟩
      · rw [e4, rp_s_ne (by omega), rp_s_ne (by omega)]
      · rw [e4, rp_s_cell hk, rp_s_cell hk]
      · rw [e4, rp_s_cell (by omega), rp_s_cell (by omega)]
      · rw [e4, rp_s_cell (by omega), rp_s_cell (by omega), k1 k (by omega)]
  · rw [if_neg hxy]
    have hlo : isI (zn g.1) x = false ∨ isI (zn g.1) y = false := by
      cases qx : isI (zn g.1) x with
      | false => exact Or.inl rfl
      | true =>
        cases qy : isI (zn g.1) y with
        | false => exact Or.inr rfl
        | true => exact absurd ⟨qx, qy⟩ hxy
    obtain ⟨e1, e2, -⟩ := pair_lo (S := g.1) (x := x) (y := y) hlo
    rw [e1, e2]
    exact ⟨fun z => absurd z (by decide), fun _ => ⟨_, rfl, rfl, hI, fun _ _ => rfl⟩⟩
theorem d5_nee (E : rp_E) {M : rp_M} {g : rs_G} (hW : WG g) (hI : IX g M) (x y : Int32) : rp_Run E YX5_need [.ref 154, .int x, .int y] M (rp_P (fun r M' => r = a_nee g.1 x y ∧ IX (gnew g (nq_nee g.1 x y)) M' ∧ keepM M M')) := by
  have hw := hW.1
  have hn := hw.n12
  have h2 := hw.two
  refine vX5_need E _ M x y ⟨_, _, c5_pair E hn hI.1.1 x y, ?_⟩
  by_cases hxy : isI (zn g.1) x = true ∧ isI (zn g.1) y = true
  · rw [if_pos hxy]
    by_cases e : x = y
    · rw [if_pos e]
      obtain ⟨-, -, e1, e2⟩ := pair_eq (S := g.1) hxy e
      rw [e1, e2]
      exact ⟨fun z => absurd z (by decide), fun _ => ⟨_, rfl, rfl, hI, fun _ _ => rfl⟩⟩
    · rw [if_neg e]
      refine ⟨fun _ => ⟨_, d5_remember E hW hI, fun M1 q => ?_⟩, fun z => absurd rfl z⟩
      obtain ⟨j1, j2, k1⟩ := q
      have hr1 : R0 g.1 M1 := j1.1
      have ok : pairOk g.1 x y := ⟨hxy.1, hxy.2, e⟩
      obtain ⟨a, b, ha, hb, hab, ex, ey⟩ := pairOk_nat hw ok
      have e1 : a_nee g.1 x y = _ := (if_pos hxy).trans (if_neg e)
      have e2 : nq_nee g.1 x y = some (znee g.1 x.toNatClampNeg y.toNatClampNeg) := if_pos (pB_t.mpr ok)
      have fa := (hw.it ha).2.2.2.2.2.2.2.2.1
      have ta := ztog_lt fa hb
      rw [e1, e2, ex, ey, nI_clamp (by omega), nI_clamp (by omega), nI_one_shl (by omega), (hr1.2.2.2.2 a ha).2.2.2, nI_xor]
      refine ⟨nI_inb (by omega) (by omega), fun M2 e3 => ?_⟩
      have f1 : M2 8 a = nI (ztog (zd g.1 a) b) := by
        rw [e3, rp_s_at]
        rfl
      rw [f1, bit_bI (by omega) (by omega)]
      exact ⟨_, rfl, rfl, IX_row j1 j2 (R0_nee hr1 e3) (fun k hk => by rw [e3, rp_s_cell (by omega)]), fun k hk => by rw [e3, rp_s_cell (by omega), k1 k (by omega)]⟩
  · rw [if_neg hxy]
    have hlo : isI (zn g.1) x = false ∨ isI (zn g.1) y = false := by
      cases qx : isI (zn g.1) x with
      | false => exact Or.inl rfl
      | true =>
        cases qy : isI (zn g.1) y with
        | false => exact Or.inr rfl
        | true => exact absurd ⟨qx, qy⟩ hxy
    obtain ⟨-, -, e1, e2⟩ := pair_lo (S := g.1) (x := x) (y := y) hlo
    rw [e1, e2]
    exact ⟨fun z => absurd z (by decide), fun _ => ⟨_, rfl, rfl, hI, fun _ _ => rfl⟩⟩
