/-! THE CLASS, 4: its rows that last; what changes them -/
def rix (nk n j : Nat) : Nat := (nk + 12 - n + j) % 12
def HX (hs : List rs_S) (M : rp_M) : Prop := ∃ nk, nk < 12 ∧ M 154 3 = nI nk ∧ M 154 2 = nI hs.length ∧ ∀ (j : Nat) (s : rs_S), hs[j]? = some s → RX s (10 * (1 + rix nk hs.length j)) M
def PX (pd : List Nat) (M : rp_M) : Prop := M 131 1 = nI pd.length ∧ ∀ (i c : Nat), pd[i]? = some c → M 132 i = nI c
def tabX (S : rs_S) (g h : Nat) (M : rp_M) : Prop := M 139 7 = nI (zn S) ∧ M 139 8 = nI (2 ^ zn S) ∧ ∀ c, c < 2 ^ zn S → M 140 c = nI (zheavy S c g) ∧ M 141 c = iI (zworth S c h) ∧ M 142 c = nI (zsum S 0 c) ∧ (M 143 c &&& (nI c ^^^ (-1)) = 0 ↔ zalB S c = true)
def IX (g : rs_G) (M : rp_M) : Prop := R0 g.1 M ∧ HX g.2.1 M ∧ PX g.2.2 M ∧ (M 139 9 = 0 ∨ (M 139 9 = 1 ∧ tabX g.1 (zg g.1) (zh g.1) M))
def keepM (M M' : rp_M) : Prop := ∀ k, 155 ≤ k → M' k = M k
theorem HX.keep {hs : List rs_S} {M M' : rp_M} (h : HX hs M) (hk : ∀ k, 10 ≤ k → k < 130 → M' k = M k) (h2 : M' 154 2 = M 154 2) (h3 : M' 154 3 = M 154 3) : HX hs M' := by
  obtain ⟨nk, a1, a2, a3, a4⟩ := h
  refine ⟨nk, a1, h3.trans a2, h2.trans a3, fun j s hj => (a4 j s hj).keep (fun k k1 k2 => hk k ?_ ?_)⟩
  · omega
  · have : rix nk hs.length j < 12 := Nat.mod_lt _ (by omega)
    omega
theorem R0.keep {S : rs_S} {M M' : rp_M} (h : R0 S M) (hk : ∀ k, k < 10 → M' k = M k) : R0 S M' := R0_RX.mpr ((R0_RX.mp h).keep (fun k _ k2 => hk k (by omega)))
theorem IX_row {g : rs_G} {M M' : rp_M} (h : IX g M) (h0 : M 139 9 = 0) {S' : rs_S} (hr : R0 S' M') (hk : ∀ k, 10 ≤ k → M' k = M k) : IX (S', g.2.1, g.2.2) M' := by
  obtain ⟨-, i2, i3, -⟩ := h
  refine ⟨hr, i2.keep (fun k k1 _ => hk k k1) (by rw [hk 154 (by omega)]) (by rw [hk 154 (by omega)]), ⟨by rw [hk 131 (by omega)]; exact i3.1, fun i c hi => by rw [hk 132 (by omega)]; exact i3.2 i c hi⟩, Or.inl (by rw [hk 139 (by omega)]; exact h0)⟩
theorem d5_remember (E : rp_E) {M : rp_M} {g : rs_G} (hW : WG g) (hI : IX g M) : rp_Run E YX5_remember [.ref 154] M (rp_P0 (fun M' => IX (g.1, hpush g.2.1 g.1, g.2.2) M' ∧ M' 139 9 = 0 ∧ ∀ k, k < 10 ∨ (131 ≤ k ∧ k ≠ 139 ∧ k ≠ 154) → M' k = M k)) := by
  obtain ⟨hw, hlen, hws, -, -⟩ := hW
  obtain ⟨i1, ⟨nk, a1, a2, a3, a4⟩, i3, -⟩ := hI
  refine vX5_remember E _ M ?_
  rw [a2, nI_clamp (by omega)]
  refine ⟨nI_inb (by omega) (by omega), cpd (1 + nk) 0 M, d0_copy E (a := 1 + nk) (b := 0) (by omega) (by omega) (by omega), fun M1 c1 => ?_⟩
  have kc := c1.2.2.2
  have s3 : M1 154 3 = nI nk := by rw [kc 154 (by omega)]; exact a2
  have s2 : M1 154 2 = nI g.2.1.length := by rw [kc 154 (by omega)]; exact a3
  have nst : RX g.1 (10 * (1 + nk)) M1 := c1.RX hw.n12 (R0_RX.mp i1)
  have ln := hpush_len g.1 hlen
  -- the end
  have fin : ∀ (nk' : Nat) (M2 M3 M4 : rp_M), nk' = (nk + 1) % 12 → M2 = rp_s M1 154 3 (nI nk') → M3 = rp_s M2 154 2 (if 12 < ((M2 154 2) + 1) then 12 else ((M2 154 2) + 1)) → M4 = rp_s M3 139 9 0 → rp_P0 (fun M' => IX (g.1, hpush g.2.1 g.1, g.2.2) M' ∧ M' 139 9 = 0 ∧ ∀ k, k < 10 ∨ (131 ≤ k ∧ k ≠ 139 ∧ k ≠ 154) → M' k = M k) none M4 := by
    intro nk' M2 M3 M4 ek e2 e3 e4
    have kk : ∀ k, k ≠ 139 → k ≠ 154 → M4 k = M1 k := fun k h1 h2 => by rw [e4, rp_s_cell h1, e3, rp_s_cell h2, e2, rp_s_cell h2]
    have keep : ∀ k, k < 10 ∨ (131 ≤ k ∧ k ≠ 139 ∧ k ≠ 154) → M4 k = M k := fun k hk => by rw [kk k (by omega) (by omega), kc k (by omega)]
    have w2 : M2 154 2 = nI g.2.1.length := by rw [e2, rp_s_ne (by omega)]; exact s2
    have t2 : M4 154 2 = nI (hpush g.2.1 g.1).length := by
      rw [e4, rp_s_ne (by omega), e3, rp_s_at, w2, nI_1, show (12 : Int32) = nI 12 by rfl, ln]
      by_cases q : g.2.1.length = 12
      · rw [if_pos q, if_pos ((nI_ltI (by omega) (by omega)).mpr (by omega))]
      · rw [if_neg q, if_neg (fun z => by rw [nI_ltI (by omega) (by omega)] at z; omega)]
    have t3 : M4 154 3 = nI nk' := by rw [e4, rp_s_ne (by omega), e3, rp_s_ne (by omega), e2, rp_s_at]
    have t9 : M4 139 9 = 0 := by rw [e4, rp_s_at]
    refine ⟨rfl, ⟨i1.keep (fun k hk => keep k (Or.inl hk)), ⟨nk', by omega, t3, t2, fun j s hj => ?_⟩, ⟨by rw [keep 131 (by omega)]; exact i3.1, fun i c hi => by rw [keep 132 (by omega)]; exact i3.2 i c hi⟩, Or.inl t9⟩, t9, keep⟩
    have hj : (hpush g.2.1 g.1)[j]? = some s := hj
    show RX s (10 * (1 + rix nk' (hpush g.2.1 g.1).length j)) M4
    have hjl : j < (hpush g.2.1 g.1).length := (List.getElem?_eq_some_iff.mp hj).1
    have old : ∀ i t, g.2.1[i]? = some t → rix nk g.2.1.length i ≠ nk → RX t (10 * (1 + rix nk g.2.1.length i)) M4 := fun i t hi hne => (a4 i t hi).keep (fun k k1 k2 => by
      have hm : rix nk g.2.1.length i < 12 := Nat.mod_lt _ (by omega)
      rw [kk k (by omega) (by omega), kc k (by omega)])
    have new : RX g.1 (10 * (1 + nk)) M4 := nst.keep (fun k k1 k2 => kk k (by omega) (by omega))
    rw [ln] at hjl ⊢
    unfold hpush at hj
    by_cases q : g.2.1.length = 12
    · rw [if_pos q] at hj hjl ⊢
      by_cases z : j < 11
      · rw [List.getElem?_append_left (by rw [List.length_drop]; omega), List.getElem?_drop] at hj
        have e : rix nk' 12 j = rix nk g.2.1.length (1 + j) := by unfold rix; omega
        rw [e]
        exact old (1 + j) s hj (by unfold rix; omega)
      · rw [List.getElem?_append_right (by rw [List.length_drop]; omega), List.length_drop, show j - (g.2.1.length - 1) = 0 by omega] at hj
        cases hj
        rw [show rix nk' 12 j = nk by unfold rix; omega]
        exact new
    · rw [if_neg q] at hj hjl ⊢
      by_cases z : j < g.2.1.length
      · rw [List.getElem?_append_left z] at hj
        have e : rix nk' (g.2.1.length + 1) j = rix nk g.2.1.length j := by unfold rix; omega
        rw [e]
        exact old j s hj (by unfold rix; omega)
      · rw [List.getElem?_append_right (by omega), show j - g.2.1.length = 0 by omega] at hj
        cases hj
        rw [show rix nk' (g.2.1.length + 1) j = nk by unfold rix; omega]
        exact new
  rw [s3, show (11 : Int32) = nI 11 by rfl, nI_eq (by omega) (by omega), nI_1]
  refine ⟨fun h M2 e2 M3 e3 M4 e4 => fin (nk + 1) M2 M3 M4 (by omega) e2 e3 e4, fun h M2 e2 M3 e3 M4 e4 => fin 0 M2 M3 M4 (by omega) e2 e3 e4⟩
theorem c5_exists (E : rp_E) {M : rp_M} {n : Nat} (hn : n ≤ 12) (h0 : M 0 4 = nI n) (x : Int32) : rp_C E YX5_exists [.ref 154, .int x] M (some (bI (isI n x))) M := by
  refine rp_C_of (fun post hp => vX5_exists E post M x ?_)
  rw [h0, Int32.lt_d, Int32.le_d, Int32.toInt_zero, nI_toInt (by omega)]
  refine ⟨fun h => ?_, fun h => ⟨fun h2 => ?_, fun h2 => ?_⟩⟩
  · rw [show isI n x = false from decide_eq_false (by omega)] at hp
    exact hp
  · rw [show isI n x = false from decide_eq_false (by omega)] at hp
    exact hp
  · rw [show isI n x = true from decide_eq_true (by omega)] at hp
    exact hp
theorem c5_inRange (E : rp_E) (M : rp_M) {q : Nat} (hq : q < 5) {lo hi : Int} (h0 : ((rp_sv 0).getD q 0).toInt = lo) (h1 : ((rp_sv 1).getD q 0).toInt = hi) (v : Int32) : rp_C E YX5_inRange [.int (nI q), .int v] M (some (bI (pB (rng lo hi v)))) M := by
  refine rp_C_of (fun post hp => vX5_inRange E post M _ v ?_)
  rw [nI_clamp (by omega), Int32.lt_d, Int32.lt_d, h0, h1]
  refine ⟨nI_inb (by omega) (by omega), fun h => ?_, fun h => ⟨fun h2 => ?_, fun h2 => ?_⟩⟩
  · rw [pB_f.mpr (fun z : rng lo hi v => by have := z.1; omega)] at hp
    exact hp
  · rw [pB_f.mpr (fun z : rng lo hi v => by have := z.2; omega)] at hp
    exact hp
  · rw [pB_t.mpr (show rng lo hi v from ⟨by omega, by omega⟩)] at hp
    exact hp
theorem d5_add (E : rp_E) {M : rp_M} {g : rs_G} (hW : WG g) (hI : IX g M) (x y z u : Int32) : rp_Run E YX5_add [.ref 154, .int x, .int y, .int z, .int u] M (rp_P (fun v M' => v = a_add g.1 x y z u ∧ IX (gnew g (nq_add g.1 x y z u)) M' ∧ keepM M M')) := by
  have hw := hW.1
  have hn := hw.n12
  have bad : ¬ addOk x y z u → rp_P (fun v M' => v = a_add g.1 x y z u ∧ IX (gnew g (nq_add g.1 x y z u)) M' ∧ keepM M M') (some (-2)) M := fun h => by
    have e1 : a_add g.1 x y z u = (-2) := if_neg (fun q => h (pB_t.mp q))
    have e2 : nq_add g.1 x y z u = none := if_neg (fun q => h (pB_t.mp q))
    rw [e1, e2]
    exact ⟨_, rfl, rfl, hI, fun _ _ => rfl⟩
  refine vX5_add E _ M x y z u ⟨_, _, c5_inRange E M (q := 0) (lo := 1) (hi := 999) (by omega) (by decide) (by decide) x, ?_⟩
  rw [bI_n, bI_0, pB_t, pB_f]
  refine ⟨fun h1 => bad (fun q => h1 q.1), fun h1 => ⟨_, _, c5_inRange E M (q := 1) (lo := 1) (hi := 999) (by omega) (by decide) (by decide) y, ?_⟩⟩
  rw [bI_n, bI_0, pB_t, pB_f]
  refine ⟨fun h2 => bad (fun q => h2 q.2.1), fun h2 => ⟨_, _, c5_inRange E M (q := 2) (lo := 0) (hi := 999) (by omega) (by decide) (by decide) z, ?_⟩⟩
  rw [bI_n, bI_0, pB_t, pB_f]
  refine ⟨fun h3 => bad (fun q => h3 q.2.2.1), fun h3 => ⟨_, _, c5_inRange E M (q := 3) (lo := 0) (hi := 999) (by omega) (by decide) (by decide) u, ?_⟩⟩
  rw [bI_n, bI_0, pB_t, pB_f]
  refine ⟨fun h4 => ?_, fun h4 => bad (fun q => h4 q.2.2.2)⟩
  have ok : addOk x y z u := ⟨h1, h2, h3, h4⟩
  rw [hI.1.1, show (12 : Int32) = nI 12 by rfl, nI_ltI (by omega) (by omega)]
  have e1 : a_add g.1 x y z u = if zn g.1 = 12 then (-4) else nI (zn g.1) := if_pos (pB_t.mpr ok)
  have e2 : nq_add g.1 x y z u = if zn g.1 = 12 then none else some (zadd g.1 x.toNatClampNeg y.toNatClampNeg z.toNatClampNeg u.toNatClampNeg 4) := if_pos (pB_t.mpr ok)
  rw [e1, e2]
  refine ⟨fun h5 => ⟨_, d5_remember E hW hI, fun M1 q => ?_⟩, fun h5 => ?_⟩
  · obtain ⟨j1, j2, k1⟩ := q
    rw [if_neg (by omega), if_neg (by omega)]
    have h := d0_append E j1.1 (show zn g.1 < 12 from h5) x.toNatClampNeg y.toNatClampNeg z.toNatClampNeg u.toNatClampNeg 4
    rw [← (rng_nat h1 (by decide)).2.2, ← (rng_nat h2 (by decide)).2.2, ← (rng_nat h3 (by decide)).2.2, ← (rng_nat h4 (by decide)).2.2] at h
    refine ⟨_, h, fun M2 q => ?_⟩
    obtain ⟨r2, k2⟩ := q
    refine ⟨_, rfl, ?_, IX_row j1 j2 r2 (fun k hk => k2 k (by omega)), fun k hk => by rw [k2 k (by omega), k1 k (by omega)]⟩
    rw [r2.1]
    show nI (zn g.1 + 1) - 1 = nI (zn g.1)
    exact nI_pred _
  · rw [if_pos (by omega), if_pos (by omega)]
    exact ⟨_, rfl, rfl, hI, fun _ _ => rfl⟩
theorem d5_rem (E : rp_E) {M : rp_M} {g : rs_G} (hW : WG g) (hI : IX g M) (x : Int32) : rp_Run E YX5_remove [.ref 154, .int x] M (rp_P (fun r M' => r = a_rem g.1 x ∧ IX (gnew g (nq_rem g.1 x)) M' ∧ keepM M M')) := by
  have hw := hW.1
  have hn := hw.n12
  refine vX5_remove E _ M x ⟨_, _, c5_exists E hn hI.1.1 x, ?_⟩
  rw [bI_n, bI_0]
  refine ⟨fun hx => ⟨_, d5_remember E hW hI, fun M1 q => ?_⟩, fun hx => ?_⟩
  · obtain ⟨j1, j2, k1⟩ := q
    obtain ⟨i, hi, e⟩ := isI_of (by omega) hx
    have e1 : a_rem g.1 x = nI (zn g.1 - 1) := if_pos hx
    have e2 : nq_rem g.1 x = some (zrem g.1 x.toNatClampNeg) := if_pos hx
    rw [e1, e2, e, nI_clamp (by omega)]
    refine ⟨_, d0_takeOut E hw j1.1 hi, fun M2 q => ?_⟩
    obtain ⟨r2, k2⟩ := q
    exact ⟨_, rfl, r2.1, IX_row j1 j2 r2 (fun k hk => k2 k (by omega)), fun k hk => by rw [k2 k (by omega), k1 k (by omega)]⟩
  · have e1 : a_rem g.1 x = (-1) := if_neg (by rw [hx]; decide)
    have e2 : nq_rem g.1 x = none := if_neg (by rw [hx]; decide)
    rw [e1, e2]
    exact ⟨_, rfl, rfl, hI, fun _ _ => rfl⟩
