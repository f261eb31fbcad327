/-! THE REFERENCE, 10: remove -/
theorem zgap_or (m i : Nat) : m % 2 ^ i ||| m / 2 ^ (i + 1) * 2 ^ i = zgap m i := by
  unfold zgap
  rw [Nat.or_comm, Nat.add_comm (m % 2 ^ i), ← Nat.shiftLeft_eq, Nat.shiftLeft_add_eq_or_of_lt (Nat.mod_lt _ (Nat.two_pow_pos i))]
theorem c_without (E : rp_E) (M : rp_M) {m i : Nat} (hm : m < 4096) (hi : i < 12) : rp_C E YX6_without [.int (nI m), .int (nI i)] M (some (nI (zgap m i))) M := by
  refine rp_C_of (fun post hpost => vX6_without E post M _ _ ?_)
  have h2 : 2 ^ i ≤ 4096 := Nat.le_trans (Nat.pow_le_pow_right (by omega) (show i ≤ 12 by omega)) (by decide)
  have hd : m / 2 ^ (i + 1) ≤ m := Nat.div_le_self _ _
  have hmul : m / 2 ^ (i + 1) * 2 ^ i ≤ 4096 * 4096 := Nat.mul_le_mul (by omega) h2
  rw [nI_one_shl (by omega), show nI (2 ^ i) - (1 : Int32) = nI (2 ^ i - 1) from nI_p1 (Nat.two_pow_pos i), nI_1, nI_shr (by omega) (by omega), nI_shl (by omega) (by omega), nI_and, Nat.and_two_pow_sub_one_eq_mod, nI_or, zgap_or]
  exact hpost
/-- the items behind i below k have moved up -/
def mvd (f0 f : Nat → Int32) (n i k : Nat) : Prop := f 0 = nI (n - 1) ∧ f 1 = f0 1 ∧ f 2 = f0 2 ∧ f 3 = f0 3 ∧ ∀ j, j < n → (j < k → (∀ p, p < 5 → f (4 + 5 * j + p) = f0 (4 + 5 * zup i j + p)) ∧ f (64 + j) = f0 (64 + zup i j) ∧ f (76 + j) = f0 (76 + zup i j)) ∧ (k ≤ j → (∀ p, p < 5 → f (4 + 5 * j + p) = f0 (4 + 5 * j + p)) ∧ f (64 + j) = f0 (64 + j) ∧ f (76 + j) = f0 (76 + j))
theorem d6_rem (E : rp_E) {M : rp_M} {g : rs_G} (hW : WG g) (hI : IM g M) (x : Int32) : rp_Run E YX6_remove [.ref 155, .int x] M (rp_P (fun r M' => r = a_rem g.1 x ∧ IM (gnew g (nq_rem g.1 x)) M' ∧ keepX M M')) := by
  have hw := hW.1
  have hn := hw.n12
  have h2 := hw.two
  refine vX6_remove E _ M x ⟨_, _, c_isItem E hn hI.1.1 x, ?_⟩
  rw [bI_n, bI_0]
  refine ⟨fun hx => ⟨_, d_record E hW hI, fun M1 q => ?_⟩, fun hx => ?_⟩
  rotate_left
  · have e1 : a_rem g.1 x = (-1) := if_neg (by rw [hx]; decide)
    have e2 : nq_rem g.1 x = none := if_neg (by rw [hx]; decide)
    rw [e1, e2]
    exact ⟨_, rfl, rfl, hI, fun _ _ => rfl⟩
  obtain ⟨i1, k1, -⟩ := q
  have hr1 : RM g.1 (M1 156) := i1.1
  obtain ⟨i, hi, e⟩ := isI_of (by omega) hx
  have e1 : a_rem g.1 x = nI (zn g.1 - 1) := if_pos hx
  have e2 : nq_rem g.1 x = some (zrem g.1 x.toNatClampNeg) := if_pos hx
  rw [e1, e2, e, nI_clamp (by omega), hr1.1, nI_p1 (by omega)]
  intro M2 m2
  generalize hpo : rp_P (fun r M' => r = nI (zn g.1 - 1) ∧ IM (gnew g (some (zrem g.1 i))) M' ∧ keepX M M') = post
  -- the second loop: sets without the item
  have second : ∀ M3 : rp_M, mvd (M1 156) (M3 156) (zn g.1) i (zn g.1 - 1) → (∀ k, k ≠ 156 → M3 k = M1 k) → rp_G E YX6_remove post 117 [.ref 155, .int (nI i), .int 0, .null] [] M3 := by
    intro M3 hm hk3
    suffices key : ∀ j, j ≤ zn g.1 - 1 → ∀ M4 : rp_M, (∀ t, t < j → M4 156 (64 + t) = nI (zgap (zf g.1 (zup i t)) i) ∧ M4 156 (76 + t) = nI (zgap (zd g.1 (zup i t)) i)) → (∀ t, j ≤ t → t < zn g.1 - 1 → M4 156 (64 + t) = M3 156 (64 + t) ∧ M4 156 (76 + t) = M3 156 (76 + t)) → (∀ q, q < 64 → M4 156 q = M3 156 q) → (∀ k, k ≠ 156 → M4 k = M1 k) → rp_G E YX6_remove post 117 [.ref 155, .int (nI i), .int (nI j), .null] [] M4 from key 0 (Nat.zero_le _) M3 (fun t ht => by omega) (fun _ _ _ => ⟨rfl, rfl⟩) (fun _ _ => rfl) hk3
    have hup : ∀ j, j < zn g.1 - 1 → zup i j < zn g.1 := fun j hj => by unfold zup; split <;> omega
    refine up_loop (fun j hj ih M4 q1 q2 q3 q4 => vX6_remove_117 E post M4 _ _ ?_)
    have e0 : M4 156 0 = nI (zn g.1 - 1) := by rw [q3 0 (by omega)]; exact hm.1
    rw [e0, nI_leI (by omega) (by omega), show (64 : Int32) = nI 64 by rfl, show (76 : Int32) = nI 76 by rfl, nI_add, nI_add, nI_clamp (by omega), nI_clamp (by omega)]
    refine ⟨fun h => ?_, fun h => ?_⟩
    · have ej : j = zn g.1 - 1 := by omega
      subst ej
      rw [← hpo]
      refine ⟨_, rfl, rfl, IM_row i1 ?_ q4, fun k hk => by rw [q4 k (by omega), k1 k (by omega) (by omega)]⟩
      refine ⟨e0, ?_, ?_, ?_, fun k hk => ?_⟩
      · rw [q3 1 (by omega), hm.2.1]
        exact hr1.2.1
      · rw [q3 2 (by omega), hm.2.2.1]
        exact hr1.2.2.1
      · rw [q3 3 (by omega), hm.2.2.2.1]
        exact hr1.2.2.2.1
      · have hk : k < zn g.1 - 1 := hk
        have hku := hup k hk
        obtain ⟨m1, m2, m3⟩ := (hm.2.2.2.2 k (by omega)).1 hk
        refine ⟨fun p hp => ?_, ?_, (q1 k hk).1, (q1 k hk).2⟩
        · rw [q3 _ (by omega), m1 p (by omega)]
          exact (hr1.2.2.2.2 _ hku).1 p hp
        · rw [q3 _ (by omega), m1 4 (by omega)]
          exact (hr1.2.2.2.2 _ hku).2.1
    · have hju := hup j (by omega)
      obtain ⟨m1, m2, m3⟩ := (hm.2.2.2.2 j (by omega)).1 (by omega)
      have f1 : M4 156 (64 + j) = nI (zf g.1 (zup i j)) := by
        rw [(q2 j (Nat.le_refl _) (by omega)).1, m2]
        exact (hr1.2.2.2.2 _ hju).2.2.1
      have f2 : M4 156 (76 + j) = nI (zd g.1 (zup i j)) := by
        rw [(q2 j (Nat.le_refl _) (by omega)).2, m3]
        exact (hr1.2.2.2.2 _ hju).2.2.2
      have b1 := (hw.it hju).2.2.2.2.2.2.2.1
      have b2 := (hw.it hju).2.2.2.2.2.2.2.2.1
      rw [f1]
      refine ⟨nI_inb (by omega) (by omega), _, _, c_without E M4 (by omega) (by omega), fun M5 e5 => ⟨nI_inb (by omega) (by omega), ?_⟩⟩
      have f3 : M5 156 (76 + j) = nI (zd g.1 (zup i j)) := by rw [e5, rp_s_ne (by omega)]; exact f2
      rw [f3]
      refine ⟨_, _, c_without E M5 (by omega) (by omega), fun M6 e6 => ?_⟩
      rw [nI_1]
      refine ih (by omega) M6 (fun t ht => ?_) (fun t ht1 ht2 => ?_) (fun q hq => ?_) (fun k hk => ?_)
      · by_cases et : t = j
        · subst et
          exact ⟨by rw [e6, rp_s_ne (by omega), e5, rp_s_at], by rw [e6, rp_s_at]⟩
        · rw [e6, rp_s_ne (by omega), rp_s_ne (by omega), e5, rp_s_ne (by omega), rp_s_ne (by omega)]
          exact q1 t (by omega)
      · rw [e6, rp_s_ne (by omega), rp_s_ne (by omega), e5, rp_s_ne (by omega), rp_s_ne (by omega)]
        exact q2 t (by omega) ht2
      · rw [e6, rp_s_ne (by omega), e5, rp_s_ne (by omega)]
        exact q3 q hq
      · rw [e6, rp_s_cell hk, e5, rp_s_cell hk]
        exact q4 k hk
  -- the first loop: items move up
  suffices key : ∀ k, k ≤ zn g.1 - 1 → i ≤ k → ∀ M3 : rp_M, mvd (M1 156) (M3 156) (zn g.1) i k → (∀ k, k ≠ 156 → M3 k = M1 k) → rp_G E YX6_remove post 26 [.ref 155, .int (nI i), .int (nI k), .null] [] M3 by
    refine key i (by omega) (Nat.le_refl _) M2 ⟨by rw [m2, rp_s_at], by rw [m2, rp_s_ne (by omega)], by rw [m2, rp_s_ne (by omega)], by rw [m2, rp_s_ne (by omega)], fun j hj => ⟨fun hji => ?_, fun hji => ?_⟩⟩ (fun k hk => by rw [m2, rp_s_cell hk])
    · have eu : zup i j = j := if_pos hji
      rw [eu]
      exact ⟨fun p hp => by rw [m2, rp_s_ne (by omega)], by rw [m2, rp_s_ne (by omega)], by rw [m2, rp_s_ne (by omega)]⟩
    · exact ⟨fun p hp => by rw [m2, rp_s_ne (by omega)], by rw [m2, rp_s_ne (by omega)], by rw [m2, rp_s_ne (by omega)]⟩
  refine up_loop (fun k hk ih hik M3 hm hk3 => vX6_remove_26 E post M3 _ _ ?_)
  rw [hm.1, nI_leI (by omega) (by omega)]
  refine ⟨fun h => ?_, fun h => ?_⟩
  · have ek : k = zn g.1 - 1 := by omega
    subst ek
    exact second M3 hm hk3
  have ih := ih (by omega) (by omega)
  have eu : zup i k = k + 1 := if_neg (by omega)
  -- the properties of one item
  suffices key : ∀ p, p ≤ 5 → ∀ M4 : rp_M, (∀ q, q < p → M4 156 (4 + 5 * k + q) = M1 156 (4 + 5 * (k + 1) + q)) → (∀ q, (q < 4 + 5 * k ∨ 4 + 5 * k + p ≤ q) → M4 156 q = M3 156 q) → (∀ k, k ≠ 156 → M4 k = M1 k) → rp_G E YX6_remove post 38 [.ref 155, .int (nI i), .int (nI k), .int (nI p)] [] M4 from key 0 (by omega) M3 (fun q hq => by omega) (fun _ _ => rfl) hk3
  refine up_loop (fun p hp ihp M4 q1 q2 q3 => vX6_remove_38 E post M4 _ _ _ ?_)
  rw [show (5 : Int32) ≤ nI p ↔ 5 ≤ p from nI_leI (a := 5) (b := p) (by omega) (by omega)]
  refine ⟨fun h5 => ?_, fun h5 => ?_⟩
  · have ep : p = 5 := by omega
    subst ep
    rw [show (64 : Int32) = nI 64 by rfl, show (76 : Int32) = nI 76 by rfl, nI_add, nI_add, nI_1, nI_1, nI_clamp (by omega), nI_clamp (by omega), nI_clamp (by omega), nI_clamp (by omega), nI_1]
    refine ⟨nI_inb (by omega) (by omega), nI_inb (by omega) (by omega), fun M5 e5 => ⟨nI_inb (by omega) (by omega), nI_inb (by omega) (by omega), fun M6 e6 => ?_⟩⟩
    have o1 := (hm.2.2.2.2 (k + 1) (by omega)).2 (by omega)
    have other : ∀ q, q ≠ 64 + k → q ≠ 76 + k → M6 156 q = M4 156 q := fun q h6 h7 => by rw [e6, rp_s_ne (by omega), e5, rp_s_ne (by omega)]
    refine ih M6 ⟨?_, ?_, ?_, ?_, fun j hj => ⟨fun hjk => ?_, fun hjk => ?_⟩⟩ (fun q hq => by rw [e6, rp_s_cell hq, e5, rp_s_cell hq, q3 q hq])
    · rw [other _ (by omega) (by omega), q2 _ (by omega)]
      exact hm.1
    · rw [other _ (by omega) (by omega), q2 _ (by omega)]
      exact hm.2.1
    · rw [other _ (by omega) (by omega), q2 _ (by omega)]
      exact hm.2.2.1
    · rw [other _ (by omega) (by omega), q2 _ (by omega)]
      exact hm.2.2.2.1
    · by_cases ej : j = k
      · subst ej
        rw [eu]
        refine ⟨fun q hq => ?_, ?_, ?_⟩
        · rw [other _ (by omega) (by omega)]
          exact q1 q hq
        · rw [e6, rp_s_ne (by omega), e5, rp_s_at, q2 _ (by omega)]
          exact o1.2.1
        · rw [e6, rp_s_at, e5, rp_s_ne (by omega), q2 _ (by omega)]
          exact o1.2.2
      · obtain ⟨z1, z2, z3⟩ := (hm.2.2.2.2 j hj).1 (by omega)
        refine ⟨fun q hq => ?_, ?_, ?_⟩
        · rw [other _ (by omega) (by omega), q2 _ (by omega)]
          exact z1 q hq
        · rw [other _ (by omega) (by omega), q2 _ (by omega)]
          exact z2
        · rw [other _ (by omega) (by omega), q2 _ (by omega)]
          exact z3
    · obtain ⟨z1, z2, z3⟩ := (hm.2.2.2.2 j hj).2 (by omega)
      refine ⟨fun q hq => ?_, ?_, ?_⟩
      · rw [other _ (by omega) (by omega), q2 _ (by omega)]
        exact z1 q hq
      · rw [other _ (by omega) (by omega), q2 _ (by omega)]
        exact z2
      · rw [other _ (by omega) (by omega), q2 _ (by omega)]
        exact z3
  · rw [nI_1, of_at (by omega) (by omega), nI_clamp (by omega), nI_1]
    refine ⟨_, _, c_ofR E M4 (by omega) (by omega), nI_inb (by omega) (by omega), fun M5 e5 => ?_⟩
    have o1 := (hm.2.2.2.2 (k + 1) (by omega)).2 (by omega)
    refine ihp (by omega) M5 (fun q hq => ?_) (fun q hq => ?_) (fun q hq => ?_)
    · rw [e5]
      by_cases eq : q = p
      · subst eq
        rw [rp_s_at, q2 _ (by omega)]
        exact o1.1 q (by omega)
      · rw [rp_s_ne (by omega)]
        exact q1 q (by omega)
    · rw [e5, rp_s_ne (by omega)]
      exact q2 q (by omega)
    · rw [e5, rp_s_cell hq]
      exact q3 q hq
