/-! THE CLASS, 10: protected rows -/
def nmf (o : Nat → Nat) (m : Nat) : Nat → Nat
  | 0 => 0
  | i + 1 => nmf o m i ||| (if m.testBit i then 2 ^ o i else 0)
theorem nmf_bit {o : Nat → Nat} {m j : Nat} : ∀ p, (nmf o m p).testBit j = true ↔ ∃ i, i < p ∧ m.testBit i = true ∧ o i = j
  | 0 => ⟨fun h => (by rw [show nmf o m 0 = 0 from rfl, Nat.zero_testBit] at h; cases h), fun ⟨i, h, _⟩ => absurd h (by omega)⟩
  | p + 1 => by
    show (nmf o m p ||| (if m.testBit p then 2 ^ o p else 0)).testBit j = true ↔ _
    rw [Nat.testBit_or, Bool.or_eq_true, nmf_bit p]
    constructor
    · rintro (⟨i, h1, h2, h3⟩ | h)
      · exact ⟨i, by omega, h2, h3⟩
      · by_cases e : m.testBit p = true
        · rw [if_pos e, Nat.testBit_two_pow] at h
          exact ⟨p, by omega, e, of_decide_eq_true h⟩
        · rw [if_neg e, Nat.zero_testBit] at h
          cases h
    · rintro ⟨i, h1, h2, h3⟩
      by_cases e : i = p
      · subst e
        right
        rw [if_pos h2, Nat.testBit_two_pow]
        exact decide_eq_true h3
      · exact Or.inl ⟨i, by omega, h2, h3⟩
theorem nmf_hi {o : Nat → Nat} {m p : Nat} (h : m < 2 ^ p) : nmf o m (p + 1) = nmf o m p := by
  show nmf o m p ||| (if m.testBit p then 2 ^ o p else 0) = _
  rw [if_neg (by rw [Nat.testBit_lt_two_pow h]; decide), Nat.or_zero]
theorem nmf_low {o : Nat → Nat} {a b : Nat} : ∀ p, (∀ i, i < p → a.testBit i = b.testBit i) → nmf o a p = nmf o b p
  | 0, _ => rfl
  | p + 1, h => by
    show nmf o a p ||| (if a.testBit p then 2 ^ o p else 0) = nmf o b p ||| (if b.testBit p then 2 ^ o p else 0)
    rw [nmf_low p (fun i hi => h i (by omega)), h p (by omega)]
theorem nmf_top {o : Nat → Nat} {r p : Nat} (h : r < 2 ^ p) : nmf o (2 ^ p + r) (p + 1) = nmf o r p ||| 2 ^ o p := by
  rw [← orp h]
  show nmf o (2 ^ p ||| r) p ||| (if (2 ^ p ||| r).testBit p then 2 ^ o p else 0) = _
  rw [if_pos (by rw [Nat.testBit_or, Nat.testBit_two_pow]; simp), nmf_low p (b := r) (fun i hi => by rw [Nat.testBit_or, Nat.testBit_two_pow]; simp [show p ≠ i by omega])]
theorem nmf_lt {o : Nat → Nat} {m n : Nat} : ∀ p, (∀ i, i < p → o i < n) → nmf o m p < 2 ^ n
  | 0, _ => Nat.two_pow_pos _
  | p + 1, h => by
    refine Nat.or_lt_two_pow (nmf_lt p (fun i hi => h i (by omega))) ?_
    split
    · exact Nat.pow_lt_pow_right (by omega) (h p (by omega))
    · exact Nat.two_pow_pos _
def mskf (o : Nat → Nat) (c : Nat) : Nat → Nat
  | 0 => 0
  | i + 1 => mskf o c i ||| (if c.testBit (o i) then 2 ^ i else 0)
theorem mskf_lt {o : Nat → Nat} {c : Nat} : ∀ p, mskf o c p < 2 ^ p
  | 0 => Nat.two_pow_pos _
  | p + 1 => by
    refine Nat.or_lt_two_pow (lt_pow (mskf_lt p) (by omega)) ?_
    split
    · exact Nat.pow_lt_pow_right (by omega) (by omega)
    · exact Nat.two_pow_pos _
theorem mskf_bit {o : Nat → Nat} {c i : Nat} : ∀ p, i < p → (mskf o c p).testBit i = c.testBit (o i)
  | 0, h => absurd h (by omega)
  | p + 1, h => by
    show (mskf o c p ||| (if c.testBit (o p) then 2 ^ p else 0)).testBit i = _
    rw [Nat.testBit_or]
    by_cases e : i = p
    · subst e
      rw [Nat.testBit_lt_two_pow (mskf_lt i), Bool.false_or]
      cases q : c.testBit (o i) with
      | true =>
        show (2 ^ i).testBit i = true
        rw [Nat.testBit_two_pow]
        exact decide_eq_true rfl
      | false => exact Nat.zero_testBit _
    · rw [mskf_bit p (by omega)]
      have : (if c.testBit (o p) then 2 ^ p else 0).testBit i = false := by
        split
        · rw [Nat.testBit_two_pow]
          exact decide_eq_false (by omega)
        · exact Nat.zero_testBit _
      rw [this, Bool.or_false]
theorem nmf_sur {f o : Nat → Nat} {n c : Nat} (ho : ordr f o n) (hc : c < 2 ^ n) : nmf o (mskf o c n) n = c := by
  apply Nat.eq_of_testBit_eq
  intro j
  have h : (nmf o (mskf o c n) n).testBit j = true ↔ c.testBit j = true := by
    rw [nmf_bit]
    constructor
    · rintro ⟨i, h1, h2, h3⟩
      rw [mskf_bit n h1, h3] at h2
      exact h2
    · intro h
      have hj : j < n := by
        apply Classical.byContradiction
        intro z
        rw [Nat.testBit_lt_two_pow (lt_pow hc (by omega))] at h
        cases h
      obtain ⟨i, i1, i2⟩ := ho.2.2.1 j hj
      exact ⟨i, i1, by rw [mskf_bit n i1, i2]; exact h, i2⟩
  cases q : c.testBit j with
  | true => exact h.mpr q
  | false =>
    cases q2 : (nmf o (mskf o c n) n).testBit j with
    | false => rfl
    | true => rw [h.mp q2] at q; cases q
def RR (v ch : Nat → Nat) (sg : Int) (n b c : Nat) : Int := (psum v c n : Int) + sg * (psum ch (wst ch c n b) n : Int)
theorem RR_add {v ch : Nat → Nat} {sg : Int} {n b r k : Nat} (hk : k < n) (hr : r.testBit k = false) (hmin : ∀ j, j < n → r.testBit j = true → ch k ≤ ch j) : RR v ch sg n b (r ||| 2 ^ k) = RR v ch sg n b r + (if psum (fun _ => 1) r n < b then (v k : Int) + sg * (ch k : Int) else (v k : Int)) := by
  unfold RR
  rw [psum_or hk hr, wst_add hk hr hmin]
  by_cases q : psum (fun _ => 1) r n < b
  · rw [if_pos q, if_pos q, Int.natCast_add, Int.natCast_add, Int.mul_add]
    omega
  · rw [if_neg q, if_neg q, Nat.add_zero, Int.natCast_add]
    omega
theorem d0_prot (E : rp_E) {M : rp_M} {r1 r2 r3 n b : Nat} (h1 : r1 < 170) (s1 : rp_sh r1 = (0, 4096, [])) (h2 : r2 < 170) (s2 : rp_sh r2 = (0, 12, [])) (h3 : r3 < 170) (s3 : rp_sh r3 = (0, 12, [])) (d1 : r1 ≠ 144 ∧ r1 ≠ 145 ∧ r1 ≠ 139) (d2 : r2 ≠ 144 ∧ r2 ≠ 145 ∧ r2 ≠ r1) (d3 : r3 ≠ 144 ∧ r3 ≠ 145 ∧ r3 ≠ r1) (hn : n ≤ 12) (hb : b ≤ 12) (h7 : M 139 7 = nI n) (v ch : Nat → Nat) (hv : ∀ k, k < n → M r2 k = nI (v k)) (hch : ∀ k, k < n → M r3 k = nI (ch k) ∧ ch k < 2 ^ 31) (sg : Int) : rp_Run E YX0_fillProtected [.ref 139, .ref r1, .ref r2, .ref r3, .int (iI sg), .int (nI b)] M (rp_P0 (fun M' => (∀ c, c < 2 ^ n → M' r1 c = iI (RR v ch sg n b c)) ∧ ∀ k, k ≠ r1 → k ≠ 144 → k ≠ 145 → M' k = M k)) := by
  have pw : ∀ i, i ≤ 12 → 2 ^ i ≤ 4096 := fun i hi => Nat.le_trans (Nat.pow_le_pow_right (by omega) hi) (by decide)
  have pn := pw n hn
  refine vX0_fillProtected E _ M h1 s1 h2 s2 h3 s3 _ _ ⟨_, d0_sort E h3 s3 d3.2.1 hn h7 ch hch, fun M1 q1 => ?_⟩
  obtain ⟨⟨o, ho, q1⟩, k1⟩ := q1
  have ho1 := ho.1
  refine ⟨rp_vi (by decide), fun M2 e2 M3 e3 => ?_⟩
  suffices key : ∀ p, p ≤ n → ∀ M4 : rp_M, (∀ m, m < 2 ^ p → M4 144 m = nI (nmf o m p)) → (∀ m, m < 2 ^ p → M4 r1 (nmf o m p) = iI (RR v ch sg n b (nmf o m p))) → (∀ k, k ≠ r1 → k ≠ 144 → M4 k = M1 k) → rp_G E YX0_fillProtected (rp_P0 (fun M' => (∀ c, c < 2 ^ n → M' r1 c = iI (RR v ch sg n b c)) ∧ ∀ k, k ≠ r1 → k ≠ 144 → k ≠ 145 → M' k = M k)) 19 [.ref 139, .ref r1, .ref r2, .ref r3, .int (iI sg), .int (nI b), .int (nI p), .null, .null, .null, .null, .null] [] M4 by
    refine key 0 (Nat.zero_le _) M3 (fun m hm => ?_) (fun m hm => ?_) (fun k z1 z2 => by rw [e3, rp_s_cell z2, e2, rp_s_cell z1])
    · have hm : m < 1 := hm
      rw [e3, show m = 0 by omega, rp_s_at]
      rfl
    · show M3 r1 0 = iI (RR v ch sg n b 0)
      rw [e3, rp_s_cell d1.1, e2, rp_s_at]
      unfold RR
      rw [psum0, wst0, psum0]
      show (0 : Int32) = iI (0 + sg * 0)
      rw [Int.mul_zero]
      rfl
  refine up_loop (fun p hp ih M4 z1 z2 z3 => vX0_fillProtected_19 E _ M4 h1 s1 h2 s2 h3 s3 _ _ _ ?_)
  have m7 : M4 139 7 = nI n := by rw [z3 139 (Ne.symm d1.2.2) (by decide), k1 139 (by decide)]; exact h7
  rw [m7, nI_leI (by omega) (by omega)]
  refine ⟨fun h => ⟨rfl, fun c hc => ?_, fun k y1 y2 y3 => by rw [z3 k y1 y2, k1 k y3]⟩, fun h => ?_⟩
  · have e : p = n := by omega
    subst e
    have := z2 (mskf o c p) (mskf_lt p)
    rw [nmf_sur ho hc] at this
    exact this
  have hp2 : p < n := by omega
  have hop := ho1 p hp2
  have m5 : M4 145 p = nI (o p) := by rw [z3 145 (Ne.symm d1.2.1) (by decide)]; exact q1 p hp2
  have mv : M4 r2 (o p) = nI (v (o p)) := by rw [z3 r2 d2.2.2 d2.1, k1 r2 d2.2.1]; exact hv _ hop
  have mc : M4 r3 (o p) = nI (ch (o p)) := by rw [z3 r3 d3.2.2 d3.1, k1 r3 d3.2.1]; exact (hch _ hop).1
  rw [nI_clamp (by omega), m5, nI_clamp (by omega), mv, mc]
  refine ⟨nI_inb (by omega) (by omega), nI_inb (by omega) (by omega), nI_inb (by omega) (by omega), ?_⟩
  have ec : nI (v (o p)) + iI sg * nI (ch (o p)) = iI ((v (o p) : Int) + sg * (ch (o p) : Int)) := by
    rw [← iI_nat, ← iI_nat, ← iI_add]
    congr 1
    exact (Int32.ofInt_mul _ _).symm
  have pp := pw p (by omega)
  have pp1 := pw (p + 1) (by omega)
  have e2p : 2 ^ (p + 1) = 2 ^ p + 2 ^ p := by rw [Nat.pow_succ]; omega
  rw [ec, nI_one_shl (by omega)]
  suffices inner : ∀ j, j ≤ 2 ^ p → ∀ M5 : rp_M, (∀ m, m < 2 ^ p → M5 144 m = nI (nmf o m p)) → (∀ m, m < j → M5 144 (2 ^ p + m) = nI (nmf o (2 ^ p + m) (p + 1))) → (∀ m, m < 2 ^ p → M5 r1 (nmf o m p) = iI (RR v ch sg n b (nmf o m p))) → (∀ m, m < j → M5 r1 (nmf o (2 ^ p + m) (p + 1)) = iI (RR v ch sg n b (nmf o (2 ^ p + m) (p + 1)))) → (∀ k, k ≠ r1 → k ≠ 144 → M5 k = M1 k) → rp_G E YX0_fillProtected (rp_P0 (fun M' => (∀ c, c < 2 ^ n → M' r1 c = iI (RR v ch sg n b c)) ∧ ∀ k, k ≠ r1 → k ≠ 144 → k ≠ 145 → M' k = M k)) 60 [.ref 139, .ref r1, .ref r2, .ref r3, .int (iI sg), .int (nI b), .int (nI p), .int (nI (o p)), .int (iI ((v (o p) : Int) + sg * (ch (o p) : Int))), .int (nI (2 ^ p)), .int (nI j), .null] [] M5 from inner 0 (Nat.zero_le _) M4 z1 (fun m hm => absurd hm (by omega)) z2 (fun m hm => absurd hm (by omega)) z3
  refine up_loop (fun j hj ihj M5 y1 y2 y3 y4 y5 => vX0_fillProtected_60 E _ M5 h1 s1 h2 s2 h3 s3 _ _ _ _ _ _ _ ?_)
  rw [nI_leI (by omega) (by omega), nI_or]
  refine ⟨fun hle => ?_, fun hlt => ?_⟩
  · rw [nI_1]
    refine ih hp2 M5 (fun m hm => ?_) (fun m hm => ?_) y5
    · by_cases q : m < 2 ^ p
      · rw [nmf_hi q]
        exact y1 m q
      · have := y2 (m - 2 ^ p) (by omega)
        rw [show 2 ^ p + (m - 2 ^ p) = m by omega] at this
        exact this
    · by_cases q : m < 2 ^ p
      · rw [nmf_hi q]
        exact y3 m q
      · have := y4 (m - 2 ^ p) (by omega)
        rw [show 2 ^ p + (m - 2 ^ p) = m by omega] at this
        exact this
  · have hj2 : j < 2 ^ p := by omega
    have hr : nmf o j p < 2 ^ n := nmf_lt p (fun i hi => ho1 i (by omega))
    have ht : nmf o j p ||| 2 ^ o p < 2 ^ n := by
      rw [← nmf_top hj2]
      exact nmf_lt _ (fun i hi => ho1 i (by omega))
    have hbit : (nmf o j p).testBit (o p) = false := by
      cases q : (nmf o j p).testBit (o p) with
      | false => rfl
      | true =>
        obtain ⟨i, i1, -, i3⟩ := (nmf_bit p).mp q
        have := ho.2.1 i p (by omega) hp2 i3
        omega
    have hRR := RR_add (v := v) (ch := ch) (sg := sg) (b := b) hop hbit (fun i hi hbi => by
      obtain ⟨a, a1, -, a3⟩ := (nmf_bit p).mp hbi
      rw [← a3]
      exact ho.2.2.2 a p a1 hp2)
    have hpop : pop (nmf o j p ||| 2 ^ o p) = psum (fun _ => 1) (nmf o j p) n + 1 := by rw [pop_n ht hn, psum_or hop hbit]
    rw [orp hj2, nI_clamp (by omega), nI_clamp (by omega), y1 j hj2, nI_one_shl (by omega), nI_or]
    refine ⟨nI_inb (by omega) (by omega), nI_inb (by omega) (by omega), fun M6 e6 => ?_⟩
    have w1 : M6 144 j = nI (nmf o j p) := by rw [e6, rp_s_ne (by omega)]; exact y1 j hj2
    have w2 : M6 r1 (nmf o j p) = iI (RR v ch sg n b (nmf o j p)) := by rw [e6, rp_s_cell d1.1]; exact y3 j hj2
    have w3 : M6 r2 (o p) = nI (v (o p)) := by rw [e6, rp_s_cell d2.1, y5 r2 d2.2.2 d2.1, k1 r2 d2.2.1]; exact hv _ hop
    rw [w1, nI_clamp (by omega), nI_clamp (by omega), nI_clamp (by omega)]
    refine ⟨nI_inb (by omega) (by omega), _, _, c_bits E M6 (by omega), ?_⟩
    rw [w2, w3, nI_ltI (by omega) (by have := pop_le (nmf o j p ||| 2 ^ o p); omega), hpop, ← iI_nat (v (o p)), iI_add, iI_add, nI_1]
    -- the row behind it
    have nxt : ∀ M7 : rp_M, M7 = rp_s M6 r1 (nmf o j p ||| 2 ^ o p) (iI (RR v ch sg n b (nmf o j p ||| 2 ^ o p))) → rp_G E YX0_fillProtected (rp_P0 (fun M' => (∀ c, c < 2 ^ n → M' r1 c = iI (RR v ch sg n b c)) ∧ ∀ k, k ≠ r1 → k ≠ 144 → k ≠ 145 → M' k = M k)) 60 [.ref 139, .ref r1, .ref r2, .ref r3, .int (iI sg), .int (nI b), .int (nI p), .int (nI (o p)), .int (iI ((v (o p) : Int) + sg * (ch (o p) : Int))), .int (nI (2 ^ p)), .int (nI (j + 1)), .null] [] M7 := fun M7 e7 => by
      have any : ∀ c, M6 r1 c = iI (RR v ch sg n b c) → M7 r1 c = iI (RR v ch sg n b c) := fun c hc => by
        by_cases q : c = nmf o j p ||| 2 ^ o p
        · rw [e7, q, rp_s_at]
        · rw [e7, rp_s_ne (by omega)]
          exact hc
      have e61 : M6 r1 = M5 r1 := by rw [e6, rp_s_cell d1.1]
      refine ihj hj2 M7 (fun m hm => ?_) (fun m hm => ?_) (fun m hm => any _ (by rw [e61]; exact y3 m hm)) (fun m hm => ?_) (fun k x1 x2 => by rw [e7, rp_s_cell x1, e6, rp_s_cell x2]; exact y5 k x1 x2)
      · rw [e7, rp_s_cell (Ne.symm d1.1), e6, rp_s_ne (by omega)]
        exact y1 m hm
      · rw [e7, rp_s_cell (Ne.symm d1.1)]
        by_cases q : m = j
        · rw [e6, q, rp_s_at, nmf_top hj2]
        · rw [e6, rp_s_ne (by omega)]
          exact y2 m (by omega)
      · by_cases q : m = j
        · rw [q, nmf_top hj2, e7, rp_s_at]
        · exact any _ (by rw [e61]; exact y4 m (by omega))
    refine ⟨fun q => ⟨nI_inb (by omega) (by omega), nI_inb (by omega) (by omega), fun M7 e7 => nxt M7 ?_⟩, fun q => ⟨nI_inb (by omega) (by omega), fun M7 e7 => nxt M7 ?_⟩⟩
    · rw [hRR, if_neg (by omega)]
      exact e7
    · rw [hRR, if_pos (by omega)]
      exact e7
