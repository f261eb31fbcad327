/-! THE CLASS, 11: what a choice requires; all its rows -/
def rvf (S : rs_S) (k : Nat) : Nat → Nat
  | 0 => zf S k
  | j + 1 => rvf S k j ||| (if j ≠ k ∧ zp S 4 k < 4 ∧ zp S 4 j = zp S 4 k then 2 ^ j else 0)
theorem rvf_bit {S : rs_S} {k i : Nat} : ∀ m, (rvf S k m).testBit i = true ↔ (zf S k).testBit i = true ∨ (i < m ∧ i ≠ k ∧ zp S 4 k < 4 ∧ zp S 4 i = zp S 4 k)
  | 0 => ⟨fun h => Or.inl h, fun h => h.elim id (fun z => absurd z.1 (by omega))⟩
  | m + 1 => by
    show (rvf S k m ||| (if m ≠ k ∧ zp S 4 k < 4 ∧ zp S 4 m = zp S 4 k then 2 ^ m else 0)).testBit i = true ↔ _
    rw [Nat.testBit_or, Bool.or_eq_true, rvf_bit m]
    constructor
    · rintro ((h | h) | h)
      · exact Or.inl h
      · exact Or.inr ⟨by omega, h.2⟩
      · split at h
        · next q =>
          rw [Nat.testBit_two_pow] at h
          have e := of_decide_eq_true h
          subst e
          exact Or.inr ⟨by omega, q⟩
        · rw [Nat.zero_testBit] at h
          cases h
    · rintro (h | h)
      · exact Or.inl (Or.inl h)
      · by_cases e : i = m
        · subst e
          right
          rw [if_pos h.2, Nat.testBit_two_pow]
          exact decide_eq_true rfl
        · exact Or.inl (Or.inr ⟨by omega, h.2⟩)
theorem gX_eq {a b : Nat} (h : a < 4) : gX b = gX a ↔ b = a := by
  refine ⟨fun q => ?_, fun q => by rw [q]⟩
  by_cases hb : b < 4
  · unfold gX at q
    rw [if_pos hb, if_pos h] at q
    exact (nI_eq (by omega) (by omega)).mp q
  · have e1 : gX b = (-1) := gX_m1.mpr hb
    rw [e1] at q
    exact absurd h (gX_m1.mp q.symm)
theorem rvf_lt {S : rs_S} (hw : Wf S) {k : Nat} (hk : k < zn S) : ∀ m, m ≤ zn S → rvf S k m < 2 ^ zn S
  | 0, _ => (hw.it hk).2.2.2.2.2.2.2.1
  | m + 1, h => by
    refine Nat.or_lt_two_pow (rvf_lt hw hk m (by omega)) ?_
    split
    · exact Nat.pow_lt_pow_right (by omega) (by omega)
    · exact Nat.two_pow_pos _
theorem c0_rivals (E : rp_E) {M : rp_M} {S : rs_S} (hw : Wf S) (hr : R0 S M) {k : Nat} (hk : k < zn S) : rp_C E YX4_rivals [.ref 0, .int (nI k)] M (some (nI (rvf S k (zn S)))) M := by
  have hn := hw.n12
  refine rp_C_of (fun post hpost => vX4_rivals E post M _ ?_)
  obtain ⟨-, a2, a3, -⟩ := hr.2.2.2.2 k hk
  rw [nI_clamp (by omega), a2, a3]
  refine ⟨nI_inb (by omega) (by omega), ?_⟩
  suffices key : ∀ j, j ≤ zn S → rp_G E YX4_rivals post 19 [.ref 0, .int (nI k), .int (nI (rvf S k j)), .int (gX (zp S 4 k)), .int (nI j)] [] M from key 0 (Nat.zero_le _)
  refine up_loop (fun j hj ih => vX4_rivals_19 E post M _ _ _ _ ?_)
  rw [hr.1, nI_leI (by omega) (by omega)]
  refine ⟨fun h => ?_, fun h => ?_⟩
  · have e : j = zn S := by omega
    subst e
    exact hpost
  have hj2 : j < zn S := by omega
  have h1 := ih hj2
  rw [nI_eq (by omega) (by omega), gX_m1, nI_clamp (by omega), (hr.2.2.2.2 j hj2).2.1, nI_1]
  have skip : ¬ (j ≠ k ∧ zp S 4 k < 4 ∧ zp S 4 j = zp S 4 k) → rp_G E YX4_rivals post 19 [.ref 0, .int (nI k), .int (nI (rvf S k j)), .int (gX (zp S 4 k)), .int (nI (j + 1))] [] M := fun z => by
    have e : rvf S k (j + 1) = rvf S k j := by
      show rvf S k j ||| _ = _
      rw [if_neg z, Nat.or_zero]
    rw [e] at h1
    exact h1
  refine ⟨fun z => skip (fun y => y.1 z), fun z => ⟨fun y => skip (fun x => y x.2.1), fun y => ?_⟩⟩
  have y : zp S 4 k < 4 := Classical.byContradiction y
  rw [gX_eq y]
  refine ⟨nI_inb (by omega) (by omega), fun x => skip (fun w => x w.2.2), fun x => ?_⟩
  have e : rvf S k (j + 1) = rvf S k j ||| 2 ^ j := by
    show rvf S k j ||| _ = _
    rw [if_pos ⟨z, y, x⟩]
  rw [e] at h1
  rw [nI_one_shl (by omega), nI_or]
  exact h1
/-- two of c's first m items exclude one another -/
def exc (S : rs_S) (c m : Nat) : Prop := ∃ k j, k < m ∧ j < k ∧ c.testBit k = true ∧ c.testBit j = true ∧ ((zf S k).testBit j = true ∨ (zp S 4 k < 4 ∧ zp S 4 j = zp S 4 k))
def dnf (S : rs_S) (c : Nat) : Nat → Nat
  | 0 => 0
  | k + 1 => dnf S c k ||| (if c.testBit k then zd S k else 0)
theorem dnf_bit {S : rs_S} {c i : Nat} : ∀ m, (dnf S c m).testBit i = true ↔ ∃ k, k < m ∧ c.testBit k = true ∧ (zd S k).testBit i = true
  | 0 => ⟨fun h => (by rw [show dnf S c 0 = 0 from rfl, Nat.zero_testBit] at h; cases h), fun ⟨k, h, _⟩ => absurd h (by omega)⟩
  | m + 1 => by
    show (dnf S c m ||| (if c.testBit m then zd S m else 0)).testBit i = true ↔ _
    rw [Nat.testBit_or, Bool.or_eq_true, dnf_bit m]
    constructor
    · rintro (⟨k, h1, h2, h3⟩ | h)
      · exact ⟨k, by omega, h2, h3⟩
      · split at h
        · next q => exact ⟨m, by omega, q, h⟩
        · rw [Nat.zero_testBit] at h
          cases h
    · rintro ⟨k, h1, h2, h3⟩
      by_cases e : k = m
      · subst e
        right
        rw [if_pos h2]
        exact h3
      · exact Or.inl ⟨k, by omega, h2, h3⟩
noncomputable def rqv (S : rs_S) (c m : Nat) : Int32 := if pB (exc S c m) = true then (-1) else nI (dnf S c m)
theorem top_bit {p r i : Nat} (h : r < 2 ^ p) : (2 ^ p + r).testBit i = true ↔ i = p ∨ r.testBit i = true := by
  rw [← orp h, Nat.testBit_or, Nat.testBit_two_pow, Bool.or_eq_true, decide_eq_true_eq]
  exact ⟨fun h => h.imp_left Eq.symm, fun h => h.imp_left Eq.symm⟩
theorem exc_top {S : rs_S} {p r : Nat} (h : r < 2 ^ p) : exc S (2 ^ p + r) (p + 1) ↔ exc S r p ∨ ∃ j, j < p ∧ r.testBit j = true ∧ ((zf S p).testBit j = true ∨ (zp S 4 p < 4 ∧ zp S 4 j = zp S 4 p)) := by
  constructor
  · rintro ⟨k, j, h1, h2, h3, h4, h5⟩
    have h6 := ((top_bit h).mp h4).resolve_left (by omega)
    by_cases e : k = p
    · rw [e] at h5
      exact Or.inr ⟨j, by omega, h6, h5⟩
    · exact Or.inl ⟨k, j, by omega, h2, ((top_bit h).mp h3).resolve_left e, h6, h5⟩
  · rintro (⟨k, j, h1, h2, h3, h4, h5⟩ | ⟨j, h1, h2, h3⟩)
    · exact ⟨k, j, by omega, h2, (top_bit h).mpr (Or.inr h3), (top_bit h).mpr (Or.inr h4), h5⟩
    · exact ⟨p, j, by omega, h1, (top_bit h).mpr (Or.inl rfl), (top_bit h).mpr (Or.inr h2), h3⟩
theorem exc_hi {S : rs_S} {p r : Nat} (h : r < 2 ^ p) : exc S r (p + 1) ↔ exc S r p := by
  constructor
  · rintro ⟨k, j, h1, h2, h3, h4⟩
    refine ⟨k, j, ?_, h2, h3, h4⟩
    apply Classical.byContradiction
    intro z
    rw [show k = p by omega, Nat.testBit_lt_two_pow h] at h3
    cases h3
  · rintro ⟨k, j, h1, h2⟩
    exact ⟨k, j, by omega, h2⟩
theorem dnf_low {S : rs_S} {a b : Nat} : ∀ p, (∀ i, i < p → a.testBit i = b.testBit i) → dnf S a p = dnf S b p
  | 0, _ => rfl
  | p + 1, h => by
    show dnf S a p ||| (if a.testBit p then zd S p else 0) = dnf S b p ||| (if b.testBit p then zd S p else 0)
    rw [dnf_low p (fun i hi => h i (by omega)), h p (by omega)]
theorem dnf_top {S : rs_S} {p r : Nat} (h : r < 2 ^ p) : dnf S (2 ^ p + r) (p + 1) = dnf S r p ||| zd S p := by
  show dnf S (2 ^ p + r) p ||| (if (2 ^ p + r).testBit p then zd S p else 0) = _
  rw [if_pos ((top_bit h).mpr (Or.inl rfl)), dnf_low p (b := r) (fun i hi => ?_)]
  rw [← orp h, Nat.testBit_or, Nat.testBit_two_pow]
  simp [show p ≠ i by omega]
theorem dnf_hi {S : rs_S} {p r : Nat} (h : r < 2 ^ p) : dnf S r (p + 1) = dnf S r p := by
  show dnf S r p ||| (if r.testBit p then zd S p else 0) = _
  rw [if_neg (by rw [Nat.testBit_lt_two_pow h]; decide), Nat.or_zero]
theorem rqv_hi {S : rs_S} {p r : Nat} (h : r < 2 ^ p) : rqv S r (p + 1) = rqv S r p := by
  unfold rqv
  rw [dnf_hi h, show exc S r (p + 1) = exc S r p from propext (exc_hi h)]
theorem m1_or (x : Int32) : (-1 : Int32) ||| x = (-1) := by
  apply Int32.toBitVec_inj.mp
  rw [Int32.toBitVec_or]
  apply BitVec.eq_of_getLsbD_eq
  intro i hi
  have e : (Int32.toBitVec (-1)).getLsbD i = true := by
    show (BitVec.allOnes 32).getLsbD i = true
    rw [BitVec.getLsbD_allOnes]
    exact decide_eq_true hi
  rw [BitVec.getLsbD_or, e]
  rfl
theorem d0_req (E : rp_E) {M : rp_M} {S : rs_S} (hw : Wf S) (hr : R0 S M) (h7 : M 139 7 = nI (zn S)) : rp_Run E YX0_fillRequired [.ref 139, .ref 0] M (rp_P0 (fun M' => (∀ c, c < 2 ^ zn S → M' 143 c = rqv S c (zn S)) ∧ ∀ k, k ≠ 143 → M' k = M k)) := by
  have hn := hw.n12
  have pw : ∀ i, i ≤ 12 → 2 ^ i ≤ 4096 := fun i hi => Nat.le_trans (Nat.pow_le_pow_right (by omega) hi) (by decide)
  refine vX0_fillRequired E _ M (fun M1 e1 => ?_)
  suffices key : ∀ p, p ≤ zn S → ∀ M2 : rp_M, (∀ c, c < 2 ^ p → M2 143 c = rqv S c p) → (∀ k, k ≠ 143 → M2 k = M k) → rp_G E YX0_fillRequired (rp_P0 (fun M' => (∀ c, c < 2 ^ zn S → M' 143 c = rqv S c (zn S)) ∧ ∀ k, k ≠ 143 → M' k = M k)) 9 [.ref 139, .ref 0, .int (nI p), .null, .null, .null] [] M2 by
    refine key 0 (Nat.zero_le _) M1 (fun c hc => ?_) (fun k hk => by rw [e1, rp_s_cell hk])
    have hc : c < 1 := hc
    rw [e1, show c = 0 by omega, rp_s_at]
    unfold rqv
    rw [if_neg (fun q => by
      obtain ⟨k, j, h, -⟩ := pB_t.mp q
      omega)]
    rfl
  refine up_loop (fun p hp ih M2 z1 z2 => vX0_fillRequired_9 E _ M2 _ ?_)
  rw [z2 139 (by decide), h7, nI_leI (by omega) (by omega)]
  refine ⟨fun h => ?_, fun h => ?_⟩
  · have e : p = zn S := by omega
    subst e
    exact ⟨rfl, z1, z2⟩
  have hp2 : p < zn S := by omega
  have hr2 : R0 S M2 := hr.keep (fun k hk => z2 k (by omega))
  have pp := pw p (by omega)
  have pp1 := pw (p + 1) (by omega)
  have pn := pw (zn S) hn
  have e2p : 2 ^ (p + 1) = 2 ^ p + 2 ^ p := by rw [Nat.pow_succ]; omega
  have hrv := rvf_lt hw hp2 (zn S) (Nat.le_refl _)
  refine ⟨_, _, c0_rivals E hw hr2 hp2, ?_⟩
  rw [nI_one_shl (by omega)]
  suffices inner : ∀ j, j ≤ 2 ^ p → ∀ M3 : rp_M, (∀ c, c < 2 ^ p → M3 143 c = rqv S c p) → (∀ c, c < j → M3 143 (2 ^ p + c) = rqv S (2 ^ p + c) (p + 1)) → (∀ k, k ≠ 143 → M3 k = M k) → rp_G E YX0_fillRequired (rp_P0 (fun M' => (∀ c, c < 2 ^ zn S → M' 143 c = rqv S c (zn S)) ∧ ∀ k, k ≠ 143 → M' k = M k)) 31 [.ref 139, .ref 0, .int (nI p), .int (nI (2 ^ p)), .int (nI (rvf S p (zn S))), .int (nI j)] [] M3 from inner 0 (Nat.zero_le _) M2 z1 (fun c hc => absurd hc (by omega)) z2
  refine up_loop (fun j hj ihj M3 y1 y2 y3 => vX0_fillRequired_31 E _ M3 _ _ _ _ ?_)
  rw [nI_leI (by omega) (by omega), nI_or]
  refine ⟨fun hle => ?_, fun hlt => ?_⟩
  · rw [nI_1]
    refine ih hp2 M3 (fun c hc => ?_) y3
    by_cases q : c < 2 ^ p
    · rw [rqv_hi q]
      exact y1 c q
    · have := y2 (c - 2 ^ p) (by omega)
      rw [show 2 ^ p + (c - 2 ^ p) = c by omega] at this
      exact this
  · have hj2 : j < 2 ^ p := by omega
    rw [and0 (by omega), orp hj2, nI_1]
    have riv : j &&& rvf S p (zn S) = 0 ↔ ¬ ∃ i, i < p ∧ j.testBit i = true ∧ ((zf S p).testBit i = true ∨ (zp S 4 p < 4 ∧ zp S 4 i = zp S 4 p)) := by
      constructor
      · rintro h0 ⟨i, i1, i2, i3⟩
        have := congrArg (fun x => x.testBit i) h0
        simp only [Nat.testBit_and, Nat.zero_testBit] at this
        rw [i2, (rvf_bit (zn S)).mpr (i3.elim Or.inl (fun z => Or.inr ⟨by omega, by omega, z⟩))] at this
        cases this
      · intro h0
        apply Nat.eq_of_testBit_eq
        intro i
        rw [Nat.testBit_and, Nat.zero_testBit]
        cases q1 : j.testBit i with
        | false => rfl
        | true =>
          cases q2 : (rvf S p (zn S)).testBit i with
          | false => rfl
          | true =>
            have hi : i < p := by
              apply Classical.byContradiction
              intro z
              rw [Nat.testBit_lt_two_pow (lt_pow hj2 (by omega))] at q1
              cases q1
            exact absurd ⟨i, hi, q1, ((rvf_bit (zn S)).mp q2).elim Or.inl (fun z => Or.inr z.2.2)⟩ h0
    have nxt : ∀ M4 : rp_M, M4 = rp_s M3 143 (2 ^ p + j) (rqv S (2 ^ p + j) (p + 1)) → rp_G E YX0_fillRequired (rp_P0 (fun M' => (∀ c, c < 2 ^ zn S → M' 143 c = rqv S c (zn S)) ∧ ∀ k, k ≠ 143 → M' k = M k)) 31 [.ref 139, .ref 0, .int (nI p), .int (nI (2 ^ p)), .int (nI (rvf S p (zn S))), .int (nI (j + 1))] [] M4 := fun M4 e4 => by
      refine ihj hj2 M4 (fun c hc => by rw [e4, rp_s_ne (by omega)]; exact y1 c hc) (fun c hc => ?_) (fun k hk => by rw [e4, rp_s_cell hk]; exact y3 k hk)
      by_cases q : c = j
      · rw [e4, q, rp_s_at]
      · rw [e4, rp_s_ne (by omega)]
        exact y2 c (by omega)
    refine ⟨fun h0 => ⟨nI_inb (by omega) (by omega), nI_inb (by omega) (by omega), nI_inb (by omega) (by omega), fun M4 e4 => nxt M4 ?_⟩, fun h0 => ⟨nI_inb (by omega) (by omega), fun M4 e4 => nxt M4 ?_⟩⟩
    · rw [e4, nI_clamp (by omega), nI_clamp (by omega), nI_clamp (by omega), y1 j hj2, y3 8 (by decide), (hr.2.2.2.2 p hp2).2.2.2]
      congr 1
      unfold rqv
      by_cases q : exc S j p
      · rw [if_pos (pB_t.mpr q), if_pos (pB_t.mpr ((exc_top hj2).mpr (Or.inl q))), m1_or]
      · rw [if_neg (fun z => q (pB_t.mp z)), if_neg (fun z => ((exc_top hj2).mp (pB_t.mp z)).elim q (riv.mp h0)), dnf_top hj2, nI_or]
    · rw [e4, nI_clamp (by omega)]
      congr 1
      unfold rqv
      rw [if_pos (pB_t.mpr ((exc_top hj2).mpr (Or.inr (Classical.byContradiction (fun z => h0 (riv.mpr z))))))]
theorem rqv_al {S : rs_S} (hw : Wf S) {c : Nat} (hc : c < 2 ^ zn S) : rqv S c (zn S) &&& (nI c ^^^ (-1)) = 0 ↔ zalB S c = true := by
  have hn := hw.n12
  have h2 := hw.two
  unfold rqv zalB
  refine Iff.trans ?_ pB_t.symm
  have inn : ∀ {j}, c.testBit j = true → j < zn S := fun {j} h => by
    apply Classical.byContradiction
    intro z
    rw [Nat.testBit_lt_two_pow (lt_pow hc (by omega))] at h
    cases h
  by_cases q : exc S c (zn S)
  · rw [if_pos (pB_t.mpr q)]
    obtain ⟨k, j, h1, h3, h4, h5, h6⟩ := q
    refine ⟨fun z => ?_, fun z => ?_⟩
    · have := congrArg (fun x => x.toBitVec.getLsbD 31) z
      simp only [Int32.toBitVec_and, Int32.toBitVec_xor, nI_bv, BitVec.getLsbD_and, BitVec.getLsbD_xor, BitVec.getLsbD_ofNat] at this
      have hb : c.testBit 31 = false := Nat.testBit_lt_two_pow (lt_pow hc (by omega))
      rw [hb] at this
      exact absurd this (by decide)
    · obtain ⟨a1, -, a3⟩ := z k h1 h4
      rcases h6 with h6 | h6
      · have := congrArg (fun x => x.testBit j) a1
        simp only [Nat.testBit_and, Nat.zero_testBit] at this
        rw [h6, h5] at this
        cases this
      · exact absurd h6.2 (a3 h6.1 j h3 h5)
  · rw [if_neg (fun z => q (pB_t.mp z)), nI_not]
    have hd : dnf S c (zn S) < 2 ^ zn S := Nat.lt_pow_two_of_testBit _ (fun i hi => by
      cases y : (dnf S c (zn S)).testBit i with
      | false => rfl
      | true =>
        obtain ⟨k, k1, -, k3⟩ := (dnf_bit _).mp y
        rw [Nat.testBit_lt_two_pow (lt_pow (hw.it k1).2.2.2.2.2.2.2.2.1 hi)] at k3
        cases k3)
    have e0 : nI (zdf (dnf S c (zn S)) c) = 0 ↔ zdf (dnf S c (zn S)) c = 0 := nI_eq (b := 0) (by have := zdf_le _ c hd; omega) (by decide)
    rw [e0]
    constructor
    · intro z k hk hck
      have sub : ∀ i, (zd S k).testBit i = true → c.testBit i = true := fun i hi => by
        have := congrArg (fun x => x.testBit i) z
        simp only [zdf_bit, Nat.zero_testBit] at this
        rw [(dnf_bit _).mpr ⟨k, hk, hck, hi⟩] at this
        simpa using this
      refine ⟨?_, ?_, fun hg j hj hcj e => q ⟨k, j, hk, hj, hck, hcj, Or.inr ⟨hg, e⟩⟩⟩
      · apply Nat.eq_of_testBit_eq
        intro i
        rw [Nat.testBit_and, Nat.zero_testBit]
        cases y1 : (zf S k).testBit i with
        | false => rfl
        | true =>
          cases y2 : c.testBit i with
          | false => rfl
          | true =>
            have hi := inn y2
            exfalso
            by_cases lt : i < k
            · exact q ⟨k, i, hk, lt, hck, y2, Or.inl y1⟩
            · by_cases eq : i = k
              · rw [eq, (hw.it hk).2.2.2.2.2.2.2.2.2] at y1
                cases y1
              · exact q ⟨i, k, hi, by omega, y2, hck, Or.inl (by rw [hw.2.2.2.2.2 i k hi hk]; exact y1)⟩
      · apply Nat.eq_of_testBit_eq
        intro i
        rw [Nat.testBit_and]
        cases y1 : (zd S k).testBit i with
        | false => rfl
        | true => rw [sub i y1]; rfl
    · intro z
      apply Nat.eq_of_testBit_eq
      intro i
      rw [zdf_bit, Nat.zero_testBit]
      cases y1 : (dnf S c (zn S)).testBit i with
      | false => rfl
      | true =>
        obtain ⟨k, k1, k2, k3⟩ := (dnf_bit _).mp y1
        have := congrArg (fun x => x.testBit i) (z k k1 k2).2.1
        simp only [Nat.testBit_and] at this
        rw [k3] at this
        simp at this
        rw [this]
        rfl
theorem d0_fill (E : rp_E) {M : rp_M} {S : rs_S} (hw : Wf S) (hr : R0 S M) {g h : Nat} (hg : g ≤ 12) (hh : h ≤ 12) : rp_Run E YX0_fill [.ref 139, .ref 0, .int (nI g), .int (nI h)] M (rp_P0 (fun M' => tabX S g h M' ∧ M' 139 9 = M 139 9 ∧ ∀ k, k < 139 ∨ 145 < k → M' k = M k)) := by
  have hn := hw.n12
  have h2 := hw.two
  refine vX0_fill E _ M _ _ (fun M1 e1 M2 e2 => ?_)
  have a7 : M1 139 7 = nI (zn S) := by rw [e1, rp_s_at]; exact hr.1
  rw [a7, nI_one_shl (by omega)] at e2
  have k2 : ∀ k, k ≠ 139 → M2 k = M k := fun k hk => by rw [e2, rp_s_cell hk, e1, rp_s_cell hk]
  have b7 : M2 139 7 = nI (zn S) := by rw [e2, rp_s_ne (by omega)]; exact a7
  have b8 : M2 139 8 = nI (2 ^ zn S) := by rw [e2, rp_s_at]
  have b9 : M2 139 9 = M 139 9 := by rw [e2, rp_s_ne (by omega), e1, rp_s_ne (by omega)]
  have pv : ∀ p, p < 4 → ∀ k, k < zn S → M (2 + p) k = nI (zp S p k) ∧ zp S p k < 2 ^ 31 := fun p hp k hk => ⟨(hr.2.2.2.2 k hk).1 p hp, by have := hw.p999 hp hk; omega⟩
  refine ⟨_, d0_prot E (r1 := 140) (r2 := 3) (r3 := 4) (n := zn S) (b := g) (by omega) rfl (by omega) rfl (by omega) rfl (by omega) (by omega) (by omega) hn hg b7 (zp S 1) (zp S 2) (fun k hk => by rw [k2 3 (by decide)]; exact (pv 1 (by omega) k hk).1) (fun k hk => by rw [k2 4 (by decide)]; exact pv 2 (by omega) k hk) 1, fun M3 q3 => ?_⟩
  obtain ⟨w3, k3⟩ := q3
  have c7 : M3 139 7 = nI (zn S) := by rw [k3 139 (by decide) (by decide) (by decide)]; exact b7
  have run4 := d0_prot E (r1 := 141) (r2 := 2) (r3 := 5) (n := zn S) (b := h) (by omega) rfl (by omega) rfl (by omega) rfl (by omega) (by omega) (by omega) hn hh c7 (zp S 0) (zp S 3) (fun k hk => by rw [k3 2 (by decide) (by decide) (by decide), k2 2 (by decide)]; exact (pv 0 (by omega) k hk).1) (fun k hk => by rw [k3 5 (by decide) (by decide) (by decide), k2 5 (by decide)]; exact pv 3 (by omega) k hk) (-1)
  rw [show iI (-1) = (-1 : Int32) by decide] at run4
  refine ⟨_, run4, fun M4 q4 => ?_⟩
  obtain ⟨w4, k4⟩ := q4
  have d7 : M4 139 7 = nI (zn S) := by rw [k4 139 (by decide) (by decide) (by decide)]; exact c7
  rw [d7]
  refine ⟨_, d_sumUp E (r0 := 142) (r1 := 2) (n := zn S) (by omega) rfl (by omega) rfl (by omega) hn (zp S 0) (fun k hk => by rw [k4 2 (by decide) (by decide) (by decide), k3 2 (by decide) (by decide) (by decide), k2 2 (by decide)]; exact (pv 0 (by omega) k hk).1), fun M5 q5 => ?_⟩
  obtain ⟨w5, k5⟩ := q5
  have lowk : ∀ k, k < 139 ∨ 145 < k → M5 k = M k := fun k hk => by rw [k5 k (by omega), k4 k (by omega) (by omega) (by omega), k3 k (by omega) (by omega) (by omega), k2 k (by omega)]
  have e5 : M5 139 = M2 139 := by rw [k5 139 (by decide), k4 139 (by decide) (by decide) (by decide), k3 139 (by decide) (by decide) (by decide)]
  refine ⟨_, d0_req E hw (hr.keep (fun k hk => lowk k (by omega))) (by rw [e5]; exact b7), fun M6 q6 => ?_⟩
  obtain ⟨w6, k6⟩ := q6
  have e6 : M6 139 = M2 139 := by rw [k6 139 (by decide), e5]
  refine ⟨rfl, ⟨by rw [e6]; exact b7, by rw [e6]; exact b8, fun c hc => ⟨?_, ?_, ?_, ?_⟩⟩, by rw [e6]; exact b9, fun k hk => by rw [k6 k (by omega), lowk k hk]⟩
  · rw [k6 140 (by decide), k5 140 (by decide), k4 140 (by decide) (by decide) (by decide), w3 c hc, ← iI_nat]
    congr 1
    show (psum (zp S 1) c (zn S) : Int) + 1 * (psum (zp S 2) (wst (zp S 2) c (zn S) g) (zn S) : Int) = ((zsum S 1 c + zsum S 2 (zworst S 2 c g) : Nat) : Int)
    rw [Int.one_mul, Int.natCast_add]
    rfl
  · rw [k6 141 (by decide), k5 141 (by decide), w4 c hc]
    congr 1
    show (psum (zp S 0) c (zn S) : Int) + (-1) * (psum (zp S 3) (wst (zp S 3) c (zn S) h) (zn S) : Int) = (zsum S 0 c : Int) - (zsum S 3 (zworst S 3 c h) : Int)
    unfold zsum zworst
    omega
  · rw [k6 142 (by decide), w5 c hc]
    rfl
  · rw [w6 c hc]
    exact rqv_al hw hc
