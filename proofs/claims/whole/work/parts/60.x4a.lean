/-! THE CLASS, 1: its state's sums and worst scenarios -/
def zdf (c s : Nat) : Nat := c ^^^ (c &&& s)
theorem zdf_bit (c s i : Nat) : (zdf c s).testBit i = (c.testBit i && !s.testBit i) := by
  unfold zdf
  rw [Nat.testBit_xor, Nat.testBit_and]
  cases c.testBit i <;> cases s.testBit i <;> rfl
theorem nI_not (c s : Nat) : nI c &&& (nI s ^^^ (-1)) = nI (zdf c s) := by
  apply Int32.toBitVec_inj.mp
  rw [Int32.toBitVec_and, Int32.toBitVec_xor, nI_bv, nI_bv, nI_bv]
  apply BitVec.eq_of_getLsbD_eq
  intro i hi
  rw [BitVec.getLsbD_and, BitVec.getLsbD_xor, BitVec.getLsbD_ofNat, BitVec.getLsbD_ofNat, BitVec.getLsbD_ofNat, zdf_bit]
  have e : (Int32.toBitVec (-1)).getLsbD i = true := by
    show (BitVec.allOnes 32).getLsbD i = true
    rw [BitVec.getLsbD_allOnes]
    exact decide_eq_true hi
  rw [e]
  simp [hi]
theorem zdf_le (c s : Nat) {n : Nat} (hc : c < 2 ^ n) : zdf c s < 2 ^ n := Nat.xor_lt_two_pow hc (Nat.lt_of_le_of_lt Nat.and_le_left hc)
theorem c0_sumOf (E : rp_E) {M : rp_M} {S : rs_S} (hw : Wf S) (hr : R0 S M) {p c : Nat} (hp : p < 4) (hc : c < 2 ^ 31) : rp_C E YX4_sumOf [.ref 0, .int (nI c), .int (nI p)] M (some (nI (zsum S p c))) M := by
  refine rp_C_of (fun post hpost => vX4_sumOf E post M _ _ ?_)
  suffices key : ∀ j, j ≤ zn S → rp_G E YX4_sumOf post 5 [.ref 0, .int (nI c), .int (nI p), .int (nI (psum (zp S p) c j)), .int (nI j)] [] M from key 0 (Nat.zero_le _)
  have hn := hw.n12
  refine up_loop (fun j hj ih => vX4_sumOf_5 E post M _ _ _ _ ?_)
  rw [hr.1, nI_leI (by omega) (by omega)]
  refine ⟨fun h => ?_, fun h => ?_⟩
  · have e : j = zn S := by omega
    subst e
    exact hpost
  rw [nI_bit1 hc (by omega)]
  refine ⟨fun hb => ?_, fun hb => ⟨nI_inb (by omega) (by omega), nI_inb (by omega) (by omega), ?_⟩⟩
  · have h1 := ih (by omega)
    have e : psum (zp S p) c (j + 1) = psum (zp S p) c j := by
      show psum (zp S p) c j + _ = _
      rw [if_neg hb]
      rfl
    rw [e] at h1
    rw [nI_1]
    exact h1
  · have h1 := ih (by omega)
    have e : psum (zp S p) c (j + 1) = psum (zp S p) c j + zp S p j := by
      show psum (zp S p) c j + _ = _
      rw [if_pos hb]
    rw [e] at h1
    rw [nI_clamp (by omega), nI_clamp (by omega), (hr.2.2.2.2 j (by omega)).1 p hp, nI_1, nI_add]
    exact h1
theorem c0_wU (E : rp_E) {M : rp_M} {S : rs_S} (hw : Wf S) (hr : R0 S M) {c s : Nat} (hc : c < 2 ^ 31) : rp_C E YX4_weightUnder [.ref 0, .int (nI c), .int (nI s)] M (some (nI (zsum S 1 c + zsum S 2 (c &&& s)))) M := by
  refine rp_C_of (fun post hpost => vX4_weightUnder E post M _ _ ⟨_, _, c0_sumOf E hw hr (p := 1) (by omega) hc, ?_⟩)
  rw [nI_and]
  refine ⟨_, _, c0_sumOf E hw hr (p := 2) (by omega) (Nat.lt_of_le_of_lt Nat.and_le_left hc), ?_⟩
  rw [nI_add]
  exact hpost
theorem c0_pU (E : rp_E) {M : rp_M} {S : rs_S} (hw : Wf S) (hr : R0 S M) {c s : Nat} (hc : c < 2 ^ 31) : rp_C E YX4_profitUnder [.ref 0, .int (nI c), .int (nI s)] M (some (iI ((zsum S 0 c : Int) - (zsum S 3 (c &&& s) : Int)))) M := by
  refine rp_C_of (fun post hpost => vX4_profitUnder E post M _ _ ⟨_, _, c0_sumOf E hw hr (p := 0) (by omega) hc, ?_⟩)
  rw [nI_and]
  refine ⟨_, _, c0_sumOf E hw hr (p := 3) (by omega) (Nat.lt_of_le_of_lt Nat.and_le_left hc), ?_⟩
  rw [nI_s]
  exact hpost
theorem c0_worst (E : rp_E) {M : rp_M} {S : rs_S} (hw : Wf S) (hr : R0 S M) {p c g : Nat} (hp : p < 4) (hc : c < 2 ^ 31) (hg : g ≤ 12) : rp_C E YX4_worst [.ref 0, .int (nI c), .int (nI p), .int (nI g)] M (some (nI (zworst S p c g))) M := by
  refine rp_C_of (fun post hpost => vX4_worst E post M _ _ _ ?_)
  have hn := hw.n12
  suffices key : ∀ i, i ≤ g → rp_G E YX4_worst post 6 [.ref 0, .int (nI c), .int (nI p), .int (nI g), .int (nI (wst (zp S p) c (zn S) i)), .int (nI i), .null, .null, .null, .null] [] M from key 0 (Nat.zero_le _)
  refine up_loop (fun i hi ih => vX4_worst_6 E post M _ _ _ _ _ ?_)
  rw [nI_leI (by omega) (by omega)]
  refine ⟨fun h => ?_, fun h => ?_⟩
  · have e : i = g := by omega
    subst e
    exact hpost
  have hs : wst (zp S p) c (zn S) i < 4096 := Nat.lt_of_lt_of_le wst_lt hw.two
  generalize hse : wst (zp S p) c (zn S) i = s at hs ih ⊢
  have hov : ∀ j, j ≤ zn S → ov (zp S p) (pck (zp S p) c s j) ≤ 999 := fun j hj => by
    cases q : pck (zp S p) c s j with
    | none => exact Nat.zero_le _
    | some k => exact hw.p999 hp (by have := pck_lt q; omega)
  have e1 : ∀ k, (1 : Int32) <<< (nI k &&& 31) = (1 : Int32) <<< (nI k &&& 31) := fun _ => rfl
  suffices key : ∀ j, j ≤ zn S → rp_G E YX4_worst post 21 [.ref 0, .int (nI c), .int (nI p), .int (nI g), .int (nI s), .int (nI i), .int (match pck (zp S p) c s j with | none => (-1) | some k => nI k), .int (nI (ov (zp S p) (pck (zp S p) c s j))), .int (nI j), .null] [] M from key 0 (Nat.zero_le _)
  refine up_loop (fun j hj ihj => vX4_worst_21 E post M _ _ _ _ _ _ _ _ ?_)
  rw [hr.1, nI_leI (by omega) (by omega)]
  have skip : pck (zp S p) c s (j + 1) = pck (zp S p) c s j → j < zn S → rp_G E YX4_worst post 21 [.ref 0, .int (nI c), .int (nI p), .int (nI g), .int (nI s), .int (nI i), .int (match pck (zp S p) c s j with | none => (-1) | some k => nI k), .int (nI (ov (zp S p) (pck (zp S p) c s j))), .int (nI j + 1), .null] [] M := fun e hjn => by
    have h1 := ihj hjn
    rw [e] at h1
    rw [nI_1]
    exact h1
  refine ⟨fun h => ?_, fun h => ?_⟩
  · have e : j = zn S := by omega
    subst e
    cases hk : pck (zp S p) c s (zn S) with
    | none =>
      refine ⟨fun q => absurd q (by decide), fun _ => ?_⟩
      have e2 := wst_stop (f := zp S p) (c := c) (m := zn S) (i := i) (by rw [hse]; exact hk) g (by omega)
      unfold zworst at hpost
      rw [e2, hse] at hpost
      exact hpost
    | some k =>
      have hk12 := pck_lt hk
      refine ⟨fun _ => ?_, fun q => absurd ?_ q⟩
      · have h1 := ih (by omega)
        have e2 : wst (zp S p) c (zn S) (i + 1) = s ||| 2 ^ k := by
          show (match pck (zp S p) c (wst (zp S p) c (zn S) i) (zn S) with | none => wst (zp S p) c (zn S) i | some k => wst (zp S p) c (zn S) i ||| 2 ^ k) = _
          rw [hse, hk]
        rw [e2] at h1
        show rp_G E YX4_worst post 6 [.ref 0, .int (nI c), .int (nI p), .int (nI g), .int (nI s ||| ((1 : Int32) <<< (nI k &&& 31) : Int32)), .int (nI i + 1), .null, .null, .null, .null] [] M
        rw [nI_one_shl (by omega), nI_or, nI_1]
        exact h1
      · show nI 0 ≤ nI k
        rw [nI_leI (by omega) (by omega)]
        omega
  · have hj2 : j < zn S := by omega
    have h9 := hw.p999 hp hj2
    have ho := hov j hj
    rw [nI_not, nI_bit1 (Nat.lt_of_lt_of_le (zdf_le c s hc) (Nat.le_refl _)) (by omega), zdf_bit]
    refine ⟨fun q => skip (pck_no (fun z => q (by rw [z.1, z.2.1]; rfl))) hj2, fun q => ⟨nI_inb (by omega) (by omega), nI_inb (by omega) (by omega), ?_⟩⟩
    rw [nI_clamp (by omega), nI_clamp (by omega), (hr.2.2.2.2 j hj2).1 p hp, nI_leI (by omega) (by omega)]
    refine ⟨fun z => skip (pck_no (fun y => by omega)) hj2, fun z => ?_⟩
    have h1 := ihj hj2
    have e : pck (zp S p) c s (j + 1) = some j := by
      refine pck_yes ?_
      revert q
      cases c.testBit j <;> cases s.testBit j <;> intro q <;> first | exact absurd q (by decide) | exact ⟨rfl, rfl, by omega⟩
    rw [e] at h1
    rw [nI_1]
    exact h1
theorem wst_sub {f : Nat → Nat} {c m : Nat} : ∀ g, wst f c m g &&& c = wst f c m g
  | 0 => Nat.zero_and _
  | g + 1 => by
    have ih := wst_sub (f := f) (c := c) (m := m) g
    unfold wst
    cases q : pck f c (wst f c m g) m with
    | none => exact ih
    | some k =>
      show (wst f c m g ||| 2 ^ k) &&& c = wst f c m g ||| 2 ^ k
      have hk := (pck_spec q).2.1
      apply Nat.eq_of_testBit_eq
      intro i
      have ih2 := congrArg (fun x => x.testBit i) ih
      simp only [Nat.testBit_and] at ih2
      rw [Nat.testBit_and, Nat.testBit_or, Nat.testBit_two_pow]
      by_cases e : k = i
      · subst e
        rw [hk]
        simp
      · simp [e]
        intro h
        rw [h] at ih2
        simpa using ih2
theorem c0_closeGap (E : rp_E) (M : rp_M) {m i : Nat} (hm : m < 4096) (hi : i < 12) : rp_C E YX4_closeGap [.int (nI m), .int (nI i)] M (some (nI (zgap m i))) M := by
  refine rp_C_of (fun post hpost => vX4_closeGap E post M _ _ ?_)
  have e1 : (1 : Int32) <<< (nI i &&& 31) = nI (2 ^ i) := nI_one_shl (by omega)
  have hp := Nat.two_pow_pos i
  rw [e1, show nI (2 ^ i) - 1 = nI (2 ^ i - 1) from pk_sub hp, nI_and, show ((1 : Int32) &&& 31) = (nI 1 &&& 31) by rfl, nI_shr (by omega) (by omega), nI_not, nI_or]
  have e : (m &&& (2 ^ i - 1)) ||| zdf (m / 2 ^ 1) (2 ^ i - 1) = zgap m i := by
    apply Nat.eq_of_testBit_eq
    intro j
    rw [Nat.testBit_or, Nat.testBit_and, zdf_bit, Nat.testBit_two_pow_sub_one, Nat.testBit_div_two_pow, zgap_bit]
    by_cases h : j < i
    · simp [h]
    · simp only [h, decide_false, Bool.and_false, Bool.not_false, Bool.and_true, Bool.false_or, if_false]
  rw [e]
  exact hpost
theorem c0_neededBy (E : rp_E) {M : rp_M} {S : rs_S} (hw : Wf S) (hr : R0 S M) {i : Nat} (hi : i < 12) : rp_C E YX4_neededBy [.ref 0, .int (nI i)] M (some (nI (nby S i (zn S)))) M := by
  refine rp_C_of (fun post hpost => vX4_neededBy E post M _ ?_)
  have hn := hw.n12
  suffices key : ∀ j, j ≤ zn S → rp_G E YX4_neededBy post 4 [.ref 0, .int (nI i), .int (nI (nby S i j)), .int (nI j)] [] M from key 0 (Nat.zero_le _)
  refine up_loop (fun j hj ih => vX4_neededBy_4 E post M _ _ _ ?_)
  rw [hr.1, nI_leI (by omega) (by omega)]
  refine ⟨fun h => ?_, fun h => ?_⟩
  · have e : j = zn S := by omega
    subst e
    exact hpost
  have hj2 : j < zn S := by omega
  have hd := (hw.it hj2).2.2.2.2.2.2.2.2.1
  have h2 := hw.two
  refine ⟨nI_inb (by omega) (by omega), ?_⟩
  rw [nI_clamp (by omega), (hr.2.2.2.2 j hj2).2.2.2, nI_bit1 (by omega) (by omega)]
  have h1 := ih hj2
  refine ⟨fun q => ?_, fun q => ?_⟩
  · have e : nby S i (j + 1) = nby S i j := by
      show nby S i j ||| (if (zd S j).testBit i then 2 ^ j else 0) = _
      rw [if_neg q, Nat.or_zero]
    rw [e] at h1
    rw [nI_1]
    exact h1
  · have e : nby S i (j + 1) = nby S i j ||| 2 ^ j := by
      show nby S i j ||| (if (zd S j).testBit i then 2 ^ j else 0) = _
      rw [if_pos q]
    rw [e] at h1
    rw [nI_1, nI_one_shl (by omega), nI_or]
    exact h1
