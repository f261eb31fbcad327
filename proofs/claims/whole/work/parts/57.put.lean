/-! LONGS as rows of characters -/
def uN (x : Int64) : Nat := x.toBitVec.toNat
theorem uN_lt (x : Int64) : uN x < 2 ^ 64 := x.toBitVec.isLt
theorem uN_0 {x : Int64} : x = 0 ↔ uN x = 0 := by
  constructor
  · intro h
    rw [h]
    rfl
  · intro h
    apply Int64.toBitVec_inj.mp
    apply BitVec.eq_of_toNat_eq
    exact h
theorem uN_and (x : Int64) : uN (x &&& 255) = uN x % 256 := by
  unfold uN
  rw [Int64.toBitVec_and, BitVec.toNat_and]
  show x.toBitVec.toNat &&& 255 = _
  exact Nat.and_two_pow_sub_one_eq_mod _ 8
theorem uN_i32 {x : Int64} (h : uN x < 256) : Int64.toInt32 x = nI (uN x) := by
  apply Int32.toBitVec_inj.mp
  apply BitVec.eq_of_toNat_eq
  rw [nI_bv, BitVec.toNat_ofNat]
  show (x.toBitVec.signExtend 32).toNat = _
  rw [BitVec.signExtend_eq_setWidth_of_le _ (by decide), BitVec.toNat_setWidth]
  rfl
theorem uN_ushr {x : Int64} {y : Int32} {k : Nat} (hk : k < 64) (hy : y = nI k) : uN (rp_lush x y) = uN x / 2 ^ k := by
  have e : ∀ k, k < 64 → ((nI k).toInt64.toUInt64 &&& Int64.toUInt64 63).toNat % 64 = k := by decide +kernel
  subst hy
  unfold uN rp_lush
  show (x.toUInt64 >>> ((nI k).toInt64.toUInt64 &&& Int64.toUInt64 63)).toNat = _
  rw [UInt64.toNat_shiftRight, e k hk, Nat.shiftRight_eq_div_pow]
  rfl
theorem uN_sshr {x : Int64} {y : Int32} {k : Nat} (hk : k ≤ 56) (hy : y = nI k) : uN ((x >>> (y.toInt64 &&& 63)) &&& 255) = uN x / 2 ^ k % 256 := by
  have e : ∀ k, k < 57 → (((nI k).toInt64 &&& 63).toBitVec.smod 64).toNat = k := by decide +kernel
  subst hy
  rw [uN_and]
  unfold uN
  rw [Int64.toBitVec_shiftRight]
  show (x.toBitVec.sshiftRight (((nI k).toInt64 &&& 63).toBitVec.smod 64).toNat).toNat % 256 = _
  rw [e k (by omega)]
  apply Nat.eq_of_testBit_eq
  intro i
  rw [show (256 : Nat) = 2 ^ 8 by rfl, Nat.testBit_mod_two_pow, Nat.testBit_mod_two_pow, Nat.testBit_div_two_pow]
  by_cases h : i < 8
  · rw [BitVec.testBit_toNat, BitVec.testBit_toNat, BitVec.getLsbD_sshiftRight]
    rw [show k + i = i + k by omega]
    simp [h, show i < 64 by omega, show i + k < 64 by omega]
  · simp [h]
/-- how many characters: none if it isn't such a number -/
def chl : Nat → Nat → Option Nat
  | 0, u => if u = 0 then some 0 else none
  | f + 1, u => if u % 256 = 0 then (if u = 0 then some 0 else none) else if 33 ≤ u % 256 ∧ u % 256 ≤ 126 then (chl f (u / 256)).map (· + 1) else none
def chm (u : Nat) : Nat := (chl 8 u).getD 0
def chs (u m : Nat) : List Nat := (List.range m).map (fun k => u / 2 ^ (8 * (m - 1 - k)) % 256)
theorem chs_len (u m : Nat) : (chs u m).length = m := by
  unfold chs
  rw [List.length_map, List.length_range]
theorem chs_at {u m k : Nat} (h : k < m) : (chs u m)[k]? = some (u / 2 ^ (8 * (m - 1 - k)) % 256) := by
  unfold chs
  rw [List.getElem?_map, List.getElem?_range h]
  rfl
theorem chl_le : ∀ (f u m : Nat), chl f u = some m → m ≤ f ∧ ∀ j, j < m → 33 ≤ u / 2 ^ (8 * j) % 256 ∧ u / 2 ^ (8 * j) % 256 ≤ 126
  | 0, u, m, h => by
    unfold chl at h
    split at h
    · cases h
      exact ⟨Nat.le_refl _, fun j hj => absurd hj (by omega)⟩
    · cases h
  | f + 1, u, m, h => by
    unfold chl at h
    split at h
    · split at h
      · cases h
        exact ⟨by omega, fun j hj => absurd hj (by omega)⟩
      · cases h
    · split at h
      · next q =>
        cases q2 : chl f (u / 256) with
        | none => rw [q2] at h; cases h
        | some m' =>
          rw [q2] at h
          have h : some (m' + 1) = some m := h
          cases h
          obtain ⟨h1, h2⟩ := chl_le f (u / 256) m' q2
          refine ⟨by omega, fun j hj => ?_⟩
          cases j with
          | zero =>
            rw [show u / 2 ^ (8 * 0) = u by rw [Nat.mul_zero, Nat.pow_zero, Nat.div_one]]
            exact q
          | succ i =>
            have e : u / 2 ^ (8 * (i + 1)) = u / 256 / 2 ^ (8 * i) := by
              rw [Nat.div_div_eq_div_mul, show 8 * (i + 1) = 8 + 8 * i by omega, Nat.pow_add]
            rw [e]
            exact h2 i (by omega)
      · cases h
theorem chm_le (u : Nat) : chm u ≤ 8 := by
  unfold chm
  cases q : chl 8 u with
  | none => exact Nat.zero_le _
  | some m => exact (chl_le 8 u m q).1
theorem chs_ok {u c : Nat} (h : c ∈ chs u (chm u)) : 33 ≤ c ∧ c ≤ 126 := by
  unfold chs at h
  obtain ⟨k, hk, rfl⟩ := List.mem_map.mp h
  have hk := List.mem_range.mp hk
  unfold chm at hk ⊢
  cases q : chl 8 u with
  | none =>
    rw [q] at hk
    exact absurd hk (by show ¬ k < 0; omega)
  | some m =>
    rw [q] at hk
    have hk : k < m := hk
    exact (chl_le 8 u m q).2 (m - 1 - k) (by omega)
def a_put (g : rs_G) (x : Int64) : Int32 := if chm (uN x) = 0 then (-2) else if g.2.2.length + chm (uN x) ≤ 80 then nI (g.2.2.length + chm (uN x)) else (-4)
def g_put (g : rs_G) (x : Int64) : rs_G := if chm (uN x) = 0 then g else if g.2.2.length + chm (uN x) ≤ 80 then (g.1, g.2.1, g.2.2 ++ chs (uN x) (chm (uN x))) else g
theorem g_put_WG {g : rs_G} (h : WG g) (x : Int64) : WG (g_put g x) := by
  unfold g_put
  split
  · exact h
  · split
    · next q =>
      refine ⟨h.1, h.2.1, h.2.2.1, ?_, fun c hc => ?_⟩
      · show (g.2.2 ++ chs (uN x) (chm (uN x))).length ≤ 80
        rw [List.length_append, chs_len]
        exact q
      · rcases List.mem_append.mp hc with z | z
        · exact h.2.2.2.2 c z
        · exact chs_ok z
    · exact h
def g_wipe (g : rs_G) : rs_G := (g.1, g.2.1, [])
theorem g_wipe_WG {g : rs_G} (h : WG g) : WG (g_wipe g) := ⟨h.1, h.2.1, h.2.2.1, by show 0 ≤ 80; omega, fun c hc => by cases hc⟩
theorem d6_wipe (E : rp_E) {M : rp_M} {g : rs_G} (hI : IM g M) : rp_Run E YX6_wipe [.ref 155] M (rp_P (fun v M' => v = nI g.2.2.length ∧ IM (g_wipe g) M' ∧ keepX M M')) := by
  refine vX6_wipe E _ M (fun M1 e1 => ⟨_, rfl, hI.2.2.2.1, ⟨?_, ?_, ?_, ?_, fun i c hi => by cases hi⟩, fun k hk => by rw [e1, rp_s_cell (by omega)]⟩)
  · rw [e1, rp_s_cell (by decide)]
    exact hI.1
  · rw [e1, rp_s_ne (by omega)]
    exact hI.2.1
  · intro j s hj
    rw [e1, rp_s_cell (by decide)]
    exact hI.2.2.1 j s hj
  · rw [e1, rp_s_at]
    rfl
theorem lcmp0 {x : Int64} : lg_cmp x 0 = 0 ↔ uN x = 0 := (lg_cmp_eq x 0).trans uN_0
theorem put86 (E : rp_E) {M : rp_M} {g : rs_G} (hW : WG g) (hI : IM g M) {x : Int64} {m : Nat} (hm : m ≤ 8) (hle : g.2.2.length + m ≤ 80) (post : Option Int32 → rp_M → Prop) (hpost : ∀ M', IM (g.1, g.2.1, g.2.2 ++ chs (uN x) m) M' → keepX M M' → post (some (nI (g.2.2.length + m))) M') : rp_G E YX6_put post 86 [.ref 155, .long x, .null, .int (nI m), .null, .null, .int 0] [] M := by
  have main : ∀ j, j ≤ m → ∀ M1 : rp_M, (∀ k, k ≠ 158 → M1 k = M k) → (∀ i, i < g.2.2.length → M1 158 i = M 158 i) → (∀ i, i < j → M1 158 (g.2.2.length + i) = nI (uN x / 2 ^ (8 * (m - 1 - i)) % 256)) → rp_G E YX6_put post 86 [.ref 155, .long x, .null, .int (nI m), .null, .null, .int (nI j)] [] M1 := by
    refine up_loop (fun j hj ih M1 h1 h2 h3 => ?_)
    have m4 : M1 155 4 = nI g.2.2.length := by rw [h1 155 (by decide)]; exact hI.2.2.2.1
    refine vX6_put_86 E _ M1 _ _ _ ?_
    rw [m4, nI_leI (by omega) (by omega), nI_add]
    refine ⟨fun hle2 M2 e2 => ?_, fun hlt => ?_⟩
    · have ej : j = m := by omega
      rw [show M2 155 4 = nI (g.2.2.length + m) by rw [e2, rp_s_at]]
      refine hpost M2 ⟨?_, ?_, ?_, ?_, ?_⟩ (fun k hk => by rw [e2, rp_s_cell (by omega), h1 k (by omega)])
      · rw [e2, rp_s_cell (by decide), h1 156 (by decide)]
        exact hI.1
      · rw [e2, rp_s_ne (by omega), h1 155 (by decide)]
        exact hI.2.1
      · intro i s hi
        rw [e2, rp_s_cell (by decide), h1 157 (by decide)]
        exact hI.2.2.1 i s hi
      · rw [e2, rp_s_at]
        show nI (g.2.2.length + m) = nI (g.2.2 ++ chs (uN x) m).length
        rw [List.length_append, chs_len]
      · intro i c hi
        rw [e2, rp_s_cell (by decide)]
        have hi : (g.2.2 ++ chs (uN x) m)[i]? = some c := hi
        by_cases q : i < g.2.2.length
        · rw [List.getElem?_append_left q] at hi
          rw [h2 i q]
          exact hI.2.2.2.2 i c hi
        · rw [List.getElem?_append_right (by omega)] at hi
          have q2 : i - g.2.2.length < m := by
            apply Classical.byContradiction
            intro z
            rw [List.getElem?_eq_none (by rw [chs_len]; omega)] at hi
            cases hi
          rw [chs_at q2] at hi
          cases hi
          have := h3 (i - g.2.2.length) (by omega)
          rw [show g.2.2.length + (i - g.2.2.length) = i by omega] at this
          exact this
    · have hj2 : j < m := by omega
      rw [nI_add]
      refine ⟨nI_inb (by omega) (by omega), fun M2 e2 => ?_⟩
      rw [nI_clamp (by omega), show nI m - 1 = nI (m - 1) from pk_sub (show 1 ≤ m by omega), pk_sub (show j ≤ m - 1 by omega), show (8 : Int32) * nI (m - 1 - j) = nI (8 * (m - 1 - j)) from pk_mul 8 _] at e2
      rw [uN_i32 (by rw [uN_sshr (k := 8 * (m - 1 - j)) (by omega) rfl]; omega), uN_sshr (k := 8 * (m - 1 - j)) (by omega) rfl] at e2
      rw [nI_1]
      refine ih hj2 M2 (fun k hk => by rw [e2, rp_s_cell hk, h1 k hk]) (fun i hi => by rw [e2, rp_s_ne (by omega), h2 i hi]) (fun i hi => ?_)
      by_cases q : i = j
      · rw [e2, q, rp_s_at]
      · rw [e2, rp_s_ne (by omega)]
        exact h3 i (by omega)
  exact main 0 (Nat.zero_le _) M (fun _ _ => rfl) (fun _ _ => rfl) (fun i hi => absurd hi (by omega))
theorem d6_put (E : rp_E) {M : rp_M} {g : rs_G} (hW : WG g) (hI : IM g M) (x : Int64) : rp_Run E YX6_put [.ref 155, .long x] M (rp_P (fun v M' => v = a_put g x ∧ IM (g_put g x) M' ∧ keepX M M')) := by
  have hl := hW.2.2.2.1
  have bad : chm (uN x) = 0 → rp_P (fun v M' => v = a_put g x ∧ IM (g_put g x) M' ∧ keepX M M') (some (-2)) M := fun q => ⟨_, rfl, by unfold a_put; rw [if_pos q], by unfold g_put; rw [if_pos q]; exact hI, fun _ _ => rfl⟩
  -- the end
  have fin : ∀ (m : Nat) (y : Int64), m ≤ 8 → ((uN y = 0 → chm (uN x) = m) ∧ (¬ uN y = 0 → chm (uN x) = 0)) → ((nI m = 0 → rp_P (fun v M' => v = a_put g x ∧ IM (g_put g x) M' ∧ keepX M M') (some (-2)) M) ∧ (¬ nI m = 0 → (((lg_cmp y 0) = 0 → ((((M 155 4) + nI m) ≤ 80 → (rp_G E YX6_put (rp_P (fun v M' => v = a_put g x ∧ IM (g_put g x) M' ∧ keepX M M')) 86 [.ref 155, .long x, .null, .int (nI m), .null, .null, .int 0] [] M)) ∧ (¬ ((M 155 4) + nI m) ≤ 80 → rp_P (fun v M' => v = a_put g x ∧ IM (g_put g x) M' ∧ keepX M M') (some (-4)) M))) ∧ (¬ (lg_cmp y 0) = 0 → rp_P (fun v M' => v = a_put g x ∧ IM (g_put g x) M' ∧ keepX M M') (some (-2)) M)))) := by
    intro m y hm hy
    rw [show (0 : Int32) = nI 0 by rfl, nI_eq (by omega) (by omega)]
    refine ⟨fun h => bad ?_, fun h => ?_⟩
    · by_cases q : uN y = 0
      · rw [hy.1 q, h]
      · exact hy.2 q
    · rw [show nI 0 = (0 : Int32) by rfl, lcmp0]
      refine ⟨fun q => ?_, fun q => bad (hy.2 q)⟩
      have e := hy.1 q
      rw [hI.2.2.2.1, nI_add, show (80 : Int32) = nI 80 by rfl, nI_leI (by omega) (by omega)]
      refine ⟨fun z => put86 E hW hI hm z _ (fun M' h1 h2 => ⟨_, rfl, ?_, ?_, h2⟩), fun z => ⟨_, rfl, ?_, ?_, fun _ _ => rfl⟩⟩
      · unfold a_put
        rw [if_neg (by omega), e, if_pos z]
      · unfold g_put
        rw [if_neg (by omega), e, if_pos z]
        exact h1
      · unfold a_put
        rw [if_neg (by omega), e, if_neg z]
      · unfold g_put
        rw [if_neg (by omega), e, if_neg z]
        exact hI
  have main : ∀ f m : Nat, m + f = 8 → ∀ y : Int64, chm (uN x) = ((chl f (uN y)).map (· + m)).getD 0 → rp_G E YX6_put (rp_P (fun v M' => v = a_put g x ∧ IM (g_put g x) M' ∧ keepX M M')) 5 [.ref 155, .long x, .null, .int (nI m), .long y, .null, .null] [] M := by
    intro f
    induction f with
    | zero =>
      intro m hm y hy
      refine vX6_put_5 E _ M _ _ _ ⟨fun _ => fin m y (by omega) ⟨fun q => ?_, fun q => ?_⟩, fun h => absurd (show (8 : Int32) ≤ nI m by rw [show m = 8 by omega]; decide) h⟩
      · rw [hy]
        unfold chl
        rw [if_pos q]
        exact Nat.zero_add m
      · rw [hy]
        unfold chl
        rw [if_neg q]
        rfl
    | succ f ih =>
      intro m hm y hy
      refine vX6_put_5 E _ M _ _ _ ?_
      rw [show (8 : Int32) = nI 8 by rfl, nI_leI (by omega) (by omega), show nI 8 = (8 : Int32) by rfl]
      refine ⟨fun h => absurd h (by omega), fun _ => ?_⟩
      rw [lcmp0, uN_and]
      refine ⟨fun h => fin m y (by omega) ⟨fun q => ?_, fun q => ?_⟩, fun h => ⟨_, _, c_in E M _ _ _, ?_⟩⟩
      · rw [hy]
        unfold chl
        rw [if_pos h, if_pos q]
        exact Nat.zero_add m
      · rw [hy]
        unfold chl
        rw [if_pos h, if_neg q]
        rfl
      · have e1 : Int64.toInt32 (y &&& 255) = nI (uN y % 256) := by
          rw [uN_i32 (by rw [uN_and]; omega), uN_and]
        rw [e1, bI_n, bI_0, decide_eq_true_eq, decide_eq_false_iff_not, nI_toInt (by omega), show ((33 : Int32)).toInt = 33 by decide, show ((126 : Int32)).toInt = 126 by decide]
        refine ⟨fun q => ?_, fun q => bad ?_⟩
        · rw [nI_1]
          refine ih (m + 1) (by omega) (rp_lush y 8) ?_
          rw [hy, uN_ushr (x := y) (y := 8) (k := 8) (by omega) rfl]
          unfold chl
          rw [if_neg h, if_pos (by omega)]
          cases f with
          | zero =>
            show ((Option.map (· + 1) (chl 0 (uN y / 256))).map (· + m)).getD 0 = ((chl 0 (uN y / 256)).map (· + (m + 1))).getD 0
            cases chl 0 (uN y / 256) with
            | none => rfl
            | some k => show k + 1 + m = k + (m + 1); omega
          | succ f' =>
            show ((Option.map (· + 1) (chl (f' + 1) (uN y / 256))).map (· + m)).getD 0 = ((chl (f' + 1) (uN y / 256)).map (· + (m + 1))).getD 0
            cases chl (f' + 1) (uN y / 256) with
            | none => rfl
            | some k => show k + 1 + m = k + (m + 1); omega
        · rw [hy]
          unfold chl
          rw [if_neg h, if_neg (by omega)]
          rfl
  refine vX6_put E _ M _ (main 8 0 rfl x ?_)
  unfold chm
  cases chl 8 (uN x) with
  | none => rfl
  | some k => rfl
