/-! THE REFERENCE, 1: ranges, bits, sums, worst scenarios -/
/-- 0 to n - 1 -/
def isI (n : Nat) (x : Int32) : Bool := decide (0 ≤ x.toInt ∧ x.toInt < (n : Int))
theorem isI_of {n : Nat} {x : Int32} (hn : n < 2 ^ 31) (h : isI n x = true) : ∃ j, j < n ∧ x = nI j := by
  have h := of_decide_eq_true h
  refine ⟨x.toInt.toNat, by omega, ?_⟩
  apply Int32.toInt_inj.mp
  rw [nI_toInt (by omega)]
  omega
theorem isI_nI {n j : Nat} (hj : j < n) (hn : n < 2 ^ 31) : isI n (nI j) = true := by
  unfold isI
  rw [nI_toInt (by omega)]
  exact decide_eq_true (by omega)
theorem nI_m1 {n : Nat} (hn : n < 2 ^ 31) : (nI n - 1).toInt = (n : Int) - 1 := by
  have h : nI n - 1 = iI ((n : Int) - 1) := by
    rw [show (1 : Int32) = nI 1 by rfl, nI_s]
    rfl
  rw [h, iI_toInt (by omega) (by omega)]
theorem Int32.lt_d {a b : Int32} : a < b ↔ a.toInt < b.toInt := Int32.lt_iff_toInt_lt
theorem Int32.le_d {a b : Int32} : a ≤ b ↔ a.toInt ≤ b.toInt := Int32.le_iff_toInt_le
theorem c_in (E : rp_E) (M : rp_M) (x lo hi : Int32) : rp_C E YX6_in [.int x, .int lo, .int hi] M (some (bI (decide (lo.toInt ≤ x.toInt ∧ x.toInt ≤ hi.toInt)))) M := by
  refine rp_C_of (fun post hp => vX6_in E post M x lo hi ?_)
  simp only [Int32.lt_d]
  refine ⟨fun h => ?_, fun h => ⟨fun h2 => ?_, fun h2 => ?_⟩⟩
  · rw [decide_eq_false (by omega)] at hp
    exact hp
  · rw [decide_eq_false (by omega)] at hp
    exact hp
  · rw [decide_eq_true (by omega)] at hp
    exact hp
theorem c_has (E : rp_E) (M : rp_M) {c k : Nat} (hc : c < 2 ^ 31) (hk : k < 32) : rp_C E YX6_has [.int (nI c), .int (nI k)] M (some (bI (c.testBit k))) M := by
  refine rp_C_of (fun post hp => vX6_has E post M _ _ ?_)
  rw [nI_bit1 hc hk]
  refine ⟨fun h => ?_, fun h => ?_⟩
  · rw [Bool.eq_false_iff.mpr h] at hp
    exact hp
  · rw [h] at hp
    exact hp
def pop (c : Nat) : Nat := psum (fun _ => 1) c 12
theorem pop_le (c : Nat) : pop c ≤ 12 := psum_le (m := 12) (B := 1) (fun _ _ => Nat.le_refl 1)
theorem c_sizeOf (E : rp_E) (M : rp_M) {c : Nat} (hc : c < 2 ^ 31) : rp_C E YX6_sizeOf [.int (nI c)] M (some (nI (pop c))) M := by
  refine rp_C_of (fun post hp => vX6_sizeOf E post M _ ?_)
  suffices key : ∀ j, j ≤ 12 → rp_G E YX6_sizeOf post 4 [.int (nI c), .int (nI (psum (fun _ => 1) c j)), .int (nI j)] [] M from key 0 (Nat.zero_le _)
  refine up_loop (fun j hj ih => vX6_sizeOf_4 E post M _ _ _ ?_)
  rw [show (12 : Int32) = nI 12 by rfl, nI_leI (by omega) (by omega)]
  refine ⟨fun h => ?_, fun h => ?_⟩
  · have e : j = 12 := by omega
    subst e
    exact hp
  · have h1 := ih (by omega)
    rw [nI_bit hc (by omega), nI_add, nI_1]
    exact h1
theorem c_isItem (E : rp_E) {M : rp_M} {n : Nat} (hn : n ≤ 12) (h0 : M 156 0 = nI n) (x : Int32) : rp_C E YX6_isItem [.ref 155, .int x] M (some (bI (isI n x))) M := by
  refine rp_C_of (fun post hp => vX6_isItem E post M x ?_)
  refine ⟨_, _, c_in E M _ _ _, bI_nar _, ?_⟩
  rw [h0, nI_m1 (by omega), Int32.toInt_zero]
  have e : decide (0 ≤ x.toInt ∧ x.toInt ≤ (n : Int) - 1) = isI n x := by
    unfold isI
    congr 1
    exact propext ⟨fun h => by omega, fun h => by omega⟩
  rw [e]
  exact hp
theorem c_isChoice (E : rp_E) {M : rp_M} {n : Nat} (hn : n ≤ 12) (h0 : M 156 0 = nI n) (x : Int32) : rp_C E YX6_isChoice [.ref 155, .int x] M (some (bI (isI (2 ^ n) x))) M := by
  refine rp_C_of (fun post hp => vX6_isChoice E post M x ?_)
  refine ⟨_, _, c_in E M _ _ _, bI_nar _, ?_⟩
  have h2 : 2 ^ n ≤ 4096 := Nat.le_trans (Nat.pow_le_pow_right (by omega) hn) (by decide)
  rw [h0, nI_one_shl (by omega), nI_m1 (by omega), Int32.toInt_zero]
  have e : decide (0 ≤ x.toInt ∧ x.toInt ≤ ((2 ^ n : Nat) : Int) - 1) = isI (2 ^ n) x := by
    unfold isI
    congr 1
    exact propext ⟨fun h => by omega, fun h => by omega⟩
  rw [e]
  exact hp
theorem c_sets (E : rp_E) {M : rp_M} {n : Nat} (hn : n ≤ 12) (h0 : M 156 0 = nI n) : rp_C E YX6_sets [.ref 155] M (some (nI (2 ^ n))) M := by
  refine rp_C_of (fun post hp => vX6_sets E post M ?_)
  rw [h0, nI_one_shl (by omega)]
  exact hp
theorem of_at {k p : Nat} (hk : k < 12) (hp : p < 5) : (4 : Int32) + (5 : Int32) * nI k + nI p = nI (4 + 5 * k + p) := by
  rw [show (4 : Int32) = nI 4 by rfl, show (5 : Int32) = nI 5 by rfl, pk_mul, nI_add, nI_add]
theorem c_ofR (E : rp_E) (M : rp_M) {k p : Nat} (hk : k < 12) (hp : p < 5) : rp_C E YX6_of [.ref 155, .int (nI k), .int (nI p)] M (some (M 156 (4 + 5 * k + p))) M := by
  refine rp_C_of (fun post hpost => vX6_of E post M _ _ ?_)
  rw [of_at hk hp, nI_clamp (by omega)]
  exact ⟨nI_inb (by omega) (by omega), hpost⟩
theorem c_of (E : rp_E) {M : rp_M} {S : rs_S} (hw : Wf S) (hr : RM S (M 156)) {k p : Nat} (hk : k < zn S) (hp : p < 4) : rp_C E YX6_of [.ref 155, .int (nI k), .int (nI p)] M (some (nI (zp S p k))) M := by
  have h := c_ofR E M (k := k) (p := p) (by have := hw.n12; omega) (by omega)
  rw [(hr.2.2.2.2 k hk).1 p hp] at h
  exact h
theorem c_sum (E : rp_E) {M : rp_M} {S : rs_S} (hw : Wf S) (hr : RM S (M 156)) {p c : Nat} (hp : p < 4) (hc : c < 2 ^ 31) : rp_C E YX6_sum [.ref 155, .int (nI c), .int (nI p)] M (some (nI (zsum S p c))) M := by
  refine rp_C_of (fun post hpost => vX6_sum E post M _ _ ?_)
  suffices key : ∀ j, j ≤ zn S → rp_G E YX6_sum post 5 [.ref 155, .int (nI c), .int (nI p), .int (nI (psum (zp S p) c j)), .int (nI j)] [] M from key 0 (Nat.zero_le _)
  have hn := hw.n12
  refine up_loop (fun j hj ih => vX6_sum_5 E post M _ _ _ _ ?_)
  rw [hr.1, nI_leI (by omega) (by omega)]
  refine ⟨fun h => ?_, fun h => ⟨_, _, c_has E M hc (by omega), fun hb => ?_, fun hb => ?_⟩⟩
  · have e : j = zn S := by omega
    subst e
    exact hpost
  · have h1 := ih (by omega)
    have e : psum (zp S p) c (j + 1) = psum (zp S p) c j := by
      show psum (zp S p) c j + _ = _
      rw [bI_0.mp hb]
      rfl
    rw [e] at h1
    rw [nI_1, show nI (psum (zp S p) c j) + 0 = nI (psum (zp S p) c j) from Int32.add_zero _]
    exact h1
  · have h1 := ih (by omega)
    have e : psum (zp S p) c (j + 1) = psum (zp S p) c j + zp S p j := by
      show psum (zp S p) c j + _ = _
      rw [bI_n.mp hb]
      rfl
    rw [e] at h1
    refine ⟨_, _, c_of E hw hr (by omega) hp, ?_⟩
    rw [nI_1, nI_add]
    exact h1
theorem oM_neg {r : Option Nat} (h : ∀ k, r = some k → k < 2 ^ 31) : oM r < 0 ↔ r = none := by
  cases r with
  | none => exact ⟨fun _ => rfl, fun _ => by decide⟩
  | some k => exact ⟨fun q => absurd q (nI_pos (h k rfl)), fun q => by cases q⟩
theorem oM_nneg {r : Option Nat} (h : ∀ k, r = some k → k < 2 ^ 31) : 0 ≤ oM r ↔ r ≠ none := by
  rw [Ne, ← not_congr (oM_neg h), Int32.lt_d, Int32.le_d, Int32.toInt_zero]
  omega
theorem pck_no {f : Nat → Nat} {c s j : Nat} (h : ¬ (c.testBit j = true ∧ s.testBit j = false ∧ ov f (pck f c s j) < f j)) : pck f c s (j + 1) = pck f c s j := if_neg h
theorem pck_yes {f : Nat → Nat} {c s j : Nat} (h : c.testBit j = true ∧ s.testBit j = false ∧ ov f (pck f c s j) < f j) : pck f c s (j + 1) = some j := if_pos h
theorem pck_lt {f : Nat → Nat} {c s m j : Nat} (h : pck f c s m = some j) : j < m := (pck_spec h).1
theorem c_worst (E : rp_E) {M : rp_M} {S : rs_S} (hw : Wf S) (hr : RM S (M 156)) {p c g : Nat} (hp : p < 4) (hc : c < 2 ^ 31) (hg : g ≤ 12) : rp_C E YX6_worst [.ref 155, .int (nI c), .int (nI p), .int (nI g)] M (some (nI (zworst S p c g))) M := by
  refine rp_C_of (fun post hpost => vX6_worst E post M _ _ _ ?_)
  have hn := hw.n12
  suffices key : ∀ i, i ≤ g → rp_G E YX6_worst post 6 [.ref 155, .int (nI c), .int (nI p), .int (nI g), .int (nI (wst (zp S p) c (zn S) i)), .int (nI i), .null, .null, .null] [] M from key 0 (Nat.zero_le _)
  refine up_loop (fun i hi ih => vX6_worst_6 E post M _ _ _ _ _ ?_)
  rw [nI_leI (by omega) (by omega)]
  refine ⟨fun h => ?_, fun h => ?_⟩
  · have e : i = g := by omega
    subst e
    exact hpost
  have hs : wst (zp S p) c (zn S) i < 4096 := Nat.lt_of_lt_of_le wst_lt hw.two
  generalize hse : wst (zp S p) c (zn S) i = s at hs ih ⊢
  suffices key : ∀ j, j ≤ zn S → rp_G E YX6_worst post 19 [.ref 155, .int (nI c), .int (nI p), .int (nI g), .int (nI s), .int (nI i), .int (oM (pck (zp S p) c s j)), .int (nI j), .null] [] M from key 0 (Nat.zero_le _)
  refine up_loop (fun j hj ihj => vX6_worst_19 E post M _ _ _ _ _ _ _ ?_)
  have hlt : ∀ k, pck (zp S p) c s j = some k → k < 2 ^ 31 := fun k hk => by
    have := pck_lt hk
    omega
  rw [hr.1, nI_leI (by omega) (by omega)]
  have skip : pck (zp S p) c s (j + 1) = pck (zp S p) c s j → j < zn S → rp_G E YX6_worst post 19 [.ref 155, .int (nI c), .int (nI p), .int (nI g), .int (nI s), .int (nI i), .int (oM (pck (zp S p) c s j)), .int (nI j + 1), .null] [] M := fun e hjn => by
    have h1 := ihj hjn
    rw [e] at h1
    rw [nI_1]
    exact h1
  refine ⟨fun h => ⟨fun h2 => ?_, fun h2 => ?_⟩, fun h => ⟨_, _, c_has E M hc (by omega), fun h2 => ?_, fun h2 => ⟨_, _, c_has E M (by omega) (by omega), fun h3 => ?_, fun h3 => ⟨_, _, c_of E hw hr (by omega) hp, fun h4 => ?_, fun h4 => ⟨fun h5 => ?_, fun h5 => ?_⟩⟩⟩⟩⟩
  · have e : j = zn S := by omega
    subst e
    cases hk : pck (zp S p) c s (zn S) with
    | none => exact absurd hk ((oM_nneg hlt).mp h2)
    | some k =>
      have hk12 := pck_lt hk
      have h1 := ih (by omega)
      have e2 : wst (zp S p) c (zn S) (i + 1) = s ||| 2 ^ k := by
        show (match pck (zp S p) c (wst (zp S p) c (zn S) i) (zn S) with | none => wst (zp S p) c (zn S) i | some k => wst (zp S p) c (zn S) i ||| 2 ^ k) = _
        rw [hse, hk]
      rw [e2] at h1
      show rp_G E YX6_worst post 6 [.ref 155, .int (nI c), .int (nI p), .int (nI g), .int (nI s ||| ((1 : Int32) <<< (nI k &&& 31) : Int32)), .int (nI i + 1), .null, .null, .null] [] M
      rw [nI_one_shl (by omega), nI_or, nI_1]
      exact h1
  · have e : j = zn S := by omega
    subst e
    have hk : pck (zp S p) c s (zn S) = none := by
      cases hk : pck (zp S p) c s (zn S) with
      | none => rfl
      | some k => exact absurd ((oM_nneg hlt).mpr (by rw [hk]; exact fun q => by cases q)) h2
    have e2 := wst_stop (f := zp S p) (c := c) (m := zn S) (i := i) (by rw [hse]; exact hk) g (by omega)
    unfold zworst at hpost
    rw [e2, hse] at hpost
    exact hpost
  · refine skip ?_ (by omega)
    rw [bI_0] at h2
    exact pck_no (fun q => by rw [h2] at q; exact absurd q.1 (by decide))
  · refine skip ?_ (by omega)
    rw [bI_n] at h3
    exact pck_no (fun q => by rw [h3] at q; exact absurd q.2.1 (by decide))
  · refine skip ?_ (by omega)
    have := hw.p999 hp (show j < zn S by omega)
    rw [show (0 : Int32) = nI 0 by rfl, nI_leI (by omega) (by omega)] at h4
    exact pck_no (fun q => by omega)
  · have h1 := ihj (by omega)
    have hk := (oM_neg hlt).mp h5
    rw [bI_n] at h2
    rw [bI_0] at h3
    have := hw.p999 hp (show j < zn S by omega)
    rw [show (0 : Int32) = nI 0 by rfl, nI_leI (by omega) (by omega)] at h4
    have e : pck (zp S p) c s (j + 1) = some j := by
      unfold pck
      rw [if_pos ⟨h2, h3, by rw [hk]; show 0 < _; omega⟩]
    rw [e] at h1
    rw [nI_1]
    exact h1
  · cases hk : pck (zp S p) c s j with
    | none => exact absurd ((oM_neg hlt).mpr hk) h5
    | some k =>
      have hkj := pck_lt hk
      rw [bI_n] at h2
      rw [bI_0] at h3
      refine ⟨_, _, c_of E hw hr (by omega) hp, _, _, c_of E hw hr (show k < zn S by omega) hp, fun h6 => ?_, fun h6 => ?_⟩
      · have h61 := hw.p999 hp (show j < zn S by omega)
        have h62 := hw.p999 hp (show k < zn S by omega)
        rw [nI_leI (by omega) (by omega)] at h6
        have := skip (by
          show (if _ then some j else pck (zp S p) c s j) = _
          rw [if_neg (fun q => by rw [hk] at q; have : zp S p k < zp S p j := q.2.2; omega)]) (by omega)
        rw [hk] at this
        exact this
      · have h61 := hw.p999 hp (show j < zn S by omega)
        have h62 := hw.p999 hp (show k < zn S by omega)
        rw [nI_leI (by omega) (by omega)] at h6
        have h1 := ihj (by omega)
        have e : pck (zp S p) c s (j + 1) = some j := by
          show (if _ then some j else pck (zp S p) c s j) = _
          rw [if_pos ⟨h2, h3, by rw [hk]; show zp S p k < _; omega⟩]
        rw [e] at h1
        rw [nI_1]
        exact h1
theorem c_protW (E : rp_E) {M : rp_M} {S : rs_S} (hw : Wf S) (hr : RM S (M 156)) {c g : Nat} (hc : c < 2 ^ 31) (hg : g ≤ 12) : rp_C E YX6_protectedWeight [.ref 155, .int (nI c), .int (nI g)] M (some (nI (zheavy S c g))) M := by
  refine rp_C_of (fun post hpost => vX6_protectedWeight E post M _ _ ?_)
  have hs : zworst S 2 c g < 4096 := Nat.lt_of_lt_of_le wst_lt hw.two
  refine ⟨_, _, c_sum E hw hr (p := 1) (by omega) hc, _, _, c_worst E hw hr (p := 2) (by omega) hc hg, _, _, c_sum E hw hr (p := 2) (by omega) (by omega), ?_⟩
  rw [nI_add]
  exact hpost
theorem c_protP (E : rp_E) {M : rp_M} {S : rs_S} (hw : Wf S) (hr : RM S (M 156)) {c g : Nat} (hc : c < 2 ^ 31) (hg : g ≤ 12) : rp_C E YX6_protectedProfit [.ref 155, .int (nI c), .int (nI g)] M (some (iI (zworth S c g))) M := by
  refine rp_C_of (fun post hpost => vX6_protectedProfit E post M _ _ ?_)
  have hs : zworst S 3 c g < 4096 := Nat.lt_of_lt_of_le wst_lt hw.two
  refine ⟨_, _, c_sum E hw hr (p := 0) (by omega) hc, _, _, c_worst E hw hr (p := 3) (by omega) hc hg, _, _, c_sum E hw hr (p := 3) (by omega) (by omega), ?_⟩
  rw [nI_s]
  exact hpost
