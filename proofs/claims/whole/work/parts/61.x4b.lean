/-! THE CLASS, 2: bit counts, and more of its state -/
def bc1 (x : Int32) : Int32 := x - ((rp_ush x 1) &&& 1431655765)
def bc2 (a : Int32) : Int32 := (a &&& 858993459) + ((rp_ush a 2) &&& 858993459)
def bc3 (b : Int32) : Int32 := (b + rp_ush b 4) &&& 252645135
def bc4 (c : Int32) : Int32 := c + rp_ush c 8
def bc5 (d : Int32) : Int32 := (d + rp_ush d 16) &&& 63
theorem bc_pop2 : ∀ a, a < 64 → ∀ b, b < 64 → bc5 (bc4 (bc3 (bc2 (bc1 (nI (64 * a + b)))))) = nI (pop (64 * a + b)) := by decide +kernel
theorem bc_pop (c : Nat) (h : c < 4096) : bc5 (bc4 (bc3 (bc2 (bc1 (nI c))))) = nI (pop c) := by
  have := bc_pop2 (c / 64) (by omega) (c % 64) (by omega)
  rw [show 64 * (c / 64) + c % 64 = c by omega] at this
  exact this
theorem c_bits (E : rp_E) (M : rp_M) {c : Nat} (hc : c < 4096) : rp_C E YJ6_bitCount_0f7a4 [.int (nI c)] M (some (nI (pop c))) M := by
  refine rp_C_of (fun post hpost => vJ6_bitCount_0f7a4 E post M _ ?_)
  rw [← bc_pop c hc] at hpost
  exact hpost
theorem c0_bitsIn (E : rp_E) {M : rp_M} {S : rs_S} (hw : Wf S) (hr : R0 S M) {r : Nat} (h170 : r < 170) (hsh : rp_sh r = (0, 12, [])) (f : Nat → Nat) (hf : ∀ k, k < zn S → M r k = nI (f k) ∧ f k < 4096) : rp_C E YX4_bitsIn [.ref 0, .ref r] M (some (nI (prs f (zn S)))) M := by
  refine rp_C_of (fun post hpost => vX4_bitsIn E post M h170 hsh ?_)
  have hn := hw.n12
  suffices key : ∀ j, j ≤ zn S → rp_G E YX4_bitsIn post 4 [.ref 0, .ref r, .int (nI (prs f j)), .int (nI j)] [] M from key 0 (Nat.zero_le _)
  refine up_loop (fun j hj ih => vX4_bitsIn_4 E post M h170 hsh _ _ ?_)
  rw [hr.1, nI_leI (by omega) (by omega)]
  refine ⟨fun h => ?_, fun h => ⟨nI_inb (by omega) (by omega), ?_⟩⟩
  · have e : j = zn S := by omega
    subst e
    exact hpost
  have hj2 : j < zn S := by omega
  rw [nI_clamp (by omega), (hf j hj2).1]
  refine ⟨_, _, c_bits E M (hf j hj2).2, ?_⟩
  rw [nI_add, nI_1]
  exact ih hj2
theorem c0_isMore (E : rp_E) {M : rp_M} {S : rs_S} (hw : Wf S) (hr : R0 S M) {k j : Nat} (hk : k < zn S) (hj : j < zn S) : rp_C E YX4_isMoreFruitful [.ref 0, .int (nI k), .int (nI j)] M (some (bI (decide (zp S 0 j * (zp S 1 k + zp S 2 k) < zp S 0 k * (zp S 1 j + zp S 2 j))))) M := by
  refine rp_C_of (fun post hpost => vX4_isMoreFruitful E post M _ _ ?_)
  have hn := hw.n12
  refine ⟨nI_inb (by omega) (by omega), nI_inb (by omega) (by omega), ?_⟩
  have m1 := mul_b (hw.p999 (p := 0) (by omega) hj) (hw.p999 (p := 1) (by omega) hk) (hw.p999 (p := 2) (by omega) hk)
  have m2 := mul_b (hw.p999 (p := 0) (by omega) hk) (hw.p999 (p := 1) (by omega) hj) (hw.p999 (p := 2) (by omega) hj)
  have pk := (hr.2.2.2.2 k hk).1
  have pj := (hr.2.2.2.2 j hj).1
  rw [nI_clamp (by omega), nI_clamp (by omega), show M 2 k = _ from pk 0 (by omega), show M 3 k = _ from pk 1 (by omega), show M 4 k = _ from pk 2 (by omega), show M 2 j = _ from pj 0 (by omega), show M 3 j = _ from pj 1 (by omega), show M 4 j = _ from pj 2 (by omega)]
  rw [nI_add, nI_add, pk_mul, pk_mul, nI_leI (by omega) (by omega)]
  refine ⟨fun h => ?_, fun h => ?_⟩
  · rw [decide_eq_false (by omega)] at hpost
    exact hpost
  · rw [decide_eq_true (by omega)] at hpost
    exact hpost
def oX (r : Option Nat) : Int32 := match r with
  | none => (-1)
  | some k => nI k
theorem oX_neg {r : Option Nat} (h : ∀ k, r = some k → k < 2 ^ 31) : oX r < 0 ↔ r = none := by
  cases r with
  | none => exact ⟨fun _ => rfl, fun _ => by decide⟩
  | some k => exact ⟨fun q => absurd q (nI_pos (h k rfl)), fun q => by cases q⟩
theorem bit0 {c k : Nat} (hc : c < 2 ^ 31) (hk : k < 32) : (nI c >>> (nI k &&& 31)) &&& 1 = 0 ↔ c.testBit k = false := by
  rw [bit_bI hc hk, bI_0]
theorem c0_most (E : rp_E) {M : rp_M} {S : rs_S} (hw : Wf S) (hr : R0 S M) {s : Nat} (hs : s < 2 ^ 31) : rp_C E YX4_mostFruitful [.ref 0, .int (nI s)] M (some (nI ((gpk S s (zn S)).getD 0))) M := by
  refine rp_C_of (fun post hpost => vX4_mostFruitful E post M _ ?_)
  have hn := hw.n12
  suffices key : ∀ j, j ≤ zn S → rp_G E YX4_mostFruitful post 4 [.ref 0, .int (nI s), .int (oX (gpk S s j)), .int (nI j), .null] [] M from key 0 (Nat.zero_le _)
  refine up_loop (fun j hj ih => vX4_mostFruitful_4 E post M _ _ _ ?_)
  have hlt : ∀ k, gpk S s j = some k → k < 2 ^ 31 := fun k hk => by
    have := (gpk_spec hk).1
    omega
  rw [hr.1, nI_leI (by omega) (by omega)]
  refine ⟨fun h => ?_, fun h => ?_⟩
  · have e : j = zn S := by omega
    subst e
    cases q : gpk S s (zn S) with
    | none =>
      rw [q] at hpost
      exact hpost
    | some k =>
      rw [q] at hpost hlt
      rw [if_neg (fun z => by have := (oX_neg hlt).mp z; cases this)]
      exact hpost
  have hj2 : j < zn S := by omega
  have skip : gpk S s (j + 1) = gpk S s j → rp_G E YX4_mostFruitful post 4 [.ref 0, .int (nI s), .int (oX (gpk S s j)), .int (nI j + 1), .null] [] M := fun e => by
    have h1 := ih hj2
    rw [e] at h1
    rw [nI_1]
    exact h1
  have take : gpk S s (j + 1) = some j → rp_G E YX4_mostFruitful post 4 [.ref 0, .int (nI s), .int (nI j), .int (nI j + 1), .null] [] M := fun e => by
    have h1 := ih hj2
    rw [e] at h1
    rw [nI_1]
    exact h1
  rw [bit0 hs (by omega)]
  refine ⟨fun q => skip (gpk_no (fun z => q z.1)), fun q => ⟨fun z => take (gpk_yes ⟨q, fun k hk => ?_⟩), fun z => ?_⟩⟩
  · rw [(oX_neg hlt).mp z] at hk
    cases hk
  · cases hk : gpk S s j with
    | none => exact absurd ((oX_neg hlt).mpr hk) z
    | some k =>
      have hkj := (gpk_spec hk).1
      refine ⟨_, _, c0_isMore E hw hr hj2 (show k < zn S by omega), ?_⟩
      rw [hk] at skip
      rw [bI_n, bI_0, decide_eq_true_eq, decide_eq_false_iff_not]
      refine ⟨fun y => skip (gpk_no (fun x => y (x.2 k hk)) |>.trans hk), fun y => take (gpk_yes ⟨q, fun i hi => ?_⟩)⟩
      rw [hk] at hi
      cases hi
      exact y
theorem c0_thr (E : rp_E) {M : rp_M} {S : rs_S} (hw : Wf S) (hr : R0 S M) {b : Nat} (hb : b ≤ 1000) : rp_C E YX4_thresholdBelow [.ref 0, .int (nI b)] M (some (if 0 < b then nI (tb S b (zn S)) else (-1))) M := by
  refine rp_C_of (fun post hpost => vX4_thresholdBelow E post M _ ?_)
  have hn := hw.n12
  have h0 : ¬ 0 < b → ∀ j, tb S b j = 0 := fun q j => by
    induction j with
    | zero => rfl
    | succ j ih =>
      unfold tb
      rw [if_neg (by omega)]
      exact ih
  rw [show (0 : Int32) = nI 0 by rfl, nI_leI (by omega) (by omega), show nI 0 = (0 : Int32) by rfl]
  suffices key : ∀ j, j ≤ zn S → rp_G E YX4_thresholdBelow post 12 [.ref 0, .int (nI b), .int (if 0 < b then nI (tb S b j) else (-1)), .int (nI j), .null] [] M by
    have k0 := key 0 (Nat.zero_le _)
    refine ⟨fun h => ?_, fun h => ?_⟩
    · rw [if_neg (by omega)] at k0
      exact k0
    · rw [if_pos (by omega)] at k0
      exact k0
  refine up_loop (fun j hj ih => vX4_thresholdBelow_12 E post M _ _ _ ?_)
  rw [hr.1, nI_leI (by omega) (by omega)]
  refine ⟨fun h => ?_, fun h => ⟨nI_inb (by omega) (by omega), ?_⟩⟩
  · have e : j = zn S := by omega
    subst e
    exact hpost
  have hj2 : j < zn S := by omega
  have h1 := ih hj2
  have h9 := hw.p999 (p := 2) (by omega) hj2
  have ht := tb_le hw (b := b) j hj
  rw [nI_clamp (by omega), show M 4 j = _ from (hr.2.2.2.2 j hj2).1 2 (by omega), nI_leI (by omega) (by omega), nI_1]
  by_cases qb : 0 < b
  · rw [if_pos qb] at h1 ⊢
    rw [nI_leI (by omega) (by omega)]
    refine ⟨fun q => ?_, fun q => ⟨fun z => ?_, fun z => ?_⟩⟩
    · rw [show tb S b (j + 1) = tb S b j from if_neg (by omega)] at h1
      exact h1
    · rw [show tb S b (j + 1) = tb S b j from if_neg (by omega)] at h1
      exact h1
    · rw [show tb S b (j + 1) = zp S 2 j from if_pos (by omega)] at h1
      exact h1
  · rw [if_neg qb] at h1 ⊢
    refine ⟨fun q => h1, fun q => absurd (by omega) q⟩
