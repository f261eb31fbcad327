/-! THE CLASS, 3: its state copied, grown, shortened -/
theorem rw_at (M : rp_M) (k : Nat) (f : Nat → Int32) : rp_row M k f k = f := if_pos rfl
theorem rw_ne {M : rp_M} {k q : Nat} {f : Nat → Int32} (h : q ≠ k) : rp_row M k f q = M q := if_neg h
theorem cpy_in {f g : Nat → Int32} {n i : Nat} (h : i < n) : va_cpy f g 0 0 n i = f i := by
  unfold va_cpy
  rw [if_pos (by omega)]
  congr 1
  omega
def cpd (a b : Nat) (M M' : rp_M) : Prop := (∀ q, 2 ≤ q → q ≤ 8 → ∀ i, i < 12 → M' (10 * a + q) i = M (10 * b + q) i) ∧ (∀ i, i < 3 → M' (10 * a + 9) i = M (10 * b + 9) i) ∧ M' (10 * a) 4 = M (10 * b) 4 ∧ ∀ k, k < 10 * a ∨ 10 * a + 10 ≤ k → M' k = M k
theorem d0_copy (E : rp_E) {M : rp_M} {a b : Nat} (ha : a < 13) (hb : b < 13) (hab : a ≠ b) : rp_Run E YX4_copyFrom [.ref (10 * a), .ref (10 * b)] M (rp_P0 (cpd a b M)) := by
  refine vX4_copyFrom E _ M a b ha hb ?_
  suffices key : ∀ p, p ≤ 5 → ∀ M1 : rp_M, (∀ q, q < p → ∀ i, i < 12 → M1 (10 * a + 2 + q) i = M (10 * b + 2 + q) i) → (∀ k, k < 10 * a + 2 ∨ 10 * a + 2 + p ≤ k → M1 k = M k) → rp_G E YX4_copyFrom (rp_P0 (cpd a b M)) 2 [.ref (10 * a), .ref (10 * b), .int (nI p)] [] M1 from key 0 (Nat.zero_le _) M (fun q hq => absurd hq (by omega)) (fun _ _ => rfl)
  refine up_loop (fun p hp ih M1 h1 h2 => vX4_copyFrom_2 E _ M1 a b ha hb _ ?_)
  rw [show (5 : Int32) = nI 5 by rfl, nI_leI (by omega) (by omega)]
  refine ⟨fun h M2 e2 M3 e3 M4 e4 M5 e5 => ?_, fun h => ⟨nI_inb (by omega) (by omega), fun M2 e2 => ?_⟩⟩
  · have ep : p = 5 := by omega
    subst ep
    refine ⟨rfl, fun q q1 q2 i hi => ?_, fun i hi => ?_, ?_, fun k hk => ?_⟩
    · rw [e5, rp_s_cell (by omega), e4, rw_ne (by omega)]
      by_cases z : q = 8
      · subst z
        rw [e3, rw_at, cpy_in hi, e2, rw_ne (by omega), h2 _ (by omega)]
      · rw [e3, rw_ne (by omega)]
        by_cases z2 : q = 7
        · subst z2
          rw [e2, rw_at, cpy_in hi, h2 _ (by omega)]
        · rw [e2, rw_ne (by omega)]
          have := h1 (q - 2) (by omega) i hi
          rw [show 10 * a + 2 + (q - 2) = 10 * a + q by omega, show 10 * b + 2 + (q - 2) = 10 * b + q by omega] at this
          exact this
    · rw [e5, rp_s_cell (by omega), e4, rw_at, cpy_in hi, e3, rw_ne (by omega), e2, rw_ne (by omega), h2 _ (by omega)]
    · rw [e5, rp_s_at, e4, rw_ne (by omega), e3, rw_ne (by omega), e2, rw_ne (by omega), h2 _ (by omega)]
    · rw [e5, rp_s_cell (by omega), e4, rw_ne (by omega), e3, rw_ne (by omega), e2, rw_ne (by omega), h2 k (by omega)]
  · rw [nI_clamp (by omega)] at e2
    rw [nI_1]
    refine ih (by omega) M2 (fun q hq i hi => ?_) (fun k hk => by rw [e2, rw_ne (by omega), h2 k (by omega)])
    by_cases z : q = p
    · subst z
      rw [e2, rw_at, cpy_in hi, h2 _ (by omega)]
    · rw [e2, rw_ne (by omega)]
      exact h1 q (by omega) i hi
theorem cpd.RX {a b : Nat} {M M' : rp_M} (h : cpd a b M M') {S : rs_S} (hn : zn S ≤ 12) (hr : RX S (10 * b) M) : RX S (10 * a) M' := by
  obtain ⟨h1, h2, h3, h4⟩ := h
  obtain ⟨r1, r2, r3, r4, r5⟩ := hr
  refine ⟨h3.trans r1, (h2 0 (by omega)).trans r2, (h2 1 (by omega)).trans r3, (h2 2 (by omega)).trans r4, fun k hk => ?_⟩
  obtain ⟨a1, a2, a3, a4⟩ := r5 k hk
  refine ⟨fun p hp => ?_, (h1 6 (by omega) (by omega) k (by omega)).trans a2, (h1 7 (by omega) (by omega) k (by omega)).trans a3, (h1 8 (by omega) (by omega) k (by omega)).trans a4⟩
  have := h1 (2 + p) (by omega) (by omega) k (by omega)
  rw [← Nat.add_assoc, ← Nat.add_assoc] at this
  exact this.trans (a1 p hp)
theorem RX.keep {S : rs_S} {b : Nat} {M M' : rp_M} (h : RX S b M) (hk : ∀ k, b ≤ k → k < b + 10 → M' k = M k) : RX S b M' := by
  obtain ⟨r1, r2, r3, r4, r5⟩ := h
  refine ⟨by rw [hk _ (by omega) (by omega)]; exact r1, by rw [hk _ (by omega) (by omega)]; exact r2, by rw [hk _ (by omega) (by omega)]; exact r3, by rw [hk _ (by omega) (by omega)]; exact r4, fun k hk2 => ?_⟩
  obtain ⟨a1, a2, a3, a4⟩ := r5 k hk2
  exact ⟨fun p hp => by rw [hk _ (by omega) (by omega)]; exact a1 p hp, by rw [hk _ (by omega) (by omega)]; exact a2, by rw [hk _ (by omega) (by omega)]; exact a3, by rw [hk _ (by omega) (by omega)]; exact a4⟩
theorem d0_append (E : rp_E) {M : rp_M} {S : rs_S} (hr : R0 S M) (hn : zn S < 12) (p w v d g : Nat) : rp_Run E YX4_append [.ref 0, .int (nI p), .int (nI w), .int (nI v), .int (nI d), .int (gX g)] M (rp_P0 (fun M' => R0 (zadd S p w v d g) M' ∧ ∀ k, 9 ≤ k → M' k = M k)) := by
  obtain ⟨r1, r2, r3, r4, r5⟩ := hr
  refine vX4_append E _ M _ _ _ _ _ ?_
  rw [show (12 : Int32) = nI 12 by rfl, r1, nI_ltI (by omega) (by omega)]
  refine ⟨fun _ => ⟨nI_inb (by omega) (by omega), fun M1 e1 => ?_⟩, fun h => absurd hn h⟩
  have z1 : M1 0 4 = nI (zn S) := by rw [e1, rp_s_ne (by omega)]; exact r1
  rw [z1]
  refine ⟨nI_inb (by omega) (by omega), fun M2 e2 => ?_⟩
  have z2 : M2 0 4 = nI (zn S) := by rw [e2, rp_s_ne (by omega)]; exact z1
  rw [z2]
  refine ⟨nI_inb (by omega) (by omega), fun M3 e3 => ?_⟩
  have z3 : M3 0 4 = nI (zn S) := by rw [e3, rp_s_ne (by omega)]; exact z2
  rw [z3]
  refine ⟨nI_inb (by omega) (by omega), fun M4 e4 => ?_⟩
  have z4 : M4 0 4 = nI (zn S) := by rw [e4, rp_s_ne (by omega)]; exact z3
  rw [z4]
  refine ⟨nI_inb (by omega) (by omega), fun M5 e5 => ?_⟩
  have z5 : M5 0 4 = nI (zn S) := by rw [e5, rp_s_ne (by omega)]; exact z4
  rw [z5]
  refine ⟨nI_inb (by omega) (by omega), fun M6 e6 => ?_⟩
  have z6 : M6 0 4 = nI (zn S) := by rw [e6, rp_s_ne (by omega)]; exact z5
  rw [z6]
  refine ⟨nI_inb (by omega) (by omega), fun M7 e7 => ?_⟩
  have z7 : M7 0 4 = nI (zn S) := by rw [e7, rp_s_ne (by omega)]; exact z6
  rw [z7]
  intro M8 e8
  rw [nI_clamp (by omega)] at e1 e2 e3 e4 e5 e6 e7
  have other : ∀ q i, q ≠ 0 → i ≠ zn S → M8 q i = M q i := fun q i h0 h1 => by
    rw [e8, rp_s_ne (by omega), e7, rp_s_ne (by omega), e6, rp_s_ne (by omega), e5, rp_s_ne (by omega), e4, rp_s_ne (by omega), e3, rp_s_ne (by omega), e2, rp_s_ne (by omega), e1, rp_s_ne (by omega)]
  have kp : ∀ k, 9 ≤ k → M8 k = M k := fun k hk => by
    rw [e8, rp_s_cell (by omega), e7, rp_s_cell (by omega), e6, rp_s_cell (by omega), e5, rp_s_cell (by omega), e4, rp_s_cell (by omega), e3, rp_s_cell (by omega), e2, rp_s_cell (by omega), e1, rp_s_cell (by omega)]
  refine ⟨rfl, ⟨?_, by rw [kp 9 (by omega)]; exact r2, by rw [kp 9 (by omega)]; exact r3, by rw [kp 9 (by omega)]; exact r4, fun k hk => ?_⟩, kp⟩
  · rw [e8, rp_s_at, nI_1]
    rfl
  · have hk : k < zn S + 1 := hk
    by_cases e : k = zn S
    · subst e
      have ep : ∀ q, zp (zadd S p w v d g) q (zn S) = if q = 0 then p else if q = 1 then w else if q = 2 then v else if q = 3 then d else g := fun q => if_pos rfl
      have ef : zf (zadd S p w v d g) (zn S) = 0 := if_pos rfl
      have ed : zd (zadd S p w v d g) (zn S) = 0 := if_pos rfl
      refine ⟨fun q hq => ?_, ?_, ?_, ?_⟩
      · rw [ep]
        match q, hq with
        | 0, _ => rw [e8, rp_s_ne (by omega), e7, rp_s_ne (by omega), e6, rp_s_ne (by omega), e5, rp_s_ne (by omega), e4, rp_s_ne (by omega), e3, rp_s_ne (by omega), e2, rp_s_ne (by omega), e1, rp_s_at]; rfl
        | 1, _ => rw [e8, rp_s_ne (by omega), e7, rp_s_ne (by omega), e6, rp_s_ne (by omega), e5, rp_s_ne (by omega), e4, rp_s_ne (by omega), e3, rp_s_ne (by omega), e2, rp_s_at]; rfl
        | 2, _ => rw [e8, rp_s_ne (by omega), e7, rp_s_ne (by omega), e6, rp_s_ne (by omega), e5, rp_s_ne (by omega), e4, rp_s_ne (by omega), e3, rp_s_at]; rfl
        | 3, _ => rw [e8, rp_s_ne (by omega), e7, rp_s_ne (by omega), e6, rp_s_ne (by omega), e5, rp_s_ne (by omega), e4, rp_s_at]; rfl
      · rw [ep, e8, rp_s_ne (by omega), e7, rp_s_ne (by omega), e6, rp_s_ne (by omega), e5, rp_s_at]
        rfl
      · rw [ef, e8, rp_s_ne (by omega), e7, rp_s_ne (by omega), e6, rp_s_at]
        rfl
      · rw [ed, e8, rp_s_ne (by omega), e7, rp_s_at]
        rfl
    · obtain ⟨a1, a2, a3, a4⟩ := r5 k (by omega)
      have ep : ∀ q, zp (zadd S p w v d g) q k = zp S q k := fun q => if_neg e
      have ef : zf (zadd S p w v d g) k = zf S k := if_neg e
      have ed : zd (zadd S p w v d g) k = zd S k := if_neg e
      refine ⟨fun q hq => ?_, ?_, ?_, ?_⟩
      · rw [ep, other _ _ (by omega) (by omega)]
        exact a1 q hq
      · rw [ep, other _ _ (by omega) (by omega)]
        exact a2
      · rw [ef, other _ _ (by omega) (by omega)]
        exact a3
      · rw [ed, other _ _ (by omega) (by omega)]
        exact a4
def mv (i b : Nat) (f : Nat → Int32) (j : Nat) : Int32 := if i ≤ j ∧ j + 1 < b then f (j + 1) else f j
theorem mv_step {i b : Nat} {f f' : Nat → Int32} (hib : i < b) (h : ∀ j, f' j = mv i b f j) (x : Nat → Int32) (hx : x = upd f' (b - 1) (f' b)) : ∀ j, x j = mv i (b + 1) f j := by
  intro j
  rw [hx]
  show (if j = b - 1 then f' b else f' j) = _
  split
  · next q =>
    rw [h b, q]
    unfold mv
    rw [if_neg (by omega), if_pos (by omega)]
    congr 1
    omega
  · next q =>
    rw [h j]
    unfold mv
    by_cases z : i ≤ j ∧ j + 1 < b
    · rw [if_pos z, if_pos (by omega)]
    · rw [if_neg z, if_neg (by omega)]
theorem d0_takeOut (E : rp_E) {M : rp_M} {S : rs_S} (hw : Wf S) (hr : R0 S M) {i : Nat} (hi : i < zn S) : rp_Run E YX4_takeOut [.ref 0, .int (nI i)] M (rp_P0 (fun M' => R0 (zrem S i) M' ∧ ∀ k, 9 ≤ k → M' k = M k)) := by
  have hn := hw.n12
  refine vX4_takeOut E _ M _ ?_
  rw [nI_1]
  -- the gap is closed
  have close : ∀ t, t ≤ zn S - 1 → ∀ M1 : rp_M, M1 0 4 = nI (zn S - 1) → (∀ k, 9 ≤ k → M1 k = M k) → (∀ q, 2 ≤ q → q ≤ 6 → ∀ j, j < zn S - 1 → M1 q j = M q (zup i j)) → (∀ q, 7 ≤ q → q ≤ 8 → ∀ j, j < zn S - 1 → M1 q j = if j < t then nI (zgap ((if q = 7 then zf S else zd S) (zup i j)) i) else nI ((if q = 7 then zf S else zd S) (zup i j))) → rp_G E YX4_takeOut (rp_P0 (fun M' => R0 (zrem S i) M' ∧ ∀ k, 9 ≤ k → M' k = M k)) 89 [.ref 0, .int (nI i), .int (nI t), .null] [] M1 := by
    refine up_loop (fun t ht ih M1 h0 h1 h2 h3 => vX4_takeOut_89 E _ M1 _ _ ?_)
    rw [h0, nI_leI (by omega) (by omega)]
    refine ⟨fun h => ⟨rfl, ⟨h0, by rw [h1 9 (by omega)]; exact hr.2.1, by rw [h1 9 (by omega)]; exact hr.2.2.1, by rw [h1 9 (by omega)]; exact hr.2.2.2.1, fun k hk => ?_⟩, h1⟩, fun h => ⟨nI_inb (by omega) (by omega), ?_⟩⟩
    · have hk : k < zn S - 1 := hk
      have hup : zup i k < zn S := by unfold zup; split <;> omega
      obtain ⟨a1, a2, a3, a4⟩ := hr.2.2.2.2 _ hup
      refine ⟨fun p hp => ?_, ?_, ?_, ?_⟩
      · rw [h2 (2 + p) (by omega) (by omega) k hk]
        exact a1 p hp
      · rw [h2 6 (by omega) (by omega) k hk]
        exact a2
      · rw [h3 7 (by omega) (by omega) k hk, if_pos (by omega)]
        rfl
      · rw [h3 8 (by omega) (by omega) k hk, if_pos (by omega)]
        rfl
    · have ht2 : t < zn S - 1 := by omega
      have hup : zup i t < zn S := by unfold zup; split <;> omega
      have h4 := hw.two
      have f7 := (hw.it hup).2.2.2.2.2.2.2.1
      have f8 := (hw.it hup).2.2.2.2.2.2.2.2.1
      have v7 : M1 7 t = nI (zf S (zup i t)) := by
        have := h3 7 (by omega) (by omega) t ht2
        rw [if_neg (by omega)] at this
        exact this
      have v8 : M1 8 t = nI (zd S (zup i t)) := by
        have := h3 8 (by omega) (by omega) t ht2
        rw [if_neg (by omega)] at this
        exact this
      rw [nI_clamp (by omega), v7]
      refine ⟨_, _, c0_closeGap E M1 (by omega) (by omega), fun M2 e2 => ?_⟩
      rw [show M2 8 t = nI (zd S (zup i t)) by rw [e2, rp_s_ne (by omega)]; exact v8]
      refine ⟨_, _, c0_closeGap E M2 (by omega) (by omega), fun M3 e3 => ?_⟩
      rw [nI_1]
      refine ih ht2 M3 (by rw [e3, rp_s_ne (by omega), e2, rp_s_ne (by omega)]; exact h0) (fun k hk => by rw [e3, rp_s_cell (by omega), e2, rp_s_cell (by omega)]; exact h1 k hk) (fun q q1 q2 j hj => by rw [e3, rp_s_ne (by omega), e2, rp_s_ne (by omega)]; exact h2 q q1 q2 j hj) (fun q q1 q2 j hj => ?_)
      by_cases z : j = t
      · subst z
        rw [if_pos (by omega)]
        by_cases z7 : q = 7
        · subst z7
          rw [e3, rp_s_ne (by omega), e2, rp_s_at]
          rfl
        · have z8 : q = 8 := by omega
          subst z8
          rw [e3, rp_s_at]
          rfl
      · rw [e3, rp_s_ne (by omega), e2, rp_s_ne (by omega), h3 q q1 q2 j hj]
        by_cases z2 : j < t
        · rw [if_pos z2, if_pos (show j < t + 1 by omega)]
        · rw [if_neg z2, if_neg (show ¬ j < t + 1 by omega)]
  -- those behind move up
  have move : ∀ b, b ≤ zn S → i < b → ∀ M1 : rp_M, M1 0 4 = nI (zn S) → (∀ k, 9 ≤ k → M1 k = M k) → (∀ q, 2 ≤ q → q ≤ 8 → ∀ j, M1 q j = mv i b (M q) j) → rp_G E YX4_takeOut (rp_P0 (fun M' => R0 (zrem S i) M' ∧ ∀ k, 9 ≤ k → M' k = M k)) 4 [.ref 0, .int (nI i), .int (nI b), .null] [] M1 := by
    refine up_loop (fun b hb ih hib M1 h0 h1 h2 => vX4_takeOut_4 E _ M1 _ _ ?_)
    rw [h0, nI_leI (by omega) (by omega)]
    refine ⟨fun h M2 e2 => ?_, fun h => ?_⟩
    · have ebn : b = zn S := by omega
      have up : ∀ q, 2 ≤ q → q ≤ 8 → ∀ j, j < zn S - 1 → M2 q j = M q (zup i j) := fun q q1 q2 j hj => by
        rw [e2, rp_s_ne (by omega), h2 q q1 q2 j]
        unfold mv zup
        by_cases z : j < i
        · rw [if_neg (by omega), if_pos z]
        · rw [if_pos (by omega), if_neg z]
      refine close 0 (Nat.zero_le _) M2 (by rw [e2, rp_s_at]; exact nI_p1 (by omega)) (fun k hk => by rw [e2, rp_s_cell (by omega)]; exact h1 k hk) (fun q q1 q2 j hj => up q q1 (by omega) j hj) (fun q q1 q2 j hj => ?_)
      have hup : zup i j < zn S := by unfold zup; split <;> omega
      obtain ⟨-, -, a3, a4⟩ := hr.2.2.2.2 _ hup
      rw [up q (by omega) q2 j hj, if_neg (by omega)]
      by_cases z7 : q = 7
      · subst z7
        exact a3
      · have z8 : q = 8 := by omega
        subst z8
        exact a4
    · have hb2 : b < zn S := by omega
      have inner : ∀ p, p ≤ 5 → ∀ M2 : rp_M, M2 0 4 = nI (zn S) → (∀ k, 9 ≤ k → M2 k = M k) → (∀ q, 2 ≤ q → q ≤ 8 → ∀ j, M2 q j = mv i (if q < 2 + p then b + 1 else b) (M q) j) → rp_G E YX4_takeOut (rp_P0 (fun M' => R0 (zrem S i) M' ∧ ∀ k, 9 ≤ k → M' k = M k)) 14 [.ref 0, .int (nI i), .int (nI b), .int (nI p)] [] M2 := by
        refine up_loop (fun p hp ihp M2 k0 k1 k2 => vX4_takeOut_14 E _ M2 _ _ _ ?_)
        rw [show (5 : Int32) = nI 5 by rfl, nI_leI (by omega) (by omega), nI_p1 (show 0 < b by omega)]
        refine ⟨fun h5 => ⟨nI_inb (by omega) (by omega), nI_inb (by omega) (by omega), fun M3 e3 M4 e4 => ?_⟩, fun h5 => ⟨nI_inb (by omega) (by omega), nI_inb (by omega) (by omega), nI_inb (by omega) (by omega), fun M3 e3 => ?_⟩⟩
        · rw [nI_clamp (by omega), nI_clamp (by omega)] at e3 e4
          rw [nI_1]
          refine ih hb2 (by omega) M4 (by rw [e4, rp_s_ne (by omega), e3, rp_s_ne (by omega)]; exact k0) (fun k hk => by rw [e4, rp_s_cell (by omega), e3, rp_s_cell (by omega)]; exact k1 k hk) (fun q q1 q2 j => ?_)
          by_cases z8 : q = 8
          · subst z8
            refine mv_step (f' := M3 8) (by omega) (fun j => ?_) _ ?_ j
            · rw [e3, rp_s_cell (by omega), k2 8 (by omega) (by omega) j, if_neg (by omega)]
            · rw [e4, rp_s_row1]
          · rw [e4, rp_s_cell z8]
            by_cases z7 : q = 7
            · subst z7
              refine mv_step (f' := M2 7) (by omega) (fun j => ?_) _ ?_ j
              · rw [k2 7 (by omega) (by omega) j, if_neg (by omega)]
              · rw [e3, rp_s_row1]
            · rw [e3, rp_s_cell z7, k2 q q1 q2 j, if_pos (by omega)]
        · rw [nI_clamp (by omega), nI_clamp (by omega), nI_clamp (by omega)] at e3
          rw [nI_1]
          refine ihp (by omega) M3 (by rw [e3, rp_s_ne (by omega)]; exact k0) (fun k hk => by rw [e3, rp_s_cell (by omega)]; exact k1 k hk) (fun q q1 q2 j => ?_)
          by_cases z : q = 2 + p
          · rw [if_pos (by omega)]
            subst z
            refine mv_step (f' := M2 (2 + p)) (by omega) (fun j => ?_) _ ?_ j
            · rw [k2 (2 + p) (by omega) (by omega) j, if_neg (by omega)]
            · rw [e3, rp_s_row1]
          · rw [e3, rp_s_cell z, k2 q q1 q2 j]
            by_cases z2 : q < 2 + p
            · rw [if_pos z2, if_pos (by omega)]
            · rw [if_neg z2, if_neg (by omega)]
      exact inner 0 (by omega) M1 h0 h1 (fun q q1 q2 j => by rw [if_neg (by omega)]; exact h2 q q1 q2 j)
  refine move (i + 1) (by omega) (by omega) M hr.1 (fun _ _ => rfl) (fun q q1 q2 j => ?_)
  unfold mv
  rw [if_neg (by omega)]
