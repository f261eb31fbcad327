/-! THE REFERENCE, 7: changes of the state -/
theorem RM_congr {S : rs_S} {f f' : Nat → Int32} (hn : zn S ≤ 12) (h : RM S f) (hf : ∀ q, q < 88 → f' q = f q) : RM S f' := by
  obtain ⟨h1, h2, h3, h4, h5⟩ := h
  refine ⟨(hf _ (by omega)).trans h1, (hf _ (by omega)).trans h2, (hf _ (by omega)).trans h3, (hf _ (by omega)).trans h4, fun k hk => ?_⟩
  obtain ⟨a1, a2, a3, a4⟩ := h5 k hk
  exact ⟨fun p hp => (hf _ (by omega)).trans (a1 p hp), (hf _ (by omega)).trans a2, (hf _ (by omega)).trans a3, (hf _ (by omega)).trans a4⟩
theorem IM_row {g : rs_G} {M M' : rp_M} (h : IM g M) {S' : rs_S} (hr : RM S' (M' 156)) (hk : ∀ k, k ≠ 156 → M' k = M k) : IM (S', g.2.1, g.2.2) M' := by
  obtain ⟨h1, h2, h3, h4, h5⟩ := h
  exact ⟨hr, by rw [hk 155 (by decide)]; exact h2, fun j s hj => by rw [hk 157 (by decide)]; exact h3 j s hj, by rw [hk 155 (by decide)]; exact h4, fun i c hi => by rw [hk 158 (by decide)]; exact h5 i c hi⟩
def recd (Mb : rp_M) (K : Nat) (M' : rp_M) : Prop := M' 155 2 = nI (K + 1) ∧ (∀ i, i ≠ 2 → M' 155 i = Mb 155 i) ∧ (∀ q, q < 88 → M' 157 (88 * K + q) = Mb 156 q) ∧ (∀ q, q < 88 * K → M' 157 q = Mb 157 q) ∧ ∀ k, k ≠ 155 → k ≠ 157 → M' k = Mb k
theorem rec51 (E : rp_E) {Mb : rp_M} {K : Nat} (hK : K ≤ 11) (h0 : Mb 155 2 = nI K) (post : Option Int32 → rp_M → Prop) (hpost : ∀ M', recd Mb K M' → post none M') : rp_G E YX6_record post 51 [.ref 155, .int 0] [] Mb := by
  suffices key : ∀ j, j ≤ 88 → ∀ M1 : rp_M, (∀ q, q < j → M1 157 (88 * K + q) = Mb 156 q) → (∀ q, q < 88 * K → M1 157 q = Mb 157 q) → (∀ k, k ≠ 157 → M1 k = Mb k) → rp_G E YX6_record post 51 [.ref 155, .int (nI j)] [] M1 from key 0 (Nat.zero_le _) Mb (fun q hq => by omega) (fun _ _ => rfl) (fun _ _ => rfl)
  refine up_loop (fun j hj ih M1 q1 q2 q3 => vX6_record_51 E post M1 _ ?_)
  have e0 : M1 155 2 = nI K := by rw [q3 155 (by decide)]; exact h0
  rw [e0, show (88 : Int32) = nI 88 by rfl, pk_mul, nI_add, nI_leI (by omega) (by omega), nI_clamp (by omega), nI_clamp (by omega), nI_1, nI_1]
  refine ⟨fun h M3 e3 => hpost M3 ?_, fun h => ⟨nI_inb (by omega) (by omega), nI_inb (by omega) (by omega), fun M2 e2 => ?_⟩⟩
  · have e : j = 88 := by omega
    subst e
    refine ⟨by rw [e3, rp_s_at], fun i hi => by rw [e3, rp_s_ne (by omega), q3 155 (by decide)], fun q hq => by rw [e3, rp_s_cell (by decide)]; exact q1 q hq, fun q hq => by rw [e3, rp_s_cell (by decide)]; exact q2 q hq, fun k h1 h2 => by rw [e3, rp_s_cell h1]; exact q3 k h2⟩
  · refine ih (by omega) M2 (fun q hq => ?_) (fun q hq => ?_) (fun k hk => ?_)
    · rw [e2]
      by_cases e : q = j
      · subst e
        rw [rp_s_at, q3 156 (by decide)]
      · rw [rp_s_ne (by omega)]
        exact q1 q (by omega)
    · rw [e2, rp_s_ne (by omega)]
      exact q2 q hq
    · rw [e2, rp_s_cell hk]
      exact q3 k hk
theorem d_record (E : rp_E) {M : rp_M} {g : rs_G} (hW : WG g) (hI : IM g M) : rp_Run E YX6_record [.ref 155] M (rp_P0 (fun M' => IM (g.1, hpush g.2.1 g.1, g.2.2) M' ∧ (∀ k, k ≠ 155 → k ≠ 157 → M' k = M k) ∧ ∀ i, i ≠ 2 → M' 155 i = M 155 i)) := by
  obtain ⟨hw, hlen, hws, -, -⟩ := hW
  obtain ⟨h1, h2, h3, h4, h5⟩ := hI
  refine vX6_record E _ M ?_
  rw [h2, show (12 : Int32) = nI 12 by rfl, nI_eq (by omega) (by omega)]
  refine ⟨fun h => rec51 E (K := g.2.1.length) (by omega) h2 _ (fun M' q => ⟨rfl, ?_, q.2.2.2.2, q.2.1⟩), fun h => ?_⟩
  · obtain ⟨q1, q2, q3, q4, q5⟩ := q
    have e : hpush g.2.1 g.1 = g.2.1 ++ [g.1] := by unfold hpush; rw [if_neg h]
    refine ⟨by rw [q5 156 (by decide) (by decide)]; exact h1, ?_, fun j s hj => ?_, by rw [q2 4 (by decide)]; exact h4, fun i c hi => by rw [q5 158 (by decide) (by decide)]; exact h5 i c hi⟩
    · show M' 155 2 = nI (hpush g.2.1 g.1).length
      rw [q1, e, List.length_append, List.length_singleton]
    · have hj : (hpush g.2.1 g.1)[j]? = some s := hj
      rw [e] at hj
      by_cases hjl : j < g.2.1.length
      · rw [List.getElem?_append_left hjl] at hj
        exact RM_congr (hws s (List.mem_of_getElem? hj)).1 (h3 j s hj) (fun q hq => q4 _ (by omega))
      · rw [List.getElem?_append_right (by omega)] at hj
        have hlt := (List.getElem?_eq_some_iff.mp hj).1
        rw [List.length_singleton] at hlt
        have e2 : j = g.2.1.length := by omega
        rw [show j - g.2.1.length = 0 by omega] at hj
        cases hj
        rw [e2]
        exact RM_congr hw.1 h1 (fun q hq => q3 q hq)
  · generalize hpo : rp_P0 (fun M' => IM (g.1, hpush g.2.1 g.1, g.2.2) M' ∧ (∀ k, k ≠ 155 → k ≠ 157 → M' k = M k) ∧ ∀ i, i ≠ 2 → M' 155 i = M 155 i) = post
    suffices key : ∀ j, j ≤ 968 → ∀ M1 : rp_M, (∀ q, q < j → M1 157 q = M 157 (q + 88)) → (∀ q, j ≤ q → M1 157 q = M 157 q) → (∀ k, k ≠ 157 → M1 k = M k) → rp_G E YX6_record post 11 [.ref 155, .int (nI j)] [] M1 from key 0 (Nat.zero_le _) M (fun q hq => by omega) (fun _ _ => rfl) (fun _ _ => rfl)
    refine up_loop (fun j hj ih M1 q1 q2 q3 => vX6_record_11 E post M1 _ ?_)
    have e0 : M1 155 2 = nI 12 := by rw [q3 155 (by decide), h2, h]
    rw [e0, show (968 : Int32) = nI 968 by rfl, show (88 : Int32) = nI 88 by rfl, nI_add, nI_leI (by omega) (by omega), nI_clamp (by omega), nI_clamp (by omega), nI_1]
    refine ⟨fun h' M2 e2 => rec51 E (K := 11) (by omega) (by rw [e2, rp_s_at]; rfl) _ (fun M' q => ?_), fun h' => ⟨nI_inb (by omega) (by omega), nI_inb (by omega) (by omega), fun M2 e2 => ?_⟩⟩
    · have e : j = 968 := by omega
      subst e
      obtain ⟨r1, r2, r3, r4, r5⟩ := q
      have e : hpush g.2.1 g.1 = g.2.1.drop 1 ++ [g.1] := by unfold hpush; rw [if_pos h]
      have hdl : (g.2.1.drop 1).length = 11 := by rw [List.length_drop]; omega
      rw [← hpo]
      have m156 : M' 156 = M 156 := by rw [r5 156 (by decide) (by decide), e2, rp_s_cell (by decide), q3 156 (by decide)]
      refine ⟨rfl, ⟨by rw [m156]; exact h1, ?_, fun j s hj => ?_, ?_, fun i c hi => ?_⟩, fun k k1 k2 => ?_, fun i hi => ?_⟩
      · show M' 155 2 = nI (hpush g.2.1 g.1).length
        rw [r1, e, List.length_append, List.length_singleton, hdl]
      · have hj : (hpush g.2.1 g.1)[j]? = some s := hj
        rw [e] at hj
        by_cases hjl : j < 11
        · rw [List.getElem?_append_left (by omega), List.getElem?_drop] at hj
          refine RM_congr (hws s (List.mem_of_getElem? hj)).1 (h3 (1 + j) s hj) (fun q hq => ?_)
          show M' 157 (88 * j + q) = M 157 (88 * (1 + j) + q)
          rw [r4 _ (by omega), e2, rp_s_cell (by decide), q1 _ (by omega)]
          congr 1
          omega
        · rw [List.getElem?_append_right (by omega)] at hj
          have hlt := (List.getElem?_eq_some_iff.mp hj).1
          rw [List.length_singleton] at hlt
          have e3 : j = 11 := by omega
          rw [show j - (g.2.1.drop 1).length = 0 by omega] at hj
          cases hj
          rw [e3]
          refine RM_congr hw.1 h1 (fun q hq => ?_)
          show M' 157 (88 * 11 + q) = M 156 q
          rw [r3 q hq, e2, rp_s_cell (by decide), q3 156 (by decide)]
      · show M' 155 4 = _
        rw [r2 4 (by decide), e2, rp_s_ne (by decide), q3 155 (by decide)]
        exact h4
      · rw [r5 158 (by decide) (by decide), e2, rp_s_cell (by decide), q3 158 (by decide)]
        exact h5 i c hi
      · rw [r5 k k1 k2, e2, rp_s_cell k1, q3 k k2]
      · rw [r2 i hi, e2, rp_s_ne (by omega), q3 155 (by decide)]
    · refine ih (by omega) M2 (fun q hq => ?_) (fun q hq => ?_) (fun k hk => ?_)
      · rw [e2]
        by_cases e : q = j
        · subst e
          rw [rp_s_at, q2 _ (by omega)]
        · rw [rp_s_ne (by omega)]
          exact q1 q (by omega)
      · rw [e2, rp_s_ne (by omega)]
        exact q2 q (by omega)
      · rw [e2, rp_s_cell hk]
        exact q3 k hk
theorem d_append6 (E : rp_E) {M : rp_M} {S : rs_S} (hw : Wf S) (hr : RM S (M 156)) (hn : zn S < 12) (p w v d g : Nat) : rp_Run E YX6_append [.ref 155, .int (nI p), .int (nI w), .int (nI v), .int (nI d), .int (gM g)] M (rp_P0 (fun M' => RM (zadd S p w v d g) (M' 156) ∧ ∀ k, k ≠ 156 → M' k = M k)) := by
  obtain ⟨r1, r2, r3, r4, r5⟩ := hr
  refine vX6_append E _ M _ _ _ _ _ ?_
  rw [r1]
  have o0 : (4 : Int32) + (5 : Int32) * nI (zn S) + 0 = nI (4 + 5 * zn S + 0) := of_at hn (p := 0) (by omega)
  have o1 : (4 : Int32) + (5 : Int32) * nI (zn S) + 1 = nI (4 + 5 * zn S + 1) := of_at hn (p := 1) (by omega)
  have o2 : (4 : Int32) + (5 : Int32) * nI (zn S) + 2 = nI (4 + 5 * zn S + 2) := of_at hn (p := 2) (by omega)
  have o3 : (4 : Int32) + (5 : Int32) * nI (zn S) + 3 = nI (4 + 5 * zn S + 3) := of_at hn (p := 3) (by omega)
  have o4 : (4 : Int32) + (5 : Int32) * nI (zn S) + 4 = nI (4 + 5 * zn S + 4) := of_at hn (p := 4) (by omega)
  have o5 : (64 : Int32) + nI (zn S) = nI (64 + zn S) := nI_add 64 _
  have o6 : (76 : Int32) + nI (zn S) = nI (76 + zn S) := nI_add 76 _
  rw [o0, o1, o2, o3, o4, o5, o6, nI_clamp (by omega), nI_clamp (by omega), nI_clamp (by omega), nI_clamp (by omega), nI_clamp (by omega), nI_clamp (by omega), nI_clamp (by omega)]
  refine ⟨nI_inb (by omega) (by omega), fun M1 e1 => ⟨nI_inb (by omega) (by omega), fun M2 e2 => ⟨nI_inb (by omega) (by omega), fun M3 e3 => ⟨nI_inb (by omega) (by omega), fun M4 e4 => ⟨nI_inb (by omega) (by omega), fun M5 e5 => ⟨nI_inb (by omega) (by omega), fun M6 e6 => ⟨nI_inb (by omega) (by omega), fun M7 e7 M8 e8 => ?_⟩⟩⟩⟩⟩⟩⟩
  have other : ∀ q, q ≠ 0 → (q < 4 + 5 * zn S ∨ 4 + 5 * zn S + 5 ≤ q) → q ≠ 64 + zn S → q ≠ 76 + zn S → M8 156 q = M 156 q := fun q h0 h1 h2 h3 => by
    rw [e8, rp_s_ne (by omega), e7, rp_s_ne (by omega), e6, rp_s_ne (by omega), e5, rp_s_ne (by omega), e4, rp_s_ne (by omega), e3, rp_s_ne (by omega), e2, rp_s_ne (by omega), e1, rp_s_ne (by omega)]
  refine ⟨rfl, ⟨?_, (other 1 (by omega) (by omega) (by omega) (by omega)).trans r2, (other 2 (by omega) (by omega) (by omega) (by omega)).trans r3, (other 3 (by omega) (by omega) (by omega) (by omega)).trans r4, fun k hk => ?_⟩, fun k hk => ?_⟩
  · rw [e8, rp_s_at, e7, rp_s_ne (by omega), e6, rp_s_ne (by omega), e5, rp_s_ne (by omega), e4, rp_s_ne (by omega), e3, rp_s_ne (by omega), e2, rp_s_ne (by omega), e1, rp_s_ne (by omega), r1, nI_1]
    rfl
  · have hk : k < zn S + 1 := hk
    by_cases e : k = zn S
    · subst e
      have ep : ∀ q, zp (zadd S p w v d g) q (zn S) = if q = 0 then p else if q = 1 then w else if q = 2 then v else if q = 3 then d else g := fun q => if_pos rfl
      have ef : zf (zadd S p w v d g) (zn S) = 0 := if_pos rfl
      have ed : zd (zadd S p w v d g) (zn S) = 0 := if_pos rfl
      refine ⟨fun q hq => ?_, ?_, ?_, ?_⟩
      · rw [ep]
        match q, hq with
        | 0, _ => rw [e8, rp_s_ne (by omega), e7, rp_s_ne (by omega), e6, rp_s_ne (by omega), e5, rp_s_ne (by omega), e4, rp_s_ne (by omega), e3, rp_s_ne (by omega), e2, rp_s_ne (by omega), e1, rp_s_at]; rfl
        | 1, _ => rw [e8, rp_s_ne (by omega), e7, rp_s_ne (by omega), e6, rp_s_ne (by omega), e5, rp_s_ne (by omega), e4, rp_s_ne (by omega), e3, rp_s_ne (by omega), e2, rp_s_at]; rfl
        | 2, _ => rw [e8, rp_s_ne (by omega), e7, rp_s_ne (by omega), e6, rp_s_ne (by omega), e5, rp_s_ne (by omega), e4, rp_s_ne (by omega), e3, rp_s_at]; rfl
        | 3, _ => rw [e8, rp_s_ne (by omega), e7, rp_s_ne (by omega), e6, rp_s_ne (by omega), e5, rp_s_ne (by omega), e4, rp_s_at]; rfl
      · rw [ep, e8, rp_s_ne (by omega), e7, rp_s_ne (by omega), e6, rp_s_ne (by omega), e5, rp_s_at]
        rfl
      · rw [ef, e8, rp_s_ne (by omega), e7, rp_s_ne (by omega), e6, rp_s_at]
        rfl
      · rw [ed, e8, rp_s_ne (by omega), e7, rp_s_at]
        rfl
    · obtain ⟨a1, a2, a3, a4⟩ := r5 k (by omega)
      have ep : ∀ q, zp (zadd S p w v d g) q k = zp S q k := fun q => if_neg e
      have ef : zf (zadd S p w v d g) k = zf S k := if_neg e
      have ed : zd (zadd S p w v d g) k = zd S k := if_neg e
      refine ⟨fun q hq => ?_, ?_, ?_, ?_⟩
      · rw [ep, other _ (by omega) (by omega) (by omega) (by omega)]
        exact a1 q hq
      · rw [ep, other _ (by omega) (by omega) (by omega) (by omega)]
        exact a2
      · rw [ef, other _ (by omega) (by omega) (by omega) (by omega)]
        exact a3
      · rw [ed, other _ (by omega) (by omega) (by omega) (by omega)]
        exact a4
  · rw [e8, rp_s_cell hk, e7, rp_s_cell hk, e6, rp_s_cell hk, e5, rp_s_cell hk, e4, rp_s_cell hk, e3, rp_s_cell hk, e2, rp_s_cell hk, e1, rp_s_cell hk]
