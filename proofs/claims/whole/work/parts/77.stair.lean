/-! STAIRCASES -/
def okx (ok : Nat → Bool) (W : Nat → Nat) (w : Nat) : Nat → Bool := fun c => ok c && decide (W c = w)
theorem okx_t {ok : Nat → Bool} {W : Nat → Nat} {w c : Nat} : okx ok W w c = true ↔ ok c = true ∧ W c = w := by
  unfold okx
  rw [Bool.and_eq_true, decide_eq_true_eq]
/-- the best one of weight w -/
noncomputable def exq (ok : Nat → Bool) (V : Nat → Int) (W : Nat → Nat) (w m : Nat) : Option Nat := bst (okx ok W w) V (fun _ => 0) m
section STA
variable {ok : Nat → Bool} {V : Nat → Int} {W : Nat → Nat} {m : Nat}
theorem exq_stp (hm : 0 < m) (h0 : ok 0 = true) (hw0 : W 0 = 0) {w b : Nat} (hb : exq ok V W w m = some b) : (w = 0 ∨ V (sb ok V W m (w - 1)) < V b) ↔ stp ok V W m w := by
  obtain ⟨o1, o2, o3⟩ := bst_opt _ _ hb
  obtain ⟨k1, k2⟩ := okx_t.mp o2
  have so := sb_opt (V := V) (w := w) hm h0 hw0
  constructor
  · rintro (h | h)
    · exact Or.inl h
    · right
      have := so.2.2 b o1 (okw_t.mpr ⟨k1, by omega⟩)
      omega
  · rintro (h | h)
    · exact Or.inl h
    · by_cases hz : w = 0
      · exact Or.inl hz
      · right
        have hW := stp_W hm h0 hw0 (Or.inr h)
        have s1 := (okw_t.mp so.2.1).1
        have := o3 _ so.1 (okx_t.mpr ⟨s1, hW⟩)
        have : V (sb ok V W m w) ≤ V b := by
          rcases this with z | z
          · omega
          · omega
        omega
theorem exq_sb (hm : 0 < m) (h0 : ok 0 = true) (hw0 : W 0 = 0) {w : Nat} (h : stp ok V W m w) : exq ok V W w m = some (sb ok V W m w) := by
  have so := sb_opt (V := V) (w := w) hm h0 hw0
  have hW := stp_W hm h0 hw0 h
  obtain ⟨s1, s2⟩ := okw_t.mp so.2.1
  refine bst_iff.mpr ⟨so.1, okx_t.mpr ⟨s1, hW⟩, fun c hc hok => ?_⟩
  obtain ⟨c1, c2⟩ := okx_t.mp hok
  rcases so.2.2 c hc (okw_t.mpr ⟨c1, by omega⟩) with z | z
  · exact Or.inl z
  · right
    refine ⟨z.1, Or.inr ⟨rfl, ?_⟩⟩
    omega
theorem stp_last (hm : 0 < m) (h0 : ok 0 = true) (hw0 : W 0 = 0) : ∀ w, ∃ u, u ≤ w ∧ stp ok V W m u ∧ cntp (stp ok V W m) u + 1 = cntp (stp ok V W m) (w + 1) ∧ V (sb ok V W m u) = V (sb ok V W m w)
  | 0 => ⟨0, Nat.le_refl _, Or.inl rfl, (cntp_y (Or.inl rfl)).symm, rfl⟩
  | w + 1 => by
    by_cases q : stp ok V W m (w + 1)
    · exact ⟨w + 1, Nat.le_refl _, q, (cntp_y q).symm, rfl⟩
    · obtain ⟨u, u1, u2, u3, u4⟩ := stp_last hm h0 hw0 w
      refine ⟨u, by omega, u2, by rw [cntp_n q]; exact u3, ?_⟩
      have mo := sb_mono (V := V) hm h0 hw0 (show w ≤ w + 1 by omega)
      have : ¬ V (sb ok V W m w) < V (sb ok V W m (w + 1)) := fun z => q (Or.inr z)
      omega
theorem stp_top (hm : 0 < m) (h0 : ok 0 = true) (hw0 : W 0 = 0) {X : Nat} (hX : ∀ c, c < m → W c ≤ X) {w : Nat} (h : stp ok V W m w) : w ≤ X := by
  have := stp_W hm h0 hw0 h
  have := hX _ (sb_opt (V := V) (w := w) hm h0 hw0).1
  omega
/-- the steps, laid -/
def SC (ok : Nat → Bool) (V : Nat → Int) (W : Nat → Nat) (m T : Nat) (M : rp_M) : Prop := M 147 1 = nI (cntp (stp ok V W m) (T + 1)) ∧ ∀ u, u ≤ T → stp ok V W m u → M 148 (cntp (stp ok V W m) u) = nI (sb ok V W m u)
theorem d3_rise (E : rp_E) {M : rp_M} (hm : 0 < m) (hm2 : m ≤ 4096) (h0 : ok 0 = true) (hw0 : W 0 = 0) {r : Nat} (hr : r < 170) (sr : rp_sh r = (0, 4096, [])) (hr2 : r ≠ 147 ∧ r ≠ 148) (hg : ∀ c, c < m → M r c = iI (V c) ∧ -20000 ≤ V c ∧ V c ≤ 20000) {T : Nat} (hT : T ≤ 9999) (hs : ∀ w, w ≤ T → M 148 w = oX (exq ok V W w m)) : rp_Run E YX3_keepRising [.ref 147, .int (nI T), .ref r] M (rp_P0 (fun M' => SC ok V W m T M' ∧ ∀ k, k ≠ 147 → k ≠ 148 → M' k = M k)) := by
  refine vX3_keepRising E _ M hr sr _ (fun M1 e1 => ?_)
  suffices key : ∀ w, w ≤ T + 1 → ∀ M2 : rp_M, M2 147 1 = nI (cntp (stp ok V W m) w) → (∀ u, u < w → stp ok V W m u → M2 148 (cntp (stp ok V W m) u) = nI (sb ok V W m u)) → (∀ u, w ≤ u → u ≤ T → M2 148 u = oX (exq ok V W u m)) → (∀ k, k ≠ 147 → k ≠ 148 → M2 k = M k) → rp_G E YX3_keepRising (rp_P0 (fun M' => SC ok V W m T M' ∧ ∀ k, k ≠ 147 → k ≠ 148 → M' k = M k)) 7 [.ref 147, .int (nI T), .ref r, .int (nI w), .null] [] M2 from key 0 (by omega) M1 (by rw [e1, rp_s_at]; rfl) (fun u hu => absurd hu (by omega)) (fun u _ hu => by rw [e1, rp_s_ne (by omega)]; exact hs u hu) (fun k h1 _ => by rw [e1, rp_s_cell h1])
  refine up_loop (fun w hw ih M2 q1 q2 q3 q4 => vX3_keepRising_7 E _ M2 hr sr _ _ ?_)
  have hcl := cntp_le (p := stp ok V W m) w
  rw [nI_ltI (by omega) (by omega)]
  refine ⟨fun h => ?_, fun h => ?_⟩
  · have e : w = T + 1 := by omega
    subst e
    exact ⟨rfl, ⟨q1, fun u hu => q2 u (by omega)⟩, q4⟩
  have hwT : w ≤ T := by omega
  have hlt : ∀ b, exq ok V W w m = some b → b < 2 ^ 31 := fun b hb => by
    have := (bst_lt hb).1
    omega
  rw [nI_clamp (by omega), q3 w (Nat.le_refl _) hwT, q1, nI_1]
  -- w is no step
  have skip : ¬ stp ok V W m w → rp_G E YX3_keepRising (rp_P0 (fun M' => SC ok V W m T M' ∧ ∀ k, k ≠ 147 → k ≠ 148 → M' k = M k)) 7 [.ref 147, .int (nI T), .ref r, .int (nI (w + 1)), .null] [] M2 := fun no => by
    refine ih (by omega) M2 (by rw [cntp_n no]; exact q1) (fun u hu su => ?_) (fun u h1 h2 => q3 u (by omega) h2) q4
    by_cases e : u = w
    · rw [e] at su
      exact absurd su no
    · exact q2 u (by omega) su
  -- w is a step
  have take : stp ok V W m w → ∀ M3 M4 : rp_M, M3 = rp_s M2 148 (cntp (stp ok V W m) w) (oX (exq ok V W w m)) → M4 = rp_s M3 147 1 (M3 147 1 + 1) → rp_G E YX3_keepRising (rp_P0 (fun M' => SC ok V W m T M' ∧ ∀ k, k ≠ 147 → k ≠ 148 → M' k = M k)) 7 [.ref 147, .int (nI T), .ref r, .int (nI (w + 1)), .null] [] M4 := fun yes M3 M4 e3 e4 => by
    rw [exq_sb hm h0 hw0 yes] at e3
    refine ih (by omega) M4 ?_ (fun u hu su => ?_) (fun u h1 h2 => ?_) (fun k k1 k2 => by rw [e4, rp_s_cell k1, e3, rp_s_cell k2, q4 k k1 k2])
    · rw [e4, rp_s_at, e3, rp_s_ne (by omega), q1, cntp_y yes, nI_1]
    · rw [e4, rp_s_cell (by decide)]
      by_cases e : u = w
      · rw [e, e3, rp_s_at]
        rfl
      · have hu2 : u < w := by omega
        have := cntp_up su hu2
        rw [e3, rp_s_ne (by omega)]
        exact q2 u hu2 su
    · rw [e4, rp_s_cell (by decide), e3, rp_s_ne (by omega)]
      exact q3 u (by omega) h2
  refine ⟨nI_inb (by omega) (by omega), fun z => ?_, fun z => ?_⟩
  · have e := (oX_neg hlt).mp z
    exact skip (fun y => by rw [exq_sb hm h0 hw0 y] at e; cases e)
  · cases hx : exq ok V W w m with
    | none => exact absurd ((oX_neg hlt).mpr hx) z
    | some b =>
      have iff := exq_stp hm h0 hw0 hx
      have hb : b < m := (bst_lt hx).1
      rw [hx] at take
      rw [show (0 : Int32) = nI 0 by rfl, nI_eq (by omega) (by omega)]
      by_cases hz : w = 0
      · have yes : stp ok V W m w := Or.inl hz
        refine ⟨fun _ => ⟨nI_inb (by omega) (by omega), fun M3 e3 M4 e4 => take yes M3 M4 ?_ e4⟩, fun y => absurd ?_ y⟩
        · rw [nI_clamp (by omega)] at e3
          exact e3
        · rw [hz]
          rfl
      · obtain ⟨u, u1, u2, u3, u4⟩ := stp_last (V := V) hm h0 hw0 (w - 1)
        rw [show w - 1 + 1 = w by omega] at u3
        refine ⟨fun y => absurd y (by omega), fun _ => ?_⟩
        rw [nI_p1 (show 0 < cntp (stp ok V W m) w by omega), show cntp (stp ok V W m) w - 1 = cntp (stp ok V W m) u by omega, nI_clamp (by omega), nI_clamp (by omega), q2 u (by omega) u2]
        have su := (sb_opt (V := V) (w := u) hm h0 hw0).1
        show vp_in (nI b) 4096 ∧ _
        refine ⟨nI_inb (by omega) (by omega), nI_inb (by omega) (by omega), nI_inb (by omega) (by omega), ?_⟩
        show ((M2 r (nI b).toNatClampNeg ≤ _ → _) ∧ (¬ M2 r (nI b).toNatClampNeg ≤ _ → _))
        obtain ⟨g1, g2, g3⟩ := hg b hb
        obtain ⟨g4, g5, g6⟩ := hg _ su
        rw [nI_clamp (by omega), nI_clamp (by omega), q4 r hr2.1 hr2.2, g1, g4, iI_le (by omega) (by omega) (by omega) (by omega)]
        refine ⟨fun y => skip (fun yes => ?_), fun y => ⟨nI_inb (by omega) (by omega), fun M3 e3 M4 e4 => take (iff.mp (Or.inr (by omega))) M3 M4 e3 e4⟩⟩
        rcases iff.mpr yes with v | v
        · exact hz v
        · omega
theorem d3_clear (E : rp_E) {M : rp_M} {h c : Nat} (hh : h < 2 ^ 31) (hc : c < 2 ^ 31) : rp_Run E YX3_clear [.ref 147, .int (nI h), .int (nI c)] M (rp_P (fun v M' => v = nI (min (min h c) 9999) ∧ (∀ w, w ≤ min (min h c) 9999 → M' 148 w = (-1)) ∧ ∀ k, k ≠ 148 → M' k = M k)) := by
  refine vX3_clear E _ M _ _ ?_
  have e1 : (if nI c < nI h then nI c else nI h) = nI (min h c) := by
    by_cases q : c < h
    · rw [if_pos ((nI_ltI hc hh).mpr q), Nat.min_eq_right (by omega)]
    · rw [if_neg (fun z => q ((nI_ltI hc hh).mp z)), Nat.min_eq_left (by omega)]
  have e2 : (if (9999 : Int32) < nI (min h c) then 9999 else nI (min h c)) = nI (min (min h c) 9999) := by
    have hmc : min h c < 2 ^ 31 := by omega
    rw [show (9999 : Int32) = nI 9999 by rfl]
    by_cases q : 9999 < min h c
    · rw [if_pos ((nI_ltI (a := 9999) (by decide) hmc).mpr q), Nat.min_eq_right (by omega)]
    · rw [if_neg (fun z => q ((nI_ltI (a := 9999) (by decide) hmc).mp z)), show min (min h c) 9999 = min h c by omega]
  rw [e1, e2]
  generalize hT : min (min h c) 9999 = T
  have hT2 : T ≤ 9999 := by omega
  suffices key : ∀ w, w ≤ T + 1 → ∀ M1 : rp_M, (∀ u, u < w → M1 148 u = (-1)) → (∀ k, k ≠ 148 → M1 k = M k) → rp_G E YX3_clear (rp_P (fun v M' => v = nI T ∧ (∀ w, w ≤ T → M' 148 w = (-1)) ∧ ∀ k, k ≠ 148 → M' k = M k)) 15 [.ref 147, .null, .null, .int (nI T), .int (nI w)] [] M1 from key 0 (by omega) M (fun u hu => absurd hu (by omega)) (fun _ _ => rfl)
  refine up_loop (fun w hw ih M1 q1 q2 => vX3_clear_15 E _ M1 _ _ ?_)
  rw [nI_ltI (by omega) (by omega), nI_clamp (by omega), nI_1]
  refine ⟨fun z => ⟨_, rfl, rfl, fun u hu => q1 u (by omega), q2⟩, fun z => ⟨nI_inb (by omega) (by omega), fun M2 e2 => ih (by omega) M2 (fun u hu => ?_) (fun k hk => by rw [e2, rp_s_cell hk, q2 k hk])⟩⟩
  by_cases e : u = w
  · rw [e2, e, rp_s_at]
  · rw [e2, rp_s_ne (by omega)]
    exact q1 u (by omega)
/-- choice j is offered where it may be -/
theorem d3_offer (E : rp_E) {M : rp_M} {r : Nat} (hr : r < 170) (sr : rp_sh r = (0, 4096, [])) {j T : Nat} (hj : j < 4096) (hT : T ≤ 9999) (hg : ∀ c, c ≤ j → M r c = iI (V c) ∧ -20000 ≤ V c ∧ V c ≤ 20000) (hok : ok j = true) (hwj : W j ≤ T) (hs : ∀ w, w ≤ T → M 148 w = oX (exq ok V W w j)) : rp_Run E YX3_offer [.ref 147, .int (nI j), .int (nI (W j)), .ref r] M (rp_P0 (fun M' => (∀ w, w ≤ T → M' 148 w = oX (exq ok V W w (j + 1))) ∧ ∀ k, k ≠ 148 → M' k = M k)) := by
  refine vX3_offer E _ M hr sr _ _ ?_
  have hlt : ∀ b, exq ok V W (W j) j = some b → b < 2 ^ 31 := fun b hb => by
    have := (bst_lt hb).1
    omega
  rw [nI_clamp (by omega), nI_clamp (by omega), hs (W j) hwj]
  have other : ∀ w, w ≠ W j → exq ok V W w (j + 1) = exq ok V W w j := fun w hw => bst_no (fun z => hw (okx_t.mp z.1).2.symm)
  have take : bbe V (fun _ => 0) j (exq ok V W (W j) j) → ∀ M1 : rp_M, M1 = rp_s M 148 (W j) (nI j) → rp_P0 (fun M' => (∀ w, w ≤ T → M' 148 w = oX (exq ok V W w (j + 1))) ∧ ∀ k, k ≠ 148 → M' k = M k) none M1 := fun hb M1 e1 => by
    refine ⟨rfl, fun w hw => ?_, fun k hk => by rw [e1, rp_s_cell hk]⟩
    by_cases e : w = W j
    · rw [e, e1, rp_s_at, show exq ok V W (W j) (j + 1) = some j from bst_yes ⟨okx_t.mpr ⟨hok, rfl⟩, hb⟩]
      rfl
    · rw [e1, rp_s_ne (by omega), other w e]
      exact hs w hw
  refine ⟨nI_inb (by omega) (by omega), fun z => take ?_, fun z => ?_⟩
  · rw [(oX_neg hlt).mp z]
    trivial
  · cases hx : exq ok V W (W j) j with
    | none => exact absurd ((oX_neg hlt).mpr hx) z
    | some b =>
      have hb : b < j := (bst_lt hx).1
      obtain ⟨g1, g2, g3⟩ := hg b (by omega)
      obtain ⟨g4, g5, g6⟩ := hg j (Nat.le_refl _)
      show vp_in (nI j) 4096 ∧ (vp_in (nI b) 4096 ∧ ((M r j ≤ M r (nI b).toNatClampNeg → _) ∧ (¬ M r j ≤ M r (nI b).toNatClampNeg → _)))
      rw [nI_clamp (by omega), g1, g4, iI_le (by omega) (by omega) (by omega) (by omega)]
      refine ⟨nI_inb (by omega) (by omega), nI_inb (by omega) (by omega), fun y => ⟨rfl, fun w hw => ?_, fun _ _ => rfl⟩, fun y => take ?_⟩
      · by_cases e : w = W j
        · rw [e, show exq ok V W (W j) (j + 1) = exq ok V W (W j) j from bst_no (fun q => by
            have q2 := q.2
            have hx : bst (okx ok W (W j)) V (fun _ => 0) j = some b := hx
            rw [hx] at q2
            have q2 : V b < V j ∨ (V j = V b ∧ 0 < 0) := q2
            omega)]
          exact hs _ hwj
        · rw [other w e]
          exact hs w hw
      · rw [hx]
        show V b < V j ∨ (V j = V b ∧ 0 < 0)
        omega
theorem exq_skip {j w : Nat} (h : ¬ (ok j = true ∧ W j = w)) : exq ok V W w (j + 1) = exq ok V W w j := bst_no (fun z => h (okx_t.mp z.1))
theorem SC_ext {T T' : Nat} {M : rp_M} (h : SC ok V W m T M) (hTT : T ≤ T') (hno : ∀ u, u ≤ T' → stp ok V W m u → u ≤ T) : SC ok V W m T' M := by
  refine ⟨?_, fun u hu su => h.2 u (hno u hu su) su⟩
  have e : cntp (stp ok V W m) (T' + 1) = cntp (stp ok V W m) (T + 1) := cntp_flat (by omega) (fun x h1 h2 sx => by
    have := hno x (by omega) sx
    omega)
  rw [e]
  exact h.1
theorem c3_stepAt (E : rp_E) {M : rp_M} {T : Nat} (hT : T ≤ 9999) (h : SC ok V W m T M) (x : Int32) : rp_C E YX3_stepAt [.ref 147, .int x] M (some (match gwt (stp ok V W m) T x with | none => (-6) | some u => nI (sb ok V W m u))) M := by
  refine rp_C_of (fun post hp => vX3_stepAt E post M x ?_)
  have hcl := cntp_le (p := stp ok V W m) (T + 1)
  rw [h.1]
  refine ⟨fun z => ?_, fun z => ⟨fun y => ?_, fun y => ?_⟩⟩
  · rw [gwt_none (fun u u1 u2 e => by
      have := cntp_le (p := stp ok V W m) u
      rw [e] at z
      exact nI_pos (by omega) z)] at hp
    exact hp
  · rw [gwt_none (fun u u1 u2 e => by
      have := cntp_le (p := stp ok V W m) u
      rw [e, nI_leI (by omega) (by omega)] at y
      have := cntp_up u2 (show u < T + 1 by omega)
      omega)] at hp
    exact hp
  · rw [Int32.lt_d, Int32.toInt_zero] at z
    have ex := toNat_nI (x := x) (by omega)
    have hk : x.toNatClampNeg < 2 ^ 31 := Int32.toNatClampNeg_lt x
    generalize x.toNatClampNeg = k at *
    subst ex
    rw [nI_leI (by omega) hk] at y
    obtain ⟨u, u1, u2, u3⟩ := cntp_get (show k < cntp (stp ok V W m) (T + 1) by omega)
    rw [gwt_some (by omega) (show u ≤ T by omega) u2 (by rw [u3])] at hp
    rw [← u3, h.2 u (by omega) u2]
    exact ⟨nI_inb (by omega) (by omega), hp⟩
end STA
