/-! ANSWERS, 8: headroom; and the reference's -/
def zset (S : rs_S) (p k v : Nat) : rs_S := (S.1, (fun q j => if q = p ∧ j = k then v else zp S q j), S.2.2)
theorem zset_n (S : rs_S) (p k v : Nat) : zn (zset S p k v) = zn S := rfl
theorem zset_g (S : rs_S) (p k v : Nat) : zg (zset S p k v) = zg S := rfl
theorem zset_p (S : rs_S) (p k v q j : Nat) : zp (zset S p k v) q j = if q = p ∧ j = k then v else zp S q j := rfl
theorem zset_Wf {S : rs_S} (hw : Wf S) {k v : Nat} (hv : v ≤ 999) : Wf (zset S 2 k v) := by
  obtain ⟨h1, h2, h3, h4, h5, h6⟩ := hw
  refine ⟨h1, h2, h3, h4, fun j hj => ?_, h6⟩
  obtain ⟨a1, a2, a3, a4, a5, a6, a7, a8⟩ := h5 j hj
  refine ⟨a1, a2, a3, a4, ?_, a6, a7, a8⟩
  rw [zset_p]
  split
  · exact hv
  · exact a5
theorem zset_RM {S : rs_S} {f : Nat → Int32} (hn : zn S ≤ 12) (hr : RM S f) {k v : Nat} (hk : k < zn S) : RM (zset S 2 k v) (upd f (4 + 5 * k + 2) (nI v)) := by
  obtain ⟨h1, h2, h3, h4, h5⟩ := hr
  refine ⟨(pk_un (by omega)).trans h1, (pk_un (by omega)).trans h2, (pk_un (by omega)).trans h3, (pk_un (by omega)).trans h4, fun j hj => ?_⟩
  have hj' : j < zn S := hj
  obtain ⟨a1, a2, a3, a4⟩ := h5 j hj
  refine ⟨fun p hp => ?_, (pk_un (by omega)).trans a2, (pk_un (by omega)).trans a3, (pk_un (by omega)).trans a4⟩
  rw [zset_p]
  by_cases e : p = 2 ∧ j = k
  · obtain ⟨e1, e2⟩ := e
    subst e1
    subst e2
    rw [if_pos ⟨rfl, rfl⟩, pk_us]
  · rw [if_neg e, pk_un (by omega)]
    exact a1 p hp
/-- best stays the best one when the weight deviations are those of S' -/
def zstay (S S' : rs_S) (best : Nat) : Prop := zheavy S' best (zg S) ≤ zc S ∧ ∀ c, c < 2 ^ zn S → c ≠ best → zalB S c = true → zworth S c (zh S) = zworth S best (zh S) → ¬ (zheavy S' c (zg S) < zheavy S' best (zg S) ∨ (zheavy S' c (zg S) = zheavy S' best (zg S) ∧ c < best))
noncomputable def hlin (Z : Nat → Prop) : Nat → Nat → Nat
  | 0, d => d
  | f + 1, d => if pB (Z (d + 1)) = true then hlin Z f (d + 1) else d
noncomputable def a_head (S : rs_S) (x : Int32) : Int32 :=
  if isI (zn S) x = true then
    (if (zbest S (zg S) (zh S) (zc S)).testBit x.toNatClampNeg = true then
      nI (hlin (fun d => zstay S (zset S 2 x.toNatClampNeg (zp S 2 x.toNatClampNeg + d)) (zbest S (zg S) (zh S) (zc S))) (999 - zp S 2 x.toNatClampNeg) 0)
     else nI (999 - zp S 2 x.toNatClampNeg))
  else (-1)
theorem c_stays (E : rp_E) {M : rp_M} {S S' : rs_S} (hw : Wf S) (hw' : Wf S') (hr : RM S' (M 156)) (hn' : zn S' = zn S) (hg' : zg S' = zg S) (hc' : zc S' = zc S) (ht : ∀ c, c < 2 ^ zn S → M 161 c = iI (zworth S c (zh S)) ∧ M 162 c = bI (zalB S c)) {best : Nat} (hb : best < 2 ^ zn S) : rp_C E YX6_staysBest [.ref 155, .int (nI best)] M (some (bI (pB (zstay S S' best)))) M := by
  have hn := hw.n12
  have h2 := hw.two
  have hcap := hw.2.1
  refine rp_C_of (fun post hpost => vX6_staysBest E post M _ ?_)
  have no : ¬ zstay S S' best → post (some 0) M := fun z => by
    rw [pB_f.mpr z] at hpost
    exact hpost
  rw [hr.2.2.1, hg']
  have b0 := hw'.heavy best (zg S)
  refine ⟨_, _, c_protW E hw' hr (by omega) hw.2.2.1, ?_⟩
  rw [hr.2.1, hc', nI_leI (by omega) (by omega)]
  refine ⟨fun h3 => ?_, fun h3 => no (fun z => h3 z.1)⟩
  suffices key : ∀ j, j ≤ 2 ^ zn S → (∀ c, c < j → c ≠ best → zalB S c = true → zworth S c (zh S) = zworth S best (zh S) → ¬ (zheavy S' c (zg S) < zheavy S' best (zg S) ∨ (zheavy S' c (zg S) = zheavy S' best (zg S) ∧ c < best))) → rp_G E YX6_staysBest post 26 [.ref 155, .int (nI best), .int (nI (zheavy S' best (zg S))), .int (nI j), .null] [] M from key 0 (Nat.zero_le _) (fun c hc => by omega)
  refine up_loop (fun j hj ih hpre => vX6_staysBest_26 E _ M _ _ _ ?_)
  refine ⟨_, _, c_sets E (by omega) hr.1, ?_⟩
  rw [hn', nI_leI (by omega) (by omega)]
  refine ⟨fun h4 => ?_, fun h4 => ?_⟩
  · have e : j = 2 ^ zn S := by omega
    subst e
    rw [pB_t.mpr (show zstay S S' best from ⟨h3, hpre⟩)] at hpost
    exact hpost
  have go : (j ≠ best → zalB S j = true → zworth S j (zh S) = zworth S best (zh S) → ¬ (zheavy S' j (zg S) < zheavy S' best (zg S) ∨ (zheavy S' j (zg S) = zheavy S' best (zg S) ∧ j < best))) → rp_G E YX6_staysBest post 26 [.ref 155, .int (nI best), .int (nI (zheavy S' best (zg S))), .int (nI j + 1), .null] [] M := fun q => by
    rw [nI_1]
    refine ih (by omega) (fun c hc => ?_)
    by_cases e : c = j
    · subst e
      exact q
    · exact hpre c (by omega)
  have b1 := hw.worth j (zh S)
  have b2 := hw.worth best (zh S)
  have b3 := hw'.heavy j (zg S)
  rw [nI_eq (by omega) (by omega), nI_clamp (by omega), nI_clamp (by omega), (ht j (by omega)).1, (ht j (by omega)).2, (ht best hb).1, iI_eq (by omega) (by omega) (by omega) (by omega), bI_n, bI_0]
  refine ⟨fun h5 => go (fun z => absurd h5 z), fun h5 => ⟨nI_inb (by omega) (by omega), fun h6 => go (fun _ z => by rw [h6] at z; cases z), fun h6 => ⟨nI_inb (by omega) (by omega), fun h7 => go (fun _ _ z => absurd z h7), fun h7 => ⟨_, _, by rw [hr.2.2.1, hg']; exact c_protW E hw' hr (by omega) hw.2.2.1, ?_⟩⟩⟩⟩
  rw [nI_ltI (by omega) (by omega), nI_eq (by omega) (by omega), nI_leI (by omega) (by omega)]
  have bad : (zheavy S' j (zg S) < zheavy S' best (zg S) ∨ (zheavy S' j (zg S) = zheavy S' best (zg S) ∧ j < best)) → post (some 0) M := fun q => no (fun z => z.2 j (by omega) h5 h6 h7 q)
  exact ⟨fun h8 => bad (Or.inl h8), fun h8 => ⟨fun h9 => go (fun _ _ _ z => by omega), fun h9 => ⟨fun h10 => go (fun _ _ _ z => by omega), fun h10 => bad (Or.inr ⟨h9, by omega⟩)⟩⟩⟩
theorem rp_s_s (M : rp_M) (k i : Nat) (x y : Int32) : rp_s (rp_s M k i x) k i y = rp_s M k i y := by
  funext q j
  unfold rp_s
  split <;> rfl
theorem rp_s_id {M : rp_M} {k i : Nat} {x : Int32} (h : M k i = x) : rp_s M k i x = M := by
  funext q j
  unfold rp_s
  split
  · next e =>
    obtain ⟨e1, e2⟩ := e
    subst e1
    subst e2
    exact h.symm
  · rfl
theorem rp_s_row1 (M : rp_M) (k i : Nat) (x : Int32) : rp_s M k i x k = upd (M k) i x := by
  rw [← rp_s_row]
  exact if_pos rfl
theorem d6_head (E : rp_E) {M : rp_M} {S : rs_S} (hw : Wf S) (hr : RM S (M 156)) (x : Int32) : rp_Run E YX6_headroom [.ref 155, .int x] M (rp_P (fun v M' => v = a_head S x ∧ scrM M M')) := by
  have hn := hw.n12
  have h2 := hw.two
  have hcap := hw.2.1
  refine vX6_headroom E _ M x ⟨_, _, c_isItem E hn hr.1 x, ?_⟩
  rw [bI_n, bI_0]
  refine ⟨fun hx => ⟨_, d_layOwn E hw hr, fun M1 q => ?_⟩, fun hx => ⟨_, rfl, (if_neg (by rw [hx]; decide)).symm, scrM.rf M⟩⟩
  obtain ⟨ht, hk⟩ := q
  have hr1 : RM S (M1 156) := by rw [hk 156 (by decide) (by decide) (by decide)]; exact hr
  have hsc := scr_tab hk
  have ea : a_head S x = _ := if_pos hx
  rw [ea]
  clear ea
  obtain ⟨i, hi, e⟩ := isI_of (by omega) hx
  rw [e, nI_clamp (by omega), hr1.2.1]
  have hb := zbest_lt S (zg S) (zh S) (zc S)
  refine ⟨_, _, c_bestBy E hw hr1 ht (by omega), _, _, c_of E hw hr1 hi (p := 2) (by omega), _, _, c_has E M1 (by omega) (by omega), ?_⟩
  generalize zbest S (zg S) (zh S) (zc S) = best at *
  have hd := hw.p999 (p := 2) (by omega) hi
  rw [bI_n, bI_0]
  refine ⟨fun h3 => ?_, fun h3 => ?_⟩
  · rw [if_pos h3, show (2 : Int32) = nI 2 by rfl, of_at (by omega) (by omega)]
    generalize hpo : (rp_P (fun v M' => v = nI (hlin (fun d => zstay S (zset S 2 i (zp S 2 i + d)) best) (999 - zp S 2 i) 0) ∧ scrM M M')) = post
    have hwas : M1 156 (4 + 5 * i + 2) = nI (zp S 2 i) := (hr1.2.2.2.2 i hi).1 2 (by omega)
    have fin : ∀ (v : Int32) (d : Nat), hlin (fun d => zstay S (zset S 2 i (zp S 2 i + d)) best) (999 - zp S 2 i) 0 = d → ∀ M2, M2 = rp_s (rp_s M1 156 (4 + 5 * i + 2) v) 156 (nI (4 + 5 * i + 2)).toNatClampNeg (nI (zp S 2 i)) → post (some (nI d)) M2 := fun v d hd2 M2 e2 => by
      rw [nI_clamp (by omega), rp_s_s, rp_s_id hwas] at e2
      rw [e2, ← hpo, hd2]
      exact ⟨_, rfl, rfl, hsc⟩
    suffices key : ∀ f d v, zp S 2 i + d + f = 999 → hlin (fun d => zstay S (zset S 2 i (zp S 2 i + d)) best) (999 - zp S 2 i) 0 = hlin (fun d => zstay S (zset S 2 i (zp S 2 i + d)) best) f d → rp_G E YX6_headroom post 61 [.ref 155, .null, .int (nI best), .int (nI (zp S 2 i)), .int (nI (4 + 5 * i + 2)), .int (nI d), .int 1] [] (rp_s M1 156 (4 + 5 * i + 2) v) by
      have := key (999 - zp S 2 i) 0 (nI (zp S 2 i)) (by omega) rfl
      rw [rp_s_id hwas] at this
      exact this
    intro f
    induction f with
    | zero =>
      intro d v hf hl
      refine vX6_headroom_61 E _ _ _ _ _ _ _ ⟨fun q => absurd q (by decide), fun _ => ⟨fun _ => ⟨nI_inb (by omega) (by omega), fun M2 e2 => fin v d hl M2 e2⟩, fun q => absurd ?_ q⟩⟩
      rw [nI_add, show (999 : Int32) = nI 999 by rfl]
      exact nI_le (by omega) (by omega)
    | succ f ih =>
      intro d v hf hl
      refine vX6_headroom_61 E _ _ _ _ _ _ _ ⟨fun q => absurd q (by decide), fun _ => ⟨fun q => absurd q ?_, fun _ => ⟨nI_inb (by omega) (by omega), fun M2 e2 => ?_⟩⟩⟩
      · rw [nI_add, show (999 : Int32) = nI 999 by rfl]
        exact nI_ge (by omega) (by omega)
      rw [nI_clamp (by omega), nI_add, nI_1, rp_s_s] at e2
      rw [Nat.add_assoc] at e2
      have hw' : Wf (zset S 2 i (zp S 2 i + (d + 1))) := zset_Wf hw (by omega)
      have hr2 : RM (zset S 2 i (zp S 2 i + (d + 1))) (M2 156) := by
        rw [e2, rp_s_row1]
        exact zset_RM hn hr1 hi
      refine ⟨_, _, c_stays E hw hw' hr2 rfl rfl rfl (fun c hc => by rw [e2, rp_s_cell (by decide), rp_s_cell (by decide)]; exact (ht c hc).2) hb, ?_⟩
      have eh : hlin (fun d => zstay S (zset S 2 i (zp S 2 i + d)) best) (f + 1) d = if pB (zstay S (zset S 2 i (zp S 2 i + (d + 1))) best) = true then hlin (fun d => zstay S (zset S 2 i (zp S 2 i + d)) best) f (d + 1) else d := rfl
      rw [eh] at hl
      rw [bI_n, bI_0]
      refine ⟨fun h4 => ?_, fun h4 => ?_⟩
      · rw [h4, if_neg (by decide)] at hl
        rw [h4, Int32.add_zero, e2]
        refine vX6_headroom_61 E _ _ _ _ _ _ _ ⟨fun _ => ⟨nI_inb (by omega) (by omega), fun M3 e3 => fin _ d hl M3 e3⟩, fun q => absurd (by decide) q⟩
      · rw [h4, if_pos rfl] at hl
        rw [h4, nI_1, e2]
        exact ih (d + 1) _ (by omega) hl
  · rw [if_neg (by rw [h3]; decide), show (999 : Int32) = nI 999 by rfl, pk_sub (by omega)]
    exact ⟨_, rfl, rfl, hsc⟩
