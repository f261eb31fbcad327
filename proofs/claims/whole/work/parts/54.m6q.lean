/-! THE REFERENCE, 12: an item of the text -/
def kw (b : Nat) (M M' : rp_M) : Prop := (∀ k, k ≠ 155 → k ≠ 159 → M' k = M k) ∧ (∀ i, i ≠ 5 → i ≠ 6 → i ≠ 8 → M' 155 i = M 155 i) ∧ ∀ i, i < b → M' 159 i = M 159 i
theorem kw.rf (b : Nat) (M : rp_M) : kw b M M := ⟨fun _ _ _ => rfl, fun _ _ _ _ => rfl, fun _ _ => rfl⟩
theorem kw.tr {b c : Nat} {M M' M'' : rp_M} (hb : b ≤ c) (h : kw b M M') (h' : kw c M' M'') : kw b M M'' := ⟨fun k h1 h2 => (h'.1 k h1 h2).trans (h.1 k h1 h2), fun i h1 h2 h3 => (h'.2.1 i h1 h2 h3).trans (h.2.1 i h1 h2 h3), fun i hi => (h'.2.2 i (by omega)).trans (h.2.2 i hi)⟩
theorem kq.kw {M M' : rp_M} (h : kq M M') (b : Nat) : kw b M M' := ⟨fun k h1 _ => h.1 k h1, fun i h1 h2 _ => h.2 i h1 h2, fun i _ => by rw [h.1 159 (by decide)]⟩
theorem kq.m8 {M M' : rp_M} (h : kq M M') : M' 155 8 = M 155 8 := h.2 8 (by decide) (by decide)
theorem kq.r {M M' : rp_M} (h : kq M M') : M' 159 = M 159 := h.1 159 (by decide)
theorem kw.st {M : rp_M} {b i : Nat} (h : b ≤ i) (x : Int32) : kw b M (rp_s M 159 i x) := ⟨fun k _ h2 => rp_s_cell h2, fun j _ _ _ => rp_s_ne (by omega), fun j hj => rp_s_ne (by omega)⟩
theorem kw.le {b c : Nat} {M M' : rp_M} (h : kw c M M') (hb : b ≤ c) : kw b M M' := ⟨h.1, h.2.1, fun i hi => h.2.2 i (by omega)⟩
theorem ps.st {M : rp_M} {p i : Nat} {w : Bool} (h : ps p w M) (x : Int32) : ps p w (rp_s M 159 i x) := ⟨by rw [rp_s_ne (by omega)]; exact h.1, by rw [rp_s_ne (by omega)]; exact h.2⟩
theorem PT.kw {pd : List Nat} {b : Nat} {M M' : rp_M} (h : PT pd M) (hk : kw b M M') : PT pd M' := ⟨(hk.2.1 4 (by decide) (by decide) (by decide)).trans h.1, fun i c hi => by rw [hk.1 158 (by decide) (by decide)]; exact h.2.1 i c hi, h.2.2⟩
/-- the state behind an item's part: more = what is read from here on -/
def stg (b : Nat) (M M' : rp_M) : Prop := kw b M M' ∧ M' 155 8 = M 155 8 + 1
theorem e134 (E : rp_E) {M : rp_M} (post : Option Int32 → rp_M → Prop) (hpost : ∀ M', stg 200 M M' → M' 155 5 = M 155 5 → M' 155 6 = M 155 6 → post none M') : rp_G E YX6_readItem post 134 [.ref 155, .null] [] M := by
  refine vX6_readItem_134 E _ M (fun M1 e1 => hpost M1 ⟨⟨fun k hk _ => by rw [e1, rp_s_cell hk], fun i _ _ h => by rw [e1, rp_s_ne (by omega)], fun i _ => by rw [e1, rp_s_cell (by decide)]⟩, by rw [e1, rp_s_at]⟩ (by rw [e1, rp_s_ne (by decide)]) (by rw [e1, rp_s_ne (by decide)]))
theorem w109 (E : rp_E) {M : rp_M} {b e : Nat} (hb : b ≤ 100) (hs : ps e true M) (post : Option Int32 → rp_M → Prop) (hpost : ∀ M', stg b M M' → ps e true M' → post none M') (s0 : Int32) : rp_G E YX6_readItem post 109 [.ref 155, .int (nI b)] [.int s0, .int (nI (b + 3)), .ref 159] M := by
  refine vX6_readItem_109 E _ M _ _ _ ⟨nI_inb (by omega) (by omega), fun M1 e1 => ?_⟩
  rw [nI_clamp (by omega)] at e1
  rw [show nI b + 4 = nI (b + 4) from nI_add b 4]
  refine ⟨nI_inb (by omega) (by omega), fun M2 e2 => ⟨_, d_takesW E (pos := e) (by rw [e2, e1]; exact (hs.st _).st _) _, fun v M3 h3 => ⟨fun _ => ?_, fun h => absurd h3.1 h⟩⟩⟩
  rw [nI_clamp (by omega)] at e2
  have p3 : ps e true M3 := by rw [h3.2, e2, e1]; exact (hs.st _).st _
  have k3 : kw b M M3 := by
    rw [h3.2, e2, e1]
    exact (kw.st (by omega) _).tr (Nat.le_refl b) (kw.st (by omega) _)
  have m3 : M3 155 8 = M 155 8 := by rw [h3.2, e2, e1, rp_s_ne (by omega), rp_s_ne (by omega)]
  exact e134 E post (fun M' h1 h2 h4 => hpost M' ⟨k3.tr (by omega) h1.1, by rw [h1.2, m3]⟩ ⟨h2.trans p3.1, h4.trans p3.2⟩)
theorem w83 (E : rp_E) {M : rp_M} {b e : Nat} (hb : b ≤ 100) (hs : ps e true M) (post : Option Int32 → rp_M → Prop) (hpost : ∀ M', stg b M M' → ps e true M' → post none M') (s0 : Int32) : rp_G E YX6_readItem post 83 [.ref 155, .int (nI b)] [.int s0, .int (nI (b + 2)), .ref 159] M := by
  refine vX6_readItem_83 E _ M _ _ _ ⟨nI_inb (by omega) (by omega), fun M1 e1 => ⟨_, d_takesW E (pos := e) (by rw [e1]; exact hs.st _) _, fun v M3 h3 => ⟨fun _ => ?_, fun h => absurd h3.1 h⟩⟩⟩
  rw [nI_clamp (by omega)] at e1
  rw [show nI b + 3 = nI (b + 3) from nI_add b 3]
  have m3 : M3 155 8 = M 155 8 := by rw [h3.2, e1, rp_s_ne (by omega)]
  refine w109 E hb (e := e) (by rw [h3.2, e1]; exact hs.st _) post (fun M' h1 h2 => hpost M' ⟨kw.tr (Nat.le_refl b) ?_ h1.1, by rw [h1.2, m3]⟩ h2) _
  rw [h3.2, e1]
  exact kw.st (by omega) _
theorem w45 (E : rp_E) {M : rp_M} {b e : Nat} (hb : b ≤ 100) (hs : ps e true M) (post : Option Int32 → rp_M → Prop) (hpost : ∀ M', stg b M M' → ps e true M' → post none M') : rp_G E YX6_readItem post 45 [.ref 155, .int (nI b)] [] M := by
  refine vX6_readItem_45 E _ M _ ⟨_, d_numW E hs _, fun v M1 h1 => ?_⟩
  rw [show nI b + 1 = nI (b + 1) from nI_add b 1]
  refine ⟨nI_inb (by omega) (by omega), fun M2 e2 => ⟨_, d_takesW E (pos := e) (by rw [e2]; exact h1.2.2.st _) _, fun v M3 h3 => ⟨fun _ => ?_, fun h => absurd h3.1 h⟩⟩⟩
  rw [nI_clamp (by omega)] at e2
  rw [show nI b + 2 = nI (b + 2) from nI_add b 2]
  have m3 : M3 155 8 = M 155 8 := by rw [h3.2, e2, rp_s_ne (by omega), h1.1.m8]
  refine w83 E hb (e := e) (by rw [h3.2, e2]; exact h1.2.2.st _) post (fun M' h4 h5 => hpost M' ⟨kw.tr (Nat.le_refl b) ?_ h4.1, by rw [h4.2, m3]⟩ h5) _
  rw [h3.2, e2]
  exact (h1.1.kw b).tr (Nat.le_refl b) (kw.st (by omega) _)
def gpost (b : Nat) (M : rp_M) (e : Nat) (M' : rp_M) : Prop := stg b M M' ∧ ps e true M'
theorem d_readGroup (E : rp_E) {M : rp_M} {pd : List Nat} (hp : PT pd M) {b pos : Nat} (hb : b ≤ 100) (hpos : pos ≤ 82) (hs : ps pos false M) : rp_Run E YX6_readGroup [.ref 155, .int (nI b)] M (rp_P0 (fun M' => kw (b + 4) M M' ∧ M' 155 8 = M 155 8 ∧ ((tx pd pos < 48 ∨ 51 < tx pd pos) → ps pos true M') ∧ (48 ≤ tx pd pos ∧ tx pd pos ≤ 51 → ps (pos + 1) false M' ∧ M' 159 (b + 4) = nI (tx pd pos - 48)))) := by
  have t0 := tx_le hp.2.2.2 pos
  refine vX6_readGroup E _ M _ ⟨_, _, c_next E hp (by omega) hs.1, _, _, c_in E M _ _ _, ?_⟩
  rw [show (48 : Int32) = nI 48 by rfl, show (51 : Int32) = nI 51 by rfl, in_dig t0 (by omega) (by omega), bI_n, bI_0, decide_eq_true_eq, decide_eq_false_iff_not]
  refine ⟨fun h => ⟨_, _, c_next E hp (by omega) hs.1, ?_⟩, fun h M1 e1 => ⟨rfl, ?_, ?_, fun _ => ⟨?_, ?_⟩, fun h2 => absurd h2 h⟩⟩
  · rw [show nI b + 4 = nI (b + 4) from nI_add b 4, pk_sub h.1]
    refine ⟨nI_inb (by omega) (by omega), fun M1 e1 M2 e2 => ?_⟩
    rw [nI_clamp (by omega)] at e1
    refine ⟨rfl, ⟨fun k h1 h2 => by rw [e2, rp_s_cell h1, e1, rp_s_cell h2], fun i h1 h2 h3 => by rw [e2, rp_s_ne (by omega), e1, rp_s_ne (by omega)], fun i hi => by rw [e2, rp_s_ne (by omega), e1, rp_s_ne (by omega)]⟩, ?_, fun h2 => by omega, fun _ => ⟨⟨?_, ?_⟩, ?_⟩⟩
    · rw [e2, rp_s_ne (by omega), e1, rp_s_ne (by omega)]
    · rw [e2, rp_s_at, e1, rp_s_ne (by omega), hs.1, nI_1]
    · rw [e2, rp_s_ne (by omega), e1, rp_s_ne (by omega)]
      exact hs.2
    · rw [e2, rp_s_ne (by omega), e1, rp_s_at]
  · exact ⟨fun k hk _ => by rw [e1, rp_s_cell hk], fun i h1 h2 _ => by rw [e1, rp_s_ne (by omega)], fun i _ => by rw [e1, rp_s_cell (by decide)]⟩
  · rw [e1, rp_s_ne (by omega)]
  · rw [e1, rp_s_ne (by omega)]
    exact hs.1
  · rw [e1, rp_s_at]
    rfl
/-- what stands behind an item -/
def ipost (pd : List Nat) (b pos : Nat) (M M' : rp_M) : Prop := stg b M M' ∧ ((∃ r p, rI (tx pd) pos = .inr (r, p) ∧ ps p false M' ∧ M' 159 b = nI r.1 ∧ M' 159 (b + 1) = nI r.2.1 ∧ M' 159 (b + 2) = nI r.2.2.1 ∧ M' 159 (b + 3) = nI r.2.2.2.1 ∧ M' 159 (b + 4) = gM r.2.2.2.2) ∨ ∃ e, rI (tx pd) pos = .inl e ∧ ps e true M')
theorem g109 (E : rp_E) {M : rp_M} {pd : List Nat} (hp : PT pd M) {b pos : Nat} (hb : b ≤ 100) (hpos : pos ≤ 81) (hs : ps pos false M) (post : Option Int32 → rp_M → Prop) (s0 : Int32)
    (hg : ∀ M' g p, rGr (tx pd) pos = .inr (g, p) → stg (b + 3) M M' → ps p false M' → M' 159 (b + 3) = s0 → M' 159 (b + 4) = gM g → post none M')
    (hw : ∀ M' e, rGr (tx pd) pos = .inl e → stg (b + 3) M M' → ps e true M' → post none M') : rp_G E YX6_readItem post 109 [.ref 155, .int (nI b)] [.int s0, .int (nI (b + 3)), .ref 159] M := by
  refine vX6_readItem_109 E _ M _ _ _ ⟨nI_inb (by omega) (by omega), fun M1 e1 => ?_⟩
  rw [nI_clamp (by omega)] at e1
  rw [show nI b + 4 = nI (b + 4) from nI_add b 4]
  refine ⟨nI_inb (by omega) (by omega), fun M2 e2 => ?_⟩
  rw [nI_clamp (by omega)] at e2
  have s2 : ps pos false M2 := by rw [e2, e1]; exact (hs.st _).st _
  have k2 : kw (b + 3) M M2 := by
    rw [e2, e1]
    exact (kw.st (Nat.le_refl _) _).tr (Nat.le_refl _) (kw.st (by omega) _)
  have m2 : M2 155 8 = M 155 8 := by rw [e2, e1, rp_s_ne (by omega), rp_s_ne (by omega)]
  have a2 : M2 159 (b + 3) = s0 := by rw [e2, rp_s_ne (by omega), e1, rp_s_at]
  have b2 : M2 159 (b + 4) = (-6) := by rw [e2, rp_s_at]
  refine ⟨_, d_takes E (hp.kw k2) (ch := 64) (by omega) s2 (by omega), fun v M3 h3 => ⟨fun hv => ?_, fun hv => ?_⟩⟩
  · rcases h3.2 with h4 | h4
    · rw [h4.2.1] at hv
      exact absurd hv (by decide)
    · refine e134 E post (fun M' h5 h6 h7 => hg M' 4 pos ?_ ⟨(k2.tr (Nat.le_refl _) (h3.1.kw _)).tr (by omega) h5.1, by rw [h5.2, h3.1.m8, m2]⟩ ⟨h6.trans h4.2.2.1, h7.trans h4.2.2.2⟩ ?_ ?_)
      · unfold rGr
        rw [if_neg h4.1]
      · rw [h5.1.2.2 _ (by omega), h3.1.r, a2]
      · rw [h5.1.2.2 _ (by omega), h3.1.r, b2]
        rfl
  · rcases h3.2 with h4 | h4
    · have k3 : kw (b + 3) M M3 := k2.tr (Nat.le_refl _) (h3.1.kw _)
      refine ⟨_, d_readGroup E (hp.kw k3) hb (by omega) h4.2.2, fun M4 h5 => e134 E post (fun M' h6 h7 h8 => ?_)⟩
      have k4 : stg (b + 3) M M' := ⟨(k3.tr (by omega) h5.1).tr (by omega) h6.1, by rw [h6.2, h5.2.1, h3.1.m8, m2]⟩
      by_cases q : 48 ≤ tx pd (pos + 1) ∧ tx pd (pos + 1) ≤ 51
      · obtain ⟨q1, q2⟩ := h5.2.2.2 q
        refine hg M' (tx pd (pos + 1) - 48) (pos + 2) ?_ k4 ⟨h7.trans q1.1, h8.trans q1.2⟩ ?_ ?_
        · unfold rGr
          rw [if_pos h4.1, if_pos (pB_t.mpr q)]
        · rw [h6.1.2.2 _ (by omega), h5.1.2.2 _ (by omega), h3.1.r, a2]
        · rw [h6.1.2.2 _ (by omega), q2]
          unfold gM
          rw [if_pos (by omega)]
      · have q1 := h5.2.2.1 (by omega)
        refine hw M' (pos + 1) ?_ k4 ⟨h7.trans q1.1, h8.trans q1.2⟩
        unfold rGr
        rw [if_pos h4.1, if_neg (fun z => q (pB_t.mp z))]
    · exact absurd h4.2.1 hv
