/-! THE CLASS, 7: texts -/
def QT (pd : List Nat) (M : rp_M) : Prop := PX pd M ∧ pd.length ≤ 80 ∧ ∀ c ∈ pd, c ≤ 126
def px (pos c : Nat) (M : rp_M) : Prop := M 131 4 = nI pos ∧ M 131 3 = nI c
def ky (p c : Nat) (M M' : rp_M) : Prop := (∀ k, k ≠ 131 → (k < 134 ∨ 138 < k) → M' k = M k) ∧ (∀ i, i ≠ 3 → i ≠ 4 → M' 131 i = M 131 i) ∧ ∀ q, q < 5 → ∀ j, (j ≠ c ∨ q < p) → M' (134 + q) j = M (134 + q) j
theorem ky.rf (p c : Nat) (M : rp_M) : ky p c M M := ⟨fun _ _ _ => rfl, fun _ _ _ => rfl, fun _ _ _ _ => rfl⟩
theorem ky.tr {p p' c : Nat} {M M' M'' : rp_M} (hp : p ≤ p') (h : ky p c M M') (h' : ky p' c M' M'') : ky p c M M'' := ⟨fun k h1 h2 => (h'.1 k h1 h2).trans (h.1 k h1 h2), fun i h1 h2 => (h'.2.1 i h1 h2).trans (h.2.1 i h1 h2), fun q hq j hj => (h'.2.2 q hq j (by omega)).trans (h.2.2 q hq j hj)⟩
theorem ky.le {p p' c : Nat} {M M' : rp_M} (h : ky p' c M M') (hp : p ≤ p') : ky p c M M' := ⟨h.1, h.2.1, fun q hq j hj => h.2.2 q hq j (by omega)⟩
theorem QT.ky {pd : List Nat} {p c : Nat} {M M' : rp_M} (h : QT pd M) (hk : ky p c M M') : QT pd M' := ⟨⟨(hk.2.1 1 (by decide) (by decide)).trans h.1.1, fun i x hi => by rw [hk.1 132 (by decide) (by omega)]; exact h.1.2 i x hi⟩, h.2⟩
theorem ky.pos {M : rp_M} {c : Nat} {x : Int32} (p : Nat) : ky p c M (rp_s M 131 4 x) := ⟨fun k hk _ => rp_s_cell hk, fun i _ h2 => rp_s_ne (by omega), fun q hq j _ => rp_s_ne (by omega)⟩
theorem ky.it {M : rp_M} {c q : Nat} {x : Int32} (hq : q < 5) : ky q c M (rp_s M (134 + q) c x) := ⟨fun k _ h2 => rp_s_cell (by omega), fun i _ _ => rp_s_ne (by omega), fun q' hq' j hj => rp_s_ne (by omega)⟩
theorem px.it {M : rp_M} {pos c q : Nat} {x : Int32} (h : px pos c M) : px pos c (rp_s M (134 + q) c x) := ⟨by rw [rp_s_ne (by omega)]; exact h.1, by rw [rp_s_ne (by omega)]; exact h.2⟩
theorem px.up {M : rp_M} {pos c : Nat} (h : px pos c M) {x : Int32} (hx : x = nI (pos + 1)) : px (pos + 1) c (rp_s M 131 4 x) := ⟨by rw [rp_s_at, hx], by rw [rp_s_ne (by omega)]; exact h.2⟩
noncomputable def dgt (c : Nat) : Int32 := if pB (isD c) = true then nI (c - 48) else (-1)
theorem c1_digit (E : rp_E) {M : rp_M} {pd : List Nat} (hp : QT pd M) {pos : Nat} (hpos : pos ≤ 100) (h4 : M 131 4 = nI pos) : rp_C E YX1_digit [.ref 131] M (some (dgt (tx pd pos))) M := by
  refine rp_C_of (fun post hpost => vX1_digit E post M ?_)
  have hl := hp.2.1
  have ht := tx_le hp.2.2 pos
  have no : ¬ isD (tx pd pos) → dgt (tx pd pos) = (-1) := fun h => if_neg (fun q => h (pB_t.mp q))
  have ye : isD (tx pd pos) → dgt (tx pd pos) = nI (tx pd pos - 48) := fun h => if_pos (pB_t.mpr h)
  rw [hp.1.1, h4, nI_leI (by omega) (by omega)]
  refine ⟨fun h => ?_, fun h => ?_⟩
  · have e : tx pd pos = 0 := by unfold tx; rw [List.getD_eq_getElem?_getD, List.getElem?_eq_none (by omega)]; rfl
    rw [no (by rw [e]; intro z; have := z.1; omega)] at hpost
    exact hpost
  · have hlt : pos < pd.length := by omega
    have e : pd[pos]? = some (tx pd pos) := by
      unfold tx
      rw [List.getD_eq_getElem?_getD, List.getElem?_eq_getElem hlt]
      rfl
    rw [nI_clamp (by omega), hp.1.2 pos _ e, show (48 : Int32) = nI 48 by rfl, show (57 : Int32) = nI 57 by rfl, nI_ltI (by omega) (by omega), nI_leI (by omega) (by omega)]
    refine ⟨nI_inb (by omega) (by omega), fun q => ?_, fun q => ⟨fun z => ?_, fun z => ?_⟩⟩
    · rw [no (fun w => by have := w.1; omega)] at hpost
      exact hpost
    · rw [ye ⟨by omega, z⟩] at hpost
      rw [pk_sub (by omega)]
      exact hpost
    · rw [no (fun w => z w.2)] at hpost
      exact hpost
theorem d1_accept (E : rp_E) {M : rp_M} {pd : List Nat} (hp : QT pd M) {pos c ch : Nat} (hpos : pos ≤ 90) (hs : px pos c M) (hch : 0 < ch ∧ ch < 200) : rp_Run E YX1_accept [.ref 131, .int (nI ch)] M (rp_P (fun v M' => ky 5 c M M' ∧ ((tx pd pos = ch ∧ v = 1 ∧ px (pos + 1) c M') ∨ (tx pd pos ≠ ch ∧ v = 0 ∧ px pos c M')))) := by
  refine vX1_accept E _ M _ ?_
  have hl := hp.2.1
  have ht := tx_le hp.2.2 pos
  rw [hp.1.1, hs.1, nI_leI (by omega) (by omega)]
  refine ⟨fun h => ?_, fun h => ?_⟩
  · have e : tx pd pos = 0 := by unfold tx; rw [List.getD_eq_getElem?_getD, List.getElem?_eq_none (by omega)]; rfl
    exact ⟨_, rfl, ky.rf _ _ _, Or.inr ⟨by omega, rfl, hs⟩⟩
  · have hlt : pos < pd.length := by omega
    have e : pd[pos]? = some (tx pd pos) := by
      unfold tx
      rw [List.getD_eq_getElem?_getD, List.getElem?_eq_getElem hlt]
      rfl
    rw [nI_clamp (by omega), hp.1.2 pos _ e, nI_eq (by omega) (by omega), nI_1]
    refine ⟨nI_inb (by omega) (by omega), fun q M1 e1 => ⟨_, rfl, ?_, Or.inl ⟨q, rfl, ?_⟩⟩, fun q => ⟨_, rfl, ky.rf _ _ _, Or.inr ⟨q, rfl, hs⟩⟩⟩
    · rw [e1]
      exact ky.pos 5
    · rw [e1]
      exact hs.up rfl
def nupost (pd : List Nat) (q least pos c : Nat) (M : rp_M) (v : Int32) (M' : rp_M) : Prop := ky q c M M' ∧ ((∃ w p, rN (tx pd) least pos = .inr (w, p) ∧ v = 1 ∧ px p c M' ∧ M' (134 + q) c = nI w) ∨ (rN (tx pd) least pos = .inl pos ∧ v = 0 ∧ px pos c M'))
theorem dgt_neg {c : Nat} (hc : c ≤ 126) : dgt c < 0 ↔ ¬ isD c := by
  unfold dgt
  by_cases h : isD c
  · rw [if_pos (pB_t.mpr h)]
    exact ⟨fun q => absurd q (nI_pos (by omega)), fun q => absurd h q⟩
  · rw [if_neg (fun q => h (pB_t.mp q))]
    exact ⟨fun _ => h, fun _ => by decide⟩
theorem d1_num (E : rp_E) {M : rp_M} {pd : List Nat} (hp : QT pd M) {q least pos c : Nat} (hq : q < 5) (hl : least ≤ 1) (hpos : pos ≤ 82) (hc : c < 20) (hs : px pos c M) : rp_Run E YX1_readNumber [.ref 131, .int (nI q), .int (nI least)] M (rp_P (nupost pd q least pos c M)) := by
  have tl := tx_le hp.2.2
  have t0 := tl pos
  have t1 := tl (pos + 1)
  have t2 := tl (pos + 2)
  have yes : ∀ {x}, isD x → dgt x = nI (x - 48) := fun h => if_pos (pB_t.mpr h)
  have no : ∀ {x}, ¬ isD x → dgt x = (-1) := fun h => if_neg (fun q => h (pB_t.mp q))
  refine vX1_readNumber E _ M _ _ ⟨_, _, c1_digit E hp (by omega) hs.1, ?_⟩
  -- the end
  have fin : ∀ (M1 : rp_M) (w p : Nat), rN (tx pd) least pos = .inr (w, p) → ky q c M M1 → px p c M1 → vp_in (nI q) 5 ∧ (vp_in (M1 131 3) 20 ∧ (∀ M9, M9 = rp_s M1 (134 + Int32.toNatClampNeg (nI q)) (Int32.toNatClampNeg (M1 131 3)) (nI w) → rp_P (nupost pd q least pos c M) (some 1) M9)) := fun M1 w p h2 h3 h4 => by
    rw [h4.2, nI_clamp (by omega), nI_clamp (by omega)]
    refine ⟨nI_inb (by omega) (by omega), nI_inb (by omega) (by omega), fun M9 e9 => ⟨_, rfl, ?_, Or.inl ⟨w, p, h2, rfl, ?_, ?_⟩⟩⟩
    · rw [e9]
      exact h3.tr (Nat.le_refl _) (ky.it hq)
    · rw [e9]
      exact h4.it
    · rw [e9, rp_s_at]
  by_cases h0 : isD (tx pd pos)
  · rw [yes h0, nI_leI (by omega) (by omega)]
    unfold isD at h0
    refine ⟨fun h1 M1 e1 => ?_, fun h1 => ⟨_, rfl, ky.rf _ _ _, Or.inr ⟨?_, rfl, hs⟩⟩⟩
    · have h1 : 48 + least ≤ tx pd pos ∧ tx pd pos ≤ 57 := ⟨by omega, h0.2⟩
      have k1 : ky q c M M1 := by rw [e1]; exact ky.pos q
      have s1 : px (pos + 1) c M1 := by rw [e1]; exact hs.up (by rw [hs.1, nI_1])
      have p1 := hp.ky k1
      have r0 : ¬ (0 < tx pd pos - 48 ∧ isD (tx pd (pos + 1))) → rN (tx pd) least pos = .inr (tx pd pos - 48, pos + 1) := fun z => by
        unfold rN
        rw [if_pos (pB_t.mpr h1), if_neg (fun y => z (pB_t.mp y))]
      refine vX1_readNumber_25 E _ M1 _ _ _ ⟨fun z => absurd z (by decide), fun _ => ⟨fun z => ?_, fun z => ⟨_, _, c1_digit E p1 (by omega) s1.1, ?_⟩⟩⟩
      · rw [show (0 : Int32) = nI 0 by rfl, nI_leI (by omega) (by omega)] at z
        exact fin M1 _ _ (r0 (fun y => by omega)) k1 s1
      · rw [show (0 : Int32) = nI 0 by rfl, nI_leI (by omega) (by omega)] at z
        rw [dgt_neg t1]
        refine ⟨fun y => fin M1 _ _ (r0 (fun x => y x.2)) k1 s1, fun y => ?_⟩
        have y : isD (tx pd (pos + 1)) := Classical.byContradiction y
        refine ⟨_, _, c1_digit E p1 (by omega) s1.1, fun M2 e2 => ?_⟩
        have k2 : ky q c M M2 := k1.tr (Nat.le_refl _) (by rw [e2]; exact ky.pos q)
        have s2 : px (pos + 2) c M2 := by rw [e2]; exact s1.up (by rw [s1.1, nI_1])
        have p2 := hp.ky k2
        have ev : nI (tx pd pos - 48) * 10 + dgt (tx pd (pos + 1)) = nI (10 * (tx pd pos - 48) + (tx pd (pos + 1) - 48)) := by
          rw [yes y, show (10 : Int32) = nI 10 by rfl, pk_mul, nI_add, Nat.mul_comm]
        rw [ev]
        have y' := y
        unfold isD at y'
        have r1 : ¬ isD (tx pd (pos + 2)) → rN (tx pd) least pos = .inr (10 * (tx pd pos - 48) + (tx pd (pos + 1) - 48), pos + 2) := fun z2 => by
          unfold rN
          rw [if_pos (pB_t.mpr h1), if_pos (pB_t.mpr ⟨by omega, y⟩), if_neg (fun x => z2 (pB_t.mp x))]
        refine vX1_readNumber_25 E _ M2 _ _ _ ⟨fun z => absurd z (by decide), fun _ => ⟨fun z2 => ?_, fun z2 => ⟨_, _, c1_digit E p2 (by omega) s2.1, ?_⟩⟩⟩
        · rw [show (0 : Int32) = nI 0 by rfl, nI_leI (by omega) (by omega)] at z2
          omega
        · rw [dgt_neg t2]
          refine ⟨fun x => fin M2 _ _ (r1 x) k2 s2, fun x => ?_⟩
          have x : isD (tx pd (pos + 2)) := Classical.byContradiction x
          refine ⟨_, _, c1_digit E p2 (by omega) s2.1, fun M3 e3 => ?_⟩
          have k3 : ky q c M M3 := k2.tr (Nat.le_refl _) (by rw [e3]; exact ky.pos q)
          have s3 : px (pos + 3) c M3 := by rw [e3]; exact s2.up (by rw [s2.1, nI_1])
          have ev2 : nI (10 * (tx pd pos - 48) + (tx pd (pos + 1) - 48)) * 10 + dgt (tx pd (pos + 2)) = nI (10 * (10 * (tx pd pos - 48) + (tx pd (pos + 1) - 48)) + (tx pd (pos + 2) - 48)) := by
            rw [yes x, show (10 : Int32) = nI 10 by rfl, pk_mul, nI_add, Nat.mul_comm]
          rw [ev2]
          refine vX1_readNumber_25 E _ M3 _ _ _ ⟨fun _ => fin M3 _ _ ?_ k3 s3, fun z => absurd (by decide) z⟩
          unfold rN
          rw [if_pos (pB_t.mpr h1), if_pos (pB_t.mpr ⟨by omega, y⟩), if_pos (pB_t.mpr x)]
    · unfold rN
      rw [if_neg (fun z => by have := pB_t.mp z; omega)]
  · rw [no h0]
    refine ⟨fun h1 => ?_, fun h1 => ⟨_, rfl, ky.rf _ _ _, Or.inr ⟨?_, rfl, hs⟩⟩⟩
    · rw [Int32.le_d, nI_toInt (by omega), show ((-1 : Int32)).toInt = -1 by decide] at h1
      omega
    · unfold rN
      rw [if_neg (fun z => h0 (by have := pB_t.mp z; exact ⟨by omega, this.2⟩))]
def depost (pd : List Nat) (q ch pos c : Nat) (M : rp_M) (v : Int32) (M' : rp_M) : Prop := ky q c M M' ∧ ((∃ w p, rO (tx pd) ch pos = .inr (w, p) ∧ v = 1 ∧ px p c M' ∧ M' (134 + q) c = nI w) ∨ (∃ e, rO (tx pd) ch pos = .inl e ∧ v = 0 ∧ px e c M'))
theorem d1_dev (E : rp_E) {M : rp_M} {pd : List Nat} (hp : QT pd M) {q ch pos c : Nat} (hq : q < 5) (hch : 0 < ch ∧ ch < 200) (hpos : pos ≤ 80) (hc : c < 20) (hs : px pos c M) : rp_Run E YX1_readDeviation [.ref 131, .int (nI ch), .int (nI q)] M (rp_P (depost pd q ch pos c M)) := by
  have hl := hp.2.1
  refine vX1_readDeviation E _ M _ _ ⟨_, d1_accept E hp (by omega) hs hch, fun v M1 h1 => ?_⟩
  obtain ⟨k1, h1⟩ := h1
  rcases h1 with ⟨h2, h3, h4⟩ | ⟨h2, h3, h4⟩
  · refine ⟨fun z => absurd (h3.symm.trans z) (by decide), fun _ => ?_⟩
    have hlt := tx_ne h2 (by omega)
    have r3 : rO (tx pd) ch pos = rN (tx pd) 0 (pos + 1) := by
      unfold rO
      rw [if_pos h2]
    refine ⟨_, d1_num E (hp.ky k1) (least := 0) hq (by omega) (by omega) hc h4, fun v M2 h5 => ?_⟩
    obtain ⟨k2, h5⟩ := h5
    rcases h5 with ⟨w, p, h6, h7, h8, h9⟩ | ⟨h6, h7, h8⟩
    · rw [h7]
      exact ⟨rfl, _, rfl, (k1.le (by omega)).tr (Nat.le_refl _) k2, Or.inl ⟨w, p, r3.trans h6, rfl, h8, h9⟩⟩
    · rw [h7]
      exact ⟨rfl, _, rfl, (k1.le (by omega)).tr (Nat.le_refl _) k2, Or.inr ⟨_, r3.trans h6, rfl, h8⟩⟩
  · refine ⟨fun _ => ?_, fun z => absurd h3 z⟩
    rw [h4.2, nI_clamp (by omega), nI_clamp (by omega)]
    refine ⟨nI_inb (by omega) (by omega), nI_inb (by omega) (by omega), fun M2 e2 => ⟨_, rfl, ?_, Or.inl ⟨0, pos, ?_, rfl, ?_, ?_⟩⟩⟩
    · rw [e2]
      exact (k1.le (by omega)).tr (Nat.le_refl _) (ky.it hq)
    · unfold rO
      rw [if_neg h2]
    · rw [e2]
      exact h4.it
    · rw [e2, rp_s_at]
      rfl
def grpost (pd : List Nat) (pos c : Nat) (M : rp_M) (v : Int32) (M' : rp_M) : Prop := ky 4 c M M' ∧ ((∃ w p, rGr (tx pd) pos = .inr (w, p) ∧ v = 1 ∧ px p c M' ∧ M' 138 c = gX w) ∨ (∃ e, rGr (tx pd) pos = .inl e ∧ v = 0 ∧ px e c M'))
theorem d1_group (E : rp_E) {M : rp_M} {pd : List Nat} (hp : QT pd M) {pos c : Nat} (hpos : pos ≤ 80) (hc : c < 20) (hs : px pos c M) : rp_Run E YX1_readGroup [.ref 131] M (rp_P (grpost pd pos c M)) := by
  have hl := hp.2.1
  refine vX1_readGroup E _ M ?_
  rw [hs.2, nI_clamp (by omega)]
  refine ⟨nI_inb (by omega) (by omega), fun M1 e1 => ?_⟩
  have k1 : ky 4 c M M1 := by rw [e1]; exact ky.it (q := 4) (by omega)
  have s1 : px pos c M1 := by rw [e1]; exact hs.it (q := 4)
  have v1 : M1 138 c = (-1) := by rw [e1, rp_s_at]
  refine ⟨_, d1_accept E (hp.ky k1) (ch := 64) (by omega) s1 (by omega), fun v M2 h2 => ?_⟩
  obtain ⟨k2, h2⟩ := h2
  have k12 : ky 4 c M M2 := k1.tr (by omega) k2
  rcases h2 with ⟨h3, h4, h5⟩ | ⟨h3, h4, h5⟩
  · refine ⟨fun _ => ?_, fun z => absurd (h4.symm.trans z) (by decide)⟩
    have hlt := tx_ne h3 (by decide)
    have t1 := tx_le hp.2.2 (pos + 1)
    refine ⟨_, _, c1_digit E (hp.ky k12) (by omega) h5.1, ?_⟩
    have bad : ¬ (48 ≤ tx pd (pos + 1) ∧ tx pd (pos + 1) ≤ 51) → rp_P (grpost pd pos c M) (some 0) M2 := fun z => ⟨_, rfl, k12, Or.inr ⟨pos + 1, by unfold rGr; rw [if_pos h3, if_neg (fun y => z (pB_t.mp y))], rfl, h5⟩⟩
    rw [dgt_neg t1]
    refine ⟨fun z => bad (fun y => z ⟨y.1, by omega⟩), fun z => ?_⟩
    have z : isD (tx pd (pos + 1)) := Classical.byContradiction z
    have ed : dgt (tx pd (pos + 1)) = nI (tx pd (pos + 1) - 48) := if_pos (pB_t.mpr z)
    unfold isD at z
    rw [ed, show (3 : Int32) = nI 3 by rfl, nI_leI (by omega) (by omega), h5.2, nI_clamp (by omega)]
    refine ⟨fun y => ⟨nI_inb (by omega) (by omega), fun M3 e3 M4 e4 => ?_⟩, fun y => bad (fun x => by omega)⟩
    have k3 : ky 4 c M M3 := k12.tr (Nat.le_refl _) (by rw [e3]; exact ky.it (q := 4) (by omega))
    have s3 : px (pos + 1) c M3 := by rw [e3]; exact h5.it (q := 4)
    refine ⟨_, rfl, k3.tr (Nat.le_refl _) (by rw [e4]; exact ky.pos 4), Or.inl ⟨tx pd (pos + 1) - 48, pos + 2, ?_, rfl, ?_, ?_⟩⟩
    · unfold rGr
      rw [if_pos h3, if_pos (pB_t.mpr ⟨by omega, by omega⟩)]
    · rw [e4]
      exact s3.up (by rw [s3.1, nI_1])
    · rw [e4, rp_s_ne (by omega), e3, rp_s_at]
      unfold gX
      rw [if_pos (by omega)]
  · refine ⟨fun z => absurd h4 z, fun _ => ⟨_, rfl, k12, Or.inl ⟨4, pos, ?_, rfl, h5, ?_⟩⟩⟩
    · unfold rGr
      rw [if_neg h3]
    · rw [k2.2.2 4 (by omega) c (by omega)]
      exact v1
def xit (M : rp_M) (c : Nat) (r : rs_I) : Prop := M 134 c = nI r.1 ∧ M 135 c = nI r.2.1 ∧ M 136 c = nI r.2.2.1 ∧ M 137 c = nI r.2.2.2.1 ∧ M 138 c = gX r.2.2.2.2
def itpost (pd : List Nat) (pos c : Nat) (M : rp_M) (v : Int32) (M' : rp_M) : Prop := ky 0 c M M' ∧ ((∃ r p, rI (tx pd) pos = .inr (r, p) ∧ v = 1 ∧ px p c M' ∧ xit M' c r) ∨ (∃ e, rI (tx pd) pos = .inl e ∧ v = 0 ∧ px e c M'))
theorem rO_len {pd : List Nat} {ch pos v p : Nat} (hpos : pos ≤ pd.length) (h : rO (tx pd) ch pos = .inr (v, p)) : p ≤ pd.length := by
  unfold rO at h
  split at h
  · exact rN_len h
  · cases h
    exact hpos
theorem d1_item (E : rp_E) {M : rp_M} {pd : List Nat} (hp : QT pd M) {pos c : Nat} (hpos : pos ≤ 80) (hc : c < 20) (hs : px pos c M) : rp_Run E YX1_readItem [.ref 131] M (rp_P (itpost pd pos c M)) := by
  have hl := hp.2.1
  have bad : ∀ (M' : rp_M) (e : Nat), ky 0 c M M' → rI (tx pd) pos = .inl e → px e c M' → rp_P (itpost pd pos c M) (some 0) M' := fun M' e h1 h2 h3 => ⟨_, rfl, h1, Or.inr ⟨e, h2, rfl, h3⟩⟩
  refine vX1_readItem E _ M ⟨_, d1_num E hp (q := 0) (least := 1) (by omega) (by omega) (by omega) hc hs, fun v1 M1 h1 => ?_⟩
  obtain ⟨k1, h1⟩ := h1
  rcases h1 with ⟨w1, p1, a1, b1, c1, d1⟩ | ⟨a1, b1, c1⟩
  · refine ⟨fun z => absurd (b1.symm.trans z) (by decide), fun _ => ?_⟩
    have l1 := rN_len a1
    refine ⟨_, d1_accept E (hp.ky k1) (ch := 47) (by omega) c1 (by omega), fun v2 M2 h2 => ?_⟩
    obtain ⟨k2, h2⟩ := h2
    have K2 : ky 0 c M M2 := k1.tr (by omega) k2
    rcases h2 with ⟨a2, b2, c2⟩ | ⟨a2, b2, c2⟩
    · refine ⟨fun z => absurd (b2.symm.trans z) (by decide), fun _ => ?_⟩
      have l2 := tx_ne a2 (by decide)
      refine ⟨_, d1_num E (hp.ky K2) (q := 1) (least := 1) (by omega) (by omega) (by omega) hc c2, fun v3 M3 h3 => ?_⟩
      obtain ⟨k3, h3⟩ := h3
      have K3 : ky 0 c M M3 := K2.tr (by omega) k3
      rcases h3 with ⟨w3, p3, a3, b3, c3, d3⟩ | ⟨a3, b3, c3⟩
      · refine ⟨fun z => absurd (b3.symm.trans z) (by decide), fun _ => ?_⟩
        have l3 := rN_len a3
        refine ⟨_, d1_dev E (hp.ky K3) (q := 2) (ch := 43) (by omega) (by omega) (by omega) hc c3, fun v4 M4 h4 => ?_⟩
        obtain ⟨k4, h4⟩ := h4
        have K4 : ky 0 c M M4 := K3.tr (by omega) k4
        rcases h4 with ⟨w4, p4, a4, b4, c4, d4⟩ | ⟨e4, a4, b4, c4⟩
        · refine ⟨fun z => absurd (b4.symm.trans z) (by decide), fun _ => ?_⟩
          have l4 := rO_len l3 a4
          refine ⟨_, d1_dev E (hp.ky K4) (q := 3) (ch := 45) (by omega) (by omega) (by omega) hc c4, fun v5 M5 h5 => ?_⟩
          obtain ⟨k5, h5⟩ := h5
          have K5 : ky 0 c M M5 := K4.tr (by omega) k5
          rcases h5 with ⟨w5, p5, a5, b5, c5, d5⟩ | ⟨e5, a5, b5, c5⟩
          · refine ⟨fun z => absurd (b5.symm.trans z) (by decide), fun _ => ?_⟩
            have l5 := rO_len l4 a5
            refine ⟨_, d1_group E (hp.ky K5) (by omega) hc c5, fun v6 M6 h6 => ?_⟩
            obtain ⟨k6, h6⟩ := h6
            have K6 : ky 0 c M M6 := K5.tr (by omega) k6
            rcases h6 with ⟨w6, p6, a6, b6, c6, d6⟩ | ⟨e6, a6, b6, c6⟩
            · refine ⟨fun z => absurd (b6.symm.trans z) (by decide), fun _ => ⟨_, rfl, K6, Or.inl ⟨(w1, w3, w4, w5, w6), p6, ?_, rfl, c6, ?_, ?_, ?_, ?_, d6⟩⟩⟩
              · unfold rI
                rw [a1]
                show (if tx pd p1 = 47 then _ else _) = _
                rw [if_pos a2, a3]
                show sbind (rO (tx pd) 43 p3) _ = _
                rw [a4]
                show sbind (rO (tx pd) 45 p4) _ = _
                rw [a5]
                show sbind (rGr (tx pd) p5) _ = _
                rw [a6]
                rfl
              · rw [show (134 : Nat) = 134 + 0 by rfl, k6.2.2 0 (by omega) c (by omega), k5.2.2 0 (by omega) c (by omega), k4.2.2 0 (by omega) c (by omega), k3.2.2 0 (by omega) c (by omega), k2.2.2 0 (by omega) c (by omega)]
                exact d1
              · rw [show (135 : Nat) = 134 + 1 by rfl, k6.2.2 1 (by omega) c (by omega), k5.2.2 1 (by omega) c (by omega), k4.2.2 1 (by omega) c (by omega)]
                exact d3
              · rw [show (136 : Nat) = 134 + 2 by rfl, k6.2.2 2 (by omega) c (by omega), k5.2.2 2 (by omega) c (by omega)]
                exact d4
              · rw [show (137 : Nat) = 134 + 3 by rfl, k6.2.2 3 (by omega) c (by omega)]
                exact d5
            · refine ⟨fun _ => bad _ e6 K6 ?_ c6, fun z => absurd b6 z⟩
              unfold rI
              rw [a1]
              show (if tx pd p1 = 47 then _ else _) = _
              rw [if_pos a2, a3]
              show sbind (rO (tx pd) 43 p3) _ = _
              rw [a4]
              show sbind (rO (tx pd) 45 p4) _ = _
              rw [a5]
              show sbind (rGr (tx pd) p5) _ = _
              rw [a6]
              rfl
          · refine ⟨fun _ => bad _ e5 K5 ?_ c5, fun z => absurd b5 z⟩
            unfold rI
            rw [a1]
            show (if tx pd p1 = 47 then _ else _) = _
            rw [if_pos a2, a3]
            show sbind (rO (tx pd) 43 p3) _ = _
            rw [a4]
            show sbind (rO (tx pd) 45 p4) _ = _
            rw [a5]
            rfl
        · refine ⟨fun _ => bad _ e4 K4 ?_ c4, fun z => absurd b4 z⟩
          unfold rI
          rw [a1]
          show (if tx pd p1 = 47 then _ else _) = _
          rw [if_pos a2, a3]
          show sbind (rO (tx pd) 43 p3) _ = _
          rw [a4]
          rfl
      · refine ⟨fun _ => bad _ _ K3 ?_ c3, fun z => absurd b3 z⟩
        unfold rI
        rw [a1]
        show (if tx pd p1 = 47 then _ else _) = _
        rw [if_pos a2, a3]
        rfl
    · refine ⟨fun _ => bad _ _ K2 ?_ c2, fun z => absurd b2 z⟩
      unfold rI
      rw [a1]
      show (if tx pd p1 = 47 then _ else _) = _
      rw [if_neg a2]
  · refine ⟨fun _ => bad _ _ k1 ?_ c1, fun z => absurd b1 z⟩
    unfold rI
    rw [a1]
    rfl
