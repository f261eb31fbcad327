/-! THE REFERENCE, 11: texts -/
def PT (pd : List Nat) (M : rp_M) : Prop := M 155 4 = nI pd.length ∧ (∀ (i c : Nat), pd[i]? = some c → M 158 i = nI c) ∧ pd.length ≤ 80 ∧ ∀ c ∈ pd, c ≤ 126
def ps (pos : Nat) (wr : Bool) (M : rp_M) : Prop := M 155 5 = nI pos ∧ M 155 6 = bI wr
def kq (M M' : rp_M) : Prop := (∀ k, k ≠ 155 → M' k = M k) ∧ ∀ i, i ≠ 5 → i ≠ 6 → M' 155 i = M 155 i
theorem kq.rf (M : rp_M) : kq M M := ⟨fun _ _ => rfl, fun _ _ _ => rfl⟩
theorem kq.tr {M M' M'' : rp_M} (h : kq M M') (h' : kq M' M'') : kq M M'' := ⟨fun k hk => (h'.1 k hk).trans (h.1 k hk), fun i h1 h2 => (h'.2 i h1 h2).trans (h.2 i h1 h2)⟩
theorem PT.kq {pd : List Nat} {M M' : rp_M} (h : PT pd M) (hk : kq M M') : PT pd M' := ⟨(hk.2 4 (by decide) (by decide)).trans h.1, fun i c hi => by rw [hk.1 158 (by decide)]; exact h.2.1 i c hi, h.2.2⟩
theorem tx_le {pd : List Nat} (h : ∀ c ∈ pd, c ≤ 126) (i : Nat) : tx pd i ≤ 126 := by
  unfold tx
  rw [List.getD_eq_getElem?_getD]
  cases q : pd[i]? with
  | none => exact Nat.zero_le _
  | some c => exact h c (List.mem_of_getElem? q)
theorem c_next (E : rp_E) {M : rp_M} {pd : List Nat} (hp : PT pd M) {pos : Nat} (hpos : pos ≤ 100) (h5 : M 155 5 = nI pos) : rp_C E YX6_next [.ref 155] M (some (nI (tx pd pos))) M := by
  refine rp_C_of (fun post hpost => vX6_next E post M ?_)
  have hl := hp.2.2.1
  rw [hp.1, h5, nI_leI (by omega) (by omega)]
  refine ⟨fun h => ?_, fun h => ?_⟩
  · have e : tx pd pos = 0 := by unfold tx; rw [List.getD_eq_getElem?_getD, List.getElem?_eq_none (by omega)]; rfl
    rw [e] at hpost
    exact hpost
  · have hlt : pos < pd.length := by omega
    have e : pd[pos]? = some (tx pd pos) := by
      unfold tx
      rw [List.getD_eq_getElem?_getD, List.getElem?_eq_getElem hlt]
      rfl
    rw [nI_clamp (by omega), hp.2.1 pos _ e]
    exact ⟨nI_inb (by omega) (by omega), hpost⟩
theorem d_takes (E : rp_E) {M : rp_M} {pd : List Nat} (hp : PT pd M) {pos ch : Nat} (hpos : pos ≤ 90) (hs : ps pos false M) (hch : ch < 200) : rp_Run E YX6_takes [.ref 155, .int (nI ch)] M (rp_P (fun v M' => kq M M' ∧ ((tx pd pos = ch ∧ v = 1 ∧ ps (pos + 1) false M') ∨ (tx pd pos ≠ ch ∧ v = 0 ∧ ps pos false M')))) := by
  refine vX6_takes E _ M _ ?_
  rw [hs.2]
  refine ⟨fun h => absurd rfl h, fun _ => ⟨_, _, c_next E hp (by omega) hs.1, ?_⟩⟩
  have ht := tx_le hp.2.2.2 pos
  rw [nI_eq (by omega) (by omega)]
  refine ⟨fun h M1 e1 => ⟨_, rfl, ⟨fun k hk => by rw [e1, rp_s_cell hk], fun i h1 h2 => by rw [e1, rp_s_ne (by omega)]⟩, Or.inl ⟨h, rfl, ?_, ?_⟩⟩, fun h => ⟨_, rfl, kq.rf M, Or.inr ⟨h, rfl, hs⟩⟩⟩
  · rw [e1, rp_s_at, hs.1, nI_1]
  · rw [e1, rp_s_ne (by decide)]
    exact hs.2
theorem d_takesW (E : rp_E) {M : rp_M} {pos : Nat} (hs : ps pos true M) (x : Int32) : rp_Run E YX6_takes [.ref 155, .int x] M (rp_P (fun v M' => v = 0 ∧ M' = M)) := by
  refine vX6_takes E _ M _ ?_
  rw [hs.2]
  exact ⟨fun _ => ⟨_, rfl, rfl, rfl⟩, fun h => absurd h (by decide)⟩
theorem d_numW (E : rp_E) {M : rp_M} {pos : Nat} (hs : ps pos true M) (x : Int32) : rp_Run E YX6_readNumber [.ref 155, .int x] M (rp_P (fun v M' => kq M M' ∧ v = 0 ∧ ps pos true M')) := by
  refine vX6_readNumber E _ M _ ?_
  rw [hs.2]
  refine ⟨fun _ M1 e1 => ⟨_, rfl, ⟨fun k hk => by rw [e1, rp_s_cell hk], fun i h1 h2 => by rw [e1, rp_s_ne (by omega)]⟩, rfl, ?_, ?_⟩, fun h => absurd h (by decide)⟩
  · rw [e1, rp_s_ne (by decide)]
    exact hs.1
  · rw [e1, rp_s_at]
    rfl
def numPost (pd : List Nat) (least pos : Nat) (M : rp_M) (r : Int32) (M' : rp_M) : Prop := kq M M' ∧ ((∃ v p, rN (tx pd) least pos = .inr (v, p) ∧ r = nI v ∧ ps p false M') ∨ (rN (tx pd) least pos = .inl pos ∧ r = 0 ∧ ps pos true M'))
theorem dig_val {v c : Nat} (hc : isD c) (hv : v ≤ 99) : (10 : Int32) * nI v + nI c - 48 = nI (10 * v + (c - 48)) := by
  unfold isD at hc
  rw [show (10 : Int32) = nI 10 by rfl, show (48 : Int32) = nI 48 by rfl, pk_mul, nI_add, pk_sub (by omega)]
  congr 1
  omega
theorem in_dig {c lo hi : Nat} (hc : c ≤ 126) (h1 : lo < 200) (h2 : hi < 200) : decide ((nI lo).toInt ≤ (nI c).toInt ∧ (nI c).toInt ≤ (nI hi).toInt) = decide (lo ≤ c ∧ c ≤ hi) := by
  rw [nI_toInt (by omega), nI_toInt (by omega), nI_toInt (by omega)]
  congr 1
  exact propext ⟨fun h => by omega, fun h => by omega⟩
theorem d_num (E : rp_E) {M : rp_M} {pd : List Nat} (hp : PT pd M) {least pos : Nat} (hl : least ≤ 1) (hpos : pos ≤ 82) (hs : ps pos false M) : rp_Run E YX6_readNumber [.ref 155, .int (nI least)] M (rp_P (numPost pd least pos M)) := by
  have tl := tx_le hp.2.2.2
  refine vX6_readNumber E _ M _ ?_
  rw [hs.2]
  refine ⟨fun h => absurd rfl h, fun _ => ⟨_, _, c_next E hp (by omega) hs.1, _, _, c_in E M _ _ _, ?_⟩⟩
  have t0 := tl pos
  rw [show (48 : Int32) + nI least = nI (48 + least) from nI_add 48 least, show (57 : Int32) = nI 57 by rfl, in_dig t0 (by omega) (by omega), bI_n, bI_0, decide_eq_true_eq, decide_eq_false_iff_not]
  refine ⟨fun h1 => ⟨_, _, c_next E hp (by omega) hs.1, fun M1 e1 => ?_⟩, fun h1 M1 e1 => ?_⟩
  · have k1 : kq M M1 := ⟨fun k hk => by rw [e1, rp_s_cell hk], fun i h1 h2 => by rw [e1, rp_s_ne (by omega)]⟩
    have s1 : ps (pos + 1) false M1 := ⟨by rw [e1, rp_s_at, hs.1, nI_1], by rw [e1, rp_s_ne (by decide)]; exact hs.2⟩
    have p1 := hp.kq k1
    rw [show nI (tx pd pos) - (48 : Int32) = nI (tx pd pos - 48) from pk_sub (show 48 ≤ tx pd pos by omega)]
    -- the end
    have fin : ∀ (M2 : rp_M) (v p : Nat), rN (tx pd) least pos = .inr (v, p) → kq M M2 → ps p false M2 → rp_P (numPost pd least pos M) (some (nI v)) M2 := fun M2 v p h2 h3 h4 => ⟨_, rfl, h3, Or.inl ⟨v, p, h2, rfl, h4⟩⟩
    have r0 : ¬ (0 < tx pd pos - 48 ∧ isD (tx pd (pos + 1))) → rN (tx pd) least pos = .inr (tx pd pos - 48, pos + 1) := fun q => by
      unfold rN
      rw [if_pos (pB_t.mpr h1), if_neg (fun z => q (pB_t.mp z))]
    refine vX6_readNumber_50 E _ M1 _ _ ⟨fun q => absurd q (by decide), fun _ => ⟨fun q => ?_, fun q => ⟨_, _, c_next E p1 (by omega) s1.1, _, _, c_in E M1 _ _ _, ?_⟩⟩⟩
    · rw [show (0 : Int32) = nI 0 by rfl, nI_leI (by omega) (by omega)] at q
      exact fin M1 _ _ (r0 (fun z => by omega)) k1 s1
    have t1 := tl (pos + 1)
    rw [show (0 : Int32) = nI 0 by rfl, nI_leI (by omega) (by omega)] at q
    rw [show (48 : Int32) = nI 48 by rfl, show (57 : Int32) = nI 57 by rfl, in_dig t1 (by omega) (by omega), bI_n, bI_0, decide_eq_true_eq, decide_eq_false_iff_not]
    refine ⟨fun h2 => fin M1 _ _ (r0 (fun z => h2 z.2)) k1 s1, fun h2 => ⟨_, _, c_next E p1 (by omega) s1.1, fun M2 e2 => ?_⟩⟩
    have k2 : kq M M2 := kq.tr k1 ⟨fun k hk => by rw [e2, rp_s_cell hk], fun i h1 h2 => by rw [e2, rp_s_ne (by omega)]⟩
    have s2 : ps (pos + 2) false M2 := ⟨by rw [e2, rp_s_at, s1.1, nI_1], by rw [e2, rp_s_ne (by decide)]; exact s1.2⟩
    have p2 := hp.kq k2
    rw [show nI 48 = (48 : Int32) by rfl, dig_val h2 (by omega)]
    have r1 : ¬ isD (tx pd (pos + 2)) → rN (tx pd) least pos = .inr (10 * (tx pd pos - 48) + (tx pd (pos + 1) - 48), pos + 2) := fun z => by
      unfold rN
      rw [if_pos (pB_t.mpr h1), if_pos (pB_t.mpr ⟨by omega, h2⟩), if_neg (fun y => z (pB_t.mp y))]
    refine vX6_readNumber_50 E _ M2 _ _ ⟨fun q => absurd q (by decide), fun _ => ⟨fun q2 => ?_, fun q2 => ⟨_, _, c_next E p2 (by omega) s2.1, _, _, c_in E M2 _ _ _, ?_⟩⟩⟩
    · rw [show (0 : Int32) = nI 0 by rfl, nI_leI (by omega) (by omega)] at q2
      omega
    have t2 := tl (pos + 2)
    rw [show (48 : Int32) = nI 48 by rfl, show (57 : Int32) = nI 57 by rfl, in_dig t2 (by omega) (by omega), bI_n, bI_0, decide_eq_true_eq, decide_eq_false_iff_not]
    refine ⟨fun h3 => fin M2 _ _ (r1 h3) k2 s2, fun h3 => ⟨_, _, c_next E p2 (by omega) s2.1, fun M3 e3 => ?_⟩⟩
    have k3 : kq M M3 := kq.tr k2 ⟨fun k hk => by rw [e3, rp_s_cell hk], fun i h1 h2 => by rw [e3, rp_s_ne (by omega)]⟩
    have s3 : ps (pos + 3) false M3 := ⟨by rw [e3, rp_s_at, s2.1, nI_1], by rw [e3, rp_s_ne (by decide)]; exact s2.2⟩
    rw [show nI 48 = (48 : Int32) by rfl, dig_val h3 (by omega)]
    refine vX6_readNumber_50 E _ M3 _ _ ⟨fun _ => fin M3 _ _ ?_ k3 s3, fun q => absurd (by decide) q⟩
    unfold rN
    rw [if_pos (pB_t.mpr h1), if_pos (pB_t.mpr ⟨by omega, h2⟩), if_pos (pB_t.mpr (show isD (tx pd (pos + 2)) from h3))]
  · refine ⟨_, rfl, ⟨fun k hk => by rw [e1, rp_s_cell hk], fun i h1 h2 => by rw [e1, rp_s_ne (by omega)]⟩, Or.inr ⟨?_, rfl, ?_, ?_⟩⟩
    · unfold rN
      rw [if_neg (fun z => h1 (pB_t.mp z))]
    · rw [e1, rp_s_ne (by decide)]
      exact hs.1
    · rw [e1, rp_s_at]
      rfl
