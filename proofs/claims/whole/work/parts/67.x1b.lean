/-! THE CLASS, 8: fault and load -/
def rdX (L : List rs_I) (M : rp_M) : Prop := ∀ (j : Nat) (r : rs_I), L[j]? = some r → xit M j r
def kz (M M' : rp_M) : Prop := (∀ k, k ≠ 131 → (k < 134 ∨ 138 < k) → M' k = M k) ∧ ∀ i, i ≠ 3 → i ≠ 4 → M' 131 i = M 131 i
theorem ky.kz {p c : Nat} {M M' : rp_M} (h : ky p c M M') : kz M M' := ⟨h.1, h.2.1⟩
theorem kz.rf (M : rp_M) : kz M M := ⟨fun _ _ _ => rfl, fun _ _ _ => rfl⟩
theorem kz.tr {M M' M'' : rp_M} (h : kz M M') (h' : kz M' M'') : kz M M'' := ⟨fun k h1 h2 => (h'.1 k h1 h2).trans (h.1 k h1 h2), fun i h1 h2 => (h'.2 i h1 h2).trans (h.2 i h1 h2)⟩
theorem QT.kz {pd : List Nat} {M M' : rp_M} (h : QT pd M) (hk : kz M M') : QT pd M' := ⟨⟨(hk.2 1 (by decide) (by decide)).trans h.1.1, fun i x hi => by rw [hk.1 132 (by decide) (by omega)]; exact h.1.2 i x hi⟩, h.2⟩
def fxX (r : Nat ⊕ List rs_I) (v : Int32) (M' : rp_M) : Prop := match r with
  | .inl e => v = 0 ∧ M' 131 4 = nI e
  | .inr L => v = 1 ∧ M' 131 3 = nI L.length ∧ rdX L M'
theorem xit.keep {M M' : rp_M} {j : Nat} {r : rs_I} (h : xit M j r) (hk : ∀ q, q < 5 → M' (134 + q) j = M (134 + q) j) : xit M' j r := ⟨(hk 0 (by omega)).trans h.1, (hk 1 (by omega)).trans h.2.1, (hk 2 (by omega)).trans h.2.2.1, (hk 3 (by omega)).trans h.2.2.2.1, (hk 4 (by omega)).trans h.2.2.2.2⟩
theorem read12 (E : rp_E) {pd : List Nat} {M0 : rp_M} (post : Option Int32 → rp_M → Prop) : ∀ (f : Nat) (M : rp_M) (acc : List rs_I) (p : Nat), QT pd M → kz M0 M → p ≤ pd.length → acc.length + f = 20 → px p acc.length M → rdX acc M → (∀ v M', kz M0 M' → fxX (rP (tx pd) pd.length f p acc) v M' → post (some v) M') → rp_G E YX1_read post 12 [.ref 131, .int (nI acc.length)] [] M := by
  intro f
  induction f with
  | zero =>
    intro M acc p hp hk hpl hf hs hr hpost
    refine vX1_read_12 E _ M _ ⟨fun _ => hpost _ _ hk ⟨rfl, hs.1⟩, fun h => absurd (show (20 : Int32) ≤ nI acc.length by rw [show acc.length = 20 by omega]; decide) h⟩
  | succ f ih =>
    intro M acc p hp hk hpl hf hs hr hpost
    have hl := hp.2.1
    refine vX1_read_12 E _ M _ ?_
    rw [show (20 : Int32) = nI 20 by rfl, nI_leI (by omega) (by omega)]
    refine ⟨fun h => absurd h (by omega), fun _ => ⟨_, d1_item E hp (by omega) (by omega) hs, fun v1 M1 h1 => ?_⟩⟩
    obtain ⟨k1, h1⟩ := h1
    have K1 : kz M0 M1 := hk.tr k1.kz
    unfold rP at hpost
    rcases h1 with ⟨r, q, a1, b1, c1, d1⟩ | ⟨e, a1, b1, c1⟩
    · refine ⟨fun _ M2 e2 => ?_, fun z => absurd (b1.symm.trans z) (by decide)⟩
      rw [a1] at hpost
      have hpost : ∀ v M', kz M0 M' → fxX (if q = pd.length then (Sum.inr (acc ++ [r]) : Nat ⊕ List rs_I) else if tx pd q = 59 then rP (tx pd) pd.length f (q + 1) (acc ++ [r]) else Sum.inl q) v M' → post (some v) M' := hpost
      have el : (acc ++ [r]).length = acc.length + 1 := by rw [List.length_append, List.length_singleton]
      have hql := rI_len a1
      have K2 : kz M0 M2 := K1.tr (by rw [e2]; exact ⟨fun k h1 _ => rp_s_cell h1, fun i h1 _ => rp_s_ne (by omega)⟩)
      have s2 : px q (acc ++ [r]).length M2 := ⟨by rw [e2, rp_s_ne (by omega)]; exact c1.1, by rw [e2, rp_s_at, c1.2, nI_1, el]⟩
      have p2 : QT pd M2 := (hp.kz k1.kz).kz (by rw [e2]; exact ⟨fun k h1 _ => rp_s_cell h1, fun i h1 _ => rp_s_ne (by omega)⟩)
      have r2 : rdX (acc ++ [r]) M2 := fun j x hj => by
        have ee : ∀ q, q < 5 → M2 (134 + q) j = M1 (134 + q) j := fun q hq => by rw [e2, rp_s_ne (by omega)]
        by_cases z : j < acc.length
        · rw [List.getElem?_append_left z] at hj
          exact (hr j x hj).keep (fun q hq => (ee q hq).trans (k1.2.2 q hq j (by omega)))
        · have hjl := (List.getElem?_eq_some_iff.mp hj).1
          rw [el] at hjl
          rw [List.getElem?_append_right (by omega), show j - acc.length = 0 by omega] at hj
          cases hj
          rw [show j = acc.length by omega] at ee ⊢
          exact d1.keep ee
      rw [s2.1, p2.1.1, nI_eq (by omega) (by omega)]
      refine ⟨fun z => ?_, fun z => hpost _ _ K2 ?_⟩
      · rw [if_neg z] at hpost
        refine ⟨_, d1_accept E p2 (ch := 59) (by omega) s2 (by omega), fun v3 M3 h3 => ?_⟩
        obtain ⟨k3, h3⟩ := h3
        have K3 : kz M0 M3 := K2.tr k3.kz
        rcases h3 with ⟨a3, b3, c3⟩ | ⟨a3, b3, c3⟩
        · refine ⟨fun _ => ?_, fun z => absurd (b3.symm.trans z) (by decide)⟩
          rw [if_pos a3] at hpost
          rw [nI_1, ← el]
          exact ih M3 (acc ++ [r]) (q + 1) (p2.kz k3.kz) K3 (by omega) (by omega) c3 (fun j x hj => (r2 j x hj).keep (fun q hq => k3.2.2 q hq j (by omega))) hpost
        · refine ⟨fun z => absurd b3 z, fun _ => hpost _ _ K3 ?_⟩
          rw [if_neg a3]
          exact ⟨rfl, c3.1⟩
      · rw [if_pos z]
        exact ⟨rfl, s2.2, r2⟩
    · refine ⟨fun z => absurd b1 z, fun _ => hpost _ _ K1 ?_⟩
      rw [a1]
      exact ⟨rfl, c1.1⟩
theorem d1_read (E : rp_E) {M : rp_M} {pd : List Nat} (hp : QT pd M) : rp_Run E YX1_read [.ref 131] M (rp_P (fun v M' => kz M M' ∧ fxX (parse pd) v M')) := by
  refine vX1_read E _ M (fun M1 e1 M2 e2 => ?_)
  have K2 : kz M M2 := ⟨fun k h1 _ => by rw [e2, rp_s_cell h1, e1, rp_s_cell h1], fun i h1 h2 => by rw [e2, rp_s_ne (by omega), e1, rp_s_ne (by omega)]⟩
  exact read12 E _ 20 M2 [] 0 (hp.kz K2) K2 (Nat.zero_le _) rfl ⟨by rw [e2, rp_s_ne (by omega), e1, rp_s_at]; rfl, by rw [e2, rp_s_at]; rfl⟩ (fun j r hj => by cases hj) (fun v M' h1 h2 => ⟨v, rfl, h1, h2⟩)
theorem IX.QT {g : rs_G} {M : rp_M} (hW : WG g) (hI : IX g M) : QT g.2.2 M := ⟨hI.2.2.1, hW.2.2.2.1, fun c hc => (hW.2.2.2.2 c hc).2⟩
theorem IX.kz {g : rs_G} {M M' : rp_M} (hI : IX g M) (hk : kz M M') : IX g M' := IX_pad hI ⟨(hk.2 1 (by decide) (by decide)).trans hI.2.2.1.1, fun i c hi => by rw [hk.1 132 (by decide) (by omega)]; exact hI.2.2.1.2 i c hi⟩ (fun k h1 h2 h3 => hk.1 k h1 (by omega))
theorem d5_fault (E : rp_E) {M : rp_M} {g : rs_G} (hW : WG g) (hI : IX g M) : rp_Run E YX5_fault [.ref 154] M (rp_P (fun v M' => v = a_fault g.2.2 ∧ IX g M' ∧ keepM M M')) := by
  refine vX5_fault E _ M ⟨_, d1_read E (hI.QT hW), fun v M1 h1 => ?_⟩
  obtain ⟨k1, h1⟩ := h1
  have kp : keepM M M1 := fun k hk => k1.1 k (by omega) (by omega)
  unfold a_fault
  cases q : parse g.2.2 with
  | inl e =>
    rw [q] at h1
    exact ⟨fun _ => ⟨_, rfl, h1.2, hI.kz k1, kp⟩, fun z => absurd h1.1 z⟩
  | inr L =>
    rw [q] at h1
    exact ⟨fun z => absurd (h1.1.symm.trans z) (by decide), fun _ => ⟨_, rfl, rfl, hI.kz k1, kp⟩⟩
theorem d5_load (E : rp_E) {M : rp_M} {g : rs_G} (hW : WG g) (hI : IX g M) : rp_Run E YX5_load [.ref 154] M (rp_P (fun v M' => v = a_load g ∧ IX (g_load g) M' ∧ keepM M M')) := by
  refine vX5_load E _ M ⟨_, d1_read E (hI.QT hW), fun v M1 h1 => ?_⟩
  obtain ⟨k1, h1⟩ := h1
  have kp : keepM M M1 := fun k hk => k1.1 k (by omega) (by omega)
  have I1 : IX g M1 := hI.kz k1
  cases q : parse g.2.2 with
  | inl e =>
    rw [q] at h1
    refine ⟨fun z => absurd h1.1 z, fun _ => ⟨_, rfl, ?_, ?_, kp⟩⟩
    · unfold a_load
      rw [q]
    · unfold g_load
      rw [q]
      exact I1
  | inr L =>
    rw [q] at h1
    obtain ⟨h1, h2, h3⟩ := h1
    have hL := parse_lenb q
    have hok := parse_ok q
    have hn := hW.1.n12
    refine ⟨fun _ => ?_, fun z => absurd (h1.symm.trans z) (by decide)⟩
    rw [I1.1.1, h2, nI_add, show (12 : Int32) = nI 12 by rfl, nI_leI (by omega) (by omega)]
    refine ⟨fun hle => ⟨_, d5_remember E hW I1, fun M2 hr => ?_⟩, fun hle => ⟨_, rfl, ?_, ?_, kp⟩⟩
    · obtain ⟨r1, r2, r3⟩ := hr
      have main : ∀ j, j ≤ L.length → ∀ M3, R0 (zadds g.1 (L.take j)) M3 → (∀ k, 10 ≤ k → M3 k = M2 k) → rp_G E YX5_load (rp_P (fun v M' => v = a_load g ∧ IX (g_load g) M' ∧ keepM M M')) 42 [.ref 154, .int (nI j)] [] M3 := by
        refine up_loop (fun j hj ih M3 h hk => ?_)
        have m8 : M3 131 3 = nI L.length := by rw [hk 131 (by omega), r3 131 (by omega)]; exact h2
        refine vX5_load_42 E _ M3 _ ?_
        rw [m8, nI_leI (by omega) (by omega)]
        refine ⟨fun hle2 M4 e4 => ⟨_, rfl, ?_, ?_, fun k hk' => by rw [e4, rp_s_cell (by omega), hk k (by omega), r3 k (by omega), kp k hk']⟩, fun hlt => ⟨nI_inb (by omega) (by omega), ?_⟩⟩
        · rw [e4, rp_s_ne (by omega), m8]
          unfold a_load
          rw [q]
          exact (if_pos hle).symm
        · unfold g_load
          rw [q]
          show IX (if zn g.1 + L.length ≤ 12 then (zadds g.1 L, hpush g.2.1 g.1, []) else g) M4
          rw [if_pos hle]
          have ej : L.take j = L := List.take_of_length_le (by omega)
          rw [ej] at h
          have i3 := IX_row r1 r2 h hk
          exact IX_pad i3 (pd := []) ⟨by rw [e4, rp_s_at]; rfl, fun i c hi => by cases hi⟩ (fun k k1 _ _ => by rw [e4, rp_s_cell k1])
        · have hj2 : j < L.length := by omega
          obtain ⟨d1, d2, d3, d4, d5⟩ := h3 j L[j] (List.getElem?_eq_getElem hj2)
          have e9 : ∀ k, 134 ≤ k → k ≤ 138 → M3 k = M1 k := fun k _ _ => by rw [hk k (by omega), r3 k (by omega)]
          have et : L.take (j + 1) = L.take j ++ [L[j]] := by rw [List.take_succ, List.getElem?_eq_getElem hj2]; rfl
          have el : (L.take j).length = j := by rw [List.length_take]; omega
          rw [nI_clamp (by omega), e9 134 (by omega) (by omega), e9 135 (by omega) (by omega), e9 136 (by omega) (by omega), e9 137 (by omega) (by omega), e9 138 (by omega) (by omega), d1, d2, d3, d4, d5, nI_1]
          refine ⟨_, d0_append E h (by rw [zadds_n]; omega) _ _ _ _ _, fun M4 h4 => ih hj2 M4 ?_ (fun k hk' => (h4.2 k (by omega)).trans (hk k hk'))⟩
          rw [et, zadds_snoc]
          exact h4.1
      exact main 0 (Nat.zero_le _) M2 r1.1 (fun _ _ => rfl)
    · unfold a_load
      rw [q]
      exact (if_neg hle).symm
    · unfold g_load
      rw [q]
      show IX (if zn g.1 + L.length ≤ 12 then (zadds g.1 L, hpush g.2.1 g.1, []) else g) M1
      rw [if_neg hle]
      exact I1
