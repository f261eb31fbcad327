/-! THE REFERENCE, 14: fault and load -/
theorem rI_inlb {pd : List Nat} {pos e : Nat} (hpos : pos ≤ pd.length) (h : rI (tx pd) pos = .inl e) : e ≤ pd.length + 1 := by
  have nb : ∀ l q e, q ≤ pd.length + 1 → rN (tx pd) l q = .inl e → e ≤ pd.length + 1 := fun l q e hq hh => by
    have := rN_inl hh
    omega
  have ob : ∀ c q e, c ≠ 0 → q ≤ pd.length → rO (tx pd) c q = .inl e → e ≤ pd.length + 1 := fun c q e hc hq hh => by
    unfold rO at hh
    split at hh
    · exact nb 0 (q + 1) e (by omega) hh
    · cases hh
  have ol : ∀ c q v p, c ≠ 0 → q ≤ pd.length → rO (tx pd) c q = .inr (v, p) → p ≤ pd.length := fun c q v p hc hq hh => by
    unfold rO at hh
    split at hh
    · exact rN_len hh
    · cases hh
      exact hq
  unfold rI at h
  cases h1 : rN (tx pd) 1 pos with
  | inl e1 =>
    rw [h1] at h
    cases h
    exact nb _ _ _ (by omega) h1
  | inr a =>
    obtain ⟨a1, a2⟩ := a
    have l1 := rN_len h1
    rw [h1] at h
    have h : (if tx pd a2 = 47 then sbind (rN (tx pd) 1 (a2 + 1)) fun b => sbind (rO (tx pd) 43 b.2) fun c => sbind (rO (tx pd) 45 c.2) fun d => sbind (rGr (tx pd) d.2) fun e => Sum.inr ((a1, b.1, c.1, d.1, e.1), e.2) else Sum.inl a2) = Sum.inl e := h
    split at h
    · next q =>
      cases h2 : rN (tx pd) 1 (a2 + 1) with
      | inl e1 =>
        rw [h2] at h
        cases h
        exact nb _ _ _ (by omega) h2
      | inr b =>
        obtain ⟨b1, b2⟩ := b
        have l2 := rN_len h2
        rw [h2] at h
        have h : (sbind (rO (tx pd) 43 b2) fun c => sbind (rO (tx pd) 45 c.2) fun d => sbind (rGr (tx pd) d.2) fun e => (Sum.inr ((a1, b1, c.1, d.1, e.1), e.2) : Nat ⊕ (rs_I × Nat))) = Sum.inl e := h
        cases h3 : rO (tx pd) 43 b2 with
        | inl e1 =>
          rw [h3] at h
          cases h
          exact ob _ _ _ (by decide) l2 h3
        | inr c =>
          obtain ⟨c1, c2⟩ := c
          have l3 := ol _ _ _ _ (by decide) l2 h3
          rw [h3] at h
          have h : (sbind (rO (tx pd) 45 c2) fun d => sbind (rGr (tx pd) d.2) fun e => (Sum.inr ((a1, b1, c1, d.1, e.1), e.2) : Nat ⊕ (rs_I × Nat))) = Sum.inl e := h
          cases h4 : rO (tx pd) 45 c2 with
          | inl e1 =>
            rw [h4] at h
            cases h
            exact ob _ _ _ (by decide) l3 h4
          | inr d =>
            obtain ⟨d1, d2⟩ := d
            have l4 := ol _ _ _ _ (by decide) l3 h4
            rw [h4] at h
            have h : (sbind (rGr (tx pd) d2) fun e => (Sum.inr ((a1, b1, c1, d1, e.1), e.2) : Nat ⊕ (rs_I × Nat))) = Sum.inl e := h
            cases h5 : rGr (tx pd) d2 with
            | inl e1 =>
              rw [h5] at h
              cases h
              unfold rGr at h5
              split at h5
              · split at h5
                · cases h5
                · cases h5
                  omega
              · cases h5
            | inr e1 =>
              rw [h5] at h
              cases h
    · cases h
      omega
theorem rP_inlb {pd : List Nat} : ∀ (f pos : Nat) (acc : List rs_I) (e : Nat), pos ≤ pd.length → rP (tx pd) pd.length f pos acc = .inl e → e ≤ pd.length + 1
  | 0, pos, acc, e, hp, h => by
    cases h
    omega
  | f + 1, pos, acc, e, hp, h => by
    unfold rP at h
    cases h1 : rI (tx pd) pos with
    | inl e1 =>
      rw [h1] at h
      cases h
      exact rI_inlb hp h1
    | inr a =>
      obtain ⟨r, p⟩ := a
      have l1 := rI_len h1
      rw [h1] at h
      have h : (if p = pd.length then (Sum.inr (acc ++ [r]) : Nat ⊕ List rs_I) else if tx pd p = 59 then rP (tx pd) pd.length f (p + 1) (acc ++ [r]) else Sum.inl p) = Sum.inl e := h
      split at h
      · cases h
      · split at h
        · exact rP_inlb f (p + 1) _ e (by omega) h
        · cases h
          omega
theorem rP_lenb {t : Nat → Nat} {len : Nat} : ∀ (f pos : Nat) (acc L : List rs_I), rP t len f pos acc = .inr L → L.length ≤ acc.length + f
  | 0, pos, acc, L, h => by cases h
  | f + 1, pos, acc, L, h => by
    unfold rP at h
    cases h1 : rI t pos with
    | inl e1 =>
      rw [h1] at h
      cases h
    | inr a =>
      obtain ⟨r, p⟩ := a
      rw [h1] at h
      have h : (if p = len then (Sum.inr (acc ++ [r]) : Nat ⊕ List rs_I) else if t p = 59 then rP t len f (p + 1) (acc ++ [r]) else Sum.inl p) = Sum.inr L := h
      split at h
      · cases h
        rw [List.length_append, List.length_singleton]
        omega
      · split at h
        · have := rP_lenb f (p + 1) _ L h
          rw [List.length_append, List.length_singleton] at this
          omega
        · cases h
theorem parse_inlb {pd : List Nat} {e : Nat} (h : parse pd = .inl e) : e ≤ pd.length + 1 := rP_inlb 20 0 [] e (Nat.zero_le _) h
theorem parse_lenb {pd : List Nat} {L : List rs_I} (h : parse pd = .inr L) : L.length ≤ 20 := by
  have := rP_lenb 20 0 [] L h
  rw [List.length_nil] at this
  omega
theorem nI_n6 {e : Nat} (h : e < 2 ^ 31) : nI e ≠ (-6) := by
  intro q
  have q2 := congrArg Int32.toInt q
  rw [nI_toInt h] at q2
  have q3 : ((-6 : Int32)).toInt = -6 := by decide
  omega
def rd (L : List rs_I) (M : rp_M) : Prop := ∀ (j : Nat) (r : rs_I), L[j]? = some r → M 159 (5 * j) = nI r.1 ∧ M 159 (5 * j + 1) = nI r.2.1 ∧ M 159 (5 * j + 2) = nI r.2.2.1 ∧ M 159 (5 * j + 3) = nI r.2.2.2.1 ∧ M 159 (5 * j + 4) = gM r.2.2.2.2
theorem rd.snoc {L : List rs_I} {M M' : rp_M} (h : rd L M) (hk : ∀ i, i < 5 * L.length → M' 159 i = M 159 i) {r : rs_I} (hr : M' 159 (5 * L.length) = nI r.1 ∧ M' 159 (5 * L.length + 1) = nI r.2.1 ∧ M' 159 (5 * L.length + 2) = nI r.2.2.1 ∧ M' 159 (5 * L.length + 3) = nI r.2.2.2.1 ∧ M' 159 (5 * L.length + 4) = gM r.2.2.2.2) : rd (L ++ [r]) M' := by
  intro j x hj
  by_cases q : j < L.length
  · rw [List.getElem?_append_left q] at hj
    obtain ⟨h1, h2, h3, h4, h5⟩ := h j x hj
    exact ⟨by rw [hk _ (by omega)]; exact h1, by rw [hk _ (by omega)]; exact h2, by rw [hk _ (by omega)]; exact h3, by rw [hk _ (by omega)]; exact h4, by rw [hk _ (by omega)]; exact h5⟩
  · rw [List.getElem?_append_right (by omega)] at hj
    have e : j - L.length = 0 := by
      apply Classical.byContradiction
      intro z
      rw [List.getElem?_eq_none (by rw [List.length_singleton]; omega)] at hj
      cases hj
    rw [e] at hj
    cases hj
    rw [show j = L.length by omega]
    exact hr
def fx (r : Nat ⊕ List rs_I) (v : Int32) (M' : rp_M) : Prop := match r with
  | .inl e => v = nI e
  | .inr L => v = (-6) ∧ M' 155 8 = nI L.length ∧ rd L M'
theorem fault19w (E : rp_E) {M : rp_M} {e : Nat} (hs : ps e true M) (post : Option Int32 → rp_M → Prop) (hpost : post (some (nI e)) M) : rp_G E YX6_fault post 19 [.ref 155] [] M := by
  refine vX6_fault_19 E _ M ⟨_, d_takesW E hs _, fun v M1 h1 => ⟨fun _ => ⟨fun _ => ?_, fun h => ?_⟩, fun h => absurd h1.1 h⟩⟩
  · rw [h1.2, hs.1]
    exact hpost
  · rw [h1.2, hs.2] at h
    exact absurd h (by decide)
theorem fault19 (E : rp_E) {pd : List Nat} {M0 : rp_M} (post : Option Int32 → rp_M → Prop) : ∀ (f : Nat) (M : rp_M) (acc : List rs_I) (p : Nat), PT pd M → kw 0 M0 M → p ≤ pd.length → acc.length + f = 20 → 4 * acc.length ≤ p + 1 → ps p false M → M 155 8 = nI acc.length → rd acc M → (∀ v M', kw 0 M0 M' → fx (if p = pd.length then .inr acc else if tx pd p = 59 then rP (tx pd) pd.length f (p + 1) acc else .inl p) v M' → post (some v) M') → rp_G E YX6_fault post 19 [.ref 155] [] M := by
  intro f
  induction f with
  | zero =>
    intro M acc p hp hk hpl hf h4 hs h8 hr hpost
    have hl := hp.2.2.1
    refine vX6_fault_19 E _ M ⟨_, d_takes E hp (ch := 59) (by omega) hs (by omega), fun v M1 h1 => ⟨fun hv => ?_, fun hv => ?_⟩⟩
    · rcases h1.2 with h2 | h2
      · rw [h2.2.1] at hv
        exact absurd hv (by decide)
      · have k1 : kw 0 M0 M1 := hk.tr (Nat.le_refl 0) (h1.1.kw 0)
        refine ⟨fun h => absurd h2.2.2.2 h, fun _ => ?_⟩
        rw [(hp.kq h1.1).1, h2.2.2.1, nI_leI (by omega) (by omega)]
        refine ⟨fun q => hpost _ _ k1 ?_, fun q => hpost _ _ k1 ?_⟩
        · rw [if_pos (by omega)]
          exact ⟨rfl, by rw [h1.1.m8, h8], fun j r hj => by rw [h1.1.r]; exact hr j r hj⟩
        · rw [if_neg (by omega), if_neg h2.1]
          rfl
    · rcases h1.2 with h2 | h2
      · have hlt := tx_ne h2.1 (by decide)
        have k1 : kw 0 M0 M1 := hk.tr (Nat.le_refl 0) (h1.1.kw 0)
        have ep : p + 1 = pd.length := by omega
        refine ⟨_, d_readItem E (hp.kq h1.1) (c := acc.length) (by omega) (by omega) h2.2.2 (by rw [h1.1.m8, h8]), fun M2 h3 => ?_⟩
        rcases h3.2 with ⟨r, q, h5, -⟩ | ⟨e, h5, h6⟩
        · rw [ep, rI_end] at h5
          cases h5
        · rw [ep, rI_end] at h5
          cases h5
          refine fault19w E h6 post (hpost _ _ (k1.tr (by omega) h3.1.1) ?_)
          rw [if_neg (by omega), if_pos h2.1, ep]
          rfl
      · exact absurd h2.2.1 hv
  | succ f ih =>
    intro M acc p hp hk hpl hf h4 hs h8 hr hpost
    have hl := hp.2.2.1
    refine vX6_fault_19 E _ M ⟨_, d_takes E hp (ch := 59) (by omega) hs (by omega), fun v M1 h1 => ⟨fun hv => ?_, fun hv => ?_⟩⟩
    · rcases h1.2 with h2 | h2
      · rw [h2.2.1] at hv
        exact absurd hv (by decide)
      · have k1 : kw 0 M0 M1 := hk.tr (Nat.le_refl 0) (h1.1.kw 0)
        refine ⟨fun h => absurd h2.2.2.2 h, fun _ => ?_⟩
        rw [(hp.kq h1.1).1, h2.2.2.1, nI_leI (by omega) (by omega)]
        refine ⟨fun q => hpost _ _ k1 ?_, fun q => hpost _ _ k1 ?_⟩
        · rw [if_pos (by omega)]
          exact ⟨rfl, by rw [h1.1.m8, h8], fun j r hj => by rw [h1.1.r]; exact hr j r hj⟩
        · rw [if_neg (by omega), if_neg h2.1]
          rfl
    · rcases h1.2 with h2 | h2
      · have hlt := tx_ne h2.1 (by decide)
        have k1 : kw 0 M0 M1 := hk.tr (Nat.le_refl 0) (h1.1.kw 0)
        rw [if_neg (by omega), if_pos h2.1] at hpost
        refine ⟨_, d_readItem E (hp.kq h1.1) (c := acc.length) (by omega) (by omega) h2.2.2 (by rw [h1.1.m8, h8]), fun M2 h3 => ?_⟩
        have k2 : kw 0 M0 M2 := k1.tr (by omega) h3.1.1
        rcases h3.2 with ⟨r, q, h5, h6, h7⟩ | ⟨e, h5, h6⟩
        · have hql := rI_len h5
          have hq3 := (rI_inr h5).2.1
          have el : (acc ++ [r]).length = acc.length + 1 := by rw [List.length_append, List.length_singleton]
          refine ih M2 (acc ++ [r]) q ((hp.kq h1.1).kw h3.1.1) k2 hql (by omega) (by omega) h6 ?_ ?_ (fun v M' z1 z2 => hpost v M' z1 ?_)
          · rw [h3.1.2, h1.1.m8, h8, el, nI_1]
          · exact hr.snoc (fun i hi => by rw [h3.1.1.2.2 i hi, h1.1.r]) h7
          · unfold rP
            rw [h5]
            exact z2
        · refine fault19w E h6 post (hpost _ _ k2 ?_)
          unfold rP
          rw [h5]
          rfl
      · exact absurd h2.2.1 hv
theorem d_faultP (E : rp_E) {M : rp_M} {pd : List Nat} (hp : PT pd M) (post : Option Int32 → rp_M → Prop) (hpost : ∀ v M', kw 0 M M' → fx (parse pd) v M' → post (some v) M') : rp_Run E YX6_fault [.ref 155] M post := by
  have hl := hp.2.2.1
  refine vX6_fault E _ M (fun M1 e1 M2 e2 M3 e3 => ?_)
  have k3 : kw 0 M M3 := ⟨fun k h1 h2 => by rw [e3, rp_s_cell h1, e2, rp_s_cell h1, e1, rp_s_cell h1], fun i h1 h2 h3 => by rw [e3, rp_s_ne (by omega), e2, rp_s_ne (by omega), e1, rp_s_ne (by omega)], fun i hi => absurd hi (by omega)⟩
  have s3 : ps 0 false M3 := ⟨by rw [e3, rp_s_ne (by omega), e2, rp_s_ne (by omega), e1, rp_s_at]; rfl, by rw [e3, rp_s_ne (by omega), e2, rp_s_at]; rfl⟩
  have m3 : M3 155 8 = nI 0 := by rw [e3, rp_s_at]; rfl
  have p3 := hp.kw k3
  refine ⟨_, d_readItem E p3 (c := 0) (by omega) (by omega) s3 m3, fun M4 h4 => ?_⟩
  have k4 : kw 0 M M4 := k3.tr (Nat.le_refl 0) h4.1.1
  unfold parse rP at hpost
  rcases h4.2 with ⟨r, q, h5, h6, h7⟩ | ⟨e, h5, h6⟩
  · have hql := rI_len h5
    have hq3 := (rI_inr h5).2.1
    refine fault19 E _ 19 M4 [r] q (p3.kw h4.1.1) k4 hql rfl (by show 4 * 1 ≤ q + 1; omega) h6 (by rw [h4.1.2, m3]; rfl) ?_ (fun v M' z1 z2 => hpost v M' z1 ?_)
    · exact (show rd [] M3 from fun j r hj => by cases hj).snoc (fun i hi => absurd hi (by show ¬ i < 5 * 0; omega)) h7
    · rw [h5]
      exact z2
  · refine fault19w E h6 _ (hpost _ _ k4 ?_)
    rw [h5]
    rfl
theorem kw.scr {M M' : rp_M} {b : Nat} (h : kw b M M') : scrM M M' := ⟨fun k hk => h.1 k (by omega) (by omega), h.1 _ (by decide) (by decide), h.1 _ (by decide) (by decide), h.1 _ (by decide) (by decide), h.2.1 _ (by decide) (by decide) (by decide), h.2.1 _ (by decide) (by decide) (by decide)⟩
theorem IM.PT {g : rs_G} {M : rp_M} (hW : WG g) (hI : IM g M) : PT g.2.2 M := ⟨hI.2.2.2.1, hI.2.2.2.2, hW.2.2.2.1, fun c hc => (hW.2.2.2.2 c hc).2⟩
theorem d6_fault (E : rp_E) {M : rp_M} {g : rs_G} (hW : WG g) (hI : IM g M) : rp_Run E YX6_fault [.ref 155] M (rp_P (fun v M' => v = a_fault g.2.2 ∧ scrM M M')) := by
  refine d_faultP E (IM.PT hW hI) _ (fun v M' h1 h2 => ⟨v, rfl, ?_, h1.scr⟩)
  unfold a_fault
  cases q : parse g.2.2 with
  | inl e =>
    rw [q] at h2
    exact h2
  | inr L =>
    rw [q] at h2
    exact h2.1
theorem zadds_snoc (S : rs_S) (L : List rs_I) (r : rs_I) : zadds S (L ++ [r]) = zadd (zadds S L) r.1 r.2.1 r.2.2.1 r.2.2.2.1 r.2.2.2.2 := by
  induction L generalizing S with
  | nil => rfl
  | cons x l ih => exact ih _
def ldI (g : rs_G) (L : List rs_I) (M2 : rp_M) (j : Nat) (M : rp_M) : Prop := RM (zadds g.1 (L.take j)) (M 156) ∧ ∀ k, k ≠ 156 → M k = M2 k
theorem d6_load (E : rp_E) {M : rp_M} {g : rs_G} (hW : WG g) (hI : IM g M) : rp_Run E YX6_load [.ref 155] M (rp_P (fun v M' => v = a_load g ∧ IM (g_load g) M' ∧ keepX M M')) := by
  have hp := IM.PT hW hI
  refine vX6_load E _ M ⟨fun v M' => kw 0 M M' ∧ fx (parse g.2.2) v M', d_faultP E hp _ (fun v M' h1 h2 => ⟨v, rfl, h1, h2⟩), fun v M1 h1 => ?_⟩
  obtain ⟨k1, h1⟩ := h1
  have I1 : IM g M1 := hI.scr k1.scr
  cases q : parse g.2.2 with
  | inl e =>
    rw [q] at h1
    have h1 : v = nI e := h1
    have := parse_inlb q
    have hl := hp.2.2.1
    refine ⟨fun h => absurd (h1.symm.trans h) (nI_n6 (by omega)), fun _ => ⟨_, rfl, ?_, ?_, fun k hk => k1.1 k (by omega) (by omega)⟩⟩
    · unfold a_load
      rw [q]
    · unfold g_load
      rw [q]
      exact I1
  | inr L =>
    rw [q] at h1
    obtain ⟨h1, h2, h3⟩ := h1
    have hL := parse_lenb q
    have hok := parse_ok q
    have hn := hW.1.n12
    refine ⟨fun _ => ?_, fun h => absurd h1 h⟩
    rw [I1.1.1, h2, nI_add, show (12 : Int32) = nI 12 by rfl, nI_leI (by omega) (by omega)]
    refine ⟨fun hle => ⟨_, d_record E hW I1, fun M2 hr => ?_⟩, fun hle => ⟨_, rfl, ?_, ?_, fun k hk => k1.1 k (by omega) (by omega)⟩⟩
    · obtain ⟨r1, r2, r3⟩ := hr
      have main : ∀ j, j ≤ L.length → ∀ M3, ldI g L M2 j M3 → rp_G E YX6_load (rp_P (fun v M' => v = a_load g ∧ IM (g_load g) M' ∧ keepX M M')) 37 [.ref 155, .int (nI j), .null] [] M3 := by
        refine up_loop (fun j hj ih M3 h => ?_)
        have m8 : M3 155 8 = nI L.length := by rw [h.2 155 (by decide), r3 8 (by decide)]; exact h2
        refine vX6_load_37 E _ M3 _ ?_
        rw [m8, nI_leI (by omega) (by omega)]
        refine ⟨fun hle2 M4 e4 => ⟨_, rfl, ?_, ?_, ?_⟩, fun hlt => ?_⟩
        · rw [e4, rp_s_ne (by omega), m8]
          unfold a_load
          rw [q]
          exact (if_pos hle).symm
        · unfold g_load
          rw [q]
          show IM (if zn g.1 + L.length ≤ 12 then (zadds g.1 L, hpush g.2.1 g.1, []) else g) M4
          rw [if_pos hle]
          have ej : L.take j = L := List.take_of_length_le (by omega)
          refine ⟨?_, ?_, ?_, ?_, fun i c hi => by cases hi⟩
          · rw [e4, rp_s_cell (by decide), ← ej]
            rw [ej, ← ej]
            exact h.1
          · rw [e4, rp_s_ne (by omega), h.2 155 (by decide)]
            exact r1.2.1
          · intro i s hi
            rw [e4, rp_s_cell (by decide), h.2 157 (by decide)]
            exact r1.2.2.1 i s hi
          · rw [e4, rp_s_at]
            rfl
        · intro k hk
          rw [e4, rp_s_cell (by omega), h.2 k (by omega), r2 k (by omega) (by omega), k1.1 k (by omega) (by omega)]
        · have hj2 : j < L.length := by omega
          obtain ⟨d1, d2, d3, d4, d5⟩ := h3 j L[j] (List.getElem?_eq_getElem hj2)
          have e9 : M3 159 = M1 159 := by rw [h.2 159 (by decide), r2 159 (by decide) (by decide)]
          have et : L.take (j + 1) = L.take j ++ [L[j]] := by rw [List.take_succ, List.getElem?_eq_getElem hj2]; rfl
          have el : (L.take j).length = j := by rw [List.length_take]; omega
          rw [show (5 : Int32) * nI j = nI (5 * j) from pk_mul 5 j, show nI (5 * j) + 1 = nI (5 * j + 1) from nI_add _ 1, show nI (5 * j) + 2 = nI (5 * j + 2) from nI_add _ 2, show nI (5 * j) + 3 = nI (5 * j + 3) from nI_add _ 3, show nI (5 * j) + 4 = nI (5 * j + 4) from nI_add _ 4]
          refine ⟨nI_inb (by omega) (by omega), nI_inb (by omega) (by omega), nI_inb (by omega) (by omega), nI_inb (by omega) (by omega), nI_inb (by omega) (by omega), ?_⟩
          rw [nI_clamp (by omega), nI_clamp (by omega), nI_clamp (by omega), nI_clamp (by omega), nI_clamp (by omega), e9, d1, d2, d3, d4, d5, nI_1]
          refine ⟨_, d_append6 E (zadds_Wf hW.1 (fun r hr => hok r (List.mem_of_mem_take hr)) (by omega)) h.1 (by rw [zadds_n]; omega) _ _ _ _ _, fun M4 h4 => ih hj2 M4 ⟨?_, fun k hk => (h4.2 k hk).trans (h.2 k hk)⟩⟩
          rw [et, zadds_snoc]
          exact h4.1
      exact main 0 (Nat.zero_le _) M2 ⟨r1.1, fun _ _ => rfl⟩
    · unfold a_load
      rw [q]
      exact (if_neg hle).symm
    · unfold g_load
      rw [q]
      show IM (if zn g.1 + L.length ≤ 12 then (zadds g.1 L, hpush g.2.1 g.1, []) else g) M1
      rw [if_neg hle]
      exact I1
