/-! THE REFERENCE, 13: an item, all of it -/
theorem rN_len {pd : List Nat} {l pos v p : Nat} (h : rN (tx pd) l pos = .inr (v, p)) : p ≤ pd.length := by
  obtain ⟨-, -, h2, -, h3⟩ := rN_inr h
  have := tx_end (h3 (p - 1) (by omega) (by omega))
  omega
theorem tx_ne {pd : List Nat} {i c : Nat} (h : tx pd i = c) (hc : c ≠ 0) : i < pd.length := tx_end (by rw [h]; exact hc)
theorem g83 (E : rp_E) {M : rp_M} {pd : List Nat} (hp : PT pd M) {b pos : Nat} (hb : b ≤ 100) (hpos : pos ≤ 80) (hs : ps pos false M) (post : Option Int32 → rp_M → Prop) (s0 : Int32)
    (hg : ∀ M' d g p q, rO (tx pd) 45 pos = .inr (d, p) → rGr (tx pd) p = .inr (g, q) → stg (b + 2) M M' → ps q false M' → M' 159 (b + 2) = s0 → M' 159 (b + 3) = nI d → M' 159 (b + 4) = gM g → post none M')
    (hw : ∀ M' e, (rO (tx pd) 45 pos = .inl e ∨ ∃ d p, rO (tx pd) 45 pos = .inr (d, p) ∧ rGr (tx pd) p = .inl e) → stg b M M' → ps e true M' → post none M') : rp_G E YX6_readItem post 83 [.ref 155, .int (nI b)] [.int s0, .int (nI (b + 2)), .ref 159] M := by
  have hl := hp.2.2.1
  refine vX6_readItem_83 E _ M _ _ _ ⟨nI_inb (by omega) (by omega), fun M1 e1 => ?_⟩
  rw [nI_clamp (by omega)] at e1
  have s1 : ps pos false M1 := by rw [e1]; exact hs.st _
  have k1 : kw (b + 2) M M1 := by rw [e1]; exact kw.st (Nat.le_refl _) _
  have m1 : M1 155 8 = M 155 8 := by rw [e1, rp_s_ne (by omega)]
  have a1 : M1 159 (b + 2) = s0 := by rw [e1, rp_s_at]
  rw [show nI b + 3 = nI (b + 3) from nI_add b 3]
  refine ⟨_, d_takes E (hp.kw k1) (ch := 45) (by omega) s1 (by omega), fun v M2 h2 => ⟨fun hv => ?_, fun hv => ?_⟩⟩
  · rcases h2.2 with h3 | h3
    · rw [h3.2.1] at hv
      exact absurd hv (by decide)
    · have k2 : kw (b + 2) M M2 := k1.tr (Nat.le_refl _) (h2.1.kw _)
      have r3 : rO (tx pd) 45 pos = .inr (0, pos) := by
        unfold rO
        rw [if_neg h3.1]
      refine g109 E (hp.kw k2) hb (by omega) h3.2.2 post 0 (fun M' g p q1 q2 q3 q4 q5 => hg M' 0 g pos p r3 q1 ⟨k2.tr (by omega) q2.1, by rw [q2.2, h2.1.m8, m1]⟩ q3 ?_ q4 q5) (fun M' e q1 q2 q3 => hw M' e (Or.inr ⟨0, pos, r3, q1⟩) ⟨(k2.le (by omega)).tr (by omega) q2.1, by rw [q2.2, h2.1.m8, m1]⟩ q3)
      rw [q2.1.2.2 _ (by omega), h2.1.r, a1]
  · rcases h2.2 with h3 | h3
    · have k2 : kw (b + 2) M M2 := k1.tr (Nat.le_refl _) (h2.1.kw _)
      have hlt := tx_ne h3.1 (by decide)
      have r3 : rO (tx pd) 45 pos = rN (tx pd) 0 (pos + 1) := by
        unfold rO
        rw [if_pos h3.1]
      refine ⟨_, d_num E (hp.kw k2) (least := 0) (by omega) (by omega) h3.2.2, fun v3 M3 h4 => ?_⟩
      have k3 : kw (b + 2) M M3 := k2.tr (Nat.le_refl _) (h4.1.kw _)
      have m3 : M3 155 8 = M 155 8 := by rw [h4.1.m8, h2.1.m8, m1]
      rcases h4.2 with ⟨w, p, h5, h6, h7⟩ | ⟨h5, h6, h7⟩
      · have hpl := rN_len h5
        rw [h6]
        refine g109 E (hp.kw k3) hb (by omega) h7 post _ (fun M' g q q1 q2 q3 q4 q5 => hg M' w g p q (r3.trans h5) q1 ⟨k3.tr (by omega) q2.1, by rw [q2.2, m3]⟩ q3 ?_ q4 q5) (fun M' e q1 q2 q3 => hw M' e (Or.inr ⟨w, p, r3.trans h5, q1⟩) ⟨(k3.le (by omega)).tr (by omega) q2.1, by rw [q2.2, m3]⟩ q3)
        rw [q2.1.2.2 _ (by omega), h4.1.r, h2.1.r, a1]
      · exact w109 E hb h7 post (fun M' q1 q2 => hw M' _ (Or.inl (r3.trans h5)) ⟨(k3.le (by omega)).tr (Nat.le_refl b) q1.1, by rw [q1.2, m3]⟩ q2) _
    · exact absurd h3.2.1 hv
theorem g45 (E : rp_E) {M : rp_M} {pd : List Nat} (hp : PT pd M) {b pos : Nat} (hb : b ≤ 100) (hpos : pos ≤ 80) (hs : ps pos false M) (post : Option Int32 → rp_M → Prop)
    (hg : ∀ M' w c d g p1 p2 p3 q, rN (tx pd) 1 pos = .inr (w, p1) → rO (tx pd) 43 p1 = .inr (c, p2) → rO (tx pd) 45 p2 = .inr (d, p3) → rGr (tx pd) p3 = .inr (g, q) → stg (b + 1) M M' → ps q false M' → M' 159 (b + 1) = nI w → M' 159 (b + 2) = nI c → M' 159 (b + 3) = nI d → M' 159 (b + 4) = gM g → post none M')
    (hw : ∀ M' e, (rN (tx pd) 1 pos = .inl e ∨ (∃ w p1, rN (tx pd) 1 pos = .inr (w, p1) ∧ (rO (tx pd) 43 p1 = .inl e ∨ ∃ c p2, rO (tx pd) 43 p1 = .inr (c, p2) ∧ (rO (tx pd) 45 p2 = .inl e ∨ ∃ d p3, rO (tx pd) 45 p2 = .inr (d, p3) ∧ rGr (tx pd) p3 = .inl e)))) → stg b M M' → ps e true M' → post none M') : rp_G E YX6_readItem post 45 [.ref 155, .int (nI b)] [] M := by
  have hl := hp.2.2.1
  refine vX6_readItem_45 E _ M _ ⟨_, d_num E hp (least := 1) (by omega) (by omega) hs, fun v M1 h1 => ?_⟩
  rw [show nI b + 1 = nI (b + 1) from nI_add b 1, show nI b + 2 = nI (b + 2) from nI_add b 2]
  refine ⟨nI_inb (by omega) (by omega), fun M2 e2 => ?_⟩
  rw [nI_clamp (by omega)] at e2
  have k2 : kw (b + 1) M M2 := by
    rw [e2]
    exact (h1.1.kw _).tr (Nat.le_refl _) (kw.st (Nat.le_refl _) _)
  have m2 : M2 155 8 = M 155 8 := by rw [e2, rp_s_ne (by omega), h1.1.m8]
  have a2 : M2 159 (b + 1) = v := by rw [e2, rp_s_at]
  rcases h1.2 with ⟨w, p1, h3, h4, h5⟩ | ⟨h3, h4, h5⟩
  · have s2 : ps p1 false M2 := by rw [e2]; exact h5.st _
    have hpl := rN_len h3
    refine ⟨_, d_takes E (hp.kw k2) (ch := 43) (by omega) s2 (by omega), fun v3 M3 h6 => ⟨fun hv => ?_, fun hv => ?_⟩⟩
    · rcases h6.2 with h7 | h7
      · rw [h7.2.1] at hv
        exact absurd hv (by decide)
      · have k3 : kw (b + 1) M M3 := k2.tr (Nat.le_refl _) (h6.1.kw _)
        have m3 : M3 155 8 = M 155 8 := by rw [h6.1.m8, m2]
        have r3 : rO (tx pd) 43 p1 = .inr (0, p1) := by
          unfold rO
          rw [if_neg h7.1]
        refine g83 E (hp.kw k3) hb (by omega) h7.2.2 post 0 (fun M' d g p q q1 q2 q3 q4 q5 q6 q7 => hg M' w 0 d g p1 p1 p q h3 r3 q1 q2 ⟨k3.tr (by omega) q3.1, by rw [q3.2, m3]⟩ q4 ?_ q5 q6 q7) (fun M' e q1 q2 q3 => hw M' e (Or.inr ⟨w, p1, h3, Or.inr ⟨0, p1, r3, q1⟩⟩) ⟨(k3.le (by omega)).tr (Nat.le_refl b) q2.1, by rw [q2.2, m3]⟩ q3)
        rw [q3.1.2.2 _ (by omega), h6.1.r, a2, h4]
    · rcases h6.2 with h7 | h7
      · have k3 : kw (b + 1) M M3 := k2.tr (Nat.le_refl _) (h6.1.kw _)
        have hlt := tx_ne h7.1 (by decide)
        have r3 : rO (tx pd) 43 p1 = rN (tx pd) 0 (p1 + 1) := by
          unfold rO
          rw [if_pos h7.1]
        refine ⟨_, d_num E (hp.kw k3) (least := 0) (by omega) (by omega) h7.2.2, fun v4 M4 h8 => ?_⟩
        have k4 : kw (b + 1) M M4 := k3.tr (Nat.le_refl _) (h8.1.kw _)
        have m4 : M4 155 8 = M 155 8 := by rw [h8.1.m8, h6.1.m8, m2]
        rcases h8.2 with ⟨c, p2, h9, h10, h11⟩ | ⟨h9, h10, h11⟩
        · have hpl2 := rN_len h9
          rw [h10]
          refine g83 E (hp.kw k4) hb (by omega) h11 post _ (fun M' d g p q q1 q2 q3 q4 q5 q6 q7 => hg M' w c d g p1 p2 p q h3 (r3.trans h9) q1 q2 ⟨k4.tr (by omega) q3.1, by rw [q3.2, m4]⟩ q4 ?_ q5 q6 q7) (fun M' e q1 q2 q3 => hw M' e (Or.inr ⟨w, p1, h3, Or.inr ⟨c, p2, r3.trans h9, q1⟩⟩) ⟨(k4.le (by omega)).tr (Nat.le_refl b) q2.1, by rw [q2.2, m4]⟩ q3)
          rw [q3.1.2.2 _ (by omega), h8.1.r, h6.1.r, a2, h4]
        · exact w83 E hb h11 post (fun M' q1 q2 => hw M' _ (Or.inr ⟨w, p1, h3, Or.inl (r3.trans h9)⟩) ⟨(k4.le (by omega)).tr (Nat.le_refl b) q1.1, by rw [q1.2, m4]⟩ q2) _
      · exact absurd h7.2.1 hv
  · have s2 : ps pos true M2 := by rw [e2]; exact h5.st _
    refine ⟨_, d_takesW E s2 _, fun v3 M3 h6 => ⟨fun _ => ?_, fun h => absurd h6.1 h⟩⟩
    rw [h6.2]
    exact w83 E hb s2 post (fun M' q1 q2 => hw M' _ (Or.inl h3) ⟨(k2.le (by omega)).tr (Nat.le_refl b) q1.1, by rw [q1.2, m2]⟩ q2) _
theorem ps6 {M : rp_M} {p : Nat} {w : Bool} (h5 : M 155 5 = nI p) (v : Bool) {x : Int32} (hx : x = bI v) : ps p v (rp_s M 155 6 x) := ⟨by rw [rp_s_ne (by omega)]; exact h5, by rw [rp_s_at, hx]⟩
theorem kw6 {M : rp_M} {x : Int32} : kq M (rp_s M 155 6 x) := ⟨fun k hk => rp_s_cell hk, fun i h1 h2 => rp_s_ne (by omega)⟩
theorem d_readItem (E : rp_E) {M : rp_M} {pd : List Nat} (hp : PT pd M) {c pos : Nat} (hc : c ≤ 20) (hpos : pos ≤ 80) (hs : ps pos false M) (h8 : M 155 8 = nI c) : rp_Run E YX6_readItem [.ref 155] M (rp_P0 (ipost pd (5 * c) pos M)) := by
  have hl := hp.2.2.1
  refine vX6_readItem E _ M ⟨_, d_num E hp (least := 1) (by omega) (by omega) hs, fun v M1 h1 => ?_⟩
  rw [h8, show (5 : Int32) * nI c = nI (5 * c) from pk_mul 5 c, show nI (5 * c) + 0 = nI (5 * c) from nI_add (5 * c) 0]
  refine ⟨nI_inb (by omega) (by omega), fun M2 e2 => ?_⟩
  rw [nI_clamp (by omega)] at e2
  have k2 : kw (5 * c) M M2 := by
    rw [e2]
    exact (h1.1.kw _).tr (Nat.le_refl _) (kw.st (Nat.le_refl _) _)
  have m2 : M2 155 8 = M 155 8 := by rw [e2, rp_s_ne (by omega), h1.1.m8]
  have a2 : M2 159 (5 * c) = v := by rw [e2, rp_s_at]
  rcases h1.2 with ⟨w, p1, h3, h4, h5⟩ | ⟨h3, h4, h5⟩
  · have s2 : ps p1 false M2 := by rw [e2]; exact h5.st _
    have hpl := rN_len h3
    refine ⟨fun h => absurd s2.2 h, fun _ => ⟨_, d_takes E (hp.kw k2) (ch := 47) (by omega) s2 (by omega), fun v3 M3 h6 => ⟨fun hv M4 e4 => ?_, fun hv M4 e4 => ?_⟩⟩⟩
    · rcases h6.2 with h7 | h7
      · have hlt := tx_ne h7.1 (by decide)
        have s4 : ps (p1 + 1) false M4 := by
          rw [e4]
          exact ps6 (w := false) h7.2.2.1 false rfl
        have q4 : kq M2 M4 := h6.1.tr (by rw [e4]; exact kw6)
        have k4 : kw (5 * c) M M4 := k2.tr (Nat.le_refl _) (q4.kw _)
        have m4 : M4 155 8 = M 155 8 := by rw [q4.m8, m2]
        refine g45 E (hp.kw k4) (by omega) (by omega) s4 _ (fun M' x y d g p2 p3 p4 q z1 z2 z3 z4 z5 z6 z7 z8 z9 z10 => ⟨rfl, ⟨k4.tr (by omega) z5.1, by rw [z5.2, m4]⟩, Or.inl ⟨(w, x, y, d, g), q, ?_, z6, ?_, z7, z8, z9, z10⟩⟩) (fun M' e z1 z2 z3 => ⟨rfl, ⟨k4.tr (Nat.le_refl _) z2.1, by rw [z2.2, m4]⟩, Or.inr ⟨e, ?_, z3⟩⟩)
        · unfold rI
          rw [h3]
          show (if tx pd p1 = 47 then _ else _) = _
          rw [if_pos h7.1, z1]
          show sbind (rO (tx pd) 43 p2) _ = _
          rw [z2]
          show sbind (rO (tx pd) 45 p3) _ = _
          rw [z3]
          show sbind (rGr (tx pd) p4) _ = _
          rw [z4]
          rfl
        · rw [z5.1.2.2 _ (by omega), q4.r, a2, h4]
        · unfold rI
          rw [h3]
          show (if tx pd p1 = 47 then _ else _) = _
          rw [if_pos h7.1]
          rcases z1 with z1 | ⟨x, p2, z1, z4⟩
          · rw [z1]
            rfl
          · rw [z1]
            show sbind (rO (tx pd) 43 p2) _ = _
            rcases z4 with z4 | ⟨y, p3, z4, z5⟩
            · rw [z4]
              rfl
            · rw [z4]
              show sbind (rO (tx pd) 45 p3) _ = _
              rcases z5 with z5 | ⟨d, p4, z5, z6⟩
              · rw [z5]
                rfl
              · rw [z5]
                show sbind (rGr (tx pd) p4) _ = _
                rw [z6]
                rfl
      · exact absurd h7.2.1 hv
    · rcases h6.2 with h7 | h7
      · rw [h7.2.1] at hv
        exact absurd hv (by decide)
      · have q4 : kq M2 M4 := h6.1.tr (by rw [e4]; exact kw6)
        have k4 : kw (5 * c) M M4 := k2.tr (Nat.le_refl _) (q4.kw _)
        have m4 : M4 155 8 = M 155 8 := by rw [q4.m8, m2]
        refine w45 E (e := p1) (by omega) (by rw [e4]; exact ps6 (w := false) h7.2.2.1 true rfl) _ (fun M' z2 z3 => ⟨rfl, ⟨k4.tr (Nat.le_refl _) z2.1, by rw [z2.2, m4]⟩, Or.inr ⟨p1, ?_, z3⟩⟩)
        unfold rI
        rw [h3]
        show (if tx pd p1 = 47 then _ else _) = _
        rw [if_neg h7.1]
  · have s2 : ps pos true M2 := by rw [e2]; exact h5.st _
    refine ⟨fun _ M4 e4 => ?_, fun h => absurd (h.symm.trans s2.2) (by decide)⟩
    have q4 : kq M2 M4 := by rw [e4]; exact kw6
    have m4 : M4 155 8 = M 155 8 := by rw [q4.m8, m2]
    refine w45 E (e := pos) (by omega) (by rw [e4]; exact ps6 (w := true) s2.1 true rfl) _ (fun M' z2 z3 => ⟨rfl, ⟨(k2.tr (Nat.le_refl _) (q4.kw _)).tr (Nat.le_refl _) z2.1, by rw [z2.2, m4]⟩, Or.inr ⟨pos, ?_, z3⟩⟩)
    unfold rI
    rw [h3]
    rfl
