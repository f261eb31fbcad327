/-! ANSWERS, 5: the levels' lists; and the reference's -/
noncomputable def gwt (p : Nat → Prop) (T : Nat) (x : Int32) : Option Nat := @dite (Option Nat) (∃ u, u ≤ T ∧ p u ∧ x = nI (cntp p u)) (Classical.propDecidable _) (fun h => some (Classical.choose h)) (fun _ => none)
theorem gwt_some {p : Nat → Prop} {T : Nat} (hT : T < 2 ^ 31) {x : Int32} {u : Nat} (h1 : u ≤ T) (h2 : p u) (h3 : x = nI (cntp p u)) : gwt p T x = some u := by
  have h : ∃ u, u ≤ T ∧ p u ∧ x = nI (cntp p u) := ⟨u, h1, h2, h3⟩
  have e : gwt p T x = some (Classical.choose h) := @dif_pos _ (Classical.propDecidable _) h _ _ _
  rw [e]
  obtain ⟨a1, a2, a3⟩ := Classical.choose_spec h
  have b1 := cntp_le (p := p) u
  have b2 := cntp_le (p := p) (Classical.choose h)
  have a4 := (nI_eq (by omega) (by omega)).mp (h3.symm.trans a3)
  rw [cntp_inj h2 a2 a4]
theorem gwt_none {p : Nat → Prop} {T : Nat} {x : Int32} (h : ∀ u, u ≤ T → p u → x ≠ nI (cntp p u)) : gwt p T x = none :=
  @dif_neg _ (Classical.propDecidable _) (fun ⟨u, a1, a2, a3⟩ => h u a1 a2 a3) _ _ _
def lV (S : rs_S) (c : Nat) : Int := (zsum S 0 c : Int)
def lW (S : rs_S) (c : Nat) : Nat := zheavy S c (zg S)
noncomputable def lsb (S : rs_S) (l w : Nat) : Nat := sb (fun _ => true) (lV S) (lW S) (2 ^ l) w
def lstp (S : rs_S) (l w : Nat) : Prop := stp (fun _ => true) (lV S) (lW S) (2 ^ l) w
theorem lW0 (S : rs_S) : lW S 0 = 0 := zheavy0 S _
theorem lsb_opt (S : rs_S) (l w : Nat) : isOpt (okw (fun _ => true) (lW S) w) (lV S) (lW S) (2 ^ l) (lsb S l w) := sb_opt (Nat.two_pow_pos _) rfl (lW0 S)
theorem lsb_mono (S : rs_S) (l : Nat) {w w' : Nat} (h : w ≤ w') : lV S (lsb S l w) ≤ lV S (lsb S l w') := sb_mono (Nat.two_pow_pos _) rfl (lW0 S) h
theorem lstp_W {S : rs_S} {l w : Nat} (h : lstp S l w) : lW S (lsb S l w) = w := stp_W (Nat.two_pow_pos _) rfl (lW0 S) h
/-- there are no more steps than choices -/
theorem lstp_cnt (S : rs_S) (l N : Nat) : cntp (lstp S l) N ≤ cntp (fun c => ∃ u, u < N ∧ lstp S l u ∧ lsb S l u = c) (2 ^ l) := by
  induction N with
  | zero => exact Nat.zero_le _
  | succ N ih =>
    show cntp (lstp S l) N + _ ≤ _
    by_cases h : lstp S l N
    · rw [if_pos (pB_t.mpr h)]
      have := cntp_lt (p := fun c => ∃ u, u < N ∧ lstp S l u ∧ lsb S l u = c) (q := fun c => ∃ u, u < N + 1 ∧ lstp S l u ∧ lsb S l u = c) (m := 2 ^ l) (a := lsb S l N) (fun c _ ⟨u, h1, h2⟩ => ⟨u, by omega, h2⟩) (lsb_opt S l N).1 ⟨N, by omega, h, rfl⟩ (fun ⟨u, h1, h2, h3⟩ => by
        have e1 := lstp_W h2
        have e2 := lstp_W h
        rw [h3] at e1
        omega)
      omega
    · rw [if_neg (fun z => h (pB_t.mp z))]
      have := cntp_mono (p := fun c => ∃ u, u < N ∧ lstp S l u ∧ lsb S l u = c) (q := fun c => ∃ u, u < N + 1 ∧ lstp S l u ∧ lsb S l u = c) (m := 2 ^ l) (fun c _ ⟨u, h1, h2⟩ => ⟨u, by omega, h2⟩)
      omega
theorem lstp_le (S : rs_S) (l N : Nat) : cntp (lstp S l) N ≤ 2 ^ l := Nat.le_trans (lstp_cnt S l N) (cntp_le _)
/-- the first capacity with at least some profit -/
noncomputable def lgf (B : Nat → Int) (v : Int) : Nat → Nat → Nat
  | 0, u => u
  | f + 1, u => if v ≤ B u then u else lgf B v f (u + 1)
theorem lgf_spec {B : Nat → Int} {v : Int} : ∀ (f u w : Nat), u ≤ w → w ≤ u + f → v ≤ B w → (∀ x, x < u → B x < v) → v ≤ B (lgf B v f u) ∧ (∀ x, x < lgf B v f u → B x < v) ∧ lgf B v f u ≤ w
  | 0, u, w, h1, h2, h3, h4 => by
    have e : w = u := by omega
    subst e
    exact ⟨h3, h4, Nat.le_refl _⟩
  | f + 1, u, w, h1, h2, h3, h4 => by
    unfold lgf
    split
    · next q => exact ⟨q, h4, h1⟩
    · next q =>
      have : w ≠ u := fun e => q (e ▸ h3)
      exact lgf_spec f (u + 1) w (by omega) (by omega) h3 (fun x hx => by
        by_cases e : x = u
        · rw [e]
          omega
        · exact h4 x (by omega))
noncomputable def lge (S : rs_S) (l c : Nat) : Nat := lgf (fun w => lV S (lsb S l w)) (lV S c) 30000 0
theorem lge_spec {S : rs_S} (hw : Wf S) {l c : Nat} (hc : c < 2 ^ l) : lV S c ≤ lV S (lsb S l (lge S l c)) ∧ (∀ x, x < lge S l c → lV S (lsb S l x) < lV S c) ∧ lge S l c ≤ lW S c := by
  have h1 := (lsb_opt S l (lW S c)).2.2 c hc (okw_t.mpr ⟨rfl, Nat.le_refl _⟩)
  have h2 : lW S c ≤ 23976 := hw.heavy c (zg S)
  exact lgf_spec (B := fun w => lV S (lsb S l w)) (v := lV S c) 30000 0 (lW S c) (Nat.zero_le _) (by omega) (show lV S c ≤ lV S (lsb S l (lW S c)) by omega) (fun x hx => by omega)
theorem lge_stp {S : rs_S} (hw : Wf S) {l c : Nat} (hc : c < 2 ^ l) : lstp S l (lge S l c) := by
  obtain ⟨h1, h2, h3⟩ := lge_spec hw hc
  by_cases e : lge S l c = 0
  · exact Or.inl e
  · right
    have := h2 (lge S l c - 1) (by omega)
    show lV S (lsb S l (lge S l c - 1)) < lV S (lsb S l (lge S l c))
    omega
/-- a choice is in the list just if it is the first one with its profit -/
theorem lge_in {S : rs_S} (hw : Wf S) {l c u : Nat} (hc : c < 2 ^ l) (hu : lstp S l u) (e : lsb S l u = c) : u = lge S l c := by
  obtain ⟨h1, h2, h3⟩ := lge_spec hw hc
  have hW := lstp_W hu
  rw [e] at hW
  by_cases q : lge S l c = u
  · exact q.symm
  · have h4 : lge S l c ≤ u - 1 := by omega
    have h5 := lsb_mono S l h4
    rcases hu with hu | hu
    · omega
    · have hu : lV S (lsb S l (u - 1)) < lV S (lsb S l u) := hu
      rw [e] at hu
      omega
noncomputable def a_list (S : rs_S) (x y : Int32) : Int32 :=
  if 0 ≤ x.toInt ∧ x.toInt ≤ (zn S : Int) then
    (if y = (-1) then nI (cntp (lstp S x.toNatClampNeg) (zc S + 1)) else
      match gwt (lstp S x.toNatClampNeg) (zc S) y with
      | none => (-6)
      | some u => nI (lsb S x.toNatClampNeg u))
  else (-1)
noncomputable def a_dom (S : rs_S) (x y : Int32) : Int32 :=
  if (0 ≤ x.toInt ∧ x.toInt ≤ (zn S : Int)) ∧ isI (2 ^ x.toNatClampNeg) y = true then
    (if lW S y.toNatClampNeg ≤ zc S then
      (if lsb S x.toNatClampNeg (lge S x.toNatClampNeg y.toNatClampNeg) = y.toNatClampNeg then (-6) else nI (lsb S x.toNatClampNeg (lge S x.toNatClampNeg y.toNatClampNeg)))
     else (-5))
  else (-1)
/-- what the reference lays for a level -/
def LL (S : rs_S) (l : Nat) (M : rp_M) : Prop := M 155 14 = nI (cntp (lstp S l) (zc S + 1)) ∧ (∀ u, u ≤ zc S → lstp S l u → M 164 (cntp (lstp S l) u) = nI (lsb S l u)) ∧ ∀ c, c < 2 ^ l → M 160 c = nI (lW S c) ∧ M 163 c = nI (zsum S 0 c)
/-- the next one of the list, as the reference looks for it -/
noncomputable def inx (S : rs_S) (p : Int) : Nat → Option Nat
  | 0 => none
  | j + 1 => if pB (lW S j ≤ zc S ∧ p < lV S j ∧ ∀ b, inx S p j = some b → lW S j < lW S b ∨ (lW S j = lW S b ∧ lV S b < lV S j)) = true then some j else inx S p j
theorem inx_yes {S : rs_S} {p : Int} {j : Nat} (h : lW S j ≤ zc S ∧ p < lV S j ∧ ∀ b, inx S p j = some b → lW S j < lW S b ∨ (lW S j = lW S b ∧ lV S b < lV S j)) : inx S p (j + 1) = some j := if_pos (pB_t.mpr h)
theorem inx_no {S : rs_S} {p : Int} {j : Nat} (h : ¬ (lW S j ≤ zc S ∧ p < lV S j ∧ ∀ b, inx S p j = some b → lW S j < lW S b ∨ (lW S j = lW S b ∧ lV S b < lV S j))) : inx S p (j + 1) = inx S p j := if_neg (fun q => h (pB_t.mp q))
theorem inx_none {S : rs_S} {p : Int} : ∀ m, inx S p m = none → ∀ c, c < m → lW S c ≤ zc S → ¬ p < lV S c
  | 0, _, c, hc, _ => by omega
  | m + 1, h, c, hc, h1 => by
    by_cases q : lW S m ≤ zc S ∧ p < lV S m ∧ ∀ b, inx S p m = some b → lW S m < lW S b ∨ (lW S m = lW S b ∧ lV S b < lV S m)
    · rw [inx_yes q] at h
      cases h
    · rw [inx_no q] at h
      by_cases e : c = m
      · subst e
        exact fun z => q ⟨h1, z, fun b hb => by rw [h] at hb; cases hb⟩
      · exact inx_none m h c (by omega) h1
theorem inx_some {S : rs_S} {p : Int} : ∀ m b, inx S p m = some b → b < m ∧ lW S b ≤ zc S ∧ p < lV S b ∧ ∀ c, c < m → lW S c ≤ zc S → p < lV S c → lW S b < lW S c ∨ (lW S b = lW S c ∧ (lV S c < lV S b ∨ (lV S c = lV S b ∧ b ≤ c)))
  | 0, b, h => by cases h
  | m + 1, b, h => by
    by_cases q : lW S m ≤ zc S ∧ p < lV S m ∧ ∀ b, inx S p m = some b → lW S m < lW S b ∨ (lW S m = lW S b ∧ lV S b < lV S m)
    · rw [inx_yes q] at h
      cases h
      refine ⟨by omega, q.1, q.2.1, fun c hc h1 h2 => ?_⟩
      by_cases e : c = m
      · subst e
        exact Or.inr ⟨rfl, Or.inr ⟨rfl, Nat.le_refl _⟩⟩
      · cases hb : inx S p m with
        | none => exact absurd h2 (inx_none m hb c (by omega) h1)
        | some b' =>
          have h3 := (inx_some m b' hb).2.2.2 c (by omega) h1 h2
          have h4 := q.2.2 b' hb
          omega
    · rw [inx_no q] at h
      obtain ⟨h1, h2, h3, h4⟩ := inx_some m b h
      refine ⟨by omega, h2, h3, fun c hc h5 h6 => ?_⟩
      by_cases e : c = m
      · subst e
        have h7 : ¬ (lW S c < lW S b ∨ (lW S c = lW S b ∧ lV S b < lV S c)) := fun z => q ⟨h5, h6, fun b2 hb2 => by rw [h] at hb2; cases hb2; exact z⟩
        omega
      · exact h4 c (by omega) h5 h6
/-- what has to be beaten behind the capacities below v -/
noncomputable def lpv (S : rs_S) (l v : Nat) : Int := if v = 0 then (-1) else lV S (lsb S l (v - 1))
theorem lV_nn (S : rs_S) (c : Nat) : 0 ≤ lV S c := Int.natCast_nonneg _
theorem inx_step {S : rs_S} {l v b : Nat} (h : inx S (lpv S l v) (2 ^ l) = some b) : v ≤ lW S b ∧ lstp S l (lW S b) ∧ lsb S l (lW S b) = b ∧ (∀ x, v ≤ x → x < lW S b → ¬ lstp S l x) ∧ lW S b ≤ zc S := by
  obtain ⟨h1, h2, h3, h4⟩ := inx_some _ _ h
  have low : ∀ c, c < 2 ^ l → lW S c < lW S b → lV S c ≤ lpv S l v := fun c hc hcb => by
    apply Classical.byContradiction
    intro z
    have := h4 c hc (by omega) (by omega)
    omega
  have hopt : isOpt (okw (fun _ => true) (lW S) (lW S b)) (lV S) (lW S) (2 ^ l) b := by
    refine ⟨h1, okw_t.mpr ⟨rfl, Nat.le_refl _⟩, fun c hc hok => ?_⟩
    have hcW := (okw_t.mp hok).2
    by_cases z : lpv S l v < lV S c
    · have := h4 c hc (by omega) z
      omega
    · omega
  have heq : lsb S l (lW S b) = b := isOpt_uniq (lsb_opt S l (lW S b)) hopt
  have hv : v ≤ lW S b := by
    by_cases e : v = 0
    · omega
    · apply Classical.byContradiction
      intro z
      have := (lsb_opt S l (v - 1)).2.2 b h1 (okw_t.mpr ⟨rfl, by omega⟩)
      unfold lpv at h3
      rw [if_neg e] at h3
      omega
  refine ⟨hv, ?_, heq, fun x hx hxb hs => ?_, h2⟩
  · by_cases e : lW S b = 0
    · exact Or.inl e
    · right
      show lV S (lsb S l (lW S b - 1)) < lV S (lsb S l (lW S b))
      rw [heq]
      have ho := lsb_opt S l (lW S b - 1)
      have := low _ ho.1 (by have := (okw_t.mp ho.2.1).2; omega)
      omega
  · have ho := lsb_opt S l x
    have h5 := low _ ho.1 (by have := (okw_t.mp ho.2.1).2; omega)
    rcases hs with hs | hs
    · subst hs
      have e : v = 0 := by omega
      unfold lpv at h5
      rw [if_pos e] at h5
      have := lV_nn S (lsb S l 0)
      omega
    · have hs : lV S (lsb S l (x - 1)) < lV S (lsb S l x) := hs
      by_cases e : v = 0
      · unfold lpv at h5
        rw [if_pos e] at h5
        have := lV_nn S (lsb S l x)
        omega
      · unfold lpv at h5
        rw [if_neg e] at h5
        have := lsb_mono S l (show v - 1 ≤ x - 1 by omega)
        omega
theorem inx_end {S : rs_S} {l v : Nat} (h : inx S (lpv S l v) (2 ^ l) = none) : ∀ x, v ≤ x → x ≤ zc S → ¬ lstp S l x := by
  intro x hx hxc hs
  have ho := lsb_opt S l x
  have hW := (okw_t.mp ho.2.1).2
  have h5 := inx_none _ h _ ho.1 (by omega)
  rcases hs with hs | hs
  · subst hs
    have e : v = 0 := by omega
    unfold lpv at h5
    rw [if_pos e] at h5
    have := lV_nn S (lsb S l 0)
    omega
  · have hs : lV S (lsb S l (x - 1)) < lV S (lsb S l x) := hs
    by_cases e : v = 0
    · unfold lpv at h5
      rw [if_pos e] at h5
      have := lV_nn S (lsb S l x)
      omega
    · unfold lpv at h5
      rw [if_neg e] at h5
      have := lsb_mono S l (show v - 1 ≤ x - 1 by omega)
      omega
theorem cntp_flat {p : Nat → Prop} {a b : Nat} (hab : a ≤ b) (hn : ∀ x, a ≤ x → x < b → ¬ p x) : cntp p b = cntp p a := by
  have key : ∀ d, a + d ≤ b → cntp p (a + d) = cntp p a := by
    intro d
    induction d with
    | zero => exact fun _ => rfl
    | succ d ih =>
      intro hd
      show cntp p (a + d) + (if pB (p (a + d)) = true then 1 else 0) = _
      rw [if_neg (fun z => hn (a + d) (by omega) (by omega) (pB_t.mp z)), ih (by omega), Nat.add_zero]
  have := key (b - a) (by omega)
  rw [show a + (b - a) = b by omega] at this
  exact this
