/-! CONSTRUCTORS, 3: cells in rows, and one object made with its constructor -/
theorem va_Pm {D : va_G} {cl : List vw_C} {ws ws' : va_W} {H : Heap} (h : va_P D cl ws H) (hs : ∀ q ∈ ws', q ∈ ws) : va_P D cl ws' H := fun k q hk => by
  obtain ⟨i, hi⟩ := List.getElem?_of_mem (hs q (List.mem_of_getElem? hk))
  exact h i q hi
theorem va_D_iff {A : Nat → Prop} {ws : va_W} : va_D A ws ↔ (ws.map (·.1)).Nodup ∧ ∀ q ∈ ws, A q.1 := by
  constructor
  · rintro ⟨h1, h2⟩
    refine ⟨?_, fun q hq => ?_⟩
    · unfold List.Nodup
      rw [List.pairwise_iff_getElem]
      intro i j hi hj hij e
      rw [List.length_map] at hi hj
      rw [List.getElem_map, List.getElem_map] at e
      have := h1 i j ws[i] ws[j] (List.getElem?_eq_getElem hi) (List.getElem?_eq_getElem hj) e
      omega
    · obtain ⟨i, hi⟩ := List.getElem?_of_mem hq
      exact h2 i q hi
  · rintro ⟨h1, h2⟩
    refine ⟨fun i j p q hp hq e => ?_, fun k q hk => h2 q (List.mem_of_getElem? hk)⟩
    unfold List.Nodup at h1
    rw [List.pairwise_iff_getElem] at h1
    obtain ⟨hi, ei⟩ := List.getElem?_eq_some_iff.mp hp
    obtain ⟨hj, ej⟩ := List.getElem?_eq_some_iff.mp hq
    have g : ∀ a b (ha : a < ws.length) (hb : b < ws.length), a < b → ws[a].1 ≠ ws[b].1 := fun a b ha hb hab z => by
      have := h1 a b (by rw [List.length_map]; exact ha) (by rw [List.length_map]; exact hb) hab
      rw [List.getElem_map, List.getElem_map] at this
      exact this z
    apply Classical.byContradiction
    intro z
    by_cases lt : i < j
    · exact g i j hi hj lt (by rw [ei, ej]; exact e)
    · exact g j i hj hi (by omega) (by rw [ei, ej]; exact e.symm)
theorem va_Dp {A : Nat → Prop} {ws ws' : va_W} (h : va_D A ws) (hp : ws.Perm ws') : va_D A ws' := by
  rw [va_D_iff] at h ⊢
  exact ⟨(hp.map _).nodup_iff.mp h.1, fun q hq => h.2 q (hp.mem_iff.mpr hq)⟩
theorem va_Pp {D : va_G} {cl : List vw_C} {ws ws' : va_W} {H : Heap} (h : va_P D cl ws H) (hp : ws.Perm ws') : va_P D cl ws' H := va_Pm h (fun q hq => hp.mem_iff.mpr hq)
theorem seg_len (u : Nat → Nat) (ca : Nat → ClassId) (lo n : Nat) : (seg u ca lo n).length = n := by
  unfold seg
  rw [List.length_map, List.length_range]
theorem seg_app (u : Nat → Nat) (ca : Nat → ClassId) (lo n k : Nat) : seg u ca lo (n + k) = seg u ca lo n ++ seg u ca (lo + n) k := by
  unfold seg
  rw [List.range_add, List.map_append, List.map_map]
  congr 1
  apply List.map_congr_left
  intro j _
  show (u (lo + (n + j)), _) = _
  rw [← Nat.add_assoc]
theorem rp_fs_cg {u v : Nat → Nat} {f : Nat → Int32} : ∀ (refs : List (Option Nat)) (j : Nat), (∀ i, some i ∈ refs → u i = v i) → rp_fs u f j refs = rp_fs v f j refs
  | [], _, _ => rfl
  | none :: l, j, h => by
    show Value.int (f j) :: rp_fs u f (j + 1) l = Value.int (f j) :: rp_fs v f (j + 1) l
    rw [rp_fs_cg l (j + 1) (fun i hi => h i (List.mem_cons_of_mem _ hi))]
  | some i :: l, j, h => by
    show Value.ref (u i) :: rp_fs u f (j + 1) l = Value.ref (v i) :: rp_fs v f (j + 1) l
    rw [rp_fs_cg l (j + 1) (fun i hi => h i (List.mem_cons_of_mem _ hi)), h i List.mem_cons_self]
theorem getD_mem {refs : List (Option Nat)} {j i : Nat} (h : refs.getD j none = some i) : some i ∈ refs := by
  rw [List.getD_eq_getElem?_getD] at h
  cases q : refs[j]? with
  | none => rw [q] at h; cases h
  | some x =>
    rw [q] at h
    have h : x = some i := h
    rw [← h]
    exact List.mem_of_getElem? q
theorem rp_en_cg {u v : Nat → Nat} {ca : Nat → ClassId} {f : Nat → Int32} (sh : Nat × Nat × List (Option Nat)) (h : ∀ i, some i ∈ sh.2.2 → u i = v i) : rp_en u ca sh f = rp_en v ca sh f := by
  obtain ⟨k, n, refs⟩ := sh
  have e : (fun j => (refs.getD j none).map u) = (fun j => (refs.getD j none).map v) := by
    funext j
    cases q : refs.getD j none with
    | none => rfl
    | some i => exact congrArg some (h i (getD_mem q))
  match k with
  | 0 => rfl
  | 1 => rfl
  | 2 =>
    show (Sum.inl (ca 2, n, Sum.inr (Sum.inr (Sum.inr (Sum.inr (fun j => (refs.getD j none).map u))))) : va_E) = Sum.inl (ca 2, n, Sum.inr (Sum.inr (Sum.inr (Sum.inr (fun j => (refs.getD j none).map v)))))
    rw [e]
  | 3 =>
    show (Sum.inl (ca 3, n, Sum.inr (Sum.inr (Sum.inr (Sum.inr (fun j => (refs.getD j none).map u))))) : va_E) = Sum.inl (ca 3, n, Sum.inr (Sum.inr (Sum.inr (Sum.inr (fun j => (refs.getD j none).map v)))))
    rw [e]
  | c + 4 =>
    show (Sum.inr (c, rp_fs u f 0 refs) : va_E) = Sum.inr (c, rp_fs v f 0 refs)
    rw [rp_fs_cg refs 0 h]
def inr (lo n : Nat) : Bool := (List.range n).all (fun j => (rp_sh (lo + j)).2.2.all (fun r => match r with
  | none => true
  | some i => decide (lo ≤ i ∧ i < lo + n)))
theorem seg_cg {u v : Nat → Nat} {ca : Nat → ClassId} {lo n : Nat} (hin : inr lo n = true) (h : ∀ k, lo ≤ k → k < lo + n → u k = v k) : seg u ca lo n = seg v ca lo n := by
  unfold seg
  apply List.map_congr_left
  intro j hj
  have hj2 := List.mem_range.mp hj
  have h1 := List.all_eq_true.mp hin j hj
  rw [h (lo + j) (by omega) (by omega), rp_en_cg _ (fun i hi => ?_)]
  have h2 := List.all_eq_true.mp h1 (some i) hi
  have h2 : decide (lo ≤ i ∧ i < lo + n) = true := h2
  have h3 := of_decide_eq_true h2
  exact h i h3.1 h3.2
theorem inr_st : ∀ s, s < 14 → inr 0 (10 * s) = true := by decide +kernel
theorem sh_st : ∀ s, s < 13 → ∀ j, j < 10 → rp_sh (10 * s + j) = ((rp_sh j).1, (rp_sh j).2.1, (rp_sh j).2.2.map (Option.map (10 * s + ·))) := by decide +kernel
theorem sh_lt : ∀ j, j < 10 → (rp_sh j).2.2.all (fun r => match r with | none => true | some i => decide (i < 10)) = true := by decide +kernel
theorem m0_st {s j : Nat} (hs : s < 13) (hj : j < 10) : m0 (10 * s + j) = m0 j := by
  unfold m0
  by_cases q : j = 9
  · rw [if_pos (by omega), if_pos (by omega)]
  · rw [if_neg (by omega), if_neg (by omega), if_neg (by omega), if_neg (by omega), if_neg (by omega), if_neg (by omega)]
theorem rp_fs_sh {u v : Nat → Nat} {f : Nat → Int32} {b : Nat} : ∀ (refs : List (Option Nat)) (j : Nat), (∀ i, some i ∈ refs → u (b + i) = v i) → rp_fs u f j (refs.map (Option.map (b + ·))) = rp_fs v f j refs
  | [], _, _ => rfl
  | none :: l, j, h => by
    show Value.int (f j) :: rp_fs u f (j + 1) (l.map (Option.map (b + ·))) = Value.int (f j) :: rp_fs v f (j + 1) l
    rw [rp_fs_sh l (j + 1) (fun i hi => h i (List.mem_cons_of_mem _ hi))]
  | some i :: l, j, h => by
    show Value.ref (u (b + i)) :: rp_fs u f (j + 1) (l.map (Option.map (b + ·))) = Value.ref (v i) :: rp_fs v f (j + 1) l
    rw [rp_fs_sh l (j + 1) (fun i hi => h i (List.mem_cons_of_mem _ hi)), h i List.mem_cons_self]
theorem seg_st {u v : Nat → Nat} {ca : Nat → ClassId} {s : Nat} (hs : s < 13) (h : ∀ j, j < 10 → u (10 * s + j) = v j) : seg u ca (10 * s) 10 = seg v ca 0 10 := by
  unfold seg
  apply List.map_congr_left
  intro j hj
  have hj2 := List.mem_range.mp hj
  rw [Nat.zero_add, h j hj2, m0_st hs hj2, sh_st s hs j hj2]
  have hr : ∀ i, some i ∈ (rp_sh j).2.2 → u (10 * s + i) = v i := fun i hi => by
    have h2 := List.all_eq_true.mp (sh_lt j hj2) (some i) hi
    have h2 : decide (i < 10) = true := h2
    exact h i (of_decide_eq_true h2)
  generalize rp_sh j = sh at hr ⊢
  obtain ⟨k, n, refs⟩ := sh
  have e : (fun x => ((refs.map (Option.map (10 * s + ·))).getD x none).map u) = (fun x => (refs.getD x none).map v) := by
    funext x
    rw [List.getD_eq_getElem?_getD, List.getElem?_map, List.getD_eq_getElem?_getD]
    cases q : refs[x]? with
    | none => rfl
    | some y =>
      cases y with
      | none => rfl
      | some i => exact congrArg some (hr i (List.mem_of_getElem? q))
  congr 1
  match k with
  | 0 => rfl
  | 1 => rfl
  | 2 =>
    show (Sum.inl (ca 2, n, Sum.inr (Sum.inr (Sum.inr (Sum.inr (fun x => ((refs.map (Option.map (10 * s + ·))).getD x none).map u))))) : va_E) = Sum.inl (ca 2, n, Sum.inr (Sum.inr (Sum.inr (Sum.inr (fun j => (refs.getD j none).map v)))))
    rw [e]
  | 3 =>
    show (Sum.inl (ca 3, n, Sum.inr (Sum.inr (Sum.inr (Sum.inr (fun x => ((refs.map (Option.map (10 * s + ·))).getD x none).map u))))) : va_E) = Sum.inl (ca 3, n, Sum.inr (Sum.inr (Sum.inr (Sum.inr (fun j => (refs.getD j none).map v)))))
    rw [e]
  | c + 4 =>
    show (Sum.inr (c, rp_fs u (m0 j) 0 (refs.map (Option.map (10 * s + ·)))) : va_E) = Sum.inr (c, rp_fs v (m0 j) 0 refs)
    rw [rp_fs_sh refs 0 hr]
theorem va_D.left {A : Nat → Prop} {a b : va_W} (h : va_D A (a ++ b)) : va_D A a := by
  rw [va_D_iff] at h ⊢
  refine ⟨?_, fun q hq => h.2 q (List.mem_append_left _ hq)⟩
  have := h.1
  rw [List.map_append] at this
  exact (List.nodup_append.mp this).1
theorem va_D.right {A : Nat → Prop} {a b : va_W} (h : va_D A (a ++ b)) : va_D A b := by
  rw [va_D_iff] at h ⊢
  refine ⟨?_, fun q hq => h.2 q (List.mem_append_right _ hq)⟩
  have := h.1
  rw [List.map_append] at this
  exact (List.nodup_append.mp this).2.1
theorem rc_join {A0 : Nat → Prop} {D : va_G} {cl : List vw_C} {ws w1 : va_W} {x : Nat × va_E} {H H1 : Heap} (hP : va_P D cl (ws ++ [x]) H) (hD : va_D A0 (ws ++ [x])) (hk : ∀ q : Nat, q < H.size → ¬ va_A [x] H.size q → H1[q]? = H[q]?) (hF : ∀ q, va_A [x] H.size q → A0 q) (hP1 : va_P D cl w1 H1) (hD1 : va_D (va_A [x] H.size) w1) : va_P D cl (ws ++ w1) H1 ∧ va_D A0 (ws ++ w1) := by
  have apart : ∀ (k : Nat) (q : Nat × va_E), ws[k]? = some q → q.1 < H.size ∧ ¬ va_A [x] H.size q.1 := by
    intro k q hq
    have hkl := (List.getElem?_eq_some_iff.mp hq).1
    have hq2 : (ws ++ [x])[k]? = some q := by rw [List.getElem?_append_left hkl]; exact hq
    have hl := (hP k q hq2).lt
    refine ⟨hl, fun h => ?_⟩
    rcases h with ⟨k2, e, h⟩ | h
    · have hk2 := (List.getElem?_eq_some_iff.mp h).1
      rw [List.length_singleton] at hk2
      rw [show k2 = 0 by omega] at h
      cases h
      have := hD.1 k ws.length q (q.1, e) hq2 (by rw [List.getElem?_append_right (Nat.le_refl _), Nat.sub_self]; rfl) rfl
      omega
    · omega
  refine ⟨va_P.app (fun k q hq => ?_) hP1, va_D.app hD.left (hD1.weaken (fun k q _ h => hF q.1 h)) (fun i j x y hx hy hxy => ?_)⟩
  · obtain ⟨g1, g2⟩ := apart k q hq
    have hkl := (List.getElem?_eq_some_iff.mp hq).1
    exact (hP k q (by rw [List.getElem?_append_left hkl]; exact hq)).kept (hk q.1 g1 g2)
  · exact (apart i x hx).2 (by rw [hxy]; exact hD1.2 j y hy)
def rc_ctg (l : Launch) (y : MethodName) (ws : List Cond) (rm : Room) (D : va_G) (ca : Nat → ClassId) (ci : Nat) (fs : List Value) (lo n k0 mc ms : Nat) : Prop :=
  ∀ h0 sz : Nat, Met l y ws rm (va_Pc [.ref h0] (fun U => U.heap.size = sz ∧ va_P D vwCl [(h0, .inr (ci, fs))] U.heap ∧ va_K D vwCl (rc_tys ca) U ∧ va_D (fun _ => True) [(h0, .inr (ci, fs))] ∧ va_AOA .int U ∧ va_AO "RobustPacking$State" U))
    (va_Qv (fun u : Nat → Nat => u k0 = h0) (fun u t => va_P D vwCl (seg u ca lo n) t.heap ∧ va_D (va_A [(h0, .inr (ci, fs))] sz) (seg u ca lo n)) (va_A [(h0, .inr (ci, fs))] sz)) mc ms (va_A [(h0, .inr (ci, fs))] sz)
theorem rc_g {l : Launch} {y : MethodName} {ws : List Cond} {rm : Room} {D : va_G} {ca : Nat → ClassId} {ci : Nat} {fs : List Value} {lo n mc ms : Nat} (h : rc_ctor l y ws rm D ca ci fs lo n mc ms) : rc_ctg l y ws rm D ca ci fs lo n lo mc ms := fun h0 sz => h h0 sz
section RM
variable {p : Program} {l : Launch} {e : Env} {R : Room} {s : State} {m : MethodId} {args : Array Value} {below : List Frame} {meth : Method} {c : Code} {H : Heap} {locs : List Loc} {cells slots : Nat} {Q : State → Prop} {D : va_G} {ca : Nat → ClassId} {ws : va_W} {A : Nat → Prop} {H0 : Heap} {cc : ByteArray} {pc nL : Nat} {ls : Array Slot} {rest : List Value} {own C : String} {Ts : List Cond}
/-- new C; dup; C.<init>() -/
theorem rc_make {T : u_T} {N ci i1 i2 lo n k0 mc ms : Nat} {y : MethodName} {bytes : ByteArray} {maxL : Nat} {wsC : List Cond} {rm : Room} {fs : List Value} (hF : CallFix p m c cc nL s args Ts own) (ty : Nat → FieldType) (hin : ∀ w ∈ u_ws C T N, w ∈ Ts) (hty : ∀ k, k < N → parseFieldDescriptor (T k).2.2.1 = some (ty k)) (hcl : (Cond.classLink own i1 C).before args s = true) (hinst : (Cond.instantiable C N).before args s = true) (hini : (Cond.initialized C).before args s = true)
    (hK : va_K D vwCl (rc_tys ca) s) (hAOA : va_AOA .int s) (hAO : va_AO "RobustPacking$State" s) (hP : va_P D vwCl ws H) (hD : va_D A ws) (hS : va_S A H0 H locs) (hA : ∀ q, H0.size ≤ q → A q) (hc : vwCl[ci]? = some (C, T, N)) (hfs : ∀ j, j < N → defaultValue (ty j) = vp_V fs j) (hct : rc_ctg l y wsC rm D ca ci fs lo n k0 mc ms) (cw : CallB R s args own i2 y bytes maxL none wsC rm mc ms 0 ∧ y.name = "<init>" ∧ (Cond.instanceMethod y).before args s = true)
    (hls : ls.size = nL) (hcat : (rest.map fun v => v.category).sum ≤ 4) (hcells : cells + 1 + mc ≤ R.cells) (hslots : slots + N + ms ≤ R.slots) (d1 : decode cc pc = .ok (.new i1, 3)) (d2 : decode cc (pc + 3) = .ok (.dup, 1)) (d3 : decode cc (pc + 4) = .ok (.invokespecial i2, 3))
    (kk : ∀ (u : Nat → Nat) (H1 : Heap) (locs1 : List Loc), va_P D vwCl (ws ++ seg u ca lo n) H1 → va_D A (ws ++ seg u ca lo n) → va_S A H0 H1 locs1 → W p l e R s m args below meth c H1 locs1 (cells + 1 + mc) (slots + N + ms) Q (F0 m (pc + 7) ls (.ref (u k0) :: rest))) : W p l e R s m args below meth c H locs cells slots Q (F0 m pc ls rest) := by
  have hx := hF.1
  have hb := hF.2.1
  have hown := hF.2.2.2.1
  have hts := hF.2.2.2.2
  refine va_new (ci := ci) (fs := fs) (C := C) (T := T) (N := N) hx hb hts hin ty hty hown hcl hinst hini hK hP hD hS hA hc hfs (by omega) (by omega) d1 (fun q H1 hP1 hD1 hS1 => ?_)
  refine lv_dup hx hb d2 rfl ?_
  have hPc : va_P D vwCl [(q, .inr (ci, fs))] H1 := va_Pm hP1 (fun x hx => List.mem_append_right _ hx)
  have hDc : va_D A [(q, .inr (ci, fs))] := hD1.right
  have hFc : ∀ x, va_A [(q, .inr (ci, fs))] H1.size x → A x := fun x h => by
    rcases h with ⟨k, e', h⟩ | h
    · have := hDc.2 k (x, e') h
      exact this
    · exact hA x (Nat.le_trans hS1.1 h)
  refine va_callv (va_runI (As := []) (rest := .ref q :: rest) hF (hct q H1.size) cw ⟨fun a U g mk z => ?_, fun U hU hW => ⟨rfl, by rw [hU], by rw [hU]; exact hPc, va_K.moved hW.alike hK, hDc.weaken (fun _ _ _ _ => trivial), va_AOA.moved hW.alike hAOA, va_AO.moved hW.alike hAO⟩⟩ rfl rfl hls rfl (lv_room ?_) d3 ⟨hcells, hslots⟩) hS1 (fun q _ h => hFc q h) hFc (fun u t H2 locs ht hvm hw hB hz1 hk1 hS => ?_)
  · obtain ⟨z0, z1, zP, zK, zD, zO, zQ⟩ := z
    exact ⟨z0, z1, zP, va_K.moved (u := U) (U := U.calling g mk a) (Vm.Alike.refl U.vm) zK, zD, va_AOA.moved (u := U) (U := U.calling g mk a) (Vm.Alike.refl U.vm) zO, va_AO.moved (u := U) (U := U.calling g mk a) (Vm.Alike.refl U.vm) zQ⟩
  · show ((Value.ref q).category :: rest.map fun v => v.category).sum ≤ 8
    rw [List.sum_cons]
    show 1 + _ ≤ 8
    omega
  · obtain ⟨hP2, hD2⟩ := hB
    rw [ht] at hP2
    obtain ⟨hP3, hD3⟩ := rc_join hP1 hD1 hk1 hFc hP2 hD2
    have hw : u k0 = q := hw
    rw [← hw]
    exact kk u H2 locs hP3 hD3 hS
end RM
