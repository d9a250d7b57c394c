/-! THE G LAYER: worlds up to their order -/
theorem gP_perm {D : va_G} {cl : List vw_C} {ws ws' : va_W} {H : Heap} (h : ws.Perm ws') (hP : va_P D cl ws H) : va_P D cl ws' H := fun k q hk => by
  have h1 : q ∈ ws := h.mem_iff.mpr (List.mem_of_getElem? hk)
  obtain ⟨i, hi⟩ := List.getElem?_of_mem h1
  exact hP i q hi
theorem gD_nodup {A : Nat → Prop} {ws : va_W} : va_D A ws ↔ (ws.map (fun q => q.1)).Nodup ∧ ∀ q ∈ ws, A q.1 := by
  constructor
  · intro h
    refine ⟨?_, fun q hq => ?_⟩
    · rw [List.Nodup, List.pairwise_iff_getElem]
      intro i j hi hj hij e
      rw [List.length_map] at hi hj
      rw [List.getElem_map, List.getElem_map] at e
      have := h.1 i j ws[i] ws[j] (List.getElem?_eq_getElem hi) (List.getElem?_eq_getElem hj) e
      omega
    · obtain ⟨i, hi⟩ := List.getElem?_of_mem hq
      exact h.2 i q hi
  · intro h
    refine ⟨fun i j p q hp hq e => ?_, fun k q hk => h.2 q (List.mem_of_getElem? hk)⟩
    obtain ⟨hi, rfl⟩ := List.getElem?_eq_some_iff.mp hp
    obtain ⟨hj, rfl⟩ := List.getElem?_eq_some_iff.mp hq
    have h1 := h.1
    rw [List.Nodup, List.pairwise_iff_getElem] at h1
    rcases Nat.lt_trichotomy i j with h2 | h2 | h2
    · exact absurd (by rw [List.getElem_map, List.getElem_map]; exact e) (h1 i j (by rw [List.length_map]; exact hi) (by rw [List.length_map]; exact hj) h2)
    · exact h2
    · exact absurd (by rw [List.getElem_map, List.getElem_map]; exact e.symm) (h1 j i (by rw [List.length_map]; exact hj) (by rw [List.length_map]; exact hi) h2)
theorem gD_perm {A : Nat → Prop} {ws ws' : va_W} (h : ws.Perm ws') (hD : va_D A ws) : va_D A ws' := by
  rw [gD_nodup] at hD ⊢
  exact ⟨(h.map _).nodup_iff.mp hD.1, fun q hq => hD.2 q (h.mem_iff.mpr hq)⟩
theorem gDisj {ws : va_W} (h : (ws.map (fun q => q.1)).Nodup) : True := trivial
section GLW
variable {X : gX} {own : String} {cc : ByteArray} {ret : Option FieldType} {Q : State → Prop} {ck sk pc : Nat} {ws : va_W} {lv : List (Nat × Value)} {st rest : List Value}
variable {y : MethodName} {bytes : ByteArray} {maxL : Nat} {rety : Option FieldType} {fr lo mc ms e0 : Nat} {As : List Value} {ro' wc wr : va_W} {S : Type} {rv : S → Option Value} {w1 ws' : S → va_W}
theorem g_perm {ws2 : va_W} (h : ws.Perm ws2) (k : gW X Q ck sk ws2 lv st pc) : gW X Q ck sk ws lv st pc := fun H locs ls a1 a2 a3 a4 => k H locs ls (gP_perm h a1) (gD_perm h a2) a3 a4
theorem gRange_l (wc wr : va_W) : (List.range wc.length).map (fun i => (wc ++ wr)[i]?) = wc.map some := by
  apply List.ext_getElem?
  intro i
  rw [List.getElem?_map, List.getElem?_map]
  by_cases h : i < wc.length
  · rw [List.getElem?_range h, List.getElem?_eq_getElem h]
    show some ((wc ++ wr)[i]?) = some (some wc[i])
    rw [List.getElem?_append_left h, List.getElem?_eq_getElem h]
  · rw [List.getElem?_eq_none (by rw [List.length_range]; omega), List.getElem?_eq_none (by omega)]
    rfl
theorem gRange_r (wc wr : va_W) : ((List.range wr.length).map (fun i => i + wc.length)).map (fun i => (wc ++ wr)[i]?) = wr.map some := by
  apply List.ext_getElem?
  intro i
  rw [List.map_map, List.getElem?_map, List.getElem?_map]
  by_cases h : i < wr.length
  · rw [List.getElem?_range h, List.getElem?_eq_getElem h]
    show some ((wc ++ wr)[i + wc.length]?) = some (some wr[i])
    rw [List.getElem?_append_right (by omega), Nat.add_sub_cancel, List.getElem?_eq_getElem h]
  · rw [List.getElem?_eq_none (by rw [List.length_range]; omega), List.getElem?_eq_none (by omega)]
    rfl
theorem gNd_of {is : List Nat} (h : is.Nodup) : va_nd is = true := by
  induction is with
  | nil => rfl
  | cons a r ih =>
    rw [List.nodup_cons] at h
    unfold va_nd
    simp [h.1, ih h.2]
/-- a callee's world and what it leaves alone, up to their order -/
def gCutP (ws ro wc wr ro' : va_W) {S : Type} (w1 ws' : S → va_W) : Prop := ws.Perm (wc ++ wr) ∧ (∀ q ∈ ro', q ∈ wr ∨ q ∈ ro) ∧ ∀ u : S, (wr ++ w1 u).Perm (ws' u)
theorem gCutP_cut {ro : va_W} (h : ∀ q ∈ ro', q ∈ wr ∨ q ∈ ro) : gCut (wc ++ wr) ro wc wr ro' (fun _ : Unit => wc) (fun _ => wr ++ wc) (List.range wc.length) ((List.range wr.length).map (fun i => i + wc.length)) (List.range (wr ++ wc).length) := by
  refine ⟨gRange_l wc wr, gRange_r wc wr, gNd_of List.nodup_range, gNd_of ?_, ?_, ?_, gNd_of List.nodup_range, fun _ => ?_⟩
  · rw [List.Nodup, List.pairwise_map]
    exact List.nodup_range.imp (fun h e => h (by omega))
  · intro i hi
    obtain ⟨j, hj, rfl⟩ := List.mem_map.mp hi
    rw [List.mem_range]
    omega
  · intro k q hk
    rcases h q (List.mem_of_getElem? hk) with h1 | h1
    · obtain ⟨i, hi⟩ := List.getElem?_of_mem h1
      refine ⟨wc.length + i, by rw [List.mem_range]; omega, ?_⟩
      rw [List.append_assoc, List.getElem?_append_right (by omega), Nat.add_sub_cancel_left, List.getElem?_append_left ((List.getElem?_eq_some_iff.mp hi).1)]
      exact hi
    · obtain ⟨i, hi⟩ := List.getElem?_of_mem h1
      refine ⟨(wc ++ wr).length + i, by rw [List.mem_range, List.length_append]; omega, ?_⟩
      rw [List.getElem?_append_right (by omega), Nat.add_sub_cancel_left]
      exact hi
  · have := gRange_l (wr ++ wc) []
    rw [List.append_nil] at this
    exact this
theorem g_backP (C : gC X own cc ret) (hcut : gCutP ws (x_ro X) wc wr ro' w1 ws')
    (hrun : ∀ (H : Heap) (locs : List Loc) (ls : Array Slot), va_P (x_D X) vwCl (wc ++ wr) H → va_D (x_A X) (wc ++ wr) → va_S (x_A X) (x_s X).heap H locs → ls.size = x_n X →
      vx_Run (x_p X) (x_l X) (x_e X) (x_R X) (x_s X) (x_m X) (x_args X) (x_below X) (x_meth X) (x_c X) H locs ck sk mc ms (F0 (x_m X) pc ls st) rest (gQc (x_D X) (x_y X) (va_A wc H.size) 0 rv w1 (x_args X)) (gXc (x_D X) (x_y X) (va_A wc H.size) 0 w1) (va_A wc H.size))
    {ck' sk' : Nat} {st' : S → List Value} (hck : ck + mc = ck') (hsk : sk + ms = sk') (hst' : ∀ u, (rv u).toList ++ rest = st' u)
    (kk : ∀ u : S, gW X Q ck' sk' (ws' u) lv (st' u) (pc + 3)) : gW X Q ck sk ws lv st pc := by
  refine g_perm hcut.1 ?_
  intro H locs ls a1 a2 a3 a4
  subst hck; subst hsk
  obtain ⟨hC, hR, hnC, hnR, hdis, hO, hnP, hP⟩ := gCutP_cut (wc := wc) (wr := wr) (ro' := ro') (ro := x_ro X) hcut.2.1
  have hA := C.2.2.2.2.2.2.2.2.1
  have hF : ∀ q, va_A wc H.size q → x_A X q := va_free a2 a3 hA _ hC
  have join : ∀ (u : S) (t T' : State), T'.heap = t.heap → (x_s X).vm.Alike T'.vm → gPost (x_D X) (x_y X) (w1 u) (va_A wc H.size) t → H.size ≤ t.heap.size → (∀ q : Nat, q < H.size → ¬ va_A wc H.size q → t.heap[q]? = H[q]?) → va_P (x_D X) vwCl (ws' u) T'.heap ∧ va_D (x_A X) (ws' u) := by
    intro u t T' e1 _ hp hz hk
    rw [e1]
    obtain ⟨j1, j2⟩ := va_join (wr := wr) (w1 := w1 u) a1 a2 _ _ hC hR hnR hdis hk hF hp.1 hp.2.2
    exact ⟨gP_perm (hcut.2.2 u) j1, gD_perm (hcut.2.2 u) j2⟩
  intro T hT XT
  rcases hrun H locs ls a1 a2 a3 a4.1 T hT XT with ⟨v, st₀, t, T', L, h0, X', hL, e1, e2, ⟨⟨u, hv, he, hp⟩, hz⟩, stp⟩ | ⟨q, st₀, t, T', L, E, ce, h0, X', hL, e1, e2, ⟨⟨u, he, hE, hp⟩, hz⟩, hce, hcv, hcl, stp⟩
  · have hv2 : v = rv u := by cases hv; rfl
    subst hv2
    obtain ⟨k1, k2, k3⟩ := vx_keep h0 e1 a3 (fun q _ h => hF q h) hF hL hz
    rw [e1] at k1 k2
    obtain ⟨j1, j2⟩ := join u t T' e1 (X'.warmed.alike) hp k1 k2
    have k9 := kk u
    rw [← hst' u] at k9
    obtain ⟨t2, b1, b2⟩ := k9 T'.heap (locs ++ L) ls j1 j2 k3 a4 T' rfl X'
    exact ⟨t2, stp t2 b1, b2⟩
  · exact (he rfl).elim
theorem gPreP (C : gC X own cc ret) (h : ∀ q ∈ ro', q ∈ wr ∨ q ∈ x_ro X) {H : Heap} {locs : List Loc} (a1 : va_P (x_D X) vwCl (wc ++ wr) H) (a2 : va_D (x_A X) (wc ++ wr)) (a3 : va_S (x_A X) (x_s X).heap H locs) (U : State) (hU : U.heap = H) (hW : (x_s X).WarmedH U.vm) : gPre (x_D X) (x_y X) ro' wc H.size U :=
  gCut_pre C (gCutP_cut (wc := wc) (wr := wr) (ro' := ro') (ro := x_ro X) h) a1 a2 a3 U hU hW
/-- a static method with handlers -/
theorem g_callSH (C : gC X own cc ret) {hh : List (Nat × Nat × Nat × Nat)} (hM : gCtH (x_l X) (x_D X) (x_y X) y bytes maxL rety hh fr lo mc ms As ro' wc rv w1) {index : Nat} (n : Nat) (hcode : Cond.codeWith y bytes maxL rety hh ∈ gBW) (hini : Cond.initialized y.cls ∈ gBW) (hl : Cond.methodLink own index y ∈ gBW) (hst : Cond.static y ∈ gBW)
    (hd : y.cls ≠ "java/lang/invoke/MethodHandle" ∧ y.cls ≠ "java/lang/invoke/VarHandle" ∧ (parseMethodDescriptor y.desc).map (fun d => d.parameters.length) = some n) (hn : As.length = n) (hR : fr + 1 ≤ (x_R X).frames ∧ 8 + (maxL + 11) + lo ≤ (x_R X).locals)
    (hcut : gCutP ws (x_ro X) wc wr ro' w1 ws') (hs : st = As.reverse ++ rest) (hW : (rest.map fun v => v.category).sum ≤ 8) (d : decode cc pc = .ok (.invokestatic index, 3)) (hf : ck + mc ≤ (x_R X).cells ∧ sk + ms ≤ (x_R X).slots)
    {ck' sk' : Nat} {st' : S → List Value} (hck : ck + mc = ck') (hsk : sk + ms = sk') (hst' : ∀ u, (rv u).toList ++ rest = st' u)
    (kk : ∀ u : S, gW X Q ck' sk' (ws' u) lv (st' u) (pc + 3)) : gW X Q ck sk ws lv st pc := by
  refine g_backP (mc := mc) (ms := ms) (rest := rest) C hcut (fun H locs ls a1 a2 a3 a4 => ?_) hck hsk hst' kk
  have hG : GoodIn gBW (Cond.codeWith y bytes maxL rety hh :: gBW) := fun w hw => (List.mem_cons.mp hw).elim (fun h => by rw [h]; exact ⟨hcode, good_of_word (gBW_good hcode)⟩) (fun h => ⟨h, good_of_word (gBW_good h)⟩)
  exact vx_runSX (As := As) (gFix C) (hM C.2.2.2.2.2.2.2.2.2.2.2 H.size) ⟨⟨rfl, rfl, hR.1, hR.2, pay_in C.2.2.2.2.1 hG, List.mem_cons_self⟩, C.2.2.2.2.1 _ hcode, C.2.2.2.2.1 _ hini, ⟨hd.1, hd.2.1⟩, fun sig h => by
    have h2 := hd.2.2
    rw [h] at h2
    exact (Option.some.inj h2).symm, C.2.2.2.2.1 _ hl, C.2.2.2.2.1 _ hst⟩ ⟨gPre.blind, fun U hU hW => ⟨rfl, gPreP C hcut.2.1 a1 a2 a3 U hU hW⟩⟩ rfl hn a4 hs (lv_room hW) d hf
/-- a method of an object of the world, that doesn't throw -/
theorem g_callVP (C : gC X own cc ret) {b ci N : Nat} {K : String} {T : u_T} (hM : gCt (x_l X) (x_D X) (x_y X) y bytes maxL rety fr lo mc ms (.ref b :: As) ro' wc 0 rv w1) {index : Nat} (n : Nat) {fs : List Value} (hrec : (b, .inr (ci, fs)) ∈ wc) (hci : vwCl[ci]? = some (K, T, N)) (hcode : Cond.code y bytes maxL rety ∈ gBW) (hini : Cond.initialized y.cls ∈ gBW) (hl : Cond.methodLink own index y ∈ gBW) (hin : Cond.instanceMethod y ∈ gBW) (hsel : Cond.selects K y y ∈ gBW)
    (hd : y.cls ≠ "java/lang/invoke/MethodHandle" ∧ y.cls ≠ "java/lang/invoke/VarHandle" ∧ (parseMethodDescriptor y.desc).map (fun d => d.parameters.length) = some n) (hn : As.length = n) (hR : fr + 1 ≤ (x_R X).frames ∧ 8 + (maxL + 11) + lo ≤ (x_R X).locals)
    (hcut : gCutP ws (x_ro X) wc wr ro' w1 ws') (hs : st = As.reverse ++ .ref b :: rest) (hW : (rest.map fun v => v.category).sum ≤ 8) (d : decode cc pc = .ok (.invokevirtual index, 3)) (hf : ck + mc ≤ (x_R X).cells ∧ sk + ms ≤ (x_R X).slots)
    {ck' sk' : Nat} {st' : S → List Value} (hck : ck + mc = ck') (hsk : sk + ms = sk') (hst' : ∀ u, (rv u).toList ++ rest = st' u)
    (kk : ∀ u : S, gW X Q ck' sk' (ws' u) lv (st' u) (pc + 3)) : gW X Q ck sk ws lv st pc := by
  refine g_backP (mc := mc) (ms := ms) (rest := rest) C hcut (fun H locs ls a1 a2 a3 a4 => ?_) hck hsk hst' kk
  obtain ⟨i, hi⟩ := List.getElem?_of_mem (List.mem_append_left wr hrec)
  exact vx_runV (gFix C) (hM C.2.2.2.2.2.2.2.2.2.2.2 H.size) ⟨gB_of C hcode hini hl hd hR, C.2.2.2.2.1 _ hin, C.2.2.2.2.1 _ hsel⟩ ⟨gPre.blind, va_recv C.2.2.2.2.2.2.2.1 a1 hci hi, fun U hU hW => ⟨rfl, gPreP C hcut.2.1 a1 a2 a3 U hU hW⟩⟩ rfl hn a4 hs (lv_room hW) d hf
end GLW
