/-! THE G LAYER: calls -/
section GK2
variable {X : gX} {own : String} {cc : ByteArray} {ret : Option FieldType} {Q : State → Prop} {ck sk pc : Nat} {ws : va_W} {lv : List (Nat × Value)} {st rest : List Value}
variable {y : MethodName} {bytes : ByteArray} {maxL : Nat} {rety : Option FieldType} {fr lo mc ms e0 : Nat} {As : List Value} {ro' wc wr : va_W} {S : Type} {rv : S → Option Value} {w1 ws' : S → va_W}
/-- what comes behind a call -/
theorem g_back (C : gC X own cc ret) {isC isR isP : List Nat} (hcut : gCut ws (x_ro X) wc wr ro' w1 ws' isC isR isP)
    (hrun : ∀ (H : Heap) (locs : List Loc) (ls : Array Slot), va_P (x_D X) vwCl ws H → va_D (x_A X) ws → va_S (x_A X) (x_s X).heap H locs → ls.size = x_n X →
      vx_Run (x_p X) (x_l X) (x_e X) (x_R X) (x_s X) (x_m X) (x_args X) (x_below X) (x_meth X) (x_c X) H locs ck sk mc ms (F0 (x_m X) pc ls st) rest (gQc (x_D X) (x_y X) (va_A wc H.size) e0 rv w1 (x_args X)) (gXc (x_D X) (x_y X) (va_A wc H.size) e0 w1) (va_A wc H.size))
    {ck' sk' : Nat} {st' : S → List Value} (hck : ck + mc = ck') (hsk : sk + ms = sk') (hst' : ∀ u, (rv u).toList ++ rest = st' u)
    (kk : ∀ u : S, e0 = 0 → gW X Q ck' sk' (ws' u) lv (st' u) (pc + 3))
    (kx : ∀ u : S, e0 ≠ 0 → gV X Q ck' sk' (ws' u) lv pc (gExn e0)) : gW X Q ck sk ws lv st pc := fun H locs ls a1 a2 a3 a4 => by
  subst hck; subst hsk
  obtain ⟨hC, hR, hnC, hnR, hdis, hO, hnP, hP⟩ := hcut
  have hA := C.2.2.2.2.2.2.2.2.1
  have hF : ∀ q, va_A wc H.size q → x_A X q := va_free a2 a3 hA isC hC
  have join : ∀ (u : S) (t T' : State), T'.heap = t.heap → (x_s X).vm.Alike T'.vm → gPost (x_D X) (x_y X) (w1 u) (va_A wc H.size) t → H.size ≤ t.heap.size → (∀ q : Nat, q < H.size → ¬ va_A wc H.size q → t.heap[q]? = H[q]?) → va_P (x_D X) vwCl (ws' u) T'.heap ∧ va_D (x_A X) (ws' u) := by
    intro u t T' e1 _ hp hz hk
    rw [e1]
    obtain ⟨j1, j2⟩ := va_join (wr := wr) (w1 := w1 u) a1 a2 isC isR hC hR hnR hdis hk hF hp.1 hp.2.2
    exact ⟨j1.sub isP (gMap_filter (hP u)), j2.sub isP hnP (hP u)⟩
  intro T hT XT
  rcases hrun H locs ls a1 a2 a3 a4.1 T hT XT with ⟨v, st₀, t, T', L, h0, X', hL, e1, e2, ⟨⟨u, hv, he, hp⟩, hz⟩, stp⟩ | ⟨q, st₀, t, T', L, E, ce, h0, X', hL, e1, e2, ⟨⟨u, he, hE, hp⟩, hz⟩, hce, hcv, hcl, stp⟩
  · have hv2 : v = rv u := by cases hv; rfl
    subst hv2
    obtain ⟨k1, k2, k3⟩ := vx_keep h0 e1 a3 (fun q _ h => hF q h) hF hL hz
    rw [e1] at k1 k2
    obtain ⟨j1, j2⟩ := join u t T' e1 (X'.warmed.alike) hp k1 k2
    have k9 := kk u he
    rw [← hst' u] at k9
    obtain ⟨t2, b1, b2⟩ := k9 T'.heap (locs ++ L) ls j1 j2 k3 a4 T' rfl X'
    exact ⟨t2, stp t2 b1, b2⟩
  · subst hE
    obtain ⟨k1, k2, k3⟩ := vx_keep h0 e1 a3 (fun q _ h => hF q h) hF hL hz
    rw [e1] at k1 k2
    obtain ⟨j1, j2⟩ := join u t T' e1 (X'.warmed.alike) hp k1 k2
    obtain ⟨t2, b1, b2⟩ := kx u he T'.heap (locs ++ L) ls rest q ce j1 j2 k3 a4 (by rw [e1]; exact hce) hcv hcl T' rfl X'
    exact ⟨t2, stp.trans b1, b2⟩
/-- the words of a call -/
theorem gB_of (C : gC X own cc ret) {index n : Nat} (hcode : Cond.code y bytes maxL rety ∈ gBW) (hini : Cond.initialized y.cls ∈ gBW) (hl : Cond.methodLink own index y ∈ gBW)
    (hd : y.cls ≠ "java/lang/invoke/MethodHandle" ∧ y.cls ≠ "java/lang/invoke/VarHandle" ∧ (parseMethodDescriptor y.desc).map (fun d => d.parameters.length) = some n) (hR : fr + 1 ≤ (x_R X).frames ∧ 8 + (maxL + 11) + lo ≤ (x_R X).locals) :
    CallB (x_R X) (x_s X) (x_args X) own index y bytes maxL rety (Cond.code y bytes maxL rety :: gBW) (gRm fr lo mc ms) mc ms n :=
  callB_of (Ts := gBW) n C.2.2.2.2.1 (fun w hw => (List.mem_cons.mp hw).elim (fun h => by rw [h]; exact ⟨hcode, good_of_word (gBW_good hcode)⟩) (fun h => ⟨h, good_of_word (gBW_good h)⟩)) rfl rfl rfl (C.2.2.2.2.1 _ hini) (C.2.2.2.2.1 _ hl) hd hR
theorem gN_of (C : gC X own cc ret) {index n : Nat} {host : String} (hcode : Cond.code y bytes maxL rety ∈ gBW) (hini : Cond.initialized y.cls ∈ gBW) (hl : (own, index, y, host) ∈ gNest)
    (hd : y.cls ≠ "java/lang/invoke/MethodHandle" ∧ y.cls ≠ "java/lang/invoke/VarHandle" ∧ (parseMethodDescriptor y.desc).map (fun d => d.parameters.length) = some n) (hR : fr + 1 ≤ (x_R X).frames ∧ 8 + (maxL + 11) + lo ≤ (x_R X).locals) :
    va_CN (x_R X) (x_s X) (x_args X) own index y host bytes maxL rety (Cond.code y bytes maxL rety :: gBW) (gRm fr lo mc ms) mc ms n := by
  have hG : GoodIn gBW (Cond.code y bytes maxL rety :: gBW) := fun w hw => (List.mem_cons.mp hw).elim (fun h => by rw [h]; exact ⟨hcode, good_of_word (gBW_good hcode)⟩) (fun h => ⟨h, good_of_word (gBW_good h)⟩)
  refine ⟨⟨rfl, rfl, hR.1, hR.2, pay_in C.2.2.2.2.1 hG, List.mem_cons_self⟩, C.2.2.2.2.1 _ hcode, C.2.2.2.2.1 _ hini, ⟨hd.1, hd.2.1⟩, fun sig h => ?_, va_Nw.use rfl (C.2.2.2.2.2.2.2.2.2.2.1.2.2.1.2.1 _ hl)⟩
  have h2 := hd.2.2
  rw [h] at h2
  exact (Option.some.inj h2).symm
theorem gFix (C : gC X own cc ret) : CallFix (x_p X) (x_m X) (x_c X) cc (x_n X) (x_s X) (x_args X) gBW own := ⟨C.1, C.2.1, C.2.2.1, C.2.2.2.1, C.2.2.2.2.1⟩
/-- a static method -/
theorem g_callS (C : gC X own cc ret) (hM : gCt (x_l X) (x_D X) (x_y X) y bytes maxL rety fr lo mc ms As ro' wc e0 rv w1) {index : Nat} (n : Nat) (hcode : Cond.code y bytes maxL rety ∈ gBW) (hini : Cond.initialized y.cls ∈ gBW) (hl : Cond.methodLink own index y ∈ gBW) (hst : Cond.static y ∈ gBW)
    (hd : y.cls ≠ "java/lang/invoke/MethodHandle" ∧ y.cls ≠ "java/lang/invoke/VarHandle" ∧ (parseMethodDescriptor y.desc).map (fun d => d.parameters.length) = some n) (hn : As.length = n) (hR : fr + 1 ≤ (x_R X).frames ∧ 8 + (maxL + 11) + lo ≤ (x_R X).locals)
    (isC isR isP : List Nat) (hcut : gCut ws (x_ro X) wc wr ro' w1 ws' isC isR isP) (hs : st = As.reverse ++ rest) (hW : (rest.map fun v => v.category).sum ≤ 8) (d : decode cc pc = .ok (.invokestatic index, 3)) (hf : ck + mc ≤ (x_R X).cells ∧ sk + ms ≤ (x_R X).slots)
    {ck' sk' : Nat} {st' : S → List Value} (hck : ck + mc = ck') (hsk : sk + ms = sk') (hst' : ∀ u, (rv u).toList ++ rest = st' u)
    (kk : ∀ u : S, e0 = 0 → gW X Q ck' sk' (ws' u) lv (st' u) (pc + 3))
    (kx : ∀ u : S, e0 ≠ 0 → gV X Q ck' sk' (ws' u) lv pc (gExn e0)) : gW X Q ck sk ws lv st pc := by
  refine g_back (mc := mc) (ms := ms) (rest := rest) C hcut (fun H locs ls a1 a2 a3 a4 => ?_) hck hsk hst' kk kx
  exact vx_runS (As := As) (gFix C) (hM C.2.2.2.2.2.2.2.2.2.2.2 H.size) ⟨gB_of C hcode hini hl hd hR, C.2.2.2.2.1 _ hst⟩ ⟨gPre.blind, fun U hU hW => ⟨rfl, gCut_pre C hcut a1 a2 a3 U hU hW⟩⟩ rfl hn a4 hs (lv_room hW) d hf
theorem g_callSN (C : gC X own cc ret) (hM : gCt (x_l X) (x_D X) (x_y X) y bytes maxL rety fr lo mc ms As ro' wc e0 rv w1) {index : Nat} {host : String} (n : Nat) (hcode : Cond.code y bytes maxL rety ∈ gBW) (hini : Cond.initialized y.cls ∈ gBW) (hl : (own, index, y, host) ∈ gNest) (hst : Cond.static y ∈ gBW)
    (hd : y.cls ≠ "java/lang/invoke/MethodHandle" ∧ y.cls ≠ "java/lang/invoke/VarHandle" ∧ (parseMethodDescriptor y.desc).map (fun d => d.parameters.length) = some n) (hn : As.length = n) (hR : fr + 1 ≤ (x_R X).frames ∧ 8 + (maxL + 11) + lo ≤ (x_R X).locals)
    (isC isR isP : List Nat) (hcut : gCut ws (x_ro X) wc wr ro' w1 ws' isC isR isP) (hs : st = As.reverse ++ rest) (hW : (rest.map fun v => v.category).sum ≤ 8) (d : decode cc pc = .ok (.invokestatic index, 3)) (hf : ck + mc ≤ (x_R X).cells ∧ sk + ms ≤ (x_R X).slots)
    {ck' sk' : Nat} {st' : S → List Value} (hck : ck + mc = ck') (hsk : sk + ms = sk') (hst' : ∀ u, (rv u).toList ++ rest = st' u)
    (kk : ∀ u : S, e0 = 0 → gW X Q ck' sk' (ws' u) lv (st' u) (pc + 3))
    (kx : ∀ u : S, e0 ≠ 0 → gV X Q ck' sk' (ws' u) lv pc (gExn e0)) : gW X Q ck sk ws lv st pc := by
  refine g_back (mc := mc) (ms := ms) (rest := rest) C hcut (fun H locs ls a1 a2 a3 a4 => ?_) hck hsk hst' kk kx
  exact vx_runSN (As := As) (gFix C) (hM C.2.2.2.2.2.2.2.2.2.2.2 H.size) ⟨gN_of C hcode hini hl hd hR, C.2.2.2.2.1 _ hst, trivial⟩ ⟨gPre.blind, fun U hU hW => ⟨rfl, gCut_pre C hcut a1 a2 a3 U hU hW⟩⟩ rfl hn a4 hs (lv_room hW) d hf
/-- the receiver of a call, in the world or among what is read -/
def gAt (X : gX) (ws : va_W) (b ci : Nat) (q0 : Nat) : Prop := ∃ fs : List Value, (ws ++ x_ro X)[q0]? = some (b, .inr (ci, fs))
theorem gAt_recv (C : gC X own cc ret) {b ci q0 N : Nat} {K : String} {T : u_T} (h : gAt X ws b ci q0) (hc : vwCl[ci]? = some (K, T, N)) {H : Heap} {locs : List Loc} (a1 : va_P (x_D X) vwCl ws H) (a3 : va_S (x_A X) (x_s X).heap H locs) : ∃ cell : Cell, H[b]? = some cell ∧ cell.vm.isStatics = false ∧ (x_s X).vm.findClass K = some cell.cls := by
  obtain ⟨fs, hi⟩ := h
  have hRo' := (C.2.2.2.2.2.2.2.2.2.1).kept a3.2.1
  rw [List.getElem?_append] at hi
  split at hi
  · exact va_recv C.2.2.2.2.2.2.2.1 a1 hc hi
  · exact va_recv C.2.2.2.2.2.2.2.1 hRo'.1 hc hi
theorem g_callV (C : gC X own cc ret) {b ci N : Nat} {K : String} {T : u_T} (hM : gCt (x_l X) (x_D X) (x_y X) y bytes maxL rety fr lo mc ms (.ref b :: As) ro' wc e0 rv w1) {index : Nat} (n : Nat) (q0 : Nat) (hrec : gAt X ws b ci q0) (hci : vwCl[ci]? = some (K, T, N)) (hcls : y.cls = K) (hcode : Cond.code y bytes maxL rety ∈ gBW) (hini : Cond.initialized y.cls ∈ gBW) (hl : Cond.methodLink own index y ∈ gBW) (hin : Cond.instanceMethod y ∈ gBW) (hsel : Cond.selects K y y ∈ gBW)
    (hd : y.cls ≠ "java/lang/invoke/MethodHandle" ∧ y.cls ≠ "java/lang/invoke/VarHandle" ∧ (parseMethodDescriptor y.desc).map (fun d => d.parameters.length) = some n) (hn : As.length = n) (hR : fr + 1 ≤ (x_R X).frames ∧ 8 + (maxL + 11) + lo ≤ (x_R X).locals)
    (isC isR isP : List Nat) (hcut : gCut ws (x_ro X) wc wr ro' w1 ws' isC isR isP) (hs : st = As.reverse ++ .ref b :: rest) (hW : (rest.map fun v => v.category).sum ≤ 8) (d : decode cc pc = .ok (.invokevirtual index, 3)) (hf : ck + mc ≤ (x_R X).cells ∧ sk + ms ≤ (x_R X).slots)
    {ck' sk' : Nat} {st' : S → List Value} (hck : ck + mc = ck') (hsk : sk + ms = sk') (hst' : ∀ u, (rv u).toList ++ rest = st' u)
    (kk : ∀ u : S, e0 = 0 → gW X Q ck' sk' (ws' u) lv (st' u) (pc + 3))
    (kx : ∀ u : S, e0 ≠ 0 → gV X Q ck' sk' (ws' u) lv pc (gExn e0)) : gW X Q ck sk ws lv st pc := by
  refine g_back (mc := mc) (ms := ms) (rest := rest) C hcut (fun H locs ls a1 a2 a3 a4 => ?_) hck hsk hst' kk kx
  exact vx_runV (gFix C) (hM C.2.2.2.2.2.2.2.2.2.2.2 H.size) ⟨gB_of C hcode hini hl hd hR, C.2.2.2.2.1 _ hin, C.2.2.2.2.1 _ hsel⟩ ⟨gPre.blind, gAt_recv C hrec hci a1 a3, fun U hU hW => ⟨rfl, gCut_pre C hcut a1 a2 a3 U hU hW⟩⟩ rfl hn a4 hs (lv_room hW) d hf
theorem g_callVN (C : gC X own cc ret) {b ci N : Nat} {K host : String} {T : u_T} (hM : gCt (x_l X) (x_D X) (x_y X) y bytes maxL rety fr lo mc ms (.ref b :: As) ro' wc e0 rv w1) {index : Nat} (n : Nat) (q0 : Nat) (hrec : gAt X ws b ci q0) (hci : vwCl[ci]? = some (K, T, N)) (hcls : y.cls = K) (hcode : Cond.code y bytes maxL rety ∈ gBW) (hini : Cond.initialized y.cls ∈ gBW) (hl : (own, index, y, host) ∈ gNest) (hin : Cond.instanceMethod y ∈ gBW) (hsel : Cond.selects K y y ∈ gBW)
    (hd : y.cls ≠ "java/lang/invoke/MethodHandle" ∧ y.cls ≠ "java/lang/invoke/VarHandle" ∧ (parseMethodDescriptor y.desc).map (fun d => d.parameters.length) = some n) (hn : As.length = n) (hR : fr + 1 ≤ (x_R X).frames ∧ 8 + (maxL + 11) + lo ≤ (x_R X).locals)
    (isC isR isP : List Nat) (hcut : gCut ws (x_ro X) wc wr ro' w1 ws' isC isR isP) (hs : st = As.reverse ++ .ref b :: rest) (hW : (rest.map fun v => v.category).sum ≤ 8) (d : decode cc pc = .ok (.invokevirtual index, 3)) (hf : ck + mc ≤ (x_R X).cells ∧ sk + ms ≤ (x_R X).slots)
    {ck' sk' : Nat} {st' : S → List Value} (hck : ck + mc = ck') (hsk : sk + ms = sk') (hst' : ∀ u, (rv u).toList ++ rest = st' u)
    (kk : ∀ u : S, e0 = 0 → gW X Q ck' sk' (ws' u) lv (st' u) (pc + 3))
    (kx : ∀ u : S, e0 ≠ 0 → gV X Q ck' sk' (ws' u) lv pc (gExn e0)) : gW X Q ck sk ws lv st pc := by
  refine g_back (mc := mc) (ms := ms) (rest := rest) C hcut (fun H locs ls a1 a2 a3 a4 => ?_) hck hsk hst' kk kx
  exact vx_runVN (gFix C) (hM C.2.2.2.2.2.2.2.2.2.2.2 H.size) ⟨gN_of C hcode hini hl hd hR, C.2.2.2.2.1 _ hin, C.2.2.2.2.1 _ hsel⟩ ⟨gPre.blind, gAt_recv C hrec hci a1 a3, fun U hU hW => ⟨rfl, gCut_pre C hcut a1 a2 a3 U hU hW⟩⟩ rfl hn a4 hs (lv_room hW) d hf
theorem g_callI (C : gC X own cc ret) {b : Nat} (hM : gCt (x_l X) (x_D X) (x_y X) y bytes maxL none fr lo mc ms (.ref b :: As) ro' wc e0 rv w1) {index : Nat} (n : Nat) (hy1 : y.name = "<init>") (hcode : Cond.code y bytes maxL none ∈ gBW) (hini : Cond.initialized y.cls ∈ gBW) (hl : Cond.methodLink own index y ∈ gBW) (hin : Cond.instanceMethod y ∈ gBW)
    (hd : y.cls ≠ "java/lang/invoke/MethodHandle" ∧ y.cls ≠ "java/lang/invoke/VarHandle" ∧ (parseMethodDescriptor y.desc).map (fun d => d.parameters.length) = some n) (hn : As.length = n) (hR : fr + 1 ≤ (x_R X).frames ∧ 8 + (maxL + 11) + lo ≤ (x_R X).locals)
    (isC isR isP : List Nat) (hcut : gCut ws (x_ro X) wc wr ro' w1 ws' isC isR isP) (hs : st = As.reverse ++ .ref b :: rest) (hW : (rest.map fun v => v.category).sum ≤ 8) (d : decode cc pc = .ok (.invokespecial index, 3)) (hf : ck + mc ≤ (x_R X).cells ∧ sk + ms ≤ (x_R X).slots)
    {ck' sk' : Nat} {st' : S → List Value} (hck : ck + mc = ck') (hsk : sk + ms = sk') (hst' : ∀ u, (rv u).toList ++ rest = st' u)
    (kk : ∀ u : S, e0 = 0 → gW X Q ck' sk' (ws' u) lv (st' u) (pc + 3))
    (kx : ∀ u : S, e0 ≠ 0 → gV X Q ck' sk' (ws' u) lv pc (gExn e0)) : gW X Q ck sk ws lv st pc := by
  refine g_back (mc := mc) (ms := ms) (rest := rest) C hcut (fun H locs ls a1 a2 a3 a4 => ?_) hck hsk hst' kk kx
  exact vx_runI (gFix C) (hM C.2.2.2.2.2.2.2.2.2.2.2 H.size) ⟨gB_of C hcode hini hl hd hR, hy1, C.2.2.2.2.1 _ hin⟩ ⟨gPre.blind, fun U hU hW => ⟨rfl, gCut_pre C hcut a1 a2 a3 U hU hW⟩⟩ rfl hn a4 hs (lv_room hW) d hf
theorem g_callIN (C : gC X own cc ret) {b : Nat} {host : String} (hM : gCt (x_l X) (x_D X) (x_y X) y bytes maxL none fr lo mc ms (.ref b :: As) ro' wc e0 rv w1) {index : Nat} (n : Nat) (hy1 : y.name = "<init>") (hcode : Cond.code y bytes maxL none ∈ gBW) (hini : Cond.initialized y.cls ∈ gBW) (hl : (own, index, y, host) ∈ gNest) (hin : Cond.instanceMethod y ∈ gBW)
    (hd : y.cls ≠ "java/lang/invoke/MethodHandle" ∧ y.cls ≠ "java/lang/invoke/VarHandle" ∧ (parseMethodDescriptor y.desc).map (fun d => d.parameters.length) = some n) (hn : As.length = n) (hR : fr + 1 ≤ (x_R X).frames ∧ 8 + (maxL + 11) + lo ≤ (x_R X).locals)
    (isC isR isP : List Nat) (hcut : gCut ws (x_ro X) wc wr ro' w1 ws' isC isR isP) (hs : st = As.reverse ++ .ref b :: rest) (hW : (rest.map fun v => v.category).sum ≤ 8) (d : decode cc pc = .ok (.invokespecial index, 3)) (hf : ck + mc ≤ (x_R X).cells ∧ sk + ms ≤ (x_R X).slots)
    {ck' sk' : Nat} {st' : S → List Value} (hck : ck + mc = ck') (hsk : sk + ms = sk') (hst' : ∀ u, (rv u).toList ++ rest = st' u)
    (kk : ∀ u : S, e0 = 0 → gW X Q ck' sk' (ws' u) lv (st' u) (pc + 3))
    (kx : ∀ u : S, e0 ≠ 0 → gV X Q ck' sk' (ws' u) lv pc (gExn e0)) : gW X Q ck sk ws lv st pc := by
  refine g_back (mc := mc) (ms := ms) (rest := rest) C hcut (fun H locs ls a1 a2 a3 a4 => ?_) hck hsk hst' kk kx
  exact vx_runIN (gFix C) (hM C.2.2.2.2.2.2.2.2.2.2.2 H.size) ⟨gN_of C hcode hini hl hd hR, hy1, C.2.2.2.2.1 _ hin⟩ ⟨gPre.blind, fun U hU hW => ⟨rfl, gCut_pre C hcut a1 a2 a3 U hU hW⟩⟩ rfl hn a4 hs (lv_room hW) d hf
end GK2
/-- the option steps of a decompiled function -/
def gg {α : Type} (b : Bool) (o : Option α) : Option α := if b = true then o else none
def gl {α β : Type} (x : α) (k : α → β) : β := k x
def gi (i : Int32) (n : Nat) : Bool := !(decide (i < 0) || decide (n ≤ i.toNatClampNeg))
def gz (x : Int32) : Bool := !(decide (x = 0))
def gnar (ty : FieldType) (x : Int32) : Bool := match narrow ty (.int x) with
  | .int w => decide (w = x)
  | _ => false
theorem gg_of {α : Type} {b : Bool} {o : Option α} {v : α} (h : gg b o = some v) : b = true ∧ o = some v := by
  unfold gg at h
  by_cases hc : b = true
  · rw [if_pos hc] at h; exact ⟨hc, h⟩
  · rw [if_neg hc] at h; cases h
theorem gg_t {α : Type} (o : Option α) : gg true o = o := rfl
theorem opt_let {α β : Type} {x : α} {k : α → β} {v : β} (h : gl x k = v) : ∃ y, y = x ∧ k y = v := ⟨x, rfl, h⟩
theorem gi_in {i : Int32} {n : Nat} (h : gi i n = true) : vp_in i n := by
  unfold gi at h
  unfold vp_in
  intro hc
  rcases hc with hc | hc
  · rw [decide_eq_true hc] at h; simp at h
  · rw [decide_eq_true hc] at h; simp at h
theorem gz_ne {x : Int32} (h : gz x = true) : ¬ x = 0 := by
  intro hc
  unfold gz at h
  rw [decide_eq_true hc] at h
  simp at h
theorem gnar_of {ty : FieldType} {x : Int32} (h : gnar ty x = true) : narrow ty (.int x) = .int x := by
  unfold gnar at h
  split at h
  · rename_i w hw
    rw [hw, of_decide_eq_true h]
  · cases h
theorem opt_pos {α : Type} {c : Prop} [Decidable c] {a b : Option α} {v : α} (hc : c) (h : (if c then a else b) = some v) : a = some v := by rw [if_pos hc] at h; exact h
theorem opt_neg {α : Type} {c : Prop} [Decidable c] {a b : Option α} {v : α} (hc : ¬ c) (h : (if c then a else b) = some v) : b = some v := by rw [if_neg hc] at h; exact h
theorem opt_bind {α β : Type} {o : Option α} {f : α → Option β} {v : β} (h : o.bind f = some v) : ∃ x, o = some x ∧ f x = some v := by
  cases o with
  | none => cases h
  | some x => exact ⟨x, rfl, h⟩
theorem g_nlt {X : gX} {n k : Nat} (h : x_n X = n) (hd : Nat.blt k n = true) : k < x_n X := by
  rw [h]; exact Nat.le_of_ble_eq_true hd
theorem g_rm {X : gX} {fr lo mc ms fr' ml lo' : Nat} (h : x_R X = gRm fr lo mc ms) (h1 : Nat.ble (fr' + 1) fr = true) (h2 : Nat.ble (8 + (ml + 11) + lo') lo = true) : fr' + 1 ≤ (x_R X).frames ∧ 8 + (ml + 11) + lo' ≤ (x_R X).locals := by
  rw [h]; exact ⟨Nat.le_of_ble_eq_true h1, Nat.le_of_ble_eq_true h2⟩
theorem g_rc {X : gX} {fr lo mc ms a b : Nat} (h : x_R X = gRm fr lo mc ms) (h1 : a ≤ mc) (h2 : b ≤ ms) : a ≤ (x_R X).cells ∧ b ≤ (x_R X).slots := by
  rw [h]; exact ⟨h1, h2⟩
section GM
variable {X : gX} {own : String} {cc : ByteArray} {ret : Option FieldType} {Q : State → Prop} {ck sk pc : Nat} {ws ro : va_W} {lv : List (Nat × Value)} {st : List Value}
theorem g_alen (C : gC X own cc ret) (q0 : Nat) {t0 a : Nat} {x : vp_A} {ty : FieldType} {v : Int32} (ha : ws[q0]? = some (a, .inl (x_y X t0, x))) (ht : (gTys (x_y X))[t0]? = some (x_y X t0, ty)) (hv : Int32.ofNat x.1 = v) (d : decode cc pc = .ok (.arraylength, 1)) (kk : gW X Q ck sk ws lv (.int v :: st) (pc + 1)) : gW X Q ck sk ws lv (.ref a :: st) pc := fun H locs ls a1 a2 a3 a4 =>
  va_alen C.1 C.2.1 C.2.2.2.2.2.2.2.1 a1 q0 t0 ha ht hv d (kk H locs ls a1 a2 a3 a4)
theorem g_zald (C : gC X own cc ret) (q0 : Nat) {a n : Nat} {f : Nat → Int32} {i : Int32} (ha : ws[q0]? = some (a, .inl (x_y X 1, n, .inl f))) (hin : vp_in i n) (d : decode cc pc = .ok (.baload, 1)) (kk : gW X Q ck sk ws lv (.int (f i.toNatClampNeg) :: st) (pc + 1)) : gW X Q ck sk ws lv (.int i :: .ref a :: st) pc := fun H locs ls a1 a2 a3 a4 =>
  va_zald C.1 C.2.1 C.2.2.2.2.2.2.2.1 a1 q0 1 ha rfl hin d (kk H locs ls a1 a2 a3 a4)
theorem g_cald (C : gC X own cc ret) (q0 : Nat) {a n : Nat} {f : Nat → Int32} {i : Int32} (ha : ws[q0]? = some (a, .inl (x_y X 2, n, .inl f))) (hin : vp_in i n) (d : decode cc pc = .ok (.caload, 1)) (kk : gW X Q ck sk ws lv (.int (f i.toNatClampNeg) :: st) (pc + 1)) : gW X Q ck sk ws lv (.int i :: .ref a :: st) pc := fun H locs ls a1 a2 a3 a4 =>
  va_cald C.1 C.2.1 C.2.2.2.2.2.2.2.1 a1 q0 2 ha rfl hin d (kk H locs ls a1 a2 a3 a4)
theorem g_bald (C : gC X own cc ret) (q0 : Nat) {a n : Nat} {f : Nat → Int32} {i : Int32} (ha : ws[q0]? = some (a, .inl (x_y X 3, n, .inl f))) (hin : vp_in i n) (d : decode cc pc = .ok (.baload, 1)) (kk : gW X Q ck sk ws lv (.int (f i.toNatClampNeg) :: st) (pc + 1)) : gW X Q ck sk ws lv (.int i :: .ref a :: st) pc := fun H locs ls a1 a2 a3 a4 =>
  va_bald C.1 C.2.1 C.2.2.2.2.2.2.2.1 a1 q0 3 ha rfl hin d (kk H locs ls a1 a2 a3 a4)
theorem g_zast (C : gC X own cc ret) (q0 : Nat) {a n : Nat} {f : Nat → Int32} {i x : Int32} {ws' : va_W} (ha : ws[q0]? = some (a, .inl (x_y X 1, n, .inl f))) (hin : vp_in i n) (hw : ws.set q0 (a, .inl (x_y X 1, n, .inl (upd f i.toNatClampNeg (vp_nar .boolean x)))) = ws') (d : decode cc pc = .ok (.bastore, 1)) (kk : gW X Q ck sk ws' lv st (pc + 1)) : gW X Q ck sk ws lv (.int x :: .int i :: .ref a :: st) pc := fun H locs ls a1 a2 a3 a4 => by
  subst hw
  exact va_zast C.1 C.2.1 C.2.2.2.2.2.2.2.1 a1 a2 a3 q0 1 ha rfl hin d (fun H1 l1 b1 b2 b3 => kk H1 l1 ls b1 b2 b3 a4)
theorem g_cast (C : gC X own cc ret) (q0 : Nat) {a n : Nat} {f : Nat → Int32} {i x : Int32} {ws' : va_W} (ha : ws[q0]? = some (a, .inl (x_y X 2, n, .inl f))) (hin : vp_in i n) (hw : ws.set q0 (a, .inl (x_y X 2, n, .inl (upd f i.toNatClampNeg (vp_nar .char x)))) = ws') (d : decode cc pc = .ok (.castore, 1)) (kk : gW X Q ck sk ws' lv st (pc + 1)) : gW X Q ck sk ws lv (.int x :: .int i :: .ref a :: st) pc := fun H locs ls a1 a2 a3 a4 => by
  subst hw
  exact va_cast C.1 C.2.1 C.2.2.2.2.2.2.2.1 a1 a2 a3 q0 2 ha rfl hin d (fun H1 l1 b1 b2 b3 => kk H1 l1 ls b1 b2 b3 a4)
theorem g_bast (C : gC X own cc ret) (q0 : Nat) {a n : Nat} {f : Nat → Int32} {i x : Int32} {ws' : va_W} (ha : ws[q0]? = some (a, .inl (x_y X 3, n, .inl f))) (hin : vp_in i n) (hw : ws.set q0 (a, .inl (x_y X 3, n, .inl (upd f i.toNatClampNeg (vp_nar .byte x)))) = ws') (d : decode cc pc = .ok (.bastore, 1)) (kk : gW X Q ck sk ws' lv st (pc + 1)) : gW X Q ck sk ws lv (.int x :: .int i :: .ref a :: st) pc := fun H locs ls a1 a2 a3 a4 => by
  subst hw
  exact va_bast C.1 C.2.1 C.2.2.2.2.2.2.2.1 a1 a2 a3 q0 3 ha rfl hin d (fun H1 l1 b1 b2 b3 => kk H1 l1 ls b1 b2 b3 a4)
end GM
theorem g_rmo {X : gX} {fr lo mc ms fr' ml lo' : Nat} (h : x_R X = gRm fr lo mc ms) (h1 : fr' + 1 ≤ fr) (h2 : 8 + (ml + 11) + lo' ≤ lo) : fr' + 1 ≤ (x_R X).frames ∧ 8 + (ml + 11) + lo' ≤ (x_R X).locals := by
  rw [h]; exact ⟨h1, h2⟩
theorem g_neI {x k : Int32} (h : ¬ x = k) : ¬ x.toInt = k.toInt := fun e => h (Int32.toInt_inj.mp e)
theorem g_neK {x k : Int32} {a : Int} (h : ¬ x = k) (hk : k.toInt = a) : ¬ x.toInt = a := fun e => h (Int32.toInt_inj.mp (e.trans hk.symm))
