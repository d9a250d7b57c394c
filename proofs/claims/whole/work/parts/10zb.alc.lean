/-! THE G LAYER: methods of a class above; the tables of digits -/
/-- a private method of a class above, by another method of that class -/
theorem gx_selP {C : String} {y z : MethodName} {s : State} {args : Array Value} (hzy : z.cls = y.cls) (hz : (Cond.selects C z z).before args s = true) (hpriv : (Cond.privateMethod y).before args s = true) (hinst : (Cond.instanceMethod y).before args s = true) (hy : y.cls ≠ "java/lang/invoke/MethodHandle" ∧ y.cls ≠ "java/lang/invoke/VarHandle") : (Cond.selects C y y).before args s = true := by
  obtain ⟨c, rz, mz, hc, hrz, hmz, -, kP, hkP, hkPi⟩ := Cond.selects_spec hz
  obtain ⟨mk, methM, hnamed, hmethM, -, -⟩ := Cond.instanceMethod_spec hinst
  have hfound : s.methodFound? y.cls y.name y.desc = some mk := State.methodFound?_of_named hnamed hy
  have e1 := findClass_of_methodNamed hmz
  have e2 := findClass_of_methodNamed hnamed
  rw [hzy] at e1
  have e3 : mz.cls = mk.cls := Option.some.inj (e1.symm.trans e2)
  have hsel : selectMethod {} s.vm c mk = .method mk := selectMethod_private hmethM (Cond.privateMethod_at hpriv mk methM hnamed hmethM)
  rw [e3] at hkP
  simp only [Cond.before, Cond.holds, Cond.value, hc, hfound, hnamed, hsel, hkP]
  simp; exact hkPi
section GA3
variable {X : gX} {own : String} {cc : ByteArray} {ret : Option FieldType} {Q : State → Prop} {ck sk pc : Nat} {ws : va_W} {lv : List (Nat × Value)} {st rest : List Value}
variable {y : MethodName} {bytes : ByteArray} {maxL : Nat} {rety : Option FieldType} {fr lo mc ms e0 : Nat} {As : List Value} {ro' wc wr : va_W} {S : Type} {rv : S → Option Value} {w1 ws' : S → va_W}
theorem g_callW (C : gC X own cc ret) {b ci N : Nat} {K : String} {T : u_T} (hM : gCt (x_l X) (x_D X) (x_y X) y bytes maxL rety fr lo mc ms (.ref b :: As) ro' wc e0 rv w1) {index : Nat} (n : Nat) (q0 : Nat) (hrec : gAt X ws b ci q0) (hci : vwCl[ci]? = some (K, T, N)) (hcode : Cond.code y bytes maxL rety ∈ gBW) (hini : Cond.initialized y.cls ∈ gBW) (hl : Cond.methodLink own index y ∈ gBW) (hin : Cond.instanceMethod y ∈ gBW) (hsel : Cond.selects K y y ∈ gBW)
    (hd : y.cls ≠ "java/lang/invoke/MethodHandle" ∧ y.cls ≠ "java/lang/invoke/VarHandle" ∧ (parseMethodDescriptor y.desc).map (fun d => d.parameters.length) = some n) (hn : As.length = n) (hR : fr + 1 ≤ (x_R X).frames ∧ 8 + (maxL + 11) + lo ≤ (x_R X).locals)
    (isC isR isP : List Nat) (hcut : gCut ws (x_ro X) wc wr ro' w1 ws' isC isR isP) (hs : st = As.reverse ++ .ref b :: rest) (hW : (rest.map fun v => v.category).sum ≤ 8) (d : decode cc pc = .ok (.invokevirtual index, 3)) (hf : ck + mc ≤ (x_R X).cells ∧ sk + ms ≤ (x_R X).slots)
    {ck' sk' : Nat} {st' : S → List Value} (hck : ck + mc = ck') (hsk : sk + ms = sk') (hst' : ∀ u, (rv u).toList ++ rest = st' u)
    (kk : ∀ u : S, e0 = 0 → gW X Q ck' sk' (ws' u) lv (st' u) (pc + 3))
    (kx : ∀ u : S, e0 ≠ 0 → gV X Q ck' sk' (ws' u) lv pc (gExn e0)) : gW X Q ck sk ws lv st pc := by
  refine g_back (mc := mc) (ms := ms) (rest := rest) C hcut (fun H locs ls a1 a2 a3 a4 => ?_) hck hsk hst' kk kx
  exact vx_runV (gFix C) (hM C.2.2.2.2.2.2.2.2.2.2.2 H.size) ⟨gB_of C hcode hini hl hd hR, C.2.2.2.2.1 _ hin, C.2.2.2.2.1 _ hsel⟩ ⟨gPre.blind, gAt_recv C hrec hci a1 a3, fun U hU hW => ⟨rfl, gCut_pre C hcut a1 a2 a3 U hU hW⟩⟩ rfl hn a4 hs (lv_room hW) d hf
theorem g_callO (C : gC X own cc ret) {b ci N : Nat} {K : String} {T : u_T} (hM : gCt (x_l X) (x_D X) (x_y X) y bytes maxL rety fr lo mc ms (.ref b :: As) ro' wc e0 rv w1) {index : Nat} (n : Nat) (q0 : Nat) (hrec : gAt X ws b ci q0) (hci : vwCl[ci]? = some (K, T, N)) (hcode : Cond.code y bytes maxL rety ∈ gBW) (hini : Cond.initialized y.cls ∈ gBW) {x : MethodName} (hl : Cond.methodLink own index x ∈ gBW) (hin : Cond.instanceMethod y ∈ gBW) (hsel : Cond.selects K x y ∈ gBW) (hsame : Cond.sameMethod x.cls x.cls x.name x.desc ∈ gBW) (hix : Cond.instanceMethod x ∈ gBW) {b0 : ByteArray} {m0 : Nat} {r0 : Option FieldType} (hcx : Cond.code x b0 m0 r0 ∈ gBW) (hxd : x.desc = y.desc) (hxc : x.cls ≠ "java/lang/invoke/MethodHandle" ∧ x.cls ≠ "java/lang/invoke/VarHandle")
    (hd : y.cls ≠ "java/lang/invoke/MethodHandle" ∧ y.cls ≠ "java/lang/invoke/VarHandle" ∧ (parseMethodDescriptor y.desc).map (fun d => d.parameters.length) = some n) (hn : As.length = n) (hR : fr + 1 ≤ (x_R X).frames ∧ 8 + (maxL + 11) + lo ≤ (x_R X).locals)
    (isC isR isP : List Nat) (hcut : gCut ws (x_ro X) wc wr ro' w1 ws' isC isR isP) (hs : st = As.reverse ++ .ref b :: rest) (hW : (rest.map fun v => v.category).sum ≤ 8) (d : decode cc pc = .ok (.invokevirtual index, 3)) (hf : ck + mc ≤ (x_R X).cells ∧ sk + ms ≤ (x_R X).slots)
    {ck' sk' : Nat} {st' : S → List Value} (hck : ck + mc = ck') (hsk : sk + ms = sk') (hst' : ∀ u, (rv u).toList ++ rest = st' u)
    (kk : ∀ u : S, e0 = 0 → gW X Q ck' sk' (ws' u) lv (st' u) (pc + 3))
    (kx : ∀ u : S, e0 ≠ 0 → gV X Q ck' sk' (ws' u) lv pc (gExn e0)) : gW X Q ck sk ws lv st pc := by
  refine g_back (mc := mc) (ms := ms) (rest := rest) C hcut (fun H locs ls a1 a2 a3 a4 => ?_) hck hsk hst' kk kx
  obtain ⟨hrm1, hrm2⟩ := hR
  have hG : GoodIn gBW (Cond.code y bytes maxL rety :: gBW) := fun w hw => (List.mem_cons.mp hw).elim (fun h => by rw [h]; exact ⟨hcode, good_of_word (gBW_good hcode)⟩) (fun h => ⟨h, good_of_word (gBW_good h)⟩)
  exact vx_runU (owner := x.cls) (gFix C) (hM C.2.2.2.2.2.2.2.2.2.2.2 H.size) ⟨⟨rfl, rfl, hrm1, hrm2, pay_in C.2.2.2.2.1 hG, List.mem_cons_self⟩, C.2.2.2.2.1 _ hcode, C.2.2.2.2.1 _ hini, hxc, fun sig h => by
    have h2 := hd.2.2
    rw [← hxd, h] at h2
    exact (Option.some.inj h2).symm, C.2.2.2.2.1 _ hl, C.2.2.2.2.1 _ hsame, va_Decl.of (C.2.2.2.2.1 _ hix) (C.2.2.2.2.1 _ hcx), C.2.2.2.2.1 _ hsel, C.2.2.2.2.1 _ hin⟩ ⟨gPre.blind, gAt_recv C hrec hci a1 a3, fun U hU hW => ⟨rfl, gCut_pre C hcut a1 a2 a3 U hU hW⟩⟩ rfl hn a4 hs (lv_room hW) d hf
/-- super.m(..) -/
theorem g_callU (C : gC X own cc ret) {b ci N : Nat} {K : String} {T : u_T} (hM : gCt (x_l X) (x_D X) (x_y X) y bytes maxL rety fr lo mc ms (.ref b :: As) ro' wc e0 rv w1) {index : Nat} (n : Nat) (q0 : Nat) (hrec : gAt X ws b ci q0) (hci : vwCl[ci]? = some (K, T, N)) (hcode : Cond.code y bytes maxL rety ∈ gBW) (hini : Cond.initialized y.cls ∈ gBW) (hl : Cond.methodLink own index y ∈ gBW) (hin : Cond.instanceMethod y ∈ gBW)
    (hsame : Cond.sameMethod y.cls y.cls y.name y.desc ∈ gBW) (hsup : Cond.superclass own y.cls ∈ gBW) (hno : y.name ≠ "<init>")
    (hd : y.cls ≠ "java/lang/invoke/MethodHandle" ∧ y.cls ≠ "java/lang/invoke/VarHandle" ∧ (parseMethodDescriptor y.desc).map (fun d => d.parameters.length) = some n) (hn : As.length = n) (hR : fr + 1 ≤ (x_R X).frames ∧ 8 + (maxL + 11) + lo ≤ (x_R X).locals)
    (isC isR isP : List Nat) (hcut : gCut ws (x_ro X) wc wr ro' w1 ws' isC isR isP) (hs : st = As.reverse ++ .ref b :: rest) (hW : (rest.map fun v => v.category).sum ≤ 8) (d : decode cc pc = .ok (.invokespecial index, 3)) (hf : ck + mc ≤ (x_R X).cells ∧ sk + ms ≤ (x_R X).slots)
    {ck' sk' : Nat} {st' : S → List Value} (hck : ck + mc = ck') (hsk : sk + ms = sk') (hst' : ∀ u, (rv u).toList ++ rest = st' u)
    (kk : ∀ u : S, e0 = 0 → gW X Q ck' sk' (ws' u) lv (st' u) (pc + 3))
    (kx : ∀ u : S, e0 ≠ 0 → gV X Q ck' sk' (ws' u) lv pc (gExn e0)) : gW X Q ck sk ws lv st pc := by
  refine g_back (mc := mc) (ms := ms) (rest := rest) C hcut (fun H locs ls a1 a2 a3 a4 => ?_) hck hsk hst' kk kx
  obtain ⟨hrm1, hrm2⟩ := hR
  have hG : GoodIn gBW (Cond.code y bytes maxL rety :: gBW) := fun w hw => (List.mem_cons.mp hw).elim (fun h => by rw [h]; exact ⟨hcode, good_of_word (gBW_good hcode)⟩) (fun h => ⟨h, good_of_word (gBW_good h)⟩)
  exact vx_runSU (C.2.2.2.2.2.2.2.1.1 ci _ hci).2 (gFix C) (hM C.2.2.2.2.2.2.2.2.2.2.2 H.size) ⟨⟨rfl, rfl, hrm1, hrm2, pay_in C.2.2.2.2.1 hG, List.mem_cons_self⟩, C.2.2.2.2.1 _ hl, C.2.2.2.2.1 _ hsame, C.2.2.2.2.1 _ hsup, C.2.2.2.2.1 _ hin, C.2.2.2.2.1 _ hini, C.2.2.2.2.1 _ hcode, hno, fun sig h => by
    have h2 := hd.2.2
    rw [h] at h2
    exact (Option.some.inj h2).symm⟩ ⟨gPre.blind, gAt_recv C hrec hci a1 a3, fun U hU hW => ⟨rfl, gCut_pre C hcut a1 a2 a3 U hU hW⟩⟩ rfl hn a4 hs (lv_room hW) d hf
/-- Integer's tables of digits -/
def gDT (X : gX) (t : Nat) (f : Nat → Int32) : Prop := va_T .byte t 100 (fun j => .int (f j)) (x_A X) (x_s X) (x_s X).heap
theorem g_getT (C : gC X own cc ret) {index : Nat} {ref : String} (hlink : Cond.fieldLink own index ref "DigitTens" "[B" ∈ gBW) (href : ref = "java/lang/Integer") (d : decode cc pc = .ok (.getstatic index, 3)) (kk : ∀ t, gDT X t (fun j => nI (48 + j / 10)) → gW X Q ck sk ws lv (.ref t :: st) (pc + 3)) : gW X Q ck sk ws lv st pc := fun H locs ls a1 a2 a3 a4 => by
  subst href
  obtain ⟨t, h1, h2⟩ := C.2.2.2.2.2.2.2.2.2.2.1.2.2.2.2.2.1
  exact va_gets C.1 C.2.1 h1 a3 C.2.2.2.1 (C.2.2.2.2.1 _ hlink) (fun _ h => h) d (kk t h2 H locs ls a1 a2 a3 a4)
theorem g_getO (C : gC X own cc ret) {index : Nat} {ref : String} (hlink : Cond.fieldLink own index ref "DigitOnes" "[B" ∈ gBW) (href : ref = "java/lang/Integer") (d : decode cc pc = .ok (.getstatic index, 3)) (kk : ∀ t, gDT X t (fun j => nI (48 + j % 10)) → gW X Q ck sk ws lv (.ref t :: st) (pc + 3)) : gW X Q ck sk ws lv st pc := fun H locs ls a1 a2 a3 a4 => by
  subst href
  obtain ⟨t, h1, h2⟩ := C.2.2.2.2.2.2.2.2.2.2.1.2.2.2.2.2.2
  exact va_gets C.1 C.2.1 h1 a3 C.2.2.2.1 (C.2.2.2.2.1 _ hlink) (fun _ h => h) d (kk t h2 H locs ls a1 a2 a3 a4)
theorem g_digld (C : gC X own cc ret) {t : Nat} {f : Nat → Int32} (h : gDT X t f) {i : Int32} (hin : vp_in i 100) (d : decode cc pc = .ok (.baload, 1)) (kk : gW X Q ck sk ws lv (.int (f i.toNatClampNeg) :: st) (pc + 1)) : gW X Q ck sk ws lv (.int i :: .ref t :: st) pc := fun H locs ls a1 a2 a3 a4 =>
  va_tb C.1 C.2.1 h a3 hin rfl d (kk H locs ls a1 a2 a3 a4)
end GA3
theorem gw_sup : Cond.superclass "java/lang/StringBuilder" "java/lang/AbstractStringBuilder" ∈ gBW := by decide +kernel
theorem gws_J5_append_3fe6f : Cond.sameMethod yJ5_append_3fe6f.cls yJ5_append_3fe6f.cls yJ5_append_3fe6f.name yJ5_append_3fe6f.desc ∈ gBW := by decide +kernel
theorem gws_J5_append_c97b9 : Cond.sameMethod yJ5_append_c97b9.cls yJ5_append_c97b9.cls yJ5_append_c97b9.name yJ5_append_c97b9.desc ∈ gBW := by decide +kernel
theorem gws_J5_length_8abf5 : Cond.sameMethod yJ5_length_8abf5.cls yJ5_length_8abf5.cls yJ5_length_8abf5.name yJ5_length_8abf5.desc ∈ gBW := by decide +kernel
theorem gws_J5_charAt_5068e : Cond.sameMethod yJ5_charAt_5068e.cls yJ5_charAt_5068e.cls yJ5_charAt_5068e.name yJ5_charAt_5068e.desc ∈ gBW := by decide +kernel
theorem gws_J5_setLength_d00df : Cond.sameMethod yJ5_setLength_d00df.cls yJ5_setLength_d00df.cls yJ5_setLength_d00df.name yJ5_setLength_d00df.desc ∈ gBW := by decide +kernel
theorem dfJ0 : ∀ j, j < 4 → defaultValue (tyJ0 j) = vp_V [.null, .int 0, .int 0, .int 0] j := fun j hj => match j, hj with
  | 0, _ => rfl
  | 1, _ => rfl
  | 2, _ => rfl
  | 3, _ => rfl
  | k + 4, h => absurd h (by omega)
theorem dfJ4 : ∀ j, j < 4 → defaultValue (tyJ4 j) = vp_V [.null, .int 0, .int 0, .int 0] j := fun j hj => match j, hj with
  | 0, _ => rfl
  | 1, _ => rfl
  | 2, _ => rfl
  | 3, _ => rfl
  | k + 4, h => absurd h (by omega)
theorem dfX1 : ∀ j, j < 6 → defaultValue (tyX1 j) = vp_V [.null, .null, .null, .null, .null, .int 0] j := fun j hj => match j, hj with
  | 0, _ => rfl
  | 1, _ => rfl
  | 2, _ => rfl
  | 3, _ => rfl
  | 4, _ => rfl
  | 5, _ => rfl
  | k + 6, h => absurd h (by omega)
theorem dfX3 : ∀ j, j < 5 → defaultValue (tyX3 j) = vp_V [.null, .int 0, .int 0, .int 0, .null] j := fun j hj => match j, hj with
  | 0, _ => rfl
  | 1, _ => rfl
  | 2, _ => rfl
  | 3, _ => rfl
  | 4, _ => rfl
  | k + 5, h => absurd h (by omega)
theorem dfX4 : ∀ j, j < 4 → defaultValue (tyX4 j) = vp_V [.null, .null, .int 0, .int 0] j := fun j hj => match j, hj with
  | 0, _ => rfl
  | 1, _ => rfl
  | 2, _ => rfl
  | 3, _ => rfl
  | k + 4, h => absurd h (by omega)
theorem dfX6 : ∀ j, j < 3 → defaultValue (tyX6 j) = vp_V [.null, .null, .int 0] j := fun j hj => match j, hj with
  | 0, _ => rfl
  | 1, _ => rfl
  | 2, _ => rfl
  | k + 3, h => absurd h (by omega)
theorem dfX7 : ∀ j, j < 7 → defaultValue (tyX7 j) = vp_V [.int 0, .int 0, .int 0, .null, .null, .null, .null] j := fun j hj => match j, hj with
  | 0, _ => rfl
  | 1, _ => rfl
  | 2, _ => rfl
  | 3, _ => rfl
  | 4, _ => rfl
  | 5, _ => rfl
  | 6, _ => rfl
  | k + 7, h => absurd h (by omega)
theorem dfX8 : ∀ j, j < 6 → defaultValue (tyX8 j) = vp_V [.null, .int 0, .int 0, .int 0, .int 0, .int 0] j := fun j hj => match j, hj with
  | 0, _ => rfl
  | 1, _ => rfl
  | 2, _ => rfl
  | 3, _ => rfl
  | 4, _ => rfl
  | 5, _ => rfl
  | k + 6, h => absurd h (by omega)
theorem dfX9 : ∀ j, j < 7 → defaultValue (tyX9 j) = vp_V [.int 0, .null, .int 0, .null, .null, .int 0, .int 0] j := fun j hj => match j, hj with
  | 0, _ => rfl
  | 1, _ => rfl
  | 2, _ => rfl
  | 3, _ => rfl
  | 4, _ => rfl
  | 5, _ => rfl
  | 6, _ => rfl
  | k + 7, h => absurd h (by omega)
theorem dfX10 : ∀ j, j < 11 → defaultValue (tyX10 j) = vp_V [.null, .null, .int 0, .null, .int 0, .null, .null, .null, .null, .null, .null] j := fun j hj => match j, hj with
  | 0, _ => rfl
  | 1, _ => rfl
  | 2, _ => rfl
  | 3, _ => rfl
  | 4, _ => rfl
  | 5, _ => rfl
  | 6, _ => rfl
  | 7, _ => rfl
  | 8, _ => rfl
  | 9, _ => rfl
  | 10, _ => rfl
  | k + 11, h => absurd h (by omega)
theorem dfX11 : ∀ j, j < 22 → defaultValue (tyX11 j) = vp_V [.int 0, .null, .null, .int 0, .null, .null, .int 0, .int 0, .null, .null, .int 0, .null, .null, .int 0, .null, .int 0, .int 0, .int 0, .int 0, .int 0, .int 0, .int 0] j := fun j hj => match j, hj with
  | 0, _ => rfl
  | 1, _ => rfl
  | 2, _ => rfl
  | 3, _ => rfl
  | 4, _ => rfl
  | 5, _ => rfl
  | 6, _ => rfl
  | 7, _ => rfl
  | 8, _ => rfl
  | 9, _ => rfl
  | 10, _ => rfl
  | 11, _ => rfl
  | 12, _ => rfl
  | 13, _ => rfl
  | 14, _ => rfl
  | 15, _ => rfl
  | 16, _ => rfl
  | 17, _ => rfl
  | 18, _ => rfl
  | 19, _ => rfl
  | 20, _ => rfl
  | 21, _ => rfl
  | k + 22, h => absurd h (by omega)
