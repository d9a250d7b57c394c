/-! THE G LAYER: new cells; fewer cells; bytes copied -/
section GA
variable {X : gX} {own : String} {cc : ByteArray} {ret : Option FieldType} {Q : State → Prop} {ck sk pc : Nat} {ws ws' : va_W} {lv : List (Nat × Value)} {st : List Value}
theorem g_sub (isP : List Nat) (hn : va_nd isP = true) (hP : isP.map (fun i => ws[i]?) = ws'.map some) (k : gW X Q ck sk ws' lv st pc) : gW X Q ck sk ws lv st pc := fun H locs ls a1 a2 a3 a4 =>
  k H locs ls (a1.sub isP (gMap_filter hP)) (a2.sub isP hn hP) a3 a4
theorem g_wide {ck' sk' : Nat} (h1 : ck ≤ ck') (h2 : sk ≤ sk') (k : gW X Q ck' sk' ws lv st pc) : gW X Q ck sk ws lv st pc := fun H locs ls a1 a2 a3 a4 => W.widen h1 h2 (k H locs ls a1 a2 a3 a4)
/-- a new object -/
theorem g_new (C : gC X own cc ret) {K : String} {T : u_T} {N ci index : Nat} {ty : Nat → FieldType} (hc : vwCl[ci]? = some (K, T, N)) (hin : ∀ w ∈ u_ws K T N, w ∈ gBW) (hty : ∀ k, k < N → parseFieldDescriptor (T k).2.2.1 = some (ty k)) (hl : Cond.classLink own index K ∈ gBW) (hi : Cond.instantiable K N ∈ gBW) (h0 : Cond.initialized K ∈ gBW)
    {fs : List Value} (hfs : ∀ j, j < N → defaultValue (ty j) = vp_V fs j) (hr : ck + 1 ≤ (x_R X).cells ∧ sk + N ≤ (x_R X).slots) {ck' sk' : Nat} (e1 : ck + 1 = ck') (e2 : sk + N = sk') (d : decode cc pc = .ok (.new index, 3))
    (kk : ∀ q : Nat, gW X Q ck' sk' (ws ++ [(q, .inr (ci, fs))]) lv (.ref q :: st) (pc + 3)) : gW X Q ck sk ws lv st pc := fun H locs ls a1 a2 a3 a4 => by
  subst e1; subst e2
  exact va_new C.1 C.2.1 C.2.2.2.2.1 hin ty hty C.2.2.2.1 (C.2.2.2.2.1 _ hl) (C.2.2.2.2.1 _ hi) (C.2.2.2.2.1 _ h0) C.2.2.2.2.2.2.2.1 a1 a2 a3 C.2.2.2.2.2.2.2.2.1 hc hfs hr.1 hr.2 d (fun q H1 b1 b2 b3 => kk q H1 locs ls b1 b2 b3 a4)
/-- a new array; B: what is charged for its length -/
theorem g_newa (C : gC X own cc ret) (t0 : Nat) {atype : ArrayType} {ty : FieldType} (hty : newarray.typeOf atype = ty) (ht : (gTys (x_y X))[t0]? = some (x_y X t0, ty)) (hno : ∀ nm : String, ty ≠ .object nm) (hw : Cond.arrayClass ty ∈ gBW) {n : Int32} {N B : Nat} {a0 : vp_A}
    (ha : ∀ cA : ClassId, vp_cell cA a0 = arrV cA N (fun _ => defaultValue ty)) (hn : ¬ n < 0) (hN : n.toNatClampNeg = N) (hB : N ≤ B) (hb : B * 8 ≤ 536870912) (h8 : componentBytes ty ≤ 8) (hr : ck + 1 ≤ (x_R X).cells ∧ sk + B ≤ (x_R X).slots) {ck' sk' : Nat} (e1 : ck + 1 = ck') (e2 : sk + B = sk')
    (d : decode cc pc = .ok (.newarray atype, 2)) (kk : ∀ q : Nat, gW X Q ck' sk' (ws ++ [(q, .inl (x_y X t0, a0))]) lv (.ref q :: st) (pc + 2)) : gW X Q ck sk ws lv (.int n :: st) pc := fun H locs ls a1 a2 a3 a4 => by
  subst e1; subst e2
  have hb' : N * componentBytes ty ≤ 536870912 := Nat.le_trans (Nat.le_trans (Nat.mul_le_mul_right _ hB) (Nat.mul_le_mul_left _ h8)) hb
  refine va_newa C.1 C.2.1 (by rw [hty]; exact C.2.2.2.2.1 _ hw) hty C.2.2.2.2.2.2.2.1 a1 a2 a3 C.2.2.2.2.2.2.2.2.1 (N' := N) ha hn hN hb' hr.1 (Nat.le_trans (Nat.add_le_add_left hB _) hr.2) d (fun q cA H1 k1 b1 b2 b3 => ?_)
  have g1 := (k1.2 (gTys (x_y X)).length (cA, ty) (by rw [List.getElem?_append_right (Nat.le_refl _), Nat.sub_self]; rfl)).2
  have g2 := (C.2.2.2.2.2.2.2.1.2 t0 _ ht).2
  have hcA : cA = x_y X t0 := by
    cases ty with
    | object nm => exact (hno nm rfl).elim
    | _ => exact Option.some.inj (Eq.trans (Eq.symm g1) g2)
  subst hcA
  exact W.widen (Nat.le_refl _) (Nat.add_le_add_left hB _) (kk q H1 locs ls b1 b2 b3 a4)
def gnw (n : Int32) (B : Nat) : Bool := !(decide (n < 0)) && decide (n.toNatClampNeg ≤ B)
theorem gnw_0 {n : Int32} {B : Nat} (h : gnw n B = true) : ¬ n < 0 := by
  unfold gnw at h
  rw [Bool.and_eq_true] at h
  intro h2
  rw [decide_eq_true h2] at h
  exact absurd h.1 (by decide)
theorem gnw_B {n : Int32} {B : Nat} (h : gnw n B = true) : n.toNatClampNeg ≤ B := by
  unfold gnw at h
  rw [Bool.and_eq_true] at h
  exact of_decide_eq_true h.2
/-- bytes fit -/
def gfb (f : Nat → Int32) (a n : Nat) : Bool := (List.range n).all (fun i => fits .byte (.int (f (a + i))))
theorem gfb_of {f : Nat → Int32} {a n : Nat} (h : gfb f a n = true) : ∀ i, i < n → fits .byte (.int (f (a + i))) = true := fun i hi => List.all_eq_true.mp h i (List.mem_range.mpr hi)
/-- copying -/
def gcp (sp dp n : Int32) (n0 n1 : Nat) : Bool := !(decide (sp < 0)) && !(decide (dp < 0)) && !(decide (n < 0)) && decide (sp.toNatClampNeg + n.toNatClampNeg ≤ n0) && decide (dp.toNatClampNeg + n.toNatClampNeg ≤ n1)
theorem gcp_of {sp dp n : Int32} {n0 n1 : Nat} (h : gcp sp dp n n0 n1 = true) : ¬ sp < 0 ∧ ¬ dp < 0 ∧ ¬ n < 0 ∧ sp.toNatClampNeg + n.toNatClampNeg ≤ n0 ∧ dp.toNatClampNeg + n.toNatClampNeg ≤ n1 := by
  unfold gcp at h
  simp only [Bool.and_eq_true, Bool.not_eq_true', decide_eq_false_iff_not, decide_eq_true_eq] at h
  exact ⟨h.1.1.1.1, h.1.1.1.2, h.1.1.2, h.1.2, h.2⟩
theorem g_copyb (C : gC X own cc ret) {index : Nat} (q0 q1 : Nat) {a0 a n0 n1 : Nat} {f g : Nat → Int32} {sp dp n : Int32} (hl : Cond.methodLink own index arraycopyName ∈ gBW) (hnat : Cond.native arraycopyName ∈ gBW) (hst : Cond.static arraycopyName ∈ gBW) (hini : Cond.initialized "java/lang/System" ∈ gBW)
    (ha0 : ws[q0]? = some (a0, .inl (x_y X 3, n0, .inl f))) (ha1 : ws[q1]? = some (a, .inl (x_y X 3, n1, .inl g))) (hg : gcp sp dp n n0 n1 = true) (hf : gfb f sp.toNatClampNeg n.toNatClampNeg = true)
    (hR : 1 ≤ (x_R X).frames ∧ (st.map fun v => v.category).sum + (nativeFrameWords "java/lang/System" "arraycopy" 5 + 11) ≤ (x_R X).locals) (hw : ws.set q1 (a, .inl (x_y X 3, n1, .inl (va_cpy f g sp.toNatClampNeg dp.toNatClampNeg n.toNatClampNeg))) = ws')
    (d : decode cc pc = .ok (.invokestatic index, 3)) (kk : gW X Q ck sk ws' lv st (pc + 3)) : gW X Q ck sk ws lv (.int n :: .int dp :: .ref a :: .int sp :: .ref a0 :: st) pc := fun H locs ls a1 a2 a3 a4 => by
  subst hw
  obtain ⟨h1, h2, h3, h4, h5⟩ := gcp_of hg
  exact va_copyi C.1 C.2.1 (C.2.2.1.trans a4.1.symm) C.2.2.2.1 (C.2.2.2.2.1 _ hl) (C.2.2.2.2.1 _ hnat) (C.2.2.2.2.1 _ hst) (C.2.2.2.2.1 _ hini) C.2.2.2.2.2.2.2.1 a1 a2 a3 q0 q1 3 3 ha0 ha1 rfl rfl rfl h1 h2 h3 h4 h5 (gfb_of hf) hR.1 hR.2 d (fun H1 l1 b1 b2 b3 => kk H1 l1 ls b1 b2 b3 a4)
theorem gw_same : Cond.sameMethod "[B" "java/lang/Object" "clone" "()Ljava/lang/Object;" ∈ gBW := by decide +kernel
theorem gw_cln : ("[B", "java/lang/Cloneable") ∈ gCast := by decide +kernel
/-- an array of bytes, cloned -/
theorem g_clone (C : gC X own cc ret) {index : Nat} (q0 : Nat) {a n B : Nat} {f : Nat → Int32} (hl : Cond.methodLink own index ⟨"[B", "clone", "()Ljava/lang/Object;"⟩ ∈ gBW) (hnat : Cond.native ⟨"java/lang/Object", "clone", "()Ljava/lang/Object;"⟩ ∈ gBW) (hinst : Cond.instanceMethod ⟨"java/lang/Object", "clone", "()Ljava/lang/Object;"⟩ ∈ gBW) (hsel : Cond.selects "[B" ⟨"[B", "clone", "()Ljava/lang/Object;"⟩ ⟨"java/lang/Object", "clone", "()Ljava/lang/Object;"⟩ ∈ gBW)
    (ha : ws[q0]? = some (a, .inl (x_y X 3, n, .inl f))) (hf : gfb f 0 n = true) (hB : n ≤ B) (hR : 1 ≤ (x_R X).frames ∧ (st.map fun v => v.category).sum + 14 ≤ (x_R X).locals) (hr : ck + 1 ≤ (x_R X).cells ∧ sk + B ≤ (x_R X).slots) {ck' sk' : Nat} (e1 : ck + 1 = ck') (e2 : sk + B = sk') (d : decode cc pc = .ok (.invokevirtual index, 3))
    (kk : ∀ q : Nat, gW X Q ck' sk' (ws ++ [(q, .inl (x_y X 3, n, .inl f))]) lv (.ref q :: st) (pc + 3)) : gW X Q ck sk ws lv (.ref a :: st) pc := fun H locs ls a1 a2 a3 a4 => by
  subst e1; subst e2
  refine va_clone C.1 C.2.1 (C.2.2.1.trans a4.1.symm) C.2.2.2.1 (C.2.2.2.2.1 _ hl) (C.2.2.2.2.1 _ gw_same) (C.2.2.2.2.1 _ hnat) (C.2.2.2.2.1 _ hinst) (C.2.2.2.2.1 _ hsel) (C.2.2.2.2.2.2.2.2.2.2.1.2.2.1.2.2.1 _ gw_cln) C.2.2.2.2.2.2.2.1 a1 a2 a3 C.2.2.2.2.2.2.2.2.1 q0 3 ha rfl (va_nm_byte (C.2.2.2.2.2.2.2.1.2 3 _ rfl).2) (fun i v hv => ?_) hR.1 hR.2 hr.1 (Nat.le_trans (Nat.add_le_add_left hB _) hr.2) d (fun q H1 _ b1 b2 b3 => W.widen (Nat.le_refl _) (Nat.add_le_add_left hB _) (kk q H1 locs ls b1 b2 b3 a4))
  have hlt : i < n := by
    have h1 := (Array.getElem?_eq_some_iff.mp hv).1
    have h2 : (vp_cell (x_y X 3) (n, .inl f)).slots.size = n := arrV_size _ _ _
    omega
  have h3 := gfb_of hf i hlt
  have h4 : (vp_cell (x_y X 3) (n, .inl f)).slots[i]? = some (.int (f i)) := by
    show (Array.ofFn (n := n) fun j => Value.int (f j.val))[i]? = _
    rw [Array.getElem?_ofFn, dif_pos hlt]
  rw [Nat.zero_add] at h3
  cases h4.symm.trans hv
  exact h3
/-- checkcast of an array of bytes -/
theorem g_castB (C : gC X own cc ret) {index : Nat} (q0 : Nat) {a n : Nat} {f : Nat → Int32} (hl : Cond.classLink own index "[B" ∈ gBW) (ha : ws[q0]? = some (a, .inl (x_y X 3, n, .inl f))) (d : decode cc pc = .ok (.checkcast index, 3)) (kk : gW X Q ck sk ws lv (.ref a :: st) (pc + 3)) : gW X Q ck sk ws lv (.ref a :: st) pc := fun H locs ls a1 a2 a3 a4 =>
  va_castA C.1 C.2.1 C.2.2.2.1 (C.2.2.2.2.1 _ hl) a1 q0 ha (va_nm_byte (C.2.2.2.2.2.2.2.1.2 3 _ rfl).2) d (kk H locs ls a1 a2 a3 a4)
/-- a new array of secrets, and a secret put into it -/
theorem g_newq (C : gC X own cc ret) {index N : Nat} {n : Int32} (hl : Cond.classLink own index "SecretVault$Secret" ∈ gBW) (hn : ¬ n < 0) (hN : n.toNatClampNeg = N) (hb : N * 4 ≤ 536870912) (hr : ck + 1 ≤ (x_R X).cells ∧ sk + N ≤ (x_R X).slots) {ck' sk' : Nat} (e1 : ck + 1 = ck') (e2 : sk + N = sk') (d : decode cc pc = .ok (.anewarray index, 3))
    (kk : ∀ q : Nat, gW X Q ck' sk' (ws ++ [(q, .inl (x_y X 5, N, .inr (.inr (.inr (.inr (fun _ => none))))))]) lv (.ref q :: st) (pc + 3)) : gW X Q ck sk ws lv (.int n :: st) pc := fun H locs ls a1 a2 a3 a4 => by
  subst e1; subst e2
  refine va_newq C.1 C.2.1 C.2.2.2.1 (C.2.2.2.2.1 _ hl) C.2.2.2.2.2.2.2.2.2.2.1.2.2.1.2.2.2.1 C.2.2.2.2.2.2.2.1 a1 a2 a3 C.2.2.2.2.2.2.2.2.1 (N' := N) hn hN hb hr.1 hr.2 d (fun q cA H1 k1 b1 b2 b3 => ?_)
  obtain ⟨kA, comp, f1, f2, f3, f4⟩ := (k1.2 (gTys (x_y X)).length (cA, .object "SecretVault$Secret") (by rw [List.getElem?_append_right (Nat.le_refl _), Nat.sub_self]; rfl)).2
  obtain ⟨kA', comp', f1', f2', f3', f4'⟩ := (C.2.2.2.2.2.2.2.1.2 5 _ rfl).2
  have hcA : cA = x_y X 5 := Option.some.inj (f4.symm.trans f4')
  subst hcA
  exact kk q H1 locs ls b1 b2 b3 a4
theorem g_aast (C : gC X own cc ret) (q0 q1 : Nat) {a n v ci N : Nat} {K : String} {T : u_T} {fs : List Value} {f : Nat → Option Nat} {i : Int32} (ha : ws[q0]? = some (a, .inl (x_y X 5, n, .inr (.inr (.inr (.inr f)))))) (he : ws[q1]? = some (v, .inr (ci, fs))) (hc : vwCl[ci]? = some (K, T, N)) (hK : K = "SecretVault$Secret") (hin : vp_in i n) (hw : ws.set q0 (a, .inl (x_y X 5, n, .inr (.inr (.inr (.inr (va_up f i.toNatClampNeg (some v))))))) = ws') (d : decode cc pc = .ok (.aastore, 1))
    (kk : gW X Q ck sk ws' lv st (pc + 1)) : gW X Q ck sk ws lv (.ref v :: .int i :: .ref a :: st) pc := fun H locs ls a1 a2 a3 a4 => by
  subst hw; subst hK
  exact va_astqM C.1 C.2.1 C.2.2.2.2.2.2.2.1 a1 a2 a3 q0 5 ha rfl (va_rAny C.2.2.2.2.2.2.2.1 a1 he hc (fun comp c0 h1 h2 => by cases h1.symm.trans h2; exact va_asg _ _)) hin d (fun H1 l1 b1 b2 b3 => kk H1 l1 ls b1 b2 b3 a4)
end GA
section GA2
variable {X : gX} {own : String} {cc : ByteArray} {ret : Option FieldType} {Q : State → Prop} {ck sk pc : Nat} {ws ws' : va_W} {lv : List (Nat × Value)} {st : List Value}
theorem g_subV (isP : List Nat) {E : String} (hn : va_nd isP = true) (hP : isP.map (fun i => ws[i]?) = ws'.map some) (k : gV X Q ck sk ws' lv pc E) : gV X Q ck sk ws lv pc E := fun H locs ls rest q ce a1 a2 a3 a4 a5 a6 a7 =>
  k H locs ls rest q ce (a1.sub isP (gMap_filter hP)) (a2.sub isP hn hP) a3 a4 a5 a6 a7
theorem g_eqw (h : ws = ws') (k : gW X Q ck sk ws' lv st pc) : gW X Q ck sk ws lv st pc := by rw [h]; exact k
end GA2
theorem gRoIn_all9 {ws ro ro' : va_W} {isC : List Nat} (n : Nat) (h : ro = ro') (hl : ws.length = n) (hd : isC.all (fun i => Nat.blt i n) = true) : gRoIn ws ro ro' isC :=
  gRoIn_all h (fun i hi => by rw [hl]; exact Nat.le_of_ble_eq_true (List.all_eq_true.mp hd i hi))
theorem gsome {α : Type} {o : Option α} (h : Option.isSome o = true) : ¬ o = none := fun e => by rw [e] at h; cases h
theorem gw_obj : Cond.code objectInit ⟨#[0xb1]⟩ 1 none ∈ gBW := by decide +kernel
theorem gA4_up (a b c d : Nat) : va_up (va_up (va_up (va_up (fun _ => none) (Int32.toNatClampNeg 0) (some a)) (Int32.toNatClampNeg 1) (some b)) (Int32.toNatClampNeg 2) (some c)) (Int32.toNatClampNeg 3) (some d) = gA4 a b c d := by
  have h0 : Int32.toNatClampNeg 0 = 0 := by decide +kernel
  have h1 : Int32.toNatClampNeg 1 = 1 := by decide +kernel
  have h2 : Int32.toNatClampNeg 2 = 2 := by decide +kernel
  have h3 : Int32.toNatClampNeg 3 = 3 := by decide +kernel
  rw [h0, h1, h2, h3]
  funext i
  match i with
  | 0 => rfl
  | 1 => rfl
  | 2 => rfl
  | 3 => rfl
  | n + 4 =>
    rw [va_up_ne _ _ (by omega), va_up_ne _ _ (by omega), va_up_ne _ _ (by omega), va_up_ne _ _ (by omega)]
    rfl
