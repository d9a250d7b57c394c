/-! X0_ofDouble -/
theorem hd_X0_ofDouble : yX0_ofDouble.cls ≠ "java/lang/invoke/MethodHandle" ∧ yX0_ofDouble.cls ≠ "java/lang/invoke/VarHandle" ∧ (parseMethodDescriptor yX0_ofDouble.desc).map (fun d => d.parameters.length) = some 1 := by decide +kernel
def F_X0_ofDouble_L37   (l2_37 : Int32) (l3_37 : UInt64) : Option (Int64) := gg (gn64 (FP.dmul l3_37 4841369599423283200)) (some ((((Int32.toInt64 l2_37) : Int64) <<< (Int32.toInt64 52 &&& 63)) + ((FP.d2l (FP.dmul l3_37 4841369599423283200)) - 4503599627370496)))
def F_X0_ofDouble_L14   : Nat → Int32 → UInt64 → Option (Int64)
  | 0, _, _ => none
  | n + 1, l2_14, l3_14 => if 0 ≤ (Op.cmpValue (FP.dcmp l3_14 FP.dconst1) .g) then (F_X0_ofDouble_L37 l2_14 l3_14) else (if l2_14 ≤ 1 then (F_X0_ofDouble_L37 l2_14 l3_14) else (gg (gn64 (FP.dmul l3_14 4611686018427387904)) (F_X0_ofDouble_L14 n (l2_14 + (-1)) (FP.dmul l3_14 4611686018427387904))))
def F_X0_ofDouble (p0 : UInt64) : Option (Int64) := if (Op.cmpValue (FP.dcmp p0 FP.dconst0) .l) = 0 then (some 0) else (F_X0_ofDouble_L14 1000 1023 p0)
set_option maxRecDepth 100000 in
set_option maxHeartbeats 4000000 in
theorem c_X0_ofDouble {l : Launch} {D : va_G} {cy : Nat → ClassId}   {p0 : UInt64}  {val : Int64} (hf : F_X0_ofDouble p0 = some val) : gCt l D cy yX0_ofDouble cX0_ofDouble 7 (some .long) 0 0 0 0 [.double p0] [] ([]) 0 (fun _ : Unit => some (.long val)) (fun _ => []) := by
  refine g_begin (by decide +kernel) (Nat.le_of_ble_eq_true rfl) ?_
  intro X Q hl hR hD hy hro hn C hin E
  subst hl; subst hD; subst hy
  replace C : gC X "SecretVault$Bits" cX0_ofDouble (some .long) := C
  unfold F_X0_ofDouble at hf
  have H37 : ∀ (l2_37 : Int32) (l3_37 : UInt64), F_X0_ofDouble_L37 l2_37 l3_37 = some val → gW X Q 0 0 ([]) [(0, .double p0), (2, .int l2_37), (3, .double l3_37)] [] 37 := by
    intro l2_37 l3_37 hf
    unfold F_X0_ofDouble_L37 at hf
    refine g_dload_n C 2 dX0_ofDouble_37 rfl ?_
    refine g_ldc2d C mw_6_123 dX0_ofDouble_38 ?_
    obtain ⟨c3, hf⟩ := gg_of hf
    refine g_dmul C dX0_ofDouble_41 (gn64_of c3) ?_
    refine g_d2l C dX0_ofDouble_42 ?_
    refine g_ldc2 C mw_6_124 dX0_ofDouble_43 ?_
    refine g_lsub C dX0_ofDouble_46 ?_
    refine g_lstore C (lv' := [(5, .long ((FP.d2l (FP.dmul l3_37 4841369599423283200)) - 4503599627370496)), (0, .double p0), (2, .int l2_37), (3, .double l3_37)]) dX0_ofDouble_47 (g_nlt hn rfl) rfl ?_
    refine g_iload_n C 2 dX0_ofDouble_49 rfl ?_
    refine g_i2l C dX0_ofDouble_50 ?_
    refine g_bipush C (v := 52) dX0_ofDouble_51 (by decide) ?_
    refine g_lshl C dX0_ofDouble_53 ?_
    refine g_lload C 0 dX0_ofDouble_54 rfl ?_
    refine g_ladd C dX0_ofDouble_56 ?_
    obtain rfl := Option.some.inj hf
    exact g_lret C E () dX0_ofDouble_57 rfl rfl rfl (Nat.le_of_ble_eq_true rfl) (Nat.le_of_ble_eq_true rfl)
  have H14 : ∀ (n14 : Nat), ∀ (l2_14 : Int32) (l3_14 : UInt64), F_X0_ofDouble_L14 n14 l2_14 l3_14 = some val → gW X Q 0 0 ([]) [(0, .double p0), (2, .int l2_14), (3, .double l3_14)] [] 14 := by
    intro n14
    induction n14 with
    | zero => intros; rename_i hf; cases hf
    | succ n14 ih =>
      intro l2_14 l3_14 hf
      have H14 := ih
      rw [F_X0_ofDouble_L14] at hf
      refine g_dload_n C 2 dX0_ofDouble_14 rfl ?_
      refine g_dconst1 C dX0_ofDouble_15 ?_
      refine g_dcmp C dX0_ofDouble_16 ?_
      refine g_if_ge C 37 dX0_ofDouble_17 (by decide) (fun c2 => ?_) (fun c2 => ?_)
      · have hf := opt_pos c2 hf
        exact H37 l2_14 l3_14 hf
      · have hf := opt_neg c2 hf
        refine g_iload_n C 1 dX0_ofDouble_20 rfl ?_
        refine g_iconst C (v := 1) dX0_ofDouble_21 (by decide) ?_
        refine g_icmp_le C 37 dX0_ofDouble_22 (by decide) (fun c4 => ?_) (fun c4 => ?_)
        · have hf := opt_pos c4 hf
          exact H37 l2_14 l3_14 hf
        · have hf := opt_neg c4 hf
          refine g_dload_n C 2 dX0_ofDouble_25 rfl ?_
          refine g_ldc2d C mw_6_122 dX0_ofDouble_26 ?_
          obtain ⟨c5, hf⟩ := gg_of hf
          refine g_dmul C dX0_ofDouble_29 (gn64_of c5) ?_
          refine g_dstore_n C (lv' := [(3, .double (FP.dmul l3_14 4611686018427387904)), (0, .double p0), (2, .int l2_14)]) dX0_ofDouble_30 (g_nlt hn rfl) rfl ?_
          refine g_iinc C 2 (v := l2_14 + (-1)) (lv' := [(2, .int (l2_14 + (-1))), (3, .double (FP.dmul l3_14 4611686018427387904)), (0, .double p0)]) dX0_ofDouble_31 rfl rfl (g_nlt hn rfl) rfl ?_
          refine g_goto C 14 dX0_ofDouble_34 (by decide) ?_
          refine gW.locals [2, 0, 1] rfl ?_
          exact H14 (l2_14 + (-1)) (FP.dmul l3_14 4611686018427387904) hf
  show gW X Q 0 0 ([]) [(0, .double p0)] [] 0
  refine g_dload_n C 0 dX0_ofDouble_0 rfl ?_
  refine g_dconst0 C dX0_ofDouble_1 ?_
  refine g_dcmp C dX0_ofDouble_2 ?_
  refine g_if_ne C 8 dX0_ofDouble_3 (by decide) (fun c1 => ?_) (fun c1 => ?_)
  · have hf := opt_neg c1 hf
    refine g_sipush C (v := 1023) dX0_ofDouble_8 (by decide) ?_
    refine g_istore_n C (lv' := [(2, .int 1023), (0, .double p0)]) dX0_ofDouble_11 (g_nlt hn rfl) rfl ?_
    refine g_dload_n C 1 dX0_ofDouble_12 rfl ?_
    refine g_dstore_n C (lv' := [(3, .double p0), (2, .int 1023), (0, .double p0)]) dX0_ofDouble_13 (g_nlt hn rfl) rfl ?_
    refine gW.locals [2, 1, 0] rfl ?_
    exact H14 1000 1023 p0 hf
  · have hf := opt_pos c1 hf
    refine g_lconst C (v := 0) dX0_ofDouble_6 (by decide) ?_
    obtain rfl := Option.some.inj hf
    exact g_lret C E () dX0_ofDouble_7 rfl rfl rfl (Nat.le_of_ble_eq_true rfl) (Nat.le_of_ble_eq_true rfl)
/-! X0_ofFloat -/
theorem hd_X0_ofFloat : yX0_ofFloat.cls ≠ "java/lang/invoke/MethodHandle" ∧ yX0_ofFloat.cls ≠ "java/lang/invoke/VarHandle" ∧ (parseMethodDescriptor yX0_ofFloat.desc).map (fun d => d.parameters.length) = some 1 := by decide +kernel
def F_X0_ofFloat_L34   (l1_34 : Int32) (l2_34 : UInt32) : Option (Int32) := gg (gn32 (FP.fmul l2_34 1258291200)) (gl ((FP.f2i (FP.fmul l2_34 1258291200)) - 8388608) fun x4 => some ((l1_34 <<< (23 &&& 31)) + x4))
def F_X0_ofFloat_L13   : Nat → Int32 → UInt32 → Option (Int32)
  | 0, _, _ => none
  | n + 1, l1_13, l2_13 => if 0 ≤ (Op.cmpValue (FP.fcmp l2_13 FP.fconst1) .g) then (F_X0_ofFloat_L34 l1_13 l2_13) else (if l1_13 ≤ 1 then (F_X0_ofFloat_L34 l1_13 l2_13) else (gg (gn32 (FP.fmul l2_13 FP.fconst2)) (F_X0_ofFloat_L13 n (l1_13 + (-1)) (FP.fmul l2_13 FP.fconst2))))
def F_X0_ofFloat (p0 : UInt32) : Option (Int32) := if (Op.cmpValue (FP.fcmp p0 FP.fconst0) .l) = 0 then (some 0) else (F_X0_ofFloat_L13 1000 127 p0)
set_option maxRecDepth 100000 in
set_option maxHeartbeats 4000000 in
theorem c_X0_ofFloat {l : Launch} {D : va_G} {cy : Nat → ClassId}   {p0 : UInt32}  {val : Int32} (hf : F_X0_ofFloat p0 = some val) : gCt l D cy yX0_ofFloat cX0_ofFloat 4 (some .int) 0 0 0 0 [.float p0] [] ([]) 0 (fun _ : Unit => some (.int val)) (fun _ => []) := by
  refine g_begin (by decide +kernel) (Nat.le_of_ble_eq_true rfl) ?_
  intro X Q hl hR hD hy hro hn C hin E
  subst hl; subst hD; subst hy
  replace C : gC X "SecretVault$Bits" cX0_ofFloat (some .int) := C
  unfold F_X0_ofFloat at hf
  have H34 : ∀ (l1_34 : Int32) (l2_34 : UInt32), F_X0_ofFloat_L34 l1_34 l2_34 = some val → gW X Q 0 0 ([]) [(0, .float p0), (1, .int l1_34), (2, .float l2_34)] [] 34 := by
    intro l1_34 l2_34 hf
    unfold F_X0_ofFloat_L34 at hf
    refine g_fload_n C 2 dX0_ofFloat_34 rfl ?_
    refine g_ldcf C mw_6_152 dX0_ofFloat_35 ?_
    obtain ⟨c3, hf⟩ := gg_of hf
    refine g_fmul C dX0_ofFloat_37 (gn32_of c3) ?_
    refine g_f2i C dX0_ofFloat_38 ?_
    refine g_ldc C mw_6_153 dX0_ofFloat_39 ?_
    refine g_isub C dX0_ofFloat_41 ?_
    obtain ⟨x4, ex4, hf⟩ := opt_let hf
    refine g_topi ex4 ?_
    refine g_istore_n C (lv' := [(3, .int x4), (0, .float p0), (1, .int l1_34), (2, .float l2_34)]) dX0_ofFloat_42 (g_nlt hn rfl) rfl ?_
    refine g_iload_n C 2 dX0_ofFloat_43 rfl ?_
    refine g_bipush C (v := 23) dX0_ofFloat_44 (by decide) ?_
    refine g_ishl C dX0_ofFloat_46 ?_
    refine g_iload_n C 0 dX0_ofFloat_47 rfl ?_
    refine g_iadd C dX0_ofFloat_48 ?_
    obtain rfl := Option.some.inj hf
    exact g_iret C E () dX0_ofFloat_49 rfl rfl rfl (Nat.le_of_ble_eq_true rfl) (Nat.le_of_ble_eq_true rfl)
  have H13 : ∀ (n13 : Nat), ∀ (l1_13 : Int32) (l2_13 : UInt32), F_X0_ofFloat_L13 n13 l1_13 l2_13 = some val → gW X Q 0 0 ([]) [(0, .float p0), (1, .int l1_13), (2, .float l2_13)] [] 13 := by
    intro n13
    induction n13 with
    | zero => intros; rename_i hf; cases hf
    | succ n13 ih =>
      intro l1_13 l2_13 hf
      have H13 := ih
      rw [F_X0_ofFloat_L13] at hf
      refine g_fload_n C 2 dX0_ofFloat_13 rfl ?_
      refine g_fconst1 C dX0_ofFloat_14 ?_
      refine g_fcmp C dX0_ofFloat_15 ?_
      refine g_if_ge C 34 dX0_ofFloat_16 (by decide) (fun c2 => ?_) (fun c2 => ?_)
      · have hf := opt_pos c2 hf
        exact H34 l1_13 l2_13 hf
      · have hf := opt_neg c2 hf
        refine g_iload_n C 1 dX0_ofFloat_19 rfl ?_
        refine g_iconst C (v := 1) dX0_ofFloat_20 (by decide) ?_
        refine g_icmp_le C 34 dX0_ofFloat_21 (by decide) (fun c5 => ?_) (fun c5 => ?_)
        · have hf := opt_pos c5 hf
          exact H34 l1_13 l2_13 hf
        · have hf := opt_neg c5 hf
          refine g_fload_n C 2 dX0_ofFloat_24 rfl ?_
          refine g_fconst2 C dX0_ofFloat_25 ?_
          obtain ⟨c6, hf⟩ := gg_of hf
          refine g_fmul C dX0_ofFloat_26 (gn32_of c6) ?_
          refine g_fstore_n C (lv' := [(2, .float (FP.fmul l2_13 FP.fconst2)), (0, .float p0), (1, .int l1_13)]) dX0_ofFloat_27 (g_nlt hn rfl) rfl ?_
          refine g_iinc C 2 (v := l1_13 + (-1)) (lv' := [(1, .int (l1_13 + (-1))), (2, .float (FP.fmul l2_13 FP.fconst2)), (0, .float p0)]) dX0_ofFloat_28 rfl rfl (g_nlt hn rfl) rfl ?_
          refine g_goto C 13 dX0_ofFloat_31 (by decide) ?_
          refine gW.locals [2, 0, 1] rfl ?_
          exact H13 (l1_13 + (-1)) (FP.fmul l2_13 FP.fconst2) hf
  show gW X Q 0 0 ([]) [(0, .float p0)] [] 0
  refine g_fload_n C 0 dX0_ofFloat_0 rfl ?_
  refine g_fconst0 C dX0_ofFloat_1 ?_
  refine g_fcmp C dX0_ofFloat_2 ?_
  refine g_if_ne C 8 dX0_ofFloat_3 (by decide) (fun c1 => ?_) (fun c1 => ?_)
  · have hf := opt_neg c1 hf
    refine g_bipush C (v := 127) dX0_ofFloat_8 (by decide) ?_
    refine g_istore_n C (lv' := [(1, .int 127), (0, .float p0)]) dX0_ofFloat_10 (g_nlt hn rfl) rfl ?_
    refine g_fload_n C 1 dX0_ofFloat_11 rfl ?_
    refine g_fstore_n C (lv' := [(2, .float p0), (1, .int 127), (0, .float p0)]) dX0_ofFloat_12 (g_nlt hn rfl) rfl ?_
    refine gW.locals [2, 1, 0] rfl ?_
    exact H13 1000 127 p0 hf
  · have hf := opt_pos c1 hf
    refine g_iconst C (v := 0) dX0_ofFloat_6 (by decide) ?_
    obtain rfl := Option.some.inj hf
    exact g_iret C E () dX0_ofFloat_7 rfl rfl rfl (Nat.le_of_ble_eq_true rfl) (Nat.le_of_ble_eq_true rfl)
/-! X10_powerBits -/
theorem hd_X10_powerBits : yX10_powerBits.cls ≠ "java/lang/invoke/MethodHandle" ∧ yX10_powerBits.cls ≠ "java/lang/invoke/VarHandle" ∧ (parseMethodDescriptor yX10_powerBits.desc).map (fun d => d.parameters.length) = some 2 := by decide +kernel
def F_X10_powerBits_L46  (K22 : (Nat → Int32) → (Nat → Int32) → Int32 → Int32 → Option (Nat × Int64 × (Nat → Int32) × (Nat → Int32))) (gs_46 : Nat → Int32) (op_46 : Nat → Int32) (l4_46 : Int32) (s0_46 : Int32) (s1_46 : Int32) : Option (Nat × Int64 × (Nat → Int32) × (Nat → Int32)) := K22 gs_46 op_46 (s1_46 + s0_46) (l4_46 + 1)
def F_X10_powerBits_L22 (p1 : Int32)  : Nat → (Nat → Int32) → (Nat → Int32) → Int32 → Int32 → Option (Nat × Int64 × (Nat → Int32) × (Nat → Int32))
  | 0, _, _, _, _ => none
  | n + 1, gs_22, op_22, l3_22, l4_22 => if 256 ≤ l4_22 then (gg (gn64 (FP.ddiv (FP.i2d l3_22) 4638707616191610880)) ((F_X0_ofDouble (FP.ddiv (FP.i2d l3_22) 4638707616191610880)).bind fun v11 => some (0, v11, gs_22, op_22))) else ((F_X10_isNeeded op_22 p1 l4_22).bind fun v13 => if v13 = 0 then (F_X10_powerBits_L46 (F_X10_powerBits_L22 p1 n) gs_22 op_22 l4_22 0 l3_22) else (F_X10_powerBits_L46 (F_X10_powerBits_L22 p1 n) gs_22 op_22 l4_22 1 l3_22))
def F_X10_powerBits (gs : Nat → Int32) (op : Nat → Int32) (pr : Int32) (c_filled : Int32) (c_th : Int32) (c_ep : Int32) (c_rule : Option Nat) (c_cm : Nat → Int32) (c_vs : Nat → Int32) (c_es : Nat → Int32) (ful : Nat → Int32) (p0 : Int32) (p1 : Int32) : Option (Nat × Int64 × (Nat → Int32) × (Nat → Int32)) := (F_X10_checkSlot p0).bind fun v1 => if v1 = 0 then ((F_X10_checkMember p1).bind fun v3 => if v3 = 0 then ((F_X10_secretIn c_filled p0).bind fun v5 => if v5 = 0 then ((F_X10_markOpeningSets gs op pr c_th c_ep c_rule c_cm c_vs c_es ful).bind fun v7 => F_X10_powerBits_L22 p1 1000 v7.1 v7.2 0 0) else some (v5, 0, gs, op)) else some (v3, 0, gs, op)) else some (v1, 0, gs, op)
set_option maxRecDepth 100000 in
set_option maxHeartbeats 4000000 in
theorem c_X10_powerBits {l : Launch} {D : va_G} {cy : Nat → ClassId} {v : Nat → Nat} {b : Nat → Nat} {c : Nat → Nat} {q0 q1 t0 t1 : Nat} {kp : Nat} {ak : Int32} {bf : Nat} {fa : Int32} {fl : Nat} {ln : Nat} {co : Nat → Int32} {ch : Nat → Int32} {gs : Nat → Int32} {op : Nat → Int32} {z : Int32} {pr : Int32} {le : Int32} {ec : Int32} {wt : Nat → Int32} {sa : Nat → Option Nat} {ev : Nat → Int32} {c_filled : Int32} {c_th : Int32} {c_ep : Int32} {c_rule : Option Nat} {c_cm : Nat → Int32} {c_vs : Nat → Int32} {c_es : Nat → Int32} {pparts : Int32} {pnest : Int32} {pnamed : Int32} {ful : Nat → Int32} {hash : Int32} {hz : Int32} {tn : Nat} {tb : Nat → Int32} {p0 : Int32} {p1 : Int32} (hs : gi p0 4 = true → sa (Int32.toNatClampNeg p0) = some (c 0)) (hpol : ¬ c_rule = none → c_rule = some q0) {val : Nat × Int64 × (Nat → Int32) × (Nat → Int32)} (hf : F_X10_powerBits gs op pr c_filled c_th c_ep c_rule c_cm c_vs c_es ful p0 p1 = some val) : gCt l D cy yX10_powerBits cX10_powerBits 5 (some .long) 7 114 3 18 [.ref (v 0), .int p0, .int p1] (gOpt c_rule ((wPo cy q0 q1 t0 t1 pparts pnest pnamed ful hash hz tn tb))) ((wV cy v (b 0) kp ak bf fa fl ln co ch gs op) ++ (wSt cy b z pr le ec wt sa ev) ++ (wSec cy c c_filled c_th c_ep c_rule c_cm c_vs c_es)) val.1 (fun _ : Unit => some (.long val.2.1)) (fun _ => (wV cy v (b 0) kp ak bf fa fl ln co ch val.2.2.1 val.2.2.2) ++ (wSt cy b z pr le ec wt sa ev) ++ (wSec cy c c_filled c_th c_ep c_rule c_cm c_vs c_es)) := by
  refine g_begin (by decide +kernel) (Nat.le_of_ble_eq_true rfl) ?_
  intro X Q hl hR hD hy hro hn C hin E
  subst hl; subst hD; subst hy
  replace C : gC X "SecretVault" cX10_powerBits (some .long) := C
  unfold F_X10_powerBits at hf
  have H22 : ∀ (n22 : Nat), ∀ (gs_22 : Nat → Int32) (op_22 : Nat → Int32) (l3_22 : Int32) (l4_22 : Int32), F_X10_powerBits_L22 p1 n22 gs_22 op_22 l3_22 l4_22 = some val → gW X Q 3 18 ((wV (x_y X) v (b 0) kp ak bf fa fl ln co ch gs_22 op_22) ++ (wSt (x_y X) b z pr le ec wt sa ev) ++ (wSec (x_y X) c c_filled c_th c_ep c_rule c_cm c_vs c_es)) [(0, .ref (v 0)), (1, .int p0), (2, .int p1), (3, .int l3_22), (4, .int l4_22)] [] 22 := by
    intro n22
    induction n22 with
    | zero => intros; rename_i hf; cases hf
    | succ n22 ih =>
      intro gs_22 op_22 l3_22 l4_22 hf
      have H22 := ih
      rw [F_X10_powerBits_L22] at hf
      have H46 : ∀ (gs_46 : Nat → Int32) (op_46 : Nat → Int32) (l4_46 : Int32) (s0_46 : Int32) (s1_46 : Int32), F_X10_powerBits_L46 (F_X10_powerBits_L22 p1 n22) gs_46 op_46 l4_46 s0_46 s1_46 = some val → gW X Q 3 18 ((wV (x_y X) v (b 0) kp ak bf fa fl ln co ch gs_46 op_46) ++ (wSt (x_y X) b z pr le ec wt sa ev) ++ (wSec (x_y X) c c_filled c_th c_ep c_rule c_cm c_vs c_es)) [(0, .ref (v 0)), (1, .int p0), (2, .int p1), (4, .int l4_46)] [.int s0_46, .int s1_46] 46 := by
        intro gs_46 op_46 l4_46 s0_46 s1_46 hf
        unfold F_X10_powerBits_L46 at hf
        refine g_iadd C dX10_powerBits_46 ?_
        refine g_istore_n C (lv' := [(3, .int (s1_46 + s0_46)), (0, .ref (v 0)), (1, .int p0), (2, .int p1), (4, .int l4_46)]) dX10_powerBits_47 (g_nlt hn rfl) rfl ?_
        refine g_iinc C 4 (v := l4_46 + 1) (lv' := [(4, .int (l4_46 + 1)), (3, .int (s1_46 + s0_46)), (0, .ref (v 0)), (1, .int p0), (2, .int p1)]) dX10_powerBits_48 rfl rfl (g_nlt hn rfl) rfl ?_
        refine g_goto C 22 dX10_powerBits_51 (by decide) ?_
        refine gW.locals [2, 3, 4, 1, 0] rfl ?_
        exact H22 gs_46 op_46 (s1_46 + s0_46) (l4_46 + 1) hf
      refine g_iload C 4 dX10_powerBits_22 rfl ?_
      refine g_sipush C (v := 256) dX10_powerBits_24 (by decide) ?_
      refine g_icmp_ge C 54 dX10_powerBits_27 (by decide) (fun c9 => ?_) (fun c9 => ?_)
      · have hf := opt_pos c9 hf
        refine g_iload_n C 3 dX10_powerBits_54 rfl ?_
        refine g_i2d C dX10_powerBits_55 ?_
        refine g_ldc2d C mw_6_118 dX10_powerBits_56 ?_
        obtain ⟨c10, hf⟩ := gg_of hf
        refine g_ddiv C dX10_powerBits_59 (gn64_of c10) ?_
        obtain ⟨v11, h12, hf⟩ := opt_bind hf
        refine g_callS C (c_X0_ofDouble (l := x_l X) (D := x_D X) (cy := x_y X) (p0 := FP.ddiv (FP.i2d l3_22) 4638707616191610880) h12) (As := [.double (FP.ddiv (FP.i2d l3_22) 4638707616191610880)]) (rest := []) (wr := (wV (x_y X) v (b 0) kp ak bf fa fl ln co ch gs_22 op_22) ++ (wSt (x_y X) b z pr le ec wt sa ev) ++ (wSec (x_y X) c c_filled c_th c_ep c_rule c_cm c_vs c_es)) (ws' := fun _ => (wV (x_y X) v (b 0) kp ak bf fa fl ln co ch gs_22 op_22) ++ (wSt (x_y X) b z pr le ec wt sa ev) ++ (wSec (x_y X) c c_filled c_th c_ep c_rule c_cm c_vs c_es)) (st' := fun _ => [.long v11]) 1 mw_6_121 mw_1_34 mw_6_119 mw_6_120 hd_X0_ofDouble rfl (g_rm hR rfl rfl) [] [0, 1, 2, 3, 4, 5, 6, 7, 8, 9, 10, 11, 12] [0, 1, 2, 3, 4, 5, 6, 7, 8, 9, 10, 11, 12] ⟨rfl, rfl, rfl, rfl, by decide, gRoIn_0, rfl, fun _ => rfl⟩ rfl (Nat.le_of_ble_eq_true rfl) dX10_powerBits_60 (g_rc hR (Nat.le_of_ble_eq_true rfl) (Nat.le_of_ble_eq_true rfl)) (ck' := 3) (sk' := 18) rfl rfl (fun _ => rfl) (fun _ _ => ?_) (fun _ hx => absurd rfl hx)
        obtain rfl := Option.some.inj hf
        exact g_lret C E () dX10_powerBits_63 rfl rfl rfl (Nat.le_of_ble_eq_true rfl) (Nat.le_of_ble_eq_true rfl)
      · have hf := opt_neg c9 hf
        refine g_iload_n C 3 dX10_powerBits_30 rfl ?_
        refine g_aload_n C 0 dX10_powerBits_31 rfl ?_
        refine g_iload_n C 2 dX10_powerBits_32 rfl ?_
        refine g_iload C 4 dX10_powerBits_33 rfl ?_
        obtain ⟨v13, h14, hf⟩ := opt_bind hf
        refine g_callV C (c_X10_isNeeded (l := x_l X) (D := x_D X) (cy := x_y X) (v := v) (nw := (b 0)) (kp := kp) (ak := ak) (bf := bf) (fa := fa) (fl := fl) (ln := ln) (co := co) (ch := ch) (gs := gs_22) (op := op_22) (p0 := p1) (p1 := l4_22) h14) (As := [.int p1, .int l4_22]) (rest := [.int l3_22]) (wr := (wSt (x_y X) b z pr le ec wt sa ev) ++ (wSec (x_y X) c c_filled c_th c_ep c_rule c_cm c_vs c_es)) (ws' := fun _ => (wV (x_y X) v (b 0) kp ak bf fa fl ln co ch gs_22 op_22) ++ (wSt (x_y X) b z pr le ec wt sa ev) ++ (wSec (x_y X) c c_filled c_th c_ep c_rule c_cm c_vs c_es)) (st' := fun _ => [.int v13, .int l3_22]) (ci := 11) 2 0 ⟨_, rfl⟩ rfl rfl mw_6_109 mw_1_1 mw_6_106 mw_6_108 mp_28 hd_X10_isNeeded rfl (g_rm hR rfl rfl) [0, 1, 2, 3, 4] [5, 6, 7, 8, 9, 10, 11, 12] [8, 9, 10, 11, 12, 0, 1, 2, 3, 4, 5, 6, 7] ⟨rfl, rfl, rfl, rfl, by decide, gRoIn_0, rfl, fun _ => rfl⟩ rfl (Nat.le_of_ble_eq_true rfl) dX10_powerBits_35 (g_rc hR (Nat.le_of_ble_eq_true rfl) (Nat.le_of_ble_eq_true rfl)) (ck' := 3) (sk' := 18) rfl rfl (fun _ => rfl) (fun _ _ => ?_) (fun _ hx => absurd rfl hx)
        refine g_if_eq C 45 dX10_powerBits_38 (by decide) (fun c15 => ?_) (fun c15 => ?_)
        · have hf := opt_pos c15 hf
          refine g_iconst C (v := 0) dX10_powerBits_45 (by decide) ?_
          refine gW.locals [0, 1, 2, 4] rfl ?_
          exact H46 gs_22 op_22 l4_22 0 l3_22 hf
        · have hf := opt_neg c15 hf
          refine g_iconst C (v := 1) dX10_powerBits_41 (by decide) ?_
          refine g_goto C 46 dX10_powerBits_42 (by decide) ?_
          refine gW.locals [0, 1, 2, 4] rfl ?_
          exact H46 gs_22 op_22 l4_22 1 l3_22 hf
  show gW X Q 0 0 ((wV (x_y X) v (b 0) kp ak bf fa fl ln co ch gs op) ++ (wSt (x_y X) b z pr le ec wt sa ev) ++ (wSec (x_y X) c c_filled c_th c_ep c_rule c_cm c_vs c_es)) [(0, .ref (v 0)), (1, .int p0), (2, .int p1)] [] 0
  refine g_iload_n C 1 dX10_powerBits_0 rfl ?_
  obtain ⟨v1, h2, hf⟩ := opt_bind hf
  refine g_callS C (c_X10_checkSlot (l := x_l X) (D := x_D X) (cy := x_y X) (p0 := p0) h2) (As := [.int p0]) (rest := []) (wr := (wV (x_y X) v (b 0) kp ak bf fa fl ln co ch gs op) ++ (wSt (x_y X) b z pr le ec wt sa ev) ++ (wSec (x_y X) c c_filled c_th c_ep c_rule c_cm c_vs c_es)) (ws' := fun _ => (wV (x_y X) v (b 0) kp ak bf fa fl ln co ch gs op) ++ (wSt (x_y X) b z pr le ec wt sa ev) ++ (wSec (x_y X) c c_filled c_th c_ep c_rule c_cm c_vs c_es)) (st' := fun _ => []) 1 mw_2_189 mw_1_1 mw_2_187 mw_2_188 hd_X10_checkSlot rfl (g_rm hR rfl rfl) [] [0, 1, 2, 3, 4, 5, 6, 7, 8, 9, 10, 11, 12] [0, 1, 2, 3, 4, 5, 6, 7, 8, 9, 10, 11, 12] ⟨rfl, rfl, rfl, rfl, by decide, gRoIn_0, rfl, fun _ => rfl⟩ rfl (Nat.le_of_ble_eq_true rfl) dX10_powerBits_1 (g_rc hR (Nat.le_of_ble_eq_true rfl) (Nat.le_of_ble_eq_true rfl)) (ck' := 1) (sk' := 6) rfl rfl (fun _ => rfl) (fun _ ev1 => ?_) (fun _ ev1 => ?_)
  rotate_left
  · have hf := opt_neg ev1 hf
    obtain rfl := Option.some.inj hf
    exact g_out E () rfl ev1 rfl (Nat.le_of_ble_eq_true rfl) (Nat.le_of_ble_eq_true rfl)
  have hf := opt_pos ev1 hf
  refine g_iload_n C 2 dX10_powerBits_4 rfl ?_
  obtain ⟨v3, h4, hf⟩ := opt_bind hf
  refine g_callS C (c_X10_checkMember (l := x_l X) (D := x_D X) (cy := x_y X) (p0 := p1) h4) (As := [.int p1]) (rest := []) (wr := (wV (x_y X) v (b 0) kp ak bf fa fl ln co ch gs op) ++ (wSt (x_y X) b z pr le ec wt sa ev) ++ (wSec (x_y X) c c_filled c_th c_ep c_rule c_cm c_vs c_es)) (ws' := fun _ => (wV (x_y X) v (b 0) kp ak bf fa fl ln co ch gs op) ++ (wSt (x_y X) b z pr le ec wt sa ev) ++ (wSec (x_y X) c c_filled c_th c_ep c_rule c_cm c_vs c_es)) (st' := fun _ => []) 1 mw_2_97 mw_1_1 mw_2_95 mw_2_96 hd_X10_checkMember rfl (g_rm hR rfl rfl) [] [0, 1, 2, 3, 4, 5, 6, 7, 8, 9, 10, 11, 12] [0, 1, 2, 3, 4, 5, 6, 7, 8, 9, 10, 11, 12] ⟨rfl, rfl, rfl, rfl, by decide, gRoIn_0, rfl, fun _ => rfl⟩ rfl (Nat.le_of_ble_eq_true rfl) dX10_powerBits_5 (g_rc hR (Nat.le_of_ble_eq_true rfl) (Nat.le_of_ble_eq_true rfl)) (ck' := 2) (sk' := 12) rfl rfl (fun _ => rfl) (fun _ ev3 => ?_) (fun _ ev3 => ?_)
  rotate_left
  · have hf := opt_neg ev3 hf
    obtain rfl := Option.some.inj hf
    exact g_out E () rfl ev3 rfl (Nat.le_of_ble_eq_true rfl) (Nat.le_of_ble_eq_true rfl)
  have hf := opt_pos ev3 hf
  refine g_aload_n C 0 dX10_powerBits_8 rfl ?_
  refine g_aload_n C 0 dX10_powerBits_9 rfl ?_
  refine g_iload_n C 1 dX10_powerBits_10 rfl ?_
  obtain ⟨v5, h6, hf⟩ := opt_bind hf
  refine g_callV C (c_X10_secretIn (l := x_l X) (D := x_D X) (cy := x_y X) (v := v) (b := b) (c := c) (kp := kp) (ak := ak) (bf := bf) (fa := fa) (fl := fl) (ln := ln) (co := co) (ch := ch) (gs := gs) (op := op) (z := z) (pr := pr) (le := le) (ec := ec) (wt := wt) (sa := sa) (ev := ev) (c_filled := c_filled) (c_th := c_th) (c_ep := c_ep) (c_rule := c_rule) (c_cm := c_cm) (c_vs := c_vs) (c_es := c_es) (p0 := p0) (hs := hs) h6) (As := [.int p0]) (rest := [.ref (v 0)]) (wr := []) (ws' := fun _ => (wV (x_y X) v (b 0) kp ak bf fa fl ln co ch gs op) ++ (wSt (x_y X) b z pr le ec wt sa ev) ++ (wSec (x_y X) c c_filled c_th c_ep c_rule c_cm c_vs c_es)) (st' := fun _ => [.ref (c 0), .ref (v 0)]) (ci := 11) 1 0 ⟨_, rfl⟩ rfl rfl mw_3_34 mw_1_1 mw_3_31 mw_3_33 mp_5 hd_X10_secretIn rfl (g_rm hR rfl rfl) [0, 1, 2, 3, 4, 5, 6, 7, 8, 9, 10, 11, 12] [] [0, 1, 2, 3, 4, 5, 6, 7, 8, 9, 10, 11, 12] ⟨rfl, rfl, rfl, rfl, by decide, gRoIn_0, rfl, fun _ => rfl⟩ rfl (Nat.le_of_ble_eq_true rfl) dX10_powerBits_11 (g_rc hR (Nat.le_of_ble_eq_true rfl) (Nat.le_of_ble_eq_true rfl)) (ck' := 3) (sk' := 18) rfl rfl (fun _ => rfl) (fun _ ev5 => ?_) (fun _ ev5 => ?_)
  rotate_left
  · have hf := opt_neg ev5 hf
    obtain rfl := Option.some.inj hf
    exact g_out E () rfl ev5 rfl (Nat.le_of_ble_eq_true rfl) (Nat.le_of_ble_eq_true rfl)
  have hf := opt_pos ev5 hf
  obtain ⟨v7, h8, hf⟩ := opt_bind hf
  refine g_callV C (c_X10_markOpeningSets (l := x_l X) (D := x_D X) (cy := x_y X) (v := v) (b := b) (c := c) (q0 := q0) (q1 := q1) (t0 := t0) (t1 := t1) (kp := kp) (ak := ak) (bf := bf) (fa := fa) (fl := fl) (ln := ln) (co := co) (ch := ch) (gs := gs) (op := op) (z := z) (pr := pr) (le := le) (ec := ec) (wt := wt) (sa := sa) (ev := ev) (c_filled := c_filled) (c_th := c_th) (c_ep := c_ep) (c_rule := c_rule) (c_cm := c_cm) (c_vs := c_vs) (c_es := c_es) (pparts := pparts) (pnest := pnest) (pnamed := pnamed) (ful := ful) (hash := hash) (hz := hz) (tn := tn) (tb := tb) (hpol := hpol) h8) (As := [.ref (c 0)]) (rest := []) (wr := []) (ws' := fun _ => (wV (x_y X) v (b 0) kp ak bf fa fl ln co ch v7.1 v7.2) ++ (wSt (x_y X) b z pr le ec wt sa ev) ++ (wSec (x_y X) c c_filled c_th c_ep c_rule c_cm c_vs c_es)) (st' := fun _ => []) (ci := 11) 1 0 ⟨_, rfl⟩ rfl rfl mw_6_90 mw_1_1 mw_6_87 mw_6_89 mp_25 hd_X10_markOpeningSets rfl (g_rm hR rfl rfl) [0, 1, 2, 3, 4, 5, 6, 7, 8, 9, 10, 11, 12] [] [0, 1, 2, 3, 4, 5, 6, 7, 8, 9, 10, 11, 12] ⟨rfl, rfl, rfl, rfl, by decide, gRoIn_all9 13 hro rfl rfl, rfl, fun _ => rfl⟩ rfl (Nat.le_of_ble_eq_true rfl) dX10_powerBits_14 (g_rc hR (Nat.le_of_ble_eq_true rfl) (Nat.le_of_ble_eq_true rfl)) (ck' := 3) (sk' := 18) rfl rfl (fun _ => rfl) (fun _ _ => ?_) (fun _ hx => absurd rfl hx)
  refine g_iconst C (v := 0) dX10_powerBits_17 (by decide) ?_
  refine g_istore_n C (lv' := [(3, .int 0), (0, .ref (v 0)), (1, .int p0), (2, .int p1)]) dX10_powerBits_18 (g_nlt hn rfl) rfl ?_
  refine g_iconst C (v := 0) dX10_powerBits_19 (by decide) ?_
  refine g_istore C (lv' := [(4, .int 0), (3, .int 0), (0, .ref (v 0)), (1, .int p0), (2, .int p1)]) dX10_powerBits_20 (g_nlt hn rfl) rfl ?_
  refine gW.locals [2, 3, 4, 1, 0] rfl ?_
  exact H22 1000 v7.1 v7.2 0 0 hf
/-! X10_healthBits -/
theorem hd_X10_healthBits : yX10_healthBits.cls ≠ "java/lang/invoke/MethodHandle" ∧ yX10_healthBits.cls ≠ "java/lang/invoke/VarHandle" ∧ (parseMethodDescriptor yX10_healthBits.desc).map (fun d => d.parameters.length) = some 1 := by decide +kernel
def F_X10_healthBits (c_filled : Int32) (c_th : Int32) (c_ep : Int32) (c_cm : Nat → Int32) (c_vs : Nat → Int32) (c_es : Nat → Int32) (p0 : Int32) : Option (Nat × Int32) := (F_X10_checkSlot p0).bind fun v1 => if v1 = 0 then ((F_X10_secretIn c_filled p0).bind fun v3 => if v3 = 0 then ((F_X7_shareCount c_es 255).bind fun v5 => if v5 = 0 then (some (6, 0)) else ((F_X7_shareCount_ c_th c_ep c_cm c_vs c_es 255 0).bind fun v8 => gg (gn32 (FP.fdiv (FP.i2f v8) (FP.i2f v5))) ((F_X0_ofFloat (FP.fdiv (FP.i2f v8) (FP.i2f v5))).bind fun v11 => some (0, v11)))) else some (v3, 0)) else some (v1, 0)
set_option maxRecDepth 100000 in
set_option maxHeartbeats 4000000 in
theorem c_X10_healthBits {l : Launch} {D : va_G} {cy : Nat → ClassId} {v : Nat → Nat} {b : Nat → Nat} {c : Nat → Nat} {kp : Nat} {ak : Int32} {bf : Nat} {fa : Int32} {fl : Nat} {ln : Nat} {co : Nat → Int32} {ch : Nat → Int32} {gs : Nat → Int32} {op : Nat → Int32} {z : Int32} {pr : Int32} {le : Int32} {ec : Int32} {wt : Nat → Int32} {sa : Nat → Option Nat} {ev : Nat → Int32} {c_filled : Int32} {c_th : Int32} {c_ep : Int32} {c_rule : Option Nat} {c_cm : Nat → Int32} {c_vs : Nat → Int32} {c_es : Nat → Int32} {p0 : Int32} (hs : gi p0 4 = true → sa (Int32.toNatClampNeg p0) = some (c 0)) {val : Nat × Int32} (hf : F_X10_healthBits c_filled c_th c_ep c_cm c_vs c_es p0 = some val) : gCt l D cy yX10_healthBits cX10_healthBits 4 (some .int) 7 104 3 18 [.ref (v 0), .int p0] [] ((wV cy v (b 0) kp ak bf fa fl ln co ch gs op) ++ (wSt cy b z pr le ec wt sa ev) ++ (wSec cy c c_filled c_th c_ep c_rule c_cm c_vs c_es)) val.1 (fun _ : Unit => some (.int val.2)) (fun _ => (wV cy v (b 0) kp ak bf fa fl ln co ch gs op) ++ (wSt cy b z pr le ec wt sa ev) ++ (wSec cy c c_filled c_th c_ep c_rule c_cm c_vs c_es)) := by
  refine g_begin (by decide +kernel) (Nat.le_of_ble_eq_true rfl) ?_
  intro X Q hl hR hD hy hro hn C hin E
  subst hl; subst hD; subst hy
  replace C : gC X "SecretVault" cX10_healthBits (some .int) := C
  unfold F_X10_healthBits at hf
  show gW X Q 0 0 ((wV (x_y X) v (b 0) kp ak bf fa fl ln co ch gs op) ++ (wSt (x_y X) b z pr le ec wt sa ev) ++ (wSec (x_y X) c c_filled c_th c_ep c_rule c_cm c_vs c_es)) [(0, .ref (v 0)), (1, .int p0)] [] 0
  refine g_iload_n C 1 dX10_healthBits_0 rfl ?_
  obtain ⟨v1, h2, hf⟩ := opt_bind hf
  refine g_callS C (c_X10_checkSlot (l := x_l X) (D := x_D X) (cy := x_y X) (p0 := p0) h2) (As := [.int p0]) (rest := []) (wr := (wV (x_y X) v (b 0) kp ak bf fa fl ln co ch gs op) ++ (wSt (x_y X) b z pr le ec wt sa ev) ++ (wSec (x_y X) c c_filled c_th c_ep c_rule c_cm c_vs c_es)) (ws' := fun _ => (wV (x_y X) v (b 0) kp ak bf fa fl ln co ch gs op) ++ (wSt (x_y X) b z pr le ec wt sa ev) ++ (wSec (x_y X) c c_filled c_th c_ep c_rule c_cm c_vs c_es)) (st' := fun _ => []) 1 mw_2_189 mw_1_1 mw_2_187 mw_2_188 hd_X10_checkSlot rfl (g_rm hR rfl rfl) [] [0, 1, 2, 3, 4, 5, 6, 7, 8, 9, 10, 11, 12] [0, 1, 2, 3, 4, 5, 6, 7, 8, 9, 10, 11, 12] ⟨rfl, rfl, rfl, rfl, by decide, gRoIn_0, rfl, fun _ => rfl⟩ rfl (Nat.le_of_ble_eq_true rfl) dX10_healthBits_1 (g_rc hR (Nat.le_of_ble_eq_true rfl) (Nat.le_of_ble_eq_true rfl)) (ck' := 1) (sk' := 6) rfl rfl (fun _ => rfl) (fun _ ev1 => ?_) (fun _ ev1 => ?_)
  rotate_left
  · have hf := opt_neg ev1 hf
    obtain rfl := Option.some.inj hf
    exact g_out E () rfl ev1 rfl (Nat.le_of_ble_eq_true rfl) (Nat.le_of_ble_eq_true rfl)
  have hf := opt_pos ev1 hf
  refine g_aload_n C 0 dX10_healthBits_4 rfl ?_
  refine g_iload_n C 1 dX10_healthBits_5 rfl ?_
  obtain ⟨v3, h4, hf⟩ := opt_bind hf
  refine g_callV C (c_X10_secretIn (l := x_l X) (D := x_D X) (cy := x_y X) (v := v) (b := b) (c := c) (kp := kp) (ak := ak) (bf := bf) (fa := fa) (fl := fl) (ln := ln) (co := co) (ch := ch) (gs := gs) (op := op) (z := z) (pr := pr) (le := le) (ec := ec) (wt := wt) (sa := sa) (ev := ev) (c_filled := c_filled) (c_th := c_th) (c_ep := c_ep) (c_rule := c_rule) (c_cm := c_cm) (c_vs := c_vs) (c_es := c_es) (p0 := p0) (hs := hs) h4) (As := [.int p0]) (rest := []) (wr := []) (ws' := fun _ => (wV (x_y X) v (b 0) kp ak bf fa fl ln co ch gs op) ++ (wSt (x_y X) b z pr le ec wt sa ev) ++ (wSec (x_y X) c c_filled c_th c_ep c_rule c_cm c_vs c_es)) (st' := fun _ => [.ref (c 0)]) (ci := 11) 1 0 ⟨_, rfl⟩ rfl rfl mw_3_34 mw_1_1 mw_3_31 mw_3_33 mp_5 hd_X10_secretIn rfl (g_rm hR rfl rfl) [0, 1, 2, 3, 4, 5, 6, 7, 8, 9, 10, 11, 12] [] [0, 1, 2, 3, 4, 5, 6, 7, 8, 9, 10, 11, 12] ⟨rfl, rfl, rfl, rfl, by decide, gRoIn_0, rfl, fun _ => rfl⟩ rfl (Nat.le_of_ble_eq_true rfl) dX10_healthBits_6 (g_rc hR (Nat.le_of_ble_eq_true rfl) (Nat.le_of_ble_eq_true rfl)) (ck' := 2) (sk' := 12) rfl rfl (fun _ => rfl) (fun _ ev3 => ?_) (fun _ ev3 => ?_)
  rotate_left
  · have hf := opt_neg ev3 hf
    obtain rfl := Option.some.inj hf
    exact g_out E () rfl ev3 rfl (Nat.le_of_ble_eq_true rfl) (Nat.le_of_ble_eq_true rfl)
  have hf := opt_pos ev3 hf
  refine g_astore_n C (lv' := [(2, .ref (c 0)), (0, .ref (v 0)), (1, .int p0)]) dX10_healthBits_9 (g_nlt hn rfl) rfl ?_
  refine g_aload_n C 0 dX10_healthBits_10 rfl ?_
  refine g_sipush C (v := 255) dX10_healthBits_11 (by decide) ?_
  obtain ⟨v5, h6, hf⟩ := opt_bind hf
  refine g_callV C (c_X7_shareCount (l := x_l X) (D := x_D X) (cy := x_y X) (a := c) (filled := c_filled) (th := c_th) (ep := c_ep) (rule := c_rule) (cm := c_cm) (vs := c_vs) (es := c_es) (p0 := 255) h6) (As := [.int 255]) (rest := []) (wr := (wV (x_y X) v (b 0) kp ak bf fa fl ln co ch gs op) ++ (wSt (x_y X) b z pr le ec wt sa ev)) (ws' := fun _ => (wV (x_y X) v (b 0) kp ak bf fa fl ln co ch gs op) ++ (wSt (x_y X) b z pr le ec wt sa ev) ++ (wSec (x_y X) c c_filled c_th c_ep c_rule c_cm c_vs c_es)) (st' := fun _ => [.int v5]) (ci := 8) 1 9 ⟨_, rfl⟩ rfl rfl mw_2_151 mw_1_3 mw_2_148 mw_2_149 mw_2_150 hd_X7_shareCount rfl (g_rm hR rfl rfl) [9, 10, 11, 12] [0, 1, 2, 3, 4, 5, 6, 7, 8] [0, 1, 2, 3, 4, 5, 6, 7, 8, 9, 10, 11, 12] ⟨rfl, rfl, rfl, rfl, by decide, gRoIn_0, rfl, fun _ => rfl⟩ rfl (Nat.le_of_ble_eq_true rfl) dX10_healthBits_14 (g_rc hR (Nat.le_of_ble_eq_true rfl) (Nat.le_of_ble_eq_true rfl)) (ck' := 2) (sk' := 12) rfl rfl (fun _ => rfl) (fun _ _ => ?_) (fun _ hx => absurd rfl hx)
  refine g_istore_n C (lv' := [(3, .int v5), (2, .ref (c 0)), (0, .ref (v 0)), (1, .int p0)]) dX10_healthBits_17 (g_nlt hn rfl) rfl ?_
  refine g_iload_n C 0 dX10_healthBits_18 rfl ?_
  refine g_if_ne C 33 dX10_healthBits_19 (by decide) (fun c7 => ?_) (fun c7 => ?_)
  · have hf := opt_neg c7 hf
    refine g_aload_n C 1 dX10_healthBits_33 rfl ?_
    refine g_sipush C (v := 255) dX10_healthBits_34 (by decide) ?_
    refine g_iconst C (v := 0) dX10_healthBits_37 (by decide) ?_
    obtain ⟨v8, h9, hf⟩ := opt_bind hf
    refine g_callV C (c_X7_shareCount_ (l := x_l X) (D := x_D X) (cy := x_y X) (a := c) (filled := c_filled) (th := c_th) (ep := c_ep) (rule := c_rule) (cm := c_cm) (vs := c_vs) (es := c_es) (p0 := 255) (p1 := 0) h9) (As := [.int 255, .int 0]) (rest := []) (wr := (wV (x_y X) v (b 0) kp ak bf fa fl ln co ch gs op) ++ (wSt (x_y X) b z pr le ec wt sa ev)) (ws' := fun _ => (wV (x_y X) v (b 0) kp ak bf fa fl ln co ch gs op) ++ (wSt (x_y X) b z pr le ec wt sa ev) ++ (wSec (x_y X) c c_filled c_th c_ep c_rule c_cm c_vs c_es)) (st' := fun _ => [.int v8]) (ci := 8) 2 9 ⟨_, rfl⟩ rfl rfl mw_2_163 mw_1_3 mw_2_160 mw_2_161 mw_2_162 hd_X7_shareCount_ rfl (g_rm hR rfl rfl) [9, 10, 11, 12] [0, 1, 2, 3, 4, 5, 6, 7, 8] [0, 1, 2, 3, 4, 5, 6, 7, 8, 9, 10, 11, 12] ⟨rfl, rfl, rfl, rfl, by decide, gRoIn_0, rfl, fun _ => rfl⟩ rfl (Nat.le_of_ble_eq_true rfl) dX10_healthBits_38 (g_rc hR (Nat.le_of_ble_eq_true rfl) (Nat.le_of_ble_eq_true rfl)) (ck' := 2) (sk' := 12) rfl rfl (fun _ => rfl) (fun _ _ => ?_) (fun _ hx => absurd rfl hx)
    refine g_i2f C dX10_healthBits_41 ?_
    refine g_iload_n C 0 dX10_healthBits_42 rfl ?_
    refine g_i2f C dX10_healthBits_43 ?_
    obtain ⟨c10, hf⟩ := gg_of hf
    refine g_fdiv C dX10_healthBits_44 (gn32_of c10) ?_
    obtain ⟨v11, h12, hf⟩ := opt_bind hf
    refine g_callS C (c_X0_ofFloat (l := x_l X) (D := x_D X) (cy := x_y X) (p0 := FP.fdiv (FP.i2f v8) (FP.i2f v5)) h12) (As := [.float (FP.fdiv (FP.i2f v8) (FP.i2f v5))]) (rest := []) (wr := (wV (x_y X) v (b 0) kp ak bf fa fl ln co ch gs op) ++ (wSt (x_y X) b z pr le ec wt sa ev) ++ (wSec (x_y X) c c_filled c_th c_ep c_rule c_cm c_vs c_es)) (ws' := fun _ => (wV (x_y X) v (b 0) kp ak bf fa fl ln co ch gs op) ++ (wSt (x_y X) b z pr le ec wt sa ev) ++ (wSec (x_y X) c c_filled c_th c_ep c_rule c_cm c_vs c_es)) (st' := fun _ => [.int v11]) 1 mw_6_151 mw_1_34 mw_6_149 mw_6_150 hd_X0_ofFloat rfl (g_rm hR rfl rfl) [] [0, 1, 2, 3, 4, 5, 6, 7, 8, 9, 10, 11, 12] [0, 1, 2, 3, 4, 5, 6, 7, 8, 9, 10, 11, 12] ⟨rfl, rfl, rfl, rfl, by decide, gRoIn_0, rfl, fun _ => rfl⟩ rfl (Nat.le_of_ble_eq_true rfl) dX10_healthBits_45 (g_rc hR (Nat.le_of_ble_eq_true rfl) (Nat.le_of_ble_eq_true rfl)) (ck' := 2) (sk' := 12) rfl rfl (fun _ => rfl) (fun _ _ => ?_) (fun _ hx => absurd rfl hx)
    obtain rfl := Option.some.inj hf
    exact g_iret C E () dX10_healthBits_48 rfl rfl rfl (Nat.le_of_ble_eq_true rfl) (Nat.le_of_ble_eq_true rfl)
  · have hf := opt_pos c7 hf
    obtain rfl := Option.some.inj hf
    exact g_throwSW C E () (text := "there are no shares") gTh_6 ms_315 dX10_healthBits_22 dX10_healthBits_25 dX10_healthBits_26 dX10_healthBits_29 dX10_healthBits_32 (g_th hR rfl rfl) (g_rc hR (Nat.le_of_ble_eq_true rfl) (Nat.le_of_ble_eq_true rfl)) (Nat.succ_ne_zero 5) rfl rfl (Nat.le_of_ble_eq_true rfl) (Nat.le_of_ble_eq_true rfl)
