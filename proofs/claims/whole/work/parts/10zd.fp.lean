/-! Jxe99ae_isNaN_b9ae7 -/
theorem hd_Jxe99ae_isNaN_b9ae7 : yJxe99ae_isNaN_b9ae7.cls ≠ "java/lang/invoke/MethodHandle" ∧ yJxe99ae_isNaN_b9ae7.cls ≠ "java/lang/invoke/VarHandle" ∧ (parseMethodDescriptor yJxe99ae_isNaN_b9ae7.desc).map (fun d => d.parameters.length) = some 1 := by decide +kernel
def F_Jxe99ae_isNaN_b9ae7_L11   (s0_11 : Int32) : Option (Int32) := gg (gnar .boolean s0_11) (some s0_11)
def F_Jxe99ae_isNaN_b9ae7 (p0 : UInt64) : Option (Int32) := if (Op.cmpValue (FP.dcmp p0 p0) .l) = 0 then (F_Jxe99ae_isNaN_b9ae7_L11 0) else (F_Jxe99ae_isNaN_b9ae7_L11 1)
set_option maxRecDepth 100000 in
set_option maxHeartbeats 4000000 in
theorem c_Jxe99ae_isNaN_b9ae7 {l : Launch} {D : va_G} {cy : Nat → ClassId}   {p0 : UInt64}  {val : Int32} (hf : F_Jxe99ae_isNaN_b9ae7 p0 = some val) : gCt l D cy yJxe99ae_isNaN_b9ae7 cJxe99ae_isNaN_b9ae7 2 (some .boolean) 0 0 0 0 [.double p0] [] ([]) 0 (fun _ : Unit => some (.int val)) (fun _ => []) := by
  refine g_begin (by decide +kernel) (Nat.le_of_ble_eq_true rfl) ?_
  intro X Q hl hR hD hy hro hn C hin E
  subst hl; subst hD; subst hy
  replace C : gC X "java/lang/Double" cJxe99ae_isNaN_b9ae7 (some .boolean) := C
  unfold F_Jxe99ae_isNaN_b9ae7 at hf
  have H11 : ∀ (s0_11 : Int32), F_Jxe99ae_isNaN_b9ae7_L11 s0_11 = some val → gW X Q 0 0 ([]) [(0, .double p0)] [.int s0_11] 11 := by
    intro s0_11 hf
    unfold F_Jxe99ae_isNaN_b9ae7_L11 at hf
    obtain ⟨c2, hf⟩ := gg_of hf
    obtain rfl := Option.some.inj hf
    exact g_zret C E () (gnar_of c2) dJxe99ae_isNaN_b9ae7_11 rfl rfl rfl (Nat.le_of_ble_eq_true rfl) (Nat.le_of_ble_eq_true rfl)
  show gW X Q 0 0 ([]) [(0, .double p0)] [] 0
  refine g_dload_n C 0 dJxe99ae_isNaN_b9ae7_0 rfl ?_
  refine g_dload_n C 0 dJxe99ae_isNaN_b9ae7_1 rfl ?_
  refine g_dcmp C dJxe99ae_isNaN_b9ae7_2 ?_
  refine g_if_eq C 10 dJxe99ae_isNaN_b9ae7_3 (by decide) (fun c1 => ?_) (fun c1 => ?_)
  · have hf := opt_pos c1 hf
    refine g_iconst C (v := 0) dJxe99ae_isNaN_b9ae7_10 (by decide) ?_
    exact H11 0 hf
  · have hf := opt_neg c1 hf
    refine g_iconst C (v := 1) dJxe99ae_isNaN_b9ae7_6 (by decide) ?_
    refine g_goto C 11 dJxe99ae_isNaN_b9ae7_7 (by decide) ?_
    exact H11 1 hf
/-! Jxe99ae_doubleToLongBits_ccdee -/
theorem hd_Jxe99ae_doubleToLongBits_ccdee : yJxe99ae_doubleToLongBits_ccdee.cls ≠ "java/lang/invoke/MethodHandle" ∧ yJxe99ae_doubleToLongBits_ccdee.cls ≠ "java/lang/invoke/VarHandle" ∧ (parseMethodDescriptor yJxe99ae_doubleToLongBits_ccdee.desc).map (fun d => d.parameters.length) = some 1 := by decide +kernel
def F_Jxe99ae_doubleToLongBits_ccdee (p0 : UInt64) : Option (Int64) := (F_Jxe99ae_isNaN_b9ae7 p0).bind fun v1 => if v1 = 0 then (some (UInt64.toInt64 p0)) else (some 9221120237041090560)
set_option maxRecDepth 100000 in
set_option maxHeartbeats 4000000 in
theorem c_Jxe99ae_doubleToLongBits_ccdee {l : Launch} {D : va_G} {cy : Nat → ClassId}   {p0 : UInt64}  {val : Int64} (hf : F_Jxe99ae_doubleToLongBits_ccdee p0 = some val) : gCt l D cy yJxe99ae_doubleToLongBits_ccdee cJxe99ae_doubleToLongBits_ccdee 2 (some .long) 1 21 0 0 [.double p0] [] ([]) 0 (fun _ : Unit => some (.long val)) (fun _ => []) := by
  refine g_begin (by decide +kernel) (Nat.le_of_ble_eq_true rfl) ?_
  intro X Q hl hR hD hy hro hn C hin E
  subst hl; subst hD; subst hy
  replace C : gC X "java/lang/Double" cJxe99ae_doubleToLongBits_ccdee (some .long) := C
  unfold F_Jxe99ae_doubleToLongBits_ccdee at hf
  show gW X Q 0 0 ([]) [(0, .double p0)] [] 0
  refine g_dload_n C 0 dJxe99ae_doubleToLongBits_ccdee_0 rfl ?_
  obtain ⟨v1, h2, hf⟩ := opt_bind hf
  refine g_callS C (c_Jxe99ae_isNaN_b9ae7 (l := x_l X) (D := x_D X) (cy := x_y X) (p0 := p0) h2) (As := [.double p0]) (rest := []) (wr := []) (ws' := fun _ => []) (st' := fun _ => [.int v1]) 1 mw_8_114 mw_1_35 mw_8_112 mw_8_113 hd_Jxe99ae_isNaN_b9ae7 rfl (g_rm hR rfl rfl) [] [] [] ⟨rfl, rfl, rfl, rfl, by decide, gRoIn_0, rfl, fun _ => rfl⟩ rfl (Nat.le_of_ble_eq_true rfl) dJxe99ae_doubleToLongBits_ccdee_1 (g_rc hR (Nat.le_of_ble_eq_true rfl) (Nat.le_of_ble_eq_true rfl)) (ck' := 0) (sk' := 0) rfl rfl (fun _ => rfl) (fun _ _ => ?_) (fun _ hx => absurd rfl hx)
  refine g_if_ne C 12 dJxe99ae_doubleToLongBits_ccdee_4 (by decide) (fun c3 => ?_) (fun c3 => ?_)
  · have hf := opt_neg c3 hf
    refine g_ldc2 C mw_8_118 dJxe99ae_doubleToLongBits_ccdee_12 ?_
    obtain rfl := Option.some.inj hf
    exact g_lret C E () dJxe99ae_doubleToLongBits_ccdee_15 rfl rfl rfl (Nat.le_of_ble_eq_true rfl) (Nat.le_of_ble_eq_true rfl)
  · have hf := opt_pos c3 hf
    refine g_dload_n C 0 dJxe99ae_doubleToLongBits_ccdee_7 rfl ?_
    refine g_d2raw C mw_8_115 mw_8_117 mw_8_116 mw_1_35 (g_tn hR rfl rfl) dJxe99ae_doubleToLongBits_ccdee_8 ?_
    obtain rfl := Option.some.inj hf
    exact g_lret C E () dJxe99ae_doubleToLongBits_ccdee_11 rfl rfl rfl (Nat.le_of_ble_eq_true rfl) (Nat.le_of_ble_eq_true rfl)
/-! Jxf58ca_isNaN_12338 -/
theorem hd_Jxf58ca_isNaN_12338 : yJxf58ca_isNaN_12338.cls ≠ "java/lang/invoke/MethodHandle" ∧ yJxf58ca_isNaN_12338.cls ≠ "java/lang/invoke/VarHandle" ∧ (parseMethodDescriptor yJxf58ca_isNaN_12338.desc).map (fun d => d.parameters.length) = some 1 := by decide +kernel
def F_Jxf58ca_isNaN_12338_L11   (s0_11 : Int32) : Option (Int32) := gg (gnar .boolean s0_11) (some s0_11)
def F_Jxf58ca_isNaN_12338 (p0 : UInt32) : Option (Int32) := if (Op.cmpValue (FP.fcmp p0 p0) .l) = 0 then (F_Jxf58ca_isNaN_12338_L11 0) else (F_Jxf58ca_isNaN_12338_L11 1)
set_option maxRecDepth 100000 in
set_option maxHeartbeats 4000000 in
theorem c_Jxf58ca_isNaN_12338 {l : Launch} {D : va_G} {cy : Nat → ClassId}   {p0 : UInt32}  {val : Int32} (hf : F_Jxf58ca_isNaN_12338 p0 = some val) : gCt l D cy yJxf58ca_isNaN_12338 cJxf58ca_isNaN_12338 1 (some .boolean) 0 0 0 0 [.float p0] [] ([]) 0 (fun _ : Unit => some (.int val)) (fun _ => []) := by
  refine g_begin (by decide +kernel) (Nat.le_of_ble_eq_true rfl) ?_
  intro X Q hl hR hD hy hro hn C hin E
  subst hl; subst hD; subst hy
  replace C : gC X "java/lang/Float" cJxf58ca_isNaN_12338 (some .boolean) := C
  unfold F_Jxf58ca_isNaN_12338 at hf
  have H11 : ∀ (s0_11 : Int32), F_Jxf58ca_isNaN_12338_L11 s0_11 = some val → gW X Q 0 0 ([]) [(0, .float p0)] [.int s0_11] 11 := by
    intro s0_11 hf
    unfold F_Jxf58ca_isNaN_12338_L11 at hf
    obtain ⟨c2, hf⟩ := gg_of hf
    obtain rfl := Option.some.inj hf
    exact g_zret C E () (gnar_of c2) dJxf58ca_isNaN_12338_11 rfl rfl rfl (Nat.le_of_ble_eq_true rfl) (Nat.le_of_ble_eq_true rfl)
  show gW X Q 0 0 ([]) [(0, .float p0)] [] 0
  refine g_fload_n C 0 dJxf58ca_isNaN_12338_0 rfl ?_
  refine g_fload_n C 0 dJxf58ca_isNaN_12338_1 rfl ?_
  refine g_fcmp C dJxf58ca_isNaN_12338_2 ?_
  refine g_if_eq C 10 dJxf58ca_isNaN_12338_3 (by decide) (fun c1 => ?_) (fun c1 => ?_)
  · have hf := opt_pos c1 hf
    refine g_iconst C (v := 0) dJxf58ca_isNaN_12338_10 (by decide) ?_
    exact H11 0 hf
  · have hf := opt_neg c1 hf
    refine g_iconst C (v := 1) dJxf58ca_isNaN_12338_6 (by decide) ?_
    refine g_goto C 11 dJxf58ca_isNaN_12338_7 (by decide) ?_
    exact H11 1 hf
/-! Jxf58ca_floatToIntBits_5c35a -/
theorem hd_Jxf58ca_floatToIntBits_5c35a : yJxf58ca_floatToIntBits_5c35a.cls ≠ "java/lang/invoke/MethodHandle" ∧ yJxf58ca_floatToIntBits_5c35a.cls ≠ "java/lang/invoke/VarHandle" ∧ (parseMethodDescriptor yJxf58ca_floatToIntBits_5c35a.desc).map (fun d => d.parameters.length) = some 1 := by decide +kernel
def F_Jxf58ca_floatToIntBits_5c35a (p0 : UInt32) : Option (Int32) := (F_Jxf58ca_isNaN_12338 p0).bind fun v1 => if v1 = 0 then (some (UInt32.toInt32 p0)) else (some 2143289344)
set_option maxRecDepth 100000 in
set_option maxHeartbeats 4000000 in
theorem c_Jxf58ca_floatToIntBits_5c35a {l : Launch} {D : va_G} {cy : Nat → ClassId}   {p0 : UInt32}  {val : Int32} (hf : F_Jxf58ca_floatToIntBits_5c35a p0 = some val) : gCt l D cy yJxf58ca_floatToIntBits_5c35a cJxf58ca_floatToIntBits_5c35a 1 (some .int) 1 20 0 0 [.float p0] [] ([]) 0 (fun _ : Unit => some (.int val)) (fun _ => []) := by
  refine g_begin (by decide +kernel) (Nat.le_of_ble_eq_true rfl) ?_
  intro X Q hl hR hD hy hro hn C hin E
  subst hl; subst hD; subst hy
  replace C : gC X "java/lang/Float" cJxf58ca_floatToIntBits_5c35a (some .int) := C
  unfold F_Jxf58ca_floatToIntBits_5c35a at hf
  show gW X Q 0 0 ([]) [(0, .float p0)] [] 0
  refine g_fload_n C 0 dJxf58ca_floatToIntBits_5c35a_0 rfl ?_
  obtain ⟨v1, h2, hf⟩ := opt_bind hf
  refine g_callS C (c_Jxf58ca_isNaN_12338 (l := x_l X) (D := x_D X) (cy := x_y X) (p0 := p0) h2) (As := [.float p0]) (rest := []) (wr := []) (ws' := fun _ => []) (st' := fun _ => [.int v1]) 1 mw_8_128 mw_1_37 mw_8_126 mw_8_127 hd_Jxf58ca_isNaN_12338 rfl (g_rm hR rfl rfl) [] [] [] ⟨rfl, rfl, rfl, rfl, by decide, gRoIn_0, rfl, fun _ => rfl⟩ rfl (Nat.le_of_ble_eq_true rfl) dJxf58ca_floatToIntBits_5c35a_1 (g_rc hR (Nat.le_of_ble_eq_true rfl) (Nat.le_of_ble_eq_true rfl)) (ck' := 0) (sk' := 0) rfl rfl (fun _ => rfl) (fun _ _ => ?_) (fun _ hx => absurd rfl hx)
  refine g_if_ne C 12 dJxf58ca_floatToIntBits_5c35a_4 (by decide) (fun c3 => ?_) (fun c3 => ?_)
  · have hf := opt_neg c3 hf
    refine g_ldc C mw_8_132 dJxf58ca_floatToIntBits_5c35a_12 ?_
    obtain rfl := Option.some.inj hf
    exact g_iret C E () dJxf58ca_floatToIntBits_5c35a_14 rfl rfl rfl (Nat.le_of_ble_eq_true rfl) (Nat.le_of_ble_eq_true rfl)
  · have hf := opt_pos c3 hf
    refine g_fload_n C 0 dJxf58ca_floatToIntBits_5c35a_7 rfl ?_
    refine g_f2raw C mw_8_129 mw_8_131 mw_8_130 mw_1_37 (g_tn hR rfl rfl) dJxf58ca_floatToIntBits_5c35a_8 ?_
    obtain rfl := Option.some.inj hf
    exact g_iret C E () dJxf58ca_floatToIntBits_5c35a_11 rfl rfl rfl (Nat.le_of_ble_eq_true rfl) (Nat.le_of_ble_eq_true rfl)
