/-! the class: StringBuilder and what it rests on -/
theorem wiJ4 : ∀ w ∈ u_ws RJ4 TJ4 4, w ∈ gBW := List.forall_mem_cons.mpr ⟨mw_1_142, List.forall_mem_cons.mpr ⟨mw_1_144, List.forall_mem_cons.mpr ⟨mw_1_146, List.forall_mem_cons.mpr ⟨mw_1_148, fun _ h => nomatch h⟩⟩⟩⟩
/-! J5_init_d00df -/
theorem hd_J5_init_d00df : yJ5_init_d00df.cls ≠ "java/lang/invoke/MethodHandle" ∧ yJ5_init_d00df.cls ≠ "java/lang/invoke/VarHandle" ∧ (parseMethodDescriptor yJ5_init_d00df.desc).map (fun d => d.parameters.length) = some 1 := by decide +kernel
def F_J5_init_d00df_L38   (y1len_38 : Nat) (y1t_38 : Nat → Int32) : Option (Int32 × Int32 × Nat × (Nat → Int32)) := some (0, 0, y1len_38, y1t_38)
def F_J5_init_d00df (p0 : Int32) : Option (Int32 × Int32 × Nat × (Nat → Int32)) := gg (gnw p0 64) (gl (Int32.toNatClampNeg p0) fun m2 => F_J5_init_d00df_L38 m2 (fun _ => 0))
set_option maxRecDepth 100000 in
set_option maxHeartbeats 4000000 in
theorem c_J5_init_d00df {l : Launch} {D : va_G} {cy : Nat → ClassId} {sb : Nat}  {p0 : Int32}  {val : Int32 × Int32 × Nat × (Nat → Int32)} (hf : F_J5_init_d00df p0 = some val) : gCt l D cy yJ5_init_d00df cJ5_init_d00df 2 none 1 12 1 64 [.ref sb, .int p0] [] ([(sb, .inr (1, [.null, .int 0, .int 0, .int 0]))]) 0 (fun u : Nat => none) (fun u => (wSb cy sb u val.1 val.2.1 val.2.2.1 val.2.2.2)) := by
  refine g_begin (by decide +kernel) (Nat.le_of_ble_eq_true rfl) ?_
  intro X Q hl hR hD hy hro hn C hin E
  subst hl; subst hD; subst hy
  replace C : gC X "java/lang/AbstractStringBuilder" cJ5_init_d00df none := C
  unfold F_J5_init_d00df at hf
  have H38 : ∀ (a1_0_38 : Nat) (y1len_38 : Nat) (y1t_38 : Nat → Int32), F_J5_init_d00df_L38 y1len_38 y1t_38 = some val → gW X Q 1 64 ([(sb, .inr (1, [.ref a1_0_38, .int 0, .int 0, .int 0]))] ++ [(a1_0_38, .inl ((x_y X) 3, y1len_38, .inl y1t_38))]) [(0, .ref sb), (1, .int p0)] [] 38 := by
    intro a1_0_38 y1len_38 y1t_38 hf
    unfold F_J5_init_d00df_L38 at hf
    refine g_eqw (ws' := (wSb (x_y X) sb a1_0_38 0 0 y1len_38 y1t_38)) rfl ?_
    obtain rfl := Option.some.inj hf
    exact g_vret C E a1_0_38 dJ5_init_d00df_38 rfl rfl rfl (Nat.le_of_ble_eq_true rfl) (Nat.le_of_ble_eq_true rfl)
  show gW X Q 0 0 ([(sb, .inr (1, [.null, .int 0, .int 0, .int 0]))]) [(0, .ref sb), (1, .int p0)] [] 0
  refine g_aload_n C 0 dJ5_init_d00df_0 rfl ?_
  refine g_objInit C mw_1_127 mw_1_44 gw_obj (g_tn hR rfl rfl) dJ5_init_d00df_1 ?_
  refine g_gets C mw_1_128 rfl dJ5_init_d00df_4 ?_
  refine g_if_eq C 25 dJ5_init_d00df_7 (by decide) (fun h => absurd h (by decide)) (fun _ => ?_)
  refine g_aload_n C 0 dJ5_init_d00df_10 rfl ?_
  refine g_iload_n C 1 dJ5_init_d00df_11 rfl ?_
  obtain ⟨c3, hf⟩ := gg_of hf
  obtain ⟨m2, em2, hf⟩ := opt_let hf
  refine g_newa C 3 (ty := .byte) rfl rfl (fun _ h => nomatch h) mw_1_151 (N := m2) (B := 64) (a0 := (m2, .inl (fun _ => 0))) (fun _ => rfl) (gnw_0 c3) em2.symm (by rw [em2]; exact gnw_B c3) (by decide) (by decide) (g_rc hR (Nat.le_of_ble_eq_true rfl) (Nat.le_of_ble_eq_true rfl)) (ck' := 1) (sk' := 64) rfl rfl dJ5_init_d00df_12 (fun q1 => ?_)
  refine g_put C (ws' := [(sb, .inr (1, [.ref q1, .int 0, .int 0, .int 0]))] ++ [(q1, .inl ((x_y X) 3, m2, .inl (fun _ => 0)))]) 0 0 rfl rfl wiJ4 (by decide) tyJ4_ok nmJ4 mw_1_137 rfl rfl rfl rfl (Nat.le_of_ble_eq_true rfl) rfl dJ5_init_d00df_14 ?_
  refine g_aload_n C 0 dJ5_init_d00df_17 rfl ?_
  refine g_iconst C (v := 0) dJ5_init_d00df_18 (by decide) ?_
  refine g_put C (ws' := [(sb, .inr (1, [.ref q1, .int 0, .int 0, .int 0]))] ++ [(q1, .inl ((x_y X) 3, m2, .inl (fun _ => 0)))]) 0 1 rfl rfl wiJ4 (by decide) tyJ4_ok nmJ4 mw_1_138 rfl rfl rfl rfl (Nat.le_of_ble_eq_true rfl) rfl dJ5_init_d00df_19 ?_
  refine g_goto C 38 dJ5_init_d00df_22 (by decide) ?_
  exact H38 q1 m2 (fun _ => 0) hf
/-! J4_init_da8c8 -/
theorem hd_J4_init_da8c8 : yJ4_init_da8c8.cls ≠ "java/lang/invoke/MethodHandle" ∧ yJ4_init_da8c8.cls ≠ "java/lang/invoke/VarHandle" ∧ (parseMethodDescriptor yJ4_init_da8c8.desc).map (fun d => d.parameters.length) = some 0 := by decide +kernel
def F_J4_init_da8c8  : Option (Int32 × Int32 × Nat × (Nat → Int32)) := (F_J5_init_d00df 16).bind fun v1 => some (v1.1, v1.2.1, v1.2.2.1, v1.2.2.2)
set_option maxRecDepth 100000 in
set_option maxHeartbeats 4000000 in
theorem c_J4_init_da8c8 {l : Launch} {D : va_G} {cy : Nat → ClassId} {sb : Nat}    {val : Int32 × Int32 × Nat × (Nat → Int32)} (hf : F_J4_init_da8c8  = some val) : gCt l D cy yJ4_init_da8c8 cJ4_init_da8c8 1 none 2 33 1 64 [.ref sb] [] ([(sb, .inr (1, [.null, .int 0, .int 0, .int 0]))]) 0 (fun u : Nat => none) (fun u => (wSb cy sb u val.1 val.2.1 val.2.2.1 val.2.2.2)) := by
  refine g_begin (by decide +kernel) (Nat.le_of_ble_eq_true rfl) ?_
  intro X Q hl hR hD hy hro hn C hin E
  subst hl; subst hD; subst hy
  replace C : gC X "java/lang/StringBuilder" cJ4_init_da8c8 none := C
  unfold F_J4_init_da8c8 at hf
  show gW X Q 0 0 ([(sb, .inr (1, [.null, .int 0, .int 0, .int 0]))]) [(0, .ref sb)] [] 0
  refine g_aload_n C 0 dJ4_init_da8c8_0 rfl ?_
  refine g_bipush C (v := 16) dJ4_init_da8c8_1 (by decide) ?_
  obtain ⟨v1, h2, hf⟩ := opt_bind hf
  refine g_callI C (c_J5_init_d00df (l := x_l X) (D := x_D X) (cy := x_y X) (sb := sb) (p0 := 16) h2) (As := [.int 16]) (rest := []) (wr := []) (ws' := fun u3 => (wSb (x_y X) sb u3 v1.1 v1.2.1 v1.2.2.1 v1.2.2.2)) (st' := fun u3 => []) 1 rfl mw_1_126 mw_1_4 mw_1_124 mw_1_125 hd_J5_init_d00df rfl (g_rm hR rfl rfl) [0] [] [0, 1] ⟨rfl, rfl, rfl, rfl, by decide, gRoIn_0, rfl, fun _ => rfl⟩ rfl (Nat.le_of_ble_eq_true rfl) dJ4_init_da8c8_3 (g_rc hR (Nat.le_of_ble_eq_true rfl) (Nat.le_of_ble_eq_true rfl)) (ck' := 1) (sk' := 64) rfl rfl (fun _ => rfl) (fun u3 _ => ?_) (fun _ hx => absurd rfl hx)
  refine g_eqw (ws' := (wSb (x_y X) sb u3 v1.1 v1.2.1 v1.2.2.1 v1.2.2.2)) rfl ?_
  obtain rfl := Option.some.inj hf
  exact g_vret C E u3 dJ4_init_da8c8_6 rfl rfl rfl (Nat.le_of_ble_eq_true rfl) (Nat.le_of_ble_eq_true rfl)
/-! J5_length_8abf5 -/
theorem hd_J5_length_8abf5 : yJ5_length_8abf5.cls ≠ "java/lang/invoke/MethodHandle" ∧ yJ5_length_8abf5.cls ≠ "java/lang/invoke/VarHandle" ∧ (parseMethodDescriptor yJ5_length_8abf5.desc).map (fun d => d.parameters.length) = some 0 := by decide +kernel
def F_J5_length_8abf5 (n : Int32) : Option (Int32) := some n
set_option maxRecDepth 100000 in
set_option maxHeartbeats 4000000 in
theorem c_J5_length_8abf5 {l : Launch} {D : va_G} {cy : Nat → ClassId} {sb sy : Nat} {ml : Int32} {n : Int32} {cap : Nat} {bs : Nat → Int32}   {val : Int32} (hf : F_J5_length_8abf5 n = some val) : gCt l D cy yJ5_length_8abf5 cJ5_length_8abf5 1 (some .int) 0 0 0 0 [.ref sb] (wSb cy sb sy ml n cap bs) ([]) 0 (fun _ : Unit => some (.int val)) (fun _ => []) := by
  refine g_begin (by decide +kernel) (Nat.le_of_ble_eq_true rfl) ?_
  intro X Q hl hR hD hy hro hn C hin E
  subst hl; subst hD; subst hy
  replace C : gC X "java/lang/AbstractStringBuilder" cJ5_length_8abf5 (some .int) := C
  unfold F_J5_length_8abf5 at hf
  show gW X Q 0 0 ([]) [(0, .ref sb)] [] 0
  refine g_aload_n C 0 dJ5_length_8abf5_0 rfl ?_
  refine g_getR C hro 0 3 rfl rfl wiJ4 (by decide) mw_1_141 rfl rfl dJ5_length_8abf5_1 ?_
  obtain rfl := Option.some.inj hf
  exact g_iret C E () dJ5_length_8abf5_4 rfl rfl rfl (Nat.le_of_ble_eq_true rfl) (Nat.le_of_ble_eq_true rfl)
/-! J4_length_8abf5 -/
theorem hd_J4_length_8abf5 : yJ4_length_8abf5.cls ≠ "java/lang/invoke/MethodHandle" ∧ yJ4_length_8abf5.cls ≠ "java/lang/invoke/VarHandle" ∧ (parseMethodDescriptor yJ4_length_8abf5.desc).map (fun d => d.parameters.length) = some 0 := by decide +kernel
def F_J4_length_8abf5 (n : Int32) : Option (Int32) := (F_J5_length_8abf5 n).bind fun v1 => some v1
set_option maxRecDepth 100000 in
set_option maxHeartbeats 4000000 in
theorem c_J4_length_8abf5 {l : Launch} {D : va_G} {cy : Nat → ClassId} {sb sy : Nat} {ml : Int32} {n : Int32} {cap : Nat} {bs : Nat → Int32}   {val : Int32} (hf : F_J4_length_8abf5 n = some val) : gCt l D cy yJ4_length_8abf5 cJ4_length_8abf5 1 (some .int) 1 20 0 0 [.ref sb] (wSb cy sb sy ml n cap bs) ([]) 0 (fun _ : Unit => some (.int val)) (fun _ => []) := by
  refine g_begin (by decide +kernel) (Nat.le_of_ble_eq_true rfl) ?_
  intro X Q hl hR hD hy hro hn C hin E
  subst hl; subst hD; subst hy
  replace C : gC X "java/lang/StringBuilder" cJ4_length_8abf5 (some .int) := C
  unfold F_J4_length_8abf5 at hf
  show gW X Q 0 0 ([]) [(0, .ref sb)] [] 0
  refine g_aload_n C 0 dJ4_length_8abf5_0 rfl ?_
  obtain ⟨v1, h2, hf⟩ := opt_bind hf
  refine g_callU C (c_J5_length_8abf5 (l := x_l X) (D := x_D X) (cy := x_y X) (sb := sb) (sy := sy) (ml := ml) (n := n) (cap := cap) (bs := bs) h2) (As := []) (rest := []) (wr := []) (ws' := fun _ => []) (st' := fun _ => [.int v1]) (ci := 1) 0 0 ⟨_, by rw [hro]; rfl⟩ rfl mw_4_164 mw_1_4 mw_4_163 mw_4_158 gws_J5_length_8abf5 gw_sup (by decide) hd_J5_length_8abf5 rfl (g_rm hR rfl rfl) [] [] [] ⟨rfl, rfl, rfl, rfl, by decide, gRoIn_p [0, 1] (by rw [hro]; rfl) (by decide), rfl, fun _ => rfl⟩ rfl (Nat.le_of_ble_eq_true rfl) dJ4_length_8abf5_1 (g_rc hR (Nat.le_of_ble_eq_true rfl) (Nat.le_of_ble_eq_true rfl)) (ck' := 0) (sk' := 0) rfl rfl (fun _ => rfl) (fun _ _ => ?_) (fun _ hx => absurd rfl hx)
  obtain rfl := Option.some.inj hf
  exact g_iret C E () dJ4_length_8abf5_4 rfl rfl rfl (Nat.le_of_ble_eq_true rfl) (Nat.le_of_ble_eq_true rfl)
/-! J5_charAt_5068e -/
theorem hd_J5_charAt_5068e : yJ5_charAt_5068e.cls ≠ "java/lang/invoke/MethodHandle" ∧ yJ5_charAt_5068e.cls ≠ "java/lang/invoke/VarHandle" ∧ (parseMethodDescriptor yJ5_charAt_5068e.desc).map (fun d => d.parameters.length) = some 1 := by decide +kernel
def F_J5_charAt_5068e (n : Int32) (cap : Nat) (bs : Nat → Int32) (p0 : Int32) : Option (Int32) := (F_J9_min_7cf53 n ((Int32.ofNat cap) >>> (0 &&& 31))).bind fun v1 => (F_J0_checkIndex_df160 p0 v1).bind fun v3 => gg (gi p0 cap) (gg (gnar .char ((Int32.toUInt32 ((bs (Int32.toNatClampNeg p0)) &&& 255) % 65536).toInt32)) (some ((Int32.toUInt32 ((bs (Int32.toNatClampNeg p0)) &&& 255) % 65536).toInt32)))
set_option maxRecDepth 100000 in
set_option maxHeartbeats 4000000 in
theorem c_J5_charAt_5068e {l : Launch} {D : va_G} {cy : Nat → ClassId} {sb sy : Nat} {ml : Int32} {n : Int32} {cap : Nat} {bs : Nat → Int32} {p0 : Int32}  {val : Int32} (hf : F_J5_charAt_5068e n cap bs p0 = some val) : gCt l D cy yJ5_charAt_5068e cJ5_charAt_5068e 5 (some .char) 2 43 0 0 [.ref sb, .int p0] (wSb cy sb sy ml n cap bs) ([]) 0 (fun _ : Unit => some (.int val)) (fun _ => []) := by
  refine g_begin (by decide +kernel) (Nat.le_of_ble_eq_true rfl) ?_
  intro X Q hl hR hD hy hro hn C hin E
  subst hl; subst hD; subst hy
  replace C : gC X "java/lang/AbstractStringBuilder" cJ5_charAt_5068e (some .char) := C
  unfold F_J5_charAt_5068e at hf
  show gW X Q 0 0 ([]) [(0, .ref sb), (1, .int p0)] [] 0
  refine g_aload_n C 0 dJ5_charAt_5068e_0 rfl ?_
  refine g_getR C hro 0 1 rfl rfl wiJ4 (by decide) mw_1_138 rfl rfl dJ5_charAt_5068e_1 ?_
  refine g_istore_n C (lv' := [(2, .int 0), (0, .ref sb), (1, .int p0)]) dJ5_charAt_5068e_4 (g_nlt hn rfl) rfl ?_
  refine g_aload_n C 1 dJ5_charAt_5068e_5 rfl ?_
  refine g_getR C hro 0 0 rfl rfl wiJ4 (by decide) mw_1_137 rfl rfl dJ5_charAt_5068e_6 ?_
  refine g_astore_n C (lv' := [(3, .ref sy), (2, .int 0), (0, .ref sb), (1, .int p0)]) dJ5_charAt_5068e_9 (g_nlt hn rfl) rfl ?_
  refine g_aload_n C 2 dJ5_charAt_5068e_10 rfl ?_
  refine g_getR C hro 0 3 rfl rfl wiJ4 (by decide) mw_1_141 rfl rfl dJ5_charAt_5068e_11 ?_
  refine g_aload_n C 0 dJ5_charAt_5068e_14 rfl ?_
  refine g_alenR C hro 1 (t0 := 3) (v := Int32.ofNat cap) rfl rfl rfl dJ5_charAt_5068e_15 ?_
  refine g_iload_n C 1 dJ5_charAt_5068e_16 rfl ?_
  refine g_ishr C dJ5_charAt_5068e_17 ?_
  obtain ⟨v1, h2, hf⟩ := opt_bind hf
  refine g_callS C (c_J9_min_7cf53 (l := x_l X) (D := x_D X) (cy := x_y X) (p0 := n) (p1 := (Int32.ofNat cap) >>> (0 &&& 31)) h2) (As := [.int n, .int ((Int32.ofNat cap) >>> (0 &&& 31))]) (rest := []) (wr := []) (ws' := fun _ => []) (st' := fun _ => [.int v1]) 2 mw_3_22 mw_1_18 mw_5_32 mw_3_21 hd_J9_min_7cf53 rfl (g_rm hR rfl rfl) [] [] [] ⟨rfl, rfl, rfl, rfl, by decide, gRoIn_0, rfl, fun _ => rfl⟩ rfl (Nat.le_of_ble_eq_true rfl) dJ5_charAt_5068e_18 (g_rc hR (Nat.le_of_ble_eq_true rfl) (Nat.le_of_ble_eq_true rfl)) (ck' := 0) (sk' := 0) rfl rfl (fun _ => rfl) (fun _ _ => ?_) (fun _ hx => absurd rfl hx)
  refine g_istore C (lv' := [(4, .int v1), (3, .ref sy), (2, .int 0), (0, .ref sb), (1, .int p0)]) dJ5_charAt_5068e_21 (g_nlt hn rfl) rfl ?_
  refine g_iload_n C 4 dJ5_charAt_5068e_23 rfl ?_
  refine g_iload C 0 dJ5_charAt_5068e_24 rfl ?_
  obtain ⟨v3, h4, hf⟩ := opt_bind hf
  refine g_callS C (c_J0_checkIndex_df160 (l := x_l X) (D := x_D X) (cy := x_y X) (p0 := p0) (p1 := v1) h4) (As := [.int p0, .int v1]) (rest := []) (wr := []) (ws' := fun _ => []) (st' := fun _ => []) 2 mw_5_16 mw_1_6 mw_5_33 mw_5_15 hd_J0_checkIndex_df160 rfl (g_rm hR rfl rfl) [] [] [] ⟨rfl, rfl, rfl, rfl, by decide, gRoIn_0, rfl, fun _ => rfl⟩ rfl (Nat.le_of_ble_eq_true rfl) dJ5_charAt_5068e_26 (g_rc hR (Nat.le_of_ble_eq_true rfl) (Nat.le_of_ble_eq_true rfl)) (ck' := 0) (sk' := 0) rfl rfl (fun _ => rfl) (fun _ _ => ?_) (fun _ hx => absurd rfl hx)
  refine g_iload_n C 2 dJ5_charAt_5068e_29 rfl ?_
  refine g_if_ne C 42 dJ5_charAt_5068e_30 (by decide) (fun h => absurd h (by decide)) (fun _ => ?_)
  refine g_aload_n C 1 dJ5_charAt_5068e_33 rfl ?_
  refine g_iload_n C 4 dJ5_charAt_5068e_34 rfl ?_
  obtain ⟨c5, hf⟩ := gg_of hf
  refine g_baldR C hro 1 rfl (gi_in c5) dJ5_charAt_5068e_35 ?_
  refine g_sipush C (v := 255) dJ5_charAt_5068e_36 (by decide) ?_
  refine g_iand C dJ5_charAt_5068e_39 ?_
  refine g_i2c C dJ5_charAt_5068e_40 ?_
  obtain ⟨c6, hf⟩ := gg_of hf
  obtain rfl := Option.some.inj hf
  exact g_zret C E () (gnar_of c6) dJ5_charAt_5068e_41 rfl rfl rfl (Nat.le_of_ble_eq_true rfl) (Nat.le_of_ble_eq_true rfl)
/-! J4_charAt_5068e -/
theorem hd_J4_charAt_5068e : yJ4_charAt_5068e.cls ≠ "java/lang/invoke/MethodHandle" ∧ yJ4_charAt_5068e.cls ≠ "java/lang/invoke/VarHandle" ∧ (parseMethodDescriptor yJ4_charAt_5068e.desc).map (fun d => d.parameters.length) = some 1 := by decide +kernel
def F_J4_charAt_5068e (n : Int32) (cap : Nat) (bs : Nat → Int32) (p0 : Int32) : Option (Int32) := (F_J5_charAt_5068e n cap bs p0).bind fun v1 => gg (gnar .char v1) (some v1)
set_option maxRecDepth 100000 in
set_option maxHeartbeats 4000000 in
theorem c_J4_charAt_5068e {l : Launch} {D : va_G} {cy : Nat → ClassId} {sb sy : Nat} {ml : Int32} {n : Int32} {cap : Nat} {bs : Nat → Int32} {p0 : Int32}  {val : Int32} (hf : F_J4_charAt_5068e n cap bs p0 = some val) : gCt l D cy yJ4_charAt_5068e cJ4_charAt_5068e 2 (some .char) 3 67 0 0 [.ref sb, .int p0] (wSb cy sb sy ml n cap bs) ([]) 0 (fun _ : Unit => some (.int val)) (fun _ => []) := by
  refine g_begin (by decide +kernel) (Nat.le_of_ble_eq_true rfl) ?_
  intro X Q hl hR hD hy hro hn C hin E
  subst hl; subst hD; subst hy
  replace C : gC X "java/lang/StringBuilder" cJ4_charAt_5068e (some .char) := C
  unfold F_J4_charAt_5068e at hf
  show gW X Q 0 0 ([]) [(0, .ref sb), (1, .int p0)] [] 0
  refine g_aload_n C 0 dJ4_charAt_5068e_0 rfl ?_
  refine g_iload_n C 1 dJ4_charAt_5068e_1 rfl ?_
  obtain ⟨v1, h2, hf⟩ := opt_bind hf
  refine g_callU C (c_J5_charAt_5068e (l := x_l X) (D := x_D X) (cy := x_y X) (sb := sb) (sy := sy) (ml := ml) (n := n) (cap := cap) (bs := bs) (p0 := p0) h2) (As := [.int p0]) (rest := []) (wr := []) (ws' := fun _ => []) (st' := fun _ => [.int v1]) (ci := 1) 1 0 ⟨_, by rw [hro]; rfl⟩ rfl mw_5_31 mw_1_4 mw_5_29 mw_5_30 gws_J5_charAt_5068e gw_sup (by decide) hd_J5_charAt_5068e rfl (g_rm hR rfl rfl) [] [] [] ⟨rfl, rfl, rfl, rfl, by decide, gRoIn_p [0, 1] (by rw [hro]; rfl) (by decide), rfl, fun _ => rfl⟩ rfl (Nat.le_of_ble_eq_true rfl) dJ4_charAt_5068e_2 (g_rc hR (Nat.le_of_ble_eq_true rfl) (Nat.le_of_ble_eq_true rfl)) (ck' := 0) (sk' := 0) rfl rfl (fun _ => rfl) (fun _ _ => ?_) (fun _ hx => absurd rfl hx)
  obtain ⟨c3, hf⟩ := gg_of hf
  obtain rfl := Option.some.inj hf
  exact g_zret C E () (gnar_of c3) dJ4_charAt_5068e_5 rfl rfl rfl (Nat.le_of_ble_eq_true rfl) (Nat.le_of_ble_eq_true rfl)
/-! J5_isLatin1_aae02 -/
theorem hd_J5_isLatin1_aae02 : yJ5_isLatin1_aae02.cls ≠ "java/lang/invoke/MethodHandle" ∧ yJ5_isLatin1_aae02.cls ≠ "java/lang/invoke/VarHandle" ∧ (parseMethodDescriptor yJ5_isLatin1_aae02.desc).map (fun d => d.parameters.length) = some 0 := by decide +kernel
def F_J5_isLatin1_aae02_L18   (s0_18 : Int32) : Option (Int32) := gg (gnar .boolean s0_18) (some s0_18)
def F_J5_isLatin1_aae02  : Option (Int32) := F_J5_isLatin1_aae02_L18 1
set_option maxRecDepth 100000 in
set_option maxHeartbeats 4000000 in
theorem c_J5_isLatin1_aae02 {l : Launch} {D : va_G} {cy : Nat → ClassId} {sb sy : Nat} {ml : Int32} {n : Int32} {cap : Nat} {bs : Nat → Int32}   {val : Int32} (hf : F_J5_isLatin1_aae02  = some val) : gCt l D cy yJ5_isLatin1_aae02 cJ5_isLatin1_aae02 1 (some .boolean) 0 0 0 0 [.ref sb] (wSb cy sb sy ml n cap bs) ([]) 0 (fun _ : Unit => some (.int val)) (fun _ => []) := by
  refine g_begin (by decide +kernel) (Nat.le_of_ble_eq_true rfl) ?_
  intro X Q hl hR hD hy hro hn C hin E
  subst hl; subst hD; subst hy
  replace C : gC X "java/lang/AbstractStringBuilder" cJ5_isLatin1_aae02 (some .boolean) := C
  unfold F_J5_isLatin1_aae02 at hf
  have H18 : ∀ (s0_18 : Int32), F_J5_isLatin1_aae02_L18 s0_18 = some val → gW X Q 0 0 ([]) [(0, .ref sb)] [.int s0_18] 18 := by
    intro s0_18 hf
    unfold F_J5_isLatin1_aae02_L18 at hf
    obtain ⟨c1, hf⟩ := gg_of hf
    obtain rfl := Option.some.inj hf
    exact g_zret C E () (gnar_of c1) dJ5_isLatin1_aae02_18 rfl rfl rfl (Nat.le_of_ble_eq_true rfl) (Nat.le_of_ble_eq_true rfl)
  show gW X Q 0 0 ([]) [(0, .ref sb)] [] 0
  refine g_gets C mw_1_128 rfl dJ5_isLatin1_aae02_0 ?_
  refine g_if_eq C 17 dJ5_isLatin1_aae02_3 (by decide) (fun h => absurd h (by decide)) (fun _ => ?_)
  refine g_aload_n C 0 dJ5_isLatin1_aae02_6 rfl ?_
  refine g_getR C hro 0 1 rfl rfl wiJ4 (by decide) mw_1_138 rfl rfl dJ5_isLatin1_aae02_7 ?_
  refine g_if_ne C 17 dJ5_isLatin1_aae02_10 (by decide) (fun h => absurd h (by decide)) (fun _ => ?_)
  refine g_iconst C (v := 1) dJ5_isLatin1_aae02_13 (by decide) ?_
  refine g_goto C 18 dJ5_isLatin1_aae02_14 (by decide) ?_
  exact H18 1 hf
/-! J8_newLength_cabcc -/
theorem hd_J8_newLength_cabcc : yJ8_newLength_cabcc.cls ≠ "java/lang/invoke/MethodHandle" ∧ yJ8_newLength_cabcc.cls ≠ "java/lang/invoke/VarHandle" ∧ (parseMethodDescriptor yJ8_newLength_cabcc.desc).map (fun d => d.parameters.length) = some 3 := by decide +kernel
def F_J8_newLength_cabcc_L21    : Option (Int32) := none
def F_J8_newLength_cabcc (p0 : Int32) (p1 : Int32) (p2 : Int32) : Option (Int32) := (F_J9_max_7cf53 p1 p2).bind fun v1 => if (p0 + v1) ≤ (0 : Int32) then (F_J8_newLength_cabcc_L21 ) else (if 2147483639 < (p0 + v1) then (F_J8_newLength_cabcc_L21 ) else (some (p0 + v1)))
set_option maxRecDepth 100000 in
set_option maxHeartbeats 4000000 in
theorem c_J8_newLength_cabcc {l : Launch} {D : va_G} {cy : Nat → ClassId}   {p0 : Int32} {p1 : Int32} {p2 : Int32}  {val : Int32} (hf : F_J8_newLength_cabcc p0 p1 p2 = some val) : gCt l D cy yJ8_newLength_cabcc cJ8_newLength_cabcc 4 (some .int) 1 21 0 0 [.int p0, .int p1, .int p2] [] ([]) 0 (fun _ : Unit => some (.int val)) (fun _ => []) := by
  refine g_begin (by decide +kernel) (Nat.le_of_ble_eq_true rfl) ?_
  intro X Q hl hR hD hy hro hn C hin E
  subst hl; subst hD; subst hy
  replace C : gC X "jdk/internal/util/ArraysSupport" cJ8_newLength_cabcc (some .int) := C
  unfold F_J8_newLength_cabcc at hf
  have H21 :  F_J8_newLength_cabcc_L21 = some val → gW X Q 0 0 ([]) [(0, .int p0), (1, .int p1), (2, .int p2)] [] 21 := by
    intro hf
    unfold F_J8_newLength_cabcc_L21 at hf
    refine g_iload_n C 0 dJ8_newLength_cabcc_21 rfl ?_
    refine g_iload_n C 1 dJ8_newLength_cabcc_22 rfl ?_
    cases hf
  show gW X Q 0 0 ([]) [(0, .int p0), (1, .int p1), (2, .int p2)] [] 0
  refine g_iload_n C 0 dJ8_newLength_cabcc_0 rfl ?_
  refine g_iload_n C 1 dJ8_newLength_cabcc_1 rfl ?_
  refine g_iload_n C 2 dJ8_newLength_cabcc_2 rfl ?_
  obtain ⟨v1, h2, hf⟩ := opt_bind hf
  refine g_callS C (c_J9_max_7cf53 (l := x_l X) (D := x_D X) (cy := x_y X) (p0 := p1) (p1 := p2) h2) (As := [.int p1, .int p2]) (rest := [.int p0]) (wr := []) (ws' := fun _ => []) (st' := fun _ => [.int v1, .int p0]) 2 mw_4_23 mw_1_18 mw_4_21 mw_4_22 hd_J9_max_7cf53 rfl (g_rm hR rfl rfl) [] [] [] ⟨rfl, rfl, rfl, rfl, by decide, gRoIn_0, rfl, fun _ => rfl⟩ rfl (Nat.le_of_ble_eq_true rfl) dJ8_newLength_cabcc_3 (g_rc hR (Nat.le_of_ble_eq_true rfl) (Nat.le_of_ble_eq_true rfl)) (ck' := 0) (sk' := 0) rfl rfl (fun _ => rfl) (fun _ _ => ?_) (fun _ hx => absurd rfl hx)
  refine g_iadd C dJ8_newLength_cabcc_6 ?_
  refine g_istore_n C (lv' := [(3, .int (p0 + v1)), (0, .int p0), (1, .int p1), (2, .int p2)]) dJ8_newLength_cabcc_7 (g_nlt hn rfl) rfl ?_
  refine g_iconst C (v := 0) dJ8_newLength_cabcc_8 (by decide) ?_
  refine g_iload_n C 0 dJ8_newLength_cabcc_9 rfl ?_
  refine g_icmp_ge C 21 dJ8_newLength_cabcc_10 (by decide) (fun c3 => ?_) (fun c3 => ?_)
  · have hf := opt_pos c3 hf
    refine gW.locals [1, 2, 3] rfl ?_
    exact H21 hf
  · have hf := opt_neg c3 hf
    refine g_iload_n C 0 dJ8_newLength_cabcc_13 rfl ?_
    refine g_ldc C mw_4_24 dJ8_newLength_cabcc_14 ?_
    refine g_icmp_gt C 21 dJ8_newLength_cabcc_16 (by decide) (fun c4 => ?_) (fun c4 => ?_)
    · have hf := opt_pos c4 hf
      refine gW.locals [1, 2, 3] rfl ?_
      exact H21 hf
    · have hf := opt_neg c4 hf
      refine g_iload_n C 0 dJ8_newLength_cabcc_19 rfl ?_
      obtain rfl := Option.some.inj hf
      exact g_iret C E () dJ8_newLength_cabcc_20 rfl rfl rfl (Nat.le_of_ble_eq_true rfl) (Nat.le_of_ble_eq_true rfl)
/-! J5_newCapacity_0f7a4 -/
theorem hd_J5_newCapacity_0f7a4 : yJ5_newCapacity_0f7a4.cls ≠ "java/lang/invoke/MethodHandle" ∧ yJ5_newCapacity_0f7a4.cls ≠ "java/lang/invoke/VarHandle" ∧ (parseMethodDescriptor yJ5_newCapacity_0f7a4.desc).map (fun d => d.parameters.length) = some 1 := by decide +kernel
def F_J5_newCapacity_0f7a4 (cap : Nat) (p0 : Int32) : Option (Int32) := gl ((p0 <<< (0 &&& 31)) - (Int32.ofNat cap)) fun x1 => (F_J8_newLength_cabcc (Int32.ofNat cap) x1 ((Int32.ofNat cap) + ((2 : Int32) <<< (0 &&& 31)))).bind fun v2 => if v2 = 2147483647 then (none) else (some (v2 >>> (0 &&& 31)))
set_option maxRecDepth 100000 in
set_option maxHeartbeats 4000000 in
theorem c_J5_newCapacity_0f7a4 {l : Launch} {D : va_G} {cy : Nat → ClassId} {sb sy : Nat} {ml : Int32} {n : Int32} {cap : Nat} {bs : Nat → Int32} {p0 : Int32}  {val : Int32} (hf : F_J5_newCapacity_0f7a4 cap p0 = some val) : gCt l D cy yJ5_newCapacity_0f7a4 cJ5_newCapacity_0f7a4 6 (some .int) 2 44 0 0 [.ref sb, .int p0] (wSb cy sb sy ml n cap bs) ([]) 0 (fun _ : Unit => some (.int val)) (fun _ => []) := by
  refine g_begin (by decide +kernel) (Nat.le_of_ble_eq_true rfl) ?_
  intro X Q hl hR hD hy hro hn C hin E
  subst hl; subst hD; subst hy
  replace C : gC X "java/lang/AbstractStringBuilder" cJ5_newCapacity_0f7a4 (some .int) := C
  unfold F_J5_newCapacity_0f7a4 at hf
  show gW X Q 0 0 ([]) [(0, .ref sb), (1, .int p0)] [] 0
  refine g_aload_n C 0 dJ5_newCapacity_0f7a4_0 rfl ?_
  refine g_getR C hro 0 0 rfl rfl wiJ4 (by decide) mw_1_137 rfl rfl dJ5_newCapacity_0f7a4_1 ?_
  refine g_alenR C hro 1 (t0 := 3) (v := Int32.ofNat cap) rfl rfl rfl dJ5_newCapacity_0f7a4_4 ?_
  refine g_istore_n C (lv' := [(2, .int (Int32.ofNat cap)), (0, .ref sb), (1, .int p0)]) dJ5_newCapacity_0f7a4_5 (g_nlt hn rfl) rfl ?_
  refine g_iload_n C 2 dJ5_newCapacity_0f7a4_6 rfl ?_
  refine g_aload_n C 1 dJ5_newCapacity_0f7a4_7 rfl ?_
  refine g_getR C hro 0 1 rfl rfl wiJ4 (by decide) mw_1_138 rfl rfl dJ5_newCapacity_0f7a4_8 ?_
  refine g_ishl C dJ5_newCapacity_0f7a4_11 ?_
  refine g_istore_n C (lv' := [(3, .int (p0 <<< (0 &&& 31))), (2, .int (Int32.ofNat cap)), (0, .ref sb), (1, .int p0)]) dJ5_newCapacity_0f7a4_12 (g_nlt hn rfl) rfl ?_
  refine g_iload_n C 0 dJ5_newCapacity_0f7a4_13 rfl ?_
  refine g_iload_n C 1 dJ5_newCapacity_0f7a4_14 rfl ?_
  refine g_isub C dJ5_newCapacity_0f7a4_15 ?_
  obtain ⟨x1, ex1, hf⟩ := opt_let hf
  refine g_topi ex1 ?_
  refine g_istore C (lv' := [(4, .int x1), (3, .int (p0 <<< (0 &&& 31))), (2, .int (Int32.ofNat cap)), (0, .ref sb), (1, .int p0)]) dJ5_newCapacity_0f7a4_16 (g_nlt hn rfl) rfl ?_
  refine g_iload_n C 2 dJ5_newCapacity_0f7a4_18 rfl ?_
  refine g_iload C 0 dJ5_newCapacity_0f7a4_19 rfl ?_
  refine g_iload_n C 2 dJ5_newCapacity_0f7a4_21 rfl ?_
  refine g_iconst C (v := 2) dJ5_newCapacity_0f7a4_22 (by decide) ?_
  refine g_aload_n C 3 dJ5_newCapacity_0f7a4_23 rfl ?_
  refine g_getR C hro 0 1 rfl rfl wiJ4 (by decide) mw_1_138 rfl rfl dJ5_newCapacity_0f7a4_24 ?_
  refine g_ishl C dJ5_newCapacity_0f7a4_27 ?_
  refine g_iadd C dJ5_newCapacity_0f7a4_28 ?_
  obtain ⟨v2, h3, hf⟩ := opt_bind hf
  refine g_callS C (c_J8_newLength_cabcc (l := x_l X) (D := x_D X) (cy := x_y X) (p0 := Int32.ofNat cap) (p1 := x1) (p2 := (Int32.ofNat cap) + ((2 : Int32) <<< (0 &&& 31))) h3) (As := [.int (Int32.ofNat cap), .int x1, .int ((Int32.ofNat cap) + ((2 : Int32) <<< (0 &&& 31)))]) (rest := []) (wr := []) (ws' := fun _ => []) (st' := fun _ => [.int v2]) 3 mw_4_20 mw_1_22 mw_4_18 mw_4_19 hd_J8_newLength_cabcc rfl (g_rm hR rfl rfl) [] [] [] ⟨rfl, rfl, rfl, rfl, by decide, gRoIn_0, rfl, fun _ => rfl⟩ rfl (Nat.le_of_ble_eq_true rfl) dJ5_newCapacity_0f7a4_29 (g_rc hR (Nat.le_of_ble_eq_true rfl) (Nat.le_of_ble_eq_true rfl)) (ck' := 0) (sk' := 0) rfl rfl (fun _ => rfl) (fun _ _ => ?_) (fun _ hx => absurd rfl hx)
  refine g_istore C (lv' := [(5, .int v2), (4, .int x1), (3, .int (p0 <<< (0 &&& 31))), (2, .int (Int32.ofNat cap)), (0, .ref sb), (1, .int p0)]) dJ5_newCapacity_0f7a4_32 (g_nlt hn rfl) rfl ?_
  refine g_iload C 0 dJ5_newCapacity_0f7a4_34 rfl ?_
  refine g_ldc C mw_4_28 dJ5_newCapacity_0f7a4_36 ?_
  refine g_icmp_ne C 51 dJ5_newCapacity_0f7a4_38 (by decide) (fun c4 => ?_) (fun c4 => ?_)
  · have hf := opt_neg c4 hf
    refine g_iload C 0 dJ5_newCapacity_0f7a4_51 rfl ?_
    refine g_aload_n C 4 dJ5_newCapacity_0f7a4_53 rfl ?_
    refine g_getR C hro 0 1 rfl rfl wiJ4 (by decide) mw_1_138 rfl rfl dJ5_newCapacity_0f7a4_54 ?_
    refine g_ishr C dJ5_newCapacity_0f7a4_57 ?_
    obtain rfl := Option.some.inj hf
    exact g_iret C E () dJ5_newCapacity_0f7a4_58 rfl rfl rfl (Nat.le_of_ble_eq_true rfl) (Nat.le_of_ble_eq_true rfl)
  · have hf := opt_pos c4 hf
    cases hf
/-! J5_getValue_6d5f1 -/
theorem hd_J5_getValue_6d5f1 : yJ5_getValue_6d5f1.cls ≠ "java/lang/invoke/MethodHandle" ∧ yJ5_getValue_6d5f1.cls ≠ "java/lang/invoke/VarHandle" ∧ (parseMethodDescriptor yJ5_getValue_6d5f1.desc).map (fun d => d.parameters.length) = some 0 := by decide +kernel
def F_J5_getValue_6d5f1  : Option (Unit) := some ()
set_option maxRecDepth 100000 in
set_option maxHeartbeats 4000000 in
theorem c_J5_getValue_6d5f1 {l : Launch} {D : va_G} {cy : Nat → ClassId} {sb sy : Nat} {ml : Int32} {n : Int32} {cap : Nat} {bs : Nat → Int32}   {val : Unit} (hf : F_J5_getValue_6d5f1  = some val) : gCt l D cy yJ5_getValue_6d5f1 cJ5_getValue_6d5f1 1 (some (.array .byte)) 0 0 0 0 [.ref sb] (wSb cy sb sy ml n cap bs) ([]) 0 (fun _ : Unit => some (.ref sy)) (fun _ => []) := by
  refine g_begin (by decide +kernel) (Nat.le_of_ble_eq_true rfl) ?_
  intro X Q hl hR hD hy hro hn C hin E
  subst hl; subst hD; subst hy
  replace C : gC X "java/lang/AbstractStringBuilder" cJ5_getValue_6d5f1 (some (.array .byte)) := C
  unfold F_J5_getValue_6d5f1 at hf
  show gW X Q 0 0 ([]) [(0, .ref sb)] [] 0
  refine g_aload_n C 0 dJ5_getValue_6d5f1_0 rfl ?_
  refine g_getR C hro 0 0 rfl rfl wiJ4 (by decide) mw_1_137 rfl rfl dJ5_getValue_6d5f1_1 ?_
  obtain rfl := Option.some.inj hf
  exact g_aret C E () dJ5_getValue_6d5f1_4 (Or.inr ⟨_, rfl⟩) rfl rfl rfl (Nat.le_of_ble_eq_true rfl) (Nat.le_of_ble_eq_true rfl)
/-! J7_checkLength_df160 -/
theorem hd_J7_checkLength_df160 : yJ7_checkLength_df160.cls ≠ "java/lang/invoke/MethodHandle" ∧ yJ7_checkLength_df160.cls ≠ "java/lang/invoke/VarHandle" ∧ (parseMethodDescriptor yJ7_checkLength_df160.desc).map (fun d => d.parameters.length) = some 2 := by decide +kernel
def F_J7_checkLength_df160 (p0 : Int32) (p1 : Int32) : Option (Unit) := if p0 ≤ p1 then (some ()) else (none)
set_option maxRecDepth 100000 in
set_option maxHeartbeats 4000000 in
theorem c_J7_checkLength_df160 {l : Launch} {D : va_G} {cy : Nat → ClassId}   {p0 : Int32} {p1 : Int32}  {val : Unit} (hf : F_J7_checkLength_df160 p0 p1 = some val) : gCt l D cy yJ7_checkLength_df160 cJ7_checkLength_df160 2 none 0 0 0 0 [.int p0, .int p1] [] ([]) 0 (fun _ : Unit => none) (fun _ => []) := by
  refine g_begin (by decide +kernel) (Nat.le_of_ble_eq_true rfl) ?_
  intro X Q hl hR hD hy hro hn C hin E
  subst hl; subst hD; subst hy
  replace C : gC X "java/util/Arrays" cJ7_checkLength_df160 none := C
  unfold F_J7_checkLength_df160 at hf
  show gW X Q 0 0 ([]) [(0, .int p0), (1, .int p1)] [] 0
  refine g_iload_n C 1 dJ7_checkLength_df160_0 rfl ?_
  refine g_iload_n C 0 dJ7_checkLength_df160_1 rfl ?_
  refine g_icmp_ge C 37 dJ7_checkLength_df160_2 (by decide) (fun c1 => ?_) (fun c1 => ?_)
  · have hf := opt_pos c1 hf
    obtain rfl := Option.some.inj hf
    exact g_vret C E () dJ7_checkLength_df160_37 rfl rfl rfl (Nat.le_of_ble_eq_true rfl) (Nat.le_of_ble_eq_true rfl)
  · have hf := opt_neg c1 hf
    cases hf
/-! J1_canEncode_fc78d -/
theorem hd_J1_canEncode_fc78d : yJ1_canEncode_fc78d.cls ≠ "java/lang/invoke/MethodHandle" ∧ yJ1_canEncode_fc78d.cls ≠ "java/lang/invoke/VarHandle" ∧ (parseMethodDescriptor yJ1_canEncode_fc78d.desc).map (fun d => d.parameters.length) = some 1 := by decide +kernel
def F_J1_canEncode_fc78d_L12   (s0_12 : Int32) : Option (Int32) := gg (gnar .boolean s0_12) (some s0_12)
def F_J1_canEncode_fc78d (p0 : Int32) : Option (Int32) := if 255 < p0 then (F_J1_canEncode_fc78d_L12 0) else (F_J1_canEncode_fc78d_L12 1)
set_option maxRecDepth 100000 in
set_option maxHeartbeats 4000000 in
theorem c_J1_canEncode_fc78d {l : Launch} {D : va_G} {cy : Nat → ClassId}   {p0 : Int32}  {val : Int32} (hf : F_J1_canEncode_fc78d p0 = some val) : gCt l D cy yJ1_canEncode_fc78d cJ1_canEncode_fc78d 1 (some .boolean) 0 0 0 0 [.int p0] [] ([]) 0 (fun _ : Unit => some (.int val)) (fun _ => []) := by
  refine g_begin (by decide +kernel) (Nat.le_of_ble_eq_true rfl) ?_
  intro X Q hl hR hD hy hro hn C hin E
  subst hl; subst hD; subst hy
  replace C : gC X "java/lang/StringLatin1" cJ1_canEncode_fc78d (some .boolean) := C
  unfold F_J1_canEncode_fc78d at hf
  have H12 : ∀ (s0_12 : Int32), F_J1_canEncode_fc78d_L12 s0_12 = some val → gW X Q 0 0 ([]) [(0, .int p0)] [.int s0_12] 12 := by
    intro s0_12 hf
    unfold F_J1_canEncode_fc78d_L12 at hf
    obtain ⟨c2, hf⟩ := gg_of hf
    obtain rfl := Option.some.inj hf
    exact g_zret C E () (gnar_of c2) dJ1_canEncode_fc78d_12 rfl rfl rfl (Nat.le_of_ble_eq_true rfl) (Nat.le_of_ble_eq_true rfl)
  show gW X Q 0 0 ([]) [(0, .int p0)] [] 0
  refine g_iload_n C 0 dJ1_canEncode_fc78d_0 rfl ?_
  refine g_sipush C (v := 255) dJ1_canEncode_fc78d_1 (by decide) ?_
  refine g_icmp_gt C 11 dJ1_canEncode_fc78d_4 (by decide) (fun c1 => ?_) (fun c1 => ?_)
  · have hf := opt_pos c1 hf
    refine g_iconst C (v := 0) dJ1_canEncode_fc78d_11 (by decide) ?_
    exact H12 0 hf
  · have hf := opt_neg c1 hf
    refine g_iconst C (v := 1) dJ1_canEncode_fc78d_7 (by decide) ?_
    refine g_goto C 12 dJ1_canEncode_fc78d_8 (by decide) ?_
    exact H12 1 hf
/-! J6_stringSize_0f7a4 -/
theorem hd_J6_stringSize_0f7a4 : yJ6_stringSize_0f7a4.cls ≠ "java/lang/invoke/MethodHandle" ∧ yJ6_stringSize_0f7a4.cls ≠ "java/lang/invoke/VarHandle" ∧ (parseMethodDescriptor yJ6_stringSize_0f7a4.desc).map (fun d => d.parameters.length) = some 1 := by decide +kernel
def F_J6_stringSize_0f7a4_L16   : Nat → Int32 → Int32 → Int32 → Int32 → Option (Int32)
  | 0, _, _, _, _ => none
  | n + 1, l0_16, l1_16, l2_16, l3_16 => if 10 ≤ l3_16 then (some ((10 : Int32) + l1_16)) else (if l0_16 ≤ l2_16 then (F_J6_stringSize_0f7a4_L16 n l0_16 l1_16 ((10 : Int32) * l2_16) (l3_16 + 1)) else (some (l3_16 + l1_16)))
def F_J6_stringSize_0f7a4_L11   (l0_11 : Int32) (l1_11 : Int32) : Option (Int32) := F_J6_stringSize_0f7a4_L16 1000 l0_11 l1_11 (-10) 1
def F_J6_stringSize_0f7a4 (p0 : Int32) : Option (Int32) := if p0 < 0 then (F_J6_stringSize_0f7a4_L11 p0 1) else (F_J6_stringSize_0f7a4_L11 (-p0) 0)
set_option maxRecDepth 100000 in
set_option maxHeartbeats 4000000 in
theorem c_J6_stringSize_0f7a4 {l : Launch} {D : va_G} {cy : Nat → ClassId}   {p0 : Int32}  {val : Int32} (hf : F_J6_stringSize_0f7a4 p0 = some val) : gCt l D cy yJ6_stringSize_0f7a4 cJ6_stringSize_0f7a4 4 (some .int) 0 0 0 0 [.int p0] [] ([]) 0 (fun _ : Unit => some (.int val)) (fun _ => []) := by
  refine g_begin (by decide +kernel) (Nat.le_of_ble_eq_true rfl) ?_
  intro X Q hl hR hD hy hro hn C hin E
  subst hl; subst hD; subst hy
  replace C : gC X "java/lang/Integer" cJ6_stringSize_0f7a4 (some .int) := C
  unfold F_J6_stringSize_0f7a4 at hf
  have H16 : ∀ (n16 : Nat), ∀ (l0_16 : Int32) (l1_16 : Int32) (l2_16 : Int32) (l3_16 : Int32), F_J6_stringSize_0f7a4_L16 n16 l0_16 l1_16 l2_16 l3_16 = some val → gW X Q 0 0 ([]) [(0, .int l0_16), (1, .int l1_16), (2, .int l2_16), (3, .int l3_16)] [] 16 := by
    intro n16
    induction n16 with
    | zero => intros; rename_i hf; cases hf
    | succ n16 ih =>
      intro l0_16 l1_16 l2_16 l3_16 hf
      have H16 := ih
      rw [F_J6_stringSize_0f7a4_L16] at hf
      refine g_iload_n C 3 dJ6_stringSize_0f7a4_16 rfl ?_
      refine g_bipush C (v := 10) dJ6_stringSize_0f7a4_17 (by decide) ?_
      refine g_icmp_ge C 42 dJ6_stringSize_0f7a4_19 (by decide) (fun c2 => ?_) (fun c2 => ?_)
      · have hf := opt_pos c2 hf
        refine g_bipush C (v := 10) dJ6_stringSize_0f7a4_42 (by decide) ?_
        refine g_iload_n C 1 dJ6_stringSize_0f7a4_44 rfl ?_
        refine g_iadd C dJ6_stringSize_0f7a4_45 ?_
        obtain rfl := Option.some.inj hf
        exact g_iret C E () dJ6_stringSize_0f7a4_46 rfl rfl rfl (Nat.le_of_ble_eq_true rfl) (Nat.le_of_ble_eq_true rfl)
      · have hf := opt_neg c2 hf
        refine g_iload_n C 0 dJ6_stringSize_0f7a4_22 rfl ?_
        refine g_iload_n C 2 dJ6_stringSize_0f7a4_23 rfl ?_
        refine g_icmp_le C 31 dJ6_stringSize_0f7a4_24 (by decide) (fun c3 => ?_) (fun c3 => ?_)
        · have hf := opt_pos c3 hf
          refine g_bipush C (v := 10) dJ6_stringSize_0f7a4_31 (by decide) ?_
          refine g_iload_n C 2 dJ6_stringSize_0f7a4_33 rfl ?_
          refine g_imul C dJ6_stringSize_0f7a4_34 ?_
          refine g_istore_n C (lv' := [(2, .int ((10 : Int32) * l2_16)), (0, .int l0_16), (1, .int l1_16), (3, .int l3_16)]) dJ6_stringSize_0f7a4_35 (g_nlt hn rfl) rfl ?_
          refine g_iinc C 3 (v := l3_16 + 1) (lv' := [(3, .int (l3_16 + 1)), (2, .int ((10 : Int32) * l2_16)), (0, .int l0_16), (1, .int l1_16)]) dJ6_stringSize_0f7a4_36 rfl rfl (g_nlt hn rfl) rfl ?_
          refine g_goto C 16 dJ6_stringSize_0f7a4_39 (by decide) ?_
          refine gW.locals [2, 3, 1, 0] rfl ?_
          exact H16 l0_16 l1_16 ((10 : Int32) * l2_16) (l3_16 + 1) hf
        · have hf := opt_neg c3 hf
          refine g_iload_n C 3 dJ6_stringSize_0f7a4_27 rfl ?_
          refine g_iload_n C 1 dJ6_stringSize_0f7a4_28 rfl ?_
          refine g_iadd C dJ6_stringSize_0f7a4_29 ?_
          obtain rfl := Option.some.inj hf
          exact g_iret C E () dJ6_stringSize_0f7a4_30 rfl rfl rfl (Nat.le_of_ble_eq_true rfl) (Nat.le_of_ble_eq_true rfl)
  have H11 : ∀ (l0_11 : Int32) (l1_11 : Int32), F_J6_stringSize_0f7a4_L11 l0_11 l1_11 = some val → gW X Q 0 0 ([]) [(0, .int l0_11), (1, .int l1_11)] [] 11 := by
    intro l0_11 l1_11 hf
    unfold F_J6_stringSize_0f7a4_L11 at hf
    refine g_bipush C (v := (-10)) dJ6_stringSize_0f7a4_11 (by decide) ?_
    refine g_istore_n C (lv' := [(2, .int (-10)), (0, .int l0_11), (1, .int l1_11)]) dJ6_stringSize_0f7a4_13 (g_nlt hn rfl) rfl ?_
    refine g_iconst C (v := 1) dJ6_stringSize_0f7a4_14 (by decide) ?_
    refine g_istore_n C (lv' := [(3, .int 1), (2, .int (-10)), (0, .int l0_11), (1, .int l1_11)]) dJ6_stringSize_0f7a4_15 (g_nlt hn rfl) rfl ?_
    refine gW.locals [2, 3, 1, 0] rfl ?_
    exact H16 1000 l0_11 l1_11 (-10) 1 hf
  show gW X Q 0 0 ([]) [(0, .int p0)] [] 0
  refine g_iconst C (v := 1) dJ6_stringSize_0f7a4_0 (by decide) ?_
  refine g_istore_n C (lv' := [(1, .int 1), (0, .int p0)]) dJ6_stringSize_0f7a4_1 (g_nlt hn rfl) rfl ?_
  refine g_iload_n C 1 dJ6_stringSize_0f7a4_2 rfl ?_
  refine g_if_lt C 11 dJ6_stringSize_0f7a4_3 (by decide) (fun c1 => ?_) (fun c1 => ?_)
  · have hf := opt_pos c1 hf
    refine gW.locals [1, 0] rfl ?_
    exact H11 p0 1 hf
  · have hf := opt_neg c1 hf
    refine g_iconst C (v := 0) dJ6_stringSize_0f7a4_6 (by decide) ?_
    refine g_istore_n C (lv' := [(1, .int 0), (0, .int p0)]) dJ6_stringSize_0f7a4_7 (g_nlt hn rfl) rfl ?_
    refine g_iload_n C 1 dJ6_stringSize_0f7a4_8 rfl ?_
    refine g_ineg C dJ6_stringSize_0f7a4_9 ?_
    refine g_istore_n C (lv' := [(0, .int (-p0)), (1, .int 0)]) dJ6_stringSize_0f7a4_10 (g_nlt hn rfl) rfl ?_
    exact H11 (-p0) 0 hf
/-! J7_copyOf_9075b -/
theorem hd_J7_copyOf_9075b : yJ7_copyOf_9075b.cls ≠ "java/lang/invoke/MethodHandle" ∧ yJ7_copyOf_9075b.cls ≠ "java/lang/invoke/VarHandle" ∧ (parseMethodDescriptor yJ7_copyOf_9075b.desc).map (fun d => d.parameters.length) = some 2 := by decide +kernel
def F_J7_copyOf_9075b (bn : Nat) (bb : Nat → Int32) (p1 : Int32) : Option (Nat × (Nat → Int32)) := if p1 = (Int32.ofNat bn) then (gg (gfb bb 0 bn) (gg (decide (bn ≤ 80)) (some (bn, bb)))) else (gg (gnw p1 80) (gl (Int32.toNatClampNeg p1) fun m3 => (F_J9_min_7cf53 (Int32.ofNat bn) p1).bind fun v5 => gg (gcp 0 0 v5 bn m3) (gg (gfb bb (Int32.toNatClampNeg 0) (Int32.toNatClampNeg v5)) (some (m3, va_cpy bb (fun _ => 0) (Int32.toNatClampNeg 0) (Int32.toNatClampNeg 0) (Int32.toNatClampNeg v5))))))
set_option maxRecDepth 100000 in
set_option maxHeartbeats 4000000 in
theorem c_J7_copyOf_9075b {l : Launch} {D : va_G} {cy : Nat → ClassId} {ab : Nat} {bn : Nat} {bb : Nat → Int32} {p1 : Int32}  {val : Nat × (Nat → Int32)} (hf : F_J7_copyOf_9075b bn bb p1 = some val) : gCt l D cy yJ7_copyOf_9075b cJ7_copyOf_9075b 3 (some (.array .byte)) 1 30 1 80 [.ref ab, .int p1] [] ((wB1 cy ab bn bb)) 0 (fun u : Nat => some (.ref u)) (fun u => (wB1 cy ab bn bb) ++ (wB1 cy u val.1 val.2)) := by
  refine g_begin (by decide +kernel) (Nat.le_of_ble_eq_true rfl) ?_
  intro X Q hl hR hD hy hro hn C hin E
  subst hl; subst hD; subst hy
  replace C : gC X "java/util/Arrays" cJ7_copyOf_9075b (some (.array .byte)) := C
  unfold F_J7_copyOf_9075b at hf
  show gW X Q 0 0 ((wB1 (x_y X) ab bn bb)) [(0, .ref ab), (1, .int p1)] [] 0
  refine g_iload_n C 1 dJ7_copyOf_9075b_0 rfl ?_
  refine g_aload_n C 0 dJ7_copyOf_9075b_1 rfl ?_
  refine g_alen C 0 (t0 := 3) (v := Int32.ofNat bn) rfl rfl rfl dJ7_copyOf_9075b_2 ?_
  refine g_icmp_ne C 14 dJ7_copyOf_9075b_3 (by decide) (fun c1 => ?_) (fun c1 => ?_)
  · have hf := opt_neg c1 hf
    refine g_iload_n C 1 dJ7_copyOf_9075b_14 rfl ?_
    obtain ⟨c4, hf⟩ := gg_of hf
    obtain ⟨m3, em3, hf⟩ := opt_let hf
    refine g_newa C 3 (ty := .byte) rfl rfl (fun _ h => nomatch h) mw_1_151 (N := m3) (B := 80) (a0 := (m3, .inl (fun _ => 0))) (fun _ => rfl) (gnw_0 c4) em3.symm (by rw [em3]; exact gnw_B c4) (by decide) (by decide) (g_rc hR (Nat.le_of_ble_eq_true rfl) (Nat.le_of_ble_eq_true rfl)) (ck' := 1) (sk' := 80) rfl rfl dJ7_copyOf_9075b_15 (fun q2 => ?_)
    refine g_astore_n C (lv' := [(2, .ref q2), (0, .ref ab), (1, .int p1)]) dJ7_copyOf_9075b_17 (g_nlt hn rfl) rfl ?_
    refine g_aload_n C 1 dJ7_copyOf_9075b_18 rfl ?_
    refine g_iconst C (v := 0) dJ7_copyOf_9075b_19 (by decide) ?_
    refine g_aload_n C 0 dJ7_copyOf_9075b_20 rfl ?_
    refine g_iconst C (v := 0) dJ7_copyOf_9075b_21 (by decide) ?_
    refine g_aload_n C 1 dJ7_copyOf_9075b_22 rfl ?_
    refine g_alen C 0 (t0 := 3) (v := Int32.ofNat bn) rfl rfl rfl dJ7_copyOf_9075b_23 ?_
    refine g_iload_n C 2 dJ7_copyOf_9075b_24 rfl ?_
    obtain ⟨v5, h6, hf⟩ := opt_bind hf
    refine g_callS C (c_J9_min_7cf53 (l := x_l X) (D := x_D X) (cy := x_y X) (p0 := Int32.ofNat bn) (p1 := p1) h6) (As := [.int (Int32.ofNat bn), .int p1]) (rest := [.int 0, .ref q2, .int 0, .ref ab]) (wr := (wB1 (x_y X) ab bn bb) ++ [(q2, .inl ((x_y X) 3, m3, .inl (fun _ => 0)))]) (ws' := fun _ => (wB1 (x_y X) ab bn bb) ++ [(q2, .inl ((x_y X) 3, m3, .inl (fun _ => 0)))]) (st' := fun _ => [.int v5, .int 0, .ref q2, .int 0, .ref ab]) 2 mw_3_22 mw_1_18 mw_4_39 mw_3_21 hd_J9_min_7cf53 rfl (g_rm hR rfl rfl) [] [0, 1] [0, 1] ⟨rfl, rfl, rfl, rfl, by decide, gRoIn_0, rfl, fun _ => rfl⟩ rfl (Nat.le_of_ble_eq_true rfl) dJ7_copyOf_9075b_25 (g_rc hR (Nat.le_of_ble_eq_true rfl) (Nat.le_of_ble_eq_true rfl)) (ck' := 1) (sk' := 80) rfl rfl (fun _ => rfl) (fun _ _ => ?_) (fun _ hx => absurd rfl hx)
    obtain ⟨c7, hf⟩ := gg_of hf
    obtain ⟨c8, hf⟩ := gg_of hf
    refine g_copyb C (ws' := (wB1 (x_y X) ab bn bb) ++ [(q2, .inl ((x_y X) 3, m3, .inl (va_cpy bb (fun _ => 0) (Int32.toNatClampNeg 0) (Int32.toNatClampNeg 0) (Int32.toNatClampNeg v5))))]) 0 1 mw_4_40 mw_1_237 mw_1_236 mw_1_24 rfl rfl c7 c8 (g_tn hR rfl rfl) rfl dJ7_copyOf_9075b_28 ?_
    refine g_aload_n C 0 dJ7_copyOf_9075b_31 rfl ?_
    refine g_eqw (ws' := (wB1 (x_y X) ab bn bb) ++ (wB1 (x_y X) q2 m3 (va_cpy bb (fun _ => 0) (Int32.toNatClampNeg 0) (Int32.toNatClampNeg 0) (Int32.toNatClampNeg v5)))) rfl ?_
    obtain rfl := Option.some.inj hf
    exact g_aret C E q2 dJ7_copyOf_9075b_32 (Or.inr ⟨_, rfl⟩) rfl rfl rfl (Nat.le_of_ble_eq_true rfl) (Nat.le_of_ble_eq_true rfl)
  · have hf := opt_pos c1 hf
    refine g_aload_n C 0 dJ7_copyOf_9075b_6 rfl ?_
    obtain ⟨c10, hf⟩ := gg_of hf
    obtain ⟨c11, hf⟩ := gg_of hf
    refine g_clone C (B := 80) 0 mw_4_32 mw_4_34 mw_4_35 mw_4_36 rfl c10 (of_decide_eq_true c11) (g_tn hR rfl rfl) (g_rc hR (Nat.le_of_ble_eq_true rfl) (Nat.le_of_ble_eq_true rfl)) (ck' := 1) (sk' := 80) rfl rfl dJ7_copyOf_9075b_7 (fun q9 => ?_)
    refine g_castB C 1 mw_4_38 rfl dJ7_copyOf_9075b_10 ?_
    refine g_eqw (ws' := (wB1 (x_y X) ab bn bb) ++ (wB1 (x_y X) q9 bn bb)) rfl ?_
    obtain rfl := Option.some.inj hf
    exact g_aret C E q9 dJ7_copyOf_9075b_13 (Or.inr ⟨_, rfl⟩) rfl rfl rfl (Nat.le_of_ble_eq_true rfl) (Nat.le_of_ble_eq_true rfl)
/-! J7_copyOfRangeByte_39247 -/
theorem hd_J7_copyOfRangeByte_39247 : yJ7_copyOfRangeByte_39247.cls ≠ "java/lang/invoke/MethodHandle" ∧ yJ7_copyOfRangeByte_39247.cls ≠ "java/lang/invoke/VarHandle" ∧ (parseMethodDescriptor yJ7_copyOfRangeByte_39247.desc).map (fun d => d.parameters.length) = some 3 := by decide +kernel
def F_J7_copyOfRangeByte_39247 (bn : Nat) (bb : Nat → Int32) (p1 : Int32) (p2 : Int32) : Option (Nat × (Nat → Int32)) := (F_J7_checkLength_df160 p1 p2).bind fun v1 => gg (gnw (p2 - p1) 80) (gl (Int32.toNatClampNeg (p2 - p1)) fun m4 => (F_J9_min_7cf53 ((Int32.ofNat bn) - p1) (p2 - p1)).bind fun v6 => gg (gcp p1 0 v6 bn m4) (gg (gfb bb (Int32.toNatClampNeg p1) (Int32.toNatClampNeg v6)) (some (m4, va_cpy bb (fun _ => 0) (Int32.toNatClampNeg p1) (Int32.toNatClampNeg 0) (Int32.toNatClampNeg v6)))))
set_option maxRecDepth 100000 in
set_option maxHeartbeats 4000000 in
theorem c_J7_copyOfRangeByte_39247 {l : Launch} {D : va_G} {cy : Nat → ClassId} {ab : Nat} {bn : Nat} {bb : Nat → Int32} {p1 : Int32} {p2 : Int32}  {val : Nat × (Nat → Int32)} (hf : F_J7_copyOfRangeByte_39247 bn bb p1 p2 = some val) : gCt l D cy yJ7_copyOfRangeByte_39247 cJ7_copyOfRangeByte_39247 5 (some (.array .byte)) 1 30 1 80 [.ref ab, .int p1, .int p2] [] ((wB1 cy ab bn bb)) 0 (fun u : Nat => some (.ref u)) (fun u => (wB1 cy ab bn bb) ++ (wB1 cy u val.1 val.2)) := by
  refine g_begin (by decide +kernel) (Nat.le_of_ble_eq_true rfl) ?_
  intro X Q hl hR hD hy hro hn C hin E
  subst hl; subst hD; subst hy
  replace C : gC X "java/util/Arrays" cJ7_copyOfRangeByte_39247 (some (.array .byte)) := C
  unfold F_J7_copyOfRangeByte_39247 at hf
  show gW X Q 0 0 ((wB1 (x_y X) ab bn bb)) [(0, .ref ab), (1, .int p1), (2, .int p2)] [] 0
  refine g_iload_n C 1 dJ7_copyOfRangeByte_39247_0 rfl ?_
  refine g_iload_n C 2 dJ7_copyOfRangeByte_39247_1 rfl ?_
  obtain ⟨v1, h2, hf⟩ := opt_bind hf
  refine g_callS C (c_J7_checkLength_df160 (l := x_l X) (D := x_D X) (cy := x_y X) (p0 := p1) (p1 := p2) h2) (As := [.int p1, .int p2]) (rest := []) (wr := (wB1 (x_y X) ab bn bb)) (ws' := fun _ => (wB1 (x_y X) ab bn bb)) (st' := fun _ => []) 2 mw_4_174 mw_1_23 mw_4_172 mw_4_173 hd_J7_checkLength_df160 rfl (g_rm hR rfl rfl) [] [0] [0] ⟨rfl, rfl, rfl, rfl, by decide, gRoIn_0, rfl, fun _ => rfl⟩ rfl (Nat.le_of_ble_eq_true rfl) dJ7_copyOfRangeByte_39247_2 (g_rc hR (Nat.le_of_ble_eq_true rfl) (Nat.le_of_ble_eq_true rfl)) (ck' := 0) (sk' := 0) rfl rfl (fun _ => rfl) (fun _ _ => ?_) (fun _ hx => absurd rfl hx)
  refine g_iload_n C 2 dJ7_copyOfRangeByte_39247_5 rfl ?_
  refine g_iload_n C 1 dJ7_copyOfRangeByte_39247_6 rfl ?_
  refine g_isub C dJ7_copyOfRangeByte_39247_7 ?_
  refine g_istore_n C (lv' := [(3, .int (p2 - p1)), (0, .ref ab), (1, .int p1), (2, .int p2)]) dJ7_copyOfRangeByte_39247_8 (g_nlt hn rfl) rfl ?_
  refine g_iload_n C 0 dJ7_copyOfRangeByte_39247_9 rfl ?_
  obtain ⟨c5, hf⟩ := gg_of hf
  obtain ⟨m4, em4, hf⟩ := opt_let hf
  refine g_newa C 3 (ty := .byte) rfl rfl (fun _ h => nomatch h) mw_1_151 (N := m4) (B := 80) (a0 := (m4, .inl (fun _ => 0))) (fun _ => rfl) (gnw_0 c5) em4.symm (by rw [em4]; exact gnw_B c5) (by decide) (by decide) (g_rc hR (Nat.le_of_ble_eq_true rfl) (Nat.le_of_ble_eq_true rfl)) (ck' := 1) (sk' := 80) rfl rfl dJ7_copyOfRangeByte_39247_10 (fun q3 => ?_)
  refine g_astore C (lv' := [(4, .ref q3), (3, .int (p2 - p1)), (0, .ref ab), (1, .int p1), (2, .int p2)]) dJ7_copyOfRangeByte_39247_12 (g_nlt hn rfl) rfl ?_
  refine g_aload_n C 2 dJ7_copyOfRangeByte_39247_14 rfl ?_
  refine g_iload_n C 3 dJ7_copyOfRangeByte_39247_15 rfl ?_
  refine g_aload C 0 dJ7_copyOfRangeByte_39247_16 rfl ?_
  refine g_iconst C (v := 0) dJ7_copyOfRangeByte_39247_18 (by decide) ?_
  refine g_aload_n C 2 dJ7_copyOfRangeByte_39247_19 rfl ?_
  refine g_alen C 0 (t0 := 3) (v := Int32.ofNat bn) rfl rfl rfl dJ7_copyOfRangeByte_39247_20 ?_
  refine g_iload_n C 3 dJ7_copyOfRangeByte_39247_21 rfl ?_
  refine g_isub C dJ7_copyOfRangeByte_39247_22 ?_
  refine g_iload_n C 1 dJ7_copyOfRangeByte_39247_23 rfl ?_
  obtain ⟨v6, h7, hf⟩ := opt_bind hf
  refine g_callS C (c_J9_min_7cf53 (l := x_l X) (D := x_D X) (cy := x_y X) (p0 := (Int32.ofNat bn) - p1) (p1 := p2 - p1) h7) (As := [.int ((Int32.ofNat bn) - p1), .int (p2 - p1)]) (rest := [.int 0, .ref q3, .int p1, .ref ab]) (wr := (wB1 (x_y X) ab bn bb) ++ [(q3, .inl ((x_y X) 3, m4, .inl (fun _ => 0)))]) (ws' := fun _ => (wB1 (x_y X) ab bn bb) ++ [(q3, .inl ((x_y X) 3, m4, .inl (fun _ => 0)))]) (st' := fun _ => [.int v6, .int 0, .ref q3, .int p1, .ref ab]) 2 mw_3_22 mw_1_18 mw_4_39 mw_3_21 hd_J9_min_7cf53 rfl (g_rm hR rfl rfl) [] [0, 1] [0, 1] ⟨rfl, rfl, rfl, rfl, by decide, gRoIn_0, rfl, fun _ => rfl⟩ rfl (Nat.le_of_ble_eq_true rfl) dJ7_copyOfRangeByte_39247_24 (g_rc hR (Nat.le_of_ble_eq_true rfl) (Nat.le_of_ble_eq_true rfl)) (ck' := 1) (sk' := 80) rfl rfl (fun _ => rfl) (fun _ _ => ?_) (fun _ hx => absurd rfl hx)
  obtain ⟨c8, hf⟩ := gg_of hf
  obtain ⟨c9, hf⟩ := gg_of hf
  refine g_copyb C (ws' := (wB1 (x_y X) ab bn bb) ++ [(q3, .inl ((x_y X) 3, m4, .inl (va_cpy bb (fun _ => 0) (Int32.toNatClampNeg p1) (Int32.toNatClampNeg 0) (Int32.toNatClampNeg v6))))]) 0 1 mw_4_40 mw_1_237 mw_1_236 mw_1_24 rfl rfl c8 c9 (g_tn hR rfl rfl) rfl dJ7_copyOfRangeByte_39247_27 ?_
  refine g_aload C 0 dJ7_copyOfRangeByte_39247_30 rfl ?_
  refine g_eqw (ws' := (wB1 (x_y X) ab bn bb) ++ (wB1 (x_y X) q3 m4 (va_cpy bb (fun _ => 0) (Int32.toNatClampNeg p1) (Int32.toNatClampNeg 0) (Int32.toNatClampNeg v6)))) rfl ?_
  obtain rfl := Option.some.inj hf
  exact g_aret C E q3 dJ7_copyOfRangeByte_39247_32 (Or.inr ⟨_, rfl⟩) rfl rfl rfl (Nat.le_of_ble_eq_true rfl) (Nat.le_of_ble_eq_true rfl)
/-! J7_copyOfRange_39247 -/
theorem hd_J7_copyOfRange_39247 : yJ7_copyOfRange_39247.cls ≠ "java/lang/invoke/MethodHandle" ∧ yJ7_copyOfRange_39247.cls ≠ "java/lang/invoke/VarHandle" ∧ (parseMethodDescriptor yJ7_copyOfRange_39247.desc).map (fun d => d.parameters.length) = some 3 := by decide +kernel
def F_J7_copyOfRange_39247_L10 (bn : Nat) (bb : Nat → Int32) (p1 : Int32) (p2 : Int32)   : Option (Nat × (Nat → Int32)) := (F_J7_copyOfRangeByte_39247 bn bb p1 p2).bind fun v2 => some (v2.1, v2.2)
def F_J7_copyOfRange_39247 (bn : Nat) (bb : Nat → Int32) (p1 : Int32) (p2 : Int32) : Option (Nat × (Nat → Int32)) := if p1 = 0 then (if p2 = (Int32.ofNat bn) then (gg (gfb bb 0 bn) (gg (decide (bn ≤ 80)) (some (bn, bb)))) else (F_J7_copyOfRange_39247_L10 bn bb p1 p2)) else (F_J7_copyOfRange_39247_L10 bn bb p1 p2)
set_option maxRecDepth 100000 in
set_option maxHeartbeats 4000000 in
theorem c_J7_copyOfRange_39247 {l : Launch} {D : va_G} {cy : Nat → ClassId} {ab : Nat} {bn : Nat} {bb : Nat → Int32} {p1 : Int32} {p2 : Int32}  {val : Nat × (Nat → Int32)} (hf : F_J7_copyOfRange_39247 bn bb p1 p2 = some val) : gCt l D cy yJ7_copyOfRange_39247 cJ7_copyOfRange_39247 3 (some (.array .byte)) 2 54 1 80 [.ref ab, .int p1, .int p2] [] ((wB1 cy ab bn bb)) 0 (fun u : Nat => some (.ref u)) (fun u => (wB1 cy ab bn bb) ++ (wB1 cy u val.1 val.2)) := by
  refine g_begin (by decide +kernel) (Nat.le_of_ble_eq_true rfl) ?_
  intro X Q hl hR hD hy hro hn C hin E
  subst hl; subst hD; subst hy
  replace C : gC X "java/util/Arrays" cJ7_copyOfRange_39247 (some (.array .byte)) := C
  unfold F_J7_copyOfRange_39247 at hf
  have H10 :  F_J7_copyOfRange_39247_L10 bn bb p1 p2 = some val → gW X Q 0 0 ((wB1 (x_y X) ab bn bb)) [(0, .ref ab), (1, .int p1), (2, .int p2)] [] 10 := by
    intro hf
    unfold F_J7_copyOfRange_39247_L10 at hf
    refine g_aload_n C 0 dJ7_copyOfRange_39247_10 rfl ?_
    refine g_iload_n C 1 dJ7_copyOfRange_39247_11 rfl ?_
    refine g_iload_n C 2 dJ7_copyOfRange_39247_12 rfl ?_
    obtain ⟨v2, h3, hf⟩ := opt_bind hf
    refine g_callS C (c_J7_copyOfRangeByte_39247 (l := x_l X) (D := x_D X) (cy := x_y X) (ab := ab) (bn := bn) (bb := bb) (p1 := p1) (p2 := p2) h3) (As := [.ref ab, .int p1, .int p2]) (rest := []) (wr := []) (ws' := fun u4 => (wB1 (x_y X) ab bn bb) ++ (wB1 (x_y X) u4 v2.1 v2.2)) (st' := fun u4 => [.ref u4]) 3 mw_4_171 mw_1_23 mw_4_169 mw_4_170 hd_J7_copyOfRangeByte_39247 rfl (g_rm hR rfl rfl) [0] [] [0, 1] ⟨rfl, rfl, rfl, rfl, by decide, gRoIn_0, rfl, fun _ => rfl⟩ rfl (Nat.le_of_ble_eq_true rfl) dJ7_copyOfRange_39247_13 (g_rc hR (Nat.le_of_ble_eq_true rfl) (Nat.le_of_ble_eq_true rfl)) (ck' := 1) (sk' := 80) rfl rfl (fun _ => rfl) (fun u4 _ => ?_) (fun _ hx => absurd rfl hx)
    refine g_eqw (ws' := (wB1 (x_y X) ab bn bb) ++ (wB1 (x_y X) u4 v2.1 v2.2)) rfl ?_
    obtain rfl := Option.some.inj hf
    exact g_aret C E u4 dJ7_copyOfRange_39247_16 (Or.inr ⟨_, rfl⟩) rfl rfl rfl (Nat.le_of_ble_eq_true rfl) (Nat.le_of_ble_eq_true rfl)
  show gW X Q 0 0 ((wB1 (x_y X) ab bn bb)) [(0, .ref ab), (1, .int p1), (2, .int p2)] [] 0
  refine g_iload_n C 1 dJ7_copyOfRange_39247_0 rfl ?_
  refine g_if_ne C 10 dJ7_copyOfRange_39247_1 (by decide) (fun c1 => ?_) (fun c1 => ?_)
  · have hf := opt_neg c1 hf
    exact H10 hf
  · have hf := opt_pos c1 hf
    refine g_iload_n C 2 dJ7_copyOfRange_39247_4 rfl ?_
    refine g_aload_n C 0 dJ7_copyOfRange_39247_5 rfl ?_
    refine g_alen C 0 (t0 := 3) (v := Int32.ofNat bn) rfl rfl rfl dJ7_copyOfRange_39247_6 ?_
    refine g_icmp_eq C 17 dJ7_copyOfRange_39247_7 (by decide) (fun c5 => ?_) (fun c5 => ?_)
    · have hf := opt_pos c5 hf
      refine g_aload_n C 0 dJ7_copyOfRange_39247_17 rfl ?_
      obtain ⟨c7, hf⟩ := gg_of hf
      obtain ⟨c8, hf⟩ := gg_of hf
      refine g_clone C (B := 80) 0 mw_4_32 mw_4_34 mw_4_35 mw_4_36 rfl c7 (of_decide_eq_true c8) (g_tn hR rfl rfl) (g_rc hR (Nat.le_of_ble_eq_true rfl) (Nat.le_of_ble_eq_true rfl)) (ck' := 1) (sk' := 80) rfl rfl dJ7_copyOfRange_39247_18 (fun q6 => ?_)
      refine g_castB C 1 mw_4_38 rfl dJ7_copyOfRange_39247_21 ?_
      refine g_eqw (ws' := (wB1 (x_y X) ab bn bb) ++ (wB1 (x_y X) q6 bn bb)) rfl ?_
      obtain rfl := Option.some.inj hf
      exact g_aret C E q6 dJ7_copyOfRange_39247_24 (Or.inr ⟨_, rfl⟩) rfl rfl rfl (Nat.le_of_ble_eq_true rfl) (Nat.le_of_ble_eq_true rfl)
    · have hf := opt_neg c5 hf
      exact H10 hf
/-! J6_getChars_ba4f3 -/
theorem hd_J6_getChars_ba4f3 : yJ6_getChars_ba4f3.cls ≠ "java/lang/invoke/MethodHandle" ∧ yJ6_getChars_ba4f3.cls ≠ "java/lang/invoke/VarHandle" ∧ (parseMethodDescriptor yJ6_getChars_ba4f3.desc).map (fun d => d.parameters.length) = some 3 := by decide +kernel
def F_J6_getChars_ba4f3_L118   (bb_118 : Nat → Int32) (l5_118 : Int32) : Option (Int32 × (Nat → Int32)) := some (l5_118, bb_118)
def F_J6_getChars_ba4f3_L104 (bn : Nat)  (bb_104 : Nat → Int32) (l5_104 : Int32) (l6_104 : Int32) : Option (Int32 × (Nat → Int32)) := if l6_104 = 0 then (F_J6_getChars_ba4f3_L118 bb_104 l5_104) else (gg (gi (l5_104 + (-1)) bn) (gl (upd bb_104 (Int32.toNatClampNeg (l5_104 + (-1))) (vp_nar .byte 45)) fun f12 => F_J6_getChars_ba4f3_L118 f12 (l5_104 + (-1))))
def F_J6_getChars_ba4f3_L22 (bn : Nat)  : Nat → (Nat → Int32) → Int32 → Int32 → Int32 → Option (Int32 × (Nat → Int32))
  | 0, _, _, _, _ => none
  | n + 1, bb_22, l0_22, l5_22, l6_22 => if (-100) < l0_22 then (gg (gi (-l0_22) 100) (gg (gi (l5_22 + (-1)) bn) (gl (upd bb_22 (Int32.toNatClampNeg (l5_22 + (-1))) (vp_nar .byte (nI (48 + Int32.toNatClampNeg (-l0_22) % 10)))) fun f8 => if (-9) ≤ l0_22 then (F_J6_getChars_ba4f3_L104 bn f8 (l5_22 + (-1)) l6_22) else (gg (gi (-l0_22) 100) (gg (gi ((l5_22 + (-1)) + (-1)) bn) (gl (upd f8 (Int32.toNatClampNeg ((l5_22 + (-1)) + (-1))) (vp_nar .byte (nI (48 + Int32.toNatClampNeg (-l0_22) / 10)))) fun f17 => F_J6_getChars_ba4f3_L104 bn f17 ((l5_22 + (-1)) + (-1)) l6_22)))))) else (gl (((l0_22 / 100) * 100) - l0_22) fun x18 => gg (gi x18 100) (gg (gi (l5_22 + (-1)) bn) (gl (upd bb_22 (Int32.toNatClampNeg (l5_22 + (-1))) (vp_nar .byte (nI (48 + Int32.toNatClampNeg x18 % 10)))) fun f23 => gg (gi x18 100) (gg (gi ((l5_22 + (-1)) + (-1)) bn) (gl (upd f23 (Int32.toNatClampNeg ((l5_22 + (-1)) + (-1))) (vp_nar .byte (nI (48 + Int32.toNatClampNeg x18 / 10)))) fun f28 => F_J6_getChars_ba4f3_L22 bn n f28 (l0_22 / 100) ((l5_22 + (-1)) + (-1)) l6_22)))))
def F_J6_getChars_ba4f3_L12 (bn : Nat)  (bb_12 : Nat → Int32) (l0_12 : Int32) (l5_12 : Int32) (s0_12 : Int32) : Option (Int32 × (Nat → Int32)) := if s0_12 = 0 then (F_J6_getChars_ba4f3_L22 bn 1000 bb_12 (-l0_12) l5_12 s0_12) else (F_J6_getChars_ba4f3_L22 bn 1000 bb_12 l0_12 l5_12 s0_12)
def F_J6_getChars_ba4f3 (bn : Nat) (bb : Nat → Int32) (p0 : Int32) (p1 : Int32) : Option (Int32 × (Nat → Int32)) := if 0 ≤ p0 then (F_J6_getChars_ba4f3_L12 bn bb p0 p1 0) else (F_J6_getChars_ba4f3_L12 bn bb p0 p1 1)
set_option maxRecDepth 100000 in
set_option maxHeartbeats 4000000 in
theorem c_J6_getChars_ba4f3 {l : Launch} {D : va_G} {cy : Nat → ClassId} {ab : Nat} {bn : Nat} {bb : Nat → Int32} {p0 : Int32} {p1 : Int32}  {val : Int32 × (Nat → Int32)} (hf : F_J6_getChars_ba4f3 bn bb p0 p1 = some val) : gCt l D cy yJ6_getChars_ba4f3 cJ6_getChars_ba4f3 7 (some .int) 0 0 0 0 [.int p0, .int p1, .ref ab] [] ((wB1 cy ab bn bb)) 0 (fun _ : Unit => some (.int val.1)) (fun _ => (wB1 cy ab bn val.2)) := by
  refine g_begin (by decide +kernel) (Nat.le_of_ble_eq_true rfl) ?_
  intro X Q hl hR hD hy hro hn C hin E
  subst hl; subst hD; subst hy
  replace C : gC X "java/lang/Integer" cJ6_getChars_ba4f3 (some .int) := C
  unfold F_J6_getChars_ba4f3 at hf
  have H118 : ∀ (bb_118 : Nat → Int32) (l5_118 : Int32), F_J6_getChars_ba4f3_L118 bb_118 l5_118 = some val → gW X Q 0 0 ((wB1 (x_y X) ab bn bb_118)) [(1, .int p1), (2, .ref ab), (5, .int l5_118)] [] 118 := by
    intro bb_118 l5_118 hf
    unfold F_J6_getChars_ba4f3_L118 at hf
    refine g_iload C 2 dJ6_getChars_ba4f3_118 rfl ?_
    refine g_eqw (ws' := (wB1 (x_y X) ab bn bb_118)) rfl ?_
    obtain rfl := Option.some.inj hf
    exact g_iret C E () dJ6_getChars_ba4f3_120 rfl rfl rfl (Nat.le_of_ble_eq_true rfl) (Nat.le_of_ble_eq_true rfl)
  have H104 : ∀ (bb_104 : Nat → Int32) (l5_104 : Int32) (l6_104 : Int32), F_J6_getChars_ba4f3_L104 bn bb_104 l5_104 l6_104 = some val → gW X Q 0 0 ((wB1 (x_y X) ab bn bb_104)) [(1, .int p1), (2, .ref ab), (5, .int l5_104), (6, .int l6_104)] [] 104 := by
    intro bb_104 l5_104 l6_104 hf
    unfold F_J6_getChars_ba4f3_L104 at hf
    refine g_iload C 3 dJ6_getChars_ba4f3_104 rfl ?_
    refine g_if_eq C 118 dJ6_getChars_ba4f3_106 (by decide) (fun c10 => ?_) (fun c10 => ?_)
    · have hf := opt_pos c10 hf
      refine gW.locals [0, 1, 2] rfl ?_
      exact H118 bb_104 l5_104 hf
    · have hf := opt_neg c10 hf
      refine g_aload_n C 1 dJ6_getChars_ba4f3_109 rfl ?_
      refine g_iinc C 2 (v := l5_104 + (-1)) (lv' := [(5, .int (l5_104 + (-1))), (1, .int p1), (2, .ref ab), (6, .int l6_104)]) dJ6_getChars_ba4f3_110 rfl rfl (g_nlt hn rfl) rfl ?_
      refine g_iload C 0 dJ6_getChars_ba4f3_113 rfl ?_
      refine g_bipush C (v := 45) dJ6_getChars_ba4f3_115 (by decide) ?_
      obtain ⟨c11, hf⟩ := gg_of hf
      obtain ⟨f12, ef12, hf⟩ := opt_let hf
      refine g_bast C (ws' := (wB1 (x_y X) ab bn f12)) 0 rfl (gi_in c11) (by rw [ef12]; rfl) dJ6_getChars_ba4f3_117 ?_
      refine gW.locals [1, 2, 0] rfl ?_
      exact H118 f12 (l5_104 + (-1)) hf
  have H22 : ∀ (n22 : Nat), ∀ (bb_22 : Nat → Int32) (l0_22 : Int32) (l5_22 : Int32) (l6_22 : Int32), F_J6_getChars_ba4f3_L22 bn n22 bb_22 l0_22 l5_22 l6_22 = some val → gW X Q 0 0 ((wB1 (x_y X) ab bn bb_22)) [(0, .int l0_22), (1, .int p1), (2, .ref ab), (5, .int l5_22), (6, .int l6_22)] [] 22 := by
    intro n22
    induction n22 with
    | zero => intros; rename_i hf; cases hf
    | succ n22 ih =>
      intro bb_22 l0_22 l5_22 l6_22 hf
      have H22 := ih
      rw [F_J6_getChars_ba4f3_L22] at hf
      refine g_iload_n C 0 dJ6_getChars_ba4f3_22 rfl ?_
      refine g_bipush C (v := (-100)) dJ6_getChars_ba4f3_23 (by decide) ?_
      refine g_icmp_gt C 72 dJ6_getChars_ba4f3_25 (by decide) (fun c3 => ?_) (fun c3 => ?_)
      · have hf := opt_pos c3 hf
        refine g_aload_n C 2 dJ6_getChars_ba4f3_72 rfl ?_
        refine g_iinc C 3 (v := l5_22 + (-1)) (lv' := [(5, .int (l5_22 + (-1))), (0, .int l0_22), (1, .int p1), (2, .ref ab), (6, .int l6_22)]) dJ6_getChars_ba4f3_73 rfl rfl (g_nlt hn rfl) rfl ?_
        refine g_iload C 0 dJ6_getChars_ba4f3_76 rfl ?_
        refine g_getO C mw_4_128 rfl dJ6_getChars_ba4f3_78 (fun t4 h5 => ?_)
        refine g_iload_n C 1 dJ6_getChars_ba4f3_81 rfl ?_
        refine g_ineg C dJ6_getChars_ba4f3_82 ?_
        obtain ⟨c6, hf⟩ := gg_of hf
        refine g_digld C h5 (gi_in c6) dJ6_getChars_ba4f3_83 ?_
        obtain ⟨c7, hf⟩ := gg_of hf
        obtain ⟨f8, ef8, hf⟩ := opt_let hf
        refine g_bast C (ws' := (wB1 (x_y X) ab bn f8)) 0 rfl (gi_in c7) (by rw [ef8]; rfl) dJ6_getChars_ba4f3_84 ?_
        refine g_iload_n C 1 dJ6_getChars_ba4f3_85 rfl ?_
        refine g_bipush C (v := (-9)) dJ6_getChars_ba4f3_86 (by decide) ?_
        refine g_icmp_ge C 104 dJ6_getChars_ba4f3_88 (by decide) (fun c9 => ?_) (fun c9 => ?_)
        · have hf := opt_pos c9 hf
          refine gW.locals [2, 3, 0, 4] rfl ?_
          exact H104 f8 (l5_22 + (-1)) l6_22 hf
        · have hf := opt_neg c9 hf
          refine g_aload_n C 3 dJ6_getChars_ba4f3_91 rfl ?_
          refine g_iinc C 0 (v := (l5_22 + (-1)) + (-1)) (lv' := [(5, .int ((l5_22 + (-1)) + (-1))), (0, .int l0_22), (1, .int p1), (2, .ref ab), (6, .int l6_22)]) dJ6_getChars_ba4f3_92 rfl rfl (g_nlt hn rfl) rfl ?_
          refine g_iload C 0 dJ6_getChars_ba4f3_95 rfl ?_
          refine g_getT C mw_4_130 rfl dJ6_getChars_ba4f3_97 (fun t13 h14 => ?_)
          refine g_iload_n C 1 dJ6_getChars_ba4f3_100 rfl ?_
          refine g_ineg C dJ6_getChars_ba4f3_101 ?_
          obtain ⟨c15, hf⟩ := gg_of hf
          refine g_digld C h14 (gi_in c15) dJ6_getChars_ba4f3_102 ?_
          obtain ⟨c16, hf⟩ := gg_of hf
          obtain ⟨f17, ef17, hf⟩ := opt_let hf
          refine g_bast C (ws' := (wB1 (x_y X) ab bn f17)) 0 rfl (gi_in c16) (by rw [ef17]; rfl) dJ6_getChars_ba4f3_103 ?_
          refine gW.locals [2, 3, 0, 4] rfl ?_
          exact H104 f17 ((l5_22 + (-1)) + (-1)) l6_22 hf
      · have hf := opt_neg c3 hf
        refine g_iload_n C 0 dJ6_getChars_ba4f3_28 rfl ?_
        refine g_bipush C (v := 100) dJ6_getChars_ba4f3_29 (by decide) ?_
        refine g_idiv C dJ6_getChars_ba4f3_31 (by decide) ?_
        refine g_istore_n C (lv' := [(3, .int (l0_22 / 100)), (0, .int l0_22), (1, .int p1), (2, .ref ab), (5, .int l5_22), (6, .int l6_22)]) dJ6_getChars_ba4f3_32 (g_nlt hn rfl) rfl ?_
        refine g_iload_n C 0 dJ6_getChars_ba4f3_33 rfl ?_
        refine g_bipush C (v := 100) dJ6_getChars_ba4f3_34 (by decide) ?_
        refine g_imul C dJ6_getChars_ba4f3_36 ?_
        refine g_iload_n C 1 dJ6_getChars_ba4f3_37 rfl ?_
        refine g_isub C dJ6_getChars_ba4f3_38 ?_
        obtain ⟨x18, ex18, hf⟩ := opt_let hf
        refine g_topi ex18 ?_
        refine g_istore C (lv' := [(4, .int x18), (3, .int (l0_22 / 100)), (0, .int l0_22), (1, .int p1), (2, .ref ab), (5, .int l5_22), (6, .int l6_22)]) dJ6_getChars_ba4f3_39 (g_nlt hn rfl) rfl ?_
        refine g_iload_n C 1 dJ6_getChars_ba4f3_41 rfl ?_
        refine g_istore_n C (lv' := [(0, .int (l0_22 / 100)), (4, .int x18), (3, .int (l0_22 / 100)), (1, .int p1), (2, .ref ab), (5, .int l5_22), (6, .int l6_22)]) dJ6_getChars_ba4f3_42 (g_nlt hn rfl) rfl ?_
        refine g_aload_n C 4 dJ6_getChars_ba4f3_43 rfl ?_
        refine g_iinc C 5 (v := l5_22 + (-1)) (lv' := [(5, .int (l5_22 + (-1))), (0, .int (l0_22 / 100)), (4, .int x18), (3, .int (l0_22 / 100)), (1, .int p1), (2, .ref ab), (6, .int l6_22)]) dJ6_getChars_ba4f3_44 rfl rfl (g_nlt hn rfl) rfl ?_
        refine g_iload C 0 dJ6_getChars_ba4f3_47 rfl ?_
        refine g_getO C mw_4_128 rfl dJ6_getChars_ba4f3_49 (fun t19 h20 => ?_)
        refine g_iload C 2 dJ6_getChars_ba4f3_52 rfl ?_
        obtain ⟨c21, hf⟩ := gg_of hf
        refine g_digld C h20 (gi_in c21) dJ6_getChars_ba4f3_54 ?_
        obtain ⟨c22, hf⟩ := gg_of hf
        obtain ⟨f23, ef23, hf⟩ := opt_let hf
        refine g_bast C (ws' := (wB1 (x_y X) ab bn f23)) 0 rfl (gi_in c22) (by rw [ef23]; rfl) dJ6_getChars_ba4f3_55 ?_
        refine g_aload_n C 5 dJ6_getChars_ba4f3_56 rfl ?_
        refine g_iinc C 0 (v := (l5_22 + (-1)) + (-1)) (lv' := [(5, .int ((l5_22 + (-1)) + (-1))), (0, .int (l0_22 / 100)), (4, .int x18), (3, .int (l0_22 / 100)), (1, .int p1), (2, .ref ab), (6, .int l6_22)]) dJ6_getChars_ba4f3_57 rfl rfl (g_nlt hn rfl) rfl ?_
        refine g_iload C 0 dJ6_getChars_ba4f3_60 rfl ?_
        refine g_getT C mw_4_130 rfl dJ6_getChars_ba4f3_62 (fun t24 h25 => ?_)
        refine g_iload C 2 dJ6_getChars_ba4f3_65 rfl ?_
        obtain ⟨c26, hf⟩ := gg_of hf
        refine g_digld C h25 (gi_in c26) dJ6_getChars_ba4f3_67 ?_
        obtain ⟨c27, hf⟩ := gg_of hf
        obtain ⟨f28, ef28, hf⟩ := opt_let hf
        refine g_bast C (ws' := (wB1 (x_y X) ab bn f28)) 0 rfl (gi_in c27) (by rw [ef28]; rfl) dJ6_getChars_ba4f3_68 ?_
        refine g_goto C 22 dJ6_getChars_ba4f3_69 (by decide) ?_
        refine gW.locals [1, 4, 5, 0, 6] rfl ?_
        exact H22 f28 (l0_22 / 100) ((l5_22 + (-1)) + (-1)) l6_22 hf
  have H12 : ∀ (bb_12 : Nat → Int32) (l0_12 : Int32) (l5_12 : Int32) (s0_12 : Int32), F_J6_getChars_ba4f3_L12 bn bb_12 l0_12 l5_12 s0_12 = some val → gW X Q 0 0 ((wB1 (x_y X) ab bn bb_12)) [(0, .int l0_12), (1, .int p1), (2, .ref ab), (5, .int l5_12)] [.int s0_12] 12 := by
    intro bb_12 l0_12 l5_12 s0_12 hf
    unfold F_J6_getChars_ba4f3_L12 at hf
    refine g_istore C (lv' := [(6, .int s0_12), (0, .int l0_12), (1, .int p1), (2, .ref ab), (5, .int l5_12)]) dJ6_getChars_ba4f3_12 (g_nlt hn rfl) rfl ?_
    refine g_iload C 0 dJ6_getChars_ba4f3_14 rfl ?_
    refine g_if_ne C 22 dJ6_getChars_ba4f3_16 (by decide) (fun c2 => ?_) (fun c2 => ?_)
    · have hf := opt_neg c2 hf
      refine gW.locals [1, 2, 3, 4, 0] rfl ?_
      exact H22 1000 bb_12 l0_12 l5_12 s0_12 hf
    · have hf := opt_pos c2 hf
      refine g_iload_n C 1 dJ6_getChars_ba4f3_19 rfl ?_
      refine g_ineg C dJ6_getChars_ba4f3_20 ?_
      refine g_istore_n C (lv' := [(0, .int (-l0_12)), (6, .int s0_12), (1, .int p1), (2, .ref ab), (5, .int l5_12)]) dJ6_getChars_ba4f3_21 (g_nlt hn rfl) rfl ?_
      refine gW.locals [0, 2, 3, 4, 1] rfl ?_
      exact H22 1000 bb_12 (-l0_12) l5_12 s0_12 hf
  show gW X Q 0 0 ((wB1 (x_y X) ab bn bb)) [(0, .int p0), (1, .int p1), (2, .ref ab)] [] 0
  refine g_iload_n C 1 dJ6_getChars_ba4f3_0 rfl ?_
  refine g_istore C (lv' := [(5, .int p1), (0, .int p0), (1, .int p1), (2, .ref ab)]) dJ6_getChars_ba4f3_1 (g_nlt hn rfl) rfl ?_
  refine g_iload_n C 1 dJ6_getChars_ba4f3_3 rfl ?_
  refine g_if_ge C 11 dJ6_getChars_ba4f3_4 (by decide) (fun c1 => ?_) (fun c1 => ?_)
  · have hf := opt_pos c1 hf
    refine g_iconst C (v := 0) dJ6_getChars_ba4f3_11 (by decide) ?_
    refine gW.locals [1, 2, 3, 0] rfl ?_
    exact H12 bb p0 p1 0 hf
  · have hf := opt_neg c1 hf
    refine g_iconst C (v := 1) dJ6_getChars_ba4f3_7 (by decide) ?_
    refine g_goto C 12 dJ6_getChars_ba4f3_8 (by decide) ?_
    refine gW.locals [1, 2, 3, 0] rfl ?_
    exact H12 bb p0 p1 1 hf
/-! J5_ensureCapacityInternal_d00df -/
theorem hd_J5_ensureCapacityInternal_d00df : yJ5_ensureCapacityInternal_d00df.cls ≠ "java/lang/invoke/MethodHandle" ∧ yJ5_ensureCapacityInternal_d00df.cls ≠ "java/lang/invoke/VarHandle" ∧ (parseMethodDescriptor yJ5_ensureCapacityInternal_d00df.desc).map (fun d => d.parameters.length) = some 1 := by decide +kernel
def F_J5_ensureCapacityInternal_d00df_L38   (cap_38 : Nat) (bs_38 : Nat → Int32) : Option (Nat × (Nat → Int32)) := some (cap_38, bs_38)
def F_J5_ensureCapacityInternal_d00df (cap : Nat) (bs : Nat → Int32) (p0 : Int32) : Option (Nat × (Nat → Int32)) := gl ((Int32.ofNat cap) >>> (0 &&& 31)) fun x1 => if (p0 - x1) ≤ 0 then (F_J5_ensureCapacityInternal_d00df_L38 cap bs) else ((F_J5_newCapacity_0f7a4 cap p0).bind fun v3 => (F_J7_copyOf_9075b cap bs (v3 <<< (0 &&& 31))).bind fun v5 => F_J5_ensureCapacityInternal_d00df_L38 v5.1 v5.2)
set_option maxRecDepth 100000 in
set_option maxHeartbeats 4000000 in
theorem c_J5_ensureCapacityInternal_d00df {l : Launch} {D : va_G} {cy : Nat → ClassId} {sb sy : Nat} {ml : Int32} {n : Int32} {cap : Nat} {bs : Nat → Int32} {p0 : Int32}  {val : Nat × (Nat → Int32)} (hf : F_J5_ensureCapacityInternal_d00df cap bs p0 = some val) : gCt l D cy yJ5_ensureCapacityInternal_d00df cJ5_ensureCapacityInternal_d00df 3 none 3 69 1 80 [.ref sb, .int p0] [] ((wSb cy sb sy ml n cap bs)) 0 (fun u : Nat => none) (fun u => (wSb cy sb u ml n val.1 val.2)) := by
  refine g_begin (by decide +kernel) (Nat.le_of_ble_eq_true rfl) ?_
  intro X Q hl hR hD hy hro hn C hin E
  subst hl; subst hD; subst hy
  replace C : gC X "java/lang/AbstractStringBuilder" cJ5_ensureCapacityInternal_d00df none := C
  unfold F_J5_ensureCapacityInternal_d00df at hf
  have H38 : ∀ (a0_1_38 : Nat) (cap_38 : Nat) (bs_38 : Nat → Int32), F_J5_ensureCapacityInternal_d00df_L38 cap_38 bs_38 = some val → gW X Q 1 80 ((wSb (x_y X) sb a0_1_38 ml n cap_38 bs_38)) [(0, .ref sb), (1, .int p0)] [] 38 := by
    intro a0_1_38 cap_38 bs_38 hf
    unfold F_J5_ensureCapacityInternal_d00df_L38 at hf
    refine g_eqw (ws' := (wSb (x_y X) sb a0_1_38 ml n cap_38 bs_38)) rfl ?_
    obtain rfl := Option.some.inj hf
    exact g_vret C E a0_1_38 dJ5_ensureCapacityInternal_d00df_38 rfl rfl rfl (Nat.le_of_ble_eq_true rfl) (Nat.le_of_ble_eq_true rfl)
  show gW X Q 0 0 ((wSb (x_y X) sb sy ml n cap bs)) [(0, .ref sb), (1, .int p0)] [] 0
  refine g_aload_n C 0 dJ5_ensureCapacityInternal_d00df_0 rfl ?_
  refine g_get C 0 0 rfl rfl wiJ4 (by decide) mw_1_137 rfl rfl dJ5_ensureCapacityInternal_d00df_1 ?_
  refine g_alen C 1 (t0 := 3) (v := Int32.ofNat cap) rfl rfl rfl dJ5_ensureCapacityInternal_d00df_4 ?_
  refine g_aload_n C 0 dJ5_ensureCapacityInternal_d00df_5 rfl ?_
  refine g_get C 0 1 rfl rfl wiJ4 (by decide) mw_1_138 rfl rfl dJ5_ensureCapacityInternal_d00df_6 ?_
  refine g_ishr C dJ5_ensureCapacityInternal_d00df_9 ?_
  obtain ⟨x1, ex1, hf⟩ := opt_let hf
  refine g_topi ex1 ?_
  refine g_istore_n C (lv' := [(2, .int x1), (0, .ref sb), (1, .int p0)]) dJ5_ensureCapacityInternal_d00df_10 (g_nlt hn rfl) rfl ?_
  refine g_iload_n C 2 dJ5_ensureCapacityInternal_d00df_11 rfl ?_
  refine g_iload_n C 0 dJ5_ensureCapacityInternal_d00df_12 rfl ?_
  refine g_isub C dJ5_ensureCapacityInternal_d00df_13 ?_
  refine g_if_le C 38 dJ5_ensureCapacityInternal_d00df_14 (by decide) (fun c2 => ?_) (fun c2 => ?_)
  · have hf := opt_pos c2 hf
    refine gW.locals [1, 2] rfl ?_
    refine g_wide (ck' := 1) (sk' := 80) (Nat.le_of_ble_eq_true rfl) (Nat.le_of_ble_eq_true rfl) ?_
    exact H38 sy cap bs hf
  · have hf := opt_neg c2 hf
    refine g_aload_n C 1 dJ5_ensureCapacityInternal_d00df_17 rfl ?_
    refine g_aload_n C 1 dJ5_ensureCapacityInternal_d00df_18 rfl ?_
    refine g_get C 0 0 rfl rfl wiJ4 (by decide) mw_1_137 rfl rfl dJ5_ensureCapacityInternal_d00df_19 ?_
    refine g_aload_n C 1 dJ5_ensureCapacityInternal_d00df_22 rfl ?_
    refine g_iload_n C 2 dJ5_ensureCapacityInternal_d00df_23 rfl ?_
    obtain ⟨v3, h4, hf⟩ := opt_bind hf
    refine g_callW C (c_J5_newCapacity_0f7a4 (l := x_l X) (D := x_D X) (cy := x_y X) (sb := sb) (sy := sy) (ml := ml) (n := n) (cap := cap) (bs := bs) (p0 := p0) h4) (As := [.int p0]) (rest := [.ref sy, .ref sb]) (wr := (wSb (x_y X) sb sy ml n cap bs)) (ws' := fun _ => (wSb (x_y X) sb sy ml n cap bs)) (st' := fun _ => [.int v3, .ref sy, .ref sb]) (ci := 1) 1 0 ⟨_, rfl⟩ rfl mw_4_17 mw_1_4 mw_4_14 mw_4_16 mx_1 hd_J5_newCapacity_0f7a4 rfl (g_rm hR rfl rfl) [] [0, 1] [0, 1] ⟨rfl, rfl, rfl, rfl, by decide, gRoIn_p [0, 1] rfl (by decide), rfl, fun _ => rfl⟩ rfl (Nat.le_of_ble_eq_true rfl) dJ5_ensureCapacityInternal_d00df_24 (g_rc hR (Nat.le_of_ble_eq_true rfl) (Nat.le_of_ble_eq_true rfl)) (ck' := 0) (sk' := 0) rfl rfl (fun _ => rfl) (fun _ _ => ?_) (fun _ hx => absurd rfl hx)
    refine g_aload_n C 1 dJ5_ensureCapacityInternal_d00df_27 rfl ?_
    refine g_get C 0 1 rfl rfl wiJ4 (by decide) mw_1_138 rfl rfl dJ5_ensureCapacityInternal_d00df_28 ?_
    refine g_ishl C dJ5_ensureCapacityInternal_d00df_31 ?_
    obtain ⟨v5, h6, hf⟩ := opt_bind hf
    refine g_callS C (c_J7_copyOf_9075b (l := x_l X) (D := x_D X) (cy := x_y X) (ab := sy) (bn := cap) (bb := bs) (p1 := v3 <<< (0 &&& 31)) h6) (As := [.ref sy, .int (v3 <<< (0 &&& 31))]) (rest := [.ref sb]) (wr := [(sb, .inr (1, [.ref sy, .int 0, .int ml, .int n]))]) (ws' := fun u7 => (wSb (x_y X) sb sy ml n cap bs) ++ (wB1 (x_y X) u7 v5.1 v5.2)) (st' := fun u7 => [.ref u7, .ref sb]) 2 mw_4_31 mw_1_23 mw_4_29 mw_4_30 hd_J7_copyOf_9075b rfl (g_rm hR rfl rfl) [1] [0] [0, 1, 2] ⟨rfl, rfl, rfl, rfl, by decide, gRoIn_0, rfl, fun _ => rfl⟩ rfl (Nat.le_of_ble_eq_true rfl) dJ5_ensureCapacityInternal_d00df_32 (g_rc hR (Nat.le_of_ble_eq_true rfl) (Nat.le_of_ble_eq_true rfl)) (ck' := 1) (sk' := 80) rfl rfl (fun _ => rfl) (fun u7 _ => ?_) (fun _ hx => absurd rfl hx)
    refine g_put C 0 0 rfl rfl wiJ4 (by decide) tyJ4_ok nmJ4 mw_1_137 rfl rfl rfl rfl (Nat.le_of_ble_eq_true rfl) rfl dJ5_ensureCapacityInternal_d00df_35 ?_
    refine g_sub [0, 2] (ws' := (wSb (x_y X) sb u7 ml n v5.1 v5.2)) (by decide) rfl ?_
    refine gW.locals [1, 2] rfl ?_
    exact H38 u7 v5.1 v5.2 hf
/-! J5_append_3fe6f -/
theorem hd_J5_append_3fe6f : yJ5_append_3fe6f.cls ≠ "java/lang/invoke/MethodHandle" ∧ yJ5_append_3fe6f.cls ≠ "java/lang/invoke/VarHandle" ∧ (parseMethodDescriptor yJ5_append_3fe6f.desc).map (fun d => d.parameters.length) = some 1 := by decide +kernel
def F_J5_append_3fe6f_L56   (n_56 : Int32) (cap_56 : Nat) (bs_56 : Nat → Int32) : Option (Int32 × Nat × (Nat → Int32)) := none
def F_J5_append_3fe6f_L45   (n_45 : Int32) (cap_45 : Nat) (bs_45 : Nat → Int32) : Option (Int32 × Nat × (Nat → Int32)) := (F_J5_isLatin1_aae02 ).bind fun v7 => if v7 = 0 then (F_J5_append_3fe6f_L56 n_45 cap_45 bs_45) else (none)
def F_J5_append_3fe6f_L75   (n_75 : Int32) (cap_75 : Nat) (bs_75 : Nat → Int32) : Option (Int32 × Nat × (Nat → Int32)) := some (n_75, cap_75, bs_75)
def F_J5_append_3fe6f (n : Int32) (cap : Nat) (bs : Nat → Int32) (p0 : Int32) : Option (Int32 × Nat × (Nat → Int32)) := (F_J5_ensureCapacityInternal_d00df cap bs (n + 1)).bind fun v1 => (F_J5_isLatin1_aae02 ).bind fun v4 => if v4 = 0 then (F_J5_append_3fe6f_L45 n v1.1 v1.2) else ((F_J1_canEncode_fc78d p0).bind fun v10 => if v10 = 0 then (F_J5_append_3fe6f_L45 n v1.1 v1.2) else (gg (gi n v1.1) (gl (upd v1.2 (Int32.toNatClampNeg n) (vp_nar .byte ((Int32.toInt8 p0).toInt32))) fun f14 => F_J5_append_3fe6f_L75 (n + 1) v1.1 f14)))
set_option maxRecDepth 100000 in
set_option maxHeartbeats 4000000 in
theorem c_J5_append_3fe6f {l : Launch} {D : va_G} {cy : Nat → ClassId} {sb sy : Nat} {ml : Int32} {n : Int32} {cap : Nat} {bs : Nat → Int32} {p0 : Int32}  {val : Int32 × Nat × (Nat → Int32)} (hf : F_J5_append_3fe6f n cap bs p0 = some val) : gCt l D cy yJ5_append_3fe6f cJ5_append_3fe6f 2 (some (.object "java/lang/AbstractStringBuilder")) 4 91 1 80 [.ref sb, .int p0] [] ((wSb cy sb sy ml n cap bs)) 0 (fun u : Nat => some (.ref sb)) (fun u => (wSb cy sb u ml val.1 val.2.1 val.2.2)) := by
  refine g_begin (by decide +kernel) (Nat.le_of_ble_eq_true rfl) ?_
  intro X Q hl hR hD hy hro hn C hin E
  subst hl; subst hD; subst hy
  replace C : gC X "java/lang/AbstractStringBuilder" cJ5_append_3fe6f (some (.object "java/lang/AbstractStringBuilder")) := C
  unfold F_J5_append_3fe6f at hf
  have H56 : ∀ (a0_1_56 : Nat) (n_56 : Int32) (cap_56 : Nat) (bs_56 : Nat → Int32), F_J5_append_3fe6f_L56 n_56 cap_56 bs_56 = some val → gW X Q 1 80 ((wSb (x_y X) sb a0_1_56 ml n_56 cap_56 bs_56)) [(0, .ref sb), (1, .int p0)] [] 56 := by
    intro a0_1_56 n_56 cap_56 bs_56 hf
    unfold F_J5_append_3fe6f_L56 at hf
    refine g_aload_n C 0 dJ5_append_3fe6f_56 rfl ?_
    refine g_get C 0 0 rfl rfl wiJ4 (by decide) mw_1_137 rfl rfl dJ5_append_3fe6f_57 ?_
    refine g_aload_n C 0 dJ5_append_3fe6f_60 rfl ?_
    refine g_dup C dJ5_append_3fe6f_61 rfl ?_
    refine g_get C 0 3 rfl rfl wiJ4 (by decide) mw_1_141 rfl rfl dJ5_append_3fe6f_62 ?_
    refine g_dup_x1 C dJ5_append_3fe6f_65 rfl rfl ?_
    refine g_iconst C (v := 1) dJ5_append_3fe6f_66 (by decide) ?_
    refine g_iadd C dJ5_append_3fe6f_67 ?_
    refine g_put C (ws' := (wSb (x_y X) sb a0_1_56 ml (n_56 + 1) cap_56 bs_56)) 0 3 rfl rfl wiJ4 (by decide) tyJ4_ok nmJ4 mw_1_141 rfl rfl rfl rfl (Nat.le_of_ble_eq_true rfl) rfl dJ5_append_3fe6f_68 ?_
    refine g_iload_n C 1 dJ5_append_3fe6f_71 rfl ?_
    cases hf
  have H45 : ∀ (a0_1_45 : Nat) (n_45 : Int32) (cap_45 : Nat) (bs_45 : Nat → Int32), F_J5_append_3fe6f_L45 n_45 cap_45 bs_45 = some val → gW X Q 1 80 ((wSb (x_y X) sb a0_1_45 ml n_45 cap_45 bs_45)) [(0, .ref sb), (1, .int p0)] [] 45 := by
    intro a0_1_45 n_45 cap_45 bs_45 hf
    unfold F_J5_append_3fe6f_L45 at hf
    refine g_aload_n C 0 dJ5_append_3fe6f_45 rfl ?_
    obtain ⟨v7, h8, hf⟩ := opt_bind hf
    refine g_callW C (c_J5_isLatin1_aae02 (l := x_l X) (D := x_D X) (cy := x_y X) (sb := sb) (sy := a0_1_45) (ml := ml) (n := n_45) (cap := cap_45) (bs := bs_45) h8) (As := []) (rest := []) (wr := (wSb (x_y X) sb a0_1_45 ml n_45 cap_45 bs_45)) (ws' := fun _ => (wSb (x_y X) sb a0_1_45 ml n_45 cap_45 bs_45)) (st' := fun _ => [.int v7]) (ci := 1) 0 0 ⟨_, rfl⟩ rfl mw_4_45 mw_1_4 mw_4_41 mw_4_42 mw_4_44 hd_J5_isLatin1_aae02 rfl (g_rm hR rfl rfl) [] [0, 1] [0, 1] ⟨rfl, rfl, rfl, rfl, by decide, gRoIn_p [0, 1] rfl (by decide), rfl, fun _ => rfl⟩ rfl (Nat.le_of_ble_eq_true rfl) dJ5_append_3fe6f_46 (g_rc hR (Nat.le_of_ble_eq_true rfl) (Nat.le_of_ble_eq_true rfl)) (ck' := 1) (sk' := 80) rfl rfl (fun _ => rfl) (fun _ _ => ?_) (fun _ hx => absurd rfl hx)
    refine g_if_eq C 56 dJ5_append_3fe6f_49 (by decide) (fun c9 => ?_) (fun c9 => ?_)
    · have hf := opt_pos c9 hf
      exact H56 a0_1_45 n_45 cap_45 bs_45 hf
    · have hf := opt_neg c9 hf
      refine g_aload_n C 0 dJ5_append_3fe6f_52 rfl ?_
      cases hf
  have H75 : ∀ (a0_1_75 : Nat) (n_75 : Int32) (cap_75 : Nat) (bs_75 : Nat → Int32), F_J5_append_3fe6f_L75 n_75 cap_75 bs_75 = some val → gW X Q 1 80 ((wSb (x_y X) sb a0_1_75 ml n_75 cap_75 bs_75)) [(0, .ref sb), (1, .int p0)] [] 75 := by
    intro a0_1_75 n_75 cap_75 bs_75 hf
    unfold F_J5_append_3fe6f_L75 at hf
    refine g_aload_n C 0 dJ5_append_3fe6f_75 rfl ?_
    refine g_eqw (ws' := (wSb (x_y X) sb a0_1_75 ml n_75 cap_75 bs_75)) rfl ?_
    obtain rfl := Option.some.inj hf
    exact g_aret C E a0_1_75 dJ5_append_3fe6f_76 (Or.inl ⟨_, rfl⟩) rfl rfl rfl (Nat.le_of_ble_eq_true rfl) (Nat.le_of_ble_eq_true rfl)
  show gW X Q 0 0 ((wSb (x_y X) sb sy ml n cap bs)) [(0, .ref sb), (1, .int p0)] [] 0
  refine g_aload_n C 0 dJ5_append_3fe6f_0 rfl ?_
  refine g_aload_n C 0 dJ5_append_3fe6f_1 rfl ?_
  refine g_get C 0 3 rfl rfl wiJ4 (by decide) mw_1_141 rfl rfl dJ5_append_3fe6f_2 ?_
  refine g_iconst C (v := 1) dJ5_append_3fe6f_5 (by decide) ?_
  refine g_iadd C dJ5_append_3fe6f_6 ?_
  obtain ⟨v1, h2, hf⟩ := opt_bind hf
  refine g_callW C (c_J5_ensureCapacityInternal_d00df (l := x_l X) (D := x_D X) (cy := x_y X) (sb := sb) (sy := sy) (ml := ml) (n := n) (cap := cap) (bs := bs) (p0 := n + 1) h2) (As := [.int (n + 1)]) (rest := []) (wr := []) (ws' := fun u3 => (wSb (x_y X) sb u3 ml n v1.1 v1.2)) (st' := fun u3 => []) (ci := 1) 1 0 ⟨_, rfl⟩ rfl mw_4_13 mw_1_4 mw_4_10 mw_4_12 mx_0 hd_J5_ensureCapacityInternal_d00df rfl (g_rm hR rfl rfl) [0, 1] [] [0, 1] ⟨rfl, rfl, rfl, rfl, by decide, gRoIn_0, rfl, fun _ => rfl⟩ rfl (Nat.le_of_ble_eq_true rfl) dJ5_append_3fe6f_7 (g_rc hR (Nat.le_of_ble_eq_true rfl) (Nat.le_of_ble_eq_true rfl)) (ck' := 1) (sk' := 80) rfl rfl (fun _ => rfl) (fun u3 _ => ?_) (fun _ hx => absurd rfl hx)
  refine g_aload_n C 0 dJ5_append_3fe6f_10 rfl ?_
  obtain ⟨v4, h5, hf⟩ := opt_bind hf
  refine g_callW C (c_J5_isLatin1_aae02 (l := x_l X) (D := x_D X) (cy := x_y X) (sb := sb) (sy := u3) (ml := ml) (n := n) (cap := v1.1) (bs := v1.2) h5) (As := []) (rest := []) (wr := (wSb (x_y X) sb u3 ml n v1.1 v1.2)) (ws' := fun _ => (wSb (x_y X) sb u3 ml n v1.1 v1.2)) (st' := fun _ => [.int v4]) (ci := 1) 0 0 ⟨_, rfl⟩ rfl mw_4_45 mw_1_4 mw_4_41 mw_4_42 mw_4_44 hd_J5_isLatin1_aae02 rfl (g_rm hR rfl rfl) [] [0, 1] [0, 1] ⟨rfl, rfl, rfl, rfl, by decide, gRoIn_p [0, 1] rfl (by decide), rfl, fun _ => rfl⟩ rfl (Nat.le_of_ble_eq_true rfl) dJ5_append_3fe6f_11 (g_rc hR (Nat.le_of_ble_eq_true rfl) (Nat.le_of_ble_eq_true rfl)) (ck' := 1) (sk' := 80) rfl rfl (fun _ => rfl) (fun _ _ => ?_) (fun _ hx => absurd rfl hx)
  refine g_if_eq C 45 dJ5_append_3fe6f_14 (by decide) (fun c6 => ?_) (fun c6 => ?_)
  · have hf := opt_pos c6 hf
    exact H45 u3 n v1.1 v1.2 hf
  · have hf := opt_neg c6 hf
    refine g_iload_n C 1 dJ5_append_3fe6f_17 rfl ?_
    obtain ⟨v10, h11, hf⟩ := opt_bind hf
    refine g_callS C (c_J1_canEncode_fc78d (l := x_l X) (D := x_D X) (cy := x_y X) (p0 := p0) h11) (As := [.int p0]) (rest := []) (wr := (wSb (x_y X) sb u3 ml n v1.1 v1.2)) (ws' := fun _ => (wSb (x_y X) sb u3 ml n v1.1 v1.2)) (st' := fun _ => [.int v10]) 1 mw_5_7 mw_1_26 mw_5_5 mw_5_6 hd_J1_canEncode_fc78d rfl (g_rm hR rfl rfl) [] [0, 1] [0, 1] ⟨rfl, rfl, rfl, rfl, by decide, gRoIn_0, rfl, fun _ => rfl⟩ rfl (Nat.le_of_ble_eq_true rfl) dJ5_append_3fe6f_18 (g_rc hR (Nat.le_of_ble_eq_true rfl) (Nat.le_of_ble_eq_true rfl)) (ck' := 1) (sk' := 80) rfl rfl (fun _ => rfl) (fun _ _ => ?_) (fun _ hx => absurd rfl hx)
    refine g_if_eq C 45 dJ5_append_3fe6f_21 (by decide) (fun c12 => ?_) (fun c12 => ?_)
    · have hf := opt_pos c12 hf
      exact H45 u3 n v1.1 v1.2 hf
    · have hf := opt_neg c12 hf
      refine g_aload_n C 0 dJ5_append_3fe6f_24 rfl ?_
      refine g_get C 0 0 rfl rfl wiJ4 (by decide) mw_1_137 rfl rfl dJ5_append_3fe6f_25 ?_
      refine g_aload_n C 0 dJ5_append_3fe6f_28 rfl ?_
      refine g_dup C dJ5_append_3fe6f_29 rfl ?_
      refine g_get C 0 3 rfl rfl wiJ4 (by decide) mw_1_141 rfl rfl dJ5_append_3fe6f_30 ?_
      refine g_dup_x1 C dJ5_append_3fe6f_33 rfl rfl ?_
      refine g_iconst C (v := 1) dJ5_append_3fe6f_34 (by decide) ?_
      refine g_iadd C dJ5_append_3fe6f_35 ?_
      refine g_put C (ws' := (wSb (x_y X) sb u3 ml (n + 1) v1.1 v1.2)) 0 3 rfl rfl wiJ4 (by decide) tyJ4_ok nmJ4 mw_1_141 rfl rfl rfl rfl (Nat.le_of_ble_eq_true rfl) rfl dJ5_append_3fe6f_36 ?_
      refine g_iload_n C 1 dJ5_append_3fe6f_39 rfl ?_
      refine g_i2b C dJ5_append_3fe6f_40 ?_
      obtain ⟨c13, hf⟩ := gg_of hf
      obtain ⟨f14, ef14, hf⟩ := opt_let hf
      refine g_bast C (ws' := (wSb (x_y X) sb u3 ml (n + 1) v1.1 f14)) 1 rfl (gi_in c13) (by rw [ef14]; rfl) dJ5_append_3fe6f_41 ?_
      refine g_goto C 75 dJ5_append_3fe6f_42 (by decide) ?_
      exact H75 u3 (n + 1) v1.1 f14 hf
/-! J5_append_c97b9 -/
theorem hd_J5_append_c97b9 : yJ5_append_c97b9.cls ≠ "java/lang/invoke/MethodHandle" ∧ yJ5_append_c97b9.cls ≠ "java/lang/invoke/VarHandle" ∧ (parseMethodDescriptor yJ5_append_c97b9.desc).map (fun d => d.parameters.length) = some 1 := by decide +kernel
def F_J5_append_c97b9_L48   (n_48 : Int32) (cap_48 : Nat) (bs_48 : Nat → Int32) (l3_48 : Int32) : Option (Int32 × Nat × (Nat → Int32)) := some (l3_48, cap_48, bs_48)
def F_J5_append_c97b9 (n : Int32) (cap : Nat) (bs : Nat → Int32) (p0 : Int32) : Option (Int32 × Nat × (Nat → Int32)) := (F_J6_stringSize_0f7a4 p0).bind fun v1 => (F_J5_ensureCapacityInternal_d00df cap bs (n + v1)).bind fun v3 => (F_J5_isLatin1_aae02 ).bind fun v6 => if v6 = 0 then (none) else ((F_J6_getChars_ba4f3 v3.1 v3.2 p0 (n + v1)).bind fun v9 => F_J5_append_c97b9_L48 n v3.1 v9.2 (n + v1))
set_option maxRecDepth 100000 in
set_option maxHeartbeats 4000000 in
theorem c_J5_append_c97b9 {l : Launch} {D : va_G} {cy : Nat → ClassId} {sb sy : Nat} {ml : Int32} {n : Int32} {cap : Nat} {bs : Nat → Int32} {p0 : Int32}  {val : Int32 × Nat × (Nat → Int32)} (hf : F_J5_append_c97b9 n cap bs p0 = some val) : gCt l D cy yJ5_append_c97b9 cJ5_append_c97b9 4 (some (.object "java/lang/AbstractStringBuilder")) 4 91 1 80 [.ref sb, .int p0] [] ((wSb cy sb sy ml n cap bs)) 0 (fun u : Nat => some (.ref sb)) (fun u => (wSb cy sb u ml val.1 val.2.1 val.2.2)) := by
  refine g_begin (by decide +kernel) (Nat.le_of_ble_eq_true rfl) ?_
  intro X Q hl hR hD hy hro hn C hin E
  subst hl; subst hD; subst hy
  replace C : gC X "java/lang/AbstractStringBuilder" cJ5_append_c97b9 (some (.object "java/lang/AbstractStringBuilder")) := C
  unfold F_J5_append_c97b9 at hf
  have H48 : ∀ (a0_1_48 : Nat) (n_48 : Int32) (cap_48 : Nat) (bs_48 : Nat → Int32) (l3_48 : Int32), F_J5_append_c97b9_L48 n_48 cap_48 bs_48 l3_48 = some val → gW X Q 1 80 ((wSb (x_y X) sb a0_1_48 ml n_48 cap_48 bs_48)) [(0, .ref sb), (1, .int p0), (3, .int l3_48)] [] 48 := by
    intro a0_1_48 n_48 cap_48 bs_48 l3_48 hf
    unfold F_J5_append_c97b9_L48 at hf
    refine g_aload_n C 0 dJ5_append_c97b9_48 rfl ?_
    refine g_iload_n C 2 dJ5_append_c97b9_49 rfl ?_
    refine g_put C (ws' := (wSb (x_y X) sb a0_1_48 ml l3_48 cap_48 bs_48)) 0 3 rfl rfl wiJ4 (by decide) tyJ4_ok nmJ4 mw_1_141 rfl rfl rfl rfl (Nat.le_of_ble_eq_true rfl) rfl dJ5_append_c97b9_50 ?_
    refine g_aload_n C 0 dJ5_append_c97b9_53 rfl ?_
    refine g_eqw (ws' := (wSb (x_y X) sb a0_1_48 ml l3_48 cap_48 bs_48)) rfl ?_
    obtain rfl := Option.some.inj hf
    exact g_aret C E a0_1_48 dJ5_append_c97b9_54 (Or.inl ⟨_, rfl⟩) rfl rfl rfl (Nat.le_of_ble_eq_true rfl) (Nat.le_of_ble_eq_true rfl)
  show gW X Q 0 0 ((wSb (x_y X) sb sy ml n cap bs)) [(0, .ref sb), (1, .int p0)] [] 0
  refine g_aload_n C 0 dJ5_append_c97b9_0 rfl ?_
  refine g_get C 0 3 rfl rfl wiJ4 (by decide) mw_1_141 rfl rfl dJ5_append_c97b9_1 ?_
  refine g_istore_n C (lv' := [(2, .int n), (0, .ref sb), (1, .int p0)]) dJ5_append_c97b9_4 (g_nlt hn rfl) rfl ?_
  refine g_iload_n C 0 dJ5_append_c97b9_5 rfl ?_
  refine g_iload_n C 2 dJ5_append_c97b9_6 rfl ?_
  obtain ⟨v1, h2, hf⟩ := opt_bind hf
  refine g_callS C (c_J6_stringSize_0f7a4 (l := x_l X) (D := x_D X) (cy := x_y X) (p0 := p0) h2) (As := [.int p0]) (rest := [.int n]) (wr := (wSb (x_y X) sb sy ml n cap bs)) (ws' := fun _ => (wSb (x_y X) sb sy ml n cap bs)) (st' := fun _ => [.int v1, .int n]) 1 mw_4_124 mw_1_28 mw_4_122 mw_4_123 hd_J6_stringSize_0f7a4 rfl (g_rm hR rfl rfl) [] [0, 1] [0, 1] ⟨rfl, rfl, rfl, rfl, by decide, gRoIn_0, rfl, fun _ => rfl⟩ rfl (Nat.le_of_ble_eq_true rfl) dJ5_append_c97b9_7 (g_rc hR (Nat.le_of_ble_eq_true rfl) (Nat.le_of_ble_eq_true rfl)) (ck' := 0) (sk' := 0) rfl rfl (fun _ => rfl) (fun _ _ => ?_) (fun _ hx => absurd rfl hx)
  refine g_iadd C dJ5_append_c97b9_10 ?_
  refine g_istore_n C (lv' := [(3, .int (n + v1)), (2, .int n), (0, .ref sb), (1, .int p0)]) dJ5_append_c97b9_11 (g_nlt hn rfl) rfl ?_
  refine g_aload_n C 2 dJ5_append_c97b9_12 rfl ?_
  refine g_iload_n C 0 dJ5_append_c97b9_13 rfl ?_
  obtain ⟨v3, h4, hf⟩ := opt_bind hf
  refine g_callW C (c_J5_ensureCapacityInternal_d00df (l := x_l X) (D := x_D X) (cy := x_y X) (sb := sb) (sy := sy) (ml := ml) (n := n) (cap := cap) (bs := bs) (p0 := n + v1) h4) (As := [.int (n + v1)]) (rest := []) (wr := []) (ws' := fun u5 => (wSb (x_y X) sb u5 ml n v3.1 v3.2)) (st' := fun u5 => []) (ci := 1) 1 0 ⟨_, rfl⟩ rfl mw_4_13 mw_1_4 mw_4_10 mw_4_12 mx_0 hd_J5_ensureCapacityInternal_d00df rfl (g_rm hR rfl rfl) [0, 1] [] [0, 1] ⟨rfl, rfl, rfl, rfl, by decide, gRoIn_0, rfl, fun _ => rfl⟩ rfl (Nat.le_of_ble_eq_true rfl) dJ5_append_c97b9_14 (g_rc hR (Nat.le_of_ble_eq_true rfl) (Nat.le_of_ble_eq_true rfl)) (ck' := 1) (sk' := 80) rfl rfl (fun _ => rfl) (fun u5 _ => ?_) (fun _ hx => absurd rfl hx)
  refine g_aload_n C 2 dJ5_append_c97b9_17 rfl ?_
  obtain ⟨v6, h7, hf⟩ := opt_bind hf
  refine g_callW C (c_J5_isLatin1_aae02 (l := x_l X) (D := x_D X) (cy := x_y X) (sb := sb) (sy := u5) (ml := ml) (n := n) (cap := v3.1) (bs := v3.2) h7) (As := []) (rest := []) (wr := (wSb (x_y X) sb u5 ml n v3.1 v3.2)) (ws' := fun _ => (wSb (x_y X) sb u5 ml n v3.1 v3.2)) (st' := fun _ => [.int v6]) (ci := 1) 0 0 ⟨_, rfl⟩ rfl mw_4_45 mw_1_4 mw_4_41 mw_4_42 mw_4_44 hd_J5_isLatin1_aae02 rfl (g_rm hR rfl rfl) [] [0, 1] [0, 1] ⟨rfl, rfl, rfl, rfl, by decide, gRoIn_p [0, 1] rfl (by decide), rfl, fun _ => rfl⟩ rfl (Nat.le_of_ble_eq_true rfl) dJ5_append_c97b9_18 (g_rc hR (Nat.le_of_ble_eq_true rfl) (Nat.le_of_ble_eq_true rfl)) (ck' := 1) (sk' := 80) rfl rfl (fun _ => rfl) (fun _ _ => ?_) (fun _ hx => absurd rfl hx)
  refine g_if_eq C 37 dJ5_append_c97b9_21 (by decide) (fun c8 => ?_) (fun c8 => ?_)
  · have hf := opt_pos c8 hf
    refine g_iload_n C 3 dJ5_append_c97b9_37 rfl ?_
    refine g_iload_n C 1 dJ5_append_c97b9_38 rfl ?_
    refine g_iload_n C 0 dJ5_append_c97b9_39 rfl ?_
    refine g_aload_n C 2 dJ5_append_c97b9_40 rfl ?_
    refine g_get C 0 0 rfl rfl wiJ4 (by decide) mw_1_137 rfl rfl dJ5_append_c97b9_41 ?_
    cases hf
  · have hf := opt_neg c8 hf
    refine g_iload_n C 3 dJ5_append_c97b9_24 rfl ?_
    refine g_iload_n C 0 dJ5_append_c97b9_25 rfl ?_
    refine g_aload_n C 2 dJ5_append_c97b9_26 rfl ?_
    refine g_get C 0 0 rfl rfl wiJ4 (by decide) mw_1_137 rfl rfl dJ5_append_c97b9_27 ?_
    obtain ⟨v9, h10, hf⟩ := opt_bind hf
    refine g_callS C (c_J6_getChars_ba4f3 (l := x_l X) (D := x_D X) (cy := x_y X) (ab := u5) (bn := v3.1) (bb := v3.2) (p0 := p0) (p1 := n + v1) h10) (As := [.int p0, .int (n + v1), .ref u5]) (rest := []) (wr := [(sb, .inr (1, [.ref u5, .int 0, .int ml, .int n]))]) (ws' := fun _ => (wSb (x_y X) sb u5 ml n v3.1 v9.2)) (st' := fun _ => [.int v9.1]) 3 mw_4_127 mw_1_28 mw_4_125 mw_4_126 hd_J6_getChars_ba4f3 rfl (g_rm hR rfl rfl) [1] [0] [0, 1] ⟨rfl, rfl, rfl, rfl, by decide, gRoIn_0, rfl, fun _ => rfl⟩ rfl (Nat.le_of_ble_eq_true rfl) dJ5_append_c97b9_30 (g_rc hR (Nat.le_of_ble_eq_true rfl) (Nat.le_of_ble_eq_true rfl)) (ck' := 1) (sk' := 80) rfl rfl (fun _ => rfl) (fun _ _ => ?_) (fun _ hx => absurd rfl hx)
    refine g_pop C dJ5_append_c97b9_33 rfl ?_
    refine g_goto C 48 dJ5_append_c97b9_34 (by decide) ?_
    refine gW.locals [2, 3, 0] rfl ?_
    exact H48 u5 n v3.1 v9.2 (n + v1) hf
/-! J4_append_cf468 -/
theorem hd_J4_append_cf468 : yJ4_append_cf468.cls ≠ "java/lang/invoke/MethodHandle" ∧ yJ4_append_cf468.cls ≠ "java/lang/invoke/VarHandle" ∧ (parseMethodDescriptor yJ4_append_cf468.desc).map (fun d => d.parameters.length) = some 1 := by decide +kernel
def F_J4_append_cf468 (n : Int32) (cap : Nat) (bs : Nat → Int32) (p0 : Int32) : Option (Int32 × Nat × (Nat → Int32)) := (F_J5_append_3fe6f n cap bs p0).bind fun v1 => some (v1.1, v1.2.1, v1.2.2)
set_option maxRecDepth 100000 in
set_option maxHeartbeats 4000000 in
theorem c_J4_append_cf468 {l : Launch} {D : va_G} {cy : Nat → ClassId} {sb sy : Nat} {ml : Int32} {n : Int32} {cap : Nat} {bs : Nat → Int32} {p0 : Int32}  {val : Int32 × Nat × (Nat → Int32)} (hf : F_J4_append_cf468 n cap bs p0 = some val) : gCt l D cy yJ4_append_cf468 cJ4_append_cf468 2 (some (.object "java/lang/StringBuilder")) 5 112 1 80 [.ref sb, .int p0] [] ((wSb cy sb sy ml n cap bs)) 0 (fun u : Nat => some (.ref sb)) (fun u => (wSb cy sb u ml val.1 val.2.1 val.2.2)) := by
  refine g_begin (by decide +kernel) (Nat.le_of_ble_eq_true rfl) ?_
  intro X Q hl hR hD hy hro hn C hin E
  subst hl; subst hD; subst hy
  replace C : gC X "java/lang/StringBuilder" cJ4_append_cf468 (some (.object "java/lang/StringBuilder")) := C
  unfold F_J4_append_cf468 at hf
  show gW X Q 0 0 ((wSb (x_y X) sb sy ml n cap bs)) [(0, .ref sb), (1, .int p0)] [] 0
  refine g_aload_n C 0 dJ4_append_cf468_0 rfl ?_
  refine g_iload_n C 1 dJ4_append_cf468_1 rfl ?_
  obtain ⟨v1, h2, hf⟩ := opt_bind hf
  refine g_callU C (c_J5_append_3fe6f (l := x_l X) (D := x_D X) (cy := x_y X) (sb := sb) (sy := sy) (ml := ml) (n := n) (cap := cap) (bs := bs) (p0 := p0) h2) (As := [.int p0]) (rest := []) (wr := []) (ws' := fun u3 => (wSb (x_y X) sb u3 ml v1.1 v1.2.1 v1.2.2)) (st' := fun u3 => [.ref sb]) (ci := 1) 1 0 ⟨_, rfl⟩ rfl mw_5_4 mw_1_4 mw_5_2 mw_5_3 gws_J5_append_3fe6f gw_sup (by decide) hd_J5_append_3fe6f rfl (g_rm hR rfl rfl) [0, 1] [] [0, 1] ⟨rfl, rfl, rfl, rfl, by decide, gRoIn_0, rfl, fun _ => rfl⟩ rfl (Nat.le_of_ble_eq_true rfl) dJ4_append_cf468_2 (g_rc hR (Nat.le_of_ble_eq_true rfl) (Nat.le_of_ble_eq_true rfl)) (ck' := 1) (sk' := 80) rfl rfl (fun _ => rfl) (fun u3 _ => ?_) (fun _ hx => absurd rfl hx)
  refine g_pop C dJ4_append_cf468_5 rfl ?_
  refine g_aload_n C 0 dJ4_append_cf468_6 rfl ?_
  refine g_eqw (ws' := (wSb (x_y X) sb u3 ml v1.1 v1.2.1 v1.2.2)) rfl ?_
  obtain rfl := Option.some.inj hf
  exact g_aret C E u3 dJ4_append_cf468_7 (Or.inl ⟨_, rfl⟩) rfl rfl rfl (Nat.le_of_ble_eq_true rfl) (Nat.le_of_ble_eq_true rfl)
/-! J4_append_bf812 -/
theorem hd_J4_append_bf812 : yJ4_append_bf812.cls ≠ "java/lang/invoke/MethodHandle" ∧ yJ4_append_bf812.cls ≠ "java/lang/invoke/VarHandle" ∧ (parseMethodDescriptor yJ4_append_bf812.desc).map (fun d => d.parameters.length) = some 1 := by decide +kernel
def F_J4_append_bf812 (n : Int32) (cap : Nat) (bs : Nat → Int32) (p0 : Int32) : Option (Int32 × Nat × (Nat → Int32)) := (F_J5_append_c97b9 n cap bs p0).bind fun v1 => some (v1.1, v1.2.1, v1.2.2)
set_option maxRecDepth 100000 in
set_option maxHeartbeats 4000000 in
theorem c_J4_append_bf812 {l : Launch} {D : va_G} {cy : Nat → ClassId} {sb sy : Nat} {ml : Int32} {n : Int32} {cap : Nat} {bs : Nat → Int32} {p0 : Int32}  {val : Int32 × Nat × (Nat → Int32)} (hf : F_J4_append_bf812 n cap bs p0 = some val) : gCt l D cy yJ4_append_bf812 cJ4_append_bf812 2 (some (.object "java/lang/StringBuilder")) 5 114 1 80 [.ref sb, .int p0] [] ((wSb cy sb sy ml n cap bs)) 0 (fun u : Nat => some (.ref sb)) (fun u => (wSb cy sb u ml val.1 val.2.1 val.2.2)) := by
  refine g_begin (by decide +kernel) (Nat.le_of_ble_eq_true rfl) ?_
  intro X Q hl hR hD hy hro hn C hin E
  subst hl; subst hD; subst hy
  replace C : gC X "java/lang/StringBuilder" cJ4_append_bf812 (some (.object "java/lang/StringBuilder")) := C
  unfold F_J4_append_bf812 at hf
  show gW X Q 0 0 ((wSb (x_y X) sb sy ml n cap bs)) [(0, .ref sb), (1, .int p0)] [] 0
  refine g_aload_n C 0 dJ4_append_bf812_0 rfl ?_
  refine g_iload_n C 1 dJ4_append_bf812_1 rfl ?_
  obtain ⟨v1, h2, hf⟩ := opt_bind hf
  refine g_callU C (c_J5_append_c97b9 (l := x_l X) (D := x_D X) (cy := x_y X) (sb := sb) (sy := sy) (ml := ml) (n := n) (cap := cap) (bs := bs) (p0 := p0) h2) (As := [.int p0]) (rest := []) (wr := []) (ws' := fun u3 => (wSb (x_y X) sb u3 ml v1.1 v1.2.1 v1.2.2)) (st' := fun u3 => [.ref sb]) (ci := 1) 1 0 ⟨_, rfl⟩ rfl mw_4_121 mw_1_4 mw_4_119 mw_4_120 gws_J5_append_c97b9 gw_sup (by decide) hd_J5_append_c97b9 rfl (g_rm hR rfl rfl) [0, 1] [] [0, 1] ⟨rfl, rfl, rfl, rfl, by decide, gRoIn_0, rfl, fun _ => rfl⟩ rfl (Nat.le_of_ble_eq_true rfl) dJ4_append_bf812_2 (g_rc hR (Nat.le_of_ble_eq_true rfl) (Nat.le_of_ble_eq_true rfl)) (ck' := 1) (sk' := 80) rfl rfl (fun _ => rfl) (fun u3 _ => ?_) (fun _ hx => absurd rfl hx)
  refine g_pop C dJ4_append_bf812_5 rfl ?_
  refine g_aload_n C 0 dJ4_append_bf812_6 rfl ?_
  refine g_eqw (ws' := (wSb (x_y X) sb u3 ml v1.1 v1.2.1 v1.2.2)) rfl ?_
  obtain rfl := Option.some.inj hf
  exact g_aret C E u3 dJ4_append_bf812_7 (Or.inl ⟨_, rfl⟩) rfl rfl rfl (Nat.le_of_ble_eq_true rfl) (Nat.le_of_ble_eq_true rfl)
/-! J5_setLength_d00df -/
theorem hd_J5_setLength_d00df : yJ5_setLength_d00df.cls ≠ "java/lang/invoke/MethodHandle" ∧ yJ5_setLength_d00df.cls ≠ "java/lang/invoke/VarHandle" ∧ (parseMethodDescriptor yJ5_setLength_d00df.desc).map (fun d => d.parameters.length) = some 1 := by decide +kernel
def F_J5_setLength_d00df_L76 (p0 : Int32)  (ml_76 : Int32) (n_76 : Int32) (cap_76 : Nat) (bs_76 : Nat → Int32) : Option (Int32 × Int32 × Nat × (Nat → Int32)) := some (ml_76, p0, cap_76, bs_76)
def F_J5_setLength_d00df (ml : Int32) (n : Int32) (cap : Nat) (bs : Nat → Int32) (p0 : Int32) : Option (Int32 × Int32 × Nat × (Nat → Int32)) := if 0 ≤ p0 then ((F_J5_ensureCapacityInternal_d00df cap bs p0).bind fun v2 => if p0 ≤ n then (if n ≤ p0 then (F_J5_setLength_d00df_L76 p0 ml n v2.1 v2.2) else (F_J5_setLength_d00df_L76 p0 1 n v2.1 v2.2)) else ((F_J5_isLatin1_aae02 ).bind fun v7 => if v7 = 0 then (none) else (none))) else (none)
set_option maxRecDepth 100000 in
set_option maxHeartbeats 4000000 in
theorem c_J5_setLength_d00df {l : Launch} {D : va_G} {cy : Nat → ClassId} {sb sy : Nat} {ml : Int32} {n : Int32} {cap : Nat} {bs : Nat → Int32} {p0 : Int32}  {val : Int32 × Int32 × Nat × (Nat → Int32)} (hf : F_J5_setLength_d00df ml n cap bs p0 = some val) : gCt l D cy yJ5_setLength_d00df cJ5_setLength_d00df 2 none 4 91 1 80 [.ref sb, .int p0] [] ((wSb cy sb sy ml n cap bs)) 0 (fun u : Nat => none) (fun u => (wSb cy sb u val.1 val.2.1 val.2.2.1 val.2.2.2)) := by
  refine g_begin (by decide +kernel) (Nat.le_of_ble_eq_true rfl) ?_
  intro X Q hl hR hD hy hro hn C hin E
  subst hl; subst hD; subst hy
  replace C : gC X "java/lang/AbstractStringBuilder" cJ5_setLength_d00df none := C
  unfold F_J5_setLength_d00df at hf
  have H76 : ∀ (a0_1_76 : Nat) (ml_76 : Int32) (n_76 : Int32) (cap_76 : Nat) (bs_76 : Nat → Int32), F_J5_setLength_d00df_L76 p0 ml_76 n_76 cap_76 bs_76 = some val → gW X Q 1 80 ((wSb (x_y X) sb a0_1_76 ml_76 n_76 cap_76 bs_76)) [(0, .ref sb), (1, .int p0)] [] 76 := by
    intro a0_1_76 ml_76 n_76 cap_76 bs_76 hf
    unfold F_J5_setLength_d00df_L76 at hf
    refine g_aload_n C 0 dJ5_setLength_d00df_76 rfl ?_
    refine g_iload_n C 1 dJ5_setLength_d00df_77 rfl ?_
    refine g_put C (ws' := (wSb (x_y X) sb a0_1_76 ml_76 p0 cap_76 bs_76)) 0 3 rfl rfl wiJ4 (by decide) tyJ4_ok nmJ4 mw_1_141 rfl rfl rfl rfl (Nat.le_of_ble_eq_true rfl) rfl dJ5_setLength_d00df_78 ?_
    refine g_eqw (ws' := (wSb (x_y X) sb a0_1_76 ml_76 p0 cap_76 bs_76)) rfl ?_
    obtain rfl := Option.some.inj hf
    exact g_vret C E a0_1_76 dJ5_setLength_d00df_81 rfl rfl rfl (Nat.le_of_ble_eq_true rfl) (Nat.le_of_ble_eq_true rfl)
  show gW X Q 0 0 ((wSb (x_y X) sb sy ml n cap bs)) [(0, .ref sb), (1, .int p0)] [] 0
  refine g_iload_n C 1 dJ5_setLength_d00df_0 rfl ?_
  refine g_if_ge C 13 dJ5_setLength_d00df_1 (by decide) (fun c1 => ?_) (fun c1 => ?_)
  · have hf := opt_pos c1 hf
    refine g_aload_n C 0 dJ5_setLength_d00df_13 rfl ?_
    refine g_iload_n C 1 dJ5_setLength_d00df_14 rfl ?_
    obtain ⟨v2, h3, hf⟩ := opt_bind hf
    refine g_callW C (c_J5_ensureCapacityInternal_d00df (l := x_l X) (D := x_D X) (cy := x_y X) (sb := sb) (sy := sy) (ml := ml) (n := n) (cap := cap) (bs := bs) (p0 := p0) h3) (As := [.int p0]) (rest := []) (wr := []) (ws' := fun u4 => (wSb (x_y X) sb u4 ml n v2.1 v2.2)) (st' := fun u4 => []) (ci := 1) 1 0 ⟨_, rfl⟩ rfl mw_4_13 mw_1_4 mw_4_10 mw_4_12 mx_0 hd_J5_ensureCapacityInternal_d00df rfl (g_rm hR rfl rfl) [0, 1] [] [0, 1] ⟨rfl, rfl, rfl, rfl, by decide, gRoIn_0, rfl, fun _ => rfl⟩ rfl (Nat.le_of_ble_eq_true rfl) dJ5_setLength_d00df_15 (g_rc hR (Nat.le_of_ble_eq_true rfl) (Nat.le_of_ble_eq_true rfl)) (ck' := 1) (sk' := 80) rfl rfl (fun _ => rfl) (fun u4 _ => ?_) (fun _ hx => absurd rfl hx)
    refine g_aload_n C 0 dJ5_setLength_d00df_18 rfl ?_
    refine g_get C 0 3 rfl rfl wiJ4 (by decide) mw_1_141 rfl rfl dJ5_setLength_d00df_19 ?_
    refine g_iload_n C 1 dJ5_setLength_d00df_22 rfl ?_
    refine g_icmp_ge C 63 dJ5_setLength_d00df_23 (by decide) (fun c5 => ?_) (fun c5 => ?_)
    · have hf := opt_pos c5 hf
      refine g_aload_n C 0 dJ5_setLength_d00df_63 rfl ?_
      refine g_get C 0 3 rfl rfl wiJ4 (by decide) mw_1_141 rfl rfl dJ5_setLength_d00df_64 ?_
      refine g_iload_n C 1 dJ5_setLength_d00df_67 rfl ?_
      refine g_icmp_le C 76 dJ5_setLength_d00df_68 (by decide) (fun c6 => ?_) (fun c6 => ?_)
      · have hf := opt_pos c6 hf
        exact H76 u4 ml n v2.1 v2.2 hf
      · have hf := opt_neg c6 hf
        refine g_aload_n C 0 dJ5_setLength_d00df_71 rfl ?_
        refine g_iconst C (v := 1) dJ5_setLength_d00df_72 (by decide) ?_
        refine g_put C (ws' := (wSb (x_y X) sb u4 1 n v2.1 v2.2)) 0 2 rfl rfl wiJ4 (by decide) tyJ4_ok nmJ4 mw_1_139 rfl rfl rfl rfl (Nat.le_of_ble_eq_true rfl) rfl dJ5_setLength_d00df_73 ?_
        exact H76 u4 1 n v2.1 v2.2 hf
    · have hf := opt_neg c5 hf
      refine g_aload_n C 0 dJ5_setLength_d00df_26 rfl ?_
      obtain ⟨v7, h8, hf⟩ := opt_bind hf
      refine g_callW C (c_J5_isLatin1_aae02 (l := x_l X) (D := x_D X) (cy := x_y X) (sb := sb) (sy := u4) (ml := ml) (n := n) (cap := v2.1) (bs := v2.2) h8) (As := []) (rest := []) (wr := (wSb (x_y X) sb u4 ml n v2.1 v2.2)) (ws' := fun _ => (wSb (x_y X) sb u4 ml n v2.1 v2.2)) (st' := fun _ => [.int v7]) (ci := 1) 0 0 ⟨_, rfl⟩ rfl mw_4_45 mw_1_4 mw_4_41 mw_4_42 mw_4_44 hd_J5_isLatin1_aae02 rfl (g_rm hR rfl rfl) [] [0, 1] [0, 1] ⟨rfl, rfl, rfl, rfl, by decide, gRoIn_p [0, 1] rfl (by decide), rfl, fun _ => rfl⟩ rfl (Nat.le_of_ble_eq_true rfl) dJ5_setLength_d00df_27 (g_rc hR (Nat.le_of_ble_eq_true rfl) (Nat.le_of_ble_eq_true rfl)) (ck' := 1) (sk' := 80) rfl rfl (fun _ => rfl) (fun _ _ => ?_) (fun _ hx => absurd rfl hx)
      refine g_if_eq C 48 dJ5_setLength_d00df_30 (by decide) (fun c9 => ?_) (fun c9 => ?_)
      · have hf := opt_pos c9 hf
        refine g_aload_n C 0 dJ5_setLength_d00df_48 rfl ?_
        refine g_get C 0 0 rfl rfl wiJ4 (by decide) mw_1_137 rfl rfl dJ5_setLength_d00df_49 ?_
        refine g_aload_n C 0 dJ5_setLength_d00df_52 rfl ?_
        refine g_get C 0 3 rfl rfl wiJ4 (by decide) mw_1_141 rfl rfl dJ5_setLength_d00df_53 ?_
        refine g_iload_n C 1 dJ5_setLength_d00df_56 rfl ?_
        cases hf
      · have hf := opt_neg c9 hf
        refine g_aload_n C 0 dJ5_setLength_d00df_33 rfl ?_
        refine g_get C 0 0 rfl rfl wiJ4 (by decide) mw_1_137 rfl rfl dJ5_setLength_d00df_34 ?_
        refine g_aload_n C 0 dJ5_setLength_d00df_37 rfl ?_
        refine g_get C 0 3 rfl rfl wiJ4 (by decide) mw_1_141 rfl rfl dJ5_setLength_d00df_38 ?_
        refine g_iload_n C 1 dJ5_setLength_d00df_41 rfl ?_
        cases hf
  · have hf := opt_neg c1 hf
    cases hf
/-! J4_setLength_d00df -/
theorem hd_J4_setLength_d00df : yJ4_setLength_d00df.cls ≠ "java/lang/invoke/MethodHandle" ∧ yJ4_setLength_d00df.cls ≠ "java/lang/invoke/VarHandle" ∧ (parseMethodDescriptor yJ4_setLength_d00df.desc).map (fun d => d.parameters.length) = some 1 := by decide +kernel
def F_J4_setLength_d00df (ml : Int32) (n : Int32) (cap : Nat) (bs : Nat → Int32) (p0 : Int32) : Option (Int32 × Int32 × Nat × (Nat → Int32)) := (F_J5_setLength_d00df ml n cap bs p0).bind fun v1 => some (v1.1, v1.2.1, v1.2.2.1, v1.2.2.2)
set_option maxRecDepth 100000 in
set_option maxHeartbeats 4000000 in
theorem c_J4_setLength_d00df {l : Launch} {D : va_G} {cy : Nat → ClassId} {sb sy : Nat} {ml : Int32} {n : Int32} {cap : Nat} {bs : Nat → Int32} {p0 : Int32}  {val : Int32 × Int32 × Nat × (Nat → Int32)} (hf : F_J4_setLength_d00df ml n cap bs p0 = some val) : gCt l D cy yJ4_setLength_d00df cJ4_setLength_d00df 2 none 5 112 1 80 [.ref sb, .int p0] [] ((wSb cy sb sy ml n cap bs)) 0 (fun u : Nat => none) (fun u => (wSb cy sb u val.1 val.2.1 val.2.2.1 val.2.2.2)) := by
  refine g_begin (by decide +kernel) (Nat.le_of_ble_eq_true rfl) ?_
  intro X Q hl hR hD hy hro hn C hin E
  subst hl; subst hD; subst hy
  replace C : gC X "java/lang/StringBuilder" cJ4_setLength_d00df none := C
  unfold F_J4_setLength_d00df at hf
  show gW X Q 0 0 ((wSb (x_y X) sb sy ml n cap bs)) [(0, .ref sb), (1, .int p0)] [] 0
  refine g_aload_n C 0 dJ4_setLength_d00df_0 rfl ?_
  refine g_iload_n C 1 dJ4_setLength_d00df_1 rfl ?_
  obtain ⟨v1, h2, hf⟩ := opt_bind hf
  refine g_callU C (c_J5_setLength_d00df (l := x_l X) (D := x_D X) (cy := x_y X) (sb := sb) (sy := sy) (ml := ml) (n := n) (cap := cap) (bs := bs) (p0 := p0) h2) (As := [.int p0]) (rest := []) (wr := []) (ws' := fun u3 => (wSb (x_y X) sb u3 v1.1 v1.2.1 v1.2.2.1 v1.2.2.2)) (st' := fun u3 => []) (ci := 1) 1 0 ⟨_, rfl⟩ rfl mw_3_230 mw_1_4 mw_3_228 mw_3_229 gws_J5_setLength_d00df gw_sup (by decide) hd_J5_setLength_d00df rfl (g_rm hR rfl rfl) [0, 1] [] [0, 1] ⟨rfl, rfl, rfl, rfl, by decide, gRoIn_0, rfl, fun _ => rfl⟩ rfl (Nat.le_of_ble_eq_true rfl) dJ4_setLength_d00df_2 (g_rc hR (Nat.le_of_ble_eq_true rfl) (Nat.le_of_ble_eq_true rfl)) (ck' := 1) (sk' := 80) rfl rfl (fun _ => rfl) (fun u3 _ => ?_) (fun _ hx => absurd rfl hx)
  refine g_eqw (ws' := (wSb (x_y X) sb u3 v1.1 v1.2.1 v1.2.2.1 v1.2.2.2)) rfl ?_
  obtain rfl := Option.some.inj hf
  exact g_vret C E u3 dJ4_setLength_d00df_5 rfl rfl rfl (Nat.le_of_ble_eq_true rfl) (Nat.le_of_ble_eq_true rfl)
/-! J0_init_db425 -/
theorem hd_J0_init_db425 : yJ0_init_db425.cls ≠ "java/lang/invoke/MethodHandle" ∧ yJ0_init_db425.cls ≠ "java/lang/invoke/VarHandle" ∧ (parseMethodDescriptor yJ0_init_db425.desc).map (fun d => d.parameters.length) = some 2 := by decide +kernel
def F_J0_init_db425_L79 (cap : Nat) (bs : Nat → Int32)  (l4_79 : Int32) : Option (Int32 × Int32 × Nat × (Nat → Int32)) := (F_J7_copyOfRange_39247 cap bs 0 (l4_79 <<< (1 &&& 31))).bind fun v9 => none
def F_J0_init_db425 (ml : Int32) (n : Int32) (cap : Nat) (bs : Nat → Int32) : Option (Int32 × Int32 × Nat × (Nat → Int32)) := (F_J5_getValue_6d5f1 ).bind fun v1 => (F_J4_length_8abf5 n).bind fun v3 => (F_J5_isLatin1_aae02 ).bind fun v5 => if v5 = 0 then (if ml = 0 then (F_J0_init_db425_L79 cap bs v3) else (none)) else ((F_J7_copyOfRange_39247 cap bs 0 v3).bind fun v12 => some (0, 0, v12.1, v12.2))
set_option maxRecDepth 100000 in
set_option maxHeartbeats 4000000 in
theorem c_J0_init_db425 {l : Launch} {D : va_G} {cy : Nat → ClassId} {st : Nat} {sb sy : Nat} {ml : Int32} {n : Int32} {cap : Nat} {bs : Nat → Int32}   {val : Int32 × Int32 × Nat × (Nat → Int32)} (hf : F_J0_init_db425 ml n cap bs = some val) : gCt l D cy yJ0_init_db425 cJ0_init_db425 5 none 3 76 1 80 [.ref st, .ref sb, .null] [] ([(st, .inr (0, [.null, .int 0, .int 0, .int 0]))] ++ (wSb cy sb sy ml n cap bs)) 0 (fun u : Nat × Nat => none) (fun u => (wStr cy st u.1 val.1 val.2.1 val.2.2.1 val.2.2.2) ++ (wSb cy sb u.2 ml n cap bs)) := by
  refine g_begin (by decide +kernel) (Nat.le_of_ble_eq_true rfl) ?_
  intro X Q hl hR hD hy hro hn C hin E
  subst hl; subst hD; subst hy
  replace C : gC X "java/lang/String" cJ0_init_db425 none := C
  unfold F_J0_init_db425 at hf
  have H79 : ∀ (a1_1_79 : Nat) (l4_79 : Int32), F_J0_init_db425_L79 cap bs l4_79 = some val → gW X Q 0 0 ([(st, .inr (0, [.null, .int 0, .int 0, .int 0]))] ++ (wSb (x_y X) sb a1_1_79 ml n cap bs)) [(0, .ref st), (1, .ref sb), (2, .null), (3, .ref a1_1_79), (4, .int l4_79)] [] 79 := by
    intro a1_1_79 l4_79 hf
    unfold F_J0_init_db425_L79 at hf
    refine g_aload_n C 0 dJ0_init_db425_79 rfl ?_
    refine g_iconst C (v := 1) dJ0_init_db425_80 (by decide) ?_
    refine g_putF C (ws' := [(st, .inr (0, [.null, .int 1, .int 0, .int 0]))] ++ (wSb (x_y X) sb a1_1_79 ml n cap bs)) 0 1 rfl rfl wiJ0 (by decide) tyJ0_ok nmJ0 mw_4_197 rfl rfl (hin rfl) rfl rfl rfl (Nat.le_of_ble_eq_true rfl) rfl dJ0_init_db425_81 ?_
    refine g_aload_n C 0 dJ0_init_db425_84 rfl ?_
    refine g_aload_n C 3 dJ0_init_db425_85 rfl ?_
    refine g_iconst C (v := 0) dJ0_init_db425_86 (by decide) ?_
    refine g_iload C 4 dJ0_init_db425_87 rfl ?_
    refine g_iconst C (v := 1) dJ0_init_db425_89 (by decide) ?_
    refine g_ishl C dJ0_init_db425_90 ?_
    obtain ⟨v9, h10, hf⟩ := opt_bind hf
    refine g_callS C (c_J7_copyOfRange_39247 (l := x_l X) (D := x_D X) (cy := x_y X) (ab := a1_1_79) (bn := cap) (bb := bs) (p1 := 0) (p2 := l4_79 <<< (1 &&& 31)) h10) (As := [.ref a1_1_79, .int 0, .int (l4_79 <<< (1 &&& 31))]) (rest := [.ref st]) (wr := [(st, .inr (0, [.null, .int 1, .int 0, .int 0]))] ++ [(sb, .inr (1, [.ref a1_1_79, .int 0, .int ml, .int n]))]) (ws' := fun u11 => [(st, .inr (0, [.null, .int 1, .int 0, .int 0]))] ++ (wSb (x_y X) sb a1_1_79 ml n cap bs) ++ (wB1 (x_y X) u11 v9.1 v9.2)) (st' := fun u11 => [.ref u11, .ref st]) 3 mw_4_168 mw_1_23 mw_4_166 mw_4_167 hd_J7_copyOfRange_39247 rfl (g_rm hR rfl rfl) [2] [0, 1] [0, 1, 2, 3] ⟨rfl, rfl, rfl, rfl, by decide, gRoIn_0, rfl, fun _ => rfl⟩ rfl (Nat.le_of_ble_eq_true rfl) dJ0_init_db425_91 (g_rc hR (Nat.le_of_ble_eq_true rfl) (Nat.le_of_ble_eq_true rfl)) (ck' := 1) (sk' := 80) rfl rfl (fun _ => rfl) (fun u11 _ => ?_) (fun _ hx => absurd rfl hx)
    refine g_putF C (ws' := [(st, .inr (0, [.ref u11, .int 1, .int 0, .int 0]))] ++ (wSb (x_y X) sb a1_1_79 ml n cap bs) ++ (wB1 (x_y X) u11 v9.1 v9.2)) 0 0 rfl rfl wiJ0 (by decide) tyJ0_ok nmJ0 mw_4_196 rfl rfl (hin rfl) rfl rfl rfl (Nat.le_of_ble_eq_true rfl) rfl dJ0_init_db425_94 ?_
    cases hf
  show gW X Q 0 0 ([(st, .inr (0, [.null, .int 0, .int 0, .int 0]))] ++ (wSb (x_y X) sb sy ml n cap bs)) [(0, .ref st), (1, .ref sb), (2, .null)] [] 0
  refine g_aload_n C 0 dJ0_init_db425_0 rfl ?_
  refine g_objInit C mw_4_151 mw_1_44 gw_obj (g_tn hR rfl rfl) dJ0_init_db425_1 ?_
  refine g_aload_n C 1 dJ0_init_db425_4 rfl ?_
  obtain ⟨v1, h2, hf⟩ := opt_bind hf
  refine g_callW C (c_J5_getValue_6d5f1 (l := x_l X) (D := x_D X) (cy := x_y X) (sb := sb) (sy := sy) (ml := ml) (n := n) (cap := cap) (bs := bs) h2) (As := []) (rest := []) (wr := [(st, .inr (0, [.null, .int 0, .int 0, .int 0]))] ++ (wSb (x_y X) sb sy ml n cap bs)) (ws' := fun _ => [(st, .inr (0, [.null, .int 0, .int 0, .int 0]))] ++ (wSb (x_y X) sb sy ml n cap bs)) (st' := fun _ => [.ref sy]) (ci := 1) 0 1 ⟨_, rfl⟩ rfl mw_4_156 mw_1_4 mw_4_152 mw_4_153 mw_4_155 hd_J5_getValue_6d5f1 rfl (g_rm hR rfl rfl) [] [0, 1, 2] [0, 1, 2] ⟨rfl, rfl, rfl, rfl, by decide, gRoIn_p [1, 2] rfl (by decide), rfl, fun _ => rfl⟩ rfl (Nat.le_of_ble_eq_true rfl) dJ0_init_db425_5 (g_rc hR (Nat.le_of_ble_eq_true rfl) (Nat.le_of_ble_eq_true rfl)) (ck' := 0) (sk' := 0) rfl rfl (fun _ => rfl) (fun _ _ => ?_) (fun _ hx => absurd rfl hx)
  refine g_astore_n C (lv' := [(3, .ref sy), (0, .ref st), (1, .ref sb), (2, .null)]) dJ0_init_db425_8 (g_nlt hn rfl) rfl ?_
  refine g_aload_n C 2 dJ0_init_db425_9 rfl ?_
  obtain ⟨v3, h4, hf⟩ := opt_bind hf
  refine g_callO C (c_J4_length_8abf5 (l := x_l X) (D := x_D X) (cy := x_y X) (sb := sb) (sy := sy) (ml := ml) (n := n) (cap := cap) (bs := bs) h4) (As := []) (rest := []) (wr := [(st, .inr (0, [.null, .int 0, .int 0, .int 0]))] ++ (wSb (x_y X) sb sy ml n cap bs)) (ws' := fun _ => [(st, .inr (0, [.null, .int 0, .int 0, .int 0]))] ++ (wSb (x_y X) sb sy ml n cap bs)) (st' := fun _ => [.int v3]) (ci := 1) 0 1 ⟨_, rfl⟩ rfl mw_4_162 mw_1_5 mw_4_157 mw_4_161 mw_4_160 gws_J5_length_8abf5 mw_4_158 mw_4_164 rfl (by decide) hd_J4_length_8abf5 rfl (g_rm hR rfl rfl) [] [0, 1, 2] [0, 1, 2] ⟨rfl, rfl, rfl, rfl, by decide, gRoIn_p [1, 2] rfl (by decide), rfl, fun _ => rfl⟩ rfl (Nat.le_of_ble_eq_true rfl) dJ0_init_db425_10 (g_rc hR (Nat.le_of_ble_eq_true rfl) (Nat.le_of_ble_eq_true rfl)) (ck' := 0) (sk' := 0) rfl rfl (fun _ => rfl) (fun _ _ => ?_) (fun _ hx => absurd rfl hx)
  refine g_istore C (lv' := [(4, .int v3), (3, .ref sy), (0, .ref st), (1, .ref sb), (2, .null)]) dJ0_init_db425_13 (g_nlt hn rfl) rfl ?_
  refine g_aload_n C 3 dJ0_init_db425_15 rfl ?_
  obtain ⟨v5, h6, hf⟩ := opt_bind hf
  refine g_callW C (c_J5_isLatin1_aae02 (l := x_l X) (D := x_D X) (cy := x_y X) (sb := sb) (sy := sy) (ml := ml) (n := n) (cap := cap) (bs := bs) h6) (As := []) (rest := []) (wr := [(st, .inr (0, [.null, .int 0, .int 0, .int 0]))] ++ (wSb (x_y X) sb sy ml n cap bs)) (ws' := fun _ => [(st, .inr (0, [.null, .int 0, .int 0, .int 0]))] ++ (wSb (x_y X) sb sy ml n cap bs)) (st' := fun _ => [.int v5]) (ci := 1) 0 1 ⟨_, rfl⟩ rfl mw_4_45 mw_1_4 mw_4_165 mw_4_42 mw_4_44 hd_J5_isLatin1_aae02 rfl (g_rm hR rfl rfl) [] [0, 1, 2] [0, 1, 2] ⟨rfl, rfl, rfl, rfl, by decide, gRoIn_p [1, 2] rfl (by decide), rfl, fun _ => rfl⟩ rfl (Nat.le_of_ble_eq_true rfl) dJ0_init_db425_16 (g_rc hR (Nat.le_of_ble_eq_true rfl) (Nat.le_of_ble_eq_true rfl)) (ck' := 0) (sk' := 0) rfl rfl (fun _ => rfl) (fun _ _ => ?_) (fun _ hx => absurd rfl hx)
  refine g_if_eq C 41 dJ0_init_db425_19 (by decide) (fun c7 => ?_) (fun c7 => ?_)
  · have hf := opt_pos c7 hf
    refine g_gets C mw_4_80 rfl dJ0_init_db425_41 ?_
    refine g_if_eq C 79 dJ0_init_db425_44 (by decide) (fun h => absurd h (by decide)) (fun _ => ?_)
    refine g_aload_n C 3 dJ0_init_db425_47 rfl ?_
    refine g_get C 1 2 rfl rfl wiJ4 (by decide) mw_1_140 rfl rfl dJ0_init_db425_48 ?_
    refine g_if_eq C 79 dJ0_init_db425_51 (by decide) (fun c8 => ?_) (fun c8 => ?_)
    · have hf := opt_pos c8 hf
      refine gW.locals [2, 3, 4, 1, 0] rfl ?_
      exact H79 sy v3 hf
    · have hf := opt_neg c8 hf
      refine g_aload_n C 2 dJ0_init_db425_54 rfl ?_
      refine g_aload_n C 1 dJ0_init_db425_55 rfl ?_
      refine g_iconst C (v := 0) dJ0_init_db425_56 (by decide) ?_
      refine g_iload C 0 dJ0_init_db425_57 rfl ?_
      cases hf
  · have hf := opt_neg c7 hf
    refine g_aload_n C 2 dJ0_init_db425_22 rfl ?_
    refine g_iconst C (v := 0) dJ0_init_db425_23 (by decide) ?_
    refine g_putF C (ws' := [(st, .inr (0, [.null, .int 0, .int 0, .int 0]))] ++ (wSb (x_y X) sb sy ml n cap bs)) 0 1 rfl rfl wiJ0 (by decide) tyJ0_ok nmJ0 mw_4_197 rfl rfl (hin rfl) rfl rfl rfl (Nat.le_of_ble_eq_true rfl) rfl dJ0_init_db425_24 ?_
    refine g_aload_n C 2 dJ0_init_db425_27 rfl ?_
    refine g_aload_n C 1 dJ0_init_db425_28 rfl ?_
    refine g_iconst C (v := 0) dJ0_init_db425_29 (by decide) ?_
    refine g_iload C 0 dJ0_init_db425_30 rfl ?_
    obtain ⟨v12, h13, hf⟩ := opt_bind hf
    refine g_callS C (c_J7_copyOfRange_39247 (l := x_l X) (D := x_D X) (cy := x_y X) (ab := sy) (bn := cap) (bb := bs) (p1 := 0) (p2 := v3) h13) (As := [.ref sy, .int 0, .int v3]) (rest := [.ref st]) (wr := [(st, .inr (0, [.null, .int 0, .int 0, .int 0]))] ++ [(sb, .inr (1, [.ref sy, .int 0, .int ml, .int n]))]) (ws' := fun u14 => [(st, .inr (0, [.null, .int 0, .int 0, .int 0]))] ++ (wSb (x_y X) sb sy ml n cap bs) ++ (wB1 (x_y X) u14 v12.1 v12.2)) (st' := fun u14 => [.ref u14, .ref st]) 3 mw_4_168 mw_1_23 mw_4_166 mw_4_167 hd_J7_copyOfRange_39247 rfl (g_rm hR rfl rfl) [2] [0, 1] [0, 1, 2, 3] ⟨rfl, rfl, rfl, rfl, by decide, gRoIn_0, rfl, fun _ => rfl⟩ rfl (Nat.le_of_ble_eq_true rfl) dJ0_init_db425_32 (g_rc hR (Nat.le_of_ble_eq_true rfl) (Nat.le_of_ble_eq_true rfl)) (ck' := 1) (sk' := 80) rfl rfl (fun _ => rfl) (fun u14 _ => ?_) (fun _ hx => absurd rfl hx)
    refine g_putF C (ws' := [(st, .inr (0, [.ref u14, .int 0, .int 0, .int 0]))] ++ (wSb (x_y X) sb sy ml n cap bs) ++ (wB1 (x_y X) u14 v12.1 v12.2)) 0 0 rfl rfl wiJ0 (by decide) tyJ0_ok nmJ0 mw_4_196 rfl rfl (hin rfl) rfl rfl rfl (Nat.le_of_ble_eq_true rfl) rfl dJ0_init_db425_35 ?_
    refine g_goto C 97 dJ0_init_db425_38 (by decide) ?_
    refine g_sub [0, 3, 1, 2] (ws' := (wStr (x_y X) st u14 0 0 v12.1 v12.2) ++ (wSb (x_y X) sb sy ml n cap bs)) (by decide) rfl ?_
    obtain rfl := Option.some.inj hf
    exact g_vret C E (u14, sy) dJ0_init_db425_97 rfl rfl rfl (Nat.le_of_ble_eq_true rfl) (Nat.le_of_ble_eq_true rfl)
/-! J0_init_81219 -/
theorem hd_J0_init_81219 : yJ0_init_81219.cls ≠ "java/lang/invoke/MethodHandle" ∧ yJ0_init_81219.cls ≠ "java/lang/invoke/VarHandle" ∧ (parseMethodDescriptor yJ0_init_81219.desc).map (fun d => d.parameters.length) = some 1 := by decide +kernel
def F_J0_init_81219 (ml : Int32) (n : Int32) (cap : Nat) (bs : Nat → Int32) : Option (Int32 × Int32 × Nat × (Nat → Int32)) := (F_J0_init_db425 ml n cap bs).bind fun v1 => some (v1.1, v1.2.1, v1.2.2.1, v1.2.2.2)
set_option maxRecDepth 100000 in
set_option maxHeartbeats 4000000 in
theorem c_J0_init_81219 {l : Launch} {D : va_G} {cy : Nat → ClassId} {st : Nat} {sb sy : Nat} {ml : Int32} {n : Int32} {cap : Nat} {bs : Nat → Int32}   {val : Int32 × Int32 × Nat × (Nat → Int32)} (hf : F_J0_init_81219 ml n cap bs = some val) : gCt l D cy yJ0_init_81219 cJ0_init_81219 2 none 4 100 1 80 [.ref st, .ref sb] [] ([(st, .inr (0, [.null, .int 0, .int 0, .int 0]))] ++ (wSb cy sb sy ml n cap bs)) 0 (fun u : Nat × Nat => none) (fun u => (wStr cy st u.1 val.1 val.2.1 val.2.2.1 val.2.2.2) ++ (wSb cy sb u.2 ml n cap bs)) := by
  refine g_begin (by decide +kernel) (Nat.le_of_ble_eq_true rfl) ?_
  intro X Q hl hR hD hy hro hn C hin E
  subst hl; subst hD; subst hy
  replace C : gC X "java/lang/String" cJ0_init_81219 none := C
  unfold F_J0_init_81219 at hf
  show gW X Q 0 0 ([(st, .inr (0, [.null, .int 0, .int 0, .int 0]))] ++ (wSb (x_y X) sb sy ml n cap bs)) [(0, .ref st), (1, .ref sb)] [] 0
  refine g_aload_n C 0 dJ0_init_81219_0 rfl ?_
  refine g_aload_n C 1 dJ0_init_81219_1 rfl ?_
  refine g_null C dJ0_init_81219_2 ?_
  obtain ⟨v1, h2, hf⟩ := opt_bind hf
  refine g_callI C (c_J0_init_db425 (l := x_l X) (D := x_D X) (cy := x_y X) (st := st) (sb := sb) (sy := sy) (ml := ml) (n := n) (cap := cap) (bs := bs) h2) (As := [.ref sb, .null]) (rest := []) (wr := []) (ws' := fun u3 => (wStr (x_y X) st u3.1 v1.1 v1.2.1 v1.2.2.1 v1.2.2.2) ++ (wSb (x_y X) sb u3.2 ml n cap bs)) (st' := fun u3 => []) 2 rfl mw_4_150 mw_1_6 mw_4_148 mw_4_149 hd_J0_init_db425 rfl (g_rm hR rfl rfl) [0, 1, 2] [] [0, 1, 2, 3] ⟨rfl, rfl, rfl, rfl, by decide, gRoIn_0, rfl, fun _ => rfl⟩ rfl (Nat.le_of_ble_eq_true rfl) dJ0_init_81219_3 (g_rc hR (Nat.le_of_ble_eq_true rfl) (Nat.le_of_ble_eq_true rfl)) (ck' := 1) (sk' := 80) rfl rfl (fun _ => rfl) (fun u3 _ => ?_) (fun _ hx => absurd rfl hx)
  refine g_eqw (ws' := (wStr (x_y X) st u3.1 v1.1 v1.2.1 v1.2.2.1 v1.2.2.2) ++ (wSb (x_y X) sb u3.2 ml n cap bs)) rfl ?_
  obtain rfl := Option.some.inj hf
  exact g_vret C E (u3.1, u3.2) dJ0_init_81219_6 rfl rfl rfl (Nat.le_of_ble_eq_true rfl) (Nat.le_of_ble_eq_true rfl)
/-! J4_toString_0e30d -/
theorem hd_J4_toString_0e30d : yJ4_toString_0e30d.cls ≠ "java/lang/invoke/MethodHandle" ∧ yJ4_toString_0e30d.cls ≠ "java/lang/invoke/VarHandle" ∧ (parseMethodDescriptor yJ4_toString_0e30d.desc).map (fun d => d.parameters.length) = some 0 := by decide +kernel
def F_J4_toString_0e30d (ml : Int32) (n : Int32) (cap : Nat) (bs : Nat → Int32) : Option (Int32 × Int32 × Nat × (Nat → Int32)) := (F_J0_init_81219 ml n cap bs).bind fun v2 => some (v2.1, v2.2.1, v2.2.2.1, v2.2.2.2)
set_option maxRecDepth 100000 in
set_option maxHeartbeats 4000000 in
theorem c_J4_toString_0e30d {l : Launch} {D : va_G} {cy : Nat → ClassId} {sb sy : Nat} {ml : Int32} {n : Int32} {cap : Nat} {bs : Nat → Int32}   {val : Int32 × Int32 × Nat × (Nat → Int32)} (hf : F_J4_toString_0e30d ml n cap bs = some val) : gCt l D cy yJ4_toString_0e30d cJ4_toString_0e30d 1 (some (.object "java/lang/String")) 5 121 2 84 [.ref sb] [] ((wSb cy sb sy ml n cap bs)) 0 (fun u : Nat × Nat × Nat => some (.ref u.2.1)) (fun u => (wSb cy sb u.1 ml n cap bs) ++ (wStr cy u.2.1 u.2.2 val.1 val.2.1 val.2.2.1 val.2.2.2)) := by
  refine g_begin (by decide +kernel) (Nat.le_of_ble_eq_true rfl) ?_
  intro X Q hl hR hD hy hro hn C hin E
  subst hl; subst hD; subst hy
  replace C : gC X "java/lang/StringBuilder" cJ4_toString_0e30d (some (.object "java/lang/String")) := C
  unfold F_J4_toString_0e30d at hf
  show gW X Q 0 0 ((wSb (x_y X) sb sy ml n cap bs)) [(0, .ref sb)] [] 0
  refine g_new C (ci := 0) (ty := tyJ0) (fs := [.null, .int 0, .int 0, .int 0]) rfl wiJ0 tyJ0_ok mw_4_144 mw_2_85 mw_1_6 dfJ0 (g_rc hR (Nat.le_of_ble_eq_true rfl) (Nat.le_of_ble_eq_true rfl)) (ck' := 1) (sk' := 4) rfl rfl dJ4_toString_0e30d_0 (fun q1 => ?_)
  refine g_dup C dJ4_toString_0e30d_3 rfl ?_
  refine g_aload_n C 0 dJ4_toString_0e30d_4 rfl ?_
  obtain ⟨v2, h3, hf⟩ := opt_bind hf
  refine g_callI C (c_J0_init_81219 (l := x_l X) (D := x_D X) (cy := x_y X) (st := q1) (sb := sb) (sy := sy) (ml := ml) (n := n) (cap := cap) (bs := bs) h3) (As := [.ref sb]) (rest := [.ref q1]) (wr := []) (ws' := fun u4 => (wSb (x_y X) sb u4.2 ml n cap bs) ++ (wStr (x_y X) q1 u4.1 v2.1 v2.2.1 v2.2.2.1 v2.2.2.2)) (st' := fun u4 => [.ref q1]) 1 rfl mw_4_147 mw_1_6 mw_4_145 mw_4_146 hd_J0_init_81219 rfl (g_rm hR rfl rfl) [2, 0, 1] [] [2, 3, 0, 1] ⟨rfl, rfl, rfl, rfl, by decide, gRoIn_0, rfl, fun _ => rfl⟩ rfl (Nat.le_of_ble_eq_true rfl) dJ4_toString_0e30d_5 (g_rc hR (Nat.le_of_ble_eq_true rfl) (Nat.le_of_ble_eq_true rfl)) (ck' := 2) (sk' := 84) rfl rfl (fun _ => rfl) (fun u4 _ => ?_) (fun _ hx => absurd rfl hx)
  refine g_eqw (ws' := (wSb (x_y X) sb u4.2 ml n cap bs) ++ (wStr (x_y X) q1 u4.1 v2.1 v2.2.1 v2.2.2.1 v2.2.2.2)) rfl ?_
  obtain rfl := Option.some.inj hf
  exact g_aret C E (u4.2, q1, u4.1) dJ4_toString_0e30d_8 (Or.inl ⟨_, rfl⟩) rfl rfl rfl (Nat.le_of_ble_eq_true rfl) (Nat.le_of_ble_eq_true rfl)
