/-! X10_levels -/
theorem hd_X10_levels : yX10_levels.cls ≠ "java/lang/invoke/MethodHandle" ∧ yX10_levels.cls ≠ "java/lang/invoke/VarHandle" ∧ (parseMethodDescriptor yX10_levels.desc).map (fun d => d.parameters.length) = some 0 := by decide +kernel
def F_X10_levels (rs : Int32) : Option (Int32) := some rs
set_option maxRecDepth 100000 in
set_option maxHeartbeats 4000000 in
theorem c_X10_levels {l : Launch} {D : va_G} {cy : Nat → ClassId} {v : Nat → Nat} {r : Nat → Nat} {nw : Nat} {kp : Nat} {ak : Int32} {bf : Nat} {fa : Int32} {ln : Nat} {co : Nat → Int32} {ch : Nat → Int32} {gs : Nat → Int32} {op : Nat → Int32} {rs : Int32} {rc : Nat → Int32} {rd : Nat → Int32}   {val : Int32} (hf : F_X10_levels rs = some val) : gCt l D cy yX10_levels cX10_levels 1 (some .int) 0 0 0 0 [.ref (v 0)] [] ((wV cy v nw kp ak bf fa (r 0) ln co ch gs op) ++ (wRep cy r rs rc rd)) 0 (fun _ : Unit => some (.int val)) (fun _ => (wV cy v nw kp ak bf fa (r 0) ln co ch gs op) ++ (wRep cy r rs rc rd)) := by
  refine g_begin (by decide +kernel) (Nat.le_of_ble_eq_true rfl) ?_
  intro X Q hl hR hD hy hro hn C hin E
  subst hl; subst hD; subst hy
  replace C : gC X "SecretVault" cX10_levels (some .int) := C
  unfold F_X10_levels at hf
  show gW X Q 0 0 ((wV (x_y X) v nw kp ak bf fa (r 0) ln co ch gs op) ++ (wRep (x_y X) r rs rc rd)) [(0, .ref (v 0))] [] 0
  refine g_aload_n C 0 dX10_levels_0 rfl ?_
  refine g_get C 0 5 rfl rfl wiX10 (by decide) mw_1_176 rfl rfl dX10_levels_1 ?_
  refine g_get C 5 2 rfl rfl wiX6 (by decide) mw_1_163 rfl rfl dX10_levels_4 ?_
  obtain rfl := Option.some.inj hf
  exact g_iret C E () dX10_levels_7 rfl rfl rfl (Nat.le_of_ble_eq_true rfl) (Nat.le_of_ble_eq_true rfl)
/-! X10_report -/
theorem hd_X10_report : yX10_report.cls ≠ "java/lang/invoke/MethodHandle" ∧ yX10_report.cls ≠ "java/lang/invoke/VarHandle" ∧ (parseMethodDescriptor yX10_report.desc).map (fun d => d.parameters.length) = some 2 := by decide +kernel
def F_X10_report_L15    : Option (Nat × Int32) := some (3, 0)
def F_X10_report_L56   (s0_56 : Int32) : Option (Nat × Int32) := some (0, s0_56)
def F_X10_report (rs : Int32) (rc : Nat → Int32) (rd : Nat → Int32) (p0 : Int32) (p1 : Int32) : Option (Nat × Int32) := if p0 < 0 then (F_X10_report_L15 ) else (if p0 < rs then ((F_X10_checkWhat p1 1).bind fun v3 => if v3 = 0 then (if p1 = 0 then (gg (gi p0 26) (F_X10_report_L56 (rc (Int32.toNatClampNeg p0)))) else (gg (gi p0 26) (F_X10_report_L56 (rd (Int32.toNatClampNeg p0))))) else some (v3, 0)) else (F_X10_report_L15 ))
set_option maxRecDepth 100000 in
set_option maxHeartbeats 4000000 in
theorem c_X10_report {l : Launch} {D : va_G} {cy : Nat → ClassId} {v : Nat → Nat} {r : Nat → Nat} {nw : Nat} {kp : Nat} {ak : Int32} {bf : Nat} {fa : Int32} {ln : Nat} {co : Nat → Int32} {ch : Nat → Int32} {gs : Nat → Int32} {op : Nat → Int32} {rs : Int32} {rc : Nat → Int32} {rd : Nat → Int32} {p0 : Int32} {p1 : Int32}  {val : Nat × Int32} (hf : F_X10_report rs rc rd p0 p1 = some val) : gCt l D cy yX10_report cX10_report 3 (some .int) 7 103 1 6 [.ref (v 0), .int p0, .int p1] [] ((wV cy v nw kp ak bf fa (r 0) ln co ch gs op) ++ (wRep cy r rs rc rd)) val.1 (fun _ : Unit => some (.int val.2)) (fun _ => (wV cy v nw kp ak bf fa (r 0) ln co ch gs op) ++ (wRep cy r rs rc rd)) := by
  refine g_begin (by decide +kernel) (Nat.le_of_ble_eq_true rfl) ?_
  intro X Q hl hR hD hy hro hn C hin E
  subst hl; subst hD; subst hy
  replace C : gC X "SecretVault" cX10_report (some .int) := C
  unfold F_X10_report at hf
  have H15 :  F_X10_report_L15 = some val → gW X Q 0 0 ((wV (x_y X) v nw kp ak bf fa (r 0) ln co ch gs op) ++ (wRep (x_y X) r rs rc rd)) [(0, .ref (v 0)), (1, .int p0), (2, .int p1)] [] 15 := by
    intro hf
    unfold F_X10_report_L15 at hf
    obtain rfl := Option.some.inj hf
    exact g_throwNW C E () (text := "no such level") gTh_3 ms_325 dX10_report_15 dX10_report_18 dX10_report_19 dX10_report_22 dX10_report_25 (g_th hR rfl rfl) (g_rc hR (Nat.le_of_ble_eq_true rfl) (Nat.le_of_ble_eq_true rfl)) (Nat.succ_ne_zero 2) rfl rfl (Nat.le_of_ble_eq_true rfl) (Nat.le_of_ble_eq_true rfl)
  have H56 : ∀ (s0_56 : Int32), F_X10_report_L56 s0_56 = some val → gW X Q 1 6 ((wV (x_y X) v nw kp ak bf fa (r 0) ln co ch gs op) ++ (wRep (x_y X) r rs rc rd)) [(0, .ref (v 0)), (1, .int p0), (2, .int p1)] [.int s0_56] 56 := by
    intro s0_56 hf
    unfold F_X10_report_L56 at hf
    obtain rfl := Option.some.inj hf
    exact g_iret C E () dX10_report_56 rfl rfl rfl (Nat.le_of_ble_eq_true rfl) (Nat.le_of_ble_eq_true rfl)
  show gW X Q 0 0 ((wV (x_y X) v nw kp ak bf fa (r 0) ln co ch gs op) ++ (wRep (x_y X) r rs rc rd)) [(0, .ref (v 0)), (1, .int p0), (2, .int p1)] [] 0
  refine g_iload_n C 1 dX10_report_0 rfl ?_
  refine g_if_lt C 15 dX10_report_1 (by decide) (fun c1 => ?_) (fun c1 => ?_)
  · have hf := opt_pos c1 hf
    exact H15 hf
  · have hf := opt_neg c1 hf
    refine g_iload_n C 1 dX10_report_4 rfl ?_
    refine g_aload_n C 0 dX10_report_5 rfl ?_
    refine g_get C 0 5 rfl rfl wiX10 (by decide) mw_1_176 rfl rfl dX10_report_6 ?_
    refine g_get C 5 2 rfl rfl wiX6 (by decide) mw_1_163 rfl rfl dX10_report_9 ?_
    refine g_icmp_lt C 26 dX10_report_12 (by decide) (fun c2 => ?_) (fun c2 => ?_)
    · have hf := opt_pos c2 hf
      refine g_iload_n C 2 dX10_report_26 rfl ?_
      refine g_iconst C (v := 1) dX10_report_27 (by decide) ?_
      obtain ⟨v3, h4, hf⟩ := opt_bind hf
      refine g_callS C (c_X10_checkWhat (l := x_l X) (D := x_D X) (cy := x_y X) (p0 := p1) (p1 := 1) h4) (As := [.int p1, .int 1]) (rest := []) (wr := (wV (x_y X) v nw kp ak bf fa (r 0) ln co ch gs op) ++ (wRep (x_y X) r rs rc rd)) (ws' := fun _ => (wV (x_y X) v nw kp ak bf fa (r 0) ln co ch gs op) ++ (wRep (x_y X) r rs rc rd)) (st' := fun _ => []) 2 mw_2_146 mw_1_1 mw_2_144 mw_2_145 hd_X10_checkWhat rfl (g_rm hR rfl rfl) [] [0, 1, 2, 3, 4, 5, 6, 7] [0, 1, 2, 3, 4, 5, 6, 7] ⟨rfl, rfl, rfl, rfl, by decide, gRoIn_0, rfl, fun _ => rfl⟩ rfl (Nat.le_of_ble_eq_true rfl) dX10_report_28 (g_rc hR (Nat.le_of_ble_eq_true rfl) (Nat.le_of_ble_eq_true rfl)) (ck' := 1) (sk' := 6) rfl rfl (fun _ => rfl) (fun _ ev3 => ?_) (fun _ ev3 => ?_)
      rotate_left
      · have hf := opt_neg ev3 hf
        obtain rfl := Option.some.inj hf
        exact g_out E () rfl ev3 rfl (Nat.le_of_ble_eq_true rfl) (Nat.le_of_ble_eq_true rfl)
      have hf := opt_pos ev3 hf
      refine g_iload_n C 2 dX10_report_31 rfl ?_
      refine g_if_ne C 47 dX10_report_32 (by decide) (fun c5 => ?_) (fun c5 => ?_)
      · have hf := opt_neg c5 hf
        refine g_aload_n C 0 dX10_report_47 rfl ?_
        refine g_get C 0 5 rfl rfl wiX10 (by decide) mw_1_176 rfl rfl dX10_report_48 ?_
        refine g_get C 5 1 rfl rfl wiX6 (by decide) mw_1_161 rfl rfl dX10_report_51 ?_
        refine g_iload_n C 1 dX10_report_54 rfl ?_
        obtain ⟨c6, hf⟩ := gg_of hf
        refine g_iald C 7 rfl (gi_in c6) dX10_report_55 ?_
        exact H56 (rd (Int32.toNatClampNeg p0)) hf
      · have hf := opt_pos c5 hf
        refine g_aload_n C 0 dX10_report_35 rfl ?_
        refine g_get C 0 5 rfl rfl wiX10 (by decide) mw_1_176 rfl rfl dX10_report_36 ?_
        refine g_get C 5 0 rfl rfl wiX6 (by decide) mw_1_159 rfl rfl dX10_report_39 ?_
        refine g_iload_n C 1 dX10_report_42 rfl ?_
        obtain ⟨c7, hf⟩ := gg_of hf
        refine g_iald C 6 rfl (gi_in c7) dX10_report_43 ?_
        refine g_goto C 56 dX10_report_44 (by decide) ?_
        exact H56 (rc (Int32.toNatClampNeg p0)) hf
    · have hf := opt_neg c2 hf
      exact H15 hf
/-! X10_goodSharesOf -/
theorem hd_X10_goodSharesOf : yX10_goodSharesOf.cls ≠ "java/lang/invoke/MethodHandle" ∧ yX10_goodSharesOf.cls ≠ "java/lang/invoke/VarHandle" ∧ (parseMethodDescriptor yX10_goodSharesOf.desc).map (fun d => d.parameters.length) = some 1 := by decide +kernel
def F_X10_goodSharesOf_L29  (K4 : Int32 → Int32 → Option (Int32)) (l3_29 : Int32) (s0_29 : Int32) (s1_29 : Int32) : Option (Int32) := K4 (s1_29 + s0_29) (l3_29 + 1)
def F_X10_goodSharesOf_L4 (gs : Nat → Int32) (p0 : Int32)  : Nat → Int32 → Int32 → Option (Int32)
  | 0, _, _ => none
  | n + 1, l2_4, l3_4 => if 8 ≤ l3_4 then (some l2_4) else ((F_X10_contains p0 l3_4).bind fun v2 => if v2 = 0 then (F_X10_goodSharesOf_L29 (F_X10_goodSharesOf_L4 gs p0 n) l3_4 0 l2_4) else (gg (gi l3_4 8) (F_X10_goodSharesOf_L29 (F_X10_goodSharesOf_L4 gs p0 n) l3_4 (gs (Int32.toNatClampNeg l3_4)) l2_4)))
def F_X10_goodSharesOf (gs : Nat → Int32) (p0 : Int32) : Option (Int32) := F_X10_goodSharesOf_L4 gs p0 1000 0 0
set_option maxRecDepth 100000 in
set_option maxHeartbeats 4000000 in
theorem c_X10_goodSharesOf {l : Launch} {D : va_G} {cy : Nat → ClassId} {v : Nat → Nat} {nw : Nat} {kp : Nat} {ak : Int32} {bf : Nat} {fa : Int32} {fl : Nat} {ln : Nat} {co : Nat → Int32} {ch : Nat → Int32} {gs : Nat → Int32} {op : Nat → Int32} {p0 : Int32}  {val : Int32} (hf : F_X10_goodSharesOf gs p0 = some val) : gCt l D cy yX10_goodSharesOf cX10_goodSharesOf 4 (some .int) 1 21 0 0 [.ref (v 0), .int p0] [] ((wV cy v nw kp ak bf fa fl ln co ch gs op)) 0 (fun _ : Unit => some (.int val)) (fun _ => (wV cy v nw kp ak bf fa fl ln co ch gs op)) := by
  refine g_begin (by decide +kernel) (Nat.le_of_ble_eq_true rfl) ?_
  intro X Q hl hR hD hy hro hn C hin E
  subst hl; subst hD; subst hy
  replace C : gC X "SecretVault" cX10_goodSharesOf (some .int) := C
  unfold F_X10_goodSharesOf at hf
  have H4 : ∀ (n4 : Nat), ∀ (l2_4 : Int32) (l3_4 : Int32), F_X10_goodSharesOf_L4 gs p0 n4 l2_4 l3_4 = some val → gW X Q 0 0 ((wV (x_y X) v nw kp ak bf fa fl ln co ch gs op)) [(0, .ref (v 0)), (1, .int p0), (2, .int l2_4), (3, .int l3_4)] [] 4 := by
    intro n4
    induction n4 with
    | zero => intros; rename_i hf; cases hf
    | succ n4 ih =>
      intro l2_4 l3_4 hf
      have H4 := ih
      rw [F_X10_goodSharesOf_L4] at hf
      have H29 : ∀ (l3_29 : Int32) (s0_29 : Int32) (s1_29 : Int32), F_X10_goodSharesOf_L29 (F_X10_goodSharesOf_L4 gs p0 n4) l3_29 s0_29 s1_29 = some val → gW X Q 0 0 ((wV (x_y X) v nw kp ak bf fa fl ln co ch gs op)) [(0, .ref (v 0)), (1, .int p0), (3, .int l3_29)] [.int s0_29, .int s1_29] 29 := by
        intro l3_29 s0_29 s1_29 hf
        unfold F_X10_goodSharesOf_L29 at hf
        refine g_iadd C dX10_goodSharesOf_29 ?_
        refine g_istore_n C (lv' := [(2, .int (s1_29 + s0_29)), (0, .ref (v 0)), (1, .int p0), (3, .int l3_29)]) dX10_goodSharesOf_30 (g_nlt hn rfl) rfl ?_
        refine g_iinc C 3 (v := l3_29 + 1) (lv' := [(3, .int (l3_29 + 1)), (2, .int (s1_29 + s0_29)), (0, .ref (v 0)), (1, .int p0)]) dX10_goodSharesOf_31 rfl rfl (g_nlt hn rfl) rfl ?_
        refine g_goto C 4 dX10_goodSharesOf_34 (by decide) ?_
        refine gW.locals [2, 3, 1, 0] rfl ?_
        exact H4 (s1_29 + s0_29) (l3_29 + 1) hf
      refine g_iload_n C 3 dX10_goodSharesOf_4 rfl ?_
      refine g_bipush C (v := 8) dX10_goodSharesOf_5 (by decide) ?_
      refine g_icmp_ge C 37 dX10_goodSharesOf_7 (by decide) (fun c1 => ?_) (fun c1 => ?_)
      · have hf := opt_pos c1 hf
        refine g_iload_n C 2 dX10_goodSharesOf_37 rfl ?_
        obtain rfl := Option.some.inj hf
        exact g_iret C E () dX10_goodSharesOf_38 rfl rfl rfl (Nat.le_of_ble_eq_true rfl) (Nat.le_of_ble_eq_true rfl)
      · have hf := opt_neg c1 hf
        refine g_iload_n C 2 dX10_goodSharesOf_10 rfl ?_
        refine g_iload_n C 1 dX10_goodSharesOf_11 rfl ?_
        refine g_iload_n C 3 dX10_goodSharesOf_12 rfl ?_
        obtain ⟨v2, h3, hf⟩ := opt_bind hf
        refine g_callS C (c_X10_contains (l := x_l X) (D := x_D X) (cy := x_y X) (p0 := p0) (p1 := l3_4) h3) (As := [.int p0, .int l3_4]) (rest := [.int l2_4]) (wr := (wV (x_y X) v nw kp ak bf fa fl ln co ch gs op)) (ws' := fun _ => (wV (x_y X) v nw kp ak bf fa fl ln co ch gs op)) (st' := fun _ => [.int v2, .int l2_4]) 2 mw_2_136 mw_1_1 mw_2_134 mw_2_135 hd_X10_contains rfl (g_rm hR rfl rfl) [] [0, 1, 2, 3, 4] [0, 1, 2, 3, 4] ⟨rfl, rfl, rfl, rfl, by decide, gRoIn_0, rfl, fun _ => rfl⟩ rfl (Nat.le_of_ble_eq_true rfl) dX10_goodSharesOf_13 (g_rc hR (Nat.le_of_ble_eq_true rfl) (Nat.le_of_ble_eq_true rfl)) (ck' := 0) (sk' := 0) rfl rfl (fun _ => rfl) (fun _ _ => ?_) (fun _ hx => absurd rfl hx)
        refine g_if_eq C 28 dX10_goodSharesOf_16 (by decide) (fun c4 => ?_) (fun c4 => ?_)
        · have hf := opt_pos c4 hf
          refine g_iconst C (v := 0) dX10_goodSharesOf_28 (by decide) ?_
          refine gW.locals [0, 1, 3] rfl ?_
          exact H29 l3_4 0 l2_4 hf
        · have hf := opt_neg c4 hf
          refine g_aload_n C 0 dX10_goodSharesOf_19 rfl ?_
          refine g_get C 0 8 rfl rfl wiX10 (by decide) mw_1_179 rfl rfl dX10_goodSharesOf_20 ?_
          refine g_iload_n C 3 dX10_goodSharesOf_23 rfl ?_
          obtain ⟨c5, hf⟩ := gg_of hf
          refine g_iald C 3 rfl (gi_in c5) dX10_goodSharesOf_24 ?_
          refine g_goto C 29 dX10_goodSharesOf_25 (by decide) ?_
          refine gW.locals [0, 1, 3] rfl ?_
          exact H29 l3_4 (gs (Int32.toNatClampNeg l3_4)) l2_4 hf
  show gW X Q 0 0 ((wV (x_y X) v nw kp ak bf fa fl ln co ch gs op)) [(0, .ref (v 0)), (1, .int p0)] [] 0
  refine g_iconst C (v := 0) dX10_goodSharesOf_0 (by decide) ?_
  refine g_istore_n C (lv' := [(2, .int 0), (0, .ref (v 0)), (1, .int p0)]) dX10_goodSharesOf_1 (g_nlt hn rfl) rfl ?_
  refine g_iconst C (v := 0) dX10_goodSharesOf_2 (by decide) ?_
  refine g_istore_n C (lv' := [(3, .int 0), (2, .int 0), (0, .ref (v 0)), (1, .int p0)]) dX10_goodSharesOf_3 (g_nlt hn rfl) rfl ?_
  refine gW.locals [2, 3, 1, 0] rfl ?_
  exact H4 1000 0 0 hf
/-! X10_isNeeded -/
theorem hd_X10_isNeeded : yX10_isNeeded.cls ≠ "java/lang/invoke/MethodHandle" ∧ yX10_isNeeded.cls ≠ "java/lang/invoke/VarHandle" ∧ (parseMethodDescriptor yX10_isNeeded.desc).map (fun d => d.parameters.length) = some 2 := by decide +kernel
def F_X10_isNeeded_L37   (s0_37 : Int32) : Option (Int32) := gg (gnar .boolean s0_37) (some s0_37)
def F_X10_isNeeded_L36    : Option (Int32) := F_X10_isNeeded_L37 0
def F_X10_isNeeded (op : Nat → Int32) (p0 : Int32) (p1 : Int32) : Option (Int32) := (F_X10_contains p1 p0).bind fun v1 => if v1 = 0 then (F_X10_isNeeded_L36 ) else (gg (gi p1 256) (if (op (Int32.toNatClampNeg p1)) = 0 then (F_X10_isNeeded_L36 ) else (gg (gi (p1 &&& (((1 : Int32) <<< (p0 &&& 31)) ^^^ (-1))) 256) (if (op (Int32.toNatClampNeg (p1 &&& (((1 : Int32) <<< (p0 &&& 31)) ^^^ (-1))))) = 0 then (F_X10_isNeeded_L37 1) else (F_X10_isNeeded_L36 )))))
set_option maxRecDepth 100000 in
set_option maxHeartbeats 4000000 in
theorem c_X10_isNeeded {l : Launch} {D : va_G} {cy : Nat → ClassId} {v : Nat → Nat} {nw : Nat} {kp : Nat} {ak : Int32} {bf : Nat} {fa : Int32} {fl : Nat} {ln : Nat} {co : Nat → Int32} {ch : Nat → Int32} {gs : Nat → Int32} {op : Nat → Int32} {p0 : Int32} {p1 : Int32}  {val : Int32} (hf : F_X10_isNeeded op p0 p1 = some val) : gCt l D cy yX10_isNeeded cX10_isNeeded 3 (some .boolean) 1 21 0 0 [.ref (v 0), .int p0, .int p1] [] ((wV cy v nw kp ak bf fa fl ln co ch gs op)) 0 (fun _ : Unit => some (.int val)) (fun _ => (wV cy v nw kp ak bf fa fl ln co ch gs op)) := by
  refine g_begin (by decide +kernel) (Nat.le_of_ble_eq_true rfl) ?_
  intro X Q hl hR hD hy hro hn C hin E
  subst hl; subst hD; subst hy
  replace C : gC X "SecretVault" cX10_isNeeded (some .boolean) := C
  unfold F_X10_isNeeded at hf
  have H37 : ∀ (s0_37 : Int32), F_X10_isNeeded_L37 s0_37 = some val → gW X Q 0 0 ((wV (x_y X) v nw kp ak bf fa fl ln co ch gs op)) [(0, .ref (v 0)), (1, .int p0), (2, .int p1)] [.int s0_37] 37 := by
    intro s0_37 hf
    unfold F_X10_isNeeded_L37 at hf
    obtain ⟨c4, hf⟩ := gg_of hf
    obtain rfl := Option.some.inj hf
    exact g_zret C E () (gnar_of c4) dX10_isNeeded_37 rfl rfl rfl (Nat.le_of_ble_eq_true rfl) (Nat.le_of_ble_eq_true rfl)
  have H36 :  F_X10_isNeeded_L36 = some val → gW X Q 0 0 ((wV (x_y X) v nw kp ak bf fa fl ln co ch gs op)) [(0, .ref (v 0)), (1, .int p0), (2, .int p1)] [] 36 := by
    intro hf
    unfold F_X10_isNeeded_L36 at hf
    refine g_iconst C (v := 0) dX10_isNeeded_36 (by decide) ?_
    exact H37 0 hf
  show gW X Q 0 0 ((wV (x_y X) v nw kp ak bf fa fl ln co ch gs op)) [(0, .ref (v 0)), (1, .int p0), (2, .int p1)] [] 0
  refine g_iload_n C 2 dX10_isNeeded_0 rfl ?_
  refine g_iload_n C 1 dX10_isNeeded_1 rfl ?_
  obtain ⟨v1, h2, hf⟩ := opt_bind hf
  refine g_callS C (c_X10_contains (l := x_l X) (D := x_D X) (cy := x_y X) (p0 := p1) (p1 := p0) h2) (As := [.int p1, .int p0]) (rest := []) (wr := (wV (x_y X) v nw kp ak bf fa fl ln co ch gs op)) (ws' := fun _ => (wV (x_y X) v nw kp ak bf fa fl ln co ch gs op)) (st' := fun _ => [.int v1]) 2 mw_2_136 mw_1_1 mw_2_134 mw_2_135 hd_X10_contains rfl (g_rm hR rfl rfl) [] [0, 1, 2, 3, 4] [0, 1, 2, 3, 4] ⟨rfl, rfl, rfl, rfl, by decide, gRoIn_0, rfl, fun _ => rfl⟩ rfl (Nat.le_of_ble_eq_true rfl) dX10_isNeeded_2 (g_rc hR (Nat.le_of_ble_eq_true rfl) (Nat.le_of_ble_eq_true rfl)) (ck' := 0) (sk' := 0) rfl rfl (fun _ => rfl) (fun _ _ => ?_) (fun _ hx => absurd rfl hx)
  refine g_if_eq C 36 dX10_isNeeded_5 (by decide) (fun c3 => ?_) (fun c3 => ?_)
  · have hf := opt_pos c3 hf
    exact H36 hf
  · have hf := opt_neg c3 hf
    refine g_aload_n C 0 dX10_isNeeded_8 rfl ?_
    refine g_get C 0 9 rfl rfl wiX10 (by decide) mw_1_180 rfl rfl dX10_isNeeded_9 ?_
    refine g_iload_n C 2 dX10_isNeeded_12 rfl ?_
    obtain ⟨c5, hf⟩ := gg_of hf
    refine g_zald C 4 rfl (gi_in c5) dX10_isNeeded_13 ?_
    refine g_if_eq C 36 dX10_isNeeded_14 (by decide) (fun c6 => ?_) (fun c6 => ?_)
    · have hf := opt_pos c6 hf
      exact H36 hf
    · have hf := opt_neg c6 hf
      refine g_aload_n C 0 dX10_isNeeded_17 rfl ?_
      refine g_get C 0 9 rfl rfl wiX10 (by decide) mw_1_180 rfl rfl dX10_isNeeded_18 ?_
      refine g_iload_n C 2 dX10_isNeeded_21 rfl ?_
      refine g_iconst C (v := 1) dX10_isNeeded_22 (by decide) ?_
      refine g_iload_n C 1 dX10_isNeeded_23 rfl ?_
      refine g_ishl C dX10_isNeeded_24 ?_
      refine g_iconst C (v := (-1)) dX10_isNeeded_25 (by decide) ?_
      refine g_ixor C dX10_isNeeded_26 ?_
      refine g_iand C dX10_isNeeded_27 ?_
      obtain ⟨c7, hf⟩ := gg_of hf
      refine g_zald C 4 rfl (gi_in c7) dX10_isNeeded_28 ?_
      refine g_if_ne C 36 dX10_isNeeded_29 (by decide) (fun c8 => ?_) (fun c8 => ?_)
      · have hf := opt_neg c8 hf
        exact H36 hf
      · have hf := opt_pos c8 hf
        refine g_iconst C (v := 1) dX10_isNeeded_32 (by decide) ?_
        refine g_goto C 37 dX10_isNeeded_33 (by decide) ?_
        exact H37 1 hf
/-! X10_needsAllMembers -/
theorem hd_X10_needsAllMembers : yX10_needsAllMembers.cls ≠ "java/lang/invoke/MethodHandle" ∧ yX10_needsAllMembers.cls ≠ "java/lang/invoke/VarHandle" ∧ (parseMethodDescriptor yX10_needsAllMembers.desc).map (fun d => d.parameters.length) = some 1 := by decide +kernel
def F_X10_needsAllMembers_L27  (K2 : Int32 → Option (Int32)) (l2_27 : Int32) : Option (Int32) := K2 (l2_27 + 1)
def F_X10_needsAllMembers_L2 (op : Nat → Int32) (p0 : Int32)  : Nat → Int32 → Option (Int32)
  | 0, _ => none
  | n + 1, l2_2 => if 8 ≤ l2_2 then (gg (gi p0 256) (gg (gnar .boolean (op (Int32.toNatClampNeg p0))) (some (op (Int32.toNatClampNeg p0))))) else ((F_X10_contains p0 l2_2).bind fun v4 => if v4 = 0 then (F_X10_needsAllMembers_L27 (F_X10_needsAllMembers_L2 op p0 n) l2_2) else ((F_X10_isNeeded op l2_2 p0).bind fun v7 => if v7 = 0 then (some 0) else (F_X10_needsAllMembers_L27 (F_X10_needsAllMembers_L2 op p0 n) l2_2)))
def F_X10_needsAllMembers (op : Nat → Int32) (p0 : Int32) : Option (Int32) := F_X10_needsAllMembers_L2 op p0 1000 0
set_option maxRecDepth 100000 in
set_option maxHeartbeats 4000000 in
theorem c_X10_needsAllMembers {l : Launch} {D : va_G} {cy : Nat → ClassId} {v : Nat → Nat} {nw : Nat} {kp : Nat} {ak : Int32} {bf : Nat} {fa : Int32} {fl : Nat} {ln : Nat} {co : Nat → Int32} {ch : Nat → Int32} {gs : Nat → Int32} {op : Nat → Int32} {p0 : Int32}  {val : Int32} (hf : F_X10_needsAllMembers op p0 = some val) : gCt l D cy yX10_needsAllMembers cX10_needsAllMembers 3 (some .boolean) 2 43 0 0 [.ref (v 0), .int p0] [] ((wV cy v nw kp ak bf fa fl ln co ch gs op)) 0 (fun _ : Unit => some (.int val)) (fun _ => (wV cy v nw kp ak bf fa fl ln co ch gs op)) := by
  refine g_begin (by decide +kernel) (Nat.le_of_ble_eq_true rfl) ?_
  intro X Q hl hR hD hy hro hn C hin E
  subst hl; subst hD; subst hy
  replace C : gC X "SecretVault" cX10_needsAllMembers (some .boolean) := C
  unfold F_X10_needsAllMembers at hf
  have H2 : ∀ (n2 : Nat), ∀ (l2_2 : Int32), F_X10_needsAllMembers_L2 op p0 n2 l2_2 = some val → gW X Q 0 0 ((wV (x_y X) v nw kp ak bf fa fl ln co ch gs op)) [(0, .ref (v 0)), (1, .int p0), (2, .int l2_2)] [] 2 := by
    intro n2
    induction n2 with
    | zero => intros; rename_i hf; cases hf
    | succ n2 ih =>
      intro l2_2 hf
      have H2 := ih
      rw [F_X10_needsAllMembers_L2] at hf
      have H27 : ∀ (l2_27 : Int32), F_X10_needsAllMembers_L27 (F_X10_needsAllMembers_L2 op p0 n2) l2_27 = some val → gW X Q 0 0 ((wV (x_y X) v nw kp ak bf fa fl ln co ch gs op)) [(0, .ref (v 0)), (1, .int p0), (2, .int l2_27)] [] 27 := by
        intro l2_27 hf
        unfold F_X10_needsAllMembers_L27 at hf
        refine g_iinc C 2 (v := l2_27 + 1) (lv' := [(2, .int (l2_27 + 1)), (0, .ref (v 0)), (1, .int p0)]) dX10_needsAllMembers_27 rfl rfl (g_nlt hn rfl) rfl ?_
        refine g_goto C 2 dX10_needsAllMembers_30 (by decide) ?_
        refine gW.locals [1, 2, 0] rfl ?_
        exact H2 (l2_27 + 1) hf
      refine g_iload_n C 2 dX10_needsAllMembers_2 rfl ?_
      refine g_bipush C (v := 8) dX10_needsAllMembers_3 (by decide) ?_
      refine g_icmp_ge C 33 dX10_needsAllMembers_5 (by decide) (fun c1 => ?_) (fun c1 => ?_)
      · have hf := opt_pos c1 hf
        refine g_aload_n C 0 dX10_needsAllMembers_33 rfl ?_
        refine g_get C 0 9 rfl rfl wiX10 (by decide) mw_1_180 rfl rfl dX10_needsAllMembers_34 ?_
        refine g_iload_n C 1 dX10_needsAllMembers_37 rfl ?_
        obtain ⟨c2, hf⟩ := gg_of hf
        refine g_zald C 4 rfl (gi_in c2) dX10_needsAllMembers_38 ?_
        obtain ⟨c3, hf⟩ := gg_of hf
        obtain rfl := Option.some.inj hf
        exact g_zret C E () (gnar_of c3) dX10_needsAllMembers_39 rfl rfl rfl (Nat.le_of_ble_eq_true rfl) (Nat.le_of_ble_eq_true rfl)
      · have hf := opt_neg c1 hf
        refine g_iload_n C 1 dX10_needsAllMembers_8 rfl ?_
        refine g_iload_n C 2 dX10_needsAllMembers_9 rfl ?_
        obtain ⟨v4, h5, hf⟩ := opt_bind hf
        refine g_callS C (c_X10_contains (l := x_l X) (D := x_D X) (cy := x_y X) (p0 := p0) (p1 := l2_2) h5) (As := [.int p0, .int l2_2]) (rest := []) (wr := (wV (x_y X) v nw kp ak bf fa fl ln co ch gs op)) (ws' := fun _ => (wV (x_y X) v nw kp ak bf fa fl ln co ch gs op)) (st' := fun _ => [.int v4]) 2 mw_2_136 mw_1_1 mw_2_134 mw_2_135 hd_X10_contains rfl (g_rm hR rfl rfl) [] [0, 1, 2, 3, 4] [0, 1, 2, 3, 4] ⟨rfl, rfl, rfl, rfl, by decide, gRoIn_0, rfl, fun _ => rfl⟩ rfl (Nat.le_of_ble_eq_true rfl) dX10_needsAllMembers_10 (g_rc hR (Nat.le_of_ble_eq_true rfl) (Nat.le_of_ble_eq_true rfl)) (ck' := 0) (sk' := 0) rfl rfl (fun _ => rfl) (fun _ _ => ?_) (fun _ hx => absurd rfl hx)
        refine g_if_eq C 27 dX10_needsAllMembers_13 (by decide) (fun c6 => ?_) (fun c6 => ?_)
        · have hf := opt_pos c6 hf
          exact H27 l2_2 hf
        · have hf := opt_neg c6 hf
          refine g_aload_n C 0 dX10_needsAllMembers_16 rfl ?_
          refine g_iload_n C 2 dX10_needsAllMembers_17 rfl ?_
          refine g_iload_n C 1 dX10_needsAllMembers_18 rfl ?_
          obtain ⟨v7, h8, hf⟩ := opt_bind hf
          refine g_callV C (c_X10_isNeeded (l := x_l X) (D := x_D X) (cy := x_y X) (v := v) (nw := nw) (kp := kp) (ak := ak) (bf := bf) (fa := fa) (fl := fl) (ln := ln) (co := co) (ch := ch) (gs := gs) (op := op) (p0 := l2_2) (p1 := p0) h8) (As := [.int l2_2, .int p0]) (rest := []) (wr := []) (ws' := fun _ => (wV (x_y X) v nw kp ak bf fa fl ln co ch gs op)) (st' := fun _ => [.int v7]) (ci := 11) 2 0 ⟨_, rfl⟩ rfl rfl mw_6_109 mw_1_1 mw_6_106 mw_6_108 mp_28 hd_X10_isNeeded rfl (g_rm hR rfl rfl) [0, 1, 2, 3, 4] [] [0, 1, 2, 3, 4] ⟨rfl, rfl, rfl, rfl, by decide, gRoIn_0, rfl, fun _ => rfl⟩ rfl (Nat.le_of_ble_eq_true rfl) dX10_needsAllMembers_19 (g_rc hR (Nat.le_of_ble_eq_true rfl) (Nat.le_of_ble_eq_true rfl)) (ck' := 0) (sk' := 0) rfl rfl (fun _ => rfl) (fun _ _ => ?_) (fun _ hx => absurd rfl hx)
          refine g_if_ne C 27 dX10_needsAllMembers_22 (by decide) (fun c9 => ?_) (fun c9 => ?_)
          · have hf := opt_neg c9 hf
            exact H27 l2_2 hf
          · have hf := opt_pos c9 hf
            refine g_iconst C (v := 0) dX10_needsAllMembers_25 (by decide) ?_
            obtain rfl := Option.some.inj hf
            exact g_zret C E () rfl dX10_needsAllMembers_26 rfl rfl rfl (Nat.le_of_ble_eq_true rfl) (Nat.le_of_ble_eq_true rfl)
  show gW X Q 0 0 ((wV (x_y X) v nw kp ak bf fa fl ln co ch gs op)) [(0, .ref (v 0)), (1, .int p0)] [] 0
  refine g_iconst C (v := 0) dX10_needsAllMembers_0 (by decide) ?_
  refine g_istore_n C (lv' := [(2, .int 0), (0, .ref (v 0)), (1, .int p0)]) dX10_needsAllMembers_1 (g_nlt hn rfl) rfl ?_
  refine gW.locals [1, 2, 0] rfl ?_
  exact H2 1000 0 hf
/-! X10_deal -/
theorem hd_X10_deal : yX10_deal.cls ≠ "java/lang/invoke/MethodHandle" ∧ yX10_deal.cls ≠ "java/lang/invoke/VarHandle" ∧ (parseMethodDescriptor yX10_deal.desc).map (fun d => d.parameters.length) = some 4 := by decide +kernel
def F_X10_deal_L99  (K59 : (Nat → Int32) → Int32 → Int32 → Int32 → (Nat → Int32) → (Nat → Int32) → (Nat → Int32) → Int32 → Int32 → Option (Int32 × (Nat → Int32) × Int32 × Int32 × Int32 × (Nat → Int32) × (Nat → Int32) × (Nat → Int32))) (co_99 : Nat → Int32) (z_99 : Int32) (c_th_99 : Int32) (c_ep_99 : Int32) (c_cm_99 : Nat → Int32) (c_vs_99 : Nat → Int32) (c_es_99 : Nat → Int32) (l5_99 : Int32) (l6_99 : Int32) : Option (Int32 × (Nat → Int32) × Int32 × Int32 × Int32 × (Nat → Int32) × (Nat → Int32) × (Nat → Int32)) := K59 co_99 z_99 c_th_99 c_ep_99 c_cm_99 c_vs_99 c_es_99 l5_99 (l6_99 + 1)
def F_X10_deal_L59 (pr : Int32) (wt : Nat → Int32) (p2 : Int32) (p3 : Int32)  : Nat → (Nat → Int32) → Int32 → Int32 → Int32 → (Nat → Int32) → (Nat → Int32) → (Nat → Int32) → Int32 → Int32 → Option (Int32 × (Nat → Int32) × Int32 × Int32 × Int32 × (Nat → Int32) × (Nat → Int32) × (Nat → Int32))
  | 0, _, _, _, _, _, _, _, _, _ => none
  | n + 1, co_59, z_59, c_th_59, c_ep_59, c_cm_59, c_vs_59, c_es_59, l5_59, l6_59 => if 24 < l6_59 then (some (l5_59, co_59, z_59, c_th_59, c_ep_59, c_cm_59, c_vs_59, c_es_59)) else ((F_X9_isDealtTo pr wt l6_59).bind fun v7 => if v7 = 0 then (F_X10_deal_L99 (F_X10_deal_L59 pr wt p2 p3 n) co_59 z_59 c_th_59 c_ep_59 c_cm_59 c_vs_59 c_es_59 l5_59 l6_59) else ((F_X2_polynomialAt co_59 l6_59 p2).bind fun v10 => (F_X7_give c_vs_59 c_es_59 l6_59 v10 p3).bind fun v12 => F_X10_deal_L99 (F_X10_deal_L59 pr wt p2 p3 n) co_59 z_59 c_th_59 c_ep_59 c_cm_59 v12.1 v12.2 (l5_59 + 1) l6_59))
def F_X10_deal_L20 (pr : Int32) (wt : Nat → Int32) (p2 : Int32) (p3 : Int32)  : Nat → (Nat → Int32) → Int32 → Int32 → Int32 → (Nat → Int32) → (Nat → Int32) → (Nat → Int32) → Int32 → Option (Int32 × (Nat → Int32) × Int32 × Int32 × Int32 × (Nat → Int32) × (Nat → Int32) × (Nat → Int32))
  | 0, _, _, _, _, _, _, _, _ => none
  | n + 1, co_20, z_20, c_th_20, c_ep_20, c_cm_20, c_vs_20, c_es_20, l5_20 => if p2 ≤ l5_20 then ((F_X7_dropShares c_vs_20 c_es_20).bind fun v4 => F_X10_deal_L59 pr wt p2 p3 1000 co_20 z_20 c_th_20 c_ep_20 c_cm_20 v4.1 v4.2 0 1) else (gg (gi l5_20 8) ((F_X2_commitmentTo (co_20 (Int32.toNatClampNeg l5_20))).bind fun v15 => gg (gi l5_20 8) (gl (upd c_cm_20 (Int32.toNatClampNeg l5_20) v15) fun f18 => F_X10_deal_L20 pr wt p2 p3 n co_20 z_20 c_th_20 c_ep_20 f18 c_vs_20 c_es_20 (l5_20 + 1))))
def F_X10_deal (co : Nat → Int32) (z : Int32) (pr : Int32) (wt : Nat → Int32) (c_th : Int32) (c_ep : Int32) (c_cm : Nat → Int32) (c_vs : Nat → Int32) (c_es : Nat → Int32) (p1 : Int32) (p2 : Int32) (p3 : Int32) : Option (Int32 × (Nat → Int32) × Int32 × Int32 × Int32 × (Nat → Int32) × (Nat → Int32) × (Nat → Int32)) := (F_X10_drawCoefficients co z p1 p2).bind fun v1 => F_X10_deal_L20 pr wt p2 p3 1000 v1.1 v1.2 p2 p3 c_cm c_vs c_es 0
set_option maxRecDepth 100000 in
set_option maxHeartbeats 4000000 in
theorem c_X10_deal {l : Launch} {D : va_G} {cy : Nat → ClassId} {v : Nat → Nat} {b : Nat → Nat} {c : Nat → Nat} {kp : Nat} {ak : Int32} {bf : Nat} {fa : Int32} {fl : Nat} {ln : Nat} {co : Nat → Int32} {ch : Nat → Int32} {gs : Nat → Int32} {op : Nat → Int32} {z : Int32} {pr : Int32} {le : Int32} {ec : Int32} {wt : Nat → Int32} {sa : Nat → Option Nat} {ev : Nat → Int32} {c_filled : Int32} {c_th : Int32} {c_ep : Int32} {c_rule : Option Nat} {c_cm : Nat → Int32} {c_vs : Nat → Int32} {c_es : Nat → Int32} {p1 : Int32} {p2 : Int32} {p3 : Int32}  {val : Int32 × (Nat → Int32) × Int32 × Int32 × Int32 × (Nat → Int32) × (Nat → Int32) × (Nat → Int32)} (hf : F_X10_deal co z pr wt c_th c_ep c_cm c_vs c_es p1 p2 p3 = some val) : gCt l D cy yX10_deal cX10_deal 7 (some .int) 2 43 0 0 [.ref (v 0), .ref (c 0), .int p1, .int p2, .int p3] [] ((wV cy v (b 0) kp ak bf fa fl ln co ch gs op) ++ (wSt cy b z pr le ec wt sa ev) ++ (wSec cy c c_filled c_th c_ep c_rule c_cm c_vs c_es)) 0 (fun _ : Unit => some (.int val.1)) (fun _ => (wV cy v (b 0) kp ak bf fa fl ln val.2.1 ch gs op) ++ (wSt cy b val.2.2.1 pr le ec wt sa ev) ++ (wSec cy c c_filled val.2.2.2.1 val.2.2.2.2.1 c_rule val.2.2.2.2.2.1 val.2.2.2.2.2.2.1 val.2.2.2.2.2.2.2)) := by
  refine g_begin (by decide +kernel) (Nat.le_of_ble_eq_true rfl) ?_
  intro X Q hl hR hD hy hro hn C hin E
  subst hl; subst hD; subst hy
  replace C : gC X "SecretVault" cX10_deal (some .int) := C
  unfold F_X10_deal at hf
  have H59 : ∀ (n59 : Nat), ∀ (co_59 : Nat → Int32) (z_59 : Int32) (c_th_59 : Int32) (c_ep_59 : Int32) (c_cm_59 : Nat → Int32) (c_vs_59 : Nat → Int32) (c_es_59 : Nat → Int32) (l5_59 : Int32) (l6_59 : Int32), F_X10_deal_L59 pr wt p2 p3 n59 co_59 z_59 c_th_59 c_ep_59 c_cm_59 c_vs_59 c_es_59 l5_59 l6_59 = some val → gW X Q 0 0 ((wV (x_y X) v (b 0) kp ak bf fa fl ln co_59 ch gs op) ++ (wSt (x_y X) b z_59 pr le ec wt sa ev) ++ (wSec (x_y X) c c_filled c_th_59 c_ep_59 c_rule c_cm_59 c_vs_59 c_es_59)) [(0, .ref (v 0)), (1, .ref (c 0)), (2, .int p1), (3, .int p2), (4, .int p3), (5, .int l5_59), (6, .int l6_59)] [] 59 := by
    intro n59
    induction n59 with
    | zero => intros; rename_i hf; cases hf
    | succ n59 ih =>
      intro co_59 z_59 c_th_59 c_ep_59 c_cm_59 c_vs_59 c_es_59 l5_59 l6_59 hf
      have H59 := ih
      rw [F_X10_deal_L59] at hf
      have H99 : ∀ (co_99 : Nat → Int32) (z_99 : Int32) (c_th_99 : Int32) (c_ep_99 : Int32) (c_cm_99 : Nat → Int32) (c_vs_99 : Nat → Int32) (c_es_99 : Nat → Int32) (l5_99 : Int32) (l6_99 : Int32), F_X10_deal_L99 (F_X10_deal_L59 pr wt p2 p3 n59) co_99 z_99 c_th_99 c_ep_99 c_cm_99 c_vs_99 c_es_99 l5_99 l6_99 = some val → gW X Q 0 0 ((wV (x_y X) v (b 0) kp ak bf fa fl ln co_99 ch gs op) ++ (wSt (x_y X) b z_99 pr le ec wt sa ev) ++ (wSec (x_y X) c c_filled c_th_99 c_ep_99 c_rule c_cm_99 c_vs_99 c_es_99)) [(0, .ref (v 0)), (1, .ref (c 0)), (2, .int p1), (3, .int p2), (4, .int p3), (5, .int l5_99), (6, .int l6_99)] [] 99 := by
        intro co_99 z_99 c_th_99 c_ep_99 c_cm_99 c_vs_99 c_es_99 l5_99 l6_99 hf
        unfold F_X10_deal_L99 at hf
        refine g_iinc C 6 (v := l6_99 + 1) (lv' := [(6, .int (l6_99 + 1)), (0, .ref (v 0)), (1, .ref (c 0)), (2, .int p1), (3, .int p2), (4, .int p3), (5, .int l5_99)]) dX10_deal_99 rfl rfl (g_nlt hn rfl) rfl ?_
        refine g_goto C 59 dX10_deal_102 (by decide) ?_
        refine gW.locals [1, 2, 3, 4, 5, 6, 0] rfl ?_
        exact H59 co_99 z_99 c_th_99 c_ep_99 c_cm_99 c_vs_99 c_es_99 l5_99 (l6_99 + 1) hf
      refine g_iload C 6 dX10_deal_59 rfl ?_
      refine g_bipush C (v := 24) dX10_deal_61 (by decide) ?_
      refine g_icmp_gt C 105 dX10_deal_63 (by decide) (fun c6 => ?_) (fun c6 => ?_)
      · have hf := opt_pos c6 hf
        refine g_iload C 5 dX10_deal_105 rfl ?_
        obtain rfl := Option.some.inj hf
        exact g_iret C E () dX10_deal_107 rfl rfl rfl (Nat.le_of_ble_eq_true rfl) (Nat.le_of_ble_eq_true rfl)
      · have hf := opt_neg c6 hf
        refine g_aload_n C 0 dX10_deal_66 rfl ?_
        refine g_get C 0 0 rfl rfl wiX10 (by decide) mw_1_171 rfl rfl dX10_deal_67 ?_
        refine g_iload C 6 dX10_deal_70 rfl ?_
        obtain ⟨v7, h8, hf⟩ := opt_bind hf
        refine g_callV C (c_X9_isDealtTo (l := x_l X) (D := x_D X) (cy := x_y X) (a := b) (z := z_59) (pr := pr) (le := le) (ec := ec) (wt := wt) (sa := sa) (ev := ev) (p0 := l6_59) h8) (As := [.int l6_59]) (rest := []) (wr := (wV (x_y X) v (b 0) kp ak bf fa fl ln co_59 ch gs op) ++ (wSec (x_y X) c c_filled c_th_59 c_ep_59 c_rule c_cm_59 c_vs_59 c_es_59)) (ws' := fun _ => (wV (x_y X) v (b 0) kp ak bf fa fl ln co_59 ch gs op) ++ (wSt (x_y X) b z_59 pr le ec wt sa ev) ++ (wSec (x_y X) c c_filled c_th_59 c_ep_59 c_rule c_cm_59 c_vs_59 c_es_59)) (st' := fun _ => [.int v7]) (ci := 10) 1 5 ⟨_, rfl⟩ rfl rfl mw_3_4 mw_1_2 mw_3_1 mw_3_2 mw_3_3 hd_X9_isDealtTo rfl (g_rm hR rfl rfl) [5, 6, 7, 8] [0, 1, 2, 3, 4, 9, 10, 11, 12] [0, 1, 2, 3, 4, 9, 10, 11, 12, 5, 6, 7, 8] ⟨rfl, rfl, rfl, rfl, by decide, gRoIn_0, rfl, fun _ => rfl⟩ rfl (Nat.le_of_ble_eq_true rfl) dX10_deal_72 (g_rc hR (Nat.le_of_ble_eq_true rfl) (Nat.le_of_ble_eq_true rfl)) (ck' := 0) (sk' := 0) rfl rfl (fun _ => rfl) (fun _ _ => ?_) (fun _ hx => absurd rfl hx)
        refine g_if_eq C 99 dX10_deal_75 (by decide) (fun c9 => ?_) (fun c9 => ?_)
        · have hf := opt_pos c9 hf
          exact H99 co_59 z_59 c_th_59 c_ep_59 c_cm_59 c_vs_59 c_es_59 l5_59 l6_59 hf
        · have hf := opt_neg c9 hf
          refine g_aload_n C 1 dX10_deal_78 rfl ?_
          refine g_iload C 6 dX10_deal_79 rfl ?_
          refine g_iload C 6 dX10_deal_81 rfl ?_
          refine g_aload_n C 0 dX10_deal_83 rfl ?_
          refine g_get C 0 6 rfl rfl wiX10 (by decide) mw_1_177 rfl rfl dX10_deal_84 ?_
          refine g_iload_n C 3 dX10_deal_87 rfl ?_
          obtain ⟨v10, h11, hf⟩ := opt_bind hf
          refine g_callS C (c_X2_polynomialAt (l := x_l X) (D := x_D X) (cy := x_y X) (ca := (v 1)) (pa := co_59) (p0 := l6_59) (p2 := p2) h11) (As := [.int l6_59, .ref (v 1), .int p2]) (rest := [.int l6_59, .ref (c 0)]) (wr := [((v 0), .inr (11, [.ref (b 0), .ref kp, .int ak, .ref bf, .int fa, .ref fl, .ref (v 1), .ref (v 2), .ref (v 3), .ref (v 4), .ref ln])), ((v 2), .inl ((x_y X) 0, 8, .inl ch)), ((v 3), .inl ((x_y X) 0, 8, .inl gs)), ((v 4), .inl ((x_y X) 1, 256, .inl op))] ++ (wSt (x_y X) b z_59 pr le ec wt sa ev) ++ (wSec (x_y X) c c_filled c_th_59 c_ep_59 c_rule c_cm_59 c_vs_59 c_es_59)) (ws' := fun _ => (wV (x_y X) v (b 0) kp ak bf fa fl ln co_59 ch gs op) ++ (wSt (x_y X) b z_59 pr le ec wt sa ev) ++ (wSec (x_y X) c c_filled c_th_59 c_ep_59 c_rule c_cm_59 c_vs_59 c_es_59)) (st' := fun _ => [.int v10, .int l6_59, .ref (c 0)]) 3 mw_3_11 mw_1_16 mw_3_9 mw_3_10 hd_X2_polynomialAt rfl (g_rm hR rfl rfl) [1] [0, 2, 3, 4, 5, 6, 7, 8, 9, 10, 11, 12] [0, 12, 1, 2, 3, 4, 5, 6, 7, 8, 9, 10, 11] ⟨rfl, rfl, rfl, rfl, by decide, gRoIn_0, rfl, fun _ => rfl⟩ rfl (Nat.le_of_ble_eq_true rfl) dX10_deal_88 (g_rc hR (Nat.le_of_ble_eq_true rfl) (Nat.le_of_ble_eq_true rfl)) (ck' := 0) (sk' := 0) rfl rfl (fun _ => rfl) (fun _ _ => ?_) (fun _ hx => absurd rfl hx)
          refine g_iload C 4 dX10_deal_91 rfl ?_
          obtain ⟨v12, h13, hf⟩ := opt_bind hf
          refine g_callV C (c_X7_give (l := x_l X) (D := x_D X) (cy := x_y X) (a := c) (filled := c_filled) (th := c_th_59) (ep := c_ep_59) (rule := c_rule) (cm := c_cm_59) (vs := c_vs_59) (es := c_es_59) (p0 := l6_59) (p1 := v10) (p2 := p3) h13) (As := [.int l6_59, .int v10, .int p3]) (rest := []) (wr := (wV (x_y X) v (b 0) kp ak bf fa fl ln co_59 ch gs op) ++ (wSt (x_y X) b z_59 pr le ec wt sa ev)) (ws' := fun _ => (wV (x_y X) v (b 0) kp ak bf fa fl ln co_59 ch gs op) ++ (wSt (x_y X) b z_59 pr le ec wt sa ev) ++ (wSec (x_y X) c c_filled c_th_59 c_ep_59 c_rule c_cm_59 v12.1 v12.2)) (st' := fun _ => []) (ci := 8) 3 9 ⟨_, rfl⟩ rfl rfl mw_3_15 mw_1_3 mw_3_12 mw_3_13 mw_3_14 hd_X7_give rfl (g_rm hR rfl rfl) [9, 10, 11, 12] [0, 1, 2, 3, 4, 5, 6, 7, 8] [0, 1, 2, 3, 4, 5, 6, 7, 8, 9, 10, 11, 12] ⟨rfl, rfl, rfl, rfl, by decide, gRoIn_0, rfl, fun _ => rfl⟩ rfl (Nat.le_of_ble_eq_true rfl) dX10_deal_93 (g_rc hR (Nat.le_of_ble_eq_true rfl) (Nat.le_of_ble_eq_true rfl)) (ck' := 0) (sk' := 0) rfl rfl (fun _ => rfl) (fun _ _ => ?_) (fun _ hx => absurd rfl hx)
          refine g_iinc C 5 (v := l5_59 + 1) (lv' := [(5, .int (l5_59 + 1)), (0, .ref (v 0)), (1, .ref (c 0)), (2, .int p1), (3, .int p2), (4, .int p3), (6, .int l6_59)]) dX10_deal_96 rfl rfl (g_nlt hn rfl) rfl ?_
          refine gW.locals [1, 2, 3, 4, 5, 0, 6] rfl ?_
          exact H99 co_59 z_59 c_th_59 c_ep_59 c_cm_59 v12.1 v12.2 (l5_59 + 1) l6_59 hf
  have H20 : ∀ (n20 : Nat), ∀ (co_20 : Nat → Int32) (z_20 : Int32) (c_th_20 : Int32) (c_ep_20 : Int32) (c_cm_20 : Nat → Int32) (c_vs_20 : Nat → Int32) (c_es_20 : Nat → Int32) (l5_20 : Int32), F_X10_deal_L20 pr wt p2 p3 n20 co_20 z_20 c_th_20 c_ep_20 c_cm_20 c_vs_20 c_es_20 l5_20 = some val → gW X Q 0 0 ((wV (x_y X) v (b 0) kp ak bf fa fl ln co_20 ch gs op) ++ (wSt (x_y X) b z_20 pr le ec wt sa ev) ++ (wSec (x_y X) c c_filled c_th_20 c_ep_20 c_rule c_cm_20 c_vs_20 c_es_20)) [(0, .ref (v 0)), (1, .ref (c 0)), (2, .int p1), (3, .int p2), (4, .int p3), (5, .int l5_20)] [] 20 := by
    intro n20
    induction n20 with
    | zero => intros; rename_i hf; cases hf
    | succ n20 ih =>
      intro co_20 z_20 c_th_20 c_ep_20 c_cm_20 c_vs_20 c_es_20 l5_20 hf
      have H20 := ih
      rw [F_X10_deal_L20] at hf
      refine g_iload C 5 dX10_deal_20 rfl ?_
      refine g_iload_n C 3 dX10_deal_22 rfl ?_
      refine g_icmp_ge C 49 dX10_deal_23 (by decide) (fun c3 => ?_) (fun c3 => ?_)
      · have hf := opt_pos c3 hf
        refine g_aload_n C 1 dX10_deal_49 rfl ?_
        obtain ⟨v4, h5, hf⟩ := opt_bind hf
        refine g_callV C (c_X7_dropShares (l := x_l X) (D := x_D X) (cy := x_y X) (a := c) (filled := c_filled) (th := c_th_20) (ep := c_ep_20) (rule := c_rule) (cm := c_cm_20) (vs := c_vs_20) (es := c_es_20) h5) (As := []) (rest := []) (wr := (wV (x_y X) v (b 0) kp ak bf fa fl ln co_20 ch gs op) ++ (wSt (x_y X) b z_20 pr le ec wt sa ev)) (ws' := fun _ => (wV (x_y X) v (b 0) kp ak bf fa fl ln co_20 ch gs op) ++ (wSt (x_y X) b z_20 pr le ec wt sa ev) ++ (wSec (x_y X) c c_filled c_th_20 c_ep_20 c_rule c_cm_20 v4.1 v4.2)) (st' := fun _ => []) (ci := 8) 0 9 ⟨_, rfl⟩ rfl rfl mw_2_236 mw_1_3 mw_2_233 mw_2_234 mw_2_235 hd_X7_dropShares rfl (g_rm hR rfl rfl) [9, 10, 11, 12] [0, 1, 2, 3, 4, 5, 6, 7, 8] [0, 1, 2, 3, 4, 5, 6, 7, 8, 9, 10, 11, 12] ⟨rfl, rfl, rfl, rfl, by decide, gRoIn_0, rfl, fun _ => rfl⟩ rfl (Nat.le_of_ble_eq_true rfl) dX10_deal_50 (g_rc hR (Nat.le_of_ble_eq_true rfl) (Nat.le_of_ble_eq_true rfl)) (ck' := 0) (sk' := 0) rfl rfl (fun _ => rfl) (fun _ _ => ?_) (fun _ hx => absurd rfl hx)
        refine g_iconst C (v := 0) dX10_deal_53 (by decide) ?_
        refine g_istore C (lv' := [(5, .int 0), (0, .ref (v 0)), (1, .ref (c 0)), (2, .int p1), (3, .int p2), (4, .int p3)]) dX10_deal_54 (g_nlt hn rfl) rfl ?_
        refine g_iconst C (v := 1) dX10_deal_56 (by decide) ?_
        refine g_istore C (lv' := [(6, .int 1), (5, .int 0), (0, .ref (v 0)), (1, .ref (c 0)), (2, .int p1), (3, .int p2), (4, .int p3)]) dX10_deal_57 (g_nlt hn rfl) rfl ?_
        refine gW.locals [2, 3, 4, 5, 6, 1, 0] rfl ?_
        exact H59 1000 co_20 z_20 c_th_20 c_ep_20 c_cm_20 v4.1 v4.2 0 1 hf
      · have hf := opt_neg c3 hf
        refine g_aload_n C 1 dX10_deal_26 rfl ?_
        refine g_get C 9 3 rfl rfl wiX7 (by decide) mw_1_67 rfl rfl dX10_deal_27 ?_
        refine g_iload C 5 dX10_deal_30 rfl ?_
        refine g_aload_n C 0 dX10_deal_32 rfl ?_
        refine g_get C 0 6 rfl rfl wiX10 (by decide) mw_1_177 rfl rfl dX10_deal_33 ?_
        refine g_iload C 5 dX10_deal_36 rfl ?_
        obtain ⟨c14, hf⟩ := gg_of hf
        refine g_iald C 1 rfl (gi_in c14) dX10_deal_38 ?_
        obtain ⟨v15, h16, hf⟩ := opt_bind hf
        refine g_callS C (c_X2_commitmentTo (l := x_l X) (D := x_D X) (cy := x_y X) (p0 := co_20 (Int32.toNatClampNeg l5_20)) h16) (As := [.int (co_20 (Int32.toNatClampNeg l5_20))]) (rest := [.int l5_20, .ref (c 1)]) (wr := (wV (x_y X) v (b 0) kp ak bf fa fl ln co_20 ch gs op) ++ (wSt (x_y X) b z_20 pr le ec wt sa ev) ++ (wSec (x_y X) c c_filled c_th_20 c_ep_20 c_rule c_cm_20 c_vs_20 c_es_20)) (ws' := fun _ => (wV (x_y X) v (b 0) kp ak bf fa fl ln co_20 ch gs op) ++ (wSt (x_y X) b z_20 pr le ec wt sa ev) ++ (wSec (x_y X) c c_filled c_th_20 c_ep_20 c_rule c_cm_20 c_vs_20 c_es_20)) (st' := fun _ => [.int v15, .int l5_20, .ref (c 1)]) 1 mw_2_170 mw_1_16 mw_2_232 mw_2_169 hd_X2_commitmentTo rfl (g_rm hR rfl rfl) [] [0, 1, 2, 3, 4, 5, 6, 7, 8, 9, 10, 11, 12] [0, 1, 2, 3, 4, 5, 6, 7, 8, 9, 10, 11, 12] ⟨rfl, rfl, rfl, rfl, by decide, gRoIn_0, rfl, fun _ => rfl⟩ rfl (Nat.le_of_ble_eq_true rfl) dX10_deal_39 (g_rc hR (Nat.le_of_ble_eq_true rfl) (Nat.le_of_ble_eq_true rfl)) (ck' := 0) (sk' := 0) rfl rfl (fun _ => rfl) (fun _ _ => ?_) (fun _ hx => absurd rfl hx)
        obtain ⟨c17, hf⟩ := gg_of hf
        obtain ⟨f18, ef18, hf⟩ := opt_let hf
        refine g_iast C (ws' := (wV (x_y X) v (b 0) kp ak bf fa fl ln co_20 ch gs op) ++ (wSt (x_y X) b z_20 pr le ec wt sa ev) ++ (wSec (x_y X) c c_filled c_th_20 c_ep_20 c_rule f18 c_vs_20 c_es_20)) 10 rfl (gi_in c17) (by rw [ef18]; rfl) dX10_deal_42 ?_
        refine g_iinc C 5 (v := l5_20 + 1) (lv' := [(5, .int (l5_20 + 1)), (0, .ref (v 0)), (1, .ref (c 0)), (2, .int p1), (3, .int p2), (4, .int p3)]) dX10_deal_43 rfl rfl (g_nlt hn rfl) rfl ?_
        refine g_goto C 20 dX10_deal_46 (by decide) ?_
        refine gW.locals [1, 2, 3, 4, 5, 0] rfl ?_
        exact H20 co_20 z_20 c_th_20 c_ep_20 f18 c_vs_20 c_es_20 (l5_20 + 1) hf
  show gW X Q 0 0 ((wV (x_y X) v (b 0) kp ak bf fa fl ln co ch gs op) ++ (wSt (x_y X) b z pr le ec wt sa ev) ++ (wSec (x_y X) c c_filled c_th c_ep c_rule c_cm c_vs c_es)) [(0, .ref (v 0)), (1, .ref (c 0)), (2, .int p1), (3, .int p2), (4, .int p3)] [] 0
  refine g_aload_n C 0 dX10_deal_0 rfl ?_
  refine g_iload_n C 2 dX10_deal_1 rfl ?_
  refine g_iload_n C 3 dX10_deal_2 rfl ?_
  obtain ⟨v1, h2, hf⟩ := opt_bind hf
  refine g_callV C (c_X10_drawCoefficients (l := x_l X) (D := x_D X) (cy := x_y X) (v := v) (b := b) (kp := kp) (ak := ak) (bf := bf) (fa := fa) (fl := fl) (ln := ln) (co := co) (ch := ch) (gs := gs) (op := op) (z := z) (pr := pr) (le := le) (ec := ec) (wt := wt) (sa := sa) (ev := ev) (p0 := p1) (p1 := p2) h2) (As := [.int p1, .int p2]) (rest := []) (wr := (wSec (x_y X) c c_filled c_th c_ep c_rule c_cm c_vs c_es)) (ws' := fun _ => (wV (x_y X) v (b 0) kp ak bf fa fl ln v1.1 ch gs op) ++ (wSt (x_y X) b v1.2 pr le ec wt sa ev) ++ (wSec (x_y X) c c_filled c_th c_ep c_rule c_cm c_vs c_es)) (st' := fun _ => []) (ci := 11) 2 0 ⟨_, rfl⟩ rfl rfl mw_2_231 mw_1_1 mw_2_228 mw_2_230 mp_4 hd_X10_drawCoefficients rfl (g_rm hR rfl rfl) [0, 1, 2, 3, 4, 5, 6, 7, 8] [9, 10, 11, 12] [4, 5, 6, 7, 8, 9, 10, 11, 12, 0, 1, 2, 3] ⟨rfl, rfl, rfl, rfl, by decide, gRoIn_0, rfl, fun _ => rfl⟩ rfl (Nat.le_of_ble_eq_true rfl) dX10_deal_3 (g_rc hR (Nat.le_of_ble_eq_true rfl) (Nat.le_of_ble_eq_true rfl)) (ck' := 0) (sk' := 0) rfl rfl (fun _ => rfl) (fun _ _ => ?_) (fun _ hx => absurd rfl hx)
  refine g_aload_n C 1 dX10_deal_6 rfl ?_
  refine g_iload_n C 3 dX10_deal_7 rfl ?_
  refine g_put C (ws' := (wV (x_y X) v (b 0) kp ak bf fa fl ln v1.1 ch gs op) ++ (wSt (x_y X) b v1.2 pr le ec wt sa ev) ++ (wSec (x_y X) c c_filled p2 c_ep c_rule c_cm c_vs c_es)) 9 1 rfl rfl wiX7 (by decide) tyX7_ok nmX7 mw_1_63 rfl rfl rfl rfl (Nat.le_of_ble_eq_true rfl) rfl dX10_deal_8 ?_
  refine g_aload_n C 1 dX10_deal_11 rfl ?_
  refine g_iload C 4 dX10_deal_12 rfl ?_
  refine g_put C (ws' := (wV (x_y X) v (b 0) kp ak bf fa fl ln v1.1 ch gs op) ++ (wSt (x_y X) b v1.2 pr le ec wt sa ev) ++ (wSec (x_y X) c c_filled p2 p3 c_rule c_cm c_vs c_es)) 9 2 rfl rfl wiX7 (by decide) tyX7_ok nmX7 mw_1_65 rfl rfl rfl rfl (Nat.le_of_ble_eq_true rfl) rfl dX10_deal_14 ?_
  refine g_iconst C (v := 0) dX10_deal_17 (by decide) ?_
  refine g_istore C (lv' := [(5, .int 0), (0, .ref (v 0)), (1, .ref (c 0)), (2, .int p1), (3, .int p2), (4, .int p3)]) dX10_deal_18 (g_nlt hn rfl) rfl ?_
  refine gW.locals [1, 2, 3, 4, 5, 0] rfl ?_
  exact H20 1000 v1.1 v1.2 p2 p3 c_cm c_vs c_es 0 hf
/-! X10_put -/
theorem hd_X10_put : yX10_put.cls ≠ "java/lang/invoke/MethodHandle" ∧ yX10_put.cls ≠ "java/lang/invoke/VarHandle" ∧ (parseMethodDescriptor yX10_put.desc).map (fun d => d.parameters.length) = some 3 := by decide +kernel
def F_X10_put (co : Nat → Int32) (z : Int32) (pr : Int32) (le : Int32) (ec : Int32) (wt : Nat → Int32) (ev : Nat → Int32) (c_filled : Int32) (c_th : Int32) (c_ep : Int32) (c_rule : Option Nat) (c_cm : Nat → Int32) (c_vs : Nat → Int32) (c_es : Nat → Int32) (p0 : Int32) (p1 : Int32) (p2 : Int32) : Option (Nat × Int32 × (Nat → Int32) × Int32 × Int32 × Int32 × (Nat → Int32) × Int32 × Int32 × Int32 × Option Nat × (Nat → Int32) × (Nat → Int32) × (Nat → Int32)) := (F_X10_checkSlot p0).bind fun v1 => if v1 = 0 then ((F_X10_checkValue p1).bind fun v3 => if v3 = 0 then ((F_X10_checkThreshold p2).bind fun v5 => if v5 = 0 then ((F_X10_checkPlacesSuffice pr wt p2).bind fun v7 => if v7 = 0 then (gg (gi p0 4) ((F_X10_deal co z pr wt c_th c_ep c_cm c_vs c_es p1 p2 1).bind fun v10 => (F_X9_note le ec ev ((100 : Int32) + p0)).bind fun v12 => some (0, v10.1, v10.2.1, v10.2.2.1, v12.1, v12.2.1, v12.2.2, 1, v10.2.2.2.1, v10.2.2.2.2.1, none, v10.2.2.2.2.2.1, v10.2.2.2.2.2.2.1, v10.2.2.2.2.2.2.2))) else some (v7, 0, co, z, le, ec, ev, c_filled, c_th, c_ep, c_rule, c_cm, c_vs, c_es)) else some (v5, 0, co, z, le, ec, ev, c_filled, c_th, c_ep, c_rule, c_cm, c_vs, c_es)) else some (v3, 0, co, z, le, ec, ev, c_filled, c_th, c_ep, c_rule, c_cm, c_vs, c_es)) else some (v1, 0, co, z, le, ec, ev, c_filled, c_th, c_ep, c_rule, c_cm, c_vs, c_es)
set_option maxRecDepth 100000 in
set_option maxHeartbeats 4000000 in
theorem c_X10_put {l : Launch} {D : va_G} {cy : Nat → ClassId} {v : Nat → Nat} {b : Nat → Nat} {c : Nat → Nat} {kp : Nat} {ak : Int32} {bf : Nat} {fa : Int32} {fl : Nat} {ln : Nat} {co : Nat → Int32} {ch : Nat → Int32} {gs : Nat → Int32} {op : Nat → Int32} {z : Int32} {pr : Int32} {le : Int32} {ec : Int32} {wt : Nat → Int32} {sa : Nat → Option Nat} {ev : Nat → Int32} {c_filled : Int32} {c_th : Int32} {c_ep : Int32} {c_rule : Option Nat} {c_cm : Nat → Int32} {c_vs : Nat → Int32} {c_es : Nat → Int32} {p0 : Int32} {p1 : Int32} {p2 : Int32} (hs : gi p0 4 = true → sa (Int32.toNatClampNeg p0) = some (c 0)) {val : Nat × Int32 × (Nat → Int32) × Int32 × Int32 × Int32 × (Nat → Int32) × Int32 × Int32 × Int32 × Option Nat × (Nat → Int32) × (Nat → Int32) × (Nat → Int32)} (hf : F_X10_put co z pr le ec wt ev c_filled c_th c_ep c_rule c_cm c_vs c_es p0 p1 p2 = some val) : gCt l D cy yX10_put cX10_put 6 (some .int) 7 103 4 24 [.ref (v 0), .int p0, .int p1, .int p2] [] ((wV cy v (b 0) kp ak bf fa fl ln co ch gs op) ++ (wSt cy b z pr le ec wt sa ev) ++ (wSec cy c c_filled c_th c_ep c_rule c_cm c_vs c_es)) val.1 (fun _ : Unit => some (.int val.2.1)) (fun _ => (wV cy v (b 0) kp ak bf fa fl ln val.2.2.1 ch gs op) ++ (wSt cy b val.2.2.2.1 pr val.2.2.2.2.1 val.2.2.2.2.2.1 wt sa val.2.2.2.2.2.2.1) ++ (wSec cy c val.2.2.2.2.2.2.2.1 val.2.2.2.2.2.2.2.2.1 val.2.2.2.2.2.2.2.2.2.1 val.2.2.2.2.2.2.2.2.2.2.1 val.2.2.2.2.2.2.2.2.2.2.2.1 val.2.2.2.2.2.2.2.2.2.2.2.2.1 val.2.2.2.2.2.2.2.2.2.2.2.2.2)) := by
  refine g_begin (by decide +kernel) (Nat.le_of_ble_eq_true rfl) ?_
  intro X Q hl hR hD hy hro hn C hin E
  subst hl; subst hD; subst hy
  replace C : gC X "SecretVault" cX10_put (some .int) := C
  unfold F_X10_put at hf
  show gW X Q 0 0 ((wV (x_y X) v (b 0) kp ak bf fa fl ln co ch gs op) ++ (wSt (x_y X) b z pr le ec wt sa ev) ++ (wSec (x_y X) c c_filled c_th c_ep c_rule c_cm c_vs c_es)) [(0, .ref (v 0)), (1, .int p0), (2, .int p1), (3, .int p2)] [] 0
  refine g_iload_n C 1 dX10_put_0 rfl ?_
  obtain ⟨v1, h2, hf⟩ := opt_bind hf
  refine g_callS C (c_X10_checkSlot (l := x_l X) (D := x_D X) (cy := x_y X) (p0 := p0) h2) (As := [.int p0]) (rest := []) (wr := (wV (x_y X) v (b 0) kp ak bf fa fl ln co ch gs op) ++ (wSt (x_y X) b z pr le ec wt sa ev) ++ (wSec (x_y X) c c_filled c_th c_ep c_rule c_cm c_vs c_es)) (ws' := fun _ => (wV (x_y X) v (b 0) kp ak bf fa fl ln co ch gs op) ++ (wSt (x_y X) b z pr le ec wt sa ev) ++ (wSec (x_y X) c c_filled c_th c_ep c_rule c_cm c_vs c_es)) (st' := fun _ => []) 1 mw_2_189 mw_1_1 mw_2_187 mw_2_188 hd_X10_checkSlot rfl (g_rm hR rfl rfl) [] [0, 1, 2, 3, 4, 5, 6, 7, 8, 9, 10, 11, 12] [0, 1, 2, 3, 4, 5, 6, 7, 8, 9, 10, 11, 12] ⟨rfl, rfl, rfl, rfl, by decide, gRoIn_0, rfl, fun _ => rfl⟩ rfl (Nat.le_of_ble_eq_true rfl) dX10_put_1 (g_rc hR (Nat.le_of_ble_eq_true rfl) (Nat.le_of_ble_eq_true rfl)) (ck' := 1) (sk' := 6) rfl rfl (fun _ => rfl) (fun _ ev1 => ?_) (fun _ ev1 => ?_)
  rotate_left
  · have hf := opt_neg ev1 hf
    obtain rfl := Option.some.inj hf
    exact g_out E () rfl ev1 rfl (Nat.le_of_ble_eq_true rfl) (Nat.le_of_ble_eq_true rfl)
  have hf := opt_pos ev1 hf
  refine g_iload_n C 2 dX10_put_4 rfl ?_
  obtain ⟨v3, h4, hf⟩ := opt_bind hf
  refine g_callS C (c_X10_checkValue (l := x_l X) (D := x_D X) (cy := x_y X) (p0 := p1) h4) (As := [.int p1]) (rest := []) (wr := (wV (x_y X) v (b 0) kp ak bf fa fl ln co ch gs op) ++ (wSt (x_y X) b z pr le ec wt sa ev) ++ (wSec (x_y X) c c_filled c_th c_ep c_rule c_cm c_vs c_es)) (ws' := fun _ => (wV (x_y X) v (b 0) kp ak bf fa fl ln co ch gs op) ++ (wSt (x_y X) b z pr le ec wt sa ev) ++ (wSec (x_y X) c c_filled c_th c_ep c_rule c_cm c_vs c_es)) (st' := fun _ => []) 1 mw_2_193 mw_1_1 mw_2_191 mw_2_192 hd_X10_checkValue rfl (g_rm hR rfl rfl) [] [0, 1, 2, 3, 4, 5, 6, 7, 8, 9, 10, 11, 12] [0, 1, 2, 3, 4, 5, 6, 7, 8, 9, 10, 11, 12] ⟨rfl, rfl, rfl, rfl, by decide, gRoIn_0, rfl, fun _ => rfl⟩ rfl (Nat.le_of_ble_eq_true rfl) dX10_put_5 (g_rc hR (Nat.le_of_ble_eq_true rfl) (Nat.le_of_ble_eq_true rfl)) (ck' := 2) (sk' := 12) rfl rfl (fun _ => rfl) (fun _ ev3 => ?_) (fun _ ev3 => ?_)
  rotate_left
  · have hf := opt_neg ev3 hf
    obtain rfl := Option.some.inj hf
    exact g_out E () rfl ev3 rfl (Nat.le_of_ble_eq_true rfl) (Nat.le_of_ble_eq_true rfl)
  have hf := opt_pos ev3 hf
  refine g_iload_n C 3 dX10_put_8 rfl ?_
  obtain ⟨v5, h6, hf⟩ := opt_bind hf
  refine g_callS C (c_X10_checkThreshold (l := x_l X) (D := x_D X) (cy := x_y X) (p0 := p2) h6) (As := [.int p2]) (rest := []) (wr := (wV (x_y X) v (b 0) kp ak bf fa fl ln co ch gs op) ++ (wSt (x_y X) b z pr le ec wt sa ev) ++ (wSec (x_y X) c c_filled c_th c_ep c_rule c_cm c_vs c_es)) (ws' := fun _ => (wV (x_y X) v (b 0) kp ak bf fa fl ln co ch gs op) ++ (wSt (x_y X) b z pr le ec wt sa ev) ++ (wSec (x_y X) c c_filled c_th c_ep c_rule c_cm c_vs c_es)) (st' := fun _ => []) 1 mw_2_197 mw_1_1 mw_2_195 mw_2_196 hd_X10_checkThreshold rfl (g_rm hR rfl rfl) [] [0, 1, 2, 3, 4, 5, 6, 7, 8, 9, 10, 11, 12] [0, 1, 2, 3, 4, 5, 6, 7, 8, 9, 10, 11, 12] ⟨rfl, rfl, rfl, rfl, by decide, gRoIn_0, rfl, fun _ => rfl⟩ rfl (Nat.le_of_ble_eq_true rfl) dX10_put_9 (g_rc hR (Nat.le_of_ble_eq_true rfl) (Nat.le_of_ble_eq_true rfl)) (ck' := 3) (sk' := 18) rfl rfl (fun _ => rfl) (fun _ ev5 => ?_) (fun _ ev5 => ?_)
  rotate_left
  · have hf := opt_neg ev5 hf
    obtain rfl := Option.some.inj hf
    exact g_out E () rfl ev5 rfl (Nat.le_of_ble_eq_true rfl) (Nat.le_of_ble_eq_true rfl)
  have hf := opt_pos ev5 hf
  refine g_aload_n C 0 dX10_put_12 rfl ?_
  refine g_iload_n C 3 dX10_put_13 rfl ?_
  obtain ⟨v7, h8, hf⟩ := opt_bind hf
  refine g_callV C (c_X10_checkPlacesSuffice (l := x_l X) (D := x_D X) (cy := x_y X) (v := v) (b := b) (kp := kp) (ak := ak) (bf := bf) (fa := fa) (fl := fl) (ln := ln) (co := co) (ch := ch) (gs := gs) (op := op) (z := z) (pr := pr) (le := le) (ec := ec) (wt := wt) (sa := sa) (ev := ev) (p0 := p2) h8) (As := [.int p2]) (rest := []) (wr := (wSec (x_y X) c c_filled c_th c_ep c_rule c_cm c_vs c_es)) (ws' := fun _ => (wV (x_y X) v (b 0) kp ak bf fa fl ln co ch gs op) ++ (wSt (x_y X) b z pr le ec wt sa ev) ++ (wSec (x_y X) c c_filled c_th c_ep c_rule c_cm c_vs c_es)) (st' := fun _ => []) (ci := 11) 1 0 ⟨_, rfl⟩ rfl rfl mw_2_202 mw_1_1 mw_2_199 mw_2_201 mp_2 hd_X10_checkPlacesSuffice rfl (g_rm hR rfl rfl) [0, 1, 2, 3, 4, 5, 6, 7, 8] [9, 10, 11, 12] [4, 5, 6, 7, 8, 9, 10, 11, 12, 0, 1, 2, 3] ⟨rfl, rfl, rfl, rfl, by decide, gRoIn_0, rfl, fun _ => rfl⟩ rfl (Nat.le_of_ble_eq_true rfl) dX10_put_14 (g_rc hR (Nat.le_of_ble_eq_true rfl) (Nat.le_of_ble_eq_true rfl)) (ck' := 4) (sk' := 24) rfl rfl (fun _ => rfl) (fun _ ev7 => ?_) (fun _ ev7 => ?_)
  rotate_left
  · have hf := opt_neg ev7 hf
    obtain rfl := Option.some.inj hf
    exact g_out E () rfl ev7 rfl (Nat.le_of_ble_eq_true rfl) (Nat.le_of_ble_eq_true rfl)
  have hf := opt_pos ev7 hf
  refine g_aload_n C 0 dX10_put_17 rfl ?_
  refine g_get C 0 0 rfl rfl wiX10 (by decide) mw_1_171 rfl rfl dX10_put_18 ?_
  refine g_get C 5 3 rfl rfl wiX9 (by decide) mw_1_97 rfl rfl dX10_put_21 ?_
  refine g_iload_n C 1 dX10_put_24 rfl ?_
  obtain ⟨c9, hf⟩ := gg_of hf
  refine g_aald C 7 rfl (gi_in c9) (hs c9) dX10_put_25 ?_
  refine g_astore C (lv' := [(4, .ref (c 0)), (0, .ref (v 0)), (1, .int p0), (2, .int p1), (3, .int p2)]) dX10_put_26 (g_nlt hn rfl) rfl ?_
  refine g_aload C 0 dX10_put_28 rfl ?_
  refine g_null C dX10_put_30 ?_
  refine g_put C (ws' := (wV (x_y X) v (b 0) kp ak bf fa fl ln co ch gs op) ++ (wSt (x_y X) b z pr le ec wt sa ev) ++ (wSec (x_y X) c c_filled c_th c_ep none c_cm c_vs c_es)) 9 4 rfl rfl wiX7 (by decide) tyX7_ok nmX7 mw_1_69 rfl rfl rfl rfl (Nat.le_of_ble_eq_true rfl) rfl dX10_put_31 ?_
  refine g_aload C 0 dX10_put_34 rfl ?_
  refine g_iconst C (v := 1) dX10_put_36 (by decide) ?_
  refine g_put C (ws' := (wV (x_y X) v (b 0) kp ak bf fa fl ln co ch gs op) ++ (wSt (x_y X) b z pr le ec wt sa ev) ++ (wSec (x_y X) c 1 c_th c_ep none c_cm c_vs c_es)) 9 0 rfl rfl wiX7 (by decide) tyX7_ok nmX7 mw_1_61 rfl rfl rfl rfl (Nat.le_of_ble_eq_true rfl) rfl dX10_put_37 ?_
  refine g_aload_n C 1 dX10_put_40 rfl ?_
  refine g_aload C 0 dX10_put_41 rfl ?_
  refine g_iload_n C 3 dX10_put_43 rfl ?_
  refine g_iload_n C 4 dX10_put_44 rfl ?_
  refine g_iconst C (v := 1) dX10_put_45 (by decide) ?_
  obtain ⟨v10, h11, hf⟩ := opt_bind hf
  refine g_callV C (c_X10_deal (l := x_l X) (D := x_D X) (cy := x_y X) (v := v) (b := b) (c := c) (kp := kp) (ak := ak) (bf := bf) (fa := fa) (fl := fl) (ln := ln) (co := co) (ch := ch) (gs := gs) (op := op) (z := z) (pr := pr) (le := le) (ec := ec) (wt := wt) (sa := sa) (ev := ev) (c_filled := 1) (c_th := c_th) (c_ep := c_ep) (c_rule := none) (c_cm := c_cm) (c_vs := c_vs) (c_es := c_es) (p1 := p1) (p2 := p2) (p3 := 1) h11) (As := [.ref (c 0), .int p1, .int p2, .int 1]) (rest := []) (wr := []) (ws' := fun _ => (wV (x_y X) v (b 0) kp ak bf fa fl ln v10.2.1 ch gs op) ++ (wSt (x_y X) b v10.2.2.1 pr le ec wt sa ev) ++ (wSec (x_y X) c 1 v10.2.2.2.1 v10.2.2.2.2.1 none v10.2.2.2.2.2.1 v10.2.2.2.2.2.2.1 v10.2.2.2.2.2.2.2)) (st' := fun _ => [.int v10.1]) (ci := 11) 4 0 ⟨_, rfl⟩ rfl rfl mw_2_227 mw_1_1 mw_2_224 mw_2_226 mp_3 hd_X10_deal rfl (g_rm hR rfl rfl) [0, 1, 2, 3, 4, 5, 6, 7, 8, 9, 10, 11, 12] [] [0, 1, 2, 3, 4, 5, 6, 7, 8, 9, 10, 11, 12] ⟨rfl, rfl, rfl, rfl, by decide, gRoIn_0, rfl, fun _ => rfl⟩ rfl (Nat.le_of_ble_eq_true rfl) dX10_put_46 (g_rc hR (Nat.le_of_ble_eq_true rfl) (Nat.le_of_ble_eq_true rfl)) (ck' := 4) (sk' := 24) rfl rfl (fun _ => rfl) (fun _ _ => ?_) (fun _ hx => absurd rfl hx)
  refine g_istore C (lv' := [(5, .int v10.1), (4, .ref (c 0)), (0, .ref (v 0)), (1, .int p0), (2, .int p1), (3, .int p2)]) dX10_put_49 (g_nlt hn rfl) rfl ?_
  refine g_aload_n C 2 dX10_put_51 rfl ?_
  refine g_get C 0 0 rfl rfl wiX10 (by decide) mw_1_171 rfl rfl dX10_put_52 ?_
  refine g_bipush C (v := 100) dX10_put_55 (by decide) ?_
  refine g_iload_n C 3 dX10_put_57 rfl ?_
  refine g_iadd C dX10_put_58 ?_
  obtain ⟨v12, h13, hf⟩ := opt_bind hf
  refine g_callV C (c_X9_note (l := x_l X) (D := x_D X) (cy := x_y X) (a := b) (z := v10.2.2.1) (pr := pr) (le := le) (ec := ec) (wt := wt) (sa := sa) (ev := ev) (p0 := (100 : Int32) + p0) h13) (As := [.int ((100 : Int32) + p0)]) (rest := []) (wr := (wV (x_y X) v (b 0) kp ak bf fa fl ln v10.2.1 ch gs op) ++ (wSec (x_y X) c 1 v10.2.2.2.1 v10.2.2.2.2.1 none v10.2.2.2.2.2.1 v10.2.2.2.2.2.2.1 v10.2.2.2.2.2.2.2)) (ws' := fun _ => (wV (x_y X) v (b 0) kp ak bf fa fl ln v10.2.1 ch gs op) ++ (wSt (x_y X) b v10.2.2.1 pr v12.1 v12.2.1 wt sa v12.2.2) ++ (wSec (x_y X) c 1 v10.2.2.2.1 v10.2.2.2.2.1 none v10.2.2.2.2.2.1 v10.2.2.2.2.2.2.1 v10.2.2.2.2.2.2.2)) (st' := fun _ => []) (ci := 10) 1 5 ⟨_, rfl⟩ rfl rfl mw_3_19 mw_1_2 mw_3_16 mw_3_17 mw_3_18 hd_X9_note rfl (g_rm hR rfl rfl) [5, 6, 7, 8] [0, 1, 2, 3, 4, 9, 10, 11, 12] [0, 1, 2, 3, 4, 9, 10, 11, 12, 5, 6, 7, 8] ⟨rfl, rfl, rfl, rfl, by decide, gRoIn_0, rfl, fun _ => rfl⟩ rfl (Nat.le_of_ble_eq_true rfl) dX10_put_59 (g_rc hR (Nat.le_of_ble_eq_true rfl) (Nat.le_of_ble_eq_true rfl)) (ck' := 4) (sk' := 24) rfl rfl (fun _ => rfl) (fun _ _ => ?_) (fun _ hx => absurd rfl hx)
  refine g_iload C 0 dX10_put_62 rfl ?_
  obtain rfl := Option.some.inj hf
  exact g_iret C E () dX10_put_64 rfl rfl rfl (Nat.le_of_ble_eq_true rfl) (Nat.le_of_ble_eq_true rfl)
/-! X10_secretIn -/
theorem hd_X10_secretIn : yX10_secretIn.cls ≠ "java/lang/invoke/MethodHandle" ∧ yX10_secretIn.cls ≠ "java/lang/invoke/VarHandle" ∧ (parseMethodDescriptor yX10_secretIn.desc).map (fun d => d.parameters.length) = some 1 := by decide +kernel
def F_X10_secretIn (c_filled : Int32) (p0 : Int32) : Option (Nat) := gg (gi p0 4) (if c_filled = 0 then (some 3) else (some 0))
set_option maxRecDepth 100000 in
set_option maxHeartbeats 4000000 in
theorem c_X10_secretIn {l : Launch} {D : va_G} {cy : Nat → ClassId} {v : Nat → Nat} {b : Nat → Nat} {c : Nat → Nat} {kp : Nat} {ak : Int32} {bf : Nat} {fa : Int32} {fl : Nat} {ln : Nat} {co : Nat → Int32} {ch : Nat → Int32} {gs : Nat → Int32} {op : Nat → Int32} {z : Int32} {pr : Int32} {le : Int32} {ec : Int32} {wt : Nat → Int32} {sa : Nat → Option Nat} {ev : Nat → Int32} {c_filled : Int32} {c_th : Int32} {c_ep : Int32} {c_rule : Option Nat} {c_cm : Nat → Int32} {c_vs : Nat → Int32} {c_es : Nat → Int32} {p0 : Int32} (hs : gi p0 4 = true → sa (Int32.toNatClampNeg p0) = some (c 0)) {val : Nat} (hf : F_X10_secretIn c_filled p0 = some val) : gCt l D cy yX10_secretIn cX10_secretIn 3 (some (.object "SecretVault$Secret")) 6 82 1 6 [.ref (v 0), .int p0] [] ((wV cy v (b 0) kp ak bf fa fl ln co ch gs op) ++ (wSt cy b z pr le ec wt sa ev) ++ (wSec cy c c_filled c_th c_ep c_rule c_cm c_vs c_es)) val (fun _ : Unit => some (.ref (c 0))) (fun _ => (wV cy v (b 0) kp ak bf fa fl ln co ch gs op) ++ (wSt cy b z pr le ec wt sa ev) ++ (wSec cy c c_filled c_th c_ep c_rule c_cm c_vs c_es)) := by
  refine g_begin (by decide +kernel) (Nat.le_of_ble_eq_true rfl) ?_
  intro X Q hl hR hD hy hro hn C hin E
  subst hl; subst hD; subst hy
  replace C : gC X "SecretVault" cX10_secretIn (some (.object "SecretVault$Secret")) := C
  unfold F_X10_secretIn at hf
  show gW X Q 0 0 ((wV (x_y X) v (b 0) kp ak bf fa fl ln co ch gs op) ++ (wSt (x_y X) b z pr le ec wt sa ev) ++ (wSec (x_y X) c c_filled c_th c_ep c_rule c_cm c_vs c_es)) [(0, .ref (v 0)), (1, .int p0)] [] 0
  refine g_aload_n C 0 dX10_secretIn_0 rfl ?_
  refine g_get C 0 0 rfl rfl wiX10 (by decide) mw_1_171 rfl rfl dX10_secretIn_1 ?_
  refine g_get C 5 3 rfl rfl wiX9 (by decide) mw_1_97 rfl rfl dX10_secretIn_4 ?_
  refine g_iload_n C 1 dX10_secretIn_7 rfl ?_
  obtain ⟨c1, hf⟩ := gg_of hf
  refine g_aald C 7 rfl (gi_in c1) (hs c1) dX10_secretIn_8 ?_
  refine g_astore_n C (lv' := [(2, .ref (c 0)), (0, .ref (v 0)), (1, .int p0)]) dX10_secretIn_9 (g_nlt hn rfl) rfl ?_
  refine g_aload_n C 0 dX10_secretIn_10 rfl ?_
  refine g_get C 9 0 rfl rfl wiX7 (by decide) mw_1_61 rfl rfl dX10_secretIn_11 ?_
  refine g_if_ne C 28 dX10_secretIn_14 (by decide) (fun c2 => ?_) (fun c2 => ?_)
  · have hf := opt_neg c2 hf
    refine g_aload_n C 0 dX10_secretIn_28 rfl ?_
    obtain rfl := Option.some.inj hf
    exact g_aret C E () dX10_secretIn_29 (Or.inl ⟨_, rfl⟩) rfl rfl rfl (Nat.le_of_ble_eq_true rfl) (Nat.le_of_ble_eq_true rfl)
  · have hf := opt_pos c2 hf
    obtain rfl := Option.some.inj hf
    exact g_throwNW C E () (text := "the slot is empty") gTh_3 ms_378 dX10_secretIn_17 dX10_secretIn_20 dX10_secretIn_21 dX10_secretIn_24 dX10_secretIn_27 (g_th hR rfl rfl) (g_rc hR (Nat.le_of_ble_eq_true rfl) (Nat.le_of_ble_eq_true rfl)) (Nat.succ_ne_zero 2) rfl rfl (Nat.le_of_ble_eq_true rfl) (Nat.le_of_ble_eq_true rfl)
/-! X10_remove -/
theorem hd_X10_remove : yX10_remove.cls ≠ "java/lang/invoke/MethodHandle" ∧ yX10_remove.cls ≠ "java/lang/invoke/VarHandle" ∧ (parseMethodDescriptor yX10_remove.desc).map (fun d => d.parameters.length) = some 1 := by decide +kernel
def F_X10_remove (le : Int32) (ec : Int32) (ev : Nat → Int32) (c_filled : Int32) (c_ep : Int32) (c_rule : Option Nat) (c_vs : Nat → Int32) (c_es : Nat → Int32) (p0 : Int32) : Option (Nat × Int32 × Int32 × Int32 × (Nat → Int32) × Int32 × Option Nat × (Nat → Int32) × (Nat → Int32)) := (F_X10_checkSlot p0).bind fun v1 => if v1 = 0 then ((F_X10_secretIn c_filled p0).bind fun v3 => if v3 = 0 then ((F_X7_dropShares c_vs c_es).bind fun v5 => (F_X9_note le ec ev ((200 : Int32) + p0)).bind fun v7 => some (0, c_ep, v7.1, v7.2.1, v7.2.2, 0, none, v5.1, v5.2)) else some (v3, 0, le, ec, ev, c_filled, c_rule, c_vs, c_es)) else some (v1, 0, le, ec, ev, c_filled, c_rule, c_vs, c_es)
set_option maxRecDepth 100000 in
set_option maxHeartbeats 4000000 in
theorem c_X10_remove {l : Launch} {D : va_G} {cy : Nat → ClassId} {v : Nat → Nat} {b : Nat → Nat} {c : Nat → Nat} {kp : Nat} {ak : Int32} {bf : Nat} {fa : Int32} {fl : Nat} {ln : Nat} {co : Nat → Int32} {ch : Nat → Int32} {gs : Nat → Int32} {op : Nat → Int32} {z : Int32} {pr : Int32} {le : Int32} {ec : Int32} {wt : Nat → Int32} {sa : Nat → Option Nat} {ev : Nat → Int32} {c_filled : Int32} {c_th : Int32} {c_ep : Int32} {c_rule : Option Nat} {c_cm : Nat → Int32} {c_vs : Nat → Int32} {c_es : Nat → Int32} {p0 : Int32} (hs : gi p0 4 = true → sa (Int32.toNatClampNeg p0) = some (c 0)) {val : Nat × Int32 × Int32 × Int32 × (Nat → Int32) × Int32 × Option Nat × (Nat → Int32) × (Nat → Int32)} (hf : F_X10_remove le ec ev c_filled c_ep c_rule c_vs c_es p0 = some val) : gCt l D cy yX10_remove cX10_remove 3 (some .int) 7 104 2 12 [.ref (v 0), .int p0] [] ((wV cy v (b 0) kp ak bf fa fl ln co ch gs op) ++ (wSt cy b z pr le ec wt sa ev) ++ (wSec cy c c_filled c_th c_ep c_rule c_cm c_vs c_es)) val.1 (fun _ : Unit => some (.int val.2.1)) (fun _ => (wV cy v (b 0) kp ak bf fa fl ln co ch gs op) ++ (wSt cy b z pr val.2.2.1 val.2.2.2.1 wt sa val.2.2.2.2.1) ++ (wSec cy c val.2.2.2.2.2.1 c_th c_ep val.2.2.2.2.2.2.1 c_cm val.2.2.2.2.2.2.2.1 val.2.2.2.2.2.2.2.2)) := by
  refine g_begin (by decide +kernel) (Nat.le_of_ble_eq_true rfl) ?_
  intro X Q hl hR hD hy hro hn C hin E
  subst hl; subst hD; subst hy
  replace C : gC X "SecretVault" cX10_remove (some .int) := C
  unfold F_X10_remove at hf
  show gW X Q 0 0 ((wV (x_y X) v (b 0) kp ak bf fa fl ln co ch gs op) ++ (wSt (x_y X) b z pr le ec wt sa ev) ++ (wSec (x_y X) c c_filled c_th c_ep c_rule c_cm c_vs c_es)) [(0, .ref (v 0)), (1, .int p0)] [] 0
  refine g_iload_n C 1 dX10_remove_0 rfl ?_
  obtain ⟨v1, h2, hf⟩ := opt_bind hf
  refine g_callS C (c_X10_checkSlot (l := x_l X) (D := x_D X) (cy := x_y X) (p0 := p0) h2) (As := [.int p0]) (rest := []) (wr := (wV (x_y X) v (b 0) kp ak bf fa fl ln co ch gs op) ++ (wSt (x_y X) b z pr le ec wt sa ev) ++ (wSec (x_y X) c c_filled c_th c_ep c_rule c_cm c_vs c_es)) (ws' := fun _ => (wV (x_y X) v (b 0) kp ak bf fa fl ln co ch gs op) ++ (wSt (x_y X) b z pr le ec wt sa ev) ++ (wSec (x_y X) c c_filled c_th c_ep c_rule c_cm c_vs c_es)) (st' := fun _ => []) 1 mw_2_189 mw_1_1 mw_2_187 mw_2_188 hd_X10_checkSlot rfl (g_rm hR rfl rfl) [] [0, 1, 2, 3, 4, 5, 6, 7, 8, 9, 10, 11, 12] [0, 1, 2, 3, 4, 5, 6, 7, 8, 9, 10, 11, 12] ⟨rfl, rfl, rfl, rfl, by decide, gRoIn_0, rfl, fun _ => rfl⟩ rfl (Nat.le_of_ble_eq_true rfl) dX10_remove_1 (g_rc hR (Nat.le_of_ble_eq_true rfl) (Nat.le_of_ble_eq_true rfl)) (ck' := 1) (sk' := 6) rfl rfl (fun _ => rfl) (fun _ ev1 => ?_) (fun _ ev1 => ?_)
  rotate_left
  · have hf := opt_neg ev1 hf
    obtain rfl := Option.some.inj hf
    exact g_out E () rfl ev1 rfl (Nat.le_of_ble_eq_true rfl) (Nat.le_of_ble_eq_true rfl)
  have hf := opt_pos ev1 hf
  refine g_aload_n C 0 dX10_remove_4 rfl ?_
  refine g_iload_n C 1 dX10_remove_5 rfl ?_
  obtain ⟨v3, h4, hf⟩ := opt_bind hf
  refine g_callV C (c_X10_secretIn (l := x_l X) (D := x_D X) (cy := x_y X) (v := v) (b := b) (c := c) (kp := kp) (ak := ak) (bf := bf) (fa := fa) (fl := fl) (ln := ln) (co := co) (ch := ch) (gs := gs) (op := op) (z := z) (pr := pr) (le := le) (ec := ec) (wt := wt) (sa := sa) (ev := ev) (c_filled := c_filled) (c_th := c_th) (c_ep := c_ep) (c_rule := c_rule) (c_cm := c_cm) (c_vs := c_vs) (c_es := c_es) (p0 := p0) (hs := hs) h4) (As := [.int p0]) (rest := []) (wr := []) (ws' := fun _ => (wV (x_y X) v (b 0) kp ak bf fa fl ln co ch gs op) ++ (wSt (x_y X) b z pr le ec wt sa ev) ++ (wSec (x_y X) c c_filled c_th c_ep c_rule c_cm c_vs c_es)) (st' := fun _ => [.ref (c 0)]) (ci := 11) 1 0 ⟨_, rfl⟩ rfl rfl mw_3_34 mw_1_1 mw_3_31 mw_3_33 mp_5 hd_X10_secretIn rfl (g_rm hR rfl rfl) [0, 1, 2, 3, 4, 5, 6, 7, 8, 9, 10, 11, 12] [] [0, 1, 2, 3, 4, 5, 6, 7, 8, 9, 10, 11, 12] ⟨rfl, rfl, rfl, rfl, by decide, gRoIn_0, rfl, fun _ => rfl⟩ rfl (Nat.le_of_ble_eq_true rfl) dX10_remove_6 (g_rc hR (Nat.le_of_ble_eq_true rfl) (Nat.le_of_ble_eq_true rfl)) (ck' := 2) (sk' := 12) rfl rfl (fun _ => rfl) (fun _ ev3 => ?_) (fun _ ev3 => ?_)
  rotate_left
  · have hf := opt_neg ev3 hf
    obtain rfl := Option.some.inj hf
    exact g_out E () rfl ev3 rfl (Nat.le_of_ble_eq_true rfl) (Nat.le_of_ble_eq_true rfl)
  have hf := opt_pos ev3 hf
  refine g_astore_n C (lv' := [(2, .ref (c 0)), (0, .ref (v 0)), (1, .int p0)]) dX10_remove_9 (g_nlt hn rfl) rfl ?_
  refine g_aload_n C 0 dX10_remove_10 rfl ?_
  refine g_iconst C (v := 0) dX10_remove_11 (by decide) ?_
  refine g_put C (ws' := (wV (x_y X) v (b 0) kp ak bf fa fl ln co ch gs op) ++ (wSt (x_y X) b z pr le ec wt sa ev) ++ (wSec (x_y X) c 0 c_th c_ep c_rule c_cm c_vs c_es)) 9 0 rfl rfl wiX7 (by decide) tyX7_ok nmX7 mw_1_61 rfl rfl rfl rfl (Nat.le_of_ble_eq_true rfl) rfl dX10_remove_12 ?_
  refine g_aload_n C 0 dX10_remove_15 rfl ?_
  refine g_null C dX10_remove_16 ?_
  refine g_put C (ws' := (wV (x_y X) v (b 0) kp ak bf fa fl ln co ch gs op) ++ (wSt (x_y X) b z pr le ec wt sa ev) ++ (wSec (x_y X) c 0 c_th c_ep none c_cm c_vs c_es)) 9 4 rfl rfl wiX7 (by decide) tyX7_ok nmX7 mw_1_69 rfl rfl rfl rfl (Nat.le_of_ble_eq_true rfl) rfl dX10_remove_17 ?_
  refine g_aload_n C 0 dX10_remove_20 rfl ?_
  obtain ⟨v5, h6, hf⟩ := opt_bind hf
  refine g_callV C (c_X7_dropShares (l := x_l X) (D := x_D X) (cy := x_y X) (a := c) (filled := 0) (th := c_th) (ep := c_ep) (rule := none) (cm := c_cm) (vs := c_vs) (es := c_es) h6) (As := []) (rest := []) (wr := (wV (x_y X) v (b 0) kp ak bf fa fl ln co ch gs op) ++ (wSt (x_y X) b z pr le ec wt sa ev)) (ws' := fun _ => (wV (x_y X) v (b 0) kp ak bf fa fl ln co ch gs op) ++ (wSt (x_y X) b z pr le ec wt sa ev) ++ (wSec (x_y X) c 0 c_th c_ep none c_cm v5.1 v5.2)) (st' := fun _ => []) (ci := 8) 0 9 ⟨_, rfl⟩ rfl rfl mw_2_236 mw_1_3 mw_2_233 mw_2_234 mw_2_235 hd_X7_dropShares rfl (g_rm hR rfl rfl) [9, 10, 11, 12] [0, 1, 2, 3, 4, 5, 6, 7, 8] [0, 1, 2, 3, 4, 5, 6, 7, 8, 9, 10, 11, 12] ⟨rfl, rfl, rfl, rfl, by decide, gRoIn_0, rfl, fun _ => rfl⟩ rfl (Nat.le_of_ble_eq_true rfl) dX10_remove_21 (g_rc hR (Nat.le_of_ble_eq_true rfl) (Nat.le_of_ble_eq_true rfl)) (ck' := 2) (sk' := 12) rfl rfl (fun _ => rfl) (fun _ _ => ?_) (fun _ hx => absurd rfl hx)
  refine g_aload_n C 1 dX10_remove_24 rfl ?_
  refine g_get C 0 0 rfl rfl wiX10 (by decide) mw_1_171 rfl rfl dX10_remove_25 ?_
  refine g_sipush C (v := 200) dX10_remove_28 (by decide) ?_
  refine g_iload_n C 2 dX10_remove_31 rfl ?_
  refine g_iadd C dX10_remove_32 ?_
  obtain ⟨v7, h8, hf⟩ := opt_bind hf
  refine g_callV C (c_X9_note (l := x_l X) (D := x_D X) (cy := x_y X) (a := b) (z := z) (pr := pr) (le := le) (ec := ec) (wt := wt) (sa := sa) (ev := ev) (p0 := (200 : Int32) + p0) h8) (As := [.int ((200 : Int32) + p0)]) (rest := []) (wr := (wV (x_y X) v (b 0) kp ak bf fa fl ln co ch gs op) ++ (wSec (x_y X) c 0 c_th c_ep none c_cm v5.1 v5.2)) (ws' := fun _ => (wV (x_y X) v (b 0) kp ak bf fa fl ln co ch gs op) ++ (wSt (x_y X) b z pr v7.1 v7.2.1 wt sa v7.2.2) ++ (wSec (x_y X) c 0 c_th c_ep none c_cm v5.1 v5.2)) (st' := fun _ => []) (ci := 10) 1 5 ⟨_, rfl⟩ rfl rfl mw_3_19 mw_1_2 mw_3_16 mw_3_17 mw_3_18 hd_X9_note rfl (g_rm hR rfl rfl) [5, 6, 7, 8] [0, 1, 2, 3, 4, 9, 10, 11, 12] [0, 1, 2, 3, 4, 9, 10, 11, 12, 5, 6, 7, 8] ⟨rfl, rfl, rfl, rfl, by decide, gRoIn_0, rfl, fun _ => rfl⟩ rfl (Nat.le_of_ble_eq_true rfl) dX10_remove_33 (g_rc hR (Nat.le_of_ble_eq_true rfl) (Nat.le_of_ble_eq_true rfl)) (ck' := 2) (sk' := 12) rfl rfl (fun _ => rfl) (fun _ _ => ?_) (fun _ hx => absurd rfl hx)
  refine g_aload_n C 0 dX10_remove_36 rfl ?_
  refine g_get C 9 2 rfl rfl wiX7 (by decide) mw_1_65 rfl rfl dX10_remove_37 ?_
  obtain rfl := Option.some.inj hf
  exact g_iret C E () dX10_remove_40 rfl rfl rfl (Nat.le_of_ble_eq_true rfl) (Nat.le_of_ble_eq_true rfl)
/-! X10_renewShares -/
theorem hd_X10_renewShares : yX10_renewShares.cls ≠ "java/lang/invoke/MethodHandle" ∧ yX10_renewShares.cls ≠ "java/lang/invoke/VarHandle" ∧ (parseMethodDescriptor yX10_renewShares.desc).map (fun d => d.parameters.length) = some 1 := by decide +kernel
def F_X10_renewShares_L106 (c_th : Int32)  : Nat → (Nat → Int32) → Int32 → Int32 → (Nat → Int32) → (Nat → Int32) → (Nat → Int32) → Int32 → Int32 → Option (Int32 × (Nat → Int32) × Int32 × Int32 × (Nat → Int32) × (Nat → Int32) × (Nat → Int32))
  | 0, _, _, _, _, _, _, _, _ => none
  | n + 1, co_106, z_106, c_ep_106, c_cm_106, c_vs_106, c_es_106, l2_106, l3_106 => if c_th ≤ l3_106 then (some (l2_106, co_106, z_106, c_ep_106 + 1, c_cm_106, c_vs_106, c_es_106)) else (gg (gi l3_106 8) (gg (gi l3_106 8) ((F_X2_commitmentTo (co_106 (Int32.toNatClampNeg l3_106))).bind fun v7 => gl (((c_cm_106 (Int32.toNatClampNeg l3_106)) * v7) - ((c_cm_106 (Int32.toNatClampNeg l3_106)) * v7) / 2039 * 2039) fun x9 => gg (gi l3_106 8) (gl (upd c_cm_106 (Int32.toNatClampNeg l3_106) x9) fun f11 => F_X10_renewShares_L106 c_th n co_106 z_106 c_ep_106 f11 c_vs_106 c_es_106 l2_106 (l3_106 + 1)))))
def F_X10_renewShares_L98  (K13 : (Nat → Int32) → Int32 → Int32 → (Nat → Int32) → (Nat → Int32) → (Nat → Int32) → Int32 → Int32 → Option (Int32 × (Nat → Int32) × Int32 × Int32 × (Nat → Int32) × (Nat → Int32) × (Nat → Int32))) (co_98 : Nat → Int32) (z_98 : Int32) (c_ep_98 : Int32) (c_cm_98 : Nat → Int32) (c_vs_98 : Nat → Int32) (c_es_98 : Nat → Int32) (l2_98 : Int32) (l3_98 : Int32) : Option (Int32 × (Nat → Int32) × Int32 × Int32 × (Nat → Int32) × (Nat → Int32) × (Nat → Int32)) := K13 co_98 z_98 c_ep_98 c_cm_98 c_vs_98 c_es_98 l2_98 (l3_98 + 1)
def F_X10_renewShares_L13 (pr : Int32) (c_th : Int32)  : Nat → (Nat → Int32) → Int32 → Int32 → (Nat → Int32) → (Nat → Int32) → (Nat → Int32) → Int32 → Int32 → Option (Int32 × (Nat → Int32) × Int32 × Int32 × (Nat → Int32) × (Nat → Int32) × (Nat → Int32))
  | 0, _, _, _, _, _, _, _, _ => none
  | n + 1, co_13, z_13, c_ep_13, c_cm_13, c_vs_13, c_es_13, l2_13, l3_13 => if 24 < l3_13 then (F_X10_renewShares_L106 c_th 1000 co_13 z_13 c_ep_13 c_cm_13 c_vs_13 c_es_13 l2_13 0) else ((F_X10_ownerOf l3_13).bind fun v12 => (F_X10_contains pr v12).bind fun v14 => if v14 = 0 then (F_X10_renewShares_L98 (F_X10_renewShares_L13 pr c_th n) co_13 z_13 c_ep_13 c_cm_13 c_vs_13 c_es_13 l2_13 l3_13) else ((F_X7_holds c_es_13 l3_13).bind fun v17 => if v17 = 0 then (F_X10_renewShares_L98 (F_X10_renewShares_L13 pr c_th n) co_13 z_13 c_ep_13 c_cm_13 c_vs_13 c_es_13 l2_13 l3_13) else (gg (gi l3_13 25) (if (c_es_13 (Int32.toNatClampNeg l3_13)) = c_ep_13 then ((F_X2_polynomialAt co_13 l3_13 c_th).bind fun v22 => gg (gi l3_13 25) (gl (((c_vs_13 (Int32.toNatClampNeg l3_13)) + v22) - ((c_vs_13 (Int32.toNatClampNeg l3_13)) + v22) / 1019 * 1019) fun x25 => (F_X7_give c_vs_13 c_es_13 l3_13 x25 (c_ep_13 + 1)).bind fun v26 => F_X10_renewShares_L98 (F_X10_renewShares_L13 pr c_th n) co_13 z_13 c_ep_13 c_cm_13 v26.1 v26.2 (l2_13 + 1) l3_13)) else (F_X10_renewShares_L98 (F_X10_renewShares_L13 pr c_th n) co_13 z_13 c_ep_13 c_cm_13 c_vs_13 c_es_13 l2_13 l3_13)))))
def F_X10_renewShares (co : Nat → Int32) (z : Int32) (pr : Int32) (c_th : Int32) (c_ep : Int32) (c_cm : Nat → Int32) (c_vs : Nat → Int32) (c_es : Nat → Int32) : Option (Int32 × (Nat → Int32) × Int32 × Int32 × (Nat → Int32) × (Nat → Int32) × (Nat → Int32)) := (F_X10_drawCoefficients co z 0 c_th).bind fun v1 => F_X10_renewShares_L13 pr c_th 1000 v1.1 v1.2 c_ep c_cm c_vs c_es 0 1
set_option maxRecDepth 100000 in
set_option maxHeartbeats 4000000 in
theorem c_X10_renewShares {l : Launch} {D : va_G} {cy : Nat → ClassId} {v : Nat → Nat} {b : Nat → Nat} {c : Nat → Nat} {kp : Nat} {ak : Int32} {bf : Nat} {fa : Int32} {fl : Nat} {ln : Nat} {co : Nat → Int32} {ch : Nat → Int32} {gs : Nat → Int32} {op : Nat → Int32} {z : Int32} {pr : Int32} {le : Int32} {ec : Int32} {wt : Nat → Int32} {sa : Nat → Option Nat} {ev : Nat → Int32} {c_filled : Int32} {c_th : Int32} {c_ep : Int32} {c_rule : Option Nat} {c_cm : Nat → Int32} {c_vs : Nat → Int32} {c_es : Nat → Int32}   {val : Int32 × (Nat → Int32) × Int32 × Int32 × (Nat → Int32) × (Nat → Int32) × (Nat → Int32)} (hf : F_X10_renewShares co z pr c_th c_ep c_cm c_vs c_es = some val) : gCt l D cy yX10_renewShares cX10_renewShares 5 (some .int) 2 43 0 0 [.ref (v 0), .ref (c 0)] [] ((wV cy v (b 0) kp ak bf fa fl ln co ch gs op) ++ (wSt cy b z pr le ec wt sa ev) ++ (wSec cy c c_filled c_th c_ep c_rule c_cm c_vs c_es)) 0 (fun _ : Unit => some (.int val.1)) (fun _ => (wV cy v (b 0) kp ak bf fa fl ln val.2.1 ch gs op) ++ (wSt cy b val.2.2.1 pr le ec wt sa ev) ++ (wSec cy c c_filled c_th val.2.2.2.1 c_rule val.2.2.2.2.1 val.2.2.2.2.2.1 val.2.2.2.2.2.2)) := by
  refine g_begin (by decide +kernel) (Nat.le_of_ble_eq_true rfl) ?_
  intro X Q hl hR hD hy hro hn C hin E
  subst hl; subst hD; subst hy
  replace C : gC X "SecretVault" cX10_renewShares (some .int) := C
  unfold F_X10_renewShares at hf
  have H106 : ∀ (n106 : Nat), ∀ (co_106 : Nat → Int32) (z_106 : Int32) (c_ep_106 : Int32) (c_cm_106 : Nat → Int32) (c_vs_106 : Nat → Int32) (c_es_106 : Nat → Int32) (l2_106 : Int32) (l3_106 : Int32), F_X10_renewShares_L106 c_th n106 co_106 z_106 c_ep_106 c_cm_106 c_vs_106 c_es_106 l2_106 l3_106 = some val → gW X Q 0 0 ((wV (x_y X) v (b 0) kp ak bf fa fl ln co_106 ch gs op) ++ (wSt (x_y X) b z_106 pr le ec wt sa ev) ++ (wSec (x_y X) c c_filled c_th c_ep_106 c_rule c_cm_106 c_vs_106 c_es_106)) [(0, .ref (v 0)), (1, .ref (c 0)), (2, .int l2_106), (3, .int l3_106)] [] 106 := by
    intro n106
    induction n106 with
    | zero => intros; rename_i hf; cases hf
    | succ n106 ih =>
      intro co_106 z_106 c_ep_106 c_cm_106 c_vs_106 c_es_106 l2_106 l3_106 hf
      have H106 := ih
      rw [F_X10_renewShares_L106] at hf
      refine g_iload_n C 3 dX10_renewShares_106 rfl ?_
      refine g_aload_n C 1 dX10_renewShares_107 rfl ?_
      refine g_get C 9 1 rfl rfl wiX7 (by decide) mw_1_63 rfl rfl dX10_renewShares_108 ?_
      refine g_icmp_ge C 146 dX10_renewShares_111 (by decide) (fun c4 => ?_) (fun c4 => ?_)
      · have hf := opt_pos c4 hf
        refine g_aload_n C 1 dX10_renewShares_146 rfl ?_
        refine g_dup C dX10_renewShares_147 rfl ?_
        refine g_get C 9 2 rfl rfl wiX7 (by decide) mw_1_65 rfl rfl dX10_renewShares_148 ?_
        refine g_iconst C (v := 1) dX10_renewShares_151 (by decide) ?_
        refine g_iadd C dX10_renewShares_152 ?_
        refine g_put C (ws' := (wV (x_y X) v (b 0) kp ak bf fa fl ln co_106 ch gs op) ++ (wSt (x_y X) b z_106 pr le ec wt sa ev) ++ (wSec (x_y X) c c_filled c_th (c_ep_106 + 1) c_rule c_cm_106 c_vs_106 c_es_106)) 9 2 rfl rfl wiX7 (by decide) tyX7_ok nmX7 mw_1_65 rfl rfl rfl rfl (Nat.le_of_ble_eq_true rfl) rfl dX10_renewShares_153 ?_
        refine g_iload_n C 2 dX10_renewShares_156 rfl ?_
        obtain rfl := Option.some.inj hf
        exact g_iret C E () dX10_renewShares_157 rfl rfl rfl (Nat.le_of_ble_eq_true rfl) (Nat.le_of_ble_eq_true rfl)
      · have hf := opt_neg c4 hf
        refine g_aload_n C 1 dX10_renewShares_114 rfl ?_
        refine g_get C 9 3 rfl rfl wiX7 (by decide) mw_1_67 rfl rfl dX10_renewShares_115 ?_
        refine g_iload_n C 3 dX10_renewShares_118 rfl ?_
        refine g_aload_n C 1 dX10_renewShares_119 rfl ?_
        refine g_get C 9 3 rfl rfl wiX7 (by decide) mw_1_67 rfl rfl dX10_renewShares_120 ?_
        refine g_iload_n C 3 dX10_renewShares_123 rfl ?_
        obtain ⟨c5, hf⟩ := gg_of hf
        refine g_iald C 10 rfl (gi_in c5) dX10_renewShares_124 ?_
        refine g_aload_n C 0 dX10_renewShares_125 rfl ?_
        refine g_get C 0 6 rfl rfl wiX10 (by decide) mw_1_177 rfl rfl dX10_renewShares_126 ?_
        refine g_iload_n C 3 dX10_renewShares_129 rfl ?_
        obtain ⟨c6, hf⟩ := gg_of hf
        refine g_iald C 1 rfl (gi_in c6) dX10_renewShares_130 ?_
        obtain ⟨v7, h8, hf⟩ := opt_bind hf
        refine g_callS C (c_X2_commitmentTo (l := x_l X) (D := x_D X) (cy := x_y X) (p0 := co_106 (Int32.toNatClampNeg l3_106)) h8) (As := [.int (co_106 (Int32.toNatClampNeg l3_106))]) (rest := [.int (c_cm_106 (Int32.toNatClampNeg l3_106)), .int l3_106, .ref (c 1)]) (wr := (wV (x_y X) v (b 0) kp ak bf fa fl ln co_106 ch gs op) ++ (wSt (x_y X) b z_106 pr le ec wt sa ev) ++ (wSec (x_y X) c c_filled c_th c_ep_106 c_rule c_cm_106 c_vs_106 c_es_106)) (ws' := fun _ => (wV (x_y X) v (b 0) kp ak bf fa fl ln co_106 ch gs op) ++ (wSt (x_y X) b z_106 pr le ec wt sa ev) ++ (wSec (x_y X) c c_filled c_th c_ep_106 c_rule c_cm_106 c_vs_106 c_es_106)) (st' := fun _ => [.int v7, .int (c_cm_106 (Int32.toNatClampNeg l3_106)), .int l3_106, .ref (c 1)]) 1 mw_2_170 mw_1_16 mw_2_232 mw_2_169 hd_X2_commitmentTo rfl (g_rm hR rfl rfl) [] [0, 1, 2, 3, 4, 5, 6, 7, 8, 9, 10, 11, 12] [0, 1, 2, 3, 4, 5, 6, 7, 8, 9, 10, 11, 12] ⟨rfl, rfl, rfl, rfl, by decide, gRoIn_0, rfl, fun _ => rfl⟩ rfl (Nat.le_of_ble_eq_true rfl) dX10_renewShares_131 (g_rc hR (Nat.le_of_ble_eq_true rfl) (Nat.le_of_ble_eq_true rfl)) (ck' := 0) (sk' := 0) rfl rfl (fun _ => rfl) (fun _ _ => ?_) (fun _ hx => absurd rfl hx)
        refine g_imul C dX10_renewShares_134 ?_
        refine g_sipush C (v := 2039) dX10_renewShares_135 (by decide) ?_
        refine g_irem C dX10_renewShares_138 (by decide) ?_
        obtain ⟨x9, ex9, hf⟩ := opt_let hf
        refine g_topi ex9 ?_
        obtain ⟨c10, hf⟩ := gg_of hf
        obtain ⟨f11, ef11, hf⟩ := opt_let hf
        refine g_iast C (ws' := (wV (x_y X) v (b 0) kp ak bf fa fl ln co_106 ch gs op) ++ (wSt (x_y X) b z_106 pr le ec wt sa ev) ++ (wSec (x_y X) c c_filled c_th c_ep_106 c_rule f11 c_vs_106 c_es_106)) 10 rfl (gi_in c10) (by rw [ef11]; rfl) dX10_renewShares_139 ?_
        refine g_iinc C 3 (v := l3_106 + 1) (lv' := [(3, .int (l3_106 + 1)), (0, .ref (v 0)), (1, .ref (c 0)), (2, .int l2_106)]) dX10_renewShares_140 rfl rfl (g_nlt hn rfl) rfl ?_
        refine g_goto C 106 dX10_renewShares_143 (by decide) ?_
        refine gW.locals [1, 2, 3, 0] rfl ?_
        exact H106 co_106 z_106 c_ep_106 f11 c_vs_106 c_es_106 l2_106 (l3_106 + 1) hf
  have H13 : ∀ (n13 : Nat), ∀ (co_13 : Nat → Int32) (z_13 : Int32) (c_ep_13 : Int32) (c_cm_13 : Nat → Int32) (c_vs_13 : Nat → Int32) (c_es_13 : Nat → Int32) (l2_13 : Int32) (l3_13 : Int32), F_X10_renewShares_L13 pr c_th n13 co_13 z_13 c_ep_13 c_cm_13 c_vs_13 c_es_13 l2_13 l3_13 = some val → gW X Q 0 0 ((wV (x_y X) v (b 0) kp ak bf fa fl ln co_13 ch gs op) ++ (wSt (x_y X) b z_13 pr le ec wt sa ev) ++ (wSec (x_y X) c c_filled c_th c_ep_13 c_rule c_cm_13 c_vs_13 c_es_13)) [(0, .ref (v 0)), (1, .ref (c 0)), (2, .int l2_13), (3, .int l3_13)] [] 13 := by
    intro n13
    induction n13 with
    | zero => intros; rename_i hf; cases hf
    | succ n13 ih =>
      intro co_13 z_13 c_ep_13 c_cm_13 c_vs_13 c_es_13 l2_13 l3_13 hf
      have H13 := ih
      rw [F_X10_renewShares_L13] at hf
      have H98 : ∀ (co_98 : Nat → Int32) (z_98 : Int32) (c_ep_98 : Int32) (c_cm_98 : Nat → Int32) (c_vs_98 : Nat → Int32) (c_es_98 : Nat → Int32) (l2_98 : Int32) (l3_98 : Int32), F_X10_renewShares_L98 (F_X10_renewShares_L13 pr c_th n13) co_98 z_98 c_ep_98 c_cm_98 c_vs_98 c_es_98 l2_98 l3_98 = some val → gW X Q 0 0 ((wV (x_y X) v (b 0) kp ak bf fa fl ln co_98 ch gs op) ++ (wSt (x_y X) b z_98 pr le ec wt sa ev) ++ (wSec (x_y X) c c_filled c_th c_ep_98 c_rule c_cm_98 c_vs_98 c_es_98)) [(0, .ref (v 0)), (1, .ref (c 0)), (2, .int l2_98), (3, .int l3_98)] [] 98 := by
        intro co_98 z_98 c_ep_98 c_cm_98 c_vs_98 c_es_98 l2_98 l3_98 hf
        unfold F_X10_renewShares_L98 at hf
        refine g_iinc C 3 (v := l3_98 + 1) (lv' := [(3, .int (l3_98 + 1)), (0, .ref (v 0)), (1, .ref (c 0)), (2, .int l2_98)]) dX10_renewShares_98 rfl rfl (g_nlt hn rfl) rfl ?_
        refine g_goto C 13 dX10_renewShares_101 (by decide) ?_
        refine gW.locals [1, 2, 3, 0] rfl ?_
        exact H13 co_98 z_98 c_ep_98 c_cm_98 c_vs_98 c_es_98 l2_98 (l3_98 + 1) hf
      refine g_iload_n C 3 dX10_renewShares_13 rfl ?_
      refine g_bipush C (v := 24) dX10_renewShares_14 (by decide) ?_
      refine g_icmp_gt C 104 dX10_renewShares_16 (by decide) (fun c3 => ?_) (fun c3 => ?_)
      · have hf := opt_pos c3 hf
        refine g_iconst C (v := 0) dX10_renewShares_104 (by decide) ?_
        refine g_istore_n C (lv' := [(3, .int 0), (0, .ref (v 0)), (1, .ref (c 0)), (2, .int l2_13)]) dX10_renewShares_105 (g_nlt hn rfl) rfl ?_
        refine gW.locals [1, 2, 3, 0] rfl ?_
        exact H106 1000 co_13 z_13 c_ep_13 c_cm_13 c_vs_13 c_es_13 l2_13 0 hf
      · have hf := opt_neg c3 hf
        refine g_aload_n C 0 dX10_renewShares_19 rfl ?_
        refine g_get C 0 0 rfl rfl wiX10 (by decide) mw_1_171 rfl rfl dX10_renewShares_20 ?_
        refine g_get C 5 2 rfl rfl wiX9 (by decide) mw_1_95 rfl rfl dX10_renewShares_23 ?_
        refine g_iload_n C 3 dX10_renewShares_26 rfl ?_
        obtain ⟨v12, h13, hf⟩ := opt_bind hf
        refine g_callS C (c_X10_ownerOf (l := x_l X) (D := x_D X) (cy := x_y X) (p0 := l3_13) h13) (As := [.int l3_13]) (rest := [.int pr]) (wr := (wV (x_y X) v (b 0) kp ak bf fa fl ln co_13 ch gs op) ++ (wSt (x_y X) b z_13 pr le ec wt sa ev) ++ (wSec (x_y X) c c_filled c_th c_ep_13 c_rule c_cm_13 c_vs_13 c_es_13)) (ws' := fun _ => (wV (x_y X) v (b 0) kp ak bf fa fl ln co_13 ch gs op) ++ (wSt (x_y X) b z_13 pr le ec wt sa ev) ++ (wSec (x_y X) c c_filled c_th c_ep_13 c_rule c_cm_13 c_vs_13 c_es_13)) (st' := fun _ => [.int v12, .int pr]) 1 mw_2_154 mw_1_1 mw_3_62 mw_2_153 hd_X10_ownerOf rfl (g_rm hR rfl rfl) [] [0, 1, 2, 3, 4, 5, 6, 7, 8, 9, 10, 11, 12] [0, 1, 2, 3, 4, 5, 6, 7, 8, 9, 10, 11, 12] ⟨rfl, rfl, rfl, rfl, by decide, gRoIn_0, rfl, fun _ => rfl⟩ rfl (Nat.le_of_ble_eq_true rfl) dX10_renewShares_27 (g_rc hR (Nat.le_of_ble_eq_true rfl) (Nat.le_of_ble_eq_true rfl)) (ck' := 0) (sk' := 0) rfl rfl (fun _ => rfl) (fun _ _ => ?_) (fun _ hx => absurd rfl hx)
        obtain ⟨v14, h15, hf⟩ := opt_bind hf
        refine g_callS C (c_X10_contains (l := x_l X) (D := x_D X) (cy := x_y X) (p0 := pr) (p1 := v12) h15) (As := [.int pr, .int v12]) (rest := []) (wr := (wV (x_y X) v (b 0) kp ak bf fa fl ln co_13 ch gs op) ++ (wSt (x_y X) b z_13 pr le ec wt sa ev) ++ (wSec (x_y X) c c_filled c_th c_ep_13 c_rule c_cm_13 c_vs_13 c_es_13)) (ws' := fun _ => (wV (x_y X) v (b 0) kp ak bf fa fl ln co_13 ch gs op) ++ (wSt (x_y X) b z_13 pr le ec wt sa ev) ++ (wSec (x_y X) c c_filled c_th c_ep_13 c_rule c_cm_13 c_vs_13 c_es_13)) (st' := fun _ => [.int v14]) 2 mw_2_136 mw_1_1 mw_2_134 mw_2_135 hd_X10_contains rfl (g_rm hR rfl rfl) [] [0, 1, 2, 3, 4, 5, 6, 7, 8, 9, 10, 11, 12] [0, 1, 2, 3, 4, 5, 6, 7, 8, 9, 10, 11, 12] ⟨rfl, rfl, rfl, rfl, by decide, gRoIn_0, rfl, fun _ => rfl⟩ rfl (Nat.le_of_ble_eq_true rfl) dX10_renewShares_30 (g_rc hR (Nat.le_of_ble_eq_true rfl) (Nat.le_of_ble_eq_true rfl)) (ck' := 0) (sk' := 0) rfl rfl (fun _ => rfl) (fun _ _ => ?_) (fun _ hx => absurd rfl hx)
        refine g_if_eq C 98 dX10_renewShares_33 (by decide) (fun c16 => ?_) (fun c16 => ?_)
        · have hf := opt_pos c16 hf
          exact H98 co_13 z_13 c_ep_13 c_cm_13 c_vs_13 c_es_13 l2_13 l3_13 hf
        · have hf := opt_neg c16 hf
          refine g_aload_n C 1 dX10_renewShares_36 rfl ?_
          refine g_iload_n C 3 dX10_renewShares_37 rfl ?_
          obtain ⟨v17, h18, hf⟩ := opt_bind hf
          refine g_callV C (c_X7_holds (l := x_l X) (D := x_D X) (cy := x_y X) (a := c) (filled := c_filled) (th := c_th) (ep := c_ep_13) (rule := c_rule) (cm := c_cm_13) (vs := c_vs_13) (es := c_es_13) (p0 := l3_13) h18) (As := [.int l3_13]) (rest := []) (wr := (wV (x_y X) v (b 0) kp ak bf fa fl ln co_13 ch gs op) ++ (wSt (x_y X) b z_13 pr le ec wt sa ev)) (ws' := fun _ => (wV (x_y X) v (b 0) kp ak bf fa fl ln co_13 ch gs op) ++ (wSt (x_y X) b z_13 pr le ec wt sa ev) ++ (wSec (x_y X) c c_filled c_th c_ep_13 c_rule c_cm_13 c_vs_13 c_es_13)) (st' := fun _ => [.int v17]) (ci := 8) 1 9 ⟨_, rfl⟩ rfl rfl mw_2_159 mw_1_3 mw_3_63 mw_2_157 mw_2_158 hd_X7_holds rfl (g_rm hR rfl rfl) [9, 10, 11, 12] [0, 1, 2, 3, 4, 5, 6, 7, 8] [0, 1, 2, 3, 4, 5, 6, 7, 8, 9, 10, 11, 12] ⟨rfl, rfl, rfl, rfl, by decide, gRoIn_0, rfl, fun _ => rfl⟩ rfl (Nat.le_of_ble_eq_true rfl) dX10_renewShares_38 (g_rc hR (Nat.le_of_ble_eq_true rfl) (Nat.le_of_ble_eq_true rfl)) (ck' := 0) (sk' := 0) rfl rfl (fun _ => rfl) (fun _ _ => ?_) (fun _ hx => absurd rfl hx)
          refine g_if_eq C 98 dX10_renewShares_41 (by decide) (fun c19 => ?_) (fun c19 => ?_)
          · have hf := opt_pos c19 hf
            exact H98 co_13 z_13 c_ep_13 c_cm_13 c_vs_13 c_es_13 l2_13 l3_13 hf
          · have hf := opt_neg c19 hf
            refine g_aload_n C 1 dX10_renewShares_44 rfl ?_
            refine g_get C 9 6 rfl rfl wiX7 (by decide) mw_1_73 rfl rfl dX10_renewShares_45 ?_
            refine g_iload_n C 3 dX10_renewShares_48 rfl ?_
            obtain ⟨c20, hf⟩ := gg_of hf
            refine g_iald C 12 rfl (gi_in c20) dX10_renewShares_49 ?_
            refine g_aload_n C 1 dX10_renewShares_50 rfl ?_
            refine g_get C 9 2 rfl rfl wiX7 (by decide) mw_1_65 rfl rfl dX10_renewShares_51 ?_
            refine g_icmp_ne C 98 dX10_renewShares_54 (by decide) (fun c21 => ?_) (fun c21 => ?_)
            · have hf := opt_neg c21 hf
              exact H98 co_13 z_13 c_ep_13 c_cm_13 c_vs_13 c_es_13 l2_13 l3_13 hf
            · have hf := opt_pos c21 hf
              refine g_iload_n C 3 dX10_renewShares_57 rfl ?_
              refine g_aload_n C 0 dX10_renewShares_58 rfl ?_
              refine g_get C 0 6 rfl rfl wiX10 (by decide) mw_1_177 rfl rfl dX10_renewShares_59 ?_
              refine g_aload_n C 1 dX10_renewShares_62 rfl ?_
              refine g_get C 9 1 rfl rfl wiX7 (by decide) mw_1_63 rfl rfl dX10_renewShares_63 ?_
              obtain ⟨v22, h23, hf⟩ := opt_bind hf
              refine g_callS C (c_X2_polynomialAt (l := x_l X) (D := x_D X) (cy := x_y X) (ca := (v 1)) (pa := co_13) (p0 := l3_13) (p2 := c_th) h23) (As := [.int l3_13, .ref (v 1), .int c_th]) (rest := []) (wr := [((v 0), .inr (11, [.ref (b 0), .ref kp, .int ak, .ref bf, .int fa, .ref fl, .ref (v 1), .ref (v 2), .ref (v 3), .ref (v 4), .ref ln])), ((v 2), .inl ((x_y X) 0, 8, .inl ch)), ((v 3), .inl ((x_y X) 0, 8, .inl gs)), ((v 4), .inl ((x_y X) 1, 256, .inl op))] ++ (wSt (x_y X) b z_13 pr le ec wt sa ev) ++ (wSec (x_y X) c c_filled c_th c_ep_13 c_rule c_cm_13 c_vs_13 c_es_13)) (ws' := fun _ => (wV (x_y X) v (b 0) kp ak bf fa fl ln co_13 ch gs op) ++ (wSt (x_y X) b z_13 pr le ec wt sa ev) ++ (wSec (x_y X) c c_filled c_th c_ep_13 c_rule c_cm_13 c_vs_13 c_es_13)) (st' := fun _ => [.int v22]) 3 mw_3_11 mw_1_16 mw_3_9 mw_3_10 hd_X2_polynomialAt rfl (g_rm hR rfl rfl) [1] [0, 2, 3, 4, 5, 6, 7, 8, 9, 10, 11, 12] [0, 12, 1, 2, 3, 4, 5, 6, 7, 8, 9, 10, 11] ⟨rfl, rfl, rfl, rfl, by decide, gRoIn_0, rfl, fun _ => rfl⟩ rfl (Nat.le_of_ble_eq_true rfl) dX10_renewShares_66 (g_rc hR (Nat.le_of_ble_eq_true rfl) (Nat.le_of_ble_eq_true rfl)) (ck' := 0) (sk' := 0) rfl rfl (fun _ => rfl) (fun _ _ => ?_) (fun _ hx => absurd rfl hx)
              refine g_istore C (lv' := [(4, .int v22), (0, .ref (v 0)), (1, .ref (c 0)), (2, .int l2_13), (3, .int l3_13)]) dX10_renewShares_69 (g_nlt hn rfl) rfl ?_
              refine g_aload_n C 2 dX10_renewShares_71 rfl ?_
              refine g_iload_n C 4 dX10_renewShares_72 rfl ?_
              refine g_aload_n C 2 dX10_renewShares_73 rfl ?_
              refine g_get C 9 5 rfl rfl wiX7 (by decide) mw_1_71 rfl rfl dX10_renewShares_74 ?_
              refine g_iload_n C 4 dX10_renewShares_77 rfl ?_
              obtain ⟨c24, hf⟩ := gg_of hf
              refine g_iald C 11 rfl (gi_in c24) dX10_renewShares_78 ?_
              refine g_iload C 0 dX10_renewShares_79 rfl ?_
              refine g_iadd C dX10_renewShares_81 ?_
              refine g_sipush C (v := 1019) dX10_renewShares_82 (by decide) ?_
              refine g_irem C dX10_renewShares_85 (by decide) ?_
              obtain ⟨x25, ex25, hf⟩ := opt_let hf
              refine g_topi ex25 ?_
              refine g_aload_n C 2 dX10_renewShares_86 rfl ?_
              refine g_get C 9 2 rfl rfl wiX7 (by decide) mw_1_65 rfl rfl dX10_renewShares_87 ?_
              refine g_iconst C (v := 1) dX10_renewShares_90 (by decide) ?_
              refine g_iadd C dX10_renewShares_91 ?_
              obtain ⟨v26, h27, hf⟩ := opt_bind hf
              refine g_callV C (c_X7_give (l := x_l X) (D := x_D X) (cy := x_y X) (a := c) (filled := c_filled) (th := c_th) (ep := c_ep_13) (rule := c_rule) (cm := c_cm_13) (vs := c_vs_13) (es := c_es_13) (p0 := l3_13) (p1 := x25) (p2 := c_ep_13 + 1) h27) (As := [.int l3_13, .int x25, .int (c_ep_13 + 1)]) (rest := []) (wr := (wV (x_y X) v (b 0) kp ak bf fa fl ln co_13 ch gs op) ++ (wSt (x_y X) b z_13 pr le ec wt sa ev)) (ws' := fun _ => (wV (x_y X) v (b 0) kp ak bf fa fl ln co_13 ch gs op) ++ (wSt (x_y X) b z_13 pr le ec wt sa ev) ++ (wSec (x_y X) c c_filled c_th c_ep_13 c_rule c_cm_13 v26.1 v26.2)) (st' := fun _ => []) (ci := 8) 3 9 ⟨_, rfl⟩ rfl rfl mw_3_15 mw_1_3 mw_3_12 mw_3_13 mw_3_14 hd_X7_give rfl (g_rm hR rfl rfl) [9, 10, 11, 12] [0, 1, 2, 3, 4, 5, 6, 7, 8] [0, 1, 2, 3, 4, 5, 6, 7, 8, 9, 10, 11, 12] ⟨rfl, rfl, rfl, rfl, by decide, gRoIn_0, rfl, fun _ => rfl⟩ rfl (Nat.le_of_ble_eq_true rfl) dX10_renewShares_92 (g_rc hR (Nat.le_of_ble_eq_true rfl) (Nat.le_of_ble_eq_true rfl)) (ck' := 0) (sk' := 0) rfl rfl (fun _ => rfl) (fun _ _ => ?_) (fun _ hx => absurd rfl hx)
              refine g_iinc C 3 (v := l2_13 + 1) (lv' := [(2, .int (l2_13 + 1)), (4, .int v22), (0, .ref (v 0)), (1, .ref (c 0)), (3, .int l3_13)]) dX10_renewShares_95 rfl rfl (g_nlt hn rfl) rfl ?_
              refine gW.locals [2, 3, 0, 4] rfl ?_
              exact H98 co_13 z_13 c_ep_13 c_cm_13 v26.1 v26.2 (l2_13 + 1) l3_13 hf
  show gW X Q 0 0 ((wV (x_y X) v (b 0) kp ak bf fa fl ln co ch gs op) ++ (wSt (x_y X) b z pr le ec wt sa ev) ++ (wSec (x_y X) c c_filled c_th c_ep c_rule c_cm c_vs c_es)) [(0, .ref (v 0)), (1, .ref (c 0))] [] 0
  refine g_aload_n C 0 dX10_renewShares_0 rfl ?_
  refine g_iconst C (v := 0) dX10_renewShares_1 (by decide) ?_
  refine g_aload_n C 1 dX10_renewShares_2 rfl ?_
  refine g_get C 9 1 rfl rfl wiX7 (by decide) mw_1_63 rfl rfl dX10_renewShares_3 ?_
  obtain ⟨v1, h2, hf⟩ := opt_bind hf
  refine g_callV C (c_X10_drawCoefficients (l := x_l X) (D := x_D X) (cy := x_y X) (v := v) (b := b) (kp := kp) (ak := ak) (bf := bf) (fa := fa) (fl := fl) (ln := ln) (co := co) (ch := ch) (gs := gs) (op := op) (z := z) (pr := pr) (le := le) (ec := ec) (wt := wt) (sa := sa) (ev := ev) (p0 := 0) (p1 := c_th) h2) (As := [.int 0, .int c_th]) (rest := []) (wr := (wSec (x_y X) c c_filled c_th c_ep c_rule c_cm c_vs c_es)) (ws' := fun _ => (wV (x_y X) v (b 0) kp ak bf fa fl ln v1.1 ch gs op) ++ (wSt (x_y X) b v1.2 pr le ec wt sa ev) ++ (wSec (x_y X) c c_filled c_th c_ep c_rule c_cm c_vs c_es)) (st' := fun _ => []) (ci := 11) 2 0 ⟨_, rfl⟩ rfl rfl mw_2_231 mw_1_1 mw_2_228 mw_2_230 mp_4 hd_X10_drawCoefficients rfl (g_rm hR rfl rfl) [0, 1, 2, 3, 4, 5, 6, 7, 8] [9, 10, 11, 12] [4, 5, 6, 7, 8, 9, 10, 11, 12, 0, 1, 2, 3] ⟨rfl, rfl, rfl, rfl, by decide, gRoIn_0, rfl, fun _ => rfl⟩ rfl (Nat.le_of_ble_eq_true rfl) dX10_renewShares_6 (g_rc hR (Nat.le_of_ble_eq_true rfl) (Nat.le_of_ble_eq_true rfl)) (ck' := 0) (sk' := 0) rfl rfl (fun _ => rfl) (fun _ _ => ?_) (fun _ hx => absurd rfl hx)
  refine g_iconst C (v := 0) dX10_renewShares_9 (by decide) ?_
  refine g_istore_n C (lv' := [(2, .int 0), (0, .ref (v 0)), (1, .ref (c 0))]) dX10_renewShares_10 (g_nlt hn rfl) rfl ?_
  refine g_iconst C (v := 1) dX10_renewShares_11 (by decide) ?_
  refine g_istore_n C (lv' := [(3, .int 1), (2, .int 0), (0, .ref (v 0)), (1, .ref (c 0))]) dX10_renewShares_12 (g_nlt hn rfl) rfl ?_
  refine gW.locals [2, 3, 1, 0] rfl ?_
  exact H13 1000 v1.1 v1.2 c_ep c_cm c_vs c_es 0 1 hf
/-! X10_refresh -/
theorem hd_X10_refresh : yX10_refresh.cls ≠ "java/lang/invoke/MethodHandle" ∧ yX10_refresh.cls ≠ "java/lang/invoke/VarHandle" ∧ (parseMethodDescriptor yX10_refresh.desc).map (fun d => d.parameters.length) = some 1 := by decide +kernel
def F_X10_refresh (co : Nat → Int32) (z : Int32) (pr : Int32) (le : Int32) (ec : Int32) (ev : Nat → Int32) (c_filled : Int32) (c_th : Int32) (c_ep : Int32) (c_cm : Nat → Int32) (c_vs : Nat → Int32) (c_es : Nat → Int32) (p0 : Int32) : Option (Nat × Int32 × (Nat → Int32) × Int32 × Int32 × Int32 × (Nat → Int32) × Int32 × (Nat → Int32) × (Nat → Int32) × (Nat → Int32)) := (F_X10_checkSlot p0).bind fun v1 => if v1 = 0 then ((F_X10_secretIn c_filled p0).bind fun v3 => if v3 = 0 then ((F_X10_renewShares co z pr c_th c_ep c_cm c_vs c_es).bind fun v5 => (F_X9_note le ec ev ((300 : Int32) + p0)).bind fun v7 => some (0, v5.1, v5.2.1, v5.2.2.1, v7.1, v7.2.1, v7.2.2, v5.2.2.2.1, v5.2.2.2.2.1, v5.2.2.2.2.2.1, v5.2.2.2.2.2.2)) else some (v3, 0, co, z, le, ec, ev, c_ep, c_cm, c_vs, c_es)) else some (v1, 0, co, z, le, ec, ev, c_ep, c_cm, c_vs, c_es)
set_option maxRecDepth 100000 in
set_option maxHeartbeats 4000000 in
theorem c_X10_refresh {l : Launch} {D : va_G} {cy : Nat → ClassId} {v : Nat → Nat} {b : Nat → Nat} {c : Nat → Nat} {kp : Nat} {ak : Int32} {bf : Nat} {fa : Int32} {fl : Nat} {ln : Nat} {co : Nat → Int32} {ch : Nat → Int32} {gs : Nat → Int32} {op : Nat → Int32} {z : Int32} {pr : Int32} {le : Int32} {ec : Int32} {wt : Nat → Int32} {sa : Nat → Option Nat} {ev : Nat → Int32} {c_filled : Int32} {c_th : Int32} {c_ep : Int32} {c_rule : Option Nat} {c_cm : Nat → Int32} {c_vs : Nat → Int32} {c_es : Nat → Int32} {p0 : Int32} (hs : gi p0 4 = true → sa (Int32.toNatClampNeg p0) = some (c 0)) {val : Nat × Int32 × (Nat → Int32) × Int32 × Int32 × Int32 × (Nat → Int32) × Int32 × (Nat → Int32) × (Nat → Int32) × (Nat → Int32)} (hf : F_X10_refresh co z pr le ec ev c_filled c_th c_ep c_cm c_vs c_es p0 = some val) : gCt l D cy yX10_refresh cX10_refresh 3 (some .int) 7 104 2 12 [.ref (v 0), .int p0] [] ((wV cy v (b 0) kp ak bf fa fl ln co ch gs op) ++ (wSt cy b z pr le ec wt sa ev) ++ (wSec cy c c_filled c_th c_ep c_rule c_cm c_vs c_es)) val.1 (fun _ : Unit => some (.int val.2.1)) (fun _ => (wV cy v (b 0) kp ak bf fa fl ln val.2.2.1 ch gs op) ++ (wSt cy b val.2.2.2.1 pr val.2.2.2.2.1 val.2.2.2.2.2.1 wt sa val.2.2.2.2.2.2.1) ++ (wSec cy c c_filled c_th val.2.2.2.2.2.2.2.1 c_rule val.2.2.2.2.2.2.2.2.1 val.2.2.2.2.2.2.2.2.2.1 val.2.2.2.2.2.2.2.2.2.2)) := by
  refine g_begin (by decide +kernel) (Nat.le_of_ble_eq_true rfl) ?_
  intro X Q hl hR hD hy hro hn C hin E
  subst hl; subst hD; subst hy
  replace C : gC X "SecretVault" cX10_refresh (some .int) := C
  unfold F_X10_refresh at hf
  show gW X Q 0 0 ((wV (x_y X) v (b 0) kp ak bf fa fl ln co ch gs op) ++ (wSt (x_y X) b z pr le ec wt sa ev) ++ (wSec (x_y X) c c_filled c_th c_ep c_rule c_cm c_vs c_es)) [(0, .ref (v 0)), (1, .int p0)] [] 0
  refine g_iload_n C 1 dX10_refresh_0 rfl ?_
  obtain ⟨v1, h2, hf⟩ := opt_bind hf
  refine g_callS C (c_X10_checkSlot (l := x_l X) (D := x_D X) (cy := x_y X) (p0 := p0) h2) (As := [.int p0]) (rest := []) (wr := (wV (x_y X) v (b 0) kp ak bf fa fl ln co ch gs op) ++ (wSt (x_y X) b z pr le ec wt sa ev) ++ (wSec (x_y X) c c_filled c_th c_ep c_rule c_cm c_vs c_es)) (ws' := fun _ => (wV (x_y X) v (b 0) kp ak bf fa fl ln co ch gs op) ++ (wSt (x_y X) b z pr le ec wt sa ev) ++ (wSec (x_y X) c c_filled c_th c_ep c_rule c_cm c_vs c_es)) (st' := fun _ => []) 1 mw_2_189 mw_1_1 mw_2_187 mw_2_188 hd_X10_checkSlot rfl (g_rm hR rfl rfl) [] [0, 1, 2, 3, 4, 5, 6, 7, 8, 9, 10, 11, 12] [0, 1, 2, 3, 4, 5, 6, 7, 8, 9, 10, 11, 12] ⟨rfl, rfl, rfl, rfl, by decide, gRoIn_0, rfl, fun _ => rfl⟩ rfl (Nat.le_of_ble_eq_true rfl) dX10_refresh_1 (g_rc hR (Nat.le_of_ble_eq_true rfl) (Nat.le_of_ble_eq_true rfl)) (ck' := 1) (sk' := 6) rfl rfl (fun _ => rfl) (fun _ ev1 => ?_) (fun _ ev1 => ?_)
  rotate_left
  · have hf := opt_neg ev1 hf
    obtain rfl := Option.some.inj hf
    exact g_out E () rfl ev1 rfl (Nat.le_of_ble_eq_true rfl) (Nat.le_of_ble_eq_true rfl)
  have hf := opt_pos ev1 hf
  refine g_aload_n C 0 dX10_refresh_4 rfl ?_
  refine g_aload_n C 0 dX10_refresh_5 rfl ?_
  refine g_iload_n C 1 dX10_refresh_6 rfl ?_
  obtain ⟨v3, h4, hf⟩ := opt_bind hf
  refine g_callV C (c_X10_secretIn (l := x_l X) (D := x_D X) (cy := x_y X) (v := v) (b := b) (c := c) (kp := kp) (ak := ak) (bf := bf) (fa := fa) (fl := fl) (ln := ln) (co := co) (ch := ch) (gs := gs) (op := op) (z := z) (pr := pr) (le := le) (ec := ec) (wt := wt) (sa := sa) (ev := ev) (c_filled := c_filled) (c_th := c_th) (c_ep := c_ep) (c_rule := c_rule) (c_cm := c_cm) (c_vs := c_vs) (c_es := c_es) (p0 := p0) (hs := hs) h4) (As := [.int p0]) (rest := [.ref (v 0)]) (wr := []) (ws' := fun _ => (wV (x_y X) v (b 0) kp ak bf fa fl ln co ch gs op) ++ (wSt (x_y X) b z pr le ec wt sa ev) ++ (wSec (x_y X) c c_filled c_th c_ep c_rule c_cm c_vs c_es)) (st' := fun _ => [.ref (c 0), .ref (v 0)]) (ci := 11) 1 0 ⟨_, rfl⟩ rfl rfl mw_3_34 mw_1_1 mw_3_31 mw_3_33 mp_5 hd_X10_secretIn rfl (g_rm hR rfl rfl) [0, 1, 2, 3, 4, 5, 6, 7, 8, 9, 10, 11, 12] [] [0, 1, 2, 3, 4, 5, 6, 7, 8, 9, 10, 11, 12] ⟨rfl, rfl, rfl, rfl, by decide, gRoIn_0, rfl, fun _ => rfl⟩ rfl (Nat.le_of_ble_eq_true rfl) dX10_refresh_7 (g_rc hR (Nat.le_of_ble_eq_true rfl) (Nat.le_of_ble_eq_true rfl)) (ck' := 2) (sk' := 12) rfl rfl (fun _ => rfl) (fun _ ev3 => ?_) (fun _ ev3 => ?_)
  rotate_left
  · have hf := opt_neg ev3 hf
    obtain rfl := Option.some.inj hf
    exact g_out E () rfl ev3 rfl (Nat.le_of_ble_eq_true rfl) (Nat.le_of_ble_eq_true rfl)
  have hf := opt_pos ev3 hf
  obtain ⟨v5, h6, hf⟩ := opt_bind hf
  refine g_callV C (c_X10_renewShares (l := x_l X) (D := x_D X) (cy := x_y X) (v := v) (b := b) (c := c) (kp := kp) (ak := ak) (bf := bf) (fa := fa) (fl := fl) (ln := ln) (co := co) (ch := ch) (gs := gs) (op := op) (z := z) (pr := pr) (le := le) (ec := ec) (wt := wt) (sa := sa) (ev := ev) (c_filled := c_filled) (c_th := c_th) (c_ep := c_ep) (c_rule := c_rule) (c_cm := c_cm) (c_vs := c_vs) (c_es := c_es) h6) (As := [.ref (c 0)]) (rest := []) (wr := []) (ws' := fun _ => (wV (x_y X) v (b 0) kp ak bf fa fl ln v5.2.1 ch gs op) ++ (wSt (x_y X) b v5.2.2.1 pr le ec wt sa ev) ++ (wSec (x_y X) c c_filled c_th v5.2.2.2.1 c_rule v5.2.2.2.2.1 v5.2.2.2.2.2.1 v5.2.2.2.2.2.2)) (st' := fun _ => [.int v5.1]) (ci := 11) 1 0 ⟨_, rfl⟩ rfl rfl mw_3_61 mw_1_1 mw_3_58 mw_3_60 mp_6 hd_X10_renewShares rfl (g_rm hR rfl rfl) [0, 1, 2, 3, 4, 5, 6, 7, 8, 9, 10, 11, 12] [] [0, 1, 2, 3, 4, 5, 6, 7, 8, 9, 10, 11, 12] ⟨rfl, rfl, rfl, rfl, by decide, gRoIn_0, rfl, fun _ => rfl⟩ rfl (Nat.le_of_ble_eq_true rfl) dX10_refresh_10 (g_rc hR (Nat.le_of_ble_eq_true rfl) (Nat.le_of_ble_eq_true rfl)) (ck' := 2) (sk' := 12) rfl rfl (fun _ => rfl) (fun _ _ => ?_) (fun _ hx => absurd rfl hx)
  refine g_istore_n C (lv' := [(2, .int v5.1), (0, .ref (v 0)), (1, .int p0)]) dX10_refresh_13 (g_nlt hn rfl) rfl ?_
  refine g_aload_n C 1 dX10_refresh_14 rfl ?_
  refine g_get C 0 0 rfl rfl wiX10 (by decide) mw_1_171 rfl rfl dX10_refresh_15 ?_
  refine g_sipush C (v := 300) dX10_refresh_18 (by decide) ?_
  refine g_iload_n C 2 dX10_refresh_21 rfl ?_
  refine g_iadd C dX10_refresh_22 ?_
  obtain ⟨v7, h8, hf⟩ := opt_bind hf
  refine g_callV C (c_X9_note (l := x_l X) (D := x_D X) (cy := x_y X) (a := b) (z := v5.2.2.1) (pr := pr) (le := le) (ec := ec) (wt := wt) (sa := sa) (ev := ev) (p0 := (300 : Int32) + p0) h8) (As := [.int ((300 : Int32) + p0)]) (rest := []) (wr := (wV (x_y X) v (b 0) kp ak bf fa fl ln v5.2.1 ch gs op) ++ (wSec (x_y X) c c_filled c_th v5.2.2.2.1 c_rule v5.2.2.2.2.1 v5.2.2.2.2.2.1 v5.2.2.2.2.2.2)) (ws' := fun _ => (wV (x_y X) v (b 0) kp ak bf fa fl ln v5.2.1 ch gs op) ++ (wSt (x_y X) b v5.2.2.1 pr v7.1 v7.2.1 wt sa v7.2.2) ++ (wSec (x_y X) c c_filled c_th v5.2.2.2.1 c_rule v5.2.2.2.2.1 v5.2.2.2.2.2.1 v5.2.2.2.2.2.2)) (st' := fun _ => []) (ci := 10) 1 5 ⟨_, rfl⟩ rfl rfl mw_3_19 mw_1_2 mw_3_16 mw_3_17 mw_3_18 hd_X9_note rfl (g_rm hR rfl rfl) [5, 6, 7, 8] [0, 1, 2, 3, 4, 9, 10, 11, 12] [0, 1, 2, 3, 4, 9, 10, 11, 12, 5, 6, 7, 8] ⟨rfl, rfl, rfl, rfl, by decide, gRoIn_0, rfl, fun _ => rfl⟩ rfl (Nat.le_of_ble_eq_true rfl) dX10_refresh_23 (g_rc hR (Nat.le_of_ble_eq_true rfl) (Nat.le_of_ble_eq_true rfl)) (ck' := 2) (sk' := 12) rfl rfl (fun _ => rfl) (fun _ _ => ?_) (fun _ hx => absurd rfl hx)
  refine g_iload_n C 0 dX10_refresh_26 rfl ?_
  obtain rfl := Option.some.inj hf
  exact g_iret C E () dX10_refresh_27 rfl rfl rfl (Nat.le_of_ble_eq_true rfl) (Nat.le_of_ble_eq_true rfl)
/-! X10_expel -/
theorem hd_X10_expel : yX10_expel.cls ≠ "java/lang/invoke/MethodHandle" ∧ yX10_expel.cls ≠ "java/lang/invoke/VarHandle" ∧ (parseMethodDescriptor yX10_expel.desc).map (fun d => d.parameters.length) = some 2 := by decide +kernel
def F_X10_expel_L26 (p0 : Int32) (p1 : Int32)  : Nat → Int32 → Int32 → (Nat → Int32) → (Nat → Int32) → (Nat → Int32) → Int32 → Int32 → Option (Nat × Int32 × Int32 × Int32 × (Nat → Int32) × (Nat → Int32) × (Nat → Int32))
  | 0, _, _, _, _, _, _, _ => none
  | n + 1, le_26, ec_26, ev_26, c_vs_26, c_es_26, l4_26, l5_26 => if 3 ≤ l5_26 then ((F_X9_note le_26 ec_26 ev_26 (((600 : Int32) + ((10 : Int32) * p0)) + p1)).bind fun v10 => some (0, l4_26, v10.1, v10.2.1, v10.2.2, c_vs_26, c_es_26)) else ((F_X10_firstPlace p1).bind fun v12 => (F_X7_drop c_vs_26 c_es_26 (v12 + l5_26)).bind fun v14 => F_X10_expel_L26 p0 p1 n le_26 ec_26 ev_26 v14.1 v14.2 l4_26 (l5_26 + 1))
def F_X10_expel (le : Int32) (ec : Int32) (ev : Nat → Int32) (c_filled : Int32) (c_vs : Nat → Int32) (c_es : Nat → Int32) (p0 : Int32) (p1 : Int32) : Option (Nat × Int32 × Int32 × Int32 × (Nat → Int32) × (Nat → Int32) × (Nat → Int32)) := (F_X10_checkSlot p0).bind fun v1 => if v1 = 0 then ((F_X10_checkMember p1).bind fun v3 => if v3 = 0 then ((F_X10_secretIn c_filled p0).bind fun v5 => if v5 = 0 then ((F_X7_shareCount c_es ((1 : Int32) <<< (p1 &&& 31))).bind fun v7 => F_X10_expel_L26 p0 p1 1000 le ec ev c_vs c_es v7 0) else some (v5, 0, le, ec, ev, c_vs, c_es)) else some (v3, 0, le, ec, ev, c_vs, c_es)) else some (v1, 0, le, ec, ev, c_vs, c_es)
set_option maxRecDepth 100000 in
set_option maxHeartbeats 4000000 in
theorem c_X10_expel {l : Launch} {D : va_G} {cy : Nat → ClassId} {v : Nat → Nat} {b : Nat → Nat} {c : Nat → Nat} {kp : Nat} {ak : Int32} {bf : Nat} {fa : Int32} {fl : Nat} {ln : Nat} {co : Nat → Int32} {ch : Nat → Int32} {gs : Nat → Int32} {op : Nat → Int32} {z : Int32} {pr : Int32} {le : Int32} {ec : Int32} {wt : Nat → Int32} {sa : Nat → Option Nat} {ev : Nat → Int32} {c_filled : Int32} {c_th : Int32} {c_ep : Int32} {c_rule : Option Nat} {c_cm : Nat → Int32} {c_vs : Nat → Int32} {c_es : Nat → Int32} {p0 : Int32} {p1 : Int32} (hs : gi p0 4 = true → sa (Int32.toNatClampNeg p0) = some (c 0)) {val : Nat × Int32 × Int32 × Int32 × (Nat → Int32) × (Nat → Int32) × (Nat → Int32)} (hf : F_X10_expel le ec ev c_filled c_vs c_es p0 p1 = some val) : gCt l D cy yX10_expel cX10_expel 6 (some .int) 7 104 3 18 [.ref (v 0), .int p0, .int p1] [] ((wV cy v (b 0) kp ak bf fa fl ln co ch gs op) ++ (wSt cy b z pr le ec wt sa ev) ++ (wSec cy c c_filled c_th c_ep c_rule c_cm c_vs c_es)) val.1 (fun _ : Unit => some (.int val.2.1)) (fun _ => (wV cy v (b 0) kp ak bf fa fl ln co ch gs op) ++ (wSt cy b z pr val.2.2.1 val.2.2.2.1 wt sa val.2.2.2.2.1) ++ (wSec cy c c_filled c_th c_ep c_rule c_cm val.2.2.2.2.2.1 val.2.2.2.2.2.2)) := by
  refine g_begin (by decide +kernel) (Nat.le_of_ble_eq_true rfl) ?_
  intro X Q hl hR hD hy hro hn C hin E
  subst hl; subst hD; subst hy
  replace C : gC X "SecretVault" cX10_expel (some .int) := C
  unfold F_X10_expel at hf
  have H26 : ∀ (n26 : Nat), ∀ (le_26 : Int32) (ec_26 : Int32) (ev_26 : Nat → Int32) (c_vs_26 : Nat → Int32) (c_es_26 : Nat → Int32) (l4_26 : Int32) (l5_26 : Int32), F_X10_expel_L26 p0 p1 n26 le_26 ec_26 ev_26 c_vs_26 c_es_26 l4_26 l5_26 = some val → gW X Q 3 18 ((wV (x_y X) v (b 0) kp ak bf fa fl ln co ch gs op) ++ (wSt (x_y X) b z pr le_26 ec_26 wt sa ev_26) ++ (wSec (x_y X) c c_filled c_th c_ep c_rule c_cm c_vs_26 c_es_26)) [(0, .ref (v 0)), (1, .int p0), (2, .int p1), (3, .ref (c 0)), (4, .int l4_26), (5, .int l5_26)] [] 26 := by
    intro n26
    induction n26 with
    | zero => intros; rename_i hf; cases hf
    | succ n26 ih =>
      intro le_26 ec_26 ev_26 c_vs_26 c_es_26 l4_26 l5_26 hf
      have H26 := ih
      rw [F_X10_expel_L26] at hf
      refine g_iload C 5 dX10_expel_26 rfl ?_
      refine g_iconst C (v := 3) dX10_expel_28 (by decide) ?_
      refine g_icmp_ge C 49 dX10_expel_29 (by decide) (fun c9 => ?_) (fun c9 => ?_)
      · have hf := opt_pos c9 hf
        refine g_aload_n C 0 dX10_expel_49 rfl ?_
        refine g_get C 0 0 rfl rfl wiX10 (by decide) mw_1_171 rfl rfl dX10_expel_50 ?_
        refine g_sipush C (v := 600) dX10_expel_53 (by decide) ?_
        refine g_bipush C (v := 10) dX10_expel_56 (by decide) ?_
        refine g_iload_n C 1 dX10_expel_58 rfl ?_
        refine g_imul C dX10_expel_59 ?_
        refine g_iadd C dX10_expel_60 ?_
        refine g_iload_n C 2 dX10_expel_61 rfl ?_
        refine g_iadd C dX10_expel_62 ?_
        obtain ⟨v10, h11, hf⟩ := opt_bind hf
        refine g_callV C (c_X9_note (l := x_l X) (D := x_D X) (cy := x_y X) (a := b) (z := z) (pr := pr) (le := le_26) (ec := ec_26) (wt := wt) (sa := sa) (ev := ev_26) (p0 := ((600 : Int32) + ((10 : Int32) * p0)) + p1) h11) (As := [.int (((600 : Int32) + ((10 : Int32) * p0)) + p1)]) (rest := []) (wr := (wV (x_y X) v (b 0) kp ak bf fa fl ln co ch gs op) ++ (wSec (x_y X) c c_filled c_th c_ep c_rule c_cm c_vs_26 c_es_26)) (ws' := fun _ => (wV (x_y X) v (b 0) kp ak bf fa fl ln co ch gs op) ++ (wSt (x_y X) b z pr v10.1 v10.2.1 wt sa v10.2.2) ++ (wSec (x_y X) c c_filled c_th c_ep c_rule c_cm c_vs_26 c_es_26)) (st' := fun _ => []) (ci := 10) 1 5 ⟨_, rfl⟩ rfl rfl mw_3_19 mw_1_2 mw_3_16 mw_3_17 mw_3_18 hd_X9_note rfl (g_rm hR rfl rfl) [5, 6, 7, 8] [0, 1, 2, 3, 4, 9, 10, 11, 12] [0, 1, 2, 3, 4, 9, 10, 11, 12, 5, 6, 7, 8] ⟨rfl, rfl, rfl, rfl, by decide, gRoIn_0, rfl, fun _ => rfl⟩ rfl (Nat.le_of_ble_eq_true rfl) dX10_expel_63 (g_rc hR (Nat.le_of_ble_eq_true rfl) (Nat.le_of_ble_eq_true rfl)) (ck' := 3) (sk' := 18) rfl rfl (fun _ => rfl) (fun _ _ => ?_) (fun _ hx => absurd rfl hx)
        refine g_iload C 4 dX10_expel_66 rfl ?_
        obtain rfl := Option.some.inj hf
        exact g_iret C E () dX10_expel_68 rfl rfl rfl (Nat.le_of_ble_eq_true rfl) (Nat.le_of_ble_eq_true rfl)
      · have hf := opt_neg c9 hf
        refine g_aload_n C 3 dX10_expel_32 rfl ?_
        refine g_iload_n C 2 dX10_expel_33 rfl ?_
        obtain ⟨v12, h13, hf⟩ := opt_bind hf
        refine g_callS C (c_X10_firstPlace (l := x_l X) (D := x_D X) (cy := x_y X) (p0 := p1) h13) (As := [.int p1]) (rest := [.ref (c 0)]) (wr := (wV (x_y X) v (b 0) kp ak bf fa fl ln co ch gs op) ++ (wSt (x_y X) b z pr le_26 ec_26 wt sa ev_26) ++ (wSec (x_y X) c c_filled c_th c_ep c_rule c_cm c_vs_26 c_es_26)) (ws' := fun _ => (wV (x_y X) v (b 0) kp ak bf fa fl ln co ch gs op) ++ (wSt (x_y X) b z pr le_26 ec_26 wt sa ev_26) ++ (wSec (x_y X) c c_filled c_th c_ep c_rule c_cm c_vs_26 c_es_26)) (st' := fun _ => [.int v12, .ref (c 0)]) 1 mw_3_8 mw_1_1 mw_3_136 mw_3_7 hd_X10_firstPlace rfl (g_rm hR rfl rfl) [] [0, 1, 2, 3, 4, 5, 6, 7, 8, 9, 10, 11, 12] [0, 1, 2, 3, 4, 5, 6, 7, 8, 9, 10, 11, 12] ⟨rfl, rfl, rfl, rfl, by decide, gRoIn_0, rfl, fun _ => rfl⟩ rfl (Nat.le_of_ble_eq_true rfl) dX10_expel_34 (g_rc hR (Nat.le_of_ble_eq_true rfl) (Nat.le_of_ble_eq_true rfl)) (ck' := 3) (sk' := 18) rfl rfl (fun _ => rfl) (fun _ _ => ?_) (fun _ hx => absurd rfl hx)
        refine g_iload C 5 dX10_expel_37 rfl ?_
        refine g_iadd C dX10_expel_39 ?_
        obtain ⟨v14, h15, hf⟩ := opt_bind hf
        refine g_callV C (c_X7_drop (l := x_l X) (D := x_D X) (cy := x_y X) (a := c) (filled := c_filled) (th := c_th) (ep := c_ep) (rule := c_rule) (cm := c_cm) (vs := c_vs_26) (es := c_es_26) (p0 := v12 + l5_26) h15) (As := [.int (v12 + l5_26)]) (rest := []) (wr := (wV (x_y X) v (b 0) kp ak bf fa fl ln co ch gs op) ++ (wSt (x_y X) b z pr le_26 ec_26 wt sa ev_26)) (ws' := fun _ => (wV (x_y X) v (b 0) kp ak bf fa fl ln co ch gs op) ++ (wSt (x_y X) b z pr le_26 ec_26 wt sa ev_26) ++ (wSec (x_y X) c c_filled c_th c_ep c_rule c_cm v14.1 v14.2)) (st' := fun _ => []) (ci := 8) 1 9 ⟨_, rfl⟩ rfl rfl mw_3_0 mw_1_3 mw_3_148 mw_2_238 mw_2_239 hd_X7_drop rfl (g_rm hR rfl rfl) [9, 10, 11, 12] [0, 1, 2, 3, 4, 5, 6, 7, 8] [0, 1, 2, 3, 4, 5, 6, 7, 8, 9, 10, 11, 12] ⟨rfl, rfl, rfl, rfl, by decide, gRoIn_0, rfl, fun _ => rfl⟩ rfl (Nat.le_of_ble_eq_true rfl) dX10_expel_40 (g_rc hR (Nat.le_of_ble_eq_true rfl) (Nat.le_of_ble_eq_true rfl)) (ck' := 3) (sk' := 18) rfl rfl (fun _ => rfl) (fun _ _ => ?_) (fun _ hx => absurd rfl hx)
        refine g_iinc C 5 (v := l5_26 + 1) (lv' := [(5, .int (l5_26 + 1)), (0, .ref (v 0)), (1, .int p0), (2, .int p1), (3, .ref (c 0)), (4, .int l4_26)]) dX10_expel_43 rfl rfl (g_nlt hn rfl) rfl ?_
        refine g_goto C 26 dX10_expel_46 (by decide) ?_
        refine gW.locals [1, 2, 3, 4, 5, 0] rfl ?_
        exact H26 le_26 ec_26 ev_26 v14.1 v14.2 l4_26 (l5_26 + 1) hf
  show gW X Q 0 0 ((wV (x_y X) v (b 0) kp ak bf fa fl ln co ch gs op) ++ (wSt (x_y X) b z pr le ec wt sa ev) ++ (wSec (x_y X) c c_filled c_th c_ep c_rule c_cm c_vs c_es)) [(0, .ref (v 0)), (1, .int p0), (2, .int p1)] [] 0
  refine g_iload_n C 1 dX10_expel_0 rfl ?_
  obtain ⟨v1, h2, hf⟩ := opt_bind hf
  refine g_callS C (c_X10_checkSlot (l := x_l X) (D := x_D X) (cy := x_y X) (p0 := p0) h2) (As := [.int p0]) (rest := []) (wr := (wV (x_y X) v (b 0) kp ak bf fa fl ln co ch gs op) ++ (wSt (x_y X) b z pr le ec wt sa ev) ++ (wSec (x_y X) c c_filled c_th c_ep c_rule c_cm c_vs c_es)) (ws' := fun _ => (wV (x_y X) v (b 0) kp ak bf fa fl ln co ch gs op) ++ (wSt (x_y X) b z pr le ec wt sa ev) ++ (wSec (x_y X) c c_filled c_th c_ep c_rule c_cm c_vs c_es)) (st' := fun _ => []) 1 mw_2_189 mw_1_1 mw_2_187 mw_2_188 hd_X10_checkSlot rfl (g_rm hR rfl rfl) [] [0, 1, 2, 3, 4, 5, 6, 7, 8, 9, 10, 11, 12] [0, 1, 2, 3, 4, 5, 6, 7, 8, 9, 10, 11, 12] ⟨rfl, rfl, rfl, rfl, by decide, gRoIn_0, rfl, fun _ => rfl⟩ rfl (Nat.le_of_ble_eq_true rfl) dX10_expel_1 (g_rc hR (Nat.le_of_ble_eq_true rfl) (Nat.le_of_ble_eq_true rfl)) (ck' := 1) (sk' := 6) rfl rfl (fun _ => rfl) (fun _ ev1 => ?_) (fun _ ev1 => ?_)
  rotate_left
  · have hf := opt_neg ev1 hf
    obtain rfl := Option.some.inj hf
    exact g_out E () rfl ev1 rfl (Nat.le_of_ble_eq_true rfl) (Nat.le_of_ble_eq_true rfl)
  have hf := opt_pos ev1 hf
  refine g_iload_n C 2 dX10_expel_4 rfl ?_
  obtain ⟨v3, h4, hf⟩ := opt_bind hf
  refine g_callS C (c_X10_checkMember (l := x_l X) (D := x_D X) (cy := x_y X) (p0 := p1) h4) (As := [.int p1]) (rest := []) (wr := (wV (x_y X) v (b 0) kp ak bf fa fl ln co ch gs op) ++ (wSt (x_y X) b z pr le ec wt sa ev) ++ (wSec (x_y X) c c_filled c_th c_ep c_rule c_cm c_vs c_es)) (ws' := fun _ => (wV (x_y X) v (b 0) kp ak bf fa fl ln co ch gs op) ++ (wSt (x_y X) b z pr le ec wt sa ev) ++ (wSec (x_y X) c c_filled c_th c_ep c_rule c_cm c_vs c_es)) (st' := fun _ => []) 1 mw_2_97 mw_1_1 mw_2_95 mw_2_96 hd_X10_checkMember rfl (g_rm hR rfl rfl) [] [0, 1, 2, 3, 4, 5, 6, 7, 8, 9, 10, 11, 12] [0, 1, 2, 3, 4, 5, 6, 7, 8, 9, 10, 11, 12] ⟨rfl, rfl, rfl, rfl, by decide, gRoIn_0, rfl, fun _ => rfl⟩ rfl (Nat.le_of_ble_eq_true rfl) dX10_expel_5 (g_rc hR (Nat.le_of_ble_eq_true rfl) (Nat.le_of_ble_eq_true rfl)) (ck' := 2) (sk' := 12) rfl rfl (fun _ => rfl) (fun _ ev3 => ?_) (fun _ ev3 => ?_)
  rotate_left
  · have hf := opt_neg ev3 hf
    obtain rfl := Option.some.inj hf
    exact g_out E () rfl ev3 rfl (Nat.le_of_ble_eq_true rfl) (Nat.le_of_ble_eq_true rfl)
  have hf := opt_pos ev3 hf
  refine g_aload_n C 0 dX10_expel_8 rfl ?_
  refine g_iload_n C 1 dX10_expel_9 rfl ?_
  obtain ⟨v5, h6, hf⟩ := opt_bind hf
  refine g_callV C (c_X10_secretIn (l := x_l X) (D := x_D X) (cy := x_y X) (v := v) (b := b) (c := c) (kp := kp) (ak := ak) (bf := bf) (fa := fa) (fl := fl) (ln := ln) (co := co) (ch := ch) (gs := gs) (op := op) (z := z) (pr := pr) (le := le) (ec := ec) (wt := wt) (sa := sa) (ev := ev) (c_filled := c_filled) (c_th := c_th) (c_ep := c_ep) (c_rule := c_rule) (c_cm := c_cm) (c_vs := c_vs) (c_es := c_es) (p0 := p0) (hs := hs) h6) (As := [.int p0]) (rest := []) (wr := []) (ws' := fun _ => (wV (x_y X) v (b 0) kp ak bf fa fl ln co ch gs op) ++ (wSt (x_y X) b z pr le ec wt sa ev) ++ (wSec (x_y X) c c_filled c_th c_ep c_rule c_cm c_vs c_es)) (st' := fun _ => [.ref (c 0)]) (ci := 11) 1 0 ⟨_, rfl⟩ rfl rfl mw_3_34 mw_1_1 mw_3_31 mw_3_33 mp_5 hd_X10_secretIn rfl (g_rm hR rfl rfl) [0, 1, 2, 3, 4, 5, 6, 7, 8, 9, 10, 11, 12] [] [0, 1, 2, 3, 4, 5, 6, 7, 8, 9, 10, 11, 12] ⟨rfl, rfl, rfl, rfl, by decide, gRoIn_0, rfl, fun _ => rfl⟩ rfl (Nat.le_of_ble_eq_true rfl) dX10_expel_10 (g_rc hR (Nat.le_of_ble_eq_true rfl) (Nat.le_of_ble_eq_true rfl)) (ck' := 3) (sk' := 18) rfl rfl (fun _ => rfl) (fun _ ev5 => ?_) (fun _ ev5 => ?_)
  rotate_left
  · have hf := opt_neg ev5 hf
    obtain rfl := Option.some.inj hf
    exact g_out E () rfl ev5 rfl (Nat.le_of_ble_eq_true rfl) (Nat.le_of_ble_eq_true rfl)
  have hf := opt_pos ev5 hf
  refine g_astore_n C (lv' := [(3, .ref (c 0)), (0, .ref (v 0)), (1, .int p0), (2, .int p1)]) dX10_expel_13 (g_nlt hn rfl) rfl ?_
  refine g_aload_n C 0 dX10_expel_14 rfl ?_
  refine g_iconst C (v := 1) dX10_expel_15 (by decide) ?_
  refine g_iload_n C 3 dX10_expel_16 rfl ?_
  refine g_ishl C dX10_expel_17 ?_
  obtain ⟨v7, h8, hf⟩ := opt_bind hf
  refine g_callV C (c_X7_shareCount (l := x_l X) (D := x_D X) (cy := x_y X) (a := c) (filled := c_filled) (th := c_th) (ep := c_ep) (rule := c_rule) (cm := c_cm) (vs := c_vs) (es := c_es) (p0 := (1 : Int32) <<< (p1 &&& 31)) h8) (As := [.int ((1 : Int32) <<< (p1 &&& 31))]) (rest := []) (wr := (wV (x_y X) v (b 0) kp ak bf fa fl ln co ch gs op) ++ (wSt (x_y X) b z pr le ec wt sa ev)) (ws' := fun _ => (wV (x_y X) v (b 0) kp ak bf fa fl ln co ch gs op) ++ (wSt (x_y X) b z pr le ec wt sa ev) ++ (wSec (x_y X) c c_filled c_th c_ep c_rule c_cm c_vs c_es)) (st' := fun _ => [.int v7]) (ci := 8) 1 9 ⟨_, rfl⟩ rfl rfl mw_2_151 mw_1_3 mw_2_148 mw_2_149 mw_2_150 hd_X7_shareCount rfl (g_rm hR rfl rfl) [9, 10, 11, 12] [0, 1, 2, 3, 4, 5, 6, 7, 8] [0, 1, 2, 3, 4, 5, 6, 7, 8, 9, 10, 11, 12] ⟨rfl, rfl, rfl, rfl, by decide, gRoIn_0, rfl, fun _ => rfl⟩ rfl (Nat.le_of_ble_eq_true rfl) dX10_expel_18 (g_rc hR (Nat.le_of_ble_eq_true rfl) (Nat.le_of_ble_eq_true rfl)) (ck' := 3) (sk' := 18) rfl rfl (fun _ => rfl) (fun _ _ => ?_) (fun _ hx => absurd rfl hx)
  refine g_istore C (lv' := [(4, .int v7), (3, .ref (c 0)), (0, .ref (v 0)), (1, .int p0), (2, .int p1)]) dX10_expel_21 (g_nlt hn rfl) rfl ?_
  refine g_iconst C (v := 0) dX10_expel_23 (by decide) ?_
  refine g_istore C (lv' := [(5, .int 0), (4, .int v7), (3, .ref (c 0)), (0, .ref (v 0)), (1, .int p0), (2, .int p1)]) dX10_expel_24 (g_nlt hn rfl) rfl ?_
  refine gW.locals [3, 4, 5, 2, 1, 0] rfl ?_
  exact H26 1000 le ec ev c_vs c_es v7 0 hf
/-! X10_choose -/
theorem hd_X10_choose : yX10_choose.cls ≠ "java/lang/invoke/MethodHandle" ∧ yX10_choose.cls ≠ "java/lang/invoke/VarHandle" ∧ (parseMethodDescriptor yX10_choose.desc).map (fun d => d.parameters.length) = some 3 := by decide +kernel
def F_X10_choose_L74   (ch_74 : Nat → Int32) (l4_74 : Int32) : Option (Int32 × (Nat → Int32)) := some (l4_74, ch_74)
def F_X10_choose_L68  (K6 : (Nat → Int32) → Int32 → Int32 → Option (Int32 × (Nat → Int32))) (ch_68 : Nat → Int32) (l4_68 : Int32) (l5_68 : Int32) : Option (Int32 × (Nat → Int32)) := K6 ch_68 l4_68 (l5_68 + 1)
def F_X10_choose_L56  (K6 : (Nat → Int32) → Int32 → Int32 → Option (Int32 × (Nat → Int32))) (ch_56 : Nat → Int32) (l4_56 : Int32) (l5_56 : Int32) : Option (Int32 × (Nat → Int32)) := gg (gi l4_56 8) (gl (upd ch_56 (Int32.toNatClampNeg l4_56) l5_56) fun f13 => F_X10_choose_L68 K6 f13 (l4_56 + 1) l5_56)
def F_X10_choose_L6 (c_th : Int32) (c_ep : Int32) (c_cm : Nat → Int32) (c_vs : Nat → Int32) (c_es : Nat → Int32) (p1 : Int32) (p2 : Int32)  : Nat → (Nat → Int32) → Int32 → Int32 → Option (Int32 × (Nat → Int32))
  | 0, _, _, _ => none
  | n + 1, ch_6, l4_6, l5_6 => if 24 < l5_6 then (F_X10_choose_L74 ch_6 l4_6) else (if c_th ≤ l4_6 then (F_X10_choose_L74 ch_6 l4_6) else ((F_X10_ownerOf l5_6).bind fun v3 => (F_X10_contains p1 v3).bind fun v5 => if v5 = 0 then (F_X10_choose_L68 (F_X10_choose_L6 c_th c_ep c_cm c_vs c_es p1 p2 n) ch_6 l4_6 l5_6) else ((F_X7_holds c_es l5_6).bind fun v8 => if v8 = 0 then (F_X10_choose_L68 (F_X10_choose_L6 c_th c_ep c_cm c_vs c_es p1 p2 n) ch_6 l4_6 l5_6) else (if p2 = 0 then (F_X10_choose_L56 (F_X10_choose_L6 c_th c_ep c_cm c_vs c_es p1 p2 n) ch_6 l4_6 l5_6) else ((F_X7_stateOf c_th c_ep c_cm c_vs c_es l5_6).bind fun v14 => if v14 = 0 then (F_X10_choose_L56 (F_X10_choose_L6 c_th c_ep c_cm c_vs c_es p1 p2 n) ch_6 l4_6 l5_6) else (F_X10_choose_L68 (F_X10_choose_L6 c_th c_ep c_cm c_vs c_es p1 p2 n) ch_6 l4_6 l5_6))))))
def F_X10_choose (ch : Nat → Int32) (c_th : Int32) (c_ep : Int32) (c_cm : Nat → Int32) (c_vs : Nat → Int32) (c_es : Nat → Int32) (p1 : Int32) (p2 : Int32) : Option (Int32 × (Nat → Int32)) := F_X10_choose_L6 c_th c_ep c_cm c_vs c_es p1 p2 1000 ch 0 1
set_option maxRecDepth 100000 in
set_option maxHeartbeats 4000000 in
theorem c_X10_choose {l : Launch} {D : va_G} {cy : Nat → ClassId} {v : Nat → Nat} {b : Nat → Nat} {c : Nat → Nat} {kp : Nat} {ak : Int32} {bf : Nat} {fa : Int32} {fl : Nat} {ln : Nat} {co : Nat → Int32} {ch : Nat → Int32} {gs : Nat → Int32} {op : Nat → Int32} {z : Int32} {pr : Int32} {le : Int32} {ec : Int32} {wt : Nat → Int32} {sa : Nat → Option Nat} {ev : Nat → Int32} {c_filled : Int32} {c_th : Int32} {c_ep : Int32} {c_rule : Option Nat} {c_cm : Nat → Int32} {c_vs : Nat → Int32} {c_es : Nat → Int32} {p1 : Int32} {p2 : Int32}  {val : Int32 × (Nat → Int32)} (hf : F_X10_choose ch c_th c_ep c_cm c_vs c_es p1 p2 = some val) : gCt l D cy yX10_choose cX10_choose 6 (some .int) 3 68 0 0 [.ref (v 0), .ref (c 0), .int p1, .int p2] [] ((wV cy v (b 0) kp ak bf fa fl ln co ch gs op) ++ (wSt cy b z pr le ec wt sa ev) ++ (wSec cy c c_filled c_th c_ep c_rule c_cm c_vs c_es)) 0 (fun _ : Unit => some (.int val.1)) (fun _ => (wV cy v (b 0) kp ak bf fa fl ln co val.2 gs op) ++ (wSt cy b z pr le ec wt sa ev) ++ (wSec cy c c_filled c_th c_ep c_rule c_cm c_vs c_es)) := by
  refine g_begin (by decide +kernel) (Nat.le_of_ble_eq_true rfl) ?_
  intro X Q hl hR hD hy hro hn C hin E
  subst hl; subst hD; subst hy
  replace C : gC X "SecretVault" cX10_choose (some .int) := C
  unfold F_X10_choose at hf
  have H74 : ∀ (ch_74 : Nat → Int32) (l4_74 : Int32), F_X10_choose_L74 ch_74 l4_74 = some val → gW X Q 0 0 ((wV (x_y X) v (b 0) kp ak bf fa fl ln co ch_74 gs op) ++ (wSt (x_y X) b z pr le ec wt sa ev) ++ (wSec (x_y X) c c_filled c_th c_ep c_rule c_cm c_vs c_es)) [(0, .ref (v 0)), (1, .ref (c 0)), (2, .int p1), (3, .int p2), (4, .int l4_74)] [] 74 := by
    intro ch_74 l4_74 hf
    unfold F_X10_choose_L74 at hf
    refine g_iload C 4 dX10_choose_74 rfl ?_
    obtain rfl := Option.some.inj hf
    exact g_iret C E () dX10_choose_76 rfl rfl rfl (Nat.le_of_ble_eq_true rfl) (Nat.le_of_ble_eq_true rfl)
  have H6 : ∀ (n6 : Nat), ∀ (ch_6 : Nat → Int32) (l4_6 : Int32) (l5_6 : Int32), F_X10_choose_L6 c_th c_ep c_cm c_vs c_es p1 p2 n6 ch_6 l4_6 l5_6 = some val → gW X Q 0 0 ((wV (x_y X) v (b 0) kp ak bf fa fl ln co ch_6 gs op) ++ (wSt (x_y X) b z pr le ec wt sa ev) ++ (wSec (x_y X) c c_filled c_th c_ep c_rule c_cm c_vs c_es)) [(0, .ref (v 0)), (1, .ref (c 0)), (2, .int p1), (3, .int p2), (4, .int l4_6), (5, .int l5_6)] [] 6 := by
    intro n6
    induction n6 with
    | zero => intros; rename_i hf; cases hf
    | succ n6 ih =>
      intro ch_6 l4_6 l5_6 hf
      have H6 := ih
      rw [F_X10_choose_L6] at hf
      have H68 : ∀ (ch_68 : Nat → Int32) (l4_68 : Int32) (l5_68 : Int32), F_X10_choose_L68 (F_X10_choose_L6 c_th c_ep c_cm c_vs c_es p1 p2 n6) ch_68 l4_68 l5_68 = some val → gW X Q 0 0 ((wV (x_y X) v (b 0) kp ak bf fa fl ln co ch_68 gs op) ++ (wSt (x_y X) b z pr le ec wt sa ev) ++ (wSec (x_y X) c c_filled c_th c_ep c_rule c_cm c_vs c_es)) [(0, .ref (v 0)), (1, .ref (c 0)), (2, .int p1), (3, .int p2), (4, .int l4_68), (5, .int l5_68)] [] 68 := by
        intro ch_68 l4_68 l5_68 hf
        unfold F_X10_choose_L68 at hf
        refine g_iinc C 5 (v := l5_68 + 1) (lv' := [(5, .int (l5_68 + 1)), (0, .ref (v 0)), (1, .ref (c 0)), (2, .int p1), (3, .int p2), (4, .int l4_68)]) dX10_choose_68 rfl rfl (g_nlt hn rfl) rfl ?_
        refine g_goto C 6 dX10_choose_71 (by decide) ?_
        refine gW.locals [1, 2, 3, 4, 5, 0] rfl ?_
        exact H6 ch_68 l4_68 (l5_68 + 1) hf
      have H56 : ∀ (ch_56 : Nat → Int32) (l4_56 : Int32) (l5_56 : Int32), F_X10_choose_L56 (F_X10_choose_L6 c_th c_ep c_cm c_vs c_es p1 p2 n6) ch_56 l4_56 l5_56 = some val → gW X Q 0 0 ((wV (x_y X) v (b 0) kp ak bf fa fl ln co ch_56 gs op) ++ (wSt (x_y X) b z pr le ec wt sa ev) ++ (wSec (x_y X) c c_filled c_th c_ep c_rule c_cm c_vs c_es)) [(0, .ref (v 0)), (1, .ref (c 0)), (2, .int p1), (3, .int p2), (4, .int l4_56), (5, .int l5_56)] [] 56 := by
        intro ch_56 l4_56 l5_56 hf
        unfold F_X10_choose_L56 at hf
        refine g_aload_n C 0 dX10_choose_56 rfl ?_
        refine g_get C 0 7 rfl rfl wiX10 (by decide) mw_1_178 rfl rfl dX10_choose_57 ?_
        refine g_iload C 4 dX10_choose_60 rfl ?_
        refine g_iload C 5 dX10_choose_62 rfl ?_
        obtain ⟨c12, hf⟩ := gg_of hf
        obtain ⟨f13, ef13, hf⟩ := opt_let hf
        refine g_iast C (ws' := (wV (x_y X) v (b 0) kp ak bf fa fl ln co f13 gs op) ++ (wSt (x_y X) b z pr le ec wt sa ev) ++ (wSec (x_y X) c c_filled c_th c_ep c_rule c_cm c_vs c_es)) 2 rfl (gi_in c12) (by rw [ef13]; rfl) dX10_choose_64 ?_
        refine g_iinc C 4 (v := l4_56 + 1) (lv' := [(4, .int (l4_56 + 1)), (0, .ref (v 0)), (1, .ref (c 0)), (2, .int p1), (3, .int p2), (5, .int l5_56)]) dX10_choose_65 rfl rfl (g_nlt hn rfl) rfl ?_
        refine gW.locals [1, 2, 3, 4, 0, 5] rfl ?_
        exact H68 f13 (l4_56 + 1) l5_56 hf
      refine g_iload C 5 dX10_choose_6 rfl ?_
      refine g_bipush C (v := 24) dX10_choose_8 (by decide) ?_
      refine g_icmp_gt C 74 dX10_choose_10 (by decide) (fun c1 => ?_) (fun c1 => ?_)
      · have hf := opt_pos c1 hf
        refine gW.locals [0, 1, 2, 3, 4] rfl ?_
        exact H74 ch_6 l4_6 hf
      · have hf := opt_neg c1 hf
        refine g_iload C 4 dX10_choose_13 rfl ?_
        refine g_aload_n C 1 dX10_choose_15 rfl ?_
        refine g_get C 9 1 rfl rfl wiX7 (by decide) mw_1_63 rfl rfl dX10_choose_16 ?_
        refine g_icmp_ge C 74 dX10_choose_19 (by decide) (fun c2 => ?_) (fun c2 => ?_)
        · have hf := opt_pos c2 hf
          refine gW.locals [0, 1, 2, 3, 4] rfl ?_
          exact H74 ch_6 l4_6 hf
        · have hf := opt_neg c2 hf
          refine g_iload_n C 2 dX10_choose_22 rfl ?_
          refine g_iload C 5 dX10_choose_23 rfl ?_
          obtain ⟨v3, h4, hf⟩ := opt_bind hf
          refine g_callS C (c_X10_ownerOf (l := x_l X) (D := x_D X) (cy := x_y X) (p0 := l5_6) h4) (As := [.int l5_6]) (rest := [.int p1]) (wr := (wV (x_y X) v (b 0) kp ak bf fa fl ln co ch_6 gs op) ++ (wSt (x_y X) b z pr le ec wt sa ev) ++ (wSec (x_y X) c c_filled c_th c_ep c_rule c_cm c_vs c_es)) (ws' := fun _ => (wV (x_y X) v (b 0) kp ak bf fa fl ln co ch_6 gs op) ++ (wSt (x_y X) b z pr le ec wt sa ev) ++ (wSec (x_y X) c c_filled c_th c_ep c_rule c_cm c_vs c_es)) (st' := fun _ => [.int v3, .int p1]) 1 mw_2_154 mw_1_1 mw_3_62 mw_2_153 hd_X10_ownerOf rfl (g_rm hR rfl rfl) [] [0, 1, 2, 3, 4, 5, 6, 7, 8, 9, 10, 11, 12] [0, 1, 2, 3, 4, 5, 6, 7, 8, 9, 10, 11, 12] ⟨rfl, rfl, rfl, rfl, by decide, gRoIn_0, rfl, fun _ => rfl⟩ rfl (Nat.le_of_ble_eq_true rfl) dX10_choose_25 (g_rc hR (Nat.le_of_ble_eq_true rfl) (Nat.le_of_ble_eq_true rfl)) (ck' := 0) (sk' := 0) rfl rfl (fun _ => rfl) (fun _ _ => ?_) (fun _ hx => absurd rfl hx)
          obtain ⟨v5, h6, hf⟩ := opt_bind hf
          refine g_callS C (c_X10_contains (l := x_l X) (D := x_D X) (cy := x_y X) (p0 := p1) (p1 := v3) h6) (As := [.int p1, .int v3]) (rest := []) (wr := (wV (x_y X) v (b 0) kp ak bf fa fl ln co ch_6 gs op) ++ (wSt (x_y X) b z pr le ec wt sa ev) ++ (wSec (x_y X) c c_filled c_th c_ep c_rule c_cm c_vs c_es)) (ws' := fun _ => (wV (x_y X) v (b 0) kp ak bf fa fl ln co ch_6 gs op) ++ (wSt (x_y X) b z pr le ec wt sa ev) ++ (wSec (x_y X) c c_filled c_th c_ep c_rule c_cm c_vs c_es)) (st' := fun _ => [.int v5]) 2 mw_2_136 mw_1_1 mw_2_134 mw_2_135 hd_X10_contains rfl (g_rm hR rfl rfl) [] [0, 1, 2, 3, 4, 5, 6, 7, 8, 9, 10, 11, 12] [0, 1, 2, 3, 4, 5, 6, 7, 8, 9, 10, 11, 12] ⟨rfl, rfl, rfl, rfl, by decide, gRoIn_0, rfl, fun _ => rfl⟩ rfl (Nat.le_of_ble_eq_true rfl) dX10_choose_28 (g_rc hR (Nat.le_of_ble_eq_true rfl) (Nat.le_of_ble_eq_true rfl)) (ck' := 0) (sk' := 0) rfl rfl (fun _ => rfl) (fun _ _ => ?_) (fun _ hx => absurd rfl hx)
          refine g_if_eq C 68 dX10_choose_31 (by decide) (fun c7 => ?_) (fun c7 => ?_)
          · have hf := opt_pos c7 hf
            exact H68 ch_6 l4_6 l5_6 hf
          · have hf := opt_neg c7 hf
            refine g_aload_n C 1 dX10_choose_34 rfl ?_
            refine g_iload C 5 dX10_choose_35 rfl ?_
            obtain ⟨v8, h9, hf⟩ := opt_bind hf
            refine g_callV C (c_X7_holds (l := x_l X) (D := x_D X) (cy := x_y X) (a := c) (filled := c_filled) (th := c_th) (ep := c_ep) (rule := c_rule) (cm := c_cm) (vs := c_vs) (es := c_es) (p0 := l5_6) h9) (As := [.int l5_6]) (rest := []) (wr := (wV (x_y X) v (b 0) kp ak bf fa fl ln co ch_6 gs op) ++ (wSt (x_y X) b z pr le ec wt sa ev)) (ws' := fun _ => (wV (x_y X) v (b 0) kp ak bf fa fl ln co ch_6 gs op) ++ (wSt (x_y X) b z pr le ec wt sa ev) ++ (wSec (x_y X) c c_filled c_th c_ep c_rule c_cm c_vs c_es)) (st' := fun _ => [.int v8]) (ci := 8) 1 9 ⟨_, rfl⟩ rfl rfl mw_2_159 mw_1_3 mw_3_63 mw_2_157 mw_2_158 hd_X7_holds rfl (g_rm hR rfl rfl) [9, 10, 11, 12] [0, 1, 2, 3, 4, 5, 6, 7, 8] [0, 1, 2, 3, 4, 5, 6, 7, 8, 9, 10, 11, 12] ⟨rfl, rfl, rfl, rfl, by decide, gRoIn_0, rfl, fun _ => rfl⟩ rfl (Nat.le_of_ble_eq_true rfl) dX10_choose_37 (g_rc hR (Nat.le_of_ble_eq_true rfl) (Nat.le_of_ble_eq_true rfl)) (ck' := 0) (sk' := 0) rfl rfl (fun _ => rfl) (fun _ _ => ?_) (fun _ hx => absurd rfl hx)
            refine g_if_eq C 68 dX10_choose_40 (by decide) (fun c10 => ?_) (fun c10 => ?_)
            · have hf := opt_pos c10 hf
              exact H68 ch_6 l4_6 l5_6 hf
            · have hf := opt_neg c10 hf
              refine g_iload_n C 3 dX10_choose_43 rfl ?_
              refine g_if_eq C 56 dX10_choose_44 (by decide) (fun c11 => ?_) (fun c11 => ?_)
              · have hf := opt_pos c11 hf
                exact H56 ch_6 l4_6 l5_6 hf
              · have hf := opt_neg c11 hf
                refine g_aload_n C 1 dX10_choose_47 rfl ?_
                refine g_iload C 5 dX10_choose_48 rfl ?_
                obtain ⟨v14, h15, hf⟩ := opt_bind hf
                refine g_callV C (c_X7_stateOf (l := x_l X) (D := x_D X) (cy := x_y X) (a := c) (filled := c_filled) (th := c_th) (ep := c_ep) (rule := c_rule) (cm := c_cm) (vs := c_vs) (es := c_es) (p0 := l5_6) h15) (As := [.int l5_6]) (rest := []) (wr := (wV (x_y X) v (b 0) kp ak bf fa fl ln co ch_6 gs op) ++ (wSt (x_y X) b z pr le ec wt sa ev)) (ws' := fun _ => (wV (x_y X) v (b 0) kp ak bf fa fl ln co ch_6 gs op) ++ (wSt (x_y X) b z pr le ec wt sa ev) ++ (wSec (x_y X) c c_filled c_th c_ep c_rule c_cm c_vs c_es)) (st' := fun _ => [.int v14]) (ci := 8) 1 9 ⟨_, rfl⟩ rfl rfl mw_2_167 mw_1_3 mw_3_113 mw_2_165 mw_2_166 hd_X7_stateOf rfl (g_rm hR rfl rfl) [9, 10, 11, 12] [0, 1, 2, 3, 4, 5, 6, 7, 8] [0, 1, 2, 3, 4, 5, 6, 7, 8, 9, 10, 11, 12] ⟨rfl, rfl, rfl, rfl, by decide, gRoIn_0, rfl, fun _ => rfl⟩ rfl (Nat.le_of_ble_eq_true rfl) dX10_choose_50 (g_rc hR (Nat.le_of_ble_eq_true rfl) (Nat.le_of_ble_eq_true rfl)) (ck' := 0) (sk' := 0) rfl rfl (fun _ => rfl) (fun _ _ => ?_) (fun _ hx => absurd rfl hx)
                refine g_if_ne C 68 dX10_choose_53 (by decide) (fun c16 => ?_) (fun c16 => ?_)
                · have hf := opt_neg c16 hf
                  exact H68 ch_6 l4_6 l5_6 hf
                · have hf := opt_pos c16 hf
                  exact H56 ch_6 l4_6 l5_6 hf
  show gW X Q 0 0 ((wV (x_y X) v (b 0) kp ak bf fa fl ln co ch gs op) ++ (wSt (x_y X) b z pr le ec wt sa ev) ++ (wSec (x_y X) c c_filled c_th c_ep c_rule c_cm c_vs c_es)) [(0, .ref (v 0)), (1, .ref (c 0)), (2, .int p1), (3, .int p2)] [] 0
  refine g_iconst C (v := 0) dX10_choose_0 (by decide) ?_
  refine g_istore C (lv' := [(4, .int 0), (0, .ref (v 0)), (1, .ref (c 0)), (2, .int p1), (3, .int p2)]) dX10_choose_1 (g_nlt hn rfl) rfl ?_
  refine g_iconst C (v := 1) dX10_choose_3 (by decide) ?_
  refine g_istore C (lv' := [(5, .int 1), (4, .int 0), (0, .ref (v 0)), (1, .ref (c 0)), (2, .int p1), (3, .int p2)]) dX10_choose_4 (g_nlt hn rfl) rfl ?_
  refine gW.locals [2, 3, 4, 5, 1, 0] rfl ?_
  exact H6 1000 ch 0 1 hf
/-! X10_combine -/
theorem hd_X10_combine : yX10_combine.cls ≠ "java/lang/invoke/MethodHandle" ∧ yX10_combine.cls ≠ "java/lang/invoke/VarHandle" ∧ (parseMethodDescriptor yX10_combine.desc).map (fun d => d.parameters.length) = some 2 := by decide +kernel
def F_X10_combine (ch : Nat → Int32) (c_filled : Int32) (c_th : Int32) (c_ep : Int32) (c_cm : Nat → Int32) (c_vs : Nat → Int32) (c_es : Nat → Int32) (p0 : Int32) (p1 : Int32) : Option (Nat × Int32 × (Nat → Int32)) := (F_X10_checkSlot p0).bind fun v1 => if v1 = 0 then ((F_X10_checkSet p1).bind fun v3 => if v3 = 0 then ((F_X10_secretIn c_filled p0).bind fun v5 => if v5 = 0 then ((F_X10_choose ch c_th c_ep c_cm c_vs c_es p1 0).bind fun v7 => if c_th ≤ v7.1 then ((F_X7_valueThrough c_th c_vs v7.2 0).bind fun v10 => some (0, v10, v7.2)) else (some (5, 0, v7.2))) else some (v5, 0, ch)) else some (v3, 0, ch)) else some (v1, 0, ch)
set_option maxRecDepth 100000 in
set_option maxHeartbeats 4000000 in
theorem c_X10_combine {l : Launch} {D : va_G} {cy : Nat → ClassId} {v : Nat → Nat} {b : Nat → Nat} {c : Nat → Nat} {kp : Nat} {ak : Int32} {bf : Nat} {fa : Int32} {fl : Nat} {ln : Nat} {co : Nat → Int32} {ch : Nat → Int32} {gs : Nat → Int32} {op : Nat → Int32} {z : Int32} {pr : Int32} {le : Int32} {ec : Int32} {wt : Nat → Int32} {sa : Nat → Option Nat} {ev : Nat → Int32} {c_filled : Int32} {c_th : Int32} {c_ep : Int32} {c_rule : Option Nat} {c_cm : Nat → Int32} {c_vs : Nat → Int32} {c_es : Nat → Int32} {p0 : Int32} {p1 : Int32} (hs : gi p0 4 = true → sa (Int32.toNatClampNeg p0) = some (c 0)) {val : Nat × Int32 × (Nat → Int32)} (hf : F_X10_combine ch c_filled c_th c_ep c_cm c_vs c_es p0 p1 = some val) : gCt l D cy yX10_combine cX10_combine 4 (some .int) 7 104 4 24 [.ref (v 0), .int p0, .int p1] [] ((wV cy v (b 0) kp ak bf fa fl ln co ch gs op) ++ (wSt cy b z pr le ec wt sa ev) ++ (wSec cy c c_filled c_th c_ep c_rule c_cm c_vs c_es)) val.1 (fun _ : Unit => some (.int val.2.1)) (fun _ => (wV cy v (b 0) kp ak bf fa fl ln co val.2.2 gs op) ++ (wSt cy b z pr le ec wt sa ev) ++ (wSec cy c c_filled c_th c_ep c_rule c_cm c_vs c_es)) := by
  refine g_begin (by decide +kernel) (Nat.le_of_ble_eq_true rfl) ?_
  intro X Q hl hR hD hy hro hn C hin E
  subst hl; subst hD; subst hy
  replace C : gC X "SecretVault" cX10_combine (some .int) := C
  unfold F_X10_combine at hf
  show gW X Q 0 0 ((wV (x_y X) v (b 0) kp ak bf fa fl ln co ch gs op) ++ (wSt (x_y X) b z pr le ec wt sa ev) ++ (wSec (x_y X) c c_filled c_th c_ep c_rule c_cm c_vs c_es)) [(0, .ref (v 0)), (1, .int p0), (2, .int p1)] [] 0
  refine g_iload_n C 1 dX10_combine_0 rfl ?_
  obtain ⟨v1, h2, hf⟩ := opt_bind hf
  refine g_callS C (c_X10_checkSlot (l := x_l X) (D := x_D X) (cy := x_y X) (p0 := p0) h2) (As := [.int p0]) (rest := []) (wr := (wV (x_y X) v (b 0) kp ak bf fa fl ln co ch gs op) ++ (wSt (x_y X) b z pr le ec wt sa ev) ++ (wSec (x_y X) c c_filled c_th c_ep c_rule c_cm c_vs c_es)) (ws' := fun _ => (wV (x_y X) v (b 0) kp ak bf fa fl ln co ch gs op) ++ (wSt (x_y X) b z pr le ec wt sa ev) ++ (wSec (x_y X) c c_filled c_th c_ep c_rule c_cm c_vs c_es)) (st' := fun _ => []) 1 mw_2_189 mw_1_1 mw_2_187 mw_2_188 hd_X10_checkSlot rfl (g_rm hR rfl rfl) [] [0, 1, 2, 3, 4, 5, 6, 7, 8, 9, 10, 11, 12] [0, 1, 2, 3, 4, 5, 6, 7, 8, 9, 10, 11, 12] ⟨rfl, rfl, rfl, rfl, by decide, gRoIn_0, rfl, fun _ => rfl⟩ rfl (Nat.le_of_ble_eq_true rfl) dX10_combine_1 (g_rc hR (Nat.le_of_ble_eq_true rfl) (Nat.le_of_ble_eq_true rfl)) (ck' := 1) (sk' := 6) rfl rfl (fun _ => rfl) (fun _ ev1 => ?_) (fun _ ev1 => ?_)
  rotate_left
  · have hf := opt_neg ev1 hf
    obtain rfl := Option.some.inj hf
    exact g_out E () rfl ev1 rfl (Nat.le_of_ble_eq_true rfl) (Nat.le_of_ble_eq_true rfl)
  have hf := opt_pos ev1 hf
  refine g_iload_n C 2 dX10_combine_4 rfl ?_
  obtain ⟨v3, h4, hf⟩ := opt_bind hf
  refine g_callS C (c_X10_checkSet (l := x_l X) (D := x_D X) (cy := x_y X) (p0 := p1) h4) (As := [.int p1]) (rest := []) (wr := (wV (x_y X) v (b 0) kp ak bf fa fl ln co ch gs op) ++ (wSt (x_y X) b z pr le ec wt sa ev) ++ (wSec (x_y X) c c_filled c_th c_ep c_rule c_cm c_vs c_es)) (ws' := fun _ => (wV (x_y X) v (b 0) kp ak bf fa fl ln co ch gs op) ++ (wSt (x_y X) b z pr le ec wt sa ev) ++ (wSec (x_y X) c c_filled c_th c_ep c_rule c_cm c_vs c_es)) (st' := fun _ => []) 1 mw_3_74 mw_1_1 mw_3_72 mw_3_73 hd_X10_checkSet rfl (g_rm hR rfl rfl) [] [0, 1, 2, 3, 4, 5, 6, 7, 8, 9, 10, 11, 12] [0, 1, 2, 3, 4, 5, 6, 7, 8, 9, 10, 11, 12] ⟨rfl, rfl, rfl, rfl, by decide, gRoIn_0, rfl, fun _ => rfl⟩ rfl (Nat.le_of_ble_eq_true rfl) dX10_combine_5 (g_rc hR (Nat.le_of_ble_eq_true rfl) (Nat.le_of_ble_eq_true rfl)) (ck' := 2) (sk' := 12) rfl rfl (fun _ => rfl) (fun _ ev3 => ?_) (fun _ ev3 => ?_)
  rotate_left
  · have hf := opt_neg ev3 hf
    obtain rfl := Option.some.inj hf
    exact g_out E () rfl ev3 rfl (Nat.le_of_ble_eq_true rfl) (Nat.le_of_ble_eq_true rfl)
  have hf := opt_pos ev3 hf
  refine g_aload_n C 0 dX10_combine_8 rfl ?_
  refine g_iload_n C 1 dX10_combine_9 rfl ?_
  obtain ⟨v5, h6, hf⟩ := opt_bind hf
  refine g_callV C (c_X10_secretIn (l := x_l X) (D := x_D X) (cy := x_y X) (v := v) (b := b) (c := c) (kp := kp) (ak := ak) (bf := bf) (fa := fa) (fl := fl) (ln := ln) (co := co) (ch := ch) (gs := gs) (op := op) (z := z) (pr := pr) (le := le) (ec := ec) (wt := wt) (sa := sa) (ev := ev) (c_filled := c_filled) (c_th := c_th) (c_ep := c_ep) (c_rule := c_rule) (c_cm := c_cm) (c_vs := c_vs) (c_es := c_es) (p0 := p0) (hs := hs) h6) (As := [.int p0]) (rest := []) (wr := []) (ws' := fun _ => (wV (x_y X) v (b 0) kp ak bf fa fl ln co ch gs op) ++ (wSt (x_y X) b z pr le ec wt sa ev) ++ (wSec (x_y X) c c_filled c_th c_ep c_rule c_cm c_vs c_es)) (st' := fun _ => [.ref (c 0)]) (ci := 11) 1 0 ⟨_, rfl⟩ rfl rfl mw_3_34 mw_1_1 mw_3_31 mw_3_33 mp_5 hd_X10_secretIn rfl (g_rm hR rfl rfl) [0, 1, 2, 3, 4, 5, 6, 7, 8, 9, 10, 11, 12] [] [0, 1, 2, 3, 4, 5, 6, 7, 8, 9, 10, 11, 12] ⟨rfl, rfl, rfl, rfl, by decide, gRoIn_0, rfl, fun _ => rfl⟩ rfl (Nat.le_of_ble_eq_true rfl) dX10_combine_10 (g_rc hR (Nat.le_of_ble_eq_true rfl) (Nat.le_of_ble_eq_true rfl)) (ck' := 3) (sk' := 18) rfl rfl (fun _ => rfl) (fun _ ev5 => ?_) (fun _ ev5 => ?_)
  rotate_left
  · have hf := opt_neg ev5 hf
    obtain rfl := Option.some.inj hf
    exact g_out E () rfl ev5 rfl (Nat.le_of_ble_eq_true rfl) (Nat.le_of_ble_eq_true rfl)
  have hf := opt_pos ev5 hf
  refine g_astore_n C (lv' := [(3, .ref (c 0)), (0, .ref (v 0)), (1, .int p0), (2, .int p1)]) dX10_combine_13 (g_nlt hn rfl) rfl ?_
  refine g_aload_n C 1 dX10_combine_14 rfl ?_
  refine g_aload_n C 0 dX10_combine_15 rfl ?_
  refine g_iload_n C 3 dX10_combine_16 rfl ?_
  refine g_iconst C (v := 0) dX10_combine_17 (by decide) ?_
  obtain ⟨v7, h8, hf⟩ := opt_bind hf
  refine g_callV C (c_X10_choose (l := x_l X) (D := x_D X) (cy := x_y X) (v := v) (b := b) (c := c) (kp := kp) (ak := ak) (bf := bf) (fa := fa) (fl := fl) (ln := ln) (co := co) (ch := ch) (gs := gs) (op := op) (z := z) (pr := pr) (le := le) (ec := ec) (wt := wt) (sa := sa) (ev := ev) (c_filled := c_filled) (c_th := c_th) (c_ep := c_ep) (c_rule := c_rule) (c_cm := c_cm) (c_vs := c_vs) (c_es := c_es) (p1 := p1) (p2 := 0) h8) (As := [.ref (c 0), .int p1, .int 0]) (rest := []) (wr := []) (ws' := fun _ => (wV (x_y X) v (b 0) kp ak bf fa fl ln co v7.2 gs op) ++ (wSt (x_y X) b z pr le ec wt sa ev) ++ (wSec (x_y X) c c_filled c_th c_ep c_rule c_cm c_vs c_es)) (st' := fun _ => [.int v7.1]) (ci := 11) 3 0 ⟨_, rfl⟩ rfl rfl mw_3_112 mw_1_1 mw_3_109 mw_3_111 mp_8 hd_X10_choose rfl (g_rm hR rfl rfl) [0, 1, 2, 3, 4, 5, 6, 7, 8, 9, 10, 11, 12] [] [0, 1, 2, 3, 4, 5, 6, 7, 8, 9, 10, 11, 12] ⟨rfl, rfl, rfl, rfl, by decide, gRoIn_0, rfl, fun _ => rfl⟩ rfl (Nat.le_of_ble_eq_true rfl) dX10_combine_18 (g_rc hR (Nat.le_of_ble_eq_true rfl) (Nat.le_of_ble_eq_true rfl)) (ck' := 3) (sk' := 18) rfl rfl (fun _ => rfl) (fun _ _ => ?_) (fun _ hx => absurd rfl hx)
  refine g_aload_n C 0 dX10_combine_21 rfl ?_
  refine g_get C 9 1 rfl rfl wiX7 (by decide) mw_1_63 rfl rfl dX10_combine_22 ?_
  refine g_icmp_ge C 38 dX10_combine_25 (by decide) (fun c9 => ?_) (fun c9 => ?_)
  · have hf := opt_pos c9 hf
    refine g_aload_n C 0 dX10_combine_38 rfl ?_
    refine g_aload_n C 1 dX10_combine_39 rfl ?_
    refine g_get C 0 7 rfl rfl wiX10 (by decide) mw_1_178 rfl rfl dX10_combine_40 ?_
    refine g_iconst C (v := 0) dX10_combine_43 (by decide) ?_
    obtain ⟨v10, h11, hf⟩ := opt_bind hf
    refine g_callV C (c_X7_valueThrough (l := x_l X) (D := x_D X) (cy := x_y X) (a := c) (ca := (v 2)) (filled := c_filled) (th := c_th) (ep := c_ep) (rule := c_rule) (cm := c_cm) (vs := c_vs) (es := c_es) (pa := v7.2) (p1 := 0) h11) (As := [.ref (v 2), .int 0]) (rest := []) (wr := [((v 0), .inr (11, [.ref (b 0), .ref kp, .int ak, .ref bf, .int fa, .ref fl, .ref (v 1), .ref (v 2), .ref (v 3), .ref (v 4), .ref ln])), ((v 1), .inl ((x_y X) 0, 8, .inl co)), ((v 3), .inl ((x_y X) 0, 8, .inl gs)), ((v 4), .inl ((x_y X) 1, 256, .inl op))] ++ (wSt (x_y X) b z pr le ec wt sa ev)) (ws' := fun _ => (wV (x_y X) v (b 0) kp ak bf fa fl ln co v7.2 gs op) ++ (wSt (x_y X) b z pr le ec wt sa ev) ++ (wSec (x_y X) c c_filled c_th c_ep c_rule c_cm c_vs c_es)) (st' := fun _ => [.int v10]) (ci := 8) 2 9 ⟨_, rfl⟩ rfl rfl mw_3_122 mw_1_3 mw_3_119 mw_3_120 mw_3_121 hd_X7_valueThrough rfl (g_rm hR rfl rfl) [9, 10, 11, 12, 2] [0, 1, 3, 4, 5, 6, 7, 8] [0, 1, 12, 2, 3, 4, 5, 6, 7, 8, 9, 10, 11] ⟨rfl, rfl, rfl, rfl, by decide, gRoIn_0, rfl, fun _ => rfl⟩ rfl (Nat.le_of_ble_eq_true rfl) dX10_combine_44 (g_rc hR (Nat.le_of_ble_eq_true rfl) (Nat.le_of_ble_eq_true rfl)) (ck' := 3) (sk' := 18) rfl rfl (fun _ => rfl) (fun _ _ => ?_) (fun _ hx => absurd rfl hx)
    obtain rfl := Option.some.inj hf
    exact g_iret C E () dX10_combine_47 rfl rfl rfl (Nat.le_of_ble_eq_true rfl) (Nat.le_of_ble_eq_true rfl)
  · have hf := opt_neg c9 hf
    obtain rfl := Option.some.inj hf
    exact g_throwS C E () (text := "the members have too few shares") gTh_5 ms_174 dX10_combine_28 dX10_combine_31 dX10_combine_32 dX10_combine_34 dX10_combine_37 (g_th hR rfl rfl) (g_rc hR (Nat.le_of_ble_eq_true rfl) (Nat.le_of_ble_eq_true rfl)) (Nat.succ_ne_zero 4) rfl rfl (Nat.le_of_ble_eq_true rfl) (Nat.le_of_ble_eq_true rfl)
/-! X10_agree -/
theorem hd_X10_agree : yX10_agree.cls ≠ "java/lang/invoke/MethodHandle" ∧ yX10_agree.cls ≠ "java/lang/invoke/VarHandle" ∧ (parseMethodDescriptor yX10_agree.desc).map (fun d => d.parameters.length) = some 2 := by decide +kernel
def F_X10_agree_L83  (K33 : (Nat → Int32) → Int32 → Option (Nat × Int32 × (Nat → Int32))) (ch_83 : Nat → Int32) (l4_83 : Int32) : Option (Nat × Int32 × (Nat → Int32)) := K33 ch_83 (l4_83 + 1)
def F_X10_agree_L33 (c_th : Int32) (c_vs : Nat → Int32) (c_es : Nat → Int32) (p1 : Int32)  : Nat → (Nat → Int32) → Int32 → Option (Nat × Int32 × (Nat → Int32))
  | 0, _, _ => none
  | n + 1, ch_33, l4_33 => if 24 < l4_33 then (some (0, 1, ch_33)) else ((F_X10_ownerOf l4_33).bind fun v11 => (F_X10_contains p1 v11).bind fun v13 => if v13 = 0 then (F_X10_agree_L83 (F_X10_agree_L33 c_th c_vs c_es p1 n) ch_33 l4_33) else ((F_X7_holds c_es l4_33).bind fun v16 => if v16 = 0 then (F_X10_agree_L83 (F_X10_agree_L33 c_th c_vs c_es p1 n) ch_33 l4_33) else ((F_X7_valueThrough c_th c_vs ch_33 l4_33).bind fun v19 => gg (gi l4_33 25) (if v19 = (c_vs (Int32.toNatClampNeg l4_33)) then (F_X10_agree_L83 (F_X10_agree_L33 c_th c_vs c_es p1 n) ch_33 l4_33) else (some (0, 0, ch_33))))))
def F_X10_agree (ch : Nat → Int32) (c_filled : Int32) (c_th : Int32) (c_ep : Int32) (c_cm : Nat → Int32) (c_vs : Nat → Int32) (c_es : Nat → Int32) (p0 : Int32) (p1 : Int32) : Option (Nat × Int32 × (Nat → Int32)) := (F_X10_checkSlot p0).bind fun v1 => if v1 = 0 then ((F_X10_checkSet p1).bind fun v3 => if v3 = 0 then ((F_X10_secretIn c_filled p0).bind fun v5 => if v5 = 0 then ((F_X10_choose ch c_th c_ep c_cm c_vs c_es p1 0).bind fun v7 => if c_th ≤ v7.1 then (F_X10_agree_L33 c_th c_vs c_es p1 1000 v7.2 1) else (some (0, 1, v7.2))) else some (v5, 0, ch)) else some (v3, 0, ch)) else some (v1, 0, ch)
set_option maxRecDepth 100000 in
set_option maxHeartbeats 4000000 in
theorem c_X10_agree {l : Launch} {D : va_G} {cy : Nat → ClassId} {v : Nat → Nat} {b : Nat → Nat} {c : Nat → Nat} {kp : Nat} {ak : Int32} {bf : Nat} {fa : Int32} {fl : Nat} {ln : Nat} {co : Nat → Int32} {ch : Nat → Int32} {gs : Nat → Int32} {op : Nat → Int32} {z : Int32} {pr : Int32} {le : Int32} {ec : Int32} {wt : Nat → Int32} {sa : Nat → Option Nat} {ev : Nat → Int32} {c_filled : Int32} {c_th : Int32} {c_ep : Int32} {c_rule : Option Nat} {c_cm : Nat → Int32} {c_vs : Nat → Int32} {c_es : Nat → Int32} {p0 : Int32} {p1 : Int32} (hs : gi p0 4 = true → sa (Int32.toNatClampNeg p0) = some (c 0)) {val : Nat × Int32 × (Nat → Int32)} (hf : F_X10_agree ch c_filled c_th c_ep c_cm c_vs c_es p0 p1 = some val) : gCt l D cy yX10_agree cX10_agree 5 (some .boolean) 7 104 3 18 [.ref (v 0), .int p0, .int p1] [] ((wV cy v (b 0) kp ak bf fa fl ln co ch gs op) ++ (wSt cy b z pr le ec wt sa ev) ++ (wSec cy c c_filled c_th c_ep c_rule c_cm c_vs c_es)) val.1 (fun _ : Unit => some (.int val.2.1)) (fun _ => (wV cy v (b 0) kp ak bf fa fl ln co val.2.2 gs op) ++ (wSt cy b z pr le ec wt sa ev) ++ (wSec cy c c_filled c_th c_ep c_rule c_cm c_vs c_es)) := by
  refine g_begin (by decide +kernel) (Nat.le_of_ble_eq_true rfl) ?_
  intro X Q hl hR hD hy hro hn C hin E
  subst hl; subst hD; subst hy
  replace C : gC X "SecretVault" cX10_agree (some .boolean) := C
  unfold F_X10_agree at hf
  have H33 : ∀ (n33 : Nat), ∀ (ch_33 : Nat → Int32) (l4_33 : Int32), F_X10_agree_L33 c_th c_vs c_es p1 n33 ch_33 l4_33 = some val → gW X Q 3 18 ((wV (x_y X) v (b 0) kp ak bf fa fl ln co ch_33 gs op) ++ (wSt (x_y X) b z pr le ec wt sa ev) ++ (wSec (x_y X) c c_filled c_th c_ep c_rule c_cm c_vs c_es)) [(0, .ref (v 0)), (1, .int p0), (2, .int p1), (3, .ref (c 0)), (4, .int l4_33)] [] 33 := by
    intro n33
    induction n33 with
    | zero => intros; rename_i hf; cases hf
    | succ n33 ih =>
      intro ch_33 l4_33 hf
      have H33 := ih
      rw [F_X10_agree_L33] at hf
      have H83 : ∀ (ch_83 : Nat → Int32) (l4_83 : Int32), F_X10_agree_L83 (F_X10_agree_L33 c_th c_vs c_es p1 n33) ch_83 l4_83 = some val → gW X Q 3 18 ((wV (x_y X) v (b 0) kp ak bf fa fl ln co ch_83 gs op) ++ (wSt (x_y X) b z pr le ec wt sa ev) ++ (wSec (x_y X) c c_filled c_th c_ep c_rule c_cm c_vs c_es)) [(0, .ref (v 0)), (1, .int p0), (2, .int p1), (3, .ref (c 0)), (4, .int l4_83)] [] 83 := by
        intro ch_83 l4_83 hf
        unfold F_X10_agree_L83 at hf
        refine g_iinc C 4 (v := l4_83 + 1) (lv' := [(4, .int (l4_83 + 1)), (0, .ref (v 0)), (1, .int p0), (2, .int p1), (3, .ref (c 0))]) dX10_agree_83 rfl rfl (g_nlt hn rfl) rfl ?_
        refine g_goto C 33 dX10_agree_86 (by decide) ?_
        refine gW.locals [1, 2, 3, 4, 0] rfl ?_
        exact H33 ch_83 (l4_83 + 1) hf
      refine g_iload C 4 dX10_agree_33 rfl ?_
      refine g_bipush C (v := 24) dX10_agree_35 (by decide) ?_
      refine g_icmp_gt C 89 dX10_agree_37 (by decide) (fun c10 => ?_) (fun c10 => ?_)
      · have hf := opt_pos c10 hf
        refine g_iconst C (v := 1) dX10_agree_89 (by decide) ?_
        obtain rfl := Option.some.inj hf
        exact g_zret C E () rfl dX10_agree_90 rfl rfl rfl (Nat.le_of_ble_eq_true rfl) (Nat.le_of_ble_eq_true rfl)
      · have hf := opt_neg c10 hf
        refine g_iload_n C 2 dX10_agree_40 rfl ?_
        refine g_iload C 4 dX10_agree_41 rfl ?_
        obtain ⟨v11, h12, hf⟩ := opt_bind hf
        refine g_callS C (c_X10_ownerOf (l := x_l X) (D := x_D X) (cy := x_y X) (p0 := l4_33) h12) (As := [.int l4_33]) (rest := [.int p1]) (wr := (wV (x_y X) v (b 0) kp ak bf fa fl ln co ch_33 gs op) ++ (wSt (x_y X) b z pr le ec wt sa ev) ++ (wSec (x_y X) c c_filled c_th c_ep c_rule c_cm c_vs c_es)) (ws' := fun _ => (wV (x_y X) v (b 0) kp ak bf fa fl ln co ch_33 gs op) ++ (wSt (x_y X) b z pr le ec wt sa ev) ++ (wSec (x_y X) c c_filled c_th c_ep c_rule c_cm c_vs c_es)) (st' := fun _ => [.int v11, .int p1]) 1 mw_2_154 mw_1_1 mw_3_62 mw_2_153 hd_X10_ownerOf rfl (g_rm hR rfl rfl) [] [0, 1, 2, 3, 4, 5, 6, 7, 8, 9, 10, 11, 12] [0, 1, 2, 3, 4, 5, 6, 7, 8, 9, 10, 11, 12] ⟨rfl, rfl, rfl, rfl, by decide, gRoIn_0, rfl, fun _ => rfl⟩ rfl (Nat.le_of_ble_eq_true rfl) dX10_agree_43 (g_rc hR (Nat.le_of_ble_eq_true rfl) (Nat.le_of_ble_eq_true rfl)) (ck' := 3) (sk' := 18) rfl rfl (fun _ => rfl) (fun _ _ => ?_) (fun _ hx => absurd rfl hx)
        obtain ⟨v13, h14, hf⟩ := opt_bind hf
        refine g_callS C (c_X10_contains (l := x_l X) (D := x_D X) (cy := x_y X) (p0 := p1) (p1 := v11) h14) (As := [.int p1, .int v11]) (rest := []) (wr := (wV (x_y X) v (b 0) kp ak bf fa fl ln co ch_33 gs op) ++ (wSt (x_y X) b z pr le ec wt sa ev) ++ (wSec (x_y X) c c_filled c_th c_ep c_rule c_cm c_vs c_es)) (ws' := fun _ => (wV (x_y X) v (b 0) kp ak bf fa fl ln co ch_33 gs op) ++ (wSt (x_y X) b z pr le ec wt sa ev) ++ (wSec (x_y X) c c_filled c_th c_ep c_rule c_cm c_vs c_es)) (st' := fun _ => [.int v13]) 2 mw_2_136 mw_1_1 mw_2_134 mw_2_135 hd_X10_contains rfl (g_rm hR rfl rfl) [] [0, 1, 2, 3, 4, 5, 6, 7, 8, 9, 10, 11, 12] [0, 1, 2, 3, 4, 5, 6, 7, 8, 9, 10, 11, 12] ⟨rfl, rfl, rfl, rfl, by decide, gRoIn_0, rfl, fun _ => rfl⟩ rfl (Nat.le_of_ble_eq_true rfl) dX10_agree_46 (g_rc hR (Nat.le_of_ble_eq_true rfl) (Nat.le_of_ble_eq_true rfl)) (ck' := 3) (sk' := 18) rfl rfl (fun _ => rfl) (fun _ _ => ?_) (fun _ hx => absurd rfl hx)
        refine g_if_eq C 83 dX10_agree_49 (by decide) (fun c15 => ?_) (fun c15 => ?_)
        · have hf := opt_pos c15 hf
          exact H83 ch_33 l4_33 hf
        · have hf := opt_neg c15 hf
          refine g_aload_n C 3 dX10_agree_52 rfl ?_
          refine g_iload C 4 dX10_agree_53 rfl ?_
          obtain ⟨v16, h17, hf⟩ := opt_bind hf
          refine g_callV C (c_X7_holds (l := x_l X) (D := x_D X) (cy := x_y X) (a := c) (filled := c_filled) (th := c_th) (ep := c_ep) (rule := c_rule) (cm := c_cm) (vs := c_vs) (es := c_es) (p0 := l4_33) h17) (As := [.int l4_33]) (rest := []) (wr := (wV (x_y X) v (b 0) kp ak bf fa fl ln co ch_33 gs op) ++ (wSt (x_y X) b z pr le ec wt sa ev)) (ws' := fun _ => (wV (x_y X) v (b 0) kp ak bf fa fl ln co ch_33 gs op) ++ (wSt (x_y X) b z pr le ec wt sa ev) ++ (wSec (x_y X) c c_filled c_th c_ep c_rule c_cm c_vs c_es)) (st' := fun _ => [.int v16]) (ci := 8) 1 9 ⟨_, rfl⟩ rfl rfl mw_2_159 mw_1_3 mw_3_63 mw_2_157 mw_2_158 hd_X7_holds rfl (g_rm hR rfl rfl) [9, 10, 11, 12] [0, 1, 2, 3, 4, 5, 6, 7, 8] [0, 1, 2, 3, 4, 5, 6, 7, 8, 9, 10, 11, 12] ⟨rfl, rfl, rfl, rfl, by decide, gRoIn_0, rfl, fun _ => rfl⟩ rfl (Nat.le_of_ble_eq_true rfl) dX10_agree_55 (g_rc hR (Nat.le_of_ble_eq_true rfl) (Nat.le_of_ble_eq_true rfl)) (ck' := 3) (sk' := 18) rfl rfl (fun _ => rfl) (fun _ _ => ?_) (fun _ hx => absurd rfl hx)
          refine g_if_eq C 83 dX10_agree_58 (by decide) (fun c18 => ?_) (fun c18 => ?_)
          · have hf := opt_pos c18 hf
            exact H83 ch_33 l4_33 hf
          · have hf := opt_neg c18 hf
            refine g_aload_n C 3 dX10_agree_61 rfl ?_
            refine g_aload_n C 0 dX10_agree_62 rfl ?_
            refine g_get C 0 7 rfl rfl wiX10 (by decide) mw_1_178 rfl rfl dX10_agree_63 ?_
            refine g_iload C 4 dX10_agree_66 rfl ?_
            obtain ⟨v19, h20, hf⟩ := opt_bind hf
            refine g_callV C (c_X7_valueThrough (l := x_l X) (D := x_D X) (cy := x_y X) (a := c) (ca := (v 2)) (filled := c_filled) (th := c_th) (ep := c_ep) (rule := c_rule) (cm := c_cm) (vs := c_vs) (es := c_es) (pa := ch_33) (p1 := l4_33) h20) (As := [.ref (v 2), .int l4_33]) (rest := []) (wr := [((v 0), .inr (11, [.ref (b 0), .ref kp, .int ak, .ref bf, .int fa, .ref fl, .ref (v 1), .ref (v 2), .ref (v 3), .ref (v 4), .ref ln])), ((v 1), .inl ((x_y X) 0, 8, .inl co)), ((v 3), .inl ((x_y X) 0, 8, .inl gs)), ((v 4), .inl ((x_y X) 1, 256, .inl op))] ++ (wSt (x_y X) b z pr le ec wt sa ev)) (ws' := fun _ => (wV (x_y X) v (b 0) kp ak bf fa fl ln co ch_33 gs op) ++ (wSt (x_y X) b z pr le ec wt sa ev) ++ (wSec (x_y X) c c_filled c_th c_ep c_rule c_cm c_vs c_es)) (st' := fun _ => [.int v19]) (ci := 8) 2 9 ⟨_, rfl⟩ rfl rfl mw_3_122 mw_1_3 mw_3_119 mw_3_120 mw_3_121 hd_X7_valueThrough rfl (g_rm hR rfl rfl) [9, 10, 11, 12, 2] [0, 1, 3, 4, 5, 6, 7, 8] [0, 1, 12, 2, 3, 4, 5, 6, 7, 8, 9, 10, 11] ⟨rfl, rfl, rfl, rfl, by decide, gRoIn_0, rfl, fun _ => rfl⟩ rfl (Nat.le_of_ble_eq_true rfl) dX10_agree_68 (g_rc hR (Nat.le_of_ble_eq_true rfl) (Nat.le_of_ble_eq_true rfl)) (ck' := 3) (sk' := 18) rfl rfl (fun _ => rfl) (fun _ _ => ?_) (fun _ hx => absurd rfl hx)
            refine g_aload_n C 3 dX10_agree_71 rfl ?_
            refine g_get C 9 5 rfl rfl wiX7 (by decide) mw_1_71 rfl rfl dX10_agree_72 ?_
            refine g_iload C 4 dX10_agree_75 rfl ?_
            obtain ⟨c21, hf⟩ := gg_of hf
            refine g_iald C 11 rfl (gi_in c21) dX10_agree_77 ?_
            refine g_icmp_eq C 83 dX10_agree_78 (by decide) (fun c22 => ?_) (fun c22 => ?_)
            · have hf := opt_pos c22 hf
              exact H83 ch_33 l4_33 hf
            · have hf := opt_neg c22 hf
              refine g_iconst C (v := 0) dX10_agree_81 (by decide) ?_
              obtain rfl := Option.some.inj hf
              exact g_zret C E () rfl dX10_agree_82 rfl rfl rfl (Nat.le_of_ble_eq_true rfl) (Nat.le_of_ble_eq_true rfl)
  show gW X Q 0 0 ((wV (x_y X) v (b 0) kp ak bf fa fl ln co ch gs op) ++ (wSt (x_y X) b z pr le ec wt sa ev) ++ (wSec (x_y X) c c_filled c_th c_ep c_rule c_cm c_vs c_es)) [(0, .ref (v 0)), (1, .int p0), (2, .int p1)] [] 0
  refine g_iload_n C 1 dX10_agree_0 rfl ?_
  obtain ⟨v1, h2, hf⟩ := opt_bind hf
  refine g_callS C (c_X10_checkSlot (l := x_l X) (D := x_D X) (cy := x_y X) (p0 := p0) h2) (As := [.int p0]) (rest := []) (wr := (wV (x_y X) v (b 0) kp ak bf fa fl ln co ch gs op) ++ (wSt (x_y X) b z pr le ec wt sa ev) ++ (wSec (x_y X) c c_filled c_th c_ep c_rule c_cm c_vs c_es)) (ws' := fun _ => (wV (x_y X) v (b 0) kp ak bf fa fl ln co ch gs op) ++ (wSt (x_y X) b z pr le ec wt sa ev) ++ (wSec (x_y X) c c_filled c_th c_ep c_rule c_cm c_vs c_es)) (st' := fun _ => []) 1 mw_2_189 mw_1_1 mw_2_187 mw_2_188 hd_X10_checkSlot rfl (g_rm hR rfl rfl) [] [0, 1, 2, 3, 4, 5, 6, 7, 8, 9, 10, 11, 12] [0, 1, 2, 3, 4, 5, 6, 7, 8, 9, 10, 11, 12] ⟨rfl, rfl, rfl, rfl, by decide, gRoIn_0, rfl, fun _ => rfl⟩ rfl (Nat.le_of_ble_eq_true rfl) dX10_agree_1 (g_rc hR (Nat.le_of_ble_eq_true rfl) (Nat.le_of_ble_eq_true rfl)) (ck' := 1) (sk' := 6) rfl rfl (fun _ => rfl) (fun _ ev1 => ?_) (fun _ ev1 => ?_)
  rotate_left
  · have hf := opt_neg ev1 hf
    obtain rfl := Option.some.inj hf
    exact g_out E () rfl ev1 rfl (Nat.le_of_ble_eq_true rfl) (Nat.le_of_ble_eq_true rfl)
  have hf := opt_pos ev1 hf
  refine g_iload_n C 2 dX10_agree_4 rfl ?_
  obtain ⟨v3, h4, hf⟩ := opt_bind hf
  refine g_callS C (c_X10_checkSet (l := x_l X) (D := x_D X) (cy := x_y X) (p0 := p1) h4) (As := [.int p1]) (rest := []) (wr := (wV (x_y X) v (b 0) kp ak bf fa fl ln co ch gs op) ++ (wSt (x_y X) b z pr le ec wt sa ev) ++ (wSec (x_y X) c c_filled c_th c_ep c_rule c_cm c_vs c_es)) (ws' := fun _ => (wV (x_y X) v (b 0) kp ak bf fa fl ln co ch gs op) ++ (wSt (x_y X) b z pr le ec wt sa ev) ++ (wSec (x_y X) c c_filled c_th c_ep c_rule c_cm c_vs c_es)) (st' := fun _ => []) 1 mw_3_74 mw_1_1 mw_3_72 mw_3_73 hd_X10_checkSet rfl (g_rm hR rfl rfl) [] [0, 1, 2, 3, 4, 5, 6, 7, 8, 9, 10, 11, 12] [0, 1, 2, 3, 4, 5, 6, 7, 8, 9, 10, 11, 12] ⟨rfl, rfl, rfl, rfl, by decide, gRoIn_0, rfl, fun _ => rfl⟩ rfl (Nat.le_of_ble_eq_true rfl) dX10_agree_5 (g_rc hR (Nat.le_of_ble_eq_true rfl) (Nat.le_of_ble_eq_true rfl)) (ck' := 2) (sk' := 12) rfl rfl (fun _ => rfl) (fun _ ev3 => ?_) (fun _ ev3 => ?_)
  rotate_left
  · have hf := opt_neg ev3 hf
    obtain rfl := Option.some.inj hf
    exact g_out E () rfl ev3 rfl (Nat.le_of_ble_eq_true rfl) (Nat.le_of_ble_eq_true rfl)
  have hf := opt_pos ev3 hf
  refine g_aload_n C 0 dX10_agree_8 rfl ?_
  refine g_iload_n C 1 dX10_agree_9 rfl ?_
  obtain ⟨v5, h6, hf⟩ := opt_bind hf
  refine g_callV C (c_X10_secretIn (l := x_l X) (D := x_D X) (cy := x_y X) (v := v) (b := b) (c := c) (kp := kp) (ak := ak) (bf := bf) (fa := fa) (fl := fl) (ln := ln) (co := co) (ch := ch) (gs := gs) (op := op) (z := z) (pr := pr) (le := le) (ec := ec) (wt := wt) (sa := sa) (ev := ev) (c_filled := c_filled) (c_th := c_th) (c_ep := c_ep) (c_rule := c_rule) (c_cm := c_cm) (c_vs := c_vs) (c_es := c_es) (p0 := p0) (hs := hs) h6) (As := [.int p0]) (rest := []) (wr := []) (ws' := fun _ => (wV (x_y X) v (b 0) kp ak bf fa fl ln co ch gs op) ++ (wSt (x_y X) b z pr le ec wt sa ev) ++ (wSec (x_y X) c c_filled c_th c_ep c_rule c_cm c_vs c_es)) (st' := fun _ => [.ref (c 0)]) (ci := 11) 1 0 ⟨_, rfl⟩ rfl rfl mw_3_34 mw_1_1 mw_3_31 mw_3_33 mp_5 hd_X10_secretIn rfl (g_rm hR rfl rfl) [0, 1, 2, 3, 4, 5, 6, 7, 8, 9, 10, 11, 12] [] [0, 1, 2, 3, 4, 5, 6, 7, 8, 9, 10, 11, 12] ⟨rfl, rfl, rfl, rfl, by decide, gRoIn_0, rfl, fun _ => rfl⟩ rfl (Nat.le_of_ble_eq_true rfl) dX10_agree_10 (g_rc hR (Nat.le_of_ble_eq_true rfl) (Nat.le_of_ble_eq_true rfl)) (ck' := 3) (sk' := 18) rfl rfl (fun _ => rfl) (fun _ ev5 => ?_) (fun _ ev5 => ?_)
  rotate_left
  · have hf := opt_neg ev5 hf
    obtain rfl := Option.some.inj hf
    exact g_out E () rfl ev5 rfl (Nat.le_of_ble_eq_true rfl) (Nat.le_of_ble_eq_true rfl)
  have hf := opt_pos ev5 hf
  refine g_astore_n C (lv' := [(3, .ref (c 0)), (0, .ref (v 0)), (1, .int p0), (2, .int p1)]) dX10_agree_13 (g_nlt hn rfl) rfl ?_
  refine g_aload_n C 1 dX10_agree_14 rfl ?_
  refine g_aload_n C 0 dX10_agree_15 rfl ?_
  refine g_iload_n C 3 dX10_agree_16 rfl ?_
  refine g_iconst C (v := 0) dX10_agree_17 (by decide) ?_
  obtain ⟨v7, h8, hf⟩ := opt_bind hf
  refine g_callV C (c_X10_choose (l := x_l X) (D := x_D X) (cy := x_y X) (v := v) (b := b) (c := c) (kp := kp) (ak := ak) (bf := bf) (fa := fa) (fl := fl) (ln := ln) (co := co) (ch := ch) (gs := gs) (op := op) (z := z) (pr := pr) (le := le) (ec := ec) (wt := wt) (sa := sa) (ev := ev) (c_filled := c_filled) (c_th := c_th) (c_ep := c_ep) (c_rule := c_rule) (c_cm := c_cm) (c_vs := c_vs) (c_es := c_es) (p1 := p1) (p2 := 0) h8) (As := [.ref (c 0), .int p1, .int 0]) (rest := []) (wr := []) (ws' := fun _ => (wV (x_y X) v (b 0) kp ak bf fa fl ln co v7.2 gs op) ++ (wSt (x_y X) b z pr le ec wt sa ev) ++ (wSec (x_y X) c c_filled c_th c_ep c_rule c_cm c_vs c_es)) (st' := fun _ => [.int v7.1]) (ci := 11) 3 0 ⟨_, rfl⟩ rfl rfl mw_3_112 mw_1_1 mw_3_109 mw_3_111 mp_8 hd_X10_choose rfl (g_rm hR rfl rfl) [0, 1, 2, 3, 4, 5, 6, 7, 8, 9, 10, 11, 12] [] [0, 1, 2, 3, 4, 5, 6, 7, 8, 9, 10, 11, 12] ⟨rfl, rfl, rfl, rfl, by decide, gRoIn_0, rfl, fun _ => rfl⟩ rfl (Nat.le_of_ble_eq_true rfl) dX10_agree_18 (g_rc hR (Nat.le_of_ble_eq_true rfl) (Nat.le_of_ble_eq_true rfl)) (ck' := 3) (sk' := 18) rfl rfl (fun _ => rfl) (fun _ _ => ?_) (fun _ hx => absurd rfl hx)
  refine g_aload_n C 0 dX10_agree_21 rfl ?_
  refine g_get C 9 1 rfl rfl wiX7 (by decide) mw_1_63 rfl rfl dX10_agree_22 ?_
  refine g_icmp_ge C 30 dX10_agree_25 (by decide) (fun c9 => ?_) (fun c9 => ?_)
  · have hf := opt_pos c9 hf
    refine g_iconst C (v := 1) dX10_agree_30 (by decide) ?_
    refine g_istore C (lv' := [(4, .int 1), (3, .ref (c 0)), (0, .ref (v 0)), (1, .int p0), (2, .int p1)]) dX10_agree_31 (g_nlt hn rfl) rfl ?_
    refine gW.locals [2, 3, 4, 1, 0] rfl ?_
    exact H33 1000 v7.2 1 hf
  · have hf := opt_neg c9 hf
    refine g_iconst C (v := 1) dX10_agree_28 (by decide) ?_
    obtain rfl := Option.some.inj hf
    exact g_zret C E () rfl dX10_agree_29 rfl rfl rfl (Nat.le_of_ble_eq_true rfl) (Nat.le_of_ble_eq_true rfl)
/-! X10_secret -/
theorem hd_X10_secret : yX10_secret.cls ≠ "java/lang/invoke/MethodHandle" ∧ yX10_secret.cls ≠ "java/lang/invoke/VarHandle" ∧ (parseMethodDescriptor yX10_secret.desc).map (fun d => d.parameters.length) = some 2 := by decide +kernel
def F_X10_secret_L113   (s0_113 : Int32) : Option (Nat × Int32) := some (0, s0_113)
def F_X10_secret (c_filled : Int32) (c_th : Int32) (c_ep : Int32) (c_rule : Option Nat) (c_cm : Nat → Int32) (c_vs : Nat → Int32) (c_es : Nat → Int32) (p0 : Int32) (p1 : Int32) : Option (Nat × Int32) := (F_X10_checkSlot p0).bind fun v1 => if v1 = 0 then ((F_X10_checkWhat p1 6).bind fun v3 => if v3 = 0 then ((F_X10_secretIn c_filled p0).bind fun v5 => if v5 = 0 then (if p1 = 0 then (some (0, c_th)) else (if p1 = 1 then (some (0, c_ep)) else (if p1 = 2 then ((F_X7_shareCount c_es 255).bind fun v10 => some (0, v10)) else (if p1 = 3 then ((F_X7_shareCount_ c_th c_ep c_cm c_vs c_es 255 0).bind fun v13 => some (0, v13)) else (if p1 = 4 then ((F_X7_shareCount_ c_th c_ep c_cm c_vs c_es 255 1).bind fun v16 => some (0, v16)) else (if p1 = 5 then ((F_X7_shareCount_ c_th c_ep c_cm c_vs c_es 255 2).bind fun v19 => some (0, v19)) else (if c_rule = none then (F_X10_secret_L113 0) else (F_X10_secret_L113 1)))))))) else some (v5, 0)) else some (v3, 0)) else some (v1, 0)
set_option maxRecDepth 100000 in
set_option maxHeartbeats 4000000 in
theorem c_X10_secret {l : Launch} {D : va_G} {cy : Nat → ClassId} {v : Nat → Nat} {b : Nat → Nat} {c : Nat → Nat} {kp : Nat} {ak : Int32} {bf : Nat} {fa : Int32} {fl : Nat} {ln : Nat} {co : Nat → Int32} {ch : Nat → Int32} {gs : Nat → Int32} {op : Nat → Int32} {z : Int32} {pr : Int32} {le : Int32} {ec : Int32} {wt : Nat → Int32} {sa : Nat → Option Nat} {ev : Nat → Int32} {c_filled : Int32} {c_th : Int32} {c_ep : Int32} {c_rule : Option Nat} {c_cm : Nat → Int32} {c_vs : Nat → Int32} {c_es : Nat → Int32} {p0 : Int32} {p1 : Int32} (hs : gi p0 4 = true → sa (Int32.toNatClampNeg p0) = some (c 0)) {val : Nat × Int32} (hf : F_X10_secret c_filled c_th c_ep c_rule c_cm c_vs c_es p0 p1 = some val) : gCt l D cy yX10_secret cX10_secret 4 (some .int) 7 104 3 18 [.ref (v 0), .int p0, .int p1] [] ((wV cy v (b 0) kp ak bf fa fl ln co ch gs op) ++ (wSt cy b z pr le ec wt sa ev) ++ (wSec cy c c_filled c_th c_ep c_rule c_cm c_vs c_es)) val.1 (fun _ : Unit => some (.int val.2)) (fun _ => (wV cy v (b 0) kp ak bf fa fl ln co ch gs op) ++ (wSt cy b z pr le ec wt sa ev) ++ (wSec cy c c_filled c_th c_ep c_rule c_cm c_vs c_es)) := by
  refine g_begin (by decide +kernel) (Nat.le_of_ble_eq_true rfl) ?_
  intro X Q hl hR hD hy hro hn C hin E
  subst hl; subst hD; subst hy
  replace C : gC X "SecretVault" cX10_secret (some .int) := C
  unfold F_X10_secret at hf
  have H113 : ∀ (s0_113 : Int32), F_X10_secret_L113 s0_113 = some val → gW X Q 3 18 ((wV (x_y X) v (b 0) kp ak bf fa fl ln co ch gs op) ++ (wSt (x_y X) b z pr le ec wt sa ev) ++ (wSec (x_y X) c c_filled c_th c_ep c_rule c_cm c_vs c_es)) [(0, .ref (v 0)), (1, .int p0), (2, .int p1)] [.int s0_113] 113 := by
    intro s0_113 hf
    unfold F_X10_secret_L113 at hf
    obtain rfl := Option.some.inj hf
    exact g_iret C E () dX10_secret_113 rfl rfl rfl (Nat.le_of_ble_eq_true rfl) (Nat.le_of_ble_eq_true rfl)
  show gW X Q 0 0 ((wV (x_y X) v (b 0) kp ak bf fa fl ln co ch gs op) ++ (wSt (x_y X) b z pr le ec wt sa ev) ++ (wSec (x_y X) c c_filled c_th c_ep c_rule c_cm c_vs c_es)) [(0, .ref (v 0)), (1, .int p0), (2, .int p1)] [] 0
  refine g_iload_n C 1 dX10_secret_0 rfl ?_
  obtain ⟨v1, h2, hf⟩ := opt_bind hf
  refine g_callS C (c_X10_checkSlot (l := x_l X) (D := x_D X) (cy := x_y X) (p0 := p0) h2) (As := [.int p0]) (rest := []) (wr := (wV (x_y X) v (b 0) kp ak bf fa fl ln co ch gs op) ++ (wSt (x_y X) b z pr le ec wt sa ev) ++ (wSec (x_y X) c c_filled c_th c_ep c_rule c_cm c_vs c_es)) (ws' := fun _ => (wV (x_y X) v (b 0) kp ak bf fa fl ln co ch gs op) ++ (wSt (x_y X) b z pr le ec wt sa ev) ++ (wSec (x_y X) c c_filled c_th c_ep c_rule c_cm c_vs c_es)) (st' := fun _ => []) 1 mw_2_189 mw_1_1 mw_2_187 mw_2_188 hd_X10_checkSlot rfl (g_rm hR rfl rfl) [] [0, 1, 2, 3, 4, 5, 6, 7, 8, 9, 10, 11, 12] [0, 1, 2, 3, 4, 5, 6, 7, 8, 9, 10, 11, 12] ⟨rfl, rfl, rfl, rfl, by decide, gRoIn_0, rfl, fun _ => rfl⟩ rfl (Nat.le_of_ble_eq_true rfl) dX10_secret_1 (g_rc hR (Nat.le_of_ble_eq_true rfl) (Nat.le_of_ble_eq_true rfl)) (ck' := 1) (sk' := 6) rfl rfl (fun _ => rfl) (fun _ ev1 => ?_) (fun _ ev1 => ?_)
  rotate_left
  · have hf := opt_neg ev1 hf
    obtain rfl := Option.some.inj hf
    exact g_out E () rfl ev1 rfl (Nat.le_of_ble_eq_true rfl) (Nat.le_of_ble_eq_true rfl)
  have hf := opt_pos ev1 hf
  refine g_iload_n C 2 dX10_secret_4 rfl ?_
  refine g_bipush C (v := 6) dX10_secret_5 (by decide) ?_
  obtain ⟨v3, h4, hf⟩ := opt_bind hf
  refine g_callS C (c_X10_checkWhat (l := x_l X) (D := x_D X) (cy := x_y X) (p0 := p1) (p1 := 6) h4) (As := [.int p1, .int 6]) (rest := []) (wr := (wV (x_y X) v (b 0) kp ak bf fa fl ln co ch gs op) ++ (wSt (x_y X) b z pr le ec wt sa ev) ++ (wSec (x_y X) c c_filled c_th c_ep c_rule c_cm c_vs c_es)) (ws' := fun _ => (wV (x_y X) v (b 0) kp ak bf fa fl ln co ch gs op) ++ (wSt (x_y X) b z pr le ec wt sa ev) ++ (wSec (x_y X) c c_filled c_th c_ep c_rule c_cm c_vs c_es)) (st' := fun _ => []) 2 mw_2_146 mw_1_1 mw_2_144 mw_2_145 hd_X10_checkWhat rfl (g_rm hR rfl rfl) [] [0, 1, 2, 3, 4, 5, 6, 7, 8, 9, 10, 11, 12] [0, 1, 2, 3, 4, 5, 6, 7, 8, 9, 10, 11, 12] ⟨rfl, rfl, rfl, rfl, by decide, gRoIn_0, rfl, fun _ => rfl⟩ rfl (Nat.le_of_ble_eq_true rfl) dX10_secret_7 (g_rc hR (Nat.le_of_ble_eq_true rfl) (Nat.le_of_ble_eq_true rfl)) (ck' := 2) (sk' := 12) rfl rfl (fun _ => rfl) (fun _ ev3 => ?_) (fun _ ev3 => ?_)
  rotate_left
  · have hf := opt_neg ev3 hf
    obtain rfl := Option.some.inj hf
    exact g_out E () rfl ev3 rfl (Nat.le_of_ble_eq_true rfl) (Nat.le_of_ble_eq_true rfl)
  have hf := opt_pos ev3 hf
  refine g_aload_n C 0 dX10_secret_10 rfl ?_
  refine g_iload_n C 1 dX10_secret_11 rfl ?_
  obtain ⟨v5, h6, hf⟩ := opt_bind hf
  refine g_callV C (c_X10_secretIn (l := x_l X) (D := x_D X) (cy := x_y X) (v := v) (b := b) (c := c) (kp := kp) (ak := ak) (bf := bf) (fa := fa) (fl := fl) (ln := ln) (co := co) (ch := ch) (gs := gs) (op := op) (z := z) (pr := pr) (le := le) (ec := ec) (wt := wt) (sa := sa) (ev := ev) (c_filled := c_filled) (c_th := c_th) (c_ep := c_ep) (c_rule := c_rule) (c_cm := c_cm) (c_vs := c_vs) (c_es := c_es) (p0 := p0) (hs := hs) h6) (As := [.int p0]) (rest := []) (wr := []) (ws' := fun _ => (wV (x_y X) v (b 0) kp ak bf fa fl ln co ch gs op) ++ (wSt (x_y X) b z pr le ec wt sa ev) ++ (wSec (x_y X) c c_filled c_th c_ep c_rule c_cm c_vs c_es)) (st' := fun _ => [.ref (c 0)]) (ci := 11) 1 0 ⟨_, rfl⟩ rfl rfl mw_3_34 mw_1_1 mw_3_31 mw_3_33 mp_5 hd_X10_secretIn rfl (g_rm hR rfl rfl) [0, 1, 2, 3, 4, 5, 6, 7, 8, 9, 10, 11, 12] [] [0, 1, 2, 3, 4, 5, 6, 7, 8, 9, 10, 11, 12] ⟨rfl, rfl, rfl, rfl, by decide, gRoIn_0, rfl, fun _ => rfl⟩ rfl (Nat.le_of_ble_eq_true rfl) dX10_secret_12 (g_rc hR (Nat.le_of_ble_eq_true rfl) (Nat.le_of_ble_eq_true rfl)) (ck' := 3) (sk' := 18) rfl rfl (fun _ => rfl) (fun _ ev5 => ?_) (fun _ ev5 => ?_)
  rotate_left
  · have hf := opt_neg ev5 hf
    obtain rfl := Option.some.inj hf
    exact g_out E () rfl ev5 rfl (Nat.le_of_ble_eq_true rfl) (Nat.le_of_ble_eq_true rfl)
  have hf := opt_pos ev5 hf
  refine g_astore_n C (lv' := [(3, .ref (c 0)), (0, .ref (v 0)), (1, .int p0), (2, .int p1)]) dX10_secret_15 (g_nlt hn rfl) rfl ?_
  refine g_iload_n C 3 dX10_secret_16 rfl ?_
  by_cases c7 : p1 = 0
  · have hf := opt_pos c7 hf
    refine g_tableIn C 56 (off := 39) dX10_secret_17 (by rw [c7]; decide) (by rw [c7]; decide) (by rw [c7]; rfl) (by decide) ?_
    refine g_aload_n C 0 dX10_secret_56 rfl ?_
    refine g_get C 9 1 rfl rfl wiX7 (by decide) mw_1_63 rfl rfl dX10_secret_57 ?_
    obtain rfl := Option.some.inj hf
    exact g_iret C E () dX10_secret_60 rfl rfl rfl (Nat.le_of_ble_eq_true rfl) (Nat.le_of_ble_eq_true rfl)
  have hf := opt_neg c7 hf
  by_cases c8 : p1 = 1
  · have hf := opt_pos c8 hf
    refine g_tableIn C 61 (off := 44) dX10_secret_17 (by rw [c8]; decide) (by rw [c8]; decide) (by rw [c8]; rfl) (by decide) ?_
    refine g_aload_n C 0 dX10_secret_61 rfl ?_
    refine g_get C 9 2 rfl rfl wiX7 (by decide) mw_1_65 rfl rfl dX10_secret_62 ?_
    obtain rfl := Option.some.inj hf
    exact g_iret C E () dX10_secret_65 rfl rfl rfl (Nat.le_of_ble_eq_true rfl) (Nat.le_of_ble_eq_true rfl)
  have hf := opt_neg c8 hf
  by_cases c9 : p1 = 2
  · have hf := opt_pos c9 hf
    refine g_tableIn C 66 (off := 49) dX10_secret_17 (by rw [c9]; decide) (by rw [c9]; decide) (by rw [c9]; rfl) (by decide) ?_
    refine g_aload_n C 0 dX10_secret_66 rfl ?_
    refine g_sipush C (v := 255) dX10_secret_67 (by decide) ?_
    obtain ⟨v10, h11, hf⟩ := opt_bind hf
    refine g_callV C (c_X7_shareCount (l := x_l X) (D := x_D X) (cy := x_y X) (a := c) (filled := c_filled) (th := c_th) (ep := c_ep) (rule := c_rule) (cm := c_cm) (vs := c_vs) (es := c_es) (p0 := 255) h11) (As := [.int 255]) (rest := []) (wr := (wV (x_y X) v (b 0) kp ak bf fa fl ln co ch gs op) ++ (wSt (x_y X) b z pr le ec wt sa ev)) (ws' := fun _ => (wV (x_y X) v (b 0) kp ak bf fa fl ln co ch gs op) ++ (wSt (x_y X) b z pr le ec wt sa ev) ++ (wSec (x_y X) c c_filled c_th c_ep c_rule c_cm c_vs c_es)) (st' := fun _ => [.int v10]) (ci := 8) 1 9 ⟨_, rfl⟩ rfl rfl mw_2_151 mw_1_3 mw_2_148 mw_2_149 mw_2_150 hd_X7_shareCount rfl (g_rm hR rfl rfl) [9, 10, 11, 12] [0, 1, 2, 3, 4, 5, 6, 7, 8] [0, 1, 2, 3, 4, 5, 6, 7, 8, 9, 10, 11, 12] ⟨rfl, rfl, rfl, rfl, by decide, gRoIn_0, rfl, fun _ => rfl⟩ rfl (Nat.le_of_ble_eq_true rfl) dX10_secret_70 (g_rc hR (Nat.le_of_ble_eq_true rfl) (Nat.le_of_ble_eq_true rfl)) (ck' := 3) (sk' := 18) rfl rfl (fun _ => rfl) (fun _ _ => ?_) (fun _ hx => absurd rfl hx)
    obtain rfl := Option.some.inj hf
    exact g_iret C E () dX10_secret_73 rfl rfl rfl (Nat.le_of_ble_eq_true rfl) (Nat.le_of_ble_eq_true rfl)
  have hf := opt_neg c9 hf
  by_cases c12 : p1 = 3
  · have hf := opt_pos c12 hf
    refine g_tableIn C 74 (off := 57) dX10_secret_17 (by rw [c12]; decide) (by rw [c12]; decide) (by rw [c12]; rfl) (by decide) ?_
    refine g_aload_n C 0 dX10_secret_74 rfl ?_
    refine g_sipush C (v := 255) dX10_secret_75 (by decide) ?_
    refine g_iconst C (v := 0) dX10_secret_78 (by decide) ?_
    obtain ⟨v13, h14, hf⟩ := opt_bind hf
    refine g_callV C (c_X7_shareCount_ (l := x_l X) (D := x_D X) (cy := x_y X) (a := c) (filled := c_filled) (th := c_th) (ep := c_ep) (rule := c_rule) (cm := c_cm) (vs := c_vs) (es := c_es) (p0 := 255) (p1 := 0) h14) (As := [.int 255, .int 0]) (rest := []) (wr := (wV (x_y X) v (b 0) kp ak bf fa fl ln co ch gs op) ++ (wSt (x_y X) b z pr le ec wt sa ev)) (ws' := fun _ => (wV (x_y X) v (b 0) kp ak bf fa fl ln co ch gs op) ++ (wSt (x_y X) b z pr le ec wt sa ev) ++ (wSec (x_y X) c c_filled c_th c_ep c_rule c_cm c_vs c_es)) (st' := fun _ => [.int v13]) (ci := 8) 2 9 ⟨_, rfl⟩ rfl rfl mw_2_163 mw_1_3 mw_2_160 mw_2_161 mw_2_162 hd_X7_shareCount_ rfl (g_rm hR rfl rfl) [9, 10, 11, 12] [0, 1, 2, 3, 4, 5, 6, 7, 8] [0, 1, 2, 3, 4, 5, 6, 7, 8, 9, 10, 11, 12] ⟨rfl, rfl, rfl, rfl, by decide, gRoIn_0, rfl, fun _ => rfl⟩ rfl (Nat.le_of_ble_eq_true rfl) dX10_secret_79 (g_rc hR (Nat.le_of_ble_eq_true rfl) (Nat.le_of_ble_eq_true rfl)) (ck' := 3) (sk' := 18) rfl rfl (fun _ => rfl) (fun _ _ => ?_) (fun _ hx => absurd rfl hx)
    obtain rfl := Option.some.inj hf
    exact g_iret C E () dX10_secret_82 rfl rfl rfl (Nat.le_of_ble_eq_true rfl) (Nat.le_of_ble_eq_true rfl)
  have hf := opt_neg c12 hf
  by_cases c15 : p1 = 4
  · have hf := opt_pos c15 hf
    refine g_tableIn C 83 (off := 66) dX10_secret_17 (by rw [c15]; decide) (by rw [c15]; decide) (by rw [c15]; rfl) (by decide) ?_
    refine g_aload_n C 0 dX10_secret_83 rfl ?_
    refine g_sipush C (v := 255) dX10_secret_84 (by decide) ?_
    refine g_iconst C (v := 1) dX10_secret_87 (by decide) ?_
    obtain ⟨v16, h17, hf⟩ := opt_bind hf
    refine g_callV C (c_X7_shareCount_ (l := x_l X) (D := x_D X) (cy := x_y X) (a := c) (filled := c_filled) (th := c_th) (ep := c_ep) (rule := c_rule) (cm := c_cm) (vs := c_vs) (es := c_es) (p0 := 255) (p1 := 1) h17) (As := [.int 255, .int 1]) (rest := []) (wr := (wV (x_y X) v (b 0) kp ak bf fa fl ln co ch gs op) ++ (wSt (x_y X) b z pr le ec wt sa ev)) (ws' := fun _ => (wV (x_y X) v (b 0) kp ak bf fa fl ln co ch gs op) ++ (wSt (x_y X) b z pr le ec wt sa ev) ++ (wSec (x_y X) c c_filled c_th c_ep c_rule c_cm c_vs c_es)) (st' := fun _ => [.int v16]) (ci := 8) 2 9 ⟨_, rfl⟩ rfl rfl mw_2_163 mw_1_3 mw_2_160 mw_2_161 mw_2_162 hd_X7_shareCount_ rfl (g_rm hR rfl rfl) [9, 10, 11, 12] [0, 1, 2, 3, 4, 5, 6, 7, 8] [0, 1, 2, 3, 4, 5, 6, 7, 8, 9, 10, 11, 12] ⟨rfl, rfl, rfl, rfl, by decide, gRoIn_0, rfl, fun _ => rfl⟩ rfl (Nat.le_of_ble_eq_true rfl) dX10_secret_88 (g_rc hR (Nat.le_of_ble_eq_true rfl) (Nat.le_of_ble_eq_true rfl)) (ck' := 3) (sk' := 18) rfl rfl (fun _ => rfl) (fun _ _ => ?_) (fun _ hx => absurd rfl hx)
    obtain rfl := Option.some.inj hf
    exact g_iret C E () dX10_secret_91 rfl rfl rfl (Nat.le_of_ble_eq_true rfl) (Nat.le_of_ble_eq_true rfl)
  have hf := opt_neg c15 hf
  by_cases c18 : p1 = 5
  · have hf := opt_pos c18 hf
    refine g_tableIn C 92 (off := 75) dX10_secret_17 (by rw [c18]; decide) (by rw [c18]; decide) (by rw [c18]; rfl) (by decide) ?_
    refine g_aload_n C 0 dX10_secret_92 rfl ?_
    refine g_sipush C (v := 255) dX10_secret_93 (by decide) ?_
    refine g_iconst C (v := 2) dX10_secret_96 (by decide) ?_
    obtain ⟨v19, h20, hf⟩ := opt_bind hf
    refine g_callV C (c_X7_shareCount_ (l := x_l X) (D := x_D X) (cy := x_y X) (a := c) (filled := c_filled) (th := c_th) (ep := c_ep) (rule := c_rule) (cm := c_cm) (vs := c_vs) (es := c_es) (p0 := 255) (p1 := 2) h20) (As := [.int 255, .int 2]) (rest := []) (wr := (wV (x_y X) v (b 0) kp ak bf fa fl ln co ch gs op) ++ (wSt (x_y X) b z pr le ec wt sa ev)) (ws' := fun _ => (wV (x_y X) v (b 0) kp ak bf fa fl ln co ch gs op) ++ (wSt (x_y X) b z pr le ec wt sa ev) ++ (wSec (x_y X) c c_filled c_th c_ep c_rule c_cm c_vs c_es)) (st' := fun _ => [.int v19]) (ci := 8) 2 9 ⟨_, rfl⟩ rfl rfl mw_2_163 mw_1_3 mw_2_160 mw_2_161 mw_2_162 hd_X7_shareCount_ rfl (g_rm hR rfl rfl) [9, 10, 11, 12] [0, 1, 2, 3, 4, 5, 6, 7, 8] [0, 1, 2, 3, 4, 5, 6, 7, 8, 9, 10, 11, 12] ⟨rfl, rfl, rfl, rfl, by decide, gRoIn_0, rfl, fun _ => rfl⟩ rfl (Nat.le_of_ble_eq_true rfl) dX10_secret_97 (g_rc hR (Nat.le_of_ble_eq_true rfl) (Nat.le_of_ble_eq_true rfl)) (ck' := 3) (sk' := 18) rfl rfl (fun _ => rfl) (fun _ _ => ?_) (fun _ hx => absurd rfl hx)
    obtain rfl := Option.some.inj hf
    exact g_iret C E () dX10_secret_100 rfl rfl rfl (Nat.le_of_ble_eq_true rfl) (Nat.le_of_ble_eq_true rfl)
  have hf := opt_neg c18 hf
  refine g_tableOut C 101 dX10_secret_17 (by have z0 := g_neK (k := 0) (a := 0) c7 (by decide); have z1 := g_neK (k := 1) (a := 1) c8 (by decide); have z2 := g_neK (k := 2) (a := 2) c9 (by decide); have z3 := g_neK (k := 3) (a := 3) c12 (by decide); have z4 := g_neK (k := 4) (a := 4) c15 (by decide); have z5 := g_neK (k := 5) (a := 5) c18 (by decide); omega) (by decide) ?_
  refine g_aload_n C 0 dX10_secret_101 rfl ?_
  refine g_get C 9 4 rfl rfl wiX7 (by decide) mw_1_69 rfl rfl dX10_secret_102 ?_
  refine g_ifnonnull_rf C 112 dX10_secret_105 (by decide) (fun c21 => ?_) (fun c21 => ?_)
  · have hf := opt_neg c21 hf
    refine g_iconst C (v := 1) dX10_secret_112 (by decide) ?_
    refine gW.locals [1, 2, 3] rfl ?_
    exact H113 1 hf
  · have hf := opt_pos c21 hf
    refine g_iconst C (v := 0) dX10_secret_108 (by decide) ?_
    refine g_goto C 113 dX10_secret_109 (by decide) ?_
    refine gW.locals [1, 2, 3] rfl ?_
    exact H113 0 hf
