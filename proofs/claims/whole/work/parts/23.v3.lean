/-! X10_commitment -/
theorem hd_X10_commitment : yX10_commitment.cls ≠ "java/lang/invoke/MethodHandle" ∧ yX10_commitment.cls ≠ "java/lang/invoke/VarHandle" ∧ (parseMethodDescriptor yX10_commitment.desc).map (fun d => d.parameters.length) = some 2 := by decide +kernel
def F_X10_commitment_L22    : Option (Nat × Int32) := some (3, 0)
def F_X10_commitment (c_filled : Int32) (c_th : Int32) (c_cm : Nat → Int32) (p0 : Int32) (p1 : Int32) : Option (Nat × Int32) := (F_X10_checkSlot p0).bind fun v1 => if v1 = 0 then ((F_X10_secretIn c_filled p0).bind fun v3 => if v3 = 0 then (if p1 < 0 then (F_X10_commitment_L22 ) else (if p1 < c_th then (gg (gi p1 8) (some (0, c_cm (Int32.toNatClampNeg p1)))) else (F_X10_commitment_L22 ))) else some (v3, 0)) else some (v1, 0)
set_option maxRecDepth 100000 in
set_option maxHeartbeats 4000000 in
theorem c_X10_commitment {l : Launch} {D : va_G} {cy : Nat → ClassId} {v : Nat → Nat} {b : Nat → Nat} {c : Nat → Nat} {kp : Nat} {ak : Int32} {bf : Nat} {fa : Int32} {fl : Nat} {ln : Nat} {co : Nat → Int32} {ch : Nat → Int32} {gs : Nat → Int32} {op : Nat → Int32} {z : Int32} {pr : Int32} {le : Int32} {ec : Int32} {wt : Nat → Int32} {sa : Nat → Option Nat} {ev : Nat → Int32} {c_filled : Int32} {c_th : Int32} {c_ep : Int32} {c_rule : Option Nat} {c_cm : Nat → Int32} {c_vs : Nat → Int32} {c_es : Nat → Int32} {p0 : Int32} {p1 : Int32} (hs : gi p0 4 = true → sa (Int32.toNatClampNeg p0) = some (c 0)) {val : Nat × Int32} (hf : F_X10_commitment c_filled c_th c_cm p0 p1 = some val) : gCt l D cy yX10_commitment cX10_commitment 4 (some .int) 7 104 3 18 [.ref (v 0), .int p0, .int p1] [] ((wV cy v (b 0) kp ak bf fa fl ln co ch gs op) ++ (wSt cy b z pr le ec wt sa ev) ++ (wSec cy c c_filled c_th c_ep c_rule c_cm c_vs c_es)) val.1 (fun _ : Unit => some (.int val.2)) (fun _ => (wV cy v (b 0) kp ak bf fa fl ln co ch gs op) ++ (wSt cy b z pr le ec wt sa ev) ++ (wSec cy c c_filled c_th c_ep c_rule c_cm c_vs c_es)) := by
  refine g_begin (by decide +kernel) (Nat.le_of_ble_eq_true rfl) ?_
  intro X Q hl hR hD hy hro hn C hin E
  subst hl; subst hD; subst hy
  replace C : gC X "SecretVault" cX10_commitment (some .int) := C
  unfold F_X10_commitment at hf
  have H22 :  F_X10_commitment_L22 = some val → gW X Q 2 12 ((wV (x_y X) v (b 0) kp ak bf fa fl ln co ch gs op) ++ (wSt (x_y X) b z pr le ec wt sa ev) ++ (wSec (x_y X) c c_filled c_th c_ep c_rule c_cm c_vs c_es)) [(0, .ref (v 0)), (1, .int p0), (2, .int p1)] [] 22 := by
    intro hf
    unfold F_X10_commitment_L22 at hf
    obtain rfl := Option.some.inj hf
    exact g_throwN C E () (text := "no such commitment") gTh_3 ms_188 dX10_commitment_22 dX10_commitment_25 dX10_commitment_26 dX10_commitment_28 dX10_commitment_31 (g_th hR rfl rfl) (g_rc hR (Nat.le_of_ble_eq_true rfl) (Nat.le_of_ble_eq_true rfl)) (Nat.succ_ne_zero 2) rfl rfl (Nat.le_of_ble_eq_true rfl) (Nat.le_of_ble_eq_true rfl)
  show gW X Q 0 0 ((wV (x_y X) v (b 0) kp ak bf fa fl ln co ch gs op) ++ (wSt (x_y X) b z pr le ec wt sa ev) ++ (wSec (x_y X) c c_filled c_th c_ep c_rule c_cm c_vs c_es)) [(0, .ref (v 0)), (1, .int p0), (2, .int p1)] [] 0
  refine g_iload_n C 1 dX10_commitment_0 rfl ?_
  obtain ⟨v1, h2, hf⟩ := opt_bind hf
  refine g_callS C (c_X10_checkSlot (l := x_l X) (D := x_D X) (cy := x_y X) (p0 := p0) h2) (As := [.int p0]) (rest := []) (wr := (wV (x_y X) v (b 0) kp ak bf fa fl ln co ch gs op) ++ (wSt (x_y X) b z pr le ec wt sa ev) ++ (wSec (x_y X) c c_filled c_th c_ep c_rule c_cm c_vs c_es)) (ws' := fun _ => (wV (x_y X) v (b 0) kp ak bf fa fl ln co ch gs op) ++ (wSt (x_y X) b z pr le ec wt sa ev) ++ (wSec (x_y X) c c_filled c_th c_ep c_rule c_cm c_vs c_es)) (st' := fun _ => []) 1 mw_2_189 mw_1_1 mw_2_187 mw_2_188 hd_X10_checkSlot rfl (g_rm hR rfl rfl) [] [0, 1, 2, 3, 4, 5, 6, 7, 8, 9, 10, 11, 12] [0, 1, 2, 3, 4, 5, 6, 7, 8, 9, 10, 11, 12] ⟨rfl, rfl, rfl, rfl, by decide, gRoIn_0, rfl, fun _ => rfl⟩ rfl (Nat.le_of_ble_eq_true rfl) dX10_commitment_1 (g_rc hR (Nat.le_of_ble_eq_true rfl) (Nat.le_of_ble_eq_true rfl)) (ck' := 1) (sk' := 6) rfl rfl (fun _ => rfl) (fun _ ev1 => ?_) (fun _ ev1 => ?_)
  rotate_left
  · have hf := opt_neg ev1 hf
    obtain rfl := Option.some.inj hf
    exact g_out E () rfl ev1 rfl (Nat.le_of_ble_eq_true rfl) (Nat.le_of_ble_eq_true rfl)
  have hf := opt_pos ev1 hf
  refine g_aload_n C 0 dX10_commitment_4 rfl ?_
  refine g_iload_n C 1 dX10_commitment_5 rfl ?_
  obtain ⟨v3, h4, hf⟩ := opt_bind hf
  refine g_callV C (c_X10_secretIn (l := x_l X) (D := x_D X) (cy := x_y X) (v := v) (b := b) (c := c) (kp := kp) (ak := ak) (bf := bf) (fa := fa) (fl := fl) (ln := ln) (co := co) (ch := ch) (gs := gs) (op := op) (z := z) (pr := pr) (le := le) (ec := ec) (wt := wt) (sa := sa) (ev := ev) (c_filled := c_filled) (c_th := c_th) (c_ep := c_ep) (c_rule := c_rule) (c_cm := c_cm) (c_vs := c_vs) (c_es := c_es) (p0 := p0) (hs := hs) h4) (As := [.int p0]) (rest := []) (wr := []) (ws' := fun _ => (wV (x_y X) v (b 0) kp ak bf fa fl ln co ch gs op) ++ (wSt (x_y X) b z pr le ec wt sa ev) ++ (wSec (x_y X) c c_filled c_th c_ep c_rule c_cm c_vs c_es)) (st' := fun _ => [.ref (c 0)]) (ci := 11) 1 0 ⟨_, rfl⟩ rfl rfl mw_3_34 mw_1_1 mw_3_31 mw_3_33 mp_5 hd_X10_secretIn rfl (g_rm hR rfl rfl) [0, 1, 2, 3, 4, 5, 6, 7, 8, 9, 10, 11, 12] [] [0, 1, 2, 3, 4, 5, 6, 7, 8, 9, 10, 11, 12] ⟨rfl, rfl, rfl, rfl, by decide, gRoIn_0, rfl, fun _ => rfl⟩ rfl (Nat.le_of_ble_eq_true rfl) dX10_commitment_6 (g_rc hR (Nat.le_of_ble_eq_true rfl) (Nat.le_of_ble_eq_true rfl)) (ck' := 2) (sk' := 12) rfl rfl (fun _ => rfl) (fun _ ev3 => ?_) (fun _ ev3 => ?_)
  rotate_left
  · have hf := opt_neg ev3 hf
    obtain rfl := Option.some.inj hf
    exact g_out E () rfl ev3 rfl (Nat.le_of_ble_eq_true rfl) (Nat.le_of_ble_eq_true rfl)
  have hf := opt_pos ev3 hf
  refine g_astore_n C (lv' := [(3, .ref (c 0)), (0, .ref (v 0)), (1, .int p0), (2, .int p1)]) dX10_commitment_9 (g_nlt hn rfl) rfl ?_
  refine g_iload_n C 3 dX10_commitment_10 rfl ?_
  refine g_if_lt C 22 dX10_commitment_11 (by decide) (fun c5 => ?_) (fun c5 => ?_)
  · have hf := opt_pos c5 hf
    refine gW.locals [1, 2, 3] rfl ?_
    exact H22 hf
  · have hf := opt_neg c5 hf
    refine g_iload_n C 3 dX10_commitment_14 rfl ?_
    refine g_aload_n C 0 dX10_commitment_15 rfl ?_
    refine g_get C 9 1 rfl rfl wiX7 (by decide) mw_1_63 rfl rfl dX10_commitment_16 ?_
    refine g_icmp_lt C 32 dX10_commitment_19 (by decide) (fun c6 => ?_) (fun c6 => ?_)
    · have hf := opt_pos c6 hf
      refine g_aload_n C 0 dX10_commitment_32 rfl ?_
      refine g_get C 9 3 rfl rfl wiX7 (by decide) mw_1_67 rfl rfl dX10_commitment_33 ?_
      refine g_iload_n C 3 dX10_commitment_36 rfl ?_
      obtain ⟨c7, hf⟩ := gg_of hf
      refine g_iald C 10 rfl (gi_in c7) dX10_commitment_37 ?_
      obtain rfl := Option.some.inj hf
      exact g_iret C E () dX10_commitment_38 rfl rfl rfl (Nat.le_of_ble_eq_true rfl) (Nat.le_of_ble_eq_true rfl)
    · have hf := opt_neg c6 hf
      refine gW.locals [1, 2, 3] rfl ?_
      exact H22 hf
/-! X10_secretWithShare -/
theorem hd_X10_secretWithShare : yX10_secretWithShare.cls ≠ "java/lang/invoke/MethodHandle" ∧ yX10_secretWithShare.cls ≠ "java/lang/invoke/VarHandle" ∧ (parseMethodDescriptor yX10_secretWithShare.desc).map (fun d => d.parameters.length) = some 2 := by decide +kernel
def F_X10_secretWithShare (c_filled : Int32) (c_es : Nat → Int32) (p0 : Int32) (p1 : Int32) : Option (Nat) := (F_X10_secretIn c_filled p0).bind fun v1 => if v1 = 0 then ((F_X7_holds c_es p1).bind fun v3 => if v3 = 0 then (some 3) else (some 0)) else some v1
set_option maxRecDepth 100000 in
set_option maxHeartbeats 4000000 in
theorem c_X10_secretWithShare {l : Launch} {D : va_G} {cy : Nat → ClassId} {v : Nat → Nat} {b : Nat → Nat} {c : Nat → Nat} {kp : Nat} {ak : Int32} {bf : Nat} {fa : Int32} {fl : Nat} {ln : Nat} {co : Nat → Int32} {ch : Nat → Int32} {gs : Nat → Int32} {op : Nat → Int32} {z : Int32} {pr : Int32} {le : Int32} {ec : Int32} {wt : Nat → Int32} {sa : Nat → Option Nat} {ev : Nat → Int32} {c_filled : Int32} {c_th : Int32} {c_ep : Int32} {c_rule : Option Nat} {c_cm : Nat → Int32} {c_vs : Nat → Int32} {c_es : Nat → Int32} {p0 : Int32} {p1 : Int32} (hs : gi p0 4 = true → sa (Int32.toNatClampNeg p0) = some (c 0)) {val : Nat} (hf : F_X10_secretWithShare c_filled c_es p0 p1 = some val) : gCt l D cy yX10_secretWithShare cX10_secretWithShare 4 (some (.object "SecretVault$Secret")) 7 104 2 12 [.ref (v 0), .int p0, .int p1] [] ((wV cy v (b 0) kp ak bf fa fl ln co ch gs op) ++ (wSt cy b z pr le ec wt sa ev) ++ (wSec cy c c_filled c_th c_ep c_rule c_cm c_vs c_es)) val (fun _ : Unit => some (.ref (c 0))) (fun _ => (wV cy v (b 0) kp ak bf fa fl ln co ch gs op) ++ (wSt cy b z pr le ec wt sa ev) ++ (wSec cy c c_filled c_th c_ep c_rule c_cm c_vs c_es)) := by
  refine g_begin (by decide +kernel) (Nat.le_of_ble_eq_true rfl) ?_
  intro X Q hl hR hD hy hro hn C hin E
  subst hl; subst hD; subst hy
  replace C : gC X "SecretVault" cX10_secretWithShare (some (.object "SecretVault$Secret")) := C
  unfold F_X10_secretWithShare at hf
  show gW X Q 0 0 ((wV (x_y X) v (b 0) kp ak bf fa fl ln co ch gs op) ++ (wSt (x_y X) b z pr le ec wt sa ev) ++ (wSec (x_y X) c c_filled c_th c_ep c_rule c_cm c_vs c_es)) [(0, .ref (v 0)), (1, .int p0), (2, .int p1)] [] 0
  refine g_aload_n C 0 dX10_secretWithShare_0 rfl ?_
  refine g_iload_n C 1 dX10_secretWithShare_1 rfl ?_
  obtain ⟨v1, h2, hf⟩ := opt_bind hf
  refine g_callV C (c_X10_secretIn (l := x_l X) (D := x_D X) (cy := x_y X) (v := v) (b := b) (c := c) (kp := kp) (ak := ak) (bf := bf) (fa := fa) (fl := fl) (ln := ln) (co := co) (ch := ch) (gs := gs) (op := op) (z := z) (pr := pr) (le := le) (ec := ec) (wt := wt) (sa := sa) (ev := ev) (c_filled := c_filled) (c_th := c_th) (c_ep := c_ep) (c_rule := c_rule) (c_cm := c_cm) (c_vs := c_vs) (c_es := c_es) (p0 := p0) (hs := hs) h2) (As := [.int p0]) (rest := []) (wr := []) (ws' := fun _ => (wV (x_y X) v (b 0) kp ak bf fa fl ln co ch gs op) ++ (wSt (x_y X) b z pr le ec wt sa ev) ++ (wSec (x_y X) c c_filled c_th c_ep c_rule c_cm c_vs c_es)) (st' := fun _ => [.ref (c 0)]) (ci := 11) 1 0 ⟨_, rfl⟩ rfl rfl mw_3_34 mw_1_1 mw_3_31 mw_3_33 mp_5 hd_X10_secretIn rfl (g_rm hR rfl rfl) [0, 1, 2, 3, 4, 5, 6, 7, 8, 9, 10, 11, 12] [] [0, 1, 2, 3, 4, 5, 6, 7, 8, 9, 10, 11, 12] ⟨rfl, rfl, rfl, rfl, by decide, gRoIn_0, rfl, fun _ => rfl⟩ rfl (Nat.le_of_ble_eq_true rfl) dX10_secretWithShare_2 (g_rc hR (Nat.le_of_ble_eq_true rfl) (Nat.le_of_ble_eq_true rfl)) (ck' := 1) (sk' := 6) rfl rfl (fun _ => rfl) (fun _ ev1 => ?_) (fun _ ev1 => ?_)
  rotate_left
  · have hf := opt_neg ev1 hf
    obtain rfl := Option.some.inj hf
    exact g_out E () rfl ev1 rfl (Nat.le_of_ble_eq_true rfl) (Nat.le_of_ble_eq_true rfl)
  have hf := opt_pos ev1 hf
  refine g_astore_n C (lv' := [(3, .ref (c 0)), (0, .ref (v 0)), (1, .int p0), (2, .int p1)]) dX10_secretWithShare_5 (g_nlt hn rfl) rfl ?_
  refine g_aload_n C 0 dX10_secretWithShare_6 rfl ?_
  refine g_iload_n C 3 dX10_secretWithShare_7 rfl ?_
  obtain ⟨v3, h4, hf⟩ := opt_bind hf
  refine g_callV C (c_X7_holds (l := x_l X) (D := x_D X) (cy := x_y X) (a := c) (filled := c_filled) (th := c_th) (ep := c_ep) (rule := c_rule) (cm := c_cm) (vs := c_vs) (es := c_es) (p0 := p1) h4) (As := [.int p1]) (rest := []) (wr := (wV (x_y X) v (b 0) kp ak bf fa fl ln co ch gs op) ++ (wSt (x_y X) b z pr le ec wt sa ev)) (ws' := fun _ => (wV (x_y X) v (b 0) kp ak bf fa fl ln co ch gs op) ++ (wSt (x_y X) b z pr le ec wt sa ev) ++ (wSec (x_y X) c c_filled c_th c_ep c_rule c_cm c_vs c_es)) (st' := fun _ => [.int v3]) (ci := 8) 1 9 ⟨_, rfl⟩ rfl rfl mw_2_159 mw_1_3 mw_3_63 mw_2_157 mw_2_158 hd_X7_holds rfl (g_rm hR rfl rfl) [9, 10, 11, 12] [0, 1, 2, 3, 4, 5, 6, 7, 8] [0, 1, 2, 3, 4, 5, 6, 7, 8, 9, 10, 11, 12] ⟨rfl, rfl, rfl, rfl, by decide, gRoIn_0, rfl, fun _ => rfl⟩ rfl (Nat.le_of_ble_eq_true rfl) dX10_secretWithShare_8 (g_rc hR (Nat.le_of_ble_eq_true rfl) (Nat.le_of_ble_eq_true rfl)) (ck' := 1) (sk' := 6) rfl rfl (fun _ => rfl) (fun _ _ => ?_) (fun _ hx => absurd rfl hx)
  refine g_if_ne C 25 dX10_secretWithShare_11 (by decide) (fun c5 => ?_) (fun c5 => ?_)
  · have hf := opt_neg c5 hf
    refine g_aload_n C 0 dX10_secretWithShare_25 rfl ?_
    obtain rfl := Option.some.inj hf
    exact g_aret C E () dX10_secretWithShare_26 (Or.inl ⟨_, rfl⟩) rfl rfl rfl (Nat.le_of_ble_eq_true rfl) (Nat.le_of_ble_eq_true rfl)
  · have hf := opt_pos c5 hf
    obtain rfl := Option.some.inj hf
    exact g_throwNW C E () (text := "there is no share at this place") gTh_3 ms_380 dX10_secretWithShare_14 dX10_secretWithShare_17 dX10_secretWithShare_18 dX10_secretWithShare_21 dX10_secretWithShare_24 (g_th hR rfl rfl) (g_rc hR (Nat.le_of_ble_eq_true rfl) (Nat.le_of_ble_eq_true rfl)) (Nat.succ_ne_zero 2) rfl rfl (Nat.le_of_ble_eq_true rfl) (Nat.le_of_ble_eq_true rfl)
/-! X10_share -/
theorem hd_X10_share : yX10_share.cls ≠ "java/lang/invoke/MethodHandle" ∧ yX10_share.cls ≠ "java/lang/invoke/VarHandle" ∧ (parseMethodDescriptor yX10_share.desc).map (fun d => d.parameters.length) = some 3 := by decide +kernel
def F_X10_share_L54   (s0_54 : Int32) : Option (Nat × Int32) := some (0, s0_54)
def F_X10_share (c_filled : Int32) (c_th : Int32) (c_ep : Int32) (c_cm : Nat → Int32) (c_vs : Nat → Int32) (c_es : Nat → Int32) (p0 : Int32) (p1 : Int32) (p2 : Int32) : Option (Nat × Int32) := (F_X10_checkSlot p0).bind fun v1 => if v1 = 0 then ((F_X10_checkPlace p1).bind fun v3 => if v3 = 0 then ((F_X10_checkWhat p2 2).bind fun v5 => if v5 = 0 then ((F_X10_secretWithShare c_filled c_es p0 p1).bind fun v7 => if v7 = 0 then (if p2 = 0 then (gg (gi p1 25) (some (0, c_vs (Int32.toNatClampNeg p1)))) else (if p2 = 1 then (gg (gi p1 25) (F_X10_share_L54 (c_es (Int32.toNatClampNeg p1)))) else ((F_X7_stateOf c_th c_ep c_cm c_vs c_es p1).bind fun v11 => F_X10_share_L54 v11))) else some (v7, 0)) else some (v5, 0)) else some (v3, 0)) else some (v1, 0)
set_option maxRecDepth 100000 in
set_option maxHeartbeats 4000000 in
theorem c_X10_share {l : Launch} {D : va_G} {cy : Nat → ClassId} {v : Nat → Nat} {b : Nat → Nat} {c : Nat → Nat} {kp : Nat} {ak : Int32} {bf : Nat} {fa : Int32} {fl : Nat} {ln : Nat} {co : Nat → Int32} {ch : Nat → Int32} {gs : Nat → Int32} {op : Nat → Int32} {z : Int32} {pr : Int32} {le : Int32} {ec : Int32} {wt : Nat → Int32} {sa : Nat → Option Nat} {ev : Nat → Int32} {c_filled : Int32} {c_th : Int32} {c_ep : Int32} {c_rule : Option Nat} {c_cm : Nat → Int32} {c_vs : Nat → Int32} {c_es : Nat → Int32} {p0 : Int32} {p1 : Int32} {p2 : Int32} (hs : gi p0 4 = true → sa (Int32.toNatClampNeg p0) = some (c 0)) {val : Nat × Int32} (hf : F_X10_share c_filled c_th c_ep c_cm c_vs c_es p0 p1 p2 = some val) : gCt l D cy yX10_share cX10_share 5 (some .int) 8 127 5 30 [.ref (v 0), .int p0, .int p1, .int p2] [] ((wV cy v (b 0) kp ak bf fa fl ln co ch gs op) ++ (wSt cy b z pr le ec wt sa ev) ++ (wSec cy c c_filled c_th c_ep c_rule c_cm c_vs c_es)) val.1 (fun _ : Unit => some (.int val.2)) (fun _ => (wV cy v (b 0) kp ak bf fa fl ln co ch gs op) ++ (wSt cy b z pr le ec wt sa ev) ++ (wSec cy c c_filled c_th c_ep c_rule c_cm c_vs c_es)) := by
  refine g_begin (by decide +kernel) (Nat.le_of_ble_eq_true rfl) ?_
  intro X Q hl hR hD hy hro hn C hin E
  subst hl; subst hD; subst hy
  replace C : gC X "SecretVault" cX10_share (some .int) := C
  unfold F_X10_share at hf
  have H54 : ∀ (s0_54 : Int32), F_X10_share_L54 s0_54 = some val → gW X Q 5 30 ((wV (x_y X) v (b 0) kp ak bf fa fl ln co ch gs op) ++ (wSt (x_y X) b z pr le ec wt sa ev) ++ (wSec (x_y X) c c_filled c_th c_ep c_rule c_cm c_vs c_es)) [(0, .ref (v 0)), (1, .int p0), (2, .int p1), (3, .int p2)] [.int s0_54] 54 := by
    intro s0_54 hf
    unfold F_X10_share_L54 at hf
    obtain rfl := Option.some.inj hf
    exact g_iret C E () dX10_share_54 rfl rfl rfl (Nat.le_of_ble_eq_true rfl) (Nat.le_of_ble_eq_true rfl)
  show gW X Q 0 0 ((wV (x_y X) v (b 0) kp ak bf fa fl ln co ch gs op) ++ (wSt (x_y X) b z pr le ec wt sa ev) ++ (wSec (x_y X) c c_filled c_th c_ep c_rule c_cm c_vs c_es)) [(0, .ref (v 0)), (1, .int p0), (2, .int p1), (3, .int p2)] [] 0
  refine g_iload_n C 1 dX10_share_0 rfl ?_
  obtain ⟨v1, h2, hf⟩ := opt_bind hf
  refine g_callS C (c_X10_checkSlot (l := x_l X) (D := x_D X) (cy := x_y X) (p0 := p0) h2) (As := [.int p0]) (rest := []) (wr := (wV (x_y X) v (b 0) kp ak bf fa fl ln co ch gs op) ++ (wSt (x_y X) b z pr le ec wt sa ev) ++ (wSec (x_y X) c c_filled c_th c_ep c_rule c_cm c_vs c_es)) (ws' := fun _ => (wV (x_y X) v (b 0) kp ak bf fa fl ln co ch gs op) ++ (wSt (x_y X) b z pr le ec wt sa ev) ++ (wSec (x_y X) c c_filled c_th c_ep c_rule c_cm c_vs c_es)) (st' := fun _ => []) 1 mw_2_189 mw_1_1 mw_2_187 mw_2_188 hd_X10_checkSlot rfl (g_rm hR rfl rfl) [] [0, 1, 2, 3, 4, 5, 6, 7, 8, 9, 10, 11, 12] [0, 1, 2, 3, 4, 5, 6, 7, 8, 9, 10, 11, 12] ⟨rfl, rfl, rfl, rfl, by decide, gRoIn_0, rfl, fun _ => rfl⟩ rfl (Nat.le_of_ble_eq_true rfl) dX10_share_1 (g_rc hR (Nat.le_of_ble_eq_true rfl) (Nat.le_of_ble_eq_true rfl)) (ck' := 1) (sk' := 6) rfl rfl (fun _ => rfl) (fun _ ev1 => ?_) (fun _ ev1 => ?_)
  rotate_left
  · have hf := opt_neg ev1 hf
    obtain rfl := Option.some.inj hf
    exact g_out E () rfl ev1 rfl (Nat.le_of_ble_eq_true rfl) (Nat.le_of_ble_eq_true rfl)
  have hf := opt_pos ev1 hf
  refine g_iload_n C 2 dX10_share_4 rfl ?_
  obtain ⟨v3, h4, hf⟩ := opt_bind hf
  refine g_callS C (c_X10_checkPlace (l := x_l X) (D := x_D X) (cy := x_y X) (p0 := p1) h4) (As := [.int p1]) (rest := []) (wr := (wV (x_y X) v (b 0) kp ak bf fa fl ln co ch gs op) ++ (wSt (x_y X) b z pr le ec wt sa ev) ++ (wSec (x_y X) c c_filled c_th c_ep c_rule c_cm c_vs c_es)) (ws' := fun _ => (wV (x_y X) v (b 0) kp ak bf fa fl ln co ch gs op) ++ (wSt (x_y X) b z pr le ec wt sa ev) ++ (wSec (x_y X) c c_filled c_th c_ep c_rule c_cm c_vs c_es)) (st' := fun _ => []) 1 mw_3_195 mw_1_1 mw_3_193 mw_3_194 hd_X10_checkPlace rfl (g_rm hR rfl rfl) [] [0, 1, 2, 3, 4, 5, 6, 7, 8, 9, 10, 11, 12] [0, 1, 2, 3, 4, 5, 6, 7, 8, 9, 10, 11, 12] ⟨rfl, rfl, rfl, rfl, by decide, gRoIn_0, rfl, fun _ => rfl⟩ rfl (Nat.le_of_ble_eq_true rfl) dX10_share_5 (g_rc hR (Nat.le_of_ble_eq_true rfl) (Nat.le_of_ble_eq_true rfl)) (ck' := 2) (sk' := 12) rfl rfl (fun _ => rfl) (fun _ ev3 => ?_) (fun _ ev3 => ?_)
  rotate_left
  · have hf := opt_neg ev3 hf
    obtain rfl := Option.some.inj hf
    exact g_out E () rfl ev3 rfl (Nat.le_of_ble_eq_true rfl) (Nat.le_of_ble_eq_true rfl)
  have hf := opt_pos ev3 hf
  refine g_iload_n C 3 dX10_share_8 rfl ?_
  refine g_iconst C (v := 2) dX10_share_9 (by decide) ?_
  obtain ⟨v5, h6, hf⟩ := opt_bind hf
  refine g_callS C (c_X10_checkWhat (l := x_l X) (D := x_D X) (cy := x_y X) (p0 := p2) (p1 := 2) h6) (As := [.int p2, .int 2]) (rest := []) (wr := (wV (x_y X) v (b 0) kp ak bf fa fl ln co ch gs op) ++ (wSt (x_y X) b z pr le ec wt sa ev) ++ (wSec (x_y X) c c_filled c_th c_ep c_rule c_cm c_vs c_es)) (ws' := fun _ => (wV (x_y X) v (b 0) kp ak bf fa fl ln co ch gs op) ++ (wSt (x_y X) b z pr le ec wt sa ev) ++ (wSec (x_y X) c c_filled c_th c_ep c_rule c_cm c_vs c_es)) (st' := fun _ => []) 2 mw_2_146 mw_1_1 mw_2_144 mw_2_145 hd_X10_checkWhat rfl (g_rm hR rfl rfl) [] [0, 1, 2, 3, 4, 5, 6, 7, 8, 9, 10, 11, 12] [0, 1, 2, 3, 4, 5, 6, 7, 8, 9, 10, 11, 12] ⟨rfl, rfl, rfl, rfl, by decide, gRoIn_0, rfl, fun _ => rfl⟩ rfl (Nat.le_of_ble_eq_true rfl) dX10_share_10 (g_rc hR (Nat.le_of_ble_eq_true rfl) (Nat.le_of_ble_eq_true rfl)) (ck' := 3) (sk' := 18) rfl rfl (fun _ => rfl) (fun _ ev5 => ?_) (fun _ ev5 => ?_)
  rotate_left
  · have hf := opt_neg ev5 hf
    obtain rfl := Option.some.inj hf
    exact g_out E () rfl ev5 rfl (Nat.le_of_ble_eq_true rfl) (Nat.le_of_ble_eq_true rfl)
  have hf := opt_pos ev5 hf
  refine g_aload_n C 0 dX10_share_13 rfl ?_
  refine g_iload_n C 1 dX10_share_14 rfl ?_
  refine g_iload_n C 2 dX10_share_15 rfl ?_
  obtain ⟨v7, h8, hf⟩ := opt_bind hf
  refine g_callV C (c_X10_secretWithShare (l := x_l X) (D := x_D X) (cy := x_y X) (v := v) (b := b) (c := c) (kp := kp) (ak := ak) (bf := bf) (fa := fa) (fl := fl) (ln := ln) (co := co) (ch := ch) (gs := gs) (op := op) (z := z) (pr := pr) (le := le) (ec := ec) (wt := wt) (sa := sa) (ev := ev) (c_filled := c_filled) (c_th := c_th) (c_ep := c_ep) (c_rule := c_rule) (c_cm := c_cm) (c_vs := c_vs) (c_es := c_es) (p0 := p0) (p1 := p1) (hs := hs) h8) (As := [.int p0, .int p1]) (rest := []) (wr := []) (ws' := fun _ => (wV (x_y X) v (b 0) kp ak bf fa fl ln co ch gs op) ++ (wSt (x_y X) b z pr le ec wt sa ev) ++ (wSec (x_y X) c c_filled c_th c_ep c_rule c_cm c_vs c_es)) (st' := fun _ => [.ref (c 0)]) (ci := 11) 2 0 ⟨_, rfl⟩ rfl rfl mw_3_200 mw_1_1 mw_3_197 mw_3_199 mp_10 hd_X10_secretWithShare rfl (g_rm hR rfl rfl) [0, 1, 2, 3, 4, 5, 6, 7, 8, 9, 10, 11, 12] [] [0, 1, 2, 3, 4, 5, 6, 7, 8, 9, 10, 11, 12] ⟨rfl, rfl, rfl, rfl, by decide, gRoIn_0, rfl, fun _ => rfl⟩ rfl (Nat.le_of_ble_eq_true rfl) dX10_share_16 (g_rc hR (Nat.le_of_ble_eq_true rfl) (Nat.le_of_ble_eq_true rfl)) (ck' := 5) (sk' := 30) rfl rfl (fun _ => rfl) (fun _ ev7 => ?_) (fun _ ev7 => ?_)
  rotate_left
  · have hf := opt_neg ev7 hf
    obtain rfl := Option.some.inj hf
    exact g_out E () rfl ev7 rfl (Nat.le_of_ble_eq_true rfl) (Nat.le_of_ble_eq_true rfl)
  have hf := opt_pos ev7 hf
  refine g_astore C (lv' := [(4, .ref (c 0)), (0, .ref (v 0)), (1, .int p0), (2, .int p1), (3, .int p2)]) dX10_share_19 (g_nlt hn rfl) rfl ?_
  refine g_iload_n C 4 dX10_share_21 rfl ?_
  refine g_if_ne C 33 dX10_share_22 (by decide) (fun c9 => ?_) (fun c9 => ?_)
  · have hf := opt_neg c9 hf
    refine g_iload_n C 4 dX10_share_33 rfl ?_
    refine g_iconst C (v := 1) dX10_share_34 (by decide) ?_
    refine g_icmp_ne C 48 dX10_share_35 (by decide) (fun c10 => ?_) (fun c10 => ?_)
    · have hf := opt_neg c10 hf
      refine g_aload C 0 dX10_share_48 rfl ?_
      refine g_iload_n C 3 dX10_share_50 rfl ?_
      obtain ⟨v11, h12, hf⟩ := opt_bind hf
      refine g_callV C (c_X7_stateOf (l := x_l X) (D := x_D X) (cy := x_y X) (a := c) (filled := c_filled) (th := c_th) (ep := c_ep) (rule := c_rule) (cm := c_cm) (vs := c_vs) (es := c_es) (p0 := p1) h12) (As := [.int p1]) (rest := []) (wr := (wV (x_y X) v (b 0) kp ak bf fa fl ln co ch gs op) ++ (wSt (x_y X) b z pr le ec wt sa ev)) (ws' := fun _ => (wV (x_y X) v (b 0) kp ak bf fa fl ln co ch gs op) ++ (wSt (x_y X) b z pr le ec wt sa ev) ++ (wSec (x_y X) c c_filled c_th c_ep c_rule c_cm c_vs c_es)) (st' := fun _ => [.int v11]) (ci := 8) 1 9 ⟨_, rfl⟩ rfl rfl mw_2_167 mw_1_3 mw_3_113 mw_2_165 mw_2_166 hd_X7_stateOf rfl (g_rm hR rfl rfl) [9, 10, 11, 12] [0, 1, 2, 3, 4, 5, 6, 7, 8] [0, 1, 2, 3, 4, 5, 6, 7, 8, 9, 10, 11, 12] ⟨rfl, rfl, rfl, rfl, by decide, gRoIn_0, rfl, fun _ => rfl⟩ rfl (Nat.le_of_ble_eq_true rfl) dX10_share_51 (g_rc hR (Nat.le_of_ble_eq_true rfl) (Nat.le_of_ble_eq_true rfl)) (ck' := 5) (sk' := 30) rfl rfl (fun _ => rfl) (fun _ _ => ?_) (fun _ hx => absurd rfl hx)
      refine gW.locals [1, 2, 3, 4] rfl ?_
      exact H54 v11 hf
    · have hf := opt_pos c10 hf
      refine g_aload C 0 dX10_share_38 rfl ?_
      refine g_get C 9 6 rfl rfl wiX7 (by decide) mw_1_73 rfl rfl dX10_share_40 ?_
      refine g_iload_n C 3 dX10_share_43 rfl ?_
      obtain ⟨c13, hf⟩ := gg_of hf
      refine g_iald C 12 rfl (gi_in c13) dX10_share_44 ?_
      refine g_goto C 54 dX10_share_45 (by decide) ?_
      refine gW.locals [1, 2, 3, 4] rfl ?_
      exact H54 (c_es (Int32.toNatClampNeg p1)) hf
  · have hf := opt_pos c9 hf
    refine g_aload C 0 dX10_share_25 rfl ?_
    refine g_get C 9 5 rfl rfl wiX7 (by decide) mw_1_71 rfl rfl dX10_share_27 ?_
    refine g_iload_n C 3 dX10_share_30 rfl ?_
    obtain ⟨c14, hf⟩ := gg_of hf
    refine g_iald C 11 rfl (gi_in c14) dX10_share_31 ?_
    obtain rfl := Option.some.inj hf
    exact g_iret C E () dX10_share_32 rfl rfl rfl (Nat.le_of_ble_eq_true rfl) (Nat.le_of_ble_eq_true rfl)
/-! X10_setShare -/
theorem hd_X10_setShare : yX10_setShare.cls ≠ "java/lang/invoke/MethodHandle" ∧ yX10_setShare.cls ≠ "java/lang/invoke/VarHandle" ∧ (parseMethodDescriptor yX10_setShare.desc).map (fun d => d.parameters.length) = some 3 := by decide +kernel
def F_X10_setShare (c_filled : Int32) (c_vs : Nat → Int32) (c_es : Nat → Int32) (p0 : Int32) (p1 : Int32) (p2 : Int32) : Option (Nat × Int32 × (Nat → Int32)) := (F_X10_checkSlot p0).bind fun v1 => if v1 = 0 then ((F_X10_checkPlace p1).bind fun v3 => if v3 = 0 then ((F_X10_checkValue p2).bind fun v5 => if v5 = 0 then ((F_X10_secretWithShare c_filled c_es p0 p1).bind fun v7 => if v7 = 0 then (gg (gi p1 25) (gl (c_vs (Int32.toNatClampNeg p1)) fun x10 => gg (gi p1 25) (gl (upd c_vs (Int32.toNatClampNeg p1) p2) fun f12 => some (0, x10, f12)))) else some (v7, 0, c_vs)) else some (v5, 0, c_vs)) else some (v3, 0, c_vs)) else some (v1, 0, c_vs)
set_option maxRecDepth 100000 in
set_option maxHeartbeats 4000000 in
theorem c_X10_setShare {l : Launch} {D : va_G} {cy : Nat → ClassId} {v : Nat → Nat} {b : Nat → Nat} {c : Nat → Nat} {kp : Nat} {ak : Int32} {bf : Nat} {fa : Int32} {fl : Nat} {ln : Nat} {co : Nat → Int32} {ch : Nat → Int32} {gs : Nat → Int32} {op : Nat → Int32} {z : Int32} {pr : Int32} {le : Int32} {ec : Int32} {wt : Nat → Int32} {sa : Nat → Option Nat} {ev : Nat → Int32} {c_filled : Int32} {c_th : Int32} {c_ep : Int32} {c_rule : Option Nat} {c_cm : Nat → Int32} {c_vs : Nat → Int32} {c_es : Nat → Int32} {p0 : Int32} {p1 : Int32} {p2 : Int32} (hs : gi p0 4 = true → sa (Int32.toNatClampNeg p0) = some (c 0)) {val : Nat × Int32 × (Nat → Int32)} (hf : F_X10_setShare c_filled c_vs c_es p0 p1 p2 = some val) : gCt l D cy yX10_setShare cX10_setShare 6 (some .int) 8 127 5 30 [.ref (v 0), .int p0, .int p1, .int p2] [] ((wV cy v (b 0) kp ak bf fa fl ln co ch gs op) ++ (wSt cy b z pr le ec wt sa ev) ++ (wSec cy c c_filled c_th c_ep c_rule c_cm c_vs c_es)) val.1 (fun _ : Unit => some (.int val.2.1)) (fun _ => (wV cy v (b 0) kp ak bf fa fl ln co ch gs op) ++ (wSt cy b z pr le ec wt sa ev) ++ (wSec cy c c_filled c_th c_ep c_rule c_cm val.2.2 c_es)) := by
  refine g_begin (by decide +kernel) (Nat.le_of_ble_eq_true rfl) ?_
  intro X Q hl hR hD hy hro hn C hin E
  subst hl; subst hD; subst hy
  replace C : gC X "SecretVault" cX10_setShare (some .int) := C
  unfold F_X10_setShare at hf
  show gW X Q 0 0 ((wV (x_y X) v (b 0) kp ak bf fa fl ln co ch gs op) ++ (wSt (x_y X) b z pr le ec wt sa ev) ++ (wSec (x_y X) c c_filled c_th c_ep c_rule c_cm c_vs c_es)) [(0, .ref (v 0)), (1, .int p0), (2, .int p1), (3, .int p2)] [] 0
  refine g_iload_n C 1 dX10_setShare_0 rfl ?_
  obtain ⟨v1, h2, hf⟩ := opt_bind hf
  refine g_callS C (c_X10_checkSlot (l := x_l X) (D := x_D X) (cy := x_y X) (p0 := p0) h2) (As := [.int p0]) (rest := []) (wr := (wV (x_y X) v (b 0) kp ak bf fa fl ln co ch gs op) ++ (wSt (x_y X) b z pr le ec wt sa ev) ++ (wSec (x_y X) c c_filled c_th c_ep c_rule c_cm c_vs c_es)) (ws' := fun _ => (wV (x_y X) v (b 0) kp ak bf fa fl ln co ch gs op) ++ (wSt (x_y X) b z pr le ec wt sa ev) ++ (wSec (x_y X) c c_filled c_th c_ep c_rule c_cm c_vs c_es)) (st' := fun _ => []) 1 mw_2_189 mw_1_1 mw_2_187 mw_2_188 hd_X10_checkSlot rfl (g_rm hR rfl rfl) [] [0, 1, 2, 3, 4, 5, 6, 7, 8, 9, 10, 11, 12] [0, 1, 2, 3, 4, 5, 6, 7, 8, 9, 10, 11, 12] ⟨rfl, rfl, rfl, rfl, by decide, gRoIn_0, rfl, fun _ => rfl⟩ rfl (Nat.le_of_ble_eq_true rfl) dX10_setShare_1 (g_rc hR (Nat.le_of_ble_eq_true rfl) (Nat.le_of_ble_eq_true rfl)) (ck' := 1) (sk' := 6) rfl rfl (fun _ => rfl) (fun _ ev1 => ?_) (fun _ ev1 => ?_)
  rotate_left
  · have hf := opt_neg ev1 hf
    obtain rfl := Option.some.inj hf
    exact g_out E () rfl ev1 rfl (Nat.le_of_ble_eq_true rfl) (Nat.le_of_ble_eq_true rfl)
  have hf := opt_pos ev1 hf
  refine g_iload_n C 2 dX10_setShare_4 rfl ?_
  obtain ⟨v3, h4, hf⟩ := opt_bind hf
  refine g_callS C (c_X10_checkPlace (l := x_l X) (D := x_D X) (cy := x_y X) (p0 := p1) h4) (As := [.int p1]) (rest := []) (wr := (wV (x_y X) v (b 0) kp ak bf fa fl ln co ch gs op) ++ (wSt (x_y X) b z pr le ec wt sa ev) ++ (wSec (x_y X) c c_filled c_th c_ep c_rule c_cm c_vs c_es)) (ws' := fun _ => (wV (x_y X) v (b 0) kp ak bf fa fl ln co ch gs op) ++ (wSt (x_y X) b z pr le ec wt sa ev) ++ (wSec (x_y X) c c_filled c_th c_ep c_rule c_cm c_vs c_es)) (st' := fun _ => []) 1 mw_3_195 mw_1_1 mw_3_193 mw_3_194 hd_X10_checkPlace rfl (g_rm hR rfl rfl) [] [0, 1, 2, 3, 4, 5, 6, 7, 8, 9, 10, 11, 12] [0, 1, 2, 3, 4, 5, 6, 7, 8, 9, 10, 11, 12] ⟨rfl, rfl, rfl, rfl, by decide, gRoIn_0, rfl, fun _ => rfl⟩ rfl (Nat.le_of_ble_eq_true rfl) dX10_setShare_5 (g_rc hR (Nat.le_of_ble_eq_true rfl) (Nat.le_of_ble_eq_true rfl)) (ck' := 2) (sk' := 12) rfl rfl (fun _ => rfl) (fun _ ev3 => ?_) (fun _ ev3 => ?_)
  rotate_left
  · have hf := opt_neg ev3 hf
    obtain rfl := Option.some.inj hf
    exact g_out E () rfl ev3 rfl (Nat.le_of_ble_eq_true rfl) (Nat.le_of_ble_eq_true rfl)
  have hf := opt_pos ev3 hf
  refine g_iload_n C 3 dX10_setShare_8 rfl ?_
  obtain ⟨v5, h6, hf⟩ := opt_bind hf
  refine g_callS C (c_X10_checkValue (l := x_l X) (D := x_D X) (cy := x_y X) (p0 := p2) h6) (As := [.int p2]) (rest := []) (wr := (wV (x_y X) v (b 0) kp ak bf fa fl ln co ch gs op) ++ (wSt (x_y X) b z pr le ec wt sa ev) ++ (wSec (x_y X) c c_filled c_th c_ep c_rule c_cm c_vs c_es)) (ws' := fun _ => (wV (x_y X) v (b 0) kp ak bf fa fl ln co ch gs op) ++ (wSt (x_y X) b z pr le ec wt sa ev) ++ (wSec (x_y X) c c_filled c_th c_ep c_rule c_cm c_vs c_es)) (st' := fun _ => []) 1 mw_2_193 mw_1_1 mw_2_191 mw_2_192 hd_X10_checkValue rfl (g_rm hR rfl rfl) [] [0, 1, 2, 3, 4, 5, 6, 7, 8, 9, 10, 11, 12] [0, 1, 2, 3, 4, 5, 6, 7, 8, 9, 10, 11, 12] ⟨rfl, rfl, rfl, rfl, by decide, gRoIn_0, rfl, fun _ => rfl⟩ rfl (Nat.le_of_ble_eq_true rfl) dX10_setShare_9 (g_rc hR (Nat.le_of_ble_eq_true rfl) (Nat.le_of_ble_eq_true rfl)) (ck' := 3) (sk' := 18) rfl rfl (fun _ => rfl) (fun _ ev5 => ?_) (fun _ ev5 => ?_)
  rotate_left
  · have hf := opt_neg ev5 hf
    obtain rfl := Option.some.inj hf
    exact g_out E () rfl ev5 rfl (Nat.le_of_ble_eq_true rfl) (Nat.le_of_ble_eq_true rfl)
  have hf := opt_pos ev5 hf
  refine g_aload_n C 0 dX10_setShare_12 rfl ?_
  refine g_iload_n C 1 dX10_setShare_13 rfl ?_
  refine g_iload_n C 2 dX10_setShare_14 rfl ?_
  obtain ⟨v7, h8, hf⟩ := opt_bind hf
  refine g_callV C (c_X10_secretWithShare (l := x_l X) (D := x_D X) (cy := x_y X) (v := v) (b := b) (c := c) (kp := kp) (ak := ak) (bf := bf) (fa := fa) (fl := fl) (ln := ln) (co := co) (ch := ch) (gs := gs) (op := op) (z := z) (pr := pr) (le := le) (ec := ec) (wt := wt) (sa := sa) (ev := ev) (c_filled := c_filled) (c_th := c_th) (c_ep := c_ep) (c_rule := c_rule) (c_cm := c_cm) (c_vs := c_vs) (c_es := c_es) (p0 := p0) (p1 := p1) (hs := hs) h8) (As := [.int p0, .int p1]) (rest := []) (wr := []) (ws' := fun _ => (wV (x_y X) v (b 0) kp ak bf fa fl ln co ch gs op) ++ (wSt (x_y X) b z pr le ec wt sa ev) ++ (wSec (x_y X) c c_filled c_th c_ep c_rule c_cm c_vs c_es)) (st' := fun _ => [.ref (c 0)]) (ci := 11) 2 0 ⟨_, rfl⟩ rfl rfl mw_3_200 mw_1_1 mw_3_197 mw_3_199 mp_10 hd_X10_secretWithShare rfl (g_rm hR rfl rfl) [0, 1, 2, 3, 4, 5, 6, 7, 8, 9, 10, 11, 12] [] [0, 1, 2, 3, 4, 5, 6, 7, 8, 9, 10, 11, 12] ⟨rfl, rfl, rfl, rfl, by decide, gRoIn_0, rfl, fun _ => rfl⟩ rfl (Nat.le_of_ble_eq_true rfl) dX10_setShare_15 (g_rc hR (Nat.le_of_ble_eq_true rfl) (Nat.le_of_ble_eq_true rfl)) (ck' := 5) (sk' := 30) rfl rfl (fun _ => rfl) (fun _ ev7 => ?_) (fun _ ev7 => ?_)
  rotate_left
  · have hf := opt_neg ev7 hf
    obtain rfl := Option.some.inj hf
    exact g_out E () rfl ev7 rfl (Nat.le_of_ble_eq_true rfl) (Nat.le_of_ble_eq_true rfl)
  have hf := opt_pos ev7 hf
  refine g_astore C (lv' := [(4, .ref (c 0)), (0, .ref (v 0)), (1, .int p0), (2, .int p1), (3, .int p2)]) dX10_setShare_18 (g_nlt hn rfl) rfl ?_
  refine g_aload C 0 dX10_setShare_20 rfl ?_
  refine g_get C 9 5 rfl rfl wiX7 (by decide) mw_1_71 rfl rfl dX10_setShare_22 ?_
  refine g_iload_n C 3 dX10_setShare_25 rfl ?_
  obtain ⟨c9, hf⟩ := gg_of hf
  refine g_iald C 11 rfl (gi_in c9) dX10_setShare_26 ?_
  obtain ⟨x10, ex10, hf⟩ := opt_let hf
  refine g_topi ex10 ?_
  refine g_istore C (lv' := [(5, .int x10), (4, .ref (c 0)), (0, .ref (v 0)), (1, .int p0), (2, .int p1), (3, .int p2)]) dX10_setShare_27 (g_nlt hn rfl) rfl ?_
  refine g_aload C 1 dX10_setShare_29 rfl ?_
  refine g_get C 9 5 rfl rfl wiX7 (by decide) mw_1_71 rfl rfl dX10_setShare_31 ?_
  refine g_iload_n C 4 dX10_setShare_34 rfl ?_
  refine g_iload_n C 5 dX10_setShare_35 rfl ?_
  obtain ⟨c11, hf⟩ := gg_of hf
  obtain ⟨f12, ef12, hf⟩ := opt_let hf
  refine g_iast C (ws' := (wV (x_y X) v (b 0) kp ak bf fa fl ln co ch gs op) ++ (wSt (x_y X) b z pr le ec wt sa ev) ++ (wSec (x_y X) c c_filled c_th c_ep c_rule c_cm f12 c_es)) 11 rfl (gi_in c11) (by rw [ef12]; rfl) dX10_setShare_36 ?_
  refine g_iload C 0 dX10_setShare_37 rfl ?_
  obtain rfl := Option.some.inj hf
  exact g_iret C E () dX10_setShare_39 rfl rfl rfl (Nat.le_of_ble_eq_true rfl) (Nat.le_of_ble_eq_true rfl)
/-! X10_bad -/
theorem hd_X10_bad : yX10_bad.cls ≠ "java/lang/invoke/MethodHandle" ∧ yX10_bad.cls ≠ "java/lang/invoke/VarHandle" ∧ (parseMethodDescriptor yX10_bad.desc).map (fun d => d.parameters.length) = some 2 := by decide +kernel
def F_X10_bad_L53  (K16 : Int32 → Int32 → Option (Nat × Int32)) (l4_53 : Int32) (l5_53 : Int32) : Option (Nat × Int32) := K16 l4_53 (l5_53 + 1)
def F_X10_bad_L16 (c_th : Int32) (c_ep : Int32) (c_cm : Nat → Int32) (c_vs : Nat → Int32) (c_es : Nat → Int32) (p1 : Int32)  : Nat → Int32 → Int32 → Option (Nat × Int32)
  | 0, _, _ => none
  | n + 1, l4_16, l5_16 => if 24 < l5_16 then (some (3, 0)) else ((F_X7_holds c_es l5_16).bind fun v6 => if v6 = 0 then (F_X10_bad_L53 (F_X10_bad_L16 c_th c_ep c_cm c_vs c_es p1 n) l4_16 l5_16) else ((F_X7_stateOf c_th c_ep c_cm c_vs c_es l5_16).bind fun v9 => if v9 = 0 then (F_X10_bad_L53 (F_X10_bad_L16 c_th c_ep c_cm c_vs c_es p1 n) l4_16 l5_16) else (if l4_16 = p1 then (some (0, l5_16)) else (F_X10_bad_L53 (F_X10_bad_L16 c_th c_ep c_cm c_vs c_es p1 n) (l4_16 + 1) l5_16))))
def F_X10_bad (c_filled : Int32) (c_th : Int32) (c_ep : Int32) (c_cm : Nat → Int32) (c_vs : Nat → Int32) (c_es : Nat → Int32) (p0 : Int32) (p1 : Int32) : Option (Nat × Int32) := (F_X10_checkSlot p0).bind fun v1 => if v1 = 0 then ((F_X10_secretIn c_filled p0).bind fun v3 => if v3 = 0 then (F_X10_bad_L16 c_th c_ep c_cm c_vs c_es p1 1000 0 1) else some (v3, 0)) else some (v1, 0)
set_option maxRecDepth 100000 in
set_option maxHeartbeats 4000000 in
theorem c_X10_bad {l : Launch} {D : va_G} {cy : Nat → ClassId} {v : Nat → Nat} {b : Nat → Nat} {c : Nat → Nat} {kp : Nat} {ak : Int32} {bf : Nat} {fa : Int32} {fl : Nat} {ln : Nat} {co : Nat → Int32} {ch : Nat → Int32} {gs : Nat → Int32} {op : Nat → Int32} {z : Int32} {pr : Int32} {le : Int32} {ec : Int32} {wt : Nat → Int32} {sa : Nat → Option Nat} {ev : Nat → Int32} {c_filled : Int32} {c_th : Int32} {c_ep : Int32} {c_rule : Option Nat} {c_cm : Nat → Int32} {c_vs : Nat → Int32} {c_es : Nat → Int32} {p0 : Int32} {p1 : Int32} (hs : gi p0 4 = true → sa (Int32.toNatClampNeg p0) = some (c 0)) {val : Nat × Int32} (hf : F_X10_bad c_filled c_th c_ep c_cm c_vs c_es p0 p1 = some val) : gCt l D cy yX10_bad cX10_bad 6 (some .int) 7 104 3 18 [.ref (v 0), .int p0, .int p1] [] ((wV cy v (b 0) kp ak bf fa fl ln co ch gs op) ++ (wSt cy b z pr le ec wt sa ev) ++ (wSec cy c c_filled c_th c_ep c_rule c_cm c_vs c_es)) val.1 (fun _ : Unit => some (.int val.2)) (fun _ => (wV cy v (b 0) kp ak bf fa fl ln co ch gs op) ++ (wSt cy b z pr le ec wt sa ev) ++ (wSec cy c c_filled c_th c_ep c_rule c_cm c_vs c_es)) := by
  refine g_begin (by decide +kernel) (Nat.le_of_ble_eq_true rfl) ?_
  intro X Q hl hR hD hy hro hn C hin E
  subst hl; subst hD; subst hy
  replace C : gC X "SecretVault" cX10_bad (some .int) := C
  unfold F_X10_bad at hf
  have H16 : ∀ (n16 : Nat), ∀ (l4_16 : Int32) (l5_16 : Int32), F_X10_bad_L16 c_th c_ep c_cm c_vs c_es p1 n16 l4_16 l5_16 = some val → gW X Q 2 12 ((wV (x_y X) v (b 0) kp ak bf fa fl ln co ch gs op) ++ (wSt (x_y X) b z pr le ec wt sa ev) ++ (wSec (x_y X) c c_filled c_th c_ep c_rule c_cm c_vs c_es)) [(0, .ref (v 0)), (1, .int p0), (2, .int p1), (3, .ref (c 0)), (4, .int l4_16), (5, .int l5_16)] [] 16 := by
    intro n16
    induction n16 with
    | zero => intros; rename_i hf; cases hf
    | succ n16 ih =>
      intro l4_16 l5_16 hf
      have H16 := ih
      rw [F_X10_bad_L16] at hf
      have H53 : ∀ (l4_53 : Int32) (l5_53 : Int32), F_X10_bad_L53 (F_X10_bad_L16 c_th c_ep c_cm c_vs c_es p1 n16) l4_53 l5_53 = some val → gW X Q 2 12 ((wV (x_y X) v (b 0) kp ak bf fa fl ln co ch gs op) ++ (wSt (x_y X) b z pr le ec wt sa ev) ++ (wSec (x_y X) c c_filled c_th c_ep c_rule c_cm c_vs c_es)) [(0, .ref (v 0)), (1, .int p0), (2, .int p1), (3, .ref (c 0)), (4, .int l4_53), (5, .int l5_53)] [] 53 := by
        intro l4_53 l5_53 hf
        unfold F_X10_bad_L53 at hf
        refine g_iinc C 5 (v := l5_53 + 1) (lv' := [(5, .int (l5_53 + 1)), (0, .ref (v 0)), (1, .int p0), (2, .int p1), (3, .ref (c 0)), (4, .int l4_53)]) dX10_bad_53 rfl rfl (g_nlt hn rfl) rfl ?_
        refine g_goto C 16 dX10_bad_56 (by decide) ?_
        refine gW.locals [1, 2, 3, 4, 5, 0] rfl ?_
        exact H16 l4_53 (l5_53 + 1) hf
      refine g_iload C 5 dX10_bad_16 rfl ?_
      refine g_bipush C (v := 24) dX10_bad_18 (by decide) ?_
      refine g_icmp_gt C 59 dX10_bad_20 (by decide) (fun c5 => ?_) (fun c5 => ?_)
      · have hf := opt_pos c5 hf
        obtain rfl := Option.some.inj hf
        exact g_throwN C E () (text := "no such place") gTh_3 ms_241 dX10_bad_59 dX10_bad_62 dX10_bad_63 dX10_bad_65 dX10_bad_68 (g_th hR rfl rfl) (g_rc hR (Nat.le_of_ble_eq_true rfl) (Nat.le_of_ble_eq_true rfl)) (Nat.succ_ne_zero 2) rfl rfl (Nat.le_of_ble_eq_true rfl) (Nat.le_of_ble_eq_true rfl)
      · have hf := opt_neg c5 hf
        refine g_aload_n C 3 dX10_bad_23 rfl ?_
        refine g_iload C 5 dX10_bad_24 rfl ?_
        obtain ⟨v6, h7, hf⟩ := opt_bind hf
        refine g_callV C (c_X7_holds (l := x_l X) (D := x_D X) (cy := x_y X) (a := c) (filled := c_filled) (th := c_th) (ep := c_ep) (rule := c_rule) (cm := c_cm) (vs := c_vs) (es := c_es) (p0 := l5_16) h7) (As := [.int l5_16]) (rest := []) (wr := (wV (x_y X) v (b 0) kp ak bf fa fl ln co ch gs op) ++ (wSt (x_y X) b z pr le ec wt sa ev)) (ws' := fun _ => (wV (x_y X) v (b 0) kp ak bf fa fl ln co ch gs op) ++ (wSt (x_y X) b z pr le ec wt sa ev) ++ (wSec (x_y X) c c_filled c_th c_ep c_rule c_cm c_vs c_es)) (st' := fun _ => [.int v6]) (ci := 8) 1 9 ⟨_, rfl⟩ rfl rfl mw_2_159 mw_1_3 mw_3_63 mw_2_157 mw_2_158 hd_X7_holds rfl (g_rm hR rfl rfl) [9, 10, 11, 12] [0, 1, 2, 3, 4, 5, 6, 7, 8] [0, 1, 2, 3, 4, 5, 6, 7, 8, 9, 10, 11, 12] ⟨rfl, rfl, rfl, rfl, by decide, gRoIn_0, rfl, fun _ => rfl⟩ rfl (Nat.le_of_ble_eq_true rfl) dX10_bad_26 (g_rc hR (Nat.le_of_ble_eq_true rfl) (Nat.le_of_ble_eq_true rfl)) (ck' := 2) (sk' := 12) rfl rfl (fun _ => rfl) (fun _ _ => ?_) (fun _ hx => absurd rfl hx)
        refine g_if_eq C 53 dX10_bad_29 (by decide) (fun c8 => ?_) (fun c8 => ?_)
        · have hf := opt_pos c8 hf
          exact H53 l4_16 l5_16 hf
        · have hf := opt_neg c8 hf
          refine g_aload_n C 3 dX10_bad_32 rfl ?_
          refine g_iload C 5 dX10_bad_33 rfl ?_
          obtain ⟨v9, h10, hf⟩ := opt_bind hf
          refine g_callV C (c_X7_stateOf (l := x_l X) (D := x_D X) (cy := x_y X) (a := c) (filled := c_filled) (th := c_th) (ep := c_ep) (rule := c_rule) (cm := c_cm) (vs := c_vs) (es := c_es) (p0 := l5_16) h10) (As := [.int l5_16]) (rest := []) (wr := (wV (x_y X) v (b 0) kp ak bf fa fl ln co ch gs op) ++ (wSt (x_y X) b z pr le ec wt sa ev)) (ws' := fun _ => (wV (x_y X) v (b 0) kp ak bf fa fl ln co ch gs op) ++ (wSt (x_y X) b z pr le ec wt sa ev) ++ (wSec (x_y X) c c_filled c_th c_ep c_rule c_cm c_vs c_es)) (st' := fun _ => [.int v9]) (ci := 8) 1 9 ⟨_, rfl⟩ rfl rfl mw_2_167 mw_1_3 mw_3_113 mw_2_165 mw_2_166 hd_X7_stateOf rfl (g_rm hR rfl rfl) [9, 10, 11, 12] [0, 1, 2, 3, 4, 5, 6, 7, 8] [0, 1, 2, 3, 4, 5, 6, 7, 8, 9, 10, 11, 12] ⟨rfl, rfl, rfl, rfl, by decide, gRoIn_0, rfl, fun _ => rfl⟩ rfl (Nat.le_of_ble_eq_true rfl) dX10_bad_35 (g_rc hR (Nat.le_of_ble_eq_true rfl) (Nat.le_of_ble_eq_true rfl)) (ck' := 2) (sk' := 12) rfl rfl (fun _ => rfl) (fun _ _ => ?_) (fun _ hx => absurd rfl hx)
          refine g_if_eq C 53 dX10_bad_38 (by decide) (fun c11 => ?_) (fun c11 => ?_)
          · have hf := opt_pos c11 hf
            exact H53 l4_16 l5_16 hf
          · have hf := opt_neg c11 hf
            refine g_iload C 4 dX10_bad_41 rfl ?_
            refine g_iload_n C 2 dX10_bad_43 rfl ?_
            refine g_icmp_ne C 50 dX10_bad_44 (by decide) (fun c12 => ?_) (fun c12 => ?_)
            · have hf := opt_neg c12 hf
              refine g_iinc C 4 (v := l4_16 + 1) (lv' := [(4, .int (l4_16 + 1)), (0, .ref (v 0)), (1, .int p0), (2, .int p1), (3, .ref (c 0)), (5, .int l5_16)]) dX10_bad_50 rfl rfl (g_nlt hn rfl) rfl ?_
              refine gW.locals [1, 2, 3, 4, 0, 5] rfl ?_
              exact H53 (l4_16 + 1) l5_16 hf
            · have hf := opt_pos c12 hf
              refine g_iload C 5 dX10_bad_47 rfl ?_
              obtain rfl := Option.some.inj hf
              exact g_iret C E () dX10_bad_49 rfl rfl rfl (Nat.le_of_ble_eq_true rfl) (Nat.le_of_ble_eq_true rfl)
  show gW X Q 0 0 ((wV (x_y X) v (b 0) kp ak bf fa fl ln co ch gs op) ++ (wSt (x_y X) b z pr le ec wt sa ev) ++ (wSec (x_y X) c c_filled c_th c_ep c_rule c_cm c_vs c_es)) [(0, .ref (v 0)), (1, .int p0), (2, .int p1)] [] 0
  refine g_iload_n C 1 dX10_bad_0 rfl ?_
  obtain ⟨v1, h2, hf⟩ := opt_bind hf
  refine g_callS C (c_X10_checkSlot (l := x_l X) (D := x_D X) (cy := x_y X) (p0 := p0) h2) (As := [.int p0]) (rest := []) (wr := (wV (x_y X) v (b 0) kp ak bf fa fl ln co ch gs op) ++ (wSt (x_y X) b z pr le ec wt sa ev) ++ (wSec (x_y X) c c_filled c_th c_ep c_rule c_cm c_vs c_es)) (ws' := fun _ => (wV (x_y X) v (b 0) kp ak bf fa fl ln co ch gs op) ++ (wSt (x_y X) b z pr le ec wt sa ev) ++ (wSec (x_y X) c c_filled c_th c_ep c_rule c_cm c_vs c_es)) (st' := fun _ => []) 1 mw_2_189 mw_1_1 mw_2_187 mw_2_188 hd_X10_checkSlot rfl (g_rm hR rfl rfl) [] [0, 1, 2, 3, 4, 5, 6, 7, 8, 9, 10, 11, 12] [0, 1, 2, 3, 4, 5, 6, 7, 8, 9, 10, 11, 12] ⟨rfl, rfl, rfl, rfl, by decide, gRoIn_0, rfl, fun _ => rfl⟩ rfl (Nat.le_of_ble_eq_true rfl) dX10_bad_1 (g_rc hR (Nat.le_of_ble_eq_true rfl) (Nat.le_of_ble_eq_true rfl)) (ck' := 1) (sk' := 6) rfl rfl (fun _ => rfl) (fun _ ev1 => ?_) (fun _ ev1 => ?_)
  rotate_left
  · have hf := opt_neg ev1 hf
    obtain rfl := Option.some.inj hf
    exact g_out E () rfl ev1 rfl (Nat.le_of_ble_eq_true rfl) (Nat.le_of_ble_eq_true rfl)
  have hf := opt_pos ev1 hf
  refine g_aload_n C 0 dX10_bad_4 rfl ?_
  refine g_iload_n C 1 dX10_bad_5 rfl ?_
  obtain ⟨v3, h4, hf⟩ := opt_bind hf
  refine g_callV C (c_X10_secretIn (l := x_l X) (D := x_D X) (cy := x_y X) (v := v) (b := b) (c := c) (kp := kp) (ak := ak) (bf := bf) (fa := fa) (fl := fl) (ln := ln) (co := co) (ch := ch) (gs := gs) (op := op) (z := z) (pr := pr) (le := le) (ec := ec) (wt := wt) (sa := sa) (ev := ev) (c_filled := c_filled) (c_th := c_th) (c_ep := c_ep) (c_rule := c_rule) (c_cm := c_cm) (c_vs := c_vs) (c_es := c_es) (p0 := p0) (hs := hs) h4) (As := [.int p0]) (rest := []) (wr := []) (ws' := fun _ => (wV (x_y X) v (b 0) kp ak bf fa fl ln co ch gs op) ++ (wSt (x_y X) b z pr le ec wt sa ev) ++ (wSec (x_y X) c c_filled c_th c_ep c_rule c_cm c_vs c_es)) (st' := fun _ => [.ref (c 0)]) (ci := 11) 1 0 ⟨_, rfl⟩ rfl rfl mw_3_34 mw_1_1 mw_3_31 mw_3_33 mp_5 hd_X10_secretIn rfl (g_rm hR rfl rfl) [0, 1, 2, 3, 4, 5, 6, 7, 8, 9, 10, 11, 12] [] [0, 1, 2, 3, 4, 5, 6, 7, 8, 9, 10, 11, 12] ⟨rfl, rfl, rfl, rfl, by decide, gRoIn_0, rfl, fun _ => rfl⟩ rfl (Nat.le_of_ble_eq_true rfl) dX10_bad_6 (g_rc hR (Nat.le_of_ble_eq_true rfl) (Nat.le_of_ble_eq_true rfl)) (ck' := 2) (sk' := 12) rfl rfl (fun _ => rfl) (fun _ ev3 => ?_) (fun _ ev3 => ?_)
  rotate_left
  · have hf := opt_neg ev3 hf
    obtain rfl := Option.some.inj hf
    exact g_out E () rfl ev3 rfl (Nat.le_of_ble_eq_true rfl) (Nat.le_of_ble_eq_true rfl)
  have hf := opt_pos ev3 hf
  refine g_astore_n C (lv' := [(3, .ref (c 0)), (0, .ref (v 0)), (1, .int p0), (2, .int p1)]) dX10_bad_9 (g_nlt hn rfl) rfl ?_
  refine g_iconst C (v := 0) dX10_bad_10 (by decide) ?_
  refine g_istore C (lv' := [(4, .int 0), (3, .ref (c 0)), (0, .ref (v 0)), (1, .int p0), (2, .int p1)]) dX10_bad_11 (g_nlt hn rfl) rfl ?_
  refine g_iconst C (v := 1) dX10_bad_13 (by decide) ?_
  refine g_istore C (lv' := [(5, .int 1), (4, .int 0), (3, .ref (c 0)), (0, .ref (v 0)), (1, .int p0), (2, .int p1)]) dX10_bad_14 (g_nlt hn rfl) rfl ?_
  refine gW.locals [3, 4, 5, 2, 1, 0] rfl ?_
  exact H16 1000 0 1 hf
/-! X10_reportBadShares -/
theorem hd_X10_reportBadShares : yX10_reportBadShares.cls ≠ "java/lang/invoke/MethodHandle" ∧ yX10_reportBadShares.cls ≠ "java/lang/invoke/VarHandle" ∧ (parseMethodDescriptor yX10_reportBadShares.desc).map (fun d => d.parameters.length) = some 2 := by decide +kernel
def F_X10_reportBadShares_L58  (K2 : Int32 → (Nat → Int32) → (Nat → Int32) → Int32 → Option (Int32 × (Nat → Int32) × (Nat → Int32))) (rs_58 : Int32) (rc_58 : Nat → Int32) (rd_58 : Nat → Int32) (l3_58 : Int32) : Option (Int32 × (Nat → Int32) × (Nat → Int32)) := K2 rs_58 rc_58 rd_58 (l3_58 + 1)
def F_X10_reportBadShares_L54  (K2 : Int32 → (Nat → Int32) → (Nat → Int32) → Int32 → Option (Int32 × (Nat → Int32) × (Nat → Int32))) (rs_54 : Int32) (rc_54 : Nat → Int32) (rd_54 : Nat → Int32) (l3_54 : Int32) (s0_54 : Int32) : Option (Int32 × (Nat → Int32) × (Nat → Int32)) := (F_X6_add rs_54 rc_54 rd_54 s0_54 l3_54).bind fun v14 => F_X10_reportBadShares_L58 K2 v14.1 v14.2.1 v14.2.2 l3_54
def F_X10_reportBadShares_L2 (c_th : Int32) (c_ep : Int32) (c_cm : Nat → Int32) (c_vs : Nat → Int32) (c_es : Nat → Int32) (p1 : Int32)  : Nat → Int32 → (Nat → Int32) → (Nat → Int32) → Int32 → Option (Int32 × (Nat → Int32) × (Nat → Int32))
  | 0, _, _, _, _ => none
  | n + 1, rs_2, rc_2, rd_2, l3_2 => if 24 < l3_2 then (some (rs_2, rc_2, rd_2)) else ((F_X10_ownerOf l3_2).bind fun v2 => (F_X10_contains p1 v2).bind fun v4 => if v4 = 0 then (F_X10_reportBadShares_L58 (F_X10_reportBadShares_L2 c_th c_ep c_cm c_vs c_es p1 n) rs_2 rc_2 rd_2 l3_2) else ((F_X7_holds c_es l3_2).bind fun v7 => if v7 = 0 then (F_X10_reportBadShares_L58 (F_X10_reportBadShares_L2 c_th c_ep c_cm c_vs c_es p1 n) rs_2 rc_2 rd_2 l3_2) else ((F_X7_stateOf c_th c_ep c_cm c_vs c_es l3_2).bind fun v10 => if v10 = 0 then (F_X10_reportBadShares_L58 (F_X10_reportBadShares_L2 c_th c_ep c_cm c_vs c_es p1 n) rs_2 rc_2 rd_2 l3_2) else (if v10 = 1 then (F_X10_reportBadShares_L54 (F_X10_reportBadShares_L2 c_th c_ep c_cm c_vs c_es p1 n) rs_2 rc_2 rd_2 l3_2 4) else (F_X10_reportBadShares_L54 (F_X10_reportBadShares_L2 c_th c_ep c_cm c_vs c_es p1 n) rs_2 rc_2 rd_2 l3_2 5)))))
def F_X10_reportBadShares (rs : Int32) (rc : Nat → Int32) (rd : Nat → Int32) (c_th : Int32) (c_ep : Int32) (c_cm : Nat → Int32) (c_vs : Nat → Int32) (c_es : Nat → Int32) (p1 : Int32) : Option (Int32 × (Nat → Int32) × (Nat → Int32)) := F_X10_reportBadShares_L2 c_th c_ep c_cm c_vs c_es p1 1000 rs rc rd 1
set_option maxRecDepth 100000 in
set_option maxHeartbeats 4000000 in
theorem c_X10_reportBadShares {l : Launch} {D : va_G} {cy : Nat → ClassId} {v : Nat → Nat} {r : Nat → Nat} {c : Nat → Nat} {nw : Nat} {kp : Nat} {ak : Int32} {bf : Nat} {fa : Int32} {ln : Nat} {co : Nat → Int32} {ch : Nat → Int32} {gs : Nat → Int32} {op : Nat → Int32} {rs : Int32} {rc : Nat → Int32} {rd : Nat → Int32} {c_filled : Int32} {c_th : Int32} {c_ep : Int32} {c_rule : Option Nat} {c_cm : Nat → Int32} {c_vs : Nat → Int32} {c_es : Nat → Int32} {p1 : Int32}  {val : Int32 × (Nat → Int32) × (Nat → Int32)} (hf : F_X10_reportBadShares rs rc rd c_th c_ep c_cm c_vs c_es p1 = some val) : gCt l D cy yX10_reportBadShares cX10_reportBadShares 5 none 3 68 0 0 [.ref (v 0), .ref (c 0), .int p1] [] ((wV cy v nw kp ak bf fa (r 0) ln co ch gs op) ++ (wRep cy r rs rc rd) ++ (wSec cy c c_filled c_th c_ep c_rule c_cm c_vs c_es)) 0 (fun _ : Unit => none) (fun _ => (wV cy v nw kp ak bf fa (r 0) ln co ch gs op) ++ (wRep cy r val.1 val.2.1 val.2.2) ++ (wSec cy c c_filled c_th c_ep c_rule c_cm c_vs c_es)) := by
  refine g_begin (by decide +kernel) (Nat.le_of_ble_eq_true rfl) ?_
  intro X Q hl hR hD hy hro hn C hin E
  subst hl; subst hD; subst hy
  replace C : gC X "SecretVault" cX10_reportBadShares none := C
  unfold F_X10_reportBadShares at hf
  have H2 : ∀ (n2 : Nat), ∀ (rs_2 : Int32) (rc_2 : Nat → Int32) (rd_2 : Nat → Int32) (l3_2 : Int32), F_X10_reportBadShares_L2 c_th c_ep c_cm c_vs c_es p1 n2 rs_2 rc_2 rd_2 l3_2 = some val → gW X Q 0 0 ((wV (x_y X) v nw kp ak bf fa (r 0) ln co ch gs op) ++ (wRep (x_y X) r rs_2 rc_2 rd_2) ++ (wSec (x_y X) c c_filled c_th c_ep c_rule c_cm c_vs c_es)) [(0, .ref (v 0)), (1, .ref (c 0)), (2, .int p1), (3, .int l3_2)] [] 2 := by
    intro n2
    induction n2 with
    | zero => intros; rename_i hf; cases hf
    | succ n2 ih =>
      intro rs_2 rc_2 rd_2 l3_2 hf
      have H2 := ih
      rw [F_X10_reportBadShares_L2] at hf
      have H58 : ∀ (rs_58 : Int32) (rc_58 : Nat → Int32) (rd_58 : Nat → Int32) (l3_58 : Int32), F_X10_reportBadShares_L58 (F_X10_reportBadShares_L2 c_th c_ep c_cm c_vs c_es p1 n2) rs_58 rc_58 rd_58 l3_58 = some val → gW X Q 0 0 ((wV (x_y X) v nw kp ak bf fa (r 0) ln co ch gs op) ++ (wRep (x_y X) r rs_58 rc_58 rd_58) ++ (wSec (x_y X) c c_filled c_th c_ep c_rule c_cm c_vs c_es)) [(0, .ref (v 0)), (1, .ref (c 0)), (2, .int p1), (3, .int l3_58)] [] 58 := by
        intro rs_58 rc_58 rd_58 l3_58 hf
        unfold F_X10_reportBadShares_L58 at hf
        refine g_iinc C 3 (v := l3_58 + 1) (lv' := [(3, .int (l3_58 + 1)), (0, .ref (v 0)), (1, .ref (c 0)), (2, .int p1)]) dX10_reportBadShares_58 rfl rfl (g_nlt hn rfl) rfl ?_
        refine g_goto C 2 dX10_reportBadShares_61 (by decide) ?_
        refine gW.locals [1, 2, 3, 0] rfl ?_
        exact H2 rs_58 rc_58 rd_58 (l3_58 + 1) hf
      have H54 : ∀ (rs_54 : Int32) (rc_54 : Nat → Int32) (rd_54 : Nat → Int32) (l3_54 : Int32) (s0_54 : Int32), F_X10_reportBadShares_L54 (F_X10_reportBadShares_L2 c_th c_ep c_cm c_vs c_es p1 n2) rs_54 rc_54 rd_54 l3_54 s0_54 = some val → gW X Q 0 0 ((wV (x_y X) v nw kp ak bf fa (r 0) ln co ch gs op) ++ (wRep (x_y X) r rs_54 rc_54 rd_54) ++ (wSec (x_y X) c c_filled c_th c_ep c_rule c_cm c_vs c_es)) [(0, .ref (v 0)), (1, .ref (c 0)), (2, .int p1), (3, .int l3_54)] [.int s0_54, .ref (r 0)] 54 := by
        intro rs_54 rc_54 rd_54 l3_54 s0_54 hf
        unfold F_X10_reportBadShares_L54 at hf
        refine g_iload_n C 3 dX10_reportBadShares_54 rfl ?_
        obtain ⟨v14, h15, hf⟩ := opt_bind hf
        refine g_callV C (c_X6_add (l := x_l X) (D := x_D X) (cy := x_y X) (a := r) (rs := rs_54) (rc := rc_54) (rd := rd_54) (p0 := s0_54) (p1 := l3_54) h15) (As := [.int s0_54, .int l3_54]) (rest := []) (wr := (wV (x_y X) v nw kp ak bf fa (r 0) ln co ch gs op) ++ (wSec (x_y X) c c_filled c_th c_ep c_rule c_cm c_vs c_es)) (ws' := fun _ => (wV (x_y X) v nw kp ak bf fa (r 0) ln co ch gs op) ++ (wRep (x_y X) r v14.1 v14.2.1 v14.2.2) ++ (wSec (x_y X) c c_filled c_th c_ep c_rule c_cm c_vs c_es)) (st' := fun _ => []) (ci := 7) 2 5 ⟨_, rfl⟩ rfl rfl mw_3_91 mw_1_8 mw_3_92 mw_3_89 mw_3_90 hd_X6_add rfl (g_rm hR rfl rfl) [5, 6, 7] [0, 1, 2, 3, 4, 8, 9, 10, 11] [0, 1, 2, 3, 4, 9, 10, 11, 5, 6, 7, 8] ⟨rfl, rfl, rfl, rfl, by decide, gRoIn_0, rfl, fun _ => rfl⟩ rfl (Nat.le_of_ble_eq_true rfl) dX10_reportBadShares_55 (g_rc hR (Nat.le_of_ble_eq_true rfl) (Nat.le_of_ble_eq_true rfl)) (ck' := 0) (sk' := 0) rfl rfl (fun _ => rfl) (fun _ _ => ?_) (fun _ hx => absurd rfl hx)
        exact H58 v14.1 v14.2.1 v14.2.2 l3_54 hf
      refine g_iload_n C 3 dX10_reportBadShares_2 rfl ?_
      refine g_bipush C (v := 24) dX10_reportBadShares_3 (by decide) ?_
      refine g_icmp_gt C 64 dX10_reportBadShares_5 (by decide) (fun c1 => ?_) (fun c1 => ?_)
      · have hf := opt_pos c1 hf
        obtain rfl := Option.some.inj hf
        exact g_vret C E () dX10_reportBadShares_64 rfl rfl rfl (Nat.le_of_ble_eq_true rfl) (Nat.le_of_ble_eq_true rfl)
      · have hf := opt_neg c1 hf
        refine g_iload_n C 2 dX10_reportBadShares_8 rfl ?_
        refine g_iload_n C 3 dX10_reportBadShares_9 rfl ?_
        obtain ⟨v2, h3, hf⟩ := opt_bind hf
        refine g_callS C (c_X10_ownerOf (l := x_l X) (D := x_D X) (cy := x_y X) (p0 := l3_2) h3) (As := [.int l3_2]) (rest := [.int p1]) (wr := (wV (x_y X) v nw kp ak bf fa (r 0) ln co ch gs op) ++ (wRep (x_y X) r rs_2 rc_2 rd_2) ++ (wSec (x_y X) c c_filled c_th c_ep c_rule c_cm c_vs c_es)) (ws' := fun _ => (wV (x_y X) v nw kp ak bf fa (r 0) ln co ch gs op) ++ (wRep (x_y X) r rs_2 rc_2 rd_2) ++ (wSec (x_y X) c c_filled c_th c_ep c_rule c_cm c_vs c_es)) (st' := fun _ => [.int v2, .int p1]) 1 mw_2_154 mw_1_1 mw_3_62 mw_2_153 hd_X10_ownerOf rfl (g_rm hR rfl rfl) [] [0, 1, 2, 3, 4, 5, 6, 7, 8, 9, 10, 11] [0, 1, 2, 3, 4, 5, 6, 7, 8, 9, 10, 11] ⟨rfl, rfl, rfl, rfl, by decide, gRoIn_0, rfl, fun _ => rfl⟩ rfl (Nat.le_of_ble_eq_true rfl) dX10_reportBadShares_10 (g_rc hR (Nat.le_of_ble_eq_true rfl) (Nat.le_of_ble_eq_true rfl)) (ck' := 0) (sk' := 0) rfl rfl (fun _ => rfl) (fun _ _ => ?_) (fun _ hx => absurd rfl hx)
        obtain ⟨v4, h5, hf⟩ := opt_bind hf
        refine g_callS C (c_X10_contains (l := x_l X) (D := x_D X) (cy := x_y X) (p0 := p1) (p1 := v2) h5) (As := [.int p1, .int v2]) (rest := []) (wr := (wV (x_y X) v nw kp ak bf fa (r 0) ln co ch gs op) ++ (wRep (x_y X) r rs_2 rc_2 rd_2) ++ (wSec (x_y X) c c_filled c_th c_ep c_rule c_cm c_vs c_es)) (ws' := fun _ => (wV (x_y X) v nw kp ak bf fa (r 0) ln co ch gs op) ++ (wRep (x_y X) r rs_2 rc_2 rd_2) ++ (wSec (x_y X) c c_filled c_th c_ep c_rule c_cm c_vs c_es)) (st' := fun _ => [.int v4]) 2 mw_2_136 mw_1_1 mw_2_134 mw_2_135 hd_X10_contains rfl (g_rm hR rfl rfl) [] [0, 1, 2, 3, 4, 5, 6, 7, 8, 9, 10, 11] [0, 1, 2, 3, 4, 5, 6, 7, 8, 9, 10, 11] ⟨rfl, rfl, rfl, rfl, by decide, gRoIn_0, rfl, fun _ => rfl⟩ rfl (Nat.le_of_ble_eq_true rfl) dX10_reportBadShares_13 (g_rc hR (Nat.le_of_ble_eq_true rfl) (Nat.le_of_ble_eq_true rfl)) (ck' := 0) (sk' := 0) rfl rfl (fun _ => rfl) (fun _ _ => ?_) (fun _ hx => absurd rfl hx)
        refine g_if_eq C 58 dX10_reportBadShares_16 (by decide) (fun c6 => ?_) (fun c6 => ?_)
        · have hf := opt_pos c6 hf
          exact H58 rs_2 rc_2 rd_2 l3_2 hf
        · have hf := opt_neg c6 hf
          refine g_aload_n C 1 dX10_reportBadShares_19 rfl ?_
          refine g_iload_n C 3 dX10_reportBadShares_20 rfl ?_
          obtain ⟨v7, h8, hf⟩ := opt_bind hf
          refine g_callV C (c_X7_holds (l := x_l X) (D := x_D X) (cy := x_y X) (a := c) (filled := c_filled) (th := c_th) (ep := c_ep) (rule := c_rule) (cm := c_cm) (vs := c_vs) (es := c_es) (p0 := l3_2) h8) (As := [.int l3_2]) (rest := []) (wr := (wV (x_y X) v nw kp ak bf fa (r 0) ln co ch gs op) ++ (wRep (x_y X) r rs_2 rc_2 rd_2)) (ws' := fun _ => (wV (x_y X) v nw kp ak bf fa (r 0) ln co ch gs op) ++ (wRep (x_y X) r rs_2 rc_2 rd_2) ++ (wSec (x_y X) c c_filled c_th c_ep c_rule c_cm c_vs c_es)) (st' := fun _ => [.int v7]) (ci := 8) 1 8 ⟨_, rfl⟩ rfl rfl mw_2_159 mw_1_3 mw_3_63 mw_2_157 mw_2_158 hd_X7_holds rfl (g_rm hR rfl rfl) [8, 9, 10, 11] [0, 1, 2, 3, 4, 5, 6, 7] [0, 1, 2, 3, 4, 5, 6, 7, 8, 9, 10, 11] ⟨rfl, rfl, rfl, rfl, by decide, gRoIn_0, rfl, fun _ => rfl⟩ rfl (Nat.le_of_ble_eq_true rfl) dX10_reportBadShares_21 (g_rc hR (Nat.le_of_ble_eq_true rfl) (Nat.le_of_ble_eq_true rfl)) (ck' := 0) (sk' := 0) rfl rfl (fun _ => rfl) (fun _ _ => ?_) (fun _ hx => absurd rfl hx)
          refine g_if_eq C 58 dX10_reportBadShares_24 (by decide) (fun c9 => ?_) (fun c9 => ?_)
          · have hf := opt_pos c9 hf
            exact H58 rs_2 rc_2 rd_2 l3_2 hf
          · have hf := opt_neg c9 hf
            refine g_aload_n C 1 dX10_reportBadShares_27 rfl ?_
            refine g_iload_n C 3 dX10_reportBadShares_28 rfl ?_
            obtain ⟨v10, h11, hf⟩ := opt_bind hf
            refine g_callV C (c_X7_stateOf (l := x_l X) (D := x_D X) (cy := x_y X) (a := c) (filled := c_filled) (th := c_th) (ep := c_ep) (rule := c_rule) (cm := c_cm) (vs := c_vs) (es := c_es) (p0 := l3_2) h11) (As := [.int l3_2]) (rest := []) (wr := (wV (x_y X) v nw kp ak bf fa (r 0) ln co ch gs op) ++ (wRep (x_y X) r rs_2 rc_2 rd_2)) (ws' := fun _ => (wV (x_y X) v nw kp ak bf fa (r 0) ln co ch gs op) ++ (wRep (x_y X) r rs_2 rc_2 rd_2) ++ (wSec (x_y X) c c_filled c_th c_ep c_rule c_cm c_vs c_es)) (st' := fun _ => [.int v10]) (ci := 8) 1 8 ⟨_, rfl⟩ rfl rfl mw_2_167 mw_1_3 mw_3_113 mw_2_165 mw_2_166 hd_X7_stateOf rfl (g_rm hR rfl rfl) [8, 9, 10, 11] [0, 1, 2, 3, 4, 5, 6, 7] [0, 1, 2, 3, 4, 5, 6, 7, 8, 9, 10, 11] ⟨rfl, rfl, rfl, rfl, by decide, gRoIn_0, rfl, fun _ => rfl⟩ rfl (Nat.le_of_ble_eq_true rfl) dX10_reportBadShares_29 (g_rc hR (Nat.le_of_ble_eq_true rfl) (Nat.le_of_ble_eq_true rfl)) (ck' := 0) (sk' := 0) rfl rfl (fun _ => rfl) (fun _ _ => ?_) (fun _ hx => absurd rfl hx)
            refine g_istore C (lv' := [(4, .int v10), (0, .ref (v 0)), (1, .ref (c 0)), (2, .int p1), (3, .int l3_2)]) dX10_reportBadShares_32 (g_nlt hn rfl) rfl ?_
            refine g_iload C 0 dX10_reportBadShares_34 rfl ?_
            refine g_if_eq C 58 dX10_reportBadShares_36 (by decide) (fun c12 => ?_) (fun c12 => ?_)
            · have hf := opt_pos c12 hf
              refine gW.locals [1, 2, 3, 4] rfl ?_
              exact H58 rs_2 rc_2 rd_2 l3_2 hf
            · have hf := opt_neg c12 hf
              refine g_aload_n C 1 dX10_reportBadShares_39 rfl ?_
              refine g_get C 0 5 rfl rfl wiX10 (by decide) mw_1_176 rfl rfl dX10_reportBadShares_40 ?_
              refine g_iload C 0 dX10_reportBadShares_43 rfl ?_
              refine g_iconst C (v := 1) dX10_reportBadShares_45 (by decide) ?_
              refine g_icmp_ne C 53 dX10_reportBadShares_46 (by decide) (fun c13 => ?_) (fun c13 => ?_)
              · have hf := opt_neg c13 hf
                refine g_iconst C (v := 5) dX10_reportBadShares_53 (by decide) ?_
                refine gW.locals [1, 2, 3, 4] rfl ?_
                exact H54 rs_2 rc_2 rd_2 l3_2 5 hf
              · have hf := opt_pos c13 hf
                refine g_iconst C (v := 4) dX10_reportBadShares_49 (by decide) ?_
                refine g_goto C 54 dX10_reportBadShares_50 (by decide) ?_
                refine gW.locals [1, 2, 3, 4] rfl ?_
                exact H54 rs_2 rc_2 rd_2 l3_2 4 hf
  show gW X Q 0 0 ((wV (x_y X) v nw kp ak bf fa (r 0) ln co ch gs op) ++ (wRep (x_y X) r rs rc rd) ++ (wSec (x_y X) c c_filled c_th c_ep c_rule c_cm c_vs c_es)) [(0, .ref (v 0)), (1, .ref (c 0)), (2, .int p1)] [] 0
  refine g_iconst C (v := 1) dX10_reportBadShares_0 (by decide) ?_
  refine g_istore_n C (lv' := [(3, .int 1), (0, .ref (v 0)), (1, .ref (c 0)), (2, .int p1)]) dX10_reportBadShares_1 (g_nlt hn rfl) rfl ?_
  refine gW.locals [1, 2, 3, 0] rfl ?_
  exact H2 1000 rs rc rd 1 hf
/-! X10_chooseForOpening -/
theorem hd_X10_chooseForOpening : yX10_chooseForOpening.cls ≠ "java/lang/invoke/MethodHandle" ∧ yX10_chooseForOpening.cls ≠ "java/lang/invoke/VarHandle" ∧ (parseMethodDescriptor yX10_chooseForOpening.desc).map (fun d => d.parameters.length) = some 3 := by decide +kernel
def F_X10_chooseForOpening (ch : Nat → Int32) (pr : Int32) (c_th : Int32) (c_ep : Int32) (c_rule : Option Nat) (c_cm : Nat → Int32) (c_vs : Nat → Int32) (c_es : Nat → Int32) (rs : Int32) (rc : Nat → Int32) (rd : Nat → Int32) (ful : Nat → Int32) (p0 : Int32) (p2 : Int32) : Option (Nat × (Nat → Int32) × Int32 × (Nat → Int32) × (Nat → Int32)) := (F_X7_allows c_rule ful (p2 &&& pr)).bind fun v1 => if v1 = 0 then ((F_X6_begin rs rc rd p0).bind fun v13 => (F_X6_add v13.1 v13.2.1 v13.2.2 2 (p2 &&& pr)).bind fun v15 => some (4, ch, v15.1, v15.2.1, v15.2.2)) else ((F_X10_choose ch c_th c_ep c_cm c_vs c_es (p2 &&& pr) 1).bind fun v4 => if c_th ≤ v4.1 then (some (0, v4.2, rs, rc, rd)) else ((F_X6_begin rs rc rd p0).bind fun v7 => (F_X6_add v7.1 v7.2.1 v7.2.2 3 (c_th - v4.1)).bind fun v9 => (F_X10_reportBadShares v9.1 v9.2.1 v9.2.2 c_th c_ep c_cm c_vs c_es (p2 &&& pr)).bind fun v11 => some (4, v4.2, v11.1, v11.2.1, v11.2.2)))
set_option maxRecDepth 100000 in
set_option maxHeartbeats 4000000 in
theorem c_X10_chooseForOpening {l : Launch} {D : va_G} {cy : Nat → ClassId} {v : Nat → Nat} {b : Nat → Nat} {c : Nat → Nat} {r : Nat → Nat} {q0 q1 t0 t1 : Nat} {kp : Nat} {ak : Int32} {bf : Nat} {fa : Int32} {ln : Nat} {co : Nat → Int32} {ch : Nat → Int32} {gs : Nat → Int32} {op : Nat → Int32} {z : Int32} {pr : Int32} {le : Int32} {ec : Int32} {wt : Nat → Int32} {sa : Nat → Option Nat} {ev : Nat → Int32} {c_filled : Int32} {c_th : Int32} {c_ep : Int32} {c_rule : Option Nat} {c_cm : Nat → Int32} {c_vs : Nat → Int32} {c_es : Nat → Int32} {rs : Int32} {rc : Nat → Int32} {rd : Nat → Int32} {pparts : Int32} {pnest : Int32} {pnamed : Int32} {ful : Nat → Int32} {hash : Int32} {hz : Int32} {tn : Nat} {tb : Nat → Int32} {p0 : Int32} {p2 : Int32} (hpol : ¬ c_rule = none → c_rule = some q0) {val : Nat × (Nat → Int32) × Int32 × (Nat → Int32) × (Nat → Int32)} (hf : F_X10_chooseForOpening ch pr c_th c_ep c_rule c_cm c_vs c_es rs rc rd ful p0 p2 = some val) : gCt l D cy yX10_chooseForOpening cX10_chooseForOpening 6 none 6 93 1 6 [.ref (v 0), .int p0, .ref (c 0), .int p2] (gOpt c_rule ((wPo cy q0 q1 t0 t1 pparts pnest pnamed ful hash hz tn tb))) ((wV cy v (b 0) kp ak bf fa (r 0) ln co ch gs op) ++ (wSt cy b z pr le ec wt sa ev) ++ (wSec cy c c_filled c_th c_ep c_rule c_cm c_vs c_es) ++ (wRep cy r rs rc rd)) val.1 (fun _ : Unit => none) (fun _ => (wV cy v (b 0) kp ak bf fa (r 0) ln co val.2.1 gs op) ++ (wSt cy b z pr le ec wt sa ev) ++ (wSec cy c c_filled c_th c_ep c_rule c_cm c_vs c_es) ++ (wRep cy r val.2.2.1 val.2.2.2.1 val.2.2.2.2)) := by
  refine g_begin (by decide +kernel) (Nat.le_of_ble_eq_true rfl) ?_
  intro X Q hl hR hD hy hro hn C hin E
  subst hl; subst hD; subst hy
  replace C : gC X "SecretVault" cX10_chooseForOpening none := C
  unfold F_X10_chooseForOpening at hf
  show gW X Q 0 0 ((wV (x_y X) v (b 0) kp ak bf fa (r 0) ln co ch gs op) ++ (wSt (x_y X) b z pr le ec wt sa ev) ++ (wSec (x_y X) c c_filled c_th c_ep c_rule c_cm c_vs c_es) ++ (wRep (x_y X) r rs rc rd)) [(0, .ref (v 0)), (1, .int p0), (2, .ref (c 0)), (3, .int p2)] [] 0
  refine g_iload_n C 3 dX10_chooseForOpening_0 rfl ?_
  refine g_aload_n C 0 dX10_chooseForOpening_1 rfl ?_
  refine g_get C 0 0 rfl rfl wiX10 (by decide) mw_1_171 rfl rfl dX10_chooseForOpening_2 ?_
  refine g_get C 5 2 rfl rfl wiX9 (by decide) mw_1_95 rfl rfl dX10_chooseForOpening_5 ?_
  refine g_iand C dX10_chooseForOpening_8 ?_
  refine g_istore C (lv' := [(4, .int (p2 &&& pr)), (0, .ref (v 0)), (1, .int p0), (2, .ref (c 0)), (3, .int p2)]) dX10_chooseForOpening_9 (g_nlt hn rfl) rfl ?_
  refine g_aload_n C 3 dX10_chooseForOpening_11 rfl ?_
  refine g_iload C 0 dX10_chooseForOpening_12 rfl ?_
  obtain ⟨v1, h2, hf⟩ := opt_bind hf
  refine g_callV C (c_X7_allows (l := x_l X) (D := x_D X) (cy := x_y X) (a := c) (q0 := q0) (q1 := q1) (t0 := t0) (t1 := t1) (filled := c_filled) (th := c_th) (ep := c_ep) (rule := c_rule) (cm := c_cm) (vs := c_vs) (es := c_es) (pparts := pparts) (pnest := pnest) (pnamed := pnamed) (ful := ful) (hash := hash) (hz := hz) (tn := tn) (tb := tb) (p0 := p2 &&& pr) (hpol := hpol) h2) (As := [.int (p2 &&& pr)]) (rest := []) (wr := (wV (x_y X) v (b 0) kp ak bf fa (r 0) ln co ch gs op) ++ (wSt (x_y X) b z pr le ec wt sa ev) ++ (wRep (x_y X) r rs rc rd)) (ws' := fun _ => (wV (x_y X) v (b 0) kp ak bf fa (r 0) ln co ch gs op) ++ (wSt (x_y X) b z pr le ec wt sa ev) ++ (wSec (x_y X) c c_filled c_th c_ep c_rule c_cm c_vs c_es) ++ (wRep (x_y X) r rs rc rd)) (st' := fun _ => [.int v1]) (ci := 8) 1 9 ⟨_, rfl⟩ rfl rfl mw_3_83 mw_1_3 mw_3_80 mw_3_81 mw_3_82 hd_X7_allows rfl (g_rm hR rfl rfl) [9, 10, 11, 12] [0, 1, 2, 3, 4, 5, 6, 7, 8, 13, 14, 15] [0, 1, 2, 3, 4, 5, 6, 7, 8, 12, 13, 14, 15, 9, 10, 11] ⟨rfl, rfl, rfl, rfl, by decide, gRoIn_all9 16 hro rfl rfl, rfl, fun _ => rfl⟩ rfl (Nat.le_of_ble_eq_true rfl) dX10_chooseForOpening_14 (g_rc hR (Nat.le_of_ble_eq_true rfl) (Nat.le_of_ble_eq_true rfl)) (ck' := 0) (sk' := 0) rfl rfl (fun _ => rfl) (fun _ _ => ?_) (fun _ hx => absurd rfl hx)
  refine g_if_ne C 49 dX10_chooseForOpening_17 (by decide) (fun c3 => ?_) (fun c3 => ?_)
  · have hf := opt_neg c3 hf
    refine g_aload_n C 1 dX10_chooseForOpening_49 rfl ?_
    refine g_aload_n C 3 dX10_chooseForOpening_50 rfl ?_
    refine g_iload C 0 dX10_chooseForOpening_51 rfl ?_
    refine g_iconst C (v := 1) dX10_chooseForOpening_53 (by decide) ?_
    obtain ⟨v4, h5, hf⟩ := opt_bind hf
    refine g_callV C (c_X10_choose (l := x_l X) (D := x_D X) (cy := x_y X) (v := v) (b := b) (c := c) (kp := kp) (ak := ak) (bf := bf) (fa := fa) (fl := (r 0)) (ln := ln) (co := co) (ch := ch) (gs := gs) (op := op) (z := z) (pr := pr) (le := le) (ec := ec) (wt := wt) (sa := sa) (ev := ev) (c_filled := c_filled) (c_th := c_th) (c_ep := c_ep) (c_rule := c_rule) (c_cm := c_cm) (c_vs := c_vs) (c_es := c_es) (p1 := p2 &&& pr) (p2 := 1) h5) (As := [.ref (c 0), .int (p2 &&& pr), .int 1]) (rest := []) (wr := (wRep (x_y X) r rs rc rd)) (ws' := fun _ => (wV (x_y X) v (b 0) kp ak bf fa (r 0) ln co v4.2 gs op) ++ (wSt (x_y X) b z pr le ec wt sa ev) ++ (wSec (x_y X) c c_filled c_th c_ep c_rule c_cm c_vs c_es) ++ (wRep (x_y X) r rs rc rd)) (st' := fun _ => [.int v4.1]) (ci := 11) 3 0 ⟨_, rfl⟩ rfl rfl mw_3_112 mw_1_1 mw_3_109 mw_3_111 mp_8 hd_X10_choose rfl (g_rm hR rfl rfl) [0, 1, 2, 3, 4, 5, 6, 7, 8, 9, 10, 11, 12] [13, 14, 15] [3, 4, 5, 6, 7, 8, 9, 10, 11, 12, 13, 14, 15, 0, 1, 2] ⟨rfl, rfl, rfl, rfl, by decide, gRoIn_0, rfl, fun _ => rfl⟩ rfl (Nat.le_of_ble_eq_true rfl) dX10_chooseForOpening_54 (g_rc hR (Nat.le_of_ble_eq_true rfl) (Nat.le_of_ble_eq_true rfl)) (ck' := 0) (sk' := 0) rfl rfl (fun _ => rfl) (fun _ _ => ?_) (fun _ hx => absurd rfl hx)
    refine g_istore C (lv' := [(5, .int v4.1), (4, .int (p2 &&& pr)), (0, .ref (v 0)), (1, .int p0), (2, .ref (c 0)), (3, .int p2)]) dX10_chooseForOpening_57 (g_nlt hn rfl) rfl ?_
    refine g_iload C 0 dX10_chooseForOpening_59 rfl ?_
    refine g_aload_n C 4 dX10_chooseForOpening_61 rfl ?_
    refine g_get C 9 1 rfl rfl wiX7 (by decide) mw_1_63 rfl rfl dX10_chooseForOpening_62 ?_
    refine g_icmp_ge C 109 dX10_chooseForOpening_65 (by decide) (fun c6 => ?_) (fun c6 => ?_)
    · have hf := opt_pos c6 hf
      obtain rfl := Option.some.inj hf
      exact g_vret C E () dX10_chooseForOpening_109 rfl rfl rfl (Nat.le_of_ble_eq_true rfl) (Nat.le_of_ble_eq_true rfl)
    · have hf := opt_neg c6 hf
      refine g_aload_n C 2 dX10_chooseForOpening_68 rfl ?_
      refine g_get C 0 5 rfl rfl wiX10 (by decide) mw_1_176 rfl rfl dX10_chooseForOpening_69 ?_
      refine g_iload_n C 3 dX10_chooseForOpening_72 rfl ?_
      obtain ⟨v7, h8, hf⟩ := opt_bind hf
      refine g_callV C (c_X6_begin (l := x_l X) (D := x_D X) (cy := x_y X) (a := r) (rs := rs) (rc := rc) (rd := rd) (p0 := p0) h8) (As := [.int p0]) (rest := []) (wr := (wV (x_y X) v (b 0) kp ak bf fa (r 0) ln co v4.2 gs op) ++ (wSt (x_y X) b z pr le ec wt sa ev) ++ (wSec (x_y X) c c_filled c_th c_ep c_rule c_cm c_vs c_es)) (ws' := fun _ => (wV (x_y X) v (b 0) kp ak bf fa (r 0) ln co v4.2 gs op) ++ (wSt (x_y X) b z pr le ec wt sa ev) ++ (wSec (x_y X) c c_filled c_th c_ep c_rule c_cm c_vs c_es) ++ (wRep (x_y X) r v7.1 v7.2.1 v7.2.2)) (st' := fun _ => []) (ci := 7) 1 13 ⟨_, rfl⟩ rfl rfl mw_3_87 mw_1_8 mw_3_84 mw_3_85 mw_3_86 hd_X6_begin rfl (g_rm hR rfl rfl) [13, 14, 15] [0, 1, 2, 3, 4, 5, 6, 7, 8, 9, 10, 11, 12] [0, 1, 2, 3, 4, 5, 6, 7, 8, 9, 10, 11, 12, 13, 14, 15] ⟨rfl, rfl, rfl, rfl, by decide, gRoIn_0, rfl, fun _ => rfl⟩ rfl (Nat.le_of_ble_eq_true rfl) dX10_chooseForOpening_73 (g_rc hR (Nat.le_of_ble_eq_true rfl) (Nat.le_of_ble_eq_true rfl)) (ck' := 0) (sk' := 0) rfl rfl (fun _ => rfl) (fun _ _ => ?_) (fun _ hx => absurd rfl hx)
      refine g_aload_n C 2 dX10_chooseForOpening_76 rfl ?_
      refine g_get C 0 5 rfl rfl wiX10 (by decide) mw_1_176 rfl rfl dX10_chooseForOpening_77 ?_
      refine g_iconst C (v := 3) dX10_chooseForOpening_80 (by decide) ?_
      refine g_aload_n C 4 dX10_chooseForOpening_81 rfl ?_
      refine g_get C 9 1 rfl rfl wiX7 (by decide) mw_1_63 rfl rfl dX10_chooseForOpening_82 ?_
      refine g_iload C 0 dX10_chooseForOpening_85 rfl ?_
      refine g_isub C dX10_chooseForOpening_87 ?_
      obtain ⟨v9, h10, hf⟩ := opt_bind hf
      refine g_callV C (c_X6_add (l := x_l X) (D := x_D X) (cy := x_y X) (a := r) (rs := v7.1) (rc := v7.2.1) (rd := v7.2.2) (p0 := 3) (p1 := c_th - v4.1) h10) (As := [.int 3, .int (c_th - v4.1)]) (rest := []) (wr := (wV (x_y X) v (b 0) kp ak bf fa (r 0) ln co v4.2 gs op) ++ (wSt (x_y X) b z pr le ec wt sa ev) ++ (wSec (x_y X) c c_filled c_th c_ep c_rule c_cm c_vs c_es)) (ws' := fun _ => (wV (x_y X) v (b 0) kp ak bf fa (r 0) ln co v4.2 gs op) ++ (wSt (x_y X) b z pr le ec wt sa ev) ++ (wSec (x_y X) c c_filled c_th c_ep c_rule c_cm c_vs c_es) ++ (wRep (x_y X) r v9.1 v9.2.1 v9.2.2)) (st' := fun _ => []) (ci := 7) 2 13 ⟨_, rfl⟩ rfl rfl mw_3_91 mw_1_8 mw_3_92 mw_3_89 mw_3_90 hd_X6_add rfl (g_rm hR rfl rfl) [13, 14, 15] [0, 1, 2, 3, 4, 5, 6, 7, 8, 9, 10, 11, 12] [0, 1, 2, 3, 4, 5, 6, 7, 8, 9, 10, 11, 12, 13, 14, 15] ⟨rfl, rfl, rfl, rfl, by decide, gRoIn_0, rfl, fun _ => rfl⟩ rfl (Nat.le_of_ble_eq_true rfl) dX10_chooseForOpening_88 (g_rc hR (Nat.le_of_ble_eq_true rfl) (Nat.le_of_ble_eq_true rfl)) (ck' := 0) (sk' := 0) rfl rfl (fun _ => rfl) (fun _ _ => ?_) (fun _ hx => absurd rfl hx)
      refine g_aload_n C 2 dX10_chooseForOpening_91 rfl ?_
      refine g_aload_n C 4 dX10_chooseForOpening_92 rfl ?_
      refine g_iload C 1 dX10_chooseForOpening_93 rfl ?_
      obtain ⟨v11, h12, hf⟩ := opt_bind hf
      refine g_callV C (c_X10_reportBadShares (l := x_l X) (D := x_D X) (cy := x_y X) (v := v) (r := r) (c := c) (nw := (b 0)) (kp := kp) (ak := ak) (bf := bf) (fa := fa) (ln := ln) (co := co) (ch := v4.2) (gs := gs) (op := op) (rs := v9.1) (rc := v9.2.1) (rd := v9.2.2) (c_filled := c_filled) (c_th := c_th) (c_ep := c_ep) (c_rule := c_rule) (c_cm := c_cm) (c_vs := c_vs) (c_es := c_es) (p1 := p2 &&& pr) h12) (As := [.ref (c 0), .int (p2 &&& pr)]) (rest := []) (wr := (wSt (x_y X) b z pr le ec wt sa ev)) (ws' := fun _ => (wV (x_y X) v (b 0) kp ak bf fa (r 0) ln co v4.2 gs op) ++ (wSt (x_y X) b z pr le ec wt sa ev) ++ (wSec (x_y X) c c_filled c_th c_ep c_rule c_cm c_vs c_es) ++ (wRep (x_y X) r v11.1 v11.2.1 v11.2.2)) (st' := fun _ => []) (ci := 11) 2 0 ⟨_, rfl⟩ rfl rfl mw_3_117 mw_1_1 mw_3_114 mw_3_116 mp_9 hd_X10_reportBadShares rfl (g_rm hR rfl rfl) [0, 1, 2, 3, 4, 13, 14, 15, 9, 10, 11, 12] [5, 6, 7, 8] [4, 5, 6, 7, 8, 0, 1, 2, 3, 12, 13, 14, 15, 9, 10, 11] ⟨rfl, rfl, rfl, rfl, by decide, gRoIn_0, rfl, fun _ => rfl⟩ rfl (Nat.le_of_ble_eq_true rfl) dX10_chooseForOpening_95 (g_rc hR (Nat.le_of_ble_eq_true rfl) (Nat.le_of_ble_eq_true rfl)) (ck' := 0) (sk' := 0) rfl rfl (fun _ => rfl) (fun _ _ => ?_) (fun _ hx => absurd rfl hx)
      obtain rfl := Option.some.inj hf
      exact g_throwSW C E () (text := "there are too few shares") gTh_4 ms_414 dX10_chooseForOpening_98 dX10_chooseForOpening_101 dX10_chooseForOpening_102 dX10_chooseForOpening_105 dX10_chooseForOpening_108 (g_th hR rfl rfl) (g_rc hR (Nat.le_of_ble_eq_true rfl) (Nat.le_of_ble_eq_true rfl)) (Nat.succ_ne_zero 3) rfl rfl (Nat.le_of_ble_eq_true rfl) (Nat.le_of_ble_eq_true rfl)
  · have hf := opt_pos c3 hf
    refine g_aload_n C 1 dX10_chooseForOpening_20 rfl ?_
    refine g_get C 0 5 rfl rfl wiX10 (by decide) mw_1_176 rfl rfl dX10_chooseForOpening_21 ?_
    refine g_iload_n C 2 dX10_chooseForOpening_24 rfl ?_
    obtain ⟨v13, h14, hf⟩ := opt_bind hf
    refine g_callV C (c_X6_begin (l := x_l X) (D := x_D X) (cy := x_y X) (a := r) (rs := rs) (rc := rc) (rd := rd) (p0 := p0) h14) (As := [.int p0]) (rest := []) (wr := (wV (x_y X) v (b 0) kp ak bf fa (r 0) ln co ch gs op) ++ (wSt (x_y X) b z pr le ec wt sa ev) ++ (wSec (x_y X) c c_filled c_th c_ep c_rule c_cm c_vs c_es)) (ws' := fun _ => (wV (x_y X) v (b 0) kp ak bf fa (r 0) ln co ch gs op) ++ (wSt (x_y X) b z pr le ec wt sa ev) ++ (wSec (x_y X) c c_filled c_th c_ep c_rule c_cm c_vs c_es) ++ (wRep (x_y X) r v13.1 v13.2.1 v13.2.2)) (st' := fun _ => []) (ci := 7) 1 13 ⟨_, rfl⟩ rfl rfl mw_3_87 mw_1_8 mw_3_84 mw_3_85 mw_3_86 hd_X6_begin rfl (g_rm hR rfl rfl) [13, 14, 15] [0, 1, 2, 3, 4, 5, 6, 7, 8, 9, 10, 11, 12] [0, 1, 2, 3, 4, 5, 6, 7, 8, 9, 10, 11, 12, 13, 14, 15] ⟨rfl, rfl, rfl, rfl, by decide, gRoIn_0, rfl, fun _ => rfl⟩ rfl (Nat.le_of_ble_eq_true rfl) dX10_chooseForOpening_25 (g_rc hR (Nat.le_of_ble_eq_true rfl) (Nat.le_of_ble_eq_true rfl)) (ck' := 0) (sk' := 0) rfl rfl (fun _ => rfl) (fun _ _ => ?_) (fun _ hx => absurd rfl hx)
    refine g_aload_n C 1 dX10_chooseForOpening_28 rfl ?_
    refine g_get C 0 5 rfl rfl wiX10 (by decide) mw_1_176 rfl rfl dX10_chooseForOpening_29 ?_
    refine g_iconst C (v := 2) dX10_chooseForOpening_32 (by decide) ?_
    refine g_iload C 0 dX10_chooseForOpening_33 rfl ?_
    obtain ⟨v15, h16, hf⟩ := opt_bind hf
    refine g_callV C (c_X6_add (l := x_l X) (D := x_D X) (cy := x_y X) (a := r) (rs := v13.1) (rc := v13.2.1) (rd := v13.2.2) (p0 := 2) (p1 := p2 &&& pr) h16) (As := [.int 2, .int (p2 &&& pr)]) (rest := []) (wr := (wV (x_y X) v (b 0) kp ak bf fa (r 0) ln co ch gs op) ++ (wSt (x_y X) b z pr le ec wt sa ev) ++ (wSec (x_y X) c c_filled c_th c_ep c_rule c_cm c_vs c_es)) (ws' := fun _ => (wV (x_y X) v (b 0) kp ak bf fa (r 0) ln co ch gs op) ++ (wSt (x_y X) b z pr le ec wt sa ev) ++ (wSec (x_y X) c c_filled c_th c_ep c_rule c_cm c_vs c_es) ++ (wRep (x_y X) r v15.1 v15.2.1 v15.2.2)) (st' := fun _ => []) (ci := 7) 2 13 ⟨_, rfl⟩ rfl rfl mw_3_91 mw_1_8 mw_3_92 mw_3_89 mw_3_90 hd_X6_add rfl (g_rm hR rfl rfl) [13, 14, 15] [0, 1, 2, 3, 4, 5, 6, 7, 8, 9, 10, 11, 12] [0, 1, 2, 3, 4, 5, 6, 7, 8, 9, 10, 11, 12, 13, 14, 15] ⟨rfl, rfl, rfl, rfl, by decide, gRoIn_0, rfl, fun _ => rfl⟩ rfl (Nat.le_of_ble_eq_true rfl) dX10_chooseForOpening_35 (g_rc hR (Nat.le_of_ble_eq_true rfl) (Nat.le_of_ble_eq_true rfl)) (ck' := 0) (sk' := 0) rfl rfl (fun _ => rfl) (fun _ _ => ?_) (fun _ hx => absurd rfl hx)
    obtain rfl := Option.some.inj hf
    exact g_throwSW C E () (text := "the policy is not fulfilled") gTh_4 ms_407 dX10_chooseForOpening_38 dX10_chooseForOpening_41 dX10_chooseForOpening_42 dX10_chooseForOpening_45 dX10_chooseForOpening_48 (g_th hR rfl rfl) (g_rc hR (Nat.le_of_ble_eq_true rfl) (Nat.le_of_ble_eq_true rfl)) (Nat.succ_ne_zero 3) rfl rfl (Nat.le_of_ble_eq_true rfl) (Nat.le_of_ble_eq_true rfl)
/-! X10_open -/
theorem hd_X10_open : yX10_open.cls ≠ "java/lang/invoke/MethodHandle" ∧ yX10_open.cls ≠ "java/lang/invoke/VarHandle" ∧ (parseMethodDescriptor yX10_open.desc).map (fun d => d.parameters.length) = some 2 := by decide +kernel
def F_X10_open (ch : Nat → Int32) (pr : Int32) (le : Int32) (ec : Int32) (ev : Nat → Int32) (c_filled : Int32) (c_th : Int32) (c_ep : Int32) (c_rule : Option Nat) (c_cm : Nat → Int32) (c_vs : Nat → Int32) (c_es : Nat → Int32) (rs : Int32) (rc : Nat → Int32) (rd : Nat → Int32) (ful : Nat → Int32) (p0 : Int32) (p1 : Int32) : Option (Nat × Int32 × (Nat → Int32) × Int32 × Int32 × (Nat → Int32) × Int32 × (Nat → Int32) × (Nat → Int32)) := (F_X10_checkSlot p0).bind fun v1 => if v1 = 0 then ((F_X10_checkSet p1).bind fun v3 => if v3 = 0 then ((F_X10_secretIn c_filled p0).bind fun v5 => if v5 = 0 then ((F_X10_chooseForOpening ch pr c_th c_ep c_rule c_cm c_vs c_es rs rc rd ful p0 p1).bind fun v7 => if v7.1 = 0 then ((F_X9_note le ec ev ((700 : Int32) + p0)).bind fun v9 => (F_X7_valueThrough c_th c_vs v7.2.1 0).bind fun v11 => some (0, v11, v7.2.1, v9.1, v9.2.1, v9.2.2, v7.2.2.1, v7.2.2.2.1, v7.2.2.2.2)) else some (v7.1, 0, v7.2.1, le, ec, ev, v7.2.2.1, v7.2.2.2.1, v7.2.2.2.2)) else some (v5, 0, ch, le, ec, ev, rs, rc, rd)) else some (v3, 0, ch, le, ec, ev, rs, rc, rd)) else some (v1, 0, ch, le, ec, ev, rs, rc, rd)
set_option maxRecDepth 100000 in
set_option maxHeartbeats 4000000 in
theorem c_X10_open {l : Launch} {D : va_G} {cy : Nat → ClassId} {v : Nat → Nat} {b : Nat → Nat} {c : Nat → Nat} {r : Nat → Nat} {q0 q1 t0 t1 : Nat} {kp : Nat} {ak : Int32} {bf : Nat} {fa : Int32} {ln : Nat} {co : Nat → Int32} {ch : Nat → Int32} {gs : Nat → Int32} {op : Nat → Int32} {z : Int32} {pr : Int32} {le : Int32} {ec : Int32} {wt : Nat → Int32} {sa : Nat → Option Nat} {ev : Nat → Int32} {c_filled : Int32} {c_th : Int32} {c_ep : Int32} {c_rule : Option Nat} {c_cm : Nat → Int32} {c_vs : Nat → Int32} {c_es : Nat → Int32} {rs : Int32} {rc : Nat → Int32} {rd : Nat → Int32} {pparts : Int32} {pnest : Int32} {pnamed : Int32} {ful : Nat → Int32} {hash : Int32} {hz : Int32} {tn : Nat} {tb : Nat → Int32} {p0 : Int32} {p1 : Int32} (hs : gi p0 4 = true → sa (Int32.toNatClampNeg p0) = some (c 0)) (hpol : ¬ c_rule = none → c_rule = some q0) {val : Nat × Int32 × (Nat → Int32) × Int32 × Int32 × (Nat → Int32) × Int32 × (Nat → Int32) × (Nat → Int32)} (hf : F_X10_open ch pr le ec ev c_filled c_th c_ep c_rule c_cm c_vs c_es rs rc rd ful p0 p1 = some val) : gCt l D cy yX10_open cX10_open 4 (some .int) 7 118 4 24 [.ref (v 0), .int p0, .int p1] (gOpt c_rule ((wPo cy q0 q1 t0 t1 pparts pnest pnamed ful hash hz tn tb))) ((wV cy v (b 0) kp ak bf fa (r 0) ln co ch gs op) ++ (wSt cy b z pr le ec wt sa ev) ++ (wSec cy c c_filled c_th c_ep c_rule c_cm c_vs c_es) ++ (wRep cy r rs rc rd)) val.1 (fun _ : Unit => some (.int val.2.1)) (fun _ => (wV cy v (b 0) kp ak bf fa (r 0) ln co val.2.2.1 gs op) ++ (wSt cy b z pr val.2.2.2.1 val.2.2.2.2.1 wt sa val.2.2.2.2.2.1) ++ (wSec cy c c_filled c_th c_ep c_rule c_cm c_vs c_es) ++ (wRep cy r val.2.2.2.2.2.2.1 val.2.2.2.2.2.2.2.1 val.2.2.2.2.2.2.2.2)) := by
  refine g_begin (by decide +kernel) (Nat.le_of_ble_eq_true rfl) ?_
  intro X Q hl hR hD hy hro hn C hin E
  subst hl; subst hD; subst hy
  replace C : gC X "SecretVault" cX10_open (some .int) := C
  unfold F_X10_open at hf
  show gW X Q 0 0 ((wV (x_y X) v (b 0) kp ak bf fa (r 0) ln co ch gs op) ++ (wSt (x_y X) b z pr le ec wt sa ev) ++ (wSec (x_y X) c c_filled c_th c_ep c_rule c_cm c_vs c_es) ++ (wRep (x_y X) r rs rc rd)) [(0, .ref (v 0)), (1, .int p0), (2, .int p1)] [] 0
  refine g_iload_n C 1 dX10_open_0 rfl ?_
  obtain ⟨v1, h2, hf⟩ := opt_bind hf
  refine g_callS C (c_X10_checkSlot (l := x_l X) (D := x_D X) (cy := x_y X) (p0 := p0) h2) (As := [.int p0]) (rest := []) (wr := (wV (x_y X) v (b 0) kp ak bf fa (r 0) ln co ch gs op) ++ (wSt (x_y X) b z pr le ec wt sa ev) ++ (wSec (x_y X) c c_filled c_th c_ep c_rule c_cm c_vs c_es) ++ (wRep (x_y X) r rs rc rd)) (ws' := fun _ => (wV (x_y X) v (b 0) kp ak bf fa (r 0) ln co ch gs op) ++ (wSt (x_y X) b z pr le ec wt sa ev) ++ (wSec (x_y X) c c_filled c_th c_ep c_rule c_cm c_vs c_es) ++ (wRep (x_y X) r rs rc rd)) (st' := fun _ => []) 1 mw_2_189 mw_1_1 mw_2_187 mw_2_188 hd_X10_checkSlot rfl (g_rm hR rfl rfl) [] [0, 1, 2, 3, 4, 5, 6, 7, 8, 9, 10, 11, 12, 13, 14, 15] [0, 1, 2, 3, 4, 5, 6, 7, 8, 9, 10, 11, 12, 13, 14, 15] ⟨rfl, rfl, rfl, rfl, by decide, gRoIn_0, rfl, fun _ => rfl⟩ rfl (Nat.le_of_ble_eq_true rfl) dX10_open_1 (g_rc hR (Nat.le_of_ble_eq_true rfl) (Nat.le_of_ble_eq_true rfl)) (ck' := 1) (sk' := 6) rfl rfl (fun _ => rfl) (fun _ ev1 => ?_) (fun _ ev1 => ?_)
  rotate_left
  · have hf := opt_neg ev1 hf
    obtain rfl := Option.some.inj hf
    exact g_out E () rfl ev1 rfl (Nat.le_of_ble_eq_true rfl) (Nat.le_of_ble_eq_true rfl)
  have hf := opt_pos ev1 hf
  refine g_iload_n C 2 dX10_open_4 rfl ?_
  obtain ⟨v3, h4, hf⟩ := opt_bind hf
  refine g_callS C (c_X10_checkSet (l := x_l X) (D := x_D X) (cy := x_y X) (p0 := p1) h4) (As := [.int p1]) (rest := []) (wr := (wV (x_y X) v (b 0) kp ak bf fa (r 0) ln co ch gs op) ++ (wSt (x_y X) b z pr le ec wt sa ev) ++ (wSec (x_y X) c c_filled c_th c_ep c_rule c_cm c_vs c_es) ++ (wRep (x_y X) r rs rc rd)) (ws' := fun _ => (wV (x_y X) v (b 0) kp ak bf fa (r 0) ln co ch gs op) ++ (wSt (x_y X) b z pr le ec wt sa ev) ++ (wSec (x_y X) c c_filled c_th c_ep c_rule c_cm c_vs c_es) ++ (wRep (x_y X) r rs rc rd)) (st' := fun _ => []) 1 mw_3_74 mw_1_1 mw_3_72 mw_3_73 hd_X10_checkSet rfl (g_rm hR rfl rfl) [] [0, 1, 2, 3, 4, 5, 6, 7, 8, 9, 10, 11, 12, 13, 14, 15] [0, 1, 2, 3, 4, 5, 6, 7, 8, 9, 10, 11, 12, 13, 14, 15] ⟨rfl, rfl, rfl, rfl, by decide, gRoIn_0, rfl, fun _ => rfl⟩ rfl (Nat.le_of_ble_eq_true rfl) dX10_open_5 (g_rc hR (Nat.le_of_ble_eq_true rfl) (Nat.le_of_ble_eq_true rfl)) (ck' := 2) (sk' := 12) rfl rfl (fun _ => rfl) (fun _ ev3 => ?_) (fun _ ev3 => ?_)
  rotate_left
  · have hf := opt_neg ev3 hf
    obtain rfl := Option.some.inj hf
    exact g_out E () rfl ev3 rfl (Nat.le_of_ble_eq_true rfl) (Nat.le_of_ble_eq_true rfl)
  have hf := opt_pos ev3 hf
  refine g_aload_n C 0 dX10_open_8 rfl ?_
  refine g_iload_n C 1 dX10_open_9 rfl ?_
  obtain ⟨v5, h6, hf⟩ := opt_bind hf
  refine g_callV C (c_X10_secretIn (l := x_l X) (D := x_D X) (cy := x_y X) (v := v) (b := b) (c := c) (kp := kp) (ak := ak) (bf := bf) (fa := fa) (fl := (r 0)) (ln := ln) (co := co) (ch := ch) (gs := gs) (op := op) (z := z) (pr := pr) (le := le) (ec := ec) (wt := wt) (sa := sa) (ev := ev) (c_filled := c_filled) (c_th := c_th) (c_ep := c_ep) (c_rule := c_rule) (c_cm := c_cm) (c_vs := c_vs) (c_es := c_es) (p0 := p0) (hs := hs) h6) (As := [.int p0]) (rest := []) (wr := (wRep (x_y X) r rs rc rd)) (ws' := fun _ => (wV (x_y X) v (b 0) kp ak bf fa (r 0) ln co ch gs op) ++ (wSt (x_y X) b z pr le ec wt sa ev) ++ (wSec (x_y X) c c_filled c_th c_ep c_rule c_cm c_vs c_es) ++ (wRep (x_y X) r rs rc rd)) (st' := fun _ => [.ref (c 0)]) (ci := 11) 1 0 ⟨_, rfl⟩ rfl rfl mw_3_34 mw_1_1 mw_3_31 mw_3_33 mp_5 hd_X10_secretIn rfl (g_rm hR rfl rfl) [0, 1, 2, 3, 4, 5, 6, 7, 8, 9, 10, 11, 12] [13, 14, 15] [3, 4, 5, 6, 7, 8, 9, 10, 11, 12, 13, 14, 15, 0, 1, 2] ⟨rfl, rfl, rfl, rfl, by decide, gRoIn_0, rfl, fun _ => rfl⟩ rfl (Nat.le_of_ble_eq_true rfl) dX10_open_10 (g_rc hR (Nat.le_of_ble_eq_true rfl) (Nat.le_of_ble_eq_true rfl)) (ck' := 3) (sk' := 18) rfl rfl (fun _ => rfl) (fun _ ev5 => ?_) (fun _ ev5 => ?_)
  rotate_left
  · have hf := opt_neg ev5 hf
    obtain rfl := Option.some.inj hf
    exact g_out E () rfl ev5 rfl (Nat.le_of_ble_eq_true rfl) (Nat.le_of_ble_eq_true rfl)
  have hf := opt_pos ev5 hf
  refine g_astore_n C (lv' := [(3, .ref (c 0)), (0, .ref (v 0)), (1, .int p0), (2, .int p1)]) dX10_open_13 (g_nlt hn rfl) rfl ?_
  refine g_aload_n C 1 dX10_open_14 rfl ?_
  refine g_iload_n C 2 dX10_open_15 rfl ?_
  refine g_aload_n C 0 dX10_open_16 rfl ?_
  refine g_iload_n C 3 dX10_open_17 rfl ?_
  obtain ⟨v7, h8, hf⟩ := opt_bind hf
  refine g_callV C (c_X10_chooseForOpening (l := x_l X) (D := x_D X) (cy := x_y X) (v := v) (b := b) (c := c) (r := r) (q0 := q0) (q1 := q1) (t0 := t0) (t1 := t1) (kp := kp) (ak := ak) (bf := bf) (fa := fa) (ln := ln) (co := co) (ch := ch) (gs := gs) (op := op) (z := z) (pr := pr) (le := le) (ec := ec) (wt := wt) (sa := sa) (ev := ev) (c_filled := c_filled) (c_th := c_th) (c_ep := c_ep) (c_rule := c_rule) (c_cm := c_cm) (c_vs := c_vs) (c_es := c_es) (rs := rs) (rc := rc) (rd := rd) (pparts := pparts) (pnest := pnest) (pnamed := pnamed) (ful := ful) (hash := hash) (hz := hz) (tn := tn) (tb := tb) (p0 := p0) (p2 := p1) (hpol := hpol) h8) (As := [.int p0, .ref (c 0), .int p1]) (rest := []) (wr := []) (ws' := fun _ => (wV (x_y X) v (b 0) kp ak bf fa (r 0) ln co v7.2.1 gs op) ++ (wSt (x_y X) b z pr le ec wt sa ev) ++ (wSec (x_y X) c c_filled c_th c_ep c_rule c_cm c_vs c_es) ++ (wRep (x_y X) r v7.2.2.1 v7.2.2.2.1 v7.2.2.2.2)) (st' := fun _ => []) (ci := 11) 3 0 ⟨_, rfl⟩ rfl rfl mw_3_79 mw_1_1 mw_3_76 mw_3_78 mp_7 hd_X10_chooseForOpening rfl (g_rm hR rfl rfl) [0, 1, 2, 3, 4, 5, 6, 7, 8, 9, 10, 11, 12, 13, 14, 15] [] [0, 1, 2, 3, 4, 5, 6, 7, 8, 9, 10, 11, 12, 13, 14, 15] ⟨rfl, rfl, rfl, rfl, by decide, gRoIn_all9 16 hro rfl rfl, rfl, fun _ => rfl⟩ rfl (Nat.le_of_ble_eq_true rfl) dX10_open_18 (g_rc hR (Nat.le_of_ble_eq_true rfl) (Nat.le_of_ble_eq_true rfl)) (ck' := 4) (sk' := 24) rfl rfl (fun _ => rfl) (fun _ ev7 => ?_) (fun _ ev7 => ?_)
  rotate_left
  · have hf := opt_neg ev7 hf
    obtain rfl := Option.some.inj hf
    exact g_out E () rfl ev7 rfl (Nat.le_of_ble_eq_true rfl) (Nat.le_of_ble_eq_true rfl)
  have hf := opt_pos ev7 hf
  refine g_aload_n C 1 dX10_open_21 rfl ?_
  refine g_get C 0 0 rfl rfl wiX10 (by decide) mw_1_171 rfl rfl dX10_open_22 ?_
  refine g_sipush C (v := 700) dX10_open_25 (by decide) ?_
  refine g_iload_n C 2 dX10_open_28 rfl ?_
  refine g_iadd C dX10_open_29 ?_
  obtain ⟨v9, h10, hf⟩ := opt_bind hf
  refine g_callV C (c_X9_note (l := x_l X) (D := x_D X) (cy := x_y X) (a := b) (z := z) (pr := pr) (le := le) (ec := ec) (wt := wt) (sa := sa) (ev := ev) (p0 := (700 : Int32) + p0) h10) (As := [.int ((700 : Int32) + p0)]) (rest := []) (wr := (wV (x_y X) v (b 0) kp ak bf fa (r 0) ln co v7.2.1 gs op) ++ (wSec (x_y X) c c_filled c_th c_ep c_rule c_cm c_vs c_es) ++ (wRep (x_y X) r v7.2.2.1 v7.2.2.2.1 v7.2.2.2.2)) (ws' := fun _ => (wV (x_y X) v (b 0) kp ak bf fa (r 0) ln co v7.2.1 gs op) ++ (wSt (x_y X) b z pr v9.1 v9.2.1 wt sa v9.2.2) ++ (wSec (x_y X) c c_filled c_th c_ep c_rule c_cm c_vs c_es) ++ (wRep (x_y X) r v7.2.2.1 v7.2.2.2.1 v7.2.2.2.2)) (st' := fun _ => []) (ci := 10) 1 5 ⟨_, rfl⟩ rfl rfl mw_3_19 mw_1_2 mw_3_16 mw_3_17 mw_3_18 hd_X9_note rfl (g_rm hR rfl rfl) [5, 6, 7, 8] [0, 1, 2, 3, 4, 9, 10, 11, 12, 13, 14, 15] [0, 1, 2, 3, 4, 12, 13, 14, 15, 5, 6, 7, 8, 9, 10, 11] ⟨rfl, rfl, rfl, rfl, by decide, gRoIn_0, rfl, fun _ => rfl⟩ rfl (Nat.le_of_ble_eq_true rfl) dX10_open_30 (g_rc hR (Nat.le_of_ble_eq_true rfl) (Nat.le_of_ble_eq_true rfl)) (ck' := 4) (sk' := 24) rfl rfl (fun _ => rfl) (fun _ _ => ?_) (fun _ hx => absurd rfl hx)
  refine g_aload_n C 0 dX10_open_33 rfl ?_
  refine g_aload_n C 1 dX10_open_34 rfl ?_
  refine g_get C 0 7 rfl rfl wiX10 (by decide) mw_1_178 rfl rfl dX10_open_35 ?_
  refine g_iconst C (v := 0) dX10_open_38 (by decide) ?_
  obtain ⟨v11, h12, hf⟩ := opt_bind hf
  refine g_callV C (c_X7_valueThrough (l := x_l X) (D := x_D X) (cy := x_y X) (a := c) (ca := (v 2)) (filled := c_filled) (th := c_th) (ep := c_ep) (rule := c_rule) (cm := c_cm) (vs := c_vs) (es := c_es) (pa := v7.2.1) (p1 := 0) h12) (As := [.ref (v 2), .int 0]) (rest := []) (wr := [((v 0), .inr (11, [.ref (b 0), .ref kp, .int ak, .ref bf, .int fa, .ref (r 0), .ref (v 1), .ref (v 2), .ref (v 3), .ref (v 4), .ref ln])), ((v 1), .inl ((x_y X) 0, 8, .inl co)), ((v 3), .inl ((x_y X) 0, 8, .inl gs)), ((v 4), .inl ((x_y X) 1, 256, .inl op))] ++ (wSt (x_y X) b z pr v9.1 v9.2.1 wt sa v9.2.2) ++ (wRep (x_y X) r v7.2.2.1 v7.2.2.2.1 v7.2.2.2.2)) (ws' := fun _ => (wV (x_y X) v (b 0) kp ak bf fa (r 0) ln co v7.2.1 gs op) ++ (wSt (x_y X) b z pr v9.1 v9.2.1 wt sa v9.2.2) ++ (wSec (x_y X) c c_filled c_th c_ep c_rule c_cm c_vs c_es) ++ (wRep (x_y X) r v7.2.2.1 v7.2.2.2.1 v7.2.2.2.2)) (st' := fun _ => [.int v11]) (ci := 8) 2 9 ⟨_, rfl⟩ rfl rfl mw_3_122 mw_1_3 mw_3_119 mw_3_120 mw_3_121 hd_X7_valueThrough rfl (g_rm hR rfl rfl) [9, 10, 11, 12, 2] [0, 1, 3, 4, 5, 6, 7, 8, 13, 14, 15] [0, 1, 15, 2, 3, 4, 5, 6, 7, 11, 12, 13, 14, 8, 9, 10] ⟨rfl, rfl, rfl, rfl, by decide, gRoIn_0, rfl, fun _ => rfl⟩ rfl (Nat.le_of_ble_eq_true rfl) dX10_open_39 (g_rc hR (Nat.le_of_ble_eq_true rfl) (Nat.le_of_ble_eq_true rfl)) (ck' := 4) (sk' := 24) rfl rfl (fun _ => rfl) (fun _ _ => ?_) (fun _ hx => absurd rfl hx)
  obtain rfl := Option.some.inj hf
  exact g_iret C E () dX10_open_42 rfl rfl rfl (Nat.le_of_ble_eq_true rfl) (Nat.le_of_ble_eq_true rfl)
/-! X10_reshare -/
theorem hd_X10_reshare : yX10_reshare.cls ≠ "java/lang/invoke/MethodHandle" ∧ yX10_reshare.cls ≠ "java/lang/invoke/VarHandle" ∧ (parseMethodDescriptor yX10_reshare.desc).map (fun d => d.parameters.length) = some 3 := by decide +kernel
def F_X10_reshare (co : Nat → Int32) (ch : Nat → Int32) (z : Int32) (pr : Int32) (le : Int32) (ec : Int32) (wt : Nat → Int32) (ev : Nat → Int32) (c_filled : Int32) (c_th : Int32) (c_ep : Int32) (c_rule : Option Nat) (c_cm : Nat → Int32) (c_vs : Nat → Int32) (c_es : Nat → Int32) (rs : Int32) (rc : Nat → Int32) (rd : Nat → Int32) (ful : Nat → Int32) (p0 : Int32) (p1 : Int32) (p2 : Int32) : Option (Nat × Int32 × (Nat → Int32) × (Nat → Int32) × Int32 × Int32 × Int32 × (Nat → Int32) × Int32 × Int32 × (Nat → Int32) × (Nat → Int32) × (Nat → Int32) × Int32 × (Nat → Int32) × (Nat → Int32)) := (F_X10_checkSlot p0).bind fun v1 => if v1 = 0 then ((F_X10_checkSet p1).bind fun v3 => if v3 = 0 then ((F_X10_checkThreshold p2).bind fun v5 => if v5 = 0 then ((F_X10_secretIn c_filled p0).bind fun v7 => if v7 = 0 then ((F_X10_chooseForOpening ch pr c_th c_ep c_rule c_cm c_vs c_es rs rc rd ful p0 p1).bind fun v9 => if v9.1 = 0 then ((F_X10_checkPlacesSuffice pr wt p2).bind fun v11 => if v11 = 0 then ((F_X7_valueThrough c_th c_vs v9.2.1 0).bind fun v13 => (F_X10_deal co z pr wt c_th c_ep c_cm c_vs c_es v13 p2 (c_ep + 1)).bind fun v15 => (F_X9_note le ec ev ((400 : Int32) + p0)).bind fun v17 => some (0, v15.1, v15.2.1, v9.2.1, v15.2.2.1, v17.1, v17.2.1, v17.2.2, v15.2.2.2.1, v15.2.2.2.2.1, v15.2.2.2.2.2.1, v15.2.2.2.2.2.2.1, v15.2.2.2.2.2.2.2, v9.2.2.1, v9.2.2.2.1, v9.2.2.2.2)) else some (v11, 0, co, v9.2.1, z, le, ec, ev, c_th, c_ep, c_cm, c_vs, c_es, v9.2.2.1, v9.2.2.2.1, v9.2.2.2.2)) else some (v9.1, 0, co, v9.2.1, z, le, ec, ev, c_th, c_ep, c_cm, c_vs, c_es, v9.2.2.1, v9.2.2.2.1, v9.2.2.2.2)) else some (v7, 0, co, ch, z, le, ec, ev, c_th, c_ep, c_cm, c_vs, c_es, rs, rc, rd)) else some (v5, 0, co, ch, z, le, ec, ev, c_th, c_ep, c_cm, c_vs, c_es, rs, rc, rd)) else some (v3, 0, co, ch, z, le, ec, ev, c_th, c_ep, c_cm, c_vs, c_es, rs, rc, rd)) else some (v1, 0, co, ch, z, le, ec, ev, c_th, c_ep, c_cm, c_vs, c_es, rs, rc, rd)
set_option maxRecDepth 100000 in
set_option maxHeartbeats 4000000 in
theorem c_X10_reshare {l : Launch} {D : va_G} {cy : Nat → ClassId} {v : Nat → Nat} {b : Nat → Nat} {c : Nat → Nat} {r : Nat → Nat} {q0 q1 t0 t1 : Nat} {kp : Nat} {ak : Int32} {bf : Nat} {fa : Int32} {ln : Nat} {co : Nat → Int32} {ch : Nat → Int32} {gs : Nat → Int32} {op : Nat → Int32} {z : Int32} {pr : Int32} {le : Int32} {ec : Int32} {wt : Nat → Int32} {sa : Nat → Option Nat} {ev : Nat → Int32} {c_filled : Int32} {c_th : Int32} {c_ep : Int32} {c_rule : Option Nat} {c_cm : Nat → Int32} {c_vs : Nat → Int32} {c_es : Nat → Int32} {rs : Int32} {rc : Nat → Int32} {rd : Nat → Int32} {pparts : Int32} {pnest : Int32} {pnamed : Int32} {ful : Nat → Int32} {hash : Int32} {hz : Int32} {tn : Nat} {tb : Nat → Int32} {p0 : Int32} {p1 : Int32} {p2 : Int32} (hs : gi p0 4 = true → sa (Int32.toNatClampNeg p0) = some (c 0)) (hpol : ¬ c_rule = none → c_rule = some q0) {val : Nat × Int32 × (Nat → Int32) × (Nat → Int32) × Int32 × Int32 × Int32 × (Nat → Int32) × Int32 × Int32 × (Nat → Int32) × (Nat → Int32) × (Nat → Int32) × Int32 × (Nat → Int32) × (Nat → Int32)} (hf : F_X10_reshare co ch z pr le ec wt ev c_filled c_th c_ep c_rule c_cm c_vs c_es rs rc rd ful p0 p1 p2 = some val) : gCt l D cy yX10_reshare cX10_reshare 6 (some .int) 7 118 6 36 [.ref (v 0), .int p0, .int p1, .int p2] (gOpt c_rule ((wPo cy q0 q1 t0 t1 pparts pnest pnamed ful hash hz tn tb))) ((wV cy v (b 0) kp ak bf fa (r 0) ln co ch gs op) ++ (wSt cy b z pr le ec wt sa ev) ++ (wSec cy c c_filled c_th c_ep c_rule c_cm c_vs c_es) ++ (wRep cy r rs rc rd)) val.1 (fun _ : Unit => some (.int val.2.1)) (fun _ => (wV cy v (b 0) kp ak bf fa (r 0) ln val.2.2.1 val.2.2.2.1 gs op) ++ (wSt cy b val.2.2.2.2.1 pr val.2.2.2.2.2.1 val.2.2.2.2.2.2.1 wt sa val.2.2.2.2.2.2.2.1) ++ (wSec cy c c_filled val.2.2.2.2.2.2.2.2.1 val.2.2.2.2.2.2.2.2.2.1 c_rule val.2.2.2.2.2.2.2.2.2.2.1 val.2.2.2.2.2.2.2.2.2.2.2.1 val.2.2.2.2.2.2.2.2.2.2.2.2.1) ++ (wRep cy r val.2.2.2.2.2.2.2.2.2.2.2.2.2.1 val.2.2.2.2.2.2.2.2.2.2.2.2.2.2.1 val.2.2.2.2.2.2.2.2.2.2.2.2.2.2.2)) := by
  refine g_begin (by decide +kernel) (Nat.le_of_ble_eq_true rfl) ?_
  intro X Q hl hR hD hy hro hn C hin E
  subst hl; subst hD; subst hy
  replace C : gC X "SecretVault" cX10_reshare (some .int) := C
  unfold F_X10_reshare at hf
  show gW X Q 0 0 ((wV (x_y X) v (b 0) kp ak bf fa (r 0) ln co ch gs op) ++ (wSt (x_y X) b z pr le ec wt sa ev) ++ (wSec (x_y X) c c_filled c_th c_ep c_rule c_cm c_vs c_es) ++ (wRep (x_y X) r rs rc rd)) [(0, .ref (v 0)), (1, .int p0), (2, .int p1), (3, .int p2)] [] 0
  refine g_iload_n C 1 dX10_reshare_0 rfl ?_
  obtain ⟨v1, h2, hf⟩ := opt_bind hf
  refine g_callS C (c_X10_checkSlot (l := x_l X) (D := x_D X) (cy := x_y X) (p0 := p0) h2) (As := [.int p0]) (rest := []) (wr := (wV (x_y X) v (b 0) kp ak bf fa (r 0) ln co ch gs op) ++ (wSt (x_y X) b z pr le ec wt sa ev) ++ (wSec (x_y X) c c_filled c_th c_ep c_rule c_cm c_vs c_es) ++ (wRep (x_y X) r rs rc rd)) (ws' := fun _ => (wV (x_y X) v (b 0) kp ak bf fa (r 0) ln co ch gs op) ++ (wSt (x_y X) b z pr le ec wt sa ev) ++ (wSec (x_y X) c c_filled c_th c_ep c_rule c_cm c_vs c_es) ++ (wRep (x_y X) r rs rc rd)) (st' := fun _ => []) 1 mw_2_189 mw_1_1 mw_2_187 mw_2_188 hd_X10_checkSlot rfl (g_rm hR rfl rfl) [] [0, 1, 2, 3, 4, 5, 6, 7, 8, 9, 10, 11, 12, 13, 14, 15] [0, 1, 2, 3, 4, 5, 6, 7, 8, 9, 10, 11, 12, 13, 14, 15] ⟨rfl, rfl, rfl, rfl, by decide, gRoIn_0, rfl, fun _ => rfl⟩ rfl (Nat.le_of_ble_eq_true rfl) dX10_reshare_1 (g_rc hR (Nat.le_of_ble_eq_true rfl) (Nat.le_of_ble_eq_true rfl)) (ck' := 1) (sk' := 6) rfl rfl (fun _ => rfl) (fun _ ev1 => ?_) (fun _ ev1 => ?_)
  rotate_left
  · have hf := opt_neg ev1 hf
    obtain rfl := Option.some.inj hf
    exact g_out E () rfl ev1 rfl (Nat.le_of_ble_eq_true rfl) (Nat.le_of_ble_eq_true rfl)
  have hf := opt_pos ev1 hf
  refine g_iload_n C 2 dX10_reshare_4 rfl ?_
  obtain ⟨v3, h4, hf⟩ := opt_bind hf
  refine g_callS C (c_X10_checkSet (l := x_l X) (D := x_D X) (cy := x_y X) (p0 := p1) h4) (As := [.int p1]) (rest := []) (wr := (wV (x_y X) v (b 0) kp ak bf fa (r 0) ln co ch gs op) ++ (wSt (x_y X) b z pr le ec wt sa ev) ++ (wSec (x_y X) c c_filled c_th c_ep c_rule c_cm c_vs c_es) ++ (wRep (x_y X) r rs rc rd)) (ws' := fun _ => (wV (x_y X) v (b 0) kp ak bf fa (r 0) ln co ch gs op) ++ (wSt (x_y X) b z pr le ec wt sa ev) ++ (wSec (x_y X) c c_filled c_th c_ep c_rule c_cm c_vs c_es) ++ (wRep (x_y X) r rs rc rd)) (st' := fun _ => []) 1 mw_3_74 mw_1_1 mw_3_72 mw_3_73 hd_X10_checkSet rfl (g_rm hR rfl rfl) [] [0, 1, 2, 3, 4, 5, 6, 7, 8, 9, 10, 11, 12, 13, 14, 15] [0, 1, 2, 3, 4, 5, 6, 7, 8, 9, 10, 11, 12, 13, 14, 15] ⟨rfl, rfl, rfl, rfl, by decide, gRoIn_0, rfl, fun _ => rfl⟩ rfl (Nat.le_of_ble_eq_true rfl) dX10_reshare_5 (g_rc hR (Nat.le_of_ble_eq_true rfl) (Nat.le_of_ble_eq_true rfl)) (ck' := 2) (sk' := 12) rfl rfl (fun _ => rfl) (fun _ ev3 => ?_) (fun _ ev3 => ?_)
  rotate_left
  · have hf := opt_neg ev3 hf
    obtain rfl := Option.some.inj hf
    exact g_out E () rfl ev3 rfl (Nat.le_of_ble_eq_true rfl) (Nat.le_of_ble_eq_true rfl)
  have hf := opt_pos ev3 hf
  refine g_iload_n C 3 dX10_reshare_8 rfl ?_
  obtain ⟨v5, h6, hf⟩ := opt_bind hf
  refine g_callS C (c_X10_checkThreshold (l := x_l X) (D := x_D X) (cy := x_y X) (p0 := p2) h6) (As := [.int p2]) (rest := []) (wr := (wV (x_y X) v (b 0) kp ak bf fa (r 0) ln co ch gs op) ++ (wSt (x_y X) b z pr le ec wt sa ev) ++ (wSec (x_y X) c c_filled c_th c_ep c_rule c_cm c_vs c_es) ++ (wRep (x_y X) r rs rc rd)) (ws' := fun _ => (wV (x_y X) v (b 0) kp ak bf fa (r 0) ln co ch gs op) ++ (wSt (x_y X) b z pr le ec wt sa ev) ++ (wSec (x_y X) c c_filled c_th c_ep c_rule c_cm c_vs c_es) ++ (wRep (x_y X) r rs rc rd)) (st' := fun _ => []) 1 mw_2_197 mw_1_1 mw_2_195 mw_2_196 hd_X10_checkThreshold rfl (g_rm hR rfl rfl) [] [0, 1, 2, 3, 4, 5, 6, 7, 8, 9, 10, 11, 12, 13, 14, 15] [0, 1, 2, 3, 4, 5, 6, 7, 8, 9, 10, 11, 12, 13, 14, 15] ⟨rfl, rfl, rfl, rfl, by decide, gRoIn_0, rfl, fun _ => rfl⟩ rfl (Nat.le_of_ble_eq_true rfl) dX10_reshare_9 (g_rc hR (Nat.le_of_ble_eq_true rfl) (Nat.le_of_ble_eq_true rfl)) (ck' := 3) (sk' := 18) rfl rfl (fun _ => rfl) (fun _ ev5 => ?_) (fun _ ev5 => ?_)
  rotate_left
  · have hf := opt_neg ev5 hf
    obtain rfl := Option.some.inj hf
    exact g_out E () rfl ev5 rfl (Nat.le_of_ble_eq_true rfl) (Nat.le_of_ble_eq_true rfl)
  have hf := opt_pos ev5 hf
  refine g_aload_n C 0 dX10_reshare_12 rfl ?_
  refine g_iload_n C 1 dX10_reshare_13 rfl ?_
  obtain ⟨v7, h8, hf⟩ := opt_bind hf
  refine g_callV C (c_X10_secretIn (l := x_l X) (D := x_D X) (cy := x_y X) (v := v) (b := b) (c := c) (kp := kp) (ak := ak) (bf := bf) (fa := fa) (fl := (r 0)) (ln := ln) (co := co) (ch := ch) (gs := gs) (op := op) (z := z) (pr := pr) (le := le) (ec := ec) (wt := wt) (sa := sa) (ev := ev) (c_filled := c_filled) (c_th := c_th) (c_ep := c_ep) (c_rule := c_rule) (c_cm := c_cm) (c_vs := c_vs) (c_es := c_es) (p0 := p0) (hs := hs) h8) (As := [.int p0]) (rest := []) (wr := (wRep (x_y X) r rs rc rd)) (ws' := fun _ => (wV (x_y X) v (b 0) kp ak bf fa (r 0) ln co ch gs op) ++ (wSt (x_y X) b z pr le ec wt sa ev) ++ (wSec (x_y X) c c_filled c_th c_ep c_rule c_cm c_vs c_es) ++ (wRep (x_y X) r rs rc rd)) (st' := fun _ => [.ref (c 0)]) (ci := 11) 1 0 ⟨_, rfl⟩ rfl rfl mw_3_34 mw_1_1 mw_3_31 mw_3_33 mp_5 hd_X10_secretIn rfl (g_rm hR rfl rfl) [0, 1, 2, 3, 4, 5, 6, 7, 8, 9, 10, 11, 12] [13, 14, 15] [3, 4, 5, 6, 7, 8, 9, 10, 11, 12, 13, 14, 15, 0, 1, 2] ⟨rfl, rfl, rfl, rfl, by decide, gRoIn_0, rfl, fun _ => rfl⟩ rfl (Nat.le_of_ble_eq_true rfl) dX10_reshare_14 (g_rc hR (Nat.le_of_ble_eq_true rfl) (Nat.le_of_ble_eq_true rfl)) (ck' := 4) (sk' := 24) rfl rfl (fun _ => rfl) (fun _ ev7 => ?_) (fun _ ev7 => ?_)
  rotate_left
  · have hf := opt_neg ev7 hf
    obtain rfl := Option.some.inj hf
    exact g_out E () rfl ev7 rfl (Nat.le_of_ble_eq_true rfl) (Nat.le_of_ble_eq_true rfl)
  have hf := opt_pos ev7 hf
  refine g_astore C (lv' := [(4, .ref (c 0)), (0, .ref (v 0)), (1, .int p0), (2, .int p1), (3, .int p2)]) dX10_reshare_17 (g_nlt hn rfl) rfl ?_
  refine g_aload_n C 1 dX10_reshare_19 rfl ?_
  refine g_iload_n C 2 dX10_reshare_20 rfl ?_
  refine g_aload C 0 dX10_reshare_21 rfl ?_
  refine g_iload_n C 3 dX10_reshare_23 rfl ?_
  obtain ⟨v9, h10, hf⟩ := opt_bind hf
  refine g_callV C (c_X10_chooseForOpening (l := x_l X) (D := x_D X) (cy := x_y X) (v := v) (b := b) (c := c) (r := r) (q0 := q0) (q1 := q1) (t0 := t0) (t1 := t1) (kp := kp) (ak := ak) (bf := bf) (fa := fa) (ln := ln) (co := co) (ch := ch) (gs := gs) (op := op) (z := z) (pr := pr) (le := le) (ec := ec) (wt := wt) (sa := sa) (ev := ev) (c_filled := c_filled) (c_th := c_th) (c_ep := c_ep) (c_rule := c_rule) (c_cm := c_cm) (c_vs := c_vs) (c_es := c_es) (rs := rs) (rc := rc) (rd := rd) (pparts := pparts) (pnest := pnest) (pnamed := pnamed) (ful := ful) (hash := hash) (hz := hz) (tn := tn) (tb := tb) (p0 := p0) (p2 := p1) (hpol := hpol) h10) (As := [.int p0, .ref (c 0), .int p1]) (rest := []) (wr := []) (ws' := fun _ => (wV (x_y X) v (b 0) kp ak bf fa (r 0) ln co v9.2.1 gs op) ++ (wSt (x_y X) b z pr le ec wt sa ev) ++ (wSec (x_y X) c c_filled c_th c_ep c_rule c_cm c_vs c_es) ++ (wRep (x_y X) r v9.2.2.1 v9.2.2.2.1 v9.2.2.2.2)) (st' := fun _ => []) (ci := 11) 3 0 ⟨_, rfl⟩ rfl rfl mw_3_79 mw_1_1 mw_3_76 mw_3_78 mp_7 hd_X10_chooseForOpening rfl (g_rm hR rfl rfl) [0, 1, 2, 3, 4, 5, 6, 7, 8, 9, 10, 11, 12, 13, 14, 15] [] [0, 1, 2, 3, 4, 5, 6, 7, 8, 9, 10, 11, 12, 13, 14, 15] ⟨rfl, rfl, rfl, rfl, by decide, gRoIn_all9 16 hro rfl rfl, rfl, fun _ => rfl⟩ rfl (Nat.le_of_ble_eq_true rfl) dX10_reshare_24 (g_rc hR (Nat.le_of_ble_eq_true rfl) (Nat.le_of_ble_eq_true rfl)) (ck' := 5) (sk' := 30) rfl rfl (fun _ => rfl) (fun _ ev9 => ?_) (fun _ ev9 => ?_)
  rotate_left
  · have hf := opt_neg ev9 hf
    obtain rfl := Option.some.inj hf
    exact g_out E () rfl ev9 rfl (Nat.le_of_ble_eq_true rfl) (Nat.le_of_ble_eq_true rfl)
  have hf := opt_pos ev9 hf
  refine g_aload_n C 1 dX10_reshare_27 rfl ?_
  refine g_iload_n C 4 dX10_reshare_28 rfl ?_
  obtain ⟨v11, h12, hf⟩ := opt_bind hf
  refine g_callV C (c_X10_checkPlacesSuffice (l := x_l X) (D := x_D X) (cy := x_y X) (v := v) (b := b) (kp := kp) (ak := ak) (bf := bf) (fa := fa) (fl := (r 0)) (ln := ln) (co := co) (ch := v9.2.1) (gs := gs) (op := op) (z := z) (pr := pr) (le := le) (ec := ec) (wt := wt) (sa := sa) (ev := ev) (p0 := p2) h12) (As := [.int p2]) (rest := []) (wr := (wSec (x_y X) c c_filled c_th c_ep c_rule c_cm c_vs c_es) ++ (wRep (x_y X) r v9.2.2.1 v9.2.2.2.1 v9.2.2.2.2)) (ws' := fun _ => (wV (x_y X) v (b 0) kp ak bf fa (r 0) ln co v9.2.1 gs op) ++ (wSt (x_y X) b z pr le ec wt sa ev) ++ (wSec (x_y X) c c_filled c_th c_ep c_rule c_cm c_vs c_es) ++ (wRep (x_y X) r v9.2.2.1 v9.2.2.2.1 v9.2.2.2.2)) (st' := fun _ => []) (ci := 11) 1 0 ⟨_, rfl⟩ rfl rfl mw_2_202 mw_1_1 mw_2_199 mw_2_201 mp_2 hd_X10_checkPlacesSuffice rfl (g_rm hR rfl rfl) [0, 1, 2, 3, 4, 5, 6, 7, 8] [9, 10, 11, 12, 13, 14, 15] [7, 8, 9, 10, 11, 12, 13, 14, 15, 0, 1, 2, 3, 4, 5, 6] ⟨rfl, rfl, rfl, rfl, by decide, gRoIn_0, rfl, fun _ => rfl⟩ rfl (Nat.le_of_ble_eq_true rfl) dX10_reshare_29 (g_rc hR (Nat.le_of_ble_eq_true rfl) (Nat.le_of_ble_eq_true rfl)) (ck' := 6) (sk' := 36) rfl rfl (fun _ => rfl) (fun _ ev11 => ?_) (fun _ ev11 => ?_)
  rotate_left
  · have hf := opt_neg ev11 hf
    obtain rfl := Option.some.inj hf
    exact g_out E () rfl ev11 rfl (Nat.le_of_ble_eq_true rfl) (Nat.le_of_ble_eq_true rfl)
  have hf := opt_pos ev11 hf
  refine g_aload_n C 1 dX10_reshare_32 rfl ?_
  refine g_aload C 0 dX10_reshare_33 rfl ?_
  refine g_aload C 0 dX10_reshare_35 rfl ?_
  refine g_aload_n C 1 dX10_reshare_37 rfl ?_
  refine g_get C 0 7 rfl rfl wiX10 (by decide) mw_1_178 rfl rfl dX10_reshare_38 ?_
  refine g_iconst C (v := 0) dX10_reshare_41 (by decide) ?_
  obtain ⟨v13, h14, hf⟩ := opt_bind hf
  refine g_callV C (c_X7_valueThrough (l := x_l X) (D := x_D X) (cy := x_y X) (a := c) (ca := (v 2)) (filled := c_filled) (th := c_th) (ep := c_ep) (rule := c_rule) (cm := c_cm) (vs := c_vs) (es := c_es) (pa := v9.2.1) (p1 := 0) h14) (As := [.ref (v 2), .int 0]) (rest := [.ref (c 0), .ref (v 0)]) (wr := [((v 0), .inr (11, [.ref (b 0), .ref kp, .int ak, .ref bf, .int fa, .ref (r 0), .ref (v 1), .ref (v 2), .ref (v 3), .ref (v 4), .ref ln])), ((v 1), .inl ((x_y X) 0, 8, .inl co)), ((v 3), .inl ((x_y X) 0, 8, .inl gs)), ((v 4), .inl ((x_y X) 1, 256, .inl op))] ++ (wSt (x_y X) b z pr le ec wt sa ev) ++ (wRep (x_y X) r v9.2.2.1 v9.2.2.2.1 v9.2.2.2.2)) (ws' := fun _ => (wV (x_y X) v (b 0) kp ak bf fa (r 0) ln co v9.2.1 gs op) ++ (wSt (x_y X) b z pr le ec wt sa ev) ++ (wSec (x_y X) c c_filled c_th c_ep c_rule c_cm c_vs c_es) ++ (wRep (x_y X) r v9.2.2.1 v9.2.2.2.1 v9.2.2.2.2)) (st' := fun _ => [.int v13, .ref (c 0), .ref (v 0)]) (ci := 8) 2 9 ⟨_, rfl⟩ rfl rfl mw_3_122 mw_1_3 mw_3_119 mw_3_120 mw_3_121 hd_X7_valueThrough rfl (g_rm hR rfl rfl) [9, 10, 11, 12, 2] [0, 1, 3, 4, 5, 6, 7, 8, 13, 14, 15] [0, 1, 15, 2, 3, 4, 5, 6, 7, 11, 12, 13, 14, 8, 9, 10] ⟨rfl, rfl, rfl, rfl, by decide, gRoIn_0, rfl, fun _ => rfl⟩ rfl (Nat.le_of_ble_eq_true rfl) dX10_reshare_42 (g_rc hR (Nat.le_of_ble_eq_true rfl) (Nat.le_of_ble_eq_true rfl)) (ck' := 6) (sk' := 36) rfl rfl (fun _ => rfl) (fun _ _ => ?_) (fun _ hx => absurd rfl hx)
  refine g_iload_n C 4 dX10_reshare_45 rfl ?_
  refine g_aload C 0 dX10_reshare_46 rfl ?_
  refine g_get C 9 2 rfl rfl wiX7 (by decide) mw_1_65 rfl rfl dX10_reshare_48 ?_
  refine g_iconst C (v := 1) dX10_reshare_51 (by decide) ?_
  refine g_iadd C dX10_reshare_52 ?_
  obtain ⟨v15, h16, hf⟩ := opt_bind hf
  refine g_callV C (c_X10_deal (l := x_l X) (D := x_D X) (cy := x_y X) (v := v) (b := b) (c := c) (kp := kp) (ak := ak) (bf := bf) (fa := fa) (fl := (r 0)) (ln := ln) (co := co) (ch := v9.2.1) (gs := gs) (op := op) (z := z) (pr := pr) (le := le) (ec := ec) (wt := wt) (sa := sa) (ev := ev) (c_filled := c_filled) (c_th := c_th) (c_ep := c_ep) (c_rule := c_rule) (c_cm := c_cm) (c_vs := c_vs) (c_es := c_es) (p1 := v13) (p2 := p2) (p3 := c_ep + 1) h16) (As := [.ref (c 0), .int v13, .int p2, .int (c_ep + 1)]) (rest := []) (wr := (wRep (x_y X) r v9.2.2.1 v9.2.2.2.1 v9.2.2.2.2)) (ws' := fun _ => (wV (x_y X) v (b 0) kp ak bf fa (r 0) ln v15.2.1 v9.2.1 gs op) ++ (wSt (x_y X) b v15.2.2.1 pr le ec wt sa ev) ++ (wSec (x_y X) c c_filled v15.2.2.2.1 v15.2.2.2.2.1 c_rule v15.2.2.2.2.2.1 v15.2.2.2.2.2.2.1 v15.2.2.2.2.2.2.2) ++ (wRep (x_y X) r v9.2.2.1 v9.2.2.2.1 v9.2.2.2.2)) (st' := fun _ => [.int v15.1]) (ci := 11) 4 0 ⟨_, rfl⟩ rfl rfl mw_2_227 mw_1_1 mw_2_224 mw_2_226 mp_3 hd_X10_deal rfl (g_rm hR rfl rfl) [0, 1, 2, 3, 4, 5, 6, 7, 8, 9, 10, 11, 12] [13, 14, 15] [3, 4, 5, 6, 7, 8, 9, 10, 11, 12, 13, 14, 15, 0, 1, 2] ⟨rfl, rfl, rfl, rfl, by decide, gRoIn_0, rfl, fun _ => rfl⟩ rfl (Nat.le_of_ble_eq_true rfl) dX10_reshare_53 (g_rc hR (Nat.le_of_ble_eq_true rfl) (Nat.le_of_ble_eq_true rfl)) (ck' := 6) (sk' := 36) rfl rfl (fun _ => rfl) (fun _ _ => ?_) (fun _ hx => absurd rfl hx)
  refine g_istore C (lv' := [(5, .int v15.1), (4, .ref (c 0)), (0, .ref (v 0)), (1, .int p0), (2, .int p1), (3, .int p2)]) dX10_reshare_56 (g_nlt hn rfl) rfl ?_
  refine g_aload_n C 2 dX10_reshare_58 rfl ?_
  refine g_get C 0 0 rfl rfl wiX10 (by decide) mw_1_171 rfl rfl dX10_reshare_59 ?_
  refine g_sipush C (v := 400) dX10_reshare_62 (by decide) ?_
  refine g_iload_n C 3 dX10_reshare_65 rfl ?_
  refine g_iadd C dX10_reshare_66 ?_
  obtain ⟨v17, h18, hf⟩ := opt_bind hf
  refine g_callV C (c_X9_note (l := x_l X) (D := x_D X) (cy := x_y X) (a := b) (z := v15.2.2.1) (pr := pr) (le := le) (ec := ec) (wt := wt) (sa := sa) (ev := ev) (p0 := (400 : Int32) + p0) h18) (As := [.int ((400 : Int32) + p0)]) (rest := []) (wr := (wV (x_y X) v (b 0) kp ak bf fa (r 0) ln v15.2.1 v9.2.1 gs op) ++ (wSec (x_y X) c c_filled v15.2.2.2.1 v15.2.2.2.2.1 c_rule v15.2.2.2.2.2.1 v15.2.2.2.2.2.2.1 v15.2.2.2.2.2.2.2) ++ (wRep (x_y X) r v9.2.2.1 v9.2.2.2.1 v9.2.2.2.2)) (ws' := fun _ => (wV (x_y X) v (b 0) kp ak bf fa (r 0) ln v15.2.1 v9.2.1 gs op) ++ (wSt (x_y X) b v15.2.2.1 pr v17.1 v17.2.1 wt sa v17.2.2) ++ (wSec (x_y X) c c_filled v15.2.2.2.1 v15.2.2.2.2.1 c_rule v15.2.2.2.2.2.1 v15.2.2.2.2.2.2.1 v15.2.2.2.2.2.2.2) ++ (wRep (x_y X) r v9.2.2.1 v9.2.2.2.1 v9.2.2.2.2)) (st' := fun _ => []) (ci := 10) 1 5 ⟨_, rfl⟩ rfl rfl mw_3_19 mw_1_2 mw_3_16 mw_3_17 mw_3_18 hd_X9_note rfl (g_rm hR rfl rfl) [5, 6, 7, 8] [0, 1, 2, 3, 4, 9, 10, 11, 12, 13, 14, 15] [0, 1, 2, 3, 4, 12, 13, 14, 15, 5, 6, 7, 8, 9, 10, 11] ⟨rfl, rfl, rfl, rfl, by decide, gRoIn_0, rfl, fun _ => rfl⟩ rfl (Nat.le_of_ble_eq_true rfl) dX10_reshare_67 (g_rc hR (Nat.le_of_ble_eq_true rfl) (Nat.le_of_ble_eq_true rfl)) (ck' := 6) (sk' := 36) rfl rfl (fun _ => rfl) (fun _ _ => ?_) (fun _ hx => absurd rfl hx)
  refine g_iload C 0 dX10_reshare_70 rfl ?_
  obtain rfl := Option.some.inj hf
  exact g_iret C E () dX10_reshare_72 rfl rfl rfl (Nat.le_of_ble_eq_true rfl) (Nat.le_of_ble_eq_true rfl)
/-! X10_enroll -/
theorem hd_X10_enroll : yX10_enroll.cls ≠ "java/lang/invoke/MethodHandle" ∧ yX10_enroll.cls ≠ "java/lang/invoke/VarHandle" ∧ (parseMethodDescriptor yX10_enroll.desc).map (fun d => d.parameters.length) = some 3 := by decide +kernel
def F_X10_enroll_L92  (K33 : (Nat → Int32) → Int32 → Int32 → (Nat → Int32) → (Nat → Int32) → (Nat → Int32) → Int32 → (Nat → Int32) → (Nat → Int32) → Int32 → Int32 → Option (Nat × Int32 × (Nat → Int32) × Int32 × Int32 × (Nat → Int32) × (Nat → Int32) × (Nat → Int32) × Int32 × (Nat → Int32) × (Nat → Int32))) (ch_92 : Nat → Int32) (le_92 : Int32) (ec_92 : Int32) (ev_92 : Nat → Int32) (c_vs_92 : Nat → Int32) (c_es_92 : Nat → Int32) (rs_92 : Int32) (rc_92 : Nat → Int32) (rd_92 : Nat → Int32) (l5_92 : Int32) (l6_92 : Int32) : Option (Nat × Int32 × (Nat → Int32) × Int32 × Int32 × (Nat → Int32) × (Nat → Int32) × (Nat → Int32) × Int32 × (Nat → Int32) × (Nat → Int32)) := K33 ch_92 le_92 ec_92 ev_92 c_vs_92 c_es_92 rs_92 rc_92 rd_92 l5_92 (l6_92 + 1)
def F_X10_enroll_L33 (wt : Nat → Int32) (c_th : Int32) (c_ep : Int32) (c_cm : Nat → Int32) (p0 : Int32) (p2 : Int32)  : Nat → (Nat → Int32) → Int32 → Int32 → (Nat → Int32) → (Nat → Int32) → (Nat → Int32) → Int32 → (Nat → Int32) → (Nat → Int32) → Int32 → Int32 → Option (Nat × Int32 × (Nat → Int32) × Int32 × Int32 × (Nat → Int32) × (Nat → Int32) × (Nat → Int32) × Int32 × (Nat → Int32) × (Nat → Int32))
  | 0, _, _, _, _, _, _, _, _, _, _, _ => none
  | n + 1, ch_33, le_33, ec_33, ev_33, c_vs_33, c_es_33, rs_33, rc_33, rd_33, l5_33, l6_33 => gg (gi p2 8) (if (wt (Int32.toNatClampNeg p2)) ≤ l6_33 then ((F_X9_note le_33 ec_33 ev_33 (((500 : Int32) + ((10 : Int32) * p0)) + p2)).bind fun v13 => some (0, l5_33, ch_33, v13.1, v13.2.1, v13.2.2, c_vs_33, c_es_33, rs_33, rc_33, rd_33)) else ((F_X10_firstPlace p2).bind fun v15 => (F_X7_holdsGood c_th c_ep c_cm c_vs_33 c_es_33 (v15 + l6_33)).bind fun v17 => if v17 = 0 then ((F_X7_valueThrough c_th c_vs_33 ch_33 (v15 + l6_33)).bind fun v20 => (F_X7_give c_vs_33 c_es_33 (v15 + l6_33) v20 c_ep).bind fun v22 => F_X10_enroll_L92 (F_X10_enroll_L33 wt c_th c_ep c_cm p0 p2 n) ch_33 le_33 ec_33 ev_33 v22.1 v22.2 rs_33 rc_33 rd_33 (l5_33 + 1) l6_33) else (F_X10_enroll_L92 (F_X10_enroll_L33 wt c_th c_ep c_cm p0 p2 n) ch_33 le_33 ec_33 ev_33 c_vs_33 c_es_33 rs_33 rc_33 rd_33 l5_33 l6_33)))
def F_X10_enroll (ch : Nat → Int32) (pr : Int32) (le : Int32) (ec : Int32) (wt : Nat → Int32) (ev : Nat → Int32) (c_filled : Int32) (c_th : Int32) (c_ep : Int32) (c_rule : Option Nat) (c_cm : Nat → Int32) (c_vs : Nat → Int32) (c_es : Nat → Int32) (rs : Int32) (rc : Nat → Int32) (rd : Nat → Int32) (ful : Nat → Int32) (p0 : Int32) (p1 : Int32) (p2 : Int32) : Option (Nat × Int32 × (Nat → Int32) × Int32 × Int32 × (Nat → Int32) × (Nat → Int32) × (Nat → Int32) × Int32 × (Nat → Int32) × (Nat → Int32)) := (F_X10_checkSlot p0).bind fun v1 => if v1 = 0 then ((F_X10_checkMember p2).bind fun v3 => if v3 = 0 then ((F_X10_checkSet p1).bind fun v5 => if v5 = 0 then ((F_X10_secretIn c_filled p0).bind fun v7 => if v7 = 0 then ((F_X10_chooseForOpening ch pr c_th c_ep c_rule c_cm c_vs c_es rs rc rd ful p0 p1).bind fun v9 => if v9.1 = 0 then (F_X10_enroll_L33 wt c_th c_ep c_cm p0 p2 1000 v9.2.1 le ec ev c_vs c_es v9.2.2.1 v9.2.2.2.1 v9.2.2.2.2 0 0) else some (v9.1, 0, v9.2.1, le, ec, ev, c_vs, c_es, v9.2.2.1, v9.2.2.2.1, v9.2.2.2.2)) else some (v7, 0, ch, le, ec, ev, c_vs, c_es, rs, rc, rd)) else some (v5, 0, ch, le, ec, ev, c_vs, c_es, rs, rc, rd)) else some (v3, 0, ch, le, ec, ev, c_vs, c_es, rs, rc, rd)) else some (v1, 0, ch, le, ec, ev, c_vs, c_es, rs, rc, rd)
set_option maxRecDepth 100000 in
set_option maxHeartbeats 4000000 in
theorem c_X10_enroll {l : Launch} {D : va_G} {cy : Nat → ClassId} {v : Nat → Nat} {b : Nat → Nat} {c : Nat → Nat} {r : Nat → Nat} {q0 q1 t0 t1 : Nat} {kp : Nat} {ak : Int32} {bf : Nat} {fa : Int32} {ln : Nat} {co : Nat → Int32} {ch : Nat → Int32} {gs : Nat → Int32} {op : Nat → Int32} {z : Int32} {pr : Int32} {le : Int32} {ec : Int32} {wt : Nat → Int32} {sa : Nat → Option Nat} {ev : Nat → Int32} {c_filled : Int32} {c_th : Int32} {c_ep : Int32} {c_rule : Option Nat} {c_cm : Nat → Int32} {c_vs : Nat → Int32} {c_es : Nat → Int32} {rs : Int32} {rc : Nat → Int32} {rd : Nat → Int32} {pparts : Int32} {pnest : Int32} {pnamed : Int32} {ful : Nat → Int32} {hash : Int32} {hz : Int32} {tn : Nat} {tb : Nat → Int32} {p0 : Int32} {p1 : Int32} {p2 : Int32} (hs : gi p0 4 = true → sa (Int32.toNatClampNeg p0) = some (c 0)) (hpol : ¬ c_rule = none → c_rule = some q0) {val : Nat × Int32 × (Nat → Int32) × Int32 × Int32 × (Nat → Int32) × (Nat → Int32) × (Nat → Int32) × Int32 × (Nat → Int32) × (Nat → Int32)} (hf : F_X10_enroll ch pr le ec wt ev c_filled c_th c_ep c_rule c_cm c_vs c_es rs rc rd ful p0 p1 p2 = some val) : gCt l D cy yX10_enroll cX10_enroll 8 (some .int) 7 118 5 30 [.ref (v 0), .int p0, .int p1, .int p2] (gOpt c_rule ((wPo cy q0 q1 t0 t1 pparts pnest pnamed ful hash hz tn tb))) ((wV cy v (b 0) kp ak bf fa (r 0) ln co ch gs op) ++ (wSt cy b z pr le ec wt sa ev) ++ (wSec cy c c_filled c_th c_ep c_rule c_cm c_vs c_es) ++ (wRep cy r rs rc rd)) val.1 (fun _ : Unit => some (.int val.2.1)) (fun _ => (wV cy v (b 0) kp ak bf fa (r 0) ln co val.2.2.1 gs op) ++ (wSt cy b z pr val.2.2.2.1 val.2.2.2.2.1 wt sa val.2.2.2.2.2.1) ++ (wSec cy c c_filled c_th c_ep c_rule c_cm val.2.2.2.2.2.2.1 val.2.2.2.2.2.2.2.1) ++ (wRep cy r val.2.2.2.2.2.2.2.2.1 val.2.2.2.2.2.2.2.2.2.1 val.2.2.2.2.2.2.2.2.2.2)) := by
  refine g_begin (by decide +kernel) (Nat.le_of_ble_eq_true rfl) ?_
  intro X Q hl hR hD hy hro hn C hin E
  subst hl; subst hD; subst hy
  replace C : gC X "SecretVault" cX10_enroll (some .int) := C
  unfold F_X10_enroll at hf
  have H33 : ∀ (n33 : Nat), ∀ (ch_33 : Nat → Int32) (le_33 : Int32) (ec_33 : Int32) (ev_33 : Nat → Int32) (c_vs_33 : Nat → Int32) (c_es_33 : Nat → Int32) (rs_33 : Int32) (rc_33 : Nat → Int32) (rd_33 : Nat → Int32) (l5_33 : Int32) (l6_33 : Int32), F_X10_enroll_L33 wt c_th c_ep c_cm p0 p2 n33 ch_33 le_33 ec_33 ev_33 c_vs_33 c_es_33 rs_33 rc_33 rd_33 l5_33 l6_33 = some val → gW X Q 5 30 ((wV (x_y X) v (b 0) kp ak bf fa (r 0) ln co ch_33 gs op) ++ (wSt (x_y X) b z pr le_33 ec_33 wt sa ev_33) ++ (wSec (x_y X) c c_filled c_th c_ep c_rule c_cm c_vs_33 c_es_33) ++ (wRep (x_y X) r rs_33 rc_33 rd_33)) [(0, .ref (v 0)), (1, .int p0), (2, .int p1), (3, .int p2), (4, .ref (c 0)), (5, .int l5_33), (6, .int l6_33)] [] 33 := by
    intro n33
    induction n33 with
    | zero => intros; rename_i hf; cases hf
    | succ n33 ih =>
      intro ch_33 le_33 ec_33 ev_33 c_vs_33 c_es_33 rs_33 rc_33 rd_33 l5_33 l6_33 hf
      have H33 := ih
      rw [F_X10_enroll_L33] at hf
      have H92 : ∀ (ch_92 : Nat → Int32) (le_92 : Int32) (ec_92 : Int32) (ev_92 : Nat → Int32) (c_vs_92 : Nat → Int32) (c_es_92 : Nat → Int32) (rs_92 : Int32) (rc_92 : Nat → Int32) (rd_92 : Nat → Int32) (l5_92 : Int32) (l6_92 : Int32), F_X10_enroll_L92 (F_X10_enroll_L33 wt c_th c_ep c_cm p0 p2 n33) ch_92 le_92 ec_92 ev_92 c_vs_92 c_es_92 rs_92 rc_92 rd_92 l5_92 l6_92 = some val → gW X Q 5 30 ((wV (x_y X) v (b 0) kp ak bf fa (r 0) ln co ch_92 gs op) ++ (wSt (x_y X) b z pr le_92 ec_92 wt sa ev_92) ++ (wSec (x_y X) c c_filled c_th c_ep c_rule c_cm c_vs_92 c_es_92) ++ (wRep (x_y X) r rs_92 rc_92 rd_92)) [(0, .ref (v 0)), (1, .int p0), (2, .int p1), (3, .int p2), (4, .ref (c 0)), (5, .int l5_92), (6, .int l6_92)] [] 92 := by
        intro ch_92 le_92 ec_92 ev_92 c_vs_92 c_es_92 rs_92 rc_92 rd_92 l5_92 l6_92 hf
        unfold F_X10_enroll_L92 at hf
        refine g_iinc C 6 (v := l6_92 + 1) (lv' := [(6, .int (l6_92 + 1)), (0, .ref (v 0)), (1, .int p0), (2, .int p1), (3, .int p2), (4, .ref (c 0)), (5, .int l5_92)]) dX10_enroll_92 rfl rfl (g_nlt hn rfl) rfl ?_
        refine g_goto C 33 dX10_enroll_95 (by decide) ?_
        refine gW.locals [1, 2, 3, 4, 5, 6, 0] rfl ?_
        exact H33 ch_92 le_92 ec_92 ev_92 c_vs_92 c_es_92 rs_92 rc_92 rd_92 l5_92 (l6_92 + 1) hf
      refine g_iload C 6 dX10_enroll_33 rfl ?_
      refine g_aload_n C 0 dX10_enroll_35 rfl ?_
      refine g_get C 0 0 rfl rfl wiX10 (by decide) mw_1_171 rfl rfl dX10_enroll_36 ?_
      refine g_get C 5 1 rfl rfl wiX9 (by decide) mw_1_93 rfl rfl dX10_enroll_39 ?_
      refine g_iload_n C 3 dX10_enroll_42 rfl ?_
      obtain ⟨c11, hf⟩ := gg_of hf
      refine g_iald C 6 rfl (gi_in c11) dX10_enroll_43 ?_
      refine g_icmp_ge C 98 dX10_enroll_44 (by decide) (fun c12 => ?_) (fun c12 => ?_)
      · have hf := opt_pos c12 hf
        refine g_aload_n C 0 dX10_enroll_98 rfl ?_
        refine g_get C 0 0 rfl rfl wiX10 (by decide) mw_1_171 rfl rfl dX10_enroll_99 ?_
        refine g_sipush C (v := 500) dX10_enroll_102 (by decide) ?_
        refine g_bipush C (v := 10) dX10_enroll_105 (by decide) ?_
        refine g_iload_n C 1 dX10_enroll_107 rfl ?_
        refine g_imul C dX10_enroll_108 ?_
        refine g_iadd C dX10_enroll_109 ?_
        refine g_iload_n C 3 dX10_enroll_110 rfl ?_
        refine g_iadd C dX10_enroll_111 ?_
        obtain ⟨v13, h14, hf⟩ := opt_bind hf
        refine g_callV C (c_X9_note (l := x_l X) (D := x_D X) (cy := x_y X) (a := b) (z := z) (pr := pr) (le := le_33) (ec := ec_33) (wt := wt) (sa := sa) (ev := ev_33) (p0 := ((500 : Int32) + ((10 : Int32) * p0)) + p2) h14) (As := [.int (((500 : Int32) + ((10 : Int32) * p0)) + p2)]) (rest := []) (wr := (wV (x_y X) v (b 0) kp ak bf fa (r 0) ln co ch_33 gs op) ++ (wSec (x_y X) c c_filled c_th c_ep c_rule c_cm c_vs_33 c_es_33) ++ (wRep (x_y X) r rs_33 rc_33 rd_33)) (ws' := fun _ => (wV (x_y X) v (b 0) kp ak bf fa (r 0) ln co ch_33 gs op) ++ (wSt (x_y X) b z pr v13.1 v13.2.1 wt sa v13.2.2) ++ (wSec (x_y X) c c_filled c_th c_ep c_rule c_cm c_vs_33 c_es_33) ++ (wRep (x_y X) r rs_33 rc_33 rd_33)) (st' := fun _ => []) (ci := 10) 1 5 ⟨_, rfl⟩ rfl rfl mw_3_19 mw_1_2 mw_3_16 mw_3_17 mw_3_18 hd_X9_note rfl (g_rm hR rfl rfl) [5, 6, 7, 8] [0, 1, 2, 3, 4, 9, 10, 11, 12, 13, 14, 15] [0, 1, 2, 3, 4, 12, 13, 14, 15, 5, 6, 7, 8, 9, 10, 11] ⟨rfl, rfl, rfl, rfl, by decide, gRoIn_0, rfl, fun _ => rfl⟩ rfl (Nat.le_of_ble_eq_true rfl) dX10_enroll_112 (g_rc hR (Nat.le_of_ble_eq_true rfl) (Nat.le_of_ble_eq_true rfl)) (ck' := 5) (sk' := 30) rfl rfl (fun _ => rfl) (fun _ _ => ?_) (fun _ hx => absurd rfl hx)
        refine g_iload C 5 dX10_enroll_115 rfl ?_
        obtain rfl := Option.some.inj hf
        exact g_iret C E () dX10_enroll_117 rfl rfl rfl (Nat.le_of_ble_eq_true rfl) (Nat.le_of_ble_eq_true rfl)
      · have hf := opt_neg c12 hf
        refine g_iload_n C 3 dX10_enroll_47 rfl ?_
        obtain ⟨v15, h16, hf⟩ := opt_bind hf
        refine g_callS C (c_X10_firstPlace (l := x_l X) (D := x_D X) (cy := x_y X) (p0 := p2) h16) (As := [.int p2]) (rest := []) (wr := (wV (x_y X) v (b 0) kp ak bf fa (r 0) ln co ch_33 gs op) ++ (wSt (x_y X) b z pr le_33 ec_33 wt sa ev_33) ++ (wSec (x_y X) c c_filled c_th c_ep c_rule c_cm c_vs_33 c_es_33) ++ (wRep (x_y X) r rs_33 rc_33 rd_33)) (ws' := fun _ => (wV (x_y X) v (b 0) kp ak bf fa (r 0) ln co ch_33 gs op) ++ (wSt (x_y X) b z pr le_33 ec_33 wt sa ev_33) ++ (wSec (x_y X) c c_filled c_th c_ep c_rule c_cm c_vs_33 c_es_33) ++ (wRep (x_y X) r rs_33 rc_33 rd_33)) (st' := fun _ => [.int v15]) 1 mw_3_8 mw_1_1 mw_3_136 mw_3_7 hd_X10_firstPlace rfl (g_rm hR rfl rfl) [] [0, 1, 2, 3, 4, 5, 6, 7, 8, 9, 10, 11, 12, 13, 14, 15] [0, 1, 2, 3, 4, 5, 6, 7, 8, 9, 10, 11, 12, 13, 14, 15] ⟨rfl, rfl, rfl, rfl, by decide, gRoIn_0, rfl, fun _ => rfl⟩ rfl (Nat.le_of_ble_eq_true rfl) dX10_enroll_48 (g_rc hR (Nat.le_of_ble_eq_true rfl) (Nat.le_of_ble_eq_true rfl)) (ck' := 5) (sk' := 30) rfl rfl (fun _ => rfl) (fun _ _ => ?_) (fun _ hx => absurd rfl hx)
        refine g_iload C 6 dX10_enroll_51 rfl ?_
        refine g_iadd C dX10_enroll_53 ?_
        refine g_istore C (lv' := [(7, .int (v15 + l6_33)), (0, .ref (v 0)), (1, .int p0), (2, .int p1), (3, .int p2), (4, .ref (c 0)), (5, .int l5_33), (6, .int l6_33)]) dX10_enroll_54 (g_nlt hn rfl) rfl ?_
        refine g_aload C 5 dX10_enroll_56 rfl ?_
        refine g_iload C 0 dX10_enroll_58 rfl ?_
        obtain ⟨v17, h18, hf⟩ := opt_bind hf
        refine g_callV C (c_X7_holdsGood (l := x_l X) (D := x_D X) (cy := x_y X) (a := c) (filled := c_filled) (th := c_th) (ep := c_ep) (rule := c_rule) (cm := c_cm) (vs := c_vs_33) (es := c_es_33) (p0 := v15 + l6_33) h18) (As := [.int (v15 + l6_33)]) (rest := []) (wr := (wV (x_y X) v (b 0) kp ak bf fa (r 0) ln co ch_33 gs op) ++ (wSt (x_y X) b z pr le_33 ec_33 wt sa ev_33) ++ (wRep (x_y X) r rs_33 rc_33 rd_33)) (ws' := fun _ => (wV (x_y X) v (b 0) kp ak bf fa (r 0) ln co ch_33 gs op) ++ (wSt (x_y X) b z pr le_33 ec_33 wt sa ev_33) ++ (wSec (x_y X) c c_filled c_th c_ep c_rule c_cm c_vs_33 c_es_33) ++ (wRep (x_y X) r rs_33 rc_33 rd_33)) (st' := fun _ => [.int v17]) (ci := 8) 1 9 ⟨_, rfl⟩ rfl rfl mw_3_140 mw_1_3 mw_3_137 mw_3_138 mw_3_139 hd_X7_holdsGood rfl (g_rm hR rfl rfl) [9, 10, 11, 12] [0, 1, 2, 3, 4, 5, 6, 7, 8, 13, 14, 15] [0, 1, 2, 3, 4, 5, 6, 7, 8, 12, 13, 14, 15, 9, 10, 11] ⟨rfl, rfl, rfl, rfl, by decide, gRoIn_0, rfl, fun _ => rfl⟩ rfl (Nat.le_of_ble_eq_true rfl) dX10_enroll_60 (g_rc hR (Nat.le_of_ble_eq_true rfl) (Nat.le_of_ble_eq_true rfl)) (ck' := 5) (sk' := 30) rfl rfl (fun _ => rfl) (fun _ _ => ?_) (fun _ hx => absurd rfl hx)
        refine g_if_ne C 92 dX10_enroll_63 (by decide) (fun c19 => ?_) (fun c19 => ?_)
        · have hf := opt_neg c19 hf
          refine gW.locals [1, 2, 3, 4, 5, 6, 7] rfl ?_
          exact H92 ch_33 le_33 ec_33 ev_33 c_vs_33 c_es_33 rs_33 rc_33 rd_33 l5_33 l6_33 hf
        · have hf := opt_pos c19 hf
          refine g_aload C 5 dX10_enroll_66 rfl ?_
          refine g_iload C 0 dX10_enroll_68 rfl ?_
          refine g_aload C 5 dX10_enroll_70 rfl ?_
          refine g_aload_n C 1 dX10_enroll_72 rfl ?_
          refine g_get C 0 7 rfl rfl wiX10 (by decide) mw_1_178 rfl rfl dX10_enroll_73 ?_
          refine g_iload C 0 dX10_enroll_76 rfl ?_
          obtain ⟨v20, h21, hf⟩ := opt_bind hf
          refine g_callV C (c_X7_valueThrough (l := x_l X) (D := x_D X) (cy := x_y X) (a := c) (ca := (v 2)) (filled := c_filled) (th := c_th) (ep := c_ep) (rule := c_rule) (cm := c_cm) (vs := c_vs_33) (es := c_es_33) (pa := ch_33) (p1 := v15 + l6_33) h21) (As := [.ref (v 2), .int (v15 + l6_33)]) (rest := [.int (v15 + l6_33), .ref (c 0)]) (wr := [((v 0), .inr (11, [.ref (b 0), .ref kp, .int ak, .ref bf, .int fa, .ref (r 0), .ref (v 1), .ref (v 2), .ref (v 3), .ref (v 4), .ref ln])), ((v 1), .inl ((x_y X) 0, 8, .inl co)), ((v 3), .inl ((x_y X) 0, 8, .inl gs)), ((v 4), .inl ((x_y X) 1, 256, .inl op))] ++ (wSt (x_y X) b z pr le_33 ec_33 wt sa ev_33) ++ (wRep (x_y X) r rs_33 rc_33 rd_33)) (ws' := fun _ => (wV (x_y X) v (b 0) kp ak bf fa (r 0) ln co ch_33 gs op) ++ (wSt (x_y X) b z pr le_33 ec_33 wt sa ev_33) ++ (wSec (x_y X) c c_filled c_th c_ep c_rule c_cm c_vs_33 c_es_33) ++ (wRep (x_y X) r rs_33 rc_33 rd_33)) (st' := fun _ => [.int v20, .int (v15 + l6_33), .ref (c 0)]) (ci := 8) 2 9 ⟨_, rfl⟩ rfl rfl mw_3_122 mw_1_3 mw_3_119 mw_3_120 mw_3_121 hd_X7_valueThrough rfl (g_rm hR rfl rfl) [9, 10, 11, 12, 2] [0, 1, 3, 4, 5, 6, 7, 8, 13, 14, 15] [0, 1, 15, 2, 3, 4, 5, 6, 7, 11, 12, 13, 14, 8, 9, 10] ⟨rfl, rfl, rfl, rfl, by decide, gRoIn_0, rfl, fun _ => rfl⟩ rfl (Nat.le_of_ble_eq_true rfl) dX10_enroll_78 (g_rc hR (Nat.le_of_ble_eq_true rfl) (Nat.le_of_ble_eq_true rfl)) (ck' := 5) (sk' := 30) rfl rfl (fun _ => rfl) (fun _ _ => ?_) (fun _ hx => absurd rfl hx)
          refine g_aload C 5 dX10_enroll_81 rfl ?_
          refine g_get C 9 2 rfl rfl wiX7 (by decide) mw_1_65 rfl rfl dX10_enroll_83 ?_
          obtain ⟨v22, h23, hf⟩ := opt_bind hf
          refine g_callV C (c_X7_give (l := x_l X) (D := x_D X) (cy := x_y X) (a := c) (filled := c_filled) (th := c_th) (ep := c_ep) (rule := c_rule) (cm := c_cm) (vs := c_vs_33) (es := c_es_33) (p0 := v15 + l6_33) (p1 := v20) (p2 := c_ep) h23) (As := [.int (v15 + l6_33), .int v20, .int c_ep]) (rest := []) (wr := (wV (x_y X) v (b 0) kp ak bf fa (r 0) ln co ch_33 gs op) ++ (wSt (x_y X) b z pr le_33 ec_33 wt sa ev_33) ++ (wRep (x_y X) r rs_33 rc_33 rd_33)) (ws' := fun _ => (wV (x_y X) v (b 0) kp ak bf fa (r 0) ln co ch_33 gs op) ++ (wSt (x_y X) b z pr le_33 ec_33 wt sa ev_33) ++ (wSec (x_y X) c c_filled c_th c_ep c_rule c_cm v22.1 v22.2) ++ (wRep (x_y X) r rs_33 rc_33 rd_33)) (st' := fun _ => []) (ci := 8) 3 9 ⟨_, rfl⟩ rfl rfl mw_3_15 mw_1_3 mw_3_12 mw_3_13 mw_3_14 hd_X7_give rfl (g_rm hR rfl rfl) [9, 10, 11, 12] [0, 1, 2, 3, 4, 5, 6, 7, 8, 13, 14, 15] [0, 1, 2, 3, 4, 5, 6, 7, 8, 12, 13, 14, 15, 9, 10, 11] ⟨rfl, rfl, rfl, rfl, by decide, gRoIn_0, rfl, fun _ => rfl⟩ rfl (Nat.le_of_ble_eq_true rfl) dX10_enroll_86 (g_rc hR (Nat.le_of_ble_eq_true rfl) (Nat.le_of_ble_eq_true rfl)) (ck' := 5) (sk' := 30) rfl rfl (fun _ => rfl) (fun _ _ => ?_) (fun _ hx => absurd rfl hx)
          refine g_iinc C 6 (v := l5_33 + 1) (lv' := [(5, .int (l5_33 + 1)), (7, .int (v15 + l6_33)), (0, .ref (v 0)), (1, .int p0), (2, .int p1), (3, .int p2), (4, .ref (c 0)), (6, .int l6_33)]) dX10_enroll_89 rfl rfl (g_nlt hn rfl) rfl ?_
          refine gW.locals [2, 3, 4, 5, 6, 0, 7] rfl ?_
          exact H92 ch_33 le_33 ec_33 ev_33 v22.1 v22.2 rs_33 rc_33 rd_33 (l5_33 + 1) l6_33 hf
  show gW X Q 0 0 ((wV (x_y X) v (b 0) kp ak bf fa (r 0) ln co ch gs op) ++ (wSt (x_y X) b z pr le ec wt sa ev) ++ (wSec (x_y X) c c_filled c_th c_ep c_rule c_cm c_vs c_es) ++ (wRep (x_y X) r rs rc rd)) [(0, .ref (v 0)), (1, .int p0), (2, .int p1), (3, .int p2)] [] 0
  refine g_iload_n C 1 dX10_enroll_0 rfl ?_
  obtain ⟨v1, h2, hf⟩ := opt_bind hf
  refine g_callS C (c_X10_checkSlot (l := x_l X) (D := x_D X) (cy := x_y X) (p0 := p0) h2) (As := [.int p0]) (rest := []) (wr := (wV (x_y X) v (b 0) kp ak bf fa (r 0) ln co ch gs op) ++ (wSt (x_y X) b z pr le ec wt sa ev) ++ (wSec (x_y X) c c_filled c_th c_ep c_rule c_cm c_vs c_es) ++ (wRep (x_y X) r rs rc rd)) (ws' := fun _ => (wV (x_y X) v (b 0) kp ak bf fa (r 0) ln co ch gs op) ++ (wSt (x_y X) b z pr le ec wt sa ev) ++ (wSec (x_y X) c c_filled c_th c_ep c_rule c_cm c_vs c_es) ++ (wRep (x_y X) r rs rc rd)) (st' := fun _ => []) 1 mw_2_189 mw_1_1 mw_2_187 mw_2_188 hd_X10_checkSlot rfl (g_rm hR rfl rfl) [] [0, 1, 2, 3, 4, 5, 6, 7, 8, 9, 10, 11, 12, 13, 14, 15] [0, 1, 2, 3, 4, 5, 6, 7, 8, 9, 10, 11, 12, 13, 14, 15] ⟨rfl, rfl, rfl, rfl, by decide, gRoIn_0, rfl, fun _ => rfl⟩ rfl (Nat.le_of_ble_eq_true rfl) dX10_enroll_1 (g_rc hR (Nat.le_of_ble_eq_true rfl) (Nat.le_of_ble_eq_true rfl)) (ck' := 1) (sk' := 6) rfl rfl (fun _ => rfl) (fun _ ev1 => ?_) (fun _ ev1 => ?_)
  rotate_left
  · have hf := opt_neg ev1 hf
    obtain rfl := Option.some.inj hf
    exact g_out E () rfl ev1 rfl (Nat.le_of_ble_eq_true rfl) (Nat.le_of_ble_eq_true rfl)
  have hf := opt_pos ev1 hf
  refine g_iload_n C 3 dX10_enroll_4 rfl ?_
  obtain ⟨v3, h4, hf⟩ := opt_bind hf
  refine g_callS C (c_X10_checkMember (l := x_l X) (D := x_D X) (cy := x_y X) (p0 := p2) h4) (As := [.int p2]) (rest := []) (wr := (wV (x_y X) v (b 0) kp ak bf fa (r 0) ln co ch gs op) ++ (wSt (x_y X) b z pr le ec wt sa ev) ++ (wSec (x_y X) c c_filled c_th c_ep c_rule c_cm c_vs c_es) ++ (wRep (x_y X) r rs rc rd)) (ws' := fun _ => (wV (x_y X) v (b 0) kp ak bf fa (r 0) ln co ch gs op) ++ (wSt (x_y X) b z pr le ec wt sa ev) ++ (wSec (x_y X) c c_filled c_th c_ep c_rule c_cm c_vs c_es) ++ (wRep (x_y X) r rs rc rd)) (st' := fun _ => []) 1 mw_2_97 mw_1_1 mw_2_95 mw_2_96 hd_X10_checkMember rfl (g_rm hR rfl rfl) [] [0, 1, 2, 3, 4, 5, 6, 7, 8, 9, 10, 11, 12, 13, 14, 15] [0, 1, 2, 3, 4, 5, 6, 7, 8, 9, 10, 11, 12, 13, 14, 15] ⟨rfl, rfl, rfl, rfl, by decide, gRoIn_0, rfl, fun _ => rfl⟩ rfl (Nat.le_of_ble_eq_true rfl) dX10_enroll_5 (g_rc hR (Nat.le_of_ble_eq_true rfl) (Nat.le_of_ble_eq_true rfl)) (ck' := 2) (sk' := 12) rfl rfl (fun _ => rfl) (fun _ ev3 => ?_) (fun _ ev3 => ?_)
  rotate_left
  · have hf := opt_neg ev3 hf
    obtain rfl := Option.some.inj hf
    exact g_out E () rfl ev3 rfl (Nat.le_of_ble_eq_true rfl) (Nat.le_of_ble_eq_true rfl)
  have hf := opt_pos ev3 hf
  refine g_iload_n C 2 dX10_enroll_8 rfl ?_
  obtain ⟨v5, h6, hf⟩ := opt_bind hf
  refine g_callS C (c_X10_checkSet (l := x_l X) (D := x_D X) (cy := x_y X) (p0 := p1) h6) (As := [.int p1]) (rest := []) (wr := (wV (x_y X) v (b 0) kp ak bf fa (r 0) ln co ch gs op) ++ (wSt (x_y X) b z pr le ec wt sa ev) ++ (wSec (x_y X) c c_filled c_th c_ep c_rule c_cm c_vs c_es) ++ (wRep (x_y X) r rs rc rd)) (ws' := fun _ => (wV (x_y X) v (b 0) kp ak bf fa (r 0) ln co ch gs op) ++ (wSt (x_y X) b z pr le ec wt sa ev) ++ (wSec (x_y X) c c_filled c_th c_ep c_rule c_cm c_vs c_es) ++ (wRep (x_y X) r rs rc rd)) (st' := fun _ => []) 1 mw_3_74 mw_1_1 mw_3_72 mw_3_73 hd_X10_checkSet rfl (g_rm hR rfl rfl) [] [0, 1, 2, 3, 4, 5, 6, 7, 8, 9, 10, 11, 12, 13, 14, 15] [0, 1, 2, 3, 4, 5, 6, 7, 8, 9, 10, 11, 12, 13, 14, 15] ⟨rfl, rfl, rfl, rfl, by decide, gRoIn_0, rfl, fun _ => rfl⟩ rfl (Nat.le_of_ble_eq_true rfl) dX10_enroll_9 (g_rc hR (Nat.le_of_ble_eq_true rfl) (Nat.le_of_ble_eq_true rfl)) (ck' := 3) (sk' := 18) rfl rfl (fun _ => rfl) (fun _ ev5 => ?_) (fun _ ev5 => ?_)
  rotate_left
  · have hf := opt_neg ev5 hf
    obtain rfl := Option.some.inj hf
    exact g_out E () rfl ev5 rfl (Nat.le_of_ble_eq_true rfl) (Nat.le_of_ble_eq_true rfl)
  have hf := opt_pos ev5 hf
  refine g_aload_n C 0 dX10_enroll_12 rfl ?_
  refine g_iload_n C 1 dX10_enroll_13 rfl ?_
  obtain ⟨v7, h8, hf⟩ := opt_bind hf
  refine g_callV C (c_X10_secretIn (l := x_l X) (D := x_D X) (cy := x_y X) (v := v) (b := b) (c := c) (kp := kp) (ak := ak) (bf := bf) (fa := fa) (fl := (r 0)) (ln := ln) (co := co) (ch := ch) (gs := gs) (op := op) (z := z) (pr := pr) (le := le) (ec := ec) (wt := wt) (sa := sa) (ev := ev) (c_filled := c_filled) (c_th := c_th) (c_ep := c_ep) (c_rule := c_rule) (c_cm := c_cm) (c_vs := c_vs) (c_es := c_es) (p0 := p0) (hs := hs) h8) (As := [.int p0]) (rest := []) (wr := (wRep (x_y X) r rs rc rd)) (ws' := fun _ => (wV (x_y X) v (b 0) kp ak bf fa (r 0) ln co ch gs op) ++ (wSt (x_y X) b z pr le ec wt sa ev) ++ (wSec (x_y X) c c_filled c_th c_ep c_rule c_cm c_vs c_es) ++ (wRep (x_y X) r rs rc rd)) (st' := fun _ => [.ref (c 0)]) (ci := 11) 1 0 ⟨_, rfl⟩ rfl rfl mw_3_34 mw_1_1 mw_3_31 mw_3_33 mp_5 hd_X10_secretIn rfl (g_rm hR rfl rfl) [0, 1, 2, 3, 4, 5, 6, 7, 8, 9, 10, 11, 12] [13, 14, 15] [3, 4, 5, 6, 7, 8, 9, 10, 11, 12, 13, 14, 15, 0, 1, 2] ⟨rfl, rfl, rfl, rfl, by decide, gRoIn_0, rfl, fun _ => rfl⟩ rfl (Nat.le_of_ble_eq_true rfl) dX10_enroll_14 (g_rc hR (Nat.le_of_ble_eq_true rfl) (Nat.le_of_ble_eq_true rfl)) (ck' := 4) (sk' := 24) rfl rfl (fun _ => rfl) (fun _ ev7 => ?_) (fun _ ev7 => ?_)
  rotate_left
  · have hf := opt_neg ev7 hf
    obtain rfl := Option.some.inj hf
    exact g_out E () rfl ev7 rfl (Nat.le_of_ble_eq_true rfl) (Nat.le_of_ble_eq_true rfl)
  have hf := opt_pos ev7 hf
  refine g_astore C (lv' := [(4, .ref (c 0)), (0, .ref (v 0)), (1, .int p0), (2, .int p1), (3, .int p2)]) dX10_enroll_17 (g_nlt hn rfl) rfl ?_
  refine g_aload_n C 1 dX10_enroll_19 rfl ?_
  refine g_iload_n C 2 dX10_enroll_20 rfl ?_
  refine g_aload C 0 dX10_enroll_21 rfl ?_
  refine g_iload_n C 3 dX10_enroll_23 rfl ?_
  obtain ⟨v9, h10, hf⟩ := opt_bind hf
  refine g_callV C (c_X10_chooseForOpening (l := x_l X) (D := x_D X) (cy := x_y X) (v := v) (b := b) (c := c) (r := r) (q0 := q0) (q1 := q1) (t0 := t0) (t1 := t1) (kp := kp) (ak := ak) (bf := bf) (fa := fa) (ln := ln) (co := co) (ch := ch) (gs := gs) (op := op) (z := z) (pr := pr) (le := le) (ec := ec) (wt := wt) (sa := sa) (ev := ev) (c_filled := c_filled) (c_th := c_th) (c_ep := c_ep) (c_rule := c_rule) (c_cm := c_cm) (c_vs := c_vs) (c_es := c_es) (rs := rs) (rc := rc) (rd := rd) (pparts := pparts) (pnest := pnest) (pnamed := pnamed) (ful := ful) (hash := hash) (hz := hz) (tn := tn) (tb := tb) (p0 := p0) (p2 := p1) (hpol := hpol) h10) (As := [.int p0, .ref (c 0), .int p1]) (rest := []) (wr := []) (ws' := fun _ => (wV (x_y X) v (b 0) kp ak bf fa (r 0) ln co v9.2.1 gs op) ++ (wSt (x_y X) b z pr le ec wt sa ev) ++ (wSec (x_y X) c c_filled c_th c_ep c_rule c_cm c_vs c_es) ++ (wRep (x_y X) r v9.2.2.1 v9.2.2.2.1 v9.2.2.2.2)) (st' := fun _ => []) (ci := 11) 3 0 ⟨_, rfl⟩ rfl rfl mw_3_79 mw_1_1 mw_3_76 mw_3_78 mp_7 hd_X10_chooseForOpening rfl (g_rm hR rfl rfl) [0, 1, 2, 3, 4, 5, 6, 7, 8, 9, 10, 11, 12, 13, 14, 15] [] [0, 1, 2, 3, 4, 5, 6, 7, 8, 9, 10, 11, 12, 13, 14, 15] ⟨rfl, rfl, rfl, rfl, by decide, gRoIn_all9 16 hro rfl rfl, rfl, fun _ => rfl⟩ rfl (Nat.le_of_ble_eq_true rfl) dX10_enroll_24 (g_rc hR (Nat.le_of_ble_eq_true rfl) (Nat.le_of_ble_eq_true rfl)) (ck' := 5) (sk' := 30) rfl rfl (fun _ => rfl) (fun _ ev9 => ?_) (fun _ ev9 => ?_)
  rotate_left
  · have hf := opt_neg ev9 hf
    obtain rfl := Option.some.inj hf
    exact g_out E () rfl ev9 rfl (Nat.le_of_ble_eq_true rfl) (Nat.le_of_ble_eq_true rfl)
  have hf := opt_pos ev9 hf
  refine g_iconst C (v := 0) dX10_enroll_27 (by decide) ?_
  refine g_istore C (lv' := [(5, .int 0), (4, .ref (c 0)), (0, .ref (v 0)), (1, .int p0), (2, .int p1), (3, .int p2)]) dX10_enroll_28 (g_nlt hn rfl) rfl ?_
  refine g_iconst C (v := 0) dX10_enroll_30 (by decide) ?_
  refine g_istore C (lv' := [(6, .int 0), (5, .int 0), (4, .ref (c 0)), (0, .ref (v 0)), (1, .int p0), (2, .int p1), (3, .int p2)]) dX10_enroll_31 (g_nlt hn rfl) rfl ?_
  refine gW.locals [3, 4, 5, 6, 2, 1, 0] rfl ?_
  exact H33 1000 v9.2.1 le ec ev c_vs c_es v9.2.2.1 v9.2.2.2.1 v9.2.2.2.2 0 0 hf
/-! X10_fulfils -/
theorem hd_X10_fulfils : yX10_fulfils.cls ≠ "java/lang/invoke/MethodHandle" ∧ yX10_fulfils.cls ≠ "java/lang/invoke/VarHandle" ∧ (parseMethodDescriptor yX10_fulfils.desc).map (fun d => d.parameters.length) = some 2 := by decide +kernel
def F_X10_fulfils (c_filled : Int32) (c_rule : Option Nat) (ful : Nat → Int32) (p0 : Int32) (p1 : Int32) : Option (Nat × Int32) := (F_X10_checkSlot p0).bind fun v1 => if v1 = 0 then ((F_X10_checkSet p1).bind fun v3 => if v3 = 0 then ((F_X10_secretIn c_filled p0).bind fun v5 => if v5 = 0 then ((F_X7_allows c_rule ful p1).bind fun v7 => gg (gnar .boolean v7) (some (0, v7))) else some (v5, 0)) else some (v3, 0)) else some (v1, 0)
set_option maxRecDepth 100000 in
set_option maxHeartbeats 4000000 in
theorem c_X10_fulfils {l : Launch} {D : va_G} {cy : Nat → ClassId} {v : Nat → Nat} {b : Nat → Nat} {c : Nat → Nat} {q0 q1 t0 t1 : Nat} {kp : Nat} {ak : Int32} {bf : Nat} {fa : Int32} {fl : Nat} {ln : Nat} {co : Nat → Int32} {ch : Nat → Int32} {gs : Nat → Int32} {op : Nat → Int32} {z : Int32} {pr : Int32} {le : Int32} {ec : Int32} {wt : Nat → Int32} {sa : Nat → Option Nat} {ev : Nat → Int32} {c_filled : Int32} {c_th : Int32} {c_ep : Int32} {c_rule : Option Nat} {c_cm : Nat → Int32} {c_vs : Nat → Int32} {c_es : Nat → Int32} {pparts : Int32} {pnest : Int32} {pnamed : Int32} {ful : Nat → Int32} {hash : Int32} {hz : Int32} {tn : Nat} {tb : Nat → Int32} {p0 : Int32} {p1 : Int32} (hs : gi p0 4 = true → sa (Int32.toNatClampNeg p0) = some (c 0)) (hpol : ¬ c_rule = none → c_rule = some q0) {val : Nat × Int32} (hf : F_X10_fulfils c_filled c_rule ful p0 p1 = some val) : gCt l D cy yX10_fulfils cX10_fulfils 3 (some .boolean) 7 104 3 18 [.ref (v 0), .int p0, .int p1] (gOpt c_rule ((wPo cy q0 q1 t0 t1 pparts pnest pnamed ful hash hz tn tb))) ((wV cy v (b 0) kp ak bf fa fl ln co ch gs op) ++ (wSt cy b z pr le ec wt sa ev) ++ (wSec cy c c_filled c_th c_ep c_rule c_cm c_vs c_es)) val.1 (fun _ : Unit => some (.int val.2)) (fun _ => (wV cy v (b 0) kp ak bf fa fl ln co ch gs op) ++ (wSt cy b z pr le ec wt sa ev) ++ (wSec cy c c_filled c_th c_ep c_rule c_cm c_vs c_es)) := by
  refine g_begin (by decide +kernel) (Nat.le_of_ble_eq_true rfl) ?_
  intro X Q hl hR hD hy hro hn C hin E
  subst hl; subst hD; subst hy
  replace C : gC X "SecretVault" cX10_fulfils (some .boolean) := C
  unfold F_X10_fulfils at hf
  show gW X Q 0 0 ((wV (x_y X) v (b 0) kp ak bf fa fl ln co ch gs op) ++ (wSt (x_y X) b z pr le ec wt sa ev) ++ (wSec (x_y X) c c_filled c_th c_ep c_rule c_cm c_vs c_es)) [(0, .ref (v 0)), (1, .int p0), (2, .int p1)] [] 0
  refine g_iload_n C 1 dX10_fulfils_0 rfl ?_
  obtain ⟨v1, h2, hf⟩ := opt_bind hf
  refine g_callS C (c_X10_checkSlot (l := x_l X) (D := x_D X) (cy := x_y X) (p0 := p0) h2) (As := [.int p0]) (rest := []) (wr := (wV (x_y X) v (b 0) kp ak bf fa fl ln co ch gs op) ++ (wSt (x_y X) b z pr le ec wt sa ev) ++ (wSec (x_y X) c c_filled c_th c_ep c_rule c_cm c_vs c_es)) (ws' := fun _ => (wV (x_y X) v (b 0) kp ak bf fa fl ln co ch gs op) ++ (wSt (x_y X) b z pr le ec wt sa ev) ++ (wSec (x_y X) c c_filled c_th c_ep c_rule c_cm c_vs c_es)) (st' := fun _ => []) 1 mw_2_189 mw_1_1 mw_2_187 mw_2_188 hd_X10_checkSlot rfl (g_rm hR rfl rfl) [] [0, 1, 2, 3, 4, 5, 6, 7, 8, 9, 10, 11, 12] [0, 1, 2, 3, 4, 5, 6, 7, 8, 9, 10, 11, 12] ⟨rfl, rfl, rfl, rfl, by decide, gRoIn_0, rfl, fun _ => rfl⟩ rfl (Nat.le_of_ble_eq_true rfl) dX10_fulfils_1 (g_rc hR (Nat.le_of_ble_eq_true rfl) (Nat.le_of_ble_eq_true rfl)) (ck' := 1) (sk' := 6) rfl rfl (fun _ => rfl) (fun _ ev1 => ?_) (fun _ ev1 => ?_)
  rotate_left
  · have hf := opt_neg ev1 hf
    obtain rfl := Option.some.inj hf
    exact g_out E () rfl ev1 rfl (Nat.le_of_ble_eq_true rfl) (Nat.le_of_ble_eq_true rfl)
  have hf := opt_pos ev1 hf
  refine g_iload_n C 2 dX10_fulfils_4 rfl ?_
  obtain ⟨v3, h4, hf⟩ := opt_bind hf
  refine g_callS C (c_X10_checkSet (l := x_l X) (D := x_D X) (cy := x_y X) (p0 := p1) h4) (As := [.int p1]) (rest := []) (wr := (wV (x_y X) v (b 0) kp ak bf fa fl ln co ch gs op) ++ (wSt (x_y X) b z pr le ec wt sa ev) ++ (wSec (x_y X) c c_filled c_th c_ep c_rule c_cm c_vs c_es)) (ws' := fun _ => (wV (x_y X) v (b 0) kp ak bf fa fl ln co ch gs op) ++ (wSt (x_y X) b z pr le ec wt sa ev) ++ (wSec (x_y X) c c_filled c_th c_ep c_rule c_cm c_vs c_es)) (st' := fun _ => []) 1 mw_3_74 mw_1_1 mw_3_72 mw_3_73 hd_X10_checkSet rfl (g_rm hR rfl rfl) [] [0, 1, 2, 3, 4, 5, 6, 7, 8, 9, 10, 11, 12] [0, 1, 2, 3, 4, 5, 6, 7, 8, 9, 10, 11, 12] ⟨rfl, rfl, rfl, rfl, by decide, gRoIn_0, rfl, fun _ => rfl⟩ rfl (Nat.le_of_ble_eq_true rfl) dX10_fulfils_5 (g_rc hR (Nat.le_of_ble_eq_true rfl) (Nat.le_of_ble_eq_true rfl)) (ck' := 2) (sk' := 12) rfl rfl (fun _ => rfl) (fun _ ev3 => ?_) (fun _ ev3 => ?_)
  rotate_left
  · have hf := opt_neg ev3 hf
    obtain rfl := Option.some.inj hf
    exact g_out E () rfl ev3 rfl (Nat.le_of_ble_eq_true rfl) (Nat.le_of_ble_eq_true rfl)
  have hf := opt_pos ev3 hf
  refine g_aload_n C 0 dX10_fulfils_8 rfl ?_
  refine g_iload_n C 1 dX10_fulfils_9 rfl ?_
  obtain ⟨v5, h6, hf⟩ := opt_bind hf
  refine g_callV C (c_X10_secretIn (l := x_l X) (D := x_D X) (cy := x_y X) (v := v) (b := b) (c := c) (kp := kp) (ak := ak) (bf := bf) (fa := fa) (fl := fl) (ln := ln) (co := co) (ch := ch) (gs := gs) (op := op) (z := z) (pr := pr) (le := le) (ec := ec) (wt := wt) (sa := sa) (ev := ev) (c_filled := c_filled) (c_th := c_th) (c_ep := c_ep) (c_rule := c_rule) (c_cm := c_cm) (c_vs := c_vs) (c_es := c_es) (p0 := p0) (hs := hs) h6) (As := [.int p0]) (rest := []) (wr := []) (ws' := fun _ => (wV (x_y X) v (b 0) kp ak bf fa fl ln co ch gs op) ++ (wSt (x_y X) b z pr le ec wt sa ev) ++ (wSec (x_y X) c c_filled c_th c_ep c_rule c_cm c_vs c_es)) (st' := fun _ => [.ref (c 0)]) (ci := 11) 1 0 ⟨_, rfl⟩ rfl rfl mw_3_34 mw_1_1 mw_3_31 mw_3_33 mp_5 hd_X10_secretIn rfl (g_rm hR rfl rfl) [0, 1, 2, 3, 4, 5, 6, 7, 8, 9, 10, 11, 12] [] [0, 1, 2, 3, 4, 5, 6, 7, 8, 9, 10, 11, 12] ⟨rfl, rfl, rfl, rfl, by decide, gRoIn_0, rfl, fun _ => rfl⟩ rfl (Nat.le_of_ble_eq_true rfl) dX10_fulfils_10 (g_rc hR (Nat.le_of_ble_eq_true rfl) (Nat.le_of_ble_eq_true rfl)) (ck' := 3) (sk' := 18) rfl rfl (fun _ => rfl) (fun _ ev5 => ?_) (fun _ ev5 => ?_)
  rotate_left
  · have hf := opt_neg ev5 hf
    obtain rfl := Option.some.inj hf
    exact g_out E () rfl ev5 rfl (Nat.le_of_ble_eq_true rfl) (Nat.le_of_ble_eq_true rfl)
  have hf := opt_pos ev5 hf
  refine g_iload_n C 2 dX10_fulfils_13 rfl ?_
  obtain ⟨v7, h8, hf⟩ := opt_bind hf
  refine g_callV C (c_X7_allows (l := x_l X) (D := x_D X) (cy := x_y X) (a := c) (q0 := q0) (q1 := q1) (t0 := t0) (t1 := t1) (filled := c_filled) (th := c_th) (ep := c_ep) (rule := c_rule) (cm := c_cm) (vs := c_vs) (es := c_es) (pparts := pparts) (pnest := pnest) (pnamed := pnamed) (ful := ful) (hash := hash) (hz := hz) (tn := tn) (tb := tb) (p0 := p1) (hpol := hpol) h8) (As := [.int p1]) (rest := []) (wr := (wV (x_y X) v (b 0) kp ak bf fa fl ln co ch gs op) ++ (wSt (x_y X) b z pr le ec wt sa ev)) (ws' := fun _ => (wV (x_y X) v (b 0) kp ak bf fa fl ln co ch gs op) ++ (wSt (x_y X) b z pr le ec wt sa ev) ++ (wSec (x_y X) c c_filled c_th c_ep c_rule c_cm c_vs c_es)) (st' := fun _ => [.int v7]) (ci := 8) 1 9 ⟨_, rfl⟩ rfl rfl mw_3_83 mw_1_3 mw_3_80 mw_3_81 mw_3_82 hd_X7_allows rfl (g_rm hR rfl rfl) [9, 10, 11, 12] [0, 1, 2, 3, 4, 5, 6, 7, 8] [0, 1, 2, 3, 4, 5, 6, 7, 8, 9, 10, 11, 12] ⟨rfl, rfl, rfl, rfl, by decide, gRoIn_all9 13 hro rfl rfl, rfl, fun _ => rfl⟩ rfl (Nat.le_of_ble_eq_true rfl) dX10_fulfils_14 (g_rc hR (Nat.le_of_ble_eq_true rfl) (Nat.le_of_ble_eq_true rfl)) (ck' := 3) (sk' := 18) rfl rfl (fun _ => rfl) (fun _ _ => ?_) (fun _ hx => absurd rfl hx)
  obtain ⟨c9, hf⟩ := gg_of hf
  obtain rfl := Option.some.inj hf
  exact g_zret C E () (gnar_of c9) dX10_fulfils_17 rfl rfl rfl (Nat.le_of_ble_eq_true rfl) (Nat.le_of_ble_eq_true rfl)
/-! X10_markOpeningSets -/
theorem hd_X10_markOpeningSets : yX10_markOpeningSets.cls ≠ "java/lang/invoke/MethodHandle" ∧ yX10_markOpeningSets.cls ≠ "java/lang/invoke/VarHandle" ∧ (parseMethodDescriptor yX10_markOpeningSets.desc).map (fun d => d.parameters.length) = some 1 := by decide +kernel
def F_X10_markOpeningSets_L83  (K38 : (Nat → Int32) → (Nat → Int32) → Int32 → Option ((Nat → Int32) × (Nat → Int32))) (gs_83 : Nat → Int32) (op_83 : Nat → Int32) (l2_83 : Int32) (s0_83 : Int32) (s1_83 : Int32) : Option ((Nat → Int32) × (Nat → Int32)) := gg (gi s1_83 256) (gl (upd op_83 (Int32.toNatClampNeg s1_83) (vp_nar .boolean s0_83)) fun f7 => K38 gs_83 f7 (l2_83 + 1))
def F_X10_markOpeningSets_L82  (K38 : (Nat → Int32) → (Nat → Int32) → Int32 → Option ((Nat → Int32) × (Nat → Int32))) (gs_82 : Nat → Int32) (op_82 : Nat → Int32) (l2_82 : Int32) (s0_82 : Int32) : Option ((Nat → Int32) × (Nat → Int32)) := F_X10_markOpeningSets_L83 K38 gs_82 op_82 l2_82 0 s0_82
def F_X10_markOpeningSets_L38 (pr : Int32) (c_th : Int32) (c_rule : Option Nat) (ful : Nat → Int32)  : Nat → (Nat → Int32) → (Nat → Int32) → Int32 → Option ((Nat → Int32) × (Nat → Int32))
  | 0, _, _, _ => none
  | n + 1, gs_38, op_38, l2_38 => if 256 ≤ l2_38 then (some (gs_38, op_38)) else ((F_X10_goodSharesOf gs_38 l2_38).bind fun v3 => if v3 < c_th then (F_X10_markOpeningSets_L82 (F_X10_markOpeningSets_L38 pr c_th c_rule ful n) gs_38 op_38 l2_38 l2_38) else ((F_X7_allows c_rule ful (l2_38 &&& pr)).bind fun v8 => if v8 = 0 then (F_X10_markOpeningSets_L82 (F_X10_markOpeningSets_L38 pr c_th c_rule ful n) gs_38 op_38 l2_38 l2_38) else (F_X10_markOpeningSets_L83 (F_X10_markOpeningSets_L38 pr c_th c_rule ful n) gs_38 op_38 l2_38 1 l2_38)))
def F_X10_markOpeningSets_L2 (pr : Int32) (c_th : Int32) (c_ep : Int32) (c_rule : Option Nat) (c_cm : Nat → Int32) (c_vs : Nat → Int32) (c_es : Nat → Int32) (ful : Nat → Int32)  : Nat → (Nat → Int32) → (Nat → Int32) → Int32 → Option ((Nat → Int32) × (Nat → Int32))
  | 0, _, _, _ => none
  | n + 1, gs_2, op_2, l2_2 => if 8 ≤ l2_2 then (F_X10_markOpeningSets_L38 pr c_th c_rule ful 1000 gs_2 op_2 0) else ((F_X7_shareCount_ c_th c_ep c_cm c_vs c_es (((1 : Int32) <<< (l2_2 &&& 31)) &&& pr) 0).bind fun v11 => gg (gi l2_2 8) (gl (upd gs_2 (Int32.toNatClampNeg l2_2) v11) fun f14 => F_X10_markOpeningSets_L2 pr c_th c_ep c_rule c_cm c_vs c_es ful n f14 op_2 (l2_2 + 1)))
def F_X10_markOpeningSets (gs : Nat → Int32) (op : Nat → Int32) (pr : Int32) (c_th : Int32) (c_ep : Int32) (c_rule : Option Nat) (c_cm : Nat → Int32) (c_vs : Nat → Int32) (c_es : Nat → Int32) (ful : Nat → Int32) : Option ((Nat → Int32) × (Nat → Int32)) := F_X10_markOpeningSets_L2 pr c_th c_ep c_rule c_cm c_vs c_es ful 1000 gs op 0
set_option maxRecDepth 100000 in
set_option maxHeartbeats 4000000 in
theorem c_X10_markOpeningSets {l : Launch} {D : va_G} {cy : Nat → ClassId} {v : Nat → Nat} {b : Nat → Nat} {c : Nat → Nat} {q0 q1 t0 t1 : Nat} {kp : Nat} {ak : Int32} {bf : Nat} {fa : Int32} {fl : Nat} {ln : Nat} {co : Nat → Int32} {ch : Nat → Int32} {gs : Nat → Int32} {op : Nat → Int32} {z : Int32} {pr : Int32} {le : Int32} {ec : Int32} {wt : Nat → Int32} {sa : Nat → Option Nat} {ev : Nat → Int32} {c_filled : Int32} {c_th : Int32} {c_ep : Int32} {c_rule : Option Nat} {c_cm : Nat → Int32} {c_vs : Nat → Int32} {c_es : Nat → Int32} {pparts : Int32} {pnest : Int32} {pnamed : Int32} {ful : Nat → Int32} {hash : Int32} {hz : Int32} {tn : Nat} {tb : Nat → Int32}  (hpol : ¬ c_rule = none → c_rule = some q0) {val : (Nat → Int32) × (Nat → Int32)} (hf : F_X10_markOpeningSets gs op pr c_th c_ep c_rule c_cm c_vs c_es ful = some val) : gCt l D cy yX10_markOpeningSets cX10_markOpeningSets 3 none 4 92 0 0 [.ref (v 0), .ref (c 0)] (gOpt c_rule ((wPo cy q0 q1 t0 t1 pparts pnest pnamed ful hash hz tn tb))) ((wV cy v (b 0) kp ak bf fa fl ln co ch gs op) ++ (wSt cy b z pr le ec wt sa ev) ++ (wSec cy c c_filled c_th c_ep c_rule c_cm c_vs c_es)) 0 (fun _ : Unit => none) (fun _ => (wV cy v (b 0) kp ak bf fa fl ln co ch val.1 val.2) ++ (wSt cy b z pr le ec wt sa ev) ++ (wSec cy c c_filled c_th c_ep c_rule c_cm c_vs c_es)) := by
  refine g_begin (by decide +kernel) (Nat.le_of_ble_eq_true rfl) ?_
  intro X Q hl hR hD hy hro hn C hin E
  subst hl; subst hD; subst hy
  replace C : gC X "SecretVault" cX10_markOpeningSets none := C
  unfold F_X10_markOpeningSets at hf
  have H38 : ∀ (n38 : Nat), ∀ (gs_38 : Nat → Int32) (op_38 : Nat → Int32) (l2_38 : Int32), F_X10_markOpeningSets_L38 pr c_th c_rule ful n38 gs_38 op_38 l2_38 = some val → gW X Q 0 0 ((wV (x_y X) v (b 0) kp ak bf fa fl ln co ch gs_38 op_38) ++ (wSt (x_y X) b z pr le ec wt sa ev) ++ (wSec (x_y X) c c_filled c_th c_ep c_rule c_cm c_vs c_es)) [(0, .ref (v 0)), (1, .ref (c 0)), (2, .int l2_38)] [] 38 := by
    intro n38
    induction n38 with
    | zero => intros; rename_i hf; cases hf
    | succ n38 ih =>
      intro gs_38 op_38 l2_38 hf
      have H38 := ih
      rw [F_X10_markOpeningSets_L38] at hf
      have H83 : ∀ (gs_83 : Nat → Int32) (op_83 : Nat → Int32) (l2_83 : Int32) (s0_83 : Int32) (s1_83 : Int32), F_X10_markOpeningSets_L83 (F_X10_markOpeningSets_L38 pr c_th c_rule ful n38) gs_83 op_83 l2_83 s0_83 s1_83 = some val → gW X Q 0 0 ((wV (x_y X) v (b 0) kp ak bf fa fl ln co ch gs_83 op_83) ++ (wSt (x_y X) b z pr le ec wt sa ev) ++ (wSec (x_y X) c c_filled c_th c_ep c_rule c_cm c_vs c_es)) [(0, .ref (v 0)), (1, .ref (c 0)), (2, .int l2_83)] [.int s0_83, .int s1_83, .ref (v 4)] 83 := by
        intro gs_83 op_83 l2_83 s0_83 s1_83 hf
        unfold F_X10_markOpeningSets_L83 at hf
        obtain ⟨c6, hf⟩ := gg_of hf
        obtain ⟨f7, ef7, hf⟩ := opt_let hf
        refine g_zast C (ws' := (wV (x_y X) v (b 0) kp ak bf fa fl ln co ch gs_83 f7) ++ (wSt (x_y X) b z pr le ec wt sa ev) ++ (wSec (x_y X) c c_filled c_th c_ep c_rule c_cm c_vs c_es)) 4 rfl (gi_in c6) (by rw [ef7]; rfl) dX10_markOpeningSets_83 ?_
        refine g_iinc C 2 (v := l2_83 + 1) (lv' := [(2, .int (l2_83 + 1)), (0, .ref (v 0)), (1, .ref (c 0))]) dX10_markOpeningSets_84 rfl rfl (g_nlt hn rfl) rfl ?_
        refine g_goto C 38 dX10_markOpeningSets_87 (by decide) ?_
        refine gW.locals [1, 2, 0] rfl ?_
        exact H38 gs_83 f7 (l2_83 + 1) hf
      have H82 : ∀ (gs_82 : Nat → Int32) (op_82 : Nat → Int32) (l2_82 : Int32) (s0_82 : Int32), F_X10_markOpeningSets_L82 (F_X10_markOpeningSets_L38 pr c_th c_rule ful n38) gs_82 op_82 l2_82 s0_82 = some val → gW X Q 0 0 ((wV (x_y X) v (b 0) kp ak bf fa fl ln co ch gs_82 op_82) ++ (wSt (x_y X) b z pr le ec wt sa ev) ++ (wSec (x_y X) c c_filled c_th c_ep c_rule c_cm c_vs c_es)) [(0, .ref (v 0)), (1, .ref (c 0)), (2, .int l2_82)] [.int s0_82, .ref (v 4)] 82 := by
        intro gs_82 op_82 l2_82 s0_82 hf
        unfold F_X10_markOpeningSets_L82 at hf
        refine g_iconst C (v := 0) dX10_markOpeningSets_82 (by decide) ?_
        exact H83 gs_82 op_82 l2_82 0 s0_82 hf
      refine g_iload_n C 2 dX10_markOpeningSets_38 rfl ?_
      refine g_sipush C (v := 256) dX10_markOpeningSets_39 (by decide) ?_
      refine g_icmp_ge C 90 dX10_markOpeningSets_42 (by decide) (fun c2 => ?_) (fun c2 => ?_)
      · have hf := opt_pos c2 hf
        obtain rfl := Option.some.inj hf
        exact g_vret C E () dX10_markOpeningSets_90 rfl rfl rfl (Nat.le_of_ble_eq_true rfl) (Nat.le_of_ble_eq_true rfl)
      · have hf := opt_neg c2 hf
        refine g_aload_n C 0 dX10_markOpeningSets_45 rfl ?_
        refine g_get C 0 9 rfl rfl wiX10 (by decide) mw_1_180 rfl rfl dX10_markOpeningSets_46 ?_
        refine g_iload_n C 2 dX10_markOpeningSets_49 rfl ?_
        refine g_aload_n C 0 dX10_markOpeningSets_50 rfl ?_
        refine g_iload_n C 2 dX10_markOpeningSets_51 rfl ?_
        obtain ⟨v3, h4, hf⟩ := opt_bind hf
        refine g_callV C (c_X10_goodSharesOf (l := x_l X) (D := x_D X) (cy := x_y X) (v := v) (nw := (b 0)) (kp := kp) (ak := ak) (bf := bf) (fa := fa) (fl := fl) (ln := ln) (co := co) (ch := ch) (gs := gs_38) (op := op_38) (p0 := l2_38) h4) (As := [.int l2_38]) (rest := [.int l2_38, .ref (v 4)]) (wr := (wSt (x_y X) b z pr le ec wt sa ev) ++ (wSec (x_y X) c c_filled c_th c_ep c_rule c_cm c_vs c_es)) (ws' := fun _ => (wV (x_y X) v (b 0) kp ak bf fa fl ln co ch gs_38 op_38) ++ (wSt (x_y X) b z pr le ec wt sa ev) ++ (wSec (x_y X) c c_filled c_th c_ep c_rule c_cm c_vs c_es)) (st' := fun _ => [.int v3, .int l2_38, .ref (v 4)]) (ci := 11) 1 0 ⟨_, rfl⟩ rfl rfl mw_6_94 mw_1_1 mw_6_91 mw_6_93 mp_26 hd_X10_goodSharesOf rfl (g_rm hR rfl rfl) [0, 1, 2, 3, 4] [5, 6, 7, 8, 9, 10, 11, 12] [8, 9, 10, 11, 12, 0, 1, 2, 3, 4, 5, 6, 7] ⟨rfl, rfl, rfl, rfl, by decide, gRoIn_0, rfl, fun _ => rfl⟩ rfl (Nat.le_of_ble_eq_true rfl) dX10_markOpeningSets_52 (g_rc hR (Nat.le_of_ble_eq_true rfl) (Nat.le_of_ble_eq_true rfl)) (ck' := 0) (sk' := 0) rfl rfl (fun _ => rfl) (fun _ _ => ?_) (fun _ hx => absurd rfl hx)
        refine g_aload_n C 1 dX10_markOpeningSets_55 rfl ?_
        refine g_get C 9 1 rfl rfl wiX7 (by decide) mw_1_63 rfl rfl dX10_markOpeningSets_56 ?_
        refine g_icmp_lt C 82 dX10_markOpeningSets_59 (by decide) (fun c5 => ?_) (fun c5 => ?_)
        · have hf := opt_pos c5 hf
          exact H82 gs_38 op_38 l2_38 l2_38 hf
        · have hf := opt_neg c5 hf
          refine g_aload_n C 1 dX10_markOpeningSets_62 rfl ?_
          refine g_iload_n C 2 dX10_markOpeningSets_63 rfl ?_
          refine g_aload_n C 0 dX10_markOpeningSets_64 rfl ?_
          refine g_get C 0 0 rfl rfl wiX10 (by decide) mw_1_171 rfl rfl dX10_markOpeningSets_65 ?_
          refine g_get C 5 2 rfl rfl wiX9 (by decide) mw_1_95 rfl rfl dX10_markOpeningSets_68 ?_
          refine g_iand C dX10_markOpeningSets_71 ?_
          obtain ⟨v8, h9, hf⟩ := opt_bind hf
          refine g_callV C (c_X7_allows (l := x_l X) (D := x_D X) (cy := x_y X) (a := c) (q0 := q0) (q1 := q1) (t0 := t0) (t1 := t1) (filled := c_filled) (th := c_th) (ep := c_ep) (rule := c_rule) (cm := c_cm) (vs := c_vs) (es := c_es) (pparts := pparts) (pnest := pnest) (pnamed := pnamed) (ful := ful) (hash := hash) (hz := hz) (tn := tn) (tb := tb) (p0 := l2_38 &&& pr) (hpol := hpol) h9) (As := [.int (l2_38 &&& pr)]) (rest := [.int l2_38, .ref (v 4)]) (wr := (wV (x_y X) v (b 0) kp ak bf fa fl ln co ch gs_38 op_38) ++ (wSt (x_y X) b z pr le ec wt sa ev)) (ws' := fun _ => (wV (x_y X) v (b 0) kp ak bf fa fl ln co ch gs_38 op_38) ++ (wSt (x_y X) b z pr le ec wt sa ev) ++ (wSec (x_y X) c c_filled c_th c_ep c_rule c_cm c_vs c_es)) (st' := fun _ => [.int v8, .int l2_38, .ref (v 4)]) (ci := 8) 1 9 ⟨_, rfl⟩ rfl rfl mw_3_83 mw_1_3 mw_3_80 mw_3_81 mw_3_82 hd_X7_allows rfl (g_rm hR rfl rfl) [9, 10, 11, 12] [0, 1, 2, 3, 4, 5, 6, 7, 8] [0, 1, 2, 3, 4, 5, 6, 7, 8, 9, 10, 11, 12] ⟨rfl, rfl, rfl, rfl, by decide, gRoIn_all9 13 hro rfl rfl, rfl, fun _ => rfl⟩ rfl (Nat.le_of_ble_eq_true rfl) dX10_markOpeningSets_72 (g_rc hR (Nat.le_of_ble_eq_true rfl) (Nat.le_of_ble_eq_true rfl)) (ck' := 0) (sk' := 0) rfl rfl (fun _ => rfl) (fun _ _ => ?_) (fun _ hx => absurd rfl hx)
          refine g_if_eq C 82 dX10_markOpeningSets_75 (by decide) (fun c10 => ?_) (fun c10 => ?_)
          · have hf := opt_pos c10 hf
            exact H82 gs_38 op_38 l2_38 l2_38 hf
          · have hf := opt_neg c10 hf
            refine g_iconst C (v := 1) dX10_markOpeningSets_78 (by decide) ?_
            refine g_goto C 83 dX10_markOpeningSets_79 (by decide) ?_
            exact H83 gs_38 op_38 l2_38 1 l2_38 hf
  have H2 : ∀ (n2 : Nat), ∀ (gs_2 : Nat → Int32) (op_2 : Nat → Int32) (l2_2 : Int32), F_X10_markOpeningSets_L2 pr c_th c_ep c_rule c_cm c_vs c_es ful n2 gs_2 op_2 l2_2 = some val → gW X Q 0 0 ((wV (x_y X) v (b 0) kp ak bf fa fl ln co ch gs_2 op_2) ++ (wSt (x_y X) b z pr le ec wt sa ev) ++ (wSec (x_y X) c c_filled c_th c_ep c_rule c_cm c_vs c_es)) [(0, .ref (v 0)), (1, .ref (c 0)), (2, .int l2_2)] [] 2 := by
    intro n2
    induction n2 with
    | zero => intros; rename_i hf; cases hf
    | succ n2 ih =>
      intro gs_2 op_2 l2_2 hf
      have H2 := ih
      rw [F_X10_markOpeningSets_L2] at hf
      refine g_iload_n C 2 dX10_markOpeningSets_2 rfl ?_
      refine g_bipush C (v := 8) dX10_markOpeningSets_3 (by decide) ?_
      refine g_icmp_ge C 36 dX10_markOpeningSets_5 (by decide) (fun c1 => ?_) (fun c1 => ?_)
      · have hf := opt_pos c1 hf
        refine g_iconst C (v := 0) dX10_markOpeningSets_36 (by decide) ?_
        refine g_istore_n C (lv' := [(2, .int 0), (0, .ref (v 0)), (1, .ref (c 0))]) dX10_markOpeningSets_37 (g_nlt hn rfl) rfl ?_
        refine gW.locals [1, 2, 0] rfl ?_
        exact H38 1000 gs_2 op_2 0 hf
      · have hf := opt_neg c1 hf
        refine g_aload_n C 0 dX10_markOpeningSets_8 rfl ?_
        refine g_get C 0 8 rfl rfl wiX10 (by decide) mw_1_179 rfl rfl dX10_markOpeningSets_9 ?_
        refine g_iload_n C 2 dX10_markOpeningSets_12 rfl ?_
        refine g_aload_n C 1 dX10_markOpeningSets_13 rfl ?_
        refine g_iconst C (v := 1) dX10_markOpeningSets_14 (by decide) ?_
        refine g_iload_n C 2 dX10_markOpeningSets_15 rfl ?_
        refine g_ishl C dX10_markOpeningSets_16 ?_
        refine g_aload_n C 0 dX10_markOpeningSets_17 rfl ?_
        refine g_get C 0 0 rfl rfl wiX10 (by decide) mw_1_171 rfl rfl dX10_markOpeningSets_18 ?_
        refine g_get C 5 2 rfl rfl wiX9 (by decide) mw_1_95 rfl rfl dX10_markOpeningSets_21 ?_
        refine g_iand C dX10_markOpeningSets_24 ?_
        refine g_iconst C (v := 0) dX10_markOpeningSets_25 (by decide) ?_
        obtain ⟨v11, h12, hf⟩ := opt_bind hf
        refine g_callV C (c_X7_shareCount_ (l := x_l X) (D := x_D X) (cy := x_y X) (a := c) (filled := c_filled) (th := c_th) (ep := c_ep) (rule := c_rule) (cm := c_cm) (vs := c_vs) (es := c_es) (p0 := ((1 : Int32) <<< (l2_2 &&& 31)) &&& pr) (p1 := 0) h12) (As := [.int (((1 : Int32) <<< (l2_2 &&& 31)) &&& pr), .int 0]) (rest := [.int l2_2, .ref (v 3)]) (wr := (wV (x_y X) v (b 0) kp ak bf fa fl ln co ch gs_2 op_2) ++ (wSt (x_y X) b z pr le ec wt sa ev)) (ws' := fun _ => (wV (x_y X) v (b 0) kp ak bf fa fl ln co ch gs_2 op_2) ++ (wSt (x_y X) b z pr le ec wt sa ev) ++ (wSec (x_y X) c c_filled c_th c_ep c_rule c_cm c_vs c_es)) (st' := fun _ => [.int v11, .int l2_2, .ref (v 3)]) (ci := 8) 2 9 ⟨_, rfl⟩ rfl rfl mw_2_163 mw_1_3 mw_2_160 mw_2_161 mw_2_162 hd_X7_shareCount_ rfl (g_rm hR rfl rfl) [9, 10, 11, 12] [0, 1, 2, 3, 4, 5, 6, 7, 8] [0, 1, 2, 3, 4, 5, 6, 7, 8, 9, 10, 11, 12] ⟨rfl, rfl, rfl, rfl, by decide, gRoIn_0, rfl, fun _ => rfl⟩ rfl (Nat.le_of_ble_eq_true rfl) dX10_markOpeningSets_26 (g_rc hR (Nat.le_of_ble_eq_true rfl) (Nat.le_of_ble_eq_true rfl)) (ck' := 0) (sk' := 0) rfl rfl (fun _ => rfl) (fun _ _ => ?_) (fun _ hx => absurd rfl hx)
        obtain ⟨c13, hf⟩ := gg_of hf
        obtain ⟨f14, ef14, hf⟩ := opt_let hf
        refine g_iast C (ws' := (wV (x_y X) v (b 0) kp ak bf fa fl ln co ch f14 op_2) ++ (wSt (x_y X) b z pr le ec wt sa ev) ++ (wSec (x_y X) c c_filled c_th c_ep c_rule c_cm c_vs c_es)) 3 rfl (gi_in c13) (by rw [ef14]; rfl) dX10_markOpeningSets_29 ?_
        refine g_iinc C 2 (v := l2_2 + 1) (lv' := [(2, .int (l2_2 + 1)), (0, .ref (v 0)), (1, .ref (c 0))]) dX10_markOpeningSets_30 rfl rfl (g_nlt hn rfl) rfl ?_
        refine g_goto C 2 dX10_markOpeningSets_33 (by decide) ?_
        refine gW.locals [1, 2, 0] rfl ?_
        exact H2 f14 op_2 (l2_2 + 1) hf
  show gW X Q 0 0 ((wV (x_y X) v (b 0) kp ak bf fa fl ln co ch gs op) ++ (wSt (x_y X) b z pr le ec wt sa ev) ++ (wSec (x_y X) c c_filled c_th c_ep c_rule c_cm c_vs c_es)) [(0, .ref (v 0)), (1, .ref (c 0))] [] 0
  refine g_iconst C (v := 0) dX10_markOpeningSets_0 (by decide) ?_
  refine g_istore_n C (lv' := [(2, .int 0), (0, .ref (v 0)), (1, .ref (c 0))]) dX10_markOpeningSets_1 (g_nlt hn rfl) rfl ?_
  refine gW.locals [1, 2, 0] rfl ?_
  exact H2 1000 gs op 0 hf
/-! X10_groups -/
theorem hd_X10_groups : yX10_groups.cls ≠ "java/lang/invoke/MethodHandle" ∧ yX10_groups.cls ≠ "java/lang/invoke/VarHandle" ∧ (parseMethodDescriptor yX10_groups.desc).map (fun d => d.parameters.length) = some 1 := by decide +kernel
def F_X10_groups_L39  (K17 : (Nat → Int32) → (Nat → Int32) → Int32 → Int32 → Option (Nat × Int32 × (Nat → Int32) × (Nat → Int32))) (gs_39 : Nat → Int32) (op_39 : Nat → Int32) (l3_39 : Int32) (s0_39 : Int32) (s1_39 : Int32) : Option (Nat × Int32 × (Nat → Int32) × (Nat → Int32)) := K17 gs_39 op_39 (s1_39 + s0_39) (l3_39 + 1)
def F_X10_groups_L17   : Nat → (Nat → Int32) → (Nat → Int32) → Int32 → Int32 → Option (Nat × Int32 × (Nat → Int32) × (Nat → Int32))
  | 0, _, _, _, _ => none
  | n + 1, gs_17, op_17, l2_17, l3_17 => if 256 ≤ l3_17 then (some (0, l2_17, gs_17, op_17)) else (gg (gi l3_17 256) (if (op_17 (Int32.toNatClampNeg l3_17)) = 0 then (F_X10_groups_L39 (F_X10_groups_L17 n) gs_17 op_17 l3_17 0 l2_17) else (F_X10_groups_L39 (F_X10_groups_L17 n) gs_17 op_17 l3_17 1 l2_17)))
def F_X10_groups (gs : Nat → Int32) (op : Nat → Int32) (pr : Int32) (c_filled : Int32) (c_th : Int32) (c_ep : Int32) (c_rule : Option Nat) (c_cm : Nat → Int32) (c_vs : Nat → Int32) (c_es : Nat → Int32) (ful : Nat → Int32) (p0 : Int32) : Option (Nat × Int32 × (Nat → Int32) × (Nat → Int32)) := (F_X10_checkSlot p0).bind fun v1 => if v1 = 0 then ((F_X10_secretIn c_filled p0).bind fun v3 => if v3 = 0 then ((F_X10_markOpeningSets gs op pr c_th c_ep c_rule c_cm c_vs c_es ful).bind fun v5 => F_X10_groups_L17 1000 v5.1 v5.2 0 0) else some (v3, 0, gs, op)) else some (v1, 0, gs, op)
set_option maxRecDepth 100000 in
set_option maxHeartbeats 4000000 in
theorem c_X10_groups {l : Launch} {D : va_G} {cy : Nat → ClassId} {v : Nat → Nat} {b : Nat → Nat} {c : Nat → Nat} {q0 q1 t0 t1 : Nat} {kp : Nat} {ak : Int32} {bf : Nat} {fa : Int32} {fl : Nat} {ln : Nat} {co : Nat → Int32} {ch : Nat → Int32} {gs : Nat → Int32} {op : Nat → Int32} {z : Int32} {pr : Int32} {le : Int32} {ec : Int32} {wt : Nat → Int32} {sa : Nat → Option Nat} {ev : Nat → Int32} {c_filled : Int32} {c_th : Int32} {c_ep : Int32} {c_rule : Option Nat} {c_cm : Nat → Int32} {c_vs : Nat → Int32} {c_es : Nat → Int32} {pparts : Int32} {pnest : Int32} {pnamed : Int32} {ful : Nat → Int32} {hash : Int32} {hz : Int32} {tn : Nat} {tb : Nat → Int32} {p0 : Int32} (hs : gi p0 4 = true → sa (Int32.toNatClampNeg p0) = some (c 0)) (hpol : ¬ c_rule = none → c_rule = some q0) {val : Nat × Int32 × (Nat → Int32) × (Nat → Int32)} (hf : F_X10_groups gs op pr c_filled c_th c_ep c_rule c_cm c_vs c_es ful p0 = some val) : gCt l D cy yX10_groups cX10_groups 4 (some .int) 7 114 2 12 [.ref (v 0), .int p0] (gOpt c_rule ((wPo cy q0 q1 t0 t1 pparts pnest pnamed ful hash hz tn tb))) ((wV cy v (b 0) kp ak bf fa fl ln co ch gs op) ++ (wSt cy b z pr le ec wt sa ev) ++ (wSec cy c c_filled c_th c_ep c_rule c_cm c_vs c_es)) val.1 (fun _ : Unit => some (.int val.2.1)) (fun _ => (wV cy v (b 0) kp ak bf fa fl ln co ch val.2.2.1 val.2.2.2) ++ (wSt cy b z pr le ec wt sa ev) ++ (wSec cy c c_filled c_th c_ep c_rule c_cm c_vs c_es)) := by
  refine g_begin (by decide +kernel) (Nat.le_of_ble_eq_true rfl) ?_
  intro X Q hl hR hD hy hro hn C hin E
  subst hl; subst hD; subst hy
  replace C : gC X "SecretVault" cX10_groups (some .int) := C
  unfold F_X10_groups at hf
  have H17 : ∀ (n17 : Nat), ∀ (gs_17 : Nat → Int32) (op_17 : Nat → Int32) (l2_17 : Int32) (l3_17 : Int32), F_X10_groups_L17 n17 gs_17 op_17 l2_17 l3_17 = some val → gW X Q 2 12 ((wV (x_y X) v (b 0) kp ak bf fa fl ln co ch gs_17 op_17) ++ (wSt (x_y X) b z pr le ec wt sa ev) ++ (wSec (x_y X) c c_filled c_th c_ep c_rule c_cm c_vs c_es)) [(0, .ref (v 0)), (1, .int p0), (2, .int l2_17), (3, .int l3_17)] [] 17 := by
    intro n17
    induction n17 with
    | zero => intros; rename_i hf; cases hf
    | succ n17 ih =>
      intro gs_17 op_17 l2_17 l3_17 hf
      have H17 := ih
      rw [F_X10_groups_L17] at hf
      have H39 : ∀ (gs_39 : Nat → Int32) (op_39 : Nat → Int32) (l3_39 : Int32) (s0_39 : Int32) (s1_39 : Int32), F_X10_groups_L39 (F_X10_groups_L17 n17) gs_39 op_39 l3_39 s0_39 s1_39 = some val → gW X Q 2 12 ((wV (x_y X) v (b 0) kp ak bf fa fl ln co ch gs_39 op_39) ++ (wSt (x_y X) b z pr le ec wt sa ev) ++ (wSec (x_y X) c c_filled c_th c_ep c_rule c_cm c_vs c_es)) [(0, .ref (v 0)), (1, .int p0), (3, .int l3_39)] [.int s0_39, .int s1_39] 39 := by
        intro gs_39 op_39 l3_39 s0_39 s1_39 hf
        unfold F_X10_groups_L39 at hf
        refine g_iadd C dX10_groups_39 ?_
        refine g_istore_n C (lv' := [(2, .int (s1_39 + s0_39)), (0, .ref (v 0)), (1, .int p0), (3, .int l3_39)]) dX10_groups_40 (g_nlt hn rfl) rfl ?_
        refine g_iinc C 3 (v := l3_39 + 1) (lv' := [(3, .int (l3_39 + 1)), (2, .int (s1_39 + s0_39)), (0, .ref (v 0)), (1, .int p0)]) dX10_groups_41 rfl rfl (g_nlt hn rfl) rfl ?_
        refine g_goto C 17 dX10_groups_44 (by decide) ?_
        refine gW.locals [2, 3, 1, 0] rfl ?_
        exact H17 gs_39 op_39 (s1_39 + s0_39) (l3_39 + 1) hf
      refine g_iload_n C 3 dX10_groups_17 rfl ?_
      refine g_sipush C (v := 256) dX10_groups_18 (by decide) ?_
      refine g_icmp_ge C 47 dX10_groups_21 (by decide) (fun c7 => ?_) (fun c7 => ?_)
      · have hf := opt_pos c7 hf
        refine g_iload_n C 2 dX10_groups_47 rfl ?_
        obtain rfl := Option.some.inj hf
        exact g_iret C E () dX10_groups_48 rfl rfl rfl (Nat.le_of_ble_eq_true rfl) (Nat.le_of_ble_eq_true rfl)
      · have hf := opt_neg c7 hf
        refine g_iload_n C 2 dX10_groups_24 rfl ?_
        refine g_aload_n C 0 dX10_groups_25 rfl ?_
        refine g_get C 0 9 rfl rfl wiX10 (by decide) mw_1_180 rfl rfl dX10_groups_26 ?_
        refine g_iload_n C 3 dX10_groups_29 rfl ?_
        obtain ⟨c8, hf⟩ := gg_of hf
        refine g_zald C 4 rfl (gi_in c8) dX10_groups_30 ?_
        refine g_if_eq C 38 dX10_groups_31 (by decide) (fun c9 => ?_) (fun c9 => ?_)
        · have hf := opt_pos c9 hf
          refine g_iconst C (v := 0) dX10_groups_38 (by decide) ?_
          refine gW.locals [0, 1, 3] rfl ?_
          exact H39 gs_17 op_17 l3_17 0 l2_17 hf
        · have hf := opt_neg c9 hf
          refine g_iconst C (v := 1) dX10_groups_34 (by decide) ?_
          refine g_goto C 39 dX10_groups_35 (by decide) ?_
          refine gW.locals [0, 1, 3] rfl ?_
          exact H39 gs_17 op_17 l3_17 1 l2_17 hf
  show gW X Q 0 0 ((wV (x_y X) v (b 0) kp ak bf fa fl ln co ch gs op) ++ (wSt (x_y X) b z pr le ec wt sa ev) ++ (wSec (x_y X) c c_filled c_th c_ep c_rule c_cm c_vs c_es)) [(0, .ref (v 0)), (1, .int p0)] [] 0
  refine g_iload_n C 1 dX10_groups_0 rfl ?_
  obtain ⟨v1, h2, hf⟩ := opt_bind hf
  refine g_callS C (c_X10_checkSlot (l := x_l X) (D := x_D X) (cy := x_y X) (p0 := p0) h2) (As := [.int p0]) (rest := []) (wr := (wV (x_y X) v (b 0) kp ak bf fa fl ln co ch gs op) ++ (wSt (x_y X) b z pr le ec wt sa ev) ++ (wSec (x_y X) c c_filled c_th c_ep c_rule c_cm c_vs c_es)) (ws' := fun _ => (wV (x_y X) v (b 0) kp ak bf fa fl ln co ch gs op) ++ (wSt (x_y X) b z pr le ec wt sa ev) ++ (wSec (x_y X) c c_filled c_th c_ep c_rule c_cm c_vs c_es)) (st' := fun _ => []) 1 mw_2_189 mw_1_1 mw_2_187 mw_2_188 hd_X10_checkSlot rfl (g_rm hR rfl rfl) [] [0, 1, 2, 3, 4, 5, 6, 7, 8, 9, 10, 11, 12] [0, 1, 2, 3, 4, 5, 6, 7, 8, 9, 10, 11, 12] ⟨rfl, rfl, rfl, rfl, by decide, gRoIn_0, rfl, fun _ => rfl⟩ rfl (Nat.le_of_ble_eq_true rfl) dX10_groups_1 (g_rc hR (Nat.le_of_ble_eq_true rfl) (Nat.le_of_ble_eq_true rfl)) (ck' := 1) (sk' := 6) rfl rfl (fun _ => rfl) (fun _ ev1 => ?_) (fun _ ev1 => ?_)
  rotate_left
  · have hf := opt_neg ev1 hf
    obtain rfl := Option.some.inj hf
    exact g_out E () rfl ev1 rfl (Nat.le_of_ble_eq_true rfl) (Nat.le_of_ble_eq_true rfl)
  have hf := opt_pos ev1 hf
  refine g_aload_n C 0 dX10_groups_4 rfl ?_
  refine g_aload_n C 0 dX10_groups_5 rfl ?_
  refine g_iload_n C 1 dX10_groups_6 rfl ?_
  obtain ⟨v3, h4, hf⟩ := opt_bind hf
  refine g_callV C (c_X10_secretIn (l := x_l X) (D := x_D X) (cy := x_y X) (v := v) (b := b) (c := c) (kp := kp) (ak := ak) (bf := bf) (fa := fa) (fl := fl) (ln := ln) (co := co) (ch := ch) (gs := gs) (op := op) (z := z) (pr := pr) (le := le) (ec := ec) (wt := wt) (sa := sa) (ev := ev) (c_filled := c_filled) (c_th := c_th) (c_ep := c_ep) (c_rule := c_rule) (c_cm := c_cm) (c_vs := c_vs) (c_es := c_es) (p0 := p0) (hs := hs) h4) (As := [.int p0]) (rest := [.ref (v 0)]) (wr := []) (ws' := fun _ => (wV (x_y X) v (b 0) kp ak bf fa fl ln co ch gs op) ++ (wSt (x_y X) b z pr le ec wt sa ev) ++ (wSec (x_y X) c c_filled c_th c_ep c_rule c_cm c_vs c_es)) (st' := fun _ => [.ref (c 0), .ref (v 0)]) (ci := 11) 1 0 ⟨_, rfl⟩ rfl rfl mw_3_34 mw_1_1 mw_3_31 mw_3_33 mp_5 hd_X10_secretIn rfl (g_rm hR rfl rfl) [0, 1, 2, 3, 4, 5, 6, 7, 8, 9, 10, 11, 12] [] [0, 1, 2, 3, 4, 5, 6, 7, 8, 9, 10, 11, 12] ⟨rfl, rfl, rfl, rfl, by decide, gRoIn_0, rfl, fun _ => rfl⟩ rfl (Nat.le_of_ble_eq_true rfl) dX10_groups_7 (g_rc hR (Nat.le_of_ble_eq_true rfl) (Nat.le_of_ble_eq_true rfl)) (ck' := 2) (sk' := 12) rfl rfl (fun _ => rfl) (fun _ ev3 => ?_) (fun _ ev3 => ?_)
  rotate_left
  · have hf := opt_neg ev3 hf
    obtain rfl := Option.some.inj hf
    exact g_out E () rfl ev3 rfl (Nat.le_of_ble_eq_true rfl) (Nat.le_of_ble_eq_true rfl)
  have hf := opt_pos ev3 hf
  obtain ⟨v5, h6, hf⟩ := opt_bind hf
  refine g_callV C (c_X10_markOpeningSets (l := x_l X) (D := x_D X) (cy := x_y X) (v := v) (b := b) (c := c) (q0 := q0) (q1 := q1) (t0 := t0) (t1 := t1) (kp := kp) (ak := ak) (bf := bf) (fa := fa) (fl := fl) (ln := ln) (co := co) (ch := ch) (gs := gs) (op := op) (z := z) (pr := pr) (le := le) (ec := ec) (wt := wt) (sa := sa) (ev := ev) (c_filled := c_filled) (c_th := c_th) (c_ep := c_ep) (c_rule := c_rule) (c_cm := c_cm) (c_vs := c_vs) (c_es := c_es) (pparts := pparts) (pnest := pnest) (pnamed := pnamed) (ful := ful) (hash := hash) (hz := hz) (tn := tn) (tb := tb) (hpol := hpol) h6) (As := [.ref (c 0)]) (rest := []) (wr := []) (ws' := fun _ => (wV (x_y X) v (b 0) kp ak bf fa fl ln co ch v5.1 v5.2) ++ (wSt (x_y X) b z pr le ec wt sa ev) ++ (wSec (x_y X) c c_filled c_th c_ep c_rule c_cm c_vs c_es)) (st' := fun _ => []) (ci := 11) 1 0 ⟨_, rfl⟩ rfl rfl mw_6_90 mw_1_1 mw_6_87 mw_6_89 mp_25 hd_X10_markOpeningSets rfl (g_rm hR rfl rfl) [0, 1, 2, 3, 4, 5, 6, 7, 8, 9, 10, 11, 12] [] [0, 1, 2, 3, 4, 5, 6, 7, 8, 9, 10, 11, 12] ⟨rfl, rfl, rfl, rfl, by decide, gRoIn_all9 13 hro rfl rfl, rfl, fun _ => rfl⟩ rfl (Nat.le_of_ble_eq_true rfl) dX10_groups_10 (g_rc hR (Nat.le_of_ble_eq_true rfl) (Nat.le_of_ble_eq_true rfl)) (ck' := 2) (sk' := 12) rfl rfl (fun _ => rfl) (fun _ _ => ?_) (fun _ hx => absurd rfl hx)
  refine g_iconst C (v := 0) dX10_groups_13 (by decide) ?_
  refine g_istore_n C (lv' := [(2, .int 0), (0, .ref (v 0)), (1, .int p0)]) dX10_groups_14 (g_nlt hn rfl) rfl ?_
  refine g_iconst C (v := 0) dX10_groups_15 (by decide) ?_
  refine g_istore_n C (lv' := [(3, .int 0), (2, .int 0), (0, .ref (v 0)), (1, .int p0)]) dX10_groups_16 (g_nlt hn rfl) rfl ?_
  refine gW.locals [2, 3, 1, 0] rfl ?_
  exact H17 1000 v5.1 v5.2 0 0 hf
/-! X10_smallest -/
theorem hd_X10_smallest : yX10_smallest.cls ≠ "java/lang/invoke/MethodHandle" ∧ yX10_smallest.cls ≠ "java/lang/invoke/VarHandle" ∧ (parseMethodDescriptor yX10_smallest.desc).map (fun d => d.parameters.length) = some 2 := by decide +kernel
def F_X10_smallest_L46  (K18 : (Nat → Int32) → (Nat → Int32) → Int32 → Int32 → Option (Nat × Int32 × (Nat → Int32) × (Nat → Int32))) (gs_46 : Nat → Int32) (op_46 : Nat → Int32) (l3_46 : Int32) (l4_46 : Int32) : Option (Nat × Int32 × (Nat → Int32) × (Nat → Int32)) := K18 gs_46 op_46 l3_46 (l4_46 + 1)
def F_X10_smallest_L18 (p1 : Int32)  : Nat → (Nat → Int32) → (Nat → Int32) → Int32 → Int32 → Option (Nat × Int32 × (Nat → Int32) × (Nat → Int32))
  | 0, _, _, _, _ => none
  | n + 1, gs_18, op_18, l3_18, l4_18 => if 256 ≤ l4_18 then (some (3, 0, gs_18, op_18)) else ((F_X10_needsAllMembers op_18 l4_18).bind fun v8 => if v8 = 0 then (F_X10_smallest_L46 (F_X10_smallest_L18 p1 n) gs_18 op_18 l3_18 l4_18) else (if l3_18 = p1 then (some (0, l4_18, gs_18, op_18)) else (F_X10_smallest_L46 (F_X10_smallest_L18 p1 n) gs_18 op_18 (l3_18 + 1) l4_18)))
def F_X10_smallest (gs : Nat → Int32) (op : Nat → Int32) (pr : Int32) (c_filled : Int32) (c_th : Int32) (c_ep : Int32) (c_rule : Option Nat) (c_cm : Nat → Int32) (c_vs : Nat → Int32) (c_es : Nat → Int32) (ful : Nat → Int32) (p0 : Int32) (p1 : Int32) : Option (Nat × Int32 × (Nat → Int32) × (Nat → Int32)) := (F_X10_checkSlot p0).bind fun v1 => if v1 = 0 then ((F_X10_secretIn c_filled p0).bind fun v3 => if v3 = 0 then ((F_X10_markOpeningSets gs op pr c_th c_ep c_rule c_cm c_vs c_es ful).bind fun v5 => F_X10_smallest_L18 p1 1000 v5.1 v5.2 0 0) else some (v3, 0, gs, op)) else some (v1, 0, gs, op)
set_option maxRecDepth 100000 in
set_option maxHeartbeats 4000000 in
theorem c_X10_smallest {l : Launch} {D : va_G} {cy : Nat → ClassId} {v : Nat → Nat} {b : Nat → Nat} {c : Nat → Nat} {q0 q1 t0 t1 : Nat} {kp : Nat} {ak : Int32} {bf : Nat} {fa : Int32} {fl : Nat} {ln : Nat} {co : Nat → Int32} {ch : Nat → Int32} {gs : Nat → Int32} {op : Nat → Int32} {z : Int32} {pr : Int32} {le : Int32} {ec : Int32} {wt : Nat → Int32} {sa : Nat → Option Nat} {ev : Nat → Int32} {c_filled : Int32} {c_th : Int32} {c_ep : Int32} {c_rule : Option Nat} {c_cm : Nat → Int32} {c_vs : Nat → Int32} {c_es : Nat → Int32} {pparts : Int32} {pnest : Int32} {pnamed : Int32} {ful : Nat → Int32} {hash : Int32} {hz : Int32} {tn : Nat} {tb : Nat → Int32} {p0 : Int32} {p1 : Int32} (hs : gi p0 4 = true → sa (Int32.toNatClampNeg p0) = some (c 0)) (hpol : ¬ c_rule = none → c_rule = some q0) {val : Nat × Int32 × (Nat → Int32) × (Nat → Int32)} (hf : F_X10_smallest gs op pr c_filled c_th c_ep c_rule c_cm c_vs c_es ful p0 p1 = some val) : gCt l D cy yX10_smallest cX10_smallest 5 (some .int) 7 114 3 18 [.ref (v 0), .int p0, .int p1] (gOpt c_rule ((wPo cy q0 q1 t0 t1 pparts pnest pnamed ful hash hz tn tb))) ((wV cy v (b 0) kp ak bf fa fl ln co ch gs op) ++ (wSt cy b z pr le ec wt sa ev) ++ (wSec cy c c_filled c_th c_ep c_rule c_cm c_vs c_es)) val.1 (fun _ : Unit => some (.int val.2.1)) (fun _ => (wV cy v (b 0) kp ak bf fa fl ln co ch val.2.2.1 val.2.2.2) ++ (wSt cy b z pr le ec wt sa ev) ++ (wSec cy c c_filled c_th c_ep c_rule c_cm c_vs c_es)) := by
  refine g_begin (by decide +kernel) (Nat.le_of_ble_eq_true rfl) ?_
  intro X Q hl hR hD hy hro hn C hin E
  subst hl; subst hD; subst hy
  replace C : gC X "SecretVault" cX10_smallest (some .int) := C
  unfold F_X10_smallest at hf
  have H18 : ∀ (n18 : Nat), ∀ (gs_18 : Nat → Int32) (op_18 : Nat → Int32) (l3_18 : Int32) (l4_18 : Int32), F_X10_smallest_L18 p1 n18 gs_18 op_18 l3_18 l4_18 = some val → gW X Q 2 12 ((wV (x_y X) v (b 0) kp ak bf fa fl ln co ch gs_18 op_18) ++ (wSt (x_y X) b z pr le ec wt sa ev) ++ (wSec (x_y X) c c_filled c_th c_ep c_rule c_cm c_vs c_es)) [(0, .ref (v 0)), (1, .int p0), (2, .int p1), (3, .int l3_18), (4, .int l4_18)] [] 18 := by
    intro n18
    induction n18 with
    | zero => intros; rename_i hf; cases hf
    | succ n18 ih =>
      intro gs_18 op_18 l3_18 l4_18 hf
      have H18 := ih
      rw [F_X10_smallest_L18] at hf
      have H46 : ∀ (gs_46 : Nat → Int32) (op_46 : Nat → Int32) (l3_46 : Int32) (l4_46 : Int32), F_X10_smallest_L46 (F_X10_smallest_L18 p1 n18) gs_46 op_46 l3_46 l4_46 = some val → gW X Q 2 12 ((wV (x_y X) v (b 0) kp ak bf fa fl ln co ch gs_46 op_46) ++ (wSt (x_y X) b z pr le ec wt sa ev) ++ (wSec (x_y X) c c_filled c_th c_ep c_rule c_cm c_vs c_es)) [(0, .ref (v 0)), (1, .int p0), (2, .int p1), (3, .int l3_46), (4, .int l4_46)] [] 46 := by
        intro gs_46 op_46 l3_46 l4_46 hf
        unfold F_X10_smallest_L46 at hf
        refine g_iinc C 4 (v := l4_46 + 1) (lv' := [(4, .int (l4_46 + 1)), (0, .ref (v 0)), (1, .int p0), (2, .int p1), (3, .int l3_46)]) dX10_smallest_46 rfl rfl (g_nlt hn rfl) rfl ?_
        refine g_goto C 18 dX10_smallest_49 (by decide) ?_
        refine gW.locals [1, 2, 3, 4, 0] rfl ?_
        exact H18 gs_46 op_46 l3_46 (l4_46 + 1) hf
      refine g_iload C 4 dX10_smallest_18 rfl ?_
      refine g_sipush C (v := 256) dX10_smallest_20 (by decide) ?_
      refine g_icmp_ge C 52 dX10_smallest_23 (by decide) (fun c7 => ?_) (fun c7 => ?_)
      · have hf := opt_pos c7 hf
        obtain rfl := Option.some.inj hf
        exact g_throwNW C E () (text := "no such set") gTh_3 ms_300 dX10_smallest_52 dX10_smallest_55 dX10_smallest_56 dX10_smallest_59 dX10_smallest_62 (g_th hR rfl rfl) (g_rc hR (Nat.le_of_ble_eq_true rfl) (Nat.le_of_ble_eq_true rfl)) (Nat.succ_ne_zero 2) rfl rfl (Nat.le_of_ble_eq_true rfl) (Nat.le_of_ble_eq_true rfl)
      · have hf := opt_neg c7 hf
        refine g_aload_n C 0 dX10_smallest_26 rfl ?_
        refine g_iload C 4 dX10_smallest_27 rfl ?_
        obtain ⟨v8, h9, hf⟩ := opt_bind hf
        refine g_callV C (c_X10_needsAllMembers (l := x_l X) (D := x_D X) (cy := x_y X) (v := v) (nw := (b 0)) (kp := kp) (ak := ak) (bf := bf) (fa := fa) (fl := fl) (ln := ln) (co := co) (ch := ch) (gs := gs_18) (op := op_18) (p0 := l4_18) h9) (As := [.int l4_18]) (rest := []) (wr := (wSt (x_y X) b z pr le ec wt sa ev) ++ (wSec (x_y X) c c_filled c_th c_ep c_rule c_cm c_vs c_es)) (ws' := fun _ => (wV (x_y X) v (b 0) kp ak bf fa fl ln co ch gs_18 op_18) ++ (wSt (x_y X) b z pr le ec wt sa ev) ++ (wSec (x_y X) c c_filled c_th c_ep c_rule c_cm c_vs c_es)) (st' := fun _ => [.int v8]) (ci := 11) 1 0 ⟨_, rfl⟩ rfl rfl mw_6_105 mw_1_1 mw_6_102 mw_6_104 mp_27 hd_X10_needsAllMembers rfl (g_rm hR rfl rfl) [0, 1, 2, 3, 4] [5, 6, 7, 8, 9, 10, 11, 12] [8, 9, 10, 11, 12, 0, 1, 2, 3, 4, 5, 6, 7] ⟨rfl, rfl, rfl, rfl, by decide, gRoIn_0, rfl, fun _ => rfl⟩ rfl (Nat.le_of_ble_eq_true rfl) dX10_smallest_29 (g_rc hR (Nat.le_of_ble_eq_true rfl) (Nat.le_of_ble_eq_true rfl)) (ck' := 2) (sk' := 12) rfl rfl (fun _ => rfl) (fun _ _ => ?_) (fun _ hx => absurd rfl hx)
        refine g_if_eq C 46 dX10_smallest_32 (by decide) (fun c10 => ?_) (fun c10 => ?_)
        · have hf := opt_pos c10 hf
          exact H46 gs_18 op_18 l3_18 l4_18 hf
        · have hf := opt_neg c10 hf
          refine g_iload_n C 3 dX10_smallest_35 rfl ?_
          refine g_iload_n C 2 dX10_smallest_36 rfl ?_
          refine g_icmp_ne C 43 dX10_smallest_37 (by decide) (fun c11 => ?_) (fun c11 => ?_)
          · have hf := opt_neg c11 hf
            refine g_iinc C 3 (v := l3_18 + 1) (lv' := [(3, .int (l3_18 + 1)), (0, .ref (v 0)), (1, .int p0), (2, .int p1), (4, .int l4_18)]) dX10_smallest_43 rfl rfl (g_nlt hn rfl) rfl ?_
            refine gW.locals [1, 2, 3, 0, 4] rfl ?_
            exact H46 gs_18 op_18 (l3_18 + 1) l4_18 hf
          · have hf := opt_pos c11 hf
            refine g_iload C 4 dX10_smallest_40 rfl ?_
            obtain rfl := Option.some.inj hf
            exact g_iret C E () dX10_smallest_42 rfl rfl rfl (Nat.le_of_ble_eq_true rfl) (Nat.le_of_ble_eq_true rfl)
  show gW X Q 0 0 ((wV (x_y X) v (b 0) kp ak bf fa fl ln co ch gs op) ++ (wSt (x_y X) b z pr le ec wt sa ev) ++ (wSec (x_y X) c c_filled c_th c_ep c_rule c_cm c_vs c_es)) [(0, .ref (v 0)), (1, .int p0), (2, .int p1)] [] 0
  refine g_iload_n C 1 dX10_smallest_0 rfl ?_
  obtain ⟨v1, h2, hf⟩ := opt_bind hf
  refine g_callS C (c_X10_checkSlot (l := x_l X) (D := x_D X) (cy := x_y X) (p0 := p0) h2) (As := [.int p0]) (rest := []) (wr := (wV (x_y X) v (b 0) kp ak bf fa fl ln co ch gs op) ++ (wSt (x_y X) b z pr le ec wt sa ev) ++ (wSec (x_y X) c c_filled c_th c_ep c_rule c_cm c_vs c_es)) (ws' := fun _ => (wV (x_y X) v (b 0) kp ak bf fa fl ln co ch gs op) ++ (wSt (x_y X) b z pr le ec wt sa ev) ++ (wSec (x_y X) c c_filled c_th c_ep c_rule c_cm c_vs c_es)) (st' := fun _ => []) 1 mw_2_189 mw_1_1 mw_2_187 mw_2_188 hd_X10_checkSlot rfl (g_rm hR rfl rfl) [] [0, 1, 2, 3, 4, 5, 6, 7, 8, 9, 10, 11, 12] [0, 1, 2, 3, 4, 5, 6, 7, 8, 9, 10, 11, 12] ⟨rfl, rfl, rfl, rfl, by decide, gRoIn_0, rfl, fun _ => rfl⟩ rfl (Nat.le_of_ble_eq_true rfl) dX10_smallest_1 (g_rc hR (Nat.le_of_ble_eq_true rfl) (Nat.le_of_ble_eq_true rfl)) (ck' := 1) (sk' := 6) rfl rfl (fun _ => rfl) (fun _ ev1 => ?_) (fun _ ev1 => ?_)
  rotate_left
  · have hf := opt_neg ev1 hf
    obtain rfl := Option.some.inj hf
    exact g_out E () rfl ev1 rfl (Nat.le_of_ble_eq_true rfl) (Nat.le_of_ble_eq_true rfl)
  have hf := opt_pos ev1 hf
  refine g_aload_n C 0 dX10_smallest_4 rfl ?_
  refine g_aload_n C 0 dX10_smallest_5 rfl ?_
  refine g_iload_n C 1 dX10_smallest_6 rfl ?_
  obtain ⟨v3, h4, hf⟩ := opt_bind hf
  refine g_callV C (c_X10_secretIn (l := x_l X) (D := x_D X) (cy := x_y X) (v := v) (b := b) (c := c) (kp := kp) (ak := ak) (bf := bf) (fa := fa) (fl := fl) (ln := ln) (co := co) (ch := ch) (gs := gs) (op := op) (z := z) (pr := pr) (le := le) (ec := ec) (wt := wt) (sa := sa) (ev := ev) (c_filled := c_filled) (c_th := c_th) (c_ep := c_ep) (c_rule := c_rule) (c_cm := c_cm) (c_vs := c_vs) (c_es := c_es) (p0 := p0) (hs := hs) h4) (As := [.int p0]) (rest := [.ref (v 0)]) (wr := []) (ws' := fun _ => (wV (x_y X) v (b 0) kp ak bf fa fl ln co ch gs op) ++ (wSt (x_y X) b z pr le ec wt sa ev) ++ (wSec (x_y X) c c_filled c_th c_ep c_rule c_cm c_vs c_es)) (st' := fun _ => [.ref (c 0), .ref (v 0)]) (ci := 11) 1 0 ⟨_, rfl⟩ rfl rfl mw_3_34 mw_1_1 mw_3_31 mw_3_33 mp_5 hd_X10_secretIn rfl (g_rm hR rfl rfl) [0, 1, 2, 3, 4, 5, 6, 7, 8, 9, 10, 11, 12] [] [0, 1, 2, 3, 4, 5, 6, 7, 8, 9, 10, 11, 12] ⟨rfl, rfl, rfl, rfl, by decide, gRoIn_0, rfl, fun _ => rfl⟩ rfl (Nat.le_of_ble_eq_true rfl) dX10_smallest_7 (g_rc hR (Nat.le_of_ble_eq_true rfl) (Nat.le_of_ble_eq_true rfl)) (ck' := 2) (sk' := 12) rfl rfl (fun _ => rfl) (fun _ ev3 => ?_) (fun _ ev3 => ?_)
  rotate_left
  · have hf := opt_neg ev3 hf
    obtain rfl := Option.some.inj hf
    exact g_out E () rfl ev3 rfl (Nat.le_of_ble_eq_true rfl) (Nat.le_of_ble_eq_true rfl)
  have hf := opt_pos ev3 hf
  obtain ⟨v5, h6, hf⟩ := opt_bind hf
  refine g_callV C (c_X10_markOpeningSets (l := x_l X) (D := x_D X) (cy := x_y X) (v := v) (b := b) (c := c) (q0 := q0) (q1 := q1) (t0 := t0) (t1 := t1) (kp := kp) (ak := ak) (bf := bf) (fa := fa) (fl := fl) (ln := ln) (co := co) (ch := ch) (gs := gs) (op := op) (z := z) (pr := pr) (le := le) (ec := ec) (wt := wt) (sa := sa) (ev := ev) (c_filled := c_filled) (c_th := c_th) (c_ep := c_ep) (c_rule := c_rule) (c_cm := c_cm) (c_vs := c_vs) (c_es := c_es) (pparts := pparts) (pnest := pnest) (pnamed := pnamed) (ful := ful) (hash := hash) (hz := hz) (tn := tn) (tb := tb) (hpol := hpol) h6) (As := [.ref (c 0)]) (rest := []) (wr := []) (ws' := fun _ => (wV (x_y X) v (b 0) kp ak bf fa fl ln co ch v5.1 v5.2) ++ (wSt (x_y X) b z pr le ec wt sa ev) ++ (wSec (x_y X) c c_filled c_th c_ep c_rule c_cm c_vs c_es)) (st' := fun _ => []) (ci := 11) 1 0 ⟨_, rfl⟩ rfl rfl mw_6_90 mw_1_1 mw_6_87 mw_6_89 mp_25 hd_X10_markOpeningSets rfl (g_rm hR rfl rfl) [0, 1, 2, 3, 4, 5, 6, 7, 8, 9, 10, 11, 12] [] [0, 1, 2, 3, 4, 5, 6, 7, 8, 9, 10, 11, 12] ⟨rfl, rfl, rfl, rfl, by decide, gRoIn_all9 13 hro rfl rfl, rfl, fun _ => rfl⟩ rfl (Nat.le_of_ble_eq_true rfl) dX10_smallest_10 (g_rc hR (Nat.le_of_ble_eq_true rfl) (Nat.le_of_ble_eq_true rfl)) (ck' := 2) (sk' := 12) rfl rfl (fun _ => rfl) (fun _ _ => ?_) (fun _ hx => absurd rfl hx)
  refine g_iconst C (v := 0) dX10_smallest_13 (by decide) ?_
  refine g_istore_n C (lv' := [(3, .int 0), (0, .ref (v 0)), (1, .int p0), (2, .int p1)]) dX10_smallest_14 (g_nlt hn rfl) rfl ?_
  refine g_iconst C (v := 0) dX10_smallest_15 (by decide) ?_
  refine g_istore C (lv' := [(4, .int 0), (3, .int 0), (0, .ref (v 0)), (1, .int p0), (2, .int p1)]) dX10_smallest_16 (g_nlt hn rfl) rfl ?_
  refine gW.locals [2, 3, 4, 1, 0] rfl ?_
  exact H18 1000 v5.1 v5.2 0 0 hf
/-! X10_policyOf -/
theorem hd_X10_policyOf : yX10_policyOf.cls ≠ "java/lang/invoke/MethodHandle" ∧ yX10_policyOf.cls ≠ "java/lang/invoke/VarHandle" ∧ (parseMethodDescriptor yX10_policyOf.desc).map (fun d => d.parameters.length) = some 1 := by decide +kernel
def F_X10_policyOf (c_rule : Option Nat) : Option (Nat) := if c_rule = none then (some 3) else (some 0)
set_option maxRecDepth 100000 in
set_option maxHeartbeats 4000000 in
theorem c_X10_policyOf {l : Launch} {D : va_G} {cy : Nat → ClassId} {c : Nat → Nat} {q0 q1 t0 t1 : Nat} {c_filled : Int32} {c_th : Int32} {c_ep : Int32} {c_rule : Option Nat} {c_cm : Nat → Int32} {c_vs : Nat → Int32} {c_es : Nat → Int32} {pparts : Int32} {pnest : Int32} {pnamed : Int32} {ful : Nat → Int32} {hash : Int32} {hz : Int32} {tn : Nat} {tb : Nat → Int32}  (hpol : ¬ c_rule = none → c_rule = some q0) {val : Nat} (hf : F_X10_policyOf c_rule = some val) : gCt l D cy yX10_policyOf cX10_policyOf 1 (some (.object "SecretVault$Policy")) 6 82 1 6 [.ref (c 0)] (gOpt c_rule ((wPo cy q0 q1 t0 t1 pparts pnest pnamed ful hash hz tn tb))) ((wSec cy c c_filled c_th c_ep c_rule c_cm c_vs c_es)) val (fun _ : Unit => some (.ref q0)) (fun _ => (wSec cy c c_filled c_th c_ep c_rule c_cm c_vs c_es)) := by
  refine g_begin (by decide +kernel) (Nat.le_of_ble_eq_true rfl) ?_
  intro X Q hl hR hD hy hro hn C hin E
  subst hl; subst hD; subst hy
  replace C : gC X "SecretVault" cX10_policyOf (some (.object "SecretVault$Policy")) := C
  unfold F_X10_policyOf at hf
  show gW X Q 0 0 ((wSec (x_y X) c c_filled c_th c_ep c_rule c_cm c_vs c_es)) [(0, .ref (c 0))] [] 0
  refine g_aload_n C 0 dX10_policyOf_0 rfl ?_
  refine g_get C 0 4 rfl rfl wiX7 (by decide) mw_1_69 rfl rfl dX10_policyOf_1 ?_
  refine g_ifnonnull_rf C 18 dX10_policyOf_4 (by decide) (fun c1 => ?_) (fun c1 => ?_)
  · have hf := opt_neg c1 hf
    have hro := gOpt_some hro (hpol c1)
    refine g_aload_n C 0 dX10_policyOf_18 rfl ?_
    refine g_get C 0 4 rfl rfl wiX7 (by decide) mw_1_69 rfl rfl dX10_policyOf_19 ?_
    refine g_rfref (hpol c1) ?_
    obtain rfl := Option.some.inj hf
    exact g_aret C E () dX10_policyOf_22 (Or.inl ⟨_, rfl⟩) rfl rfl rfl (Nat.le_of_ble_eq_true rfl) (Nat.le_of_ble_eq_true rfl)
  · have hf := opt_pos c1 hf
    obtain rfl := Option.some.inj hf
    exact g_throwNW C E () (text := "there is no policy") gTh_3 ms_382 dX10_policyOf_7 dX10_policyOf_10 dX10_policyOf_11 dX10_policyOf_14 dX10_policyOf_17 (g_th hR rfl rfl) (g_rc hR (Nat.le_of_ble_eq_true rfl) (Nat.le_of_ble_eq_true rfl)) (Nat.succ_ne_zero 2) rfl rfl (Nat.le_of_ble_eq_true rfl) (Nat.le_of_ble_eq_true rfl)
/-! X10_policy -/
theorem hd_X10_policy : yX10_policy.cls ≠ "java/lang/invoke/MethodHandle" ∧ yX10_policy.cls ≠ "java/lang/invoke/VarHandle" ∧ (parseMethodDescriptor yX10_policy.desc).map (fun d => d.parameters.length) = some 2 := by decide +kernel
def F_X10_policy_L43   (s0_43 : Int32) : Option (Nat × Int32) := some (0, s0_43)
def F_X10_policy (c_filled : Int32) (c_rule : Option Nat) (pparts : Int32) (pnest : Int32) (pnamed : Int32) (p0 : Int32) (p1 : Int32) : Option (Nat × Int32) := (F_X10_checkSlot p0).bind fun v1 => if v1 = 0 then ((F_X10_checkWhat p1 2).bind fun v3 => if v3 = 0 then ((F_X10_secretIn c_filled p0).bind fun v5 => if v5 = 0 then ((F_X10_policyOf c_rule).bind fun v7 => if v7 = 0 then (gg (Option.isSome c_rule) (if p1 = 0 then (some (0, pparts)) else (if p1 = 1 then (F_X10_policy_L43 pnest) else (F_X10_policy_L43 pnamed)))) else some (v7, 0)) else some (v5, 0)) else some (v3, 0)) else some (v1, 0)
set_option maxRecDepth 100000 in
set_option maxHeartbeats 4000000 in
theorem c_X10_policy {l : Launch} {D : va_G} {cy : Nat → ClassId} {v : Nat → Nat} {b : Nat → Nat} {c : Nat → Nat} {q0 q1 t0 t1 : Nat} {kp : Nat} {ak : Int32} {bf : Nat} {fa : Int32} {fl : Nat} {ln : Nat} {co : Nat → Int32} {ch : Nat → Int32} {gs : Nat → Int32} {op : Nat → Int32} {z : Int32} {pr : Int32} {le : Int32} {ec : Int32} {wt : Nat → Int32} {sa : Nat → Option Nat} {ev : Nat → Int32} {c_filled : Int32} {c_th : Int32} {c_ep : Int32} {c_rule : Option Nat} {c_cm : Nat → Int32} {c_vs : Nat → Int32} {c_es : Nat → Int32} {pparts : Int32} {pnest : Int32} {pnamed : Int32} {ful : Nat → Int32} {hash : Int32} {hz : Int32} {tn : Nat} {tb : Nat → Int32} {p0 : Int32} {p1 : Int32} (hs : gi p0 4 = true → sa (Int32.toNatClampNeg p0) = some (c 0)) (hpol : ¬ c_rule = none → c_rule = some q0) {val : Nat × Int32} (hf : F_X10_policy c_filled c_rule pparts pnest pnamed p0 p1 = some val) : gCt l D cy yX10_policy cX10_policy 4 (some .int) 7 104 4 24 [.ref (v 0), .int p0, .int p1] (gOpt c_rule ((wPo cy q0 q1 t0 t1 pparts pnest pnamed ful hash hz tn tb))) ((wV cy v (b 0) kp ak bf fa fl ln co ch gs op) ++ (wSt cy b z pr le ec wt sa ev) ++ (wSec cy c c_filled c_th c_ep c_rule c_cm c_vs c_es)) val.1 (fun _ : Unit => some (.int val.2)) (fun _ => (wV cy v (b 0) kp ak bf fa fl ln co ch gs op) ++ (wSt cy b z pr le ec wt sa ev) ++ (wSec cy c c_filled c_th c_ep c_rule c_cm c_vs c_es)) := by
  refine g_begin (by decide +kernel) (Nat.le_of_ble_eq_true rfl) ?_
  intro X Q hl hR hD hy hro hn C hin E
  subst hl; subst hD; subst hy
  replace C : gC X "SecretVault" cX10_policy (some .int) := C
  unfold F_X10_policy at hf
  have H43 : ∀ (s0_43 : Int32), F_X10_policy_L43 s0_43 = some val → gW X Q 4 24 ((wV (x_y X) v (b 0) kp ak bf fa fl ln co ch gs op) ++ (wSt (x_y X) b z pr le ec wt sa ev) ++ (wSec (x_y X) c c_filled c_th c_ep c_rule c_cm c_vs c_es)) [(0, .ref (v 0)), (1, .int p0), (2, .int p1)] [.int s0_43] 43 := by
    intro s0_43 hf
    unfold F_X10_policy_L43 at hf
    obtain rfl := Option.some.inj hf
    exact g_iret C E () dX10_policy_43 rfl rfl rfl (Nat.le_of_ble_eq_true rfl) (Nat.le_of_ble_eq_true rfl)
  show gW X Q 0 0 ((wV (x_y X) v (b 0) kp ak bf fa fl ln co ch gs op) ++ (wSt (x_y X) b z pr le ec wt sa ev) ++ (wSec (x_y X) c c_filled c_th c_ep c_rule c_cm c_vs c_es)) [(0, .ref (v 0)), (1, .int p0), (2, .int p1)] [] 0
  refine g_iload_n C 1 dX10_policy_0 rfl ?_
  obtain ⟨v1, h2, hf⟩ := opt_bind hf
  refine g_callS C (c_X10_checkSlot (l := x_l X) (D := x_D X) (cy := x_y X) (p0 := p0) h2) (As := [.int p0]) (rest := []) (wr := (wV (x_y X) v (b 0) kp ak bf fa fl ln co ch gs op) ++ (wSt (x_y X) b z pr le ec wt sa ev) ++ (wSec (x_y X) c c_filled c_th c_ep c_rule c_cm c_vs c_es)) (ws' := fun _ => (wV (x_y X) v (b 0) kp ak bf fa fl ln co ch gs op) ++ (wSt (x_y X) b z pr le ec wt sa ev) ++ (wSec (x_y X) c c_filled c_th c_ep c_rule c_cm c_vs c_es)) (st' := fun _ => []) 1 mw_2_189 mw_1_1 mw_2_187 mw_2_188 hd_X10_checkSlot rfl (g_rm hR rfl rfl) [] [0, 1, 2, 3, 4, 5, 6, 7, 8, 9, 10, 11, 12] [0, 1, 2, 3, 4, 5, 6, 7, 8, 9, 10, 11, 12] ⟨rfl, rfl, rfl, rfl, by decide, gRoIn_0, rfl, fun _ => rfl⟩ rfl (Nat.le_of_ble_eq_true rfl) dX10_policy_1 (g_rc hR (Nat.le_of_ble_eq_true rfl) (Nat.le_of_ble_eq_true rfl)) (ck' := 1) (sk' := 6) rfl rfl (fun _ => rfl) (fun _ ev1 => ?_) (fun _ ev1 => ?_)
  rotate_left
  · have hf := opt_neg ev1 hf
    obtain rfl := Option.some.inj hf
    exact g_out E () rfl ev1 rfl (Nat.le_of_ble_eq_true rfl) (Nat.le_of_ble_eq_true rfl)
  have hf := opt_pos ev1 hf
  refine g_iload_n C 2 dX10_policy_4 rfl ?_
  refine g_iconst C (v := 2) dX10_policy_5 (by decide) ?_
  obtain ⟨v3, h4, hf⟩ := opt_bind hf
  refine g_callS C (c_X10_checkWhat (l := x_l X) (D := x_D X) (cy := x_y X) (p0 := p1) (p1 := 2) h4) (As := [.int p1, .int 2]) (rest := []) (wr := (wV (x_y X) v (b 0) kp ak bf fa fl ln co ch gs op) ++ (wSt (x_y X) b z pr le ec wt sa ev) ++ (wSec (x_y X) c c_filled c_th c_ep c_rule c_cm c_vs c_es)) (ws' := fun _ => (wV (x_y X) v (b 0) kp ak bf fa fl ln co ch gs op) ++ (wSt (x_y X) b z pr le ec wt sa ev) ++ (wSec (x_y X) c c_filled c_th c_ep c_rule c_cm c_vs c_es)) (st' := fun _ => []) 2 mw_2_146 mw_1_1 mw_2_144 mw_2_145 hd_X10_checkWhat rfl (g_rm hR rfl rfl) [] [0, 1, 2, 3, 4, 5, 6, 7, 8, 9, 10, 11, 12] [0, 1, 2, 3, 4, 5, 6, 7, 8, 9, 10, 11, 12] ⟨rfl, rfl, rfl, rfl, by decide, gRoIn_0, rfl, fun _ => rfl⟩ rfl (Nat.le_of_ble_eq_true rfl) dX10_policy_6 (g_rc hR (Nat.le_of_ble_eq_true rfl) (Nat.le_of_ble_eq_true rfl)) (ck' := 2) (sk' := 12) rfl rfl (fun _ => rfl) (fun _ ev3 => ?_) (fun _ ev3 => ?_)
  rotate_left
  · have hf := opt_neg ev3 hf
    obtain rfl := Option.some.inj hf
    exact g_out E () rfl ev3 rfl (Nat.le_of_ble_eq_true rfl) (Nat.le_of_ble_eq_true rfl)
  have hf := opt_pos ev3 hf
  refine g_aload_n C 0 dX10_policy_9 rfl ?_
  refine g_iload_n C 1 dX10_policy_10 rfl ?_
  obtain ⟨v5, h6, hf⟩ := opt_bind hf
  refine g_callV C (c_X10_secretIn (l := x_l X) (D := x_D X) (cy := x_y X) (v := v) (b := b) (c := c) (kp := kp) (ak := ak) (bf := bf) (fa := fa) (fl := fl) (ln := ln) (co := co) (ch := ch) (gs := gs) (op := op) (z := z) (pr := pr) (le := le) (ec := ec) (wt := wt) (sa := sa) (ev := ev) (c_filled := c_filled) (c_th := c_th) (c_ep := c_ep) (c_rule := c_rule) (c_cm := c_cm) (c_vs := c_vs) (c_es := c_es) (p0 := p0) (hs := hs) h6) (As := [.int p0]) (rest := []) (wr := []) (ws' := fun _ => (wV (x_y X) v (b 0) kp ak bf fa fl ln co ch gs op) ++ (wSt (x_y X) b z pr le ec wt sa ev) ++ (wSec (x_y X) c c_filled c_th c_ep c_rule c_cm c_vs c_es)) (st' := fun _ => [.ref (c 0)]) (ci := 11) 1 0 ⟨_, rfl⟩ rfl rfl mw_3_34 mw_1_1 mw_3_31 mw_3_33 mp_5 hd_X10_secretIn rfl (g_rm hR rfl rfl) [0, 1, 2, 3, 4, 5, 6, 7, 8, 9, 10, 11, 12] [] [0, 1, 2, 3, 4, 5, 6, 7, 8, 9, 10, 11, 12] ⟨rfl, rfl, rfl, rfl, by decide, gRoIn_0, rfl, fun _ => rfl⟩ rfl (Nat.le_of_ble_eq_true rfl) dX10_policy_11 (g_rc hR (Nat.le_of_ble_eq_true rfl) (Nat.le_of_ble_eq_true rfl)) (ck' := 3) (sk' := 18) rfl rfl (fun _ => rfl) (fun _ ev5 => ?_) (fun _ ev5 => ?_)
  rotate_left
  · have hf := opt_neg ev5 hf
    obtain rfl := Option.some.inj hf
    exact g_out E () rfl ev5 rfl (Nat.le_of_ble_eq_true rfl) (Nat.le_of_ble_eq_true rfl)
  have hf := opt_pos ev5 hf
  obtain ⟨v7, h8, hf⟩ := opt_bind hf
  refine g_callS C (c_X10_policyOf (l := x_l X) (D := x_D X) (cy := x_y X) (c := c) (q0 := q0) (q1 := q1) (t0 := t0) (t1 := t1) (c_filled := c_filled) (c_th := c_th) (c_ep := c_ep) (c_rule := c_rule) (c_cm := c_cm) (c_vs := c_vs) (c_es := c_es) (pparts := pparts) (pnest := pnest) (pnamed := pnamed) (ful := ful) (hash := hash) (hz := hz) (tn := tn) (tb := tb) (hpol := hpol) h8) (As := [.ref (c 0)]) (rest := []) (wr := (wV (x_y X) v (b 0) kp ak bf fa fl ln co ch gs op) ++ (wSt (x_y X) b z pr le ec wt sa ev)) (ws' := fun _ => (wV (x_y X) v (b 0) kp ak bf fa fl ln co ch gs op) ++ (wSt (x_y X) b z pr le ec wt sa ev) ++ (wSec (x_y X) c c_filled c_th c_ep c_rule c_cm c_vs c_es)) (st' := fun _ => [.ref q0]) 1 mw_6_68 mw_1_1 mw_6_66 mw_6_67 hd_X10_policyOf rfl (g_rm hR rfl rfl) [9, 10, 11, 12] [0, 1, 2, 3, 4, 5, 6, 7, 8] [0, 1, 2, 3, 4, 5, 6, 7, 8, 9, 10, 11, 12] ⟨rfl, rfl, rfl, rfl, by decide, gRoIn_all9 13 hro rfl rfl, rfl, fun _ => rfl⟩ rfl (Nat.le_of_ble_eq_true rfl) dX10_policy_14 (g_rc hR (Nat.le_of_ble_eq_true rfl) (Nat.le_of_ble_eq_true rfl)) (ck' := 4) (sk' := 24) rfl rfl (fun _ => rfl) (fun _ ev7 => ?_) (fun _ ev7 => ?_)
  rotate_left
  · have hf := opt_neg ev7 hf
    obtain rfl := Option.some.inj hf
    exact g_out E () rfl ev7 rfl (Nat.le_of_ble_eq_true rfl) (Nat.le_of_ble_eq_true rfl)
  have hf := opt_pos ev7 hf
  obtain ⟨c9, hf⟩ := gg_of hf
  have hro := gOpt_some hro (hpol (gsome c9))
  refine g_astore_n C (lv' := [(3, .ref q0), (0, .ref (v 0)), (1, .int p0), (2, .int p1)]) dX10_policy_17 (g_nlt hn rfl) rfl ?_
  refine g_iload_n C 3 dX10_policy_18 rfl ?_
  refine g_if_ne C 27 dX10_policy_19 (by decide) (fun c10 => ?_) (fun c10 => ?_)
  · have hf := opt_neg c10 hf
    refine g_iload_n C 3 dX10_policy_27 rfl ?_
    refine g_iconst C (v := 1) dX10_policy_28 (by decide) ?_
    refine g_icmp_ne C 39 dX10_policy_29 (by decide) (fun c11 => ?_) (fun c11 => ?_)
    · have hf := opt_neg c11 hf
      refine g_aload_n C 0 dX10_policy_39 rfl ?_
      refine g_getR C hro 0 3 rfl rfl wiX3 (by decide) mw_6_38 rfl rfl dX10_policy_40 ?_
      refine gW.locals [1, 2, 3] rfl ?_
      exact H43 pnamed hf
    · have hf := opt_pos c11 hf
      refine g_aload_n C 0 dX10_policy_32 rfl ?_
      refine g_getR C hro 0 2 rfl rfl wiX3 (by decide) mw_6_36 rfl rfl dX10_policy_33 ?_
      refine g_goto C 43 dX10_policy_36 (by decide) ?_
      refine gW.locals [1, 2, 3] rfl ?_
      exact H43 pnest hf
  · have hf := opt_pos c10 hf
    refine g_aload_n C 0 dX10_policy_22 rfl ?_
    refine g_getR C hro 0 1 rfl rfl wiX3 (by decide) mw_6_34 rfl rfl dX10_policy_23 ?_
    obtain rfl := Option.some.inj hf
    exact g_iret C E () dX10_policy_26 rfl rfl rfl (Nat.le_of_ble_eq_true rfl) (Nat.le_of_ble_eq_true rfl)
/-! X10_policyText -/
theorem hd_X10_policyText : yX10_policyText.cls ≠ "java/lang/invoke/MethodHandle" ∧ yX10_policyText.cls ≠ "java/lang/invoke/VarHandle" ∧ (parseMethodDescriptor yX10_policyText.desc).map (fun d => d.parameters.length) = some 2 := by decide +kernel
def F_X10_policyText_L55   (s0_55 : Int32) : Option (Nat × Int32) := some (0, s0_55)
def F_X10_policyText (c_filled : Int32) (c_rule : Option Nat) (tn : Nat) (tb : Nat → Int32) (p0 : Int32) (p1 : Int32) : Option (Nat × Int32) := (F_X10_checkSlot p0).bind fun v1 => if v1 = 0 then ((F_X10_checkTextIndex p1).bind fun v3 => if v3 = 0 then ((F_X10_secretIn c_filled p0).bind fun v5 => if v5 = 0 then ((F_X10_policyOf c_rule).bind fun v7 => if v7 = 0 then (gg (Option.isSome c_rule) ((F_J0_length_8abf5 tn).bind fun v10 => if p1 < v10 then (if 0 ≤ p1 then ((F_J0_charAt_5068e tn tb p1).bind fun v14 => F_X10_policyText_L55 v14) else ((F_J0_length_8abf5 tn).bind fun v16 => F_X10_policyText_L55 v16)) else (some (3, 0)))) else some (v7, 0)) else some (v5, 0)) else some (v3, 0)) else some (v1, 0)
set_option maxRecDepth 100000 in
set_option maxHeartbeats 4000000 in
theorem c_X10_policyText {l : Launch} {D : va_G} {cy : Nat → ClassId} {v : Nat → Nat} {b : Nat → Nat} {c : Nat → Nat} {q0 q1 t0 t1 : Nat} {kp : Nat} {ak : Int32} {bf : Nat} {fa : Int32} {fl : Nat} {ln : Nat} {co : Nat → Int32} {ch : Nat → Int32} {gs : Nat → Int32} {op : Nat → Int32} {z : Int32} {pr : Int32} {le : Int32} {ec : Int32} {wt : Nat → Int32} {sa : Nat → Option Nat} {ev : Nat → Int32} {c_filled : Int32} {c_th : Int32} {c_ep : Int32} {c_rule : Option Nat} {c_cm : Nat → Int32} {c_vs : Nat → Int32} {c_es : Nat → Int32} {pparts : Int32} {pnest : Int32} {pnamed : Int32} {ful : Nat → Int32} {hash : Int32} {hz : Int32} {tn : Nat} {tb : Nat → Int32} {p0 : Int32} {p1 : Int32} (hs : gi p0 4 = true → sa (Int32.toNatClampNeg p0) = some (c 0)) (hpol : ¬ c_rule = none → c_rule = some q0) {val : Nat × Int32} (hf : F_X10_policyText c_filled c_rule tn tb p0 p1 = some val) : gCt l D cy yX10_policyText cX10_policyText 4 (some .int) 7 104 5 30 [.ref (v 0), .int p0, .int p1] (gOpt c_rule ((wPo cy q0 q1 t0 t1 pparts pnest pnamed ful hash hz tn tb))) ((wV cy v (b 0) kp ak bf fa fl ln co ch gs op) ++ (wSt cy b z pr le ec wt sa ev) ++ (wSec cy c c_filled c_th c_ep c_rule c_cm c_vs c_es)) val.1 (fun _ : Unit => some (.int val.2)) (fun _ => (wV cy v (b 0) kp ak bf fa fl ln co ch gs op) ++ (wSt cy b z pr le ec wt sa ev) ++ (wSec cy c c_filled c_th c_ep c_rule c_cm c_vs c_es)) := by
  refine g_begin (by decide +kernel) (Nat.le_of_ble_eq_true rfl) ?_
  intro X Q hl hR hD hy hro hn C hin E
  subst hl; subst hD; subst hy
  replace C : gC X "SecretVault" cX10_policyText (some .int) := C
  unfold F_X10_policyText at hf
  have H55 : ∀ (s0_55 : Int32), F_X10_policyText_L55 s0_55 = some val → gW X Q 4 24 ((wV (x_y X) v (b 0) kp ak bf fa fl ln co ch gs op) ++ (wSt (x_y X) b z pr le ec wt sa ev) ++ (wSec (x_y X) c c_filled c_th c_ep c_rule c_cm c_vs c_es)) [(0, .ref (v 0)), (1, .int p0), (2, .int p1)] [.int s0_55] 55 := by
    intro s0_55 hf
    unfold F_X10_policyText_L55 at hf
    obtain rfl := Option.some.inj hf
    exact g_iret C E () dX10_policyText_55 rfl rfl rfl (Nat.le_of_ble_eq_true rfl) (Nat.le_of_ble_eq_true rfl)
  show gW X Q 0 0 ((wV (x_y X) v (b 0) kp ak bf fa fl ln co ch gs op) ++ (wSt (x_y X) b z pr le ec wt sa ev) ++ (wSec (x_y X) c c_filled c_th c_ep c_rule c_cm c_vs c_es)) [(0, .ref (v 0)), (1, .int p0), (2, .int p1)] [] 0
  refine g_iload_n C 1 dX10_policyText_0 rfl ?_
  obtain ⟨v1, h2, hf⟩ := opt_bind hf
  refine g_callS C (c_X10_checkSlot (l := x_l X) (D := x_D X) (cy := x_y X) (p0 := p0) h2) (As := [.int p0]) (rest := []) (wr := (wV (x_y X) v (b 0) kp ak bf fa fl ln co ch gs op) ++ (wSt (x_y X) b z pr le ec wt sa ev) ++ (wSec (x_y X) c c_filled c_th c_ep c_rule c_cm c_vs c_es)) (ws' := fun _ => (wV (x_y X) v (b 0) kp ak bf fa fl ln co ch gs op) ++ (wSt (x_y X) b z pr le ec wt sa ev) ++ (wSec (x_y X) c c_filled c_th c_ep c_rule c_cm c_vs c_es)) (st' := fun _ => []) 1 mw_2_189 mw_1_1 mw_2_187 mw_2_188 hd_X10_checkSlot rfl (g_rm hR rfl rfl) [] [0, 1, 2, 3, 4, 5, 6, 7, 8, 9, 10, 11, 12] [0, 1, 2, 3, 4, 5, 6, 7, 8, 9, 10, 11, 12] ⟨rfl, rfl, rfl, rfl, by decide, gRoIn_0, rfl, fun _ => rfl⟩ rfl (Nat.le_of_ble_eq_true rfl) dX10_policyText_1 (g_rc hR (Nat.le_of_ble_eq_true rfl) (Nat.le_of_ble_eq_true rfl)) (ck' := 1) (sk' := 6) rfl rfl (fun _ => rfl) (fun _ ev1 => ?_) (fun _ ev1 => ?_)
  rotate_left
  · have hf := opt_neg ev1 hf
    obtain rfl := Option.some.inj hf
    exact g_out E () rfl ev1 rfl (Nat.le_of_ble_eq_true rfl) (Nat.le_of_ble_eq_true rfl)
  have hf := opt_pos ev1 hf
  refine g_iload_n C 2 dX10_policyText_4 rfl ?_
  obtain ⟨v3, h4, hf⟩ := opt_bind hf
  refine g_callS C (c_X10_checkTextIndex (l := x_l X) (D := x_D X) (cy := x_y X) (p0 := p1) h4) (As := [.int p1]) (rest := []) (wr := (wV (x_y X) v (b 0) kp ak bf fa fl ln co ch gs op) ++ (wSt (x_y X) b z pr le ec wt sa ev) ++ (wSec (x_y X) c c_filled c_th c_ep c_rule c_cm c_vs c_es)) (ws' := fun _ => (wV (x_y X) v (b 0) kp ak bf fa fl ln co ch gs op) ++ (wSt (x_y X) b z pr le ec wt sa ev) ++ (wSec (x_y X) c c_filled c_th c_ep c_rule c_cm c_vs c_es)) (st' := fun _ => []) 1 mw_3_218 mw_1_1 mw_3_216 mw_3_217 hd_X10_checkTextIndex rfl (g_rm hR rfl rfl) [] [0, 1, 2, 3, 4, 5, 6, 7, 8, 9, 10, 11, 12] [0, 1, 2, 3, 4, 5, 6, 7, 8, 9, 10, 11, 12] ⟨rfl, rfl, rfl, rfl, by decide, gRoIn_0, rfl, fun _ => rfl⟩ rfl (Nat.le_of_ble_eq_true rfl) dX10_policyText_5 (g_rc hR (Nat.le_of_ble_eq_true rfl) (Nat.le_of_ble_eq_true rfl)) (ck' := 2) (sk' := 12) rfl rfl (fun _ => rfl) (fun _ ev3 => ?_) (fun _ ev3 => ?_)
  rotate_left
  · have hf := opt_neg ev3 hf
    obtain rfl := Option.some.inj hf
    exact g_out E () rfl ev3 rfl (Nat.le_of_ble_eq_true rfl) (Nat.le_of_ble_eq_true rfl)
  have hf := opt_pos ev3 hf
  refine g_aload_n C 0 dX10_policyText_8 rfl ?_
  refine g_iload_n C 1 dX10_policyText_9 rfl ?_
  obtain ⟨v5, h6, hf⟩ := opt_bind hf
  refine g_callV C (c_X10_secretIn (l := x_l X) (D := x_D X) (cy := x_y X) (v := v) (b := b) (c := c) (kp := kp) (ak := ak) (bf := bf) (fa := fa) (fl := fl) (ln := ln) (co := co) (ch := ch) (gs := gs) (op := op) (z := z) (pr := pr) (le := le) (ec := ec) (wt := wt) (sa := sa) (ev := ev) (c_filled := c_filled) (c_th := c_th) (c_ep := c_ep) (c_rule := c_rule) (c_cm := c_cm) (c_vs := c_vs) (c_es := c_es) (p0 := p0) (hs := hs) h6) (As := [.int p0]) (rest := []) (wr := []) (ws' := fun _ => (wV (x_y X) v (b 0) kp ak bf fa fl ln co ch gs op) ++ (wSt (x_y X) b z pr le ec wt sa ev) ++ (wSec (x_y X) c c_filled c_th c_ep c_rule c_cm c_vs c_es)) (st' := fun _ => [.ref (c 0)]) (ci := 11) 1 0 ⟨_, rfl⟩ rfl rfl mw_3_34 mw_1_1 mw_3_31 mw_3_33 mp_5 hd_X10_secretIn rfl (g_rm hR rfl rfl) [0, 1, 2, 3, 4, 5, 6, 7, 8, 9, 10, 11, 12] [] [0, 1, 2, 3, 4, 5, 6, 7, 8, 9, 10, 11, 12] ⟨rfl, rfl, rfl, rfl, by decide, gRoIn_0, rfl, fun _ => rfl⟩ rfl (Nat.le_of_ble_eq_true rfl) dX10_policyText_10 (g_rc hR (Nat.le_of_ble_eq_true rfl) (Nat.le_of_ble_eq_true rfl)) (ck' := 3) (sk' := 18) rfl rfl (fun _ => rfl) (fun _ ev5 => ?_) (fun _ ev5 => ?_)
  rotate_left
  · have hf := opt_neg ev5 hf
    obtain rfl := Option.some.inj hf
    exact g_out E () rfl ev5 rfl (Nat.le_of_ble_eq_true rfl) (Nat.le_of_ble_eq_true rfl)
  have hf := opt_pos ev5 hf
  obtain ⟨v7, h8, hf⟩ := opt_bind hf
  refine g_callS C (c_X10_policyOf (l := x_l X) (D := x_D X) (cy := x_y X) (c := c) (q0 := q0) (q1 := q1) (t0 := t0) (t1 := t1) (c_filled := c_filled) (c_th := c_th) (c_ep := c_ep) (c_rule := c_rule) (c_cm := c_cm) (c_vs := c_vs) (c_es := c_es) (pparts := pparts) (pnest := pnest) (pnamed := pnamed) (ful := ful) (hash := hash) (hz := hz) (tn := tn) (tb := tb) (hpol := hpol) h8) (As := [.ref (c 0)]) (rest := []) (wr := (wV (x_y X) v (b 0) kp ak bf fa fl ln co ch gs op) ++ (wSt (x_y X) b z pr le ec wt sa ev)) (ws' := fun _ => (wV (x_y X) v (b 0) kp ak bf fa fl ln co ch gs op) ++ (wSt (x_y X) b z pr le ec wt sa ev) ++ (wSec (x_y X) c c_filled c_th c_ep c_rule c_cm c_vs c_es)) (st' := fun _ => [.ref q0]) 1 mw_6_68 mw_1_1 mw_6_66 mw_6_67 hd_X10_policyOf rfl (g_rm hR rfl rfl) [9, 10, 11, 12] [0, 1, 2, 3, 4, 5, 6, 7, 8] [0, 1, 2, 3, 4, 5, 6, 7, 8, 9, 10, 11, 12] ⟨rfl, rfl, rfl, rfl, by decide, gRoIn_all9 13 hro rfl rfl, rfl, fun _ => rfl⟩ rfl (Nat.le_of_ble_eq_true rfl) dX10_policyText_13 (g_rc hR (Nat.le_of_ble_eq_true rfl) (Nat.le_of_ble_eq_true rfl)) (ck' := 4) (sk' := 24) rfl rfl (fun _ => rfl) (fun _ ev7 => ?_) (fun _ ev7 => ?_)
  rotate_left
  · have hf := opt_neg ev7 hf
    obtain rfl := Option.some.inj hf
    exact g_out E () rfl ev7 rfl (Nat.le_of_ble_eq_true rfl) (Nat.le_of_ble_eq_true rfl)
  have hf := opt_pos ev7 hf
  obtain ⟨c9, hf⟩ := gg_of hf
  have hro := gOpt_some hro (hpol (gsome c9))
  refine g_getR C hro 0 0 rfl rfl wiX3 (by decide) mw_6_32 rfl rfl dX10_policyText_16 ?_
  refine g_astore_n C (lv' := [(3, .ref t0), (0, .ref (v 0)), (1, .int p0), (2, .int p1)]) dX10_policyText_19 (g_nlt hn rfl) rfl ?_
  refine g_iload_n C 3 dX10_policyText_20 rfl ?_
  refine g_aload_n C 0 dX10_policyText_21 rfl ?_
  obtain ⟨v10, h11, hf⟩ := opt_bind hf
  refine g_callV C (c_J0_length_8abf5 (l := x_l X) (D := x_D X) (cy := x_y X) (t0 := t0) (t1 := t1) (hash := hash) (hz := hz) (tn := tn) (tb := tb) h11) (As := []) (rest := [.int p1]) (wr := (wV (x_y X) v (b 0) kp ak bf fa fl ln co ch gs op) ++ (wSt (x_y X) b z pr le ec wt sa ev) ++ (wSec (x_y X) c c_filled c_th c_ep c_rule c_cm c_vs c_es)) (ws' := fun _ => (wV (x_y X) v (b 0) kp ak bf fa fl ln co ch gs op) ++ (wSt (x_y X) b z pr le ec wt sa ev) ++ (wSec (x_y X) c c_filled c_th c_ep c_rule c_cm c_vs c_es)) (st' := fun _ => [.int v10, .int p1]) (ci := 0) 0 15 ⟨_, by rw [hro]; rfl⟩ rfl rfl mw_4_75 mw_1_6 mw_6_70 mw_4_73 mw_4_74 hd_J0_length_8abf5 rfl (g_rm hR rfl rfl) [] [0, 1, 2, 3, 4, 5, 6, 7, 8, 9, 10, 11, 12] [0, 1, 2, 3, 4, 5, 6, 7, 8, 9, 10, 11, 12] ⟨rfl, rfl, rfl, rfl, by decide, gRoIn_p [15, 16] (by rw [hro]; rfl) (by decide), rfl, fun _ => rfl⟩ rfl (Nat.le_of_ble_eq_true rfl) dX10_policyText_22 (g_rc hR (Nat.le_of_ble_eq_true rfl) (Nat.le_of_ble_eq_true rfl)) (ck' := 4) (sk' := 24) rfl rfl (fun _ => rfl) (fun _ _ => ?_) (fun _ hx => absurd rfl hx)
  refine g_icmp_lt C 39 dX10_policyText_25 (by decide) (fun c12 => ?_) (fun c12 => ?_)
  · have hf := opt_pos c12 hf
    refine g_iload_n C 3 dX10_policyText_39 rfl ?_
    refine g_if_ge C 50 dX10_policyText_40 (by decide) (fun c13 => ?_) (fun c13 => ?_)
    · have hf := opt_pos c13 hf
      refine g_aload_n C 0 dX10_policyText_50 rfl ?_
      refine g_iload_n C 3 dX10_policyText_51 rfl ?_
      obtain ⟨v14, h15, hf⟩ := opt_bind hf
      refine g_callV C (c_J0_charAt_5068e (l := x_l X) (D := x_D X) (cy := x_y X) (t0 := t0) (t1 := t1) (hash := hash) (hz := hz) (tn := tn) (tb := tb) (p0 := p1) h15) (As := [.int p1]) (rest := []) (wr := (wV (x_y X) v (b 0) kp ak bf fa fl ln co ch gs op) ++ (wSt (x_y X) b z pr le ec wt sa ev) ++ (wSec (x_y X) c c_filled c_th c_ep c_rule c_cm c_vs c_es)) (ws' := fun _ => (wV (x_y X) v (b 0) kp ak bf fa fl ln co ch gs op) ++ (wSt (x_y X) b z pr le ec wt sa ev) ++ (wSec (x_y X) c c_filled c_th c_ep c_rule c_cm c_vs c_es)) (st' := fun _ => [.int v14]) (ci := 0) 1 15 ⟨_, by rw [hro]; rfl⟩ rfl rfl mw_5_91 mw_1_6 mw_6_72 mw_5_89 mw_5_90 hd_J0_charAt_5068e rfl (g_rm hR rfl rfl) [] [0, 1, 2, 3, 4, 5, 6, 7, 8, 9, 10, 11, 12] [0, 1, 2, 3, 4, 5, 6, 7, 8, 9, 10, 11, 12] ⟨rfl, rfl, rfl, rfl, by decide, gRoIn_p [15, 16] (by rw [hro]; rfl) (by decide), rfl, fun _ => rfl⟩ rfl (Nat.le_of_ble_eq_true rfl) dX10_policyText_52 (g_rc hR (Nat.le_of_ble_eq_true rfl) (Nat.le_of_ble_eq_true rfl)) (ck' := 4) (sk' := 24) rfl rfl (fun _ => rfl) (fun _ _ => ?_) (fun _ hx => absurd rfl hx)
      refine gW.locals [1, 2, 3] rfl ?_
      exact H55 v14 hf
    · have hf := opt_neg c13 hf
      refine g_aload_n C 0 dX10_policyText_43 rfl ?_
      obtain ⟨v16, h17, hf⟩ := opt_bind hf
      refine g_callV C (c_J0_length_8abf5 (l := x_l X) (D := x_D X) (cy := x_y X) (t0 := t0) (t1 := t1) (hash := hash) (hz := hz) (tn := tn) (tb := tb) h17) (As := []) (rest := []) (wr := (wV (x_y X) v (b 0) kp ak bf fa fl ln co ch gs op) ++ (wSt (x_y X) b z pr le ec wt sa ev) ++ (wSec (x_y X) c c_filled c_th c_ep c_rule c_cm c_vs c_es)) (ws' := fun _ => (wV (x_y X) v (b 0) kp ak bf fa fl ln co ch gs op) ++ (wSt (x_y X) b z pr le ec wt sa ev) ++ (wSec (x_y X) c c_filled c_th c_ep c_rule c_cm c_vs c_es)) (st' := fun _ => [.int v16]) (ci := 0) 0 15 ⟨_, by rw [hro]; rfl⟩ rfl rfl mw_4_75 mw_1_6 mw_6_70 mw_4_73 mw_4_74 hd_J0_length_8abf5 rfl (g_rm hR rfl rfl) [] [0, 1, 2, 3, 4, 5, 6, 7, 8, 9, 10, 11, 12] [0, 1, 2, 3, 4, 5, 6, 7, 8, 9, 10, 11, 12] ⟨rfl, rfl, rfl, rfl, by decide, gRoIn_p [15, 16] (by rw [hro]; rfl) (by decide), rfl, fun _ => rfl⟩ rfl (Nat.le_of_ble_eq_true rfl) dX10_policyText_44 (g_rc hR (Nat.le_of_ble_eq_true rfl) (Nat.le_of_ble_eq_true rfl)) (ck' := 4) (sk' := 24) rfl rfl (fun _ => rfl) (fun _ _ => ?_) (fun _ hx => absurd rfl hx)
      refine g_goto C 55 dX10_policyText_47 (by decide) ?_
      refine gW.locals [1, 2, 3] rfl ?_
      exact H55 v16 hf
  · have hf := opt_neg c12 hf
    obtain rfl := Option.some.inj hf
    exact g_throwNW C E () (text := "the text of the policy has no such index") gTh_3 ms_281 dX10_policyText_28 dX10_policyText_31 dX10_policyText_32 dX10_policyText_35 dX10_policyText_38 (g_th hR rfl rfl) (g_rc hR (Nat.le_of_ble_eq_true rfl) (Nat.le_of_ble_eq_true rfl)) (Nat.succ_ne_zero 2) rfl rfl (Nat.le_of_ble_eq_true rfl) (Nat.le_of_ble_eq_true rfl)
