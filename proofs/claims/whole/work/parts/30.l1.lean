/-! the law: the wrappers -/
abbrev wO (cy : Nat → ClassId) (a0 : Nat) (ot : Nat → Int64) : va_W := [(a0, .inl (cy 4, 1, .inr (.inl ot)))]
/-! L_setWeight -/
theorem hd_L_setWeight : yL_setWeight.cls ≠ "java/lang/invoke/MethodHandle" ∧ yL_setWeight.cls ≠ "java/lang/invoke/VarHandle" ∧ (parseMethodDescriptor yL_setWeight.desc).map (fun d => d.parameters.length) = some 4 := by decide +kernel
def F_L_setWeight (wt : Nat → Int32) (ot : Nat → Int64) (p1 : Int32) (p2 : Int32) : Option (Int32 × (Nat → Int32) × (Nat → Int64)) := (F_X10_setWeight wt p1 p2).bind fun v1 => if v1.1 = 0 then (gg (gi 0 1) (gl (vp_updL ot (Int32.toNatClampNeg 0) (Int32.toInt64 v1.2.1)) fun f6 => some (0, v1.2.2, f6))) else (if v1.1 = 1 then (some (1, v1.2.2, ot)) else (if v1.1 = 2 then (some (2, v1.2.2, ot)) else (none)))
set_option maxRecDepth 100000 in
set_option maxHeartbeats 4000000 in
theorem c_L_setWeight {l : Launch} {D : va_G} {cy : Nat → ClassId} {v : Nat → Nat} {b : Nat → Nat} {o0 : Nat} {kp : Nat} {ak : Int32} {bf : Nat} {fa : Int32} {fl : Nat} {ln : Nat} {co : Nat → Int32} {ch : Nat → Int32} {gs : Nat → Int32} {op : Nat → Int32} {z : Int32} {pr : Int32} {le : Int32} {ec : Int32} {wt : Nat → Int32} {sa : Nat → Option Nat} {ev : Nat → Int32} {ot : Nat → Int64} {p1 : Int32} {p2 : Int32}  {val : Int32 × (Nat → Int32) × (Nat → Int64)} (hf : F_L_setWeight wt ot p1 p2 = some val) : gCtH l D cy yL_setWeight cL_setWeight 5 (some .int) [(0, 10, 13, 13), (0, 10, 17, 15)] 8 125 2 12 [.ref (v 0), .int p1, .int p2, .ref o0] [] ((wV cy v (b 0) kp ak bf fa fl ln co ch gs op) ++ (wSt cy b z pr le ec wt sa ev) ++ (wO cy o0 ot)) (fun _ : Unit => some (.int val.1)) (fun _ => (wV cy v (b 0) kp ak bf fa fl ln co ch gs op) ++ (wSt cy b z pr le ec val.2.1 sa ev) ++ (wO cy o0 val.2.2)) := by
  refine g_beginH (by decide +kernel) (Nat.le_of_ble_eq_true rfl) ?_
  intro X Q hl hR hD hy hro hn C ht E
  subst hl; subst hD; subst hy
  replace C : gC X "SecretVaultLaw" cL_setWeight (some .int) := C
  unfold F_L_setWeight at hf
  show gW X Q 0 0 ((wV (x_y X) v (b 0) kp ak bf fa fl ln co ch gs op) ++ (wSt (x_y X) b z pr le ec wt sa ev) ++ (wO (x_y X) o0 ot)) [(0, .ref (v 0)), (1, .int p1), (2, .int p2), (3, .ref o0)] [] 0
  refine g_aload_n C 3 dL_setWeight_0 rfl ?_
  refine g_iconst C (v := 0) dL_setWeight_1 (by decide) ?_
  refine g_aload_n C 0 dL_setWeight_2 rfl ?_
  refine g_iload_n C 1 dL_setWeight_3 rfl ?_
  refine g_iload_n C 2 dL_setWeight_4 rfl ?_
  obtain ⟨v1, h2, hf⟩ := opt_bind hf
  refine g_callV C (c_X10_setWeight (l := x_l X) (D := x_D X) (cy := x_y X) (v := v) (b := b) (kp := kp) (ak := ak) (bf := bf) (fa := fa) (fl := fl) (ln := ln) (co := co) (ch := ch) (gs := gs) (op := op) (z := z) (pr := pr) (le := le) (ec := ec) (wt := wt) (sa := sa) (ev := ev) (p0 := p1) (p1 := p2) h2) (As := [.int p1, .int p2]) (rest := [.int 0, .ref o0]) (wr := (wO (x_y X) o0 ot)) (ws' := fun _ => (wV (x_y X) v (b 0) kp ak bf fa fl ln co ch gs op) ++ (wSt (x_y X) b z pr le ec v1.2.2 sa ev) ++ (wO (x_y X) o0 ot)) (st' := fun _ => [.int v1.2.1, .int 0, .ref o0]) (ci := 11) 2 0 ⟨_, rfl⟩ rfl rfl mw_2_94 mw_1_1 mw_2_91 mw_2_92 mw_2_93 hd_X10_setWeight rfl (g_rm hR rfl rfl) [0, 1, 2, 3, 4, 5, 6, 7, 8] [9] [1, 2, 3, 4, 5, 6, 7, 8, 9, 0] ⟨rfl, rfl, rfl, rfl, by decide, gRoIn_0, rfl, fun _ => rfl⟩ rfl (Nat.le_of_ble_eq_true rfl) dL_setWeight_5 (g_rc hR (Nat.le_of_ble_eq_true rfl) (Nat.le_of_ble_eq_true rfl)) (ck' := 2) (sk' := 12) rfl rfl (fun _ => rfl) (fun _ ev1 => ?_) (fun _ ev1 => ?_)
  rotate_left
  · have hf := opt_neg ev1 hf
    by_cases k3 : v1.1 = 1
    · have hf := opt_pos k3 hf
      have hE : gExn v1.1 = "java/lang/IndexOutOfBoundsException" := by rw [k3]; rfl
      rw [hE]
      refine g_catch C ht [] [(0, 10, 17, 15)] rfl (fun _ h => nomatch h) (by decide) (by decide) mw_2_10 (by decide +kernel) (fun xk3 => ?_)
      refine g_astore C (lv' := [(4, .ref xk3), (0, .ref (v 0)), (1, .int p1), (2, .int p2), (3, .ref o0)]) dL_setWeight_13 (g_nlt hn rfl) rfl ?_
      refine g_iconst C (v := 1) dL_setWeight_15 (by decide) ?_
      refine g_eqw (ws' := (wV (x_y X) v (b 0) kp ak bf fa fl ln co ch gs op) ++ (wSt (x_y X) b z pr le ec v1.2.2 sa ev) ++ (wO (x_y X) o0 ot)) rfl ?_
      obtain rfl := Option.some.inj hf
      exact g_iretH C E () dL_setWeight_16 rfl rfl (Nat.le_of_ble_eq_true rfl) (Nat.le_of_ble_eq_true rfl)
    have hf := opt_neg k3 hf
    by_cases k4 : v1.1 = 2
    · have hf := opt_pos k4 hf
      have hE : gExn v1.1 = "java/lang/IllegalArgumentException" := by rw [k4]; rfl
      rw [hE]
      refine g_catch C ht [(0, 10, 13, 13)] [] rfl (List.forall_mem_cons.mpr ⟨Or.inr ⟨by decide, "java/lang/IndexOutOfBoundsException", mw_2_10, by decide +kernel⟩, fun _ h => nomatch h⟩) (by decide) (by decide) mw_2_90 (by decide +kernel) (fun xk4 => ?_)
      refine g_astore C (lv' := [(4, .ref xk4), (0, .ref (v 0)), (1, .int p1), (2, .int p2), (3, .ref o0)]) dL_setWeight_17 (g_nlt hn rfl) rfl ?_
      refine g_iconst C (v := 2) dL_setWeight_19 (by decide) ?_
      refine g_eqw (ws' := (wV (x_y X) v (b 0) kp ak bf fa fl ln co ch gs op) ++ (wSt (x_y X) b z pr le ec v1.2.2 sa ev) ++ (wO (x_y X) o0 ot)) rfl ?_
      obtain rfl := Option.some.inj hf
      exact g_iretH C E () dL_setWeight_20 rfl rfl (Nat.le_of_ble_eq_true rfl) (Nat.le_of_ble_eq_true rfl)
    have hf := opt_neg k4 hf
    cases hf
  have hf := opt_pos ev1 hf
  refine g_i2l C dL_setWeight_8 ?_
  obtain ⟨c5, hf⟩ := gg_of hf
  obtain ⟨f6, ef6, hf⟩ := opt_let hf
  refine g_last C (ws' := (wV (x_y X) v (b 0) kp ak bf fa fl ln co ch gs op) ++ (wSt (x_y X) b z pr le ec v1.2.2 sa ev) ++ (wO (x_y X) o0 f6)) 9 rfl (gi_in c5) (by rw [ef6]; rfl) dL_setWeight_9 ?_
  refine g_goto C 21 dL_setWeight_10 (by decide) ?_
  refine g_iconst C (v := 0) dL_setWeight_21 (by decide) ?_
  refine g_eqw (ws' := (wV (x_y X) v (b 0) kp ak bf fa fl ln co ch gs op) ++ (wSt (x_y X) b z pr le ec v1.2.2 sa ev) ++ (wO (x_y X) o0 f6)) rfl ?_
  obtain rfl := Option.some.inj hf
  exact g_iretH C E () dL_setWeight_22 rfl rfl (Nat.le_of_ble_eq_true rfl) (Nat.le_of_ble_eq_true rfl)
/-! L_setPresent -/
theorem hd_L_setPresent : yL_setPresent.cls ≠ "java/lang/invoke/MethodHandle" ∧ yL_setPresent.cls ≠ "java/lang/invoke/VarHandle" ∧ (parseMethodDescriptor yL_setPresent.desc).map (fun d => d.parameters.length) = some 4 := by decide +kernel
def F_L_setPresent_L16   (pr_16 : Int32) (ot_16 : Nat → Int64) (s0_16 : Int64) (s1_16 : Int32) : Option (Int32 × Int32 × (Nat → Int64)) := gg (gi s1_16 1) (gl (vp_updL ot_16 (Int32.toNatClampNeg s1_16) s0_16) fun f6 => some (0, pr_16, f6))
def F_L_setPresent (pr : Int32) (ot : Nat → Int64) (p1 : Int32) (p2 : Int32) : Option (Int32 × Int32 × (Nat → Int64)) := (F_X10_setPresent pr p1 p2).bind fun v1 => if v1.1 = 0 then (if v1.2.1 = 0 then (F_L_setPresent_L16 v1.2.2 ot 0 0) else (F_L_setPresent_L16 v1.2.2 ot 1 0)) else (if v1.1 = 1 then (some (1, v1.2.2, ot)) else (none))
set_option maxRecDepth 100000 in
set_option maxHeartbeats 4000000 in
theorem c_L_setPresent {l : Launch} {D : va_G} {cy : Nat → ClassId} {v : Nat → Nat} {b : Nat → Nat} {o0 : Nat} {kp : Nat} {ak : Int32} {bf : Nat} {fa : Int32} {fl : Nat} {ln : Nat} {co : Nat → Int32} {ch : Nat → Int32} {gs : Nat → Int32} {op : Nat → Int32} {z : Int32} {pr : Int32} {le : Int32} {ec : Int32} {wt : Nat → Int32} {sa : Nat → Option Nat} {ev : Nat → Int32} {ot : Nat → Int64} {p1 : Int32} {p2 : Int32}  {val : Int32 × Int32 × (Nat → Int64)} (hf : F_L_setPresent pr ot p1 p2 = some val) : gCtH l D cy yL_setPresent cL_setPresent 5 (some .int) [(0, 17, 20, 13)] 8 126 1 6 [.ref (v 0), .int p1, .int p2, .ref o0] [] ((wV cy v (b 0) kp ak bf fa fl ln co ch gs op) ++ (wSt cy b z pr le ec wt sa ev) ++ (wO cy o0 ot)) (fun _ : Unit => some (.int val.1)) (fun _ => (wV cy v (b 0) kp ak bf fa fl ln co ch gs op) ++ (wSt cy b z val.2.1 le ec wt sa ev) ++ (wO cy o0 val.2.2)) := by
  refine g_beginH (by decide +kernel) (Nat.le_of_ble_eq_true rfl) ?_
  intro X Q hl hR hD hy hro hn C ht E
  subst hl; subst hD; subst hy
  replace C : gC X "SecretVaultLaw" cL_setPresent (some .int) := C
  unfold F_L_setPresent at hf
  have H16 : ∀ (pr_16 : Int32) (ot_16 : Nat → Int64) (s0_16 : Int64) (s1_16 : Int32), F_L_setPresent_L16 pr_16 ot_16 s0_16 s1_16 = some val → gW X Q 1 6 ((wV (x_y X) v (b 0) kp ak bf fa fl ln co ch gs op) ++ (wSt (x_y X) b z pr_16 le ec wt sa ev) ++ (wO (x_y X) o0 ot_16)) [(0, .ref (v 0)), (1, .int p1), (2, .int p2), (3, .ref o0)] [.long s0_16, .int s1_16, .ref o0] 16 := by
    intro pr_16 ot_16 s0_16 s1_16 hf
    unfold F_L_setPresent_L16 at hf
    obtain ⟨c5, hf⟩ := gg_of hf
    obtain ⟨f6, ef6, hf⟩ := opt_let hf
    refine g_last C (ws' := (wV (x_y X) v (b 0) kp ak bf fa fl ln co ch gs op) ++ (wSt (x_y X) b z pr_16 le ec wt sa ev) ++ (wO (x_y X) o0 f6)) 9 rfl (gi_in c5) (by rw [ef6]; rfl) dL_setPresent_16 ?_
    refine g_goto C 24 dL_setPresent_17 (by decide) ?_
    refine g_iconst C (v := 0) dL_setPresent_24 (by decide) ?_
    refine g_eqw (ws' := (wV (x_y X) v (b 0) kp ak bf fa fl ln co ch gs op) ++ (wSt (x_y X) b z pr_16 le ec wt sa ev) ++ (wO (x_y X) o0 f6)) rfl ?_
    obtain rfl := Option.some.inj hf
    exact g_iretH C E () dL_setPresent_25 rfl rfl (Nat.le_of_ble_eq_true rfl) (Nat.le_of_ble_eq_true rfl)
  show gW X Q 0 0 ((wV (x_y X) v (b 0) kp ak bf fa fl ln co ch gs op) ++ (wSt (x_y X) b z pr le ec wt sa ev) ++ (wO (x_y X) o0 ot)) [(0, .ref (v 0)), (1, .int p1), (2, .int p2), (3, .ref o0)] [] 0
  refine g_aload_n C 3 dL_setPresent_0 rfl ?_
  refine g_iconst C (v := 0) dL_setPresent_1 (by decide) ?_
  refine g_aload_n C 0 dL_setPresent_2 rfl ?_
  refine g_iload_n C 1 dL_setPresent_3 rfl ?_
  refine g_iload_n C 2 dL_setPresent_4 rfl ?_
  obtain ⟨v1, h2, hf⟩ := opt_bind hf
  refine g_callV C (c_X10_setPresent (l := x_l X) (D := x_D X) (cy := x_y X) (v := v) (b := b) (kp := kp) (ak := ak) (bf := bf) (fa := fa) (fl := fl) (ln := ln) (co := co) (ch := ch) (gs := gs) (op := op) (z := z) (pr := pr) (le := le) (ec := ec) (wt := wt) (sa := sa) (ev := ev) (p0 := p1) (p1 := p2) h2) (As := [.int p1, .int p2]) (rest := [.int 0, .ref o0]) (wr := (wO (x_y X) o0 ot)) (ws' := fun _ => (wV (x_y X) v (b 0) kp ak bf fa fl ln co ch gs op) ++ (wSt (x_y X) b z v1.2.2 le ec wt sa ev) ++ (wO (x_y X) o0 ot)) (st' := fun _ => [.int v1.2.1, .int 0, .ref o0]) (ci := 11) 2 0 ⟨_, rfl⟩ rfl rfl mw_2_133 mw_1_1 mw_2_130 mw_2_131 mw_2_132 hd_X10_setPresent rfl (g_rm hR rfl rfl) [0, 1, 2, 3, 4, 5, 6, 7, 8] [9] [1, 2, 3, 4, 5, 6, 7, 8, 9, 0] ⟨rfl, rfl, rfl, rfl, by decide, gRoIn_0, rfl, fun _ => rfl⟩ rfl (Nat.le_of_ble_eq_true rfl) dL_setPresent_5 (g_rc hR (Nat.le_of_ble_eq_true rfl) (Nat.le_of_ble_eq_true rfl)) (ck' := 1) (sk' := 6) rfl rfl (fun _ => rfl) (fun _ ev1 => ?_) (fun _ ev1 => ?_)
  rotate_left
  · have hf := opt_neg ev1 hf
    by_cases k3 : v1.1 = 1
    · have hf := opt_pos k3 hf
      have hE : gExn v1.1 = "java/lang/IndexOutOfBoundsException" := by rw [k3]; rfl
      rw [hE]
      refine g_catch C ht [] [] rfl (fun _ h => nomatch h) (by decide) (by decide) mw_2_10 (by decide +kernel) (fun xk3 => ?_)
      refine g_astore C (lv' := [(4, .ref xk3), (0, .ref (v 0)), (1, .int p1), (2, .int p2), (3, .ref o0)]) dL_setPresent_20 (g_nlt hn rfl) rfl ?_
      refine g_iconst C (v := 1) dL_setPresent_22 (by decide) ?_
      refine g_eqw (ws' := (wV (x_y X) v (b 0) kp ak bf fa fl ln co ch gs op) ++ (wSt (x_y X) b z v1.2.2 le ec wt sa ev) ++ (wO (x_y X) o0 ot)) rfl ?_
      obtain rfl := Option.some.inj hf
      exact g_iretH C E () dL_setPresent_23 rfl rfl (Nat.le_of_ble_eq_true rfl) (Nat.le_of_ble_eq_true rfl)
    have hf := opt_neg k3 hf
    cases hf
  have hf := opt_pos ev1 hf
  refine g_if_eq C 15 dL_setPresent_8 (by decide) (fun c4 => ?_) (fun c4 => ?_)
  · have hf := opt_pos c4 hf
    refine g_lconst C (v := 0) dL_setPresent_15 (by decide) ?_
    exact H16 v1.2.2 ot 0 0 hf
  · have hf := opt_neg c4 hf
    refine g_lconst C (v := 1) dL_setPresent_11 (by decide) ?_
    refine g_goto C 16 dL_setPresent_12 (by decide) ?_
    exact H16 v1.2.2 ot 1 0 hf
/-! L_member -/
theorem hd_L_member : yL_member.cls ≠ "java/lang/invoke/MethodHandle" ∧ yL_member.cls ≠ "java/lang/invoke/VarHandle" ∧ (parseMethodDescriptor yL_member.desc).map (fun d => d.parameters.length) = some 4 := by decide +kernel
def F_L_member (pr : Int32) (wt : Nat → Int32) (s0_th : Int32) (s0_ep : Int32) (s0_cm : Nat → Int32) (s0_vs : Nat → Int32) (s0_es : Nat → Int32) (s1_th : Int32) (s1_ep : Int32) (s1_cm : Nat → Int32) (s1_vs : Nat → Int32) (s1_es : Nat → Int32) (s2_th : Int32) (s2_ep : Int32) (s2_cm : Nat → Int32) (s2_vs : Nat → Int32) (s2_es : Nat → Int32) (s3_th : Int32) (s3_ep : Int32) (s3_cm : Nat → Int32) (s3_vs : Nat → Int32) (s3_es : Nat → Int32) (ot : Nat → Int64) (p1 : Int32) (p2 : Int32) : Option (Int32 × (Nat → Int64)) := (F_X10_member pr wt s0_th s0_ep s0_cm s0_vs s0_es s1_th s1_ep s1_cm s1_vs s1_es s2_th s2_ep s2_cm s2_vs s2_es s3_th s3_ep s3_cm s3_vs s3_es p1 p2).bind fun v1 => if v1.1 = 0 then (gg (gi 0 1) (gl (vp_updL ot (Int32.toNatClampNeg 0) (Int32.toInt64 v1.2)) fun f6 => some (0, f6))) else (if v1.1 = 1 then (some (1, ot)) else (if v1.1 = 2 then (some (2, ot)) else (none)))
set_option maxRecDepth 100000 in
set_option maxHeartbeats 4000000 in
theorem c_L_member {l : Launch} {D : va_G} {cy : Nat → ClassId} {v : Nat → Nat} {b : Nat → Nat} {s0 : Nat → Nat} {s1 : Nat → Nat} {s2 : Nat → Nat} {s3 : Nat → Nat} {o0 : Nat} {kp : Nat} {ak : Int32} {bf : Nat} {fa : Int32} {fl : Nat} {ln : Nat} {co : Nat → Int32} {ch : Nat → Int32} {gs : Nat → Int32} {op : Nat → Int32} {z : Int32} {pr : Int32} {le : Int32} {ec : Int32} {wt : Nat → Int32} {ev : Nat → Int32} {s0_filled : Int32} {s0_th : Int32} {s0_ep : Int32} {s0_rule : Option Nat} {s0_cm : Nat → Int32} {s0_vs : Nat → Int32} {s0_es : Nat → Int32} {s1_filled : Int32} {s1_th : Int32} {s1_ep : Int32} {s1_rule : Option Nat} {s1_cm : Nat → Int32} {s1_vs : Nat → Int32} {s1_es : Nat → Int32} {s2_filled : Int32} {s2_th : Int32} {s2_ep : Int32} {s2_rule : Option Nat} {s2_cm : Nat → Int32} {s2_vs : Nat → Int32} {s2_es : Nat → Int32} {s3_filled : Int32} {s3_th : Int32} {s3_ep : Int32} {s3_rule : Option Nat} {s3_cm : Nat → Int32} {s3_vs : Nat → Int32} {s3_es : Nat → Int32} {ot : Nat → Int64} {p1 : Int32} {p2 : Int32}  {val : Int32 × (Nat → Int64)} (hf : F_L_member pr wt s0_th s0_ep s0_cm s0_vs s0_es s1_th s1_ep s1_cm s1_vs s1_es s2_th s2_ep s2_cm s2_vs s2_es s3_th s3_ep s3_cm s3_vs s3_es ot p1 p2 = some val) : gCtH l D cy yL_member cL_member 5 (some .int) [(0, 10, 13, 13), (0, 10, 17, 15)] 8 128 2 12 [.ref (v 0), .int p1, .int p2, .ref o0] [] ((wV cy v (b 0) kp ak bf fa fl ln co ch gs op) ++ (wSt cy b z pr le ec wt (gA4 (s0 0) (s1 0) (s2 0) (s3 0)) ev) ++ (wSec cy s0 s0_filled s0_th s0_ep s0_rule s0_cm s0_vs s0_es) ++ (wSec cy s1 s1_filled s1_th s1_ep s1_rule s1_cm s1_vs s1_es) ++ (wSec cy s2 s2_filled s2_th s2_ep s2_rule s2_cm s2_vs s2_es) ++ (wSec cy s3 s3_filled s3_th s3_ep s3_rule s3_cm s3_vs s3_es) ++ (wO cy o0 ot)) (fun _ : Unit => some (.int val.1)) (fun _ => (wV cy v (b 0) kp ak bf fa fl ln co ch gs op) ++ (wSt cy b z pr le ec wt (gA4 (s0 0) (s1 0) (s2 0) (s3 0)) ev) ++ (wSec cy s0 s0_filled s0_th s0_ep s0_rule s0_cm s0_vs s0_es) ++ (wSec cy s1 s1_filled s1_th s1_ep s1_rule s1_cm s1_vs s1_es) ++ (wSec cy s2 s2_filled s2_th s2_ep s2_rule s2_cm s2_vs s2_es) ++ (wSec cy s3 s3_filled s3_th s3_ep s3_rule s3_cm s3_vs s3_es) ++ (wO cy o0 val.2)) := by
  refine g_beginH (by decide +kernel) (Nat.le_of_ble_eq_true rfl) ?_
  intro X Q hl hR hD hy hro hn C ht E
  subst hl; subst hD; subst hy
  replace C : gC X "SecretVaultLaw" cL_member (some .int) := C
  unfold F_L_member at hf
  show gW X Q 0 0 ((wV (x_y X) v (b 0) kp ak bf fa fl ln co ch gs op) ++ (wSt (x_y X) b z pr le ec wt (gA4 (s0 0) (s1 0) (s2 0) (s3 0)) ev) ++ (wSec (x_y X) s0 s0_filled s0_th s0_ep s0_rule s0_cm s0_vs s0_es) ++ (wSec (x_y X) s1 s1_filled s1_th s1_ep s1_rule s1_cm s1_vs s1_es) ++ (wSec (x_y X) s2 s2_filled s2_th s2_ep s2_rule s2_cm s2_vs s2_es) ++ (wSec (x_y X) s3 s3_filled s3_th s3_ep s3_rule s3_cm s3_vs s3_es) ++ (wO (x_y X) o0 ot)) [(0, .ref (v 0)), (1, .int p1), (2, .int p2), (3, .ref o0)] [] 0
  refine g_aload_n C 3 dL_member_0 rfl ?_
  refine g_iconst C (v := 0) dL_member_1 (by decide) ?_
  refine g_aload_n C 0 dL_member_2 rfl ?_
  refine g_iload_n C 1 dL_member_3 rfl ?_
  refine g_iload_n C 2 dL_member_4 rfl ?_
  obtain ⟨v1, h2, hf⟩ := opt_bind hf
  refine g_callV C (c_X10_member (l := x_l X) (D := x_D X) (cy := x_y X) (v := v) (b := b) (s0 := s0) (s1 := s1) (s2 := s2) (s3 := s3) (kp := kp) (ak := ak) (bf := bf) (fa := fa) (fl := fl) (ln := ln) (co := co) (ch := ch) (gs := gs) (op := op) (z := z) (pr := pr) (le := le) (ec := ec) (wt := wt) (ev := ev) (s0_filled := s0_filled) (s0_th := s0_th) (s0_ep := s0_ep) (s0_rule := s0_rule) (s0_cm := s0_cm) (s0_vs := s0_vs) (s0_es := s0_es) (s1_filled := s1_filled) (s1_th := s1_th) (s1_ep := s1_ep) (s1_rule := s1_rule) (s1_cm := s1_cm) (s1_vs := s1_vs) (s1_es := s1_es) (s2_filled := s2_filled) (s2_th := s2_th) (s2_ep := s2_ep) (s2_rule := s2_rule) (s2_cm := s2_cm) (s2_vs := s2_vs) (s2_es := s2_es) (s3_filled := s3_filled) (s3_th := s3_th) (s3_ep := s3_ep) (s3_rule := s3_rule) (s3_cm := s3_cm) (s3_vs := s3_vs) (s3_es := s3_es) (p0 := p1) (p1 := p2) h2) (As := [.int p1, .int p2]) (rest := [.int 0, .ref o0]) (wr := (wO (x_y X) o0 ot)) (ws' := fun _ => (wV (x_y X) v (b 0) kp ak bf fa fl ln co ch gs op) ++ (wSt (x_y X) b z pr le ec wt (gA4 (s0 0) (s1 0) (s2 0) (s3 0)) ev) ++ (wSec (x_y X) s0 s0_filled s0_th s0_ep s0_rule s0_cm s0_vs s0_es) ++ (wSec (x_y X) s1 s1_filled s1_th s1_ep s1_rule s1_cm s1_vs s1_es) ++ (wSec (x_y X) s2 s2_filled s2_th s2_ep s2_rule s2_cm s2_vs s2_es) ++ (wSec (x_y X) s3 s3_filled s3_th s3_ep s3_rule s3_cm s3_vs s3_es) ++ (wO (x_y X) o0 ot)) (st' := fun _ => [.int v1.2, .int 0, .ref o0]) (ci := 11) 2 0 ⟨_, rfl⟩ rfl rfl mw_2_143 mw_1_1 mw_2_140 mw_2_141 mw_2_142 hd_X10_member rfl (g_rm hR rfl rfl) [0, 1, 2, 3, 4, 5, 6, 7, 8, 9, 10, 11, 12, 13, 14, 15, 16, 17, 18, 19, 20, 21, 22, 23, 24] [25] [1, 2, 3, 4, 5, 6, 7, 8, 9, 10, 11, 12, 13, 14, 15, 16, 17, 18, 19, 20, 21, 22, 23, 24, 25, 0] ⟨rfl, rfl, rfl, rfl, by decide, gRoIn_0, rfl, fun _ => rfl⟩ rfl (Nat.le_of_ble_eq_true rfl) dL_member_5 (g_rc hR (Nat.le_of_ble_eq_true rfl) (Nat.le_of_ble_eq_true rfl)) (ck' := 2) (sk' := 12) rfl rfl (fun _ => rfl) (fun _ ev1 => ?_) (fun _ ev1 => ?_)
  rotate_left
  · have hf := opt_neg ev1 hf
    by_cases k3 : v1.1 = 1
    · have hf := opt_pos k3 hf
      have hE : gExn v1.1 = "java/lang/IndexOutOfBoundsException" := by rw [k3]; rfl
      rw [hE]
      refine g_catch C ht [] [(0, 10, 17, 15)] rfl (fun _ h => nomatch h) (by decide) (by decide) mw_2_10 (by decide +kernel) (fun xk3 => ?_)
      refine g_astore C (lv' := [(4, .ref xk3), (0, .ref (v 0)), (1, .int p1), (2, .int p2), (3, .ref o0)]) dL_member_13 (g_nlt hn rfl) rfl ?_
      refine g_iconst C (v := 1) dL_member_15 (by decide) ?_
      refine g_eqw (ws' := (wV (x_y X) v (b 0) kp ak bf fa fl ln co ch gs op) ++ (wSt (x_y X) b z pr le ec wt (gA4 (s0 0) (s1 0) (s2 0) (s3 0)) ev) ++ (wSec (x_y X) s0 s0_filled s0_th s0_ep s0_rule s0_cm s0_vs s0_es) ++ (wSec (x_y X) s1 s1_filled s1_th s1_ep s1_rule s1_cm s1_vs s1_es) ++ (wSec (x_y X) s2 s2_filled s2_th s2_ep s2_rule s2_cm s2_vs s2_es) ++ (wSec (x_y X) s3 s3_filled s3_th s3_ep s3_rule s3_cm s3_vs s3_es) ++ (wO (x_y X) o0 ot)) rfl ?_
      obtain rfl := Option.some.inj hf
      exact g_iretH C E () dL_member_16 rfl rfl (Nat.le_of_ble_eq_true rfl) (Nat.le_of_ble_eq_true rfl)
    have hf := opt_neg k3 hf
    by_cases k4 : v1.1 = 2
    · have hf := opt_pos k4 hf
      have hE : gExn v1.1 = "java/lang/IllegalArgumentException" := by rw [k4]; rfl
      rw [hE]
      refine g_catch C ht [(0, 10, 13, 13)] [] rfl (List.forall_mem_cons.mpr ⟨Or.inr ⟨by decide, "java/lang/IndexOutOfBoundsException", mw_2_10, by decide +kernel⟩, fun _ h => nomatch h⟩) (by decide) (by decide) mw_2_90 (by decide +kernel) (fun xk4 => ?_)
      refine g_astore C (lv' := [(4, .ref xk4), (0, .ref (v 0)), (1, .int p1), (2, .int p2), (3, .ref o0)]) dL_member_17 (g_nlt hn rfl) rfl ?_
      refine g_iconst C (v := 2) dL_member_19 (by decide) ?_
      refine g_eqw (ws' := (wV (x_y X) v (b 0) kp ak bf fa fl ln co ch gs op) ++ (wSt (x_y X) b z pr le ec wt (gA4 (s0 0) (s1 0) (s2 0) (s3 0)) ev) ++ (wSec (x_y X) s0 s0_filled s0_th s0_ep s0_rule s0_cm s0_vs s0_es) ++ (wSec (x_y X) s1 s1_filled s1_th s1_ep s1_rule s1_cm s1_vs s1_es) ++ (wSec (x_y X) s2 s2_filled s2_th s2_ep s2_rule s2_cm s2_vs s2_es) ++ (wSec (x_y X) s3 s3_filled s3_th s3_ep s3_rule s3_cm s3_vs s3_es) ++ (wO (x_y X) o0 ot)) rfl ?_
      obtain rfl := Option.some.inj hf
      exact g_iretH C E () dL_member_20 rfl rfl (Nat.le_of_ble_eq_true rfl) (Nat.le_of_ble_eq_true rfl)
    have hf := opt_neg k4 hf
    cases hf
  have hf := opt_pos ev1 hf
  refine g_i2l C dL_member_8 ?_
  obtain ⟨c5, hf⟩ := gg_of hf
  obtain ⟨f6, ef6, hf⟩ := opt_let hf
  refine g_last C (ws' := (wV (x_y X) v (b 0) kp ak bf fa fl ln co ch gs op) ++ (wSt (x_y X) b z pr le ec wt (gA4 (s0 0) (s1 0) (s2 0) (s3 0)) ev) ++ (wSec (x_y X) s0 s0_filled s0_th s0_ep s0_rule s0_cm s0_vs s0_es) ++ (wSec (x_y X) s1 s1_filled s1_th s1_ep s1_rule s1_cm s1_vs s1_es) ++ (wSec (x_y X) s2 s2_filled s2_th s2_ep s2_rule s2_cm s2_vs s2_es) ++ (wSec (x_y X) s3 s3_filled s3_th s3_ep s3_rule s3_cm s3_vs s3_es) ++ (wO (x_y X) o0 f6)) 25 rfl (gi_in c5) (by rw [ef6]; rfl) dL_member_9 ?_
  refine g_goto C 21 dL_member_10 (by decide) ?_
  refine g_iconst C (v := 0) dL_member_21 (by decide) ?_
  refine g_eqw (ws' := (wV (x_y X) v (b 0) kp ak bf fa fl ln co ch gs op) ++ (wSt (x_y X) b z pr le ec wt (gA4 (s0 0) (s1 0) (s2 0) (s3 0)) ev) ++ (wSec (x_y X) s0 s0_filled s0_th s0_ep s0_rule s0_cm s0_vs s0_es) ++ (wSec (x_y X) s1 s1_filled s1_th s1_ep s1_rule s1_cm s1_vs s1_es) ++ (wSec (x_y X) s2 s2_filled s2_th s2_ep s2_rule s2_cm s2_vs s2_es) ++ (wSec (x_y X) s3 s3_filled s3_th s3_ep s3_rule s3_cm s3_vs s3_es) ++ (wO (x_y X) o0 f6)) rfl ?_
  obtain rfl := Option.some.inj hf
  exact g_iretH C E () dL_member_22 rfl rfl (Nat.le_of_ble_eq_true rfl) (Nat.le_of_ble_eq_true rfl)
/-! L_put -/
theorem hd_L_put : yL_put.cls ≠ "java/lang/invoke/MethodHandle" ∧ yL_put.cls ≠ "java/lang/invoke/VarHandle" ∧ (parseMethodDescriptor yL_put.desc).map (fun d => d.parameters.length) = some 5 := by decide +kernel
def F_L_put (co : Nat → Int32) (z : Int32) (pr : Int32) (le : Int32) (ec : Int32) (wt : Nat → Int32) (ev : Nat → Int32) (c_filled : Int32) (c_th : Int32) (c_ep : Int32) (c_rule : Option Nat) (c_cm : Nat → Int32) (c_vs : Nat → Int32) (c_es : Nat → Int32) (ot : Nat → Int64) (p1 : Int32) (p2 : Int32) (p3 : Int32) : Option (Int32 × (Nat → Int32) × Int32 × Int32 × Int32 × (Nat → Int32) × Int32 × Int32 × Int32 × Option Nat × (Nat → Int32) × (Nat → Int32) × (Nat → Int32) × (Nat → Int64)) := (F_X10_put co z pr le ec wt ev c_filled c_th c_ep c_rule c_cm c_vs c_es p1 p2 p3).bind fun v1 => if v1.1 = 0 then (gg (gi 0 1) (gl (vp_updL ot (Int32.toNatClampNeg 0) (Int32.toInt64 v1.2.1)) fun f7 => some (0, v1.2.2.1, v1.2.2.2.1, v1.2.2.2.2.1, v1.2.2.2.2.2.1, v1.2.2.2.2.2.2.1, v1.2.2.2.2.2.2.2.1, v1.2.2.2.2.2.2.2.2.1, v1.2.2.2.2.2.2.2.2.2.1, v1.2.2.2.2.2.2.2.2.2.2.1, v1.2.2.2.2.2.2.2.2.2.2.2.1, v1.2.2.2.2.2.2.2.2.2.2.2.2.1, v1.2.2.2.2.2.2.2.2.2.2.2.2.2, f7))) else (if v1.1 = 1 then (some (1, v1.2.2.1, v1.2.2.2.1, v1.2.2.2.2.1, v1.2.2.2.2.2.1, v1.2.2.2.2.2.2.1, v1.2.2.2.2.2.2.2.1, v1.2.2.2.2.2.2.2.2.1, v1.2.2.2.2.2.2.2.2.2.1, v1.2.2.2.2.2.2.2.2.2.2.1, v1.2.2.2.2.2.2.2.2.2.2.2.1, v1.2.2.2.2.2.2.2.2.2.2.2.2.1, v1.2.2.2.2.2.2.2.2.2.2.2.2.2, ot)) else (if v1.1 = 2 then (some (2, v1.2.2.1, v1.2.2.2.1, v1.2.2.2.2.1, v1.2.2.2.2.2.1, v1.2.2.2.2.2.2.1, v1.2.2.2.2.2.2.2.1, v1.2.2.2.2.2.2.2.2.1, v1.2.2.2.2.2.2.2.2.2.1, v1.2.2.2.2.2.2.2.2.2.2.1, v1.2.2.2.2.2.2.2.2.2.2.2.1, v1.2.2.2.2.2.2.2.2.2.2.2.2.1, v1.2.2.2.2.2.2.2.2.2.2.2.2.2, ot)) else (if v1.1 = 5 then (some (3, v1.2.2.1, v1.2.2.2.1, v1.2.2.2.2.1, v1.2.2.2.2.2.1, v1.2.2.2.2.2.2.1, v1.2.2.2.2.2.2.2.1, v1.2.2.2.2.2.2.2.2.1, v1.2.2.2.2.2.2.2.2.2.1, v1.2.2.2.2.2.2.2.2.2.2.1, v1.2.2.2.2.2.2.2.2.2.2.2.1, v1.2.2.2.2.2.2.2.2.2.2.2.2.1, v1.2.2.2.2.2.2.2.2.2.2.2.2.2, ot)) else (none))))
set_option maxRecDepth 100000 in
set_option maxHeartbeats 4000000 in
theorem c_L_put {l : Launch} {D : va_G} {cy : Nat → ClassId} {v : Nat → Nat} {b : Nat → Nat} {c : Nat → Nat} {o0 : Nat} {kp : Nat} {ak : Int32} {bf : Nat} {fa : Int32} {fl : Nat} {ln : Nat} {co : Nat → Int32} {ch : Nat → Int32} {gs : Nat → Int32} {op : Nat → Int32} {z : Int32} {pr : Int32} {le : Int32} {ec : Int32} {wt : Nat → Int32} {sa : Nat → Option Nat} {ev : Nat → Int32} {c_filled : Int32} {c_th : Int32} {c_ep : Int32} {c_rule : Option Nat} {c_cm : Nat → Int32} {c_vs : Nat → Int32} {c_es : Nat → Int32} {ot : Nat → Int64} {p1 : Int32} {p2 : Int32} {p3 : Int32} (hs : gi p1 4 = true → sa (Int32.toNatClampNeg p1) = some (c 0)) {val : Int32 × (Nat → Int32) × Int32 × Int32 × Int32 × (Nat → Int32) × Int32 × Int32 × Int32 × Option Nat × (Nat → Int32) × (Nat → Int32) × (Nat → Int32) × (Nat → Int64)} (hf : F_L_put co z pr le ec wt ev c_filled c_th c_ep c_rule c_cm c_vs c_es ot p1 p2 p3 = some val) : gCtH l D cy yL_put cL_put 6 (some .int) [(0, 12, 15, 13), (0, 12, 19, 15), (0, 12, 23, 28)] 8 128 4 24 [.ref (v 0), .int p1, .int p2, .int p3, .ref o0] [] ((wV cy v (b 0) kp ak bf fa fl ln co ch gs op) ++ (wSt cy b z pr le ec wt sa ev) ++ (wSec cy c c_filled c_th c_ep c_rule c_cm c_vs c_es) ++ (wO cy o0 ot)) (fun _ : Unit => some (.int val.1)) (fun _ => (wV cy v (b 0) kp ak bf fa fl ln val.2.1 ch gs op) ++ (wSt cy b val.2.2.1 pr val.2.2.2.1 val.2.2.2.2.1 wt sa val.2.2.2.2.2.1) ++ (wSec cy c val.2.2.2.2.2.2.1 val.2.2.2.2.2.2.2.1 val.2.2.2.2.2.2.2.2.1 val.2.2.2.2.2.2.2.2.2.1 val.2.2.2.2.2.2.2.2.2.2.1 val.2.2.2.2.2.2.2.2.2.2.2.1 val.2.2.2.2.2.2.2.2.2.2.2.2.1) ++ (wO cy o0 val.2.2.2.2.2.2.2.2.2.2.2.2.2)) := by
  refine g_beginH (by decide +kernel) (Nat.le_of_ble_eq_true rfl) ?_
  intro X Q hl hR hD hy hro hn C ht E
  subst hl; subst hD; subst hy
  replace C : gC X "SecretVaultLaw" cL_put (some .int) := C
  unfold F_L_put at hf
  show gW X Q 0 0 ((wV (x_y X) v (b 0) kp ak bf fa fl ln co ch gs op) ++ (wSt (x_y X) b z pr le ec wt sa ev) ++ (wSec (x_y X) c c_filled c_th c_ep c_rule c_cm c_vs c_es) ++ (wO (x_y X) o0 ot)) [(0, .ref (v 0)), (1, .int p1), (2, .int p2), (3, .int p3), (4, .ref o0)] [] 0
  refine g_aload C 4 dL_put_0 rfl ?_
  refine g_iconst C (v := 0) dL_put_2 (by decide) ?_
  refine g_aload_n C 0 dL_put_3 rfl ?_
  refine g_iload_n C 1 dL_put_4 rfl ?_
  refine g_iload_n C 2 dL_put_5 rfl ?_
  refine g_iload_n C 3 dL_put_6 rfl ?_
  obtain ⟨v1, h2, hf⟩ := opt_bind hf
  refine g_callV C (c_X10_put (l := x_l X) (D := x_D X) (cy := x_y X) (v := v) (b := b) (c := c) (kp := kp) (ak := ak) (bf := bf) (fa := fa) (fl := fl) (ln := ln) (co := co) (ch := ch) (gs := gs) (op := op) (z := z) (pr := pr) (le := le) (ec := ec) (wt := wt) (sa := sa) (ev := ev) (c_filled := c_filled) (c_th := c_th) (c_ep := c_ep) (c_rule := c_rule) (c_cm := c_cm) (c_vs := c_vs) (c_es := c_es) (p0 := p1) (p1 := p2) (p2 := p3) (hs := hs) h2) (As := [.int p1, .int p2, .int p3]) (rest := [.int 0, .ref o0]) (wr := (wO (x_y X) o0 ot)) (ws' := fun _ => (wV (x_y X) v (b 0) kp ak bf fa fl ln v1.2.2.1 ch gs op) ++ (wSt (x_y X) b v1.2.2.2.1 pr v1.2.2.2.2.1 v1.2.2.2.2.2.1 wt sa v1.2.2.2.2.2.2.1) ++ (wSec (x_y X) c v1.2.2.2.2.2.2.2.1 v1.2.2.2.2.2.2.2.2.1 v1.2.2.2.2.2.2.2.2.2.1 v1.2.2.2.2.2.2.2.2.2.2.1 v1.2.2.2.2.2.2.2.2.2.2.2.1 v1.2.2.2.2.2.2.2.2.2.2.2.2.1 v1.2.2.2.2.2.2.2.2.2.2.2.2.2) ++ (wO (x_y X) o0 ot)) (st' := fun _ => [.int v1.2.1, .int 0, .ref o0]) (ci := 11) 3 0 ⟨_, rfl⟩ rfl rfl mw_2_186 mw_1_1 mw_2_183 mw_2_184 mw_2_185 hd_X10_put rfl (g_rm hR rfl rfl) [0, 1, 2, 3, 4, 5, 6, 7, 8, 9, 10, 11, 12] [13] [1, 2, 3, 4, 5, 6, 7, 8, 9, 10, 11, 12, 13, 0] ⟨rfl, rfl, rfl, rfl, by decide, gRoIn_0, rfl, fun _ => rfl⟩ rfl (Nat.le_of_ble_eq_true rfl) dL_put_7 (g_rc hR (Nat.le_of_ble_eq_true rfl) (Nat.le_of_ble_eq_true rfl)) (ck' := 4) (sk' := 24) rfl rfl (fun _ => rfl) (fun _ ev1 => ?_) (fun _ ev1 => ?_)
  rotate_left
  · have hf := opt_neg ev1 hf
    by_cases k3 : v1.1 = 1
    · have hf := opt_pos k3 hf
      have hE : gExn v1.1 = "java/lang/IndexOutOfBoundsException" := by rw [k3]; rfl
      rw [hE]
      refine g_catch C ht [] [(0, 12, 19, 15), (0, 12, 23, 28)] rfl (fun _ h => nomatch h) (by decide) (by decide) mw_2_10 (by decide +kernel) (fun xk3 => ?_)
      refine g_astore C (lv' := [(5, .ref xk3), (0, .ref (v 0)), (1, .int p1), (2, .int p2), (3, .int p3), (4, .ref o0)]) dL_put_15 (g_nlt hn rfl) rfl ?_
      refine g_iconst C (v := 1) dL_put_17 (by decide) ?_
      refine g_eqw (ws' := (wV (x_y X) v (b 0) kp ak bf fa fl ln v1.2.2.1 ch gs op) ++ (wSt (x_y X) b v1.2.2.2.1 pr v1.2.2.2.2.1 v1.2.2.2.2.2.1 wt sa v1.2.2.2.2.2.2.1) ++ (wSec (x_y X) c v1.2.2.2.2.2.2.2.1 v1.2.2.2.2.2.2.2.2.1 v1.2.2.2.2.2.2.2.2.2.1 v1.2.2.2.2.2.2.2.2.2.2.1 v1.2.2.2.2.2.2.2.2.2.2.2.1 v1.2.2.2.2.2.2.2.2.2.2.2.2.1 v1.2.2.2.2.2.2.2.2.2.2.2.2.2) ++ (wO (x_y X) o0 ot)) rfl ?_
      obtain rfl := Option.some.inj hf
      exact g_iretH C E () dL_put_18 rfl rfl (Nat.le_of_ble_eq_true rfl) (Nat.le_of_ble_eq_true rfl)
    have hf := opt_neg k3 hf
    by_cases k4 : v1.1 = 2
    · have hf := opt_pos k4 hf
      have hE : gExn v1.1 = "java/lang/IllegalArgumentException" := by rw [k4]; rfl
      rw [hE]
      refine g_catch C ht [(0, 12, 15, 13)] [(0, 12, 23, 28)] rfl (List.forall_mem_cons.mpr ⟨Or.inr ⟨by decide, "java/lang/IndexOutOfBoundsException", mw_2_10, by decide +kernel⟩, fun _ h => nomatch h⟩) (by decide) (by decide) mw_2_90 (by decide +kernel) (fun xk4 => ?_)
      refine g_astore C (lv' := [(5, .ref xk4), (0, .ref (v 0)), (1, .int p1), (2, .int p2), (3, .int p3), (4, .ref o0)]) dL_put_19 (g_nlt hn rfl) rfl ?_
      refine g_iconst C (v := 2) dL_put_21 (by decide) ?_
      refine g_eqw (ws' := (wV (x_y X) v (b 0) kp ak bf fa fl ln v1.2.2.1 ch gs op) ++ (wSt (x_y X) b v1.2.2.2.1 pr v1.2.2.2.2.1 v1.2.2.2.2.2.1 wt sa v1.2.2.2.2.2.2.1) ++ (wSec (x_y X) c v1.2.2.2.2.2.2.2.1 v1.2.2.2.2.2.2.2.2.1 v1.2.2.2.2.2.2.2.2.2.1 v1.2.2.2.2.2.2.2.2.2.2.1 v1.2.2.2.2.2.2.2.2.2.2.2.1 v1.2.2.2.2.2.2.2.2.2.2.2.2.1 v1.2.2.2.2.2.2.2.2.2.2.2.2.2) ++ (wO (x_y X) o0 ot)) rfl ?_
      obtain rfl := Option.some.inj hf
      exact g_iretH C E () dL_put_22 rfl rfl (Nat.le_of_ble_eq_true rfl) (Nat.le_of_ble_eq_true rfl)
    have hf := opt_neg k4 hf
    by_cases k5 : v1.1 = 5
    · have hf := opt_pos k5 hf
      have hE : gExn v1.1 = "java/lang/IllegalStateException" := by rw [k5]; rfl
      rw [hE]
      refine g_catch C ht [(0, 12, 15, 13), (0, 12, 19, 15)] [] rfl (List.forall_mem_cons.mpr ⟨Or.inr ⟨by decide, "java/lang/IndexOutOfBoundsException", mw_2_10, by decide +kernel⟩, List.forall_mem_cons.mpr ⟨Or.inr ⟨by decide, "java/lang/IllegalArgumentException", mw_2_90, by decide +kernel⟩, fun _ h => nomatch h⟩⟩) (by decide) (by decide) mw_2_182 (by decide +kernel) (fun xk5 => ?_)
      refine g_astore C (lv' := [(5, .ref xk5), (0, .ref (v 0)), (1, .int p1), (2, .int p2), (3, .int p3), (4, .ref o0)]) dL_put_23 (g_nlt hn rfl) rfl ?_
      refine g_iconst C (v := 3) dL_put_25 (by decide) ?_
      refine g_eqw (ws' := (wV (x_y X) v (b 0) kp ak bf fa fl ln v1.2.2.1 ch gs op) ++ (wSt (x_y X) b v1.2.2.2.1 pr v1.2.2.2.2.1 v1.2.2.2.2.2.1 wt sa v1.2.2.2.2.2.2.1) ++ (wSec (x_y X) c v1.2.2.2.2.2.2.2.1 v1.2.2.2.2.2.2.2.2.1 v1.2.2.2.2.2.2.2.2.2.1 v1.2.2.2.2.2.2.2.2.2.2.1 v1.2.2.2.2.2.2.2.2.2.2.2.1 v1.2.2.2.2.2.2.2.2.2.2.2.2.1 v1.2.2.2.2.2.2.2.2.2.2.2.2.2) ++ (wO (x_y X) o0 ot)) rfl ?_
      obtain rfl := Option.some.inj hf
      exact g_iretH C E () dL_put_26 rfl rfl (Nat.le_of_ble_eq_true rfl) (Nat.le_of_ble_eq_true rfl)
    have hf := opt_neg k5 hf
    cases hf
  have hf := opt_pos ev1 hf
  refine g_i2l C dL_put_10 ?_
  obtain ⟨c6, hf⟩ := gg_of hf
  obtain ⟨f7, ef7, hf⟩ := opt_let hf
  refine g_last C (ws' := (wV (x_y X) v (b 0) kp ak bf fa fl ln v1.2.2.1 ch gs op) ++ (wSt (x_y X) b v1.2.2.2.1 pr v1.2.2.2.2.1 v1.2.2.2.2.2.1 wt sa v1.2.2.2.2.2.2.1) ++ (wSec (x_y X) c v1.2.2.2.2.2.2.2.1 v1.2.2.2.2.2.2.2.2.1 v1.2.2.2.2.2.2.2.2.2.1 v1.2.2.2.2.2.2.2.2.2.2.1 v1.2.2.2.2.2.2.2.2.2.2.2.1 v1.2.2.2.2.2.2.2.2.2.2.2.2.1 v1.2.2.2.2.2.2.2.2.2.2.2.2.2) ++ (wO (x_y X) o0 f7)) 13 rfl (gi_in c6) (by rw [ef7]; rfl) dL_put_11 ?_
  refine g_goto C 27 dL_put_12 (by decide) ?_
  refine g_iconst C (v := 0) dL_put_27 (by decide) ?_
  refine g_eqw (ws' := (wV (x_y X) v (b 0) kp ak bf fa fl ln v1.2.2.1 ch gs op) ++ (wSt (x_y X) b v1.2.2.2.1 pr v1.2.2.2.2.1 v1.2.2.2.2.2.1 wt sa v1.2.2.2.2.2.2.1) ++ (wSec (x_y X) c v1.2.2.2.2.2.2.2.1 v1.2.2.2.2.2.2.2.2.1 v1.2.2.2.2.2.2.2.2.2.1 v1.2.2.2.2.2.2.2.2.2.2.1 v1.2.2.2.2.2.2.2.2.2.2.2.1 v1.2.2.2.2.2.2.2.2.2.2.2.2.1 v1.2.2.2.2.2.2.2.2.2.2.2.2.2) ++ (wO (x_y X) o0 f7)) rfl ?_
  obtain rfl := Option.some.inj hf
  exact g_iretH C E () dL_put_28 rfl rfl (Nat.le_of_ble_eq_true rfl) (Nat.le_of_ble_eq_true rfl)
/-! L_remove -/
theorem hd_L_remove : yL_remove.cls ≠ "java/lang/invoke/MethodHandle" ∧ yL_remove.cls ≠ "java/lang/invoke/VarHandle" ∧ (parseMethodDescriptor yL_remove.desc).map (fun d => d.parameters.length) = some 3 := by decide +kernel
def F_L_remove (le : Int32) (ec : Int32) (ev : Nat → Int32) (c_filled : Int32) (c_ep : Int32) (c_rule : Option Nat) (c_vs : Nat → Int32) (c_es : Nat → Int32) (ot : Nat → Int64) (p1 : Int32) : Option (Int32 × Int32 × Int32 × (Nat → Int32) × Int32 × Option Nat × (Nat → Int32) × (Nat → Int32) × (Nat → Int64)) := (F_X10_remove le ec ev c_filled c_ep c_rule c_vs c_es p1).bind fun v1 => if v1.1 = 0 then (gg (gi 0 1) (gl (vp_updL ot (Int32.toNatClampNeg 0) (Int32.toInt64 v1.2.1)) fun f6 => some (0, v1.2.2.1, v1.2.2.2.1, v1.2.2.2.2.1, v1.2.2.2.2.2.1, v1.2.2.2.2.2.2.1, v1.2.2.2.2.2.2.2.1, v1.2.2.2.2.2.2.2.2, f6))) else (if v1.1 = 1 then (some (1, v1.2.2.1, v1.2.2.2.1, v1.2.2.2.2.1, v1.2.2.2.2.2.1, v1.2.2.2.2.2.2.1, v1.2.2.2.2.2.2.2.1, v1.2.2.2.2.2.2.2.2, ot)) else (if v1.1 = 3 then (some (2, v1.2.2.1, v1.2.2.2.1, v1.2.2.2.2.1, v1.2.2.2.2.2.1, v1.2.2.2.2.2.2.1, v1.2.2.2.2.2.2.2.1, v1.2.2.2.2.2.2.2.2, ot)) else (none)))
set_option maxRecDepth 100000 in
set_option maxHeartbeats 4000000 in
theorem c_L_remove {l : Launch} {D : va_G} {cy : Nat → ClassId} {v : Nat → Nat} {b : Nat → Nat} {c : Nat → Nat} {o0 : Nat} {kp : Nat} {ak : Int32} {bf : Nat} {fa : Int32} {fl : Nat} {ln : Nat} {co : Nat → Int32} {ch : Nat → Int32} {gs : Nat → Int32} {op : Nat → Int32} {z : Int32} {pr : Int32} {le : Int32} {ec : Int32} {wt : Nat → Int32} {sa : Nat → Option Nat} {ev : Nat → Int32} {c_filled : Int32} {c_th : Int32} {c_ep : Int32} {c_rule : Option Nat} {c_cm : Nat → Int32} {c_vs : Nat → Int32} {c_es : Nat → Int32} {ot : Nat → Int64} {p1 : Int32} (hs : gi p1 4 = true → sa (Int32.toNatClampNeg p1) = some (c 0)) {val : Int32 × Int32 × Int32 × (Nat → Int32) × Int32 × Option Nat × (Nat → Int32) × (Nat → Int32) × (Nat → Int64)} (hf : F_L_remove le ec ev c_filled c_ep c_rule c_vs c_es ot p1 = some val) : gCtH l D cy yL_remove cL_remove 4 (some .int) [(0, 9, 12, 13), (0, 9, 15, 34)] 8 126 2 12 [.ref (v 0), .int p1, .ref o0] [] ((wV cy v (b 0) kp ak bf fa fl ln co ch gs op) ++ (wSt cy b z pr le ec wt sa ev) ++ (wSec cy c c_filled c_th c_ep c_rule c_cm c_vs c_es) ++ (wO cy o0 ot)) (fun _ : Unit => some (.int val.1)) (fun _ => (wV cy v (b 0) kp ak bf fa fl ln co ch gs op) ++ (wSt cy b z pr val.2.1 val.2.2.1 wt sa val.2.2.2.1) ++ (wSec cy c val.2.2.2.2.1 c_th c_ep val.2.2.2.2.2.1 c_cm val.2.2.2.2.2.2.1 val.2.2.2.2.2.2.2.1) ++ (wO cy o0 val.2.2.2.2.2.2.2.2)) := by
  refine g_beginH (by decide +kernel) (Nat.le_of_ble_eq_true rfl) ?_
  intro X Q hl hR hD hy hro hn C ht E
  subst hl; subst hD; subst hy
  replace C : gC X "SecretVaultLaw" cL_remove (some .int) := C
  unfold F_L_remove at hf
  show gW X Q 0 0 ((wV (x_y X) v (b 0) kp ak bf fa fl ln co ch gs op) ++ (wSt (x_y X) b z pr le ec wt sa ev) ++ (wSec (x_y X) c c_filled c_th c_ep c_rule c_cm c_vs c_es) ++ (wO (x_y X) o0 ot)) [(0, .ref (v 0)), (1, .int p1), (2, .ref o0)] [] 0
  refine g_aload_n C 2 dL_remove_0 rfl ?_
  refine g_iconst C (v := 0) dL_remove_1 (by decide) ?_
  refine g_aload_n C 0 dL_remove_2 rfl ?_
  refine g_iload_n C 1 dL_remove_3 rfl ?_
  obtain ⟨v1, h2, hf⟩ := opt_bind hf
  refine g_callV C (c_X10_remove (l := x_l X) (D := x_D X) (cy := x_y X) (v := v) (b := b) (c := c) (kp := kp) (ak := ak) (bf := bf) (fa := fa) (fl := fl) (ln := ln) (co := co) (ch := ch) (gs := gs) (op := op) (z := z) (pr := pr) (le := le) (ec := ec) (wt := wt) (sa := sa) (ev := ev) (c_filled := c_filled) (c_th := c_th) (c_ep := c_ep) (c_rule := c_rule) (c_cm := c_cm) (c_vs := c_vs) (c_es := c_es) (p0 := p1) (hs := hs) h2) (As := [.int p1]) (rest := [.int 0, .ref o0]) (wr := (wO (x_y X) o0 ot)) (ws' := fun _ => (wV (x_y X) v (b 0) kp ak bf fa fl ln co ch gs op) ++ (wSt (x_y X) b z pr v1.2.2.1 v1.2.2.2.1 wt sa v1.2.2.2.2.1) ++ (wSec (x_y X) c v1.2.2.2.2.2.1 c_th c_ep v1.2.2.2.2.2.2.1 c_cm v1.2.2.2.2.2.2.2.1 v1.2.2.2.2.2.2.2.2) ++ (wO (x_y X) o0 ot)) (st' := fun _ => [.int v1.2.1, .int 0, .ref o0]) (ci := 11) 1 0 ⟨_, rfl⟩ rfl rfl mw_3_30 mw_1_1 mw_3_27 mw_3_28 mw_3_29 hd_X10_remove rfl (g_rm hR rfl rfl) [0, 1, 2, 3, 4, 5, 6, 7, 8, 9, 10, 11, 12] [13] [1, 2, 3, 4, 5, 6, 7, 8, 9, 10, 11, 12, 13, 0] ⟨rfl, rfl, rfl, rfl, by decide, gRoIn_0, rfl, fun _ => rfl⟩ rfl (Nat.le_of_ble_eq_true rfl) dL_remove_4 (g_rc hR (Nat.le_of_ble_eq_true rfl) (Nat.le_of_ble_eq_true rfl)) (ck' := 2) (sk' := 12) rfl rfl (fun _ => rfl) (fun _ ev1 => ?_) (fun _ ev1 => ?_)
  rotate_left
  · have hf := opt_neg ev1 hf
    by_cases k3 : v1.1 = 1
    · have hf := opt_pos k3 hf
      have hE : gExn v1.1 = "java/lang/IndexOutOfBoundsException" := by rw [k3]; rfl
      rw [hE]
      refine g_catch C ht [] [(0, 9, 15, 34)] rfl (fun _ h => nomatch h) (by decide) (by decide) mw_2_10 (by decide +kernel) (fun xk3 => ?_)
      refine g_astore_n C (lv' := [(3, .ref xk3), (0, .ref (v 0)), (1, .int p1), (2, .ref o0)]) dL_remove_12 (g_nlt hn rfl) rfl ?_
      refine g_iconst C (v := 1) dL_remove_13 (by decide) ?_
      refine g_eqw (ws' := (wV (x_y X) v (b 0) kp ak bf fa fl ln co ch gs op) ++ (wSt (x_y X) b z pr v1.2.2.1 v1.2.2.2.1 wt sa v1.2.2.2.2.1) ++ (wSec (x_y X) c v1.2.2.2.2.2.1 c_th c_ep v1.2.2.2.2.2.2.1 c_cm v1.2.2.2.2.2.2.2.1 v1.2.2.2.2.2.2.2.2) ++ (wO (x_y X) o0 ot)) rfl ?_
      obtain rfl := Option.some.inj hf
      exact g_iretH C E () dL_remove_14 rfl rfl (Nat.le_of_ble_eq_true rfl) (Nat.le_of_ble_eq_true rfl)
    have hf := opt_neg k3 hf
    by_cases k4 : v1.1 = 3
    · have hf := opt_pos k4 hf
      have hE : gExn v1.1 = "java/util/NoSuchElementException" := by rw [k4]; rfl
      rw [hE]
      refine g_catch C ht [(0, 9, 12, 13)] [] rfl (List.forall_mem_cons.mpr ⟨Or.inr ⟨by decide, "java/lang/IndexOutOfBoundsException", mw_2_10, by decide +kernel⟩, fun _ h => nomatch h⟩) (by decide) (by decide) mw_3_26 (by decide +kernel) (fun xk4 => ?_)
      refine g_astore_n C (lv' := [(3, .ref xk4), (0, .ref (v 0)), (1, .int p1), (2, .ref o0)]) dL_remove_15 (g_nlt hn rfl) rfl ?_
      refine g_iconst C (v := 2) dL_remove_16 (by decide) ?_
      refine g_eqw (ws' := (wV (x_y X) v (b 0) kp ak bf fa fl ln co ch gs op) ++ (wSt (x_y X) b z pr v1.2.2.1 v1.2.2.2.1 wt sa v1.2.2.2.2.1) ++ (wSec (x_y X) c v1.2.2.2.2.2.1 c_th c_ep v1.2.2.2.2.2.2.1 c_cm v1.2.2.2.2.2.2.2.1 v1.2.2.2.2.2.2.2.2) ++ (wO (x_y X) o0 ot)) rfl ?_
      obtain rfl := Option.some.inj hf
      exact g_iretH C E () dL_remove_17 rfl rfl (Nat.le_of_ble_eq_true rfl) (Nat.le_of_ble_eq_true rfl)
    have hf := opt_neg k4 hf
    cases hf
  have hf := opt_pos ev1 hf
  refine g_i2l C dL_remove_7 ?_
  obtain ⟨c5, hf⟩ := gg_of hf
  obtain ⟨f6, ef6, hf⟩ := opt_let hf
  refine g_last C (ws' := (wV (x_y X) v (b 0) kp ak bf fa fl ln co ch gs op) ++ (wSt (x_y X) b z pr v1.2.2.1 v1.2.2.2.1 wt sa v1.2.2.2.2.1) ++ (wSec (x_y X) c v1.2.2.2.2.2.1 c_th c_ep v1.2.2.2.2.2.2.1 c_cm v1.2.2.2.2.2.2.2.1 v1.2.2.2.2.2.2.2.2) ++ (wO (x_y X) o0 f6)) 13 rfl (gi_in c5) (by rw [ef6]; rfl) dL_remove_8 ?_
  refine g_goto C 18 dL_remove_9 (by decide) ?_
  refine g_iconst C (v := 0) dL_remove_18 (by decide) ?_
  refine g_eqw (ws' := (wV (x_y X) v (b 0) kp ak bf fa fl ln co ch gs op) ++ (wSt (x_y X) b z pr v1.2.2.1 v1.2.2.2.1 wt sa v1.2.2.2.2.1) ++ (wSec (x_y X) c v1.2.2.2.2.2.1 c_th c_ep v1.2.2.2.2.2.2.1 c_cm v1.2.2.2.2.2.2.2.1 v1.2.2.2.2.2.2.2.2) ++ (wO (x_y X) o0 f6)) rfl ?_
  obtain rfl := Option.some.inj hf
  exact g_iretH C E () dL_remove_19 rfl rfl (Nat.le_of_ble_eq_true rfl) (Nat.le_of_ble_eq_true rfl)
/-! L_refresh -/
theorem hd_L_refresh : yL_refresh.cls ≠ "java/lang/invoke/MethodHandle" ∧ yL_refresh.cls ≠ "java/lang/invoke/VarHandle" ∧ (parseMethodDescriptor yL_refresh.desc).map (fun d => d.parameters.length) = some 3 := by decide +kernel
def F_L_refresh (co : Nat → Int32) (z : Int32) (pr : Int32) (le : Int32) (ec : Int32) (ev : Nat → Int32) (c_filled : Int32) (c_th : Int32) (c_ep : Int32) (c_cm : Nat → Int32) (c_vs : Nat → Int32) (c_es : Nat → Int32) (ot : Nat → Int64) (p1 : Int32) : Option (Int32 × (Nat → Int32) × Int32 × Int32 × Int32 × (Nat → Int32) × Int32 × (Nat → Int32) × (Nat → Int32) × (Nat → Int32) × (Nat → Int64)) := (F_X10_refresh co z pr le ec ev c_filled c_th c_ep c_cm c_vs c_es p1).bind fun v1 => if v1.1 = 0 then (gg (gi 0 1) (gl (vp_updL ot (Int32.toNatClampNeg 0) (Int32.toInt64 v1.2.1)) fun f6 => some (0, v1.2.2.1, v1.2.2.2.1, v1.2.2.2.2.1, v1.2.2.2.2.2.1, v1.2.2.2.2.2.2.1, v1.2.2.2.2.2.2.2.1, v1.2.2.2.2.2.2.2.2.1, v1.2.2.2.2.2.2.2.2.2.1, v1.2.2.2.2.2.2.2.2.2.2, f6))) else (if v1.1 = 1 then (some (1, v1.2.2.1, v1.2.2.2.1, v1.2.2.2.2.1, v1.2.2.2.2.2.1, v1.2.2.2.2.2.2.1, v1.2.2.2.2.2.2.2.1, v1.2.2.2.2.2.2.2.2.1, v1.2.2.2.2.2.2.2.2.2.1, v1.2.2.2.2.2.2.2.2.2.2, ot)) else (if v1.1 = 3 then (some (2, v1.2.2.1, v1.2.2.2.1, v1.2.2.2.2.1, v1.2.2.2.2.2.1, v1.2.2.2.2.2.2.1, v1.2.2.2.2.2.2.2.1, v1.2.2.2.2.2.2.2.2.1, v1.2.2.2.2.2.2.2.2.2.1, v1.2.2.2.2.2.2.2.2.2.2, ot)) else (none)))
set_option maxRecDepth 100000 in
set_option maxHeartbeats 4000000 in
theorem c_L_refresh {l : Launch} {D : va_G} {cy : Nat → ClassId} {v : Nat → Nat} {b : Nat → Nat} {c : Nat → Nat} {o0 : Nat} {kp : Nat} {ak : Int32} {bf : Nat} {fa : Int32} {fl : Nat} {ln : Nat} {co : Nat → Int32} {ch : Nat → Int32} {gs : Nat → Int32} {op : Nat → Int32} {z : Int32} {pr : Int32} {le : Int32} {ec : Int32} {wt : Nat → Int32} {sa : Nat → Option Nat} {ev : Nat → Int32} {c_filled : Int32} {c_th : Int32} {c_ep : Int32} {c_rule : Option Nat} {c_cm : Nat → Int32} {c_vs : Nat → Int32} {c_es : Nat → Int32} {ot : Nat → Int64} {p1 : Int32} (hs : gi p1 4 = true → sa (Int32.toNatClampNeg p1) = some (c 0)) {val : Int32 × (Nat → Int32) × Int32 × Int32 × Int32 × (Nat → Int32) × Int32 × (Nat → Int32) × (Nat → Int32) × (Nat → Int32) × (Nat → Int64)} (hf : F_L_refresh co z pr le ec ev c_filled c_th c_ep c_cm c_vs c_es ot p1 = some val) : gCtH l D cy yL_refresh cL_refresh 4 (some .int) [(0, 9, 12, 13), (0, 9, 15, 34)] 8 126 2 12 [.ref (v 0), .int p1, .ref o0] [] ((wV cy v (b 0) kp ak bf fa fl ln co ch gs op) ++ (wSt cy b z pr le ec wt sa ev) ++ (wSec cy c c_filled c_th c_ep c_rule c_cm c_vs c_es) ++ (wO cy o0 ot)) (fun _ : Unit => some (.int val.1)) (fun _ => (wV cy v (b 0) kp ak bf fa fl ln val.2.1 ch gs op) ++ (wSt cy b val.2.2.1 pr val.2.2.2.1 val.2.2.2.2.1 wt sa val.2.2.2.2.2.1) ++ (wSec cy c c_filled c_th val.2.2.2.2.2.2.1 c_rule val.2.2.2.2.2.2.2.1 val.2.2.2.2.2.2.2.2.1 val.2.2.2.2.2.2.2.2.2.1) ++ (wO cy o0 val.2.2.2.2.2.2.2.2.2.2)) := by
  refine g_beginH (by decide +kernel) (Nat.le_of_ble_eq_true rfl) ?_
  intro X Q hl hR hD hy hro hn C ht E
  subst hl; subst hD; subst hy
  replace C : gC X "SecretVaultLaw" cL_refresh (some .int) := C
  unfold F_L_refresh at hf
  show gW X Q 0 0 ((wV (x_y X) v (b 0) kp ak bf fa fl ln co ch gs op) ++ (wSt (x_y X) b z pr le ec wt sa ev) ++ (wSec (x_y X) c c_filled c_th c_ep c_rule c_cm c_vs c_es) ++ (wO (x_y X) o0 ot)) [(0, .ref (v 0)), (1, .int p1), (2, .ref o0)] [] 0
  refine g_aload_n C 2 dL_refresh_0 rfl ?_
  refine g_iconst C (v := 0) dL_refresh_1 (by decide) ?_
  refine g_aload_n C 0 dL_refresh_2 rfl ?_
  refine g_iload_n C 1 dL_refresh_3 rfl ?_
  obtain ⟨v1, h2, hf⟩ := opt_bind hf
  refine g_callV C (c_X10_refresh (l := x_l X) (D := x_D X) (cy := x_y X) (v := v) (b := b) (c := c) (kp := kp) (ak := ak) (bf := bf) (fa := fa) (fl := fl) (ln := ln) (co := co) (ch := ch) (gs := gs) (op := op) (z := z) (pr := pr) (le := le) (ec := ec) (wt := wt) (sa := sa) (ev := ev) (c_filled := c_filled) (c_th := c_th) (c_ep := c_ep) (c_rule := c_rule) (c_cm := c_cm) (c_vs := c_vs) (c_es := c_es) (p0 := p1) (hs := hs) h2) (As := [.int p1]) (rest := [.int 0, .ref o0]) (wr := (wO (x_y X) o0 ot)) (ws' := fun _ => (wV (x_y X) v (b 0) kp ak bf fa fl ln v1.2.2.1 ch gs op) ++ (wSt (x_y X) b v1.2.2.2.1 pr v1.2.2.2.2.1 v1.2.2.2.2.2.1 wt sa v1.2.2.2.2.2.2.1) ++ (wSec (x_y X) c c_filled c_th v1.2.2.2.2.2.2.2.1 c_rule v1.2.2.2.2.2.2.2.2.1 v1.2.2.2.2.2.2.2.2.2.1 v1.2.2.2.2.2.2.2.2.2.2) ++ (wO (x_y X) o0 ot)) (st' := fun _ => [.int v1.2.1, .int 0, .ref o0]) (ci := 11) 1 0 ⟨_, rfl⟩ rfl rfl mw_3_57 mw_1_1 mw_3_54 mw_3_55 mw_3_56 hd_X10_refresh rfl (g_rm hR rfl rfl) [0, 1, 2, 3, 4, 5, 6, 7, 8, 9, 10, 11, 12] [13] [1, 2, 3, 4, 5, 6, 7, 8, 9, 10, 11, 12, 13, 0] ⟨rfl, rfl, rfl, rfl, by decide, gRoIn_0, rfl, fun _ => rfl⟩ rfl (Nat.le_of_ble_eq_true rfl) dL_refresh_4 (g_rc hR (Nat.le_of_ble_eq_true rfl) (Nat.le_of_ble_eq_true rfl)) (ck' := 2) (sk' := 12) rfl rfl (fun _ => rfl) (fun _ ev1 => ?_) (fun _ ev1 => ?_)
  rotate_left
  · have hf := opt_neg ev1 hf
    by_cases k3 : v1.1 = 1
    · have hf := opt_pos k3 hf
      have hE : gExn v1.1 = "java/lang/IndexOutOfBoundsException" := by rw [k3]; rfl
      rw [hE]
      refine g_catch C ht [] [(0, 9, 15, 34)] rfl (fun _ h => nomatch h) (by decide) (by decide) mw_2_10 (by decide +kernel) (fun xk3 => ?_)
      refine g_astore_n C (lv' := [(3, .ref xk3), (0, .ref (v 0)), (1, .int p1), (2, .ref o0)]) dL_refresh_12 (g_nlt hn rfl) rfl ?_
      refine g_iconst C (v := 1) dL_refresh_13 (by decide) ?_
      refine g_eqw (ws' := (wV (x_y X) v (b 0) kp ak bf fa fl ln v1.2.2.1 ch gs op) ++ (wSt (x_y X) b v1.2.2.2.1 pr v1.2.2.2.2.1 v1.2.2.2.2.2.1 wt sa v1.2.2.2.2.2.2.1) ++ (wSec (x_y X) c c_filled c_th v1.2.2.2.2.2.2.2.1 c_rule v1.2.2.2.2.2.2.2.2.1 v1.2.2.2.2.2.2.2.2.2.1 v1.2.2.2.2.2.2.2.2.2.2) ++ (wO (x_y X) o0 ot)) rfl ?_
      obtain rfl := Option.some.inj hf
      exact g_iretH C E () dL_refresh_14 rfl rfl (Nat.le_of_ble_eq_true rfl) (Nat.le_of_ble_eq_true rfl)
    have hf := opt_neg k3 hf
    by_cases k4 : v1.1 = 3
    · have hf := opt_pos k4 hf
      have hE : gExn v1.1 = "java/util/NoSuchElementException" := by rw [k4]; rfl
      rw [hE]
      refine g_catch C ht [(0, 9, 12, 13)] [] rfl (List.forall_mem_cons.mpr ⟨Or.inr ⟨by decide, "java/lang/IndexOutOfBoundsException", mw_2_10, by decide +kernel⟩, fun _ h => nomatch h⟩) (by decide) (by decide) mw_3_26 (by decide +kernel) (fun xk4 => ?_)
      refine g_astore_n C (lv' := [(3, .ref xk4), (0, .ref (v 0)), (1, .int p1), (2, .ref o0)]) dL_refresh_15 (g_nlt hn rfl) rfl ?_
      refine g_iconst C (v := 2) dL_refresh_16 (by decide) ?_
      refine g_eqw (ws' := (wV (x_y X) v (b 0) kp ak bf fa fl ln v1.2.2.1 ch gs op) ++ (wSt (x_y X) b v1.2.2.2.1 pr v1.2.2.2.2.1 v1.2.2.2.2.2.1 wt sa v1.2.2.2.2.2.2.1) ++ (wSec (x_y X) c c_filled c_th v1.2.2.2.2.2.2.2.1 c_rule v1.2.2.2.2.2.2.2.2.1 v1.2.2.2.2.2.2.2.2.2.1 v1.2.2.2.2.2.2.2.2.2.2) ++ (wO (x_y X) o0 ot)) rfl ?_
      obtain rfl := Option.some.inj hf
      exact g_iretH C E () dL_refresh_17 rfl rfl (Nat.le_of_ble_eq_true rfl) (Nat.le_of_ble_eq_true rfl)
    have hf := opt_neg k4 hf
    cases hf
  have hf := opt_pos ev1 hf
  refine g_i2l C dL_refresh_7 ?_
  obtain ⟨c5, hf⟩ := gg_of hf
  obtain ⟨f6, ef6, hf⟩ := opt_let hf
  refine g_last C (ws' := (wV (x_y X) v (b 0) kp ak bf fa fl ln v1.2.2.1 ch gs op) ++ (wSt (x_y X) b v1.2.2.2.1 pr v1.2.2.2.2.1 v1.2.2.2.2.2.1 wt sa v1.2.2.2.2.2.2.1) ++ (wSec (x_y X) c c_filled c_th v1.2.2.2.2.2.2.2.1 c_rule v1.2.2.2.2.2.2.2.2.1 v1.2.2.2.2.2.2.2.2.2.1 v1.2.2.2.2.2.2.2.2.2.2) ++ (wO (x_y X) o0 f6)) 13 rfl (gi_in c5) (by rw [ef6]; rfl) dL_refresh_8 ?_
  refine g_goto C 18 dL_refresh_9 (by decide) ?_
  refine g_iconst C (v := 0) dL_refresh_18 (by decide) ?_
  refine g_eqw (ws' := (wV (x_y X) v (b 0) kp ak bf fa fl ln v1.2.2.1 ch gs op) ++ (wSt (x_y X) b v1.2.2.2.1 pr v1.2.2.2.2.1 v1.2.2.2.2.2.1 wt sa v1.2.2.2.2.2.2.1) ++ (wSec (x_y X) c c_filled c_th v1.2.2.2.2.2.2.2.1 c_rule v1.2.2.2.2.2.2.2.2.1 v1.2.2.2.2.2.2.2.2.2.1 v1.2.2.2.2.2.2.2.2.2.2) ++ (wO (x_y X) o0 f6)) rfl ?_
  obtain rfl := Option.some.inj hf
  exact g_iretH C E () dL_refresh_19 rfl rfl (Nat.le_of_ble_eq_true rfl) (Nat.le_of_ble_eq_true rfl)
/-! L_reshare -/
theorem hd_L_reshare : yL_reshare.cls ≠ "java/lang/invoke/MethodHandle" ∧ yL_reshare.cls ≠ "java/lang/invoke/VarHandle" ∧ (parseMethodDescriptor yL_reshare.desc).map (fun d => d.parameters.length) = some 5 := by decide +kernel
def F_L_reshare (co : Nat → Int32) (ch : Nat → Int32) (z : Int32) (pr : Int32) (le : Int32) (ec : Int32) (wt : Nat → Int32) (ev : Nat → Int32) (c_filled : Int32) (c_th : Int32) (c_ep : Int32) (c_rule : Option Nat) (c_cm : Nat → Int32) (c_vs : Nat → Int32) (c_es : Nat → Int32) (rs : Int32) (rc : Nat → Int32) (rd : Nat → Int32) (ot : Nat → Int64) (ful : Nat → Int32) (p1 : Int32) (p2 : Int32) (p3 : Int32) : Option (Int32 × (Nat → Int32) × (Nat → Int32) × Int32 × Int32 × Int32 × (Nat → Int32) × Int32 × Int32 × (Nat → Int32) × (Nat → Int32) × (Nat → Int32) × Int32 × (Nat → Int32) × (Nat → Int32) × (Nat → Int64)) := (F_X10_reshare co ch z pr le ec wt ev c_filled c_th c_ep c_rule c_cm c_vs c_es rs rc rd ful p1 p2 p3).bind fun v1 => if v1.1 = 0 then (gg (gi 0 1) (gl (vp_updL ot (Int32.toNatClampNeg 0) (Int32.toInt64 v1.2.1)) fun f9 => some (0, v1.2.2.1, v1.2.2.2.1, v1.2.2.2.2.1, v1.2.2.2.2.2.1, v1.2.2.2.2.2.2.1, v1.2.2.2.2.2.2.2.1, v1.2.2.2.2.2.2.2.2.1, v1.2.2.2.2.2.2.2.2.2.1, v1.2.2.2.2.2.2.2.2.2.2.1, v1.2.2.2.2.2.2.2.2.2.2.2.1, v1.2.2.2.2.2.2.2.2.2.2.2.2.1, v1.2.2.2.2.2.2.2.2.2.2.2.2.2.1, v1.2.2.2.2.2.2.2.2.2.2.2.2.2.2.1, v1.2.2.2.2.2.2.2.2.2.2.2.2.2.2.2, f9))) else (if v1.1 = 1 then (some (1, v1.2.2.1, v1.2.2.2.1, v1.2.2.2.2.1, v1.2.2.2.2.2.1, v1.2.2.2.2.2.2.1, v1.2.2.2.2.2.2.2.1, v1.2.2.2.2.2.2.2.2.1, v1.2.2.2.2.2.2.2.2.2.1, v1.2.2.2.2.2.2.2.2.2.2.1, v1.2.2.2.2.2.2.2.2.2.2.2.1, v1.2.2.2.2.2.2.2.2.2.2.2.2.1, v1.2.2.2.2.2.2.2.2.2.2.2.2.2.1, v1.2.2.2.2.2.2.2.2.2.2.2.2.2.2.1, v1.2.2.2.2.2.2.2.2.2.2.2.2.2.2.2, ot)) else (if v1.1 = 2 then (some (2, v1.2.2.1, v1.2.2.2.1, v1.2.2.2.2.1, v1.2.2.2.2.2.1, v1.2.2.2.2.2.2.1, v1.2.2.2.2.2.2.2.1, v1.2.2.2.2.2.2.2.2.1, v1.2.2.2.2.2.2.2.2.2.1, v1.2.2.2.2.2.2.2.2.2.2.1, v1.2.2.2.2.2.2.2.2.2.2.2.1, v1.2.2.2.2.2.2.2.2.2.2.2.2.1, v1.2.2.2.2.2.2.2.2.2.2.2.2.2.1, v1.2.2.2.2.2.2.2.2.2.2.2.2.2.2.1, v1.2.2.2.2.2.2.2.2.2.2.2.2.2.2.2, ot)) else (if v1.1 = 3 then (some (3, v1.2.2.1, v1.2.2.2.1, v1.2.2.2.2.1, v1.2.2.2.2.2.1, v1.2.2.2.2.2.2.1, v1.2.2.2.2.2.2.2.1, v1.2.2.2.2.2.2.2.2.1, v1.2.2.2.2.2.2.2.2.2.1, v1.2.2.2.2.2.2.2.2.2.2.1, v1.2.2.2.2.2.2.2.2.2.2.2.1, v1.2.2.2.2.2.2.2.2.2.2.2.2.1, v1.2.2.2.2.2.2.2.2.2.2.2.2.2.1, v1.2.2.2.2.2.2.2.2.2.2.2.2.2.2.1, v1.2.2.2.2.2.2.2.2.2.2.2.2.2.2.2, ot)) else (if v1.1 = 4 then (some (4, v1.2.2.1, v1.2.2.2.1, v1.2.2.2.2.1, v1.2.2.2.2.2.1, v1.2.2.2.2.2.2.1, v1.2.2.2.2.2.2.2.1, v1.2.2.2.2.2.2.2.2.1, v1.2.2.2.2.2.2.2.2.2.1, v1.2.2.2.2.2.2.2.2.2.2.1, v1.2.2.2.2.2.2.2.2.2.2.2.1, v1.2.2.2.2.2.2.2.2.2.2.2.2.1, v1.2.2.2.2.2.2.2.2.2.2.2.2.2.1, v1.2.2.2.2.2.2.2.2.2.2.2.2.2.2.1, v1.2.2.2.2.2.2.2.2.2.2.2.2.2.2.2, ot)) else (if v1.1 = 5 then (some (5, v1.2.2.1, v1.2.2.2.1, v1.2.2.2.2.1, v1.2.2.2.2.2.1, v1.2.2.2.2.2.2.1, v1.2.2.2.2.2.2.2.1, v1.2.2.2.2.2.2.2.2.1, v1.2.2.2.2.2.2.2.2.2.1, v1.2.2.2.2.2.2.2.2.2.2.1, v1.2.2.2.2.2.2.2.2.2.2.2.1, v1.2.2.2.2.2.2.2.2.2.2.2.2.1, v1.2.2.2.2.2.2.2.2.2.2.2.2.2.1, v1.2.2.2.2.2.2.2.2.2.2.2.2.2.2.1, v1.2.2.2.2.2.2.2.2.2.2.2.2.2.2.2, ot)) else (none))))))
set_option maxRecDepth 100000 in
set_option maxHeartbeats 4000000 in
theorem c_L_reshare {l : Launch} {D : va_G} {cy : Nat → ClassId} {v : Nat → Nat} {b : Nat → Nat} {c : Nat → Nat} {r : Nat → Nat} {o0 : Nat} {q0 q1 t0 t1 : Nat} {kp : Nat} {ak : Int32} {bf : Nat} {fa : Int32} {ln : Nat} {co : Nat → Int32} {ch : Nat → Int32} {gs : Nat → Int32} {op : Nat → Int32} {z : Int32} {pr : Int32} {le : Int32} {ec : Int32} {wt : Nat → Int32} {sa : Nat → Option Nat} {ev : Nat → Int32} {c_filled : Int32} {c_th : Int32} {c_ep : Int32} {c_rule : Option Nat} {c_cm : Nat → Int32} {c_vs : Nat → Int32} {c_es : Nat → Int32} {rs : Int32} {rc : Nat → Int32} {rd : Nat → Int32} {ot : Nat → Int64} {pparts : Int32} {pnest : Int32} {pnamed : Int32} {ful : Nat → Int32} {hash : Int32} {hz : Int32} {tn : Nat} {tb : Nat → Int32} {p1 : Int32} {p2 : Int32} {p3 : Int32} (hs : gi p1 4 = true → sa (Int32.toNatClampNeg p1) = some (c 0)) (hpol : ¬ c_rule = none → c_rule = some q0) {val : Int32 × (Nat → Int32) × (Nat → Int32) × Int32 × Int32 × Int32 × (Nat → Int32) × Int32 × Int32 × (Nat → Int32) × (Nat → Int32) × (Nat → Int32) × Int32 × (Nat → Int32) × (Nat → Int32) × (Nat → Int64)} (hf : F_L_reshare co ch z pr le ec wt ev c_filled c_th c_ep c_rule c_cm c_vs c_es rs rc rd ot ful p1 p2 p3 = some val) : gCtH l D cy yL_reshare cL_reshare 6 (some .int) [(0, 12, 15, 13), (0, 12, 19, 15), (0, 12, 23, 34), (0, 12, 27, 42), (0, 12, 31, 28)] 8 143 6 36 [.ref (v 0), .int p1, .int p2, .int p3, .ref o0] (gOpt c_rule ((wPo cy q0 q1 t0 t1 pparts pnest pnamed ful hash hz tn tb))) ((wV cy v (b 0) kp ak bf fa (r 0) ln co ch gs op) ++ (wSt cy b z pr le ec wt sa ev) ++ (wSec cy c c_filled c_th c_ep c_rule c_cm c_vs c_es) ++ (wRep cy r rs rc rd) ++ (wO cy o0 ot)) (fun _ : Unit => some (.int val.1)) (fun _ => (wV cy v (b 0) kp ak bf fa (r 0) ln val.2.1 val.2.2.1 gs op) ++ (wSt cy b val.2.2.2.1 pr val.2.2.2.2.1 val.2.2.2.2.2.1 wt sa val.2.2.2.2.2.2.1) ++ (wSec cy c c_filled val.2.2.2.2.2.2.2.1 val.2.2.2.2.2.2.2.2.1 c_rule val.2.2.2.2.2.2.2.2.2.1 val.2.2.2.2.2.2.2.2.2.2.1 val.2.2.2.2.2.2.2.2.2.2.2.1) ++ (wRep cy r val.2.2.2.2.2.2.2.2.2.2.2.2.1 val.2.2.2.2.2.2.2.2.2.2.2.2.2.1 val.2.2.2.2.2.2.2.2.2.2.2.2.2.2.1) ++ (wO cy o0 val.2.2.2.2.2.2.2.2.2.2.2.2.2.2.2)) := by
  refine g_beginH (by decide +kernel) (Nat.le_of_ble_eq_true rfl) ?_
  intro X Q hl hR hD hy hro hn C ht E
  subst hl; subst hD; subst hy
  replace C : gC X "SecretVaultLaw" cL_reshare (some .int) := C
  unfold F_L_reshare at hf
  show gW X Q 0 0 ((wV (x_y X) v (b 0) kp ak bf fa (r 0) ln co ch gs op) ++ (wSt (x_y X) b z pr le ec wt sa ev) ++ (wSec (x_y X) c c_filled c_th c_ep c_rule c_cm c_vs c_es) ++ (wRep (x_y X) r rs rc rd) ++ (wO (x_y X) o0 ot)) [(0, .ref (v 0)), (1, .int p1), (2, .int p2), (3, .int p3), (4, .ref o0)] [] 0
  refine g_aload C 4 dL_reshare_0 rfl ?_
  refine g_iconst C (v := 0) dL_reshare_2 (by decide) ?_
  refine g_aload_n C 0 dL_reshare_3 rfl ?_
  refine g_iload_n C 1 dL_reshare_4 rfl ?_
  refine g_iload_n C 2 dL_reshare_5 rfl ?_
  refine g_iload_n C 3 dL_reshare_6 rfl ?_
  obtain ⟨v1, h2, hf⟩ := opt_bind hf
  refine g_callV C (c_X10_reshare (l := x_l X) (D := x_D X) (cy := x_y X) (v := v) (b := b) (c := c) (r := r) (q0 := q0) (q1 := q1) (t0 := t0) (t1 := t1) (kp := kp) (ak := ak) (bf := bf) (fa := fa) (ln := ln) (co := co) (ch := ch) (gs := gs) (op := op) (z := z) (pr := pr) (le := le) (ec := ec) (wt := wt) (sa := sa) (ev := ev) (c_filled := c_filled) (c_th := c_th) (c_ep := c_ep) (c_rule := c_rule) (c_cm := c_cm) (c_vs := c_vs) (c_es := c_es) (rs := rs) (rc := rc) (rd := rd) (pparts := pparts) (pnest := pnest) (pnamed := pnamed) (ful := ful) (hash := hash) (hz := hz) (tn := tn) (tb := tb) (p0 := p1) (p1 := p2) (p2 := p3) (hs := hs) (hpol := hpol) h2) (As := [.int p1, .int p2, .int p3]) (rest := [.int 0, .ref o0]) (wr := (wO (x_y X) o0 ot)) (ws' := fun _ => (wV (x_y X) v (b 0) kp ak bf fa (r 0) ln v1.2.2.1 v1.2.2.2.1 gs op) ++ (wSt (x_y X) b v1.2.2.2.2.1 pr v1.2.2.2.2.2.1 v1.2.2.2.2.2.2.1 wt sa v1.2.2.2.2.2.2.2.1) ++ (wSec (x_y X) c c_filled v1.2.2.2.2.2.2.2.2.1 v1.2.2.2.2.2.2.2.2.2.1 c_rule v1.2.2.2.2.2.2.2.2.2.2.1 v1.2.2.2.2.2.2.2.2.2.2.2.1 v1.2.2.2.2.2.2.2.2.2.2.2.2.1) ++ (wRep (x_y X) r v1.2.2.2.2.2.2.2.2.2.2.2.2.2.1 v1.2.2.2.2.2.2.2.2.2.2.2.2.2.2.1 v1.2.2.2.2.2.2.2.2.2.2.2.2.2.2.2) ++ (wO (x_y X) o0 ot)) (st' := fun _ => [.int v1.2.1, .int 0, .ref o0]) (ci := 11) 3 0 ⟨_, rfl⟩ rfl rfl mw_3_71 mw_1_1 mw_3_68 mw_3_69 mw_3_70 hd_X10_reshare rfl (g_rm hR rfl rfl) [0, 1, 2, 3, 4, 5, 6, 7, 8, 9, 10, 11, 12, 13, 14, 15] [16] [1, 2, 3, 4, 5, 6, 7, 8, 9, 10, 11, 12, 13, 14, 15, 16, 0] ⟨rfl, rfl, rfl, rfl, by decide, gRoIn_all9 17 hro rfl rfl, rfl, fun _ => rfl⟩ rfl (Nat.le_of_ble_eq_true rfl) dL_reshare_7 (g_rc hR (Nat.le_of_ble_eq_true rfl) (Nat.le_of_ble_eq_true rfl)) (ck' := 6) (sk' := 36) rfl rfl (fun _ => rfl) (fun _ ev1 => ?_) (fun _ ev1 => ?_)
  rotate_left
  · have hf := opt_neg ev1 hf
    by_cases k3 : v1.1 = 1
    · have hf := opt_pos k3 hf
      have hE : gExn v1.1 = "java/lang/IndexOutOfBoundsException" := by rw [k3]; rfl
      rw [hE]
      refine g_catch C ht [] [(0, 12, 19, 15), (0, 12, 23, 34), (0, 12, 27, 42), (0, 12, 31, 28)] rfl (fun _ h => nomatch h) (by decide) (by decide) mw_2_10 (by decide +kernel) (fun xk3 => ?_)
      refine g_astore C (lv' := [(5, .ref xk3), (0, .ref (v 0)), (1, .int p1), (2, .int p2), (3, .int p3), (4, .ref o0)]) dL_reshare_15 (g_nlt hn rfl) rfl ?_
      refine g_iconst C (v := 1) dL_reshare_17 (by decide) ?_
      refine g_eqw (ws' := (wV (x_y X) v (b 0) kp ak bf fa (r 0) ln v1.2.2.1 v1.2.2.2.1 gs op) ++ (wSt (x_y X) b v1.2.2.2.2.1 pr v1.2.2.2.2.2.1 v1.2.2.2.2.2.2.1 wt sa v1.2.2.2.2.2.2.2.1) ++ (wSec (x_y X) c c_filled v1.2.2.2.2.2.2.2.2.1 v1.2.2.2.2.2.2.2.2.2.1 c_rule v1.2.2.2.2.2.2.2.2.2.2.1 v1.2.2.2.2.2.2.2.2.2.2.2.1 v1.2.2.2.2.2.2.2.2.2.2.2.2.1) ++ (wRep (x_y X) r v1.2.2.2.2.2.2.2.2.2.2.2.2.2.1 v1.2.2.2.2.2.2.2.2.2.2.2.2.2.2.1 v1.2.2.2.2.2.2.2.2.2.2.2.2.2.2.2) ++ (wO (x_y X) o0 ot)) rfl ?_
      obtain rfl := Option.some.inj hf
      exact g_iretH C E () dL_reshare_18 rfl rfl (Nat.le_of_ble_eq_true rfl) (Nat.le_of_ble_eq_true rfl)
    have hf := opt_neg k3 hf
    by_cases k4 : v1.1 = 2
    · have hf := opt_pos k4 hf
      have hE : gExn v1.1 = "java/lang/IllegalArgumentException" := by rw [k4]; rfl
      rw [hE]
      refine g_catch C ht [(0, 12, 15, 13)] [(0, 12, 23, 34), (0, 12, 27, 42), (0, 12, 31, 28)] rfl (List.forall_mem_cons.mpr ⟨Or.inr ⟨by decide, "java/lang/IndexOutOfBoundsException", mw_2_10, by decide +kernel⟩, fun _ h => nomatch h⟩) (by decide) (by decide) mw_2_90 (by decide +kernel) (fun xk4 => ?_)
      refine g_astore C (lv' := [(5, .ref xk4), (0, .ref (v 0)), (1, .int p1), (2, .int p2), (3, .int p3), (4, .ref o0)]) dL_reshare_19 (g_nlt hn rfl) rfl ?_
      refine g_iconst C (v := 2) dL_reshare_21 (by decide) ?_
      refine g_eqw (ws' := (wV (x_y X) v (b 0) kp ak bf fa (r 0) ln v1.2.2.1 v1.2.2.2.1 gs op) ++ (wSt (x_y X) b v1.2.2.2.2.1 pr v1.2.2.2.2.2.1 v1.2.2.2.2.2.2.1 wt sa v1.2.2.2.2.2.2.2.1) ++ (wSec (x_y X) c c_filled v1.2.2.2.2.2.2.2.2.1 v1.2.2.2.2.2.2.2.2.2.1 c_rule v1.2.2.2.2.2.2.2.2.2.2.1 v1.2.2.2.2.2.2.2.2.2.2.2.1 v1.2.2.2.2.2.2.2.2.2.2.2.2.1) ++ (wRep (x_y X) r v1.2.2.2.2.2.2.2.2.2.2.2.2.2.1 v1.2.2.2.2.2.2.2.2.2.2.2.2.2.2.1 v1.2.2.2.2.2.2.2.2.2.2.2.2.2.2.2) ++ (wO (x_y X) o0 ot)) rfl ?_
      obtain rfl := Option.some.inj hf
      exact g_iretH C E () dL_reshare_22 rfl rfl (Nat.le_of_ble_eq_true rfl) (Nat.le_of_ble_eq_true rfl)
    have hf := opt_neg k4 hf
    by_cases k5 : v1.1 = 3
    · have hf := opt_pos k5 hf
      have hE : gExn v1.1 = "java/util/NoSuchElementException" := by rw [k5]; rfl
      rw [hE]
      refine g_catch C ht [(0, 12, 15, 13), (0, 12, 19, 15)] [(0, 12, 27, 42), (0, 12, 31, 28)] rfl (List.forall_mem_cons.mpr ⟨Or.inr ⟨by decide, "java/lang/IndexOutOfBoundsException", mw_2_10, by decide +kernel⟩, List.forall_mem_cons.mpr ⟨Or.inr ⟨by decide, "java/lang/IllegalArgumentException", mw_2_90, by decide +kernel⟩, fun _ h => nomatch h⟩⟩) (by decide) (by decide) mw_3_26 (by decide +kernel) (fun xk5 => ?_)
      refine g_astore C (lv' := [(5, .ref xk5), (0, .ref (v 0)), (1, .int p1), (2, .int p2), (3, .int p3), (4, .ref o0)]) dL_reshare_23 (g_nlt hn rfl) rfl ?_
      refine g_iconst C (v := 3) dL_reshare_25 (by decide) ?_
      refine g_eqw (ws' := (wV (x_y X) v (b 0) kp ak bf fa (r 0) ln v1.2.2.1 v1.2.2.2.1 gs op) ++ (wSt (x_y X) b v1.2.2.2.2.1 pr v1.2.2.2.2.2.1 v1.2.2.2.2.2.2.1 wt sa v1.2.2.2.2.2.2.2.1) ++ (wSec (x_y X) c c_filled v1.2.2.2.2.2.2.2.2.1 v1.2.2.2.2.2.2.2.2.2.1 c_rule v1.2.2.2.2.2.2.2.2.2.2.1 v1.2.2.2.2.2.2.2.2.2.2.2.1 v1.2.2.2.2.2.2.2.2.2.2.2.2.1) ++ (wRep (x_y X) r v1.2.2.2.2.2.2.2.2.2.2.2.2.2.1 v1.2.2.2.2.2.2.2.2.2.2.2.2.2.2.1 v1.2.2.2.2.2.2.2.2.2.2.2.2.2.2.2) ++ (wO (x_y X) o0 ot)) rfl ?_
      obtain rfl := Option.some.inj hf
      exact g_iretH C E () dL_reshare_26 rfl rfl (Nat.le_of_ble_eq_true rfl) (Nat.le_of_ble_eq_true rfl)
    have hf := opt_neg k5 hf
    by_cases k6 : v1.1 = 4
    · have hf := opt_pos k6 hf
      have hE : gExn v1.1 = "java/lang/UnsupportedOperationException" := by rw [k6]; rfl
      rw [hE]
      refine g_catch C ht [(0, 12, 15, 13), (0, 12, 19, 15), (0, 12, 23, 34)] [(0, 12, 31, 28)] rfl (List.forall_mem_cons.mpr ⟨Or.inr ⟨by decide, "java/lang/IndexOutOfBoundsException", mw_2_10, by decide +kernel⟩, List.forall_mem_cons.mpr ⟨Or.inr ⟨by decide, "java/lang/IllegalArgumentException", mw_2_90, by decide +kernel⟩, List.forall_mem_cons.mpr ⟨Or.inr ⟨by decide, "java/util/NoSuchElementException", mw_3_26, by decide +kernel⟩, fun _ h => nomatch h⟩⟩⟩) (by decide) (by decide) mw_3_67 (by decide +kernel) (fun xk6 => ?_)
      refine g_astore C (lv' := [(5, .ref xk6), (0, .ref (v 0)), (1, .int p1), (2, .int p2), (3, .int p3), (4, .ref o0)]) dL_reshare_27 (g_nlt hn rfl) rfl ?_
      refine g_iconst C (v := 4) dL_reshare_29 (by decide) ?_
      refine g_eqw (ws' := (wV (x_y X) v (b 0) kp ak bf fa (r 0) ln v1.2.2.1 v1.2.2.2.1 gs op) ++ (wSt (x_y X) b v1.2.2.2.2.1 pr v1.2.2.2.2.2.1 v1.2.2.2.2.2.2.1 wt sa v1.2.2.2.2.2.2.2.1) ++ (wSec (x_y X) c c_filled v1.2.2.2.2.2.2.2.2.1 v1.2.2.2.2.2.2.2.2.2.1 c_rule v1.2.2.2.2.2.2.2.2.2.2.1 v1.2.2.2.2.2.2.2.2.2.2.2.1 v1.2.2.2.2.2.2.2.2.2.2.2.2.1) ++ (wRep (x_y X) r v1.2.2.2.2.2.2.2.2.2.2.2.2.2.1 v1.2.2.2.2.2.2.2.2.2.2.2.2.2.2.1 v1.2.2.2.2.2.2.2.2.2.2.2.2.2.2.2) ++ (wO (x_y X) o0 ot)) rfl ?_
      obtain rfl := Option.some.inj hf
      exact g_iretH C E () dL_reshare_30 rfl rfl (Nat.le_of_ble_eq_true rfl) (Nat.le_of_ble_eq_true rfl)
    have hf := opt_neg k6 hf
    by_cases k7 : v1.1 = 5
    · have hf := opt_pos k7 hf
      have hE : gExn v1.1 = "java/lang/IllegalStateException" := by rw [k7]; rfl
      rw [hE]
      refine g_catch C ht [(0, 12, 15, 13), (0, 12, 19, 15), (0, 12, 23, 34), (0, 12, 27, 42)] [] rfl (List.forall_mem_cons.mpr ⟨Or.inr ⟨by decide, "java/lang/IndexOutOfBoundsException", mw_2_10, by decide +kernel⟩, List.forall_mem_cons.mpr ⟨Or.inr ⟨by decide, "java/lang/IllegalArgumentException", mw_2_90, by decide +kernel⟩, List.forall_mem_cons.mpr ⟨Or.inr ⟨by decide, "java/util/NoSuchElementException", mw_3_26, by decide +kernel⟩, List.forall_mem_cons.mpr ⟨Or.inr ⟨by decide, "java/lang/UnsupportedOperationException", mw_3_67, by decide +kernel⟩, fun _ h => nomatch h⟩⟩⟩⟩) (by decide) (by decide) mw_2_182 (by decide +kernel) (fun xk7 => ?_)
      refine g_astore C (lv' := [(5, .ref xk7), (0, .ref (v 0)), (1, .int p1), (2, .int p2), (3, .int p3), (4, .ref o0)]) dL_reshare_31 (g_nlt hn rfl) rfl ?_
      refine g_iconst C (v := 5) dL_reshare_33 (by decide) ?_
      refine g_eqw (ws' := (wV (x_y X) v (b 0) kp ak bf fa (r 0) ln v1.2.2.1 v1.2.2.2.1 gs op) ++ (wSt (x_y X) b v1.2.2.2.2.1 pr v1.2.2.2.2.2.1 v1.2.2.2.2.2.2.1 wt sa v1.2.2.2.2.2.2.2.1) ++ (wSec (x_y X) c c_filled v1.2.2.2.2.2.2.2.2.1 v1.2.2.2.2.2.2.2.2.2.1 c_rule v1.2.2.2.2.2.2.2.2.2.2.1 v1.2.2.2.2.2.2.2.2.2.2.2.1 v1.2.2.2.2.2.2.2.2.2.2.2.2.1) ++ (wRep (x_y X) r v1.2.2.2.2.2.2.2.2.2.2.2.2.2.1 v1.2.2.2.2.2.2.2.2.2.2.2.2.2.2.1 v1.2.2.2.2.2.2.2.2.2.2.2.2.2.2.2) ++ (wO (x_y X) o0 ot)) rfl ?_
      obtain rfl := Option.some.inj hf
      exact g_iretH C E () dL_reshare_34 rfl rfl (Nat.le_of_ble_eq_true rfl) (Nat.le_of_ble_eq_true rfl)
    have hf := opt_neg k7 hf
    cases hf
  have hf := opt_pos ev1 hf
  refine g_i2l C dL_reshare_10 ?_
  obtain ⟨c8, hf⟩ := gg_of hf
  obtain ⟨f9, ef9, hf⟩ := opt_let hf
  refine g_last C (ws' := (wV (x_y X) v (b 0) kp ak bf fa (r 0) ln v1.2.2.1 v1.2.2.2.1 gs op) ++ (wSt (x_y X) b v1.2.2.2.2.1 pr v1.2.2.2.2.2.1 v1.2.2.2.2.2.2.1 wt sa v1.2.2.2.2.2.2.2.1) ++ (wSec (x_y X) c c_filled v1.2.2.2.2.2.2.2.2.1 v1.2.2.2.2.2.2.2.2.2.1 c_rule v1.2.2.2.2.2.2.2.2.2.2.1 v1.2.2.2.2.2.2.2.2.2.2.2.1 v1.2.2.2.2.2.2.2.2.2.2.2.2.1) ++ (wRep (x_y X) r v1.2.2.2.2.2.2.2.2.2.2.2.2.2.1 v1.2.2.2.2.2.2.2.2.2.2.2.2.2.2.1 v1.2.2.2.2.2.2.2.2.2.2.2.2.2.2.2) ++ (wO (x_y X) o0 f9)) 16 rfl (gi_in c8) (by rw [ef9]; rfl) dL_reshare_11 ?_
  refine g_goto C 35 dL_reshare_12 (by decide) ?_
  refine g_iconst C (v := 0) dL_reshare_35 (by decide) ?_
  refine g_eqw (ws' := (wV (x_y X) v (b 0) kp ak bf fa (r 0) ln v1.2.2.1 v1.2.2.2.1 gs op) ++ (wSt (x_y X) b v1.2.2.2.2.1 pr v1.2.2.2.2.2.1 v1.2.2.2.2.2.2.1 wt sa v1.2.2.2.2.2.2.2.1) ++ (wSec (x_y X) c c_filled v1.2.2.2.2.2.2.2.2.1 v1.2.2.2.2.2.2.2.2.2.1 c_rule v1.2.2.2.2.2.2.2.2.2.2.1 v1.2.2.2.2.2.2.2.2.2.2.2.1 v1.2.2.2.2.2.2.2.2.2.2.2.2.1) ++ (wRep (x_y X) r v1.2.2.2.2.2.2.2.2.2.2.2.2.2.1 v1.2.2.2.2.2.2.2.2.2.2.2.2.2.2.1 v1.2.2.2.2.2.2.2.2.2.2.2.2.2.2.2) ++ (wO (x_y X) o0 f9)) rfl ?_
  obtain rfl := Option.some.inj hf
  exact g_iretH C E () dL_reshare_36 rfl rfl (Nat.le_of_ble_eq_true rfl) (Nat.le_of_ble_eq_true rfl)
/-! L_enroll -/
theorem hd_L_enroll : yL_enroll.cls ≠ "java/lang/invoke/MethodHandle" ∧ yL_enroll.cls ≠ "java/lang/invoke/VarHandle" ∧ (parseMethodDescriptor yL_enroll.desc).map (fun d => d.parameters.length) = some 5 := by decide +kernel
def F_L_enroll (ch : Nat → Int32) (pr : Int32) (le : Int32) (ec : Int32) (wt : Nat → Int32) (ev : Nat → Int32) (c_filled : Int32) (c_th : Int32) (c_ep : Int32) (c_rule : Option Nat) (c_cm : Nat → Int32) (c_vs : Nat → Int32) (c_es : Nat → Int32) (rs : Int32) (rc : Nat → Int32) (rd : Nat → Int32) (ot : Nat → Int64) (ful : Nat → Int32) (p1 : Int32) (p2 : Int32) (p3 : Int32) : Option (Int32 × (Nat → Int32) × Int32 × Int32 × (Nat → Int32) × (Nat → Int32) × (Nat → Int32) × Int32 × (Nat → Int32) × (Nat → Int32) × (Nat → Int64)) := (F_X10_enroll ch pr le ec wt ev c_filled c_th c_ep c_rule c_cm c_vs c_es rs rc rd ful p1 p2 p3).bind fun v1 => if v1.1 = 0 then (gg (gi 0 1) (gl (vp_updL ot (Int32.toNatClampNeg 0) (Int32.toInt64 v1.2.1)) fun f8 => some (0, v1.2.2.1, v1.2.2.2.1, v1.2.2.2.2.1, v1.2.2.2.2.2.1, v1.2.2.2.2.2.2.1, v1.2.2.2.2.2.2.2.1, v1.2.2.2.2.2.2.2.2.1, v1.2.2.2.2.2.2.2.2.2.1, v1.2.2.2.2.2.2.2.2.2.2, f8))) else (if v1.1 = 1 then (some (1, v1.2.2.1, v1.2.2.2.1, v1.2.2.2.2.1, v1.2.2.2.2.2.1, v1.2.2.2.2.2.2.1, v1.2.2.2.2.2.2.2.1, v1.2.2.2.2.2.2.2.2.1, v1.2.2.2.2.2.2.2.2.2.1, v1.2.2.2.2.2.2.2.2.2.2, ot)) else (if v1.1 = 2 then (some (2, v1.2.2.1, v1.2.2.2.1, v1.2.2.2.2.1, v1.2.2.2.2.2.1, v1.2.2.2.2.2.2.1, v1.2.2.2.2.2.2.2.1, v1.2.2.2.2.2.2.2.2.1, v1.2.2.2.2.2.2.2.2.2.1, v1.2.2.2.2.2.2.2.2.2.2, ot)) else (if v1.1 = 3 then (some (3, v1.2.2.1, v1.2.2.2.1, v1.2.2.2.2.1, v1.2.2.2.2.2.1, v1.2.2.2.2.2.2.1, v1.2.2.2.2.2.2.2.1, v1.2.2.2.2.2.2.2.2.1, v1.2.2.2.2.2.2.2.2.2.1, v1.2.2.2.2.2.2.2.2.2.2, ot)) else (if v1.1 = 4 then (some (4, v1.2.2.1, v1.2.2.2.1, v1.2.2.2.2.1, v1.2.2.2.2.2.1, v1.2.2.2.2.2.2.1, v1.2.2.2.2.2.2.2.1, v1.2.2.2.2.2.2.2.2.1, v1.2.2.2.2.2.2.2.2.2.1, v1.2.2.2.2.2.2.2.2.2.2, ot)) else (none)))))
set_option maxRecDepth 100000 in
set_option maxHeartbeats 4000000 in
theorem c_L_enroll {l : Launch} {D : va_G} {cy : Nat → ClassId} {v : Nat → Nat} {b : Nat → Nat} {c : Nat → Nat} {r : Nat → Nat} {o0 : Nat} {q0 q1 t0 t1 : Nat} {kp : Nat} {ak : Int32} {bf : Nat} {fa : Int32} {ln : Nat} {co : Nat → Int32} {ch : Nat → Int32} {gs : Nat → Int32} {op : Nat → Int32} {z : Int32} {pr : Int32} {le : Int32} {ec : Int32} {wt : Nat → Int32} {sa : Nat → Option Nat} {ev : Nat → Int32} {c_filled : Int32} {c_th : Int32} {c_ep : Int32} {c_rule : Option Nat} {c_cm : Nat → Int32} {c_vs : Nat → Int32} {c_es : Nat → Int32} {rs : Int32} {rc : Nat → Int32} {rd : Nat → Int32} {ot : Nat → Int64} {pparts : Int32} {pnest : Int32} {pnamed : Int32} {ful : Nat → Int32} {hash : Int32} {hz : Int32} {tn : Nat} {tb : Nat → Int32} {p1 : Int32} {p2 : Int32} {p3 : Int32} (hs : gi p1 4 = true → sa (Int32.toNatClampNeg p1) = some (c 0)) (hpol : ¬ c_rule = none → c_rule = some q0) {val : Int32 × (Nat → Int32) × Int32 × Int32 × (Nat → Int32) × (Nat → Int32) × (Nat → Int32) × Int32 × (Nat → Int32) × (Nat → Int32) × (Nat → Int64)} (hf : F_L_enroll ch pr le ec wt ev c_filled c_th c_ep c_rule c_cm c_vs c_es rs rc rd ot ful p1 p2 p3 = some val) : gCtH l D cy yL_enroll cL_enroll 6 (some .int) [(0, 12, 15, 13), (0, 12, 19, 15), (0, 12, 23, 34), (0, 12, 27, 42)] 8 145 5 30 [.ref (v 0), .int p1, .int p2, .int p3, .ref o0] (gOpt c_rule ((wPo cy q0 q1 t0 t1 pparts pnest pnamed ful hash hz tn tb))) ((wV cy v (b 0) kp ak bf fa (r 0) ln co ch gs op) ++ (wSt cy b z pr le ec wt sa ev) ++ (wSec cy c c_filled c_th c_ep c_rule c_cm c_vs c_es) ++ (wRep cy r rs rc rd) ++ (wO cy o0 ot)) (fun _ : Unit => some (.int val.1)) (fun _ => (wV cy v (b 0) kp ak bf fa (r 0) ln co val.2.1 gs op) ++ (wSt cy b z pr val.2.2.1 val.2.2.2.1 wt sa val.2.2.2.2.1) ++ (wSec cy c c_filled c_th c_ep c_rule c_cm val.2.2.2.2.2.1 val.2.2.2.2.2.2.1) ++ (wRep cy r val.2.2.2.2.2.2.2.1 val.2.2.2.2.2.2.2.2.1 val.2.2.2.2.2.2.2.2.2.1) ++ (wO cy o0 val.2.2.2.2.2.2.2.2.2.2)) := by
  refine g_beginH (by decide +kernel) (Nat.le_of_ble_eq_true rfl) ?_
  intro X Q hl hR hD hy hro hn C ht E
  subst hl; subst hD; subst hy
  replace C : gC X "SecretVaultLaw" cL_enroll (some .int) := C
  unfold F_L_enroll at hf
  show gW X Q 0 0 ((wV (x_y X) v (b 0) kp ak bf fa (r 0) ln co ch gs op) ++ (wSt (x_y X) b z pr le ec wt sa ev) ++ (wSec (x_y X) c c_filled c_th c_ep c_rule c_cm c_vs c_es) ++ (wRep (x_y X) r rs rc rd) ++ (wO (x_y X) o0 ot)) [(0, .ref (v 0)), (1, .int p1), (2, .int p2), (3, .int p3), (4, .ref o0)] [] 0
  refine g_aload C 4 dL_enroll_0 rfl ?_
  refine g_iconst C (v := 0) dL_enroll_2 (by decide) ?_
  refine g_aload_n C 0 dL_enroll_3 rfl ?_
  refine g_iload_n C 1 dL_enroll_4 rfl ?_
  refine g_iload_n C 2 dL_enroll_5 rfl ?_
  refine g_iload_n C 3 dL_enroll_6 rfl ?_
  obtain ⟨v1, h2, hf⟩ := opt_bind hf
  refine g_callV C (c_X10_enroll (l := x_l X) (D := x_D X) (cy := x_y X) (v := v) (b := b) (c := c) (r := r) (q0 := q0) (q1 := q1) (t0 := t0) (t1 := t1) (kp := kp) (ak := ak) (bf := bf) (fa := fa) (ln := ln) (co := co) (ch := ch) (gs := gs) (op := op) (z := z) (pr := pr) (le := le) (ec := ec) (wt := wt) (sa := sa) (ev := ev) (c_filled := c_filled) (c_th := c_th) (c_ep := c_ep) (c_rule := c_rule) (c_cm := c_cm) (c_vs := c_vs) (c_es := c_es) (rs := rs) (rc := rc) (rd := rd) (pparts := pparts) (pnest := pnest) (pnamed := pnamed) (ful := ful) (hash := hash) (hz := hz) (tn := tn) (tb := tb) (p0 := p1) (p1 := p2) (p2 := p3) (hs := hs) (hpol := hpol) h2) (As := [.int p1, .int p2, .int p3]) (rest := [.int 0, .ref o0]) (wr := (wO (x_y X) o0 ot)) (ws' := fun _ => (wV (x_y X) v (b 0) kp ak bf fa (r 0) ln co v1.2.2.1 gs op) ++ (wSt (x_y X) b z pr v1.2.2.2.1 v1.2.2.2.2.1 wt sa v1.2.2.2.2.2.1) ++ (wSec (x_y X) c c_filled c_th c_ep c_rule c_cm v1.2.2.2.2.2.2.1 v1.2.2.2.2.2.2.2.1) ++ (wRep (x_y X) r v1.2.2.2.2.2.2.2.2.1 v1.2.2.2.2.2.2.2.2.2.1 v1.2.2.2.2.2.2.2.2.2.2) ++ (wO (x_y X) o0 ot)) (st' := fun _ => [.int v1.2.1, .int 0, .ref o0]) (ci := 11) 3 0 ⟨_, rfl⟩ rfl rfl mw_3_135 mw_1_1 mw_3_132 mw_3_133 mw_3_134 hd_X10_enroll rfl (g_rm hR rfl rfl) [0, 1, 2, 3, 4, 5, 6, 7, 8, 9, 10, 11, 12, 13, 14, 15] [16] [1, 2, 3, 4, 5, 6, 7, 8, 9, 10, 11, 12, 13, 14, 15, 16, 0] ⟨rfl, rfl, rfl, rfl, by decide, gRoIn_all9 17 hro rfl rfl, rfl, fun _ => rfl⟩ rfl (Nat.le_of_ble_eq_true rfl) dL_enroll_7 (g_rc hR (Nat.le_of_ble_eq_true rfl) (Nat.le_of_ble_eq_true rfl)) (ck' := 5) (sk' := 30) rfl rfl (fun _ => rfl) (fun _ ev1 => ?_) (fun _ ev1 => ?_)
  rotate_left
  · have hf := opt_neg ev1 hf
    by_cases k3 : v1.1 = 1
    · have hf := opt_pos k3 hf
      have hE : gExn v1.1 = "java/lang/IndexOutOfBoundsException" := by rw [k3]; rfl
      rw [hE]
      refine g_catch C ht [] [(0, 12, 19, 15), (0, 12, 23, 34), (0, 12, 27, 42)] rfl (fun _ h => nomatch h) (by decide) (by decide) mw_2_10 (by decide +kernel) (fun xk3 => ?_)
      refine g_astore C (lv' := [(5, .ref xk3), (0, .ref (v 0)), (1, .int p1), (2, .int p2), (3, .int p3), (4, .ref o0)]) dL_enroll_15 (g_nlt hn rfl) rfl ?_
      refine g_iconst C (v := 1) dL_enroll_17 (by decide) ?_
      refine g_eqw (ws' := (wV (x_y X) v (b 0) kp ak bf fa (r 0) ln co v1.2.2.1 gs op) ++ (wSt (x_y X) b z pr v1.2.2.2.1 v1.2.2.2.2.1 wt sa v1.2.2.2.2.2.1) ++ (wSec (x_y X) c c_filled c_th c_ep c_rule c_cm v1.2.2.2.2.2.2.1 v1.2.2.2.2.2.2.2.1) ++ (wRep (x_y X) r v1.2.2.2.2.2.2.2.2.1 v1.2.2.2.2.2.2.2.2.2.1 v1.2.2.2.2.2.2.2.2.2.2) ++ (wO (x_y X) o0 ot)) rfl ?_
      obtain rfl := Option.some.inj hf
      exact g_iretH C E () dL_enroll_18 rfl rfl (Nat.le_of_ble_eq_true rfl) (Nat.le_of_ble_eq_true rfl)
    have hf := opt_neg k3 hf
    by_cases k4 : v1.1 = 2
    · have hf := opt_pos k4 hf
      have hE : gExn v1.1 = "java/lang/IllegalArgumentException" := by rw [k4]; rfl
      rw [hE]
      refine g_catch C ht [(0, 12, 15, 13)] [(0, 12, 23, 34), (0, 12, 27, 42)] rfl (List.forall_mem_cons.mpr ⟨Or.inr ⟨by decide, "java/lang/IndexOutOfBoundsException", mw_2_10, by decide +kernel⟩, fun _ h => nomatch h⟩) (by decide) (by decide) mw_2_90 (by decide +kernel) (fun xk4 => ?_)
      refine g_astore C (lv' := [(5, .ref xk4), (0, .ref (v 0)), (1, .int p1), (2, .int p2), (3, .int p3), (4, .ref o0)]) dL_enroll_19 (g_nlt hn rfl) rfl ?_
      refine g_iconst C (v := 2) dL_enroll_21 (by decide) ?_
      refine g_eqw (ws' := (wV (x_y X) v (b 0) kp ak bf fa (r 0) ln co v1.2.2.1 gs op) ++ (wSt (x_y X) b z pr v1.2.2.2.1 v1.2.2.2.2.1 wt sa v1.2.2.2.2.2.1) ++ (wSec (x_y X) c c_filled c_th c_ep c_rule c_cm v1.2.2.2.2.2.2.1 v1.2.2.2.2.2.2.2.1) ++ (wRep (x_y X) r v1.2.2.2.2.2.2.2.2.1 v1.2.2.2.2.2.2.2.2.2.1 v1.2.2.2.2.2.2.2.2.2.2) ++ (wO (x_y X) o0 ot)) rfl ?_
      obtain rfl := Option.some.inj hf
      exact g_iretH C E () dL_enroll_22 rfl rfl (Nat.le_of_ble_eq_true rfl) (Nat.le_of_ble_eq_true rfl)
    have hf := opt_neg k4 hf
    by_cases k5 : v1.1 = 3
    · have hf := opt_pos k5 hf
      have hE : gExn v1.1 = "java/util/NoSuchElementException" := by rw [k5]; rfl
      rw [hE]
      refine g_catch C ht [(0, 12, 15, 13), (0, 12, 19, 15)] [(0, 12, 27, 42)] rfl (List.forall_mem_cons.mpr ⟨Or.inr ⟨by decide, "java/lang/IndexOutOfBoundsException", mw_2_10, by decide +kernel⟩, List.forall_mem_cons.mpr ⟨Or.inr ⟨by decide, "java/lang/IllegalArgumentException", mw_2_90, by decide +kernel⟩, fun _ h => nomatch h⟩⟩) (by decide) (by decide) mw_3_26 (by decide +kernel) (fun xk5 => ?_)
      refine g_astore C (lv' := [(5, .ref xk5), (0, .ref (v 0)), (1, .int p1), (2, .int p2), (3, .int p3), (4, .ref o0)]) dL_enroll_23 (g_nlt hn rfl) rfl ?_
      refine g_iconst C (v := 3) dL_enroll_25 (by decide) ?_
      refine g_eqw (ws' := (wV (x_y X) v (b 0) kp ak bf fa (r 0) ln co v1.2.2.1 gs op) ++ (wSt (x_y X) b z pr v1.2.2.2.1 v1.2.2.2.2.1 wt sa v1.2.2.2.2.2.1) ++ (wSec (x_y X) c c_filled c_th c_ep c_rule c_cm v1.2.2.2.2.2.2.1 v1.2.2.2.2.2.2.2.1) ++ (wRep (x_y X) r v1.2.2.2.2.2.2.2.2.1 v1.2.2.2.2.2.2.2.2.2.1 v1.2.2.2.2.2.2.2.2.2.2) ++ (wO (x_y X) o0 ot)) rfl ?_
      obtain rfl := Option.some.inj hf
      exact g_iretH C E () dL_enroll_26 rfl rfl (Nat.le_of_ble_eq_true rfl) (Nat.le_of_ble_eq_true rfl)
    have hf := opt_neg k5 hf
    by_cases k6 : v1.1 = 4
    · have hf := opt_pos k6 hf
      have hE : gExn v1.1 = "java/lang/UnsupportedOperationException" := by rw [k6]; rfl
      rw [hE]
      refine g_catch C ht [(0, 12, 15, 13), (0, 12, 19, 15), (0, 12, 23, 34)] [] rfl (List.forall_mem_cons.mpr ⟨Or.inr ⟨by decide, "java/lang/IndexOutOfBoundsException", mw_2_10, by decide +kernel⟩, List.forall_mem_cons.mpr ⟨Or.inr ⟨by decide, "java/lang/IllegalArgumentException", mw_2_90, by decide +kernel⟩, List.forall_mem_cons.mpr ⟨Or.inr ⟨by decide, "java/util/NoSuchElementException", mw_3_26, by decide +kernel⟩, fun _ h => nomatch h⟩⟩⟩) (by decide) (by decide) mw_3_67 (by decide +kernel) (fun xk6 => ?_)
      refine g_astore C (lv' := [(5, .ref xk6), (0, .ref (v 0)), (1, .int p1), (2, .int p2), (3, .int p3), (4, .ref o0)]) dL_enroll_27 (g_nlt hn rfl) rfl ?_
      refine g_iconst C (v := 4) dL_enroll_29 (by decide) ?_
      refine g_eqw (ws' := (wV (x_y X) v (b 0) kp ak bf fa (r 0) ln co v1.2.2.1 gs op) ++ (wSt (x_y X) b z pr v1.2.2.2.1 v1.2.2.2.2.1 wt sa v1.2.2.2.2.2.1) ++ (wSec (x_y X) c c_filled c_th c_ep c_rule c_cm v1.2.2.2.2.2.2.1 v1.2.2.2.2.2.2.2.1) ++ (wRep (x_y X) r v1.2.2.2.2.2.2.2.2.1 v1.2.2.2.2.2.2.2.2.2.1 v1.2.2.2.2.2.2.2.2.2.2) ++ (wO (x_y X) o0 ot)) rfl ?_
      obtain rfl := Option.some.inj hf
      exact g_iretH C E () dL_enroll_30 rfl rfl (Nat.le_of_ble_eq_true rfl) (Nat.le_of_ble_eq_true rfl)
    have hf := opt_neg k6 hf
    cases hf
  have hf := opt_pos ev1 hf
  refine g_i2l C dL_enroll_10 ?_
  obtain ⟨c7, hf⟩ := gg_of hf
  obtain ⟨f8, ef8, hf⟩ := opt_let hf
  refine g_last C (ws' := (wV (x_y X) v (b 0) kp ak bf fa (r 0) ln co v1.2.2.1 gs op) ++ (wSt (x_y X) b z pr v1.2.2.2.1 v1.2.2.2.2.1 wt sa v1.2.2.2.2.2.1) ++ (wSec (x_y X) c c_filled c_th c_ep c_rule c_cm v1.2.2.2.2.2.2.1 v1.2.2.2.2.2.2.2.1) ++ (wRep (x_y X) r v1.2.2.2.2.2.2.2.2.1 v1.2.2.2.2.2.2.2.2.2.1 v1.2.2.2.2.2.2.2.2.2.2) ++ (wO (x_y X) o0 f8)) 16 rfl (gi_in c7) (by rw [ef8]; rfl) dL_enroll_11 ?_
  refine g_goto C 31 dL_enroll_12 (by decide) ?_
  refine g_iconst C (v := 0) dL_enroll_31 (by decide) ?_
  refine g_eqw (ws' := (wV (x_y X) v (b 0) kp ak bf fa (r 0) ln co v1.2.2.1 gs op) ++ (wSt (x_y X) b z pr v1.2.2.2.1 v1.2.2.2.2.1 wt sa v1.2.2.2.2.2.1) ++ (wSec (x_y X) c c_filled c_th c_ep c_rule c_cm v1.2.2.2.2.2.2.1 v1.2.2.2.2.2.2.2.1) ++ (wRep (x_y X) r v1.2.2.2.2.2.2.2.2.1 v1.2.2.2.2.2.2.2.2.2.1 v1.2.2.2.2.2.2.2.2.2.2) ++ (wO (x_y X) o0 f8)) rfl ?_
  obtain rfl := Option.some.inj hf
  exact g_iretH C E () dL_enroll_32 rfl rfl (Nat.le_of_ble_eq_true rfl) (Nat.le_of_ble_eq_true rfl)
/-! L_expel -/
theorem hd_L_expel : yL_expel.cls ≠ "java/lang/invoke/MethodHandle" ∧ yL_expel.cls ≠ "java/lang/invoke/VarHandle" ∧ (parseMethodDescriptor yL_expel.desc).map (fun d => d.parameters.length) = some 4 := by decide +kernel
def F_L_expel (le : Int32) (ec : Int32) (ev : Nat → Int32) (c_filled : Int32) (c_vs : Nat → Int32) (c_es : Nat → Int32) (ot : Nat → Int64) (p1 : Int32) (p2 : Int32) : Option (Int32 × Int32 × Int32 × (Nat → Int32) × (Nat → Int32) × (Nat → Int32) × (Nat → Int64)) := (F_X10_expel le ec ev c_filled c_vs c_es p1 p2).bind fun v1 => if v1.1 = 0 then (gg (gi 0 1) (gl (vp_updL ot (Int32.toNatClampNeg 0) (Int32.toInt64 v1.2.1)) fun f6 => some (0, v1.2.2.1, v1.2.2.2.1, v1.2.2.2.2.1, v1.2.2.2.2.2.1, v1.2.2.2.2.2.2, f6))) else (if v1.1 = 1 then (some (1, v1.2.2.1, v1.2.2.2.1, v1.2.2.2.2.1, v1.2.2.2.2.2.1, v1.2.2.2.2.2.2, ot)) else (if v1.1 = 3 then (some (2, v1.2.2.1, v1.2.2.2.1, v1.2.2.2.2.1, v1.2.2.2.2.2.1, v1.2.2.2.2.2.2, ot)) else (none)))
set_option maxRecDepth 100000 in
set_option maxHeartbeats 4000000 in
theorem c_L_expel {l : Launch} {D : va_G} {cy : Nat → ClassId} {v : Nat → Nat} {b : Nat → Nat} {c : Nat → Nat} {o0 : Nat} {kp : Nat} {ak : Int32} {bf : Nat} {fa : Int32} {fl : Nat} {ln : Nat} {co : Nat → Int32} {ch : Nat → Int32} {gs : Nat → Int32} {op : Nat → Int32} {z : Int32} {pr : Int32} {le : Int32} {ec : Int32} {wt : Nat → Int32} {sa : Nat → Option Nat} {ev : Nat → Int32} {c_filled : Int32} {c_th : Int32} {c_ep : Int32} {c_rule : Option Nat} {c_cm : Nat → Int32} {c_vs : Nat → Int32} {c_es : Nat → Int32} {ot : Nat → Int64} {p1 : Int32} {p2 : Int32} (hs : gi p1 4 = true → sa (Int32.toNatClampNeg p1) = some (c 0)) {val : Int32 × Int32 × Int32 × (Nat → Int32) × (Nat → Int32) × (Nat → Int32) × (Nat → Int64)} (hf : F_L_expel le ec ev c_filled c_vs c_es ot p1 p2 = some val) : gCtH l D cy yL_expel cL_expel 5 (some .int) [(0, 10, 13, 13), (0, 10, 17, 34)] 8 129 3 18 [.ref (v 0), .int p1, .int p2, .ref o0] [] ((wV cy v (b 0) kp ak bf fa fl ln co ch gs op) ++ (wSt cy b z pr le ec wt sa ev) ++ (wSec cy c c_filled c_th c_ep c_rule c_cm c_vs c_es) ++ (wO cy o0 ot)) (fun _ : Unit => some (.int val.1)) (fun _ => (wV cy v (b 0) kp ak bf fa fl ln co ch gs op) ++ (wSt cy b z pr val.2.1 val.2.2.1 wt sa val.2.2.2.1) ++ (wSec cy c c_filled c_th c_ep c_rule c_cm val.2.2.2.2.1 val.2.2.2.2.2.1) ++ (wO cy o0 val.2.2.2.2.2.2)) := by
  refine g_beginH (by decide +kernel) (Nat.le_of_ble_eq_true rfl) ?_
  intro X Q hl hR hD hy hro hn C ht E
  subst hl; subst hD; subst hy
  replace C : gC X "SecretVaultLaw" cL_expel (some .int) := C
  unfold F_L_expel at hf
  show gW X Q 0 0 ((wV (x_y X) v (b 0) kp ak bf fa fl ln co ch gs op) ++ (wSt (x_y X) b z pr le ec wt sa ev) ++ (wSec (x_y X) c c_filled c_th c_ep c_rule c_cm c_vs c_es) ++ (wO (x_y X) o0 ot)) [(0, .ref (v 0)), (1, .int p1), (2, .int p2), (3, .ref o0)] [] 0
  refine g_aload_n C 3 dL_expel_0 rfl ?_
  refine g_iconst C (v := 0) dL_expel_1 (by decide) ?_
  refine g_aload_n C 0 dL_expel_2 rfl ?_
  refine g_iload_n C 1 dL_expel_3 rfl ?_
  refine g_iload_n C 2 dL_expel_4 rfl ?_
  obtain ⟨v1, h2, hf⟩ := opt_bind hf
  refine g_callV C (c_X10_expel (l := x_l X) (D := x_D X) (cy := x_y X) (v := v) (b := b) (c := c) (kp := kp) (ak := ak) (bf := bf) (fa := fa) (fl := fl) (ln := ln) (co := co) (ch := ch) (gs := gs) (op := op) (z := z) (pr := pr) (le := le) (ec := ec) (wt := wt) (sa := sa) (ev := ev) (c_filled := c_filled) (c_th := c_th) (c_ep := c_ep) (c_rule := c_rule) (c_cm := c_cm) (c_vs := c_vs) (c_es := c_es) (p0 := p1) (p1 := p2) (hs := hs) h2) (As := [.int p1, .int p2]) (rest := [.int 0, .ref o0]) (wr := (wO (x_y X) o0 ot)) (ws' := fun _ => (wV (x_y X) v (b 0) kp ak bf fa fl ln co ch gs op) ++ (wSt (x_y X) b z pr v1.2.2.1 v1.2.2.2.1 wt sa v1.2.2.2.2.1) ++ (wSec (x_y X) c c_filled c_th c_ep c_rule c_cm v1.2.2.2.2.2.1 v1.2.2.2.2.2.2) ++ (wO (x_y X) o0 ot)) (st' := fun _ => [.int v1.2.1, .int 0, .ref o0]) (ci := 11) 2 0 ⟨_, rfl⟩ rfl rfl mw_3_147 mw_1_1 mw_3_144 mw_3_145 mw_3_146 hd_X10_expel rfl (g_rm hR rfl rfl) [0, 1, 2, 3, 4, 5, 6, 7, 8, 9, 10, 11, 12] [13] [1, 2, 3, 4, 5, 6, 7, 8, 9, 10, 11, 12, 13, 0] ⟨rfl, rfl, rfl, rfl, by decide, gRoIn_0, rfl, fun _ => rfl⟩ rfl (Nat.le_of_ble_eq_true rfl) dL_expel_5 (g_rc hR (Nat.le_of_ble_eq_true rfl) (Nat.le_of_ble_eq_true rfl)) (ck' := 3) (sk' := 18) rfl rfl (fun _ => rfl) (fun _ ev1 => ?_) (fun _ ev1 => ?_)
  rotate_left
  · have hf := opt_neg ev1 hf
    by_cases k3 : v1.1 = 1
    · have hf := opt_pos k3 hf
      have hE : gExn v1.1 = "java/lang/IndexOutOfBoundsException" := by rw [k3]; rfl
      rw [hE]
      refine g_catch C ht [] [(0, 10, 17, 34)] rfl (fun _ h => nomatch h) (by decide) (by decide) mw_2_10 (by decide +kernel) (fun xk3 => ?_)
      refine g_astore C (lv' := [(4, .ref xk3), (0, .ref (v 0)), (1, .int p1), (2, .int p2), (3, .ref o0)]) dL_expel_13 (g_nlt hn rfl) rfl ?_
      refine g_iconst C (v := 1) dL_expel_15 (by decide) ?_
      refine g_eqw (ws' := (wV (x_y X) v (b 0) kp ak bf fa fl ln co ch gs op) ++ (wSt (x_y X) b z pr v1.2.2.1 v1.2.2.2.1 wt sa v1.2.2.2.2.1) ++ (wSec (x_y X) c c_filled c_th c_ep c_rule c_cm v1.2.2.2.2.2.1 v1.2.2.2.2.2.2) ++ (wO (x_y X) o0 ot)) rfl ?_
      obtain rfl := Option.some.inj hf
      exact g_iretH C E () dL_expel_16 rfl rfl (Nat.le_of_ble_eq_true rfl) (Nat.le_of_ble_eq_true rfl)
    have hf := opt_neg k3 hf
    by_cases k4 : v1.1 = 3
    · have hf := opt_pos k4 hf
      have hE : gExn v1.1 = "java/util/NoSuchElementException" := by rw [k4]; rfl
      rw [hE]
      refine g_catch C ht [(0, 10, 13, 13)] [] rfl (List.forall_mem_cons.mpr ⟨Or.inr ⟨by decide, "java/lang/IndexOutOfBoundsException", mw_2_10, by decide +kernel⟩, fun _ h => nomatch h⟩) (by decide) (by decide) mw_3_26 (by decide +kernel) (fun xk4 => ?_)
      refine g_astore C (lv' := [(4, .ref xk4), (0, .ref (v 0)), (1, .int p1), (2, .int p2), (3, .ref o0)]) dL_expel_17 (g_nlt hn rfl) rfl ?_
      refine g_iconst C (v := 2) dL_expel_19 (by decide) ?_
      refine g_eqw (ws' := (wV (x_y X) v (b 0) kp ak bf fa fl ln co ch gs op) ++ (wSt (x_y X) b z pr v1.2.2.1 v1.2.2.2.1 wt sa v1.2.2.2.2.1) ++ (wSec (x_y X) c c_filled c_th c_ep c_rule c_cm v1.2.2.2.2.2.1 v1.2.2.2.2.2.2) ++ (wO (x_y X) o0 ot)) rfl ?_
      obtain rfl := Option.some.inj hf
      exact g_iretH C E () dL_expel_20 rfl rfl (Nat.le_of_ble_eq_true rfl) (Nat.le_of_ble_eq_true rfl)
    have hf := opt_neg k4 hf
    cases hf
  have hf := opt_pos ev1 hf
  refine g_i2l C dL_expel_8 ?_
  obtain ⟨c5, hf⟩ := gg_of hf
  obtain ⟨f6, ef6, hf⟩ := opt_let hf
  refine g_last C (ws' := (wV (x_y X) v (b 0) kp ak bf fa fl ln co ch gs op) ++ (wSt (x_y X) b z pr v1.2.2.1 v1.2.2.2.1 wt sa v1.2.2.2.2.1) ++ (wSec (x_y X) c c_filled c_th c_ep c_rule c_cm v1.2.2.2.2.2.1 v1.2.2.2.2.2.2) ++ (wO (x_y X) o0 f6)) 13 rfl (gi_in c5) (by rw [ef6]; rfl) dL_expel_9 ?_
  refine g_goto C 21 dL_expel_10 (by decide) ?_
  refine g_iconst C (v := 0) dL_expel_21 (by decide) ?_
  refine g_eqw (ws' := (wV (x_y X) v (b 0) kp ak bf fa fl ln co ch gs op) ++ (wSt (x_y X) b z pr v1.2.2.1 v1.2.2.2.1 wt sa v1.2.2.2.2.1) ++ (wSec (x_y X) c c_filled c_th c_ep c_rule c_cm v1.2.2.2.2.2.1 v1.2.2.2.2.2.2) ++ (wO (x_y X) o0 f6)) rfl ?_
  obtain rfl := Option.some.inj hf
  exact g_iretH C E () dL_expel_22 rfl rfl (Nat.le_of_ble_eq_true rfl) (Nat.le_of_ble_eq_true rfl)
/-! L_open -/
theorem hd_L_open : yL_open.cls ≠ "java/lang/invoke/MethodHandle" ∧ yL_open.cls ≠ "java/lang/invoke/VarHandle" ∧ (parseMethodDescriptor yL_open.desc).map (fun d => d.parameters.length) = some 4 := by decide +kernel
def F_L_open (ch : Nat → Int32) (pr : Int32) (le : Int32) (ec : Int32) (ev : Nat → Int32) (c_filled : Int32) (c_th : Int32) (c_ep : Int32) (c_rule : Option Nat) (c_cm : Nat → Int32) (c_vs : Nat → Int32) (c_es : Nat → Int32) (rs : Int32) (rc : Nat → Int32) (rd : Nat → Int32) (ot : Nat → Int64) (ful : Nat → Int32) (p1 : Int32) (p2 : Int32) : Option (Int32 × (Nat → Int32) × Int32 × Int32 × (Nat → Int32) × Int32 × (Nat → Int32) × (Nat → Int32) × (Nat → Int64)) := (F_X10_open ch pr le ec ev c_filled c_th c_ep c_rule c_cm c_vs c_es rs rc rd ful p1 p2).bind fun v1 => if v1.1 = 0 then (gg (gi 0 1) (gl (vp_updL ot (Int32.toNatClampNeg 0) (Int32.toInt64 v1.2.1)) fun f8 => some (0, v1.2.2.1, v1.2.2.2.1, v1.2.2.2.2.1, v1.2.2.2.2.2.1, v1.2.2.2.2.2.2.1, v1.2.2.2.2.2.2.2.1, v1.2.2.2.2.2.2.2.2, f8))) else (if v1.1 = 1 then (some (1, v1.2.2.1, v1.2.2.2.1, v1.2.2.2.2.1, v1.2.2.2.2.2.1, v1.2.2.2.2.2.2.1, v1.2.2.2.2.2.2.2.1, v1.2.2.2.2.2.2.2.2, ot)) else (if v1.1 = 2 then (some (2, v1.2.2.1, v1.2.2.2.1, v1.2.2.2.2.1, v1.2.2.2.2.2.1, v1.2.2.2.2.2.2.1, v1.2.2.2.2.2.2.2.1, v1.2.2.2.2.2.2.2.2, ot)) else (if v1.1 = 3 then (some (3, v1.2.2.1, v1.2.2.2.1, v1.2.2.2.2.1, v1.2.2.2.2.2.1, v1.2.2.2.2.2.2.1, v1.2.2.2.2.2.2.2.1, v1.2.2.2.2.2.2.2.2, ot)) else (if v1.1 = 4 then (some (4, v1.2.2.1, v1.2.2.2.1, v1.2.2.2.2.1, v1.2.2.2.2.2.1, v1.2.2.2.2.2.2.1, v1.2.2.2.2.2.2.2.1, v1.2.2.2.2.2.2.2.2, ot)) else (none)))))
set_option maxRecDepth 100000 in
set_option maxHeartbeats 4000000 in
theorem c_L_open {l : Launch} {D : va_G} {cy : Nat → ClassId} {v : Nat → Nat} {b : Nat → Nat} {c : Nat → Nat} {r : Nat → Nat} {o0 : Nat} {q0 q1 t0 t1 : Nat} {kp : Nat} {ak : Int32} {bf : Nat} {fa : Int32} {ln : Nat} {co : Nat → Int32} {ch : Nat → Int32} {gs : Nat → Int32} {op : Nat → Int32} {z : Int32} {pr : Int32} {le : Int32} {ec : Int32} {wt : Nat → Int32} {sa : Nat → Option Nat} {ev : Nat → Int32} {c_filled : Int32} {c_th : Int32} {c_ep : Int32} {c_rule : Option Nat} {c_cm : Nat → Int32} {c_vs : Nat → Int32} {c_es : Nat → Int32} {rs : Int32} {rc : Nat → Int32} {rd : Nat → Int32} {ot : Nat → Int64} {pparts : Int32} {pnest : Int32} {pnamed : Int32} {ful : Nat → Int32} {hash : Int32} {hz : Int32} {tn : Nat} {tb : Nat → Int32} {p1 : Int32} {p2 : Int32} (hs : gi p1 4 = true → sa (Int32.toNatClampNeg p1) = some (c 0)) (hpol : ¬ c_rule = none → c_rule = some q0) {val : Int32 × (Nat → Int32) × Int32 × Int32 × (Nat → Int32) × Int32 × (Nat → Int32) × (Nat → Int32) × (Nat → Int64)} (hf : F_L_open ch pr le ec ev c_filled c_th c_ep c_rule c_cm c_vs c_es rs rc rd ot ful p1 p2 = some val) : gCtH l D cy yL_open cL_open 5 (some .int) [(0, 10, 13, 13), (0, 10, 17, 15), (0, 10, 21, 34), (0, 10, 25, 42)] 8 141 4 24 [.ref (v 0), .int p1, .int p2, .ref o0] (gOpt c_rule ((wPo cy q0 q1 t0 t1 pparts pnest pnamed ful hash hz tn tb))) ((wV cy v (b 0) kp ak bf fa (r 0) ln co ch gs op) ++ (wSt cy b z pr le ec wt sa ev) ++ (wSec cy c c_filled c_th c_ep c_rule c_cm c_vs c_es) ++ (wRep cy r rs rc rd) ++ (wO cy o0 ot)) (fun _ : Unit => some (.int val.1)) (fun _ => (wV cy v (b 0) kp ak bf fa (r 0) ln co val.2.1 gs op) ++ (wSt cy b z pr val.2.2.1 val.2.2.2.1 wt sa val.2.2.2.2.1) ++ (wSec cy c c_filled c_th c_ep c_rule c_cm c_vs c_es) ++ (wRep cy r val.2.2.2.2.2.1 val.2.2.2.2.2.2.1 val.2.2.2.2.2.2.2.1) ++ (wO cy o0 val.2.2.2.2.2.2.2.2)) := by
  refine g_beginH (by decide +kernel) (Nat.le_of_ble_eq_true rfl) ?_
  intro X Q hl hR hD hy hro hn C ht E
  subst hl; subst hD; subst hy
  replace C : gC X "SecretVaultLaw" cL_open (some .int) := C
  unfold F_L_open at hf
  show gW X Q 0 0 ((wV (x_y X) v (b 0) kp ak bf fa (r 0) ln co ch gs op) ++ (wSt (x_y X) b z pr le ec wt sa ev) ++ (wSec (x_y X) c c_filled c_th c_ep c_rule c_cm c_vs c_es) ++ (wRep (x_y X) r rs rc rd) ++ (wO (x_y X) o0 ot)) [(0, .ref (v 0)), (1, .int p1), (2, .int p2), (3, .ref o0)] [] 0
  refine g_aload_n C 3 dL_open_0 rfl ?_
  refine g_iconst C (v := 0) dL_open_1 (by decide) ?_
  refine g_aload_n C 0 dL_open_2 rfl ?_
  refine g_iload_n C 1 dL_open_3 rfl ?_
  refine g_iload_n C 2 dL_open_4 rfl ?_
  obtain ⟨v1, h2, hf⟩ := opt_bind hf
  refine g_callV C (c_X10_open (l := x_l X) (D := x_D X) (cy := x_y X) (v := v) (b := b) (c := c) (r := r) (q0 := q0) (q1 := q1) (t0 := t0) (t1 := t1) (kp := kp) (ak := ak) (bf := bf) (fa := fa) (ln := ln) (co := co) (ch := ch) (gs := gs) (op := op) (z := z) (pr := pr) (le := le) (ec := ec) (wt := wt) (sa := sa) (ev := ev) (c_filled := c_filled) (c_th := c_th) (c_ep := c_ep) (c_rule := c_rule) (c_cm := c_cm) (c_vs := c_vs) (c_es := c_es) (rs := rs) (rc := rc) (rd := rd) (pparts := pparts) (pnest := pnest) (pnamed := pnamed) (ful := ful) (hash := hash) (hz := hz) (tn := tn) (tb := tb) (p0 := p1) (p1 := p2) (hs := hs) (hpol := hpol) h2) (As := [.int p1, .int p2]) (rest := [.int 0, .ref o0]) (wr := (wO (x_y X) o0 ot)) (ws' := fun _ => (wV (x_y X) v (b 0) kp ak bf fa (r 0) ln co v1.2.2.1 gs op) ++ (wSt (x_y X) b z pr v1.2.2.2.1 v1.2.2.2.2.1 wt sa v1.2.2.2.2.2.1) ++ (wSec (x_y X) c c_filled c_th c_ep c_rule c_cm c_vs c_es) ++ (wRep (x_y X) r v1.2.2.2.2.2.2.1 v1.2.2.2.2.2.2.2.1 v1.2.2.2.2.2.2.2.2) ++ (wO (x_y X) o0 ot)) (st' := fun _ => [.int v1.2.1, .int 0, .ref o0]) (ci := 11) 2 0 ⟨_, rfl⟩ rfl rfl mw_3_155 mw_1_1 mw_3_152 mw_3_153 mw_3_154 hd_X10_open rfl (g_rm hR rfl rfl) [0, 1, 2, 3, 4, 5, 6, 7, 8, 9, 10, 11, 12, 13, 14, 15] [16] [1, 2, 3, 4, 5, 6, 7, 8, 9, 10, 11, 12, 13, 14, 15, 16, 0] ⟨rfl, rfl, rfl, rfl, by decide, gRoIn_all9 17 hro rfl rfl, rfl, fun _ => rfl⟩ rfl (Nat.le_of_ble_eq_true rfl) dL_open_5 (g_rc hR (Nat.le_of_ble_eq_true rfl) (Nat.le_of_ble_eq_true rfl)) (ck' := 4) (sk' := 24) rfl rfl (fun _ => rfl) (fun _ ev1 => ?_) (fun _ ev1 => ?_)
  rotate_left
  · have hf := opt_neg ev1 hf
    by_cases k3 : v1.1 = 1
    · have hf := opt_pos k3 hf
      have hE : gExn v1.1 = "java/lang/IndexOutOfBoundsException" := by rw [k3]; rfl
      rw [hE]
      refine g_catch C ht [] [(0, 10, 17, 15), (0, 10, 21, 34), (0, 10, 25, 42)] rfl (fun _ h => nomatch h) (by decide) (by decide) mw_2_10 (by decide +kernel) (fun xk3 => ?_)
      refine g_astore C (lv' := [(4, .ref xk3), (0, .ref (v 0)), (1, .int p1), (2, .int p2), (3, .ref o0)]) dL_open_13 (g_nlt hn rfl) rfl ?_
      refine g_iconst C (v := 1) dL_open_15 (by decide) ?_
      refine g_eqw (ws' := (wV (x_y X) v (b 0) kp ak bf fa (r 0) ln co v1.2.2.1 gs op) ++ (wSt (x_y X) b z pr v1.2.2.2.1 v1.2.2.2.2.1 wt sa v1.2.2.2.2.2.1) ++ (wSec (x_y X) c c_filled c_th c_ep c_rule c_cm c_vs c_es) ++ (wRep (x_y X) r v1.2.2.2.2.2.2.1 v1.2.2.2.2.2.2.2.1 v1.2.2.2.2.2.2.2.2) ++ (wO (x_y X) o0 ot)) rfl ?_
      obtain rfl := Option.some.inj hf
      exact g_iretH C E () dL_open_16 rfl rfl (Nat.le_of_ble_eq_true rfl) (Nat.le_of_ble_eq_true rfl)
    have hf := opt_neg k3 hf
    by_cases k4 : v1.1 = 2
    · have hf := opt_pos k4 hf
      have hE : gExn v1.1 = "java/lang/IllegalArgumentException" := by rw [k4]; rfl
      rw [hE]
      refine g_catch C ht [(0, 10, 13, 13)] [(0, 10, 21, 34), (0, 10, 25, 42)] rfl (List.forall_mem_cons.mpr ⟨Or.inr ⟨by decide, "java/lang/IndexOutOfBoundsException", mw_2_10, by decide +kernel⟩, fun _ h => nomatch h⟩) (by decide) (by decide) mw_2_90 (by decide +kernel) (fun xk4 => ?_)
      refine g_astore C (lv' := [(4, .ref xk4), (0, .ref (v 0)), (1, .int p1), (2, .int p2), (3, .ref o0)]) dL_open_17 (g_nlt hn rfl) rfl ?_
      refine g_iconst C (v := 2) dL_open_19 (by decide) ?_
      refine g_eqw (ws' := (wV (x_y X) v (b 0) kp ak bf fa (r 0) ln co v1.2.2.1 gs op) ++ (wSt (x_y X) b z pr v1.2.2.2.1 v1.2.2.2.2.1 wt sa v1.2.2.2.2.2.1) ++ (wSec (x_y X) c c_filled c_th c_ep c_rule c_cm c_vs c_es) ++ (wRep (x_y X) r v1.2.2.2.2.2.2.1 v1.2.2.2.2.2.2.2.1 v1.2.2.2.2.2.2.2.2) ++ (wO (x_y X) o0 ot)) rfl ?_
      obtain rfl := Option.some.inj hf
      exact g_iretH C E () dL_open_20 rfl rfl (Nat.le_of_ble_eq_true rfl) (Nat.le_of_ble_eq_true rfl)
    have hf := opt_neg k4 hf
    by_cases k5 : v1.1 = 3
    · have hf := opt_pos k5 hf
      have hE : gExn v1.1 = "java/util/NoSuchElementException" := by rw [k5]; rfl
      rw [hE]
      refine g_catch C ht [(0, 10, 13, 13), (0, 10, 17, 15)] [(0, 10, 25, 42)] rfl (List.forall_mem_cons.mpr ⟨Or.inr ⟨by decide, "java/lang/IndexOutOfBoundsException", mw_2_10, by decide +kernel⟩, List.forall_mem_cons.mpr ⟨Or.inr ⟨by decide, "java/lang/IllegalArgumentException", mw_2_90, by decide +kernel⟩, fun _ h => nomatch h⟩⟩) (by decide) (by decide) mw_3_26 (by decide +kernel) (fun xk5 => ?_)
      refine g_astore C (lv' := [(4, .ref xk5), (0, .ref (v 0)), (1, .int p1), (2, .int p2), (3, .ref o0)]) dL_open_21 (g_nlt hn rfl) rfl ?_
      refine g_iconst C (v := 3) dL_open_23 (by decide) ?_
      refine g_eqw (ws' := (wV (x_y X) v (b 0) kp ak bf fa (r 0) ln co v1.2.2.1 gs op) ++ (wSt (x_y X) b z pr v1.2.2.2.1 v1.2.2.2.2.1 wt sa v1.2.2.2.2.2.1) ++ (wSec (x_y X) c c_filled c_th c_ep c_rule c_cm c_vs c_es) ++ (wRep (x_y X) r v1.2.2.2.2.2.2.1 v1.2.2.2.2.2.2.2.1 v1.2.2.2.2.2.2.2.2) ++ (wO (x_y X) o0 ot)) rfl ?_
      obtain rfl := Option.some.inj hf
      exact g_iretH C E () dL_open_24 rfl rfl (Nat.le_of_ble_eq_true rfl) (Nat.le_of_ble_eq_true rfl)
    have hf := opt_neg k5 hf
    by_cases k6 : v1.1 = 4
    · have hf := opt_pos k6 hf
      have hE : gExn v1.1 = "java/lang/UnsupportedOperationException" := by rw [k6]; rfl
      rw [hE]
      refine g_catch C ht [(0, 10, 13, 13), (0, 10, 17, 15), (0, 10, 21, 34)] [] rfl (List.forall_mem_cons.mpr ⟨Or.inr ⟨by decide, "java/lang/IndexOutOfBoundsException", mw_2_10, by decide +kernel⟩, List.forall_mem_cons.mpr ⟨Or.inr ⟨by decide, "java/lang/IllegalArgumentException", mw_2_90, by decide +kernel⟩, List.forall_mem_cons.mpr ⟨Or.inr ⟨by decide, "java/util/NoSuchElementException", mw_3_26, by decide +kernel⟩, fun _ h => nomatch h⟩⟩⟩) (by decide) (by decide) mw_3_67 (by decide +kernel) (fun xk6 => ?_)
      refine g_astore C (lv' := [(4, .ref xk6), (0, .ref (v 0)), (1, .int p1), (2, .int p2), (3, .ref o0)]) dL_open_25 (g_nlt hn rfl) rfl ?_
      refine g_iconst C (v := 4) dL_open_27 (by decide) ?_
      refine g_eqw (ws' := (wV (x_y X) v (b 0) kp ak bf fa (r 0) ln co v1.2.2.1 gs op) ++ (wSt (x_y X) b z pr v1.2.2.2.1 v1.2.2.2.2.1 wt sa v1.2.2.2.2.2.1) ++ (wSec (x_y X) c c_filled c_th c_ep c_rule c_cm c_vs c_es) ++ (wRep (x_y X) r v1.2.2.2.2.2.2.1 v1.2.2.2.2.2.2.2.1 v1.2.2.2.2.2.2.2.2) ++ (wO (x_y X) o0 ot)) rfl ?_
      obtain rfl := Option.some.inj hf
      exact g_iretH C E () dL_open_28 rfl rfl (Nat.le_of_ble_eq_true rfl) (Nat.le_of_ble_eq_true rfl)
    have hf := opt_neg k6 hf
    cases hf
  have hf := opt_pos ev1 hf
  refine g_i2l C dL_open_8 ?_
  obtain ⟨c7, hf⟩ := gg_of hf
  obtain ⟨f8, ef8, hf⟩ := opt_let hf
  refine g_last C (ws' := (wV (x_y X) v (b 0) kp ak bf fa (r 0) ln co v1.2.2.1 gs op) ++ (wSt (x_y X) b z pr v1.2.2.2.1 v1.2.2.2.2.1 wt sa v1.2.2.2.2.2.1) ++ (wSec (x_y X) c c_filled c_th c_ep c_rule c_cm c_vs c_es) ++ (wRep (x_y X) r v1.2.2.2.2.2.2.1 v1.2.2.2.2.2.2.2.1 v1.2.2.2.2.2.2.2.2) ++ (wO (x_y X) o0 f8)) 16 rfl (gi_in c7) (by rw [ef8]; rfl) dL_open_9 ?_
  refine g_goto C 29 dL_open_10 (by decide) ?_
  refine g_iconst C (v := 0) dL_open_29 (by decide) ?_
  refine g_eqw (ws' := (wV (x_y X) v (b 0) kp ak bf fa (r 0) ln co v1.2.2.1 gs op) ++ (wSt (x_y X) b z pr v1.2.2.2.1 v1.2.2.2.2.1 wt sa v1.2.2.2.2.2.1) ++ (wSec (x_y X) c c_filled c_th c_ep c_rule c_cm c_vs c_es) ++ (wRep (x_y X) r v1.2.2.2.2.2.2.1 v1.2.2.2.2.2.2.2.1 v1.2.2.2.2.2.2.2.2) ++ (wO (x_y X) o0 f8)) rfl ?_
  obtain rfl := Option.some.inj hf
  exact g_iretH C E () dL_open_30 rfl rfl (Nat.le_of_ble_eq_true rfl) (Nat.le_of_ble_eq_true rfl)
/-! L_combine -/
theorem hd_L_combine : yL_combine.cls ≠ "java/lang/invoke/MethodHandle" ∧ yL_combine.cls ≠ "java/lang/invoke/VarHandle" ∧ (parseMethodDescriptor yL_combine.desc).map (fun d => d.parameters.length) = some 4 := by decide +kernel
def F_L_combine (ch : Nat → Int32) (c_filled : Int32) (c_th : Int32) (c_ep : Int32) (c_cm : Nat → Int32) (c_vs : Nat → Int32) (c_es : Nat → Int32) (ot : Nat → Int64) (p1 : Int32) (p2 : Int32) : Option (Int32 × (Nat → Int32) × (Nat → Int64)) := (F_X10_combine ch c_filled c_th c_ep c_cm c_vs c_es p1 p2).bind fun v1 => if v1.1 = 0 then (gg (gi 0 1) (gl (vp_updL ot (Int32.toNatClampNeg 0) (Int32.toInt64 v1.2.1)) fun f8 => some (0, v1.2.2, f8))) else (if v1.1 = 1 then (some (1, v1.2.2, ot)) else (if v1.1 = 2 then (some (2, v1.2.2, ot)) else (if v1.1 = 3 then (some (3, v1.2.2, ot)) else (if v1.1 = 5 then (some (4, v1.2.2, ot)) else (none)))))
set_option maxRecDepth 100000 in
set_option maxHeartbeats 4000000 in
theorem c_L_combine {l : Launch} {D : va_G} {cy : Nat → ClassId} {v : Nat → Nat} {b : Nat → Nat} {c : Nat → Nat} {o0 : Nat} {kp : Nat} {ak : Int32} {bf : Nat} {fa : Int32} {fl : Nat} {ln : Nat} {co : Nat → Int32} {ch : Nat → Int32} {gs : Nat → Int32} {op : Nat → Int32} {z : Int32} {pr : Int32} {le : Int32} {ec : Int32} {wt : Nat → Int32} {sa : Nat → Option Nat} {ev : Nat → Int32} {c_filled : Int32} {c_th : Int32} {c_ep : Int32} {c_rule : Option Nat} {c_cm : Nat → Int32} {c_vs : Nat → Int32} {c_es : Nat → Int32} {ot : Nat → Int64} {p1 : Int32} {p2 : Int32} (hs : gi p1 4 = true → sa (Int32.toNatClampNeg p1) = some (c 0)) {val : Int32 × (Nat → Int32) × (Nat → Int64)} (hf : F_L_combine ch c_filled c_th c_ep c_cm c_vs c_es ot p1 p2 = some val) : gCtH l D cy yL_combine cL_combine 5 (some .int) [(0, 10, 13, 13), (0, 10, 17, 15), (0, 10, 21, 34), (0, 10, 25, 28)] 8 127 4 24 [.ref (v 0), .int p1, .int p2, .ref o0] [] ((wV cy v (b 0) kp ak bf fa fl ln co ch gs op) ++ (wSt cy b z pr le ec wt sa ev) ++ (wSec cy c c_filled c_th c_ep c_rule c_cm c_vs c_es) ++ (wO cy o0 ot)) (fun _ : Unit => some (.int val.1)) (fun _ => (wV cy v (b 0) kp ak bf fa fl ln co val.2.1 gs op) ++ (wSt cy b z pr le ec wt sa ev) ++ (wSec cy c c_filled c_th c_ep c_rule c_cm c_vs c_es) ++ (wO cy o0 val.2.2)) := by
  refine g_beginH (by decide +kernel) (Nat.le_of_ble_eq_true rfl) ?_
  intro X Q hl hR hD hy hro hn C ht E
  subst hl; subst hD; subst hy
  replace C : gC X "SecretVaultLaw" cL_combine (some .int) := C
  unfold F_L_combine at hf
  show gW X Q 0 0 ((wV (x_y X) v (b 0) kp ak bf fa fl ln co ch gs op) ++ (wSt (x_y X) b z pr le ec wt sa ev) ++ (wSec (x_y X) c c_filled c_th c_ep c_rule c_cm c_vs c_es) ++ (wO (x_y X) o0 ot)) [(0, .ref (v 0)), (1, .int p1), (2, .int p2), (3, .ref o0)] [] 0
  refine g_aload_n C 3 dL_combine_0 rfl ?_
  refine g_iconst C (v := 0) dL_combine_1 (by decide) ?_
  refine g_aload_n C 0 dL_combine_2 rfl ?_
  refine g_iload_n C 1 dL_combine_3 rfl ?_
  refine g_iload_n C 2 dL_combine_4 rfl ?_
  obtain ⟨v1, h2, hf⟩ := opt_bind hf
  refine g_callV C (c_X10_combine (l := x_l X) (D := x_D X) (cy := x_y X) (v := v) (b := b) (c := c) (kp := kp) (ak := ak) (bf := bf) (fa := fa) (fl := fl) (ln := ln) (co := co) (ch := ch) (gs := gs) (op := op) (z := z) (pr := pr) (le := le) (ec := ec) (wt := wt) (sa := sa) (ev := ev) (c_filled := c_filled) (c_th := c_th) (c_ep := c_ep) (c_rule := c_rule) (c_cm := c_cm) (c_vs := c_vs) (c_es := c_es) (p0 := p1) (p1 := p2) (hs := hs) h2) (As := [.int p1, .int p2]) (rest := [.int 0, .ref o0]) (wr := (wO (x_y X) o0 ot)) (ws' := fun _ => (wV (x_y X) v (b 0) kp ak bf fa fl ln co v1.2.2 gs op) ++ (wSt (x_y X) b z pr le ec wt sa ev) ++ (wSec (x_y X) c c_filled c_th c_ep c_rule c_cm c_vs c_es) ++ (wO (x_y X) o0 ot)) (st' := fun _ => [.int v1.2.1, .int 0, .ref o0]) (ci := 11) 2 0 ⟨_, rfl⟩ rfl rfl mw_3_162 mw_1_1 mw_3_159 mw_3_160 mw_3_161 hd_X10_combine rfl (g_rm hR rfl rfl) [0, 1, 2, 3, 4, 5, 6, 7, 8, 9, 10, 11, 12] [13] [1, 2, 3, 4, 5, 6, 7, 8, 9, 10, 11, 12, 13, 0] ⟨rfl, rfl, rfl, rfl, by decide, gRoIn_0, rfl, fun _ => rfl⟩ rfl (Nat.le_of_ble_eq_true rfl) dL_combine_5 (g_rc hR (Nat.le_of_ble_eq_true rfl) (Nat.le_of_ble_eq_true rfl)) (ck' := 4) (sk' := 24) rfl rfl (fun _ => rfl) (fun _ ev1 => ?_) (fun _ ev1 => ?_)
  rotate_left
  · have hf := opt_neg ev1 hf
    by_cases k3 : v1.1 = 1
    · have hf := opt_pos k3 hf
      have hE : gExn v1.1 = "java/lang/IndexOutOfBoundsException" := by rw [k3]; rfl
      rw [hE]
      refine g_catch C ht [] [(0, 10, 17, 15), (0, 10, 21, 34), (0, 10, 25, 28)] rfl (fun _ h => nomatch h) (by decide) (by decide) mw_2_10 (by decide +kernel) (fun xk3 => ?_)
      refine g_astore C (lv' := [(4, .ref xk3), (0, .ref (v 0)), (1, .int p1), (2, .int p2), (3, .ref o0)]) dL_combine_13 (g_nlt hn rfl) rfl ?_
      refine g_iconst C (v := 1) dL_combine_15 (by decide) ?_
      refine g_eqw (ws' := (wV (x_y X) v (b 0) kp ak bf fa fl ln co v1.2.2 gs op) ++ (wSt (x_y X) b z pr le ec wt sa ev) ++ (wSec (x_y X) c c_filled c_th c_ep c_rule c_cm c_vs c_es) ++ (wO (x_y X) o0 ot)) rfl ?_
      obtain rfl := Option.some.inj hf
      exact g_iretH C E () dL_combine_16 rfl rfl (Nat.le_of_ble_eq_true rfl) (Nat.le_of_ble_eq_true rfl)
    have hf := opt_neg k3 hf
    by_cases k4 : v1.1 = 2
    · have hf := opt_pos k4 hf
      have hE : gExn v1.1 = "java/lang/IllegalArgumentException" := by rw [k4]; rfl
      rw [hE]
      refine g_catch C ht [(0, 10, 13, 13)] [(0, 10, 21, 34), (0, 10, 25, 28)] rfl (List.forall_mem_cons.mpr ⟨Or.inr ⟨by decide, "java/lang/IndexOutOfBoundsException", mw_2_10, by decide +kernel⟩, fun _ h => nomatch h⟩) (by decide) (by decide) mw_2_90 (by decide +kernel) (fun xk4 => ?_)
      refine g_astore C (lv' := [(4, .ref xk4), (0, .ref (v 0)), (1, .int p1), (2, .int p2), (3, .ref o0)]) dL_combine_17 (g_nlt hn rfl) rfl ?_
      refine g_iconst C (v := 2) dL_combine_19 (by decide) ?_
      refine g_eqw (ws' := (wV (x_y X) v (b 0) kp ak bf fa fl ln co v1.2.2 gs op) ++ (wSt (x_y X) b z pr le ec wt sa ev) ++ (wSec (x_y X) c c_filled c_th c_ep c_rule c_cm c_vs c_es) ++ (wO (x_y X) o0 ot)) rfl ?_
      obtain rfl := Option.some.inj hf
      exact g_iretH C E () dL_combine_20 rfl rfl (Nat.le_of_ble_eq_true rfl) (Nat.le_of_ble_eq_true rfl)
    have hf := opt_neg k4 hf
    by_cases k5 : v1.1 = 3
    · have hf := opt_pos k5 hf
      have hE : gExn v1.1 = "java/util/NoSuchElementException" := by rw [k5]; rfl
      rw [hE]
      refine g_catch C ht [(0, 10, 13, 13), (0, 10, 17, 15)] [(0, 10, 25, 28)] rfl (List.forall_mem_cons.mpr ⟨Or.inr ⟨by decide, "java/lang/IndexOutOfBoundsException", mw_2_10, by decide +kernel⟩, List.forall_mem_cons.mpr ⟨Or.inr ⟨by decide, "java/lang/IllegalArgumentException", mw_2_90, by decide +kernel⟩, fun _ h => nomatch h⟩⟩) (by decide) (by decide) mw_3_26 (by decide +kernel) (fun xk5 => ?_)
      refine g_astore C (lv' := [(4, .ref xk5), (0, .ref (v 0)), (1, .int p1), (2, .int p2), (3, .ref o0)]) dL_combine_21 (g_nlt hn rfl) rfl ?_
      refine g_iconst C (v := 3) dL_combine_23 (by decide) ?_
      refine g_eqw (ws' := (wV (x_y X) v (b 0) kp ak bf fa fl ln co v1.2.2 gs op) ++ (wSt (x_y X) b z pr le ec wt sa ev) ++ (wSec (x_y X) c c_filled c_th c_ep c_rule c_cm c_vs c_es) ++ (wO (x_y X) o0 ot)) rfl ?_
      obtain rfl := Option.some.inj hf
      exact g_iretH C E () dL_combine_24 rfl rfl (Nat.le_of_ble_eq_true rfl) (Nat.le_of_ble_eq_true rfl)
    have hf := opt_neg k5 hf
    by_cases k6 : v1.1 = 5
    · have hf := opt_pos k6 hf
      have hE : gExn v1.1 = "java/lang/IllegalStateException" := by rw [k6]; rfl
      rw [hE]
      refine g_catch C ht [(0, 10, 13, 13), (0, 10, 17, 15), (0, 10, 21, 34)] [] rfl (List.forall_mem_cons.mpr ⟨Or.inr ⟨by decide, "java/lang/IndexOutOfBoundsException", mw_2_10, by decide +kernel⟩, List.forall_mem_cons.mpr ⟨Or.inr ⟨by decide, "java/lang/IllegalArgumentException", mw_2_90, by decide +kernel⟩, List.forall_mem_cons.mpr ⟨Or.inr ⟨by decide, "java/util/NoSuchElementException", mw_3_26, by decide +kernel⟩, fun _ h => nomatch h⟩⟩⟩) (by decide) (by decide) mw_2_182 (by decide +kernel) (fun xk6 => ?_)
      refine g_astore C (lv' := [(4, .ref xk6), (0, .ref (v 0)), (1, .int p1), (2, .int p2), (3, .ref o0)]) dL_combine_25 (g_nlt hn rfl) rfl ?_
      refine g_iconst C (v := 4) dL_combine_27 (by decide) ?_
      refine g_eqw (ws' := (wV (x_y X) v (b 0) kp ak bf fa fl ln co v1.2.2 gs op) ++ (wSt (x_y X) b z pr le ec wt sa ev) ++ (wSec (x_y X) c c_filled c_th c_ep c_rule c_cm c_vs c_es) ++ (wO (x_y X) o0 ot)) rfl ?_
      obtain rfl := Option.some.inj hf
      exact g_iretH C E () dL_combine_28 rfl rfl (Nat.le_of_ble_eq_true rfl) (Nat.le_of_ble_eq_true rfl)
    have hf := opt_neg k6 hf
    cases hf
  have hf := opt_pos ev1 hf
  refine g_i2l C dL_combine_8 ?_
  obtain ⟨c7, hf⟩ := gg_of hf
  obtain ⟨f8, ef8, hf⟩ := opt_let hf
  refine g_last C (ws' := (wV (x_y X) v (b 0) kp ak bf fa fl ln co v1.2.2 gs op) ++ (wSt (x_y X) b z pr le ec wt sa ev) ++ (wSec (x_y X) c c_filled c_th c_ep c_rule c_cm c_vs c_es) ++ (wO (x_y X) o0 f8)) 13 rfl (gi_in c7) (by rw [ef8]; rfl) dL_combine_9 ?_
  refine g_goto C 29 dL_combine_10 (by decide) ?_
  refine g_iconst C (v := 0) dL_combine_29 (by decide) ?_
  refine g_eqw (ws' := (wV (x_y X) v (b 0) kp ak bf fa fl ln co v1.2.2 gs op) ++ (wSt (x_y X) b z pr le ec wt sa ev) ++ (wSec (x_y X) c c_filled c_th c_ep c_rule c_cm c_vs c_es) ++ (wO (x_y X) o0 f8)) rfl ?_
  obtain rfl := Option.some.inj hf
  exact g_iretH C E () dL_combine_30 rfl rfl (Nat.le_of_ble_eq_true rfl) (Nat.le_of_ble_eq_true rfl)
/-! L_agree -/
theorem hd_L_agree : yL_agree.cls ≠ "java/lang/invoke/MethodHandle" ∧ yL_agree.cls ≠ "java/lang/invoke/VarHandle" ∧ (parseMethodDescriptor yL_agree.desc).map (fun d => d.parameters.length) = some 4 := by decide +kernel
def F_L_agree_L16   (ch_16 : Nat → Int32) (ot_16 : Nat → Int64) (s0_16 : Int64) (s1_16 : Int32) : Option (Int32 × (Nat → Int32) × (Nat → Int64)) := gg (gi s1_16 1) (gl (vp_updL ot_16 (Int32.toNatClampNeg s1_16) s0_16) fun f8 => some (0, ch_16, f8))
def F_L_agree (ch : Nat → Int32) (c_filled : Int32) (c_th : Int32) (c_ep : Int32) (c_cm : Nat → Int32) (c_vs : Nat → Int32) (c_es : Nat → Int32) (ot : Nat → Int64) (p1 : Int32) (p2 : Int32) : Option (Int32 × (Nat → Int32) × (Nat → Int64)) := (F_X10_agree ch c_filled c_th c_ep c_cm c_vs c_es p1 p2).bind fun v1 => if v1.1 = 0 then (if v1.2.1 = 0 then (F_L_agree_L16 v1.2.2 ot 0 0) else (F_L_agree_L16 v1.2.2 ot 1 0)) else (if v1.1 = 1 then (some (1, v1.2.2, ot)) else (if v1.1 = 2 then (some (2, v1.2.2, ot)) else (if v1.1 = 3 then (some (3, v1.2.2, ot)) else (none))))
set_option maxRecDepth 100000 in
set_option maxHeartbeats 4000000 in
theorem c_L_agree {l : Launch} {D : va_G} {cy : Nat → ClassId} {v : Nat → Nat} {b : Nat → Nat} {c : Nat → Nat} {o0 : Nat} {kp : Nat} {ak : Int32} {bf : Nat} {fa : Int32} {fl : Nat} {ln : Nat} {co : Nat → Int32} {ch : Nat → Int32} {gs : Nat → Int32} {op : Nat → Int32} {z : Int32} {pr : Int32} {le : Int32} {ec : Int32} {wt : Nat → Int32} {sa : Nat → Option Nat} {ev : Nat → Int32} {c_filled : Int32} {c_th : Int32} {c_ep : Int32} {c_rule : Option Nat} {c_cm : Nat → Int32} {c_vs : Nat → Int32} {c_es : Nat → Int32} {ot : Nat → Int64} {p1 : Int32} {p2 : Int32} (hs : gi p1 4 = true → sa (Int32.toNatClampNeg p1) = some (c 0)) {val : Int32 × (Nat → Int32) × (Nat → Int64)} (hf : F_L_agree ch c_filled c_th c_ep c_cm c_vs c_es ot p1 p2 = some val) : gCtH l D cy yL_agree cL_agree 5 (some .int) [(0, 17, 20, 13), (0, 17, 24, 15), (0, 17, 28, 34)] 8 128 3 18 [.ref (v 0), .int p1, .int p2, .ref o0] [] ((wV cy v (b 0) kp ak bf fa fl ln co ch gs op) ++ (wSt cy b z pr le ec wt sa ev) ++ (wSec cy c c_filled c_th c_ep c_rule c_cm c_vs c_es) ++ (wO cy o0 ot)) (fun _ : Unit => some (.int val.1)) (fun _ => (wV cy v (b 0) kp ak bf fa fl ln co val.2.1 gs op) ++ (wSt cy b z pr le ec wt sa ev) ++ (wSec cy c c_filled c_th c_ep c_rule c_cm c_vs c_es) ++ (wO cy o0 val.2.2)) := by
  refine g_beginH (by decide +kernel) (Nat.le_of_ble_eq_true rfl) ?_
  intro X Q hl hR hD hy hro hn C ht E
  subst hl; subst hD; subst hy
  replace C : gC X "SecretVaultLaw" cL_agree (some .int) := C
  unfold F_L_agree at hf
  have H16 : ∀ (ch_16 : Nat → Int32) (ot_16 : Nat → Int64) (s0_16 : Int64) (s1_16 : Int32), F_L_agree_L16 ch_16 ot_16 s0_16 s1_16 = some val → gW X Q 3 18 ((wV (x_y X) v (b 0) kp ak bf fa fl ln co ch_16 gs op) ++ (wSt (x_y X) b z pr le ec wt sa ev) ++ (wSec (x_y X) c c_filled c_th c_ep c_rule c_cm c_vs c_es) ++ (wO (x_y X) o0 ot_16)) [(0, .ref (v 0)), (1, .int p1), (2, .int p2), (3, .ref o0)] [.long s0_16, .int s1_16, .ref o0] 16 := by
    intro ch_16 ot_16 s0_16 s1_16 hf
    unfold F_L_agree_L16 at hf
    obtain ⟨c7, hf⟩ := gg_of hf
    obtain ⟨f8, ef8, hf⟩ := opt_let hf
    refine g_last C (ws' := (wV (x_y X) v (b 0) kp ak bf fa fl ln co ch_16 gs op) ++ (wSt (x_y X) b z pr le ec wt sa ev) ++ (wSec (x_y X) c c_filled c_th c_ep c_rule c_cm c_vs c_es) ++ (wO (x_y X) o0 f8)) 13 rfl (gi_in c7) (by rw [ef8]; rfl) dL_agree_16 ?_
    refine g_goto C 32 dL_agree_17 (by decide) ?_
    refine g_iconst C (v := 0) dL_agree_32 (by decide) ?_
    refine g_eqw (ws' := (wV (x_y X) v (b 0) kp ak bf fa fl ln co ch_16 gs op) ++ (wSt (x_y X) b z pr le ec wt sa ev) ++ (wSec (x_y X) c c_filled c_th c_ep c_rule c_cm c_vs c_es) ++ (wO (x_y X) o0 f8)) rfl ?_
    obtain rfl := Option.some.inj hf
    exact g_iretH C E () dL_agree_33 rfl rfl (Nat.le_of_ble_eq_true rfl) (Nat.le_of_ble_eq_true rfl)
  show gW X Q 0 0 ((wV (x_y X) v (b 0) kp ak bf fa fl ln co ch gs op) ++ (wSt (x_y X) b z pr le ec wt sa ev) ++ (wSec (x_y X) c c_filled c_th c_ep c_rule c_cm c_vs c_es) ++ (wO (x_y X) o0 ot)) [(0, .ref (v 0)), (1, .int p1), (2, .int p2), (3, .ref o0)] [] 0
  refine g_aload_n C 3 dL_agree_0 rfl ?_
  refine g_iconst C (v := 0) dL_agree_1 (by decide) ?_
  refine g_aload_n C 0 dL_agree_2 rfl ?_
  refine g_iload_n C 1 dL_agree_3 rfl ?_
  refine g_iload_n C 2 dL_agree_4 rfl ?_
  obtain ⟨v1, h2, hf⟩ := opt_bind hf
  refine g_callV C (c_X10_agree (l := x_l X) (D := x_D X) (cy := x_y X) (v := v) (b := b) (c := c) (kp := kp) (ak := ak) (bf := bf) (fa := fa) (fl := fl) (ln := ln) (co := co) (ch := ch) (gs := gs) (op := op) (z := z) (pr := pr) (le := le) (ec := ec) (wt := wt) (sa := sa) (ev := ev) (c_filled := c_filled) (c_th := c_th) (c_ep := c_ep) (c_rule := c_rule) (c_cm := c_cm) (c_vs := c_vs) (c_es := c_es) (p0 := p1) (p1 := p2) (hs := hs) h2) (As := [.int p1, .int p2]) (rest := [.int 0, .ref o0]) (wr := (wO (x_y X) o0 ot)) (ws' := fun _ => (wV (x_y X) v (b 0) kp ak bf fa fl ln co v1.2.2 gs op) ++ (wSt (x_y X) b z pr le ec wt sa ev) ++ (wSec (x_y X) c c_filled c_th c_ep c_rule c_cm c_vs c_es) ++ (wO (x_y X) o0 ot)) (st' := fun _ => [.int v1.2.1, .int 0, .ref o0]) (ci := 11) 2 0 ⟨_, rfl⟩ rfl rfl mw_3_170 mw_1_1 mw_3_167 mw_3_168 mw_3_169 hd_X10_agree rfl (g_rm hR rfl rfl) [0, 1, 2, 3, 4, 5, 6, 7, 8, 9, 10, 11, 12] [13] [1, 2, 3, 4, 5, 6, 7, 8, 9, 10, 11, 12, 13, 0] ⟨rfl, rfl, rfl, rfl, by decide, gRoIn_0, rfl, fun _ => rfl⟩ rfl (Nat.le_of_ble_eq_true rfl) dL_agree_5 (g_rc hR (Nat.le_of_ble_eq_true rfl) (Nat.le_of_ble_eq_true rfl)) (ck' := 3) (sk' := 18) rfl rfl (fun _ => rfl) (fun _ ev1 => ?_) (fun _ ev1 => ?_)
  rotate_left
  · have hf := opt_neg ev1 hf
    by_cases k3 : v1.1 = 1
    · have hf := opt_pos k3 hf
      have hE : gExn v1.1 = "java/lang/IndexOutOfBoundsException" := by rw [k3]; rfl
      rw [hE]
      refine g_catch C ht [] [(0, 17, 24, 15), (0, 17, 28, 34)] rfl (fun _ h => nomatch h) (by decide) (by decide) mw_2_10 (by decide +kernel) (fun xk3 => ?_)
      refine g_astore C (lv' := [(4, .ref xk3), (0, .ref (v 0)), (1, .int p1), (2, .int p2), (3, .ref o0)]) dL_agree_20 (g_nlt hn rfl) rfl ?_
      refine g_iconst C (v := 1) dL_agree_22 (by decide) ?_
      refine g_eqw (ws' := (wV (x_y X) v (b 0) kp ak bf fa fl ln co v1.2.2 gs op) ++ (wSt (x_y X) b z pr le ec wt sa ev) ++ (wSec (x_y X) c c_filled c_th c_ep c_rule c_cm c_vs c_es) ++ (wO (x_y X) o0 ot)) rfl ?_
      obtain rfl := Option.some.inj hf
      exact g_iretH C E () dL_agree_23 rfl rfl (Nat.le_of_ble_eq_true rfl) (Nat.le_of_ble_eq_true rfl)
    have hf := opt_neg k3 hf
    by_cases k4 : v1.1 = 2
    · have hf := opt_pos k4 hf
      have hE : gExn v1.1 = "java/lang/IllegalArgumentException" := by rw [k4]; rfl
      rw [hE]
      refine g_catch C ht [(0, 17, 20, 13)] [(0, 17, 28, 34)] rfl (List.forall_mem_cons.mpr ⟨Or.inr ⟨by decide, "java/lang/IndexOutOfBoundsException", mw_2_10, by decide +kernel⟩, fun _ h => nomatch h⟩) (by decide) (by decide) mw_2_90 (by decide +kernel) (fun xk4 => ?_)
      refine g_astore C (lv' := [(4, .ref xk4), (0, .ref (v 0)), (1, .int p1), (2, .int p2), (3, .ref o0)]) dL_agree_24 (g_nlt hn rfl) rfl ?_
      refine g_iconst C (v := 2) dL_agree_26 (by decide) ?_
      refine g_eqw (ws' := (wV (x_y X) v (b 0) kp ak bf fa fl ln co v1.2.2 gs op) ++ (wSt (x_y X) b z pr le ec wt sa ev) ++ (wSec (x_y X) c c_filled c_th c_ep c_rule c_cm c_vs c_es) ++ (wO (x_y X) o0 ot)) rfl ?_
      obtain rfl := Option.some.inj hf
      exact g_iretH C E () dL_agree_27 rfl rfl (Nat.le_of_ble_eq_true rfl) (Nat.le_of_ble_eq_true rfl)
    have hf := opt_neg k4 hf
    by_cases k5 : v1.1 = 3
    · have hf := opt_pos k5 hf
      have hE : gExn v1.1 = "java/util/NoSuchElementException" := by rw [k5]; rfl
      rw [hE]
      refine g_catch C ht [(0, 17, 20, 13), (0, 17, 24, 15)] [] rfl (List.forall_mem_cons.mpr ⟨Or.inr ⟨by decide, "java/lang/IndexOutOfBoundsException", mw_2_10, by decide +kernel⟩, List.forall_mem_cons.mpr ⟨Or.inr ⟨by decide, "java/lang/IllegalArgumentException", mw_2_90, by decide +kernel⟩, fun _ h => nomatch h⟩⟩) (by decide) (by decide) mw_3_26 (by decide +kernel) (fun xk5 => ?_)
      refine g_astore C (lv' := [(4, .ref xk5), (0, .ref (v 0)), (1, .int p1), (2, .int p2), (3, .ref o0)]) dL_agree_28 (g_nlt hn rfl) rfl ?_
      refine g_iconst C (v := 3) dL_agree_30 (by decide) ?_
      refine g_eqw (ws' := (wV (x_y X) v (b 0) kp ak bf fa fl ln co v1.2.2 gs op) ++ (wSt (x_y X) b z pr le ec wt sa ev) ++ (wSec (x_y X) c c_filled c_th c_ep c_rule c_cm c_vs c_es) ++ (wO (x_y X) o0 ot)) rfl ?_
      obtain rfl := Option.some.inj hf
      exact g_iretH C E () dL_agree_31 rfl rfl (Nat.le_of_ble_eq_true rfl) (Nat.le_of_ble_eq_true rfl)
    have hf := opt_neg k5 hf
    cases hf
  have hf := opt_pos ev1 hf
  refine g_if_eq C 15 dL_agree_8 (by decide) (fun c6 => ?_) (fun c6 => ?_)
  · have hf := opt_pos c6 hf
    refine g_lconst C (v := 0) dL_agree_15 (by decide) ?_
    exact H16 v1.2.2 ot 0 0 hf
  · have hf := opt_neg c6 hf
    refine g_lconst C (v := 1) dL_agree_11 (by decide) ?_
    refine g_goto C 16 dL_agree_12 (by decide) ?_
    exact H16 v1.2.2 ot 1 0 hf
/-! L_secret -/
theorem hd_L_secret : yL_secret.cls ≠ "java/lang/invoke/MethodHandle" ∧ yL_secret.cls ≠ "java/lang/invoke/VarHandle" ∧ (parseMethodDescriptor yL_secret.desc).map (fun d => d.parameters.length) = some 4 := by decide +kernel
def F_L_secret (c_filled : Int32) (c_th : Int32) (c_ep : Int32) (c_rule : Option Nat) (c_cm : Nat → Int32) (c_vs : Nat → Int32) (c_es : Nat → Int32) (ot : Nat → Int64) (p1 : Int32) (p2 : Int32) : Option (Int32 × (Nat → Int64)) := (F_X10_secret c_filled c_th c_ep c_rule c_cm c_vs c_es p1 p2).bind fun v1 => if v1.1 = 0 then (gg (gi 0 1) (gl (vp_updL ot (Int32.toNatClampNeg 0) (Int32.toInt64 v1.2)) fun f7 => some (0, f7))) else (if v1.1 = 1 then (some (1, ot)) else (if v1.1 = 2 then (some (2, ot)) else (if v1.1 = 3 then (some (3, ot)) else (none))))
set_option maxRecDepth 100000 in
set_option maxHeartbeats 4000000 in
theorem c_L_secret {l : Launch} {D : va_G} {cy : Nat → ClassId} {v : Nat → Nat} {b : Nat → Nat} {c : Nat → Nat} {o0 : Nat} {kp : Nat} {ak : Int32} {bf : Nat} {fa : Int32} {fl : Nat} {ln : Nat} {co : Nat → Int32} {ch : Nat → Int32} {gs : Nat → Int32} {op : Nat → Int32} {z : Int32} {pr : Int32} {le : Int32} {ec : Int32} {wt : Nat → Int32} {sa : Nat → Option Nat} {ev : Nat → Int32} {c_filled : Int32} {c_th : Int32} {c_ep : Int32} {c_rule : Option Nat} {c_cm : Nat → Int32} {c_vs : Nat → Int32} {c_es : Nat → Int32} {ot : Nat → Int64} {p1 : Int32} {p2 : Int32} (hs : gi p1 4 = true → sa (Int32.toNatClampNeg p1) = some (c 0)) {val : Int32 × (Nat → Int64)} (hf : F_L_secret c_filled c_th c_ep c_rule c_cm c_vs c_es ot p1 p2 = some val) : gCtH l D cy yL_secret cL_secret 5 (some .int) [(0, 10, 13, 13), (0, 10, 17, 15), (0, 10, 21, 34)] 8 127 3 18 [.ref (v 0), .int p1, .int p2, .ref o0] [] ((wV cy v (b 0) kp ak bf fa fl ln co ch gs op) ++ (wSt cy b z pr le ec wt sa ev) ++ (wSec cy c c_filled c_th c_ep c_rule c_cm c_vs c_es) ++ (wO cy o0 ot)) (fun _ : Unit => some (.int val.1)) (fun _ => (wV cy v (b 0) kp ak bf fa fl ln co ch gs op) ++ (wSt cy b z pr le ec wt sa ev) ++ (wSec cy c c_filled c_th c_ep c_rule c_cm c_vs c_es) ++ (wO cy o0 val.2)) := by
  refine g_beginH (by decide +kernel) (Nat.le_of_ble_eq_true rfl) ?_
  intro X Q hl hR hD hy hro hn C ht E
  subst hl; subst hD; subst hy
  replace C : gC X "SecretVaultLaw" cL_secret (some .int) := C
  unfold F_L_secret at hf
  show gW X Q 0 0 ((wV (x_y X) v (b 0) kp ak bf fa fl ln co ch gs op) ++ (wSt (x_y X) b z pr le ec wt sa ev) ++ (wSec (x_y X) c c_filled c_th c_ep c_rule c_cm c_vs c_es) ++ (wO (x_y X) o0 ot)) [(0, .ref (v 0)), (1, .int p1), (2, .int p2), (3, .ref o0)] [] 0
  refine g_aload_n C 3 dL_secret_0 rfl ?_
  refine g_iconst C (v := 0) dL_secret_1 (by decide) ?_
  refine g_aload_n C 0 dL_secret_2 rfl ?_
  refine g_iload_n C 1 dL_secret_3 rfl ?_
  refine g_iload_n C 2 dL_secret_4 rfl ?_
  obtain ⟨v1, h2, hf⟩ := opt_bind hf
  refine g_callV C (c_X10_secret (l := x_l X) (D := x_D X) (cy := x_y X) (v := v) (b := b) (c := c) (kp := kp) (ak := ak) (bf := bf) (fa := fa) (fl := fl) (ln := ln) (co := co) (ch := ch) (gs := gs) (op := op) (z := z) (pr := pr) (le := le) (ec := ec) (wt := wt) (sa := sa) (ev := ev) (c_filled := c_filled) (c_th := c_th) (c_ep := c_ep) (c_rule := c_rule) (c_cm := c_cm) (c_vs := c_vs) (c_es := c_es) (p0 := p1) (p1 := p2) (hs := hs) h2) (As := [.int p1, .int p2]) (rest := [.int 0, .ref o0]) (wr := (wO (x_y X) o0 ot)) (ws' := fun _ => (wV (x_y X) v (b 0) kp ak bf fa fl ln co ch gs op) ++ (wSt (x_y X) b z pr le ec wt sa ev) ++ (wSec (x_y X) c c_filled c_th c_ep c_rule c_cm c_vs c_es) ++ (wO (x_y X) o0 ot)) (st' := fun _ => [.int v1.2, .int 0, .ref o0]) (ci := 11) 2 0 ⟨_, rfl⟩ rfl rfl mw_3_177 mw_1_1 mw_3_174 mw_3_175 mw_3_176 hd_X10_secret rfl (g_rm hR rfl rfl) [0, 1, 2, 3, 4, 5, 6, 7, 8, 9, 10, 11, 12] [13] [1, 2, 3, 4, 5, 6, 7, 8, 9, 10, 11, 12, 13, 0] ⟨rfl, rfl, rfl, rfl, by decide, gRoIn_0, rfl, fun _ => rfl⟩ rfl (Nat.le_of_ble_eq_true rfl) dL_secret_5 (g_rc hR (Nat.le_of_ble_eq_true rfl) (Nat.le_of_ble_eq_true rfl)) (ck' := 3) (sk' := 18) rfl rfl (fun _ => rfl) (fun _ ev1 => ?_) (fun _ ev1 => ?_)
  rotate_left
  · have hf := opt_neg ev1 hf
    by_cases k3 : v1.1 = 1
    · have hf := opt_pos k3 hf
      have hE : gExn v1.1 = "java/lang/IndexOutOfBoundsException" := by rw [k3]; rfl
      rw [hE]
      refine g_catch C ht [] [(0, 10, 17, 15), (0, 10, 21, 34)] rfl (fun _ h => nomatch h) (by decide) (by decide) mw_2_10 (by decide +kernel) (fun xk3 => ?_)
      refine g_astore C (lv' := [(4, .ref xk3), (0, .ref (v 0)), (1, .int p1), (2, .int p2), (3, .ref o0)]) dL_secret_13 (g_nlt hn rfl) rfl ?_
      refine g_iconst C (v := 1) dL_secret_15 (by decide) ?_
      refine g_eqw (ws' := (wV (x_y X) v (b 0) kp ak bf fa fl ln co ch gs op) ++ (wSt (x_y X) b z pr le ec wt sa ev) ++ (wSec (x_y X) c c_filled c_th c_ep c_rule c_cm c_vs c_es) ++ (wO (x_y X) o0 ot)) rfl ?_
      obtain rfl := Option.some.inj hf
      exact g_iretH C E () dL_secret_16 rfl rfl (Nat.le_of_ble_eq_true rfl) (Nat.le_of_ble_eq_true rfl)
    have hf := opt_neg k3 hf
    by_cases k4 : v1.1 = 2
    · have hf := opt_pos k4 hf
      have hE : gExn v1.1 = "java/lang/IllegalArgumentException" := by rw [k4]; rfl
      rw [hE]
      refine g_catch C ht [(0, 10, 13, 13)] [(0, 10, 21, 34)] rfl (List.forall_mem_cons.mpr ⟨Or.inr ⟨by decide, "java/lang/IndexOutOfBoundsException", mw_2_10, by decide +kernel⟩, fun _ h => nomatch h⟩) (by decide) (by decide) mw_2_90 (by decide +kernel) (fun xk4 => ?_)
      refine g_astore C (lv' := [(4, .ref xk4), (0, .ref (v 0)), (1, .int p1), (2, .int p2), (3, .ref o0)]) dL_secret_17 (g_nlt hn rfl) rfl ?_
      refine g_iconst C (v := 2) dL_secret_19 (by decide) ?_
      refine g_eqw (ws' := (wV (x_y X) v (b 0) kp ak bf fa fl ln co ch gs op) ++ (wSt (x_y X) b z pr le ec wt sa ev) ++ (wSec (x_y X) c c_filled c_th c_ep c_rule c_cm c_vs c_es) ++ (wO (x_y X) o0 ot)) rfl ?_
      obtain rfl := Option.some.inj hf
      exact g_iretH C E () dL_secret_20 rfl rfl (Nat.le_of_ble_eq_true rfl) (Nat.le_of_ble_eq_true rfl)
    have hf := opt_neg k4 hf
    by_cases k5 : v1.1 = 3
    · have hf := opt_pos k5 hf
      have hE : gExn v1.1 = "java/util/NoSuchElementException" := by rw [k5]; rfl
      rw [hE]
      refine g_catch C ht [(0, 10, 13, 13), (0, 10, 17, 15)] [] rfl (List.forall_mem_cons.mpr ⟨Or.inr ⟨by decide, "java/lang/IndexOutOfBoundsException", mw_2_10, by decide +kernel⟩, List.forall_mem_cons.mpr ⟨Or.inr ⟨by decide, "java/lang/IllegalArgumentException", mw_2_90, by decide +kernel⟩, fun _ h => nomatch h⟩⟩) (by decide) (by decide) mw_3_26 (by decide +kernel) (fun xk5 => ?_)
      refine g_astore C (lv' := [(4, .ref xk5), (0, .ref (v 0)), (1, .int p1), (2, .int p2), (3, .ref o0)]) dL_secret_21 (g_nlt hn rfl) rfl ?_
      refine g_iconst C (v := 3) dL_secret_23 (by decide) ?_
      refine g_eqw (ws' := (wV (x_y X) v (b 0) kp ak bf fa fl ln co ch gs op) ++ (wSt (x_y X) b z pr le ec wt sa ev) ++ (wSec (x_y X) c c_filled c_th c_ep c_rule c_cm c_vs c_es) ++ (wO (x_y X) o0 ot)) rfl ?_
      obtain rfl := Option.some.inj hf
      exact g_iretH C E () dL_secret_24 rfl rfl (Nat.le_of_ble_eq_true rfl) (Nat.le_of_ble_eq_true rfl)
    have hf := opt_neg k5 hf
    cases hf
  have hf := opt_pos ev1 hf
  refine g_i2l C dL_secret_8 ?_
  obtain ⟨c6, hf⟩ := gg_of hf
  obtain ⟨f7, ef7, hf⟩ := opt_let hf
  refine g_last C (ws' := (wV (x_y X) v (b 0) kp ak bf fa fl ln co ch gs op) ++ (wSt (x_y X) b z pr le ec wt sa ev) ++ (wSec (x_y X) c c_filled c_th c_ep c_rule c_cm c_vs c_es) ++ (wO (x_y X) o0 f7)) 13 rfl (gi_in c6) (by rw [ef7]; rfl) dL_secret_9 ?_
  refine g_goto C 25 dL_secret_10 (by decide) ?_
  refine g_iconst C (v := 0) dL_secret_25 (by decide) ?_
  refine g_eqw (ws' := (wV (x_y X) v (b 0) kp ak bf fa fl ln co ch gs op) ++ (wSt (x_y X) b z pr le ec wt sa ev) ++ (wSec (x_y X) c c_filled c_th c_ep c_rule c_cm c_vs c_es) ++ (wO (x_y X) o0 f7)) rfl ?_
  obtain rfl := Option.some.inj hf
  exact g_iretH C E () dL_secret_26 rfl rfl (Nat.le_of_ble_eq_true rfl) (Nat.le_of_ble_eq_true rfl)
/-! L_commitment -/
theorem hd_L_commitment : yL_commitment.cls ≠ "java/lang/invoke/MethodHandle" ∧ yL_commitment.cls ≠ "java/lang/invoke/VarHandle" ∧ (parseMethodDescriptor yL_commitment.desc).map (fun d => d.parameters.length) = some 4 := by decide +kernel
def F_L_commitment (c_filled : Int32) (c_th : Int32) (c_cm : Nat → Int32) (ot : Nat → Int64) (p1 : Int32) (p2 : Int32) : Option (Int32 × (Nat → Int64)) := (F_X10_commitment c_filled c_th c_cm p1 p2).bind fun v1 => if v1.1 = 0 then (gg (gi 0 1) (gl (vp_updL ot (Int32.toNatClampNeg 0) (Int32.toInt64 v1.2)) fun f6 => some (0, f6))) else (if v1.1 = 1 then (some (1, ot)) else (if v1.1 = 3 then (some (2, ot)) else (none)))
set_option maxRecDepth 100000 in
set_option maxHeartbeats 4000000 in
theorem c_L_commitment {l : Launch} {D : va_G} {cy : Nat → ClassId} {v : Nat → Nat} {b : Nat → Nat} {c : Nat → Nat} {o0 : Nat} {kp : Nat} {ak : Int32} {bf : Nat} {fa : Int32} {fl : Nat} {ln : Nat} {co : Nat → Int32} {ch : Nat → Int32} {gs : Nat → Int32} {op : Nat → Int32} {z : Int32} {pr : Int32} {le : Int32} {ec : Int32} {wt : Nat → Int32} {sa : Nat → Option Nat} {ev : Nat → Int32} {c_filled : Int32} {c_th : Int32} {c_ep : Int32} {c_rule : Option Nat} {c_cm : Nat → Int32} {c_vs : Nat → Int32} {c_es : Nat → Int32} {ot : Nat → Int64} {p1 : Int32} {p2 : Int32} (hs : gi p1 4 = true → sa (Int32.toNatClampNeg p1) = some (c 0)) {val : Int32 × (Nat → Int64)} (hf : F_L_commitment c_filled c_th c_cm ot p1 p2 = some val) : gCtH l D cy yL_commitment cL_commitment 5 (some .int) [(0, 10, 13, 13), (0, 10, 17, 34)] 8 127 3 18 [.ref (v 0), .int p1, .int p2, .ref o0] [] ((wV cy v (b 0) kp ak bf fa fl ln co ch gs op) ++ (wSt cy b z pr le ec wt sa ev) ++ (wSec cy c c_filled c_th c_ep c_rule c_cm c_vs c_es) ++ (wO cy o0 ot)) (fun _ : Unit => some (.int val.1)) (fun _ => (wV cy v (b 0) kp ak bf fa fl ln co ch gs op) ++ (wSt cy b z pr le ec wt sa ev) ++ (wSec cy c c_filled c_th c_ep c_rule c_cm c_vs c_es) ++ (wO cy o0 val.2)) := by
  refine g_beginH (by decide +kernel) (Nat.le_of_ble_eq_true rfl) ?_
  intro X Q hl hR hD hy hro hn C ht E
  subst hl; subst hD; subst hy
  replace C : gC X "SecretVaultLaw" cL_commitment (some .int) := C
  unfold F_L_commitment at hf
  show gW X Q 0 0 ((wV (x_y X) v (b 0) kp ak bf fa fl ln co ch gs op) ++ (wSt (x_y X) b z pr le ec wt sa ev) ++ (wSec (x_y X) c c_filled c_th c_ep c_rule c_cm c_vs c_es) ++ (wO (x_y X) o0 ot)) [(0, .ref (v 0)), (1, .int p1), (2, .int p2), (3, .ref o0)] [] 0
  refine g_aload_n C 3 dL_commitment_0 rfl ?_
  refine g_iconst C (v := 0) dL_commitment_1 (by decide) ?_
  refine g_aload_n C 0 dL_commitment_2 rfl ?_
  refine g_iload_n C 1 dL_commitment_3 rfl ?_
  refine g_iload_n C 2 dL_commitment_4 rfl ?_
  obtain ⟨v1, h2, hf⟩ := opt_bind hf
  refine g_callV C (c_X10_commitment (l := x_l X) (D := x_D X) (cy := x_y X) (v := v) (b := b) (c := c) (kp := kp) (ak := ak) (bf := bf) (fa := fa) (fl := fl) (ln := ln) (co := co) (ch := ch) (gs := gs) (op := op) (z := z) (pr := pr) (le := le) (ec := ec) (wt := wt) (sa := sa) (ev := ev) (c_filled := c_filled) (c_th := c_th) (c_ep := c_ep) (c_rule := c_rule) (c_cm := c_cm) (c_vs := c_vs) (c_es := c_es) (p0 := p1) (p1 := p2) (hs := hs) h2) (As := [.int p1, .int p2]) (rest := [.int 0, .ref o0]) (wr := (wO (x_y X) o0 ot)) (ws' := fun _ => (wV (x_y X) v (b 0) kp ak bf fa fl ln co ch gs op) ++ (wSt (x_y X) b z pr le ec wt sa ev) ++ (wSec (x_y X) c c_filled c_th c_ep c_rule c_cm c_vs c_es) ++ (wO (x_y X) o0 ot)) (st' := fun _ => [.int v1.2, .int 0, .ref o0]) (ci := 11) 2 0 ⟨_, rfl⟩ rfl rfl mw_3_184 mw_1_1 mw_3_181 mw_3_182 mw_3_183 hd_X10_commitment rfl (g_rm hR rfl rfl) [0, 1, 2, 3, 4, 5, 6, 7, 8, 9, 10, 11, 12] [13] [1, 2, 3, 4, 5, 6, 7, 8, 9, 10, 11, 12, 13, 0] ⟨rfl, rfl, rfl, rfl, by decide, gRoIn_0, rfl, fun _ => rfl⟩ rfl (Nat.le_of_ble_eq_true rfl) dL_commitment_5 (g_rc hR (Nat.le_of_ble_eq_true rfl) (Nat.le_of_ble_eq_true rfl)) (ck' := 3) (sk' := 18) rfl rfl (fun _ => rfl) (fun _ ev1 => ?_) (fun _ ev1 => ?_)
  rotate_left
  · have hf := opt_neg ev1 hf
    by_cases k3 : v1.1 = 1
    · have hf := opt_pos k3 hf
      have hE : gExn v1.1 = "java/lang/IndexOutOfBoundsException" := by rw [k3]; rfl
      rw [hE]
      refine g_catch C ht [] [(0, 10, 17, 34)] rfl (fun _ h => nomatch h) (by decide) (by decide) mw_2_10 (by decide +kernel) (fun xk3 => ?_)
      refine g_astore C (lv' := [(4, .ref xk3), (0, .ref (v 0)), (1, .int p1), (2, .int p2), (3, .ref o0)]) dL_commitment_13 (g_nlt hn rfl) rfl ?_
      refine g_iconst C (v := 1) dL_commitment_15 (by decide) ?_
      refine g_eqw (ws' := (wV (x_y X) v (b 0) kp ak bf fa fl ln co ch gs op) ++ (wSt (x_y X) b z pr le ec wt sa ev) ++ (wSec (x_y X) c c_filled c_th c_ep c_rule c_cm c_vs c_es) ++ (wO (x_y X) o0 ot)) rfl ?_
      obtain rfl := Option.some.inj hf
      exact g_iretH C E () dL_commitment_16 rfl rfl (Nat.le_of_ble_eq_true rfl) (Nat.le_of_ble_eq_true rfl)
    have hf := opt_neg k3 hf
    by_cases k4 : v1.1 = 3
    · have hf := opt_pos k4 hf
      have hE : gExn v1.1 = "java/util/NoSuchElementException" := by rw [k4]; rfl
      rw [hE]
      refine g_catch C ht [(0, 10, 13, 13)] [] rfl (List.forall_mem_cons.mpr ⟨Or.inr ⟨by decide, "java/lang/IndexOutOfBoundsException", mw_2_10, by decide +kernel⟩, fun _ h => nomatch h⟩) (by decide) (by decide) mw_3_26 (by decide +kernel) (fun xk4 => ?_)
      refine g_astore C (lv' := [(4, .ref xk4), (0, .ref (v 0)), (1, .int p1), (2, .int p2), (3, .ref o0)]) dL_commitment_17 (g_nlt hn rfl) rfl ?_
      refine g_iconst C (v := 2) dL_commitment_19 (by decide) ?_
      refine g_eqw (ws' := (wV (x_y X) v (b 0) kp ak bf fa fl ln co ch gs op) ++ (wSt (x_y X) b z pr le ec wt sa ev) ++ (wSec (x_y X) c c_filled c_th c_ep c_rule c_cm c_vs c_es) ++ (wO (x_y X) o0 ot)) rfl ?_
      obtain rfl := Option.some.inj hf
      exact g_iretH C E () dL_commitment_20 rfl rfl (Nat.le_of_ble_eq_true rfl) (Nat.le_of_ble_eq_true rfl)
    have hf := opt_neg k4 hf
    cases hf
  have hf := opt_pos ev1 hf
  refine g_i2l C dL_commitment_8 ?_
  obtain ⟨c5, hf⟩ := gg_of hf
  obtain ⟨f6, ef6, hf⟩ := opt_let hf
  refine g_last C (ws' := (wV (x_y X) v (b 0) kp ak bf fa fl ln co ch gs op) ++ (wSt (x_y X) b z pr le ec wt sa ev) ++ (wSec (x_y X) c c_filled c_th c_ep c_rule c_cm c_vs c_es) ++ (wO (x_y X) o0 f6)) 13 rfl (gi_in c5) (by rw [ef6]; rfl) dL_commitment_9 ?_
  refine g_goto C 21 dL_commitment_10 (by decide) ?_
  refine g_iconst C (v := 0) dL_commitment_21 (by decide) ?_
  refine g_eqw (ws' := (wV (x_y X) v (b 0) kp ak bf fa fl ln co ch gs op) ++ (wSt (x_y X) b z pr le ec wt sa ev) ++ (wSec (x_y X) c c_filled c_th c_ep c_rule c_cm c_vs c_es) ++ (wO (x_y X) o0 f6)) rfl ?_
  obtain rfl := Option.some.inj hf
  exact g_iretH C E () dL_commitment_22 rfl rfl (Nat.le_of_ble_eq_true rfl) (Nat.le_of_ble_eq_true rfl)
/-! L_share -/
theorem hd_L_share : yL_share.cls ≠ "java/lang/invoke/MethodHandle" ∧ yL_share.cls ≠ "java/lang/invoke/VarHandle" ∧ (parseMethodDescriptor yL_share.desc).map (fun d => d.parameters.length) = some 5 := by decide +kernel
def F_L_share (c_filled : Int32) (c_th : Int32) (c_ep : Int32) (c_cm : Nat → Int32) (c_vs : Nat → Int32) (c_es : Nat → Int32) (ot : Nat → Int64) (p1 : Int32) (p2 : Int32) (p3 : Int32) : Option (Int32 × (Nat → Int64)) := (F_X10_share c_filled c_th c_ep c_cm c_vs c_es p1 p2 p3).bind fun v1 => if v1.1 = 0 then (gg (gi 0 1) (gl (vp_updL ot (Int32.toNatClampNeg 0) (Int32.toInt64 v1.2)) fun f7 => some (0, f7))) else (if v1.1 = 1 then (some (1, ot)) else (if v1.1 = 2 then (some (2, ot)) else (if v1.1 = 3 then (some (3, ot)) else (none))))
set_option maxRecDepth 100000 in
set_option maxHeartbeats 4000000 in
theorem c_L_share {l : Launch} {D : va_G} {cy : Nat → ClassId} {v : Nat → Nat} {b : Nat → Nat} {c : Nat → Nat} {o0 : Nat} {kp : Nat} {ak : Int32} {bf : Nat} {fa : Int32} {fl : Nat} {ln : Nat} {co : Nat → Int32} {ch : Nat → Int32} {gs : Nat → Int32} {op : Nat → Int32} {z : Int32} {pr : Int32} {le : Int32} {ec : Int32} {wt : Nat → Int32} {sa : Nat → Option Nat} {ev : Nat → Int32} {c_filled : Int32} {c_th : Int32} {c_ep : Int32} {c_rule : Option Nat} {c_cm : Nat → Int32} {c_vs : Nat → Int32} {c_es : Nat → Int32} {ot : Nat → Int64} {p1 : Int32} {p2 : Int32} {p3 : Int32} (hs : gi p1 4 = true → sa (Int32.toNatClampNeg p1) = some (c 0)) {val : Int32 × (Nat → Int64)} (hf : F_L_share c_filled c_th c_ep c_cm c_vs c_es ot p1 p2 p3 = some val) : gCtH l D cy yL_share cL_share 6 (some .int) [(0, 12, 15, 13), (0, 12, 19, 15), (0, 12, 23, 34)] 9 151 5 30 [.ref (v 0), .int p1, .int p2, .int p3, .ref o0] [] ((wV cy v (b 0) kp ak bf fa fl ln co ch gs op) ++ (wSt cy b z pr le ec wt sa ev) ++ (wSec cy c c_filled c_th c_ep c_rule c_cm c_vs c_es) ++ (wO cy o0 ot)) (fun _ : Unit => some (.int val.1)) (fun _ => (wV cy v (b 0) kp ak bf fa fl ln co ch gs op) ++ (wSt cy b z pr le ec wt sa ev) ++ (wSec cy c c_filled c_th c_ep c_rule c_cm c_vs c_es) ++ (wO cy o0 val.2)) := by
  refine g_beginH (by decide +kernel) (Nat.le_of_ble_eq_true rfl) ?_
  intro X Q hl hR hD hy hro hn C ht E
  subst hl; subst hD; subst hy
  replace C : gC X "SecretVaultLaw" cL_share (some .int) := C
  unfold F_L_share at hf
  show gW X Q 0 0 ((wV (x_y X) v (b 0) kp ak bf fa fl ln co ch gs op) ++ (wSt (x_y X) b z pr le ec wt sa ev) ++ (wSec (x_y X) c c_filled c_th c_ep c_rule c_cm c_vs c_es) ++ (wO (x_y X) o0 ot)) [(0, .ref (v 0)), (1, .int p1), (2, .int p2), (3, .int p3), (4, .ref o0)] [] 0
  refine g_aload C 4 dL_share_0 rfl ?_
  refine g_iconst C (v := 0) dL_share_2 (by decide) ?_
  refine g_aload_n C 0 dL_share_3 rfl ?_
  refine g_iload_n C 1 dL_share_4 rfl ?_
  refine g_iload_n C 2 dL_share_5 rfl ?_
  refine g_iload_n C 3 dL_share_6 rfl ?_
  obtain ⟨v1, h2, hf⟩ := opt_bind hf
  refine g_callV C (c_X10_share (l := x_l X) (D := x_D X) (cy := x_y X) (v := v) (b := b) (c := c) (kp := kp) (ak := ak) (bf := bf) (fa := fa) (fl := fl) (ln := ln) (co := co) (ch := ch) (gs := gs) (op := op) (z := z) (pr := pr) (le := le) (ec := ec) (wt := wt) (sa := sa) (ev := ev) (c_filled := c_filled) (c_th := c_th) (c_ep := c_ep) (c_rule := c_rule) (c_cm := c_cm) (c_vs := c_vs) (c_es := c_es) (p0 := p1) (p1 := p2) (p2 := p3) (hs := hs) h2) (As := [.int p1, .int p2, .int p3]) (rest := [.int 0, .ref o0]) (wr := (wO (x_y X) o0 ot)) (ws' := fun _ => (wV (x_y X) v (b 0) kp ak bf fa fl ln co ch gs op) ++ (wSt (x_y X) b z pr le ec wt sa ev) ++ (wSec (x_y X) c c_filled c_th c_ep c_rule c_cm c_vs c_es) ++ (wO (x_y X) o0 ot)) (st' := fun _ => [.int v1.2, .int 0, .ref o0]) (ci := 11) 3 0 ⟨_, rfl⟩ rfl rfl mw_3_192 mw_1_1 mw_3_189 mw_3_190 mw_3_191 hd_X10_share rfl (g_rm hR rfl rfl) [0, 1, 2, 3, 4, 5, 6, 7, 8, 9, 10, 11, 12] [13] [1, 2, 3, 4, 5, 6, 7, 8, 9, 10, 11, 12, 13, 0] ⟨rfl, rfl, rfl, rfl, by decide, gRoIn_0, rfl, fun _ => rfl⟩ rfl (Nat.le_of_ble_eq_true rfl) dL_share_7 (g_rc hR (Nat.le_of_ble_eq_true rfl) (Nat.le_of_ble_eq_true rfl)) (ck' := 5) (sk' := 30) rfl rfl (fun _ => rfl) (fun _ ev1 => ?_) (fun _ ev1 => ?_)
  rotate_left
  · have hf := opt_neg ev1 hf
    by_cases k3 : v1.1 = 1
    · have hf := opt_pos k3 hf
      have hE : gExn v1.1 = "java/lang/IndexOutOfBoundsException" := by rw [k3]; rfl
      rw [hE]
      refine g_catch C ht [] [(0, 12, 19, 15), (0, 12, 23, 34)] rfl (fun _ h => nomatch h) (by decide) (by decide) mw_2_10 (by decide +kernel) (fun xk3 => ?_)
      refine g_astore C (lv' := [(5, .ref xk3), (0, .ref (v 0)), (1, .int p1), (2, .int p2), (3, .int p3), (4, .ref o0)]) dL_share_15 (g_nlt hn rfl) rfl ?_
      refine g_iconst C (v := 1) dL_share_17 (by decide) ?_
      refine g_eqw (ws' := (wV (x_y X) v (b 0) kp ak bf fa fl ln co ch gs op) ++ (wSt (x_y X) b z pr le ec wt sa ev) ++ (wSec (x_y X) c c_filled c_th c_ep c_rule c_cm c_vs c_es) ++ (wO (x_y X) o0 ot)) rfl ?_
      obtain rfl := Option.some.inj hf
      exact g_iretH C E () dL_share_18 rfl rfl (Nat.le_of_ble_eq_true rfl) (Nat.le_of_ble_eq_true rfl)
    have hf := opt_neg k3 hf
    by_cases k4 : v1.1 = 2
    · have hf := opt_pos k4 hf
      have hE : gExn v1.1 = "java/lang/IllegalArgumentException" := by rw [k4]; rfl
      rw [hE]
      refine g_catch C ht [(0, 12, 15, 13)] [(0, 12, 23, 34)] rfl (List.forall_mem_cons.mpr ⟨Or.inr ⟨by decide, "java/lang/IndexOutOfBoundsException", mw_2_10, by decide +kernel⟩, fun _ h => nomatch h⟩) (by decide) (by decide) mw_2_90 (by decide +kernel) (fun xk4 => ?_)
      refine g_astore C (lv' := [(5, .ref xk4), (0, .ref (v 0)), (1, .int p1), (2, .int p2), (3, .int p3), (4, .ref o0)]) dL_share_19 (g_nlt hn rfl) rfl ?_
      refine g_iconst C (v := 2) dL_share_21 (by decide) ?_
      refine g_eqw (ws' := (wV (x_y X) v (b 0) kp ak bf fa fl ln co ch gs op) ++ (wSt (x_y X) b z pr le ec wt sa ev) ++ (wSec (x_y X) c c_filled c_th c_ep c_rule c_cm c_vs c_es) ++ (wO (x_y X) o0 ot)) rfl ?_
      obtain rfl := Option.some.inj hf
      exact g_iretH C E () dL_share_22 rfl rfl (Nat.le_of_ble_eq_true rfl) (Nat.le_of_ble_eq_true rfl)
    have hf := opt_neg k4 hf
    by_cases k5 : v1.1 = 3
    · have hf := opt_pos k5 hf
      have hE : gExn v1.1 = "java/util/NoSuchElementException" := by rw [k5]; rfl
      rw [hE]
      refine g_catch C ht [(0, 12, 15, 13), (0, 12, 19, 15)] [] rfl (List.forall_mem_cons.mpr ⟨Or.inr ⟨by decide, "java/lang/IndexOutOfBoundsException", mw_2_10, by decide +kernel⟩, List.forall_mem_cons.mpr ⟨Or.inr ⟨by decide, "java/lang/IllegalArgumentException", mw_2_90, by decide +kernel⟩, fun _ h => nomatch h⟩⟩) (by decide) (by decide) mw_3_26 (by decide +kernel) (fun xk5 => ?_)
      refine g_astore C (lv' := [(5, .ref xk5), (0, .ref (v 0)), (1, .int p1), (2, .int p2), (3, .int p3), (4, .ref o0)]) dL_share_23 (g_nlt hn rfl) rfl ?_
      refine g_iconst C (v := 3) dL_share_25 (by decide) ?_
      refine g_eqw (ws' := (wV (x_y X) v (b 0) kp ak bf fa fl ln co ch gs op) ++ (wSt (x_y X) b z pr le ec wt sa ev) ++ (wSec (x_y X) c c_filled c_th c_ep c_rule c_cm c_vs c_es) ++ (wO (x_y X) o0 ot)) rfl ?_
      obtain rfl := Option.some.inj hf
      exact g_iretH C E () dL_share_26 rfl rfl (Nat.le_of_ble_eq_true rfl) (Nat.le_of_ble_eq_true rfl)
    have hf := opt_neg k5 hf
    cases hf
  have hf := opt_pos ev1 hf
  refine g_i2l C dL_share_10 ?_
  obtain ⟨c6, hf⟩ := gg_of hf
  obtain ⟨f7, ef7, hf⟩ := opt_let hf
  refine g_last C (ws' := (wV (x_y X) v (b 0) kp ak bf fa fl ln co ch gs op) ++ (wSt (x_y X) b z pr le ec wt sa ev) ++ (wSec (x_y X) c c_filled c_th c_ep c_rule c_cm c_vs c_es) ++ (wO (x_y X) o0 f7)) 13 rfl (gi_in c6) (by rw [ef7]; rfl) dL_share_11 ?_
  refine g_goto C 27 dL_share_12 (by decide) ?_
  refine g_iconst C (v := 0) dL_share_27 (by decide) ?_
  refine g_eqw (ws' := (wV (x_y X) v (b 0) kp ak bf fa fl ln co ch gs op) ++ (wSt (x_y X) b z pr le ec wt sa ev) ++ (wSec (x_y X) c c_filled c_th c_ep c_rule c_cm c_vs c_es) ++ (wO (x_y X) o0 f7)) rfl ?_
  obtain rfl := Option.some.inj hf
  exact g_iretH C E () dL_share_28 rfl rfl (Nat.le_of_ble_eq_true rfl) (Nat.le_of_ble_eq_true rfl)
