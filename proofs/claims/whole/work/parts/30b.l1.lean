/-! L_setShare -/
theorem hd_L_setShare : yL_setShare.cls ≠ "java/lang/invoke/MethodHandle" ∧ yL_setShare.cls ≠ "java/lang/invoke/VarHandle" ∧ (parseMethodDescriptor yL_setShare.desc).map (fun d => d.parameters.length) = some 5 := by decide +kernel
def F_L_setShare (c_filled : Int32) (c_vs : Nat → Int32) (c_es : Nat → Int32) (ot : Nat → Int64) (p1 : Int32) (p2 : Int32) (p3 : Int32) : Option (Int32 × (Nat → Int32) × (Nat → Int64)) := (F_X10_setShare c_filled c_vs c_es p1 p2 p3).bind fun v1 => if v1.1 = 0 then (gg (gi 0 1) (gl (vp_updL ot (Int32.toNatClampNeg 0) (Int32.toInt64 v1.2.1)) fun f7 => some (0, v1.2.2, f7))) else (if v1.1 = 1 then (some (1, v1.2.2, ot)) else (if v1.1 = 2 then (some (2, v1.2.2, ot)) else (if v1.1 = 3 then (some (3, v1.2.2, ot)) else (none))))
set_option maxRecDepth 100000 in
set_option maxHeartbeats 4000000 in
theorem c_L_setShare {l : Launch} {D : va_G} {cy : Nat → ClassId} {v : Nat → Nat} {b : Nat → Nat} {c : Nat → Nat} {o0 : Nat} {kp : Nat} {ak : Int32} {bf : Nat} {fa : Int32} {fl : Nat} {ln : Nat} {co : Nat → Int32} {ch : Nat → Int32} {gs : Nat → Int32} {op : Nat → Int32} {z : Int32} {pr : Int32} {le : Int32} {ec : Int32} {wt : Nat → Int32} {sa : Nat → Option Nat} {ev : Nat → Int32} {c_filled : Int32} {c_th : Int32} {c_ep : Int32} {c_rule : Option Nat} {c_cm : Nat → Int32} {c_vs : Nat → Int32} {c_es : Nat → Int32} {ot : Nat → Int64} {p1 : Int32} {p2 : Int32} {p3 : Int32} (hs : gi p1 4 = true → sa (Int32.toNatClampNeg p1) = some (c 0)) {val : Int32 × (Nat → Int32) × (Nat → Int64)} (hf : F_L_setShare c_filled c_vs c_es ot p1 p2 p3 = some val) : gCtH l D cy yL_setShare cL_setShare 6 (some .int) [(0, 12, 15, 13), (0, 12, 19, 15), (0, 12, 23, 34)] 9 152 5 30 [.ref (v 0), .int p1, .int p2, .int p3, .ref o0] [] ((wV cy v (b 0) kp ak bf fa fl ln co ch gs op) ++ (wSt cy b z pr le ec wt sa ev) ++ (wSec cy c c_filled c_th c_ep c_rule c_cm c_vs c_es) ++ (wO cy o0 ot)) (fun _ : Unit => some (.int val.1)) (fun _ => (wV cy v (b 0) kp ak bf fa fl ln co ch gs op) ++ (wSt cy b z pr le ec wt sa ev) ++ (wSec cy c c_filled c_th c_ep c_rule c_cm val.2.1 c_es) ++ (wO cy o0 val.2.2)) := by
  refine g_beginH (by decide +kernel) (Nat.le_of_ble_eq_true rfl) ?_
  intro X Q hl hR hD hy hro hn C ht E
  subst hl; subst hD; subst hy
  replace C : gC X "SecretVaultLaw" cL_setShare (some .int) := C
  unfold F_L_setShare at hf
  show gW X Q 0 0 ((wV (x_y X) v (b 0) kp ak bf fa fl ln co ch gs op) ++ (wSt (x_y X) b z pr le ec wt sa ev) ++ (wSec (x_y X) c c_filled c_th c_ep c_rule c_cm c_vs c_es) ++ (wO (x_y X) o0 ot)) [(0, .ref (v 0)), (1, .int p1), (2, .int p2), (3, .int p3), (4, .ref o0)] [] 0
  refine g_aload C 4 dL_setShare_0 rfl ?_
  refine g_iconst C (v := 0) dL_setShare_2 (by decide) ?_
  refine g_aload_n C 0 dL_setShare_3 rfl ?_
  refine g_iload_n C 1 dL_setShare_4 rfl ?_
  refine g_iload_n C 2 dL_setShare_5 rfl ?_
  refine g_iload_n C 3 dL_setShare_6 rfl ?_
  obtain ⟨v1, h2, hf⟩ := opt_bind hf
  refine g_callV C (c_X10_setShare (l := x_l X) (D := x_D X) (cy := x_y X) (v := v) (b := b) (c := c) (kp := kp) (ak := ak) (bf := bf) (fa := fa) (fl := fl) (ln := ln) (co := co) (ch := ch) (gs := gs) (op := op) (z := z) (pr := pr) (le := le) (ec := ec) (wt := wt) (sa := sa) (ev := ev) (c_filled := c_filled) (c_th := c_th) (c_ep := c_ep) (c_rule := c_rule) (c_cm := c_cm) (c_vs := c_vs) (c_es := c_es) (p0 := p1) (p1 := p2) (p2 := p3) (hs := hs) h2) (As := [.int p1, .int p2, .int p3]) (rest := [.int 0, .ref o0]) (wr := (wO (x_y X) o0 ot)) (ws' := fun _ => (wV (x_y X) v (b 0) kp ak bf fa fl ln co ch gs op) ++ (wSt (x_y X) b z pr le ec wt sa ev) ++ (wSec (x_y X) c c_filled c_th c_ep c_rule c_cm v1.2.2 c_es) ++ (wO (x_y X) o0 ot)) (st' := fun _ => [.int v1.2.1, .int 0, .ref o0]) (ci := 11) 3 0 ⟨_, rfl⟩ rfl rfl mw_3_208 mw_1_1 mw_3_205 mw_3_206 mw_3_207 hd_X10_setShare rfl (g_rm hR rfl rfl) [0, 1, 2, 3, 4, 5, 6, 7, 8, 9, 10, 11, 12] [13] [1, 2, 3, 4, 5, 6, 7, 8, 9, 10, 11, 12, 13, 0] ⟨rfl, rfl, rfl, rfl, by decide, gRoIn_0, rfl, fun _ => rfl⟩ rfl (Nat.le_of_ble_eq_true rfl) dL_setShare_7 (g_rc hR (Nat.le_of_ble_eq_true rfl) (Nat.le_of_ble_eq_true rfl)) (ck' := 5) (sk' := 30) rfl rfl (fun _ => rfl) (fun _ ev1 => ?_) (fun _ ev1 => ?_)
  rotate_left
  · have hf := opt_neg ev1 hf
    by_cases k3 : v1.1 = 1
    · have hf := opt_pos k3 hf
      have hE : gExn v1.1 = "java/lang/IndexOutOfBoundsException" := by rw [k3]; rfl
      rw [hE]
      refine g_catch C ht [] [(0, 12, 19, 15), (0, 12, 23, 34)] rfl (fun _ h => nomatch h) (by decide) (by decide) mw_2_10 (by decide +kernel) (fun xk3 => ?_)
      refine g_astore C (lv' := [(5, .ref xk3), (0, .ref (v 0)), (1, .int p1), (2, .int p2), (3, .int p3), (4, .ref o0)]) dL_setShare_15 (g_nlt hn rfl) rfl ?_
      refine g_iconst C (v := 1) dL_setShare_17 (by decide) ?_
      refine g_eqw (ws' := (wV (x_y X) v (b 0) kp ak bf fa fl ln co ch gs op) ++ (wSt (x_y X) b z pr le ec wt sa ev) ++ (wSec (x_y X) c c_filled c_th c_ep c_rule c_cm v1.2.2 c_es) ++ (wO (x_y X) o0 ot)) rfl ?_
      obtain rfl := Option.some.inj hf
      exact g_iretH C E () dL_setShare_18 rfl rfl (Nat.le_of_ble_eq_true rfl) (Nat.le_of_ble_eq_true rfl)
    have hf := opt_neg k3 hf
    by_cases k4 : v1.1 = 2
    · have hf := opt_pos k4 hf
      have hE : gExn v1.1 = "java/lang/IllegalArgumentException" := by rw [k4]; rfl
      rw [hE]
      refine g_catch C ht [(0, 12, 15, 13)] [(0, 12, 23, 34)] rfl (List.forall_mem_cons.mpr ⟨Or.inr ⟨by decide, "java/lang/IndexOutOfBoundsException", mw_2_10, by decide +kernel⟩, fun _ h => nomatch h⟩) (by decide) (by decide) mw_2_90 (by decide +kernel) (fun xk4 => ?_)
      refine g_astore C (lv' := [(5, .ref xk4), (0, .ref (v 0)), (1, .int p1), (2, .int p2), (3, .int p3), (4, .ref o0)]) dL_setShare_19 (g_nlt hn rfl) rfl ?_
      refine g_iconst C (v := 2) dL_setShare_21 (by decide) ?_
      refine g_eqw (ws' := (wV (x_y X) v (b 0) kp ak bf fa fl ln co ch gs op) ++ (wSt (x_y X) b z pr le ec wt sa ev) ++ (wSec (x_y X) c c_filled c_th c_ep c_rule c_cm v1.2.2 c_es) ++ (wO (x_y X) o0 ot)) rfl ?_
      obtain rfl := Option.some.inj hf
      exact g_iretH C E () dL_setShare_22 rfl rfl (Nat.le_of_ble_eq_true rfl) (Nat.le_of_ble_eq_true rfl)
    have hf := opt_neg k4 hf
    by_cases k5 : v1.1 = 3
    · have hf := opt_pos k5 hf
      have hE : gExn v1.1 = "java/util/NoSuchElementException" := by rw [k5]; rfl
      rw [hE]
      refine g_catch C ht [(0, 12, 15, 13), (0, 12, 19, 15)] [] rfl (List.forall_mem_cons.mpr ⟨Or.inr ⟨by decide, "java/lang/IndexOutOfBoundsException", mw_2_10, by decide +kernel⟩, List.forall_mem_cons.mpr ⟨Or.inr ⟨by decide, "java/lang/IllegalArgumentException", mw_2_90, by decide +kernel⟩, fun _ h => nomatch h⟩⟩) (by decide) (by decide) mw_3_26 (by decide +kernel) (fun xk5 => ?_)
      refine g_astore C (lv' := [(5, .ref xk5), (0, .ref (v 0)), (1, .int p1), (2, .int p2), (3, .int p3), (4, .ref o0)]) dL_setShare_23 (g_nlt hn rfl) rfl ?_
      refine g_iconst C (v := 3) dL_setShare_25 (by decide) ?_
      refine g_eqw (ws' := (wV (x_y X) v (b 0) kp ak bf fa fl ln co ch gs op) ++ (wSt (x_y X) b z pr le ec wt sa ev) ++ (wSec (x_y X) c c_filled c_th c_ep c_rule c_cm v1.2.2 c_es) ++ (wO (x_y X) o0 ot)) rfl ?_
      obtain rfl := Option.some.inj hf
      exact g_iretH C E () dL_setShare_26 rfl rfl (Nat.le_of_ble_eq_true rfl) (Nat.le_of_ble_eq_true rfl)
    have hf := opt_neg k5 hf
    cases hf
  have hf := opt_pos ev1 hf
  refine g_i2l C dL_setShare_10 ?_
  obtain ⟨c6, hf⟩ := gg_of hf
  obtain ⟨f7, ef7, hf⟩ := opt_let hf
  refine g_last C (ws' := (wV (x_y X) v (b 0) kp ak bf fa fl ln co ch gs op) ++ (wSt (x_y X) b z pr le ec wt sa ev) ++ (wSec (x_y X) c c_filled c_th c_ep c_rule c_cm v1.2.2 c_es) ++ (wO (x_y X) o0 f7)) 13 rfl (gi_in c6) (by rw [ef7]; rfl) dL_setShare_11 ?_
  refine g_goto C 27 dL_setShare_12 (by decide) ?_
  refine g_iconst C (v := 0) dL_setShare_27 (by decide) ?_
  refine g_eqw (ws' := (wV (x_y X) v (b 0) kp ak bf fa fl ln co ch gs op) ++ (wSt (x_y X) b z pr le ec wt sa ev) ++ (wSec (x_y X) c c_filled c_th c_ep c_rule c_cm v1.2.2 c_es) ++ (wO (x_y X) o0 f7)) rfl ?_
  obtain rfl := Option.some.inj hf
  exact g_iretH C E () dL_setShare_28 rfl rfl (Nat.le_of_ble_eq_true rfl) (Nat.le_of_ble_eq_true rfl)
/-! L_shareText -/
theorem hd_L_shareText : yL_shareText.cls ≠ "java/lang/invoke/MethodHandle" ∧ yL_shareText.cls ≠ "java/lang/invoke/VarHandle" ∧ (parseMethodDescriptor yL_shareText.desc).map (fun d => d.parameters.length) = some 5 := by decide +kernel
def F_L_shareText (c_filled : Int32) (c_vs : Nat → Int32) (c_es : Nat → Int32) (ml : Int32) (n : Int32) (cap : Nat) (bs : Nat → Int32) (ot : Nat → Int64) (p1 : Int32) (p2 : Int32) (p3 : Int32) : Option (Int32 × Int32 × Int32 × Nat × (Nat → Int32) × (Nat → Int64)) := (F_X10_shareText c_filled c_vs c_es ml n cap bs p1 p2 p3).bind fun v1 => if v1.1 = 0 then (gg (gi 0 1) (gl (vp_updL ot (Int32.toNatClampNeg 0) (Int32.toInt64 v1.2.1)) fun f7 => some (0, v1.2.2.1, v1.2.2.2.1, v1.2.2.2.2.1, v1.2.2.2.2.2, f7))) else (if v1.1 = 1 then (some (1, v1.2.2.1, v1.2.2.2.1, v1.2.2.2.2.1, v1.2.2.2.2.2, ot)) else (if v1.1 = 3 then (some (2, v1.2.2.1, v1.2.2.2.1, v1.2.2.2.2.1, v1.2.2.2.2.2, ot)) else (none)))
set_option maxRecDepth 100000 in
set_option maxHeartbeats 4000000 in
theorem c_L_shareText {l : Launch} {D : va_G} {cy : Nat → ClassId} {v : Nat → Nat} {b : Nat → Nat} {c : Nat → Nat} {sb sy : Nat} {o0 : Nat} {kp : Nat} {ak : Int32} {bf : Nat} {fa : Int32} {fl : Nat} {co : Nat → Int32} {ch : Nat → Int32} {gs : Nat → Int32} {op : Nat → Int32} {z : Int32} {pr : Int32} {le : Int32} {ec : Int32} {wt : Nat → Int32} {sa : Nat → Option Nat} {ev : Nat → Int32} {c_filled : Int32} {c_th : Int32} {c_ep : Int32} {c_rule : Option Nat} {c_cm : Nat → Int32} {c_vs : Nat → Int32} {c_es : Nat → Int32} {ml : Int32} {n : Int32} {cap : Nat} {bs : Nat → Int32} {ot : Nat → Int64} {p1 : Int32} {p2 : Int32} {p3 : Int32} (hs : gi p1 4 = true → sa (Int32.toNatClampNeg p1) = some (c 0)) {val : Int32 × Int32 × Int32 × Nat × (Nat → Int32) × (Nat → Int64)} (hf : F_L_shareText c_filled c_vs c_es ml n cap bs ot p1 p2 p3 = some val) : gCtH l D cy yL_shareText cL_shareText 6 (some .int) [(0, 12, 15, 13), (0, 12, 19, 34)] 9 182 14 676 [.ref (v 0), .int p1, .int p2, .int p3, .ref o0] [] ((wV cy v (b 0) kp ak bf fa fl sb co ch gs op) ++ (wSt cy b z pr le ec wt sa ev) ++ (wSec cy c c_filled c_th c_ep c_rule c_cm c_vs c_es) ++ (wSb cy sb sy ml n cap bs) ++ (wO cy o0 ot)) (fun u : Nat => some (.int val.1)) (fun u => (wV cy v (b 0) kp ak bf fa fl sb co ch gs op) ++ (wSt cy b z pr le ec wt sa ev) ++ (wSec cy c c_filled c_th c_ep c_rule c_cm c_vs c_es) ++ (wSb cy sb u val.2.1 val.2.2.1 val.2.2.2.1 val.2.2.2.2.1) ++ (wO cy o0 val.2.2.2.2.2)) := by
  refine g_beginH (by decide +kernel) (Nat.le_of_ble_eq_true rfl) ?_
  intro X Q hl hR hD hy hro hn C ht E
  subst hl; subst hD; subst hy
  replace C : gC X "SecretVaultLaw" cL_shareText (some .int) := C
  unfold F_L_shareText at hf
  show gW X Q 0 0 ((wV (x_y X) v (b 0) kp ak bf fa fl sb co ch gs op) ++ (wSt (x_y X) b z pr le ec wt sa ev) ++ (wSec (x_y X) c c_filled c_th c_ep c_rule c_cm c_vs c_es) ++ (wSb (x_y X) sb sy ml n cap bs) ++ (wO (x_y X) o0 ot)) [(0, .ref (v 0)), (1, .int p1), (2, .int p2), (3, .int p3), (4, .ref o0)] [] 0
  refine g_aload C 4 dL_shareText_0 rfl ?_
  refine g_iconst C (v := 0) dL_shareText_2 (by decide) ?_
  refine g_aload_n C 0 dL_shareText_3 rfl ?_
  refine g_iload_n C 1 dL_shareText_4 rfl ?_
  refine g_iload_n C 2 dL_shareText_5 rfl ?_
  refine g_iload_n C 3 dL_shareText_6 rfl ?_
  obtain ⟨v1, h2, hf⟩ := opt_bind hf
  refine g_callV C (c_X10_shareText (l := x_l X) (D := x_D X) (cy := x_y X) (v := v) (b := b) (c := c) (sb := sb) (sy := sy) (kp := kp) (ak := ak) (bf := bf) (fa := fa) (fl := fl) (co := co) (ch := ch) (gs := gs) (op := op) (z := z) (pr := pr) (le := le) (ec := ec) (wt := wt) (sa := sa) (ev := ev) (c_filled := c_filled) (c_th := c_th) (c_ep := c_ep) (c_rule := c_rule) (c_cm := c_cm) (c_vs := c_vs) (c_es := c_es) (ml := ml) (n := n) (cap := cap) (bs := bs) (p0 := p1) (p1 := p2) (p2 := p3) (hs := hs) h2) (As := [.int p1, .int p2, .int p3]) (rest := [.int 0, .ref o0]) (wr := (wO (x_y X) o0 ot)) (ws' := fun u3 => (wV (x_y X) v (b 0) kp ak bf fa fl sb co ch gs op) ++ (wSt (x_y X) b z pr le ec wt sa ev) ++ (wSec (x_y X) c c_filled c_th c_ep c_rule c_cm c_vs c_es) ++ (wSb (x_y X) sb u3 v1.2.2.1 v1.2.2.2.1 v1.2.2.2.2.1 v1.2.2.2.2.2) ++ (wO (x_y X) o0 ot)) (st' := fun u3 => [.int v1.2.1, .int 0, .ref o0]) (ci := 11) 3 0 ⟨_, rfl⟩ rfl rfl mw_3_215 mw_1_1 mw_3_212 mw_3_213 mw_3_214 hd_X10_shareText rfl (g_rm hR rfl rfl) [0, 1, 2, 3, 4, 5, 6, 7, 8, 9, 10, 11, 12, 13, 14] [15] [1, 2, 3, 4, 5, 6, 7, 8, 9, 10, 11, 12, 13, 14, 15, 0] ⟨rfl, rfl, rfl, rfl, by decide, gRoIn_0, rfl, fun _ => rfl⟩ rfl (Nat.le_of_ble_eq_true rfl) dL_shareText_7 (g_rc hR (Nat.le_of_ble_eq_true rfl) (Nat.le_of_ble_eq_true rfl)) (ck' := 14) (sk' := 676) rfl rfl (fun _ => rfl) (fun u3 ev1 => ?_) (fun u3 ev1 => ?_)
  rotate_left
  · have hf := opt_neg ev1 hf
    by_cases k4 : v1.1 = 1
    · have hf := opt_pos k4 hf
      have hE : gExn v1.1 = "java/lang/IndexOutOfBoundsException" := by rw [k4]; rfl
      rw [hE]
      refine g_catch C ht [] [(0, 12, 19, 34)] rfl (fun _ h => nomatch h) (by decide) (by decide) mw_2_10 (by decide +kernel) (fun xk4 => ?_)
      refine g_astore C (lv' := [(5, .ref xk4), (0, .ref (v 0)), (1, .int p1), (2, .int p2), (3, .int p3), (4, .ref o0)]) dL_shareText_15 (g_nlt hn rfl) rfl ?_
      refine g_iconst C (v := 1) dL_shareText_17 (by decide) ?_
      refine g_eqw (ws' := (wV (x_y X) v (b 0) kp ak bf fa fl sb co ch gs op) ++ (wSt (x_y X) b z pr le ec wt sa ev) ++ (wSec (x_y X) c c_filled c_th c_ep c_rule c_cm c_vs c_es) ++ (wSb (x_y X) sb u3 v1.2.2.1 v1.2.2.2.1 v1.2.2.2.2.1 v1.2.2.2.2.2) ++ (wO (x_y X) o0 ot)) rfl ?_
      obtain rfl := Option.some.inj hf
      exact g_iretH C E u3 dL_shareText_18 rfl rfl (Nat.le_of_ble_eq_true rfl) (Nat.le_of_ble_eq_true rfl)
    have hf := opt_neg k4 hf
    by_cases k5 : v1.1 = 3
    · have hf := opt_pos k5 hf
      have hE : gExn v1.1 = "java/util/NoSuchElementException" := by rw [k5]; rfl
      rw [hE]
      refine g_catch C ht [(0, 12, 15, 13)] [] rfl (List.forall_mem_cons.mpr ⟨Or.inr ⟨by decide, "java/lang/IndexOutOfBoundsException", mw_2_10, by decide +kernel⟩, fun _ h => nomatch h⟩) (by decide) (by decide) mw_3_26 (by decide +kernel) (fun xk5 => ?_)
      refine g_astore C (lv' := [(5, .ref xk5), (0, .ref (v 0)), (1, .int p1), (2, .int p2), (3, .int p3), (4, .ref o0)]) dL_shareText_19 (g_nlt hn rfl) rfl ?_
      refine g_iconst C (v := 2) dL_shareText_21 (by decide) ?_
      refine g_eqw (ws' := (wV (x_y X) v (b 0) kp ak bf fa fl sb co ch gs op) ++ (wSt (x_y X) b z pr le ec wt sa ev) ++ (wSec (x_y X) c c_filled c_th c_ep c_rule c_cm c_vs c_es) ++ (wSb (x_y X) sb u3 v1.2.2.1 v1.2.2.2.1 v1.2.2.2.2.1 v1.2.2.2.2.2) ++ (wO (x_y X) o0 ot)) rfl ?_
      obtain rfl := Option.some.inj hf
      exact g_iretH C E u3 dL_shareText_22 rfl rfl (Nat.le_of_ble_eq_true rfl) (Nat.le_of_ble_eq_true rfl)
    have hf := opt_neg k5 hf
    cases hf
  have hf := opt_pos ev1 hf
  refine g_i2l C dL_shareText_10 ?_
  obtain ⟨c6, hf⟩ := gg_of hf
  obtain ⟨f7, ef7, hf⟩ := opt_let hf
  refine g_last C (ws' := (wV (x_y X) v (b 0) kp ak bf fa fl sb co ch gs op) ++ (wSt (x_y X) b z pr le ec wt sa ev) ++ (wSec (x_y X) c c_filled c_th c_ep c_rule c_cm c_vs c_es) ++ (wSb (x_y X) sb u3 v1.2.2.1 v1.2.2.2.1 v1.2.2.2.2.1 v1.2.2.2.2.2) ++ (wO (x_y X) o0 f7)) 15 rfl (gi_in c6) (by rw [ef7]; rfl) dL_shareText_11 ?_
  refine g_goto C 23 dL_shareText_12 (by decide) ?_
  refine g_iconst C (v := 0) dL_shareText_23 (by decide) ?_
  refine g_eqw (ws' := (wV (x_y X) v (b 0) kp ak bf fa fl sb co ch gs op) ++ (wSt (x_y X) b z pr le ec wt sa ev) ++ (wSec (x_y X) c c_filled c_th c_ep c_rule c_cm c_vs c_es) ++ (wSb (x_y X) sb u3 v1.2.2.1 v1.2.2.2.1 v1.2.2.2.2.1 v1.2.2.2.2.2) ++ (wO (x_y X) o0 f7)) rfl ?_
  obtain rfl := Option.some.inj hf
  exact g_iretH C E u3 dL_shareText_24 rfl rfl (Nat.le_of_ble_eq_true rfl) (Nat.le_of_ble_eq_true rfl)
/-! L_importShare -/
theorem hd_L_importShare : yL_importShare.cls ≠ "java/lang/invoke/MethodHandle" ∧ yL_importShare.cls ≠ "java/lang/invoke/VarHandle" ∧ (parseMethodDescriptor yL_importShare.desc).map (fun d => d.parameters.length) = some 3 := by decide +kernel
def F_L_importShare (fa : Int32) (c_filled : Int32) (c_vs : Nat → Int32) (c_es : Nat → Int32) (ml : Int32) (n : Int32) (cap : Nat) (bs : Nat → Int32) (ot : Nat → Int64) (p1 : Int32) : Option (Int32 × Int32 × (Nat → Int32) × (Nat → Int32) × Int32 × Int32 × Nat × (Nat → Int32) × (Nat → Int64)) := (F_X10_importShare fa c_filled c_vs c_es ml n cap bs p1).bind fun v1 => if v1.1 = 0 then (gg (gi 0 1) (gl (vp_updL ot (Int32.toNatClampNeg 0) (Int32.toInt64 v1.2.1)) fun f8 => some (0, v1.2.2.1, v1.2.2.2.1, v1.2.2.2.2.1, v1.2.2.2.2.2.1, v1.2.2.2.2.2.2.1, v1.2.2.2.2.2.2.2.1, v1.2.2.2.2.2.2.2.2, f8))) else (if v1.1 = 1 then (some (1, v1.2.2.1, v1.2.2.2.1, v1.2.2.2.2.1, v1.2.2.2.2.2.1, v1.2.2.2.2.2.2.1, v1.2.2.2.2.2.2.2.1, v1.2.2.2.2.2.2.2.2, ot)) else (if v1.1 = 3 then (some (2, v1.2.2.1, v1.2.2.2.1, v1.2.2.2.2.1, v1.2.2.2.2.2.1, v1.2.2.2.2.2.2.1, v1.2.2.2.2.2.2.2.1, v1.2.2.2.2.2.2.2.2, ot)) else (if v1.1 = 2 then (some (3, v1.2.2.1, v1.2.2.2.1, v1.2.2.2.2.1, v1.2.2.2.2.2.1, v1.2.2.2.2.2.2.1, v1.2.2.2.2.2.2.2.1, v1.2.2.2.2.2.2.2.2, ot)) else (none))))
set_option maxRecDepth 100000 in
set_option maxHeartbeats 4000000 in
theorem c_L_importShare {l : Launch} {D : va_G} {cy : Nat → ClassId} {v : Nat → Nat} {b : Nat → Nat} {c : Nat → Nat} {sb sy : Nat} {o0 : Nat} {kp : Nat} {ak : Int32} {fa : Int32} {fl : Nat} {ln : Nat} {co : Nat → Int32} {ch : Nat → Int32} {gs : Nat → Int32} {op : Nat → Int32} {z : Int32} {pr : Int32} {le : Int32} {ec : Int32} {wt : Nat → Int32} {sa : Nat → Option Nat} {ev : Nat → Int32} {c_filled : Int32} {c_th : Int32} {c_ep : Int32} {c_rule : Option Nat} {c_cm : Nat → Int32} {c_vs : Nat → Int32} {c_es : Nat → Int32} {ml : Int32} {n : Int32} {cap : Nat} {bs : Nat → Int32} {ot : Nat → Int64} {p1 : Int32} (hs : gi p1 4 = true → sa (Int32.toNatClampNeg p1) = some (c 0)) {val : Int32 × Int32 × (Nat → Int32) × (Nat → Int32) × Int32 × Int32 × Nat × (Nat → Int32) × (Nat → Int64)} (hf : F_L_importShare fa c_filled c_vs c_es ml n cap bs ot p1 = some val) : gCtH l D cy yL_importShare cL_importShare 4 (some .int) [(0, 9, 12, 13), (0, 9, 15, 34), (0, 9, 18, 15)] 8 185 7 188 [.ref (v 0), .int p1, .ref o0] [] ((wV cy v (b 0) kp ak sb fa fl ln co ch gs op) ++ (wSt cy b z pr le ec wt sa ev) ++ (wSec cy c c_filled c_th c_ep c_rule c_cm c_vs c_es) ++ (wSb cy sb sy ml n cap bs) ++ (wO cy o0 ot)) (fun u : Nat => some (.int val.1)) (fun u => (wV cy v (b 0) kp ak sb val.2.1 fl ln co ch gs op) ++ (wSt cy b z pr le ec wt sa ev) ++ (wSec cy c c_filled c_th c_ep c_rule c_cm val.2.2.1 val.2.2.2.1) ++ (wSb cy sb u val.2.2.2.2.1 val.2.2.2.2.2.1 val.2.2.2.2.2.2.1 val.2.2.2.2.2.2.2.1) ++ (wO cy o0 val.2.2.2.2.2.2.2.2)) := by
  refine g_beginH (by decide +kernel) (Nat.le_of_ble_eq_true rfl) ?_
  intro X Q hl hR hD hy hro hn C ht E
  subst hl; subst hD; subst hy
  replace C : gC X "SecretVaultLaw" cL_importShare (some .int) := C
  unfold F_L_importShare at hf
  show gW X Q 0 0 ((wV (x_y X) v (b 0) kp ak sb fa fl ln co ch gs op) ++ (wSt (x_y X) b z pr le ec wt sa ev) ++ (wSec (x_y X) c c_filled c_th c_ep c_rule c_cm c_vs c_es) ++ (wSb (x_y X) sb sy ml n cap bs) ++ (wO (x_y X) o0 ot)) [(0, .ref (v 0)), (1, .int p1), (2, .ref o0)] [] 0
  refine g_aload_n C 2 dL_importShare_0 rfl ?_
  refine g_iconst C (v := 0) dL_importShare_1 (by decide) ?_
  refine g_aload_n C 0 dL_importShare_2 rfl ?_
  refine g_iload_n C 1 dL_importShare_3 rfl ?_
  obtain ⟨v1, h2, hf⟩ := opt_bind hf
  refine g_callV C (c_X10_importShare (l := x_l X) (D := x_D X) (cy := x_y X) (v := v) (b := b) (c := c) (sb := sb) (sy := sy) (kp := kp) (ak := ak) (fa := fa) (fl := fl) (ln := ln) (co := co) (ch := ch) (gs := gs) (op := op) (z := z) (pr := pr) (le := le) (ec := ec) (wt := wt) (sa := sa) (ev := ev) (c_filled := c_filled) (c_th := c_th) (c_ep := c_ep) (c_rule := c_rule) (c_cm := c_cm) (c_vs := c_vs) (c_es := c_es) (ml := ml) (n := n) (cap := cap) (bs := bs) (p0 := p1) (hs := hs) h2) (As := [.int p1]) (rest := [.int 0, .ref o0]) (wr := (wO (x_y X) o0 ot)) (ws' := fun u3 => (wV (x_y X) v (b 0) kp ak sb v1.2.2.1 fl ln co ch gs op) ++ (wSt (x_y X) b z pr le ec wt sa ev) ++ (wSec (x_y X) c c_filled c_th c_ep c_rule c_cm v1.2.2.2.1 v1.2.2.2.2.1) ++ (wSb (x_y X) sb u3 v1.2.2.2.2.2.1 v1.2.2.2.2.2.2.1 v1.2.2.2.2.2.2.2.1 v1.2.2.2.2.2.2.2.2) ++ (wO (x_y X) o0 ot)) (st' := fun u3 => [.int v1.2.1, .int 0, .ref o0]) (ci := 11) 1 0 ⟨_, rfl⟩ rfl rfl mw_5_41 mw_1_1 mw_5_38 mw_5_39 mw_5_40 hd_X10_importShare rfl (g_rm hR rfl rfl) [0, 1, 2, 3, 4, 5, 6, 7, 8, 9, 10, 11, 12, 13, 14] [15] [1, 2, 3, 4, 5, 6, 7, 8, 9, 10, 11, 12, 13, 14, 15, 0] ⟨rfl, rfl, rfl, rfl, by decide, gRoIn_0, rfl, fun _ => rfl⟩ rfl (Nat.le_of_ble_eq_true rfl) dL_importShare_4 (g_rc hR (Nat.le_of_ble_eq_true rfl) (Nat.le_of_ble_eq_true rfl)) (ck' := 7) (sk' := 188) rfl rfl (fun _ => rfl) (fun u3 ev1 => ?_) (fun u3 ev1 => ?_)
  rotate_left
  · have hf := opt_neg ev1 hf
    by_cases k4 : v1.1 = 1
    · have hf := opt_pos k4 hf
      have hE : gExn v1.1 = "java/lang/IndexOutOfBoundsException" := by rw [k4]; rfl
      rw [hE]
      refine g_catch C ht [] [(0, 9, 15, 34), (0, 9, 18, 15)] rfl (fun _ h => nomatch h) (by decide) (by decide) mw_2_10 (by decide +kernel) (fun xk4 => ?_)
      refine g_astore_n C (lv' := [(3, .ref xk4), (0, .ref (v 0)), (1, .int p1), (2, .ref o0)]) dL_importShare_12 (g_nlt hn rfl) rfl ?_
      refine g_iconst C (v := 1) dL_importShare_13 (by decide) ?_
      refine g_eqw (ws' := (wV (x_y X) v (b 0) kp ak sb v1.2.2.1 fl ln co ch gs op) ++ (wSt (x_y X) b z pr le ec wt sa ev) ++ (wSec (x_y X) c c_filled c_th c_ep c_rule c_cm v1.2.2.2.1 v1.2.2.2.2.1) ++ (wSb (x_y X) sb u3 v1.2.2.2.2.2.1 v1.2.2.2.2.2.2.1 v1.2.2.2.2.2.2.2.1 v1.2.2.2.2.2.2.2.2) ++ (wO (x_y X) o0 ot)) rfl ?_
      obtain rfl := Option.some.inj hf
      exact g_iretH C E u3 dL_importShare_14 rfl rfl (Nat.le_of_ble_eq_true rfl) (Nat.le_of_ble_eq_true rfl)
    have hf := opt_neg k4 hf
    by_cases k5 : v1.1 = 3
    · have hf := opt_pos k5 hf
      have hE : gExn v1.1 = "java/util/NoSuchElementException" := by rw [k5]; rfl
      rw [hE]
      refine g_catch C ht [(0, 9, 12, 13)] [(0, 9, 18, 15)] rfl (List.forall_mem_cons.mpr ⟨Or.inr ⟨by decide, "java/lang/IndexOutOfBoundsException", mw_2_10, by decide +kernel⟩, fun _ h => nomatch h⟩) (by decide) (by decide) mw_3_26 (by decide +kernel) (fun xk5 => ?_)
      refine g_astore_n C (lv' := [(3, .ref xk5), (0, .ref (v 0)), (1, .int p1), (2, .ref o0)]) dL_importShare_15 (g_nlt hn rfl) rfl ?_
      refine g_iconst C (v := 2) dL_importShare_16 (by decide) ?_
      refine g_eqw (ws' := (wV (x_y X) v (b 0) kp ak sb v1.2.2.1 fl ln co ch gs op) ++ (wSt (x_y X) b z pr le ec wt sa ev) ++ (wSec (x_y X) c c_filled c_th c_ep c_rule c_cm v1.2.2.2.1 v1.2.2.2.2.1) ++ (wSb (x_y X) sb u3 v1.2.2.2.2.2.1 v1.2.2.2.2.2.2.1 v1.2.2.2.2.2.2.2.1 v1.2.2.2.2.2.2.2.2) ++ (wO (x_y X) o0 ot)) rfl ?_
      obtain rfl := Option.some.inj hf
      exact g_iretH C E u3 dL_importShare_17 rfl rfl (Nat.le_of_ble_eq_true rfl) (Nat.le_of_ble_eq_true rfl)
    have hf := opt_neg k5 hf
    by_cases k6 : v1.1 = 2
    · have hf := opt_pos k6 hf
      have hE : gExn v1.1 = "java/lang/IllegalArgumentException" := by rw [k6]; rfl
      rw [hE]
      refine g_catch C ht [(0, 9, 12, 13), (0, 9, 15, 34)] [] rfl (List.forall_mem_cons.mpr ⟨Or.inr ⟨by decide, "java/lang/IndexOutOfBoundsException", mw_2_10, by decide +kernel⟩, List.forall_mem_cons.mpr ⟨Or.inr ⟨by decide, "java/util/NoSuchElementException", mw_3_26, by decide +kernel⟩, fun _ h => nomatch h⟩⟩) (by decide) (by decide) mw_2_90 (by decide +kernel) (fun xk6 => ?_)
      refine g_astore_n C (lv' := [(3, .ref xk6), (0, .ref (v 0)), (1, .int p1), (2, .ref o0)]) dL_importShare_18 (g_nlt hn rfl) rfl ?_
      refine g_iconst C (v := 3) dL_importShare_19 (by decide) ?_
      refine g_eqw (ws' := (wV (x_y X) v (b 0) kp ak sb v1.2.2.1 fl ln co ch gs op) ++ (wSt (x_y X) b z pr le ec wt sa ev) ++ (wSec (x_y X) c c_filled c_th c_ep c_rule c_cm v1.2.2.2.1 v1.2.2.2.2.1) ++ (wSb (x_y X) sb u3 v1.2.2.2.2.2.1 v1.2.2.2.2.2.2.1 v1.2.2.2.2.2.2.2.1 v1.2.2.2.2.2.2.2.2) ++ (wO (x_y X) o0 ot)) rfl ?_
      obtain rfl := Option.some.inj hf
      exact g_iretH C E u3 dL_importShare_20 rfl rfl (Nat.le_of_ble_eq_true rfl) (Nat.le_of_ble_eq_true rfl)
    have hf := opt_neg k6 hf
    cases hf
  have hf := opt_pos ev1 hf
  refine g_i2l C dL_importShare_7 ?_
  obtain ⟨c7, hf⟩ := gg_of hf
  obtain ⟨f8, ef8, hf⟩ := opt_let hf
  refine g_last C (ws' := (wV (x_y X) v (b 0) kp ak sb v1.2.2.1 fl ln co ch gs op) ++ (wSt (x_y X) b z pr le ec wt sa ev) ++ (wSec (x_y X) c c_filled c_th c_ep c_rule c_cm v1.2.2.2.1 v1.2.2.2.2.1) ++ (wSb (x_y X) sb u3 v1.2.2.2.2.2.1 v1.2.2.2.2.2.2.1 v1.2.2.2.2.2.2.2.1 v1.2.2.2.2.2.2.2.2) ++ (wO (x_y X) o0 f8)) 15 rfl (gi_in c7) (by rw [ef8]; rfl) dL_importShare_8 ?_
  refine g_goto C 21 dL_importShare_9 (by decide) ?_
  refine g_iconst C (v := 0) dL_importShare_21 (by decide) ?_
  refine g_eqw (ws' := (wV (x_y X) v (b 0) kp ak sb v1.2.2.1 fl ln co ch gs op) ++ (wSt (x_y X) b z pr le ec wt sa ev) ++ (wSec (x_y X) c c_filled c_th c_ep c_rule c_cm v1.2.2.2.1 v1.2.2.2.2.1) ++ (wSb (x_y X) sb u3 v1.2.2.2.2.2.1 v1.2.2.2.2.2.2.1 v1.2.2.2.2.2.2.2.1 v1.2.2.2.2.2.2.2.2) ++ (wO (x_y X) o0 f8)) rfl ?_
  obtain rfl := Option.some.inj hf
  exact g_iretH C E u3 dL_importShare_22 rfl rfl (Nat.le_of_ble_eq_true rfl) (Nat.le_of_ble_eq_true rfl)
/-! L_bad -/
theorem hd_L_bad : yL_bad.cls ≠ "java/lang/invoke/MethodHandle" ∧ yL_bad.cls ≠ "java/lang/invoke/VarHandle" ∧ (parseMethodDescriptor yL_bad.desc).map (fun d => d.parameters.length) = some 4 := by decide +kernel
def F_L_bad (c_filled : Int32) (c_th : Int32) (c_ep : Int32) (c_cm : Nat → Int32) (c_vs : Nat → Int32) (c_es : Nat → Int32) (ot : Nat → Int64) (p1 : Int32) (p2 : Int32) : Option (Int32 × (Nat → Int64)) := (F_X10_bad c_filled c_th c_ep c_cm c_vs c_es p1 p2).bind fun v1 => if v1.1 = 0 then (gg (gi 0 1) (gl (vp_updL ot (Int32.toNatClampNeg 0) (Int32.toInt64 v1.2)) fun f6 => some (0, f6))) else (if v1.1 = 1 then (some (1, ot)) else (if v1.1 = 3 then (some (2, ot)) else (none)))
set_option maxRecDepth 100000 in
set_option maxHeartbeats 4000000 in
theorem c_L_bad {l : Launch} {D : va_G} {cy : Nat → ClassId} {v : Nat → Nat} {b : Nat → Nat} {c : Nat → Nat} {o0 : Nat} {kp : Nat} {ak : Int32} {bf : Nat} {fa : Int32} {fl : Nat} {ln : Nat} {co : Nat → Int32} {ch : Nat → Int32} {gs : Nat → Int32} {op : Nat → Int32} {z : Int32} {pr : Int32} {le : Int32} {ec : Int32} {wt : Nat → Int32} {sa : Nat → Option Nat} {ev : Nat → Int32} {c_filled : Int32} {c_th : Int32} {c_ep : Int32} {c_rule : Option Nat} {c_cm : Nat → Int32} {c_vs : Nat → Int32} {c_es : Nat → Int32} {ot : Nat → Int64} {p1 : Int32} {p2 : Int32} (hs : gi p1 4 = true → sa (Int32.toNatClampNeg p1) = some (c 0)) {val : Int32 × (Nat → Int64)} (hf : F_L_bad c_filled c_th c_ep c_cm c_vs c_es ot p1 p2 = some val) : gCtH l D cy yL_bad cL_bad 5 (some .int) [(0, 10, 13, 13), (0, 10, 17, 34)] 8 129 3 18 [.ref (v 0), .int p1, .int p2, .ref o0] [] ((wV cy v (b 0) kp ak bf fa fl ln co ch gs op) ++ (wSt cy b z pr le ec wt sa ev) ++ (wSec cy c c_filled c_th c_ep c_rule c_cm c_vs c_es) ++ (wO cy o0 ot)) (fun _ : Unit => some (.int val.1)) (fun _ => (wV cy v (b 0) kp ak bf fa fl ln co ch gs op) ++ (wSt cy b z pr le ec wt sa ev) ++ (wSec cy c c_filled c_th c_ep c_rule c_cm c_vs c_es) ++ (wO cy o0 val.2)) := by
  refine g_beginH (by decide +kernel) (Nat.le_of_ble_eq_true rfl) ?_
  intro X Q hl hR hD hy hro hn C ht E
  subst hl; subst hD; subst hy
  replace C : gC X "SecretVaultLaw" cL_bad (some .int) := C
  unfold F_L_bad at hf
  show gW X Q 0 0 ((wV (x_y X) v (b 0) kp ak bf fa fl ln co ch gs op) ++ (wSt (x_y X) b z pr le ec wt sa ev) ++ (wSec (x_y X) c c_filled c_th c_ep c_rule c_cm c_vs c_es) ++ (wO (x_y X) o0 ot)) [(0, .ref (v 0)), (1, .int p1), (2, .int p2), (3, .ref o0)] [] 0
  refine g_aload_n C 3 dL_bad_0 rfl ?_
  refine g_iconst C (v := 0) dL_bad_1 (by decide) ?_
  refine g_aload_n C 0 dL_bad_2 rfl ?_
  refine g_iload_n C 1 dL_bad_3 rfl ?_
  refine g_iload_n C 2 dL_bad_4 rfl ?_
  obtain ⟨v1, h2, hf⟩ := opt_bind hf
  refine g_callV C (c_X10_bad (l := x_l X) (D := x_D X) (cy := x_y X) (v := v) (b := b) (c := c) (kp := kp) (ak := ak) (bf := bf) (fa := fa) (fl := fl) (ln := ln) (co := co) (ch := ch) (gs := gs) (op := op) (z := z) (pr := pr) (le := le) (ec := ec) (wt := wt) (sa := sa) (ev := ev) (c_filled := c_filled) (c_th := c_th) (c_ep := c_ep) (c_rule := c_rule) (c_cm := c_cm) (c_vs := c_vs) (c_es := c_es) (p0 := p1) (p1 := p2) (hs := hs) h2) (As := [.int p1, .int p2]) (rest := [.int 0, .ref o0]) (wr := (wO (x_y X) o0 ot)) (ws' := fun _ => (wV (x_y X) v (b 0) kp ak bf fa fl ln co ch gs op) ++ (wSt (x_y X) b z pr le ec wt sa ev) ++ (wSec (x_y X) c c_filled c_th c_ep c_rule c_cm c_vs c_es) ++ (wO (x_y X) o0 ot)) (st' := fun _ => [.int v1.2, .int 0, .ref o0]) (ci := 11) 2 0 ⟨_, rfl⟩ rfl rfl mw_5_115 mw_1_1 mw_5_112 mw_5_113 mw_5_114 hd_X10_bad rfl (g_rm hR rfl rfl) [0, 1, 2, 3, 4, 5, 6, 7, 8, 9, 10, 11, 12] [13] [1, 2, 3, 4, 5, 6, 7, 8, 9, 10, 11, 12, 13, 0] ⟨rfl, rfl, rfl, rfl, by decide, gRoIn_0, rfl, fun _ => rfl⟩ rfl (Nat.le_of_ble_eq_true rfl) dL_bad_5 (g_rc hR (Nat.le_of_ble_eq_true rfl) (Nat.le_of_ble_eq_true rfl)) (ck' := 3) (sk' := 18) rfl rfl (fun _ => rfl) (fun _ ev1 => ?_) (fun _ ev1 => ?_)
  rotate_left
  · have hf := opt_neg ev1 hf
    by_cases k3 : v1.1 = 1
    · have hf := opt_pos k3 hf
      have hE : gExn v1.1 = "java/lang/IndexOutOfBoundsException" := by rw [k3]; rfl
      rw [hE]
      refine g_catch C ht [] [(0, 10, 17, 34)] rfl (fun _ h => nomatch h) (by decide) (by decide) mw_2_10 (by decide +kernel) (fun xk3 => ?_)
      refine g_astore C (lv' := [(4, .ref xk3), (0, .ref (v 0)), (1, .int p1), (2, .int p2), (3, .ref o0)]) dL_bad_13 (g_nlt hn rfl) rfl ?_
      refine g_iconst C (v := 1) dL_bad_15 (by decide) ?_
      refine g_eqw (ws' := (wV (x_y X) v (b 0) kp ak bf fa fl ln co ch gs op) ++ (wSt (x_y X) b z pr le ec wt sa ev) ++ (wSec (x_y X) c c_filled c_th c_ep c_rule c_cm c_vs c_es) ++ (wO (x_y X) o0 ot)) rfl ?_
      obtain rfl := Option.some.inj hf
      exact g_iretH C E () dL_bad_16 rfl rfl (Nat.le_of_ble_eq_true rfl) (Nat.le_of_ble_eq_true rfl)
    have hf := opt_neg k3 hf
    by_cases k4 : v1.1 = 3
    · have hf := opt_pos k4 hf
      have hE : gExn v1.1 = "java/util/NoSuchElementException" := by rw [k4]; rfl
      rw [hE]
      refine g_catch C ht [(0, 10, 13, 13)] [] rfl (List.forall_mem_cons.mpr ⟨Or.inr ⟨by decide, "java/lang/IndexOutOfBoundsException", mw_2_10, by decide +kernel⟩, fun _ h => nomatch h⟩) (by decide) (by decide) mw_3_26 (by decide +kernel) (fun xk4 => ?_)
      refine g_astore C (lv' := [(4, .ref xk4), (0, .ref (v 0)), (1, .int p1), (2, .int p2), (3, .ref o0)]) dL_bad_17 (g_nlt hn rfl) rfl ?_
      refine g_iconst C (v := 2) dL_bad_19 (by decide) ?_
      refine g_eqw (ws' := (wV (x_y X) v (b 0) kp ak bf fa fl ln co ch gs op) ++ (wSt (x_y X) b z pr le ec wt sa ev) ++ (wSec (x_y X) c c_filled c_th c_ep c_rule c_cm c_vs c_es) ++ (wO (x_y X) o0 ot)) rfl ?_
      obtain rfl := Option.some.inj hf
      exact g_iretH C E () dL_bad_20 rfl rfl (Nat.le_of_ble_eq_true rfl) (Nat.le_of_ble_eq_true rfl)
    have hf := opt_neg k4 hf
    cases hf
  have hf := opt_pos ev1 hf
  refine g_i2l C dL_bad_8 ?_
  obtain ⟨c5, hf⟩ := gg_of hf
  obtain ⟨f6, ef6, hf⟩ := opt_let hf
  refine g_last C (ws' := (wV (x_y X) v (b 0) kp ak bf fa fl ln co ch gs op) ++ (wSt (x_y X) b z pr le ec wt sa ev) ++ (wSec (x_y X) c c_filled c_th c_ep c_rule c_cm c_vs c_es) ++ (wO (x_y X) o0 f6)) 13 rfl (gi_in c5) (by rw [ef6]; rfl) dL_bad_9 ?_
  refine g_goto C 21 dL_bad_10 (by decide) ?_
  refine g_iconst C (v := 0) dL_bad_21 (by decide) ?_
  refine g_eqw (ws' := (wV (x_y X) v (b 0) kp ak bf fa fl ln co ch gs op) ++ (wSt (x_y X) b z pr le ec wt sa ev) ++ (wSec (x_y X) c c_filled c_th c_ep c_rule c_cm c_vs c_es) ++ (wO (x_y X) o0 f6)) rfl ?_
  obtain rfl := Option.some.inj hf
  exact g_iretH C E () dL_bad_22 rfl rfl (Nat.le_of_ble_eq_true rfl) (Nat.le_of_ble_eq_true rfl)
/-! L_append -/
theorem hd_L_append : yL_append.cls ≠ "java/lang/invoke/MethodHandle" ∧ yL_append.cls ≠ "java/lang/invoke/VarHandle" ∧ (parseMethodDescriptor yL_append.desc).map (fun d => d.parameters.length) = some 3 := by decide +kernel
def F_L_append (n : Int32) (cap : Nat) (bs : Nat → Int32) (ot : Nat → Int64) (p1 : Int32) : Option (Int32 × Int32 × Nat × (Nat → Int32) × (Nat → Int64)) := (F_X10_append n cap bs p1).bind fun v1 => if v1.1 = 0 then (gg (gi 0 1) (gl (vp_updL ot (Int32.toNatClampNeg 0) (Int32.toInt64 v1.2.1)) fun f7 => some (0, v1.2.2.1, v1.2.2.2.1, v1.2.2.2.2, f7))) else (if v1.1 = 2 then (some (1, v1.2.2.1, v1.2.2.2.1, v1.2.2.2.2, ot)) else (if v1.1 = 5 then (some (2, v1.2.2.1, v1.2.2.2.1, v1.2.2.2.2, ot)) else (none)))
set_option maxRecDepth 100000 in
set_option maxHeartbeats 4000000 in
theorem c_L_append {l : Launch} {D : va_G} {cy : Nat → ClassId} {v : Nat → Nat} {sb sy : Nat} {o0 : Nat} {nw : Nat} {kp : Nat} {ak : Int32} {fa : Int32} {fl : Nat} {ln : Nat} {co : Nat → Int32} {ch : Nat → Int32} {gs : Nat → Int32} {op : Nat → Int32} {ml : Int32} {n : Int32} {cap : Nat} {bs : Nat → Int32} {ot : Nat → Int64} {p1 : Int32}  {val : Int32 × Int32 × Nat × (Nat → Int32) × (Nat → Int64)} (hf : F_L_append n cap bs ot p1 = some val) : gCtH l D cy yL_append cL_append 4 (some .int) [(0, 9, 12, 15), (0, 9, 15, 28)] 7 157 9 720 [.ref (v 0), .int p1, .ref o0] [] ((wV cy v nw kp ak sb fa fl ln co ch gs op) ++ (wSb cy sb sy ml n cap bs) ++ (wO cy o0 ot)) (fun u : Nat => some (.int val.1)) (fun u => (wV cy v nw kp ak sb fa fl ln co ch gs op) ++ (wSb cy sb u ml val.2.1 val.2.2.1 val.2.2.2.1) ++ (wO cy o0 val.2.2.2.2)) := by
  refine g_beginH (by decide +kernel) (Nat.le_of_ble_eq_true rfl) ?_
  intro X Q hl hR hD hy hro hn C ht E
  subst hl; subst hD; subst hy
  replace C : gC X "SecretVaultLaw" cL_append (some .int) := C
  unfold F_L_append at hf
  show gW X Q 0 0 ((wV (x_y X) v nw kp ak sb fa fl ln co ch gs op) ++ (wSb (x_y X) sb sy ml n cap bs) ++ (wO (x_y X) o0 ot)) [(0, .ref (v 0)), (1, .int p1), (2, .ref o0)] [] 0
  refine g_aload_n C 2 dL_append_0 rfl ?_
  refine g_iconst C (v := 0) dL_append_1 (by decide) ?_
  refine g_aload_n C 0 dL_append_2 rfl ?_
  refine g_iload_n C 1 dL_append_3 rfl ?_
  obtain ⟨v1, h2, hf⟩ := opt_bind hf
  refine g_callV C (c_X10_append (l := x_l X) (D := x_D X) (cy := x_y X) (v := v) (sb := sb) (sy := sy) (nw := nw) (kp := kp) (ak := ak) (fa := fa) (fl := fl) (ln := ln) (co := co) (ch := ch) (gs := gs) (op := op) (ml := ml) (n := n) (cap := cap) (bs := bs) (p0 := p1) h2) (As := [.int p1]) (rest := [.int 0, .ref o0]) (wr := (wO (x_y X) o0 ot)) (ws' := fun u3 => (wV (x_y X) v nw kp ak sb fa fl ln co ch gs op) ++ (wSb (x_y X) sb u3 ml v1.2.2.1 v1.2.2.2.1 v1.2.2.2.2) ++ (wO (x_y X) o0 ot)) (st' := fun u3 => [.int v1.2.1, .int 0, .ref o0]) (ci := 11) 1 0 ⟨_, rfl⟩ rfl rfl mw_5_122 mw_1_1 mw_5_119 mw_5_120 mw_5_121 hd_X10_append rfl (g_rm hR rfl rfl) [0, 1, 2, 3, 4, 5, 6] [7] [1, 2, 3, 4, 5, 6, 7, 0] ⟨rfl, rfl, rfl, rfl, by decide, gRoIn_0, rfl, fun _ => rfl⟩ rfl (Nat.le_of_ble_eq_true rfl) dL_append_4 (g_rc hR (Nat.le_of_ble_eq_true rfl) (Nat.le_of_ble_eq_true rfl)) (ck' := 9) (sk' := 720) rfl rfl (fun _ => rfl) (fun u3 ev1 => ?_) (fun u3 ev1 => ?_)
  rotate_left
  · have hf := opt_neg ev1 hf
    by_cases k4 : v1.1 = 2
    · have hf := opt_pos k4 hf
      have hE : gExn v1.1 = "java/lang/IllegalArgumentException" := by rw [k4]; rfl
      rw [hE]
      refine g_catch C ht [] [(0, 9, 15, 28)] rfl (fun _ h => nomatch h) (by decide) (by decide) mw_2_90 (by decide +kernel) (fun xk4 => ?_)
      refine g_astore_n C (lv' := [(3, .ref xk4), (0, .ref (v 0)), (1, .int p1), (2, .ref o0)]) dL_append_12 (g_nlt hn rfl) rfl ?_
      refine g_iconst C (v := 1) dL_append_13 (by decide) ?_
      refine g_eqw (ws' := (wV (x_y X) v nw kp ak sb fa fl ln co ch gs op) ++ (wSb (x_y X) sb u3 ml v1.2.2.1 v1.2.2.2.1 v1.2.2.2.2) ++ (wO (x_y X) o0 ot)) rfl ?_
      obtain rfl := Option.some.inj hf
      exact g_iretH C E u3 dL_append_14 rfl rfl (Nat.le_of_ble_eq_true rfl) (Nat.le_of_ble_eq_true rfl)
    have hf := opt_neg k4 hf
    by_cases k5 : v1.1 = 5
    · have hf := opt_pos k5 hf
      have hE : gExn v1.1 = "java/lang/IllegalStateException" := by rw [k5]; rfl
      rw [hE]
      refine g_catch C ht [(0, 9, 12, 15)] [] rfl (List.forall_mem_cons.mpr ⟨Or.inr ⟨by decide, "java/lang/IllegalArgumentException", mw_2_90, by decide +kernel⟩, fun _ h => nomatch h⟩) (by decide) (by decide) mw_2_182 (by decide +kernel) (fun xk5 => ?_)
      refine g_astore_n C (lv' := [(3, .ref xk5), (0, .ref (v 0)), (1, .int p1), (2, .ref o0)]) dL_append_15 (g_nlt hn rfl) rfl ?_
      refine g_iconst C (v := 2) dL_append_16 (by decide) ?_
      refine g_eqw (ws' := (wV (x_y X) v nw kp ak sb fa fl ln co ch gs op) ++ (wSb (x_y X) sb u3 ml v1.2.2.1 v1.2.2.2.1 v1.2.2.2.2) ++ (wO (x_y X) o0 ot)) rfl ?_
      obtain rfl := Option.some.inj hf
      exact g_iretH C E u3 dL_append_17 rfl rfl (Nat.le_of_ble_eq_true rfl) (Nat.le_of_ble_eq_true rfl)
    have hf := opt_neg k5 hf
    cases hf
  have hf := opt_pos ev1 hf
  refine g_i2l C dL_append_7 ?_
  obtain ⟨c6, hf⟩ := gg_of hf
  obtain ⟨f7, ef7, hf⟩ := opt_let hf
  refine g_last C (ws' := (wV (x_y X) v nw kp ak sb fa fl ln co ch gs op) ++ (wSb (x_y X) sb u3 ml v1.2.2.1 v1.2.2.2.1 v1.2.2.2.2) ++ (wO (x_y X) o0 f7)) 7 rfl (gi_in c6) (by rw [ef7]; rfl) dL_append_8 ?_
  refine g_goto C 18 dL_append_9 (by decide) ?_
  refine g_iconst C (v := 0) dL_append_18 (by decide) ?_
  refine g_eqw (ws' := (wV (x_y X) v nw kp ak sb fa fl ln co ch gs op) ++ (wSb (x_y X) sb u3 ml v1.2.2.1 v1.2.2.2.1 v1.2.2.2.2) ++ (wO (x_y X) o0 f7)) rfl ?_
  obtain rfl := Option.some.inj hf
  exact g_iretH C E u3 dL_append_19 rfl rfl (Nat.le_of_ble_eq_true rfl) (Nat.le_of_ble_eq_true rfl)
/-! L_fulfils -/
theorem hd_L_fulfils : yL_fulfils.cls ≠ "java/lang/invoke/MethodHandle" ∧ yL_fulfils.cls ≠ "java/lang/invoke/VarHandle" ∧ (parseMethodDescriptor yL_fulfils.desc).map (fun d => d.parameters.length) = some 4 := by decide +kernel
def F_L_fulfils_L16   (ot_16 : Nat → Int64) (s0_16 : Int64) (s1_16 : Int32) : Option (Int32 × (Nat → Int64)) := gg (gi s1_16 1) (gl (vp_updL ot_16 (Int32.toNatClampNeg s1_16) s0_16) fun f8 => some (0, f8))
def F_L_fulfils (c_filled : Int32) (c_rule : Option Nat) (ot : Nat → Int64) (ful : Nat → Int32) (p1 : Int32) (p2 : Int32) : Option (Int32 × (Nat → Int64)) := (F_X10_fulfils c_filled c_rule ful p1 p2).bind fun v1 => if v1.1 = 0 then (if v1.2 = 0 then (F_L_fulfils_L16 ot 0 0) else (F_L_fulfils_L16 ot 1 0)) else (if v1.1 = 1 then (some (1, ot)) else (if v1.1 = 2 then (some (2, ot)) else (if v1.1 = 3 then (some (3, ot)) else (none))))
set_option maxRecDepth 100000 in
set_option maxHeartbeats 4000000 in
theorem c_L_fulfils {l : Launch} {D : va_G} {cy : Nat → ClassId} {v : Nat → Nat} {b : Nat → Nat} {c : Nat → Nat} {o0 : Nat} {q0 q1 t0 t1 : Nat} {kp : Nat} {ak : Int32} {bf : Nat} {fa : Int32} {fl : Nat} {ln : Nat} {co : Nat → Int32} {ch : Nat → Int32} {gs : Nat → Int32} {op : Nat → Int32} {z : Int32} {pr : Int32} {le : Int32} {ec : Int32} {wt : Nat → Int32} {sa : Nat → Option Nat} {ev : Nat → Int32} {c_filled : Int32} {c_th : Int32} {c_ep : Int32} {c_rule : Option Nat} {c_cm : Nat → Int32} {c_vs : Nat → Int32} {c_es : Nat → Int32} {ot : Nat → Int64} {pparts : Int32} {pnest : Int32} {pnamed : Int32} {ful : Nat → Int32} {hash : Int32} {hz : Int32} {tn : Nat} {tb : Nat → Int32} {p1 : Int32} {p2 : Int32} (hs : gi p1 4 = true → sa (Int32.toNatClampNeg p1) = some (c 0)) (hpol : ¬ c_rule = none → c_rule = some q0) {val : Int32 × (Nat → Int64)} (hf : F_L_fulfils c_filled c_rule ot ful p1 p2 = some val) : gCtH l D cy yL_fulfils cL_fulfils 5 (some .int) [(0, 17, 20, 13), (0, 17, 24, 15), (0, 17, 28, 34)] 8 126 3 18 [.ref (v 0), .int p1, .int p2, .ref o0] (gOpt c_rule ((wPo cy q0 q1 t0 t1 pparts pnest pnamed ful hash hz tn tb))) ((wV cy v (b 0) kp ak bf fa fl ln co ch gs op) ++ (wSt cy b z pr le ec wt sa ev) ++ (wSec cy c c_filled c_th c_ep c_rule c_cm c_vs c_es) ++ (wO cy o0 ot)) (fun _ : Unit => some (.int val.1)) (fun _ => (wV cy v (b 0) kp ak bf fa fl ln co ch gs op) ++ (wSt cy b z pr le ec wt sa ev) ++ (wSec cy c c_filled c_th c_ep c_rule c_cm c_vs c_es) ++ (wO cy o0 val.2)) := by
  refine g_beginH (by decide +kernel) (Nat.le_of_ble_eq_true rfl) ?_
  intro X Q hl hR hD hy hro hn C ht E
  subst hl; subst hD; subst hy
  replace C : gC X "SecretVaultLaw" cL_fulfils (some .int) := C
  unfold F_L_fulfils at hf
  have H16 : ∀ (ot_16 : Nat → Int64) (s0_16 : Int64) (s1_16 : Int32), F_L_fulfils_L16 ot_16 s0_16 s1_16 = some val → gW X Q 3 18 ((wV (x_y X) v (b 0) kp ak bf fa fl ln co ch gs op) ++ (wSt (x_y X) b z pr le ec wt sa ev) ++ (wSec (x_y X) c c_filled c_th c_ep c_rule c_cm c_vs c_es) ++ (wO (x_y X) o0 ot_16)) [(0, .ref (v 0)), (1, .int p1), (2, .int p2), (3, .ref o0)] [.long s0_16, .int s1_16, .ref o0] 16 := by
    intro ot_16 s0_16 s1_16 hf
    unfold F_L_fulfils_L16 at hf
    obtain ⟨c7, hf⟩ := gg_of hf
    obtain ⟨f8, ef8, hf⟩ := opt_let hf
    refine g_last C (ws' := (wV (x_y X) v (b 0) kp ak bf fa fl ln co ch gs op) ++ (wSt (x_y X) b z pr le ec wt sa ev) ++ (wSec (x_y X) c c_filled c_th c_ep c_rule c_cm c_vs c_es) ++ (wO (x_y X) o0 f8)) 13 rfl (gi_in c7) (by rw [ef8]; rfl) dL_fulfils_16 ?_
    refine g_goto C 32 dL_fulfils_17 (by decide) ?_
    refine g_iconst C (v := 0) dL_fulfils_32 (by decide) ?_
    refine g_eqw (ws' := (wV (x_y X) v (b 0) kp ak bf fa fl ln co ch gs op) ++ (wSt (x_y X) b z pr le ec wt sa ev) ++ (wSec (x_y X) c c_filled c_th c_ep c_rule c_cm c_vs c_es) ++ (wO (x_y X) o0 f8)) rfl ?_
    obtain rfl := Option.some.inj hf
    exact g_iretH C E () dL_fulfils_33 rfl rfl (Nat.le_of_ble_eq_true rfl) (Nat.le_of_ble_eq_true rfl)
  show gW X Q 0 0 ((wV (x_y X) v (b 0) kp ak bf fa fl ln co ch gs op) ++ (wSt (x_y X) b z pr le ec wt sa ev) ++ (wSec (x_y X) c c_filled c_th c_ep c_rule c_cm c_vs c_es) ++ (wO (x_y X) o0 ot)) [(0, .ref (v 0)), (1, .int p1), (2, .int p2), (3, .ref o0)] [] 0
  refine g_aload_n C 3 dL_fulfils_0 rfl ?_
  refine g_iconst C (v := 0) dL_fulfils_1 (by decide) ?_
  refine g_aload_n C 0 dL_fulfils_2 rfl ?_
  refine g_iload_n C 1 dL_fulfils_3 rfl ?_
  refine g_iload_n C 2 dL_fulfils_4 rfl ?_
  obtain ⟨v1, h2, hf⟩ := opt_bind hf
  refine g_callV C (c_X10_fulfils (l := x_l X) (D := x_D X) (cy := x_y X) (v := v) (b := b) (c := c) (q0 := q0) (q1 := q1) (t0 := t0) (t1 := t1) (kp := kp) (ak := ak) (bf := bf) (fa := fa) (fl := fl) (ln := ln) (co := co) (ch := ch) (gs := gs) (op := op) (z := z) (pr := pr) (le := le) (ec := ec) (wt := wt) (sa := sa) (ev := ev) (c_filled := c_filled) (c_th := c_th) (c_ep := c_ep) (c_rule := c_rule) (c_cm := c_cm) (c_vs := c_vs) (c_es := c_es) (pparts := pparts) (pnest := pnest) (pnamed := pnamed) (ful := ful) (hash := hash) (hz := hz) (tn := tn) (tb := tb) (p0 := p1) (p1 := p2) (hs := hs) (hpol := hpol) h2) (As := [.int p1, .int p2]) (rest := [.int 0, .ref o0]) (wr := (wO (x_y X) o0 ot)) (ws' := fun _ => (wV (x_y X) v (b 0) kp ak bf fa fl ln co ch gs op) ++ (wSt (x_y X) b z pr le ec wt sa ev) ++ (wSec (x_y X) c c_filled c_th c_ep c_rule c_cm c_vs c_es) ++ (wO (x_y X) o0 ot)) (st' := fun _ => [.int v1.2, .int 0, .ref o0]) (ci := 11) 2 0 ⟨_, rfl⟩ rfl rfl mw_6_58 mw_1_1 mw_6_55 mw_6_56 mw_6_57 hd_X10_fulfils rfl (g_rm hR rfl rfl) [0, 1, 2, 3, 4, 5, 6, 7, 8, 9, 10, 11, 12] [13] [1, 2, 3, 4, 5, 6, 7, 8, 9, 10, 11, 12, 13, 0] ⟨rfl, rfl, rfl, rfl, by decide, gRoIn_all9 14 hro rfl rfl, rfl, fun _ => rfl⟩ rfl (Nat.le_of_ble_eq_true rfl) dL_fulfils_5 (g_rc hR (Nat.le_of_ble_eq_true rfl) (Nat.le_of_ble_eq_true rfl)) (ck' := 3) (sk' := 18) rfl rfl (fun _ => rfl) (fun _ ev1 => ?_) (fun _ ev1 => ?_)
  rotate_left
  · have hf := opt_neg ev1 hf
    by_cases k3 : v1.1 = 1
    · have hf := opt_pos k3 hf
      have hE : gExn v1.1 = "java/lang/IndexOutOfBoundsException" := by rw [k3]; rfl
      rw [hE]
      refine g_catch C ht [] [(0, 17, 24, 15), (0, 17, 28, 34)] rfl (fun _ h => nomatch h) (by decide) (by decide) mw_2_10 (by decide +kernel) (fun xk3 => ?_)
      refine g_astore C (lv' := [(4, .ref xk3), (0, .ref (v 0)), (1, .int p1), (2, .int p2), (3, .ref o0)]) dL_fulfils_20 (g_nlt hn rfl) rfl ?_
      refine g_iconst C (v := 1) dL_fulfils_22 (by decide) ?_
      refine g_eqw (ws' := (wV (x_y X) v (b 0) kp ak bf fa fl ln co ch gs op) ++ (wSt (x_y X) b z pr le ec wt sa ev) ++ (wSec (x_y X) c c_filled c_th c_ep c_rule c_cm c_vs c_es) ++ (wO (x_y X) o0 ot)) rfl ?_
      obtain rfl := Option.some.inj hf
      exact g_iretH C E () dL_fulfils_23 rfl rfl (Nat.le_of_ble_eq_true rfl) (Nat.le_of_ble_eq_true rfl)
    have hf := opt_neg k3 hf
    by_cases k4 : v1.1 = 2
    · have hf := opt_pos k4 hf
      have hE : gExn v1.1 = "java/lang/IllegalArgumentException" := by rw [k4]; rfl
      rw [hE]
      refine g_catch C ht [(0, 17, 20, 13)] [(0, 17, 28, 34)] rfl (List.forall_mem_cons.mpr ⟨Or.inr ⟨by decide, "java/lang/IndexOutOfBoundsException", mw_2_10, by decide +kernel⟩, fun _ h => nomatch h⟩) (by decide) (by decide) mw_2_90 (by decide +kernel) (fun xk4 => ?_)
      refine g_astore C (lv' := [(4, .ref xk4), (0, .ref (v 0)), (1, .int p1), (2, .int p2), (3, .ref o0)]) dL_fulfils_24 (g_nlt hn rfl) rfl ?_
      refine g_iconst C (v := 2) dL_fulfils_26 (by decide) ?_
      refine g_eqw (ws' := (wV (x_y X) v (b 0) kp ak bf fa fl ln co ch gs op) ++ (wSt (x_y X) b z pr le ec wt sa ev) ++ (wSec (x_y X) c c_filled c_th c_ep c_rule c_cm c_vs c_es) ++ (wO (x_y X) o0 ot)) rfl ?_
      obtain rfl := Option.some.inj hf
      exact g_iretH C E () dL_fulfils_27 rfl rfl (Nat.le_of_ble_eq_true rfl) (Nat.le_of_ble_eq_true rfl)
    have hf := opt_neg k4 hf
    by_cases k5 : v1.1 = 3
    · have hf := opt_pos k5 hf
      have hE : gExn v1.1 = "java/util/NoSuchElementException" := by rw [k5]; rfl
      rw [hE]
      refine g_catch C ht [(0, 17, 20, 13), (0, 17, 24, 15)] [] rfl (List.forall_mem_cons.mpr ⟨Or.inr ⟨by decide, "java/lang/IndexOutOfBoundsException", mw_2_10, by decide +kernel⟩, List.forall_mem_cons.mpr ⟨Or.inr ⟨by decide, "java/lang/IllegalArgumentException", mw_2_90, by decide +kernel⟩, fun _ h => nomatch h⟩⟩) (by decide) (by decide) mw_3_26 (by decide +kernel) (fun xk5 => ?_)
      refine g_astore C (lv' := [(4, .ref xk5), (0, .ref (v 0)), (1, .int p1), (2, .int p2), (3, .ref o0)]) dL_fulfils_28 (g_nlt hn rfl) rfl ?_
      refine g_iconst C (v := 3) dL_fulfils_30 (by decide) ?_
      refine g_eqw (ws' := (wV (x_y X) v (b 0) kp ak bf fa fl ln co ch gs op) ++ (wSt (x_y X) b z pr le ec wt sa ev) ++ (wSec (x_y X) c c_filled c_th c_ep c_rule c_cm c_vs c_es) ++ (wO (x_y X) o0 ot)) rfl ?_
      obtain rfl := Option.some.inj hf
      exact g_iretH C E () dL_fulfils_31 rfl rfl (Nat.le_of_ble_eq_true rfl) (Nat.le_of_ble_eq_true rfl)
    have hf := opt_neg k5 hf
    cases hf
  have hf := opt_pos ev1 hf
  refine g_if_eq C 15 dL_fulfils_8 (by decide) (fun c6 => ?_) (fun c6 => ?_)
  · have hf := opt_pos c6 hf
    refine g_lconst C (v := 0) dL_fulfils_15 (by decide) ?_
    exact H16 ot 0 0 hf
  · have hf := opt_neg c6 hf
    refine g_lconst C (v := 1) dL_fulfils_11 (by decide) ?_
    refine g_goto C 16 dL_fulfils_12 (by decide) ?_
    exact H16 ot 1 0 hf
/-! L_policyText -/
theorem hd_L_policyText : yL_policyText.cls ≠ "java/lang/invoke/MethodHandle" ∧ yL_policyText.cls ≠ "java/lang/invoke/VarHandle" ∧ (parseMethodDescriptor yL_policyText.desc).map (fun d => d.parameters.length) = some 4 := by decide +kernel
def F_L_policyText (c_filled : Int32) (c_rule : Option Nat) (ot : Nat → Int64) (tn : Nat) (tb : Nat → Int32) (p1 : Int32) (p2 : Int32) : Option (Int32 × (Nat → Int64)) := (F_X10_policyText c_filled c_rule tn tb p1 p2).bind fun v1 => if v1.1 = 0 then (gg (gi 0 1) (gl (vp_updL ot (Int32.toNatClampNeg 0) (Int32.toInt64 v1.2)) fun f6 => some (0, f6))) else (if v1.1 = 1 then (some (1, ot)) else (if v1.1 = 3 then (some (2, ot)) else (none)))
set_option maxRecDepth 100000 in
set_option maxHeartbeats 4000000 in
theorem c_L_policyText {l : Launch} {D : va_G} {cy : Nat → ClassId} {v : Nat → Nat} {b : Nat → Nat} {c : Nat → Nat} {o0 : Nat} {q0 q1 t0 t1 : Nat} {kp : Nat} {ak : Int32} {bf : Nat} {fa : Int32} {fl : Nat} {ln : Nat} {co : Nat → Int32} {ch : Nat → Int32} {gs : Nat → Int32} {op : Nat → Int32} {z : Int32} {pr : Int32} {le : Int32} {ec : Int32} {wt : Nat → Int32} {sa : Nat → Option Nat} {ev : Nat → Int32} {c_filled : Int32} {c_th : Int32} {c_ep : Int32} {c_rule : Option Nat} {c_cm : Nat → Int32} {c_vs : Nat → Int32} {c_es : Nat → Int32} {ot : Nat → Int64} {pparts : Int32} {pnest : Int32} {pnamed : Int32} {ful : Nat → Int32} {hash : Int32} {hz : Int32} {tn : Nat} {tb : Nat → Int32} {p1 : Int32} {p2 : Int32} (hs : gi p1 4 = true → sa (Int32.toNatClampNeg p1) = some (c 0)) (hpol : ¬ c_rule = none → c_rule = some q0) {val : Int32 × (Nat → Int64)} (hf : F_L_policyText c_filled c_rule ot tn tb p1 p2 = some val) : gCtH l D cy yL_policyText cL_policyText 5 (some .int) [(0, 10, 13, 13), (0, 10, 17, 34)] 8 127 5 30 [.ref (v 0), .int p1, .int p2, .ref o0] (gOpt c_rule ((wPo cy q0 q1 t0 t1 pparts pnest pnamed ful hash hz tn tb))) ((wV cy v (b 0) kp ak bf fa fl ln co ch gs op) ++ (wSt cy b z pr le ec wt sa ev) ++ (wSec cy c c_filled c_th c_ep c_rule c_cm c_vs c_es) ++ (wO cy o0 ot)) (fun _ : Unit => some (.int val.1)) (fun _ => (wV cy v (b 0) kp ak bf fa fl ln co ch gs op) ++ (wSt cy b z pr le ec wt sa ev) ++ (wSec cy c c_filled c_th c_ep c_rule c_cm c_vs c_es) ++ (wO cy o0 val.2)) := by
  refine g_beginH (by decide +kernel) (Nat.le_of_ble_eq_true rfl) ?_
  intro X Q hl hR hD hy hro hn C ht E
  subst hl; subst hD; subst hy
  replace C : gC X "SecretVaultLaw" cL_policyText (some .int) := C
  unfold F_L_policyText at hf
  show gW X Q 0 0 ((wV (x_y X) v (b 0) kp ak bf fa fl ln co ch gs op) ++ (wSt (x_y X) b z pr le ec wt sa ev) ++ (wSec (x_y X) c c_filled c_th c_ep c_rule c_cm c_vs c_es) ++ (wO (x_y X) o0 ot)) [(0, .ref (v 0)), (1, .int p1), (2, .int p2), (3, .ref o0)] [] 0
  refine g_aload_n C 3 dL_policyText_0 rfl ?_
  refine g_iconst C (v := 0) dL_policyText_1 (by decide) ?_
  refine g_aload_n C 0 dL_policyText_2 rfl ?_
  refine g_iload_n C 1 dL_policyText_3 rfl ?_
  refine g_iload_n C 2 dL_policyText_4 rfl ?_
  obtain ⟨v1, h2, hf⟩ := opt_bind hf
  refine g_callV C (c_X10_policyText (l := x_l X) (D := x_D X) (cy := x_y X) (v := v) (b := b) (c := c) (q0 := q0) (q1 := q1) (t0 := t0) (t1 := t1) (kp := kp) (ak := ak) (bf := bf) (fa := fa) (fl := fl) (ln := ln) (co := co) (ch := ch) (gs := gs) (op := op) (z := z) (pr := pr) (le := le) (ec := ec) (wt := wt) (sa := sa) (ev := ev) (c_filled := c_filled) (c_th := c_th) (c_ep := c_ep) (c_rule := c_rule) (c_cm := c_cm) (c_vs := c_vs) (c_es := c_es) (pparts := pparts) (pnest := pnest) (pnamed := pnamed) (ful := ful) (hash := hash) (hz := hz) (tn := tn) (tb := tb) (p0 := p1) (p1 := p2) (hs := hs) (hpol := hpol) h2) (As := [.int p1, .int p2]) (rest := [.int 0, .ref o0]) (wr := (wO (x_y X) o0 ot)) (ws' := fun _ => (wV (x_y X) v (b 0) kp ak bf fa fl ln co ch gs op) ++ (wSt (x_y X) b z pr le ec wt sa ev) ++ (wSec (x_y X) c c_filled c_th c_ep c_rule c_cm c_vs c_es) ++ (wO (x_y X) o0 ot)) (st' := fun _ => [.int v1.2, .int 0, .ref o0]) (ci := 11) 2 0 ⟨_, rfl⟩ rfl rfl mw_6_65 mw_1_1 mw_6_62 mw_6_63 mw_6_64 hd_X10_policyText rfl (g_rm hR rfl rfl) [0, 1, 2, 3, 4, 5, 6, 7, 8, 9, 10, 11, 12] [13] [1, 2, 3, 4, 5, 6, 7, 8, 9, 10, 11, 12, 13, 0] ⟨rfl, rfl, rfl, rfl, by decide, gRoIn_all9 14 hro rfl rfl, rfl, fun _ => rfl⟩ rfl (Nat.le_of_ble_eq_true rfl) dL_policyText_5 (g_rc hR (Nat.le_of_ble_eq_true rfl) (Nat.le_of_ble_eq_true rfl)) (ck' := 5) (sk' := 30) rfl rfl (fun _ => rfl) (fun _ ev1 => ?_) (fun _ ev1 => ?_)
  rotate_left
  · have hf := opt_neg ev1 hf
    by_cases k3 : v1.1 = 1
    · have hf := opt_pos k3 hf
      have hE : gExn v1.1 = "java/lang/IndexOutOfBoundsException" := by rw [k3]; rfl
      rw [hE]
      refine g_catch C ht [] [(0, 10, 17, 34)] rfl (fun _ h => nomatch h) (by decide) (by decide) mw_2_10 (by decide +kernel) (fun xk3 => ?_)
      refine g_astore C (lv' := [(4, .ref xk3), (0, .ref (v 0)), (1, .int p1), (2, .int p2), (3, .ref o0)]) dL_policyText_13 (g_nlt hn rfl) rfl ?_
      refine g_iconst C (v := 1) dL_policyText_15 (by decide) ?_
      refine g_eqw (ws' := (wV (x_y X) v (b 0) kp ak bf fa fl ln co ch gs op) ++ (wSt (x_y X) b z pr le ec wt sa ev) ++ (wSec (x_y X) c c_filled c_th c_ep c_rule c_cm c_vs c_es) ++ (wO (x_y X) o0 ot)) rfl ?_
      obtain rfl := Option.some.inj hf
      exact g_iretH C E () dL_policyText_16 rfl rfl (Nat.le_of_ble_eq_true rfl) (Nat.le_of_ble_eq_true rfl)
    have hf := opt_neg k3 hf
    by_cases k4 : v1.1 = 3
    · have hf := opt_pos k4 hf
      have hE : gExn v1.1 = "java/util/NoSuchElementException" := by rw [k4]; rfl
      rw [hE]
      refine g_catch C ht [(0, 10, 13, 13)] [] rfl (List.forall_mem_cons.mpr ⟨Or.inr ⟨by decide, "java/lang/IndexOutOfBoundsException", mw_2_10, by decide +kernel⟩, fun _ h => nomatch h⟩) (by decide) (by decide) mw_3_26 (by decide +kernel) (fun xk4 => ?_)
      refine g_astore C (lv' := [(4, .ref xk4), (0, .ref (v 0)), (1, .int p1), (2, .int p2), (3, .ref o0)]) dL_policyText_17 (g_nlt hn rfl) rfl ?_
      refine g_iconst C (v := 2) dL_policyText_19 (by decide) ?_
      refine g_eqw (ws' := (wV (x_y X) v (b 0) kp ak bf fa fl ln co ch gs op) ++ (wSt (x_y X) b z pr le ec wt sa ev) ++ (wSec (x_y X) c c_filled c_th c_ep c_rule c_cm c_vs c_es) ++ (wO (x_y X) o0 ot)) rfl ?_
      obtain rfl := Option.some.inj hf
      exact g_iretH C E () dL_policyText_20 rfl rfl (Nat.le_of_ble_eq_true rfl) (Nat.le_of_ble_eq_true rfl)
    have hf := opt_neg k4 hf
    cases hf
  have hf := opt_pos ev1 hf
  refine g_i2l C dL_policyText_8 ?_
  obtain ⟨c5, hf⟩ := gg_of hf
  obtain ⟨f6, ef6, hf⟩ := opt_let hf
  refine g_last C (ws' := (wV (x_y X) v (b 0) kp ak bf fa fl ln co ch gs op) ++ (wSt (x_y X) b z pr le ec wt sa ev) ++ (wSec (x_y X) c c_filled c_th c_ep c_rule c_cm c_vs c_es) ++ (wO (x_y X) o0 f6)) 13 rfl (gi_in c5) (by rw [ef6]; rfl) dL_policyText_9 ?_
  refine g_goto C 21 dL_policyText_10 (by decide) ?_
  refine g_iconst C (v := 0) dL_policyText_21 (by decide) ?_
  refine g_eqw (ws' := (wV (x_y X) v (b 0) kp ak bf fa fl ln co ch gs op) ++ (wSt (x_y X) b z pr le ec wt sa ev) ++ (wSec (x_y X) c c_filled c_th c_ep c_rule c_cm c_vs c_es) ++ (wO (x_y X) o0 f6)) rfl ?_
  obtain rfl := Option.some.inj hf
  exact g_iretH C E () dL_policyText_22 rfl rfl (Nat.le_of_ble_eq_true rfl) (Nat.le_of_ble_eq_true rfl)
/-! L_policy -/
theorem hd_L_policy : yL_policy.cls ≠ "java/lang/invoke/MethodHandle" ∧ yL_policy.cls ≠ "java/lang/invoke/VarHandle" ∧ (parseMethodDescriptor yL_policy.desc).map (fun d => d.parameters.length) = some 4 := by decide +kernel
def F_L_policy (c_filled : Int32) (c_rule : Option Nat) (ot : Nat → Int64) (pparts : Int32) (pnest : Int32) (pnamed : Int32) (p1 : Int32) (p2 : Int32) : Option (Int32 × (Nat → Int64)) := (F_X10_policy c_filled c_rule pparts pnest pnamed p1 p2).bind fun v1 => if v1.1 = 0 then (gg (gi 0 1) (gl (vp_updL ot (Int32.toNatClampNeg 0) (Int32.toInt64 v1.2)) fun f7 => some (0, f7))) else (if v1.1 = 1 then (some (1, ot)) else (if v1.1 = 2 then (some (2, ot)) else (if v1.1 = 3 then (some (3, ot)) else (none))))
set_option maxRecDepth 100000 in
set_option maxHeartbeats 4000000 in
theorem c_L_policy {l : Launch} {D : va_G} {cy : Nat → ClassId} {v : Nat → Nat} {b : Nat → Nat} {c : Nat → Nat} {o0 : Nat} {q0 q1 t0 t1 : Nat} {kp : Nat} {ak : Int32} {bf : Nat} {fa : Int32} {fl : Nat} {ln : Nat} {co : Nat → Int32} {ch : Nat → Int32} {gs : Nat → Int32} {op : Nat → Int32} {z : Int32} {pr : Int32} {le : Int32} {ec : Int32} {wt : Nat → Int32} {sa : Nat → Option Nat} {ev : Nat → Int32} {c_filled : Int32} {c_th : Int32} {c_ep : Int32} {c_rule : Option Nat} {c_cm : Nat → Int32} {c_vs : Nat → Int32} {c_es : Nat → Int32} {ot : Nat → Int64} {pparts : Int32} {pnest : Int32} {pnamed : Int32} {ful : Nat → Int32} {hash : Int32} {hz : Int32} {tn : Nat} {tb : Nat → Int32} {p1 : Int32} {p2 : Int32} (hs : gi p1 4 = true → sa (Int32.toNatClampNeg p1) = some (c 0)) (hpol : ¬ c_rule = none → c_rule = some q0) {val : Int32 × (Nat → Int64)} (hf : F_L_policy c_filled c_rule ot pparts pnest pnamed p1 p2 = some val) : gCtH l D cy yL_policy cL_policy 5 (some .int) [(0, 10, 13, 13), (0, 10, 17, 15), (0, 10, 21, 34)] 8 127 4 24 [.ref (v 0), .int p1, .int p2, .ref o0] (gOpt c_rule ((wPo cy q0 q1 t0 t1 pparts pnest pnamed ful hash hz tn tb))) ((wV cy v (b 0) kp ak bf fa fl ln co ch gs op) ++ (wSt cy b z pr le ec wt sa ev) ++ (wSec cy c c_filled c_th c_ep c_rule c_cm c_vs c_es) ++ (wO cy o0 ot)) (fun _ : Unit => some (.int val.1)) (fun _ => (wV cy v (b 0) kp ak bf fa fl ln co ch gs op) ++ (wSt cy b z pr le ec wt sa ev) ++ (wSec cy c c_filled c_th c_ep c_rule c_cm c_vs c_es) ++ (wO cy o0 val.2)) := by
  refine g_beginH (by decide +kernel) (Nat.le_of_ble_eq_true rfl) ?_
  intro X Q hl hR hD hy hro hn C ht E
  subst hl; subst hD; subst hy
  replace C : gC X "SecretVaultLaw" cL_policy (some .int) := C
  unfold F_L_policy at hf
  show gW X Q 0 0 ((wV (x_y X) v (b 0) kp ak bf fa fl ln co ch gs op) ++ (wSt (x_y X) b z pr le ec wt sa ev) ++ (wSec (x_y X) c c_filled c_th c_ep c_rule c_cm c_vs c_es) ++ (wO (x_y X) o0 ot)) [(0, .ref (v 0)), (1, .int p1), (2, .int p2), (3, .ref o0)] [] 0
  refine g_aload_n C 3 dL_policy_0 rfl ?_
  refine g_iconst C (v := 0) dL_policy_1 (by decide) ?_
  refine g_aload_n C 0 dL_policy_2 rfl ?_
  refine g_iload_n C 1 dL_policy_3 rfl ?_
  refine g_iload_n C 2 dL_policy_4 rfl ?_
  obtain ⟨v1, h2, hf⟩ := opt_bind hf
  refine g_callV C (c_X10_policy (l := x_l X) (D := x_D X) (cy := x_y X) (v := v) (b := b) (c := c) (q0 := q0) (q1 := q1) (t0 := t0) (t1 := t1) (kp := kp) (ak := ak) (bf := bf) (fa := fa) (fl := fl) (ln := ln) (co := co) (ch := ch) (gs := gs) (op := op) (z := z) (pr := pr) (le := le) (ec := ec) (wt := wt) (sa := sa) (ev := ev) (c_filled := c_filled) (c_th := c_th) (c_ep := c_ep) (c_rule := c_rule) (c_cm := c_cm) (c_vs := c_vs) (c_es := c_es) (pparts := pparts) (pnest := pnest) (pnamed := pnamed) (ful := ful) (hash := hash) (hz := hz) (tn := tn) (tb := tb) (p0 := p1) (p1 := p2) (hs := hs) (hpol := hpol) h2) (As := [.int p1, .int p2]) (rest := [.int 0, .ref o0]) (wr := (wO (x_y X) o0 ot)) (ws' := fun _ => (wV (x_y X) v (b 0) kp ak bf fa fl ln co ch gs op) ++ (wSt (x_y X) b z pr le ec wt sa ev) ++ (wSec (x_y X) c c_filled c_th c_ep c_rule c_cm c_vs c_es) ++ (wO (x_y X) o0 ot)) (st' := fun _ => [.int v1.2, .int 0, .ref o0]) (ci := 11) 2 0 ⟨_, rfl⟩ rfl rfl mw_6_79 mw_1_1 mw_6_76 mw_6_77 mw_6_78 hd_X10_policy rfl (g_rm hR rfl rfl) [0, 1, 2, 3, 4, 5, 6, 7, 8, 9, 10, 11, 12] [13] [1, 2, 3, 4, 5, 6, 7, 8, 9, 10, 11, 12, 13, 0] ⟨rfl, rfl, rfl, rfl, by decide, gRoIn_all9 14 hro rfl rfl, rfl, fun _ => rfl⟩ rfl (Nat.le_of_ble_eq_true rfl) dL_policy_5 (g_rc hR (Nat.le_of_ble_eq_true rfl) (Nat.le_of_ble_eq_true rfl)) (ck' := 4) (sk' := 24) rfl rfl (fun _ => rfl) (fun _ ev1 => ?_) (fun _ ev1 => ?_)
  rotate_left
  · have hf := opt_neg ev1 hf
    by_cases k3 : v1.1 = 1
    · have hf := opt_pos k3 hf
      have hE : gExn v1.1 = "java/lang/IndexOutOfBoundsException" := by rw [k3]; rfl
      rw [hE]
      refine g_catch C ht [] [(0, 10, 17, 15), (0, 10, 21, 34)] rfl (fun _ h => nomatch h) (by decide) (by decide) mw_2_10 (by decide +kernel) (fun xk3 => ?_)
      refine g_astore C (lv' := [(4, .ref xk3), (0, .ref (v 0)), (1, .int p1), (2, .int p2), (3, .ref o0)]) dL_policy_13 (g_nlt hn rfl) rfl ?_
      refine g_iconst C (v := 1) dL_policy_15 (by decide) ?_
      refine g_eqw (ws' := (wV (x_y X) v (b 0) kp ak bf fa fl ln co ch gs op) ++ (wSt (x_y X) b z pr le ec wt sa ev) ++ (wSec (x_y X) c c_filled c_th c_ep c_rule c_cm c_vs c_es) ++ (wO (x_y X) o0 ot)) rfl ?_
      obtain rfl := Option.some.inj hf
      exact g_iretH C E () dL_policy_16 rfl rfl (Nat.le_of_ble_eq_true rfl) (Nat.le_of_ble_eq_true rfl)
    have hf := opt_neg k3 hf
    by_cases k4 : v1.1 = 2
    · have hf := opt_pos k4 hf
      have hE : gExn v1.1 = "java/lang/IllegalArgumentException" := by rw [k4]; rfl
      rw [hE]
      refine g_catch C ht [(0, 10, 13, 13)] [(0, 10, 21, 34)] rfl (List.forall_mem_cons.mpr ⟨Or.inr ⟨by decide, "java/lang/IndexOutOfBoundsException", mw_2_10, by decide +kernel⟩, fun _ h => nomatch h⟩) (by decide) (by decide) mw_2_90 (by decide +kernel) (fun xk4 => ?_)
      refine g_astore C (lv' := [(4, .ref xk4), (0, .ref (v 0)), (1, .int p1), (2, .int p2), (3, .ref o0)]) dL_policy_17 (g_nlt hn rfl) rfl ?_
      refine g_iconst C (v := 2) dL_policy_19 (by decide) ?_
      refine g_eqw (ws' := (wV (x_y X) v (b 0) kp ak bf fa fl ln co ch gs op) ++ (wSt (x_y X) b z pr le ec wt sa ev) ++ (wSec (x_y X) c c_filled c_th c_ep c_rule c_cm c_vs c_es) ++ (wO (x_y X) o0 ot)) rfl ?_
      obtain rfl := Option.some.inj hf
      exact g_iretH C E () dL_policy_20 rfl rfl (Nat.le_of_ble_eq_true rfl) (Nat.le_of_ble_eq_true rfl)
    have hf := opt_neg k4 hf
    by_cases k5 : v1.1 = 3
    · have hf := opt_pos k5 hf
      have hE : gExn v1.1 = "java/util/NoSuchElementException" := by rw [k5]; rfl
      rw [hE]
      refine g_catch C ht [(0, 10, 13, 13), (0, 10, 17, 15)] [] rfl (List.forall_mem_cons.mpr ⟨Or.inr ⟨by decide, "java/lang/IndexOutOfBoundsException", mw_2_10, by decide +kernel⟩, List.forall_mem_cons.mpr ⟨Or.inr ⟨by decide, "java/lang/IllegalArgumentException", mw_2_90, by decide +kernel⟩, fun _ h => nomatch h⟩⟩) (by decide) (by decide) mw_3_26 (by decide +kernel) (fun xk5 => ?_)
      refine g_astore C (lv' := [(4, .ref xk5), (0, .ref (v 0)), (1, .int p1), (2, .int p2), (3, .ref o0)]) dL_policy_21 (g_nlt hn rfl) rfl ?_
      refine g_iconst C (v := 3) dL_policy_23 (by decide) ?_
      refine g_eqw (ws' := (wV (x_y X) v (b 0) kp ak bf fa fl ln co ch gs op) ++ (wSt (x_y X) b z pr le ec wt sa ev) ++ (wSec (x_y X) c c_filled c_th c_ep c_rule c_cm c_vs c_es) ++ (wO (x_y X) o0 ot)) rfl ?_
      obtain rfl := Option.some.inj hf
      exact g_iretH C E () dL_policy_24 rfl rfl (Nat.le_of_ble_eq_true rfl) (Nat.le_of_ble_eq_true rfl)
    have hf := opt_neg k5 hf
    cases hf
  have hf := opt_pos ev1 hf
  refine g_i2l C dL_policy_8 ?_
  obtain ⟨c6, hf⟩ := gg_of hf
  obtain ⟨f7, ef7, hf⟩ := opt_let hf
  refine g_last C (ws' := (wV (x_y X) v (b 0) kp ak bf fa fl ln co ch gs op) ++ (wSt (x_y X) b z pr le ec wt sa ev) ++ (wSec (x_y X) c c_filled c_th c_ep c_rule c_cm c_vs c_es) ++ (wO (x_y X) o0 f7)) 13 rfl (gi_in c6) (by rw [ef7]; rfl) dL_policy_9 ?_
  refine g_goto C 25 dL_policy_10 (by decide) ?_
  refine g_iconst C (v := 0) dL_policy_25 (by decide) ?_
  refine g_eqw (ws' := (wV (x_y X) v (b 0) kp ak bf fa fl ln co ch gs op) ++ (wSt (x_y X) b z pr le ec wt sa ev) ++ (wSec (x_y X) c c_filled c_th c_ep c_rule c_cm c_vs c_es) ++ (wO (x_y X) o0 f7)) rfl ?_
  obtain rfl := Option.some.inj hf
  exact g_iretH C E () dL_policy_26 rfl rfl (Nat.le_of_ble_eq_true rfl) (Nat.le_of_ble_eq_true rfl)
/-! L_groups -/
theorem hd_L_groups : yL_groups.cls ≠ "java/lang/invoke/MethodHandle" ∧ yL_groups.cls ≠ "java/lang/invoke/VarHandle" ∧ (parseMethodDescriptor yL_groups.desc).map (fun d => d.parameters.length) = some 3 := by decide +kernel
def F_L_groups (gs : Nat → Int32) (op : Nat → Int32) (pr : Int32) (c_filled : Int32) (c_th : Int32) (c_ep : Int32) (c_rule : Option Nat) (c_cm : Nat → Int32) (c_vs : Nat → Int32) (c_es : Nat → Int32) (ot : Nat → Int64) (ful : Nat → Int32) (p1 : Int32) : Option (Int32 × (Nat → Int32) × (Nat → Int32) × (Nat → Int64)) := (F_X10_groups gs op pr c_filled c_th c_ep c_rule c_cm c_vs c_es ful p1).bind fun v1 => if v1.1 = 0 then (gg (gi 0 1) (gl (vp_updL ot (Int32.toNatClampNeg 0) (Int32.toInt64 v1.2.1)) fun f6 => some (0, v1.2.2.1, v1.2.2.2, f6))) else (if v1.1 = 1 then (some (1, v1.2.2.1, v1.2.2.2, ot)) else (if v1.1 = 3 then (some (2, v1.2.2.1, v1.2.2.2, ot)) else (none)))
set_option maxRecDepth 100000 in
set_option maxHeartbeats 4000000 in
theorem c_L_groups {l : Launch} {D : va_G} {cy : Nat → ClassId} {v : Nat → Nat} {b : Nat → Nat} {c : Nat → Nat} {o0 : Nat} {q0 q1 t0 t1 : Nat} {kp : Nat} {ak : Int32} {bf : Nat} {fa : Int32} {fl : Nat} {ln : Nat} {co : Nat → Int32} {ch : Nat → Int32} {gs : Nat → Int32} {op : Nat → Int32} {z : Int32} {pr : Int32} {le : Int32} {ec : Int32} {wt : Nat → Int32} {sa : Nat → Option Nat} {ev : Nat → Int32} {c_filled : Int32} {c_th : Int32} {c_ep : Int32} {c_rule : Option Nat} {c_cm : Nat → Int32} {c_vs : Nat → Int32} {c_es : Nat → Int32} {ot : Nat → Int64} {pparts : Int32} {pnest : Int32} {pnamed : Int32} {ful : Nat → Int32} {hash : Int32} {hz : Int32} {tn : Nat} {tb : Nat → Int32} {p1 : Int32} (hs : gi p1 4 = true → sa (Int32.toNatClampNeg p1) = some (c 0)) (hpol : ¬ c_rule = none → c_rule = some q0) {val : Int32 × (Nat → Int32) × (Nat → Int32) × (Nat → Int64)} (hf : F_L_groups gs op pr c_filled c_th c_ep c_rule c_cm c_vs c_es ot ful p1 = some val) : gCtH l D cy yL_groups cL_groups 4 (some .int) [(0, 9, 12, 13), (0, 9, 15, 34)] 8 137 2 12 [.ref (v 0), .int p1, .ref o0] (gOpt c_rule ((wPo cy q0 q1 t0 t1 pparts pnest pnamed ful hash hz tn tb))) ((wV cy v (b 0) kp ak bf fa fl ln co ch gs op) ++ (wSt cy b z pr le ec wt sa ev) ++ (wSec cy c c_filled c_th c_ep c_rule c_cm c_vs c_es) ++ (wO cy o0 ot)) (fun _ : Unit => some (.int val.1)) (fun _ => (wV cy v (b 0) kp ak bf fa fl ln co ch val.2.1 val.2.2.1) ++ (wSt cy b z pr le ec wt sa ev) ++ (wSec cy c c_filled c_th c_ep c_rule c_cm c_vs c_es) ++ (wO cy o0 val.2.2.2)) := by
  refine g_beginH (by decide +kernel) (Nat.le_of_ble_eq_true rfl) ?_
  intro X Q hl hR hD hy hro hn C ht E
  subst hl; subst hD; subst hy
  replace C : gC X "SecretVaultLaw" cL_groups (some .int) := C
  unfold F_L_groups at hf
  show gW X Q 0 0 ((wV (x_y X) v (b 0) kp ak bf fa fl ln co ch gs op) ++ (wSt (x_y X) b z pr le ec wt sa ev) ++ (wSec (x_y X) c c_filled c_th c_ep c_rule c_cm c_vs c_es) ++ (wO (x_y X) o0 ot)) [(0, .ref (v 0)), (1, .int p1), (2, .ref o0)] [] 0
  refine g_aload_n C 2 dL_groups_0 rfl ?_
  refine g_iconst C (v := 0) dL_groups_1 (by decide) ?_
  refine g_aload_n C 0 dL_groups_2 rfl ?_
  refine g_iload_n C 1 dL_groups_3 rfl ?_
  obtain ⟨v1, h2, hf⟩ := opt_bind hf
  refine g_callV C (c_X10_groups (l := x_l X) (D := x_D X) (cy := x_y X) (v := v) (b := b) (c := c) (q0 := q0) (q1 := q1) (t0 := t0) (t1 := t1) (kp := kp) (ak := ak) (bf := bf) (fa := fa) (fl := fl) (ln := ln) (co := co) (ch := ch) (gs := gs) (op := op) (z := z) (pr := pr) (le := le) (ec := ec) (wt := wt) (sa := sa) (ev := ev) (c_filled := c_filled) (c_th := c_th) (c_ep := c_ep) (c_rule := c_rule) (c_cm := c_cm) (c_vs := c_vs) (c_es := c_es) (pparts := pparts) (pnest := pnest) (pnamed := pnamed) (ful := ful) (hash := hash) (hz := hz) (tn := tn) (tb := tb) (p0 := p1) (hs := hs) (hpol := hpol) h2) (As := [.int p1]) (rest := [.int 0, .ref o0]) (wr := (wO (x_y X) o0 ot)) (ws' := fun _ => (wV (x_y X) v (b 0) kp ak bf fa fl ln co ch v1.2.2.1 v1.2.2.2) ++ (wSt (x_y X) b z pr le ec wt sa ev) ++ (wSec (x_y X) c c_filled c_th c_ep c_rule c_cm c_vs c_es) ++ (wO (x_y X) o0 ot)) (st' := fun _ => [.int v1.2.1, .int 0, .ref o0]) (ci := 11) 1 0 ⟨_, rfl⟩ rfl rfl mw_6_86 mw_1_1 mw_6_83 mw_6_84 mw_6_85 hd_X10_groups rfl (g_rm hR rfl rfl) [0, 1, 2, 3, 4, 5, 6, 7, 8, 9, 10, 11, 12] [13] [1, 2, 3, 4, 5, 6, 7, 8, 9, 10, 11, 12, 13, 0] ⟨rfl, rfl, rfl, rfl, by decide, gRoIn_all9 14 hro rfl rfl, rfl, fun _ => rfl⟩ rfl (Nat.le_of_ble_eq_true rfl) dL_groups_4 (g_rc hR (Nat.le_of_ble_eq_true rfl) (Nat.le_of_ble_eq_true rfl)) (ck' := 2) (sk' := 12) rfl rfl (fun _ => rfl) (fun _ ev1 => ?_) (fun _ ev1 => ?_)
  rotate_left
  · have hf := opt_neg ev1 hf
    by_cases k3 : v1.1 = 1
    · have hf := opt_pos k3 hf
      have hE : gExn v1.1 = "java/lang/IndexOutOfBoundsException" := by rw [k3]; rfl
      rw [hE]
      refine g_catch C ht [] [(0, 9, 15, 34)] rfl (fun _ h => nomatch h) (by decide) (by decide) mw_2_10 (by decide +kernel) (fun xk3 => ?_)
      refine g_astore_n C (lv' := [(3, .ref xk3), (0, .ref (v 0)), (1, .int p1), (2, .ref o0)]) dL_groups_12 (g_nlt hn rfl) rfl ?_
      refine g_iconst C (v := 1) dL_groups_13 (by decide) ?_
      refine g_eqw (ws' := (wV (x_y X) v (b 0) kp ak bf fa fl ln co ch v1.2.2.1 v1.2.2.2) ++ (wSt (x_y X) b z pr le ec wt sa ev) ++ (wSec (x_y X) c c_filled c_th c_ep c_rule c_cm c_vs c_es) ++ (wO (x_y X) o0 ot)) rfl ?_
      obtain rfl := Option.some.inj hf
      exact g_iretH C E () dL_groups_14 rfl rfl (Nat.le_of_ble_eq_true rfl) (Nat.le_of_ble_eq_true rfl)
    have hf := opt_neg k3 hf
    by_cases k4 : v1.1 = 3
    · have hf := opt_pos k4 hf
      have hE : gExn v1.1 = "java/util/NoSuchElementException" := by rw [k4]; rfl
      rw [hE]
      refine g_catch C ht [(0, 9, 12, 13)] [] rfl (List.forall_mem_cons.mpr ⟨Or.inr ⟨by decide, "java/lang/IndexOutOfBoundsException", mw_2_10, by decide +kernel⟩, fun _ h => nomatch h⟩) (by decide) (by decide) mw_3_26 (by decide +kernel) (fun xk4 => ?_)
      refine g_astore_n C (lv' := [(3, .ref xk4), (0, .ref (v 0)), (1, .int p1), (2, .ref o0)]) dL_groups_15 (g_nlt hn rfl) rfl ?_
      refine g_iconst C (v := 2) dL_groups_16 (by decide) ?_
      refine g_eqw (ws' := (wV (x_y X) v (b 0) kp ak bf fa fl ln co ch v1.2.2.1 v1.2.2.2) ++ (wSt (x_y X) b z pr le ec wt sa ev) ++ (wSec (x_y X) c c_filled c_th c_ep c_rule c_cm c_vs c_es) ++ (wO (x_y X) o0 ot)) rfl ?_
      obtain rfl := Option.some.inj hf
      exact g_iretH C E () dL_groups_17 rfl rfl (Nat.le_of_ble_eq_true rfl) (Nat.le_of_ble_eq_true rfl)
    have hf := opt_neg k4 hf
    cases hf
  have hf := opt_pos ev1 hf
  refine g_i2l C dL_groups_7 ?_
  obtain ⟨c5, hf⟩ := gg_of hf
  obtain ⟨f6, ef6, hf⟩ := opt_let hf
  refine g_last C (ws' := (wV (x_y X) v (b 0) kp ak bf fa fl ln co ch v1.2.2.1 v1.2.2.2) ++ (wSt (x_y X) b z pr le ec wt sa ev) ++ (wSec (x_y X) c c_filled c_th c_ep c_rule c_cm c_vs c_es) ++ (wO (x_y X) o0 f6)) 13 rfl (gi_in c5) (by rw [ef6]; rfl) dL_groups_8 ?_
  refine g_goto C 18 dL_groups_9 (by decide) ?_
  refine g_iconst C (v := 0) dL_groups_18 (by decide) ?_
  refine g_eqw (ws' := (wV (x_y X) v (b 0) kp ak bf fa fl ln co ch v1.2.2.1 v1.2.2.2) ++ (wSt (x_y X) b z pr le ec wt sa ev) ++ (wSec (x_y X) c c_filled c_th c_ep c_rule c_cm c_vs c_es) ++ (wO (x_y X) o0 f6)) rfl ?_
  obtain rfl := Option.some.inj hf
  exact g_iretH C E () dL_groups_19 rfl rfl (Nat.le_of_ble_eq_true rfl) (Nat.le_of_ble_eq_true rfl)
/-! L_smallest -/
theorem hd_L_smallest : yL_smallest.cls ≠ "java/lang/invoke/MethodHandle" ∧ yL_smallest.cls ≠ "java/lang/invoke/VarHandle" ∧ (parseMethodDescriptor yL_smallest.desc).map (fun d => d.parameters.length) = some 4 := by decide +kernel
def F_L_smallest (gs : Nat → Int32) (op : Nat → Int32) (pr : Int32) (c_filled : Int32) (c_th : Int32) (c_ep : Int32) (c_rule : Option Nat) (c_cm : Nat → Int32) (c_vs : Nat → Int32) (c_es : Nat → Int32) (ot : Nat → Int64) (ful : Nat → Int32) (p1 : Int32) (p2 : Int32) : Option (Int32 × (Nat → Int32) × (Nat → Int32) × (Nat → Int64)) := (F_X10_smallest gs op pr c_filled c_th c_ep c_rule c_cm c_vs c_es ful p1 p2).bind fun v1 => if v1.1 = 0 then (gg (gi 0 1) (gl (vp_updL ot (Int32.toNatClampNeg 0) (Int32.toInt64 v1.2.1)) fun f6 => some (0, v1.2.2.1, v1.2.2.2, f6))) else (if v1.1 = 1 then (some (1, v1.2.2.1, v1.2.2.2, ot)) else (if v1.1 = 3 then (some (2, v1.2.2.1, v1.2.2.2, ot)) else (none)))
set_option maxRecDepth 100000 in
set_option maxHeartbeats 4000000 in
theorem c_L_smallest {l : Launch} {D : va_G} {cy : Nat → ClassId} {v : Nat → Nat} {b : Nat → Nat} {c : Nat → Nat} {o0 : Nat} {q0 q1 t0 t1 : Nat} {kp : Nat} {ak : Int32} {bf : Nat} {fa : Int32} {fl : Nat} {ln : Nat} {co : Nat → Int32} {ch : Nat → Int32} {gs : Nat → Int32} {op : Nat → Int32} {z : Int32} {pr : Int32} {le : Int32} {ec : Int32} {wt : Nat → Int32} {sa : Nat → Option Nat} {ev : Nat → Int32} {c_filled : Int32} {c_th : Int32} {c_ep : Int32} {c_rule : Option Nat} {c_cm : Nat → Int32} {c_vs : Nat → Int32} {c_es : Nat → Int32} {ot : Nat → Int64} {pparts : Int32} {pnest : Int32} {pnamed : Int32} {ful : Nat → Int32} {hash : Int32} {hz : Int32} {tn : Nat} {tb : Nat → Int32} {p1 : Int32} {p2 : Int32} (hs : gi p1 4 = true → sa (Int32.toNatClampNeg p1) = some (c 0)) (hpol : ¬ c_rule = none → c_rule = some q0) {val : Int32 × (Nat → Int32) × (Nat → Int32) × (Nat → Int64)} (hf : F_L_smallest gs op pr c_filled c_th c_ep c_rule c_cm c_vs c_es ot ful p1 p2 = some val) : gCtH l D cy yL_smallest cL_smallest 5 (some .int) [(0, 10, 13, 13), (0, 10, 17, 34)] 8 138 3 18 [.ref (v 0), .int p1, .int p2, .ref o0] (gOpt c_rule ((wPo cy q0 q1 t0 t1 pparts pnest pnamed ful hash hz tn tb))) ((wV cy v (b 0) kp ak bf fa fl ln co ch gs op) ++ (wSt cy b z pr le ec wt sa ev) ++ (wSec cy c c_filled c_th c_ep c_rule c_cm c_vs c_es) ++ (wO cy o0 ot)) (fun _ : Unit => some (.int val.1)) (fun _ => (wV cy v (b 0) kp ak bf fa fl ln co ch val.2.1 val.2.2.1) ++ (wSt cy b z pr le ec wt sa ev) ++ (wSec cy c c_filled c_th c_ep c_rule c_cm c_vs c_es) ++ (wO cy o0 val.2.2.2)) := by
  refine g_beginH (by decide +kernel) (Nat.le_of_ble_eq_true rfl) ?_
  intro X Q hl hR hD hy hro hn C ht E
  subst hl; subst hD; subst hy
  replace C : gC X "SecretVaultLaw" cL_smallest (some .int) := C
  unfold F_L_smallest at hf
  show gW X Q 0 0 ((wV (x_y X) v (b 0) kp ak bf fa fl ln co ch gs op) ++ (wSt (x_y X) b z pr le ec wt sa ev) ++ (wSec (x_y X) c c_filled c_th c_ep c_rule c_cm c_vs c_es) ++ (wO (x_y X) o0 ot)) [(0, .ref (v 0)), (1, .int p1), (2, .int p2), (3, .ref o0)] [] 0
  refine g_aload_n C 3 dL_smallest_0 rfl ?_
  refine g_iconst C (v := 0) dL_smallest_1 (by decide) ?_
  refine g_aload_n C 0 dL_smallest_2 rfl ?_
  refine g_iload_n C 1 dL_smallest_3 rfl ?_
  refine g_iload_n C 2 dL_smallest_4 rfl ?_
  obtain ⟨v1, h2, hf⟩ := opt_bind hf
  refine g_callV C (c_X10_smallest (l := x_l X) (D := x_D X) (cy := x_y X) (v := v) (b := b) (c := c) (q0 := q0) (q1 := q1) (t0 := t0) (t1 := t1) (kp := kp) (ak := ak) (bf := bf) (fa := fa) (fl := fl) (ln := ln) (co := co) (ch := ch) (gs := gs) (op := op) (z := z) (pr := pr) (le := le) (ec := ec) (wt := wt) (sa := sa) (ev := ev) (c_filled := c_filled) (c_th := c_th) (c_ep := c_ep) (c_rule := c_rule) (c_cm := c_cm) (c_vs := c_vs) (c_es := c_es) (pparts := pparts) (pnest := pnest) (pnamed := pnamed) (ful := ful) (hash := hash) (hz := hz) (tn := tn) (tb := tb) (p0 := p1) (p1 := p2) (hs := hs) (hpol := hpol) h2) (As := [.int p1, .int p2]) (rest := [.int 0, .ref o0]) (wr := (wO (x_y X) o0 ot)) (ws' := fun _ => (wV (x_y X) v (b 0) kp ak bf fa fl ln co ch v1.2.2.1 v1.2.2.2) ++ (wSt (x_y X) b z pr le ec wt sa ev) ++ (wSec (x_y X) c c_filled c_th c_ep c_rule c_cm c_vs c_es) ++ (wO (x_y X) o0 ot)) (st' := fun _ => [.int v1.2.1, .int 0, .ref o0]) (ci := 11) 2 0 ⟨_, rfl⟩ rfl rfl mw_6_101 mw_1_1 mw_6_98 mw_6_99 mw_6_100 hd_X10_smallest rfl (g_rm hR rfl rfl) [0, 1, 2, 3, 4, 5, 6, 7, 8, 9, 10, 11, 12] [13] [1, 2, 3, 4, 5, 6, 7, 8, 9, 10, 11, 12, 13, 0] ⟨rfl, rfl, rfl, rfl, by decide, gRoIn_all9 14 hro rfl rfl, rfl, fun _ => rfl⟩ rfl (Nat.le_of_ble_eq_true rfl) dL_smallest_5 (g_rc hR (Nat.le_of_ble_eq_true rfl) (Nat.le_of_ble_eq_true rfl)) (ck' := 3) (sk' := 18) rfl rfl (fun _ => rfl) (fun _ ev1 => ?_) (fun _ ev1 => ?_)
  rotate_left
  · have hf := opt_neg ev1 hf
    by_cases k3 : v1.1 = 1
    · have hf := opt_pos k3 hf
      have hE : gExn v1.1 = "java/lang/IndexOutOfBoundsException" := by rw [k3]; rfl
      rw [hE]
      refine g_catch C ht [] [(0, 10, 17, 34)] rfl (fun _ h => nomatch h) (by decide) (by decide) mw_2_10 (by decide +kernel) (fun xk3 => ?_)
      refine g_astore C (lv' := [(4, .ref xk3), (0, .ref (v 0)), (1, .int p1), (2, .int p2), (3, .ref o0)]) dL_smallest_13 (g_nlt hn rfl) rfl ?_
      refine g_iconst C (v := 1) dL_smallest_15 (by decide) ?_
      refine g_eqw (ws' := (wV (x_y X) v (b 0) kp ak bf fa fl ln co ch v1.2.2.1 v1.2.2.2) ++ (wSt (x_y X) b z pr le ec wt sa ev) ++ (wSec (x_y X) c c_filled c_th c_ep c_rule c_cm c_vs c_es) ++ (wO (x_y X) o0 ot)) rfl ?_
      obtain rfl := Option.some.inj hf
      exact g_iretH C E () dL_smallest_16 rfl rfl (Nat.le_of_ble_eq_true rfl) (Nat.le_of_ble_eq_true rfl)
    have hf := opt_neg k3 hf
    by_cases k4 : v1.1 = 3
    · have hf := opt_pos k4 hf
      have hE : gExn v1.1 = "java/util/NoSuchElementException" := by rw [k4]; rfl
      rw [hE]
      refine g_catch C ht [(0, 10, 13, 13)] [] rfl (List.forall_mem_cons.mpr ⟨Or.inr ⟨by decide, "java/lang/IndexOutOfBoundsException", mw_2_10, by decide +kernel⟩, fun _ h => nomatch h⟩) (by decide) (by decide) mw_3_26 (by decide +kernel) (fun xk4 => ?_)
      refine g_astore C (lv' := [(4, .ref xk4), (0, .ref (v 0)), (1, .int p1), (2, .int p2), (3, .ref o0)]) dL_smallest_17 (g_nlt hn rfl) rfl ?_
      refine g_iconst C (v := 2) dL_smallest_19 (by decide) ?_
      refine g_eqw (ws' := (wV (x_y X) v (b 0) kp ak bf fa fl ln co ch v1.2.2.1 v1.2.2.2) ++ (wSt (x_y X) b z pr le ec wt sa ev) ++ (wSec (x_y X) c c_filled c_th c_ep c_rule c_cm c_vs c_es) ++ (wO (x_y X) o0 ot)) rfl ?_
      obtain rfl := Option.some.inj hf
      exact g_iretH C E () dL_smallest_20 rfl rfl (Nat.le_of_ble_eq_true rfl) (Nat.le_of_ble_eq_true rfl)
    have hf := opt_neg k4 hf
    cases hf
  have hf := opt_pos ev1 hf
  refine g_i2l C dL_smallest_8 ?_
  obtain ⟨c5, hf⟩ := gg_of hf
  obtain ⟨f6, ef6, hf⟩ := opt_let hf
  refine g_last C (ws' := (wV (x_y X) v (b 0) kp ak bf fa fl ln co ch v1.2.2.1 v1.2.2.2) ++ (wSt (x_y X) b z pr le ec wt sa ev) ++ (wSec (x_y X) c c_filled c_th c_ep c_rule c_cm c_vs c_es) ++ (wO (x_y X) o0 f6)) 13 rfl (gi_in c5) (by rw [ef6]; rfl) dL_smallest_9 ?_
  refine g_goto C 21 dL_smallest_10 (by decide) ?_
  refine g_iconst C (v := 0) dL_smallest_21 (by decide) ?_
  refine g_eqw (ws' := (wV (x_y X) v (b 0) kp ak bf fa fl ln co ch v1.2.2.1 v1.2.2.2) ++ (wSt (x_y X) b z pr le ec wt sa ev) ++ (wSec (x_y X) c c_filled c_th c_ep c_rule c_cm c_vs c_es) ++ (wO (x_y X) o0 f6)) rfl ?_
  obtain rfl := Option.some.inj hf
  exact g_iretH C E () dL_smallest_22 rfl rfl (Nat.le_of_ble_eq_true rfl) (Nat.le_of_ble_eq_true rfl)
/-! L_powerBits -/
theorem hd_L_powerBits : yL_powerBits.cls ≠ "java/lang/invoke/MethodHandle" ∧ yL_powerBits.cls ≠ "java/lang/invoke/VarHandle" ∧ (parseMethodDescriptor yL_powerBits.desc).map (fun d => d.parameters.length) = some 4 := by decide +kernel
def F_L_powerBits (gs : Nat → Int32) (op : Nat → Int32) (pr : Int32) (c_filled : Int32) (c_th : Int32) (c_ep : Int32) (c_rule : Option Nat) (c_cm : Nat → Int32) (c_vs : Nat → Int32) (c_es : Nat → Int32) (ot : Nat → Int64) (ful : Nat → Int32) (p1 : Int32) (p2 : Int32) : Option (Int32 × (Nat → Int32) × (Nat → Int32) × (Nat → Int64)) := (F_X10_powerBits gs op pr c_filled c_th c_ep c_rule c_cm c_vs c_es ful p1 p2).bind fun v1 => if v1.1 = 0 then (gg (gi 0 1) (gl (vp_updL ot (Int32.toNatClampNeg 0) v1.2.1) fun f6 => some (0, v1.2.2.1, v1.2.2.2, f6))) else (if v1.1 = 1 then (some (1, v1.2.2.1, v1.2.2.2, ot)) else (if v1.1 = 3 then (some (2, v1.2.2.1, v1.2.2.2, ot)) else (none)))
set_option maxRecDepth 100000 in
set_option maxHeartbeats 4000000 in
theorem c_L_powerBits {l : Launch} {D : va_G} {cy : Nat → ClassId} {v : Nat → Nat} {b : Nat → Nat} {c : Nat → Nat} {o0 : Nat} {q0 q1 t0 t1 : Nat} {kp : Nat} {ak : Int32} {bf : Nat} {fa : Int32} {fl : Nat} {ln : Nat} {co : Nat → Int32} {ch : Nat → Int32} {gs : Nat → Int32} {op : Nat → Int32} {z : Int32} {pr : Int32} {le : Int32} {ec : Int32} {wt : Nat → Int32} {sa : Nat → Option Nat} {ev : Nat → Int32} {c_filled : Int32} {c_th : Int32} {c_ep : Int32} {c_rule : Option Nat} {c_cm : Nat → Int32} {c_vs : Nat → Int32} {c_es : Nat → Int32} {ot : Nat → Int64} {pparts : Int32} {pnest : Int32} {pnamed : Int32} {ful : Nat → Int32} {hash : Int32} {hz : Int32} {tn : Nat} {tb : Nat → Int32} {p1 : Int32} {p2 : Int32} (hs : gi p1 4 = true → sa (Int32.toNatClampNeg p1) = some (c 0)) (hpol : ¬ c_rule = none → c_rule = some q0) {val : Int32 × (Nat → Int32) × (Nat → Int32) × (Nat → Int64)} (hf : F_L_powerBits gs op pr c_filled c_th c_ep c_rule c_cm c_vs c_es ot ful p1 p2 = some val) : gCtH l D cy yL_powerBits cL_powerBits 5 (some .int) [(0, 9, 12, 13), (0, 9, 16, 34)] 8 138 3 18 [.ref (v 0), .int p1, .int p2, .ref o0] (gOpt c_rule ((wPo cy q0 q1 t0 t1 pparts pnest pnamed ful hash hz tn tb))) ((wV cy v (b 0) kp ak bf fa fl ln co ch gs op) ++ (wSt cy b z pr le ec wt sa ev) ++ (wSec cy c c_filled c_th c_ep c_rule c_cm c_vs c_es) ++ (wO cy o0 ot)) (fun _ : Unit => some (.int val.1)) (fun _ => (wV cy v (b 0) kp ak bf fa fl ln co ch val.2.1 val.2.2.1) ++ (wSt cy b z pr le ec wt sa ev) ++ (wSec cy c c_filled c_th c_ep c_rule c_cm c_vs c_es) ++ (wO cy o0 val.2.2.2)) := by
  refine g_beginH (by decide +kernel) (Nat.le_of_ble_eq_true rfl) ?_
  intro X Q hl hR hD hy hro hn C ht E
  subst hl; subst hD; subst hy
  replace C : gC X "SecretVaultLaw" cL_powerBits (some .int) := C
  unfold F_L_powerBits at hf
  show gW X Q 0 0 ((wV (x_y X) v (b 0) kp ak bf fa fl ln co ch gs op) ++ (wSt (x_y X) b z pr le ec wt sa ev) ++ (wSec (x_y X) c c_filled c_th c_ep c_rule c_cm c_vs c_es) ++ (wO (x_y X) o0 ot)) [(0, .ref (v 0)), (1, .int p1), (2, .int p2), (3, .ref o0)] [] 0
  refine g_aload_n C 3 dL_powerBits_0 rfl ?_
  refine g_iconst C (v := 0) dL_powerBits_1 (by decide) ?_
  refine g_aload_n C 0 dL_powerBits_2 rfl ?_
  refine g_iload_n C 1 dL_powerBits_3 rfl ?_
  refine g_iload_n C 2 dL_powerBits_4 rfl ?_
  obtain ⟨v1, h2, hf⟩ := opt_bind hf
  refine g_callV C (c_X10_powerBits (l := x_l X) (D := x_D X) (cy := x_y X) (v := v) (b := b) (c := c) (q0 := q0) (q1 := q1) (t0 := t0) (t1 := t1) (kp := kp) (ak := ak) (bf := bf) (fa := fa) (fl := fl) (ln := ln) (co := co) (ch := ch) (gs := gs) (op := op) (z := z) (pr := pr) (le := le) (ec := ec) (wt := wt) (sa := sa) (ev := ev) (c_filled := c_filled) (c_th := c_th) (c_ep := c_ep) (c_rule := c_rule) (c_cm := c_cm) (c_vs := c_vs) (c_es := c_es) (pparts := pparts) (pnest := pnest) (pnamed := pnamed) (ful := ful) (hash := hash) (hz := hz) (tn := tn) (tb := tb) (p0 := p1) (p1 := p2) (hs := hs) (hpol := hpol) h2) (As := [.int p1, .int p2]) (rest := [.int 0, .ref o0]) (wr := (wO (x_y X) o0 ot)) (ws' := fun _ => (wV (x_y X) v (b 0) kp ak bf fa fl ln co ch v1.2.2.1 v1.2.2.2) ++ (wSt (x_y X) b z pr le ec wt sa ev) ++ (wSec (x_y X) c c_filled c_th c_ep c_rule c_cm c_vs c_es) ++ (wO (x_y X) o0 ot)) (st' := fun _ => [.long v1.2.1, .int 0, .ref o0]) (ci := 11) 2 0 ⟨_, rfl⟩ rfl rfl mw_6_117 mw_1_1 mw_6_114 mw_6_115 mw_6_116 hd_X10_powerBits rfl (g_rm hR rfl rfl) [0, 1, 2, 3, 4, 5, 6, 7, 8, 9, 10, 11, 12] [13] [1, 2, 3, 4, 5, 6, 7, 8, 9, 10, 11, 12, 13, 0] ⟨rfl, rfl, rfl, rfl, by decide, gRoIn_all9 14 hro rfl rfl, rfl, fun _ => rfl⟩ rfl (Nat.le_of_ble_eq_true rfl) dL_powerBits_5 (g_rc hR (Nat.le_of_ble_eq_true rfl) (Nat.le_of_ble_eq_true rfl)) (ck' := 3) (sk' := 18) rfl rfl (fun _ => rfl) (fun _ ev1 => ?_) (fun _ ev1 => ?_)
  rotate_left
  · have hf := opt_neg ev1 hf
    by_cases k3 : v1.1 = 1
    · have hf := opt_pos k3 hf
      have hE : gExn v1.1 = "java/lang/IndexOutOfBoundsException" := by rw [k3]; rfl
      rw [hE]
      refine g_catch C ht [] [(0, 9, 16, 34)] rfl (fun _ h => nomatch h) (by decide) (by decide) mw_2_10 (by decide +kernel) (fun xk3 => ?_)
      refine g_astore C (lv' := [(4, .ref xk3), (0, .ref (v 0)), (1, .int p1), (2, .int p2), (3, .ref o0)]) dL_powerBits_12 (g_nlt hn rfl) rfl ?_
      refine g_iconst C (v := 1) dL_powerBits_14 (by decide) ?_
      refine g_eqw (ws' := (wV (x_y X) v (b 0) kp ak bf fa fl ln co ch v1.2.2.1 v1.2.2.2) ++ (wSt (x_y X) b z pr le ec wt sa ev) ++ (wSec (x_y X) c c_filled c_th c_ep c_rule c_cm c_vs c_es) ++ (wO (x_y X) o0 ot)) rfl ?_
      obtain rfl := Option.some.inj hf
      exact g_iretH C E () dL_powerBits_15 rfl rfl (Nat.le_of_ble_eq_true rfl) (Nat.le_of_ble_eq_true rfl)
    have hf := opt_neg k3 hf
    by_cases k4 : v1.1 = 3
    · have hf := opt_pos k4 hf
      have hE : gExn v1.1 = "java/util/NoSuchElementException" := by rw [k4]; rfl
      rw [hE]
      refine g_catch C ht [(0, 9, 12, 13)] [] rfl (List.forall_mem_cons.mpr ⟨Or.inr ⟨by decide, "java/lang/IndexOutOfBoundsException", mw_2_10, by decide +kernel⟩, fun _ h => nomatch h⟩) (by decide) (by decide) mw_3_26 (by decide +kernel) (fun xk4 => ?_)
      refine g_astore C (lv' := [(4, .ref xk4), (0, .ref (v 0)), (1, .int p1), (2, .int p2), (3, .ref o0)]) dL_powerBits_16 (g_nlt hn rfl) rfl ?_
      refine g_iconst C (v := 2) dL_powerBits_18 (by decide) ?_
      refine g_eqw (ws' := (wV (x_y X) v (b 0) kp ak bf fa fl ln co ch v1.2.2.1 v1.2.2.2) ++ (wSt (x_y X) b z pr le ec wt sa ev) ++ (wSec (x_y X) c c_filled c_th c_ep c_rule c_cm c_vs c_es) ++ (wO (x_y X) o0 ot)) rfl ?_
      obtain rfl := Option.some.inj hf
      exact g_iretH C E () dL_powerBits_19 rfl rfl (Nat.le_of_ble_eq_true rfl) (Nat.le_of_ble_eq_true rfl)
    have hf := opt_neg k4 hf
    cases hf
  have hf := opt_pos ev1 hf
  obtain ⟨c5, hf⟩ := gg_of hf
  obtain ⟨f6, ef6, hf⟩ := opt_let hf
  refine g_last C (ws' := (wV (x_y X) v (b 0) kp ak bf fa fl ln co ch v1.2.2.1 v1.2.2.2) ++ (wSt (x_y X) b z pr le ec wt sa ev) ++ (wSec (x_y X) c c_filled c_th c_ep c_rule c_cm c_vs c_es) ++ (wO (x_y X) o0 f6)) 13 rfl (gi_in c5) (by rw [ef6]; rfl) dL_powerBits_8 ?_
  refine g_goto C 20 dL_powerBits_9 (by decide) ?_
  refine g_iconst C (v := 0) dL_powerBits_20 (by decide) ?_
  refine g_eqw (ws' := (wV (x_y X) v (b 0) kp ak bf fa fl ln co ch v1.2.2.1 v1.2.2.2) ++ (wSt (x_y X) b z pr le ec wt sa ev) ++ (wSec (x_y X) c c_filled c_th c_ep c_rule c_cm c_vs c_es) ++ (wO (x_y X) o0 f6)) rfl ?_
  obtain rfl := Option.some.inj hf
  exact g_iretH C E () dL_powerBits_21 rfl rfl (Nat.le_of_ble_eq_true rfl) (Nat.le_of_ble_eq_true rfl)
/-! L_healthBits -/
theorem hd_L_healthBits : yL_healthBits.cls ≠ "java/lang/invoke/MethodHandle" ∧ yL_healthBits.cls ≠ "java/lang/invoke/VarHandle" ∧ (parseMethodDescriptor yL_healthBits.desc).map (fun d => d.parameters.length) = some 3 := by decide +kernel
def F_L_healthBits (c_filled : Int32) (c_th : Int32) (c_ep : Int32) (c_cm : Nat → Int32) (c_vs : Nat → Int32) (c_es : Nat → Int32) (ot : Nat → Int64) (p1 : Int32) : Option (Int32 × (Nat → Int64)) := (F_X10_healthBits c_filled c_th c_ep c_cm c_vs c_es p1).bind fun v1 => if v1.1 = 0 then (gg (gi 0 1) (gl (vp_updL ot (Int32.toNatClampNeg 0) (Int32.toInt64 v1.2)) fun f7 => some (0, f7))) else (if v1.1 = 1 then (some (1, ot)) else (if v1.1 = 3 then (some (2, ot)) else (if v1.1 = 6 then (some (3, ot)) else (none))))
set_option maxRecDepth 100000 in
set_option maxHeartbeats 4000000 in
theorem c_L_healthBits {l : Launch} {D : va_G} {cy : Nat → ClassId} {v : Nat → Nat} {b : Nat → Nat} {c : Nat → Nat} {o0 : Nat} {kp : Nat} {ak : Int32} {bf : Nat} {fa : Int32} {fl : Nat} {ln : Nat} {co : Nat → Int32} {ch : Nat → Int32} {gs : Nat → Int32} {op : Nat → Int32} {z : Int32} {pr : Int32} {le : Int32} {ec : Int32} {wt : Nat → Int32} {sa : Nat → Option Nat} {ev : Nat → Int32} {c_filled : Int32} {c_th : Int32} {c_ep : Int32} {c_rule : Option Nat} {c_cm : Nat → Int32} {c_vs : Nat → Int32} {c_es : Nat → Int32} {ot : Nat → Int64} {p1 : Int32} (hs : gi p1 4 = true → sa (Int32.toNatClampNeg p1) = some (c 0)) {val : Int32 × (Nat → Int64)} (hf : F_L_healthBits c_filled c_th c_ep c_cm c_vs c_es ot p1 = some val) : gCtH l D cy yL_healthBits cL_healthBits 4 (some .int) [(0, 9, 12, 13), (0, 9, 15, 34), (0, 9, 18, 110)] 8 127 3 18 [.ref (v 0), .int p1, .ref o0] [] ((wV cy v (b 0) kp ak bf fa fl ln co ch gs op) ++ (wSt cy b z pr le ec wt sa ev) ++ (wSec cy c c_filled c_th c_ep c_rule c_cm c_vs c_es) ++ (wO cy o0 ot)) (fun _ : Unit => some (.int val.1)) (fun _ => (wV cy v (b 0) kp ak bf fa fl ln co ch gs op) ++ (wSt cy b z pr le ec wt sa ev) ++ (wSec cy c c_filled c_th c_ep c_rule c_cm c_vs c_es) ++ (wO cy o0 val.2)) := by
  refine g_beginH (by decide +kernel) (Nat.le_of_ble_eq_true rfl) ?_
  intro X Q hl hR hD hy hro hn C ht E
  subst hl; subst hD; subst hy
  replace C : gC X "SecretVaultLaw" cL_healthBits (some .int) := C
  unfold F_L_healthBits at hf
  show gW X Q 0 0 ((wV (x_y X) v (b 0) kp ak bf fa fl ln co ch gs op) ++ (wSt (x_y X) b z pr le ec wt sa ev) ++ (wSec (x_y X) c c_filled c_th c_ep c_rule c_cm c_vs c_es) ++ (wO (x_y X) o0 ot)) [(0, .ref (v 0)), (1, .int p1), (2, .ref o0)] [] 0
  refine g_aload_n C 2 dL_healthBits_0 rfl ?_
  refine g_iconst C (v := 0) dL_healthBits_1 (by decide) ?_
  refine g_aload_n C 0 dL_healthBits_2 rfl ?_
  refine g_iload_n C 1 dL_healthBits_3 rfl ?_
  obtain ⟨v1, h2, hf⟩ := opt_bind hf
  refine g_callV C (c_X10_healthBits (l := x_l X) (D := x_D X) (cy := x_y X) (v := v) (b := b) (c := c) (kp := kp) (ak := ak) (bf := bf) (fa := fa) (fl := fl) (ln := ln) (co := co) (ch := ch) (gs := gs) (op := op) (z := z) (pr := pr) (le := le) (ec := ec) (wt := wt) (sa := sa) (ev := ev) (c_filled := c_filled) (c_th := c_th) (c_ep := c_ep) (c_rule := c_rule) (c_cm := c_cm) (c_vs := c_vs) (c_es := c_es) (p0 := p1) (hs := hs) h2) (As := [.int p1]) (rest := [.int 0, .ref o0]) (wr := (wO (x_y X) o0 ot)) (ws' := fun _ => (wV (x_y X) v (b 0) kp ak bf fa fl ln co ch gs op) ++ (wSt (x_y X) b z pr le ec wt sa ev) ++ (wSec (x_y X) c c_filled c_th c_ep c_rule c_cm c_vs c_es) ++ (wO (x_y X) o0 ot)) (st' := fun _ => [.int v1.2, .int 0, .ref o0]) (ci := 11) 1 0 ⟨_, rfl⟩ rfl rfl mw_6_145 mw_1_1 mw_6_142 mw_6_143 mw_6_144 hd_X10_healthBits rfl (g_rm hR rfl rfl) [0, 1, 2, 3, 4, 5, 6, 7, 8, 9, 10, 11, 12] [13] [1, 2, 3, 4, 5, 6, 7, 8, 9, 10, 11, 12, 13, 0] ⟨rfl, rfl, rfl, rfl, by decide, gRoIn_0, rfl, fun _ => rfl⟩ rfl (Nat.le_of_ble_eq_true rfl) dL_healthBits_4 (g_rc hR (Nat.le_of_ble_eq_true rfl) (Nat.le_of_ble_eq_true rfl)) (ck' := 3) (sk' := 18) rfl rfl (fun _ => rfl) (fun _ ev1 => ?_) (fun _ ev1 => ?_)
  rotate_left
  · have hf := opt_neg ev1 hf
    by_cases k3 : v1.1 = 1
    · have hf := opt_pos k3 hf
      have hE : gExn v1.1 = "java/lang/IndexOutOfBoundsException" := by rw [k3]; rfl
      rw [hE]
      refine g_catch C ht [] [(0, 9, 15, 34), (0, 9, 18, 110)] rfl (fun _ h => nomatch h) (by decide) (by decide) mw_2_10 (by decide +kernel) (fun xk3 => ?_)
      refine g_astore_n C (lv' := [(3, .ref xk3), (0, .ref (v 0)), (1, .int p1), (2, .ref o0)]) dL_healthBits_12 (g_nlt hn rfl) rfl ?_
      refine g_iconst C (v := 1) dL_healthBits_13 (by decide) ?_
      refine g_eqw (ws' := (wV (x_y X) v (b 0) kp ak bf fa fl ln co ch gs op) ++ (wSt (x_y X) b z pr le ec wt sa ev) ++ (wSec (x_y X) c c_filled c_th c_ep c_rule c_cm c_vs c_es) ++ (wO (x_y X) o0 ot)) rfl ?_
      obtain rfl := Option.some.inj hf
      exact g_iretH C E () dL_healthBits_14 rfl rfl (Nat.le_of_ble_eq_true rfl) (Nat.le_of_ble_eq_true rfl)
    have hf := opt_neg k3 hf
    by_cases k4 : v1.1 = 3
    · have hf := opt_pos k4 hf
      have hE : gExn v1.1 = "java/util/NoSuchElementException" := by rw [k4]; rfl
      rw [hE]
      refine g_catch C ht [(0, 9, 12, 13)] [(0, 9, 18, 110)] rfl (List.forall_mem_cons.mpr ⟨Or.inr ⟨by decide, "java/lang/IndexOutOfBoundsException", mw_2_10, by decide +kernel⟩, fun _ h => nomatch h⟩) (by decide) (by decide) mw_3_26 (by decide +kernel) (fun xk4 => ?_)
      refine g_astore_n C (lv' := [(3, .ref xk4), (0, .ref (v 0)), (1, .int p1), (2, .ref o0)]) dL_healthBits_15 (g_nlt hn rfl) rfl ?_
      refine g_iconst C (v := 2) dL_healthBits_16 (by decide) ?_
      refine g_eqw (ws' := (wV (x_y X) v (b 0) kp ak bf fa fl ln co ch gs op) ++ (wSt (x_y X) b z pr le ec wt sa ev) ++ (wSec (x_y X) c c_filled c_th c_ep c_rule c_cm c_vs c_es) ++ (wO (x_y X) o0 ot)) rfl ?_
      obtain rfl := Option.some.inj hf
      exact g_iretH C E () dL_healthBits_17 rfl rfl (Nat.le_of_ble_eq_true rfl) (Nat.le_of_ble_eq_true rfl)
    have hf := opt_neg k4 hf
    by_cases k5 : v1.1 = 6
    · have hf := opt_pos k5 hf
      have hE : gExn v1.1 = "java/lang/ArithmeticException" := by rw [k5]; rfl
      rw [hE]
      refine g_catch C ht [(0, 9, 12, 13), (0, 9, 15, 34)] [] rfl (List.forall_mem_cons.mpr ⟨Or.inr ⟨by decide, "java/lang/IndexOutOfBoundsException", mw_2_10, by decide +kernel⟩, List.forall_mem_cons.mpr ⟨Or.inr ⟨by decide, "java/util/NoSuchElementException", mw_3_26, by decide +kernel⟩, fun _ h => nomatch h⟩⟩) (by decide) (by decide) mw_6_128 (by decide +kernel) (fun xk5 => ?_)
      refine g_astore_n C (lv' := [(3, .ref xk5), (0, .ref (v 0)), (1, .int p1), (2, .ref o0)]) dL_healthBits_18 (g_nlt hn rfl) rfl ?_
      refine g_iconst C (v := 3) dL_healthBits_19 (by decide) ?_
      refine g_eqw (ws' := (wV (x_y X) v (b 0) kp ak bf fa fl ln co ch gs op) ++ (wSt (x_y X) b z pr le ec wt sa ev) ++ (wSec (x_y X) c c_filled c_th c_ep c_rule c_cm c_vs c_es) ++ (wO (x_y X) o0 ot)) rfl ?_
      obtain rfl := Option.some.inj hf
      exact g_iretH C E () dL_healthBits_20 rfl rfl (Nat.le_of_ble_eq_true rfl) (Nat.le_of_ble_eq_true rfl)
    have hf := opt_neg k5 hf
    cases hf
  have hf := opt_pos ev1 hf
  refine g_i2l C dL_healthBits_7 ?_
  obtain ⟨c6, hf⟩ := gg_of hf
  obtain ⟨f7, ef7, hf⟩ := opt_let hf
  refine g_last C (ws' := (wV (x_y X) v (b 0) kp ak bf fa fl ln co ch gs op) ++ (wSt (x_y X) b z pr le ec wt sa ev) ++ (wSec (x_y X) c c_filled c_th c_ep c_rule c_cm c_vs c_es) ++ (wO (x_y X) o0 f7)) 13 rfl (gi_in c6) (by rw [ef7]; rfl) dL_healthBits_8 ?_
  refine g_goto C 21 dL_healthBits_9 (by decide) ?_
  refine g_iconst C (v := 0) dL_healthBits_21 (by decide) ?_
  refine g_eqw (ws' := (wV (x_y X) v (b 0) kp ak bf fa fl ln co ch gs op) ++ (wSt (x_y X) b z pr le ec wt sa ev) ++ (wSec (x_y X) c c_filled c_th c_ep c_rule c_cm c_vs c_es) ++ (wO (x_y X) o0 f7)) rfl ?_
  obtain rfl := Option.some.inj hf
  exact g_iretH C E () dL_healthBits_22 rfl rfl (Nat.le_of_ble_eq_true rfl) (Nat.le_of_ble_eq_true rfl)
/-! L_report -/
theorem hd_L_report : yL_report.cls ≠ "java/lang/invoke/MethodHandle" ∧ yL_report.cls ≠ "java/lang/invoke/VarHandle" ∧ (parseMethodDescriptor yL_report.desc).map (fun d => d.parameters.length) = some 4 := by decide +kernel
def F_L_report (rs : Int32) (rc : Nat → Int32) (rd : Nat → Int32) (ot : Nat → Int64) (p1 : Int32) (p2 : Int32) : Option (Int32 × (Nat → Int64)) := (F_X10_report rs rc rd p1 p2).bind fun v1 => if v1.1 = 0 then (gg (gi 0 1) (gl (vp_updL ot (Int32.toNatClampNeg 0) (Int32.toInt64 v1.2)) fun f6 => some (0, f6))) else (if v1.1 = 3 then (some (1, ot)) else (if v1.1 = 2 then (some (2, ot)) else (none)))
set_option maxRecDepth 100000 in
set_option maxHeartbeats 4000000 in
theorem c_L_report {l : Launch} {D : va_G} {cy : Nat → ClassId} {v : Nat → Nat} {r : Nat → Nat} {o0 : Nat} {nw : Nat} {kp : Nat} {ak : Int32} {bf : Nat} {fa : Int32} {ln : Nat} {co : Nat → Int32} {ch : Nat → Int32} {gs : Nat → Int32} {op : Nat → Int32} {rs : Int32} {rc : Nat → Int32} {rd : Nat → Int32} {ot : Nat → Int64} {p1 : Int32} {p2 : Int32}  {val : Int32 × (Nat → Int64)} (hf : F_L_report rs rc rd ot p1 p2 = some val) : gCtH l D cy yL_report cL_report 5 (some .int) [(0, 10, 13, 34), (0, 10, 17, 15)] 8 125 1 6 [.ref (v 0), .int p1, .int p2, .ref o0] [] ((wV cy v nw kp ak bf fa (r 0) ln co ch gs op) ++ (wRep cy r rs rc rd) ++ (wO cy o0 ot)) (fun _ : Unit => some (.int val.1)) (fun _ => (wV cy v nw kp ak bf fa (r 0) ln co ch gs op) ++ (wRep cy r rs rc rd) ++ (wO cy o0 val.2)) := by
  refine g_beginH (by decide +kernel) (Nat.le_of_ble_eq_true rfl) ?_
  intro X Q hl hR hD hy hro hn C ht E
  subst hl; subst hD; subst hy
  replace C : gC X "SecretVaultLaw" cL_report (some .int) := C
  unfold F_L_report at hf
  show gW X Q 0 0 ((wV (x_y X) v nw kp ak bf fa (r 0) ln co ch gs op) ++ (wRep (x_y X) r rs rc rd) ++ (wO (x_y X) o0 ot)) [(0, .ref (v 0)), (1, .int p1), (2, .int p2), (3, .ref o0)] [] 0
  refine g_aload_n C 3 dL_report_0 rfl ?_
  refine g_iconst C (v := 0) dL_report_1 (by decide) ?_
  refine g_aload_n C 0 dL_report_2 rfl ?_
  refine g_iload_n C 1 dL_report_3 rfl ?_
  refine g_iload_n C 2 dL_report_4 rfl ?_
  obtain ⟨v1, h2, hf⟩ := opt_bind hf
  refine g_callV C (c_X10_report (l := x_l X) (D := x_D X) (cy := x_y X) (v := v) (r := r) (nw := nw) (kp := kp) (ak := ak) (bf := bf) (fa := fa) (ln := ln) (co := co) (ch := ch) (gs := gs) (op := op) (rs := rs) (rc := rc) (rd := rd) (p0 := p1) (p1 := p2) h2) (As := [.int p1, .int p2]) (rest := [.int 0, .ref o0]) (wr := (wO (x_y X) o0 ot)) (ws' := fun _ => (wV (x_y X) v nw kp ak bf fa (r 0) ln co ch gs op) ++ (wRep (x_y X) r rs rc rd) ++ (wO (x_y X) o0 ot)) (st' := fun _ => [.int v1.2, .int 0, .ref o0]) (ci := 11) 2 0 ⟨_, rfl⟩ rfl rfl mw_6_160 mw_1_1 mw_6_157 mw_6_158 mw_6_159 hd_X10_report rfl (g_rm hR rfl rfl) [0, 1, 2, 3, 4, 5, 6, 7] [8] [1, 2, 3, 4, 5, 6, 7, 8, 0] ⟨rfl, rfl, rfl, rfl, by decide, gRoIn_0, rfl, fun _ => rfl⟩ rfl (Nat.le_of_ble_eq_true rfl) dL_report_5 (g_rc hR (Nat.le_of_ble_eq_true rfl) (Nat.le_of_ble_eq_true rfl)) (ck' := 1) (sk' := 6) rfl rfl (fun _ => rfl) (fun _ ev1 => ?_) (fun _ ev1 => ?_)
  rotate_left
  · have hf := opt_neg ev1 hf
    by_cases k3 : v1.1 = 3
    · have hf := opt_pos k3 hf
      have hE : gExn v1.1 = "java/util/NoSuchElementException" := by rw [k3]; rfl
      rw [hE]
      refine g_catch C ht [] [(0, 10, 17, 15)] rfl (fun _ h => nomatch h) (by decide) (by decide) mw_3_26 (by decide +kernel) (fun xk3 => ?_)
      refine g_astore C (lv' := [(4, .ref xk3), (0, .ref (v 0)), (1, .int p1), (2, .int p2), (3, .ref o0)]) dL_report_13 (g_nlt hn rfl) rfl ?_
      refine g_iconst C (v := 1) dL_report_15 (by decide) ?_
      refine g_eqw (ws' := (wV (x_y X) v nw kp ak bf fa (r 0) ln co ch gs op) ++ (wRep (x_y X) r rs rc rd) ++ (wO (x_y X) o0 ot)) rfl ?_
      obtain rfl := Option.some.inj hf
      exact g_iretH C E () dL_report_16 rfl rfl (Nat.le_of_ble_eq_true rfl) (Nat.le_of_ble_eq_true rfl)
    have hf := opt_neg k3 hf
    by_cases k4 : v1.1 = 2
    · have hf := opt_pos k4 hf
      have hE : gExn v1.1 = "java/lang/IllegalArgumentException" := by rw [k4]; rfl
      rw [hE]
      refine g_catch C ht [(0, 10, 13, 34)] [] rfl (List.forall_mem_cons.mpr ⟨Or.inr ⟨by decide, "java/util/NoSuchElementException", mw_3_26, by decide +kernel⟩, fun _ h => nomatch h⟩) (by decide) (by decide) mw_2_90 (by decide +kernel) (fun xk4 => ?_)
      refine g_astore C (lv' := [(4, .ref xk4), (0, .ref (v 0)), (1, .int p1), (2, .int p2), (3, .ref o0)]) dL_report_17 (g_nlt hn rfl) rfl ?_
      refine g_iconst C (v := 2) dL_report_19 (by decide) ?_
      refine g_eqw (ws' := (wV (x_y X) v nw kp ak bf fa (r 0) ln co ch gs op) ++ (wRep (x_y X) r rs rc rd) ++ (wO (x_y X) o0 ot)) rfl ?_
      obtain rfl := Option.some.inj hf
      exact g_iretH C E () dL_report_20 rfl rfl (Nat.le_of_ble_eq_true rfl) (Nat.le_of_ble_eq_true rfl)
    have hf := opt_neg k4 hf
    cases hf
  have hf := opt_pos ev1 hf
  refine g_i2l C dL_report_8 ?_
  obtain ⟨c5, hf⟩ := gg_of hf
  obtain ⟨f6, ef6, hf⟩ := opt_let hf
  refine g_last C (ws' := (wV (x_y X) v nw kp ak bf fa (r 0) ln co ch gs op) ++ (wRep (x_y X) r rs rc rd) ++ (wO (x_y X) o0 f6)) 8 rfl (gi_in c5) (by rw [ef6]; rfl) dL_report_9 ?_
  refine g_goto C 21 dL_report_10 (by decide) ?_
  refine g_iconst C (v := 0) dL_report_21 (by decide) ?_
  refine g_eqw (ws' := (wV (x_y X) v nw kp ak bf fa (r 0) ln co ch gs op) ++ (wRep (x_y X) r rs rc rd) ++ (wO (x_y X) o0 f6)) rfl ?_
  obtain rfl := Option.some.inj hf
  exact g_iretH C E () dL_report_22 rfl rfl (Nat.le_of_ble_eq_true rfl) (Nat.le_of_ble_eq_true rfl)
/-! L_event -/
theorem hd_L_event : yL_event.cls ≠ "java/lang/invoke/MethodHandle" ∧ yL_event.cls ≠ "java/lang/invoke/VarHandle" ∧ (parseMethodDescriptor yL_event.desc).map (fun d => d.parameters.length) = some 3 := by decide +kernel
def F_L_event (le : Int32) (ec : Int32) (ev : Nat → Int32) (ot : Nat → Int64) (p1 : Int32) : Option (Int32 × (Nat → Int64)) := (F_X10_event le ec ev p1).bind fun v1 => if v1.1 = 0 then (gg (gi 0 1) (gl (vp_updL ot (Int32.toNatClampNeg 0) (Int32.toInt64 v1.2)) fun f5 => some (0, f5))) else (if v1.1 = 3 then (some (1, ot)) else (none))
set_option maxRecDepth 100000 in
set_option maxHeartbeats 4000000 in
theorem c_L_event {l : Launch} {D : va_G} {cy : Nat → ClassId} {v : Nat → Nat} {b : Nat → Nat} {o0 : Nat} {kp : Nat} {ak : Int32} {bf : Nat} {fa : Int32} {fl : Nat} {ln : Nat} {co : Nat → Int32} {ch : Nat → Int32} {gs : Nat → Int32} {op : Nat → Int32} {z : Int32} {pr : Int32} {le : Int32} {ec : Int32} {wt : Nat → Int32} {sa : Nat → Option Nat} {ev : Nat → Int32} {ot : Nat → Int64} {p1 : Int32}  {val : Int32 × (Nat → Int64)} (hf : F_L_event le ec ev ot p1 = some val) : gCtH l D cy yL_event cL_event 4 (some .int) [(0, 9, 12, 34)] 7 103 1 6 [.ref (v 0), .int p1, .ref o0] [] ((wV cy v (b 0) kp ak bf fa fl ln co ch gs op) ++ (wSt cy b z pr le ec wt sa ev) ++ (wO cy o0 ot)) (fun _ : Unit => some (.int val.1)) (fun _ => (wV cy v (b 0) kp ak bf fa fl ln co ch gs op) ++ (wSt cy b z pr le ec wt sa ev) ++ (wO cy o0 val.2)) := by
  refine g_beginH (by decide +kernel) (Nat.le_of_ble_eq_true rfl) ?_
  intro X Q hl hR hD hy hro hn C ht E
  subst hl; subst hD; subst hy
  replace C : gC X "SecretVaultLaw" cL_event (some .int) := C
  unfold F_L_event at hf
  show gW X Q 0 0 ((wV (x_y X) v (b 0) kp ak bf fa fl ln co ch gs op) ++ (wSt (x_y X) b z pr le ec wt sa ev) ++ (wO (x_y X) o0 ot)) [(0, .ref (v 0)), (1, .int p1), (2, .ref o0)] [] 0
  refine g_aload_n C 2 dL_event_0 rfl ?_
  refine g_iconst C (v := 0) dL_event_1 (by decide) ?_
  refine g_aload_n C 0 dL_event_2 rfl ?_
  refine g_iload_n C 1 dL_event_3 rfl ?_
  obtain ⟨v1, h2, hf⟩ := opt_bind hf
  refine g_callV C (c_X10_event (l := x_l X) (D := x_D X) (cy := x_y X) (v := v) (b := b) (kp := kp) (ak := ak) (bf := bf) (fa := fa) (fl := fl) (ln := ln) (co := co) (ch := ch) (gs := gs) (op := op) (z := z) (pr := pr) (le := le) (ec := ec) (wt := wt) (sa := sa) (ev := ev) (p0 := p1) h2) (As := [.int p1]) (rest := [.int 0, .ref o0]) (wr := (wO (x_y X) o0 ot)) (ws' := fun _ => (wV (x_y X) v (b 0) kp ak bf fa fl ln co ch gs op) ++ (wSt (x_y X) b z pr le ec wt sa ev) ++ (wO (x_y X) o0 ot)) (st' := fun _ => [.int v1.2, .int 0, .ref o0]) (ci := 11) 1 0 ⟨_, rfl⟩ rfl rfl mw_6_168 mw_1_1 mw_6_165 mw_6_166 mw_6_167 hd_X10_event rfl (g_rm hR rfl rfl) [0, 1, 2, 3, 4, 5, 6, 7, 8] [9] [1, 2, 3, 4, 5, 6, 7, 8, 9, 0] ⟨rfl, rfl, rfl, rfl, by decide, gRoIn_0, rfl, fun _ => rfl⟩ rfl (Nat.le_of_ble_eq_true rfl) dL_event_4 (g_rc hR (Nat.le_of_ble_eq_true rfl) (Nat.le_of_ble_eq_true rfl)) (ck' := 1) (sk' := 6) rfl rfl (fun _ => rfl) (fun _ ev1 => ?_) (fun _ ev1 => ?_)
  rotate_left
  · have hf := opt_neg ev1 hf
    by_cases k3 : v1.1 = 3
    · have hf := opt_pos k3 hf
      have hE : gExn v1.1 = "java/util/NoSuchElementException" := by rw [k3]; rfl
      rw [hE]
      refine g_catch C ht [] [] rfl (fun _ h => nomatch h) (by decide) (by decide) mw_3_26 (by decide +kernel) (fun xk3 => ?_)
      refine g_astore_n C (lv' := [(3, .ref xk3), (0, .ref (v 0)), (1, .int p1), (2, .ref o0)]) dL_event_12 (g_nlt hn rfl) rfl ?_
      refine g_iconst C (v := 1) dL_event_13 (by decide) ?_
      refine g_eqw (ws' := (wV (x_y X) v (b 0) kp ak bf fa fl ln co ch gs op) ++ (wSt (x_y X) b z pr le ec wt sa ev) ++ (wO (x_y X) o0 ot)) rfl ?_
      obtain rfl := Option.some.inj hf
      exact g_iretH C E () dL_event_14 rfl rfl (Nat.le_of_ble_eq_true rfl) (Nat.le_of_ble_eq_true rfl)
    have hf := opt_neg k3 hf
    cases hf
  have hf := opt_pos ev1 hf
  refine g_i2l C dL_event_7 ?_
  obtain ⟨c4, hf⟩ := gg_of hf
  obtain ⟨f5, ef5, hf⟩ := opt_let hf
  refine g_last C (ws' := (wV (x_y X) v (b 0) kp ak bf fa fl ln co ch gs op) ++ (wSt (x_y X) b z pr le ec wt sa ev) ++ (wO (x_y X) o0 f5)) 9 rfl (gi_in c4) (by rw [ef5]; rfl) dL_event_8 ?_
  refine g_goto C 15 dL_event_9 (by decide) ?_
  refine g_iconst C (v := 0) dL_event_15 (by decide) ?_
  refine g_eqw (ws' := (wV (x_y X) v (b 0) kp ak bf fa fl ln co ch gs op) ++ (wSt (x_y X) b z pr le ec wt sa ev) ++ (wO (x_y X) o0 f5)) rfl ?_
  obtain rfl := Option.some.inj hf
  exact g_iretH C E () dL_event_16 rfl rfl (Nat.le_of_ble_eq_true rfl) (Nat.le_of_ble_eq_true rfl)
/-! L_restore -/
theorem hd_L_restore : yL_restore.cls ≠ "java/lang/invoke/MethodHandle" ∧ yL_restore.cls ≠ "java/lang/invoke/VarHandle" ∧ (parseMethodDescriptor yL_restore.desc).map (fun d => d.parameters.length) = some 2 := by decide +kernel
def F_L_restore (ak : Int32) (z : Int32) (pr : Int32) (le : Int32) (ec : Int32) (wt : Nat → Int32) (ev : Nat → Int32) (s0_filled : Int32) (s0_th : Int32) (s0_ep : Int32) (s0_rule : Option Nat) (s0_cm : Nat → Int32) (s0_vs : Nat → Int32) (s0_es : Nat → Int32) (s1_filled : Int32) (s1_th : Int32) (s1_ep : Int32) (s1_rule : Option Nat) (s1_cm : Nat → Int32) (s1_vs : Nat → Int32) (s1_es : Nat → Int32) (s2_filled : Int32) (s2_th : Int32) (s2_ep : Int32) (s2_rule : Option Nat) (s2_cm : Nat → Int32) (s2_vs : Nat → Int32) (s2_es : Nat → Int32) (s3_filled : Int32) (s3_th : Int32) (s3_ep : Int32) (s3_rule : Option Nat) (s3_cm : Nat → Int32) (s3_vs : Nat → Int32) (s3_es : Nat → Int32) (k_z : Int32) (k_pr : Int32) (k_le : Int32) (k_ec : Int32) (k_wt : Nat → Int32) (k_ev : Nat → Int32) (u0_filled : Int32) (u0_th : Int32) (u0_ep : Int32) (u0_rule : Option Nat) (u0_cm : Nat → Int32) (u0_vs : Nat → Int32) (u0_es : Nat → Int32) (u1_filled : Int32) (u1_th : Int32) (u1_ep : Int32) (u1_rule : Option Nat) (u1_cm : Nat → Int32) (u1_vs : Nat → Int32) (u1_es : Nat → Int32) (u2_filled : Int32) (u2_th : Int32) (u2_ep : Int32) (u2_rule : Option Nat) (u2_cm : Nat → Int32) (u2_vs : Nat → Int32) (u2_es : Nat → Int32) (u3_filled : Int32) (u3_th : Int32) (u3_ep : Int32) (u3_rule : Option Nat) (u3_cm : Nat → Int32) (u3_vs : Nat → Int32) (u3_es : Nat → Int32) (ot : Nat → Int64) : Option (Int32 × Int32 × Int32 × Int32 × Int32 × (Nat → Int32) × (Nat → Int32) × Int32 × Int32 × Int32 × Option Nat × (Nat → Int32) × (Nat → Int32) × (Nat → Int32) × Int32 × Int32 × Int32 × Option Nat × (Nat → Int32) × (Nat → Int32) × (Nat → Int32) × Int32 × Int32 × Int32 × Option Nat × (Nat → Int32) × (Nat → Int32) × (Nat → Int32) × Int32 × Int32 × Int32 × Option Nat × (Nat → Int32) × (Nat → Int32) × (Nat → Int32) × (Nat → Int64)) := (F_X10_restore ak z pr le ec wt ev s0_filled s0_th s0_ep s0_rule s0_cm s0_vs s0_es s1_filled s1_th s1_ep s1_rule s1_cm s1_vs s1_es s2_filled s2_th s2_ep s2_rule s2_cm s2_vs s2_es s3_filled s3_th s3_ep s3_rule s3_cm s3_vs s3_es k_z k_pr k_le k_ec k_wt k_ev u0_filled u0_th u0_ep u0_rule u0_cm u0_vs u0_es u1_filled u1_th u1_ep u1_rule u1_cm u1_vs u1_es u2_filled u2_th u2_ep u2_rule u2_cm u2_vs u2_es u3_filled u3_th u3_ep u3_rule u3_cm u3_vs u3_es).bind fun v1 => if v1.1 = 0 then (gg (gi 0 1) (gl (vp_updL ot (Int32.toNatClampNeg 0) (Int32.toInt64 v1.2.1)) fun f5 => some (0, v1.2.2.1, v1.2.2.2.1, v1.2.2.2.2.1, v1.2.2.2.2.2.1, v1.2.2.2.2.2.2.1, v1.2.2.2.2.2.2.2.1, v1.2.2.2.2.2.2.2.2.1, v1.2.2.2.2.2.2.2.2.2.1, v1.2.2.2.2.2.2.2.2.2.2.1, v1.2.2.2.2.2.2.2.2.2.2.2.1, v1.2.2.2.2.2.2.2.2.2.2.2.2.1, v1.2.2.2.2.2.2.2.2.2.2.2.2.2.1, v1.2.2.2.2.2.2.2.2.2.2.2.2.2.2.1, v1.2.2.2.2.2.2.2.2.2.2.2.2.2.2.2.1, v1.2.2.2.2.2.2.2.2.2.2.2.2.2.2.2.2.1, v1.2.2.2.2.2.2.2.2.2.2.2.2.2.2.2.2.2.1, v1.2.2.2.2.2.2.2.2.2.2.2.2.2.2.2.2.2.2.1, v1.2.2.2.2.2.2.2.2.2.2.2.2.2.2.2.2.2.2.2.1, v1.2.2.2.2.2.2.2.2.2.2.2.2.2.2.2.2.2.2.2.2.1, v1.2.2.2.2.2.2.2.2.2.2.2.2.2.2.2.2.2.2.2.2.2.1, v1.2.2.2.2.2.2.2.2.2.2.2.2.2.2.2.2.2.2.2.2.2.2.1, v1.2.2.2.2.2.2.2.2.2.2.2.2.2.2.2.2.2.2.2.2.2.2.2.1, v1.2.2.2.2.2.2.2.2.2.2.2.2.2.2.2.2.2.2.2.2.2.2.2.2.1, v1.2.2.2.2.2.2.2.2.2.2.2.2.2.2.2.2.2.2.2.2.2.2.2.2.2.1, v1.2.2.2.2.2.2.2.2.2.2.2.2.2.2.2.2.2.2.2.2.2.2.2.2.2.2.1, v1.2.2.2.2.2.2.2.2.2.2.2.2.2.2.2.2.2.2.2.2.2.2.2.2.2.2.2.1, v1.2.2.2.2.2.2.2.2.2.2.2.2.2.2.2.2.2.2.2.2.2.2.2.2.2.2.2.2.1, v1.2.2.2.2.2.2.2.2.2.2.2.2.2.2.2.2.2.2.2.2.2.2.2.2.2.2.2.2.2.1, v1.2.2.2.2.2.2.2.2.2.2.2.2.2.2.2.2.2.2.2.2.2.2.2.2.2.2.2.2.2.2.1, v1.2.2.2.2.2.2.2.2.2.2.2.2.2.2.2.2.2.2.2.2.2.2.2.2.2.2.2.2.2.2.2.1, v1.2.2.2.2.2.2.2.2.2.2.2.2.2.2.2.2.2.2.2.2.2.2.2.2.2.2.2.2.2.2.2.2.1, v1.2.2.2.2.2.2.2.2.2.2.2.2.2.2.2.2.2.2.2.2.2.2.2.2.2.2.2.2.2.2.2.2.2.1, v1.2.2.2.2.2.2.2.2.2.2.2.2.2.2.2.2.2.2.2.2.2.2.2.2.2.2.2.2.2.2.2.2.2.2.1, v1.2.2.2.2.2.2.2.2.2.2.2.2.2.2.2.2.2.2.2.2.2.2.2.2.2.2.2.2.2.2.2.2.2.2.2, f5))) else (if v1.1 = 5 then (some (1, v1.2.2.1, v1.2.2.2.1, v1.2.2.2.2.1, v1.2.2.2.2.2.1, v1.2.2.2.2.2.2.1, v1.2.2.2.2.2.2.2.1, v1.2.2.2.2.2.2.2.2.1, v1.2.2.2.2.2.2.2.2.2.1, v1.2.2.2.2.2.2.2.2.2.2.1, v1.2.2.2.2.2.2.2.2.2.2.2.1, v1.2.2.2.2.2.2.2.2.2.2.2.2.1, v1.2.2.2.2.2.2.2.2.2.2.2.2.2.1, v1.2.2.2.2.2.2.2.2.2.2.2.2.2.2.1, v1.2.2.2.2.2.2.2.2.2.2.2.2.2.2.2.1, v1.2.2.2.2.2.2.2.2.2.2.2.2.2.2.2.2.1, v1.2.2.2.2.2.2.2.2.2.2.2.2.2.2.2.2.2.1, v1.2.2.2.2.2.2.2.2.2.2.2.2.2.2.2.2.2.2.1, v1.2.2.2.2.2.2.2.2.2.2.2.2.2.2.2.2.2.2.2.1, v1.2.2.2.2.2.2.2.2.2.2.2.2.2.2.2.2.2.2.2.2.1, v1.2.2.2.2.2.2.2.2.2.2.2.2.2.2.2.2.2.2.2.2.2.1, v1.2.2.2.2.2.2.2.2.2.2.2.2.2.2.2.2.2.2.2.2.2.2.1, v1.2.2.2.2.2.2.2.2.2.2.2.2.2.2.2.2.2.2.2.2.2.2.2.1, v1.2.2.2.2.2.2.2.2.2.2.2.2.2.2.2.2.2.2.2.2.2.2.2.2.1, v1.2.2.2.2.2.2.2.2.2.2.2.2.2.2.2.2.2.2.2.2.2.2.2.2.2.1, v1.2.2.2.2.2.2.2.2.2.2.2.2.2.2.2.2.2.2.2.2.2.2.2.2.2.2.1, v1.2.2.2.2.2.2.2.2.2.2.2.2.2.2.2.2.2.2.2.2.2.2.2.2.2.2.2.1, v1.2.2.2.2.2.2.2.2.2.2.2.2.2.2.2.2.2.2.2.2.2.2.2.2.2.2.2.2.1, v1.2.2.2.2.2.2.2.2.2.2.2.2.2.2.2.2.2.2.2.2.2.2.2.2.2.2.2.2.2.1, v1.2.2.2.2.2.2.2.2.2.2.2.2.2.2.2.2.2.2.2.2.2.2.2.2.2.2.2.2.2.2.1, v1.2.2.2.2.2.2.2.2.2.2.2.2.2.2.2.2.2.2.2.2.2.2.2.2.2.2.2.2.2.2.2.1, v1.2.2.2.2.2.2.2.2.2.2.2.2.2.2.2.2.2.2.2.2.2.2.2.2.2.2.2.2.2.2.2.2.1, v1.2.2.2.2.2.2.2.2.2.2.2.2.2.2.2.2.2.2.2.2.2.2.2.2.2.2.2.2.2.2.2.2.2.1, v1.2.2.2.2.2.2.2.2.2.2.2.2.2.2.2.2.2.2.2.2.2.2.2.2.2.2.2.2.2.2.2.2.2.2.1, v1.2.2.2.2.2.2.2.2.2.2.2.2.2.2.2.2.2.2.2.2.2.2.2.2.2.2.2.2.2.2.2.2.2.2.2, ot)) else (none))
set_option maxRecDepth 100000 in
set_option maxHeartbeats 4000000 in
theorem c_L_restore {l : Launch} {D : va_G} {cy : Nat → ClassId} {v : Nat → Nat} {b : Nat → Nat} {s0 : Nat → Nat} {s1 : Nat → Nat} {s2 : Nat → Nat} {s3 : Nat → Nat} {k : Nat → Nat} {u0 : Nat → Nat} {u1 : Nat → Nat} {u2 : Nat → Nat} {u3 : Nat → Nat} {o0 : Nat} {ak : Int32} {bf : Nat} {fa : Int32} {fl : Nat} {ln : Nat} {co : Nat → Int32} {ch : Nat → Int32} {gs : Nat → Int32} {op : Nat → Int32} {z : Int32} {pr : Int32} {le : Int32} {ec : Int32} {wt : Nat → Int32} {ev : Nat → Int32} {s0_filled : Int32} {s0_th : Int32} {s0_ep : Int32} {s0_rule : Option Nat} {s0_cm : Nat → Int32} {s0_vs : Nat → Int32} {s0_es : Nat → Int32} {s1_filled : Int32} {s1_th : Int32} {s1_ep : Int32} {s1_rule : Option Nat} {s1_cm : Nat → Int32} {s1_vs : Nat → Int32} {s1_es : Nat → Int32} {s2_filled : Int32} {s2_th : Int32} {s2_ep : Int32} {s2_rule : Option Nat} {s2_cm : Nat → Int32} {s2_vs : Nat → Int32} {s2_es : Nat → Int32} {s3_filled : Int32} {s3_th : Int32} {s3_ep : Int32} {s3_rule : Option Nat} {s3_cm : Nat → Int32} {s3_vs : Nat → Int32} {s3_es : Nat → Int32} {k_z : Int32} {k_pr : Int32} {k_le : Int32} {k_ec : Int32} {k_wt : Nat → Int32} {k_ev : Nat → Int32} {u0_filled : Int32} {u0_th : Int32} {u0_ep : Int32} {u0_rule : Option Nat} {u0_cm : Nat → Int32} {u0_vs : Nat → Int32} {u0_es : Nat → Int32} {u1_filled : Int32} {u1_th : Int32} {u1_ep : Int32} {u1_rule : Option Nat} {u1_cm : Nat → Int32} {u1_vs : Nat → Int32} {u1_es : Nat → Int32} {u2_filled : Int32} {u2_th : Int32} {u2_ep : Int32} {u2_rule : Option Nat} {u2_cm : Nat → Int32} {u2_vs : Nat → Int32} {u2_es : Nat → Int32} {u3_filled : Int32} {u3_th : Int32} {u3_ep : Int32} {u3_rule : Option Nat} {u3_cm : Nat → Int32} {u3_vs : Nat → Int32} {u3_es : Nat → Int32} {ot : Nat → Int64}   {val : Int32 × Int32 × Int32 × Int32 × Int32 × (Nat → Int32) × (Nat → Int32) × Int32 × Int32 × Int32 × Option Nat × (Nat → Int32) × (Nat → Int32) × (Nat → Int32) × Int32 × Int32 × Int32 × Option Nat × (Nat → Int32) × (Nat → Int32) × (Nat → Int32) × Int32 × Int32 × Int32 × Option Nat × (Nat → Int32) × (Nat → Int32) × (Nat → Int32) × Int32 × Int32 × Int32 × Option Nat × (Nat → Int32) × (Nat → Int32) × (Nat → Int32) × (Nat → Int64)} (hf : F_L_restore ak z pr le ec wt ev s0_filled s0_th s0_ep s0_rule s0_cm s0_vs s0_es s1_filled s1_th s1_ep s1_rule s1_cm s1_vs s1_es s2_filled s2_th s2_ep s2_rule s2_cm s2_vs s2_es s3_filled s3_th s3_ep s3_rule s3_cm s3_vs s3_es k_z k_pr k_le k_ec k_wt k_ev u0_filled u0_th u0_ep u0_rule u0_cm u0_vs u0_es u1_filled u1_th u1_ep u1_rule u1_cm u1_vs u1_es u2_filled u2_th u2_ep u2_rule u2_cm u2_vs u2_es u3_filled u3_th u3_ep u3_rule u3_cm u3_vs u3_es ot = some val) : gCtH l D cy yL_restore cL_restore 3 (some .int) [(0, 8, 11, 28)] 7 102 1 6 [.ref (v 0), .ref o0] [] ((wV cy v (b 0) (k 0) ak bf fa fl ln co ch gs op) ++ (wSt cy b z pr le ec wt (gA4 (s0 0) (s1 0) (s2 0) (s3 0)) ev) ++ (wSec cy s0 s0_filled s0_th s0_ep s0_rule s0_cm s0_vs s0_es) ++ (wSec cy s1 s1_filled s1_th s1_ep s1_rule s1_cm s1_vs s1_es) ++ (wSec cy s2 s2_filled s2_th s2_ep s2_rule s2_cm s2_vs s2_es) ++ (wSec cy s3 s3_filled s3_th s3_ep s3_rule s3_cm s3_vs s3_es) ++ (wSt cy k k_z k_pr k_le k_ec k_wt (gA4 (u0 0) (u1 0) (u2 0) (u3 0)) k_ev) ++ (wSec cy u0 u0_filled u0_th u0_ep u0_rule u0_cm u0_vs u0_es) ++ (wSec cy u1 u1_filled u1_th u1_ep u1_rule u1_cm u1_vs u1_es) ++ (wSec cy u2 u2_filled u2_th u2_ep u2_rule u2_cm u2_vs u2_es) ++ (wSec cy u3 u3_filled u3_th u3_ep u3_rule u3_cm u3_vs u3_es) ++ (wO cy o0 ot)) (fun _ : Unit => some (.int val.1)) (fun _ => (wV cy v (b 0) (k 0) ak bf fa fl ln co ch gs op) ++ (wSt cy b val.2.1 val.2.2.1 val.2.2.2.1 val.2.2.2.2.1 val.2.2.2.2.2.1 (gA4 (s0 0) (s1 0) (s2 0) (s3 0)) val.2.2.2.2.2.2.1) ++ (wSec cy s0 val.2.2.2.2.2.2.2.1 val.2.2.2.2.2.2.2.2.1 val.2.2.2.2.2.2.2.2.2.1 val.2.2.2.2.2.2.2.2.2.2.1 val.2.2.2.2.2.2.2.2.2.2.2.1 val.2.2.2.2.2.2.2.2.2.2.2.2.1 val.2.2.2.2.2.2.2.2.2.2.2.2.2.1) ++ (wSec cy s1 val.2.2.2.2.2.2.2.2.2.2.2.2.2.2.1 val.2.2.2.2.2.2.2.2.2.2.2.2.2.2.2.1 val.2.2.2.2.2.2.2.2.2.2.2.2.2.2.2.2.1 val.2.2.2.2.2.2.2.2.2.2.2.2.2.2.2.2.2.1 val.2.2.2.2.2.2.2.2.2.2.2.2.2.2.2.2.2.2.1 val.2.2.2.2.2.2.2.2.2.2.2.2.2.2.2.2.2.2.2.1 val.2.2.2.2.2.2.2.2.2.2.2.2.2.2.2.2.2.2.2.2.1) ++ (wSec cy s2 val.2.2.2.2.2.2.2.2.2.2.2.2.2.2.2.2.2.2.2.2.2.1 val.2.2.2.2.2.2.2.2.2.2.2.2.2.2.2.2.2.2.2.2.2.2.1 val.2.2.2.2.2.2.2.2.2.2.2.2.2.2.2.2.2.2.2.2.2.2.2.1 val.2.2.2.2.2.2.2.2.2.2.2.2.2.2.2.2.2.2.2.2.2.2.2.2.1 val.2.2.2.2.2.2.2.2.2.2.2.2.2.2.2.2.2.2.2.2.2.2.2.2.2.1 val.2.2.2.2.2.2.2.2.2.2.2.2.2.2.2.2.2.2.2.2.2.2.2.2.2.2.1 val.2.2.2.2.2.2.2.2.2.2.2.2.2.2.2.2.2.2.2.2.2.2.2.2.2.2.2.1) ++ (wSec cy s3 val.2.2.2.2.2.2.2.2.2.2.2.2.2.2.2.2.2.2.2.2.2.2.2.2.2.2.2.2.1 val.2.2.2.2.2.2.2.2.2.2.2.2.2.2.2.2.2.2.2.2.2.2.2.2.2.2.2.2.2.1 val.2.2.2.2.2.2.2.2.2.2.2.2.2.2.2.2.2.2.2.2.2.2.2.2.2.2.2.2.2.2.1 val.2.2.2.2.2.2.2.2.2.2.2.2.2.2.2.2.2.2.2.2.2.2.2.2.2.2.2.2.2.2.2.1 val.2.2.2.2.2.2.2.2.2.2.2.2.2.2.2.2.2.2.2.2.2.2.2.2.2.2.2.2.2.2.2.2.1 val.2.2.2.2.2.2.2.2.2.2.2.2.2.2.2.2.2.2.2.2.2.2.2.2.2.2.2.2.2.2.2.2.2.1 val.2.2.2.2.2.2.2.2.2.2.2.2.2.2.2.2.2.2.2.2.2.2.2.2.2.2.2.2.2.2.2.2.2.2.1) ++ (wSt cy k k_z k_pr k_le k_ec k_wt (gA4 (u0 0) (u1 0) (u2 0) (u3 0)) k_ev) ++ (wSec cy u0 u0_filled u0_th u0_ep u0_rule u0_cm u0_vs u0_es) ++ (wSec cy u1 u1_filled u1_th u1_ep u1_rule u1_cm u1_vs u1_es) ++ (wSec cy u2 u2_filled u2_th u2_ep u2_rule u2_cm u2_vs u2_es) ++ (wSec cy u3 u3_filled u3_th u3_ep u3_rule u3_cm u3_vs u3_es) ++ (wO cy o0 val.2.2.2.2.2.2.2.2.2.2.2.2.2.2.2.2.2.2.2.2.2.2.2.2.2.2.2.2.2.2.2.2.2.2.2)) := by
  refine g_beginH (by decide +kernel) (Nat.le_of_ble_eq_true rfl) ?_
  intro X Q hl hR hD hy hro hn C ht E
  subst hl; subst hD; subst hy
  replace C : gC X "SecretVaultLaw" cL_restore (some .int) := C
  unfold F_L_restore at hf
  show gW X Q 0 0 ((wV (x_y X) v (b 0) (k 0) ak bf fa fl ln co ch gs op) ++ (wSt (x_y X) b z pr le ec wt (gA4 (s0 0) (s1 0) (s2 0) (s3 0)) ev) ++ (wSec (x_y X) s0 s0_filled s0_th s0_ep s0_rule s0_cm s0_vs s0_es) ++ (wSec (x_y X) s1 s1_filled s1_th s1_ep s1_rule s1_cm s1_vs s1_es) ++ (wSec (x_y X) s2 s2_filled s2_th s2_ep s2_rule s2_cm s2_vs s2_es) ++ (wSec (x_y X) s3 s3_filled s3_th s3_ep s3_rule s3_cm s3_vs s3_es) ++ (wSt (x_y X) k k_z k_pr k_le k_ec k_wt (gA4 (u0 0) (u1 0) (u2 0) (u3 0)) k_ev) ++ (wSec (x_y X) u0 u0_filled u0_th u0_ep u0_rule u0_cm u0_vs u0_es) ++ (wSec (x_y X) u1 u1_filled u1_th u1_ep u1_rule u1_cm u1_vs u1_es) ++ (wSec (x_y X) u2 u2_filled u2_th u2_ep u2_rule u2_cm u2_vs u2_es) ++ (wSec (x_y X) u3 u3_filled u3_th u3_ep u3_rule u3_cm u3_vs u3_es) ++ (wO (x_y X) o0 ot)) [(0, .ref (v 0)), (1, .ref o0)] [] 0
  refine g_aload_n C 1 dL_restore_0 rfl ?_
  refine g_iconst C (v := 0) dL_restore_1 (by decide) ?_
  refine g_aload_n C 0 dL_restore_2 rfl ?_
  obtain ⟨v1, h2, hf⟩ := opt_bind hf
  refine g_callV C (c_X10_restore (l := x_l X) (D := x_D X) (cy := x_y X) (v := v) (b := b) (s0 := s0) (s1 := s1) (s2 := s2) (s3 := s3) (k := k) (u0 := u0) (u1 := u1) (u2 := u2) (u3 := u3) (ak := ak) (bf := bf) (fa := fa) (fl := fl) (ln := ln) (co := co) (ch := ch) (gs := gs) (op := op) (z := z) (pr := pr) (le := le) (ec := ec) (wt := wt) (ev := ev) (s0_filled := s0_filled) (s0_th := s0_th) (s0_ep := s0_ep) (s0_rule := s0_rule) (s0_cm := s0_cm) (s0_vs := s0_vs) (s0_es := s0_es) (s1_filled := s1_filled) (s1_th := s1_th) (s1_ep := s1_ep) (s1_rule := s1_rule) (s1_cm := s1_cm) (s1_vs := s1_vs) (s1_es := s1_es) (s2_filled := s2_filled) (s2_th := s2_th) (s2_ep := s2_ep) (s2_rule := s2_rule) (s2_cm := s2_cm) (s2_vs := s2_vs) (s2_es := s2_es) (s3_filled := s3_filled) (s3_th := s3_th) (s3_ep := s3_ep) (s3_rule := s3_rule) (s3_cm := s3_cm) (s3_vs := s3_vs) (s3_es := s3_es) (k_z := k_z) (k_pr := k_pr) (k_le := k_le) (k_ec := k_ec) (k_wt := k_wt) (k_ev := k_ev) (u0_filled := u0_filled) (u0_th := u0_th) (u0_ep := u0_ep) (u0_rule := u0_rule) (u0_cm := u0_cm) (u0_vs := u0_vs) (u0_es := u0_es) (u1_filled := u1_filled) (u1_th := u1_th) (u1_ep := u1_ep) (u1_rule := u1_rule) (u1_cm := u1_cm) (u1_vs := u1_vs) (u1_es := u1_es) (u2_filled := u2_filled) (u2_th := u2_th) (u2_ep := u2_ep) (u2_rule := u2_rule) (u2_cm := u2_cm) (u2_vs := u2_vs) (u2_es := u2_es) (u3_filled := u3_filled) (u3_th := u3_th) (u3_ep := u3_ep) (u3_rule := u3_rule) (u3_cm := u3_cm) (u3_vs := u3_vs) (u3_es := u3_es) h2) (As := []) (rest := [.int 0, .ref o0]) (wr := (wO (x_y X) o0 ot)) (ws' := fun _ => (wV (x_y X) v (b 0) (k 0) ak bf fa fl ln co ch gs op) ++ (wSt (x_y X) b v1.2.2.1 v1.2.2.2.1 v1.2.2.2.2.1 v1.2.2.2.2.2.1 v1.2.2.2.2.2.2.1 (gA4 (s0 0) (s1 0) (s2 0) (s3 0)) v1.2.2.2.2.2.2.2.1) ++ (wSec (x_y X) s0 v1.2.2.2.2.2.2.2.2.1 v1.2.2.2.2.2.2.2.2.2.1 v1.2.2.2.2.2.2.2.2.2.2.1 v1.2.2.2.2.2.2.2.2.2.2.2.1 v1.2.2.2.2.2.2.2.2.2.2.2.2.1 v1.2.2.2.2.2.2.2.2.2.2.2.2.2.1 v1.2.2.2.2.2.2.2.2.2.2.2.2.2.2.1) ++ (wSec (x_y X) s1 v1.2.2.2.2.2.2.2.2.2.2.2.2.2.2.2.1 v1.2.2.2.2.2.2.2.2.2.2.2.2.2.2.2.2.1 v1.2.2.2.2.2.2.2.2.2.2.2.2.2.2.2.2.2.1 v1.2.2.2.2.2.2.2.2.2.2.2.2.2.2.2.2.2.2.1 v1.2.2.2.2.2.2.2.2.2.2.2.2.2.2.2.2.2.2.2.1 v1.2.2.2.2.2.2.2.2.2.2.2.2.2.2.2.2.2.2.2.2.1 v1.2.2.2.2.2.2.2.2.2.2.2.2.2.2.2.2.2.2.2.2.2.1) ++ (wSec (x_y X) s2 v1.2.2.2.2.2.2.2.2.2.2.2.2.2.2.2.2.2.2.2.2.2.2.1 v1.2.2.2.2.2.2.2.2.2.2.2.2.2.2.2.2.2.2.2.2.2.2.2.1 v1.2.2.2.2.2.2.2.2.2.2.2.2.2.2.2.2.2.2.2.2.2.2.2.2.1 v1.2.2.2.2.2.2.2.2.2.2.2.2.2.2.2.2.2.2.2.2.2.2.2.2.2.1 v1.2.2.2.2.2.2.2.2.2.2.2.2.2.2.2.2.2.2.2.2.2.2.2.2.2.2.1 v1.2.2.2.2.2.2.2.2.2.2.2.2.2.2.2.2.2.2.2.2.2.2.2.2.2.2.2.1 v1.2.2.2.2.2.2.2.2.2.2.2.2.2.2.2.2.2.2.2.2.2.2.2.2.2.2.2.2.1) ++ (wSec (x_y X) s3 v1.2.2.2.2.2.2.2.2.2.2.2.2.2.2.2.2.2.2.2.2.2.2.2.2.2.2.2.2.2.1 v1.2.2.2.2.2.2.2.2.2.2.2.2.2.2.2.2.2.2.2.2.2.2.2.2.2.2.2.2.2.2.1 v1.2.2.2.2.2.2.2.2.2.2.2.2.2.2.2.2.2.2.2.2.2.2.2.2.2.2.2.2.2.2.2.1 v1.2.2.2.2.2.2.2.2.2.2.2.2.2.2.2.2.2.2.2.2.2.2.2.2.2.2.2.2.2.2.2.2.1 v1.2.2.2.2.2.2.2.2.2.2.2.2.2.2.2.2.2.2.2.2.2.2.2.2.2.2.2.2.2.2.2.2.2.1 v1.2.2.2.2.2.2.2.2.2.2.2.2.2.2.2.2.2.2.2.2.2.2.2.2.2.2.2.2.2.2.2.2.2.2.1 v1.2.2.2.2.2.2.2.2.2.2.2.2.2.2.2.2.2.2.2.2.2.2.2.2.2.2.2.2.2.2.2.2.2.2.2) ++ (wSt (x_y X) k k_z k_pr k_le k_ec k_wt (gA4 (u0 0) (u1 0) (u2 0) (u3 0)) k_ev) ++ (wSec (x_y X) u0 u0_filled u0_th u0_ep u0_rule u0_cm u0_vs u0_es) ++ (wSec (x_y X) u1 u1_filled u1_th u1_ep u1_rule u1_cm u1_vs u1_es) ++ (wSec (x_y X) u2 u2_filled u2_th u2_ep u2_rule u2_cm u2_vs u2_es) ++ (wSec (x_y X) u3 u3_filled u3_th u3_ep u3_rule u3_cm u3_vs u3_es) ++ (wO (x_y X) o0 ot)) (st' := fun _ => [.int v1.2.1, .int 0, .ref o0]) (ci := 11) 0 0 ⟨_, rfl⟩ rfl rfl mw_6_176 mw_1_1 mw_6_173 mw_6_174 mw_6_175 hd_X10_restore rfl (g_rm hR rfl rfl) [0, 1, 2, 3, 4, 5, 6, 7, 8, 9, 10, 11, 12, 13, 14, 15, 16, 17, 18, 19, 20, 21, 22, 23, 24, 25, 26, 27, 28, 29, 30, 31, 32, 33, 34, 35, 36, 37, 38, 39, 40, 41, 42, 43, 44] [45] [1, 2, 3, 4, 5, 6, 7, 8, 9, 10, 11, 12, 13, 14, 15, 16, 17, 18, 19, 20, 21, 22, 23, 24, 25, 26, 27, 28, 29, 30, 31, 32, 33, 34, 35, 36, 37, 38, 39, 40, 41, 42, 43, 44, 45, 0] ⟨rfl, rfl, rfl, rfl, by decide, gRoIn_0, rfl, fun _ => rfl⟩ rfl (Nat.le_of_ble_eq_true rfl) dL_restore_3 (g_rc hR (Nat.le_of_ble_eq_true rfl) (Nat.le_of_ble_eq_true rfl)) (ck' := 1) (sk' := 6) rfl rfl (fun _ => rfl) (fun _ ev1 => ?_) (fun _ ev1 => ?_)
  rotate_left
  · have hf := opt_neg ev1 hf
    by_cases k3 : v1.1 = 5
    · have hf := opt_pos k3 hf
      have hE : gExn v1.1 = "java/lang/IllegalStateException" := by rw [k3]; rfl
      rw [hE]
      refine g_catch C ht [] [] rfl (fun _ h => nomatch h) (by decide) (by decide) mw_2_182 (by decide +kernel) (fun xk3 => ?_)
      refine g_astore_n C (lv' := [(2, .ref xk3), (0, .ref (v 0)), (1, .ref o0)]) dL_restore_11 (g_nlt hn rfl) rfl ?_
      refine g_iconst C (v := 1) dL_restore_12 (by decide) ?_
      refine g_eqw (ws' := (wV (x_y X) v (b 0) (k 0) ak bf fa fl ln co ch gs op) ++ (wSt (x_y X) b v1.2.2.1 v1.2.2.2.1 v1.2.2.2.2.1 v1.2.2.2.2.2.1 v1.2.2.2.2.2.2.1 (gA4 (s0 0) (s1 0) (s2 0) (s3 0)) v1.2.2.2.2.2.2.2.1) ++ (wSec (x_y X) s0 v1.2.2.2.2.2.2.2.2.1 v1.2.2.2.2.2.2.2.2.2.1 v1.2.2.2.2.2.2.2.2.2.2.1 v1.2.2.2.2.2.2.2.2.2.2.2.1 v1.2.2.2.2.2.2.2.2.2.2.2.2.1 v1.2.2.2.2.2.2.2.2.2.2.2.2.2.1 v1.2.2.2.2.2.2.2.2.2.2.2.2.2.2.1) ++ (wSec (x_y X) s1 v1.2.2.2.2.2.2.2.2.2.2.2.2.2.2.2.1 v1.2.2.2.2.2.2.2.2.2.2.2.2.2.2.2.2.1 v1.2.2.2.2.2.2.2.2.2.2.2.2.2.2.2.2.2.1 v1.2.2.2.2.2.2.2.2.2.2.2.2.2.2.2.2.2.2.1 v1.2.2.2.2.2.2.2.2.2.2.2.2.2.2.2.2.2.2.2.1 v1.2.2.2.2.2.2.2.2.2.2.2.2.2.2.2.2.2.2.2.2.1 v1.2.2.2.2.2.2.2.2.2.2.2.2.2.2.2.2.2.2.2.2.2.1) ++ (wSec (x_y X) s2 v1.2.2.2.2.2.2.2.2.2.2.2.2.2.2.2.2.2.2.2.2.2.2.1 v1.2.2.2.2.2.2.2.2.2.2.2.2.2.2.2.2.2.2.2.2.2.2.2.1 v1.2.2.2.2.2.2.2.2.2.2.2.2.2.2.2.2.2.2.2.2.2.2.2.2.1 v1.2.2.2.2.2.2.2.2.2.2.2.2.2.2.2.2.2.2.2.2.2.2.2.2.2.1 v1.2.2.2.2.2.2.2.2.2.2.2.2.2.2.2.2.2.2.2.2.2.2.2.2.2.2.1 v1.2.2.2.2.2.2.2.2.2.2.2.2.2.2.2.2.2.2.2.2.2.2.2.2.2.2.2.1 v1.2.2.2.2.2.2.2.2.2.2.2.2.2.2.2.2.2.2.2.2.2.2.2.2.2.2.2.2.1) ++ (wSec (x_y X) s3 v1.2.2.2.2.2.2.2.2.2.2.2.2.2.2.2.2.2.2.2.2.2.2.2.2.2.2.2.2.2.1 v1.2.2.2.2.2.2.2.2.2.2.2.2.2.2.2.2.2.2.2.2.2.2.2.2.2.2.2.2.2.2.1 v1.2.2.2.2.2.2.2.2.2.2.2.2.2.2.2.2.2.2.2.2.2.2.2.2.2.2.2.2.2.2.2.1 v1.2.2.2.2.2.2.2.2.2.2.2.2.2.2.2.2.2.2.2.2.2.2.2.2.2.2.2.2.2.2.2.2.1 v1.2.2.2.2.2.2.2.2.2.2.2.2.2.2.2.2.2.2.2.2.2.2.2.2.2.2.2.2.2.2.2.2.2.1 v1.2.2.2.2.2.2.2.2.2.2.2.2.2.2.2.2.2.2.2.2.2.2.2.2.2.2.2.2.2.2.2.2.2.2.1 v1.2.2.2.2.2.2.2.2.2.2.2.2.2.2.2.2.2.2.2.2.2.2.2.2.2.2.2.2.2.2.2.2.2.2.2) ++ (wSt (x_y X) k k_z k_pr k_le k_ec k_wt (gA4 (u0 0) (u1 0) (u2 0) (u3 0)) k_ev) ++ (wSec (x_y X) u0 u0_filled u0_th u0_ep u0_rule u0_cm u0_vs u0_es) ++ (wSec (x_y X) u1 u1_filled u1_th u1_ep u1_rule u1_cm u1_vs u1_es) ++ (wSec (x_y X) u2 u2_filled u2_th u2_ep u2_rule u2_cm u2_vs u2_es) ++ (wSec (x_y X) u3 u3_filled u3_th u3_ep u3_rule u3_cm u3_vs u3_es) ++ (wO (x_y X) o0 ot)) rfl ?_
      obtain rfl := Option.some.inj hf
      exact g_iretH C E () dL_restore_13 rfl rfl (Nat.le_of_ble_eq_true rfl) (Nat.le_of_ble_eq_true rfl)
    have hf := opt_neg k3 hf
    cases hf
  have hf := opt_pos ev1 hf
  refine g_i2l C dL_restore_6 ?_
  obtain ⟨c4, hf⟩ := gg_of hf
  obtain ⟨f5, ef5, hf⟩ := opt_let hf
  refine g_last C (ws' := (wV (x_y X) v (b 0) (k 0) ak bf fa fl ln co ch gs op) ++ (wSt (x_y X) b v1.2.2.1 v1.2.2.2.1 v1.2.2.2.2.1 v1.2.2.2.2.2.1 v1.2.2.2.2.2.2.1 (gA4 (s0 0) (s1 0) (s2 0) (s3 0)) v1.2.2.2.2.2.2.2.1) ++ (wSec (x_y X) s0 v1.2.2.2.2.2.2.2.2.1 v1.2.2.2.2.2.2.2.2.2.1 v1.2.2.2.2.2.2.2.2.2.2.1 v1.2.2.2.2.2.2.2.2.2.2.2.1 v1.2.2.2.2.2.2.2.2.2.2.2.2.1 v1.2.2.2.2.2.2.2.2.2.2.2.2.2.1 v1.2.2.2.2.2.2.2.2.2.2.2.2.2.2.1) ++ (wSec (x_y X) s1 v1.2.2.2.2.2.2.2.2.2.2.2.2.2.2.2.1 v1.2.2.2.2.2.2.2.2.2.2.2.2.2.2.2.2.1 v1.2.2.2.2.2.2.2.2.2.2.2.2.2.2.2.2.2.1 v1.2.2.2.2.2.2.2.2.2.2.2.2.2.2.2.2.2.2.1 v1.2.2.2.2.2.2.2.2.2.2.2.2.2.2.2.2.2.2.2.1 v1.2.2.2.2.2.2.2.2.2.2.2.2.2.2.2.2.2.2.2.2.1 v1.2.2.2.2.2.2.2.2.2.2.2.2.2.2.2.2.2.2.2.2.2.1) ++ (wSec (x_y X) s2 v1.2.2.2.2.2.2.2.2.2.2.2.2.2.2.2.2.2.2.2.2.2.2.1 v1.2.2.2.2.2.2.2.2.2.2.2.2.2.2.2.2.2.2.2.2.2.2.2.1 v1.2.2.2.2.2.2.2.2.2.2.2.2.2.2.2.2.2.2.2.2.2.2.2.2.1 v1.2.2.2.2.2.2.2.2.2.2.2.2.2.2.2.2.2.2.2.2.2.2.2.2.2.1 v1.2.2.2.2.2.2.2.2.2.2.2.2.2.2.2.2.2.2.2.2.2.2.2.2.2.2.1 v1.2.2.2.2.2.2.2.2.2.2.2.2.2.2.2.2.2.2.2.2.2.2.2.2.2.2.2.1 v1.2.2.2.2.2.2.2.2.2.2.2.2.2.2.2.2.2.2.2.2.2.2.2.2.2.2.2.2.1) ++ (wSec (x_y X) s3 v1.2.2.2.2.2.2.2.2.2.2.2.2.2.2.2.2.2.2.2.2.2.2.2.2.2.2.2.2.2.1 v1.2.2.2.2.2.2.2.2.2.2.2.2.2.2.2.2.2.2.2.2.2.2.2.2.2.2.2.2.2.2.1 v1.2.2.2.2.2.2.2.2.2.2.2.2.2.2.2.2.2.2.2.2.2.2.2.2.2.2.2.2.2.2.2.1 v1.2.2.2.2.2.2.2.2.2.2.2.2.2.2.2.2.2.2.2.2.2.2.2.2.2.2.2.2.2.2.2.2.1 v1.2.2.2.2.2.2.2.2.2.2.2.2.2.2.2.2.2.2.2.2.2.2.2.2.2.2.2.2.2.2.2.2.2.1 v1.2.2.2.2.2.2.2.2.2.2.2.2.2.2.2.2.2.2.2.2.2.2.2.2.2.2.2.2.2.2.2.2.2.2.1 v1.2.2.2.2.2.2.2.2.2.2.2.2.2.2.2.2.2.2.2.2.2.2.2.2.2.2.2.2.2.2.2.2.2.2.2) ++ (wSt (x_y X) k k_z k_pr k_le k_ec k_wt (gA4 (u0 0) (u1 0) (u2 0) (u3 0)) k_ev) ++ (wSec (x_y X) u0 u0_filled u0_th u0_ep u0_rule u0_cm u0_vs u0_es) ++ (wSec (x_y X) u1 u1_filled u1_th u1_ep u1_rule u1_cm u1_vs u1_es) ++ (wSec (x_y X) u2 u2_filled u2_th u2_ep u2_rule u2_cm u2_vs u2_es) ++ (wSec (x_y X) u3 u3_filled u3_th u3_ep u3_rule u3_cm u3_vs u3_es) ++ (wO (x_y X) o0 f5)) 45 rfl (gi_in c4) (by rw [ef5]; rfl) dL_restore_7 ?_
  refine g_goto C 14 dL_restore_8 (by decide) ?_
  refine g_iconst C (v := 0) dL_restore_14 (by decide) ?_
  refine g_eqw (ws' := (wV (x_y X) v (b 0) (k 0) ak bf fa fl ln co ch gs op) ++ (wSt (x_y X) b v1.2.2.1 v1.2.2.2.1 v1.2.2.2.2.1 v1.2.2.2.2.2.1 v1.2.2.2.2.2.2.1 (gA4 (s0 0) (s1 0) (s2 0) (s3 0)) v1.2.2.2.2.2.2.2.1) ++ (wSec (x_y X) s0 v1.2.2.2.2.2.2.2.2.1 v1.2.2.2.2.2.2.2.2.2.1 v1.2.2.2.2.2.2.2.2.2.2.1 v1.2.2.2.2.2.2.2.2.2.2.2.1 v1.2.2.2.2.2.2.2.2.2.2.2.2.1 v1.2.2.2.2.2.2.2.2.2.2.2.2.2.1 v1.2.2.2.2.2.2.2.2.2.2.2.2.2.2.1) ++ (wSec (x_y X) s1 v1.2.2.2.2.2.2.2.2.2.2.2.2.2.2.2.1 v1.2.2.2.2.2.2.2.2.2.2.2.2.2.2.2.2.1 v1.2.2.2.2.2.2.2.2.2.2.2.2.2.2.2.2.2.1 v1.2.2.2.2.2.2.2.2.2.2.2.2.2.2.2.2.2.2.1 v1.2.2.2.2.2.2.2.2.2.2.2.2.2.2.2.2.2.2.2.1 v1.2.2.2.2.2.2.2.2.2.2.2.2.2.2.2.2.2.2.2.2.1 v1.2.2.2.2.2.2.2.2.2.2.2.2.2.2.2.2.2.2.2.2.2.1) ++ (wSec (x_y X) s2 v1.2.2.2.2.2.2.2.2.2.2.2.2.2.2.2.2.2.2.2.2.2.2.1 v1.2.2.2.2.2.2.2.2.2.2.2.2.2.2.2.2.2.2.2.2.2.2.2.1 v1.2.2.2.2.2.2.2.2.2.2.2.2.2.2.2.2.2.2.2.2.2.2.2.2.1 v1.2.2.2.2.2.2.2.2.2.2.2.2.2.2.2.2.2.2.2.2.2.2.2.2.2.1 v1.2.2.2.2.2.2.2.2.2.2.2.2.2.2.2.2.2.2.2.2.2.2.2.2.2.2.1 v1.2.2.2.2.2.2.2.2.2.2.2.2.2.2.2.2.2.2.2.2.2.2.2.2.2.2.2.1 v1.2.2.2.2.2.2.2.2.2.2.2.2.2.2.2.2.2.2.2.2.2.2.2.2.2.2.2.2.1) ++ (wSec (x_y X) s3 v1.2.2.2.2.2.2.2.2.2.2.2.2.2.2.2.2.2.2.2.2.2.2.2.2.2.2.2.2.2.1 v1.2.2.2.2.2.2.2.2.2.2.2.2.2.2.2.2.2.2.2.2.2.2.2.2.2.2.2.2.2.2.1 v1.2.2.2.2.2.2.2.2.2.2.2.2.2.2.2.2.2.2.2.2.2.2.2.2.2.2.2.2.2.2.2.1 v1.2.2.2.2.2.2.2.2.2.2.2.2.2.2.2.2.2.2.2.2.2.2.2.2.2.2.2.2.2.2.2.2.1 v1.2.2.2.2.2.2.2.2.2.2.2.2.2.2.2.2.2.2.2.2.2.2.2.2.2.2.2.2.2.2.2.2.2.1 v1.2.2.2.2.2.2.2.2.2.2.2.2.2.2.2.2.2.2.2.2.2.2.2.2.2.2.2.2.2.2.2.2.2.2.1 v1.2.2.2.2.2.2.2.2.2.2.2.2.2.2.2.2.2.2.2.2.2.2.2.2.2.2.2.2.2.2.2.2.2.2.2) ++ (wSt (x_y X) k k_z k_pr k_le k_ec k_wt (gA4 (u0 0) (u1 0) (u2 0) (u3 0)) k_ev) ++ (wSec (x_y X) u0 u0_filled u0_th u0_ep u0_rule u0_cm u0_vs u0_es) ++ (wSec (x_y X) u1 u1_filled u1_th u1_ep u1_rule u1_cm u1_vs u1_es) ++ (wSec (x_y X) u2 u2_filled u2_th u2_ep u2_rule u2_cm u2_vs u2_es) ++ (wSec (x_y X) u3 u3_filled u3_th u3_ep u3_rule u3_cm u3_vs u3_es) ++ (wO (x_y X) o0 f5)) rfl ?_
  obtain rfl := Option.some.inj hf
  exact g_iretH C E () dL_restore_15 rfl rfl (Nat.le_of_ble_eq_true rfl) (Nat.le_of_ble_eq_true rfl)
