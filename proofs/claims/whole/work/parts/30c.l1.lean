/-! L_setPolicy -/
theorem hd_L_setPolicy : yL_setPolicy.cls ≠ "java/lang/invoke/MethodHandle" ∧ yL_setPolicy.cls ≠ "java/lang/invoke/VarHandle" ∧ (parseMethodDescriptor yL_setPolicy.desc).map (fun d => d.parameters.length) = some 3 := by decide +kernel
def F_L_setPolicy (fa : Int32) (c_filled : Int32) (c_rule : Option Nat) (ml : Int32) (n : Int32) (cap : Nat) (bs : Nat → Int32) (ot : Nat → Int64) (p1 : Int32) : Option (Int32 × Int32 × Int32 × Int32 × Nat × (Nat → Int32) × (Nat → Int64) × gNP) := (F_X10_setPolicy fa c_filled c_rule ml n cap bs p1).bind fun v1 => match v1 with | (v1_0, v1_1, v1_2, v1_3, v1_4, v1_5, v1_6, none) => (if v1_0 = 0 then (if v1_1 = 0 then (gg (gi 0 1) (gl (vp_updL ot (Int32.toNatClampNeg 0) 0) fun f9 => some (0, v1_2, v1_3, v1_4, v1_5, v1_6, f9, none))) else (gg (gi 0 1) (gl (vp_updL ot (Int32.toNatClampNeg 0) 1) fun f11 => some (0, v1_2, v1_3, v1_4, v1_5, v1_6, f11, none)))) else (if v1_0 = 1 then (some (1, v1_2, v1_3, v1_4, v1_5, v1_6, ot, none)) else (if v1_0 = 3 then (some (2, v1_2, v1_3, v1_4, v1_5, v1_6, ot, none)) else (if v1_0 = 2 then (some (3, v1_2, v1_3, v1_4, v1_5, v1_6, ot, none)) else (none))))) | (v1_0, v1_1, v1_2, v1_3, v1_4, v1_5, v1_6, some none) => (if v1_0 = 0 then (if v1_1 = 0 then (gg (gi 0 1) (gl (vp_updL ot (Int32.toNatClampNeg 0) 0) fun f18 => some (0, v1_2, v1_3, v1_4, v1_5, v1_6, f18, (some none)))) else (gg (gi 0 1) (gl (vp_updL ot (Int32.toNatClampNeg 0) 1) fun f20 => some (0, v1_2, v1_3, v1_4, v1_5, v1_6, f20, (some none))))) else (if v1_0 = 1 then (some (1, v1_2, v1_3, v1_4, v1_5, v1_6, ot, (some none))) else (if v1_0 = 3 then (some (2, v1_2, v1_3, v1_4, v1_5, v1_6, ot, (some none))) else (if v1_0 = 2 then (some (3, v1_2, v1_3, v1_4, v1_5, v1_6, ot, (some none))) else (none))))) | (v1_0, v1_1, v1_2, v1_3, v1_4, v1_5, v1_6, some (some (v1_d0, v1_d1, v1_d2, v1_d3, v1_d4, v1_d5, v1_d6, v1_d7))) => (if v1_0 = 0 then (if v1_1 = 0 then (gg (gi 0 1) (gl (vp_updL ot (Int32.toNatClampNeg 0) 0) fun f27 => some (0, v1_2, v1_3, v1_4, v1_5, v1_6, f27, (some (some (v1_d0, v1_d1, v1_d2, v1_d3, v1_d4, v1_d5, v1_d6, v1_d7)))))) else (gg (gi 0 1) (gl (vp_updL ot (Int32.toNatClampNeg 0) 1) fun f29 => some (0, v1_2, v1_3, v1_4, v1_5, v1_6, f29, (some (some (v1_d0, v1_d1, v1_d2, v1_d3, v1_d4, v1_d5, v1_d6, v1_d7))))))) else (if v1_0 = 1 then (some (1, v1_2, v1_3, v1_4, v1_5, v1_6, ot, (some (some (v1_d0, v1_d1, v1_d2, v1_d3, v1_d4, v1_d5, v1_d6, v1_d7))))) else (if v1_0 = 3 then (some (2, v1_2, v1_3, v1_4, v1_5, v1_6, ot, (some (some (v1_d0, v1_d1, v1_d2, v1_d3, v1_d4, v1_d5, v1_d6, v1_d7))))) else (if v1_0 = 2 then (some (3, v1_2, v1_3, v1_4, v1_5, v1_6, ot, (some (some (v1_d0, v1_d1, v1_d2, v1_d3, v1_d4, v1_d5, v1_d6, v1_d7))))) else (none)))))
set_option maxRecDepth 100000 in
set_option maxHeartbeats 4000000 in
theorem c_L_setPolicy {l : Launch} {D : va_G} {cy : Nat → ClassId} {v : Nat → Nat} {b : Nat → Nat} {c : Nat → Nat} {sb sy : Nat} {o0 : Nat} {kp : Nat} {ak : Int32} {fa : Int32} {fl : Nat} {ln : Nat} {co : Nat → Int32} {ch : Nat → Int32} {gs : Nat → Int32} {op : Nat → Int32} {z : Int32} {pr : Int32} {le : Int32} {ec : Int32} {wt : Nat → Int32} {sa : Nat → Option Nat} {ev : Nat → Int32} {c_filled : Int32} {c_th : Int32} {c_ep : Int32} {c_rule : Option Nat} {c_cm : Nat → Int32} {c_vs : Nat → Int32} {c_es : Nat → Int32} {ml : Int32} {n : Int32} {cap : Nat} {bs : Nat → Int32} {ot : Nat → Int64} {p1 : Int32} (hs : gi p1 4 = true → sa (Int32.toNatClampNeg p1) = some (c 0)) {val : Int32 × Int32 × Int32 × Int32 × Nat × (Nat → Int32) × (Nat → Int64) × gNP} (hf : F_L_setPolicy fa c_filled c_rule ml n cap bs ot p1 = some val) : gCtH l D cy yL_setPolicy cL_setPolicy 4 (some .int) [(0, 16, 19, 13), (0, 16, 22, 34), (0, 16, 25, 15)] 11 243 86 6295 [.ref (v 0), .int p1, .ref o0] [] ((wV cy v (b 0) kp ak sb fa fl ln co ch gs op) ++ (wSt cy b z pr le ec wt sa ev) ++ (wSec cy c c_filled c_th c_ep c_rule c_cm c_vs c_es) ++ (wSb cy sb sy ml n cap bs) ++ (wO cy o0 ot)) (fun u : Nat × Nat × Nat × Nat × Nat => some (.int val.1)) (fun u => (wV cy v (b 0) kp ak sb val.2.1 fl ln co ch gs op) ++ (wSt cy b z pr le ec wt sa ev) ++ (wSec cy c c_filled c_th c_ep (gNPr val.2.2.2.2.2.2.2 u.2.1 c_rule) c_cm c_vs c_es) ++ (wSb cy sb u.1 val.2.2.1 val.2.2.2.1 val.2.2.2.2.1 val.2.2.2.2.2.1) ++ (wO cy o0 val.2.2.2.2.2.2.1) ++ gNPw cy val.2.2.2.2.2.2.2 u.2.1 u.2.2.1 u.2.2.2.1 u.2.2.2.2) := by
  refine g_beginH (by decide +kernel) (Nat.le_of_ble_eq_true rfl) ?_
  intro X Q hl hR hD hy hro hn C ht E
  subst hl; subst hD; subst hy
  replace C : gC X "SecretVaultLaw" cL_setPolicy (some .int) := C
  unfold F_L_setPolicy at hf
  show gW X Q 0 0 ((wV (x_y X) v (b 0) kp ak sb fa fl ln co ch gs op) ++ (wSt (x_y X) b z pr le ec wt sa ev) ++ (wSec (x_y X) c c_filled c_th c_ep c_rule c_cm c_vs c_es) ++ (wSb (x_y X) sb sy ml n cap bs) ++ (wO (x_y X) o0 ot)) [(0, .ref (v 0)), (1, .int p1), (2, .ref o0)] [] 0
  refine g_aload_n C 2 dL_setPolicy_0 rfl ?_
  refine g_iconst C (v := 0) dL_setPolicy_1 (by decide) ?_
  refine g_aload_n C 0 dL_setPolicy_2 rfl ?_
  refine g_iload_n C 1 dL_setPolicy_3 rfl ?_
  obtain ⟨v1, h2, hf⟩ := opt_bind hf
  obtain ⟨v1_0, v1_1, v1_2, v1_3, v1_4, v1_5, v1_6, v1_np⟩ := v1
  rcases v1_np with _ | _ | ⟨v1_d0, v1_d1, v1_d2, v1_d3, v1_d4, v1_d5, v1_d6, v1_d7⟩
  · refine g_callV C (c_X10_setPolicy (l := x_l X) (D := x_D X) (cy := x_y X) (v := v) (b := b) (c := c) (sb := sb) (sy := sy) (kp := kp) (ak := ak) (fa := fa) (fl := fl) (ln := ln) (co := co) (ch := ch) (gs := gs) (op := op) (z := z) (pr := pr) (le := le) (ec := ec) (wt := wt) (sa := sa) (ev := ev) (c_filled := c_filled) (c_th := c_th) (c_ep := c_ep) (c_rule := c_rule) (c_cm := c_cm) (c_vs := c_vs) (c_es := c_es) (ml := ml) (n := n) (cap := cap) (bs := bs) (p0 := p1) (hs := hs) h2) (As := [.int p1]) (rest := [.int 0, .ref o0]) (wr := (wO (x_y X) o0 ot)) (ws' := fun u3 => (wV (x_y X) v (b 0) kp ak sb v1_2 fl ln co ch gs op) ++ (wSt (x_y X) b z pr le ec wt sa ev) ++ (wSec (x_y X) c c_filled c_th c_ep c_rule c_cm c_vs c_es) ++ (wSb (x_y X) sb u3.1 v1_3 v1_4 v1_5 v1_6) ++ (wO (x_y X) o0 ot)) (st' := fun u3 => [.int v1_1, .int 0, .ref o0]) (ci := 11) 1 0 ⟨_, rfl⟩ rfl rfl mw_5_131 mw_1_1 mw_5_128 mw_5_129 mw_5_130 hd_X10_setPolicy rfl (g_rm hR rfl rfl) [0, 1, 2, 3, 4, 5, 6, 7, 8, 9, 10, 11, 12, 13, 14] [15] [1, 2, 3, 4, 5, 6, 7, 8, 9, 10, 11, 12, 13, 14, 15, 0] ⟨rfl, rfl, rfl, rfl, by decide, gRoIn_0, rfl, fun _ => rfl⟩ rfl (Nat.le_of_ble_eq_true rfl) dL_setPolicy_4 (g_rc hR (Nat.le_of_ble_eq_true rfl) (Nat.le_of_ble_eq_true rfl)) (ck' := 86) (sk' := 6295) rfl rfl (fun _ => rfl) (fun u3 ev1 => ?_) (fun u3 ev1 => ?_)
    rotate_left
    · have hf := opt_neg ev1 hf
      by_cases k4 : v1_0 = 1
      · have hf := opt_pos k4 hf
        have hE : gExn v1_0 = "java/lang/IndexOutOfBoundsException" := by rw [k4]; rfl
        rw [hE]
        refine g_catch C ht [] [(0, 16, 22, 34), (0, 16, 25, 15)] rfl (fun _ h => nomatch h) (by decide) (by decide) mw_2_10 (by decide +kernel) (fun xk4 => ?_)
        refine g_astore_n C (lv' := [(3, .ref xk4), (0, .ref (v 0)), (1, .int p1), (2, .ref o0)]) dL_setPolicy_19 (g_nlt hn rfl) rfl ?_
        refine g_iconst C (v := 1) dL_setPolicy_20 (by decide) ?_
        refine g_eqw (ws' := (wV (x_y X) v (b 0) kp ak sb v1_2 fl ln co ch gs op) ++ (wSt (x_y X) b z pr le ec wt sa ev) ++ (wSec (x_y X) c c_filled c_th c_ep c_rule c_cm c_vs c_es) ++ (wSb (x_y X) sb u3.1 v1_3 v1_4 v1_5 v1_6) ++ (wO (x_y X) o0 ot)) rfl ?_
        obtain rfl := Option.some.inj hf
        exact g_iretH C E (u3.1, 0, 0, 0, 0) dL_setPolicy_21 rfl rfl (Nat.le_of_ble_eq_true rfl) (Nat.le_of_ble_eq_true rfl)
      have hf := opt_neg k4 hf
      by_cases k5 : v1_0 = 3
      · have hf := opt_pos k5 hf
        have hE : gExn v1_0 = "java/util/NoSuchElementException" := by rw [k5]; rfl
        rw [hE]
        refine g_catch C ht [(0, 16, 19, 13)] [(0, 16, 25, 15)] rfl (List.forall_mem_cons.mpr ⟨Or.inr ⟨by decide, "java/lang/IndexOutOfBoundsException", mw_2_10, by decide +kernel⟩, fun _ h => nomatch h⟩) (by decide) (by decide) mw_3_26 (by decide +kernel) (fun xk5 => ?_)
        refine g_astore_n C (lv' := [(3, .ref xk5), (0, .ref (v 0)), (1, .int p1), (2, .ref o0)]) dL_setPolicy_22 (g_nlt hn rfl) rfl ?_
        refine g_iconst C (v := 2) dL_setPolicy_23 (by decide) ?_
        refine g_eqw (ws' := (wV (x_y X) v (b 0) kp ak sb v1_2 fl ln co ch gs op) ++ (wSt (x_y X) b z pr le ec wt sa ev) ++ (wSec (x_y X) c c_filled c_th c_ep c_rule c_cm c_vs c_es) ++ (wSb (x_y X) sb u3.1 v1_3 v1_4 v1_5 v1_6) ++ (wO (x_y X) o0 ot)) rfl ?_
        obtain rfl := Option.some.inj hf
        exact g_iretH C E (u3.1, 0, 0, 0, 0) dL_setPolicy_24 rfl rfl (Nat.le_of_ble_eq_true rfl) (Nat.le_of_ble_eq_true rfl)
      have hf := opt_neg k5 hf
      by_cases k6 : v1_0 = 2
      · have hf := opt_pos k6 hf
        have hE : gExn v1_0 = "java/lang/IllegalArgumentException" := by rw [k6]; rfl
        rw [hE]
        refine g_catch C ht [(0, 16, 19, 13), (0, 16, 22, 34)] [] rfl (List.forall_mem_cons.mpr ⟨Or.inr ⟨by decide, "java/lang/IndexOutOfBoundsException", mw_2_10, by decide +kernel⟩, List.forall_mem_cons.mpr ⟨Or.inr ⟨by decide, "java/util/NoSuchElementException", mw_3_26, by decide +kernel⟩, fun _ h => nomatch h⟩⟩) (by decide) (by decide) mw_2_90 (by decide +kernel) (fun xk6 => ?_)
        refine g_astore_n C (lv' := [(3, .ref xk6), (0, .ref (v 0)), (1, .int p1), (2, .ref o0)]) dL_setPolicy_25 (g_nlt hn rfl) rfl ?_
        refine g_iconst C (v := 3) dL_setPolicy_26 (by decide) ?_
        refine g_eqw (ws' := (wV (x_y X) v (b 0) kp ak sb v1_2 fl ln co ch gs op) ++ (wSt (x_y X) b z pr le ec wt sa ev) ++ (wSec (x_y X) c c_filled c_th c_ep c_rule c_cm c_vs c_es) ++ (wSb (x_y X) sb u3.1 v1_3 v1_4 v1_5 v1_6) ++ (wO (x_y X) o0 ot)) rfl ?_
        obtain rfl := Option.some.inj hf
        exact g_iretH C E (u3.1, 0, 0, 0, 0) dL_setPolicy_27 rfl rfl (Nat.le_of_ble_eq_true rfl) (Nat.le_of_ble_eq_true rfl)
      have hf := opt_neg k6 hf
      cases hf
    have hf := opt_pos ev1 hf
    refine g_if_eq C 14 dL_setPolicy_7 (by decide) (fun c7 => ?_) (fun c7 => ?_)
    · have hf := opt_pos c7 hf
      refine g_lconst C (v := 0) dL_setPolicy_14 (by decide) ?_
      obtain ⟨c8, hf⟩ := gg_of hf
      obtain ⟨f9, ef9, hf⟩ := opt_let hf
      refine g_last C (ws' := (wV (x_y X) v (b 0) kp ak sb v1_2 fl ln co ch gs op) ++ (wSt (x_y X) b z pr le ec wt sa ev) ++ (wSec (x_y X) c c_filled c_th c_ep c_rule c_cm c_vs c_es) ++ (wSb (x_y X) sb u3.1 v1_3 v1_4 v1_5 v1_6) ++ (wO (x_y X) o0 f9)) 15 rfl (gi_in c8) (by rw [ef9]; rfl) dL_setPolicy_15 ?_
      refine g_goto C 28 dL_setPolicy_16 (by decide) ?_
      refine g_iconst C (v := 0) dL_setPolicy_28 (by decide) ?_
      refine g_eqw (ws' := (wV (x_y X) v (b 0) kp ak sb v1_2 fl ln co ch gs op) ++ (wSt (x_y X) b z pr le ec wt sa ev) ++ (wSec (x_y X) c c_filled c_th c_ep c_rule c_cm c_vs c_es) ++ (wSb (x_y X) sb u3.1 v1_3 v1_4 v1_5 v1_6) ++ (wO (x_y X) o0 f9)) rfl ?_
      obtain rfl := Option.some.inj hf
      exact g_iretH C E (u3.1, 0, 0, 0, 0) dL_setPolicy_29 rfl rfl (Nat.le_of_ble_eq_true rfl) (Nat.le_of_ble_eq_true rfl)
    · have hf := opt_neg c7 hf
      refine g_lconst C (v := 1) dL_setPolicy_10 (by decide) ?_
      refine g_goto C 15 dL_setPolicy_11 (by decide) ?_
      obtain ⟨c10, hf⟩ := gg_of hf
      obtain ⟨f11, ef11, hf⟩ := opt_let hf
      refine g_last C (ws' := (wV (x_y X) v (b 0) kp ak sb v1_2 fl ln co ch gs op) ++ (wSt (x_y X) b z pr le ec wt sa ev) ++ (wSec (x_y X) c c_filled c_th c_ep c_rule c_cm c_vs c_es) ++ (wSb (x_y X) sb u3.1 v1_3 v1_4 v1_5 v1_6) ++ (wO (x_y X) o0 f11)) 15 rfl (gi_in c10) (by rw [ef11]; rfl) dL_setPolicy_15 ?_
      refine g_goto C 28 dL_setPolicy_16 (by decide) ?_
      refine g_iconst C (v := 0) dL_setPolicy_28 (by decide) ?_
      refine g_eqw (ws' := (wV (x_y X) v (b 0) kp ak sb v1_2 fl ln co ch gs op) ++ (wSt (x_y X) b z pr le ec wt sa ev) ++ (wSec (x_y X) c c_filled c_th c_ep c_rule c_cm c_vs c_es) ++ (wSb (x_y X) sb u3.1 v1_3 v1_4 v1_5 v1_6) ++ (wO (x_y X) o0 f11)) rfl ?_
      obtain rfl := Option.some.inj hf
      exact g_iretH C E (u3.1, 0, 0, 0, 0) dL_setPolicy_29 rfl rfl (Nat.le_of_ble_eq_true rfl) (Nat.le_of_ble_eq_true rfl)
  · refine g_callV C (c_X10_setPolicy (l := x_l X) (D := x_D X) (cy := x_y X) (v := v) (b := b) (c := c) (sb := sb) (sy := sy) (kp := kp) (ak := ak) (fa := fa) (fl := fl) (ln := ln) (co := co) (ch := ch) (gs := gs) (op := op) (z := z) (pr := pr) (le := le) (ec := ec) (wt := wt) (sa := sa) (ev := ev) (c_filled := c_filled) (c_th := c_th) (c_ep := c_ep) (c_rule := c_rule) (c_cm := c_cm) (c_vs := c_vs) (c_es := c_es) (ml := ml) (n := n) (cap := cap) (bs := bs) (p0 := p1) (hs := hs) h2) (As := [.int p1]) (rest := [.int 0, .ref o0]) (wr := (wO (x_y X) o0 ot)) (ws' := fun u12 => (wV (x_y X) v (b 0) kp ak sb v1_2 fl ln co ch gs op) ++ (wSt (x_y X) b z pr le ec wt sa ev) ++ (wSec (x_y X) c c_filled c_th c_ep none c_cm c_vs c_es) ++ (wSb (x_y X) sb u12.1 v1_3 v1_4 v1_5 v1_6) ++ (wO (x_y X) o0 ot)) (st' := fun u12 => [.int v1_1, .int 0, .ref o0]) (ci := 11) 1 0 ⟨_, rfl⟩ rfl rfl mw_5_131 mw_1_1 mw_5_128 mw_5_129 mw_5_130 hd_X10_setPolicy rfl (g_rm hR rfl rfl) [0, 1, 2, 3, 4, 5, 6, 7, 8, 9, 10, 11, 12, 13, 14] [15] [1, 2, 3, 4, 5, 6, 7, 8, 9, 10, 11, 12, 13, 14, 15, 0] ⟨rfl, rfl, rfl, rfl, by decide, gRoIn_0, rfl, fun _ => rfl⟩ rfl (Nat.le_of_ble_eq_true rfl) dL_setPolicy_4 (g_rc hR (Nat.le_of_ble_eq_true rfl) (Nat.le_of_ble_eq_true rfl)) (ck' := 86) (sk' := 6295) rfl rfl (fun _ => rfl) (fun u12 ev1 => ?_) (fun u12 ev1 => ?_)
    rotate_left
    · have hf := opt_neg ev1 hf
      by_cases k13 : v1_0 = 1
      · have hf := opt_pos k13 hf
        have hE : gExn v1_0 = "java/lang/IndexOutOfBoundsException" := by rw [k13]; rfl
        rw [hE]
        refine g_catch C ht [] [(0, 16, 22, 34), (0, 16, 25, 15)] rfl (fun _ h => nomatch h) (by decide) (by decide) mw_2_10 (by decide +kernel) (fun xk13 => ?_)
        refine g_astore_n C (lv' := [(3, .ref xk13), (0, .ref (v 0)), (1, .int p1), (2, .ref o0)]) dL_setPolicy_19 (g_nlt hn rfl) rfl ?_
        refine g_iconst C (v := 1) dL_setPolicy_20 (by decide) ?_
        refine g_eqw (ws' := (wV (x_y X) v (b 0) kp ak sb v1_2 fl ln co ch gs op) ++ (wSt (x_y X) b z pr le ec wt sa ev) ++ (wSec (x_y X) c c_filled c_th c_ep none c_cm c_vs c_es) ++ (wSb (x_y X) sb u12.1 v1_3 v1_4 v1_5 v1_6) ++ (wO (x_y X) o0 ot)) rfl ?_
        obtain rfl := Option.some.inj hf
        exact g_iretH C E (u12.1, 0, 0, 0, 0) dL_setPolicy_21 rfl rfl (Nat.le_of_ble_eq_true rfl) (Nat.le_of_ble_eq_true rfl)
      have hf := opt_neg k13 hf
      by_cases k14 : v1_0 = 3
      · have hf := opt_pos k14 hf
        have hE : gExn v1_0 = "java/util/NoSuchElementException" := by rw [k14]; rfl
        rw [hE]
        refine g_catch C ht [(0, 16, 19, 13)] [(0, 16, 25, 15)] rfl (List.forall_mem_cons.mpr ⟨Or.inr ⟨by decide, "java/lang/IndexOutOfBoundsException", mw_2_10, by decide +kernel⟩, fun _ h => nomatch h⟩) (by decide) (by decide) mw_3_26 (by decide +kernel) (fun xk14 => ?_)
        refine g_astore_n C (lv' := [(3, .ref xk14), (0, .ref (v 0)), (1, .int p1), (2, .ref o0)]) dL_setPolicy_22 (g_nlt hn rfl) rfl ?_
        refine g_iconst C (v := 2) dL_setPolicy_23 (by decide) ?_
        refine g_eqw (ws' := (wV (x_y X) v (b 0) kp ak sb v1_2 fl ln co ch gs op) ++ (wSt (x_y X) b z pr le ec wt sa ev) ++ (wSec (x_y X) c c_filled c_th c_ep none c_cm c_vs c_es) ++ (wSb (x_y X) sb u12.1 v1_3 v1_4 v1_5 v1_6) ++ (wO (x_y X) o0 ot)) rfl ?_
        obtain rfl := Option.some.inj hf
        exact g_iretH C E (u12.1, 0, 0, 0, 0) dL_setPolicy_24 rfl rfl (Nat.le_of_ble_eq_true rfl) (Nat.le_of_ble_eq_true rfl)
      have hf := opt_neg k14 hf
      by_cases k15 : v1_0 = 2
      · have hf := opt_pos k15 hf
        have hE : gExn v1_0 = "java/lang/IllegalArgumentException" := by rw [k15]; rfl
        rw [hE]
        refine g_catch C ht [(0, 16, 19, 13), (0, 16, 22, 34)] [] rfl (List.forall_mem_cons.mpr ⟨Or.inr ⟨by decide, "java/lang/IndexOutOfBoundsException", mw_2_10, by decide +kernel⟩, List.forall_mem_cons.mpr ⟨Or.inr ⟨by decide, "java/util/NoSuchElementException", mw_3_26, by decide +kernel⟩, fun _ h => nomatch h⟩⟩) (by decide) (by decide) mw_2_90 (by decide +kernel) (fun xk15 => ?_)
        refine g_astore_n C (lv' := [(3, .ref xk15), (0, .ref (v 0)), (1, .int p1), (2, .ref o0)]) dL_setPolicy_25 (g_nlt hn rfl) rfl ?_
        refine g_iconst C (v := 3) dL_setPolicy_26 (by decide) ?_
        refine g_eqw (ws' := (wV (x_y X) v (b 0) kp ak sb v1_2 fl ln co ch gs op) ++ (wSt (x_y X) b z pr le ec wt sa ev) ++ (wSec (x_y X) c c_filled c_th c_ep none c_cm c_vs c_es) ++ (wSb (x_y X) sb u12.1 v1_3 v1_4 v1_5 v1_6) ++ (wO (x_y X) o0 ot)) rfl ?_
        obtain rfl := Option.some.inj hf
        exact g_iretH C E (u12.1, 0, 0, 0, 0) dL_setPolicy_27 rfl rfl (Nat.le_of_ble_eq_true rfl) (Nat.le_of_ble_eq_true rfl)
      have hf := opt_neg k15 hf
      cases hf
    have hf := opt_pos ev1 hf
    refine g_if_eq C 14 dL_setPolicy_7 (by decide) (fun c16 => ?_) (fun c16 => ?_)
    · have hf := opt_pos c16 hf
      refine g_lconst C (v := 0) dL_setPolicy_14 (by decide) ?_
      obtain ⟨c17, hf⟩ := gg_of hf
      obtain ⟨f18, ef18, hf⟩ := opt_let hf
      refine g_last C (ws' := (wV (x_y X) v (b 0) kp ak sb v1_2 fl ln co ch gs op) ++ (wSt (x_y X) b z pr le ec wt sa ev) ++ (wSec (x_y X) c c_filled c_th c_ep none c_cm c_vs c_es) ++ (wSb (x_y X) sb u12.1 v1_3 v1_4 v1_5 v1_6) ++ (wO (x_y X) o0 f18)) 15 rfl (gi_in c17) (by rw [ef18]; rfl) dL_setPolicy_15 ?_
      refine g_goto C 28 dL_setPolicy_16 (by decide) ?_
      refine g_iconst C (v := 0) dL_setPolicy_28 (by decide) ?_
      refine g_eqw (ws' := (wV (x_y X) v (b 0) kp ak sb v1_2 fl ln co ch gs op) ++ (wSt (x_y X) b z pr le ec wt sa ev) ++ (wSec (x_y X) c c_filled c_th c_ep none c_cm c_vs c_es) ++ (wSb (x_y X) sb u12.1 v1_3 v1_4 v1_5 v1_6) ++ (wO (x_y X) o0 f18)) rfl ?_
      obtain rfl := Option.some.inj hf
      exact g_iretH C E (u12.1, 0, 0, 0, 0) dL_setPolicy_29 rfl rfl (Nat.le_of_ble_eq_true rfl) (Nat.le_of_ble_eq_true rfl)
    · have hf := opt_neg c16 hf
      refine g_lconst C (v := 1) dL_setPolicy_10 (by decide) ?_
      refine g_goto C 15 dL_setPolicy_11 (by decide) ?_
      obtain ⟨c19, hf⟩ := gg_of hf
      obtain ⟨f20, ef20, hf⟩ := opt_let hf
      refine g_last C (ws' := (wV (x_y X) v (b 0) kp ak sb v1_2 fl ln co ch gs op) ++ (wSt (x_y X) b z pr le ec wt sa ev) ++ (wSec (x_y X) c c_filled c_th c_ep none c_cm c_vs c_es) ++ (wSb (x_y X) sb u12.1 v1_3 v1_4 v1_5 v1_6) ++ (wO (x_y X) o0 f20)) 15 rfl (gi_in c19) (by rw [ef20]; rfl) dL_setPolicy_15 ?_
      refine g_goto C 28 dL_setPolicy_16 (by decide) ?_
      refine g_iconst C (v := 0) dL_setPolicy_28 (by decide) ?_
      refine g_eqw (ws' := (wV (x_y X) v (b 0) kp ak sb v1_2 fl ln co ch gs op) ++ (wSt (x_y X) b z pr le ec wt sa ev) ++ (wSec (x_y X) c c_filled c_th c_ep none c_cm c_vs c_es) ++ (wSb (x_y X) sb u12.1 v1_3 v1_4 v1_5 v1_6) ++ (wO (x_y X) o0 f20)) rfl ?_
      obtain rfl := Option.some.inj hf
      exact g_iretH C E (u12.1, 0, 0, 0, 0) dL_setPolicy_29 rfl rfl (Nat.le_of_ble_eq_true rfl) (Nat.le_of_ble_eq_true rfl)
  · refine g_callV C (c_X10_setPolicy (l := x_l X) (D := x_D X) (cy := x_y X) (v := v) (b := b) (c := c) (sb := sb) (sy := sy) (kp := kp) (ak := ak) (fa := fa) (fl := fl) (ln := ln) (co := co) (ch := ch) (gs := gs) (op := op) (z := z) (pr := pr) (le := le) (ec := ec) (wt := wt) (sa := sa) (ev := ev) (c_filled := c_filled) (c_th := c_th) (c_ep := c_ep) (c_rule := c_rule) (c_cm := c_cm) (c_vs := c_vs) (c_es := c_es) (ml := ml) (n := n) (cap := cap) (bs := bs) (p0 := p1) (hs := hs) h2) (As := [.int p1]) (rest := [.int 0, .ref o0]) (wr := (wO (x_y X) o0 ot)) (ws' := fun u21 => (wV (x_y X) v (b 0) kp ak sb v1_2 fl ln co ch gs op) ++ (wSt (x_y X) b z pr le ec wt sa ev) ++ (wSec (x_y X) c c_filled c_th c_ep (some u21.2.1) c_cm c_vs c_es) ++ (wSb (x_y X) sb u21.1 v1_3 v1_4 v1_5 v1_6) ++ (wO (x_y X) o0 ot) ++ (wPo (x_y X) u21.2.1 u21.2.2.1 u21.2.2.2.1 u21.2.2.2.2 v1_d0 v1_d1 v1_d2 v1_d3 v1_d4 v1_d5 v1_d6 v1_d7)) (st' := fun u21 => [.int v1_1, .int 0, .ref o0]) (ci := 11) 1 0 ⟨_, rfl⟩ rfl rfl mw_5_131 mw_1_1 mw_5_128 mw_5_129 mw_5_130 hd_X10_setPolicy rfl (g_rm hR rfl rfl) [0, 1, 2, 3, 4, 5, 6, 7, 8, 9, 10, 11, 12, 13, 14] [15] [1, 2, 3, 4, 5, 6, 7, 8, 9, 10, 11, 12, 13, 14, 15, 0, 16, 17, 18, 19] ⟨rfl, rfl, rfl, rfl, by decide, gRoIn_0, rfl, fun _ => rfl⟩ rfl (Nat.le_of_ble_eq_true rfl) dL_setPolicy_4 (g_rc hR (Nat.le_of_ble_eq_true rfl) (Nat.le_of_ble_eq_true rfl)) (ck' := 86) (sk' := 6295) rfl rfl (fun _ => rfl) (fun u21 ev1 => ?_) (fun u21 ev1 => ?_)
    rotate_left
    · have hf := opt_neg ev1 hf
      by_cases k22 : v1_0 = 1
      · have hf := opt_pos k22 hf
        have hE : gExn v1_0 = "java/lang/IndexOutOfBoundsException" := by rw [k22]; rfl
        rw [hE]
        refine g_catch C ht [] [(0, 16, 22, 34), (0, 16, 25, 15)] rfl (fun _ h => nomatch h) (by decide) (by decide) mw_2_10 (by decide +kernel) (fun xk22 => ?_)
        refine g_astore_n C (lv' := [(3, .ref xk22), (0, .ref (v 0)), (1, .int p1), (2, .ref o0)]) dL_setPolicy_19 (g_nlt hn rfl) rfl ?_
        refine g_iconst C (v := 1) dL_setPolicy_20 (by decide) ?_
        refine g_eqw (ws' := (wV (x_y X) v (b 0) kp ak sb v1_2 fl ln co ch gs op) ++ (wSt (x_y X) b z pr le ec wt sa ev) ++ (wSec (x_y X) c c_filled c_th c_ep (some u21.2.1) c_cm c_vs c_es) ++ (wSb (x_y X) sb u21.1 v1_3 v1_4 v1_5 v1_6) ++ (wO (x_y X) o0 ot) ++ (wPo (x_y X) u21.2.1 u21.2.2.1 u21.2.2.2.1 u21.2.2.2.2 v1_d0 v1_d1 v1_d2 v1_d3 v1_d4 v1_d5 v1_d6 v1_d7)) rfl ?_
        obtain rfl := Option.some.inj hf
        exact g_iretH C E (u21.1, u21.2.1, u21.2.2.1, u21.2.2.2.1, u21.2.2.2.2) dL_setPolicy_21 rfl rfl (Nat.le_of_ble_eq_true rfl) (Nat.le_of_ble_eq_true rfl)
      have hf := opt_neg k22 hf
      by_cases k23 : v1_0 = 3
      · have hf := opt_pos k23 hf
        have hE : gExn v1_0 = "java/util/NoSuchElementException" := by rw [k23]; rfl
        rw [hE]
        refine g_catch C ht [(0, 16, 19, 13)] [(0, 16, 25, 15)] rfl (List.forall_mem_cons.mpr ⟨Or.inr ⟨by decide, "java/lang/IndexOutOfBoundsException", mw_2_10, by decide +kernel⟩, fun _ h => nomatch h⟩) (by decide) (by decide) mw_3_26 (by decide +kernel) (fun xk23 => ?_)
        refine g_astore_n C (lv' := [(3, .ref xk23), (0, .ref (v 0)), (1, .int p1), (2, .ref o0)]) dL_setPolicy_22 (g_nlt hn rfl) rfl ?_
        refine g_iconst C (v := 2) dL_setPolicy_23 (by decide) ?_
        refine g_eqw (ws' := (wV (x_y X) v (b 0) kp ak sb v1_2 fl ln co ch gs op) ++ (wSt (x_y X) b z pr le ec wt sa ev) ++ (wSec (x_y X) c c_filled c_th c_ep (some u21.2.1) c_cm c_vs c_es) ++ (wSb (x_y X) sb u21.1 v1_3 v1_4 v1_5 v1_6) ++ (wO (x_y X) o0 ot) ++ (wPo (x_y X) u21.2.1 u21.2.2.1 u21.2.2.2.1 u21.2.2.2.2 v1_d0 v1_d1 v1_d2 v1_d3 v1_d4 v1_d5 v1_d6 v1_d7)) rfl ?_
        obtain rfl := Option.some.inj hf
        exact g_iretH C E (u21.1, u21.2.1, u21.2.2.1, u21.2.2.2.1, u21.2.2.2.2) dL_setPolicy_24 rfl rfl (Nat.le_of_ble_eq_true rfl) (Nat.le_of_ble_eq_true rfl)
      have hf := opt_neg k23 hf
      by_cases k24 : v1_0 = 2
      · have hf := opt_pos k24 hf
        have hE : gExn v1_0 = "java/lang/IllegalArgumentException" := by rw [k24]; rfl
        rw [hE]
        refine g_catch C ht [(0, 16, 19, 13), (0, 16, 22, 34)] [] rfl (List.forall_mem_cons.mpr ⟨Or.inr ⟨by decide, "java/lang/IndexOutOfBoundsException", mw_2_10, by decide +kernel⟩, List.forall_mem_cons.mpr ⟨Or.inr ⟨by decide, "java/util/NoSuchElementException", mw_3_26, by decide +kernel⟩, fun _ h => nomatch h⟩⟩) (by decide) (by decide) mw_2_90 (by decide +kernel) (fun xk24 => ?_)
        refine g_astore_n C (lv' := [(3, .ref xk24), (0, .ref (v 0)), (1, .int p1), (2, .ref o0)]) dL_setPolicy_25 (g_nlt hn rfl) rfl ?_
        refine g_iconst C (v := 3) dL_setPolicy_26 (by decide) ?_
        refine g_eqw (ws' := (wV (x_y X) v (b 0) kp ak sb v1_2 fl ln co ch gs op) ++ (wSt (x_y X) b z pr le ec wt sa ev) ++ (wSec (x_y X) c c_filled c_th c_ep (some u21.2.1) c_cm c_vs c_es) ++ (wSb (x_y X) sb u21.1 v1_3 v1_4 v1_5 v1_6) ++ (wO (x_y X) o0 ot) ++ (wPo (x_y X) u21.2.1 u21.2.2.1 u21.2.2.2.1 u21.2.2.2.2 v1_d0 v1_d1 v1_d2 v1_d3 v1_d4 v1_d5 v1_d6 v1_d7)) rfl ?_
        obtain rfl := Option.some.inj hf
        exact g_iretH C E (u21.1, u21.2.1, u21.2.2.1, u21.2.2.2.1, u21.2.2.2.2) dL_setPolicy_27 rfl rfl (Nat.le_of_ble_eq_true rfl) (Nat.le_of_ble_eq_true rfl)
      have hf := opt_neg k24 hf
      cases hf
    have hf := opt_pos ev1 hf
    refine g_if_eq C 14 dL_setPolicy_7 (by decide) (fun c25 => ?_) (fun c25 => ?_)
    · have hf := opt_pos c25 hf
      refine g_lconst C (v := 0) dL_setPolicy_14 (by decide) ?_
      obtain ⟨c26, hf⟩ := gg_of hf
      obtain ⟨f27, ef27, hf⟩ := opt_let hf
      refine g_last C (ws' := (wV (x_y X) v (b 0) kp ak sb v1_2 fl ln co ch gs op) ++ (wSt (x_y X) b z pr le ec wt sa ev) ++ (wSec (x_y X) c c_filled c_th c_ep (some u21.2.1) c_cm c_vs c_es) ++ (wSb (x_y X) sb u21.1 v1_3 v1_4 v1_5 v1_6) ++ (wO (x_y X) o0 f27) ++ (wPo (x_y X) u21.2.1 u21.2.2.1 u21.2.2.2.1 u21.2.2.2.2 v1_d0 v1_d1 v1_d2 v1_d3 v1_d4 v1_d5 v1_d6 v1_d7)) 15 rfl (gi_in c26) (by rw [ef27]; rfl) dL_setPolicy_15 ?_
      refine g_goto C 28 dL_setPolicy_16 (by decide) ?_
      refine g_iconst C (v := 0) dL_setPolicy_28 (by decide) ?_
      refine g_eqw (ws' := (wV (x_y X) v (b 0) kp ak sb v1_2 fl ln co ch gs op) ++ (wSt (x_y X) b z pr le ec wt sa ev) ++ (wSec (x_y X) c c_filled c_th c_ep (some u21.2.1) c_cm c_vs c_es) ++ (wSb (x_y X) sb u21.1 v1_3 v1_4 v1_5 v1_6) ++ (wO (x_y X) o0 f27) ++ (wPo (x_y X) u21.2.1 u21.2.2.1 u21.2.2.2.1 u21.2.2.2.2 v1_d0 v1_d1 v1_d2 v1_d3 v1_d4 v1_d5 v1_d6 v1_d7)) rfl ?_
      obtain rfl := Option.some.inj hf
      exact g_iretH C E (u21.1, u21.2.1, u21.2.2.1, u21.2.2.2.1, u21.2.2.2.2) dL_setPolicy_29 rfl rfl (Nat.le_of_ble_eq_true rfl) (Nat.le_of_ble_eq_true rfl)
    · have hf := opt_neg c25 hf
      refine g_lconst C (v := 1) dL_setPolicy_10 (by decide) ?_
      refine g_goto C 15 dL_setPolicy_11 (by decide) ?_
      obtain ⟨c28, hf⟩ := gg_of hf
      obtain ⟨f29, ef29, hf⟩ := opt_let hf
      refine g_last C (ws' := (wV (x_y X) v (b 0) kp ak sb v1_2 fl ln co ch gs op) ++ (wSt (x_y X) b z pr le ec wt sa ev) ++ (wSec (x_y X) c c_filled c_th c_ep (some u21.2.1) c_cm c_vs c_es) ++ (wSb (x_y X) sb u21.1 v1_3 v1_4 v1_5 v1_6) ++ (wO (x_y X) o0 f29) ++ (wPo (x_y X) u21.2.1 u21.2.2.1 u21.2.2.2.1 u21.2.2.2.2 v1_d0 v1_d1 v1_d2 v1_d3 v1_d4 v1_d5 v1_d6 v1_d7)) 15 rfl (gi_in c28) (by rw [ef29]; rfl) dL_setPolicy_15 ?_
      refine g_goto C 28 dL_setPolicy_16 (by decide) ?_
      refine g_iconst C (v := 0) dL_setPolicy_28 (by decide) ?_
      refine g_eqw (ws' := (wV (x_y X) v (b 0) kp ak sb v1_2 fl ln co ch gs op) ++ (wSt (x_y X) b z pr le ec wt sa ev) ++ (wSec (x_y X) c c_filled c_th c_ep (some u21.2.1) c_cm c_vs c_es) ++ (wSb (x_y X) sb u21.1 v1_3 v1_4 v1_5 v1_6) ++ (wO (x_y X) o0 f29) ++ (wPo (x_y X) u21.2.1 u21.2.2.1 u21.2.2.2.1 u21.2.2.2.2 v1_d0 v1_d1 v1_d2 v1_d3 v1_d4 v1_d5 v1_d6 v1_d7)) rfl ?_
      obtain rfl := Option.some.inj hf
      exact g_iretH C E (u21.1, u21.2.1, u21.2.2.1, u21.2.2.2.1, u21.2.2.2.2) dL_setPolicy_29 rfl rfl (Nat.le_of_ble_eq_true rfl) (Nat.le_of_ble_eq_true rfl)
