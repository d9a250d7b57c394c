/-! X9_copyFrom -/
theorem hd_X9_copyFrom : yX9_copyFrom.cls ≠ "java/lang/invoke/MethodHandle" ∧ yX9_copyFrom.cls ≠ "java/lang/invoke/VarHandle" ∧ (parseMethodDescriptor yX9_copyFrom.desc).map (fun d => d.parameters.length) = some 1 := by decide +kernel
def F_X9_copyFrom (z : Int32) (pr : Int32) (le : Int32) (ec : Int32) (wt : Nat → Int32) (ev : Nat → Int32) (s0_filled : Int32) (s0_th : Int32) (s0_ep : Int32) (s0_rule : Option Nat) (s0_cm : Nat → Int32) (s0_vs : Nat → Int32) (s0_es : Nat → Int32) (s1_filled : Int32) (s1_th : Int32) (s1_ep : Int32) (s1_rule : Option Nat) (s1_cm : Nat → Int32) (s1_vs : Nat → Int32) (s1_es : Nat → Int32) (s2_filled : Int32) (s2_th : Int32) (s2_ep : Int32) (s2_rule : Option Nat) (s2_cm : Nat → Int32) (s2_vs : Nat → Int32) (s2_es : Nat → Int32) (s3_filled : Int32) (s3_th : Int32) (s3_ep : Int32) (s3_rule : Option Nat) (s3_cm : Nat → Int32) (s3_vs : Nat → Int32) (s3_es : Nat → Int32) (o_z : Int32) (o_pr : Int32) (o_le : Int32) (o_ec : Int32) (o_wt : Nat → Int32) (o_ev : Nat → Int32) (u0_filled : Int32) (u0_th : Int32) (u0_ep : Int32) (u0_rule : Option Nat) (u0_cm : Nat → Int32) (u0_vs : Nat → Int32) (u0_es : Nat → Int32) (u1_filled : Int32) (u1_th : Int32) (u1_ep : Int32) (u1_rule : Option Nat) (u1_cm : Nat → Int32) (u1_vs : Nat → Int32) (u1_es : Nat → Int32) (u2_filled : Int32) (u2_th : Int32) (u2_ep : Int32) (u2_rule : Option Nat) (u2_cm : Nat → Int32) (u2_vs : Nat → Int32) (u2_es : Nat → Int32) (u3_filled : Int32) (u3_th : Int32) (u3_ep : Int32) (u3_rule : Option Nat) (u3_cm : Nat → Int32) (u3_vs : Nat → Int32) (u3_es : Nat → Int32) : Option (Int32 × Int32 × Int32 × Int32 × (Nat → Int32) × (Nat → Int32) × Int32 × Int32 × Int32 × Option Nat × (Nat → Int32) × (Nat → Int32) × (Nat → Int32) × Int32 × Int32 × Int32 × Option Nat × (Nat → Int32) × (Nat → Int32) × (Nat → Int32) × Int32 × Int32 × Int32 × Option Nat × (Nat → Int32) × (Nat → Int32) × (Nat → Int32) × Int32 × Int32 × Int32 × Option Nat × (Nat → Int32) × (Nat → Int32) × (Nat → Int32)) := (F_X7_copyFrom s0_filled s0_th s0_ep s0_rule s0_cm s0_vs s0_es u0_filled u0_th u0_ep u0_rule u0_cm u0_vs u0_es).bind fun v1 => (F_X7_copyFrom s1_filled s1_th s1_ep s1_rule s1_cm s1_vs s1_es u1_filled u1_th u1_ep u1_rule u1_cm u1_vs u1_es).bind fun v3 => (F_X7_copyFrom s2_filled s2_th s2_ep s2_rule s2_cm s2_vs s2_es u2_filled u2_th u2_ep u2_rule u2_cm u2_vs u2_es).bind fun v5 => (F_X7_copyFrom s3_filled s3_th s3_ep s3_rule s3_cm s3_vs s3_es u3_filled u3_th u3_ep u3_rule u3_cm u3_vs u3_es).bind fun v7 => some (o_z, o_pr, o_le, o_ec, va_cpy o_wt wt (Int32.toNatClampNeg 0) (Int32.toNatClampNeg 0) (Int32.toNatClampNeg 8), va_cpy o_ev ev (Int32.toNatClampNeg 0) (Int32.toNatClampNeg 0) (Int32.toNatClampNeg 20), v1.1, v1.2.1, v1.2.2.1, v1.2.2.2.1, v1.2.2.2.2.1, v1.2.2.2.2.2.1, v1.2.2.2.2.2.2, v3.1, v3.2.1, v3.2.2.1, v3.2.2.2.1, v3.2.2.2.2.1, v3.2.2.2.2.2.1, v3.2.2.2.2.2.2, v5.1, v5.2.1, v5.2.2.1, v5.2.2.2.1, v5.2.2.2.2.1, v5.2.2.2.2.2.1, v5.2.2.2.2.2.2, v7.1, v7.2.1, v7.2.2.1, v7.2.2.2.1, v7.2.2.2.2.1, v7.2.2.2.2.2.1, v7.2.2.2.2.2.2)
set_option maxRecDepth 100000 in
set_option maxHeartbeats 4000000 in
theorem c_X9_copyFrom {l : Launch} {D : va_G} {cy : Nat → ClassId} {a : Nat → Nat} {s0 : Nat → Nat} {s1 : Nat → Nat} {s2 : Nat → Nat} {s3 : Nat → Nat} {b : Nat → Nat} {u0 : Nat → Nat} {u1 : Nat → Nat} {u2 : Nat → Nat} {u3 : Nat → Nat} {z : Int32} {pr : Int32} {le : Int32} {ec : Int32} {wt : Nat → Int32} {ev : Nat → Int32} {s0_filled : Int32} {s0_th : Int32} {s0_ep : Int32} {s0_rule : Option Nat} {s0_cm : Nat → Int32} {s0_vs : Nat → Int32} {s0_es : Nat → Int32} {s1_filled : Int32} {s1_th : Int32} {s1_ep : Int32} {s1_rule : Option Nat} {s1_cm : Nat → Int32} {s1_vs : Nat → Int32} {s1_es : Nat → Int32} {s2_filled : Int32} {s2_th : Int32} {s2_ep : Int32} {s2_rule : Option Nat} {s2_cm : Nat → Int32} {s2_vs : Nat → Int32} {s2_es : Nat → Int32} {s3_filled : Int32} {s3_th : Int32} {s3_ep : Int32} {s3_rule : Option Nat} {s3_cm : Nat → Int32} {s3_vs : Nat → Int32} {s3_es : Nat → Int32} {o_z : Int32} {o_pr : Int32} {o_le : Int32} {o_ec : Int32} {o_wt : Nat → Int32} {o_ev : Nat → Int32} {u0_filled : Int32} {u0_th : Int32} {u0_ep : Int32} {u0_rule : Option Nat} {u0_cm : Nat → Int32} {u0_vs : Nat → Int32} {u0_es : Nat → Int32} {u1_filled : Int32} {u1_th : Int32} {u1_ep : Int32} {u1_rule : Option Nat} {u1_cm : Nat → Int32} {u1_vs : Nat → Int32} {u1_es : Nat → Int32} {u2_filled : Int32} {u2_th : Int32} {u2_ep : Int32} {u2_rule : Option Nat} {u2_cm : Nat → Int32} {u2_vs : Nat → Int32} {u2_es : Nat → Int32} {u3_filled : Int32} {u3_th : Int32} {u3_ep : Int32} {u3_rule : Option Nat} {u3_cm : Nat → Int32} {u3_vs : Nat → Int32} {u3_es : Nat → Int32}   {val : Int32 × Int32 × Int32 × Int32 × (Nat → Int32) × (Nat → Int32) × Int32 × Int32 × Int32 × Option Nat × (Nat → Int32) × (Nat → Int32) × (Nat → Int32) × Int32 × Int32 × Int32 × Option Nat × (Nat → Int32) × (Nat → Int32) × (Nat → Int32) × Int32 × Int32 × Int32 × Option Nat × (Nat → Int32) × (Nat → Int32) × (Nat → Int32) × Int32 × Int32 × Int32 × Option Nat × (Nat → Int32) × (Nat → Int32) × (Nat → Int32)} (hf : F_X9_copyFrom z pr le ec wt ev s0_filled s0_th s0_ep s0_rule s0_cm s0_vs s0_es s1_filled s1_th s1_ep s1_rule s1_cm s1_vs s1_es s2_filled s2_th s2_ep s2_rule s2_cm s2_vs s2_es s3_filled s3_th s3_ep s3_rule s3_cm s3_vs s3_es o_z o_pr o_le o_ec o_wt o_ev u0_filled u0_th u0_ep u0_rule u0_cm u0_vs u0_es u1_filled u1_th u1_ep u1_rule u1_cm u1_vs u1_es u2_filled u2_th u2_ep u2_rule u2_cm u2_vs u2_es u3_filled u3_th u3_ep u3_rule u3_cm u3_vs u3_es = some val) : gCt l D cy yX9_copyFrom cX9_copyFrom 3 none 2 51 0 0 [.ref (a 0), .ref (b 0)] [] ((wSt cy a z pr le ec wt (gA4 (s0 0) (s1 0) (s2 0) (s3 0)) ev) ++ (wSec cy s0 s0_filled s0_th s0_ep s0_rule s0_cm s0_vs s0_es) ++ (wSec cy s1 s1_filled s1_th s1_ep s1_rule s1_cm s1_vs s1_es) ++ (wSec cy s2 s2_filled s2_th s2_ep s2_rule s2_cm s2_vs s2_es) ++ (wSec cy s3 s3_filled s3_th s3_ep s3_rule s3_cm s3_vs s3_es) ++ (wSt cy b o_z o_pr o_le o_ec o_wt (gA4 (u0 0) (u1 0) (u2 0) (u3 0)) o_ev) ++ (wSec cy u0 u0_filled u0_th u0_ep u0_rule u0_cm u0_vs u0_es) ++ (wSec cy u1 u1_filled u1_th u1_ep u1_rule u1_cm u1_vs u1_es) ++ (wSec cy u2 u2_filled u2_th u2_ep u2_rule u2_cm u2_vs u2_es) ++ (wSec cy u3 u3_filled u3_th u3_ep u3_rule u3_cm u3_vs u3_es)) 0 (fun _ : Unit => none) (fun _ => (wSt cy a val.1 val.2.1 val.2.2.1 val.2.2.2.1 val.2.2.2.2.1 (gA4 (s0 0) (s1 0) (s2 0) (s3 0)) val.2.2.2.2.2.1) ++ (wSec cy s0 val.2.2.2.2.2.2.1 val.2.2.2.2.2.2.2.1 val.2.2.2.2.2.2.2.2.1 val.2.2.2.2.2.2.2.2.2.1 val.2.2.2.2.2.2.2.2.2.2.1 val.2.2.2.2.2.2.2.2.2.2.2.1 val.2.2.2.2.2.2.2.2.2.2.2.2.1) ++ (wSec cy s1 val.2.2.2.2.2.2.2.2.2.2.2.2.2.1 val.2.2.2.2.2.2.2.2.2.2.2.2.2.2.1 val.2.2.2.2.2.2.2.2.2.2.2.2.2.2.2.1 val.2.2.2.2.2.2.2.2.2.2.2.2.2.2.2.2.1 val.2.2.2.2.2.2.2.2.2.2.2.2.2.2.2.2.2.1 val.2.2.2.2.2.2.2.2.2.2.2.2.2.2.2.2.2.2.1 val.2.2.2.2.2.2.2.2.2.2.2.2.2.2.2.2.2.2.2.1) ++ (wSec cy s2 val.2.2.2.2.2.2.2.2.2.2.2.2.2.2.2.2.2.2.2.2.1 val.2.2.2.2.2.2.2.2.2.2.2.2.2.2.2.2.2.2.2.2.2.1 val.2.2.2.2.2.2.2.2.2.2.2.2.2.2.2.2.2.2.2.2.2.2.1 val.2.2.2.2.2.2.2.2.2.2.2.2.2.2.2.2.2.2.2.2.2.2.2.1 val.2.2.2.2.2.2.2.2.2.2.2.2.2.2.2.2.2.2.2.2.2.2.2.2.1 val.2.2.2.2.2.2.2.2.2.2.2.2.2.2.2.2.2.2.2.2.2.2.2.2.2.1 val.2.2.2.2.2.2.2.2.2.2.2.2.2.2.2.2.2.2.2.2.2.2.2.2.2.2.1) ++ (wSec cy s3 val.2.2.2.2.2.2.2.2.2.2.2.2.2.2.2.2.2.2.2.2.2.2.2.2.2.2.2.1 val.2.2.2.2.2.2.2.2.2.2.2.2.2.2.2.2.2.2.2.2.2.2.2.2.2.2.2.2.1 val.2.2.2.2.2.2.2.2.2.2.2.2.2.2.2.2.2.2.2.2.2.2.2.2.2.2.2.2.2.1 val.2.2.2.2.2.2.2.2.2.2.2.2.2.2.2.2.2.2.2.2.2.2.2.2.2.2.2.2.2.2.1 val.2.2.2.2.2.2.2.2.2.2.2.2.2.2.2.2.2.2.2.2.2.2.2.2.2.2.2.2.2.2.2.1 val.2.2.2.2.2.2.2.2.2.2.2.2.2.2.2.2.2.2.2.2.2.2.2.2.2.2.2.2.2.2.2.2.1 val.2.2.2.2.2.2.2.2.2.2.2.2.2.2.2.2.2.2.2.2.2.2.2.2.2.2.2.2.2.2.2.2.2) ++ (wSt cy b o_z o_pr o_le o_ec o_wt (gA4 (u0 0) (u1 0) (u2 0) (u3 0)) o_ev) ++ (wSec cy u0 u0_filled u0_th u0_ep u0_rule u0_cm u0_vs u0_es) ++ (wSec cy u1 u1_filled u1_th u1_ep u1_rule u1_cm u1_vs u1_es) ++ (wSec cy u2 u2_filled u2_th u2_ep u2_rule u2_cm u2_vs u2_es) ++ (wSec cy u3 u3_filled u3_th u3_ep u3_rule u3_cm u3_vs u3_es)) := by
  refine g_begin (by decide +kernel) (Nat.le_of_ble_eq_true rfl) ?_
  intro X Q hl hR hD hy hro hn C hin E
  subst hl; subst hD; subst hy
  replace C : gC X "SecretVault$State" cX9_copyFrom none := C
  unfold F_X9_copyFrom at hf
  show gW X Q 0 0 ((wSt (x_y X) a z pr le ec wt (gA4 (s0 0) (s1 0) (s2 0) (s3 0)) ev) ++ (wSec (x_y X) s0 s0_filled s0_th s0_ep s0_rule s0_cm s0_vs s0_es) ++ (wSec (x_y X) s1 s1_filled s1_th s1_ep s1_rule s1_cm s1_vs s1_es) ++ (wSec (x_y X) s2 s2_filled s2_th s2_ep s2_rule s2_cm s2_vs s2_es) ++ (wSec (x_y X) s3 s3_filled s3_th s3_ep s3_rule s3_cm s3_vs s3_es) ++ (wSt (x_y X) b o_z o_pr o_le o_ec o_wt (gA4 (u0 0) (u1 0) (u2 0) (u3 0)) o_ev) ++ (wSec (x_y X) u0 u0_filled u0_th u0_ep u0_rule u0_cm u0_vs u0_es) ++ (wSec (x_y X) u1 u1_filled u1_th u1_ep u1_rule u1_cm u1_vs u1_es) ++ (wSec (x_y X) u2 u2_filled u2_th u2_ep u2_rule u2_cm u2_vs u2_es) ++ (wSec (x_y X) u3 u3_filled u3_th u3_ep u3_rule u3_cm u3_vs u3_es)) [(0, .ref (a 0)), (1, .ref (b 0))] [] 0
  refine g_aload_n C 0 dX9_copyFrom_0 rfl ?_
  refine g_aload_n C 1 dX9_copyFrom_1 rfl ?_
  refine g_get C 20 0 rfl rfl wiX9 (by decide) mw_1_90 rfl rfl dX9_copyFrom_2 ?_
  refine g_put C (ws' := (wSt (x_y X) a o_z pr le ec wt (gA4 (s0 0) (s1 0) (s2 0) (s3 0)) ev) ++ (wSec (x_y X) s0 s0_filled s0_th s0_ep s0_rule s0_cm s0_vs s0_es) ++ (wSec (x_y X) s1 s1_filled s1_th s1_ep s1_rule s1_cm s1_vs s1_es) ++ (wSec (x_y X) s2 s2_filled s2_th s2_ep s2_rule s2_cm s2_vs s2_es) ++ (wSec (x_y X) s3 s3_filled s3_th s3_ep s3_rule s3_cm s3_vs s3_es) ++ (wSt (x_y X) b o_z o_pr o_le o_ec o_wt (gA4 (u0 0) (u1 0) (u2 0) (u3 0)) o_ev) ++ (wSec (x_y X) u0 u0_filled u0_th u0_ep u0_rule u0_cm u0_vs u0_es) ++ (wSec (x_y X) u1 u1_filled u1_th u1_ep u1_rule u1_cm u1_vs u1_es) ++ (wSec (x_y X) u2 u2_filled u2_th u2_ep u2_rule u2_cm u2_vs u2_es) ++ (wSec (x_y X) u3 u3_filled u3_th u3_ep u3_rule u3_cm u3_vs u3_es)) 0 0 rfl rfl wiX9 (by decide) tyX9_ok nmX9 mw_1_90 rfl rfl rfl rfl (Nat.le_of_ble_eq_true rfl) rfl dX9_copyFrom_5 ?_
  refine g_aload_n C 1 dX9_copyFrom_8 rfl ?_
  refine g_get C 20 1 rfl rfl wiX9 (by decide) mw_1_92 rfl rfl dX9_copyFrom_9 ?_
  refine g_iconst C (v := 0) dX9_copyFrom_12 (by decide) ?_
  refine g_aload_n C 0 dX9_copyFrom_13 rfl ?_
  refine g_get C 0 1 rfl rfl wiX9 (by decide) mw_1_92 rfl rfl dX9_copyFrom_14 ?_
  refine g_iconst C (v := 0) dX9_copyFrom_17 (by decide) ?_
  refine g_bipush C (v := 8) dX9_copyFrom_18 (by decide) ?_
  refine g_copyi C (ws' := (wSt (x_y X) a o_z pr le ec (va_cpy o_wt wt (Int32.toNatClampNeg 0) (Int32.toNatClampNeg 0) (Int32.toNatClampNeg 8)) (gA4 (s0 0) (s1 0) (s2 0) (s3 0)) ev) ++ (wSec (x_y X) s0 s0_filled s0_th s0_ep s0_rule s0_cm s0_vs s0_es) ++ (wSec (x_y X) s1 s1_filled s1_th s1_ep s1_rule s1_cm s1_vs s1_es) ++ (wSec (x_y X) s2 s2_filled s2_th s2_ep s2_rule s2_cm s2_vs s2_es) ++ (wSec (x_y X) s3 s3_filled s3_th s3_ep s3_rule s3_cm s3_vs s3_es) ++ (wSt (x_y X) b o_z o_pr o_le o_ec o_wt (gA4 (u0 0) (u1 0) (u2 0) (u3 0)) o_ev) ++ (wSec (x_y X) u0 u0_filled u0_th u0_ep u0_rule u0_cm u0_vs u0_es) ++ (wSec (x_y X) u1 u1_filled u1_th u1_ep u1_rule u1_cm u1_vs u1_es) ++ (wSec (x_y X) u2 u2_filled u2_th u2_ep u2_rule u2_cm u2_vs u2_es) ++ (wSec (x_y X) u3 u3_filled u3_th u3_ep u3_rule u3_cm u3_vs u3_es)) 21 1 mw_1_235 mw_1_237 mw_1_236 mw_1_24 rfl rfl (by decide) (by decide) (by decide) (by decide) (by decide) (g_tn hR rfl rfl) rfl dX9_copyFrom_20 ?_
  refine g_aload_n C 0 dX9_copyFrom_23 rfl ?_
  refine g_aload_n C 1 dX9_copyFrom_24 rfl ?_
  refine g_get C 20 2 rfl rfl wiX9 (by decide) mw_1_94 rfl rfl dX9_copyFrom_25 ?_
  refine g_put C (ws' := (wSt (x_y X) a o_z o_pr le ec (va_cpy o_wt wt (Int32.toNatClampNeg 0) (Int32.toNatClampNeg 0) (Int32.toNatClampNeg 8)) (gA4 (s0 0) (s1 0) (s2 0) (s3 0)) ev) ++ (wSec (x_y X) s0 s0_filled s0_th s0_ep s0_rule s0_cm s0_vs s0_es) ++ (wSec (x_y X) s1 s1_filled s1_th s1_ep s1_rule s1_cm s1_vs s1_es) ++ (wSec (x_y X) s2 s2_filled s2_th s2_ep s2_rule s2_cm s2_vs s2_es) ++ (wSec (x_y X) s3 s3_filled s3_th s3_ep s3_rule s3_cm s3_vs s3_es) ++ (wSt (x_y X) b o_z o_pr o_le o_ec o_wt (gA4 (u0 0) (u1 0) (u2 0) (u3 0)) o_ev) ++ (wSec (x_y X) u0 u0_filled u0_th u0_ep u0_rule u0_cm u0_vs u0_es) ++ (wSec (x_y X) u1 u1_filled u1_th u1_ep u1_rule u1_cm u1_vs u1_es) ++ (wSec (x_y X) u2 u2_filled u2_th u2_ep u2_rule u2_cm u2_vs u2_es) ++ (wSec (x_y X) u3 u3_filled u3_th u3_ep u3_rule u3_cm u3_vs u3_es)) 0 2 rfl rfl wiX9 (by decide) tyX9_ok nmX9 mw_1_94 rfl rfl rfl rfl (Nat.le_of_ble_eq_true rfl) rfl dX9_copyFrom_28 ?_
  refine g_iconst C (v := 0) dX9_copyFrom_31 (by decide) ?_
  refine g_istore_n C (lv' := [(2, .int 0), (0, .ref (a 0)), (1, .ref (b 0))]) dX9_copyFrom_32 (g_nlt hn rfl) rfl ?_
  refine g_iload_n C 0 dX9_copyFrom_33 rfl ?_
  refine g_iconst C (v := 4) dX9_copyFrom_34 (by decide) ?_
  refine g_icmp_ge C 59 dX9_copyFrom_35 (by decide) (fun h => absurd h (by decide)) (fun _ => ?_)
  refine g_aload_n C 1 dX9_copyFrom_38 rfl ?_
  refine g_get C 0 3 rfl rfl wiX9 (by decide) mw_1_96 rfl rfl dX9_copyFrom_39 ?_
  refine g_iload_n C 0 dX9_copyFrom_42 rfl ?_
  refine g_aald C 2 (r := (s0 0)) rfl (gi_in (by decide)) rfl dX9_copyFrom_43 ?_
  refine g_aload_n C 2 dX9_copyFrom_44 rfl ?_
  refine g_get C 20 3 rfl rfl wiX9 (by decide) mw_1_96 rfl rfl dX9_copyFrom_45 ?_
  refine g_iload_n C 0 dX9_copyFrom_48 rfl ?_
  refine g_aald C 22 (r := (u0 0)) rfl (gi_in (by decide)) rfl dX9_copyFrom_49 ?_
  obtain ⟨v1, h2, hf⟩ := opt_bind hf
  refine g_callV C (c_X7_copyFrom (l := x_l X) (D := x_D X) (cy := x_y X) (a := s0) (b := u0) (filled := s0_filled) (th := s0_th) (ep := s0_ep) (rule := s0_rule) (cm := s0_cm) (vs := s0_vs) (es := s0_es) (o_filled := u0_filled) (o_th := u0_th) (o_ep := u0_ep) (o_rule := u0_rule) (o_cm := u0_cm) (o_vs := u0_vs) (o_es := u0_es) h2) (As := [.ref (u0 0)]) (rest := []) (wr := (wSt (x_y X) a o_z o_pr le ec (va_cpy o_wt wt (Int32.toNatClampNeg 0) (Int32.toNatClampNeg 0) (Int32.toNatClampNeg 8)) (gA4 (s0 0) (s1 0) (s2 0) (s3 0)) ev) ++ (wSec (x_y X) s1 s1_filled s1_th s1_ep s1_rule s1_cm s1_vs s1_es) ++ (wSec (x_y X) s2 s2_filled s2_th s2_ep s2_rule s2_cm s2_vs s2_es) ++ (wSec (x_y X) s3 s3_filled s3_th s3_ep s3_rule s3_cm s3_vs s3_es) ++ (wSt (x_y X) b o_z o_pr o_le o_ec o_wt (gA4 (u0 0) (u1 0) (u2 0) (u3 0)) o_ev) ++ (wSec (x_y X) u1 u1_filled u1_th u1_ep u1_rule u1_cm u1_vs u1_es) ++ (wSec (x_y X) u2 u2_filled u2_th u2_ep u2_rule u2_cm u2_vs u2_es) ++ (wSec (x_y X) u3 u3_filled u3_th u3_ep u3_rule u3_cm u3_vs u3_es)) (ws' := fun _ => (wSt (x_y X) a o_z o_pr le ec (va_cpy o_wt wt (Int32.toNatClampNeg 0) (Int32.toNatClampNeg 0) (Int32.toNatClampNeg 8)) (gA4 (s0 0) (s1 0) (s2 0) (s3 0)) ev) ++ (wSec (x_y X) s0 v1.1 v1.2.1 v1.2.2.1 v1.2.2.2.1 v1.2.2.2.2.1 v1.2.2.2.2.2.1 v1.2.2.2.2.2.2) ++ (wSec (x_y X) s1 s1_filled s1_th s1_ep s1_rule s1_cm s1_vs s1_es) ++ (wSec (x_y X) s2 s2_filled s2_th s2_ep s2_rule s2_cm s2_vs s2_es) ++ (wSec (x_y X) s3 s3_filled s3_th s3_ep s3_rule s3_cm s3_vs s3_es) ++ (wSt (x_y X) b o_z o_pr o_le o_ec o_wt (gA4 (u0 0) (u1 0) (u2 0) (u3 0)) o_ev) ++ (wSec (x_y X) u0 u0_filled u0_th u0_ep u0_rule u0_cm u0_vs u0_es) ++ (wSec (x_y X) u1 u1_filled u1_th u1_ep u1_rule u1_cm u1_vs u1_es) ++ (wSec (x_y X) u2 u2_filled u2_th u2_ep u2_rule u2_cm u2_vs u2_es) ++ (wSec (x_y X) u3 u3_filled u3_th u3_ep u3_rule u3_cm u3_vs u3_es)) (st' := fun _ => []) (ci := 8) 1 4 ⟨_, rfl⟩ rfl rfl mw_2_1 mw_1_3 mw_1_238 mw_1_239 mw_2_0 hd_X7_copyFrom rfl (g_rm hR rfl rfl) [4, 5, 6, 7, 24, 25, 26, 27] [0, 1, 2, 3, 8, 9, 10, 11, 12, 13, 14, 15, 16, 17, 18, 19, 20, 21, 22, 23, 28, 29, 30, 31, 32, 33, 34, 35, 36, 37, 38, 39] [0, 1, 2, 3, 32, 33, 34, 35, 4, 5, 6, 7, 8, 9, 10, 11, 12, 13, 14, 15, 16, 17, 18, 19, 36, 37, 38, 39, 20, 21, 22, 23, 24, 25, 26, 27, 28, 29, 30, 31] ⟨rfl, rfl, rfl, rfl, by decide, gRoIn_0, rfl, fun _ => rfl⟩ rfl (Nat.le_of_ble_eq_true rfl) dX9_copyFrom_50 (g_rc hR (Nat.le_of_ble_eq_true rfl) (Nat.le_of_ble_eq_true rfl)) (ck' := 0) (sk' := 0) rfl rfl (fun _ => rfl) (fun _ _ => ?_) (fun _ hx => absurd rfl hx)
  refine g_iinc C 0 (v := 1) (lv' := [(2, .int 1), (0, .ref (a 0)), (1, .ref (b 0))]) dX9_copyFrom_53 rfl (by decide) (g_nlt hn rfl) rfl ?_
  refine g_goto C 33 dX9_copyFrom_56 (by decide) ?_
  refine g_iload_n C 0 dX9_copyFrom_33 rfl ?_
  refine g_iconst C (v := 4) dX9_copyFrom_34 (by decide) ?_
  refine g_icmp_ge C 59 dX9_copyFrom_35 (by decide) (fun h => absurd h (by decide)) (fun _ => ?_)
  refine g_aload_n C 1 dX9_copyFrom_38 rfl ?_
  refine g_get C 0 3 rfl rfl wiX9 (by decide) mw_1_96 rfl rfl dX9_copyFrom_39 ?_
  refine g_iload_n C 0 dX9_copyFrom_42 rfl ?_
  refine g_aald C 2 (r := (s1 0)) rfl (gi_in (by decide)) rfl dX9_copyFrom_43 ?_
  refine g_aload_n C 2 dX9_copyFrom_44 rfl ?_
  refine g_get C 20 3 rfl rfl wiX9 (by decide) mw_1_96 rfl rfl dX9_copyFrom_45 ?_
  refine g_iload_n C 0 dX9_copyFrom_48 rfl ?_
  refine g_aald C 22 (r := (u1 0)) rfl (gi_in (by decide)) rfl dX9_copyFrom_49 ?_
  obtain ⟨v3, h4, hf⟩ := opt_bind hf
  refine g_callV C (c_X7_copyFrom (l := x_l X) (D := x_D X) (cy := x_y X) (a := s1) (b := u1) (filled := s1_filled) (th := s1_th) (ep := s1_ep) (rule := s1_rule) (cm := s1_cm) (vs := s1_vs) (es := s1_es) (o_filled := u1_filled) (o_th := u1_th) (o_ep := u1_ep) (o_rule := u1_rule) (o_cm := u1_cm) (o_vs := u1_vs) (o_es := u1_es) h4) (As := [.ref (u1 0)]) (rest := []) (wr := (wSt (x_y X) a o_z o_pr le ec (va_cpy o_wt wt (Int32.toNatClampNeg 0) (Int32.toNatClampNeg 0) (Int32.toNatClampNeg 8)) (gA4 (s0 0) (s1 0) (s2 0) (s3 0)) ev) ++ (wSec (x_y X) s0 v1.1 v1.2.1 v1.2.2.1 v1.2.2.2.1 v1.2.2.2.2.1 v1.2.2.2.2.2.1 v1.2.2.2.2.2.2) ++ (wSec (x_y X) s2 s2_filled s2_th s2_ep s2_rule s2_cm s2_vs s2_es) ++ (wSec (x_y X) s3 s3_filled s3_th s3_ep s3_rule s3_cm s3_vs s3_es) ++ (wSt (x_y X) b o_z o_pr o_le o_ec o_wt (gA4 (u0 0) (u1 0) (u2 0) (u3 0)) o_ev) ++ (wSec (x_y X) u0 u0_filled u0_th u0_ep u0_rule u0_cm u0_vs u0_es) ++ (wSec (x_y X) u2 u2_filled u2_th u2_ep u2_rule u2_cm u2_vs u2_es) ++ (wSec (x_y X) u3 u3_filled u3_th u3_ep u3_rule u3_cm u3_vs u3_es)) (ws' := fun _ => (wSt (x_y X) a o_z o_pr le ec (va_cpy o_wt wt (Int32.toNatClampNeg 0) (Int32.toNatClampNeg 0) (Int32.toNatClampNeg 8)) (gA4 (s0 0) (s1 0) (s2 0) (s3 0)) ev) ++ (wSec (x_y X) s0 v1.1 v1.2.1 v1.2.2.1 v1.2.2.2.1 v1.2.2.2.2.1 v1.2.2.2.2.2.1 v1.2.2.2.2.2.2) ++ (wSec (x_y X) s1 v3.1 v3.2.1 v3.2.2.1 v3.2.2.2.1 v3.2.2.2.2.1 v3.2.2.2.2.2.1 v3.2.2.2.2.2.2) ++ (wSec (x_y X) s2 s2_filled s2_th s2_ep s2_rule s2_cm s2_vs s2_es) ++ (wSec (x_y X) s3 s3_filled s3_th s3_ep s3_rule s3_cm s3_vs s3_es) ++ (wSt (x_y X) b o_z o_pr o_le o_ec o_wt (gA4 (u0 0) (u1 0) (u2 0) (u3 0)) o_ev) ++ (wSec (x_y X) u0 u0_filled u0_th u0_ep u0_rule u0_cm u0_vs u0_es) ++ (wSec (x_y X) u1 u1_filled u1_th u1_ep u1_rule u1_cm u1_vs u1_es) ++ (wSec (x_y X) u2 u2_filled u2_th u2_ep u2_rule u2_cm u2_vs u2_es) ++ (wSec (x_y X) u3 u3_filled u3_th u3_ep u3_rule u3_cm u3_vs u3_es)) (st' := fun _ => []) (ci := 8) 1 8 ⟨_, rfl⟩ rfl rfl mw_2_1 mw_1_3 mw_1_238 mw_1_239 mw_2_0 hd_X7_copyFrom rfl (g_rm hR rfl rfl) [8, 9, 10, 11, 28, 29, 30, 31] [0, 1, 2, 3, 4, 5, 6, 7, 12, 13, 14, 15, 16, 17, 18, 19, 20, 21, 22, 23, 24, 25, 26, 27, 32, 33, 34, 35, 36, 37, 38, 39] [0, 1, 2, 3, 4, 5, 6, 7, 32, 33, 34, 35, 8, 9, 10, 11, 12, 13, 14, 15, 16, 17, 18, 19, 20, 21, 22, 23, 36, 37, 38, 39, 24, 25, 26, 27, 28, 29, 30, 31] ⟨rfl, rfl, rfl, rfl, by decide, gRoIn_0, rfl, fun _ => rfl⟩ rfl (Nat.le_of_ble_eq_true rfl) dX9_copyFrom_50 (g_rc hR (Nat.le_of_ble_eq_true rfl) (Nat.le_of_ble_eq_true rfl)) (ck' := 0) (sk' := 0) rfl rfl (fun _ => rfl) (fun _ _ => ?_) (fun _ hx => absurd rfl hx)
  refine g_iinc C 0 (v := 2) (lv' := [(2, .int 2), (0, .ref (a 0)), (1, .ref (b 0))]) dX9_copyFrom_53 rfl (by decide) (g_nlt hn rfl) rfl ?_
  refine g_goto C 33 dX9_copyFrom_56 (by decide) ?_
  refine g_iload_n C 0 dX9_copyFrom_33 rfl ?_
  refine g_iconst C (v := 4) dX9_copyFrom_34 (by decide) ?_
  refine g_icmp_ge C 59 dX9_copyFrom_35 (by decide) (fun h => absurd h (by decide)) (fun _ => ?_)
  refine g_aload_n C 1 dX9_copyFrom_38 rfl ?_
  refine g_get C 0 3 rfl rfl wiX9 (by decide) mw_1_96 rfl rfl dX9_copyFrom_39 ?_
  refine g_iload_n C 0 dX9_copyFrom_42 rfl ?_
  refine g_aald C 2 (r := (s2 0)) rfl (gi_in (by decide)) rfl dX9_copyFrom_43 ?_
  refine g_aload_n C 2 dX9_copyFrom_44 rfl ?_
  refine g_get C 20 3 rfl rfl wiX9 (by decide) mw_1_96 rfl rfl dX9_copyFrom_45 ?_
  refine g_iload_n C 0 dX9_copyFrom_48 rfl ?_
  refine g_aald C 22 (r := (u2 0)) rfl (gi_in (by decide)) rfl dX9_copyFrom_49 ?_
  obtain ⟨v5, h6, hf⟩ := opt_bind hf
  refine g_callV C (c_X7_copyFrom (l := x_l X) (D := x_D X) (cy := x_y X) (a := s2) (b := u2) (filled := s2_filled) (th := s2_th) (ep := s2_ep) (rule := s2_rule) (cm := s2_cm) (vs := s2_vs) (es := s2_es) (o_filled := u2_filled) (o_th := u2_th) (o_ep := u2_ep) (o_rule := u2_rule) (o_cm := u2_cm) (o_vs := u2_vs) (o_es := u2_es) h6) (As := [.ref (u2 0)]) (rest := []) (wr := (wSt (x_y X) a o_z o_pr le ec (va_cpy o_wt wt (Int32.toNatClampNeg 0) (Int32.toNatClampNeg 0) (Int32.toNatClampNeg 8)) (gA4 (s0 0) (s1 0) (s2 0) (s3 0)) ev) ++ (wSec (x_y X) s0 v1.1 v1.2.1 v1.2.2.1 v1.2.2.2.1 v1.2.2.2.2.1 v1.2.2.2.2.2.1 v1.2.2.2.2.2.2) ++ (wSec (x_y X) s1 v3.1 v3.2.1 v3.2.2.1 v3.2.2.2.1 v3.2.2.2.2.1 v3.2.2.2.2.2.1 v3.2.2.2.2.2.2) ++ (wSec (x_y X) s3 s3_filled s3_th s3_ep s3_rule s3_cm s3_vs s3_es) ++ (wSt (x_y X) b o_z o_pr o_le o_ec o_wt (gA4 (u0 0) (u1 0) (u2 0) (u3 0)) o_ev) ++ (wSec (x_y X) u0 u0_filled u0_th u0_ep u0_rule u0_cm u0_vs u0_es) ++ (wSec (x_y X) u1 u1_filled u1_th u1_ep u1_rule u1_cm u1_vs u1_es) ++ (wSec (x_y X) u3 u3_filled u3_th u3_ep u3_rule u3_cm u3_vs u3_es)) (ws' := fun _ => (wSt (x_y X) a o_z o_pr le ec (va_cpy o_wt wt (Int32.toNatClampNeg 0) (Int32.toNatClampNeg 0) (Int32.toNatClampNeg 8)) (gA4 (s0 0) (s1 0) (s2 0) (s3 0)) ev) ++ (wSec (x_y X) s0 v1.1 v1.2.1 v1.2.2.1 v1.2.2.2.1 v1.2.2.2.2.1 v1.2.2.2.2.2.1 v1.2.2.2.2.2.2) ++ (wSec (x_y X) s1 v3.1 v3.2.1 v3.2.2.1 v3.2.2.2.1 v3.2.2.2.2.1 v3.2.2.2.2.2.1 v3.2.2.2.2.2.2) ++ (wSec (x_y X) s2 v5.1 v5.2.1 v5.2.2.1 v5.2.2.2.1 v5.2.2.2.2.1 v5.2.2.2.2.2.1 v5.2.2.2.2.2.2) ++ (wSec (x_y X) s3 s3_filled s3_th s3_ep s3_rule s3_cm s3_vs s3_es) ++ (wSt (x_y X) b o_z o_pr o_le o_ec o_wt (gA4 (u0 0) (u1 0) (u2 0) (u3 0)) o_ev) ++ (wSec (x_y X) u0 u0_filled u0_th u0_ep u0_rule u0_cm u0_vs u0_es) ++ (wSec (x_y X) u1 u1_filled u1_th u1_ep u1_rule u1_cm u1_vs u1_es) ++ (wSec (x_y X) u2 u2_filled u2_th u2_ep u2_rule u2_cm u2_vs u2_es) ++ (wSec (x_y X) u3 u3_filled u3_th u3_ep u3_rule u3_cm u3_vs u3_es)) (st' := fun _ => []) (ci := 8) 1 12 ⟨_, rfl⟩ rfl rfl mw_2_1 mw_1_3 mw_1_238 mw_1_239 mw_2_0 hd_X7_copyFrom rfl (g_rm hR rfl rfl) [12, 13, 14, 15, 32, 33, 34, 35] [0, 1, 2, 3, 4, 5, 6, 7, 8, 9, 10, 11, 16, 17, 18, 19, 20, 21, 22, 23, 24, 25, 26, 27, 28, 29, 30, 31, 36, 37, 38, 39] [0, 1, 2, 3, 4, 5, 6, 7, 8, 9, 10, 11, 32, 33, 34, 35, 12, 13, 14, 15, 16, 17, 18, 19, 20, 21, 22, 23, 24, 25, 26, 27, 36, 37, 38, 39, 28, 29, 30, 31] ⟨rfl, rfl, rfl, rfl, by decide, gRoIn_0, rfl, fun _ => rfl⟩ rfl (Nat.le_of_ble_eq_true rfl) dX9_copyFrom_50 (g_rc hR (Nat.le_of_ble_eq_true rfl) (Nat.le_of_ble_eq_true rfl)) (ck' := 0) (sk' := 0) rfl rfl (fun _ => rfl) (fun _ _ => ?_) (fun _ hx => absurd rfl hx)
  refine g_iinc C 0 (v := 3) (lv' := [(2, .int 3), (0, .ref (a 0)), (1, .ref (b 0))]) dX9_copyFrom_53 rfl (by decide) (g_nlt hn rfl) rfl ?_
  refine g_goto C 33 dX9_copyFrom_56 (by decide) ?_
  refine g_iload_n C 0 dX9_copyFrom_33 rfl ?_
  refine g_iconst C (v := 4) dX9_copyFrom_34 (by decide) ?_
  refine g_icmp_ge C 59 dX9_copyFrom_35 (by decide) (fun h => absurd h (by decide)) (fun _ => ?_)
  refine g_aload_n C 1 dX9_copyFrom_38 rfl ?_
  refine g_get C 0 3 rfl rfl wiX9 (by decide) mw_1_96 rfl rfl dX9_copyFrom_39 ?_
  refine g_iload_n C 0 dX9_copyFrom_42 rfl ?_
  refine g_aald C 2 (r := (s3 0)) rfl (gi_in (by decide)) rfl dX9_copyFrom_43 ?_
  refine g_aload_n C 2 dX9_copyFrom_44 rfl ?_
  refine g_get C 20 3 rfl rfl wiX9 (by decide) mw_1_96 rfl rfl dX9_copyFrom_45 ?_
  refine g_iload_n C 0 dX9_copyFrom_48 rfl ?_
  refine g_aald C 22 (r := (u3 0)) rfl (gi_in (by decide)) rfl dX9_copyFrom_49 ?_
  obtain ⟨v7, h8, hf⟩ := opt_bind hf
  refine g_callV C (c_X7_copyFrom (l := x_l X) (D := x_D X) (cy := x_y X) (a := s3) (b := u3) (filled := s3_filled) (th := s3_th) (ep := s3_ep) (rule := s3_rule) (cm := s3_cm) (vs := s3_vs) (es := s3_es) (o_filled := u3_filled) (o_th := u3_th) (o_ep := u3_ep) (o_rule := u3_rule) (o_cm := u3_cm) (o_vs := u3_vs) (o_es := u3_es) h8) (As := [.ref (u3 0)]) (rest := []) (wr := (wSt (x_y X) a o_z o_pr le ec (va_cpy o_wt wt (Int32.toNatClampNeg 0) (Int32.toNatClampNeg 0) (Int32.toNatClampNeg 8)) (gA4 (s0 0) (s1 0) (s2 0) (s3 0)) ev) ++ (wSec (x_y X) s0 v1.1 v1.2.1 v1.2.2.1 v1.2.2.2.1 v1.2.2.2.2.1 v1.2.2.2.2.2.1 v1.2.2.2.2.2.2) ++ (wSec (x_y X) s1 v3.1 v3.2.1 v3.2.2.1 v3.2.2.2.1 v3.2.2.2.2.1 v3.2.2.2.2.2.1 v3.2.2.2.2.2.2) ++ (wSec (x_y X) s2 v5.1 v5.2.1 v5.2.2.1 v5.2.2.2.1 v5.2.2.2.2.1 v5.2.2.2.2.2.1 v5.2.2.2.2.2.2) ++ (wSt (x_y X) b o_z o_pr o_le o_ec o_wt (gA4 (u0 0) (u1 0) (u2 0) (u3 0)) o_ev) ++ (wSec (x_y X) u0 u0_filled u0_th u0_ep u0_rule u0_cm u0_vs u0_es) ++ (wSec (x_y X) u1 u1_filled u1_th u1_ep u1_rule u1_cm u1_vs u1_es) ++ (wSec (x_y X) u2 u2_filled u2_th u2_ep u2_rule u2_cm u2_vs u2_es)) (ws' := fun _ => (wSt (x_y X) a o_z o_pr le ec (va_cpy o_wt wt (Int32.toNatClampNeg 0) (Int32.toNatClampNeg 0) (Int32.toNatClampNeg 8)) (gA4 (s0 0) (s1 0) (s2 0) (s3 0)) ev) ++ (wSec (x_y X) s0 v1.1 v1.2.1 v1.2.2.1 v1.2.2.2.1 v1.2.2.2.2.1 v1.2.2.2.2.2.1 v1.2.2.2.2.2.2) ++ (wSec (x_y X) s1 v3.1 v3.2.1 v3.2.2.1 v3.2.2.2.1 v3.2.2.2.2.1 v3.2.2.2.2.2.1 v3.2.2.2.2.2.2) ++ (wSec (x_y X) s2 v5.1 v5.2.1 v5.2.2.1 v5.2.2.2.1 v5.2.2.2.2.1 v5.2.2.2.2.2.1 v5.2.2.2.2.2.2) ++ (wSec (x_y X) s3 v7.1 v7.2.1 v7.2.2.1 v7.2.2.2.1 v7.2.2.2.2.1 v7.2.2.2.2.2.1 v7.2.2.2.2.2.2) ++ (wSt (x_y X) b o_z o_pr o_le o_ec o_wt (gA4 (u0 0) (u1 0) (u2 0) (u3 0)) o_ev) ++ (wSec (x_y X) u0 u0_filled u0_th u0_ep u0_rule u0_cm u0_vs u0_es) ++ (wSec (x_y X) u1 u1_filled u1_th u1_ep u1_rule u1_cm u1_vs u1_es) ++ (wSec (x_y X) u2 u2_filled u2_th u2_ep u2_rule u2_cm u2_vs u2_es) ++ (wSec (x_y X) u3 u3_filled u3_th u3_ep u3_rule u3_cm u3_vs u3_es)) (st' := fun _ => []) (ci := 8) 1 16 ⟨_, rfl⟩ rfl rfl mw_2_1 mw_1_3 mw_1_238 mw_1_239 mw_2_0 hd_X7_copyFrom rfl (g_rm hR rfl rfl) [16, 17, 18, 19, 36, 37, 38, 39] [0, 1, 2, 3, 4, 5, 6, 7, 8, 9, 10, 11, 12, 13, 14, 15, 20, 21, 22, 23, 24, 25, 26, 27, 28, 29, 30, 31, 32, 33, 34, 35] [0, 1, 2, 3, 4, 5, 6, 7, 8, 9, 10, 11, 12, 13, 14, 15, 32, 33, 34, 35, 16, 17, 18, 19, 20, 21, 22, 23, 24, 25, 26, 27, 28, 29, 30, 31, 36, 37, 38, 39] ⟨rfl, rfl, rfl, rfl, by decide, gRoIn_0, rfl, fun _ => rfl⟩ rfl (Nat.le_of_ble_eq_true rfl) dX9_copyFrom_50 (g_rc hR (Nat.le_of_ble_eq_true rfl) (Nat.le_of_ble_eq_true rfl)) (ck' := 0) (sk' := 0) rfl rfl (fun _ => rfl) (fun _ _ => ?_) (fun _ hx => absurd rfl hx)
  refine g_iinc C 0 (v := 4) (lv' := [(2, .int 4), (0, .ref (a 0)), (1, .ref (b 0))]) dX9_copyFrom_53 rfl (by decide) (g_nlt hn rfl) rfl ?_
  refine g_goto C 33 dX9_copyFrom_56 (by decide) ?_
  refine g_iload_n C 0 dX9_copyFrom_33 rfl ?_
  refine g_iconst C (v := 4) dX9_copyFrom_34 (by decide) ?_
  refine g_icmp_ge C 59 dX9_copyFrom_35 (by decide) (fun _ => ?_) (fun h => absurd (by decide) h)
  refine g_aload_n C 2 dX9_copyFrom_59 rfl ?_
  refine g_get C 20 4 rfl rfl wiX9 (by decide) mw_1_98 rfl rfl dX9_copyFrom_60 ?_
  refine g_iconst C (v := 0) dX9_copyFrom_63 (by decide) ?_
  refine g_aload_n C 1 dX9_copyFrom_64 rfl ?_
  refine g_get C 0 4 rfl rfl wiX9 (by decide) mw_1_98 rfl rfl dX9_copyFrom_65 ?_
  refine g_iconst C (v := 0) dX9_copyFrom_68 (by decide) ?_
  refine g_bipush C (v := 20) dX9_copyFrom_69 (by decide) ?_
  refine g_copyi C (ws' := (wSt (x_y X) a o_z o_pr le ec (va_cpy o_wt wt (Int32.toNatClampNeg 0) (Int32.toNatClampNeg 0) (Int32.toNatClampNeg 8)) (gA4 (s0 0) (s1 0) (s2 0) (s3 0)) (va_cpy o_ev ev (Int32.toNatClampNeg 0) (Int32.toNatClampNeg 0) (Int32.toNatClampNeg 20))) ++ (wSec (x_y X) s0 v1.1 v1.2.1 v1.2.2.1 v1.2.2.2.1 v1.2.2.2.2.1 v1.2.2.2.2.2.1 v1.2.2.2.2.2.2) ++ (wSec (x_y X) s1 v3.1 v3.2.1 v3.2.2.1 v3.2.2.2.1 v3.2.2.2.2.1 v3.2.2.2.2.2.1 v3.2.2.2.2.2.2) ++ (wSec (x_y X) s2 v5.1 v5.2.1 v5.2.2.1 v5.2.2.2.1 v5.2.2.2.2.1 v5.2.2.2.2.2.1 v5.2.2.2.2.2.2) ++ (wSec (x_y X) s3 v7.1 v7.2.1 v7.2.2.1 v7.2.2.2.1 v7.2.2.2.2.1 v7.2.2.2.2.2.1 v7.2.2.2.2.2.2) ++ (wSt (x_y X) b o_z o_pr o_le o_ec o_wt (gA4 (u0 0) (u1 0) (u2 0) (u3 0)) o_ev) ++ (wSec (x_y X) u0 u0_filled u0_th u0_ep u0_rule u0_cm u0_vs u0_es) ++ (wSec (x_y X) u1 u1_filled u1_th u1_ep u1_rule u1_cm u1_vs u1_es) ++ (wSec (x_y X) u2 u2_filled u2_th u2_ep u2_rule u2_cm u2_vs u2_es) ++ (wSec (x_y X) u3 u3_filled u3_th u3_ep u3_rule u3_cm u3_vs u3_es)) 23 3 mw_1_235 mw_1_237 mw_1_236 mw_1_24 rfl rfl (by decide) (by decide) (by decide) (by decide) (by decide) (g_tn hR rfl rfl) rfl dX9_copyFrom_71 ?_
  refine g_aload_n C 1 dX9_copyFrom_74 rfl ?_
  refine g_aload_n C 2 dX9_copyFrom_75 rfl ?_
  refine g_get C 20 5 rfl rfl wiX9 (by decide) mw_1_100 rfl rfl dX9_copyFrom_76 ?_
  refine g_put C (ws' := (wSt (x_y X) a o_z o_pr o_le ec (va_cpy o_wt wt (Int32.toNatClampNeg 0) (Int32.toNatClampNeg 0) (Int32.toNatClampNeg 8)) (gA4 (s0 0) (s1 0) (s2 0) (s3 0)) (va_cpy o_ev ev (Int32.toNatClampNeg 0) (Int32.toNatClampNeg 0) (Int32.toNatClampNeg 20))) ++ (wSec (x_y X) s0 v1.1 v1.2.1 v1.2.2.1 v1.2.2.2.1 v1.2.2.2.2.1 v1.2.2.2.2.2.1 v1.2.2.2.2.2.2) ++ (wSec (x_y X) s1 v3.1 v3.2.1 v3.2.2.1 v3.2.2.2.1 v3.2.2.2.2.1 v3.2.2.2.2.2.1 v3.2.2.2.2.2.2) ++ (wSec (x_y X) s2 v5.1 v5.2.1 v5.2.2.1 v5.2.2.2.1 v5.2.2.2.2.1 v5.2.2.2.2.2.1 v5.2.2.2.2.2.2) ++ (wSec (x_y X) s3 v7.1 v7.2.1 v7.2.2.1 v7.2.2.2.1 v7.2.2.2.2.1 v7.2.2.2.2.2.1 v7.2.2.2.2.2.2) ++ (wSt (x_y X) b o_z o_pr o_le o_ec o_wt (gA4 (u0 0) (u1 0) (u2 0) (u3 0)) o_ev) ++ (wSec (x_y X) u0 u0_filled u0_th u0_ep u0_rule u0_cm u0_vs u0_es) ++ (wSec (x_y X) u1 u1_filled u1_th u1_ep u1_rule u1_cm u1_vs u1_es) ++ (wSec (x_y X) u2 u2_filled u2_th u2_ep u2_rule u2_cm u2_vs u2_es) ++ (wSec (x_y X) u3 u3_filled u3_th u3_ep u3_rule u3_cm u3_vs u3_es)) 0 5 rfl rfl wiX9 (by decide) tyX9_ok nmX9 mw_1_100 rfl rfl rfl rfl (Nat.le_of_ble_eq_true rfl) rfl dX9_copyFrom_79 ?_
  refine g_aload_n C 1 dX9_copyFrom_82 rfl ?_
  refine g_aload_n C 2 dX9_copyFrom_83 rfl ?_
  refine g_get C 20 6 rfl rfl wiX9 (by decide) mw_1_102 rfl rfl dX9_copyFrom_84 ?_
  refine g_put C (ws' := (wSt (x_y X) a o_z o_pr o_le o_ec (va_cpy o_wt wt (Int32.toNatClampNeg 0) (Int32.toNatClampNeg 0) (Int32.toNatClampNeg 8)) (gA4 (s0 0) (s1 0) (s2 0) (s3 0)) (va_cpy o_ev ev (Int32.toNatClampNeg 0) (Int32.toNatClampNeg 0) (Int32.toNatClampNeg 20))) ++ (wSec (x_y X) s0 v1.1 v1.2.1 v1.2.2.1 v1.2.2.2.1 v1.2.2.2.2.1 v1.2.2.2.2.2.1 v1.2.2.2.2.2.2) ++ (wSec (x_y X) s1 v3.1 v3.2.1 v3.2.2.1 v3.2.2.2.1 v3.2.2.2.2.1 v3.2.2.2.2.2.1 v3.2.2.2.2.2.2) ++ (wSec (x_y X) s2 v5.1 v5.2.1 v5.2.2.1 v5.2.2.2.1 v5.2.2.2.2.1 v5.2.2.2.2.2.1 v5.2.2.2.2.2.2) ++ (wSec (x_y X) s3 v7.1 v7.2.1 v7.2.2.1 v7.2.2.2.1 v7.2.2.2.2.1 v7.2.2.2.2.2.1 v7.2.2.2.2.2.2) ++ (wSt (x_y X) b o_z o_pr o_le o_ec o_wt (gA4 (u0 0) (u1 0) (u2 0) (u3 0)) o_ev) ++ (wSec (x_y X) u0 u0_filled u0_th u0_ep u0_rule u0_cm u0_vs u0_es) ++ (wSec (x_y X) u1 u1_filled u1_th u1_ep u1_rule u1_cm u1_vs u1_es) ++ (wSec (x_y X) u2 u2_filled u2_th u2_ep u2_rule u2_cm u2_vs u2_es) ++ (wSec (x_y X) u3 u3_filled u3_th u3_ep u3_rule u3_cm u3_vs u3_es)) 0 6 rfl rfl wiX9 (by decide) tyX9_ok nmX9 mw_1_102 rfl rfl rfl rfl (Nat.le_of_ble_eq_true rfl) rfl dX9_copyFrom_87 ?_
  obtain rfl := Option.some.inj hf
  exact g_vret C E () dX9_copyFrom_90 rfl rfl rfl (Nat.le_of_ble_eq_true rfl) (Nat.le_of_ble_eq_true rfl)
/-! X9_filledSlots -/
theorem hd_X9_filledSlots : yX9_filledSlots.cls ≠ "java/lang/invoke/MethodHandle" ∧ yX9_filledSlots.cls ≠ "java/lang/invoke/VarHandle" ∧ (parseMethodDescriptor yX9_filledSlots.desc).map (fun d => d.parameters.length) = some 0 := by decide +kernel
def F_X9_filledSlots (s0_filled : Int32) (s1_filled : Int32) (s2_filled : Int32) (s3_filled : Int32) : Option (Int32) := if s0_filled = 0 then (if s1_filled = 0 then (if s2_filled = 0 then (gl ((((0 : Int32) + 0) + 0) + 0) fun x4 => if s3_filled = 0 then (some (x4 + 0)) else (some (x4 + 1))) else (gl ((((0 : Int32) + 0) + 0) + 1) fun x6 => if s3_filled = 0 then (some (x6 + 0)) else (some (x6 + 1)))) else (if s2_filled = 0 then (gl ((((0 : Int32) + 0) + 1) + 0) fun x9 => if s3_filled = 0 then (some (x9 + 0)) else (some (x9 + 1))) else (gl ((((0 : Int32) + 0) + 1) + 1) fun x11 => if s3_filled = 0 then (some (x11 + 0)) else (some (x11 + 1))))) else (if s1_filled = 0 then (if s2_filled = 0 then (gl ((((0 : Int32) + 1) + 0) + 0) fun x15 => if s3_filled = 0 then (some (x15 + 0)) else (some (x15 + 1))) else (gl ((((0 : Int32) + 1) + 0) + 1) fun x17 => if s3_filled = 0 then (some (x17 + 0)) else (some (x17 + 1)))) else (if s2_filled = 0 then (gl ((((0 : Int32) + 1) + 1) + 0) fun x20 => if s3_filled = 0 then (some (x20 + 0)) else (some (x20 + 1))) else (gl ((((0 : Int32) + 1) + 1) + 1) fun x22 => if s3_filled = 0 then (some (x22 + 0)) else (some (x22 + 1)))))
set_option maxRecDepth 100000 in
set_option maxHeartbeats 4000000 in
theorem c_X9_filledSlots {l : Launch} {D : va_G} {cy : Nat → ClassId} {a : Nat → Nat} {s0 : Nat → Nat} {s1 : Nat → Nat} {s2 : Nat → Nat} {s3 : Nat → Nat} {z : Int32} {pr : Int32} {le : Int32} {ec : Int32} {wt : Nat → Int32} {ev : Nat → Int32} {s0_filled : Int32} {s0_th : Int32} {s0_ep : Int32} {s0_rule : Option Nat} {s0_cm : Nat → Int32} {s0_vs : Nat → Int32} {s0_es : Nat → Int32} {s1_filled : Int32} {s1_th : Int32} {s1_ep : Int32} {s1_rule : Option Nat} {s1_cm : Nat → Int32} {s1_vs : Nat → Int32} {s1_es : Nat → Int32} {s2_filled : Int32} {s2_th : Int32} {s2_ep : Int32} {s2_rule : Option Nat} {s2_cm : Nat → Int32} {s2_vs : Nat → Int32} {s2_es : Nat → Int32} {s3_filled : Int32} {s3_th : Int32} {s3_ep : Int32} {s3_rule : Option Nat} {s3_cm : Nat → Int32} {s3_vs : Nat → Int32} {s3_es : Nat → Int32}   {val : Int32} (hf : F_X9_filledSlots s0_filled s1_filled s2_filled s3_filled = some val) : gCt l D cy yX9_filledSlots cX9_filledSlots 3 (some .int) 0 0 0 0 [.ref (a 0)] [] ((wSt cy a z pr le ec wt (gA4 (s0 0) (s1 0) (s2 0) (s3 0)) ev) ++ (wSec cy s0 s0_filled s0_th s0_ep s0_rule s0_cm s0_vs s0_es) ++ (wSec cy s1 s1_filled s1_th s1_ep s1_rule s1_cm s1_vs s1_es) ++ (wSec cy s2 s2_filled s2_th s2_ep s2_rule s2_cm s2_vs s2_es) ++ (wSec cy s3 s3_filled s3_th s3_ep s3_rule s3_cm s3_vs s3_es)) 0 (fun _ : Unit => some (.int val)) (fun _ => (wSt cy a z pr le ec wt (gA4 (s0 0) (s1 0) (s2 0) (s3 0)) ev) ++ (wSec cy s0 s0_filled s0_th s0_ep s0_rule s0_cm s0_vs s0_es) ++ (wSec cy s1 s1_filled s1_th s1_ep s1_rule s1_cm s1_vs s1_es) ++ (wSec cy s2 s2_filled s2_th s2_ep s2_rule s2_cm s2_vs s2_es) ++ (wSec cy s3 s3_filled s3_th s3_ep s3_rule s3_cm s3_vs s3_es)) := by
  refine g_begin (by decide +kernel) (Nat.le_of_ble_eq_true rfl) ?_
  intro X Q hl hR hD hy hro hn C hin E
  subst hl; subst hD; subst hy
  replace C : gC X "SecretVault$State" cX9_filledSlots (some .int) := C
  unfold F_X9_filledSlots at hf
  show gW X Q 0 0 ((wSt (x_y X) a z pr le ec wt (gA4 (s0 0) (s1 0) (s2 0) (s3 0)) ev) ++ (wSec (x_y X) s0 s0_filled s0_th s0_ep s0_rule s0_cm s0_vs s0_es) ++ (wSec (x_y X) s1 s1_filled s1_th s1_ep s1_rule s1_cm s1_vs s1_es) ++ (wSec (x_y X) s2 s2_filled s2_th s2_ep s2_rule s2_cm s2_vs s2_es) ++ (wSec (x_y X) s3 s3_filled s3_th s3_ep s3_rule s3_cm s3_vs s3_es)) [(0, .ref (a 0))] [] 0
  refine g_iconst C (v := 0) dX9_filledSlots_0 (by decide) ?_
  refine g_istore_n C (lv' := [(1, .int 0), (0, .ref (a 0))]) dX9_filledSlots_1 (g_nlt hn rfl) rfl ?_
  refine g_iconst C (v := 0) dX9_filledSlots_2 (by decide) ?_
  refine g_istore_n C (lv' := [(2, .int 0), (1, .int 0), (0, .ref (a 0))]) dX9_filledSlots_3 (g_nlt hn rfl) rfl ?_
  refine g_iload_n C 0 dX9_filledSlots_4 rfl ?_
  refine g_iconst C (v := 4) dX9_filledSlots_5 (by decide) ?_
  refine g_icmp_ge C 35 dX9_filledSlots_6 (by decide) (fun h => absurd h (by decide)) (fun _ => ?_)
  refine g_iload_n C 1 dX9_filledSlots_9 rfl ?_
  refine g_aload_n C 2 dX9_filledSlots_10 rfl ?_
  refine g_get C 0 3 rfl rfl wiX9 (by decide) mw_1_96 rfl rfl dX9_filledSlots_11 ?_
  refine g_iload_n C 0 dX9_filledSlots_14 rfl ?_
  refine g_aald C 2 (r := (s0 0)) rfl (gi_in (by decide)) rfl dX9_filledSlots_15 ?_
  refine g_get C 4 0 rfl rfl wiX7 (by decide) mw_1_60 rfl rfl dX9_filledSlots_16 ?_
  refine g_if_eq C 26 dX9_filledSlots_19 (by decide) (fun c1 => ?_) (fun c1 => ?_)
  · have hf := opt_pos c1 hf
    refine g_iconst C (v := 0) dX9_filledSlots_26 (by decide) ?_
    refine g_iadd C dX9_filledSlots_27 ?_
    refine g_istore_n C (lv' := [(1, .int ((0 : Int32) + 0)), (2, .int 0), (0, .ref (a 0))]) dX9_filledSlots_28 (g_nlt hn rfl) rfl ?_
    refine g_iinc C 1 (v := 1) (lv' := [(2, .int 1), (1, .int ((0 : Int32) + 0)), (0, .ref (a 0))]) dX9_filledSlots_29 rfl (by decide) (g_nlt hn rfl) rfl ?_
    refine g_goto C 4 dX9_filledSlots_32 (by decide) ?_
    refine g_iload_n C 0 dX9_filledSlots_4 rfl ?_
    refine g_iconst C (v := 4) dX9_filledSlots_5 (by decide) ?_
    refine g_icmp_ge C 35 dX9_filledSlots_6 (by decide) (fun h => absurd h (by decide)) (fun _ => ?_)
    refine g_iload_n C 1 dX9_filledSlots_9 rfl ?_
    refine g_aload_n C 2 dX9_filledSlots_10 rfl ?_
    refine g_get C 0 3 rfl rfl wiX9 (by decide) mw_1_96 rfl rfl dX9_filledSlots_11 ?_
    refine g_iload_n C 0 dX9_filledSlots_14 rfl ?_
    refine g_aald C 2 (r := (s1 0)) rfl (gi_in (by decide)) rfl dX9_filledSlots_15 ?_
    refine g_get C 8 0 rfl rfl wiX7 (by decide) mw_1_60 rfl rfl dX9_filledSlots_16 ?_
    refine g_if_eq C 26 dX9_filledSlots_19 (by decide) (fun c2 => ?_) (fun c2 => ?_)
    · have hf := opt_pos c2 hf
      refine g_iconst C (v := 0) dX9_filledSlots_26 (by decide) ?_
      refine g_iadd C dX9_filledSlots_27 ?_
      refine g_istore_n C (lv' := [(1, .int (((0 : Int32) + 0) + 0)), (2, .int 1), (0, .ref (a 0))]) dX9_filledSlots_28 (g_nlt hn rfl) rfl ?_
      refine g_iinc C 1 (v := 2) (lv' := [(2, .int 2), (1, .int (((0 : Int32) + 0) + 0)), (0, .ref (a 0))]) dX9_filledSlots_29 rfl (by decide) (g_nlt hn rfl) rfl ?_
      refine g_goto C 4 dX9_filledSlots_32 (by decide) ?_
      refine g_iload_n C 0 dX9_filledSlots_4 rfl ?_
      refine g_iconst C (v := 4) dX9_filledSlots_5 (by decide) ?_
      refine g_icmp_ge C 35 dX9_filledSlots_6 (by decide) (fun h => absurd h (by decide)) (fun _ => ?_)
      refine g_iload_n C 1 dX9_filledSlots_9 rfl ?_
      refine g_aload_n C 2 dX9_filledSlots_10 rfl ?_
      refine g_get C 0 3 rfl rfl wiX9 (by decide) mw_1_96 rfl rfl dX9_filledSlots_11 ?_
      refine g_iload_n C 0 dX9_filledSlots_14 rfl ?_
      refine g_aald C 2 (r := (s2 0)) rfl (gi_in (by decide)) rfl dX9_filledSlots_15 ?_
      refine g_get C 12 0 rfl rfl wiX7 (by decide) mw_1_60 rfl rfl dX9_filledSlots_16 ?_
      refine g_if_eq C 26 dX9_filledSlots_19 (by decide) (fun c3 => ?_) (fun c3 => ?_)
      · have hf := opt_pos c3 hf
        refine g_iconst C (v := 0) dX9_filledSlots_26 (by decide) ?_
        refine g_iadd C dX9_filledSlots_27 ?_
        obtain ⟨x4, ex4, hf⟩ := opt_let hf
        refine g_topi ex4 ?_
        refine g_istore_n C (lv' := [(1, .int x4), (2, .int 2), (0, .ref (a 0))]) dX9_filledSlots_28 (g_nlt hn rfl) rfl ?_
        refine g_iinc C 1 (v := 3) (lv' := [(2, .int 3), (1, .int x4), (0, .ref (a 0))]) dX9_filledSlots_29 rfl (by decide) (g_nlt hn rfl) rfl ?_
        refine g_goto C 4 dX9_filledSlots_32 (by decide) ?_
        refine g_iload_n C 0 dX9_filledSlots_4 rfl ?_
        refine g_iconst C (v := 4) dX9_filledSlots_5 (by decide) ?_
        refine g_icmp_ge C 35 dX9_filledSlots_6 (by decide) (fun h => absurd h (by decide)) (fun _ => ?_)
        refine g_iload_n C 1 dX9_filledSlots_9 rfl ?_
        refine g_aload_n C 2 dX9_filledSlots_10 rfl ?_
        refine g_get C 0 3 rfl rfl wiX9 (by decide) mw_1_96 rfl rfl dX9_filledSlots_11 ?_
        refine g_iload_n C 0 dX9_filledSlots_14 rfl ?_
        refine g_aald C 2 (r := (s3 0)) rfl (gi_in (by decide)) rfl dX9_filledSlots_15 ?_
        refine g_get C 16 0 rfl rfl wiX7 (by decide) mw_1_60 rfl rfl dX9_filledSlots_16 ?_
        refine g_if_eq C 26 dX9_filledSlots_19 (by decide) (fun c5 => ?_) (fun c5 => ?_)
        · have hf := opt_pos c5 hf
          refine g_iconst C (v := 0) dX9_filledSlots_26 (by decide) ?_
          refine g_iadd C dX9_filledSlots_27 ?_
          refine g_istore_n C (lv' := [(1, .int (x4 + 0)), (2, .int 3), (0, .ref (a 0))]) dX9_filledSlots_28 (g_nlt hn rfl) rfl ?_
          refine g_iinc C 1 (v := 4) (lv' := [(2, .int 4), (1, .int (x4 + 0)), (0, .ref (a 0))]) dX9_filledSlots_29 rfl (by decide) (g_nlt hn rfl) rfl ?_
          refine g_goto C 4 dX9_filledSlots_32 (by decide) ?_
          refine g_iload_n C 0 dX9_filledSlots_4 rfl ?_
          refine g_iconst C (v := 4) dX9_filledSlots_5 (by decide) ?_
          refine g_icmp_ge C 35 dX9_filledSlots_6 (by decide) (fun _ => ?_) (fun h => absurd (by decide) h)
          refine g_iload_n C 1 dX9_filledSlots_35 rfl ?_
          obtain rfl := Option.some.inj hf
          exact g_iret C E () dX9_filledSlots_36 rfl rfl rfl (Nat.le_of_ble_eq_true rfl) (Nat.le_of_ble_eq_true rfl)
        · have hf := opt_neg c5 hf
          refine g_iconst C (v := 1) dX9_filledSlots_22 (by decide) ?_
          refine g_goto C 27 dX9_filledSlots_23 (by decide) ?_
          refine g_iadd C dX9_filledSlots_27 ?_
          refine g_istore_n C (lv' := [(1, .int (x4 + 1)), (2, .int 3), (0, .ref (a 0))]) dX9_filledSlots_28 (g_nlt hn rfl) rfl ?_
          refine g_iinc C 1 (v := 4) (lv' := [(2, .int 4), (1, .int (x4 + 1)), (0, .ref (a 0))]) dX9_filledSlots_29 rfl (by decide) (g_nlt hn rfl) rfl ?_
          refine g_goto C 4 dX9_filledSlots_32 (by decide) ?_
          refine g_iload_n C 0 dX9_filledSlots_4 rfl ?_
          refine g_iconst C (v := 4) dX9_filledSlots_5 (by decide) ?_
          refine g_icmp_ge C 35 dX9_filledSlots_6 (by decide) (fun _ => ?_) (fun h => absurd (by decide) h)
          refine g_iload_n C 1 dX9_filledSlots_35 rfl ?_
          obtain rfl := Option.some.inj hf
          exact g_iret C E () dX9_filledSlots_36 rfl rfl rfl (Nat.le_of_ble_eq_true rfl) (Nat.le_of_ble_eq_true rfl)
      · have hf := opt_neg c3 hf
        refine g_iconst C (v := 1) dX9_filledSlots_22 (by decide) ?_
        refine g_goto C 27 dX9_filledSlots_23 (by decide) ?_
        refine g_iadd C dX9_filledSlots_27 ?_
        obtain ⟨x6, ex6, hf⟩ := opt_let hf
        refine g_topi ex6 ?_
        refine g_istore_n C (lv' := [(1, .int x6), (2, .int 2), (0, .ref (a 0))]) dX9_filledSlots_28 (g_nlt hn rfl) rfl ?_
        refine g_iinc C 1 (v := 3) (lv' := [(2, .int 3), (1, .int x6), (0, .ref (a 0))]) dX9_filledSlots_29 rfl (by decide) (g_nlt hn rfl) rfl ?_
        refine g_goto C 4 dX9_filledSlots_32 (by decide) ?_
        refine g_iload_n C 0 dX9_filledSlots_4 rfl ?_
        refine g_iconst C (v := 4) dX9_filledSlots_5 (by decide) ?_
        refine g_icmp_ge C 35 dX9_filledSlots_6 (by decide) (fun h => absurd h (by decide)) (fun _ => ?_)
        refine g_iload_n C 1 dX9_filledSlots_9 rfl ?_
        refine g_aload_n C 2 dX9_filledSlots_10 rfl ?_
        refine g_get C 0 3 rfl rfl wiX9 (by decide) mw_1_96 rfl rfl dX9_filledSlots_11 ?_
        refine g_iload_n C 0 dX9_filledSlots_14 rfl ?_
        refine g_aald C 2 (r := (s3 0)) rfl (gi_in (by decide)) rfl dX9_filledSlots_15 ?_
        refine g_get C 16 0 rfl rfl wiX7 (by decide) mw_1_60 rfl rfl dX9_filledSlots_16 ?_
        refine g_if_eq C 26 dX9_filledSlots_19 (by decide) (fun c7 => ?_) (fun c7 => ?_)
        · have hf := opt_pos c7 hf
          refine g_iconst C (v := 0) dX9_filledSlots_26 (by decide) ?_
          refine g_iadd C dX9_filledSlots_27 ?_
          refine g_istore_n C (lv' := [(1, .int (x6 + 0)), (2, .int 3), (0, .ref (a 0))]) dX9_filledSlots_28 (g_nlt hn rfl) rfl ?_
          refine g_iinc C 1 (v := 4) (lv' := [(2, .int 4), (1, .int (x6 + 0)), (0, .ref (a 0))]) dX9_filledSlots_29 rfl (by decide) (g_nlt hn rfl) rfl ?_
          refine g_goto C 4 dX9_filledSlots_32 (by decide) ?_
          refine g_iload_n C 0 dX9_filledSlots_4 rfl ?_
          refine g_iconst C (v := 4) dX9_filledSlots_5 (by decide) ?_
          refine g_icmp_ge C 35 dX9_filledSlots_6 (by decide) (fun _ => ?_) (fun h => absurd (by decide) h)
          refine g_iload_n C 1 dX9_filledSlots_35 rfl ?_
          obtain rfl := Option.some.inj hf
          exact g_iret C E () dX9_filledSlots_36 rfl rfl rfl (Nat.le_of_ble_eq_true rfl) (Nat.le_of_ble_eq_true rfl)
        · have hf := opt_neg c7 hf
          refine g_iconst C (v := 1) dX9_filledSlots_22 (by decide) ?_
          refine g_goto C 27 dX9_filledSlots_23 (by decide) ?_
          refine g_iadd C dX9_filledSlots_27 ?_
          refine g_istore_n C (lv' := [(1, .int (x6 + 1)), (2, .int 3), (0, .ref (a 0))]) dX9_filledSlots_28 (g_nlt hn rfl) rfl ?_
          refine g_iinc C 1 (v := 4) (lv' := [(2, .int 4), (1, .int (x6 + 1)), (0, .ref (a 0))]) dX9_filledSlots_29 rfl (by decide) (g_nlt hn rfl) rfl ?_
          refine g_goto C 4 dX9_filledSlots_32 (by decide) ?_
          refine g_iload_n C 0 dX9_filledSlots_4 rfl ?_
          refine g_iconst C (v := 4) dX9_filledSlots_5 (by decide) ?_
          refine g_icmp_ge C 35 dX9_filledSlots_6 (by decide) (fun _ => ?_) (fun h => absurd (by decide) h)
          refine g_iload_n C 1 dX9_filledSlots_35 rfl ?_
          obtain rfl := Option.some.inj hf
          exact g_iret C E () dX9_filledSlots_36 rfl rfl rfl (Nat.le_of_ble_eq_true rfl) (Nat.le_of_ble_eq_true rfl)
    · have hf := opt_neg c2 hf
      refine g_iconst C (v := 1) dX9_filledSlots_22 (by decide) ?_
      refine g_goto C 27 dX9_filledSlots_23 (by decide) ?_
      refine g_iadd C dX9_filledSlots_27 ?_
      refine g_istore_n C (lv' := [(1, .int (((0 : Int32) + 0) + 1)), (2, .int 1), (0, .ref (a 0))]) dX9_filledSlots_28 (g_nlt hn rfl) rfl ?_
      refine g_iinc C 1 (v := 2) (lv' := [(2, .int 2), (1, .int (((0 : Int32) + 0) + 1)), (0, .ref (a 0))]) dX9_filledSlots_29 rfl (by decide) (g_nlt hn rfl) rfl ?_
      refine g_goto C 4 dX9_filledSlots_32 (by decide) ?_
      refine g_iload_n C 0 dX9_filledSlots_4 rfl ?_
      refine g_iconst C (v := 4) dX9_filledSlots_5 (by decide) ?_
      refine g_icmp_ge C 35 dX9_filledSlots_6 (by decide) (fun h => absurd h (by decide)) (fun _ => ?_)
      refine g_iload_n C 1 dX9_filledSlots_9 rfl ?_
      refine g_aload_n C 2 dX9_filledSlots_10 rfl ?_
      refine g_get C 0 3 rfl rfl wiX9 (by decide) mw_1_96 rfl rfl dX9_filledSlots_11 ?_
      refine g_iload_n C 0 dX9_filledSlots_14 rfl ?_
      refine g_aald C 2 (r := (s2 0)) rfl (gi_in (by decide)) rfl dX9_filledSlots_15 ?_
      refine g_get C 12 0 rfl rfl wiX7 (by decide) mw_1_60 rfl rfl dX9_filledSlots_16 ?_
      refine g_if_eq C 26 dX9_filledSlots_19 (by decide) (fun c8 => ?_) (fun c8 => ?_)
      · have hf := opt_pos c8 hf
        refine g_iconst C (v := 0) dX9_filledSlots_26 (by decide) ?_
        refine g_iadd C dX9_filledSlots_27 ?_
        obtain ⟨x9, ex9, hf⟩ := opt_let hf
        refine g_topi ex9 ?_
        refine g_istore_n C (lv' := [(1, .int x9), (2, .int 2), (0, .ref (a 0))]) dX9_filledSlots_28 (g_nlt hn rfl) rfl ?_
        refine g_iinc C 1 (v := 3) (lv' := [(2, .int 3), (1, .int x9), (0, .ref (a 0))]) dX9_filledSlots_29 rfl (by decide) (g_nlt hn rfl) rfl ?_
        refine g_goto C 4 dX9_filledSlots_32 (by decide) ?_
        refine g_iload_n C 0 dX9_filledSlots_4 rfl ?_
        refine g_iconst C (v := 4) dX9_filledSlots_5 (by decide) ?_
        refine g_icmp_ge C 35 dX9_filledSlots_6 (by decide) (fun h => absurd h (by decide)) (fun _ => ?_)
        refine g_iload_n C 1 dX9_filledSlots_9 rfl ?_
        refine g_aload_n C 2 dX9_filledSlots_10 rfl ?_
        refine g_get C 0 3 rfl rfl wiX9 (by decide) mw_1_96 rfl rfl dX9_filledSlots_11 ?_
        refine g_iload_n C 0 dX9_filledSlots_14 rfl ?_
        refine g_aald C 2 (r := (s3 0)) rfl (gi_in (by decide)) rfl dX9_filledSlots_15 ?_
        refine g_get C 16 0 rfl rfl wiX7 (by decide) mw_1_60 rfl rfl dX9_filledSlots_16 ?_
        refine g_if_eq C 26 dX9_filledSlots_19 (by decide) (fun c10 => ?_) (fun c10 => ?_)
        · have hf := opt_pos c10 hf
          refine g_iconst C (v := 0) dX9_filledSlots_26 (by decide) ?_
          refine g_iadd C dX9_filledSlots_27 ?_
          refine g_istore_n C (lv' := [(1, .int (x9 + 0)), (2, .int 3), (0, .ref (a 0))]) dX9_filledSlots_28 (g_nlt hn rfl) rfl ?_
          refine g_iinc C 1 (v := 4) (lv' := [(2, .int 4), (1, .int (x9 + 0)), (0, .ref (a 0))]) dX9_filledSlots_29 rfl (by decide) (g_nlt hn rfl) rfl ?_
          refine g_goto C 4 dX9_filledSlots_32 (by decide) ?_
          refine g_iload_n C 0 dX9_filledSlots_4 rfl ?_
          refine g_iconst C (v := 4) dX9_filledSlots_5 (by decide) ?_
          refine g_icmp_ge C 35 dX9_filledSlots_6 (by decide) (fun _ => ?_) (fun h => absurd (by decide) h)
          refine g_iload_n C 1 dX9_filledSlots_35 rfl ?_
          obtain rfl := Option.some.inj hf
          exact g_iret C E () dX9_filledSlots_36 rfl rfl rfl (Nat.le_of_ble_eq_true rfl) (Nat.le_of_ble_eq_true rfl)
        · have hf := opt_neg c10 hf
          refine g_iconst C (v := 1) dX9_filledSlots_22 (by decide) ?_
          refine g_goto C 27 dX9_filledSlots_23 (by decide) ?_
          refine g_iadd C dX9_filledSlots_27 ?_
          refine g_istore_n C (lv' := [(1, .int (x9 + 1)), (2, .int 3), (0, .ref (a 0))]) dX9_filledSlots_28 (g_nlt hn rfl) rfl ?_
          refine g_iinc C 1 (v := 4) (lv' := [(2, .int 4), (1, .int (x9 + 1)), (0, .ref (a 0))]) dX9_filledSlots_29 rfl (by decide) (g_nlt hn rfl) rfl ?_
          refine g_goto C 4 dX9_filledSlots_32 (by decide) ?_
          refine g_iload_n C 0 dX9_filledSlots_4 rfl ?_
          refine g_iconst C (v := 4) dX9_filledSlots_5 (by decide) ?_
          refine g_icmp_ge C 35 dX9_filledSlots_6 (by decide) (fun _ => ?_) (fun h => absurd (by decide) h)
          refine g_iload_n C 1 dX9_filledSlots_35 rfl ?_
          obtain rfl := Option.some.inj hf
          exact g_iret C E () dX9_filledSlots_36 rfl rfl rfl (Nat.le_of_ble_eq_true rfl) (Nat.le_of_ble_eq_true rfl)
      · have hf := opt_neg c8 hf
        refine g_iconst C (v := 1) dX9_filledSlots_22 (by decide) ?_
        refine g_goto C 27 dX9_filledSlots_23 (by decide) ?_
        refine g_iadd C dX9_filledSlots_27 ?_
        obtain ⟨x11, ex11, hf⟩ := opt_let hf
        refine g_topi ex11 ?_
        refine g_istore_n C (lv' := [(1, .int x11), (2, .int 2), (0, .ref (a 0))]) dX9_filledSlots_28 (g_nlt hn rfl) rfl ?_
        refine g_iinc C 1 (v := 3) (lv' := [(2, .int 3), (1, .int x11), (0, .ref (a 0))]) dX9_filledSlots_29 rfl (by decide) (g_nlt hn rfl) rfl ?_
        refine g_goto C 4 dX9_filledSlots_32 (by decide) ?_
        refine g_iload_n C 0 dX9_filledSlots_4 rfl ?_
        refine g_iconst C (v := 4) dX9_filledSlots_5 (by decide) ?_
        refine g_icmp_ge C 35 dX9_filledSlots_6 (by decide) (fun h => absurd h (by decide)) (fun _ => ?_)
        refine g_iload_n C 1 dX9_filledSlots_9 rfl ?_
        refine g_aload_n C 2 dX9_filledSlots_10 rfl ?_
        refine g_get C 0 3 rfl rfl wiX9 (by decide) mw_1_96 rfl rfl dX9_filledSlots_11 ?_
        refine g_iload_n C 0 dX9_filledSlots_14 rfl ?_
        refine g_aald C 2 (r := (s3 0)) rfl (gi_in (by decide)) rfl dX9_filledSlots_15 ?_
        refine g_get C 16 0 rfl rfl wiX7 (by decide) mw_1_60 rfl rfl dX9_filledSlots_16 ?_
        refine g_if_eq C 26 dX9_filledSlots_19 (by decide) (fun c12 => ?_) (fun c12 => ?_)
        · have hf := opt_pos c12 hf
          refine g_iconst C (v := 0) dX9_filledSlots_26 (by decide) ?_
          refine g_iadd C dX9_filledSlots_27 ?_
          refine g_istore_n C (lv' := [(1, .int (x11 + 0)), (2, .int 3), (0, .ref (a 0))]) dX9_filledSlots_28 (g_nlt hn rfl) rfl ?_
          refine g_iinc C 1 (v := 4) (lv' := [(2, .int 4), (1, .int (x11 + 0)), (0, .ref (a 0))]) dX9_filledSlots_29 rfl (by decide) (g_nlt hn rfl) rfl ?_
          refine g_goto C 4 dX9_filledSlots_32 (by decide) ?_
          refine g_iload_n C 0 dX9_filledSlots_4 rfl ?_
          refine g_iconst C (v := 4) dX9_filledSlots_5 (by decide) ?_
          refine g_icmp_ge C 35 dX9_filledSlots_6 (by decide) (fun _ => ?_) (fun h => absurd (by decide) h)
          refine g_iload_n C 1 dX9_filledSlots_35 rfl ?_
          obtain rfl := Option.some.inj hf
          exact g_iret C E () dX9_filledSlots_36 rfl rfl rfl (Nat.le_of_ble_eq_true rfl) (Nat.le_of_ble_eq_true rfl)
        · have hf := opt_neg c12 hf
          refine g_iconst C (v := 1) dX9_filledSlots_22 (by decide) ?_
          refine g_goto C 27 dX9_filledSlots_23 (by decide) ?_
          refine g_iadd C dX9_filledSlots_27 ?_
          refine g_istore_n C (lv' := [(1, .int (x11 + 1)), (2, .int 3), (0, .ref (a 0))]) dX9_filledSlots_28 (g_nlt hn rfl) rfl ?_
          refine g_iinc C 1 (v := 4) (lv' := [(2, .int 4), (1, .int (x11 + 1)), (0, .ref (a 0))]) dX9_filledSlots_29 rfl (by decide) (g_nlt hn rfl) rfl ?_
          refine g_goto C 4 dX9_filledSlots_32 (by decide) ?_
          refine g_iload_n C 0 dX9_filledSlots_4 rfl ?_
          refine g_iconst C (v := 4) dX9_filledSlots_5 (by decide) ?_
          refine g_icmp_ge C 35 dX9_filledSlots_6 (by decide) (fun _ => ?_) (fun h => absurd (by decide) h)
          refine g_iload_n C 1 dX9_filledSlots_35 rfl ?_
          obtain rfl := Option.some.inj hf
          exact g_iret C E () dX9_filledSlots_36 rfl rfl rfl (Nat.le_of_ble_eq_true rfl) (Nat.le_of_ble_eq_true rfl)
  · have hf := opt_neg c1 hf
    refine g_iconst C (v := 1) dX9_filledSlots_22 (by decide) ?_
    refine g_goto C 27 dX9_filledSlots_23 (by decide) ?_
    refine g_iadd C dX9_filledSlots_27 ?_
    refine g_istore_n C (lv' := [(1, .int ((0 : Int32) + 1)), (2, .int 0), (0, .ref (a 0))]) dX9_filledSlots_28 (g_nlt hn rfl) rfl ?_
    refine g_iinc C 1 (v := 1) (lv' := [(2, .int 1), (1, .int ((0 : Int32) + 1)), (0, .ref (a 0))]) dX9_filledSlots_29 rfl (by decide) (g_nlt hn rfl) rfl ?_
    refine g_goto C 4 dX9_filledSlots_32 (by decide) ?_
    refine g_iload_n C 0 dX9_filledSlots_4 rfl ?_
    refine g_iconst C (v := 4) dX9_filledSlots_5 (by decide) ?_
    refine g_icmp_ge C 35 dX9_filledSlots_6 (by decide) (fun h => absurd h (by decide)) (fun _ => ?_)
    refine g_iload_n C 1 dX9_filledSlots_9 rfl ?_
    refine g_aload_n C 2 dX9_filledSlots_10 rfl ?_
    refine g_get C 0 3 rfl rfl wiX9 (by decide) mw_1_96 rfl rfl dX9_filledSlots_11 ?_
    refine g_iload_n C 0 dX9_filledSlots_14 rfl ?_
    refine g_aald C 2 (r := (s1 0)) rfl (gi_in (by decide)) rfl dX9_filledSlots_15 ?_
    refine g_get C 8 0 rfl rfl wiX7 (by decide) mw_1_60 rfl rfl dX9_filledSlots_16 ?_
    refine g_if_eq C 26 dX9_filledSlots_19 (by decide) (fun c13 => ?_) (fun c13 => ?_)
    · have hf := opt_pos c13 hf
      refine g_iconst C (v := 0) dX9_filledSlots_26 (by decide) ?_
      refine g_iadd C dX9_filledSlots_27 ?_
      refine g_istore_n C (lv' := [(1, .int (((0 : Int32) + 1) + 0)), (2, .int 1), (0, .ref (a 0))]) dX9_filledSlots_28 (g_nlt hn rfl) rfl ?_
      refine g_iinc C 1 (v := 2) (lv' := [(2, .int 2), (1, .int (((0 : Int32) + 1) + 0)), (0, .ref (a 0))]) dX9_filledSlots_29 rfl (by decide) (g_nlt hn rfl) rfl ?_
      refine g_goto C 4 dX9_filledSlots_32 (by decide) ?_
      refine g_iload_n C 0 dX9_filledSlots_4 rfl ?_
      refine g_iconst C (v := 4) dX9_filledSlots_5 (by decide) ?_
      refine g_icmp_ge C 35 dX9_filledSlots_6 (by decide) (fun h => absurd h (by decide)) (fun _ => ?_)
      refine g_iload_n C 1 dX9_filledSlots_9 rfl ?_
      refine g_aload_n C 2 dX9_filledSlots_10 rfl ?_
      refine g_get C 0 3 rfl rfl wiX9 (by decide) mw_1_96 rfl rfl dX9_filledSlots_11 ?_
      refine g_iload_n C 0 dX9_filledSlots_14 rfl ?_
      refine g_aald C 2 (r := (s2 0)) rfl (gi_in (by decide)) rfl dX9_filledSlots_15 ?_
      refine g_get C 12 0 rfl rfl wiX7 (by decide) mw_1_60 rfl rfl dX9_filledSlots_16 ?_
      refine g_if_eq C 26 dX9_filledSlots_19 (by decide) (fun c14 => ?_) (fun c14 => ?_)
      · have hf := opt_pos c14 hf
        refine g_iconst C (v := 0) dX9_filledSlots_26 (by decide) ?_
        refine g_iadd C dX9_filledSlots_27 ?_
        obtain ⟨x15, ex15, hf⟩ := opt_let hf
        refine g_topi ex15 ?_
        refine g_istore_n C (lv' := [(1, .int x15), (2, .int 2), (0, .ref (a 0))]) dX9_filledSlots_28 (g_nlt hn rfl) rfl ?_
        refine g_iinc C 1 (v := 3) (lv' := [(2, .int 3), (1, .int x15), (0, .ref (a 0))]) dX9_filledSlots_29 rfl (by decide) (g_nlt hn rfl) rfl ?_
        refine g_goto C 4 dX9_filledSlots_32 (by decide) ?_
        refine g_iload_n C 0 dX9_filledSlots_4 rfl ?_
        refine g_iconst C (v := 4) dX9_filledSlots_5 (by decide) ?_
        refine g_icmp_ge C 35 dX9_filledSlots_6 (by decide) (fun h => absurd h (by decide)) (fun _ => ?_)
        refine g_iload_n C 1 dX9_filledSlots_9 rfl ?_
        refine g_aload_n C 2 dX9_filledSlots_10 rfl ?_
        refine g_get C 0 3 rfl rfl wiX9 (by decide) mw_1_96 rfl rfl dX9_filledSlots_11 ?_
        refine g_iload_n C 0 dX9_filledSlots_14 rfl ?_
        refine g_aald C 2 (r := (s3 0)) rfl (gi_in (by decide)) rfl dX9_filledSlots_15 ?_
        refine g_get C 16 0 rfl rfl wiX7 (by decide) mw_1_60 rfl rfl dX9_filledSlots_16 ?_
        refine g_if_eq C 26 dX9_filledSlots_19 (by decide) (fun c16 => ?_) (fun c16 => ?_)
        · have hf := opt_pos c16 hf
          refine g_iconst C (v := 0) dX9_filledSlots_26 (by decide) ?_
          refine g_iadd C dX9_filledSlots_27 ?_
          refine g_istore_n C (lv' := [(1, .int (x15 + 0)), (2, .int 3), (0, .ref (a 0))]) dX9_filledSlots_28 (g_nlt hn rfl) rfl ?_
          refine g_iinc C 1 (v := 4) (lv' := [(2, .int 4), (1, .int (x15 + 0)), (0, .ref (a 0))]) dX9_filledSlots_29 rfl (by decide) (g_nlt hn rfl) rfl ?_
          refine g_goto C 4 dX9_filledSlots_32 (by decide) ?_
          refine g_iload_n C 0 dX9_filledSlots_4 rfl ?_
          refine g_iconst C (v := 4) dX9_filledSlots_5 (by decide) ?_
          refine g_icmp_ge C 35 dX9_filledSlots_6 (by decide) (fun _ => ?_) (fun h => absurd (by decide) h)
          refine g_iload_n C 1 dX9_filledSlots_35 rfl ?_
          obtain rfl := Option.some.inj hf
          exact g_iret C E () dX9_filledSlots_36 rfl rfl rfl (Nat.le_of_ble_eq_true rfl) (Nat.le_of_ble_eq_true rfl)
        · have hf := opt_neg c16 hf
          refine g_iconst C (v := 1) dX9_filledSlots_22 (by decide) ?_
          refine g_goto C 27 dX9_filledSlots_23 (by decide) ?_
          refine g_iadd C dX9_filledSlots_27 ?_
          refine g_istore_n C (lv' := [(1, .int (x15 + 1)), (2, .int 3), (0, .ref (a 0))]) dX9_filledSlots_28 (g_nlt hn rfl) rfl ?_
          refine g_iinc C 1 (v := 4) (lv' := [(2, .int 4), (1, .int (x15 + 1)), (0, .ref (a 0))]) dX9_filledSlots_29 rfl (by decide) (g_nlt hn rfl) rfl ?_
          refine g_goto C 4 dX9_filledSlots_32 (by decide) ?_
          refine g_iload_n C 0 dX9_filledSlots_4 rfl ?_
          refine g_iconst C (v := 4) dX9_filledSlots_5 (by decide) ?_
          refine g_icmp_ge C 35 dX9_filledSlots_6 (by decide) (fun _ => ?_) (fun h => absurd (by decide) h)
          refine g_iload_n C 1 dX9_filledSlots_35 rfl ?_
          obtain rfl := Option.some.inj hf
          exact g_iret C E () dX9_filledSlots_36 rfl rfl rfl (Nat.le_of_ble_eq_true rfl) (Nat.le_of_ble_eq_true rfl)
      · have hf := opt_neg c14 hf
        refine g_iconst C (v := 1) dX9_filledSlots_22 (by decide) ?_
        refine g_goto C 27 dX9_filledSlots_23 (by decide) ?_
        refine g_iadd C dX9_filledSlots_27 ?_
        obtain ⟨x17, ex17, hf⟩ := opt_let hf
        refine g_topi ex17 ?_
        refine g_istore_n C (lv' := [(1, .int x17), (2, .int 2), (0, .ref (a 0))]) dX9_filledSlots_28 (g_nlt hn rfl) rfl ?_
        refine g_iinc C 1 (v := 3) (lv' := [(2, .int 3), (1, .int x17), (0, .ref (a 0))]) dX9_filledSlots_29 rfl (by decide) (g_nlt hn rfl) rfl ?_
        refine g_goto C 4 dX9_filledSlots_32 (by decide) ?_
        refine g_iload_n C 0 dX9_filledSlots_4 rfl ?_
        refine g_iconst C (v := 4) dX9_filledSlots_5 (by decide) ?_
        refine g_icmp_ge C 35 dX9_filledSlots_6 (by decide) (fun h => absurd h (by decide)) (fun _ => ?_)
        refine g_iload_n C 1 dX9_filledSlots_9 rfl ?_
        refine g_aload_n C 2 dX9_filledSlots_10 rfl ?_
        refine g_get C 0 3 rfl rfl wiX9 (by decide) mw_1_96 rfl rfl dX9_filledSlots_11 ?_
        refine g_iload_n C 0 dX9_filledSlots_14 rfl ?_
        refine g_aald C 2 (r := (s3 0)) rfl (gi_in (by decide)) rfl dX9_filledSlots_15 ?_
        refine g_get C 16 0 rfl rfl wiX7 (by decide) mw_1_60 rfl rfl dX9_filledSlots_16 ?_
        refine g_if_eq C 26 dX9_filledSlots_19 (by decide) (fun c18 => ?_) (fun c18 => ?_)
        · have hf := opt_pos c18 hf
          refine g_iconst C (v := 0) dX9_filledSlots_26 (by decide) ?_
          refine g_iadd C dX9_filledSlots_27 ?_
          refine g_istore_n C (lv' := [(1, .int (x17 + 0)), (2, .int 3), (0, .ref (a 0))]) dX9_filledSlots_28 (g_nlt hn rfl) rfl ?_
          refine g_iinc C 1 (v := 4) (lv' := [(2, .int 4), (1, .int (x17 + 0)), (0, .ref (a 0))]) dX9_filledSlots_29 rfl (by decide) (g_nlt hn rfl) rfl ?_
          refine g_goto C 4 dX9_filledSlots_32 (by decide) ?_
          refine g_iload_n C 0 dX9_filledSlots_4 rfl ?_
          refine g_iconst C (v := 4) dX9_filledSlots_5 (by decide) ?_
          refine g_icmp_ge C 35 dX9_filledSlots_6 (by decide) (fun _ => ?_) (fun h => absurd (by decide) h)
          refine g_iload_n C 1 dX9_filledSlots_35 rfl ?_
          obtain rfl := Option.some.inj hf
          exact g_iret C E () dX9_filledSlots_36 rfl rfl rfl (Nat.le_of_ble_eq_true rfl) (Nat.le_of_ble_eq_true rfl)
        · have hf := opt_neg c18 hf
          refine g_iconst C (v := 1) dX9_filledSlots_22 (by decide) ?_
          refine g_goto C 27 dX9_filledSlots_23 (by decide) ?_
          refine g_iadd C dX9_filledSlots_27 ?_
          refine g_istore_n C (lv' := [(1, .int (x17 + 1)), (2, .int 3), (0, .ref (a 0))]) dX9_filledSlots_28 (g_nlt hn rfl) rfl ?_
          refine g_iinc C 1 (v := 4) (lv' := [(2, .int 4), (1, .int (x17 + 1)), (0, .ref (a 0))]) dX9_filledSlots_29 rfl (by decide) (g_nlt hn rfl) rfl ?_
          refine g_goto C 4 dX9_filledSlots_32 (by decide) ?_
          refine g_iload_n C 0 dX9_filledSlots_4 rfl ?_
          refine g_iconst C (v := 4) dX9_filledSlots_5 (by decide) ?_
          refine g_icmp_ge C 35 dX9_filledSlots_6 (by decide) (fun _ => ?_) (fun h => absurd (by decide) h)
          refine g_iload_n C 1 dX9_filledSlots_35 rfl ?_
          obtain rfl := Option.some.inj hf
          exact g_iret C E () dX9_filledSlots_36 rfl rfl rfl (Nat.le_of_ble_eq_true rfl) (Nat.le_of_ble_eq_true rfl)
    · have hf := opt_neg c13 hf
      refine g_iconst C (v := 1) dX9_filledSlots_22 (by decide) ?_
      refine g_goto C 27 dX9_filledSlots_23 (by decide) ?_
      refine g_iadd C dX9_filledSlots_27 ?_
      refine g_istore_n C (lv' := [(1, .int (((0 : Int32) + 1) + 1)), (2, .int 1), (0, .ref (a 0))]) dX9_filledSlots_28 (g_nlt hn rfl) rfl ?_
      refine g_iinc C 1 (v := 2) (lv' := [(2, .int 2), (1, .int (((0 : Int32) + 1) + 1)), (0, .ref (a 0))]) dX9_filledSlots_29 rfl (by decide) (g_nlt hn rfl) rfl ?_
      refine g_goto C 4 dX9_filledSlots_32 (by decide) ?_
      refine g_iload_n C 0 dX9_filledSlots_4 rfl ?_
      refine g_iconst C (v := 4) dX9_filledSlots_5 (by decide) ?_
      refine g_icmp_ge C 35 dX9_filledSlots_6 (by decide) (fun h => absurd h (by decide)) (fun _ => ?_)
      refine g_iload_n C 1 dX9_filledSlots_9 rfl ?_
      refine g_aload_n C 2 dX9_filledSlots_10 rfl ?_
      refine g_get C 0 3 rfl rfl wiX9 (by decide) mw_1_96 rfl rfl dX9_filledSlots_11 ?_
      refine g_iload_n C 0 dX9_filledSlots_14 rfl ?_
      refine g_aald C 2 (r := (s2 0)) rfl (gi_in (by decide)) rfl dX9_filledSlots_15 ?_
      refine g_get C 12 0 rfl rfl wiX7 (by decide) mw_1_60 rfl rfl dX9_filledSlots_16 ?_
      refine g_if_eq C 26 dX9_filledSlots_19 (by decide) (fun c19 => ?_) (fun c19 => ?_)
      · have hf := opt_pos c19 hf
        refine g_iconst C (v := 0) dX9_filledSlots_26 (by decide) ?_
        refine g_iadd C dX9_filledSlots_27 ?_
        obtain ⟨x20, ex20, hf⟩ := opt_let hf
        refine g_topi ex20 ?_
        refine g_istore_n C (lv' := [(1, .int x20), (2, .int 2), (0, .ref (a 0))]) dX9_filledSlots_28 (g_nlt hn rfl) rfl ?_
        refine g_iinc C 1 (v := 3) (lv' := [(2, .int 3), (1, .int x20), (0, .ref (a 0))]) dX9_filledSlots_29 rfl (by decide) (g_nlt hn rfl) rfl ?_
        refine g_goto C 4 dX9_filledSlots_32 (by decide) ?_
        refine g_iload_n C 0 dX9_filledSlots_4 rfl ?_
        refine g_iconst C (v := 4) dX9_filledSlots_5 (by decide) ?_
        refine g_icmp_ge C 35 dX9_filledSlots_6 (by decide) (fun h => absurd h (by decide)) (fun _ => ?_)
        refine g_iload_n C 1 dX9_filledSlots_9 rfl ?_
        refine g_aload_n C 2 dX9_filledSlots_10 rfl ?_
        refine g_get C 0 3 rfl rfl wiX9 (by decide) mw_1_96 rfl rfl dX9_filledSlots_11 ?_
        refine g_iload_n C 0 dX9_filledSlots_14 rfl ?_
        refine g_aald C 2 (r := (s3 0)) rfl (gi_in (by decide)) rfl dX9_filledSlots_15 ?_
        refine g_get C 16 0 rfl rfl wiX7 (by decide) mw_1_60 rfl rfl dX9_filledSlots_16 ?_
        refine g_if_eq C 26 dX9_filledSlots_19 (by decide) (fun c21 => ?_) (fun c21 => ?_)
        · have hf := opt_pos c21 hf
          refine g_iconst C (v := 0) dX9_filledSlots_26 (by decide) ?_
          refine g_iadd C dX9_filledSlots_27 ?_
          refine g_istore_n C (lv' := [(1, .int (x20 + 0)), (2, .int 3), (0, .ref (a 0))]) dX9_filledSlots_28 (g_nlt hn rfl) rfl ?_
          refine g_iinc C 1 (v := 4) (lv' := [(2, .int 4), (1, .int (x20 + 0)), (0, .ref (a 0))]) dX9_filledSlots_29 rfl (by decide) (g_nlt hn rfl) rfl ?_
          refine g_goto C 4 dX9_filledSlots_32 (by decide) ?_
          refine g_iload_n C 0 dX9_filledSlots_4 rfl ?_
          refine g_iconst C (v := 4) dX9_filledSlots_5 (by decide) ?_
          refine g_icmp_ge C 35 dX9_filledSlots_6 (by decide) (fun _ => ?_) (fun h => absurd (by decide) h)
          refine g_iload_n C 1 dX9_filledSlots_35 rfl ?_
          obtain rfl := Option.some.inj hf
          exact g_iret C E () dX9_filledSlots_36 rfl rfl rfl (Nat.le_of_ble_eq_true rfl) (Nat.le_of_ble_eq_true rfl)
        · have hf := opt_neg c21 hf
          refine g_iconst C (v := 1) dX9_filledSlots_22 (by decide) ?_
          refine g_goto C 27 dX9_filledSlots_23 (by decide) ?_
          refine g_iadd C dX9_filledSlots_27 ?_
          refine g_istore_n C (lv' := [(1, .int (x20 + 1)), (2, .int 3), (0, .ref (a 0))]) dX9_filledSlots_28 (g_nlt hn rfl) rfl ?_
          refine g_iinc C 1 (v := 4) (lv' := [(2, .int 4), (1, .int (x20 + 1)), (0, .ref (a 0))]) dX9_filledSlots_29 rfl (by decide) (g_nlt hn rfl) rfl ?_
          refine g_goto C 4 dX9_filledSlots_32 (by decide) ?_
          refine g_iload_n C 0 dX9_filledSlots_4 rfl ?_
          refine g_iconst C (v := 4) dX9_filledSlots_5 (by decide) ?_
          refine g_icmp_ge C 35 dX9_filledSlots_6 (by decide) (fun _ => ?_) (fun h => absurd (by decide) h)
          refine g_iload_n C 1 dX9_filledSlots_35 rfl ?_
          obtain rfl := Option.some.inj hf
          exact g_iret C E () dX9_filledSlots_36 rfl rfl rfl (Nat.le_of_ble_eq_true rfl) (Nat.le_of_ble_eq_true rfl)
      · have hf := opt_neg c19 hf
        refine g_iconst C (v := 1) dX9_filledSlots_22 (by decide) ?_
        refine g_goto C 27 dX9_filledSlots_23 (by decide) ?_
        refine g_iadd C dX9_filledSlots_27 ?_
        obtain ⟨x22, ex22, hf⟩ := opt_let hf
        refine g_topi ex22 ?_
        refine g_istore_n C (lv' := [(1, .int x22), (2, .int 2), (0, .ref (a 0))]) dX9_filledSlots_28 (g_nlt hn rfl) rfl ?_
        refine g_iinc C 1 (v := 3) (lv' := [(2, .int 3), (1, .int x22), (0, .ref (a 0))]) dX9_filledSlots_29 rfl (by decide) (g_nlt hn rfl) rfl ?_
        refine g_goto C 4 dX9_filledSlots_32 (by decide) ?_
        refine g_iload_n C 0 dX9_filledSlots_4 rfl ?_
        refine g_iconst C (v := 4) dX9_filledSlots_5 (by decide) ?_
        refine g_icmp_ge C 35 dX9_filledSlots_6 (by decide) (fun h => absurd h (by decide)) (fun _ => ?_)
        refine g_iload_n C 1 dX9_filledSlots_9 rfl ?_
        refine g_aload_n C 2 dX9_filledSlots_10 rfl ?_
        refine g_get C 0 3 rfl rfl wiX9 (by decide) mw_1_96 rfl rfl dX9_filledSlots_11 ?_
        refine g_iload_n C 0 dX9_filledSlots_14 rfl ?_
        refine g_aald C 2 (r := (s3 0)) rfl (gi_in (by decide)) rfl dX9_filledSlots_15 ?_
        refine g_get C 16 0 rfl rfl wiX7 (by decide) mw_1_60 rfl rfl dX9_filledSlots_16 ?_
        refine g_if_eq C 26 dX9_filledSlots_19 (by decide) (fun c23 => ?_) (fun c23 => ?_)
        · have hf := opt_pos c23 hf
          refine g_iconst C (v := 0) dX9_filledSlots_26 (by decide) ?_
          refine g_iadd C dX9_filledSlots_27 ?_
          refine g_istore_n C (lv' := [(1, .int (x22 + 0)), (2, .int 3), (0, .ref (a 0))]) dX9_filledSlots_28 (g_nlt hn rfl) rfl ?_
          refine g_iinc C 1 (v := 4) (lv' := [(2, .int 4), (1, .int (x22 + 0)), (0, .ref (a 0))]) dX9_filledSlots_29 rfl (by decide) (g_nlt hn rfl) rfl ?_
          refine g_goto C 4 dX9_filledSlots_32 (by decide) ?_
          refine g_iload_n C 0 dX9_filledSlots_4 rfl ?_
          refine g_iconst C (v := 4) dX9_filledSlots_5 (by decide) ?_
          refine g_icmp_ge C 35 dX9_filledSlots_6 (by decide) (fun _ => ?_) (fun h => absurd (by decide) h)
          refine g_iload_n C 1 dX9_filledSlots_35 rfl ?_
          obtain rfl := Option.some.inj hf
          exact g_iret C E () dX9_filledSlots_36 rfl rfl rfl (Nat.le_of_ble_eq_true rfl) (Nat.le_of_ble_eq_true rfl)
        · have hf := opt_neg c23 hf
          refine g_iconst C (v := 1) dX9_filledSlots_22 (by decide) ?_
          refine g_goto C 27 dX9_filledSlots_23 (by decide) ?_
          refine g_iadd C dX9_filledSlots_27 ?_
          refine g_istore_n C (lv' := [(1, .int (x22 + 1)), (2, .int 3), (0, .ref (a 0))]) dX9_filledSlots_28 (g_nlt hn rfl) rfl ?_
          refine g_iinc C 1 (v := 4) (lv' := [(2, .int 4), (1, .int (x22 + 1)), (0, .ref (a 0))]) dX9_filledSlots_29 rfl (by decide) (g_nlt hn rfl) rfl ?_
          refine g_goto C 4 dX9_filledSlots_32 (by decide) ?_
          refine g_iload_n C 0 dX9_filledSlots_4 rfl ?_
          refine g_iconst C (v := 4) dX9_filledSlots_5 (by decide) ?_
          refine g_icmp_ge C 35 dX9_filledSlots_6 (by decide) (fun _ => ?_) (fun h => absurd (by decide) h)
          refine g_iload_n C 1 dX9_filledSlots_35 rfl ?_
          obtain rfl := Option.some.inj hf
          exact g_iret C E () dX9_filledSlots_36 rfl rfl rfl (Nat.le_of_ble_eq_true rfl) (Nat.le_of_ble_eq_true rfl)
