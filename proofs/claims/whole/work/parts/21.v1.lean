/-! the class: its worlds -/
abbrev wSec (cy : Nat → ClassId) (a : Nat → Nat) (filled : Int32) (th : Int32) (ep : Int32) (rule : Option Nat) (cm : Nat → Int32) (vs : Nat → Int32) (es : Nat → Int32) : va_W := [((a 0), .inr (8, [.int filled, .int th, .int ep, .ref (a 1), va_rf rule, .ref (a 2), .ref (a 3)])), ((a 1), .inl (cy 0, 8, .inl cm)), ((a 2), .inl (cy 0, 25, .inl vs)), ((a 3), .inl (cy 0, 25, .inl es))]
abbrev wSt (cy : Nat → ClassId) (a : Nat → Nat) (z : Int32) (pr : Int32) (le : Int32) (ec : Int32) (wt : Nat → Int32) (sa : Nat → Option Nat) (ev : Nat → Int32) : va_W := [((a 0), .inr (10, [.int z, .ref (a 1), .int pr, .ref (a 2), .ref (a 3), .int le, .int ec])), ((a 1), .inl (cy 0, 8, .inl wt)), ((a 2), .inl (cy 5, 4, .inr (.inr (.inr (.inr sa))))), ((a 3), .inl (cy 0, 20, .inl ev))]
abbrev wRep (cy : Nat → ClassId) (a : Nat → Nat) (rs : Int32) (rc : Nat → Int32) (rd : Nat → Int32) : va_W := [((a 0), .inr (7, [.ref (a 1), .ref (a 2), .int rs])), ((a 1), .inl (cy 0, 26, .inl rc)), ((a 2), .inl (cy 0, 26, .inl rd))]
abbrev wV (cy : Nat → ClassId) (a : Nat → Nat) (nw : Nat) (kp : Nat) (ak : Int32) (bf : Nat) (fa : Int32) (fl : Nat) (ln : Nat) (co : Nat → Int32) (ch : Nat → Int32) (gs : Nat → Int32) (op : Nat → Int32) : va_W := [((a 0), .inr (11, [.ref nw, .ref kp, .int ak, .ref bf, .int fa, .ref fl, .ref (a 1), .ref (a 2), .ref (a 3), .ref (a 4), .ref ln])), ((a 1), .inl (cy 0, 8, .inl co)), ((a 2), .inl (cy 0, 8, .inl ch)), ((a 3), .inl (cy 0, 8, .inl gs)), ((a 4), .inl (cy 1, 256, .inl op))]
abbrev wPo (cy : Nat → ClassId) (a0 a1 a2 a3 : Nat) (pparts : Int32) (pnest : Int32) (pnamed : Int32) (ful : Nat → Int32) (hash : Int32) (hz : Int32) (tn : Nat) (tb : Nat → Int32) : va_W := [(a0, .inr (5, [.ref a2, .int pparts, .int pnest, .int pnamed, .ref a1])), (a1, .inl (cy 1, 256, .inl ful)), (a2, .inr (0, [.ref a3, .int 0, .int hash, .int hz])), (a3, .inl (cy 3, tn, .inl tb))]
abbrev wStr (cy : Nat → ClassId) (a0 a1 : Nat) (hash : Int32) (hz : Int32) (tn : Nat) (tb : Nat → Int32) : va_W := [(a0, .inr (0, [.ref a1, .int 0, .int hash, .int hz])), (a1, .inl (cy 3, tn, .inl tb))]
abbrev wA8 (cy : Nat → ClassId) (a : Nat) (pa : Nat → Int32) : va_W := [(a, .inl (cy 0, 8, .inl pa))]
abbrev wSb (cy : Nat → ClassId) (a0 a1 : Nat) (ml : Int32) (n : Int32) (cap : Nat) (bs : Nat → Int32) : va_W := [(a0, .inr (1, [.ref a1, .int 0, .int ml, .int n])), (a1, .inl (cy 3, cap, .inl bs))]
abbrev wB1 (cy : Nat → ClassId) (a0 : Nat) (bn : Nat) (bb : Nat → Int32) : va_W := [(a0, .inl (cy 3, bn, .inl bb))]
abbrev wZ1 (cy : Nat → ClassId) (a0 : Nat) (zn : Nat) (zz : Nat → Int32) : va_W := [(a0, .inl (cy 1, zn, .inl zz))]
abbrev wSR (cy : Nat → ClassId) (a0 : Nat) (stext : Nat) (nx : Int32) (er : Int32) (rp : Int32) (rv : Int32) (re : Int32) : va_W := [(a0, .inr (9, [.ref stext, .int nx, .int er, .int rp, .int rv, .int re]))]
abbrev wPR (cy : Nat → ClassId) (a0 a1 : Nat) (stext : Nat) (opn : Int32) (due : Int32) (on : Nat) (oc : Nat → Int32) : va_W := [(a0, .inr (6, [.ref stext, .ref a1, .int opn, .int due])), (a1, .inl (cy 1, on, .inl oc))]
abbrev wJu (cy : Nat → ClassId) (a0 a1 a2 a3 a4 : Nat) (stext : Nat) (opn : Int32) (jn : Nat) (du : Nat → Int32) (jm : Nat) (me : Nat → Int32) (ja : Nat) (an : Nat → Int32) (jl : Nat) (al : Nat → Int32) : va_W := [(a0, .inr (4, [.ref stext, .ref a1, .ref a2, .ref a3, .ref a4, .int opn])), (a1, .inl (cy 0, jn, .inl du)), (a2, .inl (cy 0, jm, .inl me)), (a3, .inl (cy 1, ja, .inl an)), (a4, .inl (cy 1, jl, .inl al))]
abbrev wPol (cy : Nat → ClassId) (a0 : Nat) (ptext : Nat) (pparts : Int32) (pnest : Int32) (pnamed : Int32) (pful : Nat) : va_W := [(a0, .inr (5, [.ref ptext, .int pparts, .int pnest, .int pnamed, .ref pful]))]
abbrev wSecM (cy : Nat → ClassId) (a0 a1 a2 a3 : Nat) (filled : Int32) (th : Int32) (ep : Int32) (rule : Option Nat) (cm : Nat → Int32) (vs : Nat → Int32) (es : Nat → Int32) : va_W := [(a0, .inr (8, [.int filled, .int th, .int ep, .ref a1, va_rf rule, .ref a2, .ref a3])), (a1, .inl (cy 0, 8, .inl cm)), (a2, .inl (cy 0, 25, .inl vs)), (a3, .inl (cy 0, 25, .inl es))]
abbrev wRepM (cy : Nat → ClassId) (a0 a1 a2 : Nat) (rs : Int32) (rc : Nat → Int32) (rd : Nat → Int32) : va_W := [(a0, .inr (7, [.ref a1, .ref a2, .int rs])), (a1, .inl (cy 0, 26, .inl rc)), (a2, .inl (cy 0, 26, .inl rd))]
abbrev wStI (cy : Nat → ClassId) (a0 a1 a2 a3 a4 a5 a6 a7 a8 a9 a10 a11 a12 a13 a14 a15 a16 a17 a18 a19 : Nat) (z : Int32) (pr : Int32) (le : Int32) (ec : Int32) (wt : Nat → Int32) (s0_filled : Int32) (s0_th : Int32) (s0_ep : Int32) (s0_rule : Option Nat) (s0_cm : Nat → Int32) (s0_vs : Nat → Int32) (s0_es : Nat → Int32) (s1_filled : Int32) (s1_th : Int32) (s1_ep : Int32) (s1_rule : Option Nat) (s1_cm : Nat → Int32) (s1_vs : Nat → Int32) (s1_es : Nat → Int32) (s2_filled : Int32) (s2_th : Int32) (s2_ep : Int32) (s2_rule : Option Nat) (s2_cm : Nat → Int32) (s2_vs : Nat → Int32) (s2_es : Nat → Int32) (s3_filled : Int32) (s3_th : Int32) (s3_ep : Int32) (s3_rule : Option Nat) (s3_cm : Nat → Int32) (s3_vs : Nat → Int32) (s3_es : Nat → Int32) (ev : Nat → Int32) : va_W := [(a0, .inr (10, [.int z, .ref a1, .int pr, .ref a2, .ref a19, .int le, .int ec])), (a1, .inl (cy 0, 8, .inl wt)), (a2, .inl (cy 5, 4, .inr (.inr (.inr (.inr (gA4 a3 a7 a11 a15)))))), (a3, .inr (8, [.int s0_filled, .int s0_th, .int s0_ep, .ref a4, va_rf s0_rule, .ref a5, .ref a6])), (a4, .inl (cy 0, 8, .inl s0_cm)), (a5, .inl (cy 0, 25, .inl s0_vs)), (a6, .inl (cy 0, 25, .inl s0_es)), (a7, .inr (8, [.int s1_filled, .int s1_th, .int s1_ep, .ref a8, va_rf s1_rule, .ref a9, .ref a10])), (a8, .inl (cy 0, 8, .inl s1_cm)), (a9, .inl (cy 0, 25, .inl s1_vs)), (a10, .inl (cy 0, 25, .inl s1_es)), (a11, .inr (8, [.int s2_filled, .int s2_th, .int s2_ep, .ref a12, va_rf s2_rule, .ref a13, .ref a14])), (a12, .inl (cy 0, 8, .inl s2_cm)), (a13, .inl (cy 0, 25, .inl s2_vs)), (a14, .inl (cy 0, 25, .inl s2_es)), (a15, .inr (8, [.int s3_filled, .int s3_th, .int s3_ep, .ref a16, va_rf s3_rule, .ref a17, .ref a18])), (a16, .inl (cy 0, 8, .inl s3_cm)), (a17, .inl (cy 0, 25, .inl s3_vs)), (a18, .inl (cy 0, 25, .inl s3_es)), (a19, .inl (cy 0, 20, .inl ev))]
abbrev wVI (cy : Nat → ClassId) (a0 a1 a2 a3 a4 a5 a6 a7 a8 a9 a10 a11 a12 a13 a14 a15 a16 a17 a18 a19 a20 a21 a22 a23 a24 a25 a26 a27 a28 a29 a30 a31 a32 a33 a34 a35 a36 a37 a38 a39 a40 a41 a42 a43 a44 a45 a46 a47 a48 a49 a50 a51 : Nat) (ak : Int32) (fa : Int32) (z : Int32) (pr : Int32) (le : Int32) (ec : Int32) (wt : Nat → Int32) (s0_filled : Int32) (s0_th : Int32) (s0_ep : Int32) (s0_rule : Option Nat) (s0_cm : Nat → Int32) (s0_vs : Nat → Int32) (s0_es : Nat → Int32) (s1_filled : Int32) (s1_th : Int32) (s1_ep : Int32) (s1_rule : Option Nat) (s1_cm : Nat → Int32) (s1_vs : Nat → Int32) (s1_es : Nat → Int32) (s2_filled : Int32) (s2_th : Int32) (s2_ep : Int32) (s2_rule : Option Nat) (s2_cm : Nat → Int32) (s2_vs : Nat → Int32) (s2_es : Nat → Int32) (s3_filled : Int32) (s3_th : Int32) (s3_ep : Int32) (s3_rule : Option Nat) (s3_cm : Nat → Int32) (s3_vs : Nat → Int32) (s3_es : Nat → Int32) (ev : Nat → Int32) (k_z : Int32) (k_pr : Int32) (k_le : Int32) (k_ec : Int32) (k_wt : Nat → Int32) (k_s0_filled : Int32) (k_s0_th : Int32) (k_s0_ep : Int32) (k_s0_rule : Option Nat) (k_s0_cm : Nat → Int32) (k_s0_vs : Nat → Int32) (k_s0_es : Nat → Int32) (k_s1_filled : Int32) (k_s1_th : Int32) (k_s1_ep : Int32) (k_s1_rule : Option Nat) (k_s1_cm : Nat → Int32) (k_s1_vs : Nat → Int32) (k_s1_es : Nat → Int32) (k_s2_filled : Int32) (k_s2_th : Int32) (k_s2_ep : Int32) (k_s2_rule : Option Nat) (k_s2_cm : Nat → Int32) (k_s2_vs : Nat → Int32) (k_s2_es : Nat → Int32) (k_s3_filled : Int32) (k_s3_th : Int32) (k_s3_ep : Int32) (k_s3_rule : Option Nat) (k_s3_cm : Nat → Int32) (k_s3_vs : Nat → Int32) (k_s3_es : Nat → Int32) (k_ev : Nat → Int32) (b_ml : Int32) (b_n : Int32) (b_cap : Nat) (b_bs : Nat → Int32) (rs : Int32) (rc : Nat → Int32) (rd : Nat → Int32) (co : Nat → Int32) (ch : Nat → Int32) (gs : Nat → Int32) (op : Nat → Int32) (l_ml : Int32) (l_n : Int32) (l_cap : Nat) (l_bs : Nat → Int32) : va_W := [(a0, .inr (11, [.ref a1, .ref a21, .int ak, .ref a41, .int fa, .ref a43, .ref a46, .ref a47, .ref a48, .ref a49, .ref a50])), (a1, .inr (10, [.int z, .ref a2, .int pr, .ref a3, .ref a20, .int le, .int ec])), (a2, .inl (cy 0, 8, .inl wt)), (a3, .inl (cy 5, 4, .inr (.inr (.inr (.inr (gA4 a4 a8 a12 a16)))))), (a4, .inr (8, [.int s0_filled, .int s0_th, .int s0_ep, .ref a5, va_rf s0_rule, .ref a6, .ref a7])), (a5, .inl (cy 0, 8, .inl s0_cm)), (a6, .inl (cy 0, 25, .inl s0_vs)), (a7, .inl (cy 0, 25, .inl s0_es)), (a8, .inr (8, [.int s1_filled, .int s1_th, .int s1_ep, .ref a9, va_rf s1_rule, .ref a10, .ref a11])), (a9, .inl (cy 0, 8, .inl s1_cm)), (a10, .inl (cy 0, 25, .inl s1_vs)), (a11, .inl (cy 0, 25, .inl s1_es)), (a12, .inr (8, [.int s2_filled, .int s2_th, .int s2_ep, .ref a13, va_rf s2_rule, .ref a14, .ref a15])), (a13, .inl (cy 0, 8, .inl s2_cm)), (a14, .inl (cy 0, 25, .inl s2_vs)), (a15, .inl (cy 0, 25, .inl s2_es)), (a16, .inr (8, [.int s3_filled, .int s3_th, .int s3_ep, .ref a17, va_rf s3_rule, .ref a18, .ref a19])), (a17, .inl (cy 0, 8, .inl s3_cm)), (a18, .inl (cy 0, 25, .inl s3_vs)), (a19, .inl (cy 0, 25, .inl s3_es)), (a20, .inl (cy 0, 20, .inl ev)), (a21, .inr (10, [.int k_z, .ref a22, .int k_pr, .ref a23, .ref a40, .int k_le, .int k_ec])), (a22, .inl (cy 0, 8, .inl k_wt)), (a23, .inl (cy 5, 4, .inr (.inr (.inr (.inr (gA4 a24 a28 a32 a36)))))), (a24, .inr (8, [.int k_s0_filled, .int k_s0_th, .int k_s0_ep, .ref a25, va_rf k_s0_rule, .ref a26, .ref a27])), (a25, .inl (cy 0, 8, .inl k_s0_cm)), (a26, .inl (cy 0, 25, .inl k_s0_vs)), (a27, .inl (cy 0, 25, .inl k_s0_es)), (a28, .inr (8, [.int k_s1_filled, .int k_s1_th, .int k_s1_ep, .ref a29, va_rf k_s1_rule, .ref a30, .ref a31])), (a29, .inl (cy 0, 8, .inl k_s1_cm)), (a30, .inl (cy 0, 25, .inl k_s1_vs)), (a31, .inl (cy 0, 25, .inl k_s1_es)), (a32, .inr (8, [.int k_s2_filled, .int k_s2_th, .int k_s2_ep, .ref a33, va_rf k_s2_rule, .ref a34, .ref a35])), (a33, .inl (cy 0, 8, .inl k_s2_cm)), (a34, .inl (cy 0, 25, .inl k_s2_vs)), (a35, .inl (cy 0, 25, .inl k_s2_es)), (a36, .inr (8, [.int k_s3_filled, .int k_s3_th, .int k_s3_ep, .ref a37, va_rf k_s3_rule, .ref a38, .ref a39])), (a37, .inl (cy 0, 8, .inl k_s3_cm)), (a38, .inl (cy 0, 25, .inl k_s3_vs)), (a39, .inl (cy 0, 25, .inl k_s3_es)), (a40, .inl (cy 0, 20, .inl k_ev)), (a41, .inr (1, [.ref a42, .int 0, .int b_ml, .int b_n])), (a42, .inl (cy 3, b_cap, .inl b_bs)), (a43, .inr (7, [.ref a44, .ref a45, .int rs])), (a44, .inl (cy 0, 26, .inl rc)), (a45, .inl (cy 0, 26, .inl rd)), (a46, .inl (cy 0, 8, .inl co)), (a47, .inl (cy 0, 8, .inl ch)), (a48, .inl (cy 0, 8, .inl gs)), (a49, .inl (cy 1, 256, .inl op)), (a50, .inr (1, [.ref a51, .int 0, .int l_ml, .int l_n])), (a51, .inl (cy 3, l_cap, .inl l_bs))]
theorem wiX7 : ∀ w ∈ u_ws RX7 TX7 7, w ∈ gBW := List.forall_mem_cons.mpr ⟨mw_1_74, List.forall_mem_cons.mpr ⟨mw_1_76, List.forall_mem_cons.mpr ⟨mw_1_78, List.forall_mem_cons.mpr ⟨mw_1_80, List.forall_mem_cons.mpr ⟨mw_1_82, List.forall_mem_cons.mpr ⟨mw_1_84, List.forall_mem_cons.mpr ⟨mw_1_86, fun _ h => nomatch h⟩⟩⟩⟩⟩⟩⟩
theorem wiX9 : ∀ w ∈ u_ws RX9 TX9 7, w ∈ gBW := List.forall_mem_cons.mpr ⟨mw_1_104, List.forall_mem_cons.mpr ⟨mw_1_106, List.forall_mem_cons.mpr ⟨mw_1_108, List.forall_mem_cons.mpr ⟨mw_1_110, List.forall_mem_cons.mpr ⟨mw_1_112, List.forall_mem_cons.mpr ⟨mw_1_114, List.forall_mem_cons.mpr ⟨mw_1_116, fun _ h => nomatch h⟩⟩⟩⟩⟩⟩⟩
theorem wiX6 : ∀ w ∈ u_ws RX6 TX6 3, w ∈ gBW := List.forall_mem_cons.mpr ⟨mw_1_164, List.forall_mem_cons.mpr ⟨mw_1_166, List.forall_mem_cons.mpr ⟨mw_1_168, fun _ h => nomatch h⟩⟩⟩
theorem wiX10 : ∀ w ∈ u_ws RX10 TX10 11, w ∈ gBW := List.forall_mem_cons.mpr ⟨mw_1_182, List.forall_mem_cons.mpr ⟨mw_1_184, List.forall_mem_cons.mpr ⟨mw_1_186, List.forall_mem_cons.mpr ⟨mw_1_188, List.forall_mem_cons.mpr ⟨mw_1_190, List.forall_mem_cons.mpr ⟨mw_1_192, List.forall_mem_cons.mpr ⟨mw_1_194, List.forall_mem_cons.mpr ⟨mw_1_196, List.forall_mem_cons.mpr ⟨mw_1_198, List.forall_mem_cons.mpr ⟨mw_1_200, List.forall_mem_cons.mpr ⟨mw_1_202, fun _ h => nomatch h⟩⟩⟩⟩⟩⟩⟩⟩⟩⟩⟩
theorem wiX3 : ∀ w ∈ u_ws RX3 TX3 5, w ∈ gBW := List.forall_mem_cons.mpr ⟨mw_6_41, List.forall_mem_cons.mpr ⟨mw_6_43, List.forall_mem_cons.mpr ⟨mw_6_45, List.forall_mem_cons.mpr ⟨mw_6_47, List.forall_mem_cons.mpr ⟨mw_6_49, fun _ h => nomatch h⟩⟩⟩⟩⟩
theorem wiJ0 : ∀ w ∈ u_ws RJ0 TJ0 4, w ∈ gBW := List.forall_mem_cons.mpr ⟨mw_2_86, List.forall_mem_cons.mpr ⟨mw_2_88, List.forall_mem_cons.mpr ⟨mw_4_198, List.forall_mem_cons.mpr ⟨mw_4_200, fun _ h => nomatch h⟩⟩⟩⟩
/-! J9_floorMod_7cf53 -/
theorem hd_J9_floorMod_7cf53 : yJ9_floorMod_7cf53.cls ≠ "java/lang/invoke/MethodHandle" ∧ yJ9_floorMod_7cf53.cls ≠ "java/lang/invoke/VarHandle" ∧ (parseMethodDescriptor yJ9_floorMod_7cf53.desc).map (fun d => d.parameters.length) = some 2 := by decide +kernel
def F_J9_floorMod_7cf53_L18   (l2_18 : Int32) : Option (Int32) := some l2_18
def F_J9_floorMod_7cf53 (p0 : Int32) (p1 : Int32) : Option (Int32) := gg (gz p1) (if 0 ≤ (p0 ^^^ p1) then (F_J9_floorMod_7cf53_L18 (p0 - p0 / p1 * p1)) else (if (p0 - p0 / p1 * p1) = 0 then (F_J9_floorMod_7cf53_L18 (p0 - p0 / p1 * p1)) else (some ((p0 - p0 / p1 * p1) + p1))))
set_option maxRecDepth 100000 in
set_option maxHeartbeats 4000000 in
theorem c_J9_floorMod_7cf53 {l : Launch} {D : va_G} {cy : Nat → ClassId}   {p0 : Int32} {p1 : Int32}  {val : Int32} (hf : F_J9_floorMod_7cf53 p0 p1 = some val) : gCt l D cy yJ9_floorMod_7cf53 cJ9_floorMod_7cf53 3 (some .int) 0 0 0 0 [.int p0, .int p1] [] ([]) 0 (fun _ : Unit => some (.int val)) (fun _ => []) := by
  refine g_begin (by decide +kernel) (Nat.le_of_ble_eq_true rfl) ?_
  intro X Q hl hR hD hy hro hn C hin E
  subst hl; subst hD; subst hy
  replace C : gC X "java/lang/Math" cJ9_floorMod_7cf53 (some .int) := C
  unfold F_J9_floorMod_7cf53 at hf
  have H18 : ∀ (l2_18 : Int32), F_J9_floorMod_7cf53_L18 l2_18 = some val → gW X Q 0 0 ([]) [(0, .int p0), (1, .int p1), (2, .int l2_18)] [] 18 := by
    intro l2_18 hf
    unfold F_J9_floorMod_7cf53_L18 at hf
    refine g_iload_n C 2 dJ9_floorMod_7cf53_18 rfl ?_
    obtain rfl := Option.some.inj hf
    exact g_iret C E () dJ9_floorMod_7cf53_19 rfl rfl rfl (Nat.le_of_ble_eq_true rfl) (Nat.le_of_ble_eq_true rfl)
  show gW X Q 0 0 ([]) [(0, .int p0), (1, .int p1)] [] 0
  refine g_iload_n C 0 dJ9_floorMod_7cf53_0 rfl ?_
  refine g_iload_n C 1 dJ9_floorMod_7cf53_1 rfl ?_
  obtain ⟨c1, hf⟩ := gg_of hf
  refine g_irem C dJ9_floorMod_7cf53_2 (gz_ne c1) ?_
  refine g_istore_n C (lv' := [(2, .int (p0 - p0 / p1 * p1)), (0, .int p0), (1, .int p1)]) dJ9_floorMod_7cf53_3 (g_nlt hn rfl) rfl ?_
  refine g_iload_n C 1 dJ9_floorMod_7cf53_4 rfl ?_
  refine g_iload_n C 2 dJ9_floorMod_7cf53_5 rfl ?_
  refine g_ixor C dJ9_floorMod_7cf53_6 ?_
  refine g_if_ge C 18 dJ9_floorMod_7cf53_7 (by decide) (fun c2 => ?_) (fun c2 => ?_)
  · have hf := opt_pos c2 hf
    refine gW.locals [1, 2, 0] rfl ?_
    exact H18 (p0 - p0 / p1 * p1) hf
  · have hf := opt_neg c2 hf
    refine g_iload_n C 0 dJ9_floorMod_7cf53_10 rfl ?_
    refine g_if_eq C 18 dJ9_floorMod_7cf53_11 (by decide) (fun c3 => ?_) (fun c3 => ?_)
    · have hf := opt_pos c3 hf
      refine gW.locals [1, 2, 0] rfl ?_
      exact H18 (p0 - p0 / p1 * p1) hf
    · have hf := opt_neg c3 hf
      refine g_iload_n C 0 dJ9_floorMod_7cf53_14 rfl ?_
      refine g_iload_n C 2 dJ9_floorMod_7cf53_15 rfl ?_
      refine g_iadd C dJ9_floorMod_7cf53_16 ?_
      obtain rfl := Option.some.inj hf
      exact g_iret C E () dJ9_floorMod_7cf53_17 rfl rfl rfl (Nat.le_of_ble_eq_true rfl) (Nat.le_of_ble_eq_true rfl)
/-! J9_min_7cf53 -/
theorem hd_J9_min_7cf53 : yJ9_min_7cf53.cls ≠ "java/lang/invoke/MethodHandle" ∧ yJ9_min_7cf53.cls ≠ "java/lang/invoke/VarHandle" ∧ (parseMethodDescriptor yJ9_min_7cf53.desc).map (fun d => d.parameters.length) = some 2 := by decide +kernel
def F_J9_min_7cf53_L10   (s0_10 : Int32) : Option (Int32) := some s0_10
def F_J9_min_7cf53 (p0 : Int32) (p1 : Int32) : Option (Int32) := if p1 < p0 then (F_J9_min_7cf53_L10 p1) else (F_J9_min_7cf53_L10 p0)
set_option maxRecDepth 100000 in
set_option maxHeartbeats 4000000 in
theorem c_J9_min_7cf53 {l : Launch} {D : va_G} {cy : Nat → ClassId}   {p0 : Int32} {p1 : Int32}  {val : Int32} (hf : F_J9_min_7cf53 p0 p1 = some val) : gCt l D cy yJ9_min_7cf53 cJ9_min_7cf53 2 (some .int) 0 0 0 0 [.int p0, .int p1] [] ([]) 0 (fun _ : Unit => some (.int val)) (fun _ => []) := by
  refine g_begin (by decide +kernel) (Nat.le_of_ble_eq_true rfl) ?_
  intro X Q hl hR hD hy hro hn C hin E
  subst hl; subst hD; subst hy
  replace C : gC X "java/lang/Math" cJ9_min_7cf53 (some .int) := C
  unfold F_J9_min_7cf53 at hf
  have H10 : ∀ (s0_10 : Int32), F_J9_min_7cf53_L10 s0_10 = some val → gW X Q 0 0 ([]) [(0, .int p0), (1, .int p1)] [.int s0_10] 10 := by
    intro s0_10 hf
    unfold F_J9_min_7cf53_L10 at hf
    obtain rfl := Option.some.inj hf
    exact g_iret C E () dJ9_min_7cf53_10 rfl rfl rfl (Nat.le_of_ble_eq_true rfl) (Nat.le_of_ble_eq_true rfl)
  show gW X Q 0 0 ([]) [(0, .int p0), (1, .int p1)] [] 0
  refine g_iload_n C 0 dJ9_min_7cf53_0 rfl ?_
  refine g_iload_n C 1 dJ9_min_7cf53_1 rfl ?_
  refine g_icmp_gt C 9 dJ9_min_7cf53_2 (by decide) (fun c1 => ?_) (fun c1 => ?_)
  · have hf := opt_pos c1 hf
    refine g_iload_n C 1 dJ9_min_7cf53_9 rfl ?_
    exact H10 p1 hf
  · have hf := opt_neg c1 hf
    refine g_iload_n C 0 dJ9_min_7cf53_5 rfl ?_
    refine g_goto C 10 dJ9_min_7cf53_6 (by decide) ?_
    exact H10 p0 hf
/-! J0_coder_7d493 -/
theorem hd_J0_coder_7d493 : yJ0_coder_7d493.cls ≠ "java/lang/invoke/MethodHandle" ∧ yJ0_coder_7d493.cls ≠ "java/lang/invoke/VarHandle" ∧ (parseMethodDescriptor yJ0_coder_7d493.desc).map (fun d => d.parameters.length) = some 0 := by decide +kernel
def F_J0_coder_7d493_L14   (s0_14 : Int32) : Option (Int32) := gg (gnar .byte s0_14) (some s0_14)
def F_J0_coder_7d493  : Option (Int32) := F_J0_coder_7d493_L14 0
set_option maxRecDepth 100000 in
set_option maxHeartbeats 4000000 in
theorem c_J0_coder_7d493 {l : Launch} {D : va_G} {cy : Nat → ClassId} {t0 t1 : Nat} {hash : Int32} {hz : Int32} {tn : Nat} {tb : Nat → Int32}   {val : Int32} (hf : F_J0_coder_7d493  = some val) : gCt l D cy yJ0_coder_7d493 cJ0_coder_7d493 1 (some .byte) 0 0 0 0 [.ref t0] (wStr cy t0 t1 hash hz tn tb) ([]) 0 (fun _ : Unit => some (.int val)) (fun _ => []) := by
  refine g_begin (by decide +kernel) (Nat.le_of_ble_eq_true rfl) ?_
  intro X Q hl hR hD hy hro hn C hin E
  subst hl; subst hD; subst hy
  replace C : gC X "java/lang/String" cJ0_coder_7d493 (some .byte) := C
  unfold F_J0_coder_7d493 at hf
  have H14 : ∀ (s0_14 : Int32), F_J0_coder_7d493_L14 s0_14 = some val → gW X Q 0 0 ([]) [(0, .ref t0)] [.int s0_14] 14 := by
    intro s0_14 hf
    unfold F_J0_coder_7d493_L14 at hf
    obtain ⟨c1, hf⟩ := gg_of hf
    obtain rfl := Option.some.inj hf
    exact g_zret C E () (gnar_of c1) dJ0_coder_7d493_14 rfl rfl rfl (Nat.le_of_ble_eq_true rfl) (Nat.le_of_ble_eq_true rfl)
  show gW X Q 0 0 ([]) [(0, .ref t0)] [] 0
  refine g_gets C mw_4_80 rfl dJ0_coder_7d493_0 ?_
  refine g_if_eq C 13 dJ0_coder_7d493_3 (by decide) (fun h => absurd h (by decide)) (fun _ => ?_)
  refine g_aload_n C 0 dJ0_coder_7d493_6 rfl ?_
  refine g_getR C hro 0 1 rfl rfl wiJ0 (by decide) mw_4_197 rfl rfl dJ0_coder_7d493_7 ?_
  refine g_goto C 14 dJ0_coder_7d493_10 (by decide) ?_
  exact H14 0 hf
/-! J0_length_8abf5 -/
theorem hd_J0_length_8abf5 : yJ0_length_8abf5.cls ≠ "java/lang/invoke/MethodHandle" ∧ yJ0_length_8abf5.cls ≠ "java/lang/invoke/VarHandle" ∧ (parseMethodDescriptor yJ0_length_8abf5.desc).map (fun d => d.parameters.length) = some 0 := by decide +kernel
def F_J0_length_8abf5 (tn : Nat) : Option (Int32) := (F_J0_coder_7d493 ).bind fun v1 => some ((Int32.ofNat tn) >>> (v1 &&& 31))
set_option maxRecDepth 100000 in
set_option maxHeartbeats 4000000 in
theorem c_J0_length_8abf5 {l : Launch} {D : va_G} {cy : Nat → ClassId} {t0 t1 : Nat} {hash : Int32} {hz : Int32} {tn : Nat} {tb : Nat → Int32}   {val : Int32} (hf : F_J0_length_8abf5 tn = some val) : gCt l D cy yJ0_length_8abf5 cJ0_length_8abf5 1 (some .int) 1 20 0 0 [.ref t0] (wStr cy t0 t1 hash hz tn tb) ([]) 0 (fun _ : Unit => some (.int val)) (fun _ => []) := by
  refine g_begin (by decide +kernel) (Nat.le_of_ble_eq_true rfl) ?_
  intro X Q hl hR hD hy hro hn C hin E
  subst hl; subst hD; subst hy
  replace C : gC X "java/lang/String" cJ0_length_8abf5 (some .int) := C
  unfold F_J0_length_8abf5 at hf
  show gW X Q 0 0 ([]) [(0, .ref t0)] [] 0
  refine g_aload_n C 0 dJ0_length_8abf5_0 rfl ?_
  refine g_getR C hro 0 0 rfl rfl wiJ0 (by decide) mw_4_196 rfl rfl dJ0_length_8abf5_1 ?_
  refine g_alenR C hro 1 (t0 := 3) (v := Int32.ofNat tn) rfl rfl rfl dJ0_length_8abf5_4 ?_
  refine g_aload_n C 0 dJ0_length_8abf5_5 rfl ?_
  obtain ⟨v1, h2, hf⟩ := opt_bind hf
  refine g_callV C (c_J0_coder_7d493 (l := x_l X) (D := x_D X) (cy := x_y X) (t0 := t0) (t1 := t1) (hash := hash) (hz := hz) (tn := tn) (tb := tb) h2) (As := []) (rest := [.int (Int32.ofNat tn)]) (wr := []) (ws' := fun _ => []) (st' := fun _ => [.int v1, .int (Int32.ofNat tn)]) (ci := 0) 0 0 ⟨_, by rw [hro]; rfl⟩ rfl rfl mw_4_79 mw_1_6 mw_4_76 mw_4_77 mw_4_78 hd_J0_coder_7d493 rfl (g_rm hR rfl rfl) [] [] [] ⟨rfl, rfl, rfl, rfl, by decide, gRoIn_p [0, 1] (by rw [hro]; rfl) (by decide), rfl, fun _ => rfl⟩ rfl (Nat.le_of_ble_eq_true rfl) dJ0_length_8abf5_6 (g_rc hR (Nat.le_of_ble_eq_true rfl) (Nat.le_of_ble_eq_true rfl)) (ck' := 0) (sk' := 0) rfl rfl (fun _ => rfl) (fun _ _ => ?_) (fun _ hx => absurd rfl hx)
  refine g_ishr C dJ0_length_8abf5_9 ?_
  obtain rfl := Option.some.inj hf
  exact g_iret C E () dJ0_length_8abf5_10 rfl rfl rfl (Nat.le_of_ble_eq_true rfl) (Nat.le_of_ble_eq_true rfl)
/-! J0_isLatin1_aae02 -/
theorem hd_J0_isLatin1_aae02 : yJ0_isLatin1_aae02.cls ≠ "java/lang/invoke/MethodHandle" ∧ yJ0_isLatin1_aae02.cls ≠ "java/lang/invoke/VarHandle" ∧ (parseMethodDescriptor yJ0_isLatin1_aae02.desc).map (fun d => d.parameters.length) = some 0 := by decide +kernel
def F_J0_isLatin1_aae02_L18   (s0_18 : Int32) : Option (Int32) := gg (gnar .boolean s0_18) (some s0_18)
def F_J0_isLatin1_aae02  : Option (Int32) := F_J0_isLatin1_aae02_L18 1
set_option maxRecDepth 100000 in
set_option maxHeartbeats 4000000 in
theorem c_J0_isLatin1_aae02 {l : Launch} {D : va_G} {cy : Nat → ClassId} {t0 t1 : Nat} {hash : Int32} {hz : Int32} {tn : Nat} {tb : Nat → Int32}   {val : Int32} (hf : F_J0_isLatin1_aae02  = some val) : gCt l D cy yJ0_isLatin1_aae02 cJ0_isLatin1_aae02 1 (some .boolean) 0 0 0 0 [.ref t0] (wStr cy t0 t1 hash hz tn tb) ([]) 0 (fun _ : Unit => some (.int val)) (fun _ => []) := by
  refine g_begin (by decide +kernel) (Nat.le_of_ble_eq_true rfl) ?_
  intro X Q hl hR hD hy hro hn C hin E
  subst hl; subst hD; subst hy
  replace C : gC X "java/lang/String" cJ0_isLatin1_aae02 (some .boolean) := C
  unfold F_J0_isLatin1_aae02 at hf
  have H18 : ∀ (s0_18 : Int32), F_J0_isLatin1_aae02_L18 s0_18 = some val → gW X Q 0 0 ([]) [(0, .ref t0)] [.int s0_18] 18 := by
    intro s0_18 hf
    unfold F_J0_isLatin1_aae02_L18 at hf
    obtain ⟨c1, hf⟩ := gg_of hf
    obtain rfl := Option.some.inj hf
    exact g_zret C E () (gnar_of c1) dJ0_isLatin1_aae02_18 rfl rfl rfl (Nat.le_of_ble_eq_true rfl) (Nat.le_of_ble_eq_true rfl)
  show gW X Q 0 0 ([]) [(0, .ref t0)] [] 0
  refine g_gets C mw_4_80 rfl dJ0_isLatin1_aae02_0 ?_
  refine g_if_eq C 17 dJ0_isLatin1_aae02_3 (by decide) (fun h => absurd h (by decide)) (fun _ => ?_)
  refine g_aload_n C 0 dJ0_isLatin1_aae02_6 rfl ?_
  refine g_getR C hro 0 1 rfl rfl wiJ0 (by decide) mw_4_197 rfl rfl dJ0_isLatin1_aae02_7 ?_
  refine g_if_ne C 17 dJ0_isLatin1_aae02_10 (by decide) (fun h => absurd h (by decide)) (fun _ => ?_)
  refine g_iconst C (v := 1) dJ0_isLatin1_aae02_13 (by decide) ?_
  refine g_goto C 18 dJ0_isLatin1_aae02_14 (by decide) ?_
  exact H18 1 hf
/-! J3_checkIndex_8e157_N -/
theorem hd_J3_checkIndex_8e157_N : yJ3_checkIndex_8e157.cls ≠ "java/lang/invoke/MethodHandle" ∧ yJ3_checkIndex_8e157.cls ≠ "java/lang/invoke/VarHandle" ∧ (parseMethodDescriptor yJ3_checkIndex_8e157.desc).map (fun d => d.parameters.length) = some 3 := by decide +kernel
def F_J3_checkIndex_8e157_N_L9    : Option (Int32) := none
def F_J3_checkIndex_8e157_N (p0 : Int32) (p1 : Int32) : Option (Int32) := if p0 < 0 then (F_J3_checkIndex_8e157_N_L9 ) else (if p0 < p1 then (some p0) else (F_J3_checkIndex_8e157_N_L9 ))
set_option maxRecDepth 100000 in
set_option maxHeartbeats 4000000 in
theorem c_J3_checkIndex_8e157_N {l : Launch} {D : va_G} {cy : Nat → ClassId}   {p0 : Int32} {p1 : Int32}  {val : Int32} (hf : F_J3_checkIndex_8e157_N p0 p1 = some val) : gCt l D cy yJ3_checkIndex_8e157 cJ3_checkIndex_8e157 3 (some .int) 0 0 0 0 [.int p0, .int p1, .null] [] ([]) 0 (fun _ : Unit => some (.int val)) (fun _ => []) := by
  refine g_begin (by decide +kernel) (Nat.le_of_ble_eq_true rfl) ?_
  intro X Q hl hR hD hy hro hn C hin E
  subst hl; subst hD; subst hy
  replace C : gC X "jdk/internal/util/Preconditions" cJ3_checkIndex_8e157 (some .int) := C
  unfold F_J3_checkIndex_8e157_N at hf
  have H9 :  F_J3_checkIndex_8e157_N_L9 = some val → gW X Q 0 0 ([]) [(0, .int p0), (1, .int p1), (2, .null)] [] 9 := by
    intro hf
    unfold F_J3_checkIndex_8e157_N_L9 at hf
    refine g_alv_n C (r := none) 2 dJ3_checkIndex_8e157_9 rfl ?_
    refine g_iload_n C 0 dJ3_checkIndex_8e157_10 rfl ?_
    refine g_iload_n C 1 dJ3_checkIndex_8e157_11 rfl ?_
    cases hf
  show gW X Q 0 0 ([]) [(0, .int p0), (1, .int p1), (2, .null)] [] 0
  refine g_iload_n C 0 dJ3_checkIndex_8e157_0 rfl ?_
  refine g_if_lt C 9 dJ3_checkIndex_8e157_1 (by decide) (fun c1 => ?_) (fun c1 => ?_)
  · have hf := opt_pos c1 hf
    exact H9 hf
  · have hf := opt_neg c1 hf
    refine g_iload_n C 0 dJ3_checkIndex_8e157_4 rfl ?_
    refine g_iload_n C 1 dJ3_checkIndex_8e157_5 rfl ?_
    refine g_icmp_lt C 16 dJ3_checkIndex_8e157_6 (by decide) (fun c2 => ?_) (fun c2 => ?_)
    · have hf := opt_pos c2 hf
      refine g_iload_n C 0 dJ3_checkIndex_8e157_16 rfl ?_
      obtain rfl := Option.some.inj hf
      exact g_iret C E () dJ3_checkIndex_8e157_17 rfl rfl rfl (Nat.le_of_ble_eq_true rfl) (Nat.le_of_ble_eq_true rfl)
    · have hf := opt_neg c2 hf
      exact H9 hf
/-! J3_checkIndex_8e157 -/
theorem hd_J3_checkIndex_8e157 : yJ3_checkIndex_8e157.cls ≠ "java/lang/invoke/MethodHandle" ∧ yJ3_checkIndex_8e157.cls ≠ "java/lang/invoke/VarHandle" ∧ (parseMethodDescriptor yJ3_checkIndex_8e157.desc).map (fun d => d.parameters.length) = some 3 := by decide +kernel
def F_J3_checkIndex_8e157_L9    : Option (Int32) := none
def F_J3_checkIndex_8e157 (p0 : Int32) (p1 : Int32) : Option (Int32) := if p0 < 0 then (F_J3_checkIndex_8e157_L9 ) else (if p0 < p1 then (some p0) else (F_J3_checkIndex_8e157_L9 ))
set_option maxRecDepth 100000 in
set_option maxHeartbeats 4000000 in
theorem c_J3_checkIndex_8e157 {l : Launch} {D : va_G} {cy : Nat → ClassId}   {p0 : Int32} {p1 : Int32} {p2 : Nat}  {val : Int32} (hf : F_J3_checkIndex_8e157 p0 p1 = some val) : gCt l D cy yJ3_checkIndex_8e157 cJ3_checkIndex_8e157 3 (some .int) 0 0 0 0 [.int p0, .int p1, .ref p2] [] ([]) 0 (fun _ : Unit => some (.int val)) (fun _ => []) := by
  refine g_begin (by decide +kernel) (Nat.le_of_ble_eq_true rfl) ?_
  intro X Q hl hR hD hy hro hn C hin E
  subst hl; subst hD; subst hy
  replace C : gC X "jdk/internal/util/Preconditions" cJ3_checkIndex_8e157 (some .int) := C
  unfold F_J3_checkIndex_8e157 at hf
  have H9 :  F_J3_checkIndex_8e157_L9 = some val → gW X Q 0 0 ([]) [(0, .int p0), (1, .int p1), (2, .ref p2)] [] 9 := by
    intro hf
    unfold F_J3_checkIndex_8e157_L9 at hf
    refine g_aload_n C 2 dJ3_checkIndex_8e157_9 rfl ?_
    refine g_iload_n C 0 dJ3_checkIndex_8e157_10 rfl ?_
    refine g_iload_n C 1 dJ3_checkIndex_8e157_11 rfl ?_
    cases hf
  show gW X Q 0 0 ([]) [(0, .int p0), (1, .int p1), (2, .ref p2)] [] 0
  refine g_iload_n C 0 dJ3_checkIndex_8e157_0 rfl ?_
  refine g_if_lt C 9 dJ3_checkIndex_8e157_1 (by decide) (fun c1 => ?_) (fun c1 => ?_)
  · have hf := opt_pos c1 hf
    exact H9 hf
  · have hf := opt_neg c1 hf
    refine g_iload_n C 0 dJ3_checkIndex_8e157_4 rfl ?_
    refine g_iload_n C 1 dJ3_checkIndex_8e157_5 rfl ?_
    refine g_icmp_lt C 16 dJ3_checkIndex_8e157_6 (by decide) (fun c2 => ?_) (fun c2 => ?_)
    · have hf := opt_pos c2 hf
      refine g_iload_n C 0 dJ3_checkIndex_8e157_16 rfl ?_
      obtain rfl := Option.some.inj hf
      exact g_iret C E () dJ3_checkIndex_8e157_17 rfl rfl rfl (Nat.le_of_ble_eq_true rfl) (Nat.le_of_ble_eq_true rfl)
    · have hf := opt_neg c2 hf
      exact H9 hf
/-! J0_checkIndex_df160 -/
theorem hd_J0_checkIndex_df160 : yJ0_checkIndex_df160.cls ≠ "java/lang/invoke/MethodHandle" ∧ yJ0_checkIndex_df160.cls ≠ "java/lang/invoke/VarHandle" ∧ (parseMethodDescriptor yJ0_checkIndex_df160.desc).map (fun d => d.parameters.length) = some 2 := by decide +kernel
def F_J0_checkIndex_df160 (p0 : Int32) (p1 : Int32) : Option (Unit) := (F_J3_checkIndex_8e157_N p0 p1).bind fun v2 => some ()
set_option maxRecDepth 100000 in
set_option maxHeartbeats 4000000 in
theorem c_J0_checkIndex_df160 {l : Launch} {D : va_G} {cy : Nat → ClassId}   {p0 : Int32} {p1 : Int32}  {val : Unit} (hf : F_J0_checkIndex_df160 p0 p1 = some val) : gCt l D cy yJ0_checkIndex_df160 cJ0_checkIndex_df160 2 none 1 22 0 0 [.int p0, .int p1] [] ([]) 0 (fun _ : Unit => none) (fun _ => []) := by
  refine g_begin (by decide +kernel) (Nat.le_of_ble_eq_true rfl) ?_
  intro X Q hl hR hD hy hro hn C hin E
  subst hl; subst hD; subst hy
  replace C : gC X "java/lang/String" cJ0_checkIndex_df160 none := C
  unfold F_J0_checkIndex_df160 at hf
  show gW X Q 0 0 ([]) [(0, .int p0), (1, .int p1)] [] 0
  refine g_iload_n C 0 dJ0_checkIndex_df160_0 rfl ?_
  refine g_iload_n C 1 dJ0_checkIndex_df160_1 rfl ?_
  refine g_getsq C mw_4_58 rfl dJ0_checkIndex_df160_2 (fun q1 => ?_)
  rcases q1 with _ | q1
  · show gW X Q 0 0 ([]) [(0, .int p0), (1, .int p1)] (.null :: [.int p1, .int p0]) 5
    obtain ⟨v2, h3, hf⟩ := opt_bind hf
    refine g_callS C (c_J3_checkIndex_8e157_N (l := x_l X) (D := x_D X) (cy := x_y X) (p0 := p0) (p1 := p1) h3) (As := [.int p0, .int p1, .null]) (rest := []) (wr := []) (ws' := fun _ => []) (st' := fun _ => [.int v2]) 3 mw_5_19 mw_1_25 mw_5_17 mw_5_18 hd_J3_checkIndex_8e157_N rfl (g_rm hR rfl rfl) [] [] [] ⟨rfl, rfl, rfl, rfl, by decide, gRoIn_0, rfl, fun _ => rfl⟩ rfl (Nat.le_of_ble_eq_true rfl) dJ0_checkIndex_df160_5 (g_rc hR (Nat.le_of_ble_eq_true rfl) (Nat.le_of_ble_eq_true rfl)) (ck' := 0) (sk' := 0) rfl rfl (fun _ => rfl) (fun _ _ => ?_) (fun _ hx => absurd rfl hx)
    refine g_pop C dJ0_checkIndex_df160_8 rfl ?_
    obtain rfl := Option.some.inj hf
    exact g_vret C E () dJ0_checkIndex_df160_9 rfl rfl rfl (Nat.le_of_ble_eq_true rfl) (Nat.le_of_ble_eq_true rfl)
  · show gW X Q 0 0 ([]) [(0, .int p0), (1, .int p1)] (.ref q1 :: [.int p1, .int p0]) 5
    obtain ⟨v4, h5, hf⟩ := opt_bind hf
    refine g_callS C (c_J3_checkIndex_8e157 (l := x_l X) (D := x_D X) (cy := x_y X) (p0 := p0) (p1 := p1) (p2 := q1) h5) (As := [.int p0, .int p1, .ref q1]) (rest := []) (wr := []) (ws' := fun _ => []) (st' := fun _ => [.int v4]) 3 mw_5_19 mw_1_25 mw_5_17 mw_5_18 hd_J3_checkIndex_8e157 rfl (g_rm hR rfl rfl) [] [] [] ⟨rfl, rfl, rfl, rfl, by decide, gRoIn_0, rfl, fun _ => rfl⟩ rfl (Nat.le_of_ble_eq_true rfl) dJ0_checkIndex_df160_5 (g_rc hR (Nat.le_of_ble_eq_true rfl) (Nat.le_of_ble_eq_true rfl)) (ck' := 0) (sk' := 0) rfl rfl (fun _ => rfl) (fun _ _ => ?_) (fun _ hx => absurd rfl hx)
    refine g_pop C dJ0_checkIndex_df160_8 rfl ?_
    obtain rfl := Option.some.inj hf
    exact g_vret C E () dJ0_checkIndex_df160_9 rfl rfl rfl (Nat.le_of_ble_eq_true rfl) (Nat.le_of_ble_eq_true rfl)
/-! J1_charAt_3b067 -/
theorem hd_J1_charAt_3b067 : yJ1_charAt_3b067.cls ≠ "java/lang/invoke/MethodHandle" ∧ yJ1_charAt_3b067.cls ≠ "java/lang/invoke/VarHandle" ∧ (parseMethodDescriptor yJ1_charAt_3b067.desc).map (fun d => d.parameters.length) = some 2 := by decide +kernel
def F_J1_charAt_3b067 (tn : Nat) (tb : Nat → Int32) (p1 : Int32) : Option (Int32) := (F_J0_checkIndex_df160 p1 (Int32.ofNat tn)).bind fun v1 => gg (gi p1 tn) (gg (gnar .char ((Int32.toUInt32 ((tb (Int32.toNatClampNeg p1)) &&& 255) % 65536).toInt32)) (some ((Int32.toUInt32 ((tb (Int32.toNatClampNeg p1)) &&& 255) % 65536).toInt32)))
set_option maxRecDepth 100000 in
set_option maxHeartbeats 4000000 in
theorem c_J1_charAt_3b067 {l : Launch} {D : va_G} {cy : Nat → ClassId} {t0 t1 : Nat} {hash : Int32} {hz : Int32} {tn : Nat} {tb : Nat → Int32} {p1 : Int32}  {val : Int32} (hf : F_J1_charAt_3b067 tn tb p1 = some val) : gCt l D cy yJ1_charAt_3b067 cJ1_charAt_3b067 2 (some .char) 2 43 0 0 [.ref t1, .int p1] (wStr cy t0 t1 hash hz tn tb) ([]) 0 (fun _ : Unit => some (.int val)) (fun _ => []) := by
  refine g_begin (by decide +kernel) (Nat.le_of_ble_eq_true rfl) ?_
  intro X Q hl hR hD hy hro hn C hin E
  subst hl; subst hD; subst hy
  replace C : gC X "java/lang/StringLatin1" cJ1_charAt_3b067 (some .char) := C
  unfold F_J1_charAt_3b067 at hf
  show gW X Q 0 0 ([]) [(0, .ref t1), (1, .int p1)] [] 0
  refine g_iload_n C 1 dJ1_charAt_3b067_0 rfl ?_
  refine g_aload_n C 0 dJ1_charAt_3b067_1 rfl ?_
  refine g_alenR C hro 1 (t0 := 3) (v := Int32.ofNat tn) rfl rfl rfl dJ1_charAt_3b067_2 ?_
  obtain ⟨v1, h2, hf⟩ := opt_bind hf
  refine g_callS C (c_J0_checkIndex_df160 (l := x_l X) (D := x_D X) (cy := x_y X) (p0 := p1) (p1 := Int32.ofNat tn) h2) (As := [.int p1, .int (Int32.ofNat tn)]) (rest := []) (wr := []) (ws' := fun _ => []) (st' := fun _ => []) 2 mw_5_16 mw_1_6 mw_5_99 mw_5_15 hd_J0_checkIndex_df160 rfl (g_rm hR rfl rfl) [] [] [] ⟨rfl, rfl, rfl, rfl, by decide, gRoIn_0, rfl, fun _ => rfl⟩ rfl (Nat.le_of_ble_eq_true rfl) dJ1_charAt_3b067_3 (g_rc hR (Nat.le_of_ble_eq_true rfl) (Nat.le_of_ble_eq_true rfl)) (ck' := 0) (sk' := 0) rfl rfl (fun _ => rfl) (fun _ _ => ?_) (fun _ hx => absurd rfl hx)
  refine g_aload_n C 0 dJ1_charAt_3b067_6 rfl ?_
  refine g_iload_n C 1 dJ1_charAt_3b067_7 rfl ?_
  obtain ⟨c3, hf⟩ := gg_of hf
  refine g_baldR C hro 1 rfl (gi_in c3) dJ1_charAt_3b067_8 ?_
  refine g_sipush C (v := 255) dJ1_charAt_3b067_9 (by decide) ?_
  refine g_iand C dJ1_charAt_3b067_12 ?_
  refine g_i2c C dJ1_charAt_3b067_13 ?_
  obtain ⟨c4, hf⟩ := gg_of hf
  obtain rfl := Option.some.inj hf
  exact g_zret C E () (gnar_of c4) dJ1_charAt_3b067_14 rfl rfl rfl (Nat.le_of_ble_eq_true rfl) (Nat.le_of_ble_eq_true rfl)
/-! J0_charAt_5068e -/
theorem hd_J0_charAt_5068e : yJ0_charAt_5068e.cls ≠ "java/lang/invoke/MethodHandle" ∧ yJ0_charAt_5068e.cls ≠ "java/lang/invoke/VarHandle" ∧ (parseMethodDescriptor yJ0_charAt_5068e.desc).map (fun d => d.parameters.length) = some 1 := by decide +kernel
def F_J0_charAt_5068e (tn : Nat) (tb : Nat → Int32) (p0 : Int32) : Option (Int32) := (F_J0_isLatin1_aae02 ).bind fun v1 => if v1 = 0 then (none) else ((F_J1_charAt_3b067 tn tb p0).bind fun v4 => gg (gnar .char v4) (some v4))
set_option maxRecDepth 100000 in
set_option maxHeartbeats 4000000 in
theorem c_J0_charAt_5068e {l : Launch} {D : va_G} {cy : Nat → ClassId} {t0 t1 : Nat} {hash : Int32} {hz : Int32} {tn : Nat} {tb : Nat → Int32} {p0 : Int32}  {val : Int32} (hf : F_J0_charAt_5068e tn tb p0 = some val) : gCt l D cy yJ0_charAt_5068e cJ0_charAt_5068e 2 (some .char) 3 64 0 0 [.ref t0, .int p0] (wStr cy t0 t1 hash hz tn tb) ([]) 0 (fun _ : Unit => some (.int val)) (fun _ => []) := by
  refine g_begin (by decide +kernel) (Nat.le_of_ble_eq_true rfl) ?_
  intro X Q hl hR hD hy hro hn C hin E
  subst hl; subst hD; subst hy
  replace C : gC X "java/lang/String" cJ0_charAt_5068e (some .char) := C
  unfold F_J0_charAt_5068e at hf
  show gW X Q 0 0 ([]) [(0, .ref t0), (1, .int p0)] [] 0
  refine g_aload_n C 0 dJ0_charAt_5068e_0 rfl ?_
  obtain ⟨v1, h2, hf⟩ := opt_bind hf
  refine g_callV C (c_J0_isLatin1_aae02 (l := x_l X) (D := x_D X) (cy := x_y X) (t0 := t0) (t1 := t1) (hash := hash) (hz := hz) (tn := tn) (tb := tb) h2) (As := []) (rest := []) (wr := []) (ws' := fun _ => []) (st' := fun _ => [.int v1]) (ci := 0) 0 0 ⟨_, by rw [hro]; rfl⟩ rfl rfl mw_5_95 mw_1_6 mw_5_92 mw_5_93 mw_5_94 hd_J0_isLatin1_aae02 rfl (g_rm hR rfl rfl) [] [] [] ⟨rfl, rfl, rfl, rfl, by decide, gRoIn_p [0, 1] (by rw [hro]; rfl) (by decide), rfl, fun _ => rfl⟩ rfl (Nat.le_of_ble_eq_true rfl) dJ0_charAt_5068e_1 (g_rc hR (Nat.le_of_ble_eq_true rfl) (Nat.le_of_ble_eq_true rfl)) (ck' := 0) (sk' := 0) rfl rfl (fun _ => rfl) (fun _ _ => ?_) (fun _ hx => absurd rfl hx)
  refine g_if_eq C 16 dJ0_charAt_5068e_4 (by decide) (fun c3 => ?_) (fun c3 => ?_)
  · have hf := opt_pos c3 hf
    refine g_aload_n C 0 dJ0_charAt_5068e_16 rfl ?_
    refine g_getR C hro 0 0 rfl rfl wiJ0 (by decide) mw_4_196 rfl rfl dJ0_charAt_5068e_17 ?_
    refine g_iload_n C 1 dJ0_charAt_5068e_20 rfl ?_
    cases hf
  · have hf := opt_neg c3 hf
    refine g_aload_n C 0 dJ0_charAt_5068e_7 rfl ?_
    refine g_getR C hro 0 0 rfl rfl wiJ0 (by decide) mw_4_196 rfl rfl dJ0_charAt_5068e_8 ?_
    refine g_iload_n C 1 dJ0_charAt_5068e_11 rfl ?_
    obtain ⟨v4, h5, hf⟩ := opt_bind hf
    refine g_callS C (c_J1_charAt_3b067 (l := x_l X) (D := x_D X) (cy := x_y X) (t0 := t0) (t1 := t1) (hash := hash) (hz := hz) (tn := tn) (tb := tb) (p1 := p0) h5) (As := [.ref t1, .int p0]) (rest := []) (wr := []) (ws' := fun _ => []) (st' := fun _ => [.int v4]) 2 mw_5_98 mw_1_26 mw_5_96 mw_5_97 hd_J1_charAt_3b067 rfl (g_rm hR rfl rfl) [] [] [] ⟨rfl, rfl, rfl, rfl, by decide, gRoIn_p [0, 1] (by rw [hro]; rfl) (by decide), rfl, fun _ => rfl⟩ rfl (Nat.le_of_ble_eq_true rfl) dJ0_charAt_5068e_12 (g_rc hR (Nat.le_of_ble_eq_true rfl) (Nat.le_of_ble_eq_true rfl)) (ck' := 0) (sk' := 0) rfl rfl (fun _ => rfl) (fun _ _ => ?_) (fun _ hx => absurd rfl hx)
    obtain ⟨c6, hf⟩ := gg_of hf
    obtain rfl := Option.some.inj hf
    exact g_zret C E () (gnar_of c6) dJ0_charAt_5068e_15 rfl rfl rfl (Nat.le_of_ble_eq_true rfl) (Nat.le_of_ble_eq_true rfl)
/-! J9_max_7cf53 -/
theorem hd_J9_max_7cf53 : yJ9_max_7cf53.cls ≠ "java/lang/invoke/MethodHandle" ∧ yJ9_max_7cf53.cls ≠ "java/lang/invoke/VarHandle" ∧ (parseMethodDescriptor yJ9_max_7cf53.desc).map (fun d => d.parameters.length) = some 2 := by decide +kernel
def F_J9_max_7cf53_L10   (s0_10 : Int32) : Option (Int32) := some s0_10
def F_J9_max_7cf53 (p0 : Int32) (p1 : Int32) : Option (Int32) := if p0 < p1 then (F_J9_max_7cf53_L10 p1) else (F_J9_max_7cf53_L10 p0)
set_option maxRecDepth 100000 in
set_option maxHeartbeats 4000000 in
theorem c_J9_max_7cf53 {l : Launch} {D : va_G} {cy : Nat → ClassId}   {p0 : Int32} {p1 : Int32}  {val : Int32} (hf : F_J9_max_7cf53 p0 p1 = some val) : gCt l D cy yJ9_max_7cf53 cJ9_max_7cf53 2 (some .int) 0 0 0 0 [.int p0, .int p1] [] ([]) 0 (fun _ : Unit => some (.int val)) (fun _ => []) := by
  refine g_begin (by decide +kernel) (Nat.le_of_ble_eq_true rfl) ?_
  intro X Q hl hR hD hy hro hn C hin E
  subst hl; subst hD; subst hy
  replace C : gC X "java/lang/Math" cJ9_max_7cf53 (some .int) := C
  unfold F_J9_max_7cf53 at hf
  have H10 : ∀ (s0_10 : Int32), F_J9_max_7cf53_L10 s0_10 = some val → gW X Q 0 0 ([]) [(0, .int p0), (1, .int p1)] [.int s0_10] 10 := by
    intro s0_10 hf
    unfold F_J9_max_7cf53_L10 at hf
    obtain rfl := Option.some.inj hf
    exact g_iret C E () dJ9_max_7cf53_10 rfl rfl rfl (Nat.le_of_ble_eq_true rfl) (Nat.le_of_ble_eq_true rfl)
  show gW X Q 0 0 ([]) [(0, .int p0), (1, .int p1)] [] 0
  refine g_iload_n C 0 dJ9_max_7cf53_0 rfl ?_
  refine g_iload_n C 1 dJ9_max_7cf53_1 rfl ?_
  refine g_icmp_lt C 9 dJ9_max_7cf53_2 (by decide) (fun c1 => ?_) (fun c1 => ?_)
  · have hf := opt_pos c1 hf
    refine g_iload_n C 1 dJ9_max_7cf53_9 rfl ?_
    exact H10 p1 hf
  · have hf := opt_neg c1 hf
    refine g_iload_n C 0 dJ9_max_7cf53_5 rfl ?_
    refine g_goto C 10 dJ9_max_7cf53_6 (by decide) ?_
    exact H10 p0 hf
/-! J0_isEmpty_aae02 -/
theorem hd_J0_isEmpty_aae02 : yJ0_isEmpty_aae02.cls ≠ "java/lang/invoke/MethodHandle" ∧ yJ0_isEmpty_aae02.cls ≠ "java/lang/invoke/VarHandle" ∧ (parseMethodDescriptor yJ0_isEmpty_aae02.desc).map (fun d => d.parameters.length) = some 0 := by decide +kernel
def F_J0_isEmpty_aae02_L13   (s0_13 : Int32) : Option (Int32) := gg (gnar .boolean s0_13) (some s0_13)
def F_J0_isEmpty_aae02 (tn : Nat) : Option (Int32) := if (Int32.ofNat tn) = 0 then (F_J0_isEmpty_aae02_L13 1) else (F_J0_isEmpty_aae02_L13 0)
set_option maxRecDepth 100000 in
set_option maxHeartbeats 4000000 in
theorem c_J0_isEmpty_aae02 {l : Launch} {D : va_G} {cy : Nat → ClassId} {t0 t1 : Nat} {hash : Int32} {hz : Int32} {tn : Nat} {tb : Nat → Int32}   {val : Int32} (hf : F_J0_isEmpty_aae02 tn = some val) : gCt l D cy yJ0_isEmpty_aae02 cJ0_isEmpty_aae02 1 (some .boolean) 0 0 0 0 [.ref t0] (wStr cy t0 t1 hash hz tn tb) ([]) 0 (fun _ : Unit => some (.int val)) (fun _ => []) := by
  refine g_begin (by decide +kernel) (Nat.le_of_ble_eq_true rfl) ?_
  intro X Q hl hR hD hy hro hn C hin E
  subst hl; subst hD; subst hy
  replace C : gC X "java/lang/String" cJ0_isEmpty_aae02 (some .boolean) := C
  unfold F_J0_isEmpty_aae02 at hf
  have H13 : ∀ (s0_13 : Int32), F_J0_isEmpty_aae02_L13 s0_13 = some val → gW X Q 0 0 ([]) [(0, .ref t0)] [.int s0_13] 13 := by
    intro s0_13 hf
    unfold F_J0_isEmpty_aae02_L13 at hf
    obtain ⟨c2, hf⟩ := gg_of hf
    obtain rfl := Option.some.inj hf
    exact g_zret C E () (gnar_of c2) dJ0_isEmpty_aae02_13 rfl rfl rfl (Nat.le_of_ble_eq_true rfl) (Nat.le_of_ble_eq_true rfl)
  show gW X Q 0 0 ([]) [(0, .ref t0)] [] 0
  refine g_aload_n C 0 dJ0_isEmpty_aae02_0 rfl ?_
  refine g_getR C hro 0 0 rfl rfl wiJ0 (by decide) mw_4_196 rfl rfl dJ0_isEmpty_aae02_1 ?_
  refine g_alenR C hro 1 (t0 := 3) (v := Int32.ofNat tn) rfl rfl rfl dJ0_isEmpty_aae02_4 ?_
  refine g_if_ne C 12 dJ0_isEmpty_aae02_5 (by decide) (fun c1 => ?_) (fun c1 => ?_)
  · have hf := opt_neg c1 hf
    refine g_iconst C (v := 0) dJ0_isEmpty_aae02_12 (by decide) ?_
    exact H13 0 hf
  · have hf := opt_pos c1 hf
    refine g_iconst C (v := 1) dJ0_isEmpty_aae02_8 (by decide) ?_
    refine g_goto C 13 dJ0_isEmpty_aae02_9 (by decide) ?_
    exact H13 1 hf
/-! X2_powerModQ -/
theorem hd_X2_powerModQ : yX2_powerModQ.cls ≠ "java/lang/invoke/MethodHandle" ∧ yX2_powerModQ.cls ≠ "java/lang/invoke/VarHandle" ∧ (parseMethodDescriptor yX2_powerModQ.desc).map (fun d => d.parameters.length) = some 2 := by decide +kernel
def F_X2_powerModQ_L34  (K5 : Int32 → Int32 → Option (Int32)) (l2_34 : Int32) (l3_34 : Int32) : Option (Int32) := K5 l2_34 (l3_34 + (-1))
def F_X2_powerModQ_L5 (p0 : Int32) (p1 : Int32)  : Nat → Int32 → Int32 → Option (Int32)
  | 0, _, _ => none
  | n + 1, l2_5, l3_5 => if l3_5 < 0 then (some l2_5) else (gl ((l2_5 * l2_5) - (l2_5 * l2_5) / 2039 * 2039) fun x2 => if ((p1 >>> (l3_5 &&& 31)) &&& 1) = 1 then (gl ((x2 * p0) - (x2 * p0) / 2039 * 2039) fun x4 => F_X2_powerModQ_L34 (F_X2_powerModQ_L5 p0 p1 n) x4 l3_5) else (F_X2_powerModQ_L34 (F_X2_powerModQ_L5 p0 p1 n) x2 l3_5))
def F_X2_powerModQ (p0 : Int32) (p1 : Int32) : Option (Int32) := F_X2_powerModQ_L5 p0 p1 1000 1 9
set_option maxRecDepth 100000 in
set_option maxHeartbeats 4000000 in
theorem c_X2_powerModQ {l : Launch} {D : va_G} {cy : Nat → ClassId}   {p0 : Int32} {p1 : Int32}  {val : Int32} (hf : F_X2_powerModQ p0 p1 = some val) : gCt l D cy yX2_powerModQ cX2_powerModQ 4 (some .int) 0 0 0 0 [.int p0, .int p1] [] ([]) 0 (fun _ : Unit => some (.int val)) (fun _ => []) := by
  refine g_begin (by decide +kernel) (Nat.le_of_ble_eq_true rfl) ?_
  intro X Q hl hR hD hy hro hn C hin E
  subst hl; subst hD; subst hy
  replace C : gC X "SecretVault$Numbers" cX2_powerModQ (some .int) := C
  unfold F_X2_powerModQ at hf
  have H5 : ∀ (n5 : Nat), ∀ (l2_5 : Int32) (l3_5 : Int32), F_X2_powerModQ_L5 p0 p1 n5 l2_5 l3_5 = some val → gW X Q 0 0 ([]) [(0, .int p0), (1, .int p1), (2, .int l2_5), (3, .int l3_5)] [] 5 := by
    intro n5
    induction n5 with
    | zero => intros; rename_i hf; cases hf
    | succ n5 ih =>
      intro l2_5 l3_5 hf
      have H5 := ih
      rw [F_X2_powerModQ_L5] at hf
      have H34 : ∀ (l2_34 : Int32) (l3_34 : Int32), F_X2_powerModQ_L34 (F_X2_powerModQ_L5 p0 p1 n5) l2_34 l3_34 = some val → gW X Q 0 0 ([]) [(0, .int p0), (1, .int p1), (2, .int l2_34), (3, .int l3_34)] [] 34 := by
        intro l2_34 l3_34 hf
        unfold F_X2_powerModQ_L34 at hf
        refine g_iinc C 3 (v := l3_34 + (-1)) (lv' := [(3, .int (l3_34 + (-1))), (0, .int p0), (1, .int p1), (2, .int l2_34)]) dX2_powerModQ_34 rfl rfl (g_nlt hn rfl) rfl ?_
        refine g_goto C 5 dX2_powerModQ_37 (by decide) ?_
        refine gW.locals [1, 2, 3, 0] rfl ?_
        exact H5 l2_34 (l3_34 + (-1)) hf
      refine g_iload_n C 3 dX2_powerModQ_5 rfl ?_
      refine g_if_lt C 40 dX2_powerModQ_6 (by decide) (fun c1 => ?_) (fun c1 => ?_)
      · have hf := opt_pos c1 hf
        refine g_iload_n C 2 dX2_powerModQ_40 rfl ?_
        obtain rfl := Option.some.inj hf
        exact g_iret C E () dX2_powerModQ_41 rfl rfl rfl (Nat.le_of_ble_eq_true rfl) (Nat.le_of_ble_eq_true rfl)
      · have hf := opt_neg c1 hf
        refine g_iload_n C 2 dX2_powerModQ_9 rfl ?_
        refine g_iload_n C 2 dX2_powerModQ_10 rfl ?_
        refine g_imul C dX2_powerModQ_11 ?_
        refine g_sipush C (v := 2039) dX2_powerModQ_12 (by decide) ?_
        refine g_irem C dX2_powerModQ_15 (by decide) ?_
        obtain ⟨x2, ex2, hf⟩ := opt_let hf
        refine g_topi ex2 ?_
        refine g_istore_n C (lv' := [(2, .int x2), (0, .int p0), (1, .int p1), (3, .int l3_5)]) dX2_powerModQ_16 (g_nlt hn rfl) rfl ?_
        refine g_iload_n C 2 dX2_powerModQ_17 rfl ?_
        refine g_iload_n C 3 dX2_powerModQ_18 rfl ?_
        refine g_ishr C dX2_powerModQ_19 ?_
        refine g_iconst C (v := 1) dX2_powerModQ_20 (by decide) ?_
        refine g_iand C dX2_powerModQ_21 ?_
        refine g_iconst C (v := 1) dX2_powerModQ_22 (by decide) ?_
        refine g_icmp_ne C 34 dX2_powerModQ_23 (by decide) (fun c3 => ?_) (fun c3 => ?_)
        · have hf := opt_neg c3 hf
          refine gW.locals [1, 2, 0, 3] rfl ?_
          exact H34 x2 l3_5 hf
        · have hf := opt_pos c3 hf
          refine g_iload_n C 0 dX2_powerModQ_26 rfl ?_
          refine g_iload_n C 1 dX2_powerModQ_27 rfl ?_
          refine g_imul C dX2_powerModQ_28 ?_
          refine g_sipush C (v := 2039) dX2_powerModQ_29 (by decide) ?_
          refine g_irem C dX2_powerModQ_32 (by decide) ?_
          obtain ⟨x4, ex4, hf⟩ := opt_let hf
          refine g_topi ex4 ?_
          refine g_istore_n C (lv' := [(2, .int x4), (0, .int p0), (1, .int p1), (3, .int l3_5)]) dX2_powerModQ_33 (g_nlt hn rfl) rfl ?_
          refine gW.locals [1, 2, 0, 3] rfl ?_
          exact H34 x4 l3_5 hf
  show gW X Q 0 0 ([]) [(0, .int p0), (1, .int p1)] [] 0
  refine g_iconst C (v := 1) dX2_powerModQ_0 (by decide) ?_
  refine g_istore_n C (lv' := [(2, .int 1), (0, .int p0), (1, .int p1)]) dX2_powerModQ_1 (g_nlt hn rfl) rfl ?_
  refine g_bipush C (v := 9) dX2_powerModQ_2 (by decide) ?_
  refine g_istore_n C (lv' := [(3, .int 9), (2, .int 1), (0, .int p0), (1, .int p1)]) dX2_powerModQ_4 (g_nlt hn rfl) rfl ?_
  refine gW.locals [2, 3, 1, 0] rfl ?_
  exact H5 1000 1 9 hf
/-! X2_commitmentTo -/
theorem hd_X2_commitmentTo : yX2_commitmentTo.cls ≠ "java/lang/invoke/MethodHandle" ∧ yX2_commitmentTo.cls ≠ "java/lang/invoke/VarHandle" ∧ (parseMethodDescriptor yX2_commitmentTo.desc).map (fun d => d.parameters.length) = some 1 := by decide +kernel
def F_X2_commitmentTo (p0 : Int32) : Option (Int32) := (F_X2_powerModQ 4 p0).bind fun v1 => some v1
set_option maxRecDepth 100000 in
set_option maxHeartbeats 4000000 in
theorem c_X2_commitmentTo {l : Launch} {D : va_G} {cy : Nat → ClassId}   {p0 : Int32}  {val : Int32} (hf : F_X2_commitmentTo p0 = some val) : gCt l D cy yX2_commitmentTo cX2_commitmentTo 1 (some .int) 1 23 0 0 [.int p0] [] ([]) 0 (fun _ : Unit => some (.int val)) (fun _ => []) := by
  refine g_begin (by decide +kernel) (Nat.le_of_ble_eq_true rfl) ?_
  intro X Q hl hR hD hy hro hn C hin E
  subst hl; subst hD; subst hy
  replace C : gC X "SecretVault$Numbers" cX2_commitmentTo (some .int) := C
  unfold F_X2_commitmentTo at hf
  show gW X Q 0 0 ([]) [(0, .int p0)] [] 0
  refine g_iconst C (v := 4) dX2_commitmentTo_0 (by decide) ?_
  refine g_iload_n C 0 dX2_commitmentTo_1 rfl ?_
  obtain ⟨v1, h2, hf⟩ := opt_bind hf
  refine g_callS C (c_X2_powerModQ (l := x_l X) (D := x_D X) (cy := x_y X) (p0 := 4) (p1 := p0) h2) (As := [.int 4, .int p0]) (rest := []) (wr := []) (ws' := fun _ => []) (st' := fun _ => [.int v1]) 2 mw_2_173 mw_1_16 mw_2_171 mw_2_172 hd_X2_powerModQ rfl (g_rm hR rfl rfl) [] [] [] ⟨rfl, rfl, rfl, rfl, by decide, gRoIn_0, rfl, fun _ => rfl⟩ rfl (Nat.le_of_ble_eq_true rfl) dX2_commitmentTo_2 (g_rc hR (Nat.le_of_ble_eq_true rfl) (Nat.le_of_ble_eq_true rfl)) (ck' := 0) (sk' := 0) rfl rfl (fun _ => rfl) (fun _ _ => ?_) (fun _ hx => absurd rfl hx)
  obtain rfl := Option.some.inj hf
  exact g_iret C E () dX2_commitmentTo_5 rfl rfl rfl (Nat.le_of_ble_eq_true rfl) (Nat.le_of_ble_eq_true rfl)
/-! X2_inverse -/
theorem hd_X2_inverse : yX2_inverse.cls ≠ "java/lang/invoke/MethodHandle" ∧ yX2_inverse.cls ≠ "java/lang/invoke/VarHandle" ∧ (parseMethodDescriptor yX2_inverse.desc).map (fun d => d.parameters.length) = some 1 := by decide +kernel
def F_X2_inverse_L36  (K5 : Int32 → Int32 → Option (Int32)) (l1_36 : Int32) (l2_36 : Int32) : Option (Int32) := K5 l1_36 (l2_36 + (-1))
def F_X2_inverse_L5 (p0 : Int32)  : Nat → Int32 → Int32 → Option (Int32)
  | 0, _, _ => none
  | n + 1, l1_5, l2_5 => if l2_5 < 0 then (some l1_5) else (gl ((l1_5 * l1_5) - (l1_5 * l1_5) / 1019 * 1019) fun x2 => if (((1017 : Int32) >>> (l2_5 &&& 31)) &&& 1) = 1 then (gl ((x2 * p0) - (x2 * p0) / 1019 * 1019) fun x4 => F_X2_inverse_L36 (F_X2_inverse_L5 p0 n) x4 l2_5) else (F_X2_inverse_L36 (F_X2_inverse_L5 p0 n) x2 l2_5))
def F_X2_inverse (p0 : Int32) : Option (Int32) := F_X2_inverse_L5 p0 1000 1 9
set_option maxRecDepth 100000 in
set_option maxHeartbeats 4000000 in
theorem c_X2_inverse {l : Launch} {D : va_G} {cy : Nat → ClassId}   {p0 : Int32}  {val : Int32} (hf : F_X2_inverse p0 = some val) : gCt l D cy yX2_inverse cX2_inverse 3 (some .int) 0 0 0 0 [.int p0] [] ([]) 0 (fun _ : Unit => some (.int val)) (fun _ => []) := by
  refine g_begin (by decide +kernel) (Nat.le_of_ble_eq_true rfl) ?_
  intro X Q hl hR hD hy hro hn C hin E
  subst hl; subst hD; subst hy
  replace C : gC X "SecretVault$Numbers" cX2_inverse (some .int) := C
  unfold F_X2_inverse at hf
  have H5 : ∀ (n5 : Nat), ∀ (l1_5 : Int32) (l2_5 : Int32), F_X2_inverse_L5 p0 n5 l1_5 l2_5 = some val → gW X Q 0 0 ([]) [(0, .int p0), (1, .int l1_5), (2, .int l2_5)] [] 5 := by
    intro n5
    induction n5 with
    | zero => intros; rename_i hf; cases hf
    | succ n5 ih =>
      intro l1_5 l2_5 hf
      have H5 := ih
      rw [F_X2_inverse_L5] at hf
      have H36 : ∀ (l1_36 : Int32) (l2_36 : Int32), F_X2_inverse_L36 (F_X2_inverse_L5 p0 n5) l1_36 l2_36 = some val → gW X Q 0 0 ([]) [(0, .int p0), (1, .int l1_36), (2, .int l2_36)] [] 36 := by
        intro l1_36 l2_36 hf
        unfold F_X2_inverse_L36 at hf
        refine g_iinc C 2 (v := l2_36 + (-1)) (lv' := [(2, .int (l2_36 + (-1))), (0, .int p0), (1, .int l1_36)]) dX2_inverse_36 rfl rfl (g_nlt hn rfl) rfl ?_
        refine g_goto C 5 dX2_inverse_39 (by decide) ?_
        refine gW.locals [1, 2, 0] rfl ?_
        exact H5 l1_36 (l2_36 + (-1)) hf
      refine g_iload_n C 2 dX2_inverse_5 rfl ?_
      refine g_if_lt C 42 dX2_inverse_6 (by decide) (fun c1 => ?_) (fun c1 => ?_)
      · have hf := opt_pos c1 hf
        refine g_iload_n C 1 dX2_inverse_42 rfl ?_
        obtain rfl := Option.some.inj hf
        exact g_iret C E () dX2_inverse_43 rfl rfl rfl (Nat.le_of_ble_eq_true rfl) (Nat.le_of_ble_eq_true rfl)
      · have hf := opt_neg c1 hf
        refine g_iload_n C 1 dX2_inverse_9 rfl ?_
        refine g_iload_n C 1 dX2_inverse_10 rfl ?_
        refine g_imul C dX2_inverse_11 ?_
        refine g_sipush C (v := 1019) dX2_inverse_12 (by decide) ?_
        refine g_irem C dX2_inverse_15 (by decide) ?_
        obtain ⟨x2, ex2, hf⟩ := opt_let hf
        refine g_topi ex2 ?_
        refine g_istore_n C (lv' := [(1, .int x2), (0, .int p0), (2, .int l2_5)]) dX2_inverse_16 (g_nlt hn rfl) rfl ?_
        refine g_sipush C (v := 1017) dX2_inverse_17 (by decide) ?_
        refine g_iload_n C 2 dX2_inverse_20 rfl ?_
        refine g_ishr C dX2_inverse_21 ?_
        refine g_iconst C (v := 1) dX2_inverse_22 (by decide) ?_
        refine g_iand C dX2_inverse_23 ?_
        refine g_iconst C (v := 1) dX2_inverse_24 (by decide) ?_
        refine g_icmp_ne C 36 dX2_inverse_25 (by decide) (fun c3 => ?_) (fun c3 => ?_)
        · have hf := opt_neg c3 hf
          refine gW.locals [1, 0, 2] rfl ?_
          exact H36 x2 l2_5 hf
        · have hf := opt_pos c3 hf
          refine g_iload_n C 0 dX2_inverse_28 rfl ?_
          refine g_iload_n C 1 dX2_inverse_29 rfl ?_
          refine g_imul C dX2_inverse_30 ?_
          refine g_sipush C (v := 1019) dX2_inverse_31 (by decide) ?_
          refine g_irem C dX2_inverse_34 (by decide) ?_
          obtain ⟨x4, ex4, hf⟩ := opt_let hf
          refine g_topi ex4 ?_
          refine g_istore_n C (lv' := [(1, .int x4), (0, .int p0), (2, .int l2_5)]) dX2_inverse_35 (g_nlt hn rfl) rfl ?_
          refine gW.locals [1, 0, 2] rfl ?_
          exact H36 x4 l2_5 hf
  show gW X Q 0 0 ([]) [(0, .int p0)] [] 0
  refine g_iconst C (v := 1) dX2_inverse_0 (by decide) ?_
  refine g_istore_n C (lv' := [(1, .int 1), (0, .int p0)]) dX2_inverse_1 (g_nlt hn rfl) rfl ?_
  refine g_bipush C (v := 9) dX2_inverse_2 (by decide) ?_
  refine g_istore_n C (lv' := [(2, .int 9), (1, .int 1), (0, .int p0)]) dX2_inverse_4 (g_nlt hn rfl) rfl ?_
  refine gW.locals [2, 1, 0] rfl ?_
  exact H5 1000 1 9 hf
/-! X2_checkDigit -/
theorem hd_X2_checkDigit : yX2_checkDigit.cls ≠ "java/lang/invoke/MethodHandle" ∧ yX2_checkDigit.cls ≠ "java/lang/invoke/VarHandle" ∧ (parseMethodDescriptor yX2_checkDigit.desc).map (fun d => d.parameters.length) = some 3 := by decide +kernel
def F_X2_checkDigit (p0 : Int32) (p1 : Int32) (p2 : Int32) : Option (Int32) := gl (((((7 : Int32) * p0) + ((3 : Int32) * p1)) + p2) - ((((7 : Int32) * p0) + ((3 : Int32) * p1)) + p2) / 10 * 10) fun x1 => some x1
set_option maxRecDepth 100000 in
set_option maxHeartbeats 4000000 in
theorem c_X2_checkDigit {l : Launch} {D : va_G} {cy : Nat → ClassId}   {p0 : Int32} {p1 : Int32} {p2 : Int32}  {val : Int32} (hf : F_X2_checkDigit p0 p1 p2 = some val) : gCt l D cy yX2_checkDigit cX2_checkDigit 3 (some .int) 0 0 0 0 [.int p0, .int p1, .int p2] [] ([]) 0 (fun _ : Unit => some (.int val)) (fun _ => []) := by
  refine g_begin (by decide +kernel) (Nat.le_of_ble_eq_true rfl) ?_
  intro X Q hl hR hD hy hro hn C hin E
  subst hl; subst hD; subst hy
  replace C : gC X "SecretVault$Numbers" cX2_checkDigit (some .int) := C
  unfold F_X2_checkDigit at hf
  show gW X Q 0 0 ([]) [(0, .int p0), (1, .int p1), (2, .int p2)] [] 0
  refine g_bipush C (v := 7) dX2_checkDigit_0 (by decide) ?_
  refine g_iload_n C 0 dX2_checkDigit_2 rfl ?_
  refine g_imul C dX2_checkDigit_3 ?_
  refine g_iconst C (v := 3) dX2_checkDigit_4 (by decide) ?_
  refine g_iload_n C 1 dX2_checkDigit_5 rfl ?_
  refine g_imul C dX2_checkDigit_6 ?_
  refine g_iadd C dX2_checkDigit_7 ?_
  refine g_iload_n C 2 dX2_checkDigit_8 rfl ?_
  refine g_iadd C dX2_checkDigit_9 ?_
  refine g_bipush C (v := 10) dX2_checkDigit_10 (by decide) ?_
  refine g_irem C dX2_checkDigit_12 (by decide) ?_
  obtain ⟨x1, ex1, hf⟩ := opt_let hf
  refine g_topi ex1 ?_
  obtain rfl := Option.some.inj hf
  exact g_iret C E () dX2_checkDigit_13 rfl rfl rfl (Nat.le_of_ble_eq_true rfl) (Nat.le_of_ble_eq_true rfl)
/-! X10_contains -/
theorem hd_X10_contains : yX10_contains.cls ≠ "java/lang/invoke/MethodHandle" ∧ yX10_contains.cls ≠ "java/lang/invoke/VarHandle" ∧ (parseMethodDescriptor yX10_contains.desc).map (fun d => d.parameters.length) = some 2 := by decide +kernel
def F_X10_contains_L14   (s0_14 : Int32) : Option (Int32) := gg (gnar .boolean s0_14) (some s0_14)
def F_X10_contains (p0 : Int32) (p1 : Int32) : Option (Int32) := if ((p0 >>> (p1 &&& 31)) &&& 1) = 1 then (F_X10_contains_L14 1) else (F_X10_contains_L14 0)
set_option maxRecDepth 100000 in
set_option maxHeartbeats 4000000 in
theorem c_X10_contains {l : Launch} {D : va_G} {cy : Nat → ClassId}   {p0 : Int32} {p1 : Int32}  {val : Int32} (hf : F_X10_contains p0 p1 = some val) : gCt l D cy yX10_contains cX10_contains 2 (some .boolean) 0 0 0 0 [.int p0, .int p1] [] ([]) 0 (fun _ : Unit => some (.int val)) (fun _ => []) := by
  refine g_begin (by decide +kernel) (Nat.le_of_ble_eq_true rfl) ?_
  intro X Q hl hR hD hy hro hn C hin E
  subst hl; subst hD; subst hy
  replace C : gC X "SecretVault" cX10_contains (some .boolean) := C
  unfold F_X10_contains at hf
  have H14 : ∀ (s0_14 : Int32), F_X10_contains_L14 s0_14 = some val → gW X Q 0 0 ([]) [(0, .int p0), (1, .int p1)] [.int s0_14] 14 := by
    intro s0_14 hf
    unfold F_X10_contains_L14 at hf
    obtain ⟨c2, hf⟩ := gg_of hf
    obtain rfl := Option.some.inj hf
    exact g_zret C E () (gnar_of c2) dX10_contains_14 rfl rfl rfl (Nat.le_of_ble_eq_true rfl) (Nat.le_of_ble_eq_true rfl)
  show gW X Q 0 0 ([]) [(0, .int p0), (1, .int p1)] [] 0
  refine g_iload_n C 0 dX10_contains_0 rfl ?_
  refine g_iload_n C 1 dX10_contains_1 rfl ?_
  refine g_ishr C dX10_contains_2 ?_
  refine g_iconst C (v := 1) dX10_contains_3 (by decide) ?_
  refine g_iand C dX10_contains_4 ?_
  refine g_iconst C (v := 1) dX10_contains_5 (by decide) ?_
  refine g_icmp_ne C 13 dX10_contains_6 (by decide) (fun c1 => ?_) (fun c1 => ?_)
  · have hf := opt_neg c1 hf
    refine g_iconst C (v := 0) dX10_contains_13 (by decide) ?_
    exact H14 0 hf
  · have hf := opt_pos c1 hf
    refine g_iconst C (v := 1) dX10_contains_9 (by decide) ?_
    refine g_goto C 14 dX10_contains_10 (by decide) ?_
    exact H14 1 hf
/-! X10_ownerOf -/
theorem hd_X10_ownerOf : yX10_ownerOf.cls ≠ "java/lang/invoke/MethodHandle" ∧ yX10_ownerOf.cls ≠ "java/lang/invoke/VarHandle" ∧ (parseMethodDescriptor yX10_ownerOf.desc).map (fun d => d.parameters.length) = some 1 := by decide +kernel
def F_X10_ownerOf (p0 : Int32) : Option (Int32) := some ((p0 - 1) / 3)
set_option maxRecDepth 100000 in
set_option maxHeartbeats 4000000 in
theorem c_X10_ownerOf {l : Launch} {D : va_G} {cy : Nat → ClassId}   {p0 : Int32}  {val : Int32} (hf : F_X10_ownerOf p0 = some val) : gCt l D cy yX10_ownerOf cX10_ownerOf 1 (some .int) 0 0 0 0 [.int p0] [] ([]) 0 (fun _ : Unit => some (.int val)) (fun _ => []) := by
  refine g_begin (by decide +kernel) (Nat.le_of_ble_eq_true rfl) ?_
  intro X Q hl hR hD hy hro hn C hin E
  subst hl; subst hD; subst hy
  replace C : gC X "SecretVault" cX10_ownerOf (some .int) := C
  unfold F_X10_ownerOf at hf
  show gW X Q 0 0 ([]) [(0, .int p0)] [] 0
  refine g_iload_n C 0 dX10_ownerOf_0 rfl ?_
  refine g_iconst C (v := 1) dX10_ownerOf_1 (by decide) ?_
  refine g_isub C dX10_ownerOf_2 ?_
  refine g_iconst C (v := 3) dX10_ownerOf_3 (by decide) ?_
  refine g_idiv C dX10_ownerOf_4 (by decide) ?_
  obtain rfl := Option.some.inj hf
  exact g_iret C E () dX10_ownerOf_5 rfl rfl rfl (Nat.le_of_ble_eq_true rfl) (Nat.le_of_ble_eq_true rfl)
/-! X10_firstPlace -/
theorem hd_X10_firstPlace : yX10_firstPlace.cls ≠ "java/lang/invoke/MethodHandle" ∧ yX10_firstPlace.cls ≠ "java/lang/invoke/VarHandle" ∧ (parseMethodDescriptor yX10_firstPlace.desc).map (fun d => d.parameters.length) = some 1 := by decide +kernel
def F_X10_firstPlace (p0 : Int32) : Option (Int32) := some (((3 : Int32) * p0) + 1)
set_option maxRecDepth 100000 in
set_option maxHeartbeats 4000000 in
theorem c_X10_firstPlace {l : Launch} {D : va_G} {cy : Nat → ClassId}   {p0 : Int32}  {val : Int32} (hf : F_X10_firstPlace p0 = some val) : gCt l D cy yX10_firstPlace cX10_firstPlace 1 (some .int) 0 0 0 0 [.int p0] [] ([]) 0 (fun _ : Unit => some (.int val)) (fun _ => []) := by
  refine g_begin (by decide +kernel) (Nat.le_of_ble_eq_true rfl) ?_
  intro X Q hl hR hD hy hro hn C hin E
  subst hl; subst hD; subst hy
  replace C : gC X "SecretVault" cX10_firstPlace (some .int) := C
  unfold F_X10_firstPlace at hf
  show gW X Q 0 0 ([]) [(0, .int p0)] [] 0
  refine g_iconst C (v := 3) dX10_firstPlace_0 (by decide) ?_
  refine g_iload_n C 0 dX10_firstPlace_1 rfl ?_
  refine g_imul C dX10_firstPlace_2 ?_
  refine g_iconst C (v := 1) dX10_firstPlace_3 (by decide) ?_
  refine g_iadd C dX10_firstPlace_4 ?_
  obtain rfl := Option.some.inj hf
  exact g_iret C E () dX10_firstPlace_5 rfl rfl rfl (Nat.le_of_ble_eq_true rfl) (Nat.le_of_ble_eq_true rfl)
/-! X2_polynomialAt -/
theorem hd_X2_polynomialAt : yX2_polynomialAt.cls ≠ "java/lang/invoke/MethodHandle" ∧ yX2_polynomialAt.cls ≠ "java/lang/invoke/VarHandle" ∧ (parseMethodDescriptor yX2_polynomialAt.desc).map (fun d => d.parameters.length) = some 3 := by decide +kernel
def F_X2_polynomialAt_L7 (pa : Nat → Int32) (p0 : Int32)  : Nat → Int32 → Int32 → Option (Int32)
  | 0, _, _ => none
  | n + 1, l3_7, l4_7 => if l4_7 < 0 then (some l3_7) else (gg (gi l4_7 8) (gl (((l3_7 * p0) + (pa (Int32.toNatClampNeg l4_7))) - ((l3_7 * p0) + (pa (Int32.toNatClampNeg l4_7))) / 1019 * 1019) fun x3 => F_X2_polynomialAt_L7 pa p0 n x3 (l4_7 + (-1))))
def F_X2_polynomialAt (pa : Nat → Int32) (p0 : Int32) (p2 : Int32) : Option (Int32) := F_X2_polynomialAt_L7 pa p0 1000 0 (p2 - 1)
set_option maxRecDepth 100000 in
set_option maxHeartbeats 4000000 in
theorem c_X2_polynomialAt {l : Launch} {D : va_G} {cy : Nat → ClassId} {ca : Nat} {pa : Nat → Int32} {p0 : Int32} {p2 : Int32}  {val : Int32} (hf : F_X2_polynomialAt pa p0 p2 = some val) : gCt l D cy yX2_polynomialAt cX2_polynomialAt 5 (some .int) 0 0 0 0 [.int p0, .ref ca, .int p2] [] ((wA8 cy ca pa)) 0 (fun _ : Unit => some (.int val)) (fun _ => (wA8 cy ca pa)) := by
  refine g_begin (by decide +kernel) (Nat.le_of_ble_eq_true rfl) ?_
  intro X Q hl hR hD hy hro hn C hin E
  subst hl; subst hD; subst hy
  replace C : gC X "SecretVault$Numbers" cX2_polynomialAt (some .int) := C
  unfold F_X2_polynomialAt at hf
  have H7 : ∀ (n7 : Nat), ∀ (l3_7 : Int32) (l4_7 : Int32), F_X2_polynomialAt_L7 pa p0 n7 l3_7 l4_7 = some val → gW X Q 0 0 ((wA8 (x_y X) ca pa)) [(0, .int p0), (1, .ref ca), (2, .int p2), (3, .int l3_7), (4, .int l4_7)] [] 7 := by
    intro n7
    induction n7 with
    | zero => intros; rename_i hf; cases hf
    | succ n7 ih =>
      intro l3_7 l4_7 hf
      have H7 := ih
      rw [F_X2_polynomialAt_L7] at hf
      refine g_iload C 4 dX2_polynomialAt_7 rfl ?_
      refine g_if_lt C 31 dX2_polynomialAt_9 (by decide) (fun c1 => ?_) (fun c1 => ?_)
      · have hf := opt_pos c1 hf
        refine g_iload_n C 3 dX2_polynomialAt_31 rfl ?_
        obtain rfl := Option.some.inj hf
        exact g_iret C E () dX2_polynomialAt_32 rfl rfl rfl (Nat.le_of_ble_eq_true rfl) (Nat.le_of_ble_eq_true rfl)
      · have hf := opt_neg c1 hf
        refine g_iload_n C 3 dX2_polynomialAt_12 rfl ?_
        refine g_iload_n C 0 dX2_polynomialAt_13 rfl ?_
        refine g_imul C dX2_polynomialAt_14 ?_
        refine g_aload_n C 1 dX2_polynomialAt_15 rfl ?_
        refine g_iload C 4 dX2_polynomialAt_16 rfl ?_
        obtain ⟨c2, hf⟩ := gg_of hf
        refine g_iald C 0 rfl (gi_in c2) dX2_polynomialAt_18 ?_
        refine g_iadd C dX2_polynomialAt_19 ?_
        refine g_sipush C (v := 1019) dX2_polynomialAt_20 (by decide) ?_
        refine g_irem C dX2_polynomialAt_23 (by decide) ?_
        obtain ⟨x3, ex3, hf⟩ := opt_let hf
        refine g_topi ex3 ?_
        refine g_istore_n C (lv' := [(3, .int x3), (0, .int p0), (1, .ref ca), (2, .int p2), (4, .int l4_7)]) dX2_polynomialAt_24 (g_nlt hn rfl) rfl ?_
        refine g_iinc C 4 (v := l4_7 + (-1)) (lv' := [(4, .int (l4_7 + (-1))), (3, .int x3), (0, .int p0), (1, .ref ca), (2, .int p2)]) dX2_polynomialAt_25 rfl rfl (g_nlt hn rfl) rfl ?_
        refine g_goto C 7 dX2_polynomialAt_28 (by decide) ?_
        refine gW.locals [2, 3, 4, 1, 0] rfl ?_
        exact H7 x3 (l4_7 + (-1)) hf
  show gW X Q 0 0 ((wA8 (x_y X) ca pa)) [(0, .int p0), (1, .ref ca), (2, .int p2)] [] 0
  refine g_iconst C (v := 0) dX2_polynomialAt_0 (by decide) ?_
  refine g_istore_n C (lv' := [(3, .int 0), (0, .int p0), (1, .ref ca), (2, .int p2)]) dX2_polynomialAt_1 (g_nlt hn rfl) rfl ?_
  refine g_iload_n C 3 dX2_polynomialAt_2 rfl ?_
  refine g_iconst C (v := 1) dX2_polynomialAt_3 (by decide) ?_
  refine g_isub C dX2_polynomialAt_4 ?_
  refine g_istore C (lv' := [(4, .int (p2 - 1)), (3, .int 0), (0, .int p0), (1, .ref ca), (2, .int p2)]) dX2_polynomialAt_5 (g_nlt hn rfl) rfl ?_
  refine gW.locals [2, 3, 4, 1, 0] rfl ?_
  exact H7 1000 0 (p2 - 1) hf
/-! X6_add -/
theorem hd_X6_add : yX6_add.cls ≠ "java/lang/invoke/MethodHandle" ∧ yX6_add.cls ≠ "java/lang/invoke/VarHandle" ∧ (parseMethodDescriptor yX6_add.desc).map (fun d => d.parameters.length) = some 2 := by decide +kernel
def F_X6_add_L42   (rs_42 : Int32) (rc_42 : Nat → Int32) (rd_42 : Nat → Int32) : Option (Int32 × (Nat → Int32) × (Nat → Int32)) := some (rs_42, rc_42, rd_42)
def F_X6_add (rs : Int32) (rc : Nat → Int32) (rd : Nat → Int32) (p0 : Int32) (p1 : Int32) : Option (Int32 × (Nat → Int32) × (Nat → Int32)) := if 26 ≤ rs then (F_X6_add_L42 rs rc rd) else (gg (gi rs 26) (gl (upd rc (Int32.toNatClampNeg rs) p0) fun f3 => gg (gi rs 26) (gl (upd rd (Int32.toNatClampNeg rs) p1) fun f5 => F_X6_add_L42 (rs + 1) f3 f5)))
set_option maxRecDepth 100000 in
set_option maxHeartbeats 4000000 in
theorem c_X6_add {l : Launch} {D : va_G} {cy : Nat → ClassId} {a : Nat → Nat} {rs : Int32} {rc : Nat → Int32} {rd : Nat → Int32} {p0 : Int32} {p1 : Int32}  {val : Int32 × (Nat → Int32) × (Nat → Int32)} (hf : F_X6_add rs rc rd p0 p1 = some val) : gCt l D cy yX6_add cX6_add 3 none 0 0 0 0 [.ref (a 0), .int p0, .int p1] [] ((wRep cy a rs rc rd)) 0 (fun _ : Unit => none) (fun _ => (wRep cy a val.1 val.2.1 val.2.2)) := by
  refine g_begin (by decide +kernel) (Nat.le_of_ble_eq_true rfl) ?_
  intro X Q hl hR hD hy hro hn C hin E
  subst hl; subst hD; subst hy
  replace C : gC X "SecretVault$Report" cX6_add none := C
  unfold F_X6_add at hf
  have H42 : ∀ (rs_42 : Int32) (rc_42 : Nat → Int32) (rd_42 : Nat → Int32), F_X6_add_L42 rs_42 rc_42 rd_42 = some val → gW X Q 0 0 ((wRep (x_y X) a rs_42 rc_42 rd_42)) [(0, .ref (a 0)), (1, .int p0), (2, .int p1)] [] 42 := by
    intro rs_42 rc_42 rd_42 hf
    unfold F_X6_add_L42 at hf
    obtain rfl := Option.some.inj hf
    exact g_vret C E () dX6_add_42 rfl rfl rfl (Nat.le_of_ble_eq_true rfl) (Nat.le_of_ble_eq_true rfl)
  show gW X Q 0 0 ((wRep (x_y X) a rs rc rd)) [(0, .ref (a 0)), (1, .int p0), (2, .int p1)] [] 0
  refine g_aload_n C 0 dX6_add_0 rfl ?_
  refine g_get C 0 2 rfl rfl wiX6 (by decide) mw_1_162 rfl rfl dX6_add_1 ?_
  refine g_aload_n C 0 dX6_add_4 rfl ?_
  refine g_get C 0 0 rfl rfl wiX6 (by decide) mw_1_158 rfl rfl dX6_add_5 ?_
  refine g_alen C 1 (t0 := 0) (v := 26) rfl rfl rfl dX6_add_8 ?_
  refine g_icmp_ge C 42 dX6_add_9 (by decide) (fun c1 => ?_) (fun c1 => ?_)
  · have hf := opt_pos c1 hf
    exact H42 rs rc rd hf
  · have hf := opt_neg c1 hf
    refine g_aload_n C 0 dX6_add_12 rfl ?_
    refine g_get C 0 0 rfl rfl wiX6 (by decide) mw_1_158 rfl rfl dX6_add_13 ?_
    refine g_aload_n C 0 dX6_add_16 rfl ?_
    refine g_get C 0 2 rfl rfl wiX6 (by decide) mw_1_162 rfl rfl dX6_add_17 ?_
    refine g_iload_n C 1 dX6_add_20 rfl ?_
    obtain ⟨c2, hf⟩ := gg_of hf
    obtain ⟨f3, ef3, hf⟩ := opt_let hf
    refine g_iast C (ws' := (wRep (x_y X) a rs f3 rd)) 1 rfl (gi_in c2) (by rw [ef3]; rfl) dX6_add_21 ?_
    refine g_aload_n C 0 dX6_add_22 rfl ?_
    refine g_get C 0 1 rfl rfl wiX6 (by decide) mw_1_160 rfl rfl dX6_add_23 ?_
    refine g_aload_n C 0 dX6_add_26 rfl ?_
    refine g_get C 0 2 rfl rfl wiX6 (by decide) mw_1_162 rfl rfl dX6_add_27 ?_
    refine g_iload_n C 2 dX6_add_30 rfl ?_
    obtain ⟨c4, hf⟩ := gg_of hf
    obtain ⟨f5, ef5, hf⟩ := opt_let hf
    refine g_iast C (ws' := (wRep (x_y X) a rs f3 f5)) 2 rfl (gi_in c4) (by rw [ef5]; rfl) dX6_add_31 ?_
    refine g_aload_n C 0 dX6_add_32 rfl ?_
    refine g_dup C dX6_add_33 rfl ?_
    refine g_get C 0 2 rfl rfl wiX6 (by decide) mw_1_162 rfl rfl dX6_add_34 ?_
    refine g_iconst C (v := 1) dX6_add_37 (by decide) ?_
    refine g_iadd C dX6_add_38 ?_
    refine g_put C (ws' := (wRep (x_y X) a (rs + 1) f3 f5)) 0 2 rfl rfl wiX6 (by decide) tyX6_ok nmX6 mw_1_162 rfl rfl rfl rfl (Nat.le_of_ble_eq_true rfl) rfl dX6_add_39 ?_
    exact H42 (rs + 1) f3 f5 hf
/-! X6_begin -/
theorem hd_X6_begin : yX6_begin.cls ≠ "java/lang/invoke/MethodHandle" ∧ yX6_begin.cls ≠ "java/lang/invoke/VarHandle" ∧ (parseMethodDescriptor yX6_begin.desc).map (fun d => d.parameters.length) = some 1 := by decide +kernel
def F_X6_begin (rs : Int32) (rc : Nat → Int32) (rd : Nat → Int32) (p0 : Int32) : Option (Int32 × (Nat → Int32) × (Nat → Int32)) := (F_X6_add 0 rc rd 1 p0).bind fun v1 => some (v1.1, v1.2.1, v1.2.2)
set_option maxRecDepth 100000 in
set_option maxHeartbeats 4000000 in
theorem c_X6_begin {l : Launch} {D : va_G} {cy : Nat → ClassId} {a : Nat → Nat} {rs : Int32} {rc : Nat → Int32} {rd : Nat → Int32} {p0 : Int32}  {val : Int32 × (Nat → Int32) × (Nat → Int32)} (hf : F_X6_begin rs rc rd p0 = some val) : gCt l D cy yX6_begin cX6_begin 2 none 1 22 0 0 [.ref (a 0), .int p0] [] ((wRep cy a rs rc rd)) 0 (fun _ : Unit => none) (fun _ => (wRep cy a val.1 val.2.1 val.2.2)) := by
  refine g_begin (by decide +kernel) (Nat.le_of_ble_eq_true rfl) ?_
  intro X Q hl hR hD hy hro hn C hin E
  subst hl; subst hD; subst hy
  replace C : gC X "SecretVault$Report" cX6_begin none := C
  unfold F_X6_begin at hf
  show gW X Q 0 0 ((wRep (x_y X) a rs rc rd)) [(0, .ref (a 0)), (1, .int p0)] [] 0
  refine g_aload_n C 0 dX6_begin_0 rfl ?_
  refine g_iconst C (v := 0) dX6_begin_1 (by decide) ?_
  refine g_put C (ws' := (wRep (x_y X) a 0 rc rd)) 0 2 rfl rfl wiX6 (by decide) tyX6_ok nmX6 mw_1_162 rfl rfl rfl rfl (Nat.le_of_ble_eq_true rfl) rfl dX6_begin_2 ?_
  refine g_aload_n C 0 dX6_begin_5 rfl ?_
  refine g_iconst C (v := 1) dX6_begin_6 (by decide) ?_
  refine g_iload_n C 1 dX6_begin_7 rfl ?_
  obtain ⟨v1, h2, hf⟩ := opt_bind hf
  refine g_callV C (c_X6_add (l := x_l X) (D := x_D X) (cy := x_y X) (a := a) (rs := 0) (rc := rc) (rd := rd) (p0 := 1) (p1 := p0) h2) (As := [.int 1, .int p0]) (rest := []) (wr := []) (ws' := fun _ => (wRep (x_y X) a v1.1 v1.2.1 v1.2.2)) (st' := fun _ => []) (ci := 7) 2 0 ⟨_, rfl⟩ rfl rfl mw_3_91 mw_1_8 mw_3_88 mw_3_89 mw_3_90 hd_X6_add rfl (g_rm hR rfl rfl) [0, 1, 2] [] [0, 1, 2] ⟨rfl, rfl, rfl, rfl, by decide, gRoIn_0, rfl, fun _ => rfl⟩ rfl (Nat.le_of_ble_eq_true rfl) dX6_begin_8 (g_rc hR (Nat.le_of_ble_eq_true rfl) (Nat.le_of_ble_eq_true rfl)) (ck' := 0) (sk' := 0) rfl rfl (fun _ => rfl) (fun _ _ => ?_) (fun _ hx => absurd rfl hx)
  obtain rfl := Option.some.inj hf
  exact g_vret C E () dX6_begin_11 rfl rfl rfl (Nat.le_of_ble_eq_true rfl) (Nat.le_of_ble_eq_true rfl)
/-! X7_copyFrom -/
theorem hd_X7_copyFrom : yX7_copyFrom.cls ≠ "java/lang/invoke/MethodHandle" ∧ yX7_copyFrom.cls ≠ "java/lang/invoke/VarHandle" ∧ (parseMethodDescriptor yX7_copyFrom.desc).map (fun d => d.parameters.length) = some 1 := by decide +kernel
def F_X7_copyFrom (filled : Int32) (th : Int32) (ep : Int32) (rule : Option Nat) (cm : Nat → Int32) (vs : Nat → Int32) (es : Nat → Int32) (o_filled : Int32) (o_th : Int32) (o_ep : Int32) (o_rule : Option Nat) (o_cm : Nat → Int32) (o_vs : Nat → Int32) (o_es : Nat → Int32) : Option (Int32 × Int32 × Int32 × Option Nat × (Nat → Int32) × (Nat → Int32) × (Nat → Int32)) := gg (gzb o_filled) (some (o_filled, o_th, o_ep, o_rule, va_cpy o_cm cm (Int32.toNatClampNeg 0) (Int32.toNatClampNeg 0) (Int32.toNatClampNeg 8), va_cpy o_vs vs (Int32.toNatClampNeg 0) (Int32.toNatClampNeg 0) (Int32.toNatClampNeg 25), va_cpy o_es es (Int32.toNatClampNeg 0) (Int32.toNatClampNeg 0) (Int32.toNatClampNeg 25)))
set_option maxRecDepth 100000 in
set_option maxHeartbeats 4000000 in
theorem c_X7_copyFrom {l : Launch} {D : va_G} {cy : Nat → ClassId} {a : Nat → Nat} {b : Nat → Nat} {filled : Int32} {th : Int32} {ep : Int32} {rule : Option Nat} {cm : Nat → Int32} {vs : Nat → Int32} {es : Nat → Int32} {o_filled : Int32} {o_th : Int32} {o_ep : Int32} {o_rule : Option Nat} {o_cm : Nat → Int32} {o_vs : Nat → Int32} {o_es : Nat → Int32}   {val : Int32 × Int32 × Int32 × Option Nat × (Nat → Int32) × (Nat → Int32) × (Nat → Int32)} (hf : F_X7_copyFrom filled th ep rule cm vs es o_filled o_th o_ep o_rule o_cm o_vs o_es = some val) : gCt l D cy yX7_copyFrom cX7_copyFrom 2 none 1 30 0 0 [.ref (a 0), .ref (b 0)] [] ((wSec cy a filled th ep rule cm vs es) ++ (wSec cy b o_filled o_th o_ep o_rule o_cm o_vs o_es)) 0 (fun _ : Unit => none) (fun _ => (wSec cy a val.1 val.2.1 val.2.2.1 val.2.2.2.1 val.2.2.2.2.1 val.2.2.2.2.2.1 val.2.2.2.2.2.2) ++ (wSec cy b o_filled o_th o_ep o_rule o_cm o_vs o_es)) := by
  refine g_begin (by decide +kernel) (Nat.le_of_ble_eq_true rfl) ?_
  intro X Q hl hR hD hy hro hn C hin E
  subst hl; subst hD; subst hy
  replace C : gC X "SecretVault$Secret" cX7_copyFrom none := C
  unfold F_X7_copyFrom at hf
  show gW X Q 0 0 ((wSec (x_y X) a filled th ep rule cm vs es) ++ (wSec (x_y X) b o_filled o_th o_ep o_rule o_cm o_vs o_es)) [(0, .ref (a 0)), (1, .ref (b 0))] [] 0
  refine g_aload_n C 0 dX7_copyFrom_0 rfl ?_
  refine g_aload_n C 1 dX7_copyFrom_1 rfl ?_
  refine g_get C 4 0 rfl rfl wiX7 (by decide) mw_1_59 rfl rfl dX7_copyFrom_2 ?_
  obtain ⟨c1, hf⟩ := gg_of hf
  refine g_put C (ws' := (wSec (x_y X) a o_filled th ep rule cm vs es) ++ (wSec (x_y X) b o_filled o_th o_ep o_rule o_cm o_vs o_es)) 0 0 rfl rfl wiX7 (by decide) tyX7_ok nmX7 mw_1_59 rfl rfl (gzb_n c1) (gzb_f c1) (Nat.le_of_ble_eq_true rfl) rfl dX7_copyFrom_5 ?_
  refine g_aload_n C 0 dX7_copyFrom_8 rfl ?_
  refine g_aload_n C 1 dX7_copyFrom_9 rfl ?_
  refine g_get C 4 1 rfl rfl wiX7 (by decide) mw_1_62 rfl rfl dX7_copyFrom_10 ?_
  refine g_put C (ws' := (wSec (x_y X) a o_filled o_th ep rule cm vs es) ++ (wSec (x_y X) b o_filled o_th o_ep o_rule o_cm o_vs o_es)) 0 1 rfl rfl wiX7 (by decide) tyX7_ok nmX7 mw_1_62 rfl rfl rfl rfl (Nat.le_of_ble_eq_true rfl) rfl dX7_copyFrom_13 ?_
  refine g_aload_n C 0 dX7_copyFrom_16 rfl ?_
  refine g_aload_n C 1 dX7_copyFrom_17 rfl ?_
  refine g_get C 4 2 rfl rfl wiX7 (by decide) mw_1_64 rfl rfl dX7_copyFrom_18 ?_
  refine g_put C (ws' := (wSec (x_y X) a o_filled o_th o_ep rule cm vs es) ++ (wSec (x_y X) b o_filled o_th o_ep o_rule o_cm o_vs o_es)) 0 2 rfl rfl wiX7 (by decide) tyX7_ok nmX7 mw_1_64 rfl rfl rfl rfl (Nat.le_of_ble_eq_true rfl) rfl dX7_copyFrom_21 ?_
  refine g_aload_n C 1 dX7_copyFrom_24 rfl ?_
  refine g_get C 4 3 rfl rfl wiX7 (by decide) mw_1_66 rfl rfl dX7_copyFrom_25 ?_
  refine g_iconst C (v := 0) dX7_copyFrom_28 (by decide) ?_
  refine g_aload_n C 0 dX7_copyFrom_29 rfl ?_
  refine g_get C 0 3 rfl rfl wiX7 (by decide) mw_1_66 rfl rfl dX7_copyFrom_30 ?_
  refine g_iconst C (v := 0) dX7_copyFrom_33 (by decide) ?_
  refine g_bipush C (v := 8) dX7_copyFrom_34 (by decide) ?_
  refine g_copyi C (ws' := (wSec (x_y X) a o_filled o_th o_ep rule (va_cpy o_cm cm (Int32.toNatClampNeg 0) (Int32.toNatClampNeg 0) (Int32.toNatClampNeg 8)) vs es) ++ (wSec (x_y X) b o_filled o_th o_ep o_rule o_cm o_vs o_es)) 5 1 mw_2_2 mw_1_237 mw_1_236 mw_1_24 rfl rfl (by decide) (by decide) (by decide) (by decide) (by decide) (g_tn hR rfl rfl) rfl dX7_copyFrom_36 ?_
  refine g_aload_n C 0 dX7_copyFrom_39 rfl ?_
  refine g_aload_n C 1 dX7_copyFrom_40 rfl ?_
  refine g_get C 4 4 rfl rfl wiX7 (by decide) mw_1_68 rfl rfl dX7_copyFrom_41 ?_
  refine g_put C (ws' := (wSec (x_y X) a o_filled o_th o_ep o_rule (va_cpy o_cm cm (Int32.toNatClampNeg 0) (Int32.toNatClampNeg 0) (Int32.toNatClampNeg 8)) vs es) ++ (wSec (x_y X) b o_filled o_th o_ep o_rule o_cm o_vs o_es)) 0 4 rfl rfl wiX7 (by decide) tyX7_ok nmX7 mw_1_68 rfl rfl (g_nrf _ _) (g_frf _ _) (Nat.le_of_ble_eq_true rfl) rfl dX7_copyFrom_44 ?_
  refine g_aload_n C 1 dX7_copyFrom_47 rfl ?_
  refine g_get C 4 5 rfl rfl wiX7 (by decide) mw_1_70 rfl rfl dX7_copyFrom_48 ?_
  refine g_iconst C (v := 0) dX7_copyFrom_51 (by decide) ?_
  refine g_aload_n C 0 dX7_copyFrom_52 rfl ?_
  refine g_get C 0 5 rfl rfl wiX7 (by decide) mw_1_70 rfl rfl dX7_copyFrom_53 ?_
  refine g_iconst C (v := 0) dX7_copyFrom_56 (by decide) ?_
  refine g_bipush C (v := 25) dX7_copyFrom_57 (by decide) ?_
  refine g_copyi C (ws' := (wSec (x_y X) a o_filled o_th o_ep o_rule (va_cpy o_cm cm (Int32.toNatClampNeg 0) (Int32.toNatClampNeg 0) (Int32.toNatClampNeg 8)) (va_cpy o_vs vs (Int32.toNatClampNeg 0) (Int32.toNatClampNeg 0) (Int32.toNatClampNeg 25)) es) ++ (wSec (x_y X) b o_filled o_th o_ep o_rule o_cm o_vs o_es)) 6 2 mw_2_2 mw_1_237 mw_1_236 mw_1_24 rfl rfl (by decide) (by decide) (by decide) (by decide) (by decide) (g_tn hR rfl rfl) rfl dX7_copyFrom_59 ?_
  refine g_aload_n C 1 dX7_copyFrom_62 rfl ?_
  refine g_get C 4 6 rfl rfl wiX7 (by decide) mw_1_72 rfl rfl dX7_copyFrom_63 ?_
  refine g_iconst C (v := 0) dX7_copyFrom_66 (by decide) ?_
  refine g_aload_n C 0 dX7_copyFrom_67 rfl ?_
  refine g_get C 0 6 rfl rfl wiX7 (by decide) mw_1_72 rfl rfl dX7_copyFrom_68 ?_
  refine g_iconst C (v := 0) dX7_copyFrom_71 (by decide) ?_
  refine g_bipush C (v := 25) dX7_copyFrom_72 (by decide) ?_
  refine g_copyi C (ws' := (wSec (x_y X) a o_filled o_th o_ep o_rule (va_cpy o_cm cm (Int32.toNatClampNeg 0) (Int32.toNatClampNeg 0) (Int32.toNatClampNeg 8)) (va_cpy o_vs vs (Int32.toNatClampNeg 0) (Int32.toNatClampNeg 0) (Int32.toNatClampNeg 25)) (va_cpy o_es es (Int32.toNatClampNeg 0) (Int32.toNatClampNeg 0) (Int32.toNatClampNeg 25))) ++ (wSec (x_y X) b o_filled o_th o_ep o_rule o_cm o_vs o_es)) 7 3 mw_2_2 mw_1_237 mw_1_236 mw_1_24 rfl rfl (by decide) (by decide) (by decide) (by decide) (by decide) (g_tn hR rfl rfl) rfl dX7_copyFrom_74 ?_
  obtain rfl := Option.some.inj hf
  exact g_vret C E () dX7_copyFrom_77 rfl rfl rfl (Nat.le_of_ble_eq_true rfl) (Nat.le_of_ble_eq_true rfl)
/-! X7_holds -/
theorem hd_X7_holds : yX7_holds.cls ≠ "java/lang/invoke/MethodHandle" ∧ yX7_holds.cls ≠ "java/lang/invoke/VarHandle" ∧ (parseMethodDescriptor yX7_holds.desc).map (fun d => d.parameters.length) = some 1 := by decide +kernel
def F_X7_holds_L14   (s0_14 : Int32) : Option (Int32) := gg (gnar .boolean s0_14) (some s0_14)
def F_X7_holds (es : Nat → Int32) (p0 : Int32) : Option (Int32) := gg (gi p0 25) (if (es (Int32.toNatClampNeg p0)) = 0 then (F_X7_holds_L14 0) else (F_X7_holds_L14 1))
set_option maxRecDepth 100000 in
set_option maxHeartbeats 4000000 in
theorem c_X7_holds {l : Launch} {D : va_G} {cy : Nat → ClassId} {a : Nat → Nat} {filled : Int32} {th : Int32} {ep : Int32} {rule : Option Nat} {cm : Nat → Int32} {vs : Nat → Int32} {es : Nat → Int32} {p0 : Int32}  {val : Int32} (hf : F_X7_holds es p0 = some val) : gCt l D cy yX7_holds cX7_holds 2 (some .boolean) 0 0 0 0 [.ref (a 0), .int p0] [] ((wSec cy a filled th ep rule cm vs es)) 0 (fun _ : Unit => some (.int val)) (fun _ => (wSec cy a filled th ep rule cm vs es)) := by
  refine g_begin (by decide +kernel) (Nat.le_of_ble_eq_true rfl) ?_
  intro X Q hl hR hD hy hro hn C hin E
  subst hl; subst hD; subst hy
  replace C : gC X "SecretVault$Secret" cX7_holds (some .boolean) := C
  unfold F_X7_holds at hf
  have H14 : ∀ (s0_14 : Int32), F_X7_holds_L14 s0_14 = some val → gW X Q 0 0 ((wSec (x_y X) a filled th ep rule cm vs es)) [(0, .ref (a 0)), (1, .int p0)] [.int s0_14] 14 := by
    intro s0_14 hf
    unfold F_X7_holds_L14 at hf
    obtain ⟨c3, hf⟩ := gg_of hf
    obtain rfl := Option.some.inj hf
    exact g_zret C E () (gnar_of c3) dX7_holds_14 rfl rfl rfl (Nat.le_of_ble_eq_true rfl) (Nat.le_of_ble_eq_true rfl)
  show gW X Q 0 0 ((wSec (x_y X) a filled th ep rule cm vs es)) [(0, .ref (a 0)), (1, .int p0)] [] 0
  refine g_aload_n C 0 dX7_holds_0 rfl ?_
  refine g_get C 0 6 rfl rfl wiX7 (by decide) mw_1_72 rfl rfl dX7_holds_1 ?_
  refine g_iload_n C 1 dX7_holds_4 rfl ?_
  obtain ⟨c1, hf⟩ := gg_of hf
  refine g_iald C 3 rfl (gi_in c1) dX7_holds_5 ?_
  refine g_if_eq C 13 dX7_holds_6 (by decide) (fun c2 => ?_) (fun c2 => ?_)
  · have hf := opt_pos c2 hf
    refine g_iconst C (v := 0) dX7_holds_13 (by decide) ?_
    exact H14 0 hf
  · have hf := opt_neg c2 hf
    refine g_iconst C (v := 1) dX7_holds_9 (by decide) ?_
    refine g_goto C 14 dX7_holds_10 (by decide) ?_
    exact H14 1 hf
/-! X7_give -/
theorem hd_X7_give : yX7_give.cls ≠ "java/lang/invoke/MethodHandle" ∧ yX7_give.cls ≠ "java/lang/invoke/VarHandle" ∧ (parseMethodDescriptor yX7_give.desc).map (fun d => d.parameters.length) = some 3 := by decide +kernel
def F_X7_give (vs : Nat → Int32) (es : Nat → Int32) (p0 : Int32) (p1 : Int32) (p2 : Int32) : Option ((Nat → Int32) × (Nat → Int32)) := gg (gi p0 25) (gl (upd vs (Int32.toNatClampNeg p0) p1) fun f2 => gg (gi p0 25) (gl (upd es (Int32.toNatClampNeg p0) p2) fun f4 => some (f2, f4)))
set_option maxRecDepth 100000 in
set_option maxHeartbeats 4000000 in
theorem c_X7_give {l : Launch} {D : va_G} {cy : Nat → ClassId} {a : Nat → Nat} {filled : Int32} {th : Int32} {ep : Int32} {rule : Option Nat} {cm : Nat → Int32} {vs : Nat → Int32} {es : Nat → Int32} {p0 : Int32} {p1 : Int32} {p2 : Int32}  {val : (Nat → Int32) × (Nat → Int32)} (hf : F_X7_give vs es p0 p1 p2 = some val) : gCt l D cy yX7_give cX7_give 4 none 0 0 0 0 [.ref (a 0), .int p0, .int p1, .int p2] [] ((wSec cy a filled th ep rule cm vs es)) 0 (fun _ : Unit => none) (fun _ => (wSec cy a filled th ep rule cm val.1 val.2)) := by
  refine g_begin (by decide +kernel) (Nat.le_of_ble_eq_true rfl) ?_
  intro X Q hl hR hD hy hro hn C hin E
  subst hl; subst hD; subst hy
  replace C : gC X "SecretVault$Secret" cX7_give none := C
  unfold F_X7_give at hf
  show gW X Q 0 0 ((wSec (x_y X) a filled th ep rule cm vs es)) [(0, .ref (a 0)), (1, .int p0), (2, .int p1), (3, .int p2)] [] 0
  refine g_aload_n C 0 dX7_give_0 rfl ?_
  refine g_get C 0 5 rfl rfl wiX7 (by decide) mw_1_70 rfl rfl dX7_give_1 ?_
  refine g_iload_n C 1 dX7_give_4 rfl ?_
  refine g_iload_n C 2 dX7_give_5 rfl ?_
  obtain ⟨c1, hf⟩ := gg_of hf
  obtain ⟨f2, ef2, hf⟩ := opt_let hf
  refine g_iast C (ws' := (wSec (x_y X) a filled th ep rule cm f2 es)) 2 rfl (gi_in c1) (by rw [ef2]; rfl) dX7_give_6 ?_
  refine g_aload_n C 0 dX7_give_7 rfl ?_
  refine g_get C 0 6 rfl rfl wiX7 (by decide) mw_1_72 rfl rfl dX7_give_8 ?_
  refine g_iload_n C 1 dX7_give_11 rfl ?_
  refine g_iload_n C 3 dX7_give_12 rfl ?_
  obtain ⟨c3, hf⟩ := gg_of hf
  obtain ⟨f4, ef4, hf⟩ := opt_let hf
  refine g_iast C (ws' := (wSec (x_y X) a filled th ep rule cm f2 f4)) 3 rfl (gi_in c3) (by rw [ef4]; rfl) dX7_give_13 ?_
  obtain rfl := Option.some.inj hf
  exact g_vret C E () dX7_give_14 rfl rfl rfl (Nat.le_of_ble_eq_true rfl) (Nat.le_of_ble_eq_true rfl)
/-! X7_drop -/
theorem hd_X7_drop : yX7_drop.cls ≠ "java/lang/invoke/MethodHandle" ∧ yX7_drop.cls ≠ "java/lang/invoke/VarHandle" ∧ (parseMethodDescriptor yX7_drop.desc).map (fun d => d.parameters.length) = some 1 := by decide +kernel
def F_X7_drop (vs : Nat → Int32) (es : Nat → Int32) (p0 : Int32) : Option ((Nat → Int32) × (Nat → Int32)) := gg (gi p0 25) (gl (upd vs (Int32.toNatClampNeg p0) 0) fun f2 => gg (gi p0 25) (gl (upd es (Int32.toNatClampNeg p0) 0) fun f4 => some (f2, f4)))
set_option maxRecDepth 100000 in
set_option maxHeartbeats 4000000 in
theorem c_X7_drop {l : Launch} {D : va_G} {cy : Nat → ClassId} {a : Nat → Nat} {filled : Int32} {th : Int32} {ep : Int32} {rule : Option Nat} {cm : Nat → Int32} {vs : Nat → Int32} {es : Nat → Int32} {p0 : Int32}  {val : (Nat → Int32) × (Nat → Int32)} (hf : F_X7_drop vs es p0 = some val) : gCt l D cy yX7_drop cX7_drop 2 none 0 0 0 0 [.ref (a 0), .int p0] [] ((wSec cy a filled th ep rule cm vs es)) 0 (fun _ : Unit => none) (fun _ => (wSec cy a filled th ep rule cm val.1 val.2)) := by
  refine g_begin (by decide +kernel) (Nat.le_of_ble_eq_true rfl) ?_
  intro X Q hl hR hD hy hro hn C hin E
  subst hl; subst hD; subst hy
  replace C : gC X "SecretVault$Secret" cX7_drop none := C
  unfold F_X7_drop at hf
  show gW X Q 0 0 ((wSec (x_y X) a filled th ep rule cm vs es)) [(0, .ref (a 0)), (1, .int p0)] [] 0
  refine g_aload_n C 0 dX7_drop_0 rfl ?_
  refine g_get C 0 5 rfl rfl wiX7 (by decide) mw_1_70 rfl rfl dX7_drop_1 ?_
  refine g_iload_n C 1 dX7_drop_4 rfl ?_
  refine g_iconst C (v := 0) dX7_drop_5 (by decide) ?_
  obtain ⟨c1, hf⟩ := gg_of hf
  obtain ⟨f2, ef2, hf⟩ := opt_let hf
  refine g_iast C (ws' := (wSec (x_y X) a filled th ep rule cm f2 es)) 2 rfl (gi_in c1) (by rw [ef2]; rfl) dX7_drop_6 ?_
  refine g_aload_n C 0 dX7_drop_7 rfl ?_
  refine g_get C 0 6 rfl rfl wiX7 (by decide) mw_1_72 rfl rfl dX7_drop_8 ?_
  refine g_iload_n C 1 dX7_drop_11 rfl ?_
  refine g_iconst C (v := 0) dX7_drop_12 (by decide) ?_
  obtain ⟨c3, hf⟩ := gg_of hf
  obtain ⟨f4, ef4, hf⟩ := opt_let hf
  refine g_iast C (ws' := (wSec (x_y X) a filled th ep rule cm f2 f4)) 3 rfl (gi_in c3) (by rw [ef4]; rfl) dX7_drop_13 ?_
  obtain rfl := Option.some.inj hf
  exact g_vret C E () dX7_drop_14 rfl rfl rfl (Nat.le_of_ble_eq_true rfl) (Nat.le_of_ble_eq_true rfl)
/-! X7_dropShares -/
theorem hd_X7_dropShares : yX7_dropShares.cls ≠ "java/lang/invoke/MethodHandle" ∧ yX7_dropShares.cls ≠ "java/lang/invoke/VarHandle" ∧ (parseMethodDescriptor yX7_dropShares.desc).map (fun d => d.parameters.length) = some 0 := by decide +kernel
def F_X7_dropShares_L2   : Nat → (Nat → Int32) → (Nat → Int32) → Int32 → Option ((Nat → Int32) × (Nat → Int32))
  | 0, _, _, _ => none
  | n + 1, vs_2, es_2, l1_2 => if 24 < l1_2 then (some (vs_2, es_2)) else ((F_X7_drop vs_2 es_2 l1_2).bind fun v2 => F_X7_dropShares_L2 n v2.1 v2.2 (l1_2 + 1))
def F_X7_dropShares (vs : Nat → Int32) (es : Nat → Int32) : Option ((Nat → Int32) × (Nat → Int32)) := F_X7_dropShares_L2 1000 vs es 1
set_option maxRecDepth 100000 in
set_option maxHeartbeats 4000000 in
theorem c_X7_dropShares {l : Launch} {D : va_G} {cy : Nat → ClassId} {a : Nat → Nat} {filled : Int32} {th : Int32} {ep : Int32} {rule : Option Nat} {cm : Nat → Int32} {vs : Nat → Int32} {es : Nat → Int32}   {val : (Nat → Int32) × (Nat → Int32)} (hf : F_X7_dropShares vs es = some val) : gCt l D cy yX7_dropShares cX7_dropShares 2 none 1 21 0 0 [.ref (a 0)] [] ((wSec cy a filled th ep rule cm vs es)) 0 (fun _ : Unit => none) (fun _ => (wSec cy a filled th ep rule cm val.1 val.2)) := by
  refine g_begin (by decide +kernel) (Nat.le_of_ble_eq_true rfl) ?_
  intro X Q hl hR hD hy hro hn C hin E
  subst hl; subst hD; subst hy
  replace C : gC X "SecretVault$Secret" cX7_dropShares none := C
  unfold F_X7_dropShares at hf
  have H2 : ∀ (n2 : Nat), ∀ (vs_2 : Nat → Int32) (es_2 : Nat → Int32) (l1_2 : Int32), F_X7_dropShares_L2 n2 vs_2 es_2 l1_2 = some val → gW X Q 0 0 ((wSec (x_y X) a filled th ep rule cm vs_2 es_2)) [(0, .ref (a 0)), (1, .int l1_2)] [] 2 := by
    intro n2
    induction n2 with
    | zero => intros; rename_i hf; cases hf
    | succ n2 ih =>
      intro vs_2 es_2 l1_2 hf
      have H2 := ih
      rw [F_X7_dropShares_L2] at hf
      refine g_iload_n C 1 dX7_dropShares_2 rfl ?_
      refine g_bipush C (v := 24) dX7_dropShares_3 (by decide) ?_
      refine g_icmp_gt C 19 dX7_dropShares_5 (by decide) (fun c1 => ?_) (fun c1 => ?_)
      · have hf := opt_pos c1 hf
        obtain rfl := Option.some.inj hf
        exact g_vret C E () dX7_dropShares_19 rfl rfl rfl (Nat.le_of_ble_eq_true rfl) (Nat.le_of_ble_eq_true rfl)
      · have hf := opt_neg c1 hf
        refine g_aload_n C 0 dX7_dropShares_8 rfl ?_
        refine g_iload_n C 1 dX7_dropShares_9 rfl ?_
        obtain ⟨v2, h3, hf⟩ := opt_bind hf
        refine g_callV C (c_X7_drop (l := x_l X) (D := x_D X) (cy := x_y X) (a := a) (filled := filled) (th := th) (ep := ep) (rule := rule) (cm := cm) (vs := vs_2) (es := es_2) (p0 := l1_2) h3) (As := [.int l1_2]) (rest := []) (wr := []) (ws' := fun _ => (wSec (x_y X) a filled th ep rule cm v2.1 v2.2)) (st' := fun _ => []) (ci := 8) 1 0 ⟨_, rfl⟩ rfl rfl mw_3_0 mw_1_3 mw_2_237 mw_2_238 mw_2_239 hd_X7_drop rfl (g_rm hR rfl rfl) [0, 1, 2, 3] [] [0, 1, 2, 3] ⟨rfl, rfl, rfl, rfl, by decide, gRoIn_0, rfl, fun _ => rfl⟩ rfl (Nat.le_of_ble_eq_true rfl) dX7_dropShares_10 (g_rc hR (Nat.le_of_ble_eq_true rfl) (Nat.le_of_ble_eq_true rfl)) (ck' := 0) (sk' := 0) rfl rfl (fun _ => rfl) (fun _ _ => ?_) (fun _ hx => absurd rfl hx)
        refine g_iinc C 1 (v := l1_2 + 1) (lv' := [(1, .int (l1_2 + 1)), (0, .ref (a 0))]) dX7_dropShares_13 rfl rfl (g_nlt hn rfl) rfl ?_
        refine g_goto C 2 dX7_dropShares_16 (by decide) ?_
        refine gW.locals [1, 0] rfl ?_
        exact H2 v2.1 v2.2 (l1_2 + 1) hf
  show gW X Q 0 0 ((wSec (x_y X) a filled th ep rule cm vs es)) [(0, .ref (a 0))] [] 0
  refine g_iconst C (v := 1) dX7_dropShares_0 (by decide) ?_
  refine g_istore_n C (lv' := [(1, .int 1), (0, .ref (a 0))]) dX7_dropShares_1 (g_nlt hn rfl) rfl ?_
  refine gW.locals [1, 0] rfl ?_
  exact H2 1000 vs es 1 hf
/-! X7_committedAt -/
theorem hd_X7_committedAt : yX7_committedAt.cls ≠ "java/lang/invoke/MethodHandle" ∧ yX7_committedAt.cls ≠ "java/lang/invoke/VarHandle" ∧ (parseMethodDescriptor yX7_committedAt.desc).map (fun d => d.parameters.length) = some 1 := by decide +kernel
def F_X7_committedAt_L7 (th : Int32) (cm : Nat → Int32) (p0 : Int32)  : Nat → Int32 → Int32 → Int32 → Option (Int32)
  | 0, _, _, _ => none
  | n + 1, l2_7, l3_7, l4_7 => if th ≤ l4_7 then (some l2_7) else (gg (gi l4_7 8) ((F_X2_powerModQ (cm (Int32.toNatClampNeg l4_7)) l3_7).bind fun v3 => gl ((l2_7 * v3) - (l2_7 * v3) / 2039 * 2039) fun x5 => gl ((l3_7 * p0) - (l3_7 * p0) / 1019 * 1019) fun x6 => F_X7_committedAt_L7 th cm p0 n x5 x6 (l4_7 + 1)))
def F_X7_committedAt (th : Int32) (cm : Nat → Int32) (p0 : Int32) : Option (Int32) := F_X7_committedAt_L7 th cm p0 1000 1 1 0
set_option maxRecDepth 100000 in
set_option maxHeartbeats 4000000 in
theorem c_X7_committedAt {l : Launch} {D : va_G} {cy : Nat → ClassId} {a : Nat → Nat} {filled : Int32} {th : Int32} {ep : Int32} {rule : Option Nat} {cm : Nat → Int32} {vs : Nat → Int32} {es : Nat → Int32} {p0 : Int32}  {val : Int32} (hf : F_X7_committedAt th cm p0 = some val) : gCt l D cy yX7_committedAt cX7_committedAt 5 (some .int) 1 23 0 0 [.ref (a 0), .int p0] [] ((wSec cy a filled th ep rule cm vs es)) 0 (fun _ : Unit => some (.int val)) (fun _ => (wSec cy a filled th ep rule cm vs es)) := by
  refine g_begin (by decide +kernel) (Nat.le_of_ble_eq_true rfl) ?_
  intro X Q hl hR hD hy hro hn C hin E
  subst hl; subst hD; subst hy
  replace C : gC X "SecretVault$Secret" cX7_committedAt (some .int) := C
  unfold F_X7_committedAt at hf
  have H7 : ∀ (n7 : Nat), ∀ (l2_7 : Int32) (l3_7 : Int32) (l4_7 : Int32), F_X7_committedAt_L7 th cm p0 n7 l2_7 l3_7 l4_7 = some val → gW X Q 0 0 ((wSec (x_y X) a filled th ep rule cm vs es)) [(0, .ref (a 0)), (1, .int p0), (2, .int l2_7), (3, .int l3_7), (4, .int l4_7)] [] 7 := by
    intro n7
    induction n7 with
    | zero => intros; rename_i hf; cases hf
    | succ n7 ih =>
      intro l2_7 l3_7 l4_7 hf
      have H7 := ih
      rw [F_X7_committedAt_L7] at hf
      refine g_iload C 4 dX7_committedAt_7 rfl ?_
      refine g_aload_n C 0 dX7_committedAt_9 rfl ?_
      refine g_get C 0 1 rfl rfl wiX7 (by decide) mw_1_62 rfl rfl dX7_committedAt_10 ?_
      refine g_icmp_ge C 48 dX7_committedAt_13 (by decide) (fun c1 => ?_) (fun c1 => ?_)
      · have hf := opt_pos c1 hf
        refine g_iload_n C 2 dX7_committedAt_48 rfl ?_
        obtain rfl := Option.some.inj hf
        exact g_iret C E () dX7_committedAt_49 rfl rfl rfl (Nat.le_of_ble_eq_true rfl) (Nat.le_of_ble_eq_true rfl)
      · have hf := opt_neg c1 hf
        refine g_iload_n C 2 dX7_committedAt_16 rfl ?_
        refine g_aload_n C 0 dX7_committedAt_17 rfl ?_
        refine g_get C 0 3 rfl rfl wiX7 (by decide) mw_1_66 rfl rfl dX7_committedAt_18 ?_
        refine g_iload C 4 dX7_committedAt_21 rfl ?_
        obtain ⟨c2, hf⟩ := gg_of hf
        refine g_iald C 1 rfl (gi_in c2) dX7_committedAt_23 ?_
        refine g_iload_n C 3 dX7_committedAt_24 rfl ?_
        obtain ⟨v3, h4, hf⟩ := opt_bind hf
        refine g_callS C (c_X2_powerModQ (l := x_l X) (D := x_D X) (cy := x_y X) (p0 := cm (Int32.toNatClampNeg l4_7)) (p1 := l3_7) h4) (As := [.int (cm (Int32.toNatClampNeg l4_7)), .int l3_7]) (rest := [.int l2_7]) (wr := (wSec (x_y X) a filled th ep rule cm vs es)) (ws' := fun _ => (wSec (x_y X) a filled th ep rule cm vs es)) (st' := fun _ => [.int v3, .int l2_7]) 2 mw_2_173 mw_1_16 mw_2_178 mw_2_172 hd_X2_powerModQ rfl (g_rm hR rfl rfl) [] [0, 1, 2, 3] [0, 1, 2, 3] ⟨rfl, rfl, rfl, rfl, by decide, gRoIn_0, rfl, fun _ => rfl⟩ rfl (Nat.le_of_ble_eq_true rfl) dX7_committedAt_25 (g_rc hR (Nat.le_of_ble_eq_true rfl) (Nat.le_of_ble_eq_true rfl)) (ck' := 0) (sk' := 0) rfl rfl (fun _ => rfl) (fun _ _ => ?_) (fun _ hx => absurd rfl hx)
        refine g_imul C dX7_committedAt_28 ?_
        refine g_sipush C (v := 2039) dX7_committedAt_29 (by decide) ?_
        refine g_irem C dX7_committedAt_32 (by decide) ?_
        obtain ⟨x5, ex5, hf⟩ := opt_let hf
        refine g_topi ex5 ?_
        refine g_istore_n C (lv' := [(2, .int x5), (0, .ref (a 0)), (1, .int p0), (3, .int l3_7), (4, .int l4_7)]) dX7_committedAt_33 (g_nlt hn rfl) rfl ?_
        refine g_iload_n C 3 dX7_committedAt_34 rfl ?_
        refine g_iload_n C 2 dX7_committedAt_35 rfl ?_
        refine g_imul C dX7_committedAt_36 ?_
        refine g_sipush C (v := 1019) dX7_committedAt_37 (by decide) ?_
        refine g_irem C dX7_committedAt_40 (by decide) ?_
        obtain ⟨x6, ex6, hf⟩ := opt_let hf
        refine g_topi ex6 ?_
        refine g_istore_n C (lv' := [(3, .int x6), (2, .int x5), (0, .ref (a 0)), (1, .int p0), (4, .int l4_7)]) dX7_committedAt_41 (g_nlt hn rfl) rfl ?_
        refine g_iinc C 4 (v := l4_7 + 1) (lv' := [(4, .int (l4_7 + 1)), (3, .int x6), (2, .int x5), (0, .ref (a 0)), (1, .int p0)]) dX7_committedAt_42 rfl rfl (g_nlt hn rfl) rfl ?_
        refine g_goto C 7 dX7_committedAt_45 (by decide) ?_
        refine gW.locals [3, 4, 2, 1, 0] rfl ?_
        exact H7 x5 x6 (l4_7 + 1) hf
  show gW X Q 0 0 ((wSec (x_y X) a filled th ep rule cm vs es)) [(0, .ref (a 0)), (1, .int p0)] [] 0
  refine g_iconst C (v := 1) dX7_committedAt_0 (by decide) ?_
  refine g_istore_n C (lv' := [(2, .int 1), (0, .ref (a 0)), (1, .int p0)]) dX7_committedAt_1 (g_nlt hn rfl) rfl ?_
  refine g_iconst C (v := 1) dX7_committedAt_2 (by decide) ?_
  refine g_istore_n C (lv' := [(3, .int 1), (2, .int 1), (0, .ref (a 0)), (1, .int p0)]) dX7_committedAt_3 (g_nlt hn rfl) rfl ?_
  refine g_iconst C (v := 0) dX7_committedAt_4 (by decide) ?_
  refine g_istore C (lv' := [(4, .int 0), (3, .int 1), (2, .int 1), (0, .ref (a 0)), (1, .int p0)]) dX7_committedAt_5 (g_nlt hn rfl) rfl ?_
  refine gW.locals [3, 4, 2, 1, 0] rfl ?_
  exact H7 1000 1 1 0 hf
/-! X7_stateOf -/
theorem hd_X7_stateOf : yX7_stateOf.cls ≠ "java/lang/invoke/MethodHandle" ∧ yX7_stateOf.cls ≠ "java/lang/invoke/VarHandle" ∧ (parseMethodDescriptor yX7_stateOf.desc).map (fun d => d.parameters.length) = some 1 := by decide +kernel
def F_X7_stateOf_L37   (s0_37 : Int32) : Option (Int32) := some s0_37
def F_X7_stateOf (th : Int32) (ep : Int32) (cm : Nat → Int32) (vs : Nat → Int32) (es : Nat → Int32) (p0 : Int32) : Option (Int32) := gg (gi p0 25) (if (es (Int32.toNatClampNeg p0)) = ep then (gg (gi p0 25) ((F_X2_commitmentTo (vs (Int32.toNatClampNeg p0))).bind fun v4 => (F_X7_committedAt th cm p0).bind fun v6 => if v4 = v6 then (F_X7_stateOf_L37 0) else (F_X7_stateOf_L37 2))) else (some 1))
set_option maxRecDepth 100000 in
set_option maxHeartbeats 4000000 in
theorem c_X7_stateOf {l : Launch} {D : va_G} {cy : Nat → ClassId} {a : Nat → Nat} {filled : Int32} {th : Int32} {ep : Int32} {rule : Option Nat} {cm : Nat → Int32} {vs : Nat → Int32} {es : Nat → Int32} {p0 : Int32}  {val : Int32} (hf : F_X7_stateOf th ep cm vs es p0 = some val) : gCt l D cy yX7_stateOf cX7_stateOf 2 (some .int) 2 47 0 0 [.ref (a 0), .int p0] [] ((wSec cy a filled th ep rule cm vs es)) 0 (fun _ : Unit => some (.int val)) (fun _ => (wSec cy a filled th ep rule cm vs es)) := by
  refine g_begin (by decide +kernel) (Nat.le_of_ble_eq_true rfl) ?_
  intro X Q hl hR hD hy hro hn C hin E
  subst hl; subst hD; subst hy
  replace C : gC X "SecretVault$Secret" cX7_stateOf (some .int) := C
  unfold F_X7_stateOf at hf
  have H37 : ∀ (s0_37 : Int32), F_X7_stateOf_L37 s0_37 = some val → gW X Q 0 0 ((wSec (x_y X) a filled th ep rule cm vs es)) [(0, .ref (a 0)), (1, .int p0)] [.int s0_37] 37 := by
    intro s0_37 hf
    unfold F_X7_stateOf_L37 at hf
    obtain rfl := Option.some.inj hf
    exact g_iret C E () dX7_stateOf_37 rfl rfl rfl (Nat.le_of_ble_eq_true rfl) (Nat.le_of_ble_eq_true rfl)
  show gW X Q 0 0 ((wSec (x_y X) a filled th ep rule cm vs es)) [(0, .ref (a 0)), (1, .int p0)] [] 0
  refine g_aload_n C 0 dX7_stateOf_0 rfl ?_
  refine g_get C 0 6 rfl rfl wiX7 (by decide) mw_1_72 rfl rfl dX7_stateOf_1 ?_
  refine g_iload_n C 1 dX7_stateOf_4 rfl ?_
  obtain ⟨c1, hf⟩ := gg_of hf
  refine g_iald C 3 rfl (gi_in c1) dX7_stateOf_5 ?_
  refine g_aload_n C 0 dX7_stateOf_6 rfl ?_
  refine g_get C 0 2 rfl rfl wiX7 (by decide) mw_1_64 rfl rfl dX7_stateOf_7 ?_
  refine g_icmp_eq C 15 dX7_stateOf_10 (by decide) (fun c2 => ?_) (fun c2 => ?_)
  · have hf := opt_pos c2 hf
    refine g_aload_n C 0 dX7_stateOf_15 rfl ?_
    refine g_get C 0 5 rfl rfl wiX7 (by decide) mw_1_70 rfl rfl dX7_stateOf_16 ?_
    refine g_iload_n C 1 dX7_stateOf_19 rfl ?_
    obtain ⟨c3, hf⟩ := gg_of hf
    refine g_iald C 2 rfl (gi_in c3) dX7_stateOf_20 ?_
    obtain ⟨v4, h5, hf⟩ := opt_bind hf
    refine g_callS C (c_X2_commitmentTo (l := x_l X) (D := x_D X) (cy := x_y X) (p0 := vs (Int32.toNatClampNeg p0)) h5) (As := [.int (vs (Int32.toNatClampNeg p0))]) (rest := []) (wr := (wSec (x_y X) a filled th ep rule cm vs es)) (ws' := fun _ => (wSec (x_y X) a filled th ep rule cm vs es)) (st' := fun _ => [.int v4]) 1 mw_2_170 mw_1_16 mw_2_168 mw_2_169 hd_X2_commitmentTo rfl (g_rm hR rfl rfl) [] [0, 1, 2, 3] [0, 1, 2, 3] ⟨rfl, rfl, rfl, rfl, by decide, gRoIn_0, rfl, fun _ => rfl⟩ rfl (Nat.le_of_ble_eq_true rfl) dX7_stateOf_21 (g_rc hR (Nat.le_of_ble_eq_true rfl) (Nat.le_of_ble_eq_true rfl)) (ck' := 0) (sk' := 0) rfl rfl (fun _ => rfl) (fun _ _ => ?_) (fun _ hx => absurd rfl hx)
    refine g_aload_n C 0 dX7_stateOf_24 rfl ?_
    refine g_iload_n C 1 dX7_stateOf_25 rfl ?_
    obtain ⟨v6, h7, hf⟩ := opt_bind hf
    refine g_callV C (c_X7_committedAt (l := x_l X) (D := x_D X) (cy := x_y X) (a := a) (filled := filled) (th := th) (ep := ep) (rule := rule) (cm := cm) (vs := vs) (es := es) (p0 := p0) h7) (As := [.int p0]) (rest := [.int v4]) (wr := []) (ws' := fun _ => (wSec (x_y X) a filled th ep rule cm vs es)) (st' := fun _ => [.int v6, .int v4]) (ci := 8) 1 0 ⟨_, rfl⟩ rfl rfl mw_2_177 mw_1_3 mw_2_174 mw_2_176 mp_1 hd_X7_committedAt rfl (g_rm hR rfl rfl) [0, 1, 2, 3] [] [0, 1, 2, 3] ⟨rfl, rfl, rfl, rfl, by decide, gRoIn_0, rfl, fun _ => rfl⟩ rfl (Nat.le_of_ble_eq_true rfl) dX7_stateOf_26 (g_rc hR (Nat.le_of_ble_eq_true rfl) (Nat.le_of_ble_eq_true rfl)) (ck' := 0) (sk' := 0) rfl rfl (fun _ => rfl) (fun _ _ => ?_) (fun _ hx => absurd rfl hx)
    refine g_icmp_ne C 36 dX7_stateOf_29 (by decide) (fun c8 => ?_) (fun c8 => ?_)
    · have hf := opt_neg c8 hf
      refine g_iconst C (v := 2) dX7_stateOf_36 (by decide) ?_
      exact H37 2 hf
    · have hf := opt_pos c8 hf
      refine g_iconst C (v := 0) dX7_stateOf_32 (by decide) ?_
      refine g_goto C 37 dX7_stateOf_33 (by decide) ?_
      exact H37 0 hf
  · have hf := opt_neg c2 hf
    refine g_iconst C (v := 1) dX7_stateOf_13 (by decide) ?_
    obtain rfl := Option.some.inj hf
    exact g_iret C E () dX7_stateOf_14 rfl rfl rfl (Nat.le_of_ble_eq_true rfl) (Nat.le_of_ble_eq_true rfl)
/-! X7_holdsGood -/
theorem hd_X7_holdsGood : yX7_holdsGood.cls ≠ "java/lang/invoke/MethodHandle" ∧ yX7_holdsGood.cls ≠ "java/lang/invoke/VarHandle" ∧ (parseMethodDescriptor yX7_holdsGood.desc).map (fun d => d.parameters.length) = some 1 := by decide +kernel
def F_X7_holdsGood_L21   (s0_21 : Int32) : Option (Int32) := gg (gnar .boolean s0_21) (some s0_21)
def F_X7_holdsGood_L20    : Option (Int32) := F_X7_holdsGood_L21 0
def F_X7_holdsGood (th : Int32) (ep : Int32) (cm : Nat → Int32) (vs : Nat → Int32) (es : Nat → Int32) (p0 : Int32) : Option (Int32) := (F_X7_holds es p0).bind fun v1 => if v1 = 0 then (F_X7_holdsGood_L20 ) else ((F_X7_stateOf th ep cm vs es p0).bind fun v5 => if v5 = 0 then (F_X7_holdsGood_L21 1) else (F_X7_holdsGood_L20 ))
set_option maxRecDepth 100000 in
set_option maxHeartbeats 4000000 in
theorem c_X7_holdsGood {l : Launch} {D : va_G} {cy : Nat → ClassId} {a : Nat → Nat} {filled : Int32} {th : Int32} {ep : Int32} {rule : Option Nat} {cm : Nat → Int32} {vs : Nat → Int32} {es : Nat → Int32} {p0 : Int32}  {val : Int32} (hf : F_X7_holdsGood th ep cm vs es p0 = some val) : gCt l D cy yX7_holdsGood cX7_holdsGood 2 (some .boolean) 3 68 0 0 [.ref (a 0), .int p0] [] ((wSec cy a filled th ep rule cm vs es)) 0 (fun _ : Unit => some (.int val)) (fun _ => (wSec cy a filled th ep rule cm vs es)) := by
  refine g_begin (by decide +kernel) (Nat.le_of_ble_eq_true rfl) ?_
  intro X Q hl hR hD hy hro hn C hin E
  subst hl; subst hD; subst hy
  replace C : gC X "SecretVault$Secret" cX7_holdsGood (some .boolean) := C
  unfold F_X7_holdsGood at hf
  have H21 : ∀ (s0_21 : Int32), F_X7_holdsGood_L21 s0_21 = some val → gW X Q 0 0 ((wSec (x_y X) a filled th ep rule cm vs es)) [(0, .ref (a 0)), (1, .int p0)] [.int s0_21] 21 := by
    intro s0_21 hf
    unfold F_X7_holdsGood_L21 at hf
    obtain ⟨c4, hf⟩ := gg_of hf
    obtain rfl := Option.some.inj hf
    exact g_zret C E () (gnar_of c4) dX7_holdsGood_21 rfl rfl rfl (Nat.le_of_ble_eq_true rfl) (Nat.le_of_ble_eq_true rfl)
  have H20 :  F_X7_holdsGood_L20 = some val → gW X Q 0 0 ((wSec (x_y X) a filled th ep rule cm vs es)) [(0, .ref (a 0)), (1, .int p0)] [] 20 := by
    intro hf
    unfold F_X7_holdsGood_L20 at hf
    refine g_iconst C (v := 0) dX7_holdsGood_20 (by decide) ?_
    exact H21 0 hf
  show gW X Q 0 0 ((wSec (x_y X) a filled th ep rule cm vs es)) [(0, .ref (a 0)), (1, .int p0)] [] 0
  refine g_aload_n C 0 dX7_holdsGood_0 rfl ?_
  refine g_iload_n C 1 dX7_holdsGood_1 rfl ?_
  obtain ⟨v1, h2, hf⟩ := opt_bind hf
  refine g_callV C (c_X7_holds (l := x_l X) (D := x_D X) (cy := x_y X) (a := a) (filled := filled) (th := th) (ep := ep) (rule := rule) (cm := cm) (vs := vs) (es := es) (p0 := p0) h2) (As := [.int p0]) (rest := []) (wr := []) (ws' := fun _ => (wSec (x_y X) a filled th ep rule cm vs es)) (st' := fun _ => [.int v1]) (ci := 8) 1 0 ⟨_, rfl⟩ rfl rfl mw_2_159 mw_1_3 mw_2_156 mw_2_157 mw_2_158 hd_X7_holds rfl (g_rm hR rfl rfl) [0, 1, 2, 3] [] [0, 1, 2, 3] ⟨rfl, rfl, rfl, rfl, by decide, gRoIn_0, rfl, fun _ => rfl⟩ rfl (Nat.le_of_ble_eq_true rfl) dX7_holdsGood_2 (g_rc hR (Nat.le_of_ble_eq_true rfl) (Nat.le_of_ble_eq_true rfl)) (ck' := 0) (sk' := 0) rfl rfl (fun _ => rfl) (fun _ _ => ?_) (fun _ hx => absurd rfl hx)
  refine g_if_eq C 20 dX7_holdsGood_5 (by decide) (fun c3 => ?_) (fun c3 => ?_)
  · have hf := opt_pos c3 hf
    exact H20 hf
  · have hf := opt_neg c3 hf
    refine g_aload_n C 0 dX7_holdsGood_8 rfl ?_
    refine g_iload_n C 1 dX7_holdsGood_9 rfl ?_
    obtain ⟨v5, h6, hf⟩ := opt_bind hf
    refine g_callV C (c_X7_stateOf (l := x_l X) (D := x_D X) (cy := x_y X) (a := a) (filled := filled) (th := th) (ep := ep) (rule := rule) (cm := cm) (vs := vs) (es := es) (p0 := p0) h6) (As := [.int p0]) (rest := []) (wr := []) (ws' := fun _ => (wSec (x_y X) a filled th ep rule cm vs es)) (st' := fun _ => [.int v5]) (ci := 8) 1 0 ⟨_, rfl⟩ rfl rfl mw_2_167 mw_1_3 mw_2_164 mw_2_165 mw_2_166 hd_X7_stateOf rfl (g_rm hR rfl rfl) [0, 1, 2, 3] [] [0, 1, 2, 3] ⟨rfl, rfl, rfl, rfl, by decide, gRoIn_0, rfl, fun _ => rfl⟩ rfl (Nat.le_of_ble_eq_true rfl) dX7_holdsGood_10 (g_rc hR (Nat.le_of_ble_eq_true rfl) (Nat.le_of_ble_eq_true rfl)) (ck' := 0) (sk' := 0) rfl rfl (fun _ => rfl) (fun _ _ => ?_) (fun _ hx => absurd rfl hx)
    refine g_if_ne C 20 dX7_holdsGood_13 (by decide) (fun c7 => ?_) (fun c7 => ?_)
    · have hf := opt_neg c7 hf
      exact H20 hf
    · have hf := opt_pos c7 hf
      refine g_iconst C (v := 1) dX7_holdsGood_16 (by decide) ?_
      refine g_goto C 21 dX7_holdsGood_17 (by decide) ?_
      exact H21 1 hf
/-! X7_shareCount -/
theorem hd_X7_shareCount : yX7_shareCount.cls ≠ "java/lang/invoke/MethodHandle" ∧ yX7_shareCount.cls ≠ "java/lang/invoke/VarHandle" ∧ (parseMethodDescriptor yX7_shareCount.desc).map (fun d => d.parameters.length) = some 1 := by decide +kernel
def F_X7_shareCount_L35  (K4 : Int32 → Int32 → Option (Int32)) (l3_35 : Int32) (s0_35 : Int32) (s1_35 : Int32) : Option (Int32) := K4 (s1_35 + s0_35) (l3_35 + 1)
def F_X7_shareCount_L34  (K4 : Int32 → Int32 → Option (Int32)) (l3_34 : Int32) (s0_34 : Int32) : Option (Int32) := F_X7_shareCount_L35 K4 l3_34 0 s0_34
def F_X7_shareCount_L4 (es : Nat → Int32) (p0 : Int32)  : Nat → Int32 → Int32 → Option (Int32)
  | 0, _, _ => none
  | n + 1, l2_4, l3_4 => if 24 < l3_4 then (some l2_4) else ((F_X10_ownerOf l3_4).bind fun v2 => (F_X10_contains p0 v2).bind fun v4 => if v4 = 0 then (F_X7_shareCount_L34 (F_X7_shareCount_L4 es p0 n) l3_4 l2_4) else ((F_X7_holds es l3_4).bind fun v7 => if v7 = 0 then (F_X7_shareCount_L34 (F_X7_shareCount_L4 es p0 n) l3_4 l2_4) else (F_X7_shareCount_L35 (F_X7_shareCount_L4 es p0 n) l3_4 1 l2_4)))
def F_X7_shareCount (es : Nat → Int32) (p0 : Int32) : Option (Int32) := F_X7_shareCount_L4 es p0 1000 0 1
set_option maxRecDepth 100000 in
set_option maxHeartbeats 4000000 in
theorem c_X7_shareCount {l : Launch} {D : va_G} {cy : Nat → ClassId} {a : Nat → Nat} {filled : Int32} {th : Int32} {ep : Int32} {rule : Option Nat} {cm : Nat → Int32} {vs : Nat → Int32} {es : Nat → Int32} {p0 : Int32}  {val : Int32} (hf : F_X7_shareCount es p0 = some val) : gCt l D cy yX7_shareCount cX7_shareCount 4 (some .int) 1 21 0 0 [.ref (a 0), .int p0] [] ((wSec cy a filled th ep rule cm vs es)) 0 (fun _ : Unit => some (.int val)) (fun _ => (wSec cy a filled th ep rule cm vs es)) := by
  refine g_begin (by decide +kernel) (Nat.le_of_ble_eq_true rfl) ?_
  intro X Q hl hR hD hy hro hn C hin E
  subst hl; subst hD; subst hy
  replace C : gC X "SecretVault$Secret" cX7_shareCount (some .int) := C
  unfold F_X7_shareCount at hf
  have H4 : ∀ (n4 : Nat), ∀ (l2_4 : Int32) (l3_4 : Int32), F_X7_shareCount_L4 es p0 n4 l2_4 l3_4 = some val → gW X Q 0 0 ((wSec (x_y X) a filled th ep rule cm vs es)) [(0, .ref (a 0)), (1, .int p0), (2, .int l2_4), (3, .int l3_4)] [] 4 := by
    intro n4
    induction n4 with
    | zero => intros; rename_i hf; cases hf
    | succ n4 ih =>
      intro l2_4 l3_4 hf
      have H4 := ih
      rw [F_X7_shareCount_L4] at hf
      have H35 : ∀ (l3_35 : Int32) (s0_35 : Int32) (s1_35 : Int32), F_X7_shareCount_L35 (F_X7_shareCount_L4 es p0 n4) l3_35 s0_35 s1_35 = some val → gW X Q 0 0 ((wSec (x_y X) a filled th ep rule cm vs es)) [(0, .ref (a 0)), (1, .int p0), (3, .int l3_35)] [.int s0_35, .int s1_35] 35 := by
        intro l3_35 s0_35 s1_35 hf
        unfold F_X7_shareCount_L35 at hf
        refine g_iadd C dX7_shareCount_35 ?_
        refine g_istore_n C (lv' := [(2, .int (s1_35 + s0_35)), (0, .ref (a 0)), (1, .int p0), (3, .int l3_35)]) dX7_shareCount_36 (g_nlt hn rfl) rfl ?_
        refine g_iinc C 3 (v := l3_35 + 1) (lv' := [(3, .int (l3_35 + 1)), (2, .int (s1_35 + s0_35)), (0, .ref (a 0)), (1, .int p0)]) dX7_shareCount_37 rfl rfl (g_nlt hn rfl) rfl ?_
        refine g_goto C 4 dX7_shareCount_40 (by decide) ?_
        refine gW.locals [2, 3, 1, 0] rfl ?_
        exact H4 (s1_35 + s0_35) (l3_35 + 1) hf
      have H34 : ∀ (l3_34 : Int32) (s0_34 : Int32), F_X7_shareCount_L34 (F_X7_shareCount_L4 es p0 n4) l3_34 s0_34 = some val → gW X Q 0 0 ((wSec (x_y X) a filled th ep rule cm vs es)) [(0, .ref (a 0)), (1, .int p0), (3, .int l3_34)] [.int s0_34] 34 := by
        intro l3_34 s0_34 hf
        unfold F_X7_shareCount_L34 at hf
        refine g_iconst C (v := 0) dX7_shareCount_34 (by decide) ?_
        exact H35 l3_34 0 s0_34 hf
      refine g_iload_n C 3 dX7_shareCount_4 rfl ?_
      refine g_bipush C (v := 24) dX7_shareCount_5 (by decide) ?_
      refine g_icmp_gt C 43 dX7_shareCount_7 (by decide) (fun c1 => ?_) (fun c1 => ?_)
      · have hf := opt_pos c1 hf
        refine g_iload_n C 2 dX7_shareCount_43 rfl ?_
        obtain rfl := Option.some.inj hf
        exact g_iret C E () dX7_shareCount_44 rfl rfl rfl (Nat.le_of_ble_eq_true rfl) (Nat.le_of_ble_eq_true rfl)
      · have hf := opt_neg c1 hf
        refine g_iload_n C 2 dX7_shareCount_10 rfl ?_
        refine g_iload_n C 1 dX7_shareCount_11 rfl ?_
        refine g_iload_n C 3 dX7_shareCount_12 rfl ?_
        obtain ⟨v2, h3, hf⟩ := opt_bind hf
        refine g_callSN C (c_X10_ownerOf (l := x_l X) (D := x_D X) (cy := x_y X) (p0 := l3_4) h3) (As := [.int l3_4]) (rest := [.int p0, .int l2_4]) (wr := (wSec (x_y X) a filled th ep rule cm vs es)) (ws' := fun _ => (wSec (x_y X) a filled th ep rule cm vs es)) (st' := fun _ => [.int v2, .int p0, .int l2_4]) 1 mw_2_154 mw_1_1 mn_Secret_66 mw_2_153 hd_X10_ownerOf rfl (g_rm hR rfl rfl) [] [0, 1, 2, 3] [0, 1, 2, 3] ⟨rfl, rfl, rfl, rfl, by decide, gRoIn_0, rfl, fun _ => rfl⟩ rfl (Nat.le_of_ble_eq_true rfl) dX7_shareCount_13 (g_rc hR (Nat.le_of_ble_eq_true rfl) (Nat.le_of_ble_eq_true rfl)) (ck' := 0) (sk' := 0) rfl rfl (fun _ => rfl) (fun _ _ => ?_) (fun _ hx => absurd rfl hx)
        obtain ⟨v4, h5, hf⟩ := opt_bind hf
        refine g_callSN C (c_X10_contains (l := x_l X) (D := x_D X) (cy := x_y X) (p0 := p0) (p1 := v2) h5) (As := [.int p0, .int v2]) (rest := [.int l2_4]) (wr := (wSec (x_y X) a filled th ep rule cm vs es)) (ws' := fun _ => (wSec (x_y X) a filled th ep rule cm vs es)) (st' := fun _ => [.int v4, .int l2_4]) 2 mw_2_136 mw_1_1 mn_Secret_69 mw_2_135 hd_X10_contains rfl (g_rm hR rfl rfl) [] [0, 1, 2, 3] [0, 1, 2, 3] ⟨rfl, rfl, rfl, rfl, by decide, gRoIn_0, rfl, fun _ => rfl⟩ rfl (Nat.le_of_ble_eq_true rfl) dX7_shareCount_16 (g_rc hR (Nat.le_of_ble_eq_true rfl) (Nat.le_of_ble_eq_true rfl)) (ck' := 0) (sk' := 0) rfl rfl (fun _ => rfl) (fun _ _ => ?_) (fun _ hx => absurd rfl hx)
        refine g_if_eq C 34 dX7_shareCount_19 (by decide) (fun c6 => ?_) (fun c6 => ?_)
        · have hf := opt_pos c6 hf
          refine gW.locals [0, 1, 3] rfl ?_
          exact H34 l3_4 l2_4 hf
        · have hf := opt_neg c6 hf
          refine g_aload_n C 0 dX7_shareCount_22 rfl ?_
          refine g_iload_n C 3 dX7_shareCount_23 rfl ?_
          obtain ⟨v7, h8, hf⟩ := opt_bind hf
          refine g_callV C (c_X7_holds (l := x_l X) (D := x_D X) (cy := x_y X) (a := a) (filled := filled) (th := th) (ep := ep) (rule := rule) (cm := cm) (vs := vs) (es := es) (p0 := l3_4) h8) (As := [.int l3_4]) (rest := [.int l2_4]) (wr := []) (ws' := fun _ => (wSec (x_y X) a filled th ep rule cm vs es)) (st' := fun _ => [.int v7, .int l2_4]) (ci := 8) 1 0 ⟨_, rfl⟩ rfl rfl mw_2_159 mw_1_3 mw_2_156 mw_2_157 mw_2_158 hd_X7_holds rfl (g_rm hR rfl rfl) [0, 1, 2, 3] [] [0, 1, 2, 3] ⟨rfl, rfl, rfl, rfl, by decide, gRoIn_0, rfl, fun _ => rfl⟩ rfl (Nat.le_of_ble_eq_true rfl) dX7_shareCount_24 (g_rc hR (Nat.le_of_ble_eq_true rfl) (Nat.le_of_ble_eq_true rfl)) (ck' := 0) (sk' := 0) rfl rfl (fun _ => rfl) (fun _ _ => ?_) (fun _ hx => absurd rfl hx)
          refine g_if_eq C 34 dX7_shareCount_27 (by decide) (fun c9 => ?_) (fun c9 => ?_)
          · have hf := opt_pos c9 hf
            refine gW.locals [0, 1, 3] rfl ?_
            exact H34 l3_4 l2_4 hf
          · have hf := opt_neg c9 hf
            refine g_iconst C (v := 1) dX7_shareCount_30 (by decide) ?_
            refine g_goto C 35 dX7_shareCount_31 (by decide) ?_
            refine gW.locals [0, 1, 3] rfl ?_
            exact H35 l3_4 1 l2_4 hf
  show gW X Q 0 0 ((wSec (x_y X) a filled th ep rule cm vs es)) [(0, .ref (a 0)), (1, .int p0)] [] 0
  refine g_iconst C (v := 0) dX7_shareCount_0 (by decide) ?_
  refine g_istore_n C (lv' := [(2, .int 0), (0, .ref (a 0)), (1, .int p0)]) dX7_shareCount_1 (g_nlt hn rfl) rfl ?_
  refine g_iconst C (v := 1) dX7_shareCount_2 (by decide) ?_
  refine g_istore_n C (lv' := [(3, .int 1), (2, .int 0), (0, .ref (a 0)), (1, .int p0)]) dX7_shareCount_3 (g_nlt hn rfl) rfl ?_
  refine gW.locals [2, 3, 1, 0] rfl ?_
  exact H4 1000 0 1 hf
/-! X7_shareCount_ -/
theorem hd_X7_shareCount_ : yX7_shareCount_.cls ≠ "java/lang/invoke/MethodHandle" ∧ yX7_shareCount_.cls ≠ "java/lang/invoke/VarHandle" ∧ (parseMethodDescriptor yX7_shareCount_.desc).map (fun d => d.parameters.length) = some 2 := by decide +kernel
def F_X7_shareCount__L46  (K5 : Int32 → Int32 → Option (Int32)) (l3_46 : Int32) (l4_46 : Int32) : Option (Int32) := K5 l3_46 (l4_46 + 1)
def F_X7_shareCount__L5 (th : Int32) (ep : Int32) (cm : Nat → Int32) (vs : Nat → Int32) (es : Nat → Int32) (p0 : Int32) (p1 : Int32)  : Nat → Int32 → Int32 → Option (Int32)
  | 0, _, _ => none
  | n + 1, l3_5, l4_5 => if 24 < l4_5 then (some l3_5) else ((F_X10_ownerOf l4_5).bind fun v2 => (F_X10_contains p0 v2).bind fun v4 => if v4 = 0 then (F_X7_shareCount__L46 (F_X7_shareCount__L5 th ep cm vs es p0 p1 n) l3_5 l4_5) else ((F_X7_holds es l4_5).bind fun v7 => if v7 = 0 then (F_X7_shareCount__L46 (F_X7_shareCount__L5 th ep cm vs es p0 p1 n) l3_5 l4_5) else ((F_X7_stateOf th ep cm vs es l4_5).bind fun v10 => if v10 = p1 then (F_X7_shareCount__L46 (F_X7_shareCount__L5 th ep cm vs es p0 p1 n) (l3_5 + 1) l4_5) else (F_X7_shareCount__L46 (F_X7_shareCount__L5 th ep cm vs es p0 p1 n) l3_5 l4_5))))
def F_X7_shareCount_ (th : Int32) (ep : Int32) (cm : Nat → Int32) (vs : Nat → Int32) (es : Nat → Int32) (p0 : Int32) (p1 : Int32) : Option (Int32) := F_X7_shareCount__L5 th ep cm vs es p0 p1 1000 0 1
set_option maxRecDepth 100000 in
set_option maxHeartbeats 4000000 in
theorem c_X7_shareCount_ {l : Launch} {D : va_G} {cy : Nat → ClassId} {a : Nat → Nat} {filled : Int32} {th : Int32} {ep : Int32} {rule : Option Nat} {cm : Nat → Int32} {vs : Nat → Int32} {es : Nat → Int32} {p0 : Int32} {p1 : Int32}  {val : Int32} (hf : F_X7_shareCount_ th ep cm vs es p0 p1 = some val) : gCt l D cy yX7_shareCount_ cX7_shareCount_ 5 (some .int) 3 68 0 0 [.ref (a 0), .int p0, .int p1] [] ((wSec cy a filled th ep rule cm vs es)) 0 (fun _ : Unit => some (.int val)) (fun _ => (wSec cy a filled th ep rule cm vs es)) := by
  refine g_begin (by decide +kernel) (Nat.le_of_ble_eq_true rfl) ?_
  intro X Q hl hR hD hy hro hn C hin E
  subst hl; subst hD; subst hy
  replace C : gC X "SecretVault$Secret" cX7_shareCount_ (some .int) := C
  unfold F_X7_shareCount_ at hf
  have H5 : ∀ (n5 : Nat), ∀ (l3_5 : Int32) (l4_5 : Int32), F_X7_shareCount__L5 th ep cm vs es p0 p1 n5 l3_5 l4_5 = some val → gW X Q 0 0 ((wSec (x_y X) a filled th ep rule cm vs es)) [(0, .ref (a 0)), (1, .int p0), (2, .int p1), (3, .int l3_5), (4, .int l4_5)] [] 5 := by
    intro n5
    induction n5 with
    | zero => intros; rename_i hf; cases hf
    | succ n5 ih =>
      intro l3_5 l4_5 hf
      have H5 := ih
      rw [F_X7_shareCount__L5] at hf
      have H46 : ∀ (l3_46 : Int32) (l4_46 : Int32), F_X7_shareCount__L46 (F_X7_shareCount__L5 th ep cm vs es p0 p1 n5) l3_46 l4_46 = some val → gW X Q 0 0 ((wSec (x_y X) a filled th ep rule cm vs es)) [(0, .ref (a 0)), (1, .int p0), (2, .int p1), (3, .int l3_46), (4, .int l4_46)] [] 46 := by
        intro l3_46 l4_46 hf
        unfold F_X7_shareCount__L46 at hf
        refine g_iinc C 4 (v := l4_46 + 1) (lv' := [(4, .int (l4_46 + 1)), (0, .ref (a 0)), (1, .int p0), (2, .int p1), (3, .int l3_46)]) dX7_shareCount__46 rfl rfl (g_nlt hn rfl) rfl ?_
        refine g_goto C 5 dX7_shareCount__49 (by decide) ?_
        refine gW.locals [1, 2, 3, 4, 0] rfl ?_
        exact H5 l3_46 (l4_46 + 1) hf
      refine g_iload C 4 dX7_shareCount__5 rfl ?_
      refine g_bipush C (v := 24) dX7_shareCount__7 (by decide) ?_
      refine g_icmp_gt C 52 dX7_shareCount__9 (by decide) (fun c1 => ?_) (fun c1 => ?_)
      · have hf := opt_pos c1 hf
        refine g_iload_n C 3 dX7_shareCount__52 rfl ?_
        obtain rfl := Option.some.inj hf
        exact g_iret C E () dX7_shareCount__53 rfl rfl rfl (Nat.le_of_ble_eq_true rfl) (Nat.le_of_ble_eq_true rfl)
      · have hf := opt_neg c1 hf
        refine g_iload_n C 1 dX7_shareCount__12 rfl ?_
        refine g_iload C 4 dX7_shareCount__13 rfl ?_
        obtain ⟨v2, h3, hf⟩ := opt_bind hf
        refine g_callSN C (c_X10_ownerOf (l := x_l X) (D := x_D X) (cy := x_y X) (p0 := l4_5) h3) (As := [.int l4_5]) (rest := [.int p0]) (wr := (wSec (x_y X) a filled th ep rule cm vs es)) (ws' := fun _ => (wSec (x_y X) a filled th ep rule cm vs es)) (st' := fun _ => [.int v2, .int p0]) 1 mw_2_154 mw_1_1 mn_Secret_66 mw_2_153 hd_X10_ownerOf rfl (g_rm hR rfl rfl) [] [0, 1, 2, 3] [0, 1, 2, 3] ⟨rfl, rfl, rfl, rfl, by decide, gRoIn_0, rfl, fun _ => rfl⟩ rfl (Nat.le_of_ble_eq_true rfl) dX7_shareCount__15 (g_rc hR (Nat.le_of_ble_eq_true rfl) (Nat.le_of_ble_eq_true rfl)) (ck' := 0) (sk' := 0) rfl rfl (fun _ => rfl) (fun _ _ => ?_) (fun _ hx => absurd rfl hx)
        obtain ⟨v4, h5, hf⟩ := opt_bind hf
        refine g_callSN C (c_X10_contains (l := x_l X) (D := x_D X) (cy := x_y X) (p0 := p0) (p1 := v2) h5) (As := [.int p0, .int v2]) (rest := []) (wr := (wSec (x_y X) a filled th ep rule cm vs es)) (ws' := fun _ => (wSec (x_y X) a filled th ep rule cm vs es)) (st' := fun _ => [.int v4]) 2 mw_2_136 mw_1_1 mn_Secret_69 mw_2_135 hd_X10_contains rfl (g_rm hR rfl rfl) [] [0, 1, 2, 3] [0, 1, 2, 3] ⟨rfl, rfl, rfl, rfl, by decide, gRoIn_0, rfl, fun _ => rfl⟩ rfl (Nat.le_of_ble_eq_true rfl) dX7_shareCount__18 (g_rc hR (Nat.le_of_ble_eq_true rfl) (Nat.le_of_ble_eq_true rfl)) (ck' := 0) (sk' := 0) rfl rfl (fun _ => rfl) (fun _ _ => ?_) (fun _ hx => absurd rfl hx)
        refine g_if_eq C 46 dX7_shareCount__21 (by decide) (fun c6 => ?_) (fun c6 => ?_)
        · have hf := opt_pos c6 hf
          exact H46 l3_5 l4_5 hf
        · have hf := opt_neg c6 hf
          refine g_aload_n C 0 dX7_shareCount__24 rfl ?_
          refine g_iload C 4 dX7_shareCount__25 rfl ?_
          obtain ⟨v7, h8, hf⟩ := opt_bind hf
          refine g_callV C (c_X7_holds (l := x_l X) (D := x_D X) (cy := x_y X) (a := a) (filled := filled) (th := th) (ep := ep) (rule := rule) (cm := cm) (vs := vs) (es := es) (p0 := l4_5) h8) (As := [.int l4_5]) (rest := []) (wr := []) (ws' := fun _ => (wSec (x_y X) a filled th ep rule cm vs es)) (st' := fun _ => [.int v7]) (ci := 8) 1 0 ⟨_, rfl⟩ rfl rfl mw_2_159 mw_1_3 mw_2_156 mw_2_157 mw_2_158 hd_X7_holds rfl (g_rm hR rfl rfl) [0, 1, 2, 3] [] [0, 1, 2, 3] ⟨rfl, rfl, rfl, rfl, by decide, gRoIn_0, rfl, fun _ => rfl⟩ rfl (Nat.le_of_ble_eq_true rfl) dX7_shareCount__27 (g_rc hR (Nat.le_of_ble_eq_true rfl) (Nat.le_of_ble_eq_true rfl)) (ck' := 0) (sk' := 0) rfl rfl (fun _ => rfl) (fun _ _ => ?_) (fun _ hx => absurd rfl hx)
          refine g_if_eq C 46 dX7_shareCount__30 (by decide) (fun c9 => ?_) (fun c9 => ?_)
          · have hf := opt_pos c9 hf
            exact H46 l3_5 l4_5 hf
          · have hf := opt_neg c9 hf
            refine g_aload_n C 0 dX7_shareCount__33 rfl ?_
            refine g_iload C 4 dX7_shareCount__34 rfl ?_
            obtain ⟨v10, h11, hf⟩ := opt_bind hf
            refine g_callV C (c_X7_stateOf (l := x_l X) (D := x_D X) (cy := x_y X) (a := a) (filled := filled) (th := th) (ep := ep) (rule := rule) (cm := cm) (vs := vs) (es := es) (p0 := l4_5) h11) (As := [.int l4_5]) (rest := []) (wr := []) (ws' := fun _ => (wSec (x_y X) a filled th ep rule cm vs es)) (st' := fun _ => [.int v10]) (ci := 8) 1 0 ⟨_, rfl⟩ rfl rfl mw_2_167 mw_1_3 mw_2_164 mw_2_165 mw_2_166 hd_X7_stateOf rfl (g_rm hR rfl rfl) [0, 1, 2, 3] [] [0, 1, 2, 3] ⟨rfl, rfl, rfl, rfl, by decide, gRoIn_0, rfl, fun _ => rfl⟩ rfl (Nat.le_of_ble_eq_true rfl) dX7_shareCount__36 (g_rc hR (Nat.le_of_ble_eq_true rfl) (Nat.le_of_ble_eq_true rfl)) (ck' := 0) (sk' := 0) rfl rfl (fun _ => rfl) (fun _ _ => ?_) (fun _ hx => absurd rfl hx)
            refine g_iload_n C 2 dX7_shareCount__39 rfl ?_
            refine g_icmp_ne C 46 dX7_shareCount__40 (by decide) (fun c12 => ?_) (fun c12 => ?_)
            · have hf := opt_neg c12 hf
              exact H46 l3_5 l4_5 hf
            · have hf := opt_pos c12 hf
              refine g_iinc C 3 (v := l3_5 + 1) (lv' := [(3, .int (l3_5 + 1)), (0, .ref (a 0)), (1, .int p0), (2, .int p1), (4, .int l4_5)]) dX7_shareCount__43 rfl rfl (g_nlt hn rfl) rfl ?_
              refine gW.locals [1, 2, 3, 0, 4] rfl ?_
              exact H46 (l3_5 + 1) l4_5 hf
  show gW X Q 0 0 ((wSec (x_y X) a filled th ep rule cm vs es)) [(0, .ref (a 0)), (1, .int p0), (2, .int p1)] [] 0
  refine g_iconst C (v := 0) dX7_shareCount__0 (by decide) ?_
  refine g_istore_n C (lv' := [(3, .int 0), (0, .ref (a 0)), (1, .int p0), (2, .int p1)]) dX7_shareCount__1 (g_nlt hn rfl) rfl ?_
  refine g_iconst C (v := 1) dX7_shareCount__2 (by decide) ?_
  refine g_istore C (lv' := [(4, .int 1), (3, .int 0), (0, .ref (a 0)), (1, .int p0), (2, .int p1)]) dX7_shareCount__3 (g_nlt hn rfl) rfl ?_
  refine gW.locals [2, 3, 4, 1, 0] rfl ?_
  exact H5 1000 0 1 hf
/-! X7_allows -/
theorem hd_X7_allows : yX7_allows.cls ≠ "java/lang/invoke/MethodHandle" ∧ yX7_allows.cls ≠ "java/lang/invoke/VarHandle" ∧ (parseMethodDescriptor yX7_allows.desc).map (fun d => d.parameters.length) = some 1 := by decide +kernel
def F_X7_allows_L24   (s0_24 : Int32) : Option (Int32) := gg (gnar .boolean s0_24) (some s0_24)
def F_X7_allows_L19    : Option (Int32) := F_X7_allows_L24 1
def F_X7_allows (rule : Option Nat) (ful : Nat → Int32) (p0 : Int32) : Option (Int32) := if rule = none then (F_X7_allows_L19 ) else (gg (gi p0 256) (if (ful (Int32.toNatClampNeg p0)) = 0 then (F_X7_allows_L24 0) else (F_X7_allows_L19 )))
set_option maxRecDepth 100000 in
set_option maxHeartbeats 4000000 in
theorem c_X7_allows {l : Launch} {D : va_G} {cy : Nat → ClassId} {a : Nat → Nat} {q0 q1 t0 t1 : Nat} {filled : Int32} {th : Int32} {ep : Int32} {rule : Option Nat} {cm : Nat → Int32} {vs : Nat → Int32} {es : Nat → Int32} {pparts : Int32} {pnest : Int32} {pnamed : Int32} {ful : Nat → Int32} {hash : Int32} {hz : Int32} {tn : Nat} {tb : Nat → Int32} {p0 : Int32} (hpol : ¬ rule = none → rule = some q0) {val : Int32} (hf : F_X7_allows rule ful p0 = some val) : gCt l D cy yX7_allows cX7_allows 2 (some .boolean) 0 0 0 0 [.ref (a 0), .int p0] (gOpt rule ((wPo cy q0 q1 t0 t1 pparts pnest pnamed ful hash hz tn tb))) ((wSec cy a filled th ep rule cm vs es)) 0 (fun _ : Unit => some (.int val)) (fun _ => (wSec cy a filled th ep rule cm vs es)) := by
  refine g_begin (by decide +kernel) (Nat.le_of_ble_eq_true rfl) ?_
  intro X Q hl hR hD hy hro hn C hin E
  subst hl; subst hD; subst hy
  replace C : gC X "SecretVault$Secret" cX7_allows (some .boolean) := C
  unfold F_X7_allows at hf
  have H24 : ∀ (s0_24 : Int32), F_X7_allows_L24 s0_24 = some val → gW X Q 0 0 ((wSec (x_y X) a filled th ep rule cm vs es)) [(0, .ref (a 0)), (1, .int p0)] [.int s0_24] 24 := by
    intro s0_24 hf
    unfold F_X7_allows_L24 at hf
    obtain ⟨c2, hf⟩ := gg_of hf
    obtain rfl := Option.some.inj hf
    exact g_zret C E () (gnar_of c2) dX7_allows_24 rfl rfl rfl (Nat.le_of_ble_eq_true rfl) (Nat.le_of_ble_eq_true rfl)
  have H19 :  F_X7_allows_L19 = some val → gW X Q 0 0 ((wSec (x_y X) a filled th ep rule cm vs es)) [(0, .ref (a 0)), (1, .int p0)] [] 19 := by
    intro hf
    unfold F_X7_allows_L19 at hf
    refine g_iconst C (v := 1) dX7_allows_19 (by decide) ?_
    refine g_goto C 24 dX7_allows_20 (by decide) ?_
    exact H24 1 hf
  show gW X Q 0 0 ((wSec (x_y X) a filled th ep rule cm vs es)) [(0, .ref (a 0)), (1, .int p0)] [] 0
  refine g_aload_n C 0 dX7_allows_0 rfl ?_
  refine g_get C 0 4 rfl rfl wiX7 (by decide) mw_1_68 rfl rfl dX7_allows_1 ?_
  refine g_ifnull_rf C 19 dX7_allows_4 (by decide) (fun c1 => ?_) (fun c1 => ?_)
  · have hf := opt_pos c1 hf
    exact H19 hf
  · have hf := opt_neg c1 hf
    have hro := gOpt_some hro (hpol c1)
    refine g_aload_n C 0 dX7_allows_7 rfl ?_
    refine g_get C 0 4 rfl rfl wiX7 (by decide) mw_1_68 rfl rfl dX7_allows_8 ?_
    refine g_rfref (hpol c1) ?_
    refine g_getR C hro 0 4 rfl rfl wiX3 (by decide) mw_6_40 rfl rfl dX7_allows_11 ?_
    refine g_iload_n C 1 dX7_allows_14 rfl ?_
    obtain ⟨c3, hf⟩ := gg_of hf
    refine g_zaldR C hro 1 rfl (gi_in c3) dX7_allows_15 ?_
    refine g_if_eq C 23 dX7_allows_16 (by decide) (fun c4 => ?_) (fun c4 => ?_)
    · have hf := opt_pos c4 hf
      refine g_iconst C (v := 0) dX7_allows_23 (by decide) ?_
      exact H24 0 hf
    · have hf := opt_neg c4 hf
      exact H19 hf
/-! X7_valueThrough -/
theorem hd_X7_valueThrough : yX7_valueThrough.cls ≠ "java/lang/invoke/MethodHandle" ∧ yX7_valueThrough.cls ≠ "java/lang/invoke/VarHandle" ∧ (parseMethodDescriptor yX7_valueThrough.desc).map (fun d => d.parameters.length) = some 2 := by decide +kernel
def F_X7_valueThrough_L92  (K5 : Int32 → Int32 → Option (Int32)) (K31 : Int32 → Int32 → Int32 → Int32 → Int32 → Option (Int32)) (l3_92 : Int32) (l4_92 : Int32) (l5_92 : Int32) (l6_92 : Int32) (l7_92 : Int32) : Option (Int32) := K31 l3_92 l4_92 l5_92 l6_92 (l7_92 + 1)
def F_X7_valueThrough_L31 (th : Int32) (pa : Nat → Int32) (p1 : Int32) (K5 : Int32 → Int32 → Option (Int32)) : Nat → Int32 → Int32 → Int32 → Int32 → Int32 → Option (Int32)
  | 0, _, _, _, _, _ => none
  | n + 1, l3_31, l4_31, l5_31, l6_31, l7_31 => if th ≤ l7_31 then ((F_X2_inverse l6_31).bind fun v6 => gl ((l3_31 + (l5_31 * v6)) - (l3_31 + (l5_31 * v6)) / 1019 * 1019) fun x8 => K5 x8 (l4_31 + 1)) else (if l7_31 = l4_31 then (F_X7_valueThrough_L92 K5 (F_X7_valueThrough_L31 th pa p1 K5 n) l3_31 l4_31 l5_31 l6_31 l7_31) else (gg (gi l7_31 8) ((F_J9_floorMod_7cf53 (p1 - (pa (Int32.toNatClampNeg l7_31))) 1019).bind fun v11 => gl ((l5_31 * v11) - (l5_31 * v11) / 1019 * 1019) fun x13 => gg (gi l4_31 8) (gg (gi l7_31 8) ((F_J9_floorMod_7cf53 ((pa (Int32.toNatClampNeg l4_31)) - (pa (Int32.toNatClampNeg l7_31))) 1019).bind fun v16 => gl ((l6_31 * v16) - (l6_31 * v16) / 1019 * 1019) fun x18 => F_X7_valueThrough_L92 K5 (F_X7_valueThrough_L31 th pa p1 K5 n) l3_31 l4_31 x13 x18 l7_31)))))
def F_X7_valueThrough_L5 (th : Int32) (vs : Nat → Int32) (pa : Nat → Int32) (p1 : Int32)  : Nat → Int32 → Int32 → Option (Int32)
  | 0, _, _ => none
  | n + 1, l3_5, l4_5 => if th ≤ l4_5 then (some l3_5) else (gg (gi l4_5 8) (gg (gi (pa (Int32.toNatClampNeg l4_5)) 25) (gl (vs (Int32.toNatClampNeg (pa (Int32.toNatClampNeg l4_5)))) fun x4 => F_X7_valueThrough_L31 th pa p1 (F_X7_valueThrough_L5 th vs pa p1 n) 1000 l3_5 l4_5 x4 1 0)))
def F_X7_valueThrough (th : Int32) (vs : Nat → Int32) (pa : Nat → Int32) (p1 : Int32) : Option (Int32) := F_X7_valueThrough_L5 th vs pa p1 1000 0 0
set_option maxRecDepth 100000 in
set_option maxHeartbeats 4000000 in
theorem c_X7_valueThrough {l : Launch} {D : va_G} {cy : Nat → ClassId} {a : Nat → Nat} {ca : Nat} {filled : Int32} {th : Int32} {ep : Int32} {rule : Option Nat} {cm : Nat → Int32} {vs : Nat → Int32} {es : Nat → Int32} {pa : Nat → Int32} {p1 : Int32}  {val : Int32} (hf : F_X7_valueThrough th vs pa p1 = some val) : gCt l D cy yX7_valueThrough cX7_valueThrough 8 (some .int) 1 22 0 0 [.ref (a 0), .ref ca, .int p1] [] ((wSec cy a filled th ep rule cm vs es) ++ (wA8 cy ca pa)) 0 (fun _ : Unit => some (.int val)) (fun _ => (wSec cy a filled th ep rule cm vs es) ++ (wA8 cy ca pa)) := by
  refine g_begin (by decide +kernel) (Nat.le_of_ble_eq_true rfl) ?_
  intro X Q hl hR hD hy hro hn C hin E
  subst hl; subst hD; subst hy
  replace C : gC X "SecretVault$Secret" cX7_valueThrough (some .int) := C
  unfold F_X7_valueThrough at hf
  have H5 : ∀ (n5 : Nat), ∀ (l3_5 : Int32) (l4_5 : Int32), F_X7_valueThrough_L5 th vs pa p1 n5 l3_5 l4_5 = some val → gW X Q 0 0 ((wSec (x_y X) a filled th ep rule cm vs es) ++ (wA8 (x_y X) ca pa)) [(0, .ref (a 0)), (1, .ref ca), (2, .int p1), (3, .int l3_5), (4, .int l4_5)] [] 5 := by
    intro n5
    induction n5 with
    | zero => intros; rename_i hf; cases hf
    | succ n5 ih =>
      intro l3_5 l4_5 hf
      have H5 := ih
      rw [F_X7_valueThrough_L5] at hf
      have H31 : ∀ (n31 : Nat), ∀ (l3_31 : Int32) (l4_31 : Int32) (l5_31 : Int32) (l6_31 : Int32) (l7_31 : Int32), F_X7_valueThrough_L31 th pa p1 (F_X7_valueThrough_L5 th vs pa p1 n5) n31 l3_31 l4_31 l5_31 l6_31 l7_31 = some val → gW X Q 0 0 ((wSec (x_y X) a filled th ep rule cm vs es) ++ (wA8 (x_y X) ca pa)) [(0, .ref (a 0)), (1, .ref ca), (2, .int p1), (3, .int l3_31), (4, .int l4_31), (5, .int l5_31), (6, .int l6_31), (7, .int l7_31)] [] 31 := by
        intro n31
        induction n31 with
        | zero => intros; rename_i hf; cases hf
        | succ n31 ih =>
          intro l3_31 l4_31 l5_31 l6_31 l7_31 hf
          have H31 := ih
          rw [F_X7_valueThrough_L31] at hf
          have H92 : ∀ (l3_92 : Int32) (l4_92 : Int32) (l5_92 : Int32) (l6_92 : Int32) (l7_92 : Int32), F_X7_valueThrough_L92 (F_X7_valueThrough_L5 th vs pa p1 n5) (F_X7_valueThrough_L31 th pa p1 (F_X7_valueThrough_L5 th vs pa p1 n5) n31) l3_92 l4_92 l5_92 l6_92 l7_92 = some val → gW X Q 0 0 ((wSec (x_y X) a filled th ep rule cm vs es) ++ (wA8 (x_y X) ca pa)) [(0, .ref (a 0)), (1, .ref ca), (2, .int p1), (3, .int l3_92), (4, .int l4_92), (5, .int l5_92), (6, .int l6_92), (7, .int l7_92)] [] 92 := by
            intro l3_92 l4_92 l5_92 l6_92 l7_92 hf
            unfold F_X7_valueThrough_L92 at hf
            refine g_iinc C 7 (v := l7_92 + 1) (lv' := [(7, .int (l7_92 + 1)), (0, .ref (a 0)), (1, .ref ca), (2, .int p1), (3, .int l3_92), (4, .int l4_92), (5, .int l5_92), (6, .int l6_92)]) dX7_valueThrough_92 rfl rfl (g_nlt hn rfl) rfl ?_
            refine g_goto C 31 dX7_valueThrough_95 (by decide) ?_
            refine gW.locals [1, 2, 3, 4, 5, 6, 7, 0] rfl ?_
            exact H31 l3_92 l4_92 l5_92 l6_92 (l7_92 + 1) hf
          refine g_iload C 7 dX7_valueThrough_31 rfl ?_
          refine g_aload_n C 0 dX7_valueThrough_33 rfl ?_
          refine g_get C 0 1 rfl rfl wiX7 (by decide) mw_1_62 rfl rfl dX7_valueThrough_34 ?_
          refine g_icmp_ge C 98 dX7_valueThrough_37 (by decide) (fun c5 => ?_) (fun c5 => ?_)
          · have hf := opt_pos c5 hf
            refine g_iload_n C 3 dX7_valueThrough_98 rfl ?_
            refine g_iload C 5 dX7_valueThrough_99 rfl ?_
            refine g_iload C 6 dX7_valueThrough_101 rfl ?_
            obtain ⟨v6, h7, hf⟩ := opt_bind hf
            refine g_callS C (c_X2_inverse (l := x_l X) (D := x_D X) (cy := x_y X) (p0 := l6_31) h7) (As := [.int l6_31]) (rest := [.int l5_31, .int l3_31]) (wr := (wSec (x_y X) a filled th ep rule cm vs es) ++ (wA8 (x_y X) ca pa)) (ws' := fun _ => (wSec (x_y X) a filled th ep rule cm vs es) ++ (wA8 (x_y X) ca pa)) (st' := fun _ => [.int v6, .int l5_31, .int l3_31]) 1 mw_3_128 mw_1_16 mw_3_126 mw_3_127 hd_X2_inverse rfl (g_rm hR rfl rfl) [] [0, 1, 2, 3, 4] [0, 1, 2, 3, 4] ⟨rfl, rfl, rfl, rfl, by decide, gRoIn_0, rfl, fun _ => rfl⟩ rfl (Nat.le_of_ble_eq_true rfl) dX7_valueThrough_103 (g_rc hR (Nat.le_of_ble_eq_true rfl) (Nat.le_of_ble_eq_true rfl)) (ck' := 0) (sk' := 0) rfl rfl (fun _ => rfl) (fun _ _ => ?_) (fun _ hx => absurd rfl hx)
            refine g_imul C dX7_valueThrough_106 ?_
            refine g_iadd C dX7_valueThrough_107 ?_
            refine g_sipush C (v := 1019) dX7_valueThrough_108 (by decide) ?_
            refine g_irem C dX7_valueThrough_111 (by decide) ?_
            obtain ⟨x8, ex8, hf⟩ := opt_let hf
            refine g_topi ex8 ?_
            refine g_istore_n C (lv' := [(3, .int x8), (0, .ref (a 0)), (1, .ref ca), (2, .int p1), (4, .int l4_31), (5, .int l5_31), (6, .int l6_31), (7, .int l7_31)]) dX7_valueThrough_112 (g_nlt hn rfl) rfl ?_
            refine g_iinc C 4 (v := l4_31 + 1) (lv' := [(4, .int (l4_31 + 1)), (3, .int x8), (0, .ref (a 0)), (1, .ref ca), (2, .int p1), (5, .int l5_31), (6, .int l6_31), (7, .int l7_31)]) dX7_valueThrough_113 rfl rfl (g_nlt hn rfl) rfl ?_
            refine g_goto C 5 dX7_valueThrough_116 (by decide) ?_
            refine gW.locals [2, 3, 4, 1, 0] rfl ?_
            exact H5 x8 (l4_31 + 1) hf
          · have hf := opt_neg c5 hf
            refine g_iload C 7 dX7_valueThrough_40 rfl ?_
            refine g_iload C 4 dX7_valueThrough_42 rfl ?_
            refine g_icmp_eq C 92 dX7_valueThrough_44 (by decide) (fun c9 => ?_) (fun c9 => ?_)
            · have hf := opt_pos c9 hf
              exact H92 l3_31 l4_31 l5_31 l6_31 l7_31 hf
            · have hf := opt_neg c9 hf
              refine g_iload C 5 dX7_valueThrough_47 rfl ?_
              refine g_iload_n C 2 dX7_valueThrough_49 rfl ?_
              refine g_aload_n C 1 dX7_valueThrough_50 rfl ?_
              refine g_iload C 7 dX7_valueThrough_51 rfl ?_
              obtain ⟨c10, hf⟩ := gg_of hf
              refine g_iald C 4 rfl (gi_in c10) dX7_valueThrough_53 ?_
              refine g_isub C dX7_valueThrough_54 ?_
              refine g_sipush C (v := 1019) dX7_valueThrough_55 (by decide) ?_
              obtain ⟨v11, h12, hf⟩ := opt_bind hf
              refine g_callS C (c_J9_floorMod_7cf53 (l := x_l X) (D := x_D X) (cy := x_y X) (p0 := p1 - (pa (Int32.toNatClampNeg l7_31))) (p1 := 1019) h12) (As := [.int (p1 - (pa (Int32.toNatClampNeg l7_31))), .int 1019]) (rest := [.int l5_31]) (wr := (wSec (x_y X) a filled th ep rule cm vs es) ++ (wA8 (x_y X) ca pa)) (ws' := fun _ => (wSec (x_y X) a filled th ep rule cm vs es) ++ (wA8 (x_y X) ca pa)) (st' := fun _ => [.int v11, .int l5_31]) 2 mw_3_125 mw_1_18 mw_3_123 mw_3_124 hd_J9_floorMod_7cf53 rfl (g_rm hR rfl rfl) [] [0, 1, 2, 3, 4] [0, 1, 2, 3, 4] ⟨rfl, rfl, rfl, rfl, by decide, gRoIn_0, rfl, fun _ => rfl⟩ rfl (Nat.le_of_ble_eq_true rfl) dX7_valueThrough_58 (g_rc hR (Nat.le_of_ble_eq_true rfl) (Nat.le_of_ble_eq_true rfl)) (ck' := 0) (sk' := 0) rfl rfl (fun _ => rfl) (fun _ _ => ?_) (fun _ hx => absurd rfl hx)
              refine g_imul C dX7_valueThrough_61 ?_
              refine g_sipush C (v := 1019) dX7_valueThrough_62 (by decide) ?_
              refine g_irem C dX7_valueThrough_65 (by decide) ?_
              obtain ⟨x13, ex13, hf⟩ := opt_let hf
              refine g_topi ex13 ?_
              refine g_istore C (lv' := [(5, .int x13), (0, .ref (a 0)), (1, .ref ca), (2, .int p1), (3, .int l3_31), (4, .int l4_31), (6, .int l6_31), (7, .int l7_31)]) dX7_valueThrough_66 (g_nlt hn rfl) rfl ?_
              refine g_iload C 6 dX7_valueThrough_68 rfl ?_
              refine g_aload_n C 2 dX7_valueThrough_70 rfl ?_
              refine g_iload C 5 dX7_valueThrough_71 rfl ?_
              obtain ⟨c14, hf⟩ := gg_of hf
              refine g_iald C 4 rfl (gi_in c14) dX7_valueThrough_73 ?_
              refine g_aload_n C 2 dX7_valueThrough_74 rfl ?_
              refine g_iload C 7 dX7_valueThrough_75 rfl ?_
              obtain ⟨c15, hf⟩ := gg_of hf
              refine g_iald C 4 rfl (gi_in c15) dX7_valueThrough_77 ?_
              refine g_isub C dX7_valueThrough_78 ?_
              refine g_sipush C (v := 1019) dX7_valueThrough_79 (by decide) ?_
              obtain ⟨v16, h17, hf⟩ := opt_bind hf
              refine g_callS C (c_J9_floorMod_7cf53 (l := x_l X) (D := x_D X) (cy := x_y X) (p0 := (pa (Int32.toNatClampNeg l4_31)) - (pa (Int32.toNatClampNeg l7_31))) (p1 := 1019) h17) (As := [.int ((pa (Int32.toNatClampNeg l4_31)) - (pa (Int32.toNatClampNeg l7_31))), .int 1019]) (rest := [.int l6_31]) (wr := (wSec (x_y X) a filled th ep rule cm vs es) ++ (wA8 (x_y X) ca pa)) (ws' := fun _ => (wSec (x_y X) a filled th ep rule cm vs es) ++ (wA8 (x_y X) ca pa)) (st' := fun _ => [.int v16, .int l6_31]) 2 mw_3_125 mw_1_18 mw_3_123 mw_3_124 hd_J9_floorMod_7cf53 rfl (g_rm hR rfl rfl) [] [0, 1, 2, 3, 4] [0, 1, 2, 3, 4] ⟨rfl, rfl, rfl, rfl, by decide, gRoIn_0, rfl, fun _ => rfl⟩ rfl (Nat.le_of_ble_eq_true rfl) dX7_valueThrough_82 (g_rc hR (Nat.le_of_ble_eq_true rfl) (Nat.le_of_ble_eq_true rfl)) (ck' := 0) (sk' := 0) rfl rfl (fun _ => rfl) (fun _ _ => ?_) (fun _ hx => absurd rfl hx)
              refine g_imul C dX7_valueThrough_85 ?_
              refine g_sipush C (v := 1019) dX7_valueThrough_86 (by decide) ?_
              refine g_irem C dX7_valueThrough_89 (by decide) ?_
              obtain ⟨x18, ex18, hf⟩ := opt_let hf
              refine g_topi ex18 ?_
              refine g_istore C (lv' := [(6, .int x18), (5, .int x13), (0, .ref (a 0)), (1, .ref ca), (2, .int p1), (3, .int l3_31), (4, .int l4_31), (7, .int l7_31)]) dX7_valueThrough_90 (g_nlt hn rfl) rfl ?_
              refine gW.locals [2, 3, 4, 5, 6, 1, 0, 7] rfl ?_
              exact H92 l3_31 l4_31 x13 x18 l7_31 hf
      refine g_iload C 4 dX7_valueThrough_5 rfl ?_
      refine g_aload_n C 0 dX7_valueThrough_7 rfl ?_
      refine g_get C 0 1 rfl rfl wiX7 (by decide) mw_1_62 rfl rfl dX7_valueThrough_8 ?_
      refine g_icmp_ge C 119 dX7_valueThrough_11 (by decide) (fun c1 => ?_) (fun c1 => ?_)
      · have hf := opt_pos c1 hf
        refine g_iload_n C 3 dX7_valueThrough_119 rfl ?_
        obtain rfl := Option.some.inj hf
        exact g_iret C E () dX7_valueThrough_120 rfl rfl rfl (Nat.le_of_ble_eq_true rfl) (Nat.le_of_ble_eq_true rfl)
      · have hf := opt_neg c1 hf
        refine g_aload_n C 0 dX7_valueThrough_14 rfl ?_
        refine g_get C 0 5 rfl rfl wiX7 (by decide) mw_1_70 rfl rfl dX7_valueThrough_15 ?_
        refine g_aload_n C 1 dX7_valueThrough_18 rfl ?_
        refine g_iload C 4 dX7_valueThrough_19 rfl ?_
        obtain ⟨c2, hf⟩ := gg_of hf
        refine g_iald C 4 rfl (gi_in c2) dX7_valueThrough_21 ?_
        obtain ⟨c3, hf⟩ := gg_of hf
        refine g_iald C 2 rfl (gi_in c3) dX7_valueThrough_22 ?_
        obtain ⟨x4, ex4, hf⟩ := opt_let hf
        refine g_topi ex4 ?_
        refine g_istore C (lv' := [(5, .int x4), (0, .ref (a 0)), (1, .ref ca), (2, .int p1), (3, .int l3_5), (4, .int l4_5)]) dX7_valueThrough_23 (g_nlt hn rfl) rfl ?_
        refine g_iconst C (v := 1) dX7_valueThrough_25 (by decide) ?_
        refine g_istore C (lv' := [(6, .int 1), (5, .int x4), (0, .ref (a 0)), (1, .ref ca), (2, .int p1), (3, .int l3_5), (4, .int l4_5)]) dX7_valueThrough_26 (g_nlt hn rfl) rfl ?_
        refine g_iconst C (v := 0) dX7_valueThrough_28 (by decide) ?_
        refine g_istore C (lv' := [(7, .int 0), (6, .int 1), (5, .int x4), (0, .ref (a 0)), (1, .ref ca), (2, .int p1), (3, .int l3_5), (4, .int l4_5)]) dX7_valueThrough_29 (g_nlt hn rfl) rfl ?_
        refine gW.locals [3, 4, 5, 6, 7, 2, 1, 0] rfl ?_
        exact H31 1000 l3_5 l4_5 x4 1 0 hf
  show gW X Q 0 0 ((wSec (x_y X) a filled th ep rule cm vs es) ++ (wA8 (x_y X) ca pa)) [(0, .ref (a 0)), (1, .ref ca), (2, .int p1)] [] 0
  refine g_iconst C (v := 0) dX7_valueThrough_0 (by decide) ?_
  refine g_istore_n C (lv' := [(3, .int 0), (0, .ref (a 0)), (1, .ref ca), (2, .int p1)]) dX7_valueThrough_1 (g_nlt hn rfl) rfl ?_
  refine g_iconst C (v := 0) dX7_valueThrough_2 (by decide) ?_
  refine g_istore C (lv' := [(4, .int 0), (3, .int 0), (0, .ref (a 0)), (1, .ref ca), (2, .int p1)]) dX7_valueThrough_3 (g_nlt hn rfl) rfl ?_
  refine gW.locals [2, 3, 4, 1, 0] rfl ?_
  exact H5 1000 0 0 hf
/-! X9_nextNumber -/
theorem hd_X9_nextNumber : yX9_nextNumber.cls ≠ "java/lang/invoke/MethodHandle" ∧ yX9_nextNumber.cls ≠ "java/lang/invoke/VarHandle" ∧ (parseMethodDescriptor yX9_nextNumber.desc).map (fun d => d.parameters.length) = some 0 := by decide +kernel
def F_X9_nextNumber (z : Int32) : Option (Int32 × Int32) := gl (((Int32.toUInt32 ((z * 1103515245) + 12345) >>> (Int32.toUInt32 16 &&& Int32.toUInt32 31)).toInt32) - ((Int32.toUInt32 ((z * 1103515245) + 12345) >>> (Int32.toUInt32 16 &&& Int32.toUInt32 31)).toInt32) / 1019 * 1019) fun x1 => some (x1, (z * 1103515245) + 12345)
set_option maxRecDepth 100000 in
set_option maxHeartbeats 4000000 in
theorem c_X9_nextNumber {l : Launch} {D : va_G} {cy : Nat → ClassId} {a : Nat → Nat} {z : Int32} {pr : Int32} {le : Int32} {ec : Int32} {wt : Nat → Int32} {sa : Nat → Option Nat} {ev : Nat → Int32}   {val : Int32 × Int32} (hf : F_X9_nextNumber z = some val) : gCt l D cy yX9_nextNumber cX9_nextNumber 1 (some .int) 0 0 0 0 [.ref (a 0)] [] ((wSt cy a z pr le ec wt sa ev)) 0 (fun _ : Unit => some (.int val.1)) (fun _ => (wSt cy a val.2 pr le ec wt sa ev)) := by
  refine g_begin (by decide +kernel) (Nat.le_of_ble_eq_true rfl) ?_
  intro X Q hl hR hD hy hro hn C hin E
  subst hl; subst hD; subst hy
  replace C : gC X "SecretVault$State" cX9_nextNumber (some .int) := C
  unfold F_X9_nextNumber at hf
  show gW X Q 0 0 ((wSt (x_y X) a z pr le ec wt sa ev)) [(0, .ref (a 0))] [] 0
  refine g_aload_n C 0 dX9_nextNumber_0 rfl ?_
  refine g_aload_n C 0 dX9_nextNumber_1 rfl ?_
  refine g_get C 0 0 rfl rfl wiX9 (by decide) mw_1_90 rfl rfl dX9_nextNumber_2 ?_
  refine g_ldc C mw_1_218 dX9_nextNumber_5 ?_
  refine g_imul C dX9_nextNumber_7 ?_
  refine g_sipush C (v := 12345) dX9_nextNumber_8 (by decide) ?_
  refine g_iadd C dX9_nextNumber_11 ?_
  refine g_put C (ws' := (wSt (x_y X) a ((z * 1103515245) + 12345) pr le ec wt sa ev)) 0 0 rfl rfl wiX9 (by decide) tyX9_ok nmX9 mw_1_90 rfl rfl rfl rfl (Nat.le_of_ble_eq_true rfl) rfl dX9_nextNumber_12 ?_
  refine g_aload_n C 0 dX9_nextNumber_15 rfl ?_
  refine g_get C 0 0 rfl rfl wiX9 (by decide) mw_1_90 rfl rfl dX9_nextNumber_16 ?_
  refine g_bipush C (v := 16) dX9_nextNumber_19 (by decide) ?_
  refine g_iushr C dX9_nextNumber_21 ?_
  refine g_sipush C (v := 1019) dX9_nextNumber_22 (by decide) ?_
  refine g_irem C dX9_nextNumber_25 (by decide) ?_
  obtain ⟨x1, ex1, hf⟩ := opt_let hf
  refine g_topi ex1 ?_
  obtain rfl := Option.some.inj hf
  exact g_iret C E () dX9_nextNumber_26 rfl rfl rfl (Nat.le_of_ble_eq_true rfl) (Nat.le_of_ble_eq_true rfl)
/-! X9_note -/
theorem hd_X9_note : yX9_note.cls ≠ "java/lang/invoke/MethodHandle" ∧ yX9_note.cls ≠ "java/lang/invoke/VarHandle" ∧ (parseMethodDescriptor yX9_note.desc).map (fun d => d.parameters.length) = some 1 := by decide +kernel
def F_X9_note (le : Int32) (ec : Int32) (ev : Nat → Int32) (p0 : Int32) : Option (Int32 × Int32 × (Nat → Int32)) := gg (gi ((le + 1) - (le + 1) / 20 * 20) 20) (gl (upd ev (Int32.toNatClampNeg ((le + 1) - (le + 1) / 20 * 20)) p0) fun f2 => (F_J9_min_7cf53 (ec + 1) 20).bind fun v3 => some ((le + 1) - (le + 1) / 20 * 20, v3, f2))
set_option maxRecDepth 100000 in
set_option maxHeartbeats 4000000 in
theorem c_X9_note {l : Launch} {D : va_G} {cy : Nat → ClassId} {a : Nat → Nat} {z : Int32} {pr : Int32} {le : Int32} {ec : Int32} {wt : Nat → Int32} {sa : Nat → Option Nat} {ev : Nat → Int32} {p0 : Int32}  {val : Int32 × Int32 × (Nat → Int32)} (hf : F_X9_note le ec ev p0 = some val) : gCt l D cy yX9_note cX9_note 2 none 1 21 0 0 [.ref (a 0), .int p0] [] ((wSt cy a z pr le ec wt sa ev)) 0 (fun _ : Unit => none) (fun _ => (wSt cy a z pr val.1 val.2.1 wt sa val.2.2)) := by
  refine g_begin (by decide +kernel) (Nat.le_of_ble_eq_true rfl) ?_
  intro X Q hl hR hD hy hro hn C hin E
  subst hl; subst hD; subst hy
  replace C : gC X "SecretVault$State" cX9_note none := C
  unfold F_X9_note at hf
  show gW X Q 0 0 ((wSt (x_y X) a z pr le ec wt sa ev)) [(0, .ref (a 0)), (1, .int p0)] [] 0
  refine g_aload_n C 0 dX9_note_0 rfl ?_
  refine g_aload_n C 0 dX9_note_1 rfl ?_
  refine g_get C 0 5 rfl rfl wiX9 (by decide) mw_1_100 rfl rfl dX9_note_2 ?_
  refine g_iconst C (v := 1) dX9_note_5 (by decide) ?_
  refine g_iadd C dX9_note_6 ?_
  refine g_bipush C (v := 20) dX9_note_7 (by decide) ?_
  refine g_irem C dX9_note_9 (by decide) ?_
  refine g_put C (ws' := (wSt (x_y X) a z pr ((le + 1) - (le + 1) / 20 * 20) ec wt sa ev)) 0 5 rfl rfl wiX9 (by decide) tyX9_ok nmX9 mw_1_100 rfl rfl rfl rfl (Nat.le_of_ble_eq_true rfl) rfl dX9_note_10 ?_
  refine g_aload_n C 0 dX9_note_13 rfl ?_
  refine g_get C 0 4 rfl rfl wiX9 (by decide) mw_1_98 rfl rfl dX9_note_14 ?_
  refine g_aload_n C 0 dX9_note_17 rfl ?_
  refine g_get C 0 5 rfl rfl wiX9 (by decide) mw_1_100 rfl rfl dX9_note_18 ?_
  refine g_iload_n C 1 dX9_note_21 rfl ?_
  obtain ⟨c1, hf⟩ := gg_of hf
  obtain ⟨f2, ef2, hf⟩ := opt_let hf
  refine g_iast C (ws' := (wSt (x_y X) a z pr ((le + 1) - (le + 1) / 20 * 20) ec wt sa f2)) 3 rfl (gi_in c1) (by rw [ef2]; rfl) dX9_note_22 ?_
  refine g_aload_n C 0 dX9_note_23 rfl ?_
  refine g_aload_n C 0 dX9_note_24 rfl ?_
  refine g_get C 0 6 rfl rfl wiX9 (by decide) mw_1_102 rfl rfl dX9_note_25 ?_
  refine g_iconst C (v := 1) dX9_note_28 (by decide) ?_
  refine g_iadd C dX9_note_29 ?_
  refine g_bipush C (v := 20) dX9_note_30 (by decide) ?_
  obtain ⟨v3, h4, hf⟩ := opt_bind hf
  refine g_callS C (c_J9_min_7cf53 (l := x_l X) (D := x_D X) (cy := x_y X) (p0 := ec + 1) (p1 := 20) h4) (As := [.int (ec + 1), .int 20]) (rest := [.ref (a 0)]) (wr := (wSt (x_y X) a z pr ((le + 1) - (le + 1) / 20 * 20) ec wt sa f2)) (ws' := fun _ => (wSt (x_y X) a z pr ((le + 1) - (le + 1) / 20 * 20) ec wt sa f2)) (st' := fun _ => [.int v3, .ref (a 0)]) 2 mw_3_22 mw_1_18 mw_3_20 mw_3_21 hd_J9_min_7cf53 rfl (g_rm hR rfl rfl) [] [0, 1, 2, 3] [0, 1, 2, 3] ⟨rfl, rfl, rfl, rfl, by decide, gRoIn_0, rfl, fun _ => rfl⟩ rfl (Nat.le_of_ble_eq_true rfl) dX9_note_32 (g_rc hR (Nat.le_of_ble_eq_true rfl) (Nat.le_of_ble_eq_true rfl)) (ck' := 0) (sk' := 0) rfl rfl (fun _ => rfl) (fun _ _ => ?_) (fun _ hx => absurd rfl hx)
  refine g_put C (ws' := (wSt (x_y X) a z pr ((le + 1) - (le + 1) / 20 * 20) v3 wt sa f2)) 0 6 rfl rfl wiX9 (by decide) tyX9_ok nmX9 mw_1_102 rfl rfl rfl rfl (Nat.le_of_ble_eq_true rfl) rfl dX9_note_35 ?_
  obtain rfl := Option.some.inj hf
  exact g_vret C E () dX9_note_38 rfl rfl rfl (Nat.le_of_ble_eq_true rfl) (Nat.le_of_ble_eq_true rfl)
/-! X9_isDealtTo -/
theorem hd_X9_isDealtTo : yX9_isDealtTo.cls ≠ "java/lang/invoke/MethodHandle" ∧ yX9_isDealtTo.cls ≠ "java/lang/invoke/VarHandle" ∧ (parseMethodDescriptor yX9_isDealtTo.desc).map (fun d => d.parameters.length) = some 1 := by decide +kernel
def F_X9_isDealtTo_L36   (s0_36 : Int32) : Option (Int32) := gg (gnar .boolean s0_36) (some s0_36)
def F_X9_isDealtTo_L35    : Option (Int32) := F_X9_isDealtTo_L36 0
def F_X9_isDealtTo (pr : Int32) (wt : Nat → Int32) (p0 : Int32) : Option (Int32) := (F_X10_ownerOf p0).bind fun v1 => (F_X10_contains pr v1).bind fun v3 => if v3 = 0 then (F_X9_isDealtTo_L35 ) else ((F_X10_firstPlace v1).bind fun v7 => gg (gi v1 8) (if (wt (Int32.toNatClampNeg v1)) ≤ (p0 - v7) then (F_X9_isDealtTo_L35 ) else (F_X9_isDealtTo_L36 1)))
set_option maxRecDepth 100000 in
set_option maxHeartbeats 4000000 in
theorem c_X9_isDealtTo {l : Launch} {D : va_G} {cy : Nat → ClassId} {a : Nat → Nat} {z : Int32} {pr : Int32} {le : Int32} {ec : Int32} {wt : Nat → Int32} {sa : Nat → Option Nat} {ev : Nat → Int32} {p0 : Int32}  {val : Int32} (hf : F_X9_isDealtTo pr wt p0 = some val) : gCt l D cy yX9_isDealtTo cX9_isDealtTo 3 (some .boolean) 1 21 0 0 [.ref (a 0), .int p0] [] ((wSt cy a z pr le ec wt sa ev)) 0 (fun _ : Unit => some (.int val)) (fun _ => (wSt cy a z pr le ec wt sa ev)) := by
  refine g_begin (by decide +kernel) (Nat.le_of_ble_eq_true rfl) ?_
  intro X Q hl hR hD hy hro hn C hin E
  subst hl; subst hD; subst hy
  replace C : gC X "SecretVault$State" cX9_isDealtTo (some .boolean) := C
  unfold F_X9_isDealtTo at hf
  have H36 : ∀ (s0_36 : Int32), F_X9_isDealtTo_L36 s0_36 = some val → gW X Q 0 0 ((wSt (x_y X) a z pr le ec wt sa ev)) [(0, .ref (a 0)), (1, .int p0)] [.int s0_36] 36 := by
    intro s0_36 hf
    unfold F_X9_isDealtTo_L36 at hf
    obtain ⟨c6, hf⟩ := gg_of hf
    obtain rfl := Option.some.inj hf
    exact g_zret C E () (gnar_of c6) dX9_isDealtTo_36 rfl rfl rfl (Nat.le_of_ble_eq_true rfl) (Nat.le_of_ble_eq_true rfl)
  have H35 :  F_X9_isDealtTo_L35 = some val → gW X Q 0 0 ((wSt (x_y X) a z pr le ec wt sa ev)) [(0, .ref (a 0)), (1, .int p0)] [] 35 := by
    intro hf
    unfold F_X9_isDealtTo_L35 at hf
    refine g_iconst C (v := 0) dX9_isDealtTo_35 (by decide) ?_
    exact H36 0 hf
  show gW X Q 0 0 ((wSt (x_y X) a z pr le ec wt sa ev)) [(0, .ref (a 0)), (1, .int p0)] [] 0
  refine g_iload_n C 1 dX9_isDealtTo_0 rfl ?_
  obtain ⟨v1, h2, hf⟩ := opt_bind hf
  refine g_callSN C (c_X10_ownerOf (l := x_l X) (D := x_D X) (cy := x_y X) (p0 := p0) h2) (As := [.int p0]) (rest := []) (wr := (wSt (x_y X) a z pr le ec wt sa ev)) (ws' := fun _ => (wSt (x_y X) a z pr le ec wt sa ev)) (st' := fun _ => [.int v1]) 1 mw_2_154 mw_1_1 mn_State_55 mw_2_153 hd_X10_ownerOf rfl (g_rm hR rfl rfl) [] [0, 1, 2, 3] [0, 1, 2, 3] ⟨rfl, rfl, rfl, rfl, by decide, gRoIn_0, rfl, fun _ => rfl⟩ rfl (Nat.le_of_ble_eq_true rfl) dX9_isDealtTo_1 (g_rc hR (Nat.le_of_ble_eq_true rfl) (Nat.le_of_ble_eq_true rfl)) (ck' := 0) (sk' := 0) rfl rfl (fun _ => rfl) (fun _ _ => ?_) (fun _ hx => absurd rfl hx)
  refine g_istore_n C (lv' := [(2, .int v1), (0, .ref (a 0)), (1, .int p0)]) dX9_isDealtTo_4 (g_nlt hn rfl) rfl ?_
  refine g_aload_n C 1 dX9_isDealtTo_5 rfl ?_
  refine g_get C 0 2 rfl rfl wiX9 (by decide) mw_1_94 rfl rfl dX9_isDealtTo_6 ?_
  refine g_iload_n C 0 dX9_isDealtTo_9 rfl ?_
  obtain ⟨v3, h4, hf⟩ := opt_bind hf
  refine g_callSN C (c_X10_contains (l := x_l X) (D := x_D X) (cy := x_y X) (p0 := pr) (p1 := v1) h4) (As := [.int pr, .int v1]) (rest := []) (wr := (wSt (x_y X) a z pr le ec wt sa ev)) (ws' := fun _ => (wSt (x_y X) a z pr le ec wt sa ev)) (st' := fun _ => [.int v3]) 2 mw_2_136 mw_1_1 mn_State_59 mw_2_135 hd_X10_contains rfl (g_rm hR rfl rfl) [] [0, 1, 2, 3] [0, 1, 2, 3] ⟨rfl, rfl, rfl, rfl, by decide, gRoIn_0, rfl, fun _ => rfl⟩ rfl (Nat.le_of_ble_eq_true rfl) dX9_isDealtTo_10 (g_rc hR (Nat.le_of_ble_eq_true rfl) (Nat.le_of_ble_eq_true rfl)) (ck' := 0) (sk' := 0) rfl rfl (fun _ => rfl) (fun _ _ => ?_) (fun _ hx => absurd rfl hx)
  refine g_if_eq C 35 dX9_isDealtTo_13 (by decide) (fun c5 => ?_) (fun c5 => ?_)
  · have hf := opt_pos c5 hf
    refine gW.locals [1, 2] rfl ?_
    exact H35 hf
  · have hf := opt_neg c5 hf
    refine g_iload_n C 2 dX9_isDealtTo_16 rfl ?_
    refine g_iload_n C 0 dX9_isDealtTo_17 rfl ?_
    obtain ⟨v7, h8, hf⟩ := opt_bind hf
    refine g_callSN C (c_X10_firstPlace (l := x_l X) (D := x_D X) (cy := x_y X) (p0 := v1) h8) (As := [.int v1]) (rest := [.int p0]) (wr := (wSt (x_y X) a z pr le ec wt sa ev)) (ws' := fun _ => (wSt (x_y X) a z pr le ec wt sa ev)) (st' := fun _ => [.int v7, .int p0]) 1 mw_3_8 mw_1_1 mn_State_63 mw_3_7 hd_X10_firstPlace rfl (g_rm hR rfl rfl) [] [0, 1, 2, 3] [0, 1, 2, 3] ⟨rfl, rfl, rfl, rfl, by decide, gRoIn_0, rfl, fun _ => rfl⟩ rfl (Nat.le_of_ble_eq_true rfl) dX9_isDealtTo_18 (g_rc hR (Nat.le_of_ble_eq_true rfl) (Nat.le_of_ble_eq_true rfl)) (ck' := 0) (sk' := 0) rfl rfl (fun _ => rfl) (fun _ _ => ?_) (fun _ hx => absurd rfl hx)
    refine g_isub C dX9_isDealtTo_21 ?_
    refine g_aload_n C 1 dX9_isDealtTo_22 rfl ?_
    refine g_get C 0 1 rfl rfl wiX9 (by decide) mw_1_92 rfl rfl dX9_isDealtTo_23 ?_
    refine g_iload_n C 0 dX9_isDealtTo_26 rfl ?_
    obtain ⟨c9, hf⟩ := gg_of hf
    refine g_iald C 1 rfl (gi_in c9) dX9_isDealtTo_27 ?_
    refine g_icmp_ge C 35 dX9_isDealtTo_28 (by decide) (fun c10 => ?_) (fun c10 => ?_)
    · have hf := opt_pos c10 hf
      refine gW.locals [1, 2] rfl ?_
      exact H35 hf
    · have hf := opt_neg c10 hf
      refine g_iconst C (v := 1) dX9_isDealtTo_31 (by decide) ?_
      refine g_goto C 36 dX9_isDealtTo_32 (by decide) ?_
      refine gW.locals [1, 2] rfl ?_
      exact H36 1 hf
/-! X9_dealtPlaces -/
theorem hd_X9_dealtPlaces : yX9_dealtPlaces.cls ≠ "java/lang/invoke/MethodHandle" ∧ yX9_dealtPlaces.cls ≠ "java/lang/invoke/VarHandle" ∧ (parseMethodDescriptor yX9_dealtPlaces.desc).map (fun d => d.parameters.length) = some 0 := by decide +kernel
def F_X9_dealtPlaces_L32  (K4 : Int32 → Int32 → Option (Int32)) (l2_32 : Int32) (s0_32 : Int32) (s1_32 : Int32) : Option (Int32) := K4 (s1_32 + s0_32) (l2_32 + 1)
def F_X9_dealtPlaces_L4 (pr : Int32) (wt : Nat → Int32)  : Nat → Int32 → Int32 → Option (Int32)
  | 0, _, _ => none
  | n + 1, l1_4, l2_4 => if 8 ≤ l2_4 then (some l1_4) else ((F_X10_contains pr l2_4).bind fun v2 => if v2 = 0 then (F_X9_dealtPlaces_L32 (F_X9_dealtPlaces_L4 pr wt n) l2_4 0 l1_4) else (gg (gi l2_4 8) (F_X9_dealtPlaces_L32 (F_X9_dealtPlaces_L4 pr wt n) l2_4 (wt (Int32.toNatClampNeg l2_4)) l1_4)))
def F_X9_dealtPlaces (pr : Int32) (wt : Nat → Int32) : Option (Int32) := F_X9_dealtPlaces_L4 pr wt 1000 0 0
set_option maxRecDepth 100000 in
set_option maxHeartbeats 4000000 in
theorem c_X9_dealtPlaces {l : Launch} {D : va_G} {cy : Nat → ClassId} {a : Nat → Nat} {z : Int32} {pr : Int32} {le : Int32} {ec : Int32} {wt : Nat → Int32} {sa : Nat → Option Nat} {ev : Nat → Int32}   {val : Int32} (hf : F_X9_dealtPlaces pr wt = some val) : gCt l D cy yX9_dealtPlaces cX9_dealtPlaces 3 (some .int) 1 21 0 0 [.ref (a 0)] [] ((wSt cy a z pr le ec wt sa ev)) 0 (fun _ : Unit => some (.int val)) (fun _ => (wSt cy a z pr le ec wt sa ev)) := by
  refine g_begin (by decide +kernel) (Nat.le_of_ble_eq_true rfl) ?_
  intro X Q hl hR hD hy hro hn C hin E
  subst hl; subst hD; subst hy
  replace C : gC X "SecretVault$State" cX9_dealtPlaces (some .int) := C
  unfold F_X9_dealtPlaces at hf
  have H4 : ∀ (n4 : Nat), ∀ (l1_4 : Int32) (l2_4 : Int32), F_X9_dealtPlaces_L4 pr wt n4 l1_4 l2_4 = some val → gW X Q 0 0 ((wSt (x_y X) a z pr le ec wt sa ev)) [(0, .ref (a 0)), (1, .int l1_4), (2, .int l2_4)] [] 4 := by
    intro n4
    induction n4 with
    | zero => intros; rename_i hf; cases hf
    | succ n4 ih =>
      intro l1_4 l2_4 hf
      have H4 := ih
      rw [F_X9_dealtPlaces_L4] at hf
      have H32 : ∀ (l2_32 : Int32) (s0_32 : Int32) (s1_32 : Int32), F_X9_dealtPlaces_L32 (F_X9_dealtPlaces_L4 pr wt n4) l2_32 s0_32 s1_32 = some val → gW X Q 0 0 ((wSt (x_y X) a z pr le ec wt sa ev)) [(0, .ref (a 0)), (2, .int l2_32)] [.int s0_32, .int s1_32] 32 := by
        intro l2_32 s0_32 s1_32 hf
        unfold F_X9_dealtPlaces_L32 at hf
        refine g_iadd C dX9_dealtPlaces_32 ?_
        refine g_istore_n C (lv' := [(1, .int (s1_32 + s0_32)), (0, .ref (a 0)), (2, .int l2_32)]) dX9_dealtPlaces_33 (g_nlt hn rfl) rfl ?_
        refine g_iinc C 2 (v := l2_32 + 1) (lv' := [(2, .int (l2_32 + 1)), (1, .int (s1_32 + s0_32)), (0, .ref (a 0))]) dX9_dealtPlaces_34 rfl rfl (g_nlt hn rfl) rfl ?_
        refine g_goto C 4 dX9_dealtPlaces_37 (by decide) ?_
        refine gW.locals [2, 1, 0] rfl ?_
        exact H4 (s1_32 + s0_32) (l2_32 + 1) hf
      refine g_iload_n C 2 dX9_dealtPlaces_4 rfl ?_
      refine g_bipush C (v := 8) dX9_dealtPlaces_5 (by decide) ?_
      refine g_icmp_ge C 40 dX9_dealtPlaces_7 (by decide) (fun c1 => ?_) (fun c1 => ?_)
      · have hf := opt_pos c1 hf
        refine g_iload_n C 1 dX9_dealtPlaces_40 rfl ?_
        obtain rfl := Option.some.inj hf
        exact g_iret C E () dX9_dealtPlaces_41 rfl rfl rfl (Nat.le_of_ble_eq_true rfl) (Nat.le_of_ble_eq_true rfl)
      · have hf := opt_neg c1 hf
        refine g_iload_n C 1 dX9_dealtPlaces_10 rfl ?_
        refine g_aload_n C 0 dX9_dealtPlaces_11 rfl ?_
        refine g_get C 0 2 rfl rfl wiX9 (by decide) mw_1_94 rfl rfl dX9_dealtPlaces_12 ?_
        refine g_iload_n C 2 dX9_dealtPlaces_15 rfl ?_
        obtain ⟨v2, h3, hf⟩ := opt_bind hf
        refine g_callSN C (c_X10_contains (l := x_l X) (D := x_D X) (cy := x_y X) (p0 := pr) (p1 := l2_4) h3) (As := [.int pr, .int l2_4]) (rest := [.int l1_4]) (wr := (wSt (x_y X) a z pr le ec wt sa ev)) (ws' := fun _ => (wSt (x_y X) a z pr le ec wt sa ev)) (st' := fun _ => [.int v2, .int l1_4]) 2 mw_2_136 mw_1_1 mn_State_59 mw_2_135 hd_X10_contains rfl (g_rm hR rfl rfl) [] [0, 1, 2, 3] [0, 1, 2, 3] ⟨rfl, rfl, rfl, rfl, by decide, gRoIn_0, rfl, fun _ => rfl⟩ rfl (Nat.le_of_ble_eq_true rfl) dX9_dealtPlaces_16 (g_rc hR (Nat.le_of_ble_eq_true rfl) (Nat.le_of_ble_eq_true rfl)) (ck' := 0) (sk' := 0) rfl rfl (fun _ => rfl) (fun _ _ => ?_) (fun _ hx => absurd rfl hx)
        refine g_if_eq C 31 dX9_dealtPlaces_19 (by decide) (fun c4 => ?_) (fun c4 => ?_)
        · have hf := opt_pos c4 hf
          refine g_iconst C (v := 0) dX9_dealtPlaces_31 (by decide) ?_
          refine gW.locals [0, 2] rfl ?_
          exact H32 l2_4 0 l1_4 hf
        · have hf := opt_neg c4 hf
          refine g_aload_n C 0 dX9_dealtPlaces_22 rfl ?_
          refine g_get C 0 1 rfl rfl wiX9 (by decide) mw_1_92 rfl rfl dX9_dealtPlaces_23 ?_
          refine g_iload_n C 2 dX9_dealtPlaces_26 rfl ?_
          obtain ⟨c5, hf⟩ := gg_of hf
          refine g_iald C 1 rfl (gi_in c5) dX9_dealtPlaces_27 ?_
          refine g_goto C 32 dX9_dealtPlaces_28 (by decide) ?_
          refine gW.locals [0, 2] rfl ?_
          exact H32 l2_4 (wt (Int32.toNatClampNeg l2_4)) l1_4 hf
  show gW X Q 0 0 ((wSt (x_y X) a z pr le ec wt sa ev)) [(0, .ref (a 0))] [] 0
  refine g_iconst C (v := 0) dX9_dealtPlaces_0 (by decide) ?_
  refine g_istore_n C (lv' := [(1, .int 0), (0, .ref (a 0))]) dX9_dealtPlaces_1 (g_nlt hn rfl) rfl ?_
  refine g_iconst C (v := 0) dX9_dealtPlaces_2 (by decide) ?_
  refine g_istore_n C (lv' := [(2, .int 0), (1, .int 0), (0, .ref (a 0))]) dX9_dealtPlaces_3 (g_nlt hn rfl) rfl ?_
  refine gW.locals [2, 1, 0] rfl ?_
  exact H4 1000 0 0 hf
