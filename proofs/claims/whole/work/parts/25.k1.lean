theorem wiX8 : ∀ w ∈ u_ws RX8 TX8 6, w ∈ gBW := List.forall_mem_cons.mpr ⟨mw_5_62, List.forall_mem_cons.mpr ⟨mw_5_64, List.forall_mem_cons.mpr ⟨mw_5_66, List.forall_mem_cons.mpr ⟨mw_5_68, List.forall_mem_cons.mpr ⟨mw_5_70, List.forall_mem_cons.mpr ⟨mw_5_72, fun _ h => nomatch h⟩⟩⟩⟩⟩⟩
theorem wiX4 : ∀ w ∈ u_ws RX4 TX4 4, w ∈ gBW := List.forall_mem_cons.mpr ⟨mw_5_147, List.forall_mem_cons.mpr ⟨mw_5_149, List.forall_mem_cons.mpr ⟨mw_5_151, List.forall_mem_cons.mpr ⟨mw_5_153, fun _ h => nomatch h⟩⟩⟩⟩
theorem wiX1 : ∀ w ∈ u_ws RX1 TX1 6, w ∈ gBW := List.forall_mem_cons.mpr ⟨mw_5_216, List.forall_mem_cons.mpr ⟨mw_5_218, List.forall_mem_cons.mpr ⟨mw_5_220, List.forall_mem_cons.mpr ⟨mw_5_222, List.forall_mem_cons.mpr ⟨mw_5_224, List.forall_mem_cons.mpr ⟨mw_5_226, fun _ h => nomatch h⟩⟩⟩⟩⟩⟩
/-! X8_init -/
theorem hd_X8_init : yX8_init.cls ≠ "java/lang/invoke/MethodHandle" ∧ yX8_init.cls ≠ "java/lang/invoke/VarHandle" ∧ (parseMethodDescriptor yX8_init.desc).map (fun d => d.parameters.length) = some 1 := by decide +kernel
def F_X8_init  : Option (Int32 × Int32 × Int32 × Int32 × Int32) := some (0, (-1), 0, 0, 0)
set_option maxRecDepth 100000 in
set_option maxHeartbeats 4000000 in
theorem c_X8_init {l : Launch} {D : va_G} {cy : Nat → ClassId} {r0 : Nat}  {p0 : Nat}  {val : Int32 × Int32 × Int32 × Int32 × Int32} (hf : F_X8_init  = some val) : gCt l D cy yX8_init cX8_init 2 none 1 12 0 0 [.ref r0, .ref p0] [] ([(r0, .inr (9, [.null, .int 0, .int 0, .int 0, .int 0, .int 0]))]) 0 (fun _ : Unit => none) (fun _ => (wSR cy r0 p0 val.1 val.2.1 val.2.2.1 val.2.2.2.1 val.2.2.2.2)) := by
  refine g_begin (by decide +kernel) (Nat.le_of_ble_eq_true rfl) ?_
  intro X Q hl hR hD hy hro hn C hin E
  subst hl; subst hD; subst hy
  replace C : gC X "SecretVault$ShareReader" cX8_init none := C
  unfold F_X8_init at hf
  show gW X Q 0 0 ([(r0, .inr (9, [.null, .int 0, .int 0, .int 0, .int 0, .int 0]))]) [(0, .ref r0), (1, .ref p0)] [] 0
  refine g_aload_n C 0 dX8_init_0 rfl ?_
  refine g_objInit C mw_5_52 mw_1_44 gw_obj (g_tn hR rfl rfl) dX8_init_1 ?_
  refine g_aload_n C 0 dX8_init_4 rfl ?_
  refine g_aload_n C 1 dX8_init_5 rfl ?_
  refine g_putF C (ws' := [(r0, .inr (9, [.ref p0, .int 0, .int 0, .int 0, .int 0, .int 0]))]) 0 0 rfl rfl wiX8 (by decide) tyX8_ok nmX8 mw_5_53 rfl rfl (hin rfl) rfl rfl rfl (Nat.le_of_ble_eq_true rfl) rfl dX8_init_6 ?_
  refine g_aload_n C 0 dX8_init_9 rfl ?_
  refine g_iconst C (v := (-1)) dX8_init_10 (by decide) ?_
  refine g_put C (ws' := [(r0, .inr (9, [.ref p0, .int 0, .int (-1), .int 0, .int 0, .int 0]))]) 0 2 rfl rfl wiX8 (by decide) tyX8_ok nmX8 mw_5_55 rfl rfl rfl rfl (Nat.le_of_ble_eq_true rfl) rfl dX8_init_11 ?_
  refine g_eqw (ws' := (wSR (x_y X) r0 p0 0 (-1) 0 0 0)) rfl ?_
  obtain rfl := Option.some.inj hf
  exact g_vret C E () dX8_init_14 rfl rfl rfl (Nat.le_of_ble_eq_true rfl) (Nat.le_of_ble_eq_true rfl)
/-! X8_isDigitAt -/
theorem hd_X8_isDigitAt : yX8_isDigitAt.cls ≠ "java/lang/invoke/MethodHandle" ∧ yX8_isDigitAt.cls ≠ "java/lang/invoke/VarHandle" ∧ (parseMethodDescriptor yX8_isDigitAt.desc).map (fun d => d.parameters.length) = some 1 := by decide +kernel
def F_X8_isDigitAt_L42   (s0_42 : Int32) : Option (Int32) := gg (gnar .boolean s0_42) (some s0_42)
def F_X8_isDigitAt_L41    : Option (Int32) := F_X8_isDigitAt_L42 0
def F_X8_isDigitAt (tn : Nat) (tb : Nat → Int32) (p0 : Int32) : Option (Int32) := (F_J0_length_8abf5 tn).bind fun v1 => if v1 ≤ p0 then (F_X8_isDigitAt_L41 ) else ((F_J0_charAt_5068e tn tb p0).bind fun v5 => if v5 < 48 then (F_X8_isDigitAt_L41 ) else ((F_J0_charAt_5068e tn tb p0).bind fun v8 => if 57 < v8 then (F_X8_isDigitAt_L41 ) else (F_X8_isDigitAt_L42 1)))
set_option maxRecDepth 100000 in
set_option maxHeartbeats 4000000 in
theorem c_X8_isDigitAt {l : Launch} {D : va_G} {cy : Nat → ClassId} {r0 : Nat} {t0 t1 : Nat} {nx : Int32} {er : Int32} {rp : Int32} {rv : Int32} {re : Int32} {hash : Int32} {hz : Int32} {tn : Nat} {tb : Nat → Int32} {p0 : Int32}  {val : Int32} (hf : F_X8_isDigitAt tn tb p0 = some val) : gCt l D cy yX8_isDigitAt cX8_isDigitAt 2 (some .boolean) 4 85 0 0 [.ref r0, .int p0] (wStr cy t0 t1 hash hz tn tb) ((wSR cy r0 t0 nx er rp rv re)) 0 (fun _ : Unit => some (.int val)) (fun _ => (wSR cy r0 t0 nx er rp rv re)) := by
  refine g_begin (by decide +kernel) (Nat.le_of_ble_eq_true rfl) ?_
  intro X Q hl hR hD hy hro hn C hin E
  subst hl; subst hD; subst hy
  replace C : gC X "SecretVault$ShareReader" cX8_isDigitAt (some .boolean) := C
  unfold F_X8_isDigitAt at hf
  have H42 : ∀ (s0_42 : Int32), F_X8_isDigitAt_L42 s0_42 = some val → gW X Q 0 0 ((wSR (x_y X) r0 t0 nx er rp rv re)) [(0, .ref r0), (1, .int p0)] [.int s0_42] 42 := by
    intro s0_42 hf
    unfold F_X8_isDigitAt_L42 at hf
    refine g_eqw (ws' := (wSR (x_y X) r0 t0 nx er rp rv re)) rfl ?_
    obtain ⟨c4, hf⟩ := gg_of hf
    obtain rfl := Option.some.inj hf
    exact g_zret C E () (gnar_of c4) dX8_isDigitAt_42 rfl rfl rfl (Nat.le_of_ble_eq_true rfl) (Nat.le_of_ble_eq_true rfl)
  have H41 :  F_X8_isDigitAt_L41 = some val → gW X Q 0 0 ((wSR (x_y X) r0 t0 nx er rp rv re)) [(0, .ref r0), (1, .int p0)] [] 41 := by
    intro hf
    unfold F_X8_isDigitAt_L41 at hf
    refine g_iconst C (v := 0) dX8_isDigitAt_41 (by decide) ?_
    exact H42 0 hf
  show gW X Q 0 0 ((wSR (x_y X) r0 t0 nx er rp rv re)) [(0, .ref r0), (1, .int p0)] [] 0
  refine g_iload_n C 1 dX8_isDigitAt_0 rfl ?_
  refine g_aload_n C 0 dX8_isDigitAt_1 rfl ?_
  refine g_get C 0 0 rfl rfl wiX8 (by decide) mw_5_53 rfl rfl dX8_isDigitAt_2 ?_
  obtain ⟨v1, h2, hf⟩ := opt_bind hf
  refine g_callV C (c_J0_length_8abf5 (l := x_l X) (D := x_D X) (cy := x_y X) (t0 := t0) (t1 := t1) (hash := hash) (hz := hz) (tn := tn) (tb := tb) h2) (As := []) (rest := [.int p0]) (wr := (wSR (x_y X) r0 t0 nx er rp rv re)) (ws' := fun _ => (wSR (x_y X) r0 t0 nx er rp rv re)) (st' := fun _ => [.int v1, .int p0]) (ci := 0) 0 1 ⟨_, by rw [hro]; rfl⟩ rfl rfl mw_4_75 mw_1_6 mw_5_87 mw_4_73 mw_4_74 hd_J0_length_8abf5 rfl (g_rm hR rfl rfl) [] [0] [0] ⟨rfl, rfl, rfl, rfl, by decide, gRoIn_p [1, 2] (by rw [hro]; rfl) (by decide), rfl, fun _ => rfl⟩ rfl (Nat.le_of_ble_eq_true rfl) dX8_isDigitAt_5 (g_rc hR (Nat.le_of_ble_eq_true rfl) (Nat.le_of_ble_eq_true rfl)) (ck' := 0) (sk' := 0) rfl rfl (fun _ => rfl) (fun _ _ => ?_) (fun _ hx => absurd rfl hx)
  refine g_icmp_ge C 41 dX8_isDigitAt_8 (by decide) (fun c3 => ?_) (fun c3 => ?_)
  · have hf := opt_pos c3 hf
    exact H41 hf
  · have hf := opt_neg c3 hf
    refine g_aload_n C 0 dX8_isDigitAt_11 rfl ?_
    refine g_get C 0 0 rfl rfl wiX8 (by decide) mw_5_53 rfl rfl dX8_isDigitAt_12 ?_
    refine g_iload_n C 1 dX8_isDigitAt_15 rfl ?_
    obtain ⟨v5, h6, hf⟩ := opt_bind hf
    refine g_callV C (c_J0_charAt_5068e (l := x_l X) (D := x_D X) (cy := x_y X) (t0 := t0) (t1 := t1) (hash := hash) (hz := hz) (tn := tn) (tb := tb) (p0 := p0) h6) (As := [.int p0]) (rest := []) (wr := (wSR (x_y X) r0 t0 nx er rp rv re)) (ws' := fun _ => (wSR (x_y X) r0 t0 nx er rp rv re)) (st' := fun _ => [.int v5]) (ci := 0) 1 1 ⟨_, by rw [hro]; rfl⟩ rfl rfl mw_5_91 mw_1_6 mw_5_88 mw_5_89 mw_5_90 hd_J0_charAt_5068e rfl (g_rm hR rfl rfl) [] [0] [0] ⟨rfl, rfl, rfl, rfl, by decide, gRoIn_p [1, 2] (by rw [hro]; rfl) (by decide), rfl, fun _ => rfl⟩ rfl (Nat.le_of_ble_eq_true rfl) dX8_isDigitAt_16 (g_rc hR (Nat.le_of_ble_eq_true rfl) (Nat.le_of_ble_eq_true rfl)) (ck' := 0) (sk' := 0) rfl rfl (fun _ => rfl) (fun _ _ => ?_) (fun _ hx => absurd rfl hx)
    refine g_bipush C (v := 48) dX8_isDigitAt_19 (by decide) ?_
    refine g_icmp_lt C 41 dX8_isDigitAt_21 (by decide) (fun c7 => ?_) (fun c7 => ?_)
    · have hf := opt_pos c7 hf
      exact H41 hf
    · have hf := opt_neg c7 hf
      refine g_aload_n C 0 dX8_isDigitAt_24 rfl ?_
      refine g_get C 0 0 rfl rfl wiX8 (by decide) mw_5_53 rfl rfl dX8_isDigitAt_25 ?_
      refine g_iload_n C 1 dX8_isDigitAt_28 rfl ?_
      obtain ⟨v8, h9, hf⟩ := opt_bind hf
      refine g_callV C (c_J0_charAt_5068e (l := x_l X) (D := x_D X) (cy := x_y X) (t0 := t0) (t1 := t1) (hash := hash) (hz := hz) (tn := tn) (tb := tb) (p0 := p0) h9) (As := [.int p0]) (rest := []) (wr := (wSR (x_y X) r0 t0 nx er rp rv re)) (ws' := fun _ => (wSR (x_y X) r0 t0 nx er rp rv re)) (st' := fun _ => [.int v8]) (ci := 0) 1 1 ⟨_, by rw [hro]; rfl⟩ rfl rfl mw_5_91 mw_1_6 mw_5_88 mw_5_89 mw_5_90 hd_J0_charAt_5068e rfl (g_rm hR rfl rfl) [] [0] [0] ⟨rfl, rfl, rfl, rfl, by decide, gRoIn_p [1, 2] (by rw [hro]; rfl) (by decide), rfl, fun _ => rfl⟩ rfl (Nat.le_of_ble_eq_true rfl) dX8_isDigitAt_29 (g_rc hR (Nat.le_of_ble_eq_true rfl) (Nat.le_of_ble_eq_true rfl)) (ck' := 0) (sk' := 0) rfl rfl (fun _ => rfl) (fun _ _ => ?_) (fun _ hx => absurd rfl hx)
      refine g_bipush C (v := 57) dX8_isDigitAt_32 (by decide) ?_
      refine g_icmp_gt C 41 dX8_isDigitAt_34 (by decide) (fun c10 => ?_) (fun c10 => ?_)
      · have hf := opt_pos c10 hf
        exact H41 hf
      · have hf := opt_neg c10 hf
        refine g_iconst C (v := 1) dX8_isDigitAt_37 (by decide) ?_
        refine g_goto C 42 dX8_isDigitAt_38 (by decide) ?_
        exact H42 1 hf
/-! X8_readNumber -/
theorem hd_X8_readNumber : yX8_readNumber.cls ≠ "java/lang/invoke/MethodHandle" ∧ yX8_readNumber.cls ≠ "java/lang/invoke/VarHandle" ∧ (parseMethodDescriptor yX8_readNumber.desc).map (fun d => d.parameters.length) = some 2 := by decide +kernel
def F_X8_readNumber_L111   (nx_111 : Int32) (er_111 : Int32) (l4_111 : Int32) : Option (Int32 × Int32 × Int32) := some (l4_111, nx_111, er_111)
def F_X8_readNumber_L106   (nx_106 : Int32) (er_106 : Int32) (l3_106 : Int32) (l4_106 : Int32) : Option (Int32 × Int32 × Int32) := F_X8_readNumber_L111 nx_106 l3_106 l4_106
def F_X8_readNumber_L86 (p0 : Int32) (p1 : Int32)  (nx_86 : Int32) (er_86 : Int32) (l3_86 : Int32) (l4_86 : Int32) : Option (Int32 × Int32 × Int32) := if nx_86 = l3_86 then (F_X8_readNumber_L106 nx_86 er_86 l3_86 l4_86) else (if l4_86 < p0 then (F_X8_readNumber_L106 nx_86 er_86 l3_86 l4_86) else (if l4_86 ≤ p1 then (F_X8_readNumber_L111 nx_86 er_86 l4_86) else (F_X8_readNumber_L106 nx_86 er_86 l3_86 l4_86)))
def F_X8_readNumber_L51 (tn : Nat) (tb : Nat → Int32) (K17 : Int32 → Int32 → Int32 → Int32 → Option (Int32 × Int32 × Int32)) (nx_51 : Int32) (er_51 : Int32) (l3_51 : Int32) (l4_51 : Int32) : Option (Int32 × Int32 × Int32) := (F_J0_charAt_5068e tn tb nx_51).bind fun v10 => gl (((10 : Int32) * l4_51) + (v10 - 48)) fun x12 => K17 (nx_51 + 1) er_51 l3_51 x12
def F_X8_readNumber_L17 (tn : Nat) (tb : Nat → Int32) (p0 : Int32) (p1 : Int32)  : Nat → Int32 → Int32 → Int32 → Int32 → Option (Int32 × Int32 × Int32)
  | 0, _, _, _, _ => none
  | n + 1, nx_17, er_17, l3_17, l4_17 => if (l3_17 + 4) ≤ nx_17 then (F_X8_readNumber_L86 p0 p1 nx_17 er_17 l3_17 l4_17) else ((F_X8_isDigitAt tn tb nx_17).bind fun v6 => if v6 = 0 then (F_X8_readNumber_L86 p0 p1 nx_17 er_17 l3_17 l4_17) else (if nx_17 = l3_17 then (F_X8_readNumber_L51 tn tb (F_X8_readNumber_L17 tn tb p0 p1 n) nx_17 er_17 l3_17 l4_17) else (if l4_17 = 0 then (F_X8_readNumber_L86 p0 p1 nx_17 er_17 l3_17 l4_17) else (F_X8_readNumber_L51 tn tb (F_X8_readNumber_L17 tn tb p0 p1 n) nx_17 er_17 l3_17 l4_17))))
def F_X8_readNumber (nx : Int32) (er : Int32) (tn : Nat) (tb : Nat → Int32) (p0 : Int32) (p1 : Int32) : Option (Int32 × Int32 × Int32) := if er < 0 then (F_X8_readNumber_L17 tn tb p0 p1 1000 nx er nx 0) else (some (0, nx, er))
set_option maxRecDepth 100000 in
set_option maxHeartbeats 4000000 in
theorem c_X8_readNumber {l : Launch} {D : va_G} {cy : Nat → ClassId} {r0 : Nat} {t0 t1 : Nat} {nx : Int32} {er : Int32} {rp : Int32} {rv : Int32} {re : Int32} {hash : Int32} {hz : Int32} {tn : Nat} {tb : Nat → Int32} {p0 : Int32} {p1 : Int32}  {val : Int32 × Int32 × Int32} (hf : F_X8_readNumber nx er tn tb p0 p1 = some val) : gCt l D cy yX8_readNumber cX8_readNumber 5 (some .int) 5 106 0 0 [.ref r0, .int p0, .int p1] (wStr cy t0 t1 hash hz tn tb) ((wSR cy r0 t0 nx er rp rv re)) 0 (fun _ : Unit => some (.int val.1)) (fun _ => (wSR cy r0 t0 val.2.1 val.2.2 rp rv re)) := by
  refine g_begin (by decide +kernel) (Nat.le_of_ble_eq_true rfl) ?_
  intro X Q hl hR hD hy hro hn C hin E
  subst hl; subst hD; subst hy
  replace C : gC X "SecretVault$ShareReader" cX8_readNumber (some .int) := C
  unfold F_X8_readNumber at hf
  have H111 : ∀ (nx_111 : Int32) (er_111 : Int32) (l4_111 : Int32), F_X8_readNumber_L111 nx_111 er_111 l4_111 = some val → gW X Q 0 0 ((wSR (x_y X) r0 t0 nx_111 er_111 rp rv re)) [(0, .ref r0), (1, .int p0), (2, .int p1), (4, .int l4_111)] [] 111 := by
    intro nx_111 er_111 l4_111 hf
    unfold F_X8_readNumber_L111 at hf
    refine g_iload C 3 dX8_readNumber_111 rfl ?_
    refine g_eqw (ws' := (wSR (x_y X) r0 t0 nx_111 er_111 rp rv re)) rfl ?_
    obtain rfl := Option.some.inj hf
    exact g_iret C E () dX8_readNumber_113 rfl rfl rfl (Nat.le_of_ble_eq_true rfl) (Nat.le_of_ble_eq_true rfl)
  have H106 : ∀ (nx_106 : Int32) (er_106 : Int32) (l3_106 : Int32) (l4_106 : Int32), F_X8_readNumber_L106 nx_106 er_106 l3_106 l4_106 = some val → gW X Q 0 0 ((wSR (x_y X) r0 t0 nx_106 er_106 rp rv re)) [(0, .ref r0), (1, .int p0), (2, .int p1), (3, .int l3_106), (4, .int l4_106)] [] 106 := by
    intro nx_106 er_106 l3_106 l4_106 hf
    unfold F_X8_readNumber_L106 at hf
    refine g_aload_n C 0 dX8_readNumber_106 rfl ?_
    refine g_iload_n C 3 dX8_readNumber_107 rfl ?_
    refine g_put C (ws' := (wSR (x_y X) r0 t0 nx_106 l3_106 rp rv re)) 0 2 rfl rfl wiX8 (by decide) tyX8_ok nmX8 mw_5_55 rfl rfl rfl rfl (Nat.le_of_ble_eq_true rfl) rfl dX8_readNumber_108 ?_
    refine gW.locals [0, 1, 2, 4] rfl ?_
    exact H111 nx_106 l3_106 l4_106 hf
  have H86 : ∀ (nx_86 : Int32) (er_86 : Int32) (l3_86 : Int32) (l4_86 : Int32), F_X8_readNumber_L86 p0 p1 nx_86 er_86 l3_86 l4_86 = some val → gW X Q 0 0 ((wSR (x_y X) r0 t0 nx_86 er_86 rp rv re)) [(0, .ref r0), (1, .int p0), (2, .int p1), (3, .int l3_86), (4, .int l4_86)] [] 86 := by
    intro nx_86 er_86 l3_86 l4_86 hf
    unfold F_X8_readNumber_L86 at hf
    refine g_aload_n C 0 dX8_readNumber_86 rfl ?_
    refine g_get C 0 1 rfl rfl wiX8 (by decide) mw_5_54 rfl rfl dX8_readNumber_87 ?_
    refine g_iload_n C 3 dX8_readNumber_90 rfl ?_
    refine g_icmp_eq C 106 dX8_readNumber_91 (by decide) (fun c3 => ?_) (fun c3 => ?_)
    · have hf := opt_pos c3 hf
      exact H106 nx_86 er_86 l3_86 l4_86 hf
    · have hf := opt_neg c3 hf
      refine g_iload C 4 dX8_readNumber_94 rfl ?_
      refine g_iload_n C 1 dX8_readNumber_96 rfl ?_
      refine g_icmp_lt C 106 dX8_readNumber_97 (by decide) (fun c4 => ?_) (fun c4 => ?_)
      · have hf := opt_pos c4 hf
        exact H106 nx_86 er_86 l3_86 l4_86 hf
      · have hf := opt_neg c4 hf
        refine g_iload C 4 dX8_readNumber_100 rfl ?_
        refine g_iload_n C 2 dX8_readNumber_102 rfl ?_
        refine g_icmp_le C 111 dX8_readNumber_103 (by decide) (fun c5 => ?_) (fun c5 => ?_)
        · have hf := opt_pos c5 hf
          refine gW.locals [0, 1, 2, 4] rfl ?_
          exact H111 nx_86 er_86 l4_86 hf
        · have hf := opt_neg c5 hf
          exact H106 nx_86 er_86 l3_86 l4_86 hf
  have H17 : ∀ (n17 : Nat), ∀ (nx_17 : Int32) (er_17 : Int32) (l3_17 : Int32) (l4_17 : Int32), F_X8_readNumber_L17 tn tb p0 p1 n17 nx_17 er_17 l3_17 l4_17 = some val → gW X Q 0 0 ((wSR (x_y X) r0 t0 nx_17 er_17 rp rv re)) [(0, .ref r0), (1, .int p0), (2, .int p1), (3, .int l3_17), (4, .int l4_17)] [] 17 := by
    intro n17
    induction n17 with
    | zero => intros; rename_i hf; cases hf
    | succ n17 ih =>
      intro nx_17 er_17 l3_17 l4_17 hf
      have H17 := ih
      rw [F_X8_readNumber_L17] at hf
      have H51 : ∀ (nx_51 : Int32) (er_51 : Int32) (l3_51 : Int32) (l4_51 : Int32), F_X8_readNumber_L51 tn tb (F_X8_readNumber_L17 tn tb p0 p1 n17) nx_51 er_51 l3_51 l4_51 = some val → gW X Q 0 0 ((wSR (x_y X) r0 t0 nx_51 er_51 rp rv re)) [(0, .ref r0), (1, .int p0), (2, .int p1), (3, .int l3_51), (4, .int l4_51)] [] 51 := by
        intro nx_51 er_51 l3_51 l4_51 hf
        unfold F_X8_readNumber_L51 at hf
        refine g_bipush C (v := 10) dX8_readNumber_51 (by decide) ?_
        refine g_iload C 4 dX8_readNumber_53 rfl ?_
        refine g_imul C dX8_readNumber_55 ?_
        refine g_aload_n C 0 dX8_readNumber_56 rfl ?_
        refine g_get C 0 0 rfl rfl wiX8 (by decide) mw_5_53 rfl rfl dX8_readNumber_57 ?_
        refine g_aload_n C 0 dX8_readNumber_60 rfl ?_
        refine g_get C 0 1 rfl rfl wiX8 (by decide) mw_5_54 rfl rfl dX8_readNumber_61 ?_
        obtain ⟨v10, h11, hf⟩ := opt_bind hf
        refine g_callV C (c_J0_charAt_5068e (l := x_l X) (D := x_D X) (cy := x_y X) (t0 := t0) (t1 := t1) (hash := hash) (hz := hz) (tn := tn) (tb := tb) (p0 := nx_51) h11) (As := [.int nx_51]) (rest := [.int ((10 : Int32) * l4_51)]) (wr := (wSR (x_y X) r0 t0 nx_51 er_51 rp rv re)) (ws' := fun _ => (wSR (x_y X) r0 t0 nx_51 er_51 rp rv re)) (st' := fun _ => [.int v10, .int ((10 : Int32) * l4_51)]) (ci := 0) 1 1 ⟨_, by rw [hro]; rfl⟩ rfl rfl mw_5_91 mw_1_6 mw_5_88 mw_5_89 mw_5_90 hd_J0_charAt_5068e rfl (g_rm hR rfl rfl) [] [0] [0] ⟨rfl, rfl, rfl, rfl, by decide, gRoIn_p [1, 2] (by rw [hro]; rfl) (by decide), rfl, fun _ => rfl⟩ rfl (Nat.le_of_ble_eq_true rfl) dX8_readNumber_64 (g_rc hR (Nat.le_of_ble_eq_true rfl) (Nat.le_of_ble_eq_true rfl)) (ck' := 0) (sk' := 0) rfl rfl (fun _ => rfl) (fun _ _ => ?_) (fun _ hx => absurd rfl hx)
        refine g_bipush C (v := 48) dX8_readNumber_67 (by decide) ?_
        refine g_isub C dX8_readNumber_69 ?_
        refine g_iadd C dX8_readNumber_70 ?_
        obtain ⟨x12, ex12, hf⟩ := opt_let hf
        refine g_topi ex12 ?_
        refine g_istore C (lv' := [(4, .int x12), (0, .ref r0), (1, .int p0), (2, .int p1), (3, .int l3_51)]) dX8_readNumber_71 (g_nlt hn rfl) rfl ?_
        refine g_aload_n C 1 dX8_readNumber_73 rfl ?_
        refine g_dup C dX8_readNumber_74 rfl ?_
        refine g_get C 0 1 rfl rfl wiX8 (by decide) mw_5_54 rfl rfl dX8_readNumber_75 ?_
        refine g_iconst C (v := 1) dX8_readNumber_78 (by decide) ?_
        refine g_iadd C dX8_readNumber_79 ?_
        refine g_put C (ws' := (wSR (x_y X) r0 t0 (nx_51 + 1) er_51 rp rv re)) 0 1 rfl rfl wiX8 (by decide) tyX8_ok nmX8 mw_5_54 rfl rfl rfl rfl (Nat.le_of_ble_eq_true rfl) rfl dX8_readNumber_80 ?_
        refine g_goto C 17 dX8_readNumber_83 (by decide) ?_
        refine gW.locals [1, 2, 3, 4, 0] rfl ?_
        exact H17 (nx_51 + 1) er_51 l3_51 x12 hf
      refine g_aload_n C 0 dX8_readNumber_17 rfl ?_
      refine g_get C 0 1 rfl rfl wiX8 (by decide) mw_5_54 rfl rfl dX8_readNumber_18 ?_
      refine g_iload_n C 3 dX8_readNumber_21 rfl ?_
      refine g_iconst C (v := 4) dX8_readNumber_22 (by decide) ?_
      refine g_iadd C dX8_readNumber_23 ?_
      refine g_icmp_ge C 86 dX8_readNumber_24 (by decide) (fun c2 => ?_) (fun c2 => ?_)
      · have hf := opt_pos c2 hf
        exact H86 nx_17 er_17 l3_17 l4_17 hf
      · have hf := opt_neg c2 hf
        refine g_aload_n C 0 dX8_readNumber_27 rfl ?_
        refine g_aload_n C 0 dX8_readNumber_28 rfl ?_
        refine g_get C 0 1 rfl rfl wiX8 (by decide) mw_5_54 rfl rfl dX8_readNumber_29 ?_
        obtain ⟨v6, h7, hf⟩ := opt_bind hf
        refine g_callV C (c_X8_isDigitAt (l := x_l X) (D := x_D X) (cy := x_y X) (r0 := r0) (t0 := t0) (t1 := t1) (nx := nx_17) (er := er_17) (rp := rp) (rv := rv) (re := re) (hash := hash) (hz := hz) (tn := tn) (tb := tb) (p0 := nx_17) h7) (As := [.int nx_17]) (rest := []) (wr := []) (ws' := fun _ => (wSR (x_y X) r0 t0 nx_17 er_17 rp rv re)) (st' := fun _ => [.int v6]) (ci := 9) 1 0 ⟨_, rfl⟩ rfl rfl mw_5_86 mw_1_29 mw_5_83 mw_5_85 mp_14 hd_X8_isDigitAt rfl (g_rm hR rfl rfl) [0] [] [0] ⟨rfl, rfl, rfl, rfl, by decide, gRoIn_p [1, 2] (by rw [hro]; rfl) (by decide), rfl, fun _ => rfl⟩ rfl (Nat.le_of_ble_eq_true rfl) dX8_readNumber_32 (g_rc hR (Nat.le_of_ble_eq_true rfl) (Nat.le_of_ble_eq_true rfl)) (ck' := 0) (sk' := 0) rfl rfl (fun _ => rfl) (fun _ _ => ?_) (fun _ hx => absurd rfl hx)
        refine g_if_eq C 86 dX8_readNumber_35 (by decide) (fun c8 => ?_) (fun c8 => ?_)
        · have hf := opt_pos c8 hf
          exact H86 nx_17 er_17 l3_17 l4_17 hf
        · have hf := opt_neg c8 hf
          refine g_aload_n C 0 dX8_readNumber_38 rfl ?_
          refine g_get C 0 1 rfl rfl wiX8 (by decide) mw_5_54 rfl rfl dX8_readNumber_39 ?_
          refine g_iload_n C 3 dX8_readNumber_42 rfl ?_
          refine g_icmp_eq C 51 dX8_readNumber_43 (by decide) (fun c9 => ?_) (fun c9 => ?_)
          · have hf := opt_pos c9 hf
            exact H51 nx_17 er_17 l3_17 l4_17 hf
          · have hf := opt_neg c9 hf
            refine g_iload C 4 dX8_readNumber_46 rfl ?_
            refine g_if_eq C 86 dX8_readNumber_48 (by decide) (fun c13 => ?_) (fun c13 => ?_)
            · have hf := opt_pos c13 hf
              exact H86 nx_17 er_17 l3_17 l4_17 hf
            · have hf := opt_neg c13 hf
              exact H51 nx_17 er_17 l3_17 l4_17 hf
  show gW X Q 0 0 ((wSR (x_y X) r0 t0 nx er rp rv re)) [(0, .ref r0), (1, .int p0), (2, .int p1)] [] 0
  refine g_aload_n C 0 dX8_readNumber_0 rfl ?_
  refine g_get C 0 2 rfl rfl wiX8 (by decide) mw_5_55 rfl rfl dX8_readNumber_1 ?_
  refine g_if_lt C 9 dX8_readNumber_4 (by decide) (fun c1 => ?_) (fun c1 => ?_)
  · have hf := opt_pos c1 hf
    refine g_aload_n C 0 dX8_readNumber_9 rfl ?_
    refine g_get C 0 1 rfl rfl wiX8 (by decide) mw_5_54 rfl rfl dX8_readNumber_10 ?_
    refine g_istore_n C (lv' := [(3, .int nx), (0, .ref r0), (1, .int p0), (2, .int p1)]) dX8_readNumber_13 (g_nlt hn rfl) rfl ?_
    refine g_iconst C (v := 0) dX8_readNumber_14 (by decide) ?_
    refine g_istore C (lv' := [(4, .int 0), (3, .int nx), (0, .ref r0), (1, .int p0), (2, .int p1)]) dX8_readNumber_15 (g_nlt hn rfl) rfl ?_
    refine gW.locals [2, 3, 4, 1, 0] rfl ?_
    exact H17 1000 nx er nx 0 hf
  · have hf := opt_neg c1 hf
    refine g_iconst C (v := 0) dX8_readNumber_7 (by decide) ?_
    refine g_eqw (ws' := (wSR (x_y X) r0 t0 nx er rp rv re)) rfl ?_
    obtain rfl := Option.some.inj hf
    exact g_iret C E () dX8_readNumber_8 rfl rfl rfl (Nat.le_of_ble_eq_true rfl) (Nat.le_of_ble_eq_true rfl)
/-! X8_readSign -/
theorem hd_X8_readSign : yX8_readSign.cls ≠ "java/lang/invoke/MethodHandle" ∧ yX8_readSign.cls ≠ "java/lang/invoke/VarHandle" ∧ (parseMethodDescriptor yX8_readSign.desc).map (fun d => d.parameters.length) = some 1 := by decide +kernel
def F_X8_readSign_L58   (nx_58 : Int32) (er_58 : Int32) : Option (Int32 × Int32) := some (nx_58, er_58)
def F_X8_readSign_L50   (nx_50 : Int32) (er_50 : Int32) : Option (Int32 × Int32) := F_X8_readSign_L58 nx_50 nx_50
def F_X8_readSign (nx : Int32) (er : Int32) (tn : Nat) (tb : Nat → Int32) (p0 : Int32) : Option (Int32 × Int32) := if er < 0 then ((F_J0_length_8abf5 tn).bind fun v2 => if v2 ≤ nx then (F_X8_readSign_L50 nx er) else ((F_J0_charAt_5068e tn tb nx).bind fun v5 => if v5 = p0 then (F_X8_readSign_L58 (nx + 1) er) else (F_X8_readSign_L50 nx er))) else (some (nx, er))
set_option maxRecDepth 100000 in
set_option maxHeartbeats 4000000 in
theorem c_X8_readSign {l : Launch} {D : va_G} {cy : Nat → ClassId} {r0 : Nat} {t0 t1 : Nat} {nx : Int32} {er : Int32} {rp : Int32} {rv : Int32} {re : Int32} {hash : Int32} {hz : Int32} {tn : Nat} {tb : Nat → Int32} {p0 : Int32}  {val : Int32 × Int32} (hf : F_X8_readSign nx er tn tb p0 = some val) : gCt l D cy yX8_readSign cX8_readSign 2 none 4 85 0 0 [.ref r0, .int p0] (wStr cy t0 t1 hash hz tn tb) ((wSR cy r0 t0 nx er rp rv re)) 0 (fun _ : Unit => none) (fun _ => (wSR cy r0 t0 val.1 val.2 rp rv re)) := by
  refine g_begin (by decide +kernel) (Nat.le_of_ble_eq_true rfl) ?_
  intro X Q hl hR hD hy hro hn C hin E
  subst hl; subst hD; subst hy
  replace C : gC X "SecretVault$ShareReader" cX8_readSign none := C
  unfold F_X8_readSign at hf
  have H58 : ∀ (nx_58 : Int32) (er_58 : Int32), F_X8_readSign_L58 nx_58 er_58 = some val → gW X Q 0 0 ((wSR (x_y X) r0 t0 nx_58 er_58 rp rv re)) [(0, .ref r0), (1, .int p0)] [] 58 := by
    intro nx_58 er_58 hf
    unfold F_X8_readSign_L58 at hf
    refine g_eqw (ws' := (wSR (x_y X) r0 t0 nx_58 er_58 rp rv re)) rfl ?_
    obtain rfl := Option.some.inj hf
    exact g_vret C E () dX8_readSign_58 rfl rfl rfl (Nat.le_of_ble_eq_true rfl) (Nat.le_of_ble_eq_true rfl)
  have H50 : ∀ (nx_50 : Int32) (er_50 : Int32), F_X8_readSign_L50 nx_50 er_50 = some val → gW X Q 0 0 ((wSR (x_y X) r0 t0 nx_50 er_50 rp rv re)) [(0, .ref r0), (1, .int p0)] [] 50 := by
    intro nx_50 er_50 hf
    unfold F_X8_readSign_L50 at hf
    refine g_aload_n C 0 dX8_readSign_50 rfl ?_
    refine g_aload_n C 0 dX8_readSign_51 rfl ?_
    refine g_get C 0 1 rfl rfl wiX8 (by decide) mw_5_54 rfl rfl dX8_readSign_52 ?_
    refine g_put C (ws' := (wSR (x_y X) r0 t0 nx_50 nx_50 rp rv re)) 0 2 rfl rfl wiX8 (by decide) tyX8_ok nmX8 mw_5_55 rfl rfl rfl rfl (Nat.le_of_ble_eq_true rfl) rfl dX8_readSign_55 ?_
    exact H58 nx_50 nx_50 hf
  show gW X Q 0 0 ((wSR (x_y X) r0 t0 nx er rp rv re)) [(0, .ref r0), (1, .int p0)] [] 0
  refine g_aload_n C 0 dX8_readSign_0 rfl ?_
  refine g_get C 0 2 rfl rfl wiX8 (by decide) mw_5_55 rfl rfl dX8_readSign_1 ?_
  refine g_if_lt C 8 dX8_readSign_4 (by decide) (fun c1 => ?_) (fun c1 => ?_)
  · have hf := opt_pos c1 hf
    refine g_aload_n C 0 dX8_readSign_8 rfl ?_
    refine g_get C 0 1 rfl rfl wiX8 (by decide) mw_5_54 rfl rfl dX8_readSign_9 ?_
    refine g_aload_n C 0 dX8_readSign_12 rfl ?_
    refine g_get C 0 0 rfl rfl wiX8 (by decide) mw_5_53 rfl rfl dX8_readSign_13 ?_
    obtain ⟨v2, h3, hf⟩ := opt_bind hf
    refine g_callV C (c_J0_length_8abf5 (l := x_l X) (D := x_D X) (cy := x_y X) (t0 := t0) (t1 := t1) (hash := hash) (hz := hz) (tn := tn) (tb := tb) h3) (As := []) (rest := [.int nx]) (wr := (wSR (x_y X) r0 t0 nx er rp rv re)) (ws' := fun _ => (wSR (x_y X) r0 t0 nx er rp rv re)) (st' := fun _ => [.int v2, .int nx]) (ci := 0) 0 1 ⟨_, by rw [hro]; rfl⟩ rfl rfl mw_4_75 mw_1_6 mw_5_87 mw_4_73 mw_4_74 hd_J0_length_8abf5 rfl (g_rm hR rfl rfl) [] [0] [0] ⟨rfl, rfl, rfl, rfl, by decide, gRoIn_p [1, 2] (by rw [hro]; rfl) (by decide), rfl, fun _ => rfl⟩ rfl (Nat.le_of_ble_eq_true rfl) dX8_readSign_16 (g_rc hR (Nat.le_of_ble_eq_true rfl) (Nat.le_of_ble_eq_true rfl)) (ck' := 0) (sk' := 0) rfl rfl (fun _ => rfl) (fun _ _ => ?_) (fun _ hx => absurd rfl hx)
    refine g_icmp_ge C 50 dX8_readSign_19 (by decide) (fun c4 => ?_) (fun c4 => ?_)
    · have hf := opt_pos c4 hf
      exact H50 nx er hf
    · have hf := opt_neg c4 hf
      refine g_aload_n C 0 dX8_readSign_22 rfl ?_
      refine g_get C 0 0 rfl rfl wiX8 (by decide) mw_5_53 rfl rfl dX8_readSign_23 ?_
      refine g_aload_n C 0 dX8_readSign_26 rfl ?_
      refine g_get C 0 1 rfl rfl wiX8 (by decide) mw_5_54 rfl rfl dX8_readSign_27 ?_
      obtain ⟨v5, h6, hf⟩ := opt_bind hf
      refine g_callV C (c_J0_charAt_5068e (l := x_l X) (D := x_D X) (cy := x_y X) (t0 := t0) (t1 := t1) (hash := hash) (hz := hz) (tn := tn) (tb := tb) (p0 := nx) h6) (As := [.int nx]) (rest := []) (wr := (wSR (x_y X) r0 t0 nx er rp rv re)) (ws' := fun _ => (wSR (x_y X) r0 t0 nx er rp rv re)) (st' := fun _ => [.int v5]) (ci := 0) 1 1 ⟨_, by rw [hro]; rfl⟩ rfl rfl mw_5_91 mw_1_6 mw_5_88 mw_5_89 mw_5_90 hd_J0_charAt_5068e rfl (g_rm hR rfl rfl) [] [0] [0] ⟨rfl, rfl, rfl, rfl, by decide, gRoIn_p [1, 2] (by rw [hro]; rfl) (by decide), rfl, fun _ => rfl⟩ rfl (Nat.le_of_ble_eq_true rfl) dX8_readSign_30 (g_rc hR (Nat.le_of_ble_eq_true rfl) (Nat.le_of_ble_eq_true rfl)) (ck' := 0) (sk' := 0) rfl rfl (fun _ => rfl) (fun _ _ => ?_) (fun _ hx => absurd rfl hx)
      refine g_iload_n C 1 dX8_readSign_33 rfl ?_
      refine g_icmp_ne C 50 dX8_readSign_34 (by decide) (fun c7 => ?_) (fun c7 => ?_)
      · have hf := opt_neg c7 hf
        exact H50 nx er hf
      · have hf := opt_pos c7 hf
        refine g_aload_n C 0 dX8_readSign_37 rfl ?_
        refine g_dup C dX8_readSign_38 rfl ?_
        refine g_get C 0 1 rfl rfl wiX8 (by decide) mw_5_54 rfl rfl dX8_readSign_39 ?_
        refine g_iconst C (v := 1) dX8_readSign_42 (by decide) ?_
        refine g_iadd C dX8_readSign_43 ?_
        refine g_put C (ws' := (wSR (x_y X) r0 t0 (nx + 1) er rp rv re)) 0 1 rfl rfl wiX8 (by decide) tyX8_ok nmX8 mw_5_54 rfl rfl rfl rfl (Nat.le_of_ble_eq_true rfl) rfl dX8_readSign_44 ?_
        refine g_goto C 58 dX8_readSign_47 (by decide) ?_
        exact H58 (nx + 1) er hf
  · have hf := opt_neg c1 hf
    refine g_eqw (ws' := (wSR (x_y X) r0 t0 nx er rp rv re)) rfl ?_
    obtain rfl := Option.some.inj hf
    exact g_vret C E () dX8_readSign_7 rfl rfl rfl (Nat.le_of_ble_eq_true rfl) (Nat.le_of_ble_eq_true rfl)
/-! X8_read -/
theorem hd_X8_read : yX8_read.cls ≠ "java/lang/invoke/MethodHandle" ∧ yX8_read.cls ≠ "java/lang/invoke/VarHandle" ∧ (parseMethodDescriptor yX8_read.desc).map (fun d => d.parameters.length) = some 0 := by decide +kernel
def F_X8_read_L105   (nx_105 : Int32) (er_105 : Int32) (rp_105 : Int32) (rv_105 : Int32) (re_105 : Int32) : Option (Int32 × Int32 × Int32 × Int32 × Int32 × Int32) := some (er_105, nx_105, er_105, rp_105, rv_105, re_105)
def F_X8_read (nx : Int32) (er : Int32) (rp : Int32) (rv : Int32) (re : Int32) (tn : Nat) (tb : Nat → Int32) : Option (Int32 × Int32 × Int32 × Int32 × Int32 × Int32) := (F_X8_readNumber nx er tn tb 1 24).bind fun v1 => (F_X8_readSign v1.2.1 v1.2.2 tn tb 58).bind fun v3 => (F_X8_readNumber v3.1 v3.2 tn tb 0 1018).bind fun v5 => (F_X8_readSign v5.2.1 v5.2.2 tn tb 64).bind fun v7 => (F_X8_readNumber v7.1 v7.2 tn tb 1 9999).bind fun v9 => (F_X8_readSign v9.2.1 v9.2.2 tn tb 35).bind fun v11 => (F_X2_checkDigit v1.1 v5.1 v9.1).bind fun v13 => (F_X8_readSign v11.1 v11.2 tn tb ((Int32.toUInt32 ((48 : Int32) + v13) % 65536).toInt32)).bind fun v15 => if 0 ≤ v15.2 then (F_X8_read_L105 v15.1 v15.2 v1.1 v5.1 v9.1) else ((F_J0_length_8abf5 tn).bind fun v18 => if v18 ≤ v15.1 then (F_X8_read_L105 v15.1 v15.2 v1.1 v5.1 v9.1) else (F_X8_read_L105 v15.1 v15.1 v1.1 v5.1 v9.1))
set_option maxRecDepth 100000 in
set_option maxHeartbeats 4000000 in
theorem c_X8_read {l : Launch} {D : va_G} {cy : Nat → ClassId} {r0 : Nat} {t0 t1 : Nat} {nx : Int32} {er : Int32} {rp : Int32} {rv : Int32} {re : Int32} {hash : Int32} {hz : Int32} {tn : Nat} {tb : Nat → Int32}   {val : Int32 × Int32 × Int32 × Int32 × Int32 × Int32} (hf : F_X8_read nx er rp rv re tn tb = some val) : gCt l D cy yX8_read cX8_read 1 (some .int) 6 130 0 0 [.ref r0] (wStr cy t0 t1 hash hz tn tb) ((wSR cy r0 t0 nx er rp rv re)) 0 (fun _ : Unit => some (.int val.1)) (fun _ => (wSR cy r0 t0 val.2.1 val.2.2.1 val.2.2.2.1 val.2.2.2.2.1 val.2.2.2.2.2)) := by
  refine g_begin (by decide +kernel) (Nat.le_of_ble_eq_true rfl) ?_
  intro X Q hl hR hD hy hro hn C hin E
  subst hl; subst hD; subst hy
  replace C : gC X "SecretVault$ShareReader" cX8_read (some .int) := C
  unfold F_X8_read at hf
  have H105 : ∀ (nx_105 : Int32) (er_105 : Int32) (rp_105 : Int32) (rv_105 : Int32) (re_105 : Int32), F_X8_read_L105 nx_105 er_105 rp_105 rv_105 re_105 = some val → gW X Q 0 0 ((wSR (x_y X) r0 t0 nx_105 er_105 rp_105 rv_105 re_105)) [(0, .ref r0)] [] 105 := by
    intro nx_105 er_105 rp_105 rv_105 re_105 hf
    unfold F_X8_read_L105 at hf
    refine g_aload_n C 0 dX8_read_105 rfl ?_
    refine g_get C 0 2 rfl rfl wiX8 (by decide) mw_5_55 rfl rfl dX8_read_106 ?_
    refine g_eqw (ws' := (wSR (x_y X) r0 t0 nx_105 er_105 rp_105 rv_105 re_105)) rfl ?_
    obtain rfl := Option.some.inj hf
    exact g_iret C E () dX8_read_109 rfl rfl rfl (Nat.le_of_ble_eq_true rfl) (Nat.le_of_ble_eq_true rfl)
  show gW X Q 0 0 ((wSR (x_y X) r0 t0 nx er rp rv re)) [(0, .ref r0)] [] 0
  refine g_aload_n C 0 dX8_read_0 rfl ?_
  refine g_aload_n C 0 dX8_read_1 rfl ?_
  refine g_iconst C (v := 1) dX8_read_2 (by decide) ?_
  refine g_bipush C (v := 24) dX8_read_3 (by decide) ?_
  obtain ⟨v1, h2, hf⟩ := opt_bind hf
  refine g_callV C (c_X8_readNumber (l := x_l X) (D := x_D X) (cy := x_y X) (r0 := r0) (t0 := t0) (t1 := t1) (nx := nx) (er := er) (rp := rp) (rv := rv) (re := re) (hash := hash) (hz := hz) (tn := tn) (tb := tb) (p0 := 1) (p1 := 24) h2) (As := [.int 1, .int 24]) (rest := [.ref r0]) (wr := []) (ws' := fun _ => (wSR (x_y X) r0 t0 v1.2.1 v1.2.2 rp rv re)) (st' := fun _ => [.int v1.1, .ref r0]) (ci := 9) 2 0 ⟨_, rfl⟩ rfl rfl mw_5_82 mw_1_29 mw_5_79 mw_5_81 mp_13 hd_X8_readNumber rfl (g_rm hR rfl rfl) [0] [] [0] ⟨rfl, rfl, rfl, rfl, by decide, gRoIn_p [1, 2] (by rw [hro]; rfl) (by decide), rfl, fun _ => rfl⟩ rfl (Nat.le_of_ble_eq_true rfl) dX8_read_5 (g_rc hR (Nat.le_of_ble_eq_true rfl) (Nat.le_of_ble_eq_true rfl)) (ck' := 0) (sk' := 0) rfl rfl (fun _ => rfl) (fun _ _ => ?_) (fun _ hx => absurd rfl hx)
  refine g_put C (ws' := (wSR (x_y X) r0 t0 v1.2.1 v1.2.2 v1.1 rv re)) 0 3 rfl rfl wiX8 (by decide) tyX8_ok nmX8 mw_5_56 rfl rfl rfl rfl (Nat.le_of_ble_eq_true rfl) rfl dX8_read_8 ?_
  refine g_aload_n C 0 dX8_read_11 rfl ?_
  refine g_bipush C (v := 58) dX8_read_12 (by decide) ?_
  obtain ⟨v3, h4, hf⟩ := opt_bind hf
  refine g_callV C (c_X8_readSign (l := x_l X) (D := x_D X) (cy := x_y X) (r0 := r0) (t0 := t0) (t1 := t1) (nx := v1.2.1) (er := v1.2.2) (rp := v1.1) (rv := rv) (re := re) (hash := hash) (hz := hz) (tn := tn) (tb := tb) (p0 := 58) h4) (As := [.int 58]) (rest := []) (wr := []) (ws' := fun _ => (wSR (x_y X) r0 t0 v3.1 v3.2 v1.1 rv re)) (st' := fun _ => []) (ci := 9) 1 0 ⟨_, rfl⟩ rfl rfl mw_5_106 mw_1_29 mw_5_103 mw_5_105 mp_15 hd_X8_readSign rfl (g_rm hR rfl rfl) [0] [] [0] ⟨rfl, rfl, rfl, rfl, by decide, gRoIn_p [1, 2] (by rw [hro]; rfl) (by decide), rfl, fun _ => rfl⟩ rfl (Nat.le_of_ble_eq_true rfl) dX8_read_14 (g_rc hR (Nat.le_of_ble_eq_true rfl) (Nat.le_of_ble_eq_true rfl)) (ck' := 0) (sk' := 0) rfl rfl (fun _ => rfl) (fun _ _ => ?_) (fun _ hx => absurd rfl hx)
  refine g_aload_n C 0 dX8_read_17 rfl ?_
  refine g_aload_n C 0 dX8_read_18 rfl ?_
  refine g_iconst C (v := 0) dX8_read_19 (by decide) ?_
  refine g_sipush C (v := 1018) dX8_read_20 (by decide) ?_
  obtain ⟨v5, h6, hf⟩ := opt_bind hf
  refine g_callV C (c_X8_readNumber (l := x_l X) (D := x_D X) (cy := x_y X) (r0 := r0) (t0 := t0) (t1 := t1) (nx := v3.1) (er := v3.2) (rp := v1.1) (rv := rv) (re := re) (hash := hash) (hz := hz) (tn := tn) (tb := tb) (p0 := 0) (p1 := 1018) h6) (As := [.int 0, .int 1018]) (rest := [.ref r0]) (wr := []) (ws' := fun _ => (wSR (x_y X) r0 t0 v5.2.1 v5.2.2 v1.1 rv re)) (st' := fun _ => [.int v5.1, .ref r0]) (ci := 9) 2 0 ⟨_, rfl⟩ rfl rfl mw_5_82 mw_1_29 mw_5_79 mw_5_81 mp_13 hd_X8_readNumber rfl (g_rm hR rfl rfl) [0] [] [0] ⟨rfl, rfl, rfl, rfl, by decide, gRoIn_p [1, 2] (by rw [hro]; rfl) (by decide), rfl, fun _ => rfl⟩ rfl (Nat.le_of_ble_eq_true rfl) dX8_read_23 (g_rc hR (Nat.le_of_ble_eq_true rfl) (Nat.le_of_ble_eq_true rfl)) (ck' := 0) (sk' := 0) rfl rfl (fun _ => rfl) (fun _ _ => ?_) (fun _ hx => absurd rfl hx)
  refine g_put C (ws' := (wSR (x_y X) r0 t0 v5.2.1 v5.2.2 v1.1 v5.1 re)) 0 4 rfl rfl wiX8 (by decide) tyX8_ok nmX8 mw_5_58 rfl rfl rfl rfl (Nat.le_of_ble_eq_true rfl) rfl dX8_read_26 ?_
  refine g_aload_n C 0 dX8_read_29 rfl ?_
  refine g_bipush C (v := 64) dX8_read_30 (by decide) ?_
  obtain ⟨v7, h8, hf⟩ := opt_bind hf
  refine g_callV C (c_X8_readSign (l := x_l X) (D := x_D X) (cy := x_y X) (r0 := r0) (t0 := t0) (t1 := t1) (nx := v5.2.1) (er := v5.2.2) (rp := v1.1) (rv := v5.1) (re := re) (hash := hash) (hz := hz) (tn := tn) (tb := tb) (p0 := 64) h8) (As := [.int 64]) (rest := []) (wr := []) (ws' := fun _ => (wSR (x_y X) r0 t0 v7.1 v7.2 v1.1 v5.1 re)) (st' := fun _ => []) (ci := 9) 1 0 ⟨_, rfl⟩ rfl rfl mw_5_106 mw_1_29 mw_5_103 mw_5_105 mp_15 hd_X8_readSign rfl (g_rm hR rfl rfl) [0] [] [0] ⟨rfl, rfl, rfl, rfl, by decide, gRoIn_p [1, 2] (by rw [hro]; rfl) (by decide), rfl, fun _ => rfl⟩ rfl (Nat.le_of_ble_eq_true rfl) dX8_read_32 (g_rc hR (Nat.le_of_ble_eq_true rfl) (Nat.le_of_ble_eq_true rfl)) (ck' := 0) (sk' := 0) rfl rfl (fun _ => rfl) (fun _ _ => ?_) (fun _ hx => absurd rfl hx)
  refine g_aload_n C 0 dX8_read_35 rfl ?_
  refine g_aload_n C 0 dX8_read_36 rfl ?_
  refine g_iconst C (v := 1) dX8_read_37 (by decide) ?_
  refine g_sipush C (v := 9999) dX8_read_38 (by decide) ?_
  obtain ⟨v9, h10, hf⟩ := opt_bind hf
  refine g_callV C (c_X8_readNumber (l := x_l X) (D := x_D X) (cy := x_y X) (r0 := r0) (t0 := t0) (t1 := t1) (nx := v7.1) (er := v7.2) (rp := v1.1) (rv := v5.1) (re := re) (hash := hash) (hz := hz) (tn := tn) (tb := tb) (p0 := 1) (p1 := 9999) h10) (As := [.int 1, .int 9999]) (rest := [.ref r0]) (wr := []) (ws' := fun _ => (wSR (x_y X) r0 t0 v9.2.1 v9.2.2 v1.1 v5.1 re)) (st' := fun _ => [.int v9.1, .ref r0]) (ci := 9) 2 0 ⟨_, rfl⟩ rfl rfl mw_5_82 mw_1_29 mw_5_79 mw_5_81 mp_13 hd_X8_readNumber rfl (g_rm hR rfl rfl) [0] [] [0] ⟨rfl, rfl, rfl, rfl, by decide, gRoIn_p [1, 2] (by rw [hro]; rfl) (by decide), rfl, fun _ => rfl⟩ rfl (Nat.le_of_ble_eq_true rfl) dX8_read_41 (g_rc hR (Nat.le_of_ble_eq_true rfl) (Nat.le_of_ble_eq_true rfl)) (ck' := 0) (sk' := 0) rfl rfl (fun _ => rfl) (fun _ _ => ?_) (fun _ hx => absurd rfl hx)
  refine g_put C (ws' := (wSR (x_y X) r0 t0 v9.2.1 v9.2.2 v1.1 v5.1 v9.1)) 0 5 rfl rfl wiX8 (by decide) tyX8_ok nmX8 mw_5_60 rfl rfl rfl rfl (Nat.le_of_ble_eq_true rfl) rfl dX8_read_44 ?_
  refine g_aload_n C 0 dX8_read_47 rfl ?_
  refine g_bipush C (v := 35) dX8_read_48 (by decide) ?_
  obtain ⟨v11, h12, hf⟩ := opt_bind hf
  refine g_callV C (c_X8_readSign (l := x_l X) (D := x_D X) (cy := x_y X) (r0 := r0) (t0 := t0) (t1 := t1) (nx := v9.2.1) (er := v9.2.2) (rp := v1.1) (rv := v5.1) (re := v9.1) (hash := hash) (hz := hz) (tn := tn) (tb := tb) (p0 := 35) h12) (As := [.int 35]) (rest := []) (wr := []) (ws' := fun _ => (wSR (x_y X) r0 t0 v11.1 v11.2 v1.1 v5.1 v9.1)) (st' := fun _ => []) (ci := 9) 1 0 ⟨_, rfl⟩ rfl rfl mw_5_106 mw_1_29 mw_5_103 mw_5_105 mp_15 hd_X8_readSign rfl (g_rm hR rfl rfl) [0] [] [0] ⟨rfl, rfl, rfl, rfl, by decide, gRoIn_p [1, 2] (by rw [hro]; rfl) (by decide), rfl, fun _ => rfl⟩ rfl (Nat.le_of_ble_eq_true rfl) dX8_read_50 (g_rc hR (Nat.le_of_ble_eq_true rfl) (Nat.le_of_ble_eq_true rfl)) (ck' := 0) (sk' := 0) rfl rfl (fun _ => rfl) (fun _ _ => ?_) (fun _ hx => absurd rfl hx)
  refine g_aload_n C 0 dX8_read_53 rfl ?_
  refine g_bipush C (v := 48) dX8_read_54 (by decide) ?_
  refine g_aload_n C 0 dX8_read_56 rfl ?_
  refine g_get C 0 3 rfl rfl wiX8 (by decide) mw_5_56 rfl rfl dX8_read_57 ?_
  refine g_aload_n C 0 dX8_read_60 rfl ?_
  refine g_get C 0 4 rfl rfl wiX8 (by decide) mw_5_58 rfl rfl dX8_read_61 ?_
  refine g_aload_n C 0 dX8_read_64 rfl ?_
  refine g_get C 0 5 rfl rfl wiX8 (by decide) mw_5_60 rfl rfl dX8_read_65 ?_
  obtain ⟨v13, h14, hf⟩ := opt_bind hf
  refine g_callS C (c_X2_checkDigit (l := x_l X) (D := x_D X) (cy := x_y X) (p0 := v1.1) (p1 := v5.1) (p2 := v9.1) h14) (As := [.int v1.1, .int v5.1, .int v9.1]) (rest := [.int 48, .ref r0]) (wr := (wSR (x_y X) r0 t0 v11.1 v11.2 v1.1 v5.1 v9.1)) (ws' := fun _ => (wSR (x_y X) r0 t0 v11.1 v11.2 v1.1 v5.1 v9.1)) (st' := fun _ => [.int v13, .int 48, .ref r0]) 3 mw_5_22 mw_1_16 mw_5_107 mw_5_21 hd_X2_checkDigit rfl (g_rm hR rfl rfl) [] [0] [0] ⟨rfl, rfl, rfl, rfl, by decide, gRoIn_0, rfl, fun _ => rfl⟩ rfl (Nat.le_of_ble_eq_true rfl) dX8_read_68 (g_rc hR (Nat.le_of_ble_eq_true rfl) (Nat.le_of_ble_eq_true rfl)) (ck' := 0) (sk' := 0) rfl rfl (fun _ => rfl) (fun _ _ => ?_) (fun _ hx => absurd rfl hx)
  refine g_iadd C dX8_read_71 ?_
  refine g_i2c C dX8_read_72 ?_
  obtain ⟨v15, h16, hf⟩ := opt_bind hf
  refine g_callV C (c_X8_readSign (l := x_l X) (D := x_D X) (cy := x_y X) (r0 := r0) (t0 := t0) (t1 := t1) (nx := v11.1) (er := v11.2) (rp := v1.1) (rv := v5.1) (re := v9.1) (hash := hash) (hz := hz) (tn := tn) (tb := tb) (p0 := (Int32.toUInt32 ((48 : Int32) + v13) % 65536).toInt32) h16) (As := [.int ((Int32.toUInt32 ((48 : Int32) + v13) % 65536).toInt32)]) (rest := []) (wr := []) (ws' := fun _ => (wSR (x_y X) r0 t0 v15.1 v15.2 v1.1 v5.1 v9.1)) (st' := fun _ => []) (ci := 9) 1 0 ⟨_, rfl⟩ rfl rfl mw_5_106 mw_1_29 mw_5_103 mw_5_105 mp_15 hd_X8_readSign rfl (g_rm hR rfl rfl) [0] [] [0] ⟨rfl, rfl, rfl, rfl, by decide, gRoIn_p [1, 2] (by rw [hro]; rfl) (by decide), rfl, fun _ => rfl⟩ rfl (Nat.le_of_ble_eq_true rfl) dX8_read_73 (g_rc hR (Nat.le_of_ble_eq_true rfl) (Nat.le_of_ble_eq_true rfl)) (ck' := 0) (sk' := 0) rfl rfl (fun _ => rfl) (fun _ _ => ?_) (fun _ hx => absurd rfl hx)
  refine g_aload_n C 0 dX8_read_76 rfl ?_
  refine g_get C 0 2 rfl rfl wiX8 (by decide) mw_5_55 rfl rfl dX8_read_77 ?_
  refine g_if_ge C 105 dX8_read_80 (by decide) (fun c17 => ?_) (fun c17 => ?_)
  · have hf := opt_pos c17 hf
    exact H105 v15.1 v15.2 v1.1 v5.1 v9.1 hf
  · have hf := opt_neg c17 hf
    refine g_aload_n C 0 dX8_read_83 rfl ?_
    refine g_get C 0 1 rfl rfl wiX8 (by decide) mw_5_54 rfl rfl dX8_read_84 ?_
    refine g_aload_n C 0 dX8_read_87 rfl ?_
    refine g_get C 0 0 rfl rfl wiX8 (by decide) mw_5_53 rfl rfl dX8_read_88 ?_
    obtain ⟨v18, h19, hf⟩ := opt_bind hf
    refine g_callV C (c_J0_length_8abf5 (l := x_l X) (D := x_D X) (cy := x_y X) (t0 := t0) (t1 := t1) (hash := hash) (hz := hz) (tn := tn) (tb := tb) h19) (As := []) (rest := [.int v15.1]) (wr := (wSR (x_y X) r0 t0 v15.1 v15.2 v1.1 v5.1 v9.1)) (ws' := fun _ => (wSR (x_y X) r0 t0 v15.1 v15.2 v1.1 v5.1 v9.1)) (st' := fun _ => [.int v18, .int v15.1]) (ci := 0) 0 1 ⟨_, by rw [hro]; rfl⟩ rfl rfl mw_4_75 mw_1_6 mw_5_87 mw_4_73 mw_4_74 hd_J0_length_8abf5 rfl (g_rm hR rfl rfl) [] [0] [0] ⟨rfl, rfl, rfl, rfl, by decide, gRoIn_p [1, 2] (by rw [hro]; rfl) (by decide), rfl, fun _ => rfl⟩ rfl (Nat.le_of_ble_eq_true rfl) dX8_read_91 (g_rc hR (Nat.le_of_ble_eq_true rfl) (Nat.le_of_ble_eq_true rfl)) (ck' := 0) (sk' := 0) rfl rfl (fun _ => rfl) (fun _ _ => ?_) (fun _ hx => absurd rfl hx)
    refine g_icmp_ge C 105 dX8_read_94 (by decide) (fun c20 => ?_) (fun c20 => ?_)
    · have hf := opt_pos c20 hf
      exact H105 v15.1 v15.2 v1.1 v5.1 v9.1 hf
    · have hf := opt_neg c20 hf
      refine g_aload_n C 0 dX8_read_97 rfl ?_
      refine g_aload_n C 0 dX8_read_98 rfl ?_
      refine g_get C 0 1 rfl rfl wiX8 (by decide) mw_5_54 rfl rfl dX8_read_99 ?_
      refine g_put C (ws' := (wSR (x_y X) r0 t0 v15.1 v15.1 v1.1 v5.1 v9.1)) 0 2 rfl rfl wiX8 (by decide) tyX8_ok nmX8 mw_5_55 rfl rfl rfl rfl (Nat.le_of_ble_eq_true rfl) rfl dX8_read_102 ?_
      exact H105 v15.1 v15.1 v1.1 v5.1 v9.1 hf
/-! X4_init -/
theorem hd_X4_init : yX4_init.cls ≠ "java/lang/invoke/MethodHandle" ∧ yX4_init.cls ≠ "java/lang/invoke/VarHandle" ∧ (parseMethodDescriptor yX4_init.desc).map (fun d => d.parameters.length) = some 1 := by decide +kernel
def F_X4_init (tn : Nat) : Option (Int32 × Int32 × Nat × (Nat → Int32)) := (F_J0_length_8abf5 tn).bind fun v1 => gg (gnw (v1 + 1) 64) (gl (Int32.toNatClampNeg (v1 + 1)) fun m4 => some (0, 0, m4, (fun _ => 0)))
set_option maxRecDepth 100000 in
set_option maxHeartbeats 4000000 in
theorem c_X4_init {l : Launch} {D : va_G} {cy : Nat → ClassId} {r0 : Nat} {t0 t1 : Nat} {hash : Int32} {hz : Int32} {tn : Nat} {tb : Nat → Int32}   {val : Int32 × Int32 × Nat × (Nat → Int32)} (hf : F_X4_init tn = some val) : gCt l D cy yX4_init cX4_init 2 none 2 40 1 64 [.ref r0, .ref t0] (wStr cy t0 t1 hash hz tn tb) ([(r0, .inr (6, [.null, .null, .int 0, .int 0]))]) 0 (fun u : Nat => none) (fun u => (wPR cy r0 u t0 val.1 val.2.1 val.2.2.1 val.2.2.2)) := by
  refine g_begin (by decide +kernel) (Nat.le_of_ble_eq_true rfl) ?_
  intro X Q hl hR hD hy hro hn C hin E
  subst hl; subst hD; subst hy
  replace C : gC X "SecretVault$PolicyReader" cX4_init none := C
  unfold F_X4_init at hf
  show gW X Q 0 0 ([(r0, .inr (6, [.null, .null, .int 0, .int 0]))]) [(0, .ref r0), (1, .ref t0)] [] 0
  refine g_aload_n C 0 dX4_init_0 rfl ?_
  refine g_objInit C mw_5_141 mw_1_44 gw_obj (g_tn hR rfl rfl) dX4_init_1 ?_
  refine g_aload_n C 0 dX4_init_4 rfl ?_
  refine g_aload_n C 1 dX4_init_5 rfl ?_
  refine g_putF C (ws' := [(r0, .inr (6, [.ref t0, .null, .int 0, .int 0]))]) 0 0 rfl rfl wiX4 (by decide) tyX4_ok nmX4 mw_5_143 rfl rfl (hin rfl) rfl rfl rfl (Nat.le_of_ble_eq_true rfl) rfl dX4_init_6 ?_
  refine g_aload_n C 0 dX4_init_9 rfl ?_
  refine g_aload_n C 1 dX4_init_10 rfl ?_
  obtain ⟨v1, h2, hf⟩ := opt_bind hf
  refine g_callV C (c_J0_length_8abf5 (l := x_l X) (D := x_D X) (cy := x_y X) (t0 := t0) (t1 := t1) (hash := hash) (hz := hz) (tn := tn) (tb := tb) h2) (As := []) (rest := [.ref r0]) (wr := [(r0, .inr (6, [.ref t0, .null, .int 0, .int 0]))]) (ws' := fun _ => [(r0, .inr (6, [.ref t0, .null, .int 0, .int 0]))]) (st' := fun _ => [.int v1, .ref r0]) (ci := 0) 0 1 ⟨_, by rw [hro]; rfl⟩ rfl rfl mw_4_75 mw_1_6 mw_5_142 mw_4_73 mw_4_74 hd_J0_length_8abf5 rfl (g_rm hR rfl rfl) [] [0] [0] ⟨rfl, rfl, rfl, rfl, by decide, gRoIn_p [1, 2] (by rw [hro]; rfl) (by decide), rfl, fun _ => rfl⟩ rfl (Nat.le_of_ble_eq_true rfl) dX4_init_11 (g_rc hR (Nat.le_of_ble_eq_true rfl) (Nat.le_of_ble_eq_true rfl)) (ck' := 0) (sk' := 0) rfl rfl (fun _ => rfl) (fun _ _ => ?_) (fun _ hx => absurd rfl hx)
  refine g_iconst C (v := 1) dX4_init_14 (by decide) ?_
  refine g_iadd C dX4_init_15 ?_
  obtain ⟨c5, hf⟩ := gg_of hf
  obtain ⟨m4, em4, hf⟩ := opt_let hf
  refine g_newa C 1 (ty := .boolean) rfl rfl (fun _ h => nomatch h) mw_1_205 (N := m4) (B := 64) (a0 := (m4, .inl (fun _ => 0))) (fun _ => rfl) (gnw_0 c5) em4.symm (by rw [em4]; exact gnw_B c5) (by decide) (by decide) (g_rc hR (Nat.le_of_ble_eq_true rfl) (Nat.le_of_ble_eq_true rfl)) (ck' := 1) (sk' := 64) rfl rfl dX4_init_16 (fun q3 => ?_)
  refine g_putF C (ws' := [(r0, .inr (6, [.ref t0, .ref q3, .int 0, .int 0]))] ++ [(q3, .inl ((x_y X) 1, m4, .inl (fun _ => 0)))]) 0 1 rfl rfl wiX4 (by decide) tyX4_ok nmX4 mw_5_144 rfl rfl (hin rfl) rfl rfl rfl (Nat.le_of_ble_eq_true rfl) rfl dX4_init_18 ?_
  refine g_aload_n C 0 dX4_init_21 rfl ?_
  refine g_iconst C (v := 0) dX4_init_22 (by decide) ?_
  refine g_put C (ws' := [(r0, .inr (6, [.ref t0, .ref q3, .int 0, .int 0]))] ++ [(q3, .inl ((x_y X) 1, m4, .inl (fun _ => 0)))]) 0 3 rfl rfl wiX4 (by decide) tyX4_ok nmX4 mw_5_146 rfl rfl rfl rfl (Nat.le_of_ble_eq_true rfl) rfl dX4_init_23 ?_
  refine g_eqw (ws' := (wPR (x_y X) r0 q3 t0 0 0 m4 (fun _ => 0))) rfl ?_
  obtain rfl := Option.some.inj hf
  exact g_vret C E q3 dX4_init_26 rfl rfl rfl (Nat.le_of_ble_eq_true rfl) (Nat.le_of_ble_eq_true rfl)
/-! X5_isSignAt -/
theorem hd_X5_isSignAt : yX5_isSignAt.cls ≠ "java/lang/invoke/MethodHandle" ∧ yX5_isSignAt.cls ≠ "java/lang/invoke/VarHandle" ∧ (parseMethodDescriptor yX5_isSignAt.desc).map (fun d => d.parameters.length) = some 3 := by decide +kernel
def F_X5_isSignAt_L26   (s0_26 : Int32) : Option (Int32) := gg (gnar .boolean s0_26) (some s0_26)
def F_X5_isSignAt_L25    : Option (Int32) := F_X5_isSignAt_L26 0
def F_X5_isSignAt (tn : Nat) (tb : Nat → Int32) (p1 : Int32) (p2 : Int32) : Option (Int32) := if p1 < 0 then (F_X5_isSignAt_L25 ) else ((F_J0_length_8abf5 tn).bind fun v3 => if v3 ≤ p1 then (F_X5_isSignAt_L25 ) else ((F_J0_charAt_5068e tn tb p1).bind fun v6 => if v6 = p2 then (F_X5_isSignAt_L26 1) else (F_X5_isSignAt_L25 )))
set_option maxRecDepth 100000 in
set_option maxHeartbeats 4000000 in
theorem c_X5_isSignAt {l : Launch} {D : va_G} {cy : Nat → ClassId} {t0 t1 : Nat} {hash : Int32} {hz : Int32} {tn : Nat} {tb : Nat → Int32} {p1 : Int32} {p2 : Int32}  {val : Int32} (hf : F_X5_isSignAt tn tb p1 p2 = some val) : gCt l D cy yX5_isSignAt cX5_isSignAt 3 (some .boolean) 4 85 0 0 [.ref t0, .int p1, .int p2] (wStr cy t0 t1 hash hz tn tb) ([]) 0 (fun _ : Unit => some (.int val)) (fun _ => []) := by
  refine g_begin (by decide +kernel) (Nat.le_of_ble_eq_true rfl) ?_
  intro X Q hl hR hD hy hro hn C hin E
  subst hl; subst hD; subst hy
  replace C : gC X "SecretVault$PolicySyntax" cX5_isSignAt (some .boolean) := C
  unfold F_X5_isSignAt at hf
  have H26 : ∀ (s0_26 : Int32), F_X5_isSignAt_L26 s0_26 = some val → gW X Q 0 0 ([]) [(0, .ref t0), (1, .int p1), (2, .int p2)] [.int s0_26] 26 := by
    intro s0_26 hf
    unfold F_X5_isSignAt_L26 at hf
    obtain ⟨c2, hf⟩ := gg_of hf
    obtain rfl := Option.some.inj hf
    exact g_zret C E () (gnar_of c2) dX5_isSignAt_26 rfl rfl rfl (Nat.le_of_ble_eq_true rfl) (Nat.le_of_ble_eq_true rfl)
  have H25 :  F_X5_isSignAt_L25 = some val → gW X Q 0 0 ([]) [(0, .ref t0), (1, .int p1), (2, .int p2)] [] 25 := by
    intro hf
    unfold F_X5_isSignAt_L25 at hf
    refine g_iconst C (v := 0) dX5_isSignAt_25 (by decide) ?_
    exact H26 0 hf
  show gW X Q 0 0 ([]) [(0, .ref t0), (1, .int p1), (2, .int p2)] [] 0
  refine g_iload_n C 1 dX5_isSignAt_0 rfl ?_
  refine g_if_lt C 25 dX5_isSignAt_1 (by decide) (fun c1 => ?_) (fun c1 => ?_)
  · have hf := opt_pos c1 hf
    exact H25 hf
  · have hf := opt_neg c1 hf
    refine g_iload_n C 1 dX5_isSignAt_4 rfl ?_
    refine g_aload_n C 0 dX5_isSignAt_5 rfl ?_
    obtain ⟨v3, h4, hf⟩ := opt_bind hf
    refine g_callV C (c_J0_length_8abf5 (l := x_l X) (D := x_D X) (cy := x_y X) (t0 := t0) (t1 := t1) (hash := hash) (hz := hz) (tn := tn) (tb := tb) h4) (As := []) (rest := [.int p1]) (wr := []) (ws' := fun _ => []) (st' := fun _ => [.int v3, .int p1]) (ci := 0) 0 0 ⟨_, by rw [hro]; rfl⟩ rfl rfl mw_4_75 mw_1_6 mw_5_180 mw_4_73 mw_4_74 hd_J0_length_8abf5 rfl (g_rm hR rfl rfl) [] [] [] ⟨rfl, rfl, rfl, rfl, by decide, gRoIn_p [0, 1] (by rw [hro]; rfl) (by decide), rfl, fun _ => rfl⟩ rfl (Nat.le_of_ble_eq_true rfl) dX5_isSignAt_6 (g_rc hR (Nat.le_of_ble_eq_true rfl) (Nat.le_of_ble_eq_true rfl)) (ck' := 0) (sk' := 0) rfl rfl (fun _ => rfl) (fun _ _ => ?_) (fun _ hx => absurd rfl hx)
    refine g_icmp_ge C 25 dX5_isSignAt_9 (by decide) (fun c5 => ?_) (fun c5 => ?_)
    · have hf := opt_pos c5 hf
      exact H25 hf
    · have hf := opt_neg c5 hf
      refine g_aload_n C 0 dX5_isSignAt_12 rfl ?_
      refine g_iload_n C 1 dX5_isSignAt_13 rfl ?_
      obtain ⟨v6, h7, hf⟩ := opt_bind hf
      refine g_callV C (c_J0_charAt_5068e (l := x_l X) (D := x_D X) (cy := x_y X) (t0 := t0) (t1 := t1) (hash := hash) (hz := hz) (tn := tn) (tb := tb) (p0 := p1) h7) (As := [.int p1]) (rest := []) (wr := []) (ws' := fun _ => []) (st' := fun _ => [.int v6]) (ci := 0) 1 0 ⟨_, by rw [hro]; rfl⟩ rfl rfl mw_5_91 mw_1_6 mw_5_176 mw_5_89 mw_5_90 hd_J0_charAt_5068e rfl (g_rm hR rfl rfl) [] [] [] ⟨rfl, rfl, rfl, rfl, by decide, gRoIn_p [0, 1] (by rw [hro]; rfl) (by decide), rfl, fun _ => rfl⟩ rfl (Nat.le_of_ble_eq_true rfl) dX5_isSignAt_14 (g_rc hR (Nat.le_of_ble_eq_true rfl) (Nat.le_of_ble_eq_true rfl)) (ck' := 0) (sk' := 0) rfl rfl (fun _ => rfl) (fun _ _ => ?_) (fun _ hx => absurd rfl hx)
      refine g_iload_n C 2 dX5_isSignAt_17 rfl ?_
      refine g_icmp_ne C 25 dX5_isSignAt_18 (by decide) (fun c8 => ?_) (fun c8 => ?_)
      · have hf := opt_neg c8 hf
        exact H25 hf
      · have hf := opt_pos c8 hf
        refine g_iconst C (v := 1) dX5_isSignAt_21 (by decide) ?_
        refine g_goto C 26 dX5_isSignAt_22 (by decide) ?_
        exact H26 1 hf
/-! X5_isCount -/
theorem hd_X5_isCount : yX5_isCount.cls ≠ "java/lang/invoke/MethodHandle" ∧ yX5_isCount.cls ≠ "java/lang/invoke/VarHandle" ∧ (parseMethodDescriptor yX5_isCount.desc).map (fun d => d.parameters.length) = some 2 := by decide +kernel
def F_X5_isCount_L37   (s0_37 : Int32) : Option (Int32) := gg (gnar .boolean s0_37) (some s0_37)
def F_X5_isCount_L36    : Option (Int32) := F_X5_isCount_L37 0
def F_X5_isCount (tn : Nat) (tb : Nat → Int32) (p1 : Int32) : Option (Int32) := (F_J0_charAt_5068e tn tb p1).bind fun v1 => if v1 < 49 then (F_X5_isCount_L36 ) else ((F_J0_charAt_5068e tn tb p1).bind fun v5 => if 57 < v5 then (F_X5_isCount_L36 ) else ((F_X5_isSignAt tn tb (p1 + 1) 111).bind fun v8 => if v8 = 0 then (F_X5_isCount_L36 ) else (F_X5_isCount_L37 1)))
set_option maxRecDepth 100000 in
set_option maxHeartbeats 4000000 in
theorem c_X5_isCount {l : Launch} {D : va_G} {cy : Nat → ClassId} {t0 t1 : Nat} {hash : Int32} {hz : Int32} {tn : Nat} {tb : Nat → Int32} {p1 : Int32}  {val : Int32} (hf : F_X5_isCount tn tb p1 = some val) : gCt l D cy yX5_isCount cX5_isCount 2 (some .boolean) 5 107 0 0 [.ref t0, .int p1] (wStr cy t0 t1 hash hz tn tb) ([]) 0 (fun _ : Unit => some (.int val)) (fun _ => []) := by
  refine g_begin (by decide +kernel) (Nat.le_of_ble_eq_true rfl) ?_
  intro X Q hl hR hD hy hro hn C hin E
  subst hl; subst hD; subst hy
  replace C : gC X "SecretVault$PolicySyntax" cX5_isCount (some .boolean) := C
  unfold F_X5_isCount at hf
  have H37 : ∀ (s0_37 : Int32), F_X5_isCount_L37 s0_37 = some val → gW X Q 0 0 ([]) [(0, .ref t0), (1, .int p1)] [.int s0_37] 37 := by
    intro s0_37 hf
    unfold F_X5_isCount_L37 at hf
    obtain ⟨c4, hf⟩ := gg_of hf
    obtain rfl := Option.some.inj hf
    exact g_zret C E () (gnar_of c4) dX5_isCount_37 rfl rfl rfl (Nat.le_of_ble_eq_true rfl) (Nat.le_of_ble_eq_true rfl)
  have H36 :  F_X5_isCount_L36 = some val → gW X Q 0 0 ([]) [(0, .ref t0), (1, .int p1)] [] 36 := by
    intro hf
    unfold F_X5_isCount_L36 at hf
    refine g_iconst C (v := 0) dX5_isCount_36 (by decide) ?_
    exact H37 0 hf
  show gW X Q 0 0 ([]) [(0, .ref t0), (1, .int p1)] [] 0
  refine g_aload_n C 0 dX5_isCount_0 rfl ?_
  refine g_iload_n C 1 dX5_isCount_1 rfl ?_
  obtain ⟨v1, h2, hf⟩ := opt_bind hf
  refine g_callV C (c_J0_charAt_5068e (l := x_l X) (D := x_D X) (cy := x_y X) (t0 := t0) (t1 := t1) (hash := hash) (hz := hz) (tn := tn) (tb := tb) (p0 := p1) h2) (As := [.int p1]) (rest := []) (wr := []) (ws' := fun _ => []) (st' := fun _ => [.int v1]) (ci := 0) 1 0 ⟨_, by rw [hro]; rfl⟩ rfl rfl mw_5_91 mw_1_6 mw_5_176 mw_5_89 mw_5_90 hd_J0_charAt_5068e rfl (g_rm hR rfl rfl) [] [] [] ⟨rfl, rfl, rfl, rfl, by decide, gRoIn_p [0, 1] (by rw [hro]; rfl) (by decide), rfl, fun _ => rfl⟩ rfl (Nat.le_of_ble_eq_true rfl) dX5_isCount_2 (g_rc hR (Nat.le_of_ble_eq_true rfl) (Nat.le_of_ble_eq_true rfl)) (ck' := 0) (sk' := 0) rfl rfl (fun _ => rfl) (fun _ _ => ?_) (fun _ hx => absurd rfl hx)
  refine g_bipush C (v := 49) dX5_isCount_5 (by decide) ?_
  refine g_icmp_lt C 36 dX5_isCount_7 (by decide) (fun c3 => ?_) (fun c3 => ?_)
  · have hf := opt_pos c3 hf
    exact H36 hf
  · have hf := opt_neg c3 hf
    refine g_aload_n C 0 dX5_isCount_10 rfl ?_
    refine g_iload_n C 1 dX5_isCount_11 rfl ?_
    obtain ⟨v5, h6, hf⟩ := opt_bind hf
    refine g_callV C (c_J0_charAt_5068e (l := x_l X) (D := x_D X) (cy := x_y X) (t0 := t0) (t1 := t1) (hash := hash) (hz := hz) (tn := tn) (tb := tb) (p0 := p1) h6) (As := [.int p1]) (rest := []) (wr := []) (ws' := fun _ => []) (st' := fun _ => [.int v5]) (ci := 0) 1 0 ⟨_, by rw [hro]; rfl⟩ rfl rfl mw_5_91 mw_1_6 mw_5_176 mw_5_89 mw_5_90 hd_J0_charAt_5068e rfl (g_rm hR rfl rfl) [] [] [] ⟨rfl, rfl, rfl, rfl, by decide, gRoIn_p [0, 1] (by rw [hro]; rfl) (by decide), rfl, fun _ => rfl⟩ rfl (Nat.le_of_ble_eq_true rfl) dX5_isCount_12 (g_rc hR (Nat.le_of_ble_eq_true rfl) (Nat.le_of_ble_eq_true rfl)) (ck' := 0) (sk' := 0) rfl rfl (fun _ => rfl) (fun _ _ => ?_) (fun _ hx => absurd rfl hx)
    refine g_bipush C (v := 57) dX5_isCount_15 (by decide) ?_
    refine g_icmp_gt C 36 dX5_isCount_17 (by decide) (fun c7 => ?_) (fun c7 => ?_)
    · have hf := opt_pos c7 hf
      exact H36 hf
    · have hf := opt_neg c7 hf
      refine g_aload_n C 0 dX5_isCount_20 rfl ?_
      refine g_iload_n C 1 dX5_isCount_21 rfl ?_
      refine g_iconst C (v := 1) dX5_isCount_22 (by decide) ?_
      refine g_iadd C dX5_isCount_23 ?_
      refine g_bipush C (v := 111) dX5_isCount_24 (by decide) ?_
      obtain ⟨v8, h9, hf⟩ := opt_bind hf
      refine g_callS C (c_X5_isSignAt (l := x_l X) (D := x_D X) (cy := x_y X) (t0 := t0) (t1 := t1) (hash := hash) (hz := hz) (tn := tn) (tb := tb) (p1 := p1 + 1) (p2 := 111) h9) (As := [.ref t0, .int (p1 + 1), .int 111]) (rest := []) (wr := []) (ws' := fun _ => []) (st' := fun _ => [.int v8]) 3 mw_5_179 mw_1_31 mw_5_177 mw_5_178 hd_X5_isSignAt rfl (g_rm hR rfl rfl) [] [] [] ⟨rfl, rfl, rfl, rfl, by decide, gRoIn_p [0, 1] (by rw [hro]; rfl) (by decide), rfl, fun _ => rfl⟩ rfl (Nat.le_of_ble_eq_true rfl) dX5_isCount_26 (g_rc hR (Nat.le_of_ble_eq_true rfl) (Nat.le_of_ble_eq_true rfl)) (ck' := 0) (sk' := 0) rfl rfl (fun _ => rfl) (fun _ _ => ?_) (fun _ hx => absurd rfl hx)
      refine g_if_eq C 36 dX5_isCount_29 (by decide) (fun c10 => ?_) (fun c10 => ?_)
      · have hf := opt_pos c10 hf
        exact H36 hf
      · have hf := opt_neg c10 hf
        refine g_iconst C (v := 1) dX5_isCount_32 (by decide) ?_
        refine g_goto C 37 dX5_isCount_33 (by decide) ?_
        exact H37 1 hf
/-! X5_isMember -/
theorem hd_X5_isMember : yX5_isMember.cls ≠ "java/lang/invoke/MethodHandle" ∧ yX5_isMember.cls ≠ "java/lang/invoke/VarHandle" ∧ (parseMethodDescriptor yX5_isMember.desc).map (fun d => d.parameters.length) = some 2 := by decide +kernel
def F_X5_isMember_L33   (s0_33 : Int32) : Option (Int32) := gg (gnar .boolean s0_33) (some s0_33)
def F_X5_isMember_L32    : Option (Int32) := F_X5_isMember_L33 0
def F_X5_isMember (tn : Nat) (tb : Nat → Int32) (p1 : Int32) : Option (Int32) := (F_J0_charAt_5068e tn tb p1).bind fun v1 => if v1 < 48 then (F_X5_isMember_L32 ) else ((F_J0_charAt_5068e tn tb p1).bind fun v5 => if 55 < v5 then (F_X5_isMember_L32 ) else ((F_X5_isCount tn tb p1).bind fun v8 => if v8 = 0 then (F_X5_isMember_L33 1) else (F_X5_isMember_L32 )))
set_option maxRecDepth 100000 in
set_option maxHeartbeats 4000000 in
theorem c_X5_isMember {l : Launch} {D : va_G} {cy : Nat → ClassId} {t0 t1 : Nat} {hash : Int32} {hz : Int32} {tn : Nat} {tb : Nat → Int32} {p1 : Int32}  {val : Int32} (hf : F_X5_isMember tn tb p1 = some val) : gCt l D cy yX5_isMember cX5_isMember 2 (some .boolean) 6 128 0 0 [.ref t0, .int p1] (wStr cy t0 t1 hash hz tn tb) ([]) 0 (fun _ : Unit => some (.int val)) (fun _ => []) := by
  refine g_begin (by decide +kernel) (Nat.le_of_ble_eq_true rfl) ?_
  intro X Q hl hR hD hy hro hn C hin E
  subst hl; subst hD; subst hy
  replace C : gC X "SecretVault$PolicySyntax" cX5_isMember (some .boolean) := C
  unfold F_X5_isMember at hf
  have H33 : ∀ (s0_33 : Int32), F_X5_isMember_L33 s0_33 = some val → gW X Q 0 0 ([]) [(0, .ref t0), (1, .int p1)] [.int s0_33] 33 := by
    intro s0_33 hf
    unfold F_X5_isMember_L33 at hf
    obtain ⟨c4, hf⟩ := gg_of hf
    obtain rfl := Option.some.inj hf
    exact g_zret C E () (gnar_of c4) dX5_isMember_33 rfl rfl rfl (Nat.le_of_ble_eq_true rfl) (Nat.le_of_ble_eq_true rfl)
  have H32 :  F_X5_isMember_L32 = some val → gW X Q 0 0 ([]) [(0, .ref t0), (1, .int p1)] [] 32 := by
    intro hf
    unfold F_X5_isMember_L32 at hf
    refine g_iconst C (v := 0) dX5_isMember_32 (by decide) ?_
    exact H33 0 hf
  show gW X Q 0 0 ([]) [(0, .ref t0), (1, .int p1)] [] 0
  refine g_aload_n C 0 dX5_isMember_0 rfl ?_
  refine g_iload_n C 1 dX5_isMember_1 rfl ?_
  obtain ⟨v1, h2, hf⟩ := opt_bind hf
  refine g_callV C (c_J0_charAt_5068e (l := x_l X) (D := x_D X) (cy := x_y X) (t0 := t0) (t1 := t1) (hash := hash) (hz := hz) (tn := tn) (tb := tb) (p0 := p1) h2) (As := [.int p1]) (rest := []) (wr := []) (ws' := fun _ => []) (st' := fun _ => [.int v1]) (ci := 0) 1 0 ⟨_, by rw [hro]; rfl⟩ rfl rfl mw_5_91 mw_1_6 mw_5_176 mw_5_89 mw_5_90 hd_J0_charAt_5068e rfl (g_rm hR rfl rfl) [] [] [] ⟨rfl, rfl, rfl, rfl, by decide, gRoIn_p [0, 1] (by rw [hro]; rfl) (by decide), rfl, fun _ => rfl⟩ rfl (Nat.le_of_ble_eq_true rfl) dX5_isMember_2 (g_rc hR (Nat.le_of_ble_eq_true rfl) (Nat.le_of_ble_eq_true rfl)) (ck' := 0) (sk' := 0) rfl rfl (fun _ => rfl) (fun _ _ => ?_) (fun _ hx => absurd rfl hx)
  refine g_bipush C (v := 48) dX5_isMember_5 (by decide) ?_
  refine g_icmp_lt C 32 dX5_isMember_7 (by decide) (fun c3 => ?_) (fun c3 => ?_)
  · have hf := opt_pos c3 hf
    exact H32 hf
  · have hf := opt_neg c3 hf
    refine g_aload_n C 0 dX5_isMember_10 rfl ?_
    refine g_iload_n C 1 dX5_isMember_11 rfl ?_
    obtain ⟨v5, h6, hf⟩ := opt_bind hf
    refine g_callV C (c_J0_charAt_5068e (l := x_l X) (D := x_D X) (cy := x_y X) (t0 := t0) (t1 := t1) (hash := hash) (hz := hz) (tn := tn) (tb := tb) (p0 := p1) h6) (As := [.int p1]) (rest := []) (wr := []) (ws' := fun _ => []) (st' := fun _ => [.int v5]) (ci := 0) 1 0 ⟨_, by rw [hro]; rfl⟩ rfl rfl mw_5_91 mw_1_6 mw_5_176 mw_5_89 mw_5_90 hd_J0_charAt_5068e rfl (g_rm hR rfl rfl) [] [] [] ⟨rfl, rfl, rfl, rfl, by decide, gRoIn_p [0, 1] (by rw [hro]; rfl) (by decide), rfl, fun _ => rfl⟩ rfl (Nat.le_of_ble_eq_true rfl) dX5_isMember_12 (g_rc hR (Nat.le_of_ble_eq_true rfl) (Nat.le_of_ble_eq_true rfl)) (ck' := 0) (sk' := 0) rfl rfl (fun _ => rfl) (fun _ _ => ?_) (fun _ hx => absurd rfl hx)
    refine g_bipush C (v := 55) dX5_isMember_15 (by decide) ?_
    refine g_icmp_gt C 32 dX5_isMember_17 (by decide) (fun c7 => ?_) (fun c7 => ?_)
    · have hf := opt_pos c7 hf
      exact H32 hf
    · have hf := opt_neg c7 hf
      refine g_aload_n C 0 dX5_isMember_20 rfl ?_
      refine g_iload_n C 1 dX5_isMember_21 rfl ?_
      obtain ⟨v8, h9, hf⟩ := opt_bind hf
      refine g_callS C (c_X5_isCount (l := x_l X) (D := x_D X) (cy := x_y X) (t0 := t0) (t1 := t1) (hash := hash) (hz := hz) (tn := tn) (tb := tb) (p1 := p1) h9) (As := [.ref t0, .int p1]) (rest := []) (wr := []) (ws' := fun _ => []) (st' := fun _ => [.int v8]) 2 mw_5_175 mw_1_31 mw_5_184 mw_5_174 hd_X5_isCount rfl (g_rm hR rfl rfl) [] [] [] ⟨rfl, rfl, rfl, rfl, by decide, gRoIn_p [0, 1] (by rw [hro]; rfl) (by decide), rfl, fun _ => rfl⟩ rfl (Nat.le_of_ble_eq_true rfl) dX5_isMember_22 (g_rc hR (Nat.le_of_ble_eq_true rfl) (Nat.le_of_ble_eq_true rfl)) (ck' := 0) (sk' := 0) rfl rfl (fun _ => rfl) (fun _ _ => ?_) (fun _ hx => absurd rfl hx)
      refine g_if_ne C 32 dX5_isMember_25 (by decide) (fun c10 => ?_) (fun c10 => ?_)
      · have hf := opt_neg c10 hf
        exact H32 hf
      · have hf := opt_pos c10 hf
        refine g_iconst C (v := 1) dX5_isMember_28 (by decide) ?_
        refine g_goto C 33 dX5_isMember_29 (by decide) ?_
        exact H33 1 hf
/-! X4_begin -/
theorem hd_X4_begin : yX4_begin.cls ≠ "java/lang/invoke/MethodHandle" ∧ yX4_begin.cls ≠ "java/lang/invoke/VarHandle" ∧ (parseMethodDescriptor yX4_begin.desc).map (fun d => d.parameters.length) = some 1 := by decide +kernel
def F_X4_begin_L34   (opn_34 : Int32) (due_34 : Int32) (oc_34 : Nat → Int32) : Option (Int32 × Int32 × (Nat → Int32)) := some (opn_34, 0, oc_34)
def F_X4_begin (opn : Int32) (due : Int32) (on : Nat) (oc : Nat → Int32) (p0 : Int32) : Option (Int32 × Int32 × (Nat → Int32)) := if (Int32.ofNat on) ≤ (opn + 1) then (F_X4_begin_L34 opn due oc) else (gg (gi (opn + 1) on) (gl (upd oc (Int32.toNatClampNeg (opn + 1)) (vp_nar .boolean p0)) fun f3 => F_X4_begin_L34 (opn + 1) due f3))
set_option maxRecDepth 100000 in
set_option maxHeartbeats 4000000 in
theorem c_X4_begin {l : Launch} {D : va_G} {cy : Nat → ClassId} {r0 r1 : Nat} {t0 t1 : Nat} {opn : Int32} {due : Int32} {on : Nat} {oc : Nat → Int32} {hash : Int32} {hz : Int32} {tn : Nat} {tb : Nat → Int32} {p0 : Int32}  {val : Int32 × Int32 × (Nat → Int32)} (hf : F_X4_begin opn due on oc p0 = some val) : gCt l D cy yX4_begin cX4_begin 2 none 0 0 0 0 [.ref r0, .int p0] (wStr cy t0 t1 hash hz tn tb) ((wPR cy r0 r1 t0 opn due on oc)) 0 (fun u : Nat => none) (fun u => (wPR cy r0 u t0 val.1 val.2.1 on val.2.2)) := by
  refine g_begin (by decide +kernel) (Nat.le_of_ble_eq_true rfl) ?_
  intro X Q hl hR hD hy hro hn C hin E
  subst hl; subst hD; subst hy
  replace C : gC X "SecretVault$PolicyReader" cX4_begin none := C
  unfold F_X4_begin at hf
  have H34 : ∀ (a0_1_34 : Nat) (opn_34 : Int32) (due_34 : Int32) (oc_34 : Nat → Int32), F_X4_begin_L34 opn_34 due_34 oc_34 = some val → gW X Q 0 0 ((wPR (x_y X) r0 a0_1_34 t0 opn_34 due_34 on oc_34)) [(0, .ref r0), (1, .int p0)] [] 34 := by
    intro a0_1_34 opn_34 due_34 oc_34 hf
    unfold F_X4_begin_L34 at hf
    refine g_aload_n C 0 dX4_begin_34 rfl ?_
    refine g_iconst C (v := 0) dX4_begin_35 (by decide) ?_
    refine g_put C (ws' := (wPR (x_y X) r0 a0_1_34 t0 opn_34 0 on oc_34)) 0 3 rfl rfl wiX4 (by decide) tyX4_ok nmX4 mw_5_146 rfl rfl rfl rfl (Nat.le_of_ble_eq_true rfl) rfl dX4_begin_36 ?_
    refine g_eqw (ws' := (wPR (x_y X) r0 a0_1_34 t0 opn_34 0 on oc_34)) rfl ?_
    obtain rfl := Option.some.inj hf
    exact g_vret C E a0_1_34 dX4_begin_39 rfl rfl rfl (Nat.le_of_ble_eq_true rfl) (Nat.le_of_ble_eq_true rfl)
  show gW X Q 0 0 ((wPR (x_y X) r0 r1 t0 opn due on oc)) [(0, .ref r0), (1, .int p0)] [] 0
  refine g_aload_n C 0 dX4_begin_0 rfl ?_
  refine g_get C 0 2 rfl rfl wiX4 (by decide) mw_5_145 rfl rfl dX4_begin_1 ?_
  refine g_iconst C (v := 1) dX4_begin_4 (by decide) ?_
  refine g_iadd C dX4_begin_5 ?_
  refine g_aload_n C 0 dX4_begin_6 rfl ?_
  refine g_get C 0 1 rfl rfl wiX4 (by decide) mw_5_144 rfl rfl dX4_begin_7 ?_
  refine g_alen C 1 (t0 := 1) (v := Int32.ofNat on) rfl rfl rfl dX4_begin_10 ?_
  refine g_icmp_ge C 34 dX4_begin_11 (by decide) (fun c1 => ?_) (fun c1 => ?_)
  · have hf := opt_pos c1 hf
    exact H34 r1 opn due oc hf
  · have hf := opt_neg c1 hf
    refine g_aload_n C 0 dX4_begin_14 rfl ?_
    refine g_dup C dX4_begin_15 rfl ?_
    refine g_get C 0 2 rfl rfl wiX4 (by decide) mw_5_145 rfl rfl dX4_begin_16 ?_
    refine g_iconst C (v := 1) dX4_begin_19 (by decide) ?_
    refine g_iadd C dX4_begin_20 ?_
    refine g_put C (ws' := (wPR (x_y X) r0 r1 t0 (opn + 1) due on oc)) 0 2 rfl rfl wiX4 (by decide) tyX4_ok nmX4 mw_5_145 rfl rfl rfl rfl (Nat.le_of_ble_eq_true rfl) rfl dX4_begin_21 ?_
    refine g_aload_n C 0 dX4_begin_24 rfl ?_
    refine g_get C 0 1 rfl rfl wiX4 (by decide) mw_5_144 rfl rfl dX4_begin_25 ?_
    refine g_aload_n C 0 dX4_begin_28 rfl ?_
    refine g_get C 0 2 rfl rfl wiX4 (by decide) mw_5_145 rfl rfl dX4_begin_29 ?_
    refine g_iload_n C 1 dX4_begin_32 rfl ?_
    obtain ⟨c2, hf⟩ := gg_of hf
    obtain ⟨f3, ef3, hf⟩ := opt_let hf
    refine g_zast C (ws' := (wPR (x_y X) r0 r1 t0 (opn + 1) due on f3)) 1 rfl (gi_in c2) (by rw [ef3]; rfl) dX4_begin_33 ?_
    exact H34 r1 (opn + 1) due f3 hf
/-! X4_takesBeginOfPart -/
theorem hd_X4_takesBeginOfPart : yX4_takesBeginOfPart.cls ≠ "java/lang/invoke/MethodHandle" ∧ yX4_takesBeginOfPart.cls ≠ "java/lang/invoke/VarHandle" ∧ (parseMethodDescriptor yX4_takesBeginOfPart.desc).map (fun d => d.parameters.length) = some 2 := by decide +kernel
def F_X4_takesBeginOfPart_L36   (opn_36 : Int32) (due_36 : Int32) (oc_36 : Nat → Int32) : Option (Int32 × Int32 × Int32 × (Nat → Int32)) := some (1, opn_36, 1, oc_36)
def F_X4_takesBeginOfPart (opn : Int32) (due : Int32) (on : Nat) (oc : Nat → Int32) (tn : Nat) (tb : Nat → Int32) (p0 : Int32) (p1 : Int32) : Option (Int32 × Int32 × Int32 × (Nat → Int32)) := if p1 = 40 then ((F_X4_begin opn due on oc 0).bind fun v10 => some (1, v10.1, v10.2.1, v10.2.2)) else (if p1 = 56 then (F_X4_takesBeginOfPart_L36 opn due oc) else (if p1 = 57 then (F_X4_takesBeginOfPart_L36 opn due oc) else ((F_X5_isCount tn tb p0).bind fun v4 => if v4 = 0 then ((F_X5_isMember tn tb p0).bind fun v7 => gg (gnar .boolean v7) (some (v7, opn, 4, oc))) else (F_X4_takesBeginOfPart_L36 opn due oc))))
set_option maxRecDepth 100000 in
set_option maxHeartbeats 4000000 in
theorem c_X4_takesBeginOfPart {l : Launch} {D : va_G} {cy : Nat → ClassId} {r0 r1 : Nat} {t0 t1 : Nat} {opn : Int32} {due : Int32} {on : Nat} {oc : Nat → Int32} {hash : Int32} {hz : Int32} {tn : Nat} {tb : Nat → Int32} {p0 : Int32} {p1 : Int32}  {val : Int32 × Int32 × Int32 × (Nat → Int32)} (hf : F_X4_takesBeginOfPart opn due on oc tn tb p0 p1 = some val) : gCt l D cy yX4_takesBeginOfPart cX4_takesBeginOfPart 3 (some .boolean) 7 149 0 0 [.ref r0, .int p0, .int p1] (wStr cy t0 t1 hash hz tn tb) ((wPR cy r0 r1 t0 opn due on oc)) 0 (fun u : Nat => some (.int val.1)) (fun u => (wPR cy r0 u t0 val.2.1 val.2.2.1 on val.2.2.2)) := by
  refine g_begin (by decide +kernel) (Nat.le_of_ble_eq_true rfl) ?_
  intro X Q hl hR hD hy hro hn C hin E
  subst hl; subst hD; subst hy
  replace C : gC X "SecretVault$PolicyReader" cX4_takesBeginOfPart (some .boolean) := C
  unfold F_X4_takesBeginOfPart at hf
  have H36 : ∀ (a0_1_36 : Nat) (opn_36 : Int32) (due_36 : Int32) (oc_36 : Nat → Int32), F_X4_takesBeginOfPart_L36 opn_36 due_36 oc_36 = some val → gW X Q 0 0 ((wPR (x_y X) r0 a0_1_36 t0 opn_36 due_36 on oc_36)) [(0, .ref r0), (1, .int p0), (2, .int p1)] [] 36 := by
    intro a0_1_36 opn_36 due_36 oc_36 hf
    unfold F_X4_takesBeginOfPart_L36 at hf
    refine g_aload_n C 0 dX4_takesBeginOfPart_36 rfl ?_
    refine g_iconst C (v := 1) dX4_takesBeginOfPart_37 (by decide) ?_
    refine g_put C (ws' := (wPR (x_y X) r0 a0_1_36 t0 opn_36 1 on oc_36)) 0 3 rfl rfl wiX4 (by decide) tyX4_ok nmX4 mw_5_146 rfl rfl rfl rfl (Nat.le_of_ble_eq_true rfl) rfl dX4_takesBeginOfPart_38 ?_
    refine g_iconst C (v := 1) dX4_takesBeginOfPart_41 (by decide) ?_
    refine g_eqw (ws' := (wPR (x_y X) r0 a0_1_36 t0 opn_36 1 on oc_36)) rfl ?_
    obtain rfl := Option.some.inj hf
    exact g_zret C E a0_1_36 rfl dX4_takesBeginOfPart_42 rfl rfl rfl (Nat.le_of_ble_eq_true rfl) (Nat.le_of_ble_eq_true rfl)
  show gW X Q 0 0 ((wPR (x_y X) r0 r1 t0 opn due on oc)) [(0, .ref r0), (1, .int p0), (2, .int p1)] [] 0
  refine g_iload_n C 2 dX4_takesBeginOfPart_0 rfl ?_
  refine g_bipush C (v := 40) dX4_takesBeginOfPart_1 (by decide) ?_
  refine g_icmp_ne C 13 dX4_takesBeginOfPart_3 (by decide) (fun c1 => ?_) (fun c1 => ?_)
  · have hf := opt_neg c1 hf
    refine g_iload_n C 2 dX4_takesBeginOfPart_13 rfl ?_
    refine g_bipush C (v := 56) dX4_takesBeginOfPart_14 (by decide) ?_
    refine g_icmp_eq C 36 dX4_takesBeginOfPart_16 (by decide) (fun c2 => ?_) (fun c2 => ?_)
    · have hf := opt_pos c2 hf
      exact H36 r1 opn due oc hf
    · have hf := opt_neg c2 hf
      refine g_iload_n C 2 dX4_takesBeginOfPart_19 rfl ?_
      refine g_bipush C (v := 57) dX4_takesBeginOfPart_20 (by decide) ?_
      refine g_icmp_eq C 36 dX4_takesBeginOfPart_22 (by decide) (fun c3 => ?_) (fun c3 => ?_)
      · have hf := opt_pos c3 hf
        exact H36 r1 opn due oc hf
      · have hf := opt_neg c3 hf
        refine g_aload_n C 0 dX4_takesBeginOfPart_25 rfl ?_
        refine g_get C 0 0 rfl rfl wiX4 (by decide) mw_5_143 rfl rfl dX4_takesBeginOfPart_26 ?_
        refine g_iload_n C 1 dX4_takesBeginOfPart_29 rfl ?_
        obtain ⟨v4, h5, hf⟩ := opt_bind hf
        refine g_callS C (c_X5_isCount (l := x_l X) (D := x_D X) (cy := x_y X) (t0 := t0) (t1 := t1) (hash := hash) (hz := hz) (tn := tn) (tb := tb) (p1 := p0) h5) (As := [.ref t0, .int p0]) (rest := []) (wr := (wPR (x_y X) r0 r1 t0 opn due on oc)) (ws' := fun _ => (wPR (x_y X) r0 r1 t0 opn due on oc)) (st' := fun _ => [.int v4]) 2 mw_5_175 mw_1_31 mw_5_173 mw_5_174 hd_X5_isCount rfl (g_rm hR rfl rfl) [] [0, 1] [0, 1] ⟨rfl, rfl, rfl, rfl, by decide, gRoIn_p [2, 3] (by rw [hro]; rfl) (by decide), rfl, fun _ => rfl⟩ rfl (Nat.le_of_ble_eq_true rfl) dX4_takesBeginOfPart_30 (g_rc hR (Nat.le_of_ble_eq_true rfl) (Nat.le_of_ble_eq_true rfl)) (ck' := 0) (sk' := 0) rfl rfl (fun _ => rfl) (fun _ _ => ?_) (fun _ hx => absurd rfl hx)
        refine g_if_eq C 43 dX4_takesBeginOfPart_33 (by decide) (fun c6 => ?_) (fun c6 => ?_)
        · have hf := opt_pos c6 hf
          refine g_aload_n C 0 dX4_takesBeginOfPart_43 rfl ?_
          refine g_iconst C (v := 4) dX4_takesBeginOfPart_44 (by decide) ?_
          refine g_put C (ws' := (wPR (x_y X) r0 r1 t0 opn 4 on oc)) 0 3 rfl rfl wiX4 (by decide) tyX4_ok nmX4 mw_5_146 rfl rfl rfl rfl (Nat.le_of_ble_eq_true rfl) rfl dX4_takesBeginOfPart_45 ?_
          refine g_aload_n C 0 dX4_takesBeginOfPart_48 rfl ?_
          refine g_get C 0 0 rfl rfl wiX4 (by decide) mw_5_143 rfl rfl dX4_takesBeginOfPart_49 ?_
          refine g_iload_n C 1 dX4_takesBeginOfPart_52 rfl ?_
          obtain ⟨v7, h8, hf⟩ := opt_bind hf
          refine g_callS C (c_X5_isMember (l := x_l X) (D := x_D X) (cy := x_y X) (t0 := t0) (t1 := t1) (hash := hash) (hz := hz) (tn := tn) (tb := tb) (p1 := p0) h8) (As := [.ref t0, .int p0]) (rest := []) (wr := (wPR (x_y X) r0 r1 t0 opn 4 on oc)) (ws' := fun _ => (wPR (x_y X) r0 r1 t0 opn 4 on oc)) (st' := fun _ => [.int v7]) 2 mw_5_183 mw_1_31 mw_5_181 mw_5_182 hd_X5_isMember rfl (g_rm hR rfl rfl) [] [0, 1] [0, 1] ⟨rfl, rfl, rfl, rfl, by decide, gRoIn_p [2, 3] (by rw [hro]; rfl) (by decide), rfl, fun _ => rfl⟩ rfl (Nat.le_of_ble_eq_true rfl) dX4_takesBeginOfPart_53 (g_rc hR (Nat.le_of_ble_eq_true rfl) (Nat.le_of_ble_eq_true rfl)) (ck' := 0) (sk' := 0) rfl rfl (fun _ => rfl) (fun _ _ => ?_) (fun _ hx => absurd rfl hx)
          refine g_eqw (ws' := (wPR (x_y X) r0 r1 t0 opn 4 on oc)) rfl ?_
          obtain ⟨c9, hf⟩ := gg_of hf
          obtain rfl := Option.some.inj hf
          exact g_zret C E r1 (gnar_of c9) dX4_takesBeginOfPart_56 rfl rfl rfl (Nat.le_of_ble_eq_true rfl) (Nat.le_of_ble_eq_true rfl)
        · have hf := opt_neg c6 hf
          exact H36 r1 opn due oc hf
  · have hf := opt_pos c1 hf
    refine g_aload_n C 0 dX4_takesBeginOfPart_6 rfl ?_
    refine g_iconst C (v := 0) dX4_takesBeginOfPart_7 (by decide) ?_
    obtain ⟨v10, h11, hf⟩ := opt_bind hf
    refine g_callV C (c_X4_begin (l := x_l X) (D := x_D X) (cy := x_y X) (r0 := r0) (r1 := r1) (t0 := t0) (t1 := t1) (opn := opn) (due := due) (on := on) (oc := oc) (hash := hash) (hz := hz) (tn := tn) (tb := tb) (p0 := 0) h11) (As := [.int 0]) (rest := []) (wr := []) (ws' := fun u12 => (wPR (x_y X) r0 u12 t0 v10.1 v10.2.1 on v10.2.2)) (st' := fun u12 => []) (ci := 6) 1 0 ⟨_, rfl⟩ rfl rfl mw_5_172 mw_1_30 mw_5_169 mw_5_171 mp_18 hd_X4_begin rfl (g_rm hR rfl rfl) [0, 1] [] [0, 1] ⟨rfl, rfl, rfl, rfl, by decide, gRoIn_p [2, 3] (by rw [hro]; rfl) (by decide), rfl, fun _ => rfl⟩ rfl (Nat.le_of_ble_eq_true rfl) dX4_takesBeginOfPart_8 (g_rc hR (Nat.le_of_ble_eq_true rfl) (Nat.le_of_ble_eq_true rfl)) (ck' := 0) (sk' := 0) rfl rfl (fun _ => rfl) (fun u12 _ => ?_) (fun _ hx => absurd rfl hx)
    refine g_iconst C (v := 1) dX4_takesBeginOfPart_11 (by decide) ?_
    refine g_eqw (ws' := (wPR (x_y X) r0 u12 t0 v10.1 v10.2.1 on v10.2.2)) rfl ?_
    obtain rfl := Option.some.inj hf
    exact g_zret C E u12 rfl dX4_takesBeginOfPart_12 rfl rfl rfl (Nat.le_of_ble_eq_true rfl) (Nat.le_of_ble_eq_true rfl)
/-! X4_takesBehindPart -/
theorem hd_X4_takesBehindPart : yX4_takesBehindPart.cls ≠ "java/lang/invoke/MethodHandle" ∧ yX4_takesBehindPart.cls ≠ "java/lang/invoke/VarHandle" ∧ (parseMethodDescriptor yX4_takesBehindPart.desc).map (fun d => d.parameters.length) = some 1 := by decide +kernel
def F_X4_takesBehindPart_L65   (opn_65 : Int32) (due_65 : Int32) (s0_65 : Int32) : Option (Int32 × Int32 × Int32) := gg (gnar .boolean s0_65) (some (s0_65, opn_65, due_65))
def F_X4_takesBehindPart_L60   (opn_60 : Int32) (due_60 : Int32) : Option (Int32 × Int32 × Int32) := F_X4_takesBehindPart_L65 opn_60 due_60 1
def F_X4_takesBehindPart_L64   (opn_64 : Int32) (due_64 : Int32) : Option (Int32 × Int32 × Int32) := F_X4_takesBehindPart_L65 opn_64 due_64 0
def F_X4_takesBehindPart_L25 (on : Nat) (oc : Nat → Int32) (p0 : Int32)  (opn_25 : Int32) (due_25 : Int32) : Option (Int32 × Int32 × Int32) := if p0 = 38 then (F_X4_takesBehindPart_L60 opn_25 0) else (if p0 = 124 then (F_X4_takesBehindPart_L60 opn_25 0) else (if p0 = 44 then (gg (gi opn_25 on) (if (oc (Int32.toNatClampNeg opn_25)) = 0 then (F_X4_takesBehindPart_L64 opn_25 0) else (F_X4_takesBehindPart_L60 opn_25 0))) else (F_X4_takesBehindPart_L64 opn_25 0)))
def F_X4_takesBehindPart (opn : Int32) (due : Int32) (on : Nat) (oc : Nat → Int32) (p0 : Int32) : Option (Int32 × Int32 × Int32) := if p0 = 41 then (if opn ≤ 0 then (F_X4_takesBehindPart_L25 on oc p0 opn due) else (some (1, opn - 1, due))) else (F_X4_takesBehindPart_L25 on oc p0 opn due)
set_option maxRecDepth 100000 in
set_option maxHeartbeats 4000000 in
theorem c_X4_takesBehindPart {l : Launch} {D : va_G} {cy : Nat → ClassId} {r0 r1 : Nat} {t0 t1 : Nat} {opn : Int32} {due : Int32} {on : Nat} {oc : Nat → Int32} {hash : Int32} {hz : Int32} {tn : Nat} {tb : Nat → Int32} {p0 : Int32}  {val : Int32 × Int32 × Int32} (hf : F_X4_takesBehindPart opn due on oc p0 = some val) : gCt l D cy yX4_takesBehindPart cX4_takesBehindPart 2 (some .boolean) 0 0 0 0 [.ref r0, .int p0] (wStr cy t0 t1 hash hz tn tb) ((wPR cy r0 r1 t0 opn due on oc)) 0 (fun u : Nat => some (.int val.1)) (fun u => (wPR cy r0 u t0 val.2.1 val.2.2 on oc)) := by
  refine g_begin (by decide +kernel) (Nat.le_of_ble_eq_true rfl) ?_
  intro X Q hl hR hD hy hro hn C hin E
  subst hl; subst hD; subst hy
  replace C : gC X "SecretVault$PolicyReader" cX4_takesBehindPart (some .boolean) := C
  unfold F_X4_takesBehindPart at hf
  have H65 : ∀ (a0_1_65 : Nat) (opn_65 : Int32) (due_65 : Int32) (s0_65 : Int32), F_X4_takesBehindPart_L65 opn_65 due_65 s0_65 = some val → gW X Q 0 0 ((wPR (x_y X) r0 a0_1_65 t0 opn_65 due_65 on oc)) [(0, .ref r0), (1, .int p0)] [.int s0_65] 65 := by
    intro a0_1_65 opn_65 due_65 s0_65 hf
    unfold F_X4_takesBehindPart_L65 at hf
    refine g_eqw (ws' := (wPR (x_y X) r0 a0_1_65 t0 opn_65 due_65 on oc)) rfl ?_
    obtain ⟨c3, hf⟩ := gg_of hf
    obtain rfl := Option.some.inj hf
    exact g_zret C E a0_1_65 (gnar_of c3) dX4_takesBehindPart_65 rfl rfl rfl (Nat.le_of_ble_eq_true rfl) (Nat.le_of_ble_eq_true rfl)
  have H60 : ∀ (a0_1_60 : Nat) (opn_60 : Int32) (due_60 : Int32), F_X4_takesBehindPart_L60 opn_60 due_60 = some val → gW X Q 0 0 ((wPR (x_y X) r0 a0_1_60 t0 opn_60 due_60 on oc)) [(0, .ref r0), (1, .int p0)] [] 60 := by
    intro a0_1_60 opn_60 due_60 hf
    unfold F_X4_takesBehindPart_L60 at hf
    refine g_iconst C (v := 1) dX4_takesBehindPart_60 (by decide) ?_
    refine g_goto C 65 dX4_takesBehindPart_61 (by decide) ?_
    exact H65 a0_1_60 opn_60 due_60 1 hf
  have H64 : ∀ (a0_1_64 : Nat) (opn_64 : Int32) (due_64 : Int32), F_X4_takesBehindPart_L64 opn_64 due_64 = some val → gW X Q 0 0 ((wPR (x_y X) r0 a0_1_64 t0 opn_64 due_64 on oc)) [(0, .ref r0), (1, .int p0)] [] 64 := by
    intro a0_1_64 opn_64 due_64 hf
    unfold F_X4_takesBehindPart_L64 at hf
    refine g_iconst C (v := 0) dX4_takesBehindPart_64 (by decide) ?_
    exact H65 a0_1_64 opn_64 due_64 0 hf
  have H25 : ∀ (a0_1_25 : Nat) (opn_25 : Int32) (due_25 : Int32), F_X4_takesBehindPart_L25 on oc p0 opn_25 due_25 = some val → gW X Q 0 0 ((wPR (x_y X) r0 a0_1_25 t0 opn_25 due_25 on oc)) [(0, .ref r0), (1, .int p0)] [] 25 := by
    intro a0_1_25 opn_25 due_25 hf
    unfold F_X4_takesBehindPart_L25 at hf
    refine g_aload_n C 0 dX4_takesBehindPart_25 rfl ?_
    refine g_iconst C (v := 0) dX4_takesBehindPart_26 (by decide) ?_
    refine g_put C (ws' := (wPR (x_y X) r0 a0_1_25 t0 opn_25 0 on oc)) 0 3 rfl rfl wiX4 (by decide) tyX4_ok nmX4 mw_5_146 rfl rfl rfl rfl (Nat.le_of_ble_eq_true rfl) rfl dX4_takesBehindPart_27 ?_
    refine g_iload_n C 1 dX4_takesBehindPart_30 rfl ?_
    refine g_bipush C (v := 38) dX4_takesBehindPart_31 (by decide) ?_
    refine g_icmp_eq C 60 dX4_takesBehindPart_33 (by decide) (fun c2 => ?_) (fun c2 => ?_)
    · have hf := opt_pos c2 hf
      exact H60 a0_1_25 opn_25 0 hf
    · have hf := opt_neg c2 hf
      refine g_iload_n C 1 dX4_takesBehindPart_36 rfl ?_
      refine g_bipush C (v := 124) dX4_takesBehindPart_37 (by decide) ?_
      refine g_icmp_eq C 60 dX4_takesBehindPart_39 (by decide) (fun c4 => ?_) (fun c4 => ?_)
      · have hf := opt_pos c4 hf
        exact H60 a0_1_25 opn_25 0 hf
      · have hf := opt_neg c4 hf
        refine g_iload_n C 1 dX4_takesBehindPart_42 rfl ?_
        refine g_bipush C (v := 44) dX4_takesBehindPart_43 (by decide) ?_
        refine g_icmp_ne C 64 dX4_takesBehindPart_45 (by decide) (fun c5 => ?_) (fun c5 => ?_)
        · have hf := opt_neg c5 hf
          exact H64 a0_1_25 opn_25 0 hf
        · have hf := opt_pos c5 hf
          refine g_aload_n C 0 dX4_takesBehindPart_48 rfl ?_
          refine g_get C 0 1 rfl rfl wiX4 (by decide) mw_5_144 rfl rfl dX4_takesBehindPart_49 ?_
          refine g_aload_n C 0 dX4_takesBehindPart_52 rfl ?_
          refine g_get C 0 2 rfl rfl wiX4 (by decide) mw_5_145 rfl rfl dX4_takesBehindPart_53 ?_
          obtain ⟨c6, hf⟩ := gg_of hf
          refine g_zald C 1 rfl (gi_in c6) dX4_takesBehindPart_56 ?_
          refine g_if_eq C 64 dX4_takesBehindPart_57 (by decide) (fun c7 => ?_) (fun c7 => ?_)
          · have hf := opt_pos c7 hf
            exact H64 a0_1_25 opn_25 0 hf
          · have hf := opt_neg c7 hf
            exact H60 a0_1_25 opn_25 0 hf
  show gW X Q 0 0 ((wPR (x_y X) r0 r1 t0 opn due on oc)) [(0, .ref r0), (1, .int p0)] [] 0
  refine g_iload_n C 1 dX4_takesBehindPart_0 rfl ?_
  refine g_bipush C (v := 41) dX4_takesBehindPart_1 (by decide) ?_
  refine g_icmp_ne C 25 dX4_takesBehindPart_3 (by decide) (fun c1 => ?_) (fun c1 => ?_)
  · have hf := opt_neg c1 hf
    exact H25 r1 opn due hf
  · have hf := opt_pos c1 hf
    refine g_aload_n C 0 dX4_takesBehindPart_6 rfl ?_
    refine g_get C 0 2 rfl rfl wiX4 (by decide) mw_5_145 rfl rfl dX4_takesBehindPart_7 ?_
    refine g_if_le C 25 dX4_takesBehindPart_10 (by decide) (fun c8 => ?_) (fun c8 => ?_)
    · have hf := opt_pos c8 hf
      exact H25 r1 opn due hf
    · have hf := opt_neg c8 hf
      refine g_aload_n C 0 dX4_takesBehindPart_13 rfl ?_
      refine g_dup C dX4_takesBehindPart_14 rfl ?_
      refine g_get C 0 2 rfl rfl wiX4 (by decide) mw_5_145 rfl rfl dX4_takesBehindPart_15 ?_
      refine g_iconst C (v := 1) dX4_takesBehindPart_18 (by decide) ?_
      refine g_isub C dX4_takesBehindPart_19 ?_
      refine g_put C (ws' := (wPR (x_y X) r0 r1 t0 (opn - 1) due on oc)) 0 2 rfl rfl wiX4 (by decide) tyX4_ok nmX4 mw_5_145 rfl rfl rfl rfl (Nat.le_of_ble_eq_true rfl) rfl dX4_takesBehindPart_20 ?_
      refine g_iconst C (v := 1) dX4_takesBehindPart_23 (by decide) ?_
      refine g_eqw (ws' := (wPR (x_y X) r0 r1 t0 (opn - 1) due on oc)) rfl ?_
      obtain rfl := Option.some.inj hf
      exact g_zret C E r1 rfl dX4_takesBehindPart_24 rfl rfl rfl (Nat.le_of_ble_eq_true rfl) (Nat.le_of_ble_eq_true rfl)
/-! X4_takes -/
theorem hd_X4_takes : yX4_takes.cls ≠ "java/lang/invoke/MethodHandle" ∧ yX4_takes.cls ≠ "java/lang/invoke/VarHandle" ∧ (parseMethodDescriptor yX4_takes.desc).map (fun d => d.parameters.length) = some 1 := by decide +kernel
def F_X4_takes_L67   (opn_67 : Int32) (due_67 : Int32) (oc_67 : Nat → Int32) (s0_67 : Int32) : Option (Int32 × Int32 × Int32 × (Nat → Int32)) := gg (gnar .boolean s0_67) (some (s0_67, opn_67, due_67, oc_67))
def F_X4_takes_L84   (opn_84 : Int32) (due_84 : Int32) (oc_84 : Nat → Int32) (s0_84 : Int32) : Option (Int32 × Int32 × Int32 × (Nat → Int32)) := gg (gnar .boolean s0_84) (some (s0_84, opn_84, due_84, oc_84))
def F_X4_takes_L101   (opn_101 : Int32) (due_101 : Int32) (oc_101 : Nat → Int32) (s0_101 : Int32) : Option (Int32 × Int32 × Int32 × (Nat → Int32)) := gg (gnar .boolean s0_101) (some (s0_101, opn_101, due_101, oc_101))
def F_X4_takes (opn : Int32) (due : Int32) (on : Nat) (oc : Nat → Int32) (tn : Nat) (tb : Nat → Int32) (p0 : Int32) : Option (Int32 × Int32 × Int32 × (Nat → Int32)) := (F_J0_charAt_5068e tn tb p0).bind fun v1 => if due = 0 then ((F_X4_takesBeginOfPart opn due on oc tn tb p0 v1).bind fun v4 => gg (gnar .boolean v4.1) (some (v4.1, v4.2.1, v4.2.2.1, v4.2.2.2))) else (if due = 1 then (if v1 = 111 then (F_X4_takes_L67 opn 2 oc 1) else (F_X4_takes_L67 opn 2 oc 0)) else (if due = 2 then (if v1 = 102 then (F_X4_takes_L84 opn 3 oc 1) else (F_X4_takes_L84 opn 3 oc 0)) else (if due = 3 then ((F_X4_begin opn due on oc 1).bind fun v15 => if v1 = 40 then (F_X4_takes_L101 v15.1 v15.2.1 v15.2.2 1) else (F_X4_takes_L101 v15.1 v15.2.1 v15.2.2 0)) else ((F_X4_takesBehindPart opn due on oc v1).bind fun v20 => gg (gnar .boolean v20.1) (some (v20.1, v20.2.1, v20.2.2, oc))))))
set_option maxRecDepth 100000 in
set_option maxHeartbeats 4000000 in
theorem c_X4_takes {l : Launch} {D : va_G} {cy : Nat → ClassId} {r0 r1 : Nat} {t0 t1 : Nat} {opn : Int32} {due : Int32} {on : Nat} {oc : Nat → Int32} {hash : Int32} {hz : Int32} {tn : Nat} {tb : Nat → Int32} {p0 : Int32}  {val : Int32 × Int32 × Int32 × (Nat → Int32)} (hf : F_X4_takes opn due on oc tn tb p0 = some val) : gCt l D cy yX4_takes cX4_takes 3 (some .boolean) 8 171 0 0 [.ref r0, .int p0] (wStr cy t0 t1 hash hz tn tb) ((wPR cy r0 r1 t0 opn due on oc)) 0 (fun u : Nat => some (.int val.1)) (fun u => (wPR cy r0 u t0 val.2.1 val.2.2.1 on val.2.2.2)) := by
  refine g_begin (by decide +kernel) (Nat.le_of_ble_eq_true rfl) ?_
  intro X Q hl hR hD hy hro hn C hin E
  subst hl; subst hD; subst hy
  replace C : gC X "SecretVault$PolicyReader" cX4_takes (some .boolean) := C
  unfold F_X4_takes at hf
  have H67 : ∀ (a0_1_67 : Nat) (opn_67 : Int32) (due_67 : Int32) (oc_67 : Nat → Int32) (s0_67 : Int32), F_X4_takes_L67 opn_67 due_67 oc_67 s0_67 = some val → gW X Q 0 0 ((wPR (x_y X) r0 a0_1_67 t0 opn_67 due_67 on oc_67)) [(0, .ref r0), (1, .int p0)] [.int s0_67] 67 := by
    intro a0_1_67 opn_67 due_67 oc_67 s0_67 hf
    unfold F_X4_takes_L67 at hf
    refine g_eqw (ws' := (wPR (x_y X) r0 a0_1_67 t0 opn_67 due_67 on oc_67)) rfl ?_
    obtain ⟨c10, hf⟩ := gg_of hf
    obtain rfl := Option.some.inj hf
    exact g_zret C E a0_1_67 (gnar_of c10) dX4_takes_67 rfl rfl rfl (Nat.le_of_ble_eq_true rfl) (Nat.le_of_ble_eq_true rfl)
  have H84 : ∀ (a0_1_84 : Nat) (opn_84 : Int32) (due_84 : Int32) (oc_84 : Nat → Int32) (s0_84 : Int32), F_X4_takes_L84 opn_84 due_84 oc_84 s0_84 = some val → gW X Q 0 0 ((wPR (x_y X) r0 a0_1_84 t0 opn_84 due_84 on oc_84)) [(0, .ref r0), (1, .int p0)] [.int s0_84] 84 := by
    intro a0_1_84 opn_84 due_84 oc_84 s0_84 hf
    unfold F_X4_takes_L84 at hf
    refine g_eqw (ws' := (wPR (x_y X) r0 a0_1_84 t0 opn_84 due_84 on oc_84)) rfl ?_
    obtain ⟨c13, hf⟩ := gg_of hf
    obtain rfl := Option.some.inj hf
    exact g_zret C E a0_1_84 (gnar_of c13) dX4_takes_84 rfl rfl rfl (Nat.le_of_ble_eq_true rfl) (Nat.le_of_ble_eq_true rfl)
  have H101 : ∀ (a0_1_101 : Nat) (opn_101 : Int32) (due_101 : Int32) (oc_101 : Nat → Int32) (s0_101 : Int32), F_X4_takes_L101 opn_101 due_101 oc_101 s0_101 = some val → gW X Q 0 0 ((wPR (x_y X) r0 a0_1_101 t0 opn_101 due_101 on oc_101)) [(0, .ref r0), (1, .int p0)] [.int s0_101] 101 := by
    intro a0_1_101 opn_101 due_101 oc_101 s0_101 hf
    unfold F_X4_takes_L101 at hf
    refine g_eqw (ws' := (wPR (x_y X) r0 a0_1_101 t0 opn_101 due_101 on oc_101)) rfl ?_
    obtain ⟨c19, hf⟩ := gg_of hf
    obtain rfl := Option.some.inj hf
    exact g_zret C E a0_1_101 (gnar_of c19) dX4_takes_101 rfl rfl rfl (Nat.le_of_ble_eq_true rfl) (Nat.le_of_ble_eq_true rfl)
  show gW X Q 0 0 ((wPR (x_y X) r0 r1 t0 opn due on oc)) [(0, .ref r0), (1, .int p0)] [] 0
  refine g_aload_n C 0 dX4_takes_0 rfl ?_
  refine g_get C 0 0 rfl rfl wiX4 (by decide) mw_5_143 rfl rfl dX4_takes_1 ?_
  refine g_iload_n C 1 dX4_takes_4 rfl ?_
  obtain ⟨v1, h2, hf⟩ := opt_bind hf
  refine g_callV C (c_J0_charAt_5068e (l := x_l X) (D := x_D X) (cy := x_y X) (t0 := t0) (t1 := t1) (hash := hash) (hz := hz) (tn := tn) (tb := tb) (p0 := p0) h2) (As := [.int p0]) (rest := []) (wr := (wPR (x_y X) r0 r1 t0 opn due on oc)) (ws' := fun _ => (wPR (x_y X) r0 r1 t0 opn due on oc)) (st' := fun _ => [.int v1]) (ci := 0) 1 2 ⟨_, by rw [hro]; rfl⟩ rfl rfl mw_5_91 mw_1_6 mw_5_164 mw_5_89 mw_5_90 hd_J0_charAt_5068e rfl (g_rm hR rfl rfl) [] [0, 1] [0, 1] ⟨rfl, rfl, rfl, rfl, by decide, gRoIn_p [2, 3] (by rw [hro]; rfl) (by decide), rfl, fun _ => rfl⟩ rfl (Nat.le_of_ble_eq_true rfl) dX4_takes_5 (g_rc hR (Nat.le_of_ble_eq_true rfl) (Nat.le_of_ble_eq_true rfl)) (ck' := 0) (sk' := 0) rfl rfl (fun _ => rfl) (fun _ _ => ?_) (fun _ hx => absurd rfl hx)
  refine g_istore_n C (lv' := [(2, .int v1), (0, .ref r0), (1, .int p0)]) dX4_takes_8 (g_nlt hn rfl) rfl ?_
  refine g_aload_n C 1 dX4_takes_9 rfl ?_
  refine g_get C 0 3 rfl rfl wiX4 (by decide) mw_5_146 rfl rfl dX4_takes_10 ?_
  by_cases c3 : due = 0
  · have hf := opt_pos c3 hf
    refine g_tableIn C 44 (off := 31) dX4_takes_13 (by rw [c3]; decide) (by rw [c3]; decide) (by rw [c3]; rfl) (by decide) ?_
    refine g_aload_n C 1 dX4_takes_44 rfl ?_
    refine g_iload_n C 2 dX4_takes_45 rfl ?_
    refine g_iload_n C 0 dX4_takes_46 rfl ?_
    obtain ⟨v4, h5, hf⟩ := opt_bind hf
    refine g_callV C (c_X4_takesBeginOfPart (l := x_l X) (D := x_D X) (cy := x_y X) (r0 := r0) (r1 := r1) (t0 := t0) (t1 := t1) (opn := opn) (due := due) (on := on) (oc := oc) (hash := hash) (hz := hz) (tn := tn) (tb := tb) (p0 := p0) (p1 := v1) h5) (As := [.int p0, .int v1]) (rest := []) (wr := []) (ws' := fun u6 => (wPR (x_y X) r0 u6 t0 v4.2.1 v4.2.2.1 on v4.2.2.2)) (st' := fun u6 => [.int v4.1]) (ci := 6) 2 0 ⟨_, rfl⟩ rfl rfl mw_5_168 mw_1_30 mw_5_165 mw_5_167 mp_17 hd_X4_takesBeginOfPart rfl (g_rm hR rfl rfl) [0, 1] [] [0, 1] ⟨rfl, rfl, rfl, rfl, by decide, gRoIn_p [2, 3] (by rw [hro]; rfl) (by decide), rfl, fun _ => rfl⟩ rfl (Nat.le_of_ble_eq_true rfl) dX4_takes_47 (g_rc hR (Nat.le_of_ble_eq_true rfl) (Nat.le_of_ble_eq_true rfl)) (ck' := 0) (sk' := 0) rfl rfl (fun _ => rfl) (fun u6 _ => ?_) (fun _ hx => absurd rfl hx)
    refine g_eqw (ws' := (wPR (x_y X) r0 u6 t0 v4.2.1 v4.2.2.1 on v4.2.2.2)) rfl ?_
    obtain ⟨c7, hf⟩ := gg_of hf
    obtain rfl := Option.some.inj hf
    exact g_zret C E u6 (gnar_of c7) dX4_takes_50 rfl rfl rfl (Nat.le_of_ble_eq_true rfl) (Nat.le_of_ble_eq_true rfl)
  have hf := opt_neg c3 hf
  by_cases c8 : due = 1
  · have hf := opt_pos c8 hf
    refine g_tableIn C 51 (off := 38) dX4_takes_13 (by rw [c8]; decide) (by rw [c8]; decide) (by rw [c8]; rfl) (by decide) ?_
    refine g_aload_n C 1 dX4_takes_51 rfl ?_
    refine g_iconst C (v := 2) dX4_takes_52 (by decide) ?_
    refine g_put C (ws' := (wPR (x_y X) r0 r1 t0 opn 2 on oc)) 0 3 rfl rfl wiX4 (by decide) tyX4_ok nmX4 mw_5_146 rfl rfl rfl rfl (Nat.le_of_ble_eq_true rfl) rfl dX4_takes_53 ?_
    refine g_iload_n C 0 dX4_takes_56 rfl ?_
    refine g_bipush C (v := 111) dX4_takes_57 (by decide) ?_
    refine g_icmp_ne C 66 dX4_takes_59 (by decide) (fun c9 => ?_) (fun c9 => ?_)
    · have hf := opt_neg c9 hf
      refine g_iconst C (v := 0) dX4_takes_66 (by decide) ?_
      refine gW.locals [1, 2] rfl ?_
      exact H67 r1 opn 2 oc 0 hf
    · have hf := opt_pos c9 hf
      refine g_iconst C (v := 1) dX4_takes_62 (by decide) ?_
      refine g_goto C 67 dX4_takes_63 (by decide) ?_
      refine gW.locals [1, 2] rfl ?_
      exact H67 r1 opn 2 oc 1 hf
  have hf := opt_neg c8 hf
  by_cases c11 : due = 2
  · have hf := opt_pos c11 hf
    refine g_tableIn C 68 (off := 55) dX4_takes_13 (by rw [c11]; decide) (by rw [c11]; decide) (by rw [c11]; rfl) (by decide) ?_
    refine g_aload_n C 1 dX4_takes_68 rfl ?_
    refine g_iconst C (v := 3) dX4_takes_69 (by decide) ?_
    refine g_put C (ws' := (wPR (x_y X) r0 r1 t0 opn 3 on oc)) 0 3 rfl rfl wiX4 (by decide) tyX4_ok nmX4 mw_5_146 rfl rfl rfl rfl (Nat.le_of_ble_eq_true rfl) rfl dX4_takes_70 ?_
    refine g_iload_n C 0 dX4_takes_73 rfl ?_
    refine g_bipush C (v := 102) dX4_takes_74 (by decide) ?_
    refine g_icmp_ne C 83 dX4_takes_76 (by decide) (fun c12 => ?_) (fun c12 => ?_)
    · have hf := opt_neg c12 hf
      refine g_iconst C (v := 0) dX4_takes_83 (by decide) ?_
      refine gW.locals [1, 2] rfl ?_
      exact H84 r1 opn 3 oc 0 hf
    · have hf := opt_pos c12 hf
      refine g_iconst C (v := 1) dX4_takes_79 (by decide) ?_
      refine g_goto C 84 dX4_takes_80 (by decide) ?_
      refine gW.locals [1, 2] rfl ?_
      exact H84 r1 opn 3 oc 1 hf
  have hf := opt_neg c11 hf
  by_cases c14 : due = 3
  · have hf := opt_pos c14 hf
    refine g_tableIn C 85 (off := 72) dX4_takes_13 (by rw [c14]; decide) (by rw [c14]; decide) (by rw [c14]; rfl) (by decide) ?_
    refine g_aload_n C 1 dX4_takes_85 rfl ?_
    refine g_iconst C (v := 1) dX4_takes_86 (by decide) ?_
    obtain ⟨v15, h16, hf⟩ := opt_bind hf
    refine g_callV C (c_X4_begin (l := x_l X) (D := x_D X) (cy := x_y X) (r0 := r0) (r1 := r1) (t0 := t0) (t1 := t1) (opn := opn) (due := due) (on := on) (oc := oc) (hash := hash) (hz := hz) (tn := tn) (tb := tb) (p0 := 1) h16) (As := [.int 1]) (rest := []) (wr := []) (ws' := fun u17 => (wPR (x_y X) r0 u17 t0 v15.1 v15.2.1 on v15.2.2)) (st' := fun u17 => []) (ci := 6) 1 0 ⟨_, rfl⟩ rfl rfl mw_5_172 mw_1_30 mw_5_169 mw_5_171 mp_18 hd_X4_begin rfl (g_rm hR rfl rfl) [0, 1] [] [0, 1] ⟨rfl, rfl, rfl, rfl, by decide, gRoIn_p [2, 3] (by rw [hro]; rfl) (by decide), rfl, fun _ => rfl⟩ rfl (Nat.le_of_ble_eq_true rfl) dX4_takes_87 (g_rc hR (Nat.le_of_ble_eq_true rfl) (Nat.le_of_ble_eq_true rfl)) (ck' := 0) (sk' := 0) rfl rfl (fun _ => rfl) (fun u17 _ => ?_) (fun _ hx => absurd rfl hx)
    refine g_iload_n C 0 dX4_takes_90 rfl ?_
    refine g_bipush C (v := 40) dX4_takes_91 (by decide) ?_
    refine g_icmp_ne C 100 dX4_takes_93 (by decide) (fun c18 => ?_) (fun c18 => ?_)
    · have hf := opt_neg c18 hf
      refine g_iconst C (v := 0) dX4_takes_100 (by decide) ?_
      refine gW.locals [1, 2] rfl ?_
      exact H101 u17 v15.1 v15.2.1 v15.2.2 0 hf
    · have hf := opt_pos c18 hf
      refine g_iconst C (v := 1) dX4_takes_96 (by decide) ?_
      refine g_goto C 101 dX4_takes_97 (by decide) ?_
      refine gW.locals [1, 2] rfl ?_
      exact H101 u17 v15.1 v15.2.1 v15.2.2 1 hf
  have hf := opt_neg c14 hf
  refine g_tableOut C 102 dX4_takes_13 (by have z0 := g_neK (k := 0) (a := 0) c3 (by decide); have z1 := g_neK (k := 1) (a := 1) c8 (by decide); have z2 := g_neK (k := 2) (a := 2) c11 (by decide); have z3 := g_neK (k := 3) (a := 3) c14 (by decide); omega) (by decide) ?_
  refine g_aload_n C 1 dX4_takes_102 rfl ?_
  refine g_iload_n C 0 dX4_takes_103 rfl ?_
  obtain ⟨v20, h21, hf⟩ := opt_bind hf
  refine g_callV C (c_X4_takesBehindPart (l := x_l X) (D := x_D X) (cy := x_y X) (r0 := r0) (r1 := r1) (t0 := t0) (t1 := t1) (opn := opn) (due := due) (on := on) (oc := oc) (hash := hash) (hz := hz) (tn := tn) (tb := tb) (p0 := v1) h21) (As := [.int v1]) (rest := []) (wr := []) (ws' := fun u22 => (wPR (x_y X) r0 u22 t0 v20.2.1 v20.2.2 on oc)) (st' := fun u22 => [.int v20.1]) (ci := 6) 1 0 ⟨_, rfl⟩ rfl rfl mw_5_188 mw_1_30 mw_5_185 mw_5_187 mp_19 hd_X4_takesBehindPart rfl (g_rm hR rfl rfl) [0, 1] [] [0, 1] ⟨rfl, rfl, rfl, rfl, by decide, gRoIn_p [2, 3] (by rw [hro]; rfl) (by decide), rfl, fun _ => rfl⟩ rfl (Nat.le_of_ble_eq_true rfl) dX4_takes_104 (g_rc hR (Nat.le_of_ble_eq_true rfl) (Nat.le_of_ble_eq_true rfl)) (ck' := 0) (sk' := 0) rfl rfl (fun _ => rfl) (fun u22 _ => ?_) (fun _ hx => absurd rfl hx)
  refine g_eqw (ws' := (wPR (x_y X) r0 u22 t0 v20.2.1 v20.2.2 on oc)) rfl ?_
  obtain ⟨c23, hf⟩ := gg_of hf
  obtain rfl := Option.some.inj hf
  exact g_zret C E u22 (gnar_of c23) dX4_takes_107 rfl rfl rfl (Nat.le_of_ble_eq_true rfl) (Nat.le_of_ble_eq_true rfl)
/-! X4_read -/
theorem hd_X4_read : yX4_read.cls ≠ "java/lang/invoke/MethodHandle" ∧ yX4_read.cls ≠ "java/lang/invoke/VarHandle" ∧ (parseMethodDescriptor yX4_read.desc).map (fun d => d.parameters.length) = some 0 := by decide +kernel
def F_X4_read_L55   (opn_55 : Int32) (due_55 : Int32) (oc_55 : Nat → Int32) (s0_55 : Int32) : Option (Int32 × Int32 × Int32 × (Nat → Int32)) := some (s0_55, opn_55, due_55, oc_55)
def F_X4_read_L48 (tn : Nat)  (opn_48 : Int32) (due_48 : Int32) (oc_48 : Nat → Int32) : Option (Int32 × Int32 × Int32 × (Nat → Int32)) := (F_J0_length_8abf5 tn).bind fun v5 => F_X4_read_L55 opn_48 due_48 oc_48 v5
def F_X4_read_L2 (on : Nat) (tn : Nat) (tb : Nat → Int32)  : Nat → Int32 → Int32 → (Nat → Int32) → Int32 → Option (Int32 × Int32 × Int32 × (Nat → Int32))
  | 0, _, _, _, _ => none
  | n + 1, opn_2, due_2, oc_2, l1_2 => (F_J0_length_8abf5 tn).bind fun v1 => if v1 ≤ l1_2 then (if due_2 = 4 then (if opn_2 = 0 then (F_X4_read_L55 opn_2 due_2 oc_2 (-1)) else (F_X4_read_L48 tn opn_2 due_2 oc_2)) else (F_X4_read_L48 tn opn_2 due_2 oc_2)) else ((F_X4_takes opn_2 due_2 on oc_2 tn tb l1_2).bind fun v8 => if v8.1 = 0 then (some (l1_2, v8.2.1, v8.2.2.1, v8.2.2.2)) else (F_X4_read_L2 on tn tb n v8.2.1 v8.2.2.1 v8.2.2.2 (l1_2 + 1)))
def F_X4_read (opn : Int32) (due : Int32) (on : Nat) (oc : Nat → Int32) (tn : Nat) (tb : Nat → Int32) : Option (Int32 × Int32 × Int32 × (Nat → Int32)) := F_X4_read_L2 on tn tb 1000 opn due oc 0
set_option maxRecDepth 100000 in
set_option maxHeartbeats 4000000 in
theorem c_X4_read {l : Launch} {D : va_G} {cy : Nat → ClassId} {r0 r1 : Nat} {t0 t1 : Nat} {opn : Int32} {due : Int32} {on : Nat} {oc : Nat → Int32} {hash : Int32} {hz : Int32} {tn : Nat} {tb : Nat → Int32}   {val : Int32 × Int32 × Int32 × (Nat → Int32)} (hf : F_X4_read opn due on oc tn tb = some val) : gCt l D cy yX4_read cX4_read 2 (some .int) 9 193 0 0 [.ref r0] (wStr cy t0 t1 hash hz tn tb) ((wPR cy r0 r1 t0 opn due on oc)) 0 (fun u : Nat => some (.int val.1)) (fun u => (wPR cy r0 u t0 val.2.1 val.2.2.1 on val.2.2.2)) := by
  refine g_begin (by decide +kernel) (Nat.le_of_ble_eq_true rfl) ?_
  intro X Q hl hR hD hy hro hn C hin E
  subst hl; subst hD; subst hy
  replace C : gC X "SecretVault$PolicyReader" cX4_read (some .int) := C
  unfold F_X4_read at hf
  have H55 : ∀ (a0_1_55 : Nat) (opn_55 : Int32) (due_55 : Int32) (oc_55 : Nat → Int32) (s0_55 : Int32), F_X4_read_L55 opn_55 due_55 oc_55 s0_55 = some val → gW X Q 0 0 ((wPR (x_y X) r0 a0_1_55 t0 opn_55 due_55 on oc_55)) [(0, .ref r0)] [.int s0_55] 55 := by
    intro a0_1_55 opn_55 due_55 oc_55 s0_55 hf
    unfold F_X4_read_L55 at hf
    refine g_eqw (ws' := (wPR (x_y X) r0 a0_1_55 t0 opn_55 due_55 on oc_55)) rfl ?_
    obtain rfl := Option.some.inj hf
    exact g_iret C E a0_1_55 dX4_read_55 rfl rfl rfl (Nat.le_of_ble_eq_true rfl) (Nat.le_of_ble_eq_true rfl)
  have H48 : ∀ (a0_1_48 : Nat) (opn_48 : Int32) (due_48 : Int32) (oc_48 : Nat → Int32), F_X4_read_L48 tn opn_48 due_48 oc_48 = some val → gW X Q 0 0 ((wPR (x_y X) r0 a0_1_48 t0 opn_48 due_48 on oc_48)) [(0, .ref r0)] [] 48 := by
    intro a0_1_48 opn_48 due_48 oc_48 hf
    unfold F_X4_read_L48 at hf
    refine g_aload_n C 0 dX4_read_48 rfl ?_
    refine g_get C 0 0 rfl rfl wiX4 (by decide) mw_5_143 rfl rfl dX4_read_49 ?_
    obtain ⟨v5, h6, hf⟩ := opt_bind hf
    refine g_callV C (c_J0_length_8abf5 (l := x_l X) (D := x_D X) (cy := x_y X) (t0 := t0) (t1 := t1) (hash := hash) (hz := hz) (tn := tn) (tb := tb) h6) (As := []) (rest := []) (wr := (wPR (x_y X) r0 a0_1_48 t0 opn_48 due_48 on oc_48)) (ws' := fun _ => (wPR (x_y X) r0 a0_1_48 t0 opn_48 due_48 on oc_48)) (st' := fun _ => [.int v5]) (ci := 0) 0 2 ⟨_, by rw [hro]; rfl⟩ rfl rfl mw_4_75 mw_1_6 mw_5_142 mw_4_73 mw_4_74 hd_J0_length_8abf5 rfl (g_rm hR rfl rfl) [] [0, 1] [0, 1] ⟨rfl, rfl, rfl, rfl, by decide, gRoIn_p [2, 3] (by rw [hro]; rfl) (by decide), rfl, fun _ => rfl⟩ rfl (Nat.le_of_ble_eq_true rfl) dX4_read_52 (g_rc hR (Nat.le_of_ble_eq_true rfl) (Nat.le_of_ble_eq_true rfl)) (ck' := 0) (sk' := 0) rfl rfl (fun _ => rfl) (fun _ _ => ?_) (fun _ hx => absurd rfl hx)
    exact H55 a0_1_48 opn_48 due_48 oc_48 v5 hf
  have H2 : ∀ (n2 : Nat), ∀ (a0_1_2 : Nat) (opn_2 : Int32) (due_2 : Int32) (oc_2 : Nat → Int32) (l1_2 : Int32), F_X4_read_L2 on tn tb n2 opn_2 due_2 oc_2 l1_2 = some val → gW X Q 0 0 ((wPR (x_y X) r0 a0_1_2 t0 opn_2 due_2 on oc_2)) [(0, .ref r0), (1, .int l1_2)] [] 2 := by
    intro n2
    induction n2 with
    | zero => intros; rename_i hf; cases hf
    | succ n2 ih =>
      intro a0_1_2 opn_2 due_2 oc_2 l1_2 hf
      have H2 := ih
      rw [F_X4_read_L2] at hf
      refine g_iload_n C 1 dX4_read_2 rfl ?_
      refine g_aload_n C 0 dX4_read_3 rfl ?_
      refine g_get C 0 0 rfl rfl wiX4 (by decide) mw_5_143 rfl rfl dX4_read_4 ?_
      obtain ⟨v1, h2, hf⟩ := opt_bind hf
      refine g_callV C (c_J0_length_8abf5 (l := x_l X) (D := x_D X) (cy := x_y X) (t0 := t0) (t1 := t1) (hash := hash) (hz := hz) (tn := tn) (tb := tb) h2) (As := []) (rest := [.int l1_2]) (wr := (wPR (x_y X) r0 a0_1_2 t0 opn_2 due_2 on oc_2)) (ws' := fun _ => (wPR (x_y X) r0 a0_1_2 t0 opn_2 due_2 on oc_2)) (st' := fun _ => [.int v1, .int l1_2]) (ci := 0) 0 2 ⟨_, by rw [hro]; rfl⟩ rfl rfl mw_4_75 mw_1_6 mw_5_142 mw_4_73 mw_4_74 hd_J0_length_8abf5 rfl (g_rm hR rfl rfl) [] [0, 1] [0, 1] ⟨rfl, rfl, rfl, rfl, by decide, gRoIn_p [2, 3] (by rw [hro]; rfl) (by decide), rfl, fun _ => rfl⟩ rfl (Nat.le_of_ble_eq_true rfl) dX4_read_7 (g_rc hR (Nat.le_of_ble_eq_true rfl) (Nat.le_of_ble_eq_true rfl)) (ck' := 0) (sk' := 0) rfl rfl (fun _ => rfl) (fun _ _ => ?_) (fun _ hx => absurd rfl hx)
      refine g_icmp_ge C 29 dX4_read_10 (by decide) (fun c3 => ?_) (fun c3 => ?_)
      · have hf := opt_pos c3 hf
        refine g_aload_n C 0 dX4_read_29 rfl ?_
        refine g_get C 0 3 rfl rfl wiX4 (by decide) mw_5_146 rfl rfl dX4_read_30 ?_
        refine g_iconst C (v := 4) dX4_read_33 (by decide) ?_
        refine g_icmp_ne C 48 dX4_read_34 (by decide) (fun c4 => ?_) (fun c4 => ?_)
        · have hf := opt_neg c4 hf
          refine gW.locals [0] rfl ?_
          exact H48 a0_1_2 opn_2 due_2 oc_2 hf
        · have hf := opt_pos c4 hf
          refine g_aload_n C 0 dX4_read_37 rfl ?_
          refine g_get C 0 2 rfl rfl wiX4 (by decide) mw_5_145 rfl rfl dX4_read_38 ?_
          refine g_if_ne C 48 dX4_read_41 (by decide) (fun c7 => ?_) (fun c7 => ?_)
          · have hf := opt_neg c7 hf
            refine gW.locals [0] rfl ?_
            exact H48 a0_1_2 opn_2 due_2 oc_2 hf
          · have hf := opt_pos c7 hf
            refine g_iconst C (v := (-1)) dX4_read_44 (by decide) ?_
            refine g_goto C 55 dX4_read_45 (by decide) ?_
            refine gW.locals [0] rfl ?_
            exact H55 a0_1_2 opn_2 due_2 oc_2 (-1) hf
      · have hf := opt_neg c3 hf
        refine g_aload_n C 0 dX4_read_13 rfl ?_
        refine g_iload_n C 1 dX4_read_14 rfl ?_
        obtain ⟨v8, h9, hf⟩ := opt_bind hf
        refine g_callV C (c_X4_takes (l := x_l X) (D := x_D X) (cy := x_y X) (r0 := r0) (r1 := a0_1_2) (t0 := t0) (t1 := t1) (opn := opn_2) (due := due_2) (on := on) (oc := oc_2) (hash := hash) (hz := hz) (tn := tn) (tb := tb) (p0 := l1_2) h9) (As := [.int l1_2]) (rest := []) (wr := []) (ws' := fun u10 => (wPR (x_y X) r0 u10 t0 v8.2.1 v8.2.2.1 on v8.2.2.2)) (st' := fun u10 => [.int v8.1]) (ci := 6) 1 0 ⟨_, rfl⟩ rfl rfl mw_5_163 mw_1_30 mw_5_160 mw_5_162 mp_16 hd_X4_takes rfl (g_rm hR rfl rfl) [0, 1] [] [0, 1] ⟨rfl, rfl, rfl, rfl, by decide, gRoIn_p [2, 3] (by rw [hro]; rfl) (by decide), rfl, fun _ => rfl⟩ rfl (Nat.le_of_ble_eq_true rfl) dX4_read_15 (g_rc hR (Nat.le_of_ble_eq_true rfl) (Nat.le_of_ble_eq_true rfl)) (ck' := 0) (sk' := 0) rfl rfl (fun _ => rfl) (fun u10 _ => ?_) (fun _ hx => absurd rfl hx)
        refine g_if_ne C 23 dX4_read_18 (by decide) (fun c11 => ?_) (fun c11 => ?_)
        · have hf := opt_neg c11 hf
          refine g_iinc C 1 (v := l1_2 + 1) (lv' := [(1, .int (l1_2 + 1)), (0, .ref r0)]) dX4_read_23 rfl rfl (g_nlt hn rfl) rfl ?_
          refine g_goto C 2 dX4_read_26 (by decide) ?_
          refine gW.locals [1, 0] rfl ?_
          exact H2 u10 v8.2.1 v8.2.2.1 v8.2.2.2 (l1_2 + 1) hf
        · have hf := opt_pos c11 hf
          refine g_iload_n C 1 dX4_read_21 rfl ?_
          refine g_eqw (ws' := (wPR (x_y X) r0 u10 t0 v8.2.1 v8.2.2.1 on v8.2.2.2)) rfl ?_
          obtain rfl := Option.some.inj hf
          exact g_iret C E u10 dX4_read_22 rfl rfl rfl (Nat.le_of_ble_eq_true rfl) (Nat.le_of_ble_eq_true rfl)
  show gW X Q 0 0 ((wPR (x_y X) r0 r1 t0 opn due on oc)) [(0, .ref r0)] [] 0
  refine g_iconst C (v := 0) dX4_read_0 (by decide) ?_
  refine g_istore_n C (lv' := [(1, .int 0), (0, .ref r0)]) dX4_read_1 (g_nlt hn rfl) rfl ?_
  refine gW.locals [1, 0] rfl ?_
  exact H2 1000 r1 opn due oc 0 hf
/-! X1_init -/
theorem hd_X1_init : yX1_init.cls ≠ "java/lang/invoke/MethodHandle" ∧ yX1_init.cls ≠ "java/lang/invoke/VarHandle" ∧ (parseMethodDescriptor yX1_init.desc).map (fun d => d.parameters.length) = some 1 := by decide +kernel
def F_X1_init (tn : Nat) : Option (Int32 × Nat × (Nat → Int32) × Nat × (Nat → Int32) × Nat × (Nat → Int32) × Nat × (Nat → Int32)) := (F_J0_length_8abf5 tn).bind fun v1 => gg (gnw (v1 + 1) 64) (gl (Int32.toNatClampNeg (v1 + 1)) fun m4 => (F_J0_length_8abf5 tn).bind fun v6 => gg (gnw (v6 + 1) 64) (gl (Int32.toNatClampNeg (v6 + 1)) fun m9 => (F_J0_length_8abf5 tn).bind fun v11 => gg (gnw (v11 + 1) 64) (gl (Int32.toNatClampNeg (v11 + 1)) fun m14 => (F_J0_length_8abf5 tn).bind fun v16 => gg (gnw (v16 + 1) 64) (gl (Int32.toNatClampNeg (v16 + 1)) fun m19 => some (0, m4, (fun _ => 0), m9, (fun _ => 0), m14, (fun _ => 0), m19, (fun _ => 0))))))
set_option maxRecDepth 100000 in
set_option maxHeartbeats 4000000 in
theorem c_X1_init {l : Launch} {D : va_G} {cy : Nat → ClassId} {j0 : Nat} {t0 t1 : Nat} {hash : Int32} {hz : Int32} {tn : Nat} {tb : Nat → Int32}   {val : Int32 × Nat × (Nat → Int32) × Nat × (Nat → Int32) × Nat × (Nat → Int32) × Nat × (Nat → Int32)} (hf : F_X1_init tn = some val) : gCt l D cy yX1_init cX1_init 2 none 2 40 4 256 [.ref j0, .ref t0] (wStr cy t0 t1 hash hz tn tb) ([(j0, .inr (4, [.null, .null, .null, .null, .null, .int 0]))]) 0 (fun u : Nat × Nat × Nat × Nat => none) (fun u => (wJu cy j0 u.1 u.2.1 u.2.2.1 u.2.2.2 t0 val.1 val.2.1 val.2.2.1 val.2.2.2.1 val.2.2.2.2.1 val.2.2.2.2.2.1 val.2.2.2.2.2.2.1 val.2.2.2.2.2.2.2.1 val.2.2.2.2.2.2.2.2)) := by
  refine g_begin (by decide +kernel) (Nat.le_of_ble_eq_true rfl) ?_
  intro X Q hl hR hD hy hro hn C hin E
  subst hl; subst hD; subst hy
  replace C : gC X "SecretVault$Judge" cX1_init none := C
  unfold F_X1_init at hf
  show gW X Q 0 0 ([(j0, .inr (4, [.null, .null, .null, .null, .null, .int 0]))]) [(0, .ref j0), (1, .ref t0)] [] 0
  refine g_aload_n C 0 dX1_init_0 rfl ?_
  refine g_objInit C mw_5_208 mw_1_44 gw_obj (g_tn hR rfl rfl) dX1_init_1 ?_
  refine g_aload_n C 0 dX1_init_4 rfl ?_
  refine g_aload_n C 1 dX1_init_5 rfl ?_
  refine g_putF C (ws' := [(j0, .inr (4, [.ref t0, .null, .null, .null, .null, .int 0]))]) 0 0 rfl rfl wiX1 (by decide) tyX1_ok nmX1 mw_5_210 rfl rfl (hin rfl) rfl rfl rfl (Nat.le_of_ble_eq_true rfl) rfl dX1_init_6 ?_
  refine g_aload_n C 0 dX1_init_9 rfl ?_
  refine g_aload_n C 1 dX1_init_10 rfl ?_
  obtain ⟨v1, h2, hf⟩ := opt_bind hf
  refine g_callV C (c_J0_length_8abf5 (l := x_l X) (D := x_D X) (cy := x_y X) (t0 := t0) (t1 := t1) (hash := hash) (hz := hz) (tn := tn) (tb := tb) h2) (As := []) (rest := [.ref j0]) (wr := [(j0, .inr (4, [.ref t0, .null, .null, .null, .null, .int 0]))]) (ws' := fun _ => [(j0, .inr (4, [.ref t0, .null, .null, .null, .null, .int 0]))]) (st' := fun _ => [.int v1, .ref j0]) (ci := 0) 0 1 ⟨_, by rw [hro]; rfl⟩ rfl rfl mw_4_75 mw_1_6 mw_5_209 mw_4_73 mw_4_74 hd_J0_length_8abf5 rfl (g_rm hR rfl rfl) [] [0] [0] ⟨rfl, rfl, rfl, rfl, by decide, gRoIn_p [1, 2] (by rw [hro]; rfl) (by decide), rfl, fun _ => rfl⟩ rfl (Nat.le_of_ble_eq_true rfl) dX1_init_11 (g_rc hR (Nat.le_of_ble_eq_true rfl) (Nat.le_of_ble_eq_true rfl)) (ck' := 0) (sk' := 0) rfl rfl (fun _ => rfl) (fun _ _ => ?_) (fun _ hx => absurd rfl hx)
  refine g_iconst C (v := 1) dX1_init_14 (by decide) ?_
  refine g_iadd C dX1_init_15 ?_
  obtain ⟨c5, hf⟩ := gg_of hf
  obtain ⟨m4, em4, hf⟩ := opt_let hf
  refine g_newa C 0 (ty := .int) rfl rfl (fun _ h => nomatch h) mw_1_89 (N := m4) (B := 64) (a0 := (m4, .inl (fun _ => 0))) (fun _ => rfl) (gnw_0 c5) em4.symm (by rw [em4]; exact gnw_B c5) (by decide) (by decide) (g_rc hR (Nat.le_of_ble_eq_true rfl) (Nat.le_of_ble_eq_true rfl)) (ck' := 1) (sk' := 64) rfl rfl dX1_init_16 (fun q3 => ?_)
  refine g_putF C (ws' := [(j0, .inr (4, [.ref t0, .ref q3, .null, .null, .null, .int 0]))] ++ [(q3, .inl ((x_y X) 0, m4, .inl (fun _ => 0)))]) 0 1 rfl rfl wiX1 (by decide) tyX1_ok nmX1 mw_5_211 rfl rfl (hin rfl) rfl rfl rfl (Nat.le_of_ble_eq_true rfl) rfl dX1_init_18 ?_
  refine g_aload_n C 0 dX1_init_21 rfl ?_
  refine g_aload_n C 1 dX1_init_22 rfl ?_
  obtain ⟨v6, h7, hf⟩ := opt_bind hf
  refine g_callV C (c_J0_length_8abf5 (l := x_l X) (D := x_D X) (cy := x_y X) (t0 := t0) (t1 := t1) (hash := hash) (hz := hz) (tn := tn) (tb := tb) h7) (As := []) (rest := [.ref j0]) (wr := [(j0, .inr (4, [.ref t0, .ref q3, .null, .null, .null, .int 0]))] ++ [(q3, .inl ((x_y X) 0, m4, .inl (fun _ => 0)))]) (ws' := fun _ => [(j0, .inr (4, [.ref t0, .ref q3, .null, .null, .null, .int 0]))] ++ [(q3, .inl ((x_y X) 0, m4, .inl (fun _ => 0)))]) (st' := fun _ => [.int v6, .ref j0]) (ci := 0) 0 2 ⟨_, by rw [hro]; rfl⟩ rfl rfl mw_4_75 mw_1_6 mw_5_209 mw_4_73 mw_4_74 hd_J0_length_8abf5 rfl (g_rm hR rfl rfl) [] [0, 1] [0, 1] ⟨rfl, rfl, rfl, rfl, by decide, gRoIn_p [2, 3] (by rw [hro]; rfl) (by decide), rfl, fun _ => rfl⟩ rfl (Nat.le_of_ble_eq_true rfl) dX1_init_23 (g_rc hR (Nat.le_of_ble_eq_true rfl) (Nat.le_of_ble_eq_true rfl)) (ck' := 1) (sk' := 64) rfl rfl (fun _ => rfl) (fun _ _ => ?_) (fun _ hx => absurd rfl hx)
  refine g_iconst C (v := 1) dX1_init_26 (by decide) ?_
  refine g_iadd C dX1_init_27 ?_
  obtain ⟨c10, hf⟩ := gg_of hf
  obtain ⟨m9, em9, hf⟩ := opt_let hf
  refine g_newa C 0 (ty := .int) rfl rfl (fun _ h => nomatch h) mw_1_89 (N := m9) (B := 64) (a0 := (m9, .inl (fun _ => 0))) (fun _ => rfl) (gnw_0 c10) em9.symm (by rw [em9]; exact gnw_B c10) (by decide) (by decide) (g_rc hR (Nat.le_of_ble_eq_true rfl) (Nat.le_of_ble_eq_true rfl)) (ck' := 2) (sk' := 128) rfl rfl dX1_init_28 (fun q8 => ?_)
  refine g_putF C (ws' := [(j0, .inr (4, [.ref t0, .ref q3, .ref q8, .null, .null, .int 0]))] ++ [(q3, .inl ((x_y X) 0, m4, .inl (fun _ => 0)))] ++ [(q8, .inl ((x_y X) 0, m9, .inl (fun _ => 0)))]) 0 2 rfl rfl wiX1 (by decide) tyX1_ok nmX1 mw_5_212 rfl rfl (hin rfl) rfl rfl rfl (Nat.le_of_ble_eq_true rfl) rfl dX1_init_30 ?_
  refine g_aload_n C 0 dX1_init_33 rfl ?_
  refine g_aload_n C 1 dX1_init_34 rfl ?_
  obtain ⟨v11, h12, hf⟩ := opt_bind hf
  refine g_callV C (c_J0_length_8abf5 (l := x_l X) (D := x_D X) (cy := x_y X) (t0 := t0) (t1 := t1) (hash := hash) (hz := hz) (tn := tn) (tb := tb) h12) (As := []) (rest := [.ref j0]) (wr := [(j0, .inr (4, [.ref t0, .ref q3, .ref q8, .null, .null, .int 0]))] ++ [(q3, .inl ((x_y X) 0, m4, .inl (fun _ => 0)))] ++ [(q8, .inl ((x_y X) 0, m9, .inl (fun _ => 0)))]) (ws' := fun _ => [(j0, .inr (4, [.ref t0, .ref q3, .ref q8, .null, .null, .int 0]))] ++ [(q3, .inl ((x_y X) 0, m4, .inl (fun _ => 0)))] ++ [(q8, .inl ((x_y X) 0, m9, .inl (fun _ => 0)))]) (st' := fun _ => [.int v11, .ref j0]) (ci := 0) 0 3 ⟨_, by rw [hro]; rfl⟩ rfl rfl mw_4_75 mw_1_6 mw_5_209 mw_4_73 mw_4_74 hd_J0_length_8abf5 rfl (g_rm hR rfl rfl) [] [0, 1, 2] [0, 1, 2] ⟨rfl, rfl, rfl, rfl, by decide, gRoIn_p [3, 4] (by rw [hro]; rfl) (by decide), rfl, fun _ => rfl⟩ rfl (Nat.le_of_ble_eq_true rfl) dX1_init_35 (g_rc hR (Nat.le_of_ble_eq_true rfl) (Nat.le_of_ble_eq_true rfl)) (ck' := 2) (sk' := 128) rfl rfl (fun _ => rfl) (fun _ _ => ?_) (fun _ hx => absurd rfl hx)
  refine g_iconst C (v := 1) dX1_init_38 (by decide) ?_
  refine g_iadd C dX1_init_39 ?_
  obtain ⟨c15, hf⟩ := gg_of hf
  obtain ⟨m14, em14, hf⟩ := opt_let hf
  refine g_newa C 1 (ty := .boolean) rfl rfl (fun _ h => nomatch h) mw_1_205 (N := m14) (B := 64) (a0 := (m14, .inl (fun _ => 0))) (fun _ => rfl) (gnw_0 c15) em14.symm (by rw [em14]; exact gnw_B c15) (by decide) (by decide) (g_rc hR (Nat.le_of_ble_eq_true rfl) (Nat.le_of_ble_eq_true rfl)) (ck' := 3) (sk' := 192) rfl rfl dX1_init_40 (fun q13 => ?_)
  refine g_putF C (ws' := [(j0, .inr (4, [.ref t0, .ref q3, .ref q8, .ref q13, .null, .int 0]))] ++ [(q3, .inl ((x_y X) 0, m4, .inl (fun _ => 0)))] ++ [(q8, .inl ((x_y X) 0, m9, .inl (fun _ => 0)))] ++ [(q13, .inl ((x_y X) 1, m14, .inl (fun _ => 0)))]) 0 3 rfl rfl wiX1 (by decide) tyX1_ok nmX1 mw_5_213 rfl rfl (hin rfl) rfl rfl rfl (Nat.le_of_ble_eq_true rfl) rfl dX1_init_42 ?_
  refine g_aload_n C 0 dX1_init_45 rfl ?_
  refine g_aload_n C 1 dX1_init_46 rfl ?_
  obtain ⟨v16, h17, hf⟩ := opt_bind hf
  refine g_callV C (c_J0_length_8abf5 (l := x_l X) (D := x_D X) (cy := x_y X) (t0 := t0) (t1 := t1) (hash := hash) (hz := hz) (tn := tn) (tb := tb) h17) (As := []) (rest := [.ref j0]) (wr := [(j0, .inr (4, [.ref t0, .ref q3, .ref q8, .ref q13, .null, .int 0]))] ++ [(q3, .inl ((x_y X) 0, m4, .inl (fun _ => 0)))] ++ [(q8, .inl ((x_y X) 0, m9, .inl (fun _ => 0)))] ++ [(q13, .inl ((x_y X) 1, m14, .inl (fun _ => 0)))]) (ws' := fun _ => [(j0, .inr (4, [.ref t0, .ref q3, .ref q8, .ref q13, .null, .int 0]))] ++ [(q3, .inl ((x_y X) 0, m4, .inl (fun _ => 0)))] ++ [(q8, .inl ((x_y X) 0, m9, .inl (fun _ => 0)))] ++ [(q13, .inl ((x_y X) 1, m14, .inl (fun _ => 0)))]) (st' := fun _ => [.int v16, .ref j0]) (ci := 0) 0 4 ⟨_, by rw [hro]; rfl⟩ rfl rfl mw_4_75 mw_1_6 mw_5_209 mw_4_73 mw_4_74 hd_J0_length_8abf5 rfl (g_rm hR rfl rfl) [] [0, 1, 2, 3] [0, 1, 2, 3] ⟨rfl, rfl, rfl, rfl, by decide, gRoIn_p [4, 5] (by rw [hro]; rfl) (by decide), rfl, fun _ => rfl⟩ rfl (Nat.le_of_ble_eq_true rfl) dX1_init_47 (g_rc hR (Nat.le_of_ble_eq_true rfl) (Nat.le_of_ble_eq_true rfl)) (ck' := 3) (sk' := 192) rfl rfl (fun _ => rfl) (fun _ _ => ?_) (fun _ hx => absurd rfl hx)
  refine g_iconst C (v := 1) dX1_init_50 (by decide) ?_
  refine g_iadd C dX1_init_51 ?_
  obtain ⟨c20, hf⟩ := gg_of hf
  obtain ⟨m19, em19, hf⟩ := opt_let hf
  refine g_newa C 1 (ty := .boolean) rfl rfl (fun _ h => nomatch h) mw_1_205 (N := m19) (B := 64) (a0 := (m19, .inl (fun _ => 0))) (fun _ => rfl) (gnw_0 c20) em19.symm (by rw [em19]; exact gnw_B c20) (by decide) (by decide) (g_rc hR (Nat.le_of_ble_eq_true rfl) (Nat.le_of_ble_eq_true rfl)) (ck' := 4) (sk' := 256) rfl rfl dX1_init_52 (fun q18 => ?_)
  refine g_putF C (ws' := [(j0, .inr (4, [.ref t0, .ref q3, .ref q8, .ref q13, .ref q18, .int 0]))] ++ [(q3, .inl ((x_y X) 0, m4, .inl (fun _ => 0)))] ++ [(q8, .inl ((x_y X) 0, m9, .inl (fun _ => 0)))] ++ [(q13, .inl ((x_y X) 1, m14, .inl (fun _ => 0)))] ++ [(q18, .inl ((x_y X) 1, m19, .inl (fun _ => 0)))]) 0 4 rfl rfl wiX1 (by decide) tyX1_ok nmX1 mw_5_214 rfl rfl (hin rfl) rfl rfl rfl (Nat.le_of_ble_eq_true rfl) rfl dX1_init_54 ?_
  refine g_eqw (ws' := (wJu (x_y X) j0 q3 q8 q13 q18 t0 0 m4 (fun _ => 0) m9 (fun _ => 0) m14 (fun _ => 0) m19 (fun _ => 0))) rfl ?_
  obtain rfl := Option.some.inj hf
  exact g_vret C E (q3, q8, q13, q18) dX1_init_57 rfl rfl rfl (Nat.le_of_ble_eq_true rfl) (Nat.le_of_ble_eq_true rfl)
/-! X1_begin -/
theorem hd_X1_begin : yX1_begin.cls ≠ "java/lang/invoke/MethodHandle" ∧ yX1_begin.cls ≠ "java/lang/invoke/VarHandle" ∧ (parseMethodDescriptor yX1_begin.desc).map (fun d => d.parameters.length) = some 1 := by decide +kernel
def F_X1_begin (opn : Int32) (jn : Nat) (du : Nat → Int32) (jm : Nat) (me : Nat → Int32) (ja : Nat) (an : Nat → Int32) (jl : Nat) (al : Nat → Int32) (p0 : Int32) : Option ((Nat → Int32) × (Nat → Int32) × (Nat → Int32) × (Nat → Int32)) := gg (gi opn jn) (gl (upd du (Int32.toNatClampNeg opn) p0) fun f2 => gg (gi opn jm) (gl (upd me (Int32.toNatClampNeg opn) 0) fun f4 => gg (gi opn ja) (gl (upd an (Int32.toNatClampNeg opn) (vp_nar .boolean 0)) fun f6 => gg (gi opn jl) (gl (upd al (Int32.toNatClampNeg opn) (vp_nar .boolean 1)) fun f8 => some (f2, f4, f6, f8)))))
set_option maxRecDepth 100000 in
set_option maxHeartbeats 4000000 in
theorem c_X1_begin {l : Launch} {D : va_G} {cy : Nat → ClassId} {j0 j1 j2 j3 j4 : Nat} {t0 t1 : Nat} {opn : Int32} {jn : Nat} {du : Nat → Int32} {jm : Nat} {me : Nat → Int32} {ja : Nat} {an : Nat → Int32} {jl : Nat} {al : Nat → Int32} {hash : Int32} {hz : Int32} {tn : Nat} {tb : Nat → Int32} {p0 : Int32}  {val : (Nat → Int32) × (Nat → Int32) × (Nat → Int32) × (Nat → Int32)} (hf : F_X1_begin opn jn du jm me ja an jl al p0 = some val) : gCt l D cy yX1_begin cX1_begin 2 none 0 0 0 0 [.ref j0, .int p0] (wStr cy t0 t1 hash hz tn tb) ((wJu cy j0 j1 j2 j3 j4 t0 opn jn du jm me ja an jl al)) 0 (fun u : Nat × Nat × Nat × Nat => none) (fun u => (wJu cy j0 u.1 u.2.1 u.2.2.1 u.2.2.2 t0 opn jn val.1 jm val.2.1 ja val.2.2.1 jl val.2.2.2)) := by
  refine g_begin (by decide +kernel) (Nat.le_of_ble_eq_true rfl) ?_
  intro X Q hl hR hD hy hro hn C hin E
  subst hl; subst hD; subst hy
  replace C : gC X "SecretVault$Judge" cX1_begin none := C
  unfold F_X1_begin at hf
  show gW X Q 0 0 ((wJu (x_y X) j0 j1 j2 j3 j4 t0 opn jn du jm me ja an jl al)) [(0, .ref j0), (1, .int p0)] [] 0
  refine g_aload_n C 0 dX1_begin_0 rfl ?_
  refine g_get C 0 1 rfl rfl wiX1 (by decide) mw_5_211 rfl rfl dX1_begin_1 ?_
  refine g_aload_n C 0 dX1_begin_4 rfl ?_
  refine g_get C 0 5 rfl rfl wiX1 (by decide) mw_5_215 rfl rfl dX1_begin_5 ?_
  refine g_iload_n C 1 dX1_begin_8 rfl ?_
  obtain ⟨c1, hf⟩ := gg_of hf
  obtain ⟨f2, ef2, hf⟩ := opt_let hf
  refine g_iast C (ws' := (wJu (x_y X) j0 j1 j2 j3 j4 t0 opn jn f2 jm me ja an jl al)) 1 rfl (gi_in c1) (by rw [ef2]; rfl) dX1_begin_9 ?_
  refine g_aload_n C 0 dX1_begin_10 rfl ?_
  refine g_get C 0 2 rfl rfl wiX1 (by decide) mw_5_212 rfl rfl dX1_begin_11 ?_
  refine g_aload_n C 0 dX1_begin_14 rfl ?_
  refine g_get C 0 5 rfl rfl wiX1 (by decide) mw_5_215 rfl rfl dX1_begin_15 ?_
  refine g_iconst C (v := 0) dX1_begin_18 (by decide) ?_
  obtain ⟨c3, hf⟩ := gg_of hf
  obtain ⟨f4, ef4, hf⟩ := opt_let hf
  refine g_iast C (ws' := (wJu (x_y X) j0 j1 j2 j3 j4 t0 opn jn f2 jm f4 ja an jl al)) 2 rfl (gi_in c3) (by rw [ef4]; rfl) dX1_begin_19 ?_
  refine g_aload_n C 0 dX1_begin_20 rfl ?_
  refine g_get C 0 3 rfl rfl wiX1 (by decide) mw_5_213 rfl rfl dX1_begin_21 ?_
  refine g_aload_n C 0 dX1_begin_24 rfl ?_
  refine g_get C 0 5 rfl rfl wiX1 (by decide) mw_5_215 rfl rfl dX1_begin_25 ?_
  refine g_iconst C (v := 0) dX1_begin_28 (by decide) ?_
  obtain ⟨c5, hf⟩ := gg_of hf
  obtain ⟨f6, ef6, hf⟩ := opt_let hf
  refine g_zast C (ws' := (wJu (x_y X) j0 j1 j2 j3 j4 t0 opn jn f2 jm f4 ja f6 jl al)) 3 rfl (gi_in c5) (by rw [ef6]; rfl) dX1_begin_29 ?_
  refine g_aload_n C 0 dX1_begin_30 rfl ?_
  refine g_get C 0 4 rfl rfl wiX1 (by decide) mw_5_214 rfl rfl dX1_begin_31 ?_
  refine g_aload_n C 0 dX1_begin_34 rfl ?_
  refine g_get C 0 5 rfl rfl wiX1 (by decide) mw_5_215 rfl rfl dX1_begin_35 ?_
  refine g_iconst C (v := 1) dX1_begin_38 (by decide) ?_
  obtain ⟨c7, hf⟩ := gg_of hf
  obtain ⟨f8, ef8, hf⟩ := opt_let hf
  refine g_zast C (ws' := (wJu (x_y X) j0 j1 j2 j3 j4 t0 opn jn f2 jm f4 ja f6 jl f8)) 4 rfl (gi_in c7) (by rw [ef8]; rfl) dX1_begin_39 ?_
  refine g_eqw (ws' := (wJu (x_y X) j0 j1 j2 j3 j4 t0 opn jn f2 jm f4 ja f6 jl f8)) rfl ?_
  obtain rfl := Option.some.inj hf
  exact g_vret C E (j1, j2, j3, j4) dX1_begin_40 rfl rfl rfl (Nat.le_of_ble_eq_true rfl) (Nat.le_of_ble_eq_true rfl)
/-! X1_endAll -/
theorem hd_X1_endAll : yX1_endAll.cls ≠ "java/lang/invoke/MethodHandle" ∧ yX1_endAll.cls ≠ "java/lang/invoke/VarHandle" ∧ (parseMethodDescriptor yX1_endAll.desc).map (fun d => d.parameters.length) = some 0 := by decide +kernel
def F_X1_endAll_L37 (opn : Int32) (ja : Nat) (jl : Nat)  (an_37 : Nat → Int32) (al_37 : Nat → Int32) (s0_37 : Int32) (s1_37 : Int32) : Option ((Nat → Int32) × (Nat → Int32)) := gg (gi s1_37 ja) (gl (upd an_37 (Int32.toNatClampNeg s1_37) (vp_nar .boolean s0_37)) fun f4 => gg (gi opn jl) (gl (upd al_37 (Int32.toNatClampNeg opn) (vp_nar .boolean 1)) fun f6 => some (f4, f6)))
def F_X1_endAll_L32 (opn : Int32) (ja : Nat) (jl : Nat)  (an_32 : Nat → Int32) (al_32 : Nat → Int32) (s0_32 : Int32) : Option ((Nat → Int32) × (Nat → Int32)) := F_X1_endAll_L37 opn ja jl an_32 al_32 1 s0_32
def F_X1_endAll (opn : Int32) (ja : Nat) (an : Nat → Int32) (jl : Nat) (al : Nat → Int32) : Option ((Nat → Int32) × (Nat → Int32)) := gg (gi opn ja) (if (an (Int32.toNatClampNeg opn)) = 0 then (gg (gi opn jl) (if (al (Int32.toNatClampNeg opn)) = 0 then (F_X1_endAll_L37 opn ja jl an al 0 opn) else (F_X1_endAll_L32 opn ja jl an al opn))) else (F_X1_endAll_L32 opn ja jl an al opn))
set_option maxRecDepth 100000 in
set_option maxHeartbeats 4000000 in
theorem c_X1_endAll {l : Launch} {D : va_G} {cy : Nat → ClassId} {j0 j1 j2 j3 j4 : Nat} {t0 t1 : Nat} {opn : Int32} {jn : Nat} {du : Nat → Int32} {jm : Nat} {me : Nat → Int32} {ja : Nat} {an : Nat → Int32} {jl : Nat} {al : Nat → Int32} {hash : Int32} {hz : Int32} {tn : Nat} {tb : Nat → Int32}   {val : (Nat → Int32) × (Nat → Int32)} (hf : F_X1_endAll opn ja an jl al = some val) : gCt l D cy yX1_endAll cX1_endAll 1 none 0 0 0 0 [.ref j0] (wStr cy t0 t1 hash hz tn tb) ((wJu cy j0 j1 j2 j3 j4 t0 opn jn du jm me ja an jl al)) 0 (fun u : Nat × Nat × Nat × Nat => none) (fun u => (wJu cy j0 u.1 u.2.1 u.2.2.1 u.2.2.2 t0 opn jn du jm me ja val.1 jl val.2)) := by
  refine g_begin (by decide +kernel) (Nat.le_of_ble_eq_true rfl) ?_
  intro X Q hl hR hD hy hro hn C hin E
  subst hl; subst hD; subst hy
  replace C : gC X "SecretVault$Judge" cX1_endAll none := C
  unfold F_X1_endAll at hf
  have H37 : ∀ (a0_1_37 : Nat) (a0_2_37 : Nat) (a0_3_37 : Nat) (a0_4_37 : Nat) (an_37 : Nat → Int32) (al_37 : Nat → Int32) (s0_37 : Int32) (s1_37 : Int32), F_X1_endAll_L37 opn ja jl an_37 al_37 s0_37 s1_37 = some val → gW X Q 0 0 ((wJu (x_y X) j0 a0_1_37 a0_2_37 a0_3_37 a0_4_37 t0 opn jn du jm me ja an_37 jl al_37)) [(0, .ref j0)] [.int s0_37, .int s1_37, .ref a0_3_37] 37 := by
    intro a0_1_37 a0_2_37 a0_3_37 a0_4_37 an_37 al_37 s0_37 s1_37 hf
    unfold F_X1_endAll_L37 at hf
    obtain ⟨c3, hf⟩ := gg_of hf
    obtain ⟨f4, ef4, hf⟩ := opt_let hf
    refine g_zast C (ws' := (wJu (x_y X) j0 a0_1_37 a0_2_37 a0_3_37 a0_4_37 t0 opn jn du jm me ja f4 jl al_37)) 3 rfl (gi_in c3) (by rw [ef4]; rfl) dX1_endAll_37 ?_
    refine g_aload_n C 0 dX1_endAll_38 rfl ?_
    refine g_get C 0 4 rfl rfl wiX1 (by decide) mw_5_214 rfl rfl dX1_endAll_39 ?_
    refine g_aload_n C 0 dX1_endAll_42 rfl ?_
    refine g_get C 0 5 rfl rfl wiX1 (by decide) mw_5_215 rfl rfl dX1_endAll_43 ?_
    refine g_iconst C (v := 1) dX1_endAll_46 (by decide) ?_
    obtain ⟨c5, hf⟩ := gg_of hf
    obtain ⟨f6, ef6, hf⟩ := opt_let hf
    refine g_zast C (ws' := (wJu (x_y X) j0 a0_1_37 a0_2_37 a0_3_37 a0_4_37 t0 opn jn du jm me ja f4 jl f6)) 4 rfl (gi_in c5) (by rw [ef6]; rfl) dX1_endAll_47 ?_
    refine g_eqw (ws' := (wJu (x_y X) j0 a0_1_37 a0_2_37 a0_3_37 a0_4_37 t0 opn jn du jm me ja f4 jl f6)) rfl ?_
    obtain rfl := Option.some.inj hf
    exact g_vret C E (a0_1_37, a0_2_37, a0_3_37, a0_4_37) dX1_endAll_48 rfl rfl rfl (Nat.le_of_ble_eq_true rfl) (Nat.le_of_ble_eq_true rfl)
  have H32 : ∀ (a0_1_32 : Nat) (a0_2_32 : Nat) (a0_3_32 : Nat) (a0_4_32 : Nat) (an_32 : Nat → Int32) (al_32 : Nat → Int32) (s0_32 : Int32), F_X1_endAll_L32 opn ja jl an_32 al_32 s0_32 = some val → gW X Q 0 0 ((wJu (x_y X) j0 a0_1_32 a0_2_32 a0_3_32 a0_4_32 t0 opn jn du jm me ja an_32 jl al_32)) [(0, .ref j0)] [.int s0_32, .ref a0_3_32] 32 := by
    intro a0_1_32 a0_2_32 a0_3_32 a0_4_32 an_32 al_32 s0_32 hf
    unfold F_X1_endAll_L32 at hf
    refine g_iconst C (v := 1) dX1_endAll_32 (by decide) ?_
    refine g_goto C 37 dX1_endAll_33 (by decide) ?_
    exact H37 a0_1_32 a0_2_32 a0_3_32 a0_4_32 an_32 al_32 1 s0_32 hf
  show gW X Q 0 0 ((wJu (x_y X) j0 j1 j2 j3 j4 t0 opn jn du jm me ja an jl al)) [(0, .ref j0)] [] 0
  refine g_aload_n C 0 dX1_endAll_0 rfl ?_
  refine g_get C 0 3 rfl rfl wiX1 (by decide) mw_5_213 rfl rfl dX1_endAll_1 ?_
  refine g_aload_n C 0 dX1_endAll_4 rfl ?_
  refine g_get C 0 5 rfl rfl wiX1 (by decide) mw_5_215 rfl rfl dX1_endAll_5 ?_
  refine g_aload_n C 0 dX1_endAll_8 rfl ?_
  refine g_get C 0 3 rfl rfl wiX1 (by decide) mw_5_213 rfl rfl dX1_endAll_9 ?_
  refine g_aload_n C 0 dX1_endAll_12 rfl ?_
  refine g_get C 0 5 rfl rfl wiX1 (by decide) mw_5_215 rfl rfl dX1_endAll_13 ?_
  obtain ⟨c1, hf⟩ := gg_of hf
  refine g_zald C 3 rfl (gi_in c1) dX1_endAll_16 ?_
  refine g_if_ne C 32 dX1_endAll_17 (by decide) (fun c2 => ?_) (fun c2 => ?_)
  · have hf := opt_neg c2 hf
    exact H32 j1 j2 j3 j4 an al opn hf
  · have hf := opt_pos c2 hf
    refine g_aload_n C 0 dX1_endAll_20 rfl ?_
    refine g_get C 0 4 rfl rfl wiX1 (by decide) mw_5_214 rfl rfl dX1_endAll_21 ?_
    refine g_aload_n C 0 dX1_endAll_24 rfl ?_
    refine g_get C 0 5 rfl rfl wiX1 (by decide) mw_5_215 rfl rfl dX1_endAll_25 ?_
    obtain ⟨c7, hf⟩ := gg_of hf
    refine g_zald C 4 rfl (gi_in c7) dX1_endAll_28 ?_
    refine g_if_eq C 36 dX1_endAll_29 (by decide) (fun c8 => ?_) (fun c8 => ?_)
    · have hf := opt_pos c8 hf
      refine g_iconst C (v := 0) dX1_endAll_36 (by decide) ?_
      exact H37 j1 j2 j3 j4 an al 0 opn hf
    · have hf := opt_neg c8 hf
      exact H32 j1 j2 j3 j4 an al opn hf
/-! X1_endCondition -/
theorem hd_X1_endCondition : yX1_endCondition.cls ≠ "java/lang/invoke/MethodHandle" ∧ yX1_endCondition.cls ≠ "java/lang/invoke/VarHandle" ∧ (parseMethodDescriptor yX1_endCondition.desc).map (fun d => d.parameters.length) = some 0 := by decide +kernel
def F_X1_endCondition_L31 (opn : Int32) (jm : Nat) (ja : Nat)  (me_31 : Nat → Int32) (an_31 : Nat → Int32) (al_31 : Nat → Int32) (s0_31 : Int32) (s1_31 : Int32) (s2_31 : Int32) : Option ((Nat → Int32) × (Nat → Int32) × (Nat → Int32)) := gg (gi s2_31 jm) (gl (upd me_31 (Int32.toNatClampNeg s2_31) (s1_31 + s0_31)) fun f8 => gg (gi opn ja) (gl (upd an_31 (Int32.toNatClampNeg opn) (vp_nar .boolean 0)) fun f10 => some (f8, f10, al_31)))
def F_X1_endCondition (opn : Int32) (jm : Nat) (me : Nat → Int32) (ja : Nat) (an : Nat → Int32) (jl : Nat) (al : Nat → Int32) : Option ((Nat → Int32) × (Nat → Int32) × (Nat → Int32)) := (F_X1_endAll opn ja an jl al).bind fun v1 => gg (gi opn jm) (gg (gi opn ja) (if (v1.1 (Int32.toNatClampNeg opn)) = 0 then (F_X1_endCondition_L31 opn jm ja me v1.1 v1.2 0 (me (Int32.toNatClampNeg opn)) opn) else (F_X1_endCondition_L31 opn jm ja me v1.1 v1.2 1 (me (Int32.toNatClampNeg opn)) opn)))
set_option maxRecDepth 100000 in
set_option maxHeartbeats 4000000 in
theorem c_X1_endCondition {l : Launch} {D : va_G} {cy : Nat → ClassId} {j0 j1 j2 j3 j4 : Nat} {t0 t1 : Nat} {opn : Int32} {jn : Nat} {du : Nat → Int32} {jm : Nat} {me : Nat → Int32} {ja : Nat} {an : Nat → Int32} {jl : Nat} {al : Nat → Int32} {hash : Int32} {hz : Int32} {tn : Nat} {tb : Nat → Int32}   {val : (Nat → Int32) × (Nat → Int32) × (Nat → Int32)} (hf : F_X1_endCondition opn jm me ja an jl al = some val) : gCt l D cy yX1_endCondition cX1_endCondition 1 none 1 20 0 0 [.ref j0] (wStr cy t0 t1 hash hz tn tb) ((wJu cy j0 j1 j2 j3 j4 t0 opn jn du jm me ja an jl al)) 0 (fun u : Nat × Nat × Nat × Nat => none) (fun u => (wJu cy j0 u.1 u.2.1 u.2.2.1 u.2.2.2 t0 opn jn du jm val.1 ja val.2.1 jl val.2.2)) := by
  refine g_begin (by decide +kernel) (Nat.le_of_ble_eq_true rfl) ?_
  intro X Q hl hR hD hy hro hn C hin E
  subst hl; subst hD; subst hy
  replace C : gC X "SecretVault$Judge" cX1_endCondition none := C
  unfold F_X1_endCondition at hf
  have H31 : ∀ (a0_1_31 : Nat) (a0_2_31 : Nat) (a0_3_31 : Nat) (a0_4_31 : Nat) (me_31 : Nat → Int32) (an_31 : Nat → Int32) (al_31 : Nat → Int32) (s0_31 : Int32) (s1_31 : Int32) (s2_31 : Int32), F_X1_endCondition_L31 opn jm ja me_31 an_31 al_31 s0_31 s1_31 s2_31 = some val → gW X Q 0 0 ((wJu (x_y X) j0 a0_1_31 a0_2_31 a0_3_31 a0_4_31 t0 opn jn du jm me_31 ja an_31 jl al_31)) [(0, .ref j0)] [.int s0_31, .int s1_31, .int s2_31, .ref a0_2_31] 31 := by
    intro a0_1_31 a0_2_31 a0_3_31 a0_4_31 me_31 an_31 al_31 s0_31 s1_31 s2_31 hf
    unfold F_X1_endCondition_L31 at hf
    refine g_iadd C dX1_endCondition_31 ?_
    obtain ⟨c7, hf⟩ := gg_of hf
    obtain ⟨f8, ef8, hf⟩ := opt_let hf
    refine g_iast C (ws' := (wJu (x_y X) j0 a0_1_31 a0_2_31 a0_3_31 a0_4_31 t0 opn jn du jm f8 ja an_31 jl al_31)) 2 rfl (gi_in c7) (by rw [ef8]; rfl) dX1_endCondition_32 ?_
    refine g_aload_n C 0 dX1_endCondition_33 rfl ?_
    refine g_get C 0 3 rfl rfl wiX1 (by decide) mw_5_213 rfl rfl dX1_endCondition_34 ?_
    refine g_aload_n C 0 dX1_endCondition_37 rfl ?_
    refine g_get C 0 5 rfl rfl wiX1 (by decide) mw_5_215 rfl rfl dX1_endCondition_38 ?_
    refine g_iconst C (v := 0) dX1_endCondition_41 (by decide) ?_
    obtain ⟨c9, hf⟩ := gg_of hf
    obtain ⟨f10, ef10, hf⟩ := opt_let hf
    refine g_zast C (ws' := (wJu (x_y X) j0 a0_1_31 a0_2_31 a0_3_31 a0_4_31 t0 opn jn du jm f8 ja f10 jl al_31)) 3 rfl (gi_in c9) (by rw [ef10]; rfl) dX1_endCondition_42 ?_
    refine g_eqw (ws' := (wJu (x_y X) j0 a0_1_31 a0_2_31 a0_3_31 a0_4_31 t0 opn jn du jm f8 ja f10 jl al_31)) rfl ?_
    obtain rfl := Option.some.inj hf
    exact g_vret C E (a0_1_31, a0_2_31, a0_3_31, a0_4_31) dX1_endCondition_43 rfl rfl rfl (Nat.le_of_ble_eq_true rfl) (Nat.le_of_ble_eq_true rfl)
  show gW X Q 0 0 ((wJu (x_y X) j0 j1 j2 j3 j4 t0 opn jn du jm me ja an jl al)) [(0, .ref j0)] [] 0
  refine g_aload_n C 0 dX1_endCondition_0 rfl ?_
  obtain ⟨v1, h2, hf⟩ := opt_bind hf
  refine g_callV C (c_X1_endAll (l := x_l X) (D := x_D X) (cy := x_y X) (j0 := j0) (j1 := j1) (j2 := j2) (j3 := j3) (j4 := j4) (t0 := t0) (t1 := t1) (opn := opn) (jn := jn) (du := du) (jm := jm) (me := me) (ja := ja) (an := an) (jl := jl) (al := al) (hash := hash) (hz := hz) (tn := tn) (tb := tb) h2) (As := []) (rest := []) (wr := []) (ws' := fun u3 => (wJu (x_y X) j0 u3.1 u3.2.1 u3.2.2.1 u3.2.2.2 t0 opn jn du jm me ja v1.1 jl v1.2)) (st' := fun u3 => []) (ci := 4) 0 0 ⟨_, rfl⟩ rfl rfl mw_6_8 mw_1_33 mw_6_5 mw_6_7 mp_22 hd_X1_endAll rfl (g_rm hR rfl rfl) [0, 1, 2, 3, 4] [] [0, 1, 2, 3, 4] ⟨rfl, rfl, rfl, rfl, by decide, gRoIn_p [5, 6] (by rw [hro]; rfl) (by decide), rfl, fun _ => rfl⟩ rfl (Nat.le_of_ble_eq_true rfl) dX1_endCondition_1 (g_rc hR (Nat.le_of_ble_eq_true rfl) (Nat.le_of_ble_eq_true rfl)) (ck' := 0) (sk' := 0) rfl rfl (fun _ => rfl) (fun u3 _ => ?_) (fun _ hx => absurd rfl hx)
  refine g_aload_n C 0 dX1_endCondition_4 rfl ?_
  refine g_get C 0 2 rfl rfl wiX1 (by decide) mw_5_212 rfl rfl dX1_endCondition_5 ?_
  refine g_aload_n C 0 dX1_endCondition_8 rfl ?_
  refine g_get C 0 5 rfl rfl wiX1 (by decide) mw_5_215 rfl rfl dX1_endCondition_9 ?_
  refine g_dup2 C dX1_endCondition_12 rfl rfl ?_
  obtain ⟨c4, hf⟩ := gg_of hf
  refine g_iald C 2 rfl (gi_in c4) dX1_endCondition_13 ?_
  refine g_aload_n C 0 dX1_endCondition_14 rfl ?_
  refine g_get C 0 3 rfl rfl wiX1 (by decide) mw_5_213 rfl rfl dX1_endCondition_15 ?_
  refine g_aload_n C 0 dX1_endCondition_18 rfl ?_
  refine g_get C 0 5 rfl rfl wiX1 (by decide) mw_5_215 rfl rfl dX1_endCondition_19 ?_
  obtain ⟨c5, hf⟩ := gg_of hf
  refine g_zald C 3 rfl (gi_in c5) dX1_endCondition_22 ?_
  refine g_if_eq C 30 dX1_endCondition_23 (by decide) (fun c6 => ?_) (fun c6 => ?_)
  · have hf := opt_pos c6 hf
    refine g_iconst C (v := 0) dX1_endCondition_30 (by decide) ?_
    exact H31 u3.1 u3.2.1 u3.2.2.1 u3.2.2.2 me v1.1 v1.2 0 (me (Int32.toNatClampNeg opn)) opn hf
  · have hf := opt_neg c6 hf
    refine g_iconst C (v := 1) dX1_endCondition_26 (by decide) ?_
    refine g_goto C 31 dX1_endCondition_27 (by decide) ?_
    exact H31 u3.1 u3.2.1 u3.2.2.1 u3.2.2.2 me v1.1 v1.2 1 (me (Int32.toNatClampNeg opn)) opn hf
/-! X1_end -/
theorem hd_X1_end : yX1_end.cls ≠ "java/lang/invoke/MethodHandle" ∧ yX1_end.cls ≠ "java/lang/invoke/VarHandle" ∧ (parseMethodDescriptor yX1_end.desc).map (fun d => d.parameters.length) = some 0 := by decide +kernel
def F_X1_end_L30   (me_30 : Nat → Int32) (an_30 : Nat → Int32) (al_30 : Nat → Int32) (s0_30 : Int32) : Option (Int32 × (Nat → Int32) × (Nat → Int32) × (Nat → Int32)) := gg (gnar .boolean s0_30) (some (s0_30, me_30, an_30, al_30))
def F_X1_end (opn : Int32) (jn : Nat) (du : Nat → Int32) (jm : Nat) (me : Nat → Int32) (ja : Nat) (an : Nat → Int32) (jl : Nat) (al : Nat → Int32) : Option (Int32 × (Nat → Int32) × (Nat → Int32) × (Nat → Int32)) := (F_X1_endCondition opn jm me ja an jl al).bind fun v1 => gg (gi opn jm) (gg (gi opn jn) (if (v1.1 (Int32.toNatClampNeg opn)) < (du (Int32.toNatClampNeg opn)) then (F_X1_end_L30 v1.1 v1.2.1 v1.2.2 0) else (F_X1_end_L30 v1.1 v1.2.1 v1.2.2 1)))
set_option maxRecDepth 100000 in
set_option maxHeartbeats 4000000 in
theorem c_X1_end {l : Launch} {D : va_G} {cy : Nat → ClassId} {j0 j1 j2 j3 j4 : Nat} {t0 t1 : Nat} {opn : Int32} {jn : Nat} {du : Nat → Int32} {jm : Nat} {me : Nat → Int32} {ja : Nat} {an : Nat → Int32} {jl : Nat} {al : Nat → Int32} {hash : Int32} {hz : Int32} {tn : Nat} {tb : Nat → Int32}   {val : Int32 × (Nat → Int32) × (Nat → Int32) × (Nat → Int32)} (hf : F_X1_end opn jn du jm me ja an jl al = some val) : gCt l D cy yX1_end cX1_end 1 (some .boolean) 2 40 0 0 [.ref j0] (wStr cy t0 t1 hash hz tn tb) ((wJu cy j0 j1 j2 j3 j4 t0 opn jn du jm me ja an jl al)) 0 (fun u : Nat × Nat × Nat × Nat => some (.int val.1)) (fun u => (wJu cy j0 u.1 u.2.1 u.2.2.1 u.2.2.2 t0 opn jn du jm val.2.1 ja val.2.2.1 jl val.2.2.2)) := by
  refine g_begin (by decide +kernel) (Nat.le_of_ble_eq_true rfl) ?_
  intro X Q hl hR hD hy hro hn C hin E
  subst hl; subst hD; subst hy
  replace C : gC X "SecretVault$Judge" cX1_end (some .boolean) := C
  unfold F_X1_end at hf
  have H30 : ∀ (a0_1_30 : Nat) (a0_2_30 : Nat) (a0_3_30 : Nat) (a0_4_30 : Nat) (me_30 : Nat → Int32) (an_30 : Nat → Int32) (al_30 : Nat → Int32) (s0_30 : Int32), F_X1_end_L30 me_30 an_30 al_30 s0_30 = some val → gW X Q 0 0 ((wJu (x_y X) j0 a0_1_30 a0_2_30 a0_3_30 a0_4_30 t0 opn jn du jm me_30 ja an_30 jl al_30)) [(0, .ref j0)] [.int s0_30] 30 := by
    intro a0_1_30 a0_2_30 a0_3_30 a0_4_30 me_30 an_30 al_30 s0_30 hf
    unfold F_X1_end_L30 at hf
    refine g_eqw (ws' := (wJu (x_y X) j0 a0_1_30 a0_2_30 a0_3_30 a0_4_30 t0 opn jn du jm me_30 ja an_30 jl al_30)) rfl ?_
    obtain ⟨c7, hf⟩ := gg_of hf
    obtain rfl := Option.some.inj hf
    exact g_zret C E (a0_1_30, a0_2_30, a0_3_30, a0_4_30) (gnar_of c7) dX1_end_30 rfl rfl rfl (Nat.le_of_ble_eq_true rfl) (Nat.le_of_ble_eq_true rfl)
  show gW X Q 0 0 ((wJu (x_y X) j0 j1 j2 j3 j4 t0 opn jn du jm me ja an jl al)) [(0, .ref j0)] [] 0
  refine g_aload_n C 0 dX1_end_0 rfl ?_
  obtain ⟨v1, h2, hf⟩ := opt_bind hf
  refine g_callV C (c_X1_endCondition (l := x_l X) (D := x_D X) (cy := x_y X) (j0 := j0) (j1 := j1) (j2 := j2) (j3 := j3) (j4 := j4) (t0 := t0) (t1 := t1) (opn := opn) (jn := jn) (du := du) (jm := jm) (me := me) (ja := ja) (an := an) (jl := jl) (al := al) (hash := hash) (hz := hz) (tn := tn) (tb := tb) h2) (As := []) (rest := []) (wr := []) (ws' := fun u3 => (wJu (x_y X) j0 u3.1 u3.2.1 u3.2.2.1 u3.2.2.2 t0 opn jn du jm v1.1 ja v1.2.1 jl v1.2.2)) (st' := fun u3 => []) (ci := 4) 0 0 ⟨_, rfl⟩ rfl rfl mw_6_12 mw_1_33 mw_6_9 mw_6_11 mp_23 hd_X1_endCondition rfl (g_rm hR rfl rfl) [0, 1, 2, 3, 4] [] [0, 1, 2, 3, 4] ⟨rfl, rfl, rfl, rfl, by decide, gRoIn_p [5, 6] (by rw [hro]; rfl) (by decide), rfl, fun _ => rfl⟩ rfl (Nat.le_of_ble_eq_true rfl) dX1_end_1 (g_rc hR (Nat.le_of_ble_eq_true rfl) (Nat.le_of_ble_eq_true rfl)) (ck' := 0) (sk' := 0) rfl rfl (fun _ => rfl) (fun u3 _ => ?_) (fun _ hx => absurd rfl hx)
  refine g_aload_n C 0 dX1_end_4 rfl ?_
  refine g_get C 0 2 rfl rfl wiX1 (by decide) mw_5_212 rfl rfl dX1_end_5 ?_
  refine g_aload_n C 0 dX1_end_8 rfl ?_
  refine g_get C 0 5 rfl rfl wiX1 (by decide) mw_5_215 rfl rfl dX1_end_9 ?_
  obtain ⟨c4, hf⟩ := gg_of hf
  refine g_iald C 2 rfl (gi_in c4) dX1_end_12 ?_
  refine g_aload_n C 0 dX1_end_13 rfl ?_
  refine g_get C 0 1 rfl rfl wiX1 (by decide) mw_5_211 rfl rfl dX1_end_14 ?_
  refine g_aload_n C 0 dX1_end_17 rfl ?_
  refine g_get C 0 5 rfl rfl wiX1 (by decide) mw_5_215 rfl rfl dX1_end_18 ?_
  obtain ⟨c5, hf⟩ := gg_of hf
  refine g_iald C 1 rfl (gi_in c5) dX1_end_21 ?_
  refine g_icmp_lt C 29 dX1_end_22 (by decide) (fun c6 => ?_) (fun c6 => ?_)
  · have hf := opt_pos c6 hf
    refine g_iconst C (v := 0) dX1_end_29 (by decide) ?_
    exact H30 u3.1 u3.2.1 u3.2.2.1 u3.2.2.2 v1.1 v1.2.1 v1.2.2 0 hf
  · have hf := opt_neg c6 hf
    refine g_iconst C (v := 1) dX1_end_25 (by decide) ?_
    refine g_goto C 30 dX1_end_26 (by decide) ?_
    exact H30 u3.1 u3.2.1 u3.2.2.1 u3.2.2.2 v1.1 v1.2.1 v1.2.2 1 hf
/-! X1_require -/
theorem hd_X1_require : yX1_require.cls ≠ "java/lang/invoke/MethodHandle" ∧ yX1_require.cls ≠ "java/lang/invoke/VarHandle" ∧ (parseMethodDescriptor yX1_require.desc).map (fun d => d.parameters.length) = some 1 := by decide +kernel
def F_X1_require_L29 (jl : Nat)  (al_29 : Nat → Int32) (s0_29 : Int32) (s1_29 : Int32) : Option ((Nat → Int32)) := gg (gi s1_29 jl) (gl (upd al_29 (Int32.toNatClampNeg s1_29) (vp_nar .boolean s0_29)) fun f4 => some f4)
def F_X1_require_L28 (jl : Nat)  (al_28 : Nat → Int32) (s0_28 : Int32) : Option ((Nat → Int32)) := F_X1_require_L29 jl al_28 0 s0_28
def F_X1_require (opn : Int32) (jl : Nat) (al : Nat → Int32) (p0 : Int32) : Option ((Nat → Int32)) := gg (gi opn jl) (if (al (Int32.toNatClampNeg opn)) = 0 then (F_X1_require_L28 jl al opn) else (if p0 = 0 then (F_X1_require_L28 jl al opn) else (F_X1_require_L29 jl al 1 opn)))
set_option maxRecDepth 100000 in
set_option maxHeartbeats 4000000 in
theorem c_X1_require {l : Launch} {D : va_G} {cy : Nat → ClassId} {j0 j1 j2 j3 j4 : Nat} {t0 t1 : Nat} {opn : Int32} {jn : Nat} {du : Nat → Int32} {jm : Nat} {me : Nat → Int32} {ja : Nat} {an : Nat → Int32} {jl : Nat} {al : Nat → Int32} {hash : Int32} {hz : Int32} {tn : Nat} {tb : Nat → Int32} {p0 : Int32}  {val : (Nat → Int32)} (hf : F_X1_require opn jl al p0 = some val) : gCt l D cy yX1_require cX1_require 2 none 0 0 0 0 [.ref j0, .int p0] (wStr cy t0 t1 hash hz tn tb) ((wJu cy j0 j1 j2 j3 j4 t0 opn jn du jm me ja an jl al)) 0 (fun u : Nat × Nat × Nat × Nat => none) (fun u => (wJu cy j0 u.1 u.2.1 u.2.2.1 u.2.2.2 t0 opn jn du jm me ja an jl val)) := by
  refine g_begin (by decide +kernel) (Nat.le_of_ble_eq_true rfl) ?_
  intro X Q hl hR hD hy hro hn C hin E
  subst hl; subst hD; subst hy
  replace C : gC X "SecretVault$Judge" cX1_require none := C
  unfold F_X1_require at hf
  have H29 : ∀ (a0_1_29 : Nat) (a0_2_29 : Nat) (a0_3_29 : Nat) (a0_4_29 : Nat) (al_29 : Nat → Int32) (s0_29 : Int32) (s1_29 : Int32), F_X1_require_L29 jl al_29 s0_29 s1_29 = some val → gW X Q 0 0 ((wJu (x_y X) j0 a0_1_29 a0_2_29 a0_3_29 a0_4_29 t0 opn jn du jm me ja an jl al_29)) [(0, .ref j0), (1, .int p0)] [.int s0_29, .int s1_29, .ref a0_4_29] 29 := by
    intro a0_1_29 a0_2_29 a0_3_29 a0_4_29 al_29 s0_29 s1_29 hf
    unfold F_X1_require_L29 at hf
    obtain ⟨c3, hf⟩ := gg_of hf
    obtain ⟨f4, ef4, hf⟩ := opt_let hf
    refine g_zast C (ws' := (wJu (x_y X) j0 a0_1_29 a0_2_29 a0_3_29 a0_4_29 t0 opn jn du jm me ja an jl f4)) 4 rfl (gi_in c3) (by rw [ef4]; rfl) dX1_require_29 ?_
    refine g_eqw (ws' := (wJu (x_y X) j0 a0_1_29 a0_2_29 a0_3_29 a0_4_29 t0 opn jn du jm me ja an jl f4)) rfl ?_
    obtain rfl := Option.some.inj hf
    exact g_vret C E (a0_1_29, a0_2_29, a0_3_29, a0_4_29) dX1_require_30 rfl rfl rfl (Nat.le_of_ble_eq_true rfl) (Nat.le_of_ble_eq_true rfl)
  have H28 : ∀ (a0_1_28 : Nat) (a0_2_28 : Nat) (a0_3_28 : Nat) (a0_4_28 : Nat) (al_28 : Nat → Int32) (s0_28 : Int32), F_X1_require_L28 jl al_28 s0_28 = some val → gW X Q 0 0 ((wJu (x_y X) j0 a0_1_28 a0_2_28 a0_3_28 a0_4_28 t0 opn jn du jm me ja an jl al_28)) [(0, .ref j0), (1, .int p0)] [.int s0_28, .ref a0_4_28] 28 := by
    intro a0_1_28 a0_2_28 a0_3_28 a0_4_28 al_28 s0_28 hf
    unfold F_X1_require_L28 at hf
    refine g_iconst C (v := 0) dX1_require_28 (by decide) ?_
    exact H29 a0_1_28 a0_2_28 a0_3_28 a0_4_28 al_28 0 s0_28 hf
  show gW X Q 0 0 ((wJu (x_y X) j0 j1 j2 j3 j4 t0 opn jn du jm me ja an jl al)) [(0, .ref j0), (1, .int p0)] [] 0
  refine g_aload_n C 0 dX1_require_0 rfl ?_
  refine g_get C 0 4 rfl rfl wiX1 (by decide) mw_5_214 rfl rfl dX1_require_1 ?_
  refine g_aload_n C 0 dX1_require_4 rfl ?_
  refine g_get C 0 5 rfl rfl wiX1 (by decide) mw_5_215 rfl rfl dX1_require_5 ?_
  refine g_aload_n C 0 dX1_require_8 rfl ?_
  refine g_get C 0 4 rfl rfl wiX1 (by decide) mw_5_214 rfl rfl dX1_require_9 ?_
  refine g_aload_n C 0 dX1_require_12 rfl ?_
  refine g_get C 0 5 rfl rfl wiX1 (by decide) mw_5_215 rfl rfl dX1_require_13 ?_
  obtain ⟨c1, hf⟩ := gg_of hf
  refine g_zald C 4 rfl (gi_in c1) dX1_require_16 ?_
  refine g_if_eq C 28 dX1_require_17 (by decide) (fun c2 => ?_) (fun c2 => ?_)
  · have hf := opt_pos c2 hf
    exact H28 j1 j2 j3 j4 al opn hf
  · have hf := opt_neg c2 hf
    refine g_iload_n C 1 dX1_require_20 rfl ?_
    refine g_if_eq C 28 dX1_require_21 (by decide) (fun c5 => ?_) (fun c5 => ?_)
    · have hf := opt_pos c5 hf
      exact H28 j1 j2 j3 j4 al opn hf
    · have hf := opt_neg c5 hf
      refine g_iconst C (v := 1) dX1_require_24 (by decide) ?_
      refine g_goto C 29 dX1_require_25 (by decide) ?_
      exact H29 j1 j2 j3 j4 al 1 opn hf
/-! X1_isFulfilledBy -/
theorem hd_X1_isFulfilledBy : yX1_isFulfilledBy.cls ≠ "java/lang/invoke/MethodHandle" ∧ yX1_isFulfilledBy.cls ≠ "java/lang/invoke/VarHandle" ∧ (parseMethodDescriptor yX1_isFulfilledBy.desc).map (fun d => d.parameters.length) = some 1 := by decide +kernel
def F_X1_isFulfilledBy_L173  (K14 : Int32 → (Nat → Int32) → (Nat → Int32) → (Nat → Int32) → (Nat → Int32) → Int32 → Int32 → Option (Int32 × Int32 × (Nat → Int32) × (Nat → Int32) × (Nat → Int32) × (Nat → Int32))) (opn_173 : Int32) (du_173 : Nat → Int32) (me_173 : Nat → Int32) (an_173 : Nat → Int32) (al_173 : Nat → Int32) (l2_173 : Int32) (l3_173 : Int32) : Option (Int32 × Int32 × (Nat → Int32) × (Nat → Int32) × (Nat → Int32) × (Nat → Int32)) := K14 opn_173 du_173 me_173 an_173 al_173 l2_173 (l3_173 + 1)
def F_X1_isFulfilledBy_L14 (jn : Nat) (jm : Nat) (ja : Nat) (jl : Nat) (tn : Nat) (tb : Nat → Int32) (p0 : Int32)  : Nat → Int32 → (Nat → Int32) → (Nat → Int32) → (Nat → Int32) → (Nat → Int32) → Int32 → Int32 → Option (Int32 × Int32 × (Nat → Int32) × (Nat → Int32) × (Nat → Int32) × (Nat → Int32))
  | 0, _, _, _, _, _, _, _ => none
  | n + 1, opn_14, du_14, me_14, an_14, al_14, l2_14, l3_14 => (F_J0_length_8abf5 tn).bind fun v4 => if v4 ≤ l3_14 then ((F_X1_end opn_14 jn du_14 jm me_14 ja an_14 jl al_14).bind fun v7 => gg (gnar .boolean v7.1) (some (v7.1, opn_14, du_14, v7.2.1, v7.2.2.1, v7.2.2.2))) else ((F_J0_charAt_5068e tn tb l3_14).bind fun v11 => (F_X5_isCount tn tb l3_14).bind fun v13 => if v13 = 0 then ((F_X5_isMember tn tb l3_14).bind fun v16 => if v16 = 0 then (if v11 = 40 then ((F_X1_begin (opn_14 + 1) jn du_14 jm me_14 ja an_14 jl al_14 l2_14).bind fun v36 => F_X1_isFulfilledBy_L173 (F_X1_isFulfilledBy_L14 jn jm ja jl tn tb p0 n) (opn_14 + 1) v36.1 v36.2.1 v36.2.2.1 v36.2.2.2 1 l3_14) else (if v11 = 124 then ((F_X1_endAll opn_14 ja an_14 jl al_14).bind fun v33 => F_X1_isFulfilledBy_L173 (F_X1_isFulfilledBy_L14 jn jm ja jl tn tb p0 n) opn_14 du_14 me_14 v33.1 v33.2 l2_14 l3_14) else (if v11 = 44 then ((F_X1_endCondition opn_14 jm me_14 ja an_14 jl al_14).bind fun v30 => F_X1_isFulfilledBy_L173 (F_X1_isFulfilledBy_L14 jn jm ja jl tn tb p0 n) opn_14 du_14 v30.1 v30.2.1 v30.2.2 l2_14 l3_14) else (if v11 = 41 then (if opn_14 ≤ 0 then (F_X1_isFulfilledBy_L173 (F_X1_isFulfilledBy_L14 jn jm ja jl tn tb p0 n) opn_14 du_14 me_14 an_14 al_14 l2_14 l3_14) else ((F_X1_end opn_14 jn du_14 jm me_14 ja an_14 jl al_14).bind fun v24 => (F_X1_require (opn_14 - 1) jl v24.2.2.2 v24.1).bind fun v27 => F_X1_isFulfilledBy_L173 (F_X1_isFulfilledBy_L14 jn jm ja jl tn tb p0 n) (opn_14 - 1) du_14 v24.2.1 v24.2.2.1 v27 l2_14 l3_14)) else (F_X1_isFulfilledBy_L173 (F_X1_isFulfilledBy_L14 jn jm ja jl tn tb p0 n) opn_14 du_14 me_14 an_14 al_14 l2_14 l3_14))))) else ((F_X10_contains p0 (v11 - 48)).bind fun v39 => (F_X1_require opn_14 jl al_14 v39).bind fun v41 => F_X1_isFulfilledBy_L173 (F_X1_isFulfilledBy_L14 jn jm ja jl tn tb p0 n) opn_14 du_14 me_14 an_14 v41 l2_14 l3_14)) else (F_X1_isFulfilledBy_L173 (F_X1_isFulfilledBy_L14 jn jm ja jl tn tb p0 n) opn_14 du_14 me_14 an_14 al_14 (v11 - 48) l3_14))
def F_X1_isFulfilledBy (opn : Int32) (jn : Nat) (du : Nat → Int32) (jm : Nat) (me : Nat → Int32) (ja : Nat) (an : Nat → Int32) (jl : Nat) (al : Nat → Int32) (tn : Nat) (tb : Nat → Int32) (p0 : Int32) : Option (Int32 × Int32 × (Nat → Int32) × (Nat → Int32) × (Nat → Int32) × (Nat → Int32)) := (F_X1_begin 0 jn du jm me ja an jl al 1).bind fun v1 => F_X1_isFulfilledBy_L14 jn jm ja jl tn tb p0 1000 0 v1.1 v1.2.1 v1.2.2.1 v1.2.2.2 1 0
set_option maxRecDepth 100000 in
set_option maxHeartbeats 4000000 in
theorem c_X1_isFulfilledBy {l : Launch} {D : va_G} {cy : Nat → ClassId} {j0 j1 j2 j3 j4 : Nat} {t0 t1 : Nat} {opn : Int32} {jn : Nat} {du : Nat → Int32} {jm : Nat} {me : Nat → Int32} {ja : Nat} {an : Nat → Int32} {jl : Nat} {al : Nat → Int32} {hash : Int32} {hz : Int32} {tn : Nat} {tb : Nat → Int32} {p0 : Int32}  {val : Int32 × Int32 × (Nat → Int32) × (Nat → Int32) × (Nat → Int32) × (Nat → Int32)} (hf : F_X1_isFulfilledBy opn jn du jm me ja an jl al tn tb p0 = some val) : gCt l D cy yX1_isFulfilledBy cX1_isFulfilledBy 6 (some .boolean) 7 149 0 0 [.ref j0, .int p0] (wStr cy t0 t1 hash hz tn tb) ((wJu cy j0 j1 j2 j3 j4 t0 opn jn du jm me ja an jl al)) 0 (fun u : Nat × Nat × Nat × Nat => some (.int val.1)) (fun u => (wJu cy j0 u.1 u.2.1 u.2.2.1 u.2.2.2 t0 val.2.1 jn val.2.2.1 jm val.2.2.2.1 ja val.2.2.2.2.1 jl val.2.2.2.2.2)) := by
  refine g_begin (by decide +kernel) (Nat.le_of_ble_eq_true rfl) ?_
  intro X Q hl hR hD hy hro hn C hin E
  subst hl; subst hD; subst hy
  replace C : gC X "SecretVault$Judge" cX1_isFulfilledBy (some .boolean) := C
  unfold F_X1_isFulfilledBy at hf
  have H14 : ∀ (n14 : Nat), ∀ (a0_1_14 : Nat) (a0_2_14 : Nat) (a0_3_14 : Nat) (a0_4_14 : Nat) (opn_14 : Int32) (du_14 : Nat → Int32) (me_14 : Nat → Int32) (an_14 : Nat → Int32) (al_14 : Nat → Int32) (l2_14 : Int32) (l3_14 : Int32), F_X1_isFulfilledBy_L14 jn jm ja jl tn tb p0 n14 opn_14 du_14 me_14 an_14 al_14 l2_14 l3_14 = some val → gW X Q 0 0 ((wJu (x_y X) j0 a0_1_14 a0_2_14 a0_3_14 a0_4_14 t0 opn_14 jn du_14 jm me_14 ja an_14 jl al_14)) [(0, .ref j0), (1, .int p0), (2, .int l2_14), (3, .int l3_14)] [] 14 := by
    intro n14
    induction n14 with
    | zero => intros; rename_i hf; cases hf
    | succ n14 ih =>
      intro a0_1_14 a0_2_14 a0_3_14 a0_4_14 opn_14 du_14 me_14 an_14 al_14 l2_14 l3_14 hf
      have H14 := ih
      rw [F_X1_isFulfilledBy_L14] at hf
      have H173 : ∀ (a0_1_173 : Nat) (a0_2_173 : Nat) (a0_3_173 : Nat) (a0_4_173 : Nat) (opn_173 : Int32) (du_173 : Nat → Int32) (me_173 : Nat → Int32) (an_173 : Nat → Int32) (al_173 : Nat → Int32) (l2_173 : Int32) (l3_173 : Int32), F_X1_isFulfilledBy_L173 (F_X1_isFulfilledBy_L14 jn jm ja jl tn tb p0 n14) opn_173 du_173 me_173 an_173 al_173 l2_173 l3_173 = some val → gW X Q 0 0 ((wJu (x_y X) j0 a0_1_173 a0_2_173 a0_3_173 a0_4_173 t0 opn_173 jn du_173 jm me_173 ja an_173 jl al_173)) [(0, .ref j0), (1, .int p0), (2, .int l2_173), (3, .int l3_173)] [] 173 := by
        intro a0_1_173 a0_2_173 a0_3_173 a0_4_173 opn_173 du_173 me_173 an_173 al_173 l2_173 l3_173 hf
        unfold F_X1_isFulfilledBy_L173 at hf
        refine g_iinc C 3 (v := l3_173 + 1) (lv' := [(3, .int (l3_173 + 1)), (0, .ref j0), (1, .int p0), (2, .int l2_173)]) dX1_isFulfilledBy_173 rfl rfl (g_nlt hn rfl) rfl ?_
        refine g_goto C 14 dX1_isFulfilledBy_176 (by decide) ?_
        refine gW.locals [1, 2, 3, 0] rfl ?_
        exact H14 a0_1_173 a0_2_173 a0_3_173 a0_4_173 opn_173 du_173 me_173 an_173 al_173 l2_173 (l3_173 + 1) hf
      refine g_iload_n C 3 dX1_isFulfilledBy_14 rfl ?_
      refine g_aload_n C 0 dX1_isFulfilledBy_15 rfl ?_
      refine g_get C 0 0 rfl rfl wiX1 (by decide) mw_5_210 rfl rfl dX1_isFulfilledBy_16 ?_
      obtain ⟨v4, h5, hf⟩ := opt_bind hf
      refine g_callV C (c_J0_length_8abf5 (l := x_l X) (D := x_D X) (cy := x_y X) (t0 := t0) (t1 := t1) (hash := hash) (hz := hz) (tn := tn) (tb := tb) h5) (As := []) (rest := [.int l3_14]) (wr := (wJu (x_y X) j0 a0_1_14 a0_2_14 a0_3_14 a0_4_14 t0 opn_14 jn du_14 jm me_14 ja an_14 jl al_14)) (ws' := fun _ => (wJu (x_y X) j0 a0_1_14 a0_2_14 a0_3_14 a0_4_14 t0 opn_14 jn du_14 jm me_14 ja an_14 jl al_14)) (st' := fun _ => [.int v4, .int l3_14]) (ci := 0) 0 5 ⟨_, by rw [hro]; rfl⟩ rfl rfl mw_4_75 mw_1_6 mw_5_209 mw_4_73 mw_4_74 hd_J0_length_8abf5 rfl (g_rm hR rfl rfl) [] [0, 1, 2, 3, 4] [0, 1, 2, 3, 4] ⟨rfl, rfl, rfl, rfl, by decide, gRoIn_p [5, 6] (by rw [hro]; rfl) (by decide), rfl, fun _ => rfl⟩ rfl (Nat.le_of_ble_eq_true rfl) dX1_isFulfilledBy_19 (g_rc hR (Nat.le_of_ble_eq_true rfl) (Nat.le_of_ble_eq_true rfl)) (ck' := 0) (sk' := 0) rfl rfl (fun _ => rfl) (fun _ _ => ?_) (fun _ hx => absurd rfl hx)
      refine g_icmp_ge C 179 dX1_isFulfilledBy_22 (by decide) (fun c6 => ?_) (fun c6 => ?_)
      · have hf := opt_pos c6 hf
        refine g_aload_n C 0 dX1_isFulfilledBy_179 rfl ?_
        obtain ⟨v7, h8, hf⟩ := opt_bind hf
        refine g_callV C (c_X1_end (l := x_l X) (D := x_D X) (cy := x_y X) (j0 := j0) (j1 := a0_1_14) (j2 := a0_2_14) (j3 := a0_3_14) (j4 := a0_4_14) (t0 := t0) (t1 := t1) (opn := opn_14) (jn := jn) (du := du_14) (jm := jm) (me := me_14) (ja := ja) (an := an_14) (jl := jl) (al := al_14) (hash := hash) (hz := hz) (tn := tn) (tb := tb) h8) (As := []) (rest := []) (wr := []) (ws' := fun u9 => (wJu (x_y X) j0 u9.1 u9.2.1 u9.2.2.1 u9.2.2.2 t0 opn_14 jn du_14 jm v7.2.1 ja v7.2.2.1 jl v7.2.2.2)) (st' := fun u9 => [.int v7.1]) (ci := 4) 0 0 ⟨_, rfl⟩ rfl rfl mw_6_16 mw_1_33 mw_6_13 mw_6_15 mp_24 hd_X1_end rfl (g_rm hR rfl rfl) [0, 1, 2, 3, 4] [] [0, 1, 2, 3, 4] ⟨rfl, rfl, rfl, rfl, by decide, gRoIn_p [5, 6] (by rw [hro]; rfl) (by decide), rfl, fun _ => rfl⟩ rfl (Nat.le_of_ble_eq_true rfl) dX1_isFulfilledBy_180 (g_rc hR (Nat.le_of_ble_eq_true rfl) (Nat.le_of_ble_eq_true rfl)) (ck' := 0) (sk' := 0) rfl rfl (fun _ => rfl) (fun u9 _ => ?_) (fun _ hx => absurd rfl hx)
        refine g_eqw (ws' := (wJu (x_y X) j0 u9.1 u9.2.1 u9.2.2.1 u9.2.2.2 t0 opn_14 jn du_14 jm v7.2.1 ja v7.2.2.1 jl v7.2.2.2)) rfl ?_
        obtain ⟨c10, hf⟩ := gg_of hf
        obtain rfl := Option.some.inj hf
        exact g_zret C E (u9.1, u9.2.1, u9.2.2.1, u9.2.2.2) (gnar_of c10) dX1_isFulfilledBy_183 rfl rfl rfl (Nat.le_of_ble_eq_true rfl) (Nat.le_of_ble_eq_true rfl)
      · have hf := opt_neg c6 hf
        refine g_aload_n C 0 dX1_isFulfilledBy_25 rfl ?_
        refine g_get C 0 0 rfl rfl wiX1 (by decide) mw_5_210 rfl rfl dX1_isFulfilledBy_26 ?_
        refine g_iload_n C 3 dX1_isFulfilledBy_29 rfl ?_
        obtain ⟨v11, h12, hf⟩ := opt_bind hf
        refine g_callV C (c_J0_charAt_5068e (l := x_l X) (D := x_D X) (cy := x_y X) (t0 := t0) (t1 := t1) (hash := hash) (hz := hz) (tn := tn) (tb := tb) (p0 := l3_14) h12) (As := [.int l3_14]) (rest := []) (wr := (wJu (x_y X) j0 a0_1_14 a0_2_14 a0_3_14 a0_4_14 t0 opn_14 jn du_14 jm me_14 ja an_14 jl al_14)) (ws' := fun _ => (wJu (x_y X) j0 a0_1_14 a0_2_14 a0_3_14 a0_4_14 t0 opn_14 jn du_14 jm me_14 ja an_14 jl al_14)) (st' := fun _ => [.int v11]) (ci := 0) 1 5 ⟨_, by rw [hro]; rfl⟩ rfl rfl mw_5_91 mw_1_6 mw_5_237 mw_5_89 mw_5_90 hd_J0_charAt_5068e rfl (g_rm hR rfl rfl) [] [0, 1, 2, 3, 4] [0, 1, 2, 3, 4] ⟨rfl, rfl, rfl, rfl, by decide, gRoIn_p [5, 6] (by rw [hro]; rfl) (by decide), rfl, fun _ => rfl⟩ rfl (Nat.le_of_ble_eq_true rfl) dX1_isFulfilledBy_30 (g_rc hR (Nat.le_of_ble_eq_true rfl) (Nat.le_of_ble_eq_true rfl)) (ck' := 0) (sk' := 0) rfl rfl (fun _ => rfl) (fun _ _ => ?_) (fun _ hx => absurd rfl hx)
        refine g_istore C (lv' := [(4, .int v11), (0, .ref j0), (1, .int p0), (2, .int l2_14), (3, .int l3_14)]) dX1_isFulfilledBy_33 (g_nlt hn rfl) rfl ?_
        refine g_aload_n C 1 dX1_isFulfilledBy_35 rfl ?_
        refine g_get C 0 0 rfl rfl wiX1 (by decide) mw_5_210 rfl rfl dX1_isFulfilledBy_36 ?_
        refine g_iload_n C 4 dX1_isFulfilledBy_39 rfl ?_
        obtain ⟨v13, h14, hf⟩ := opt_bind hf
        refine g_callS C (c_X5_isCount (l := x_l X) (D := x_D X) (cy := x_y X) (t0 := t0) (t1 := t1) (hash := hash) (hz := hz) (tn := tn) (tb := tb) (p1 := l3_14) h14) (As := [.ref t0, .int l3_14]) (rest := []) (wr := (wJu (x_y X) j0 a0_1_14 a0_2_14 a0_3_14 a0_4_14 t0 opn_14 jn du_14 jm me_14 ja an_14 jl al_14)) (ws' := fun _ => (wJu (x_y X) j0 a0_1_14 a0_2_14 a0_3_14 a0_4_14 t0 opn_14 jn du_14 jm me_14 ja an_14 jl al_14)) (st' := fun _ => [.int v13]) 2 mw_5_175 mw_1_31 mw_5_238 mw_5_174 hd_X5_isCount rfl (g_rm hR rfl rfl) [] [0, 1, 2, 3, 4] [0, 1, 2, 3, 4] ⟨rfl, rfl, rfl, rfl, by decide, gRoIn_p [5, 6] (by rw [hro]; rfl) (by decide), rfl, fun _ => rfl⟩ rfl (Nat.le_of_ble_eq_true rfl) dX1_isFulfilledBy_40 (g_rc hR (Nat.le_of_ble_eq_true rfl) (Nat.le_of_ble_eq_true rfl)) (ck' := 0) (sk' := 0) rfl rfl (fun _ => rfl) (fun _ _ => ?_) (fun _ hx => absurd rfl hx)
        refine g_if_eq C 55 dX1_isFulfilledBy_43 (by decide) (fun c15 => ?_) (fun c15 => ?_)
        · have hf := opt_pos c15 hf
          refine g_aload_n C 1 dX1_isFulfilledBy_55 rfl ?_
          refine g_get C 0 0 rfl rfl wiX1 (by decide) mw_5_210 rfl rfl dX1_isFulfilledBy_56 ?_
          refine g_iload_n C 4 dX1_isFulfilledBy_59 rfl ?_
          obtain ⟨v16, h17, hf⟩ := opt_bind hf
          refine g_callS C (c_X5_isMember (l := x_l X) (D := x_D X) (cy := x_y X) (t0 := t0) (t1 := t1) (hash := hash) (hz := hz) (tn := tn) (tb := tb) (p1 := l3_14) h17) (As := [.ref t0, .int l3_14]) (rest := []) (wr := (wJu (x_y X) j0 a0_1_14 a0_2_14 a0_3_14 a0_4_14 t0 opn_14 jn du_14 jm me_14 ja an_14 jl al_14)) (ws' := fun _ => (wJu (x_y X) j0 a0_1_14 a0_2_14 a0_3_14 a0_4_14 t0 opn_14 jn du_14 jm me_14 ja an_14 jl al_14)) (st' := fun _ => [.int v16]) 2 mw_5_183 mw_1_31 mw_5_239 mw_5_182 hd_X5_isMember rfl (g_rm hR rfl rfl) [] [0, 1, 2, 3, 4] [0, 1, 2, 3, 4] ⟨rfl, rfl, rfl, rfl, by decide, gRoIn_p [5, 6] (by rw [hro]; rfl) (by decide), rfl, fun _ => rfl⟩ rfl (Nat.le_of_ble_eq_true rfl) dX1_isFulfilledBy_60 (g_rc hR (Nat.le_of_ble_eq_true rfl) (Nat.le_of_ble_eq_true rfl)) (ck' := 0) (sk' := 0) rfl rfl (fun _ => rfl) (fun _ _ => ?_) (fun _ hx => absurd rfl hx)
          refine g_if_eq C 82 dX1_isFulfilledBy_63 (by decide) (fun c18 => ?_) (fun c18 => ?_)
          · have hf := opt_pos c18 hf
            refine g_iload C 0 dX1_isFulfilledBy_82 rfl ?_
            refine g_bipush C (v := 40) dX1_isFulfilledBy_84 (by decide) ?_
            refine g_icmp_ne C 109 dX1_isFulfilledBy_86 (by decide) (fun c19 => ?_) (fun c19 => ?_)
            · have hf := opt_neg c19 hf
              refine g_iload C 0 dX1_isFulfilledBy_109 rfl ?_
              refine g_bipush C (v := 124) dX1_isFulfilledBy_111 (by decide) ?_
              refine g_icmp_ne C 123 dX1_isFulfilledBy_113 (by decide) (fun c20 => ?_) (fun c20 => ?_)
              · have hf := opt_neg c20 hf
                refine g_iload C 0 dX1_isFulfilledBy_123 rfl ?_
                refine g_bipush C (v := 44) dX1_isFulfilledBy_125 (by decide) ?_
                refine g_icmp_ne C 137 dX1_isFulfilledBy_127 (by decide) (fun c21 => ?_) (fun c21 => ?_)
                · have hf := opt_neg c21 hf
                  refine g_iload C 0 dX1_isFulfilledBy_137 rfl ?_
                  refine g_bipush C (v := 41) dX1_isFulfilledBy_139 (by decide) ?_
                  refine g_icmp_ne C 173 dX1_isFulfilledBy_141 (by decide) (fun c22 => ?_) (fun c22 => ?_)
                  · have hf := opt_neg c22 hf
                    refine gW.locals [1, 2, 3, 4] rfl ?_
                    exact H173 a0_1_14 a0_2_14 a0_3_14 a0_4_14 opn_14 du_14 me_14 an_14 al_14 l2_14 l3_14 hf
                  · have hf := opt_pos c22 hf
                    refine g_aload_n C 1 dX1_isFulfilledBy_144 rfl ?_
                    refine g_get C 0 5 rfl rfl wiX1 (by decide) mw_5_215 rfl rfl dX1_isFulfilledBy_145 ?_
                    refine g_if_le C 173 dX1_isFulfilledBy_148 (by decide) (fun c23 => ?_) (fun c23 => ?_)
                    · have hf := opt_pos c23 hf
                      refine gW.locals [1, 2, 3, 4] rfl ?_
                      exact H173 a0_1_14 a0_2_14 a0_3_14 a0_4_14 opn_14 du_14 me_14 an_14 al_14 l2_14 l3_14 hf
                    · have hf := opt_neg c23 hf
                      refine g_aload_n C 1 dX1_isFulfilledBy_151 rfl ?_
                      obtain ⟨v24, h25, hf⟩ := opt_bind hf
                      refine g_callV C (c_X1_end (l := x_l X) (D := x_D X) (cy := x_y X) (j0 := j0) (j1 := a0_1_14) (j2 := a0_2_14) (j3 := a0_3_14) (j4 := a0_4_14) (t0 := t0) (t1 := t1) (opn := opn_14) (jn := jn) (du := du_14) (jm := jm) (me := me_14) (ja := ja) (an := an_14) (jl := jl) (al := al_14) (hash := hash) (hz := hz) (tn := tn) (tb := tb) h25) (As := []) (rest := []) (wr := []) (ws' := fun u26 => (wJu (x_y X) j0 u26.1 u26.2.1 u26.2.2.1 u26.2.2.2 t0 opn_14 jn du_14 jm v24.2.1 ja v24.2.2.1 jl v24.2.2.2)) (st' := fun u26 => [.int v24.1]) (ci := 4) 0 0 ⟨_, rfl⟩ rfl rfl mw_6_16 mw_1_33 mw_6_13 mw_6_15 mp_24 hd_X1_end rfl (g_rm hR rfl rfl) [0, 1, 2, 3, 4] [] [0, 1, 2, 3, 4] ⟨rfl, rfl, rfl, rfl, by decide, gRoIn_p [5, 6] (by rw [hro]; rfl) (by decide), rfl, fun _ => rfl⟩ rfl (Nat.le_of_ble_eq_true rfl) dX1_isFulfilledBy_152 (g_rc hR (Nat.le_of_ble_eq_true rfl) (Nat.le_of_ble_eq_true rfl)) (ck' := 0) (sk' := 0) rfl rfl (fun _ => rfl) (fun u26 _ => ?_) (fun _ hx => absurd rfl hx)
                      refine g_istore C (lv' := [(5, .int v24.1), (4, .int v11), (0, .ref j0), (1, .int p0), (2, .int l2_14), (3, .int l3_14)]) dX1_isFulfilledBy_155 (g_nlt hn rfl) rfl ?_
                      refine g_aload_n C 2 dX1_isFulfilledBy_157 rfl ?_
                      refine g_dup C dX1_isFulfilledBy_158 rfl ?_
                      refine g_get C 0 5 rfl rfl wiX1 (by decide) mw_5_215 rfl rfl dX1_isFulfilledBy_159 ?_
                      refine g_iconst C (v := 1) dX1_isFulfilledBy_162 (by decide) ?_
                      refine g_isub C dX1_isFulfilledBy_163 ?_
                      refine g_put C (ws' := (wJu (x_y X) j0 u26.1 u26.2.1 u26.2.2.1 u26.2.2.2 t0 (opn_14 - 1) jn du_14 jm v24.2.1 ja v24.2.2.1 jl v24.2.2.2)) 0 5 rfl rfl wiX1 (by decide) tyX1_ok nmX1 mw_5_215 rfl rfl rfl rfl (Nat.le_of_ble_eq_true rfl) rfl dX1_isFulfilledBy_164 ?_
                      refine g_aload_n C 2 dX1_isFulfilledBy_167 rfl ?_
                      refine g_iload C 0 dX1_isFulfilledBy_168 rfl ?_
                      obtain ⟨v27, h28, hf⟩ := opt_bind hf
                      refine g_callV C (c_X1_require (l := x_l X) (D := x_D X) (cy := x_y X) (j0 := j0) (j1 := u26.1) (j2 := u26.2.1) (j3 := u26.2.2.1) (j4 := u26.2.2.2) (t0 := t0) (t1 := t1) (opn := opn_14 - 1) (jn := jn) (du := du_14) (jm := jm) (me := v24.2.1) (ja := ja) (an := v24.2.2.1) (jl := jl) (al := v24.2.2.2) (hash := hash) (hz := hz) (tn := tn) (tb := tb) (p0 := v24.1) h28) (As := [.int v24.1]) (rest := []) (wr := []) (ws' := fun u29 => (wJu (x_y X) j0 u29.1 u29.2.1 u29.2.2.1 u29.2.2.2 t0 (opn_14 - 1) jn du_14 jm v24.2.1 ja v24.2.2.1 jl v27)) (st' := fun u29 => []) (ci := 4) 1 0 ⟨_, rfl⟩ rfl rfl mw_6_4 mw_1_33 mw_6_1 mw_6_3 mp_21 hd_X1_require rfl (g_rm hR rfl rfl) [0, 1, 2, 3, 4] [] [0, 1, 2, 3, 4] ⟨rfl, rfl, rfl, rfl, by decide, gRoIn_p [5, 6] (by rw [hro]; rfl) (by decide), rfl, fun _ => rfl⟩ rfl (Nat.le_of_ble_eq_true rfl) dX1_isFulfilledBy_170 (g_rc hR (Nat.le_of_ble_eq_true rfl) (Nat.le_of_ble_eq_true rfl)) (ck' := 0) (sk' := 0) rfl rfl (fun _ => rfl) (fun u29 _ => ?_) (fun _ hx => absurd rfl hx)
                      refine gW.locals [2, 3, 4, 5] rfl ?_
                      exact H173 u29.1 u29.2.1 u29.2.2.1 u29.2.2.2 (opn_14 - 1) du_14 v24.2.1 v24.2.2.1 v27 l2_14 l3_14 hf
                · have hf := opt_pos c21 hf
                  refine g_aload_n C 1 dX1_isFulfilledBy_130 rfl ?_
                  obtain ⟨v30, h31, hf⟩ := opt_bind hf
                  refine g_callV C (c_X1_endCondition (l := x_l X) (D := x_D X) (cy := x_y X) (j0 := j0) (j1 := a0_1_14) (j2 := a0_2_14) (j3 := a0_3_14) (j4 := a0_4_14) (t0 := t0) (t1 := t1) (opn := opn_14) (jn := jn) (du := du_14) (jm := jm) (me := me_14) (ja := ja) (an := an_14) (jl := jl) (al := al_14) (hash := hash) (hz := hz) (tn := tn) (tb := tb) h31) (As := []) (rest := []) (wr := []) (ws' := fun u32 => (wJu (x_y X) j0 u32.1 u32.2.1 u32.2.2.1 u32.2.2.2 t0 opn_14 jn du_14 jm v30.1 ja v30.2.1 jl v30.2.2)) (st' := fun u32 => []) (ci := 4) 0 0 ⟨_, rfl⟩ rfl rfl mw_6_12 mw_1_33 mw_6_9 mw_6_11 mp_23 hd_X1_endCondition rfl (g_rm hR rfl rfl) [0, 1, 2, 3, 4] [] [0, 1, 2, 3, 4] ⟨rfl, rfl, rfl, rfl, by decide, gRoIn_p [5, 6] (by rw [hro]; rfl) (by decide), rfl, fun _ => rfl⟩ rfl (Nat.le_of_ble_eq_true rfl) dX1_isFulfilledBy_131 (g_rc hR (Nat.le_of_ble_eq_true rfl) (Nat.le_of_ble_eq_true rfl)) (ck' := 0) (sk' := 0) rfl rfl (fun _ => rfl) (fun u32 _ => ?_) (fun _ hx => absurd rfl hx)
                  refine g_goto C 173 dX1_isFulfilledBy_134 (by decide) ?_
                  refine gW.locals [1, 2, 3, 4] rfl ?_
                  exact H173 u32.1 u32.2.1 u32.2.2.1 u32.2.2.2 opn_14 du_14 v30.1 v30.2.1 v30.2.2 l2_14 l3_14 hf
              · have hf := opt_pos c20 hf
                refine g_aload_n C 1 dX1_isFulfilledBy_116 rfl ?_
                obtain ⟨v33, h34, hf⟩ := opt_bind hf
                refine g_callV C (c_X1_endAll (l := x_l X) (D := x_D X) (cy := x_y X) (j0 := j0) (j1 := a0_1_14) (j2 := a0_2_14) (j3 := a0_3_14) (j4 := a0_4_14) (t0 := t0) (t1 := t1) (opn := opn_14) (jn := jn) (du := du_14) (jm := jm) (me := me_14) (ja := ja) (an := an_14) (jl := jl) (al := al_14) (hash := hash) (hz := hz) (tn := tn) (tb := tb) h34) (As := []) (rest := []) (wr := []) (ws' := fun u35 => (wJu (x_y X) j0 u35.1 u35.2.1 u35.2.2.1 u35.2.2.2 t0 opn_14 jn du_14 jm me_14 ja v33.1 jl v33.2)) (st' := fun u35 => []) (ci := 4) 0 0 ⟨_, rfl⟩ rfl rfl mw_6_8 mw_1_33 mw_6_5 mw_6_7 mp_22 hd_X1_endAll rfl (g_rm hR rfl rfl) [0, 1, 2, 3, 4] [] [0, 1, 2, 3, 4] ⟨rfl, rfl, rfl, rfl, by decide, gRoIn_p [5, 6] (by rw [hro]; rfl) (by decide), rfl, fun _ => rfl⟩ rfl (Nat.le_of_ble_eq_true rfl) dX1_isFulfilledBy_117 (g_rc hR (Nat.le_of_ble_eq_true rfl) (Nat.le_of_ble_eq_true rfl)) (ck' := 0) (sk' := 0) rfl rfl (fun _ => rfl) (fun u35 _ => ?_) (fun _ hx => absurd rfl hx)
                refine g_goto C 173 dX1_isFulfilledBy_120 (by decide) ?_
                refine gW.locals [1, 2, 3, 4] rfl ?_
                exact H173 u35.1 u35.2.1 u35.2.2.1 u35.2.2.2 opn_14 du_14 me_14 v33.1 v33.2 l2_14 l3_14 hf
            · have hf := opt_pos c19 hf
              refine g_aload_n C 1 dX1_isFulfilledBy_89 rfl ?_
              refine g_dup C dX1_isFulfilledBy_90 rfl ?_
              refine g_get C 0 5 rfl rfl wiX1 (by decide) mw_5_215 rfl rfl dX1_isFulfilledBy_91 ?_
              refine g_iconst C (v := 1) dX1_isFulfilledBy_94 (by decide) ?_
              refine g_iadd C dX1_isFulfilledBy_95 ?_
              refine g_put C (ws' := (wJu (x_y X) j0 a0_1_14 a0_2_14 a0_3_14 a0_4_14 t0 (opn_14 + 1) jn du_14 jm me_14 ja an_14 jl al_14)) 0 5 rfl rfl wiX1 (by decide) tyX1_ok nmX1 mw_5_215 rfl rfl rfl rfl (Nat.le_of_ble_eq_true rfl) rfl dX1_isFulfilledBy_96 ?_
              refine g_aload_n C 1 dX1_isFulfilledBy_99 rfl ?_
              refine g_iload_n C 3 dX1_isFulfilledBy_100 rfl ?_
              obtain ⟨v36, h37, hf⟩ := opt_bind hf
              refine g_callV C (c_X1_begin (l := x_l X) (D := x_D X) (cy := x_y X) (j0 := j0) (j1 := a0_1_14) (j2 := a0_2_14) (j3 := a0_3_14) (j4 := a0_4_14) (t0 := t0) (t1 := t1) (opn := opn_14 + 1) (jn := jn) (du := du_14) (jm := jm) (me := me_14) (ja := ja) (an := an_14) (jl := jl) (al := al_14) (hash := hash) (hz := hz) (tn := tn) (tb := tb) (p0 := l2_14) h37) (As := [.int l2_14]) (rest := []) (wr := []) (ws' := fun u38 => (wJu (x_y X) j0 u38.1 u38.2.1 u38.2.2.1 u38.2.2.2 t0 (opn_14 + 1) jn v36.1 jm v36.2.1 ja v36.2.2.1 jl v36.2.2.2)) (st' := fun u38 => []) (ci := 4) 1 0 ⟨_, rfl⟩ rfl rfl mw_5_236 mw_1_33 mw_5_233 mw_5_235 mp_20 hd_X1_begin rfl (g_rm hR rfl rfl) [0, 1, 2, 3, 4] [] [0, 1, 2, 3, 4] ⟨rfl, rfl, rfl, rfl, by decide, gRoIn_p [5, 6] (by rw [hro]; rfl) (by decide), rfl, fun _ => rfl⟩ rfl (Nat.le_of_ble_eq_true rfl) dX1_isFulfilledBy_101 (g_rc hR (Nat.le_of_ble_eq_true rfl) (Nat.le_of_ble_eq_true rfl)) (ck' := 0) (sk' := 0) rfl rfl (fun _ => rfl) (fun u38 _ => ?_) (fun _ hx => absurd rfl hx)
              refine g_iconst C (v := 1) dX1_isFulfilledBy_104 (by decide) ?_
              refine g_istore_n C (lv' := [(2, .int 1), (4, .int v11), (0, .ref j0), (1, .int p0), (3, .int l3_14)]) dX1_isFulfilledBy_105 (g_nlt hn rfl) rfl ?_
              refine g_goto C 173 dX1_isFulfilledBy_106 (by decide) ?_
              refine gW.locals [2, 3, 0, 4] rfl ?_
              exact H173 u38.1 u38.2.1 u38.2.2.1 u38.2.2.2 (opn_14 + 1) v36.1 v36.2.1 v36.2.2.1 v36.2.2.2 1 l3_14 hf
          · have hf := opt_neg c18 hf
            refine g_aload_n C 1 dX1_isFulfilledBy_66 rfl ?_
            refine g_iload_n C 2 dX1_isFulfilledBy_67 rfl ?_
            refine g_iload C 0 dX1_isFulfilledBy_68 rfl ?_
            refine g_bipush C (v := 48) dX1_isFulfilledBy_70 (by decide) ?_
            refine g_isub C dX1_isFulfilledBy_72 ?_
            obtain ⟨v39, h40, hf⟩ := opt_bind hf
            refine g_callSN C (c_X10_contains (l := x_l X) (D := x_D X) (cy := x_y X) (p0 := p0) (p1 := v11 - 48) h40) (As := [.int p0, .int (v11 - 48)]) (rest := [.ref j0]) (wr := (wJu (x_y X) j0 a0_1_14 a0_2_14 a0_3_14 a0_4_14 t0 opn_14 jn du_14 jm me_14 ja an_14 jl al_14)) (ws' := fun _ => (wJu (x_y X) j0 a0_1_14 a0_2_14 a0_3_14 a0_4_14 t0 opn_14 jn du_14 jm me_14 ja an_14 jl al_14)) (st' := fun _ => [.int v39, .ref j0]) 2 mw_2_136 mw_1_1 mn_Judge_54 mw_2_135 hd_X10_contains rfl (g_rm hR rfl rfl) [] [0, 1, 2, 3, 4] [0, 1, 2, 3, 4] ⟨rfl, rfl, rfl, rfl, by decide, gRoIn_0, rfl, fun _ => rfl⟩ rfl (Nat.le_of_ble_eq_true rfl) dX1_isFulfilledBy_73 (g_rc hR (Nat.le_of_ble_eq_true rfl) (Nat.le_of_ble_eq_true rfl)) (ck' := 0) (sk' := 0) rfl rfl (fun _ => rfl) (fun _ _ => ?_) (fun _ hx => absurd rfl hx)
            obtain ⟨v41, h42, hf⟩ := opt_bind hf
            refine g_callV C (c_X1_require (l := x_l X) (D := x_D X) (cy := x_y X) (j0 := j0) (j1 := a0_1_14) (j2 := a0_2_14) (j3 := a0_3_14) (j4 := a0_4_14) (t0 := t0) (t1 := t1) (opn := opn_14) (jn := jn) (du := du_14) (jm := jm) (me := me_14) (ja := ja) (an := an_14) (jl := jl) (al := al_14) (hash := hash) (hz := hz) (tn := tn) (tb := tb) (p0 := v39) h42) (As := [.int v39]) (rest := []) (wr := []) (ws' := fun u43 => (wJu (x_y X) j0 u43.1 u43.2.1 u43.2.2.1 u43.2.2.2 t0 opn_14 jn du_14 jm me_14 ja an_14 jl v41)) (st' := fun u43 => []) (ci := 4) 1 0 ⟨_, rfl⟩ rfl rfl mw_6_4 mw_1_33 mw_6_1 mw_6_3 mp_21 hd_X1_require rfl (g_rm hR rfl rfl) [0, 1, 2, 3, 4] [] [0, 1, 2, 3, 4] ⟨rfl, rfl, rfl, rfl, by decide, gRoIn_p [5, 6] (by rw [hro]; rfl) (by decide), rfl, fun _ => rfl⟩ rfl (Nat.le_of_ble_eq_true rfl) dX1_isFulfilledBy_76 (g_rc hR (Nat.le_of_ble_eq_true rfl) (Nat.le_of_ble_eq_true rfl)) (ck' := 0) (sk' := 0) rfl rfl (fun _ => rfl) (fun u43 _ => ?_) (fun _ hx => absurd rfl hx)
            refine g_goto C 173 dX1_isFulfilledBy_79 (by decide) ?_
            refine gW.locals [1, 2, 3, 4] rfl ?_
            exact H173 u43.1 u43.2.1 u43.2.2.1 u43.2.2.2 opn_14 du_14 me_14 an_14 v41 l2_14 l3_14 hf
        · have hf := opt_neg c15 hf
          refine g_iload C 0 dX1_isFulfilledBy_46 rfl ?_
          refine g_bipush C (v := 48) dX1_isFulfilledBy_48 (by decide) ?_
          refine g_isub C dX1_isFulfilledBy_50 ?_
          refine g_istore_n C (lv' := [(2, .int (v11 - 48)), (4, .int v11), (0, .ref j0), (1, .int p0), (3, .int l3_14)]) dX1_isFulfilledBy_51 (g_nlt hn rfl) rfl ?_
          refine g_goto C 173 dX1_isFulfilledBy_52 (by decide) ?_
          refine gW.locals [2, 3, 0, 4] rfl ?_
          exact H173 a0_1_14 a0_2_14 a0_3_14 a0_4_14 opn_14 du_14 me_14 an_14 al_14 (v11 - 48) l3_14 hf
  show gW X Q 0 0 ((wJu (x_y X) j0 j1 j2 j3 j4 t0 opn jn du jm me ja an jl al)) [(0, .ref j0), (1, .int p0)] [] 0
  refine g_aload_n C 0 dX1_isFulfilledBy_0 rfl ?_
  refine g_iconst C (v := 0) dX1_isFulfilledBy_1 (by decide) ?_
  refine g_put C (ws' := (wJu (x_y X) j0 j1 j2 j3 j4 t0 0 jn du jm me ja an jl al)) 0 5 rfl rfl wiX1 (by decide) tyX1_ok nmX1 mw_5_215 rfl rfl rfl rfl (Nat.le_of_ble_eq_true rfl) rfl dX1_isFulfilledBy_2 ?_
  refine g_aload_n C 0 dX1_isFulfilledBy_5 rfl ?_
  refine g_iconst C (v := 1) dX1_isFulfilledBy_6 (by decide) ?_
  obtain ⟨v1, h2, hf⟩ := opt_bind hf
  refine g_callV C (c_X1_begin (l := x_l X) (D := x_D X) (cy := x_y X) (j0 := j0) (j1 := j1) (j2 := j2) (j3 := j3) (j4 := j4) (t0 := t0) (t1 := t1) (opn := 0) (jn := jn) (du := du) (jm := jm) (me := me) (ja := ja) (an := an) (jl := jl) (al := al) (hash := hash) (hz := hz) (tn := tn) (tb := tb) (p0 := 1) h2) (As := [.int 1]) (rest := []) (wr := []) (ws' := fun u3 => (wJu (x_y X) j0 u3.1 u3.2.1 u3.2.2.1 u3.2.2.2 t0 0 jn v1.1 jm v1.2.1 ja v1.2.2.1 jl v1.2.2.2)) (st' := fun u3 => []) (ci := 4) 1 0 ⟨_, rfl⟩ rfl rfl mw_5_236 mw_1_33 mw_5_233 mw_5_235 mp_20 hd_X1_begin rfl (g_rm hR rfl rfl) [0, 1, 2, 3, 4] [] [0, 1, 2, 3, 4] ⟨rfl, rfl, rfl, rfl, by decide, gRoIn_p [5, 6] (by rw [hro]; rfl) (by decide), rfl, fun _ => rfl⟩ rfl (Nat.le_of_ble_eq_true rfl) dX1_isFulfilledBy_7 (g_rc hR (Nat.le_of_ble_eq_true rfl) (Nat.le_of_ble_eq_true rfl)) (ck' := 0) (sk' := 0) rfl rfl (fun _ => rfl) (fun u3 _ => ?_) (fun _ hx => absurd rfl hx)
  refine g_iconst C (v := 1) dX1_isFulfilledBy_10 (by decide) ?_
  refine g_istore_n C (lv' := [(2, .int 1), (0, .ref j0), (1, .int p0)]) dX1_isFulfilledBy_11 (g_nlt hn rfl) rfl ?_
  refine g_iconst C (v := 0) dX1_isFulfilledBy_12 (by decide) ?_
  refine g_istore_n C (lv' := [(3, .int 0), (2, .int 1), (0, .ref j0), (1, .int p0)]) dX1_isFulfilledBy_13 (g_nlt hn rfl) rfl ?_
  refine gW.locals [2, 3, 1, 0] rfl ?_
  exact H14 1000 u3.1 u3.2.1 u3.2.2.1 u3.2.2.2 0 v1.1 v1.2.1 v1.2.2.1 v1.2.2.2 1 0 hf
/-! X5_nestingOf -/
theorem hd_X5_nestingOf : yX5_nestingOf.cls ≠ "java/lang/invoke/MethodHandle" ∧ yX5_nestingOf.cls ≠ "java/lang/invoke/VarHandle" ∧ (parseMethodDescriptor yX5_nestingOf.desc).map (fun d => d.parameters.length) = some 1 := by decide +kernel
def F_X5_nestingOf_L95  (K16 : Nat → (Nat → Int32) → Int32 → Int32 → Int32 → Option (Int32)) (y0len_95 : Nat) (y0t_95 : Nat → Int32) (l2_95 : Int32) (l3_95 : Int32) (l4_95 : Int32) : Option (Int32) := K16 y0len_95 y0t_95 l2_95 l3_95 (l4_95 + 1)
def F_X5_nestingOf_L61  (K16 : Nat → (Nat → Int32) → Int32 → Int32 → Int32 → Option (Int32)) (y0len_61 : Nat) (y0t_61 : Nat → Int32) (l2_61 : Int32) (l3_61 : Int32) (l4_61 : Int32) (s0_61 : Int32) (s1_61 : Int32) (s2_61 : Int32) : Option (Int32) := gg (gi s2_61 y0len_61) (gl (upd y0t_61 (Int32.toNatClampNeg s2_61) (s1_61 + s0_61)) fun f21 => gg (gi (l2_61 + 1) y0len_61) ((F_J9_max_7cf53 l3_61 (f21 (Int32.toNatClampNeg (l2_61 + 1)))).bind fun v23 => F_X5_nestingOf_L95 K16 y0len_61 f21 (l2_61 + 1) v23 l4_61))
def F_X5_nestingOf_L16 (tn : Nat) (tb : Nat → Int32)  : Nat → Nat → (Nat → Int32) → Int32 → Int32 → Int32 → Option (Int32)
  | 0, _, _, _, _, _ => none
  | n + 1, y0len_16, y0t_16, l2_16, l3_16, l4_16 => (F_J0_length_8abf5 tn).bind fun v6 => if v6 ≤ l4_16 then (some l3_16) else ((F_J0_charAt_5068e tn tb l4_16).bind fun v9 => if v9 = 40 then (gg (gi l2_16 y0len_16) ((F_X5_isSignAt tn tb (l4_16 - 1) 102).bind fun v17 => if v17 = 0 then (F_X5_nestingOf_L61 (F_X5_nestingOf_L16 tn tb n) y0len_16 y0t_16 l2_16 l3_16 l4_16 0 (y0t_16 (Int32.toNatClampNeg l2_16)) (l2_16 + 1)) else (F_X5_nestingOf_L61 (F_X5_nestingOf_L16 tn tb n) y0len_16 y0t_16 l2_16 l3_16 l4_16 1 (y0t_16 (Int32.toNatClampNeg l2_16)) (l2_16 + 1)))) else ((F_J0_charAt_5068e tn tb l4_16).bind fun v12 => if v12 = 41 then (if l2_16 ≤ 0 then (F_X5_nestingOf_L95 (F_X5_nestingOf_L16 tn tb n) y0len_16 y0t_16 l2_16 l3_16 l4_16) else (F_X5_nestingOf_L95 (F_X5_nestingOf_L16 tn tb n) y0len_16 y0t_16 (l2_16 + (-1)) l3_16 l4_16)) else (F_X5_nestingOf_L95 (F_X5_nestingOf_L16 tn tb n) y0len_16 y0t_16 l2_16 l3_16 l4_16)))
def F_X5_nestingOf (tn : Nat) (tb : Nat → Int32) : Option (Int32) := (F_J0_length_8abf5 tn).bind fun v1 => gg (gnw (v1 + 1) 64) (gl (Int32.toNatClampNeg (v1 + 1)) fun m4 => F_X5_nestingOf_L16 tn tb 1000 m4 (fun _ => 0) 0 0 0)
set_option maxRecDepth 100000 in
set_option maxHeartbeats 4000000 in
theorem c_X5_nestingOf {l : Launch} {D : va_G} {cy : Nat → ClassId} {t0 t1 : Nat} {hash : Int32} {hz : Int32} {tn : Nat} {tb : Nat → Int32}   {val : Int32} (hf : F_X5_nestingOf tn tb = some val) : gCt l D cy yX5_nestingOf cX5_nestingOf 5 (some .int) 5 107 1 64 [.ref t0] (wStr cy t0 t1 hash hz tn tb) ([]) 0 (fun _ : Unit => some (.int val)) (fun _ => []) := by
  refine g_begin (by decide +kernel) (Nat.le_of_ble_eq_true rfl) ?_
  intro X Q hl hR hD hy hro hn C hin E
  subst hl; subst hD; subst hy
  replace C : gC X "SecretVault$PolicySyntax" cX5_nestingOf (some .int) := C
  unfold F_X5_nestingOf at hf
  have H16 : ∀ (n16 : Nat), ∀ (a0_0_16 : Nat) (y0len_16 : Nat) (y0t_16 : Nat → Int32) (l2_16 : Int32) (l3_16 : Int32) (l4_16 : Int32), F_X5_nestingOf_L16 tn tb n16 y0len_16 y0t_16 l2_16 l3_16 l4_16 = some val → gW X Q 1 64 ([(a0_0_16, .inl ((x_y X) 0, y0len_16, .inl y0t_16))]) [(0, .ref t0), (1, .ref a0_0_16), (2, .int l2_16), (3, .int l3_16), (4, .int l4_16)] [] 16 := by
    intro n16
    induction n16 with
    | zero => intros; rename_i hf; cases hf
    | succ n16 ih =>
      intro a0_0_16 y0len_16 y0t_16 l2_16 l3_16 l4_16 hf
      have H16 := ih
      rw [F_X5_nestingOf_L16] at hf
      have H95 : ∀ (a0_0_95 : Nat) (y0len_95 : Nat) (y0t_95 : Nat → Int32) (l2_95 : Int32) (l3_95 : Int32) (l4_95 : Int32), F_X5_nestingOf_L95 (F_X5_nestingOf_L16 tn tb n16) y0len_95 y0t_95 l2_95 l3_95 l4_95 = some val → gW X Q 1 64 ([(a0_0_95, .inl ((x_y X) 0, y0len_95, .inl y0t_95))]) [(0, .ref t0), (1, .ref a0_0_95), (2, .int l2_95), (3, .int l3_95), (4, .int l4_95)] [] 95 := by
        intro a0_0_95 y0len_95 y0t_95 l2_95 l3_95 l4_95 hf
        unfold F_X5_nestingOf_L95 at hf
        refine g_iinc C 4 (v := l4_95 + 1) (lv' := [(4, .int (l4_95 + 1)), (0, .ref t0), (1, .ref a0_0_95), (2, .int l2_95), (3, .int l3_95)]) dX5_nestingOf_95 rfl rfl (g_nlt hn rfl) rfl ?_
        refine g_goto C 16 dX5_nestingOf_98 (by decide) ?_
        refine gW.locals [1, 2, 3, 4, 0] rfl ?_
        exact H16 a0_0_95 y0len_95 y0t_95 l2_95 l3_95 (l4_95 + 1) hf
      have H61 : ∀ (a0_0_61 : Nat) (y0len_61 : Nat) (y0t_61 : Nat → Int32) (l2_61 : Int32) (l3_61 : Int32) (l4_61 : Int32) (s0_61 : Int32) (s1_61 : Int32) (s2_61 : Int32), F_X5_nestingOf_L61 (F_X5_nestingOf_L16 tn tb n16) y0len_61 y0t_61 l2_61 l3_61 l4_61 s0_61 s1_61 s2_61 = some val → gW X Q 1 64 ([(a0_0_61, .inl ((x_y X) 0, y0len_61, .inl y0t_61))]) [(0, .ref t0), (1, .ref a0_0_61), (2, .int l2_61), (3, .int l3_61), (4, .int l4_61)] [.int s0_61, .int s1_61, .int s2_61, .ref a0_0_61] 61 := by
        intro a0_0_61 y0len_61 y0t_61 l2_61 l3_61 l4_61 s0_61 s1_61 s2_61 hf
        unfold F_X5_nestingOf_L61 at hf
        refine g_iadd C dX5_nestingOf_61 ?_
        obtain ⟨c20, hf⟩ := gg_of hf
        obtain ⟨f21, ef21, hf⟩ := opt_let hf
        refine g_iast C (ws' := [(a0_0_61, .inl ((x_y X) 0, y0len_61, .inl f21))]) 0 rfl (gi_in c20) (by rw [ef21]; rfl) dX5_nestingOf_62 ?_
        refine g_iinc C 2 (v := l2_61 + 1) (lv' := [(2, .int (l2_61 + 1)), (0, .ref t0), (1, .ref a0_0_61), (3, .int l3_61), (4, .int l4_61)]) dX5_nestingOf_63 rfl rfl (g_nlt hn rfl) rfl ?_
        refine g_iload_n C 3 dX5_nestingOf_66 rfl ?_
        refine g_aload_n C 2 dX5_nestingOf_67 rfl ?_
        refine g_iload_n C 0 dX5_nestingOf_68 rfl ?_
        obtain ⟨c22, hf⟩ := gg_of hf
        refine g_iald C 0 rfl (gi_in c22) dX5_nestingOf_69 ?_
        obtain ⟨v23, h24, hf⟩ := opt_bind hf
        refine g_callS C (c_J9_max_7cf53 (l := x_l X) (D := x_D X) (cy := x_y X) (p0 := l3_61) (p1 := f21 (Int32.toNatClampNeg (l2_61 + 1))) h24) (As := [.int l3_61, .int (f21 (Int32.toNatClampNeg (l2_61 + 1)))]) (rest := []) (wr := [(a0_0_61, .inl ((x_y X) 0, y0len_61, .inl f21))]) (ws' := fun _ => [(a0_0_61, .inl ((x_y X) 0, y0len_61, .inl f21))]) (st' := fun _ => [.int v23]) 2 mw_4_23 mw_1_18 mw_6_26 mw_4_22 hd_J9_max_7cf53 rfl (g_rm hR rfl rfl) [] [0] [0] ⟨rfl, rfl, rfl, rfl, by decide, gRoIn_0, rfl, fun _ => rfl⟩ rfl (Nat.le_of_ble_eq_true rfl) dX5_nestingOf_70 (g_rc hR (Nat.le_of_ble_eq_true rfl) (Nat.le_of_ble_eq_true rfl)) (ck' := 1) (sk' := 64) rfl rfl (fun _ => rfl) (fun _ _ => ?_) (fun _ hx => absurd rfl hx)
        refine g_istore_n C (lv' := [(3, .int v23), (2, .int (l2_61 + 1)), (0, .ref t0), (1, .ref a0_0_61), (4, .int l4_61)]) dX5_nestingOf_73 (g_nlt hn rfl) rfl ?_
        refine g_goto C 95 dX5_nestingOf_74 (by decide) ?_
        refine gW.locals [2, 3, 1, 0, 4] rfl ?_
        exact H95 a0_0_61 y0len_61 f21 (l2_61 + 1) v23 l4_61 hf
      refine g_iload C 4 dX5_nestingOf_16 rfl ?_
      refine g_aload_n C 0 dX5_nestingOf_18 rfl ?_
      obtain ⟨v6, h7, hf⟩ := opt_bind hf
      refine g_callV C (c_J0_length_8abf5 (l := x_l X) (D := x_D X) (cy := x_y X) (t0 := t0) (t1 := t1) (hash := hash) (hz := hz) (tn := tn) (tb := tb) h7) (As := []) (rest := [.int l4_16]) (wr := [(a0_0_16, .inl ((x_y X) 0, y0len_16, .inl y0t_16))]) (ws' := fun _ => [(a0_0_16, .inl ((x_y X) 0, y0len_16, .inl y0t_16))]) (st' := fun _ => [.int v6, .int l4_16]) (ci := 0) 0 1 ⟨_, by rw [hro]; rfl⟩ rfl rfl mw_4_75 mw_1_6 mw_5_180 mw_4_73 mw_4_74 hd_J0_length_8abf5 rfl (g_rm hR rfl rfl) [] [0] [0] ⟨rfl, rfl, rfl, rfl, by decide, gRoIn_p [1, 2] (by rw [hro]; rfl) (by decide), rfl, fun _ => rfl⟩ rfl (Nat.le_of_ble_eq_true rfl) dX5_nestingOf_19 (g_rc hR (Nat.le_of_ble_eq_true rfl) (Nat.le_of_ble_eq_true rfl)) (ck' := 1) (sk' := 64) rfl rfl (fun _ => rfl) (fun _ _ => ?_) (fun _ hx => absurd rfl hx)
      refine g_icmp_ge C 101 dX5_nestingOf_22 (by decide) (fun c8 => ?_) (fun c8 => ?_)
      · have hf := opt_pos c8 hf
        refine g_iload_n C 3 dX5_nestingOf_101 rfl ?_
        refine g_sub [] (ws' := []) (by decide) rfl ?_
        obtain rfl := Option.some.inj hf
        exact g_iret C E () dX5_nestingOf_102 rfl rfl rfl (Nat.le_of_ble_eq_true rfl) (Nat.le_of_ble_eq_true rfl)
      · have hf := opt_neg c8 hf
        refine g_aload_n C 0 dX5_nestingOf_25 rfl ?_
        refine g_iload C 4 dX5_nestingOf_26 rfl ?_
        obtain ⟨v9, h10, hf⟩ := opt_bind hf
        refine g_callV C (c_J0_charAt_5068e (l := x_l X) (D := x_D X) (cy := x_y X) (t0 := t0) (t1 := t1) (hash := hash) (hz := hz) (tn := tn) (tb := tb) (p0 := l4_16) h10) (As := [.int l4_16]) (rest := []) (wr := [(a0_0_16, .inl ((x_y X) 0, y0len_16, .inl y0t_16))]) (ws' := fun _ => [(a0_0_16, .inl ((x_y X) 0, y0len_16, .inl y0t_16))]) (st' := fun _ => [.int v9]) (ci := 0) 1 1 ⟨_, by rw [hro]; rfl⟩ rfl rfl mw_5_91 mw_1_6 mw_5_176 mw_5_89 mw_5_90 hd_J0_charAt_5068e rfl (g_rm hR rfl rfl) [] [0] [0] ⟨rfl, rfl, rfl, rfl, by decide, gRoIn_p [1, 2] (by rw [hro]; rfl) (by decide), rfl, fun _ => rfl⟩ rfl (Nat.le_of_ble_eq_true rfl) dX5_nestingOf_28 (g_rc hR (Nat.le_of_ble_eq_true rfl) (Nat.le_of_ble_eq_true rfl)) (ck' := 1) (sk' := 64) rfl rfl (fun _ => rfl) (fun _ _ => ?_) (fun _ hx => absurd rfl hx)
        refine g_bipush C (v := 40) dX5_nestingOf_31 (by decide) ?_
        refine g_icmp_ne C 77 dX5_nestingOf_33 (by decide) (fun c11 => ?_) (fun c11 => ?_)
        · have hf := opt_neg c11 hf
          refine g_aload_n C 0 dX5_nestingOf_77 rfl ?_
          refine g_iload C 4 dX5_nestingOf_78 rfl ?_
          obtain ⟨v12, h13, hf⟩ := opt_bind hf
          refine g_callV C (c_J0_charAt_5068e (l := x_l X) (D := x_D X) (cy := x_y X) (t0 := t0) (t1 := t1) (hash := hash) (hz := hz) (tn := tn) (tb := tb) (p0 := l4_16) h13) (As := [.int l4_16]) (rest := []) (wr := [(a0_0_16, .inl ((x_y X) 0, y0len_16, .inl y0t_16))]) (ws' := fun _ => [(a0_0_16, .inl ((x_y X) 0, y0len_16, .inl y0t_16))]) (st' := fun _ => [.int v12]) (ci := 0) 1 1 ⟨_, by rw [hro]; rfl⟩ rfl rfl mw_5_91 mw_1_6 mw_5_176 mw_5_89 mw_5_90 hd_J0_charAt_5068e rfl (g_rm hR rfl rfl) [] [0] [0] ⟨rfl, rfl, rfl, rfl, by decide, gRoIn_p [1, 2] (by rw [hro]; rfl) (by decide), rfl, fun _ => rfl⟩ rfl (Nat.le_of_ble_eq_true rfl) dX5_nestingOf_80 (g_rc hR (Nat.le_of_ble_eq_true rfl) (Nat.le_of_ble_eq_true rfl)) (ck' := 1) (sk' := 64) rfl rfl (fun _ => rfl) (fun _ _ => ?_) (fun _ hx => absurd rfl hx)
          refine g_bipush C (v := 41) dX5_nestingOf_83 (by decide) ?_
          refine g_icmp_ne C 95 dX5_nestingOf_85 (by decide) (fun c14 => ?_) (fun c14 => ?_)
          · have hf := opt_neg c14 hf
            exact H95 a0_0_16 y0len_16 y0t_16 l2_16 l3_16 l4_16 hf
          · have hf := opt_pos c14 hf
            refine g_iload_n C 2 dX5_nestingOf_88 rfl ?_
            refine g_if_le C 95 dX5_nestingOf_89 (by decide) (fun c15 => ?_) (fun c15 => ?_)
            · have hf := opt_pos c15 hf
              exact H95 a0_0_16 y0len_16 y0t_16 l2_16 l3_16 l4_16 hf
            · have hf := opt_neg c15 hf
              refine g_iinc C 2 (v := l2_16 + (-1)) (lv' := [(2, .int (l2_16 + (-1))), (0, .ref t0), (1, .ref a0_0_16), (3, .int l3_16), (4, .int l4_16)]) dX5_nestingOf_92 rfl rfl (g_nlt hn rfl) rfl ?_
              refine gW.locals [1, 2, 0, 3, 4] rfl ?_
              exact H95 a0_0_16 y0len_16 y0t_16 (l2_16 + (-1)) l3_16 l4_16 hf
        · have hf := opt_pos c11 hf
          refine g_aload_n C 1 dX5_nestingOf_36 rfl ?_
          refine g_iload_n C 2 dX5_nestingOf_37 rfl ?_
          refine g_iconst C (v := 1) dX5_nestingOf_38 (by decide) ?_
          refine g_iadd C dX5_nestingOf_39 ?_
          refine g_aload_n C 1 dX5_nestingOf_40 rfl ?_
          refine g_iload_n C 2 dX5_nestingOf_41 rfl ?_
          obtain ⟨c16, hf⟩ := gg_of hf
          refine g_iald C 0 rfl (gi_in c16) dX5_nestingOf_42 ?_
          refine g_aload_n C 0 dX5_nestingOf_43 rfl ?_
          refine g_iload C 4 dX5_nestingOf_44 rfl ?_
          refine g_iconst C (v := 1) dX5_nestingOf_46 (by decide) ?_
          refine g_isub C dX5_nestingOf_47 ?_
          refine g_bipush C (v := 102) dX5_nestingOf_48 (by decide) ?_
          obtain ⟨v17, h18, hf⟩ := opt_bind hf
          refine g_callS C (c_X5_isSignAt (l := x_l X) (D := x_D X) (cy := x_y X) (t0 := t0) (t1 := t1) (hash := hash) (hz := hz) (tn := tn) (tb := tb) (p1 := l4_16 - 1) (p2 := 102) h18) (As := [.ref t0, .int (l4_16 - 1), .int 102]) (rest := [.int (y0t_16 (Int32.toNatClampNeg l2_16)), .int (l2_16 + 1), .ref a0_0_16]) (wr := [(a0_0_16, .inl ((x_y X) 0, y0len_16, .inl y0t_16))]) (ws' := fun _ => [(a0_0_16, .inl ((x_y X) 0, y0len_16, .inl y0t_16))]) (st' := fun _ => [.int v17, .int (y0t_16 (Int32.toNatClampNeg l2_16)), .int (l2_16 + 1), .ref a0_0_16]) 3 mw_5_179 mw_1_31 mw_5_177 mw_5_178 hd_X5_isSignAt rfl (g_rm hR rfl rfl) [] [0] [0] ⟨rfl, rfl, rfl, rfl, by decide, gRoIn_p [1, 2] (by rw [hro]; rfl) (by decide), rfl, fun _ => rfl⟩ rfl (Nat.le_of_ble_eq_true rfl) dX5_nestingOf_50 (g_rc hR (Nat.le_of_ble_eq_true rfl) (Nat.le_of_ble_eq_true rfl)) (ck' := 1) (sk' := 64) rfl rfl (fun _ => rfl) (fun _ _ => ?_) (fun _ hx => absurd rfl hx)
          refine g_if_eq C 60 dX5_nestingOf_53 (by decide) (fun c19 => ?_) (fun c19 => ?_)
          · have hf := opt_pos c19 hf
            refine g_iconst C (v := 0) dX5_nestingOf_60 (by decide) ?_
            exact H61 a0_0_16 y0len_16 y0t_16 l2_16 l3_16 l4_16 0 (y0t_16 (Int32.toNatClampNeg l2_16)) (l2_16 + 1) hf
          · have hf := opt_neg c19 hf
            refine g_iconst C (v := 1) dX5_nestingOf_56 (by decide) ?_
            refine g_goto C 61 dX5_nestingOf_57 (by decide) ?_
            exact H61 a0_0_16 y0len_16 y0t_16 l2_16 l3_16 l4_16 1 (y0t_16 (Int32.toNatClampNeg l2_16)) (l2_16 + 1) hf
  show gW X Q 0 0 ([]) [(0, .ref t0)] [] 0
  refine g_aload_n C 0 dX5_nestingOf_0 rfl ?_
  obtain ⟨v1, h2, hf⟩ := opt_bind hf
  refine g_callV C (c_J0_length_8abf5 (l := x_l X) (D := x_D X) (cy := x_y X) (t0 := t0) (t1 := t1) (hash := hash) (hz := hz) (tn := tn) (tb := tb) h2) (As := []) (rest := []) (wr := []) (ws' := fun _ => []) (st' := fun _ => [.int v1]) (ci := 0) 0 0 ⟨_, by rw [hro]; rfl⟩ rfl rfl mw_4_75 mw_1_6 mw_5_180 mw_4_73 mw_4_74 hd_J0_length_8abf5 rfl (g_rm hR rfl rfl) [] [] [] ⟨rfl, rfl, rfl, rfl, by decide, gRoIn_p [0, 1] (by rw [hro]; rfl) (by decide), rfl, fun _ => rfl⟩ rfl (Nat.le_of_ble_eq_true rfl) dX5_nestingOf_1 (g_rc hR (Nat.le_of_ble_eq_true rfl) (Nat.le_of_ble_eq_true rfl)) (ck' := 0) (sk' := 0) rfl rfl (fun _ => rfl) (fun _ _ => ?_) (fun _ hx => absurd rfl hx)
  refine g_iconst C (v := 1) dX5_nestingOf_4 (by decide) ?_
  refine g_iadd C dX5_nestingOf_5 ?_
  obtain ⟨c5, hf⟩ := gg_of hf
  obtain ⟨m4, em4, hf⟩ := opt_let hf
  refine g_newa C 0 (ty := .int) rfl rfl (fun _ h => nomatch h) mw_1_89 (N := m4) (B := 64) (a0 := (m4, .inl (fun _ => 0))) (fun _ => rfl) (gnw_0 c5) em4.symm (by rw [em4]; exact gnw_B c5) (by decide) (by decide) (g_rc hR (Nat.le_of_ble_eq_true rfl) (Nat.le_of_ble_eq_true rfl)) (ck' := 1) (sk' := 64) rfl rfl dX5_nestingOf_6 (fun q3 => ?_)
  refine g_astore_n C (lv' := [(1, .ref q3), (0, .ref t0)]) dX5_nestingOf_8 (g_nlt hn rfl) rfl ?_
  refine g_iconst C (v := 0) dX5_nestingOf_9 (by decide) ?_
  refine g_istore_n C (lv' := [(2, .int 0), (1, .ref q3), (0, .ref t0)]) dX5_nestingOf_10 (g_nlt hn rfl) rfl ?_
  refine g_iconst C (v := 0) dX5_nestingOf_11 (by decide) ?_
  refine g_istore_n C (lv' := [(3, .int 0), (2, .int 0), (1, .ref q3), (0, .ref t0)]) dX5_nestingOf_12 (g_nlt hn rfl) rfl ?_
  refine g_iconst C (v := 0) dX5_nestingOf_13 (by decide) ?_
  refine g_istore C (lv' := [(4, .int 0), (3, .int 0), (2, .int 0), (1, .ref q3), (0, .ref t0)]) dX5_nestingOf_14 (g_nlt hn rfl) rfl ?_
  refine gW.locals [4, 3, 2, 1, 0] rfl ?_
  exact H16 1000 q3 m4 (fun _ => 0) 0 0 0 hf
/-! X5_without -/
theorem hd_X5_without : yX5_without.cls ≠ "java/lang/invoke/MethodHandle" ∧ yX5_without.cls ≠ "java/lang/invoke/VarHandle" ∧ (parseMethodDescriptor yX5_without.desc).map (fun d => d.parameters.length) = some 2 := by decide +kernel
def F_X5_without_L46   (y1ml_46 : Int32) (y1n_46 : Int32) (y1cap_46 : Nat) (y1bs_46 : Nat → Int32) : Option (Int32 × Int32 × Nat × (Nat → Int32)) := (F_J4_toString_0e30d y1ml_46 y1n_46 y1cap_46 y1bs_46).bind fun v8 => some (v8.1, v8.2.1, v8.2.2.1, v8.2.2.2)
def F_X5_without_L40  (K10 : Int32 → Int32 → Nat → (Nat → Int32) → Int32 → Option (Int32 × Int32 × Nat × (Nat → Int32))) (y1ml_40 : Int32) (y1n_40 : Int32) (y1cap_40 : Nat) (y1bs_40 : Nat → Int32) (l3_40 : Int32) : Option (Int32 × Int32 × Nat × (Nat → Int32)) := K10 y1ml_40 y1n_40 y1cap_40 y1bs_40 (l3_40 + 1)
def F_X5_without_L10 (zn : Nat) (zz : Nat → Int32) (tn : Nat) (tb : Nat → Int32)  : Nat → Int32 → Int32 → Nat → (Nat → Int32) → Int32 → Option (Int32 × Int32 × Nat × (Nat → Int32))
  | 0, _, _, _, _, _ => none
  | n + 1, y1ml_10, y1n_10, y1cap_10, y1bs_10, l3_10 => (F_J0_length_8abf5 tn).bind fun v5 => if v5 ≤ l3_10 then (F_X5_without_L46 y1ml_10 y1n_10 y1cap_10 y1bs_10) else (if (Int32.ofNat zn) ≤ l3_10 then (F_X5_without_L46 y1ml_10 y1n_10 y1cap_10 y1bs_10) else (gg (gi l3_10 zn) (if (zz (Int32.toNatClampNeg l3_10)) = 0 then ((F_J0_charAt_5068e tn tb l3_10).bind fun v14 => (F_J4_append_cf468 y1n_10 y1cap_10 y1bs_10 v14).bind fun v16 => F_X5_without_L40 (F_X5_without_L10 zn zz tn tb n) y1ml_10 v16.1 v16.2.1 v16.2.2 l3_10) else (F_X5_without_L40 (F_X5_without_L10 zn zz tn tb n) y1ml_10 y1n_10 y1cap_10 y1bs_10 l3_10))))
def F_X5_without (zn : Nat) (zz : Nat → Int32) (tn : Nat) (tb : Nat → Int32) : Option (Int32 × Int32 × Nat × (Nat → Int32)) := (F_J4_init_da8c8 ).bind fun v2 => F_X5_without_L10 zn zz tn tb 64 v2.1 v2.2.1 v2.2.2.1 v2.2.2.2 0
set_option maxRecDepth 100000 in
set_option maxHeartbeats 4000000 in
theorem c_X5_without {l : Launch} {D : va_G} {cy : Nat → ClassId} {zb : Nat} {t0 t1 : Nat} {zn : Nat} {zz : Nat → Int32} {hash : Int32} {hz : Int32} {tn : Nat} {tb : Nat → Int32}   {val : Int32 × Int32 × Nat × (Nat → Int32)} (hf : F_X5_without zn zz tn tb = some val) : gCt l D cy yX5_without cX5_without 4 (some (.object "java/lang/String")) 6 141 68 5272 [.ref t0, .ref zb] (wStr cy t0 t1 hash hz tn tb) ((wZ1 cy zb zn zz)) 0 (fun u : Nat × Nat => some (.ref u.1)) (fun u => (wZ1 cy zb zn zz) ++ (wStr cy u.1 u.2 val.1 val.2.1 val.2.2.1 val.2.2.2)) := by
  refine g_begin (by decide +kernel) (Nat.le_of_ble_eq_true rfl) ?_
  intro X Q hl hR hD hy hro hn C hin E
  subst hl; subst hD; subst hy
  replace C : gC X "SecretVault$PolicySyntax" cX5_without (some (.object "java/lang/String")) := C
  unfold F_X5_without at hf
  have H46 : ∀ (a1_0_46 : Nat) (a1_1_46 : Nat) (y1ml_46 : Int32) (y1n_46 : Int32) (y1cap_46 : Nat) (y1bs_46 : Nat → Int32), F_X5_without_L46 y1ml_46 y1n_46 y1cap_46 y1bs_46 = some val → gW X Q 66 5188 ((wZ1 (x_y X) zb zn zz) ++ (wSb (x_y X) a1_0_46 a1_1_46 y1ml_46 y1n_46 y1cap_46 y1bs_46)) [(0, .ref t0), (1, .ref zb), (2, .ref a1_0_46)] [] 46 := by
    intro a1_0_46 a1_1_46 y1ml_46 y1n_46 y1cap_46 y1bs_46 hf
    unfold F_X5_without_L46 at hf
    refine g_aload_n C 2 dX5_without_46 rfl ?_
    obtain ⟨v8, h9, hf⟩ := opt_bind hf
    refine g_callV C (c_J4_toString_0e30d (l := x_l X) (D := x_D X) (cy := x_y X) (sb := a1_0_46) (sy := a1_1_46) (ml := y1ml_46) (n := y1n_46) (cap := y1cap_46) (bs := y1bs_46) h9) (As := []) (rest := []) (wr := (wZ1 (x_y X) zb zn zz)) (ws' := fun u10 => (wZ1 (x_y X) zb zn zz) ++ (wSb (x_y X) a1_0_46 u10.1 y1ml_46 y1n_46 y1cap_46 y1bs_46) ++ (wStr (x_y X) u10.2.1 u10.2.2 v8.1 v8.2.1 v8.2.2.1 v8.2.2.2)) (st' := fun u10 => [.ref u10.2.1]) (ci := 1) 0 1 ⟨_, rfl⟩ rfl rfl mw_4_143 mw_1_5 mw_5_202 mw_4_141 mw_4_142 hd_J4_toString_0e30d rfl (g_rm hR rfl rfl) [1, 2] [0] [0, 1, 2, 3, 4] ⟨rfl, rfl, rfl, rfl, by decide, gRoIn_0, rfl, fun _ => rfl⟩ rfl (Nat.le_of_ble_eq_true rfl) dX5_without_47 (g_rc hR (Nat.le_of_ble_eq_true rfl) (Nat.le_of_ble_eq_true rfl)) (ck' := 68) (sk' := 5272) rfl rfl (fun _ => rfl) (fun u10 _ => ?_) (fun _ hx => absurd rfl hx)
    refine g_sub [0, 3, 4] (ws' := (wZ1 (x_y X) zb zn zz) ++ (wStr (x_y X) u10.2.1 u10.2.2 v8.1 v8.2.1 v8.2.2.1 v8.2.2.2)) (by decide) rfl ?_
    obtain rfl := Option.some.inj hf
    exact g_aret C E (u10.2.1, u10.2.2) dX5_without_50 (Or.inl ⟨_, rfl⟩) rfl rfl rfl (Nat.le_of_ble_eq_true rfl) (Nat.le_of_ble_eq_true rfl)
  have H10 : ∀ (n10 : Nat), ∀ (ck10 sk10 : Nat), ck10 + 1 * n10 ≤ 66 → sk10 + 80 * n10 ≤ 5188 → ∀ (a1_0_10 : Nat) (a1_1_10 : Nat) (y1ml_10 : Int32) (y1n_10 : Int32) (y1cap_10 : Nat) (y1bs_10 : Nat → Int32) (l3_10 : Int32), F_X5_without_L10 zn zz tn tb n10 y1ml_10 y1n_10 y1cap_10 y1bs_10 l3_10 = some val → gW X Q (ck10 + 0) (sk10 + 0) ((wZ1 (x_y X) zb zn zz) ++ (wSb (x_y X) a1_0_10 a1_1_10 y1ml_10 y1n_10 y1cap_10 y1bs_10)) [(0, .ref t0), (1, .ref zb), (2, .ref a1_0_10), (3, .int l3_10)] [] 10 := by
    intro n10
    induction n10 with
    | zero => intros; rename_i hf; cases hf
    | succ n10 ih =>
      intro ck10 sk10 hck10 hsk10 a1_0_10 a1_1_10 y1ml_10 y1n_10 y1cap_10 y1bs_10 l3_10 hf
      have H10 := ih
      rw [F_X5_without_L10] at hf
      have H40 : ∀ (a1_0_40 : Nat) (a1_1_40 : Nat) (y1ml_40 : Int32) (y1n_40 : Int32) (y1cap_40 : Nat) (y1bs_40 : Nat → Int32) (l3_40 : Int32), F_X5_without_L40 (F_X5_without_L10 zn zz tn tb n10) y1ml_40 y1n_40 y1cap_40 y1bs_40 l3_40 = some val → gW X Q (ck10 + 1) (sk10 + 80) ((wZ1 (x_y X) zb zn zz) ++ (wSb (x_y X) a1_0_40 a1_1_40 y1ml_40 y1n_40 y1cap_40 y1bs_40)) [(0, .ref t0), (1, .ref zb), (2, .ref a1_0_40), (3, .int l3_40)] [] 40 := by
        intro a1_0_40 a1_1_40 y1ml_40 y1n_40 y1cap_40 y1bs_40 l3_40 hf
        unfold F_X5_without_L40 at hf
        refine g_iinc C 3 (v := l3_40 + 1) (lv' := [(3, .int (l3_40 + 1)), (0, .ref t0), (1, .ref zb), (2, .ref a1_0_40)]) dX5_without_40 rfl rfl (g_nlt hn rfl) rfl ?_
        refine g_goto C 10 dX5_without_43 (by decide) ?_
        refine gW.locals [1, 2, 3, 0] rfl ?_
        exact H10 (ck10 + 1) (sk10 + 80) (by omega) (by omega) a1_0_40 a1_1_40 y1ml_40 y1n_40 y1cap_40 y1bs_40 (l3_40 + 1) hf
      refine g_iload_n C 3 dX5_without_10 rfl ?_
      refine g_aload_n C 0 dX5_without_11 rfl ?_
      obtain ⟨v5, h6, hf⟩ := opt_bind hf
      refine g_callV C (c_J0_length_8abf5 (l := x_l X) (D := x_D X) (cy := x_y X) (t0 := t0) (t1 := t1) (hash := hash) (hz := hz) (tn := tn) (tb := tb) h6) (As := []) (rest := [.int l3_10]) (wr := (wZ1 (x_y X) zb zn zz) ++ (wSb (x_y X) a1_0_10 a1_1_10 y1ml_10 y1n_10 y1cap_10 y1bs_10)) (ws' := fun _ => (wZ1 (x_y X) zb zn zz) ++ (wSb (x_y X) a1_0_10 a1_1_10 y1ml_10 y1n_10 y1cap_10 y1bs_10)) (st' := fun _ => [.int v5, .int l3_10]) (ci := 0) 0 3 ⟨_, by rw [hro]; rfl⟩ rfl rfl mw_4_75 mw_1_6 mw_5_180 mw_4_73 mw_4_74 hd_J0_length_8abf5 rfl (g_rm hR rfl rfl) [] [0, 1, 2] [0, 1, 2] ⟨rfl, rfl, rfl, rfl, by decide, gRoIn_p [3, 4] (by rw [hro]; rfl) (by decide), rfl, fun _ => rfl⟩ rfl (Nat.le_of_ble_eq_true rfl) dX5_without_12 (g_rc hR (by omega) (by omega)) (ck' := ck10 + 0) (sk' := sk10 + 0) rfl rfl (fun _ => rfl) (fun _ _ => ?_) (fun _ hx => absurd rfl hx)
      refine g_icmp_ge C 46 dX5_without_15 (by decide) (fun c7 => ?_) (fun c7 => ?_)
      · have hf := opt_pos c7 hf
        refine g_wide (ck' := 66) (sk' := 5188) (by omega) (by omega) ?_
        refine gW.locals [0, 1, 2] rfl ?_
        exact H46 a1_0_10 a1_1_10 y1ml_10 y1n_10 y1cap_10 y1bs_10 hf
      · have hf := opt_neg c7 hf
        refine g_iload_n C 3 dX5_without_18 rfl ?_
        refine g_aload_n C 1 dX5_without_19 rfl ?_
        refine g_alen C 0 (t0 := 1) (v := Int32.ofNat zn) rfl rfl rfl dX5_without_20 ?_
        refine g_icmp_ge C 46 dX5_without_21 (by decide) (fun c11 => ?_) (fun c11 => ?_)
        · have hf := opt_pos c11 hf
          refine g_wide (ck' := 66) (sk' := 5188) (by omega) (by omega) ?_
          refine gW.locals [0, 1, 2] rfl ?_
          exact H46 a1_0_10 a1_1_10 y1ml_10 y1n_10 y1cap_10 y1bs_10 hf
        · have hf := opt_neg c11 hf
          refine g_aload_n C 1 dX5_without_24 rfl ?_
          refine g_iload_n C 3 dX5_without_25 rfl ?_
          obtain ⟨c12, hf⟩ := gg_of hf
          refine g_zald C 0 rfl (gi_in c12) dX5_without_26 ?_
          refine g_if_ne C 40 dX5_without_27 (by decide) (fun c13 => ?_) (fun c13 => ?_)
          · have hf := opt_neg c13 hf
            refine g_wide (ck' := ck10 + 1) (sk' := sk10 + 80) (by omega) (by omega) ?_
            exact H40 a1_0_10 a1_1_10 y1ml_10 y1n_10 y1cap_10 y1bs_10 l3_10 hf
          · have hf := opt_pos c13 hf
            refine g_aload_n C 2 dX5_without_30 rfl ?_
            refine g_aload_n C 0 dX5_without_31 rfl ?_
            refine g_iload_n C 3 dX5_without_32 rfl ?_
            obtain ⟨v14, h15, hf⟩ := opt_bind hf
            refine g_callV C (c_J0_charAt_5068e (l := x_l X) (D := x_D X) (cy := x_y X) (t0 := t0) (t1 := t1) (hash := hash) (hz := hz) (tn := tn) (tb := tb) (p0 := l3_10) h15) (As := [.int l3_10]) (rest := [.ref a1_0_10]) (wr := (wZ1 (x_y X) zb zn zz) ++ (wSb (x_y X) a1_0_10 a1_1_10 y1ml_10 y1n_10 y1cap_10 y1bs_10)) (ws' := fun _ => (wZ1 (x_y X) zb zn zz) ++ (wSb (x_y X) a1_0_10 a1_1_10 y1ml_10 y1n_10 y1cap_10 y1bs_10)) (st' := fun _ => [.int v14, .ref a1_0_10]) (ci := 0) 1 3 ⟨_, by rw [hro]; rfl⟩ rfl rfl mw_5_91 mw_1_6 mw_5_176 mw_5_89 mw_5_90 hd_J0_charAt_5068e rfl (g_rm hR rfl rfl) [] [0, 1, 2] [0, 1, 2] ⟨rfl, rfl, rfl, rfl, by decide, gRoIn_p [3, 4] (by rw [hro]; rfl) (by decide), rfl, fun _ => rfl⟩ rfl (Nat.le_of_ble_eq_true rfl) dX5_without_33 (g_rc hR (by omega) (by omega)) (ck' := ck10 + 0) (sk' := sk10 + 0) rfl rfl (fun _ => rfl) (fun _ _ => ?_) (fun _ hx => absurd rfl hx)
            obtain ⟨v16, h17, hf⟩ := opt_bind hf
            refine g_callV C (c_J4_append_cf468 (l := x_l X) (D := x_D X) (cy := x_y X) (sb := a1_0_10) (sy := a1_1_10) (ml := y1ml_10) (n := y1n_10) (cap := y1cap_10) (bs := y1bs_10) (p0 := v14) h17) (As := [.int v14]) (rest := []) (wr := (wZ1 (x_y X) zb zn zz)) (ws' := fun u18 => (wZ1 (x_y X) zb zn zz) ++ (wSb (x_y X) a1_0_10 u18 y1ml_10 v16.1 v16.2.1 v16.2.2)) (st' := fun u18 => [.ref a1_0_10]) (ci := 1) 1 1 ⟨_, rfl⟩ rfl rfl mw_5_1 mw_1_5 mw_5_201 mw_4_239 mw_5_0 hd_J4_append_cf468 rfl (g_rm hR rfl rfl) [1, 2] [0] [0, 1, 2] ⟨rfl, rfl, rfl, rfl, by decide, gRoIn_0, rfl, fun _ => rfl⟩ rfl (Nat.le_of_ble_eq_true rfl) dX5_without_36 (g_rc hR (by omega) (by omega)) (ck' := ck10 + 1) (sk' := sk10 + 80) rfl rfl (fun _ => rfl) (fun u18 _ => ?_) (fun _ hx => absurd rfl hx)
            refine g_pop C dX5_without_39 rfl ?_
            exact H40 a1_0_10 u18 y1ml_10 v16.1 v16.2.1 v16.2.2 l3_10 hf
  show gW X Q 0 0 ((wZ1 (x_y X) zb zn zz)) [(0, .ref t0), (1, .ref zb)] [] 0
  refine g_new C (ci := 1) (ty := tyJ4) (fs := [.null, .int 0, .int 0, .int 0]) rfl wiJ4 tyJ4_ok mw_5_199 mw_1_120 mw_1_5 dfJ4 (g_rc hR (Nat.le_of_ble_eq_true rfl) (Nat.le_of_ble_eq_true rfl)) (ck' := 1) (sk' := 4) rfl rfl dX5_without_0 (fun q1 => ?_)
  refine g_dup C dX5_without_3 rfl ?_
  obtain ⟨v2, h3, hf⟩ := opt_bind hf
  refine g_callI C (c_J4_init_da8c8 (l := x_l X) (D := x_D X) (cy := x_y X) (sb := q1) h3) (As := []) (rest := [.ref q1]) (wr := (wZ1 (x_y X) zb zn zz)) (ws' := fun u4 => (wZ1 (x_y X) zb zn zz) ++ (wSb (x_y X) q1 u4 v2.1 v2.2.1 v2.2.2.1 v2.2.2.2)) (st' := fun u4 => [.ref q1]) 0 rfl mw_1_123 mw_1_5 mw_5_200 mw_1_122 hd_J4_init_da8c8 rfl (g_rm hR rfl rfl) [1] [0] [0, 1, 2] ⟨rfl, rfl, rfl, rfl, by decide, gRoIn_0, rfl, fun _ => rfl⟩ rfl (Nat.le_of_ble_eq_true rfl) dX5_without_4 (g_rc hR (Nat.le_of_ble_eq_true rfl) (Nat.le_of_ble_eq_true rfl)) (ck' := 2) (sk' := 68) rfl rfl (fun _ => rfl) (fun u4 _ => ?_) (fun _ hx => absurd rfl hx)
  refine g_astore_n C (lv' := [(2, .ref q1), (0, .ref t0), (1, .ref zb)]) dX5_without_7 (g_nlt hn rfl) rfl ?_
  refine g_iconst C (v := 0) dX5_without_8 (by decide) ?_
  refine g_istore_n C (lv' := [(3, .int 0), (2, .ref q1), (0, .ref t0), (1, .ref zb)]) dX5_without_9 (g_nlt hn rfl) rfl ?_
  refine gW.locals [2, 3, 1, 0] rfl ?_
  exact H10 64 (2) (68) (by omega) (by omega) q1 u4 v2.1 v2.2.1 v2.2.2.1 v2.2.2.2 0 hf
/-! X5_withoutNeedlessParentheses -/
theorem hd_X5_withoutNeedlessParentheses : yX5_withoutNeedlessParentheses.cls ≠ "java/lang/invoke/MethodHandle" ∧ yX5_withoutNeedlessParentheses.cls ≠ "java/lang/invoke/VarHandle" ∧ (parseMethodDescriptor yX5_withoutNeedlessParentheses.desc).map (fun d => d.parameters.length) = some 1 := by decide +kernel
def F_X5_withoutNeedlessParentheses_L201  (K31 : Nat → (Nat → Int32) → Nat → (Nat → Int32) → Nat → (Nat → Int32) → Int32 → Int32 → Option (Int32 × Int32 × Nat × (Nat → Int32))) (y0len_201 : Nat) (y0t_201 : Nat → Int32) (y1len_201 : Nat) (y1t_201 : Nat → Int32) (y2len_201 : Nat) (y2t_201 : Nat → Int32) (l4_201 : Int32) (l5_201 : Int32) : Option (Int32 × Int32 × Nat × (Nat → Int32)) := K31 y0len_201 y0t_201 y1len_201 y1t_201 y2len_201 y2t_201 l4_201 (l5_201 + 1)
def F_X5_withoutNeedlessParentheses_L200  (K31 : Nat → (Nat → Int32) → Nat → (Nat → Int32) → Nat → (Nat → Int32) → Int32 → Int32 → Option (Int32 × Int32 × Nat × (Nat → Int32))) (y0len_200 : Nat) (y0t_200 : Nat → Int32) (y1len_200 : Nat) (y1t_200 : Nat → Int32) (y2len_200 : Nat) (y2t_200 : Nat → Int32) (l4_200 : Int32) (l5_200 : Int32) (s0_200 : Int32) (s1_200 : Int32) : Option (Int32 × Int32 × Nat × (Nat → Int32)) := gg (gi s1_200 y2len_200) (gl (upd y2t_200 (Int32.toNatClampNeg s1_200) (vp_nar .boolean s0_200)) fun f46 => F_X5_withoutNeedlessParentheses_L201 K31 y0len_200 y0t_200 y1len_200 y1t_200 y2len_200 f46 l4_200 l5_200)
def F_X5_withoutNeedlessParentheses_L195  (K31 : Nat → (Nat → Int32) → Nat → (Nat → Int32) → Nat → (Nat → Int32) → Int32 → Int32 → Option (Int32 × Int32 × Nat × (Nat → Int32))) (y0len_195 : Nat) (y0t_195 : Nat → Int32) (y1len_195 : Nat) (y1t_195 : Nat → Int32) (y2len_195 : Nat) (y2t_195 : Nat → Int32) (l4_195 : Int32) (l5_195 : Int32) (s0_195 : Int32) : Option (Int32 × Int32 × Nat × (Nat → Int32)) := F_X5_withoutNeedlessParentheses_L200 K31 y0len_195 y0t_195 y1len_195 y1t_195 y2len_195 y2t_195 l4_195 l5_195 1 s0_195
def F_X5_withoutNeedlessParentheses_L170  (K31 : Nat → (Nat → Int32) → Nat → (Nat → Int32) → Nat → (Nat → Int32) → Int32 → Int32 → Option (Int32 × Int32 × Nat × (Nat → Int32))) (y0len_170 : Nat) (y0t_170 : Nat → Int32) (y1len_170 : Nat) (y1t_170 : Nat → Int32) (y2len_170 : Nat) (y2t_170 : Nat → Int32) (l4_170 : Int32) (l5_170 : Int32) (l7_170 : Int32) (l8_170 : Int32) : Option (Int32 × Int32 × Nat × (Nat → Int32)) := gg (gi l7_170 y0len_170) (gl (upd y0t_170 (Int32.toNatClampNeg l7_170) (vp_nar .boolean 1)) fun f40 => gg (gi l5_170 y0len_170) (gl (upd f40 (Int32.toNatClampNeg l5_170) (vp_nar .boolean 1)) fun f42 => gg (gi l4_170 y2len_170) (if (y2t_170 (Int32.toNatClampNeg l4_170)) = 0 then (if l8_170 = 0 then (F_X5_withoutNeedlessParentheses_L200 K31 y0len_170 f42 y1len_170 y1t_170 y2len_170 y2t_170 l4_170 l5_170 0 l4_170) else (F_X5_withoutNeedlessParentheses_L195 K31 y0len_170 f42 y1len_170 y1t_170 y2len_170 y2t_170 l4_170 l5_170 l4_170)) else (F_X5_withoutNeedlessParentheses_L195 K31 y0len_170 f42 y1len_170 y1t_170 y2len_170 y2t_170 l4_170 l5_170 l4_170))))
def F_X5_withoutNeedlessParentheses_L145 (tn : Nat) (tb : Nat → Int32) (K31 : Nat → (Nat → Int32) → Nat → (Nat → Int32) → Nat → (Nat → Int32) → Int32 → Int32 → Option (Int32 × Int32 × Nat × (Nat → Int32))) (y0len_145 : Nat) (y0t_145 : Nat → Int32) (y1len_145 : Nat) (y1t_145 : Nat → Int32) (y2len_145 : Nat) (y2t_145 : Nat → Int32) (l4_145 : Int32) (l5_145 : Int32) (l7_145 : Int32) (l8_145 : Int32) (s0_145 : Int32) : Option (Int32 × Int32 × Nat × (Nat → Int32)) := (F_X5_isSignAt tn tb (l7_145 - 1) 102).bind fun v35 => if v35 = 0 then (if l8_145 = 0 then (F_X5_withoutNeedlessParentheses_L170 K31 y0len_145 y0t_145 y1len_145 y1t_145 y2len_145 y2t_145 l4_145 l5_145 l7_145 l8_145) else (if s0_145 = 0 then (F_X5_withoutNeedlessParentheses_L170 K31 y0len_145 y0t_145 y1len_145 y1t_145 y2len_145 y2t_145 l4_145 l5_145 l7_145 l8_145) else (F_X5_withoutNeedlessParentheses_L201 K31 y0len_145 y0t_145 y1len_145 y1t_145 y2len_145 y2t_145 l4_145 l5_145))) else (F_X5_withoutNeedlessParentheses_L201 K31 y0len_145 y0t_145 y1len_145 y1t_145 y2len_145 y2t_145 l4_145 l5_145)
def F_X5_withoutNeedlessParentheses_L140 (tn : Nat) (tb : Nat → Int32) (K31 : Nat → (Nat → Int32) → Nat → (Nat → Int32) → Nat → (Nat → Int32) → Int32 → Int32 → Option (Int32 × Int32 × Nat × (Nat → Int32))) (y0len_140 : Nat) (y0t_140 : Nat → Int32) (y1len_140 : Nat) (y1t_140 : Nat → Int32) (y2len_140 : Nat) (y2t_140 : Nat → Int32) (l4_140 : Int32) (l5_140 : Int32) (l7_140 : Int32) (l8_140 : Int32) : Option (Int32 × Int32 × Nat × (Nat → Int32)) := F_X5_withoutNeedlessParentheses_L145 tn tb K31 y0len_140 y0t_140 y1len_140 y1t_140 y2len_140 y2t_140 l4_140 l5_140 l7_140 l8_140 1
def F_X5_withoutNeedlessParentheses_L31 (tn : Nat) (tb : Nat → Int32)  : Nat → Nat → (Nat → Int32) → Nat → (Nat → Int32) → Nat → (Nat → Int32) → Int32 → Int32 → Option (Int32 × Int32 × Nat × (Nat → Int32))
  | 0, _, _, _, _, _, _, _, _ => none
  | n + 1, y0len_31, y0t_31, y1len_31, y1t_31, y2len_31, y2t_31, l4_31, l5_31 => (F_J0_length_8abf5 tn).bind fun v16 => if v16 ≤ l5_31 then ((F_X5_without y0len_31 y0t_31 tn tb).bind fun v19 => some (v19.1, v19.2.1, v19.2.2.1, v19.2.2.2)) else ((F_J0_charAt_5068e tn tb l5_31).bind fun v22 => if v22 = 40 then (gg (gi (l4_31 + 1) y1len_31) (gl (upd y1t_31 (Int32.toNatClampNeg (l4_31 + 1)) l5_31) fun f55 => gg (gi (l4_31 + 1) y2len_31) (gl (upd y2t_31 (Int32.toNatClampNeg (l4_31 + 1)) (vp_nar .boolean 0)) fun f57 => F_X5_withoutNeedlessParentheses_L201 (F_X5_withoutNeedlessParentheses_L31 tn tb n) y0len_31 y0t_31 y1len_31 f55 y2len_31 f57 (l4_31 + 1) l5_31))) else (if v22 = 124 then (gg (gi l4_31 y2len_31) (gl (upd y2t_31 (Int32.toNatClampNeg l4_31) (vp_nar .boolean 1)) fun f53 => F_X5_withoutNeedlessParentheses_L201 (F_X5_withoutNeedlessParentheses_L31 tn tb n) y0len_31 y0t_31 y1len_31 y1t_31 y2len_31 f53 l4_31 l5_31)) else (if v22 = 41 then (if l4_31 ≤ 0 then (F_X5_withoutNeedlessParentheses_L201 (F_X5_withoutNeedlessParentheses_L31 tn tb n) y0len_31 y0t_31 y1len_31 y1t_31 y2len_31 y2t_31 l4_31 l5_31) else (gg (gi l4_31 y1len_31) (gl (y1t_31 (Int32.toNatClampNeg l4_31)) fun x29 => gg (gi l4_31 y2len_31) (gl (y2t_31 (Int32.toNatClampNeg l4_31)) fun x31 => (F_X5_isSignAt tn tb (x29 - 1) 38).bind fun v32 => if v32 = 0 then ((F_X5_isSignAt tn tb (l5_31 + 1) 38).bind fun v49 => if v49 = 0 then (F_X5_withoutNeedlessParentheses_L145 tn tb (F_X5_withoutNeedlessParentheses_L31 tn tb n) y0len_31 y0t_31 y1len_31 y1t_31 y2len_31 y2t_31 (l4_31 + (-1)) l5_31 x29 x31 0) else (F_X5_withoutNeedlessParentheses_L140 tn tb (F_X5_withoutNeedlessParentheses_L31 tn tb n) y0len_31 y0t_31 y1len_31 y1t_31 y2len_31 y2t_31 (l4_31 + (-1)) l5_31 x29 x31)) else (F_X5_withoutNeedlessParentheses_L140 tn tb (F_X5_withoutNeedlessParentheses_L31 tn tb n) y0len_31 y0t_31 y1len_31 y1t_31 y2len_31 y2t_31 (l4_31 + (-1)) l5_31 x29 x31))))) else (F_X5_withoutNeedlessParentheses_L201 (F_X5_withoutNeedlessParentheses_L31 tn tb n) y0len_31 y0t_31 y1len_31 y1t_31 y2len_31 y2t_31 l4_31 l5_31))))
def F_X5_withoutNeedlessParentheses (tn : Nat) (tb : Nat → Int32) : Option (Int32 × Int32 × Nat × (Nat → Int32)) := (F_J0_length_8abf5 tn).bind fun v1 => gg (gnw v1 64) (gl (Int32.toNatClampNeg v1) fun m4 => (F_J0_length_8abf5 tn).bind fun v6 => gg (gnw (v6 + 1) 64) (gl (Int32.toNatClampNeg (v6 + 1)) fun m9 => (F_J0_length_8abf5 tn).bind fun v11 => gg (gnw (v11 + 1) 64) (gl (Int32.toNatClampNeg (v11 + 1)) fun m14 => F_X5_withoutNeedlessParentheses_L31 tn tb 1000 m4 (fun _ => 0) m9 (fun _ => 0) m14 (fun _ => 0) 0 0)))
set_option maxRecDepth 100000 in
set_option maxHeartbeats 4000000 in
theorem c_X5_withoutNeedlessParentheses {l : Launch} {D : va_G} {cy : Nat → ClassId} {t0 t1 : Nat} {hash : Int32} {hz : Int32} {tn : Nat} {tb : Nat → Int32}   {val : Int32 × Int32 × Nat × (Nat → Int32)} (hf : F_X5_withoutNeedlessParentheses tn tb = some val) : gCt l D cy yX5_withoutNeedlessParentheses cX5_withoutNeedlessParentheses 10 (some (.object "java/lang/String")) 7 164 71 5464 [.ref t0] (wStr cy t0 t1 hash hz tn tb) ([]) 0 (fun u : Nat × Nat => some (.ref u.1)) (fun u => (wStr cy u.1 u.2 val.1 val.2.1 val.2.2.1 val.2.2.2)) := by
  refine g_begin (by decide +kernel) (Nat.le_of_ble_eq_true rfl) ?_
  intro X Q hl hR hD hy hro hn C hin E
  subst hl; subst hD; subst hy
  replace C : gC X "SecretVault$PolicySyntax" cX5_withoutNeedlessParentheses (some (.object "java/lang/String")) := C
  unfold F_X5_withoutNeedlessParentheses at hf
  have H31 : ∀ (n31 : Nat), ∀ (a0_0_31 : Nat) (a1_0_31 : Nat) (a2_0_31 : Nat) (y0len_31 : Nat) (y0t_31 : Nat → Int32) (y1len_31 : Nat) (y1t_31 : Nat → Int32) (y2len_31 : Nat) (y2t_31 : Nat → Int32) (l4_31 : Int32) (l5_31 : Int32), F_X5_withoutNeedlessParentheses_L31 tn tb n31 y0len_31 y0t_31 y1len_31 y1t_31 y2len_31 y2t_31 l4_31 l5_31 = some val → gW X Q 3 192 ([(a0_0_31, .inl ((x_y X) 1, y0len_31, .inl y0t_31))] ++ [(a1_0_31, .inl ((x_y X) 0, y1len_31, .inl y1t_31))] ++ [(a2_0_31, .inl ((x_y X) 1, y2len_31, .inl y2t_31))]) [(0, .ref t0), (1, .ref a0_0_31), (2, .ref a1_0_31), (3, .ref a2_0_31), (4, .int l4_31), (5, .int l5_31)] [] 31 := by
    intro n31
    induction n31 with
    | zero => intros; rename_i hf; cases hf
    | succ n31 ih =>
      intro a0_0_31 a1_0_31 a2_0_31 y0len_31 y0t_31 y1len_31 y1t_31 y2len_31 y2t_31 l4_31 l5_31 hf
      have H31 := ih
      rw [F_X5_withoutNeedlessParentheses_L31] at hf
      have H201 : ∀ (a0_0_201 : Nat) (a1_0_201 : Nat) (a2_0_201 : Nat) (y0len_201 : Nat) (y0t_201 : Nat → Int32) (y1len_201 : Nat) (y1t_201 : Nat → Int32) (y2len_201 : Nat) (y2t_201 : Nat → Int32) (l4_201 : Int32) (l5_201 : Int32), F_X5_withoutNeedlessParentheses_L201 (F_X5_withoutNeedlessParentheses_L31 tn tb n31) y0len_201 y0t_201 y1len_201 y1t_201 y2len_201 y2t_201 l4_201 l5_201 = some val → gW X Q 3 192 ([(a0_0_201, .inl ((x_y X) 1, y0len_201, .inl y0t_201))] ++ [(a1_0_201, .inl ((x_y X) 0, y1len_201, .inl y1t_201))] ++ [(a2_0_201, .inl ((x_y X) 1, y2len_201, .inl y2t_201))]) [(0, .ref t0), (1, .ref a0_0_201), (2, .ref a1_0_201), (3, .ref a2_0_201), (4, .int l4_201), (5, .int l5_201)] [] 201 := by
        intro a0_0_201 a1_0_201 a2_0_201 y0len_201 y0t_201 y1len_201 y1t_201 y2len_201 y2t_201 l4_201 l5_201 hf
        unfold F_X5_withoutNeedlessParentheses_L201 at hf
        refine g_iinc C 5 (v := l5_201 + 1) (lv' := [(5, .int (l5_201 + 1)), (0, .ref t0), (1, .ref a0_0_201), (2, .ref a1_0_201), (3, .ref a2_0_201), (4, .int l4_201)]) dX5_withoutNeedlessParentheses_201 rfl rfl (g_nlt hn rfl) rfl ?_
        refine g_goto C 31 dX5_withoutNeedlessParentheses_204 (by decide) ?_
        refine gW.locals [1, 2, 3, 4, 5, 0] rfl ?_
        exact H31 a0_0_201 a1_0_201 a2_0_201 y0len_201 y0t_201 y1len_201 y1t_201 y2len_201 y2t_201 l4_201 (l5_201 + 1) hf
      have H200 : ∀ (a0_0_200 : Nat) (a1_0_200 : Nat) (a2_0_200 : Nat) (y0len_200 : Nat) (y0t_200 : Nat → Int32) (y1len_200 : Nat) (y1t_200 : Nat → Int32) (y2len_200 : Nat) (y2t_200 : Nat → Int32) (l4_200 : Int32) (l5_200 : Int32) (s0_200 : Int32) (s1_200 : Int32), F_X5_withoutNeedlessParentheses_L200 (F_X5_withoutNeedlessParentheses_L31 tn tb n31) y0len_200 y0t_200 y1len_200 y1t_200 y2len_200 y2t_200 l4_200 l5_200 s0_200 s1_200 = some val → gW X Q 3 192 ([(a0_0_200, .inl ((x_y X) 1, y0len_200, .inl y0t_200))] ++ [(a1_0_200, .inl ((x_y X) 0, y1len_200, .inl y1t_200))] ++ [(a2_0_200, .inl ((x_y X) 1, y2len_200, .inl y2t_200))]) [(0, .ref t0), (1, .ref a0_0_200), (2, .ref a1_0_200), (3, .ref a2_0_200), (4, .int l4_200), (5, .int l5_200)] [.int s0_200, .int s1_200, .ref a2_0_200] 200 := by
        intro a0_0_200 a1_0_200 a2_0_200 y0len_200 y0t_200 y1len_200 y1t_200 y2len_200 y2t_200 l4_200 l5_200 s0_200 s1_200 hf
        unfold F_X5_withoutNeedlessParentheses_L200 at hf
        obtain ⟨c45, hf⟩ := gg_of hf
        obtain ⟨f46, ef46, hf⟩ := opt_let hf
        refine g_zast C (ws' := [(a0_0_200, .inl ((x_y X) 1, y0len_200, .inl y0t_200))] ++ [(a1_0_200, .inl ((x_y X) 0, y1len_200, .inl y1t_200))] ++ [(a2_0_200, .inl ((x_y X) 1, y2len_200, .inl f46))]) 2 rfl (gi_in c45) (by rw [ef46]; rfl) dX5_withoutNeedlessParentheses_200 ?_
        exact H201 a0_0_200 a1_0_200 a2_0_200 y0len_200 y0t_200 y1len_200 y1t_200 y2len_200 f46 l4_200 l5_200 hf
      have H195 : ∀ (a0_0_195 : Nat) (a1_0_195 : Nat) (a2_0_195 : Nat) (y0len_195 : Nat) (y0t_195 : Nat → Int32) (y1len_195 : Nat) (y1t_195 : Nat → Int32) (y2len_195 : Nat) (y2t_195 : Nat → Int32) (l4_195 : Int32) (l5_195 : Int32) (s0_195 : Int32), F_X5_withoutNeedlessParentheses_L195 (F_X5_withoutNeedlessParentheses_L31 tn tb n31) y0len_195 y0t_195 y1len_195 y1t_195 y2len_195 y2t_195 l4_195 l5_195 s0_195 = some val → gW X Q 3 192 ([(a0_0_195, .inl ((x_y X) 1, y0len_195, .inl y0t_195))] ++ [(a1_0_195, .inl ((x_y X) 0, y1len_195, .inl y1t_195))] ++ [(a2_0_195, .inl ((x_y X) 1, y2len_195, .inl y2t_195))]) [(0, .ref t0), (1, .ref a0_0_195), (2, .ref a1_0_195), (3, .ref a2_0_195), (4, .int l4_195), (5, .int l5_195)] [.int s0_195, .ref a2_0_195] 195 := by
        intro a0_0_195 a1_0_195 a2_0_195 y0len_195 y0t_195 y1len_195 y1t_195 y2len_195 y2t_195 l4_195 l5_195 s0_195 hf
        unfold F_X5_withoutNeedlessParentheses_L195 at hf
        refine g_iconst C (v := 1) dX5_withoutNeedlessParentheses_195 (by decide) ?_
        refine g_goto C 200 dX5_withoutNeedlessParentheses_196 (by decide) ?_
        exact H200 a0_0_195 a1_0_195 a2_0_195 y0len_195 y0t_195 y1len_195 y1t_195 y2len_195 y2t_195 l4_195 l5_195 1 s0_195 hf
      have H170 : ∀ (a0_0_170 : Nat) (a1_0_170 : Nat) (a2_0_170 : Nat) (y0len_170 : Nat) (y0t_170 : Nat → Int32) (y1len_170 : Nat) (y1t_170 : Nat → Int32) (y2len_170 : Nat) (y2t_170 : Nat → Int32) (l4_170 : Int32) (l5_170 : Int32) (l7_170 : Int32) (l8_170 : Int32), F_X5_withoutNeedlessParentheses_L170 (F_X5_withoutNeedlessParentheses_L31 tn tb n31) y0len_170 y0t_170 y1len_170 y1t_170 y2len_170 y2t_170 l4_170 l5_170 l7_170 l8_170 = some val → gW X Q 3 192 ([(a0_0_170, .inl ((x_y X) 1, y0len_170, .inl y0t_170))] ++ [(a1_0_170, .inl ((x_y X) 0, y1len_170, .inl y1t_170))] ++ [(a2_0_170, .inl ((x_y X) 1, y2len_170, .inl y2t_170))]) [(0, .ref t0), (1, .ref a0_0_170), (2, .ref a1_0_170), (3, .ref a2_0_170), (4, .int l4_170), (5, .int l5_170), (7, .int l7_170), (8, .int l8_170)] [] 170 := by
        intro a0_0_170 a1_0_170 a2_0_170 y0len_170 y0t_170 y1len_170 y1t_170 y2len_170 y2t_170 l4_170 l5_170 l7_170 l8_170 hf
        unfold F_X5_withoutNeedlessParentheses_L170 at hf
        refine g_aload_n C 1 dX5_withoutNeedlessParentheses_170 rfl ?_
        refine g_iload C 6 dX5_withoutNeedlessParentheses_171 rfl ?_
        refine g_iconst C (v := 1) dX5_withoutNeedlessParentheses_173 (by decide) ?_
        obtain ⟨c39, hf⟩ := gg_of hf
        obtain ⟨f40, ef40, hf⟩ := opt_let hf
        refine g_zast C (ws' := [(a0_0_170, .inl ((x_y X) 1, y0len_170, .inl f40))] ++ [(a1_0_170, .inl ((x_y X) 0, y1len_170, .inl y1t_170))] ++ [(a2_0_170, .inl ((x_y X) 1, y2len_170, .inl y2t_170))]) 0 rfl (gi_in c39) (by rw [ef40]; rfl) dX5_withoutNeedlessParentheses_174 ?_
        refine g_aload_n C 1 dX5_withoutNeedlessParentheses_175 rfl ?_
        refine g_iload C 5 dX5_withoutNeedlessParentheses_176 rfl ?_
        refine g_iconst C (v := 1) dX5_withoutNeedlessParentheses_178 (by decide) ?_
        obtain ⟨c41, hf⟩ := gg_of hf
        obtain ⟨f42, ef42, hf⟩ := opt_let hf
        refine g_zast C (ws' := [(a0_0_170, .inl ((x_y X) 1, y0len_170, .inl f42))] ++ [(a1_0_170, .inl ((x_y X) 0, y1len_170, .inl y1t_170))] ++ [(a2_0_170, .inl ((x_y X) 1, y2len_170, .inl y2t_170))]) 0 rfl (gi_in c41) (by rw [ef42]; rfl) dX5_withoutNeedlessParentheses_179 ?_
        refine g_aload_n C 3 dX5_withoutNeedlessParentheses_180 rfl ?_
        refine g_iload C 4 dX5_withoutNeedlessParentheses_181 rfl ?_
        refine g_aload_n C 3 dX5_withoutNeedlessParentheses_183 rfl ?_
        refine g_iload C 4 dX5_withoutNeedlessParentheses_184 rfl ?_
        obtain ⟨c43, hf⟩ := gg_of hf
        refine g_zald C 2 rfl (gi_in c43) dX5_withoutNeedlessParentheses_186 ?_
        refine g_if_ne C 195 dX5_withoutNeedlessParentheses_187 (by decide) (fun c44 => ?_) (fun c44 => ?_)
        · have hf := opt_neg c44 hf
          refine gW.locals [0, 1, 2, 3, 4, 5] rfl ?_
          exact H195 a0_0_170 a1_0_170 a2_0_170 y0len_170 f42 y1len_170 y1t_170 y2len_170 y2t_170 l4_170 l5_170 l4_170 hf
        · have hf := opt_pos c44 hf
          refine g_iload C 7 dX5_withoutNeedlessParentheses_190 rfl ?_
          refine g_if_eq C 199 dX5_withoutNeedlessParentheses_192 (by decide) (fun c47 => ?_) (fun c47 => ?_)
          · have hf := opt_pos c47 hf
            refine g_iconst C (v := 0) dX5_withoutNeedlessParentheses_199 (by decide) ?_
            refine gW.locals [0, 1, 2, 3, 4, 5] rfl ?_
            exact H200 a0_0_170 a1_0_170 a2_0_170 y0len_170 f42 y1len_170 y1t_170 y2len_170 y2t_170 l4_170 l5_170 0 l4_170 hf
          · have hf := opt_neg c47 hf
            refine gW.locals [0, 1, 2, 3, 4, 5] rfl ?_
            exact H195 a0_0_170 a1_0_170 a2_0_170 y0len_170 f42 y1len_170 y1t_170 y2len_170 y2t_170 l4_170 l5_170 l4_170 hf
      have H145 : ∀ (a0_0_145 : Nat) (a1_0_145 : Nat) (a2_0_145 : Nat) (y0len_145 : Nat) (y0t_145 : Nat → Int32) (y1len_145 : Nat) (y1t_145 : Nat → Int32) (y2len_145 : Nat) (y2t_145 : Nat → Int32) (l4_145 : Int32) (l5_145 : Int32) (l7_145 : Int32) (l8_145 : Int32) (s0_145 : Int32), F_X5_withoutNeedlessParentheses_L145 tn tb (F_X5_withoutNeedlessParentheses_L31 tn tb n31) y0len_145 y0t_145 y1len_145 y1t_145 y2len_145 y2t_145 l4_145 l5_145 l7_145 l8_145 s0_145 = some val → gW X Q 3 192 ([(a0_0_145, .inl ((x_y X) 1, y0len_145, .inl y0t_145))] ++ [(a1_0_145, .inl ((x_y X) 0, y1len_145, .inl y1t_145))] ++ [(a2_0_145, .inl ((x_y X) 1, y2len_145, .inl y2t_145))]) [(0, .ref t0), (1, .ref a0_0_145), (2, .ref a1_0_145), (3, .ref a2_0_145), (4, .int l4_145), (5, .int l5_145), (7, .int l7_145), (8, .int l8_145)] [.int s0_145] 145 := by
        intro a0_0_145 a1_0_145 a2_0_145 y0len_145 y0t_145 y1len_145 y1t_145 y2len_145 y2t_145 l4_145 l5_145 l7_145 l8_145 s0_145 hf
        unfold F_X5_withoutNeedlessParentheses_L145 at hf
        refine g_istore C (lv' := [(9, .int s0_145), (0, .ref t0), (1, .ref a0_0_145), (2, .ref a1_0_145), (3, .ref a2_0_145), (4, .int l4_145), (5, .int l5_145), (7, .int l7_145), (8, .int l8_145)]) dX5_withoutNeedlessParentheses_145 (g_nlt hn rfl) rfl ?_
        refine g_aload_n C 1 dX5_withoutNeedlessParentheses_147 rfl ?_
        refine g_iload C 7 dX5_withoutNeedlessParentheses_148 rfl ?_
        refine g_iconst C (v := 1) dX5_withoutNeedlessParentheses_150 (by decide) ?_
        refine g_isub C dX5_withoutNeedlessParentheses_151 ?_
        refine g_bipush C (v := 102) dX5_withoutNeedlessParentheses_152 (by decide) ?_
        obtain ⟨v35, h36, hf⟩ := opt_bind hf
        refine g_callS C (c_X5_isSignAt (l := x_l X) (D := x_D X) (cy := x_y X) (t0 := t0) (t1 := t1) (hash := hash) (hz := hz) (tn := tn) (tb := tb) (p1 := l7_145 - 1) (p2 := 102) h36) (As := [.ref t0, .int (l7_145 - 1), .int 102]) (rest := []) (wr := [(a0_0_145, .inl ((x_y X) 1, y0len_145, .inl y0t_145))] ++ [(a1_0_145, .inl ((x_y X) 0, y1len_145, .inl y1t_145))] ++ [(a2_0_145, .inl ((x_y X) 1, y2len_145, .inl y2t_145))]) (ws' := fun _ => [(a0_0_145, .inl ((x_y X) 1, y0len_145, .inl y0t_145))] ++ [(a1_0_145, .inl ((x_y X) 0, y1len_145, .inl y1t_145))] ++ [(a2_0_145, .inl ((x_y X) 1, y2len_145, .inl y2t_145))]) (st' := fun _ => [.int v35]) 3 mw_5_179 mw_1_31 mw_5_177 mw_5_178 hd_X5_isSignAt rfl (g_rm hR rfl rfl) [] [0, 1, 2] [0, 1, 2] ⟨rfl, rfl, rfl, rfl, by decide, gRoIn_p [3, 4] (by rw [hro]; rfl) (by decide), rfl, fun _ => rfl⟩ rfl (Nat.le_of_ble_eq_true rfl) dX5_withoutNeedlessParentheses_154 (g_rc hR (Nat.le_of_ble_eq_true rfl) (Nat.le_of_ble_eq_true rfl)) (ck' := 3) (sk' := 192) rfl rfl (fun _ => rfl) (fun _ _ => ?_) (fun _ hx => absurd rfl hx)
        refine g_if_ne C 201 dX5_withoutNeedlessParentheses_157 (by decide) (fun c37 => ?_) (fun c37 => ?_)
        · have hf := opt_neg c37 hf
          refine gW.locals [1, 2, 3, 4, 5, 6] rfl ?_
          exact H201 a0_0_145 a1_0_145 a2_0_145 y0len_145 y0t_145 y1len_145 y1t_145 y2len_145 y2t_145 l4_145 l5_145 hf
        · have hf := opt_pos c37 hf
          refine g_iload C 8 dX5_withoutNeedlessParentheses_160 rfl ?_
          refine g_if_eq C 170 dX5_withoutNeedlessParentheses_162 (by decide) (fun c38 => ?_) (fun c38 => ?_)
          · have hf := opt_pos c38 hf
            refine gW.locals [1, 2, 3, 4, 5, 6, 7, 8] rfl ?_
            exact H170 a0_0_145 a1_0_145 a2_0_145 y0len_145 y0t_145 y1len_145 y1t_145 y2len_145 y2t_145 l4_145 l5_145 l7_145 l8_145 hf
          · have hf := opt_neg c38 hf
            refine g_iload C 0 dX5_withoutNeedlessParentheses_165 rfl ?_
            refine g_if_ne C 201 dX5_withoutNeedlessParentheses_167 (by decide) (fun c48 => ?_) (fun c48 => ?_)
            · have hf := opt_neg c48 hf
              refine gW.locals [1, 2, 3, 4, 5, 6] rfl ?_
              exact H201 a0_0_145 a1_0_145 a2_0_145 y0len_145 y0t_145 y1len_145 y1t_145 y2len_145 y2t_145 l4_145 l5_145 hf
            · have hf := opt_pos c48 hf
              refine gW.locals [1, 2, 3, 4, 5, 6, 7, 8] rfl ?_
              exact H170 a0_0_145 a1_0_145 a2_0_145 y0len_145 y0t_145 y1len_145 y1t_145 y2len_145 y2t_145 l4_145 l5_145 l7_145 l8_145 hf
      have H140 : ∀ (a0_0_140 : Nat) (a1_0_140 : Nat) (a2_0_140 : Nat) (y0len_140 : Nat) (y0t_140 : Nat → Int32) (y1len_140 : Nat) (y1t_140 : Nat → Int32) (y2len_140 : Nat) (y2t_140 : Nat → Int32) (l4_140 : Int32) (l5_140 : Int32) (l7_140 : Int32) (l8_140 : Int32), F_X5_withoutNeedlessParentheses_L140 tn tb (F_X5_withoutNeedlessParentheses_L31 tn tb n31) y0len_140 y0t_140 y1len_140 y1t_140 y2len_140 y2t_140 l4_140 l5_140 l7_140 l8_140 = some val → gW X Q 3 192 ([(a0_0_140, .inl ((x_y X) 1, y0len_140, .inl y0t_140))] ++ [(a1_0_140, .inl ((x_y X) 0, y1len_140, .inl y1t_140))] ++ [(a2_0_140, .inl ((x_y X) 1, y2len_140, .inl y2t_140))]) [(0, .ref t0), (1, .ref a0_0_140), (2, .ref a1_0_140), (3, .ref a2_0_140), (4, .int l4_140), (5, .int l5_140), (7, .int l7_140), (8, .int l8_140)] [] 140 := by
        intro a0_0_140 a1_0_140 a2_0_140 y0len_140 y0t_140 y1len_140 y1t_140 y2len_140 y2t_140 l4_140 l5_140 l7_140 l8_140 hf
        unfold F_X5_withoutNeedlessParentheses_L140 at hf
        refine g_iconst C (v := 1) dX5_withoutNeedlessParentheses_140 (by decide) ?_
        refine g_goto C 145 dX5_withoutNeedlessParentheses_141 (by decide) ?_
        exact H145 a0_0_140 a1_0_140 a2_0_140 y0len_140 y0t_140 y1len_140 y1t_140 y2len_140 y2t_140 l4_140 l5_140 l7_140 l8_140 1 hf
      refine g_iload C 5 dX5_withoutNeedlessParentheses_31 rfl ?_
      refine g_aload_n C 0 dX5_withoutNeedlessParentheses_33 rfl ?_
      obtain ⟨v16, h17, hf⟩ := opt_bind hf
      refine g_callV C (c_J0_length_8abf5 (l := x_l X) (D := x_D X) (cy := x_y X) (t0 := t0) (t1 := t1) (hash := hash) (hz := hz) (tn := tn) (tb := tb) h17) (As := []) (rest := [.int l5_31]) (wr := [(a0_0_31, .inl ((x_y X) 1, y0len_31, .inl y0t_31))] ++ [(a1_0_31, .inl ((x_y X) 0, y1len_31, .inl y1t_31))] ++ [(a2_0_31, .inl ((x_y X) 1, y2len_31, .inl y2t_31))]) (ws' := fun _ => [(a0_0_31, .inl ((x_y X) 1, y0len_31, .inl y0t_31))] ++ [(a1_0_31, .inl ((x_y X) 0, y1len_31, .inl y1t_31))] ++ [(a2_0_31, .inl ((x_y X) 1, y2len_31, .inl y2t_31))]) (st' := fun _ => [.int v16, .int l5_31]) (ci := 0) 0 3 ⟨_, by rw [hro]; rfl⟩ rfl rfl mw_4_75 mw_1_6 mw_5_180 mw_4_73 mw_4_74 hd_J0_length_8abf5 rfl (g_rm hR rfl rfl) [] [0, 1, 2] [0, 1, 2] ⟨rfl, rfl, rfl, rfl, by decide, gRoIn_p [3, 4] (by rw [hro]; rfl) (by decide), rfl, fun _ => rfl⟩ rfl (Nat.le_of_ble_eq_true rfl) dX5_withoutNeedlessParentheses_34 (g_rc hR (Nat.le_of_ble_eq_true rfl) (Nat.le_of_ble_eq_true rfl)) (ck' := 3) (sk' := 192) rfl rfl (fun _ => rfl) (fun _ _ => ?_) (fun _ hx => absurd rfl hx)
      refine g_icmp_ge C 207 dX5_withoutNeedlessParentheses_37 (by decide) (fun c18 => ?_) (fun c18 => ?_)
      · have hf := opt_pos c18 hf
        refine g_aload_n C 0 dX5_withoutNeedlessParentheses_207 rfl ?_
        refine g_aload_n C 1 dX5_withoutNeedlessParentheses_208 rfl ?_
        obtain ⟨v19, h20, hf⟩ := opt_bind hf
        refine g_callS C (c_X5_without (l := x_l X) (D := x_D X) (cy := x_y X) (zb := a0_0_31) (t0 := t0) (t1 := t1) (zn := y0len_31) (zz := y0t_31) (hash := hash) (hz := hz) (tn := tn) (tb := tb) h20) (As := [.ref t0, .ref a0_0_31]) (rest := []) (wr := [(a1_0_31, .inl ((x_y X) 0, y1len_31, .inl y1t_31))] ++ [(a2_0_31, .inl ((x_y X) 1, y2len_31, .inl y2t_31))]) (ws' := fun u21 => [(a0_0_31, .inl ((x_y X) 1, y0len_31, .inl y0t_31))] ++ [(a1_0_31, .inl ((x_y X) 0, y1len_31, .inl y1t_31))] ++ [(a2_0_31, .inl ((x_y X) 1, y2len_31, .inl y2t_31))] ++ (wStr (x_y X) u21.1 u21.2 v19.1 v19.2.1 v19.2.2.1 v19.2.2.2)) (st' := fun u21 => [.ref u21.1]) 2 mw_5_198 mw_1_31 mw_5_196 mw_5_197 hd_X5_without rfl (g_rm hR rfl rfl) [0] [1, 2] [2, 0, 1, 3, 4] ⟨rfl, rfl, rfl, rfl, by decide, gRoIn_p [3, 4] (by rw [hro]; rfl) (by decide), rfl, fun _ => rfl⟩ rfl (Nat.le_of_ble_eq_true rfl) dX5_withoutNeedlessParentheses_209 (g_rc hR (Nat.le_of_ble_eq_true rfl) (Nat.le_of_ble_eq_true rfl)) (ck' := 71) (sk' := 5464) rfl rfl (fun _ => rfl) (fun u21 _ => ?_) (fun _ hx => absurd rfl hx)
        refine g_sub [3, 4] (ws' := (wStr (x_y X) u21.1 u21.2 v19.1 v19.2.1 v19.2.2.1 v19.2.2.2)) (by decide) rfl ?_
        obtain rfl := Option.some.inj hf
        exact g_aret C E (u21.1, u21.2) dX5_withoutNeedlessParentheses_212 (Or.inl ⟨_, rfl⟩) rfl rfl rfl (Nat.le_of_ble_eq_true rfl) (Nat.le_of_ble_eq_true rfl)
      · have hf := opt_neg c18 hf
        refine g_aload_n C 0 dX5_withoutNeedlessParentheses_40 rfl ?_
        refine g_iload C 5 dX5_withoutNeedlessParentheses_41 rfl ?_
        obtain ⟨v22, h23, hf⟩ := opt_bind hf
        refine g_callV C (c_J0_charAt_5068e (l := x_l X) (D := x_D X) (cy := x_y X) (t0 := t0) (t1 := t1) (hash := hash) (hz := hz) (tn := tn) (tb := tb) (p0 := l5_31) h23) (As := [.int l5_31]) (rest := []) (wr := [(a0_0_31, .inl ((x_y X) 1, y0len_31, .inl y0t_31))] ++ [(a1_0_31, .inl ((x_y X) 0, y1len_31, .inl y1t_31))] ++ [(a2_0_31, .inl ((x_y X) 1, y2len_31, .inl y2t_31))]) (ws' := fun _ => [(a0_0_31, .inl ((x_y X) 1, y0len_31, .inl y0t_31))] ++ [(a1_0_31, .inl ((x_y X) 0, y1len_31, .inl y1t_31))] ++ [(a2_0_31, .inl ((x_y X) 1, y2len_31, .inl y2t_31))]) (st' := fun _ => [.int v22]) (ci := 0) 1 3 ⟨_, by rw [hro]; rfl⟩ rfl rfl mw_5_91 mw_1_6 mw_5_176 mw_5_89 mw_5_90 hd_J0_charAt_5068e rfl (g_rm hR rfl rfl) [] [0, 1, 2] [0, 1, 2] ⟨rfl, rfl, rfl, rfl, by decide, gRoIn_p [3, 4] (by rw [hro]; rfl) (by decide), rfl, fun _ => rfl⟩ rfl (Nat.le_of_ble_eq_true rfl) dX5_withoutNeedlessParentheses_43 (g_rc hR (Nat.le_of_ble_eq_true rfl) (Nat.le_of_ble_eq_true rfl)) (ck' := 3) (sk' := 192) rfl rfl (fun _ => rfl) (fun _ _ => ?_) (fun _ hx => absurd rfl hx)
        refine g_istore C (lv' := [(6, .int v22), (0, .ref t0), (1, .ref a0_0_31), (2, .ref a1_0_31), (3, .ref a2_0_31), (4, .int l4_31), (5, .int l5_31)]) dX5_withoutNeedlessParentheses_46 (g_nlt hn rfl) rfl ?_
        refine g_iload C 0 dX5_withoutNeedlessParentheses_48 rfl ?_
        refine g_bipush C (v := 40) dX5_withoutNeedlessParentheses_50 (by decide) ?_
        refine g_icmp_ne C 72 dX5_withoutNeedlessParentheses_52 (by decide) (fun c24 => ?_) (fun c24 => ?_)
        · have hf := opt_neg c24 hf
          refine g_iload C 0 dX5_withoutNeedlessParentheses_72 rfl ?_
          refine g_bipush C (v := 124) dX5_withoutNeedlessParentheses_74 (by decide) ?_
          refine g_icmp_ne C 87 dX5_withoutNeedlessParentheses_76 (by decide) (fun c25 => ?_) (fun c25 => ?_)
          · have hf := opt_neg c25 hf
            refine g_iload C 0 dX5_withoutNeedlessParentheses_87 rfl ?_
            refine g_bipush C (v := 41) dX5_withoutNeedlessParentheses_89 (by decide) ?_
            refine g_icmp_ne C 201 dX5_withoutNeedlessParentheses_91 (by decide) (fun c26 => ?_) (fun c26 => ?_)
            · have hf := opt_neg c26 hf
              refine gW.locals [1, 2, 3, 4, 5, 6] rfl ?_
              exact H201 a0_0_31 a1_0_31 a2_0_31 y0len_31 y0t_31 y1len_31 y1t_31 y2len_31 y2t_31 l4_31 l5_31 hf
            · have hf := opt_pos c26 hf
              refine g_iload C 5 dX5_withoutNeedlessParentheses_94 rfl ?_
              refine g_if_le C 201 dX5_withoutNeedlessParentheses_96 (by decide) (fun c27 => ?_) (fun c27 => ?_)
              · have hf := opt_pos c27 hf
                refine gW.locals [1, 2, 3, 4, 5, 6] rfl ?_
                exact H201 a0_0_31 a1_0_31 a2_0_31 y0len_31 y0t_31 y1len_31 y1t_31 y2len_31 y2t_31 l4_31 l5_31 hf
              · have hf := opt_neg c27 hf
                refine g_aload_n C 3 dX5_withoutNeedlessParentheses_99 rfl ?_
                refine g_iload C 5 dX5_withoutNeedlessParentheses_100 rfl ?_
                obtain ⟨c28, hf⟩ := gg_of hf
                refine g_iald C 1 rfl (gi_in c28) dX5_withoutNeedlessParentheses_102 ?_
                obtain ⟨x29, ex29, hf⟩ := opt_let hf
                refine g_topi ex29 ?_
                refine g_istore C (lv' := [(7, .int x29), (6, .int v22), (0, .ref t0), (1, .ref a0_0_31), (2, .ref a1_0_31), (3, .ref a2_0_31), (4, .int l4_31), (5, .int l5_31)]) dX5_withoutNeedlessParentheses_103 (g_nlt hn rfl) rfl ?_
                refine g_aload_n C 5 dX5_withoutNeedlessParentheses_105 rfl ?_
                refine g_iload C 6 dX5_withoutNeedlessParentheses_106 rfl ?_
                obtain ⟨c30, hf⟩ := gg_of hf
                refine g_zald C 2 rfl (gi_in c30) dX5_withoutNeedlessParentheses_108 ?_
                obtain ⟨x31, ex31, hf⟩ := opt_let hf
                refine g_topi ex31 ?_
                refine g_istore C (lv' := [(8, .int x31), (7, .int x29), (6, .int v22), (0, .ref t0), (1, .ref a0_0_31), (2, .ref a1_0_31), (3, .ref a2_0_31), (4, .int l4_31), (5, .int l5_31)]) dX5_withoutNeedlessParentheses_109 (g_nlt hn rfl) rfl ?_
                refine g_iinc C 7 (v := l4_31 + (-1)) (lv' := [(4, .int (l4_31 + (-1))), (8, .int x31), (7, .int x29), (6, .int v22), (0, .ref t0), (1, .ref a0_0_31), (2, .ref a1_0_31), (3, .ref a2_0_31), (5, .int l5_31)]) dX5_withoutNeedlessParentheses_111 rfl rfl (g_nlt hn rfl) rfl ?_
                refine g_aload_n C 4 dX5_withoutNeedlessParentheses_114 rfl ?_
                refine g_iload C 2 dX5_withoutNeedlessParentheses_115 rfl ?_
                refine g_iconst C (v := 1) dX5_withoutNeedlessParentheses_117 (by decide) ?_
                refine g_isub C dX5_withoutNeedlessParentheses_118 ?_
                refine g_bipush C (v := 38) dX5_withoutNeedlessParentheses_119 (by decide) ?_
                obtain ⟨v32, h33, hf⟩ := opt_bind hf
                refine g_callS C (c_X5_isSignAt (l := x_l X) (D := x_D X) (cy := x_y X) (t0 := t0) (t1 := t1) (hash := hash) (hz := hz) (tn := tn) (tb := tb) (p1 := x29 - 1) (p2 := 38) h33) (As := [.ref t0, .int (x29 - 1), .int 38]) (rest := []) (wr := [(a0_0_31, .inl ((x_y X) 1, y0len_31, .inl y0t_31))] ++ [(a1_0_31, .inl ((x_y X) 0, y1len_31, .inl y1t_31))] ++ [(a2_0_31, .inl ((x_y X) 1, y2len_31, .inl y2t_31))]) (ws' := fun _ => [(a0_0_31, .inl ((x_y X) 1, y0len_31, .inl y0t_31))] ++ [(a1_0_31, .inl ((x_y X) 0, y1len_31, .inl y1t_31))] ++ [(a2_0_31, .inl ((x_y X) 1, y2len_31, .inl y2t_31))]) (st' := fun _ => [.int v32]) 3 mw_5_179 mw_1_31 mw_5_177 mw_5_178 hd_X5_isSignAt rfl (g_rm hR rfl rfl) [] [0, 1, 2] [0, 1, 2] ⟨rfl, rfl, rfl, rfl, by decide, gRoIn_p [3, 4] (by rw [hro]; rfl) (by decide), rfl, fun _ => rfl⟩ rfl (Nat.le_of_ble_eq_true rfl) dX5_withoutNeedlessParentheses_121 (g_rc hR (Nat.le_of_ble_eq_true rfl) (Nat.le_of_ble_eq_true rfl)) (ck' := 3) (sk' := 192) rfl rfl (fun _ => rfl) (fun _ _ => ?_) (fun _ hx => absurd rfl hx)
                refine g_if_ne C 140 dX5_withoutNeedlessParentheses_124 (by decide) (fun c34 => ?_) (fun c34 => ?_)
                · have hf := opt_neg c34 hf
                  refine gW.locals [4, 5, 6, 7, 0, 8, 2, 1] rfl ?_
                  exact H140 a0_0_31 a1_0_31 a2_0_31 y0len_31 y0t_31 y1len_31 y1t_31 y2len_31 y2t_31 (l4_31 + (-1)) l5_31 x29 x31 hf
                · have hf := opt_pos c34 hf
                  refine g_aload_n C 4 dX5_withoutNeedlessParentheses_127 rfl ?_
                  refine g_iload C 8 dX5_withoutNeedlessParentheses_128 rfl ?_
                  refine g_iconst C (v := 1) dX5_withoutNeedlessParentheses_130 (by decide) ?_
                  refine g_iadd C dX5_withoutNeedlessParentheses_131 ?_
                  refine g_bipush C (v := 38) dX5_withoutNeedlessParentheses_132 (by decide) ?_
                  obtain ⟨v49, h50, hf⟩ := opt_bind hf
                  refine g_callS C (c_X5_isSignAt (l := x_l X) (D := x_D X) (cy := x_y X) (t0 := t0) (t1 := t1) (hash := hash) (hz := hz) (tn := tn) (tb := tb) (p1 := l5_31 + 1) (p2 := 38) h50) (As := [.ref t0, .int (l5_31 + 1), .int 38]) (rest := []) (wr := [(a0_0_31, .inl ((x_y X) 1, y0len_31, .inl y0t_31))] ++ [(a1_0_31, .inl ((x_y X) 0, y1len_31, .inl y1t_31))] ++ [(a2_0_31, .inl ((x_y X) 1, y2len_31, .inl y2t_31))]) (ws' := fun _ => [(a0_0_31, .inl ((x_y X) 1, y0len_31, .inl y0t_31))] ++ [(a1_0_31, .inl ((x_y X) 0, y1len_31, .inl y1t_31))] ++ [(a2_0_31, .inl ((x_y X) 1, y2len_31, .inl y2t_31))]) (st' := fun _ => [.int v49]) 3 mw_5_179 mw_1_31 mw_5_177 mw_5_178 hd_X5_isSignAt rfl (g_rm hR rfl rfl) [] [0, 1, 2] [0, 1, 2] ⟨rfl, rfl, rfl, rfl, by decide, gRoIn_p [3, 4] (by rw [hro]; rfl) (by decide), rfl, fun _ => rfl⟩ rfl (Nat.le_of_ble_eq_true rfl) dX5_withoutNeedlessParentheses_134 (g_rc hR (Nat.le_of_ble_eq_true rfl) (Nat.le_of_ble_eq_true rfl)) (ck' := 3) (sk' := 192) rfl rfl (fun _ => rfl) (fun _ _ => ?_) (fun _ hx => absurd rfl hx)
                  refine g_if_eq C 144 dX5_withoutNeedlessParentheses_137 (by decide) (fun c51 => ?_) (fun c51 => ?_)
                  · have hf := opt_pos c51 hf
                    refine g_iconst C (v := 0) dX5_withoutNeedlessParentheses_144 (by decide) ?_
                    refine gW.locals [4, 5, 6, 7, 0, 8, 2, 1] rfl ?_
                    exact H145 a0_0_31 a1_0_31 a2_0_31 y0len_31 y0t_31 y1len_31 y1t_31 y2len_31 y2t_31 (l4_31 + (-1)) l5_31 x29 x31 0 hf
                  · have hf := opt_neg c51 hf
                    refine gW.locals [4, 5, 6, 7, 0, 8, 2, 1] rfl ?_
                    exact H140 a0_0_31 a1_0_31 a2_0_31 y0len_31 y0t_31 y1len_31 y1t_31 y2len_31 y2t_31 (l4_31 + (-1)) l5_31 x29 x31 hf
          · have hf := opt_pos c25 hf
            refine g_aload_n C 4 dX5_withoutNeedlessParentheses_79 rfl ?_
            refine g_iload C 5 dX5_withoutNeedlessParentheses_80 rfl ?_
            refine g_iconst C (v := 1) dX5_withoutNeedlessParentheses_82 (by decide) ?_
            obtain ⟨c52, hf⟩ := gg_of hf
            obtain ⟨f53, ef53, hf⟩ := opt_let hf
            refine g_zast C (ws' := [(a0_0_31, .inl ((x_y X) 1, y0len_31, .inl y0t_31))] ++ [(a1_0_31, .inl ((x_y X) 0, y1len_31, .inl y1t_31))] ++ [(a2_0_31, .inl ((x_y X) 1, y2len_31, .inl f53))]) 2 rfl (gi_in c52) (by rw [ef53]; rfl) dX5_withoutNeedlessParentheses_83 ?_
            refine g_goto C 201 dX5_withoutNeedlessParentheses_84 (by decide) ?_
            refine gW.locals [1, 2, 3, 4, 5, 6] rfl ?_
            exact H201 a0_0_31 a1_0_31 a2_0_31 y0len_31 y0t_31 y1len_31 y1t_31 y2len_31 f53 l4_31 l5_31 hf
        · have hf := opt_pos c24 hf
          refine g_iinc C 5 (v := l4_31 + 1) (lv' := [(4, .int (l4_31 + 1)), (6, .int v22), (0, .ref t0), (1, .ref a0_0_31), (2, .ref a1_0_31), (3, .ref a2_0_31), (5, .int l5_31)]) dX5_withoutNeedlessParentheses_55 rfl rfl (g_nlt hn rfl) rfl ?_
          refine g_aload_n C 4 dX5_withoutNeedlessParentheses_58 rfl ?_
          refine g_iload C 0 dX5_withoutNeedlessParentheses_59 rfl ?_
          refine g_iload C 6 dX5_withoutNeedlessParentheses_61 rfl ?_
          obtain ⟨c54, hf⟩ := gg_of hf
          obtain ⟨f55, ef55, hf⟩ := opt_let hf
          refine g_iast C (ws' := [(a0_0_31, .inl ((x_y X) 1, y0len_31, .inl y0t_31))] ++ [(a1_0_31, .inl ((x_y X) 0, y1len_31, .inl f55))] ++ [(a2_0_31, .inl ((x_y X) 1, y2len_31, .inl y2t_31))]) 1 rfl (gi_in c54) (by rw [ef55]; rfl) dX5_withoutNeedlessParentheses_63 ?_
          refine g_aload_n C 5 dX5_withoutNeedlessParentheses_64 rfl ?_
          refine g_iload C 0 dX5_withoutNeedlessParentheses_65 rfl ?_
          refine g_iconst C (v := 0) dX5_withoutNeedlessParentheses_67 (by decide) ?_
          obtain ⟨c56, hf⟩ := gg_of hf
          obtain ⟨f57, ef57, hf⟩ := opt_let hf
          refine g_zast C (ws' := [(a0_0_31, .inl ((x_y X) 1, y0len_31, .inl y0t_31))] ++ [(a1_0_31, .inl ((x_y X) 0, y1len_31, .inl f55))] ++ [(a2_0_31, .inl ((x_y X) 1, y2len_31, .inl f57))]) 2 rfl (gi_in c56) (by rw [ef57]; rfl) dX5_withoutNeedlessParentheses_68 ?_
          refine g_goto C 201 dX5_withoutNeedlessParentheses_69 (by decide) ?_
          refine gW.locals [2, 3, 4, 5, 0, 6] rfl ?_
          exact H201 a0_0_31 a1_0_31 a2_0_31 y0len_31 y0t_31 y1len_31 f55 y2len_31 f57 (l4_31 + 1) l5_31 hf
  show gW X Q 0 0 ([]) [(0, .ref t0)] [] 0
  refine g_aload_n C 0 dX5_withoutNeedlessParentheses_0 rfl ?_
  obtain ⟨v1, h2, hf⟩ := opt_bind hf
  refine g_callV C (c_J0_length_8abf5 (l := x_l X) (D := x_D X) (cy := x_y X) (t0 := t0) (t1 := t1) (hash := hash) (hz := hz) (tn := tn) (tb := tb) h2) (As := []) (rest := []) (wr := []) (ws' := fun _ => []) (st' := fun _ => [.int v1]) (ci := 0) 0 0 ⟨_, by rw [hro]; rfl⟩ rfl rfl mw_4_75 mw_1_6 mw_5_180 mw_4_73 mw_4_74 hd_J0_length_8abf5 rfl (g_rm hR rfl rfl) [] [] [] ⟨rfl, rfl, rfl, rfl, by decide, gRoIn_p [0, 1] (by rw [hro]; rfl) (by decide), rfl, fun _ => rfl⟩ rfl (Nat.le_of_ble_eq_true rfl) dX5_withoutNeedlessParentheses_1 (g_rc hR (Nat.le_of_ble_eq_true rfl) (Nat.le_of_ble_eq_true rfl)) (ck' := 0) (sk' := 0) rfl rfl (fun _ => rfl) (fun _ _ => ?_) (fun _ hx => absurd rfl hx)
  obtain ⟨c5, hf⟩ := gg_of hf
  obtain ⟨m4, em4, hf⟩ := opt_let hf
  refine g_newa C 1 (ty := .boolean) rfl rfl (fun _ h => nomatch h) mw_1_205 (N := m4) (B := 64) (a0 := (m4, .inl (fun _ => 0))) (fun _ => rfl) (gnw_0 c5) em4.symm (by rw [em4]; exact gnw_B c5) (by decide) (by decide) (g_rc hR (Nat.le_of_ble_eq_true rfl) (Nat.le_of_ble_eq_true rfl)) (ck' := 1) (sk' := 64) rfl rfl dX5_withoutNeedlessParentheses_4 (fun q3 => ?_)
  refine g_astore_n C (lv' := [(1, .ref q3), (0, .ref t0)]) dX5_withoutNeedlessParentheses_6 (g_nlt hn rfl) rfl ?_
  refine g_aload_n C 1 dX5_withoutNeedlessParentheses_7 rfl ?_
  obtain ⟨v6, h7, hf⟩ := opt_bind hf
  refine g_callV C (c_J0_length_8abf5 (l := x_l X) (D := x_D X) (cy := x_y X) (t0 := t0) (t1 := t1) (hash := hash) (hz := hz) (tn := tn) (tb := tb) h7) (As := []) (rest := []) (wr := [(q3, .inl ((x_y X) 1, m4, .inl (fun _ => 0)))]) (ws' := fun _ => [(q3, .inl ((x_y X) 1, m4, .inl (fun _ => 0)))]) (st' := fun _ => [.int v6]) (ci := 0) 0 1 ⟨_, by rw [hro]; rfl⟩ rfl rfl mw_4_75 mw_1_6 mw_5_180 mw_4_73 mw_4_74 hd_J0_length_8abf5 rfl (g_rm hR rfl rfl) [] [0] [0] ⟨rfl, rfl, rfl, rfl, by decide, gRoIn_p [1, 2] (by rw [hro]; rfl) (by decide), rfl, fun _ => rfl⟩ rfl (Nat.le_of_ble_eq_true rfl) dX5_withoutNeedlessParentheses_8 (g_rc hR (Nat.le_of_ble_eq_true rfl) (Nat.le_of_ble_eq_true rfl)) (ck' := 1) (sk' := 64) rfl rfl (fun _ => rfl) (fun _ _ => ?_) (fun _ hx => absurd rfl hx)
  refine g_iconst C (v := 1) dX5_withoutNeedlessParentheses_11 (by decide) ?_
  refine g_iadd C dX5_withoutNeedlessParentheses_12 ?_
  obtain ⟨c10, hf⟩ := gg_of hf
  obtain ⟨m9, em9, hf⟩ := opt_let hf
  refine g_newa C 0 (ty := .int) rfl rfl (fun _ h => nomatch h) mw_1_89 (N := m9) (B := 64) (a0 := (m9, .inl (fun _ => 0))) (fun _ => rfl) (gnw_0 c10) em9.symm (by rw [em9]; exact gnw_B c10) (by decide) (by decide) (g_rc hR (Nat.le_of_ble_eq_true rfl) (Nat.le_of_ble_eq_true rfl)) (ck' := 2) (sk' := 128) rfl rfl dX5_withoutNeedlessParentheses_13 (fun q8 => ?_)
  refine g_astore_n C (lv' := [(2, .ref q8), (1, .ref q3), (0, .ref t0)]) dX5_withoutNeedlessParentheses_15 (g_nlt hn rfl) rfl ?_
  refine g_aload_n C 2 dX5_withoutNeedlessParentheses_16 rfl ?_
  obtain ⟨v11, h12, hf⟩ := opt_bind hf
  refine g_callV C (c_J0_length_8abf5 (l := x_l X) (D := x_D X) (cy := x_y X) (t0 := t0) (t1 := t1) (hash := hash) (hz := hz) (tn := tn) (tb := tb) h12) (As := []) (rest := []) (wr := [(q3, .inl ((x_y X) 1, m4, .inl (fun _ => 0)))] ++ [(q8, .inl ((x_y X) 0, m9, .inl (fun _ => 0)))]) (ws' := fun _ => [(q3, .inl ((x_y X) 1, m4, .inl (fun _ => 0)))] ++ [(q8, .inl ((x_y X) 0, m9, .inl (fun _ => 0)))]) (st' := fun _ => [.int v11]) (ci := 0) 0 2 ⟨_, by rw [hro]; rfl⟩ rfl rfl mw_4_75 mw_1_6 mw_5_180 mw_4_73 mw_4_74 hd_J0_length_8abf5 rfl (g_rm hR rfl rfl) [] [0, 1] [0, 1] ⟨rfl, rfl, rfl, rfl, by decide, gRoIn_p [2, 3] (by rw [hro]; rfl) (by decide), rfl, fun _ => rfl⟩ rfl (Nat.le_of_ble_eq_true rfl) dX5_withoutNeedlessParentheses_17 (g_rc hR (Nat.le_of_ble_eq_true rfl) (Nat.le_of_ble_eq_true rfl)) (ck' := 2) (sk' := 128) rfl rfl (fun _ => rfl) (fun _ _ => ?_) (fun _ hx => absurd rfl hx)
  refine g_iconst C (v := 1) dX5_withoutNeedlessParentheses_20 (by decide) ?_
  refine g_iadd C dX5_withoutNeedlessParentheses_21 ?_
  obtain ⟨c15, hf⟩ := gg_of hf
  obtain ⟨m14, em14, hf⟩ := opt_let hf
  refine g_newa C 1 (ty := .boolean) rfl rfl (fun _ h => nomatch h) mw_1_205 (N := m14) (B := 64) (a0 := (m14, .inl (fun _ => 0))) (fun _ => rfl) (gnw_0 c15) em14.symm (by rw [em14]; exact gnw_B c15) (by decide) (by decide) (g_rc hR (Nat.le_of_ble_eq_true rfl) (Nat.le_of_ble_eq_true rfl)) (ck' := 3) (sk' := 192) rfl rfl dX5_withoutNeedlessParentheses_22 (fun q13 => ?_)
  refine g_astore_n C (lv' := [(3, .ref q13), (2, .ref q8), (1, .ref q3), (0, .ref t0)]) dX5_withoutNeedlessParentheses_24 (g_nlt hn rfl) rfl ?_
  refine g_iconst C (v := 0) dX5_withoutNeedlessParentheses_25 (by decide) ?_
  refine g_istore C (lv' := [(4, .int 0), (3, .ref q13), (2, .ref q8), (1, .ref q3), (0, .ref t0)]) dX5_withoutNeedlessParentheses_26 (g_nlt hn rfl) rfl ?_
  refine g_iconst C (v := 0) dX5_withoutNeedlessParentheses_28 (by decide) ?_
  refine g_istore C (lv' := [(5, .int 0), (4, .int 0), (3, .ref q13), (2, .ref q8), (1, .ref q3), (0, .ref t0)]) dX5_withoutNeedlessParentheses_29 (g_nlt hn rfl) rfl ?_
  refine gW.locals [5, 4, 3, 2, 1, 0] rfl ?_
  exact H31 1000 q3 q8 q13 m4 (fun _ => 0) m9 (fun _ => 0) m14 (fun _ => 0) 0 0 hf
/-! X3_init -/
theorem hd_X3_init : yX3_init.cls ≠ "java/lang/invoke/MethodHandle" ∧ yX3_init.cls ≠ "java/lang/invoke/VarHandle" ∧ (parseMethodDescriptor yX3_init.desc).map (fun d => d.parameters.length) = some 5 := by decide +kernel
def F_X3_init (p1 : Int32) (p2 : Int32) (p3 : Int32) : Option (Int32 × Int32 × Int32) := some (p1, p2, p3)
set_option maxRecDepth 100000 in
set_option maxHeartbeats 4000000 in
theorem c_X3_init {l : Launch} {D : va_G} {cy : Nat → ClassId} {q0 : Nat}  {p0 : Nat} {p1 : Int32} {p2 : Int32} {p3 : Int32} {p4 : Nat}  {val : Int32 × Int32 × Int32} (hf : F_X3_init p1 p2 p3 = some val) : gCt l D cy yX3_init cX3_init 6 none 1 12 0 0 [.ref q0, .ref p0, .int p1, .int p2, .int p3, .ref p4] [] ([(q0, .inr (5, [.null, .int 0, .int 0, .int 0, .null]))]) 0 (fun _ : Unit => none) (fun _ => (wPol cy q0 p0 val.1 val.2.1 val.2.2 p4)) := by
  refine g_begin (by decide +kernel) (Nat.le_of_ble_eq_true rfl) ?_
  intro X Q hl hR hD hy hro hn C hin E
  subst hl; subst hD; subst hy
  replace C : gC X "SecretVault$Policy" cX3_init none := C
  unfold F_X3_init at hf
  show gW X Q 0 0 ([(q0, .inr (5, [.null, .int 0, .int 0, .int 0, .null]))]) [(0, .ref q0), (1, .ref p0), (2, .int p1), (3, .int p2), (4, .int p3), (5, .ref p4)] [] 0
  refine g_aload_n C 0 dX3_init_0 rfl ?_
  refine g_objInit C mw_6_30 mw_1_44 gw_obj (g_tn hR rfl rfl) dX3_init_1 ?_
  refine g_aload_n C 0 dX3_init_4 rfl ?_
  refine g_aload_n C 1 dX3_init_5 rfl ?_
  refine g_putF C (ws' := [(q0, .inr (5, [.ref p0, .int 0, .int 0, .int 0, .null]))]) 0 0 rfl rfl wiX3 (by decide) tyX3_ok nmX3 mw_6_31 rfl rfl (hin rfl) rfl rfl rfl (Nat.le_of_ble_eq_true rfl) rfl dX3_init_6 ?_
  refine g_aload_n C 0 dX3_init_9 rfl ?_
  refine g_iload_n C 2 dX3_init_10 rfl ?_
  refine g_putF C (ws' := [(q0, .inr (5, [.ref p0, .int p1, .int 0, .int 0, .null]))]) 0 1 rfl rfl wiX3 (by decide) tyX3_ok nmX3 mw_6_33 rfl rfl (hin rfl) rfl rfl rfl (Nat.le_of_ble_eq_true rfl) rfl dX3_init_11 ?_
  refine g_aload_n C 0 dX3_init_14 rfl ?_
  refine g_iload_n C 3 dX3_init_15 rfl ?_
  refine g_putF C (ws' := [(q0, .inr (5, [.ref p0, .int p1, .int p2, .int 0, .null]))]) 0 2 rfl rfl wiX3 (by decide) tyX3_ok nmX3 mw_6_35 rfl rfl (hin rfl) rfl rfl rfl (Nat.le_of_ble_eq_true rfl) rfl dX3_init_16 ?_
  refine g_aload_n C 0 dX3_init_19 rfl ?_
  refine g_iload C 4 dX3_init_20 rfl ?_
  refine g_putF C (ws' := [(q0, .inr (5, [.ref p0, .int p1, .int p2, .int p3, .null]))]) 0 3 rfl rfl wiX3 (by decide) tyX3_ok nmX3 mw_6_37 rfl rfl (hin rfl) rfl rfl rfl (Nat.le_of_ble_eq_true rfl) rfl dX3_init_22 ?_
  refine g_aload_n C 0 dX3_init_25 rfl ?_
  refine g_aload C 5 dX3_init_26 rfl ?_
  refine g_putF C (ws' := [(q0, .inr (5, [.ref p0, .int p1, .int p2, .int p3, .ref p4]))]) 0 4 rfl rfl wiX3 (by decide) tyX3_ok nmX3 mw_6_39 rfl rfl (hin rfl) rfl rfl rfl (Nat.le_of_ble_eq_true rfl) rfl dX3_init_28 ?_
  refine g_eqw (ws' := (wPol (x_y X) q0 p0 p1 p2 p3 p4)) rfl ?_
  obtain rfl := Option.some.inj hf
  exact g_vret C E () dX3_init_31 rfl rfl rfl (Nat.le_of_ble_eq_true rfl) (Nat.le_of_ble_eq_true rfl)
