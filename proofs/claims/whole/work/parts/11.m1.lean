/-! the reference: its world -/
abbrev wM (cy : Nat → ClassId) (a : Nat → Nat) (thrown : Int32) (g : Nat → Int32) (saved : Nat → Int32) (hasSaved : Int32) (coef : Nat → Int32) (nodes : Nat → Int32) (nodeMany : Int32) (isDeep : Int32) (codes : Nat → Int32) (details : Nat → Int32) (levelMany : Int32) (given : Nat → Int32) (paper : Nat → Int32) (papered : Int32) (tape : Nat → Int32) (taped : Int32) (wrongAt : Int32) (at_ : Int32) (value : Int32) (readPlace : Int32) (readValue : Int32) (readEpoch : Int32) : va_W := [((a 0), .inr (12, [.int thrown, .ref (a 1), .ref (a 2), .int hasSaved, .ref (a 3), .ref (a 4), .int nodeMany, .int isDeep, .ref (a 5), .ref (a 6), .int levelMany, .ref (a 7), .ref (a 8), .int papered, .ref (a 9), .int taped, .int wrongAt, .int at_, .int value, .int readPlace, .int readValue, .int readEpoch])), ((a 1), .inl (cy 0, 534, .inl g)), ((a 2), .inl (cy 0, 534, .inl saved)), ((a 3), .inl (cy 0, 8, .inl coef)), ((a 4), .inl (cy 0, 24, .inl nodes)), ((a 5), .inl (cy 0, 30, .inl codes)), ((a 6), .inl (cy 0, 30, .inl details)), ((a 7), .inl (cy 0, 3, .inl given)), ((a 8), .inl (cy 2, 100, .inl paper)), ((a 9), .inl (cy 2, 40, .inl tape))]
theorem wiX11 : ∀ w ∈ u_ws RX11 TX11 22, w ∈ gBW := List.forall_mem_cons.mpr ⟨mw_6_205, List.forall_mem_cons.mpr ⟨mw_6_207, List.forall_mem_cons.mpr ⟨mw_6_209, List.forall_mem_cons.mpr ⟨mw_6_211, List.forall_mem_cons.mpr ⟨mw_6_213, List.forall_mem_cons.mpr ⟨mw_6_215, List.forall_mem_cons.mpr ⟨mw_6_217, List.forall_mem_cons.mpr ⟨mw_6_219, List.forall_mem_cons.mpr ⟨mw_6_221, List.forall_mem_cons.mpr ⟨mw_6_223, List.forall_mem_cons.mpr ⟨mw_6_225, List.forall_mem_cons.mpr ⟨mw_6_227, List.forall_mem_cons.mpr ⟨mw_6_229, List.forall_mem_cons.mpr ⟨mw_6_231, List.forall_mem_cons.mpr ⟨mw_6_233, List.forall_mem_cons.mpr ⟨mw_6_235, List.forall_mem_cons.mpr ⟨mw_6_237, List.forall_mem_cons.mpr ⟨mw_6_239, List.forall_mem_cons.mpr ⟨mw_7_1, List.forall_mem_cons.mpr ⟨mw_7_3, List.forall_mem_cons.mpr ⟨mw_7_5, List.forall_mem_cons.mpr ⟨mw_7_7, fun _ h => nomatch h⟩⟩⟩⟩⟩⟩⟩⟩⟩⟩⟩⟩⟩⟩⟩⟩⟩⟩⟩⟩⟩⟩
/-! X11_thrown -/
theorem hd_X11_thrown : yX11_thrown.cls ≠ "java/lang/invoke/MethodHandle" ∧ yX11_thrown.cls ≠ "java/lang/invoke/VarHandle" ∧ (parseMethodDescriptor yX11_thrown.desc).map (fun d => d.parameters.length) = some 0 := by decide +kernel
def F_X11_thrown (thrown : Int32) : Option (Int32) := some thrown
set_option maxRecDepth 100000 in
set_option maxHeartbeats 4000000 in
theorem c_X11_thrown {l : Launch} {D : va_G} {cy : Nat → ClassId} {a : Nat → Nat} {thrown : Int32} {g : Nat → Int32} {saved : Nat → Int32} {hasSaved : Int32} {coef : Nat → Int32} {nodes : Nat → Int32} {nodeMany : Int32} {isDeep : Int32} {codes : Nat → Int32} {details : Nat → Int32} {levelMany : Int32} {given : Nat → Int32} {paper : Nat → Int32} {papered : Int32} {tape : Nat → Int32} {taped : Int32} {wrongAt : Int32} {at_ : Int32} {value : Int32} {readPlace : Int32} {readValue : Int32} {readEpoch : Int32}   {val : Int32} (hf : F_X11_thrown thrown = some val) : gCt l D cy yX11_thrown cX11_thrown 1 (some .int) 0 0 0 0 [.ref (a 0)] [] ((wM cy a thrown g saved hasSaved coef nodes nodeMany isDeep codes details levelMany given paper papered tape taped wrongAt at_ value readPlace readValue readEpoch)) 0 (fun _ : Unit => some (.int val)) (fun _ => (wM cy a thrown g saved hasSaved coef nodes nodeMany isDeep codes details levelMany given paper papered tape taped wrongAt at_ value readPlace readValue readEpoch)) := by
  refine g_begin (by decide +kernel) (Nat.le_of_ble_eq_true rfl) ?_
  intro X Q hl hR hD hy hro hn C hin E
  subst hl; subst hD; subst hy
  replace C : gC X "SecretVaultModel" cX11_thrown (some .int) := C
  unfold F_X11_thrown at hf
  show gW X Q 0 0 ((wM (x_y X) a thrown g saved hasSaved coef nodes nodeMany isDeep codes details levelMany given paper papered tape taped wrongAt at_ value readPlace readValue readEpoch)) [(0, .ref (a 0))] [] 0
  refine g_aload_n C 0 dX11_thrown_0 rfl ?_
  refine g_get C 0 0 rfl rfl wiX11 (by decide) mw_6_184 rfl rfl dX11_thrown_1 ?_
  obtain rfl := Option.some.inj hf
  exact g_iret C E () dX11_thrown_4 rfl rfl rfl (Nat.le_of_ble_eq_true rfl) (Nat.le_of_ble_eq_true rfl)
/-! X11_in -/
theorem hd_X11_in : yX11_in.cls ≠ "java/lang/invoke/MethodHandle" ∧ yX11_in.cls ≠ "java/lang/invoke/VarHandle" ∧ (parseMethodDescriptor yX11_in.desc).map (fun d => d.parameters.length) = some 3 := by decide +kernel
def F_X11_in_L15   (s0_15 : Int32) : Option (Int32) := gg (gnar .boolean s0_15) (some s0_15)
def F_X11_in_L14    : Option (Int32) := F_X11_in_L15 0
def F_X11_in (p0 : Int32) (p1 : Int32) (p2 : Int32) : Option (Int32) := if p0 < p1 then (F_X11_in_L14 ) else (if p2 < p0 then (F_X11_in_L14 ) else (F_X11_in_L15 1))
set_option maxRecDepth 100000 in
set_option maxHeartbeats 4000000 in
theorem c_X11_in {l : Launch} {D : va_G} {cy : Nat → ClassId}   {p0 : Int32} {p1 : Int32} {p2 : Int32}  {val : Int32} (hf : F_X11_in p0 p1 p2 = some val) : gCt l D cy yX11_in cX11_in 3 (some .boolean) 0 0 0 0 [.int p0, .int p1, .int p2] [] ([]) 0 (fun _ : Unit => some (.int val)) (fun _ => []) := by
  refine g_begin (by decide +kernel) (Nat.le_of_ble_eq_true rfl) ?_
  intro X Q hl hR hD hy hro hn C hin E
  subst hl; subst hD; subst hy
  replace C : gC X "SecretVaultModel" cX11_in (some .boolean) := C
  unfold F_X11_in at hf
  have H15 : ∀ (s0_15 : Int32), F_X11_in_L15 s0_15 = some val → gW X Q 0 0 ([]) [(0, .int p0), (1, .int p1), (2, .int p2)] [.int s0_15] 15 := by
    intro s0_15 hf
    unfold F_X11_in_L15 at hf
    obtain ⟨c2, hf⟩ := gg_of hf
    obtain rfl := Option.some.inj hf
    exact g_zret C E () (gnar_of c2) dX11_in_15 rfl rfl rfl (Nat.le_of_ble_eq_true rfl) (Nat.le_of_ble_eq_true rfl)
  have H14 :  F_X11_in_L14 = some val → gW X Q 0 0 ([]) [(0, .int p0), (1, .int p1), (2, .int p2)] [] 14 := by
    intro hf
    unfold F_X11_in_L14 at hf
    refine g_iconst C (v := 0) dX11_in_14 (by decide) ?_
    exact H15 0 hf
  show gW X Q 0 0 ([]) [(0, .int p0), (1, .int p1), (2, .int p2)] [] 0
  refine g_iload_n C 0 dX11_in_0 rfl ?_
  refine g_iload_n C 1 dX11_in_1 rfl ?_
  refine g_icmp_lt C 14 dX11_in_2 (by decide) (fun c1 => ?_) (fun c1 => ?_)
  · have hf := opt_pos c1 hf
    exact H14 hf
  · have hf := opt_neg c1 hf
    refine g_iload_n C 0 dX11_in_5 rfl ?_
    refine g_iload_n C 2 dX11_in_6 rfl ?_
    refine g_icmp_gt C 14 dX11_in_7 (by decide) (fun c3 => ?_) (fun c3 => ?_)
    · have hf := opt_pos c3 hf
      exact H14 hf
    · have hf := opt_neg c3 hf
      refine g_iconst C (v := 1) dX11_in_10 (by decide) ?_
      refine g_goto C 15 dX11_in_11 (by decide) ?_
      exact H15 1 hf
/-! X11_fails -/
theorem hd_X11_fails : yX11_fails.cls ≠ "java/lang/invoke/MethodHandle" ∧ yX11_fails.cls ≠ "java/lang/invoke/VarHandle" ∧ (parseMethodDescriptor yX11_fails.desc).map (fun d => d.parameters.length) = some 1 := by decide +kernel
def F_X11_fails (thrown : Int32) (p0 : Int32) : Option (Int32 × Int32) := some (0, p0)
set_option maxRecDepth 100000 in
set_option maxHeartbeats 4000000 in
theorem c_X11_fails {l : Launch} {D : va_G} {cy : Nat → ClassId} {a : Nat → Nat} {thrown : Int32} {g : Nat → Int32} {saved : Nat → Int32} {hasSaved : Int32} {coef : Nat → Int32} {nodes : Nat → Int32} {nodeMany : Int32} {isDeep : Int32} {codes : Nat → Int32} {details : Nat → Int32} {levelMany : Int32} {given : Nat → Int32} {paper : Nat → Int32} {papered : Int32} {tape : Nat → Int32} {taped : Int32} {wrongAt : Int32} {at_ : Int32} {value : Int32} {readPlace : Int32} {readValue : Int32} {readEpoch : Int32} {p0 : Int32}  {val : Int32 × Int32} (hf : F_X11_fails thrown p0 = some val) : gCt l D cy yX11_fails cX11_fails 2 (some .int) 0 0 0 0 [.ref (a 0), .int p0] [] ((wM cy a thrown g saved hasSaved coef nodes nodeMany isDeep codes details levelMany given paper papered tape taped wrongAt at_ value readPlace readValue readEpoch)) 0 (fun _ : Unit => some (.int val.1)) (fun _ => (wM cy a val.2 g saved hasSaved coef nodes nodeMany isDeep codes details levelMany given paper papered tape taped wrongAt at_ value readPlace readValue readEpoch)) := by
  refine g_begin (by decide +kernel) (Nat.le_of_ble_eq_true rfl) ?_
  intro X Q hl hR hD hy hro hn C hin E
  subst hl; subst hD; subst hy
  replace C : gC X "SecretVaultModel" cX11_fails (some .int) := C
  unfold F_X11_fails at hf
  show gW X Q 0 0 ((wM (x_y X) a thrown g saved hasSaved coef nodes nodeMany isDeep codes details levelMany given paper papered tape taped wrongAt at_ value readPlace readValue readEpoch)) [(0, .ref (a 0)), (1, .int p0)] [] 0
  refine g_aload_n C 0 dX11_fails_0 rfl ?_
  refine g_iload_n C 1 dX11_fails_1 rfl ?_
  refine g_put C (ws' := (wM (x_y X) a p0 g saved hasSaved coef nodes nodeMany isDeep codes details levelMany given paper papered tape taped wrongAt at_ value readPlace readValue readEpoch)) 0 0 rfl rfl wiX11 (by decide) tyX11_ok nmX11 mw_6_184 rfl rfl rfl rfl (Nat.le_of_ble_eq_true rfl) rfl dX11_fails_2 ?_
  refine g_iconst C (v := 0) dX11_fails_5 (by decide) ?_
  obtain rfl := Option.some.inj hf
  exact g_iret C E () dX11_fails_6 rfl rfl rfl (Nat.le_of_ble_eq_true rfl) (Nat.le_of_ble_eq_true rfl)
/-! X11_done -/
theorem hd_X11_done : yX11_done.cls ≠ "java/lang/invoke/MethodHandle" ∧ yX11_done.cls ≠ "java/lang/invoke/VarHandle" ∧ (parseMethodDescriptor yX11_done.desc).map (fun d => d.parameters.length) = some 1 := by decide +kernel
def F_X11_done (thrown : Int32) (p0 : Int32) : Option (Int32 × Int32) := some (p0, 0)
set_option maxRecDepth 100000 in
set_option maxHeartbeats 4000000 in
theorem c_X11_done {l : Launch} {D : va_G} {cy : Nat → ClassId} {a : Nat → Nat} {thrown : Int32} {g : Nat → Int32} {saved : Nat → Int32} {hasSaved : Int32} {coef : Nat → Int32} {nodes : Nat → Int32} {nodeMany : Int32} {isDeep : Int32} {codes : Nat → Int32} {details : Nat → Int32} {levelMany : Int32} {given : Nat → Int32} {paper : Nat → Int32} {papered : Int32} {tape : Nat → Int32} {taped : Int32} {wrongAt : Int32} {at_ : Int32} {value : Int32} {readPlace : Int32} {readValue : Int32} {readEpoch : Int32} {p0 : Int32}  {val : Int32 × Int32} (hf : F_X11_done thrown p0 = some val) : gCt l D cy yX11_done cX11_done 2 (some .int) 0 0 0 0 [.ref (a 0), .int p0] [] ((wM cy a thrown g saved hasSaved coef nodes nodeMany isDeep codes details levelMany given paper papered tape taped wrongAt at_ value readPlace readValue readEpoch)) 0 (fun _ : Unit => some (.int val.1)) (fun _ => (wM cy a val.2 g saved hasSaved coef nodes nodeMany isDeep codes details levelMany given paper papered tape taped wrongAt at_ value readPlace readValue readEpoch)) := by
  refine g_begin (by decide +kernel) (Nat.le_of_ble_eq_true rfl) ?_
  intro X Q hl hR hD hy hro hn C hin E
  subst hl; subst hD; subst hy
  replace C : gC X "SecretVaultModel" cX11_done (some .int) := C
  unfold F_X11_done at hf
  show gW X Q 0 0 ((wM (x_y X) a thrown g saved hasSaved coef nodes nodeMany isDeep codes details levelMany given paper papered tape taped wrongAt at_ value readPlace readValue readEpoch)) [(0, .ref (a 0)), (1, .int p0)] [] 0
  refine g_aload_n C 0 dX11_done_0 rfl ?_
  refine g_iconst C (v := 0) dX11_done_1 (by decide) ?_
  refine g_put C (ws' := (wM (x_y X) a 0 g saved hasSaved coef nodes nodeMany isDeep codes details levelMany given paper papered tape taped wrongAt at_ value readPlace readValue readEpoch)) 0 0 rfl rfl wiX11 (by decide) tyX11_ok nmX11 mw_6_184 rfl rfl rfl rfl (Nat.le_of_ble_eq_true rfl) rfl dX11_done_2 ?_
  refine g_iload_n C 1 dX11_done_5 rfl ?_
  obtain rfl := Option.some.inj hf
  exact g_iret C E () dX11_done_6 rfl rfl rfl (Nat.le_of_ble_eq_true rfl) (Nat.le_of_ble_eq_true rfl)
/-! X11_isMember -/
theorem hd_X11_isMember : yX11_isMember.cls ≠ "java/lang/invoke/MethodHandle" ∧ yX11_isMember.cls ≠ "java/lang/invoke/VarHandle" ∧ (parseMethodDescriptor yX11_isMember.desc).map (fun d => d.parameters.length) = some 1 := by decide +kernel
def F_X11_isMember (p0 : Int32) : Option (Int32) := (F_X11_in p0 0 7).bind fun v1 => gg (gnar .boolean v1) (some v1)
set_option maxRecDepth 100000 in
set_option maxHeartbeats 4000000 in
theorem c_X11_isMember {l : Launch} {D : va_G} {cy : Nat → ClassId}   {p0 : Int32}  {val : Int32} (hf : F_X11_isMember p0 = some val) : gCt l D cy yX11_isMember cX11_isMember 1 (some .boolean) 1 22 0 0 [.int p0] [] ([]) 0 (fun _ : Unit => some (.int val)) (fun _ => []) := by
  refine g_begin (by decide +kernel) (Nat.le_of_ble_eq_true rfl) ?_
  intro X Q hl hR hD hy hro hn C hin E
  subst hl; subst hD; subst hy
  replace C : gC X "SecretVaultModel" cX11_isMember (some .boolean) := C
  unfold F_X11_isMember at hf
  show gW X Q 0 0 ([]) [(0, .int p0)] [] 0
  refine g_iload_n C 0 dX11_isMember_0 rfl ?_
  refine g_iconst C (v := 0) dX11_isMember_1 (by decide) ?_
  refine g_bipush C (v := 7) dX11_isMember_2 (by decide) ?_
  obtain ⟨v1, h2, hf⟩ := opt_bind hf
  refine g_callS C (c_X11_in (l := x_l X) (D := x_D X) (cy := x_y X) (p0 := p0) (p1 := 0) (p2 := 7) h2) (As := [.int p0, .int 0, .int 7]) (rest := []) (wr := []) (ws' := fun _ => []) (st' := fun _ => [.int v1]) 3 mw_7_41 mw_1_9 mw_7_39 mw_7_40 hd_X11_in rfl (g_rm hR rfl rfl) [] [] [] ⟨rfl, rfl, rfl, rfl, by decide, gRoIn_0, rfl, fun _ => rfl⟩ rfl (Nat.le_of_ble_eq_true rfl) dX11_isMember_4 (g_rc hR (Nat.le_of_ble_eq_true rfl) (Nat.le_of_ble_eq_true rfl)) (ck' := 0) (sk' := 0) rfl rfl (fun _ => rfl) (fun _ _ => ?_) (fun _ hx => absurd rfl hx)
  obtain ⟨c3, hf⟩ := gg_of hf
  obtain rfl := Option.some.inj hf
  exact g_zret C E () (gnar_of c3) dX11_isMember_7 rfl rfl rfl (Nat.le_of_ble_eq_true rfl) (Nat.le_of_ble_eq_true rfl)
/-! X11_isSlot -/
theorem hd_X11_isSlot : yX11_isSlot.cls ≠ "java/lang/invoke/MethodHandle" ∧ yX11_isSlot.cls ≠ "java/lang/invoke/VarHandle" ∧ (parseMethodDescriptor yX11_isSlot.desc).map (fun d => d.parameters.length) = some 1 := by decide +kernel
def F_X11_isSlot (p0 : Int32) : Option (Int32) := (F_X11_in p0 0 3).bind fun v1 => gg (gnar .boolean v1) (some v1)
set_option maxRecDepth 100000 in
set_option maxHeartbeats 4000000 in
theorem c_X11_isSlot {l : Launch} {D : va_G} {cy : Nat → ClassId}   {p0 : Int32}  {val : Int32} (hf : F_X11_isSlot p0 = some val) : gCt l D cy yX11_isSlot cX11_isSlot 1 (some .boolean) 1 22 0 0 [.int p0] [] ([]) 0 (fun _ : Unit => some (.int val)) (fun _ => []) := by
  refine g_begin (by decide +kernel) (Nat.le_of_ble_eq_true rfl) ?_
  intro X Q hl hR hD hy hro hn C hin E
  subst hl; subst hD; subst hy
  replace C : gC X "SecretVaultModel" cX11_isSlot (some .boolean) := C
  unfold F_X11_isSlot at hf
  show gW X Q 0 0 ([]) [(0, .int p0)] [] 0
  refine g_iload_n C 0 dX11_isSlot_0 rfl ?_
  refine g_iconst C (v := 0) dX11_isSlot_1 (by decide) ?_
  refine g_iconst C (v := 3) dX11_isSlot_2 (by decide) ?_
  obtain ⟨v1, h2, hf⟩ := opt_bind hf
  refine g_callS C (c_X11_in (l := x_l X) (D := x_D X) (cy := x_y X) (p0 := p0) (p1 := 0) (p2 := 3) h2) (As := [.int p0, .int 0, .int 3]) (rest := []) (wr := []) (ws' := fun _ => []) (st' := fun _ => [.int v1]) 3 mw_7_41 mw_1_9 mw_7_39 mw_7_40 hd_X11_in rfl (g_rm hR rfl rfl) [] [] [] ⟨rfl, rfl, rfl, rfl, by decide, gRoIn_0, rfl, fun _ => rfl⟩ rfl (Nat.le_of_ble_eq_true rfl) dX11_isSlot_3 (g_rc hR (Nat.le_of_ble_eq_true rfl) (Nat.le_of_ble_eq_true rfl)) (ck' := 0) (sk' := 0) rfl rfl (fun _ => rfl) (fun _ _ => ?_) (fun _ hx => absurd rfl hx)
  obtain ⟨c3, hf⟩ := gg_of hf
  obtain rfl := Option.some.inj hf
  exact g_zret C E () (gnar_of c3) dX11_isSlot_6 rfl rfl rfl (Nat.le_of_ble_eq_true rfl) (Nat.le_of_ble_eq_true rfl)
/-! X11_isSet -/
theorem hd_X11_isSet : yX11_isSet.cls ≠ "java/lang/invoke/MethodHandle" ∧ yX11_isSet.cls ≠ "java/lang/invoke/VarHandle" ∧ (parseMethodDescriptor yX11_isSet.desc).map (fun d => d.parameters.length) = some 1 := by decide +kernel
def F_X11_isSet (p0 : Int32) : Option (Int32) := (F_X11_in p0 0 255).bind fun v1 => gg (gnar .boolean v1) (some v1)
set_option maxRecDepth 100000 in
set_option maxHeartbeats 4000000 in
theorem c_X11_isSet {l : Launch} {D : va_G} {cy : Nat → ClassId}   {p0 : Int32}  {val : Int32} (hf : F_X11_isSet p0 = some val) : gCt l D cy yX11_isSet cX11_isSet 1 (some .boolean) 1 22 0 0 [.int p0] [] ([]) 0 (fun _ : Unit => some (.int val)) (fun _ => []) := by
  refine g_begin (by decide +kernel) (Nat.le_of_ble_eq_true rfl) ?_
  intro X Q hl hR hD hy hro hn C hin E
  subst hl; subst hD; subst hy
  replace C : gC X "SecretVaultModel" cX11_isSet (some .boolean) := C
  unfold F_X11_isSet at hf
  show gW X Q 0 0 ([]) [(0, .int p0)] [] 0
  refine g_iload_n C 0 dX11_isSet_0 rfl ?_
  refine g_iconst C (v := 0) dX11_isSet_1 (by decide) ?_
  refine g_sipush C (v := 255) dX11_isSet_2 (by decide) ?_
  obtain ⟨v1, h2, hf⟩ := opt_bind hf
  refine g_callS C (c_X11_in (l := x_l X) (D := x_D X) (cy := x_y X) (p0 := p0) (p1 := 0) (p2 := 255) h2) (As := [.int p0, .int 0, .int 255]) (rest := []) (wr := []) (ws' := fun _ => []) (st' := fun _ => [.int v1]) 3 mw_7_41 mw_1_9 mw_7_39 mw_7_40 hd_X11_in rfl (g_rm hR rfl rfl) [] [] [] ⟨rfl, rfl, rfl, rfl, by decide, gRoIn_0, rfl, fun _ => rfl⟩ rfl (Nat.le_of_ble_eq_true rfl) dX11_isSet_5 (g_rc hR (Nat.le_of_ble_eq_true rfl) (Nat.le_of_ble_eq_true rfl)) (ck' := 0) (sk' := 0) rfl rfl (fun _ => rfl) (fun _ _ => ?_) (fun _ hx => absurd rfl hx)
  obtain ⟨c3, hf⟩ := gg_of hf
  obtain rfl := Option.some.inj hf
  exact g_zret C E () (gnar_of c3) dX11_isSet_8 rfl rfl rfl (Nat.le_of_ble_eq_true rfl) (Nat.le_of_ble_eq_true rfl)
/-! X11_isPlace -/
theorem hd_X11_isPlace : yX11_isPlace.cls ≠ "java/lang/invoke/MethodHandle" ∧ yX11_isPlace.cls ≠ "java/lang/invoke/VarHandle" ∧ (parseMethodDescriptor yX11_isPlace.desc).map (fun d => d.parameters.length) = some 1 := by decide +kernel
def F_X11_isPlace (p0 : Int32) : Option (Int32) := (F_X11_in p0 1 24).bind fun v1 => gg (gnar .boolean v1) (some v1)
set_option maxRecDepth 100000 in
set_option maxHeartbeats 4000000 in
theorem c_X11_isPlace {l : Launch} {D : va_G} {cy : Nat → ClassId}   {p0 : Int32}  {val : Int32} (hf : F_X11_isPlace p0 = some val) : gCt l D cy yX11_isPlace cX11_isPlace 1 (some .boolean) 1 22 0 0 [.int p0] [] ([]) 0 (fun _ : Unit => some (.int val)) (fun _ => []) := by
  refine g_begin (by decide +kernel) (Nat.le_of_ble_eq_true rfl) ?_
  intro X Q hl hR hD hy hro hn C hin E
  subst hl; subst hD; subst hy
  replace C : gC X "SecretVaultModel" cX11_isPlace (some .boolean) := C
  unfold F_X11_isPlace at hf
  show gW X Q 0 0 ([]) [(0, .int p0)] [] 0
  refine g_iload_n C 0 dX11_isPlace_0 rfl ?_
  refine g_iconst C (v := 1) dX11_isPlace_1 (by decide) ?_
  refine g_bipush C (v := 24) dX11_isPlace_2 (by decide) ?_
  obtain ⟨v1, h2, hf⟩ := opt_bind hf
  refine g_callS C (c_X11_in (l := x_l X) (D := x_D X) (cy := x_y X) (p0 := p0) (p1 := 1) (p2 := 24) h2) (As := [.int p0, .int 1, .int 24]) (rest := []) (wr := []) (ws' := fun _ => []) (st' := fun _ => [.int v1]) 3 mw_7_41 mw_1_9 mw_7_39 mw_7_40 hd_X11_in rfl (g_rm hR rfl rfl) [] [] [] ⟨rfl, rfl, rfl, rfl, by decide, gRoIn_0, rfl, fun _ => rfl⟩ rfl (Nat.le_of_ble_eq_true rfl) dX11_isPlace_4 (g_rc hR (Nat.le_of_ble_eq_true rfl) (Nat.le_of_ble_eq_true rfl)) (ck' := 0) (sk' := 0) rfl rfl (fun _ => rfl) (fun _ _ => ?_) (fun _ hx => absurd rfl hx)
  obtain ⟨c3, hf⟩ := gg_of hf
  obtain rfl := Option.some.inj hf
  exact g_zret C E () (gnar_of c3) dX11_isPlace_7 rfl rfl rfl (Nat.le_of_ble_eq_true rfl) (Nat.le_of_ble_eq_true rfl)
/-! X11_of -/
theorem hd_X11_of : yX11_of.cls ≠ "java/lang/invoke/MethodHandle" ∧ yX11_of.cls ≠ "java/lang/invoke/VarHandle" ∧ (parseMethodDescriptor yX11_of.desc).map (fun d => d.parameters.length) = some 2 := by decide +kernel
def F_X11_of (g : Nat → Int32) (p0 : Int32) (p1 : Int32) : Option (Int32) := gg (gi (((38 : Int32) + ((124 : Int32) * p0)) + p1) 534) (some (g (Int32.toNatClampNeg (((38 : Int32) + ((124 : Int32) * p0)) + p1))))
set_option maxRecDepth 100000 in
set_option maxHeartbeats 4000000 in
theorem c_X11_of {l : Launch} {D : va_G} {cy : Nat → ClassId} {a : Nat → Nat} {thrown : Int32} {g : Nat → Int32} {saved : Nat → Int32} {hasSaved : Int32} {coef : Nat → Int32} {nodes : Nat → Int32} {nodeMany : Int32} {isDeep : Int32} {codes : Nat → Int32} {details : Nat → Int32} {levelMany : Int32} {given : Nat → Int32} {paper : Nat → Int32} {papered : Int32} {tape : Nat → Int32} {taped : Int32} {wrongAt : Int32} {at_ : Int32} {value : Int32} {readPlace : Int32} {readValue : Int32} {readEpoch : Int32} {p0 : Int32} {p1 : Int32}  {val : Int32} (hf : F_X11_of g p0 p1 = some val) : gCt l D cy yX11_of cX11_of 3 (some .int) 0 0 0 0 [.ref (a 0), .int p0, .int p1] [] ((wM cy a thrown g saved hasSaved coef nodes nodeMany isDeep codes details levelMany given paper papered tape taped wrongAt at_ value readPlace readValue readEpoch)) 0 (fun _ : Unit => some (.int val)) (fun _ => (wM cy a thrown g saved hasSaved coef nodes nodeMany isDeep codes details levelMany given paper papered tape taped wrongAt at_ value readPlace readValue readEpoch)) := by
  refine g_begin (by decide +kernel) (Nat.le_of_ble_eq_true rfl) ?_
  intro X Q hl hR hD hy hro hn C hin E
  subst hl; subst hD; subst hy
  replace C : gC X "SecretVaultModel" cX11_of (some .int) := C
  unfold F_X11_of at hf
  show gW X Q 0 0 ((wM (x_y X) a thrown g saved hasSaved coef nodes nodeMany isDeep codes details levelMany given paper papered tape taped wrongAt at_ value readPlace readValue readEpoch)) [(0, .ref (a 0)), (1, .int p0), (2, .int p1)] [] 0
  refine g_aload_n C 0 dX11_of_0 rfl ?_
  refine g_get C 0 1 rfl rfl wiX11 (by decide) mw_6_185 rfl rfl dX11_of_1 ?_
  refine g_bipush C (v := 38) dX11_of_4 (by decide) ?_
  refine g_bipush C (v := 124) dX11_of_6 (by decide) ?_
  refine g_iload_n C 1 dX11_of_8 rfl ?_
  refine g_imul C dX11_of_9 ?_
  refine g_iadd C dX11_of_10 ?_
  refine g_iload_n C 2 dX11_of_11 rfl ?_
  refine g_iadd C dX11_of_12 ?_
  obtain ⟨c1, hf⟩ := gg_of hf
  refine g_iald C 1 rfl (gi_in c1) dX11_of_13 ?_
  obtain rfl := Option.some.inj hf
  exact g_iret C E () dX11_of_14 rfl rfl rfl (Nat.le_of_ble_eq_true rfl) (Nat.le_of_ble_eq_true rfl)
/-! X11_sets -/
theorem hd_X11_sets : yX11_sets.cls ≠ "java/lang/invoke/MethodHandle" ∧ yX11_sets.cls ≠ "java/lang/invoke/VarHandle" ∧ (parseMethodDescriptor yX11_sets.desc).map (fun d => d.parameters.length) = some 3 := by decide +kernel
def F_X11_sets (g : Nat → Int32) (p0 : Int32) (p1 : Int32) (p2 : Int32) : Option ((Nat → Int32)) := gg (gi (((38 : Int32) + ((124 : Int32) * p0)) + p1) 534) (gl (upd g (Int32.toNatClampNeg (((38 : Int32) + ((124 : Int32) * p0)) + p1)) p2) fun f2 => some f2)
set_option maxRecDepth 100000 in
set_option maxHeartbeats 4000000 in
theorem c_X11_sets {l : Launch} {D : va_G} {cy : Nat → ClassId} {a : Nat → Nat} {thrown : Int32} {g : Nat → Int32} {saved : Nat → Int32} {hasSaved : Int32} {coef : Nat → Int32} {nodes : Nat → Int32} {nodeMany : Int32} {isDeep : Int32} {codes : Nat → Int32} {details : Nat → Int32} {levelMany : Int32} {given : Nat → Int32} {paper : Nat → Int32} {papered : Int32} {tape : Nat → Int32} {taped : Int32} {wrongAt : Int32} {at_ : Int32} {value : Int32} {readPlace : Int32} {readValue : Int32} {readEpoch : Int32} {p0 : Int32} {p1 : Int32} {p2 : Int32}  {val : (Nat → Int32)} (hf : F_X11_sets g p0 p1 p2 = some val) : gCt l D cy yX11_sets cX11_sets 4 none 0 0 0 0 [.ref (a 0), .int p0, .int p1, .int p2] [] ((wM cy a thrown g saved hasSaved coef nodes nodeMany isDeep codes details levelMany given paper papered tape taped wrongAt at_ value readPlace readValue readEpoch)) 0 (fun _ : Unit => none) (fun _ => (wM cy a thrown val saved hasSaved coef nodes nodeMany isDeep codes details levelMany given paper papered tape taped wrongAt at_ value readPlace readValue readEpoch)) := by
  refine g_begin (by decide +kernel) (Nat.le_of_ble_eq_true rfl) ?_
  intro X Q hl hR hD hy hro hn C hin E
  subst hl; subst hD; subst hy
  replace C : gC X "SecretVaultModel" cX11_sets none := C
  unfold F_X11_sets at hf
  show gW X Q 0 0 ((wM (x_y X) a thrown g saved hasSaved coef nodes nodeMany isDeep codes details levelMany given paper papered tape taped wrongAt at_ value readPlace readValue readEpoch)) [(0, .ref (a 0)), (1, .int p0), (2, .int p1), (3, .int p2)] [] 0
  refine g_aload_n C 0 dX11_sets_0 rfl ?_
  refine g_get C 0 1 rfl rfl wiX11 (by decide) mw_6_185 rfl rfl dX11_sets_1 ?_
  refine g_bipush C (v := 38) dX11_sets_4 (by decide) ?_
  refine g_bipush C (v := 124) dX11_sets_6 (by decide) ?_
  refine g_iload_n C 1 dX11_sets_8 rfl ?_
  refine g_imul C dX11_sets_9 ?_
  refine g_iadd C dX11_sets_10 ?_
  refine g_iload_n C 2 dX11_sets_11 rfl ?_
  refine g_iadd C dX11_sets_12 ?_
  refine g_iload_n C 3 dX11_sets_13 rfl ?_
  obtain ⟨c1, hf⟩ := gg_of hf
  obtain ⟨f2, ef2, hf⟩ := opt_let hf
  refine g_iast C (ws' := (wM (x_y X) a thrown f2 saved hasSaved coef nodes nodeMany isDeep codes details levelMany given paper papered tape taped wrongAt at_ value readPlace readValue readEpoch)) 1 rfl (gi_in c1) (by rw [ef2]; rfl) dX11_sets_14 ?_
  obtain rfl := Option.some.inj hf
  exact g_vret C E () dX11_sets_15 rfl rfl rfl (Nat.le_of_ble_eq_true rfl) (Nat.le_of_ble_eq_true rfl)
/-! X11_shareOf -/
theorem hd_X11_shareOf : yX11_shareOf.cls ≠ "java/lang/invoke/MethodHandle" ∧ yX11_shareOf.cls ≠ "java/lang/invoke/VarHandle" ∧ (parseMethodDescriptor yX11_shareOf.desc).map (fun d => d.parameters.length) = some 3 := by decide +kernel
def F_X11_shareOf (g : Nat → Int32) (p0 : Int32) (p1 : Int32) (p2 : Int32) : Option (Int32) := (F_X11_of g p0 (((52 : Int32) + ((3 : Int32) * (p1 - 1))) + p2)).bind fun v1 => some v1
set_option maxRecDepth 100000 in
set_option maxHeartbeats 4000000 in
theorem c_X11_shareOf {l : Launch} {D : va_G} {cy : Nat → ClassId} {a : Nat → Nat} {thrown : Int32} {g : Nat → Int32} {saved : Nat → Int32} {hasSaved : Int32} {coef : Nat → Int32} {nodes : Nat → Int32} {nodeMany : Int32} {isDeep : Int32} {codes : Nat → Int32} {details : Nat → Int32} {levelMany : Int32} {given : Nat → Int32} {paper : Nat → Int32} {papered : Int32} {tape : Nat → Int32} {taped : Int32} {wrongAt : Int32} {at_ : Int32} {value : Int32} {readPlace : Int32} {readValue : Int32} {readEpoch : Int32} {p0 : Int32} {p1 : Int32} {p2 : Int32}  {val : Int32} (hf : F_X11_shareOf g p0 p1 p2 = some val) : gCt l D cy yX11_shareOf cX11_shareOf 4 (some .int) 1 22 0 0 [.ref (a 0), .int p0, .int p1, .int p2] [] ((wM cy a thrown g saved hasSaved coef nodes nodeMany isDeep codes details levelMany given paper papered tape taped wrongAt at_ value readPlace readValue readEpoch)) 0 (fun _ : Unit => some (.int val)) (fun _ => (wM cy a thrown g saved hasSaved coef nodes nodeMany isDeep codes details levelMany given paper papered tape taped wrongAt at_ value readPlace readValue readEpoch)) := by
  refine g_begin (by decide +kernel) (Nat.le_of_ble_eq_true rfl) ?_
  intro X Q hl hR hD hy hro hn C hin E
  subst hl; subst hD; subst hy
  replace C : gC X "SecretVaultModel" cX11_shareOf (some .int) := C
  unfold F_X11_shareOf at hf
  show gW X Q 0 0 ((wM (x_y X) a thrown g saved hasSaved coef nodes nodeMany isDeep codes details levelMany given paper papered tape taped wrongAt at_ value readPlace readValue readEpoch)) [(0, .ref (a 0)), (1, .int p0), (2, .int p1), (3, .int p2)] [] 0
  refine g_aload_n C 0 dX11_shareOf_0 rfl ?_
  refine g_iload_n C 1 dX11_shareOf_1 rfl ?_
  refine g_bipush C (v := 52) dX11_shareOf_2 (by decide) ?_
  refine g_iconst C (v := 3) dX11_shareOf_4 (by decide) ?_
  refine g_iload_n C 2 dX11_shareOf_5 rfl ?_
  refine g_iconst C (v := 1) dX11_shareOf_6 (by decide) ?_
  refine g_isub C dX11_shareOf_7 ?_
  refine g_imul C dX11_shareOf_8 ?_
  refine g_iadd C dX11_shareOf_9 ?_
  refine g_iload_n C 3 dX11_shareOf_10 rfl ?_
  refine g_iadd C dX11_shareOf_11 ?_
  obtain ⟨v1, h2, hf⟩ := opt_bind hf
  refine g_callV C (c_X11_of (l := x_l X) (D := x_D X) (cy := x_y X) (a := a) (thrown := thrown) (g := g) (saved := saved) (hasSaved := hasSaved) (coef := coef) (nodes := nodes) (nodeMany := nodeMany) (isDeep := isDeep) (codes := codes) (details := details) (levelMany := levelMany) (given := given) (paper := paper) (papered := papered) (tape := tape) (taped := taped) (wrongAt := wrongAt) (at_ := at_) (value := value) (readPlace := readPlace) (readValue := readValue) (readEpoch := readEpoch) (p0 := p0) (p1 := ((52 : Int32) + ((3 : Int32) * (p1 - 1))) + p2) h2) (As := [.int p0, .int (((52 : Int32) + ((3 : Int32) * (p1 - 1))) + p2)]) (rest := []) (wr := []) (ws' := fun _ => (wM (x_y X) a thrown g saved hasSaved coef nodes nodeMany isDeep codes details levelMany given paper papered tape taped wrongAt at_ value readPlace readValue readEpoch)) (st' := fun _ => [.int v1]) (ci := 12) 2 0 ⟨_, rfl⟩ rfl rfl mw_7_69 mw_1_9 mw_7_66 mw_7_68 mp_35 hd_X11_of rfl (g_rm hR rfl rfl) [0, 1, 2, 3, 4, 5, 6, 7, 8, 9] [] [0, 1, 2, 3, 4, 5, 6, 7, 8, 9] ⟨rfl, rfl, rfl, rfl, by decide, gRoIn_0, rfl, fun _ => rfl⟩ rfl (Nat.le_of_ble_eq_true rfl) dX11_shareOf_12 (g_rc hR (Nat.le_of_ble_eq_true rfl) (Nat.le_of_ble_eq_true rfl)) (ck' := 0) (sk' := 0) rfl rfl (fun _ => rfl) (fun _ _ => ?_) (fun _ hx => absurd rfl hx)
  obtain rfl := Option.some.inj hf
  exact g_iret C E () dX11_shareOf_15 rfl rfl rfl (Nat.le_of_ble_eq_true rfl) (Nat.le_of_ble_eq_true rfl)
/-! X11_setsShare -/
theorem hd_X11_setsShare : yX11_setsShare.cls ≠ "java/lang/invoke/MethodHandle" ∧ yX11_setsShare.cls ≠ "java/lang/invoke/VarHandle" ∧ (parseMethodDescriptor yX11_setsShare.desc).map (fun d => d.parameters.length) = some 4 := by decide +kernel
def F_X11_setsShare (g : Nat → Int32) (p0 : Int32) (p1 : Int32) (p2 : Int32) (p3 : Int32) : Option ((Nat → Int32)) := (F_X11_sets g p0 ((52 : Int32) + ((3 : Int32) * (p1 - 1))) 1).bind fun v1 => (F_X11_sets v1 p0 (((52 : Int32) + ((3 : Int32) * (p1 - 1))) + 1) p2).bind fun v3 => (F_X11_sets v3 p0 (((52 : Int32) + ((3 : Int32) * (p1 - 1))) + 2) p3).bind fun v5 => some v5
set_option maxRecDepth 100000 in
set_option maxHeartbeats 4000000 in
theorem c_X11_setsShare {l : Launch} {D : va_G} {cy : Nat → ClassId} {a : Nat → Nat} {thrown : Int32} {g : Nat → Int32} {saved : Nat → Int32} {hasSaved : Int32} {coef : Nat → Int32} {nodes : Nat → Int32} {nodeMany : Int32} {isDeep : Int32} {codes : Nat → Int32} {details : Nat → Int32} {levelMany : Int32} {given : Nat → Int32} {paper : Nat → Int32} {papered : Int32} {tape : Nat → Int32} {taped : Int32} {wrongAt : Int32} {at_ : Int32} {value : Int32} {readPlace : Int32} {readValue : Int32} {readEpoch : Int32} {p0 : Int32} {p1 : Int32} {p2 : Int32} {p3 : Int32}  {val : (Nat → Int32)} (hf : F_X11_setsShare g p0 p1 p2 p3 = some val) : gCt l D cy yX11_setsShare cX11_setsShare 5 none 1 23 0 0 [.ref (a 0), .int p0, .int p1, .int p2, .int p3] [] ((wM cy a thrown g saved hasSaved coef nodes nodeMany isDeep codes details levelMany given paper papered tape taped wrongAt at_ value readPlace readValue readEpoch)) 0 (fun _ : Unit => none) (fun _ => (wM cy a thrown val saved hasSaved coef nodes nodeMany isDeep codes details levelMany given paper papered tape taped wrongAt at_ value readPlace readValue readEpoch)) := by
  refine g_begin (by decide +kernel) (Nat.le_of_ble_eq_true rfl) ?_
  intro X Q hl hR hD hy hro hn C hin E
  subst hl; subst hD; subst hy
  replace C : gC X "SecretVaultModel" cX11_setsShare none := C
  unfold F_X11_setsShare at hf
  show gW X Q 0 0 ((wM (x_y X) a thrown g saved hasSaved coef nodes nodeMany isDeep codes details levelMany given paper papered tape taped wrongAt at_ value readPlace readValue readEpoch)) [(0, .ref (a 0)), (1, .int p0), (2, .int p1), (3, .int p2), (4, .int p3)] [] 0
  refine g_aload_n C 0 dX11_setsShare_0 rfl ?_
  refine g_iload_n C 1 dX11_setsShare_1 rfl ?_
  refine g_bipush C (v := 52) dX11_setsShare_2 (by decide) ?_
  refine g_iconst C (v := 3) dX11_setsShare_4 (by decide) ?_
  refine g_iload_n C 2 dX11_setsShare_5 rfl ?_
  refine g_iconst C (v := 1) dX11_setsShare_6 (by decide) ?_
  refine g_isub C dX11_setsShare_7 ?_
  refine g_imul C dX11_setsShare_8 ?_
  refine g_iadd C dX11_setsShare_9 ?_
  refine g_iconst C (v := 1) dX11_setsShare_10 (by decide) ?_
  obtain ⟨v1, h2, hf⟩ := opt_bind hf
  refine g_callV C (c_X11_sets (l := x_l X) (D := x_D X) (cy := x_y X) (a := a) (thrown := thrown) (g := g) (saved := saved) (hasSaved := hasSaved) (coef := coef) (nodes := nodes) (nodeMany := nodeMany) (isDeep := isDeep) (codes := codes) (details := details) (levelMany := levelMany) (given := given) (paper := paper) (papered := papered) (tape := tape) (taped := taped) (wrongAt := wrongAt) (at_ := at_) (value := value) (readPlace := readPlace) (readValue := readValue) (readEpoch := readEpoch) (p0 := p0) (p1 := (52 : Int32) + ((3 : Int32) * (p1 - 1))) (p2 := 1) h2) (As := [.int p0, .int ((52 : Int32) + ((3 : Int32) * (p1 - 1))), .int 1]) (rest := []) (wr := []) (ws' := fun _ => (wM (x_y X) a thrown v1 saved hasSaved coef nodes nodeMany isDeep codes details levelMany given paper papered tape taped wrongAt at_ value readPlace readValue readEpoch)) (st' := fun _ => []) (ci := 12) 3 0 ⟨_, rfl⟩ rfl rfl mw_7_91 mw_1_9 mw_7_88 mw_7_90 mp_38 hd_X11_sets rfl (g_rm hR rfl rfl) [0, 1, 2, 3, 4, 5, 6, 7, 8, 9] [] [0, 1, 2, 3, 4, 5, 6, 7, 8, 9] ⟨rfl, rfl, rfl, rfl, by decide, gRoIn_0, rfl, fun _ => rfl⟩ rfl (Nat.le_of_ble_eq_true rfl) dX11_setsShare_11 (g_rc hR (Nat.le_of_ble_eq_true rfl) (Nat.le_of_ble_eq_true rfl)) (ck' := 0) (sk' := 0) rfl rfl (fun _ => rfl) (fun _ _ => ?_) (fun _ hx => absurd rfl hx)
  refine g_aload_n C 0 dX11_setsShare_14 rfl ?_
  refine g_iload_n C 1 dX11_setsShare_15 rfl ?_
  refine g_bipush C (v := 52) dX11_setsShare_16 (by decide) ?_
  refine g_iconst C (v := 3) dX11_setsShare_18 (by decide) ?_
  refine g_iload_n C 2 dX11_setsShare_19 rfl ?_
  refine g_iconst C (v := 1) dX11_setsShare_20 (by decide) ?_
  refine g_isub C dX11_setsShare_21 ?_
  refine g_imul C dX11_setsShare_22 ?_
  refine g_iadd C dX11_setsShare_23 ?_
  refine g_iconst C (v := 1) dX11_setsShare_24 (by decide) ?_
  refine g_iadd C dX11_setsShare_25 ?_
  refine g_iload_n C 3 dX11_setsShare_26 rfl ?_
  obtain ⟨v3, h4, hf⟩ := opt_bind hf
  refine g_callV C (c_X11_sets (l := x_l X) (D := x_D X) (cy := x_y X) (a := a) (thrown := thrown) (g := v1) (saved := saved) (hasSaved := hasSaved) (coef := coef) (nodes := nodes) (nodeMany := nodeMany) (isDeep := isDeep) (codes := codes) (details := details) (levelMany := levelMany) (given := given) (paper := paper) (papered := papered) (tape := tape) (taped := taped) (wrongAt := wrongAt) (at_ := at_) (value := value) (readPlace := readPlace) (readValue := readValue) (readEpoch := readEpoch) (p0 := p0) (p1 := ((52 : Int32) + ((3 : Int32) * (p1 - 1))) + 1) (p2 := p2) h4) (As := [.int p0, .int (((52 : Int32) + ((3 : Int32) * (p1 - 1))) + 1), .int p2]) (rest := []) (wr := []) (ws' := fun _ => (wM (x_y X) a thrown v3 saved hasSaved coef nodes nodeMany isDeep codes details levelMany given paper papered tape taped wrongAt at_ value readPlace readValue readEpoch)) (st' := fun _ => []) (ci := 12) 3 0 ⟨_, rfl⟩ rfl rfl mw_7_91 mw_1_9 mw_7_88 mw_7_90 mp_38 hd_X11_sets rfl (g_rm hR rfl rfl) [0, 1, 2, 3, 4, 5, 6, 7, 8, 9] [] [0, 1, 2, 3, 4, 5, 6, 7, 8, 9] ⟨rfl, rfl, rfl, rfl, by decide, gRoIn_0, rfl, fun _ => rfl⟩ rfl (Nat.le_of_ble_eq_true rfl) dX11_setsShare_27 (g_rc hR (Nat.le_of_ble_eq_true rfl) (Nat.le_of_ble_eq_true rfl)) (ck' := 0) (sk' := 0) rfl rfl (fun _ => rfl) (fun _ _ => ?_) (fun _ hx => absurd rfl hx)
  refine g_aload_n C 0 dX11_setsShare_30 rfl ?_
  refine g_iload_n C 1 dX11_setsShare_31 rfl ?_
  refine g_bipush C (v := 52) dX11_setsShare_32 (by decide) ?_
  refine g_iconst C (v := 3) dX11_setsShare_34 (by decide) ?_
  refine g_iload_n C 2 dX11_setsShare_35 rfl ?_
  refine g_iconst C (v := 1) dX11_setsShare_36 (by decide) ?_
  refine g_isub C dX11_setsShare_37 ?_
  refine g_imul C dX11_setsShare_38 ?_
  refine g_iadd C dX11_setsShare_39 ?_
  refine g_iconst C (v := 2) dX11_setsShare_40 (by decide) ?_
  refine g_iadd C dX11_setsShare_41 ?_
  refine g_iload C 4 dX11_setsShare_42 rfl ?_
  obtain ⟨v5, h6, hf⟩ := opt_bind hf
  refine g_callV C (c_X11_sets (l := x_l X) (D := x_D X) (cy := x_y X) (a := a) (thrown := thrown) (g := v3) (saved := saved) (hasSaved := hasSaved) (coef := coef) (nodes := nodes) (nodeMany := nodeMany) (isDeep := isDeep) (codes := codes) (details := details) (levelMany := levelMany) (given := given) (paper := paper) (papered := papered) (tape := tape) (taped := taped) (wrongAt := wrongAt) (at_ := at_) (value := value) (readPlace := readPlace) (readValue := readValue) (readEpoch := readEpoch) (p0 := p0) (p1 := ((52 : Int32) + ((3 : Int32) * (p1 - 1))) + 2) (p2 := p3) h6) (As := [.int p0, .int (((52 : Int32) + ((3 : Int32) * (p1 - 1))) + 2), .int p3]) (rest := []) (wr := []) (ws' := fun _ => (wM (x_y X) a thrown v5 saved hasSaved coef nodes nodeMany isDeep codes details levelMany given paper papered tape taped wrongAt at_ value readPlace readValue readEpoch)) (st' := fun _ => []) (ci := 12) 3 0 ⟨_, rfl⟩ rfl rfl mw_7_91 mw_1_9 mw_7_88 mw_7_90 mp_38 hd_X11_sets rfl (g_rm hR rfl rfl) [0, 1, 2, 3, 4, 5, 6, 7, 8, 9] [] [0, 1, 2, 3, 4, 5, 6, 7, 8, 9] ⟨rfl, rfl, rfl, rfl, by decide, gRoIn_0, rfl, fun _ => rfl⟩ rfl (Nat.le_of_ble_eq_true rfl) dX11_setsShare_44 (g_rc hR (Nat.le_of_ble_eq_true rfl) (Nat.le_of_ble_eq_true rfl)) (ck' := 0) (sk' := 0) rfl rfl (fun _ => rfl) (fun _ _ => ?_) (fun _ hx => absurd rfl hx)
  obtain rfl := Option.some.inj hf
  exact g_vret C E () dX11_setsShare_47 rfl rfl rfl (Nat.le_of_ble_eq_true rfl) (Nat.le_of_ble_eq_true rfl)
/-! X11_removes -/
theorem hd_X11_removes : yX11_removes.cls ≠ "java/lang/invoke/MethodHandle" ∧ yX11_removes.cls ≠ "java/lang/invoke/VarHandle" ∧ (parseMethodDescriptor yX11_removes.desc).map (fun d => d.parameters.length) = some 2 := by decide +kernel
def F_X11_removes_L2 (p0 : Int32) (p1 : Int32)  : Nat → (Nat → Int32) → Int32 → Option ((Nat → Int32))
  | 0, _, _ => none
  | n + 1, g_2, l3_2 => if 3 ≤ l3_2 then (some g_2) else ((F_X11_sets g_2 p0 (((52 : Int32) + ((3 : Int32) * (p1 - 1))) + l3_2) 0).bind fun v2 => F_X11_removes_L2 p0 p1 n v2 (l3_2 + 1))
def F_X11_removes (g : Nat → Int32) (p0 : Int32) (p1 : Int32) : Option ((Nat → Int32)) := F_X11_removes_L2 p0 p1 1000 g 0
set_option maxRecDepth 100000 in
set_option maxHeartbeats 4000000 in
theorem c_X11_removes {l : Launch} {D : va_G} {cy : Nat → ClassId} {a : Nat → Nat} {thrown : Int32} {g : Nat → Int32} {saved : Nat → Int32} {hasSaved : Int32} {coef : Nat → Int32} {nodes : Nat → Int32} {nodeMany : Int32} {isDeep : Int32} {codes : Nat → Int32} {details : Nat → Int32} {levelMany : Int32} {given : Nat → Int32} {paper : Nat → Int32} {papered : Int32} {tape : Nat → Int32} {taped : Int32} {wrongAt : Int32} {at_ : Int32} {value : Int32} {readPlace : Int32} {readValue : Int32} {readEpoch : Int32} {p0 : Int32} {p1 : Int32}  {val : (Nat → Int32)} (hf : F_X11_removes g p0 p1 = some val) : gCt l D cy yX11_removes cX11_removes 4 none 1 23 0 0 [.ref (a 0), .int p0, .int p1] [] ((wM cy a thrown g saved hasSaved coef nodes nodeMany isDeep codes details levelMany given paper papered tape taped wrongAt at_ value readPlace readValue readEpoch)) 0 (fun _ : Unit => none) (fun _ => (wM cy a thrown val saved hasSaved coef nodes nodeMany isDeep codes details levelMany given paper papered tape taped wrongAt at_ value readPlace readValue readEpoch)) := by
  refine g_begin (by decide +kernel) (Nat.le_of_ble_eq_true rfl) ?_
  intro X Q hl hR hD hy hro hn C hin E
  subst hl; subst hD; subst hy
  replace C : gC X "SecretVaultModel" cX11_removes none := C
  unfold F_X11_removes at hf
  have H2 : ∀ (n2 : Nat), ∀ (g_2 : Nat → Int32) (l3_2 : Int32), F_X11_removes_L2 p0 p1 n2 g_2 l3_2 = some val → gW X Q 0 0 ((wM (x_y X) a thrown g_2 saved hasSaved coef nodes nodeMany isDeep codes details levelMany given paper papered tape taped wrongAt at_ value readPlace readValue readEpoch)) [(0, .ref (a 0)), (1, .int p0), (2, .int p1), (3, .int l3_2)] [] 2 := by
    intro n2
    induction n2 with
    | zero => intros; rename_i hf; cases hf
    | succ n2 ih =>
      intro g_2 l3_2 hf
      have H2 := ih
      rw [F_X11_removes_L2] at hf
      refine g_iload_n C 3 dX11_removes_2 rfl ?_
      refine g_iconst C (v := 3) dX11_removes_3 (by decide) ?_
      refine g_icmp_ge C 29 dX11_removes_4 (by decide) (fun c1 => ?_) (fun c1 => ?_)
      · have hf := opt_pos c1 hf
        obtain rfl := Option.some.inj hf
        exact g_vret C E () dX11_removes_29 rfl rfl rfl (Nat.le_of_ble_eq_true rfl) (Nat.le_of_ble_eq_true rfl)
      · have hf := opt_neg c1 hf
        refine g_aload_n C 0 dX11_removes_7 rfl ?_
        refine g_iload_n C 1 dX11_removes_8 rfl ?_
        refine g_bipush C (v := 52) dX11_removes_9 (by decide) ?_
        refine g_iconst C (v := 3) dX11_removes_11 (by decide) ?_
        refine g_iload_n C 2 dX11_removes_12 rfl ?_
        refine g_iconst C (v := 1) dX11_removes_13 (by decide) ?_
        refine g_isub C dX11_removes_14 ?_
        refine g_imul C dX11_removes_15 ?_
        refine g_iadd C dX11_removes_16 ?_
        refine g_iload_n C 3 dX11_removes_17 rfl ?_
        refine g_iadd C dX11_removes_18 ?_
        refine g_iconst C (v := 0) dX11_removes_19 (by decide) ?_
        obtain ⟨v2, h3, hf⟩ := opt_bind hf
        refine g_callV C (c_X11_sets (l := x_l X) (D := x_D X) (cy := x_y X) (a := a) (thrown := thrown) (g := g_2) (saved := saved) (hasSaved := hasSaved) (coef := coef) (nodes := nodes) (nodeMany := nodeMany) (isDeep := isDeep) (codes := codes) (details := details) (levelMany := levelMany) (given := given) (paper := paper) (papered := papered) (tape := tape) (taped := taped) (wrongAt := wrongAt) (at_ := at_) (value := value) (readPlace := readPlace) (readValue := readValue) (readEpoch := readEpoch) (p0 := p0) (p1 := ((52 : Int32) + ((3 : Int32) * (p1 - 1))) + l3_2) (p2 := 0) h3) (As := [.int p0, .int (((52 : Int32) + ((3 : Int32) * (p1 - 1))) + l3_2), .int 0]) (rest := []) (wr := []) (ws' := fun _ => (wM (x_y X) a thrown v2 saved hasSaved coef nodes nodeMany isDeep codes details levelMany given paper papered tape taped wrongAt at_ value readPlace readValue readEpoch)) (st' := fun _ => []) (ci := 12) 3 0 ⟨_, rfl⟩ rfl rfl mw_7_91 mw_1_9 mw_7_88 mw_7_90 mp_38 hd_X11_sets rfl (g_rm hR rfl rfl) [0, 1, 2, 3, 4, 5, 6, 7, 8, 9] [] [0, 1, 2, 3, 4, 5, 6, 7, 8, 9] ⟨rfl, rfl, rfl, rfl, by decide, gRoIn_0, rfl, fun _ => rfl⟩ rfl (Nat.le_of_ble_eq_true rfl) dX11_removes_20 (g_rc hR (Nat.le_of_ble_eq_true rfl) (Nat.le_of_ble_eq_true rfl)) (ck' := 0) (sk' := 0) rfl rfl (fun _ => rfl) (fun _ _ => ?_) (fun _ hx => absurd rfl hx)
        refine g_iinc C 3 (v := l3_2 + 1) (lv' := [(3, .int (l3_2 + 1)), (0, .ref (a 0)), (1, .int p0), (2, .int p1)]) dX11_removes_23 rfl rfl (g_nlt hn rfl) rfl ?_
        refine g_goto C 2 dX11_removes_26 (by decide) ?_
        refine gW.locals [1, 2, 3, 0] rfl ?_
        exact H2 v2 (l3_2 + 1) hf
  show gW X Q 0 0 ((wM (x_y X) a thrown g saved hasSaved coef nodes nodeMany isDeep codes details levelMany given paper papered tape taped wrongAt at_ value readPlace readValue readEpoch)) [(0, .ref (a 0)), (1, .int p0), (2, .int p1)] [] 0
  refine g_iconst C (v := 0) dX11_removes_0 (by decide) ?_
  refine g_istore_n C (lv' := [(3, .int 0), (0, .ref (a 0)), (1, .int p0), (2, .int p1)]) dX11_removes_1 (g_nlt hn rfl) rfl ?_
  refine gW.locals [1, 2, 3, 0] rfl ?_
  exact H2 1000 g 0 hf
/-! X11_hasShare -/
theorem hd_X11_hasShare : yX11_hasShare.cls ≠ "java/lang/invoke/MethodHandle" ∧ yX11_hasShare.cls ≠ "java/lang/invoke/VarHandle" ∧ (parseMethodDescriptor yX11_hasShare.desc).map (fun d => d.parameters.length) = some 2 := by decide +kernel
def F_X11_hasShare_L16   (s0_16 : Int32) : Option (Int32) := gg (gnar .boolean s0_16) (some s0_16)
def F_X11_hasShare (g : Nat → Int32) (p0 : Int32) (p1 : Int32) : Option (Int32) := (F_X11_shareOf g p0 p1 0).bind fun v1 => if v1 = 1 then (F_X11_hasShare_L16 1) else (F_X11_hasShare_L16 0)
set_option maxRecDepth 100000 in
set_option maxHeartbeats 4000000 in
theorem c_X11_hasShare {l : Launch} {D : va_G} {cy : Nat → ClassId} {a : Nat → Nat} {thrown : Int32} {g : Nat → Int32} {saved : Nat → Int32} {hasSaved : Int32} {coef : Nat → Int32} {nodes : Nat → Int32} {nodeMany : Int32} {isDeep : Int32} {codes : Nat → Int32} {details : Nat → Int32} {levelMany : Int32} {given : Nat → Int32} {paper : Nat → Int32} {papered : Int32} {tape : Nat → Int32} {taped : Int32} {wrongAt : Int32} {at_ : Int32} {value : Int32} {readPlace : Int32} {readValue : Int32} {readEpoch : Int32} {p0 : Int32} {p1 : Int32}  {val : Int32} (hf : F_X11_hasShare g p0 p1 = some val) : gCt l D cy yX11_hasShare cX11_hasShare 3 (some .boolean) 2 45 0 0 [.ref (a 0), .int p0, .int p1] [] ((wM cy a thrown g saved hasSaved coef nodes nodeMany isDeep codes details levelMany given paper papered tape taped wrongAt at_ value readPlace readValue readEpoch)) 0 (fun _ : Unit => some (.int val)) (fun _ => (wM cy a thrown g saved hasSaved coef nodes nodeMany isDeep codes details levelMany given paper papered tape taped wrongAt at_ value readPlace readValue readEpoch)) := by
  refine g_begin (by decide +kernel) (Nat.le_of_ble_eq_true rfl) ?_
  intro X Q hl hR hD hy hro hn C hin E
  subst hl; subst hD; subst hy
  replace C : gC X "SecretVaultModel" cX11_hasShare (some .boolean) := C
  unfold F_X11_hasShare at hf
  have H16 : ∀ (s0_16 : Int32), F_X11_hasShare_L16 s0_16 = some val → gW X Q 0 0 ((wM (x_y X) a thrown g saved hasSaved coef nodes nodeMany isDeep codes details levelMany given paper papered tape taped wrongAt at_ value readPlace readValue readEpoch)) [(0, .ref (a 0)), (1, .int p0), (2, .int p1)] [.int s0_16] 16 := by
    intro s0_16 hf
    unfold F_X11_hasShare_L16 at hf
    obtain ⟨c4, hf⟩ := gg_of hf
    obtain rfl := Option.some.inj hf
    exact g_zret C E () (gnar_of c4) dX11_hasShare_16 rfl rfl rfl (Nat.le_of_ble_eq_true rfl) (Nat.le_of_ble_eq_true rfl)
  show gW X Q 0 0 ((wM (x_y X) a thrown g saved hasSaved coef nodes nodeMany isDeep codes details levelMany given paper papered tape taped wrongAt at_ value readPlace readValue readEpoch)) [(0, .ref (a 0)), (1, .int p0), (2, .int p1)] [] 0
  refine g_aload_n C 0 dX11_hasShare_0 rfl ?_
  refine g_iload_n C 1 dX11_hasShare_1 rfl ?_
  refine g_iload_n C 2 dX11_hasShare_2 rfl ?_
  refine g_iconst C (v := 0) dX11_hasShare_3 (by decide) ?_
  obtain ⟨v1, h2, hf⟩ := opt_bind hf
  refine g_callV C (c_X11_shareOf (l := x_l X) (D := x_D X) (cy := x_y X) (a := a) (thrown := thrown) (g := g) (saved := saved) (hasSaved := hasSaved) (coef := coef) (nodes := nodes) (nodeMany := nodeMany) (isDeep := isDeep) (codes := codes) (details := details) (levelMany := levelMany) (given := given) (paper := paper) (papered := papered) (tape := tape) (taped := taped) (wrongAt := wrongAt) (at_ := at_) (value := value) (readPlace := readPlace) (readValue := readValue) (readEpoch := readEpoch) (p0 := p0) (p1 := p1) (p2 := 0) h2) (As := [.int p0, .int p1, .int 0]) (rest := []) (wr := []) (ws' := fun _ => (wM (x_y X) a thrown g saved hasSaved coef nodes nodeMany isDeep codes details levelMany given paper papered tape taped wrongAt at_ value readPlace readValue readEpoch)) (st' := fun _ => [.int v1]) (ci := 12) 3 0 ⟨_, rfl⟩ rfl rfl mw_7_65 mw_1_9 mw_7_62 mw_7_64 mp_34 hd_X11_shareOf rfl (g_rm hR rfl rfl) [0, 1, 2, 3, 4, 5, 6, 7, 8, 9] [] [0, 1, 2, 3, 4, 5, 6, 7, 8, 9] ⟨rfl, rfl, rfl, rfl, by decide, gRoIn_0, rfl, fun _ => rfl⟩ rfl (Nat.le_of_ble_eq_true rfl) dX11_hasShare_4 (g_rc hR (Nat.le_of_ble_eq_true rfl) (Nat.le_of_ble_eq_true rfl)) (ck' := 0) (sk' := 0) rfl rfl (fun _ => rfl) (fun _ _ => ?_) (fun _ hx => absurd rfl hx)
  refine g_iconst C (v := 1) dX11_hasShare_7 (by decide) ?_
  refine g_icmp_ne C 15 dX11_hasShare_8 (by decide) (fun c3 => ?_) (fun c3 => ?_)
  · have hf := opt_neg c3 hf
    refine g_iconst C (v := 0) dX11_hasShare_15 (by decide) ?_
    exact H16 0 hf
  · have hf := opt_pos c3 hf
    refine g_iconst C (v := 1) dX11_hasShare_11 (by decide) ?_
    refine g_goto C 16 dX11_hasShare_12 (by decide) ?_
    exact H16 1 hf
/-! X11_owner -/
theorem hd_X11_owner : yX11_owner.cls ≠ "java/lang/invoke/MethodHandle" ∧ yX11_owner.cls ≠ "java/lang/invoke/VarHandle" ∧ (parseMethodDescriptor yX11_owner.desc).map (fun d => d.parameters.length) = some 1 := by decide +kernel
def F_X11_owner (p0 : Int32) : Option (Int32) := some ((p0 - 1) / 3)
set_option maxRecDepth 100000 in
set_option maxHeartbeats 4000000 in
theorem c_X11_owner {l : Launch} {D : va_G} {cy : Nat → ClassId}   {p0 : Int32}  {val : Int32} (hf : F_X11_owner p0 = some val) : gCt l D cy yX11_owner cX11_owner 1 (some .int) 0 0 0 0 [.int p0] [] ([]) 0 (fun _ : Unit => some (.int val)) (fun _ => []) := by
  refine g_begin (by decide +kernel) (Nat.le_of_ble_eq_true rfl) ?_
  intro X Q hl hR hD hy hro hn C hin E
  subst hl; subst hD; subst hy
  replace C : gC X "SecretVaultModel" cX11_owner (some .int) := C
  unfold F_X11_owner at hf
  show gW X Q 0 0 ([]) [(0, .int p0)] [] 0
  refine g_iload_n C 0 dX11_owner_0 rfl ?_
  refine g_iconst C (v := 1) dX11_owner_1 (by decide) ?_
  refine g_isub C dX11_owner_2 ?_
  refine g_iconst C (v := 3) dX11_owner_3 (by decide) ?_
  refine g_idiv C dX11_owner_4 (by decide) ?_
  obtain rfl := Option.some.inj hf
  exact g_iret C E () dX11_owner_5 rfl rfl rfl (Nat.le_of_ble_eq_true rfl) (Nat.le_of_ble_eq_true rfl)
/-! X11_isUsed -/
theorem hd_X11_isUsed : yX11_isUsed.cls ≠ "java/lang/invoke/MethodHandle" ∧ yX11_isUsed.cls ≠ "java/lang/invoke/VarHandle" ∧ (parseMethodDescriptor yX11_isUsed.desc).map (fun d => d.parameters.length) = some 1 := by decide +kernel
def F_X11_isUsed_L24   (s0_24 : Int32) : Option (Int32) := gg (gnar .boolean s0_24) (some s0_24)
def F_X11_isUsed (g : Nat → Int32) (p0 : Int32) : Option (Int32) := (F_X11_owner p0).bind fun v1 => gg (gi ((1 : Int32) + v1) 534) (if (g (Int32.toNatClampNeg ((1 : Int32) + v1))) ≤ ((p0 - 1) - (p0 - 1) / 3 * 3) then (F_X11_isUsed_L24 0) else (F_X11_isUsed_L24 1))
set_option maxRecDepth 100000 in
set_option maxHeartbeats 4000000 in
theorem c_X11_isUsed {l : Launch} {D : va_G} {cy : Nat → ClassId} {a : Nat → Nat} {thrown : Int32} {g : Nat → Int32} {saved : Nat → Int32} {hasSaved : Int32} {coef : Nat → Int32} {nodes : Nat → Int32} {nodeMany : Int32} {isDeep : Int32} {codes : Nat → Int32} {details : Nat → Int32} {levelMany : Int32} {given : Nat → Int32} {paper : Nat → Int32} {papered : Int32} {tape : Nat → Int32} {taped : Int32} {wrongAt : Int32} {at_ : Int32} {value : Int32} {readPlace : Int32} {readValue : Int32} {readEpoch : Int32} {p0 : Int32}  {val : Int32} (hf : F_X11_isUsed g p0 = some val) : gCt l D cy yX11_isUsed cX11_isUsed 2 (some .boolean) 1 20 0 0 [.ref (a 0), .int p0] [] ((wM cy a thrown g saved hasSaved coef nodes nodeMany isDeep codes details levelMany given paper papered tape taped wrongAt at_ value readPlace readValue readEpoch)) 0 (fun _ : Unit => some (.int val)) (fun _ => (wM cy a thrown g saved hasSaved coef nodes nodeMany isDeep codes details levelMany given paper papered tape taped wrongAt at_ value readPlace readValue readEpoch)) := by
  refine g_begin (by decide +kernel) (Nat.le_of_ble_eq_true rfl) ?_
  intro X Q hl hR hD hy hro hn C hin E
  subst hl; subst hD; subst hy
  replace C : gC X "SecretVaultModel" cX11_isUsed (some .boolean) := C
  unfold F_X11_isUsed at hf
  have H24 : ∀ (s0_24 : Int32), F_X11_isUsed_L24 s0_24 = some val → gW X Q 0 0 ((wM (x_y X) a thrown g saved hasSaved coef nodes nodeMany isDeep codes details levelMany given paper papered tape taped wrongAt at_ value readPlace readValue readEpoch)) [(0, .ref (a 0)), (1, .int p0)] [.int s0_24] 24 := by
    intro s0_24 hf
    unfold F_X11_isUsed_L24 at hf
    obtain ⟨c5, hf⟩ := gg_of hf
    obtain rfl := Option.some.inj hf
    exact g_zret C E () (gnar_of c5) dX11_isUsed_24 rfl rfl rfl (Nat.le_of_ble_eq_true rfl) (Nat.le_of_ble_eq_true rfl)
  show gW X Q 0 0 ((wM (x_y X) a thrown g saved hasSaved coef nodes nodeMany isDeep codes details levelMany given paper papered tape taped wrongAt at_ value readPlace readValue readEpoch)) [(0, .ref (a 0)), (1, .int p0)] [] 0
  refine g_iload_n C 1 dX11_isUsed_0 rfl ?_
  refine g_iconst C (v := 1) dX11_isUsed_1 (by decide) ?_
  refine g_isub C dX11_isUsed_2 ?_
  refine g_iconst C (v := 3) dX11_isUsed_3 (by decide) ?_
  refine g_irem C dX11_isUsed_4 (by decide) ?_
  refine g_aload_n C 0 dX11_isUsed_5 rfl ?_
  refine g_get C 0 1 rfl rfl wiX11 (by decide) mw_6_185 rfl rfl dX11_isUsed_6 ?_
  refine g_iconst C (v := 1) dX11_isUsed_9 (by decide) ?_
  refine g_iload_n C 1 dX11_isUsed_10 rfl ?_
  obtain ⟨v1, h2, hf⟩ := opt_bind hf
  refine g_callS C (c_X11_owner (l := x_l X) (D := x_D X) (cy := x_y X) (p0 := p0) h2) (As := [.int p0]) (rest := [.int 1, .ref (a 1), .int ((p0 - 1) - (p0 - 1) / 3 * 3)]) (wr := (wM (x_y X) a thrown g saved hasSaved coef nodes nodeMany isDeep codes details levelMany given paper papered tape taped wrongAt at_ value readPlace readValue readEpoch)) (ws' := fun _ => (wM (x_y X) a thrown g saved hasSaved coef nodes nodeMany isDeep codes details levelMany given paper papered tape taped wrongAt at_ value readPlace readValue readEpoch)) (st' := fun _ => [.int v1, .int 1, .ref (a 1), .int ((p0 - 1) - (p0 - 1) / 3 * 3)]) 1 mw_7_102 mw_1_9 mw_7_100 mw_7_101 hd_X11_owner rfl (g_rm hR rfl rfl) [] [0, 1, 2, 3, 4, 5, 6, 7, 8, 9] [0, 1, 2, 3, 4, 5, 6, 7, 8, 9] ⟨rfl, rfl, rfl, rfl, by decide, gRoIn_0, rfl, fun _ => rfl⟩ rfl (Nat.le_of_ble_eq_true rfl) dX11_isUsed_11 (g_rc hR (Nat.le_of_ble_eq_true rfl) (Nat.le_of_ble_eq_true rfl)) (ck' := 0) (sk' := 0) rfl rfl (fun _ => rfl) (fun _ _ => ?_) (fun _ hx => absurd rfl hx)
  refine g_iadd C dX11_isUsed_14 ?_
  obtain ⟨c3, hf⟩ := gg_of hf
  refine g_iald C 1 rfl (gi_in c3) dX11_isUsed_15 ?_
  refine g_icmp_ge C 23 dX11_isUsed_16 (by decide) (fun c4 => ?_) (fun c4 => ?_)
  · have hf := opt_pos c4 hf
    refine g_iconst C (v := 0) dX11_isUsed_23 (by decide) ?_
    exact H24 0 hf
  · have hf := opt_neg c4 hf
    refine g_iconst C (v := 1) dX11_isUsed_19 (by decide) ?_
    refine g_goto C 24 dX11_isUsed_20 (by decide) ?_
    exact H24 1 hf
/-! X11_isPresent -/
theorem hd_X11_isPresent : yX11_isPresent.cls ≠ "java/lang/invoke/MethodHandle" ∧ yX11_isPresent.cls ≠ "java/lang/invoke/VarHandle" ∧ (parseMethodDescriptor yX11_isPresent.desc).map (fun d => d.parameters.length) = some 1 := by decide +kernel
def F_X11_isPresent_L18   (s0_18 : Int32) : Option (Int32) := gg (gnar .boolean s0_18) (some s0_18)
def F_X11_isPresent (g : Nat → Int32) (p0 : Int32) : Option (Int32) := gg (gi ((9 : Int32) + p0) 534) (if (g (Int32.toNatClampNeg ((9 : Int32) + p0))) = 1 then (F_X11_isPresent_L18 1) else (F_X11_isPresent_L18 0))
set_option maxRecDepth 100000 in
set_option maxHeartbeats 4000000 in
theorem c_X11_isPresent {l : Launch} {D : va_G} {cy : Nat → ClassId} {a : Nat → Nat} {thrown : Int32} {g : Nat → Int32} {saved : Nat → Int32} {hasSaved : Int32} {coef : Nat → Int32} {nodes : Nat → Int32} {nodeMany : Int32} {isDeep : Int32} {codes : Nat → Int32} {details : Nat → Int32} {levelMany : Int32} {given : Nat → Int32} {paper : Nat → Int32} {papered : Int32} {tape : Nat → Int32} {taped : Int32} {wrongAt : Int32} {at_ : Int32} {value : Int32} {readPlace : Int32} {readValue : Int32} {readEpoch : Int32} {p0 : Int32}  {val : Int32} (hf : F_X11_isPresent g p0 = some val) : gCt l D cy yX11_isPresent cX11_isPresent 2 (some .boolean) 0 0 0 0 [.ref (a 0), .int p0] [] ((wM cy a thrown g saved hasSaved coef nodes nodeMany isDeep codes details levelMany given paper papered tape taped wrongAt at_ value readPlace readValue readEpoch)) 0 (fun _ : Unit => some (.int val)) (fun _ => (wM cy a thrown g saved hasSaved coef nodes nodeMany isDeep codes details levelMany given paper papered tape taped wrongAt at_ value readPlace readValue readEpoch)) := by
  refine g_begin (by decide +kernel) (Nat.le_of_ble_eq_true rfl) ?_
  intro X Q hl hR hD hy hro hn C hin E
  subst hl; subst hD; subst hy
  replace C : gC X "SecretVaultModel" cX11_isPresent (some .boolean) := C
  unfold F_X11_isPresent at hf
  have H18 : ∀ (s0_18 : Int32), F_X11_isPresent_L18 s0_18 = some val → gW X Q 0 0 ((wM (x_y X) a thrown g saved hasSaved coef nodes nodeMany isDeep codes details levelMany given paper papered tape taped wrongAt at_ value readPlace readValue readEpoch)) [(0, .ref (a 0)), (1, .int p0)] [.int s0_18] 18 := by
    intro s0_18 hf
    unfold F_X11_isPresent_L18 at hf
    obtain ⟨c3, hf⟩ := gg_of hf
    obtain rfl := Option.some.inj hf
    exact g_zret C E () (gnar_of c3) dX11_isPresent_18 rfl rfl rfl (Nat.le_of_ble_eq_true rfl) (Nat.le_of_ble_eq_true rfl)
  show gW X Q 0 0 ((wM (x_y X) a thrown g saved hasSaved coef nodes nodeMany isDeep codes details levelMany given paper papered tape taped wrongAt at_ value readPlace readValue readEpoch)) [(0, .ref (a 0)), (1, .int p0)] [] 0
  refine g_aload_n C 0 dX11_isPresent_0 rfl ?_
  refine g_get C 0 1 rfl rfl wiX11 (by decide) mw_6_185 rfl rfl dX11_isPresent_1 ?_
  refine g_bipush C (v := 9) dX11_isPresent_4 (by decide) ?_
  refine g_iload_n C 1 dX11_isPresent_6 rfl ?_
  refine g_iadd C dX11_isPresent_7 ?_
  obtain ⟨c1, hf⟩ := gg_of hf
  refine g_iald C 1 rfl (gi_in c1) dX11_isPresent_8 ?_
  refine g_iconst C (v := 1) dX11_isPresent_9 (by decide) ?_
  refine g_icmp_ne C 17 dX11_isPresent_10 (by decide) (fun c2 => ?_) (fun c2 => ?_)
  · have hf := opt_neg c2 hf
    refine g_iconst C (v := 0) dX11_isPresent_17 (by decide) ?_
    exact H18 0 hf
  · have hf := opt_pos c2 hf
    refine g_iconst C (v := 1) dX11_isPresent_13 (by decide) ?_
    refine g_goto C 18 dX11_isPresent_14 (by decide) ?_
    exact H18 1 hf
/-! X11_happens -/
theorem hd_X11_happens : yX11_happens.cls ≠ "java/lang/invoke/MethodHandle" ∧ yX11_happens.cls ≠ "java/lang/invoke/VarHandle" ∧ (parseMethodDescriptor yX11_happens.desc).map (fun d => d.parameters.length) = some 1 := by decide +kernel
def F_X11_happens_L66   (g_66 : Nat → Int32) (s0_66 : Int32) (s1_66 : Int32) (s2_66 : Int32) : Option ((Nat → Int32)) := gg (gi s2_66 534) (gl (upd g_66 (Int32.toNatClampNeg s2_66) (s1_66 + s0_66)) fun f8 => some f8)
def F_X11_happens_L3 (p0 : Int32)  : Nat → (Nat → Int32) → Int32 → Option ((Nat → Int32))
  | 0, _, _ => none
  | n + 1, g_3, l2_3 => if l2_3 ≤ 0 then (gg (gi 18 534) (gl (upd g_3 (Int32.toNatClampNeg 18) p0) fun f3 => gg (gi 17 534) (gg (gi 17 534) (if 20 ≤ (f3 (Int32.toNatClampNeg 17)) then (F_X11_happens_L66 f3 0 (f3 (Int32.toNatClampNeg 17)) 17) else (F_X11_happens_L66 f3 1 (f3 (Int32.toNatClampNeg 17)) 17))))) else (gg (gi (((18 : Int32) + l2_3) - 1) 534) (gg (gi ((18 : Int32) + l2_3) 534) (gl (upd g_3 (Int32.toNatClampNeg ((18 : Int32) + l2_3)) (g_3 (Int32.toNatClampNeg (((18 : Int32) + l2_3) - 1)))) fun f11 => F_X11_happens_L3 p0 n f11 (l2_3 + (-1)))))
def F_X11_happens (g : Nat → Int32) (p0 : Int32) : Option ((Nat → Int32)) := F_X11_happens_L3 p0 1000 g 19
set_option maxRecDepth 100000 in
set_option maxHeartbeats 4000000 in
theorem c_X11_happens {l : Launch} {D : va_G} {cy : Nat → ClassId} {a : Nat → Nat} {thrown : Int32} {g : Nat → Int32} {saved : Nat → Int32} {hasSaved : Int32} {coef : Nat → Int32} {nodes : Nat → Int32} {nodeMany : Int32} {isDeep : Int32} {codes : Nat → Int32} {details : Nat → Int32} {levelMany : Int32} {given : Nat → Int32} {paper : Nat → Int32} {papered : Int32} {tape : Nat → Int32} {taped : Int32} {wrongAt : Int32} {at_ : Int32} {value : Int32} {readPlace : Int32} {readValue : Int32} {readEpoch : Int32} {p0 : Int32}  {val : (Nat → Int32)} (hf : F_X11_happens g p0 = some val) : gCt l D cy yX11_happens cX11_happens 3 none 0 0 0 0 [.ref (a 0), .int p0] [] ((wM cy a thrown g saved hasSaved coef nodes nodeMany isDeep codes details levelMany given paper papered tape taped wrongAt at_ value readPlace readValue readEpoch)) 0 (fun _ : Unit => none) (fun _ => (wM cy a thrown val saved hasSaved coef nodes nodeMany isDeep codes details levelMany given paper papered tape taped wrongAt at_ value readPlace readValue readEpoch)) := by
  refine g_begin (by decide +kernel) (Nat.le_of_ble_eq_true rfl) ?_
  intro X Q hl hR hD hy hro hn C hin E
  subst hl; subst hD; subst hy
  replace C : gC X "SecretVaultModel" cX11_happens none := C
  unfold F_X11_happens at hf
  have H66 : ∀ (g_66 : Nat → Int32) (s0_66 : Int32) (s1_66 : Int32) (s2_66 : Int32), F_X11_happens_L66 g_66 s0_66 s1_66 s2_66 = some val → gW X Q 0 0 ((wM (x_y X) a thrown g_66 saved hasSaved coef nodes nodeMany isDeep codes details levelMany given paper papered tape taped wrongAt at_ value readPlace readValue readEpoch)) [(0, .ref (a 0)), (1, .int p0)] [.int s0_66, .int s1_66, .int s2_66, .ref (a 1)] 66 := by
    intro g_66 s0_66 s1_66 s2_66 hf
    unfold F_X11_happens_L66 at hf
    refine g_iadd C dX11_happens_66 ?_
    obtain ⟨c7, hf⟩ := gg_of hf
    obtain ⟨f8, ef8, hf⟩ := opt_let hf
    refine g_iast C (ws' := (wM (x_y X) a thrown f8 saved hasSaved coef nodes nodeMany isDeep codes details levelMany given paper papered tape taped wrongAt at_ value readPlace readValue readEpoch)) 1 rfl (gi_in c7) (by rw [ef8]; rfl) dX11_happens_67 ?_
    obtain rfl := Option.some.inj hf
    exact g_vret C E () dX11_happens_68 rfl rfl rfl (Nat.le_of_ble_eq_true rfl) (Nat.le_of_ble_eq_true rfl)
  have H3 : ∀ (n3 : Nat), ∀ (g_3 : Nat → Int32) (l2_3 : Int32), F_X11_happens_L3 p0 n3 g_3 l2_3 = some val → gW X Q 0 0 ((wM (x_y X) a thrown g_3 saved hasSaved coef nodes nodeMany isDeep codes details levelMany given paper papered tape taped wrongAt at_ value readPlace readValue readEpoch)) [(0, .ref (a 0)), (1, .int p0), (2, .int l2_3)] [] 3 := by
    intro n3
    induction n3 with
    | zero => intros; rename_i hf; cases hf
    | succ n3 ih =>
      intro g_3 l2_3 hf
      have H3 := ih
      rw [F_X11_happens_L3] at hf
      refine g_iload_n C 2 dX11_happens_3 rfl ?_
      refine g_if_le C 33 dX11_happens_4 (by decide) (fun c1 => ?_) (fun c1 => ?_)
      · have hf := opt_pos c1 hf
        refine g_aload_n C 0 dX11_happens_33 rfl ?_
        refine g_get C 0 1 rfl rfl wiX11 (by decide) mw_6_185 rfl rfl dX11_happens_34 ?_
        refine g_bipush C (v := 18) dX11_happens_37 (by decide) ?_
        refine g_iload_n C 1 dX11_happens_39 rfl ?_
        obtain ⟨c2, hf⟩ := gg_of hf
        obtain ⟨f3, ef3, hf⟩ := opt_let hf
        refine g_iast C (ws' := (wM (x_y X) a thrown f3 saved hasSaved coef nodes nodeMany isDeep codes details levelMany given paper papered tape taped wrongAt at_ value readPlace readValue readEpoch)) 1 rfl (gi_in c2) (by rw [ef3]; rfl) dX11_happens_40 ?_
        refine g_aload_n C 0 dX11_happens_41 rfl ?_
        refine g_get C 0 1 rfl rfl wiX11 (by decide) mw_6_185 rfl rfl dX11_happens_42 ?_
        refine g_bipush C (v := 17) dX11_happens_45 (by decide) ?_
        refine g_dup2 C dX11_happens_47 rfl rfl ?_
        obtain ⟨c4, hf⟩ := gg_of hf
        refine g_iald C 1 rfl (gi_in c4) dX11_happens_48 ?_
        refine g_aload_n C 0 dX11_happens_49 rfl ?_
        refine g_get C 0 1 rfl rfl wiX11 (by decide) mw_6_185 rfl rfl dX11_happens_50 ?_
        refine g_bipush C (v := 17) dX11_happens_53 (by decide) ?_
        obtain ⟨c5, hf⟩ := gg_of hf
        refine g_iald C 1 rfl (gi_in c5) dX11_happens_55 ?_
        refine g_bipush C (v := 20) dX11_happens_56 (by decide) ?_
        refine g_icmp_ge C 65 dX11_happens_58 (by decide) (fun c6 => ?_) (fun c6 => ?_)
        · have hf := opt_pos c6 hf
          refine g_iconst C (v := 0) dX11_happens_65 (by decide) ?_
          refine gW.locals [0, 1] rfl ?_
          exact H66 f3 0 (f3 (Int32.toNatClampNeg 17)) 17 hf
        · have hf := opt_neg c6 hf
          refine g_iconst C (v := 1) dX11_happens_61 (by decide) ?_
          refine g_goto C 66 dX11_happens_62 (by decide) ?_
          refine gW.locals [0, 1] rfl ?_
          exact H66 f3 1 (f3 (Int32.toNatClampNeg 17)) 17 hf
      · have hf := opt_neg c1 hf
        refine g_aload_n C 0 dX11_happens_7 rfl ?_
        refine g_get C 0 1 rfl rfl wiX11 (by decide) mw_6_185 rfl rfl dX11_happens_8 ?_
        refine g_bipush C (v := 18) dX11_happens_11 (by decide) ?_
        refine g_iload_n C 2 dX11_happens_13 rfl ?_
        refine g_iadd C dX11_happens_14 ?_
        refine g_aload_n C 0 dX11_happens_15 rfl ?_
        refine g_get C 0 1 rfl rfl wiX11 (by decide) mw_6_185 rfl rfl dX11_happens_16 ?_
        refine g_bipush C (v := 18) dX11_happens_19 (by decide) ?_
        refine g_iload_n C 2 dX11_happens_21 rfl ?_
        refine g_iadd C dX11_happens_22 ?_
        refine g_iconst C (v := 1) dX11_happens_23 (by decide) ?_
        refine g_isub C dX11_happens_24 ?_
        obtain ⟨c9, hf⟩ := gg_of hf
        refine g_iald C 1 rfl (gi_in c9) dX11_happens_25 ?_
        obtain ⟨c10, hf⟩ := gg_of hf
        obtain ⟨f11, ef11, hf⟩ := opt_let hf
        refine g_iast C (ws' := (wM (x_y X) a thrown f11 saved hasSaved coef nodes nodeMany isDeep codes details levelMany given paper papered tape taped wrongAt at_ value readPlace readValue readEpoch)) 1 rfl (gi_in c10) (by rw [ef11]; rfl) dX11_happens_26 ?_
        refine g_iinc C 2 (v := l2_3 + (-1)) (lv' := [(2, .int (l2_3 + (-1))), (0, .ref (a 0)), (1, .int p0)]) dX11_happens_27 rfl rfl (g_nlt hn rfl) rfl ?_
        refine g_goto C 3 dX11_happens_30 (by decide) ?_
        refine gW.locals [1, 2, 0] rfl ?_
        exact H3 f11 (l2_3 + (-1)) hf
  show gW X Q 0 0 ((wM (x_y X) a thrown g saved hasSaved coef nodes nodeMany isDeep codes details levelMany given paper papered tape taped wrongAt at_ value readPlace readValue readEpoch)) [(0, .ref (a 0)), (1, .int p0)] [] 0
  refine g_bipush C (v := 19) dX11_happens_0 (by decide) ?_
  refine g_istore_n C (lv' := [(2, .int 19), (0, .ref (a 0)), (1, .int p0)]) dX11_happens_2 (g_nlt hn rfl) rfl ?_
  refine gW.locals [1, 2, 0] rfl ?_
  exact H3 1000 g 19 hf
/-! X11_power -/
theorem hd_X11_power : yX11_power.cls ≠ "java/lang/invoke/MethodHandle" ∧ yX11_power.cls ≠ "java/lang/invoke/VarHandle" ∧ (parseMethodDescriptor yX11_power.desc).map (fun d => d.parameters.length) = some 3 := by decide +kernel
def F_X11_power_L33 (p2 : Int32) (K10 : Int32 → Int32 → Int32 → Option (Int32)) (l4_33 : Int32) (l5_33 : Int32) (s0_33 : Int32) : Option (Int32) := gg (gz p2) (gl ((l4_33 * l4_33) - (l4_33 * l4_33) / p2 * p2) fun x5 => K10 s0_33 x5 (l5_33 >>> (1 &&& 31)))
def F_X11_power_L10 (p2 : Int32)  : Nat → Int32 → Int32 → Int32 → Option (Int32)
  | 0, _, _, _ => none
  | n + 1, l3_10, l4_10, l5_10 => if l5_10 ≤ 0 then (some l3_10) else (if (l5_10 &&& 1) = 1 then (gg (gz p2) (gl ((l3_10 * l4_10) - (l3_10 * l4_10) / p2 * p2) fun x7 => F_X11_power_L33 p2 (F_X11_power_L10 p2 n) l4_10 l5_10 x7)) else (F_X11_power_L33 p2 (F_X11_power_L10 p2 n) l4_10 l5_10 l3_10))
def F_X11_power (p0 : Int32) (p1 : Int32) (p2 : Int32) : Option (Int32) := gg (gz p2) (F_X11_power_L10 p2 1000 1 (p0 - p0 / p2 * p2) p1)
set_option maxRecDepth 100000 in
set_option maxHeartbeats 4000000 in
theorem c_X11_power {l : Launch} {D : va_G} {cy : Nat → ClassId}   {p0 : Int32} {p1 : Int32} {p2 : Int32}  {val : Int32} (hf : F_X11_power p0 p1 p2 = some val) : gCt l D cy yX11_power cX11_power 6 (some .int) 0 0 0 0 [.int p0, .int p1, .int p2] [] ([]) 0 (fun _ : Unit => some (.int val)) (fun _ => []) := by
  refine g_begin (by decide +kernel) (Nat.le_of_ble_eq_true rfl) ?_
  intro X Q hl hR hD hy hro hn C hin E
  subst hl; subst hD; subst hy
  replace C : gC X "SecretVaultModel" cX11_power (some .int) := C
  unfold F_X11_power at hf
  have H10 : ∀ (n10 : Nat), ∀ (l3_10 : Int32) (l4_10 : Int32) (l5_10 : Int32), F_X11_power_L10 p2 n10 l3_10 l4_10 l5_10 = some val → gW X Q 0 0 ([]) [(0, .int p0), (1, .int p1), (2, .int p2), (3, .int l3_10), (4, .int l4_10), (5, .int l5_10)] [] 10 := by
    intro n10
    induction n10 with
    | zero => intros; rename_i hf; cases hf
    | succ n10 ih =>
      intro l3_10 l4_10 l5_10 hf
      have H10 := ih
      rw [F_X11_power_L10] at hf
      have H33 : ∀ (l4_33 : Int32) (l5_33 : Int32) (s0_33 : Int32), F_X11_power_L33 p2 (F_X11_power_L10 p2 n10) l4_33 l5_33 s0_33 = some val → gW X Q 0 0 ([]) [(0, .int p0), (1, .int p1), (2, .int p2), (4, .int l4_33), (5, .int l5_33)] [.int s0_33] 33 := by
        intro l4_33 l5_33 s0_33 hf
        unfold F_X11_power_L33 at hf
        refine g_istore_n C (lv' := [(3, .int s0_33), (0, .int p0), (1, .int p1), (2, .int p2), (4, .int l4_33), (5, .int l5_33)]) dX11_power_33 (g_nlt hn rfl) rfl ?_
        refine g_iload C 4 dX11_power_34 rfl ?_
        refine g_iload C 4 dX11_power_36 rfl ?_
        refine g_imul C dX11_power_38 ?_
        refine g_iload_n C 3 dX11_power_39 rfl ?_
        obtain ⟨c4, hf⟩ := gg_of hf
        refine g_irem C dX11_power_40 (gz_ne c4) ?_
        obtain ⟨x5, ex5, hf⟩ := opt_let hf
        refine g_topi ex5 ?_
        refine g_istore C (lv' := [(4, .int x5), (3, .int s0_33), (0, .int p0), (1, .int p1), (2, .int p2), (5, .int l5_33)]) dX11_power_41 (g_nlt hn rfl) rfl ?_
        refine g_iload C 5 dX11_power_43 rfl ?_
        refine g_iconst C (v := 1) dX11_power_45 (by decide) ?_
        refine g_ishr C dX11_power_46 ?_
        refine g_istore C (lv' := [(5, .int (l5_33 >>> (1 &&& 31))), (4, .int x5), (3, .int s0_33), (0, .int p0), (1, .int p1), (2, .int p2)]) dX11_power_47 (g_nlt hn rfl) rfl ?_
        refine g_goto C 10 dX11_power_49 (by decide) ?_
        refine gW.locals [3, 4, 5, 2, 1, 0] rfl ?_
        exact H10 s0_33 x5 (l5_33 >>> (1 &&& 31)) hf
      refine g_iload C 5 dX11_power_10 rfl ?_
      refine g_if_le C 52 dX11_power_12 (by decide) (fun c2 => ?_) (fun c2 => ?_)
      · have hf := opt_pos c2 hf
        refine g_iload_n C 3 dX11_power_52 rfl ?_
        obtain rfl := Option.some.inj hf
        exact g_iret C E () dX11_power_53 rfl rfl rfl (Nat.le_of_ble_eq_true rfl) (Nat.le_of_ble_eq_true rfl)
      · have hf := opt_neg c2 hf
        refine g_iload C 5 dX11_power_15 rfl ?_
        refine g_iconst C (v := 1) dX11_power_17 (by decide) ?_
        refine g_iand C dX11_power_18 ?_
        refine g_iconst C (v := 1) dX11_power_19 (by decide) ?_
        refine g_icmp_ne C 32 dX11_power_20 (by decide) (fun c3 => ?_) (fun c3 => ?_)
        · have hf := opt_neg c3 hf
          refine g_iload_n C 3 dX11_power_32 rfl ?_
          refine gW.locals [0, 1, 2, 4, 5] rfl ?_
          exact H33 l4_10 l5_10 l3_10 hf
        · have hf := opt_pos c3 hf
          refine g_iload_n C 3 dX11_power_23 rfl ?_
          refine g_iload C 4 dX11_power_24 rfl ?_
          refine g_imul C dX11_power_26 ?_
          refine g_iload_n C 2 dX11_power_27 rfl ?_
          obtain ⟨c6, hf⟩ := gg_of hf
          refine g_irem C dX11_power_28 (gz_ne c6) ?_
          obtain ⟨x7, ex7, hf⟩ := opt_let hf
          refine g_topi ex7 ?_
          refine g_goto C 33 dX11_power_29 (by decide) ?_
          refine gW.locals [0, 1, 2, 4, 5] rfl ?_
          exact H33 l4_10 l5_10 x7 hf
  show gW X Q 0 0 ([]) [(0, .int p0), (1, .int p1), (2, .int p2)] [] 0
  refine g_iconst C (v := 1) dX11_power_0 (by decide) ?_
  refine g_istore_n C (lv' := [(3, .int 1), (0, .int p0), (1, .int p1), (2, .int p2)]) dX11_power_1 (g_nlt hn rfl) rfl ?_
  refine g_iload_n C 1 dX11_power_2 rfl ?_
  refine g_iload_n C 3 dX11_power_3 rfl ?_
  obtain ⟨c1, hf⟩ := gg_of hf
  refine g_irem C dX11_power_4 (gz_ne c1) ?_
  refine g_istore C (lv' := [(4, .int (p0 - p0 / p2 * p2)), (3, .int 1), (0, .int p0), (1, .int p1), (2, .int p2)]) dX11_power_5 (g_nlt hn rfl) rfl ?_
  refine g_iload_n C 3 dX11_power_7 rfl ?_
  refine g_istore C (lv' := [(5, .int p1), (4, .int (p0 - p0 / p2 * p2)), (3, .int 1), (0, .int p0), (1, .int p1), (2, .int p2)]) dX11_power_8 (g_nlt hn rfl) rfl ?_
  refine gW.locals [3, 4, 5, 2, 1, 0] rfl ?_
  exact H10 1000 1 (p0 - p0 / p2 * p2) p1 hf
/-! X11_inverse -/
theorem hd_X11_inverse : yX11_inverse.cls ≠ "java/lang/invoke/MethodHandle" ∧ yX11_inverse.cls ≠ "java/lang/invoke/VarHandle" ∧ (parseMethodDescriptor yX11_inverse.desc).map (fun d => d.parameters.length) = some 1 := by decide +kernel
def F_X11_inverse (p0 : Int32) : Option (Int32) := (F_X11_power p0 1017 1019).bind fun v1 => some v1
set_option maxRecDepth 100000 in
set_option maxHeartbeats 4000000 in
theorem c_X11_inverse {l : Launch} {D : va_G} {cy : Nat → ClassId}   {p0 : Int32}  {val : Int32} (hf : F_X11_inverse p0 = some val) : gCt l D cy yX11_inverse cX11_inverse 1 (some .int) 1 25 0 0 [.int p0] [] ([]) 0 (fun _ : Unit => some (.int val)) (fun _ => []) := by
  refine g_begin (by decide +kernel) (Nat.le_of_ble_eq_true rfl) ?_
  intro X Q hl hR hD hy hro hn C hin E
  subst hl; subst hD; subst hy
  replace C : gC X "SecretVaultModel" cX11_inverse (some .int) := C
  unfold F_X11_inverse at hf
  show gW X Q 0 0 ([]) [(0, .int p0)] [] 0
  refine g_iload_n C 0 dX11_inverse_0 rfl ?_
  refine g_sipush C (v := 1017) dX11_inverse_1 (by decide) ?_
  refine g_sipush C (v := 1019) dX11_inverse_4 (by decide) ?_
  obtain ⟨v1, h2, hf⟩ := opt_bind hf
  refine g_callS C (c_X11_power (l := x_l X) (D := x_D X) (cy := x_y X) (p0 := p0) (p1 := 1017) (p2 := 1019) h2) (As := [.int p0, .int 1017, .int 1019]) (rest := []) (wr := []) (ws' := fun _ => []) (st' := fun _ => [.int v1]) 3 mw_7_76 mw_1_9 mw_7_74 mw_7_75 hd_X11_power rfl (g_rm hR rfl rfl) [] [] [] ⟨rfl, rfl, rfl, rfl, by decide, gRoIn_0, rfl, fun _ => rfl⟩ rfl (Nat.le_of_ble_eq_true rfl) dX11_inverse_7 (g_rc hR (Nat.le_of_ble_eq_true rfl) (Nat.le_of_ble_eq_true rfl)) (ck' := 0) (sk' := 0) rfl rfl (fun _ => rfl) (fun _ _ => ?_) (fun _ hx => absurd rfl hx)
  obtain rfl := Option.some.inj hf
  exact g_iret C E () dX11_inverse_10 rfl rfl rfl (Nat.le_of_ble_eq_true rfl) (Nat.le_of_ble_eq_true rfl)
