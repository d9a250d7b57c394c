/-! X11_drawn -/
theorem hd_X11_drawn : yX11_drawn.cls ≠ "java/lang/invoke/MethodHandle" ∧ yX11_drawn.cls ≠ "java/lang/invoke/VarHandle" ∧ (parseMethodDescriptor yX11_drawn.desc).map (fun d => d.parameters.length) = some 0 := by decide +kernel
def F_X11_drawn (g : Nat → Int32) : Option (Int32 × (Nat → Int32)) := gg (gi 0 534) (gg (gi 0 534) (gl (upd g (Int32.toNatClampNeg 0) (((g (Int32.toNatClampNeg 0)) * 1103515245) + 12345)) fun f3 => gg (gi 0 534) (gl (((Int32.toUInt32 (f3 (Int32.toNatClampNeg 0)) >>> (Int32.toUInt32 16 &&& Int32.toUInt32 31)).toInt32) - ((Int32.toUInt32 (f3 (Int32.toNatClampNeg 0)) >>> (Int32.toUInt32 16 &&& Int32.toUInt32 31)).toInt32) / 1019 * 1019) fun x5 => some (x5, f3))))
set_option maxRecDepth 100000 in
set_option maxHeartbeats 4000000 in
theorem c_X11_drawn {l : Launch} {D : va_G} {cy : Nat → ClassId} {a : Nat → Nat} {thrown : Int32} {g : Nat → Int32} {saved : Nat → Int32} {hasSaved : Int32} {coef : Nat → Int32} {nodes : Nat → Int32} {nodeMany : Int32} {isDeep : Int32} {codes : Nat → Int32} {details : Nat → Int32} {levelMany : Int32} {given : Nat → Int32} {paper : Nat → Int32} {papered : Int32} {tape : Nat → Int32} {taped : Int32} {wrongAt : Int32} {at_ : Int32} {value : Int32} {readPlace : Int32} {readValue : Int32} {readEpoch : Int32}   {val : Int32 × (Nat → Int32)} (hf : F_X11_drawn g = some val) : gCt l D cy yX11_drawn cX11_drawn 1 (some .int) 0 0 0 0 [.ref (a 0)] [] ((wM cy a thrown g saved hasSaved coef nodes nodeMany isDeep codes details levelMany given paper papered tape taped wrongAt at_ value readPlace readValue readEpoch)) 0 (fun _ : Unit => some (.int val.1)) (fun _ => (wM cy a thrown val.2 saved hasSaved coef nodes nodeMany isDeep codes details levelMany given paper papered tape taped wrongAt at_ value readPlace readValue readEpoch)) := by
  refine g_begin (by decide +kernel) (Nat.le_of_ble_eq_true rfl) ?_
  intro X Q hl hR hD hy hro hn C hin E
  subst hl; subst hD; subst hy
  replace C : gC X "SecretVaultModel" cX11_drawn (some .int) := C
  unfold F_X11_drawn at hf
  show gW X Q 0 0 ((wM (x_y X) a thrown g saved hasSaved coef nodes nodeMany isDeep codes details levelMany given paper papered tape taped wrongAt at_ value readPlace readValue readEpoch)) [(0, .ref (a 0))] [] 0
  refine g_aload_n C 0 dX11_drawn_0 rfl ?_
  refine g_get C 0 1 rfl rfl wiX11 (by decide) mw_6_185 rfl rfl dX11_drawn_1 ?_
  refine g_iconst C (v := 0) dX11_drawn_4 (by decide) ?_
  refine g_aload_n C 0 dX11_drawn_5 rfl ?_
  refine g_get C 0 1 rfl rfl wiX11 (by decide) mw_6_185 rfl rfl dX11_drawn_6 ?_
  refine g_iconst C (v := 0) dX11_drawn_9 (by decide) ?_
  obtain ⟨c1, hf⟩ := gg_of hf
  refine g_iald C 1 rfl (gi_in c1) dX11_drawn_10 ?_
  refine g_ldc C mw_7_31 dX11_drawn_11 ?_
  refine g_imul C dX11_drawn_13 ?_
  refine g_sipush C (v := 12345) dX11_drawn_14 (by decide) ?_
  refine g_iadd C dX11_drawn_17 ?_
  obtain ⟨c2, hf⟩ := gg_of hf
  obtain ⟨f3, ef3, hf⟩ := opt_let hf
  refine g_iast C (ws' := (wM (x_y X) a thrown f3 saved hasSaved coef nodes nodeMany isDeep codes details levelMany given paper papered tape taped wrongAt at_ value readPlace readValue readEpoch)) 1 rfl (gi_in c2) (by rw [ef3]; rfl) dX11_drawn_18 ?_
  refine g_aload_n C 0 dX11_drawn_19 rfl ?_
  refine g_get C 0 1 rfl rfl wiX11 (by decide) mw_6_185 rfl rfl dX11_drawn_20 ?_
  refine g_iconst C (v := 0) dX11_drawn_23 (by decide) ?_
  obtain ⟨c4, hf⟩ := gg_of hf
  refine g_iald C 1 rfl (gi_in c4) dX11_drawn_24 ?_
  refine g_bipush C (v := 16) dX11_drawn_25 (by decide) ?_
  refine g_iushr C dX11_drawn_27 ?_
  refine g_sipush C (v := 1019) dX11_drawn_28 (by decide) ?_
  refine g_irem C dX11_drawn_31 (by decide) ?_
  obtain ⟨x5, ex5, hf⟩ := opt_let hf
  refine g_topi ex5 ?_
  obtain rfl := Option.some.inj hf
  exact g_iret C E () dX11_drawn_32 rfl rfl rfl (Nat.le_of_ble_eq_true rfl) (Nat.le_of_ble_eq_true rfl)
/-! X11_seed -/
theorem hd_X11_seed : yX11_seed.cls ≠ "java/lang/invoke/MethodHandle" ∧ yX11_seed.cls ≠ "java/lang/invoke/VarHandle" ∧ (parseMethodDescriptor yX11_seed.desc).map (fun d => d.parameters.length) = some 1 := by decide +kernel
def F_X11_seed (thrown : Int32) (g : Nat → Int32) (p0 : Int32) : Option (Int32 × Int32 × (Nat → Int32)) := gg (gi 0 534) (gl (g (Int32.toNatClampNeg 0)) fun x2 => gg (gi 0 534) (gl (upd g (Int32.toNatClampNeg 0) p0) fun f4 => (F_X11_done thrown x2).bind fun v5 => some (v5.1, v5.2, f4)))
set_option maxRecDepth 100000 in
set_option maxHeartbeats 4000000 in
theorem c_X11_seed {l : Launch} {D : va_G} {cy : Nat → ClassId} {a : Nat → Nat} {thrown : Int32} {g : Nat → Int32} {saved : Nat → Int32} {hasSaved : Int32} {coef : Nat → Int32} {nodes : Nat → Int32} {nodeMany : Int32} {isDeep : Int32} {codes : Nat → Int32} {details : Nat → Int32} {levelMany : Int32} {given : Nat → Int32} {paper : Nat → Int32} {papered : Int32} {tape : Nat → Int32} {taped : Int32} {wrongAt : Int32} {at_ : Int32} {value : Int32} {readPlace : Int32} {readValue : Int32} {readEpoch : Int32} {p0 : Int32}  {val : Int32 × Int32 × (Nat → Int32)} (hf : F_X11_seed thrown g p0 = some val) : gCt l D cy yX11_seed cX11_seed 3 (some .int) 1 21 0 0 [.ref (a 0), .int p0] [] ((wM cy a thrown g saved hasSaved coef nodes nodeMany isDeep codes details levelMany given paper papered tape taped wrongAt at_ value readPlace readValue readEpoch)) 0 (fun _ : Unit => some (.int val.1)) (fun _ => (wM cy a val.2.1 val.2.2 saved hasSaved coef nodes nodeMany isDeep codes details levelMany given paper papered tape taped wrongAt at_ value readPlace readValue readEpoch)) := by
  refine g_begin (by decide +kernel) (Nat.le_of_ble_eq_true rfl) ?_
  intro X Q hl hR hD hy hro hn C hin E
  subst hl; subst hD; subst hy
  replace C : gC X "SecretVaultModel" cX11_seed (some .int) := C
  unfold F_X11_seed at hf
  show gW X Q 0 0 ((wM (x_y X) a thrown g saved hasSaved coef nodes nodeMany isDeep codes details levelMany given paper papered tape taped wrongAt at_ value readPlace readValue readEpoch)) [(0, .ref (a 0)), (1, .int p0)] [] 0
  refine g_aload_n C 0 dX11_seed_0 rfl ?_
  refine g_get C 0 1 rfl rfl wiX11 (by decide) mw_6_185 rfl rfl dX11_seed_1 ?_
  refine g_iconst C (v := 0) dX11_seed_4 (by decide) ?_
  obtain ⟨c1, hf⟩ := gg_of hf
  refine g_iald C 1 rfl (gi_in c1) dX11_seed_5 ?_
  obtain ⟨x2, ex2, hf⟩ := opt_let hf
  refine g_topi ex2 ?_
  refine g_istore_n C (lv' := [(2, .int x2), (0, .ref (a 0)), (1, .int p0)]) dX11_seed_6 (g_nlt hn rfl) rfl ?_
  refine g_aload_n C 1 dX11_seed_7 rfl ?_
  refine g_get C 0 1 rfl rfl wiX11 (by decide) mw_6_185 rfl rfl dX11_seed_8 ?_
  refine g_iconst C (v := 0) dX11_seed_11 (by decide) ?_
  refine g_iload_n C 2 dX11_seed_12 rfl ?_
  obtain ⟨c3, hf⟩ := gg_of hf
  obtain ⟨f4, ef4, hf⟩ := opt_let hf
  refine g_iast C (ws' := (wM (x_y X) a thrown f4 saved hasSaved coef nodes nodeMany isDeep codes details levelMany given paper papered tape taped wrongAt at_ value readPlace readValue readEpoch)) 1 rfl (gi_in c3) (by rw [ef4]; rfl) dX11_seed_13 ?_
  refine g_aload_n C 1 dX11_seed_14 rfl ?_
  refine g_iload_n C 0 dX11_seed_15 rfl ?_
  obtain ⟨v5, h6, hf⟩ := opt_bind hf
  refine g_callV C (c_X11_done (l := x_l X) (D := x_D X) (cy := x_y X) (a := a) (thrown := thrown) (g := f4) (saved := saved) (hasSaved := hasSaved) (coef := coef) (nodes := nodes) (nodeMany := nodeMany) (isDeep := isDeep) (codes := codes) (details := details) (levelMany := levelMany) (given := given) (paper := paper) (papered := papered) (tape := tape) (taped := taped) (wrongAt := wrongAt) (at_ := at_) (value := value) (readPlace := readPlace) (readValue := readValue) (readEpoch := readEpoch) (p0 := x2) h6) (As := [.int x2]) (rest := []) (wr := []) (ws' := fun _ => (wM (x_y X) a v5.2 f4 saved hasSaved coef nodes nodeMany isDeep codes details levelMany given paper papered tape taped wrongAt at_ value readPlace readValue readEpoch)) (st' := fun _ => [.int v5.1]) (ci := 12) 1 0 ⟨_, rfl⟩ rfl rfl mw_7_22 mw_1_9 mw_7_19 mw_7_21 mp_29 hd_X11_done rfl (g_rm hR rfl rfl) [0, 1, 2, 3, 4, 5, 6, 7, 8, 9] [] [0, 1, 2, 3, 4, 5, 6, 7, 8, 9] ⟨rfl, rfl, rfl, rfl, by decide, gRoIn_0, rfl, fun _ => rfl⟩ rfl (Nat.le_of_ble_eq_true rfl) dX11_seed_16 (g_rc hR (Nat.le_of_ble_eq_true rfl) (Nat.le_of_ble_eq_true rfl)) (ck' := 0) (sk' := 0) rfl rfl (fun _ => rfl) (fun _ _ => ?_) (fun _ hx => absurd rfl hx)
  obtain rfl := Option.some.inj hf
  exact g_iret C E () dX11_seed_19 rfl rfl rfl (Nat.le_of_ble_eq_true rfl) (Nat.le_of_ble_eq_true rfl)
/-! X11_draw -/
theorem hd_X11_draw : yX11_draw.cls ≠ "java/lang/invoke/MethodHandle" ∧ yX11_draw.cls ≠ "java/lang/invoke/VarHandle" ∧ (parseMethodDescriptor yX11_draw.desc).map (fun d => d.parameters.length) = some 0 := by decide +kernel
def F_X11_draw (thrown : Int32) (g : Nat → Int32) : Option (Int32 × Int32 × (Nat → Int32)) := (F_X11_drawn g).bind fun v1 => (F_X11_done thrown v1.1).bind fun v3 => some (v3.1, v3.2, v1.2)
set_option maxRecDepth 100000 in
set_option maxHeartbeats 4000000 in
theorem c_X11_draw {l : Launch} {D : va_G} {cy : Nat → ClassId} {a : Nat → Nat} {thrown : Int32} {g : Nat → Int32} {saved : Nat → Int32} {hasSaved : Int32} {coef : Nat → Int32} {nodes : Nat → Int32} {nodeMany : Int32} {isDeep : Int32} {codes : Nat → Int32} {details : Nat → Int32} {levelMany : Int32} {given : Nat → Int32} {paper : Nat → Int32} {papered : Int32} {tape : Nat → Int32} {taped : Int32} {wrongAt : Int32} {at_ : Int32} {value : Int32} {readPlace : Int32} {readValue : Int32} {readEpoch : Int32}   {val : Int32 × Int32 × (Nat → Int32)} (hf : F_X11_draw thrown g = some val) : gCt l D cy yX11_draw cX11_draw 1 (some .int) 1 21 0 0 [.ref (a 0)] [] ((wM cy a thrown g saved hasSaved coef nodes nodeMany isDeep codes details levelMany given paper papered tape taped wrongAt at_ value readPlace readValue readEpoch)) 0 (fun _ : Unit => some (.int val.1)) (fun _ => (wM cy a val.2.1 val.2.2 saved hasSaved coef nodes nodeMany isDeep codes details levelMany given paper papered tape taped wrongAt at_ value readPlace readValue readEpoch)) := by
  refine g_begin (by decide +kernel) (Nat.le_of_ble_eq_true rfl) ?_
  intro X Q hl hR hD hy hro hn C hin E
  subst hl; subst hD; subst hy
  replace C : gC X "SecretVaultModel" cX11_draw (some .int) := C
  unfold F_X11_draw at hf
  show gW X Q 0 0 ((wM (x_y X) a thrown g saved hasSaved coef nodes nodeMany isDeep codes details levelMany given paper papered tape taped wrongAt at_ value readPlace readValue readEpoch)) [(0, .ref (a 0))] [] 0
  refine g_aload_n C 0 dX11_draw_0 rfl ?_
  refine g_aload_n C 0 dX11_draw_1 rfl ?_
  obtain ⟨v1, h2, hf⟩ := opt_bind hf
  refine g_callV C (c_X11_drawn (l := x_l X) (D := x_D X) (cy := x_y X) (a := a) (thrown := thrown) (g := g) (saved := saved) (hasSaved := hasSaved) (coef := coef) (nodes := nodes) (nodeMany := nodeMany) (isDeep := isDeep) (codes := codes) (details := details) (levelMany := levelMany) (given := given) (paper := paper) (papered := papered) (tape := tape) (taped := taped) (wrongAt := wrongAt) (at_ := at_) (value := value) (readPlace := readPlace) (readValue := readValue) (readEpoch := readEpoch) h2) (As := []) (rest := [.ref (a 0)]) (wr := []) (ws' := fun _ => (wM (x_y X) a thrown v1.2 saved hasSaved coef nodes nodeMany isDeep codes details levelMany given paper papered tape taped wrongAt at_ value readPlace readValue readEpoch)) (st' := fun _ => [.int v1.1, .ref (a 0)]) (ci := 12) 0 0 ⟨_, rfl⟩ rfl rfl mw_7_30 mw_1_9 mw_7_27 mw_7_29 mp_30 hd_X11_drawn rfl (g_rm hR rfl rfl) [0, 1, 2, 3, 4, 5, 6, 7, 8, 9] [] [0, 1, 2, 3, 4, 5, 6, 7, 8, 9] ⟨rfl, rfl, rfl, rfl, by decide, gRoIn_0, rfl, fun _ => rfl⟩ rfl (Nat.le_of_ble_eq_true rfl) dX11_draw_2 (g_rc hR (Nat.le_of_ble_eq_true rfl) (Nat.le_of_ble_eq_true rfl)) (ck' := 0) (sk' := 0) rfl rfl (fun _ => rfl) (fun _ _ => ?_) (fun _ hx => absurd rfl hx)
  obtain ⟨v3, h4, hf⟩ := opt_bind hf
  refine g_callV C (c_X11_done (l := x_l X) (D := x_D X) (cy := x_y X) (a := a) (thrown := thrown) (g := v1.2) (saved := saved) (hasSaved := hasSaved) (coef := coef) (nodes := nodes) (nodeMany := nodeMany) (isDeep := isDeep) (codes := codes) (details := details) (levelMany := levelMany) (given := given) (paper := paper) (papered := papered) (tape := tape) (taped := taped) (wrongAt := wrongAt) (at_ := at_) (value := value) (readPlace := readPlace) (readValue := readValue) (readEpoch := readEpoch) (p0 := v1.1) h4) (As := [.int v1.1]) (rest := []) (wr := []) (ws' := fun _ => (wM (x_y X) a v3.2 v1.2 saved hasSaved coef nodes nodeMany isDeep codes details levelMany given paper papered tape taped wrongAt at_ value readPlace readValue readEpoch)) (st' := fun _ => [.int v3.1]) (ci := 12) 1 0 ⟨_, rfl⟩ rfl rfl mw_7_22 mw_1_9 mw_7_19 mw_7_21 mp_29 hd_X11_done rfl (g_rm hR rfl rfl) [0, 1, 2, 3, 4, 5, 6, 7, 8, 9] [] [0, 1, 2, 3, 4, 5, 6, 7, 8, 9] ⟨rfl, rfl, rfl, rfl, by decide, gRoIn_0, rfl, fun _ => rfl⟩ rfl (Nat.le_of_ble_eq_true rfl) dX11_draw_5 (g_rc hR (Nat.le_of_ble_eq_true rfl) (Nat.le_of_ble_eq_true rfl)) (ck' := 0) (sk' := 0) rfl rfl (fun _ => rfl) (fun _ _ => ?_) (fun _ hx => absurd rfl hx)
  obtain rfl := Option.some.inj hf
  exact g_iret C E () dX11_draw_8 rfl rfl rfl (Nat.le_of_ble_eq_true rfl) (Nat.le_of_ble_eq_true rfl)
/-! X11_setWeight -/
theorem hd_X11_setWeight : yX11_setWeight.cls ≠ "java/lang/invoke/MethodHandle" ∧ yX11_setWeight.cls ≠ "java/lang/invoke/VarHandle" ∧ (parseMethodDescriptor yX11_setWeight.desc).map (fun d => d.parameters.length) = some 2 := by decide +kernel
def F_X11_setWeight (thrown : Int32) (g : Nat → Int32) (p0 : Int32) (p1 : Int32) : Option (Int32 × Int32 × (Nat → Int32)) := (F_X11_isMember p0).bind fun v1 => if v1 = 0 then ((F_X11_fails thrown 1).bind fun v15 => some (v15.1, v15.2, g)) else ((F_X11_in p1 0 3).bind fun v4 => if v4 = 0 then ((F_X11_fails thrown 2).bind fun v13 => some (v13.1, v13.2, g)) else (gg (gi ((1 : Int32) + p0) 534) (gl (g (Int32.toNatClampNeg ((1 : Int32) + p0))) fun x8 => gg (gi ((1 : Int32) + p0) 534) (gl (upd g (Int32.toNatClampNeg ((1 : Int32) + p0)) p1) fun f10 => (F_X11_done thrown x8).bind fun v11 => some (v11.1, v11.2, f10)))))
set_option maxRecDepth 100000 in
set_option maxHeartbeats 4000000 in
theorem c_X11_setWeight {l : Launch} {D : va_G} {cy : Nat → ClassId} {a : Nat → Nat} {thrown : Int32} {g : Nat → Int32} {saved : Nat → Int32} {hasSaved : Int32} {coef : Nat → Int32} {nodes : Nat → Int32} {nodeMany : Int32} {isDeep : Int32} {codes : Nat → Int32} {details : Nat → Int32} {levelMany : Int32} {given : Nat → Int32} {paper : Nat → Int32} {papered : Int32} {tape : Nat → Int32} {taped : Int32} {wrongAt : Int32} {at_ : Int32} {value : Int32} {readPlace : Int32} {readValue : Int32} {readEpoch : Int32} {p0 : Int32} {p1 : Int32}  {val : Int32 × Int32 × (Nat → Int32)} (hf : F_X11_setWeight thrown g p0 p1 = some val) : gCt l D cy yX11_setWeight cX11_setWeight 4 (some .int) 2 42 0 0 [.ref (a 0), .int p0, .int p1] [] ((wM cy a thrown g saved hasSaved coef nodes nodeMany isDeep codes details levelMany given paper papered tape taped wrongAt at_ value readPlace readValue readEpoch)) 0 (fun _ : Unit => some (.int val.1)) (fun _ => (wM cy a val.2.1 val.2.2 saved hasSaved coef nodes nodeMany isDeep codes details levelMany given paper papered tape taped wrongAt at_ value readPlace readValue readEpoch)) := by
  refine g_begin (by decide +kernel) (Nat.le_of_ble_eq_true rfl) ?_
  intro X Q hl hR hD hy hro hn C hin E
  subst hl; subst hD; subst hy
  replace C : gC X "SecretVaultModel" cX11_setWeight (some .int) := C
  unfold F_X11_setWeight at hf
  show gW X Q 0 0 ((wM (x_y X) a thrown g saved hasSaved coef nodes nodeMany isDeep codes details levelMany given paper papered tape taped wrongAt at_ value readPlace readValue readEpoch)) [(0, .ref (a 0)), (1, .int p0), (2, .int p1)] [] 0
  refine g_iload_n C 1 dX11_setWeight_0 rfl ?_
  obtain ⟨v1, h2, hf⟩ := opt_bind hf
  refine g_callS C (c_X11_isMember (l := x_l X) (D := x_D X) (cy := x_y X) (p0 := p0) h2) (As := [.int p0]) (rest := []) (wr := (wM (x_y X) a thrown g saved hasSaved coef nodes nodeMany isDeep codes details levelMany given paper papered tape taped wrongAt at_ value readPlace readValue readEpoch)) (ws' := fun _ => (wM (x_y X) a thrown g saved hasSaved coef nodes nodeMany isDeep codes details levelMany given paper papered tape taped wrongAt at_ value readPlace readValue readEpoch)) (st' := fun _ => [.int v1]) 1 mw_7_38 mw_1_9 mw_7_36 mw_7_37 hd_X11_isMember rfl (g_rm hR rfl rfl) [] [0, 1, 2, 3, 4, 5, 6, 7, 8, 9] [0, 1, 2, 3, 4, 5, 6, 7, 8, 9] ⟨rfl, rfl, rfl, rfl, by decide, gRoIn_0, rfl, fun _ => rfl⟩ rfl (Nat.le_of_ble_eq_true rfl) dX11_setWeight_1 (g_rc hR (Nat.le_of_ble_eq_true rfl) (Nat.le_of_ble_eq_true rfl)) (ck' := 0) (sk' := 0) rfl rfl (fun _ => rfl) (fun _ _ => ?_) (fun _ hx => absurd rfl hx)
  refine g_if_ne C 13 dX11_setWeight_4 (by decide) (fun c3 => ?_) (fun c3 => ?_)
  · have hf := opt_neg c3 hf
    refine g_iload_n C 2 dX11_setWeight_13 rfl ?_
    refine g_iconst C (v := 0) dX11_setWeight_14 (by decide) ?_
    refine g_iconst C (v := 3) dX11_setWeight_15 (by decide) ?_
    obtain ⟨v4, h5, hf⟩ := opt_bind hf
    refine g_callS C (c_X11_in (l := x_l X) (D := x_D X) (cy := x_y X) (p0 := p1) (p1 := 0) (p2 := 3) h5) (As := [.int p1, .int 0, .int 3]) (rest := []) (wr := (wM (x_y X) a thrown g saved hasSaved coef nodes nodeMany isDeep codes details levelMany given paper papered tape taped wrongAt at_ value readPlace readValue readEpoch)) (ws' := fun _ => (wM (x_y X) a thrown g saved hasSaved coef nodes nodeMany isDeep codes details levelMany given paper papered tape taped wrongAt at_ value readPlace readValue readEpoch)) (st' := fun _ => [.int v4]) 3 mw_7_41 mw_1_9 mw_7_39 mw_7_40 hd_X11_in rfl (g_rm hR rfl rfl) [] [0, 1, 2, 3, 4, 5, 6, 7, 8, 9] [0, 1, 2, 3, 4, 5, 6, 7, 8, 9] ⟨rfl, rfl, rfl, rfl, by decide, gRoIn_0, rfl, fun _ => rfl⟩ rfl (Nat.le_of_ble_eq_true rfl) dX11_setWeight_16 (g_rc hR (Nat.le_of_ble_eq_true rfl) (Nat.le_of_ble_eq_true rfl)) (ck' := 0) (sk' := 0) rfl rfl (fun _ => rfl) (fun _ _ => ?_) (fun _ hx => absurd rfl hx)
    refine g_if_ne C 28 dX11_setWeight_19 (by decide) (fun c6 => ?_) (fun c6 => ?_)
    · have hf := opt_neg c6 hf
      refine g_aload_n C 0 dX11_setWeight_28 rfl ?_
      refine g_get C 0 1 rfl rfl wiX11 (by decide) mw_6_185 rfl rfl dX11_setWeight_29 ?_
      refine g_iconst C (v := 1) dX11_setWeight_32 (by decide) ?_
      refine g_iload_n C 1 dX11_setWeight_33 rfl ?_
      refine g_iadd C dX11_setWeight_34 ?_
      obtain ⟨c7, hf⟩ := gg_of hf
      refine g_iald C 1 rfl (gi_in c7) dX11_setWeight_35 ?_
      obtain ⟨x8, ex8, hf⟩ := opt_let hf
      refine g_topi ex8 ?_
      refine g_istore_n C (lv' := [(3, .int x8), (0, .ref (a 0)), (1, .int p0), (2, .int p1)]) dX11_setWeight_36 (g_nlt hn rfl) rfl ?_
      refine g_aload_n C 1 dX11_setWeight_37 rfl ?_
      refine g_get C 0 1 rfl rfl wiX11 (by decide) mw_6_185 rfl rfl dX11_setWeight_38 ?_
      refine g_iconst C (v := 1) dX11_setWeight_41 (by decide) ?_
      refine g_iload_n C 2 dX11_setWeight_42 rfl ?_
      refine g_iadd C dX11_setWeight_43 ?_
      refine g_iload_n C 3 dX11_setWeight_44 rfl ?_
      obtain ⟨c9, hf⟩ := gg_of hf
      obtain ⟨f10, ef10, hf⟩ := opt_let hf
      refine g_iast C (ws' := (wM (x_y X) a thrown f10 saved hasSaved coef nodes nodeMany isDeep codes details levelMany given paper papered tape taped wrongAt at_ value readPlace readValue readEpoch)) 1 rfl (gi_in c9) (by rw [ef10]; rfl) dX11_setWeight_45 ?_
      refine g_aload_n C 1 dX11_setWeight_46 rfl ?_
      refine g_iload_n C 0 dX11_setWeight_47 rfl ?_
      obtain ⟨v11, h12, hf⟩ := opt_bind hf
      refine g_callV C (c_X11_done (l := x_l X) (D := x_D X) (cy := x_y X) (a := a) (thrown := thrown) (g := f10) (saved := saved) (hasSaved := hasSaved) (coef := coef) (nodes := nodes) (nodeMany := nodeMany) (isDeep := isDeep) (codes := codes) (details := details) (levelMany := levelMany) (given := given) (paper := paper) (papered := papered) (tape := tape) (taped := taped) (wrongAt := wrongAt) (at_ := at_) (value := value) (readPlace := readPlace) (readValue := readValue) (readEpoch := readEpoch) (p0 := x8) h12) (As := [.int x8]) (rest := []) (wr := []) (ws' := fun _ => (wM (x_y X) a v11.2 f10 saved hasSaved coef nodes nodeMany isDeep codes details levelMany given paper papered tape taped wrongAt at_ value readPlace readValue readEpoch)) (st' := fun _ => [.int v11.1]) (ci := 12) 1 0 ⟨_, rfl⟩ rfl rfl mw_7_22 mw_1_9 mw_7_19 mw_7_21 mp_29 hd_X11_done rfl (g_rm hR rfl rfl) [0, 1, 2, 3, 4, 5, 6, 7, 8, 9] [] [0, 1, 2, 3, 4, 5, 6, 7, 8, 9] ⟨rfl, rfl, rfl, rfl, by decide, gRoIn_0, rfl, fun _ => rfl⟩ rfl (Nat.le_of_ble_eq_true rfl) dX11_setWeight_48 (g_rc hR (Nat.le_of_ble_eq_true rfl) (Nat.le_of_ble_eq_true rfl)) (ck' := 0) (sk' := 0) rfl rfl (fun _ => rfl) (fun _ _ => ?_) (fun _ hx => absurd rfl hx)
      obtain rfl := Option.some.inj hf
      exact g_iret C E () dX11_setWeight_51 rfl rfl rfl (Nat.le_of_ble_eq_true rfl) (Nat.le_of_ble_eq_true rfl)
    · have hf := opt_pos c6 hf
      refine g_aload_n C 0 dX11_setWeight_22 rfl ?_
      refine g_iconst C (v := 2) dX11_setWeight_23 (by decide) ?_
      obtain ⟨v13, h14, hf⟩ := opt_bind hf
      refine g_callV C (c_X11_fails (l := x_l X) (D := x_D X) (cy := x_y X) (a := a) (thrown := thrown) (g := g) (saved := saved) (hasSaved := hasSaved) (coef := coef) (nodes := nodes) (nodeMany := nodeMany) (isDeep := isDeep) (codes := codes) (details := details) (levelMany := levelMany) (given := given) (paper := paper) (papered := papered) (tape := tape) (taped := taped) (wrongAt := wrongAt) (at_ := at_) (value := value) (readPlace := readPlace) (readValue := readValue) (readEpoch := readEpoch) (p0 := 2) h14) (As := [.int 2]) (rest := []) (wr := []) (ws' := fun _ => (wM (x_y X) a v13.2 g saved hasSaved coef nodes nodeMany isDeep codes details levelMany given paper papered tape taped wrongAt at_ value readPlace readValue readEpoch)) (st' := fun _ => [.int v13.1]) (ci := 12) 1 0 ⟨_, rfl⟩ rfl rfl mw_7_45 mw_1_9 mw_7_42 mw_7_44 mp_31 hd_X11_fails rfl (g_rm hR rfl rfl) [0, 1, 2, 3, 4, 5, 6, 7, 8, 9] [] [0, 1, 2, 3, 4, 5, 6, 7, 8, 9] ⟨rfl, rfl, rfl, rfl, by decide, gRoIn_0, rfl, fun _ => rfl⟩ rfl (Nat.le_of_ble_eq_true rfl) dX11_setWeight_24 (g_rc hR (Nat.le_of_ble_eq_true rfl) (Nat.le_of_ble_eq_true rfl)) (ck' := 0) (sk' := 0) rfl rfl (fun _ => rfl) (fun _ _ => ?_) (fun _ hx => absurd rfl hx)
      obtain rfl := Option.some.inj hf
      exact g_iret C E () dX11_setWeight_27 rfl rfl rfl (Nat.le_of_ble_eq_true rfl) (Nat.le_of_ble_eq_true rfl)
  · have hf := opt_pos c3 hf
    refine g_aload_n C 0 dX11_setWeight_7 rfl ?_
    refine g_iconst C (v := 1) dX11_setWeight_8 (by decide) ?_
    obtain ⟨v15, h16, hf⟩ := opt_bind hf
    refine g_callV C (c_X11_fails (l := x_l X) (D := x_D X) (cy := x_y X) (a := a) (thrown := thrown) (g := g) (saved := saved) (hasSaved := hasSaved) (coef := coef) (nodes := nodes) (nodeMany := nodeMany) (isDeep := isDeep) (codes := codes) (details := details) (levelMany := levelMany) (given := given) (paper := paper) (papered := papered) (tape := tape) (taped := taped) (wrongAt := wrongAt) (at_ := at_) (value := value) (readPlace := readPlace) (readValue := readValue) (readEpoch := readEpoch) (p0 := 1) h16) (As := [.int 1]) (rest := []) (wr := []) (ws' := fun _ => (wM (x_y X) a v15.2 g saved hasSaved coef nodes nodeMany isDeep codes details levelMany given paper papered tape taped wrongAt at_ value readPlace readValue readEpoch)) (st' := fun _ => [.int v15.1]) (ci := 12) 1 0 ⟨_, rfl⟩ rfl rfl mw_7_45 mw_1_9 mw_7_42 mw_7_44 mp_31 hd_X11_fails rfl (g_rm hR rfl rfl) [0, 1, 2, 3, 4, 5, 6, 7, 8, 9] [] [0, 1, 2, 3, 4, 5, 6, 7, 8, 9] ⟨rfl, rfl, rfl, rfl, by decide, gRoIn_0, rfl, fun _ => rfl⟩ rfl (Nat.le_of_ble_eq_true rfl) dX11_setWeight_9 (g_rc hR (Nat.le_of_ble_eq_true rfl) (Nat.le_of_ble_eq_true rfl)) (ck' := 0) (sk' := 0) rfl rfl (fun _ => rfl) (fun _ _ => ?_) (fun _ hx => absurd rfl hx)
    obtain rfl := Option.some.inj hf
    exact g_iret C E () dX11_setWeight_12 rfl rfl rfl (Nat.le_of_ble_eq_true rfl) (Nat.le_of_ble_eq_true rfl)
/-! X11_setPresent -/
theorem hd_X11_setPresent : yX11_setPresent.cls ≠ "java/lang/invoke/MethodHandle" ∧ yX11_setPresent.cls ≠ "java/lang/invoke/VarHandle" ∧ (parseMethodDescriptor yX11_setPresent.desc).map (fun d => d.parameters.length) = some 2 := by decide +kernel
def F_X11_setPresent_L48   (thrown_48 : Int32) (g_48 : Nat → Int32) (l3_48 : Int32) (s0_48 : Int32) (s1_48 : Int32) : Option (Int32 × Int32 × (Nat → Int32)) := gg (gi s1_48 534) (gl (upd g_48 (Int32.toNatClampNeg s1_48) s0_48) fun f9 => gg (gnar .boolean l3_48) (some (l3_48, thrown_48, f9)))
def F_X11_setPresent_L13 (p0 : Int32) (p1 : Int32)  (thrown_13 : Int32) (g_13 : Nat → Int32) (s0_13 : Int32) : Option (Int32 × Int32 × (Nat → Int32)) := if s0_13 = 0 then ((F_X11_isPresent g_13 p0).bind fun v5 => if p1 = 0 then (F_X11_setPresent_L48 s0_13 g_13 v5 0 ((9 : Int32) + p0)) else (F_X11_setPresent_L48 s0_13 g_13 v5 1 ((9 : Int32) + p0))) else (some (0, s0_13, g_13))
def F_X11_setPresent (thrown : Int32) (g : Nat → Int32) (p0 : Int32) (p1 : Int32) : Option (Int32 × Int32 × (Nat → Int32)) := (F_X11_isMember p0).bind fun v1 => if v1 = 0 then (F_X11_setPresent_L13 p0 p1 thrown g 1) else (F_X11_setPresent_L13 p0 p1 thrown g 0)
set_option maxRecDepth 100000 in
set_option maxHeartbeats 4000000 in
theorem c_X11_setPresent {l : Launch} {D : va_G} {cy : Nat → ClassId} {a : Nat → Nat} {thrown : Int32} {g : Nat → Int32} {saved : Nat → Int32} {hasSaved : Int32} {coef : Nat → Int32} {nodes : Nat → Int32} {nodeMany : Int32} {isDeep : Int32} {codes : Nat → Int32} {details : Nat → Int32} {levelMany : Int32} {given : Nat → Int32} {paper : Nat → Int32} {papered : Int32} {tape : Nat → Int32} {taped : Int32} {wrongAt : Int32} {at_ : Int32} {value : Int32} {readPlace : Int32} {readValue : Int32} {readEpoch : Int32} {p0 : Int32} {p1 : Int32}  {val : Int32 × Int32 × (Nat → Int32)} (hf : F_X11_setPresent thrown g p0 p1 = some val) : gCt l D cy yX11_setPresent cX11_setPresent 4 (some .boolean) 2 42 0 0 [.ref (a 0), .int p0, .int p1] [] ((wM cy a thrown g saved hasSaved coef nodes nodeMany isDeep codes details levelMany given paper papered tape taped wrongAt at_ value readPlace readValue readEpoch)) 0 (fun _ : Unit => some (.int val.1)) (fun _ => (wM cy a val.2.1 val.2.2 saved hasSaved coef nodes nodeMany isDeep codes details levelMany given paper papered tape taped wrongAt at_ value readPlace readValue readEpoch)) := by
  refine g_begin (by decide +kernel) (Nat.le_of_ble_eq_true rfl) ?_
  intro X Q hl hR hD hy hro hn C hin E
  subst hl; subst hD; subst hy
  replace C : gC X "SecretVaultModel" cX11_setPresent (some .boolean) := C
  unfold F_X11_setPresent at hf
  have H48 : ∀ (thrown_48 : Int32) (g_48 : Nat → Int32) (l3_48 : Int32) (s0_48 : Int32) (s1_48 : Int32), F_X11_setPresent_L48 thrown_48 g_48 l3_48 s0_48 s1_48 = some val → gW X Q 0 0 ((wM (x_y X) a thrown_48 g_48 saved hasSaved coef nodes nodeMany isDeep codes details levelMany given paper papered tape taped wrongAt at_ value readPlace readValue readEpoch)) [(0, .ref (a 0)), (1, .int p0), (2, .int p1), (3, .int l3_48)] [.int s0_48, .int s1_48, .ref (a 1)] 48 := by
    intro thrown_48 g_48 l3_48 s0_48 s1_48 hf
    unfold F_X11_setPresent_L48 at hf
    obtain ⟨c8, hf⟩ := gg_of hf
    obtain ⟨f9, ef9, hf⟩ := opt_let hf
    refine g_iast C (ws' := (wM (x_y X) a thrown_48 f9 saved hasSaved coef nodes nodeMany isDeep codes details levelMany given paper papered tape taped wrongAt at_ value readPlace readValue readEpoch)) 1 rfl (gi_in c8) (by rw [ef9]; rfl) dX11_setPresent_48 ?_
    refine g_iload_n C 3 dX11_setPresent_49 rfl ?_
    obtain ⟨c10, hf⟩ := gg_of hf
    obtain rfl := Option.some.inj hf
    exact g_zret C E () (gnar_of c10) dX11_setPresent_50 rfl rfl rfl (Nat.le_of_ble_eq_true rfl) (Nat.le_of_ble_eq_true rfl)
  have H13 : ∀ (thrown_13 : Int32) (g_13 : Nat → Int32) (s0_13 : Int32), F_X11_setPresent_L13 p0 p1 thrown_13 g_13 s0_13 = some val → gW X Q 0 0 ((wM (x_y X) a thrown_13 g_13 saved hasSaved coef nodes nodeMany isDeep codes details levelMany given paper papered tape taped wrongAt at_ value readPlace readValue readEpoch)) [(0, .ref (a 0)), (1, .int p0), (2, .int p1)] [.int s0_13, .ref (a 0)] 13 := by
    intro thrown_13 g_13 s0_13 hf
    unfold F_X11_setPresent_L13 at hf
    refine g_put C (ws' := (wM (x_y X) a s0_13 g_13 saved hasSaved coef nodes nodeMany isDeep codes details levelMany given paper papered tape taped wrongAt at_ value readPlace readValue readEpoch)) 0 0 rfl rfl wiX11 (by decide) tyX11_ok nmX11 mw_6_184 rfl rfl rfl rfl (Nat.le_of_ble_eq_true rfl) rfl dX11_setPresent_13 ?_
    refine g_aload_n C 0 dX11_setPresent_16 rfl ?_
    refine g_get C 0 0 rfl rfl wiX11 (by decide) mw_6_184 rfl rfl dX11_setPresent_17 ?_
    refine g_if_eq C 25 dX11_setPresent_20 (by decide) (fun c4 => ?_) (fun c4 => ?_)
    · have hf := opt_pos c4 hf
      refine g_aload_n C 0 dX11_setPresent_25 rfl ?_
      refine g_iload_n C 1 dX11_setPresent_26 rfl ?_
      obtain ⟨v5, h6, hf⟩ := opt_bind hf
      refine g_callV C (c_X11_isPresent (l := x_l X) (D := x_D X) (cy := x_y X) (a := a) (thrown := s0_13) (g := g_13) (saved := saved) (hasSaved := hasSaved) (coef := coef) (nodes := nodes) (nodeMany := nodeMany) (isDeep := isDeep) (codes := codes) (details := details) (levelMany := levelMany) (given := given) (paper := paper) (papered := papered) (tape := tape) (taped := taped) (wrongAt := wrongAt) (at_ := at_) (value := value) (readPlace := readPlace) (readValue := readValue) (readEpoch := readEpoch) (p0 := p0) h6) (As := [.int p0]) (rest := []) (wr := []) (ws' := fun _ => (wM (x_y X) a s0_13 g_13 saved hasSaved coef nodes nodeMany isDeep codes details levelMany given paper papered tape taped wrongAt at_ value readPlace readValue readEpoch)) (st' := fun _ => [.int v5]) (ci := 12) 1 0 ⟨_, rfl⟩ rfl rfl mw_7_53 mw_1_9 mw_7_50 mw_7_52 mp_32 hd_X11_isPresent rfl (g_rm hR rfl rfl) [0, 1, 2, 3, 4, 5, 6, 7, 8, 9] [] [0, 1, 2, 3, 4, 5, 6, 7, 8, 9] ⟨rfl, rfl, rfl, rfl, by decide, gRoIn_0, rfl, fun _ => rfl⟩ rfl (Nat.le_of_ble_eq_true rfl) dX11_setPresent_27 (g_rc hR (Nat.le_of_ble_eq_true rfl) (Nat.le_of_ble_eq_true rfl)) (ck' := 0) (sk' := 0) rfl rfl (fun _ => rfl) (fun _ _ => ?_) (fun _ hx => absurd rfl hx)
      refine g_istore_n C (lv' := [(3, .int v5), (0, .ref (a 0)), (1, .int p0), (2, .int p1)]) dX11_setPresent_30 (g_nlt hn rfl) rfl ?_
      refine g_aload_n C 1 dX11_setPresent_31 rfl ?_
      refine g_get C 0 1 rfl rfl wiX11 (by decide) mw_6_185 rfl rfl dX11_setPresent_32 ?_
      refine g_bipush C (v := 9) dX11_setPresent_35 (by decide) ?_
      refine g_iload_n C 2 dX11_setPresent_37 rfl ?_
      refine g_iadd C dX11_setPresent_38 ?_
      refine g_iload_n C 3 dX11_setPresent_39 rfl ?_
      refine g_if_eq C 47 dX11_setPresent_40 (by decide) (fun c7 => ?_) (fun c7 => ?_)
      · have hf := opt_pos c7 hf
        refine g_iconst C (v := 0) dX11_setPresent_47 (by decide) ?_
        refine gW.locals [1, 2, 3, 0] rfl ?_
        exact H48 s0_13 g_13 v5 0 ((9 : Int32) + p0) hf
      · have hf := opt_neg c7 hf
        refine g_iconst C (v := 1) dX11_setPresent_43 (by decide) ?_
        refine g_goto C 48 dX11_setPresent_44 (by decide) ?_
        refine gW.locals [1, 2, 3, 0] rfl ?_
        exact H48 s0_13 g_13 v5 1 ((9 : Int32) + p0) hf
    · have hf := opt_neg c4 hf
      refine g_iconst C (v := 0) dX11_setPresent_23 (by decide) ?_
      obtain rfl := Option.some.inj hf
      exact g_zret C E () rfl dX11_setPresent_24 rfl rfl rfl (Nat.le_of_ble_eq_true rfl) (Nat.le_of_ble_eq_true rfl)
  show gW X Q 0 0 ((wM (x_y X) a thrown g saved hasSaved coef nodes nodeMany isDeep codes details levelMany given paper papered tape taped wrongAt at_ value readPlace readValue readEpoch)) [(0, .ref (a 0)), (1, .int p0), (2, .int p1)] [] 0
  refine g_aload_n C 0 dX11_setPresent_0 rfl ?_
  refine g_iload_n C 1 dX11_setPresent_1 rfl ?_
  obtain ⟨v1, h2, hf⟩ := opt_bind hf
  refine g_callS C (c_X11_isMember (l := x_l X) (D := x_D X) (cy := x_y X) (p0 := p0) h2) (As := [.int p0]) (rest := [.ref (a 0)]) (wr := (wM (x_y X) a thrown g saved hasSaved coef nodes nodeMany isDeep codes details levelMany given paper papered tape taped wrongAt at_ value readPlace readValue readEpoch)) (ws' := fun _ => (wM (x_y X) a thrown g saved hasSaved coef nodes nodeMany isDeep codes details levelMany given paper papered tape taped wrongAt at_ value readPlace readValue readEpoch)) (st' := fun _ => [.int v1, .ref (a 0)]) 1 mw_7_38 mw_1_9 mw_7_36 mw_7_37 hd_X11_isMember rfl (g_rm hR rfl rfl) [] [0, 1, 2, 3, 4, 5, 6, 7, 8, 9] [0, 1, 2, 3, 4, 5, 6, 7, 8, 9] ⟨rfl, rfl, rfl, rfl, by decide, gRoIn_0, rfl, fun _ => rfl⟩ rfl (Nat.le_of_ble_eq_true rfl) dX11_setPresent_2 (g_rc hR (Nat.le_of_ble_eq_true rfl) (Nat.le_of_ble_eq_true rfl)) (ck' := 0) (sk' := 0) rfl rfl (fun _ => rfl) (fun _ _ => ?_) (fun _ hx => absurd rfl hx)
  refine g_if_eq C 12 dX11_setPresent_5 (by decide) (fun c3 => ?_) (fun c3 => ?_)
  · have hf := opt_pos c3 hf
    refine g_iconst C (v := 1) dX11_setPresent_12 (by decide) ?_
    exact H13 thrown g 1 hf
  · have hf := opt_neg c3 hf
    refine g_iconst C (v := 0) dX11_setPresent_8 (by decide) ?_
    refine g_goto C 13 dX11_setPresent_9 (by decide) ?_
    exact H13 thrown g 0 hf
/-! X11_stateOf -/
theorem hd_X11_stateOf : yX11_stateOf.cls ≠ "java/lang/invoke/MethodHandle" ∧ yX11_stateOf.cls ≠ "java/lang/invoke/VarHandle" ∧ (parseMethodDescriptor yX11_stateOf.desc).map (fun d => d.parameters.length) = some 2 := by decide +kernel
def F_X11_stateOf_L100   (s0_100 : Int32) : Option (Int32) := some s0_100
def F_X11_stateOf_L26 (g : Nat → Int32) (p0 : Int32) (p1 : Int32)  : Nat → Int32 → Int32 → Int32 → Option (Int32)
  | 0, _, _, _ => none
  | n + 1, l3_26, l4_26, l5_26 => (F_X11_of g p0 1).bind fun v6 => if v6 ≤ l5_26 then ((F_X11_shareOf g p0 p1 1).bind fun v9 => (F_X11_power 4 v9 2039).bind fun v11 => if v11 = l3_26 then (F_X11_stateOf_L100 0) else (F_X11_stateOf_L100 2)) else ((F_X11_of g p0 ((3 : Int32) + l5_26)).bind fun v14 => (F_X11_power v14 l4_26 2039).bind fun v16 => gl ((l3_26 * v16) - (l3_26 * v16) / 2039 * 2039) fun x18 => gl ((l4_26 * p1) - (l4_26 * p1) / 1019 * 1019) fun x19 => F_X11_stateOf_L26 g p0 p1 n x18 x19 (l5_26 + 1))
def F_X11_stateOf (g : Nat → Int32) (p0 : Int32) (p1 : Int32) : Option (Int32) := (F_X11_shareOf g p0 p1 2).bind fun v1 => (F_X11_of g p0 2).bind fun v3 => if v1 = v3 then (F_X11_stateOf_L26 g p0 p1 1000 1 1 0) else (some 1)
set_option maxRecDepth 100000 in
set_option maxHeartbeats 4000000 in
theorem c_X11_stateOf {l : Launch} {D : va_G} {cy : Nat → ClassId} {a : Nat → Nat} {thrown : Int32} {g : Nat → Int32} {saved : Nat → Int32} {hasSaved : Int32} {coef : Nat → Int32} {nodes : Nat → Int32} {nodeMany : Int32} {isDeep : Int32} {codes : Nat → Int32} {details : Nat → Int32} {levelMany : Int32} {given : Nat → Int32} {paper : Nat → Int32} {papered : Int32} {tape : Nat → Int32} {taped : Int32} {wrongAt : Int32} {at_ : Int32} {value : Int32} {readPlace : Int32} {readValue : Int32} {readEpoch : Int32} {p0 : Int32} {p1 : Int32}  {val : Int32} (hf : F_X11_stateOf g p0 p1 = some val) : gCt l D cy yX11_stateOf cX11_stateOf 6 (some .int) 2 45 0 0 [.ref (a 0), .int p0, .int p1] [] ((wM cy a thrown g saved hasSaved coef nodes nodeMany isDeep codes details levelMany given paper papered tape taped wrongAt at_ value readPlace readValue readEpoch)) 0 (fun _ : Unit => some (.int val)) (fun _ => (wM cy a thrown g saved hasSaved coef nodes nodeMany isDeep codes details levelMany given paper papered tape taped wrongAt at_ value readPlace readValue readEpoch)) := by
  refine g_begin (by decide +kernel) (Nat.le_of_ble_eq_true rfl) ?_
  intro X Q hl hR hD hy hro hn C hin E
  subst hl; subst hD; subst hy
  replace C : gC X "SecretVaultModel" cX11_stateOf (some .int) := C
  unfold F_X11_stateOf at hf
  have H100 : ∀ (s0_100 : Int32), F_X11_stateOf_L100 s0_100 = some val → gW X Q 0 0 ((wM (x_y X) a thrown g saved hasSaved coef nodes nodeMany isDeep codes details levelMany given paper papered tape taped wrongAt at_ value readPlace readValue readEpoch)) [(0, .ref (a 0)), (1, .int p0), (2, .int p1)] [.int s0_100] 100 := by
    intro s0_100 hf
    unfold F_X11_stateOf_L100 at hf
    obtain rfl := Option.some.inj hf
    exact g_iret C E () dX11_stateOf_100 rfl rfl rfl (Nat.le_of_ble_eq_true rfl) (Nat.le_of_ble_eq_true rfl)
  have H26 : ∀ (n26 : Nat), ∀ (l3_26 : Int32) (l4_26 : Int32) (l5_26 : Int32), F_X11_stateOf_L26 g p0 p1 n26 l3_26 l4_26 l5_26 = some val → gW X Q 0 0 ((wM (x_y X) a thrown g saved hasSaved coef nodes nodeMany isDeep codes details levelMany given paper papered tape taped wrongAt at_ value readPlace readValue readEpoch)) [(0, .ref (a 0)), (1, .int p0), (2, .int p1), (3, .int l3_26), (4, .int l4_26), (5, .int l5_26)] [] 26 := by
    intro n26
    induction n26 with
    | zero => intros; rename_i hf; cases hf
    | succ n26 ih =>
      intro l3_26 l4_26 l5_26 hf
      have H26 := ih
      rw [F_X11_stateOf_L26] at hf
      refine g_iload C 5 dX11_stateOf_26 rfl ?_
      refine g_aload_n C 0 dX11_stateOf_28 rfl ?_
      refine g_iload_n C 1 dX11_stateOf_29 rfl ?_
      refine g_iconst C (v := 1) dX11_stateOf_30 (by decide) ?_
      obtain ⟨v6, h7, hf⟩ := opt_bind hf
      refine g_callV C (c_X11_of (l := x_l X) (D := x_D X) (cy := x_y X) (a := a) (thrown := thrown) (g := g) (saved := saved) (hasSaved := hasSaved) (coef := coef) (nodes := nodes) (nodeMany := nodeMany) (isDeep := isDeep) (codes := codes) (details := details) (levelMany := levelMany) (given := given) (paper := paper) (papered := papered) (tape := tape) (taped := taped) (wrongAt := wrongAt) (at_ := at_) (value := value) (readPlace := readPlace) (readValue := readValue) (readEpoch := readEpoch) (p0 := p0) (p1 := 1) h7) (As := [.int p0, .int 1]) (rest := [.int l5_26]) (wr := []) (ws' := fun _ => (wM (x_y X) a thrown g saved hasSaved coef nodes nodeMany isDeep codes details levelMany given paper papered tape taped wrongAt at_ value readPlace readValue readEpoch)) (st' := fun _ => [.int v6, .int l5_26]) (ci := 12) 2 0 ⟨_, rfl⟩ rfl rfl mw_7_69 mw_1_9 mw_7_66 mw_7_68 mp_35 hd_X11_of rfl (g_rm hR rfl rfl) [0, 1, 2, 3, 4, 5, 6, 7, 8, 9] [] [0, 1, 2, 3, 4, 5, 6, 7, 8, 9] ⟨rfl, rfl, rfl, rfl, by decide, gRoIn_0, rfl, fun _ => rfl⟩ rfl (Nat.le_of_ble_eq_true rfl) dX11_stateOf_31 (g_rc hR (Nat.le_of_ble_eq_true rfl) (Nat.le_of_ble_eq_true rfl)) (ck' := 0) (sk' := 0) rfl rfl (fun _ => rfl) (fun _ _ => ?_) (fun _ hx => absurd rfl hx)
      refine g_icmp_ge C 77 dX11_stateOf_34 (by decide) (fun c8 => ?_) (fun c8 => ?_)
      · have hf := opt_pos c8 hf
        refine g_iconst C (v := 4) dX11_stateOf_77 (by decide) ?_
        refine g_aload_n C 0 dX11_stateOf_78 rfl ?_
        refine g_iload_n C 1 dX11_stateOf_79 rfl ?_
        refine g_iload_n C 2 dX11_stateOf_80 rfl ?_
        refine g_iconst C (v := 1) dX11_stateOf_81 (by decide) ?_
        obtain ⟨v9, h10, hf⟩ := opt_bind hf
        refine g_callV C (c_X11_shareOf (l := x_l X) (D := x_D X) (cy := x_y X) (a := a) (thrown := thrown) (g := g) (saved := saved) (hasSaved := hasSaved) (coef := coef) (nodes := nodes) (nodeMany := nodeMany) (isDeep := isDeep) (codes := codes) (details := details) (levelMany := levelMany) (given := given) (paper := paper) (papered := papered) (tape := tape) (taped := taped) (wrongAt := wrongAt) (at_ := at_) (value := value) (readPlace := readPlace) (readValue := readValue) (readEpoch := readEpoch) (p0 := p0) (p1 := p1) (p2 := 1) h10) (As := [.int p0, .int p1, .int 1]) (rest := [.int 4]) (wr := []) (ws' := fun _ => (wM (x_y X) a thrown g saved hasSaved coef nodes nodeMany isDeep codes details levelMany given paper papered tape taped wrongAt at_ value readPlace readValue readEpoch)) (st' := fun _ => [.int v9, .int 4]) (ci := 12) 3 0 ⟨_, rfl⟩ rfl rfl mw_7_65 mw_1_9 mw_7_62 mw_7_64 mp_34 hd_X11_shareOf rfl (g_rm hR rfl rfl) [0, 1, 2, 3, 4, 5, 6, 7, 8, 9] [] [0, 1, 2, 3, 4, 5, 6, 7, 8, 9] ⟨rfl, rfl, rfl, rfl, by decide, gRoIn_0, rfl, fun _ => rfl⟩ rfl (Nat.le_of_ble_eq_true rfl) dX11_stateOf_82 (g_rc hR (Nat.le_of_ble_eq_true rfl) (Nat.le_of_ble_eq_true rfl)) (ck' := 0) (sk' := 0) rfl rfl (fun _ => rfl) (fun _ _ => ?_) (fun _ hx => absurd rfl hx)
        refine g_sipush C (v := 2039) dX11_stateOf_85 (by decide) ?_
        obtain ⟨v11, h12, hf⟩ := opt_bind hf
        refine g_callS C (c_X11_power (l := x_l X) (D := x_D X) (cy := x_y X) (p0 := 4) (p1 := v9) (p2 := 2039) h12) (As := [.int 4, .int v9, .int 2039]) (rest := []) (wr := (wM (x_y X) a thrown g saved hasSaved coef nodes nodeMany isDeep codes details levelMany given paper papered tape taped wrongAt at_ value readPlace readValue readEpoch)) (ws' := fun _ => (wM (x_y X) a thrown g saved hasSaved coef nodes nodeMany isDeep codes details levelMany given paper papered tape taped wrongAt at_ value readPlace readValue readEpoch)) (st' := fun _ => [.int v11]) 3 mw_7_76 mw_1_9 mw_7_74 mw_7_75 hd_X11_power rfl (g_rm hR rfl rfl) [] [0, 1, 2, 3, 4, 5, 6, 7, 8, 9] [0, 1, 2, 3, 4, 5, 6, 7, 8, 9] ⟨rfl, rfl, rfl, rfl, by decide, gRoIn_0, rfl, fun _ => rfl⟩ rfl (Nat.le_of_ble_eq_true rfl) dX11_stateOf_88 (g_rc hR (Nat.le_of_ble_eq_true rfl) (Nat.le_of_ble_eq_true rfl)) (ck' := 0) (sk' := 0) rfl rfl (fun _ => rfl) (fun _ _ => ?_) (fun _ hx => absurd rfl hx)
        refine g_iload_n C 3 dX11_stateOf_91 rfl ?_
        refine g_icmp_ne C 99 dX11_stateOf_92 (by decide) (fun c13 => ?_) (fun c13 => ?_)
        · have hf := opt_neg c13 hf
          refine g_iconst C (v := 2) dX11_stateOf_99 (by decide) ?_
          refine gW.locals [0, 1, 2] rfl ?_
          exact H100 2 hf
        · have hf := opt_pos c13 hf
          refine g_iconst C (v := 0) dX11_stateOf_95 (by decide) ?_
          refine g_goto C 100 dX11_stateOf_96 (by decide) ?_
          refine gW.locals [0, 1, 2] rfl ?_
          exact H100 0 hf
      · have hf := opt_neg c8 hf
        refine g_iload_n C 3 dX11_stateOf_37 rfl ?_
        refine g_aload_n C 0 dX11_stateOf_38 rfl ?_
        refine g_iload_n C 1 dX11_stateOf_39 rfl ?_
        refine g_iconst C (v := 3) dX11_stateOf_40 (by decide) ?_
        refine g_iload C 5 dX11_stateOf_41 rfl ?_
        refine g_iadd C dX11_stateOf_43 ?_
        obtain ⟨v14, h15, hf⟩ := opt_bind hf
        refine g_callV C (c_X11_of (l := x_l X) (D := x_D X) (cy := x_y X) (a := a) (thrown := thrown) (g := g) (saved := saved) (hasSaved := hasSaved) (coef := coef) (nodes := nodes) (nodeMany := nodeMany) (isDeep := isDeep) (codes := codes) (details := details) (levelMany := levelMany) (given := given) (paper := paper) (papered := papered) (tape := tape) (taped := taped) (wrongAt := wrongAt) (at_ := at_) (value := value) (readPlace := readPlace) (readValue := readValue) (readEpoch := readEpoch) (p0 := p0) (p1 := (3 : Int32) + l5_26) h15) (As := [.int p0, .int ((3 : Int32) + l5_26)]) (rest := [.int l3_26]) (wr := []) (ws' := fun _ => (wM (x_y X) a thrown g saved hasSaved coef nodes nodeMany isDeep codes details levelMany given paper papered tape taped wrongAt at_ value readPlace readValue readEpoch)) (st' := fun _ => [.int v14, .int l3_26]) (ci := 12) 2 0 ⟨_, rfl⟩ rfl rfl mw_7_69 mw_1_9 mw_7_66 mw_7_68 mp_35 hd_X11_of rfl (g_rm hR rfl rfl) [0, 1, 2, 3, 4, 5, 6, 7, 8, 9] [] [0, 1, 2, 3, 4, 5, 6, 7, 8, 9] ⟨rfl, rfl, rfl, rfl, by decide, gRoIn_0, rfl, fun _ => rfl⟩ rfl (Nat.le_of_ble_eq_true rfl) dX11_stateOf_44 (g_rc hR (Nat.le_of_ble_eq_true rfl) (Nat.le_of_ble_eq_true rfl)) (ck' := 0) (sk' := 0) rfl rfl (fun _ => rfl) (fun _ _ => ?_) (fun _ hx => absurd rfl hx)
        refine g_iload C 4 dX11_stateOf_47 rfl ?_
        refine g_sipush C (v := 2039) dX11_stateOf_49 (by decide) ?_
        obtain ⟨v16, h17, hf⟩ := opt_bind hf
        refine g_callS C (c_X11_power (l := x_l X) (D := x_D X) (cy := x_y X) (p0 := v14) (p1 := l4_26) (p2 := 2039) h17) (As := [.int v14, .int l4_26, .int 2039]) (rest := [.int l3_26]) (wr := (wM (x_y X) a thrown g saved hasSaved coef nodes nodeMany isDeep codes details levelMany given paper papered tape taped wrongAt at_ value readPlace readValue readEpoch)) (ws' := fun _ => (wM (x_y X) a thrown g saved hasSaved coef nodes nodeMany isDeep codes details levelMany given paper papered tape taped wrongAt at_ value readPlace readValue readEpoch)) (st' := fun _ => [.int v16, .int l3_26]) 3 mw_7_76 mw_1_9 mw_7_74 mw_7_75 hd_X11_power rfl (g_rm hR rfl rfl) [] [0, 1, 2, 3, 4, 5, 6, 7, 8, 9] [0, 1, 2, 3, 4, 5, 6, 7, 8, 9] ⟨rfl, rfl, rfl, rfl, by decide, gRoIn_0, rfl, fun _ => rfl⟩ rfl (Nat.le_of_ble_eq_true rfl) dX11_stateOf_52 (g_rc hR (Nat.le_of_ble_eq_true rfl) (Nat.le_of_ble_eq_true rfl)) (ck' := 0) (sk' := 0) rfl rfl (fun _ => rfl) (fun _ _ => ?_) (fun _ hx => absurd rfl hx)
        refine g_imul C dX11_stateOf_55 ?_
        refine g_sipush C (v := 2039) dX11_stateOf_56 (by decide) ?_
        refine g_irem C dX11_stateOf_59 (by decide) ?_
        obtain ⟨x18, ex18, hf⟩ := opt_let hf
        refine g_topi ex18 ?_
        refine g_istore_n C (lv' := [(3, .int x18), (0, .ref (a 0)), (1, .int p0), (2, .int p1), (4, .int l4_26), (5, .int l5_26)]) dX11_stateOf_60 (g_nlt hn rfl) rfl ?_
        refine g_iload C 4 dX11_stateOf_61 rfl ?_
        refine g_iload_n C 3 dX11_stateOf_63 rfl ?_
        refine g_imul C dX11_stateOf_64 ?_
        refine g_sipush C (v := 1019) dX11_stateOf_65 (by decide) ?_
        refine g_irem C dX11_stateOf_68 (by decide) ?_
        obtain ⟨x19, ex19, hf⟩ := opt_let hf
        refine g_topi ex19 ?_
        refine g_istore C (lv' := [(4, .int x19), (3, .int x18), (0, .ref (a 0)), (1, .int p0), (2, .int p1), (5, .int l5_26)]) dX11_stateOf_69 (g_nlt hn rfl) rfl ?_
        refine g_iinc C 5 (v := l5_26 + 1) (lv' := [(5, .int (l5_26 + 1)), (4, .int x19), (3, .int x18), (0, .ref (a 0)), (1, .int p0), (2, .int p1)]) dX11_stateOf_71 rfl rfl (g_nlt hn rfl) rfl ?_
        refine g_goto C 26 dX11_stateOf_74 (by decide) ?_
        refine gW.locals [3, 4, 5, 2, 1, 0] rfl ?_
        exact H26 x18 x19 (l5_26 + 1) hf
  show gW X Q 0 0 ((wM (x_y X) a thrown g saved hasSaved coef nodes nodeMany isDeep codes details levelMany given paper papered tape taped wrongAt at_ value readPlace readValue readEpoch)) [(0, .ref (a 0)), (1, .int p0), (2, .int p1)] [] 0
  refine g_aload_n C 0 dX11_stateOf_0 rfl ?_
  refine g_iload_n C 1 dX11_stateOf_1 rfl ?_
  refine g_iload_n C 2 dX11_stateOf_2 rfl ?_
  refine g_iconst C (v := 2) dX11_stateOf_3 (by decide) ?_
  obtain ⟨v1, h2, hf⟩ := opt_bind hf
  refine g_callV C (c_X11_shareOf (l := x_l X) (D := x_D X) (cy := x_y X) (a := a) (thrown := thrown) (g := g) (saved := saved) (hasSaved := hasSaved) (coef := coef) (nodes := nodes) (nodeMany := nodeMany) (isDeep := isDeep) (codes := codes) (details := details) (levelMany := levelMany) (given := given) (paper := paper) (papered := papered) (tape := tape) (taped := taped) (wrongAt := wrongAt) (at_ := at_) (value := value) (readPlace := readPlace) (readValue := readValue) (readEpoch := readEpoch) (p0 := p0) (p1 := p1) (p2 := 2) h2) (As := [.int p0, .int p1, .int 2]) (rest := []) (wr := []) (ws' := fun _ => (wM (x_y X) a thrown g saved hasSaved coef nodes nodeMany isDeep codes details levelMany given paper papered tape taped wrongAt at_ value readPlace readValue readEpoch)) (st' := fun _ => [.int v1]) (ci := 12) 3 0 ⟨_, rfl⟩ rfl rfl mw_7_65 mw_1_9 mw_7_62 mw_7_64 mp_34 hd_X11_shareOf rfl (g_rm hR rfl rfl) [0, 1, 2, 3, 4, 5, 6, 7, 8, 9] [] [0, 1, 2, 3, 4, 5, 6, 7, 8, 9] ⟨rfl, rfl, rfl, rfl, by decide, gRoIn_0, rfl, fun _ => rfl⟩ rfl (Nat.le_of_ble_eq_true rfl) dX11_stateOf_4 (g_rc hR (Nat.le_of_ble_eq_true rfl) (Nat.le_of_ble_eq_true rfl)) (ck' := 0) (sk' := 0) rfl rfl (fun _ => rfl) (fun _ _ => ?_) (fun _ hx => absurd rfl hx)
  refine g_aload_n C 0 dX11_stateOf_7 rfl ?_
  refine g_iload_n C 1 dX11_stateOf_8 rfl ?_
  refine g_iconst C (v := 2) dX11_stateOf_9 (by decide) ?_
  obtain ⟨v3, h4, hf⟩ := opt_bind hf
  refine g_callV C (c_X11_of (l := x_l X) (D := x_D X) (cy := x_y X) (a := a) (thrown := thrown) (g := g) (saved := saved) (hasSaved := hasSaved) (coef := coef) (nodes := nodes) (nodeMany := nodeMany) (isDeep := isDeep) (codes := codes) (details := details) (levelMany := levelMany) (given := given) (paper := paper) (papered := papered) (tape := tape) (taped := taped) (wrongAt := wrongAt) (at_ := at_) (value := value) (readPlace := readPlace) (readValue := readValue) (readEpoch := readEpoch) (p0 := p0) (p1 := 2) h4) (As := [.int p0, .int 2]) (rest := [.int v1]) (wr := []) (ws' := fun _ => (wM (x_y X) a thrown g saved hasSaved coef nodes nodeMany isDeep codes details levelMany given paper papered tape taped wrongAt at_ value readPlace readValue readEpoch)) (st' := fun _ => [.int v3, .int v1]) (ci := 12) 2 0 ⟨_, rfl⟩ rfl rfl mw_7_69 mw_1_9 mw_7_66 mw_7_68 mp_35 hd_X11_of rfl (g_rm hR rfl rfl) [0, 1, 2, 3, 4, 5, 6, 7, 8, 9] [] [0, 1, 2, 3, 4, 5, 6, 7, 8, 9] ⟨rfl, rfl, rfl, rfl, by decide, gRoIn_0, rfl, fun _ => rfl⟩ rfl (Nat.le_of_ble_eq_true rfl) dX11_stateOf_10 (g_rc hR (Nat.le_of_ble_eq_true rfl) (Nat.le_of_ble_eq_true rfl)) (ck' := 0) (sk' := 0) rfl rfl (fun _ => rfl) (fun _ _ => ?_) (fun _ hx => absurd rfl hx)
  refine g_icmp_eq C 18 dX11_stateOf_13 (by decide) (fun c5 => ?_) (fun c5 => ?_)
  · have hf := opt_pos c5 hf
    refine g_iconst C (v := 1) dX11_stateOf_18 (by decide) ?_
    refine g_istore_n C (lv' := [(3, .int 1), (0, .ref (a 0)), (1, .int p0), (2, .int p1)]) dX11_stateOf_19 (g_nlt hn rfl) rfl ?_
    refine g_iconst C (v := 1) dX11_stateOf_20 (by decide) ?_
    refine g_istore C (lv' := [(4, .int 1), (3, .int 1), (0, .ref (a 0)), (1, .int p0), (2, .int p1)]) dX11_stateOf_21 (g_nlt hn rfl) rfl ?_
    refine g_iconst C (v := 0) dX11_stateOf_23 (by decide) ?_
    refine g_istore C (lv' := [(5, .int 0), (4, .int 1), (3, .int 1), (0, .ref (a 0)), (1, .int p0), (2, .int p1)]) dX11_stateOf_24 (g_nlt hn rfl) rfl ?_
    refine gW.locals [3, 4, 5, 2, 1, 0] rfl ?_
    exact H26 1000 1 1 0 hf
  · have hf := opt_neg c5 hf
    refine g_iconst C (v := 1) dX11_stateOf_16 (by decide) ?_
    obtain rfl := Option.some.inj hf
    exact g_iret C E () dX11_stateOf_17 rfl rfl rfl (Nat.le_of_ble_eq_true rfl) (Nat.le_of_ble_eq_true rfl)
/-! X11_member -/
theorem hd_X11_member : yX11_member.cls ≠ "java/lang/invoke/MethodHandle" ∧ yX11_member.cls ≠ "java/lang/invoke/VarHandle" ∧ (parseMethodDescriptor yX11_member.desc).map (fun d => d.parameters.length) = some 2 := by decide +kernel
def F_X11_member_L116  (K60 : Int32 → Int32 → Int32 → Option (Int32 × Int32)) (K73 : Int32 → Int32 → Int32 → Int32 → Option (Int32 × Int32)) (thrown_116 : Int32) (l4_116 : Int32) (l5_116 : Int32) (s0_116 : Int32) (s1_116 : Int32) : Option (Int32 × Int32) := K73 thrown_116 (s1_116 + s0_116) l4_116 (l5_116 + 1)
def F_X11_member_L115  (K60 : Int32 → Int32 → Int32 → Option (Int32 × Int32)) (K73 : Int32 → Int32 → Int32 → Int32 → Option (Int32 × Int32)) (thrown_115 : Int32) (l4_115 : Int32) (l5_115 : Int32) (s0_115 : Int32) : Option (Int32 × Int32) := F_X11_member_L116 K60 K73 thrown_115 l4_115 l5_115 0 s0_115
def F_X11_member_L111  (K60 : Int32 → Int32 → Int32 → Option (Int32 × Int32)) (K73 : Int32 → Int32 → Int32 → Int32 → Option (Int32 × Int32)) (thrown_111 : Int32) (l4_111 : Int32) (l5_111 : Int32) (s0_111 : Int32) : Option (Int32 × Int32) := F_X11_member_L116 K60 K73 thrown_111 l4_111 l5_111 1 s0_111
def F_X11_member_L73 (g : Nat → Int32) (p0 : Int32) (p1 : Int32) (K60 : Int32 → Int32 → Int32 → Option (Int32 × Int32)) : Nat → Int32 → Int32 → Int32 → Int32 → Option (Int32 × Int32)
  | 0, _, _, _, _ => none
  | n + 1, thrown_73, l3_73, l4_73, l5_73 => if (((3 : Int32) * p0) + 3) < l5_73 then (K60 thrown_73 l3_73 (l4_73 + 1)) else ((F_X11_hasShare g l4_73 l5_73).bind fun v12 => if v12 = 0 then (F_X11_member_L115 K60 (F_X11_member_L73 g p0 p1 K60 n) thrown_73 l4_73 l5_73 l3_73) else (if p1 = 2 then (F_X11_member_L111 K60 (F_X11_member_L73 g p0 p1 K60 n) thrown_73 l4_73 l5_73 l3_73) else ((F_X11_stateOf g l4_73 l5_73).bind fun v16 => if v16 = 0 then (F_X11_member_L115 K60 (F_X11_member_L73 g p0 p1 K60 n) thrown_73 l4_73 l5_73 l3_73) else (F_X11_member_L111 K60 (F_X11_member_L73 g p0 p1 K60 n) thrown_73 l4_73 l5_73 l3_73))))
def F_X11_member_L60 (g : Nat → Int32) (p0 : Int32) (p1 : Int32)  : Nat → Int32 → Int32 → Int32 → Option (Int32 × Int32)
  | 0, _, _, _ => none
  | n + 1, thrown_60, l3_60, l4_60 => if 4 ≤ l4_60 then ((F_X11_done thrown_60 l3_60).bind fun v9 => some (v9.1, v9.2)) else (F_X11_member_L73 g p0 p1 (F_X11_member_L60 g p0 p1 n) 1000 thrown_60 l3_60 l4_60 (((3 : Int32) * p0) + 1))
def F_X11_member_L48 (g : Nat → Int32) (p0 : Int32)  (thrown_48 : Int32) (s0_48 : Int32) : Option (Int32 × Int32) := gg (gi (s0_48 + p0) 534) ((F_X11_done thrown_48 (g (Int32.toNatClampNeg (s0_48 + p0)))).bind fun v21 => some (v21.1, v21.2))
def F_X11_member (thrown : Int32) (g : Nat → Int32) (p0 : Int32) (p1 : Int32) : Option (Int32 × Int32) := (F_X11_isMember p0).bind fun v1 => if v1 = 0 then ((F_X11_fails thrown 1).bind fun v25 => some (v25.1, v25.2)) else ((F_X11_in p1 0 3).bind fun v4 => if v4 = 0 then ((F_X11_fails thrown 2).bind fun v23 => some (v23.1, v23.2)) else (if 2 ≤ p1 then (F_X11_member_L60 g p0 p1 1000 thrown 0 0) else (if p1 = 0 then (F_X11_member_L48 g p0 thrown 1) else (F_X11_member_L48 g p0 thrown 9))))
set_option maxRecDepth 100000 in
set_option maxHeartbeats 4000000 in
theorem c_X11_member {l : Launch} {D : va_G} {cy : Nat → ClassId} {a : Nat → Nat} {thrown : Int32} {g : Nat → Int32} {saved : Nat → Int32} {hasSaved : Int32} {coef : Nat → Int32} {nodes : Nat → Int32} {nodeMany : Int32} {isDeep : Int32} {codes : Nat → Int32} {details : Nat → Int32} {levelMany : Int32} {given : Nat → Int32} {paper : Nat → Int32} {papered : Int32} {tape : Nat → Int32} {taped : Int32} {wrongAt : Int32} {at_ : Int32} {value : Int32} {readPlace : Int32} {readValue : Int32} {readEpoch : Int32} {p0 : Int32} {p1 : Int32}  {val : Int32 × Int32} (hf : F_X11_member thrown g p0 p1 = some val) : gCt l D cy yX11_member cX11_member 6 (some .int) 3 70 0 0 [.ref (a 0), .int p0, .int p1] [] ((wM cy a thrown g saved hasSaved coef nodes nodeMany isDeep codes details levelMany given paper papered tape taped wrongAt at_ value readPlace readValue readEpoch)) 0 (fun _ : Unit => some (.int val.1)) (fun _ => (wM cy a val.2 g saved hasSaved coef nodes nodeMany isDeep codes details levelMany given paper papered tape taped wrongAt at_ value readPlace readValue readEpoch)) := by
  refine g_begin (by decide +kernel) (Nat.le_of_ble_eq_true rfl) ?_
  intro X Q hl hR hD hy hro hn C hin E
  subst hl; subst hD; subst hy
  replace C : gC X "SecretVaultModel" cX11_member (some .int) := C
  unfold F_X11_member at hf
  have H60 : ∀ (n60 : Nat), ∀ (thrown_60 : Int32) (l3_60 : Int32) (l4_60 : Int32), F_X11_member_L60 g p0 p1 n60 thrown_60 l3_60 l4_60 = some val → gW X Q 0 0 ((wM (x_y X) a thrown_60 g saved hasSaved coef nodes nodeMany isDeep codes details levelMany given paper papered tape taped wrongAt at_ value readPlace readValue readEpoch)) [(0, .ref (a 0)), (1, .int p0), (2, .int p1), (3, .int l3_60), (4, .int l4_60)] [] 60 := by
    intro n60
    induction n60 with
    | zero => intros; rename_i hf; cases hf
    | succ n60 ih =>
      intro thrown_60 l3_60 l4_60 hf
      have H60 := ih
      rw [F_X11_member_L60] at hf
      have H73 : ∀ (n73 : Nat), ∀ (thrown_73 : Int32) (l3_73 : Int32) (l4_73 : Int32) (l5_73 : Int32), F_X11_member_L73 g p0 p1 (F_X11_member_L60 g p0 p1 n60) n73 thrown_73 l3_73 l4_73 l5_73 = some val → gW X Q 0 0 ((wM (x_y X) a thrown_73 g saved hasSaved coef nodes nodeMany isDeep codes details levelMany given paper papered tape taped wrongAt at_ value readPlace readValue readEpoch)) [(0, .ref (a 0)), (1, .int p0), (2, .int p1), (3, .int l3_73), (4, .int l4_73), (5, .int l5_73)] [] 73 := by
        intro n73
        induction n73 with
        | zero => intros; rename_i hf; cases hf
        | succ n73 ih =>
          intro thrown_73 l3_73 l4_73 l5_73 hf
          have H73 := ih
          rw [F_X11_member_L73] at hf
          have H116 : ∀ (thrown_116 : Int32) (l4_116 : Int32) (l5_116 : Int32) (s0_116 : Int32) (s1_116 : Int32), F_X11_member_L116 (F_X11_member_L60 g p0 p1 n60) (F_X11_member_L73 g p0 p1 (F_X11_member_L60 g p0 p1 n60) n73) thrown_116 l4_116 l5_116 s0_116 s1_116 = some val → gW X Q 0 0 ((wM (x_y X) a thrown_116 g saved hasSaved coef nodes nodeMany isDeep codes details levelMany given paper papered tape taped wrongAt at_ value readPlace readValue readEpoch)) [(0, .ref (a 0)), (1, .int p0), (2, .int p1), (4, .int l4_116), (5, .int l5_116)] [.int s0_116, .int s1_116] 116 := by
            intro thrown_116 l4_116 l5_116 s0_116 s1_116 hf
            unfold F_X11_member_L116 at hf
            refine g_iadd C dX11_member_116 ?_
            refine g_istore_n C (lv' := [(3, .int (s1_116 + s0_116)), (0, .ref (a 0)), (1, .int p0), (2, .int p1), (4, .int l4_116), (5, .int l5_116)]) dX11_member_117 (g_nlt hn rfl) rfl ?_
            refine g_iinc C 5 (v := l5_116 + 1) (lv' := [(5, .int (l5_116 + 1)), (3, .int (s1_116 + s0_116)), (0, .ref (a 0)), (1, .int p0), (2, .int p1), (4, .int l4_116)]) dX11_member_118 rfl rfl (g_nlt hn rfl) rfl ?_
            refine g_goto C 73 dX11_member_121 (by decide) ?_
            refine gW.locals [2, 3, 4, 1, 5, 0] rfl ?_
            exact H73 thrown_116 (s1_116 + s0_116) l4_116 (l5_116 + 1) hf
          have H115 : ∀ (thrown_115 : Int32) (l4_115 : Int32) (l5_115 : Int32) (s0_115 : Int32), F_X11_member_L115 (F_X11_member_L60 g p0 p1 n60) (F_X11_member_L73 g p0 p1 (F_X11_member_L60 g p0 p1 n60) n73) thrown_115 l4_115 l5_115 s0_115 = some val → gW X Q 0 0 ((wM (x_y X) a thrown_115 g saved hasSaved coef nodes nodeMany isDeep codes details levelMany given paper papered tape taped wrongAt at_ value readPlace readValue readEpoch)) [(0, .ref (a 0)), (1, .int p0), (2, .int p1), (4, .int l4_115), (5, .int l5_115)] [.int s0_115] 115 := by
            intro thrown_115 l4_115 l5_115 s0_115 hf
            unfold F_X11_member_L115 at hf
            refine g_iconst C (v := 0) dX11_member_115 (by decide) ?_
            exact H116 thrown_115 l4_115 l5_115 0 s0_115 hf
          have H111 : ∀ (thrown_111 : Int32) (l4_111 : Int32) (l5_111 : Int32) (s0_111 : Int32), F_X11_member_L111 (F_X11_member_L60 g p0 p1 n60) (F_X11_member_L73 g p0 p1 (F_X11_member_L60 g p0 p1 n60) n73) thrown_111 l4_111 l5_111 s0_111 = some val → gW X Q 0 0 ((wM (x_y X) a thrown_111 g saved hasSaved coef nodes nodeMany isDeep codes details levelMany given paper papered tape taped wrongAt at_ value readPlace readValue readEpoch)) [(0, .ref (a 0)), (1, .int p0), (2, .int p1), (4, .int l4_111), (5, .int l5_111)] [.int s0_111] 111 := by
            intro thrown_111 l4_111 l5_111 s0_111 hf
            unfold F_X11_member_L111 at hf
            refine g_iconst C (v := 1) dX11_member_111 (by decide) ?_
            refine g_goto C 116 dX11_member_112 (by decide) ?_
            exact H116 thrown_111 l4_111 l5_111 1 s0_111 hf
          refine g_iload C 5 dX11_member_73 rfl ?_
          refine g_iconst C (v := 3) dX11_member_75 (by decide) ?_
          refine g_iload_n C 1 dX11_member_76 rfl ?_
          refine g_imul C dX11_member_77 ?_
          refine g_iconst C (v := 3) dX11_member_78 (by decide) ?_
          refine g_iadd C dX11_member_79 ?_
          refine g_icmp_gt C 124 dX11_member_80 (by decide) (fun c11 => ?_) (fun c11 => ?_)
          · have hf := opt_pos c11 hf
            refine g_iinc C 4 (v := l4_73 + 1) (lv' := [(4, .int (l4_73 + 1)), (0, .ref (a 0)), (1, .int p0), (2, .int p1), (3, .int l3_73), (5, .int l5_73)]) dX11_member_124 rfl rfl (g_nlt hn rfl) rfl ?_
            refine g_goto C 60 dX11_member_127 (by decide) ?_
            refine gW.locals [1, 2, 3, 4, 0] rfl ?_
            exact H60 thrown_73 l3_73 (l4_73 + 1) hf
          · have hf := opt_neg c11 hf
            refine g_iload_n C 3 dX11_member_83 rfl ?_
            refine g_aload_n C 0 dX11_member_84 rfl ?_
            refine g_iload C 4 dX11_member_85 rfl ?_
            refine g_iload C 5 dX11_member_87 rfl ?_
            obtain ⟨v12, h13, hf⟩ := opt_bind hf
            refine g_callV C (c_X11_hasShare (l := x_l X) (D := x_D X) (cy := x_y X) (a := a) (thrown := thrown_73) (g := g) (saved := saved) (hasSaved := hasSaved) (coef := coef) (nodes := nodes) (nodeMany := nodeMany) (isDeep := isDeep) (codes := codes) (details := details) (levelMany := levelMany) (given := given) (paper := paper) (papered := papered) (tape := tape) (taped := taped) (wrongAt := wrongAt) (at_ := at_) (value := value) (readPlace := readPlace) (readValue := readValue) (readEpoch := readEpoch) (p0 := l4_73) (p1 := l5_73) h13) (As := [.int l4_73, .int l5_73]) (rest := [.int l3_73]) (wr := []) (ws' := fun _ => (wM (x_y X) a thrown_73 g saved hasSaved coef nodes nodeMany isDeep codes details levelMany given paper papered tape taped wrongAt at_ value readPlace readValue readEpoch)) (st' := fun _ => [.int v12, .int l3_73]) (ci := 12) 2 0 ⟨_, rfl⟩ rfl rfl mw_7_61 mw_1_9 mw_7_58 mw_7_60 mp_33 hd_X11_hasShare rfl (g_rm hR rfl rfl) [0, 1, 2, 3, 4, 5, 6, 7, 8, 9] [] [0, 1, 2, 3, 4, 5, 6, 7, 8, 9] ⟨rfl, rfl, rfl, rfl, by decide, gRoIn_0, rfl, fun _ => rfl⟩ rfl (Nat.le_of_ble_eq_true rfl) dX11_member_89 (g_rc hR (Nat.le_of_ble_eq_true rfl) (Nat.le_of_ble_eq_true rfl)) (ck' := 0) (sk' := 0) rfl rfl (fun _ => rfl) (fun _ _ => ?_) (fun _ hx => absurd rfl hx)
            refine g_if_eq C 115 dX11_member_92 (by decide) (fun c14 => ?_) (fun c14 => ?_)
            · have hf := opt_pos c14 hf
              refine gW.locals [0, 1, 2, 4, 5] rfl ?_
              exact H115 thrown_73 l4_73 l5_73 l3_73 hf
            · have hf := opt_neg c14 hf
              refine g_iload_n C 2 dX11_member_95 rfl ?_
              refine g_iconst C (v := 2) dX11_member_96 (by decide) ?_
              refine g_icmp_eq C 111 dX11_member_97 (by decide) (fun c15 => ?_) (fun c15 => ?_)
              · have hf := opt_pos c15 hf
                refine gW.locals [0, 1, 2, 4, 5] rfl ?_
                exact H111 thrown_73 l4_73 l5_73 l3_73 hf
              · have hf := opt_neg c15 hf
                refine g_aload_n C 0 dX11_member_100 rfl ?_
                refine g_iload C 4 dX11_member_101 rfl ?_
                refine g_iload C 5 dX11_member_103 rfl ?_
                obtain ⟨v16, h17, hf⟩ := opt_bind hf
                refine g_callV C (c_X11_stateOf (l := x_l X) (D := x_D X) (cy := x_y X) (a := a) (thrown := thrown_73) (g := g) (saved := saved) (hasSaved := hasSaved) (coef := coef) (nodes := nodes) (nodeMany := nodeMany) (isDeep := isDeep) (codes := codes) (details := details) (levelMany := levelMany) (given := given) (paper := paper) (papered := papered) (tape := tape) (taped := taped) (wrongAt := wrongAt) (at_ := at_) (value := value) (readPlace := readPlace) (readValue := readValue) (readEpoch := readEpoch) (p0 := l4_73) (p1 := l5_73) h17) (As := [.int l4_73, .int l5_73]) (rest := [.int l3_73]) (wr := []) (ws' := fun _ => (wM (x_y X) a thrown_73 g saved hasSaved coef nodes nodeMany isDeep codes details levelMany given paper papered tape taped wrongAt at_ value readPlace readValue readEpoch)) (st' := fun _ => [.int v16, .int l3_73]) (ci := 12) 2 0 ⟨_, rfl⟩ rfl rfl mw_7_73 mw_1_9 mw_7_70 mw_7_72 mp_36 hd_X11_stateOf rfl (g_rm hR rfl rfl) [0, 1, 2, 3, 4, 5, 6, 7, 8, 9] [] [0, 1, 2, 3, 4, 5, 6, 7, 8, 9] ⟨rfl, rfl, rfl, rfl, by decide, gRoIn_0, rfl, fun _ => rfl⟩ rfl (Nat.le_of_ble_eq_true rfl) dX11_member_105 (g_rc hR (Nat.le_of_ble_eq_true rfl) (Nat.le_of_ble_eq_true rfl)) (ck' := 0) (sk' := 0) rfl rfl (fun _ => rfl) (fun _ _ => ?_) (fun _ hx => absurd rfl hx)
                refine g_if_eq C 115 dX11_member_108 (by decide) (fun c18 => ?_) (fun c18 => ?_)
                · have hf := opt_pos c18 hf
                  refine gW.locals [0, 1, 2, 4, 5] rfl ?_
                  exact H115 thrown_73 l4_73 l5_73 l3_73 hf
                · have hf := opt_neg c18 hf
                  refine gW.locals [0, 1, 2, 4, 5] rfl ?_
                  exact H111 thrown_73 l4_73 l5_73 l3_73 hf
      refine g_iload C 4 dX11_member_60 rfl ?_
      refine g_iconst C (v := 4) dX11_member_62 (by decide) ?_
      refine g_icmp_ge C 130 dX11_member_63 (by decide) (fun c8 => ?_) (fun c8 => ?_)
      · have hf := opt_pos c8 hf
        refine g_aload_n C 0 dX11_member_130 rfl ?_
        refine g_iload_n C 3 dX11_member_131 rfl ?_
        obtain ⟨v9, h10, hf⟩ := opt_bind hf
        refine g_callV C (c_X11_done (l := x_l X) (D := x_D X) (cy := x_y X) (a := a) (thrown := thrown_60) (g := g) (saved := saved) (hasSaved := hasSaved) (coef := coef) (nodes := nodes) (nodeMany := nodeMany) (isDeep := isDeep) (codes := codes) (details := details) (levelMany := levelMany) (given := given) (paper := paper) (papered := papered) (tape := tape) (taped := taped) (wrongAt := wrongAt) (at_ := at_) (value := value) (readPlace := readPlace) (readValue := readValue) (readEpoch := readEpoch) (p0 := l3_60) h10) (As := [.int l3_60]) (rest := []) (wr := []) (ws' := fun _ => (wM (x_y X) a v9.2 g saved hasSaved coef nodes nodeMany isDeep codes details levelMany given paper papered tape taped wrongAt at_ value readPlace readValue readEpoch)) (st' := fun _ => [.int v9.1]) (ci := 12) 1 0 ⟨_, rfl⟩ rfl rfl mw_7_22 mw_1_9 mw_7_19 mw_7_21 mp_29 hd_X11_done rfl (g_rm hR rfl rfl) [0, 1, 2, 3, 4, 5, 6, 7, 8, 9] [] [0, 1, 2, 3, 4, 5, 6, 7, 8, 9] ⟨rfl, rfl, rfl, rfl, by decide, gRoIn_0, rfl, fun _ => rfl⟩ rfl (Nat.le_of_ble_eq_true rfl) dX11_member_132 (g_rc hR (Nat.le_of_ble_eq_true rfl) (Nat.le_of_ble_eq_true rfl)) (ck' := 0) (sk' := 0) rfl rfl (fun _ => rfl) (fun _ _ => ?_) (fun _ hx => absurd rfl hx)
        obtain rfl := Option.some.inj hf
        exact g_iret C E () dX11_member_135 rfl rfl rfl (Nat.le_of_ble_eq_true rfl) (Nat.le_of_ble_eq_true rfl)
      · have hf := opt_neg c8 hf
        refine g_iconst C (v := 3) dX11_member_66 (by decide) ?_
        refine g_iload_n C 1 dX11_member_67 rfl ?_
        refine g_imul C dX11_member_68 ?_
        refine g_iconst C (v := 1) dX11_member_69 (by decide) ?_
        refine g_iadd C dX11_member_70 ?_
        refine g_istore C (lv' := [(5, .int (((3 : Int32) * p0) + 1)), (0, .ref (a 0)), (1, .int p0), (2, .int p1), (3, .int l3_60), (4, .int l4_60)]) dX11_member_71 (g_nlt hn rfl) rfl ?_
        refine gW.locals [1, 2, 3, 4, 5, 0] rfl ?_
        exact H73 1000 thrown_60 l3_60 l4_60 (((3 : Int32) * p0) + 1) hf
  have H48 : ∀ (thrown_48 : Int32) (s0_48 : Int32), F_X11_member_L48 g p0 thrown_48 s0_48 = some val → gW X Q 0 0 ((wM (x_y X) a thrown_48 g saved hasSaved coef nodes nodeMany isDeep codes details levelMany given paper papered tape taped wrongAt at_ value readPlace readValue readEpoch)) [(0, .ref (a 0)), (1, .int p0), (2, .int p1)] [.int s0_48, .ref (a 1), .ref (a 0)] 48 := by
    intro thrown_48 s0_48 hf
    unfold F_X11_member_L48 at hf
    refine g_iload_n C 1 dX11_member_48 rfl ?_
    refine g_iadd C dX11_member_49 ?_
    obtain ⟨c20, hf⟩ := gg_of hf
    refine g_iald C 1 rfl (gi_in c20) dX11_member_50 ?_
    obtain ⟨v21, h22, hf⟩ := opt_bind hf
    refine g_callV C (c_X11_done (l := x_l X) (D := x_D X) (cy := x_y X) (a := a) (thrown := thrown_48) (g := g) (saved := saved) (hasSaved := hasSaved) (coef := coef) (nodes := nodes) (nodeMany := nodeMany) (isDeep := isDeep) (codes := codes) (details := details) (levelMany := levelMany) (given := given) (paper := paper) (papered := papered) (tape := tape) (taped := taped) (wrongAt := wrongAt) (at_ := at_) (value := value) (readPlace := readPlace) (readValue := readValue) (readEpoch := readEpoch) (p0 := g (Int32.toNatClampNeg (s0_48 + p0))) h22) (As := [.int (g (Int32.toNatClampNeg (s0_48 + p0)))]) (rest := []) (wr := []) (ws' := fun _ => (wM (x_y X) a v21.2 g saved hasSaved coef nodes nodeMany isDeep codes details levelMany given paper papered tape taped wrongAt at_ value readPlace readValue readEpoch)) (st' := fun _ => [.int v21.1]) (ci := 12) 1 0 ⟨_, rfl⟩ rfl rfl mw_7_22 mw_1_9 mw_7_19 mw_7_21 mp_29 hd_X11_done rfl (g_rm hR rfl rfl) [0, 1, 2, 3, 4, 5, 6, 7, 8, 9] [] [0, 1, 2, 3, 4, 5, 6, 7, 8, 9] ⟨rfl, rfl, rfl, rfl, by decide, gRoIn_0, rfl, fun _ => rfl⟩ rfl (Nat.le_of_ble_eq_true rfl) dX11_member_51 (g_rc hR (Nat.le_of_ble_eq_true rfl) (Nat.le_of_ble_eq_true rfl)) (ck' := 0) (sk' := 0) rfl rfl (fun _ => rfl) (fun _ _ => ?_) (fun _ hx => absurd rfl hx)
    obtain rfl := Option.some.inj hf
    exact g_iret C E () dX11_member_54 rfl rfl rfl (Nat.le_of_ble_eq_true rfl) (Nat.le_of_ble_eq_true rfl)
  show gW X Q 0 0 ((wM (x_y X) a thrown g saved hasSaved coef nodes nodeMany isDeep codes details levelMany given paper papered tape taped wrongAt at_ value readPlace readValue readEpoch)) [(0, .ref (a 0)), (1, .int p0), (2, .int p1)] [] 0
  refine g_iload_n C 1 dX11_member_0 rfl ?_
  obtain ⟨v1, h2, hf⟩ := opt_bind hf
  refine g_callS C (c_X11_isMember (l := x_l X) (D := x_D X) (cy := x_y X) (p0 := p0) h2) (As := [.int p0]) (rest := []) (wr := (wM (x_y X) a thrown g saved hasSaved coef nodes nodeMany isDeep codes details levelMany given paper papered tape taped wrongAt at_ value readPlace readValue readEpoch)) (ws' := fun _ => (wM (x_y X) a thrown g saved hasSaved coef nodes nodeMany isDeep codes details levelMany given paper papered tape taped wrongAt at_ value readPlace readValue readEpoch)) (st' := fun _ => [.int v1]) 1 mw_7_38 mw_1_9 mw_7_36 mw_7_37 hd_X11_isMember rfl (g_rm hR rfl rfl) [] [0, 1, 2, 3, 4, 5, 6, 7, 8, 9] [0, 1, 2, 3, 4, 5, 6, 7, 8, 9] ⟨rfl, rfl, rfl, rfl, by decide, gRoIn_0, rfl, fun _ => rfl⟩ rfl (Nat.le_of_ble_eq_true rfl) dX11_member_1 (g_rc hR (Nat.le_of_ble_eq_true rfl) (Nat.le_of_ble_eq_true rfl)) (ck' := 0) (sk' := 0) rfl rfl (fun _ => rfl) (fun _ _ => ?_) (fun _ hx => absurd rfl hx)
  refine g_if_ne C 13 dX11_member_4 (by decide) (fun c3 => ?_) (fun c3 => ?_)
  · have hf := opt_neg c3 hf
    refine g_iload_n C 2 dX11_member_13 rfl ?_
    refine g_iconst C (v := 0) dX11_member_14 (by decide) ?_
    refine g_iconst C (v := 3) dX11_member_15 (by decide) ?_
    obtain ⟨v4, h5, hf⟩ := opt_bind hf
    refine g_callS C (c_X11_in (l := x_l X) (D := x_D X) (cy := x_y X) (p0 := p1) (p1 := 0) (p2 := 3) h5) (As := [.int p1, .int 0, .int 3]) (rest := []) (wr := (wM (x_y X) a thrown g saved hasSaved coef nodes nodeMany isDeep codes details levelMany given paper papered tape taped wrongAt at_ value readPlace readValue readEpoch)) (ws' := fun _ => (wM (x_y X) a thrown g saved hasSaved coef nodes nodeMany isDeep codes details levelMany given paper papered tape taped wrongAt at_ value readPlace readValue readEpoch)) (st' := fun _ => [.int v4]) 3 mw_7_41 mw_1_9 mw_7_39 mw_7_40 hd_X11_in rfl (g_rm hR rfl rfl) [] [0, 1, 2, 3, 4, 5, 6, 7, 8, 9] [0, 1, 2, 3, 4, 5, 6, 7, 8, 9] ⟨rfl, rfl, rfl, rfl, by decide, gRoIn_0, rfl, fun _ => rfl⟩ rfl (Nat.le_of_ble_eq_true rfl) dX11_member_16 (g_rc hR (Nat.le_of_ble_eq_true rfl) (Nat.le_of_ble_eq_true rfl)) (ck' := 0) (sk' := 0) rfl rfl (fun _ => rfl) (fun _ _ => ?_) (fun _ hx => absurd rfl hx)
    refine g_if_ne C 28 dX11_member_19 (by decide) (fun c6 => ?_) (fun c6 => ?_)
    · have hf := opt_neg c6 hf
      refine g_iload_n C 2 dX11_member_28 rfl ?_
      refine g_iconst C (v := 2) dX11_member_29 (by decide) ?_
      refine g_icmp_ge C 55 dX11_member_30 (by decide) (fun c7 => ?_) (fun c7 => ?_)
      · have hf := opt_pos c7 hf
        refine g_iconst C (v := 0) dX11_member_55 (by decide) ?_
        refine g_istore_n C (lv' := [(3, .int 0), (0, .ref (a 0)), (1, .int p0), (2, .int p1)]) dX11_member_56 (g_nlt hn rfl) rfl ?_
        refine g_iconst C (v := 0) dX11_member_57 (by decide) ?_
        refine g_istore C (lv' := [(4, .int 0), (3, .int 0), (0, .ref (a 0)), (1, .int p0), (2, .int p1)]) dX11_member_58 (g_nlt hn rfl) rfl ?_
        refine gW.locals [2, 3, 4, 1, 0] rfl ?_
        exact H60 1000 thrown 0 0 hf
      · have hf := opt_neg c7 hf
        refine g_aload_n C 0 dX11_member_33 rfl ?_
        refine g_aload_n C 0 dX11_member_34 rfl ?_
        refine g_get C 0 1 rfl rfl wiX11 (by decide) mw_6_185 rfl rfl dX11_member_35 ?_
        refine g_iload_n C 2 dX11_member_38 rfl ?_
        refine g_if_ne C 46 dX11_member_39 (by decide) (fun c19 => ?_) (fun c19 => ?_)
        · have hf := opt_neg c19 hf
          refine g_bipush C (v := 9) dX11_member_46 (by decide) ?_
          exact H48 thrown 9 hf
        · have hf := opt_pos c19 hf
          refine g_iconst C (v := 1) dX11_member_42 (by decide) ?_
          refine g_goto C 48 dX11_member_43 (by decide) ?_
          exact H48 thrown 1 hf
    · have hf := opt_pos c6 hf
      refine g_aload_n C 0 dX11_member_22 rfl ?_
      refine g_iconst C (v := 2) dX11_member_23 (by decide) ?_
      obtain ⟨v23, h24, hf⟩ := opt_bind hf
      refine g_callV C (c_X11_fails (l := x_l X) (D := x_D X) (cy := x_y X) (a := a) (thrown := thrown) (g := g) (saved := saved) (hasSaved := hasSaved) (coef := coef) (nodes := nodes) (nodeMany := nodeMany) (isDeep := isDeep) (codes := codes) (details := details) (levelMany := levelMany) (given := given) (paper := paper) (papered := papered) (tape := tape) (taped := taped) (wrongAt := wrongAt) (at_ := at_) (value := value) (readPlace := readPlace) (readValue := readValue) (readEpoch := readEpoch) (p0 := 2) h24) (As := [.int 2]) (rest := []) (wr := []) (ws' := fun _ => (wM (x_y X) a v23.2 g saved hasSaved coef nodes nodeMany isDeep codes details levelMany given paper papered tape taped wrongAt at_ value readPlace readValue readEpoch)) (st' := fun _ => [.int v23.1]) (ci := 12) 1 0 ⟨_, rfl⟩ rfl rfl mw_7_45 mw_1_9 mw_7_42 mw_7_44 mp_31 hd_X11_fails rfl (g_rm hR rfl rfl) [0, 1, 2, 3, 4, 5, 6, 7, 8, 9] [] [0, 1, 2, 3, 4, 5, 6, 7, 8, 9] ⟨rfl, rfl, rfl, rfl, by decide, gRoIn_0, rfl, fun _ => rfl⟩ rfl (Nat.le_of_ble_eq_true rfl) dX11_member_24 (g_rc hR (Nat.le_of_ble_eq_true rfl) (Nat.le_of_ble_eq_true rfl)) (ck' := 0) (sk' := 0) rfl rfl (fun _ => rfl) (fun _ _ => ?_) (fun _ hx => absurd rfl hx)
      obtain rfl := Option.some.inj hf
      exact g_iret C E () dX11_member_27 rfl rfl rfl (Nat.le_of_ble_eq_true rfl) (Nat.le_of_ble_eq_true rfl)
  · have hf := opt_pos c3 hf
    refine g_aload_n C 0 dX11_member_7 rfl ?_
    refine g_iconst C (v := 1) dX11_member_8 (by decide) ?_
    obtain ⟨v25, h26, hf⟩ := opt_bind hf
    refine g_callV C (c_X11_fails (l := x_l X) (D := x_D X) (cy := x_y X) (a := a) (thrown := thrown) (g := g) (saved := saved) (hasSaved := hasSaved) (coef := coef) (nodes := nodes) (nodeMany := nodeMany) (isDeep := isDeep) (codes := codes) (details := details) (levelMany := levelMany) (given := given) (paper := paper) (papered := papered) (tape := tape) (taped := taped) (wrongAt := wrongAt) (at_ := at_) (value := value) (readPlace := readPlace) (readValue := readValue) (readEpoch := readEpoch) (p0 := 1) h26) (As := [.int 1]) (rest := []) (wr := []) (ws' := fun _ => (wM (x_y X) a v25.2 g saved hasSaved coef nodes nodeMany isDeep codes details levelMany given paper papered tape taped wrongAt at_ value readPlace readValue readEpoch)) (st' := fun _ => [.int v25.1]) (ci := 12) 1 0 ⟨_, rfl⟩ rfl rfl mw_7_45 mw_1_9 mw_7_42 mw_7_44 mp_31 hd_X11_fails rfl (g_rm hR rfl rfl) [0, 1, 2, 3, 4, 5, 6, 7, 8, 9] [] [0, 1, 2, 3, 4, 5, 6, 7, 8, 9] ⟨rfl, rfl, rfl, rfl, by decide, gRoIn_0, rfl, fun _ => rfl⟩ rfl (Nat.le_of_ble_eq_true rfl) dX11_member_9 (g_rc hR (Nat.le_of_ble_eq_true rfl) (Nat.le_of_ble_eq_true rfl)) (ck' := 0) (sk' := 0) rfl rfl (fun _ => rfl) (fun _ _ => ?_) (fun _ hx => absurd rfl hx)
    obtain rfl := Option.some.inj hf
    exact g_iret C E () dX11_member_12 rfl rfl rfl (Nat.le_of_ble_eq_true rfl) (Nat.le_of_ble_eq_true rfl)
/-! X11_isGood -/
theorem hd_X11_isGood : yX11_isGood.cls ≠ "java/lang/invoke/MethodHandle" ∧ yX11_isGood.cls ≠ "java/lang/invoke/VarHandle" ∧ (parseMethodDescriptor yX11_isGood.desc).map (fun d => d.parameters.length) = some 2 := by decide +kernel
def F_X11_isGood_L23   (s0_23 : Int32) : Option (Int32) := gg (gnar .boolean s0_23) (some s0_23)
def F_X11_isGood_L22    : Option (Int32) := F_X11_isGood_L23 0
def F_X11_isGood (g : Nat → Int32) (p0 : Int32) (p1 : Int32) : Option (Int32) := (F_X11_hasShare g p0 p1).bind fun v1 => if v1 = 0 then (F_X11_isGood_L22 ) else ((F_X11_stateOf g p0 p1).bind fun v5 => if v5 = 0 then (F_X11_isGood_L23 1) else (F_X11_isGood_L22 ))
set_option maxRecDepth 100000 in
set_option maxHeartbeats 4000000 in
theorem c_X11_isGood {l : Launch} {D : va_G} {cy : Nat → ClassId} {a : Nat → Nat} {thrown : Int32} {g : Nat → Int32} {saved : Nat → Int32} {hasSaved : Int32} {coef : Nat → Int32} {nodes : Nat → Int32} {nodeMany : Int32} {isDeep : Int32} {codes : Nat → Int32} {details : Nat → Int32} {levelMany : Int32} {given : Nat → Int32} {paper : Nat → Int32} {papered : Int32} {tape : Nat → Int32} {taped : Int32} {wrongAt : Int32} {at_ : Int32} {value : Int32} {readPlace : Int32} {readValue : Int32} {readEpoch : Int32} {p0 : Int32} {p1 : Int32}  {val : Int32} (hf : F_X11_isGood g p0 p1 = some val) : gCt l D cy yX11_isGood cX11_isGood 3 (some .boolean) 3 70 0 0 [.ref (a 0), .int p0, .int p1] [] ((wM cy a thrown g saved hasSaved coef nodes nodeMany isDeep codes details levelMany given paper papered tape taped wrongAt at_ value readPlace readValue readEpoch)) 0 (fun _ : Unit => some (.int val)) (fun _ => (wM cy a thrown g saved hasSaved coef nodes nodeMany isDeep codes details levelMany given paper papered tape taped wrongAt at_ value readPlace readValue readEpoch)) := by
  refine g_begin (by decide +kernel) (Nat.le_of_ble_eq_true rfl) ?_
  intro X Q hl hR hD hy hro hn C hin E
  subst hl; subst hD; subst hy
  replace C : gC X "SecretVaultModel" cX11_isGood (some .boolean) := C
  unfold F_X11_isGood at hf
  have H23 : ∀ (s0_23 : Int32), F_X11_isGood_L23 s0_23 = some val → gW X Q 0 0 ((wM (x_y X) a thrown g saved hasSaved coef nodes nodeMany isDeep codes details levelMany given paper papered tape taped wrongAt at_ value readPlace readValue readEpoch)) [(0, .ref (a 0)), (1, .int p0), (2, .int p1)] [.int s0_23] 23 := by
    intro s0_23 hf
    unfold F_X11_isGood_L23 at hf
    obtain ⟨c4, hf⟩ := gg_of hf
    obtain rfl := Option.some.inj hf
    exact g_zret C E () (gnar_of c4) dX11_isGood_23 rfl rfl rfl (Nat.le_of_ble_eq_true rfl) (Nat.le_of_ble_eq_true rfl)
  have H22 :  F_X11_isGood_L22 = some val → gW X Q 0 0 ((wM (x_y X) a thrown g saved hasSaved coef nodes nodeMany isDeep codes details levelMany given paper papered tape taped wrongAt at_ value readPlace readValue readEpoch)) [(0, .ref (a 0)), (1, .int p0), (2, .int p1)] [] 22 := by
    intro hf
    unfold F_X11_isGood_L22 at hf
    refine g_iconst C (v := 0) dX11_isGood_22 (by decide) ?_
    exact H23 0 hf
  show gW X Q 0 0 ((wM (x_y X) a thrown g saved hasSaved coef nodes nodeMany isDeep codes details levelMany given paper papered tape taped wrongAt at_ value readPlace readValue readEpoch)) [(0, .ref (a 0)), (1, .int p0), (2, .int p1)] [] 0
  refine g_aload_n C 0 dX11_isGood_0 rfl ?_
  refine g_iload_n C 1 dX11_isGood_1 rfl ?_
  refine g_iload_n C 2 dX11_isGood_2 rfl ?_
  obtain ⟨v1, h2, hf⟩ := opt_bind hf
  refine g_callV C (c_X11_hasShare (l := x_l X) (D := x_D X) (cy := x_y X) (a := a) (thrown := thrown) (g := g) (saved := saved) (hasSaved := hasSaved) (coef := coef) (nodes := nodes) (nodeMany := nodeMany) (isDeep := isDeep) (codes := codes) (details := details) (levelMany := levelMany) (given := given) (paper := paper) (papered := papered) (tape := tape) (taped := taped) (wrongAt := wrongAt) (at_ := at_) (value := value) (readPlace := readPlace) (readValue := readValue) (readEpoch := readEpoch) (p0 := p0) (p1 := p1) h2) (As := [.int p0, .int p1]) (rest := []) (wr := []) (ws' := fun _ => (wM (x_y X) a thrown g saved hasSaved coef nodes nodeMany isDeep codes details levelMany given paper papered tape taped wrongAt at_ value readPlace readValue readEpoch)) (st' := fun _ => [.int v1]) (ci := 12) 2 0 ⟨_, rfl⟩ rfl rfl mw_7_61 mw_1_9 mw_7_58 mw_7_60 mp_33 hd_X11_hasShare rfl (g_rm hR rfl rfl) [0, 1, 2, 3, 4, 5, 6, 7, 8, 9] [] [0, 1, 2, 3, 4, 5, 6, 7, 8, 9] ⟨rfl, rfl, rfl, rfl, by decide, gRoIn_0, rfl, fun _ => rfl⟩ rfl (Nat.le_of_ble_eq_true rfl) dX11_isGood_3 (g_rc hR (Nat.le_of_ble_eq_true rfl) (Nat.le_of_ble_eq_true rfl)) (ck' := 0) (sk' := 0) rfl rfl (fun _ => rfl) (fun _ _ => ?_) (fun _ hx => absurd rfl hx)
  refine g_if_eq C 22 dX11_isGood_6 (by decide) (fun c3 => ?_) (fun c3 => ?_)
  · have hf := opt_pos c3 hf
    exact H22 hf
  · have hf := opt_neg c3 hf
    refine g_aload_n C 0 dX11_isGood_9 rfl ?_
    refine g_iload_n C 1 dX11_isGood_10 rfl ?_
    refine g_iload_n C 2 dX11_isGood_11 rfl ?_
    obtain ⟨v5, h6, hf⟩ := opt_bind hf
    refine g_callV C (c_X11_stateOf (l := x_l X) (D := x_D X) (cy := x_y X) (a := a) (thrown := thrown) (g := g) (saved := saved) (hasSaved := hasSaved) (coef := coef) (nodes := nodes) (nodeMany := nodeMany) (isDeep := isDeep) (codes := codes) (details := details) (levelMany := levelMany) (given := given) (paper := paper) (papered := papered) (tape := tape) (taped := taped) (wrongAt := wrongAt) (at_ := at_) (value := value) (readPlace := readPlace) (readValue := readValue) (readEpoch := readEpoch) (p0 := p0) (p1 := p1) h6) (As := [.int p0, .int p1]) (rest := []) (wr := []) (ws' := fun _ => (wM (x_y X) a thrown g saved hasSaved coef nodes nodeMany isDeep codes details levelMany given paper papered tape taped wrongAt at_ value readPlace readValue readEpoch)) (st' := fun _ => [.int v5]) (ci := 12) 2 0 ⟨_, rfl⟩ rfl rfl mw_7_73 mw_1_9 mw_7_70 mw_7_72 mp_36 hd_X11_stateOf rfl (g_rm hR rfl rfl) [0, 1, 2, 3, 4, 5, 6, 7, 8, 9] [] [0, 1, 2, 3, 4, 5, 6, 7, 8, 9] ⟨rfl, rfl, rfl, rfl, by decide, gRoIn_0, rfl, fun _ => rfl⟩ rfl (Nat.le_of_ble_eq_true rfl) dX11_isGood_12 (g_rc hR (Nat.le_of_ble_eq_true rfl) (Nat.le_of_ble_eq_true rfl)) (ck' := 0) (sk' := 0) rfl rfl (fun _ => rfl) (fun _ _ => ?_) (fun _ hx => absurd rfl hx)
    refine g_if_ne C 22 dX11_isGood_15 (by decide) (fun c7 => ?_) (fun c7 => ?_)
    · have hf := opt_neg c7 hf
      exact H22 hf
    · have hf := opt_pos c7 hf
      refine g_iconst C (v := 1) dX11_isGood_18 (by decide) ?_
      refine g_goto C 23 dX11_isGood_19 (by decide) ?_
      exact H23 1 hf
/-! X11_polynomial -/
theorem hd_X11_polynomial : yX11_polynomial.cls ≠ "java/lang/invoke/MethodHandle" ∧ yX11_polynomial.cls ≠ "java/lang/invoke/VarHandle" ∧ (parseMethodDescriptor yX11_polynomial.desc).map (fun d => d.parameters.length) = some 2 := by decide +kernel
def F_X11_polynomial_L7 (coef : Nat → Int32) (p1 : Int32)  : Nat → Int32 → Int32 → Option (Int32)
  | 0, _, _ => none
  | n + 1, l3_7, l4_7 => if l4_7 < 0 then (some l3_7) else (gg (gi l4_7 8) (gl (((l3_7 * p1) + (coef (Int32.toNatClampNeg l4_7))) - ((l3_7 * p1) + (coef (Int32.toNatClampNeg l4_7))) / 1019 * 1019) fun x3 => F_X11_polynomial_L7 coef p1 n x3 (l4_7 + (-1))))
def F_X11_polynomial (coef : Nat → Int32) (p0 : Int32) (p1 : Int32) : Option (Int32) := F_X11_polynomial_L7 coef p1 1000 0 (p0 - 1)
set_option maxRecDepth 100000 in
set_option maxHeartbeats 4000000 in
theorem c_X11_polynomial {l : Launch} {D : va_G} {cy : Nat → ClassId} {a : Nat → Nat} {thrown : Int32} {g : Nat → Int32} {saved : Nat → Int32} {hasSaved : Int32} {coef : Nat → Int32} {nodes : Nat → Int32} {nodeMany : Int32} {isDeep : Int32} {codes : Nat → Int32} {details : Nat → Int32} {levelMany : Int32} {given : Nat → Int32} {paper : Nat → Int32} {papered : Int32} {tape : Nat → Int32} {taped : Int32} {wrongAt : Int32} {at_ : Int32} {value : Int32} {readPlace : Int32} {readValue : Int32} {readEpoch : Int32} {p0 : Int32} {p1 : Int32}  {val : Int32} (hf : F_X11_polynomial coef p0 p1 = some val) : gCt l D cy yX11_polynomial cX11_polynomial 5 (some .int) 0 0 0 0 [.ref (a 0), .int p0, .int p1] [] ((wM cy a thrown g saved hasSaved coef nodes nodeMany isDeep codes details levelMany given paper papered tape taped wrongAt at_ value readPlace readValue readEpoch)) 0 (fun _ : Unit => some (.int val)) (fun _ => (wM cy a thrown g saved hasSaved coef nodes nodeMany isDeep codes details levelMany given paper papered tape taped wrongAt at_ value readPlace readValue readEpoch)) := by
  refine g_begin (by decide +kernel) (Nat.le_of_ble_eq_true rfl) ?_
  intro X Q hl hR hD hy hro hn C hin E
  subst hl; subst hD; subst hy
  replace C : gC X "SecretVaultModel" cX11_polynomial (some .int) := C
  unfold F_X11_polynomial at hf
  have H7 : ∀ (n7 : Nat), ∀ (l3_7 : Int32) (l4_7 : Int32), F_X11_polynomial_L7 coef p1 n7 l3_7 l4_7 = some val → gW X Q 0 0 ((wM (x_y X) a thrown g saved hasSaved coef nodes nodeMany isDeep codes details levelMany given paper papered tape taped wrongAt at_ value readPlace readValue readEpoch)) [(0, .ref (a 0)), (1, .int p0), (2, .int p1), (3, .int l3_7), (4, .int l4_7)] [] 7 := by
    intro n7
    induction n7 with
    | zero => intros; rename_i hf; cases hf
    | succ n7 ih =>
      intro l3_7 l4_7 hf
      have H7 := ih
      rw [F_X11_polynomial_L7] at hf
      refine g_iload C 4 dX11_polynomial_7 rfl ?_
      refine g_if_lt C 34 dX11_polynomial_9 (by decide) (fun c1 => ?_) (fun c1 => ?_)
      · have hf := opt_pos c1 hf
        refine g_iload_n C 3 dX11_polynomial_34 rfl ?_
        obtain rfl := Option.some.inj hf
        exact g_iret C E () dX11_polynomial_35 rfl rfl rfl (Nat.le_of_ble_eq_true rfl) (Nat.le_of_ble_eq_true rfl)
      · have hf := opt_neg c1 hf
        refine g_iload_n C 3 dX11_polynomial_12 rfl ?_
        refine g_iload_n C 2 dX11_polynomial_13 rfl ?_
        refine g_imul C dX11_polynomial_14 ?_
        refine g_aload_n C 0 dX11_polynomial_15 rfl ?_
        refine g_get C 0 4 rfl rfl wiX11 (by decide) mw_6_188 rfl rfl dX11_polynomial_16 ?_
        refine g_iload C 4 dX11_polynomial_19 rfl ?_
        obtain ⟨c2, hf⟩ := gg_of hf
        refine g_iald C 3 rfl (gi_in c2) dX11_polynomial_21 ?_
        refine g_iadd C dX11_polynomial_22 ?_
        refine g_sipush C (v := 1019) dX11_polynomial_23 (by decide) ?_
        refine g_irem C dX11_polynomial_26 (by decide) ?_
        obtain ⟨x3, ex3, hf⟩ := opt_let hf
        refine g_topi ex3 ?_
        refine g_istore_n C (lv' := [(3, .int x3), (0, .ref (a 0)), (1, .int p0), (2, .int p1), (4, .int l4_7)]) dX11_polynomial_27 (g_nlt hn rfl) rfl ?_
        refine g_iinc C 4 (v := l4_7 + (-1)) (lv' := [(4, .int (l4_7 + (-1))), (3, .int x3), (0, .ref (a 0)), (1, .int p0), (2, .int p1)]) dX11_polynomial_28 rfl rfl (g_nlt hn rfl) rfl ?_
        refine g_goto C 7 dX11_polynomial_31 (by decide) ?_
        refine gW.locals [2, 3, 4, 1, 0] rfl ?_
        exact H7 x3 (l4_7 + (-1)) hf
  show gW X Q 0 0 ((wM (x_y X) a thrown g saved hasSaved coef nodes nodeMany isDeep codes details levelMany given paper papered tape taped wrongAt at_ value readPlace readValue readEpoch)) [(0, .ref (a 0)), (1, .int p0), (2, .int p1)] [] 0
  refine g_iconst C (v := 0) dX11_polynomial_0 (by decide) ?_
  refine g_istore_n C (lv' := [(3, .int 0), (0, .ref (a 0)), (1, .int p0), (2, .int p1)]) dX11_polynomial_1 (g_nlt hn rfl) rfl ?_
  refine g_iload_n C 2 dX11_polynomial_2 rfl ?_
  refine g_iconst C (v := 1) dX11_polynomial_3 (by decide) ?_
  refine g_isub C dX11_polynomial_4 ?_
  refine g_istore C (lv' := [(4, .int (p0 - 1)), (3, .int 0), (0, .ref (a 0)), (1, .int p0), (2, .int p1)]) dX11_polynomial_5 (g_nlt hn rfl) rfl ?_
  refine gW.locals [2, 3, 4, 1, 0] rfl ?_
  exact H7 1000 0 (p0 - 1) hf
/-! X11_usedPlaces -/
theorem hd_X11_usedPlaces : yX11_usedPlaces.cls ≠ "java/lang/invoke/MethodHandle" ∧ yX11_usedPlaces.cls ≠ "java/lang/invoke/VarHandle" ∧ (parseMethodDescriptor yX11_usedPlaces.desc).map (fun d => d.parameters.length) = some 0 := by decide +kernel
def F_X11_usedPlaces_L31  (K4 : Int32 → Int32 → Option (Int32)) (l2_31 : Int32) (s0_31 : Int32) (s1_31 : Int32) : Option (Int32) := K4 (s1_31 + s0_31) (l2_31 + 1)
def F_X11_usedPlaces_L4 (g : Nat → Int32)  : Nat → Int32 → Int32 → Option (Int32)
  | 0, _, _ => none
  | n + 1, l1_4, l2_4 => if 8 ≤ l2_4 then (some l1_4) else ((F_X11_isPresent g l2_4).bind fun v2 => if v2 = 0 then (F_X11_usedPlaces_L31 (F_X11_usedPlaces_L4 g n) l2_4 0 l1_4) else (gg (gi ((1 : Int32) + l2_4) 534) (F_X11_usedPlaces_L31 (F_X11_usedPlaces_L4 g n) l2_4 (g (Int32.toNatClampNeg ((1 : Int32) + l2_4))) l1_4)))
def F_X11_usedPlaces (g : Nat → Int32) : Option (Int32) := F_X11_usedPlaces_L4 g 1000 0 0
set_option maxRecDepth 100000 in
set_option maxHeartbeats 4000000 in
theorem c_X11_usedPlaces {l : Launch} {D : va_G} {cy : Nat → ClassId} {a : Nat → Nat} {thrown : Int32} {g : Nat → Int32} {saved : Nat → Int32} {hasSaved : Int32} {coef : Nat → Int32} {nodes : Nat → Int32} {nodeMany : Int32} {isDeep : Int32} {codes : Nat → Int32} {details : Nat → Int32} {levelMany : Int32} {given : Nat → Int32} {paper : Nat → Int32} {papered : Int32} {tape : Nat → Int32} {taped : Int32} {wrongAt : Int32} {at_ : Int32} {value : Int32} {readPlace : Int32} {readValue : Int32} {readEpoch : Int32}   {val : Int32} (hf : F_X11_usedPlaces g = some val) : gCt l D cy yX11_usedPlaces cX11_usedPlaces 3 (some .int) 1 21 0 0 [.ref (a 0)] [] ((wM cy a thrown g saved hasSaved coef nodes nodeMany isDeep codes details levelMany given paper papered tape taped wrongAt at_ value readPlace readValue readEpoch)) 0 (fun _ : Unit => some (.int val)) (fun _ => (wM cy a thrown g saved hasSaved coef nodes nodeMany isDeep codes details levelMany given paper papered tape taped wrongAt at_ value readPlace readValue readEpoch)) := by
  refine g_begin (by decide +kernel) (Nat.le_of_ble_eq_true rfl) ?_
  intro X Q hl hR hD hy hro hn C hin E
  subst hl; subst hD; subst hy
  replace C : gC X "SecretVaultModel" cX11_usedPlaces (some .int) := C
  unfold F_X11_usedPlaces at hf
  have H4 : ∀ (n4 : Nat), ∀ (l1_4 : Int32) (l2_4 : Int32), F_X11_usedPlaces_L4 g n4 l1_4 l2_4 = some val → gW X Q 0 0 ((wM (x_y X) a thrown g saved hasSaved coef nodes nodeMany isDeep codes details levelMany given paper papered tape taped wrongAt at_ value readPlace readValue readEpoch)) [(0, .ref (a 0)), (1, .int l1_4), (2, .int l2_4)] [] 4 := by
    intro n4
    induction n4 with
    | zero => intros; rename_i hf; cases hf
    | succ n4 ih =>
      intro l1_4 l2_4 hf
      have H4 := ih
      rw [F_X11_usedPlaces_L4] at hf
      have H31 : ∀ (l2_31 : Int32) (s0_31 : Int32) (s1_31 : Int32), F_X11_usedPlaces_L31 (F_X11_usedPlaces_L4 g n4) l2_31 s0_31 s1_31 = some val → gW X Q 0 0 ((wM (x_y X) a thrown g saved hasSaved coef nodes nodeMany isDeep codes details levelMany given paper papered tape taped wrongAt at_ value readPlace readValue readEpoch)) [(0, .ref (a 0)), (2, .int l2_31)] [.int s0_31, .int s1_31] 31 := by
        intro l2_31 s0_31 s1_31 hf
        unfold F_X11_usedPlaces_L31 at hf
        refine g_iadd C dX11_usedPlaces_31 ?_
        refine g_istore_n C (lv' := [(1, .int (s1_31 + s0_31)), (0, .ref (a 0)), (2, .int l2_31)]) dX11_usedPlaces_32 (g_nlt hn rfl) rfl ?_
        refine g_iinc C 2 (v := l2_31 + 1) (lv' := [(2, .int (l2_31 + 1)), (1, .int (s1_31 + s0_31)), (0, .ref (a 0))]) dX11_usedPlaces_33 rfl rfl (g_nlt hn rfl) rfl ?_
        refine g_goto C 4 dX11_usedPlaces_36 (by decide) ?_
        refine gW.locals [2, 1, 0] rfl ?_
        exact H4 (s1_31 + s0_31) (l2_31 + 1) hf
      refine g_iload_n C 2 dX11_usedPlaces_4 rfl ?_
      refine g_bipush C (v := 8) dX11_usedPlaces_5 (by decide) ?_
      refine g_icmp_ge C 39 dX11_usedPlaces_7 (by decide) (fun c1 => ?_) (fun c1 => ?_)
      · have hf := opt_pos c1 hf
        refine g_iload_n C 1 dX11_usedPlaces_39 rfl ?_
        obtain rfl := Option.some.inj hf
        exact g_iret C E () dX11_usedPlaces_40 rfl rfl rfl (Nat.le_of_ble_eq_true rfl) (Nat.le_of_ble_eq_true rfl)
      · have hf := opt_neg c1 hf
        refine g_iload_n C 1 dX11_usedPlaces_10 rfl ?_
        refine g_aload_n C 0 dX11_usedPlaces_11 rfl ?_
        refine g_iload_n C 2 dX11_usedPlaces_12 rfl ?_
        obtain ⟨v2, h3, hf⟩ := opt_bind hf
        refine g_callV C (c_X11_isPresent (l := x_l X) (D := x_D X) (cy := x_y X) (a := a) (thrown := thrown) (g := g) (saved := saved) (hasSaved := hasSaved) (coef := coef) (nodes := nodes) (nodeMany := nodeMany) (isDeep := isDeep) (codes := codes) (details := details) (levelMany := levelMany) (given := given) (paper := paper) (papered := papered) (tape := tape) (taped := taped) (wrongAt := wrongAt) (at_ := at_) (value := value) (readPlace := readPlace) (readValue := readValue) (readEpoch := readEpoch) (p0 := l2_4) h3) (As := [.int l2_4]) (rest := [.int l1_4]) (wr := []) (ws' := fun _ => (wM (x_y X) a thrown g saved hasSaved coef nodes nodeMany isDeep codes details levelMany given paper papered tape taped wrongAt at_ value readPlace readValue readEpoch)) (st' := fun _ => [.int v2, .int l1_4]) (ci := 12) 1 0 ⟨_, rfl⟩ rfl rfl mw_7_53 mw_1_9 mw_7_50 mw_7_52 mp_32 hd_X11_isPresent rfl (g_rm hR rfl rfl) [0, 1, 2, 3, 4, 5, 6, 7, 8, 9] [] [0, 1, 2, 3, 4, 5, 6, 7, 8, 9] ⟨rfl, rfl, rfl, rfl, by decide, gRoIn_0, rfl, fun _ => rfl⟩ rfl (Nat.le_of_ble_eq_true rfl) dX11_usedPlaces_13 (g_rc hR (Nat.le_of_ble_eq_true rfl) (Nat.le_of_ble_eq_true rfl)) (ck' := 0) (sk' := 0) rfl rfl (fun _ => rfl) (fun _ _ => ?_) (fun _ hx => absurd rfl hx)
        refine g_if_eq C 30 dX11_usedPlaces_16 (by decide) (fun c4 => ?_) (fun c4 => ?_)
        · have hf := opt_pos c4 hf
          refine g_iconst C (v := 0) dX11_usedPlaces_30 (by decide) ?_
          refine gW.locals [0, 2] rfl ?_
          exact H31 l2_4 0 l1_4 hf
        · have hf := opt_neg c4 hf
          refine g_aload_n C 0 dX11_usedPlaces_19 rfl ?_
          refine g_get C 0 1 rfl rfl wiX11 (by decide) mw_6_185 rfl rfl dX11_usedPlaces_20 ?_
          refine g_iconst C (v := 1) dX11_usedPlaces_23 (by decide) ?_
          refine g_iload_n C 2 dX11_usedPlaces_24 rfl ?_
          refine g_iadd C dX11_usedPlaces_25 ?_
          obtain ⟨c5, hf⟩ := gg_of hf
          refine g_iald C 1 rfl (gi_in c5) dX11_usedPlaces_26 ?_
          refine g_goto C 31 dX11_usedPlaces_27 (by decide) ?_
          refine gW.locals [0, 2] rfl ?_
          exact H31 l2_4 (g (Int32.toNatClampNeg ((1 : Int32) + l2_4))) l1_4 hf
  show gW X Q 0 0 ((wM (x_y X) a thrown g saved hasSaved coef nodes nodeMany isDeep codes details levelMany given paper papered tape taped wrongAt at_ value readPlace readValue readEpoch)) [(0, .ref (a 0))] [] 0
  refine g_iconst C (v := 0) dX11_usedPlaces_0 (by decide) ?_
  refine g_istore_n C (lv' := [(1, .int 0), (0, .ref (a 0))]) dX11_usedPlaces_1 (g_nlt hn rfl) rfl ?_
  refine g_iconst C (v := 0) dX11_usedPlaces_2 (by decide) ?_
  refine g_istore_n C (lv' := [(2, .int 0), (1, .int 0), (0, .ref (a 0))]) dX11_usedPlaces_3 (g_nlt hn rfl) rfl ?_
  refine gW.locals [2, 1, 0] rfl ?_
  exact H4 1000 0 0 hf
/-! X11_deals -/
theorem hd_X11_deals : yX11_deals.cls ≠ "java/lang/invoke/MethodHandle" ∧ yX11_deals.cls ≠ "java/lang/invoke/VarHandle" ∧ (parseMethodDescriptor yX11_deals.desc).map (fun d => d.parameters.length) = some 4 := by decide +kernel
def F_X11_deals_L139  (K102 : (Nat → Int32) → (Nat → Int32) → Int32 → Int32 → Option (Int32 × (Nat → Int32) × (Nat → Int32))) (g_139 : Nat → Int32) (coef_139 : Nat → Int32) (l5_139 : Int32) (l6_139 : Int32) (s0_139 : Int32) (s1_139 : Int32) (s2_139 : Int32) : Option (Int32 × (Nat → Int32) × (Nat → Int32)) := (F_X11_sets g_139 s2_139 s1_139 s0_139).bind fun v13 => K102 v13 coef_139 l5_139 (l6_139 + 1)
def F_X11_deals_L102 (p0 : Int32) (p2 : Int32) (p3 : Int32)  : Nat → (Nat → Int32) → (Nat → Int32) → Int32 → Int32 → Option (Int32 × (Nat → Int32) × (Nat → Int32))
  | 0, _, _, _, _ => none
  | n + 1, g_102, coef_102, l5_102, l6_102 => if 8 ≤ l6_102 then ((F_X11_sets g_102 p0 0 1).bind fun v6 => (F_X11_sets v6 p0 1 p2).bind fun v8 => (F_X11_sets v8 p0 2 p3).bind fun v10 => some (l5_102, v10, coef_102)) else (if p2 ≤ l6_102 then (F_X11_deals_L139 (F_X11_deals_L102 p0 p2 p3 n) g_102 coef_102 l5_102 l6_102 0 ((3 : Int32) + l6_102) p0) else (gg (gi l6_102 8) ((F_X11_power 4 (coef_102 (Int32.toNatClampNeg l6_102)) 2039).bind fun v16 => F_X11_deals_L139 (F_X11_deals_L102 p0 p2 p3 n) g_102 coef_102 l5_102 l6_102 v16 ((3 : Int32) + l6_102) p0)))
def F_X11_deals_L93  (K39 : (Nat → Int32) → (Nat → Int32) → Int32 → Int32 → Option (Int32 × (Nat → Int32) × (Nat → Int32))) (g_93 : Nat → Int32) (coef_93 : Nat → Int32) (l5_93 : Int32) (l6_93 : Int32) : Option (Int32 × (Nat → Int32) × (Nat → Int32)) := K39 g_93 coef_93 l5_93 (l6_93 + 1)
def F_X11_deals_L39 (p0 : Int32) (p2 : Int32) (p3 : Int32)  : Nat → (Nat → Int32) → (Nat → Int32) → Int32 → Int32 → Option (Int32 × (Nat → Int32) × (Nat → Int32))
  | 0, _, _, _, _ => none
  | n + 1, g_39, coef_39, l5_39, l6_39 => if 24 < l6_39 then (F_X11_deals_L102 p0 p2 p3 1000 g_39 coef_39 l5_39 0) else ((F_X11_removes g_39 p0 l6_39).bind fun v18 => (F_X11_owner l6_39).bind fun v20 => (F_X11_isPresent v18 v20).bind fun v22 => if v22 = 0 then (F_X11_deals_L93 (F_X11_deals_L39 p0 p2 p3 n) v18 coef_39 l5_39 l6_39) else ((F_X11_isUsed v18 l6_39).bind fun v25 => if v25 = 0 then (F_X11_deals_L93 (F_X11_deals_L39 p0 p2 p3 n) v18 coef_39 l5_39 l6_39) else ((F_X11_polynomial coef_39 p2 l6_39).bind fun v28 => (F_X11_setsShare v18 p0 l6_39 v28 p3).bind fun v30 => F_X11_deals_L93 (F_X11_deals_L39 p0 p2 p3 n) v30 coef_39 (l5_39 + 1) l6_39)))
def F_X11_deals_L10 (p0 : Int32) (p2 : Int32) (p3 : Int32)  : Nat → (Nat → Int32) → (Nat → Int32) → Int32 → Option (Int32 × (Nat → Int32) × (Nat → Int32))
  | 0, _, _, _ => none
  | n + 1, g_10, coef_10, l5_10 => if p2 ≤ l5_10 then (F_X11_deals_L39 p0 p2 p3 1000 g_10 coef_10 0 1) else ((F_X11_drawn g_10).bind fun v32 => gg (gi l5_10 8) (gl (upd coef_10 (Int32.toNatClampNeg l5_10) v32.1) fun f35 => F_X11_deals_L10 p0 p2 p3 n v32.2 f35 (l5_10 + 1)))
def F_X11_deals (g : Nat → Int32) (coef : Nat → Int32) (p0 : Int32) (p1 : Int32) (p2 : Int32) (p3 : Int32) : Option (Int32 × (Nat → Int32) × (Nat → Int32)) := gg (gi 0 8) (gl (upd coef (Int32.toNatClampNeg 0) p1) fun f2 => F_X11_deals_L10 p0 p2 p3 1000 g f2 1)
set_option maxRecDepth 100000 in
set_option maxHeartbeats 4000000 in
theorem c_X11_deals {l : Launch} {D : va_G} {cy : Nat → ClassId} {a : Nat → Nat} {thrown : Int32} {g : Nat → Int32} {saved : Nat → Int32} {hasSaved : Int32} {coef : Nat → Int32} {nodes : Nat → Int32} {nodeMany : Int32} {isDeep : Int32} {codes : Nat → Int32} {details : Nat → Int32} {levelMany : Int32} {given : Nat → Int32} {paper : Nat → Int32} {papered : Int32} {tape : Nat → Int32} {taped : Int32} {wrongAt : Int32} {at_ : Int32} {value : Int32} {readPlace : Int32} {readValue : Int32} {readEpoch : Int32} {p0 : Int32} {p1 : Int32} {p2 : Int32} {p3 : Int32}  {val : Int32 × (Nat → Int32) × (Nat → Int32)} (hf : F_X11_deals g coef p0 p1 p2 p3 = some val) : gCt l D cy yX11_deals cX11_deals 7 (some .int) 2 47 0 0 [.ref (a 0), .int p0, .int p1, .int p2, .int p3] [] ((wM cy a thrown g saved hasSaved coef nodes nodeMany isDeep codes details levelMany given paper papered tape taped wrongAt at_ value readPlace readValue readEpoch)) 0 (fun _ : Unit => some (.int val.1)) (fun _ => (wM cy a thrown val.2.1 saved hasSaved val.2.2 nodes nodeMany isDeep codes details levelMany given paper papered tape taped wrongAt at_ value readPlace readValue readEpoch)) := by
  refine g_begin (by decide +kernel) (Nat.le_of_ble_eq_true rfl) ?_
  intro X Q hl hR hD hy hro hn C hin E
  subst hl; subst hD; subst hy
  replace C : gC X "SecretVaultModel" cX11_deals (some .int) := C
  unfold F_X11_deals at hf
  have H102 : ∀ (n102 : Nat), ∀ (g_102 : Nat → Int32) (coef_102 : Nat → Int32) (l5_102 : Int32) (l6_102 : Int32), F_X11_deals_L102 p0 p2 p3 n102 g_102 coef_102 l5_102 l6_102 = some val → gW X Q 0 0 ((wM (x_y X) a thrown g_102 saved hasSaved coef_102 nodes nodeMany isDeep codes details levelMany given paper papered tape taped wrongAt at_ value readPlace readValue readEpoch)) [(0, .ref (a 0)), (1, .int p0), (2, .int p1), (3, .int p2), (4, .int p3), (5, .int l5_102), (6, .int l6_102)] [] 102 := by
    intro n102
    induction n102 with
    | zero => intros; rename_i hf; cases hf
    | succ n102 ih =>
      intro g_102 coef_102 l5_102 l6_102 hf
      have H102 := ih
      rw [F_X11_deals_L102] at hf
      have H139 : ∀ (g_139 : Nat → Int32) (coef_139 : Nat → Int32) (l5_139 : Int32) (l6_139 : Int32) (s0_139 : Int32) (s1_139 : Int32) (s2_139 : Int32), F_X11_deals_L139 (F_X11_deals_L102 p0 p2 p3 n102) g_139 coef_139 l5_139 l6_139 s0_139 s1_139 s2_139 = some val → gW X Q 0 0 ((wM (x_y X) a thrown g_139 saved hasSaved coef_139 nodes nodeMany isDeep codes details levelMany given paper papered tape taped wrongAt at_ value readPlace readValue readEpoch)) [(0, .ref (a 0)), (1, .int p0), (2, .int p1), (3, .int p2), (4, .int p3), (5, .int l5_139), (6, .int l6_139)] [.int s0_139, .int s1_139, .int s2_139, .ref (a 0)] 139 := by
        intro g_139 coef_139 l5_139 l6_139 s0_139 s1_139 s2_139 hf
        unfold F_X11_deals_L139 at hf
        obtain ⟨v13, h14, hf⟩ := opt_bind hf
        refine g_callV C (c_X11_sets (l := x_l X) (D := x_D X) (cy := x_y X) (a := a) (thrown := thrown) (g := g_139) (saved := saved) (hasSaved := hasSaved) (coef := coef_139) (nodes := nodes) (nodeMany := nodeMany) (isDeep := isDeep) (codes := codes) (details := details) (levelMany := levelMany) (given := given) (paper := paper) (papered := papered) (tape := tape) (taped := taped) (wrongAt := wrongAt) (at_ := at_) (value := value) (readPlace := readPlace) (readValue := readValue) (readEpoch := readEpoch) (p0 := s2_139) (p1 := s1_139) (p2 := s0_139) h14) (As := [.int s2_139, .int s1_139, .int s0_139]) (rest := []) (wr := []) (ws' := fun _ => (wM (x_y X) a thrown v13 saved hasSaved coef_139 nodes nodeMany isDeep codes details levelMany given paper papered tape taped wrongAt at_ value readPlace readValue readEpoch)) (st' := fun _ => []) (ci := 12) 3 0 ⟨_, rfl⟩ rfl rfl mw_7_91 mw_1_9 mw_7_88 mw_7_90 mp_38 hd_X11_sets rfl (g_rm hR rfl rfl) [0, 1, 2, 3, 4, 5, 6, 7, 8, 9] [] [0, 1, 2, 3, 4, 5, 6, 7, 8, 9] ⟨rfl, rfl, rfl, rfl, by decide, gRoIn_0, rfl, fun _ => rfl⟩ rfl (Nat.le_of_ble_eq_true rfl) dX11_deals_139 (g_rc hR (Nat.le_of_ble_eq_true rfl) (Nat.le_of_ble_eq_true rfl)) (ck' := 0) (sk' := 0) rfl rfl (fun _ => rfl) (fun _ _ => ?_) (fun _ hx => absurd rfl hx)
        refine g_iinc C 6 (v := l6_139 + 1) (lv' := [(6, .int (l6_139 + 1)), (0, .ref (a 0)), (1, .int p0), (2, .int p1), (3, .int p2), (4, .int p3), (5, .int l5_139)]) dX11_deals_142 rfl rfl (g_nlt hn rfl) rfl ?_
        refine g_goto C 102 dX11_deals_145 (by decide) ?_
        refine gW.locals [1, 2, 3, 4, 5, 6, 0] rfl ?_
        exact H102 v13 coef_139 l5_139 (l6_139 + 1) hf
      refine g_iload C 6 dX11_deals_102 rfl ?_
      refine g_bipush C (v := 8) dX11_deals_104 (by decide) ?_
      refine g_icmp_ge C 148 dX11_deals_106 (by decide) (fun c5 => ?_) (fun c5 => ?_)
      · have hf := opt_pos c5 hf
        refine g_aload_n C 0 dX11_deals_148 rfl ?_
        refine g_iload_n C 1 dX11_deals_149 rfl ?_
        refine g_iconst C (v := 0) dX11_deals_150 (by decide) ?_
        refine g_iconst C (v := 1) dX11_deals_151 (by decide) ?_
        obtain ⟨v6, h7, hf⟩ := opt_bind hf
        refine g_callV C (c_X11_sets (l := x_l X) (D := x_D X) (cy := x_y X) (a := a) (thrown := thrown) (g := g_102) (saved := saved) (hasSaved := hasSaved) (coef := coef_102) (nodes := nodes) (nodeMany := nodeMany) (isDeep := isDeep) (codes := codes) (details := details) (levelMany := levelMany) (given := given) (paper := paper) (papered := papered) (tape := tape) (taped := taped) (wrongAt := wrongAt) (at_ := at_) (value := value) (readPlace := readPlace) (readValue := readValue) (readEpoch := readEpoch) (p0 := p0) (p1 := 0) (p2 := 1) h7) (As := [.int p0, .int 0, .int 1]) (rest := []) (wr := []) (ws' := fun _ => (wM (x_y X) a thrown v6 saved hasSaved coef_102 nodes nodeMany isDeep codes details levelMany given paper papered tape taped wrongAt at_ value readPlace readValue readEpoch)) (st' := fun _ => []) (ci := 12) 3 0 ⟨_, rfl⟩ rfl rfl mw_7_91 mw_1_9 mw_7_88 mw_7_90 mp_38 hd_X11_sets rfl (g_rm hR rfl rfl) [0, 1, 2, 3, 4, 5, 6, 7, 8, 9] [] [0, 1, 2, 3, 4, 5, 6, 7, 8, 9] ⟨rfl, rfl, rfl, rfl, by decide, gRoIn_0, rfl, fun _ => rfl⟩ rfl (Nat.le_of_ble_eq_true rfl) dX11_deals_152 (g_rc hR (Nat.le_of_ble_eq_true rfl) (Nat.le_of_ble_eq_true rfl)) (ck' := 0) (sk' := 0) rfl rfl (fun _ => rfl) (fun _ _ => ?_) (fun _ hx => absurd rfl hx)
        refine g_aload_n C 0 dX11_deals_155 rfl ?_
        refine g_iload_n C 1 dX11_deals_156 rfl ?_
        refine g_iconst C (v := 1) dX11_deals_157 (by decide) ?_
        refine g_iload_n C 3 dX11_deals_158 rfl ?_
        obtain ⟨v8, h9, hf⟩ := opt_bind hf
        refine g_callV C (c_X11_sets (l := x_l X) (D := x_D X) (cy := x_y X) (a := a) (thrown := thrown) (g := v6) (saved := saved) (hasSaved := hasSaved) (coef := coef_102) (nodes := nodes) (nodeMany := nodeMany) (isDeep := isDeep) (codes := codes) (details := details) (levelMany := levelMany) (given := given) (paper := paper) (papered := papered) (tape := tape) (taped := taped) (wrongAt := wrongAt) (at_ := at_) (value := value) (readPlace := readPlace) (readValue := readValue) (readEpoch := readEpoch) (p0 := p0) (p1 := 1) (p2 := p2) h9) (As := [.int p0, .int 1, .int p2]) (rest := []) (wr := []) (ws' := fun _ => (wM (x_y X) a thrown v8 saved hasSaved coef_102 nodes nodeMany isDeep codes details levelMany given paper papered tape taped wrongAt at_ value readPlace readValue readEpoch)) (st' := fun _ => []) (ci := 12) 3 0 ⟨_, rfl⟩ rfl rfl mw_7_91 mw_1_9 mw_7_88 mw_7_90 mp_38 hd_X11_sets rfl (g_rm hR rfl rfl) [0, 1, 2, 3, 4, 5, 6, 7, 8, 9] [] [0, 1, 2, 3, 4, 5, 6, 7, 8, 9] ⟨rfl, rfl, rfl, rfl, by decide, gRoIn_0, rfl, fun _ => rfl⟩ rfl (Nat.le_of_ble_eq_true rfl) dX11_deals_159 (g_rc hR (Nat.le_of_ble_eq_true rfl) (Nat.le_of_ble_eq_true rfl)) (ck' := 0) (sk' := 0) rfl rfl (fun _ => rfl) (fun _ _ => ?_) (fun _ hx => absurd rfl hx)
        refine g_aload_n C 0 dX11_deals_162 rfl ?_
        refine g_iload_n C 1 dX11_deals_163 rfl ?_
        refine g_iconst C (v := 2) dX11_deals_164 (by decide) ?_
        refine g_iload C 4 dX11_deals_165 rfl ?_
        obtain ⟨v10, h11, hf⟩ := opt_bind hf
        refine g_callV C (c_X11_sets (l := x_l X) (D := x_D X) (cy := x_y X) (a := a) (thrown := thrown) (g := v8) (saved := saved) (hasSaved := hasSaved) (coef := coef_102) (nodes := nodes) (nodeMany := nodeMany) (isDeep := isDeep) (codes := codes) (details := details) (levelMany := levelMany) (given := given) (paper := paper) (papered := papered) (tape := tape) (taped := taped) (wrongAt := wrongAt) (at_ := at_) (value := value) (readPlace := readPlace) (readValue := readValue) (readEpoch := readEpoch) (p0 := p0) (p1 := 2) (p2 := p3) h11) (As := [.int p0, .int 2, .int p3]) (rest := []) (wr := []) (ws' := fun _ => (wM (x_y X) a thrown v10 saved hasSaved coef_102 nodes nodeMany isDeep codes details levelMany given paper papered tape taped wrongAt at_ value readPlace readValue readEpoch)) (st' := fun _ => []) (ci := 12) 3 0 ⟨_, rfl⟩ rfl rfl mw_7_91 mw_1_9 mw_7_88 mw_7_90 mp_38 hd_X11_sets rfl (g_rm hR rfl rfl) [0, 1, 2, 3, 4, 5, 6, 7, 8, 9] [] [0, 1, 2, 3, 4, 5, 6, 7, 8, 9] ⟨rfl, rfl, rfl, rfl, by decide, gRoIn_0, rfl, fun _ => rfl⟩ rfl (Nat.le_of_ble_eq_true rfl) dX11_deals_167 (g_rc hR (Nat.le_of_ble_eq_true rfl) (Nat.le_of_ble_eq_true rfl)) (ck' := 0) (sk' := 0) rfl rfl (fun _ => rfl) (fun _ _ => ?_) (fun _ hx => absurd rfl hx)
        refine g_iload C 5 dX11_deals_170 rfl ?_
        obtain rfl := Option.some.inj hf
        exact g_iret C E () dX11_deals_172 rfl rfl rfl (Nat.le_of_ble_eq_true rfl) (Nat.le_of_ble_eq_true rfl)
      · have hf := opt_neg c5 hf
        refine g_aload_n C 0 dX11_deals_109 rfl ?_
        refine g_iload_n C 1 dX11_deals_110 rfl ?_
        refine g_iconst C (v := 3) dX11_deals_111 (by decide) ?_
        refine g_iload C 6 dX11_deals_112 rfl ?_
        refine g_iadd C dX11_deals_114 ?_
        refine g_iload C 6 dX11_deals_115 rfl ?_
        refine g_iload_n C 3 dX11_deals_117 rfl ?_
        refine g_icmp_ge C 138 dX11_deals_118 (by decide) (fun c12 => ?_) (fun c12 => ?_)
        · have hf := opt_pos c12 hf
          refine g_iconst C (v := 0) dX11_deals_138 (by decide) ?_
          exact H139 g_102 coef_102 l5_102 l6_102 0 ((3 : Int32) + l6_102) p0 hf
        · have hf := opt_neg c12 hf
          refine g_iconst C (v := 4) dX11_deals_121 (by decide) ?_
          refine g_aload_n C 0 dX11_deals_122 rfl ?_
          refine g_get C 0 4 rfl rfl wiX11 (by decide) mw_6_188 rfl rfl dX11_deals_123 ?_
          refine g_iload C 6 dX11_deals_126 rfl ?_
          obtain ⟨c15, hf⟩ := gg_of hf
          refine g_iald C 3 rfl (gi_in c15) dX11_deals_128 ?_
          refine g_sipush C (v := 2039) dX11_deals_129 (by decide) ?_
          obtain ⟨v16, h17, hf⟩ := opt_bind hf
          refine g_callS C (c_X11_power (l := x_l X) (D := x_D X) (cy := x_y X) (p0 := 4) (p1 := coef_102 (Int32.toNatClampNeg l6_102)) (p2 := 2039) h17) (As := [.int 4, .int (coef_102 (Int32.toNatClampNeg l6_102)), .int 2039]) (rest := [.int ((3 : Int32) + l6_102), .int p0, .ref (a 0)]) (wr := (wM (x_y X) a thrown g_102 saved hasSaved coef_102 nodes nodeMany isDeep codes details levelMany given paper papered tape taped wrongAt at_ value readPlace readValue readEpoch)) (ws' := fun _ => (wM (x_y X) a thrown g_102 saved hasSaved coef_102 nodes nodeMany isDeep codes details levelMany given paper papered tape taped wrongAt at_ value readPlace readValue readEpoch)) (st' := fun _ => [.int v16, .int ((3 : Int32) + l6_102), .int p0, .ref (a 0)]) 3 mw_7_76 mw_1_9 mw_7_74 mw_7_75 hd_X11_power rfl (g_rm hR rfl rfl) [] [0, 1, 2, 3, 4, 5, 6, 7, 8, 9] [0, 1, 2, 3, 4, 5, 6, 7, 8, 9] ⟨rfl, rfl, rfl, rfl, by decide, gRoIn_0, rfl, fun _ => rfl⟩ rfl (Nat.le_of_ble_eq_true rfl) dX11_deals_132 (g_rc hR (Nat.le_of_ble_eq_true rfl) (Nat.le_of_ble_eq_true rfl)) (ck' := 0) (sk' := 0) rfl rfl (fun _ => rfl) (fun _ _ => ?_) (fun _ hx => absurd rfl hx)
          refine g_goto C 139 dX11_deals_135 (by decide) ?_
          exact H139 g_102 coef_102 l5_102 l6_102 v16 ((3 : Int32) + l6_102) p0 hf
  have H39 : ∀ (n39 : Nat), ∀ (g_39 : Nat → Int32) (coef_39 : Nat → Int32) (l5_39 : Int32) (l6_39 : Int32), F_X11_deals_L39 p0 p2 p3 n39 g_39 coef_39 l5_39 l6_39 = some val → gW X Q 0 0 ((wM (x_y X) a thrown g_39 saved hasSaved coef_39 nodes nodeMany isDeep codes details levelMany given paper papered tape taped wrongAt at_ value readPlace readValue readEpoch)) [(0, .ref (a 0)), (1, .int p0), (2, .int p1), (3, .int p2), (4, .int p3), (5, .int l5_39), (6, .int l6_39)] [] 39 := by
    intro n39
    induction n39 with
    | zero => intros; rename_i hf; cases hf
    | succ n39 ih =>
      intro g_39 coef_39 l5_39 l6_39 hf
      have H39 := ih
      rw [F_X11_deals_L39] at hf
      have H93 : ∀ (g_93 : Nat → Int32) (coef_93 : Nat → Int32) (l5_93 : Int32) (l6_93 : Int32), F_X11_deals_L93 (F_X11_deals_L39 p0 p2 p3 n39) g_93 coef_93 l5_93 l6_93 = some val → gW X Q 0 0 ((wM (x_y X) a thrown g_93 saved hasSaved coef_93 nodes nodeMany isDeep codes details levelMany given paper papered tape taped wrongAt at_ value readPlace readValue readEpoch)) [(0, .ref (a 0)), (1, .int p0), (2, .int p1), (3, .int p2), (4, .int p3), (5, .int l5_93), (6, .int l6_93)] [] 93 := by
        intro g_93 coef_93 l5_93 l6_93 hf
        unfold F_X11_deals_L93 at hf
        refine g_iinc C 6 (v := l6_93 + 1) (lv' := [(6, .int (l6_93 + 1)), (0, .ref (a 0)), (1, .int p0), (2, .int p1), (3, .int p2), (4, .int p3), (5, .int l5_93)]) dX11_deals_93 rfl rfl (g_nlt hn rfl) rfl ?_
        refine g_goto C 39 dX11_deals_96 (by decide) ?_
        refine gW.locals [1, 2, 3, 4, 5, 6, 0] rfl ?_
        exact H39 g_93 coef_93 l5_93 (l6_93 + 1) hf
      refine g_iload C 6 dX11_deals_39 rfl ?_
      refine g_bipush C (v := 24) dX11_deals_41 (by decide) ?_
      refine g_icmp_gt C 99 dX11_deals_43 (by decide) (fun c4 => ?_) (fun c4 => ?_)
      · have hf := opt_pos c4 hf
        refine g_iconst C (v := 0) dX11_deals_99 (by decide) ?_
        refine g_istore C (lv' := [(6, .int 0), (0, .ref (a 0)), (1, .int p0), (2, .int p1), (3, .int p2), (4, .int p3), (5, .int l5_39)]) dX11_deals_100 (g_nlt hn rfl) rfl ?_
        refine gW.locals [1, 2, 3, 4, 5, 6, 0] rfl ?_
        exact H102 1000 g_39 coef_39 l5_39 0 hf
      · have hf := opt_neg c4 hf
        refine g_aload_n C 0 dX11_deals_46 rfl ?_
        refine g_iload_n C 1 dX11_deals_47 rfl ?_
        refine g_iload C 6 dX11_deals_48 rfl ?_
        obtain ⟨v18, h19, hf⟩ := opt_bind hf
        refine g_callV C (c_X11_removes (l := x_l X) (D := x_D X) (cy := x_y X) (a := a) (thrown := thrown) (g := g_39) (saved := saved) (hasSaved := hasSaved) (coef := coef_39) (nodes := nodes) (nodeMany := nodeMany) (isDeep := isDeep) (codes := codes) (details := details) (levelMany := levelMany) (given := given) (paper := paper) (papered := papered) (tape := tape) (taped := taped) (wrongAt := wrongAt) (at_ := at_) (value := value) (readPlace := readPlace) (readValue := readValue) (readEpoch := readEpoch) (p0 := p0) (p1 := l6_39) h19) (As := [.int p0, .int l6_39]) (rest := []) (wr := []) (ws' := fun _ => (wM (x_y X) a thrown v18 saved hasSaved coef_39 nodes nodeMany isDeep codes details levelMany given paper papered tape taped wrongAt at_ value readPlace readValue readEpoch)) (st' := fun _ => []) (ci := 12) 2 0 ⟨_, rfl⟩ rfl rfl mw_7_99 mw_1_9 mw_7_96 mw_7_98 mp_40 hd_X11_removes rfl (g_rm hR rfl rfl) [0, 1, 2, 3, 4, 5, 6, 7, 8, 9] [] [0, 1, 2, 3, 4, 5, 6, 7, 8, 9] ⟨rfl, rfl, rfl, rfl, by decide, gRoIn_0, rfl, fun _ => rfl⟩ rfl (Nat.le_of_ble_eq_true rfl) dX11_deals_50 (g_rc hR (Nat.le_of_ble_eq_true rfl) (Nat.le_of_ble_eq_true rfl)) (ck' := 0) (sk' := 0) rfl rfl (fun _ => rfl) (fun _ _ => ?_) (fun _ hx => absurd rfl hx)
        refine g_aload_n C 0 dX11_deals_53 rfl ?_
        refine g_iload C 6 dX11_deals_54 rfl ?_
        obtain ⟨v20, h21, hf⟩ := opt_bind hf
        refine g_callS C (c_X11_owner (l := x_l X) (D := x_D X) (cy := x_y X) (p0 := l6_39) h21) (As := [.int l6_39]) (rest := [.ref (a 0)]) (wr := (wM (x_y X) a thrown v18 saved hasSaved coef_39 nodes nodeMany isDeep codes details levelMany given paper papered tape taped wrongAt at_ value readPlace readValue readEpoch)) (ws' := fun _ => (wM (x_y X) a thrown v18 saved hasSaved coef_39 nodes nodeMany isDeep codes details levelMany given paper papered tape taped wrongAt at_ value readPlace readValue readEpoch)) (st' := fun _ => [.int v20, .ref (a 0)]) 1 mw_7_102 mw_1_9 mw_7_100 mw_7_101 hd_X11_owner rfl (g_rm hR rfl rfl) [] [0, 1, 2, 3, 4, 5, 6, 7, 8, 9] [0, 1, 2, 3, 4, 5, 6, 7, 8, 9] ⟨rfl, rfl, rfl, rfl, by decide, gRoIn_0, rfl, fun _ => rfl⟩ rfl (Nat.le_of_ble_eq_true rfl) dX11_deals_56 (g_rc hR (Nat.le_of_ble_eq_true rfl) (Nat.le_of_ble_eq_true rfl)) (ck' := 0) (sk' := 0) rfl rfl (fun _ => rfl) (fun _ _ => ?_) (fun _ hx => absurd rfl hx)
        obtain ⟨v22, h23, hf⟩ := opt_bind hf
        refine g_callV C (c_X11_isPresent (l := x_l X) (D := x_D X) (cy := x_y X) (a := a) (thrown := thrown) (g := v18) (saved := saved) (hasSaved := hasSaved) (coef := coef_39) (nodes := nodes) (nodeMany := nodeMany) (isDeep := isDeep) (codes := codes) (details := details) (levelMany := levelMany) (given := given) (paper := paper) (papered := papered) (tape := tape) (taped := taped) (wrongAt := wrongAt) (at_ := at_) (value := value) (readPlace := readPlace) (readValue := readValue) (readEpoch := readEpoch) (p0 := v20) h23) (As := [.int v20]) (rest := []) (wr := []) (ws' := fun _ => (wM (x_y X) a thrown v18 saved hasSaved coef_39 nodes nodeMany isDeep codes details levelMany given paper papered tape taped wrongAt at_ value readPlace readValue readEpoch)) (st' := fun _ => [.int v22]) (ci := 12) 1 0 ⟨_, rfl⟩ rfl rfl mw_7_53 mw_1_9 mw_7_50 mw_7_52 mp_32 hd_X11_isPresent rfl (g_rm hR rfl rfl) [0, 1, 2, 3, 4, 5, 6, 7, 8, 9] [] [0, 1, 2, 3, 4, 5, 6, 7, 8, 9] ⟨rfl, rfl, rfl, rfl, by decide, gRoIn_0, rfl, fun _ => rfl⟩ rfl (Nat.le_of_ble_eq_true rfl) dX11_deals_59 (g_rc hR (Nat.le_of_ble_eq_true rfl) (Nat.le_of_ble_eq_true rfl)) (ck' := 0) (sk' := 0) rfl rfl (fun _ => rfl) (fun _ _ => ?_) (fun _ hx => absurd rfl hx)
        refine g_if_eq C 93 dX11_deals_62 (by decide) (fun c24 => ?_) (fun c24 => ?_)
        · have hf := opt_pos c24 hf
          exact H93 v18 coef_39 l5_39 l6_39 hf
        · have hf := opt_neg c24 hf
          refine g_aload_n C 0 dX11_deals_65 rfl ?_
          refine g_iload C 6 dX11_deals_66 rfl ?_
          obtain ⟨v25, h26, hf⟩ := opt_bind hf
          refine g_callV C (c_X11_isUsed (l := x_l X) (D := x_D X) (cy := x_y X) (a := a) (thrown := thrown) (g := v18) (saved := saved) (hasSaved := hasSaved) (coef := coef_39) (nodes := nodes) (nodeMany := nodeMany) (isDeep := isDeep) (codes := codes) (details := details) (levelMany := levelMany) (given := given) (paper := paper) (papered := papered) (tape := tape) (taped := taped) (wrongAt := wrongAt) (at_ := at_) (value := value) (readPlace := readPlace) (readValue := readValue) (readEpoch := readEpoch) (p0 := l6_39) h26) (As := [.int l6_39]) (rest := []) (wr := []) (ws' := fun _ => (wM (x_y X) a thrown v18 saved hasSaved coef_39 nodes nodeMany isDeep codes details levelMany given paper papered tape taped wrongAt at_ value readPlace readValue readEpoch)) (st' := fun _ => [.int v25]) (ci := 12) 1 0 ⟨_, rfl⟩ rfl rfl mw_7_106 mw_1_9 mw_7_103 mw_7_105 mp_41 hd_X11_isUsed rfl (g_rm hR rfl rfl) [0, 1, 2, 3, 4, 5, 6, 7, 8, 9] [] [0, 1, 2, 3, 4, 5, 6, 7, 8, 9] ⟨rfl, rfl, rfl, rfl, by decide, gRoIn_0, rfl, fun _ => rfl⟩ rfl (Nat.le_of_ble_eq_true rfl) dX11_deals_68 (g_rc hR (Nat.le_of_ble_eq_true rfl) (Nat.le_of_ble_eq_true rfl)) (ck' := 0) (sk' := 0) rfl rfl (fun _ => rfl) (fun _ _ => ?_) (fun _ hx => absurd rfl hx)
          refine g_if_eq C 93 dX11_deals_71 (by decide) (fun c27 => ?_) (fun c27 => ?_)
          · have hf := opt_pos c27 hf
            exact H93 v18 coef_39 l5_39 l6_39 hf
          · have hf := opt_neg c27 hf
            refine g_aload_n C 0 dX11_deals_74 rfl ?_
            refine g_iload_n C 1 dX11_deals_75 rfl ?_
            refine g_iload C 6 dX11_deals_76 rfl ?_
            refine g_aload_n C 0 dX11_deals_78 rfl ?_
            refine g_iload_n C 3 dX11_deals_79 rfl ?_
            refine g_iload C 6 dX11_deals_80 rfl ?_
            obtain ⟨v28, h29, hf⟩ := opt_bind hf
            refine g_callV C (c_X11_polynomial (l := x_l X) (D := x_D X) (cy := x_y X) (a := a) (thrown := thrown) (g := v18) (saved := saved) (hasSaved := hasSaved) (coef := coef_39) (nodes := nodes) (nodeMany := nodeMany) (isDeep := isDeep) (codes := codes) (details := details) (levelMany := levelMany) (given := given) (paper := paper) (papered := papered) (tape := tape) (taped := taped) (wrongAt := wrongAt) (at_ := at_) (value := value) (readPlace := readPlace) (readValue := readValue) (readEpoch := readEpoch) (p0 := p2) (p1 := l6_39) h29) (As := [.int p2, .int l6_39]) (rest := [.int l6_39, .int p0, .ref (a 0)]) (wr := []) (ws' := fun _ => (wM (x_y X) a thrown v18 saved hasSaved coef_39 nodes nodeMany isDeep codes details levelMany given paper papered tape taped wrongAt at_ value readPlace readValue readEpoch)) (st' := fun _ => [.int v28, .int l6_39, .int p0, .ref (a 0)]) (ci := 12) 2 0 ⟨_, rfl⟩ rfl rfl mw_7_110 mw_1_9 mw_7_107 mw_7_109 mp_42 hd_X11_polynomial rfl (g_rm hR rfl rfl) [0, 1, 2, 3, 4, 5, 6, 7, 8, 9] [] [0, 1, 2, 3, 4, 5, 6, 7, 8, 9] ⟨rfl, rfl, rfl, rfl, by decide, gRoIn_0, rfl, fun _ => rfl⟩ rfl (Nat.le_of_ble_eq_true rfl) dX11_deals_82 (g_rc hR (Nat.le_of_ble_eq_true rfl) (Nat.le_of_ble_eq_true rfl)) (ck' := 0) (sk' := 0) rfl rfl (fun _ => rfl) (fun _ _ => ?_) (fun _ hx => absurd rfl hx)
            refine g_iload C 4 dX11_deals_85 rfl ?_
            obtain ⟨v30, h31, hf⟩ := opt_bind hf
            refine g_callV C (c_X11_setsShare (l := x_l X) (D := x_D X) (cy := x_y X) (a := a) (thrown := thrown) (g := v18) (saved := saved) (hasSaved := hasSaved) (coef := coef_39) (nodes := nodes) (nodeMany := nodeMany) (isDeep := isDeep) (codes := codes) (details := details) (levelMany := levelMany) (given := given) (paper := paper) (papered := papered) (tape := tape) (taped := taped) (wrongAt := wrongAt) (at_ := at_) (value := value) (readPlace := readPlace) (readValue := readValue) (readEpoch := readEpoch) (p0 := p0) (p1 := l6_39) (p2 := v28) (p3 := p3) h31) (As := [.int p0, .int l6_39, .int v28, .int p3]) (rest := []) (wr := []) (ws' := fun _ => (wM (x_y X) a thrown v30 saved hasSaved coef_39 nodes nodeMany isDeep codes details levelMany given paper papered tape taped wrongAt at_ value readPlace readValue readEpoch)) (st' := fun _ => []) (ci := 12) 4 0 ⟨_, rfl⟩ rfl rfl mw_7_114 mw_1_9 mw_7_111 mw_7_113 mp_43 hd_X11_setsShare rfl (g_rm hR rfl rfl) [0, 1, 2, 3, 4, 5, 6, 7, 8, 9] [] [0, 1, 2, 3, 4, 5, 6, 7, 8, 9] ⟨rfl, rfl, rfl, rfl, by decide, gRoIn_0, rfl, fun _ => rfl⟩ rfl (Nat.le_of_ble_eq_true rfl) dX11_deals_87 (g_rc hR (Nat.le_of_ble_eq_true rfl) (Nat.le_of_ble_eq_true rfl)) (ck' := 0) (sk' := 0) rfl rfl (fun _ => rfl) (fun _ _ => ?_) (fun _ hx => absurd rfl hx)
            refine g_iinc C 5 (v := l5_39 + 1) (lv' := [(5, .int (l5_39 + 1)), (0, .ref (a 0)), (1, .int p0), (2, .int p1), (3, .int p2), (4, .int p3), (6, .int l6_39)]) dX11_deals_90 rfl rfl (g_nlt hn rfl) rfl ?_
            refine gW.locals [1, 2, 3, 4, 5, 0, 6] rfl ?_
            exact H93 v30 coef_39 (l5_39 + 1) l6_39 hf
  have H10 : ∀ (n10 : Nat), ∀ (g_10 : Nat → Int32) (coef_10 : Nat → Int32) (l5_10 : Int32), F_X11_deals_L10 p0 p2 p3 n10 g_10 coef_10 l5_10 = some val → gW X Q 0 0 ((wM (x_y X) a thrown g_10 saved hasSaved coef_10 nodes nodeMany isDeep codes details levelMany given paper papered tape taped wrongAt at_ value readPlace readValue readEpoch)) [(0, .ref (a 0)), (1, .int p0), (2, .int p1), (3, .int p2), (4, .int p3), (5, .int l5_10)] [] 10 := by
    intro n10
    induction n10 with
    | zero => intros; rename_i hf; cases hf
    | succ n10 ih =>
      intro g_10 coef_10 l5_10 hf
      have H10 := ih
      rw [F_X11_deals_L10] at hf
      refine g_iload C 5 dX11_deals_10 rfl ?_
      refine g_iload_n C 3 dX11_deals_12 rfl ?_
      refine g_icmp_ge C 33 dX11_deals_13 (by decide) (fun c3 => ?_) (fun c3 => ?_)
      · have hf := opt_pos c3 hf
        refine g_iconst C (v := 0) dX11_deals_33 (by decide) ?_
        refine g_istore C (lv' := [(5, .int 0), (0, .ref (a 0)), (1, .int p0), (2, .int p1), (3, .int p2), (4, .int p3)]) dX11_deals_34 (g_nlt hn rfl) rfl ?_
        refine g_iconst C (v := 1) dX11_deals_36 (by decide) ?_
        refine g_istore C (lv' := [(6, .int 1), (5, .int 0), (0, .ref (a 0)), (1, .int p0), (2, .int p1), (3, .int p2), (4, .int p3)]) dX11_deals_37 (g_nlt hn rfl) rfl ?_
        refine gW.locals [2, 3, 4, 5, 6, 1, 0] rfl ?_
        exact H39 1000 g_10 coef_10 0 1 hf
      · have hf := opt_neg c3 hf
        refine g_aload_n C 0 dX11_deals_16 rfl ?_
        refine g_get C 0 4 rfl rfl wiX11 (by decide) mw_6_188 rfl rfl dX11_deals_17 ?_
        refine g_iload C 5 dX11_deals_20 rfl ?_
        refine g_aload_n C 0 dX11_deals_22 rfl ?_
        obtain ⟨v32, h33, hf⟩ := opt_bind hf
        refine g_callV C (c_X11_drawn (l := x_l X) (D := x_D X) (cy := x_y X) (a := a) (thrown := thrown) (g := g_10) (saved := saved) (hasSaved := hasSaved) (coef := coef_10) (nodes := nodes) (nodeMany := nodeMany) (isDeep := isDeep) (codes := codes) (details := details) (levelMany := levelMany) (given := given) (paper := paper) (papered := papered) (tape := tape) (taped := taped) (wrongAt := wrongAt) (at_ := at_) (value := value) (readPlace := readPlace) (readValue := readValue) (readEpoch := readEpoch) h33) (As := []) (rest := [.int l5_10, .ref (a 3)]) (wr := []) (ws' := fun _ => (wM (x_y X) a thrown v32.2 saved hasSaved coef_10 nodes nodeMany isDeep codes details levelMany given paper papered tape taped wrongAt at_ value readPlace readValue readEpoch)) (st' := fun _ => [.int v32.1, .int l5_10, .ref (a 3)]) (ci := 12) 0 0 ⟨_, rfl⟩ rfl rfl mw_7_30 mw_1_9 mw_7_27 mw_7_29 mp_30 hd_X11_drawn rfl (g_rm hR rfl rfl) [0, 1, 2, 3, 4, 5, 6, 7, 8, 9] [] [0, 1, 2, 3, 4, 5, 6, 7, 8, 9] ⟨rfl, rfl, rfl, rfl, by decide, gRoIn_0, rfl, fun _ => rfl⟩ rfl (Nat.le_of_ble_eq_true rfl) dX11_deals_23 (g_rc hR (Nat.le_of_ble_eq_true rfl) (Nat.le_of_ble_eq_true rfl)) (ck' := 0) (sk' := 0) rfl rfl (fun _ => rfl) (fun _ _ => ?_) (fun _ hx => absurd rfl hx)
        obtain ⟨c34, hf⟩ := gg_of hf
        obtain ⟨f35, ef35, hf⟩ := opt_let hf
        refine g_iast C (ws' := (wM (x_y X) a thrown v32.2 saved hasSaved f35 nodes nodeMany isDeep codes details levelMany given paper papered tape taped wrongAt at_ value readPlace readValue readEpoch)) 3 rfl (gi_in c34) (by rw [ef35]; rfl) dX11_deals_26 ?_
        refine g_iinc C 5 (v := l5_10 + 1) (lv' := [(5, .int (l5_10 + 1)), (0, .ref (a 0)), (1, .int p0), (2, .int p1), (3, .int p2), (4, .int p3)]) dX11_deals_27 rfl rfl (g_nlt hn rfl) rfl ?_
        refine g_goto C 10 dX11_deals_30 (by decide) ?_
        refine gW.locals [1, 2, 3, 4, 5, 0] rfl ?_
        exact H10 v32.2 f35 (l5_10 + 1) hf
  show gW X Q 0 0 ((wM (x_y X) a thrown g saved hasSaved coef nodes nodeMany isDeep codes details levelMany given paper papered tape taped wrongAt at_ value readPlace readValue readEpoch)) [(0, .ref (a 0)), (1, .int p0), (2, .int p1), (3, .int p2), (4, .int p3)] [] 0
  refine g_aload_n C 0 dX11_deals_0 rfl ?_
  refine g_get C 0 4 rfl rfl wiX11 (by decide) mw_6_188 rfl rfl dX11_deals_1 ?_
  refine g_iconst C (v := 0) dX11_deals_4 (by decide) ?_
  refine g_iload_n C 2 dX11_deals_5 rfl ?_
  obtain ⟨c1, hf⟩ := gg_of hf
  obtain ⟨f2, ef2, hf⟩ := opt_let hf
  refine g_iast C (ws' := (wM (x_y X) a thrown g saved hasSaved f2 nodes nodeMany isDeep codes details levelMany given paper papered tape taped wrongAt at_ value readPlace readValue readEpoch)) 3 rfl (gi_in c1) (by rw [ef2]; rfl) dX11_deals_6 ?_
  refine g_iconst C (v := 1) dX11_deals_7 (by decide) ?_
  refine g_istore C (lv' := [(5, .int 1), (0, .ref (a 0)), (1, .int p0), (2, .int p1), (3, .int p2), (4, .int p3)]) dX11_deals_8 (g_nlt hn rfl) rfl ?_
  refine gW.locals [1, 2, 3, 4, 5, 0] rfl ?_
  exact H10 1000 g f2 1 hf
/-! X11_put -/
theorem hd_X11_put : yX11_put.cls ≠ "java/lang/invoke/MethodHandle" ∧ yX11_put.cls ≠ "java/lang/invoke/VarHandle" ∧ (parseMethodDescriptor yX11_put.desc).map (fun d => d.parameters.length) = some 3 := by decide +kernel
def F_X11_put_L34   (thrown_34 : Int32) (g_34 : Nat → Int32) (coef_34 : Nat → Int32) : Option (Int32 × Int32 × (Nat → Int32) × (Nat → Int32)) := (F_X11_fails thrown_34 2).bind fun v7 => some (v7.1, v7.2, g_34, coef_34)
def F_X11_put (thrown : Int32) (g : Nat → Int32) (coef : Nat → Int32) (p0 : Int32) (p1 : Int32) (p2 : Int32) : Option (Int32 × Int32 × (Nat → Int32) × (Nat → Int32)) := (F_X11_isSlot p0).bind fun v1 => if v1 = 0 then ((F_X11_fails thrown 1).bind fun v25 => some (v25.1, v25.2, g, coef)) else ((F_X11_in p1 0 1018).bind fun v4 => if v4 = 0 then (F_X11_put_L34 thrown g coef) else ((F_X11_in p2 1 8).bind fun v9 => if v9 = 0 then (F_X11_put_L34 thrown g coef) else ((F_X11_usedPlaces g).bind fun v12 => if p2 ≤ v12 then ((F_X11_sets g p0 11 0).bind fun v15 => (F_X11_deals v15 coef p0 p1 p2 1).bind fun v17 => (F_X11_happens v17.2.1 ((100 : Int32) + p0)).bind fun v19 => (F_X11_done thrown v17.1).bind fun v21 => some (v21.1, v21.2, v19, v17.2.2)) else ((F_X11_fails thrown 3).bind fun v23 => some (v23.1, v23.2, g, coef)))))
set_option maxRecDepth 100000 in
set_option maxHeartbeats 4000000 in
theorem c_X11_put {l : Launch} {D : va_G} {cy : Nat → ClassId} {a : Nat → Nat} {thrown : Int32} {g : Nat → Int32} {saved : Nat → Int32} {hasSaved : Int32} {coef : Nat → Int32} {nodes : Nat → Int32} {nodeMany : Int32} {isDeep : Int32} {codes : Nat → Int32} {details : Nat → Int32} {levelMany : Int32} {given : Nat → Int32} {paper : Nat → Int32} {papered : Int32} {tape : Nat → Int32} {taped : Int32} {wrongAt : Int32} {at_ : Int32} {value : Int32} {readPlace : Int32} {readValue : Int32} {readEpoch : Int32} {p0 : Int32} {p1 : Int32} {p2 : Int32}  {val : Int32 × Int32 × (Nat → Int32) × (Nat → Int32)} (hf : F_X11_put thrown g coef p0 p1 p2 = some val) : gCt l D cy yX11_put cX11_put 5 (some .int) 3 73 0 0 [.ref (a 0), .int p0, .int p1, .int p2] [] ((wM cy a thrown g saved hasSaved coef nodes nodeMany isDeep codes details levelMany given paper papered tape taped wrongAt at_ value readPlace readValue readEpoch)) 0 (fun _ : Unit => some (.int val.1)) (fun _ => (wM cy a val.2.1 val.2.2.1 saved hasSaved val.2.2.2 nodes nodeMany isDeep codes details levelMany given paper papered tape taped wrongAt at_ value readPlace readValue readEpoch)) := by
  refine g_begin (by decide +kernel) (Nat.le_of_ble_eq_true rfl) ?_
  intro X Q hl hR hD hy hro hn C hin E
  subst hl; subst hD; subst hy
  replace C : gC X "SecretVaultModel" cX11_put (some .int) := C
  unfold F_X11_put at hf
  have H34 : ∀ (thrown_34 : Int32) (g_34 : Nat → Int32) (coef_34 : Nat → Int32), F_X11_put_L34 thrown_34 g_34 coef_34 = some val → gW X Q 0 0 ((wM (x_y X) a thrown_34 g_34 saved hasSaved coef_34 nodes nodeMany isDeep codes details levelMany given paper papered tape taped wrongAt at_ value readPlace readValue readEpoch)) [(0, .ref (a 0)), (1, .int p0), (2, .int p1), (3, .int p2)] [] 34 := by
    intro thrown_34 g_34 coef_34 hf
    unfold F_X11_put_L34 at hf
    refine g_aload_n C 0 dX11_put_34 rfl ?_
    refine g_iconst C (v := 2) dX11_put_35 (by decide) ?_
    obtain ⟨v7, h8, hf⟩ := opt_bind hf
    refine g_callV C (c_X11_fails (l := x_l X) (D := x_D X) (cy := x_y X) (a := a) (thrown := thrown_34) (g := g_34) (saved := saved) (hasSaved := hasSaved) (coef := coef_34) (nodes := nodes) (nodeMany := nodeMany) (isDeep := isDeep) (codes := codes) (details := details) (levelMany := levelMany) (given := given) (paper := paper) (papered := papered) (tape := tape) (taped := taped) (wrongAt := wrongAt) (at_ := at_) (value := value) (readPlace := readPlace) (readValue := readValue) (readEpoch := readEpoch) (p0 := 2) h8) (As := [.int 2]) (rest := []) (wr := []) (ws' := fun _ => (wM (x_y X) a v7.2 g_34 saved hasSaved coef_34 nodes nodeMany isDeep codes details levelMany given paper papered tape taped wrongAt at_ value readPlace readValue readEpoch)) (st' := fun _ => [.int v7.1]) (ci := 12) 1 0 ⟨_, rfl⟩ rfl rfl mw_7_45 mw_1_9 mw_7_42 mw_7_44 mp_31 hd_X11_fails rfl (g_rm hR rfl rfl) [0, 1, 2, 3, 4, 5, 6, 7, 8, 9] [] [0, 1, 2, 3, 4, 5, 6, 7, 8, 9] ⟨rfl, rfl, rfl, rfl, by decide, gRoIn_0, rfl, fun _ => rfl⟩ rfl (Nat.le_of_ble_eq_true rfl) dX11_put_36 (g_rc hR (Nat.le_of_ble_eq_true rfl) (Nat.le_of_ble_eq_true rfl)) (ck' := 0) (sk' := 0) rfl rfl (fun _ => rfl) (fun _ _ => ?_) (fun _ hx => absurd rfl hx)
    obtain rfl := Option.some.inj hf
    exact g_iret C E () dX11_put_39 rfl rfl rfl (Nat.le_of_ble_eq_true rfl) (Nat.le_of_ble_eq_true rfl)
  show gW X Q 0 0 ((wM (x_y X) a thrown g saved hasSaved coef nodes nodeMany isDeep codes details levelMany given paper papered tape taped wrongAt at_ value readPlace readValue readEpoch)) [(0, .ref (a 0)), (1, .int p0), (2, .int p1), (3, .int p2)] [] 0
  refine g_iload_n C 1 dX11_put_0 rfl ?_
  obtain ⟨v1, h2, hf⟩ := opt_bind hf
  refine g_callS C (c_X11_isSlot (l := x_l X) (D := x_D X) (cy := x_y X) (p0 := p0) h2) (As := [.int p0]) (rest := []) (wr := (wM (x_y X) a thrown g saved hasSaved coef nodes nodeMany isDeep codes details levelMany given paper papered tape taped wrongAt at_ value readPlace readValue readEpoch)) (ws' := fun _ => (wM (x_y X) a thrown g saved hasSaved coef nodes nodeMany isDeep codes details levelMany given paper papered tape taped wrongAt at_ value readPlace readValue readEpoch)) (st' := fun _ => [.int v1]) 1 mw_7_83 mw_1_9 mw_7_81 mw_7_82 hd_X11_isSlot rfl (g_rm hR rfl rfl) [] [0, 1, 2, 3, 4, 5, 6, 7, 8, 9] [0, 1, 2, 3, 4, 5, 6, 7, 8, 9] ⟨rfl, rfl, rfl, rfl, by decide, gRoIn_0, rfl, fun _ => rfl⟩ rfl (Nat.le_of_ble_eq_true rfl) dX11_put_1 (g_rc hR (Nat.le_of_ble_eq_true rfl) (Nat.le_of_ble_eq_true rfl)) (ck' := 0) (sk' := 0) rfl rfl (fun _ => rfl) (fun _ _ => ?_) (fun _ hx => absurd rfl hx)
  refine g_if_ne C 13 dX11_put_4 (by decide) (fun c3 => ?_) (fun c3 => ?_)
  · have hf := opt_neg c3 hf
    refine g_iload_n C 2 dX11_put_13 rfl ?_
    refine g_iconst C (v := 0) dX11_put_14 (by decide) ?_
    refine g_sipush C (v := 1018) dX11_put_15 (by decide) ?_
    obtain ⟨v4, h5, hf⟩ := opt_bind hf
    refine g_callS C (c_X11_in (l := x_l X) (D := x_D X) (cy := x_y X) (p0 := p1) (p1 := 0) (p2 := 1018) h5) (As := [.int p1, .int 0, .int 1018]) (rest := []) (wr := (wM (x_y X) a thrown g saved hasSaved coef nodes nodeMany isDeep codes details levelMany given paper papered tape taped wrongAt at_ value readPlace readValue readEpoch)) (ws' := fun _ => (wM (x_y X) a thrown g saved hasSaved coef nodes nodeMany isDeep codes details levelMany given paper papered tape taped wrongAt at_ value readPlace readValue readEpoch)) (st' := fun _ => [.int v4]) 3 mw_7_41 mw_1_9 mw_7_39 mw_7_40 hd_X11_in rfl (g_rm hR rfl rfl) [] [0, 1, 2, 3, 4, 5, 6, 7, 8, 9] [0, 1, 2, 3, 4, 5, 6, 7, 8, 9] ⟨rfl, rfl, rfl, rfl, by decide, gRoIn_0, rfl, fun _ => rfl⟩ rfl (Nat.le_of_ble_eq_true rfl) dX11_put_18 (g_rc hR (Nat.le_of_ble_eq_true rfl) (Nat.le_of_ble_eq_true rfl)) (ck' := 0) (sk' := 0) rfl rfl (fun _ => rfl) (fun _ _ => ?_) (fun _ hx => absurd rfl hx)
    refine g_if_eq C 34 dX11_put_21 (by decide) (fun c6 => ?_) (fun c6 => ?_)
    · have hf := opt_pos c6 hf
      exact H34 thrown g coef hf
    · have hf := opt_neg c6 hf
      refine g_iload_n C 3 dX11_put_24 rfl ?_
      refine g_iconst C (v := 1) dX11_put_25 (by decide) ?_
      refine g_bipush C (v := 8) dX11_put_26 (by decide) ?_
      obtain ⟨v9, h10, hf⟩ := opt_bind hf
      refine g_callS C (c_X11_in (l := x_l X) (D := x_D X) (cy := x_y X) (p0 := p2) (p1 := 1) (p2 := 8) h10) (As := [.int p2, .int 1, .int 8]) (rest := []) (wr := (wM (x_y X) a thrown g saved hasSaved coef nodes nodeMany isDeep codes details levelMany given paper papered tape taped wrongAt at_ value readPlace readValue readEpoch)) (ws' := fun _ => (wM (x_y X) a thrown g saved hasSaved coef nodes nodeMany isDeep codes details levelMany given paper papered tape taped wrongAt at_ value readPlace readValue readEpoch)) (st' := fun _ => [.int v9]) 3 mw_7_41 mw_1_9 mw_7_39 mw_7_40 hd_X11_in rfl (g_rm hR rfl rfl) [] [0, 1, 2, 3, 4, 5, 6, 7, 8, 9] [0, 1, 2, 3, 4, 5, 6, 7, 8, 9] ⟨rfl, rfl, rfl, rfl, by decide, gRoIn_0, rfl, fun _ => rfl⟩ rfl (Nat.le_of_ble_eq_true rfl) dX11_put_28 (g_rc hR (Nat.le_of_ble_eq_true rfl) (Nat.le_of_ble_eq_true rfl)) (ck' := 0) (sk' := 0) rfl rfl (fun _ => rfl) (fun _ _ => ?_) (fun _ hx => absurd rfl hx)
      refine g_if_ne C 40 dX11_put_31 (by decide) (fun c11 => ?_) (fun c11 => ?_)
      · have hf := opt_neg c11 hf
        refine g_aload_n C 0 dX11_put_40 rfl ?_
        obtain ⟨v12, h13, hf⟩ := opt_bind hf
        refine g_callV C (c_X11_usedPlaces (l := x_l X) (D := x_D X) (cy := x_y X) (a := a) (thrown := thrown) (g := g) (saved := saved) (hasSaved := hasSaved) (coef := coef) (nodes := nodes) (nodeMany := nodeMany) (isDeep := isDeep) (codes := codes) (details := details) (levelMany := levelMany) (given := given) (paper := paper) (papered := papered) (tape := tape) (taped := taped) (wrongAt := wrongAt) (at_ := at_) (value := value) (readPlace := readPlace) (readValue := readValue) (readEpoch := readEpoch) h13) (As := []) (rest := []) (wr := []) (ws' := fun _ => (wM (x_y X) a thrown g saved hasSaved coef nodes nodeMany isDeep codes details levelMany given paper papered tape taped wrongAt at_ value readPlace readValue readEpoch)) (st' := fun _ => [.int v12]) (ci := 12) 0 0 ⟨_, rfl⟩ rfl rfl mw_7_87 mw_1_9 mw_7_84 mw_7_86 mp_37 hd_X11_usedPlaces rfl (g_rm hR rfl rfl) [0, 1, 2, 3, 4, 5, 6, 7, 8, 9] [] [0, 1, 2, 3, 4, 5, 6, 7, 8, 9] ⟨rfl, rfl, rfl, rfl, by decide, gRoIn_0, rfl, fun _ => rfl⟩ rfl (Nat.le_of_ble_eq_true rfl) dX11_put_41 (g_rc hR (Nat.le_of_ble_eq_true rfl) (Nat.le_of_ble_eq_true rfl)) (ck' := 0) (sk' := 0) rfl rfl (fun _ => rfl) (fun _ _ => ?_) (fun _ hx => absurd rfl hx)
        refine g_iload_n C 3 dX11_put_44 rfl ?_
        refine g_icmp_ge C 54 dX11_put_45 (by decide) (fun c14 => ?_) (fun c14 => ?_)
        · have hf := opt_pos c14 hf
          refine g_aload_n C 0 dX11_put_54 rfl ?_
          refine g_iload_n C 1 dX11_put_55 rfl ?_
          refine g_bipush C (v := 11) dX11_put_56 (by decide) ?_
          refine g_iconst C (v := 0) dX11_put_58 (by decide) ?_
          obtain ⟨v15, h16, hf⟩ := opt_bind hf
          refine g_callV C (c_X11_sets (l := x_l X) (D := x_D X) (cy := x_y X) (a := a) (thrown := thrown) (g := g) (saved := saved) (hasSaved := hasSaved) (coef := coef) (nodes := nodes) (nodeMany := nodeMany) (isDeep := isDeep) (codes := codes) (details := details) (levelMany := levelMany) (given := given) (paper := paper) (papered := papered) (tape := tape) (taped := taped) (wrongAt := wrongAt) (at_ := at_) (value := value) (readPlace := readPlace) (readValue := readValue) (readEpoch := readEpoch) (p0 := p0) (p1 := 11) (p2 := 0) h16) (As := [.int p0, .int 11, .int 0]) (rest := []) (wr := []) (ws' := fun _ => (wM (x_y X) a thrown v15 saved hasSaved coef nodes nodeMany isDeep codes details levelMany given paper papered tape taped wrongAt at_ value readPlace readValue readEpoch)) (st' := fun _ => []) (ci := 12) 3 0 ⟨_, rfl⟩ rfl rfl mw_7_91 mw_1_9 mw_7_88 mw_7_90 mp_38 hd_X11_sets rfl (g_rm hR rfl rfl) [0, 1, 2, 3, 4, 5, 6, 7, 8, 9] [] [0, 1, 2, 3, 4, 5, 6, 7, 8, 9] ⟨rfl, rfl, rfl, rfl, by decide, gRoIn_0, rfl, fun _ => rfl⟩ rfl (Nat.le_of_ble_eq_true rfl) dX11_put_59 (g_rc hR (Nat.le_of_ble_eq_true rfl) (Nat.le_of_ble_eq_true rfl)) (ck' := 0) (sk' := 0) rfl rfl (fun _ => rfl) (fun _ _ => ?_) (fun _ hx => absurd rfl hx)
          refine g_aload_n C 0 dX11_put_62 rfl ?_
          refine g_iload_n C 1 dX11_put_63 rfl ?_
          refine g_iload_n C 2 dX11_put_64 rfl ?_
          refine g_iload_n C 3 dX11_put_65 rfl ?_
          refine g_iconst C (v := 1) dX11_put_66 (by decide) ?_
          obtain ⟨v17, h18, hf⟩ := opt_bind hf
          refine g_callV C (c_X11_deals (l := x_l X) (D := x_D X) (cy := x_y X) (a := a) (thrown := thrown) (g := v15) (saved := saved) (hasSaved := hasSaved) (coef := coef) (nodes := nodes) (nodeMany := nodeMany) (isDeep := isDeep) (codes := codes) (details := details) (levelMany := levelMany) (given := given) (paper := paper) (papered := papered) (tape := tape) (taped := taped) (wrongAt := wrongAt) (at_ := at_) (value := value) (readPlace := readPlace) (readValue := readValue) (readEpoch := readEpoch) (p0 := p0) (p1 := p1) (p2 := p2) (p3 := 1) h18) (As := [.int p0, .int p1, .int p2, .int 1]) (rest := []) (wr := []) (ws' := fun _ => (wM (x_y X) a thrown v17.2.1 saved hasSaved v17.2.2 nodes nodeMany isDeep codes details levelMany given paper papered tape taped wrongAt at_ value readPlace readValue readEpoch)) (st' := fun _ => [.int v17.1]) (ci := 12) 4 0 ⟨_, rfl⟩ rfl rfl mw_7_95 mw_1_9 mw_7_92 mw_7_94 mp_39 hd_X11_deals rfl (g_rm hR rfl rfl) [0, 1, 2, 3, 4, 5, 6, 7, 8, 9] [] [0, 1, 2, 3, 4, 5, 6, 7, 8, 9] ⟨rfl, rfl, rfl, rfl, by decide, gRoIn_0, rfl, fun _ => rfl⟩ rfl (Nat.le_of_ble_eq_true rfl) dX11_put_67 (g_rc hR (Nat.le_of_ble_eq_true rfl) (Nat.le_of_ble_eq_true rfl)) (ck' := 0) (sk' := 0) rfl rfl (fun _ => rfl) (fun _ _ => ?_) (fun _ hx => absurd rfl hx)
          refine g_istore C (lv' := [(4, .int v17.1), (0, .ref (a 0)), (1, .int p0), (2, .int p1), (3, .int p2)]) dX11_put_70 (g_nlt hn rfl) rfl ?_
          refine g_aload_n C 1 dX11_put_72 rfl ?_
          refine g_bipush C (v := 100) dX11_put_73 (by decide) ?_
          refine g_iload_n C 2 dX11_put_75 rfl ?_
          refine g_iadd C dX11_put_76 ?_
          obtain ⟨v19, h20, hf⟩ := opt_bind hf
          refine g_callV C (c_X11_happens (l := x_l X) (D := x_D X) (cy := x_y X) (a := a) (thrown := thrown) (g := v17.2.1) (saved := saved) (hasSaved := hasSaved) (coef := v17.2.2) (nodes := nodes) (nodeMany := nodeMany) (isDeep := isDeep) (codes := codes) (details := details) (levelMany := levelMany) (given := given) (paper := paper) (papered := papered) (tape := tape) (taped := taped) (wrongAt := wrongAt) (at_ := at_) (value := value) (readPlace := readPlace) (readValue := readValue) (readEpoch := readEpoch) (p0 := (100 : Int32) + p0) h20) (As := [.int ((100 : Int32) + p0)]) (rest := []) (wr := []) (ws' := fun _ => (wM (x_y X) a thrown v19 saved hasSaved v17.2.2 nodes nodeMany isDeep codes details levelMany given paper papered tape taped wrongAt at_ value readPlace readValue readEpoch)) (st' := fun _ => []) (ci := 12) 1 0 ⟨_, rfl⟩ rfl rfl mw_7_118 mw_1_9 mw_7_115 mw_7_117 mp_44 hd_X11_happens rfl (g_rm hR rfl rfl) [0, 1, 2, 3, 4, 5, 6, 7, 8, 9] [] [0, 1, 2, 3, 4, 5, 6, 7, 8, 9] ⟨rfl, rfl, rfl, rfl, by decide, gRoIn_0, rfl, fun _ => rfl⟩ rfl (Nat.le_of_ble_eq_true rfl) dX11_put_77 (g_rc hR (Nat.le_of_ble_eq_true rfl) (Nat.le_of_ble_eq_true rfl)) (ck' := 0) (sk' := 0) rfl rfl (fun _ => rfl) (fun _ _ => ?_) (fun _ hx => absurd rfl hx)
          refine g_aload_n C 1 dX11_put_80 rfl ?_
          refine g_iload C 0 dX11_put_81 rfl ?_
          obtain ⟨v21, h22, hf⟩ := opt_bind hf
          refine g_callV C (c_X11_done (l := x_l X) (D := x_D X) (cy := x_y X) (a := a) (thrown := thrown) (g := v19) (saved := saved) (hasSaved := hasSaved) (coef := v17.2.2) (nodes := nodes) (nodeMany := nodeMany) (isDeep := isDeep) (codes := codes) (details := details) (levelMany := levelMany) (given := given) (paper := paper) (papered := papered) (tape := tape) (taped := taped) (wrongAt := wrongAt) (at_ := at_) (value := value) (readPlace := readPlace) (readValue := readValue) (readEpoch := readEpoch) (p0 := v17.1) h22) (As := [.int v17.1]) (rest := []) (wr := []) (ws' := fun _ => (wM (x_y X) a v21.2 v19 saved hasSaved v17.2.2 nodes nodeMany isDeep codes details levelMany given paper papered tape taped wrongAt at_ value readPlace readValue readEpoch)) (st' := fun _ => [.int v21.1]) (ci := 12) 1 0 ⟨_, rfl⟩ rfl rfl mw_7_22 mw_1_9 mw_7_19 mw_7_21 mp_29 hd_X11_done rfl (g_rm hR rfl rfl) [0, 1, 2, 3, 4, 5, 6, 7, 8, 9] [] [0, 1, 2, 3, 4, 5, 6, 7, 8, 9] ⟨rfl, rfl, rfl, rfl, by decide, gRoIn_0, rfl, fun _ => rfl⟩ rfl (Nat.le_of_ble_eq_true rfl) dX11_put_83 (g_rc hR (Nat.le_of_ble_eq_true rfl) (Nat.le_of_ble_eq_true rfl)) (ck' := 0) (sk' := 0) rfl rfl (fun _ => rfl) (fun _ _ => ?_) (fun _ hx => absurd rfl hx)
          obtain rfl := Option.some.inj hf
          exact g_iret C E () dX11_put_86 rfl rfl rfl (Nat.le_of_ble_eq_true rfl) (Nat.le_of_ble_eq_true rfl)
        · have hf := opt_neg c14 hf
          refine g_aload_n C 0 dX11_put_48 rfl ?_
          refine g_iconst C (v := 3) dX11_put_49 (by decide) ?_
          obtain ⟨v23, h24, hf⟩ := opt_bind hf
          refine g_callV C (c_X11_fails (l := x_l X) (D := x_D X) (cy := x_y X) (a := a) (thrown := thrown) (g := g) (saved := saved) (hasSaved := hasSaved) (coef := coef) (nodes := nodes) (nodeMany := nodeMany) (isDeep := isDeep) (codes := codes) (details := details) (levelMany := levelMany) (given := given) (paper := paper) (papered := papered) (tape := tape) (taped := taped) (wrongAt := wrongAt) (at_ := at_) (value := value) (readPlace := readPlace) (readValue := readValue) (readEpoch := readEpoch) (p0 := 3) h24) (As := [.int 3]) (rest := []) (wr := []) (ws' := fun _ => (wM (x_y X) a v23.2 g saved hasSaved coef nodes nodeMany isDeep codes details levelMany given paper papered tape taped wrongAt at_ value readPlace readValue readEpoch)) (st' := fun _ => [.int v23.1]) (ci := 12) 1 0 ⟨_, rfl⟩ rfl rfl mw_7_45 mw_1_9 mw_7_42 mw_7_44 mp_31 hd_X11_fails rfl (g_rm hR rfl rfl) [0, 1, 2, 3, 4, 5, 6, 7, 8, 9] [] [0, 1, 2, 3, 4, 5, 6, 7, 8, 9] ⟨rfl, rfl, rfl, rfl, by decide, gRoIn_0, rfl, fun _ => rfl⟩ rfl (Nat.le_of_ble_eq_true rfl) dX11_put_50 (g_rc hR (Nat.le_of_ble_eq_true rfl) (Nat.le_of_ble_eq_true rfl)) (ck' := 0) (sk' := 0) rfl rfl (fun _ => rfl) (fun _ _ => ?_) (fun _ hx => absurd rfl hx)
          obtain rfl := Option.some.inj hf
          exact g_iret C E () dX11_put_53 rfl rfl rfl (Nat.le_of_ble_eq_true rfl) (Nat.le_of_ble_eq_true rfl)
      · have hf := opt_pos c11 hf
        exact H34 thrown g coef hf
  · have hf := opt_pos c3 hf
    refine g_aload_n C 0 dX11_put_7 rfl ?_
    refine g_iconst C (v := 1) dX11_put_8 (by decide) ?_
    obtain ⟨v25, h26, hf⟩ := opt_bind hf
    refine g_callV C (c_X11_fails (l := x_l X) (D := x_D X) (cy := x_y X) (a := a) (thrown := thrown) (g := g) (saved := saved) (hasSaved := hasSaved) (coef := coef) (nodes := nodes) (nodeMany := nodeMany) (isDeep := isDeep) (codes := codes) (details := details) (levelMany := levelMany) (given := given) (paper := paper) (papered := papered) (tape := tape) (taped := taped) (wrongAt := wrongAt) (at_ := at_) (value := value) (readPlace := readPlace) (readValue := readValue) (readEpoch := readEpoch) (p0 := 1) h26) (As := [.int 1]) (rest := []) (wr := []) (ws' := fun _ => (wM (x_y X) a v25.2 g saved hasSaved coef nodes nodeMany isDeep codes details levelMany given paper papered tape taped wrongAt at_ value readPlace readValue readEpoch)) (st' := fun _ => [.int v25.1]) (ci := 12) 1 0 ⟨_, rfl⟩ rfl rfl mw_7_45 mw_1_9 mw_7_42 mw_7_44 mp_31 hd_X11_fails rfl (g_rm hR rfl rfl) [0, 1, 2, 3, 4, 5, 6, 7, 8, 9] [] [0, 1, 2, 3, 4, 5, 6, 7, 8, 9] ⟨rfl, rfl, rfl, rfl, by decide, gRoIn_0, rfl, fun _ => rfl⟩ rfl (Nat.le_of_ble_eq_true rfl) dX11_put_9 (g_rc hR (Nat.le_of_ble_eq_true rfl) (Nat.le_of_ble_eq_true rfl)) (ck' := 0) (sk' := 0) rfl rfl (fun _ => rfl) (fun _ _ => ?_) (fun _ hx => absurd rfl hx)
    obtain rfl := Option.some.inj hf
    exact g_iret C E () dX11_put_12 rfl rfl rfl (Nat.le_of_ble_eq_true rfl) (Nat.le_of_ble_eq_true rfl)
/-! X11_lacks -/
theorem hd_X11_lacks : yX11_lacks.cls ≠ "java/lang/invoke/MethodHandle" ∧ yX11_lacks.cls ≠ "java/lang/invoke/VarHandle" ∧ (parseMethodDescriptor yX11_lacks.desc).map (fun d => d.parameters.length) = some 1 := by decide +kernel
def F_X11_lacks_L25   (s0_25 : Int32) : Option (Int32) := some s0_25
def F_X11_lacks (g : Nat → Int32) (p0 : Int32) : Option (Int32) := (F_X11_isSlot p0).bind fun v1 => if v1 = 0 then (F_X11_lacks_L25 1) else ((F_X11_of g p0 0).bind fun v4 => if v4 = 0 then (F_X11_lacks_L25 2) else (F_X11_lacks_L25 0))
set_option maxRecDepth 100000 in
set_option maxHeartbeats 4000000 in
theorem c_X11_lacks {l : Launch} {D : va_G} {cy : Nat → ClassId} {a : Nat → Nat} {thrown : Int32} {g : Nat → Int32} {saved : Nat → Int32} {hasSaved : Int32} {coef : Nat → Int32} {nodes : Nat → Int32} {nodeMany : Int32} {isDeep : Int32} {codes : Nat → Int32} {details : Nat → Int32} {levelMany : Int32} {given : Nat → Int32} {paper : Nat → Int32} {papered : Int32} {tape : Nat → Int32} {taped : Int32} {wrongAt : Int32} {at_ : Int32} {value : Int32} {readPlace : Int32} {readValue : Int32} {readEpoch : Int32} {p0 : Int32}  {val : Int32} (hf : F_X11_lacks g p0 = some val) : gCt l D cy yX11_lacks cX11_lacks 2 (some .int) 2 42 0 0 [.ref (a 0), .int p0] [] ((wM cy a thrown g saved hasSaved coef nodes nodeMany isDeep codes details levelMany given paper papered tape taped wrongAt at_ value readPlace readValue readEpoch)) 0 (fun _ : Unit => some (.int val)) (fun _ => (wM cy a thrown g saved hasSaved coef nodes nodeMany isDeep codes details levelMany given paper papered tape taped wrongAt at_ value readPlace readValue readEpoch)) := by
  refine g_begin (by decide +kernel) (Nat.le_of_ble_eq_true rfl) ?_
  intro X Q hl hR hD hy hro hn C hin E
  subst hl; subst hD; subst hy
  replace C : gC X "SecretVaultModel" cX11_lacks (some .int) := C
  unfold F_X11_lacks at hf
  have H25 : ∀ (s0_25 : Int32), F_X11_lacks_L25 s0_25 = some val → gW X Q 0 0 ((wM (x_y X) a thrown g saved hasSaved coef nodes nodeMany isDeep codes details levelMany given paper papered tape taped wrongAt at_ value readPlace readValue readEpoch)) [(0, .ref (a 0)), (1, .int p0)] [.int s0_25] 25 := by
    intro s0_25 hf
    unfold F_X11_lacks_L25 at hf
    obtain rfl := Option.some.inj hf
    exact g_iret C E () dX11_lacks_25 rfl rfl rfl (Nat.le_of_ble_eq_true rfl) (Nat.le_of_ble_eq_true rfl)
  show gW X Q 0 0 ((wM (x_y X) a thrown g saved hasSaved coef nodes nodeMany isDeep codes details levelMany given paper papered tape taped wrongAt at_ value readPlace readValue readEpoch)) [(0, .ref (a 0)), (1, .int p0)] [] 0
  refine g_iload_n C 1 dX11_lacks_0 rfl ?_
  obtain ⟨v1, h2, hf⟩ := opt_bind hf
  refine g_callS C (c_X11_isSlot (l := x_l X) (D := x_D X) (cy := x_y X) (p0 := p0) h2) (As := [.int p0]) (rest := []) (wr := (wM (x_y X) a thrown g saved hasSaved coef nodes nodeMany isDeep codes details levelMany given paper papered tape taped wrongAt at_ value readPlace readValue readEpoch)) (ws' := fun _ => (wM (x_y X) a thrown g saved hasSaved coef nodes nodeMany isDeep codes details levelMany given paper papered tape taped wrongAt at_ value readPlace readValue readEpoch)) (st' := fun _ => [.int v1]) 1 mw_7_83 mw_1_9 mw_7_81 mw_7_82 hd_X11_isSlot rfl (g_rm hR rfl rfl) [] [0, 1, 2, 3, 4, 5, 6, 7, 8, 9] [0, 1, 2, 3, 4, 5, 6, 7, 8, 9] ⟨rfl, rfl, rfl, rfl, by decide, gRoIn_0, rfl, fun _ => rfl⟩ rfl (Nat.le_of_ble_eq_true rfl) dX11_lacks_1 (g_rc hR (Nat.le_of_ble_eq_true rfl) (Nat.le_of_ble_eq_true rfl)) (ck' := 0) (sk' := 0) rfl rfl (fun _ => rfl) (fun _ _ => ?_) (fun _ hx => absurd rfl hx)
  refine g_if_ne C 11 dX11_lacks_4 (by decide) (fun c3 => ?_) (fun c3 => ?_)
  · have hf := opt_neg c3 hf
    refine g_aload_n C 0 dX11_lacks_11 rfl ?_
    refine g_iload_n C 1 dX11_lacks_12 rfl ?_
    refine g_iconst C (v := 0) dX11_lacks_13 (by decide) ?_
    obtain ⟨v4, h5, hf⟩ := opt_bind hf
    refine g_callV C (c_X11_of (l := x_l X) (D := x_D X) (cy := x_y X) (a := a) (thrown := thrown) (g := g) (saved := saved) (hasSaved := hasSaved) (coef := coef) (nodes := nodes) (nodeMany := nodeMany) (isDeep := isDeep) (codes := codes) (details := details) (levelMany := levelMany) (given := given) (paper := paper) (papered := papered) (tape := tape) (taped := taped) (wrongAt := wrongAt) (at_ := at_) (value := value) (readPlace := readPlace) (readValue := readValue) (readEpoch := readEpoch) (p0 := p0) (p1 := 0) h5) (As := [.int p0, .int 0]) (rest := []) (wr := []) (ws' := fun _ => (wM (x_y X) a thrown g saved hasSaved coef nodes nodeMany isDeep codes details levelMany given paper papered tape taped wrongAt at_ value readPlace readValue readEpoch)) (st' := fun _ => [.int v4]) (ci := 12) 2 0 ⟨_, rfl⟩ rfl rfl mw_7_69 mw_1_9 mw_7_66 mw_7_68 mp_35 hd_X11_of rfl (g_rm hR rfl rfl) [0, 1, 2, 3, 4, 5, 6, 7, 8, 9] [] [0, 1, 2, 3, 4, 5, 6, 7, 8, 9] ⟨rfl, rfl, rfl, rfl, by decide, gRoIn_0, rfl, fun _ => rfl⟩ rfl (Nat.le_of_ble_eq_true rfl) dX11_lacks_14 (g_rc hR (Nat.le_of_ble_eq_true rfl) (Nat.le_of_ble_eq_true rfl)) (ck' := 0) (sk' := 0) rfl rfl (fun _ => rfl) (fun _ _ => ?_) (fun _ hx => absurd rfl hx)
    refine g_if_ne C 24 dX11_lacks_17 (by decide) (fun c6 => ?_) (fun c6 => ?_)
    · have hf := opt_neg c6 hf
      refine g_iconst C (v := 0) dX11_lacks_24 (by decide) ?_
      exact H25 0 hf
    · have hf := opt_pos c6 hf
      refine g_iconst C (v := 2) dX11_lacks_20 (by decide) ?_
      refine g_goto C 25 dX11_lacks_21 (by decide) ?_
      exact H25 2 hf
  · have hf := opt_pos c3 hf
    refine g_iconst C (v := 1) dX11_lacks_7 (by decide) ?_
    refine g_goto C 25 dX11_lacks_8 (by decide) ?_
    exact H25 1 hf
/-! X11_remove -/
theorem hd_X11_remove : yX11_remove.cls ≠ "java/lang/invoke/MethodHandle" ∧ yX11_remove.cls ≠ "java/lang/invoke/VarHandle" ∧ (parseMethodDescriptor yX11_remove.desc).map (fun d => d.parameters.length) = some 1 := by decide +kernel
def F_X11_remove_L26 (p0 : Int32)  : Nat → Int32 → (Nat → Int32) → Int32 → Int32 → Option (Int32 × Int32 × (Nat → Int32))
  | 0, _, _, _, _ => none
  | n + 1, thrown_26, g_26, l3_26, l4_26 => if 124 ≤ l4_26 then ((F_X11_happens g_26 ((200 : Int32) + p0)).bind fun v7 => (F_X11_done thrown_26 l3_26).bind fun v9 => some (v9.1, v9.2, v7)) else ((F_X11_sets g_26 p0 l4_26 0).bind fun v11 => F_X11_remove_L26 p0 n thrown_26 v11 l3_26 (l4_26 + 1))
def F_X11_remove (thrown : Int32) (g : Nat → Int32) (p0 : Int32) : Option (Int32 × Int32 × (Nat → Int32)) := (F_X11_lacks g p0).bind fun v1 => if v1 = 0 then ((F_X11_of g p0 2).bind fun v4 => F_X11_remove_L26 p0 1000 thrown g v4 0) else ((F_X11_fails thrown v1).bind fun v13 => some (v13.1, v13.2, g))
set_option maxRecDepth 100000 in
set_option maxHeartbeats 4000000 in
theorem c_X11_remove {l : Launch} {D : va_G} {cy : Nat → ClassId} {a : Nat → Nat} {thrown : Int32} {g : Nat → Int32} {saved : Nat → Int32} {hasSaved : Int32} {coef : Nat → Int32} {nodes : Nat → Int32} {nodeMany : Int32} {isDeep : Int32} {codes : Nat → Int32} {details : Nat → Int32} {levelMany : Int32} {given : Nat → Int32} {paper : Nat → Int32} {papered : Int32} {tape : Nat → Int32} {taped : Int32} {wrongAt : Int32} {at_ : Int32} {value : Int32} {readPlace : Int32} {readValue : Int32} {readEpoch : Int32} {p0 : Int32}  {val : Int32 × Int32 × (Nat → Int32)} (hf : F_X11_remove thrown g p0 = some val) : gCt l D cy yX11_remove cX11_remove 5 (some .int) 3 63 0 0 [.ref (a 0), .int p0] [] ((wM cy a thrown g saved hasSaved coef nodes nodeMany isDeep codes details levelMany given paper papered tape taped wrongAt at_ value readPlace readValue readEpoch)) 0 (fun _ : Unit => some (.int val.1)) (fun _ => (wM cy a val.2.1 val.2.2 saved hasSaved coef nodes nodeMany isDeep codes details levelMany given paper papered tape taped wrongAt at_ value readPlace readValue readEpoch)) := by
  refine g_begin (by decide +kernel) (Nat.le_of_ble_eq_true rfl) ?_
  intro X Q hl hR hD hy hro hn C hin E
  subst hl; subst hD; subst hy
  replace C : gC X "SecretVaultModel" cX11_remove (some .int) := C
  unfold F_X11_remove at hf
  have H26 : ∀ (n26 : Nat), ∀ (thrown_26 : Int32) (g_26 : Nat → Int32) (l3_26 : Int32) (l4_26 : Int32), F_X11_remove_L26 p0 n26 thrown_26 g_26 l3_26 l4_26 = some val → gW X Q 0 0 ((wM (x_y X) a thrown_26 g_26 saved hasSaved coef nodes nodeMany isDeep codes details levelMany given paper papered tape taped wrongAt at_ value readPlace readValue readEpoch)) [(0, .ref (a 0)), (1, .int p0), (3, .int l3_26), (4, .int l4_26)] [] 26 := by
    intro n26
    induction n26 with
    | zero => intros; rename_i hf; cases hf
    | succ n26 ih =>
      intro thrown_26 g_26 l3_26 l4_26 hf
      have H26 := ih
      rw [F_X11_remove_L26] at hf
      refine g_iload C 3 dX11_remove_26 rfl ?_
      refine g_bipush C (v := 124) dX11_remove_28 (by decide) ?_
      refine g_icmp_ge C 47 dX11_remove_30 (by decide) (fun c6 => ?_) (fun c6 => ?_)
      · have hf := opt_pos c6 hf
        refine g_aload_n C 0 dX11_remove_47 rfl ?_
        refine g_sipush C (v := 200) dX11_remove_48 (by decide) ?_
        refine g_iload_n C 1 dX11_remove_51 rfl ?_
        refine g_iadd C dX11_remove_52 ?_
        obtain ⟨v7, h8, hf⟩ := opt_bind hf
        refine g_callV C (c_X11_happens (l := x_l X) (D := x_D X) (cy := x_y X) (a := a) (thrown := thrown_26) (g := g_26) (saved := saved) (hasSaved := hasSaved) (coef := coef) (nodes := nodes) (nodeMany := nodeMany) (isDeep := isDeep) (codes := codes) (details := details) (levelMany := levelMany) (given := given) (paper := paper) (papered := papered) (tape := tape) (taped := taped) (wrongAt := wrongAt) (at_ := at_) (value := value) (readPlace := readPlace) (readValue := readValue) (readEpoch := readEpoch) (p0 := (200 : Int32) + p0) h8) (As := [.int ((200 : Int32) + p0)]) (rest := []) (wr := []) (ws' := fun _ => (wM (x_y X) a thrown_26 v7 saved hasSaved coef nodes nodeMany isDeep codes details levelMany given paper papered tape taped wrongAt at_ value readPlace readValue readEpoch)) (st' := fun _ => []) (ci := 12) 1 0 ⟨_, rfl⟩ rfl rfl mw_7_118 mw_1_9 mw_7_115 mw_7_117 mp_44 hd_X11_happens rfl (g_rm hR rfl rfl) [0, 1, 2, 3, 4, 5, 6, 7, 8, 9] [] [0, 1, 2, 3, 4, 5, 6, 7, 8, 9] ⟨rfl, rfl, rfl, rfl, by decide, gRoIn_0, rfl, fun _ => rfl⟩ rfl (Nat.le_of_ble_eq_true rfl) dX11_remove_53 (g_rc hR (Nat.le_of_ble_eq_true rfl) (Nat.le_of_ble_eq_true rfl)) (ck' := 0) (sk' := 0) rfl rfl (fun _ => rfl) (fun _ _ => ?_) (fun _ hx => absurd rfl hx)
        refine g_aload_n C 0 dX11_remove_56 rfl ?_
        refine g_iload_n C 2 dX11_remove_57 rfl ?_
        obtain ⟨v9, h10, hf⟩ := opt_bind hf
        refine g_callV C (c_X11_done (l := x_l X) (D := x_D X) (cy := x_y X) (a := a) (thrown := thrown_26) (g := v7) (saved := saved) (hasSaved := hasSaved) (coef := coef) (nodes := nodes) (nodeMany := nodeMany) (isDeep := isDeep) (codes := codes) (details := details) (levelMany := levelMany) (given := given) (paper := paper) (papered := papered) (tape := tape) (taped := taped) (wrongAt := wrongAt) (at_ := at_) (value := value) (readPlace := readPlace) (readValue := readValue) (readEpoch := readEpoch) (p0 := l3_26) h10) (As := [.int l3_26]) (rest := []) (wr := []) (ws' := fun _ => (wM (x_y X) a v9.2 v7 saved hasSaved coef nodes nodeMany isDeep codes details levelMany given paper papered tape taped wrongAt at_ value readPlace readValue readEpoch)) (st' := fun _ => [.int v9.1]) (ci := 12) 1 0 ⟨_, rfl⟩ rfl rfl mw_7_22 mw_1_9 mw_7_19 mw_7_21 mp_29 hd_X11_done rfl (g_rm hR rfl rfl) [0, 1, 2, 3, 4, 5, 6, 7, 8, 9] [] [0, 1, 2, 3, 4, 5, 6, 7, 8, 9] ⟨rfl, rfl, rfl, rfl, by decide, gRoIn_0, rfl, fun _ => rfl⟩ rfl (Nat.le_of_ble_eq_true rfl) dX11_remove_58 (g_rc hR (Nat.le_of_ble_eq_true rfl) (Nat.le_of_ble_eq_true rfl)) (ck' := 0) (sk' := 0) rfl rfl (fun _ => rfl) (fun _ _ => ?_) (fun _ hx => absurd rfl hx)
        obtain rfl := Option.some.inj hf
        exact g_iret C E () dX11_remove_61 rfl rfl rfl (Nat.le_of_ble_eq_true rfl) (Nat.le_of_ble_eq_true rfl)
      · have hf := opt_neg c6 hf
        refine g_aload_n C 0 dX11_remove_33 rfl ?_
        refine g_iload_n C 1 dX11_remove_34 rfl ?_
        refine g_iload C 3 dX11_remove_35 rfl ?_
        refine g_iconst C (v := 0) dX11_remove_37 (by decide) ?_
        obtain ⟨v11, h12, hf⟩ := opt_bind hf
        refine g_callV C (c_X11_sets (l := x_l X) (D := x_D X) (cy := x_y X) (a := a) (thrown := thrown_26) (g := g_26) (saved := saved) (hasSaved := hasSaved) (coef := coef) (nodes := nodes) (nodeMany := nodeMany) (isDeep := isDeep) (codes := codes) (details := details) (levelMany := levelMany) (given := given) (paper := paper) (papered := papered) (tape := tape) (taped := taped) (wrongAt := wrongAt) (at_ := at_) (value := value) (readPlace := readPlace) (readValue := readValue) (readEpoch := readEpoch) (p0 := p0) (p1 := l4_26) (p2 := 0) h12) (As := [.int p0, .int l4_26, .int 0]) (rest := []) (wr := []) (ws' := fun _ => (wM (x_y X) a thrown_26 v11 saved hasSaved coef nodes nodeMany isDeep codes details levelMany given paper papered tape taped wrongAt at_ value readPlace readValue readEpoch)) (st' := fun _ => []) (ci := 12) 3 0 ⟨_, rfl⟩ rfl rfl mw_7_91 mw_1_9 mw_7_88 mw_7_90 mp_38 hd_X11_sets rfl (g_rm hR rfl rfl) [0, 1, 2, 3, 4, 5, 6, 7, 8, 9] [] [0, 1, 2, 3, 4, 5, 6, 7, 8, 9] ⟨rfl, rfl, rfl, rfl, by decide, gRoIn_0, rfl, fun _ => rfl⟩ rfl (Nat.le_of_ble_eq_true rfl) dX11_remove_38 (g_rc hR (Nat.le_of_ble_eq_true rfl) (Nat.le_of_ble_eq_true rfl)) (ck' := 0) (sk' := 0) rfl rfl (fun _ => rfl) (fun _ _ => ?_) (fun _ hx => absurd rfl hx)
        refine g_iinc C 3 (v := l4_26 + 1) (lv' := [(4, .int (l4_26 + 1)), (0, .ref (a 0)), (1, .int p0), (3, .int l3_26)]) dX11_remove_41 rfl rfl (g_nlt hn rfl) rfl ?_
        refine g_goto C 26 dX11_remove_44 (by decide) ?_
        refine gW.locals [1, 2, 3, 0] rfl ?_
        exact H26 thrown_26 v11 l3_26 (l4_26 + 1) hf
  show gW X Q 0 0 ((wM (x_y X) a thrown g saved hasSaved coef nodes nodeMany isDeep codes details levelMany given paper papered tape taped wrongAt at_ value readPlace readValue readEpoch)) [(0, .ref (a 0)), (1, .int p0)] [] 0
  refine g_aload_n C 0 dX11_remove_0 rfl ?_
  refine g_iload_n C 1 dX11_remove_1 rfl ?_
  obtain ⟨v1, h2, hf⟩ := opt_bind hf
  refine g_callV C (c_X11_lacks (l := x_l X) (D := x_D X) (cy := x_y X) (a := a) (thrown := thrown) (g := g) (saved := saved) (hasSaved := hasSaved) (coef := coef) (nodes := nodes) (nodeMany := nodeMany) (isDeep := isDeep) (codes := codes) (details := details) (levelMany := levelMany) (given := given) (paper := paper) (papered := papered) (tape := tape) (taped := taped) (wrongAt := wrongAt) (at_ := at_) (value := value) (readPlace := readPlace) (readValue := readValue) (readEpoch := readEpoch) (p0 := p0) h2) (As := [.int p0]) (rest := []) (wr := []) (ws' := fun _ => (wM (x_y X) a thrown g saved hasSaved coef nodes nodeMany isDeep codes details levelMany given paper papered tape taped wrongAt at_ value readPlace readValue readEpoch)) (st' := fun _ => [.int v1]) (ci := 12) 1 0 ⟨_, rfl⟩ rfl rfl mw_7_126 mw_1_9 mw_7_123 mw_7_125 mp_45 hd_X11_lacks rfl (g_rm hR rfl rfl) [0, 1, 2, 3, 4, 5, 6, 7, 8, 9] [] [0, 1, 2, 3, 4, 5, 6, 7, 8, 9] ⟨rfl, rfl, rfl, rfl, by decide, gRoIn_0, rfl, fun _ => rfl⟩ rfl (Nat.le_of_ble_eq_true rfl) dX11_remove_2 (g_rc hR (Nat.le_of_ble_eq_true rfl) (Nat.le_of_ble_eq_true rfl)) (ck' := 0) (sk' := 0) rfl rfl (fun _ => rfl) (fun _ _ => ?_) (fun _ hx => absurd rfl hx)
  refine g_istore_n C (lv' := [(2, .int v1), (0, .ref (a 0)), (1, .int p0)]) dX11_remove_5 (g_nlt hn rfl) rfl ?_
  refine g_iload_n C 0 dX11_remove_6 rfl ?_
  refine g_if_eq C 16 dX11_remove_7 (by decide) (fun c3 => ?_) (fun c3 => ?_)
  · have hf := opt_pos c3 hf
    refine g_aload_n C 1 dX11_remove_16 rfl ?_
    refine g_iload_n C 2 dX11_remove_17 rfl ?_
    refine g_iconst C (v := 2) dX11_remove_18 (by decide) ?_
    obtain ⟨v4, h5, hf⟩ := opt_bind hf
    refine g_callV C (c_X11_of (l := x_l X) (D := x_D X) (cy := x_y X) (a := a) (thrown := thrown) (g := g) (saved := saved) (hasSaved := hasSaved) (coef := coef) (nodes := nodes) (nodeMany := nodeMany) (isDeep := isDeep) (codes := codes) (details := details) (levelMany := levelMany) (given := given) (paper := paper) (papered := papered) (tape := tape) (taped := taped) (wrongAt := wrongAt) (at_ := at_) (value := value) (readPlace := readPlace) (readValue := readValue) (readEpoch := readEpoch) (p0 := p0) (p1 := 2) h5) (As := [.int p0, .int 2]) (rest := []) (wr := []) (ws' := fun _ => (wM (x_y X) a thrown g saved hasSaved coef nodes nodeMany isDeep codes details levelMany given paper papered tape taped wrongAt at_ value readPlace readValue readEpoch)) (st' := fun _ => [.int v4]) (ci := 12) 2 0 ⟨_, rfl⟩ rfl rfl mw_7_69 mw_1_9 mw_7_66 mw_7_68 mp_35 hd_X11_of rfl (g_rm hR rfl rfl) [0, 1, 2, 3, 4, 5, 6, 7, 8, 9] [] [0, 1, 2, 3, 4, 5, 6, 7, 8, 9] ⟨rfl, rfl, rfl, rfl, by decide, gRoIn_0, rfl, fun _ => rfl⟩ rfl (Nat.le_of_ble_eq_true rfl) dX11_remove_19 (g_rc hR (Nat.le_of_ble_eq_true rfl) (Nat.le_of_ble_eq_true rfl)) (ck' := 0) (sk' := 0) rfl rfl (fun _ => rfl) (fun _ _ => ?_) (fun _ hx => absurd rfl hx)
    refine g_istore_n C (lv' := [(3, .int v4), (2, .int v1), (0, .ref (a 0)), (1, .int p0)]) dX11_remove_22 (g_nlt hn rfl) rfl ?_
    refine g_iconst C (v := 0) dX11_remove_23 (by decide) ?_
    refine g_istore C (lv' := [(4, .int 0), (3, .int v4), (2, .int v1), (0, .ref (a 0)), (1, .int p0)]) dX11_remove_24 (g_nlt hn rfl) rfl ?_
    refine gW.locals [3, 4, 1, 0] rfl ?_
    exact H26 1000 thrown g v4 0 hf
  · have hf := opt_neg c3 hf
    refine g_aload_n C 1 dX11_remove_10 rfl ?_
    refine g_iload_n C 0 dX11_remove_11 rfl ?_
    obtain ⟨v13, h14, hf⟩ := opt_bind hf
    refine g_callV C (c_X11_fails (l := x_l X) (D := x_D X) (cy := x_y X) (a := a) (thrown := thrown) (g := g) (saved := saved) (hasSaved := hasSaved) (coef := coef) (nodes := nodes) (nodeMany := nodeMany) (isDeep := isDeep) (codes := codes) (details := details) (levelMany := levelMany) (given := given) (paper := paper) (papered := papered) (tape := tape) (taped := taped) (wrongAt := wrongAt) (at_ := at_) (value := value) (readPlace := readPlace) (readValue := readValue) (readEpoch := readEpoch) (p0 := v1) h14) (As := [.int v1]) (rest := []) (wr := []) (ws' := fun _ => (wM (x_y X) a v13.2 g saved hasSaved coef nodes nodeMany isDeep codes details levelMany given paper papered tape taped wrongAt at_ value readPlace readValue readEpoch)) (st' := fun _ => [.int v13.1]) (ci := 12) 1 0 ⟨_, rfl⟩ rfl rfl mw_7_45 mw_1_9 mw_7_42 mw_7_44 mp_31 hd_X11_fails rfl (g_rm hR rfl rfl) [0, 1, 2, 3, 4, 5, 6, 7, 8, 9] [] [0, 1, 2, 3, 4, 5, 6, 7, 8, 9] ⟨rfl, rfl, rfl, rfl, by decide, gRoIn_0, rfl, fun _ => rfl⟩ rfl (Nat.le_of_ble_eq_true rfl) dX11_remove_12 (g_rc hR (Nat.le_of_ble_eq_true rfl) (Nat.le_of_ble_eq_true rfl)) (ck' := 0) (sk' := 0) rfl rfl (fun _ => rfl) (fun _ _ => ?_) (fun _ hx => absurd rfl hx)
    obtain rfl := Option.some.inj hf
    exact g_iret C E () dX11_remove_15 rfl rfl rfl (Nat.le_of_ble_eq_true rfl) (Nat.le_of_ble_eq_true rfl)
/-! X11_refresh -/
theorem hd_X11_refresh : yX11_refresh.cls ≠ "java/lang/invoke/MethodHandle" ∧ yX11_refresh.cls ≠ "java/lang/invoke/VarHandle" ∧ (parseMethodDescriptor yX11_refresh.desc).map (fun d => d.parameters.length) = some 1 := by decide +kernel
def F_X11_refresh_L155 (p0 : Int32)  : Nat → Int32 → (Nat → Int32) → (Nat → Int32) → Int32 → Int32 → Int32 → Int32 → Option (Int32 × Int32 × (Nat → Int32) × (Nat → Int32))
  | 0, _, _, _, _, _, _, _ => none
  | n + 1, thrown_155, g_155, coef_155, l3_155, l4_155, l5_155, l6_155 => if l3_155 ≤ l6_155 then ((F_X11_sets g_155 p0 2 (l4_155 + 1)).bind fun v13 => (F_X11_happens v13 ((300 : Int32) + p0)).bind fun v15 => (F_X11_done thrown_155 l5_155).bind fun v17 => some (v17.1, v17.2, v15, coef_155)) else ((F_X11_of g_155 p0 ((3 : Int32) + l6_155)).bind fun v19 => gg (gi l6_155 8) ((F_X11_power 4 (coef_155 (Int32.toNatClampNeg l6_155)) 2039).bind fun v22 => (F_X11_sets g_155 p0 ((3 : Int32) + l6_155) ((v19 * v22) - (v19 * v22) / 2039 * 2039)).bind fun v24 => F_X11_refresh_L155 p0 n thrown_155 v24 coef_155 l3_155 l4_155 l5_155 (l6_155 + 1)))
def F_X11_refresh_L146  (K70 : Int32 → (Nat → Int32) → (Nat → Int32) → Int32 → Int32 → Int32 → Int32 → Option (Int32 × Int32 × (Nat → Int32) × (Nat → Int32))) (thrown_146 : Int32) (g_146 : Nat → Int32) (coef_146 : Nat → Int32) (l3_146 : Int32) (l4_146 : Int32) (l5_146 : Int32) (l6_146 : Int32) : Option (Int32 × Int32 × (Nat → Int32) × (Nat → Int32)) := K70 thrown_146 g_146 coef_146 l3_146 l4_146 l5_146 (l6_146 + 1)
def F_X11_refresh_L70 (p0 : Int32)  : Nat → Int32 → (Nat → Int32) → (Nat → Int32) → Int32 → Int32 → Int32 → Int32 → Option (Int32 × Int32 × (Nat → Int32) × (Nat → Int32))
  | 0, _, _, _, _, _, _, _ => none
  | n + 1, thrown_70, g_70, coef_70, l3_70, l4_70, l5_70, l6_70 => if 24 < l6_70 then (F_X11_refresh_L155 p0 1000 thrown_70 g_70 coef_70 l3_70 l4_70 l5_70 0) else ((F_X11_owner l6_70).bind fun v26 => (F_X11_isPresent g_70 v26).bind fun v28 => if v28 = 0 then (F_X11_refresh_L146 (F_X11_refresh_L70 p0 n) thrown_70 g_70 coef_70 l3_70 l4_70 l5_70 l6_70) else ((F_X11_hasShare g_70 p0 l6_70).bind fun v31 => if v31 = 0 then (F_X11_refresh_L146 (F_X11_refresh_L70 p0 n) thrown_70 g_70 coef_70 l3_70 l4_70 l5_70 l6_70) else ((F_X11_shareOf g_70 p0 l6_70 2).bind fun v34 => if v34 = l4_70 then ((F_X11_shareOf g_70 p0 l6_70 1).bind fun v37 => (F_X11_polynomial coef_70 l3_70 l6_70).bind fun v39 => (F_X11_setsShare g_70 p0 l6_70 ((v37 + v39) - (v37 + v39) / 1019 * 1019) (l4_70 + 1)).bind fun v41 => F_X11_refresh_L146 (F_X11_refresh_L70 p0 n) thrown_70 v41 coef_70 l3_70 l4_70 (l5_70 + 1) l6_70) else (F_X11_refresh_L146 (F_X11_refresh_L70 p0 n) thrown_70 g_70 coef_70 l3_70 l4_70 l5_70 l6_70))))
def F_X11_refresh_L41 (p0 : Int32)  : Nat → Int32 → (Nat → Int32) → (Nat → Int32) → Int32 → Int32 → Int32 → Option (Int32 × Int32 × (Nat → Int32) × (Nat → Int32))
  | 0, _, _, _, _, _, _ => none
  | n + 1, thrown_41, g_41, coef_41, l3_41, l4_41, l5_41 => if l3_41 ≤ l5_41 then (F_X11_refresh_L70 p0 1000 thrown_41 g_41 coef_41 l3_41 l4_41 0 1) else ((F_X11_drawn g_41).bind fun v43 => gg (gi l5_41 8) (gl (upd coef_41 (Int32.toNatClampNeg l5_41) v43.1) fun f46 => F_X11_refresh_L41 p0 n thrown_41 v43.2 f46 l3_41 l4_41 (l5_41 + 1)))
def F_X11_refresh (thrown : Int32) (g : Nat → Int32) (coef : Nat → Int32) (p0 : Int32) : Option (Int32 × Int32 × (Nat → Int32) × (Nat → Int32)) := (F_X11_lacks g p0).bind fun v1 => if v1 = 0 then ((F_X11_of g p0 1).bind fun v4 => (F_X11_of g p0 2).bind fun v6 => gg (gi 0 8) (gl (upd coef (Int32.toNatClampNeg 0) 0) fun f9 => F_X11_refresh_L41 p0 1000 thrown g f9 v4 v6 1)) else ((F_X11_fails thrown v1).bind fun v47 => some (v47.1, v47.2, g, coef))
set_option maxRecDepth 100000 in
set_option maxHeartbeats 4000000 in
theorem c_X11_refresh {l : Launch} {D : va_G} {cy : Nat → ClassId} {a : Nat → Nat} {thrown : Int32} {g : Nat → Int32} {saved : Nat → Int32} {hasSaved : Int32} {coef : Nat → Int32} {nodes : Nat → Int32} {nodeMany : Int32} {isDeep : Int32} {codes : Nat → Int32} {details : Nat → Int32} {levelMany : Int32} {given : Nat → Int32} {paper : Nat → Int32} {papered : Int32} {tape : Nat → Int32} {taped : Int32} {wrongAt : Int32} {at_ : Int32} {value : Int32} {readPlace : Int32} {readValue : Int32} {readEpoch : Int32} {p0 : Int32}  {val : Int32 × Int32 × (Nat → Int32) × (Nat → Int32)} (hf : F_X11_refresh thrown g coef p0 = some val) : gCt l D cy yX11_refresh cX11_refresh 7 (some .int) 3 67 0 0 [.ref (a 0), .int p0] [] ((wM cy a thrown g saved hasSaved coef nodes nodeMany isDeep codes details levelMany given paper papered tape taped wrongAt at_ value readPlace readValue readEpoch)) 0 (fun _ : Unit => some (.int val.1)) (fun _ => (wM cy a val.2.1 val.2.2.1 saved hasSaved val.2.2.2 nodes nodeMany isDeep codes details levelMany given paper papered tape taped wrongAt at_ value readPlace readValue readEpoch)) := by
  refine g_begin (by decide +kernel) (Nat.le_of_ble_eq_true rfl) ?_
  intro X Q hl hR hD hy hro hn C hin E
  subst hl; subst hD; subst hy
  replace C : gC X "SecretVaultModel" cX11_refresh (some .int) := C
  unfold F_X11_refresh at hf
  have H155 : ∀ (n155 : Nat), ∀ (thrown_155 : Int32) (g_155 : Nat → Int32) (coef_155 : Nat → Int32) (l3_155 : Int32) (l4_155 : Int32) (l5_155 : Int32) (l6_155 : Int32), F_X11_refresh_L155 p0 n155 thrown_155 g_155 coef_155 l3_155 l4_155 l5_155 l6_155 = some val → gW X Q 0 0 ((wM (x_y X) a thrown_155 g_155 saved hasSaved coef_155 nodes nodeMany isDeep codes details levelMany given paper papered tape taped wrongAt at_ value readPlace readValue readEpoch)) [(0, .ref (a 0)), (1, .int p0), (3, .int l3_155), (4, .int l4_155), (5, .int l5_155), (6, .int l6_155)] [] 155 := by
    intro n155
    induction n155 with
    | zero => intros; rename_i hf; cases hf
    | succ n155 ih =>
      intro thrown_155 g_155 coef_155 l3_155 l4_155 l5_155 l6_155 hf
      have H155 := ih
      rw [F_X11_refresh_L155] at hf
      refine g_iload C 5 dX11_refresh_155 rfl ?_
      refine g_iload_n C 2 dX11_refresh_157 rfl ?_
      refine g_icmp_ge C 204 dX11_refresh_158 (by decide) (fun c12 => ?_) (fun c12 => ?_)
      · have hf := opt_pos c12 hf
        refine g_aload_n C 0 dX11_refresh_204 rfl ?_
        refine g_iload_n C 1 dX11_refresh_205 rfl ?_
        refine g_iconst C (v := 2) dX11_refresh_206 (by decide) ?_
        refine g_iload C 3 dX11_refresh_207 rfl ?_
        refine g_iconst C (v := 1) dX11_refresh_209 (by decide) ?_
        refine g_iadd C dX11_refresh_210 ?_
        obtain ⟨v13, h14, hf⟩ := opt_bind hf
        refine g_callV C (c_X11_sets (l := x_l X) (D := x_D X) (cy := x_y X) (a := a) (thrown := thrown_155) (g := g_155) (saved := saved) (hasSaved := hasSaved) (coef := coef_155) (nodes := nodes) (nodeMany := nodeMany) (isDeep := isDeep) (codes := codes) (details := details) (levelMany := levelMany) (given := given) (paper := paper) (papered := papered) (tape := tape) (taped := taped) (wrongAt := wrongAt) (at_ := at_) (value := value) (readPlace := readPlace) (readValue := readValue) (readEpoch := readEpoch) (p0 := p0) (p1 := 2) (p2 := l4_155 + 1) h14) (As := [.int p0, .int 2, .int (l4_155 + 1)]) (rest := []) (wr := []) (ws' := fun _ => (wM (x_y X) a thrown_155 v13 saved hasSaved coef_155 nodes nodeMany isDeep codes details levelMany given paper papered tape taped wrongAt at_ value readPlace readValue readEpoch)) (st' := fun _ => []) (ci := 12) 3 0 ⟨_, rfl⟩ rfl rfl mw_7_91 mw_1_9 mw_7_88 mw_7_90 mp_38 hd_X11_sets rfl (g_rm hR rfl rfl) [0, 1, 2, 3, 4, 5, 6, 7, 8, 9] [] [0, 1, 2, 3, 4, 5, 6, 7, 8, 9] ⟨rfl, rfl, rfl, rfl, by decide, gRoIn_0, rfl, fun _ => rfl⟩ rfl (Nat.le_of_ble_eq_true rfl) dX11_refresh_211 (g_rc hR (Nat.le_of_ble_eq_true rfl) (Nat.le_of_ble_eq_true rfl)) (ck' := 0) (sk' := 0) rfl rfl (fun _ => rfl) (fun _ _ => ?_) (fun _ hx => absurd rfl hx)
        refine g_aload_n C 0 dX11_refresh_214 rfl ?_
        refine g_sipush C (v := 300) dX11_refresh_215 (by decide) ?_
        refine g_iload_n C 1 dX11_refresh_218 rfl ?_
        refine g_iadd C dX11_refresh_219 ?_
        obtain ⟨v15, h16, hf⟩ := opt_bind hf
        refine g_callV C (c_X11_happens (l := x_l X) (D := x_D X) (cy := x_y X) (a := a) (thrown := thrown_155) (g := v13) (saved := saved) (hasSaved := hasSaved) (coef := coef_155) (nodes := nodes) (nodeMany := nodeMany) (isDeep := isDeep) (codes := codes) (details := details) (levelMany := levelMany) (given := given) (paper := paper) (papered := papered) (tape := tape) (taped := taped) (wrongAt := wrongAt) (at_ := at_) (value := value) (readPlace := readPlace) (readValue := readValue) (readEpoch := readEpoch) (p0 := (300 : Int32) + p0) h16) (As := [.int ((300 : Int32) + p0)]) (rest := []) (wr := []) (ws' := fun _ => (wM (x_y X) a thrown_155 v15 saved hasSaved coef_155 nodes nodeMany isDeep codes details levelMany given paper papered tape taped wrongAt at_ value readPlace readValue readEpoch)) (st' := fun _ => []) (ci := 12) 1 0 ⟨_, rfl⟩ rfl rfl mw_7_118 mw_1_9 mw_7_115 mw_7_117 mp_44 hd_X11_happens rfl (g_rm hR rfl rfl) [0, 1, 2, 3, 4, 5, 6, 7, 8, 9] [] [0, 1, 2, 3, 4, 5, 6, 7, 8, 9] ⟨rfl, rfl, rfl, rfl, by decide, gRoIn_0, rfl, fun _ => rfl⟩ rfl (Nat.le_of_ble_eq_true rfl) dX11_refresh_220 (g_rc hR (Nat.le_of_ble_eq_true rfl) (Nat.le_of_ble_eq_true rfl)) (ck' := 0) (sk' := 0) rfl rfl (fun _ => rfl) (fun _ _ => ?_) (fun _ hx => absurd rfl hx)
        refine g_aload_n C 0 dX11_refresh_223 rfl ?_
        refine g_iload C 4 dX11_refresh_224 rfl ?_
        obtain ⟨v17, h18, hf⟩ := opt_bind hf
        refine g_callV C (c_X11_done (l := x_l X) (D := x_D X) (cy := x_y X) (a := a) (thrown := thrown_155) (g := v15) (saved := saved) (hasSaved := hasSaved) (coef := coef_155) (nodes := nodes) (nodeMany := nodeMany) (isDeep := isDeep) (codes := codes) (details := details) (levelMany := levelMany) (given := given) (paper := paper) (papered := papered) (tape := tape) (taped := taped) (wrongAt := wrongAt) (at_ := at_) (value := value) (readPlace := readPlace) (readValue := readValue) (readEpoch := readEpoch) (p0 := l5_155) h18) (As := [.int l5_155]) (rest := []) (wr := []) (ws' := fun _ => (wM (x_y X) a v17.2 v15 saved hasSaved coef_155 nodes nodeMany isDeep codes details levelMany given paper papered tape taped wrongAt at_ value readPlace readValue readEpoch)) (st' := fun _ => [.int v17.1]) (ci := 12) 1 0 ⟨_, rfl⟩ rfl rfl mw_7_22 mw_1_9 mw_7_19 mw_7_21 mp_29 hd_X11_done rfl (g_rm hR rfl rfl) [0, 1, 2, 3, 4, 5, 6, 7, 8, 9] [] [0, 1, 2, 3, 4, 5, 6, 7, 8, 9] ⟨rfl, rfl, rfl, rfl, by decide, gRoIn_0, rfl, fun _ => rfl⟩ rfl (Nat.le_of_ble_eq_true rfl) dX11_refresh_226 (g_rc hR (Nat.le_of_ble_eq_true rfl) (Nat.le_of_ble_eq_true rfl)) (ck' := 0) (sk' := 0) rfl rfl (fun _ => rfl) (fun _ _ => ?_) (fun _ hx => absurd rfl hx)
        obtain rfl := Option.some.inj hf
        exact g_iret C E () dX11_refresh_229 rfl rfl rfl (Nat.le_of_ble_eq_true rfl) (Nat.le_of_ble_eq_true rfl)
      · have hf := opt_neg c12 hf
        refine g_aload_n C 0 dX11_refresh_161 rfl ?_
        refine g_iload_n C 1 dX11_refresh_162 rfl ?_
        refine g_iconst C (v := 3) dX11_refresh_163 (by decide) ?_
        refine g_iload C 5 dX11_refresh_164 rfl ?_
        refine g_iadd C dX11_refresh_166 ?_
        refine g_aload_n C 0 dX11_refresh_167 rfl ?_
        refine g_iload_n C 1 dX11_refresh_168 rfl ?_
        refine g_iconst C (v := 3) dX11_refresh_169 (by decide) ?_
        refine g_iload C 5 dX11_refresh_170 rfl ?_
        refine g_iadd C dX11_refresh_172 ?_
        obtain ⟨v19, h20, hf⟩ := opt_bind hf
        refine g_callV C (c_X11_of (l := x_l X) (D := x_D X) (cy := x_y X) (a := a) (thrown := thrown_155) (g := g_155) (saved := saved) (hasSaved := hasSaved) (coef := coef_155) (nodes := nodes) (nodeMany := nodeMany) (isDeep := isDeep) (codes := codes) (details := details) (levelMany := levelMany) (given := given) (paper := paper) (papered := papered) (tape := tape) (taped := taped) (wrongAt := wrongAt) (at_ := at_) (value := value) (readPlace := readPlace) (readValue := readValue) (readEpoch := readEpoch) (p0 := p0) (p1 := (3 : Int32) + l6_155) h20) (As := [.int p0, .int ((3 : Int32) + l6_155)]) (rest := [.int ((3 : Int32) + l6_155), .int p0, .ref (a 0)]) (wr := []) (ws' := fun _ => (wM (x_y X) a thrown_155 g_155 saved hasSaved coef_155 nodes nodeMany isDeep codes details levelMany given paper papered tape taped wrongAt at_ value readPlace readValue readEpoch)) (st' := fun _ => [.int v19, .int ((3 : Int32) + l6_155), .int p0, .ref (a 0)]) (ci := 12) 2 0 ⟨_, rfl⟩ rfl rfl mw_7_69 mw_1_9 mw_7_66 mw_7_68 mp_35 hd_X11_of rfl (g_rm hR rfl rfl) [0, 1, 2, 3, 4, 5, 6, 7, 8, 9] [] [0, 1, 2, 3, 4, 5, 6, 7, 8, 9] ⟨rfl, rfl, rfl, rfl, by decide, gRoIn_0, rfl, fun _ => rfl⟩ rfl (Nat.le_of_ble_eq_true rfl) dX11_refresh_173 (g_rc hR (Nat.le_of_ble_eq_true rfl) (Nat.le_of_ble_eq_true rfl)) (ck' := 0) (sk' := 0) rfl rfl (fun _ => rfl) (fun _ _ => ?_) (fun _ hx => absurd rfl hx)
        refine g_iconst C (v := 4) dX11_refresh_176 (by decide) ?_
        refine g_aload_n C 0 dX11_refresh_177 rfl ?_
        refine g_get C 0 4 rfl rfl wiX11 (by decide) mw_6_188 rfl rfl dX11_refresh_178 ?_
        refine g_iload C 5 dX11_refresh_181 rfl ?_
        obtain ⟨c21, hf⟩ := gg_of hf
        refine g_iald C 3 rfl (gi_in c21) dX11_refresh_183 ?_
        refine g_sipush C (v := 2039) dX11_refresh_184 (by decide) ?_
        obtain ⟨v22, h23, hf⟩ := opt_bind hf
        refine g_callS C (c_X11_power (l := x_l X) (D := x_D X) (cy := x_y X) (p0 := 4) (p1 := coef_155 (Int32.toNatClampNeg l6_155)) (p2 := 2039) h23) (As := [.int 4, .int (coef_155 (Int32.toNatClampNeg l6_155)), .int 2039]) (rest := [.int v19, .int ((3 : Int32) + l6_155), .int p0, .ref (a 0)]) (wr := (wM (x_y X) a thrown_155 g_155 saved hasSaved coef_155 nodes nodeMany isDeep codes details levelMany given paper papered tape taped wrongAt at_ value readPlace readValue readEpoch)) (ws' := fun _ => (wM (x_y X) a thrown_155 g_155 saved hasSaved coef_155 nodes nodeMany isDeep codes details levelMany given paper papered tape taped wrongAt at_ value readPlace readValue readEpoch)) (st' := fun _ => [.int v22, .int v19, .int ((3 : Int32) + l6_155), .int p0, .ref (a 0)]) 3 mw_7_76 mw_1_9 mw_7_74 mw_7_75 hd_X11_power rfl (g_rm hR rfl rfl) [] [0, 1, 2, 3, 4, 5, 6, 7, 8, 9] [0, 1, 2, 3, 4, 5, 6, 7, 8, 9] ⟨rfl, rfl, rfl, rfl, by decide, gRoIn_0, rfl, fun _ => rfl⟩ rfl (Nat.le_of_ble_eq_true rfl) dX11_refresh_187 (g_rc hR (Nat.le_of_ble_eq_true rfl) (Nat.le_of_ble_eq_true rfl)) (ck' := 0) (sk' := 0) rfl rfl (fun _ => rfl) (fun _ _ => ?_) (fun _ hx => absurd rfl hx)
        refine g_imul C dX11_refresh_190 ?_
        refine g_sipush C (v := 2039) dX11_refresh_191 (by decide) ?_
        refine g_irem C dX11_refresh_194 (by decide) ?_
        obtain ⟨v24, h25, hf⟩ := opt_bind hf
        refine g_callV C (c_X11_sets (l := x_l X) (D := x_D X) (cy := x_y X) (a := a) (thrown := thrown_155) (g := g_155) (saved := saved) (hasSaved := hasSaved) (coef := coef_155) (nodes := nodes) (nodeMany := nodeMany) (isDeep := isDeep) (codes := codes) (details := details) (levelMany := levelMany) (given := given) (paper := paper) (papered := papered) (tape := tape) (taped := taped) (wrongAt := wrongAt) (at_ := at_) (value := value) (readPlace := readPlace) (readValue := readValue) (readEpoch := readEpoch) (p0 := p0) (p1 := (3 : Int32) + l6_155) (p2 := (v19 * v22) - (v19 * v22) / 2039 * 2039) h25) (As := [.int p0, .int ((3 : Int32) + l6_155), .int ((v19 * v22) - (v19 * v22) / 2039 * 2039)]) (rest := []) (wr := []) (ws' := fun _ => (wM (x_y X) a thrown_155 v24 saved hasSaved coef_155 nodes nodeMany isDeep codes details levelMany given paper papered tape taped wrongAt at_ value readPlace readValue readEpoch)) (st' := fun _ => []) (ci := 12) 3 0 ⟨_, rfl⟩ rfl rfl mw_7_91 mw_1_9 mw_7_88 mw_7_90 mp_38 hd_X11_sets rfl (g_rm hR rfl rfl) [0, 1, 2, 3, 4, 5, 6, 7, 8, 9] [] [0, 1, 2, 3, 4, 5, 6, 7, 8, 9] ⟨rfl, rfl, rfl, rfl, by decide, gRoIn_0, rfl, fun _ => rfl⟩ rfl (Nat.le_of_ble_eq_true rfl) dX11_refresh_195 (g_rc hR (Nat.le_of_ble_eq_true rfl) (Nat.le_of_ble_eq_true rfl)) (ck' := 0) (sk' := 0) rfl rfl (fun _ => rfl) (fun _ _ => ?_) (fun _ hx => absurd rfl hx)
        refine g_iinc C 5 (v := l6_155 + 1) (lv' := [(6, .int (l6_155 + 1)), (0, .ref (a 0)), (1, .int p0), (3, .int l3_155), (4, .int l4_155), (5, .int l5_155)]) dX11_refresh_198 rfl rfl (g_nlt hn rfl) rfl ?_
        refine g_goto C 155 dX11_refresh_201 (by decide) ?_
        refine gW.locals [1, 2, 3, 4, 5, 0] rfl ?_
        exact H155 thrown_155 v24 coef_155 l3_155 l4_155 l5_155 (l6_155 + 1) hf
  have H70 : ∀ (n70 : Nat), ∀ (thrown_70 : Int32) (g_70 : Nat → Int32) (coef_70 : Nat → Int32) (l3_70 : Int32) (l4_70 : Int32) (l5_70 : Int32) (l6_70 : Int32), F_X11_refresh_L70 p0 n70 thrown_70 g_70 coef_70 l3_70 l4_70 l5_70 l6_70 = some val → gW X Q 0 0 ((wM (x_y X) a thrown_70 g_70 saved hasSaved coef_70 nodes nodeMany isDeep codes details levelMany given paper papered tape taped wrongAt at_ value readPlace readValue readEpoch)) [(0, .ref (a 0)), (1, .int p0), (3, .int l3_70), (4, .int l4_70), (5, .int l5_70), (6, .int l6_70)] [] 70 := by
    intro n70
    induction n70 with
    | zero => intros; rename_i hf; cases hf
    | succ n70 ih =>
      intro thrown_70 g_70 coef_70 l3_70 l4_70 l5_70 l6_70 hf
      have H70 := ih
      rw [F_X11_refresh_L70] at hf
      have H146 : ∀ (thrown_146 : Int32) (g_146 : Nat → Int32) (coef_146 : Nat → Int32) (l3_146 : Int32) (l4_146 : Int32) (l5_146 : Int32) (l6_146 : Int32), F_X11_refresh_L146 (F_X11_refresh_L70 p0 n70) thrown_146 g_146 coef_146 l3_146 l4_146 l5_146 l6_146 = some val → gW X Q 0 0 ((wM (x_y X) a thrown_146 g_146 saved hasSaved coef_146 nodes nodeMany isDeep codes details levelMany given paper papered tape taped wrongAt at_ value readPlace readValue readEpoch)) [(0, .ref (a 0)), (1, .int p0), (3, .int l3_146), (4, .int l4_146), (5, .int l5_146), (6, .int l6_146)] [] 146 := by
        intro thrown_146 g_146 coef_146 l3_146 l4_146 l5_146 l6_146 hf
        unfold F_X11_refresh_L146 at hf
        refine g_iinc C 5 (v := l6_146 + 1) (lv' := [(6, .int (l6_146 + 1)), (0, .ref (a 0)), (1, .int p0), (3, .int l3_146), (4, .int l4_146), (5, .int l5_146)]) dX11_refresh_146 rfl rfl (g_nlt hn rfl) rfl ?_
        refine g_goto C 70 dX11_refresh_149 (by decide) ?_
        refine gW.locals [1, 2, 3, 4, 5, 0] rfl ?_
        exact H70 thrown_146 g_146 coef_146 l3_146 l4_146 l5_146 (l6_146 + 1) hf
      refine g_iload C 5 dX11_refresh_70 rfl ?_
      refine g_bipush C (v := 24) dX11_refresh_72 (by decide) ?_
      refine g_icmp_gt C 152 dX11_refresh_74 (by decide) (fun c11 => ?_) (fun c11 => ?_)
      · have hf := opt_pos c11 hf
        refine g_iconst C (v := 0) dX11_refresh_152 (by decide) ?_
        refine g_istore C (lv' := [(6, .int 0), (0, .ref (a 0)), (1, .int p0), (3, .int l3_70), (4, .int l4_70), (5, .int l5_70)]) dX11_refresh_153 (g_nlt hn rfl) rfl ?_
        refine gW.locals [1, 2, 3, 4, 5, 0] rfl ?_
        exact H155 1000 thrown_70 g_70 coef_70 l3_70 l4_70 l5_70 0 hf
      · have hf := opt_neg c11 hf
        refine g_aload_n C 0 dX11_refresh_77 rfl ?_
        refine g_iload C 5 dX11_refresh_78 rfl ?_
        obtain ⟨v26, h27, hf⟩ := opt_bind hf
        refine g_callS C (c_X11_owner (l := x_l X) (D := x_D X) (cy := x_y X) (p0 := l6_70) h27) (As := [.int l6_70]) (rest := [.ref (a 0)]) (wr := (wM (x_y X) a thrown_70 g_70 saved hasSaved coef_70 nodes nodeMany isDeep codes details levelMany given paper papered tape taped wrongAt at_ value readPlace readValue readEpoch)) (ws' := fun _ => (wM (x_y X) a thrown_70 g_70 saved hasSaved coef_70 nodes nodeMany isDeep codes details levelMany given paper papered tape taped wrongAt at_ value readPlace readValue readEpoch)) (st' := fun _ => [.int v26, .ref (a 0)]) 1 mw_7_102 mw_1_9 mw_7_100 mw_7_101 hd_X11_owner rfl (g_rm hR rfl rfl) [] [0, 1, 2, 3, 4, 5, 6, 7, 8, 9] [0, 1, 2, 3, 4, 5, 6, 7, 8, 9] ⟨rfl, rfl, rfl, rfl, by decide, gRoIn_0, rfl, fun _ => rfl⟩ rfl (Nat.le_of_ble_eq_true rfl) dX11_refresh_80 (g_rc hR (Nat.le_of_ble_eq_true rfl) (Nat.le_of_ble_eq_true rfl)) (ck' := 0) (sk' := 0) rfl rfl (fun _ => rfl) (fun _ _ => ?_) (fun _ hx => absurd rfl hx)
        obtain ⟨v28, h29, hf⟩ := opt_bind hf
        refine g_callV C (c_X11_isPresent (l := x_l X) (D := x_D X) (cy := x_y X) (a := a) (thrown := thrown_70) (g := g_70) (saved := saved) (hasSaved := hasSaved) (coef := coef_70) (nodes := nodes) (nodeMany := nodeMany) (isDeep := isDeep) (codes := codes) (details := details) (levelMany := levelMany) (given := given) (paper := paper) (papered := papered) (tape := tape) (taped := taped) (wrongAt := wrongAt) (at_ := at_) (value := value) (readPlace := readPlace) (readValue := readValue) (readEpoch := readEpoch) (p0 := v26) h29) (As := [.int v26]) (rest := []) (wr := []) (ws' := fun _ => (wM (x_y X) a thrown_70 g_70 saved hasSaved coef_70 nodes nodeMany isDeep codes details levelMany given paper papered tape taped wrongAt at_ value readPlace readValue readEpoch)) (st' := fun _ => [.int v28]) (ci := 12) 1 0 ⟨_, rfl⟩ rfl rfl mw_7_53 mw_1_9 mw_7_50 mw_7_52 mp_32 hd_X11_isPresent rfl (g_rm hR rfl rfl) [0, 1, 2, 3, 4, 5, 6, 7, 8, 9] [] [0, 1, 2, 3, 4, 5, 6, 7, 8, 9] ⟨rfl, rfl, rfl, rfl, by decide, gRoIn_0, rfl, fun _ => rfl⟩ rfl (Nat.le_of_ble_eq_true rfl) dX11_refresh_83 (g_rc hR (Nat.le_of_ble_eq_true rfl) (Nat.le_of_ble_eq_true rfl)) (ck' := 0) (sk' := 0) rfl rfl (fun _ => rfl) (fun _ _ => ?_) (fun _ hx => absurd rfl hx)
        refine g_if_eq C 146 dX11_refresh_86 (by decide) (fun c30 => ?_) (fun c30 => ?_)
        · have hf := opt_pos c30 hf
          exact H146 thrown_70 g_70 coef_70 l3_70 l4_70 l5_70 l6_70 hf
        · have hf := opt_neg c30 hf
          refine g_aload_n C 0 dX11_refresh_89 rfl ?_
          refine g_iload_n C 1 dX11_refresh_90 rfl ?_
          refine g_iload C 5 dX11_refresh_91 rfl ?_
          obtain ⟨v31, h32, hf⟩ := opt_bind hf
          refine g_callV C (c_X11_hasShare (l := x_l X) (D := x_D X) (cy := x_y X) (a := a) (thrown := thrown_70) (g := g_70) (saved := saved) (hasSaved := hasSaved) (coef := coef_70) (nodes := nodes) (nodeMany := nodeMany) (isDeep := isDeep) (codes := codes) (details := details) (levelMany := levelMany) (given := given) (paper := paper) (papered := papered) (tape := tape) (taped := taped) (wrongAt := wrongAt) (at_ := at_) (value := value) (readPlace := readPlace) (readValue := readValue) (readEpoch := readEpoch) (p0 := p0) (p1 := l6_70) h32) (As := [.int p0, .int l6_70]) (rest := []) (wr := []) (ws' := fun _ => (wM (x_y X) a thrown_70 g_70 saved hasSaved coef_70 nodes nodeMany isDeep codes details levelMany given paper papered tape taped wrongAt at_ value readPlace readValue readEpoch)) (st' := fun _ => [.int v31]) (ci := 12) 2 0 ⟨_, rfl⟩ rfl rfl mw_7_61 mw_1_9 mw_7_58 mw_7_60 mp_33 hd_X11_hasShare rfl (g_rm hR rfl rfl) [0, 1, 2, 3, 4, 5, 6, 7, 8, 9] [] [0, 1, 2, 3, 4, 5, 6, 7, 8, 9] ⟨rfl, rfl, rfl, rfl, by decide, gRoIn_0, rfl, fun _ => rfl⟩ rfl (Nat.le_of_ble_eq_true rfl) dX11_refresh_93 (g_rc hR (Nat.le_of_ble_eq_true rfl) (Nat.le_of_ble_eq_true rfl)) (ck' := 0) (sk' := 0) rfl rfl (fun _ => rfl) (fun _ _ => ?_) (fun _ hx => absurd rfl hx)
          refine g_if_eq C 146 dX11_refresh_96 (by decide) (fun c33 => ?_) (fun c33 => ?_)
          · have hf := opt_pos c33 hf
            exact H146 thrown_70 g_70 coef_70 l3_70 l4_70 l5_70 l6_70 hf
          · have hf := opt_neg c33 hf
            refine g_aload_n C 0 dX11_refresh_99 rfl ?_
            refine g_iload_n C 1 dX11_refresh_100 rfl ?_
            refine g_iload C 5 dX11_refresh_101 rfl ?_
            refine g_iconst C (v := 2) dX11_refresh_103 (by decide) ?_
            obtain ⟨v34, h35, hf⟩ := opt_bind hf
            refine g_callV C (c_X11_shareOf (l := x_l X) (D := x_D X) (cy := x_y X) (a := a) (thrown := thrown_70) (g := g_70) (saved := saved) (hasSaved := hasSaved) (coef := coef_70) (nodes := nodes) (nodeMany := nodeMany) (isDeep := isDeep) (codes := codes) (details := details) (levelMany := levelMany) (given := given) (paper := paper) (papered := papered) (tape := tape) (taped := taped) (wrongAt := wrongAt) (at_ := at_) (value := value) (readPlace := readPlace) (readValue := readValue) (readEpoch := readEpoch) (p0 := p0) (p1 := l6_70) (p2 := 2) h35) (As := [.int p0, .int l6_70, .int 2]) (rest := []) (wr := []) (ws' := fun _ => (wM (x_y X) a thrown_70 g_70 saved hasSaved coef_70 nodes nodeMany isDeep codes details levelMany given paper papered tape taped wrongAt at_ value readPlace readValue readEpoch)) (st' := fun _ => [.int v34]) (ci := 12) 3 0 ⟨_, rfl⟩ rfl rfl mw_7_65 mw_1_9 mw_7_62 mw_7_64 mp_34 hd_X11_shareOf rfl (g_rm hR rfl rfl) [0, 1, 2, 3, 4, 5, 6, 7, 8, 9] [] [0, 1, 2, 3, 4, 5, 6, 7, 8, 9] ⟨rfl, rfl, rfl, rfl, by decide, gRoIn_0, rfl, fun _ => rfl⟩ rfl (Nat.le_of_ble_eq_true rfl) dX11_refresh_104 (g_rc hR (Nat.le_of_ble_eq_true rfl) (Nat.le_of_ble_eq_true rfl)) (ck' := 0) (sk' := 0) rfl rfl (fun _ => rfl) (fun _ _ => ?_) (fun _ hx => absurd rfl hx)
            refine g_iload C 3 dX11_refresh_107 rfl ?_
            refine g_icmp_ne C 146 dX11_refresh_109 (by decide) (fun c36 => ?_) (fun c36 => ?_)
            · have hf := opt_neg c36 hf
              exact H146 thrown_70 g_70 coef_70 l3_70 l4_70 l5_70 l6_70 hf
            · have hf := opt_pos c36 hf
              refine g_aload_n C 0 dX11_refresh_112 rfl ?_
              refine g_iload_n C 1 dX11_refresh_113 rfl ?_
              refine g_iload C 5 dX11_refresh_114 rfl ?_
              refine g_aload_n C 0 dX11_refresh_116 rfl ?_
              refine g_iload_n C 1 dX11_refresh_117 rfl ?_
              refine g_iload C 5 dX11_refresh_118 rfl ?_
              refine g_iconst C (v := 1) dX11_refresh_120 (by decide) ?_
              obtain ⟨v37, h38, hf⟩ := opt_bind hf
              refine g_callV C (c_X11_shareOf (l := x_l X) (D := x_D X) (cy := x_y X) (a := a) (thrown := thrown_70) (g := g_70) (saved := saved) (hasSaved := hasSaved) (coef := coef_70) (nodes := nodes) (nodeMany := nodeMany) (isDeep := isDeep) (codes := codes) (details := details) (levelMany := levelMany) (given := given) (paper := paper) (papered := papered) (tape := tape) (taped := taped) (wrongAt := wrongAt) (at_ := at_) (value := value) (readPlace := readPlace) (readValue := readValue) (readEpoch := readEpoch) (p0 := p0) (p1 := l6_70) (p2 := 1) h38) (As := [.int p0, .int l6_70, .int 1]) (rest := [.int l6_70, .int p0, .ref (a 0)]) (wr := []) (ws' := fun _ => (wM (x_y X) a thrown_70 g_70 saved hasSaved coef_70 nodes nodeMany isDeep codes details levelMany given paper papered tape taped wrongAt at_ value readPlace readValue readEpoch)) (st' := fun _ => [.int v37, .int l6_70, .int p0, .ref (a 0)]) (ci := 12) 3 0 ⟨_, rfl⟩ rfl rfl mw_7_65 mw_1_9 mw_7_62 mw_7_64 mp_34 hd_X11_shareOf rfl (g_rm hR rfl rfl) [0, 1, 2, 3, 4, 5, 6, 7, 8, 9] [] [0, 1, 2, 3, 4, 5, 6, 7, 8, 9] ⟨rfl, rfl, rfl, rfl, by decide, gRoIn_0, rfl, fun _ => rfl⟩ rfl (Nat.le_of_ble_eq_true rfl) dX11_refresh_121 (g_rc hR (Nat.le_of_ble_eq_true rfl) (Nat.le_of_ble_eq_true rfl)) (ck' := 0) (sk' := 0) rfl rfl (fun _ => rfl) (fun _ _ => ?_) (fun _ hx => absurd rfl hx)
              refine g_aload_n C 0 dX11_refresh_124 rfl ?_
              refine g_iload_n C 2 dX11_refresh_125 rfl ?_
              refine g_iload C 5 dX11_refresh_126 rfl ?_
              obtain ⟨v39, h40, hf⟩ := opt_bind hf
              refine g_callV C (c_X11_polynomial (l := x_l X) (D := x_D X) (cy := x_y X) (a := a) (thrown := thrown_70) (g := g_70) (saved := saved) (hasSaved := hasSaved) (coef := coef_70) (nodes := nodes) (nodeMany := nodeMany) (isDeep := isDeep) (codes := codes) (details := details) (levelMany := levelMany) (given := given) (paper := paper) (papered := papered) (tape := tape) (taped := taped) (wrongAt := wrongAt) (at_ := at_) (value := value) (readPlace := readPlace) (readValue := readValue) (readEpoch := readEpoch) (p0 := l3_70) (p1 := l6_70) h40) (As := [.int l3_70, .int l6_70]) (rest := [.int v37, .int l6_70, .int p0, .ref (a 0)]) (wr := []) (ws' := fun _ => (wM (x_y X) a thrown_70 g_70 saved hasSaved coef_70 nodes nodeMany isDeep codes details levelMany given paper papered tape taped wrongAt at_ value readPlace readValue readEpoch)) (st' := fun _ => [.int v39, .int v37, .int l6_70, .int p0, .ref (a 0)]) (ci := 12) 2 0 ⟨_, rfl⟩ rfl rfl mw_7_110 mw_1_9 mw_7_107 mw_7_109 mp_42 hd_X11_polynomial rfl (g_rm hR rfl rfl) [0, 1, 2, 3, 4, 5, 6, 7, 8, 9] [] [0, 1, 2, 3, 4, 5, 6, 7, 8, 9] ⟨rfl, rfl, rfl, rfl, by decide, gRoIn_0, rfl, fun _ => rfl⟩ rfl (Nat.le_of_ble_eq_true rfl) dX11_refresh_128 (g_rc hR (Nat.le_of_ble_eq_true rfl) (Nat.le_of_ble_eq_true rfl)) (ck' := 0) (sk' := 0) rfl rfl (fun _ => rfl) (fun _ _ => ?_) (fun _ hx => absurd rfl hx)
              refine g_iadd C dX11_refresh_131 ?_
              refine g_sipush C (v := 1019) dX11_refresh_132 (by decide) ?_
              refine g_irem C dX11_refresh_135 (by decide) ?_
              refine g_iload C 3 dX11_refresh_136 rfl ?_
              refine g_iconst C (v := 1) dX11_refresh_138 (by decide) ?_
              refine g_iadd C dX11_refresh_139 ?_
              obtain ⟨v41, h42, hf⟩ := opt_bind hf
              refine g_callV C (c_X11_setsShare (l := x_l X) (D := x_D X) (cy := x_y X) (a := a) (thrown := thrown_70) (g := g_70) (saved := saved) (hasSaved := hasSaved) (coef := coef_70) (nodes := nodes) (nodeMany := nodeMany) (isDeep := isDeep) (codes := codes) (details := details) (levelMany := levelMany) (given := given) (paper := paper) (papered := papered) (tape := tape) (taped := taped) (wrongAt := wrongAt) (at_ := at_) (value := value) (readPlace := readPlace) (readValue := readValue) (readEpoch := readEpoch) (p0 := p0) (p1 := l6_70) (p2 := (v37 + v39) - (v37 + v39) / 1019 * 1019) (p3 := l4_70 + 1) h42) (As := [.int p0, .int l6_70, .int ((v37 + v39) - (v37 + v39) / 1019 * 1019), .int (l4_70 + 1)]) (rest := []) (wr := []) (ws' := fun _ => (wM (x_y X) a thrown_70 v41 saved hasSaved coef_70 nodes nodeMany isDeep codes details levelMany given paper papered tape taped wrongAt at_ value readPlace readValue readEpoch)) (st' := fun _ => []) (ci := 12) 4 0 ⟨_, rfl⟩ rfl rfl mw_7_114 mw_1_9 mw_7_111 mw_7_113 mp_43 hd_X11_setsShare rfl (g_rm hR rfl rfl) [0, 1, 2, 3, 4, 5, 6, 7, 8, 9] [] [0, 1, 2, 3, 4, 5, 6, 7, 8, 9] ⟨rfl, rfl, rfl, rfl, by decide, gRoIn_0, rfl, fun _ => rfl⟩ rfl (Nat.le_of_ble_eq_true rfl) dX11_refresh_140 (g_rc hR (Nat.le_of_ble_eq_true rfl) (Nat.le_of_ble_eq_true rfl)) (ck' := 0) (sk' := 0) rfl rfl (fun _ => rfl) (fun _ _ => ?_) (fun _ hx => absurd rfl hx)
              refine g_iinc C 4 (v := l5_70 + 1) (lv' := [(5, .int (l5_70 + 1)), (0, .ref (a 0)), (1, .int p0), (3, .int l3_70), (4, .int l4_70), (6, .int l6_70)]) dX11_refresh_143 rfl rfl (g_nlt hn rfl) rfl ?_
              refine gW.locals [1, 2, 3, 4, 0, 5] rfl ?_
              exact H146 thrown_70 v41 coef_70 l3_70 l4_70 (l5_70 + 1) l6_70 hf
  have H41 : ∀ (n41 : Nat), ∀ (thrown_41 : Int32) (g_41 : Nat → Int32) (coef_41 : Nat → Int32) (l3_41 : Int32) (l4_41 : Int32) (l5_41 : Int32), F_X11_refresh_L41 p0 n41 thrown_41 g_41 coef_41 l3_41 l4_41 l5_41 = some val → gW X Q 0 0 ((wM (x_y X) a thrown_41 g_41 saved hasSaved coef_41 nodes nodeMany isDeep codes details levelMany given paper papered tape taped wrongAt at_ value readPlace readValue readEpoch)) [(0, .ref (a 0)), (1, .int p0), (3, .int l3_41), (4, .int l4_41), (5, .int l5_41)] [] 41 := by
    intro n41
    induction n41 with
    | zero => intros; rename_i hf; cases hf
    | succ n41 ih =>
      intro thrown_41 g_41 coef_41 l3_41 l4_41 l5_41 hf
      have H41 := ih
      rw [F_X11_refresh_L41] at hf
      refine g_iload C 4 dX11_refresh_41 rfl ?_
      refine g_iload_n C 2 dX11_refresh_43 rfl ?_
      refine g_icmp_ge C 64 dX11_refresh_44 (by decide) (fun c10 => ?_) (fun c10 => ?_)
      · have hf := opt_pos c10 hf
        refine g_iconst C (v := 0) dX11_refresh_64 (by decide) ?_
        refine g_istore C (lv' := [(5, .int 0), (0, .ref (a 0)), (1, .int p0), (3, .int l3_41), (4, .int l4_41)]) dX11_refresh_65 (g_nlt hn rfl) rfl ?_
        refine g_iconst C (v := 1) dX11_refresh_67 (by decide) ?_
        refine g_istore C (lv' := [(6, .int 1), (5, .int 0), (0, .ref (a 0)), (1, .int p0), (3, .int l3_41), (4, .int l4_41)]) dX11_refresh_68 (g_nlt hn rfl) rfl ?_
        refine gW.locals [2, 3, 4, 5, 1, 0] rfl ?_
        exact H70 1000 thrown_41 g_41 coef_41 l3_41 l4_41 0 1 hf
      · have hf := opt_neg c10 hf
        refine g_aload_n C 0 dX11_refresh_47 rfl ?_
        refine g_get C 0 4 rfl rfl wiX11 (by decide) mw_6_188 rfl rfl dX11_refresh_48 ?_
        refine g_iload C 4 dX11_refresh_51 rfl ?_
        refine g_aload_n C 0 dX11_refresh_53 rfl ?_
        obtain ⟨v43, h44, hf⟩ := opt_bind hf
        refine g_callV C (c_X11_drawn (l := x_l X) (D := x_D X) (cy := x_y X) (a := a) (thrown := thrown_41) (g := g_41) (saved := saved) (hasSaved := hasSaved) (coef := coef_41) (nodes := nodes) (nodeMany := nodeMany) (isDeep := isDeep) (codes := codes) (details := details) (levelMany := levelMany) (given := given) (paper := paper) (papered := papered) (tape := tape) (taped := taped) (wrongAt := wrongAt) (at_ := at_) (value := value) (readPlace := readPlace) (readValue := readValue) (readEpoch := readEpoch) h44) (As := []) (rest := [.int l5_41, .ref (a 3)]) (wr := []) (ws' := fun _ => (wM (x_y X) a thrown_41 v43.2 saved hasSaved coef_41 nodes nodeMany isDeep codes details levelMany given paper papered tape taped wrongAt at_ value readPlace readValue readEpoch)) (st' := fun _ => [.int v43.1, .int l5_41, .ref (a 3)]) (ci := 12) 0 0 ⟨_, rfl⟩ rfl rfl mw_7_30 mw_1_9 mw_7_27 mw_7_29 mp_30 hd_X11_drawn rfl (g_rm hR rfl rfl) [0, 1, 2, 3, 4, 5, 6, 7, 8, 9] [] [0, 1, 2, 3, 4, 5, 6, 7, 8, 9] ⟨rfl, rfl, rfl, rfl, by decide, gRoIn_0, rfl, fun _ => rfl⟩ rfl (Nat.le_of_ble_eq_true rfl) dX11_refresh_54 (g_rc hR (Nat.le_of_ble_eq_true rfl) (Nat.le_of_ble_eq_true rfl)) (ck' := 0) (sk' := 0) rfl rfl (fun _ => rfl) (fun _ _ => ?_) (fun _ hx => absurd rfl hx)
        obtain ⟨c45, hf⟩ := gg_of hf
        obtain ⟨f46, ef46, hf⟩ := opt_let hf
        refine g_iast C (ws' := (wM (x_y X) a thrown_41 v43.2 saved hasSaved f46 nodes nodeMany isDeep codes details levelMany given paper papered tape taped wrongAt at_ value readPlace readValue readEpoch)) 3 rfl (gi_in c45) (by rw [ef46]; rfl) dX11_refresh_57 ?_
        refine g_iinc C 4 (v := l5_41 + 1) (lv' := [(5, .int (l5_41 + 1)), (0, .ref (a 0)), (1, .int p0), (3, .int l3_41), (4, .int l4_41)]) dX11_refresh_58 rfl rfl (g_nlt hn rfl) rfl ?_
        refine g_goto C 41 dX11_refresh_61 (by decide) ?_
        refine gW.locals [1, 2, 3, 4, 0] rfl ?_
        exact H41 thrown_41 v43.2 f46 l3_41 l4_41 (l5_41 + 1) hf
  show gW X Q 0 0 ((wM (x_y X) a thrown g saved hasSaved coef nodes nodeMany isDeep codes details levelMany given paper papered tape taped wrongAt at_ value readPlace readValue readEpoch)) [(0, .ref (a 0)), (1, .int p0)] [] 0
  refine g_aload_n C 0 dX11_refresh_0 rfl ?_
  refine g_iload_n C 1 dX11_refresh_1 rfl ?_
  obtain ⟨v1, h2, hf⟩ := opt_bind hf
  refine g_callV C (c_X11_lacks (l := x_l X) (D := x_D X) (cy := x_y X) (a := a) (thrown := thrown) (g := g) (saved := saved) (hasSaved := hasSaved) (coef := coef) (nodes := nodes) (nodeMany := nodeMany) (isDeep := isDeep) (codes := codes) (details := details) (levelMany := levelMany) (given := given) (paper := paper) (papered := papered) (tape := tape) (taped := taped) (wrongAt := wrongAt) (at_ := at_) (value := value) (readPlace := readPlace) (readValue := readValue) (readEpoch := readEpoch) (p0 := p0) h2) (As := [.int p0]) (rest := []) (wr := []) (ws' := fun _ => (wM (x_y X) a thrown g saved hasSaved coef nodes nodeMany isDeep codes details levelMany given paper papered tape taped wrongAt at_ value readPlace readValue readEpoch)) (st' := fun _ => [.int v1]) (ci := 12) 1 0 ⟨_, rfl⟩ rfl rfl mw_7_126 mw_1_9 mw_7_123 mw_7_125 mp_45 hd_X11_lacks rfl (g_rm hR rfl rfl) [0, 1, 2, 3, 4, 5, 6, 7, 8, 9] [] [0, 1, 2, 3, 4, 5, 6, 7, 8, 9] ⟨rfl, rfl, rfl, rfl, by decide, gRoIn_0, rfl, fun _ => rfl⟩ rfl (Nat.le_of_ble_eq_true rfl) dX11_refresh_2 (g_rc hR (Nat.le_of_ble_eq_true rfl) (Nat.le_of_ble_eq_true rfl)) (ck' := 0) (sk' := 0) rfl rfl (fun _ => rfl) (fun _ _ => ?_) (fun _ hx => absurd rfl hx)
  refine g_istore_n C (lv' := [(2, .int v1), (0, .ref (a 0)), (1, .int p0)]) dX11_refresh_5 (g_nlt hn rfl) rfl ?_
  refine g_iload_n C 0 dX11_refresh_6 rfl ?_
  refine g_if_eq C 16 dX11_refresh_7 (by decide) (fun c3 => ?_) (fun c3 => ?_)
  · have hf := opt_pos c3 hf
    refine g_aload_n C 1 dX11_refresh_16 rfl ?_
    refine g_iload_n C 2 dX11_refresh_17 rfl ?_
    refine g_iconst C (v := 1) dX11_refresh_18 (by decide) ?_
    obtain ⟨v4, h5, hf⟩ := opt_bind hf
    refine g_callV C (c_X11_of (l := x_l X) (D := x_D X) (cy := x_y X) (a := a) (thrown := thrown) (g := g) (saved := saved) (hasSaved := hasSaved) (coef := coef) (nodes := nodes) (nodeMany := nodeMany) (isDeep := isDeep) (codes := codes) (details := details) (levelMany := levelMany) (given := given) (paper := paper) (papered := papered) (tape := tape) (taped := taped) (wrongAt := wrongAt) (at_ := at_) (value := value) (readPlace := readPlace) (readValue := readValue) (readEpoch := readEpoch) (p0 := p0) (p1 := 1) h5) (As := [.int p0, .int 1]) (rest := []) (wr := []) (ws' := fun _ => (wM (x_y X) a thrown g saved hasSaved coef nodes nodeMany isDeep codes details levelMany given paper papered tape taped wrongAt at_ value readPlace readValue readEpoch)) (st' := fun _ => [.int v4]) (ci := 12) 2 0 ⟨_, rfl⟩ rfl rfl mw_7_69 mw_1_9 mw_7_66 mw_7_68 mp_35 hd_X11_of rfl (g_rm hR rfl rfl) [0, 1, 2, 3, 4, 5, 6, 7, 8, 9] [] [0, 1, 2, 3, 4, 5, 6, 7, 8, 9] ⟨rfl, rfl, rfl, rfl, by decide, gRoIn_0, rfl, fun _ => rfl⟩ rfl (Nat.le_of_ble_eq_true rfl) dX11_refresh_19 (g_rc hR (Nat.le_of_ble_eq_true rfl) (Nat.le_of_ble_eq_true rfl)) (ck' := 0) (sk' := 0) rfl rfl (fun _ => rfl) (fun _ _ => ?_) (fun _ hx => absurd rfl hx)
    refine g_istore_n C (lv' := [(3, .int v4), (2, .int v1), (0, .ref (a 0)), (1, .int p0)]) dX11_refresh_22 (g_nlt hn rfl) rfl ?_
    refine g_aload_n C 2 dX11_refresh_23 rfl ?_
    refine g_iload_n C 3 dX11_refresh_24 rfl ?_
    refine g_iconst C (v := 2) dX11_refresh_25 (by decide) ?_
    obtain ⟨v6, h7, hf⟩ := opt_bind hf
    refine g_callV C (c_X11_of (l := x_l X) (D := x_D X) (cy := x_y X) (a := a) (thrown := thrown) (g := g) (saved := saved) (hasSaved := hasSaved) (coef := coef) (nodes := nodes) (nodeMany := nodeMany) (isDeep := isDeep) (codes := codes) (details := details) (levelMany := levelMany) (given := given) (paper := paper) (papered := papered) (tape := tape) (taped := taped) (wrongAt := wrongAt) (at_ := at_) (value := value) (readPlace := readPlace) (readValue := readValue) (readEpoch := readEpoch) (p0 := p0) (p1 := 2) h7) (As := [.int p0, .int 2]) (rest := []) (wr := []) (ws' := fun _ => (wM (x_y X) a thrown g saved hasSaved coef nodes nodeMany isDeep codes details levelMany given paper papered tape taped wrongAt at_ value readPlace readValue readEpoch)) (st' := fun _ => [.int v6]) (ci := 12) 2 0 ⟨_, rfl⟩ rfl rfl mw_7_69 mw_1_9 mw_7_66 mw_7_68 mp_35 hd_X11_of rfl (g_rm hR rfl rfl) [0, 1, 2, 3, 4, 5, 6, 7, 8, 9] [] [0, 1, 2, 3, 4, 5, 6, 7, 8, 9] ⟨rfl, rfl, rfl, rfl, by decide, gRoIn_0, rfl, fun _ => rfl⟩ rfl (Nat.le_of_ble_eq_true rfl) dX11_refresh_26 (g_rc hR (Nat.le_of_ble_eq_true rfl) (Nat.le_of_ble_eq_true rfl)) (ck' := 0) (sk' := 0) rfl rfl (fun _ => rfl) (fun _ _ => ?_) (fun _ hx => absurd rfl hx)
    refine g_istore C (lv' := [(4, .int v6), (3, .int v4), (2, .int v1), (0, .ref (a 0)), (1, .int p0)]) dX11_refresh_29 (g_nlt hn rfl) rfl ?_
    refine g_aload_n C 3 dX11_refresh_31 rfl ?_
    refine g_get C 0 4 rfl rfl wiX11 (by decide) mw_6_188 rfl rfl dX11_refresh_32 ?_
    refine g_iconst C (v := 0) dX11_refresh_35 (by decide) ?_
    refine g_iconst C (v := 0) dX11_refresh_36 (by decide) ?_
    obtain ⟨c8, hf⟩ := gg_of hf
    obtain ⟨f9, ef9, hf⟩ := opt_let hf
    refine g_iast C (ws' := (wM (x_y X) a thrown g saved hasSaved f9 nodes nodeMany isDeep codes details levelMany given paper papered tape taped wrongAt at_ value readPlace readValue readEpoch)) 3 rfl (gi_in c8) (by rw [ef9]; rfl) dX11_refresh_37 ?_
    refine g_iconst C (v := 1) dX11_refresh_38 (by decide) ?_
    refine g_istore C (lv' := [(5, .int 1), (4, .int v6), (3, .int v4), (2, .int v1), (0, .ref (a 0)), (1, .int p0)]) dX11_refresh_39 (g_nlt hn rfl) rfl ?_
    refine gW.locals [4, 5, 2, 1, 0] rfl ?_
    exact H41 1000 thrown g f9 v4 v6 1 hf
  · have hf := opt_neg c3 hf
    refine g_aload_n C 1 dX11_refresh_10 rfl ?_
    refine g_iload_n C 0 dX11_refresh_11 rfl ?_
    obtain ⟨v47, h48, hf⟩ := opt_bind hf
    refine g_callV C (c_X11_fails (l := x_l X) (D := x_D X) (cy := x_y X) (a := a) (thrown := thrown) (g := g) (saved := saved) (hasSaved := hasSaved) (coef := coef) (nodes := nodes) (nodeMany := nodeMany) (isDeep := isDeep) (codes := codes) (details := details) (levelMany := levelMany) (given := given) (paper := paper) (papered := papered) (tape := tape) (taped := taped) (wrongAt := wrongAt) (at_ := at_) (value := value) (readPlace := readPlace) (readValue := readValue) (readEpoch := readEpoch) (p0 := v1) h48) (As := [.int v1]) (rest := []) (wr := []) (ws' := fun _ => (wM (x_y X) a v47.2 g saved hasSaved coef nodes nodeMany isDeep codes details levelMany given paper papered tape taped wrongAt at_ value readPlace readValue readEpoch)) (st' := fun _ => [.int v47.1]) (ci := 12) 1 0 ⟨_, rfl⟩ rfl rfl mw_7_45 mw_1_9 mw_7_42 mw_7_44 mp_31 hd_X11_fails rfl (g_rm hR rfl rfl) [0, 1, 2, 3, 4, 5, 6, 7, 8, 9] [] [0, 1, 2, 3, 4, 5, 6, 7, 8, 9] ⟨rfl, rfl, rfl, rfl, by decide, gRoIn_0, rfl, fun _ => rfl⟩ rfl (Nat.le_of_ble_eq_true rfl) dX11_refresh_12 (g_rc hR (Nat.le_of_ble_eq_true rfl) (Nat.le_of_ble_eq_true rfl)) (ck' := 0) (sk' := 0) rfl rfl (fun _ => rfl) (fun _ _ => ?_) (fun _ hx => absurd rfl hx)
    obtain rfl := Option.some.inj hf
    exact g_iret C E () dX11_refresh_15 rfl rfl rfl (Nat.le_of_ble_eq_true rfl) (Nat.le_of_ble_eq_true rfl)
/-! X11_valueAt -/
theorem hd_X11_valueAt : yX11_valueAt.cls ≠ "java/lang/invoke/MethodHandle" ∧ yX11_valueAt.cls ≠ "java/lang/invoke/VarHandle" ∧ (parseMethodDescriptor yX11_valueAt.desc).map (fun d => d.parameters.length) = some 3 := by decide +kernel
def F_X11_valueAt_L104  (K6 : Int32 → Int32 → Option (Int32)) (K30 : Int32 → Int32 → Int32 → Int32 → Option (Int32)) (l4_104 : Int32) (l5_104 : Int32) (l6_104 : Int32) (l7_104 : Int32) : Option (Int32) := K30 l4_104 l5_104 l6_104 (l7_104 + 1)
def F_X11_valueAt_L30 (nodes : Nat → Int32) (p1 : Int32) (p2 : Int32) (K6 : Int32 → Int32 → Option (Int32)) : Nat → Int32 → Int32 → Int32 → Int32 → Option (Int32)
  | 0, _, _, _, _ => none
  | n + 1, l4_30, l5_30, l6_30, l7_30 => if p1 ≤ l7_30 then (gl ((l4_30 + l6_30) - (l4_30 + l6_30) / 1019 * 1019) fun x6 => K6 x6 (l5_30 + 1)) else (if l7_30 = l5_30 then (F_X11_valueAt_L104 K6 (F_X11_valueAt_L30 nodes p1 p2 K6 n) l4_30 l5_30 l6_30 l7_30) else (gg (gi l7_30 24) (gl (((p2 - (nodes (Int32.toNatClampNeg l7_30))) + 1019) - ((p2 - (nodes (Int32.toNatClampNeg l7_30))) + 1019) / 1019 * 1019) fun x9 => gl ((l6_30 * x9) - (l6_30 * x9) / 1019 * 1019) fun x10 => gg (gi l5_30 24) (gg (gi l7_30 24) (gl ((((nodes (Int32.toNatClampNeg l5_30)) - (nodes (Int32.toNatClampNeg l7_30))) + 1019) - (((nodes (Int32.toNatClampNeg l5_30)) - (nodes (Int32.toNatClampNeg l7_30))) + 1019) / 1019 * 1019) fun x13 => (F_X11_inverse x13).bind fun v14 => gl ((x10 * v14) - (x10 * v14) / 1019 * 1019) fun x16 => F_X11_valueAt_L104 K6 (F_X11_valueAt_L30 nodes p1 p2 K6 n) l4_30 l5_30 x16 l7_30)))))
def F_X11_valueAt_L6 (g : Nat → Int32) (nodes : Nat → Int32) (p0 : Int32) (p1 : Int32) (p2 : Int32)  : Nat → Int32 → Int32 → Option (Int32)
  | 0, _, _ => none
  | n + 1, l4_6, l5_6 => if p1 ≤ l5_6 then (some l4_6) else (gg (gi l5_6 24) ((F_X11_shareOf g p0 (nodes (Int32.toNatClampNeg l5_6)) 1).bind fun v3 => F_X11_valueAt_L30 nodes p1 p2 (F_X11_valueAt_L6 g nodes p0 p1 p2 n) 1000 l4_6 l5_6 v3 0))
def F_X11_valueAt (g : Nat → Int32) (nodes : Nat → Int32) (p0 : Int32) (p1 : Int32) (p2 : Int32) : Option (Int32) := F_X11_valueAt_L6 g nodes p0 p1 p2 1000 0 0
set_option maxRecDepth 100000 in
set_option maxHeartbeats 4000000 in
theorem c_X11_valueAt {l : Launch} {D : va_G} {cy : Nat → ClassId} {a : Nat → Nat} {thrown : Int32} {g : Nat → Int32} {saved : Nat → Int32} {hasSaved : Int32} {coef : Nat → Int32} {nodes : Nat → Int32} {nodeMany : Int32} {isDeep : Int32} {codes : Nat → Int32} {details : Nat → Int32} {levelMany : Int32} {given : Nat → Int32} {paper : Nat → Int32} {papered : Int32} {tape : Nat → Int32} {taped : Int32} {wrongAt : Int32} {at_ : Int32} {value : Int32} {readPlace : Int32} {readValue : Int32} {readEpoch : Int32} {p0 : Int32} {p1 : Int32} {p2 : Int32}  {val : Int32} (hf : F_X11_valueAt g nodes p0 p1 p2 = some val) : gCt l D cy yX11_valueAt cX11_valueAt 8 (some .int) 2 45 0 0 [.ref (a 0), .int p0, .int p1, .int p2] [] ((wM cy a thrown g saved hasSaved coef nodes nodeMany isDeep codes details levelMany given paper papered tape taped wrongAt at_ value readPlace readValue readEpoch)) 0 (fun _ : Unit => some (.int val)) (fun _ => (wM cy a thrown g saved hasSaved coef nodes nodeMany isDeep codes details levelMany given paper papered tape taped wrongAt at_ value readPlace readValue readEpoch)) := by
  refine g_begin (by decide +kernel) (Nat.le_of_ble_eq_true rfl) ?_
  intro X Q hl hR hD hy hro hn C hin E
  subst hl; subst hD; subst hy
  replace C : gC X "SecretVaultModel" cX11_valueAt (some .int) := C
  unfold F_X11_valueAt at hf
  have H6 : ∀ (n6 : Nat), ∀ (l4_6 : Int32) (l5_6 : Int32), F_X11_valueAt_L6 g nodes p0 p1 p2 n6 l4_6 l5_6 = some val → gW X Q 0 0 ((wM (x_y X) a thrown g saved hasSaved coef nodes nodeMany isDeep codes details levelMany given paper papered tape taped wrongAt at_ value readPlace readValue readEpoch)) [(0, .ref (a 0)), (1, .int p0), (2, .int p1), (3, .int p2), (4, .int l4_6), (5, .int l5_6)] [] 6 := by
    intro n6
    induction n6 with
    | zero => intros; rename_i hf; cases hf
    | succ n6 ih =>
      intro l4_6 l5_6 hf
      have H6 := ih
      rw [F_X11_valueAt_L6] at hf
      have H30 : ∀ (n30 : Nat), ∀ (l4_30 : Int32) (l5_30 : Int32) (l6_30 : Int32) (l7_30 : Int32), F_X11_valueAt_L30 nodes p1 p2 (F_X11_valueAt_L6 g nodes p0 p1 p2 n6) n30 l4_30 l5_30 l6_30 l7_30 = some val → gW X Q 0 0 ((wM (x_y X) a thrown g saved hasSaved coef nodes nodeMany isDeep codes details levelMany given paper papered tape taped wrongAt at_ value readPlace readValue readEpoch)) [(0, .ref (a 0)), (1, .int p0), (2, .int p1), (3, .int p2), (4, .int l4_30), (5, .int l5_30), (6, .int l6_30), (7, .int l7_30)] [] 30 := by
        intro n30
        induction n30 with
        | zero => intros; rename_i hf; cases hf
        | succ n30 ih =>
          intro l4_30 l5_30 l6_30 l7_30 hf
          have H30 := ih
          rw [F_X11_valueAt_L30] at hf
          have H104 : ∀ (l4_104 : Int32) (l5_104 : Int32) (l6_104 : Int32) (l7_104 : Int32), F_X11_valueAt_L104 (F_X11_valueAt_L6 g nodes p0 p1 p2 n6) (F_X11_valueAt_L30 nodes p1 p2 (F_X11_valueAt_L6 g nodes p0 p1 p2 n6) n30) l4_104 l5_104 l6_104 l7_104 = some val → gW X Q 0 0 ((wM (x_y X) a thrown g saved hasSaved coef nodes nodeMany isDeep codes details levelMany given paper papered tape taped wrongAt at_ value readPlace readValue readEpoch)) [(0, .ref (a 0)), (1, .int p0), (2, .int p1), (3, .int p2), (4, .int l4_104), (5, .int l5_104), (6, .int l6_104), (7, .int l7_104)] [] 104 := by
            intro l4_104 l5_104 l6_104 l7_104 hf
            unfold F_X11_valueAt_L104 at hf
            refine g_iinc C 7 (v := l7_104 + 1) (lv' := [(7, .int (l7_104 + 1)), (0, .ref (a 0)), (1, .int p0), (2, .int p1), (3, .int p2), (4, .int l4_104), (5, .int l5_104), (6, .int l6_104)]) dX11_valueAt_104 rfl rfl (g_nlt hn rfl) rfl ?_
            refine g_goto C 30 dX11_valueAt_107 (by decide) ?_
            refine gW.locals [1, 2, 3, 4, 5, 6, 7, 0] rfl ?_
            exact H30 l4_104 l5_104 l6_104 (l7_104 + 1) hf
          refine g_iload C 7 dX11_valueAt_30 rfl ?_
          refine g_iload_n C 2 dX11_valueAt_32 rfl ?_
          refine g_icmp_ge C 110 dX11_valueAt_33 (by decide) (fun c5 => ?_) (fun c5 => ?_)
          · have hf := opt_pos c5 hf
            refine g_iload C 4 dX11_valueAt_110 rfl ?_
            refine g_iload C 6 dX11_valueAt_112 rfl ?_
            refine g_iadd C dX11_valueAt_114 ?_
            refine g_sipush C (v := 1019) dX11_valueAt_115 (by decide) ?_
            refine g_irem C dX11_valueAt_118 (by decide) ?_
            obtain ⟨x6, ex6, hf⟩ := opt_let hf
            refine g_topi ex6 ?_
            refine g_istore C (lv' := [(4, .int x6), (0, .ref (a 0)), (1, .int p0), (2, .int p1), (3, .int p2), (5, .int l5_30), (6, .int l6_30), (7, .int l7_30)]) dX11_valueAt_119 (g_nlt hn rfl) rfl ?_
            refine g_iinc C 5 (v := l5_30 + 1) (lv' := [(5, .int (l5_30 + 1)), (4, .int x6), (0, .ref (a 0)), (1, .int p0), (2, .int p1), (3, .int p2), (6, .int l6_30), (7, .int l7_30)]) dX11_valueAt_121 rfl rfl (g_nlt hn rfl) rfl ?_
            refine g_goto C 6 dX11_valueAt_124 (by decide) ?_
            refine gW.locals [2, 3, 4, 5, 1, 0] rfl ?_
            exact H6 x6 (l5_30 + 1) hf
          · have hf := opt_neg c5 hf
            refine g_iload C 7 dX11_valueAt_36 rfl ?_
            refine g_iload C 5 dX11_valueAt_38 rfl ?_
            refine g_icmp_eq C 104 dX11_valueAt_40 (by decide) (fun c7 => ?_) (fun c7 => ?_)
            · have hf := opt_pos c7 hf
              exact H104 l4_30 l5_30 l6_30 l7_30 hf
            · have hf := opt_neg c7 hf
              refine g_iload C 6 dX11_valueAt_43 rfl ?_
              refine g_iload_n C 3 dX11_valueAt_45 rfl ?_
              refine g_aload_n C 0 dX11_valueAt_46 rfl ?_
              refine g_get C 0 5 rfl rfl wiX11 (by decide) mw_6_189 rfl rfl dX11_valueAt_47 ?_
              refine g_iload C 7 dX11_valueAt_50 rfl ?_
              obtain ⟨c8, hf⟩ := gg_of hf
              refine g_iald C 4 rfl (gi_in c8) dX11_valueAt_52 ?_
              refine g_isub C dX11_valueAt_53 ?_
              refine g_sipush C (v := 1019) dX11_valueAt_54 (by decide) ?_
              refine g_iadd C dX11_valueAt_57 ?_
              refine g_sipush C (v := 1019) dX11_valueAt_58 (by decide) ?_
              refine g_irem C dX11_valueAt_61 (by decide) ?_
              obtain ⟨x9, ex9, hf⟩ := opt_let hf
              refine g_topi ex9 ?_
              refine g_imul C dX11_valueAt_62 ?_
              refine g_sipush C (v := 1019) dX11_valueAt_63 (by decide) ?_
              refine g_irem C dX11_valueAt_66 (by decide) ?_
              obtain ⟨x10, ex10, hf⟩ := opt_let hf
              refine g_topi ex10 ?_
              refine g_istore C (lv' := [(6, .int x10), (0, .ref (a 0)), (1, .int p0), (2, .int p1), (3, .int p2), (4, .int l4_30), (5, .int l5_30), (7, .int l7_30)]) dX11_valueAt_67 (g_nlt hn rfl) rfl ?_
              refine g_iload C 0 dX11_valueAt_69 rfl ?_
              refine g_aload_n C 1 dX11_valueAt_71 rfl ?_
              refine g_get C 0 5 rfl rfl wiX11 (by decide) mw_6_189 rfl rfl dX11_valueAt_72 ?_
              refine g_iload C 6 dX11_valueAt_75 rfl ?_
              obtain ⟨c11, hf⟩ := gg_of hf
              refine g_iald C 4 rfl (gi_in c11) dX11_valueAt_77 ?_
              refine g_aload_n C 1 dX11_valueAt_78 rfl ?_
              refine g_get C 0 5 rfl rfl wiX11 (by decide) mw_6_189 rfl rfl dX11_valueAt_79 ?_
              refine g_iload C 7 dX11_valueAt_82 rfl ?_
              obtain ⟨c12, hf⟩ := gg_of hf
              refine g_iald C 4 rfl (gi_in c12) dX11_valueAt_84 ?_
              refine g_isub C dX11_valueAt_85 ?_
              refine g_sipush C (v := 1019) dX11_valueAt_86 (by decide) ?_
              refine g_iadd C dX11_valueAt_89 ?_
              refine g_sipush C (v := 1019) dX11_valueAt_90 (by decide) ?_
              refine g_irem C dX11_valueAt_93 (by decide) ?_
              obtain ⟨x13, ex13, hf⟩ := opt_let hf
              refine g_topi ex13 ?_
              obtain ⟨v14, h15, hf⟩ := opt_bind hf
              refine g_callS C (c_X11_inverse (l := x_l X) (D := x_D X) (cy := x_y X) (p0 := x13) h15) (As := [.int x13]) (rest := [.int x10]) (wr := (wM (x_y X) a thrown g saved hasSaved coef nodes nodeMany isDeep codes details levelMany given paper papered tape taped wrongAt at_ value readPlace readValue readEpoch)) (ws' := fun _ => (wM (x_y X) a thrown g saved hasSaved coef nodes nodeMany isDeep codes details levelMany given paper papered tape taped wrongAt at_ value readPlace readValue readEpoch)) (st' := fun _ => [.int v14, .int x10]) 1 mw_7_187 mw_1_9 mw_7_185 mw_7_186 hd_X11_inverse rfl (g_rm hR rfl rfl) [] [0, 1, 2, 3, 4, 5, 6, 7, 8, 9] [0, 1, 2, 3, 4, 5, 6, 7, 8, 9] ⟨rfl, rfl, rfl, rfl, by decide, gRoIn_0, rfl, fun _ => rfl⟩ rfl (Nat.le_of_ble_eq_true rfl) dX11_valueAt_94 (g_rc hR (Nat.le_of_ble_eq_true rfl) (Nat.le_of_ble_eq_true rfl)) (ck' := 0) (sk' := 0) rfl rfl (fun _ => rfl) (fun _ _ => ?_) (fun _ hx => absurd rfl hx)
              refine g_imul C dX11_valueAt_97 ?_
              refine g_sipush C (v := 1019) dX11_valueAt_98 (by decide) ?_
              refine g_irem C dX11_valueAt_101 (by decide) ?_
              obtain ⟨x16, ex16, hf⟩ := opt_let hf
              refine g_topi ex16 ?_
              refine g_istore C (lv' := [(6, .int x16), (0, .ref (a 0)), (1, .int p0), (2, .int p1), (3, .int p2), (4, .int l4_30), (5, .int l5_30), (7, .int l7_30)]) dX11_valueAt_102 (g_nlt hn rfl) rfl ?_
              refine gW.locals [1, 2, 3, 4, 5, 6, 0, 7] rfl ?_
              exact H104 l4_30 l5_30 x16 l7_30 hf
      refine g_iload C 5 dX11_valueAt_6 rfl ?_
      refine g_iload_n C 2 dX11_valueAt_8 rfl ?_
      refine g_icmp_ge C 127 dX11_valueAt_9 (by decide) (fun c1 => ?_) (fun c1 => ?_)
      · have hf := opt_pos c1 hf
        refine g_iload C 4 dX11_valueAt_127 rfl ?_
        obtain rfl := Option.some.inj hf
        exact g_iret C E () dX11_valueAt_129 rfl rfl rfl (Nat.le_of_ble_eq_true rfl) (Nat.le_of_ble_eq_true rfl)
      · have hf := opt_neg c1 hf
        refine g_aload_n C 0 dX11_valueAt_12 rfl ?_
        refine g_iload_n C 1 dX11_valueAt_13 rfl ?_
        refine g_aload_n C 0 dX11_valueAt_14 rfl ?_
        refine g_get C 0 5 rfl rfl wiX11 (by decide) mw_6_189 rfl rfl dX11_valueAt_15 ?_
        refine g_iload C 5 dX11_valueAt_18 rfl ?_
        obtain ⟨c2, hf⟩ := gg_of hf
        refine g_iald C 4 rfl (gi_in c2) dX11_valueAt_20 ?_
        refine g_iconst C (v := 1) dX11_valueAt_21 (by decide) ?_
        obtain ⟨v3, h4, hf⟩ := opt_bind hf
        refine g_callV C (c_X11_shareOf (l := x_l X) (D := x_D X) (cy := x_y X) (a := a) (thrown := thrown) (g := g) (saved := saved) (hasSaved := hasSaved) (coef := coef) (nodes := nodes) (nodeMany := nodeMany) (isDeep := isDeep) (codes := codes) (details := details) (levelMany := levelMany) (given := given) (paper := paper) (papered := papered) (tape := tape) (taped := taped) (wrongAt := wrongAt) (at_ := at_) (value := value) (readPlace := readPlace) (readValue := readValue) (readEpoch := readEpoch) (p0 := p0) (p1 := nodes (Int32.toNatClampNeg l5_6)) (p2 := 1) h4) (As := [.int p0, .int (nodes (Int32.toNatClampNeg l5_6)), .int 1]) (rest := []) (wr := []) (ws' := fun _ => (wM (x_y X) a thrown g saved hasSaved coef nodes nodeMany isDeep codes details levelMany given paper papered tape taped wrongAt at_ value readPlace readValue readEpoch)) (st' := fun _ => [.int v3]) (ci := 12) 3 0 ⟨_, rfl⟩ rfl rfl mw_7_65 mw_1_9 mw_7_62 mw_7_64 mp_34 hd_X11_shareOf rfl (g_rm hR rfl rfl) [0, 1, 2, 3, 4, 5, 6, 7, 8, 9] [] [0, 1, 2, 3, 4, 5, 6, 7, 8, 9] ⟨rfl, rfl, rfl, rfl, by decide, gRoIn_0, rfl, fun _ => rfl⟩ rfl (Nat.le_of_ble_eq_true rfl) dX11_valueAt_22 (g_rc hR (Nat.le_of_ble_eq_true rfl) (Nat.le_of_ble_eq_true rfl)) (ck' := 0) (sk' := 0) rfl rfl (fun _ => rfl) (fun _ _ => ?_) (fun _ hx => absurd rfl hx)
        refine g_istore C (lv' := [(6, .int v3), (0, .ref (a 0)), (1, .int p0), (2, .int p1), (3, .int p2), (4, .int l4_6), (5, .int l5_6)]) dX11_valueAt_25 (g_nlt hn rfl) rfl ?_
        refine g_iconst C (v := 0) dX11_valueAt_27 (by decide) ?_
        refine g_istore C (lv' := [(7, .int 0), (6, .int v3), (0, .ref (a 0)), (1, .int p0), (2, .int p1), (3, .int p2), (4, .int l4_6), (5, .int l5_6)]) dX11_valueAt_28 (g_nlt hn rfl) rfl ?_
        refine gW.locals [2, 3, 4, 5, 6, 7, 1, 0] rfl ?_
        exact H30 1000 l4_6 l5_6 v3 0 hf
  show gW X Q 0 0 ((wM (x_y X) a thrown g saved hasSaved coef nodes nodeMany isDeep codes details levelMany given paper papered tape taped wrongAt at_ value readPlace readValue readEpoch)) [(0, .ref (a 0)), (1, .int p0), (2, .int p1), (3, .int p2)] [] 0
  refine g_iconst C (v := 0) dX11_valueAt_0 (by decide) ?_
  refine g_istore C (lv' := [(4, .int 0), (0, .ref (a 0)), (1, .int p0), (2, .int p1), (3, .int p2)]) dX11_valueAt_1 (g_nlt hn rfl) rfl ?_
  refine g_iconst C (v := 0) dX11_valueAt_3 (by decide) ?_
  refine g_istore C (lv' := [(5, .int 0), (4, .int 0), (0, .ref (a 0)), (1, .int p0), (2, .int p1), (3, .int p2)]) dX11_valueAt_4 (g_nlt hn rfl) rfl ?_
  refine gW.locals [2, 3, 4, 5, 1, 0] rfl ?_
  exact H6 1000 0 0 hf
/-! X11_tellNodes -/
theorem hd_X11_tellNodes : yX11_tellNodes.cls ≠ "java/lang/invoke/MethodHandle" ∧ yX11_tellNodes.cls ≠ "java/lang/invoke/VarHandle" ∧ (parseMethodDescriptor yX11_tellNodes.desc).map (fun d => d.parameters.length) = some 3 := by decide +kernel
def F_X11_tellNodes_L73  (K8 : (Nat → Int32) → Int32 → Int32 → Option ((Nat → Int32) × Int32)) (nodes_73 : Nat → Int32) (nodeMany_73 : Int32) (l4_73 : Int32) : Option ((Nat → Int32) × Int32) := K8 nodes_73 nodeMany_73 (l4_73 + 1)
def F_X11_tellNodes_L52  (K8 : (Nat → Int32) → Int32 → Int32 → Option ((Nat → Int32) × Int32)) (nodes_52 : Nat → Int32) (nodeMany_52 : Int32) (l4_52 : Int32) : Option ((Nat → Int32) × Int32) := gg (gi nodeMany_52 24) (gl (upd nodes_52 (Int32.toNatClampNeg nodeMany_52) l4_52) fun f10 => F_X11_tellNodes_L73 K8 f10 (nodeMany_52 + 1) l4_52)
def F_X11_tellNodes_L8 (g : Nat → Int32) (p0 : Int32) (p1 : Int32) (p2 : Int32)  : Nat → (Nat → Int32) → Int32 → Int32 → Option ((Nat → Int32) × Int32)
  | 0, _, _, _ => none
  | n + 1, nodes_8, nodeMany_8, l4_8 => if 24 < l4_8 then (some (nodes_8, nodeMany_8)) else ((F_X11_owner l4_8).bind fun v2 => if ((p1 >>> (v2 &&& 31)) &&& 1) = 1 then ((F_X11_hasShare g p0 l4_8).bind fun v5 => if v5 = 0 then (F_X11_tellNodes_L73 (F_X11_tellNodes_L8 g p0 p1 p2 n) nodes_8 nodeMany_8 l4_8) else (if p2 = 0 then (F_X11_tellNodes_L52 (F_X11_tellNodes_L8 g p0 p1 p2 n) nodes_8 nodeMany_8 l4_8) else ((F_X11_stateOf g p0 l4_8).bind fun v11 => if v11 = 0 then (F_X11_tellNodes_L52 (F_X11_tellNodes_L8 g p0 p1 p2 n) nodes_8 nodeMany_8 l4_8) else (F_X11_tellNodes_L73 (F_X11_tellNodes_L8 g p0 p1 p2 n) nodes_8 nodeMany_8 l4_8)))) else (F_X11_tellNodes_L73 (F_X11_tellNodes_L8 g p0 p1 p2 n) nodes_8 nodeMany_8 l4_8))
def F_X11_tellNodes (g : Nat → Int32) (nodes : Nat → Int32) (nodeMany : Int32) (p0 : Int32) (p1 : Int32) (p2 : Int32) : Option ((Nat → Int32) × Int32) := F_X11_tellNodes_L8 g p0 p1 p2 1000 nodes 0 1
set_option maxRecDepth 100000 in
set_option maxHeartbeats 4000000 in
theorem c_X11_tellNodes {l : Launch} {D : va_G} {cy : Nat → ClassId} {a : Nat → Nat} {thrown : Int32} {g : Nat → Int32} {saved : Nat → Int32} {hasSaved : Int32} {coef : Nat → Int32} {nodes : Nat → Int32} {nodeMany : Int32} {isDeep : Int32} {codes : Nat → Int32} {details : Nat → Int32} {levelMany : Int32} {given : Nat → Int32} {paper : Nat → Int32} {papered : Int32} {tape : Nat → Int32} {taped : Int32} {wrongAt : Int32} {at_ : Int32} {value : Int32} {readPlace : Int32} {readValue : Int32} {readEpoch : Int32} {p0 : Int32} {p1 : Int32} {p2 : Int32}  {val : (Nat → Int32) × Int32} (hf : F_X11_tellNodes g nodes nodeMany p0 p1 p2 = some val) : gCt l D cy yX11_tellNodes cX11_tellNodes 5 none 3 70 0 0 [.ref (a 0), .int p0, .int p1, .int p2] [] ((wM cy a thrown g saved hasSaved coef nodes nodeMany isDeep codes details levelMany given paper papered tape taped wrongAt at_ value readPlace readValue readEpoch)) 0 (fun _ : Unit => none) (fun _ => (wM cy a thrown g saved hasSaved coef val.1 val.2 isDeep codes details levelMany given paper papered tape taped wrongAt at_ value readPlace readValue readEpoch)) := by
  refine g_begin (by decide +kernel) (Nat.le_of_ble_eq_true rfl) ?_
  intro X Q hl hR hD hy hro hn C hin E
  subst hl; subst hD; subst hy
  replace C : gC X "SecretVaultModel" cX11_tellNodes none := C
  unfold F_X11_tellNodes at hf
  have H8 : ∀ (n8 : Nat), ∀ (nodes_8 : Nat → Int32) (nodeMany_8 : Int32) (l4_8 : Int32), F_X11_tellNodes_L8 g p0 p1 p2 n8 nodes_8 nodeMany_8 l4_8 = some val → gW X Q 0 0 ((wM (x_y X) a thrown g saved hasSaved coef nodes_8 nodeMany_8 isDeep codes details levelMany given paper papered tape taped wrongAt at_ value readPlace readValue readEpoch)) [(0, .ref (a 0)), (1, .int p0), (2, .int p1), (3, .int p2), (4, .int l4_8)] [] 8 := by
    intro n8
    induction n8 with
    | zero => intros; rename_i hf; cases hf
    | succ n8 ih =>
      intro nodes_8 nodeMany_8 l4_8 hf
      have H8 := ih
      rw [F_X11_tellNodes_L8] at hf
      have H73 : ∀ (nodes_73 : Nat → Int32) (nodeMany_73 : Int32) (l4_73 : Int32), F_X11_tellNodes_L73 (F_X11_tellNodes_L8 g p0 p1 p2 n8) nodes_73 nodeMany_73 l4_73 = some val → gW X Q 0 0 ((wM (x_y X) a thrown g saved hasSaved coef nodes_73 nodeMany_73 isDeep codes details levelMany given paper papered tape taped wrongAt at_ value readPlace readValue readEpoch)) [(0, .ref (a 0)), (1, .int p0), (2, .int p1), (3, .int p2), (4, .int l4_73)] [] 73 := by
        intro nodes_73 nodeMany_73 l4_73 hf
        unfold F_X11_tellNodes_L73 at hf
        refine g_iinc C 4 (v := l4_73 + 1) (lv' := [(4, .int (l4_73 + 1)), (0, .ref (a 0)), (1, .int p0), (2, .int p1), (3, .int p2)]) dX11_tellNodes_73 rfl rfl (g_nlt hn rfl) rfl ?_
        refine g_goto C 8 dX11_tellNodes_76 (by decide) ?_
        refine gW.locals [1, 2, 3, 4, 0] rfl ?_
        exact H8 nodes_73 nodeMany_73 (l4_73 + 1) hf
      have H52 : ∀ (nodes_52 : Nat → Int32) (nodeMany_52 : Int32) (l4_52 : Int32), F_X11_tellNodes_L52 (F_X11_tellNodes_L8 g p0 p1 p2 n8) nodes_52 nodeMany_52 l4_52 = some val → gW X Q 0 0 ((wM (x_y X) a thrown g saved hasSaved coef nodes_52 nodeMany_52 isDeep codes details levelMany given paper papered tape taped wrongAt at_ value readPlace readValue readEpoch)) [(0, .ref (a 0)), (1, .int p0), (2, .int p1), (3, .int p2), (4, .int l4_52)] [] 52 := by
        intro nodes_52 nodeMany_52 l4_52 hf
        unfold F_X11_tellNodes_L52 at hf
        refine g_aload_n C 0 dX11_tellNodes_52 rfl ?_
        refine g_get C 0 5 rfl rfl wiX11 (by decide) mw_6_189 rfl rfl dX11_tellNodes_53 ?_
        refine g_aload_n C 0 dX11_tellNodes_56 rfl ?_
        refine g_get C 0 6 rfl rfl wiX11 (by decide) mw_6_190 rfl rfl dX11_tellNodes_57 ?_
        refine g_iload C 4 dX11_tellNodes_60 rfl ?_
        obtain ⟨c9, hf⟩ := gg_of hf
        obtain ⟨f10, ef10, hf⟩ := opt_let hf
        refine g_iast C (ws' := (wM (x_y X) a thrown g saved hasSaved coef f10 nodeMany_52 isDeep codes details levelMany given paper papered tape taped wrongAt at_ value readPlace readValue readEpoch)) 4 rfl (gi_in c9) (by rw [ef10]; rfl) dX11_tellNodes_62 ?_
        refine g_aload_n C 0 dX11_tellNodes_63 rfl ?_
        refine g_dup C dX11_tellNodes_64 rfl ?_
        refine g_get C 0 6 rfl rfl wiX11 (by decide) mw_6_190 rfl rfl dX11_tellNodes_65 ?_
        refine g_iconst C (v := 1) dX11_tellNodes_68 (by decide) ?_
        refine g_iadd C dX11_tellNodes_69 ?_
        refine g_put C (ws' := (wM (x_y X) a thrown g saved hasSaved coef f10 (nodeMany_52 + 1) isDeep codes details levelMany given paper papered tape taped wrongAt at_ value readPlace readValue readEpoch)) 0 6 rfl rfl wiX11 (by decide) tyX11_ok nmX11 mw_6_190 rfl rfl rfl rfl (Nat.le_of_ble_eq_true rfl) rfl dX11_tellNodes_70 ?_
        exact H73 f10 (nodeMany_52 + 1) l4_52 hf
      refine g_iload C 4 dX11_tellNodes_8 rfl ?_
      refine g_bipush C (v := 24) dX11_tellNodes_10 (by decide) ?_
      refine g_icmp_gt C 79 dX11_tellNodes_12 (by decide) (fun c1 => ?_) (fun c1 => ?_)
      · have hf := opt_pos c1 hf
        obtain rfl := Option.some.inj hf
        exact g_vret C E () dX11_tellNodes_79 rfl rfl rfl (Nat.le_of_ble_eq_true rfl) (Nat.le_of_ble_eq_true rfl)
      · have hf := opt_neg c1 hf
        refine g_iload_n C 2 dX11_tellNodes_15 rfl ?_
        refine g_iload C 4 dX11_tellNodes_16 rfl ?_
        obtain ⟨v2, h3, hf⟩ := opt_bind hf
        refine g_callS C (c_X11_owner (l := x_l X) (D := x_D X) (cy := x_y X) (p0 := l4_8) h3) (As := [.int l4_8]) (rest := [.int p1]) (wr := (wM (x_y X) a thrown g saved hasSaved coef nodes_8 nodeMany_8 isDeep codes details levelMany given paper papered tape taped wrongAt at_ value readPlace readValue readEpoch)) (ws' := fun _ => (wM (x_y X) a thrown g saved hasSaved coef nodes_8 nodeMany_8 isDeep codes details levelMany given paper papered tape taped wrongAt at_ value readPlace readValue readEpoch)) (st' := fun _ => [.int v2, .int p1]) 1 mw_7_102 mw_1_9 mw_7_100 mw_7_101 hd_X11_owner rfl (g_rm hR rfl rfl) [] [0, 1, 2, 3, 4, 5, 6, 7, 8, 9] [0, 1, 2, 3, 4, 5, 6, 7, 8, 9] ⟨rfl, rfl, rfl, rfl, by decide, gRoIn_0, rfl, fun _ => rfl⟩ rfl (Nat.le_of_ble_eq_true rfl) dX11_tellNodes_18 (g_rc hR (Nat.le_of_ble_eq_true rfl) (Nat.le_of_ble_eq_true rfl)) (ck' := 0) (sk' := 0) rfl rfl (fun _ => rfl) (fun _ _ => ?_) (fun _ hx => absurd rfl hx)
        refine g_ishr C dX11_tellNodes_21 ?_
        refine g_iconst C (v := 1) dX11_tellNodes_22 (by decide) ?_
        refine g_iand C dX11_tellNodes_23 ?_
        refine g_iconst C (v := 1) dX11_tellNodes_24 (by decide) ?_
        refine g_icmp_ne C 73 dX11_tellNodes_25 (by decide) (fun c4 => ?_) (fun c4 => ?_)
        · have hf := opt_neg c4 hf
          exact H73 nodes_8 nodeMany_8 l4_8 hf
        · have hf := opt_pos c4 hf
          refine g_aload_n C 0 dX11_tellNodes_28 rfl ?_
          refine g_iload_n C 1 dX11_tellNodes_29 rfl ?_
          refine g_iload C 4 dX11_tellNodes_30 rfl ?_
          obtain ⟨v5, h6, hf⟩ := opt_bind hf
          refine g_callV C (c_X11_hasShare (l := x_l X) (D := x_D X) (cy := x_y X) (a := a) (thrown := thrown) (g := g) (saved := saved) (hasSaved := hasSaved) (coef := coef) (nodes := nodes_8) (nodeMany := nodeMany_8) (isDeep := isDeep) (codes := codes) (details := details) (levelMany := levelMany) (given := given) (paper := paper) (papered := papered) (tape := tape) (taped := taped) (wrongAt := wrongAt) (at_ := at_) (value := value) (readPlace := readPlace) (readValue := readValue) (readEpoch := readEpoch) (p0 := p0) (p1 := l4_8) h6) (As := [.int p0, .int l4_8]) (rest := []) (wr := []) (ws' := fun _ => (wM (x_y X) a thrown g saved hasSaved coef nodes_8 nodeMany_8 isDeep codes details levelMany given paper papered tape taped wrongAt at_ value readPlace readValue readEpoch)) (st' := fun _ => [.int v5]) (ci := 12) 2 0 ⟨_, rfl⟩ rfl rfl mw_7_61 mw_1_9 mw_7_58 mw_7_60 mp_33 hd_X11_hasShare rfl (g_rm hR rfl rfl) [0, 1, 2, 3, 4, 5, 6, 7, 8, 9] [] [0, 1, 2, 3, 4, 5, 6, 7, 8, 9] ⟨rfl, rfl, rfl, rfl, by decide, gRoIn_0, rfl, fun _ => rfl⟩ rfl (Nat.le_of_ble_eq_true rfl) dX11_tellNodes_32 (g_rc hR (Nat.le_of_ble_eq_true rfl) (Nat.le_of_ble_eq_true rfl)) (ck' := 0) (sk' := 0) rfl rfl (fun _ => rfl) (fun _ _ => ?_) (fun _ hx => absurd rfl hx)
          refine g_if_eq C 73 dX11_tellNodes_35 (by decide) (fun c7 => ?_) (fun c7 => ?_)
          · have hf := opt_pos c7 hf
            exact H73 nodes_8 nodeMany_8 l4_8 hf
          · have hf := opt_neg c7 hf
            refine g_iload_n C 3 dX11_tellNodes_38 rfl ?_
            refine g_if_eq C 52 dX11_tellNodes_39 (by decide) (fun c8 => ?_) (fun c8 => ?_)
            · have hf := opt_pos c8 hf
              exact H52 nodes_8 nodeMany_8 l4_8 hf
            · have hf := opt_neg c8 hf
              refine g_aload_n C 0 dX11_tellNodes_42 rfl ?_
              refine g_iload_n C 1 dX11_tellNodes_43 rfl ?_
              refine g_iload C 4 dX11_tellNodes_44 rfl ?_
              obtain ⟨v11, h12, hf⟩ := opt_bind hf
              refine g_callV C (c_X11_stateOf (l := x_l X) (D := x_D X) (cy := x_y X) (a := a) (thrown := thrown) (g := g) (saved := saved) (hasSaved := hasSaved) (coef := coef) (nodes := nodes_8) (nodeMany := nodeMany_8) (isDeep := isDeep) (codes := codes) (details := details) (levelMany := levelMany) (given := given) (paper := paper) (papered := papered) (tape := tape) (taped := taped) (wrongAt := wrongAt) (at_ := at_) (value := value) (readPlace := readPlace) (readValue := readValue) (readEpoch := readEpoch) (p0 := p0) (p1 := l4_8) h12) (As := [.int p0, .int l4_8]) (rest := []) (wr := []) (ws' := fun _ => (wM (x_y X) a thrown g saved hasSaved coef nodes_8 nodeMany_8 isDeep codes details levelMany given paper papered tape taped wrongAt at_ value readPlace readValue readEpoch)) (st' := fun _ => [.int v11]) (ci := 12) 2 0 ⟨_, rfl⟩ rfl rfl mw_7_73 mw_1_9 mw_7_70 mw_7_72 mp_36 hd_X11_stateOf rfl (g_rm hR rfl rfl) [0, 1, 2, 3, 4, 5, 6, 7, 8, 9] [] [0, 1, 2, 3, 4, 5, 6, 7, 8, 9] ⟨rfl, rfl, rfl, rfl, by decide, gRoIn_0, rfl, fun _ => rfl⟩ rfl (Nat.le_of_ble_eq_true rfl) dX11_tellNodes_46 (g_rc hR (Nat.le_of_ble_eq_true rfl) (Nat.le_of_ble_eq_true rfl)) (ck' := 0) (sk' := 0) rfl rfl (fun _ => rfl) (fun _ _ => ?_) (fun _ hx => absurd rfl hx)
              refine g_if_ne C 73 dX11_tellNodes_49 (by decide) (fun c13 => ?_) (fun c13 => ?_)
              · have hf := opt_neg c13 hf
                exact H73 nodes_8 nodeMany_8 l4_8 hf
              · have hf := opt_pos c13 hf
                exact H52 nodes_8 nodeMany_8 l4_8 hf
  show gW X Q 0 0 ((wM (x_y X) a thrown g saved hasSaved coef nodes nodeMany isDeep codes details levelMany given paper papered tape taped wrongAt at_ value readPlace readValue readEpoch)) [(0, .ref (a 0)), (1, .int p0), (2, .int p1), (3, .int p2)] [] 0
  refine g_aload_n C 0 dX11_tellNodes_0 rfl ?_
  refine g_iconst C (v := 0) dX11_tellNodes_1 (by decide) ?_
  refine g_put C (ws' := (wM (x_y X) a thrown g saved hasSaved coef nodes 0 isDeep codes details levelMany given paper papered tape taped wrongAt at_ value readPlace readValue readEpoch)) 0 6 rfl rfl wiX11 (by decide) tyX11_ok nmX11 mw_6_190 rfl rfl rfl rfl (Nat.le_of_ble_eq_true rfl) rfl dX11_tellNodes_2 ?_
  refine g_iconst C (v := 1) dX11_tellNodes_5 (by decide) ?_
  refine g_istore C (lv' := [(4, .int 1), (0, .ref (a 0)), (1, .int p0), (2, .int p1), (3, .int p2)]) dX11_tellNodes_6 (g_nlt hn rfl) rfl ?_
  refine gW.locals [1, 2, 3, 4, 0] rfl ?_
  exact H8 1000 nodes 0 1 hf
/-! X11_next -/
theorem hd_X11_next : yX11_next.cls ≠ "java/lang/invoke/MethodHandle" ∧ yX11_next.cls ≠ "java/lang/invoke/VarHandle" ∧ (parseMethodDescriptor yX11_next.desc).map (fun d => d.parameters.length) = some 4 := by decide +kernel
def F_X11_next_L64  (K6 : Int32 → Int32 → Option (Int32)) (l6_64 : Int32) (s0_64 : Int32) (s1_64 : Int32) : Option (Int32) := K6 (s1_64 + s0_64) (l6_64 + 1)
def F_X11_next_L39  (K6 : Int32 → Int32 → Option (Int32)) (l5_39 : Int32) (l6_39 : Int32) (l7_39 : Int32) : Option (Int32) := if l7_39 = 40 then (F_X11_next_L64 K6 l6_39 1 l5_39) else (if l7_39 = 41 then (F_X11_next_L64 K6 l6_39 (-1) l5_39) else (F_X11_next_L64 K6 l6_39 0 l5_39))
def F_X11_next_L6 (g : Nat → Int32) (p0 : Int32) (p2 : Int32) (p3 : Int32)  : Nat → Int32 → Int32 → Option (Int32)
  | 0, _, _ => none
  | n + 1, l5_6, l6_6 => if p2 ≤ l6_6 then (some p2) else ((F_X11_of g p0 ((12 : Int32) + l6_6)).bind fun v2 => if l5_6 = 0 then (if v2 = p3 then (some l6_6) else (F_X11_next_L39 (F_X11_next_L6 g p0 p2 p3 n) l5_6 l6_6 v2)) else (F_X11_next_L39 (F_X11_next_L6 g p0 p2 p3 n) l5_6 l6_6 v2))
def F_X11_next (g : Nat → Int32) (p0 : Int32) (p1 : Int32) (p2 : Int32) (p3 : Int32) : Option (Int32) := F_X11_next_L6 g p0 p2 p3 1000 0 p1
set_option maxRecDepth 100000 in
set_option maxHeartbeats 4000000 in
theorem c_X11_next {l : Launch} {D : va_G} {cy : Nat → ClassId} {a : Nat → Nat} {thrown : Int32} {g : Nat → Int32} {saved : Nat → Int32} {hasSaved : Int32} {coef : Nat → Int32} {nodes : Nat → Int32} {nodeMany : Int32} {isDeep : Int32} {codes : Nat → Int32} {details : Nat → Int32} {levelMany : Int32} {given : Nat → Int32} {paper : Nat → Int32} {papered : Int32} {tape : Nat → Int32} {taped : Int32} {wrongAt : Int32} {at_ : Int32} {value : Int32} {readPlace : Int32} {readValue : Int32} {readEpoch : Int32} {p0 : Int32} {p1 : Int32} {p2 : Int32} {p3 : Int32}  {val : Int32} (hf : F_X11_next g p0 p1 p2 p3 = some val) : gCt l D cy yX11_next cX11_next 8 (some .int) 1 22 0 0 [.ref (a 0), .int p0, .int p1, .int p2, .int p3] [] ((wM cy a thrown g saved hasSaved coef nodes nodeMany isDeep codes details levelMany given paper papered tape taped wrongAt at_ value readPlace readValue readEpoch)) 0 (fun _ : Unit => some (.int val)) (fun _ => (wM cy a thrown g saved hasSaved coef nodes nodeMany isDeep codes details levelMany given paper papered tape taped wrongAt at_ value readPlace readValue readEpoch)) := by
  refine g_begin (by decide +kernel) (Nat.le_of_ble_eq_true rfl) ?_
  intro X Q hl hR hD hy hro hn C hin E
  subst hl; subst hD; subst hy
  replace C : gC X "SecretVaultModel" cX11_next (some .int) := C
  unfold F_X11_next at hf
  have H6 : ∀ (n6 : Nat), ∀ (l5_6 : Int32) (l6_6 : Int32), F_X11_next_L6 g p0 p2 p3 n6 l5_6 l6_6 = some val → gW X Q 0 0 ((wM (x_y X) a thrown g saved hasSaved coef nodes nodeMany isDeep codes details levelMany given paper papered tape taped wrongAt at_ value readPlace readValue readEpoch)) [(0, .ref (a 0)), (1, .int p0), (2, .int p1), (3, .int p2), (4, .int p3), (5, .int l5_6), (6, .int l6_6)] [] 6 := by
    intro n6
    induction n6 with
    | zero => intros; rename_i hf; cases hf
    | succ n6 ih =>
      intro l5_6 l6_6 hf
      have H6 := ih
      rw [F_X11_next_L6] at hf
      have H64 : ∀ (l6_64 : Int32) (s0_64 : Int32) (s1_64 : Int32), F_X11_next_L64 (F_X11_next_L6 g p0 p2 p3 n6) l6_64 s0_64 s1_64 = some val → gW X Q 0 0 ((wM (x_y X) a thrown g saved hasSaved coef nodes nodeMany isDeep codes details levelMany given paper papered tape taped wrongAt at_ value readPlace readValue readEpoch)) [(0, .ref (a 0)), (1, .int p0), (2, .int p1), (3, .int p2), (4, .int p3), (6, .int l6_64)] [.int s0_64, .int s1_64] 64 := by
        intro l6_64 s0_64 s1_64 hf
        unfold F_X11_next_L64 at hf
        refine g_iadd C dX11_next_64 ?_
        refine g_istore C (lv' := [(5, .int (s1_64 + s0_64)), (0, .ref (a 0)), (1, .int p0), (2, .int p1), (3, .int p2), (4, .int p3), (6, .int l6_64)]) dX11_next_65 (g_nlt hn rfl) rfl ?_
        refine g_iinc C 6 (v := l6_64 + 1) (lv' := [(6, .int (l6_64 + 1)), (5, .int (s1_64 + s0_64)), (0, .ref (a 0)), (1, .int p0), (2, .int p1), (3, .int p2), (4, .int p3)]) dX11_next_67 rfl rfl (g_nlt hn rfl) rfl ?_
        refine g_goto C 6 dX11_next_70 (by decide) ?_
        refine gW.locals [2, 3, 4, 5, 6, 1, 0] rfl ?_
        exact H6 (s1_64 + s0_64) (l6_64 + 1) hf
      have H39 : ∀ (l5_39 : Int32) (l6_39 : Int32) (l7_39 : Int32), F_X11_next_L39 (F_X11_next_L6 g p0 p2 p3 n6) l5_39 l6_39 l7_39 = some val → gW X Q 0 0 ((wM (x_y X) a thrown g saved hasSaved coef nodes nodeMany isDeep codes details levelMany given paper papered tape taped wrongAt at_ value readPlace readValue readEpoch)) [(0, .ref (a 0)), (1, .int p0), (2, .int p1), (3, .int p2), (4, .int p3), (5, .int l5_39), (6, .int l6_39), (7, .int l7_39)] [] 39 := by
        intro l5_39 l6_39 l7_39 hf
        unfold F_X11_next_L39 at hf
        refine g_iload C 5 dX11_next_39 rfl ?_
        refine g_iload C 7 dX11_next_41 rfl ?_
        refine g_bipush C (v := 40) dX11_next_43 (by decide) ?_
        refine g_icmp_ne C 52 dX11_next_45 (by decide) (fun c5 => ?_) (fun c5 => ?_)
        · have hf := opt_neg c5 hf
          refine g_iload C 7 dX11_next_52 rfl ?_
          refine g_bipush C (v := 41) dX11_next_54 (by decide) ?_
          refine g_icmp_ne C 63 dX11_next_56 (by decide) (fun c6 => ?_) (fun c6 => ?_)
          · have hf := opt_neg c6 hf
            refine g_iconst C (v := 0) dX11_next_63 (by decide) ?_
            refine gW.locals [0, 1, 2, 3, 4, 6] rfl ?_
            exact H64 l6_39 0 l5_39 hf
          · have hf := opt_pos c6 hf
            refine g_iconst C (v := (-1)) dX11_next_59 (by decide) ?_
            refine g_goto C 64 dX11_next_60 (by decide) ?_
            refine gW.locals [0, 1, 2, 3, 4, 6] rfl ?_
            exact H64 l6_39 (-1) l5_39 hf
        · have hf := opt_pos c5 hf
          refine g_iconst C (v := 1) dX11_next_48 (by decide) ?_
          refine g_goto C 64 dX11_next_49 (by decide) ?_
          refine gW.locals [0, 1, 2, 3, 4, 6] rfl ?_
          exact H64 l6_39 1 l5_39 hf
      refine g_iload C 6 dX11_next_6 rfl ?_
      refine g_iload_n C 3 dX11_next_8 rfl ?_
      refine g_icmp_ge C 73 dX11_next_9 (by decide) (fun c1 => ?_) (fun c1 => ?_)
      · have hf := opt_pos c1 hf
        refine g_iload_n C 3 dX11_next_73 rfl ?_
        obtain rfl := Option.some.inj hf
        exact g_iret C E () dX11_next_74 rfl rfl rfl (Nat.le_of_ble_eq_true rfl) (Nat.le_of_ble_eq_true rfl)
      · have hf := opt_neg c1 hf
        refine g_aload_n C 0 dX11_next_12 rfl ?_
        refine g_iload_n C 1 dX11_next_13 rfl ?_
        refine g_bipush C (v := 12) dX11_next_14 (by decide) ?_
        refine g_iload C 6 dX11_next_16 rfl ?_
        refine g_iadd C dX11_next_18 ?_
        obtain ⟨v2, h3, hf⟩ := opt_bind hf
        refine g_callV C (c_X11_of (l := x_l X) (D := x_D X) (cy := x_y X) (a := a) (thrown := thrown) (g := g) (saved := saved) (hasSaved := hasSaved) (coef := coef) (nodes := nodes) (nodeMany := nodeMany) (isDeep := isDeep) (codes := codes) (details := details) (levelMany := levelMany) (given := given) (paper := paper) (papered := papered) (tape := tape) (taped := taped) (wrongAt := wrongAt) (at_ := at_) (value := value) (readPlace := readPlace) (readValue := readValue) (readEpoch := readEpoch) (p0 := p0) (p1 := (12 : Int32) + l6_6) h3) (As := [.int p0, .int ((12 : Int32) + l6_6)]) (rest := []) (wr := []) (ws' := fun _ => (wM (x_y X) a thrown g saved hasSaved coef nodes nodeMany isDeep codes details levelMany given paper papered tape taped wrongAt at_ value readPlace readValue readEpoch)) (st' := fun _ => [.int v2]) (ci := 12) 2 0 ⟨_, rfl⟩ rfl rfl mw_7_69 mw_1_9 mw_7_66 mw_7_68 mp_35 hd_X11_of rfl (g_rm hR rfl rfl) [0, 1, 2, 3, 4, 5, 6, 7, 8, 9] [] [0, 1, 2, 3, 4, 5, 6, 7, 8, 9] ⟨rfl, rfl, rfl, rfl, by decide, gRoIn_0, rfl, fun _ => rfl⟩ rfl (Nat.le_of_ble_eq_true rfl) dX11_next_19 (g_rc hR (Nat.le_of_ble_eq_true rfl) (Nat.le_of_ble_eq_true rfl)) (ck' := 0) (sk' := 0) rfl rfl (fun _ => rfl) (fun _ _ => ?_) (fun _ hx => absurd rfl hx)
        refine g_istore C (lv' := [(7, .int v2), (0, .ref (a 0)), (1, .int p0), (2, .int p1), (3, .int p2), (4, .int p3), (5, .int l5_6), (6, .int l6_6)]) dX11_next_22 (g_nlt hn rfl) rfl ?_
        refine g_iload C 6 dX11_next_24 rfl ?_
        refine g_if_ne C 39 dX11_next_26 (by decide) (fun c4 => ?_) (fun c4 => ?_)
        · have hf := opt_neg c4 hf
          refine gW.locals [1, 2, 3, 4, 5, 6, 7, 0] rfl ?_
          exact H39 l5_6 l6_6 v2 hf
        · have hf := opt_pos c4 hf
          refine g_iload C 0 dX11_next_29 rfl ?_
          refine g_iload C 5 dX11_next_31 rfl ?_
          refine g_icmp_ne C 39 dX11_next_33 (by decide) (fun c7 => ?_) (fun c7 => ?_)
          · have hf := opt_neg c7 hf
            refine gW.locals [1, 2, 3, 4, 5, 6, 7, 0] rfl ?_
            exact H39 l5_6 l6_6 v2 hf
          · have hf := opt_pos c7 hf
            refine g_iload C 7 dX11_next_36 rfl ?_
            obtain rfl := Option.some.inj hf
            exact g_iret C E () dX11_next_38 rfl rfl rfl (Nat.le_of_ble_eq_true rfl) (Nat.le_of_ble_eq_true rfl)
  show gW X Q 0 0 ((wM (x_y X) a thrown g saved hasSaved coef nodes nodeMany isDeep codes details levelMany given paper papered tape taped wrongAt at_ value readPlace readValue readEpoch)) [(0, .ref (a 0)), (1, .int p0), (2, .int p1), (3, .int p2), (4, .int p3)] [] 0
  refine g_iconst C (v := 0) dX11_next_0 (by decide) ?_
  refine g_istore C (lv' := [(5, .int 0), (0, .ref (a 0)), (1, .int p0), (2, .int p1), (3, .int p2), (4, .int p3)]) dX11_next_1 (g_nlt hn rfl) rfl ?_
  refine g_iload_n C 3 dX11_next_3 rfl ?_
  refine g_istore C (lv' := [(6, .int p1), (5, .int 0), (0, .ref (a 0)), (1, .int p0), (2, .int p1), (3, .int p2), (4, .int p3)]) dX11_next_4 (g_nlt hn rfl) rfl ?_
  refine gW.locals [2, 3, 4, 5, 6, 1, 0] rfl ?_
  exact H6 1000 0 p1 hf
/-! X11_isCount -/
theorem hd_X11_isCount : yX11_isCount.cls ≠ "java/lang/invoke/MethodHandle" ∧ yX11_isCount.cls ≠ "java/lang/invoke/VarHandle" ∧ (parseMethodDescriptor yX11_isCount.desc).map (fun d => d.parameters.length) = some 3 := by decide +kernel
def F_X11_isCount_L28   (s0_28 : Int32) : Option (Int32) := gg (gnar .boolean s0_28) (some s0_28)
def F_X11_isCount_L27    : Option (Int32) := F_X11_isCount_L28 0
def F_X11_isCount (g : Nat → Int32) (p0 : Int32) (p1 : Int32) (p2 : Int32) : Option (Int32) := if p2 ≤ (p1 + 1) then (F_X11_isCount_L27 ) else ((F_X11_of g p0 (((12 : Int32) + p1) + 1)).bind fun v3 => if v3 = 111 then (F_X11_isCount_L28 1) else (F_X11_isCount_L27 ))
set_option maxRecDepth 100000 in
set_option maxHeartbeats 4000000 in
theorem c_X11_isCount {l : Launch} {D : va_G} {cy : Nat → ClassId} {a : Nat → Nat} {thrown : Int32} {g : Nat → Int32} {saved : Nat → Int32} {hasSaved : Int32} {coef : Nat → Int32} {nodes : Nat → Int32} {nodeMany : Int32} {isDeep : Int32} {codes : Nat → Int32} {details : Nat → Int32} {levelMany : Int32} {given : Nat → Int32} {paper : Nat → Int32} {papered : Int32} {tape : Nat → Int32} {taped : Int32} {wrongAt : Int32} {at_ : Int32} {value : Int32} {readPlace : Int32} {readValue : Int32} {readEpoch : Int32} {p0 : Int32} {p1 : Int32} {p2 : Int32}  {val : Int32} (hf : F_X11_isCount g p0 p1 p2 = some val) : gCt l D cy yX11_isCount cX11_isCount 4 (some .boolean) 1 22 0 0 [.ref (a 0), .int p0, .int p1, .int p2] [] ((wM cy a thrown g saved hasSaved coef nodes nodeMany isDeep codes details levelMany given paper papered tape taped wrongAt at_ value readPlace readValue readEpoch)) 0 (fun _ : Unit => some (.int val)) (fun _ => (wM cy a thrown g saved hasSaved coef nodes nodeMany isDeep codes details levelMany given paper papered tape taped wrongAt at_ value readPlace readValue readEpoch)) := by
  refine g_begin (by decide +kernel) (Nat.le_of_ble_eq_true rfl) ?_
  intro X Q hl hR hD hy hro hn C hin E
  subst hl; subst hD; subst hy
  replace C : gC X "SecretVaultModel" cX11_isCount (some .boolean) := C
  unfold F_X11_isCount at hf
  have H28 : ∀ (s0_28 : Int32), F_X11_isCount_L28 s0_28 = some val → gW X Q 0 0 ((wM (x_y X) a thrown g saved hasSaved coef nodes nodeMany isDeep codes details levelMany given paper papered tape taped wrongAt at_ value readPlace readValue readEpoch)) [(0, .ref (a 0)), (1, .int p0), (2, .int p1), (3, .int p2)] [.int s0_28] 28 := by
    intro s0_28 hf
    unfold F_X11_isCount_L28 at hf
    obtain ⟨c2, hf⟩ := gg_of hf
    obtain rfl := Option.some.inj hf
    exact g_zret C E () (gnar_of c2) dX11_isCount_28 rfl rfl rfl (Nat.le_of_ble_eq_true rfl) (Nat.le_of_ble_eq_true rfl)
  have H27 :  F_X11_isCount_L27 = some val → gW X Q 0 0 ((wM (x_y X) a thrown g saved hasSaved coef nodes nodeMany isDeep codes details levelMany given paper papered tape taped wrongAt at_ value readPlace readValue readEpoch)) [(0, .ref (a 0)), (1, .int p0), (2, .int p1), (3, .int p2)] [] 27 := by
    intro hf
    unfold F_X11_isCount_L27 at hf
    refine g_iconst C (v := 0) dX11_isCount_27 (by decide) ?_
    exact H28 0 hf
  show gW X Q 0 0 ((wM (x_y X) a thrown g saved hasSaved coef nodes nodeMany isDeep codes details levelMany given paper papered tape taped wrongAt at_ value readPlace readValue readEpoch)) [(0, .ref (a 0)), (1, .int p0), (2, .int p1), (3, .int p2)] [] 0
  refine g_iload_n C 2 dX11_isCount_0 rfl ?_
  refine g_iconst C (v := 1) dX11_isCount_1 (by decide) ?_
  refine g_iadd C dX11_isCount_2 ?_
  refine g_iload_n C 3 dX11_isCount_3 rfl ?_
  refine g_icmp_ge C 27 dX11_isCount_4 (by decide) (fun c1 => ?_) (fun c1 => ?_)
  · have hf := opt_pos c1 hf
    exact H27 hf
  · have hf := opt_neg c1 hf
    refine g_aload_n C 0 dX11_isCount_7 rfl ?_
    refine g_iload_n C 1 dX11_isCount_8 rfl ?_
    refine g_bipush C (v := 12) dX11_isCount_9 (by decide) ?_
    refine g_iload_n C 2 dX11_isCount_11 rfl ?_
    refine g_iadd C dX11_isCount_12 ?_
    refine g_iconst C (v := 1) dX11_isCount_13 (by decide) ?_
    refine g_iadd C dX11_isCount_14 ?_
    obtain ⟨v3, h4, hf⟩ := opt_bind hf
    refine g_callV C (c_X11_of (l := x_l X) (D := x_D X) (cy := x_y X) (a := a) (thrown := thrown) (g := g) (saved := saved) (hasSaved := hasSaved) (coef := coef) (nodes := nodes) (nodeMany := nodeMany) (isDeep := isDeep) (codes := codes) (details := details) (levelMany := levelMany) (given := given) (paper := paper) (papered := papered) (tape := tape) (taped := taped) (wrongAt := wrongAt) (at_ := at_) (value := value) (readPlace := readPlace) (readValue := readValue) (readEpoch := readEpoch) (p0 := p0) (p1 := ((12 : Int32) + p1) + 1) h4) (As := [.int p0, .int (((12 : Int32) + p1) + 1)]) (rest := []) (wr := []) (ws' := fun _ => (wM (x_y X) a thrown g saved hasSaved coef nodes nodeMany isDeep codes details levelMany given paper papered tape taped wrongAt at_ value readPlace readValue readEpoch)) (st' := fun _ => [.int v3]) (ci := 12) 2 0 ⟨_, rfl⟩ rfl rfl mw_7_69 mw_1_9 mw_7_66 mw_7_68 mp_35 hd_X11_of rfl (g_rm hR rfl rfl) [0, 1, 2, 3, 4, 5, 6, 7, 8, 9] [] [0, 1, 2, 3, 4, 5, 6, 7, 8, 9] ⟨rfl, rfl, rfl, rfl, by decide, gRoIn_0, rfl, fun _ => rfl⟩ rfl (Nat.le_of_ble_eq_true rfl) dX11_isCount_15 (g_rc hR (Nat.le_of_ble_eq_true rfl) (Nat.le_of_ble_eq_true rfl)) (ck' := 0) (sk' := 0) rfl rfl (fun _ => rfl) (fun _ _ => ?_) (fun _ hx => absurd rfl hx)
    refine g_bipush C (v := 111) dX11_isCount_18 (by decide) ?_
    refine g_icmp_ne C 27 dX11_isCount_20 (by decide) (fun c5 => ?_) (fun c5 => ?_)
    · have hf := opt_neg c5 hf
      exact H27 hf
    · have hf := opt_pos c5 hf
      refine g_iconst C (v := 1) dX11_isCount_23 (by decide) ?_
      refine g_goto C 28 dX11_isCount_24 (by decide) ?_
      exact H28 1 hf
/-! X11_hasPolicy -/
theorem hd_X11_hasPolicy : yX11_hasPolicy.cls ≠ "java/lang/invoke/MethodHandle" ∧ yX11_hasPolicy.cls ≠ "java/lang/invoke/VarHandle" ∧ (parseMethodDescriptor yX11_hasPolicy.desc).map (fun d => d.parameters.length) = some 1 := by decide +kernel
def F_X11_hasPolicy_L15   (s0_15 : Int32) : Option (Int32) := gg (gnar .boolean s0_15) (some s0_15)
def F_X11_hasPolicy (g : Nat → Int32) (p0 : Int32) : Option (Int32) := (F_X11_of g p0 11).bind fun v1 => if v1 ≤ 0 then (F_X11_hasPolicy_L15 0) else (F_X11_hasPolicy_L15 1)
set_option maxRecDepth 100000 in
set_option maxHeartbeats 4000000 in
theorem c_X11_hasPolicy {l : Launch} {D : va_G} {cy : Nat → ClassId} {a : Nat → Nat} {thrown : Int32} {g : Nat → Int32} {saved : Nat → Int32} {hasSaved : Int32} {coef : Nat → Int32} {nodes : Nat → Int32} {nodeMany : Int32} {isDeep : Int32} {codes : Nat → Int32} {details : Nat → Int32} {levelMany : Int32} {given : Nat → Int32} {paper : Nat → Int32} {papered : Int32} {tape : Nat → Int32} {taped : Int32} {wrongAt : Int32} {at_ : Int32} {value : Int32} {readPlace : Int32} {readValue : Int32} {readEpoch : Int32} {p0 : Int32}  {val : Int32} (hf : F_X11_hasPolicy g p0 = some val) : gCt l D cy yX11_hasPolicy cX11_hasPolicy 2 (some .boolean) 1 22 0 0 [.ref (a 0), .int p0] [] ((wM cy a thrown g saved hasSaved coef nodes nodeMany isDeep codes details levelMany given paper papered tape taped wrongAt at_ value readPlace readValue readEpoch)) 0 (fun _ : Unit => some (.int val)) (fun _ => (wM cy a thrown g saved hasSaved coef nodes nodeMany isDeep codes details levelMany given paper papered tape taped wrongAt at_ value readPlace readValue readEpoch)) := by
  refine g_begin (by decide +kernel) (Nat.le_of_ble_eq_true rfl) ?_
  intro X Q hl hR hD hy hro hn C hin E
  subst hl; subst hD; subst hy
  replace C : gC X "SecretVaultModel" cX11_hasPolicy (some .boolean) := C
  unfold F_X11_hasPolicy at hf
  have H15 : ∀ (s0_15 : Int32), F_X11_hasPolicy_L15 s0_15 = some val → gW X Q 0 0 ((wM (x_y X) a thrown g saved hasSaved coef nodes nodeMany isDeep codes details levelMany given paper papered tape taped wrongAt at_ value readPlace readValue readEpoch)) [(0, .ref (a 0)), (1, .int p0)] [.int s0_15] 15 := by
    intro s0_15 hf
    unfold F_X11_hasPolicy_L15 at hf
    obtain ⟨c4, hf⟩ := gg_of hf
    obtain rfl := Option.some.inj hf
    exact g_zret C E () (gnar_of c4) dX11_hasPolicy_15 rfl rfl rfl (Nat.le_of_ble_eq_true rfl) (Nat.le_of_ble_eq_true rfl)
  show gW X Q 0 0 ((wM (x_y X) a thrown g saved hasSaved coef nodes nodeMany isDeep codes details levelMany given paper papered tape taped wrongAt at_ value readPlace readValue readEpoch)) [(0, .ref (a 0)), (1, .int p0)] [] 0
  refine g_aload_n C 0 dX11_hasPolicy_0 rfl ?_
  refine g_iload_n C 1 dX11_hasPolicy_1 rfl ?_
  refine g_bipush C (v := 11) dX11_hasPolicy_2 (by decide) ?_
  obtain ⟨v1, h2, hf⟩ := opt_bind hf
  refine g_callV C (c_X11_of (l := x_l X) (D := x_D X) (cy := x_y X) (a := a) (thrown := thrown) (g := g) (saved := saved) (hasSaved := hasSaved) (coef := coef) (nodes := nodes) (nodeMany := nodeMany) (isDeep := isDeep) (codes := codes) (details := details) (levelMany := levelMany) (given := given) (paper := paper) (papered := papered) (tape := tape) (taped := taped) (wrongAt := wrongAt) (at_ := at_) (value := value) (readPlace := readPlace) (readValue := readValue) (readEpoch := readEpoch) (p0 := p0) (p1 := 11) h2) (As := [.int p0, .int 11]) (rest := []) (wr := []) (ws' := fun _ => (wM (x_y X) a thrown g saved hasSaved coef nodes nodeMany isDeep codes details levelMany given paper papered tape taped wrongAt at_ value readPlace readValue readEpoch)) (st' := fun _ => [.int v1]) (ci := 12) 2 0 ⟨_, rfl⟩ rfl rfl mw_7_69 mw_1_9 mw_7_66 mw_7_68 mp_35 hd_X11_of rfl (g_rm hR rfl rfl) [0, 1, 2, 3, 4, 5, 6, 7, 8, 9] [] [0, 1, 2, 3, 4, 5, 6, 7, 8, 9] ⟨rfl, rfl, rfl, rfl, by decide, gRoIn_0, rfl, fun _ => rfl⟩ rfl (Nat.le_of_ble_eq_true rfl) dX11_hasPolicy_4 (g_rc hR (Nat.le_of_ble_eq_true rfl) (Nat.le_of_ble_eq_true rfl)) (ck' := 0) (sk' := 0) rfl rfl (fun _ => rfl) (fun _ _ => ?_) (fun _ hx => absurd rfl hx)
  refine g_if_le C 14 dX11_hasPolicy_7 (by decide) (fun c3 => ?_) (fun c3 => ?_)
  · have hf := opt_pos c3 hf
    refine g_iconst C (v := 0) dX11_hasPolicy_14 (by decide) ?_
    exact H15 0 hf
  · have hf := opt_neg c3 hf
    refine g_iconst C (v := 1) dX11_hasPolicy_10 (by decide) ?_
    refine g_goto C 15 dX11_hasPolicy_11 (by decide) ?_
    exact H15 1 hf
/-! X11_taken -/
theorem hd_X11_taken : yX11_taken.cls ≠ "java/lang/invoke/MethodHandle" ∧ yX11_taken.cls ≠ "java/lang/invoke/VarHandle" ∧ (parseMethodDescriptor yX11_taken.desc).map (fun d => d.parameters.length) = some 1 := by decide +kernel
def F_X11_taken_L35  (K4 : Int32 → Int32 → Option (Int32)) (l3_35 : Int32) (s0_35 : Int32) (s1_35 : Int32) : Option (Int32) := K4 (s1_35 ||| s0_35) (l3_35 + 1)
def F_X11_taken_L34  (K4 : Int32 → Int32 → Option (Int32)) (l3_34 : Int32) (s0_34 : Int32) : Option (Int32) := F_X11_taken_L35 K4 l3_34 0 s0_34
def F_X11_taken_L4 (g : Nat → Int32) (p0 : Int32)  : Nat → Int32 → Int32 → Option (Int32)
  | 0, _, _ => none
  | n + 1, l2_4, l3_4 => if 8 ≤ l3_4 then (some l2_4) else (if ((p0 >>> (l3_4 &&& 31)) &&& 1) = 1 then ((F_X11_isPresent g l3_4).bind fun v3 => if v3 = 0 then (F_X11_taken_L34 (F_X11_taken_L4 g p0 n) l3_4 l2_4) else (F_X11_taken_L35 (F_X11_taken_L4 g p0 n) l3_4 ((1 : Int32) <<< (l3_4 &&& 31)) l2_4)) else (F_X11_taken_L34 (F_X11_taken_L4 g p0 n) l3_4 l2_4))
def F_X11_taken (g : Nat → Int32) (p0 : Int32) : Option (Int32) := F_X11_taken_L4 g p0 1000 0 0
set_option maxRecDepth 100000 in
set_option maxHeartbeats 4000000 in
theorem c_X11_taken {l : Launch} {D : va_G} {cy : Nat → ClassId} {a : Nat → Nat} {thrown : Int32} {g : Nat → Int32} {saved : Nat → Int32} {hasSaved : Int32} {coef : Nat → Int32} {nodes : Nat → Int32} {nodeMany : Int32} {isDeep : Int32} {codes : Nat → Int32} {details : Nat → Int32} {levelMany : Int32} {given : Nat → Int32} {paper : Nat → Int32} {papered : Int32} {tape : Nat → Int32} {taped : Int32} {wrongAt : Int32} {at_ : Int32} {value : Int32} {readPlace : Int32} {readValue : Int32} {readEpoch : Int32} {p0 : Int32}  {val : Int32} (hf : F_X11_taken g p0 = some val) : gCt l D cy yX11_taken cX11_taken 4 (some .int) 1 21 0 0 [.ref (a 0), .int p0] [] ((wM cy a thrown g saved hasSaved coef nodes nodeMany isDeep codes details levelMany given paper papered tape taped wrongAt at_ value readPlace readValue readEpoch)) 0 (fun _ : Unit => some (.int val)) (fun _ => (wM cy a thrown g saved hasSaved coef nodes nodeMany isDeep codes details levelMany given paper papered tape taped wrongAt at_ value readPlace readValue readEpoch)) := by
  refine g_begin (by decide +kernel) (Nat.le_of_ble_eq_true rfl) ?_
  intro X Q hl hR hD hy hro hn C hin E
  subst hl; subst hD; subst hy
  replace C : gC X "SecretVaultModel" cX11_taken (some .int) := C
  unfold F_X11_taken at hf
  have H4 : ∀ (n4 : Nat), ∀ (l2_4 : Int32) (l3_4 : Int32), F_X11_taken_L4 g p0 n4 l2_4 l3_4 = some val → gW X Q 0 0 ((wM (x_y X) a thrown g saved hasSaved coef nodes nodeMany isDeep codes details levelMany given paper papered tape taped wrongAt at_ value readPlace readValue readEpoch)) [(0, .ref (a 0)), (1, .int p0), (2, .int l2_4), (3, .int l3_4)] [] 4 := by
    intro n4
    induction n4 with
    | zero => intros; rename_i hf; cases hf
    | succ n4 ih =>
      intro l2_4 l3_4 hf
      have H4 := ih
      rw [F_X11_taken_L4] at hf
      have H35 : ∀ (l3_35 : Int32) (s0_35 : Int32) (s1_35 : Int32), F_X11_taken_L35 (F_X11_taken_L4 g p0 n4) l3_35 s0_35 s1_35 = some val → gW X Q 0 0 ((wM (x_y X) a thrown g saved hasSaved coef nodes nodeMany isDeep codes details levelMany given paper papered tape taped wrongAt at_ value readPlace readValue readEpoch)) [(0, .ref (a 0)), (1, .int p0), (3, .int l3_35)] [.int s0_35, .int s1_35] 35 := by
        intro l3_35 s0_35 s1_35 hf
        unfold F_X11_taken_L35 at hf
        refine g_ior C dX11_taken_35 ?_
        refine g_istore_n C (lv' := [(2, .int (s1_35 ||| s0_35)), (0, .ref (a 0)), (1, .int p0), (3, .int l3_35)]) dX11_taken_36 (g_nlt hn rfl) rfl ?_
        refine g_iinc C 3 (v := l3_35 + 1) (lv' := [(3, .int (l3_35 + 1)), (2, .int (s1_35 ||| s0_35)), (0, .ref (a 0)), (1, .int p0)]) dX11_taken_37 rfl rfl (g_nlt hn rfl) rfl ?_
        refine g_goto C 4 dX11_taken_40 (by decide) ?_
        refine gW.locals [2, 3, 1, 0] rfl ?_
        exact H4 (s1_35 ||| s0_35) (l3_35 + 1) hf
      have H34 : ∀ (l3_34 : Int32) (s0_34 : Int32), F_X11_taken_L34 (F_X11_taken_L4 g p0 n4) l3_34 s0_34 = some val → gW X Q 0 0 ((wM (x_y X) a thrown g saved hasSaved coef nodes nodeMany isDeep codes details levelMany given paper papered tape taped wrongAt at_ value readPlace readValue readEpoch)) [(0, .ref (a 0)), (1, .int p0), (3, .int l3_34)] [.int s0_34] 34 := by
        intro l3_34 s0_34 hf
        unfold F_X11_taken_L34 at hf
        refine g_iconst C (v := 0) dX11_taken_34 (by decide) ?_
        exact H35 l3_34 0 s0_34 hf
      refine g_iload_n C 3 dX11_taken_4 rfl ?_
      refine g_bipush C (v := 8) dX11_taken_5 (by decide) ?_
      refine g_icmp_ge C 43 dX11_taken_7 (by decide) (fun c1 => ?_) (fun c1 => ?_)
      · have hf := opt_pos c1 hf
        refine g_iload_n C 2 dX11_taken_43 rfl ?_
        obtain rfl := Option.some.inj hf
        exact g_iret C E () dX11_taken_44 rfl rfl rfl (Nat.le_of_ble_eq_true rfl) (Nat.le_of_ble_eq_true rfl)
      · have hf := opt_neg c1 hf
        refine g_iload_n C 2 dX11_taken_10 rfl ?_
        refine g_iload_n C 1 dX11_taken_11 rfl ?_
        refine g_iload_n C 3 dX11_taken_12 rfl ?_
        refine g_ishr C dX11_taken_13 ?_
        refine g_iconst C (v := 1) dX11_taken_14 (by decide) ?_
        refine g_iand C dX11_taken_15 ?_
        refine g_iconst C (v := 1) dX11_taken_16 (by decide) ?_
        refine g_icmp_ne C 34 dX11_taken_17 (by decide) (fun c2 => ?_) (fun c2 => ?_)
        · have hf := opt_neg c2 hf
          refine gW.locals [0, 1, 3] rfl ?_
          exact H34 l3_4 l2_4 hf
        · have hf := opt_pos c2 hf
          refine g_aload_n C 0 dX11_taken_20 rfl ?_
          refine g_iload_n C 3 dX11_taken_21 rfl ?_
          obtain ⟨v3, h4, hf⟩ := opt_bind hf
          refine g_callV C (c_X11_isPresent (l := x_l X) (D := x_D X) (cy := x_y X) (a := a) (thrown := thrown) (g := g) (saved := saved) (hasSaved := hasSaved) (coef := coef) (nodes := nodes) (nodeMany := nodeMany) (isDeep := isDeep) (codes := codes) (details := details) (levelMany := levelMany) (given := given) (paper := paper) (papered := papered) (tape := tape) (taped := taped) (wrongAt := wrongAt) (at_ := at_) (value := value) (readPlace := readPlace) (readValue := readValue) (readEpoch := readEpoch) (p0 := l3_4) h4) (As := [.int l3_4]) (rest := [.int l2_4]) (wr := []) (ws' := fun _ => (wM (x_y X) a thrown g saved hasSaved coef nodes nodeMany isDeep codes details levelMany given paper papered tape taped wrongAt at_ value readPlace readValue readEpoch)) (st' := fun _ => [.int v3, .int l2_4]) (ci := 12) 1 0 ⟨_, rfl⟩ rfl rfl mw_7_53 mw_1_9 mw_7_50 mw_7_52 mp_32 hd_X11_isPresent rfl (g_rm hR rfl rfl) [0, 1, 2, 3, 4, 5, 6, 7, 8, 9] [] [0, 1, 2, 3, 4, 5, 6, 7, 8, 9] ⟨rfl, rfl, rfl, rfl, by decide, gRoIn_0, rfl, fun _ => rfl⟩ rfl (Nat.le_of_ble_eq_true rfl) dX11_taken_22 (g_rc hR (Nat.le_of_ble_eq_true rfl) (Nat.le_of_ble_eq_true rfl)) (ck' := 0) (sk' := 0) rfl rfl (fun _ => rfl) (fun _ _ => ?_) (fun _ hx => absurd rfl hx)
          refine g_if_eq C 34 dX11_taken_25 (by decide) (fun c5 => ?_) (fun c5 => ?_)
          · have hf := opt_pos c5 hf
            refine gW.locals [0, 1, 3] rfl ?_
            exact H34 l3_4 l2_4 hf
          · have hf := opt_neg c5 hf
            refine g_iconst C (v := 1) dX11_taken_28 (by decide) ?_
            refine g_iload_n C 3 dX11_taken_29 rfl ?_
            refine g_ishl C dX11_taken_30 ?_
            refine g_goto C 35 dX11_taken_31 (by decide) ?_
            refine gW.locals [0, 1, 3] rfl ?_
            exact H35 l3_4 ((1 : Int32) <<< (l3_4 &&& 31)) l2_4 hf
  show gW X Q 0 0 ((wM (x_y X) a thrown g saved hasSaved coef nodes nodeMany isDeep codes details levelMany given paper papered tape taped wrongAt at_ value readPlace readValue readEpoch)) [(0, .ref (a 0)), (1, .int p0)] [] 0
  refine g_iconst C (v := 0) dX11_taken_0 (by decide) ?_
  refine g_istore_n C (lv' := [(2, .int 0), (0, .ref (a 0)), (1, .int p0)]) dX11_taken_1 (g_nlt hn rfl) rfl ?_
  refine g_iconst C (v := 0) dX11_taken_2 (by decide) ?_
  refine g_istore_n C (lv' := [(3, .int 0), (2, .int 0), (0, .ref (a 0)), (1, .int p0)]) dX11_taken_3 (g_nlt hn rfl) rfl ?_
  refine gW.locals [2, 3, 1, 0] rfl ?_
  exact H4 1000 0 0 hf
/-! X11_level -/
theorem hd_X11_level : yX11_level.cls ≠ "java/lang/invoke/MethodHandle" ∧ yX11_level.cls ≠ "java/lang/invoke/VarHandle" ∧ (parseMethodDescriptor yX11_level.desc).map (fun d => d.parameters.length) = some 2 := by decide +kernel
def F_X11_level (codes : Nat → Int32) (details : Nat → Int32) (levelMany : Int32) (p0 : Int32) (p1 : Int32) : Option ((Nat → Int32) × (Nat → Int32) × Int32) := gg (gi levelMany 30) (gl (upd codes (Int32.toNatClampNeg levelMany) p0) fun f2 => gg (gi levelMany 30) (gl (upd details (Int32.toNatClampNeg levelMany) p1) fun f4 => some (f2, f4, levelMany + 1)))
set_option maxRecDepth 100000 in
set_option maxHeartbeats 4000000 in
theorem c_X11_level {l : Launch} {D : va_G} {cy : Nat → ClassId} {a : Nat → Nat} {thrown : Int32} {g : Nat → Int32} {saved : Nat → Int32} {hasSaved : Int32} {coef : Nat → Int32} {nodes : Nat → Int32} {nodeMany : Int32} {isDeep : Int32} {codes : Nat → Int32} {details : Nat → Int32} {levelMany : Int32} {given : Nat → Int32} {paper : Nat → Int32} {papered : Int32} {tape : Nat → Int32} {taped : Int32} {wrongAt : Int32} {at_ : Int32} {value : Int32} {readPlace : Int32} {readValue : Int32} {readEpoch : Int32} {p0 : Int32} {p1 : Int32}  {val : (Nat → Int32) × (Nat → Int32) × Int32} (hf : F_X11_level codes details levelMany p0 p1 = some val) : gCt l D cy yX11_level cX11_level 3 none 0 0 0 0 [.ref (a 0), .int p0, .int p1] [] ((wM cy a thrown g saved hasSaved coef nodes nodeMany isDeep codes details levelMany given paper papered tape taped wrongAt at_ value readPlace readValue readEpoch)) 0 (fun _ : Unit => none) (fun _ => (wM cy a thrown g saved hasSaved coef nodes nodeMany isDeep val.1 val.2.1 val.2.2 given paper papered tape taped wrongAt at_ value readPlace readValue readEpoch)) := by
  refine g_begin (by decide +kernel) (Nat.le_of_ble_eq_true rfl) ?_
  intro X Q hl hR hD hy hro hn C hin E
  subst hl; subst hD; subst hy
  replace C : gC X "SecretVaultModel" cX11_level none := C
  unfold F_X11_level at hf
  show gW X Q 0 0 ((wM (x_y X) a thrown g saved hasSaved coef nodes nodeMany isDeep codes details levelMany given paper papered tape taped wrongAt at_ value readPlace readValue readEpoch)) [(0, .ref (a 0)), (1, .int p0), (2, .int p1)] [] 0
  refine g_aload_n C 0 dX11_level_0 rfl ?_
  refine g_get C 0 8 rfl rfl wiX11 (by decide) mw_6_191 rfl rfl dX11_level_1 ?_
  refine g_aload_n C 0 dX11_level_4 rfl ?_
  refine g_get C 0 10 rfl rfl wiX11 (by decide) mw_6_193 rfl rfl dX11_level_5 ?_
  refine g_iload_n C 1 dX11_level_8 rfl ?_
  obtain ⟨c1, hf⟩ := gg_of hf
  obtain ⟨f2, ef2, hf⟩ := opt_let hf
  refine g_iast C (ws' := (wM (x_y X) a thrown g saved hasSaved coef nodes nodeMany isDeep f2 details levelMany given paper papered tape taped wrongAt at_ value readPlace readValue readEpoch)) 5 rfl (gi_in c1) (by rw [ef2]; rfl) dX11_level_9 ?_
  refine g_aload_n C 0 dX11_level_10 rfl ?_
  refine g_get C 0 9 rfl rfl wiX11 (by decide) mw_6_192 rfl rfl dX11_level_11 ?_
  refine g_aload_n C 0 dX11_level_14 rfl ?_
  refine g_get C 0 10 rfl rfl wiX11 (by decide) mw_6_193 rfl rfl dX11_level_15 ?_
  refine g_iload_n C 2 dX11_level_18 rfl ?_
  obtain ⟨c3, hf⟩ := gg_of hf
  obtain ⟨f4, ef4, hf⟩ := opt_let hf
  refine g_iast C (ws' := (wM (x_y X) a thrown g saved hasSaved coef nodes nodeMany isDeep f2 f4 levelMany given paper papered tape taped wrongAt at_ value readPlace readValue readEpoch)) 6 rfl (gi_in c3) (by rw [ef4]; rfl) dX11_level_19 ?_
  refine g_aload_n C 0 dX11_level_20 rfl ?_
  refine g_dup C dX11_level_21 rfl ?_
  refine g_get C 0 10 rfl rfl wiX11 (by decide) mw_6_193 rfl rfl dX11_level_22 ?_
  refine g_iconst C (v := 1) dX11_level_25 (by decide) ?_
  refine g_iadd C dX11_level_26 ?_
  refine g_put C (ws' := (wM (x_y X) a thrown g saved hasSaved coef nodes nodeMany isDeep f2 f4 (levelMany + 1) given paper papered tape taped wrongAt at_ value readPlace readValue readEpoch)) 0 10 rfl rfl wiX11 (by decide) tyX11_ok nmX11 mw_6_193 rfl rfl rfl rfl (Nat.le_of_ble_eq_true rfl) rfl dX11_level_27 ?_
  obtain rfl := Option.some.inj hf
  exact g_vret C E () dX11_level_30 rfl rfl rfl (Nat.le_of_ble_eq_true rfl) (Nat.le_of_ble_eq_true rfl)
/-! X11_expel -/
theorem hd_X11_expel : yX11_expel.cls ≠ "java/lang/invoke/MethodHandle" ∧ yX11_expel.cls ≠ "java/lang/invoke/VarHandle" ∧ (parseMethodDescriptor yX11_expel.desc).map (fun d => d.parameters.length) = some 2 := by decide +kernel
def F_X11_expel_L14   (thrown_14 : Int32) (g_14 : Nat → Int32) : Option (Int32 × Int32 × (Nat → Int32)) := (F_X11_fails thrown_14 1).bind fun v4 => some (v4.1, v4.2, g_14)
def F_X11_expel_L70 (p0 : Int32) (K44 : Int32 → (Nat → Int32) → Int32 → Int32 → Option (Int32 × Int32 × (Nat → Int32))) (thrown_70 : Int32) (g_70 : Nat → Int32) (l4_70 : Int32) (s0_70 : Int32) (s1_70 : Int32) : Option (Int32 × Int32 × (Nat → Int32)) := (F_X11_removes g_70 p0 l4_70).bind fun v20 => K44 thrown_70 v20 (s1_70 + s0_70) (l4_70 + 1)
def F_X11_expel_L44 (p0 : Int32) (p1 : Int32)  : Nat → Int32 → (Nat → Int32) → Int32 → Int32 → Option (Int32 × Int32 × (Nat → Int32))
  | 0, _, _, _, _ => none
  | n + 1, thrown_44, g_44, l3_44, l4_44 => if (((3 : Int32) * p1) + 3) < l4_44 then ((F_X11_happens g_44 (((600 : Int32) + ((10 : Int32) * p0)) + p1)).bind fun v13 => (F_X11_done thrown_44 l3_44).bind fun v15 => some (v15.1, v15.2, v13)) else ((F_X11_hasShare g_44 p0 l4_44).bind fun v17 => if v17 = 0 then (F_X11_expel_L70 p0 (F_X11_expel_L44 p0 p1 n) thrown_44 g_44 l4_44 0 l3_44) else (F_X11_expel_L70 p0 (F_X11_expel_L44 p0 p1 n) thrown_44 g_44 l4_44 1 l3_44))
def F_X11_expel (thrown : Int32) (g : Nat → Int32) (p0 : Int32) (p1 : Int32) : Option (Int32 × Int32 × (Nat → Int32)) := (F_X11_isSlot p0).bind fun v1 => if v1 = 0 then (F_X11_expel_L14 thrown g) else ((F_X11_isMember p1).bind fun v6 => if v6 = 0 then (F_X11_expel_L14 thrown g) else ((F_X11_of g p0 0).bind fun v9 => if v9 = 0 then ((F_X11_fails thrown 2).bind fun v22 => some (v22.1, v22.2, g)) else (F_X11_expel_L44 p0 p1 1000 thrown g 0 (((3 : Int32) * p1) + 1))))
set_option maxRecDepth 100000 in
set_option maxHeartbeats 4000000 in
theorem c_X11_expel {l : Launch} {D : va_G} {cy : Nat → ClassId} {a : Nat → Nat} {thrown : Int32} {g : Nat → Int32} {saved : Nat → Int32} {hasSaved : Int32} {coef : Nat → Int32} {nodes : Nat → Int32} {nodeMany : Int32} {isDeep : Int32} {codes : Nat → Int32} {details : Nat → Int32} {levelMany : Int32} {given : Nat → Int32} {paper : Nat → Int32} {papered : Int32} {tape : Nat → Int32} {taped : Int32} {wrongAt : Int32} {at_ : Int32} {value : Int32} {readPlace : Int32} {readValue : Int32} {readEpoch : Int32} {p0 : Int32} {p1 : Int32}  {val : Int32 × Int32 × (Nat → Int32)} (hf : F_X11_expel thrown g p0 p1 = some val) : gCt l D cy yX11_expel cX11_expel 5 (some .int) 3 67 0 0 [.ref (a 0), .int p0, .int p1] [] ((wM cy a thrown g saved hasSaved coef nodes nodeMany isDeep codes details levelMany given paper papered tape taped wrongAt at_ value readPlace readValue readEpoch)) 0 (fun _ : Unit => some (.int val.1)) (fun _ => (wM cy a val.2.1 val.2.2 saved hasSaved coef nodes nodeMany isDeep codes details levelMany given paper papered tape taped wrongAt at_ value readPlace readValue readEpoch)) := by
  refine g_begin (by decide +kernel) (Nat.le_of_ble_eq_true rfl) ?_
  intro X Q hl hR hD hy hro hn C hin E
  subst hl; subst hD; subst hy
  replace C : gC X "SecretVaultModel" cX11_expel (some .int) := C
  unfold F_X11_expel at hf
  have H14 : ∀ (thrown_14 : Int32) (g_14 : Nat → Int32), F_X11_expel_L14 thrown_14 g_14 = some val → gW X Q 0 0 ((wM (x_y X) a thrown_14 g_14 saved hasSaved coef nodes nodeMany isDeep codes details levelMany given paper papered tape taped wrongAt at_ value readPlace readValue readEpoch)) [(0, .ref (a 0)), (1, .int p0), (2, .int p1)] [] 14 := by
    intro thrown_14 g_14 hf
    unfold F_X11_expel_L14 at hf
    refine g_aload_n C 0 dX11_expel_14 rfl ?_
    refine g_iconst C (v := 1) dX11_expel_15 (by decide) ?_
    obtain ⟨v4, h5, hf⟩ := opt_bind hf
    refine g_callV C (c_X11_fails (l := x_l X) (D := x_D X) (cy := x_y X) (a := a) (thrown := thrown_14) (g := g_14) (saved := saved) (hasSaved := hasSaved) (coef := coef) (nodes := nodes) (nodeMany := nodeMany) (isDeep := isDeep) (codes := codes) (details := details) (levelMany := levelMany) (given := given) (paper := paper) (papered := papered) (tape := tape) (taped := taped) (wrongAt := wrongAt) (at_ := at_) (value := value) (readPlace := readPlace) (readValue := readValue) (readEpoch := readEpoch) (p0 := 1) h5) (As := [.int 1]) (rest := []) (wr := []) (ws' := fun _ => (wM (x_y X) a v4.2 g_14 saved hasSaved coef nodes nodeMany isDeep codes details levelMany given paper papered tape taped wrongAt at_ value readPlace readValue readEpoch)) (st' := fun _ => [.int v4.1]) (ci := 12) 1 0 ⟨_, rfl⟩ rfl rfl mw_7_45 mw_1_9 mw_7_42 mw_7_44 mp_31 hd_X11_fails rfl (g_rm hR rfl rfl) [0, 1, 2, 3, 4, 5, 6, 7, 8, 9] [] [0, 1, 2, 3, 4, 5, 6, 7, 8, 9] ⟨rfl, rfl, rfl, rfl, by decide, gRoIn_0, rfl, fun _ => rfl⟩ rfl (Nat.le_of_ble_eq_true rfl) dX11_expel_16 (g_rc hR (Nat.le_of_ble_eq_true rfl) (Nat.le_of_ble_eq_true rfl)) (ck' := 0) (sk' := 0) rfl rfl (fun _ => rfl) (fun _ _ => ?_) (fun _ hx => absurd rfl hx)
    obtain rfl := Option.some.inj hf
    exact g_iret C E () dX11_expel_19 rfl rfl rfl (Nat.le_of_ble_eq_true rfl) (Nat.le_of_ble_eq_true rfl)
  have H44 : ∀ (n44 : Nat), ∀ (thrown_44 : Int32) (g_44 : Nat → Int32) (l3_44 : Int32) (l4_44 : Int32), F_X11_expel_L44 p0 p1 n44 thrown_44 g_44 l3_44 l4_44 = some val → gW X Q 0 0 ((wM (x_y X) a thrown_44 g_44 saved hasSaved coef nodes nodeMany isDeep codes details levelMany given paper papered tape taped wrongAt at_ value readPlace readValue readEpoch)) [(0, .ref (a 0)), (1, .int p0), (2, .int p1), (3, .int l3_44), (4, .int l4_44)] [] 44 := by
    intro n44
    induction n44 with
    | zero => intros; rename_i hf; cases hf
    | succ n44 ih =>
      intro thrown_44 g_44 l3_44 l4_44 hf
      have H44 := ih
      rw [F_X11_expel_L44] at hf
      have H70 : ∀ (thrown_70 : Int32) (g_70 : Nat → Int32) (l4_70 : Int32) (s0_70 : Int32) (s1_70 : Int32), F_X11_expel_L70 p0 (F_X11_expel_L44 p0 p1 n44) thrown_70 g_70 l4_70 s0_70 s1_70 = some val → gW X Q 0 0 ((wM (x_y X) a thrown_70 g_70 saved hasSaved coef nodes nodeMany isDeep codes details levelMany given paper papered tape taped wrongAt at_ value readPlace readValue readEpoch)) [(0, .ref (a 0)), (1, .int p0), (2, .int p1), (4, .int l4_70)] [.int s0_70, .int s1_70] 70 := by
        intro thrown_70 g_70 l4_70 s0_70 s1_70 hf
        unfold F_X11_expel_L70 at hf
        refine g_iadd C dX11_expel_70 ?_
        refine g_istore_n C (lv' := [(3, .int (s1_70 + s0_70)), (0, .ref (a 0)), (1, .int p0), (2, .int p1), (4, .int l4_70)]) dX11_expel_71 (g_nlt hn rfl) rfl ?_
        refine g_aload_n C 1 dX11_expel_72 rfl ?_
        refine g_iload_n C 2 dX11_expel_73 rfl ?_
        refine g_iload C 4 dX11_expel_74 rfl ?_
        obtain ⟨v20, h21, hf⟩ := opt_bind hf
        refine g_callV C (c_X11_removes (l := x_l X) (D := x_D X) (cy := x_y X) (a := a) (thrown := thrown_70) (g := g_70) (saved := saved) (hasSaved := hasSaved) (coef := coef) (nodes := nodes) (nodeMany := nodeMany) (isDeep := isDeep) (codes := codes) (details := details) (levelMany := levelMany) (given := given) (paper := paper) (papered := papered) (tape := tape) (taped := taped) (wrongAt := wrongAt) (at_ := at_) (value := value) (readPlace := readPlace) (readValue := readValue) (readEpoch := readEpoch) (p0 := p0) (p1 := l4_70) h21) (As := [.int p0, .int l4_70]) (rest := []) (wr := []) (ws' := fun _ => (wM (x_y X) a thrown_70 v20 saved hasSaved coef nodes nodeMany isDeep codes details levelMany given paper papered tape taped wrongAt at_ value readPlace readValue readEpoch)) (st' := fun _ => []) (ci := 12) 2 0 ⟨_, rfl⟩ rfl rfl mw_7_99 mw_1_9 mw_7_96 mw_7_98 mp_40 hd_X11_removes rfl (g_rm hR rfl rfl) [0, 1, 2, 3, 4, 5, 6, 7, 8, 9] [] [0, 1, 2, 3, 4, 5, 6, 7, 8, 9] ⟨rfl, rfl, rfl, rfl, by decide, gRoIn_0, rfl, fun _ => rfl⟩ rfl (Nat.le_of_ble_eq_true rfl) dX11_expel_76 (g_rc hR (Nat.le_of_ble_eq_true rfl) (Nat.le_of_ble_eq_true rfl)) (ck' := 0) (sk' := 0) rfl rfl (fun _ => rfl) (fun _ _ => ?_) (fun _ hx => absurd rfl hx)
        refine g_iinc C 4 (v := l4_70 + 1) (lv' := [(4, .int (l4_70 + 1)), (3, .int (s1_70 + s0_70)), (0, .ref (a 0)), (1, .int p0), (2, .int p1)]) dX11_expel_79 rfl rfl (g_nlt hn rfl) rfl ?_
        refine g_goto C 44 dX11_expel_82 (by decide) ?_
        refine gW.locals [2, 3, 4, 1, 0] rfl ?_
        exact H44 thrown_70 v20 (s1_70 + s0_70) (l4_70 + 1) hf
      refine g_iload C 4 dX11_expel_44 rfl ?_
      refine g_iconst C (v := 3) dX11_expel_46 (by decide) ?_
      refine g_iload_n C 2 dX11_expel_47 rfl ?_
      refine g_imul C dX11_expel_48 ?_
      refine g_iconst C (v := 3) dX11_expel_49 (by decide) ?_
      refine g_iadd C dX11_expel_50 ?_
      refine g_icmp_gt C 85 dX11_expel_51 (by decide) (fun c12 => ?_) (fun c12 => ?_)
      · have hf := opt_pos c12 hf
        refine g_aload_n C 0 dX11_expel_85 rfl ?_
        refine g_sipush C (v := 600) dX11_expel_86 (by decide) ?_
        refine g_bipush C (v := 10) dX11_expel_89 (by decide) ?_
        refine g_iload_n C 1 dX11_expel_91 rfl ?_
        refine g_imul C dX11_expel_92 ?_
        refine g_iadd C dX11_expel_93 ?_
        refine g_iload_n C 2 dX11_expel_94 rfl ?_
        refine g_iadd C dX11_expel_95 ?_
        obtain ⟨v13, h14, hf⟩ := opt_bind hf
        refine g_callV C (c_X11_happens (l := x_l X) (D := x_D X) (cy := x_y X) (a := a) (thrown := thrown_44) (g := g_44) (saved := saved) (hasSaved := hasSaved) (coef := coef) (nodes := nodes) (nodeMany := nodeMany) (isDeep := isDeep) (codes := codes) (details := details) (levelMany := levelMany) (given := given) (paper := paper) (papered := papered) (tape := tape) (taped := taped) (wrongAt := wrongAt) (at_ := at_) (value := value) (readPlace := readPlace) (readValue := readValue) (readEpoch := readEpoch) (p0 := ((600 : Int32) + ((10 : Int32) * p0)) + p1) h14) (As := [.int (((600 : Int32) + ((10 : Int32) * p0)) + p1)]) (rest := []) (wr := []) (ws' := fun _ => (wM (x_y X) a thrown_44 v13 saved hasSaved coef nodes nodeMany isDeep codes details levelMany given paper papered tape taped wrongAt at_ value readPlace readValue readEpoch)) (st' := fun _ => []) (ci := 12) 1 0 ⟨_, rfl⟩ rfl rfl mw_7_118 mw_1_9 mw_7_115 mw_7_117 mp_44 hd_X11_happens rfl (g_rm hR rfl rfl) [0, 1, 2, 3, 4, 5, 6, 7, 8, 9] [] [0, 1, 2, 3, 4, 5, 6, 7, 8, 9] ⟨rfl, rfl, rfl, rfl, by decide, gRoIn_0, rfl, fun _ => rfl⟩ rfl (Nat.le_of_ble_eq_true rfl) dX11_expel_96 (g_rc hR (Nat.le_of_ble_eq_true rfl) (Nat.le_of_ble_eq_true rfl)) (ck' := 0) (sk' := 0) rfl rfl (fun _ => rfl) (fun _ _ => ?_) (fun _ hx => absurd rfl hx)
        refine g_aload_n C 0 dX11_expel_99 rfl ?_
        refine g_iload_n C 3 dX11_expel_100 rfl ?_
        obtain ⟨v15, h16, hf⟩ := opt_bind hf
        refine g_callV C (c_X11_done (l := x_l X) (D := x_D X) (cy := x_y X) (a := a) (thrown := thrown_44) (g := v13) (saved := saved) (hasSaved := hasSaved) (coef := coef) (nodes := nodes) (nodeMany := nodeMany) (isDeep := isDeep) (codes := codes) (details := details) (levelMany := levelMany) (given := given) (paper := paper) (papered := papered) (tape := tape) (taped := taped) (wrongAt := wrongAt) (at_ := at_) (value := value) (readPlace := readPlace) (readValue := readValue) (readEpoch := readEpoch) (p0 := l3_44) h16) (As := [.int l3_44]) (rest := []) (wr := []) (ws' := fun _ => (wM (x_y X) a v15.2 v13 saved hasSaved coef nodes nodeMany isDeep codes details levelMany given paper papered tape taped wrongAt at_ value readPlace readValue readEpoch)) (st' := fun _ => [.int v15.1]) (ci := 12) 1 0 ⟨_, rfl⟩ rfl rfl mw_7_22 mw_1_9 mw_7_19 mw_7_21 mp_29 hd_X11_done rfl (g_rm hR rfl rfl) [0, 1, 2, 3, 4, 5, 6, 7, 8, 9] [] [0, 1, 2, 3, 4, 5, 6, 7, 8, 9] ⟨rfl, rfl, rfl, rfl, by decide, gRoIn_0, rfl, fun _ => rfl⟩ rfl (Nat.le_of_ble_eq_true rfl) dX11_expel_101 (g_rc hR (Nat.le_of_ble_eq_true rfl) (Nat.le_of_ble_eq_true rfl)) (ck' := 0) (sk' := 0) rfl rfl (fun _ => rfl) (fun _ _ => ?_) (fun _ hx => absurd rfl hx)
        obtain rfl := Option.some.inj hf
        exact g_iret C E () dX11_expel_104 rfl rfl rfl (Nat.le_of_ble_eq_true rfl) (Nat.le_of_ble_eq_true rfl)
      · have hf := opt_neg c12 hf
        refine g_iload_n C 3 dX11_expel_54 rfl ?_
        refine g_aload_n C 0 dX11_expel_55 rfl ?_
        refine g_iload_n C 1 dX11_expel_56 rfl ?_
        refine g_iload C 4 dX11_expel_57 rfl ?_
        obtain ⟨v17, h18, hf⟩ := opt_bind hf
        refine g_callV C (c_X11_hasShare (l := x_l X) (D := x_D X) (cy := x_y X) (a := a) (thrown := thrown_44) (g := g_44) (saved := saved) (hasSaved := hasSaved) (coef := coef) (nodes := nodes) (nodeMany := nodeMany) (isDeep := isDeep) (codes := codes) (details := details) (levelMany := levelMany) (given := given) (paper := paper) (papered := papered) (tape := tape) (taped := taped) (wrongAt := wrongAt) (at_ := at_) (value := value) (readPlace := readPlace) (readValue := readValue) (readEpoch := readEpoch) (p0 := p0) (p1 := l4_44) h18) (As := [.int p0, .int l4_44]) (rest := [.int l3_44]) (wr := []) (ws' := fun _ => (wM (x_y X) a thrown_44 g_44 saved hasSaved coef nodes nodeMany isDeep codes details levelMany given paper papered tape taped wrongAt at_ value readPlace readValue readEpoch)) (st' := fun _ => [.int v17, .int l3_44]) (ci := 12) 2 0 ⟨_, rfl⟩ rfl rfl mw_7_61 mw_1_9 mw_7_58 mw_7_60 mp_33 hd_X11_hasShare rfl (g_rm hR rfl rfl) [0, 1, 2, 3, 4, 5, 6, 7, 8, 9] [] [0, 1, 2, 3, 4, 5, 6, 7, 8, 9] ⟨rfl, rfl, rfl, rfl, by decide, gRoIn_0, rfl, fun _ => rfl⟩ rfl (Nat.le_of_ble_eq_true rfl) dX11_expel_59 (g_rc hR (Nat.le_of_ble_eq_true rfl) (Nat.le_of_ble_eq_true rfl)) (ck' := 0) (sk' := 0) rfl rfl (fun _ => rfl) (fun _ _ => ?_) (fun _ hx => absurd rfl hx)
        refine g_if_eq C 69 dX11_expel_62 (by decide) (fun c19 => ?_) (fun c19 => ?_)
        · have hf := opt_pos c19 hf
          refine g_iconst C (v := 0) dX11_expel_69 (by decide) ?_
          refine gW.locals [0, 1, 2, 4] rfl ?_
          exact H70 thrown_44 g_44 l4_44 0 l3_44 hf
        · have hf := opt_neg c19 hf
          refine g_iconst C (v := 1) dX11_expel_65 (by decide) ?_
          refine g_goto C 70 dX11_expel_66 (by decide) ?_
          refine gW.locals [0, 1, 2, 4] rfl ?_
          exact H70 thrown_44 g_44 l4_44 1 l3_44 hf
  show gW X Q 0 0 ((wM (x_y X) a thrown g saved hasSaved coef nodes nodeMany isDeep codes details levelMany given paper papered tape taped wrongAt at_ value readPlace readValue readEpoch)) [(0, .ref (a 0)), (1, .int p0), (2, .int p1)] [] 0
  refine g_iload_n C 1 dX11_expel_0 rfl ?_
  obtain ⟨v1, h2, hf⟩ := opt_bind hf
  refine g_callS C (c_X11_isSlot (l := x_l X) (D := x_D X) (cy := x_y X) (p0 := p0) h2) (As := [.int p0]) (rest := []) (wr := (wM (x_y X) a thrown g saved hasSaved coef nodes nodeMany isDeep codes details levelMany given paper papered tape taped wrongAt at_ value readPlace readValue readEpoch)) (ws' := fun _ => (wM (x_y X) a thrown g saved hasSaved coef nodes nodeMany isDeep codes details levelMany given paper papered tape taped wrongAt at_ value readPlace readValue readEpoch)) (st' := fun _ => [.int v1]) 1 mw_7_83 mw_1_9 mw_7_81 mw_7_82 hd_X11_isSlot rfl (g_rm hR rfl rfl) [] [0, 1, 2, 3, 4, 5, 6, 7, 8, 9] [0, 1, 2, 3, 4, 5, 6, 7, 8, 9] ⟨rfl, rfl, rfl, rfl, by decide, gRoIn_0, rfl, fun _ => rfl⟩ rfl (Nat.le_of_ble_eq_true rfl) dX11_expel_1 (g_rc hR (Nat.le_of_ble_eq_true rfl) (Nat.le_of_ble_eq_true rfl)) (ck' := 0) (sk' := 0) rfl rfl (fun _ => rfl) (fun _ _ => ?_) (fun _ hx => absurd rfl hx)
  refine g_if_eq C 14 dX11_expel_4 (by decide) (fun c3 => ?_) (fun c3 => ?_)
  · have hf := opt_pos c3 hf
    exact H14 thrown g hf
  · have hf := opt_neg c3 hf
    refine g_iload_n C 2 dX11_expel_7 rfl ?_
    obtain ⟨v6, h7, hf⟩ := opt_bind hf
    refine g_callS C (c_X11_isMember (l := x_l X) (D := x_D X) (cy := x_y X) (p0 := p1) h7) (As := [.int p1]) (rest := []) (wr := (wM (x_y X) a thrown g saved hasSaved coef nodes nodeMany isDeep codes details levelMany given paper papered tape taped wrongAt at_ value readPlace readValue readEpoch)) (ws' := fun _ => (wM (x_y X) a thrown g saved hasSaved coef nodes nodeMany isDeep codes details levelMany given paper papered tape taped wrongAt at_ value readPlace readValue readEpoch)) (st' := fun _ => [.int v6]) 1 mw_7_38 mw_1_9 mw_7_36 mw_7_37 hd_X11_isMember rfl (g_rm hR rfl rfl) [] [0, 1, 2, 3, 4, 5, 6, 7, 8, 9] [0, 1, 2, 3, 4, 5, 6, 7, 8, 9] ⟨rfl, rfl, rfl, rfl, by decide, gRoIn_0, rfl, fun _ => rfl⟩ rfl (Nat.le_of_ble_eq_true rfl) dX11_expel_8 (g_rc hR (Nat.le_of_ble_eq_true rfl) (Nat.le_of_ble_eq_true rfl)) (ck' := 0) (sk' := 0) rfl rfl (fun _ => rfl) (fun _ _ => ?_) (fun _ hx => absurd rfl hx)
    refine g_if_ne C 20 dX11_expel_11 (by decide) (fun c8 => ?_) (fun c8 => ?_)
    · have hf := opt_neg c8 hf
      refine g_aload_n C 0 dX11_expel_20 rfl ?_
      refine g_iload_n C 1 dX11_expel_21 rfl ?_
      refine g_iconst C (v := 0) dX11_expel_22 (by decide) ?_
      obtain ⟨v9, h10, hf⟩ := opt_bind hf
      refine g_callV C (c_X11_of (l := x_l X) (D := x_D X) (cy := x_y X) (a := a) (thrown := thrown) (g := g) (saved := saved) (hasSaved := hasSaved) (coef := coef) (nodes := nodes) (nodeMany := nodeMany) (isDeep := isDeep) (codes := codes) (details := details) (levelMany := levelMany) (given := given) (paper := paper) (papered := papered) (tape := tape) (taped := taped) (wrongAt := wrongAt) (at_ := at_) (value := value) (readPlace := readPlace) (readValue := readValue) (readEpoch := readEpoch) (p0 := p0) (p1 := 0) h10) (As := [.int p0, .int 0]) (rest := []) (wr := []) (ws' := fun _ => (wM (x_y X) a thrown g saved hasSaved coef nodes nodeMany isDeep codes details levelMany given paper papered tape taped wrongAt at_ value readPlace readValue readEpoch)) (st' := fun _ => [.int v9]) (ci := 12) 2 0 ⟨_, rfl⟩ rfl rfl mw_7_69 mw_1_9 mw_7_66 mw_7_68 mp_35 hd_X11_of rfl (g_rm hR rfl rfl) [0, 1, 2, 3, 4, 5, 6, 7, 8, 9] [] [0, 1, 2, 3, 4, 5, 6, 7, 8, 9] ⟨rfl, rfl, rfl, rfl, by decide, gRoIn_0, rfl, fun _ => rfl⟩ rfl (Nat.le_of_ble_eq_true rfl) dX11_expel_23 (g_rc hR (Nat.le_of_ble_eq_true rfl) (Nat.le_of_ble_eq_true rfl)) (ck' := 0) (sk' := 0) rfl rfl (fun _ => rfl) (fun _ _ => ?_) (fun _ hx => absurd rfl hx)
      refine g_if_ne C 35 dX11_expel_26 (by decide) (fun c11 => ?_) (fun c11 => ?_)
      · have hf := opt_neg c11 hf
        refine g_iconst C (v := 0) dX11_expel_35 (by decide) ?_
        refine g_istore_n C (lv' := [(3, .int 0), (0, .ref (a 0)), (1, .int p0), (2, .int p1)]) dX11_expel_36 (g_nlt hn rfl) rfl ?_
        refine g_iconst C (v := 3) dX11_expel_37 (by decide) ?_
        refine g_iload_n C 3 dX11_expel_38 rfl ?_
        refine g_imul C dX11_expel_39 ?_
        refine g_iconst C (v := 1) dX11_expel_40 (by decide) ?_
        refine g_iadd C dX11_expel_41 ?_
        refine g_istore C (lv' := [(4, .int (((3 : Int32) * p1) + 1)), (3, .int 0), (0, .ref (a 0)), (1, .int p0), (2, .int p1)]) dX11_expel_42 (g_nlt hn rfl) rfl ?_
        refine gW.locals [2, 3, 4, 1, 0] rfl ?_
        exact H44 1000 thrown g 0 (((3 : Int32) * p1) + 1) hf
      · have hf := opt_pos c11 hf
        refine g_aload_n C 0 dX11_expel_29 rfl ?_
        refine g_iconst C (v := 2) dX11_expel_30 (by decide) ?_
        obtain ⟨v22, h23, hf⟩ := opt_bind hf
        refine g_callV C (c_X11_fails (l := x_l X) (D := x_D X) (cy := x_y X) (a := a) (thrown := thrown) (g := g) (saved := saved) (hasSaved := hasSaved) (coef := coef) (nodes := nodes) (nodeMany := nodeMany) (isDeep := isDeep) (codes := codes) (details := details) (levelMany := levelMany) (given := given) (paper := paper) (papered := papered) (tape := tape) (taped := taped) (wrongAt := wrongAt) (at_ := at_) (value := value) (readPlace := readPlace) (readValue := readValue) (readEpoch := readEpoch) (p0 := 2) h23) (As := [.int 2]) (rest := []) (wr := []) (ws' := fun _ => (wM (x_y X) a v22.2 g saved hasSaved coef nodes nodeMany isDeep codes details levelMany given paper papered tape taped wrongAt at_ value readPlace readValue readEpoch)) (st' := fun _ => [.int v22.1]) (ci := 12) 1 0 ⟨_, rfl⟩ rfl rfl mw_7_45 mw_1_9 mw_7_42 mw_7_44 mp_31 hd_X11_fails rfl (g_rm hR rfl rfl) [0, 1, 2, 3, 4, 5, 6, 7, 8, 9] [] [0, 1, 2, 3, 4, 5, 6, 7, 8, 9] ⟨rfl, rfl, rfl, rfl, by decide, gRoIn_0, rfl, fun _ => rfl⟩ rfl (Nat.le_of_ble_eq_true rfl) dX11_expel_31 (g_rc hR (Nat.le_of_ble_eq_true rfl) (Nat.le_of_ble_eq_true rfl)) (ck' := 0) (sk' := 0) rfl rfl (fun _ => rfl) (fun _ _ => ?_) (fun _ hx => absurd rfl hx)
        obtain rfl := Option.some.inj hf
        exact g_iret C E () dX11_expel_34 rfl rfl rfl (Nat.le_of_ble_eq_true rfl) (Nat.le_of_ble_eq_true rfl)
    · have hf := opt_pos c8 hf
      exact H14 thrown g hf
/-! X11_lacksSet -/
theorem hd_X11_lacksSet : yX11_lacksSet.cls ≠ "java/lang/invoke/MethodHandle" ∧ yX11_lacksSet.cls ≠ "java/lang/invoke/VarHandle" ∧ (parseMethodDescriptor yX11_lacksSet.desc).map (fun d => d.parameters.length) = some 2 := by decide +kernel
def F_X11_lacksSet_L36   (s0_36 : Int32) : Option (Int32) := some s0_36
def F_X11_lacksSet (g : Nat → Int32) (p0 : Int32) (p1 : Int32) : Option (Int32) := (F_X11_isSlot p0).bind fun v1 => if v1 = 0 then (F_X11_lacksSet_L36 1) else ((F_X11_isSet p1).bind fun v4 => if v4 = 0 then (F_X11_lacksSet_L36 2) else ((F_X11_of g p0 0).bind fun v7 => if v7 = 0 then (F_X11_lacksSet_L36 3) else (F_X11_lacksSet_L36 0)))
set_option maxRecDepth 100000 in
set_option maxHeartbeats 4000000 in
theorem c_X11_lacksSet {l : Launch} {D : va_G} {cy : Nat → ClassId} {a : Nat → Nat} {thrown : Int32} {g : Nat → Int32} {saved : Nat → Int32} {hasSaved : Int32} {coef : Nat → Int32} {nodes : Nat → Int32} {nodeMany : Int32} {isDeep : Int32} {codes : Nat → Int32} {details : Nat → Int32} {levelMany : Int32} {given : Nat → Int32} {paper : Nat → Int32} {papered : Int32} {tape : Nat → Int32} {taped : Int32} {wrongAt : Int32} {at_ : Int32} {value : Int32} {readPlace : Int32} {readValue : Int32} {readEpoch : Int32} {p0 : Int32} {p1 : Int32}  {val : Int32} (hf : F_X11_lacksSet g p0 p1 = some val) : gCt l D cy yX11_lacksSet cX11_lacksSet 3 (some .int) 2 42 0 0 [.ref (a 0), .int p0, .int p1] [] ((wM cy a thrown g saved hasSaved coef nodes nodeMany isDeep codes details levelMany given paper papered tape taped wrongAt at_ value readPlace readValue readEpoch)) 0 (fun _ : Unit => some (.int val)) (fun _ => (wM cy a thrown g saved hasSaved coef nodes nodeMany isDeep codes details levelMany given paper papered tape taped wrongAt at_ value readPlace readValue readEpoch)) := by
  refine g_begin (by decide +kernel) (Nat.le_of_ble_eq_true rfl) ?_
  intro X Q hl hR hD hy hro hn C hin E
  subst hl; subst hD; subst hy
  replace C : gC X "SecretVaultModel" cX11_lacksSet (some .int) := C
  unfold F_X11_lacksSet at hf
  have H36 : ∀ (s0_36 : Int32), F_X11_lacksSet_L36 s0_36 = some val → gW X Q 0 0 ((wM (x_y X) a thrown g saved hasSaved coef nodes nodeMany isDeep codes details levelMany given paper papered tape taped wrongAt at_ value readPlace readValue readEpoch)) [(0, .ref (a 0)), (1, .int p0), (2, .int p1)] [.int s0_36] 36 := by
    intro s0_36 hf
    unfold F_X11_lacksSet_L36 at hf
    obtain rfl := Option.some.inj hf
    exact g_iret C E () dX11_lacksSet_36 rfl rfl rfl (Nat.le_of_ble_eq_true rfl) (Nat.le_of_ble_eq_true rfl)
  show gW X Q 0 0 ((wM (x_y X) a thrown g saved hasSaved coef nodes nodeMany isDeep codes details levelMany given paper papered tape taped wrongAt at_ value readPlace readValue readEpoch)) [(0, .ref (a 0)), (1, .int p0), (2, .int p1)] [] 0
  refine g_iload_n C 1 dX11_lacksSet_0 rfl ?_
  obtain ⟨v1, h2, hf⟩ := opt_bind hf
  refine g_callS C (c_X11_isSlot (l := x_l X) (D := x_D X) (cy := x_y X) (p0 := p0) h2) (As := [.int p0]) (rest := []) (wr := (wM (x_y X) a thrown g saved hasSaved coef nodes nodeMany isDeep codes details levelMany given paper papered tape taped wrongAt at_ value readPlace readValue readEpoch)) (ws' := fun _ => (wM (x_y X) a thrown g saved hasSaved coef nodes nodeMany isDeep codes details levelMany given paper papered tape taped wrongAt at_ value readPlace readValue readEpoch)) (st' := fun _ => [.int v1]) 1 mw_7_83 mw_1_9 mw_7_81 mw_7_82 hd_X11_isSlot rfl (g_rm hR rfl rfl) [] [0, 1, 2, 3, 4, 5, 6, 7, 8, 9] [0, 1, 2, 3, 4, 5, 6, 7, 8, 9] ⟨rfl, rfl, rfl, rfl, by decide, gRoIn_0, rfl, fun _ => rfl⟩ rfl (Nat.le_of_ble_eq_true rfl) dX11_lacksSet_1 (g_rc hR (Nat.le_of_ble_eq_true rfl) (Nat.le_of_ble_eq_true rfl)) (ck' := 0) (sk' := 0) rfl rfl (fun _ => rfl) (fun _ _ => ?_) (fun _ hx => absurd rfl hx)
  refine g_if_ne C 11 dX11_lacksSet_4 (by decide) (fun c3 => ?_) (fun c3 => ?_)
  · have hf := opt_neg c3 hf
    refine g_iload_n C 2 dX11_lacksSet_11 rfl ?_
    obtain ⟨v4, h5, hf⟩ := opt_bind hf
    refine g_callS C (c_X11_isSet (l := x_l X) (D := x_D X) (cy := x_y X) (p0 := p1) h5) (As := [.int p1]) (rest := []) (wr := (wM (x_y X) a thrown g saved hasSaved coef nodes nodeMany isDeep codes details levelMany given paper papered tape taped wrongAt at_ value readPlace readValue readEpoch)) (ws' := fun _ => (wM (x_y X) a thrown g saved hasSaved coef nodes nodeMany isDeep codes details levelMany given paper papered tape taped wrongAt at_ value readPlace readValue readEpoch)) (st' := fun _ => [.int v4]) 1 mw_7_137 mw_1_9 mw_7_135 mw_7_136 hd_X11_isSet rfl (g_rm hR rfl rfl) [] [0, 1, 2, 3, 4, 5, 6, 7, 8, 9] [0, 1, 2, 3, 4, 5, 6, 7, 8, 9] ⟨rfl, rfl, rfl, rfl, by decide, gRoIn_0, rfl, fun _ => rfl⟩ rfl (Nat.le_of_ble_eq_true rfl) dX11_lacksSet_12 (g_rc hR (Nat.le_of_ble_eq_true rfl) (Nat.le_of_ble_eq_true rfl)) (ck' := 0) (sk' := 0) rfl rfl (fun _ => rfl) (fun _ _ => ?_) (fun _ hx => absurd rfl hx)
    refine g_if_ne C 22 dX11_lacksSet_15 (by decide) (fun c6 => ?_) (fun c6 => ?_)
    · have hf := opt_neg c6 hf
      refine g_aload_n C 0 dX11_lacksSet_22 rfl ?_
      refine g_iload_n C 1 dX11_lacksSet_23 rfl ?_
      refine g_iconst C (v := 0) dX11_lacksSet_24 (by decide) ?_
      obtain ⟨v7, h8, hf⟩ := opt_bind hf
      refine g_callV C (c_X11_of (l := x_l X) (D := x_D X) (cy := x_y X) (a := a) (thrown := thrown) (g := g) (saved := saved) (hasSaved := hasSaved) (coef := coef) (nodes := nodes) (nodeMany := nodeMany) (isDeep := isDeep) (codes := codes) (details := details) (levelMany := levelMany) (given := given) (paper := paper) (papered := papered) (tape := tape) (taped := taped) (wrongAt := wrongAt) (at_ := at_) (value := value) (readPlace := readPlace) (readValue := readValue) (readEpoch := readEpoch) (p0 := p0) (p1 := 0) h8) (As := [.int p0, .int 0]) (rest := []) (wr := []) (ws' := fun _ => (wM (x_y X) a thrown g saved hasSaved coef nodes nodeMany isDeep codes details levelMany given paper papered tape taped wrongAt at_ value readPlace readValue readEpoch)) (st' := fun _ => [.int v7]) (ci := 12) 2 0 ⟨_, rfl⟩ rfl rfl mw_7_69 mw_1_9 mw_7_66 mw_7_68 mp_35 hd_X11_of rfl (g_rm hR rfl rfl) [0, 1, 2, 3, 4, 5, 6, 7, 8, 9] [] [0, 1, 2, 3, 4, 5, 6, 7, 8, 9] ⟨rfl, rfl, rfl, rfl, by decide, gRoIn_0, rfl, fun _ => rfl⟩ rfl (Nat.le_of_ble_eq_true rfl) dX11_lacksSet_25 (g_rc hR (Nat.le_of_ble_eq_true rfl) (Nat.le_of_ble_eq_true rfl)) (ck' := 0) (sk' := 0) rfl rfl (fun _ => rfl) (fun _ _ => ?_) (fun _ hx => absurd rfl hx)
      refine g_if_ne C 35 dX11_lacksSet_28 (by decide) (fun c9 => ?_) (fun c9 => ?_)
      · have hf := opt_neg c9 hf
        refine g_iconst C (v := 0) dX11_lacksSet_35 (by decide) ?_
        exact H36 0 hf
      · have hf := opt_pos c9 hf
        refine g_iconst C (v := 3) dX11_lacksSet_31 (by decide) ?_
        refine g_goto C 36 dX11_lacksSet_32 (by decide) ?_
        exact H36 3 hf
    · have hf := opt_pos c6 hf
      refine g_iconst C (v := 2) dX11_lacksSet_18 (by decide) ?_
      refine g_goto C 36 dX11_lacksSet_19 (by decide) ?_
      exact H36 2 hf
  · have hf := opt_pos c3 hf
    refine g_iconst C (v := 1) dX11_lacksSet_7 (by decide) ?_
    refine g_goto C 36 dX11_lacksSet_8 (by decide) ?_
    exact H36 1 hf
/-! X11_combine -/
theorem hd_X11_combine : yX11_combine.cls ≠ "java/lang/invoke/MethodHandle" ∧ yX11_combine.cls ≠ "java/lang/invoke/VarHandle" ∧ (parseMethodDescriptor yX11_combine.desc).map (fun d => d.parameters.length) = some 2 := by decide +kernel
def F_X11_combine_L61   (thrown_61 : Int32) (nodes_61 : Nat → Int32) (nodeMany_61 : Int32) (s0_61 : Int32) : Option (Int32 × Int32 × (Nat → Int32) × Int32) := some (s0_61, thrown_61, nodes_61, nodeMany_61)
def F_X11_combine (thrown : Int32) (g : Nat → Int32) (nodes : Nat → Int32) (nodeMany : Int32) (p0 : Int32) (p1 : Int32) : Option (Int32 × Int32 × (Nat → Int32) × Int32) := (F_X11_lacksSet g p0 p1).bind fun v1 => if v1 = 0 then ((F_X11_tellNodes g nodes nodeMany p0 p1 0).bind fun v4 => (F_X11_of g p0 1).bind fun v6 => if v6 ≤ v4.2 then ((F_X11_of g p0 1).bind fun v9 => (F_X11_valueAt g v4.1 p0 v9 0).bind fun v11 => (F_X11_done thrown v11).bind fun v13 => F_X11_combine_L61 v13.2 v4.1 v4.2 v13.1) else ((F_X11_fails thrown 4).bind fun v15 => F_X11_combine_L61 v15.2 v4.1 v4.2 v15.1)) else ((F_X11_fails thrown v1).bind fun v17 => some (v17.1, v17.2, nodes, nodeMany))
set_option maxRecDepth 100000 in
set_option maxHeartbeats 4000000 in
theorem c_X11_combine {l : Launch} {D : va_G} {cy : Nat → ClassId} {a : Nat → Nat} {thrown : Int32} {g : Nat → Int32} {saved : Nat → Int32} {hasSaved : Int32} {coef : Nat → Int32} {nodes : Nat → Int32} {nodeMany : Int32} {isDeep : Int32} {codes : Nat → Int32} {details : Nat → Int32} {levelMany : Int32} {given : Nat → Int32} {paper : Nat → Int32} {papered : Int32} {tape : Nat → Int32} {taped : Int32} {wrongAt : Int32} {at_ : Int32} {value : Int32} {readPlace : Int32} {readValue : Int32} {readEpoch : Int32} {p0 : Int32} {p1 : Int32}  {val : Int32 × Int32 × (Nat → Int32) × Int32} (hf : F_X11_combine thrown g nodes nodeMany p0 p1 = some val) : gCt l D cy yX11_combine cX11_combine 4 (some .int) 4 94 0 0 [.ref (a 0), .int p0, .int p1] [] ((wM cy a thrown g saved hasSaved coef nodes nodeMany isDeep codes details levelMany given paper papered tape taped wrongAt at_ value readPlace readValue readEpoch)) 0 (fun _ : Unit => some (.int val.1)) (fun _ => (wM cy a val.2.1 g saved hasSaved coef val.2.2.1 val.2.2.2 isDeep codes details levelMany given paper papered tape taped wrongAt at_ value readPlace readValue readEpoch)) := by
  refine g_begin (by decide +kernel) (Nat.le_of_ble_eq_true rfl) ?_
  intro X Q hl hR hD hy hro hn C hin E
  subst hl; subst hD; subst hy
  replace C : gC X "SecretVaultModel" cX11_combine (some .int) := C
  unfold F_X11_combine at hf
  have H61 : ∀ (thrown_61 : Int32) (nodes_61 : Nat → Int32) (nodeMany_61 : Int32) (s0_61 : Int32), F_X11_combine_L61 thrown_61 nodes_61 nodeMany_61 s0_61 = some val → gW X Q 0 0 ((wM (x_y X) a thrown_61 g saved hasSaved coef nodes_61 nodeMany_61 isDeep codes details levelMany given paper papered tape taped wrongAt at_ value readPlace readValue readEpoch)) [(0, .ref (a 0)), (1, .int p0), (2, .int p1)] [.int s0_61] 61 := by
    intro thrown_61 nodes_61 nodeMany_61 s0_61 hf
    unfold F_X11_combine_L61 at hf
    obtain rfl := Option.some.inj hf
    exact g_iret C E () dX11_combine_61 rfl rfl rfl (Nat.le_of_ble_eq_true rfl) (Nat.le_of_ble_eq_true rfl)
  show gW X Q 0 0 ((wM (x_y X) a thrown g saved hasSaved coef nodes nodeMany isDeep codes details levelMany given paper papered tape taped wrongAt at_ value readPlace readValue readEpoch)) [(0, .ref (a 0)), (1, .int p0), (2, .int p1)] [] 0
  refine g_aload_n C 0 dX11_combine_0 rfl ?_
  refine g_iload_n C 1 dX11_combine_1 rfl ?_
  refine g_iload_n C 2 dX11_combine_2 rfl ?_
  obtain ⟨v1, h2, hf⟩ := opt_bind hf
  refine g_callV C (c_X11_lacksSet (l := x_l X) (D := x_D X) (cy := x_y X) (a := a) (thrown := thrown) (g := g) (saved := saved) (hasSaved := hasSaved) (coef := coef) (nodes := nodes) (nodeMany := nodeMany) (isDeep := isDeep) (codes := codes) (details := details) (levelMany := levelMany) (given := given) (paper := paper) (papered := papered) (tape := tape) (taped := taped) (wrongAt := wrongAt) (at_ := at_) (value := value) (readPlace := readPlace) (readValue := readValue) (readEpoch := readEpoch) (p0 := p0) (p1 := p1) h2) (As := [.int p0, .int p1]) (rest := []) (wr := []) (ws' := fun _ => (wM (x_y X) a thrown g saved hasSaved coef nodes nodeMany isDeep codes details levelMany given paper papered tape taped wrongAt at_ value readPlace readValue readEpoch)) (st' := fun _ => [.int v1]) (ci := 12) 2 0 ⟨_, rfl⟩ rfl rfl mw_7_211 mw_1_9 mw_7_208 mw_7_210 mp_58 hd_X11_lacksSet rfl (g_rm hR rfl rfl) [0, 1, 2, 3, 4, 5, 6, 7, 8, 9] [] [0, 1, 2, 3, 4, 5, 6, 7, 8, 9] ⟨rfl, rfl, rfl, rfl, by decide, gRoIn_0, rfl, fun _ => rfl⟩ rfl (Nat.le_of_ble_eq_true rfl) dX11_combine_3 (g_rc hR (Nat.le_of_ble_eq_true rfl) (Nat.le_of_ble_eq_true rfl)) (ck' := 0) (sk' := 0) rfl rfl (fun _ => rfl) (fun _ _ => ?_) (fun _ hx => absurd rfl hx)
  refine g_istore_n C (lv' := [(3, .int v1), (0, .ref (a 0)), (1, .int p0), (2, .int p1)]) dX11_combine_6 (g_nlt hn rfl) rfl ?_
  refine g_iload_n C 0 dX11_combine_7 rfl ?_
  refine g_if_eq C 17 dX11_combine_8 (by decide) (fun c3 => ?_) (fun c3 => ?_)
  · have hf := opt_pos c3 hf
    refine g_aload_n C 1 dX11_combine_17 rfl ?_
    refine g_iload_n C 2 dX11_combine_18 rfl ?_
    refine g_iload_n C 3 dX11_combine_19 rfl ?_
    refine g_iconst C (v := 0) dX11_combine_20 (by decide) ?_
    obtain ⟨v4, h5, hf⟩ := opt_bind hf
    refine g_callV C (c_X11_tellNodes (l := x_l X) (D := x_D X) (cy := x_y X) (a := a) (thrown := thrown) (g := g) (saved := saved) (hasSaved := hasSaved) (coef := coef) (nodes := nodes) (nodeMany := nodeMany) (isDeep := isDeep) (codes := codes) (details := details) (levelMany := levelMany) (given := given) (paper := paper) (papered := papered) (tape := tape) (taped := taped) (wrongAt := wrongAt) (at_ := at_) (value := value) (readPlace := readPlace) (readValue := readValue) (readEpoch := readEpoch) (p0 := p0) (p1 := p1) (p2 := 0) h5) (As := [.int p0, .int p1, .int 0]) (rest := []) (wr := []) (ws' := fun _ => (wM (x_y X) a thrown g saved hasSaved coef v4.1 v4.2 isDeep codes details levelMany given paper papered tape taped wrongAt at_ value readPlace readValue readEpoch)) (st' := fun _ => []) (ci := 12) 3 0 ⟨_, rfl⟩ rfl rfl mw_7_153 mw_1_9 mw_7_150 mw_7_152 mp_49 hd_X11_tellNodes rfl (g_rm hR rfl rfl) [0, 1, 2, 3, 4, 5, 6, 7, 8, 9] [] [0, 1, 2, 3, 4, 5, 6, 7, 8, 9] ⟨rfl, rfl, rfl, rfl, by decide, gRoIn_0, rfl, fun _ => rfl⟩ rfl (Nat.le_of_ble_eq_true rfl) dX11_combine_21 (g_rc hR (Nat.le_of_ble_eq_true rfl) (Nat.le_of_ble_eq_true rfl)) (ck' := 0) (sk' := 0) rfl rfl (fun _ => rfl) (fun _ _ => ?_) (fun _ hx => absurd rfl hx)
    refine g_aload_n C 1 dX11_combine_24 rfl ?_
    refine g_get C 0 6 rfl rfl wiX11 (by decide) mw_6_190 rfl rfl dX11_combine_25 ?_
    refine g_aload_n C 1 dX11_combine_28 rfl ?_
    refine g_iload_n C 2 dX11_combine_29 rfl ?_
    refine g_iconst C (v := 1) dX11_combine_30 (by decide) ?_
    obtain ⟨v6, h7, hf⟩ := opt_bind hf
    refine g_callV C (c_X11_of (l := x_l X) (D := x_D X) (cy := x_y X) (a := a) (thrown := thrown) (g := g) (saved := saved) (hasSaved := hasSaved) (coef := coef) (nodes := v4.1) (nodeMany := v4.2) (isDeep := isDeep) (codes := codes) (details := details) (levelMany := levelMany) (given := given) (paper := paper) (papered := papered) (tape := tape) (taped := taped) (wrongAt := wrongAt) (at_ := at_) (value := value) (readPlace := readPlace) (readValue := readValue) (readEpoch := readEpoch) (p0 := p0) (p1 := 1) h7) (As := [.int p0, .int 1]) (rest := [.int v4.2]) (wr := []) (ws' := fun _ => (wM (x_y X) a thrown g saved hasSaved coef v4.1 v4.2 isDeep codes details levelMany given paper papered tape taped wrongAt at_ value readPlace readValue readEpoch)) (st' := fun _ => [.int v6, .int v4.2]) (ci := 12) 2 0 ⟨_, rfl⟩ rfl rfl mw_7_69 mw_1_9 mw_7_66 mw_7_68 mp_35 hd_X11_of rfl (g_rm hR rfl rfl) [0, 1, 2, 3, 4, 5, 6, 7, 8, 9] [] [0, 1, 2, 3, 4, 5, 6, 7, 8, 9] ⟨rfl, rfl, rfl, rfl, by decide, gRoIn_0, rfl, fun _ => rfl⟩ rfl (Nat.le_of_ble_eq_true rfl) dX11_combine_31 (g_rc hR (Nat.le_of_ble_eq_true rfl) (Nat.le_of_ble_eq_true rfl)) (ck' := 0) (sk' := 0) rfl rfl (fun _ => rfl) (fun _ _ => ?_) (fun _ hx => absurd rfl hx)
    refine g_icmp_ge C 45 dX11_combine_34 (by decide) (fun c8 => ?_) (fun c8 => ?_)
    · have hf := opt_pos c8 hf
      refine g_aload_n C 1 dX11_combine_45 rfl ?_
      refine g_aload_n C 1 dX11_combine_46 rfl ?_
      refine g_iload_n C 2 dX11_combine_47 rfl ?_
      refine g_aload_n C 1 dX11_combine_48 rfl ?_
      refine g_iload_n C 2 dX11_combine_49 rfl ?_
      refine g_iconst C (v := 1) dX11_combine_50 (by decide) ?_
      obtain ⟨v9, h10, hf⟩ := opt_bind hf
      refine g_callV C (c_X11_of (l := x_l X) (D := x_D X) (cy := x_y X) (a := a) (thrown := thrown) (g := g) (saved := saved) (hasSaved := hasSaved) (coef := coef) (nodes := v4.1) (nodeMany := v4.2) (isDeep := isDeep) (codes := codes) (details := details) (levelMany := levelMany) (given := given) (paper := paper) (papered := papered) (tape := tape) (taped := taped) (wrongAt := wrongAt) (at_ := at_) (value := value) (readPlace := readPlace) (readValue := readValue) (readEpoch := readEpoch) (p0 := p0) (p1 := 1) h10) (As := [.int p0, .int 1]) (rest := [.int p0, .ref (a 0), .ref (a 0)]) (wr := []) (ws' := fun _ => (wM (x_y X) a thrown g saved hasSaved coef v4.1 v4.2 isDeep codes details levelMany given paper papered tape taped wrongAt at_ value readPlace readValue readEpoch)) (st' := fun _ => [.int v9, .int p0, .ref (a 0), .ref (a 0)]) (ci := 12) 2 0 ⟨_, rfl⟩ rfl rfl mw_7_69 mw_1_9 mw_7_66 mw_7_68 mp_35 hd_X11_of rfl (g_rm hR rfl rfl) [0, 1, 2, 3, 4, 5, 6, 7, 8, 9] [] [0, 1, 2, 3, 4, 5, 6, 7, 8, 9] ⟨rfl, rfl, rfl, rfl, by decide, gRoIn_0, rfl, fun _ => rfl⟩ rfl (Nat.le_of_ble_eq_true rfl) dX11_combine_51 (g_rc hR (Nat.le_of_ble_eq_true rfl) (Nat.le_of_ble_eq_true rfl)) (ck' := 0) (sk' := 0) rfl rfl (fun _ => rfl) (fun _ _ => ?_) (fun _ hx => absurd rfl hx)
      refine g_iconst C (v := 0) dX11_combine_54 (by decide) ?_
      obtain ⟨v11, h12, hf⟩ := opt_bind hf
      refine g_callV C (c_X11_valueAt (l := x_l X) (D := x_D X) (cy := x_y X) (a := a) (thrown := thrown) (g := g) (saved := saved) (hasSaved := hasSaved) (coef := coef) (nodes := v4.1) (nodeMany := v4.2) (isDeep := isDeep) (codes := codes) (details := details) (levelMany := levelMany) (given := given) (paper := paper) (papered := papered) (tape := tape) (taped := taped) (wrongAt := wrongAt) (at_ := at_) (value := value) (readPlace := readPlace) (readValue := readValue) (readEpoch := readEpoch) (p0 := p0) (p1 := v9) (p2 := 0) h12) (As := [.int p0, .int v9, .int 0]) (rest := [.ref (a 0)]) (wr := []) (ws' := fun _ => (wM (x_y X) a thrown g saved hasSaved coef v4.1 v4.2 isDeep codes details levelMany given paper papered tape taped wrongAt at_ value readPlace readValue readEpoch)) (st' := fun _ => [.int v11, .ref (a 0)]) (ci := 12) 3 0 ⟨_, rfl⟩ rfl rfl mw_7_184 mw_1_9 mw_7_181 mw_7_183 mp_56 hd_X11_valueAt rfl (g_rm hR rfl rfl) [0, 1, 2, 3, 4, 5, 6, 7, 8, 9] [] [0, 1, 2, 3, 4, 5, 6, 7, 8, 9] ⟨rfl, rfl, rfl, rfl, by decide, gRoIn_0, rfl, fun _ => rfl⟩ rfl (Nat.le_of_ble_eq_true rfl) dX11_combine_55 (g_rc hR (Nat.le_of_ble_eq_true rfl) (Nat.le_of_ble_eq_true rfl)) (ck' := 0) (sk' := 0) rfl rfl (fun _ => rfl) (fun _ _ => ?_) (fun _ hx => absurd rfl hx)
      obtain ⟨v13, h14, hf⟩ := opt_bind hf
      refine g_callV C (c_X11_done (l := x_l X) (D := x_D X) (cy := x_y X) (a := a) (thrown := thrown) (g := g) (saved := saved) (hasSaved := hasSaved) (coef := coef) (nodes := v4.1) (nodeMany := v4.2) (isDeep := isDeep) (codes := codes) (details := details) (levelMany := levelMany) (given := given) (paper := paper) (papered := papered) (tape := tape) (taped := taped) (wrongAt := wrongAt) (at_ := at_) (value := value) (readPlace := readPlace) (readValue := readValue) (readEpoch := readEpoch) (p0 := v11) h14) (As := [.int v11]) (rest := []) (wr := []) (ws' := fun _ => (wM (x_y X) a v13.2 g saved hasSaved coef v4.1 v4.2 isDeep codes details levelMany given paper papered tape taped wrongAt at_ value readPlace readValue readEpoch)) (st' := fun _ => [.int v13.1]) (ci := 12) 1 0 ⟨_, rfl⟩ rfl rfl mw_7_22 mw_1_9 mw_7_19 mw_7_21 mp_29 hd_X11_done rfl (g_rm hR rfl rfl) [0, 1, 2, 3, 4, 5, 6, 7, 8, 9] [] [0, 1, 2, 3, 4, 5, 6, 7, 8, 9] ⟨rfl, rfl, rfl, rfl, by decide, gRoIn_0, rfl, fun _ => rfl⟩ rfl (Nat.le_of_ble_eq_true rfl) dX11_combine_58 (g_rc hR (Nat.le_of_ble_eq_true rfl) (Nat.le_of_ble_eq_true rfl)) (ck' := 0) (sk' := 0) rfl rfl (fun _ => rfl) (fun _ _ => ?_) (fun _ hx => absurd rfl hx)
      refine gW.locals [1, 2, 3] rfl ?_
      exact H61 v13.2 v4.1 v4.2 v13.1 hf
    · have hf := opt_neg c8 hf
      refine g_aload_n C 1 dX11_combine_37 rfl ?_
      refine g_iconst C (v := 4) dX11_combine_38 (by decide) ?_
      obtain ⟨v15, h16, hf⟩ := opt_bind hf
      refine g_callV C (c_X11_fails (l := x_l X) (D := x_D X) (cy := x_y X) (a := a) (thrown := thrown) (g := g) (saved := saved) (hasSaved := hasSaved) (coef := coef) (nodes := v4.1) (nodeMany := v4.2) (isDeep := isDeep) (codes := codes) (details := details) (levelMany := levelMany) (given := given) (paper := paper) (papered := papered) (tape := tape) (taped := taped) (wrongAt := wrongAt) (at_ := at_) (value := value) (readPlace := readPlace) (readValue := readValue) (readEpoch := readEpoch) (p0 := 4) h16) (As := [.int 4]) (rest := []) (wr := []) (ws' := fun _ => (wM (x_y X) a v15.2 g saved hasSaved coef v4.1 v4.2 isDeep codes details levelMany given paper papered tape taped wrongAt at_ value readPlace readValue readEpoch)) (st' := fun _ => [.int v15.1]) (ci := 12) 1 0 ⟨_, rfl⟩ rfl rfl mw_7_45 mw_1_9 mw_7_42 mw_7_44 mp_31 hd_X11_fails rfl (g_rm hR rfl rfl) [0, 1, 2, 3, 4, 5, 6, 7, 8, 9] [] [0, 1, 2, 3, 4, 5, 6, 7, 8, 9] ⟨rfl, rfl, rfl, rfl, by decide, gRoIn_0, rfl, fun _ => rfl⟩ rfl (Nat.le_of_ble_eq_true rfl) dX11_combine_39 (g_rc hR (Nat.le_of_ble_eq_true rfl) (Nat.le_of_ble_eq_true rfl)) (ck' := 0) (sk' := 0) rfl rfl (fun _ => rfl) (fun _ _ => ?_) (fun _ hx => absurd rfl hx)
      refine g_goto C 61 dX11_combine_42 (by decide) ?_
      refine gW.locals [1, 2, 3] rfl ?_
      exact H61 v15.2 v4.1 v4.2 v15.1 hf
  · have hf := opt_neg c3 hf
    refine g_aload_n C 1 dX11_combine_11 rfl ?_
    refine g_iload_n C 0 dX11_combine_12 rfl ?_
    obtain ⟨v17, h18, hf⟩ := opt_bind hf
    refine g_callV C (c_X11_fails (l := x_l X) (D := x_D X) (cy := x_y X) (a := a) (thrown := thrown) (g := g) (saved := saved) (hasSaved := hasSaved) (coef := coef) (nodes := nodes) (nodeMany := nodeMany) (isDeep := isDeep) (codes := codes) (details := details) (levelMany := levelMany) (given := given) (paper := paper) (papered := papered) (tape := tape) (taped := taped) (wrongAt := wrongAt) (at_ := at_) (value := value) (readPlace := readPlace) (readValue := readValue) (readEpoch := readEpoch) (p0 := v1) h18) (As := [.int v1]) (rest := []) (wr := []) (ws' := fun _ => (wM (x_y X) a v17.2 g saved hasSaved coef nodes nodeMany isDeep codes details levelMany given paper papered tape taped wrongAt at_ value readPlace readValue readEpoch)) (st' := fun _ => [.int v17.1]) (ci := 12) 1 0 ⟨_, rfl⟩ rfl rfl mw_7_45 mw_1_9 mw_7_42 mw_7_44 mp_31 hd_X11_fails rfl (g_rm hR rfl rfl) [0, 1, 2, 3, 4, 5, 6, 7, 8, 9] [] [0, 1, 2, 3, 4, 5, 6, 7, 8, 9] ⟨rfl, rfl, rfl, rfl, by decide, gRoIn_0, rfl, fun _ => rfl⟩ rfl (Nat.le_of_ble_eq_true rfl) dX11_combine_13 (g_rc hR (Nat.le_of_ble_eq_true rfl) (Nat.le_of_ble_eq_true rfl)) (ck' := 0) (sk' := 0) rfl rfl (fun _ => rfl) (fun _ _ => ?_) (fun _ hx => absurd rfl hx)
    obtain rfl := Option.some.inj hf
    exact g_iret C E () dX11_combine_16 rfl rfl rfl (Nat.le_of_ble_eq_true rfl) (Nat.le_of_ble_eq_true rfl)
/-! X11_agree -/
theorem hd_X11_agree : yX11_agree.cls ≠ "java/lang/invoke/MethodHandle" ∧ yX11_agree.cls ≠ "java/lang/invoke/VarHandle" ∧ (parseMethodDescriptor yX11_agree.desc).map (fun d => d.parameters.length) = some 2 := by decide +kernel
def F_X11_agree_L88  (K36 : Int32 → (Nat → Int32) → Int32 → Int32 → Int32 → Option (Int32 × Int32 × (Nat → Int32) × Int32)) (thrown_88 : Int32) (nodes_88 : Nat → Int32) (nodeMany_88 : Int32) (l4_88 : Int32) (s0_88 : Int32) : Option (Int32 × Int32 × (Nat → Int32) × Int32) := K36 thrown_88 nodes_88 nodeMany_88 s0_88 (l4_88 + 1)
def F_X11_agree_L87  (K36 : Int32 → (Nat → Int32) → Int32 → Int32 → Int32 → Option (Int32 × Int32 × (Nat → Int32) × Int32)) (thrown_87 : Int32) (nodes_87 : Nat → Int32) (nodeMany_87 : Int32) (l4_87 : Int32) : Option (Int32 × Int32 × (Nat → Int32) × Int32) := F_X11_agree_L88 K36 thrown_87 nodes_87 nodeMany_87 l4_87 0
def F_X11_agree_L36 (g : Nat → Int32) (p0 : Int32)  : Nat → Int32 → (Nat → Int32) → Int32 → Int32 → Int32 → Option (Int32 × Int32 × (Nat → Int32) × Int32)
  | 0, _, _, _, _, _ => none
  | n + 1, thrown_36, nodes_36, nodeMany_36, l3_36, l4_36 => if nodeMany_36 ≤ l4_36 then (gg (gnar .boolean l3_36) (some (l3_36, thrown_36, nodes_36, nodeMany_36))) else (if l3_36 = 0 then (F_X11_agree_L87 (F_X11_agree_L36 g p0 n) thrown_36 nodes_36 nodeMany_36 l4_36) else ((F_X11_of g p0 1).bind fun v11 => gg (gi l4_36 24) ((F_X11_valueAt g nodes_36 p0 v11 (nodes_36 (Int32.toNatClampNeg l4_36))).bind fun v14 => gg (gi l4_36 24) ((F_X11_shareOf g p0 (nodes_36 (Int32.toNatClampNeg l4_36)) 1).bind fun v17 => if v14 = v17 then (F_X11_agree_L88 (F_X11_agree_L36 g p0 n) thrown_36 nodes_36 nodeMany_36 l4_36 1) else (F_X11_agree_L87 (F_X11_agree_L36 g p0 n) thrown_36 nodes_36 nodeMany_36 l4_36)))))
def F_X11_agree (thrown : Int32) (g : Nat → Int32) (nodes : Nat → Int32) (nodeMany : Int32) (p0 : Int32) (p1 : Int32) : Option (Int32 × Int32 × (Nat → Int32) × Int32) := (F_X11_lacksSet g p0 p1).bind fun v1 => if v1 = 0 then ((F_X11_tellNodes g nodes nodeMany p0 p1 0).bind fun v4 => (F_X11_of g p0 1).bind fun v6 => F_X11_agree_L36 g p0 1000 v1 v4.1 v4.2 1 v6) else (some (0, v1, nodes, nodeMany))
set_option maxRecDepth 100000 in
set_option maxHeartbeats 4000000 in
theorem c_X11_agree {l : Launch} {D : va_G} {cy : Nat → ClassId} {a : Nat → Nat} {thrown : Int32} {g : Nat → Int32} {saved : Nat → Int32} {hasSaved : Int32} {coef : Nat → Int32} {nodes : Nat → Int32} {nodeMany : Int32} {isDeep : Int32} {codes : Nat → Int32} {details : Nat → Int32} {levelMany : Int32} {given : Nat → Int32} {paper : Nat → Int32} {papered : Int32} {tape : Nat → Int32} {taped : Int32} {wrongAt : Int32} {at_ : Int32} {value : Int32} {readPlace : Int32} {readValue : Int32} {readEpoch : Int32} {p0 : Int32} {p1 : Int32}  {val : Int32 × Int32 × (Nat → Int32) × Int32} (hf : F_X11_agree thrown g nodes nodeMany p0 p1 = some val) : gCt l D cy yX11_agree cX11_agree 5 (some .boolean) 4 94 0 0 [.ref (a 0), .int p0, .int p1] [] ((wM cy a thrown g saved hasSaved coef nodes nodeMany isDeep codes details levelMany given paper papered tape taped wrongAt at_ value readPlace readValue readEpoch)) 0 (fun _ : Unit => some (.int val.1)) (fun _ => (wM cy a val.2.1 g saved hasSaved coef val.2.2.1 val.2.2.2 isDeep codes details levelMany given paper papered tape taped wrongAt at_ value readPlace readValue readEpoch)) := by
  refine g_begin (by decide +kernel) (Nat.le_of_ble_eq_true rfl) ?_
  intro X Q hl hR hD hy hro hn C hin E
  subst hl; subst hD; subst hy
  replace C : gC X "SecretVaultModel" cX11_agree (some .boolean) := C
  unfold F_X11_agree at hf
  have H36 : ∀ (n36 : Nat), ∀ (thrown_36 : Int32) (nodes_36 : Nat → Int32) (nodeMany_36 : Int32) (l3_36 : Int32) (l4_36 : Int32), F_X11_agree_L36 g p0 n36 thrown_36 nodes_36 nodeMany_36 l3_36 l4_36 = some val → gW X Q 0 0 ((wM (x_y X) a thrown_36 g saved hasSaved coef nodes_36 nodeMany_36 isDeep codes details levelMany given paper papered tape taped wrongAt at_ value readPlace readValue readEpoch)) [(0, .ref (a 0)), (1, .int p0), (2, .int p1), (3, .int l3_36), (4, .int l4_36)] [] 36 := by
    intro n36
    induction n36 with
    | zero => intros; rename_i hf; cases hf
    | succ n36 ih =>
      intro thrown_36 nodes_36 nodeMany_36 l3_36 l4_36 hf
      have H36 := ih
      rw [F_X11_agree_L36] at hf
      have H88 : ∀ (thrown_88 : Int32) (nodes_88 : Nat → Int32) (nodeMany_88 : Int32) (l4_88 : Int32) (s0_88 : Int32), F_X11_agree_L88 (F_X11_agree_L36 g p0 n36) thrown_88 nodes_88 nodeMany_88 l4_88 s0_88 = some val → gW X Q 0 0 ((wM (x_y X) a thrown_88 g saved hasSaved coef nodes_88 nodeMany_88 isDeep codes details levelMany given paper papered tape taped wrongAt at_ value readPlace readValue readEpoch)) [(0, .ref (a 0)), (1, .int p0), (2, .int p1), (4, .int l4_88)] [.int s0_88] 88 := by
        intro thrown_88 nodes_88 nodeMany_88 l4_88 s0_88 hf
        unfold F_X11_agree_L88 at hf
        refine g_istore_n C (lv' := [(3, .int s0_88), (0, .ref (a 0)), (1, .int p0), (2, .int p1), (4, .int l4_88)]) dX11_agree_88 (g_nlt hn rfl) rfl ?_
        refine g_iinc C 4 (v := l4_88 + 1) (lv' := [(4, .int (l4_88 + 1)), (3, .int s0_88), (0, .ref (a 0)), (1, .int p0), (2, .int p1)]) dX11_agree_89 rfl rfl (g_nlt hn rfl) rfl ?_
        refine g_goto C 36 dX11_agree_92 (by decide) ?_
        refine gW.locals [2, 3, 4, 1, 0] rfl ?_
        exact H36 thrown_88 nodes_88 nodeMany_88 s0_88 (l4_88 + 1) hf
      have H87 : ∀ (thrown_87 : Int32) (nodes_87 : Nat → Int32) (nodeMany_87 : Int32) (l4_87 : Int32), F_X11_agree_L87 (F_X11_agree_L36 g p0 n36) thrown_87 nodes_87 nodeMany_87 l4_87 = some val → gW X Q 0 0 ((wM (x_y X) a thrown_87 g saved hasSaved coef nodes_87 nodeMany_87 isDeep codes details levelMany given paper papered tape taped wrongAt at_ value readPlace readValue readEpoch)) [(0, .ref (a 0)), (1, .int p0), (2, .int p1), (4, .int l4_87)] [] 87 := by
        intro thrown_87 nodes_87 nodeMany_87 l4_87 hf
        unfold F_X11_agree_L87 at hf
        refine g_iconst C (v := 0) dX11_agree_87 (by decide) ?_
        exact H88 thrown_87 nodes_87 nodeMany_87 l4_87 0 hf
      refine g_iload C 4 dX11_agree_36 rfl ?_
      refine g_aload_n C 0 dX11_agree_38 rfl ?_
      refine g_get C 0 6 rfl rfl wiX11 (by decide) mw_6_190 rfl rfl dX11_agree_39 ?_
      refine g_icmp_ge C 95 dX11_agree_42 (by decide) (fun c8 => ?_) (fun c8 => ?_)
      · have hf := opt_pos c8 hf
        refine g_iload_n C 3 dX11_agree_95 rfl ?_
        obtain ⟨c9, hf⟩ := gg_of hf
        obtain rfl := Option.some.inj hf
        exact g_zret C E () (gnar_of c9) dX11_agree_96 rfl rfl rfl (Nat.le_of_ble_eq_true rfl) (Nat.le_of_ble_eq_true rfl)
      · have hf := opt_neg c8 hf
        refine g_iload_n C 3 dX11_agree_45 rfl ?_
        refine g_if_eq C 87 dX11_agree_46 (by decide) (fun c10 => ?_) (fun c10 => ?_)
        · have hf := opt_pos c10 hf
          refine gW.locals [0, 1, 2, 4] rfl ?_
          exact H87 thrown_36 nodes_36 nodeMany_36 l4_36 hf
        · have hf := opt_neg c10 hf
          refine g_aload_n C 0 dX11_agree_49 rfl ?_
          refine g_iload_n C 1 dX11_agree_50 rfl ?_
          refine g_aload_n C 0 dX11_agree_51 rfl ?_
          refine g_iload_n C 1 dX11_agree_52 rfl ?_
          refine g_iconst C (v := 1) dX11_agree_53 (by decide) ?_
          obtain ⟨v11, h12, hf⟩ := opt_bind hf
          refine g_callV C (c_X11_of (l := x_l X) (D := x_D X) (cy := x_y X) (a := a) (thrown := thrown_36) (g := g) (saved := saved) (hasSaved := hasSaved) (coef := coef) (nodes := nodes_36) (nodeMany := nodeMany_36) (isDeep := isDeep) (codes := codes) (details := details) (levelMany := levelMany) (given := given) (paper := paper) (papered := papered) (tape := tape) (taped := taped) (wrongAt := wrongAt) (at_ := at_) (value := value) (readPlace := readPlace) (readValue := readValue) (readEpoch := readEpoch) (p0 := p0) (p1 := 1) h12) (As := [.int p0, .int 1]) (rest := [.int p0, .ref (a 0)]) (wr := []) (ws' := fun _ => (wM (x_y X) a thrown_36 g saved hasSaved coef nodes_36 nodeMany_36 isDeep codes details levelMany given paper papered tape taped wrongAt at_ value readPlace readValue readEpoch)) (st' := fun _ => [.int v11, .int p0, .ref (a 0)]) (ci := 12) 2 0 ⟨_, rfl⟩ rfl rfl mw_7_69 mw_1_9 mw_7_66 mw_7_68 mp_35 hd_X11_of rfl (g_rm hR rfl rfl) [0, 1, 2, 3, 4, 5, 6, 7, 8, 9] [] [0, 1, 2, 3, 4, 5, 6, 7, 8, 9] ⟨rfl, rfl, rfl, rfl, by decide, gRoIn_0, rfl, fun _ => rfl⟩ rfl (Nat.le_of_ble_eq_true rfl) dX11_agree_54 (g_rc hR (Nat.le_of_ble_eq_true rfl) (Nat.le_of_ble_eq_true rfl)) (ck' := 0) (sk' := 0) rfl rfl (fun _ => rfl) (fun _ _ => ?_) (fun _ hx => absurd rfl hx)
          refine g_aload_n C 0 dX11_agree_57 rfl ?_
          refine g_get C 0 5 rfl rfl wiX11 (by decide) mw_6_189 rfl rfl dX11_agree_58 ?_
          refine g_iload C 4 dX11_agree_61 rfl ?_
          obtain ⟨c13, hf⟩ := gg_of hf
          refine g_iald C 4 rfl (gi_in c13) dX11_agree_63 ?_
          obtain ⟨v14, h15, hf⟩ := opt_bind hf
          refine g_callV C (c_X11_valueAt (l := x_l X) (D := x_D X) (cy := x_y X) (a := a) (thrown := thrown_36) (g := g) (saved := saved) (hasSaved := hasSaved) (coef := coef) (nodes := nodes_36) (nodeMany := nodeMany_36) (isDeep := isDeep) (codes := codes) (details := details) (levelMany := levelMany) (given := given) (paper := paper) (papered := papered) (tape := tape) (taped := taped) (wrongAt := wrongAt) (at_ := at_) (value := value) (readPlace := readPlace) (readValue := readValue) (readEpoch := readEpoch) (p0 := p0) (p1 := v11) (p2 := nodes_36 (Int32.toNatClampNeg l4_36)) h15) (As := [.int p0, .int v11, .int (nodes_36 (Int32.toNatClampNeg l4_36))]) (rest := []) (wr := []) (ws' := fun _ => (wM (x_y X) a thrown_36 g saved hasSaved coef nodes_36 nodeMany_36 isDeep codes details levelMany given paper papered tape taped wrongAt at_ value readPlace readValue readEpoch)) (st' := fun _ => [.int v14]) (ci := 12) 3 0 ⟨_, rfl⟩ rfl rfl mw_7_184 mw_1_9 mw_7_181 mw_7_183 mp_56 hd_X11_valueAt rfl (g_rm hR rfl rfl) [0, 1, 2, 3, 4, 5, 6, 7, 8, 9] [] [0, 1, 2, 3, 4, 5, 6, 7, 8, 9] ⟨rfl, rfl, rfl, rfl, by decide, gRoIn_0, rfl, fun _ => rfl⟩ rfl (Nat.le_of_ble_eq_true rfl) dX11_agree_64 (g_rc hR (Nat.le_of_ble_eq_true rfl) (Nat.le_of_ble_eq_true rfl)) (ck' := 0) (sk' := 0) rfl rfl (fun _ => rfl) (fun _ _ => ?_) (fun _ hx => absurd rfl hx)
          refine g_aload_n C 0 dX11_agree_67 rfl ?_
          refine g_iload_n C 1 dX11_agree_68 rfl ?_
          refine g_aload_n C 0 dX11_agree_69 rfl ?_
          refine g_get C 0 5 rfl rfl wiX11 (by decide) mw_6_189 rfl rfl dX11_agree_70 ?_
          refine g_iload C 4 dX11_agree_73 rfl ?_
          obtain ⟨c16, hf⟩ := gg_of hf
          refine g_iald C 4 rfl (gi_in c16) dX11_agree_75 ?_
          refine g_iconst C (v := 1) dX11_agree_76 (by decide) ?_
          obtain ⟨v17, h18, hf⟩ := opt_bind hf
          refine g_callV C (c_X11_shareOf (l := x_l X) (D := x_D X) (cy := x_y X) (a := a) (thrown := thrown_36) (g := g) (saved := saved) (hasSaved := hasSaved) (coef := coef) (nodes := nodes_36) (nodeMany := nodeMany_36) (isDeep := isDeep) (codes := codes) (details := details) (levelMany := levelMany) (given := given) (paper := paper) (papered := papered) (tape := tape) (taped := taped) (wrongAt := wrongAt) (at_ := at_) (value := value) (readPlace := readPlace) (readValue := readValue) (readEpoch := readEpoch) (p0 := p0) (p1 := nodes_36 (Int32.toNatClampNeg l4_36)) (p2 := 1) h18) (As := [.int p0, .int (nodes_36 (Int32.toNatClampNeg l4_36)), .int 1]) (rest := [.int v14]) (wr := []) (ws' := fun _ => (wM (x_y X) a thrown_36 g saved hasSaved coef nodes_36 nodeMany_36 isDeep codes details levelMany given paper papered tape taped wrongAt at_ value readPlace readValue readEpoch)) (st' := fun _ => [.int v17, .int v14]) (ci := 12) 3 0 ⟨_, rfl⟩ rfl rfl mw_7_65 mw_1_9 mw_7_62 mw_7_64 mp_34 hd_X11_shareOf rfl (g_rm hR rfl rfl) [0, 1, 2, 3, 4, 5, 6, 7, 8, 9] [] [0, 1, 2, 3, 4, 5, 6, 7, 8, 9] ⟨rfl, rfl, rfl, rfl, by decide, gRoIn_0, rfl, fun _ => rfl⟩ rfl (Nat.le_of_ble_eq_true rfl) dX11_agree_77 (g_rc hR (Nat.le_of_ble_eq_true rfl) (Nat.le_of_ble_eq_true rfl)) (ck' := 0) (sk' := 0) rfl rfl (fun _ => rfl) (fun _ _ => ?_) (fun _ hx => absurd rfl hx)
          refine g_icmp_ne C 87 dX11_agree_80 (by decide) (fun c19 => ?_) (fun c19 => ?_)
          · have hf := opt_neg c19 hf
            refine gW.locals [0, 1, 2, 4] rfl ?_
            exact H87 thrown_36 nodes_36 nodeMany_36 l4_36 hf
          · have hf := opt_pos c19 hf
            refine g_iconst C (v := 1) dX11_agree_83 (by decide) ?_
            refine g_goto C 88 dX11_agree_84 (by decide) ?_
            refine gW.locals [0, 1, 2, 4] rfl ?_
            exact H88 thrown_36 nodes_36 nodeMany_36 l4_36 1 hf
  show gW X Q 0 0 ((wM (x_y X) a thrown g saved hasSaved coef nodes nodeMany isDeep codes details levelMany given paper papered tape taped wrongAt at_ value readPlace readValue readEpoch)) [(0, .ref (a 0)), (1, .int p0), (2, .int p1)] [] 0
  refine g_aload_n C 0 dX11_agree_0 rfl ?_
  refine g_aload_n C 0 dX11_agree_1 rfl ?_
  refine g_iload_n C 1 dX11_agree_2 rfl ?_
  refine g_iload_n C 2 dX11_agree_3 rfl ?_
  obtain ⟨v1, h2, hf⟩ := opt_bind hf
  refine g_callV C (c_X11_lacksSet (l := x_l X) (D := x_D X) (cy := x_y X) (a := a) (thrown := thrown) (g := g) (saved := saved) (hasSaved := hasSaved) (coef := coef) (nodes := nodes) (nodeMany := nodeMany) (isDeep := isDeep) (codes := codes) (details := details) (levelMany := levelMany) (given := given) (paper := paper) (papered := papered) (tape := tape) (taped := taped) (wrongAt := wrongAt) (at_ := at_) (value := value) (readPlace := readPlace) (readValue := readValue) (readEpoch := readEpoch) (p0 := p0) (p1 := p1) h2) (As := [.int p0, .int p1]) (rest := [.ref (a 0)]) (wr := []) (ws' := fun _ => (wM (x_y X) a thrown g saved hasSaved coef nodes nodeMany isDeep codes details levelMany given paper papered tape taped wrongAt at_ value readPlace readValue readEpoch)) (st' := fun _ => [.int v1, .ref (a 0)]) (ci := 12) 2 0 ⟨_, rfl⟩ rfl rfl mw_7_211 mw_1_9 mw_7_208 mw_7_210 mp_58 hd_X11_lacksSet rfl (g_rm hR rfl rfl) [0, 1, 2, 3, 4, 5, 6, 7, 8, 9] [] [0, 1, 2, 3, 4, 5, 6, 7, 8, 9] ⟨rfl, rfl, rfl, rfl, by decide, gRoIn_0, rfl, fun _ => rfl⟩ rfl (Nat.le_of_ble_eq_true rfl) dX11_agree_4 (g_rc hR (Nat.le_of_ble_eq_true rfl) (Nat.le_of_ble_eq_true rfl)) (ck' := 0) (sk' := 0) rfl rfl (fun _ => rfl) (fun _ _ => ?_) (fun _ hx => absurd rfl hx)
  refine g_put C (ws' := (wM (x_y X) a v1 g saved hasSaved coef nodes nodeMany isDeep codes details levelMany given paper papered tape taped wrongAt at_ value readPlace readValue readEpoch)) 0 0 rfl rfl wiX11 (by decide) tyX11_ok nmX11 mw_6_184 rfl rfl rfl rfl (Nat.le_of_ble_eq_true rfl) rfl dX11_agree_7 ?_
  refine g_aload_n C 0 dX11_agree_10 rfl ?_
  refine g_get C 0 0 rfl rfl wiX11 (by decide) mw_6_184 rfl rfl dX11_agree_11 ?_
  refine g_if_eq C 19 dX11_agree_14 (by decide) (fun c3 => ?_) (fun c3 => ?_)
  · have hf := opt_pos c3 hf
    refine g_aload_n C 0 dX11_agree_19 rfl ?_
    refine g_iload_n C 1 dX11_agree_20 rfl ?_
    refine g_iload_n C 2 dX11_agree_21 rfl ?_
    refine g_iconst C (v := 0) dX11_agree_22 (by decide) ?_
    obtain ⟨v4, h5, hf⟩ := opt_bind hf
    refine g_callV C (c_X11_tellNodes (l := x_l X) (D := x_D X) (cy := x_y X) (a := a) (thrown := v1) (g := g) (saved := saved) (hasSaved := hasSaved) (coef := coef) (nodes := nodes) (nodeMany := nodeMany) (isDeep := isDeep) (codes := codes) (details := details) (levelMany := levelMany) (given := given) (paper := paper) (papered := papered) (tape := tape) (taped := taped) (wrongAt := wrongAt) (at_ := at_) (value := value) (readPlace := readPlace) (readValue := readValue) (readEpoch := readEpoch) (p0 := p0) (p1 := p1) (p2 := 0) h5) (As := [.int p0, .int p1, .int 0]) (rest := []) (wr := []) (ws' := fun _ => (wM (x_y X) a v1 g saved hasSaved coef v4.1 v4.2 isDeep codes details levelMany given paper papered tape taped wrongAt at_ value readPlace readValue readEpoch)) (st' := fun _ => []) (ci := 12) 3 0 ⟨_, rfl⟩ rfl rfl mw_7_153 mw_1_9 mw_7_150 mw_7_152 mp_49 hd_X11_tellNodes rfl (g_rm hR rfl rfl) [0, 1, 2, 3, 4, 5, 6, 7, 8, 9] [] [0, 1, 2, 3, 4, 5, 6, 7, 8, 9] ⟨rfl, rfl, rfl, rfl, by decide, gRoIn_0, rfl, fun _ => rfl⟩ rfl (Nat.le_of_ble_eq_true rfl) dX11_agree_23 (g_rc hR (Nat.le_of_ble_eq_true rfl) (Nat.le_of_ble_eq_true rfl)) (ck' := 0) (sk' := 0) rfl rfl (fun _ => rfl) (fun _ _ => ?_) (fun _ hx => absurd rfl hx)
    refine g_iconst C (v := 1) dX11_agree_26 (by decide) ?_
    refine g_istore_n C (lv' := [(3, .int 1), (0, .ref (a 0)), (1, .int p0), (2, .int p1)]) dX11_agree_27 (g_nlt hn rfl) rfl ?_
    refine g_aload_n C 1 dX11_agree_28 rfl ?_
    refine g_iload_n C 2 dX11_agree_29 rfl ?_
    refine g_iconst C (v := 1) dX11_agree_30 (by decide) ?_
    obtain ⟨v6, h7, hf⟩ := opt_bind hf
    refine g_callV C (c_X11_of (l := x_l X) (D := x_D X) (cy := x_y X) (a := a) (thrown := v1) (g := g) (saved := saved) (hasSaved := hasSaved) (coef := coef) (nodes := v4.1) (nodeMany := v4.2) (isDeep := isDeep) (codes := codes) (details := details) (levelMany := levelMany) (given := given) (paper := paper) (papered := papered) (tape := tape) (taped := taped) (wrongAt := wrongAt) (at_ := at_) (value := value) (readPlace := readPlace) (readValue := readValue) (readEpoch := readEpoch) (p0 := p0) (p1 := 1) h7) (As := [.int p0, .int 1]) (rest := []) (wr := []) (ws' := fun _ => (wM (x_y X) a v1 g saved hasSaved coef v4.1 v4.2 isDeep codes details levelMany given paper papered tape taped wrongAt at_ value readPlace readValue readEpoch)) (st' := fun _ => [.int v6]) (ci := 12) 2 0 ⟨_, rfl⟩ rfl rfl mw_7_69 mw_1_9 mw_7_66 mw_7_68 mp_35 hd_X11_of rfl (g_rm hR rfl rfl) [0, 1, 2, 3, 4, 5, 6, 7, 8, 9] [] [0, 1, 2, 3, 4, 5, 6, 7, 8, 9] ⟨rfl, rfl, rfl, rfl, by decide, gRoIn_0, rfl, fun _ => rfl⟩ rfl (Nat.le_of_ble_eq_true rfl) dX11_agree_31 (g_rc hR (Nat.le_of_ble_eq_true rfl) (Nat.le_of_ble_eq_true rfl)) (ck' := 0) (sk' := 0) rfl rfl (fun _ => rfl) (fun _ _ => ?_) (fun _ hx => absurd rfl hx)
    refine g_istore C (lv' := [(4, .int v6), (3, .int 1), (0, .ref (a 0)), (1, .int p0), (2, .int p1)]) dX11_agree_34 (g_nlt hn rfl) rfl ?_
    refine gW.locals [2, 3, 4, 1, 0] rfl ?_
    exact H36 1000 v1 v4.1 v4.2 1 v6 hf
  · have hf := opt_neg c3 hf
    refine g_iconst C (v := 0) dX11_agree_17 (by decide) ?_
    obtain rfl := Option.some.inj hf
    exact g_zret C E () rfl dX11_agree_18 rfl rfl rfl (Nat.le_of_ble_eq_true rfl) (Nat.le_of_ble_eq_true rfl)
/-! X11_count -/
theorem hd_X11_count : yX11_count.cls ≠ "java/lang/invoke/MethodHandle" ∧ yX11_count.cls ≠ "java/lang/invoke/VarHandle" ∧ (parseMethodDescriptor yX11_count.desc).map (fun d => d.parameters.length) = some 2 := by decide +kernel
def F_X11_count_L44  (K5 : Int32 → Int32 → Option (Int32)) (l4_44 : Int32) (s0_44 : Int32) (s1_44 : Int32) : Option (Int32) := K5 (s1_44 + s0_44) (l4_44 + 1)
def F_X11_count_L43  (K5 : Int32 → Int32 → Option (Int32)) (l4_43 : Int32) (s0_43 : Int32) : Option (Int32) := F_X11_count_L44 K5 l4_43 0 s0_43
def F_X11_count_L39  (K5 : Int32 → Int32 → Option (Int32)) (l4_39 : Int32) (s0_39 : Int32) : Option (Int32) := F_X11_count_L44 K5 l4_39 1 s0_39
def F_X11_count_L5 (g : Nat → Int32) (p0 : Int32) (p1 : Int32)  : Nat → Int32 → Int32 → Option (Int32)
  | 0, _, _ => none
  | n + 1, l3_5, l4_5 => if 24 < l4_5 then (some l3_5) else ((F_X11_hasShare g p0 l4_5).bind fun v2 => if v2 = 0 then (F_X11_count_L43 (F_X11_count_L5 g p0 p1 n) l4_5 l3_5) else (if p1 = (-1) then (F_X11_count_L39 (F_X11_count_L5 g p0 p1 n) l4_5 l3_5) else ((F_X11_stateOf g p0 l4_5).bind fun v6 => if v6 = p1 then (F_X11_count_L39 (F_X11_count_L5 g p0 p1 n) l4_5 l3_5) else (F_X11_count_L43 (F_X11_count_L5 g p0 p1 n) l4_5 l3_5))))
def F_X11_count (g : Nat → Int32) (p0 : Int32) (p1 : Int32) : Option (Int32) := F_X11_count_L5 g p0 p1 1000 0 1
set_option maxRecDepth 100000 in
set_option maxHeartbeats 4000000 in
theorem c_X11_count {l : Launch} {D : va_G} {cy : Nat → ClassId} {a : Nat → Nat} {thrown : Int32} {g : Nat → Int32} {saved : Nat → Int32} {hasSaved : Int32} {coef : Nat → Int32} {nodes : Nat → Int32} {nodeMany : Int32} {isDeep : Int32} {codes : Nat → Int32} {details : Nat → Int32} {levelMany : Int32} {given : Nat → Int32} {paper : Nat → Int32} {papered : Int32} {tape : Nat → Int32} {taped : Int32} {wrongAt : Int32} {at_ : Int32} {value : Int32} {readPlace : Int32} {readValue : Int32} {readEpoch : Int32} {p0 : Int32} {p1 : Int32}  {val : Int32} (hf : F_X11_count g p0 p1 = some val) : gCt l D cy yX11_count cX11_count 5 (some .int) 3 70 0 0 [.ref (a 0), .int p0, .int p1] [] ((wM cy a thrown g saved hasSaved coef nodes nodeMany isDeep codes details levelMany given paper papered tape taped wrongAt at_ value readPlace readValue readEpoch)) 0 (fun _ : Unit => some (.int val)) (fun _ => (wM cy a thrown g saved hasSaved coef nodes nodeMany isDeep codes details levelMany given paper papered tape taped wrongAt at_ value readPlace readValue readEpoch)) := by
  refine g_begin (by decide +kernel) (Nat.le_of_ble_eq_true rfl) ?_
  intro X Q hl hR hD hy hro hn C hin E
  subst hl; subst hD; subst hy
  replace C : gC X "SecretVaultModel" cX11_count (some .int) := C
  unfold F_X11_count at hf
  have H5 : ∀ (n5 : Nat), ∀ (l3_5 : Int32) (l4_5 : Int32), F_X11_count_L5 g p0 p1 n5 l3_5 l4_5 = some val → gW X Q 0 0 ((wM (x_y X) a thrown g saved hasSaved coef nodes nodeMany isDeep codes details levelMany given paper papered tape taped wrongAt at_ value readPlace readValue readEpoch)) [(0, .ref (a 0)), (1, .int p0), (2, .int p1), (3, .int l3_5), (4, .int l4_5)] [] 5 := by
    intro n5
    induction n5 with
    | zero => intros; rename_i hf; cases hf
    | succ n5 ih =>
      intro l3_5 l4_5 hf
      have H5 := ih
      rw [F_X11_count_L5] at hf
      have H44 : ∀ (l4_44 : Int32) (s0_44 : Int32) (s1_44 : Int32), F_X11_count_L44 (F_X11_count_L5 g p0 p1 n5) l4_44 s0_44 s1_44 = some val → gW X Q 0 0 ((wM (x_y X) a thrown g saved hasSaved coef nodes nodeMany isDeep codes details levelMany given paper papered tape taped wrongAt at_ value readPlace readValue readEpoch)) [(0, .ref (a 0)), (1, .int p0), (2, .int p1), (4, .int l4_44)] [.int s0_44, .int s1_44] 44 := by
        intro l4_44 s0_44 s1_44 hf
        unfold F_X11_count_L44 at hf
        refine g_iadd C dX11_count_44 ?_
        refine g_istore_n C (lv' := [(3, .int (s1_44 + s0_44)), (0, .ref (a 0)), (1, .int p0), (2, .int p1), (4, .int l4_44)]) dX11_count_45 (g_nlt hn rfl) rfl ?_
        refine g_iinc C 4 (v := l4_44 + 1) (lv' := [(4, .int (l4_44 + 1)), (3, .int (s1_44 + s0_44)), (0, .ref (a 0)), (1, .int p0), (2, .int p1)]) dX11_count_46 rfl rfl (g_nlt hn rfl) rfl ?_
        refine g_goto C 5 dX11_count_49 (by decide) ?_
        refine gW.locals [2, 3, 4, 1, 0] rfl ?_
        exact H5 (s1_44 + s0_44) (l4_44 + 1) hf
      have H43 : ∀ (l4_43 : Int32) (s0_43 : Int32), F_X11_count_L43 (F_X11_count_L5 g p0 p1 n5) l4_43 s0_43 = some val → gW X Q 0 0 ((wM (x_y X) a thrown g saved hasSaved coef nodes nodeMany isDeep codes details levelMany given paper papered tape taped wrongAt at_ value readPlace readValue readEpoch)) [(0, .ref (a 0)), (1, .int p0), (2, .int p1), (4, .int l4_43)] [.int s0_43] 43 := by
        intro l4_43 s0_43 hf
        unfold F_X11_count_L43 at hf
        refine g_iconst C (v := 0) dX11_count_43 (by decide) ?_
        exact H44 l4_43 0 s0_43 hf
      have H39 : ∀ (l4_39 : Int32) (s0_39 : Int32), F_X11_count_L39 (F_X11_count_L5 g p0 p1 n5) l4_39 s0_39 = some val → gW X Q 0 0 ((wM (x_y X) a thrown g saved hasSaved coef nodes nodeMany isDeep codes details levelMany given paper papered tape taped wrongAt at_ value readPlace readValue readEpoch)) [(0, .ref (a 0)), (1, .int p0), (2, .int p1), (4, .int l4_39)] [.int s0_39] 39 := by
        intro l4_39 s0_39 hf
        unfold F_X11_count_L39 at hf
        refine g_iconst C (v := 1) dX11_count_39 (by decide) ?_
        refine g_goto C 44 dX11_count_40 (by decide) ?_
        exact H44 l4_39 1 s0_39 hf
      refine g_iload C 4 dX11_count_5 rfl ?_
      refine g_bipush C (v := 24) dX11_count_7 (by decide) ?_
      refine g_icmp_gt C 52 dX11_count_9 (by decide) (fun c1 => ?_) (fun c1 => ?_)
      · have hf := opt_pos c1 hf
        refine g_iload_n C 3 dX11_count_52 rfl ?_
        obtain rfl := Option.some.inj hf
        exact g_iret C E () dX11_count_53 rfl rfl rfl (Nat.le_of_ble_eq_true rfl) (Nat.le_of_ble_eq_true rfl)
      · have hf := opt_neg c1 hf
        refine g_iload_n C 3 dX11_count_12 rfl ?_
        refine g_aload_n C 0 dX11_count_13 rfl ?_
        refine g_iload_n C 1 dX11_count_14 rfl ?_
        refine g_iload C 4 dX11_count_15 rfl ?_
        obtain ⟨v2, h3, hf⟩ := opt_bind hf
        refine g_callV C (c_X11_hasShare (l := x_l X) (D := x_D X) (cy := x_y X) (a := a) (thrown := thrown) (g := g) (saved := saved) (hasSaved := hasSaved) (coef := coef) (nodes := nodes) (nodeMany := nodeMany) (isDeep := isDeep) (codes := codes) (details := details) (levelMany := levelMany) (given := given) (paper := paper) (papered := papered) (tape := tape) (taped := taped) (wrongAt := wrongAt) (at_ := at_) (value := value) (readPlace := readPlace) (readValue := readValue) (readEpoch := readEpoch) (p0 := p0) (p1 := l4_5) h3) (As := [.int p0, .int l4_5]) (rest := [.int l3_5]) (wr := []) (ws' := fun _ => (wM (x_y X) a thrown g saved hasSaved coef nodes nodeMany isDeep codes details levelMany given paper papered tape taped wrongAt at_ value readPlace readValue readEpoch)) (st' := fun _ => [.int v2, .int l3_5]) (ci := 12) 2 0 ⟨_, rfl⟩ rfl rfl mw_7_61 mw_1_9 mw_7_58 mw_7_60 mp_33 hd_X11_hasShare rfl (g_rm hR rfl rfl) [0, 1, 2, 3, 4, 5, 6, 7, 8, 9] [] [0, 1, 2, 3, 4, 5, 6, 7, 8, 9] ⟨rfl, rfl, rfl, rfl, by decide, gRoIn_0, rfl, fun _ => rfl⟩ rfl (Nat.le_of_ble_eq_true rfl) dX11_count_17 (g_rc hR (Nat.le_of_ble_eq_true rfl) (Nat.le_of_ble_eq_true rfl)) (ck' := 0) (sk' := 0) rfl rfl (fun _ => rfl) (fun _ _ => ?_) (fun _ hx => absurd rfl hx)
        refine g_if_eq C 43 dX11_count_20 (by decide) (fun c4 => ?_) (fun c4 => ?_)
        · have hf := opt_pos c4 hf
          refine gW.locals [0, 1, 2, 4] rfl ?_
          exact H43 l4_5 l3_5 hf
        · have hf := opt_neg c4 hf
          refine g_iload_n C 2 dX11_count_23 rfl ?_
          refine g_iconst C (v := (-1)) dX11_count_24 (by decide) ?_
          refine g_icmp_eq C 39 dX11_count_25 (by decide) (fun c5 => ?_) (fun c5 => ?_)
          · have hf := opt_pos c5 hf
            refine gW.locals [0, 1, 2, 4] rfl ?_
            exact H39 l4_5 l3_5 hf
          · have hf := opt_neg c5 hf
            refine g_aload_n C 0 dX11_count_28 rfl ?_
            refine g_iload_n C 1 dX11_count_29 rfl ?_
            refine g_iload C 4 dX11_count_30 rfl ?_
            obtain ⟨v6, h7, hf⟩ := opt_bind hf
            refine g_callV C (c_X11_stateOf (l := x_l X) (D := x_D X) (cy := x_y X) (a := a) (thrown := thrown) (g := g) (saved := saved) (hasSaved := hasSaved) (coef := coef) (nodes := nodes) (nodeMany := nodeMany) (isDeep := isDeep) (codes := codes) (details := details) (levelMany := levelMany) (given := given) (paper := paper) (papered := papered) (tape := tape) (taped := taped) (wrongAt := wrongAt) (at_ := at_) (value := value) (readPlace := readPlace) (readValue := readValue) (readEpoch := readEpoch) (p0 := p0) (p1 := l4_5) h7) (As := [.int p0, .int l4_5]) (rest := [.int l3_5]) (wr := []) (ws' := fun _ => (wM (x_y X) a thrown g saved hasSaved coef nodes nodeMany isDeep codes details levelMany given paper papered tape taped wrongAt at_ value readPlace readValue readEpoch)) (st' := fun _ => [.int v6, .int l3_5]) (ci := 12) 2 0 ⟨_, rfl⟩ rfl rfl mw_7_73 mw_1_9 mw_7_70 mw_7_72 mp_36 hd_X11_stateOf rfl (g_rm hR rfl rfl) [0, 1, 2, 3, 4, 5, 6, 7, 8, 9] [] [0, 1, 2, 3, 4, 5, 6, 7, 8, 9] ⟨rfl, rfl, rfl, rfl, by decide, gRoIn_0, rfl, fun _ => rfl⟩ rfl (Nat.le_of_ble_eq_true rfl) dX11_count_32 (g_rc hR (Nat.le_of_ble_eq_true rfl) (Nat.le_of_ble_eq_true rfl)) (ck' := 0) (sk' := 0) rfl rfl (fun _ => rfl) (fun _ _ => ?_) (fun _ hx => absurd rfl hx)
            refine g_iload_n C 2 dX11_count_35 rfl ?_
            refine g_icmp_ne C 43 dX11_count_36 (by decide) (fun c8 => ?_) (fun c8 => ?_)
            · have hf := opt_neg c8 hf
              refine gW.locals [0, 1, 2, 4] rfl ?_
              exact H43 l4_5 l3_5 hf
            · have hf := opt_pos c8 hf
              refine gW.locals [0, 1, 2, 4] rfl ?_
              exact H39 l4_5 l3_5 hf
  show gW X Q 0 0 ((wM (x_y X) a thrown g saved hasSaved coef nodes nodeMany isDeep codes details levelMany given paper papered tape taped wrongAt at_ value readPlace readValue readEpoch)) [(0, .ref (a 0)), (1, .int p0), (2, .int p1)] [] 0
  refine g_iconst C (v := 0) dX11_count_0 (by decide) ?_
  refine g_istore_n C (lv' := [(3, .int 0), (0, .ref (a 0)), (1, .int p0), (2, .int p1)]) dX11_count_1 (g_nlt hn rfl) rfl ?_
  refine g_iconst C (v := 1) dX11_count_2 (by decide) ?_
  refine g_istore C (lv' := [(4, .int 1), (3, .int 0), (0, .ref (a 0)), (1, .int p0), (2, .int p1)]) dX11_count_3 (g_nlt hn rfl) rfl ?_
  refine gW.locals [2, 3, 4, 1, 0] rfl ?_
  exact H5 1000 0 1 hf
/-! X11_secret -/
theorem hd_X11_secret : yX11_secret.cls ≠ "java/lang/invoke/MethodHandle" ∧ yX11_secret.cls ≠ "java/lang/invoke/VarHandle" ∧ (parseMethodDescriptor yX11_secret.desc).map (fun d => d.parameters.length) = some 2 := by decide +kernel
def F_X11_secret_L116   (thrown_116 : Int32) (s0_116 : Int32) : Option (Int32 × Int32) := (F_X11_done thrown_116 s0_116).bind fun v24 => some (v24.1, v24.2)
def F_X11_secret (thrown : Int32) (g : Nat → Int32) (p0 : Int32) (p1 : Int32) : Option (Int32 × Int32) := (F_X11_isSlot p0).bind fun v1 => if v1 = 0 then ((F_X11_fails thrown 1).bind fun v34 => some (v34.1, v34.2)) else ((F_X11_in p1 0 6).bind fun v4 => if v4 = 0 then ((F_X11_fails thrown 2).bind fun v32 => some (v32.1, v32.2)) else ((F_X11_of g p0 0).bind fun v7 => if v7 = 0 then ((F_X11_fails thrown 3).bind fun v30 => some (v30.1, v30.2)) else (if p1 = 0 then ((F_X11_of g p0 1).bind fun v11 => (F_X11_done thrown v11).bind fun v13 => some (v13.1, v13.2)) else (if p1 = 1 then ((F_X11_of g p0 2).bind fun v16 => (F_X11_done thrown v16).bind fun v18 => some (v18.1, v18.2)) else (if p1 = 6 then ((F_X11_hasPolicy g p0).bind fun v21 => if v21 = 0 then (F_X11_secret_L116 thrown 0) else (F_X11_secret_L116 thrown 1)) else ((F_X11_count g p0 (p1 - 3)).bind fun v26 => (F_X11_done thrown v26).bind fun v28 => some (v28.1, v28.2)))))))
set_option maxRecDepth 100000 in
set_option maxHeartbeats 4000000 in
theorem c_X11_secret {l : Launch} {D : va_G} {cy : Nat → ClassId} {a : Nat → Nat} {thrown : Int32} {g : Nat → Int32} {saved : Nat → Int32} {hasSaved : Int32} {coef : Nat → Int32} {nodes : Nat → Int32} {nodeMany : Int32} {isDeep : Int32} {codes : Nat → Int32} {details : Nat → Int32} {levelMany : Int32} {given : Nat → Int32} {paper : Nat → Int32} {papered : Int32} {tape : Nat → Int32} {taped : Int32} {wrongAt : Int32} {at_ : Int32} {value : Int32} {readPlace : Int32} {readValue : Int32} {readEpoch : Int32} {p0 : Int32} {p1 : Int32}  {val : Int32 × Int32} (hf : F_X11_secret thrown g p0 p1 = some val) : gCt l D cy yX11_secret cX11_secret 3 (some .int) 4 94 0 0 [.ref (a 0), .int p0, .int p1] [] ((wM cy a thrown g saved hasSaved coef nodes nodeMany isDeep codes details levelMany given paper papered tape taped wrongAt at_ value readPlace readValue readEpoch)) 0 (fun _ : Unit => some (.int val.1)) (fun _ => (wM cy a val.2 g saved hasSaved coef nodes nodeMany isDeep codes details levelMany given paper papered tape taped wrongAt at_ value readPlace readValue readEpoch)) := by
  refine g_begin (by decide +kernel) (Nat.le_of_ble_eq_true rfl) ?_
  intro X Q hl hR hD hy hro hn C hin E
  subst hl; subst hD; subst hy
  replace C : gC X "SecretVaultModel" cX11_secret (some .int) := C
  unfold F_X11_secret at hf
  have H116 : ∀ (thrown_116 : Int32) (s0_116 : Int32), F_X11_secret_L116 thrown_116 s0_116 = some val → gW X Q 0 0 ((wM (x_y X) a thrown_116 g saved hasSaved coef nodes nodeMany isDeep codes details levelMany given paper papered tape taped wrongAt at_ value readPlace readValue readEpoch)) [(0, .ref (a 0)), (1, .int p0), (2, .int p1)] [.int s0_116, .ref (a 0)] 116 := by
    intro thrown_116 s0_116 hf
    unfold F_X11_secret_L116 at hf
    obtain ⟨v24, h25, hf⟩ := opt_bind hf
    refine g_callV C (c_X11_done (l := x_l X) (D := x_D X) (cy := x_y X) (a := a) (thrown := thrown_116) (g := g) (saved := saved) (hasSaved := hasSaved) (coef := coef) (nodes := nodes) (nodeMany := nodeMany) (isDeep := isDeep) (codes := codes) (details := details) (levelMany := levelMany) (given := given) (paper := paper) (papered := papered) (tape := tape) (taped := taped) (wrongAt := wrongAt) (at_ := at_) (value := value) (readPlace := readPlace) (readValue := readValue) (readEpoch := readEpoch) (p0 := s0_116) h25) (As := [.int s0_116]) (rest := []) (wr := []) (ws' := fun _ => (wM (x_y X) a v24.2 g saved hasSaved coef nodes nodeMany isDeep codes details levelMany given paper papered tape taped wrongAt at_ value readPlace readValue readEpoch)) (st' := fun _ => [.int v24.1]) (ci := 12) 1 0 ⟨_, rfl⟩ rfl rfl mw_7_22 mw_1_9 mw_7_19 mw_7_21 mp_29 hd_X11_done rfl (g_rm hR rfl rfl) [0, 1, 2, 3, 4, 5, 6, 7, 8, 9] [] [0, 1, 2, 3, 4, 5, 6, 7, 8, 9] ⟨rfl, rfl, rfl, rfl, by decide, gRoIn_0, rfl, fun _ => rfl⟩ rfl (Nat.le_of_ble_eq_true rfl) dX11_secret_116 (g_rc hR (Nat.le_of_ble_eq_true rfl) (Nat.le_of_ble_eq_true rfl)) (ck' := 0) (sk' := 0) rfl rfl (fun _ => rfl) (fun _ _ => ?_) (fun _ hx => absurd rfl hx)
    obtain rfl := Option.some.inj hf
    exact g_iret C E () dX11_secret_119 rfl rfl rfl (Nat.le_of_ble_eq_true rfl) (Nat.le_of_ble_eq_true rfl)
  show gW X Q 0 0 ((wM (x_y X) a thrown g saved hasSaved coef nodes nodeMany isDeep codes details levelMany given paper papered tape taped wrongAt at_ value readPlace readValue readEpoch)) [(0, .ref (a 0)), (1, .int p0), (2, .int p1)] [] 0
  refine g_iload_n C 1 dX11_secret_0 rfl ?_
  obtain ⟨v1, h2, hf⟩ := opt_bind hf
  refine g_callS C (c_X11_isSlot (l := x_l X) (D := x_D X) (cy := x_y X) (p0 := p0) h2) (As := [.int p0]) (rest := []) (wr := (wM (x_y X) a thrown g saved hasSaved coef nodes nodeMany isDeep codes details levelMany given paper papered tape taped wrongAt at_ value readPlace readValue readEpoch)) (ws' := fun _ => (wM (x_y X) a thrown g saved hasSaved coef nodes nodeMany isDeep codes details levelMany given paper papered tape taped wrongAt at_ value readPlace readValue readEpoch)) (st' := fun _ => [.int v1]) 1 mw_7_83 mw_1_9 mw_7_81 mw_7_82 hd_X11_isSlot rfl (g_rm hR rfl rfl) [] [0, 1, 2, 3, 4, 5, 6, 7, 8, 9] [0, 1, 2, 3, 4, 5, 6, 7, 8, 9] ⟨rfl, rfl, rfl, rfl, by decide, gRoIn_0, rfl, fun _ => rfl⟩ rfl (Nat.le_of_ble_eq_true rfl) dX11_secret_1 (g_rc hR (Nat.le_of_ble_eq_true rfl) (Nat.le_of_ble_eq_true rfl)) (ck' := 0) (sk' := 0) rfl rfl (fun _ => rfl) (fun _ _ => ?_) (fun _ hx => absurd rfl hx)
  refine g_if_ne C 13 dX11_secret_4 (by decide) (fun c3 => ?_) (fun c3 => ?_)
  · have hf := opt_neg c3 hf
    refine g_iload_n C 2 dX11_secret_13 rfl ?_
    refine g_iconst C (v := 0) dX11_secret_14 (by decide) ?_
    refine g_bipush C (v := 6) dX11_secret_15 (by decide) ?_
    obtain ⟨v4, h5, hf⟩ := opt_bind hf
    refine g_callS C (c_X11_in (l := x_l X) (D := x_D X) (cy := x_y X) (p0 := p1) (p1 := 0) (p2 := 6) h5) (As := [.int p1, .int 0, .int 6]) (rest := []) (wr := (wM (x_y X) a thrown g saved hasSaved coef nodes nodeMany isDeep codes details levelMany given paper papered tape taped wrongAt at_ value readPlace readValue readEpoch)) (ws' := fun _ => (wM (x_y X) a thrown g saved hasSaved coef nodes nodeMany isDeep codes details levelMany given paper papered tape taped wrongAt at_ value readPlace readValue readEpoch)) (st' := fun _ => [.int v4]) 3 mw_7_41 mw_1_9 mw_7_39 mw_7_40 hd_X11_in rfl (g_rm hR rfl rfl) [] [0, 1, 2, 3, 4, 5, 6, 7, 8, 9] [0, 1, 2, 3, 4, 5, 6, 7, 8, 9] ⟨rfl, rfl, rfl, rfl, by decide, gRoIn_0, rfl, fun _ => rfl⟩ rfl (Nat.le_of_ble_eq_true rfl) dX11_secret_17 (g_rc hR (Nat.le_of_ble_eq_true rfl) (Nat.le_of_ble_eq_true rfl)) (ck' := 0) (sk' := 0) rfl rfl (fun _ => rfl) (fun _ _ => ?_) (fun _ hx => absurd rfl hx)
    refine g_if_ne C 29 dX11_secret_20 (by decide) (fun c6 => ?_) (fun c6 => ?_)
    · have hf := opt_neg c6 hf
      refine g_aload_n C 0 dX11_secret_29 rfl ?_
      refine g_iload_n C 1 dX11_secret_30 rfl ?_
      refine g_iconst C (v := 0) dX11_secret_31 (by decide) ?_
      obtain ⟨v7, h8, hf⟩ := opt_bind hf
      refine g_callV C (c_X11_of (l := x_l X) (D := x_D X) (cy := x_y X) (a := a) (thrown := thrown) (g := g) (saved := saved) (hasSaved := hasSaved) (coef := coef) (nodes := nodes) (nodeMany := nodeMany) (isDeep := isDeep) (codes := codes) (details := details) (levelMany := levelMany) (given := given) (paper := paper) (papered := papered) (tape := tape) (taped := taped) (wrongAt := wrongAt) (at_ := at_) (value := value) (readPlace := readPlace) (readValue := readValue) (readEpoch := readEpoch) (p0 := p0) (p1 := 0) h8) (As := [.int p0, .int 0]) (rest := []) (wr := []) (ws' := fun _ => (wM (x_y X) a thrown g saved hasSaved coef nodes nodeMany isDeep codes details levelMany given paper papered tape taped wrongAt at_ value readPlace readValue readEpoch)) (st' := fun _ => [.int v7]) (ci := 12) 2 0 ⟨_, rfl⟩ rfl rfl mw_7_69 mw_1_9 mw_7_66 mw_7_68 mp_35 hd_X11_of rfl (g_rm hR rfl rfl) [0, 1, 2, 3, 4, 5, 6, 7, 8, 9] [] [0, 1, 2, 3, 4, 5, 6, 7, 8, 9] ⟨rfl, rfl, rfl, rfl, by decide, gRoIn_0, rfl, fun _ => rfl⟩ rfl (Nat.le_of_ble_eq_true rfl) dX11_secret_32 (g_rc hR (Nat.le_of_ble_eq_true rfl) (Nat.le_of_ble_eq_true rfl)) (ck' := 0) (sk' := 0) rfl rfl (fun _ => rfl) (fun _ _ => ?_) (fun _ hx => absurd rfl hx)
      refine g_if_ne C 44 dX11_secret_35 (by decide) (fun c9 => ?_) (fun c9 => ?_)
      · have hf := opt_neg c9 hf
        refine g_iload_n C 2 dX11_secret_44 rfl ?_
        by_cases c10 : p1 = 0
        · have hf := opt_pos c10 hf
          refine g_lookup C 80 (off := 35) dX11_secret_45 (by decide) (by rw [c10]; rfl) (by decide) ?_
          refine g_aload_n C 0 dX11_secret_80 rfl ?_
          refine g_aload_n C 0 dX11_secret_81 rfl ?_
          refine g_iload_n C 1 dX11_secret_82 rfl ?_
          refine g_iconst C (v := 1) dX11_secret_83 (by decide) ?_
          obtain ⟨v11, h12, hf⟩ := opt_bind hf
          refine g_callV C (c_X11_of (l := x_l X) (D := x_D X) (cy := x_y X) (a := a) (thrown := thrown) (g := g) (saved := saved) (hasSaved := hasSaved) (coef := coef) (nodes := nodes) (nodeMany := nodeMany) (isDeep := isDeep) (codes := codes) (details := details) (levelMany := levelMany) (given := given) (paper := paper) (papered := papered) (tape := tape) (taped := taped) (wrongAt := wrongAt) (at_ := at_) (value := value) (readPlace := readPlace) (readValue := readValue) (readEpoch := readEpoch) (p0 := p0) (p1 := 1) h12) (As := [.int p0, .int 1]) (rest := [.ref (a 0)]) (wr := []) (ws' := fun _ => (wM (x_y X) a thrown g saved hasSaved coef nodes nodeMany isDeep codes details levelMany given paper papered tape taped wrongAt at_ value readPlace readValue readEpoch)) (st' := fun _ => [.int v11, .ref (a 0)]) (ci := 12) 2 0 ⟨_, rfl⟩ rfl rfl mw_7_69 mw_1_9 mw_7_66 mw_7_68 mp_35 hd_X11_of rfl (g_rm hR rfl rfl) [0, 1, 2, 3, 4, 5, 6, 7, 8, 9] [] [0, 1, 2, 3, 4, 5, 6, 7, 8, 9] ⟨rfl, rfl, rfl, rfl, by decide, gRoIn_0, rfl, fun _ => rfl⟩ rfl (Nat.le_of_ble_eq_true rfl) dX11_secret_84 (g_rc hR (Nat.le_of_ble_eq_true rfl) (Nat.le_of_ble_eq_true rfl)) (ck' := 0) (sk' := 0) rfl rfl (fun _ => rfl) (fun _ _ => ?_) (fun _ hx => absurd rfl hx)
          obtain ⟨v13, h14, hf⟩ := opt_bind hf
          refine g_callV C (c_X11_done (l := x_l X) (D := x_D X) (cy := x_y X) (a := a) (thrown := thrown) (g := g) (saved := saved) (hasSaved := hasSaved) (coef := coef) (nodes := nodes) (nodeMany := nodeMany) (isDeep := isDeep) (codes := codes) (details := details) (levelMany := levelMany) (given := given) (paper := paper) (papered := papered) (tape := tape) (taped := taped) (wrongAt := wrongAt) (at_ := at_) (value := value) (readPlace := readPlace) (readValue := readValue) (readEpoch := readEpoch) (p0 := v11) h14) (As := [.int v11]) (rest := []) (wr := []) (ws' := fun _ => (wM (x_y X) a v13.2 g saved hasSaved coef nodes nodeMany isDeep codes details levelMany given paper papered tape taped wrongAt at_ value readPlace readValue readEpoch)) (st' := fun _ => [.int v13.1]) (ci := 12) 1 0 ⟨_, rfl⟩ rfl rfl mw_7_22 mw_1_9 mw_7_19 mw_7_21 mp_29 hd_X11_done rfl (g_rm hR rfl rfl) [0, 1, 2, 3, 4, 5, 6, 7, 8, 9] [] [0, 1, 2, 3, 4, 5, 6, 7, 8, 9] ⟨rfl, rfl, rfl, rfl, by decide, gRoIn_0, rfl, fun _ => rfl⟩ rfl (Nat.le_of_ble_eq_true rfl) dX11_secret_87 (g_rc hR (Nat.le_of_ble_eq_true rfl) (Nat.le_of_ble_eq_true rfl)) (ck' := 0) (sk' := 0) rfl rfl (fun _ => rfl) (fun _ _ => ?_) (fun _ hx => absurd rfl hx)
          obtain rfl := Option.some.inj hf
          exact g_iret C E () dX11_secret_90 rfl rfl rfl (Nat.le_of_ble_eq_true rfl) (Nat.le_of_ble_eq_true rfl)
        have hf := opt_neg c10 hf
        by_cases c15 : p1 = 1
        · have hf := opt_pos c15 hf
          refine g_lookup C 91 (off := 46) dX11_secret_45 (by decide) (by rw [c15]; rfl) (by decide) ?_
          refine g_aload_n C 0 dX11_secret_91 rfl ?_
          refine g_aload_n C 0 dX11_secret_92 rfl ?_
          refine g_iload_n C 1 dX11_secret_93 rfl ?_
          refine g_iconst C (v := 2) dX11_secret_94 (by decide) ?_
          obtain ⟨v16, h17, hf⟩ := opt_bind hf
          refine g_callV C (c_X11_of (l := x_l X) (D := x_D X) (cy := x_y X) (a := a) (thrown := thrown) (g := g) (saved := saved) (hasSaved := hasSaved) (coef := coef) (nodes := nodes) (nodeMany := nodeMany) (isDeep := isDeep) (codes := codes) (details := details) (levelMany := levelMany) (given := given) (paper := paper) (papered := papered) (tape := tape) (taped := taped) (wrongAt := wrongAt) (at_ := at_) (value := value) (readPlace := readPlace) (readValue := readValue) (readEpoch := readEpoch) (p0 := p0) (p1 := 2) h17) (As := [.int p0, .int 2]) (rest := [.ref (a 0)]) (wr := []) (ws' := fun _ => (wM (x_y X) a thrown g saved hasSaved coef nodes nodeMany isDeep codes details levelMany given paper papered tape taped wrongAt at_ value readPlace readValue readEpoch)) (st' := fun _ => [.int v16, .ref (a 0)]) (ci := 12) 2 0 ⟨_, rfl⟩ rfl rfl mw_7_69 mw_1_9 mw_7_66 mw_7_68 mp_35 hd_X11_of rfl (g_rm hR rfl rfl) [0, 1, 2, 3, 4, 5, 6, 7, 8, 9] [] [0, 1, 2, 3, 4, 5, 6, 7, 8, 9] ⟨rfl, rfl, rfl, rfl, by decide, gRoIn_0, rfl, fun _ => rfl⟩ rfl (Nat.le_of_ble_eq_true rfl) dX11_secret_95 (g_rc hR (Nat.le_of_ble_eq_true rfl) (Nat.le_of_ble_eq_true rfl)) (ck' := 0) (sk' := 0) rfl rfl (fun _ => rfl) (fun _ _ => ?_) (fun _ hx => absurd rfl hx)
          obtain ⟨v18, h19, hf⟩ := opt_bind hf
          refine g_callV C (c_X11_done (l := x_l X) (D := x_D X) (cy := x_y X) (a := a) (thrown := thrown) (g := g) (saved := saved) (hasSaved := hasSaved) (coef := coef) (nodes := nodes) (nodeMany := nodeMany) (isDeep := isDeep) (codes := codes) (details := details) (levelMany := levelMany) (given := given) (paper := paper) (papered := papered) (tape := tape) (taped := taped) (wrongAt := wrongAt) (at_ := at_) (value := value) (readPlace := readPlace) (readValue := readValue) (readEpoch := readEpoch) (p0 := v16) h19) (As := [.int v16]) (rest := []) (wr := []) (ws' := fun _ => (wM (x_y X) a v18.2 g saved hasSaved coef nodes nodeMany isDeep codes details levelMany given paper papered tape taped wrongAt at_ value readPlace readValue readEpoch)) (st' := fun _ => [.int v18.1]) (ci := 12) 1 0 ⟨_, rfl⟩ rfl rfl mw_7_22 mw_1_9 mw_7_19 mw_7_21 mp_29 hd_X11_done rfl (g_rm hR rfl rfl) [0, 1, 2, 3, 4, 5, 6, 7, 8, 9] [] [0, 1, 2, 3, 4, 5, 6, 7, 8, 9] ⟨rfl, rfl, rfl, rfl, by decide, gRoIn_0, rfl, fun _ => rfl⟩ rfl (Nat.le_of_ble_eq_true rfl) dX11_secret_98 (g_rc hR (Nat.le_of_ble_eq_true rfl) (Nat.le_of_ble_eq_true rfl)) (ck' := 0) (sk' := 0) rfl rfl (fun _ => rfl) (fun _ _ => ?_) (fun _ hx => absurd rfl hx)
          obtain rfl := Option.some.inj hf
          exact g_iret C E () dX11_secret_101 rfl rfl rfl (Nat.le_of_ble_eq_true rfl) (Nat.le_of_ble_eq_true rfl)
        have hf := opt_neg c15 hf
        by_cases c20 : p1 = 6
        · have hf := opt_pos c20 hf
          refine g_lookup C 102 (off := 57) dX11_secret_45 (by decide) (by rw [c20]; rfl) (by decide) ?_
          refine g_aload_n C 0 dX11_secret_102 rfl ?_
          refine g_aload_n C 0 dX11_secret_103 rfl ?_
          refine g_iload_n C 1 dX11_secret_104 rfl ?_
          obtain ⟨v21, h22, hf⟩ := opt_bind hf
          refine g_callV C (c_X11_hasPolicy (l := x_l X) (D := x_D X) (cy := x_y X) (a := a) (thrown := thrown) (g := g) (saved := saved) (hasSaved := hasSaved) (coef := coef) (nodes := nodes) (nodeMany := nodeMany) (isDeep := isDeep) (codes := codes) (details := details) (levelMany := levelMany) (given := given) (paper := paper) (papered := papered) (tape := tape) (taped := taped) (wrongAt := wrongAt) (at_ := at_) (value := value) (readPlace := readPlace) (readValue := readValue) (readEpoch := readEpoch) (p0 := p0) h22) (As := [.int p0]) (rest := [.ref (a 0)]) (wr := []) (ws' := fun _ => (wM (x_y X) a thrown g saved hasSaved coef nodes nodeMany isDeep codes details levelMany given paper papered tape taped wrongAt at_ value readPlace readValue readEpoch)) (st' := fun _ => [.int v21, .ref (a 0)]) (ci := 12) 1 0 ⟨_, rfl⟩ rfl rfl mw_7_161 mw_1_9 mw_7_158 mw_7_160 mp_51 hd_X11_hasPolicy rfl (g_rm hR rfl rfl) [0, 1, 2, 3, 4, 5, 6, 7, 8, 9] [] [0, 1, 2, 3, 4, 5, 6, 7, 8, 9] ⟨rfl, rfl, rfl, rfl, by decide, gRoIn_0, rfl, fun _ => rfl⟩ rfl (Nat.le_of_ble_eq_true rfl) dX11_secret_105 (g_rc hR (Nat.le_of_ble_eq_true rfl) (Nat.le_of_ble_eq_true rfl)) (ck' := 0) (sk' := 0) rfl rfl (fun _ => rfl) (fun _ _ => ?_) (fun _ hx => absurd rfl hx)
          refine g_if_eq C 115 dX11_secret_108 (by decide) (fun c23 => ?_) (fun c23 => ?_)
          · have hf := opt_pos c23 hf
            refine g_iconst C (v := 0) dX11_secret_115 (by decide) ?_
            exact H116 thrown 0 hf
          · have hf := opt_neg c23 hf
            refine g_iconst C (v := 1) dX11_secret_111 (by decide) ?_
            refine g_goto C 116 dX11_secret_112 (by decide) ?_
            exact H116 thrown 1 hf
        have hf := opt_neg c20 hf
        refine g_lookup C 120 (off := 75) dX11_secret_45 (by decide) ((lv_osw (k := 0) c10 (by decide)).trans ((lv_osw (k := 1) c15 (by decide)).trans ((lv_osw (k := 6) c20 (by decide)).trans rfl))) (by decide) ?_
        refine g_aload_n C 0 dX11_secret_120 rfl ?_
        refine g_aload_n C 0 dX11_secret_121 rfl ?_
        refine g_iload_n C 1 dX11_secret_122 rfl ?_
        refine g_iload_n C 2 dX11_secret_123 rfl ?_
        refine g_iconst C (v := 3) dX11_secret_124 (by decide) ?_
        refine g_isub C dX11_secret_125 ?_
        obtain ⟨v26, h27, hf⟩ := opt_bind hf
        refine g_callV C (c_X11_count (l := x_l X) (D := x_D X) (cy := x_y X) (a := a) (thrown := thrown) (g := g) (saved := saved) (hasSaved := hasSaved) (coef := coef) (nodes := nodes) (nodeMany := nodeMany) (isDeep := isDeep) (codes := codes) (details := details) (levelMany := levelMany) (given := given) (paper := paper) (papered := papered) (tape := tape) (taped := taped) (wrongAt := wrongAt) (at_ := at_) (value := value) (readPlace := readPlace) (readValue := readValue) (readEpoch := readEpoch) (p0 := p0) (p1 := p1 - 3) h27) (As := [.int p0, .int (p1 - 3)]) (rest := [.ref (a 0)]) (wr := []) (ws' := fun _ => (wM (x_y X) a thrown g saved hasSaved coef nodes nodeMany isDeep codes details levelMany given paper papered tape taped wrongAt at_ value readPlace readValue readEpoch)) (st' := fun _ => [.int v26, .ref (a 0)]) (ci := 12) 2 0 ⟨_, rfl⟩ rfl rfl mw_7_223 mw_1_9 mw_7_220 mw_7_222 mp_59 hd_X11_count rfl (g_rm hR rfl rfl) [0, 1, 2, 3, 4, 5, 6, 7, 8, 9] [] [0, 1, 2, 3, 4, 5, 6, 7, 8, 9] ⟨rfl, rfl, rfl, rfl, by decide, gRoIn_0, rfl, fun _ => rfl⟩ rfl (Nat.le_of_ble_eq_true rfl) dX11_secret_126 (g_rc hR (Nat.le_of_ble_eq_true rfl) (Nat.le_of_ble_eq_true rfl)) (ck' := 0) (sk' := 0) rfl rfl (fun _ => rfl) (fun _ _ => ?_) (fun _ hx => absurd rfl hx)
        obtain ⟨v28, h29, hf⟩ := opt_bind hf
        refine g_callV C (c_X11_done (l := x_l X) (D := x_D X) (cy := x_y X) (a := a) (thrown := thrown) (g := g) (saved := saved) (hasSaved := hasSaved) (coef := coef) (nodes := nodes) (nodeMany := nodeMany) (isDeep := isDeep) (codes := codes) (details := details) (levelMany := levelMany) (given := given) (paper := paper) (papered := papered) (tape := tape) (taped := taped) (wrongAt := wrongAt) (at_ := at_) (value := value) (readPlace := readPlace) (readValue := readValue) (readEpoch := readEpoch) (p0 := v26) h29) (As := [.int v26]) (rest := []) (wr := []) (ws' := fun _ => (wM (x_y X) a v28.2 g saved hasSaved coef nodes nodeMany isDeep codes details levelMany given paper papered tape taped wrongAt at_ value readPlace readValue readEpoch)) (st' := fun _ => [.int v28.1]) (ci := 12) 1 0 ⟨_, rfl⟩ rfl rfl mw_7_22 mw_1_9 mw_7_19 mw_7_21 mp_29 hd_X11_done rfl (g_rm hR rfl rfl) [0, 1, 2, 3, 4, 5, 6, 7, 8, 9] [] [0, 1, 2, 3, 4, 5, 6, 7, 8, 9] ⟨rfl, rfl, rfl, rfl, by decide, gRoIn_0, rfl, fun _ => rfl⟩ rfl (Nat.le_of_ble_eq_true rfl) dX11_secret_129 (g_rc hR (Nat.le_of_ble_eq_true rfl) (Nat.le_of_ble_eq_true rfl)) (ck' := 0) (sk' := 0) rfl rfl (fun _ => rfl) (fun _ _ => ?_) (fun _ hx => absurd rfl hx)
        obtain rfl := Option.some.inj hf
        exact g_iret C E () dX11_secret_132 rfl rfl rfl (Nat.le_of_ble_eq_true rfl) (Nat.le_of_ble_eq_true rfl)
      · have hf := opt_pos c9 hf
        refine g_aload_n C 0 dX11_secret_38 rfl ?_
        refine g_iconst C (v := 3) dX11_secret_39 (by decide) ?_
        obtain ⟨v30, h31, hf⟩ := opt_bind hf
        refine g_callV C (c_X11_fails (l := x_l X) (D := x_D X) (cy := x_y X) (a := a) (thrown := thrown) (g := g) (saved := saved) (hasSaved := hasSaved) (coef := coef) (nodes := nodes) (nodeMany := nodeMany) (isDeep := isDeep) (codes := codes) (details := details) (levelMany := levelMany) (given := given) (paper := paper) (papered := papered) (tape := tape) (taped := taped) (wrongAt := wrongAt) (at_ := at_) (value := value) (readPlace := readPlace) (readValue := readValue) (readEpoch := readEpoch) (p0 := 3) h31) (As := [.int 3]) (rest := []) (wr := []) (ws' := fun _ => (wM (x_y X) a v30.2 g saved hasSaved coef nodes nodeMany isDeep codes details levelMany given paper papered tape taped wrongAt at_ value readPlace readValue readEpoch)) (st' := fun _ => [.int v30.1]) (ci := 12) 1 0 ⟨_, rfl⟩ rfl rfl mw_7_45 mw_1_9 mw_7_42 mw_7_44 mp_31 hd_X11_fails rfl (g_rm hR rfl rfl) [0, 1, 2, 3, 4, 5, 6, 7, 8, 9] [] [0, 1, 2, 3, 4, 5, 6, 7, 8, 9] ⟨rfl, rfl, rfl, rfl, by decide, gRoIn_0, rfl, fun _ => rfl⟩ rfl (Nat.le_of_ble_eq_true rfl) dX11_secret_40 (g_rc hR (Nat.le_of_ble_eq_true rfl) (Nat.le_of_ble_eq_true rfl)) (ck' := 0) (sk' := 0) rfl rfl (fun _ => rfl) (fun _ _ => ?_) (fun _ hx => absurd rfl hx)
        obtain rfl := Option.some.inj hf
        exact g_iret C E () dX11_secret_43 rfl rfl rfl (Nat.le_of_ble_eq_true rfl) (Nat.le_of_ble_eq_true rfl)
    · have hf := opt_pos c6 hf
      refine g_aload_n C 0 dX11_secret_23 rfl ?_
      refine g_iconst C (v := 2) dX11_secret_24 (by decide) ?_
      obtain ⟨v32, h33, hf⟩ := opt_bind hf
      refine g_callV C (c_X11_fails (l := x_l X) (D := x_D X) (cy := x_y X) (a := a) (thrown := thrown) (g := g) (saved := saved) (hasSaved := hasSaved) (coef := coef) (nodes := nodes) (nodeMany := nodeMany) (isDeep := isDeep) (codes := codes) (details := details) (levelMany := levelMany) (given := given) (paper := paper) (papered := papered) (tape := tape) (taped := taped) (wrongAt := wrongAt) (at_ := at_) (value := value) (readPlace := readPlace) (readValue := readValue) (readEpoch := readEpoch) (p0 := 2) h33) (As := [.int 2]) (rest := []) (wr := []) (ws' := fun _ => (wM (x_y X) a v32.2 g saved hasSaved coef nodes nodeMany isDeep codes details levelMany given paper papered tape taped wrongAt at_ value readPlace readValue readEpoch)) (st' := fun _ => [.int v32.1]) (ci := 12) 1 0 ⟨_, rfl⟩ rfl rfl mw_7_45 mw_1_9 mw_7_42 mw_7_44 mp_31 hd_X11_fails rfl (g_rm hR rfl rfl) [0, 1, 2, 3, 4, 5, 6, 7, 8, 9] [] [0, 1, 2, 3, 4, 5, 6, 7, 8, 9] ⟨rfl, rfl, rfl, rfl, by decide, gRoIn_0, rfl, fun _ => rfl⟩ rfl (Nat.le_of_ble_eq_true rfl) dX11_secret_25 (g_rc hR (Nat.le_of_ble_eq_true rfl) (Nat.le_of_ble_eq_true rfl)) (ck' := 0) (sk' := 0) rfl rfl (fun _ => rfl) (fun _ _ => ?_) (fun _ hx => absurd rfl hx)
      obtain rfl := Option.some.inj hf
      exact g_iret C E () dX11_secret_28 rfl rfl rfl (Nat.le_of_ble_eq_true rfl) (Nat.le_of_ble_eq_true rfl)
  · have hf := opt_pos c3 hf
    refine g_aload_n C 0 dX11_secret_7 rfl ?_
    refine g_iconst C (v := 1) dX11_secret_8 (by decide) ?_
    obtain ⟨v34, h35, hf⟩ := opt_bind hf
    refine g_callV C (c_X11_fails (l := x_l X) (D := x_D X) (cy := x_y X) (a := a) (thrown := thrown) (g := g) (saved := saved) (hasSaved := hasSaved) (coef := coef) (nodes := nodes) (nodeMany := nodeMany) (isDeep := isDeep) (codes := codes) (details := details) (levelMany := levelMany) (given := given) (paper := paper) (papered := papered) (tape := tape) (taped := taped) (wrongAt := wrongAt) (at_ := at_) (value := value) (readPlace := readPlace) (readValue := readValue) (readEpoch := readEpoch) (p0 := 1) h35) (As := [.int 1]) (rest := []) (wr := []) (ws' := fun _ => (wM (x_y X) a v34.2 g saved hasSaved coef nodes nodeMany isDeep codes details levelMany given paper papered tape taped wrongAt at_ value readPlace readValue readEpoch)) (st' := fun _ => [.int v34.1]) (ci := 12) 1 0 ⟨_, rfl⟩ rfl rfl mw_7_45 mw_1_9 mw_7_42 mw_7_44 mp_31 hd_X11_fails rfl (g_rm hR rfl rfl) [0, 1, 2, 3, 4, 5, 6, 7, 8, 9] [] [0, 1, 2, 3, 4, 5, 6, 7, 8, 9] ⟨rfl, rfl, rfl, rfl, by decide, gRoIn_0, rfl, fun _ => rfl⟩ rfl (Nat.le_of_ble_eq_true rfl) dX11_secret_9 (g_rc hR (Nat.le_of_ble_eq_true rfl) (Nat.le_of_ble_eq_true rfl)) (ck' := 0) (sk' := 0) rfl rfl (fun _ => rfl) (fun _ _ => ?_) (fun _ hx => absurd rfl hx)
    obtain rfl := Option.some.inj hf
    exact g_iret C E () dX11_secret_12 rfl rfl rfl (Nat.le_of_ble_eq_true rfl) (Nat.le_of_ble_eq_true rfl)
/-! X11_commitment -/
theorem hd_X11_commitment : yX11_commitment.cls ≠ "java/lang/invoke/MethodHandle" ∧ yX11_commitment.cls ≠ "java/lang/invoke/VarHandle" ∧ (parseMethodDescriptor yX11_commitment.desc).map (fun d => d.parameters.length) = some 2 := by decide +kernel
def F_X11_commitment_L52   (thrown_52 : Int32) (s0_52 : Int32) : Option (Int32 × Int32) := some (s0_52, thrown_52)
def F_X11_commitment (thrown : Int32) (g : Nat → Int32) (p0 : Int32) (p1 : Int32) : Option (Int32 × Int32) := (F_X11_lacks g p0).bind fun v1 => if v1 = 0 then ((F_X11_of g p0 1).bind fun v4 => (F_X11_in p1 0 (v4 - 1)).bind fun v6 => if v6 = 0 then ((F_X11_fails thrown 2).bind fun v9 => F_X11_commitment_L52 v9.2 v9.1) else ((F_X11_of g p0 ((3 : Int32) + p1)).bind fun v11 => (F_X11_done thrown v11).bind fun v13 => F_X11_commitment_L52 v13.2 v13.1)) else ((F_X11_fails thrown v1).bind fun v15 => some (v15.1, v15.2))
set_option maxRecDepth 100000 in
set_option maxHeartbeats 4000000 in
theorem c_X11_commitment {l : Launch} {D : va_G} {cy : Nat → ClassId} {a : Nat → Nat} {thrown : Int32} {g : Nat → Int32} {saved : Nat → Int32} {hasSaved : Int32} {coef : Nat → Int32} {nodes : Nat → Int32} {nodeMany : Int32} {isDeep : Int32} {codes : Nat → Int32} {details : Nat → Int32} {levelMany : Int32} {given : Nat → Int32} {paper : Nat → Int32} {papered : Int32} {tape : Nat → Int32} {taped : Int32} {wrongAt : Int32} {at_ : Int32} {value : Int32} {readPlace : Int32} {readValue : Int32} {readEpoch : Int32} {p0 : Int32} {p1 : Int32}  {val : Int32 × Int32} (hf : F_X11_commitment thrown g p0 p1 = some val) : gCt l D cy yX11_commitment cX11_commitment 4 (some .int) 3 63 0 0 [.ref (a 0), .int p0, .int p1] [] ((wM cy a thrown g saved hasSaved coef nodes nodeMany isDeep codes details levelMany given paper papered tape taped wrongAt at_ value readPlace readValue readEpoch)) 0 (fun _ : Unit => some (.int val.1)) (fun _ => (wM cy a val.2 g saved hasSaved coef nodes nodeMany isDeep codes details levelMany given paper papered tape taped wrongAt at_ value readPlace readValue readEpoch)) := by
  refine g_begin (by decide +kernel) (Nat.le_of_ble_eq_true rfl) ?_
  intro X Q hl hR hD hy hro hn C hin E
  subst hl; subst hD; subst hy
  replace C : gC X "SecretVaultModel" cX11_commitment (some .int) := C
  unfold F_X11_commitment at hf
  have H52 : ∀ (thrown_52 : Int32) (s0_52 : Int32), F_X11_commitment_L52 thrown_52 s0_52 = some val → gW X Q 0 0 ((wM (x_y X) a thrown_52 g saved hasSaved coef nodes nodeMany isDeep codes details levelMany given paper papered tape taped wrongAt at_ value readPlace readValue readEpoch)) [(0, .ref (a 0)), (1, .int p0), (2, .int p1)] [.int s0_52] 52 := by
    intro thrown_52 s0_52 hf
    unfold F_X11_commitment_L52 at hf
    obtain rfl := Option.some.inj hf
    exact g_iret C E () dX11_commitment_52 rfl rfl rfl (Nat.le_of_ble_eq_true rfl) (Nat.le_of_ble_eq_true rfl)
  show gW X Q 0 0 ((wM (x_y X) a thrown g saved hasSaved coef nodes nodeMany isDeep codes details levelMany given paper papered tape taped wrongAt at_ value readPlace readValue readEpoch)) [(0, .ref (a 0)), (1, .int p0), (2, .int p1)] [] 0
  refine g_aload_n C 0 dX11_commitment_0 rfl ?_
  refine g_iload_n C 1 dX11_commitment_1 rfl ?_
  obtain ⟨v1, h2, hf⟩ := opt_bind hf
  refine g_callV C (c_X11_lacks (l := x_l X) (D := x_D X) (cy := x_y X) (a := a) (thrown := thrown) (g := g) (saved := saved) (hasSaved := hasSaved) (coef := coef) (nodes := nodes) (nodeMany := nodeMany) (isDeep := isDeep) (codes := codes) (details := details) (levelMany := levelMany) (given := given) (paper := paper) (papered := papered) (tape := tape) (taped := taped) (wrongAt := wrongAt) (at_ := at_) (value := value) (readPlace := readPlace) (readValue := readValue) (readEpoch := readEpoch) (p0 := p0) h2) (As := [.int p0]) (rest := []) (wr := []) (ws' := fun _ => (wM (x_y X) a thrown g saved hasSaved coef nodes nodeMany isDeep codes details levelMany given paper papered tape taped wrongAt at_ value readPlace readValue readEpoch)) (st' := fun _ => [.int v1]) (ci := 12) 1 0 ⟨_, rfl⟩ rfl rfl mw_7_126 mw_1_9 mw_7_123 mw_7_125 mp_45 hd_X11_lacks rfl (g_rm hR rfl rfl) [0, 1, 2, 3, 4, 5, 6, 7, 8, 9] [] [0, 1, 2, 3, 4, 5, 6, 7, 8, 9] ⟨rfl, rfl, rfl, rfl, by decide, gRoIn_0, rfl, fun _ => rfl⟩ rfl (Nat.le_of_ble_eq_true rfl) dX11_commitment_2 (g_rc hR (Nat.le_of_ble_eq_true rfl) (Nat.le_of_ble_eq_true rfl)) (ck' := 0) (sk' := 0) rfl rfl (fun _ => rfl) (fun _ _ => ?_) (fun _ hx => absurd rfl hx)
  refine g_istore_n C (lv' := [(3, .int v1), (0, .ref (a 0)), (1, .int p0), (2, .int p1)]) dX11_commitment_5 (g_nlt hn rfl) rfl ?_
  refine g_iload_n C 0 dX11_commitment_6 rfl ?_
  refine g_if_eq C 16 dX11_commitment_7 (by decide) (fun c3 => ?_) (fun c3 => ?_)
  · have hf := opt_pos c3 hf
    refine g_iload_n C 3 dX11_commitment_16 rfl ?_
    refine g_iconst C (v := 0) dX11_commitment_17 (by decide) ?_
    refine g_aload_n C 1 dX11_commitment_18 rfl ?_
    refine g_iload_n C 2 dX11_commitment_19 rfl ?_
    refine g_iconst C (v := 1) dX11_commitment_20 (by decide) ?_
    obtain ⟨v4, h5, hf⟩ := opt_bind hf
    refine g_callV C (c_X11_of (l := x_l X) (D := x_D X) (cy := x_y X) (a := a) (thrown := thrown) (g := g) (saved := saved) (hasSaved := hasSaved) (coef := coef) (nodes := nodes) (nodeMany := nodeMany) (isDeep := isDeep) (codes := codes) (details := details) (levelMany := levelMany) (given := given) (paper := paper) (papered := papered) (tape := tape) (taped := taped) (wrongAt := wrongAt) (at_ := at_) (value := value) (readPlace := readPlace) (readValue := readValue) (readEpoch := readEpoch) (p0 := p0) (p1 := 1) h5) (As := [.int p0, .int 1]) (rest := [.int 0, .int p1]) (wr := []) (ws' := fun _ => (wM (x_y X) a thrown g saved hasSaved coef nodes nodeMany isDeep codes details levelMany given paper papered tape taped wrongAt at_ value readPlace readValue readEpoch)) (st' := fun _ => [.int v4, .int 0, .int p1]) (ci := 12) 2 0 ⟨_, rfl⟩ rfl rfl mw_7_69 mw_1_9 mw_7_66 mw_7_68 mp_35 hd_X11_of rfl (g_rm hR rfl rfl) [0, 1, 2, 3, 4, 5, 6, 7, 8, 9] [] [0, 1, 2, 3, 4, 5, 6, 7, 8, 9] ⟨rfl, rfl, rfl, rfl, by decide, gRoIn_0, rfl, fun _ => rfl⟩ rfl (Nat.le_of_ble_eq_true rfl) dX11_commitment_21 (g_rc hR (Nat.le_of_ble_eq_true rfl) (Nat.le_of_ble_eq_true rfl)) (ck' := 0) (sk' := 0) rfl rfl (fun _ => rfl) (fun _ _ => ?_) (fun _ hx => absurd rfl hx)
    refine g_iconst C (v := 1) dX11_commitment_24 (by decide) ?_
    refine g_isub C dX11_commitment_25 ?_
    obtain ⟨v6, h7, hf⟩ := opt_bind hf
    refine g_callS C (c_X11_in (l := x_l X) (D := x_D X) (cy := x_y X) (p0 := p1) (p1 := 0) (p2 := v4 - 1) h7) (As := [.int p1, .int 0, .int (v4 - 1)]) (rest := []) (wr := (wM (x_y X) a thrown g saved hasSaved coef nodes nodeMany isDeep codes details levelMany given paper papered tape taped wrongAt at_ value readPlace readValue readEpoch)) (ws' := fun _ => (wM (x_y X) a thrown g saved hasSaved coef nodes nodeMany isDeep codes details levelMany given paper papered tape taped wrongAt at_ value readPlace readValue readEpoch)) (st' := fun _ => [.int v6]) 3 mw_7_41 mw_1_9 mw_7_39 mw_7_40 hd_X11_in rfl (g_rm hR rfl rfl) [] [0, 1, 2, 3, 4, 5, 6, 7, 8, 9] [0, 1, 2, 3, 4, 5, 6, 7, 8, 9] ⟨rfl, rfl, rfl, rfl, by decide, gRoIn_0, rfl, fun _ => rfl⟩ rfl (Nat.le_of_ble_eq_true rfl) dX11_commitment_26 (g_rc hR (Nat.le_of_ble_eq_true rfl) (Nat.le_of_ble_eq_true rfl)) (ck' := 0) (sk' := 0) rfl rfl (fun _ => rfl) (fun _ _ => ?_) (fun _ hx => absurd rfl hx)
    refine g_if_eq C 47 dX11_commitment_29 (by decide) (fun c8 => ?_) (fun c8 => ?_)
    · have hf := opt_pos c8 hf
      refine g_aload_n C 1 dX11_commitment_47 rfl ?_
      refine g_iconst C (v := 2) dX11_commitment_48 (by decide) ?_
      obtain ⟨v9, h10, hf⟩ := opt_bind hf
      refine g_callV C (c_X11_fails (l := x_l X) (D := x_D X) (cy := x_y X) (a := a) (thrown := thrown) (g := g) (saved := saved) (hasSaved := hasSaved) (coef := coef) (nodes := nodes) (nodeMany := nodeMany) (isDeep := isDeep) (codes := codes) (details := details) (levelMany := levelMany) (given := given) (paper := paper) (papered := papered) (tape := tape) (taped := taped) (wrongAt := wrongAt) (at_ := at_) (value := value) (readPlace := readPlace) (readValue := readValue) (readEpoch := readEpoch) (p0 := 2) h10) (As := [.int 2]) (rest := []) (wr := []) (ws' := fun _ => (wM (x_y X) a v9.2 g saved hasSaved coef nodes nodeMany isDeep codes details levelMany given paper papered tape taped wrongAt at_ value readPlace readValue readEpoch)) (st' := fun _ => [.int v9.1]) (ci := 12) 1 0 ⟨_, rfl⟩ rfl rfl mw_7_45 mw_1_9 mw_7_42 mw_7_44 mp_31 hd_X11_fails rfl (g_rm hR rfl rfl) [0, 1, 2, 3, 4, 5, 6, 7, 8, 9] [] [0, 1, 2, 3, 4, 5, 6, 7, 8, 9] ⟨rfl, rfl, rfl, rfl, by decide, gRoIn_0, rfl, fun _ => rfl⟩ rfl (Nat.le_of_ble_eq_true rfl) dX11_commitment_49 (g_rc hR (Nat.le_of_ble_eq_true rfl) (Nat.le_of_ble_eq_true rfl)) (ck' := 0) (sk' := 0) rfl rfl (fun _ => rfl) (fun _ _ => ?_) (fun _ hx => absurd rfl hx)
      refine gW.locals [1, 2, 3] rfl ?_
      exact H52 v9.2 v9.1 hf
    · have hf := opt_neg c8 hf
      refine g_aload_n C 1 dX11_commitment_32 rfl ?_
      refine g_aload_n C 1 dX11_commitment_33 rfl ?_
      refine g_iload_n C 2 dX11_commitment_34 rfl ?_
      refine g_iconst C (v := 3) dX11_commitment_35 (by decide) ?_
      refine g_iload_n C 3 dX11_commitment_36 rfl ?_
      refine g_iadd C dX11_commitment_37 ?_
      obtain ⟨v11, h12, hf⟩ := opt_bind hf
      refine g_callV C (c_X11_of (l := x_l X) (D := x_D X) (cy := x_y X) (a := a) (thrown := thrown) (g := g) (saved := saved) (hasSaved := hasSaved) (coef := coef) (nodes := nodes) (nodeMany := nodeMany) (isDeep := isDeep) (codes := codes) (details := details) (levelMany := levelMany) (given := given) (paper := paper) (papered := papered) (tape := tape) (taped := taped) (wrongAt := wrongAt) (at_ := at_) (value := value) (readPlace := readPlace) (readValue := readValue) (readEpoch := readEpoch) (p0 := p0) (p1 := (3 : Int32) + p1) h12) (As := [.int p0, .int ((3 : Int32) + p1)]) (rest := [.ref (a 0)]) (wr := []) (ws' := fun _ => (wM (x_y X) a thrown g saved hasSaved coef nodes nodeMany isDeep codes details levelMany given paper papered tape taped wrongAt at_ value readPlace readValue readEpoch)) (st' := fun _ => [.int v11, .ref (a 0)]) (ci := 12) 2 0 ⟨_, rfl⟩ rfl rfl mw_7_69 mw_1_9 mw_7_66 mw_7_68 mp_35 hd_X11_of rfl (g_rm hR rfl rfl) [0, 1, 2, 3, 4, 5, 6, 7, 8, 9] [] [0, 1, 2, 3, 4, 5, 6, 7, 8, 9] ⟨rfl, rfl, rfl, rfl, by decide, gRoIn_0, rfl, fun _ => rfl⟩ rfl (Nat.le_of_ble_eq_true rfl) dX11_commitment_38 (g_rc hR (Nat.le_of_ble_eq_true rfl) (Nat.le_of_ble_eq_true rfl)) (ck' := 0) (sk' := 0) rfl rfl (fun _ => rfl) (fun _ _ => ?_) (fun _ hx => absurd rfl hx)
      obtain ⟨v13, h14, hf⟩ := opt_bind hf
      refine g_callV C (c_X11_done (l := x_l X) (D := x_D X) (cy := x_y X) (a := a) (thrown := thrown) (g := g) (saved := saved) (hasSaved := hasSaved) (coef := coef) (nodes := nodes) (nodeMany := nodeMany) (isDeep := isDeep) (codes := codes) (details := details) (levelMany := levelMany) (given := given) (paper := paper) (papered := papered) (tape := tape) (taped := taped) (wrongAt := wrongAt) (at_ := at_) (value := value) (readPlace := readPlace) (readValue := readValue) (readEpoch := readEpoch) (p0 := v11) h14) (As := [.int v11]) (rest := []) (wr := []) (ws' := fun _ => (wM (x_y X) a v13.2 g saved hasSaved coef nodes nodeMany isDeep codes details levelMany given paper papered tape taped wrongAt at_ value readPlace readValue readEpoch)) (st' := fun _ => [.int v13.1]) (ci := 12) 1 0 ⟨_, rfl⟩ rfl rfl mw_7_22 mw_1_9 mw_7_19 mw_7_21 mp_29 hd_X11_done rfl (g_rm hR rfl rfl) [0, 1, 2, 3, 4, 5, 6, 7, 8, 9] [] [0, 1, 2, 3, 4, 5, 6, 7, 8, 9] ⟨rfl, rfl, rfl, rfl, by decide, gRoIn_0, rfl, fun _ => rfl⟩ rfl (Nat.le_of_ble_eq_true rfl) dX11_commitment_41 (g_rc hR (Nat.le_of_ble_eq_true rfl) (Nat.le_of_ble_eq_true rfl)) (ck' := 0) (sk' := 0) rfl rfl (fun _ => rfl) (fun _ _ => ?_) (fun _ hx => absurd rfl hx)
      refine g_goto C 52 dX11_commitment_44 (by decide) ?_
      refine gW.locals [1, 2, 3] rfl ?_
      exact H52 v13.2 v13.1 hf
  · have hf := opt_neg c3 hf
    refine g_aload_n C 1 dX11_commitment_10 rfl ?_
    refine g_iload_n C 0 dX11_commitment_11 rfl ?_
    obtain ⟨v15, h16, hf⟩ := opt_bind hf
    refine g_callV C (c_X11_fails (l := x_l X) (D := x_D X) (cy := x_y X) (a := a) (thrown := thrown) (g := g) (saved := saved) (hasSaved := hasSaved) (coef := coef) (nodes := nodes) (nodeMany := nodeMany) (isDeep := isDeep) (codes := codes) (details := details) (levelMany := levelMany) (given := given) (paper := paper) (papered := papered) (tape := tape) (taped := taped) (wrongAt := wrongAt) (at_ := at_) (value := value) (readPlace := readPlace) (readValue := readValue) (readEpoch := readEpoch) (p0 := v1) h16) (As := [.int v1]) (rest := []) (wr := []) (ws' := fun _ => (wM (x_y X) a v15.2 g saved hasSaved coef nodes nodeMany isDeep codes details levelMany given paper papered tape taped wrongAt at_ value readPlace readValue readEpoch)) (st' := fun _ => [.int v15.1]) (ci := 12) 1 0 ⟨_, rfl⟩ rfl rfl mw_7_45 mw_1_9 mw_7_42 mw_7_44 mp_31 hd_X11_fails rfl (g_rm hR rfl rfl) [0, 1, 2, 3, 4, 5, 6, 7, 8, 9] [] [0, 1, 2, 3, 4, 5, 6, 7, 8, 9] ⟨rfl, rfl, rfl, rfl, by decide, gRoIn_0, rfl, fun _ => rfl⟩ rfl (Nat.le_of_ble_eq_true rfl) dX11_commitment_12 (g_rc hR (Nat.le_of_ble_eq_true rfl) (Nat.le_of_ble_eq_true rfl)) (ck' := 0) (sk' := 0) rfl rfl (fun _ => rfl) (fun _ _ => ?_) (fun _ hx => absurd rfl hx)
    obtain rfl := Option.some.inj hf
    exact g_iret C E () dX11_commitment_15 rfl rfl rfl (Nat.le_of_ble_eq_true rfl) (Nat.le_of_ble_eq_true rfl)
/-! X11_share -/
theorem hd_X11_share : yX11_share.cls ≠ "java/lang/invoke/MethodHandle" ∧ yX11_share.cls ≠ "java/lang/invoke/VarHandle" ∧ (parseMethodDescriptor yX11_share.desc).map (fun d => d.parameters.length) = some 3 := by decide +kernel
def F_X11_share_L14   (thrown_14 : Int32) : Option (Int32 × Int32) := (F_X11_fails thrown_14 1).bind fun v4 => some (v4.1, v4.2)
def F_X11_share_L74   (thrown_74 : Int32) (s0_74 : Int32) : Option (Int32 × Int32) := (F_X11_done thrown_74 s0_74).bind fun v18 => some (v18.1, v18.2)
def F_X11_share (thrown : Int32) (g : Nat → Int32) (p0 : Int32) (p1 : Int32) (p2 : Int32) : Option (Int32 × Int32) := (F_X11_isSlot p0).bind fun v1 => if v1 = 0 then (F_X11_share_L14 thrown) else ((F_X11_isPlace p1).bind fun v6 => if v6 = 0 then (F_X11_share_L14 thrown) else ((F_X11_in p2 0 2).bind fun v9 => if v9 = 0 then ((F_X11_fails thrown 2).bind fun v24 => some (v24.1, v24.2)) else ((F_X11_hasShare g p0 p1).bind fun v12 => if v12 = 0 then ((F_X11_fails thrown 3).bind fun v22 => some (v22.1, v22.2)) else (if p2 = 2 then ((F_X11_stateOf g p0 p1).bind fun v20 => F_X11_share_L74 thrown v20) else ((F_X11_shareOf g p0 p1 ((1 : Int32) + p2)).bind fun v16 => F_X11_share_L74 thrown v16)))))
set_option maxRecDepth 100000 in
set_option maxHeartbeats 4000000 in
theorem c_X11_share {l : Launch} {D : va_G} {cy : Nat → ClassId} {a : Nat → Nat} {thrown : Int32} {g : Nat → Int32} {saved : Nat → Int32} {hasSaved : Int32} {coef : Nat → Int32} {nodes : Nat → Int32} {nodeMany : Int32} {isDeep : Int32} {codes : Nat → Int32} {details : Nat → Int32} {levelMany : Int32} {given : Nat → Int32} {paper : Nat → Int32} {papered : Int32} {tape : Nat → Int32} {taped : Int32} {wrongAt : Int32} {at_ : Int32} {value : Int32} {readPlace : Int32} {readValue : Int32} {readEpoch : Int32} {p0 : Int32} {p1 : Int32} {p2 : Int32}  {val : Int32 × Int32} (hf : F_X11_share thrown g p0 p1 p2 = some val) : gCt l D cy yX11_share cX11_share 4 (some .int) 3 70 0 0 [.ref (a 0), .int p0, .int p1, .int p2] [] ((wM cy a thrown g saved hasSaved coef nodes nodeMany isDeep codes details levelMany given paper papered tape taped wrongAt at_ value readPlace readValue readEpoch)) 0 (fun _ : Unit => some (.int val.1)) (fun _ => (wM cy a val.2 g saved hasSaved coef nodes nodeMany isDeep codes details levelMany given paper papered tape taped wrongAt at_ value readPlace readValue readEpoch)) := by
  refine g_begin (by decide +kernel) (Nat.le_of_ble_eq_true rfl) ?_
  intro X Q hl hR hD hy hro hn C hin E
  subst hl; subst hD; subst hy
  replace C : gC X "SecretVaultModel" cX11_share (some .int) := C
  unfold F_X11_share at hf
  have H14 : ∀ (thrown_14 : Int32), F_X11_share_L14 thrown_14 = some val → gW X Q 0 0 ((wM (x_y X) a thrown_14 g saved hasSaved coef nodes nodeMany isDeep codes details levelMany given paper papered tape taped wrongAt at_ value readPlace readValue readEpoch)) [(0, .ref (a 0)), (1, .int p0), (2, .int p1), (3, .int p2)] [] 14 := by
    intro thrown_14 hf
    unfold F_X11_share_L14 at hf
    refine g_aload_n C 0 dX11_share_14 rfl ?_
    refine g_iconst C (v := 1) dX11_share_15 (by decide) ?_
    obtain ⟨v4, h5, hf⟩ := opt_bind hf
    refine g_callV C (c_X11_fails (l := x_l X) (D := x_D X) (cy := x_y X) (a := a) (thrown := thrown_14) (g := g) (saved := saved) (hasSaved := hasSaved) (coef := coef) (nodes := nodes) (nodeMany := nodeMany) (isDeep := isDeep) (codes := codes) (details := details) (levelMany := levelMany) (given := given) (paper := paper) (papered := papered) (tape := tape) (taped := taped) (wrongAt := wrongAt) (at_ := at_) (value := value) (readPlace := readPlace) (readValue := readValue) (readEpoch := readEpoch) (p0 := 1) h5) (As := [.int 1]) (rest := []) (wr := []) (ws' := fun _ => (wM (x_y X) a v4.2 g saved hasSaved coef nodes nodeMany isDeep codes details levelMany given paper papered tape taped wrongAt at_ value readPlace readValue readEpoch)) (st' := fun _ => [.int v4.1]) (ci := 12) 1 0 ⟨_, rfl⟩ rfl rfl mw_7_45 mw_1_9 mw_7_42 mw_7_44 mp_31 hd_X11_fails rfl (g_rm hR rfl rfl) [0, 1, 2, 3, 4, 5, 6, 7, 8, 9] [] [0, 1, 2, 3, 4, 5, 6, 7, 8, 9] ⟨rfl, rfl, rfl, rfl, by decide, gRoIn_0, rfl, fun _ => rfl⟩ rfl (Nat.le_of_ble_eq_true rfl) dX11_share_16 (g_rc hR (Nat.le_of_ble_eq_true rfl) (Nat.le_of_ble_eq_true rfl)) (ck' := 0) (sk' := 0) rfl rfl (fun _ => rfl) (fun _ _ => ?_) (fun _ hx => absurd rfl hx)
    obtain rfl := Option.some.inj hf
    exact g_iret C E () dX11_share_19 rfl rfl rfl (Nat.le_of_ble_eq_true rfl) (Nat.le_of_ble_eq_true rfl)
  have H74 : ∀ (thrown_74 : Int32) (s0_74 : Int32), F_X11_share_L74 thrown_74 s0_74 = some val → gW X Q 0 0 ((wM (x_y X) a thrown_74 g saved hasSaved coef nodes nodeMany isDeep codes details levelMany given paper papered tape taped wrongAt at_ value readPlace readValue readEpoch)) [(0, .ref (a 0)), (1, .int p0), (2, .int p1), (3, .int p2)] [.int s0_74, .ref (a 0)] 74 := by
    intro thrown_74 s0_74 hf
    unfold F_X11_share_L74 at hf
    obtain ⟨v18, h19, hf⟩ := opt_bind hf
    refine g_callV C (c_X11_done (l := x_l X) (D := x_D X) (cy := x_y X) (a := a) (thrown := thrown_74) (g := g) (saved := saved) (hasSaved := hasSaved) (coef := coef) (nodes := nodes) (nodeMany := nodeMany) (isDeep := isDeep) (codes := codes) (details := details) (levelMany := levelMany) (given := given) (paper := paper) (papered := papered) (tape := tape) (taped := taped) (wrongAt := wrongAt) (at_ := at_) (value := value) (readPlace := readPlace) (readValue := readValue) (readEpoch := readEpoch) (p0 := s0_74) h19) (As := [.int s0_74]) (rest := []) (wr := []) (ws' := fun _ => (wM (x_y X) a v18.2 g saved hasSaved coef nodes nodeMany isDeep codes details levelMany given paper papered tape taped wrongAt at_ value readPlace readValue readEpoch)) (st' := fun _ => [.int v18.1]) (ci := 12) 1 0 ⟨_, rfl⟩ rfl rfl mw_7_22 mw_1_9 mw_7_19 mw_7_21 mp_29 hd_X11_done rfl (g_rm hR rfl rfl) [0, 1, 2, 3, 4, 5, 6, 7, 8, 9] [] [0, 1, 2, 3, 4, 5, 6, 7, 8, 9] ⟨rfl, rfl, rfl, rfl, by decide, gRoIn_0, rfl, fun _ => rfl⟩ rfl (Nat.le_of_ble_eq_true rfl) dX11_share_74 (g_rc hR (Nat.le_of_ble_eq_true rfl) (Nat.le_of_ble_eq_true rfl)) (ck' := 0) (sk' := 0) rfl rfl (fun _ => rfl) (fun _ _ => ?_) (fun _ hx => absurd rfl hx)
    obtain rfl := Option.some.inj hf
    exact g_iret C E () dX11_share_77 rfl rfl rfl (Nat.le_of_ble_eq_true rfl) (Nat.le_of_ble_eq_true rfl)
  show gW X Q 0 0 ((wM (x_y X) a thrown g saved hasSaved coef nodes nodeMany isDeep codes details levelMany given paper papered tape taped wrongAt at_ value readPlace readValue readEpoch)) [(0, .ref (a 0)), (1, .int p0), (2, .int p1), (3, .int p2)] [] 0
  refine g_iload_n C 1 dX11_share_0 rfl ?_
  obtain ⟨v1, h2, hf⟩ := opt_bind hf
  refine g_callS C (c_X11_isSlot (l := x_l X) (D := x_D X) (cy := x_y X) (p0 := p0) h2) (As := [.int p0]) (rest := []) (wr := (wM (x_y X) a thrown g saved hasSaved coef nodes nodeMany isDeep codes details levelMany given paper papered tape taped wrongAt at_ value readPlace readValue readEpoch)) (ws' := fun _ => (wM (x_y X) a thrown g saved hasSaved coef nodes nodeMany isDeep codes details levelMany given paper papered tape taped wrongAt at_ value readPlace readValue readEpoch)) (st' := fun _ => [.int v1]) 1 mw_7_83 mw_1_9 mw_7_81 mw_7_82 hd_X11_isSlot rfl (g_rm hR rfl rfl) [] [0, 1, 2, 3, 4, 5, 6, 7, 8, 9] [0, 1, 2, 3, 4, 5, 6, 7, 8, 9] ⟨rfl, rfl, rfl, rfl, by decide, gRoIn_0, rfl, fun _ => rfl⟩ rfl (Nat.le_of_ble_eq_true rfl) dX11_share_1 (g_rc hR (Nat.le_of_ble_eq_true rfl) (Nat.le_of_ble_eq_true rfl)) (ck' := 0) (sk' := 0) rfl rfl (fun _ => rfl) (fun _ _ => ?_) (fun _ hx => absurd rfl hx)
  refine g_if_eq C 14 dX11_share_4 (by decide) (fun c3 => ?_) (fun c3 => ?_)
  · have hf := opt_pos c3 hf
    exact H14 thrown hf
  · have hf := opt_neg c3 hf
    refine g_iload_n C 2 dX11_share_7 rfl ?_
    obtain ⟨v6, h7, hf⟩ := opt_bind hf
    refine g_callS C (c_X11_isPlace (l := x_l X) (D := x_D X) (cy := x_y X) (p0 := p1) h7) (As := [.int p1]) (rest := []) (wr := (wM (x_y X) a thrown g saved hasSaved coef nodes nodeMany isDeep codes details levelMany given paper papered tape taped wrongAt at_ value readPlace readValue readEpoch)) (ws' := fun _ => (wM (x_y X) a thrown g saved hasSaved coef nodes nodeMany isDeep codes details levelMany given paper papered tape taped wrongAt at_ value readPlace readValue readEpoch)) (st' := fun _ => [.int v6]) 1 mw_7_234 mw_1_9 mw_7_232 mw_7_233 hd_X11_isPlace rfl (g_rm hR rfl rfl) [] [0, 1, 2, 3, 4, 5, 6, 7, 8, 9] [0, 1, 2, 3, 4, 5, 6, 7, 8, 9] ⟨rfl, rfl, rfl, rfl, by decide, gRoIn_0, rfl, fun _ => rfl⟩ rfl (Nat.le_of_ble_eq_true rfl) dX11_share_8 (g_rc hR (Nat.le_of_ble_eq_true rfl) (Nat.le_of_ble_eq_true rfl)) (ck' := 0) (sk' := 0) rfl rfl (fun _ => rfl) (fun _ _ => ?_) (fun _ hx => absurd rfl hx)
    refine g_if_ne C 20 dX11_share_11 (by decide) (fun c8 => ?_) (fun c8 => ?_)
    · have hf := opt_neg c8 hf
      refine g_iload_n C 3 dX11_share_20 rfl ?_
      refine g_iconst C (v := 0) dX11_share_21 (by decide) ?_
      refine g_iconst C (v := 2) dX11_share_22 (by decide) ?_
      obtain ⟨v9, h10, hf⟩ := opt_bind hf
      refine g_callS C (c_X11_in (l := x_l X) (D := x_D X) (cy := x_y X) (p0 := p2) (p1 := 0) (p2 := 2) h10) (As := [.int p2, .int 0, .int 2]) (rest := []) (wr := (wM (x_y X) a thrown g saved hasSaved coef nodes nodeMany isDeep codes details levelMany given paper papered tape taped wrongAt at_ value readPlace readValue readEpoch)) (ws' := fun _ => (wM (x_y X) a thrown g saved hasSaved coef nodes nodeMany isDeep codes details levelMany given paper papered tape taped wrongAt at_ value readPlace readValue readEpoch)) (st' := fun _ => [.int v9]) 3 mw_7_41 mw_1_9 mw_7_39 mw_7_40 hd_X11_in rfl (g_rm hR rfl rfl) [] [0, 1, 2, 3, 4, 5, 6, 7, 8, 9] [0, 1, 2, 3, 4, 5, 6, 7, 8, 9] ⟨rfl, rfl, rfl, rfl, by decide, gRoIn_0, rfl, fun _ => rfl⟩ rfl (Nat.le_of_ble_eq_true rfl) dX11_share_23 (g_rc hR (Nat.le_of_ble_eq_true rfl) (Nat.le_of_ble_eq_true rfl)) (ck' := 0) (sk' := 0) rfl rfl (fun _ => rfl) (fun _ _ => ?_) (fun _ hx => absurd rfl hx)
      refine g_if_ne C 35 dX11_share_26 (by decide) (fun c11 => ?_) (fun c11 => ?_)
      · have hf := opt_neg c11 hf
        refine g_aload_n C 0 dX11_share_35 rfl ?_
        refine g_iload_n C 1 dX11_share_36 rfl ?_
        refine g_iload_n C 2 dX11_share_37 rfl ?_
        obtain ⟨v12, h13, hf⟩ := opt_bind hf
        refine g_callV C (c_X11_hasShare (l := x_l X) (D := x_D X) (cy := x_y X) (a := a) (thrown := thrown) (g := g) (saved := saved) (hasSaved := hasSaved) (coef := coef) (nodes := nodes) (nodeMany := nodeMany) (isDeep := isDeep) (codes := codes) (details := details) (levelMany := levelMany) (given := given) (paper := paper) (papered := papered) (tape := tape) (taped := taped) (wrongAt := wrongAt) (at_ := at_) (value := value) (readPlace := readPlace) (readValue := readValue) (readEpoch := readEpoch) (p0 := p0) (p1 := p1) h13) (As := [.int p0, .int p1]) (rest := []) (wr := []) (ws' := fun _ => (wM (x_y X) a thrown g saved hasSaved coef nodes nodeMany isDeep codes details levelMany given paper papered tape taped wrongAt at_ value readPlace readValue readEpoch)) (st' := fun _ => [.int v12]) (ci := 12) 2 0 ⟨_, rfl⟩ rfl rfl mw_7_61 mw_1_9 mw_7_58 mw_7_60 mp_33 hd_X11_hasShare rfl (g_rm hR rfl rfl) [0, 1, 2, 3, 4, 5, 6, 7, 8, 9] [] [0, 1, 2, 3, 4, 5, 6, 7, 8, 9] ⟨rfl, rfl, rfl, rfl, by decide, gRoIn_0, rfl, fun _ => rfl⟩ rfl (Nat.le_of_ble_eq_true rfl) dX11_share_38 (g_rc hR (Nat.le_of_ble_eq_true rfl) (Nat.le_of_ble_eq_true rfl)) (ck' := 0) (sk' := 0) rfl rfl (fun _ => rfl) (fun _ _ => ?_) (fun _ hx => absurd rfl hx)
        refine g_if_ne C 50 dX11_share_41 (by decide) (fun c14 => ?_) (fun c14 => ?_)
        · have hf := opt_neg c14 hf
          refine g_aload_n C 0 dX11_share_50 rfl ?_
          refine g_iload_n C 3 dX11_share_51 rfl ?_
          refine g_iconst C (v := 2) dX11_share_52 (by decide) ?_
          refine g_icmp_ne C 65 dX11_share_53 (by decide) (fun c15 => ?_) (fun c15 => ?_)
          · have hf := opt_neg c15 hf
            refine g_aload_n C 0 dX11_share_65 rfl ?_
            refine g_iload_n C 1 dX11_share_66 rfl ?_
            refine g_iload_n C 2 dX11_share_67 rfl ?_
            refine g_iconst C (v := 1) dX11_share_68 (by decide) ?_
            refine g_iload_n C 3 dX11_share_69 rfl ?_
            refine g_iadd C dX11_share_70 ?_
            obtain ⟨v16, h17, hf⟩ := opt_bind hf
            refine g_callV C (c_X11_shareOf (l := x_l X) (D := x_D X) (cy := x_y X) (a := a) (thrown := thrown) (g := g) (saved := saved) (hasSaved := hasSaved) (coef := coef) (nodes := nodes) (nodeMany := nodeMany) (isDeep := isDeep) (codes := codes) (details := details) (levelMany := levelMany) (given := given) (paper := paper) (papered := papered) (tape := tape) (taped := taped) (wrongAt := wrongAt) (at_ := at_) (value := value) (readPlace := readPlace) (readValue := readValue) (readEpoch := readEpoch) (p0 := p0) (p1 := p1) (p2 := (1 : Int32) + p2) h17) (As := [.int p0, .int p1, .int ((1 : Int32) + p2)]) (rest := [.ref (a 0)]) (wr := []) (ws' := fun _ => (wM (x_y X) a thrown g saved hasSaved coef nodes nodeMany isDeep codes details levelMany given paper papered tape taped wrongAt at_ value readPlace readValue readEpoch)) (st' := fun _ => [.int v16, .ref (a 0)]) (ci := 12) 3 0 ⟨_, rfl⟩ rfl rfl mw_7_65 mw_1_9 mw_7_62 mw_7_64 mp_34 hd_X11_shareOf rfl (g_rm hR rfl rfl) [0, 1, 2, 3, 4, 5, 6, 7, 8, 9] [] [0, 1, 2, 3, 4, 5, 6, 7, 8, 9] ⟨rfl, rfl, rfl, rfl, by decide, gRoIn_0, rfl, fun _ => rfl⟩ rfl (Nat.le_of_ble_eq_true rfl) dX11_share_71 (g_rc hR (Nat.le_of_ble_eq_true rfl) (Nat.le_of_ble_eq_true rfl)) (ck' := 0) (sk' := 0) rfl rfl (fun _ => rfl) (fun _ _ => ?_) (fun _ hx => absurd rfl hx)
            exact H74 thrown v16 hf
          · have hf := opt_pos c15 hf
            refine g_aload_n C 0 dX11_share_56 rfl ?_
            refine g_iload_n C 1 dX11_share_57 rfl ?_
            refine g_iload_n C 2 dX11_share_58 rfl ?_
            obtain ⟨v20, h21, hf⟩ := opt_bind hf
            refine g_callV C (c_X11_stateOf (l := x_l X) (D := x_D X) (cy := x_y X) (a := a) (thrown := thrown) (g := g) (saved := saved) (hasSaved := hasSaved) (coef := coef) (nodes := nodes) (nodeMany := nodeMany) (isDeep := isDeep) (codes := codes) (details := details) (levelMany := levelMany) (given := given) (paper := paper) (papered := papered) (tape := tape) (taped := taped) (wrongAt := wrongAt) (at_ := at_) (value := value) (readPlace := readPlace) (readValue := readValue) (readEpoch := readEpoch) (p0 := p0) (p1 := p1) h21) (As := [.int p0, .int p1]) (rest := [.ref (a 0)]) (wr := []) (ws' := fun _ => (wM (x_y X) a thrown g saved hasSaved coef nodes nodeMany isDeep codes details levelMany given paper papered tape taped wrongAt at_ value readPlace readValue readEpoch)) (st' := fun _ => [.int v20, .ref (a 0)]) (ci := 12) 2 0 ⟨_, rfl⟩ rfl rfl mw_7_73 mw_1_9 mw_7_70 mw_7_72 mp_36 hd_X11_stateOf rfl (g_rm hR rfl rfl) [0, 1, 2, 3, 4, 5, 6, 7, 8, 9] [] [0, 1, 2, 3, 4, 5, 6, 7, 8, 9] ⟨rfl, rfl, rfl, rfl, by decide, gRoIn_0, rfl, fun _ => rfl⟩ rfl (Nat.le_of_ble_eq_true rfl) dX11_share_59 (g_rc hR (Nat.le_of_ble_eq_true rfl) (Nat.le_of_ble_eq_true rfl)) (ck' := 0) (sk' := 0) rfl rfl (fun _ => rfl) (fun _ _ => ?_) (fun _ hx => absurd rfl hx)
            refine g_goto C 74 dX11_share_62 (by decide) ?_
            exact H74 thrown v20 hf
        · have hf := opt_pos c14 hf
          refine g_aload_n C 0 dX11_share_44 rfl ?_
          refine g_iconst C (v := 3) dX11_share_45 (by decide) ?_
          obtain ⟨v22, h23, hf⟩ := opt_bind hf
          refine g_callV C (c_X11_fails (l := x_l X) (D := x_D X) (cy := x_y X) (a := a) (thrown := thrown) (g := g) (saved := saved) (hasSaved := hasSaved) (coef := coef) (nodes := nodes) (nodeMany := nodeMany) (isDeep := isDeep) (codes := codes) (details := details) (levelMany := levelMany) (given := given) (paper := paper) (papered := papered) (tape := tape) (taped := taped) (wrongAt := wrongAt) (at_ := at_) (value := value) (readPlace := readPlace) (readValue := readValue) (readEpoch := readEpoch) (p0 := 3) h23) (As := [.int 3]) (rest := []) (wr := []) (ws' := fun _ => (wM (x_y X) a v22.2 g saved hasSaved coef nodes nodeMany isDeep codes details levelMany given paper papered tape taped wrongAt at_ value readPlace readValue readEpoch)) (st' := fun _ => [.int v22.1]) (ci := 12) 1 0 ⟨_, rfl⟩ rfl rfl mw_7_45 mw_1_9 mw_7_42 mw_7_44 mp_31 hd_X11_fails rfl (g_rm hR rfl rfl) [0, 1, 2, 3, 4, 5, 6, 7, 8, 9] [] [0, 1, 2, 3, 4, 5, 6, 7, 8, 9] ⟨rfl, rfl, rfl, rfl, by decide, gRoIn_0, rfl, fun _ => rfl⟩ rfl (Nat.le_of_ble_eq_true rfl) dX11_share_46 (g_rc hR (Nat.le_of_ble_eq_true rfl) (Nat.le_of_ble_eq_true rfl)) (ck' := 0) (sk' := 0) rfl rfl (fun _ => rfl) (fun _ _ => ?_) (fun _ hx => absurd rfl hx)
          obtain rfl := Option.some.inj hf
          exact g_iret C E () dX11_share_49 rfl rfl rfl (Nat.le_of_ble_eq_true rfl) (Nat.le_of_ble_eq_true rfl)
      · have hf := opt_pos c11 hf
        refine g_aload_n C 0 dX11_share_29 rfl ?_
        refine g_iconst C (v := 2) dX11_share_30 (by decide) ?_
        obtain ⟨v24, h25, hf⟩ := opt_bind hf
        refine g_callV C (c_X11_fails (l := x_l X) (D := x_D X) (cy := x_y X) (a := a) (thrown := thrown) (g := g) (saved := saved) (hasSaved := hasSaved) (coef := coef) (nodes := nodes) (nodeMany := nodeMany) (isDeep := isDeep) (codes := codes) (details := details) (levelMany := levelMany) (given := given) (paper := paper) (papered := papered) (tape := tape) (taped := taped) (wrongAt := wrongAt) (at_ := at_) (value := value) (readPlace := readPlace) (readValue := readValue) (readEpoch := readEpoch) (p0 := 2) h25) (As := [.int 2]) (rest := []) (wr := []) (ws' := fun _ => (wM (x_y X) a v24.2 g saved hasSaved coef nodes nodeMany isDeep codes details levelMany given paper papered tape taped wrongAt at_ value readPlace readValue readEpoch)) (st' := fun _ => [.int v24.1]) (ci := 12) 1 0 ⟨_, rfl⟩ rfl rfl mw_7_45 mw_1_9 mw_7_42 mw_7_44 mp_31 hd_X11_fails rfl (g_rm hR rfl rfl) [0, 1, 2, 3, 4, 5, 6, 7, 8, 9] [] [0, 1, 2, 3, 4, 5, 6, 7, 8, 9] ⟨rfl, rfl, rfl, rfl, by decide, gRoIn_0, rfl, fun _ => rfl⟩ rfl (Nat.le_of_ble_eq_true rfl) dX11_share_31 (g_rc hR (Nat.le_of_ble_eq_true rfl) (Nat.le_of_ble_eq_true rfl)) (ck' := 0) (sk' := 0) rfl rfl (fun _ => rfl) (fun _ _ => ?_) (fun _ hx => absurd rfl hx)
        obtain rfl := Option.some.inj hf
        exact g_iret C E () dX11_share_34 rfl rfl rfl (Nat.le_of_ble_eq_true rfl) (Nat.le_of_ble_eq_true rfl)
    · have hf := opt_pos c8 hf
      exact H14 thrown hf
/-! X11_setShare -/
theorem hd_X11_setShare : yX11_setShare.cls ≠ "java/lang/invoke/MethodHandle" ∧ yX11_setShare.cls ≠ "java/lang/invoke/VarHandle" ∧ (parseMethodDescriptor yX11_setShare.desc).map (fun d => d.parameters.length) = some 3 := by decide +kernel
def F_X11_setShare_L14   (thrown_14 : Int32) (g_14 : Nat → Int32) : Option (Int32 × Int32 × (Nat → Int32)) := (F_X11_fails thrown_14 1).bind fun v4 => some (v4.1, v4.2, g_14)
def F_X11_setShare (thrown : Int32) (g : Nat → Int32) (p0 : Int32) (p1 : Int32) (p2 : Int32) : Option (Int32 × Int32 × (Nat → Int32)) := (F_X11_isSlot p0).bind fun v1 => if v1 = 0 then (F_X11_setShare_L14 thrown g) else ((F_X11_isPlace p1).bind fun v6 => if v6 = 0 then (F_X11_setShare_L14 thrown g) else ((F_X11_in p2 0 1018).bind fun v9 => if v9 = 0 then ((F_X11_fails thrown 2).bind fun v25 => some (v25.1, v25.2, g)) else ((F_X11_hasShare g p0 p1).bind fun v12 => if v12 = 0 then ((F_X11_fails thrown 3).bind fun v23 => some (v23.1, v23.2, g)) else ((F_X11_shareOf g p0 p1 1).bind fun v15 => (F_X11_shareOf g p0 p1 2).bind fun v17 => (F_X11_setsShare g p0 p1 p2 v17).bind fun v19 => (F_X11_done thrown v15).bind fun v21 => some (v21.1, v21.2, v19)))))
set_option maxRecDepth 100000 in
set_option maxHeartbeats 4000000 in
theorem c_X11_setShare {l : Launch} {D : va_G} {cy : Nat → ClassId} {a : Nat → Nat} {thrown : Int32} {g : Nat → Int32} {saved : Nat → Int32} {hasSaved : Int32} {coef : Nat → Int32} {nodes : Nat → Int32} {nodeMany : Int32} {isDeep : Int32} {codes : Nat → Int32} {details : Nat → Int32} {levelMany : Int32} {given : Nat → Int32} {paper : Nat → Int32} {papered : Int32} {tape : Nat → Int32} {taped : Int32} {wrongAt : Int32} {at_ : Int32} {value : Int32} {readPlace : Int32} {readValue : Int32} {readEpoch : Int32} {p0 : Int32} {p1 : Int32} {p2 : Int32}  {val : Int32 × Int32 × (Nat → Int32)} (hf : F_X11_setShare thrown g p0 p1 p2 = some val) : gCt l D cy yX11_setShare cX11_setShare 5 (some .int) 3 67 0 0 [.ref (a 0), .int p0, .int p1, .int p2] [] ((wM cy a thrown g saved hasSaved coef nodes nodeMany isDeep codes details levelMany given paper papered tape taped wrongAt at_ value readPlace readValue readEpoch)) 0 (fun _ : Unit => some (.int val.1)) (fun _ => (wM cy a val.2.1 val.2.2 saved hasSaved coef nodes nodeMany isDeep codes details levelMany given paper papered tape taped wrongAt at_ value readPlace readValue readEpoch)) := by
  refine g_begin (by decide +kernel) (Nat.le_of_ble_eq_true rfl) ?_
  intro X Q hl hR hD hy hro hn C hin E
  subst hl; subst hD; subst hy
  replace C : gC X "SecretVaultModel" cX11_setShare (some .int) := C
  unfold F_X11_setShare at hf
  have H14 : ∀ (thrown_14 : Int32) (g_14 : Nat → Int32), F_X11_setShare_L14 thrown_14 g_14 = some val → gW X Q 0 0 ((wM (x_y X) a thrown_14 g_14 saved hasSaved coef nodes nodeMany isDeep codes details levelMany given paper papered tape taped wrongAt at_ value readPlace readValue readEpoch)) [(0, .ref (a 0)), (1, .int p0), (2, .int p1), (3, .int p2)] [] 14 := by
    intro thrown_14 g_14 hf
    unfold F_X11_setShare_L14 at hf
    refine g_aload_n C 0 dX11_setShare_14 rfl ?_
    refine g_iconst C (v := 1) dX11_setShare_15 (by decide) ?_
    obtain ⟨v4, h5, hf⟩ := opt_bind hf
    refine g_callV C (c_X11_fails (l := x_l X) (D := x_D X) (cy := x_y X) (a := a) (thrown := thrown_14) (g := g_14) (saved := saved) (hasSaved := hasSaved) (coef := coef) (nodes := nodes) (nodeMany := nodeMany) (isDeep := isDeep) (codes := codes) (details := details) (levelMany := levelMany) (given := given) (paper := paper) (papered := papered) (tape := tape) (taped := taped) (wrongAt := wrongAt) (at_ := at_) (value := value) (readPlace := readPlace) (readValue := readValue) (readEpoch := readEpoch) (p0 := 1) h5) (As := [.int 1]) (rest := []) (wr := []) (ws' := fun _ => (wM (x_y X) a v4.2 g_14 saved hasSaved coef nodes nodeMany isDeep codes details levelMany given paper papered tape taped wrongAt at_ value readPlace readValue readEpoch)) (st' := fun _ => [.int v4.1]) (ci := 12) 1 0 ⟨_, rfl⟩ rfl rfl mw_7_45 mw_1_9 mw_7_42 mw_7_44 mp_31 hd_X11_fails rfl (g_rm hR rfl rfl) [0, 1, 2, 3, 4, 5, 6, 7, 8, 9] [] [0, 1, 2, 3, 4, 5, 6, 7, 8, 9] ⟨rfl, rfl, rfl, rfl, by decide, gRoIn_0, rfl, fun _ => rfl⟩ rfl (Nat.le_of_ble_eq_true rfl) dX11_setShare_16 (g_rc hR (Nat.le_of_ble_eq_true rfl) (Nat.le_of_ble_eq_true rfl)) (ck' := 0) (sk' := 0) rfl rfl (fun _ => rfl) (fun _ _ => ?_) (fun _ hx => absurd rfl hx)
    obtain rfl := Option.some.inj hf
    exact g_iret C E () dX11_setShare_19 rfl rfl rfl (Nat.le_of_ble_eq_true rfl) (Nat.le_of_ble_eq_true rfl)
  show gW X Q 0 0 ((wM (x_y X) a thrown g saved hasSaved coef nodes nodeMany isDeep codes details levelMany given paper papered tape taped wrongAt at_ value readPlace readValue readEpoch)) [(0, .ref (a 0)), (1, .int p0), (2, .int p1), (3, .int p2)] [] 0
  refine g_iload_n C 1 dX11_setShare_0 rfl ?_
  obtain ⟨v1, h2, hf⟩ := opt_bind hf
  refine g_callS C (c_X11_isSlot (l := x_l X) (D := x_D X) (cy := x_y X) (p0 := p0) h2) (As := [.int p0]) (rest := []) (wr := (wM (x_y X) a thrown g saved hasSaved coef nodes nodeMany isDeep codes details levelMany given paper papered tape taped wrongAt at_ value readPlace readValue readEpoch)) (ws' := fun _ => (wM (x_y X) a thrown g saved hasSaved coef nodes nodeMany isDeep codes details levelMany given paper papered tape taped wrongAt at_ value readPlace readValue readEpoch)) (st' := fun _ => [.int v1]) 1 mw_7_83 mw_1_9 mw_7_81 mw_7_82 hd_X11_isSlot rfl (g_rm hR rfl rfl) [] [0, 1, 2, 3, 4, 5, 6, 7, 8, 9] [0, 1, 2, 3, 4, 5, 6, 7, 8, 9] ⟨rfl, rfl, rfl, rfl, by decide, gRoIn_0, rfl, fun _ => rfl⟩ rfl (Nat.le_of_ble_eq_true rfl) dX11_setShare_1 (g_rc hR (Nat.le_of_ble_eq_true rfl) (Nat.le_of_ble_eq_true rfl)) (ck' := 0) (sk' := 0) rfl rfl (fun _ => rfl) (fun _ _ => ?_) (fun _ hx => absurd rfl hx)
  refine g_if_eq C 14 dX11_setShare_4 (by decide) (fun c3 => ?_) (fun c3 => ?_)
  · have hf := opt_pos c3 hf
    exact H14 thrown g hf
  · have hf := opt_neg c3 hf
    refine g_iload_n C 2 dX11_setShare_7 rfl ?_
    obtain ⟨v6, h7, hf⟩ := opt_bind hf
    refine g_callS C (c_X11_isPlace (l := x_l X) (D := x_D X) (cy := x_y X) (p0 := p1) h7) (As := [.int p1]) (rest := []) (wr := (wM (x_y X) a thrown g saved hasSaved coef nodes nodeMany isDeep codes details levelMany given paper papered tape taped wrongAt at_ value readPlace readValue readEpoch)) (ws' := fun _ => (wM (x_y X) a thrown g saved hasSaved coef nodes nodeMany isDeep codes details levelMany given paper papered tape taped wrongAt at_ value readPlace readValue readEpoch)) (st' := fun _ => [.int v6]) 1 mw_7_234 mw_1_9 mw_7_232 mw_7_233 hd_X11_isPlace rfl (g_rm hR rfl rfl) [] [0, 1, 2, 3, 4, 5, 6, 7, 8, 9] [0, 1, 2, 3, 4, 5, 6, 7, 8, 9] ⟨rfl, rfl, rfl, rfl, by decide, gRoIn_0, rfl, fun _ => rfl⟩ rfl (Nat.le_of_ble_eq_true rfl) dX11_setShare_8 (g_rc hR (Nat.le_of_ble_eq_true rfl) (Nat.le_of_ble_eq_true rfl)) (ck' := 0) (sk' := 0) rfl rfl (fun _ => rfl) (fun _ _ => ?_) (fun _ hx => absurd rfl hx)
    refine g_if_ne C 20 dX11_setShare_11 (by decide) (fun c8 => ?_) (fun c8 => ?_)
    · have hf := opt_neg c8 hf
      refine g_iload_n C 3 dX11_setShare_20 rfl ?_
      refine g_iconst C (v := 0) dX11_setShare_21 (by decide) ?_
      refine g_sipush C (v := 1018) dX11_setShare_22 (by decide) ?_
      obtain ⟨v9, h10, hf⟩ := opt_bind hf
      refine g_callS C (c_X11_in (l := x_l X) (D := x_D X) (cy := x_y X) (p0 := p2) (p1 := 0) (p2 := 1018) h10) (As := [.int p2, .int 0, .int 1018]) (rest := []) (wr := (wM (x_y X) a thrown g saved hasSaved coef nodes nodeMany isDeep codes details levelMany given paper papered tape taped wrongAt at_ value readPlace readValue readEpoch)) (ws' := fun _ => (wM (x_y X) a thrown g saved hasSaved coef nodes nodeMany isDeep codes details levelMany given paper papered tape taped wrongAt at_ value readPlace readValue readEpoch)) (st' := fun _ => [.int v9]) 3 mw_7_41 mw_1_9 mw_7_39 mw_7_40 hd_X11_in rfl (g_rm hR rfl rfl) [] [0, 1, 2, 3, 4, 5, 6, 7, 8, 9] [0, 1, 2, 3, 4, 5, 6, 7, 8, 9] ⟨rfl, rfl, rfl, rfl, by decide, gRoIn_0, rfl, fun _ => rfl⟩ rfl (Nat.le_of_ble_eq_true rfl) dX11_setShare_25 (g_rc hR (Nat.le_of_ble_eq_true rfl) (Nat.le_of_ble_eq_true rfl)) (ck' := 0) (sk' := 0) rfl rfl (fun _ => rfl) (fun _ _ => ?_) (fun _ hx => absurd rfl hx)
      refine g_if_ne C 37 dX11_setShare_28 (by decide) (fun c11 => ?_) (fun c11 => ?_)
      · have hf := opt_neg c11 hf
        refine g_aload_n C 0 dX11_setShare_37 rfl ?_
        refine g_iload_n C 1 dX11_setShare_38 rfl ?_
        refine g_iload_n C 2 dX11_setShare_39 rfl ?_
        obtain ⟨v12, h13, hf⟩ := opt_bind hf
        refine g_callV C (c_X11_hasShare (l := x_l X) (D := x_D X) (cy := x_y X) (a := a) (thrown := thrown) (g := g) (saved := saved) (hasSaved := hasSaved) (coef := coef) (nodes := nodes) (nodeMany := nodeMany) (isDeep := isDeep) (codes := codes) (details := details) (levelMany := levelMany) (given := given) (paper := paper) (papered := papered) (tape := tape) (taped := taped) (wrongAt := wrongAt) (at_ := at_) (value := value) (readPlace := readPlace) (readValue := readValue) (readEpoch := readEpoch) (p0 := p0) (p1 := p1) h13) (As := [.int p0, .int p1]) (rest := []) (wr := []) (ws' := fun _ => (wM (x_y X) a thrown g saved hasSaved coef nodes nodeMany isDeep codes details levelMany given paper papered tape taped wrongAt at_ value readPlace readValue readEpoch)) (st' := fun _ => [.int v12]) (ci := 12) 2 0 ⟨_, rfl⟩ rfl rfl mw_7_61 mw_1_9 mw_7_58 mw_7_60 mp_33 hd_X11_hasShare rfl (g_rm hR rfl rfl) [0, 1, 2, 3, 4, 5, 6, 7, 8, 9] [] [0, 1, 2, 3, 4, 5, 6, 7, 8, 9] ⟨rfl, rfl, rfl, rfl, by decide, gRoIn_0, rfl, fun _ => rfl⟩ rfl (Nat.le_of_ble_eq_true rfl) dX11_setShare_40 (g_rc hR (Nat.le_of_ble_eq_true rfl) (Nat.le_of_ble_eq_true rfl)) (ck' := 0) (sk' := 0) rfl rfl (fun _ => rfl) (fun _ _ => ?_) (fun _ hx => absurd rfl hx)
        refine g_if_ne C 52 dX11_setShare_43 (by decide) (fun c14 => ?_) (fun c14 => ?_)
        · have hf := opt_neg c14 hf
          refine g_aload_n C 0 dX11_setShare_52 rfl ?_
          refine g_iload_n C 1 dX11_setShare_53 rfl ?_
          refine g_iload_n C 2 dX11_setShare_54 rfl ?_
          refine g_iconst C (v := 1) dX11_setShare_55 (by decide) ?_
          obtain ⟨v15, h16, hf⟩ := opt_bind hf
          refine g_callV C (c_X11_shareOf (l := x_l X) (D := x_D X) (cy := x_y X) (a := a) (thrown := thrown) (g := g) (saved := saved) (hasSaved := hasSaved) (coef := coef) (nodes := nodes) (nodeMany := nodeMany) (isDeep := isDeep) (codes := codes) (details := details) (levelMany := levelMany) (given := given) (paper := paper) (papered := papered) (tape := tape) (taped := taped) (wrongAt := wrongAt) (at_ := at_) (value := value) (readPlace := readPlace) (readValue := readValue) (readEpoch := readEpoch) (p0 := p0) (p1 := p1) (p2 := 1) h16) (As := [.int p0, .int p1, .int 1]) (rest := []) (wr := []) (ws' := fun _ => (wM (x_y X) a thrown g saved hasSaved coef nodes nodeMany isDeep codes details levelMany given paper papered tape taped wrongAt at_ value readPlace readValue readEpoch)) (st' := fun _ => [.int v15]) (ci := 12) 3 0 ⟨_, rfl⟩ rfl rfl mw_7_65 mw_1_9 mw_7_62 mw_7_64 mp_34 hd_X11_shareOf rfl (g_rm hR rfl rfl) [0, 1, 2, 3, 4, 5, 6, 7, 8, 9] [] [0, 1, 2, 3, 4, 5, 6, 7, 8, 9] ⟨rfl, rfl, rfl, rfl, by decide, gRoIn_0, rfl, fun _ => rfl⟩ rfl (Nat.le_of_ble_eq_true rfl) dX11_setShare_56 (g_rc hR (Nat.le_of_ble_eq_true rfl) (Nat.le_of_ble_eq_true rfl)) (ck' := 0) (sk' := 0) rfl rfl (fun _ => rfl) (fun _ _ => ?_) (fun _ hx => absurd rfl hx)
          refine g_istore C (lv' := [(4, .int v15), (0, .ref (a 0)), (1, .int p0), (2, .int p1), (3, .int p2)]) dX11_setShare_59 (g_nlt hn rfl) rfl ?_
          refine g_aload_n C 1 dX11_setShare_61 rfl ?_
          refine g_iload_n C 2 dX11_setShare_62 rfl ?_
          refine g_iload_n C 3 dX11_setShare_63 rfl ?_
          refine g_iload_n C 4 dX11_setShare_64 rfl ?_
          refine g_aload_n C 1 dX11_setShare_65 rfl ?_
          refine g_iload_n C 2 dX11_setShare_66 rfl ?_
          refine g_iload_n C 3 dX11_setShare_67 rfl ?_
          refine g_iconst C (v := 2) dX11_setShare_68 (by decide) ?_
          obtain ⟨v17, h18, hf⟩ := opt_bind hf
          refine g_callV C (c_X11_shareOf (l := x_l X) (D := x_D X) (cy := x_y X) (a := a) (thrown := thrown) (g := g) (saved := saved) (hasSaved := hasSaved) (coef := coef) (nodes := nodes) (nodeMany := nodeMany) (isDeep := isDeep) (codes := codes) (details := details) (levelMany := levelMany) (given := given) (paper := paper) (papered := papered) (tape := tape) (taped := taped) (wrongAt := wrongAt) (at_ := at_) (value := value) (readPlace := readPlace) (readValue := readValue) (readEpoch := readEpoch) (p0 := p0) (p1 := p1) (p2 := 2) h18) (As := [.int p0, .int p1, .int 2]) (rest := [.int p2, .int p1, .int p0, .ref (a 0)]) (wr := []) (ws' := fun _ => (wM (x_y X) a thrown g saved hasSaved coef nodes nodeMany isDeep codes details levelMany given paper papered tape taped wrongAt at_ value readPlace readValue readEpoch)) (st' := fun _ => [.int v17, .int p2, .int p1, .int p0, .ref (a 0)]) (ci := 12) 3 0 ⟨_, rfl⟩ rfl rfl mw_7_65 mw_1_9 mw_7_62 mw_7_64 mp_34 hd_X11_shareOf rfl (g_rm hR rfl rfl) [0, 1, 2, 3, 4, 5, 6, 7, 8, 9] [] [0, 1, 2, 3, 4, 5, 6, 7, 8, 9] ⟨rfl, rfl, rfl, rfl, by decide, gRoIn_0, rfl, fun _ => rfl⟩ rfl (Nat.le_of_ble_eq_true rfl) dX11_setShare_69 (g_rc hR (Nat.le_of_ble_eq_true rfl) (Nat.le_of_ble_eq_true rfl)) (ck' := 0) (sk' := 0) rfl rfl (fun _ => rfl) (fun _ _ => ?_) (fun _ hx => absurd rfl hx)
          obtain ⟨v19, h20, hf⟩ := opt_bind hf
          refine g_callV C (c_X11_setsShare (l := x_l X) (D := x_D X) (cy := x_y X) (a := a) (thrown := thrown) (g := g) (saved := saved) (hasSaved := hasSaved) (coef := coef) (nodes := nodes) (nodeMany := nodeMany) (isDeep := isDeep) (codes := codes) (details := details) (levelMany := levelMany) (given := given) (paper := paper) (papered := papered) (tape := tape) (taped := taped) (wrongAt := wrongAt) (at_ := at_) (value := value) (readPlace := readPlace) (readValue := readValue) (readEpoch := readEpoch) (p0 := p0) (p1 := p1) (p2 := p2) (p3 := v17) h20) (As := [.int p0, .int p1, .int p2, .int v17]) (rest := []) (wr := []) (ws' := fun _ => (wM (x_y X) a thrown v19 saved hasSaved coef nodes nodeMany isDeep codes details levelMany given paper papered tape taped wrongAt at_ value readPlace readValue readEpoch)) (st' := fun _ => []) (ci := 12) 4 0 ⟨_, rfl⟩ rfl rfl mw_7_114 mw_1_9 mw_7_111 mw_7_113 mp_43 hd_X11_setsShare rfl (g_rm hR rfl rfl) [0, 1, 2, 3, 4, 5, 6, 7, 8, 9] [] [0, 1, 2, 3, 4, 5, 6, 7, 8, 9] ⟨rfl, rfl, rfl, rfl, by decide, gRoIn_0, rfl, fun _ => rfl⟩ rfl (Nat.le_of_ble_eq_true rfl) dX11_setShare_72 (g_rc hR (Nat.le_of_ble_eq_true rfl) (Nat.le_of_ble_eq_true rfl)) (ck' := 0) (sk' := 0) rfl rfl (fun _ => rfl) (fun _ _ => ?_) (fun _ hx => absurd rfl hx)
          refine g_aload_n C 1 dX11_setShare_75 rfl ?_
          refine g_iload C 0 dX11_setShare_76 rfl ?_
          obtain ⟨v21, h22, hf⟩ := opt_bind hf
          refine g_callV C (c_X11_done (l := x_l X) (D := x_D X) (cy := x_y X) (a := a) (thrown := thrown) (g := v19) (saved := saved) (hasSaved := hasSaved) (coef := coef) (nodes := nodes) (nodeMany := nodeMany) (isDeep := isDeep) (codes := codes) (details := details) (levelMany := levelMany) (given := given) (paper := paper) (papered := papered) (tape := tape) (taped := taped) (wrongAt := wrongAt) (at_ := at_) (value := value) (readPlace := readPlace) (readValue := readValue) (readEpoch := readEpoch) (p0 := v15) h22) (As := [.int v15]) (rest := []) (wr := []) (ws' := fun _ => (wM (x_y X) a v21.2 v19 saved hasSaved coef nodes nodeMany isDeep codes details levelMany given paper papered tape taped wrongAt at_ value readPlace readValue readEpoch)) (st' := fun _ => [.int v21.1]) (ci := 12) 1 0 ⟨_, rfl⟩ rfl rfl mw_7_22 mw_1_9 mw_7_19 mw_7_21 mp_29 hd_X11_done rfl (g_rm hR rfl rfl) [0, 1, 2, 3, 4, 5, 6, 7, 8, 9] [] [0, 1, 2, 3, 4, 5, 6, 7, 8, 9] ⟨rfl, rfl, rfl, rfl, by decide, gRoIn_0, rfl, fun _ => rfl⟩ rfl (Nat.le_of_ble_eq_true rfl) dX11_setShare_78 (g_rc hR (Nat.le_of_ble_eq_true rfl) (Nat.le_of_ble_eq_true rfl)) (ck' := 0) (sk' := 0) rfl rfl (fun _ => rfl) (fun _ _ => ?_) (fun _ hx => absurd rfl hx)
          obtain rfl := Option.some.inj hf
          exact g_iret C E () dX11_setShare_81 rfl rfl rfl (Nat.le_of_ble_eq_true rfl) (Nat.le_of_ble_eq_true rfl)
        · have hf := opt_pos c14 hf
          refine g_aload_n C 0 dX11_setShare_46 rfl ?_
          refine g_iconst C (v := 3) dX11_setShare_47 (by decide) ?_
          obtain ⟨v23, h24, hf⟩ := opt_bind hf
          refine g_callV C (c_X11_fails (l := x_l X) (D := x_D X) (cy := x_y X) (a := a) (thrown := thrown) (g := g) (saved := saved) (hasSaved := hasSaved) (coef := coef) (nodes := nodes) (nodeMany := nodeMany) (isDeep := isDeep) (codes := codes) (details := details) (levelMany := levelMany) (given := given) (paper := paper) (papered := papered) (tape := tape) (taped := taped) (wrongAt := wrongAt) (at_ := at_) (value := value) (readPlace := readPlace) (readValue := readValue) (readEpoch := readEpoch) (p0 := 3) h24) (As := [.int 3]) (rest := []) (wr := []) (ws' := fun _ => (wM (x_y X) a v23.2 g saved hasSaved coef nodes nodeMany isDeep codes details levelMany given paper papered tape taped wrongAt at_ value readPlace readValue readEpoch)) (st' := fun _ => [.int v23.1]) (ci := 12) 1 0 ⟨_, rfl⟩ rfl rfl mw_7_45 mw_1_9 mw_7_42 mw_7_44 mp_31 hd_X11_fails rfl (g_rm hR rfl rfl) [0, 1, 2, 3, 4, 5, 6, 7, 8, 9] [] [0, 1, 2, 3, 4, 5, 6, 7, 8, 9] ⟨rfl, rfl, rfl, rfl, by decide, gRoIn_0, rfl, fun _ => rfl⟩ rfl (Nat.le_of_ble_eq_true rfl) dX11_setShare_48 (g_rc hR (Nat.le_of_ble_eq_true rfl) (Nat.le_of_ble_eq_true rfl)) (ck' := 0) (sk' := 0) rfl rfl (fun _ => rfl) (fun _ _ => ?_) (fun _ hx => absurd rfl hx)
          obtain rfl := Option.some.inj hf
          exact g_iret C E () dX11_setShare_51 rfl rfl rfl (Nat.le_of_ble_eq_true rfl) (Nat.le_of_ble_eq_true rfl)
      · have hf := opt_pos c11 hf
        refine g_aload_n C 0 dX11_setShare_31 rfl ?_
        refine g_iconst C (v := 2) dX11_setShare_32 (by decide) ?_
        obtain ⟨v25, h26, hf⟩ := opt_bind hf
        refine g_callV C (c_X11_fails (l := x_l X) (D := x_D X) (cy := x_y X) (a := a) (thrown := thrown) (g := g) (saved := saved) (hasSaved := hasSaved) (coef := coef) (nodes := nodes) (nodeMany := nodeMany) (isDeep := isDeep) (codes := codes) (details := details) (levelMany := levelMany) (given := given) (paper := paper) (papered := papered) (tape := tape) (taped := taped) (wrongAt := wrongAt) (at_ := at_) (value := value) (readPlace := readPlace) (readValue := readValue) (readEpoch := readEpoch) (p0 := 2) h26) (As := [.int 2]) (rest := []) (wr := []) (ws' := fun _ => (wM (x_y X) a v25.2 g saved hasSaved coef nodes nodeMany isDeep codes details levelMany given paper papered tape taped wrongAt at_ value readPlace readValue readEpoch)) (st' := fun _ => [.int v25.1]) (ci := 12) 1 0 ⟨_, rfl⟩ rfl rfl mw_7_45 mw_1_9 mw_7_42 mw_7_44 mp_31 hd_X11_fails rfl (g_rm hR rfl rfl) [0, 1, 2, 3, 4, 5, 6, 7, 8, 9] [] [0, 1, 2, 3, 4, 5, 6, 7, 8, 9] ⟨rfl, rfl, rfl, rfl, by decide, gRoIn_0, rfl, fun _ => rfl⟩ rfl (Nat.le_of_ble_eq_true rfl) dX11_setShare_33 (g_rc hR (Nat.le_of_ble_eq_true rfl) (Nat.le_of_ble_eq_true rfl)) (ck' := 0) (sk' := 0) rfl rfl (fun _ => rfl) (fun _ _ => ?_) (fun _ hx => absurd rfl hx)
        obtain rfl := Option.some.inj hf
        exact g_iret C E () dX11_setShare_36 rfl rfl rfl (Nat.le_of_ble_eq_true rfl) (Nat.le_of_ble_eq_true rfl)
    · have hf := opt_pos c8 hf
      exact H14 thrown g hf
/-! X11_writes -/
theorem hd_X11_writes : yX11_writes.cls ≠ "java/lang/invoke/MethodHandle" ∧ yX11_writes.cls ≠ "java/lang/invoke/VarHandle" ∧ (parseMethodDescriptor yX11_writes.desc).map (fun d => d.parameters.length) = some 1 := by decide +kernel
def F_X11_writes (paper : Nat → Int32) (papered : Int32) (p0 : Int32) : Option ((Nat → Int32) × Int32) := gg (gi papered 100) (gl (upd paper (Int32.toNatClampNeg papered) (vp_nar .char ((Int32.toUInt32 p0 % 65536).toInt32))) fun f2 => some (f2, papered + 1))
set_option maxRecDepth 100000 in
set_option maxHeartbeats 4000000 in
theorem c_X11_writes {l : Launch} {D : va_G} {cy : Nat → ClassId} {a : Nat → Nat} {thrown : Int32} {g : Nat → Int32} {saved : Nat → Int32} {hasSaved : Int32} {coef : Nat → Int32} {nodes : Nat → Int32} {nodeMany : Int32} {isDeep : Int32} {codes : Nat → Int32} {details : Nat → Int32} {levelMany : Int32} {given : Nat → Int32} {paper : Nat → Int32} {papered : Int32} {tape : Nat → Int32} {taped : Int32} {wrongAt : Int32} {at_ : Int32} {value : Int32} {readPlace : Int32} {readValue : Int32} {readEpoch : Int32} {p0 : Int32}  {val : (Nat → Int32) × Int32} (hf : F_X11_writes paper papered p0 = some val) : gCt l D cy yX11_writes cX11_writes 2 none 0 0 0 0 [.ref (a 0), .int p0] [] ((wM cy a thrown g saved hasSaved coef nodes nodeMany isDeep codes details levelMany given paper papered tape taped wrongAt at_ value readPlace readValue readEpoch)) 0 (fun _ : Unit => none) (fun _ => (wM cy a thrown g saved hasSaved coef nodes nodeMany isDeep codes details levelMany given val.1 val.2 tape taped wrongAt at_ value readPlace readValue readEpoch)) := by
  refine g_begin (by decide +kernel) (Nat.le_of_ble_eq_true rfl) ?_
  intro X Q hl hR hD hy hro hn C hin E
  subst hl; subst hD; subst hy
  replace C : gC X "SecretVaultModel" cX11_writes none := C
  unfold F_X11_writes at hf
  show gW X Q 0 0 ((wM (x_y X) a thrown g saved hasSaved coef nodes nodeMany isDeep codes details levelMany given paper papered tape taped wrongAt at_ value readPlace readValue readEpoch)) [(0, .ref (a 0)), (1, .int p0)] [] 0
  refine g_aload_n C 0 dX11_writes_0 rfl ?_
  refine g_get C 0 12 rfl rfl wiX11 (by decide) mw_6_195 rfl rfl dX11_writes_1 ?_
  refine g_aload_n C 0 dX11_writes_4 rfl ?_
  refine g_get C 0 13 rfl rfl wiX11 (by decide) mw_6_196 rfl rfl dX11_writes_5 ?_
  refine g_iload_n C 1 dX11_writes_8 rfl ?_
  refine g_i2c C dX11_writes_9 ?_
  obtain ⟨c1, hf⟩ := gg_of hf
  obtain ⟨f2, ef2, hf⟩ := opt_let hf
  refine g_cast C (ws' := (wM (x_y X) a thrown g saved hasSaved coef nodes nodeMany isDeep codes details levelMany given f2 papered tape taped wrongAt at_ value readPlace readValue readEpoch)) 8 rfl (gi_in c1) (by rw [ef2]; rfl) dX11_writes_10 ?_
  refine g_aload_n C 0 dX11_writes_11 rfl ?_
  refine g_dup C dX11_writes_12 rfl ?_
  refine g_get C 0 13 rfl rfl wiX11 (by decide) mw_6_196 rfl rfl dX11_writes_13 ?_
  refine g_iconst C (v := 1) dX11_writes_16 (by decide) ?_
  refine g_iadd C dX11_writes_17 ?_
  refine g_put C (ws' := (wM (x_y X) a thrown g saved hasSaved coef nodes nodeMany isDeep codes details levelMany given f2 (papered + 1) tape taped wrongAt at_ value readPlace readValue readEpoch)) 0 13 rfl rfl wiX11 (by decide) tyX11_ok nmX11 mw_6_196 rfl rfl rfl rfl (Nat.le_of_ble_eq_true rfl) rfl dX11_writes_18 ?_
  obtain rfl := Option.some.inj hf
  exact g_vret C E () dX11_writes_21 rfl rfl rfl (Nat.le_of_ble_eq_true rfl) (Nat.le_of_ble_eq_true rfl)
/-! X11_writesNumber -/
theorem hd_X11_writesNumber : yX11_writesNumber.cls ≠ "java/lang/invoke/MethodHandle" ∧ yX11_writesNumber.cls ≠ "java/lang/invoke/VarHandle" ∧ (parseMethodDescriptor yX11_writesNumber.desc).map (fun d => d.parameters.length) = some 1 := by decide +kernel
def F_X11_writesNumber_L18 (p0 : Int32)  : Nat → (Nat → Int32) → Int32 → Int32 → Option ((Nat → Int32) × Int32)
  | 0, _, _, _ => none
  | n + 1, paper_18, papered_18, l2_18 => if l2_18 ≤ 0 then (some (paper_18, papered_18)) else (gg (gz l2_18) ((F_X11_writes paper_18 papered_18 ((48 : Int32) + ((p0 / l2_18) - (p0 / l2_18) / 10 * 10))).bind fun v5 => F_X11_writesNumber_L18 p0 n v5.1 v5.2 (l2_18 / 10)))
def F_X11_writesNumber_L2 (p0 : Int32)  : Nat → (Nat → Int32) → Int32 → Int32 → Option ((Nat → Int32) × Int32)
  | 0, _, _, _ => none
  | n + 1, paper_2, papered_2, l2_2 => gg (gz l2_2) (if (p0 / l2_2) < 10 then (F_X11_writesNumber_L18 p0 1000 paper_2 papered_2 l2_2) else (F_X11_writesNumber_L2 p0 n paper_2 papered_2 (l2_2 * 10)))
def F_X11_writesNumber (paper : Nat → Int32) (papered : Int32) (p0 : Int32) : Option ((Nat → Int32) × Int32) := F_X11_writesNumber_L2 p0 1000 paper papered 1
set_option maxRecDepth 100000 in
set_option maxHeartbeats 4000000 in
theorem c_X11_writesNumber {l : Launch} {D : va_G} {cy : Nat → ClassId} {a : Nat → Nat} {thrown : Int32} {g : Nat → Int32} {saved : Nat → Int32} {hasSaved : Int32} {coef : Nat → Int32} {nodes : Nat → Int32} {nodeMany : Int32} {isDeep : Int32} {codes : Nat → Int32} {details : Nat → Int32} {levelMany : Int32} {given : Nat → Int32} {paper : Nat → Int32} {papered : Int32} {tape : Nat → Int32} {taped : Int32} {wrongAt : Int32} {at_ : Int32} {value : Int32} {readPlace : Int32} {readValue : Int32} {readEpoch : Int32} {p0 : Int32}  {val : (Nat → Int32) × Int32} (hf : F_X11_writesNumber paper papered p0 = some val) : gCt l D cy yX11_writesNumber cX11_writesNumber 3 none 1 21 0 0 [.ref (a 0), .int p0] [] ((wM cy a thrown g saved hasSaved coef nodes nodeMany isDeep codes details levelMany given paper papered tape taped wrongAt at_ value readPlace readValue readEpoch)) 0 (fun _ : Unit => none) (fun _ => (wM cy a thrown g saved hasSaved coef nodes nodeMany isDeep codes details levelMany given val.1 val.2 tape taped wrongAt at_ value readPlace readValue readEpoch)) := by
  refine g_begin (by decide +kernel) (Nat.le_of_ble_eq_true rfl) ?_
  intro X Q hl hR hD hy hro hn C hin E
  subst hl; subst hD; subst hy
  replace C : gC X "SecretVaultModel" cX11_writesNumber none := C
  unfold F_X11_writesNumber at hf
  have H18 : ∀ (n18 : Nat), ∀ (paper_18 : Nat → Int32) (papered_18 : Int32) (l2_18 : Int32), F_X11_writesNumber_L18 p0 n18 paper_18 papered_18 l2_18 = some val → gW X Q 0 0 ((wM (x_y X) a thrown g saved hasSaved coef nodes nodeMany isDeep codes details levelMany given paper_18 papered_18 tape taped wrongAt at_ value readPlace readValue readEpoch)) [(0, .ref (a 0)), (1, .int p0), (2, .int l2_18)] [] 18 := by
    intro n18
    induction n18 with
    | zero => intros; rename_i hf; cases hf
    | succ n18 ih =>
      intro paper_18 papered_18 l2_18 hf
      have H18 := ih
      rw [F_X11_writesNumber_L18] at hf
      refine g_iload_n C 2 dX11_writesNumber_18 rfl ?_
      refine g_if_le C 43 dX11_writesNumber_19 (by decide) (fun c3 => ?_) (fun c3 => ?_)
      · have hf := opt_pos c3 hf
        obtain rfl := Option.some.inj hf
        exact g_vret C E () dX11_writesNumber_43 rfl rfl rfl (Nat.le_of_ble_eq_true rfl) (Nat.le_of_ble_eq_true rfl)
      · have hf := opt_neg c3 hf
        refine g_aload_n C 0 dX11_writesNumber_22 rfl ?_
        refine g_bipush C (v := 48) dX11_writesNumber_23 (by decide) ?_
        refine g_iload_n C 1 dX11_writesNumber_25 rfl ?_
        refine g_iload_n C 2 dX11_writesNumber_26 rfl ?_
        obtain ⟨c4, hf⟩ := gg_of hf
        refine g_idiv C dX11_writesNumber_27 (gz_ne c4) ?_
        refine g_bipush C (v := 10) dX11_writesNumber_28 (by decide) ?_
        refine g_irem C dX11_writesNumber_30 (by decide) ?_
        refine g_iadd C dX11_writesNumber_31 ?_
        obtain ⟨v5, h6, hf⟩ := opt_bind hf
        refine g_callV C (c_X11_writes (l := x_l X) (D := x_D X) (cy := x_y X) (a := a) (thrown := thrown) (g := g) (saved := saved) (hasSaved := hasSaved) (coef := coef) (nodes := nodes) (nodeMany := nodeMany) (isDeep := isDeep) (codes := codes) (details := details) (levelMany := levelMany) (given := given) (paper := paper_18) (papered := papered_18) (tape := tape) (taped := taped) (wrongAt := wrongAt) (at_ := at_) (value := value) (readPlace := readPlace) (readValue := readValue) (readEpoch := readEpoch) (p0 := (48 : Int32) + ((p0 / l2_18) - (p0 / l2_18) / 10 * 10)) h6) (As := [.int ((48 : Int32) + ((p0 / l2_18) - (p0 / l2_18) / 10 * 10))]) (rest := []) (wr := []) (ws' := fun _ => (wM (x_y X) a thrown g saved hasSaved coef nodes nodeMany isDeep codes details levelMany given v5.1 v5.2 tape taped wrongAt at_ value readPlace readValue readEpoch)) (st' := fun _ => []) (ci := 12) 1 0 ⟨_, rfl⟩ rfl rfl mw_8_10 mw_1_9 mw_8_7 mw_8_9 mp_61 hd_X11_writes rfl (g_rm hR rfl rfl) [0, 1, 2, 3, 4, 5, 6, 7, 8, 9] [] [0, 1, 2, 3, 4, 5, 6, 7, 8, 9] ⟨rfl, rfl, rfl, rfl, by decide, gRoIn_0, rfl, fun _ => rfl⟩ rfl (Nat.le_of_ble_eq_true rfl) dX11_writesNumber_32 (g_rc hR (Nat.le_of_ble_eq_true rfl) (Nat.le_of_ble_eq_true rfl)) (ck' := 0) (sk' := 0) rfl rfl (fun _ => rfl) (fun _ _ => ?_) (fun _ hx => absurd rfl hx)
        refine g_iload_n C 2 dX11_writesNumber_35 rfl ?_
        refine g_bipush C (v := 10) dX11_writesNumber_36 (by decide) ?_
        refine g_idiv C dX11_writesNumber_38 (by decide) ?_
        refine g_istore_n C (lv' := [(2, .int (l2_18 / 10)), (0, .ref (a 0)), (1, .int p0)]) dX11_writesNumber_39 (g_nlt hn rfl) rfl ?_
        refine g_goto C 18 dX11_writesNumber_40 (by decide) ?_
        refine gW.locals [1, 2, 0] rfl ?_
        exact H18 v5.1 v5.2 (l2_18 / 10) hf
  have H2 : ∀ (n2 : Nat), ∀ (paper_2 : Nat → Int32) (papered_2 : Int32) (l2_2 : Int32), F_X11_writesNumber_L2 p0 n2 paper_2 papered_2 l2_2 = some val → gW X Q 0 0 ((wM (x_y X) a thrown g saved hasSaved coef nodes nodeMany isDeep codes details levelMany given paper_2 papered_2 tape taped wrongAt at_ value readPlace readValue readEpoch)) [(0, .ref (a 0)), (1, .int p0), (2, .int l2_2)] [] 2 := by
    intro n2
    induction n2 with
    | zero => intros; rename_i hf; cases hf
    | succ n2 ih =>
      intro paper_2 papered_2 l2_2 hf
      have H2 := ih
      rw [F_X11_writesNumber_L2] at hf
      refine g_iload_n C 1 dX11_writesNumber_2 rfl ?_
      refine g_iload_n C 2 dX11_writesNumber_3 rfl ?_
      obtain ⟨c1, hf⟩ := gg_of hf
      refine g_idiv C dX11_writesNumber_4 (gz_ne c1) ?_
      refine g_bipush C (v := 10) dX11_writesNumber_5 (by decide) ?_
      refine g_icmp_lt C 18 dX11_writesNumber_7 (by decide) (fun c2 => ?_) (fun c2 => ?_)
      · have hf := opt_pos c2 hf
        exact H18 1000 paper_2 papered_2 l2_2 hf
      · have hf := opt_neg c2 hf
        refine g_iload_n C 2 dX11_writesNumber_10 rfl ?_
        refine g_bipush C (v := 10) dX11_writesNumber_11 (by decide) ?_
        refine g_imul C dX11_writesNumber_13 ?_
        refine g_istore_n C (lv' := [(2, .int (l2_2 * 10)), (0, .ref (a 0)), (1, .int p0)]) dX11_writesNumber_14 (g_nlt hn rfl) rfl ?_
        refine g_goto C 2 dX11_writesNumber_15 (by decide) ?_
        refine gW.locals [1, 2, 0] rfl ?_
        exact H2 paper_2 papered_2 (l2_2 * 10) hf
  show gW X Q 0 0 ((wM (x_y X) a thrown g saved hasSaved coef nodes nodeMany isDeep codes details levelMany given paper papered tape taped wrongAt at_ value readPlace readValue readEpoch)) [(0, .ref (a 0)), (1, .int p0)] [] 0
  refine g_iconst C (v := 1) dX11_writesNumber_0 (by decide) ?_
  refine g_istore_n C (lv' := [(2, .int 1), (0, .ref (a 0)), (1, .int p0)]) dX11_writesNumber_1 (g_nlt hn rfl) rfl ?_
  refine gW.locals [1, 2, 0] rfl ?_
  exact H2 1000 paper papered 1 hf
/-! X11_lastDigit -/
theorem hd_X11_lastDigit : yX11_lastDigit.cls ≠ "java/lang/invoke/MethodHandle" ∧ yX11_lastDigit.cls ≠ "java/lang/invoke/VarHandle" ∧ (parseMethodDescriptor yX11_lastDigit.desc).map (fun d => d.parameters.length) = some 3 := by decide +kernel
def F_X11_lastDigit (p0 : Int32) (p1 : Int32) (p2 : Int32) : Option (Int32) := gl (((((7 : Int32) * p0) + ((3 : Int32) * p1)) + p2) - ((((7 : Int32) * p0) + ((3 : Int32) * p1)) + p2) / 10 * 10) fun x1 => some x1
set_option maxRecDepth 100000 in
set_option maxHeartbeats 4000000 in
theorem c_X11_lastDigit {l : Launch} {D : va_G} {cy : Nat → ClassId}   {p0 : Int32} {p1 : Int32} {p2 : Int32}  {val : Int32} (hf : F_X11_lastDigit p0 p1 p2 = some val) : gCt l D cy yX11_lastDigit cX11_lastDigit 3 (some .int) 0 0 0 0 [.int p0, .int p1, .int p2] [] ([]) 0 (fun _ : Unit => some (.int val)) (fun _ => []) := by
  refine g_begin (by decide +kernel) (Nat.le_of_ble_eq_true rfl) ?_
  intro X Q hl hR hD hy hro hn C hin E
  subst hl; subst hD; subst hy
  replace C : gC X "SecretVaultModel" cX11_lastDigit (some .int) := C
  unfold F_X11_lastDigit at hf
  show gW X Q 0 0 ([]) [(0, .int p0), (1, .int p1), (2, .int p2)] [] 0
  refine g_bipush C (v := 7) dX11_lastDigit_0 (by decide) ?_
  refine g_iload_n C 0 dX11_lastDigit_2 rfl ?_
  refine g_imul C dX11_lastDigit_3 ?_
  refine g_iconst C (v := 3) dX11_lastDigit_4 (by decide) ?_
  refine g_iload_n C 1 dX11_lastDigit_5 rfl ?_
  refine g_imul C dX11_lastDigit_6 ?_
  refine g_iadd C dX11_lastDigit_7 ?_
  refine g_iload_n C 2 dX11_lastDigit_8 rfl ?_
  refine g_iadd C dX11_lastDigit_9 ?_
  refine g_bipush C (v := 10) dX11_lastDigit_10 (by decide) ?_
  refine g_irem C dX11_lastDigit_12 (by decide) ?_
  obtain ⟨x1, ex1, hf⟩ := opt_let hf
  refine g_topi ex1 ?_
  obtain rfl := Option.some.inj hf
  exact g_iret C E () dX11_lastDigit_13 rfl rfl rfl (Nat.le_of_ble_eq_true rfl) (Nat.le_of_ble_eq_true rfl)
/-! X11_paperAt -/
theorem hd_X11_paperAt : yX11_paperAt.cls ≠ "java/lang/invoke/MethodHandle" ∧ yX11_paperAt.cls ≠ "java/lang/invoke/VarHandle" ∧ (parseMethodDescriptor yX11_paperAt.desc).map (fun d => d.parameters.length) = some 1 := by decide +kernel
def F_X11_paperAt_L42   (thrown_42 : Int32) (s0_42 : Int32) : Option (Int32 × Int32) := some (s0_42, thrown_42)
def F_X11_paperAt (thrown : Int32) (paper : Nat → Int32) (papered : Int32) (p0 : Int32) : Option (Int32 × Int32) := if p0 = (-1) then ((F_X11_done thrown papered).bind fun v8 => F_X11_paperAt_L42 v8.2 v8.1) else (if papered ≤ p0 then ((F_X11_fails thrown 2).bind fun v3 => F_X11_paperAt_L42 v3.2 v3.1) else (gg (gi p0 100) ((F_X11_done thrown (paper (Int32.toNatClampNeg p0))).bind fun v6 => F_X11_paperAt_L42 v6.2 v6.1)))
set_option maxRecDepth 100000 in
set_option maxHeartbeats 4000000 in
theorem c_X11_paperAt {l : Launch} {D : va_G} {cy : Nat → ClassId} {a : Nat → Nat} {thrown : Int32} {g : Nat → Int32} {saved : Nat → Int32} {hasSaved : Int32} {coef : Nat → Int32} {nodes : Nat → Int32} {nodeMany : Int32} {isDeep : Int32} {codes : Nat → Int32} {details : Nat → Int32} {levelMany : Int32} {given : Nat → Int32} {paper : Nat → Int32} {papered : Int32} {tape : Nat → Int32} {taped : Int32} {wrongAt : Int32} {at_ : Int32} {value : Int32} {readPlace : Int32} {readValue : Int32} {readEpoch : Int32} {p0 : Int32}  {val : Int32 × Int32} (hf : F_X11_paperAt thrown paper papered p0 = some val) : gCt l D cy yX11_paperAt cX11_paperAt 2 (some .int) 1 21 0 0 [.ref (a 0), .int p0] [] ((wM cy a thrown g saved hasSaved coef nodes nodeMany isDeep codes details levelMany given paper papered tape taped wrongAt at_ value readPlace readValue readEpoch)) 0 (fun _ : Unit => some (.int val.1)) (fun _ => (wM cy a val.2 g saved hasSaved coef nodes nodeMany isDeep codes details levelMany given paper papered tape taped wrongAt at_ value readPlace readValue readEpoch)) := by
  refine g_begin (by decide +kernel) (Nat.le_of_ble_eq_true rfl) ?_
  intro X Q hl hR hD hy hro hn C hin E
  subst hl; subst hD; subst hy
  replace C : gC X "SecretVaultModel" cX11_paperAt (some .int) := C
  unfold F_X11_paperAt at hf
  have H42 : ∀ (thrown_42 : Int32) (s0_42 : Int32), F_X11_paperAt_L42 thrown_42 s0_42 = some val → gW X Q 0 0 ((wM (x_y X) a thrown_42 g saved hasSaved coef nodes nodeMany isDeep codes details levelMany given paper papered tape taped wrongAt at_ value readPlace readValue readEpoch)) [(0, .ref (a 0)), (1, .int p0)] [.int s0_42] 42 := by
    intro thrown_42 s0_42 hf
    unfold F_X11_paperAt_L42 at hf
    obtain rfl := Option.some.inj hf
    exact g_iret C E () dX11_paperAt_42 rfl rfl rfl (Nat.le_of_ble_eq_true rfl) (Nat.le_of_ble_eq_true rfl)
  show gW X Q 0 0 ((wM (x_y X) a thrown g saved hasSaved coef nodes nodeMany isDeep codes details levelMany given paper papered tape taped wrongAt at_ value readPlace readValue readEpoch)) [(0, .ref (a 0)), (1, .int p0)] [] 0
  refine g_iload_n C 1 dX11_paperAt_0 rfl ?_
  refine g_iconst C (v := (-1)) dX11_paperAt_1 (by decide) ?_
  refine g_icmp_ne C 16 dX11_paperAt_2 (by decide) (fun c1 => ?_) (fun c1 => ?_)
  · have hf := opt_neg c1 hf
    refine g_iload_n C 1 dX11_paperAt_16 rfl ?_
    refine g_aload_n C 0 dX11_paperAt_17 rfl ?_
    refine g_get C 0 13 rfl rfl wiX11 (by decide) mw_6_196 rfl rfl dX11_paperAt_18 ?_
    refine g_icmp_ge C 37 dX11_paperAt_21 (by decide) (fun c2 => ?_) (fun c2 => ?_)
    · have hf := opt_pos c2 hf
      refine g_aload_n C 0 dX11_paperAt_37 rfl ?_
      refine g_iconst C (v := 2) dX11_paperAt_38 (by decide) ?_
      obtain ⟨v3, h4, hf⟩ := opt_bind hf
      refine g_callV C (c_X11_fails (l := x_l X) (D := x_D X) (cy := x_y X) (a := a) (thrown := thrown) (g := g) (saved := saved) (hasSaved := hasSaved) (coef := coef) (nodes := nodes) (nodeMany := nodeMany) (isDeep := isDeep) (codes := codes) (details := details) (levelMany := levelMany) (given := given) (paper := paper) (papered := papered) (tape := tape) (taped := taped) (wrongAt := wrongAt) (at_ := at_) (value := value) (readPlace := readPlace) (readValue := readValue) (readEpoch := readEpoch) (p0 := 2) h4) (As := [.int 2]) (rest := []) (wr := []) (ws' := fun _ => (wM (x_y X) a v3.2 g saved hasSaved coef nodes nodeMany isDeep codes details levelMany given paper papered tape taped wrongAt at_ value readPlace readValue readEpoch)) (st' := fun _ => [.int v3.1]) (ci := 12) 1 0 ⟨_, rfl⟩ rfl rfl mw_7_45 mw_1_9 mw_7_42 mw_7_44 mp_31 hd_X11_fails rfl (g_rm hR rfl rfl) [0, 1, 2, 3, 4, 5, 6, 7, 8, 9] [] [0, 1, 2, 3, 4, 5, 6, 7, 8, 9] ⟨rfl, rfl, rfl, rfl, by decide, gRoIn_0, rfl, fun _ => rfl⟩ rfl (Nat.le_of_ble_eq_true rfl) dX11_paperAt_39 (g_rc hR (Nat.le_of_ble_eq_true rfl) (Nat.le_of_ble_eq_true rfl)) (ck' := 0) (sk' := 0) rfl rfl (fun _ => rfl) (fun _ _ => ?_) (fun _ hx => absurd rfl hx)
      exact H42 v3.2 v3.1 hf
    · have hf := opt_neg c2 hf
      refine g_aload_n C 0 dX11_paperAt_24 rfl ?_
      refine g_aload_n C 0 dX11_paperAt_25 rfl ?_
      refine g_get C 0 12 rfl rfl wiX11 (by decide) mw_6_195 rfl rfl dX11_paperAt_26 ?_
      refine g_iload_n C 1 dX11_paperAt_29 rfl ?_
      obtain ⟨c5, hf⟩ := gg_of hf
      refine g_cald C 8 rfl (gi_in c5) dX11_paperAt_30 ?_
      obtain ⟨v6, h7, hf⟩ := opt_bind hf
      refine g_callV C (c_X11_done (l := x_l X) (D := x_D X) (cy := x_y X) (a := a) (thrown := thrown) (g := g) (saved := saved) (hasSaved := hasSaved) (coef := coef) (nodes := nodes) (nodeMany := nodeMany) (isDeep := isDeep) (codes := codes) (details := details) (levelMany := levelMany) (given := given) (paper := paper) (papered := papered) (tape := tape) (taped := taped) (wrongAt := wrongAt) (at_ := at_) (value := value) (readPlace := readPlace) (readValue := readValue) (readEpoch := readEpoch) (p0 := paper (Int32.toNatClampNeg p0)) h7) (As := [.int (paper (Int32.toNatClampNeg p0))]) (rest := []) (wr := []) (ws' := fun _ => (wM (x_y X) a v6.2 g saved hasSaved coef nodes nodeMany isDeep codes details levelMany given paper papered tape taped wrongAt at_ value readPlace readValue readEpoch)) (st' := fun _ => [.int v6.1]) (ci := 12) 1 0 ⟨_, rfl⟩ rfl rfl mw_7_22 mw_1_9 mw_7_19 mw_7_21 mp_29 hd_X11_done rfl (g_rm hR rfl rfl) [0, 1, 2, 3, 4, 5, 6, 7, 8, 9] [] [0, 1, 2, 3, 4, 5, 6, 7, 8, 9] ⟨rfl, rfl, rfl, rfl, by decide, gRoIn_0, rfl, fun _ => rfl⟩ rfl (Nat.le_of_ble_eq_true rfl) dX11_paperAt_31 (g_rc hR (Nat.le_of_ble_eq_true rfl) (Nat.le_of_ble_eq_true rfl)) (ck' := 0) (sk' := 0) rfl rfl (fun _ => rfl) (fun _ _ => ?_) (fun _ hx => absurd rfl hx)
      refine g_goto C 42 dX11_paperAt_34 (by decide) ?_
      exact H42 v6.2 v6.1 hf
  · have hf := opt_pos c1 hf
    refine g_aload_n C 0 dX11_paperAt_5 rfl ?_
    refine g_aload_n C 0 dX11_paperAt_6 rfl ?_
    refine g_get C 0 13 rfl rfl wiX11 (by decide) mw_6_196 rfl rfl dX11_paperAt_7 ?_
    obtain ⟨v8, h9, hf⟩ := opt_bind hf
    refine g_callV C (c_X11_done (l := x_l X) (D := x_D X) (cy := x_y X) (a := a) (thrown := thrown) (g := g) (saved := saved) (hasSaved := hasSaved) (coef := coef) (nodes := nodes) (nodeMany := nodeMany) (isDeep := isDeep) (codes := codes) (details := details) (levelMany := levelMany) (given := given) (paper := paper) (papered := papered) (tape := tape) (taped := taped) (wrongAt := wrongAt) (at_ := at_) (value := value) (readPlace := readPlace) (readValue := readValue) (readEpoch := readEpoch) (p0 := papered) h9) (As := [.int papered]) (rest := []) (wr := []) (ws' := fun _ => (wM (x_y X) a v8.2 g saved hasSaved coef nodes nodeMany isDeep codes details levelMany given paper papered tape taped wrongAt at_ value readPlace readValue readEpoch)) (st' := fun _ => [.int v8.1]) (ci := 12) 1 0 ⟨_, rfl⟩ rfl rfl mw_7_22 mw_1_9 mw_7_19 mw_7_21 mp_29 hd_X11_done rfl (g_rm hR rfl rfl) [0, 1, 2, 3, 4, 5, 6, 7, 8, 9] [] [0, 1, 2, 3, 4, 5, 6, 7, 8, 9] ⟨rfl, rfl, rfl, rfl, by decide, gRoIn_0, rfl, fun _ => rfl⟩ rfl (Nat.le_of_ble_eq_true rfl) dX11_paperAt_10 (g_rc hR (Nat.le_of_ble_eq_true rfl) (Nat.le_of_ble_eq_true rfl)) (ck' := 0) (sk' := 0) rfl rfl (fun _ => rfl) (fun _ _ => ?_) (fun _ hx => absurd rfl hx)
    refine g_goto C 42 dX11_paperAt_13 (by decide) ?_
    exact H42 v8.2 v8.1 hf
/-! X11_shareText -/
theorem hd_X11_shareText : yX11_shareText.cls ≠ "java/lang/invoke/MethodHandle" ∧ yX11_shareText.cls ≠ "java/lang/invoke/VarHandle" ∧ (parseMethodDescriptor yX11_shareText.desc).map (fun d => d.parameters.length) = some 3 := by decide +kernel
def F_X11_shareText_L19   (thrown_19 : Int32) (paper_19 : Nat → Int32) (papered_19 : Int32) : Option (Int32 × Int32 × (Nat → Int32) × Int32) := (F_X11_fails thrown_19 1).bind fun v4 => some (v4.1, v4.2, paper_19, papered_19)
def F_X11_shareText (thrown : Int32) (g : Nat → Int32) (paper : Nat → Int32) (papered : Int32) (p0 : Int32) (p1 : Int32) (p2 : Int32) : Option (Int32 × Int32 × (Nat → Int32) × Int32) := (F_X11_isSlot p0).bind fun v1 => if v1 = 0 then (F_X11_shareText_L19 thrown paper papered) else ((F_X11_isPlace p1).bind fun v6 => if v6 = 0 then (F_X11_shareText_L19 thrown paper papered) else (if (-1) ≤ p2 then ((F_X11_hasShare g p0 p1).bind fun v10 => if v10 = 0 then ((F_X11_fails thrown 2).bind fun v35 => some (v35.1, v35.2, paper, papered)) else ((F_X11_shareOf g p0 p1 1).bind fun v13 => (F_X11_shareOf g p0 p1 2).bind fun v15 => (F_X11_writesNumber paper 0 p1).bind fun v17 => (F_X11_writes v17.1 v17.2 58).bind fun v19 => (F_X11_writesNumber v19.1 v19.2 v13).bind fun v21 => (F_X11_writes v21.1 v21.2 64).bind fun v23 => (F_X11_writesNumber v23.1 v23.2 v15).bind fun v25 => (F_X11_writes v25.1 v25.2 35).bind fun v27 => (F_X11_lastDigit p1 v13 v15).bind fun v29 => (F_X11_writes v27.1 v27.2 ((48 : Int32) + v29)).bind fun v31 => (F_X11_paperAt thrown v31.1 v31.2 p2).bind fun v33 => some (v33.1, v33.2, v31.1, v31.2))) else (F_X11_shareText_L19 thrown paper papered)))
set_option maxRecDepth 100000 in
set_option maxHeartbeats 4000000 in
theorem c_X11_shareText {l : Launch} {D : va_G} {cy : Nat → ClassId} {a : Nat → Nat} {thrown : Int32} {g : Nat → Int32} {saved : Nat → Int32} {hasSaved : Int32} {coef : Nat → Int32} {nodes : Nat → Int32} {nodeMany : Int32} {isDeep : Int32} {codes : Nat → Int32} {details : Nat → Int32} {levelMany : Int32} {given : Nat → Int32} {paper : Nat → Int32} {papered : Int32} {tape : Nat → Int32} {taped : Int32} {wrongAt : Int32} {at_ : Int32} {value : Int32} {readPlace : Int32} {readValue : Int32} {readEpoch : Int32} {p0 : Int32} {p1 : Int32} {p2 : Int32}  {val : Int32 × Int32 × (Nat → Int32) × Int32} (hf : F_X11_shareText thrown g paper papered p0 p1 p2 = some val) : gCt l D cy yX11_shareText cX11_shareText 6 (some .int) 3 67 0 0 [.ref (a 0), .int p0, .int p1, .int p2] [] ((wM cy a thrown g saved hasSaved coef nodes nodeMany isDeep codes details levelMany given paper papered tape taped wrongAt at_ value readPlace readValue readEpoch)) 0 (fun _ : Unit => some (.int val.1)) (fun _ => (wM cy a val.2.1 g saved hasSaved coef nodes nodeMany isDeep codes details levelMany given val.2.2.1 val.2.2.2 tape taped wrongAt at_ value readPlace readValue readEpoch)) := by
  refine g_begin (by decide +kernel) (Nat.le_of_ble_eq_true rfl) ?_
  intro X Q hl hR hD hy hro hn C hin E
  subst hl; subst hD; subst hy
  replace C : gC X "SecretVaultModel" cX11_shareText (some .int) := C
  unfold F_X11_shareText at hf
  have H19 : ∀ (thrown_19 : Int32) (paper_19 : Nat → Int32) (papered_19 : Int32), F_X11_shareText_L19 thrown_19 paper_19 papered_19 = some val → gW X Q 0 0 ((wM (x_y X) a thrown_19 g saved hasSaved coef nodes nodeMany isDeep codes details levelMany given paper_19 papered_19 tape taped wrongAt at_ value readPlace readValue readEpoch)) [(0, .ref (a 0)), (1, .int p0), (2, .int p1), (3, .int p2)] [] 19 := by
    intro thrown_19 paper_19 papered_19 hf
    unfold F_X11_shareText_L19 at hf
    refine g_aload_n C 0 dX11_shareText_19 rfl ?_
    refine g_iconst C (v := 1) dX11_shareText_20 (by decide) ?_
    obtain ⟨v4, h5, hf⟩ := opt_bind hf
    refine g_callV C (c_X11_fails (l := x_l X) (D := x_D X) (cy := x_y X) (a := a) (thrown := thrown_19) (g := g) (saved := saved) (hasSaved := hasSaved) (coef := coef) (nodes := nodes) (nodeMany := nodeMany) (isDeep := isDeep) (codes := codes) (details := details) (levelMany := levelMany) (given := given) (paper := paper_19) (papered := papered_19) (tape := tape) (taped := taped) (wrongAt := wrongAt) (at_ := at_) (value := value) (readPlace := readPlace) (readValue := readValue) (readEpoch := readEpoch) (p0 := 1) h5) (As := [.int 1]) (rest := []) (wr := []) (ws' := fun _ => (wM (x_y X) a v4.2 g saved hasSaved coef nodes nodeMany isDeep codes details levelMany given paper_19 papered_19 tape taped wrongAt at_ value readPlace readValue readEpoch)) (st' := fun _ => [.int v4.1]) (ci := 12) 1 0 ⟨_, rfl⟩ rfl rfl mw_7_45 mw_1_9 mw_7_42 mw_7_44 mp_31 hd_X11_fails rfl (g_rm hR rfl rfl) [0, 1, 2, 3, 4, 5, 6, 7, 8, 9] [] [0, 1, 2, 3, 4, 5, 6, 7, 8, 9] ⟨rfl, rfl, rfl, rfl, by decide, gRoIn_0, rfl, fun _ => rfl⟩ rfl (Nat.le_of_ble_eq_true rfl) dX11_shareText_21 (g_rc hR (Nat.le_of_ble_eq_true rfl) (Nat.le_of_ble_eq_true rfl)) (ck' := 0) (sk' := 0) rfl rfl (fun _ => rfl) (fun _ _ => ?_) (fun _ hx => absurd rfl hx)
    obtain rfl := Option.some.inj hf
    exact g_iret C E () dX11_shareText_24 rfl rfl rfl (Nat.le_of_ble_eq_true rfl) (Nat.le_of_ble_eq_true rfl)
  show gW X Q 0 0 ((wM (x_y X) a thrown g saved hasSaved coef nodes nodeMany isDeep codes details levelMany given paper papered tape taped wrongAt at_ value readPlace readValue readEpoch)) [(0, .ref (a 0)), (1, .int p0), (2, .int p1), (3, .int p2)] [] 0
  refine g_iload_n C 1 dX11_shareText_0 rfl ?_
  obtain ⟨v1, h2, hf⟩ := opt_bind hf
  refine g_callS C (c_X11_isSlot (l := x_l X) (D := x_D X) (cy := x_y X) (p0 := p0) h2) (As := [.int p0]) (rest := []) (wr := (wM (x_y X) a thrown g saved hasSaved coef nodes nodeMany isDeep codes details levelMany given paper papered tape taped wrongAt at_ value readPlace readValue readEpoch)) (ws' := fun _ => (wM (x_y X) a thrown g saved hasSaved coef nodes nodeMany isDeep codes details levelMany given paper papered tape taped wrongAt at_ value readPlace readValue readEpoch)) (st' := fun _ => [.int v1]) 1 mw_7_83 mw_1_9 mw_7_81 mw_7_82 hd_X11_isSlot rfl (g_rm hR rfl rfl) [] [0, 1, 2, 3, 4, 5, 6, 7, 8, 9] [0, 1, 2, 3, 4, 5, 6, 7, 8, 9] ⟨rfl, rfl, rfl, rfl, by decide, gRoIn_0, rfl, fun _ => rfl⟩ rfl (Nat.le_of_ble_eq_true rfl) dX11_shareText_1 (g_rc hR (Nat.le_of_ble_eq_true rfl) (Nat.le_of_ble_eq_true rfl)) (ck' := 0) (sk' := 0) rfl rfl (fun _ => rfl) (fun _ _ => ?_) (fun _ hx => absurd rfl hx)
  refine g_if_eq C 19 dX11_shareText_4 (by decide) (fun c3 => ?_) (fun c3 => ?_)
  · have hf := opt_pos c3 hf
    exact H19 thrown paper papered hf
  · have hf := opt_neg c3 hf
    refine g_iload_n C 2 dX11_shareText_7 rfl ?_
    obtain ⟨v6, h7, hf⟩ := opt_bind hf
    refine g_callS C (c_X11_isPlace (l := x_l X) (D := x_D X) (cy := x_y X) (p0 := p1) h7) (As := [.int p1]) (rest := []) (wr := (wM (x_y X) a thrown g saved hasSaved coef nodes nodeMany isDeep codes details levelMany given paper papered tape taped wrongAt at_ value readPlace readValue readEpoch)) (ws' := fun _ => (wM (x_y X) a thrown g saved hasSaved coef nodes nodeMany isDeep codes details levelMany given paper papered tape taped wrongAt at_ value readPlace readValue readEpoch)) (st' := fun _ => [.int v6]) 1 mw_7_234 mw_1_9 mw_7_232 mw_7_233 hd_X11_isPlace rfl (g_rm hR rfl rfl) [] [0, 1, 2, 3, 4, 5, 6, 7, 8, 9] [0, 1, 2, 3, 4, 5, 6, 7, 8, 9] ⟨rfl, rfl, rfl, rfl, by decide, gRoIn_0, rfl, fun _ => rfl⟩ rfl (Nat.le_of_ble_eq_true rfl) dX11_shareText_8 (g_rc hR (Nat.le_of_ble_eq_true rfl) (Nat.le_of_ble_eq_true rfl)) (ck' := 0) (sk' := 0) rfl rfl (fun _ => rfl) (fun _ _ => ?_) (fun _ hx => absurd rfl hx)
    refine g_if_eq C 19 dX11_shareText_11 (by decide) (fun c8 => ?_) (fun c8 => ?_)
    · have hf := opt_pos c8 hf
      exact H19 thrown paper papered hf
    · have hf := opt_neg c8 hf
      refine g_iload_n C 3 dX11_shareText_14 rfl ?_
      refine g_iconst C (v := (-1)) dX11_shareText_15 (by decide) ?_
      refine g_icmp_ge C 25 dX11_shareText_16 (by decide) (fun c9 => ?_) (fun c9 => ?_)
      · have hf := opt_pos c9 hf
        refine g_aload_n C 0 dX11_shareText_25 rfl ?_
        refine g_iload_n C 1 dX11_shareText_26 rfl ?_
        refine g_iload_n C 2 dX11_shareText_27 rfl ?_
        obtain ⟨v10, h11, hf⟩ := opt_bind hf
        refine g_callV C (c_X11_hasShare (l := x_l X) (D := x_D X) (cy := x_y X) (a := a) (thrown := thrown) (g := g) (saved := saved) (hasSaved := hasSaved) (coef := coef) (nodes := nodes) (nodeMany := nodeMany) (isDeep := isDeep) (codes := codes) (details := details) (levelMany := levelMany) (given := given) (paper := paper) (papered := papered) (tape := tape) (taped := taped) (wrongAt := wrongAt) (at_ := at_) (value := value) (readPlace := readPlace) (readValue := readValue) (readEpoch := readEpoch) (p0 := p0) (p1 := p1) h11) (As := [.int p0, .int p1]) (rest := []) (wr := []) (ws' := fun _ => (wM (x_y X) a thrown g saved hasSaved coef nodes nodeMany isDeep codes details levelMany given paper papered tape taped wrongAt at_ value readPlace readValue readEpoch)) (st' := fun _ => [.int v10]) (ci := 12) 2 0 ⟨_, rfl⟩ rfl rfl mw_7_61 mw_1_9 mw_7_58 mw_7_60 mp_33 hd_X11_hasShare rfl (g_rm hR rfl rfl) [0, 1, 2, 3, 4, 5, 6, 7, 8, 9] [] [0, 1, 2, 3, 4, 5, 6, 7, 8, 9] ⟨rfl, rfl, rfl, rfl, by decide, gRoIn_0, rfl, fun _ => rfl⟩ rfl (Nat.le_of_ble_eq_true rfl) dX11_shareText_28 (g_rc hR (Nat.le_of_ble_eq_true rfl) (Nat.le_of_ble_eq_true rfl)) (ck' := 0) (sk' := 0) rfl rfl (fun _ => rfl) (fun _ _ => ?_) (fun _ hx => absurd rfl hx)
        refine g_if_ne C 40 dX11_shareText_31 (by decide) (fun c12 => ?_) (fun c12 => ?_)
        · have hf := opt_neg c12 hf
          refine g_aload_n C 0 dX11_shareText_40 rfl ?_
          refine g_iload_n C 1 dX11_shareText_41 rfl ?_
          refine g_iload_n C 2 dX11_shareText_42 rfl ?_
          refine g_iconst C (v := 1) dX11_shareText_43 (by decide) ?_
          obtain ⟨v13, h14, hf⟩ := opt_bind hf
          refine g_callV C (c_X11_shareOf (l := x_l X) (D := x_D X) (cy := x_y X) (a := a) (thrown := thrown) (g := g) (saved := saved) (hasSaved := hasSaved) (coef := coef) (nodes := nodes) (nodeMany := nodeMany) (isDeep := isDeep) (codes := codes) (details := details) (levelMany := levelMany) (given := given) (paper := paper) (papered := papered) (tape := tape) (taped := taped) (wrongAt := wrongAt) (at_ := at_) (value := value) (readPlace := readPlace) (readValue := readValue) (readEpoch := readEpoch) (p0 := p0) (p1 := p1) (p2 := 1) h14) (As := [.int p0, .int p1, .int 1]) (rest := []) (wr := []) (ws' := fun _ => (wM (x_y X) a thrown g saved hasSaved coef nodes nodeMany isDeep codes details levelMany given paper papered tape taped wrongAt at_ value readPlace readValue readEpoch)) (st' := fun _ => [.int v13]) (ci := 12) 3 0 ⟨_, rfl⟩ rfl rfl mw_7_65 mw_1_9 mw_7_62 mw_7_64 mp_34 hd_X11_shareOf rfl (g_rm hR rfl rfl) [0, 1, 2, 3, 4, 5, 6, 7, 8, 9] [] [0, 1, 2, 3, 4, 5, 6, 7, 8, 9] ⟨rfl, rfl, rfl, rfl, by decide, gRoIn_0, rfl, fun _ => rfl⟩ rfl (Nat.le_of_ble_eq_true rfl) dX11_shareText_44 (g_rc hR (Nat.le_of_ble_eq_true rfl) (Nat.le_of_ble_eq_true rfl)) (ck' := 0) (sk' := 0) rfl rfl (fun _ => rfl) (fun _ _ => ?_) (fun _ hx => absurd rfl hx)
          refine g_istore C (lv' := [(4, .int v13), (0, .ref (a 0)), (1, .int p0), (2, .int p1), (3, .int p2)]) dX11_shareText_47 (g_nlt hn rfl) rfl ?_
          refine g_aload_n C 1 dX11_shareText_49 rfl ?_
          refine g_iload_n C 2 dX11_shareText_50 rfl ?_
          refine g_iload_n C 3 dX11_shareText_51 rfl ?_
          refine g_iconst C (v := 2) dX11_shareText_52 (by decide) ?_
          obtain ⟨v15, h16, hf⟩ := opt_bind hf
          refine g_callV C (c_X11_shareOf (l := x_l X) (D := x_D X) (cy := x_y X) (a := a) (thrown := thrown) (g := g) (saved := saved) (hasSaved := hasSaved) (coef := coef) (nodes := nodes) (nodeMany := nodeMany) (isDeep := isDeep) (codes := codes) (details := details) (levelMany := levelMany) (given := given) (paper := paper) (papered := papered) (tape := tape) (taped := taped) (wrongAt := wrongAt) (at_ := at_) (value := value) (readPlace := readPlace) (readValue := readValue) (readEpoch := readEpoch) (p0 := p0) (p1 := p1) (p2 := 2) h16) (As := [.int p0, .int p1, .int 2]) (rest := []) (wr := []) (ws' := fun _ => (wM (x_y X) a thrown g saved hasSaved coef nodes nodeMany isDeep codes details levelMany given paper papered tape taped wrongAt at_ value readPlace readValue readEpoch)) (st' := fun _ => [.int v15]) (ci := 12) 3 0 ⟨_, rfl⟩ rfl rfl mw_7_65 mw_1_9 mw_7_62 mw_7_64 mp_34 hd_X11_shareOf rfl (g_rm hR rfl rfl) [0, 1, 2, 3, 4, 5, 6, 7, 8, 9] [] [0, 1, 2, 3, 4, 5, 6, 7, 8, 9] ⟨rfl, rfl, rfl, rfl, by decide, gRoIn_0, rfl, fun _ => rfl⟩ rfl (Nat.le_of_ble_eq_true rfl) dX11_shareText_53 (g_rc hR (Nat.le_of_ble_eq_true rfl) (Nat.le_of_ble_eq_true rfl)) (ck' := 0) (sk' := 0) rfl rfl (fun _ => rfl) (fun _ _ => ?_) (fun _ hx => absurd rfl hx)
          refine g_istore C (lv' := [(5, .int v15), (4, .int v13), (0, .ref (a 0)), (1, .int p0), (2, .int p1), (3, .int p2)]) dX11_shareText_56 (g_nlt hn rfl) rfl ?_
          refine g_aload_n C 2 dX11_shareText_58 rfl ?_
          refine g_iconst C (v := 0) dX11_shareText_59 (by decide) ?_
          refine g_put C (ws' := (wM (x_y X) a thrown g saved hasSaved coef nodes nodeMany isDeep codes details levelMany given paper 0 tape taped wrongAt at_ value readPlace readValue readEpoch)) 0 13 rfl rfl wiX11 (by decide) tyX11_ok nmX11 mw_6_196 rfl rfl rfl rfl (Nat.le_of_ble_eq_true rfl) rfl dX11_shareText_60 ?_
          refine g_aload_n C 2 dX11_shareText_63 rfl ?_
          refine g_iload_n C 4 dX11_shareText_64 rfl ?_
          obtain ⟨v17, h18, hf⟩ := opt_bind hf
          refine g_callV C (c_X11_writesNumber (l := x_l X) (D := x_D X) (cy := x_y X) (a := a) (thrown := thrown) (g := g) (saved := saved) (hasSaved := hasSaved) (coef := coef) (nodes := nodes) (nodeMany := nodeMany) (isDeep := isDeep) (codes := codes) (details := details) (levelMany := levelMany) (given := given) (paper := paper) (papered := 0) (tape := tape) (taped := taped) (wrongAt := wrongAt) (at_ := at_) (value := value) (readPlace := readPlace) (readValue := readValue) (readEpoch := readEpoch) (p0 := p1) h18) (As := [.int p1]) (rest := []) (wr := []) (ws' := fun _ => (wM (x_y X) a thrown g saved hasSaved coef nodes nodeMany isDeep codes details levelMany given v17.1 v17.2 tape taped wrongAt at_ value readPlace readValue readEpoch)) (st' := fun _ => []) (ci := 12) 1 0 ⟨_, rfl⟩ rfl rfl mw_8_6 mw_1_9 mw_8_3 mw_8_5 mp_60 hd_X11_writesNumber rfl (g_rm hR rfl rfl) [0, 1, 2, 3, 4, 5, 6, 7, 8, 9] [] [0, 1, 2, 3, 4, 5, 6, 7, 8, 9] ⟨rfl, rfl, rfl, rfl, by decide, gRoIn_0, rfl, fun _ => rfl⟩ rfl (Nat.le_of_ble_eq_true rfl) dX11_shareText_65 (g_rc hR (Nat.le_of_ble_eq_true rfl) (Nat.le_of_ble_eq_true rfl)) (ck' := 0) (sk' := 0) rfl rfl (fun _ => rfl) (fun _ _ => ?_) (fun _ hx => absurd rfl hx)
          refine g_aload_n C 2 dX11_shareText_68 rfl ?_
          refine g_bipush C (v := 58) dX11_shareText_69 (by decide) ?_
          obtain ⟨v19, h20, hf⟩ := opt_bind hf
          refine g_callV C (c_X11_writes (l := x_l X) (D := x_D X) (cy := x_y X) (a := a) (thrown := thrown) (g := g) (saved := saved) (hasSaved := hasSaved) (coef := coef) (nodes := nodes) (nodeMany := nodeMany) (isDeep := isDeep) (codes := codes) (details := details) (levelMany := levelMany) (given := given) (paper := v17.1) (papered := v17.2) (tape := tape) (taped := taped) (wrongAt := wrongAt) (at_ := at_) (value := value) (readPlace := readPlace) (readValue := readValue) (readEpoch := readEpoch) (p0 := 58) h20) (As := [.int 58]) (rest := []) (wr := []) (ws' := fun _ => (wM (x_y X) a thrown g saved hasSaved coef nodes nodeMany isDeep codes details levelMany given v19.1 v19.2 tape taped wrongAt at_ value readPlace readValue readEpoch)) (st' := fun _ => []) (ci := 12) 1 0 ⟨_, rfl⟩ rfl rfl mw_8_10 mw_1_9 mw_8_7 mw_8_9 mp_61 hd_X11_writes rfl (g_rm hR rfl rfl) [0, 1, 2, 3, 4, 5, 6, 7, 8, 9] [] [0, 1, 2, 3, 4, 5, 6, 7, 8, 9] ⟨rfl, rfl, rfl, rfl, by decide, gRoIn_0, rfl, fun _ => rfl⟩ rfl (Nat.le_of_ble_eq_true rfl) dX11_shareText_71 (g_rc hR (Nat.le_of_ble_eq_true rfl) (Nat.le_of_ble_eq_true rfl)) (ck' := 0) (sk' := 0) rfl rfl (fun _ => rfl) (fun _ _ => ?_) (fun _ hx => absurd rfl hx)
          refine g_aload_n C 2 dX11_shareText_74 rfl ?_
          refine g_iload C 1 dX11_shareText_75 rfl ?_
          obtain ⟨v21, h22, hf⟩ := opt_bind hf
          refine g_callV C (c_X11_writesNumber (l := x_l X) (D := x_D X) (cy := x_y X) (a := a) (thrown := thrown) (g := g) (saved := saved) (hasSaved := hasSaved) (coef := coef) (nodes := nodes) (nodeMany := nodeMany) (isDeep := isDeep) (codes := codes) (details := details) (levelMany := levelMany) (given := given) (paper := v19.1) (papered := v19.2) (tape := tape) (taped := taped) (wrongAt := wrongAt) (at_ := at_) (value := value) (readPlace := readPlace) (readValue := readValue) (readEpoch := readEpoch) (p0 := v13) h22) (As := [.int v13]) (rest := []) (wr := []) (ws' := fun _ => (wM (x_y X) a thrown g saved hasSaved coef nodes nodeMany isDeep codes details levelMany given v21.1 v21.2 tape taped wrongAt at_ value readPlace readValue readEpoch)) (st' := fun _ => []) (ci := 12) 1 0 ⟨_, rfl⟩ rfl rfl mw_8_6 mw_1_9 mw_8_3 mw_8_5 mp_60 hd_X11_writesNumber rfl (g_rm hR rfl rfl) [0, 1, 2, 3, 4, 5, 6, 7, 8, 9] [] [0, 1, 2, 3, 4, 5, 6, 7, 8, 9] ⟨rfl, rfl, rfl, rfl, by decide, gRoIn_0, rfl, fun _ => rfl⟩ rfl (Nat.le_of_ble_eq_true rfl) dX11_shareText_77 (g_rc hR (Nat.le_of_ble_eq_true rfl) (Nat.le_of_ble_eq_true rfl)) (ck' := 0) (sk' := 0) rfl rfl (fun _ => rfl) (fun _ _ => ?_) (fun _ hx => absurd rfl hx)
          refine g_aload_n C 2 dX11_shareText_80 rfl ?_
          refine g_bipush C (v := 64) dX11_shareText_81 (by decide) ?_
          obtain ⟨v23, h24, hf⟩ := opt_bind hf
          refine g_callV C (c_X11_writes (l := x_l X) (D := x_D X) (cy := x_y X) (a := a) (thrown := thrown) (g := g) (saved := saved) (hasSaved := hasSaved) (coef := coef) (nodes := nodes) (nodeMany := nodeMany) (isDeep := isDeep) (codes := codes) (details := details) (levelMany := levelMany) (given := given) (paper := v21.1) (papered := v21.2) (tape := tape) (taped := taped) (wrongAt := wrongAt) (at_ := at_) (value := value) (readPlace := readPlace) (readValue := readValue) (readEpoch := readEpoch) (p0 := 64) h24) (As := [.int 64]) (rest := []) (wr := []) (ws' := fun _ => (wM (x_y X) a thrown g saved hasSaved coef nodes nodeMany isDeep codes details levelMany given v23.1 v23.2 tape taped wrongAt at_ value readPlace readValue readEpoch)) (st' := fun _ => []) (ci := 12) 1 0 ⟨_, rfl⟩ rfl rfl mw_8_10 mw_1_9 mw_8_7 mw_8_9 mp_61 hd_X11_writes rfl (g_rm hR rfl rfl) [0, 1, 2, 3, 4, 5, 6, 7, 8, 9] [] [0, 1, 2, 3, 4, 5, 6, 7, 8, 9] ⟨rfl, rfl, rfl, rfl, by decide, gRoIn_0, rfl, fun _ => rfl⟩ rfl (Nat.le_of_ble_eq_true rfl) dX11_shareText_83 (g_rc hR (Nat.le_of_ble_eq_true rfl) (Nat.le_of_ble_eq_true rfl)) (ck' := 0) (sk' := 0) rfl rfl (fun _ => rfl) (fun _ _ => ?_) (fun _ hx => absurd rfl hx)
          refine g_aload_n C 2 dX11_shareText_86 rfl ?_
          refine g_iload C 0 dX11_shareText_87 rfl ?_
          obtain ⟨v25, h26, hf⟩ := opt_bind hf
          refine g_callV C (c_X11_writesNumber (l := x_l X) (D := x_D X) (cy := x_y X) (a := a) (thrown := thrown) (g := g) (saved := saved) (hasSaved := hasSaved) (coef := coef) (nodes := nodes) (nodeMany := nodeMany) (isDeep := isDeep) (codes := codes) (details := details) (levelMany := levelMany) (given := given) (paper := v23.1) (papered := v23.2) (tape := tape) (taped := taped) (wrongAt := wrongAt) (at_ := at_) (value := value) (readPlace := readPlace) (readValue := readValue) (readEpoch := readEpoch) (p0 := v15) h26) (As := [.int v15]) (rest := []) (wr := []) (ws' := fun _ => (wM (x_y X) a thrown g saved hasSaved coef nodes nodeMany isDeep codes details levelMany given v25.1 v25.2 tape taped wrongAt at_ value readPlace readValue readEpoch)) (st' := fun _ => []) (ci := 12) 1 0 ⟨_, rfl⟩ rfl rfl mw_8_6 mw_1_9 mw_8_3 mw_8_5 mp_60 hd_X11_writesNumber rfl (g_rm hR rfl rfl) [0, 1, 2, 3, 4, 5, 6, 7, 8, 9] [] [0, 1, 2, 3, 4, 5, 6, 7, 8, 9] ⟨rfl, rfl, rfl, rfl, by decide, gRoIn_0, rfl, fun _ => rfl⟩ rfl (Nat.le_of_ble_eq_true rfl) dX11_shareText_89 (g_rc hR (Nat.le_of_ble_eq_true rfl) (Nat.le_of_ble_eq_true rfl)) (ck' := 0) (sk' := 0) rfl rfl (fun _ => rfl) (fun _ _ => ?_) (fun _ hx => absurd rfl hx)
          refine g_aload_n C 2 dX11_shareText_92 rfl ?_
          refine g_bipush C (v := 35) dX11_shareText_93 (by decide) ?_
          obtain ⟨v27, h28, hf⟩ := opt_bind hf
          refine g_callV C (c_X11_writes (l := x_l X) (D := x_D X) (cy := x_y X) (a := a) (thrown := thrown) (g := g) (saved := saved) (hasSaved := hasSaved) (coef := coef) (nodes := nodes) (nodeMany := nodeMany) (isDeep := isDeep) (codes := codes) (details := details) (levelMany := levelMany) (given := given) (paper := v25.1) (papered := v25.2) (tape := tape) (taped := taped) (wrongAt := wrongAt) (at_ := at_) (value := value) (readPlace := readPlace) (readValue := readValue) (readEpoch := readEpoch) (p0 := 35) h28) (As := [.int 35]) (rest := []) (wr := []) (ws' := fun _ => (wM (x_y X) a thrown g saved hasSaved coef nodes nodeMany isDeep codes details levelMany given v27.1 v27.2 tape taped wrongAt at_ value readPlace readValue readEpoch)) (st' := fun _ => []) (ci := 12) 1 0 ⟨_, rfl⟩ rfl rfl mw_8_10 mw_1_9 mw_8_7 mw_8_9 mp_61 hd_X11_writes rfl (g_rm hR rfl rfl) [0, 1, 2, 3, 4, 5, 6, 7, 8, 9] [] [0, 1, 2, 3, 4, 5, 6, 7, 8, 9] ⟨rfl, rfl, rfl, rfl, by decide, gRoIn_0, rfl, fun _ => rfl⟩ rfl (Nat.le_of_ble_eq_true rfl) dX11_shareText_95 (g_rc hR (Nat.le_of_ble_eq_true rfl) (Nat.le_of_ble_eq_true rfl)) (ck' := 0) (sk' := 0) rfl rfl (fun _ => rfl) (fun _ _ => ?_) (fun _ hx => absurd rfl hx)
          refine g_aload_n C 2 dX11_shareText_98 rfl ?_
          refine g_bipush C (v := 48) dX11_shareText_99 (by decide) ?_
          refine g_iload_n C 4 dX11_shareText_101 rfl ?_
          refine g_iload C 1 dX11_shareText_102 rfl ?_
          refine g_iload C 0 dX11_shareText_104 rfl ?_
          obtain ⟨v29, h30, hf⟩ := opt_bind hf
          refine g_callS C (c_X11_lastDigit (l := x_l X) (D := x_D X) (cy := x_y X) (p0 := p1) (p1 := v13) (p2 := v15) h30) (As := [.int p1, .int v13, .int v15]) (rest := [.int 48, .ref (a 0)]) (wr := (wM (x_y X) a thrown g saved hasSaved coef nodes nodeMany isDeep codes details levelMany given v27.1 v27.2 tape taped wrongAt at_ value readPlace readValue readEpoch)) (ws' := fun _ => (wM (x_y X) a thrown g saved hasSaved coef nodes nodeMany isDeep codes details levelMany given v27.1 v27.2 tape taped wrongAt at_ value readPlace readValue readEpoch)) (st' := fun _ => [.int v29, .int 48, .ref (a 0)]) 3 mw_8_13 mw_1_9 mw_8_11 mw_8_12 hd_X11_lastDigit rfl (g_rm hR rfl rfl) [] [0, 1, 2, 3, 4, 5, 6, 7, 8, 9] [0, 1, 2, 3, 4, 5, 6, 7, 8, 9] ⟨rfl, rfl, rfl, rfl, by decide, gRoIn_0, rfl, fun _ => rfl⟩ rfl (Nat.le_of_ble_eq_true rfl) dX11_shareText_106 (g_rc hR (Nat.le_of_ble_eq_true rfl) (Nat.le_of_ble_eq_true rfl)) (ck' := 0) (sk' := 0) rfl rfl (fun _ => rfl) (fun _ _ => ?_) (fun _ hx => absurd rfl hx)
          refine g_iadd C dX11_shareText_109 ?_
          obtain ⟨v31, h32, hf⟩ := opt_bind hf
          refine g_callV C (c_X11_writes (l := x_l X) (D := x_D X) (cy := x_y X) (a := a) (thrown := thrown) (g := g) (saved := saved) (hasSaved := hasSaved) (coef := coef) (nodes := nodes) (nodeMany := nodeMany) (isDeep := isDeep) (codes := codes) (details := details) (levelMany := levelMany) (given := given) (paper := v27.1) (papered := v27.2) (tape := tape) (taped := taped) (wrongAt := wrongAt) (at_ := at_) (value := value) (readPlace := readPlace) (readValue := readValue) (readEpoch := readEpoch) (p0 := (48 : Int32) + v29) h32) (As := [.int ((48 : Int32) + v29)]) (rest := []) (wr := []) (ws' := fun _ => (wM (x_y X) a thrown g saved hasSaved coef nodes nodeMany isDeep codes details levelMany given v31.1 v31.2 tape taped wrongAt at_ value readPlace readValue readEpoch)) (st' := fun _ => []) (ci := 12) 1 0 ⟨_, rfl⟩ rfl rfl mw_8_10 mw_1_9 mw_8_7 mw_8_9 mp_61 hd_X11_writes rfl (g_rm hR rfl rfl) [0, 1, 2, 3, 4, 5, 6, 7, 8, 9] [] [0, 1, 2, 3, 4, 5, 6, 7, 8, 9] ⟨rfl, rfl, rfl, rfl, by decide, gRoIn_0, rfl, fun _ => rfl⟩ rfl (Nat.le_of_ble_eq_true rfl) dX11_shareText_110 (g_rc hR (Nat.le_of_ble_eq_true rfl) (Nat.le_of_ble_eq_true rfl)) (ck' := 0) (sk' := 0) rfl rfl (fun _ => rfl) (fun _ _ => ?_) (fun _ hx => absurd rfl hx)
          refine g_aload_n C 2 dX11_shareText_113 rfl ?_
          refine g_iload_n C 5 dX11_shareText_114 rfl ?_
          obtain ⟨v33, h34, hf⟩ := opt_bind hf
          refine g_callV C (c_X11_paperAt (l := x_l X) (D := x_D X) (cy := x_y X) (a := a) (thrown := thrown) (g := g) (saved := saved) (hasSaved := hasSaved) (coef := coef) (nodes := nodes) (nodeMany := nodeMany) (isDeep := isDeep) (codes := codes) (details := details) (levelMany := levelMany) (given := given) (paper := v31.1) (papered := v31.2) (tape := tape) (taped := taped) (wrongAt := wrongAt) (at_ := at_) (value := value) (readPlace := readPlace) (readValue := readValue) (readEpoch := readEpoch) (p0 := p2) h34) (As := [.int p2]) (rest := []) (wr := []) (ws' := fun _ => (wM (x_y X) a v33.2 g saved hasSaved coef nodes nodeMany isDeep codes details levelMany given v31.1 v31.2 tape taped wrongAt at_ value readPlace readValue readEpoch)) (st' := fun _ => [.int v33.1]) (ci := 12) 1 0 ⟨_, rfl⟩ rfl rfl mw_8_17 mw_1_9 mw_8_14 mw_8_16 mp_62 hd_X11_paperAt rfl (g_rm hR rfl rfl) [0, 1, 2, 3, 4, 5, 6, 7, 8, 9] [] [0, 1, 2, 3, 4, 5, 6, 7, 8, 9] ⟨rfl, rfl, rfl, rfl, by decide, gRoIn_0, rfl, fun _ => rfl⟩ rfl (Nat.le_of_ble_eq_true rfl) dX11_shareText_115 (g_rc hR (Nat.le_of_ble_eq_true rfl) (Nat.le_of_ble_eq_true rfl)) (ck' := 0) (sk' := 0) rfl rfl (fun _ => rfl) (fun _ _ => ?_) (fun _ hx => absurd rfl hx)
          obtain rfl := Option.some.inj hf
          exact g_iret C E () dX11_shareText_118 rfl rfl rfl (Nat.le_of_ble_eq_true rfl) (Nat.le_of_ble_eq_true rfl)
        · have hf := opt_pos c12 hf
          refine g_aload_n C 0 dX11_shareText_34 rfl ?_
          refine g_iconst C (v := 2) dX11_shareText_35 (by decide) ?_
          obtain ⟨v35, h36, hf⟩ := opt_bind hf
          refine g_callV C (c_X11_fails (l := x_l X) (D := x_D X) (cy := x_y X) (a := a) (thrown := thrown) (g := g) (saved := saved) (hasSaved := hasSaved) (coef := coef) (nodes := nodes) (nodeMany := nodeMany) (isDeep := isDeep) (codes := codes) (details := details) (levelMany := levelMany) (given := given) (paper := paper) (papered := papered) (tape := tape) (taped := taped) (wrongAt := wrongAt) (at_ := at_) (value := value) (readPlace := readPlace) (readValue := readValue) (readEpoch := readEpoch) (p0 := 2) h36) (As := [.int 2]) (rest := []) (wr := []) (ws' := fun _ => (wM (x_y X) a v35.2 g saved hasSaved coef nodes nodeMany isDeep codes details levelMany given paper papered tape taped wrongAt at_ value readPlace readValue readEpoch)) (st' := fun _ => [.int v35.1]) (ci := 12) 1 0 ⟨_, rfl⟩ rfl rfl mw_7_45 mw_1_9 mw_7_42 mw_7_44 mp_31 hd_X11_fails rfl (g_rm hR rfl rfl) [0, 1, 2, 3, 4, 5, 6, 7, 8, 9] [] [0, 1, 2, 3, 4, 5, 6, 7, 8, 9] ⟨rfl, rfl, rfl, rfl, by decide, gRoIn_0, rfl, fun _ => rfl⟩ rfl (Nat.le_of_ble_eq_true rfl) dX11_shareText_36 (g_rc hR (Nat.le_of_ble_eq_true rfl) (Nat.le_of_ble_eq_true rfl)) (ck' := 0) (sk' := 0) rfl rfl (fun _ => rfl) (fun _ _ => ?_) (fun _ hx => absurd rfl hx)
          obtain rfl := Option.some.inj hf
          exact g_iret C E () dX11_shareText_39 rfl rfl rfl (Nat.le_of_ble_eq_true rfl) (Nat.le_of_ble_eq_true rfl)
      · have hf := opt_neg c9 hf
        exact H19 thrown paper papered hf
/-! X11_append -/
theorem hd_X11_append : yX11_append.cls ≠ "java/lang/invoke/MethodHandle" ∧ yX11_append.cls ≠ "java/lang/invoke/VarHandle" ∧ (parseMethodDescriptor yX11_append.desc).map (fun d => d.parameters.length) = some 1 := by decide +kernel
def F_X11_append_L120  (K80 : Int32 → (Nat → Int32) → Int32 → Int32 → Option (Int32 × Int32 × (Nat → Int32) × Int32)) (thrown_120 : Int32) (tape_120 : Nat → Int32) (taped_120 : Int32) (l3_120 : Int32) : Option (Int32 × Int32 × (Nat → Int32) × Int32) := K80 thrown_120 tape_120 taped_120 (l3_120 + (-8))
def F_X11_append_L80 (p0 : Int32)  : Nat → Int32 → (Nat → Int32) → Int32 → Int32 → Option (Int32 × Int32 × (Nat → Int32) × Int32)
  | 0, _, _, _, _ => none
  | n + 1, thrown_80, tape_80, taped_80, l3_80 => if l3_80 < 0 then ((F_X11_done thrown_80 taped_80).bind fun v4 => some (v4.1, v4.2, tape_80, taped_80)) else (gl (((Int32.toUInt32 p0 >>> (Int32.toUInt32 l3_80 &&& Int32.toUInt32 31)).toInt32) &&& 255) fun x6 => if x6 = 0 then (F_X11_append_L120 (F_X11_append_L80 p0 n) thrown_80 tape_80 taped_80 l3_80) else (gg (gi taped_80 40) (gl (upd tape_80 (Int32.toNatClampNeg taped_80) (vp_nar .char ((Int32.toUInt32 x6 % 65536).toInt32))) fun f9 => F_X11_append_L120 (F_X11_append_L80 p0 n) thrown_80 f9 (taped_80 + 1) l3_80)))
def F_X11_append_L52  (K5 : Int32 → (Nat → Int32) → Int32 → Int32 → Int32 → Option (Int32 × Int32 × (Nat → Int32) × Int32)) (thrown_52 : Int32) (tape_52 : Nat → Int32) (taped_52 : Int32) (l3_52 : Int32) (s0_52 : Int32) (s1_52 : Int32) : Option (Int32 × Int32 × (Nat → Int32) × Int32) := K5 thrown_52 tape_52 taped_52 (s1_52 + s0_52) (l3_52 + (-8))
def F_X11_append_L41  (K5 : Int32 → (Nat → Int32) → Int32 → Int32 → Int32 → Option (Int32 × Int32 × (Nat → Int32) × Int32)) (thrown_41 : Int32) (tape_41 : Nat → Int32) (taped_41 : Int32) (l2_41 : Int32) (l3_41 : Int32) (l4_41 : Int32) : Option (Int32 × Int32 × (Nat → Int32) × Int32) := if l4_41 = 0 then (F_X11_append_L52 K5 thrown_41 tape_41 taped_41 l3_41 0 l2_41) else (F_X11_append_L52 K5 thrown_41 tape_41 taped_41 l3_41 1 l2_41)
def F_X11_append_L5 (p0 : Int32)  : Nat → Int32 → (Nat → Int32) → Int32 → Int32 → Int32 → Option (Int32 × Int32 × (Nat → Int32) × Int32)
  | 0, _, _, _, _, _ => none
  | n + 1, thrown_5, tape_5, taped_5, l2_5, l3_5 => if l3_5 < 0 then (if (taped_5 + l2_5) ≤ 40 then (F_X11_append_L80 p0 1000 thrown_5 tape_5 taped_5 24) else ((F_X11_fails thrown_5 2).bind fun v10 => some (v10.1, v10.2, tape_5, taped_5))) else (gl (((Int32.toUInt32 p0 >>> (Int32.toUInt32 l3_5 &&& Int32.toUInt32 31)).toInt32) &&& 255) fun x12 => if x12 = 0 then (F_X11_append_L41 (F_X11_append_L5 p0 n) thrown_5 tape_5 taped_5 l2_5 l3_5 x12) else ((F_X11_in x12 33 126).bind fun v15 => if v15 = 0 then ((F_X11_fails thrown_5 1).bind fun v18 => some (v18.1, v18.2, tape_5, taped_5)) else (F_X11_append_L41 (F_X11_append_L5 p0 n) thrown_5 tape_5 taped_5 l2_5 l3_5 x12)))
def F_X11_append (thrown : Int32) (tape : Nat → Int32) (taped : Int32) (p0 : Int32) : Option (Int32 × Int32 × (Nat → Int32) × Int32) := F_X11_append_L5 p0 1000 thrown tape taped 0 24
set_option maxRecDepth 100000 in
set_option maxHeartbeats 4000000 in
theorem c_X11_append {l : Launch} {D : va_G} {cy : Nat → ClassId} {a : Nat → Nat} {thrown : Int32} {g : Nat → Int32} {saved : Nat → Int32} {hasSaved : Int32} {coef : Nat → Int32} {nodes : Nat → Int32} {nodeMany : Int32} {isDeep : Int32} {codes : Nat → Int32} {details : Nat → Int32} {levelMany : Int32} {given : Nat → Int32} {paper : Nat → Int32} {papered : Int32} {tape : Nat → Int32} {taped : Int32} {wrongAt : Int32} {at_ : Int32} {value : Int32} {readPlace : Int32} {readValue : Int32} {readEpoch : Int32} {p0 : Int32}  {val : Int32 × Int32 × (Nat → Int32) × Int32} (hf : F_X11_append thrown tape taped p0 = some val) : gCt l D cy yX11_append cX11_append 5 (some .int) 1 22 0 0 [.ref (a 0), .int p0] [] ((wM cy a thrown g saved hasSaved coef nodes nodeMany isDeep codes details levelMany given paper papered tape taped wrongAt at_ value readPlace readValue readEpoch)) 0 (fun _ : Unit => some (.int val.1)) (fun _ => (wM cy a val.2.1 g saved hasSaved coef nodes nodeMany isDeep codes details levelMany given paper papered val.2.2.1 val.2.2.2 wrongAt at_ value readPlace readValue readEpoch)) := by
  refine g_begin (by decide +kernel) (Nat.le_of_ble_eq_true rfl) ?_
  intro X Q hl hR hD hy hro hn C hin E
  subst hl; subst hD; subst hy
  replace C : gC X "SecretVaultModel" cX11_append (some .int) := C
  unfold F_X11_append at hf
  have H80 : ∀ (n80 : Nat), ∀ (thrown_80 : Int32) (tape_80 : Nat → Int32) (taped_80 : Int32) (l3_80 : Int32), F_X11_append_L80 p0 n80 thrown_80 tape_80 taped_80 l3_80 = some val → gW X Q 0 0 ((wM (x_y X) a thrown_80 g saved hasSaved coef nodes nodeMany isDeep codes details levelMany given paper papered tape_80 taped_80 wrongAt at_ value readPlace readValue readEpoch)) [(0, .ref (a 0)), (1, .int p0), (3, .int l3_80)] [] 80 := by
    intro n80
    induction n80 with
    | zero => intros; rename_i hf; cases hf
    | succ n80 ih =>
      intro thrown_80 tape_80 taped_80 l3_80 hf
      have H80 := ih
      rw [F_X11_append_L80] at hf
      have H120 : ∀ (thrown_120 : Int32) (tape_120 : Nat → Int32) (taped_120 : Int32) (l3_120 : Int32), F_X11_append_L120 (F_X11_append_L80 p0 n80) thrown_120 tape_120 taped_120 l3_120 = some val → gW X Q 0 0 ((wM (x_y X) a thrown_120 g saved hasSaved coef nodes nodeMany isDeep codes details levelMany given paper papered tape_120 taped_120 wrongAt at_ value readPlace readValue readEpoch)) [(0, .ref (a 0)), (1, .int p0), (3, .int l3_120)] [] 120 := by
        intro thrown_120 tape_120 taped_120 l3_120 hf
        unfold F_X11_append_L120 at hf
        refine g_iinc C 2 (v := l3_120 + (-8)) (lv' := [(3, .int (l3_120 + (-8))), (0, .ref (a 0)), (1, .int p0)]) dX11_append_120 rfl rfl (g_nlt hn rfl) rfl ?_
        refine g_goto C 80 dX11_append_123 (by decide) ?_
        refine gW.locals [1, 2, 0] rfl ?_
        exact H80 thrown_120 tape_120 taped_120 (l3_120 + (-8)) hf
      refine g_iload_n C 2 dX11_append_80 rfl ?_
      refine g_if_lt C 126 dX11_append_81 (by decide) (fun c3 => ?_) (fun c3 => ?_)
      · have hf := opt_pos c3 hf
        refine g_aload_n C 0 dX11_append_126 rfl ?_
        refine g_aload_n C 0 dX11_append_127 rfl ?_
        refine g_get C 0 15 rfl rfl wiX11 (by decide) mw_6_198 rfl rfl dX11_append_128 ?_
        obtain ⟨v4, h5, hf⟩ := opt_bind hf
        refine g_callV C (c_X11_done (l := x_l X) (D := x_D X) (cy := x_y X) (a := a) (thrown := thrown_80) (g := g) (saved := saved) (hasSaved := hasSaved) (coef := coef) (nodes := nodes) (nodeMany := nodeMany) (isDeep := isDeep) (codes := codes) (details := details) (levelMany := levelMany) (given := given) (paper := paper) (papered := papered) (tape := tape_80) (taped := taped_80) (wrongAt := wrongAt) (at_ := at_) (value := value) (readPlace := readPlace) (readValue := readValue) (readEpoch := readEpoch) (p0 := taped_80) h5) (As := [.int taped_80]) (rest := []) (wr := []) (ws' := fun _ => (wM (x_y X) a v4.2 g saved hasSaved coef nodes nodeMany isDeep codes details levelMany given paper papered tape_80 taped_80 wrongAt at_ value readPlace readValue readEpoch)) (st' := fun _ => [.int v4.1]) (ci := 12) 1 0 ⟨_, rfl⟩ rfl rfl mw_7_22 mw_1_9 mw_7_19 mw_7_21 mp_29 hd_X11_done rfl (g_rm hR rfl rfl) [0, 1, 2, 3, 4, 5, 6, 7, 8, 9] [] [0, 1, 2, 3, 4, 5, 6, 7, 8, 9] ⟨rfl, rfl, rfl, rfl, by decide, gRoIn_0, rfl, fun _ => rfl⟩ rfl (Nat.le_of_ble_eq_true rfl) dX11_append_131 (g_rc hR (Nat.le_of_ble_eq_true rfl) (Nat.le_of_ble_eq_true rfl)) (ck' := 0) (sk' := 0) rfl rfl (fun _ => rfl) (fun _ _ => ?_) (fun _ hx => absurd rfl hx)
        obtain rfl := Option.some.inj hf
        exact g_iret C E () dX11_append_134 rfl rfl rfl (Nat.le_of_ble_eq_true rfl) (Nat.le_of_ble_eq_true rfl)
      · have hf := opt_neg c3 hf
        refine g_iload_n C 1 dX11_append_84 rfl ?_
        refine g_iload_n C 2 dX11_append_85 rfl ?_
        refine g_iushr C dX11_append_86 ?_
        refine g_sipush C (v := 255) dX11_append_87 (by decide) ?_
        refine g_iand C dX11_append_90 ?_
        obtain ⟨x6, ex6, hf⟩ := opt_let hf
        refine g_topi ex6 ?_
        refine g_istore C (lv' := [(4, .int x6), (0, .ref (a 0)), (1, .int p0), (3, .int l3_80)]) dX11_append_91 (g_nlt hn rfl) rfl ?_
        refine g_iload C 0 dX11_append_93 rfl ?_
        refine g_if_eq C 120 dX11_append_95 (by decide) (fun c7 => ?_) (fun c7 => ?_)
        · have hf := opt_pos c7 hf
          refine gW.locals [1, 2, 3] rfl ?_
          exact H120 thrown_80 tape_80 taped_80 l3_80 hf
        · have hf := opt_neg c7 hf
          refine g_aload_n C 1 dX11_append_98 rfl ?_
          refine g_get C 0 14 rfl rfl wiX11 (by decide) mw_6_197 rfl rfl dX11_append_99 ?_
          refine g_aload_n C 1 dX11_append_102 rfl ?_
          refine g_get C 0 15 rfl rfl wiX11 (by decide) mw_6_198 rfl rfl dX11_append_103 ?_
          refine g_iload C 0 dX11_append_106 rfl ?_
          refine g_i2c C dX11_append_108 ?_
          obtain ⟨c8, hf⟩ := gg_of hf
          obtain ⟨f9, ef9, hf⟩ := opt_let hf
          refine g_cast C (ws' := (wM (x_y X) a thrown_80 g saved hasSaved coef nodes nodeMany isDeep codes details levelMany given paper papered f9 taped_80 wrongAt at_ value readPlace readValue readEpoch)) 9 rfl (gi_in c8) (by rw [ef9]; rfl) dX11_append_109 ?_
          refine g_aload_n C 1 dX11_append_110 rfl ?_
          refine g_dup C dX11_append_111 rfl ?_
          refine g_get C 0 15 rfl rfl wiX11 (by decide) mw_6_198 rfl rfl dX11_append_112 ?_
          refine g_iconst C (v := 1) dX11_append_115 (by decide) ?_
          refine g_iadd C dX11_append_116 ?_
          refine g_put C (ws' := (wM (x_y X) a thrown_80 g saved hasSaved coef nodes nodeMany isDeep codes details levelMany given paper papered f9 (taped_80 + 1) wrongAt at_ value readPlace readValue readEpoch)) 0 15 rfl rfl wiX11 (by decide) tyX11_ok nmX11 mw_6_198 rfl rfl rfl rfl (Nat.le_of_ble_eq_true rfl) rfl dX11_append_117 ?_
          refine gW.locals [1, 2, 3] rfl ?_
          exact H120 thrown_80 f9 (taped_80 + 1) l3_80 hf
  have H5 : ∀ (n5 : Nat), ∀ (thrown_5 : Int32) (tape_5 : Nat → Int32) (taped_5 : Int32) (l2_5 : Int32) (l3_5 : Int32), F_X11_append_L5 p0 n5 thrown_5 tape_5 taped_5 l2_5 l3_5 = some val → gW X Q 0 0 ((wM (x_y X) a thrown_5 g saved hasSaved coef nodes nodeMany isDeep codes details levelMany given paper papered tape_5 taped_5 wrongAt at_ value readPlace readValue readEpoch)) [(0, .ref (a 0)), (1, .int p0), (2, .int l2_5), (3, .int l3_5)] [] 5 := by
    intro n5
    induction n5 with
    | zero => intros; rename_i hf; cases hf
    | succ n5 ih =>
      intro thrown_5 tape_5 taped_5 l2_5 l3_5 hf
      have H5 := ih
      rw [F_X11_append_L5] at hf
      have H52 : ∀ (thrown_52 : Int32) (tape_52 : Nat → Int32) (taped_52 : Int32) (l3_52 : Int32) (s0_52 : Int32) (s1_52 : Int32), F_X11_append_L52 (F_X11_append_L5 p0 n5) thrown_52 tape_52 taped_52 l3_52 s0_52 s1_52 = some val → gW X Q 0 0 ((wM (x_y X) a thrown_52 g saved hasSaved coef nodes nodeMany isDeep codes details levelMany given paper papered tape_52 taped_52 wrongAt at_ value readPlace readValue readEpoch)) [(0, .ref (a 0)), (1, .int p0), (3, .int l3_52)] [.int s0_52, .int s1_52] 52 := by
        intro thrown_52 tape_52 taped_52 l3_52 s0_52 s1_52 hf
        unfold F_X11_append_L52 at hf
        refine g_iadd C dX11_append_52 ?_
        refine g_istore_n C (lv' := [(2, .int (s1_52 + s0_52)), (0, .ref (a 0)), (1, .int p0), (3, .int l3_52)]) dX11_append_53 (g_nlt hn rfl) rfl ?_
        refine g_iinc C 3 (v := l3_52 + (-8)) (lv' := [(3, .int (l3_52 + (-8))), (2, .int (s1_52 + s0_52)), (0, .ref (a 0)), (1, .int p0)]) dX11_append_54 rfl rfl (g_nlt hn rfl) rfl ?_
        refine g_goto C 5 dX11_append_57 (by decide) ?_
        refine gW.locals [2, 3, 1, 0] rfl ?_
        exact H5 thrown_52 tape_52 taped_52 (s1_52 + s0_52) (l3_52 + (-8)) hf
      have H41 : ∀ (thrown_41 : Int32) (tape_41 : Nat → Int32) (taped_41 : Int32) (l2_41 : Int32) (l3_41 : Int32) (l4_41 : Int32), F_X11_append_L41 (F_X11_append_L5 p0 n5) thrown_41 tape_41 taped_41 l2_41 l3_41 l4_41 = some val → gW X Q 0 0 ((wM (x_y X) a thrown_41 g saved hasSaved coef nodes nodeMany isDeep codes details levelMany given paper papered tape_41 taped_41 wrongAt at_ value readPlace readValue readEpoch)) [(0, .ref (a 0)), (1, .int p0), (2, .int l2_41), (3, .int l3_41), (4, .int l4_41)] [] 41 := by
        intro thrown_41 tape_41 taped_41 l2_41 l3_41 l4_41 hf
        unfold F_X11_append_L41 at hf
        refine g_iload_n C 2 dX11_append_41 rfl ?_
        refine g_iload C 4 dX11_append_42 rfl ?_
        refine g_if_eq C 51 dX11_append_44 (by decide) (fun c14 => ?_) (fun c14 => ?_)
        · have hf := opt_pos c14 hf
          refine g_iconst C (v := 0) dX11_append_51 (by decide) ?_
          refine gW.locals [0, 1, 3] rfl ?_
          exact H52 thrown_41 tape_41 taped_41 l3_41 0 l2_41 hf
        · have hf := opt_neg c14 hf
          refine g_iconst C (v := 1) dX11_append_47 (by decide) ?_
          refine g_goto C 52 dX11_append_48 (by decide) ?_
          refine gW.locals [0, 1, 3] rfl ?_
          exact H52 thrown_41 tape_41 taped_41 l3_41 1 l2_41 hf
      refine g_iload_n C 3 dX11_append_5 rfl ?_
      refine g_if_lt C 60 dX11_append_6 (by decide) (fun c1 => ?_) (fun c1 => ?_)
      · have hf := opt_pos c1 hf
        refine g_aload_n C 0 dX11_append_60 rfl ?_
        refine g_get C 0 15 rfl rfl wiX11 (by decide) mw_6_198 rfl rfl dX11_append_61 ?_
        refine g_iload_n C 2 dX11_append_64 rfl ?_
        refine g_iadd C dX11_append_65 ?_
        refine g_bipush C (v := 40) dX11_append_66 (by decide) ?_
        refine g_icmp_le C 77 dX11_append_68 (by decide) (fun c2 => ?_) (fun c2 => ?_)
        · have hf := opt_pos c2 hf
          refine g_bipush C (v := 24) dX11_append_77 (by decide) ?_
          refine g_istore_n C (lv' := [(3, .int 24), (0, .ref (a 0)), (1, .int p0), (2, .int l2_5)]) dX11_append_79 (g_nlt hn rfl) rfl ?_
          refine gW.locals [1, 2, 0] rfl ?_
          exact H80 1000 thrown_5 tape_5 taped_5 24 hf
        · have hf := opt_neg c2 hf
          refine g_aload_n C 0 dX11_append_71 rfl ?_
          refine g_iconst C (v := 2) dX11_append_72 (by decide) ?_
          obtain ⟨v10, h11, hf⟩ := opt_bind hf
          refine g_callV C (c_X11_fails (l := x_l X) (D := x_D X) (cy := x_y X) (a := a) (thrown := thrown_5) (g := g) (saved := saved) (hasSaved := hasSaved) (coef := coef) (nodes := nodes) (nodeMany := nodeMany) (isDeep := isDeep) (codes := codes) (details := details) (levelMany := levelMany) (given := given) (paper := paper) (papered := papered) (tape := tape_5) (taped := taped_5) (wrongAt := wrongAt) (at_ := at_) (value := value) (readPlace := readPlace) (readValue := readValue) (readEpoch := readEpoch) (p0 := 2) h11) (As := [.int 2]) (rest := []) (wr := []) (ws' := fun _ => (wM (x_y X) a v10.2 g saved hasSaved coef nodes nodeMany isDeep codes details levelMany given paper papered tape_5 taped_5 wrongAt at_ value readPlace readValue readEpoch)) (st' := fun _ => [.int v10.1]) (ci := 12) 1 0 ⟨_, rfl⟩ rfl rfl mw_7_45 mw_1_9 mw_7_42 mw_7_44 mp_31 hd_X11_fails rfl (g_rm hR rfl rfl) [0, 1, 2, 3, 4, 5, 6, 7, 8, 9] [] [0, 1, 2, 3, 4, 5, 6, 7, 8, 9] ⟨rfl, rfl, rfl, rfl, by decide, gRoIn_0, rfl, fun _ => rfl⟩ rfl (Nat.le_of_ble_eq_true rfl) dX11_append_73 (g_rc hR (Nat.le_of_ble_eq_true rfl) (Nat.le_of_ble_eq_true rfl)) (ck' := 0) (sk' := 0) rfl rfl (fun _ => rfl) (fun _ _ => ?_) (fun _ hx => absurd rfl hx)
          obtain rfl := Option.some.inj hf
          exact g_iret C E () dX11_append_76 rfl rfl rfl (Nat.le_of_ble_eq_true rfl) (Nat.le_of_ble_eq_true rfl)
      · have hf := opt_neg c1 hf
        refine g_iload_n C 1 dX11_append_9 rfl ?_
        refine g_iload_n C 3 dX11_append_10 rfl ?_
        refine g_iushr C dX11_append_11 ?_
        refine g_sipush C (v := 255) dX11_append_12 (by decide) ?_
        refine g_iand C dX11_append_15 ?_
        obtain ⟨x12, ex12, hf⟩ := opt_let hf
        refine g_topi ex12 ?_
        refine g_istore C (lv' := [(4, .int x12), (0, .ref (a 0)), (1, .int p0), (2, .int l2_5), (3, .int l3_5)]) dX11_append_16 (g_nlt hn rfl) rfl ?_
        refine g_iload C 0 dX11_append_18 rfl ?_
        refine g_if_eq C 41 dX11_append_20 (by decide) (fun c13 => ?_) (fun c13 => ?_)
        · have hf := opt_pos c13 hf
          refine gW.locals [1, 2, 3, 4, 0] rfl ?_
          exact H41 thrown_5 tape_5 taped_5 l2_5 l3_5 x12 hf
        · have hf := opt_neg c13 hf
          refine g_iload C 0 dX11_append_23 rfl ?_
          refine g_bipush C (v := 33) dX11_append_25 (by decide) ?_
          refine g_bipush C (v := 126) dX11_append_27 (by decide) ?_
          obtain ⟨v15, h16, hf⟩ := opt_bind hf
          refine g_callS C (c_X11_in (l := x_l X) (D := x_D X) (cy := x_y X) (p0 := x12) (p1 := 33) (p2 := 126) h16) (As := [.int x12, .int 33, .int 126]) (rest := []) (wr := (wM (x_y X) a thrown_5 g saved hasSaved coef nodes nodeMany isDeep codes details levelMany given paper papered tape_5 taped_5 wrongAt at_ value readPlace readValue readEpoch)) (ws' := fun _ => (wM (x_y X) a thrown_5 g saved hasSaved coef nodes nodeMany isDeep codes details levelMany given paper papered tape_5 taped_5 wrongAt at_ value readPlace readValue readEpoch)) (st' := fun _ => [.int v15]) 3 mw_7_41 mw_1_9 mw_7_39 mw_7_40 hd_X11_in rfl (g_rm hR rfl rfl) [] [0, 1, 2, 3, 4, 5, 6, 7, 8, 9] [0, 1, 2, 3, 4, 5, 6, 7, 8, 9] ⟨rfl, rfl, rfl, rfl, by decide, gRoIn_0, rfl, fun _ => rfl⟩ rfl (Nat.le_of_ble_eq_true rfl) dX11_append_29 (g_rc hR (Nat.le_of_ble_eq_true rfl) (Nat.le_of_ble_eq_true rfl)) (ck' := 0) (sk' := 0) rfl rfl (fun _ => rfl) (fun _ _ => ?_) (fun _ hx => absurd rfl hx)
          refine g_if_ne C 41 dX11_append_32 (by decide) (fun c17 => ?_) (fun c17 => ?_)
          · have hf := opt_neg c17 hf
            refine gW.locals [1, 2, 3, 4, 0] rfl ?_
            exact H41 thrown_5 tape_5 taped_5 l2_5 l3_5 x12 hf
          · have hf := opt_pos c17 hf
            refine g_aload_n C 1 dX11_append_35 rfl ?_
            refine g_iconst C (v := 1) dX11_append_36 (by decide) ?_
            obtain ⟨v18, h19, hf⟩ := opt_bind hf
            refine g_callV C (c_X11_fails (l := x_l X) (D := x_D X) (cy := x_y X) (a := a) (thrown := thrown_5) (g := g) (saved := saved) (hasSaved := hasSaved) (coef := coef) (nodes := nodes) (nodeMany := nodeMany) (isDeep := isDeep) (codes := codes) (details := details) (levelMany := levelMany) (given := given) (paper := paper) (papered := papered) (tape := tape_5) (taped := taped_5) (wrongAt := wrongAt) (at_ := at_) (value := value) (readPlace := readPlace) (readValue := readValue) (readEpoch := readEpoch) (p0 := 1) h19) (As := [.int 1]) (rest := []) (wr := []) (ws' := fun _ => (wM (x_y X) a v18.2 g saved hasSaved coef nodes nodeMany isDeep codes details levelMany given paper papered tape_5 taped_5 wrongAt at_ value readPlace readValue readEpoch)) (st' := fun _ => [.int v18.1]) (ci := 12) 1 0 ⟨_, rfl⟩ rfl rfl mw_7_45 mw_1_9 mw_7_42 mw_7_44 mp_31 hd_X11_fails rfl (g_rm hR rfl rfl) [0, 1, 2, 3, 4, 5, 6, 7, 8, 9] [] [0, 1, 2, 3, 4, 5, 6, 7, 8, 9] ⟨rfl, rfl, rfl, rfl, by decide, gRoIn_0, rfl, fun _ => rfl⟩ rfl (Nat.le_of_ble_eq_true rfl) dX11_append_37 (g_rc hR (Nat.le_of_ble_eq_true rfl) (Nat.le_of_ble_eq_true rfl)) (ck' := 0) (sk' := 0) rfl rfl (fun _ => rfl) (fun _ _ => ?_) (fun _ hx => absurd rfl hx)
            obtain rfl := Option.some.inj hf
            exact g_iret C E () dX11_append_40 rfl rfl rfl (Nat.le_of_ble_eq_true rfl) (Nat.le_of_ble_eq_true rfl)
  show gW X Q 0 0 ((wM (x_y X) a thrown g saved hasSaved coef nodes nodeMany isDeep codes details levelMany given paper papered tape taped wrongAt at_ value readPlace readValue readEpoch)) [(0, .ref (a 0)), (1, .int p0)] [] 0
  refine g_iconst C (v := 0) dX11_append_0 (by decide) ?_
  refine g_istore_n C (lv' := [(2, .int 0), (0, .ref (a 0)), (1, .int p0)]) dX11_append_1 (g_nlt hn rfl) rfl ?_
  refine g_bipush C (v := 24) dX11_append_2 (by decide) ?_
  refine g_istore_n C (lv' := [(3, .int 24), (2, .int 0), (0, .ref (a 0)), (1, .int p0)]) dX11_append_4 (g_nlt hn rfl) rfl ?_
  refine gW.locals [2, 3, 1, 0] rfl ?_
  exact H5 1000 thrown tape taped 0 24 hf
/-! X11_here -/
theorem hd_X11_here : yX11_here.cls ≠ "java/lang/invoke/MethodHandle" ∧ yX11_here.cls ≠ "java/lang/invoke/VarHandle" ∧ (parseMethodDescriptor yX11_here.desc).map (fun d => d.parameters.length) = some 0 := by decide +kernel
def F_X11_here_L24   (s0_24 : Int32) : Option (Int32) := some s0_24
def F_X11_here (tape : Nat → Int32) (taped : Int32) (at_ : Int32) : Option (Int32) := if taped ≤ at_ then (F_X11_here_L24 0) else (gg (gi at_ 40) (F_X11_here_L24 (tape (Int32.toNatClampNeg at_))))
set_option maxRecDepth 100000 in
set_option maxHeartbeats 4000000 in
theorem c_X11_here {l : Launch} {D : va_G} {cy : Nat → ClassId} {a : Nat → Nat} {thrown : Int32} {g : Nat → Int32} {saved : Nat → Int32} {hasSaved : Int32} {coef : Nat → Int32} {nodes : Nat → Int32} {nodeMany : Int32} {isDeep : Int32} {codes : Nat → Int32} {details : Nat → Int32} {levelMany : Int32} {given : Nat → Int32} {paper : Nat → Int32} {papered : Int32} {tape : Nat → Int32} {taped : Int32} {wrongAt : Int32} {at_ : Int32} {value : Int32} {readPlace : Int32} {readValue : Int32} {readEpoch : Int32}   {val : Int32} (hf : F_X11_here tape taped at_ = some val) : gCt l D cy yX11_here cX11_here 1 (some .int) 0 0 0 0 [.ref (a 0)] [] ((wM cy a thrown g saved hasSaved coef nodes nodeMany isDeep codes details levelMany given paper papered tape taped wrongAt at_ value readPlace readValue readEpoch)) 0 (fun _ : Unit => some (.int val)) (fun _ => (wM cy a thrown g saved hasSaved coef nodes nodeMany isDeep codes details levelMany given paper papered tape taped wrongAt at_ value readPlace readValue readEpoch)) := by
  refine g_begin (by decide +kernel) (Nat.le_of_ble_eq_true rfl) ?_
  intro X Q hl hR hD hy hro hn C hin E
  subst hl; subst hD; subst hy
  replace C : gC X "SecretVaultModel" cX11_here (some .int) := C
  unfold F_X11_here at hf
  have H24 : ∀ (s0_24 : Int32), F_X11_here_L24 s0_24 = some val → gW X Q 0 0 ((wM (x_y X) a thrown g saved hasSaved coef nodes nodeMany isDeep codes details levelMany given paper papered tape taped wrongAt at_ value readPlace readValue readEpoch)) [(0, .ref (a 0))] [.int s0_24] 24 := by
    intro s0_24 hf
    unfold F_X11_here_L24 at hf
    obtain rfl := Option.some.inj hf
    exact g_iret C E () dX11_here_24 rfl rfl rfl (Nat.le_of_ble_eq_true rfl) (Nat.le_of_ble_eq_true rfl)
  show gW X Q 0 0 ((wM (x_y X) a thrown g saved hasSaved coef nodes nodeMany isDeep codes details levelMany given paper papered tape taped wrongAt at_ value readPlace readValue readEpoch)) [(0, .ref (a 0))] [] 0
  refine g_aload_n C 0 dX11_here_0 rfl ?_
  refine g_get C 0 17 rfl rfl wiX11 (by decide) mw_6_200 rfl rfl dX11_here_1 ?_
  refine g_aload_n C 0 dX11_here_4 rfl ?_
  refine g_get C 0 15 rfl rfl wiX11 (by decide) mw_6_198 rfl rfl dX11_here_5 ?_
  refine g_icmp_ge C 23 dX11_here_8 (by decide) (fun c1 => ?_) (fun c1 => ?_)
  · have hf := opt_pos c1 hf
    refine g_iconst C (v := 0) dX11_here_23 (by decide) ?_
    exact H24 0 hf
  · have hf := opt_neg c1 hf
    refine g_aload_n C 0 dX11_here_11 rfl ?_
    refine g_get C 0 14 rfl rfl wiX11 (by decide) mw_6_197 rfl rfl dX11_here_12 ?_
    refine g_aload_n C 0 dX11_here_15 rfl ?_
    refine g_get C 0 17 rfl rfl wiX11 (by decide) mw_6_200 rfl rfl dX11_here_16 ?_
    obtain ⟨c2, hf⟩ := gg_of hf
    refine g_cald C 9 rfl (gi_in c2) dX11_here_19 ?_
    refine g_goto C 24 dX11_here_20 (by decide) ?_
    exact H24 (tape (Int32.toNatClampNeg at_)) hf
/-! X11_eats -/
theorem hd_X11_eats : yX11_eats.cls ≠ "java/lang/invoke/MethodHandle" ∧ yX11_eats.cls ≠ "java/lang/invoke/VarHandle" ∧ (parseMethodDescriptor yX11_eats.desc).map (fun d => d.parameters.length) = some 1 := by decide +kernel
def F_X11_eats_L39   (at__39 : Int32) (l2_39 : Int32) (s0_39 : Int32) (s1_39 : Int32) : Option (Int32 × Int32) := gg (gnar .boolean l2_39) (some (l2_39, s1_39 + s0_39))
def F_X11_eats_L24   (at__24 : Int32) (s0_24 : Int32) : Option (Int32 × Int32) := if s0_24 = 0 then (F_X11_eats_L39 at__24 s0_24 0 at__24) else (F_X11_eats_L39 at__24 s0_24 1 at__24)
def F_X11_eats_L23   (at__23 : Int32) : Option (Int32 × Int32) := F_X11_eats_L24 at__23 0
def F_X11_eats (tape : Nat → Int32) (taped : Int32) (at_ : Int32) (p0 : Int32) : Option (Int32 × Int32) := if taped ≤ at_ then (F_X11_eats_L23 at_) else ((F_X11_here tape taped at_).bind fun v4 => if v4 = p0 then (F_X11_eats_L24 at_ 1) else (F_X11_eats_L23 at_))
set_option maxRecDepth 100000 in
set_option maxHeartbeats 4000000 in
theorem c_X11_eats {l : Launch} {D : va_G} {cy : Nat → ClassId} {a : Nat → Nat} {thrown : Int32} {g : Nat → Int32} {saved : Nat → Int32} {hasSaved : Int32} {coef : Nat → Int32} {nodes : Nat → Int32} {nodeMany : Int32} {isDeep : Int32} {codes : Nat → Int32} {details : Nat → Int32} {levelMany : Int32} {given : Nat → Int32} {paper : Nat → Int32} {papered : Int32} {tape : Nat → Int32} {taped : Int32} {wrongAt : Int32} {at_ : Int32} {value : Int32} {readPlace : Int32} {readValue : Int32} {readEpoch : Int32} {p0 : Int32}  {val : Int32 × Int32} (hf : F_X11_eats tape taped at_ p0 = some val) : gCt l D cy yX11_eats cX11_eats 3 (some .boolean) 1 20 0 0 [.ref (a 0), .int p0] [] ((wM cy a thrown g saved hasSaved coef nodes nodeMany isDeep codes details levelMany given paper papered tape taped wrongAt at_ value readPlace readValue readEpoch)) 0 (fun _ : Unit => some (.int val.1)) (fun _ => (wM cy a thrown g saved hasSaved coef nodes nodeMany isDeep codes details levelMany given paper papered tape taped wrongAt val.2 value readPlace readValue readEpoch)) := by
  refine g_begin (by decide +kernel) (Nat.le_of_ble_eq_true rfl) ?_
  intro X Q hl hR hD hy hro hn C hin E
  subst hl; subst hD; subst hy
  replace C : gC X "SecretVaultModel" cX11_eats (some .boolean) := C
  unfold F_X11_eats at hf
  have H39 : ∀ (at__39 : Int32) (l2_39 : Int32) (s0_39 : Int32) (s1_39 : Int32), F_X11_eats_L39 at__39 l2_39 s0_39 s1_39 = some val → gW X Q 0 0 ((wM (x_y X) a thrown g saved hasSaved coef nodes nodeMany isDeep codes details levelMany given paper papered tape taped wrongAt at__39 value readPlace readValue readEpoch)) [(0, .ref (a 0)), (1, .int p0), (2, .int l2_39)] [.int s0_39, .int s1_39, .ref (a 0)] 39 := by
    intro at__39 l2_39 s0_39 s1_39 hf
    unfold F_X11_eats_L39 at hf
    refine g_iadd C dX11_eats_39 ?_
    refine g_put C (ws' := (wM (x_y X) a thrown g saved hasSaved coef nodes nodeMany isDeep codes details levelMany given paper papered tape taped wrongAt (s1_39 + s0_39) value readPlace readValue readEpoch)) 0 17 rfl rfl wiX11 (by decide) tyX11_ok nmX11 mw_6_200 rfl rfl rfl rfl (Nat.le_of_ble_eq_true rfl) rfl dX11_eats_40 ?_
    refine g_iload_n C 2 dX11_eats_43 rfl ?_
    obtain ⟨c3, hf⟩ := gg_of hf
    obtain rfl := Option.some.inj hf
    exact g_zret C E () (gnar_of c3) dX11_eats_44 rfl rfl rfl (Nat.le_of_ble_eq_true rfl) (Nat.le_of_ble_eq_true rfl)
  have H24 : ∀ (at__24 : Int32) (s0_24 : Int32), F_X11_eats_L24 at__24 s0_24 = some val → gW X Q 0 0 ((wM (x_y X) a thrown g saved hasSaved coef nodes nodeMany isDeep codes details levelMany given paper papered tape taped wrongAt at__24 value readPlace readValue readEpoch)) [(0, .ref (a 0)), (1, .int p0)] [.int s0_24] 24 := by
    intro at__24 s0_24 hf
    unfold F_X11_eats_L24 at hf
    refine g_istore_n C (lv' := [(2, .int s0_24), (0, .ref (a 0)), (1, .int p0)]) dX11_eats_24 (g_nlt hn rfl) rfl ?_
    refine g_aload_n C 1 dX11_eats_25 rfl ?_
    refine g_dup C dX11_eats_26 rfl ?_
    refine g_get C 0 17 rfl rfl wiX11 (by decide) mw_6_200 rfl rfl dX11_eats_27 ?_
    refine g_iload_n C 0 dX11_eats_30 rfl ?_
    refine g_if_eq C 38 dX11_eats_31 (by decide) (fun c2 => ?_) (fun c2 => ?_)
    · have hf := opt_pos c2 hf
      refine g_iconst C (v := 0) dX11_eats_38 (by decide) ?_
      refine gW.locals [1, 2, 0] rfl ?_
      exact H39 at__24 s0_24 0 at__24 hf
    · have hf := opt_neg c2 hf
      refine g_iconst C (v := 1) dX11_eats_34 (by decide) ?_
      refine g_goto C 39 dX11_eats_35 (by decide) ?_
      refine gW.locals [1, 2, 0] rfl ?_
      exact H39 at__24 s0_24 1 at__24 hf
  have H23 : ∀ (at__23 : Int32), F_X11_eats_L23 at__23 = some val → gW X Q 0 0 ((wM (x_y X) a thrown g saved hasSaved coef nodes nodeMany isDeep codes details levelMany given paper papered tape taped wrongAt at__23 value readPlace readValue readEpoch)) [(0, .ref (a 0)), (1, .int p0)] [] 23 := by
    intro at__23 hf
    unfold F_X11_eats_L23 at hf
    refine g_iconst C (v := 0) dX11_eats_23 (by decide) ?_
    exact H24 at__23 0 hf
  show gW X Q 0 0 ((wM (x_y X) a thrown g saved hasSaved coef nodes nodeMany isDeep codes details levelMany given paper papered tape taped wrongAt at_ value readPlace readValue readEpoch)) [(0, .ref (a 0)), (1, .int p0)] [] 0
  refine g_aload_n C 0 dX11_eats_0 rfl ?_
  refine g_get C 0 17 rfl rfl wiX11 (by decide) mw_6_200 rfl rfl dX11_eats_1 ?_
  refine g_aload_n C 0 dX11_eats_4 rfl ?_
  refine g_get C 0 15 rfl rfl wiX11 (by decide) mw_6_198 rfl rfl dX11_eats_5 ?_
  refine g_icmp_ge C 23 dX11_eats_8 (by decide) (fun c1 => ?_) (fun c1 => ?_)
  · have hf := opt_pos c1 hf
    exact H23 at_ hf
  · have hf := opt_neg c1 hf
    refine g_aload_n C 0 dX11_eats_11 rfl ?_
    obtain ⟨v4, h5, hf⟩ := opt_bind hf
    refine g_callV C (c_X11_here (l := x_l X) (D := x_D X) (cy := x_y X) (a := a) (thrown := thrown) (g := g) (saved := saved) (hasSaved := hasSaved) (coef := coef) (nodes := nodes) (nodeMany := nodeMany) (isDeep := isDeep) (codes := codes) (details := details) (levelMany := levelMany) (given := given) (paper := paper) (papered := papered) (tape := tape) (taped := taped) (wrongAt := wrongAt) (at_ := at_) (value := value) (readPlace := readPlace) (readValue := readValue) (readEpoch := readEpoch) h5) (As := []) (rest := []) (wr := []) (ws' := fun _ => (wM (x_y X) a thrown g saved hasSaved coef nodes nodeMany isDeep codes details levelMany given paper papered tape taped wrongAt at_ value readPlace readValue readEpoch)) (st' := fun _ => [.int v4]) (ci := 12) 0 0 ⟨_, rfl⟩ rfl rfl mw_8_37 mw_1_9 mw_8_34 mw_8_36 mp_65 hd_X11_here rfl (g_rm hR rfl rfl) [0, 1, 2, 3, 4, 5, 6, 7, 8, 9] [] [0, 1, 2, 3, 4, 5, 6, 7, 8, 9] ⟨rfl, rfl, rfl, rfl, by decide, gRoIn_0, rfl, fun _ => rfl⟩ rfl (Nat.le_of_ble_eq_true rfl) dX11_eats_12 (g_rc hR (Nat.le_of_ble_eq_true rfl) (Nat.le_of_ble_eq_true rfl)) (ck' := 0) (sk' := 0) rfl rfl (fun _ => rfl) (fun _ _ => ?_) (fun _ hx => absurd rfl hx)
    refine g_iload_n C 1 dX11_eats_15 rfl ?_
    refine g_icmp_ne C 23 dX11_eats_16 (by decide) (fun c6 => ?_) (fun c6 => ?_)
    · have hf := opt_neg c6 hf
      exact H23 at_ hf
    · have hf := opt_pos c6 hf
      refine g_iconst C (v := 1) dX11_eats_19 (by decide) ?_
      refine g_goto C 24 dX11_eats_20 (by decide) ?_
      exact H24 at_ 1 hf
/-! X11_readsNumber -/
theorem hd_X11_readsNumber : yX11_readsNumber.cls ≠ "java/lang/invoke/MethodHandle" ∧ yX11_readsNumber.cls ≠ "java/lang/invoke/VarHandle" ∧ (parseMethodDescriptor yX11_readsNumber.desc).map (fun d => d.parameters.length) = some 2 := by decide +kernel
def F_X11_readsNumber_L81 (p0 : Int32) (p1 : Int32)  (at__81 : Int32) (value_81 : Int32) (l3_81 : Int32) : Option (Int32 × Int32 × Int32) := if at__81 = l3_81 then (some (0, at__81, value_81)) else ((F_X11_in value_81 p0 p1).bind fun v3 => if v3 = 0 then (some (0, l3_81, value_81)) else (some (1, at__81, value_81)))
def F_X11_readsNumber_L49 (tape : Nat → Int32) (taped : Int32) (K10 : Int32 → Int32 → Int32 → Option (Int32 × Int32 × Int32)) (at__49 : Int32) (value_49 : Int32) (l3_49 : Int32) : Option (Int32 × Int32 × Int32) := (F_X11_here tape taped at__49).bind fun v12 => K10 (at__49 + 1) ((((10 : Int32) * value_49) + v12) - 48) l3_49
def F_X11_readsNumber_L10 (tape : Nat → Int32) (taped : Int32) (p0 : Int32) (p1 : Int32)  : Nat → Int32 → Int32 → Int32 → Option (Int32 × Int32 × Int32)
  | 0, _, _, _ => none
  | n + 1, at__10, value_10, l3_10 => if 4 ≤ (at__10 - l3_10) then (F_X11_readsNumber_L81 p0 p1 at__10 value_10 l3_10) else ((F_X11_here tape taped at__10).bind fun v6 => (F_X11_in v6 48 57).bind fun v8 => if v8 = 0 then (F_X11_readsNumber_L81 p0 p1 at__10 value_10 l3_10) else (if at__10 = l3_10 then (F_X11_readsNumber_L49 tape taped (F_X11_readsNumber_L10 tape taped p0 p1 n) at__10 value_10 l3_10) else (if value_10 ≤ 0 then (F_X11_readsNumber_L81 p0 p1 at__10 value_10 l3_10) else (F_X11_readsNumber_L49 tape taped (F_X11_readsNumber_L10 tape taped p0 p1 n) at__10 value_10 l3_10))))
def F_X11_readsNumber (tape : Nat → Int32) (taped : Int32) (at_ : Int32) (value : Int32) (p0 : Int32) (p1 : Int32) : Option (Int32 × Int32 × Int32) := F_X11_readsNumber_L10 tape taped p0 p1 1000 at_ 0 at_
set_option maxRecDepth 100000 in
set_option maxHeartbeats 4000000 in
theorem c_X11_readsNumber {l : Launch} {D : va_G} {cy : Nat → ClassId} {a : Nat → Nat} {thrown : Int32} {g : Nat → Int32} {saved : Nat → Int32} {hasSaved : Int32} {coef : Nat → Int32} {nodes : Nat → Int32} {nodeMany : Int32} {isDeep : Int32} {codes : Nat → Int32} {details : Nat → Int32} {levelMany : Int32} {given : Nat → Int32} {paper : Nat → Int32} {papered : Int32} {tape : Nat → Int32} {taped : Int32} {wrongAt : Int32} {at_ : Int32} {value : Int32} {readPlace : Int32} {readValue : Int32} {readEpoch : Int32} {p0 : Int32} {p1 : Int32}  {val : Int32 × Int32 × Int32} (hf : F_X11_readsNumber tape taped at_ value p0 p1 = some val) : gCt l D cy yX11_readsNumber cX11_readsNumber 4 (some .boolean) 1 22 0 0 [.ref (a 0), .int p0, .int p1] [] ((wM cy a thrown g saved hasSaved coef nodes nodeMany isDeep codes details levelMany given paper papered tape taped wrongAt at_ value readPlace readValue readEpoch)) 0 (fun _ : Unit => some (.int val.1)) (fun _ => (wM cy a thrown g saved hasSaved coef nodes nodeMany isDeep codes details levelMany given paper papered tape taped wrongAt val.2.1 val.2.2 readPlace readValue readEpoch)) := by
  refine g_begin (by decide +kernel) (Nat.le_of_ble_eq_true rfl) ?_
  intro X Q hl hR hD hy hro hn C hin E
  subst hl; subst hD; subst hy
  replace C : gC X "SecretVaultModel" cX11_readsNumber (some .boolean) := C
  unfold F_X11_readsNumber at hf
  have H81 : ∀ (at__81 : Int32) (value_81 : Int32) (l3_81 : Int32), F_X11_readsNumber_L81 p0 p1 at__81 value_81 l3_81 = some val → gW X Q 0 0 ((wM (x_y X) a thrown g saved hasSaved coef nodes nodeMany isDeep codes details levelMany given paper papered tape taped wrongAt at__81 value_81 readPlace readValue readEpoch)) [(0, .ref (a 0)), (1, .int p0), (2, .int p1), (3, .int l3_81)] [] 81 := by
    intro at__81 value_81 l3_81 hf
    unfold F_X11_readsNumber_L81 at hf
    refine g_aload_n C 0 dX11_readsNumber_81 rfl ?_
    refine g_get C 0 17 rfl rfl wiX11 (by decide) mw_6_200 rfl rfl dX11_readsNumber_82 ?_
    refine g_iload_n C 3 dX11_readsNumber_85 rfl ?_
    refine g_icmp_ne C 91 dX11_readsNumber_86 (by decide) (fun c2 => ?_) (fun c2 => ?_)
    · have hf := opt_neg c2 hf
      refine g_aload_n C 0 dX11_readsNumber_91 rfl ?_
      refine g_get C 0 18 rfl rfl wiX11 (by decide) mw_6_201 rfl rfl dX11_readsNumber_92 ?_
      refine g_iload_n C 1 dX11_readsNumber_95 rfl ?_
      refine g_iload_n C 2 dX11_readsNumber_96 rfl ?_
      obtain ⟨v3, h4, hf⟩ := opt_bind hf
      refine g_callS C (c_X11_in (l := x_l X) (D := x_D X) (cy := x_y X) (p0 := value_81) (p1 := p0) (p2 := p1) h4) (As := [.int value_81, .int p0, .int p1]) (rest := []) (wr := (wM (x_y X) a thrown g saved hasSaved coef nodes nodeMany isDeep codes details levelMany given paper papered tape taped wrongAt at__81 value_81 readPlace readValue readEpoch)) (ws' := fun _ => (wM (x_y X) a thrown g saved hasSaved coef nodes nodeMany isDeep codes details levelMany given paper papered tape taped wrongAt at__81 value_81 readPlace readValue readEpoch)) (st' := fun _ => [.int v3]) 3 mw_7_41 mw_1_9 mw_7_39 mw_7_40 hd_X11_in rfl (g_rm hR rfl rfl) [] [0, 1, 2, 3, 4, 5, 6, 7, 8, 9] [0, 1, 2, 3, 4, 5, 6, 7, 8, 9] ⟨rfl, rfl, rfl, rfl, by decide, gRoIn_0, rfl, fun _ => rfl⟩ rfl (Nat.le_of_ble_eq_true rfl) dX11_readsNumber_97 (g_rc hR (Nat.le_of_ble_eq_true rfl) (Nat.le_of_ble_eq_true rfl)) (ck' := 0) (sk' := 0) rfl rfl (fun _ => rfl) (fun _ _ => ?_) (fun _ hx => absurd rfl hx)
      refine g_if_ne C 110 dX11_readsNumber_100 (by decide) (fun c5 => ?_) (fun c5 => ?_)
      · have hf := opt_neg c5 hf
        refine g_iconst C (v := 1) dX11_readsNumber_110 (by decide) ?_
        obtain rfl := Option.some.inj hf
        exact g_zret C E () rfl dX11_readsNumber_111 rfl rfl rfl (Nat.le_of_ble_eq_true rfl) (Nat.le_of_ble_eq_true rfl)
      · have hf := opt_pos c5 hf
        refine g_aload_n C 0 dX11_readsNumber_103 rfl ?_
        refine g_iload_n C 3 dX11_readsNumber_104 rfl ?_
        refine g_put C (ws' := (wM (x_y X) a thrown g saved hasSaved coef nodes nodeMany isDeep codes details levelMany given paper papered tape taped wrongAt l3_81 value_81 readPlace readValue readEpoch)) 0 17 rfl rfl wiX11 (by decide) tyX11_ok nmX11 mw_6_200 rfl rfl rfl rfl (Nat.le_of_ble_eq_true rfl) rfl dX11_readsNumber_105 ?_
        refine g_iconst C (v := 0) dX11_readsNumber_108 (by decide) ?_
        obtain rfl := Option.some.inj hf
        exact g_zret C E () rfl dX11_readsNumber_109 rfl rfl rfl (Nat.le_of_ble_eq_true rfl) (Nat.le_of_ble_eq_true rfl)
    · have hf := opt_pos c2 hf
      refine g_iconst C (v := 0) dX11_readsNumber_89 (by decide) ?_
      obtain rfl := Option.some.inj hf
      exact g_zret C E () rfl dX11_readsNumber_90 rfl rfl rfl (Nat.le_of_ble_eq_true rfl) (Nat.le_of_ble_eq_true rfl)
  have H10 : ∀ (n10 : Nat), ∀ (at__10 : Int32) (value_10 : Int32) (l3_10 : Int32), F_X11_readsNumber_L10 tape taped p0 p1 n10 at__10 value_10 l3_10 = some val → gW X Q 0 0 ((wM (x_y X) a thrown g saved hasSaved coef nodes nodeMany isDeep codes details levelMany given paper papered tape taped wrongAt at__10 value_10 readPlace readValue readEpoch)) [(0, .ref (a 0)), (1, .int p0), (2, .int p1), (3, .int l3_10)] [] 10 := by
    intro n10
    induction n10 with
    | zero => intros; rename_i hf; cases hf
    | succ n10 ih =>
      intro at__10 value_10 l3_10 hf
      have H10 := ih
      rw [F_X11_readsNumber_L10] at hf
      have H49 : ∀ (at__49 : Int32) (value_49 : Int32) (l3_49 : Int32), F_X11_readsNumber_L49 tape taped (F_X11_readsNumber_L10 tape taped p0 p1 n10) at__49 value_49 l3_49 = some val → gW X Q 0 0 ((wM (x_y X) a thrown g saved hasSaved coef nodes nodeMany isDeep codes details levelMany given paper papered tape taped wrongAt at__49 value_49 readPlace readValue readEpoch)) [(0, .ref (a 0)), (1, .int p0), (2, .int p1), (3, .int l3_49)] [] 49 := by
        intro at__49 value_49 l3_49 hf
        unfold F_X11_readsNumber_L49 at hf
        refine g_aload_n C 0 dX11_readsNumber_49 rfl ?_
        refine g_bipush C (v := 10) dX11_readsNumber_50 (by decide) ?_
        refine g_aload_n C 0 dX11_readsNumber_52 rfl ?_
        refine g_get C 0 18 rfl rfl wiX11 (by decide) mw_6_201 rfl rfl dX11_readsNumber_53 ?_
        refine g_imul C dX11_readsNumber_56 ?_
        refine g_aload_n C 0 dX11_readsNumber_57 rfl ?_
        obtain ⟨v12, h13, hf⟩ := opt_bind hf
        refine g_callV C (c_X11_here (l := x_l X) (D := x_D X) (cy := x_y X) (a := a) (thrown := thrown) (g := g) (saved := saved) (hasSaved := hasSaved) (coef := coef) (nodes := nodes) (nodeMany := nodeMany) (isDeep := isDeep) (codes := codes) (details := details) (levelMany := levelMany) (given := given) (paper := paper) (papered := papered) (tape := tape) (taped := taped) (wrongAt := wrongAt) (at_ := at__49) (value := value_49) (readPlace := readPlace) (readValue := readValue) (readEpoch := readEpoch) h13) (As := []) (rest := [.int ((10 : Int32) * value_49), .ref (a 0)]) (wr := []) (ws' := fun _ => (wM (x_y X) a thrown g saved hasSaved coef nodes nodeMany isDeep codes details levelMany given paper papered tape taped wrongAt at__49 value_49 readPlace readValue readEpoch)) (st' := fun _ => [.int v12, .int ((10 : Int32) * value_49), .ref (a 0)]) (ci := 12) 0 0 ⟨_, rfl⟩ rfl rfl mw_8_37 mw_1_9 mw_8_34 mw_8_36 mp_65 hd_X11_here rfl (g_rm hR rfl rfl) [0, 1, 2, 3, 4, 5, 6, 7, 8, 9] [] [0, 1, 2, 3, 4, 5, 6, 7, 8, 9] ⟨rfl, rfl, rfl, rfl, by decide, gRoIn_0, rfl, fun _ => rfl⟩ rfl (Nat.le_of_ble_eq_true rfl) dX11_readsNumber_58 (g_rc hR (Nat.le_of_ble_eq_true rfl) (Nat.le_of_ble_eq_true rfl)) (ck' := 0) (sk' := 0) rfl rfl (fun _ => rfl) (fun _ _ => ?_) (fun _ hx => absurd rfl hx)
        refine g_iadd C dX11_readsNumber_61 ?_
        refine g_bipush C (v := 48) dX11_readsNumber_62 (by decide) ?_
        refine g_isub C dX11_readsNumber_64 ?_
        refine g_put C (ws' := (wM (x_y X) a thrown g saved hasSaved coef nodes nodeMany isDeep codes details levelMany given paper papered tape taped wrongAt at__49 ((((10 : Int32) * value_49) + v12) - 48) readPlace readValue readEpoch)) 0 18 rfl rfl wiX11 (by decide) tyX11_ok nmX11 mw_6_201 rfl rfl rfl rfl (Nat.le_of_ble_eq_true rfl) rfl dX11_readsNumber_65 ?_
        refine g_aload_n C 0 dX11_readsNumber_68 rfl ?_
        refine g_dup C dX11_readsNumber_69 rfl ?_
        refine g_get C 0 17 rfl rfl wiX11 (by decide) mw_6_200 rfl rfl dX11_readsNumber_70 ?_
        refine g_iconst C (v := 1) dX11_readsNumber_73 (by decide) ?_
        refine g_iadd C dX11_readsNumber_74 ?_
        refine g_put C (ws' := (wM (x_y X) a thrown g saved hasSaved coef nodes nodeMany isDeep codes details levelMany given paper papered tape taped wrongAt (at__49 + 1) ((((10 : Int32) * value_49) + v12) - 48) readPlace readValue readEpoch)) 0 17 rfl rfl wiX11 (by decide) tyX11_ok nmX11 mw_6_200 rfl rfl rfl rfl (Nat.le_of_ble_eq_true rfl) rfl dX11_readsNumber_75 ?_
        refine g_goto C 10 dX11_readsNumber_78 (by decide) ?_
        exact H10 (at__49 + 1) ((((10 : Int32) * value_49) + v12) - 48) l3_49 hf
      refine g_aload_n C 0 dX11_readsNumber_10 rfl ?_
      refine g_get C 0 17 rfl rfl wiX11 (by decide) mw_6_200 rfl rfl dX11_readsNumber_11 ?_
      refine g_iload_n C 3 dX11_readsNumber_14 rfl ?_
      refine g_isub C dX11_readsNumber_15 ?_
      refine g_iconst C (v := 4) dX11_readsNumber_16 (by decide) ?_
      refine g_icmp_ge C 81 dX11_readsNumber_17 (by decide) (fun c1 => ?_) (fun c1 => ?_)
      · have hf := opt_pos c1 hf
        exact H81 at__10 value_10 l3_10 hf
      · have hf := opt_neg c1 hf
        refine g_aload_n C 0 dX11_readsNumber_20 rfl ?_
        obtain ⟨v6, h7, hf⟩ := opt_bind hf
        refine g_callV C (c_X11_here (l := x_l X) (D := x_D X) (cy := x_y X) (a := a) (thrown := thrown) (g := g) (saved := saved) (hasSaved := hasSaved) (coef := coef) (nodes := nodes) (nodeMany := nodeMany) (isDeep := isDeep) (codes := codes) (details := details) (levelMany := levelMany) (given := given) (paper := paper) (papered := papered) (tape := tape) (taped := taped) (wrongAt := wrongAt) (at_ := at__10) (value := value_10) (readPlace := readPlace) (readValue := readValue) (readEpoch := readEpoch) h7) (As := []) (rest := []) (wr := []) (ws' := fun _ => (wM (x_y X) a thrown g saved hasSaved coef nodes nodeMany isDeep codes details levelMany given paper papered tape taped wrongAt at__10 value_10 readPlace readValue readEpoch)) (st' := fun _ => [.int v6]) (ci := 12) 0 0 ⟨_, rfl⟩ rfl rfl mw_8_37 mw_1_9 mw_8_34 mw_8_36 mp_65 hd_X11_here rfl (g_rm hR rfl rfl) [0, 1, 2, 3, 4, 5, 6, 7, 8, 9] [] [0, 1, 2, 3, 4, 5, 6, 7, 8, 9] ⟨rfl, rfl, rfl, rfl, by decide, gRoIn_0, rfl, fun _ => rfl⟩ rfl (Nat.le_of_ble_eq_true rfl) dX11_readsNumber_21 (g_rc hR (Nat.le_of_ble_eq_true rfl) (Nat.le_of_ble_eq_true rfl)) (ck' := 0) (sk' := 0) rfl rfl (fun _ => rfl) (fun _ _ => ?_) (fun _ hx => absurd rfl hx)
        refine g_bipush C (v := 48) dX11_readsNumber_24 (by decide) ?_
        refine g_bipush C (v := 57) dX11_readsNumber_26 (by decide) ?_
        obtain ⟨v8, h9, hf⟩ := opt_bind hf
        refine g_callS C (c_X11_in (l := x_l X) (D := x_D X) (cy := x_y X) (p0 := v6) (p1 := 48) (p2 := 57) h9) (As := [.int v6, .int 48, .int 57]) (rest := []) (wr := (wM (x_y X) a thrown g saved hasSaved coef nodes nodeMany isDeep codes details levelMany given paper papered tape taped wrongAt at__10 value_10 readPlace readValue readEpoch)) (ws' := fun _ => (wM (x_y X) a thrown g saved hasSaved coef nodes nodeMany isDeep codes details levelMany given paper papered tape taped wrongAt at__10 value_10 readPlace readValue readEpoch)) (st' := fun _ => [.int v8]) 3 mw_7_41 mw_1_9 mw_7_39 mw_7_40 hd_X11_in rfl (g_rm hR rfl rfl) [] [0, 1, 2, 3, 4, 5, 6, 7, 8, 9] [0, 1, 2, 3, 4, 5, 6, 7, 8, 9] ⟨rfl, rfl, rfl, rfl, by decide, gRoIn_0, rfl, fun _ => rfl⟩ rfl (Nat.le_of_ble_eq_true rfl) dX11_readsNumber_28 (g_rc hR (Nat.le_of_ble_eq_true rfl) (Nat.le_of_ble_eq_true rfl)) (ck' := 0) (sk' := 0) rfl rfl (fun _ => rfl) (fun _ _ => ?_) (fun _ hx => absurd rfl hx)
        refine g_if_eq C 81 dX11_readsNumber_31 (by decide) (fun c10 => ?_) (fun c10 => ?_)
        · have hf := opt_pos c10 hf
          exact H81 at__10 value_10 l3_10 hf
        · have hf := opt_neg c10 hf
          refine g_aload_n C 0 dX11_readsNumber_34 rfl ?_
          refine g_get C 0 17 rfl rfl wiX11 (by decide) mw_6_200 rfl rfl dX11_readsNumber_35 ?_
          refine g_iload_n C 3 dX11_readsNumber_38 rfl ?_
          refine g_icmp_eq C 49 dX11_readsNumber_39 (by decide) (fun c11 => ?_) (fun c11 => ?_)
          · have hf := opt_pos c11 hf
            exact H49 at__10 value_10 l3_10 hf
          · have hf := opt_neg c11 hf
            refine g_aload_n C 0 dX11_readsNumber_42 rfl ?_
            refine g_get C 0 18 rfl rfl wiX11 (by decide) mw_6_201 rfl rfl dX11_readsNumber_43 ?_
            refine g_if_le C 81 dX11_readsNumber_46 (by decide) (fun c14 => ?_) (fun c14 => ?_)
            · have hf := opt_pos c14 hf
              exact H81 at__10 value_10 l3_10 hf
            · have hf := opt_neg c14 hf
              exact H49 at__10 value_10 l3_10 hf
  show gW X Q 0 0 ((wM (x_y X) a thrown g saved hasSaved coef nodes nodeMany isDeep codes details levelMany given paper papered tape taped wrongAt at_ value readPlace readValue readEpoch)) [(0, .ref (a 0)), (1, .int p0), (2, .int p1)] [] 0
  refine g_aload_n C 0 dX11_readsNumber_0 rfl ?_
  refine g_get C 0 17 rfl rfl wiX11 (by decide) mw_6_200 rfl rfl dX11_readsNumber_1 ?_
  refine g_istore_n C (lv' := [(3, .int at_), (0, .ref (a 0)), (1, .int p0), (2, .int p1)]) dX11_readsNumber_4 (g_nlt hn rfl) rfl ?_
  refine g_aload_n C 1 dX11_readsNumber_5 rfl ?_
  refine g_iconst C (v := 0) dX11_readsNumber_6 (by decide) ?_
  refine g_put C (ws' := (wM (x_y X) a thrown g saved hasSaved coef nodes nodeMany isDeep codes details levelMany given paper papered tape taped wrongAt at_ 0 readPlace readValue readEpoch)) 0 18 rfl rfl wiX11 (by decide) tyX11_ok nmX11 mw_6_201 rfl rfl rfl rfl (Nat.le_of_ble_eq_true rfl) rfl dX11_readsNumber_7 ?_
  refine gW.locals [1, 2, 3, 0] rfl ?_
  exact H10 1000 at_ 0 at_ hf
/-! X11_readsShare -/
theorem hd_X11_readsShare : yX11_readsShare.cls ≠ "java/lang/invoke/MethodHandle" ∧ yX11_readsShare.cls ≠ "java/lang/invoke/VarHandle" ∧ (parseMethodDescriptor yX11_readsShare.desc).map (fun d => d.parameters.length) = some 0 := by decide +kernel
def F_X11_readsShare_L40   (at__40 : Int32) (value_40 : Int32) (readPlace_40 : Int32) (readValue_40 : Int32) (readEpoch_40 : Int32) : Option (Int32 × Int32 × Int32 × Int32 × Int32 × Int32) := some (0, at__40, value_40, readPlace_40, readValue_40, readEpoch_40)
def F_X11_readsShare_L70   (at__70 : Int32) (value_70 : Int32) (readPlace_70 : Int32) (readValue_70 : Int32) (readEpoch_70 : Int32) : Option (Int32 × Int32 × Int32 × Int32 × Int32 × Int32) := some (0, at__70, value_70, readPlace_70, readValue_70, readEpoch_70)
def F_X11_readsShare_L130   (at__130 : Int32) (value_130 : Int32) (readPlace_130 : Int32) (readValue_130 : Int32) (readEpoch_130 : Int32) (s0_130 : Int32) : Option (Int32 × Int32 × Int32 × Int32 × Int32 × Int32) := gg (gnar .boolean s0_130) (some (s0_130, at__130, value_130, readPlace_130, readValue_130, readEpoch_130))
def F_X11_readsShare_L129   (at__129 : Int32) (value_129 : Int32) (readPlace_129 : Int32) (readValue_129 : Int32) (readEpoch_129 : Int32) : Option (Int32 × Int32 × Int32 × Int32 × Int32 × Int32) := F_X11_readsShare_L130 at__129 value_129 readPlace_129 readValue_129 readEpoch_129 0
def F_X11_readsShare (tape : Nat → Int32) (taped : Int32) (at_ : Int32) (value : Int32) (readPlace : Int32) (readValue : Int32) (readEpoch : Int32) : Option (Int32 × Int32 × Int32 × Int32 × Int32 × Int32) := (F_X11_readsNumber tape taped at_ value 1 24).bind fun v1 => if v1.1 = 0 then (some (0, v1.2.1, v1.2.2, readPlace, readValue, readEpoch)) else ((F_X11_eats tape taped v1.2.1 58).bind fun v4 => if v4.1 = 0 then (F_X11_readsShare_L40 v4.2 v1.2.2 v1.2.2 readValue readEpoch) else ((F_X11_readsNumber tape taped v4.2 v1.2.2 0 1018).bind fun v7 => if v7.1 = 0 then (F_X11_readsShare_L40 v7.2.1 v7.2.2 v1.2.2 readValue readEpoch) else ((F_X11_eats tape taped v7.2.1 64).bind fun v10 => if v10.1 = 0 then (F_X11_readsShare_L70 v10.2 v7.2.2 v1.2.2 v7.2.2 readEpoch) else ((F_X11_readsNumber tape taped v10.2 v7.2.2 1 9999).bind fun v13 => if v13.1 = 0 then (F_X11_readsShare_L70 v13.2.1 v13.2.2 v1.2.2 v7.2.2 readEpoch) else ((F_X11_eats tape taped v13.2.1 35).bind fun v16 => if v16.1 = 0 then (F_X11_readsShare_L129 v16.2 v13.2.2 v1.2.2 v7.2.2 v13.2.2) else ((F_X11_lastDigit v1.2.2 v7.2.2 v13.2.2).bind fun v20 => (F_X11_eats tape taped v16.2 ((48 : Int32) + v20)).bind fun v22 => if v22.1 = 0 then (F_X11_readsShare_L129 v22.2 v13.2.2 v1.2.2 v7.2.2 v13.2.2) else (if v22.2 = taped then (F_X11_readsShare_L130 v22.2 v13.2.2 v1.2.2 v7.2.2 v13.2.2 1) else (F_X11_readsShare_L129 v22.2 v13.2.2 v1.2.2 v7.2.2 v13.2.2))))))))
set_option maxRecDepth 100000 in
set_option maxHeartbeats 4000000 in
theorem c_X11_readsShare {l : Launch} {D : va_G} {cy : Nat → ClassId} {a : Nat → Nat} {thrown : Int32} {g : Nat → Int32} {saved : Nat → Int32} {hasSaved : Int32} {coef : Nat → Int32} {nodes : Nat → Int32} {nodeMany : Int32} {isDeep : Int32} {codes : Nat → Int32} {details : Nat → Int32} {levelMany : Int32} {given : Nat → Int32} {paper : Nat → Int32} {papered : Int32} {tape : Nat → Int32} {taped : Int32} {wrongAt : Int32} {at_ : Int32} {value : Int32} {readPlace : Int32} {readValue : Int32} {readEpoch : Int32}   {val : Int32 × Int32 × Int32 × Int32 × Int32 × Int32} (hf : F_X11_readsShare tape taped at_ value readPlace readValue readEpoch = some val) : gCt l D cy yX11_readsShare cX11_readsShare 1 (some .boolean) 2 45 0 0 [.ref (a 0)] [] ((wM cy a thrown g saved hasSaved coef nodes nodeMany isDeep codes details levelMany given paper papered tape taped wrongAt at_ value readPlace readValue readEpoch)) 0 (fun _ : Unit => some (.int val.1)) (fun _ => (wM cy a thrown g saved hasSaved coef nodes nodeMany isDeep codes details levelMany given paper papered tape taped wrongAt val.2.1 val.2.2.1 val.2.2.2.1 val.2.2.2.2.1 val.2.2.2.2.2)) := by
  refine g_begin (by decide +kernel) (Nat.le_of_ble_eq_true rfl) ?_
  intro X Q hl hR hD hy hro hn C hin E
  subst hl; subst hD; subst hy
  replace C : gC X "SecretVaultModel" cX11_readsShare (some .boolean) := C
  unfold F_X11_readsShare at hf
  have H40 : ∀ (at__40 : Int32) (value_40 : Int32) (readPlace_40 : Int32) (readValue_40 : Int32) (readEpoch_40 : Int32), F_X11_readsShare_L40 at__40 value_40 readPlace_40 readValue_40 readEpoch_40 = some val → gW X Q 0 0 ((wM (x_y X) a thrown g saved hasSaved coef nodes nodeMany isDeep codes details levelMany given paper papered tape taped wrongAt at__40 value_40 readPlace_40 readValue_40 readEpoch_40)) [(0, .ref (a 0))] [] 40 := by
    intro at__40 value_40 readPlace_40 readValue_40 readEpoch_40 hf
    unfold F_X11_readsShare_L40 at hf
    refine g_iconst C (v := 0) dX11_readsShare_40 (by decide) ?_
    obtain rfl := Option.some.inj hf
    exact g_zret C E () rfl dX11_readsShare_41 rfl rfl rfl (Nat.le_of_ble_eq_true rfl) (Nat.le_of_ble_eq_true rfl)
  have H70 : ∀ (at__70 : Int32) (value_70 : Int32) (readPlace_70 : Int32) (readValue_70 : Int32) (readEpoch_70 : Int32), F_X11_readsShare_L70 at__70 value_70 readPlace_70 readValue_70 readEpoch_70 = some val → gW X Q 0 0 ((wM (x_y X) a thrown g saved hasSaved coef nodes nodeMany isDeep codes details levelMany given paper papered tape taped wrongAt at__70 value_70 readPlace_70 readValue_70 readEpoch_70)) [(0, .ref (a 0))] [] 70 := by
    intro at__70 value_70 readPlace_70 readValue_70 readEpoch_70 hf
    unfold F_X11_readsShare_L70 at hf
    refine g_iconst C (v := 0) dX11_readsShare_70 (by decide) ?_
    obtain rfl := Option.some.inj hf
    exact g_zret C E () rfl dX11_readsShare_71 rfl rfl rfl (Nat.le_of_ble_eq_true rfl) (Nat.le_of_ble_eq_true rfl)
  have H130 : ∀ (at__130 : Int32) (value_130 : Int32) (readPlace_130 : Int32) (readValue_130 : Int32) (readEpoch_130 : Int32) (s0_130 : Int32), F_X11_readsShare_L130 at__130 value_130 readPlace_130 readValue_130 readEpoch_130 s0_130 = some val → gW X Q 0 0 ((wM (x_y X) a thrown g saved hasSaved coef nodes nodeMany isDeep codes details levelMany given paper papered tape taped wrongAt at__130 value_130 readPlace_130 readValue_130 readEpoch_130)) [(0, .ref (a 0))] [.int s0_130] 130 := by
    intro at__130 value_130 readPlace_130 readValue_130 readEpoch_130 s0_130 hf
    unfold F_X11_readsShare_L130 at hf
    obtain ⟨c19, hf⟩ := gg_of hf
    obtain rfl := Option.some.inj hf
    exact g_zret C E () (gnar_of c19) dX11_readsShare_130 rfl rfl rfl (Nat.le_of_ble_eq_true rfl) (Nat.le_of_ble_eq_true rfl)
  have H129 : ∀ (at__129 : Int32) (value_129 : Int32) (readPlace_129 : Int32) (readValue_129 : Int32) (readEpoch_129 : Int32), F_X11_readsShare_L129 at__129 value_129 readPlace_129 readValue_129 readEpoch_129 = some val → gW X Q 0 0 ((wM (x_y X) a thrown g saved hasSaved coef nodes nodeMany isDeep codes details levelMany given paper papered tape taped wrongAt at__129 value_129 readPlace_129 readValue_129 readEpoch_129)) [(0, .ref (a 0))] [] 129 := by
    intro at__129 value_129 readPlace_129 readValue_129 readEpoch_129 hf
    unfold F_X11_readsShare_L129 at hf
    refine g_iconst C (v := 0) dX11_readsShare_129 (by decide) ?_
    exact H130 at__129 value_129 readPlace_129 readValue_129 readEpoch_129 0 hf
  show gW X Q 0 0 ((wM (x_y X) a thrown g saved hasSaved coef nodes nodeMany isDeep codes details levelMany given paper papered tape taped wrongAt at_ value readPlace readValue readEpoch)) [(0, .ref (a 0))] [] 0
  refine g_aload_n C 0 dX11_readsShare_0 rfl ?_
  refine g_iconst C (v := 1) dX11_readsShare_1 (by decide) ?_
  refine g_bipush C (v := 24) dX11_readsShare_2 (by decide) ?_
  obtain ⟨v1, h2, hf⟩ := opt_bind hf
  refine g_callV C (c_X11_readsNumber (l := x_l X) (D := x_D X) (cy := x_y X) (a := a) (thrown := thrown) (g := g) (saved := saved) (hasSaved := hasSaved) (coef := coef) (nodes := nodes) (nodeMany := nodeMany) (isDeep := isDeep) (codes := codes) (details := details) (levelMany := levelMany) (given := given) (paper := paper) (papered := papered) (tape := tape) (taped := taped) (wrongAt := wrongAt) (at_ := at_) (value := value) (readPlace := readPlace) (readValue := readValue) (readEpoch := readEpoch) (p0 := 1) (p1 := 24) h2) (As := [.int 1, .int 24]) (rest := []) (wr := []) (ws' := fun _ => (wM (x_y X) a thrown g saved hasSaved coef nodes nodeMany isDeep codes details levelMany given paper papered tape taped wrongAt v1.2.1 v1.2.2 readPlace readValue readEpoch)) (st' := fun _ => [.int v1.1]) (ci := 12) 2 0 ⟨_, rfl⟩ rfl rfl mw_8_33 mw_1_9 mw_8_30 mw_8_32 mp_64 hd_X11_readsNumber rfl (g_rm hR rfl rfl) [0, 1, 2, 3, 4, 5, 6, 7, 8, 9] [] [0, 1, 2, 3, 4, 5, 6, 7, 8, 9] ⟨rfl, rfl, rfl, rfl, by decide, gRoIn_0, rfl, fun _ => rfl⟩ rfl (Nat.le_of_ble_eq_true rfl) dX11_readsShare_4 (g_rc hR (Nat.le_of_ble_eq_true rfl) (Nat.le_of_ble_eq_true rfl)) (ck' := 0) (sk' := 0) rfl rfl (fun _ => rfl) (fun _ _ => ?_) (fun _ hx => absurd rfl hx)
  refine g_if_ne C 12 dX11_readsShare_7 (by decide) (fun c3 => ?_) (fun c3 => ?_)
  · have hf := opt_neg c3 hf
    refine g_aload_n C 0 dX11_readsShare_12 rfl ?_
    refine g_aload_n C 0 dX11_readsShare_13 rfl ?_
    refine g_get C 0 18 rfl rfl wiX11 (by decide) mw_6_201 rfl rfl dX11_readsShare_14 ?_
    refine g_put C (ws' := (wM (x_y X) a thrown g saved hasSaved coef nodes nodeMany isDeep codes details levelMany given paper papered tape taped wrongAt v1.2.1 v1.2.2 v1.2.2 readValue readEpoch)) 0 19 rfl rfl wiX11 (by decide) tyX11_ok nmX11 mw_6_202 rfl rfl rfl rfl (Nat.le_of_ble_eq_true rfl) rfl dX11_readsShare_17 ?_
    refine g_aload_n C 0 dX11_readsShare_20 rfl ?_
    refine g_bipush C (v := 58) dX11_readsShare_21 (by decide) ?_
    obtain ⟨v4, h5, hf⟩ := opt_bind hf
    refine g_callV C (c_X11_eats (l := x_l X) (D := x_D X) (cy := x_y X) (a := a) (thrown := thrown) (g := g) (saved := saved) (hasSaved := hasSaved) (coef := coef) (nodes := nodes) (nodeMany := nodeMany) (isDeep := isDeep) (codes := codes) (details := details) (levelMany := levelMany) (given := given) (paper := paper) (papered := papered) (tape := tape) (taped := taped) (wrongAt := wrongAt) (at_ := v1.2.1) (value := v1.2.2) (readPlace := v1.2.2) (readValue := readValue) (readEpoch := readEpoch) (p0 := 58) h5) (As := [.int 58]) (rest := []) (wr := []) (ws' := fun _ => (wM (x_y X) a thrown g saved hasSaved coef nodes nodeMany isDeep codes details levelMany given paper papered tape taped wrongAt v4.2 v1.2.2 v1.2.2 readValue readEpoch)) (st' := fun _ => [.int v4.1]) (ci := 12) 1 0 ⟨_, rfl⟩ rfl rfl mw_8_41 mw_1_9 mw_8_38 mw_8_40 mp_66 hd_X11_eats rfl (g_rm hR rfl rfl) [0, 1, 2, 3, 4, 5, 6, 7, 8, 9] [] [0, 1, 2, 3, 4, 5, 6, 7, 8, 9] ⟨rfl, rfl, rfl, rfl, by decide, gRoIn_0, rfl, fun _ => rfl⟩ rfl (Nat.le_of_ble_eq_true rfl) dX11_readsShare_23 (g_rc hR (Nat.le_of_ble_eq_true rfl) (Nat.le_of_ble_eq_true rfl)) (ck' := 0) (sk' := 0) rfl rfl (fun _ => rfl) (fun _ _ => ?_) (fun _ hx => absurd rfl hx)
    refine g_if_eq C 40 dX11_readsShare_26 (by decide) (fun c6 => ?_) (fun c6 => ?_)
    · have hf := opt_pos c6 hf
      exact H40 v4.2 v1.2.2 v1.2.2 readValue readEpoch hf
    · have hf := opt_neg c6 hf
      refine g_aload_n C 0 dX11_readsShare_29 rfl ?_
      refine g_iconst C (v := 0) dX11_readsShare_30 (by decide) ?_
      refine g_sipush C (v := 1018) dX11_readsShare_31 (by decide) ?_
      obtain ⟨v7, h8, hf⟩ := opt_bind hf
      refine g_callV C (c_X11_readsNumber (l := x_l X) (D := x_D X) (cy := x_y X) (a := a) (thrown := thrown) (g := g) (saved := saved) (hasSaved := hasSaved) (coef := coef) (nodes := nodes) (nodeMany := nodeMany) (isDeep := isDeep) (codes := codes) (details := details) (levelMany := levelMany) (given := given) (paper := paper) (papered := papered) (tape := tape) (taped := taped) (wrongAt := wrongAt) (at_ := v4.2) (value := v1.2.2) (readPlace := v1.2.2) (readValue := readValue) (readEpoch := readEpoch) (p0 := 0) (p1 := 1018) h8) (As := [.int 0, .int 1018]) (rest := []) (wr := []) (ws' := fun _ => (wM (x_y X) a thrown g saved hasSaved coef nodes nodeMany isDeep codes details levelMany given paper papered tape taped wrongAt v7.2.1 v7.2.2 v1.2.2 readValue readEpoch)) (st' := fun _ => [.int v7.1]) (ci := 12) 2 0 ⟨_, rfl⟩ rfl rfl mw_8_33 mw_1_9 mw_8_30 mw_8_32 mp_64 hd_X11_readsNumber rfl (g_rm hR rfl rfl) [0, 1, 2, 3, 4, 5, 6, 7, 8, 9] [] [0, 1, 2, 3, 4, 5, 6, 7, 8, 9] ⟨rfl, rfl, rfl, rfl, by decide, gRoIn_0, rfl, fun _ => rfl⟩ rfl (Nat.le_of_ble_eq_true rfl) dX11_readsShare_34 (g_rc hR (Nat.le_of_ble_eq_true rfl) (Nat.le_of_ble_eq_true rfl)) (ck' := 0) (sk' := 0) rfl rfl (fun _ => rfl) (fun _ _ => ?_) (fun _ hx => absurd rfl hx)
      refine g_if_ne C 42 dX11_readsShare_37 (by decide) (fun c9 => ?_) (fun c9 => ?_)
      · have hf := opt_neg c9 hf
        refine g_aload_n C 0 dX11_readsShare_42 rfl ?_
        refine g_aload_n C 0 dX11_readsShare_43 rfl ?_
        refine g_get C 0 18 rfl rfl wiX11 (by decide) mw_6_201 rfl rfl dX11_readsShare_44 ?_
        refine g_put C (ws' := (wM (x_y X) a thrown g saved hasSaved coef nodes nodeMany isDeep codes details levelMany given paper papered tape taped wrongAt v7.2.1 v7.2.2 v1.2.2 v7.2.2 readEpoch)) 0 20 rfl rfl wiX11 (by decide) tyX11_ok nmX11 mw_6_203 rfl rfl rfl rfl (Nat.le_of_ble_eq_true rfl) rfl dX11_readsShare_47 ?_
        refine g_aload_n C 0 dX11_readsShare_50 rfl ?_
        refine g_bipush C (v := 64) dX11_readsShare_51 (by decide) ?_
        obtain ⟨v10, h11, hf⟩ := opt_bind hf
        refine g_callV C (c_X11_eats (l := x_l X) (D := x_D X) (cy := x_y X) (a := a) (thrown := thrown) (g := g) (saved := saved) (hasSaved := hasSaved) (coef := coef) (nodes := nodes) (nodeMany := nodeMany) (isDeep := isDeep) (codes := codes) (details := details) (levelMany := levelMany) (given := given) (paper := paper) (papered := papered) (tape := tape) (taped := taped) (wrongAt := wrongAt) (at_ := v7.2.1) (value := v7.2.2) (readPlace := v1.2.2) (readValue := v7.2.2) (readEpoch := readEpoch) (p0 := 64) h11) (As := [.int 64]) (rest := []) (wr := []) (ws' := fun _ => (wM (x_y X) a thrown g saved hasSaved coef nodes nodeMany isDeep codes details levelMany given paper papered tape taped wrongAt v10.2 v7.2.2 v1.2.2 v7.2.2 readEpoch)) (st' := fun _ => [.int v10.1]) (ci := 12) 1 0 ⟨_, rfl⟩ rfl rfl mw_8_41 mw_1_9 mw_8_38 mw_8_40 mp_66 hd_X11_eats rfl (g_rm hR rfl rfl) [0, 1, 2, 3, 4, 5, 6, 7, 8, 9] [] [0, 1, 2, 3, 4, 5, 6, 7, 8, 9] ⟨rfl, rfl, rfl, rfl, by decide, gRoIn_0, rfl, fun _ => rfl⟩ rfl (Nat.le_of_ble_eq_true rfl) dX11_readsShare_53 (g_rc hR (Nat.le_of_ble_eq_true rfl) (Nat.le_of_ble_eq_true rfl)) (ck' := 0) (sk' := 0) rfl rfl (fun _ => rfl) (fun _ _ => ?_) (fun _ hx => absurd rfl hx)
        refine g_if_eq C 70 dX11_readsShare_56 (by decide) (fun c12 => ?_) (fun c12 => ?_)
        · have hf := opt_pos c12 hf
          exact H70 v10.2 v7.2.2 v1.2.2 v7.2.2 readEpoch hf
        · have hf := opt_neg c12 hf
          refine g_aload_n C 0 dX11_readsShare_59 rfl ?_
          refine g_iconst C (v := 1) dX11_readsShare_60 (by decide) ?_
          refine g_sipush C (v := 9999) dX11_readsShare_61 (by decide) ?_
          obtain ⟨v13, h14, hf⟩ := opt_bind hf
          refine g_callV C (c_X11_readsNumber (l := x_l X) (D := x_D X) (cy := x_y X) (a := a) (thrown := thrown) (g := g) (saved := saved) (hasSaved := hasSaved) (coef := coef) (nodes := nodes) (nodeMany := nodeMany) (isDeep := isDeep) (codes := codes) (details := details) (levelMany := levelMany) (given := given) (paper := paper) (papered := papered) (tape := tape) (taped := taped) (wrongAt := wrongAt) (at_ := v10.2) (value := v7.2.2) (readPlace := v1.2.2) (readValue := v7.2.2) (readEpoch := readEpoch) (p0 := 1) (p1 := 9999) h14) (As := [.int 1, .int 9999]) (rest := []) (wr := []) (ws' := fun _ => (wM (x_y X) a thrown g saved hasSaved coef nodes nodeMany isDeep codes details levelMany given paper papered tape taped wrongAt v13.2.1 v13.2.2 v1.2.2 v7.2.2 readEpoch)) (st' := fun _ => [.int v13.1]) (ci := 12) 2 0 ⟨_, rfl⟩ rfl rfl mw_8_33 mw_1_9 mw_8_30 mw_8_32 mp_64 hd_X11_readsNumber rfl (g_rm hR rfl rfl) [0, 1, 2, 3, 4, 5, 6, 7, 8, 9] [] [0, 1, 2, 3, 4, 5, 6, 7, 8, 9] ⟨rfl, rfl, rfl, rfl, by decide, gRoIn_0, rfl, fun _ => rfl⟩ rfl (Nat.le_of_ble_eq_true rfl) dX11_readsShare_64 (g_rc hR (Nat.le_of_ble_eq_true rfl) (Nat.le_of_ble_eq_true rfl)) (ck' := 0) (sk' := 0) rfl rfl (fun _ => rfl) (fun _ _ => ?_) (fun _ hx => absurd rfl hx)
          refine g_if_ne C 72 dX11_readsShare_67 (by decide) (fun c15 => ?_) (fun c15 => ?_)
          · have hf := opt_neg c15 hf
            refine g_aload_n C 0 dX11_readsShare_72 rfl ?_
            refine g_aload_n C 0 dX11_readsShare_73 rfl ?_
            refine g_get C 0 18 rfl rfl wiX11 (by decide) mw_6_201 rfl rfl dX11_readsShare_74 ?_
            refine g_put C (ws' := (wM (x_y X) a thrown g saved hasSaved coef nodes nodeMany isDeep codes details levelMany given paper papered tape taped wrongAt v13.2.1 v13.2.2 v1.2.2 v7.2.2 v13.2.2)) 0 21 rfl rfl wiX11 (by decide) tyX11_ok nmX11 mw_6_204 rfl rfl rfl rfl (Nat.le_of_ble_eq_true rfl) rfl dX11_readsShare_77 ?_
            refine g_aload_n C 0 dX11_readsShare_80 rfl ?_
            refine g_bipush C (v := 35) dX11_readsShare_81 (by decide) ?_
            obtain ⟨v16, h17, hf⟩ := opt_bind hf
            refine g_callV C (c_X11_eats (l := x_l X) (D := x_D X) (cy := x_y X) (a := a) (thrown := thrown) (g := g) (saved := saved) (hasSaved := hasSaved) (coef := coef) (nodes := nodes) (nodeMany := nodeMany) (isDeep := isDeep) (codes := codes) (details := details) (levelMany := levelMany) (given := given) (paper := paper) (papered := papered) (tape := tape) (taped := taped) (wrongAt := wrongAt) (at_ := v13.2.1) (value := v13.2.2) (readPlace := v1.2.2) (readValue := v7.2.2) (readEpoch := v13.2.2) (p0 := 35) h17) (As := [.int 35]) (rest := []) (wr := []) (ws' := fun _ => (wM (x_y X) a thrown g saved hasSaved coef nodes nodeMany isDeep codes details levelMany given paper papered tape taped wrongAt v16.2 v13.2.2 v1.2.2 v7.2.2 v13.2.2)) (st' := fun _ => [.int v16.1]) (ci := 12) 1 0 ⟨_, rfl⟩ rfl rfl mw_8_41 mw_1_9 mw_8_38 mw_8_40 mp_66 hd_X11_eats rfl (g_rm hR rfl rfl) [0, 1, 2, 3, 4, 5, 6, 7, 8, 9] [] [0, 1, 2, 3, 4, 5, 6, 7, 8, 9] ⟨rfl, rfl, rfl, rfl, by decide, gRoIn_0, rfl, fun _ => rfl⟩ rfl (Nat.le_of_ble_eq_true rfl) dX11_readsShare_83 (g_rc hR (Nat.le_of_ble_eq_true rfl) (Nat.le_of_ble_eq_true rfl)) (ck' := 0) (sk' := 0) rfl rfl (fun _ => rfl) (fun _ _ => ?_) (fun _ hx => absurd rfl hx)
            refine g_if_eq C 129 dX11_readsShare_86 (by decide) (fun c18 => ?_) (fun c18 => ?_)
            · have hf := opt_pos c18 hf
              exact H129 v16.2 v13.2.2 v1.2.2 v7.2.2 v13.2.2 hf
            · have hf := opt_neg c18 hf
              refine g_aload_n C 0 dX11_readsShare_89 rfl ?_
              refine g_bipush C (v := 48) dX11_readsShare_90 (by decide) ?_
              refine g_aload_n C 0 dX11_readsShare_92 rfl ?_
              refine g_get C 0 19 rfl rfl wiX11 (by decide) mw_6_202 rfl rfl dX11_readsShare_93 ?_
              refine g_aload_n C 0 dX11_readsShare_96 rfl ?_
              refine g_get C 0 20 rfl rfl wiX11 (by decide) mw_6_203 rfl rfl dX11_readsShare_97 ?_
              refine g_aload_n C 0 dX11_readsShare_100 rfl ?_
              refine g_get C 0 21 rfl rfl wiX11 (by decide) mw_6_204 rfl rfl dX11_readsShare_101 ?_
              obtain ⟨v20, h21, hf⟩ := opt_bind hf
              refine g_callS C (c_X11_lastDigit (l := x_l X) (D := x_D X) (cy := x_y X) (p0 := v1.2.2) (p1 := v7.2.2) (p2 := v13.2.2) h21) (As := [.int v1.2.2, .int v7.2.2, .int v13.2.2]) (rest := [.int 48, .ref (a 0)]) (wr := (wM (x_y X) a thrown g saved hasSaved coef nodes nodeMany isDeep codes details levelMany given paper papered tape taped wrongAt v16.2 v13.2.2 v1.2.2 v7.2.2 v13.2.2)) (ws' := fun _ => (wM (x_y X) a thrown g saved hasSaved coef nodes nodeMany isDeep codes details levelMany given paper papered tape taped wrongAt v16.2 v13.2.2 v1.2.2 v7.2.2 v13.2.2)) (st' := fun _ => [.int v20, .int 48, .ref (a 0)]) 3 mw_8_13 mw_1_9 mw_8_11 mw_8_12 hd_X11_lastDigit rfl (g_rm hR rfl rfl) [] [0, 1, 2, 3, 4, 5, 6, 7, 8, 9] [0, 1, 2, 3, 4, 5, 6, 7, 8, 9] ⟨rfl, rfl, rfl, rfl, by decide, gRoIn_0, rfl, fun _ => rfl⟩ rfl (Nat.le_of_ble_eq_true rfl) dX11_readsShare_104 (g_rc hR (Nat.le_of_ble_eq_true rfl) (Nat.le_of_ble_eq_true rfl)) (ck' := 0) (sk' := 0) rfl rfl (fun _ => rfl) (fun _ _ => ?_) (fun _ hx => absurd rfl hx)
              refine g_iadd C dX11_readsShare_107 ?_
              obtain ⟨v22, h23, hf⟩ := opt_bind hf
              refine g_callV C (c_X11_eats (l := x_l X) (D := x_D X) (cy := x_y X) (a := a) (thrown := thrown) (g := g) (saved := saved) (hasSaved := hasSaved) (coef := coef) (nodes := nodes) (nodeMany := nodeMany) (isDeep := isDeep) (codes := codes) (details := details) (levelMany := levelMany) (given := given) (paper := paper) (papered := papered) (tape := tape) (taped := taped) (wrongAt := wrongAt) (at_ := v16.2) (value := v13.2.2) (readPlace := v1.2.2) (readValue := v7.2.2) (readEpoch := v13.2.2) (p0 := (48 : Int32) + v20) h23) (As := [.int ((48 : Int32) + v20)]) (rest := []) (wr := []) (ws' := fun _ => (wM (x_y X) a thrown g saved hasSaved coef nodes nodeMany isDeep codes details levelMany given paper papered tape taped wrongAt v22.2 v13.2.2 v1.2.2 v7.2.2 v13.2.2)) (st' := fun _ => [.int v22.1]) (ci := 12) 1 0 ⟨_, rfl⟩ rfl rfl mw_8_41 mw_1_9 mw_8_38 mw_8_40 mp_66 hd_X11_eats rfl (g_rm hR rfl rfl) [0, 1, 2, 3, 4, 5, 6, 7, 8, 9] [] [0, 1, 2, 3, 4, 5, 6, 7, 8, 9] ⟨rfl, rfl, rfl, rfl, by decide, gRoIn_0, rfl, fun _ => rfl⟩ rfl (Nat.le_of_ble_eq_true rfl) dX11_readsShare_108 (g_rc hR (Nat.le_of_ble_eq_true rfl) (Nat.le_of_ble_eq_true rfl)) (ck' := 0) (sk' := 0) rfl rfl (fun _ => rfl) (fun _ _ => ?_) (fun _ hx => absurd rfl hx)
              refine g_if_eq C 129 dX11_readsShare_111 (by decide) (fun c24 => ?_) (fun c24 => ?_)
              · have hf := opt_pos c24 hf
                exact H129 v22.2 v13.2.2 v1.2.2 v7.2.2 v13.2.2 hf
              · have hf := opt_neg c24 hf
                refine g_aload_n C 0 dX11_readsShare_114 rfl ?_
                refine g_get C 0 17 rfl rfl wiX11 (by decide) mw_6_200 rfl rfl dX11_readsShare_115 ?_
                refine g_aload_n C 0 dX11_readsShare_118 rfl ?_
                refine g_get C 0 15 rfl rfl wiX11 (by decide) mw_6_198 rfl rfl dX11_readsShare_119 ?_
                refine g_icmp_ne C 129 dX11_readsShare_122 (by decide) (fun c25 => ?_) (fun c25 => ?_)
                · have hf := opt_neg c25 hf
                  exact H129 v22.2 v13.2.2 v1.2.2 v7.2.2 v13.2.2 hf
                · have hf := opt_pos c25 hf
                  refine g_iconst C (v := 1) dX11_readsShare_125 (by decide) ?_
                  refine g_goto C 130 dX11_readsShare_126 (by decide) ?_
                  exact H130 v22.2 v13.2.2 v1.2.2 v7.2.2 v13.2.2 1 hf
          · have hf := opt_pos c15 hf
            exact H70 v13.2.1 v13.2.2 v1.2.2 v7.2.2 readEpoch hf
      · have hf := opt_pos c9 hf
        exact H40 v7.2.1 v7.2.2 v1.2.2 readValue readEpoch hf
  · have hf := opt_pos c3 hf
    refine g_iconst C (v := 0) dX11_readsShare_10 (by decide) ?_
    obtain rfl := Option.some.inj hf
    exact g_zret C E () rfl dX11_readsShare_11 rfl rfl rfl (Nat.le_of_ble_eq_true rfl) (Nat.le_of_ble_eq_true rfl)
/-! X11_importShare -/
theorem hd_X11_importShare : yX11_importShare.cls ≠ "java/lang/invoke/MethodHandle" ∧ yX11_importShare.cls ≠ "java/lang/invoke/VarHandle" ∧ (parseMethodDescriptor yX11_importShare.desc).map (fun d => d.parameters.length) = some 1 := by decide +kernel
def F_X11_importShare_L39 (p0 : Int32)  (thrown_39 : Int32) (g_39 : Nat → Int32) (taped_39 : Int32) (wrongAt_39 : Int32) (at__39 : Int32) (value_39 : Int32) (readPlace_39 : Int32) (readValue_39 : Int32) (readEpoch_39 : Int32) (l3_39 : Int32) (s0_39 : Int32) : Option (Int32 × Int32 × (Nat → Int32) × Int32 × Int32 × Int32 × Int32 × Int32 × Int32 × Int32) := if l3_39 = 0 then ((F_X11_fails thrown_39 3).bind fun v12 => some (v12.1, v12.2, g_39, 0, s0_39, at__39, value_39, readPlace_39, readValue_39, readEpoch_39)) else ((F_X11_setsShare g_39 p0 readPlace_39 readValue_39 readEpoch_39).bind fun v8 => (F_X11_done thrown_39 readPlace_39).bind fun v10 => some (v10.1, v10.2, v8, 0, s0_39, at__39, value_39, readPlace_39, readValue_39, readEpoch_39))
def F_X11_importShare (thrown : Int32) (g : Nat → Int32) (tape : Nat → Int32) (taped : Int32) (wrongAt : Int32) (at_ : Int32) (value : Int32) (readPlace : Int32) (readValue : Int32) (readEpoch : Int32) (p0 : Int32) : Option (Int32 × Int32 × (Nat → Int32) × Int32 × Int32 × Int32 × Int32 × Int32 × Int32 × Int32) := (F_X11_lacks g p0).bind fun v1 => if v1 = 0 then ((F_X11_readsShare tape taped 0 value readPlace readValue readEpoch).bind fun v4 => if v4.1 = 0 then (F_X11_importShare_L39 p0 thrown g taped wrongAt v4.2.1 v4.2.2.1 v4.2.2.2.1 v4.2.2.2.2.1 v4.2.2.2.2.2 v4.1 v4.2.1) else (F_X11_importShare_L39 p0 thrown g taped wrongAt v4.2.1 v4.2.2.1 v4.2.2.2.1 v4.2.2.2.2.1 v4.2.2.2.2.2 v4.1 (-1))) else ((F_X11_fails thrown v1).bind fun v14 => some (v14.1, v14.2, g, taped, wrongAt, at_, value, readPlace, readValue, readEpoch))
set_option maxRecDepth 100000 in
set_option maxHeartbeats 4000000 in
theorem c_X11_importShare {l : Launch} {D : va_G} {cy : Nat → ClassId} {a : Nat → Nat} {thrown : Int32} {g : Nat → Int32} {saved : Nat → Int32} {hasSaved : Int32} {coef : Nat → Int32} {nodes : Nat → Int32} {nodeMany : Int32} {isDeep : Int32} {codes : Nat → Int32} {details : Nat → Int32} {levelMany : Int32} {given : Nat → Int32} {paper : Nat → Int32} {papered : Int32} {tape : Nat → Int32} {taped : Int32} {wrongAt : Int32} {at_ : Int32} {value : Int32} {readPlace : Int32} {readValue : Int32} {readEpoch : Int32} {p0 : Int32}  {val : Int32 × Int32 × (Nat → Int32) × Int32 × Int32 × Int32 × Int32 × Int32 × Int32 × Int32} (hf : F_X11_importShare thrown g tape taped wrongAt at_ value readPlace readValue readEpoch p0 = some val) : gCt l D cy yX11_importShare cX11_importShare 4 (some .int) 3 65 0 0 [.ref (a 0), .int p0] [] ((wM cy a thrown g saved hasSaved coef nodes nodeMany isDeep codes details levelMany given paper papered tape taped wrongAt at_ value readPlace readValue readEpoch)) 0 (fun _ : Unit => some (.int val.1)) (fun _ => (wM cy a val.2.1 val.2.2.1 saved hasSaved coef nodes nodeMany isDeep codes details levelMany given paper papered tape val.2.2.2.1 val.2.2.2.2.1 val.2.2.2.2.2.1 val.2.2.2.2.2.2.1 val.2.2.2.2.2.2.2.1 val.2.2.2.2.2.2.2.2.1 val.2.2.2.2.2.2.2.2.2)) := by
  refine g_begin (by decide +kernel) (Nat.le_of_ble_eq_true rfl) ?_
  intro X Q hl hR hD hy hro hn C hin E
  subst hl; subst hD; subst hy
  replace C : gC X "SecretVaultModel" cX11_importShare (some .int) := C
  unfold F_X11_importShare at hf
  have H39 : ∀ (thrown_39 : Int32) (g_39 : Nat → Int32) (taped_39 : Int32) (wrongAt_39 : Int32) (at__39 : Int32) (value_39 : Int32) (readPlace_39 : Int32) (readValue_39 : Int32) (readEpoch_39 : Int32) (l3_39 : Int32) (s0_39 : Int32), F_X11_importShare_L39 p0 thrown_39 g_39 taped_39 wrongAt_39 at__39 value_39 readPlace_39 readValue_39 readEpoch_39 l3_39 s0_39 = some val → gW X Q 0 0 ((wM (x_y X) a thrown_39 g_39 saved hasSaved coef nodes nodeMany isDeep codes details levelMany given paper papered tape taped_39 wrongAt_39 at__39 value_39 readPlace_39 readValue_39 readEpoch_39)) [(0, .ref (a 0)), (1, .int p0), (3, .int l3_39)] [.int s0_39, .ref (a 0)] 39 := by
    intro thrown_39 g_39 taped_39 wrongAt_39 at__39 value_39 readPlace_39 readValue_39 readEpoch_39 l3_39 s0_39 hf
    unfold F_X11_importShare_L39 at hf
    refine g_put C (ws' := (wM (x_y X) a thrown_39 g_39 saved hasSaved coef nodes nodeMany isDeep codes details levelMany given paper papered tape taped_39 s0_39 at__39 value_39 readPlace_39 readValue_39 readEpoch_39)) 0 16 rfl rfl wiX11 (by decide) tyX11_ok nmX11 mw_6_199 rfl rfl rfl rfl (Nat.le_of_ble_eq_true rfl) rfl dX11_importShare_39 ?_
    refine g_aload_n C 0 dX11_importShare_42 rfl ?_
    refine g_iconst C (v := 0) dX11_importShare_43 (by decide) ?_
    refine g_put C (ws' := (wM (x_y X) a thrown_39 g_39 saved hasSaved coef nodes nodeMany isDeep codes details levelMany given paper papered tape 0 s0_39 at__39 value_39 readPlace_39 readValue_39 readEpoch_39)) 0 15 rfl rfl wiX11 (by decide) tyX11_ok nmX11 mw_6_198 rfl rfl rfl rfl (Nat.le_of_ble_eq_true rfl) rfl dX11_importShare_44 ?_
    refine g_iload_n C 2 dX11_importShare_47 rfl ?_
    refine g_if_ne C 57 dX11_importShare_48 (by decide) (fun c7 => ?_) (fun c7 => ?_)
    · have hf := opt_neg c7 hf
      refine g_aload_n C 0 dX11_importShare_57 rfl ?_
      refine g_iload_n C 1 dX11_importShare_58 rfl ?_
      refine g_aload_n C 0 dX11_importShare_59 rfl ?_
      refine g_get C 0 19 rfl rfl wiX11 (by decide) mw_6_202 rfl rfl dX11_importShare_60 ?_
      refine g_aload_n C 0 dX11_importShare_63 rfl ?_
      refine g_get C 0 20 rfl rfl wiX11 (by decide) mw_6_203 rfl rfl dX11_importShare_64 ?_
      refine g_aload_n C 0 dX11_importShare_67 rfl ?_
      refine g_get C 0 21 rfl rfl wiX11 (by decide) mw_6_204 rfl rfl dX11_importShare_68 ?_
      obtain ⟨v8, h9, hf⟩ := opt_bind hf
      refine g_callV C (c_X11_setsShare (l := x_l X) (D := x_D X) (cy := x_y X) (a := a) (thrown := thrown_39) (g := g_39) (saved := saved) (hasSaved := hasSaved) (coef := coef) (nodes := nodes) (nodeMany := nodeMany) (isDeep := isDeep) (codes := codes) (details := details) (levelMany := levelMany) (given := given) (paper := paper) (papered := papered) (tape := tape) (taped := 0) (wrongAt := s0_39) (at_ := at__39) (value := value_39) (readPlace := readPlace_39) (readValue := readValue_39) (readEpoch := readEpoch_39) (p0 := p0) (p1 := readPlace_39) (p2 := readValue_39) (p3 := readEpoch_39) h9) (As := [.int p0, .int readPlace_39, .int readValue_39, .int readEpoch_39]) (rest := []) (wr := []) (ws' := fun _ => (wM (x_y X) a thrown_39 v8 saved hasSaved coef nodes nodeMany isDeep codes details levelMany given paper papered tape 0 s0_39 at__39 value_39 readPlace_39 readValue_39 readEpoch_39)) (st' := fun _ => []) (ci := 12) 4 0 ⟨_, rfl⟩ rfl rfl mw_7_114 mw_1_9 mw_7_111 mw_7_113 mp_43 hd_X11_setsShare rfl (g_rm hR rfl rfl) [0, 1, 2, 3, 4, 5, 6, 7, 8, 9] [] [0, 1, 2, 3, 4, 5, 6, 7, 8, 9] ⟨rfl, rfl, rfl, rfl, by decide, gRoIn_0, rfl, fun _ => rfl⟩ rfl (Nat.le_of_ble_eq_true rfl) dX11_importShare_71 (g_rc hR (Nat.le_of_ble_eq_true rfl) (Nat.le_of_ble_eq_true rfl)) (ck' := 0) (sk' := 0) rfl rfl (fun _ => rfl) (fun _ _ => ?_) (fun _ hx => absurd rfl hx)
      refine g_aload_n C 0 dX11_importShare_74 rfl ?_
      refine g_aload_n C 0 dX11_importShare_75 rfl ?_
      refine g_get C 0 19 rfl rfl wiX11 (by decide) mw_6_202 rfl rfl dX11_importShare_76 ?_
      obtain ⟨v10, h11, hf⟩ := opt_bind hf
      refine g_callV C (c_X11_done (l := x_l X) (D := x_D X) (cy := x_y X) (a := a) (thrown := thrown_39) (g := v8) (saved := saved) (hasSaved := hasSaved) (coef := coef) (nodes := nodes) (nodeMany := nodeMany) (isDeep := isDeep) (codes := codes) (details := details) (levelMany := levelMany) (given := given) (paper := paper) (papered := papered) (tape := tape) (taped := 0) (wrongAt := s0_39) (at_ := at__39) (value := value_39) (readPlace := readPlace_39) (readValue := readValue_39) (readEpoch := readEpoch_39) (p0 := readPlace_39) h11) (As := [.int readPlace_39]) (rest := []) (wr := []) (ws' := fun _ => (wM (x_y X) a v10.2 v8 saved hasSaved coef nodes nodeMany isDeep codes details levelMany given paper papered tape 0 s0_39 at__39 value_39 readPlace_39 readValue_39 readEpoch_39)) (st' := fun _ => [.int v10.1]) (ci := 12) 1 0 ⟨_, rfl⟩ rfl rfl mw_7_22 mw_1_9 mw_7_19 mw_7_21 mp_29 hd_X11_done rfl (g_rm hR rfl rfl) [0, 1, 2, 3, 4, 5, 6, 7, 8, 9] [] [0, 1, 2, 3, 4, 5, 6, 7, 8, 9] ⟨rfl, rfl, rfl, rfl, by decide, gRoIn_0, rfl, fun _ => rfl⟩ rfl (Nat.le_of_ble_eq_true rfl) dX11_importShare_79 (g_rc hR (Nat.le_of_ble_eq_true rfl) (Nat.le_of_ble_eq_true rfl)) (ck' := 0) (sk' := 0) rfl rfl (fun _ => rfl) (fun _ _ => ?_) (fun _ hx => absurd rfl hx)
      obtain rfl := Option.some.inj hf
      exact g_iret C E () dX11_importShare_82 rfl rfl rfl (Nat.le_of_ble_eq_true rfl) (Nat.le_of_ble_eq_true rfl)
    · have hf := opt_pos c7 hf
      refine g_aload_n C 0 dX11_importShare_51 rfl ?_
      refine g_iconst C (v := 3) dX11_importShare_52 (by decide) ?_
      obtain ⟨v12, h13, hf⟩ := opt_bind hf
      refine g_callV C (c_X11_fails (l := x_l X) (D := x_D X) (cy := x_y X) (a := a) (thrown := thrown_39) (g := g_39) (saved := saved) (hasSaved := hasSaved) (coef := coef) (nodes := nodes) (nodeMany := nodeMany) (isDeep := isDeep) (codes := codes) (details := details) (levelMany := levelMany) (given := given) (paper := paper) (papered := papered) (tape := tape) (taped := 0) (wrongAt := s0_39) (at_ := at__39) (value := value_39) (readPlace := readPlace_39) (readValue := readValue_39) (readEpoch := readEpoch_39) (p0 := 3) h13) (As := [.int 3]) (rest := []) (wr := []) (ws' := fun _ => (wM (x_y X) a v12.2 g_39 saved hasSaved coef nodes nodeMany isDeep codes details levelMany given paper papered tape 0 s0_39 at__39 value_39 readPlace_39 readValue_39 readEpoch_39)) (st' := fun _ => [.int v12.1]) (ci := 12) 1 0 ⟨_, rfl⟩ rfl rfl mw_7_45 mw_1_9 mw_7_42 mw_7_44 mp_31 hd_X11_fails rfl (g_rm hR rfl rfl) [0, 1, 2, 3, 4, 5, 6, 7, 8, 9] [] [0, 1, 2, 3, 4, 5, 6, 7, 8, 9] ⟨rfl, rfl, rfl, rfl, by decide, gRoIn_0, rfl, fun _ => rfl⟩ rfl (Nat.le_of_ble_eq_true rfl) dX11_importShare_53 (g_rc hR (Nat.le_of_ble_eq_true rfl) (Nat.le_of_ble_eq_true rfl)) (ck' := 0) (sk' := 0) rfl rfl (fun _ => rfl) (fun _ _ => ?_) (fun _ hx => absurd rfl hx)
      obtain rfl := Option.some.inj hf
      exact g_iret C E () dX11_importShare_56 rfl rfl rfl (Nat.le_of_ble_eq_true rfl) (Nat.le_of_ble_eq_true rfl)
  show gW X Q 0 0 ((wM (x_y X) a thrown g saved hasSaved coef nodes nodeMany isDeep codes details levelMany given paper papered tape taped wrongAt at_ value readPlace readValue readEpoch)) [(0, .ref (a 0)), (1, .int p0)] [] 0
  refine g_aload_n C 0 dX11_importShare_0 rfl ?_
  refine g_iload_n C 1 dX11_importShare_1 rfl ?_
  obtain ⟨v1, h2, hf⟩ := opt_bind hf
  refine g_callV C (c_X11_lacks (l := x_l X) (D := x_D X) (cy := x_y X) (a := a) (thrown := thrown) (g := g) (saved := saved) (hasSaved := hasSaved) (coef := coef) (nodes := nodes) (nodeMany := nodeMany) (isDeep := isDeep) (codes := codes) (details := details) (levelMany := levelMany) (given := given) (paper := paper) (papered := papered) (tape := tape) (taped := taped) (wrongAt := wrongAt) (at_ := at_) (value := value) (readPlace := readPlace) (readValue := readValue) (readEpoch := readEpoch) (p0 := p0) h2) (As := [.int p0]) (rest := []) (wr := []) (ws' := fun _ => (wM (x_y X) a thrown g saved hasSaved coef nodes nodeMany isDeep codes details levelMany given paper papered tape taped wrongAt at_ value readPlace readValue readEpoch)) (st' := fun _ => [.int v1]) (ci := 12) 1 0 ⟨_, rfl⟩ rfl rfl mw_7_126 mw_1_9 mw_7_123 mw_7_125 mp_45 hd_X11_lacks rfl (g_rm hR rfl rfl) [0, 1, 2, 3, 4, 5, 6, 7, 8, 9] [] [0, 1, 2, 3, 4, 5, 6, 7, 8, 9] ⟨rfl, rfl, rfl, rfl, by decide, gRoIn_0, rfl, fun _ => rfl⟩ rfl (Nat.le_of_ble_eq_true rfl) dX11_importShare_2 (g_rc hR (Nat.le_of_ble_eq_true rfl) (Nat.le_of_ble_eq_true rfl)) (ck' := 0) (sk' := 0) rfl rfl (fun _ => rfl) (fun _ _ => ?_) (fun _ hx => absurd rfl hx)
  refine g_istore_n C (lv' := [(2, .int v1), (0, .ref (a 0)), (1, .int p0)]) dX11_importShare_5 (g_nlt hn rfl) rfl ?_
  refine g_iload_n C 0 dX11_importShare_6 rfl ?_
  refine g_if_eq C 16 dX11_importShare_7 (by decide) (fun c3 => ?_) (fun c3 => ?_)
  · have hf := opt_pos c3 hf
    refine g_aload_n C 1 dX11_importShare_16 rfl ?_
    refine g_iconst C (v := 0) dX11_importShare_17 (by decide) ?_
    refine g_put C (ws' := (wM (x_y X) a thrown g saved hasSaved coef nodes nodeMany isDeep codes details levelMany given paper papered tape taped wrongAt 0 value readPlace readValue readEpoch)) 0 17 rfl rfl wiX11 (by decide) tyX11_ok nmX11 mw_6_200 rfl rfl rfl rfl (Nat.le_of_ble_eq_true rfl) rfl dX11_importShare_18 ?_
    refine g_aload_n C 1 dX11_importShare_21 rfl ?_
    obtain ⟨v4, h5, hf⟩ := opt_bind hf
    refine g_callV C (c_X11_readsShare (l := x_l X) (D := x_D X) (cy := x_y X) (a := a) (thrown := thrown) (g := g) (saved := saved) (hasSaved := hasSaved) (coef := coef) (nodes := nodes) (nodeMany := nodeMany) (isDeep := isDeep) (codes := codes) (details := details) (levelMany := levelMany) (given := given) (paper := paper) (papered := papered) (tape := tape) (taped := taped) (wrongAt := wrongAt) (at_ := 0) (value := value) (readPlace := readPlace) (readValue := readValue) (readEpoch := readEpoch) h5) (As := []) (rest := []) (wr := []) (ws' := fun _ => (wM (x_y X) a thrown g saved hasSaved coef nodes nodeMany isDeep codes details levelMany given paper papered tape taped wrongAt v4.2.1 v4.2.2.1 v4.2.2.2.1 v4.2.2.2.2.1 v4.2.2.2.2.2)) (st' := fun _ => [.int v4.1]) (ci := 12) 0 0 ⟨_, rfl⟩ rfl rfl mw_8_29 mw_1_9 mw_8_26 mw_8_28 mp_63 hd_X11_readsShare rfl (g_rm hR rfl rfl) [0, 1, 2, 3, 4, 5, 6, 7, 8, 9] [] [0, 1, 2, 3, 4, 5, 6, 7, 8, 9] ⟨rfl, rfl, rfl, rfl, by decide, gRoIn_0, rfl, fun _ => rfl⟩ rfl (Nat.le_of_ble_eq_true rfl) dX11_importShare_22 (g_rc hR (Nat.le_of_ble_eq_true rfl) (Nat.le_of_ble_eq_true rfl)) (ck' := 0) (sk' := 0) rfl rfl (fun _ => rfl) (fun _ _ => ?_) (fun _ hx => absurd rfl hx)
    refine g_istore_n C (lv' := [(3, .int v4.1), (2, .int v1), (0, .ref (a 0)), (1, .int p0)]) dX11_importShare_25 (g_nlt hn rfl) rfl ?_
    refine g_aload_n C 2 dX11_importShare_26 rfl ?_
    refine g_iload_n C 0 dX11_importShare_27 rfl ?_
    refine g_if_eq C 35 dX11_importShare_28 (by decide) (fun c6 => ?_) (fun c6 => ?_)
    · have hf := opt_pos c6 hf
      refine g_aload_n C 2 dX11_importShare_35 rfl ?_
      refine g_get C 0 17 rfl rfl wiX11 (by decide) mw_6_200 rfl rfl dX11_importShare_36 ?_
      refine gW.locals [2, 3, 0] rfl ?_
      exact H39 thrown g taped wrongAt v4.2.1 v4.2.2.1 v4.2.2.2.1 v4.2.2.2.2.1 v4.2.2.2.2.2 v4.1 v4.2.1 hf
    · have hf := opt_neg c6 hf
      refine g_iconst C (v := (-1)) dX11_importShare_31 (by decide) ?_
      refine g_goto C 39 dX11_importShare_32 (by decide) ?_
      refine gW.locals [2, 3, 0] rfl ?_
      exact H39 thrown g taped wrongAt v4.2.1 v4.2.2.1 v4.2.2.2.1 v4.2.2.2.2.1 v4.2.2.2.2.2 v4.1 (-1) hf
  · have hf := opt_neg c3 hf
    refine g_aload_n C 1 dX11_importShare_10 rfl ?_
    refine g_iload_n C 0 dX11_importShare_11 rfl ?_
    obtain ⟨v14, h15, hf⟩ := opt_bind hf
    refine g_callV C (c_X11_fails (l := x_l X) (D := x_D X) (cy := x_y X) (a := a) (thrown := thrown) (g := g) (saved := saved) (hasSaved := hasSaved) (coef := coef) (nodes := nodes) (nodeMany := nodeMany) (isDeep := isDeep) (codes := codes) (details := details) (levelMany := levelMany) (given := given) (paper := paper) (papered := papered) (tape := tape) (taped := taped) (wrongAt := wrongAt) (at_ := at_) (value := value) (readPlace := readPlace) (readValue := readValue) (readEpoch := readEpoch) (p0 := v1) h15) (As := [.int v1]) (rest := []) (wr := []) (ws' := fun _ => (wM (x_y X) a v14.2 g saved hasSaved coef nodes nodeMany isDeep codes details levelMany given paper papered tape taped wrongAt at_ value readPlace readValue readEpoch)) (st' := fun _ => [.int v14.1]) (ci := 12) 1 0 ⟨_, rfl⟩ rfl rfl mw_7_45 mw_1_9 mw_7_42 mw_7_44 mp_31 hd_X11_fails rfl (g_rm hR rfl rfl) [0, 1, 2, 3, 4, 5, 6, 7, 8, 9] [] [0, 1, 2, 3, 4, 5, 6, 7, 8, 9] ⟨rfl, rfl, rfl, rfl, by decide, gRoIn_0, rfl, fun _ => rfl⟩ rfl (Nat.le_of_ble_eq_true rfl) dX11_importShare_12 (g_rc hR (Nat.le_of_ble_eq_true rfl) (Nat.le_of_ble_eq_true rfl)) (ck' := 0) (sk' := 0) rfl rfl (fun _ => rfl) (fun _ _ => ?_) (fun _ hx => absurd rfl hx)
    obtain rfl := Option.some.inj hf
    exact g_iret C E () dX11_importShare_15 rfl rfl rfl (Nat.le_of_ble_eq_true rfl) (Nat.le_of_ble_eq_true rfl)
/-! X11_bad -/
theorem hd_X11_bad : yX11_bad.cls ≠ "java/lang/invoke/MethodHandle" ∧ yX11_bad.cls ≠ "java/lang/invoke/VarHandle" ∧ (parseMethodDescriptor yX11_bad.desc).map (fun d => d.parameters.length) = some 2 := by decide +kernel
def F_X11_bad_L65  (K22 : Int32 → Int32 → Int32 → Option (Int32 × Int32)) (thrown_65 : Int32) (l4_65 : Int32) (l5_65 : Int32) : Option (Int32 × Int32) := K22 thrown_65 l4_65 (l5_65 + 1)
def F_X11_bad_L22 (g : Nat → Int32) (p0 : Int32) (p1 : Int32)  : Nat → Int32 → Int32 → Int32 → Option (Int32 × Int32)
  | 0, _, _, _ => none
  | n + 1, thrown_22, l4_22, l5_22 => if 24 < l5_22 then ((F_X11_fails thrown_22 2).bind fun v5 => some (v5.1, v5.2)) else ((F_X11_hasShare g p0 l5_22).bind fun v7 => if v7 = 0 then (F_X11_bad_L65 (F_X11_bad_L22 g p0 p1 n) thrown_22 l4_22 l5_22) else ((F_X11_stateOf g p0 l5_22).bind fun v10 => if v10 = 0 then (F_X11_bad_L65 (F_X11_bad_L22 g p0 p1 n) thrown_22 l4_22 l5_22) else (if l4_22 = p1 then ((F_X11_done thrown_22 l5_22).bind fun v14 => some (v14.1, v14.2)) else (F_X11_bad_L65 (F_X11_bad_L22 g p0 p1 n) thrown_22 (l4_22 + 1) l5_22))))
def F_X11_bad (thrown : Int32) (g : Nat → Int32) (p0 : Int32) (p1 : Int32) : Option (Int32 × Int32) := (F_X11_lacks g p0).bind fun v1 => if v1 = 0 then (F_X11_bad_L22 g p0 p1 1000 thrown 0 1) else ((F_X11_fails thrown v1).bind fun v16 => some (v16.1, v16.2))
set_option maxRecDepth 100000 in
set_option maxHeartbeats 4000000 in
theorem c_X11_bad {l : Launch} {D : va_G} {cy : Nat → ClassId} {a : Nat → Nat} {thrown : Int32} {g : Nat → Int32} {saved : Nat → Int32} {hasSaved : Int32} {coef : Nat → Int32} {nodes : Nat → Int32} {nodeMany : Int32} {isDeep : Int32} {codes : Nat → Int32} {details : Nat → Int32} {levelMany : Int32} {given : Nat → Int32} {paper : Nat → Int32} {papered : Int32} {tape : Nat → Int32} {taped : Int32} {wrongAt : Int32} {at_ : Int32} {value : Int32} {readPlace : Int32} {readValue : Int32} {readEpoch : Int32} {p0 : Int32} {p1 : Int32}  {val : Int32 × Int32} (hf : F_X11_bad thrown g p0 p1 = some val) : gCt l D cy yX11_bad cX11_bad 6 (some .int) 3 70 0 0 [.ref (a 0), .int p0, .int p1] [] ((wM cy a thrown g saved hasSaved coef nodes nodeMany isDeep codes details levelMany given paper papered tape taped wrongAt at_ value readPlace readValue readEpoch)) 0 (fun _ : Unit => some (.int val.1)) (fun _ => (wM cy a val.2 g saved hasSaved coef nodes nodeMany isDeep codes details levelMany given paper papered tape taped wrongAt at_ value readPlace readValue readEpoch)) := by
  refine g_begin (by decide +kernel) (Nat.le_of_ble_eq_true rfl) ?_
  intro X Q hl hR hD hy hro hn C hin E
  subst hl; subst hD; subst hy
  replace C : gC X "SecretVaultModel" cX11_bad (some .int) := C
  unfold F_X11_bad at hf
  have H22 : ∀ (n22 : Nat), ∀ (thrown_22 : Int32) (l4_22 : Int32) (l5_22 : Int32), F_X11_bad_L22 g p0 p1 n22 thrown_22 l4_22 l5_22 = some val → gW X Q 0 0 ((wM (x_y X) a thrown_22 g saved hasSaved coef nodes nodeMany isDeep codes details levelMany given paper papered tape taped wrongAt at_ value readPlace readValue readEpoch)) [(0, .ref (a 0)), (1, .int p0), (2, .int p1), (4, .int l4_22), (5, .int l5_22)] [] 22 := by
    intro n22
    induction n22 with
    | zero => intros; rename_i hf; cases hf
    | succ n22 ih =>
      intro thrown_22 l4_22 l5_22 hf
      have H22 := ih
      rw [F_X11_bad_L22] at hf
      have H65 : ∀ (thrown_65 : Int32) (l4_65 : Int32) (l5_65 : Int32), F_X11_bad_L65 (F_X11_bad_L22 g p0 p1 n22) thrown_65 l4_65 l5_65 = some val → gW X Q 0 0 ((wM (x_y X) a thrown_65 g saved hasSaved coef nodes nodeMany isDeep codes details levelMany given paper papered tape taped wrongAt at_ value readPlace readValue readEpoch)) [(0, .ref (a 0)), (1, .int p0), (2, .int p1), (4, .int l4_65), (5, .int l5_65)] [] 65 := by
        intro thrown_65 l4_65 l5_65 hf
        unfold F_X11_bad_L65 at hf
        refine g_iinc C 4 (v := l5_65 + 1) (lv' := [(5, .int (l5_65 + 1)), (0, .ref (a 0)), (1, .int p0), (2, .int p1), (4, .int l4_65)]) dX11_bad_65 rfl rfl (g_nlt hn rfl) rfl ?_
        refine g_goto C 22 dX11_bad_68 (by decide) ?_
        refine gW.locals [1, 2, 3, 4, 0] rfl ?_
        exact H22 thrown_65 l4_65 (l5_65 + 1) hf
      refine g_iload C 4 dX11_bad_22 rfl ?_
      refine g_bipush C (v := 24) dX11_bad_24 (by decide) ?_
      refine g_icmp_gt C 71 dX11_bad_26 (by decide) (fun c4 => ?_) (fun c4 => ?_)
      · have hf := opt_pos c4 hf
        refine g_aload_n C 0 dX11_bad_71 rfl ?_
        refine g_iconst C (v := 2) dX11_bad_72 (by decide) ?_
        obtain ⟨v5, h6, hf⟩ := opt_bind hf
        refine g_callV C (c_X11_fails (l := x_l X) (D := x_D X) (cy := x_y X) (a := a) (thrown := thrown_22) (g := g) (saved := saved) (hasSaved := hasSaved) (coef := coef) (nodes := nodes) (nodeMany := nodeMany) (isDeep := isDeep) (codes := codes) (details := details) (levelMany := levelMany) (given := given) (paper := paper) (papered := papered) (tape := tape) (taped := taped) (wrongAt := wrongAt) (at_ := at_) (value := value) (readPlace := readPlace) (readValue := readValue) (readEpoch := readEpoch) (p0 := 2) h6) (As := [.int 2]) (rest := []) (wr := []) (ws' := fun _ => (wM (x_y X) a v5.2 g saved hasSaved coef nodes nodeMany isDeep codes details levelMany given paper papered tape taped wrongAt at_ value readPlace readValue readEpoch)) (st' := fun _ => [.int v5.1]) (ci := 12) 1 0 ⟨_, rfl⟩ rfl rfl mw_7_45 mw_1_9 mw_7_42 mw_7_44 mp_31 hd_X11_fails rfl (g_rm hR rfl rfl) [0, 1, 2, 3, 4, 5, 6, 7, 8, 9] [] [0, 1, 2, 3, 4, 5, 6, 7, 8, 9] ⟨rfl, rfl, rfl, rfl, by decide, gRoIn_0, rfl, fun _ => rfl⟩ rfl (Nat.le_of_ble_eq_true rfl) dX11_bad_73 (g_rc hR (Nat.le_of_ble_eq_true rfl) (Nat.le_of_ble_eq_true rfl)) (ck' := 0) (sk' := 0) rfl rfl (fun _ => rfl) (fun _ _ => ?_) (fun _ hx => absurd rfl hx)
        obtain rfl := Option.some.inj hf
        exact g_iret C E () dX11_bad_76 rfl rfl rfl (Nat.le_of_ble_eq_true rfl) (Nat.le_of_ble_eq_true rfl)
      · have hf := opt_neg c4 hf
        refine g_aload_n C 0 dX11_bad_29 rfl ?_
        refine g_iload_n C 1 dX11_bad_30 rfl ?_
        refine g_iload C 4 dX11_bad_31 rfl ?_
        obtain ⟨v7, h8, hf⟩ := opt_bind hf
        refine g_callV C (c_X11_hasShare (l := x_l X) (D := x_D X) (cy := x_y X) (a := a) (thrown := thrown_22) (g := g) (saved := saved) (hasSaved := hasSaved) (coef := coef) (nodes := nodes) (nodeMany := nodeMany) (isDeep := isDeep) (codes := codes) (details := details) (levelMany := levelMany) (given := given) (paper := paper) (papered := papered) (tape := tape) (taped := taped) (wrongAt := wrongAt) (at_ := at_) (value := value) (readPlace := readPlace) (readValue := readValue) (readEpoch := readEpoch) (p0 := p0) (p1 := l5_22) h8) (As := [.int p0, .int l5_22]) (rest := []) (wr := []) (ws' := fun _ => (wM (x_y X) a thrown_22 g saved hasSaved coef nodes nodeMany isDeep codes details levelMany given paper papered tape taped wrongAt at_ value readPlace readValue readEpoch)) (st' := fun _ => [.int v7]) (ci := 12) 2 0 ⟨_, rfl⟩ rfl rfl mw_7_61 mw_1_9 mw_7_58 mw_7_60 mp_33 hd_X11_hasShare rfl (g_rm hR rfl rfl) [0, 1, 2, 3, 4, 5, 6, 7, 8, 9] [] [0, 1, 2, 3, 4, 5, 6, 7, 8, 9] ⟨rfl, rfl, rfl, rfl, by decide, gRoIn_0, rfl, fun _ => rfl⟩ rfl (Nat.le_of_ble_eq_true rfl) dX11_bad_33 (g_rc hR (Nat.le_of_ble_eq_true rfl) (Nat.le_of_ble_eq_true rfl)) (ck' := 0) (sk' := 0) rfl rfl (fun _ => rfl) (fun _ _ => ?_) (fun _ hx => absurd rfl hx)
        refine g_if_eq C 65 dX11_bad_36 (by decide) (fun c9 => ?_) (fun c9 => ?_)
        · have hf := opt_pos c9 hf
          exact H65 thrown_22 l4_22 l5_22 hf
        · have hf := opt_neg c9 hf
          refine g_aload_n C 0 dX11_bad_39 rfl ?_
          refine g_iload_n C 1 dX11_bad_40 rfl ?_
          refine g_iload C 4 dX11_bad_41 rfl ?_
          obtain ⟨v10, h11, hf⟩ := opt_bind hf
          refine g_callV C (c_X11_stateOf (l := x_l X) (D := x_D X) (cy := x_y X) (a := a) (thrown := thrown_22) (g := g) (saved := saved) (hasSaved := hasSaved) (coef := coef) (nodes := nodes) (nodeMany := nodeMany) (isDeep := isDeep) (codes := codes) (details := details) (levelMany := levelMany) (given := given) (paper := paper) (papered := papered) (tape := tape) (taped := taped) (wrongAt := wrongAt) (at_ := at_) (value := value) (readPlace := readPlace) (readValue := readValue) (readEpoch := readEpoch) (p0 := p0) (p1 := l5_22) h11) (As := [.int p0, .int l5_22]) (rest := []) (wr := []) (ws' := fun _ => (wM (x_y X) a thrown_22 g saved hasSaved coef nodes nodeMany isDeep codes details levelMany given paper papered tape taped wrongAt at_ value readPlace readValue readEpoch)) (st' := fun _ => [.int v10]) (ci := 12) 2 0 ⟨_, rfl⟩ rfl rfl mw_7_73 mw_1_9 mw_7_70 mw_7_72 mp_36 hd_X11_stateOf rfl (g_rm hR rfl rfl) [0, 1, 2, 3, 4, 5, 6, 7, 8, 9] [] [0, 1, 2, 3, 4, 5, 6, 7, 8, 9] ⟨rfl, rfl, rfl, rfl, by decide, gRoIn_0, rfl, fun _ => rfl⟩ rfl (Nat.le_of_ble_eq_true rfl) dX11_bad_43 (g_rc hR (Nat.le_of_ble_eq_true rfl) (Nat.le_of_ble_eq_true rfl)) (ck' := 0) (sk' := 0) rfl rfl (fun _ => rfl) (fun _ _ => ?_) (fun _ hx => absurd rfl hx)
          refine g_if_eq C 65 dX11_bad_46 (by decide) (fun c12 => ?_) (fun c12 => ?_)
          · have hf := opt_pos c12 hf
            exact H65 thrown_22 l4_22 l5_22 hf
          · have hf := opt_neg c12 hf
            refine g_iload C 3 dX11_bad_49 rfl ?_
            refine g_iload_n C 2 dX11_bad_51 rfl ?_
            refine g_icmp_ne C 62 dX11_bad_52 (by decide) (fun c13 => ?_) (fun c13 => ?_)
            · have hf := opt_neg c13 hf
              refine g_iinc C 3 (v := l4_22 + 1) (lv' := [(4, .int (l4_22 + 1)), (0, .ref (a 0)), (1, .int p0), (2, .int p1), (5, .int l5_22)]) dX11_bad_62 rfl rfl (g_nlt hn rfl) rfl ?_
              refine gW.locals [1, 2, 3, 0, 4] rfl ?_
              exact H65 thrown_22 (l4_22 + 1) l5_22 hf
            · have hf := opt_pos c13 hf
              refine g_aload_n C 0 dX11_bad_55 rfl ?_
              refine g_iload C 4 dX11_bad_56 rfl ?_
              obtain ⟨v14, h15, hf⟩ := opt_bind hf
              refine g_callV C (c_X11_done (l := x_l X) (D := x_D X) (cy := x_y X) (a := a) (thrown := thrown_22) (g := g) (saved := saved) (hasSaved := hasSaved) (coef := coef) (nodes := nodes) (nodeMany := nodeMany) (isDeep := isDeep) (codes := codes) (details := details) (levelMany := levelMany) (given := given) (paper := paper) (papered := papered) (tape := tape) (taped := taped) (wrongAt := wrongAt) (at_ := at_) (value := value) (readPlace := readPlace) (readValue := readValue) (readEpoch := readEpoch) (p0 := l5_22) h15) (As := [.int l5_22]) (rest := []) (wr := []) (ws' := fun _ => (wM (x_y X) a v14.2 g saved hasSaved coef nodes nodeMany isDeep codes details levelMany given paper papered tape taped wrongAt at_ value readPlace readValue readEpoch)) (st' := fun _ => [.int v14.1]) (ci := 12) 1 0 ⟨_, rfl⟩ rfl rfl mw_7_22 mw_1_9 mw_7_19 mw_7_21 mp_29 hd_X11_done rfl (g_rm hR rfl rfl) [0, 1, 2, 3, 4, 5, 6, 7, 8, 9] [] [0, 1, 2, 3, 4, 5, 6, 7, 8, 9] ⟨rfl, rfl, rfl, rfl, by decide, gRoIn_0, rfl, fun _ => rfl⟩ rfl (Nat.le_of_ble_eq_true rfl) dX11_bad_58 (g_rc hR (Nat.le_of_ble_eq_true rfl) (Nat.le_of_ble_eq_true rfl)) (ck' := 0) (sk' := 0) rfl rfl (fun _ => rfl) (fun _ _ => ?_) (fun _ hx => absurd rfl hx)
              obtain rfl := Option.some.inj hf
              exact g_iret C E () dX11_bad_61 rfl rfl rfl (Nat.le_of_ble_eq_true rfl) (Nat.le_of_ble_eq_true rfl)
  show gW X Q 0 0 ((wM (x_y X) a thrown g saved hasSaved coef nodes nodeMany isDeep codes details levelMany given paper papered tape taped wrongAt at_ value readPlace readValue readEpoch)) [(0, .ref (a 0)), (1, .int p0), (2, .int p1)] [] 0
  refine g_aload_n C 0 dX11_bad_0 rfl ?_
  refine g_iload_n C 1 dX11_bad_1 rfl ?_
  obtain ⟨v1, h2, hf⟩ := opt_bind hf
  refine g_callV C (c_X11_lacks (l := x_l X) (D := x_D X) (cy := x_y X) (a := a) (thrown := thrown) (g := g) (saved := saved) (hasSaved := hasSaved) (coef := coef) (nodes := nodes) (nodeMany := nodeMany) (isDeep := isDeep) (codes := codes) (details := details) (levelMany := levelMany) (given := given) (paper := paper) (papered := papered) (tape := tape) (taped := taped) (wrongAt := wrongAt) (at_ := at_) (value := value) (readPlace := readPlace) (readValue := readValue) (readEpoch := readEpoch) (p0 := p0) h2) (As := [.int p0]) (rest := []) (wr := []) (ws' := fun _ => (wM (x_y X) a thrown g saved hasSaved coef nodes nodeMany isDeep codes details levelMany given paper papered tape taped wrongAt at_ value readPlace readValue readEpoch)) (st' := fun _ => [.int v1]) (ci := 12) 1 0 ⟨_, rfl⟩ rfl rfl mw_7_126 mw_1_9 mw_7_123 mw_7_125 mp_45 hd_X11_lacks rfl (g_rm hR rfl rfl) [0, 1, 2, 3, 4, 5, 6, 7, 8, 9] [] [0, 1, 2, 3, 4, 5, 6, 7, 8, 9] ⟨rfl, rfl, rfl, rfl, by decide, gRoIn_0, rfl, fun _ => rfl⟩ rfl (Nat.le_of_ble_eq_true rfl) dX11_bad_2 (g_rc hR (Nat.le_of_ble_eq_true rfl) (Nat.le_of_ble_eq_true rfl)) (ck' := 0) (sk' := 0) rfl rfl (fun _ => rfl) (fun _ _ => ?_) (fun _ hx => absurd rfl hx)
  refine g_istore_n C (lv' := [(3, .int v1), (0, .ref (a 0)), (1, .int p0), (2, .int p1)]) dX11_bad_5 (g_nlt hn rfl) rfl ?_
  refine g_iload_n C 0 dX11_bad_6 rfl ?_
  refine g_if_eq C 16 dX11_bad_7 (by decide) (fun c3 => ?_) (fun c3 => ?_)
  · have hf := opt_pos c3 hf
    refine g_iconst C (v := 0) dX11_bad_16 (by decide) ?_
    refine g_istore C (lv' := [(4, .int 0), (3, .int v1), (0, .ref (a 0)), (1, .int p0), (2, .int p1)]) dX11_bad_17 (g_nlt hn rfl) rfl ?_
    refine g_iconst C (v := 1) dX11_bad_19 (by decide) ?_
    refine g_istore C (lv' := [(5, .int 1), (4, .int 0), (3, .int v1), (0, .ref (a 0)), (1, .int p0), (2, .int p1)]) dX11_bad_20 (g_nlt hn rfl) rfl ?_
    refine gW.locals [3, 4, 5, 1, 0] rfl ?_
    exact H22 1000 thrown 0 1 hf
  · have hf := opt_neg c3 hf
    refine g_aload_n C 1 dX11_bad_10 rfl ?_
    refine g_iload_n C 0 dX11_bad_11 rfl ?_
    obtain ⟨v16, h17, hf⟩ := opt_bind hf
    refine g_callV C (c_X11_fails (l := x_l X) (D := x_D X) (cy := x_y X) (a := a) (thrown := thrown) (g := g) (saved := saved) (hasSaved := hasSaved) (coef := coef) (nodes := nodes) (nodeMany := nodeMany) (isDeep := isDeep) (codes := codes) (details := details) (levelMany := levelMany) (given := given) (paper := paper) (papered := papered) (tape := tape) (taped := taped) (wrongAt := wrongAt) (at_ := at_) (value := value) (readPlace := readPlace) (readValue := readValue) (readEpoch := readEpoch) (p0 := v1) h17) (As := [.int v1]) (rest := []) (wr := []) (ws' := fun _ => (wM (x_y X) a v16.2 g saved hasSaved coef nodes nodeMany isDeep codes details levelMany given paper papered tape taped wrongAt at_ value readPlace readValue readEpoch)) (st' := fun _ => [.int v16.1]) (ci := 12) 1 0 ⟨_, rfl⟩ rfl rfl mw_7_45 mw_1_9 mw_7_42 mw_7_44 mp_31 hd_X11_fails rfl (g_rm hR rfl rfl) [0, 1, 2, 3, 4, 5, 6, 7, 8, 9] [] [0, 1, 2, 3, 4, 5, 6, 7, 8, 9] ⟨rfl, rfl, rfl, rfl, by decide, gRoIn_0, rfl, fun _ => rfl⟩ rfl (Nat.le_of_ble_eq_true rfl) dX11_bad_12 (g_rc hR (Nat.le_of_ble_eq_true rfl) (Nat.le_of_ble_eq_true rfl)) (ck' := 0) (sk' := 0) rfl rfl (fun _ => rfl) (fun _ _ => ?_) (fun _ hx => absurd rfl hx)
    obtain rfl := Option.some.inj hf
    exact g_iret C E () dX11_bad_15 rfl rfl rfl (Nat.le_of_ble_eq_true rfl) (Nat.le_of_ble_eq_true rfl)
/-! X11_errorPosition -/
theorem hd_X11_errorPosition : yX11_errorPosition.cls ≠ "java/lang/invoke/MethodHandle" ∧ yX11_errorPosition.cls ≠ "java/lang/invoke/VarHandle" ∧ (parseMethodDescriptor yX11_errorPosition.desc).map (fun d => d.parameters.length) = some 0 := by decide +kernel
def F_X11_errorPosition (thrown : Int32) (wrongAt : Int32) : Option (Int32 × Int32) := (F_X11_done thrown wrongAt).bind fun v1 => some (v1.1, v1.2)
set_option maxRecDepth 100000 in
set_option maxHeartbeats 4000000 in
theorem c_X11_errorPosition {l : Launch} {D : va_G} {cy : Nat → ClassId} {a : Nat → Nat} {thrown : Int32} {g : Nat → Int32} {saved : Nat → Int32} {hasSaved : Int32} {coef : Nat → Int32} {nodes : Nat → Int32} {nodeMany : Int32} {isDeep : Int32} {codes : Nat → Int32} {details : Nat → Int32} {levelMany : Int32} {given : Nat → Int32} {paper : Nat → Int32} {papered : Int32} {tape : Nat → Int32} {taped : Int32} {wrongAt : Int32} {at_ : Int32} {value : Int32} {readPlace : Int32} {readValue : Int32} {readEpoch : Int32}   {val : Int32 × Int32} (hf : F_X11_errorPosition thrown wrongAt = some val) : gCt l D cy yX11_errorPosition cX11_errorPosition 1 (some .int) 1 21 0 0 [.ref (a 0)] [] ((wM cy a thrown g saved hasSaved coef nodes nodeMany isDeep codes details levelMany given paper papered tape taped wrongAt at_ value readPlace readValue readEpoch)) 0 (fun _ : Unit => some (.int val.1)) (fun _ => (wM cy a val.2 g saved hasSaved coef nodes nodeMany isDeep codes details levelMany given paper papered tape taped wrongAt at_ value readPlace readValue readEpoch)) := by
  refine g_begin (by decide +kernel) (Nat.le_of_ble_eq_true rfl) ?_
  intro X Q hl hR hD hy hro hn C hin E
  subst hl; subst hD; subst hy
  replace C : gC X "SecretVaultModel" cX11_errorPosition (some .int) := C
  unfold F_X11_errorPosition at hf
  show gW X Q 0 0 ((wM (x_y X) a thrown g saved hasSaved coef nodes nodeMany isDeep codes details levelMany given paper papered tape taped wrongAt at_ value readPlace readValue readEpoch)) [(0, .ref (a 0))] [] 0
  refine g_aload_n C 0 dX11_errorPosition_0 rfl ?_
  refine g_aload_n C 0 dX11_errorPosition_1 rfl ?_
  refine g_get C 0 16 rfl rfl wiX11 (by decide) mw_6_199 rfl rfl dX11_errorPosition_2 ?_
  obtain ⟨v1, h2, hf⟩ := opt_bind hf
  refine g_callV C (c_X11_done (l := x_l X) (D := x_D X) (cy := x_y X) (a := a) (thrown := thrown) (g := g) (saved := saved) (hasSaved := hasSaved) (coef := coef) (nodes := nodes) (nodeMany := nodeMany) (isDeep := isDeep) (codes := codes) (details := details) (levelMany := levelMany) (given := given) (paper := paper) (papered := papered) (tape := tape) (taped := taped) (wrongAt := wrongAt) (at_ := at_) (value := value) (readPlace := readPlace) (readValue := readValue) (readEpoch := readEpoch) (p0 := wrongAt) h2) (As := [.int wrongAt]) (rest := []) (wr := []) (ws' := fun _ => (wM (x_y X) a v1.2 g saved hasSaved coef nodes nodeMany isDeep codes details levelMany given paper papered tape taped wrongAt at_ value readPlace readValue readEpoch)) (st' := fun _ => [.int v1.1]) (ci := 12) 1 0 ⟨_, rfl⟩ rfl rfl mw_7_22 mw_1_9 mw_7_19 mw_7_21 mp_29 hd_X11_done rfl (g_rm hR rfl rfl) [0, 1, 2, 3, 4, 5, 6, 7, 8, 9] [] [0, 1, 2, 3, 4, 5, 6, 7, 8, 9] ⟨rfl, rfl, rfl, rfl, by decide, gRoIn_0, rfl, fun _ => rfl⟩ rfl (Nat.le_of_ble_eq_true rfl) dX11_errorPosition_5 (g_rc hR (Nat.le_of_ble_eq_true rfl) (Nat.le_of_ble_eq_true rfl)) (ck' := 0) (sk' := 0) rfl rfl (fun _ => rfl) (fun _ _ => ?_) (fun _ hx => absurd rfl hx)
  obtain rfl := Option.some.inj hf
  exact g_iret C E () dX11_errorPosition_8 rfl rfl rfl (Nat.le_of_ble_eq_true rfl) (Nat.le_of_ble_eq_true rfl)
/-! X11_isDigitAt -/
theorem hd_X11_isDigitAt : yX11_isDigitAt.cls ≠ "java/lang/invoke/MethodHandle" ∧ yX11_isDigitAt.cls ≠ "java/lang/invoke/VarHandle" ∧ (parseMethodDescriptor yX11_isDigitAt.desc).map (fun d => d.parameters.length) = some 2 := by decide +kernel
def F_X11_isDigitAt (g : Nat → Int32) (p0 : Int32) (p1 : Int32) : Option (Int32) := (F_X11_of g p0 ((12 : Int32) + p1)).bind fun v1 => (F_X11_in v1 48 57).bind fun v3 => gg (gnar .boolean v3) (some v3)
set_option maxRecDepth 100000 in
set_option maxHeartbeats 4000000 in
theorem c_X11_isDigitAt {l : Launch} {D : va_G} {cy : Nat → ClassId} {a : Nat → Nat} {thrown : Int32} {g : Nat → Int32} {saved : Nat → Int32} {hasSaved : Int32} {coef : Nat → Int32} {nodes : Nat → Int32} {nodeMany : Int32} {isDeep : Int32} {codes : Nat → Int32} {details : Nat → Int32} {levelMany : Int32} {given : Nat → Int32} {paper : Nat → Int32} {papered : Int32} {tape : Nat → Int32} {taped : Int32} {wrongAt : Int32} {at_ : Int32} {value : Int32} {readPlace : Int32} {readValue : Int32} {readEpoch : Int32} {p0 : Int32} {p1 : Int32}  {val : Int32} (hf : F_X11_isDigitAt g p0 p1 = some val) : gCt l D cy yX11_isDigitAt cX11_isDigitAt 3 (some .boolean) 1 22 0 0 [.ref (a 0), .int p0, .int p1] [] ((wM cy a thrown g saved hasSaved coef nodes nodeMany isDeep codes details levelMany given paper papered tape taped wrongAt at_ value readPlace readValue readEpoch)) 0 (fun _ : Unit => some (.int val)) (fun _ => (wM cy a thrown g saved hasSaved coef nodes nodeMany isDeep codes details levelMany given paper papered tape taped wrongAt at_ value readPlace readValue readEpoch)) := by
  refine g_begin (by decide +kernel) (Nat.le_of_ble_eq_true rfl) ?_
  intro X Q hl hR hD hy hro hn C hin E
  subst hl; subst hD; subst hy
  replace C : gC X "SecretVaultModel" cX11_isDigitAt (some .boolean) := C
  unfold F_X11_isDigitAt at hf
  show gW X Q 0 0 ((wM (x_y X) a thrown g saved hasSaved coef nodes nodeMany isDeep codes details levelMany given paper papered tape taped wrongAt at_ value readPlace readValue readEpoch)) [(0, .ref (a 0)), (1, .int p0), (2, .int p1)] [] 0
  refine g_aload_n C 0 dX11_isDigitAt_0 rfl ?_
  refine g_iload_n C 1 dX11_isDigitAt_1 rfl ?_
  refine g_bipush C (v := 12) dX11_isDigitAt_2 (by decide) ?_
  refine g_iload_n C 2 dX11_isDigitAt_4 rfl ?_
  refine g_iadd C dX11_isDigitAt_5 ?_
  obtain ⟨v1, h2, hf⟩ := opt_bind hf
  refine g_callV C (c_X11_of (l := x_l X) (D := x_D X) (cy := x_y X) (a := a) (thrown := thrown) (g := g) (saved := saved) (hasSaved := hasSaved) (coef := coef) (nodes := nodes) (nodeMany := nodeMany) (isDeep := isDeep) (codes := codes) (details := details) (levelMany := levelMany) (given := given) (paper := paper) (papered := papered) (tape := tape) (taped := taped) (wrongAt := wrongAt) (at_ := at_) (value := value) (readPlace := readPlace) (readValue := readValue) (readEpoch := readEpoch) (p0 := p0) (p1 := (12 : Int32) + p1) h2) (As := [.int p0, .int ((12 : Int32) + p1)]) (rest := []) (wr := []) (ws' := fun _ => (wM (x_y X) a thrown g saved hasSaved coef nodes nodeMany isDeep codes details levelMany given paper papered tape taped wrongAt at_ value readPlace readValue readEpoch)) (st' := fun _ => [.int v1]) (ci := 12) 2 0 ⟨_, rfl⟩ rfl rfl mw_7_69 mw_1_9 mw_7_66 mw_7_68 mp_35 hd_X11_of rfl (g_rm hR rfl rfl) [0, 1, 2, 3, 4, 5, 6, 7, 8, 9] [] [0, 1, 2, 3, 4, 5, 6, 7, 8, 9] ⟨rfl, rfl, rfl, rfl, by decide, gRoIn_0, rfl, fun _ => rfl⟩ rfl (Nat.le_of_ble_eq_true rfl) dX11_isDigitAt_6 (g_rc hR (Nat.le_of_ble_eq_true rfl) (Nat.le_of_ble_eq_true rfl)) (ck' := 0) (sk' := 0) rfl rfl (fun _ => rfl) (fun _ _ => ?_) (fun _ hx => absurd rfl hx)
  refine g_bipush C (v := 48) dX11_isDigitAt_9 (by decide) ?_
  refine g_bipush C (v := 57) dX11_isDigitAt_11 (by decide) ?_
  obtain ⟨v3, h4, hf⟩ := opt_bind hf
  refine g_callS C (c_X11_in (l := x_l X) (D := x_D X) (cy := x_y X) (p0 := v1) (p1 := 48) (p2 := 57) h4) (As := [.int v1, .int 48, .int 57]) (rest := []) (wr := (wM (x_y X) a thrown g saved hasSaved coef nodes nodeMany isDeep codes details levelMany given paper papered tape taped wrongAt at_ value readPlace readValue readEpoch)) (ws' := fun _ => (wM (x_y X) a thrown g saved hasSaved coef nodes nodeMany isDeep codes details levelMany given paper papered tape taped wrongAt at_ value readPlace readValue readEpoch)) (st' := fun _ => [.int v3]) 3 mw_7_41 mw_1_9 mw_7_39 mw_7_40 hd_X11_in rfl (g_rm hR rfl rfl) [] [0, 1, 2, 3, 4, 5, 6, 7, 8, 9] [0, 1, 2, 3, 4, 5, 6, 7, 8, 9] ⟨rfl, rfl, rfl, rfl, by decide, gRoIn_0, rfl, fun _ => rfl⟩ rfl (Nat.le_of_ble_eq_true rfl) dX11_isDigitAt_13 (g_rc hR (Nat.le_of_ble_eq_true rfl) (Nat.le_of_ble_eq_true rfl)) (ck' := 0) (sk' := 0) rfl rfl (fun _ => rfl) (fun _ _ => ?_) (fun _ hx => absurd rfl hx)
  obtain ⟨c5, hf⟩ := gg_of hf
  obtain rfl := Option.some.inj hf
  exact g_zret C E () (gnar_of c5) dX11_isDigitAt_16 rfl rfl rfl (Nat.le_of_ble_eq_true rfl) (Nat.le_of_ble_eq_true rfl)
/-! X11_countsAround -/
theorem hd_X11_countsAround : yX11_countsAround.cls ≠ "java/lang/invoke/MethodHandle" ∧ yX11_countsAround.cls ≠ "java/lang/invoke/VarHandle" ∧ (parseMethodDescriptor yX11_countsAround.desc).map (fun d => d.parameters.length) = some 2 := by decide +kernel
def F_X11_countsAround_L113  (K5 : Int32 → Int32 → Option (Int32)) (l3_113 : Int32) (l4_113 : Int32) : Option (Int32) := K5 l3_113 (l4_113 + 1)
def F_X11_countsAround_L111  (K5 : Int32 → Int32 → Option (Int32)) (l4_111 : Int32) (s0_111 : Int32) (s1_111 : Int32) : Option (Int32) := F_X11_countsAround_L113 K5 (s1_111 + s0_111) l4_111
def F_X11_countsAround_L88 (p1 : Int32) (K5 : Int32 → Int32 → Option (Int32)) (K47 : Int32 → Int32 → Int32 → Int32 → Option (Int32)) (l3_88 : Int32) (l4_88 : Int32) (l6_88 : Int32) (s0_88 : Int32) (s1_88 : Int32) : Option (Int32) := if 0 < (s1_88 + s0_88) then (K47 l3_88 l4_88 (s1_88 + s0_88) (l6_88 + 1)) else (if (l6_88 + 1) ≤ p1 then (F_X11_countsAround_L111 K5 l4_88 0 l3_88) else (F_X11_countsAround_L111 K5 l4_88 1 l3_88))
def F_X11_countsAround_L47 (g : Nat → Int32) (p0 : Int32) (p1 : Int32) (K5 : Int32 → Int32 → Option (Int32)) : Nat → Int32 → Int32 → Int32 → Int32 → Option (Int32)
  | 0, _, _, _, _ => none
  | n + 1, l3_47, l4_47, l5_47, l6_47 => (F_X11_of g p0 ((12 : Int32) + l6_47)).bind fun v10 => if v10 = 40 then (F_X11_countsAround_L88 p1 K5 (F_X11_countsAround_L47 g p0 p1 K5 n) l3_47 l4_47 l6_47 1 l5_47) else ((F_X11_of g p0 ((12 : Int32) + l6_47)).bind fun v13 => if v13 = 41 then (F_X11_countsAround_L88 p1 K5 (F_X11_countsAround_L47 g p0 p1 K5 n) l3_47 l4_47 l6_47 (-1) l5_47) else (F_X11_countsAround_L88 p1 K5 (F_X11_countsAround_L47 g p0 p1 K5 n) l3_47 l4_47 l6_47 0 l5_47))
def F_X11_countsAround_L5 (g : Nat → Int32) (p0 : Int32) (p1 : Int32)  : Nat → Int32 → Int32 → Option (Int32)
  | 0, _, _ => none
  | n + 1, l3_5, l4_5 => if p1 ≤ l4_5 then (some l3_5) else ((F_X11_isDigitAt g p0 l4_5).bind fun v2 => if v2 = 0 then (F_X11_countsAround_L113 (F_X11_countsAround_L5 g p0 p1 n) l3_5 l4_5) else ((F_X11_of g p0 11).bind fun v5 => (F_X11_isCount g p0 l4_5 v5).bind fun v7 => if v7 = 0 then (F_X11_countsAround_L113 (F_X11_countsAround_L5 g p0 p1 n) l3_5 l4_5) else (F_X11_countsAround_L47 g p0 p1 (F_X11_countsAround_L5 g p0 p1 n) 1000 l3_5 l4_5 0 (l4_5 + 3))))
def F_X11_countsAround (g : Nat → Int32) (p0 : Int32) (p1 : Int32) : Option (Int32) := F_X11_countsAround_L5 g p0 p1 1000 0 0
set_option maxRecDepth 100000 in
set_option maxHeartbeats 4000000 in
theorem c_X11_countsAround {l : Launch} {D : va_G} {cy : Nat → ClassId} {a : Nat → Nat} {thrown : Int32} {g : Nat → Int32} {saved : Nat → Int32} {hasSaved : Int32} {coef : Nat → Int32} {nodes : Nat → Int32} {nodeMany : Int32} {isDeep : Int32} {codes : Nat → Int32} {details : Nat → Int32} {levelMany : Int32} {given : Nat → Int32} {paper : Nat → Int32} {papered : Int32} {tape : Nat → Int32} {taped : Int32} {wrongAt : Int32} {at_ : Int32} {value : Int32} {readPlace : Int32} {readValue : Int32} {readEpoch : Int32} {p0 : Int32} {p1 : Int32}  {val : Int32} (hf : F_X11_countsAround g p0 p1 = some val) : gCt l D cy yX11_countsAround cX11_countsAround 7 (some .int) 2 45 0 0 [.ref (a 0), .int p0, .int p1] [] ((wM cy a thrown g saved hasSaved coef nodes nodeMany isDeep codes details levelMany given paper papered tape taped wrongAt at_ value readPlace readValue readEpoch)) 0 (fun _ : Unit => some (.int val)) (fun _ => (wM cy a thrown g saved hasSaved coef nodes nodeMany isDeep codes details levelMany given paper papered tape taped wrongAt at_ value readPlace readValue readEpoch)) := by
  refine g_begin (by decide +kernel) (Nat.le_of_ble_eq_true rfl) ?_
  intro X Q hl hR hD hy hro hn C hin E
  subst hl; subst hD; subst hy
  replace C : gC X "SecretVaultModel" cX11_countsAround (some .int) := C
  unfold F_X11_countsAround at hf
  have H5 : ∀ (n5 : Nat), ∀ (l3_5 : Int32) (l4_5 : Int32), F_X11_countsAround_L5 g p0 p1 n5 l3_5 l4_5 = some val → gW X Q 0 0 ((wM (x_y X) a thrown g saved hasSaved coef nodes nodeMany isDeep codes details levelMany given paper papered tape taped wrongAt at_ value readPlace readValue readEpoch)) [(0, .ref (a 0)), (1, .int p0), (2, .int p1), (3, .int l3_5), (4, .int l4_5)] [] 5 := by
    intro n5
    induction n5 with
    | zero => intros; rename_i hf; cases hf
    | succ n5 ih =>
      intro l3_5 l4_5 hf
      have H5 := ih
      rw [F_X11_countsAround_L5] at hf
      have H113 : ∀ (l3_113 : Int32) (l4_113 : Int32), F_X11_countsAround_L113 (F_X11_countsAround_L5 g p0 p1 n5) l3_113 l4_113 = some val → gW X Q 0 0 ((wM (x_y X) a thrown g saved hasSaved coef nodes nodeMany isDeep codes details levelMany given paper papered tape taped wrongAt at_ value readPlace readValue readEpoch)) [(0, .ref (a 0)), (1, .int p0), (2, .int p1), (3, .int l3_113), (4, .int l4_113)] [] 113 := by
        intro l3_113 l4_113 hf
        unfold F_X11_countsAround_L113 at hf
        refine g_iinc C 4 (v := l4_113 + 1) (lv' := [(4, .int (l4_113 + 1)), (0, .ref (a 0)), (1, .int p0), (2, .int p1), (3, .int l3_113)]) dX11_countsAround_113 rfl rfl (g_nlt hn rfl) rfl ?_
        refine g_goto C 5 dX11_countsAround_116 (by decide) ?_
        refine gW.locals [1, 2, 3, 4, 0] rfl ?_
        exact H5 l3_113 (l4_113 + 1) hf
      have H111 : ∀ (l4_111 : Int32) (s0_111 : Int32) (s1_111 : Int32), F_X11_countsAround_L111 (F_X11_countsAround_L5 g p0 p1 n5) l4_111 s0_111 s1_111 = some val → gW X Q 0 0 ((wM (x_y X) a thrown g saved hasSaved coef nodes nodeMany isDeep codes details levelMany given paper papered tape taped wrongAt at_ value readPlace readValue readEpoch)) [(0, .ref (a 0)), (1, .int p0), (2, .int p1), (4, .int l4_111)] [.int s0_111, .int s1_111] 111 := by
        intro l4_111 s0_111 s1_111 hf
        unfold F_X11_countsAround_L111 at hf
        refine g_iadd C dX11_countsAround_111 ?_
        refine g_istore_n C (lv' := [(3, .int (s1_111 + s0_111)), (0, .ref (a 0)), (1, .int p0), (2, .int p1), (4, .int l4_111)]) dX11_countsAround_112 (g_nlt hn rfl) rfl ?_
        refine gW.locals [1, 2, 3, 0, 4] rfl ?_
        exact H113 (s1_111 + s0_111) l4_111 hf
      have H47 : ∀ (n47 : Nat), ∀ (l3_47 : Int32) (l4_47 : Int32) (l5_47 : Int32) (l6_47 : Int32), F_X11_countsAround_L47 g p0 p1 (F_X11_countsAround_L5 g p0 p1 n5) n47 l3_47 l4_47 l5_47 l6_47 = some val → gW X Q 0 0 ((wM (x_y X) a thrown g saved hasSaved coef nodes nodeMany isDeep codes details levelMany given paper papered tape taped wrongAt at_ value readPlace readValue readEpoch)) [(0, .ref (a 0)), (1, .int p0), (2, .int p1), (3, .int l3_47), (4, .int l4_47), (5, .int l5_47), (6, .int l6_47)] [] 47 := by
        intro n47
        induction n47 with
        | zero => intros; rename_i hf; cases hf
        | succ n47 ih =>
          intro l3_47 l4_47 l5_47 l6_47 hf
          have H47 := ih
          rw [F_X11_countsAround_L47] at hf
          have H88 : ∀ (l3_88 : Int32) (l4_88 : Int32) (l6_88 : Int32) (s0_88 : Int32) (s1_88 : Int32), F_X11_countsAround_L88 p1 (F_X11_countsAround_L5 g p0 p1 n5) (F_X11_countsAround_L47 g p0 p1 (F_X11_countsAround_L5 g p0 p1 n5) n47) l3_88 l4_88 l6_88 s0_88 s1_88 = some val → gW X Q 0 0 ((wM (x_y X) a thrown g saved hasSaved coef nodes nodeMany isDeep codes details levelMany given paper papered tape taped wrongAt at_ value readPlace readValue readEpoch)) [(0, .ref (a 0)), (1, .int p0), (2, .int p1), (3, .int l3_88), (4, .int l4_88), (6, .int l6_88)] [.int s0_88, .int s1_88] 88 := by
            intro l3_88 l4_88 l6_88 s0_88 s1_88 hf
            unfold F_X11_countsAround_L88 at hf
            refine g_iadd C dX11_countsAround_88 ?_
            refine g_istore C (lv' := [(5, .int (s1_88 + s0_88)), (0, .ref (a 0)), (1, .int p0), (2, .int p1), (3, .int l3_88), (4, .int l4_88), (6, .int l6_88)]) dX11_countsAround_89 (g_nlt hn rfl) rfl ?_
            refine g_iinc C 6 (v := l6_88 + 1) (lv' := [(6, .int (l6_88 + 1)), (5, .int (s1_88 + s0_88)), (0, .ref (a 0)), (1, .int p0), (2, .int p1), (3, .int l3_88), (4, .int l4_88)]) dX11_countsAround_91 rfl rfl (g_nlt hn rfl) rfl ?_
            refine g_iload C 1 dX11_countsAround_94 rfl ?_
            refine g_if_gt C 47 dX11_countsAround_96 (by decide) (fun c16 => ?_) (fun c16 => ?_)
            · have hf := opt_pos c16 hf
              refine gW.locals [2, 3, 4, 5, 6, 1, 0] rfl ?_
              exact H47 l3_88 l4_88 (s1_88 + s0_88) (l6_88 + 1) hf
            · have hf := opt_neg c16 hf
              refine g_iload_n C 5 dX11_countsAround_99 rfl ?_
              refine g_iload_n C 4 dX11_countsAround_100 rfl ?_
              refine g_iload C 0 dX11_countsAround_101 rfl ?_
              refine g_icmp_ge C 110 dX11_countsAround_103 (by decide) (fun c17 => ?_) (fun c17 => ?_)
              · have hf := opt_pos c17 hf
                refine g_iconst C (v := 0) dX11_countsAround_110 (by decide) ?_
                refine gW.locals [2, 3, 4, 6] rfl ?_
                exact H111 l4_88 0 l3_88 hf
              · have hf := opt_neg c17 hf
                refine g_iconst C (v := 1) dX11_countsAround_106 (by decide) ?_
                refine g_goto C 111 dX11_countsAround_107 (by decide) ?_
                refine gW.locals [2, 3, 4, 6] rfl ?_
                exact H111 l4_88 1 l3_88 hf
          refine g_iload C 5 dX11_countsAround_47 rfl ?_
          refine g_aload_n C 0 dX11_countsAround_49 rfl ?_
          refine g_iload_n C 1 dX11_countsAround_50 rfl ?_
          refine g_bipush C (v := 12) dX11_countsAround_51 (by decide) ?_
          refine g_iload C 6 dX11_countsAround_53 rfl ?_
          refine g_iadd C dX11_countsAround_55 ?_
          obtain ⟨v10, h11, hf⟩ := opt_bind hf
          refine g_callV C (c_X11_of (l := x_l X) (D := x_D X) (cy := x_y X) (a := a) (thrown := thrown) (g := g) (saved := saved) (hasSaved := hasSaved) (coef := coef) (nodes := nodes) (nodeMany := nodeMany) (isDeep := isDeep) (codes := codes) (details := details) (levelMany := levelMany) (given := given) (paper := paper) (papered := papered) (tape := tape) (taped := taped) (wrongAt := wrongAt) (at_ := at_) (value := value) (readPlace := readPlace) (readValue := readValue) (readEpoch := readEpoch) (p0 := p0) (p1 := (12 : Int32) + l6_47) h11) (As := [.int p0, .int ((12 : Int32) + l6_47)]) (rest := [.int l5_47]) (wr := []) (ws' := fun _ => (wM (x_y X) a thrown g saved hasSaved coef nodes nodeMany isDeep codes details levelMany given paper papered tape taped wrongAt at_ value readPlace readValue readEpoch)) (st' := fun _ => [.int v10, .int l5_47]) (ci := 12) 2 0 ⟨_, rfl⟩ rfl rfl mw_7_69 mw_1_9 mw_7_66 mw_7_68 mp_35 hd_X11_of rfl (g_rm hR rfl rfl) [0, 1, 2, 3, 4, 5, 6, 7, 8, 9] [] [0, 1, 2, 3, 4, 5, 6, 7, 8, 9] ⟨rfl, rfl, rfl, rfl, by decide, gRoIn_0, rfl, fun _ => rfl⟩ rfl (Nat.le_of_ble_eq_true rfl) dX11_countsAround_56 (g_rc hR (Nat.le_of_ble_eq_true rfl) (Nat.le_of_ble_eq_true rfl)) (ck' := 0) (sk' := 0) rfl rfl (fun _ => rfl) (fun _ _ => ?_) (fun _ hx => absurd rfl hx)
          refine g_bipush C (v := 40) dX11_countsAround_59 (by decide) ?_
          refine g_icmp_ne C 68 dX11_countsAround_61 (by decide) (fun c12 => ?_) (fun c12 => ?_)
          · have hf := opt_neg c12 hf
            refine g_aload_n C 0 dX11_countsAround_68 rfl ?_
            refine g_iload_n C 1 dX11_countsAround_69 rfl ?_
            refine g_bipush C (v := 12) dX11_countsAround_70 (by decide) ?_
            refine g_iload C 6 dX11_countsAround_72 rfl ?_
            refine g_iadd C dX11_countsAround_74 ?_
            obtain ⟨v13, h14, hf⟩ := opt_bind hf
            refine g_callV C (c_X11_of (l := x_l X) (D := x_D X) (cy := x_y X) (a := a) (thrown := thrown) (g := g) (saved := saved) (hasSaved := hasSaved) (coef := coef) (nodes := nodes) (nodeMany := nodeMany) (isDeep := isDeep) (codes := codes) (details := details) (levelMany := levelMany) (given := given) (paper := paper) (papered := papered) (tape := tape) (taped := taped) (wrongAt := wrongAt) (at_ := at_) (value := value) (readPlace := readPlace) (readValue := readValue) (readEpoch := readEpoch) (p0 := p0) (p1 := (12 : Int32) + l6_47) h14) (As := [.int p0, .int ((12 : Int32) + l6_47)]) (rest := [.int l5_47]) (wr := []) (ws' := fun _ => (wM (x_y X) a thrown g saved hasSaved coef nodes nodeMany isDeep codes details levelMany given paper papered tape taped wrongAt at_ value readPlace readValue readEpoch)) (st' := fun _ => [.int v13, .int l5_47]) (ci := 12) 2 0 ⟨_, rfl⟩ rfl rfl mw_7_69 mw_1_9 mw_7_66 mw_7_68 mp_35 hd_X11_of rfl (g_rm hR rfl rfl) [0, 1, 2, 3, 4, 5, 6, 7, 8, 9] [] [0, 1, 2, 3, 4, 5, 6, 7, 8, 9] ⟨rfl, rfl, rfl, rfl, by decide, gRoIn_0, rfl, fun _ => rfl⟩ rfl (Nat.le_of_ble_eq_true rfl) dX11_countsAround_75 (g_rc hR (Nat.le_of_ble_eq_true rfl) (Nat.le_of_ble_eq_true rfl)) (ck' := 0) (sk' := 0) rfl rfl (fun _ => rfl) (fun _ _ => ?_) (fun _ hx => absurd rfl hx)
            refine g_bipush C (v := 41) dX11_countsAround_78 (by decide) ?_
            refine g_icmp_ne C 87 dX11_countsAround_80 (by decide) (fun c15 => ?_) (fun c15 => ?_)
            · have hf := opt_neg c15 hf
              refine g_iconst C (v := 0) dX11_countsAround_87 (by decide) ?_
              refine gW.locals [0, 1, 2, 3, 4, 6] rfl ?_
              exact H88 l3_47 l4_47 l6_47 0 l5_47 hf
            · have hf := opt_pos c15 hf
              refine g_iconst C (v := (-1)) dX11_countsAround_83 (by decide) ?_
              refine g_goto C 88 dX11_countsAround_84 (by decide) ?_
              refine gW.locals [0, 1, 2, 3, 4, 6] rfl ?_
              exact H88 l3_47 l4_47 l6_47 (-1) l5_47 hf
          · have hf := opt_pos c12 hf
            refine g_iconst C (v := 1) dX11_countsAround_64 (by decide) ?_
            refine g_goto C 88 dX11_countsAround_65 (by decide) ?_
            refine gW.locals [0, 1, 2, 3, 4, 6] rfl ?_
            exact H88 l3_47 l4_47 l6_47 1 l5_47 hf
      refine g_iload C 4 dX11_countsAround_5 rfl ?_
      refine g_iload_n C 2 dX11_countsAround_7 rfl ?_
      refine g_icmp_ge C 119 dX11_countsAround_8 (by decide) (fun c1 => ?_) (fun c1 => ?_)
      · have hf := opt_pos c1 hf
        refine g_iload_n C 3 dX11_countsAround_119 rfl ?_
        obtain rfl := Option.some.inj hf
        exact g_iret C E () dX11_countsAround_120 rfl rfl rfl (Nat.le_of_ble_eq_true rfl) (Nat.le_of_ble_eq_true rfl)
      · have hf := opt_neg c1 hf
        refine g_aload_n C 0 dX11_countsAround_11 rfl ?_
        refine g_iload_n C 1 dX11_countsAround_12 rfl ?_
        refine g_iload C 4 dX11_countsAround_13 rfl ?_
        obtain ⟨v2, h3, hf⟩ := opt_bind hf
        refine g_callV C (c_X11_isDigitAt (l := x_l X) (D := x_D X) (cy := x_y X) (a := a) (thrown := thrown) (g := g) (saved := saved) (hasSaved := hasSaved) (coef := coef) (nodes := nodes) (nodeMany := nodeMany) (isDeep := isDeep) (codes := codes) (details := details) (levelMany := levelMany) (given := given) (paper := paper) (papered := papered) (tape := tape) (taped := taped) (wrongAt := wrongAt) (at_ := at_) (value := value) (readPlace := readPlace) (readValue := readValue) (readEpoch := readEpoch) (p0 := p0) (p1 := l4_5) h3) (As := [.int p0, .int l4_5]) (rest := []) (wr := []) (ws' := fun _ => (wM (x_y X) a thrown g saved hasSaved coef nodes nodeMany isDeep codes details levelMany given paper papered tape taped wrongAt at_ value readPlace readValue readEpoch)) (st' := fun _ => [.int v2]) (ci := 12) 2 0 ⟨_, rfl⟩ rfl rfl mw_8_87 mw_1_9 mw_8_84 mw_8_86 mp_67 hd_X11_isDigitAt rfl (g_rm hR rfl rfl) [0, 1, 2, 3, 4, 5, 6, 7, 8, 9] [] [0, 1, 2, 3, 4, 5, 6, 7, 8, 9] ⟨rfl, rfl, rfl, rfl, by decide, gRoIn_0, rfl, fun _ => rfl⟩ rfl (Nat.le_of_ble_eq_true rfl) dX11_countsAround_15 (g_rc hR (Nat.le_of_ble_eq_true rfl) (Nat.le_of_ble_eq_true rfl)) (ck' := 0) (sk' := 0) rfl rfl (fun _ => rfl) (fun _ _ => ?_) (fun _ hx => absurd rfl hx)
        refine g_if_eq C 113 dX11_countsAround_18 (by decide) (fun c4 => ?_) (fun c4 => ?_)
        · have hf := opt_pos c4 hf
          exact H113 l3_5 l4_5 hf
        · have hf := opt_neg c4 hf
          refine g_aload_n C 0 dX11_countsAround_21 rfl ?_
          refine g_iload_n C 1 dX11_countsAround_22 rfl ?_
          refine g_iload C 4 dX11_countsAround_23 rfl ?_
          refine g_aload_n C 0 dX11_countsAround_25 rfl ?_
          refine g_iload_n C 1 dX11_countsAround_26 rfl ?_
          refine g_bipush C (v := 11) dX11_countsAround_27 (by decide) ?_
          obtain ⟨v5, h6, hf⟩ := opt_bind hf
          refine g_callV C (c_X11_of (l := x_l X) (D := x_D X) (cy := x_y X) (a := a) (thrown := thrown) (g := g) (saved := saved) (hasSaved := hasSaved) (coef := coef) (nodes := nodes) (nodeMany := nodeMany) (isDeep := isDeep) (codes := codes) (details := details) (levelMany := levelMany) (given := given) (paper := paper) (papered := papered) (tape := tape) (taped := taped) (wrongAt := wrongAt) (at_ := at_) (value := value) (readPlace := readPlace) (readValue := readValue) (readEpoch := readEpoch) (p0 := p0) (p1 := 11) h6) (As := [.int p0, .int 11]) (rest := [.int l4_5, .int p0, .ref (a 0)]) (wr := []) (ws' := fun _ => (wM (x_y X) a thrown g saved hasSaved coef nodes nodeMany isDeep codes details levelMany given paper papered tape taped wrongAt at_ value readPlace readValue readEpoch)) (st' := fun _ => [.int v5, .int l4_5, .int p0, .ref (a 0)]) (ci := 12) 2 0 ⟨_, rfl⟩ rfl rfl mw_7_69 mw_1_9 mw_7_66 mw_7_68 mp_35 hd_X11_of rfl (g_rm hR rfl rfl) [0, 1, 2, 3, 4, 5, 6, 7, 8, 9] [] [0, 1, 2, 3, 4, 5, 6, 7, 8, 9] ⟨rfl, rfl, rfl, rfl, by decide, gRoIn_0, rfl, fun _ => rfl⟩ rfl (Nat.le_of_ble_eq_true rfl) dX11_countsAround_29 (g_rc hR (Nat.le_of_ble_eq_true rfl) (Nat.le_of_ble_eq_true rfl)) (ck' := 0) (sk' := 0) rfl rfl (fun _ => rfl) (fun _ _ => ?_) (fun _ hx => absurd rfl hx)
          obtain ⟨v7, h8, hf⟩ := opt_bind hf
          refine g_callV C (c_X11_isCount (l := x_l X) (D := x_D X) (cy := x_y X) (a := a) (thrown := thrown) (g := g) (saved := saved) (hasSaved := hasSaved) (coef := coef) (nodes := nodes) (nodeMany := nodeMany) (isDeep := isDeep) (codes := codes) (details := details) (levelMany := levelMany) (given := given) (paper := paper) (papered := papered) (tape := tape) (taped := taped) (wrongAt := wrongAt) (at_ := at_) (value := value) (readPlace := readPlace) (readValue := readValue) (readEpoch := readEpoch) (p0 := p0) (p1 := l4_5) (p2 := v5) h8) (As := [.int p0, .int l4_5, .int v5]) (rest := []) (wr := []) (ws' := fun _ => (wM (x_y X) a thrown g saved hasSaved coef nodes nodeMany isDeep codes details levelMany given paper papered tape taped wrongAt at_ value readPlace readValue readEpoch)) (st' := fun _ => [.int v7]) (ci := 12) 3 0 ⟨_, rfl⟩ rfl rfl mw_7_172 mw_1_9 mw_7_169 mw_7_171 mp_53 hd_X11_isCount rfl (g_rm hR rfl rfl) [0, 1, 2, 3, 4, 5, 6, 7, 8, 9] [] [0, 1, 2, 3, 4, 5, 6, 7, 8, 9] ⟨rfl, rfl, rfl, rfl, by decide, gRoIn_0, rfl, fun _ => rfl⟩ rfl (Nat.le_of_ble_eq_true rfl) dX11_countsAround_32 (g_rc hR (Nat.le_of_ble_eq_true rfl) (Nat.le_of_ble_eq_true rfl)) (ck' := 0) (sk' := 0) rfl rfl (fun _ => rfl) (fun _ _ => ?_) (fun _ hx => absurd rfl hx)
          refine g_if_eq C 113 dX11_countsAround_35 (by decide) (fun c9 => ?_) (fun c9 => ?_)
          · have hf := opt_pos c9 hf
            exact H113 l3_5 l4_5 hf
          · have hf := opt_neg c9 hf
            refine g_iconst C (v := 0) dX11_countsAround_38 (by decide) ?_
            refine g_istore C (lv' := [(5, .int 0), (0, .ref (a 0)), (1, .int p0), (2, .int p1), (3, .int l3_5), (4, .int l4_5)]) dX11_countsAround_39 (g_nlt hn rfl) rfl ?_
            refine g_iload C 5 dX11_countsAround_41 rfl ?_
            refine g_iconst C (v := 3) dX11_countsAround_43 (by decide) ?_
            refine g_iadd C dX11_countsAround_44 ?_
            refine g_istore C (lv' := [(6, .int (l4_5 + 3)), (5, .int 0), (0, .ref (a 0)), (1, .int p0), (2, .int p1), (3, .int l3_5), (4, .int l4_5)]) dX11_countsAround_45 (g_nlt hn rfl) rfl ?_
            refine gW.locals [2, 3, 4, 5, 6, 1, 0] rfl ?_
            exact H47 1000 l3_5 l4_5 0 (l4_5 + 3) hf
  show gW X Q 0 0 ((wM (x_y X) a thrown g saved hasSaved coef nodes nodeMany isDeep codes details levelMany given paper papered tape taped wrongAt at_ value readPlace readValue readEpoch)) [(0, .ref (a 0)), (1, .int p0), (2, .int p1)] [] 0
  refine g_iconst C (v := 0) dX11_countsAround_0 (by decide) ?_
  refine g_istore_n C (lv' := [(3, .int 0), (0, .ref (a 0)), (1, .int p0), (2, .int p1)]) dX11_countsAround_1 (g_nlt hn rfl) rfl ?_
  refine g_iconst C (v := 0) dX11_countsAround_2 (by decide) ?_
  refine g_istore C (lv' := [(4, .int 0), (3, .int 0), (0, .ref (a 0)), (1, .int p0), (2, .int p1)]) dX11_countsAround_3 (g_nlt hn rfl) rfl ?_
  refine gW.locals [2, 3, 4, 1, 0] rfl ?_
  exact H5 1000 0 0 hf
/-! X11_policy -/
theorem hd_X11_policy : yX11_policy.cls ≠ "java/lang/invoke/MethodHandle" ∧ yX11_policy.cls ≠ "java/lang/invoke/VarHandle" ∧ (parseMethodDescriptor yX11_policy.desc).map (fun d => d.parameters.length) = some 2 := by decide +kernel
def F_X11_policy_L45   (thrown_45 : Int32) : Option (Int32 × Int32) := (F_X11_fails thrown_45 3).bind fun v10 => some (v10.1, v10.2)
def F_X11_policy_L195   (thrown_195 : Int32) (s0_195 : Int32) : Option (Int32 × Int32) := (F_X11_done thrown_195 s0_195).bind fun v20 => some (v20.1, v20.2)
def F_X11_policy_L168  (K62 : Int32 → Int32 → Int32 → Int32 → Int32 → Option (Int32 × Int32)) (thrown_168 : Int32) (l3_168 : Int32) (l4_168 : Int32) (l5_168 : Int32) (l6_168 : Int32) : Option (Int32 × Int32) := K62 thrown_168 l3_168 l4_168 l5_168 (l6_168 + 1)
def F_X11_policy_L165  (K62 : Int32 → Int32 → Int32 → Int32 → Int32 → Option (Int32 × Int32)) (thrown_165 : Int32) (l3_165 : Int32) (l4_165 : Int32) (l6_165 : Int32) (s0_165 : Int32) (s1_165 : Int32) : Option (Int32 × Int32) := F_X11_policy_L168 K62 thrown_165 l3_165 l4_165 (s1_165 ||| s0_165) l6_165
def F_X11_policy_L137 (g : Nat → Int32) (p0 : Int32) (K62 : Int32 → Int32 → Int32 → Int32 → Int32 → Option (Int32 × Int32)) (thrown_137 : Int32) (l3_137 : Int32) (l5_137 : Int32) (l6_137 : Int32) (l7_137 : Int32) (s0_137 : Int32) : Option (Int32 × Int32) := if l7_137 = 0 then ((F_X11_of g p0 ((12 : Int32) + l6_137)).bind fun v34 => F_X11_policy_L165 K62 thrown_137 l3_137 s0_137 l6_137 ((1 : Int32) <<< ((v34 - 48) &&& 31)) l5_137) else (F_X11_policy_L165 K62 thrown_137 l3_137 s0_137 l6_137 0 l5_137)
def F_X11_policy_L117 (g : Nat → Int32) (p0 : Int32) (K62 : Int32 → Int32 → Int32 → Int32 → Int32 → Option (Int32 × Int32)) (thrown_117 : Int32) (l3_117 : Int32) (l4_117 : Int32) (l5_117 : Int32) (l6_117 : Int32) (l7_117 : Int32) (s0_117 : Int32) (s1_117 : Int32) : Option (Int32 × Int32) := if (s1_117 + s0_117) ≤ l4_117 then (F_X11_policy_L137 g p0 K62 thrown_117 (l3_117 + 1) l5_117 l6_117 l7_117 l4_117) else (F_X11_policy_L137 g p0 K62 thrown_117 (l3_117 + 1) l5_117 l6_117 l7_117 (s1_117 + s0_117))
def F_X11_policy_L62 (g : Nat → Int32) (p0 : Int32) (p1 : Int32)  : Nat → Int32 → Int32 → Int32 → Int32 → Int32 → Option (Int32 × Int32)
  | 0, _, _, _, _, _ => none
  | n + 1, thrown_62, l3_62, l4_62, l5_62, l6_62 => (F_X11_of g p0 11).bind fun v15 => if v15 ≤ l6_62 then (if p1 = 0 then (F_X11_policy_L195 thrown_62 l3_62) else (if p1 = 1 then (F_X11_policy_L195 thrown_62 l4_62) else (F_X11_policy_L195 thrown_62 l5_62))) else ((F_X11_isDigitAt g p0 l6_62).bind fun v22 => if v22 = 0 then (F_X11_policy_L168 (F_X11_policy_L62 g p0 p1 n) thrown_62 l3_62 l4_62 l5_62 l6_62) else ((F_X11_of g p0 11).bind fun v25 => (F_X11_isCount g p0 l6_62 v25).bind fun v27 => (F_X11_countsAround g p0 l6_62).bind fun v29 => if v27 = 0 then (F_X11_policy_L117 g p0 (F_X11_policy_L62 g p0 p1 n) thrown_62 l3_62 l4_62 l5_62 l6_62 v27 0 v29) else (F_X11_policy_L117 g p0 (F_X11_policy_L62 g p0 p1 n) thrown_62 l3_62 l4_62 l5_62 l6_62 v27 1 v29)))
def F_X11_policy (thrown : Int32) (g : Nat → Int32) (p0 : Int32) (p1 : Int32) : Option (Int32 × Int32) := (F_X11_isSlot p0).bind fun v1 => if v1 = 0 then ((F_X11_fails thrown 1).bind fun v38 => some (v38.1, v38.2)) else ((F_X11_in p1 0 2).bind fun v4 => if v4 = 0 then ((F_X11_fails thrown 2).bind fun v36 => some (v36.1, v36.2)) else ((F_X11_of g p0 0).bind fun v7 => if v7 = 0 then (F_X11_policy_L45 thrown) else ((F_X11_hasPolicy g p0).bind fun v12 => if v12 = 0 then (F_X11_policy_L45 thrown) else (F_X11_policy_L62 g p0 p1 1000 thrown 0 0 0 0))))
set_option maxRecDepth 100000 in
set_option maxHeartbeats 4000000 in
theorem c_X11_policy {l : Launch} {D : va_G} {cy : Nat → ClassId} {a : Nat → Nat} {thrown : Int32} {g : Nat → Int32} {saved : Nat → Int32} {hasSaved : Int32} {coef : Nat → Int32} {nodes : Nat → Int32} {nodeMany : Int32} {isDeep : Int32} {codes : Nat → Int32} {details : Nat → Int32} {levelMany : Int32} {given : Nat → Int32} {paper : Nat → Int32} {papered : Int32} {tape : Nat → Int32} {taped : Int32} {wrongAt : Int32} {at_ : Int32} {value : Int32} {readPlace : Int32} {readValue : Int32} {readEpoch : Int32} {p0 : Int32} {p1 : Int32}  {val : Int32 × Int32} (hf : F_X11_policy thrown g p0 p1 = some val) : gCt l D cy yX11_policy cX11_policy 9 (some .int) 3 71 0 0 [.ref (a 0), .int p0, .int p1] [] ((wM cy a thrown g saved hasSaved coef nodes nodeMany isDeep codes details levelMany given paper papered tape taped wrongAt at_ value readPlace readValue readEpoch)) 0 (fun _ : Unit => some (.int val.1)) (fun _ => (wM cy a val.2 g saved hasSaved coef nodes nodeMany isDeep codes details levelMany given paper papered tape taped wrongAt at_ value readPlace readValue readEpoch)) := by
  refine g_begin (by decide +kernel) (Nat.le_of_ble_eq_true rfl) ?_
  intro X Q hl hR hD hy hro hn C hin E
  subst hl; subst hD; subst hy
  replace C : gC X "SecretVaultModel" cX11_policy (some .int) := C
  unfold F_X11_policy at hf
  have H45 : ∀ (thrown_45 : Int32), F_X11_policy_L45 thrown_45 = some val → gW X Q 0 0 ((wM (x_y X) a thrown_45 g saved hasSaved coef nodes nodeMany isDeep codes details levelMany given paper papered tape taped wrongAt at_ value readPlace readValue readEpoch)) [(0, .ref (a 0)), (1, .int p0), (2, .int p1)] [] 45 := by
    intro thrown_45 hf
    unfold F_X11_policy_L45 at hf
    refine g_aload_n C 0 dX11_policy_45 rfl ?_
    refine g_iconst C (v := 3) dX11_policy_46 (by decide) ?_
    obtain ⟨v10, h11, hf⟩ := opt_bind hf
    refine g_callV C (c_X11_fails (l := x_l X) (D := x_D X) (cy := x_y X) (a := a) (thrown := thrown_45) (g := g) (saved := saved) (hasSaved := hasSaved) (coef := coef) (nodes := nodes) (nodeMany := nodeMany) (isDeep := isDeep) (codes := codes) (details := details) (levelMany := levelMany) (given := given) (paper := paper) (papered := papered) (tape := tape) (taped := taped) (wrongAt := wrongAt) (at_ := at_) (value := value) (readPlace := readPlace) (readValue := readValue) (readEpoch := readEpoch) (p0 := 3) h11) (As := [.int 3]) (rest := []) (wr := []) (ws' := fun _ => (wM (x_y X) a v10.2 g saved hasSaved coef nodes nodeMany isDeep codes details levelMany given paper papered tape taped wrongAt at_ value readPlace readValue readEpoch)) (st' := fun _ => [.int v10.1]) (ci := 12) 1 0 ⟨_, rfl⟩ rfl rfl mw_7_45 mw_1_9 mw_7_42 mw_7_44 mp_31 hd_X11_fails rfl (g_rm hR rfl rfl) [0, 1, 2, 3, 4, 5, 6, 7, 8, 9] [] [0, 1, 2, 3, 4, 5, 6, 7, 8, 9] ⟨rfl, rfl, rfl, rfl, by decide, gRoIn_0, rfl, fun _ => rfl⟩ rfl (Nat.le_of_ble_eq_true rfl) dX11_policy_47 (g_rc hR (Nat.le_of_ble_eq_true rfl) (Nat.le_of_ble_eq_true rfl)) (ck' := 0) (sk' := 0) rfl rfl (fun _ => rfl) (fun _ _ => ?_) (fun _ hx => absurd rfl hx)
    obtain rfl := Option.some.inj hf
    exact g_iret C E () dX11_policy_50 rfl rfl rfl (Nat.le_of_ble_eq_true rfl) (Nat.le_of_ble_eq_true rfl)
  have H195 : ∀ (thrown_195 : Int32) (s0_195 : Int32), F_X11_policy_L195 thrown_195 s0_195 = some val → gW X Q 0 0 ((wM (x_y X) a thrown_195 g saved hasSaved coef nodes nodeMany isDeep codes details levelMany given paper papered tape taped wrongAt at_ value readPlace readValue readEpoch)) [(0, .ref (a 0)), (1, .int p0), (2, .int p1)] [.int s0_195, .ref (a 0)] 195 := by
    intro thrown_195 s0_195 hf
    unfold F_X11_policy_L195 at hf
    obtain ⟨v20, h21, hf⟩ := opt_bind hf
    refine g_callV C (c_X11_done (l := x_l X) (D := x_D X) (cy := x_y X) (a := a) (thrown := thrown_195) (g := g) (saved := saved) (hasSaved := hasSaved) (coef := coef) (nodes := nodes) (nodeMany := nodeMany) (isDeep := isDeep) (codes := codes) (details := details) (levelMany := levelMany) (given := given) (paper := paper) (papered := papered) (tape := tape) (taped := taped) (wrongAt := wrongAt) (at_ := at_) (value := value) (readPlace := readPlace) (readValue := readValue) (readEpoch := readEpoch) (p0 := s0_195) h21) (As := [.int s0_195]) (rest := []) (wr := []) (ws' := fun _ => (wM (x_y X) a v20.2 g saved hasSaved coef nodes nodeMany isDeep codes details levelMany given paper papered tape taped wrongAt at_ value readPlace readValue readEpoch)) (st' := fun _ => [.int v20.1]) (ci := 12) 1 0 ⟨_, rfl⟩ rfl rfl mw_7_22 mw_1_9 mw_7_19 mw_7_21 mp_29 hd_X11_done rfl (g_rm hR rfl rfl) [0, 1, 2, 3, 4, 5, 6, 7, 8, 9] [] [0, 1, 2, 3, 4, 5, 6, 7, 8, 9] ⟨rfl, rfl, rfl, rfl, by decide, gRoIn_0, rfl, fun _ => rfl⟩ rfl (Nat.le_of_ble_eq_true rfl) dX11_policy_195 (g_rc hR (Nat.le_of_ble_eq_true rfl) (Nat.le_of_ble_eq_true rfl)) (ck' := 0) (sk' := 0) rfl rfl (fun _ => rfl) (fun _ _ => ?_) (fun _ hx => absurd rfl hx)
    obtain rfl := Option.some.inj hf
    exact g_iret C E () dX11_policy_198 rfl rfl rfl (Nat.le_of_ble_eq_true rfl) (Nat.le_of_ble_eq_true rfl)
  have H62 : ∀ (n62 : Nat), ∀ (thrown_62 : Int32) (l3_62 : Int32) (l4_62 : Int32) (l5_62 : Int32) (l6_62 : Int32), F_X11_policy_L62 g p0 p1 n62 thrown_62 l3_62 l4_62 l5_62 l6_62 = some val → gW X Q 0 0 ((wM (x_y X) a thrown_62 g saved hasSaved coef nodes nodeMany isDeep codes details levelMany given paper papered tape taped wrongAt at_ value readPlace readValue readEpoch)) [(0, .ref (a 0)), (1, .int p0), (2, .int p1), (3, .int l3_62), (4, .int l4_62), (5, .int l5_62), (6, .int l6_62)] [] 62 := by
    intro n62
    induction n62 with
    | zero => intros; rename_i hf; cases hf
    | succ n62 ih =>
      intro thrown_62 l3_62 l4_62 l5_62 l6_62 hf
      have H62 := ih
      rw [F_X11_policy_L62] at hf
      have H168 : ∀ (thrown_168 : Int32) (l3_168 : Int32) (l4_168 : Int32) (l5_168 : Int32) (l6_168 : Int32), F_X11_policy_L168 (F_X11_policy_L62 g p0 p1 n62) thrown_168 l3_168 l4_168 l5_168 l6_168 = some val → gW X Q 0 0 ((wM (x_y X) a thrown_168 g saved hasSaved coef nodes nodeMany isDeep codes details levelMany given paper papered tape taped wrongAt at_ value readPlace readValue readEpoch)) [(0, .ref (a 0)), (1, .int p0), (2, .int p1), (3, .int l3_168), (4, .int l4_168), (5, .int l5_168), (6, .int l6_168)] [] 168 := by
        intro thrown_168 l3_168 l4_168 l5_168 l6_168 hf
        unfold F_X11_policy_L168 at hf
        refine g_iinc C 6 (v := l6_168 + 1) (lv' := [(6, .int (l6_168 + 1)), (0, .ref (a 0)), (1, .int p0), (2, .int p1), (3, .int l3_168), (4, .int l4_168), (5, .int l5_168)]) dX11_policy_168 rfl rfl (g_nlt hn rfl) rfl ?_
        refine g_goto C 62 dX11_policy_171 (by decide) ?_
        refine gW.locals [1, 2, 3, 4, 5, 6, 0] rfl ?_
        exact H62 thrown_168 l3_168 l4_168 l5_168 (l6_168 + 1) hf
      have H165 : ∀ (thrown_165 : Int32) (l3_165 : Int32) (l4_165 : Int32) (l6_165 : Int32) (s0_165 : Int32) (s1_165 : Int32), F_X11_policy_L165 (F_X11_policy_L62 g p0 p1 n62) thrown_165 l3_165 l4_165 l6_165 s0_165 s1_165 = some val → gW X Q 0 0 ((wM (x_y X) a thrown_165 g saved hasSaved coef nodes nodeMany isDeep codes details levelMany given paper papered tape taped wrongAt at_ value readPlace readValue readEpoch)) [(0, .ref (a 0)), (1, .int p0), (2, .int p1), (3, .int l3_165), (4, .int l4_165), (6, .int l6_165)] [.int s0_165, .int s1_165] 165 := by
        intro thrown_165 l3_165 l4_165 l6_165 s0_165 s1_165 hf
        unfold F_X11_policy_L165 at hf
        refine g_ior C dX11_policy_165 ?_
        refine g_istore C (lv' := [(5, .int (s1_165 ||| s0_165)), (0, .ref (a 0)), (1, .int p0), (2, .int p1), (3, .int l3_165), (4, .int l4_165), (6, .int l6_165)]) dX11_policy_166 (g_nlt hn rfl) rfl ?_
        refine gW.locals [1, 2, 3, 4, 5, 0, 6] rfl ?_
        exact H168 thrown_165 l3_165 l4_165 (s1_165 ||| s0_165) l6_165 hf
      have H137 : ∀ (thrown_137 : Int32) (l3_137 : Int32) (l5_137 : Int32) (l6_137 : Int32) (l7_137 : Int32) (s0_137 : Int32), F_X11_policy_L137 g p0 (F_X11_policy_L62 g p0 p1 n62) thrown_137 l3_137 l5_137 l6_137 l7_137 s0_137 = some val → gW X Q 0 0 ((wM (x_y X) a thrown_137 g saved hasSaved coef nodes nodeMany isDeep codes details levelMany given paper papered tape taped wrongAt at_ value readPlace readValue readEpoch)) [(0, .ref (a 0)), (1, .int p0), (2, .int p1), (3, .int l3_137), (5, .int l5_137), (6, .int l6_137), (7, .int l7_137)] [.int s0_137] 137 := by
        intro thrown_137 l3_137 l5_137 l6_137 l7_137 s0_137 hf
        unfold F_X11_policy_L137 at hf
        refine g_istore C (lv' := [(4, .int s0_137), (0, .ref (a 0)), (1, .int p0), (2, .int p1), (3, .int l3_137), (5, .int l5_137), (6, .int l6_137), (7, .int l7_137)]) dX11_policy_137 (g_nlt hn rfl) rfl ?_
        refine g_iload C 5 dX11_policy_139 rfl ?_
        refine g_iload C 7 dX11_policy_141 rfl ?_
        refine g_if_eq C 150 dX11_policy_143 (by decide) (fun c33 => ?_) (fun c33 => ?_)
        · have hf := opt_pos c33 hf
          refine g_iconst C (v := 1) dX11_policy_150 (by decide) ?_
          refine g_aload_n C 1 dX11_policy_151 rfl ?_
          refine g_iload_n C 2 dX11_policy_152 rfl ?_
          refine g_bipush C (v := 12) dX11_policy_153 (by decide) ?_
          refine g_iload C 6 dX11_policy_155 rfl ?_
          refine g_iadd C dX11_policy_157 ?_
          obtain ⟨v34, h35, hf⟩ := opt_bind hf
          refine g_callV C (c_X11_of (l := x_l X) (D := x_D X) (cy := x_y X) (a := a) (thrown := thrown_137) (g := g) (saved := saved) (hasSaved := hasSaved) (coef := coef) (nodes := nodes) (nodeMany := nodeMany) (isDeep := isDeep) (codes := codes) (details := details) (levelMany := levelMany) (given := given) (paper := paper) (papered := papered) (tape := tape) (taped := taped) (wrongAt := wrongAt) (at_ := at_) (value := value) (readPlace := readPlace) (readValue := readValue) (readEpoch := readEpoch) (p0 := p0) (p1 := (12 : Int32) + l6_137) h35) (As := [.int p0, .int ((12 : Int32) + l6_137)]) (rest := [.int 1, .int l5_137]) (wr := []) (ws' := fun _ => (wM (x_y X) a thrown_137 g saved hasSaved coef nodes nodeMany isDeep codes details levelMany given paper papered tape taped wrongAt at_ value readPlace readValue readEpoch)) (st' := fun _ => [.int v34, .int 1, .int l5_137]) (ci := 12) 2 0 ⟨_, rfl⟩ rfl rfl mw_7_69 mw_1_9 mw_7_66 mw_7_68 mp_35 hd_X11_of rfl (g_rm hR rfl rfl) [0, 1, 2, 3, 4, 5, 6, 7, 8, 9] [] [0, 1, 2, 3, 4, 5, 6, 7, 8, 9] ⟨rfl, rfl, rfl, rfl, by decide, gRoIn_0, rfl, fun _ => rfl⟩ rfl (Nat.le_of_ble_eq_true rfl) dX11_policy_158 (g_rc hR (Nat.le_of_ble_eq_true rfl) (Nat.le_of_ble_eq_true rfl)) (ck' := 0) (sk' := 0) rfl rfl (fun _ => rfl) (fun _ _ => ?_) (fun _ hx => absurd rfl hx)
          refine g_bipush C (v := 48) dX11_policy_161 (by decide) ?_
          refine g_isub C dX11_policy_163 ?_
          refine g_ishl C dX11_policy_164 ?_
          refine gW.locals [1, 2, 3, 4, 0, 6] rfl ?_
          exact H165 thrown_137 l3_137 s0_137 l6_137 ((1 : Int32) <<< ((v34 - 48) &&& 31)) l5_137 hf
        · have hf := opt_neg c33 hf
          refine g_iconst C (v := 0) dX11_policy_146 (by decide) ?_
          refine g_goto C 165 dX11_policy_147 (by decide) ?_
          refine gW.locals [1, 2, 3, 4, 0, 6] rfl ?_
          exact H165 thrown_137 l3_137 s0_137 l6_137 0 l5_137 hf
      have H117 : ∀ (thrown_117 : Int32) (l3_117 : Int32) (l4_117 : Int32) (l5_117 : Int32) (l6_117 : Int32) (l7_117 : Int32) (s0_117 : Int32) (s1_117 : Int32), F_X11_policy_L117 g p0 (F_X11_policy_L62 g p0 p1 n62) thrown_117 l3_117 l4_117 l5_117 l6_117 l7_117 s0_117 s1_117 = some val → gW X Q 0 0 ((wM (x_y X) a thrown_117 g saved hasSaved coef nodes nodeMany isDeep codes details levelMany given paper papered tape taped wrongAt at_ value readPlace readValue readEpoch)) [(0, .ref (a 0)), (1, .int p0), (2, .int p1), (3, .int l3_117), (4, .int l4_117), (5, .int l5_117), (6, .int l6_117), (7, .int l7_117)] [.int s0_117, .int s1_117] 117 := by
        intro thrown_117 l3_117 l4_117 l5_117 l6_117 l7_117 s0_117 s1_117 hf
        unfold F_X11_policy_L117 at hf
        refine g_iadd C dX11_policy_117 ?_
        refine g_istore C (lv' := [(8, .int (s1_117 + s0_117)), (0, .ref (a 0)), (1, .int p0), (2, .int p1), (3, .int l3_117), (4, .int l4_117), (5, .int l5_117), (6, .int l6_117), (7, .int l7_117)]) dX11_policy_118 (g_nlt hn rfl) rfl ?_
        refine g_iinc C 4 (v := l3_117 + 1) (lv' := [(3, .int (l3_117 + 1)), (8, .int (s1_117 + s0_117)), (0, .ref (a 0)), (1, .int p0), (2, .int p1), (4, .int l4_117), (5, .int l5_117), (6, .int l6_117), (7, .int l7_117)]) dX11_policy_120 rfl rfl (g_nlt hn rfl) rfl ?_
        refine g_iload C 1 dX11_policy_123 rfl ?_
        refine g_iload C 5 dX11_policy_125 rfl ?_
        refine g_icmp_le C 135 dX11_policy_127 (by decide) (fun c32 => ?_) (fun c32 => ?_)
        · have hf := opt_pos c32 hf
          refine g_iload C 5 dX11_policy_135 rfl ?_
          refine gW.locals [2, 3, 4, 0, 6, 7, 8] rfl ?_
          exact H137 thrown_117 (l3_117 + 1) l5_117 l6_117 l7_117 l4_117 hf
        · have hf := opt_neg c32 hf
          refine g_iload C 1 dX11_policy_130 rfl ?_
          refine g_goto C 137 dX11_policy_132 (by decide) ?_
          refine gW.locals [2, 3, 4, 0, 6, 7, 8] rfl ?_
          exact H137 thrown_117 (l3_117 + 1) l5_117 l6_117 l7_117 (s1_117 + s0_117) hf
      refine g_iload C 6 dX11_policy_62 rfl ?_
      refine g_aload_n C 0 dX11_policy_64 rfl ?_
      refine g_iload_n C 1 dX11_policy_65 rfl ?_
      refine g_bipush C (v := 11) dX11_policy_66 (by decide) ?_
      obtain ⟨v15, h16, hf⟩ := opt_bind hf
      refine g_callV C (c_X11_of (l := x_l X) (D := x_D X) (cy := x_y X) (a := a) (thrown := thrown_62) (g := g) (saved := saved) (hasSaved := hasSaved) (coef := coef) (nodes := nodes) (nodeMany := nodeMany) (isDeep := isDeep) (codes := codes) (details := details) (levelMany := levelMany) (given := given) (paper := paper) (papered := papered) (tape := tape) (taped := taped) (wrongAt := wrongAt) (at_ := at_) (value := value) (readPlace := readPlace) (readValue := readValue) (readEpoch := readEpoch) (p0 := p0) (p1 := 11) h16) (As := [.int p0, .int 11]) (rest := [.int l6_62]) (wr := []) (ws' := fun _ => (wM (x_y X) a thrown_62 g saved hasSaved coef nodes nodeMany isDeep codes details levelMany given paper papered tape taped wrongAt at_ value readPlace readValue readEpoch)) (st' := fun _ => [.int v15, .int l6_62]) (ci := 12) 2 0 ⟨_, rfl⟩ rfl rfl mw_7_69 mw_1_9 mw_7_66 mw_7_68 mp_35 hd_X11_of rfl (g_rm hR rfl rfl) [0, 1, 2, 3, 4, 5, 6, 7, 8, 9] [] [0, 1, 2, 3, 4, 5, 6, 7, 8, 9] ⟨rfl, rfl, rfl, rfl, by decide, gRoIn_0, rfl, fun _ => rfl⟩ rfl (Nat.le_of_ble_eq_true rfl) dX11_policy_68 (g_rc hR (Nat.le_of_ble_eq_true rfl) (Nat.le_of_ble_eq_true rfl)) (ck' := 0) (sk' := 0) rfl rfl (fun _ => rfl) (fun _ _ => ?_) (fun _ hx => absurd rfl hx)
      refine g_icmp_ge C 174 dX11_policy_71 (by decide) (fun c17 => ?_) (fun c17 => ?_)
      · have hf := opt_pos c17 hf
        refine g_aload_n C 0 dX11_policy_174 rfl ?_
        refine g_iload_n C 2 dX11_policy_175 rfl ?_
        refine g_if_ne C 183 dX11_policy_176 (by decide) (fun c18 => ?_) (fun c18 => ?_)
        · have hf := opt_neg c18 hf
          refine g_iload_n C 2 dX11_policy_183 rfl ?_
          refine g_iconst C (v := 1) dX11_policy_184 (by decide) ?_
          refine g_icmp_ne C 193 dX11_policy_185 (by decide) (fun c19 => ?_) (fun c19 => ?_)
          · have hf := opt_neg c19 hf
            refine g_iload C 5 dX11_policy_193 rfl ?_
            refine gW.locals [0, 1, 2] rfl ?_
            exact H195 thrown_62 l5_62 hf
          · have hf := opt_pos c19 hf
            refine g_iload C 4 dX11_policy_188 rfl ?_
            refine g_goto C 195 dX11_policy_190 (by decide) ?_
            refine gW.locals [0, 1, 2] rfl ?_
            exact H195 thrown_62 l4_62 hf
        · have hf := opt_pos c18 hf
          refine g_iload_n C 3 dX11_policy_179 rfl ?_
          refine g_goto C 195 dX11_policy_180 (by decide) ?_
          refine gW.locals [0, 1, 2] rfl ?_
          exact H195 thrown_62 l3_62 hf
      · have hf := opt_neg c17 hf
        refine g_aload_n C 0 dX11_policy_74 rfl ?_
        refine g_iload_n C 1 dX11_policy_75 rfl ?_
        refine g_iload C 6 dX11_policy_76 rfl ?_
        obtain ⟨v22, h23, hf⟩ := opt_bind hf
        refine g_callV C (c_X11_isDigitAt (l := x_l X) (D := x_D X) (cy := x_y X) (a := a) (thrown := thrown_62) (g := g) (saved := saved) (hasSaved := hasSaved) (coef := coef) (nodes := nodes) (nodeMany := nodeMany) (isDeep := isDeep) (codes := codes) (details := details) (levelMany := levelMany) (given := given) (paper := paper) (papered := papered) (tape := tape) (taped := taped) (wrongAt := wrongAt) (at_ := at_) (value := value) (readPlace := readPlace) (readValue := readValue) (readEpoch := readEpoch) (p0 := p0) (p1 := l6_62) h23) (As := [.int p0, .int l6_62]) (rest := []) (wr := []) (ws' := fun _ => (wM (x_y X) a thrown_62 g saved hasSaved coef nodes nodeMany isDeep codes details levelMany given paper papered tape taped wrongAt at_ value readPlace readValue readEpoch)) (st' := fun _ => [.int v22]) (ci := 12) 2 0 ⟨_, rfl⟩ rfl rfl mw_8_87 mw_1_9 mw_8_84 mw_8_86 mp_67 hd_X11_isDigitAt rfl (g_rm hR rfl rfl) [0, 1, 2, 3, 4, 5, 6, 7, 8, 9] [] [0, 1, 2, 3, 4, 5, 6, 7, 8, 9] ⟨rfl, rfl, rfl, rfl, by decide, gRoIn_0, rfl, fun _ => rfl⟩ rfl (Nat.le_of_ble_eq_true rfl) dX11_policy_78 (g_rc hR (Nat.le_of_ble_eq_true rfl) (Nat.le_of_ble_eq_true rfl)) (ck' := 0) (sk' := 0) rfl rfl (fun _ => rfl) (fun _ _ => ?_) (fun _ hx => absurd rfl hx)
        refine g_if_eq C 168 dX11_policy_81 (by decide) (fun c24 => ?_) (fun c24 => ?_)
        · have hf := opt_pos c24 hf
          exact H168 thrown_62 l3_62 l4_62 l5_62 l6_62 hf
        · have hf := opt_neg c24 hf
          refine g_aload_n C 0 dX11_policy_84 rfl ?_
          refine g_iload_n C 1 dX11_policy_85 rfl ?_
          refine g_iload C 6 dX11_policy_86 rfl ?_
          refine g_aload_n C 0 dX11_policy_88 rfl ?_
          refine g_iload_n C 1 dX11_policy_89 rfl ?_
          refine g_bipush C (v := 11) dX11_policy_90 (by decide) ?_
          obtain ⟨v25, h26, hf⟩ := opt_bind hf
          refine g_callV C (c_X11_of (l := x_l X) (D := x_D X) (cy := x_y X) (a := a) (thrown := thrown_62) (g := g) (saved := saved) (hasSaved := hasSaved) (coef := coef) (nodes := nodes) (nodeMany := nodeMany) (isDeep := isDeep) (codes := codes) (details := details) (levelMany := levelMany) (given := given) (paper := paper) (papered := papered) (tape := tape) (taped := taped) (wrongAt := wrongAt) (at_ := at_) (value := value) (readPlace := readPlace) (readValue := readValue) (readEpoch := readEpoch) (p0 := p0) (p1 := 11) h26) (As := [.int p0, .int 11]) (rest := [.int l6_62, .int p0, .ref (a 0)]) (wr := []) (ws' := fun _ => (wM (x_y X) a thrown_62 g saved hasSaved coef nodes nodeMany isDeep codes details levelMany given paper papered tape taped wrongAt at_ value readPlace readValue readEpoch)) (st' := fun _ => [.int v25, .int l6_62, .int p0, .ref (a 0)]) (ci := 12) 2 0 ⟨_, rfl⟩ rfl rfl mw_7_69 mw_1_9 mw_7_66 mw_7_68 mp_35 hd_X11_of rfl (g_rm hR rfl rfl) [0, 1, 2, 3, 4, 5, 6, 7, 8, 9] [] [0, 1, 2, 3, 4, 5, 6, 7, 8, 9] ⟨rfl, rfl, rfl, rfl, by decide, gRoIn_0, rfl, fun _ => rfl⟩ rfl (Nat.le_of_ble_eq_true rfl) dX11_policy_92 (g_rc hR (Nat.le_of_ble_eq_true rfl) (Nat.le_of_ble_eq_true rfl)) (ck' := 0) (sk' := 0) rfl rfl (fun _ => rfl) (fun _ _ => ?_) (fun _ hx => absurd rfl hx)
          obtain ⟨v27, h28, hf⟩ := opt_bind hf
          refine g_callV C (c_X11_isCount (l := x_l X) (D := x_D X) (cy := x_y X) (a := a) (thrown := thrown_62) (g := g) (saved := saved) (hasSaved := hasSaved) (coef := coef) (nodes := nodes) (nodeMany := nodeMany) (isDeep := isDeep) (codes := codes) (details := details) (levelMany := levelMany) (given := given) (paper := paper) (papered := papered) (tape := tape) (taped := taped) (wrongAt := wrongAt) (at_ := at_) (value := value) (readPlace := readPlace) (readValue := readValue) (readEpoch := readEpoch) (p0 := p0) (p1 := l6_62) (p2 := v25) h28) (As := [.int p0, .int l6_62, .int v25]) (rest := []) (wr := []) (ws' := fun _ => (wM (x_y X) a thrown_62 g saved hasSaved coef nodes nodeMany isDeep codes details levelMany given paper papered tape taped wrongAt at_ value readPlace readValue readEpoch)) (st' := fun _ => [.int v27]) (ci := 12) 3 0 ⟨_, rfl⟩ rfl rfl mw_7_172 mw_1_9 mw_7_169 mw_7_171 mp_53 hd_X11_isCount rfl (g_rm hR rfl rfl) [0, 1, 2, 3, 4, 5, 6, 7, 8, 9] [] [0, 1, 2, 3, 4, 5, 6, 7, 8, 9] ⟨rfl, rfl, rfl, rfl, by decide, gRoIn_0, rfl, fun _ => rfl⟩ rfl (Nat.le_of_ble_eq_true rfl) dX11_policy_95 (g_rc hR (Nat.le_of_ble_eq_true rfl) (Nat.le_of_ble_eq_true rfl)) (ck' := 0) (sk' := 0) rfl rfl (fun _ => rfl) (fun _ _ => ?_) (fun _ hx => absurd rfl hx)
          refine g_istore C (lv' := [(7, .int v27), (0, .ref (a 0)), (1, .int p0), (2, .int p1), (3, .int l3_62), (4, .int l4_62), (5, .int l5_62), (6, .int l6_62)]) dX11_policy_98 (g_nlt hn rfl) rfl ?_
          refine g_aload_n C 1 dX11_policy_100 rfl ?_
          refine g_iload_n C 2 dX11_policy_101 rfl ?_
          refine g_iload C 7 dX11_policy_102 rfl ?_
          obtain ⟨v29, h30, hf⟩ := opt_bind hf
          refine g_callV C (c_X11_countsAround (l := x_l X) (D := x_D X) (cy := x_y X) (a := a) (thrown := thrown_62) (g := g) (saved := saved) (hasSaved := hasSaved) (coef := coef) (nodes := nodes) (nodeMany := nodeMany) (isDeep := isDeep) (codes := codes) (details := details) (levelMany := levelMany) (given := given) (paper := paper) (papered := papered) (tape := tape) (taped := taped) (wrongAt := wrongAt) (at_ := at_) (value := value) (readPlace := readPlace) (readValue := readValue) (readEpoch := readEpoch) (p0 := p0) (p1 := l6_62) h30) (As := [.int p0, .int l6_62]) (rest := []) (wr := []) (ws' := fun _ => (wM (x_y X) a thrown_62 g saved hasSaved coef nodes nodeMany isDeep codes details levelMany given paper papered tape taped wrongAt at_ value readPlace readValue readEpoch)) (st' := fun _ => [.int v29]) (ci := 12) 2 0 ⟨_, rfl⟩ rfl rfl mw_8_91 mw_1_9 mw_8_88 mw_8_90 mp_68 hd_X11_countsAround rfl (g_rm hR rfl rfl) [0, 1, 2, 3, 4, 5, 6, 7, 8, 9] [] [0, 1, 2, 3, 4, 5, 6, 7, 8, 9] ⟨rfl, rfl, rfl, rfl, by decide, gRoIn_0, rfl, fun _ => rfl⟩ rfl (Nat.le_of_ble_eq_true rfl) dX11_policy_104 (g_rc hR (Nat.le_of_ble_eq_true rfl) (Nat.le_of_ble_eq_true rfl)) (ck' := 0) (sk' := 0) rfl rfl (fun _ => rfl) (fun _ _ => ?_) (fun _ hx => absurd rfl hx)
          refine g_iload C 0 dX11_policy_107 rfl ?_
          refine g_if_eq C 116 dX11_policy_109 (by decide) (fun c31 => ?_) (fun c31 => ?_)
          · have hf := opt_pos c31 hf
            refine g_iconst C (v := 0) dX11_policy_116 (by decide) ?_
            refine gW.locals [1, 2, 3, 4, 5, 6, 7, 0] rfl ?_
            exact H117 thrown_62 l3_62 l4_62 l5_62 l6_62 v27 0 v29 hf
          · have hf := opt_neg c31 hf
            refine g_iconst C (v := 1) dX11_policy_112 (by decide) ?_
            refine g_goto C 117 dX11_policy_113 (by decide) ?_
            refine gW.locals [1, 2, 3, 4, 5, 6, 7, 0] rfl ?_
            exact H117 thrown_62 l3_62 l4_62 l5_62 l6_62 v27 1 v29 hf
  show gW X Q 0 0 ((wM (x_y X) a thrown g saved hasSaved coef nodes nodeMany isDeep codes details levelMany given paper papered tape taped wrongAt at_ value readPlace readValue readEpoch)) [(0, .ref (a 0)), (1, .int p0), (2, .int p1)] [] 0
  refine g_iload_n C 1 dX11_policy_0 rfl ?_
  obtain ⟨v1, h2, hf⟩ := opt_bind hf
  refine g_callS C (c_X11_isSlot (l := x_l X) (D := x_D X) (cy := x_y X) (p0 := p0) h2) (As := [.int p0]) (rest := []) (wr := (wM (x_y X) a thrown g saved hasSaved coef nodes nodeMany isDeep codes details levelMany given paper papered tape taped wrongAt at_ value readPlace readValue readEpoch)) (ws' := fun _ => (wM (x_y X) a thrown g saved hasSaved coef nodes nodeMany isDeep codes details levelMany given paper papered tape taped wrongAt at_ value readPlace readValue readEpoch)) (st' := fun _ => [.int v1]) 1 mw_7_83 mw_1_9 mw_7_81 mw_7_82 hd_X11_isSlot rfl (g_rm hR rfl rfl) [] [0, 1, 2, 3, 4, 5, 6, 7, 8, 9] [0, 1, 2, 3, 4, 5, 6, 7, 8, 9] ⟨rfl, rfl, rfl, rfl, by decide, gRoIn_0, rfl, fun _ => rfl⟩ rfl (Nat.le_of_ble_eq_true rfl) dX11_policy_1 (g_rc hR (Nat.le_of_ble_eq_true rfl) (Nat.le_of_ble_eq_true rfl)) (ck' := 0) (sk' := 0) rfl rfl (fun _ => rfl) (fun _ _ => ?_) (fun _ hx => absurd rfl hx)
  refine g_if_ne C 13 dX11_policy_4 (by decide) (fun c3 => ?_) (fun c3 => ?_)
  · have hf := opt_neg c3 hf
    refine g_iload_n C 2 dX11_policy_13 rfl ?_
    refine g_iconst C (v := 0) dX11_policy_14 (by decide) ?_
    refine g_iconst C (v := 2) dX11_policy_15 (by decide) ?_
    obtain ⟨v4, h5, hf⟩ := opt_bind hf
    refine g_callS C (c_X11_in (l := x_l X) (D := x_D X) (cy := x_y X) (p0 := p1) (p1 := 0) (p2 := 2) h5) (As := [.int p1, .int 0, .int 2]) (rest := []) (wr := (wM (x_y X) a thrown g saved hasSaved coef nodes nodeMany isDeep codes details levelMany given paper papered tape taped wrongAt at_ value readPlace readValue readEpoch)) (ws' := fun _ => (wM (x_y X) a thrown g saved hasSaved coef nodes nodeMany isDeep codes details levelMany given paper papered tape taped wrongAt at_ value readPlace readValue readEpoch)) (st' := fun _ => [.int v4]) 3 mw_7_41 mw_1_9 mw_7_39 mw_7_40 hd_X11_in rfl (g_rm hR rfl rfl) [] [0, 1, 2, 3, 4, 5, 6, 7, 8, 9] [0, 1, 2, 3, 4, 5, 6, 7, 8, 9] ⟨rfl, rfl, rfl, rfl, by decide, gRoIn_0, rfl, fun _ => rfl⟩ rfl (Nat.le_of_ble_eq_true rfl) dX11_policy_16 (g_rc hR (Nat.le_of_ble_eq_true rfl) (Nat.le_of_ble_eq_true rfl)) (ck' := 0) (sk' := 0) rfl rfl (fun _ => rfl) (fun _ _ => ?_) (fun _ hx => absurd rfl hx)
    refine g_if_ne C 28 dX11_policy_19 (by decide) (fun c6 => ?_) (fun c6 => ?_)
    · have hf := opt_neg c6 hf
      refine g_aload_n C 0 dX11_policy_28 rfl ?_
      refine g_iload_n C 1 dX11_policy_29 rfl ?_
      refine g_iconst C (v := 0) dX11_policy_30 (by decide) ?_
      obtain ⟨v7, h8, hf⟩ := opt_bind hf
      refine g_callV C (c_X11_of (l := x_l X) (D := x_D X) (cy := x_y X) (a := a) (thrown := thrown) (g := g) (saved := saved) (hasSaved := hasSaved) (coef := coef) (nodes := nodes) (nodeMany := nodeMany) (isDeep := isDeep) (codes := codes) (details := details) (levelMany := levelMany) (given := given) (paper := paper) (papered := papered) (tape := tape) (taped := taped) (wrongAt := wrongAt) (at_ := at_) (value := value) (readPlace := readPlace) (readValue := readValue) (readEpoch := readEpoch) (p0 := p0) (p1 := 0) h8) (As := [.int p0, .int 0]) (rest := []) (wr := []) (ws' := fun _ => (wM (x_y X) a thrown g saved hasSaved coef nodes nodeMany isDeep codes details levelMany given paper papered tape taped wrongAt at_ value readPlace readValue readEpoch)) (st' := fun _ => [.int v7]) (ci := 12) 2 0 ⟨_, rfl⟩ rfl rfl mw_7_69 mw_1_9 mw_7_66 mw_7_68 mp_35 hd_X11_of rfl (g_rm hR rfl rfl) [0, 1, 2, 3, 4, 5, 6, 7, 8, 9] [] [0, 1, 2, 3, 4, 5, 6, 7, 8, 9] ⟨rfl, rfl, rfl, rfl, by decide, gRoIn_0, rfl, fun _ => rfl⟩ rfl (Nat.le_of_ble_eq_true rfl) dX11_policy_31 (g_rc hR (Nat.le_of_ble_eq_true rfl) (Nat.le_of_ble_eq_true rfl)) (ck' := 0) (sk' := 0) rfl rfl (fun _ => rfl) (fun _ _ => ?_) (fun _ hx => absurd rfl hx)
      refine g_if_eq C 45 dX11_policy_34 (by decide) (fun c9 => ?_) (fun c9 => ?_)
      · have hf := opt_pos c9 hf
        exact H45 thrown hf
      · have hf := opt_neg c9 hf
        refine g_aload_n C 0 dX11_policy_37 rfl ?_
        refine g_iload_n C 1 dX11_policy_38 rfl ?_
        obtain ⟨v12, h13, hf⟩ := opt_bind hf
        refine g_callV C (c_X11_hasPolicy (l := x_l X) (D := x_D X) (cy := x_y X) (a := a) (thrown := thrown) (g := g) (saved := saved) (hasSaved := hasSaved) (coef := coef) (nodes := nodes) (nodeMany := nodeMany) (isDeep := isDeep) (codes := codes) (details := details) (levelMany := levelMany) (given := given) (paper := paper) (papered := papered) (tape := tape) (taped := taped) (wrongAt := wrongAt) (at_ := at_) (value := value) (readPlace := readPlace) (readValue := readValue) (readEpoch := readEpoch) (p0 := p0) h13) (As := [.int p0]) (rest := []) (wr := []) (ws' := fun _ => (wM (x_y X) a thrown g saved hasSaved coef nodes nodeMany isDeep codes details levelMany given paper papered tape taped wrongAt at_ value readPlace readValue readEpoch)) (st' := fun _ => [.int v12]) (ci := 12) 1 0 ⟨_, rfl⟩ rfl rfl mw_7_161 mw_1_9 mw_7_158 mw_7_160 mp_51 hd_X11_hasPolicy rfl (g_rm hR rfl rfl) [0, 1, 2, 3, 4, 5, 6, 7, 8, 9] [] [0, 1, 2, 3, 4, 5, 6, 7, 8, 9] ⟨rfl, rfl, rfl, rfl, by decide, gRoIn_0, rfl, fun _ => rfl⟩ rfl (Nat.le_of_ble_eq_true rfl) dX11_policy_39 (g_rc hR (Nat.le_of_ble_eq_true rfl) (Nat.le_of_ble_eq_true rfl)) (ck' := 0) (sk' := 0) rfl rfl (fun _ => rfl) (fun _ _ => ?_) (fun _ hx => absurd rfl hx)
        refine g_if_ne C 51 dX11_policy_42 (by decide) (fun c14 => ?_) (fun c14 => ?_)
        · have hf := opt_neg c14 hf
          refine g_iconst C (v := 0) dX11_policy_51 (by decide) ?_
          refine g_istore_n C (lv' := [(3, .int 0), (0, .ref (a 0)), (1, .int p0), (2, .int p1)]) dX11_policy_52 (g_nlt hn rfl) rfl ?_
          refine g_iconst C (v := 0) dX11_policy_53 (by decide) ?_
          refine g_istore C (lv' := [(4, .int 0), (3, .int 0), (0, .ref (a 0)), (1, .int p0), (2, .int p1)]) dX11_policy_54 (g_nlt hn rfl) rfl ?_
          refine g_iconst C (v := 0) dX11_policy_56 (by decide) ?_
          refine g_istore C (lv' := [(5, .int 0), (4, .int 0), (3, .int 0), (0, .ref (a 0)), (1, .int p0), (2, .int p1)]) dX11_policy_57 (g_nlt hn rfl) rfl ?_
          refine g_iconst C (v := 0) dX11_policy_59 (by decide) ?_
          refine g_istore C (lv' := [(6, .int 0), (5, .int 0), (4, .int 0), (3, .int 0), (0, .ref (a 0)), (1, .int p0), (2, .int p1)]) dX11_policy_60 (g_nlt hn rfl) rfl ?_
          refine gW.locals [4, 5, 6, 3, 2, 1, 0] rfl ?_
          exact H62 1000 thrown 0 0 0 0 hf
        · have hf := opt_pos c14 hf
          exact H45 thrown hf
    · have hf := opt_pos c6 hf
      refine g_aload_n C 0 dX11_policy_22 rfl ?_
      refine g_iconst C (v := 2) dX11_policy_23 (by decide) ?_
      obtain ⟨v36, h37, hf⟩ := opt_bind hf
      refine g_callV C (c_X11_fails (l := x_l X) (D := x_D X) (cy := x_y X) (a := a) (thrown := thrown) (g := g) (saved := saved) (hasSaved := hasSaved) (coef := coef) (nodes := nodes) (nodeMany := nodeMany) (isDeep := isDeep) (codes := codes) (details := details) (levelMany := levelMany) (given := given) (paper := paper) (papered := papered) (tape := tape) (taped := taped) (wrongAt := wrongAt) (at_ := at_) (value := value) (readPlace := readPlace) (readValue := readValue) (readEpoch := readEpoch) (p0 := 2) h37) (As := [.int 2]) (rest := []) (wr := []) (ws' := fun _ => (wM (x_y X) a v36.2 g saved hasSaved coef nodes nodeMany isDeep codes details levelMany given paper papered tape taped wrongAt at_ value readPlace readValue readEpoch)) (st' := fun _ => [.int v36.1]) (ci := 12) 1 0 ⟨_, rfl⟩ rfl rfl mw_7_45 mw_1_9 mw_7_42 mw_7_44 mp_31 hd_X11_fails rfl (g_rm hR rfl rfl) [0, 1, 2, 3, 4, 5, 6, 7, 8, 9] [] [0, 1, 2, 3, 4, 5, 6, 7, 8, 9] ⟨rfl, rfl, rfl, rfl, by decide, gRoIn_0, rfl, fun _ => rfl⟩ rfl (Nat.le_of_ble_eq_true rfl) dX11_policy_24 (g_rc hR (Nat.le_of_ble_eq_true rfl) (Nat.le_of_ble_eq_true rfl)) (ck' := 0) (sk' := 0) rfl rfl (fun _ => rfl) (fun _ _ => ?_) (fun _ hx => absurd rfl hx)
      obtain rfl := Option.some.inj hf
      exact g_iret C E () dX11_policy_27 rfl rfl rfl (Nat.le_of_ble_eq_true rfl) (Nat.le_of_ble_eq_true rfl)
  · have hf := opt_pos c3 hf
    refine g_aload_n C 0 dX11_policy_7 rfl ?_
    refine g_iconst C (v := 1) dX11_policy_8 (by decide) ?_
    obtain ⟨v38, h39, hf⟩ := opt_bind hf
    refine g_callV C (c_X11_fails (l := x_l X) (D := x_D X) (cy := x_y X) (a := a) (thrown := thrown) (g := g) (saved := saved) (hasSaved := hasSaved) (coef := coef) (nodes := nodes) (nodeMany := nodeMany) (isDeep := isDeep) (codes := codes) (details := details) (levelMany := levelMany) (given := given) (paper := paper) (papered := papered) (tape := tape) (taped := taped) (wrongAt := wrongAt) (at_ := at_) (value := value) (readPlace := readPlace) (readValue := readValue) (readEpoch := readEpoch) (p0 := 1) h39) (As := [.int 1]) (rest := []) (wr := []) (ws' := fun _ => (wM (x_y X) a v38.2 g saved hasSaved coef nodes nodeMany isDeep codes details levelMany given paper papered tape taped wrongAt at_ value readPlace readValue readEpoch)) (st' := fun _ => [.int v38.1]) (ci := 12) 1 0 ⟨_, rfl⟩ rfl rfl mw_7_45 mw_1_9 mw_7_42 mw_7_44 mp_31 hd_X11_fails rfl (g_rm hR rfl rfl) [0, 1, 2, 3, 4, 5, 6, 7, 8, 9] [] [0, 1, 2, 3, 4, 5, 6, 7, 8, 9] ⟨rfl, rfl, rfl, rfl, by decide, gRoIn_0, rfl, fun _ => rfl⟩ rfl (Nat.le_of_ble_eq_true rfl) dX11_policy_9 (g_rc hR (Nat.le_of_ble_eq_true rfl) (Nat.le_of_ble_eq_true rfl)) (ck' := 0) (sk' := 0) rfl rfl (fun _ => rfl) (fun _ _ => ?_) (fun _ hx => absurd rfl hx)
    obtain rfl := Option.some.inj hf
    exact g_iret C E () dX11_policy_12 rfl rfl rfl (Nat.le_of_ble_eq_true rfl) (Nat.le_of_ble_eq_true rfl)
/-! X11_levels -/
theorem hd_X11_levels : yX11_levels.cls ≠ "java/lang/invoke/MethodHandle" ∧ yX11_levels.cls ≠ "java/lang/invoke/VarHandle" ∧ (parseMethodDescriptor yX11_levels.desc).map (fun d => d.parameters.length) = some 0 := by decide +kernel
def F_X11_levels (thrown : Int32) (levelMany : Int32) : Option (Int32 × Int32) := (F_X11_done thrown levelMany).bind fun v1 => some (v1.1, v1.2)
set_option maxRecDepth 100000 in
set_option maxHeartbeats 4000000 in
theorem c_X11_levels {l : Launch} {D : va_G} {cy : Nat → ClassId} {a : Nat → Nat} {thrown : Int32} {g : Nat → Int32} {saved : Nat → Int32} {hasSaved : Int32} {coef : Nat → Int32} {nodes : Nat → Int32} {nodeMany : Int32} {isDeep : Int32} {codes : Nat → Int32} {details : Nat → Int32} {levelMany : Int32} {given : Nat → Int32} {paper : Nat → Int32} {papered : Int32} {tape : Nat → Int32} {taped : Int32} {wrongAt : Int32} {at_ : Int32} {value : Int32} {readPlace : Int32} {readValue : Int32} {readEpoch : Int32}   {val : Int32 × Int32} (hf : F_X11_levels thrown levelMany = some val) : gCt l D cy yX11_levels cX11_levels 1 (some .int) 1 21 0 0 [.ref (a 0)] [] ((wM cy a thrown g saved hasSaved coef nodes nodeMany isDeep codes details levelMany given paper papered tape taped wrongAt at_ value readPlace readValue readEpoch)) 0 (fun _ : Unit => some (.int val.1)) (fun _ => (wM cy a val.2 g saved hasSaved coef nodes nodeMany isDeep codes details levelMany given paper papered tape taped wrongAt at_ value readPlace readValue readEpoch)) := by
  refine g_begin (by decide +kernel) (Nat.le_of_ble_eq_true rfl) ?_
  intro X Q hl hR hD hy hro hn C hin E
  subst hl; subst hD; subst hy
  replace C : gC X "SecretVaultModel" cX11_levels (some .int) := C
  unfold F_X11_levels at hf
  show gW X Q 0 0 ((wM (x_y X) a thrown g saved hasSaved coef nodes nodeMany isDeep codes details levelMany given paper papered tape taped wrongAt at_ value readPlace readValue readEpoch)) [(0, .ref (a 0))] [] 0
  refine g_aload_n C 0 dX11_levels_0 rfl ?_
  refine g_aload_n C 0 dX11_levels_1 rfl ?_
  refine g_get C 0 10 rfl rfl wiX11 (by decide) mw_6_193 rfl rfl dX11_levels_2 ?_
  obtain ⟨v1, h2, hf⟩ := opt_bind hf
  refine g_callV C (c_X11_done (l := x_l X) (D := x_D X) (cy := x_y X) (a := a) (thrown := thrown) (g := g) (saved := saved) (hasSaved := hasSaved) (coef := coef) (nodes := nodes) (nodeMany := nodeMany) (isDeep := isDeep) (codes := codes) (details := details) (levelMany := levelMany) (given := given) (paper := paper) (papered := papered) (tape := tape) (taped := taped) (wrongAt := wrongAt) (at_ := at_) (value := value) (readPlace := readPlace) (readValue := readValue) (readEpoch := readEpoch) (p0 := levelMany) h2) (As := [.int levelMany]) (rest := []) (wr := []) (ws' := fun _ => (wM (x_y X) a v1.2 g saved hasSaved coef nodes nodeMany isDeep codes details levelMany given paper papered tape taped wrongAt at_ value readPlace readValue readEpoch)) (st' := fun _ => [.int v1.1]) (ci := 12) 1 0 ⟨_, rfl⟩ rfl rfl mw_7_22 mw_1_9 mw_7_19 mw_7_21 mp_29 hd_X11_done rfl (g_rm hR rfl rfl) [0, 1, 2, 3, 4, 5, 6, 7, 8, 9] [] [0, 1, 2, 3, 4, 5, 6, 7, 8, 9] ⟨rfl, rfl, rfl, rfl, by decide, gRoIn_0, rfl, fun _ => rfl⟩ rfl (Nat.le_of_ble_eq_true rfl) dX11_levels_5 (g_rc hR (Nat.le_of_ble_eq_true rfl) (Nat.le_of_ble_eq_true rfl)) (ck' := 0) (sk' := 0) rfl rfl (fun _ => rfl) (fun _ _ => ?_) (fun _ hx => absurd rfl hx)
  obtain rfl := Option.some.inj hf
  exact g_iret C E () dX11_levels_8 rfl rfl rfl (Nat.le_of_ble_eq_true rfl) (Nat.le_of_ble_eq_true rfl)
/-! X11_report -/
theorem hd_X11_report : yX11_report.cls ≠ "java/lang/invoke/MethodHandle" ∧ yX11_report.cls ≠ "java/lang/invoke/VarHandle" ∧ (parseMethodDescriptor yX11_report.desc).map (fun d => d.parameters.length) = some 2 := by decide +kernel
def F_X11_report_L60   (thrown_60 : Int32) (s0_60 : Int32) : Option (Int32 × Int32) := some (s0_60, thrown_60)
def F_X11_report (thrown : Int32) (codes : Nat → Int32) (details : Nat → Int32) (levelMany : Int32) (p0 : Int32) (p1 : Int32) : Option (Int32 × Int32) := (F_X11_in p0 0 (levelMany - 1)).bind fun v1 => if v1 = 0 then ((F_X11_fails thrown 1).bind fun v14 => some (v14.1, v14.2)) else (if p1 = 0 then (gg (gi p0 30) ((F_X11_done thrown (codes (Int32.toNatClampNeg p0))).bind fun v12 => F_X11_report_L60 v12.2 v12.1)) else (if p1 = 1 then (gg (gi p0 30) ((F_X11_done thrown (details (Int32.toNatClampNeg p0))).bind fun v9 => F_X11_report_L60 v9.2 v9.1)) else ((F_X11_fails thrown 2).bind fun v6 => F_X11_report_L60 v6.2 v6.1)))
set_option maxRecDepth 100000 in
set_option maxHeartbeats 4000000 in
theorem c_X11_report {l : Launch} {D : va_G} {cy : Nat → ClassId} {a : Nat → Nat} {thrown : Int32} {g : Nat → Int32} {saved : Nat → Int32} {hasSaved : Int32} {coef : Nat → Int32} {nodes : Nat → Int32} {nodeMany : Int32} {isDeep : Int32} {codes : Nat → Int32} {details : Nat → Int32} {levelMany : Int32} {given : Nat → Int32} {paper : Nat → Int32} {papered : Int32} {tape : Nat → Int32} {taped : Int32} {wrongAt : Int32} {at_ : Int32} {value : Int32} {readPlace : Int32} {readValue : Int32} {readEpoch : Int32} {p0 : Int32} {p1 : Int32}  {val : Int32 × Int32} (hf : F_X11_report thrown codes details levelMany p0 p1 = some val) : gCt l D cy yX11_report cX11_report 3 (some .int) 1 22 0 0 [.ref (a 0), .int p0, .int p1] [] ((wM cy a thrown g saved hasSaved coef nodes nodeMany isDeep codes details levelMany given paper papered tape taped wrongAt at_ value readPlace readValue readEpoch)) 0 (fun _ : Unit => some (.int val.1)) (fun _ => (wM cy a val.2 g saved hasSaved coef nodes nodeMany isDeep codes details levelMany given paper papered tape taped wrongAt at_ value readPlace readValue readEpoch)) := by
  refine g_begin (by decide +kernel) (Nat.le_of_ble_eq_true rfl) ?_
  intro X Q hl hR hD hy hro hn C hin E
  subst hl; subst hD; subst hy
  replace C : gC X "SecretVaultModel" cX11_report (some .int) := C
  unfold F_X11_report at hf
  have H60 : ∀ (thrown_60 : Int32) (s0_60 : Int32), F_X11_report_L60 thrown_60 s0_60 = some val → gW X Q 0 0 ((wM (x_y X) a thrown_60 g saved hasSaved coef nodes nodeMany isDeep codes details levelMany given paper papered tape taped wrongAt at_ value readPlace readValue readEpoch)) [(0, .ref (a 0)), (1, .int p0), (2, .int p1)] [.int s0_60] 60 := by
    intro thrown_60 s0_60 hf
    unfold F_X11_report_L60 at hf
    obtain rfl := Option.some.inj hf
    exact g_iret C E () dX11_report_60 rfl rfl rfl (Nat.le_of_ble_eq_true rfl) (Nat.le_of_ble_eq_true rfl)
  show gW X Q 0 0 ((wM (x_y X) a thrown g saved hasSaved coef nodes nodeMany isDeep codes details levelMany given paper papered tape taped wrongAt at_ value readPlace readValue readEpoch)) [(0, .ref (a 0)), (1, .int p0), (2, .int p1)] [] 0
  refine g_iload_n C 1 dX11_report_0 rfl ?_
  refine g_iconst C (v := 0) dX11_report_1 (by decide) ?_
  refine g_aload_n C 0 dX11_report_2 rfl ?_
  refine g_get C 0 10 rfl rfl wiX11 (by decide) mw_6_193 rfl rfl dX11_report_3 ?_
  refine g_iconst C (v := 1) dX11_report_6 (by decide) ?_
  refine g_isub C dX11_report_7 ?_
  obtain ⟨v1, h2, hf⟩ := opt_bind hf
  refine g_callS C (c_X11_in (l := x_l X) (D := x_D X) (cy := x_y X) (p0 := p0) (p1 := 0) (p2 := levelMany - 1) h2) (As := [.int p0, .int 0, .int (levelMany - 1)]) (rest := []) (wr := (wM (x_y X) a thrown g saved hasSaved coef nodes nodeMany isDeep codes details levelMany given paper papered tape taped wrongAt at_ value readPlace readValue readEpoch)) (ws' := fun _ => (wM (x_y X) a thrown g saved hasSaved coef nodes nodeMany isDeep codes details levelMany given paper papered tape taped wrongAt at_ value readPlace readValue readEpoch)) (st' := fun _ => [.int v1]) 3 mw_7_41 mw_1_9 mw_7_39 mw_7_40 hd_X11_in rfl (g_rm hR rfl rfl) [] [0, 1, 2, 3, 4, 5, 6, 7, 8, 9] [0, 1, 2, 3, 4, 5, 6, 7, 8, 9] ⟨rfl, rfl, rfl, rfl, by decide, gRoIn_0, rfl, fun _ => rfl⟩ rfl (Nat.le_of_ble_eq_true rfl) dX11_report_8 (g_rc hR (Nat.le_of_ble_eq_true rfl) (Nat.le_of_ble_eq_true rfl)) (ck' := 0) (sk' := 0) rfl rfl (fun _ => rfl) (fun _ _ => ?_) (fun _ hx => absurd rfl hx)
  refine g_if_ne C 20 dX11_report_11 (by decide) (fun c3 => ?_) (fun c3 => ?_)
  · have hf := opt_neg c3 hf
    refine g_iload_n C 2 dX11_report_20 rfl ?_
    refine g_if_ne C 37 dX11_report_21 (by decide) (fun c4 => ?_) (fun c4 => ?_)
    · have hf := opt_neg c4 hf
      refine g_iload_n C 2 dX11_report_37 rfl ?_
      refine g_iconst C (v := 1) dX11_report_38 (by decide) ?_
      refine g_icmp_ne C 55 dX11_report_39 (by decide) (fun c5 => ?_) (fun c5 => ?_)
      · have hf := opt_neg c5 hf
        refine g_aload_n C 0 dX11_report_55 rfl ?_
        refine g_iconst C (v := 2) dX11_report_56 (by decide) ?_
        obtain ⟨v6, h7, hf⟩ := opt_bind hf
        refine g_callV C (c_X11_fails (l := x_l X) (D := x_D X) (cy := x_y X) (a := a) (thrown := thrown) (g := g) (saved := saved) (hasSaved := hasSaved) (coef := coef) (nodes := nodes) (nodeMany := nodeMany) (isDeep := isDeep) (codes := codes) (details := details) (levelMany := levelMany) (given := given) (paper := paper) (papered := papered) (tape := tape) (taped := taped) (wrongAt := wrongAt) (at_ := at_) (value := value) (readPlace := readPlace) (readValue := readValue) (readEpoch := readEpoch) (p0 := 2) h7) (As := [.int 2]) (rest := []) (wr := []) (ws' := fun _ => (wM (x_y X) a v6.2 g saved hasSaved coef nodes nodeMany isDeep codes details levelMany given paper papered tape taped wrongAt at_ value readPlace readValue readEpoch)) (st' := fun _ => [.int v6.1]) (ci := 12) 1 0 ⟨_, rfl⟩ rfl rfl mw_7_45 mw_1_9 mw_7_42 mw_7_44 mp_31 hd_X11_fails rfl (g_rm hR rfl rfl) [0, 1, 2, 3, 4, 5, 6, 7, 8, 9] [] [0, 1, 2, 3, 4, 5, 6, 7, 8, 9] ⟨rfl, rfl, rfl, rfl, by decide, gRoIn_0, rfl, fun _ => rfl⟩ rfl (Nat.le_of_ble_eq_true rfl) dX11_report_57 (g_rc hR (Nat.le_of_ble_eq_true rfl) (Nat.le_of_ble_eq_true rfl)) (ck' := 0) (sk' := 0) rfl rfl (fun _ => rfl) (fun _ _ => ?_) (fun _ hx => absurd rfl hx)
        exact H60 v6.2 v6.1 hf
      · have hf := opt_pos c5 hf
        refine g_aload_n C 0 dX11_report_42 rfl ?_
        refine g_aload_n C 0 dX11_report_43 rfl ?_
        refine g_get C 0 9 rfl rfl wiX11 (by decide) mw_6_192 rfl rfl dX11_report_44 ?_
        refine g_iload_n C 1 dX11_report_47 rfl ?_
        obtain ⟨c8, hf⟩ := gg_of hf
        refine g_iald C 6 rfl (gi_in c8) dX11_report_48 ?_
        obtain ⟨v9, h10, hf⟩ := opt_bind hf
        refine g_callV C (c_X11_done (l := x_l X) (D := x_D X) (cy := x_y X) (a := a) (thrown := thrown) (g := g) (saved := saved) (hasSaved := hasSaved) (coef := coef) (nodes := nodes) (nodeMany := nodeMany) (isDeep := isDeep) (codes := codes) (details := details) (levelMany := levelMany) (given := given) (paper := paper) (papered := papered) (tape := tape) (taped := taped) (wrongAt := wrongAt) (at_ := at_) (value := value) (readPlace := readPlace) (readValue := readValue) (readEpoch := readEpoch) (p0 := details (Int32.toNatClampNeg p0)) h10) (As := [.int (details (Int32.toNatClampNeg p0))]) (rest := []) (wr := []) (ws' := fun _ => (wM (x_y X) a v9.2 g saved hasSaved coef nodes nodeMany isDeep codes details levelMany given paper papered tape taped wrongAt at_ value readPlace readValue readEpoch)) (st' := fun _ => [.int v9.1]) (ci := 12) 1 0 ⟨_, rfl⟩ rfl rfl mw_7_22 mw_1_9 mw_7_19 mw_7_21 mp_29 hd_X11_done rfl (g_rm hR rfl rfl) [0, 1, 2, 3, 4, 5, 6, 7, 8, 9] [] [0, 1, 2, 3, 4, 5, 6, 7, 8, 9] ⟨rfl, rfl, rfl, rfl, by decide, gRoIn_0, rfl, fun _ => rfl⟩ rfl (Nat.le_of_ble_eq_true rfl) dX11_report_49 (g_rc hR (Nat.le_of_ble_eq_true rfl) (Nat.le_of_ble_eq_true rfl)) (ck' := 0) (sk' := 0) rfl rfl (fun _ => rfl) (fun _ _ => ?_) (fun _ hx => absurd rfl hx)
        refine g_goto C 60 dX11_report_52 (by decide) ?_
        exact H60 v9.2 v9.1 hf
    · have hf := opt_pos c4 hf
      refine g_aload_n C 0 dX11_report_24 rfl ?_
      refine g_aload_n C 0 dX11_report_25 rfl ?_
      refine g_get C 0 8 rfl rfl wiX11 (by decide) mw_6_191 rfl rfl dX11_report_26 ?_
      refine g_iload_n C 1 dX11_report_29 rfl ?_
      obtain ⟨c11, hf⟩ := gg_of hf
      refine g_iald C 5 rfl (gi_in c11) dX11_report_30 ?_
      obtain ⟨v12, h13, hf⟩ := opt_bind hf
      refine g_callV C (c_X11_done (l := x_l X) (D := x_D X) (cy := x_y X) (a := a) (thrown := thrown) (g := g) (saved := saved) (hasSaved := hasSaved) (coef := coef) (nodes := nodes) (nodeMany := nodeMany) (isDeep := isDeep) (codes := codes) (details := details) (levelMany := levelMany) (given := given) (paper := paper) (papered := papered) (tape := tape) (taped := taped) (wrongAt := wrongAt) (at_ := at_) (value := value) (readPlace := readPlace) (readValue := readValue) (readEpoch := readEpoch) (p0 := codes (Int32.toNatClampNeg p0)) h13) (As := [.int (codes (Int32.toNatClampNeg p0))]) (rest := []) (wr := []) (ws' := fun _ => (wM (x_y X) a v12.2 g saved hasSaved coef nodes nodeMany isDeep codes details levelMany given paper papered tape taped wrongAt at_ value readPlace readValue readEpoch)) (st' := fun _ => [.int v12.1]) (ci := 12) 1 0 ⟨_, rfl⟩ rfl rfl mw_7_22 mw_1_9 mw_7_19 mw_7_21 mp_29 hd_X11_done rfl (g_rm hR rfl rfl) [0, 1, 2, 3, 4, 5, 6, 7, 8, 9] [] [0, 1, 2, 3, 4, 5, 6, 7, 8, 9] ⟨rfl, rfl, rfl, rfl, by decide, gRoIn_0, rfl, fun _ => rfl⟩ rfl (Nat.le_of_ble_eq_true rfl) dX11_report_31 (g_rc hR (Nat.le_of_ble_eq_true rfl) (Nat.le_of_ble_eq_true rfl)) (ck' := 0) (sk' := 0) rfl rfl (fun _ => rfl) (fun _ _ => ?_) (fun _ hx => absurd rfl hx)
      refine g_goto C 60 dX11_report_34 (by decide) ?_
      exact H60 v12.2 v12.1 hf
  · have hf := opt_pos c3 hf
    refine g_aload_n C 0 dX11_report_14 rfl ?_
    refine g_iconst C (v := 1) dX11_report_15 (by decide) ?_
    obtain ⟨v14, h15, hf⟩ := opt_bind hf
    refine g_callV C (c_X11_fails (l := x_l X) (D := x_D X) (cy := x_y X) (a := a) (thrown := thrown) (g := g) (saved := saved) (hasSaved := hasSaved) (coef := coef) (nodes := nodes) (nodeMany := nodeMany) (isDeep := isDeep) (codes := codes) (details := details) (levelMany := levelMany) (given := given) (paper := paper) (papered := papered) (tape := tape) (taped := taped) (wrongAt := wrongAt) (at_ := at_) (value := value) (readPlace := readPlace) (readValue := readValue) (readEpoch := readEpoch) (p0 := 1) h15) (As := [.int 1]) (rest := []) (wr := []) (ws' := fun _ => (wM (x_y X) a v14.2 g saved hasSaved coef nodes nodeMany isDeep codes details levelMany given paper papered tape taped wrongAt at_ value readPlace readValue readEpoch)) (st' := fun _ => [.int v14.1]) (ci := 12) 1 0 ⟨_, rfl⟩ rfl rfl mw_7_45 mw_1_9 mw_7_42 mw_7_44 mp_31 hd_X11_fails rfl (g_rm hR rfl rfl) [0, 1, 2, 3, 4, 5, 6, 7, 8, 9] [] [0, 1, 2, 3, 4, 5, 6, 7, 8, 9] ⟨rfl, rfl, rfl, rfl, by decide, gRoIn_0, rfl, fun _ => rfl⟩ rfl (Nat.le_of_ble_eq_true rfl) dX11_report_16 (g_rc hR (Nat.le_of_ble_eq_true rfl) (Nat.le_of_ble_eq_true rfl)) (ck' := 0) (sk' := 0) rfl rfl (fun _ => rfl) (fun _ _ => ?_) (fun _ hx => absurd rfl hx)
    obtain rfl := Option.some.inj hf
    exact g_iret C E () dX11_report_19 rfl rfl rfl (Nat.le_of_ble_eq_true rfl) (Nat.le_of_ble_eq_true rfl)
/-! X11_event -/
theorem hd_X11_event : yX11_event.cls ≠ "java/lang/invoke/MethodHandle" ∧ yX11_event.cls ≠ "java/lang/invoke/VarHandle" ∧ (parseMethodDescriptor yX11_event.desc).map (fun d => d.parameters.length) = some 1 := by decide +kernel
def F_X11_event_L38   (thrown_38 : Int32) (s0_38 : Int32) : Option (Int32 × Int32) := some (s0_38, thrown_38)
def F_X11_event (thrown : Int32) (g : Nat → Int32) (p0 : Int32) : Option (Int32 × Int32) := gg (gi 17 534) ((F_X11_in p0 0 ((g (Int32.toNatClampNeg 17)) - 1)).bind fun v2 => if v2 = 0 then ((F_X11_fails thrown 1).bind fun v5 => F_X11_event_L38 v5.2 v5.1) else (gg (gi ((18 : Int32) + p0) 534) ((F_X11_done thrown (g (Int32.toNatClampNeg ((18 : Int32) + p0)))).bind fun v8 => F_X11_event_L38 v8.2 v8.1)))
set_option maxRecDepth 100000 in
set_option maxHeartbeats 4000000 in
theorem c_X11_event {l : Launch} {D : va_G} {cy : Nat → ClassId} {a : Nat → Nat} {thrown : Int32} {g : Nat → Int32} {saved : Nat → Int32} {hasSaved : Int32} {coef : Nat → Int32} {nodes : Nat → Int32} {nodeMany : Int32} {isDeep : Int32} {codes : Nat → Int32} {details : Nat → Int32} {levelMany : Int32} {given : Nat → Int32} {paper : Nat → Int32} {papered : Int32} {tape : Nat → Int32} {taped : Int32} {wrongAt : Int32} {at_ : Int32} {value : Int32} {readPlace : Int32} {readValue : Int32} {readEpoch : Int32} {p0 : Int32}  {val : Int32 × Int32} (hf : F_X11_event thrown g p0 = some val) : gCt l D cy yX11_event cX11_event 2 (some .int) 1 22 0 0 [.ref (a 0), .int p0] [] ((wM cy a thrown g saved hasSaved coef nodes nodeMany isDeep codes details levelMany given paper papered tape taped wrongAt at_ value readPlace readValue readEpoch)) 0 (fun _ : Unit => some (.int val.1)) (fun _ => (wM cy a val.2 g saved hasSaved coef nodes nodeMany isDeep codes details levelMany given paper papered tape taped wrongAt at_ value readPlace readValue readEpoch)) := by
  refine g_begin (by decide +kernel) (Nat.le_of_ble_eq_true rfl) ?_
  intro X Q hl hR hD hy hro hn C hin E
  subst hl; subst hD; subst hy
  replace C : gC X "SecretVaultModel" cX11_event (some .int) := C
  unfold F_X11_event at hf
  have H38 : ∀ (thrown_38 : Int32) (s0_38 : Int32), F_X11_event_L38 thrown_38 s0_38 = some val → gW X Q 0 0 ((wM (x_y X) a thrown_38 g saved hasSaved coef nodes nodeMany isDeep codes details levelMany given paper papered tape taped wrongAt at_ value readPlace readValue readEpoch)) [(0, .ref (a 0)), (1, .int p0)] [.int s0_38] 38 := by
    intro thrown_38 s0_38 hf
    unfold F_X11_event_L38 at hf
    obtain rfl := Option.some.inj hf
    exact g_iret C E () dX11_event_38 rfl rfl rfl (Nat.le_of_ble_eq_true rfl) (Nat.le_of_ble_eq_true rfl)
  show gW X Q 0 0 ((wM (x_y X) a thrown g saved hasSaved coef nodes nodeMany isDeep codes details levelMany given paper papered tape taped wrongAt at_ value readPlace readValue readEpoch)) [(0, .ref (a 0)), (1, .int p0)] [] 0
  refine g_iload_n C 1 dX11_event_0 rfl ?_
  refine g_iconst C (v := 0) dX11_event_1 (by decide) ?_
  refine g_aload_n C 0 dX11_event_2 rfl ?_
  refine g_get C 0 1 rfl rfl wiX11 (by decide) mw_6_185 rfl rfl dX11_event_3 ?_
  refine g_bipush C (v := 17) dX11_event_6 (by decide) ?_
  obtain ⟨c1, hf⟩ := gg_of hf
  refine g_iald C 1 rfl (gi_in c1) dX11_event_8 ?_
  refine g_iconst C (v := 1) dX11_event_9 (by decide) ?_
  refine g_isub C dX11_event_10 ?_
  obtain ⟨v2, h3, hf⟩ := opt_bind hf
  refine g_callS C (c_X11_in (l := x_l X) (D := x_D X) (cy := x_y X) (p0 := p0) (p1 := 0) (p2 := (g (Int32.toNatClampNeg 17)) - 1) h3) (As := [.int p0, .int 0, .int ((g (Int32.toNatClampNeg 17)) - 1)]) (rest := []) (wr := (wM (x_y X) a thrown g saved hasSaved coef nodes nodeMany isDeep codes details levelMany given paper papered tape taped wrongAt at_ value readPlace readValue readEpoch)) (ws' := fun _ => (wM (x_y X) a thrown g saved hasSaved coef nodes nodeMany isDeep codes details levelMany given paper papered tape taped wrongAt at_ value readPlace readValue readEpoch)) (st' := fun _ => [.int v2]) 3 mw_7_41 mw_1_9 mw_7_39 mw_7_40 hd_X11_in rfl (g_rm hR rfl rfl) [] [0, 1, 2, 3, 4, 5, 6, 7, 8, 9] [0, 1, 2, 3, 4, 5, 6, 7, 8, 9] ⟨rfl, rfl, rfl, rfl, by decide, gRoIn_0, rfl, fun _ => rfl⟩ rfl (Nat.le_of_ble_eq_true rfl) dX11_event_11 (g_rc hR (Nat.le_of_ble_eq_true rfl) (Nat.le_of_ble_eq_true rfl)) (ck' := 0) (sk' := 0) rfl rfl (fun _ => rfl) (fun _ _ => ?_) (fun _ hx => absurd rfl hx)
  refine g_if_eq C 33 dX11_event_14 (by decide) (fun c4 => ?_) (fun c4 => ?_)
  · have hf := opt_pos c4 hf
    refine g_aload_n C 0 dX11_event_33 rfl ?_
    refine g_iconst C (v := 1) dX11_event_34 (by decide) ?_
    obtain ⟨v5, h6, hf⟩ := opt_bind hf
    refine g_callV C (c_X11_fails (l := x_l X) (D := x_D X) (cy := x_y X) (a := a) (thrown := thrown) (g := g) (saved := saved) (hasSaved := hasSaved) (coef := coef) (nodes := nodes) (nodeMany := nodeMany) (isDeep := isDeep) (codes := codes) (details := details) (levelMany := levelMany) (given := given) (paper := paper) (papered := papered) (tape := tape) (taped := taped) (wrongAt := wrongAt) (at_ := at_) (value := value) (readPlace := readPlace) (readValue := readValue) (readEpoch := readEpoch) (p0 := 1) h6) (As := [.int 1]) (rest := []) (wr := []) (ws' := fun _ => (wM (x_y X) a v5.2 g saved hasSaved coef nodes nodeMany isDeep codes details levelMany given paper papered tape taped wrongAt at_ value readPlace readValue readEpoch)) (st' := fun _ => [.int v5.1]) (ci := 12) 1 0 ⟨_, rfl⟩ rfl rfl mw_7_45 mw_1_9 mw_7_42 mw_7_44 mp_31 hd_X11_fails rfl (g_rm hR rfl rfl) [0, 1, 2, 3, 4, 5, 6, 7, 8, 9] [] [0, 1, 2, 3, 4, 5, 6, 7, 8, 9] ⟨rfl, rfl, rfl, rfl, by decide, gRoIn_0, rfl, fun _ => rfl⟩ rfl (Nat.le_of_ble_eq_true rfl) dX11_event_35 (g_rc hR (Nat.le_of_ble_eq_true rfl) (Nat.le_of_ble_eq_true rfl)) (ck' := 0) (sk' := 0) rfl rfl (fun _ => rfl) (fun _ _ => ?_) (fun _ hx => absurd rfl hx)
    exact H38 v5.2 v5.1 hf
  · have hf := opt_neg c4 hf
    refine g_aload_n C 0 dX11_event_17 rfl ?_
    refine g_aload_n C 0 dX11_event_18 rfl ?_
    refine g_get C 0 1 rfl rfl wiX11 (by decide) mw_6_185 rfl rfl dX11_event_19 ?_
    refine g_bipush C (v := 18) dX11_event_22 (by decide) ?_
    refine g_iload_n C 1 dX11_event_24 rfl ?_
    refine g_iadd C dX11_event_25 ?_
    obtain ⟨c7, hf⟩ := gg_of hf
    refine g_iald C 1 rfl (gi_in c7) dX11_event_26 ?_
    obtain ⟨v8, h9, hf⟩ := opt_bind hf
    refine g_callV C (c_X11_done (l := x_l X) (D := x_D X) (cy := x_y X) (a := a) (thrown := thrown) (g := g) (saved := saved) (hasSaved := hasSaved) (coef := coef) (nodes := nodes) (nodeMany := nodeMany) (isDeep := isDeep) (codes := codes) (details := details) (levelMany := levelMany) (given := given) (paper := paper) (papered := papered) (tape := tape) (taped := taped) (wrongAt := wrongAt) (at_ := at_) (value := value) (readPlace := readPlace) (readValue := readValue) (readEpoch := readEpoch) (p0 := g (Int32.toNatClampNeg ((18 : Int32) + p0))) h9) (As := [.int (g (Int32.toNatClampNeg ((18 : Int32) + p0)))]) (rest := []) (wr := []) (ws' := fun _ => (wM (x_y X) a v8.2 g saved hasSaved coef nodes nodeMany isDeep codes details levelMany given paper papered tape taped wrongAt at_ value readPlace readValue readEpoch)) (st' := fun _ => [.int v8.1]) (ci := 12) 1 0 ⟨_, rfl⟩ rfl rfl mw_7_22 mw_1_9 mw_7_19 mw_7_21 mp_29 hd_X11_done rfl (g_rm hR rfl rfl) [0, 1, 2, 3, 4, 5, 6, 7, 8, 9] [] [0, 1, 2, 3, 4, 5, 6, 7, 8, 9] ⟨rfl, rfl, rfl, rfl, by decide, gRoIn_0, rfl, fun _ => rfl⟩ rfl (Nat.le_of_ble_eq_true rfl) dX11_event_27 (g_rc hR (Nat.le_of_ble_eq_true rfl) (Nat.le_of_ble_eq_true rfl)) (ck' := 0) (sk' := 0) rfl rfl (fun _ => rfl) (fun _ _ => ?_) (fun _ hx => absurd rfl hx)
    refine g_goto C 38 dX11_event_30 (by decide) ?_
    exact H38 v8.2 v8.1 hf
/-! X11_secrets -/
theorem hd_X11_secrets : yX11_secrets.cls ≠ "java/lang/invoke/MethodHandle" ∧ yX11_secrets.cls ≠ "java/lang/invoke/VarHandle" ∧ (parseMethodDescriptor yX11_secrets.desc).map (fun d => d.parameters.length) = some 0 := by decide +kernel
def F_X11_secrets_L4 (g : Nat → Int32)  : Nat → Int32 → Int32 → Option (Int32)
  | 0, _, _ => none
  | n + 1, l1_4, l2_4 => if 4 ≤ l2_4 then (some l1_4) else ((F_X11_of g l2_4 0).bind fun v2 => F_X11_secrets_L4 g n (l1_4 + v2) (l2_4 + 1))
def F_X11_secrets (g : Nat → Int32) : Option (Int32) := F_X11_secrets_L4 g 1000 0 0
set_option maxRecDepth 100000 in
set_option maxHeartbeats 4000000 in
theorem c_X11_secrets {l : Launch} {D : va_G} {cy : Nat → ClassId} {a : Nat → Nat} {thrown : Int32} {g : Nat → Int32} {saved : Nat → Int32} {hasSaved : Int32} {coef : Nat → Int32} {nodes : Nat → Int32} {nodeMany : Int32} {isDeep : Int32} {codes : Nat → Int32} {details : Nat → Int32} {levelMany : Int32} {given : Nat → Int32} {paper : Nat → Int32} {papered : Int32} {tape : Nat → Int32} {taped : Int32} {wrongAt : Int32} {at_ : Int32} {value : Int32} {readPlace : Int32} {readValue : Int32} {readEpoch : Int32}   {val : Int32} (hf : F_X11_secrets g = some val) : gCt l D cy yX11_secrets cX11_secrets 3 (some .int) 1 22 0 0 [.ref (a 0)] [] ((wM cy a thrown g saved hasSaved coef nodes nodeMany isDeep codes details levelMany given paper papered tape taped wrongAt at_ value readPlace readValue readEpoch)) 0 (fun _ : Unit => some (.int val)) (fun _ => (wM cy a thrown g saved hasSaved coef nodes nodeMany isDeep codes details levelMany given paper papered tape taped wrongAt at_ value readPlace readValue readEpoch)) := by
  refine g_begin (by decide +kernel) (Nat.le_of_ble_eq_true rfl) ?_
  intro X Q hl hR hD hy hro hn C hin E
  subst hl; subst hD; subst hy
  replace C : gC X "SecretVaultModel" cX11_secrets (some .int) := C
  unfold F_X11_secrets at hf
  have H4 : ∀ (n4 : Nat), ∀ (l1_4 : Int32) (l2_4 : Int32), F_X11_secrets_L4 g n4 l1_4 l2_4 = some val → gW X Q 0 0 ((wM (x_y X) a thrown g saved hasSaved coef nodes nodeMany isDeep codes details levelMany given paper papered tape taped wrongAt at_ value readPlace readValue readEpoch)) [(0, .ref (a 0)), (1, .int l1_4), (2, .int l2_4)] [] 4 := by
    intro n4
    induction n4 with
    | zero => intros; rename_i hf; cases hf
    | succ n4 ih =>
      intro l1_4 l2_4 hf
      have H4 := ih
      rw [F_X11_secrets_L4] at hf
      refine g_iload_n C 2 dX11_secrets_4 rfl ?_
      refine g_iconst C (v := 4) dX11_secrets_5 (by decide) ?_
      refine g_icmp_ge C 24 dX11_secrets_6 (by decide) (fun c1 => ?_) (fun c1 => ?_)
      · have hf := opt_pos c1 hf
        refine g_iload_n C 1 dX11_secrets_24 rfl ?_
        obtain rfl := Option.some.inj hf
        exact g_iret C E () dX11_secrets_25 rfl rfl rfl (Nat.le_of_ble_eq_true rfl) (Nat.le_of_ble_eq_true rfl)
      · have hf := opt_neg c1 hf
        refine g_iload_n C 1 dX11_secrets_9 rfl ?_
        refine g_aload_n C 0 dX11_secrets_10 rfl ?_
        refine g_iload_n C 2 dX11_secrets_11 rfl ?_
        refine g_iconst C (v := 0) dX11_secrets_12 (by decide) ?_
        obtain ⟨v2, h3, hf⟩ := opt_bind hf
        refine g_callV C (c_X11_of (l := x_l X) (D := x_D X) (cy := x_y X) (a := a) (thrown := thrown) (g := g) (saved := saved) (hasSaved := hasSaved) (coef := coef) (nodes := nodes) (nodeMany := nodeMany) (isDeep := isDeep) (codes := codes) (details := details) (levelMany := levelMany) (given := given) (paper := paper) (papered := papered) (tape := tape) (taped := taped) (wrongAt := wrongAt) (at_ := at_) (value := value) (readPlace := readPlace) (readValue := readValue) (readEpoch := readEpoch) (p0 := l2_4) (p1 := 0) h3) (As := [.int l2_4, .int 0]) (rest := [.int l1_4]) (wr := []) (ws' := fun _ => (wM (x_y X) a thrown g saved hasSaved coef nodes nodeMany isDeep codes details levelMany given paper papered tape taped wrongAt at_ value readPlace readValue readEpoch)) (st' := fun _ => [.int v2, .int l1_4]) (ci := 12) 2 0 ⟨_, rfl⟩ rfl rfl mw_7_69 mw_1_9 mw_7_66 mw_7_68 mp_35 hd_X11_of rfl (g_rm hR rfl rfl) [0, 1, 2, 3, 4, 5, 6, 7, 8, 9] [] [0, 1, 2, 3, 4, 5, 6, 7, 8, 9] ⟨rfl, rfl, rfl, rfl, by decide, gRoIn_0, rfl, fun _ => rfl⟩ rfl (Nat.le_of_ble_eq_true rfl) dX11_secrets_13 (g_rc hR (Nat.le_of_ble_eq_true rfl) (Nat.le_of_ble_eq_true rfl)) (ck' := 0) (sk' := 0) rfl rfl (fun _ => rfl) (fun _ _ => ?_) (fun _ hx => absurd rfl hx)
        refine g_iadd C dX11_secrets_16 ?_
        refine g_istore_n C (lv' := [(1, .int (l1_4 + v2)), (0, .ref (a 0)), (2, .int l2_4)]) dX11_secrets_17 (g_nlt hn rfl) rfl ?_
        refine g_iinc C 2 (v := l2_4 + 1) (lv' := [(2, .int (l2_4 + 1)), (1, .int (l1_4 + v2)), (0, .ref (a 0))]) dX11_secrets_18 rfl rfl (g_nlt hn rfl) rfl ?_
        refine g_goto C 4 dX11_secrets_21 (by decide) ?_
        refine gW.locals [2, 1, 0] rfl ?_
        exact H4 (l1_4 + v2) (l2_4 + 1) hf
  show gW X Q 0 0 ((wM (x_y X) a thrown g saved hasSaved coef nodes nodeMany isDeep codes details levelMany given paper papered tape taped wrongAt at_ value readPlace readValue readEpoch)) [(0, .ref (a 0))] [] 0
  refine g_iconst C (v := 0) dX11_secrets_0 (by decide) ?_
  refine g_istore_n C (lv' := [(1, .int 0), (0, .ref (a 0))]) dX11_secrets_1 (g_nlt hn rfl) rfl ?_
  refine g_iconst C (v := 0) dX11_secrets_2 (by decide) ?_
  refine g_istore_n C (lv' := [(2, .int 0), (1, .int 0), (0, .ref (a 0))]) dX11_secrets_3 (g_nlt hn rfl) rfl ?_
  refine gW.locals [2, 1, 0] rfl ?_
  exact H4 1000 0 0 hf
/-! X11_save -/
theorem hd_X11_save : yX11_save.cls ≠ "java/lang/invoke/MethodHandle" ∧ yX11_save.cls ≠ "java/lang/invoke/VarHandle" ∧ (parseMethodDescriptor yX11_save.desc).map (fun d => d.parameters.length) = some 0 := by decide +kernel
def F_X11_save_L7 (g : Nat → Int32)  : Nat → Int32 → (Nat → Int32) → Int32 → Int32 → Option (Int32 × Int32 × (Nat → Int32) × Int32)
  | 0, _, _, _, _ => none
  | n + 1, thrown_7, saved_7, hasSaved_7, l1_7 => if 534 ≤ l1_7 then ((F_X11_secrets g).bind fun v2 => (F_X11_done thrown_7 v2).bind fun v4 => some (v4.1, v4.2, saved_7, hasSaved_7)) else (gg (gi l1_7 534) (gg (gi l1_7 534) (gl (upd saved_7 (Int32.toNatClampNeg l1_7) (g (Int32.toNatClampNeg l1_7))) fun f8 => F_X11_save_L7 g n thrown_7 f8 hasSaved_7 (l1_7 + 1))))
def F_X11_save (thrown : Int32) (g : Nat → Int32) (saved : Nat → Int32) (hasSaved : Int32) : Option (Int32 × Int32 × (Nat → Int32) × Int32) := F_X11_save_L7 g 1000 thrown saved 1 0
set_option maxRecDepth 100000 in
set_option maxHeartbeats 4000000 in
theorem c_X11_save {l : Launch} {D : va_G} {cy : Nat → ClassId} {a : Nat → Nat} {thrown : Int32} {g : Nat → Int32} {saved : Nat → Int32} {hasSaved : Int32} {coef : Nat → Int32} {nodes : Nat → Int32} {nodeMany : Int32} {isDeep : Int32} {codes : Nat → Int32} {details : Nat → Int32} {levelMany : Int32} {given : Nat → Int32} {paper : Nat → Int32} {papered : Int32} {tape : Nat → Int32} {taped : Int32} {wrongAt : Int32} {at_ : Int32} {value : Int32} {readPlace : Int32} {readValue : Int32} {readEpoch : Int32}   {val : Int32 × Int32 × (Nat → Int32) × Int32} (hf : F_X11_save thrown g saved hasSaved = some val) : gCt l D cy yX11_save cX11_save 2 (some .int) 2 44 0 0 [.ref (a 0)] [] ((wM cy a thrown g saved hasSaved coef nodes nodeMany isDeep codes details levelMany given paper papered tape taped wrongAt at_ value readPlace readValue readEpoch)) 0 (fun _ : Unit => some (.int val.1)) (fun _ => (wM cy a val.2.1 g val.2.2.1 val.2.2.2 coef nodes nodeMany isDeep codes details levelMany given paper papered tape taped wrongAt at_ value readPlace readValue readEpoch)) := by
  refine g_begin (by decide +kernel) (Nat.le_of_ble_eq_true rfl) ?_
  intro X Q hl hR hD hy hro hn C hin E
  subst hl; subst hD; subst hy
  replace C : gC X "SecretVaultModel" cX11_save (some .int) := C
  unfold F_X11_save at hf
  have H7 : ∀ (n7 : Nat), ∀ (thrown_7 : Int32) (saved_7 : Nat → Int32) (hasSaved_7 : Int32) (l1_7 : Int32), F_X11_save_L7 g n7 thrown_7 saved_7 hasSaved_7 l1_7 = some val → gW X Q 0 0 ((wM (x_y X) a thrown_7 g saved_7 hasSaved_7 coef nodes nodeMany isDeep codes details levelMany given paper papered tape taped wrongAt at_ value readPlace readValue readEpoch)) [(0, .ref (a 0)), (1, .int l1_7)] [] 7 := by
    intro n7
    induction n7 with
    | zero => intros; rename_i hf; cases hf
    | succ n7 ih =>
      intro thrown_7 saved_7 hasSaved_7 l1_7 hf
      have H7 := ih
      rw [F_X11_save_L7] at hf
      refine g_iload_n C 1 dX11_save_7 rfl ?_
      refine g_sipush C (v := 534) dX11_save_8 (by decide) ?_
      refine g_icmp_ge C 32 dX11_save_11 (by decide) (fun c1 => ?_) (fun c1 => ?_)
      · have hf := opt_pos c1 hf
        refine g_aload_n C 0 dX11_save_32 rfl ?_
        refine g_aload_n C 0 dX11_save_33 rfl ?_
        obtain ⟨v2, h3, hf⟩ := opt_bind hf
        refine g_callV C (c_X11_secrets (l := x_l X) (D := x_D X) (cy := x_y X) (a := a) (thrown := thrown_7) (g := g) (saved := saved_7) (hasSaved := hasSaved_7) (coef := coef) (nodes := nodes) (nodeMany := nodeMany) (isDeep := isDeep) (codes := codes) (details := details) (levelMany := levelMany) (given := given) (paper := paper) (papered := papered) (tape := tape) (taped := taped) (wrongAt := wrongAt) (at_ := at_) (value := value) (readPlace := readPlace) (readValue := readValue) (readEpoch := readEpoch) h3) (As := []) (rest := [.ref (a 0)]) (wr := []) (ws' := fun _ => (wM (x_y X) a thrown_7 g saved_7 hasSaved_7 coef nodes nodeMany isDeep codes details levelMany given paper papered tape taped wrongAt at_ value readPlace readValue readEpoch)) (st' := fun _ => [.int v2, .ref (a 0)]) (ci := 12) 0 0 ⟨_, rfl⟩ rfl rfl mw_8_152 mw_1_9 mw_8_149 mw_8_151 mp_70 hd_X11_secrets rfl (g_rm hR rfl rfl) [0, 1, 2, 3, 4, 5, 6, 7, 8, 9] [] [0, 1, 2, 3, 4, 5, 6, 7, 8, 9] ⟨rfl, rfl, rfl, rfl, by decide, gRoIn_0, rfl, fun _ => rfl⟩ rfl (Nat.le_of_ble_eq_true rfl) dX11_save_34 (g_rc hR (Nat.le_of_ble_eq_true rfl) (Nat.le_of_ble_eq_true rfl)) (ck' := 0) (sk' := 0) rfl rfl (fun _ => rfl) (fun _ _ => ?_) (fun _ hx => absurd rfl hx)
        obtain ⟨v4, h5, hf⟩ := opt_bind hf
        refine g_callV C (c_X11_done (l := x_l X) (D := x_D X) (cy := x_y X) (a := a) (thrown := thrown_7) (g := g) (saved := saved_7) (hasSaved := hasSaved_7) (coef := coef) (nodes := nodes) (nodeMany := nodeMany) (isDeep := isDeep) (codes := codes) (details := details) (levelMany := levelMany) (given := given) (paper := paper) (papered := papered) (tape := tape) (taped := taped) (wrongAt := wrongAt) (at_ := at_) (value := value) (readPlace := readPlace) (readValue := readValue) (readEpoch := readEpoch) (p0 := v2) h5) (As := [.int v2]) (rest := []) (wr := []) (ws' := fun _ => (wM (x_y X) a v4.2 g saved_7 hasSaved_7 coef nodes nodeMany isDeep codes details levelMany given paper papered tape taped wrongAt at_ value readPlace readValue readEpoch)) (st' := fun _ => [.int v4.1]) (ci := 12) 1 0 ⟨_, rfl⟩ rfl rfl mw_7_22 mw_1_9 mw_7_19 mw_7_21 mp_29 hd_X11_done rfl (g_rm hR rfl rfl) [0, 1, 2, 3, 4, 5, 6, 7, 8, 9] [] [0, 1, 2, 3, 4, 5, 6, 7, 8, 9] ⟨rfl, rfl, rfl, rfl, by decide, gRoIn_0, rfl, fun _ => rfl⟩ rfl (Nat.le_of_ble_eq_true rfl) dX11_save_37 (g_rc hR (Nat.le_of_ble_eq_true rfl) (Nat.le_of_ble_eq_true rfl)) (ck' := 0) (sk' := 0) rfl rfl (fun _ => rfl) (fun _ _ => ?_) (fun _ hx => absurd rfl hx)
        obtain rfl := Option.some.inj hf
        exact g_iret C E () dX11_save_40 rfl rfl rfl (Nat.le_of_ble_eq_true rfl) (Nat.le_of_ble_eq_true rfl)
      · have hf := opt_neg c1 hf
        refine g_aload_n C 0 dX11_save_14 rfl ?_
        refine g_get C 0 2 rfl rfl wiX11 (by decide) mw_6_186 rfl rfl dX11_save_15 ?_
        refine g_iload_n C 1 dX11_save_18 rfl ?_
        refine g_aload_n C 0 dX11_save_19 rfl ?_
        refine g_get C 0 1 rfl rfl wiX11 (by decide) mw_6_185 rfl rfl dX11_save_20 ?_
        refine g_iload_n C 1 dX11_save_23 rfl ?_
        obtain ⟨c6, hf⟩ := gg_of hf
        refine g_iald C 1 rfl (gi_in c6) dX11_save_24 ?_
        obtain ⟨c7, hf⟩ := gg_of hf
        obtain ⟨f8, ef8, hf⟩ := opt_let hf
        refine g_iast C (ws' := (wM (x_y X) a thrown_7 g f8 hasSaved_7 coef nodes nodeMany isDeep codes details levelMany given paper papered tape taped wrongAt at_ value readPlace readValue readEpoch)) 2 rfl (gi_in c7) (by rw [ef8]; rfl) dX11_save_25 ?_
        refine g_iinc C 1 (v := l1_7 + 1) (lv' := [(1, .int (l1_7 + 1)), (0, .ref (a 0))]) dX11_save_26 rfl rfl (g_nlt hn rfl) rfl ?_
        refine g_goto C 7 dX11_save_29 (by decide) ?_
        refine gW.locals [1, 0] rfl ?_
        exact H7 thrown_7 f8 hasSaved_7 (l1_7 + 1) hf
  show gW X Q 0 0 ((wM (x_y X) a thrown g saved hasSaved coef nodes nodeMany isDeep codes details levelMany given paper papered tape taped wrongAt at_ value readPlace readValue readEpoch)) [(0, .ref (a 0))] [] 0
  refine g_aload_n C 0 dX11_save_0 rfl ?_
  refine g_iconst C (v := 1) dX11_save_1 (by decide) ?_
  refine g_put C (ws' := (wM (x_y X) a thrown g saved 1 coef nodes nodeMany isDeep codes details levelMany given paper papered tape taped wrongAt at_ value readPlace readValue readEpoch)) 0 3 rfl rfl wiX11 (by decide) tyX11_ok nmX11 mw_6_187 rfl rfl rfl rfl (Nat.le_of_ble_eq_true rfl) rfl dX11_save_2 ?_
  refine g_iconst C (v := 0) dX11_save_5 (by decide) ?_
  refine g_istore_n C (lv' := [(1, .int 0), (0, .ref (a 0))]) dX11_save_6 (g_nlt hn rfl) rfl ?_
  refine gW.locals [1, 0] rfl ?_
  exact H7 1000 thrown saved 1 0 hf
