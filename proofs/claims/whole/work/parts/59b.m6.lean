/-! X11_restore -/
theorem hd_X11_restore : yX11_restore.cls ≠ "java/lang/invoke/MethodHandle" ∧ yX11_restore.cls ≠ "java/lang/invoke/VarHandle" ∧ (parseMethodDescriptor yX11_restore.desc).map (fun d => d.parameters.length) = some 0 := by decide +kernel
def F_X11_restore_L15 (saved : Nat → Int32)  : Nat → Int32 → (Nat → Int32) → Int32 → Option (Int32 × Int32 × (Nat → Int32))
  | 0, _, _, _ => none
  | n + 1, thrown_15, g_15, l1_15 => if 534 ≤ l1_15 then ((F_X11_secrets g_15).bind fun v3 => (F_X11_done thrown_15 v3).bind fun v5 => some (v5.1, v5.2, g_15)) else (gg (gi l1_15 534) (gg (gi l1_15 534) (gl (upd g_15 (Int32.toNatClampNeg l1_15) (saved (Int32.toNatClampNeg l1_15))) fun f9 => F_X11_restore_L15 saved n thrown_15 f9 (l1_15 + 1))))
def F_X11_restore (thrown : Int32) (g : Nat → Int32) (saved : Nat → Int32) (hasSaved : Int32) : Option (Int32 × Int32 × (Nat → Int32)) := if hasSaved = 0 then ((F_X11_fails thrown 1).bind fun v10 => some (v10.1, v10.2, g)) else (F_X11_restore_L15 saved 1000 thrown g 0)
set_option maxRecDepth 100000 in
set_option maxHeartbeats 4000000 in
theorem c_X11_restore {l : Launch} {D : va_G} {cy : Nat → ClassId} {a : Nat → Nat} {thrown : Int32} {g : Nat → Int32} {saved : Nat → Int32} {hasSaved : Int32} {coef : Nat → Int32} {nodes : Nat → Int32} {nodeMany : Int32} {isDeep : Int32} {codes : Nat → Int32} {details : Nat → Int32} {levelMany : Int32} {given : Nat → Int32} {paper : Nat → Int32} {papered : Int32} {tape : Nat → Int32} {taped : Int32} {wrongAt : Int32} {at_ : Int32} {value : Int32} {readPlace : Int32} {readValue : Int32} {readEpoch : Int32}   {val : Int32 × Int32 × (Nat → Int32)} (hf : F_X11_restore thrown g saved hasSaved = some val) : gCt l D cy yX11_restore cX11_restore 2 (some .int) 2 44 0 0 [.ref (a 0)] [] ((wM cy a thrown g saved hasSaved coef nodes nodeMany isDeep codes details levelMany given paper papered tape taped wrongAt at_ value readPlace readValue readEpoch)) 0 (fun _ : Unit => some (.int val.1)) (fun _ => (wM cy a val.2.1 val.2.2 saved hasSaved coef nodes nodeMany isDeep codes details levelMany given paper papered tape taped wrongAt at_ value readPlace readValue readEpoch)) := by
  refine g_begin (by decide +kernel) (Nat.le_of_ble_eq_true rfl) ?_
  intro X Q hl hR hD hy hro hn C hin E
  subst hl; subst hD; subst hy
  replace C : gC X "SecretVaultModel" cX11_restore (some .int) := C
  unfold F_X11_restore at hf
  have H15 : ∀ (n15 : Nat), ∀ (thrown_15 : Int32) (g_15 : Nat → Int32) (l1_15 : Int32), F_X11_restore_L15 saved n15 thrown_15 g_15 l1_15 = some val → gW X Q 0 0 ((wM (x_y X) a thrown_15 g_15 saved hasSaved coef nodes nodeMany isDeep codes details levelMany given paper papered tape taped wrongAt at_ value readPlace readValue readEpoch)) [(0, .ref (a 0)), (1, .int l1_15)] [] 15 := by
    intro n15
    induction n15 with
    | zero => intros; rename_i hf; cases hf
    | succ n15 ih =>
      intro thrown_15 g_15 l1_15 hf
      have H15 := ih
      rw [F_X11_restore_L15] at hf
      refine g_iload_n C 1 dX11_restore_15 rfl ?_
      refine g_sipush C (v := 534) dX11_restore_16 (by decide) ?_
      refine g_icmp_ge C 40 dX11_restore_19 (by decide) (fun c2 => ?_) (fun c2 => ?_)
      · have hf := opt_pos c2 hf
        refine g_aload_n C 0 dX11_restore_40 rfl ?_
        refine g_aload_n C 0 dX11_restore_41 rfl ?_
        obtain ⟨v3, h4, hf⟩ := opt_bind hf
        refine g_callV C (c_X11_secrets (l := x_l X) (D := x_D X) (cy := x_y X) (a := a) (thrown := thrown_15) (g := g_15) (saved := saved) (hasSaved := hasSaved) (coef := coef) (nodes := nodes) (nodeMany := nodeMany) (isDeep := isDeep) (codes := codes) (details := details) (levelMany := levelMany) (given := given) (paper := paper) (papered := papered) (tape := tape) (taped := taped) (wrongAt := wrongAt) (at_ := at_) (value := value) (readPlace := readPlace) (readValue := readValue) (readEpoch := readEpoch) h4) (As := []) (rest := [.ref (a 0)]) (wr := []) (ws' := fun _ => (wM (x_y X) a thrown_15 g_15 saved hasSaved coef nodes nodeMany isDeep codes details levelMany given paper papered tape taped wrongAt at_ value readPlace readValue readEpoch)) (st' := fun _ => [.int v3, .ref (a 0)]) (ci := 12) 0 0 ⟨_, rfl⟩ rfl rfl mw_8_152 mw_1_9 mw_8_149 mw_8_151 mp_70 hd_X11_secrets rfl (g_rm hR rfl rfl) [0, 1, 2, 3, 4, 5, 6, 7, 8, 9] [] [0, 1, 2, 3, 4, 5, 6, 7, 8, 9] ⟨rfl, rfl, rfl, rfl, by decide, gRoIn_0, rfl, fun _ => rfl⟩ rfl (Nat.le_of_ble_eq_true rfl) dX11_restore_42 (g_rc hR (Nat.le_of_ble_eq_true rfl) (Nat.le_of_ble_eq_true rfl)) (ck' := 0) (sk' := 0) rfl rfl (fun _ => rfl) (fun _ _ => ?_) (fun _ hx => absurd rfl hx)
        obtain ⟨v5, h6, hf⟩ := opt_bind hf
        refine g_callV C (c_X11_done (l := x_l X) (D := x_D X) (cy := x_y X) (a := a) (thrown := thrown_15) (g := g_15) (saved := saved) (hasSaved := hasSaved) (coef := coef) (nodes := nodes) (nodeMany := nodeMany) (isDeep := isDeep) (codes := codes) (details := details) (levelMany := levelMany) (given := given) (paper := paper) (papered := papered) (tape := tape) (taped := taped) (wrongAt := wrongAt) (at_ := at_) (value := value) (readPlace := readPlace) (readValue := readValue) (readEpoch := readEpoch) (p0 := v3) h6) (As := [.int v3]) (rest := []) (wr := []) (ws' := fun _ => (wM (x_y X) a v5.2 g_15 saved hasSaved coef nodes nodeMany isDeep codes details levelMany given paper papered tape taped wrongAt at_ value readPlace readValue readEpoch)) (st' := fun _ => [.int v5.1]) (ci := 12) 1 0 ⟨_, rfl⟩ rfl rfl mw_7_22 mw_1_9 mw_7_19 mw_7_21 mp_29 hd_X11_done rfl (g_rm hR rfl rfl) [0, 1, 2, 3, 4, 5, 6, 7, 8, 9] [] [0, 1, 2, 3, 4, 5, 6, 7, 8, 9] ⟨rfl, rfl, rfl, rfl, by decide, gRoIn_0, rfl, fun _ => rfl⟩ rfl (Nat.le_of_ble_eq_true rfl) dX11_restore_45 (g_rc hR (Nat.le_of_ble_eq_true rfl) (Nat.le_of_ble_eq_true rfl)) (ck' := 0) (sk' := 0) rfl rfl (fun _ => rfl) (fun _ _ => ?_) (fun _ hx => absurd rfl hx)
        obtain rfl := Option.some.inj hf
        exact g_iret C E () dX11_restore_48 rfl rfl rfl (Nat.le_of_ble_eq_true rfl) (Nat.le_of_ble_eq_true rfl)
      · have hf := opt_neg c2 hf
        refine g_aload_n C 0 dX11_restore_22 rfl ?_
        refine g_get C 0 1 rfl rfl wiX11 (by decide) mw_6_185 rfl rfl dX11_restore_23 ?_
        refine g_iload_n C 1 dX11_restore_26 rfl ?_
        refine g_aload_n C 0 dX11_restore_27 rfl ?_
        refine g_get C 0 2 rfl rfl wiX11 (by decide) mw_6_186 rfl rfl dX11_restore_28 ?_
        refine g_iload_n C 1 dX11_restore_31 rfl ?_
        obtain ⟨c7, hf⟩ := gg_of hf
        refine g_iald C 2 rfl (gi_in c7) dX11_restore_32 ?_
        obtain ⟨c8, hf⟩ := gg_of hf
        obtain ⟨f9, ef9, hf⟩ := opt_let hf
        refine g_iast C (ws' := (wM (x_y X) a thrown_15 f9 saved hasSaved coef nodes nodeMany isDeep codes details levelMany given paper papered tape taped wrongAt at_ value readPlace readValue readEpoch)) 1 rfl (gi_in c8) (by rw [ef9]; rfl) dX11_restore_33 ?_
        refine g_iinc C 1 (v := l1_15 + 1) (lv' := [(1, .int (l1_15 + 1)), (0, .ref (a 0))]) dX11_restore_34 rfl rfl (g_nlt hn rfl) rfl ?_
        refine g_goto C 15 dX11_restore_37 (by decide) ?_
        refine gW.locals [1, 0] rfl ?_
        exact H15 thrown_15 f9 (l1_15 + 1) hf
  show gW X Q 0 0 ((wM (x_y X) a thrown g saved hasSaved coef nodes nodeMany isDeep codes details levelMany given paper papered tape taped wrongAt at_ value readPlace readValue readEpoch)) [(0, .ref (a 0))] [] 0
  refine g_aload_n C 0 dX11_restore_0 rfl ?_
  refine g_get C 0 3 rfl rfl wiX11 (by decide) mw_6_187 rfl rfl dX11_restore_1 ?_
  refine g_if_ne C 13 dX11_restore_4 (by decide) (fun c1 => ?_) (fun c1 => ?_)
  · have hf := opt_neg c1 hf
    refine g_iconst C (v := 0) dX11_restore_13 (by decide) ?_
    refine g_istore_n C (lv' := [(1, .int 0), (0, .ref (a 0))]) dX11_restore_14 (g_nlt hn rfl) rfl ?_
    refine gW.locals [1, 0] rfl ?_
    exact H15 1000 thrown g 0 hf
  · have hf := opt_pos c1 hf
    refine g_aload_n C 0 dX11_restore_7 rfl ?_
    refine g_iconst C (v := 1) dX11_restore_8 (by decide) ?_
    obtain ⟨v10, h11, hf⟩ := opt_bind hf
    refine g_callV C (c_X11_fails (l := x_l X) (D := x_D X) (cy := x_y X) (a := a) (thrown := thrown) (g := g) (saved := saved) (hasSaved := hasSaved) (coef := coef) (nodes := nodes) (nodeMany := nodeMany) (isDeep := isDeep) (codes := codes) (details := details) (levelMany := levelMany) (given := given) (paper := paper) (papered := papered) (tape := tape) (taped := taped) (wrongAt := wrongAt) (at_ := at_) (value := value) (readPlace := readPlace) (readValue := readValue) (readEpoch := readEpoch) (p0 := 1) h11) (As := [.int 1]) (rest := []) (wr := []) (ws' := fun _ => (wM (x_y X) a v10.2 g saved hasSaved coef nodes nodeMany isDeep codes details levelMany given paper papered tape taped wrongAt at_ value readPlace readValue readEpoch)) (st' := fun _ => [.int v10.1]) (ci := 12) 1 0 ⟨_, rfl⟩ rfl rfl mw_7_45 mw_1_9 mw_7_42 mw_7_44 mp_31 hd_X11_fails rfl (g_rm hR rfl rfl) [0, 1, 2, 3, 4, 5, 6, 7, 8, 9] [] [0, 1, 2, 3, 4, 5, 6, 7, 8, 9] ⟨rfl, rfl, rfl, rfl, by decide, gRoIn_0, rfl, fun _ => rfl⟩ rfl (Nat.le_of_ble_eq_true rfl) dX11_restore_9 (g_rc hR (Nat.le_of_ble_eq_true rfl) (Nat.le_of_ble_eq_true rfl)) (ck' := 0) (sk' := 0) rfl rfl (fun _ => rfl) (fun _ _ => ?_) (fun _ hx => absurd rfl hx)
    obtain rfl := Option.some.inj hf
    exact g_iret C E () dX11_restore_12 rfl rfl rfl (Nat.le_of_ble_eq_true rfl) (Nat.le_of_ble_eq_true rfl)
