/-! X11_powerBits -/
theorem hd_X11_powerBits : yX11_powerBits.cls ≠ "java/lang/invoke/MethodHandle" ∧ yX11_powerBits.cls ≠ "java/lang/invoke/VarHandle" ∧ (parseMethodDescriptor yX11_powerBits.desc).map (fun d => d.parameters.length) = some 2 := by decide +kernel
def F_X11_powerBits_L100  (K50 : Int32 → (Nat → Int32) → Int32 → Int32 → Int32 → Option (Int64 × Int32 × (Nat → Int32) × Int32)) (thrown_100 : Int32) (nodes_100 : Nat → Int32) (nodeMany_100 : Int32) (l4_100 : Int32) (s0_100 : Int32) (s1_100 : Int32) : Option (Int64 × Int32 × (Nat → Int32) × Int32) := K50 thrown_100 nodes_100 nodeMany_100 (s1_100 + s0_100) (l4_100 + 1)
def F_X11_powerBits_L99  (K50 : Int32 → (Nat → Int32) → Int32 → Int32 → Int32 → Option (Int64 × Int32 × (Nat → Int32) × Int32)) (thrown_99 : Int32) (nodes_99 : Nat → Int32) (nodeMany_99 : Int32) (l4_99 : Int32) (s0_99 : Int32) : Option (Int64 × Int32 × (Nat → Int32) × Int32) := F_X11_powerBits_L100 K50 thrown_99 nodes_99 nodeMany_99 l4_99 0 s0_99
def F_X11_powerBits_L50 (g : Nat → Int32) (p0 : Int32) (p1 : Int32)  : Nat → Int32 → (Nat → Int32) → Int32 → Int32 → Int32 → Option (Int64 × Int32 × (Nat → Int32) × Int32)
  | 0, _, _, _, _, _ => none
  | n + 1, thrown_50, nodes_50, nodeMany_50, l3_50, l4_50 => if 256 ≤ l4_50 then (gg (gn64 (FP.ddiv (FP.i2d l3_50) 4638707616191610880)) ((F_Jxe99ae_doubleToLongBits_ccdee (FP.ddiv (FP.i2d l3_50) 4638707616191610880)).bind fun v7 => some (v7, thrown_50, nodes_50, nodeMany_50))) else (if ((l4_50 >>> (p1 &&& 31)) &&& 1) = 1 then ((F_X11_opens g nodes_50 nodeMany_50 p0 l4_50).bind fun v10 => if v10.1 = 0 then (F_X11_powerBits_L99 (F_X11_powerBits_L50 g p0 p1 n) thrown_50 v10.2.1 v10.2.2 l4_50 l3_50) else ((F_X11_opens g v10.2.1 v10.2.2 p0 (l4_50 &&& (((1 : Int32) <<< (p1 &&& 31)) ^^^ (-1)))).bind fun v13 => if v13.1 = 0 then (F_X11_powerBits_L100 (F_X11_powerBits_L50 g p0 p1 n) thrown_50 v13.2.1 v13.2.2 l4_50 1 l3_50) else (F_X11_powerBits_L99 (F_X11_powerBits_L50 g p0 p1 n) thrown_50 v13.2.1 v13.2.2 l4_50 l3_50))) else (F_X11_powerBits_L99 (F_X11_powerBits_L50 g p0 p1 n) thrown_50 nodes_50 nodeMany_50 l4_50 l3_50))
def F_X11_powerBits_L33 (g : Nat → Int32) (p0 : Int32) (p1 : Int32)  (thrown_33 : Int32) (nodes_33 : Nat → Int32) (nodeMany_33 : Int32) (s0_33 : Int32) : Option (Int64 × Int32 × (Nat → Int32) × Int32) := if s0_33 = 0 then (F_X11_powerBits_L50 g p0 p1 1000 s0_33 nodes_33 nodeMany_33 0 0) else (some (0, s0_33, nodes_33, nodeMany_33))
def F_X11_powerBits_L15 (g : Nat → Int32) (p0 : Int32) (p1 : Int32)  (thrown_15 : Int32) (nodes_15 : Nat → Int32) (nodeMany_15 : Int32) : Option (Int64 × Int32 × (Nat → Int32) × Int32) := F_X11_powerBits_L33 g p0 p1 thrown_15 nodes_15 nodeMany_15 1
def F_X11_powerBits (thrown : Int32) (g : Nat → Int32) (nodes : Nat → Int32) (nodeMany : Int32) (p0 : Int32) (p1 : Int32) : Option (Int64 × Int32 × (Nat → Int32) × Int32) := (F_X11_isSlot p0).bind fun v1 => if v1 = 0 then (F_X11_powerBits_L15 g p0 p1 thrown nodes nodeMany) else ((F_X11_isMember p1).bind fun v16 => if v16 = 0 then (F_X11_powerBits_L15 g p0 p1 thrown nodes nodeMany) else ((F_X11_of g p0 0).bind fun v19 => if v19 = 0 then (F_X11_powerBits_L33 g p0 p1 thrown nodes nodeMany 2) else (F_X11_powerBits_L33 g p0 p1 thrown nodes nodeMany 0)))
set_option maxRecDepth 100000 in
set_option maxHeartbeats 4000000 in
theorem c_X11_powerBits {l : Launch} {D : va_G} {cy : Nat → ClassId} {a : Nat → Nat} {thrown : Int32} {g : Nat → Int32} {saved : Nat → Int32} {hasSaved : Int32} {coef : Nat → Int32} {nodes : Nat → Int32} {nodeMany : Int32} {isDeep : Int32} {codes : Nat → Int32} {details : Nat → Int32} {levelMany : Int32} {given : Nat → Int32} {paper : Nat → Int32} {papered : Int32} {tape : Nat → Int32} {taped : Int32} {wrongAt : Int32} {at_ : Int32} {value : Int32} {readPlace : Int32} {readValue : Int32} {readEpoch : Int32} {p0 : Int32} {p1 : Int32}  {val : Int64 × Int32 × (Nat → Int32) × Int32} (hf : F_X11_powerBits thrown g nodes nodeMany p0 p1 = some val) : gCt l D cy yX11_powerBits cX11_powerBits 5 (some .long) 73 2495 0 0 [.ref (a 0), .int p0, .int p1] [] ((wM cy a thrown g saved hasSaved coef nodes nodeMany isDeep codes details levelMany given paper papered tape taped wrongAt at_ value readPlace readValue readEpoch)) 0 (fun _ : Unit => some (.long val.1)) (fun _ => (wM cy a val.2.1 g saved hasSaved coef val.2.2.1 val.2.2.2 isDeep codes details levelMany given paper papered tape taped wrongAt at_ value readPlace readValue readEpoch)) := by
  refine g_begin (by decide +kernel) (Nat.le_of_ble_eq_true rfl) ?_
  intro X Q hl hR hD hy hro hn C hin E
  subst hl; subst hD; subst hy
  replace C : gC X "SecretVaultModel" cX11_powerBits (some .long) := C
  unfold F_X11_powerBits at hf
  have H50 : ∀ (n50 : Nat), ∀ (thrown_50 : Int32) (nodes_50 : Nat → Int32) (nodeMany_50 : Int32) (l3_50 : Int32) (l4_50 : Int32), F_X11_powerBits_L50 g p0 p1 n50 thrown_50 nodes_50 nodeMany_50 l3_50 l4_50 = some val → gW X Q 0 0 ((wM (x_y X) a thrown_50 g saved hasSaved coef nodes_50 nodeMany_50 isDeep codes details levelMany given paper papered tape taped wrongAt at_ value readPlace readValue readEpoch)) [(0, .ref (a 0)), (1, .int p0), (2, .int p1), (3, .int l3_50), (4, .int l4_50)] [] 50 := by
    intro n50
    induction n50 with
    | zero => intros; rename_i hf; cases hf
    | succ n50 ih =>
      intro thrown_50 nodes_50 nodeMany_50 l3_50 l4_50 hf
      have H50 := ih
      rw [F_X11_powerBits_L50] at hf
      have H100 : ∀ (thrown_100 : Int32) (nodes_100 : Nat → Int32) (nodeMany_100 : Int32) (l4_100 : Int32) (s0_100 : Int32) (s1_100 : Int32), F_X11_powerBits_L100 (F_X11_powerBits_L50 g p0 p1 n50) thrown_100 nodes_100 nodeMany_100 l4_100 s0_100 s1_100 = some val → gW X Q 0 0 ((wM (x_y X) a thrown_100 g saved hasSaved coef nodes_100 nodeMany_100 isDeep codes details levelMany given paper papered tape taped wrongAt at_ value readPlace readValue readEpoch)) [(0, .ref (a 0)), (1, .int p0), (2, .int p1), (4, .int l4_100)] [.int s0_100, .int s1_100] 100 := by
        intro thrown_100 nodes_100 nodeMany_100 l4_100 s0_100 s1_100 hf
        unfold F_X11_powerBits_L100 at hf
        refine g_iadd C dX11_powerBits_100 ?_
        refine g_istore_n C (lv' := [(3, .int (s1_100 + s0_100)), (0, .ref (a 0)), (1, .int p0), (2, .int p1), (4, .int l4_100)]) dX11_powerBits_101 (g_nlt hn rfl) rfl ?_
        refine g_iinc C 4 (v := l4_100 + 1) (lv' := [(4, .int (l4_100 + 1)), (3, .int (s1_100 + s0_100)), (0, .ref (a 0)), (1, .int p0), (2, .int p1)]) dX11_powerBits_102 rfl rfl (g_nlt hn rfl) rfl ?_
        refine g_goto C 50 dX11_powerBits_105 (by decide) ?_
        refine gW.locals [2, 3, 4, 1, 0] rfl ?_
        exact H50 thrown_100 nodes_100 nodeMany_100 (s1_100 + s0_100) (l4_100 + 1) hf
      have H99 : ∀ (thrown_99 : Int32) (nodes_99 : Nat → Int32) (nodeMany_99 : Int32) (l4_99 : Int32) (s0_99 : Int32), F_X11_powerBits_L99 (F_X11_powerBits_L50 g p0 p1 n50) thrown_99 nodes_99 nodeMany_99 l4_99 s0_99 = some val → gW X Q 0 0 ((wM (x_y X) a thrown_99 g saved hasSaved coef nodes_99 nodeMany_99 isDeep codes details levelMany given paper papered tape taped wrongAt at_ value readPlace readValue readEpoch)) [(0, .ref (a 0)), (1, .int p0), (2, .int p1), (4, .int l4_99)] [.int s0_99] 99 := by
        intro thrown_99 nodes_99 nodeMany_99 l4_99 s0_99 hf
        unfold F_X11_powerBits_L99 at hf
        refine g_iconst C (v := 0) dX11_powerBits_99 (by decide) ?_
        exact H100 thrown_99 nodes_99 nodeMany_99 l4_99 0 s0_99 hf
      refine g_iload C 4 dX11_powerBits_50 rfl ?_
      refine g_sipush C (v := 256) dX11_powerBits_52 (by decide) ?_
      refine g_icmp_ge C 108 dX11_powerBits_55 (by decide) (fun c5 => ?_) (fun c5 => ?_)
      · have hf := opt_pos c5 hf
        refine g_iload_n C 3 dX11_powerBits_108 rfl ?_
        refine g_i2d C dX11_powerBits_109 ?_
        refine g_ldc2d C mw_8_108 dX11_powerBits_110 ?_
        obtain ⟨c6, hf⟩ := gg_of hf
        refine g_ddiv C dX11_powerBits_113 (gn64_of c6) ?_
        obtain ⟨v7, h8, hf⟩ := opt_bind hf
        refine g_callS C (c_Jxe99ae_doubleToLongBits_ccdee (l := x_l X) (D := x_D X) (cy := x_y X) (p0 := FP.ddiv (FP.i2d l3_50) 4638707616191610880) h8) (As := [.double (FP.ddiv (FP.i2d l3_50) 4638707616191610880)]) (rest := []) (wr := (wM (x_y X) a thrown_50 g saved hasSaved coef nodes_50 nodeMany_50 isDeep codes details levelMany given paper papered tape taped wrongAt at_ value readPlace readValue readEpoch)) (ws' := fun _ => (wM (x_y X) a thrown_50 g saved hasSaved coef nodes_50 nodeMany_50 isDeep codes details levelMany given paper papered tape taped wrongAt at_ value readPlace readValue readEpoch)) (st' := fun _ => [.long v7]) 1 mw_8_111 mw_1_35 mw_8_109 mw_8_110 hd_Jxe99ae_doubleToLongBits_ccdee rfl (g_rm hR rfl rfl) [] [0, 1, 2, 3, 4, 5, 6, 7, 8, 9] [0, 1, 2, 3, 4, 5, 6, 7, 8, 9] ⟨rfl, rfl, rfl, rfl, by decide, gRoIn_0, rfl, fun _ => rfl⟩ rfl (Nat.le_of_ble_eq_true rfl) dX11_powerBits_114 (g_rc hR (Nat.le_of_ble_eq_true rfl) (Nat.le_of_ble_eq_true rfl)) (ck' := 0) (sk' := 0) rfl rfl (fun _ => rfl) (fun _ _ => ?_) (fun _ hx => absurd rfl hx)
        obtain rfl := Option.some.inj hf
        exact g_lret C E () dX11_powerBits_117 rfl rfl rfl (Nat.le_of_ble_eq_true rfl) (Nat.le_of_ble_eq_true rfl)
      · have hf := opt_neg c5 hf
        refine g_iload_n C 3 dX11_powerBits_58 rfl ?_
        refine g_iload C 4 dX11_powerBits_59 rfl ?_
        refine g_iload_n C 2 dX11_powerBits_61 rfl ?_
        refine g_ishr C dX11_powerBits_62 ?_
        refine g_iconst C (v := 1) dX11_powerBits_63 (by decide) ?_
        refine g_iand C dX11_powerBits_64 ?_
        refine g_iconst C (v := 1) dX11_powerBits_65 (by decide) ?_
        refine g_icmp_ne C 99 dX11_powerBits_66 (by decide) (fun c9 => ?_) (fun c9 => ?_)
        · have hf := opt_neg c9 hf
          refine gW.locals [0, 1, 2, 4] rfl ?_
          exact H99 thrown_50 nodes_50 nodeMany_50 l4_50 l3_50 hf
        · have hf := opt_pos c9 hf
          refine g_aload_n C 0 dX11_powerBits_69 rfl ?_
          refine g_iload_n C 1 dX11_powerBits_70 rfl ?_
          refine g_iload C 4 dX11_powerBits_71 rfl ?_
          obtain ⟨v10, h11, hf⟩ := opt_bind hf
          refine g_callV C (c_X11_opens (l := x_l X) (D := x_D X) (cy := x_y X) (a := a) (thrown := thrown_50) (g := g) (saved := saved) (hasSaved := hasSaved) (coef := coef) (nodes := nodes_50) (nodeMany := nodeMany_50) (isDeep := isDeep) (codes := codes) (details := details) (levelMany := levelMany) (given := given) (paper := paper) (papered := papered) (tape := tape) (taped := taped) (wrongAt := wrongAt) (at_ := at_) (value := value) (readPlace := readPlace) (readValue := readValue) (readEpoch := readEpoch) (p0 := p0) (p1 := l4_50) h11) (As := [.int p0, .int l4_50]) (rest := [.int l3_50]) (wr := []) (ws' := fun _ => (wM (x_y X) a thrown_50 g saved hasSaved coef v10.2.1 v10.2.2 isDeep codes details levelMany given paper papered tape taped wrongAt at_ value readPlace readValue readEpoch)) (st' := fun _ => [.int v10.1, .int l3_50]) (ci := 12) 2 0 ⟨_, rfl⟩ rfl rfl mw_7_145 mw_1_9 mw_7_142 mw_7_144 mp_47 hd_X11_opens rfl (g_rm hR rfl rfl) [0, 1, 2, 3, 4, 5, 6, 7, 8, 9] [] [0, 1, 2, 3, 4, 5, 6, 7, 8, 9] ⟨rfl, rfl, rfl, rfl, by decide, gRoIn_0, rfl, fun _ => rfl⟩ rfl (Nat.le_of_ble_eq_true rfl) dX11_powerBits_73 (g_rc hR (Nat.le_of_ble_eq_true rfl) (Nat.le_of_ble_eq_true rfl)) (ck' := 0) (sk' := 0) rfl rfl (fun _ => rfl) (fun _ _ => ?_) (fun _ hx => absurd rfl hx)
          refine g_if_eq C 99 dX11_powerBits_76 (by decide) (fun c12 => ?_) (fun c12 => ?_)
          · have hf := opt_pos c12 hf
            refine gW.locals [0, 1, 2, 4] rfl ?_
            exact H99 thrown_50 v10.2.1 v10.2.2 l4_50 l3_50 hf
          · have hf := opt_neg c12 hf
            refine g_aload_n C 0 dX11_powerBits_79 rfl ?_
            refine g_iload_n C 1 dX11_powerBits_80 rfl ?_
            refine g_iload C 4 dX11_powerBits_81 rfl ?_
            refine g_iconst C (v := 1) dX11_powerBits_83 (by decide) ?_
            refine g_iload_n C 2 dX11_powerBits_84 rfl ?_
            refine g_ishl C dX11_powerBits_85 ?_
            refine g_iconst C (v := (-1)) dX11_powerBits_86 (by decide) ?_
            refine g_ixor C dX11_powerBits_87 ?_
            refine g_iand C dX11_powerBits_88 ?_
            obtain ⟨v13, h14, hf⟩ := opt_bind hf
            refine g_callV C (c_X11_opens (l := x_l X) (D := x_D X) (cy := x_y X) (a := a) (thrown := thrown_50) (g := g) (saved := saved) (hasSaved := hasSaved) (coef := coef) (nodes := v10.2.1) (nodeMany := v10.2.2) (isDeep := isDeep) (codes := codes) (details := details) (levelMany := levelMany) (given := given) (paper := paper) (papered := papered) (tape := tape) (taped := taped) (wrongAt := wrongAt) (at_ := at_) (value := value) (readPlace := readPlace) (readValue := readValue) (readEpoch := readEpoch) (p0 := p0) (p1 := l4_50 &&& (((1 : Int32) <<< (p1 &&& 31)) ^^^ (-1))) h14) (As := [.int p0, .int (l4_50 &&& (((1 : Int32) <<< (p1 &&& 31)) ^^^ (-1)))]) (rest := [.int l3_50]) (wr := []) (ws' := fun _ => (wM (x_y X) a thrown_50 g saved hasSaved coef v13.2.1 v13.2.2 isDeep codes details levelMany given paper papered tape taped wrongAt at_ value readPlace readValue readEpoch)) (st' := fun _ => [.int v13.1, .int l3_50]) (ci := 12) 2 0 ⟨_, rfl⟩ rfl rfl mw_7_145 mw_1_9 mw_7_142 mw_7_144 mp_47 hd_X11_opens rfl (g_rm hR rfl rfl) [0, 1, 2, 3, 4, 5, 6, 7, 8, 9] [] [0, 1, 2, 3, 4, 5, 6, 7, 8, 9] ⟨rfl, rfl, rfl, rfl, by decide, gRoIn_0, rfl, fun _ => rfl⟩ rfl (Nat.le_of_ble_eq_true rfl) dX11_powerBits_89 (g_rc hR (Nat.le_of_ble_eq_true rfl) (Nat.le_of_ble_eq_true rfl)) (ck' := 0) (sk' := 0) rfl rfl (fun _ => rfl) (fun _ _ => ?_) (fun _ hx => absurd rfl hx)
            refine g_if_ne C 99 dX11_powerBits_92 (by decide) (fun c15 => ?_) (fun c15 => ?_)
            · have hf := opt_neg c15 hf
              refine gW.locals [0, 1, 2, 4] rfl ?_
              exact H99 thrown_50 v13.2.1 v13.2.2 l4_50 l3_50 hf
            · have hf := opt_pos c15 hf
              refine g_iconst C (v := 1) dX11_powerBits_95 (by decide) ?_
              refine g_goto C 100 dX11_powerBits_96 (by decide) ?_
              refine gW.locals [0, 1, 2, 4] rfl ?_
              exact H100 thrown_50 v13.2.1 v13.2.2 l4_50 1 l3_50 hf
  have H33 : ∀ (thrown_33 : Int32) (nodes_33 : Nat → Int32) (nodeMany_33 : Int32) (s0_33 : Int32), F_X11_powerBits_L33 g p0 p1 thrown_33 nodes_33 nodeMany_33 s0_33 = some val → gW X Q 0 0 ((wM (x_y X) a thrown_33 g saved hasSaved coef nodes_33 nodeMany_33 isDeep codes details levelMany given paper papered tape taped wrongAt at_ value readPlace readValue readEpoch)) [(0, .ref (a 0)), (1, .int p0), (2, .int p1)] [.int s0_33, .ref (a 0)] 33 := by
    intro thrown_33 nodes_33 nodeMany_33 s0_33 hf
    unfold F_X11_powerBits_L33 at hf
    refine g_put C (ws' := (wM (x_y X) a s0_33 g saved hasSaved coef nodes_33 nodeMany_33 isDeep codes details levelMany given paper papered tape taped wrongAt at_ value readPlace readValue readEpoch)) 0 0 rfl rfl wiX11 (by decide) tyX11_ok nmX11 mw_6_184 rfl rfl rfl rfl (Nat.le_of_ble_eq_true rfl) rfl dX11_powerBits_33 ?_
    refine g_aload_n C 0 dX11_powerBits_36 rfl ?_
    refine g_get C 0 0 rfl rfl wiX11 (by decide) mw_6_184 rfl rfl dX11_powerBits_37 ?_
    refine g_if_eq C 45 dX11_powerBits_40 (by decide) (fun c4 => ?_) (fun c4 => ?_)
    · have hf := opt_pos c4 hf
      refine g_iconst C (v := 0) dX11_powerBits_45 (by decide) ?_
      refine g_istore_n C (lv' := [(3, .int 0), (0, .ref (a 0)), (1, .int p0), (2, .int p1)]) dX11_powerBits_46 (g_nlt hn rfl) rfl ?_
      refine g_iconst C (v := 0) dX11_powerBits_47 (by decide) ?_
      refine g_istore C (lv' := [(4, .int 0), (3, .int 0), (0, .ref (a 0)), (1, .int p0), (2, .int p1)]) dX11_powerBits_48 (g_nlt hn rfl) rfl ?_
      refine gW.locals [2, 3, 4, 1, 0] rfl ?_
      exact H50 1000 s0_33 nodes_33 nodeMany_33 0 0 hf
    · have hf := opt_neg c4 hf
      refine g_lconst C (v := 0) dX11_powerBits_43 (by decide) ?_
      obtain rfl := Option.some.inj hf
      exact g_lret C E () dX11_powerBits_44 rfl rfl rfl (Nat.le_of_ble_eq_true rfl) (Nat.le_of_ble_eq_true rfl)
  have H15 : ∀ (thrown_15 : Int32) (nodes_15 : Nat → Int32) (nodeMany_15 : Int32), F_X11_powerBits_L15 g p0 p1 thrown_15 nodes_15 nodeMany_15 = some val → gW X Q 0 0 ((wM (x_y X) a thrown_15 g saved hasSaved coef nodes_15 nodeMany_15 isDeep codes details levelMany given paper papered tape taped wrongAt at_ value readPlace readValue readEpoch)) [(0, .ref (a 0)), (1, .int p0), (2, .int p1)] [.ref (a 0)] 15 := by
    intro thrown_15 nodes_15 nodeMany_15 hf
    unfold F_X11_powerBits_L15 at hf
    refine g_iconst C (v := 1) dX11_powerBits_15 (by decide) ?_
    refine g_goto C 33 dX11_powerBits_16 (by decide) ?_
    exact H33 thrown_15 nodes_15 nodeMany_15 1 hf
  show gW X Q 0 0 ((wM (x_y X) a thrown g saved hasSaved coef nodes nodeMany isDeep codes details levelMany given paper papered tape taped wrongAt at_ value readPlace readValue readEpoch)) [(0, .ref (a 0)), (1, .int p0), (2, .int p1)] [] 0
  refine g_aload_n C 0 dX11_powerBits_0 rfl ?_
  refine g_iload_n C 1 dX11_powerBits_1 rfl ?_
  obtain ⟨v1, h2, hf⟩ := opt_bind hf
  refine g_callS C (c_X11_isSlot (l := x_l X) (D := x_D X) (cy := x_y X) (p0 := p0) h2) (As := [.int p0]) (rest := [.ref (a 0)]) (wr := (wM (x_y X) a thrown g saved hasSaved coef nodes nodeMany isDeep codes details levelMany given paper papered tape taped wrongAt at_ value readPlace readValue readEpoch)) (ws' := fun _ => (wM (x_y X) a thrown g saved hasSaved coef nodes nodeMany isDeep codes details levelMany given paper papered tape taped wrongAt at_ value readPlace readValue readEpoch)) (st' := fun _ => [.int v1, .ref (a 0)]) 1 mw_7_83 mw_1_9 mw_7_81 mw_7_82 hd_X11_isSlot rfl (g_rm hR rfl rfl) [] [0, 1, 2, 3, 4, 5, 6, 7, 8, 9] [0, 1, 2, 3, 4, 5, 6, 7, 8, 9] ⟨rfl, rfl, rfl, rfl, by decide, gRoIn_0, rfl, fun _ => rfl⟩ rfl (Nat.le_of_ble_eq_true rfl) dX11_powerBits_2 (g_rc hR (Nat.le_of_ble_eq_true rfl) (Nat.le_of_ble_eq_true rfl)) (ck' := 0) (sk' := 0) rfl rfl (fun _ => rfl) (fun _ _ => ?_) (fun _ hx => absurd rfl hx)
  refine g_if_eq C 15 dX11_powerBits_5 (by decide) (fun c3 => ?_) (fun c3 => ?_)
  · have hf := opt_pos c3 hf
    exact H15 thrown nodes nodeMany hf
  · have hf := opt_neg c3 hf
    refine g_iload_n C 2 dX11_powerBits_8 rfl ?_
    obtain ⟨v16, h17, hf⟩ := opt_bind hf
    refine g_callS C (c_X11_isMember (l := x_l X) (D := x_D X) (cy := x_y X) (p0 := p1) h17) (As := [.int p1]) (rest := [.ref (a 0)]) (wr := (wM (x_y X) a thrown g saved hasSaved coef nodes nodeMany isDeep codes details levelMany given paper papered tape taped wrongAt at_ value readPlace readValue readEpoch)) (ws' := fun _ => (wM (x_y X) a thrown g saved hasSaved coef nodes nodeMany isDeep codes details levelMany given paper papered tape taped wrongAt at_ value readPlace readValue readEpoch)) (st' := fun _ => [.int v16, .ref (a 0)]) 1 mw_7_38 mw_1_9 mw_7_36 mw_7_37 hd_X11_isMember rfl (g_rm hR rfl rfl) [] [0, 1, 2, 3, 4, 5, 6, 7, 8, 9] [0, 1, 2, 3, 4, 5, 6, 7, 8, 9] ⟨rfl, rfl, rfl, rfl, by decide, gRoIn_0, rfl, fun _ => rfl⟩ rfl (Nat.le_of_ble_eq_true rfl) dX11_powerBits_9 (g_rc hR (Nat.le_of_ble_eq_true rfl) (Nat.le_of_ble_eq_true rfl)) (ck' := 0) (sk' := 0) rfl rfl (fun _ => rfl) (fun _ _ => ?_) (fun _ hx => absurd rfl hx)
    refine g_if_ne C 19 dX11_powerBits_12 (by decide) (fun c18 => ?_) (fun c18 => ?_)
    · have hf := opt_neg c18 hf
      refine g_aload_n C 0 dX11_powerBits_19 rfl ?_
      refine g_iload_n C 1 dX11_powerBits_20 rfl ?_
      refine g_iconst C (v := 0) dX11_powerBits_21 (by decide) ?_
      obtain ⟨v19, h20, hf⟩ := opt_bind hf
      refine g_callV C (c_X11_of (l := x_l X) (D := x_D X) (cy := x_y X) (a := a) (thrown := thrown) (g := g) (saved := saved) (hasSaved := hasSaved) (coef := coef) (nodes := nodes) (nodeMany := nodeMany) (isDeep := isDeep) (codes := codes) (details := details) (levelMany := levelMany) (given := given) (paper := paper) (papered := papered) (tape := tape) (taped := taped) (wrongAt := wrongAt) (at_ := at_) (value := value) (readPlace := readPlace) (readValue := readValue) (readEpoch := readEpoch) (p0 := p0) (p1 := 0) h20) (As := [.int p0, .int 0]) (rest := [.ref (a 0)]) (wr := []) (ws' := fun _ => (wM (x_y X) a thrown g saved hasSaved coef nodes nodeMany isDeep codes details levelMany given paper papered tape taped wrongAt at_ value readPlace readValue readEpoch)) (st' := fun _ => [.int v19, .ref (a 0)]) (ci := 12) 2 0 ⟨_, rfl⟩ rfl rfl mw_7_69 mw_1_9 mw_7_66 mw_7_68 mp_35 hd_X11_of rfl (g_rm hR rfl rfl) [0, 1, 2, 3, 4, 5, 6, 7, 8, 9] [] [0, 1, 2, 3, 4, 5, 6, 7, 8, 9] ⟨rfl, rfl, rfl, rfl, by decide, gRoIn_0, rfl, fun _ => rfl⟩ rfl (Nat.le_of_ble_eq_true rfl) dX11_powerBits_22 (g_rc hR (Nat.le_of_ble_eq_true rfl) (Nat.le_of_ble_eq_true rfl)) (ck' := 0) (sk' := 0) rfl rfl (fun _ => rfl) (fun _ _ => ?_) (fun _ hx => absurd rfl hx)
      refine g_if_ne C 32 dX11_powerBits_25 (by decide) (fun c21 => ?_) (fun c21 => ?_)
      · have hf := opt_neg c21 hf
        refine g_iconst C (v := 0) dX11_powerBits_32 (by decide) ?_
        exact H33 thrown nodes nodeMany 0 hf
      · have hf := opt_pos c21 hf
        refine g_iconst C (v := 2) dX11_powerBits_28 (by decide) ?_
        refine g_goto C 33 dX11_powerBits_29 (by decide) ?_
        exact H33 thrown nodes nodeMany 2 hf
    · have hf := opt_pos c18 hf
      exact H15 thrown nodes nodeMany hf
/-! X11_healthBits -/
theorem hd_X11_healthBits : yX11_healthBits.cls ≠ "java/lang/invoke/MethodHandle" ∧ yX11_healthBits.cls ≠ "java/lang/invoke/VarHandle" ∧ (parseMethodDescriptor yX11_healthBits.desc).map (fun d => d.parameters.length) = some 1 := by decide +kernel
def F_X11_healthBits_L52   (thrown_52 : Int32) (s0_52 : Int32) : Option (Int32 × Int32) := some (s0_52, thrown_52)
def F_X11_healthBits (thrown : Int32) (g : Nat → Int32) (p0 : Int32) : Option (Int32 × Int32) := (F_X11_lacks g p0).bind fun v1 => if v1 = 0 then ((F_X11_count g p0 (-1)).bind fun v4 => if v4 = 0 then ((F_X11_fails thrown 3).bind fun v14 => F_X11_healthBits_L52 v14.2 v14.1) else ((F_X11_count g p0 0).bind fun v7 => gg (gn32 (FP.fdiv (FP.i2f v7) (FP.i2f v4))) ((F_Jxf58ca_floatToIntBits_5c35a (FP.fdiv (FP.i2f v7) (FP.i2f v4))).bind fun v10 => (F_X11_done thrown v10).bind fun v12 => F_X11_healthBits_L52 v12.2 v12.1))) else ((F_X11_fails thrown v1).bind fun v16 => some (v16.1, v16.2))
set_option maxRecDepth 100000 in
set_option maxHeartbeats 4000000 in
theorem c_X11_healthBits {l : Launch} {D : va_G} {cy : Nat → ClassId} {a : Nat → Nat} {thrown : Int32} {g : Nat → Int32} {saved : Nat → Int32} {hasSaved : Int32} {coef : Nat → Int32} {nodes : Nat → Int32} {nodeMany : Int32} {isDeep : Int32} {codes : Nat → Int32} {details : Nat → Int32} {levelMany : Int32} {given : Nat → Int32} {paper : Nat → Int32} {papered : Int32} {tape : Nat → Int32} {taped : Int32} {wrongAt : Int32} {at_ : Int32} {value : Int32} {readPlace : Int32} {readValue : Int32} {readEpoch : Int32} {p0 : Int32}  {val : Int32 × Int32} (hf : F_X11_healthBits thrown g p0 = some val) : gCt l D cy yX11_healthBits cX11_healthBits 4 (some .int) 4 94 0 0 [.ref (a 0), .int p0] [] ((wM cy a thrown g saved hasSaved coef nodes nodeMany isDeep codes details levelMany given paper papered tape taped wrongAt at_ value readPlace readValue readEpoch)) 0 (fun _ : Unit => some (.int val.1)) (fun _ => (wM cy a val.2 g saved hasSaved coef nodes nodeMany isDeep codes details levelMany given paper papered tape taped wrongAt at_ value readPlace readValue readEpoch)) := by
  refine g_begin (by decide +kernel) (Nat.le_of_ble_eq_true rfl) ?_
  intro X Q hl hR hD hy hro hn C hin E
  subst hl; subst hD; subst hy
  replace C : gC X "SecretVaultModel" cX11_healthBits (some .int) := C
  unfold F_X11_healthBits at hf
  have H52 : ∀ (thrown_52 : Int32) (s0_52 : Int32), F_X11_healthBits_L52 thrown_52 s0_52 = some val → gW X Q 0 0 ((wM (x_y X) a thrown_52 g saved hasSaved coef nodes nodeMany isDeep codes details levelMany given paper papered tape taped wrongAt at_ value readPlace readValue readEpoch)) [(0, .ref (a 0)), (1, .int p0)] [.int s0_52] 52 := by
    intro thrown_52 s0_52 hf
    unfold F_X11_healthBits_L52 at hf
    obtain rfl := Option.some.inj hf
    exact g_iret C E () dX11_healthBits_52 rfl rfl rfl (Nat.le_of_ble_eq_true rfl) (Nat.le_of_ble_eq_true rfl)
  show gW X Q 0 0 ((wM (x_y X) a thrown g saved hasSaved coef nodes nodeMany isDeep codes details levelMany given paper papered tape taped wrongAt at_ value readPlace readValue readEpoch)) [(0, .ref (a 0)), (1, .int p0)] [] 0
  refine g_aload_n C 0 dX11_healthBits_0 rfl ?_
  refine g_iload_n C 1 dX11_healthBits_1 rfl ?_
  obtain ⟨v1, h2, hf⟩ := opt_bind hf
  refine g_callV C (c_X11_lacks (l := x_l X) (D := x_D X) (cy := x_y X) (a := a) (thrown := thrown) (g := g) (saved := saved) (hasSaved := hasSaved) (coef := coef) (nodes := nodes) (nodeMany := nodeMany) (isDeep := isDeep) (codes := codes) (details := details) (levelMany := levelMany) (given := given) (paper := paper) (papered := papered) (tape := tape) (taped := taped) (wrongAt := wrongAt) (at_ := at_) (value := value) (readPlace := readPlace) (readValue := readValue) (readEpoch := readEpoch) (p0 := p0) h2) (As := [.int p0]) (rest := []) (wr := []) (ws' := fun _ => (wM (x_y X) a thrown g saved hasSaved coef nodes nodeMany isDeep codes details levelMany given paper papered tape taped wrongAt at_ value readPlace readValue readEpoch)) (st' := fun _ => [.int v1]) (ci := 12) 1 0 ⟨_, rfl⟩ rfl rfl mw_7_126 mw_1_9 mw_7_123 mw_7_125 mp_45 hd_X11_lacks rfl (g_rm hR rfl rfl) [0, 1, 2, 3, 4, 5, 6, 7, 8, 9] [] [0, 1, 2, 3, 4, 5, 6, 7, 8, 9] ⟨rfl, rfl, rfl, rfl, by decide, gRoIn_0, rfl, fun _ => rfl⟩ rfl (Nat.le_of_ble_eq_true rfl) dX11_healthBits_2 (g_rc hR (Nat.le_of_ble_eq_true rfl) (Nat.le_of_ble_eq_true rfl)) (ck' := 0) (sk' := 0) rfl rfl (fun _ => rfl) (fun _ _ => ?_) (fun _ hx => absurd rfl hx)
  refine g_istore_n C (lv' := [(2, .int v1), (0, .ref (a 0)), (1, .int p0)]) dX11_healthBits_5 (g_nlt hn rfl) rfl ?_
  refine g_iload_n C 0 dX11_healthBits_6 rfl ?_
  refine g_if_eq C 16 dX11_healthBits_7 (by decide) (fun c3 => ?_) (fun c3 => ?_)
  · have hf := opt_pos c3 hf
    refine g_aload_n C 1 dX11_healthBits_16 rfl ?_
    refine g_iload_n C 2 dX11_healthBits_17 rfl ?_
    refine g_iconst C (v := (-1)) dX11_healthBits_18 (by decide) ?_
    obtain ⟨v4, h5, hf⟩ := opt_bind hf
    refine g_callV C (c_X11_count (l := x_l X) (D := x_D X) (cy := x_y X) (a := a) (thrown := thrown) (g := g) (saved := saved) (hasSaved := hasSaved) (coef := coef) (nodes := nodes) (nodeMany := nodeMany) (isDeep := isDeep) (codes := codes) (details := details) (levelMany := levelMany) (given := given) (paper := paper) (papered := papered) (tape := tape) (taped := taped) (wrongAt := wrongAt) (at_ := at_) (value := value) (readPlace := readPlace) (readValue := readValue) (readEpoch := readEpoch) (p0 := p0) (p1 := (-1)) h5) (As := [.int p0, .int (-1)]) (rest := []) (wr := []) (ws' := fun _ => (wM (x_y X) a thrown g saved hasSaved coef nodes nodeMany isDeep codes details levelMany given paper papered tape taped wrongAt at_ value readPlace readValue readEpoch)) (st' := fun _ => [.int v4]) (ci := 12) 2 0 ⟨_, rfl⟩ rfl rfl mw_7_223 mw_1_9 mw_7_220 mw_7_222 mp_59 hd_X11_count rfl (g_rm hR rfl rfl) [0, 1, 2, 3, 4, 5, 6, 7, 8, 9] [] [0, 1, 2, 3, 4, 5, 6, 7, 8, 9] ⟨rfl, rfl, rfl, rfl, by decide, gRoIn_0, rfl, fun _ => rfl⟩ rfl (Nat.le_of_ble_eq_true rfl) dX11_healthBits_19 (g_rc hR (Nat.le_of_ble_eq_true rfl) (Nat.le_of_ble_eq_true rfl)) (ck' := 0) (sk' := 0) rfl rfl (fun _ => rfl) (fun _ _ => ?_) (fun _ hx => absurd rfl hx)
    refine g_istore_n C (lv' := [(3, .int v4), (2, .int v1), (0, .ref (a 0)), (1, .int p0)]) dX11_healthBits_22 (g_nlt hn rfl) rfl ?_
    refine g_iload_n C 0 dX11_healthBits_23 rfl ?_
    refine g_if_ne C 35 dX11_healthBits_24 (by decide) (fun c6 => ?_) (fun c6 => ?_)
    · have hf := opt_neg c6 hf
      refine g_aload_n C 2 dX11_healthBits_35 rfl ?_
      refine g_aload_n C 2 dX11_healthBits_36 rfl ?_
      refine g_iload_n C 3 dX11_healthBits_37 rfl ?_
      refine g_iconst C (v := 0) dX11_healthBits_38 (by decide) ?_
      obtain ⟨v7, h8, hf⟩ := opt_bind hf
      refine g_callV C (c_X11_count (l := x_l X) (D := x_D X) (cy := x_y X) (a := a) (thrown := thrown) (g := g) (saved := saved) (hasSaved := hasSaved) (coef := coef) (nodes := nodes) (nodeMany := nodeMany) (isDeep := isDeep) (codes := codes) (details := details) (levelMany := levelMany) (given := given) (paper := paper) (papered := papered) (tape := tape) (taped := taped) (wrongAt := wrongAt) (at_ := at_) (value := value) (readPlace := readPlace) (readValue := readValue) (readEpoch := readEpoch) (p0 := p0) (p1 := 0) h8) (As := [.int p0, .int 0]) (rest := [.ref (a 0)]) (wr := []) (ws' := fun _ => (wM (x_y X) a thrown g saved hasSaved coef nodes nodeMany isDeep codes details levelMany given paper papered tape taped wrongAt at_ value readPlace readValue readEpoch)) (st' := fun _ => [.int v7, .ref (a 0)]) (ci := 12) 2 0 ⟨_, rfl⟩ rfl rfl mw_7_223 mw_1_9 mw_7_220 mw_7_222 mp_59 hd_X11_count rfl (g_rm hR rfl rfl) [0, 1, 2, 3, 4, 5, 6, 7, 8, 9] [] [0, 1, 2, 3, 4, 5, 6, 7, 8, 9] ⟨rfl, rfl, rfl, rfl, by decide, gRoIn_0, rfl, fun _ => rfl⟩ rfl (Nat.le_of_ble_eq_true rfl) dX11_healthBits_39 (g_rc hR (Nat.le_of_ble_eq_true rfl) (Nat.le_of_ble_eq_true rfl)) (ck' := 0) (sk' := 0) rfl rfl (fun _ => rfl) (fun _ _ => ?_) (fun _ hx => absurd rfl hx)
      refine g_i2f C dX11_healthBits_42 ?_
      refine g_iload_n C 0 dX11_healthBits_43 rfl ?_
      refine g_i2f C dX11_healthBits_44 ?_
      obtain ⟨c9, hf⟩ := gg_of hf
      refine g_fdiv C dX11_healthBits_45 (gn32_of c9) ?_
      obtain ⟨v10, h11, hf⟩ := opt_bind hf
      refine g_callS C (c_Jxf58ca_floatToIntBits_5c35a (l := x_l X) (D := x_D X) (cy := x_y X) (p0 := FP.fdiv (FP.i2f v7) (FP.i2f v4)) h11) (As := [.float (FP.fdiv (FP.i2f v7) (FP.i2f v4))]) (rest := [.ref (a 0)]) (wr := (wM (x_y X) a thrown g saved hasSaved coef nodes nodeMany isDeep codes details levelMany given paper papered tape taped wrongAt at_ value readPlace readValue readEpoch)) (ws' := fun _ => (wM (x_y X) a thrown g saved hasSaved coef nodes nodeMany isDeep codes details levelMany given paper papered tape taped wrongAt at_ value readPlace readValue readEpoch)) (st' := fun _ => [.int v10, .ref (a 0)]) 1 mw_8_125 mw_1_37 mw_8_123 mw_8_124 hd_Jxf58ca_floatToIntBits_5c35a rfl (g_rm hR rfl rfl) [] [0, 1, 2, 3, 4, 5, 6, 7, 8, 9] [0, 1, 2, 3, 4, 5, 6, 7, 8, 9] ⟨rfl, rfl, rfl, rfl, by decide, gRoIn_0, rfl, fun _ => rfl⟩ rfl (Nat.le_of_ble_eq_true rfl) dX11_healthBits_46 (g_rc hR (Nat.le_of_ble_eq_true rfl) (Nat.le_of_ble_eq_true rfl)) (ck' := 0) (sk' := 0) rfl rfl (fun _ => rfl) (fun _ _ => ?_) (fun _ hx => absurd rfl hx)
      obtain ⟨v12, h13, hf⟩ := opt_bind hf
      refine g_callV C (c_X11_done (l := x_l X) (D := x_D X) (cy := x_y X) (a := a) (thrown := thrown) (g := g) (saved := saved) (hasSaved := hasSaved) (coef := coef) (nodes := nodes) (nodeMany := nodeMany) (isDeep := isDeep) (codes := codes) (details := details) (levelMany := levelMany) (given := given) (paper := paper) (papered := papered) (tape := tape) (taped := taped) (wrongAt := wrongAt) (at_ := at_) (value := value) (readPlace := readPlace) (readValue := readValue) (readEpoch := readEpoch) (p0 := v10) h13) (As := [.int v10]) (rest := []) (wr := []) (ws' := fun _ => (wM (x_y X) a v12.2 g saved hasSaved coef nodes nodeMany isDeep codes details levelMany given paper papered tape taped wrongAt at_ value readPlace readValue readEpoch)) (st' := fun _ => [.int v12.1]) (ci := 12) 1 0 ⟨_, rfl⟩ rfl rfl mw_7_22 mw_1_9 mw_7_19 mw_7_21 mp_29 hd_X11_done rfl (g_rm hR rfl rfl) [0, 1, 2, 3, 4, 5, 6, 7, 8, 9] [] [0, 1, 2, 3, 4, 5, 6, 7, 8, 9] ⟨rfl, rfl, rfl, rfl, by decide, gRoIn_0, rfl, fun _ => rfl⟩ rfl (Nat.le_of_ble_eq_true rfl) dX11_healthBits_49 (g_rc hR (Nat.le_of_ble_eq_true rfl) (Nat.le_of_ble_eq_true rfl)) (ck' := 0) (sk' := 0) rfl rfl (fun _ => rfl) (fun _ _ => ?_) (fun _ hx => absurd rfl hx)
      refine gW.locals [2, 3] rfl ?_
      exact H52 v12.2 v12.1 hf
    · have hf := opt_pos c6 hf
      refine g_aload_n C 2 dX11_healthBits_27 rfl ?_
      refine g_iconst C (v := 3) dX11_healthBits_28 (by decide) ?_
      obtain ⟨v14, h15, hf⟩ := opt_bind hf
      refine g_callV C (c_X11_fails (l := x_l X) (D := x_D X) (cy := x_y X) (a := a) (thrown := thrown) (g := g) (saved := saved) (hasSaved := hasSaved) (coef := coef) (nodes := nodes) (nodeMany := nodeMany) (isDeep := isDeep) (codes := codes) (details := details) (levelMany := levelMany) (given := given) (paper := paper) (papered := papered) (tape := tape) (taped := taped) (wrongAt := wrongAt) (at_ := at_) (value := value) (readPlace := readPlace) (readValue := readValue) (readEpoch := readEpoch) (p0 := 3) h15) (As := [.int 3]) (rest := []) (wr := []) (ws' := fun _ => (wM (x_y X) a v14.2 g saved hasSaved coef nodes nodeMany isDeep codes details levelMany given paper papered tape taped wrongAt at_ value readPlace readValue readEpoch)) (st' := fun _ => [.int v14.1]) (ci := 12) 1 0 ⟨_, rfl⟩ rfl rfl mw_7_45 mw_1_9 mw_7_42 mw_7_44 mp_31 hd_X11_fails rfl (g_rm hR rfl rfl) [0, 1, 2, 3, 4, 5, 6, 7, 8, 9] [] [0, 1, 2, 3, 4, 5, 6, 7, 8, 9] ⟨rfl, rfl, rfl, rfl, by decide, gRoIn_0, rfl, fun _ => rfl⟩ rfl (Nat.le_of_ble_eq_true rfl) dX11_healthBits_29 (g_rc hR (Nat.le_of_ble_eq_true rfl) (Nat.le_of_ble_eq_true rfl)) (ck' := 0) (sk' := 0) rfl rfl (fun _ => rfl) (fun _ _ => ?_) (fun _ hx => absurd rfl hx)
      refine g_goto C 52 dX11_healthBits_32 (by decide) ?_
      refine gW.locals [2, 3] rfl ?_
      exact H52 v14.2 v14.1 hf
  · have hf := opt_neg c3 hf
    refine g_aload_n C 1 dX11_healthBits_10 rfl ?_
    refine g_iload_n C 0 dX11_healthBits_11 rfl ?_
    obtain ⟨v16, h17, hf⟩ := opt_bind hf
    refine g_callV C (c_X11_fails (l := x_l X) (D := x_D X) (cy := x_y X) (a := a) (thrown := thrown) (g := g) (saved := saved) (hasSaved := hasSaved) (coef := coef) (nodes := nodes) (nodeMany := nodeMany) (isDeep := isDeep) (codes := codes) (details := details) (levelMany := levelMany) (given := given) (paper := paper) (papered := papered) (tape := tape) (taped := taped) (wrongAt := wrongAt) (at_ := at_) (value := value) (readPlace := readPlace) (readValue := readValue) (readEpoch := readEpoch) (p0 := v1) h17) (As := [.int v1]) (rest := []) (wr := []) (ws' := fun _ => (wM (x_y X) a v16.2 g saved hasSaved coef nodes nodeMany isDeep codes details levelMany given paper papered tape taped wrongAt at_ value readPlace readValue readEpoch)) (st' := fun _ => [.int v16.1]) (ci := 12) 1 0 ⟨_, rfl⟩ rfl rfl mw_7_45 mw_1_9 mw_7_42 mw_7_44 mp_31 hd_X11_fails rfl (g_rm hR rfl rfl) [0, 1, 2, 3, 4, 5, 6, 7, 8, 9] [] [0, 1, 2, 3, 4, 5, 6, 7, 8, 9] ⟨rfl, rfl, rfl, rfl, by decide, gRoIn_0, rfl, fun _ => rfl⟩ rfl (Nat.le_of_ble_eq_true rfl) dX11_healthBits_12 (g_rc hR (Nat.le_of_ble_eq_true rfl) (Nat.le_of_ble_eq_true rfl)) (ck' := 0) (sk' := 0) rfl rfl (fun _ => rfl) (fun _ _ => ?_) (fun _ hx => absurd rfl hx)
    obtain rfl := Option.some.inj hf
    exact g_iret C E () dX11_healthBits_15 rfl rfl rfl (Nat.le_of_ble_eq_true rfl) (Nat.le_of_ble_eq_true rfl)
