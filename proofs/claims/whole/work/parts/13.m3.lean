/-! X11_holds -/
theorem hd_X11_holds : yX11_holds.cls ≠ "java/lang/invoke/MethodHandle" ∧ yX11_holds.cls ≠ "java/lang/invoke/VarHandle" ∧ (parseMethodDescriptor yX11_holds.desc).map (fun d => d.parameters.length) = some 5 := by decide +kernel
def FB_X11_holds_L242   (s0_242 : Int32) : Option (Int32) := gg (gnar .boolean s0_242) (some s0_242)
def FB_X11_holds_L215  (K172 : Int32 → Int32 → Int32 → Option (Int32)) (l7_215 : Int32) (l10_215 : Int32) (s0_215 : Int32) (s1_215 : Int32) : Option (Int32) := K172 l7_215 (s1_215 + s0_215) (l10_215 + 1)
def FB_X11_holds_L172 (P : (Nat → Int32) → Int32 → Int32 → Int32 → Int32 → Option (Int32)) (g : Nat → Int32) (p1 : Int32) (p3 : Int32) (p4 : Int32)  : Nat → Int32 → Int32 → Int32 → Option (Int32)
  | 0, _, _, _ => none
  | n + 1, l7_172, l8_172, l9_172 => if (p3 - 1) ≤ l9_172 then (if l8_172 < (l7_172 - 48) then (FB_X11_holds_L242 0) else (FB_X11_holds_L242 1)) else ((F_X11_next g p1 l9_172 (p3 - 1) 44).bind fun v16 => (P g p1 l9_172 v16 p4).bind fun v18 => if v18 = 0 then (FB_X11_holds_L215 (FB_X11_holds_L172 P g p1 p3 p4 n) l7_172 v16 0 l8_172) else (FB_X11_holds_L215 (FB_X11_holds_L172 P g p1 p3 p4 n) l7_172 v16 1 l8_172))
def FB_X11_holds_L163   (s0_163 : Int32) : Option (Int32) := gg (gnar .boolean s0_163) (some s0_163)
def FB_X11_holds_L101   (s0_101 : Int32) : Option (Int32) := gg (gnar .boolean s0_101) (some s0_101)
def FB_X11_holds_L100    : Option (Int32) := FB_X11_holds_L101 0
def FB_X11_holds_L50   (s0_50 : Int32) : Option (Int32) := gg (gnar .boolean s0_50) (some s0_50)
def FB_X11_holds_L45    : Option (Int32) := FB_X11_holds_L50 1
def FB_X11_holds (P : (Nat → Int32) → Int32 → Int32 → Int32 → Int32 → Option (Int32)) (g : Nat → Int32) (p1 : Int32) (p2 : Int32) (p3 : Int32) (p4 : Int32) : Option (Int32) := (F_X11_next g p1 p2 p3 124).bind fun v1 => if p3 ≤ v1 then ((F_X11_next g p1 p2 p3 38).bind fun v4 => if p3 ≤ v4 then ((F_X11_of g p1 ((12 : Int32) + p2)).bind fun v7 => if v7 = 40 then ((P g p1 (p2 + 1) (p3 - 1) p4).bind fun v23 => gg (gnar .boolean v23) (some v23)) else ((F_X11_isCount g p1 p2 p3).bind fun v10 => if v10 = 0 then (if ((p4 >>> ((v7 - 48) &&& 31)) &&& 1) = 1 then (FB_X11_holds_L163 1) else (FB_X11_holds_L163 0)) else (FB_X11_holds_L172 P g p1 p3 p4 1000 v7 0 (p2 + 4)))) else ((P g p1 p2 v4 p4).bind fun v26 => if v26 = 0 then (FB_X11_holds_L100 ) else ((P g p1 (v4 + 1) p3 p4).bind fun v30 => if v30 = 0 then (FB_X11_holds_L100 ) else (FB_X11_holds_L101 1)))) else ((P g p1 p2 v1 p4).bind fun v33 => if v33 = 0 then ((P g p1 (v1 + 1) p3 p4).bind fun v37 => if v37 = 0 then (FB_X11_holds_L50 0) else (FB_X11_holds_L45 )) else (FB_X11_holds_L45 ))
set_option maxRecDepth 100000 in
set_option maxHeartbeats 4000000 in
theorem cB_X11_holds {l : Launch} {D : va_G} {cy : Nat → ClassId} {d : Nat} {P : (Nat → Int32) → Int32 → Int32 → Int32 → Int32 → Option (Int32)} (hP : ∀ {a : Nat → Nat} {thrown : Int32} {g : Nat → Int32} {saved : Nat → Int32} {hasSaved : Int32} {coef : Nat → Int32} {nodes : Nat → Int32} {nodeMany : Int32} {isDeep : Int32} {codes : Nat → Int32} {details : Nat → Int32} {levelMany : Int32} {given : Nat → Int32} {paper : Nat → Int32} {papered : Int32} {tape : Nat → Int32} {taped : Int32} {wrongAt : Int32} {at_ : Int32} {value : Int32} {readPlace : Int32} {readValue : Int32} {readEpoch : Int32} {p1 : Int32} {p2 : Int32} {p3 : Int32} {p4 : Int32}  {val : Int32}, P g p1 p2 p3 p4 = some val → gCt l D cy yX11_holds cX11_holds 11 (some .boolean) (1 * d + 6) (30 * d + 500) 0 0 [.ref (a 0), .int p1, .int p2, .int p3, .int p4] [] ((wM cy a thrown g saved hasSaved coef nodes nodeMany isDeep codes details levelMany given paper papered tape taped wrongAt at_ value readPlace readValue readEpoch)) 0 (fun _ : Unit => some (.int val)) (fun _ => (wM cy a thrown g saved hasSaved coef nodes nodeMany isDeep codes details levelMany given paper papered tape taped wrongAt at_ value readPlace readValue readEpoch))) {a : Nat → Nat} {thrown : Int32} {g : Nat → Int32} {saved : Nat → Int32} {hasSaved : Int32} {coef : Nat → Int32} {nodes : Nat → Int32} {nodeMany : Int32} {isDeep : Int32} {codes : Nat → Int32} {details : Nat → Int32} {levelMany : Int32} {given : Nat → Int32} {paper : Nat → Int32} {papered : Int32} {tape : Nat → Int32} {taped : Int32} {wrongAt : Int32} {at_ : Int32} {value : Int32} {readPlace : Int32} {readValue : Int32} {readEpoch : Int32} {p1 : Int32} {p2 : Int32} {p3 : Int32} {p4 : Int32}  {val : Int32} (hf : FB_X11_holds P g p1 p2 p3 p4 = some val) : gCt l D cy yX11_holds cX11_holds 11 (some .boolean) (1 * (d + 1) + 6) (30 * (d + 1) + 500) 0 0 [.ref (a 0), .int p1, .int p2, .int p3, .int p4] [] ((wM cy a thrown g saved hasSaved coef nodes nodeMany isDeep codes details levelMany given paper papered tape taped wrongAt at_ value readPlace readValue readEpoch)) 0 (fun _ : Unit => some (.int val)) (fun _ => (wM cy a thrown g saved hasSaved coef nodes nodeMany isDeep codes details levelMany given paper papered tape taped wrongAt at_ value readPlace readValue readEpoch)) := by
  refine g_begin (by decide +kernel) (Nat.le_of_ble_eq_true rfl) ?_
  intro X Q hl hR hD hy hro hn C hin E
  subst hl; subst hD; subst hy
  replace C : gC X "SecretVaultModel" cX11_holds (some .boolean) := C
  unfold FB_X11_holds at hf
  have H242 : ∀ (s0_242 : Int32), FB_X11_holds_L242 s0_242 = some val → gW X Q 0 0 ((wM (x_y X) a thrown g saved hasSaved coef nodes nodeMany isDeep codes details levelMany given paper papered tape taped wrongAt at_ value readPlace readValue readEpoch)) [(0, .ref (a 0)), (1, .int p1), (2, .int p2), (3, .int p3), (4, .int p4)] [.int s0_242] 242 := by
    intro s0_242 hf
    unfold FB_X11_holds_L242 at hf
    obtain ⟨c15, hf⟩ := gg_of hf
    obtain rfl := Option.some.inj hf
    exact g_zret C E () (gnar_of c15) dX11_holds_242 rfl rfl rfl (Nat.le_of_ble_eq_true rfl) (Nat.le_of_ble_eq_true rfl)
  have H172 : ∀ (n172 : Nat), ∀ (l7_172 : Int32) (l8_172 : Int32) (l9_172 : Int32), FB_X11_holds_L172 P g p1 p3 p4 n172 l7_172 l8_172 l9_172 = some val → gW X Q 0 0 ((wM (x_y X) a thrown g saved hasSaved coef nodes nodeMany isDeep codes details levelMany given paper papered tape taped wrongAt at_ value readPlace readValue readEpoch)) [(0, .ref (a 0)), (1, .int p1), (2, .int p2), (3, .int p3), (4, .int p4), (7, .int l7_172), (8, .int l8_172), (9, .int l9_172)] [] 172 := by
    intro n172
    induction n172 with
    | zero => intros; rename_i hf; cases hf
    | succ n172 ih =>
      intro l7_172 l8_172 l9_172 hf
      have H172 := ih
      rw [FB_X11_holds_L172] at hf
      have H215 : ∀ (l7_215 : Int32) (l10_215 : Int32) (s0_215 : Int32) (s1_215 : Int32), FB_X11_holds_L215 (FB_X11_holds_L172 P g p1 p3 p4 n172) l7_215 l10_215 s0_215 s1_215 = some val → gW X Q 0 0 ((wM (x_y X) a thrown g saved hasSaved coef nodes nodeMany isDeep codes details levelMany given paper papered tape taped wrongAt at_ value readPlace readValue readEpoch)) [(0, .ref (a 0)), (1, .int p1), (2, .int p2), (3, .int p3), (4, .int p4), (7, .int l7_215), (10, .int l10_215)] [.int s0_215, .int s1_215] 215 := by
        intro l7_215 l10_215 s0_215 s1_215 hf
        unfold FB_X11_holds_L215 at hf
        refine g_iadd C dX11_holds_215 ?_
        refine g_istore C (lv' := [(8, .int (s1_215 + s0_215)), (0, .ref (a 0)), (1, .int p1), (2, .int p2), (3, .int p3), (4, .int p4), (7, .int l7_215), (10, .int l10_215)]) dX11_holds_216 (g_nlt hn rfl) rfl ?_
        refine g_iload C 7 dX11_holds_218 rfl ?_
        refine g_iconst C (v := 1) dX11_holds_220 (by decide) ?_
        refine g_iadd C dX11_holds_221 ?_
        refine g_istore C (lv' := [(9, .int (l10_215 + 1)), (8, .int (s1_215 + s0_215)), (0, .ref (a 0)), (1, .int p1), (2, .int p2), (3, .int p3), (4, .int p4), (7, .int l7_215), (10, .int l10_215)]) dX11_holds_222 (g_nlt hn rfl) rfl ?_
        refine g_goto C 172 dX11_holds_224 (by decide) ?_
        refine gW.locals [2, 3, 4, 5, 6, 7, 1, 0] rfl ?_
        exact H172 l7_215 (s1_215 + s0_215) (l10_215 + 1) hf
      refine g_iload C 7 dX11_holds_172 rfl ?_
      refine g_iload_n C 3 dX11_holds_174 rfl ?_
      refine g_iconst C (v := 1) dX11_holds_175 (by decide) ?_
      refine g_isub C dX11_holds_176 ?_
      refine g_icmp_ge C 227 dX11_holds_177 (by decide) (fun c13 => ?_) (fun c13 => ?_)
      · have hf := opt_pos c13 hf
        refine g_iload C 6 dX11_holds_227 rfl ?_
        refine g_iload C 5 dX11_holds_229 rfl ?_
        refine g_bipush C (v := 48) dX11_holds_231 (by decide) ?_
        refine g_isub C dX11_holds_233 ?_
        refine g_icmp_lt C 241 dX11_holds_234 (by decide) (fun c14 => ?_) (fun c14 => ?_)
        · have hf := opt_pos c14 hf
          refine g_iconst C (v := 0) dX11_holds_241 (by decide) ?_
          refine gW.locals [0, 1, 2, 3, 4] rfl ?_
          exact H242 0 hf
        · have hf := opt_neg c14 hf
          refine g_iconst C (v := 1) dX11_holds_237 (by decide) ?_
          refine g_goto C 242 dX11_holds_238 (by decide) ?_
          refine gW.locals [0, 1, 2, 3, 4] rfl ?_
          exact H242 1 hf
      · have hf := opt_neg c13 hf
        refine g_aload_n C 0 dX11_holds_180 rfl ?_
        refine g_iload_n C 1 dX11_holds_181 rfl ?_
        refine g_iload C 7 dX11_holds_182 rfl ?_
        refine g_iload_n C 3 dX11_holds_184 rfl ?_
        refine g_iconst C (v := 1) dX11_holds_185 (by decide) ?_
        refine g_isub C dX11_holds_186 ?_
        refine g_bipush C (v := 44) dX11_holds_187 (by decide) ?_
        obtain ⟨v16, h17, hf⟩ := opt_bind hf
        refine g_callV C (c_X11_next (l := x_l X) (D := x_D X) (cy := x_y X) (a := a) (thrown := thrown) (g := g) (saved := saved) (hasSaved := hasSaved) (coef := coef) (nodes := nodes) (nodeMany := nodeMany) (isDeep := isDeep) (codes := codes) (details := details) (levelMany := levelMany) (given := given) (paper := paper) (papered := papered) (tape := tape) (taped := taped) (wrongAt := wrongAt) (at_ := at_) (value := value) (readPlace := readPlace) (readValue := readValue) (readEpoch := readEpoch) (p0 := p1) (p1 := l9_172) (p2 := p3 - 1) (p3 := 44) h17) (As := [.int p1, .int l9_172, .int (p3 - 1), .int 44]) (rest := []) (wr := []) (ws' := fun _ => (wM (x_y X) a thrown g saved hasSaved coef nodes nodeMany isDeep codes details levelMany given paper papered tape taped wrongAt at_ value readPlace readValue readEpoch)) (st' := fun _ => [.int v16]) (ci := 12) 4 0 ⟨_, rfl⟩ rfl rfl mw_7_168 mw_1_9 mw_7_165 mw_7_167 mp_52 hd_X11_next rfl (g_rmo hR (by omega) (by omega)) [0, 1, 2, 3, 4, 5, 6, 7, 8, 9] [] [0, 1, 2, 3, 4, 5, 6, 7, 8, 9] ⟨rfl, rfl, rfl, rfl, by decide, gRoIn_0, rfl, fun _ => rfl⟩ rfl (Nat.le_of_ble_eq_true rfl) dX11_holds_189 (g_rc hR (Nat.le_of_ble_eq_true rfl) (Nat.le_of_ble_eq_true rfl)) (ck' := 0) (sk' := 0) rfl rfl (fun _ => rfl) (fun _ _ => ?_) (fun _ hx => absurd rfl hx)
        refine g_istore C (lv' := [(10, .int v16), (0, .ref (a 0)), (1, .int p1), (2, .int p2), (3, .int p3), (4, .int p4), (7, .int l7_172), (8, .int l8_172), (9, .int l9_172)]) dX11_holds_192 (g_nlt hn rfl) rfl ?_
        refine g_iload C 7 dX11_holds_194 rfl ?_
        refine g_aload_n C 1 dX11_holds_196 rfl ?_
        refine g_iload_n C 2 dX11_holds_197 rfl ?_
        refine g_iload C 8 dX11_holds_198 rfl ?_
        refine g_iload C 0 dX11_holds_200 rfl ?_
        refine g_iload C 5 dX11_holds_202 rfl ?_
        obtain ⟨v18, h19, hf⟩ := opt_bind hf
        refine g_callS C (hP  (a := a) (thrown := thrown) (g := g) (saved := saved) (hasSaved := hasSaved) (coef := coef) (nodes := nodes) (nodeMany := nodeMany) (isDeep := isDeep) (codes := codes) (details := details) (levelMany := levelMany) (given := given) (paper := paper) (papered := papered) (tape := tape) (taped := taped) (wrongAt := wrongAt) (at_ := at_) (value := value) (readPlace := readPlace) (readValue := readValue) (readEpoch := readEpoch) (p1 := p1) (p2 := l9_172) (p3 := v16) (p4 := p4) h19) (As := [.ref (a 0), .int p1, .int l9_172, .int v16, .int p4]) (rest := [.int l8_172]) (wr := []) (ws' := fun _ => (wM (x_y X) a thrown g saved hasSaved coef nodes nodeMany isDeep codes details levelMany given paper papered tape taped wrongAt at_ value readPlace readValue readEpoch)) (st' := fun _ => [.int v18, .int l8_172]) 5 mw_7_164 mw_1_9 mw_7_162 mw_7_163 hd_X11_holds rfl (g_rmo hR (by omega) (by omega)) [0, 1, 2, 3, 4, 5, 6, 7, 8, 9] [] [0, 1, 2, 3, 4, 5, 6, 7, 8, 9] ⟨rfl, rfl, rfl, rfl, by decide, gRoIn_0, rfl, fun _ => rfl⟩ rfl (Nat.le_of_ble_eq_true rfl) dX11_holds_204 (g_rc hR (Nat.le_of_ble_eq_true rfl) (Nat.le_of_ble_eq_true rfl)) (ck' := 0) (sk' := 0) rfl rfl (fun _ => rfl) (fun _ _ => ?_) (fun _ hx => absurd rfl hx)
        refine g_if_eq C 214 dX11_holds_207 (by decide) (fun c20 => ?_) (fun c20 => ?_)
        · have hf := opt_pos c20 hf
          refine g_iconst C (v := 0) dX11_holds_214 (by decide) ?_
          refine gW.locals [1, 2, 3, 4, 5, 6, 0] rfl ?_
          exact H215 l7_172 v16 0 l8_172 hf
        · have hf := opt_neg c20 hf
          refine g_iconst C (v := 1) dX11_holds_210 (by decide) ?_
          refine g_goto C 215 dX11_holds_211 (by decide) ?_
          refine gW.locals [1, 2, 3, 4, 5, 6, 0] rfl ?_
          exact H215 l7_172 v16 1 l8_172 hf
  have H163 : ∀ (s0_163 : Int32), FB_X11_holds_L163 s0_163 = some val → gW X Q 0 0 ((wM (x_y X) a thrown g saved hasSaved coef nodes nodeMany isDeep codes details levelMany given paper papered tape taped wrongAt at_ value readPlace readValue readEpoch)) [(0, .ref (a 0)), (1, .int p1), (2, .int p2), (3, .int p3), (4, .int p4)] [.int s0_163] 163 := by
    intro s0_163 hf
    unfold FB_X11_holds_L163 at hf
    obtain ⟨c22, hf⟩ := gg_of hf
    obtain rfl := Option.some.inj hf
    exact g_zret C E () (gnar_of c22) dX11_holds_163 rfl rfl rfl (Nat.le_of_ble_eq_true rfl) (Nat.le_of_ble_eq_true rfl)
  have H101 : ∀ (s0_101 : Int32), FB_X11_holds_L101 s0_101 = some val → gW X Q 0 0 ((wM (x_y X) a thrown g saved hasSaved coef nodes nodeMany isDeep codes details levelMany given paper papered tape taped wrongAt at_ value readPlace readValue readEpoch)) [(0, .ref (a 0)), (1, .int p1), (2, .int p2), (3, .int p3), (4, .int p4)] [.int s0_101] 101 := by
    intro s0_101 hf
    unfold FB_X11_holds_L101 at hf
    obtain ⟨c29, hf⟩ := gg_of hf
    obtain rfl := Option.some.inj hf
    exact g_zret C E () (gnar_of c29) dX11_holds_101 rfl rfl rfl (Nat.le_of_ble_eq_true rfl) (Nat.le_of_ble_eq_true rfl)
  have H100 :  FB_X11_holds_L100 = some val → gW X Q 0 0 ((wM (x_y X) a thrown g saved hasSaved coef nodes nodeMany isDeep codes details levelMany given paper papered tape taped wrongAt at_ value readPlace readValue readEpoch)) [(0, .ref (a 0)), (1, .int p1), (2, .int p2), (3, .int p3), (4, .int p4)] [] 100 := by
    intro hf
    unfold FB_X11_holds_L100 at hf
    refine g_iconst C (v := 0) dX11_holds_100 (by decide) ?_
    exact H101 0 hf
  have H50 : ∀ (s0_50 : Int32), FB_X11_holds_L50 s0_50 = some val → gW X Q 0 0 ((wM (x_y X) a thrown g saved hasSaved coef nodes nodeMany isDeep codes details levelMany given paper papered tape taped wrongAt at_ value readPlace readValue readEpoch)) [(0, .ref (a 0)), (1, .int p1), (2, .int p2), (3, .int p3), (4, .int p4)] [.int s0_50] 50 := by
    intro s0_50 hf
    unfold FB_X11_holds_L50 at hf
    obtain ⟨c36, hf⟩ := gg_of hf
    obtain rfl := Option.some.inj hf
    exact g_zret C E () (gnar_of c36) dX11_holds_50 rfl rfl rfl (Nat.le_of_ble_eq_true rfl) (Nat.le_of_ble_eq_true rfl)
  have H45 :  FB_X11_holds_L45 = some val → gW X Q 0 0 ((wM (x_y X) a thrown g saved hasSaved coef nodes nodeMany isDeep codes details levelMany given paper papered tape taped wrongAt at_ value readPlace readValue readEpoch)) [(0, .ref (a 0)), (1, .int p1), (2, .int p2), (3, .int p3), (4, .int p4)] [] 45 := by
    intro hf
    unfold FB_X11_holds_L45 at hf
    refine g_iconst C (v := 1) dX11_holds_45 (by decide) ?_
    refine g_goto C 50 dX11_holds_46 (by decide) ?_
    exact H50 1 hf
  show gW X Q 0 0 ((wM (x_y X) a thrown g saved hasSaved coef nodes nodeMany isDeep codes details levelMany given paper papered tape taped wrongAt at_ value readPlace readValue readEpoch)) [(0, .ref (a 0)), (1, .int p1), (2, .int p2), (3, .int p3), (4, .int p4)] [] 0
  refine g_aload_n C 0 dX11_holds_0 rfl ?_
  refine g_iload_n C 1 dX11_holds_1 rfl ?_
  refine g_iload_n C 2 dX11_holds_2 rfl ?_
  refine g_iload_n C 3 dX11_holds_3 rfl ?_
  refine g_bipush C (v := 124) dX11_holds_4 (by decide) ?_
  obtain ⟨v1, h2, hf⟩ := opt_bind hf
  refine g_callV C (c_X11_next (l := x_l X) (D := x_D X) (cy := x_y X) (a := a) (thrown := thrown) (g := g) (saved := saved) (hasSaved := hasSaved) (coef := coef) (nodes := nodes) (nodeMany := nodeMany) (isDeep := isDeep) (codes := codes) (details := details) (levelMany := levelMany) (given := given) (paper := paper) (papered := papered) (tape := tape) (taped := taped) (wrongAt := wrongAt) (at_ := at_) (value := value) (readPlace := readPlace) (readValue := readValue) (readEpoch := readEpoch) (p0 := p1) (p1 := p2) (p2 := p3) (p3 := 124) h2) (As := [.int p1, .int p2, .int p3, .int 124]) (rest := []) (wr := []) (ws' := fun _ => (wM (x_y X) a thrown g saved hasSaved coef nodes nodeMany isDeep codes details levelMany given paper papered tape taped wrongAt at_ value readPlace readValue readEpoch)) (st' := fun _ => [.int v1]) (ci := 12) 4 0 ⟨_, rfl⟩ rfl rfl mw_7_168 mw_1_9 mw_7_165 mw_7_167 mp_52 hd_X11_next rfl (g_rmo hR (by omega) (by omega)) [0, 1, 2, 3, 4, 5, 6, 7, 8, 9] [] [0, 1, 2, 3, 4, 5, 6, 7, 8, 9] ⟨rfl, rfl, rfl, rfl, by decide, gRoIn_0, rfl, fun _ => rfl⟩ rfl (Nat.le_of_ble_eq_true rfl) dX11_holds_6 (g_rc hR (Nat.le_of_ble_eq_true rfl) (Nat.le_of_ble_eq_true rfl)) (ck' := 0) (sk' := 0) rfl rfl (fun _ => rfl) (fun _ _ => ?_) (fun _ hx => absurd rfl hx)
  refine g_istore C (lv' := [(5, .int v1), (0, .ref (a 0)), (1, .int p1), (2, .int p2), (3, .int p3), (4, .int p4)]) dX11_holds_9 (g_nlt hn rfl) rfl ?_
  refine g_iload C 0 dX11_holds_11 rfl ?_
  refine g_iload_n C 4 dX11_holds_13 rfl ?_
  refine g_icmp_ge C 51 dX11_holds_14 (by decide) (fun c3 => ?_) (fun c3 => ?_)
  · have hf := opt_pos c3 hf
    refine g_aload_n C 1 dX11_holds_51 rfl ?_
    refine g_iload_n C 2 dX11_holds_52 rfl ?_
    refine g_iload_n C 3 dX11_holds_53 rfl ?_
    refine g_iload_n C 4 dX11_holds_54 rfl ?_
    refine g_bipush C (v := 38) dX11_holds_55 (by decide) ?_
    obtain ⟨v4, h5, hf⟩ := opt_bind hf
    refine g_callV C (c_X11_next (l := x_l X) (D := x_D X) (cy := x_y X) (a := a) (thrown := thrown) (g := g) (saved := saved) (hasSaved := hasSaved) (coef := coef) (nodes := nodes) (nodeMany := nodeMany) (isDeep := isDeep) (codes := codes) (details := details) (levelMany := levelMany) (given := given) (paper := paper) (papered := papered) (tape := tape) (taped := taped) (wrongAt := wrongAt) (at_ := at_) (value := value) (readPlace := readPlace) (readValue := readValue) (readEpoch := readEpoch) (p0 := p1) (p1 := p2) (p2 := p3) (p3 := 38) h5) (As := [.int p1, .int p2, .int p3, .int 38]) (rest := []) (wr := []) (ws' := fun _ => (wM (x_y X) a thrown g saved hasSaved coef nodes nodeMany isDeep codes details levelMany given paper papered tape taped wrongAt at_ value readPlace readValue readEpoch)) (st' := fun _ => [.int v4]) (ci := 12) 4 0 ⟨_, rfl⟩ rfl rfl mw_7_168 mw_1_9 mw_7_165 mw_7_167 mp_52 hd_X11_next rfl (g_rmo hR (by omega) (by omega)) [0, 1, 2, 3, 4, 5, 6, 7, 8, 9] [] [0, 1, 2, 3, 4, 5, 6, 7, 8, 9] ⟨rfl, rfl, rfl, rfl, by decide, gRoIn_0, rfl, fun _ => rfl⟩ rfl (Nat.le_of_ble_eq_true rfl) dX11_holds_57 (g_rc hR (Nat.le_of_ble_eq_true rfl) (Nat.le_of_ble_eq_true rfl)) (ck' := 0) (sk' := 0) rfl rfl (fun _ => rfl) (fun _ _ => ?_) (fun _ hx => absurd rfl hx)
    refine g_istore C (lv' := [(6, .int v4), (5, .int v1), (0, .ref (a 0)), (1, .int p1), (2, .int p2), (3, .int p3), (4, .int p4)]) dX11_holds_60 (g_nlt hn rfl) rfl ?_
    refine g_iload C 0 dX11_holds_62 rfl ?_
    refine g_iload_n C 5 dX11_holds_64 rfl ?_
    refine g_icmp_ge C 102 dX11_holds_65 (by decide) (fun c6 => ?_) (fun c6 => ?_)
    · have hf := opt_pos c6 hf
      refine g_aload_n C 2 dX11_holds_102 rfl ?_
      refine g_iload_n C 3 dX11_holds_103 rfl ?_
      refine g_bipush C (v := 12) dX11_holds_104 (by decide) ?_
      refine g_iload_n C 4 dX11_holds_106 rfl ?_
      refine g_iadd C dX11_holds_107 ?_
      obtain ⟨v7, h8, hf⟩ := opt_bind hf
      refine g_callV C (c_X11_of (l := x_l X) (D := x_D X) (cy := x_y X) (a := a) (thrown := thrown) (g := g) (saved := saved) (hasSaved := hasSaved) (coef := coef) (nodes := nodes) (nodeMany := nodeMany) (isDeep := isDeep) (codes := codes) (details := details) (levelMany := levelMany) (given := given) (paper := paper) (papered := papered) (tape := tape) (taped := taped) (wrongAt := wrongAt) (at_ := at_) (value := value) (readPlace := readPlace) (readValue := readValue) (readEpoch := readEpoch) (p0 := p1) (p1 := (12 : Int32) + p2) h8) (As := [.int p1, .int ((12 : Int32) + p2)]) (rest := []) (wr := []) (ws' := fun _ => (wM (x_y X) a thrown g saved hasSaved coef nodes nodeMany isDeep codes details levelMany given paper papered tape taped wrongAt at_ value readPlace readValue readEpoch)) (st' := fun _ => [.int v7]) (ci := 12) 2 0 ⟨_, rfl⟩ rfl rfl mw_7_69 mw_1_9 mw_7_66 mw_7_68 mp_35 hd_X11_of rfl (g_rmo hR (by omega) (by omega)) [0, 1, 2, 3, 4, 5, 6, 7, 8, 9] [] [0, 1, 2, 3, 4, 5, 6, 7, 8, 9] ⟨rfl, rfl, rfl, rfl, by decide, gRoIn_0, rfl, fun _ => rfl⟩ rfl (Nat.le_of_ble_eq_true rfl) dX11_holds_108 (g_rc hR (Nat.le_of_ble_eq_true rfl) (Nat.le_of_ble_eq_true rfl)) (ck' := 0) (sk' := 0) rfl rfl (fun _ => rfl) (fun _ _ => ?_) (fun _ hx => absurd rfl hx)
      refine g_istore C (lv' := [(7, .int v7), (6, .int v4), (5, .int v1), (0, .ref (a 0)), (1, .int p1), (2, .int p2), (3, .int p3), (4, .int p4)]) dX11_holds_111 (g_nlt hn rfl) rfl ?_
      refine g_iload C 0 dX11_holds_113 rfl ?_
      refine g_bipush C (v := 40) dX11_holds_115 (by decide) ?_
      refine g_icmp_ne C 134 dX11_holds_117 (by decide) (fun c9 => ?_) (fun c9 => ?_)
      · have hf := opt_neg c9 hf
        refine g_aload_n C 3 dX11_holds_134 rfl ?_
        refine g_iload_n C 4 dX11_holds_135 rfl ?_
        refine g_iload_n C 5 dX11_holds_136 rfl ?_
        refine g_iload_n C 6 dX11_holds_137 rfl ?_
        obtain ⟨v10, h11, hf⟩ := opt_bind hf
        refine g_callV C (c_X11_isCount (l := x_l X) (D := x_D X) (cy := x_y X) (a := a) (thrown := thrown) (g := g) (saved := saved) (hasSaved := hasSaved) (coef := coef) (nodes := nodes) (nodeMany := nodeMany) (isDeep := isDeep) (codes := codes) (details := details) (levelMany := levelMany) (given := given) (paper := paper) (papered := papered) (tape := tape) (taped := taped) (wrongAt := wrongAt) (at_ := at_) (value := value) (readPlace := readPlace) (readValue := readValue) (readEpoch := readEpoch) (p0 := p1) (p1 := p2) (p2 := p3) h11) (As := [.int p1, .int p2, .int p3]) (rest := []) (wr := []) (ws' := fun _ => (wM (x_y X) a thrown g saved hasSaved coef nodes nodeMany isDeep codes details levelMany given paper papered tape taped wrongAt at_ value readPlace readValue readEpoch)) (st' := fun _ => [.int v10]) (ci := 12) 3 0 ⟨_, rfl⟩ rfl rfl mw_7_172 mw_1_9 mw_7_169 mw_7_171 mp_53 hd_X11_isCount rfl (g_rmo hR (by omega) (by omega)) [0, 1, 2, 3, 4, 5, 6, 7, 8, 9] [] [0, 1, 2, 3, 4, 5, 6, 7, 8, 9] ⟨rfl, rfl, rfl, rfl, by decide, gRoIn_0, rfl, fun _ => rfl⟩ rfl (Nat.le_of_ble_eq_true rfl) dX11_holds_138 (g_rc hR (Nat.le_of_ble_eq_true rfl) (Nat.le_of_ble_eq_true rfl)) (ck' := 0) (sk' := 0) rfl rfl (fun _ => rfl) (fun _ _ => ?_) (fun _ hx => absurd rfl hx)
        refine g_if_ne C 164 dX11_holds_141 (by decide) (fun c12 => ?_) (fun c12 => ?_)
        · have hf := opt_neg c12 hf
          refine g_iconst C (v := 0) dX11_holds_164 (by decide) ?_
          refine g_istore C (lv' := [(8, .int 0), (7, .int v7), (6, .int v4), (5, .int v1), (0, .ref (a 0)), (1, .int p1), (2, .int p2), (3, .int p3), (4, .int p4)]) dX11_holds_165 (g_nlt hn rfl) rfl ?_
          refine g_iload_n C 6 dX11_holds_167 rfl ?_
          refine g_iconst C (v := 4) dX11_holds_168 (by decide) ?_
          refine g_iadd C dX11_holds_169 ?_
          refine g_istore C (lv' := [(9, .int (p2 + 4)), (8, .int 0), (7, .int v7), (6, .int v4), (5, .int v1), (0, .ref (a 0)), (1, .int p1), (2, .int p2), (3, .int p3), (4, .int p4)]) dX11_holds_170 (g_nlt hn rfl) rfl ?_
          refine gW.locals [5, 6, 7, 8, 9, 2, 1, 0] rfl ?_
          exact H172 1000 v7 0 (p2 + 4) hf
        · have hf := opt_pos c12 hf
          refine g_iload C 7 dX11_holds_144 rfl ?_
          refine g_iload C 0 dX11_holds_146 rfl ?_
          refine g_bipush C (v := 48) dX11_holds_148 (by decide) ?_
          refine g_isub C dX11_holds_150 ?_
          refine g_ishr C dX11_holds_151 ?_
          refine g_iconst C (v := 1) dX11_holds_152 (by decide) ?_
          refine g_iand C dX11_holds_153 ?_
          refine g_iconst C (v := 1) dX11_holds_154 (by decide) ?_
          refine g_icmp_ne C 162 dX11_holds_155 (by decide) (fun c21 => ?_) (fun c21 => ?_)
          · have hf := opt_neg c21 hf
            refine g_iconst C (v := 0) dX11_holds_162 (by decide) ?_
            refine gW.locals [3, 4, 5, 6, 7] rfl ?_
            exact H163 0 hf
          · have hf := opt_pos c21 hf
            refine g_iconst C (v := 1) dX11_holds_158 (by decide) ?_
            refine g_goto C 163 dX11_holds_159 (by decide) ?_
            refine gW.locals [3, 4, 5, 6, 7] rfl ?_
            exact H163 1 hf
      · have hf := opt_pos c9 hf
        refine g_aload_n C 3 dX11_holds_120 rfl ?_
        refine g_iload_n C 4 dX11_holds_121 rfl ?_
        refine g_iload_n C 5 dX11_holds_122 rfl ?_
        refine g_iconst C (v := 1) dX11_holds_123 (by decide) ?_
        refine g_iadd C dX11_holds_124 ?_
        refine g_iload_n C 6 dX11_holds_125 rfl ?_
        refine g_iconst C (v := 1) dX11_holds_126 (by decide) ?_
        refine g_isub C dX11_holds_127 ?_
        refine g_iload C 7 dX11_holds_128 rfl ?_
        obtain ⟨v23, h24, hf⟩ := opt_bind hf
        refine g_callS C (hP  (a := a) (thrown := thrown) (g := g) (saved := saved) (hasSaved := hasSaved) (coef := coef) (nodes := nodes) (nodeMany := nodeMany) (isDeep := isDeep) (codes := codes) (details := details) (levelMany := levelMany) (given := given) (paper := paper) (papered := papered) (tape := tape) (taped := taped) (wrongAt := wrongAt) (at_ := at_) (value := value) (readPlace := readPlace) (readValue := readValue) (readEpoch := readEpoch) (p1 := p1) (p2 := p2 + 1) (p3 := p3 - 1) (p4 := p4) h24) (As := [.ref (a 0), .int p1, .int (p2 + 1), .int (p3 - 1), .int p4]) (rest := []) (wr := []) (ws' := fun _ => (wM (x_y X) a thrown g saved hasSaved coef nodes nodeMany isDeep codes details levelMany given paper papered tape taped wrongAt at_ value readPlace readValue readEpoch)) (st' := fun _ => [.int v23]) 5 mw_7_164 mw_1_9 mw_7_162 mw_7_163 hd_X11_holds rfl (g_rmo hR (by omega) (by omega)) [0, 1, 2, 3, 4, 5, 6, 7, 8, 9] [] [0, 1, 2, 3, 4, 5, 6, 7, 8, 9] ⟨rfl, rfl, rfl, rfl, by decide, gRoIn_0, rfl, fun _ => rfl⟩ rfl (Nat.le_of_ble_eq_true rfl) dX11_holds_130 (g_rc hR (Nat.le_of_ble_eq_true rfl) (Nat.le_of_ble_eq_true rfl)) (ck' := 0) (sk' := 0) rfl rfl (fun _ => rfl) (fun _ _ => ?_) (fun _ hx => absurd rfl hx)
        obtain ⟨c25, hf⟩ := gg_of hf
        obtain rfl := Option.some.inj hf
        exact g_zret C E () (gnar_of c25) dX11_holds_133 rfl rfl rfl (Nat.le_of_ble_eq_true rfl) (Nat.le_of_ble_eq_true rfl)
    · have hf := opt_neg c6 hf
      refine g_aload_n C 2 dX11_holds_68 rfl ?_
      refine g_iload_n C 3 dX11_holds_69 rfl ?_
      refine g_iload_n C 4 dX11_holds_70 rfl ?_
      refine g_iload C 0 dX11_holds_71 rfl ?_
      refine g_iload C 6 dX11_holds_73 rfl ?_
      obtain ⟨v26, h27, hf⟩ := opt_bind hf
      refine g_callS C (hP  (a := a) (thrown := thrown) (g := g) (saved := saved) (hasSaved := hasSaved) (coef := coef) (nodes := nodes) (nodeMany := nodeMany) (isDeep := isDeep) (codes := codes) (details := details) (levelMany := levelMany) (given := given) (paper := paper) (papered := papered) (tape := tape) (taped := taped) (wrongAt := wrongAt) (at_ := at_) (value := value) (readPlace := readPlace) (readValue := readValue) (readEpoch := readEpoch) (p1 := p1) (p2 := p2) (p3 := v4) (p4 := p4) h27) (As := [.ref (a 0), .int p1, .int p2, .int v4, .int p4]) (rest := []) (wr := []) (ws' := fun _ => (wM (x_y X) a thrown g saved hasSaved coef nodes nodeMany isDeep codes details levelMany given paper papered tape taped wrongAt at_ value readPlace readValue readEpoch)) (st' := fun _ => [.int v26]) 5 mw_7_164 mw_1_9 mw_7_162 mw_7_163 hd_X11_holds rfl (g_rmo hR (by omega) (by omega)) [0, 1, 2, 3, 4, 5, 6, 7, 8, 9] [] [0, 1, 2, 3, 4, 5, 6, 7, 8, 9] ⟨rfl, rfl, rfl, rfl, by decide, gRoIn_0, rfl, fun _ => rfl⟩ rfl (Nat.le_of_ble_eq_true rfl) dX11_holds_75 (g_rc hR (Nat.le_of_ble_eq_true rfl) (Nat.le_of_ble_eq_true rfl)) (ck' := 0) (sk' := 0) rfl rfl (fun _ => rfl) (fun _ _ => ?_) (fun _ hx => absurd rfl hx)
      refine g_if_eq C 100 dX11_holds_78 (by decide) (fun c28 => ?_) (fun c28 => ?_)
      · have hf := opt_pos c28 hf
        refine gW.locals [2, 3, 4, 5, 6] rfl ?_
        exact H100 hf
      · have hf := opt_neg c28 hf
        refine g_aload_n C 2 dX11_holds_81 rfl ?_
        refine g_iload_n C 3 dX11_holds_82 rfl ?_
        refine g_iload C 0 dX11_holds_83 rfl ?_
        refine g_iconst C (v := 1) dX11_holds_85 (by decide) ?_
        refine g_iadd C dX11_holds_86 ?_
        refine g_iload_n C 5 dX11_holds_87 rfl ?_
        refine g_iload C 6 dX11_holds_88 rfl ?_
        obtain ⟨v30, h31, hf⟩ := opt_bind hf
        refine g_callS C (hP  (a := a) (thrown := thrown) (g := g) (saved := saved) (hasSaved := hasSaved) (coef := coef) (nodes := nodes) (nodeMany := nodeMany) (isDeep := isDeep) (codes := codes) (details := details) (levelMany := levelMany) (given := given) (paper := paper) (papered := papered) (tape := tape) (taped := taped) (wrongAt := wrongAt) (at_ := at_) (value := value) (readPlace := readPlace) (readValue := readValue) (readEpoch := readEpoch) (p1 := p1) (p2 := v4 + 1) (p3 := p3) (p4 := p4) h31) (As := [.ref (a 0), .int p1, .int (v4 + 1), .int p3, .int p4]) (rest := []) (wr := []) (ws' := fun _ => (wM (x_y X) a thrown g saved hasSaved coef nodes nodeMany isDeep codes details levelMany given paper papered tape taped wrongAt at_ value readPlace readValue readEpoch)) (st' := fun _ => [.int v30]) 5 mw_7_164 mw_1_9 mw_7_162 mw_7_163 hd_X11_holds rfl (g_rmo hR (by omega) (by omega)) [0, 1, 2, 3, 4, 5, 6, 7, 8, 9] [] [0, 1, 2, 3, 4, 5, 6, 7, 8, 9] ⟨rfl, rfl, rfl, rfl, by decide, gRoIn_0, rfl, fun _ => rfl⟩ rfl (Nat.le_of_ble_eq_true rfl) dX11_holds_90 (g_rc hR (Nat.le_of_ble_eq_true rfl) (Nat.le_of_ble_eq_true rfl)) (ck' := 0) (sk' := 0) rfl rfl (fun _ => rfl) (fun _ _ => ?_) (fun _ hx => absurd rfl hx)
        refine g_if_eq C 100 dX11_holds_93 (by decide) (fun c32 => ?_) (fun c32 => ?_)
        · have hf := opt_pos c32 hf
          refine gW.locals [2, 3, 4, 5, 6] rfl ?_
          exact H100 hf
        · have hf := opt_neg c32 hf
          refine g_iconst C (v := 1) dX11_holds_96 (by decide) ?_
          refine g_goto C 101 dX11_holds_97 (by decide) ?_
          refine gW.locals [2, 3, 4, 5, 6] rfl ?_
          exact H101 1 hf
  · have hf := opt_neg c3 hf
    refine g_aload_n C 1 dX11_holds_17 rfl ?_
    refine g_iload_n C 2 dX11_holds_18 rfl ?_
    refine g_iload_n C 3 dX11_holds_19 rfl ?_
    refine g_iload C 0 dX11_holds_20 rfl ?_
    refine g_iload C 5 dX11_holds_22 rfl ?_
    obtain ⟨v33, h34, hf⟩ := opt_bind hf
    refine g_callS C (hP  (a := a) (thrown := thrown) (g := g) (saved := saved) (hasSaved := hasSaved) (coef := coef) (nodes := nodes) (nodeMany := nodeMany) (isDeep := isDeep) (codes := codes) (details := details) (levelMany := levelMany) (given := given) (paper := paper) (papered := papered) (tape := tape) (taped := taped) (wrongAt := wrongAt) (at_ := at_) (value := value) (readPlace := readPlace) (readValue := readValue) (readEpoch := readEpoch) (p1 := p1) (p2 := p2) (p3 := v1) (p4 := p4) h34) (As := [.ref (a 0), .int p1, .int p2, .int v1, .int p4]) (rest := []) (wr := []) (ws' := fun _ => (wM (x_y X) a thrown g saved hasSaved coef nodes nodeMany isDeep codes details levelMany given paper papered tape taped wrongAt at_ value readPlace readValue readEpoch)) (st' := fun _ => [.int v33]) 5 mw_7_164 mw_1_9 mw_7_162 mw_7_163 hd_X11_holds rfl (g_rmo hR (by omega) (by omega)) [0, 1, 2, 3, 4, 5, 6, 7, 8, 9] [] [0, 1, 2, 3, 4, 5, 6, 7, 8, 9] ⟨rfl, rfl, rfl, rfl, by decide, gRoIn_0, rfl, fun _ => rfl⟩ rfl (Nat.le_of_ble_eq_true rfl) dX11_holds_24 (g_rc hR (Nat.le_of_ble_eq_true rfl) (Nat.le_of_ble_eq_true rfl)) (ck' := 0) (sk' := 0) rfl rfl (fun _ => rfl) (fun _ _ => ?_) (fun _ hx => absurd rfl hx)
    refine g_if_ne C 45 dX11_holds_27 (by decide) (fun c35 => ?_) (fun c35 => ?_)
    · have hf := opt_neg c35 hf
      refine gW.locals [1, 2, 3, 4, 5] rfl ?_
      exact H45 hf
    · have hf := opt_pos c35 hf
      refine g_aload_n C 1 dX11_holds_30 rfl ?_
      refine g_iload_n C 2 dX11_holds_31 rfl ?_
      refine g_iload C 0 dX11_holds_32 rfl ?_
      refine g_iconst C (v := 1) dX11_holds_34 (by decide) ?_
      refine g_iadd C dX11_holds_35 ?_
      refine g_iload_n C 4 dX11_holds_36 rfl ?_
      refine g_iload C 5 dX11_holds_37 rfl ?_
      obtain ⟨v37, h38, hf⟩ := opt_bind hf
      refine g_callS C (hP  (a := a) (thrown := thrown) (g := g) (saved := saved) (hasSaved := hasSaved) (coef := coef) (nodes := nodes) (nodeMany := nodeMany) (isDeep := isDeep) (codes := codes) (details := details) (levelMany := levelMany) (given := given) (paper := paper) (papered := papered) (tape := tape) (taped := taped) (wrongAt := wrongAt) (at_ := at_) (value := value) (readPlace := readPlace) (readValue := readValue) (readEpoch := readEpoch) (p1 := p1) (p2 := v1 + 1) (p3 := p3) (p4 := p4) h38) (As := [.ref (a 0), .int p1, .int (v1 + 1), .int p3, .int p4]) (rest := []) (wr := []) (ws' := fun _ => (wM (x_y X) a thrown g saved hasSaved coef nodes nodeMany isDeep codes details levelMany given paper papered tape taped wrongAt at_ value readPlace readValue readEpoch)) (st' := fun _ => [.int v37]) 5 mw_7_164 mw_1_9 mw_7_162 mw_7_163 hd_X11_holds rfl (g_rmo hR (by omega) (by omega)) [0, 1, 2, 3, 4, 5, 6, 7, 8, 9] [] [0, 1, 2, 3, 4, 5, 6, 7, 8, 9] ⟨rfl, rfl, rfl, rfl, by decide, gRoIn_0, rfl, fun _ => rfl⟩ rfl (Nat.le_of_ble_eq_true rfl) dX11_holds_39 (g_rc hR (Nat.le_of_ble_eq_true rfl) (Nat.le_of_ble_eq_true rfl)) (ck' := 0) (sk' := 0) rfl rfl (fun _ => rfl) (fun _ _ => ?_) (fun _ hx => absurd rfl hx)
      refine g_if_eq C 49 dX11_holds_42 (by decide) (fun c39 => ?_) (fun c39 => ?_)
      · have hf := opt_pos c39 hf
        refine g_iconst C (v := 0) dX11_holds_49 (by decide) ?_
        refine gW.locals [1, 2, 3, 4, 5] rfl ?_
        exact H50 0 hf
      · have hf := opt_neg c39 hf
        refine gW.locals [1, 2, 3, 4, 5] rfl ?_
        exact H45 hf
def F_X11_holds : Nat → (Nat → Int32) → Int32 → Int32 → Int32 → Int32 → Option (Int32)
  | 0, _, _, _, _, _ => none
  | d + 1, g, p1, p2, p3, p4 => FB_X11_holds (F_X11_holds d) g p1 p2 p3 p4
theorem c_X11_holds {l : Launch} {D : va_G} {cy : Nat → ClassId} : ∀ (d : Nat) {a : Nat → Nat} {thrown : Int32} {g : Nat → Int32} {saved : Nat → Int32} {hasSaved : Int32} {coef : Nat → Int32} {nodes : Nat → Int32} {nodeMany : Int32} {isDeep : Int32} {codes : Nat → Int32} {details : Nat → Int32} {levelMany : Int32} {given : Nat → Int32} {paper : Nat → Int32} {papered : Int32} {tape : Nat → Int32} {taped : Int32} {wrongAt : Int32} {at_ : Int32} {value : Int32} {readPlace : Int32} {readValue : Int32} {readEpoch : Int32} {p1 : Int32} {p2 : Int32} {p3 : Int32} {p4 : Int32}  {val : Int32}, F_X11_holds d g p1 p2 p3 p4 = some val → gCt l D cy yX11_holds cX11_holds 11 (some .boolean) (1 * d + 6) (30 * d + 500) 0 0 [.ref (a 0), .int p1, .int p2, .int p3, .int p4] [] ((wM cy a thrown g saved hasSaved coef nodes nodeMany isDeep codes details levelMany given paper papered tape taped wrongAt at_ value readPlace readValue readEpoch)) 0 (fun _ : Unit => some (.int val)) (fun _ => (wM cy a thrown g saved hasSaved coef nodes nodeMany isDeep codes details levelMany given paper papered tape taped wrongAt at_ value readPlace readValue readEpoch)) := by
  intro d
  induction d with
  | zero => intros; rename_i hf; cases hf
  | succ d ih => intros; rename_i hf; exact cB_X11_holds (d := d) (P := F_X11_holds d) ih hf
/-! X11_fulfilled -/
theorem hd_X11_fulfilled : yX11_fulfilled.cls ≠ "java/lang/invoke/MethodHandle" ∧ yX11_fulfilled.cls ≠ "java/lang/invoke/VarHandle" ∧ (parseMethodDescriptor yX11_fulfilled.desc).map (fun d => d.parameters.length) = some 2 := by decide +kernel
def F_X11_fulfilled_L30   (s0_30 : Int32) : Option (Int32) := gg (gnar .boolean s0_30) (some s0_30)
def F_X11_fulfilled_L25    : Option (Int32) := F_X11_fulfilled_L30 1
def F_X11_fulfilled (g : Nat → Int32) (p0 : Int32) (p1 : Int32) : Option (Int32) := (F_X11_hasPolicy g p0).bind fun v1 => if v1 = 0 then (F_X11_fulfilled_L25 ) else ((F_X11_of g p0 11).bind fun v5 => (F_X11_holds 64 g p0 0 v5 p1).bind fun v7 => if v7 = 0 then (F_X11_fulfilled_L30 0) else (F_X11_fulfilled_L25 ))
set_option maxRecDepth 100000 in
set_option maxHeartbeats 4000000 in
theorem c_X11_fulfilled {l : Launch} {D : va_G} {cy : Nat → ClassId} {a : Nat → Nat} {thrown : Int32} {g : Nat → Int32} {saved : Nat → Int32} {hasSaved : Int32} {coef : Nat → Int32} {nodes : Nat → Int32} {nodeMany : Int32} {isDeep : Int32} {codes : Nat → Int32} {details : Nat → Int32} {levelMany : Int32} {given : Nat → Int32} {paper : Nat → Int32} {papered : Int32} {tape : Nat → Int32} {taped : Int32} {wrongAt : Int32} {at_ : Int32} {value : Int32} {readPlace : Int32} {readValue : Int32} {readEpoch : Int32} {p0 : Int32} {p1 : Int32}  {val : Int32} (hf : F_X11_fulfilled g p0 p1 = some val) : gCt l D cy yX11_fulfilled cX11_fulfilled 3 (some .boolean) 71 2450 0 0 [.ref (a 0), .int p0, .int p1] [] ((wM cy a thrown g saved hasSaved coef nodes nodeMany isDeep codes details levelMany given paper papered tape taped wrongAt at_ value readPlace readValue readEpoch)) 0 (fun _ : Unit => some (.int val)) (fun _ => (wM cy a thrown g saved hasSaved coef nodes nodeMany isDeep codes details levelMany given paper papered tape taped wrongAt at_ value readPlace readValue readEpoch)) := by
  refine g_begin (by decide +kernel) (Nat.le_of_ble_eq_true rfl) ?_
  intro X Q hl hR hD hy hro hn C hin E
  subst hl; subst hD; subst hy
  replace C : gC X "SecretVaultModel" cX11_fulfilled (some .boolean) := C
  unfold F_X11_fulfilled at hf
  have H30 : ∀ (s0_30 : Int32), F_X11_fulfilled_L30 s0_30 = some val → gW X Q 0 0 ((wM (x_y X) a thrown g saved hasSaved coef nodes nodeMany isDeep codes details levelMany given paper papered tape taped wrongAt at_ value readPlace readValue readEpoch)) [(0, .ref (a 0)), (1, .int p0), (2, .int p1)] [.int s0_30] 30 := by
    intro s0_30 hf
    unfold F_X11_fulfilled_L30 at hf
    obtain ⟨c4, hf⟩ := gg_of hf
    obtain rfl := Option.some.inj hf
    exact g_zret C E () (gnar_of c4) dX11_fulfilled_30 rfl rfl rfl (Nat.le_of_ble_eq_true rfl) (Nat.le_of_ble_eq_true rfl)
  have H25 :  F_X11_fulfilled_L25 = some val → gW X Q 0 0 ((wM (x_y X) a thrown g saved hasSaved coef nodes nodeMany isDeep codes details levelMany given paper papered tape taped wrongAt at_ value readPlace readValue readEpoch)) [(0, .ref (a 0)), (1, .int p0), (2, .int p1)] [] 25 := by
    intro hf
    unfold F_X11_fulfilled_L25 at hf
    refine g_iconst C (v := 1) dX11_fulfilled_25 (by decide) ?_
    refine g_goto C 30 dX11_fulfilled_26 (by decide) ?_
    exact H30 1 hf
  show gW X Q 0 0 ((wM (x_y X) a thrown g saved hasSaved coef nodes nodeMany isDeep codes details levelMany given paper papered tape taped wrongAt at_ value readPlace readValue readEpoch)) [(0, .ref (a 0)), (1, .int p0), (2, .int p1)] [] 0
  refine g_aload_n C 0 dX11_fulfilled_0 rfl ?_
  refine g_iload_n C 1 dX11_fulfilled_1 rfl ?_
  obtain ⟨v1, h2, hf⟩ := opt_bind hf
  refine g_callV C (c_X11_hasPolicy (l := x_l X) (D := x_D X) (cy := x_y X) (a := a) (thrown := thrown) (g := g) (saved := saved) (hasSaved := hasSaved) (coef := coef) (nodes := nodes) (nodeMany := nodeMany) (isDeep := isDeep) (codes := codes) (details := details) (levelMany := levelMany) (given := given) (paper := paper) (papered := papered) (tape := tape) (taped := taped) (wrongAt := wrongAt) (at_ := at_) (value := value) (readPlace := readPlace) (readValue := readValue) (readEpoch := readEpoch) (p0 := p0) h2) (As := [.int p0]) (rest := []) (wr := []) (ws' := fun _ => (wM (x_y X) a thrown g saved hasSaved coef nodes nodeMany isDeep codes details levelMany given paper papered tape taped wrongAt at_ value readPlace readValue readEpoch)) (st' := fun _ => [.int v1]) (ci := 12) 1 0 ⟨_, rfl⟩ rfl rfl mw_7_161 mw_1_9 mw_7_158 mw_7_160 mp_51 hd_X11_hasPolicy rfl (g_rm hR rfl rfl) [0, 1, 2, 3, 4, 5, 6, 7, 8, 9] [] [0, 1, 2, 3, 4, 5, 6, 7, 8, 9] ⟨rfl, rfl, rfl, rfl, by decide, gRoIn_0, rfl, fun _ => rfl⟩ rfl (Nat.le_of_ble_eq_true rfl) dX11_fulfilled_2 (g_rc hR (Nat.le_of_ble_eq_true rfl) (Nat.le_of_ble_eq_true rfl)) (ck' := 0) (sk' := 0) rfl rfl (fun _ => rfl) (fun _ _ => ?_) (fun _ hx => absurd rfl hx)
  refine g_if_eq C 25 dX11_fulfilled_5 (by decide) (fun c3 => ?_) (fun c3 => ?_)
  · have hf := opt_pos c3 hf
    exact H25 hf
  · have hf := opt_neg c3 hf
    refine g_aload_n C 0 dX11_fulfilled_8 rfl ?_
    refine g_iload_n C 1 dX11_fulfilled_9 rfl ?_
    refine g_iconst C (v := 0) dX11_fulfilled_10 (by decide) ?_
    refine g_aload_n C 0 dX11_fulfilled_11 rfl ?_
    refine g_iload_n C 1 dX11_fulfilled_12 rfl ?_
    refine g_bipush C (v := 11) dX11_fulfilled_13 (by decide) ?_
    obtain ⟨v5, h6, hf⟩ := opt_bind hf
    refine g_callV C (c_X11_of (l := x_l X) (D := x_D X) (cy := x_y X) (a := a) (thrown := thrown) (g := g) (saved := saved) (hasSaved := hasSaved) (coef := coef) (nodes := nodes) (nodeMany := nodeMany) (isDeep := isDeep) (codes := codes) (details := details) (levelMany := levelMany) (given := given) (paper := paper) (papered := papered) (tape := tape) (taped := taped) (wrongAt := wrongAt) (at_ := at_) (value := value) (readPlace := readPlace) (readValue := readValue) (readEpoch := readEpoch) (p0 := p0) (p1 := 11) h6) (As := [.int p0, .int 11]) (rest := [.int 0, .int p0, .ref (a 0)]) (wr := []) (ws' := fun _ => (wM (x_y X) a thrown g saved hasSaved coef nodes nodeMany isDeep codes details levelMany given paper papered tape taped wrongAt at_ value readPlace readValue readEpoch)) (st' := fun _ => [.int v5, .int 0, .int p0, .ref (a 0)]) (ci := 12) 2 0 ⟨_, rfl⟩ rfl rfl mw_7_69 mw_1_9 mw_7_66 mw_7_68 mp_35 hd_X11_of rfl (g_rm hR rfl rfl) [0, 1, 2, 3, 4, 5, 6, 7, 8, 9] [] [0, 1, 2, 3, 4, 5, 6, 7, 8, 9] ⟨rfl, rfl, rfl, rfl, by decide, gRoIn_0, rfl, fun _ => rfl⟩ rfl (Nat.le_of_ble_eq_true rfl) dX11_fulfilled_15 (g_rc hR (Nat.le_of_ble_eq_true rfl) (Nat.le_of_ble_eq_true rfl)) (ck' := 0) (sk' := 0) rfl rfl (fun _ => rfl) (fun _ _ => ?_) (fun _ hx => absurd rfl hx)
    refine g_iload_n C 2 dX11_fulfilled_18 rfl ?_
    obtain ⟨v7, h8, hf⟩ := opt_bind hf
    refine g_callS C (c_X11_holds 64 (l := x_l X) (D := x_D X) (cy := x_y X) (a := a) (thrown := thrown) (g := g) (saved := saved) (hasSaved := hasSaved) (coef := coef) (nodes := nodes) (nodeMany := nodeMany) (isDeep := isDeep) (codes := codes) (details := details) (levelMany := levelMany) (given := given) (paper := paper) (papered := papered) (tape := tape) (taped := taped) (wrongAt := wrongAt) (at_ := at_) (value := value) (readPlace := readPlace) (readValue := readValue) (readEpoch := readEpoch) (p1 := p0) (p2 := 0) (p3 := v5) (p4 := p1) h8) (As := [.ref (a 0), .int p0, .int 0, .int v5, .int p1]) (rest := []) (wr := []) (ws' := fun _ => (wM (x_y X) a thrown g saved hasSaved coef nodes nodeMany isDeep codes details levelMany given paper papered tape taped wrongAt at_ value readPlace readValue readEpoch)) (st' := fun _ => [.int v7]) 5 mw_7_164 mw_1_9 mw_7_162 mw_7_163 hd_X11_holds rfl (g_rm hR rfl rfl) [0, 1, 2, 3, 4, 5, 6, 7, 8, 9] [] [0, 1, 2, 3, 4, 5, 6, 7, 8, 9] ⟨rfl, rfl, rfl, rfl, by decide, gRoIn_0, rfl, fun _ => rfl⟩ rfl (Nat.le_of_ble_eq_true rfl) dX11_fulfilled_19 (g_rc hR (Nat.le_of_ble_eq_true rfl) (Nat.le_of_ble_eq_true rfl)) (ck' := 0) (sk' := 0) rfl rfl (fun _ => rfl) (fun _ _ => ?_) (fun _ hx => absurd rfl hx)
    refine g_if_eq C 29 dX11_fulfilled_22 (by decide) (fun c9 => ?_) (fun c9 => ?_)
    · have hf := opt_pos c9 hf
      refine g_iconst C (v := 0) dX11_fulfilled_29 (by decide) ?_
      exact H30 0 hf
    · have hf := opt_neg c9 hf
      exact H25 hf
/-! X11_opens -/
theorem hd_X11_opens : yX11_opens.cls ≠ "java/lang/invoke/MethodHandle" ∧ yX11_opens.cls ≠ "java/lang/invoke/VarHandle" ∧ (parseMethodDescriptor yX11_opens.desc).map (fun d => d.parameters.length) = some 2 := by decide +kernel
def F_X11_opens_L40   (nodes_40 : Nat → Int32) (nodeMany_40 : Int32) (s0_40 : Int32) : Option (Int32 × (Nat → Int32) × Int32) := gg (gnar .boolean s0_40) (some (s0_40, nodes_40, nodeMany_40))
def F_X11_opens_L39   (nodes_39 : Nat → Int32) (nodeMany_39 : Int32) : Option (Int32 × (Nat → Int32) × Int32) := F_X11_opens_L40 nodes_39 nodeMany_39 0
def F_X11_opens (g : Nat → Int32) (nodes : Nat → Int32) (nodeMany : Int32) (p0 : Int32) (p1 : Int32) : Option (Int32 × (Nat → Int32) × Int32) := (F_X11_taken g p1).bind fun v1 => (F_X11_tellNodes g nodes nodeMany p0 v1 1).bind fun v3 => (F_X11_fulfilled g p0 v1).bind fun v5 => if v5 = 0 then (F_X11_opens_L39 v3.1 v3.2) else ((F_X11_of g p0 1).bind fun v9 => if v3.2 < v9 then (F_X11_opens_L39 v3.1 v3.2) else (F_X11_opens_L40 v3.1 v3.2 1))
set_option maxRecDepth 100000 in
set_option maxHeartbeats 4000000 in
theorem c_X11_opens {l : Launch} {D : va_G} {cy : Nat → ClassId} {a : Nat → Nat} {thrown : Int32} {g : Nat → Int32} {saved : Nat → Int32} {hasSaved : Int32} {coef : Nat → Int32} {nodes : Nat → Int32} {nodeMany : Int32} {isDeep : Int32} {codes : Nat → Int32} {details : Nat → Int32} {levelMany : Int32} {given : Nat → Int32} {paper : Nat → Int32} {papered : Int32} {tape : Nat → Int32} {taped : Int32} {wrongAt : Int32} {at_ : Int32} {value : Int32} {readPlace : Int32} {readValue : Int32} {readEpoch : Int32} {p0 : Int32} {p1 : Int32}  {val : Int32 × (Nat → Int32) × Int32} (hf : F_X11_opens g nodes nodeMany p0 p1 = some val) : gCt l D cy yX11_opens cX11_opens 4 (some .boolean) 72 2472 0 0 [.ref (a 0), .int p0, .int p1] [] ((wM cy a thrown g saved hasSaved coef nodes nodeMany isDeep codes details levelMany given paper papered tape taped wrongAt at_ value readPlace readValue readEpoch)) 0 (fun _ : Unit => some (.int val.1)) (fun _ => (wM cy a thrown g saved hasSaved coef val.2.1 val.2.2 isDeep codes details levelMany given paper papered tape taped wrongAt at_ value readPlace readValue readEpoch)) := by
  refine g_begin (by decide +kernel) (Nat.le_of_ble_eq_true rfl) ?_
  intro X Q hl hR hD hy hro hn C hin E
  subst hl; subst hD; subst hy
  replace C : gC X "SecretVaultModel" cX11_opens (some .boolean) := C
  unfold F_X11_opens at hf
  have H40 : ∀ (nodes_40 : Nat → Int32) (nodeMany_40 : Int32) (s0_40 : Int32), F_X11_opens_L40 nodes_40 nodeMany_40 s0_40 = some val → gW X Q 0 0 ((wM (x_y X) a thrown g saved hasSaved coef nodes_40 nodeMany_40 isDeep codes details levelMany given paper papered tape taped wrongAt at_ value readPlace readValue readEpoch)) [(0, .ref (a 0)), (1, .int p0), (2, .int p1)] [.int s0_40] 40 := by
    intro nodes_40 nodeMany_40 s0_40 hf
    unfold F_X11_opens_L40 at hf
    obtain ⟨c8, hf⟩ := gg_of hf
    obtain rfl := Option.some.inj hf
    exact g_zret C E () (gnar_of c8) dX11_opens_40 rfl rfl rfl (Nat.le_of_ble_eq_true rfl) (Nat.le_of_ble_eq_true rfl)
  have H39 : ∀ (nodes_39 : Nat → Int32) (nodeMany_39 : Int32), F_X11_opens_L39 nodes_39 nodeMany_39 = some val → gW X Q 0 0 ((wM (x_y X) a thrown g saved hasSaved coef nodes_39 nodeMany_39 isDeep codes details levelMany given paper papered tape taped wrongAt at_ value readPlace readValue readEpoch)) [(0, .ref (a 0)), (1, .int p0), (2, .int p1)] [] 39 := by
    intro nodes_39 nodeMany_39 hf
    unfold F_X11_opens_L39 at hf
    refine g_iconst C (v := 0) dX11_opens_39 (by decide) ?_
    exact H40 nodes_39 nodeMany_39 0 hf
  show gW X Q 0 0 ((wM (x_y X) a thrown g saved hasSaved coef nodes nodeMany isDeep codes details levelMany given paper papered tape taped wrongAt at_ value readPlace readValue readEpoch)) [(0, .ref (a 0)), (1, .int p0), (2, .int p1)] [] 0
  refine g_aload_n C 0 dX11_opens_0 rfl ?_
  refine g_iload_n C 2 dX11_opens_1 rfl ?_
  obtain ⟨v1, h2, hf⟩ := opt_bind hf
  refine g_callV C (c_X11_taken (l := x_l X) (D := x_D X) (cy := x_y X) (a := a) (thrown := thrown) (g := g) (saved := saved) (hasSaved := hasSaved) (coef := coef) (nodes := nodes) (nodeMany := nodeMany) (isDeep := isDeep) (codes := codes) (details := details) (levelMany := levelMany) (given := given) (paper := paper) (papered := papered) (tape := tape) (taped := taped) (wrongAt := wrongAt) (at_ := at_) (value := value) (readPlace := readPlace) (readValue := readValue) (readEpoch := readEpoch) (p0 := p1) h2) (As := [.int p1]) (rest := []) (wr := []) (ws' := fun _ => (wM (x_y X) a thrown g saved hasSaved coef nodes nodeMany isDeep codes details levelMany given paper papered tape taped wrongAt at_ value readPlace readValue readEpoch)) (st' := fun _ => [.int v1]) (ci := 12) 1 0 ⟨_, rfl⟩ rfl rfl mw_7_149 mw_1_9 mw_7_146 mw_7_148 mp_48 hd_X11_taken rfl (g_rm hR rfl rfl) [0, 1, 2, 3, 4, 5, 6, 7, 8, 9] [] [0, 1, 2, 3, 4, 5, 6, 7, 8, 9] ⟨rfl, rfl, rfl, rfl, by decide, gRoIn_0, rfl, fun _ => rfl⟩ rfl (Nat.le_of_ble_eq_true rfl) dX11_opens_2 (g_rc hR (Nat.le_of_ble_eq_true rfl) (Nat.le_of_ble_eq_true rfl)) (ck' := 0) (sk' := 0) rfl rfl (fun _ => rfl) (fun _ _ => ?_) (fun _ hx => absurd rfl hx)
  refine g_istore_n C (lv' := [(3, .int v1), (0, .ref (a 0)), (1, .int p0), (2, .int p1)]) dX11_opens_5 (g_nlt hn rfl) rfl ?_
  refine g_aload_n C 1 dX11_opens_6 rfl ?_
  refine g_iload_n C 2 dX11_opens_7 rfl ?_
  refine g_iload_n C 0 dX11_opens_8 rfl ?_
  refine g_iconst C (v := 1) dX11_opens_9 (by decide) ?_
  obtain ⟨v3, h4, hf⟩ := opt_bind hf
  refine g_callV C (c_X11_tellNodes (l := x_l X) (D := x_D X) (cy := x_y X) (a := a) (thrown := thrown) (g := g) (saved := saved) (hasSaved := hasSaved) (coef := coef) (nodes := nodes) (nodeMany := nodeMany) (isDeep := isDeep) (codes := codes) (details := details) (levelMany := levelMany) (given := given) (paper := paper) (papered := papered) (tape := tape) (taped := taped) (wrongAt := wrongAt) (at_ := at_) (value := value) (readPlace := readPlace) (readValue := readValue) (readEpoch := readEpoch) (p0 := p0) (p1 := v1) (p2 := 1) h4) (As := [.int p0, .int v1, .int 1]) (rest := []) (wr := []) (ws' := fun _ => (wM (x_y X) a thrown g saved hasSaved coef v3.1 v3.2 isDeep codes details levelMany given paper papered tape taped wrongAt at_ value readPlace readValue readEpoch)) (st' := fun _ => []) (ci := 12) 3 0 ⟨_, rfl⟩ rfl rfl mw_7_153 mw_1_9 mw_7_150 mw_7_152 mp_49 hd_X11_tellNodes rfl (g_rm hR rfl rfl) [0, 1, 2, 3, 4, 5, 6, 7, 8, 9] [] [0, 1, 2, 3, 4, 5, 6, 7, 8, 9] ⟨rfl, rfl, rfl, rfl, by decide, gRoIn_0, rfl, fun _ => rfl⟩ rfl (Nat.le_of_ble_eq_true rfl) dX11_opens_10 (g_rc hR (Nat.le_of_ble_eq_true rfl) (Nat.le_of_ble_eq_true rfl)) (ck' := 0) (sk' := 0) rfl rfl (fun _ => rfl) (fun _ _ => ?_) (fun _ hx => absurd rfl hx)
  refine g_aload_n C 1 dX11_opens_13 rfl ?_
  refine g_iload_n C 2 dX11_opens_14 rfl ?_
  refine g_iload_n C 0 dX11_opens_15 rfl ?_
  obtain ⟨v5, h6, hf⟩ := opt_bind hf
  refine g_callV C (c_X11_fulfilled (l := x_l X) (D := x_D X) (cy := x_y X) (a := a) (thrown := thrown) (g := g) (saved := saved) (hasSaved := hasSaved) (coef := coef) (nodes := v3.1) (nodeMany := v3.2) (isDeep := isDeep) (codes := codes) (details := details) (levelMany := levelMany) (given := given) (paper := paper) (papered := papered) (tape := tape) (taped := taped) (wrongAt := wrongAt) (at_ := at_) (value := value) (readPlace := readPlace) (readValue := readValue) (readEpoch := readEpoch) (p0 := p0) (p1 := v1) h6) (As := [.int p0, .int v1]) (rest := []) (wr := []) (ws' := fun _ => (wM (x_y X) a thrown g saved hasSaved coef v3.1 v3.2 isDeep codes details levelMany given paper papered tape taped wrongAt at_ value readPlace readValue readEpoch)) (st' := fun _ => [.int v5]) (ci := 12) 2 0 ⟨_, rfl⟩ rfl rfl mw_7_157 mw_1_9 mw_7_154 mw_7_156 mp_50 hd_X11_fulfilled rfl (g_rm hR rfl rfl) [0, 1, 2, 3, 4, 5, 6, 7, 8, 9] [] [0, 1, 2, 3, 4, 5, 6, 7, 8, 9] ⟨rfl, rfl, rfl, rfl, by decide, gRoIn_0, rfl, fun _ => rfl⟩ rfl (Nat.le_of_ble_eq_true rfl) dX11_opens_16 (g_rc hR (Nat.le_of_ble_eq_true rfl) (Nat.le_of_ble_eq_true rfl)) (ck' := 0) (sk' := 0) rfl rfl (fun _ => rfl) (fun _ _ => ?_) (fun _ hx => absurd rfl hx)
  refine g_if_eq C 39 dX11_opens_19 (by decide) (fun c7 => ?_) (fun c7 => ?_)
  · have hf := opt_pos c7 hf
    refine gW.locals [1, 2, 3] rfl ?_
    exact H39 v3.1 v3.2 hf
  · have hf := opt_neg c7 hf
    refine g_aload_n C 1 dX11_opens_22 rfl ?_
    refine g_get C 0 6 rfl rfl wiX11 (by decide) mw_6_190 rfl rfl dX11_opens_23 ?_
    refine g_aload_n C 1 dX11_opens_26 rfl ?_
    refine g_iload_n C 2 dX11_opens_27 rfl ?_
    refine g_iconst C (v := 1) dX11_opens_28 (by decide) ?_
    obtain ⟨v9, h10, hf⟩ := opt_bind hf
    refine g_callV C (c_X11_of (l := x_l X) (D := x_D X) (cy := x_y X) (a := a) (thrown := thrown) (g := g) (saved := saved) (hasSaved := hasSaved) (coef := coef) (nodes := v3.1) (nodeMany := v3.2) (isDeep := isDeep) (codes := codes) (details := details) (levelMany := levelMany) (given := given) (paper := paper) (papered := papered) (tape := tape) (taped := taped) (wrongAt := wrongAt) (at_ := at_) (value := value) (readPlace := readPlace) (readValue := readValue) (readEpoch := readEpoch) (p0 := p0) (p1 := 1) h10) (As := [.int p0, .int 1]) (rest := [.int v3.2]) (wr := []) (ws' := fun _ => (wM (x_y X) a thrown g saved hasSaved coef v3.1 v3.2 isDeep codes details levelMany given paper papered tape taped wrongAt at_ value readPlace readValue readEpoch)) (st' := fun _ => [.int v9, .int v3.2]) (ci := 12) 2 0 ⟨_, rfl⟩ rfl rfl mw_7_69 mw_1_9 mw_7_66 mw_7_68 mp_35 hd_X11_of rfl (g_rm hR rfl rfl) [0, 1, 2, 3, 4, 5, 6, 7, 8, 9] [] [0, 1, 2, 3, 4, 5, 6, 7, 8, 9] ⟨rfl, rfl, rfl, rfl, by decide, gRoIn_0, rfl, fun _ => rfl⟩ rfl (Nat.le_of_ble_eq_true rfl) dX11_opens_29 (g_rc hR (Nat.le_of_ble_eq_true rfl) (Nat.le_of_ble_eq_true rfl)) (ck' := 0) (sk' := 0) rfl rfl (fun _ => rfl) (fun _ _ => ?_) (fun _ hx => absurd rfl hx)
    refine g_icmp_lt C 39 dX11_opens_32 (by decide) (fun c11 => ?_) (fun c11 => ?_)
    · have hf := opt_pos c11 hf
      refine gW.locals [1, 2, 3] rfl ?_
      exact H39 v3.1 v3.2 hf
    · have hf := opt_neg c11 hf
      refine g_iconst C (v := 1) dX11_opens_35 (by decide) ?_
      refine g_goto C 40 dX11_opens_36 (by decide) ?_
      refine gW.locals [1, 2, 3] rfl ?_
      exact H40 v3.1 v3.2 1 hf
/-! X11_reports -/
theorem hd_X11_reports : yX11_reports.cls ≠ "java/lang/invoke/MethodHandle" ∧ yX11_reports.cls ≠ "java/lang/invoke/VarHandle" ∧ (parseMethodDescriptor yX11_reports.desc).map (fun d => d.parameters.length) = some 2 := by decide +kernel
def F_X11_reports_L114  (K59 : (Nat → Int32) → Int32 → (Nat → Int32) → (Nat → Int32) → Int32 → Int32 → Int32 → Option ((Nat → Int32) × Int32 × (Nat → Int32) × (Nat → Int32) × Int32)) (nodes_114 : Nat → Int32) (nodeMany_114 : Int32) (codes_114 : Nat → Int32) (details_114 : Nat → Int32) (levelMany_114 : Int32) (l3_114 : Int32) (l4_114 : Int32) : Option ((Nat → Int32) × Int32 × (Nat → Int32) × (Nat → Int32) × Int32) := K59 nodes_114 nodeMany_114 codes_114 details_114 levelMany_114 l3_114 (l4_114 + 1)
def F_X11_reports_L59 (g : Nat → Int32) (p0 : Int32)  : Nat → (Nat → Int32) → Int32 → (Nat → Int32) → (Nat → Int32) → Int32 → Int32 → Int32 → Option ((Nat → Int32) × Int32 × (Nat → Int32) × (Nat → Int32) × Int32)
  | 0, _, _, _, _, _, _, _ => none
  | n + 1, nodes_59, nodeMany_59, codes_59, details_59, levelMany_59, l3_59, l4_59 => if 24 < l4_59 then (some (nodes_59, nodeMany_59, codes_59, details_59, levelMany_59)) else ((F_X11_owner l4_59).bind fun v15 => if ((l3_59 >>> (v15 &&& 31)) &&& 1) = 1 then ((F_X11_hasShare g p0 l4_59).bind fun v18 => if v18 = 0 then (F_X11_reports_L114 (F_X11_reports_L59 g p0 n) nodes_59 nodeMany_59 codes_59 details_59 levelMany_59 l3_59 l4_59) else ((F_X11_stateOf g p0 l4_59).bind fun v21 => if v21 = 0 then (F_X11_reports_L114 (F_X11_reports_L59 g p0 n) nodes_59 nodeMany_59 codes_59 details_59 levelMany_59 l3_59 l4_59) else ((F_X11_stateOf g p0 l4_59).bind fun v24 => (F_X11_level codes_59 details_59 levelMany_59 (v24 + 3) l4_59).bind fun v26 => F_X11_reports_L114 (F_X11_reports_L59 g p0 n) nodes_59 nodeMany_59 v26.1 v26.2.1 v26.2.2 l3_59 l4_59))) else (F_X11_reports_L114 (F_X11_reports_L59 g p0 n) nodes_59 nodeMany_59 codes_59 details_59 levelMany_59 l3_59 l4_59))
def F_X11_reports (g : Nat → Int32) (nodes : Nat → Int32) (nodeMany : Int32) (codes : Nat → Int32) (details : Nat → Int32) (levelMany : Int32) (p0 : Int32) (p1 : Int32) : Option ((Nat → Int32) × Int32 × (Nat → Int32) × (Nat → Int32) × Int32) := (F_X11_taken g p1).bind fun v1 => (F_X11_level codes details 0 1 p0).bind fun v3 => (F_X11_fulfilled g p0 v1).bind fun v5 => if v5 = 0 then ((F_X11_level v3.1 v3.2.1 v3.2.2 2 v1).bind fun v28 => some (nodes, nodeMany, v28.1, v28.2.1, v28.2.2)) else ((F_X11_tellNodes g nodes nodeMany p0 v1 1).bind fun v8 => (F_X11_of g p0 1).bind fun v10 => (F_X11_level v3.1 v3.2.1 v3.2.2 3 (v10 - v8.2)).bind fun v12 => F_X11_reports_L59 g p0 1000 v8.1 v8.2 v12.1 v12.2.1 v12.2.2 v1 1)
set_option maxRecDepth 100000 in
set_option maxHeartbeats 4000000 in
theorem c_X11_reports {l : Launch} {D : va_G} {cy : Nat → ClassId} {a : Nat → Nat} {thrown : Int32} {g : Nat → Int32} {saved : Nat → Int32} {hasSaved : Int32} {coef : Nat → Int32} {nodes : Nat → Int32} {nodeMany : Int32} {isDeep : Int32} {codes : Nat → Int32} {details : Nat → Int32} {levelMany : Int32} {given : Nat → Int32} {paper : Nat → Int32} {papered : Int32} {tape : Nat → Int32} {taped : Int32} {wrongAt : Int32} {at_ : Int32} {value : Int32} {readPlace : Int32} {readValue : Int32} {readEpoch : Int32} {p0 : Int32} {p1 : Int32}  {val : (Nat → Int32) × Int32 × (Nat → Int32) × (Nat → Int32) × Int32} (hf : F_X11_reports g nodes nodeMany codes details levelMany p0 p1 = some val) : gCt l D cy yX11_reports cX11_reports 5 none 72 2472 0 0 [.ref (a 0), .int p0, .int p1] [] ((wM cy a thrown g saved hasSaved coef nodes nodeMany isDeep codes details levelMany given paper papered tape taped wrongAt at_ value readPlace readValue readEpoch)) 0 (fun _ : Unit => none) (fun _ => (wM cy a thrown g saved hasSaved coef val.1 val.2.1 isDeep val.2.2.1 val.2.2.2.1 val.2.2.2.2 given paper papered tape taped wrongAt at_ value readPlace readValue readEpoch)) := by
  refine g_begin (by decide +kernel) (Nat.le_of_ble_eq_true rfl) ?_
  intro X Q hl hR hD hy hro hn C hin E
  subst hl; subst hD; subst hy
  replace C : gC X "SecretVaultModel" cX11_reports none := C
  unfold F_X11_reports at hf
  have H59 : ∀ (n59 : Nat), ∀ (nodes_59 : Nat → Int32) (nodeMany_59 : Int32) (codes_59 : Nat → Int32) (details_59 : Nat → Int32) (levelMany_59 : Int32) (l3_59 : Int32) (l4_59 : Int32), F_X11_reports_L59 g p0 n59 nodes_59 nodeMany_59 codes_59 details_59 levelMany_59 l3_59 l4_59 = some val → gW X Q 0 0 ((wM (x_y X) a thrown g saved hasSaved coef nodes_59 nodeMany_59 isDeep codes_59 details_59 levelMany_59 given paper papered tape taped wrongAt at_ value readPlace readValue readEpoch)) [(0, .ref (a 0)), (1, .int p0), (2, .int p1), (3, .int l3_59), (4, .int l4_59)] [] 59 := by
    intro n59
    induction n59 with
    | zero => intros; rename_i hf; cases hf
    | succ n59 ih =>
      intro nodes_59 nodeMany_59 codes_59 details_59 levelMany_59 l3_59 l4_59 hf
      have H59 := ih
      rw [F_X11_reports_L59] at hf
      have H114 : ∀ (nodes_114 : Nat → Int32) (nodeMany_114 : Int32) (codes_114 : Nat → Int32) (details_114 : Nat → Int32) (levelMany_114 : Int32) (l3_114 : Int32) (l4_114 : Int32), F_X11_reports_L114 (F_X11_reports_L59 g p0 n59) nodes_114 nodeMany_114 codes_114 details_114 levelMany_114 l3_114 l4_114 = some val → gW X Q 0 0 ((wM (x_y X) a thrown g saved hasSaved coef nodes_114 nodeMany_114 isDeep codes_114 details_114 levelMany_114 given paper papered tape taped wrongAt at_ value readPlace readValue readEpoch)) [(0, .ref (a 0)), (1, .int p0), (2, .int p1), (3, .int l3_114), (4, .int l4_114)] [] 114 := by
        intro nodes_114 nodeMany_114 codes_114 details_114 levelMany_114 l3_114 l4_114 hf
        unfold F_X11_reports_L114 at hf
        refine g_iinc C 4 (v := l4_114 + 1) (lv' := [(4, .int (l4_114 + 1)), (0, .ref (a 0)), (1, .int p0), (2, .int p1), (3, .int l3_114)]) dX11_reports_114 rfl rfl (g_nlt hn rfl) rfl ?_
        refine g_goto C 59 dX11_reports_117 (by decide) ?_
        refine gW.locals [1, 2, 3, 4, 0] rfl ?_
        exact H59 nodes_114 nodeMany_114 codes_114 details_114 levelMany_114 l3_114 (l4_114 + 1) hf
      refine g_iload C 4 dX11_reports_59 rfl ?_
      refine g_bipush C (v := 24) dX11_reports_61 (by decide) ?_
      refine g_icmp_gt C 120 dX11_reports_63 (by decide) (fun c14 => ?_) (fun c14 => ?_)
      · have hf := opt_pos c14 hf
        obtain rfl := Option.some.inj hf
        exact g_vret C E () dX11_reports_120 rfl rfl rfl (Nat.le_of_ble_eq_true rfl) (Nat.le_of_ble_eq_true rfl)
      · have hf := opt_neg c14 hf
        refine g_iload_n C 3 dX11_reports_66 rfl ?_
        refine g_iload C 4 dX11_reports_67 rfl ?_
        obtain ⟨v15, h16, hf⟩ := opt_bind hf
        refine g_callS C (c_X11_owner (l := x_l X) (D := x_D X) (cy := x_y X) (p0 := l4_59) h16) (As := [.int l4_59]) (rest := [.int l3_59]) (wr := (wM (x_y X) a thrown g saved hasSaved coef nodes_59 nodeMany_59 isDeep codes_59 details_59 levelMany_59 given paper papered tape taped wrongAt at_ value readPlace readValue readEpoch)) (ws' := fun _ => (wM (x_y X) a thrown g saved hasSaved coef nodes_59 nodeMany_59 isDeep codes_59 details_59 levelMany_59 given paper papered tape taped wrongAt at_ value readPlace readValue readEpoch)) (st' := fun _ => [.int v15, .int l3_59]) 1 mw_7_102 mw_1_9 mw_7_100 mw_7_101 hd_X11_owner rfl (g_rm hR rfl rfl) [] [0, 1, 2, 3, 4, 5, 6, 7, 8, 9] [0, 1, 2, 3, 4, 5, 6, 7, 8, 9] ⟨rfl, rfl, rfl, rfl, by decide, gRoIn_0, rfl, fun _ => rfl⟩ rfl (Nat.le_of_ble_eq_true rfl) dX11_reports_69 (g_rc hR (Nat.le_of_ble_eq_true rfl) (Nat.le_of_ble_eq_true rfl)) (ck' := 0) (sk' := 0) rfl rfl (fun _ => rfl) (fun _ _ => ?_) (fun _ hx => absurd rfl hx)
        refine g_ishr C dX11_reports_72 ?_
        refine g_iconst C (v := 1) dX11_reports_73 (by decide) ?_
        refine g_iand C dX11_reports_74 ?_
        refine g_iconst C (v := 1) dX11_reports_75 (by decide) ?_
        refine g_icmp_ne C 114 dX11_reports_76 (by decide) (fun c17 => ?_) (fun c17 => ?_)
        · have hf := opt_neg c17 hf
          exact H114 nodes_59 nodeMany_59 codes_59 details_59 levelMany_59 l3_59 l4_59 hf
        · have hf := opt_pos c17 hf
          refine g_aload_n C 0 dX11_reports_79 rfl ?_
          refine g_iload_n C 1 dX11_reports_80 rfl ?_
          refine g_iload C 4 dX11_reports_81 rfl ?_
          obtain ⟨v18, h19, hf⟩ := opt_bind hf
          refine g_callV C (c_X11_hasShare (l := x_l X) (D := x_D X) (cy := x_y X) (a := a) (thrown := thrown) (g := g) (saved := saved) (hasSaved := hasSaved) (coef := coef) (nodes := nodes_59) (nodeMany := nodeMany_59) (isDeep := isDeep) (codes := codes_59) (details := details_59) (levelMany := levelMany_59) (given := given) (paper := paper) (papered := papered) (tape := tape) (taped := taped) (wrongAt := wrongAt) (at_ := at_) (value := value) (readPlace := readPlace) (readValue := readValue) (readEpoch := readEpoch) (p0 := p0) (p1 := l4_59) h19) (As := [.int p0, .int l4_59]) (rest := []) (wr := []) (ws' := fun _ => (wM (x_y X) a thrown g saved hasSaved coef nodes_59 nodeMany_59 isDeep codes_59 details_59 levelMany_59 given paper papered tape taped wrongAt at_ value readPlace readValue readEpoch)) (st' := fun _ => [.int v18]) (ci := 12) 2 0 ⟨_, rfl⟩ rfl rfl mw_7_61 mw_1_9 mw_7_58 mw_7_60 mp_33 hd_X11_hasShare rfl (g_rm hR rfl rfl) [0, 1, 2, 3, 4, 5, 6, 7, 8, 9] [] [0, 1, 2, 3, 4, 5, 6, 7, 8, 9] ⟨rfl, rfl, rfl, rfl, by decide, gRoIn_0, rfl, fun _ => rfl⟩ rfl (Nat.le_of_ble_eq_true rfl) dX11_reports_83 (g_rc hR (Nat.le_of_ble_eq_true rfl) (Nat.le_of_ble_eq_true rfl)) (ck' := 0) (sk' := 0) rfl rfl (fun _ => rfl) (fun _ _ => ?_) (fun _ hx => absurd rfl hx)
          refine g_if_eq C 114 dX11_reports_86 (by decide) (fun c20 => ?_) (fun c20 => ?_)
          · have hf := opt_pos c20 hf
            exact H114 nodes_59 nodeMany_59 codes_59 details_59 levelMany_59 l3_59 l4_59 hf
          · have hf := opt_neg c20 hf
            refine g_aload_n C 0 dX11_reports_89 rfl ?_
            refine g_iload_n C 1 dX11_reports_90 rfl ?_
            refine g_iload C 4 dX11_reports_91 rfl ?_
            obtain ⟨v21, h22, hf⟩ := opt_bind hf
            refine g_callV C (c_X11_stateOf (l := x_l X) (D := x_D X) (cy := x_y X) (a := a) (thrown := thrown) (g := g) (saved := saved) (hasSaved := hasSaved) (coef := coef) (nodes := nodes_59) (nodeMany := nodeMany_59) (isDeep := isDeep) (codes := codes_59) (details := details_59) (levelMany := levelMany_59) (given := given) (paper := paper) (papered := papered) (tape := tape) (taped := taped) (wrongAt := wrongAt) (at_ := at_) (value := value) (readPlace := readPlace) (readValue := readValue) (readEpoch := readEpoch) (p0 := p0) (p1 := l4_59) h22) (As := [.int p0, .int l4_59]) (rest := []) (wr := []) (ws' := fun _ => (wM (x_y X) a thrown g saved hasSaved coef nodes_59 nodeMany_59 isDeep codes_59 details_59 levelMany_59 given paper papered tape taped wrongAt at_ value readPlace readValue readEpoch)) (st' := fun _ => [.int v21]) (ci := 12) 2 0 ⟨_, rfl⟩ rfl rfl mw_7_73 mw_1_9 mw_7_70 mw_7_72 mp_36 hd_X11_stateOf rfl (g_rm hR rfl rfl) [0, 1, 2, 3, 4, 5, 6, 7, 8, 9] [] [0, 1, 2, 3, 4, 5, 6, 7, 8, 9] ⟨rfl, rfl, rfl, rfl, by decide, gRoIn_0, rfl, fun _ => rfl⟩ rfl (Nat.le_of_ble_eq_true rfl) dX11_reports_93 (g_rc hR (Nat.le_of_ble_eq_true rfl) (Nat.le_of_ble_eq_true rfl)) (ck' := 0) (sk' := 0) rfl rfl (fun _ => rfl) (fun _ _ => ?_) (fun _ hx => absurd rfl hx)
            refine g_if_eq C 114 dX11_reports_96 (by decide) (fun c23 => ?_) (fun c23 => ?_)
            · have hf := opt_pos c23 hf
              exact H114 nodes_59 nodeMany_59 codes_59 details_59 levelMany_59 l3_59 l4_59 hf
            · have hf := opt_neg c23 hf
              refine g_aload_n C 0 dX11_reports_99 rfl ?_
              refine g_aload_n C 0 dX11_reports_100 rfl ?_
              refine g_iload_n C 1 dX11_reports_101 rfl ?_
              refine g_iload C 4 dX11_reports_102 rfl ?_
              obtain ⟨v24, h25, hf⟩ := opt_bind hf
              refine g_callV C (c_X11_stateOf (l := x_l X) (D := x_D X) (cy := x_y X) (a := a) (thrown := thrown) (g := g) (saved := saved) (hasSaved := hasSaved) (coef := coef) (nodes := nodes_59) (nodeMany := nodeMany_59) (isDeep := isDeep) (codes := codes_59) (details := details_59) (levelMany := levelMany_59) (given := given) (paper := paper) (papered := papered) (tape := tape) (taped := taped) (wrongAt := wrongAt) (at_ := at_) (value := value) (readPlace := readPlace) (readValue := readValue) (readEpoch := readEpoch) (p0 := p0) (p1 := l4_59) h25) (As := [.int p0, .int l4_59]) (rest := [.ref (a 0)]) (wr := []) (ws' := fun _ => (wM (x_y X) a thrown g saved hasSaved coef nodes_59 nodeMany_59 isDeep codes_59 details_59 levelMany_59 given paper papered tape taped wrongAt at_ value readPlace readValue readEpoch)) (st' := fun _ => [.int v24, .ref (a 0)]) (ci := 12) 2 0 ⟨_, rfl⟩ rfl rfl mw_7_73 mw_1_9 mw_7_70 mw_7_72 mp_36 hd_X11_stateOf rfl (g_rm hR rfl rfl) [0, 1, 2, 3, 4, 5, 6, 7, 8, 9] [] [0, 1, 2, 3, 4, 5, 6, 7, 8, 9] ⟨rfl, rfl, rfl, rfl, by decide, gRoIn_0, rfl, fun _ => rfl⟩ rfl (Nat.le_of_ble_eq_true rfl) dX11_reports_104 (g_rc hR (Nat.le_of_ble_eq_true rfl) (Nat.le_of_ble_eq_true rfl)) (ck' := 0) (sk' := 0) rfl rfl (fun _ => rfl) (fun _ _ => ?_) (fun _ hx => absurd rfl hx)
              refine g_iconst C (v := 3) dX11_reports_107 (by decide) ?_
              refine g_iadd C dX11_reports_108 ?_
              refine g_iload C 4 dX11_reports_109 rfl ?_
              obtain ⟨v26, h27, hf⟩ := opt_bind hf
              refine g_callV C (c_X11_level (l := x_l X) (D := x_D X) (cy := x_y X) (a := a) (thrown := thrown) (g := g) (saved := saved) (hasSaved := hasSaved) (coef := coef) (nodes := nodes_59) (nodeMany := nodeMany_59) (isDeep := isDeep) (codes := codes_59) (details := details_59) (levelMany := levelMany_59) (given := given) (paper := paper) (papered := papered) (tape := tape) (taped := taped) (wrongAt := wrongAt) (at_ := at_) (value := value) (readPlace := readPlace) (readValue := readValue) (readEpoch := readEpoch) (p0 := v24 + 3) (p1 := l4_59) h27) (As := [.int (v24 + 3), .int l4_59]) (rest := []) (wr := []) (ws' := fun _ => (wM (x_y X) a thrown g saved hasSaved coef nodes_59 nodeMany_59 isDeep v26.1 v26.2.1 v26.2.2 given paper papered tape taped wrongAt at_ value readPlace readValue readEpoch)) (st' := fun _ => []) (ci := 12) 2 0 ⟨_, rfl⟩ rfl rfl mw_7_180 mw_1_9 mw_7_177 mw_7_179 mp_55 hd_X11_level rfl (g_rm hR rfl rfl) [0, 1, 2, 3, 4, 5, 6, 7, 8, 9] [] [0, 1, 2, 3, 4, 5, 6, 7, 8, 9] ⟨rfl, rfl, rfl, rfl, by decide, gRoIn_0, rfl, fun _ => rfl⟩ rfl (Nat.le_of_ble_eq_true rfl) dX11_reports_111 (g_rc hR (Nat.le_of_ble_eq_true rfl) (Nat.le_of_ble_eq_true rfl)) (ck' := 0) (sk' := 0) rfl rfl (fun _ => rfl) (fun _ _ => ?_) (fun _ hx => absurd rfl hx)
              exact H114 nodes_59 nodeMany_59 v26.1 v26.2.1 v26.2.2 l3_59 l4_59 hf
  show gW X Q 0 0 ((wM (x_y X) a thrown g saved hasSaved coef nodes nodeMany isDeep codes details levelMany given paper papered tape taped wrongAt at_ value readPlace readValue readEpoch)) [(0, .ref (a 0)), (1, .int p0), (2, .int p1)] [] 0
  refine g_aload_n C 0 dX11_reports_0 rfl ?_
  refine g_iload_n C 2 dX11_reports_1 rfl ?_
  obtain ⟨v1, h2, hf⟩ := opt_bind hf
  refine g_callV C (c_X11_taken (l := x_l X) (D := x_D X) (cy := x_y X) (a := a) (thrown := thrown) (g := g) (saved := saved) (hasSaved := hasSaved) (coef := coef) (nodes := nodes) (nodeMany := nodeMany) (isDeep := isDeep) (codes := codes) (details := details) (levelMany := levelMany) (given := given) (paper := paper) (papered := papered) (tape := tape) (taped := taped) (wrongAt := wrongAt) (at_ := at_) (value := value) (readPlace := readPlace) (readValue := readValue) (readEpoch := readEpoch) (p0 := p1) h2) (As := [.int p1]) (rest := []) (wr := []) (ws' := fun _ => (wM (x_y X) a thrown g saved hasSaved coef nodes nodeMany isDeep codes details levelMany given paper papered tape taped wrongAt at_ value readPlace readValue readEpoch)) (st' := fun _ => [.int v1]) (ci := 12) 1 0 ⟨_, rfl⟩ rfl rfl mw_7_149 mw_1_9 mw_7_146 mw_7_148 mp_48 hd_X11_taken rfl (g_rm hR rfl rfl) [0, 1, 2, 3, 4, 5, 6, 7, 8, 9] [] [0, 1, 2, 3, 4, 5, 6, 7, 8, 9] ⟨rfl, rfl, rfl, rfl, by decide, gRoIn_0, rfl, fun _ => rfl⟩ rfl (Nat.le_of_ble_eq_true rfl) dX11_reports_2 (g_rc hR (Nat.le_of_ble_eq_true rfl) (Nat.le_of_ble_eq_true rfl)) (ck' := 0) (sk' := 0) rfl rfl (fun _ => rfl) (fun _ _ => ?_) (fun _ hx => absurd rfl hx)
  refine g_istore_n C (lv' := [(3, .int v1), (0, .ref (a 0)), (1, .int p0), (2, .int p1)]) dX11_reports_5 (g_nlt hn rfl) rfl ?_
  refine g_aload_n C 1 dX11_reports_6 rfl ?_
  refine g_iconst C (v := 0) dX11_reports_7 (by decide) ?_
  refine g_put C (ws' := (wM (x_y X) a thrown g saved hasSaved coef nodes nodeMany isDeep codes details 0 given paper papered tape taped wrongAt at_ value readPlace readValue readEpoch)) 0 10 rfl rfl wiX11 (by decide) tyX11_ok nmX11 mw_6_193 rfl rfl rfl rfl (Nat.le_of_ble_eq_true rfl) rfl dX11_reports_8 ?_
  refine g_aload_n C 1 dX11_reports_11 rfl ?_
  refine g_iconst C (v := 1) dX11_reports_12 (by decide) ?_
  refine g_iload_n C 2 dX11_reports_13 rfl ?_
  obtain ⟨v3, h4, hf⟩ := opt_bind hf
  refine g_callV C (c_X11_level (l := x_l X) (D := x_D X) (cy := x_y X) (a := a) (thrown := thrown) (g := g) (saved := saved) (hasSaved := hasSaved) (coef := coef) (nodes := nodes) (nodeMany := nodeMany) (isDeep := isDeep) (codes := codes) (details := details) (levelMany := 0) (given := given) (paper := paper) (papered := papered) (tape := tape) (taped := taped) (wrongAt := wrongAt) (at_ := at_) (value := value) (readPlace := readPlace) (readValue := readValue) (readEpoch := readEpoch) (p0 := 1) (p1 := p0) h4) (As := [.int 1, .int p0]) (rest := []) (wr := []) (ws' := fun _ => (wM (x_y X) a thrown g saved hasSaved coef nodes nodeMany isDeep v3.1 v3.2.1 v3.2.2 given paper papered tape taped wrongAt at_ value readPlace readValue readEpoch)) (st' := fun _ => []) (ci := 12) 2 0 ⟨_, rfl⟩ rfl rfl mw_7_180 mw_1_9 mw_7_177 mw_7_179 mp_55 hd_X11_level rfl (g_rm hR rfl rfl) [0, 1, 2, 3, 4, 5, 6, 7, 8, 9] [] [0, 1, 2, 3, 4, 5, 6, 7, 8, 9] ⟨rfl, rfl, rfl, rfl, by decide, gRoIn_0, rfl, fun _ => rfl⟩ rfl (Nat.le_of_ble_eq_true rfl) dX11_reports_14 (g_rc hR (Nat.le_of_ble_eq_true rfl) (Nat.le_of_ble_eq_true rfl)) (ck' := 0) (sk' := 0) rfl rfl (fun _ => rfl) (fun _ _ => ?_) (fun _ hx => absurd rfl hx)
  refine g_aload_n C 1 dX11_reports_17 rfl ?_
  refine g_iload_n C 2 dX11_reports_18 rfl ?_
  refine g_iload_n C 0 dX11_reports_19 rfl ?_
  obtain ⟨v5, h6, hf⟩ := opt_bind hf
  refine g_callV C (c_X11_fulfilled (l := x_l X) (D := x_D X) (cy := x_y X) (a := a) (thrown := thrown) (g := g) (saved := saved) (hasSaved := hasSaved) (coef := coef) (nodes := nodes) (nodeMany := nodeMany) (isDeep := isDeep) (codes := v3.1) (details := v3.2.1) (levelMany := v3.2.2) (given := given) (paper := paper) (papered := papered) (tape := tape) (taped := taped) (wrongAt := wrongAt) (at_ := at_) (value := value) (readPlace := readPlace) (readValue := readValue) (readEpoch := readEpoch) (p0 := p0) (p1 := v1) h6) (As := [.int p0, .int v1]) (rest := []) (wr := []) (ws' := fun _ => (wM (x_y X) a thrown g saved hasSaved coef nodes nodeMany isDeep v3.1 v3.2.1 v3.2.2 given paper papered tape taped wrongAt at_ value readPlace readValue readEpoch)) (st' := fun _ => [.int v5]) (ci := 12) 2 0 ⟨_, rfl⟩ rfl rfl mw_7_157 mw_1_9 mw_7_154 mw_7_156 mp_50 hd_X11_fulfilled rfl (g_rm hR rfl rfl) [0, 1, 2, 3, 4, 5, 6, 7, 8, 9] [] [0, 1, 2, 3, 4, 5, 6, 7, 8, 9] ⟨rfl, rfl, rfl, rfl, by decide, gRoIn_0, rfl, fun _ => rfl⟩ rfl (Nat.le_of_ble_eq_true rfl) dX11_reports_20 (g_rc hR (Nat.le_of_ble_eq_true rfl) (Nat.le_of_ble_eq_true rfl)) (ck' := 0) (sk' := 0) rfl rfl (fun _ => rfl) (fun _ _ => ?_) (fun _ hx => absurd rfl hx)
  refine g_if_ne C 33 dX11_reports_23 (by decide) (fun c7 => ?_) (fun c7 => ?_)
  · have hf := opt_neg c7 hf
    refine g_aload_n C 1 dX11_reports_33 rfl ?_
    refine g_iload_n C 2 dX11_reports_34 rfl ?_
    refine g_iload_n C 0 dX11_reports_35 rfl ?_
    refine g_iconst C (v := 1) dX11_reports_36 (by decide) ?_
    obtain ⟨v8, h9, hf⟩ := opt_bind hf
    refine g_callV C (c_X11_tellNodes (l := x_l X) (D := x_D X) (cy := x_y X) (a := a) (thrown := thrown) (g := g) (saved := saved) (hasSaved := hasSaved) (coef := coef) (nodes := nodes) (nodeMany := nodeMany) (isDeep := isDeep) (codes := v3.1) (details := v3.2.1) (levelMany := v3.2.2) (given := given) (paper := paper) (papered := papered) (tape := tape) (taped := taped) (wrongAt := wrongAt) (at_ := at_) (value := value) (readPlace := readPlace) (readValue := readValue) (readEpoch := readEpoch) (p0 := p0) (p1 := v1) (p2 := 1) h9) (As := [.int p0, .int v1, .int 1]) (rest := []) (wr := []) (ws' := fun _ => (wM (x_y X) a thrown g saved hasSaved coef v8.1 v8.2 isDeep v3.1 v3.2.1 v3.2.2 given paper papered tape taped wrongAt at_ value readPlace readValue readEpoch)) (st' := fun _ => []) (ci := 12) 3 0 ⟨_, rfl⟩ rfl rfl mw_7_153 mw_1_9 mw_7_150 mw_7_152 mp_49 hd_X11_tellNodes rfl (g_rm hR rfl rfl) [0, 1, 2, 3, 4, 5, 6, 7, 8, 9] [] [0, 1, 2, 3, 4, 5, 6, 7, 8, 9] ⟨rfl, rfl, rfl, rfl, by decide, gRoIn_0, rfl, fun _ => rfl⟩ rfl (Nat.le_of_ble_eq_true rfl) dX11_reports_37 (g_rc hR (Nat.le_of_ble_eq_true rfl) (Nat.le_of_ble_eq_true rfl)) (ck' := 0) (sk' := 0) rfl rfl (fun _ => rfl) (fun _ _ => ?_) (fun _ hx => absurd rfl hx)
    refine g_aload_n C 1 dX11_reports_40 rfl ?_
    refine g_iconst C (v := 3) dX11_reports_41 (by decide) ?_
    refine g_aload_n C 1 dX11_reports_42 rfl ?_
    refine g_iload_n C 2 dX11_reports_43 rfl ?_
    refine g_iconst C (v := 1) dX11_reports_44 (by decide) ?_
    obtain ⟨v10, h11, hf⟩ := opt_bind hf
    refine g_callV C (c_X11_of (l := x_l X) (D := x_D X) (cy := x_y X) (a := a) (thrown := thrown) (g := g) (saved := saved) (hasSaved := hasSaved) (coef := coef) (nodes := v8.1) (nodeMany := v8.2) (isDeep := isDeep) (codes := v3.1) (details := v3.2.1) (levelMany := v3.2.2) (given := given) (paper := paper) (papered := papered) (tape := tape) (taped := taped) (wrongAt := wrongAt) (at_ := at_) (value := value) (readPlace := readPlace) (readValue := readValue) (readEpoch := readEpoch) (p0 := p0) (p1 := 1) h11) (As := [.int p0, .int 1]) (rest := [.int 3, .ref (a 0)]) (wr := []) (ws' := fun _ => (wM (x_y X) a thrown g saved hasSaved coef v8.1 v8.2 isDeep v3.1 v3.2.1 v3.2.2 given paper papered tape taped wrongAt at_ value readPlace readValue readEpoch)) (st' := fun _ => [.int v10, .int 3, .ref (a 0)]) (ci := 12) 2 0 ⟨_, rfl⟩ rfl rfl mw_7_69 mw_1_9 mw_7_66 mw_7_68 mp_35 hd_X11_of rfl (g_rm hR rfl rfl) [0, 1, 2, 3, 4, 5, 6, 7, 8, 9] [] [0, 1, 2, 3, 4, 5, 6, 7, 8, 9] ⟨rfl, rfl, rfl, rfl, by decide, gRoIn_0, rfl, fun _ => rfl⟩ rfl (Nat.le_of_ble_eq_true rfl) dX11_reports_45 (g_rc hR (Nat.le_of_ble_eq_true rfl) (Nat.le_of_ble_eq_true rfl)) (ck' := 0) (sk' := 0) rfl rfl (fun _ => rfl) (fun _ _ => ?_) (fun _ hx => absurd rfl hx)
    refine g_aload_n C 1 dX11_reports_48 rfl ?_
    refine g_get C 0 6 rfl rfl wiX11 (by decide) mw_6_190 rfl rfl dX11_reports_49 ?_
    refine g_isub C dX11_reports_52 ?_
    obtain ⟨v12, h13, hf⟩ := opt_bind hf
    refine g_callV C (c_X11_level (l := x_l X) (D := x_D X) (cy := x_y X) (a := a) (thrown := thrown) (g := g) (saved := saved) (hasSaved := hasSaved) (coef := coef) (nodes := v8.1) (nodeMany := v8.2) (isDeep := isDeep) (codes := v3.1) (details := v3.2.1) (levelMany := v3.2.2) (given := given) (paper := paper) (papered := papered) (tape := tape) (taped := taped) (wrongAt := wrongAt) (at_ := at_) (value := value) (readPlace := readPlace) (readValue := readValue) (readEpoch := readEpoch) (p0 := 3) (p1 := v10 - v8.2) h13) (As := [.int 3, .int (v10 - v8.2)]) (rest := []) (wr := []) (ws' := fun _ => (wM (x_y X) a thrown g saved hasSaved coef v8.1 v8.2 isDeep v12.1 v12.2.1 v12.2.2 given paper papered tape taped wrongAt at_ value readPlace readValue readEpoch)) (st' := fun _ => []) (ci := 12) 2 0 ⟨_, rfl⟩ rfl rfl mw_7_180 mw_1_9 mw_7_177 mw_7_179 mp_55 hd_X11_level rfl (g_rm hR rfl rfl) [0, 1, 2, 3, 4, 5, 6, 7, 8, 9] [] [0, 1, 2, 3, 4, 5, 6, 7, 8, 9] ⟨rfl, rfl, rfl, rfl, by decide, gRoIn_0, rfl, fun _ => rfl⟩ rfl (Nat.le_of_ble_eq_true rfl) dX11_reports_53 (g_rc hR (Nat.le_of_ble_eq_true rfl) (Nat.le_of_ble_eq_true rfl)) (ck' := 0) (sk' := 0) rfl rfl (fun _ => rfl) (fun _ _ => ?_) (fun _ hx => absurd rfl hx)
    refine g_iconst C (v := 1) dX11_reports_56 (by decide) ?_
    refine g_istore C (lv' := [(4, .int 1), (3, .int v1), (0, .ref (a 0)), (1, .int p0), (2, .int p1)]) dX11_reports_57 (g_nlt hn rfl) rfl ?_
    refine gW.locals [2, 3, 4, 1, 0] rfl ?_
    exact H59 1000 v8.1 v8.2 v12.1 v12.2.1 v12.2.2 v1 1 hf
  · have hf := opt_pos c7 hf
    refine g_aload_n C 1 dX11_reports_26 rfl ?_
    refine g_iconst C (v := 2) dX11_reports_27 (by decide) ?_
    refine g_iload_n C 0 dX11_reports_28 rfl ?_
    obtain ⟨v28, h29, hf⟩ := opt_bind hf
    refine g_callV C (c_X11_level (l := x_l X) (D := x_D X) (cy := x_y X) (a := a) (thrown := thrown) (g := g) (saved := saved) (hasSaved := hasSaved) (coef := coef) (nodes := nodes) (nodeMany := nodeMany) (isDeep := isDeep) (codes := v3.1) (details := v3.2.1) (levelMany := v3.2.2) (given := given) (paper := paper) (papered := papered) (tape := tape) (taped := taped) (wrongAt := wrongAt) (at_ := at_) (value := value) (readPlace := readPlace) (readValue := readValue) (readEpoch := readEpoch) (p0 := 2) (p1 := v1) h29) (As := [.int 2, .int v1]) (rest := []) (wr := []) (ws' := fun _ => (wM (x_y X) a thrown g saved hasSaved coef nodes nodeMany isDeep v28.1 v28.2.1 v28.2.2 given paper papered tape taped wrongAt at_ value readPlace readValue readEpoch)) (st' := fun _ => []) (ci := 12) 2 0 ⟨_, rfl⟩ rfl rfl mw_7_180 mw_1_9 mw_7_177 mw_7_179 mp_55 hd_X11_level rfl (g_rm hR rfl rfl) [0, 1, 2, 3, 4, 5, 6, 7, 8, 9] [] [0, 1, 2, 3, 4, 5, 6, 7, 8, 9] ⟨rfl, rfl, rfl, rfl, by decide, gRoIn_0, rfl, fun _ => rfl⟩ rfl (Nat.le_of_ble_eq_true rfl) dX11_reports_29 (g_rc hR (Nat.le_of_ble_eq_true rfl) (Nat.le_of_ble_eq_true rfl)) (ck' := 0) (sk' := 0) rfl rfl (fun _ => rfl) (fun _ _ => ?_) (fun _ hx => absurd rfl hx)
    obtain rfl := Option.some.inj hf
    exact g_vret C E () dX11_reports_32 rfl rfl rfl (Nat.le_of_ble_eq_true rfl) (Nat.le_of_ble_eq_true rfl)
/-! X11_lacksOpen -/
theorem hd_X11_lacksOpen : yX11_lacksOpen.cls ≠ "java/lang/invoke/MethodHandle" ∧ yX11_lacksOpen.cls ≠ "java/lang/invoke/VarHandle" ∧ (parseMethodDescriptor yX11_lacksOpen.desc).map (fun d => d.parameters.length) = some 2 := by decide +kernel
def F_X11_lacksOpen (g : Nat → Int32) (nodes : Nat → Int32) (nodeMany : Int32) (codes : Nat → Int32) (details : Nat → Int32) (levelMany : Int32) (p0 : Int32) (p1 : Int32) : Option (Int32 × (Nat → Int32) × Int32 × (Nat → Int32) × (Nat → Int32) × Int32) := (F_X11_isSlot p0).bind fun v1 => if v1 = 0 then (some (1, nodes, nodeMany, codes, details, levelMany)) else ((F_X11_isSet p1).bind fun v4 => if v4 = 0 then (some (2, nodes, nodeMany, codes, details, levelMany)) else ((F_X11_of g p0 0).bind fun v7 => if v7 = 0 then (some (3, nodes, nodeMany, codes, details, levelMany)) else ((F_X11_opens g nodes nodeMany p0 p1).bind fun v10 => if v10.1 = 0 then ((F_X11_reports g v10.2.1 v10.2.2 codes details levelMany p0 p1).bind fun v13 => some (4, v13.1, v13.2.1, v13.2.2.1, v13.2.2.2.1, v13.2.2.2.2)) else (some (0, v10.2.1, v10.2.2, codes, details, levelMany)))))
set_option maxRecDepth 100000 in
set_option maxHeartbeats 4000000 in
theorem c_X11_lacksOpen {l : Launch} {D : va_G} {cy : Nat → ClassId} {a : Nat → Nat} {thrown : Int32} {g : Nat → Int32} {saved : Nat → Int32} {hasSaved : Int32} {coef : Nat → Int32} {nodes : Nat → Int32} {nodeMany : Int32} {isDeep : Int32} {codes : Nat → Int32} {details : Nat → Int32} {levelMany : Int32} {given : Nat → Int32} {paper : Nat → Int32} {papered : Int32} {tape : Nat → Int32} {taped : Int32} {wrongAt : Int32} {at_ : Int32} {value : Int32} {readPlace : Int32} {readValue : Int32} {readEpoch : Int32} {p0 : Int32} {p1 : Int32}  {val : Int32 × (Nat → Int32) × Int32 × (Nat → Int32) × (Nat → Int32) × Int32} (hf : F_X11_lacksOpen g nodes nodeMany codes details levelMany p0 p1 = some val) : gCt l D cy yX11_lacksOpen cX11_lacksOpen 3 (some .int) 73 2496 0 0 [.ref (a 0), .int p0, .int p1] [] ((wM cy a thrown g saved hasSaved coef nodes nodeMany isDeep codes details levelMany given paper papered tape taped wrongAt at_ value readPlace readValue readEpoch)) 0 (fun _ : Unit => some (.int val.1)) (fun _ => (wM cy a thrown g saved hasSaved coef val.2.1 val.2.2.1 isDeep val.2.2.2.1 val.2.2.2.2.1 val.2.2.2.2.2 given paper papered tape taped wrongAt at_ value readPlace readValue readEpoch)) := by
  refine g_begin (by decide +kernel) (Nat.le_of_ble_eq_true rfl) ?_
  intro X Q hl hR hD hy hro hn C hin E
  subst hl; subst hD; subst hy
  replace C : gC X "SecretVaultModel" cX11_lacksOpen (some .int) := C
  unfold F_X11_lacksOpen at hf
  show gW X Q 0 0 ((wM (x_y X) a thrown g saved hasSaved coef nodes nodeMany isDeep codes details levelMany given paper papered tape taped wrongAt at_ value readPlace readValue readEpoch)) [(0, .ref (a 0)), (1, .int p0), (2, .int p1)] [] 0
  refine g_iload_n C 1 dX11_lacksOpen_0 rfl ?_
  obtain ⟨v1, h2, hf⟩ := opt_bind hf
  refine g_callS C (c_X11_isSlot (l := x_l X) (D := x_D X) (cy := x_y X) (p0 := p0) h2) (As := [.int p0]) (rest := []) (wr := (wM (x_y X) a thrown g saved hasSaved coef nodes nodeMany isDeep codes details levelMany given paper papered tape taped wrongAt at_ value readPlace readValue readEpoch)) (ws' := fun _ => (wM (x_y X) a thrown g saved hasSaved coef nodes nodeMany isDeep codes details levelMany given paper papered tape taped wrongAt at_ value readPlace readValue readEpoch)) (st' := fun _ => [.int v1]) 1 mw_7_83 mw_1_9 mw_7_81 mw_7_82 hd_X11_isSlot rfl (g_rm hR rfl rfl) [] [0, 1, 2, 3, 4, 5, 6, 7, 8, 9] [0, 1, 2, 3, 4, 5, 6, 7, 8, 9] ⟨rfl, rfl, rfl, rfl, by decide, gRoIn_0, rfl, fun _ => rfl⟩ rfl (Nat.le_of_ble_eq_true rfl) dX11_lacksOpen_1 (g_rc hR (Nat.le_of_ble_eq_true rfl) (Nat.le_of_ble_eq_true rfl)) (ck' := 0) (sk' := 0) rfl rfl (fun _ => rfl) (fun _ _ => ?_) (fun _ hx => absurd rfl hx)
  refine g_if_ne C 9 dX11_lacksOpen_4 (by decide) (fun c3 => ?_) (fun c3 => ?_)
  · have hf := opt_neg c3 hf
    refine g_iload_n C 2 dX11_lacksOpen_9 rfl ?_
    obtain ⟨v4, h5, hf⟩ := opt_bind hf
    refine g_callS C (c_X11_isSet (l := x_l X) (D := x_D X) (cy := x_y X) (p0 := p1) h5) (As := [.int p1]) (rest := []) (wr := (wM (x_y X) a thrown g saved hasSaved coef nodes nodeMany isDeep codes details levelMany given paper papered tape taped wrongAt at_ value readPlace readValue readEpoch)) (ws' := fun _ => (wM (x_y X) a thrown g saved hasSaved coef nodes nodeMany isDeep codes details levelMany given paper papered tape taped wrongAt at_ value readPlace readValue readEpoch)) (st' := fun _ => [.int v4]) 1 mw_7_137 mw_1_9 mw_7_135 mw_7_136 hd_X11_isSet rfl (g_rm hR rfl rfl) [] [0, 1, 2, 3, 4, 5, 6, 7, 8, 9] [0, 1, 2, 3, 4, 5, 6, 7, 8, 9] ⟨rfl, rfl, rfl, rfl, by decide, gRoIn_0, rfl, fun _ => rfl⟩ rfl (Nat.le_of_ble_eq_true rfl) dX11_lacksOpen_10 (g_rc hR (Nat.le_of_ble_eq_true rfl) (Nat.le_of_ble_eq_true rfl)) (ck' := 0) (sk' := 0) rfl rfl (fun _ => rfl) (fun _ _ => ?_) (fun _ hx => absurd rfl hx)
    refine g_if_ne C 18 dX11_lacksOpen_13 (by decide) (fun c6 => ?_) (fun c6 => ?_)
    · have hf := opt_neg c6 hf
      refine g_aload_n C 0 dX11_lacksOpen_18 rfl ?_
      refine g_iload_n C 1 dX11_lacksOpen_19 rfl ?_
      refine g_iconst C (v := 0) dX11_lacksOpen_20 (by decide) ?_
      obtain ⟨v7, h8, hf⟩ := opt_bind hf
      refine g_callV C (c_X11_of (l := x_l X) (D := x_D X) (cy := x_y X) (a := a) (thrown := thrown) (g := g) (saved := saved) (hasSaved := hasSaved) (coef := coef) (nodes := nodes) (nodeMany := nodeMany) (isDeep := isDeep) (codes := codes) (details := details) (levelMany := levelMany) (given := given) (paper := paper) (papered := papered) (tape := tape) (taped := taped) (wrongAt := wrongAt) (at_ := at_) (value := value) (readPlace := readPlace) (readValue := readValue) (readEpoch := readEpoch) (p0 := p0) (p1 := 0) h8) (As := [.int p0, .int 0]) (rest := []) (wr := []) (ws' := fun _ => (wM (x_y X) a thrown g saved hasSaved coef nodes nodeMany isDeep codes details levelMany given paper papered tape taped wrongAt at_ value readPlace readValue readEpoch)) (st' := fun _ => [.int v7]) (ci := 12) 2 0 ⟨_, rfl⟩ rfl rfl mw_7_69 mw_1_9 mw_7_66 mw_7_68 mp_35 hd_X11_of rfl (g_rm hR rfl rfl) [0, 1, 2, 3, 4, 5, 6, 7, 8, 9] [] [0, 1, 2, 3, 4, 5, 6, 7, 8, 9] ⟨rfl, rfl, rfl, rfl, by decide, gRoIn_0, rfl, fun _ => rfl⟩ rfl (Nat.le_of_ble_eq_true rfl) dX11_lacksOpen_21 (g_rc hR (Nat.le_of_ble_eq_true rfl) (Nat.le_of_ble_eq_true rfl)) (ck' := 0) (sk' := 0) rfl rfl (fun _ => rfl) (fun _ _ => ?_) (fun _ hx => absurd rfl hx)
      refine g_if_ne C 29 dX11_lacksOpen_24 (by decide) (fun c9 => ?_) (fun c9 => ?_)
      · have hf := opt_neg c9 hf
        refine g_aload_n C 0 dX11_lacksOpen_29 rfl ?_
        refine g_iload_n C 1 dX11_lacksOpen_30 rfl ?_
        refine g_iload_n C 2 dX11_lacksOpen_31 rfl ?_
        obtain ⟨v10, h11, hf⟩ := opt_bind hf
        refine g_callV C (c_X11_opens (l := x_l X) (D := x_D X) (cy := x_y X) (a := a) (thrown := thrown) (g := g) (saved := saved) (hasSaved := hasSaved) (coef := coef) (nodes := nodes) (nodeMany := nodeMany) (isDeep := isDeep) (codes := codes) (details := details) (levelMany := levelMany) (given := given) (paper := paper) (papered := papered) (tape := tape) (taped := taped) (wrongAt := wrongAt) (at_ := at_) (value := value) (readPlace := readPlace) (readValue := readValue) (readEpoch := readEpoch) (p0 := p0) (p1 := p1) h11) (As := [.int p0, .int p1]) (rest := []) (wr := []) (ws' := fun _ => (wM (x_y X) a thrown g saved hasSaved coef v10.2.1 v10.2.2 isDeep codes details levelMany given paper papered tape taped wrongAt at_ value readPlace readValue readEpoch)) (st' := fun _ => [.int v10.1]) (ci := 12) 2 0 ⟨_, rfl⟩ rfl rfl mw_7_145 mw_1_9 mw_7_142 mw_7_144 mp_47 hd_X11_opens rfl (g_rm hR rfl rfl) [0, 1, 2, 3, 4, 5, 6, 7, 8, 9] [] [0, 1, 2, 3, 4, 5, 6, 7, 8, 9] ⟨rfl, rfl, rfl, rfl, by decide, gRoIn_0, rfl, fun _ => rfl⟩ rfl (Nat.le_of_ble_eq_true rfl) dX11_lacksOpen_32 (g_rc hR (Nat.le_of_ble_eq_true rfl) (Nat.le_of_ble_eq_true rfl)) (ck' := 0) (sk' := 0) rfl rfl (fun _ => rfl) (fun _ _ => ?_) (fun _ hx => absurd rfl hx)
        refine g_if_ne C 46 dX11_lacksOpen_35 (by decide) (fun c12 => ?_) (fun c12 => ?_)
        · have hf := opt_neg c12 hf
          refine g_iconst C (v := 0) dX11_lacksOpen_46 (by decide) ?_
          obtain rfl := Option.some.inj hf
          exact g_iret C E () dX11_lacksOpen_47 rfl rfl rfl (Nat.le_of_ble_eq_true rfl) (Nat.le_of_ble_eq_true rfl)
        · have hf := opt_pos c12 hf
          refine g_aload_n C 0 dX11_lacksOpen_38 rfl ?_
          refine g_iload_n C 1 dX11_lacksOpen_39 rfl ?_
          refine g_iload_n C 2 dX11_lacksOpen_40 rfl ?_
          obtain ⟨v13, h14, hf⟩ := opt_bind hf
          refine g_callV C (c_X11_reports (l := x_l X) (D := x_D X) (cy := x_y X) (a := a) (thrown := thrown) (g := g) (saved := saved) (hasSaved := hasSaved) (coef := coef) (nodes := v10.2.1) (nodeMany := v10.2.2) (isDeep := isDeep) (codes := codes) (details := details) (levelMany := levelMany) (given := given) (paper := paper) (papered := papered) (tape := tape) (taped := taped) (wrongAt := wrongAt) (at_ := at_) (value := value) (readPlace := readPlace) (readValue := readValue) (readEpoch := readEpoch) (p0 := p0) (p1 := p1) h14) (As := [.int p0, .int p1]) (rest := []) (wr := []) (ws' := fun _ => (wM (x_y X) a thrown g saved hasSaved coef v13.1 v13.2.1 isDeep v13.2.2.1 v13.2.2.2.1 v13.2.2.2.2 given paper papered tape taped wrongAt at_ value readPlace readValue readEpoch)) (st' := fun _ => []) (ci := 12) 2 0 ⟨_, rfl⟩ rfl rfl mw_7_176 mw_1_9 mw_7_173 mw_7_175 mp_54 hd_X11_reports rfl (g_rm hR rfl rfl) [0, 1, 2, 3, 4, 5, 6, 7, 8, 9] [] [0, 1, 2, 3, 4, 5, 6, 7, 8, 9] ⟨rfl, rfl, rfl, rfl, by decide, gRoIn_0, rfl, fun _ => rfl⟩ rfl (Nat.le_of_ble_eq_true rfl) dX11_lacksOpen_41 (g_rc hR (Nat.le_of_ble_eq_true rfl) (Nat.le_of_ble_eq_true rfl)) (ck' := 0) (sk' := 0) rfl rfl (fun _ => rfl) (fun _ _ => ?_) (fun _ hx => absurd rfl hx)
          refine g_iconst C (v := 4) dX11_lacksOpen_44 (by decide) ?_
          obtain rfl := Option.some.inj hf
          exact g_iret C E () dX11_lacksOpen_45 rfl rfl rfl (Nat.le_of_ble_eq_true rfl) (Nat.le_of_ble_eq_true rfl)
      · have hf := opt_pos c9 hf
        refine g_iconst C (v := 3) dX11_lacksOpen_27 (by decide) ?_
        obtain rfl := Option.some.inj hf
        exact g_iret C E () dX11_lacksOpen_28 rfl rfl rfl (Nat.le_of_ble_eq_true rfl) (Nat.le_of_ble_eq_true rfl)
    · have hf := opt_pos c6 hf
      refine g_iconst C (v := 2) dX11_lacksOpen_16 (by decide) ?_
      obtain rfl := Option.some.inj hf
      exact g_iret C E () dX11_lacksOpen_17 rfl rfl rfl (Nat.le_of_ble_eq_true rfl) (Nat.le_of_ble_eq_true rfl)
  · have hf := opt_pos c3 hf
    refine g_iconst C (v := 1) dX11_lacksOpen_7 (by decide) ?_
    obtain rfl := Option.some.inj hf
    exact g_iret C E () dX11_lacksOpen_8 rfl rfl rfl (Nat.le_of_ble_eq_true rfl) (Nat.le_of_ble_eq_true rfl)
/-! X11_reshare -/
theorem hd_X11_reshare : yX11_reshare.cls ≠ "java/lang/invoke/MethodHandle" ∧ yX11_reshare.cls ≠ "java/lang/invoke/VarHandle" ∧ (parseMethodDescriptor yX11_reshare.desc).map (fun d => d.parameters.length) = some 3 := by decide +kernel
def F_X11_reshare_L30   (thrown_30 : Int32) (g_30 : Nat → Int32) (coef_30 : Nat → Int32) (nodes_30 : Nat → Int32) (nodeMany_30 : Int32) (codes_30 : Nat → Int32) (details_30 : Nat → Int32) (levelMany_30 : Int32) : Option (Int32 × Int32 × (Nat → Int32) × (Nat → Int32) × (Nat → Int32) × Int32 × (Nat → Int32) × (Nat → Int32) × Int32) := (F_X11_fails thrown_30 2).bind fun v7 => some (v7.1, v7.2, g_30, coef_30, nodes_30, nodeMany_30, codes_30, details_30, levelMany_30)
def F_X11_reshare (thrown : Int32) (g : Nat → Int32) (coef : Nat → Int32) (nodes : Nat → Int32) (nodeMany : Int32) (codes : Nat → Int32) (details : Nat → Int32) (levelMany : Int32) (p0 : Int32) (p1 : Int32) (p2 : Int32) : Option (Int32 × Int32 × (Nat → Int32) × (Nat → Int32) × (Nat → Int32) × Int32 × (Nat → Int32) × (Nat → Int32) × Int32) := (F_X11_isSlot p0).bind fun v1 => if v1 = 0 then ((F_X11_fails thrown 1).bind fun v34 => some (v34.1, v34.2, g, coef, nodes, nodeMany, codes, details, levelMany)) else ((F_X11_isSet p1).bind fun v4 => if v4 = 0 then (F_X11_reshare_L30 thrown g coef nodes nodeMany codes details levelMany) else ((F_X11_in p2 1 8).bind fun v9 => if v9 = 0 then (F_X11_reshare_L30 thrown g coef nodes nodeMany codes details levelMany) else ((F_X11_lacksOpen g nodes nodeMany codes details levelMany p0 p1).bind fun v12 => if v12.1 = 0 then ((F_X11_usedPlaces g).bind fun v15 => if p2 ≤ v15 then ((F_X11_of g p0 1).bind fun v18 => (F_X11_valueAt g v12.2.1 p0 v18 0).bind fun v20 => (F_X11_of g p0 2).bind fun v22 => (F_X11_deals g coef p0 v20 p2 (v22 + 1)).bind fun v24 => (F_X11_happens v24.2.1 ((400 : Int32) + p0)).bind fun v26 => (F_X11_done thrown v24.1).bind fun v28 => some (v28.1, v28.2, v26, v24.2.2, v12.2.1, v12.2.2.1, v12.2.2.2.1, v12.2.2.2.2.1, v12.2.2.2.2.2)) else ((F_X11_fails thrown 5).bind fun v30 => some (v30.1, v30.2, g, coef, v12.2.1, v12.2.2.1, v12.2.2.2.1, v12.2.2.2.2.1, v12.2.2.2.2.2))) else ((F_X11_fails thrown v12.1).bind fun v32 => some (v32.1, v32.2, g, coef, v12.2.1, v12.2.2.1, v12.2.2.2.1, v12.2.2.2.2.1, v12.2.2.2.2.2)))))
set_option maxRecDepth 100000 in
set_option maxHeartbeats 4000000 in
theorem c_X11_reshare {l : Launch} {D : va_G} {cy : Nat → ClassId} {a : Nat → Nat} {thrown : Int32} {g : Nat → Int32} {saved : Nat → Int32} {hasSaved : Int32} {coef : Nat → Int32} {nodes : Nat → Int32} {nodeMany : Int32} {isDeep : Int32} {codes : Nat → Int32} {details : Nat → Int32} {levelMany : Int32} {given : Nat → Int32} {paper : Nat → Int32} {papered : Int32} {tape : Nat → Int32} {taped : Int32} {wrongAt : Int32} {at_ : Int32} {value : Int32} {readPlace : Int32} {readValue : Int32} {readEpoch : Int32} {p0 : Int32} {p1 : Int32} {p2 : Int32}  {val : Int32 × Int32 × (Nat → Int32) × (Nat → Int32) × (Nat → Int32) × Int32 × (Nat → Int32) × (Nat → Int32) × Int32} (hf : F_X11_reshare thrown g coef nodes nodeMany codes details levelMany p0 p1 p2 = some val) : gCt l D cy yX11_reshare cX11_reshare 6 (some .int) 74 2518 0 0 [.ref (a 0), .int p0, .int p1, .int p2] [] ((wM cy a thrown g saved hasSaved coef nodes nodeMany isDeep codes details levelMany given paper papered tape taped wrongAt at_ value readPlace readValue readEpoch)) 0 (fun _ : Unit => some (.int val.1)) (fun _ => (wM cy a val.2.1 val.2.2.1 saved hasSaved val.2.2.2.1 val.2.2.2.2.1 val.2.2.2.2.2.1 isDeep val.2.2.2.2.2.2.1 val.2.2.2.2.2.2.2.1 val.2.2.2.2.2.2.2.2 given paper papered tape taped wrongAt at_ value readPlace readValue readEpoch)) := by
  refine g_begin (by decide +kernel) (Nat.le_of_ble_eq_true rfl) ?_
  intro X Q hl hR hD hy hro hn C hin E
  subst hl; subst hD; subst hy
  replace C : gC X "SecretVaultModel" cX11_reshare (some .int) := C
  unfold F_X11_reshare at hf
  have H30 : ∀ (thrown_30 : Int32) (g_30 : Nat → Int32) (coef_30 : Nat → Int32) (nodes_30 : Nat → Int32) (nodeMany_30 : Int32) (codes_30 : Nat → Int32) (details_30 : Nat → Int32) (levelMany_30 : Int32), F_X11_reshare_L30 thrown_30 g_30 coef_30 nodes_30 nodeMany_30 codes_30 details_30 levelMany_30 = some val → gW X Q 0 0 ((wM (x_y X) a thrown_30 g_30 saved hasSaved coef_30 nodes_30 nodeMany_30 isDeep codes_30 details_30 levelMany_30 given paper papered tape taped wrongAt at_ value readPlace readValue readEpoch)) [(0, .ref (a 0)), (1, .int p0), (2, .int p1), (3, .int p2)] [] 30 := by
    intro thrown_30 g_30 coef_30 nodes_30 nodeMany_30 codes_30 details_30 levelMany_30 hf
    unfold F_X11_reshare_L30 at hf
    refine g_aload_n C 0 dX11_reshare_30 rfl ?_
    refine g_iconst C (v := 2) dX11_reshare_31 (by decide) ?_
    obtain ⟨v7, h8, hf⟩ := opt_bind hf
    refine g_callV C (c_X11_fails (l := x_l X) (D := x_D X) (cy := x_y X) (a := a) (thrown := thrown_30) (g := g_30) (saved := saved) (hasSaved := hasSaved) (coef := coef_30) (nodes := nodes_30) (nodeMany := nodeMany_30) (isDeep := isDeep) (codes := codes_30) (details := details_30) (levelMany := levelMany_30) (given := given) (paper := paper) (papered := papered) (tape := tape) (taped := taped) (wrongAt := wrongAt) (at_ := at_) (value := value) (readPlace := readPlace) (readValue := readValue) (readEpoch := readEpoch) (p0 := 2) h8) (As := [.int 2]) (rest := []) (wr := []) (ws' := fun _ => (wM (x_y X) a v7.2 g_30 saved hasSaved coef_30 nodes_30 nodeMany_30 isDeep codes_30 details_30 levelMany_30 given paper papered tape taped wrongAt at_ value readPlace readValue readEpoch)) (st' := fun _ => [.int v7.1]) (ci := 12) 1 0 ⟨_, rfl⟩ rfl rfl mw_7_45 mw_1_9 mw_7_42 mw_7_44 mp_31 hd_X11_fails rfl (g_rm hR rfl rfl) [0, 1, 2, 3, 4, 5, 6, 7, 8, 9] [] [0, 1, 2, 3, 4, 5, 6, 7, 8, 9] ⟨rfl, rfl, rfl, rfl, by decide, gRoIn_0, rfl, fun _ => rfl⟩ rfl (Nat.le_of_ble_eq_true rfl) dX11_reshare_32 (g_rc hR (Nat.le_of_ble_eq_true rfl) (Nat.le_of_ble_eq_true rfl)) (ck' := 0) (sk' := 0) rfl rfl (fun _ => rfl) (fun _ _ => ?_) (fun _ hx => absurd rfl hx)
    obtain rfl := Option.some.inj hf
    exact g_iret C E () dX11_reshare_35 rfl rfl rfl (Nat.le_of_ble_eq_true rfl) (Nat.le_of_ble_eq_true rfl)
  show gW X Q 0 0 ((wM (x_y X) a thrown g saved hasSaved coef nodes nodeMany isDeep codes details levelMany given paper papered tape taped wrongAt at_ value readPlace readValue readEpoch)) [(0, .ref (a 0)), (1, .int p0), (2, .int p1), (3, .int p2)] [] 0
  refine g_iload_n C 1 dX11_reshare_0 rfl ?_
  obtain ⟨v1, h2, hf⟩ := opt_bind hf
  refine g_callS C (c_X11_isSlot (l := x_l X) (D := x_D X) (cy := x_y X) (p0 := p0) h2) (As := [.int p0]) (rest := []) (wr := (wM (x_y X) a thrown g saved hasSaved coef nodes nodeMany isDeep codes details levelMany given paper papered tape taped wrongAt at_ value readPlace readValue readEpoch)) (ws' := fun _ => (wM (x_y X) a thrown g saved hasSaved coef nodes nodeMany isDeep codes details levelMany given paper papered tape taped wrongAt at_ value readPlace readValue readEpoch)) (st' := fun _ => [.int v1]) 1 mw_7_83 mw_1_9 mw_7_81 mw_7_82 hd_X11_isSlot rfl (g_rm hR rfl rfl) [] [0, 1, 2, 3, 4, 5, 6, 7, 8, 9] [0, 1, 2, 3, 4, 5, 6, 7, 8, 9] ⟨rfl, rfl, rfl, rfl, by decide, gRoIn_0, rfl, fun _ => rfl⟩ rfl (Nat.le_of_ble_eq_true rfl) dX11_reshare_1 (g_rc hR (Nat.le_of_ble_eq_true rfl) (Nat.le_of_ble_eq_true rfl)) (ck' := 0) (sk' := 0) rfl rfl (fun _ => rfl) (fun _ _ => ?_) (fun _ hx => absurd rfl hx)
  refine g_if_ne C 13 dX11_reshare_4 (by decide) (fun c3 => ?_) (fun c3 => ?_)
  · have hf := opt_neg c3 hf
    refine g_iload_n C 2 dX11_reshare_13 rfl ?_
    obtain ⟨v4, h5, hf⟩ := opt_bind hf
    refine g_callS C (c_X11_isSet (l := x_l X) (D := x_D X) (cy := x_y X) (p0 := p1) h5) (As := [.int p1]) (rest := []) (wr := (wM (x_y X) a thrown g saved hasSaved coef nodes nodeMany isDeep codes details levelMany given paper papered tape taped wrongAt at_ value readPlace readValue readEpoch)) (ws' := fun _ => (wM (x_y X) a thrown g saved hasSaved coef nodes nodeMany isDeep codes details levelMany given paper papered tape taped wrongAt at_ value readPlace readValue readEpoch)) (st' := fun _ => [.int v4]) 1 mw_7_137 mw_1_9 mw_7_135 mw_7_136 hd_X11_isSet rfl (g_rm hR rfl rfl) [] [0, 1, 2, 3, 4, 5, 6, 7, 8, 9] [0, 1, 2, 3, 4, 5, 6, 7, 8, 9] ⟨rfl, rfl, rfl, rfl, by decide, gRoIn_0, rfl, fun _ => rfl⟩ rfl (Nat.le_of_ble_eq_true rfl) dX11_reshare_14 (g_rc hR (Nat.le_of_ble_eq_true rfl) (Nat.le_of_ble_eq_true rfl)) (ck' := 0) (sk' := 0) rfl rfl (fun _ => rfl) (fun _ _ => ?_) (fun _ hx => absurd rfl hx)
    refine g_if_eq C 30 dX11_reshare_17 (by decide) (fun c6 => ?_) (fun c6 => ?_)
    · have hf := opt_pos c6 hf
      exact H30 thrown g coef nodes nodeMany codes details levelMany hf
    · have hf := opt_neg c6 hf
      refine g_iload_n C 3 dX11_reshare_20 rfl ?_
      refine g_iconst C (v := 1) dX11_reshare_21 (by decide) ?_
      refine g_bipush C (v := 8) dX11_reshare_22 (by decide) ?_
      obtain ⟨v9, h10, hf⟩ := opt_bind hf
      refine g_callS C (c_X11_in (l := x_l X) (D := x_D X) (cy := x_y X) (p0 := p2) (p1 := 1) (p2 := 8) h10) (As := [.int p2, .int 1, .int 8]) (rest := []) (wr := (wM (x_y X) a thrown g saved hasSaved coef nodes nodeMany isDeep codes details levelMany given paper papered tape taped wrongAt at_ value readPlace readValue readEpoch)) (ws' := fun _ => (wM (x_y X) a thrown g saved hasSaved coef nodes nodeMany isDeep codes details levelMany given paper papered tape taped wrongAt at_ value readPlace readValue readEpoch)) (st' := fun _ => [.int v9]) 3 mw_7_41 mw_1_9 mw_7_39 mw_7_40 hd_X11_in rfl (g_rm hR rfl rfl) [] [0, 1, 2, 3, 4, 5, 6, 7, 8, 9] [0, 1, 2, 3, 4, 5, 6, 7, 8, 9] ⟨rfl, rfl, rfl, rfl, by decide, gRoIn_0, rfl, fun _ => rfl⟩ rfl (Nat.le_of_ble_eq_true rfl) dX11_reshare_24 (g_rc hR (Nat.le_of_ble_eq_true rfl) (Nat.le_of_ble_eq_true rfl)) (ck' := 0) (sk' := 0) rfl rfl (fun _ => rfl) (fun _ _ => ?_) (fun _ hx => absurd rfl hx)
      refine g_if_ne C 36 dX11_reshare_27 (by decide) (fun c11 => ?_) (fun c11 => ?_)
      · have hf := opt_neg c11 hf
        refine g_aload_n C 0 dX11_reshare_36 rfl ?_
        refine g_iload_n C 1 dX11_reshare_37 rfl ?_
        refine g_iload_n C 2 dX11_reshare_38 rfl ?_
        obtain ⟨v12, h13, hf⟩ := opt_bind hf
        refine g_callV C (c_X11_lacksOpen (l := x_l X) (D := x_D X) (cy := x_y X) (a := a) (thrown := thrown) (g := g) (saved := saved) (hasSaved := hasSaved) (coef := coef) (nodes := nodes) (nodeMany := nodeMany) (isDeep := isDeep) (codes := codes) (details := details) (levelMany := levelMany) (given := given) (paper := paper) (papered := papered) (tape := tape) (taped := taped) (wrongAt := wrongAt) (at_ := at_) (value := value) (readPlace := readPlace) (readValue := readValue) (readEpoch := readEpoch) (p0 := p0) (p1 := p1) h13) (As := [.int p0, .int p1]) (rest := []) (wr := []) (ws' := fun _ => (wM (x_y X) a thrown g saved hasSaved coef v12.2.1 v12.2.2.1 isDeep v12.2.2.2.1 v12.2.2.2.2.1 v12.2.2.2.2.2 given paper papered tape taped wrongAt at_ value readPlace readValue readEpoch)) (st' := fun _ => [.int v12.1]) (ci := 12) 2 0 ⟨_, rfl⟩ rfl rfl mw_7_141 mw_1_9 mw_7_138 mw_7_140 mp_46 hd_X11_lacksOpen rfl (g_rm hR rfl rfl) [0, 1, 2, 3, 4, 5, 6, 7, 8, 9] [] [0, 1, 2, 3, 4, 5, 6, 7, 8, 9] ⟨rfl, rfl, rfl, rfl, by decide, gRoIn_0, rfl, fun _ => rfl⟩ rfl (Nat.le_of_ble_eq_true rfl) dX11_reshare_39 (g_rc hR (Nat.le_of_ble_eq_true rfl) (Nat.le_of_ble_eq_true rfl)) (ck' := 0) (sk' := 0) rfl rfl (fun _ => rfl) (fun _ _ => ?_) (fun _ hx => absurd rfl hx)
        refine g_istore C (lv' := [(4, .int v12.1), (0, .ref (a 0)), (1, .int p0), (2, .int p1), (3, .int p2)]) dX11_reshare_42 (g_nlt hn rfl) rfl ?_
        refine g_iload C 0 dX11_reshare_44 rfl ?_
        refine g_if_eq C 56 dX11_reshare_46 (by decide) (fun c14 => ?_) (fun c14 => ?_)
        · have hf := opt_pos c14 hf
          refine g_aload_n C 1 dX11_reshare_56 rfl ?_
          obtain ⟨v15, h16, hf⟩ := opt_bind hf
          refine g_callV C (c_X11_usedPlaces (l := x_l X) (D := x_D X) (cy := x_y X) (a := a) (thrown := thrown) (g := g) (saved := saved) (hasSaved := hasSaved) (coef := coef) (nodes := v12.2.1) (nodeMany := v12.2.2.1) (isDeep := isDeep) (codes := v12.2.2.2.1) (details := v12.2.2.2.2.1) (levelMany := v12.2.2.2.2.2) (given := given) (paper := paper) (papered := papered) (tape := tape) (taped := taped) (wrongAt := wrongAt) (at_ := at_) (value := value) (readPlace := readPlace) (readValue := readValue) (readEpoch := readEpoch) h16) (As := []) (rest := []) (wr := []) (ws' := fun _ => (wM (x_y X) a thrown g saved hasSaved coef v12.2.1 v12.2.2.1 isDeep v12.2.2.2.1 v12.2.2.2.2.1 v12.2.2.2.2.2 given paper papered tape taped wrongAt at_ value readPlace readValue readEpoch)) (st' := fun _ => [.int v15]) (ci := 12) 0 0 ⟨_, rfl⟩ rfl rfl mw_7_87 mw_1_9 mw_7_84 mw_7_86 mp_37 hd_X11_usedPlaces rfl (g_rm hR rfl rfl) [0, 1, 2, 3, 4, 5, 6, 7, 8, 9] [] [0, 1, 2, 3, 4, 5, 6, 7, 8, 9] ⟨rfl, rfl, rfl, rfl, by decide, gRoIn_0, rfl, fun _ => rfl⟩ rfl (Nat.le_of_ble_eq_true rfl) dX11_reshare_57 (g_rc hR (Nat.le_of_ble_eq_true rfl) (Nat.le_of_ble_eq_true rfl)) (ck' := 0) (sk' := 0) rfl rfl (fun _ => rfl) (fun _ _ => ?_) (fun _ hx => absurd rfl hx)
          refine g_iload_n C 4 dX11_reshare_60 rfl ?_
          refine g_icmp_ge C 70 dX11_reshare_61 (by decide) (fun c17 => ?_) (fun c17 => ?_)
          · have hf := opt_pos c17 hf
            refine g_aload_n C 1 dX11_reshare_70 rfl ?_
            refine g_iload_n C 2 dX11_reshare_71 rfl ?_
            refine g_aload_n C 1 dX11_reshare_72 rfl ?_
            refine g_iload_n C 2 dX11_reshare_73 rfl ?_
            refine g_aload_n C 1 dX11_reshare_74 rfl ?_
            refine g_iload_n C 2 dX11_reshare_75 rfl ?_
            refine g_iconst C (v := 1) dX11_reshare_76 (by decide) ?_
            obtain ⟨v18, h19, hf⟩ := opt_bind hf
            refine g_callV C (c_X11_of (l := x_l X) (D := x_D X) (cy := x_y X) (a := a) (thrown := thrown) (g := g) (saved := saved) (hasSaved := hasSaved) (coef := coef) (nodes := v12.2.1) (nodeMany := v12.2.2.1) (isDeep := isDeep) (codes := v12.2.2.2.1) (details := v12.2.2.2.2.1) (levelMany := v12.2.2.2.2.2) (given := given) (paper := paper) (papered := papered) (tape := tape) (taped := taped) (wrongAt := wrongAt) (at_ := at_) (value := value) (readPlace := readPlace) (readValue := readValue) (readEpoch := readEpoch) (p0 := p0) (p1 := 1) h19) (As := [.int p0, .int 1]) (rest := [.int p0, .ref (a 0), .int p0, .ref (a 0)]) (wr := []) (ws' := fun _ => (wM (x_y X) a thrown g saved hasSaved coef v12.2.1 v12.2.2.1 isDeep v12.2.2.2.1 v12.2.2.2.2.1 v12.2.2.2.2.2 given paper papered tape taped wrongAt at_ value readPlace readValue readEpoch)) (st' := fun _ => [.int v18, .int p0, .ref (a 0), .int p0, .ref (a 0)]) (ci := 12) 2 0 ⟨_, rfl⟩ rfl rfl mw_7_69 mw_1_9 mw_7_66 mw_7_68 mp_35 hd_X11_of rfl (g_rm hR rfl rfl) [0, 1, 2, 3, 4, 5, 6, 7, 8, 9] [] [0, 1, 2, 3, 4, 5, 6, 7, 8, 9] ⟨rfl, rfl, rfl, rfl, by decide, gRoIn_0, rfl, fun _ => rfl⟩ rfl (Nat.le_of_ble_eq_true rfl) dX11_reshare_77 (g_rc hR (Nat.le_of_ble_eq_true rfl) (Nat.le_of_ble_eq_true rfl)) (ck' := 0) (sk' := 0) rfl rfl (fun _ => rfl) (fun _ _ => ?_) (fun _ hx => absurd rfl hx)
            refine g_iconst C (v := 0) dX11_reshare_80 (by decide) ?_
            obtain ⟨v20, h21, hf⟩ := opt_bind hf
            refine g_callV C (c_X11_valueAt (l := x_l X) (D := x_D X) (cy := x_y X) (a := a) (thrown := thrown) (g := g) (saved := saved) (hasSaved := hasSaved) (coef := coef) (nodes := v12.2.1) (nodeMany := v12.2.2.1) (isDeep := isDeep) (codes := v12.2.2.2.1) (details := v12.2.2.2.2.1) (levelMany := v12.2.2.2.2.2) (given := given) (paper := paper) (papered := papered) (tape := tape) (taped := taped) (wrongAt := wrongAt) (at_ := at_) (value := value) (readPlace := readPlace) (readValue := readValue) (readEpoch := readEpoch) (p0 := p0) (p1 := v18) (p2 := 0) h21) (As := [.int p0, .int v18, .int 0]) (rest := [.int p0, .ref (a 0)]) (wr := []) (ws' := fun _ => (wM (x_y X) a thrown g saved hasSaved coef v12.2.1 v12.2.2.1 isDeep v12.2.2.2.1 v12.2.2.2.2.1 v12.2.2.2.2.2 given paper papered tape taped wrongAt at_ value readPlace readValue readEpoch)) (st' := fun _ => [.int v20, .int p0, .ref (a 0)]) (ci := 12) 3 0 ⟨_, rfl⟩ rfl rfl mw_7_184 mw_1_9 mw_7_181 mw_7_183 mp_56 hd_X11_valueAt rfl (g_rm hR rfl rfl) [0, 1, 2, 3, 4, 5, 6, 7, 8, 9] [] [0, 1, 2, 3, 4, 5, 6, 7, 8, 9] ⟨rfl, rfl, rfl, rfl, by decide, gRoIn_0, rfl, fun _ => rfl⟩ rfl (Nat.le_of_ble_eq_true rfl) dX11_reshare_81 (g_rc hR (Nat.le_of_ble_eq_true rfl) (Nat.le_of_ble_eq_true rfl)) (ck' := 0) (sk' := 0) rfl rfl (fun _ => rfl) (fun _ _ => ?_) (fun _ hx => absurd rfl hx)
            refine g_iload_n C 4 dX11_reshare_84 rfl ?_
            refine g_aload_n C 1 dX11_reshare_85 rfl ?_
            refine g_iload_n C 2 dX11_reshare_86 rfl ?_
            refine g_iconst C (v := 2) dX11_reshare_87 (by decide) ?_
            obtain ⟨v22, h23, hf⟩ := opt_bind hf
            refine g_callV C (c_X11_of (l := x_l X) (D := x_D X) (cy := x_y X) (a := a) (thrown := thrown) (g := g) (saved := saved) (hasSaved := hasSaved) (coef := coef) (nodes := v12.2.1) (nodeMany := v12.2.2.1) (isDeep := isDeep) (codes := v12.2.2.2.1) (details := v12.2.2.2.2.1) (levelMany := v12.2.2.2.2.2) (given := given) (paper := paper) (papered := papered) (tape := tape) (taped := taped) (wrongAt := wrongAt) (at_ := at_) (value := value) (readPlace := readPlace) (readValue := readValue) (readEpoch := readEpoch) (p0 := p0) (p1 := 2) h23) (As := [.int p0, .int 2]) (rest := [.int p2, .int v20, .int p0, .ref (a 0)]) (wr := []) (ws' := fun _ => (wM (x_y X) a thrown g saved hasSaved coef v12.2.1 v12.2.2.1 isDeep v12.2.2.2.1 v12.2.2.2.2.1 v12.2.2.2.2.2 given paper papered tape taped wrongAt at_ value readPlace readValue readEpoch)) (st' := fun _ => [.int v22, .int p2, .int v20, .int p0, .ref (a 0)]) (ci := 12) 2 0 ⟨_, rfl⟩ rfl rfl mw_7_69 mw_1_9 mw_7_66 mw_7_68 mp_35 hd_X11_of rfl (g_rm hR rfl rfl) [0, 1, 2, 3, 4, 5, 6, 7, 8, 9] [] [0, 1, 2, 3, 4, 5, 6, 7, 8, 9] ⟨rfl, rfl, rfl, rfl, by decide, gRoIn_0, rfl, fun _ => rfl⟩ rfl (Nat.le_of_ble_eq_true rfl) dX11_reshare_88 (g_rc hR (Nat.le_of_ble_eq_true rfl) (Nat.le_of_ble_eq_true rfl)) (ck' := 0) (sk' := 0) rfl rfl (fun _ => rfl) (fun _ _ => ?_) (fun _ hx => absurd rfl hx)
            refine g_iconst C (v := 1) dX11_reshare_91 (by decide) ?_
            refine g_iadd C dX11_reshare_92 ?_
            obtain ⟨v24, h25, hf⟩ := opt_bind hf
            refine g_callV C (c_X11_deals (l := x_l X) (D := x_D X) (cy := x_y X) (a := a) (thrown := thrown) (g := g) (saved := saved) (hasSaved := hasSaved) (coef := coef) (nodes := v12.2.1) (nodeMany := v12.2.2.1) (isDeep := isDeep) (codes := v12.2.2.2.1) (details := v12.2.2.2.2.1) (levelMany := v12.2.2.2.2.2) (given := given) (paper := paper) (papered := papered) (tape := tape) (taped := taped) (wrongAt := wrongAt) (at_ := at_) (value := value) (readPlace := readPlace) (readValue := readValue) (readEpoch := readEpoch) (p0 := p0) (p1 := v20) (p2 := p2) (p3 := v22 + 1) h25) (As := [.int p0, .int v20, .int p2, .int (v22 + 1)]) (rest := []) (wr := []) (ws' := fun _ => (wM (x_y X) a thrown v24.2.1 saved hasSaved v24.2.2 v12.2.1 v12.2.2.1 isDeep v12.2.2.2.1 v12.2.2.2.2.1 v12.2.2.2.2.2 given paper papered tape taped wrongAt at_ value readPlace readValue readEpoch)) (st' := fun _ => [.int v24.1]) (ci := 12) 4 0 ⟨_, rfl⟩ rfl rfl mw_7_95 mw_1_9 mw_7_92 mw_7_94 mp_39 hd_X11_deals rfl (g_rm hR rfl rfl) [0, 1, 2, 3, 4, 5, 6, 7, 8, 9] [] [0, 1, 2, 3, 4, 5, 6, 7, 8, 9] ⟨rfl, rfl, rfl, rfl, by decide, gRoIn_0, rfl, fun _ => rfl⟩ rfl (Nat.le_of_ble_eq_true rfl) dX11_reshare_93 (g_rc hR (Nat.le_of_ble_eq_true rfl) (Nat.le_of_ble_eq_true rfl)) (ck' := 0) (sk' := 0) rfl rfl (fun _ => rfl) (fun _ _ => ?_) (fun _ hx => absurd rfl hx)
            refine g_istore C (lv' := [(5, .int v24.1), (4, .int v12.1), (0, .ref (a 0)), (1, .int p0), (2, .int p1), (3, .int p2)]) dX11_reshare_96 (g_nlt hn rfl) rfl ?_
            refine g_aload_n C 2 dX11_reshare_98 rfl ?_
            refine g_sipush C (v := 400) dX11_reshare_99 (by decide) ?_
            refine g_iload_n C 3 dX11_reshare_102 rfl ?_
            refine g_iadd C dX11_reshare_103 ?_
            obtain ⟨v26, h27, hf⟩ := opt_bind hf
            refine g_callV C (c_X11_happens (l := x_l X) (D := x_D X) (cy := x_y X) (a := a) (thrown := thrown) (g := v24.2.1) (saved := saved) (hasSaved := hasSaved) (coef := v24.2.2) (nodes := v12.2.1) (nodeMany := v12.2.2.1) (isDeep := isDeep) (codes := v12.2.2.2.1) (details := v12.2.2.2.2.1) (levelMany := v12.2.2.2.2.2) (given := given) (paper := paper) (papered := papered) (tape := tape) (taped := taped) (wrongAt := wrongAt) (at_ := at_) (value := value) (readPlace := readPlace) (readValue := readValue) (readEpoch := readEpoch) (p0 := (400 : Int32) + p0) h27) (As := [.int ((400 : Int32) + p0)]) (rest := []) (wr := []) (ws' := fun _ => (wM (x_y X) a thrown v26 saved hasSaved v24.2.2 v12.2.1 v12.2.2.1 isDeep v12.2.2.2.1 v12.2.2.2.2.1 v12.2.2.2.2.2 given paper papered tape taped wrongAt at_ value readPlace readValue readEpoch)) (st' := fun _ => []) (ci := 12) 1 0 ⟨_, rfl⟩ rfl rfl mw_7_118 mw_1_9 mw_7_115 mw_7_117 mp_44 hd_X11_happens rfl (g_rm hR rfl rfl) [0, 1, 2, 3, 4, 5, 6, 7, 8, 9] [] [0, 1, 2, 3, 4, 5, 6, 7, 8, 9] ⟨rfl, rfl, rfl, rfl, by decide, gRoIn_0, rfl, fun _ => rfl⟩ rfl (Nat.le_of_ble_eq_true rfl) dX11_reshare_104 (g_rc hR (Nat.le_of_ble_eq_true rfl) (Nat.le_of_ble_eq_true rfl)) (ck' := 0) (sk' := 0) rfl rfl (fun _ => rfl) (fun _ _ => ?_) (fun _ hx => absurd rfl hx)
            refine g_aload_n C 2 dX11_reshare_107 rfl ?_
            refine g_iload C 0 dX11_reshare_108 rfl ?_
            obtain ⟨v28, h29, hf⟩ := opt_bind hf
            refine g_callV C (c_X11_done (l := x_l X) (D := x_D X) (cy := x_y X) (a := a) (thrown := thrown) (g := v26) (saved := saved) (hasSaved := hasSaved) (coef := v24.2.2) (nodes := v12.2.1) (nodeMany := v12.2.2.1) (isDeep := isDeep) (codes := v12.2.2.2.1) (details := v12.2.2.2.2.1) (levelMany := v12.2.2.2.2.2) (given := given) (paper := paper) (papered := papered) (tape := tape) (taped := taped) (wrongAt := wrongAt) (at_ := at_) (value := value) (readPlace := readPlace) (readValue := readValue) (readEpoch := readEpoch) (p0 := v24.1) h29) (As := [.int v24.1]) (rest := []) (wr := []) (ws' := fun _ => (wM (x_y X) a v28.2 v26 saved hasSaved v24.2.2 v12.2.1 v12.2.2.1 isDeep v12.2.2.2.1 v12.2.2.2.2.1 v12.2.2.2.2.2 given paper papered tape taped wrongAt at_ value readPlace readValue readEpoch)) (st' := fun _ => [.int v28.1]) (ci := 12) 1 0 ⟨_, rfl⟩ rfl rfl mw_7_22 mw_1_9 mw_7_19 mw_7_21 mp_29 hd_X11_done rfl (g_rm hR rfl rfl) [0, 1, 2, 3, 4, 5, 6, 7, 8, 9] [] [0, 1, 2, 3, 4, 5, 6, 7, 8, 9] ⟨rfl, rfl, rfl, rfl, by decide, gRoIn_0, rfl, fun _ => rfl⟩ rfl (Nat.le_of_ble_eq_true rfl) dX11_reshare_110 (g_rc hR (Nat.le_of_ble_eq_true rfl) (Nat.le_of_ble_eq_true rfl)) (ck' := 0) (sk' := 0) rfl rfl (fun _ => rfl) (fun _ _ => ?_) (fun _ hx => absurd rfl hx)
            obtain rfl := Option.some.inj hf
            exact g_iret C E () dX11_reshare_113 rfl rfl rfl (Nat.le_of_ble_eq_true rfl) (Nat.le_of_ble_eq_true rfl)
          · have hf := opt_neg c17 hf
            refine g_aload_n C 1 dX11_reshare_64 rfl ?_
            refine g_iconst C (v := 5) dX11_reshare_65 (by decide) ?_
            obtain ⟨v30, h31, hf⟩ := opt_bind hf
            refine g_callV C (c_X11_fails (l := x_l X) (D := x_D X) (cy := x_y X) (a := a) (thrown := thrown) (g := g) (saved := saved) (hasSaved := hasSaved) (coef := coef) (nodes := v12.2.1) (nodeMany := v12.2.2.1) (isDeep := isDeep) (codes := v12.2.2.2.1) (details := v12.2.2.2.2.1) (levelMany := v12.2.2.2.2.2) (given := given) (paper := paper) (papered := papered) (tape := tape) (taped := taped) (wrongAt := wrongAt) (at_ := at_) (value := value) (readPlace := readPlace) (readValue := readValue) (readEpoch := readEpoch) (p0 := 5) h31) (As := [.int 5]) (rest := []) (wr := []) (ws' := fun _ => (wM (x_y X) a v30.2 g saved hasSaved coef v12.2.1 v12.2.2.1 isDeep v12.2.2.2.1 v12.2.2.2.2.1 v12.2.2.2.2.2 given paper papered tape taped wrongAt at_ value readPlace readValue readEpoch)) (st' := fun _ => [.int v30.1]) (ci := 12) 1 0 ⟨_, rfl⟩ rfl rfl mw_7_45 mw_1_9 mw_7_42 mw_7_44 mp_31 hd_X11_fails rfl (g_rm hR rfl rfl) [0, 1, 2, 3, 4, 5, 6, 7, 8, 9] [] [0, 1, 2, 3, 4, 5, 6, 7, 8, 9] ⟨rfl, rfl, rfl, rfl, by decide, gRoIn_0, rfl, fun _ => rfl⟩ rfl (Nat.le_of_ble_eq_true rfl) dX11_reshare_66 (g_rc hR (Nat.le_of_ble_eq_true rfl) (Nat.le_of_ble_eq_true rfl)) (ck' := 0) (sk' := 0) rfl rfl (fun _ => rfl) (fun _ _ => ?_) (fun _ hx => absurd rfl hx)
            obtain rfl := Option.some.inj hf
            exact g_iret C E () dX11_reshare_69 rfl rfl rfl (Nat.le_of_ble_eq_true rfl) (Nat.le_of_ble_eq_true rfl)
        · have hf := opt_neg c14 hf
          refine g_aload_n C 1 dX11_reshare_49 rfl ?_
          refine g_iload C 0 dX11_reshare_50 rfl ?_
          obtain ⟨v32, h33, hf⟩ := opt_bind hf
          refine g_callV C (c_X11_fails (l := x_l X) (D := x_D X) (cy := x_y X) (a := a) (thrown := thrown) (g := g) (saved := saved) (hasSaved := hasSaved) (coef := coef) (nodes := v12.2.1) (nodeMany := v12.2.2.1) (isDeep := isDeep) (codes := v12.2.2.2.1) (details := v12.2.2.2.2.1) (levelMany := v12.2.2.2.2.2) (given := given) (paper := paper) (papered := papered) (tape := tape) (taped := taped) (wrongAt := wrongAt) (at_ := at_) (value := value) (readPlace := readPlace) (readValue := readValue) (readEpoch := readEpoch) (p0 := v12.1) h33) (As := [.int v12.1]) (rest := []) (wr := []) (ws' := fun _ => (wM (x_y X) a v32.2 g saved hasSaved coef v12.2.1 v12.2.2.1 isDeep v12.2.2.2.1 v12.2.2.2.2.1 v12.2.2.2.2.2 given paper papered tape taped wrongAt at_ value readPlace readValue readEpoch)) (st' := fun _ => [.int v32.1]) (ci := 12) 1 0 ⟨_, rfl⟩ rfl rfl mw_7_45 mw_1_9 mw_7_42 mw_7_44 mp_31 hd_X11_fails rfl (g_rm hR rfl rfl) [0, 1, 2, 3, 4, 5, 6, 7, 8, 9] [] [0, 1, 2, 3, 4, 5, 6, 7, 8, 9] ⟨rfl, rfl, rfl, rfl, by decide, gRoIn_0, rfl, fun _ => rfl⟩ rfl (Nat.le_of_ble_eq_true rfl) dX11_reshare_52 (g_rc hR (Nat.le_of_ble_eq_true rfl) (Nat.le_of_ble_eq_true rfl)) (ck' := 0) (sk' := 0) rfl rfl (fun _ => rfl) (fun _ _ => ?_) (fun _ hx => absurd rfl hx)
          obtain rfl := Option.some.inj hf
          exact g_iret C E () dX11_reshare_55 rfl rfl rfl (Nat.le_of_ble_eq_true rfl) (Nat.le_of_ble_eq_true rfl)
      · have hf := opt_pos c11 hf
        exact H30 thrown g coef nodes nodeMany codes details levelMany hf
  · have hf := opt_pos c3 hf
    refine g_aload_n C 0 dX11_reshare_7 rfl ?_
    refine g_iconst C (v := 1) dX11_reshare_8 (by decide) ?_
    obtain ⟨v34, h35, hf⟩ := opt_bind hf
    refine g_callV C (c_X11_fails (l := x_l X) (D := x_D X) (cy := x_y X) (a := a) (thrown := thrown) (g := g) (saved := saved) (hasSaved := hasSaved) (coef := coef) (nodes := nodes) (nodeMany := nodeMany) (isDeep := isDeep) (codes := codes) (details := details) (levelMany := levelMany) (given := given) (paper := paper) (papered := papered) (tape := tape) (taped := taped) (wrongAt := wrongAt) (at_ := at_) (value := value) (readPlace := readPlace) (readValue := readValue) (readEpoch := readEpoch) (p0 := 1) h35) (As := [.int 1]) (rest := []) (wr := []) (ws' := fun _ => (wM (x_y X) a v34.2 g saved hasSaved coef nodes nodeMany isDeep codes details levelMany given paper papered tape taped wrongAt at_ value readPlace readValue readEpoch)) (st' := fun _ => [.int v34.1]) (ci := 12) 1 0 ⟨_, rfl⟩ rfl rfl mw_7_45 mw_1_9 mw_7_42 mw_7_44 mp_31 hd_X11_fails rfl (g_rm hR rfl rfl) [0, 1, 2, 3, 4, 5, 6, 7, 8, 9] [] [0, 1, 2, 3, 4, 5, 6, 7, 8, 9] ⟨rfl, rfl, rfl, rfl, by decide, gRoIn_0, rfl, fun _ => rfl⟩ rfl (Nat.le_of_ble_eq_true rfl) dX11_reshare_9 (g_rc hR (Nat.le_of_ble_eq_true rfl) (Nat.le_of_ble_eq_true rfl)) (ck' := 0) (sk' := 0) rfl rfl (fun _ => rfl) (fun _ _ => ?_) (fun _ hx => absurd rfl hx)
    obtain rfl := Option.some.inj hf
    exact g_iret C E () dX11_reshare_12 rfl rfl rfl (Nat.le_of_ble_eq_true rfl) (Nat.le_of_ble_eq_true rfl)
/-! X11_enroll -/
theorem hd_X11_enroll : yX11_enroll.cls ≠ "java/lang/invoke/MethodHandle" ∧ yX11_enroll.cls ≠ "java/lang/invoke/VarHandle" ∧ (parseMethodDescriptor yX11_enroll.desc).map (fun d => d.parameters.length) = some 3 := by decide +kernel
def F_X11_enroll_L14   (thrown_14 : Int32) (g_14 : Nat → Int32) (nodes_14 : Nat → Int32) (nodeMany_14 : Int32) (codes_14 : Nat → Int32) (details_14 : Nat → Int32) (levelMany_14 : Int32) (given_14 : Nat → Int32) : Option (Int32 × Int32 × (Nat → Int32) × (Nat → Int32) × Int32 × (Nat → Int32) × (Nat → Int32) × Int32 × (Nat → Int32)) := (F_X11_fails thrown_14 1).bind fun v4 => some (v4.1, v4.2, g_14, nodes_14, nodeMany_14, codes_14, details_14, levelMany_14, given_14)
def F_X11_enroll_L143  (K87 : Int32 → (Nat → Int32) → (Nat → Int32) → Int32 → (Nat → Int32) → (Nat → Int32) → Int32 → (Nat → Int32) → Int32 → Int32 → Option (Int32 × Int32 × (Nat → Int32) × (Nat → Int32) × Int32 × (Nat → Int32) × (Nat → Int32) × Int32 × (Nat → Int32))) (thrown_143 : Int32) (g_143 : Nat → Int32) (nodes_143 : Nat → Int32) (nodeMany_143 : Int32) (codes_143 : Nat → Int32) (details_143 : Nat → Int32) (levelMany_143 : Int32) (given_143 : Nat → Int32) (l5_143 : Int32) (l6_143 : Int32) : Option (Int32 × Int32 × (Nat → Int32) × (Nat → Int32) × Int32 × (Nat → Int32) × (Nat → Int32) × Int32 × (Nat → Int32)) := K87 thrown_143 g_143 nodes_143 nodeMany_143 codes_143 details_143 levelMany_143 given_143 l5_143 (l6_143 + 1)
def F_X11_enroll_L87 (p0 : Int32) (p2 : Int32)  : Nat → Int32 → (Nat → Int32) → (Nat → Int32) → Int32 → (Nat → Int32) → (Nat → Int32) → Int32 → (Nat → Int32) → Int32 → Int32 → Option (Int32 × Int32 × (Nat → Int32) × (Nat → Int32) × Int32 × (Nat → Int32) × (Nat → Int32) × Int32 × (Nat → Int32))
  | 0, _, _, _, _, _, _, _, _, _, _ => none
  | n + 1, thrown_87, g_87, nodes_87, nodeMany_87, codes_87, details_87, levelMany_87, given_87, l5_87, l6_87 => gg (gi ((1 : Int32) + p2) 534) (if (g_87 (Int32.toNatClampNeg ((1 : Int32) + p2))) ≤ l6_87 then ((F_X11_happens g_87 (((500 : Int32) + ((10 : Int32) * p0)) + p2)).bind fun v15 => (F_X11_done thrown_87 l5_87).bind fun v17 => some (v17.1, v17.2, v15, nodes_87, nodeMany_87, codes_87, details_87, levelMany_87, given_87)) else (gl ((((3 : Int32) * p2) + 1) + l6_87) fun x19 => (F_X11_isGood g_87 p0 x19).bind fun v20 => if v20 = 0 then (gg (gi l6_87 3) ((F_X11_of g_87 p0 2).bind fun v24 => (F_X11_setsShare g_87 p0 x19 (given_87 (Int32.toNatClampNeg l6_87)) v24).bind fun v26 => F_X11_enroll_L143 (F_X11_enroll_L87 p0 p2 n) thrown_87 v26 nodes_87 nodeMany_87 codes_87 details_87 levelMany_87 given_87 (l5_87 + 1) l6_87)) else (F_X11_enroll_L143 (F_X11_enroll_L87 p0 p2 n) thrown_87 g_87 nodes_87 nodeMany_87 codes_87 details_87 levelMany_87 given_87 l5_87 l6_87)))
def F_X11_enroll_L46 (p0 : Int32) (p2 : Int32)  : Nat → Int32 → (Nat → Int32) → (Nat → Int32) → Int32 → (Nat → Int32) → (Nat → Int32) → Int32 → (Nat → Int32) → Int32 → Int32 → Option (Int32 × Int32 × (Nat → Int32) × (Nat → Int32) × Int32 × (Nat → Int32) × (Nat → Int32) × Int32 × (Nat → Int32))
  | 0, _, _, _, _, _, _, _, _, _, _ => none
  | n + 1, thrown_46, g_46, nodes_46, nodeMany_46, codes_46, details_46, levelMany_46, given_46, l5_46, l6_46 => if 3 ≤ l6_46 then (F_X11_enroll_L87 p0 p2 1000 thrown_46 g_46 nodes_46 nodeMany_46 codes_46 details_46 levelMany_46 given_46 l5_46 0) else ((F_X11_of g_46 p0 1).bind fun v28 => (F_X11_valueAt g_46 nodes_46 p0 v28 ((((3 : Int32) * p2) + 1) + l6_46)).bind fun v30 => gg (gi l6_46 3) (gl (upd given_46 (Int32.toNatClampNeg l6_46) v30) fun f33 => F_X11_enroll_L46 p0 p2 n thrown_46 g_46 nodes_46 nodeMany_46 codes_46 details_46 levelMany_46 f33 l5_46 (l6_46 + 1)))
def F_X11_enroll (thrown : Int32) (g : Nat → Int32) (nodes : Nat → Int32) (nodeMany : Int32) (codes : Nat → Int32) (details : Nat → Int32) (levelMany : Int32) (given : Nat → Int32) (p0 : Int32) (p1 : Int32) (p2 : Int32) : Option (Int32 × Int32 × (Nat → Int32) × (Nat → Int32) × Int32 × (Nat → Int32) × (Nat → Int32) × Int32 × (Nat → Int32)) := (F_X11_isSlot p0).bind fun v1 => if v1 = 0 then (F_X11_enroll_L14 thrown g nodes nodeMany codes details levelMany given) else ((F_X11_isMember p2).bind fun v6 => if v6 = 0 then (F_X11_enroll_L14 thrown g nodes nodeMany codes details levelMany given) else ((F_X11_lacksOpen g nodes nodeMany codes details levelMany p0 p1).bind fun v9 => if v9.1 = 0 then (F_X11_enroll_L46 p0 p2 1000 thrown g v9.2.1 v9.2.2.1 v9.2.2.2.1 v9.2.2.2.2.1 v9.2.2.2.2.2 given 0 0) else ((F_X11_fails thrown v9.1).bind fun v34 => some (v34.1, v34.2, g, v9.2.1, v9.2.2.1, v9.2.2.2.1, v9.2.2.2.2.1, v9.2.2.2.2.2, given))))
set_option maxRecDepth 100000 in
set_option maxHeartbeats 4000000 in
theorem c_X11_enroll {l : Launch} {D : va_G} {cy : Nat → ClassId} {a : Nat → Nat} {thrown : Int32} {g : Nat → Int32} {saved : Nat → Int32} {hasSaved : Int32} {coef : Nat → Int32} {nodes : Nat → Int32} {nodeMany : Int32} {isDeep : Int32} {codes : Nat → Int32} {details : Nat → Int32} {levelMany : Int32} {given : Nat → Int32} {paper : Nat → Int32} {papered : Int32} {tape : Nat → Int32} {taped : Int32} {wrongAt : Int32} {at_ : Int32} {value : Int32} {readPlace : Int32} {readValue : Int32} {readEpoch : Int32} {p0 : Int32} {p1 : Int32} {p2 : Int32}  {val : Int32 × Int32 × (Nat → Int32) × (Nat → Int32) × Int32 × (Nat → Int32) × (Nat → Int32) × Int32 × (Nat → Int32)} (hf : F_X11_enroll thrown g nodes nodeMany codes details levelMany given p0 p1 p2 = some val) : gCt l D cy yX11_enroll cX11_enroll 8 (some .int) 74 2518 0 0 [.ref (a 0), .int p0, .int p1, .int p2] [] ((wM cy a thrown g saved hasSaved coef nodes nodeMany isDeep codes details levelMany given paper papered tape taped wrongAt at_ value readPlace readValue readEpoch)) 0 (fun _ : Unit => some (.int val.1)) (fun _ => (wM cy a val.2.1 val.2.2.1 saved hasSaved coef val.2.2.2.1 val.2.2.2.2.1 isDeep val.2.2.2.2.2.1 val.2.2.2.2.2.2.1 val.2.2.2.2.2.2.2.1 val.2.2.2.2.2.2.2.2 paper papered tape taped wrongAt at_ value readPlace readValue readEpoch)) := by
  refine g_begin (by decide +kernel) (Nat.le_of_ble_eq_true rfl) ?_
  intro X Q hl hR hD hy hro hn C hin E
  subst hl; subst hD; subst hy
  replace C : gC X "SecretVaultModel" cX11_enroll (some .int) := C
  unfold F_X11_enroll at hf
  have H14 : ∀ (thrown_14 : Int32) (g_14 : Nat → Int32) (nodes_14 : Nat → Int32) (nodeMany_14 : Int32) (codes_14 : Nat → Int32) (details_14 : Nat → Int32) (levelMany_14 : Int32) (given_14 : Nat → Int32), F_X11_enroll_L14 thrown_14 g_14 nodes_14 nodeMany_14 codes_14 details_14 levelMany_14 given_14 = some val → gW X Q 0 0 ((wM (x_y X) a thrown_14 g_14 saved hasSaved coef nodes_14 nodeMany_14 isDeep codes_14 details_14 levelMany_14 given_14 paper papered tape taped wrongAt at_ value readPlace readValue readEpoch)) [(0, .ref (a 0)), (1, .int p0), (2, .int p1), (3, .int p2)] [] 14 := by
    intro thrown_14 g_14 nodes_14 nodeMany_14 codes_14 details_14 levelMany_14 given_14 hf
    unfold F_X11_enroll_L14 at hf
    refine g_aload_n C 0 dX11_enroll_14 rfl ?_
    refine g_iconst C (v := 1) dX11_enroll_15 (by decide) ?_
    obtain ⟨v4, h5, hf⟩ := opt_bind hf
    refine g_callV C (c_X11_fails (l := x_l X) (D := x_D X) (cy := x_y X) (a := a) (thrown := thrown_14) (g := g_14) (saved := saved) (hasSaved := hasSaved) (coef := coef) (nodes := nodes_14) (nodeMany := nodeMany_14) (isDeep := isDeep) (codes := codes_14) (details := details_14) (levelMany := levelMany_14) (given := given_14) (paper := paper) (papered := papered) (tape := tape) (taped := taped) (wrongAt := wrongAt) (at_ := at_) (value := value) (readPlace := readPlace) (readValue := readValue) (readEpoch := readEpoch) (p0 := 1) h5) (As := [.int 1]) (rest := []) (wr := []) (ws' := fun _ => (wM (x_y X) a v4.2 g_14 saved hasSaved coef nodes_14 nodeMany_14 isDeep codes_14 details_14 levelMany_14 given_14 paper papered tape taped wrongAt at_ value readPlace readValue readEpoch)) (st' := fun _ => [.int v4.1]) (ci := 12) 1 0 ⟨_, rfl⟩ rfl rfl mw_7_45 mw_1_9 mw_7_42 mw_7_44 mp_31 hd_X11_fails rfl (g_rm hR rfl rfl) [0, 1, 2, 3, 4, 5, 6, 7, 8, 9] [] [0, 1, 2, 3, 4, 5, 6, 7, 8, 9] ⟨rfl, rfl, rfl, rfl, by decide, gRoIn_0, rfl, fun _ => rfl⟩ rfl (Nat.le_of_ble_eq_true rfl) dX11_enroll_16 (g_rc hR (Nat.le_of_ble_eq_true rfl) (Nat.le_of_ble_eq_true rfl)) (ck' := 0) (sk' := 0) rfl rfl (fun _ => rfl) (fun _ _ => ?_) (fun _ hx => absurd rfl hx)
    obtain rfl := Option.some.inj hf
    exact g_iret C E () dX11_enroll_19 rfl rfl rfl (Nat.le_of_ble_eq_true rfl) (Nat.le_of_ble_eq_true rfl)
  have H87 : ∀ (n87 : Nat), ∀ (thrown_87 : Int32) (g_87 : Nat → Int32) (nodes_87 : Nat → Int32) (nodeMany_87 : Int32) (codes_87 : Nat → Int32) (details_87 : Nat → Int32) (levelMany_87 : Int32) (given_87 : Nat → Int32) (l5_87 : Int32) (l6_87 : Int32), F_X11_enroll_L87 p0 p2 n87 thrown_87 g_87 nodes_87 nodeMany_87 codes_87 details_87 levelMany_87 given_87 l5_87 l6_87 = some val → gW X Q 0 0 ((wM (x_y X) a thrown_87 g_87 saved hasSaved coef nodes_87 nodeMany_87 isDeep codes_87 details_87 levelMany_87 given_87 paper papered tape taped wrongAt at_ value readPlace readValue readEpoch)) [(0, .ref (a 0)), (1, .int p0), (2, .int p1), (3, .int p2), (5, .int l5_87), (6, .int l6_87)] [] 87 := by
    intro n87
    induction n87 with
    | zero => intros; rename_i hf; cases hf
    | succ n87 ih =>
      intro thrown_87 g_87 nodes_87 nodeMany_87 codes_87 details_87 levelMany_87 given_87 l5_87 l6_87 hf
      have H87 := ih
      rw [F_X11_enroll_L87] at hf
      have H143 : ∀ (thrown_143 : Int32) (g_143 : Nat → Int32) (nodes_143 : Nat → Int32) (nodeMany_143 : Int32) (codes_143 : Nat → Int32) (details_143 : Nat → Int32) (levelMany_143 : Int32) (given_143 : Nat → Int32) (l5_143 : Int32) (l6_143 : Int32), F_X11_enroll_L143 (F_X11_enroll_L87 p0 p2 n87) thrown_143 g_143 nodes_143 nodeMany_143 codes_143 details_143 levelMany_143 given_143 l5_143 l6_143 = some val → gW X Q 0 0 ((wM (x_y X) a thrown_143 g_143 saved hasSaved coef nodes_143 nodeMany_143 isDeep codes_143 details_143 levelMany_143 given_143 paper papered tape taped wrongAt at_ value readPlace readValue readEpoch)) [(0, .ref (a 0)), (1, .int p0), (2, .int p1), (3, .int p2), (5, .int l5_143), (6, .int l6_143)] [] 143 := by
        intro thrown_143 g_143 nodes_143 nodeMany_143 codes_143 details_143 levelMany_143 given_143 l5_143 l6_143 hf
        unfold F_X11_enroll_L143 at hf
        refine g_iinc C 5 (v := l6_143 + 1) (lv' := [(6, .int (l6_143 + 1)), (0, .ref (a 0)), (1, .int p0), (2, .int p1), (3, .int p2), (5, .int l5_143)]) dX11_enroll_143 rfl rfl (g_nlt hn rfl) rfl ?_
        refine g_goto C 87 dX11_enroll_146 (by decide) ?_
        refine gW.locals [1, 2, 3, 4, 5, 0] rfl ?_
        exact H87 thrown_143 g_143 nodes_143 nodeMany_143 codes_143 details_143 levelMany_143 given_143 l5_143 (l6_143 + 1) hf
      refine g_iload C 5 dX11_enroll_87 rfl ?_
      refine g_aload_n C 0 dX11_enroll_89 rfl ?_
      refine g_get C 0 1 rfl rfl wiX11 (by decide) mw_6_185 rfl rfl dX11_enroll_90 ?_
      refine g_iconst C (v := 1) dX11_enroll_93 (by decide) ?_
      refine g_iload_n C 3 dX11_enroll_94 rfl ?_
      refine g_iadd C dX11_enroll_95 ?_
      obtain ⟨c13, hf⟩ := gg_of hf
      refine g_iald C 1 rfl (gi_in c13) dX11_enroll_96 ?_
      refine g_icmp_ge C 149 dX11_enroll_97 (by decide) (fun c14 => ?_) (fun c14 => ?_)
      · have hf := opt_pos c14 hf
        refine g_aload_n C 0 dX11_enroll_149 rfl ?_
        refine g_sipush C (v := 500) dX11_enroll_150 (by decide) ?_
        refine g_bipush C (v := 10) dX11_enroll_153 (by decide) ?_
        refine g_iload_n C 1 dX11_enroll_155 rfl ?_
        refine g_imul C dX11_enroll_156 ?_
        refine g_iadd C dX11_enroll_157 ?_
        refine g_iload_n C 3 dX11_enroll_158 rfl ?_
        refine g_iadd C dX11_enroll_159 ?_
        obtain ⟨v15, h16, hf⟩ := opt_bind hf
        refine g_callV C (c_X11_happens (l := x_l X) (D := x_D X) (cy := x_y X) (a := a) (thrown := thrown_87) (g := g_87) (saved := saved) (hasSaved := hasSaved) (coef := coef) (nodes := nodes_87) (nodeMany := nodeMany_87) (isDeep := isDeep) (codes := codes_87) (details := details_87) (levelMany := levelMany_87) (given := given_87) (paper := paper) (papered := papered) (tape := tape) (taped := taped) (wrongAt := wrongAt) (at_ := at_) (value := value) (readPlace := readPlace) (readValue := readValue) (readEpoch := readEpoch) (p0 := ((500 : Int32) + ((10 : Int32) * p0)) + p2) h16) (As := [.int (((500 : Int32) + ((10 : Int32) * p0)) + p2)]) (rest := []) (wr := []) (ws' := fun _ => (wM (x_y X) a thrown_87 v15 saved hasSaved coef nodes_87 nodeMany_87 isDeep codes_87 details_87 levelMany_87 given_87 paper papered tape taped wrongAt at_ value readPlace readValue readEpoch)) (st' := fun _ => []) (ci := 12) 1 0 ⟨_, rfl⟩ rfl rfl mw_7_118 mw_1_9 mw_7_115 mw_7_117 mp_44 hd_X11_happens rfl (g_rm hR rfl rfl) [0, 1, 2, 3, 4, 5, 6, 7, 8, 9] [] [0, 1, 2, 3, 4, 5, 6, 7, 8, 9] ⟨rfl, rfl, rfl, rfl, by decide, gRoIn_0, rfl, fun _ => rfl⟩ rfl (Nat.le_of_ble_eq_true rfl) dX11_enroll_160 (g_rc hR (Nat.le_of_ble_eq_true rfl) (Nat.le_of_ble_eq_true rfl)) (ck' := 0) (sk' := 0) rfl rfl (fun _ => rfl) (fun _ _ => ?_) (fun _ hx => absurd rfl hx)
        refine g_aload_n C 0 dX11_enroll_163 rfl ?_
        refine g_iload C 4 dX11_enroll_164 rfl ?_
        obtain ⟨v17, h18, hf⟩ := opt_bind hf
        refine g_callV C (c_X11_done (l := x_l X) (D := x_D X) (cy := x_y X) (a := a) (thrown := thrown_87) (g := v15) (saved := saved) (hasSaved := hasSaved) (coef := coef) (nodes := nodes_87) (nodeMany := nodeMany_87) (isDeep := isDeep) (codes := codes_87) (details := details_87) (levelMany := levelMany_87) (given := given_87) (paper := paper) (papered := papered) (tape := tape) (taped := taped) (wrongAt := wrongAt) (at_ := at_) (value := value) (readPlace := readPlace) (readValue := readValue) (readEpoch := readEpoch) (p0 := l5_87) h18) (As := [.int l5_87]) (rest := []) (wr := []) (ws' := fun _ => (wM (x_y X) a v17.2 v15 saved hasSaved coef nodes_87 nodeMany_87 isDeep codes_87 details_87 levelMany_87 given_87 paper papered tape taped wrongAt at_ value readPlace readValue readEpoch)) (st' := fun _ => [.int v17.1]) (ci := 12) 1 0 ⟨_, rfl⟩ rfl rfl mw_7_22 mw_1_9 mw_7_19 mw_7_21 mp_29 hd_X11_done rfl (g_rm hR rfl rfl) [0, 1, 2, 3, 4, 5, 6, 7, 8, 9] [] [0, 1, 2, 3, 4, 5, 6, 7, 8, 9] ⟨rfl, rfl, rfl, rfl, by decide, gRoIn_0, rfl, fun _ => rfl⟩ rfl (Nat.le_of_ble_eq_true rfl) dX11_enroll_166 (g_rc hR (Nat.le_of_ble_eq_true rfl) (Nat.le_of_ble_eq_true rfl)) (ck' := 0) (sk' := 0) rfl rfl (fun _ => rfl) (fun _ _ => ?_) (fun _ hx => absurd rfl hx)
        obtain rfl := Option.some.inj hf
        exact g_iret C E () dX11_enroll_169 rfl rfl rfl (Nat.le_of_ble_eq_true rfl) (Nat.le_of_ble_eq_true rfl)
      · have hf := opt_neg c14 hf
        refine g_iconst C (v := 3) dX11_enroll_100 (by decide) ?_
        refine g_iload_n C 3 dX11_enroll_101 rfl ?_
        refine g_imul C dX11_enroll_102 ?_
        refine g_iconst C (v := 1) dX11_enroll_103 (by decide) ?_
        refine g_iadd C dX11_enroll_104 ?_
        refine g_iload C 5 dX11_enroll_105 rfl ?_
        refine g_iadd C dX11_enroll_107 ?_
        obtain ⟨x19, ex19, hf⟩ := opt_let hf
        refine g_topi ex19 ?_
        refine g_istore C (lv' := [(7, .int x19), (0, .ref (a 0)), (1, .int p0), (2, .int p1), (3, .int p2), (5, .int l5_87), (6, .int l6_87)]) dX11_enroll_108 (g_nlt hn rfl) rfl ?_
        refine g_aload_n C 1 dX11_enroll_110 rfl ?_
        refine g_iload_n C 2 dX11_enroll_111 rfl ?_
        refine g_iload C 0 dX11_enroll_112 rfl ?_
        obtain ⟨v20, h21, hf⟩ := opt_bind hf
        refine g_callV C (c_X11_isGood (l := x_l X) (D := x_D X) (cy := x_y X) (a := a) (thrown := thrown_87) (g := g_87) (saved := saved) (hasSaved := hasSaved) (coef := coef) (nodes := nodes_87) (nodeMany := nodeMany_87) (isDeep := isDeep) (codes := codes_87) (details := details_87) (levelMany := levelMany_87) (given := given_87) (paper := paper) (papered := papered) (tape := tape) (taped := taped) (wrongAt := wrongAt) (at_ := at_) (value := value) (readPlace := readPlace) (readValue := readValue) (readEpoch := readEpoch) (p0 := p0) (p1 := x19) h21) (As := [.int p0, .int x19]) (rest := []) (wr := []) (ws' := fun _ => (wM (x_y X) a thrown_87 g_87 saved hasSaved coef nodes_87 nodeMany_87 isDeep codes_87 details_87 levelMany_87 given_87 paper papered tape taped wrongAt at_ value readPlace readValue readEpoch)) (st' := fun _ => [.int v20]) (ci := 12) 2 0 ⟨_, rfl⟩ rfl rfl mw_7_195 mw_1_9 mw_7_192 mw_7_194 mp_57 hd_X11_isGood rfl (g_rm hR rfl rfl) [0, 1, 2, 3, 4, 5, 6, 7, 8, 9] [] [0, 1, 2, 3, 4, 5, 6, 7, 8, 9] ⟨rfl, rfl, rfl, rfl, by decide, gRoIn_0, rfl, fun _ => rfl⟩ rfl (Nat.le_of_ble_eq_true rfl) dX11_enroll_114 (g_rc hR (Nat.le_of_ble_eq_true rfl) (Nat.le_of_ble_eq_true rfl)) (ck' := 0) (sk' := 0) rfl rfl (fun _ => rfl) (fun _ _ => ?_) (fun _ hx => absurd rfl hx)
        refine g_if_ne C 143 dX11_enroll_117 (by decide) (fun c22 => ?_) (fun c22 => ?_)
        · have hf := opt_neg c22 hf
          refine gW.locals [1, 2, 3, 4, 5, 6] rfl ?_
          exact H143 thrown_87 g_87 nodes_87 nodeMany_87 codes_87 details_87 levelMany_87 given_87 l5_87 l6_87 hf
        · have hf := opt_pos c22 hf
          refine g_aload_n C 1 dX11_enroll_120 rfl ?_
          refine g_iload_n C 2 dX11_enroll_121 rfl ?_
          refine g_iload C 0 dX11_enroll_122 rfl ?_
          refine g_aload_n C 1 dX11_enroll_124 rfl ?_
          refine g_get C 0 11 rfl rfl wiX11 (by decide) mw_6_194 rfl rfl dX11_enroll_125 ?_
          refine g_iload C 6 dX11_enroll_128 rfl ?_
          obtain ⟨c23, hf⟩ := gg_of hf
          refine g_iald C 7 rfl (gi_in c23) dX11_enroll_130 ?_
          refine g_aload_n C 1 dX11_enroll_131 rfl ?_
          refine g_iload_n C 2 dX11_enroll_132 rfl ?_
          refine g_iconst C (v := 2) dX11_enroll_133 (by decide) ?_
          obtain ⟨v24, h25, hf⟩ := opt_bind hf
          refine g_callV C (c_X11_of (l := x_l X) (D := x_D X) (cy := x_y X) (a := a) (thrown := thrown_87) (g := g_87) (saved := saved) (hasSaved := hasSaved) (coef := coef) (nodes := nodes_87) (nodeMany := nodeMany_87) (isDeep := isDeep) (codes := codes_87) (details := details_87) (levelMany := levelMany_87) (given := given_87) (paper := paper) (papered := papered) (tape := tape) (taped := taped) (wrongAt := wrongAt) (at_ := at_) (value := value) (readPlace := readPlace) (readValue := readValue) (readEpoch := readEpoch) (p0 := p0) (p1 := 2) h25) (As := [.int p0, .int 2]) (rest := [.int (given_87 (Int32.toNatClampNeg l6_87)), .int x19, .int p0, .ref (a 0)]) (wr := []) (ws' := fun _ => (wM (x_y X) a thrown_87 g_87 saved hasSaved coef nodes_87 nodeMany_87 isDeep codes_87 details_87 levelMany_87 given_87 paper papered tape taped wrongAt at_ value readPlace readValue readEpoch)) (st' := fun _ => [.int v24, .int (given_87 (Int32.toNatClampNeg l6_87)), .int x19, .int p0, .ref (a 0)]) (ci := 12) 2 0 ⟨_, rfl⟩ rfl rfl mw_7_69 mw_1_9 mw_7_66 mw_7_68 mp_35 hd_X11_of rfl (g_rm hR rfl rfl) [0, 1, 2, 3, 4, 5, 6, 7, 8, 9] [] [0, 1, 2, 3, 4, 5, 6, 7, 8, 9] ⟨rfl, rfl, rfl, rfl, by decide, gRoIn_0, rfl, fun _ => rfl⟩ rfl (Nat.le_of_ble_eq_true rfl) dX11_enroll_134 (g_rc hR (Nat.le_of_ble_eq_true rfl) (Nat.le_of_ble_eq_true rfl)) (ck' := 0) (sk' := 0) rfl rfl (fun _ => rfl) (fun _ _ => ?_) (fun _ hx => absurd rfl hx)
          obtain ⟨v26, h27, hf⟩ := opt_bind hf
          refine g_callV C (c_X11_setsShare (l := x_l X) (D := x_D X) (cy := x_y X) (a := a) (thrown := thrown_87) (g := g_87) (saved := saved) (hasSaved := hasSaved) (coef := coef) (nodes := nodes_87) (nodeMany := nodeMany_87) (isDeep := isDeep) (codes := codes_87) (details := details_87) (levelMany := levelMany_87) (given := given_87) (paper := paper) (papered := papered) (tape := tape) (taped := taped) (wrongAt := wrongAt) (at_ := at_) (value := value) (readPlace := readPlace) (readValue := readValue) (readEpoch := readEpoch) (p0 := p0) (p1 := x19) (p2 := given_87 (Int32.toNatClampNeg l6_87)) (p3 := v24) h27) (As := [.int p0, .int x19, .int (given_87 (Int32.toNatClampNeg l6_87)), .int v24]) (rest := []) (wr := []) (ws' := fun _ => (wM (x_y X) a thrown_87 v26 saved hasSaved coef nodes_87 nodeMany_87 isDeep codes_87 details_87 levelMany_87 given_87 paper papered tape taped wrongAt at_ value readPlace readValue readEpoch)) (st' := fun _ => []) (ci := 12) 4 0 ⟨_, rfl⟩ rfl rfl mw_7_114 mw_1_9 mw_7_111 mw_7_113 mp_43 hd_X11_setsShare rfl (g_rm hR rfl rfl) [0, 1, 2, 3, 4, 5, 6, 7, 8, 9] [] [0, 1, 2, 3, 4, 5, 6, 7, 8, 9] ⟨rfl, rfl, rfl, rfl, by decide, gRoIn_0, rfl, fun _ => rfl⟩ rfl (Nat.le_of_ble_eq_true rfl) dX11_enroll_137 (g_rc hR (Nat.le_of_ble_eq_true rfl) (Nat.le_of_ble_eq_true rfl)) (ck' := 0) (sk' := 0) rfl rfl (fun _ => rfl) (fun _ _ => ?_) (fun _ hx => absurd rfl hx)
          refine g_iinc C 5 (v := l5_87 + 1) (lv' := [(5, .int (l5_87 + 1)), (7, .int x19), (0, .ref (a 0)), (1, .int p0), (2, .int p1), (3, .int p2), (6, .int l6_87)]) dX11_enroll_140 rfl rfl (g_nlt hn rfl) rfl ?_
          refine gW.locals [2, 3, 4, 5, 0, 6] rfl ?_
          exact H143 thrown_87 v26 nodes_87 nodeMany_87 codes_87 details_87 levelMany_87 given_87 (l5_87 + 1) l6_87 hf
  have H46 : ∀ (n46 : Nat), ∀ (thrown_46 : Int32) (g_46 : Nat → Int32) (nodes_46 : Nat → Int32) (nodeMany_46 : Int32) (codes_46 : Nat → Int32) (details_46 : Nat → Int32) (levelMany_46 : Int32) (given_46 : Nat → Int32) (l5_46 : Int32) (l6_46 : Int32), F_X11_enroll_L46 p0 p2 n46 thrown_46 g_46 nodes_46 nodeMany_46 codes_46 details_46 levelMany_46 given_46 l5_46 l6_46 = some val → gW X Q 0 0 ((wM (x_y X) a thrown_46 g_46 saved hasSaved coef nodes_46 nodeMany_46 isDeep codes_46 details_46 levelMany_46 given_46 paper papered tape taped wrongAt at_ value readPlace readValue readEpoch)) [(0, .ref (a 0)), (1, .int p0), (2, .int p1), (3, .int p2), (5, .int l5_46), (6, .int l6_46)] [] 46 := by
    intro n46
    induction n46 with
    | zero => intros; rename_i hf; cases hf
    | succ n46 ih =>
      intro thrown_46 g_46 nodes_46 nodeMany_46 codes_46 details_46 levelMany_46 given_46 l5_46 l6_46 hf
      have H46 := ih
      rw [F_X11_enroll_L46] at hf
      refine g_iload C 5 dX11_enroll_46 rfl ?_
      refine g_iconst C (v := 3) dX11_enroll_48 (by decide) ?_
      refine g_icmp_ge C 84 dX11_enroll_49 (by decide) (fun c12 => ?_) (fun c12 => ?_)
      · have hf := opt_pos c12 hf
        refine g_iconst C (v := 0) dX11_enroll_84 (by decide) ?_
        refine g_istore C (lv' := [(6, .int 0), (0, .ref (a 0)), (1, .int p0), (2, .int p1), (3, .int p2), (5, .int l5_46)]) dX11_enroll_85 (g_nlt hn rfl) rfl ?_
        refine gW.locals [1, 2, 3, 4, 5, 0] rfl ?_
        exact H87 1000 thrown_46 g_46 nodes_46 nodeMany_46 codes_46 details_46 levelMany_46 given_46 l5_46 0 hf
      · have hf := opt_neg c12 hf
        refine g_aload_n C 0 dX11_enroll_52 rfl ?_
        refine g_get C 0 11 rfl rfl wiX11 (by decide) mw_6_194 rfl rfl dX11_enroll_53 ?_
        refine g_iload C 5 dX11_enroll_56 rfl ?_
        refine g_aload_n C 0 dX11_enroll_58 rfl ?_
        refine g_iload_n C 1 dX11_enroll_59 rfl ?_
        refine g_aload_n C 0 dX11_enroll_60 rfl ?_
        refine g_iload_n C 1 dX11_enroll_61 rfl ?_
        refine g_iconst C (v := 1) dX11_enroll_62 (by decide) ?_
        obtain ⟨v28, h29, hf⟩ := opt_bind hf
        refine g_callV C (c_X11_of (l := x_l X) (D := x_D X) (cy := x_y X) (a := a) (thrown := thrown_46) (g := g_46) (saved := saved) (hasSaved := hasSaved) (coef := coef) (nodes := nodes_46) (nodeMany := nodeMany_46) (isDeep := isDeep) (codes := codes_46) (details := details_46) (levelMany := levelMany_46) (given := given_46) (paper := paper) (papered := papered) (tape := tape) (taped := taped) (wrongAt := wrongAt) (at_ := at_) (value := value) (readPlace := readPlace) (readValue := readValue) (readEpoch := readEpoch) (p0 := p0) (p1 := 1) h29) (As := [.int p0, .int 1]) (rest := [.int p0, .ref (a 0), .int l6_46, .ref (a 7)]) (wr := []) (ws' := fun _ => (wM (x_y X) a thrown_46 g_46 saved hasSaved coef nodes_46 nodeMany_46 isDeep codes_46 details_46 levelMany_46 given_46 paper papered tape taped wrongAt at_ value readPlace readValue readEpoch)) (st' := fun _ => [.int v28, .int p0, .ref (a 0), .int l6_46, .ref (a 7)]) (ci := 12) 2 0 ⟨_, rfl⟩ rfl rfl mw_7_69 mw_1_9 mw_7_66 mw_7_68 mp_35 hd_X11_of rfl (g_rm hR rfl rfl) [0, 1, 2, 3, 4, 5, 6, 7, 8, 9] [] [0, 1, 2, 3, 4, 5, 6, 7, 8, 9] ⟨rfl, rfl, rfl, rfl, by decide, gRoIn_0, rfl, fun _ => rfl⟩ rfl (Nat.le_of_ble_eq_true rfl) dX11_enroll_63 (g_rc hR (Nat.le_of_ble_eq_true rfl) (Nat.le_of_ble_eq_true rfl)) (ck' := 0) (sk' := 0) rfl rfl (fun _ => rfl) (fun _ _ => ?_) (fun _ hx => absurd rfl hx)
        refine g_iconst C (v := 3) dX11_enroll_66 (by decide) ?_
        refine g_iload_n C 3 dX11_enroll_67 rfl ?_
        refine g_imul C dX11_enroll_68 ?_
        refine g_iconst C (v := 1) dX11_enroll_69 (by decide) ?_
        refine g_iadd C dX11_enroll_70 ?_
        refine g_iload C 5 dX11_enroll_71 rfl ?_
        refine g_iadd C dX11_enroll_73 ?_
        obtain ⟨v30, h31, hf⟩ := opt_bind hf
        refine g_callV C (c_X11_valueAt (l := x_l X) (D := x_D X) (cy := x_y X) (a := a) (thrown := thrown_46) (g := g_46) (saved := saved) (hasSaved := hasSaved) (coef := coef) (nodes := nodes_46) (nodeMany := nodeMany_46) (isDeep := isDeep) (codes := codes_46) (details := details_46) (levelMany := levelMany_46) (given := given_46) (paper := paper) (papered := papered) (tape := tape) (taped := taped) (wrongAt := wrongAt) (at_ := at_) (value := value) (readPlace := readPlace) (readValue := readValue) (readEpoch := readEpoch) (p0 := p0) (p1 := v28) (p2 := (((3 : Int32) * p2) + 1) + l6_46) h31) (As := [.int p0, .int v28, .int ((((3 : Int32) * p2) + 1) + l6_46)]) (rest := [.int l6_46, .ref (a 7)]) (wr := []) (ws' := fun _ => (wM (x_y X) a thrown_46 g_46 saved hasSaved coef nodes_46 nodeMany_46 isDeep codes_46 details_46 levelMany_46 given_46 paper papered tape taped wrongAt at_ value readPlace readValue readEpoch)) (st' := fun _ => [.int v30, .int l6_46, .ref (a 7)]) (ci := 12) 3 0 ⟨_, rfl⟩ rfl rfl mw_7_184 mw_1_9 mw_7_181 mw_7_183 mp_56 hd_X11_valueAt rfl (g_rm hR rfl rfl) [0, 1, 2, 3, 4, 5, 6, 7, 8, 9] [] [0, 1, 2, 3, 4, 5, 6, 7, 8, 9] ⟨rfl, rfl, rfl, rfl, by decide, gRoIn_0, rfl, fun _ => rfl⟩ rfl (Nat.le_of_ble_eq_true rfl) dX11_enroll_74 (g_rc hR (Nat.le_of_ble_eq_true rfl) (Nat.le_of_ble_eq_true rfl)) (ck' := 0) (sk' := 0) rfl rfl (fun _ => rfl) (fun _ _ => ?_) (fun _ hx => absurd rfl hx)
        obtain ⟨c32, hf⟩ := gg_of hf
        obtain ⟨f33, ef33, hf⟩ := opt_let hf
        refine g_iast C (ws' := (wM (x_y X) a thrown_46 g_46 saved hasSaved coef nodes_46 nodeMany_46 isDeep codes_46 details_46 levelMany_46 f33 paper papered tape taped wrongAt at_ value readPlace readValue readEpoch)) 7 rfl (gi_in c32) (by rw [ef33]; rfl) dX11_enroll_77 ?_
        refine g_iinc C 5 (v := l6_46 + 1) (lv' := [(6, .int (l6_46 + 1)), (0, .ref (a 0)), (1, .int p0), (2, .int p1), (3, .int p2), (5, .int l5_46)]) dX11_enroll_78 rfl rfl (g_nlt hn rfl) rfl ?_
        refine g_goto C 46 dX11_enroll_81 (by decide) ?_
        refine gW.locals [1, 2, 3, 4, 5, 0] rfl ?_
        exact H46 thrown_46 g_46 nodes_46 nodeMany_46 codes_46 details_46 levelMany_46 f33 l5_46 (l6_46 + 1) hf
  show gW X Q 0 0 ((wM (x_y X) a thrown g saved hasSaved coef nodes nodeMany isDeep codes details levelMany given paper papered tape taped wrongAt at_ value readPlace readValue readEpoch)) [(0, .ref (a 0)), (1, .int p0), (2, .int p1), (3, .int p2)] [] 0
  refine g_iload_n C 1 dX11_enroll_0 rfl ?_
  obtain ⟨v1, h2, hf⟩ := opt_bind hf
  refine g_callS C (c_X11_isSlot (l := x_l X) (D := x_D X) (cy := x_y X) (p0 := p0) h2) (As := [.int p0]) (rest := []) (wr := (wM (x_y X) a thrown g saved hasSaved coef nodes nodeMany isDeep codes details levelMany given paper papered tape taped wrongAt at_ value readPlace readValue readEpoch)) (ws' := fun _ => (wM (x_y X) a thrown g saved hasSaved coef nodes nodeMany isDeep codes details levelMany given paper papered tape taped wrongAt at_ value readPlace readValue readEpoch)) (st' := fun _ => [.int v1]) 1 mw_7_83 mw_1_9 mw_7_81 mw_7_82 hd_X11_isSlot rfl (g_rm hR rfl rfl) [] [0, 1, 2, 3, 4, 5, 6, 7, 8, 9] [0, 1, 2, 3, 4, 5, 6, 7, 8, 9] ⟨rfl, rfl, rfl, rfl, by decide, gRoIn_0, rfl, fun _ => rfl⟩ rfl (Nat.le_of_ble_eq_true rfl) dX11_enroll_1 (g_rc hR (Nat.le_of_ble_eq_true rfl) (Nat.le_of_ble_eq_true rfl)) (ck' := 0) (sk' := 0) rfl rfl (fun _ => rfl) (fun _ _ => ?_) (fun _ hx => absurd rfl hx)
  refine g_if_eq C 14 dX11_enroll_4 (by decide) (fun c3 => ?_) (fun c3 => ?_)
  · have hf := opt_pos c3 hf
    exact H14 thrown g nodes nodeMany codes details levelMany given hf
  · have hf := opt_neg c3 hf
    refine g_iload_n C 3 dX11_enroll_7 rfl ?_
    obtain ⟨v6, h7, hf⟩ := opt_bind hf
    refine g_callS C (c_X11_isMember (l := x_l X) (D := x_D X) (cy := x_y X) (p0 := p2) h7) (As := [.int p2]) (rest := []) (wr := (wM (x_y X) a thrown g saved hasSaved coef nodes nodeMany isDeep codes details levelMany given paper papered tape taped wrongAt at_ value readPlace readValue readEpoch)) (ws' := fun _ => (wM (x_y X) a thrown g saved hasSaved coef nodes nodeMany isDeep codes details levelMany given paper papered tape taped wrongAt at_ value readPlace readValue readEpoch)) (st' := fun _ => [.int v6]) 1 mw_7_38 mw_1_9 mw_7_36 mw_7_37 hd_X11_isMember rfl (g_rm hR rfl rfl) [] [0, 1, 2, 3, 4, 5, 6, 7, 8, 9] [0, 1, 2, 3, 4, 5, 6, 7, 8, 9] ⟨rfl, rfl, rfl, rfl, by decide, gRoIn_0, rfl, fun _ => rfl⟩ rfl (Nat.le_of_ble_eq_true rfl) dX11_enroll_8 (g_rc hR (Nat.le_of_ble_eq_true rfl) (Nat.le_of_ble_eq_true rfl)) (ck' := 0) (sk' := 0) rfl rfl (fun _ => rfl) (fun _ _ => ?_) (fun _ hx => absurd rfl hx)
    refine g_if_ne C 20 dX11_enroll_11 (by decide) (fun c8 => ?_) (fun c8 => ?_)
    · have hf := opt_neg c8 hf
      refine g_aload_n C 0 dX11_enroll_20 rfl ?_
      refine g_iload_n C 1 dX11_enroll_21 rfl ?_
      refine g_iload_n C 2 dX11_enroll_22 rfl ?_
      obtain ⟨v9, h10, hf⟩ := opt_bind hf
      refine g_callV C (c_X11_lacksOpen (l := x_l X) (D := x_D X) (cy := x_y X) (a := a) (thrown := thrown) (g := g) (saved := saved) (hasSaved := hasSaved) (coef := coef) (nodes := nodes) (nodeMany := nodeMany) (isDeep := isDeep) (codes := codes) (details := details) (levelMany := levelMany) (given := given) (paper := paper) (papered := papered) (tape := tape) (taped := taped) (wrongAt := wrongAt) (at_ := at_) (value := value) (readPlace := readPlace) (readValue := readValue) (readEpoch := readEpoch) (p0 := p0) (p1 := p1) h10) (As := [.int p0, .int p1]) (rest := []) (wr := []) (ws' := fun _ => (wM (x_y X) a thrown g saved hasSaved coef v9.2.1 v9.2.2.1 isDeep v9.2.2.2.1 v9.2.2.2.2.1 v9.2.2.2.2.2 given paper papered tape taped wrongAt at_ value readPlace readValue readEpoch)) (st' := fun _ => [.int v9.1]) (ci := 12) 2 0 ⟨_, rfl⟩ rfl rfl mw_7_141 mw_1_9 mw_7_138 mw_7_140 mp_46 hd_X11_lacksOpen rfl (g_rm hR rfl rfl) [0, 1, 2, 3, 4, 5, 6, 7, 8, 9] [] [0, 1, 2, 3, 4, 5, 6, 7, 8, 9] ⟨rfl, rfl, rfl, rfl, by decide, gRoIn_0, rfl, fun _ => rfl⟩ rfl (Nat.le_of_ble_eq_true rfl) dX11_enroll_23 (g_rc hR (Nat.le_of_ble_eq_true rfl) (Nat.le_of_ble_eq_true rfl)) (ck' := 0) (sk' := 0) rfl rfl (fun _ => rfl) (fun _ _ => ?_) (fun _ hx => absurd rfl hx)
      refine g_istore C (lv' := [(4, .int v9.1), (0, .ref (a 0)), (1, .int p0), (2, .int p1), (3, .int p2)]) dX11_enroll_26 (g_nlt hn rfl) rfl ?_
      refine g_iload C 0 dX11_enroll_28 rfl ?_
      refine g_if_eq C 40 dX11_enroll_30 (by decide) (fun c11 => ?_) (fun c11 => ?_)
      · have hf := opt_pos c11 hf
        refine g_iconst C (v := 0) dX11_enroll_40 (by decide) ?_
        refine g_istore C (lv' := [(5, .int 0), (4, .int v9.1), (0, .ref (a 0)), (1, .int p0), (2, .int p1), (3, .int p2)]) dX11_enroll_41 (g_nlt hn rfl) rfl ?_
        refine g_iconst C (v := 0) dX11_enroll_43 (by decide) ?_
        refine g_istore C (lv' := [(6, .int 0), (5, .int 0), (4, .int v9.1), (0, .ref (a 0)), (1, .int p0), (2, .int p1), (3, .int p2)]) dX11_enroll_44 (g_nlt hn rfl) rfl ?_
        refine gW.locals [3, 4, 5, 6, 1, 0] rfl ?_
        exact H46 1000 thrown g v9.2.1 v9.2.2.1 v9.2.2.2.1 v9.2.2.2.2.1 v9.2.2.2.2.2 given 0 0 hf
      · have hf := opt_neg c11 hf
        refine g_aload_n C 1 dX11_enroll_33 rfl ?_
        refine g_iload C 0 dX11_enroll_34 rfl ?_
        obtain ⟨v34, h35, hf⟩ := opt_bind hf
        refine g_callV C (c_X11_fails (l := x_l X) (D := x_D X) (cy := x_y X) (a := a) (thrown := thrown) (g := g) (saved := saved) (hasSaved := hasSaved) (coef := coef) (nodes := v9.2.1) (nodeMany := v9.2.2.1) (isDeep := isDeep) (codes := v9.2.2.2.1) (details := v9.2.2.2.2.1) (levelMany := v9.2.2.2.2.2) (given := given) (paper := paper) (papered := papered) (tape := tape) (taped := taped) (wrongAt := wrongAt) (at_ := at_) (value := value) (readPlace := readPlace) (readValue := readValue) (readEpoch := readEpoch) (p0 := v9.1) h35) (As := [.int v9.1]) (rest := []) (wr := []) (ws' := fun _ => (wM (x_y X) a v34.2 g saved hasSaved coef v9.2.1 v9.2.2.1 isDeep v9.2.2.2.1 v9.2.2.2.2.1 v9.2.2.2.2.2 given paper papered tape taped wrongAt at_ value readPlace readValue readEpoch)) (st' := fun _ => [.int v34.1]) (ci := 12) 1 0 ⟨_, rfl⟩ rfl rfl mw_7_45 mw_1_9 mw_7_42 mw_7_44 mp_31 hd_X11_fails rfl (g_rm hR rfl rfl) [0, 1, 2, 3, 4, 5, 6, 7, 8, 9] [] [0, 1, 2, 3, 4, 5, 6, 7, 8, 9] ⟨rfl, rfl, rfl, rfl, by decide, gRoIn_0, rfl, fun _ => rfl⟩ rfl (Nat.le_of_ble_eq_true rfl) dX11_enroll_36 (g_rc hR (Nat.le_of_ble_eq_true rfl) (Nat.le_of_ble_eq_true rfl)) (ck' := 0) (sk' := 0) rfl rfl (fun _ => rfl) (fun _ _ => ?_) (fun _ hx => absurd rfl hx)
        obtain rfl := Option.some.inj hf
        exact g_iret C E () dX11_enroll_39 rfl rfl rfl (Nat.le_of_ble_eq_true rfl) (Nat.le_of_ble_eq_true rfl)
    · have hf := opt_pos c8 hf
      exact H14 thrown g nodes nodeMany codes details levelMany given hf
/-! X11_open -/
theorem hd_X11_open : yX11_open.cls ≠ "java/lang/invoke/MethodHandle" ∧ yX11_open.cls ≠ "java/lang/invoke/VarHandle" ∧ (parseMethodDescriptor yX11_open.desc).map (fun d => d.parameters.length) = some 2 := by decide +kernel
def F_X11_open (thrown : Int32) (g : Nat → Int32) (nodes : Nat → Int32) (nodeMany : Int32) (codes : Nat → Int32) (details : Nat → Int32) (levelMany : Int32) (p0 : Int32) (p1 : Int32) : Option (Int32 × Int32 × (Nat → Int32) × (Nat → Int32) × Int32 × (Nat → Int32) × (Nat → Int32) × Int32) := (F_X11_lacksOpen g nodes nodeMany codes details levelMany p0 p1).bind fun v1 => if v1.1 = 0 then ((F_X11_happens g ((700 : Int32) + p0)).bind fun v4 => (F_X11_of v4 p0 1).bind fun v6 => (F_X11_valueAt v4 v1.2.1 p0 v6 0).bind fun v8 => (F_X11_done thrown v8).bind fun v10 => some (v10.1, v10.2, v4, v1.2.1, v1.2.2.1, v1.2.2.2.1, v1.2.2.2.2.1, v1.2.2.2.2.2)) else ((F_X11_fails thrown v1.1).bind fun v12 => some (v12.1, v12.2, g, v1.2.1, v1.2.2.1, v1.2.2.2.1, v1.2.2.2.2.1, v1.2.2.2.2.2))
set_option maxRecDepth 100000 in
set_option maxHeartbeats 4000000 in
theorem c_X11_open {l : Launch} {D : va_G} {cy : Nat → ClassId} {a : Nat → Nat} {thrown : Int32} {g : Nat → Int32} {saved : Nat → Int32} {hasSaved : Int32} {coef : Nat → Int32} {nodes : Nat → Int32} {nodeMany : Int32} {isDeep : Int32} {codes : Nat → Int32} {details : Nat → Int32} {levelMany : Int32} {given : Nat → Int32} {paper : Nat → Int32} {papered : Int32} {tape : Nat → Int32} {taped : Int32} {wrongAt : Int32} {at_ : Int32} {value : Int32} {readPlace : Int32} {readValue : Int32} {readEpoch : Int32} {p0 : Int32} {p1 : Int32}  {val : Int32 × Int32 × (Nat → Int32) × (Nat → Int32) × Int32 × (Nat → Int32) × (Nat → Int32) × Int32} (hf : F_X11_open thrown g nodes nodeMany codes details levelMany p0 p1 = some val) : gCt l D cy yX11_open cX11_open 4 (some .int) 74 2518 0 0 [.ref (a 0), .int p0, .int p1] [] ((wM cy a thrown g saved hasSaved coef nodes nodeMany isDeep codes details levelMany given paper papered tape taped wrongAt at_ value readPlace readValue readEpoch)) 0 (fun _ : Unit => some (.int val.1)) (fun _ => (wM cy a val.2.1 val.2.2.1 saved hasSaved coef val.2.2.2.1 val.2.2.2.2.1 isDeep val.2.2.2.2.2.1 val.2.2.2.2.2.2.1 val.2.2.2.2.2.2.2 given paper papered tape taped wrongAt at_ value readPlace readValue readEpoch)) := by
  refine g_begin (by decide +kernel) (Nat.le_of_ble_eq_true rfl) ?_
  intro X Q hl hR hD hy hro hn C hin E
  subst hl; subst hD; subst hy
  replace C : gC X "SecretVaultModel" cX11_open (some .int) := C
  unfold F_X11_open at hf
  show gW X Q 0 0 ((wM (x_y X) a thrown g saved hasSaved coef nodes nodeMany isDeep codes details levelMany given paper papered tape taped wrongAt at_ value readPlace readValue readEpoch)) [(0, .ref (a 0)), (1, .int p0), (2, .int p1)] [] 0
  refine g_aload_n C 0 dX11_open_0 rfl ?_
  refine g_iload_n C 1 dX11_open_1 rfl ?_
  refine g_iload_n C 2 dX11_open_2 rfl ?_
  obtain ⟨v1, h2, hf⟩ := opt_bind hf
  refine g_callV C (c_X11_lacksOpen (l := x_l X) (D := x_D X) (cy := x_y X) (a := a) (thrown := thrown) (g := g) (saved := saved) (hasSaved := hasSaved) (coef := coef) (nodes := nodes) (nodeMany := nodeMany) (isDeep := isDeep) (codes := codes) (details := details) (levelMany := levelMany) (given := given) (paper := paper) (papered := papered) (tape := tape) (taped := taped) (wrongAt := wrongAt) (at_ := at_) (value := value) (readPlace := readPlace) (readValue := readValue) (readEpoch := readEpoch) (p0 := p0) (p1 := p1) h2) (As := [.int p0, .int p1]) (rest := []) (wr := []) (ws' := fun _ => (wM (x_y X) a thrown g saved hasSaved coef v1.2.1 v1.2.2.1 isDeep v1.2.2.2.1 v1.2.2.2.2.1 v1.2.2.2.2.2 given paper papered tape taped wrongAt at_ value readPlace readValue readEpoch)) (st' := fun _ => [.int v1.1]) (ci := 12) 2 0 ⟨_, rfl⟩ rfl rfl mw_7_141 mw_1_9 mw_7_138 mw_7_140 mp_46 hd_X11_lacksOpen rfl (g_rm hR rfl rfl) [0, 1, 2, 3, 4, 5, 6, 7, 8, 9] [] [0, 1, 2, 3, 4, 5, 6, 7, 8, 9] ⟨rfl, rfl, rfl, rfl, by decide, gRoIn_0, rfl, fun _ => rfl⟩ rfl (Nat.le_of_ble_eq_true rfl) dX11_open_3 (g_rc hR (Nat.le_of_ble_eq_true rfl) (Nat.le_of_ble_eq_true rfl)) (ck' := 0) (sk' := 0) rfl rfl (fun _ => rfl) (fun _ _ => ?_) (fun _ hx => absurd rfl hx)
  refine g_istore_n C (lv' := [(3, .int v1.1), (0, .ref (a 0)), (1, .int p0), (2, .int p1)]) dX11_open_6 (g_nlt hn rfl) rfl ?_
  refine g_iload_n C 0 dX11_open_7 rfl ?_
  refine g_if_eq C 17 dX11_open_8 (by decide) (fun c3 => ?_) (fun c3 => ?_)
  · have hf := opt_pos c3 hf
    refine g_aload_n C 1 dX11_open_17 rfl ?_
    refine g_sipush C (v := 700) dX11_open_18 (by decide) ?_
    refine g_iload_n C 2 dX11_open_21 rfl ?_
    refine g_iadd C dX11_open_22 ?_
    obtain ⟨v4, h5, hf⟩ := opt_bind hf
    refine g_callV C (c_X11_happens (l := x_l X) (D := x_D X) (cy := x_y X) (a := a) (thrown := thrown) (g := g) (saved := saved) (hasSaved := hasSaved) (coef := coef) (nodes := v1.2.1) (nodeMany := v1.2.2.1) (isDeep := isDeep) (codes := v1.2.2.2.1) (details := v1.2.2.2.2.1) (levelMany := v1.2.2.2.2.2) (given := given) (paper := paper) (papered := papered) (tape := tape) (taped := taped) (wrongAt := wrongAt) (at_ := at_) (value := value) (readPlace := readPlace) (readValue := readValue) (readEpoch := readEpoch) (p0 := (700 : Int32) + p0) h5) (As := [.int ((700 : Int32) + p0)]) (rest := []) (wr := []) (ws' := fun _ => (wM (x_y X) a thrown v4 saved hasSaved coef v1.2.1 v1.2.2.1 isDeep v1.2.2.2.1 v1.2.2.2.2.1 v1.2.2.2.2.2 given paper papered tape taped wrongAt at_ value readPlace readValue readEpoch)) (st' := fun _ => []) (ci := 12) 1 0 ⟨_, rfl⟩ rfl rfl mw_7_118 mw_1_9 mw_7_115 mw_7_117 mp_44 hd_X11_happens rfl (g_rm hR rfl rfl) [0, 1, 2, 3, 4, 5, 6, 7, 8, 9] [] [0, 1, 2, 3, 4, 5, 6, 7, 8, 9] ⟨rfl, rfl, rfl, rfl, by decide, gRoIn_0, rfl, fun _ => rfl⟩ rfl (Nat.le_of_ble_eq_true rfl) dX11_open_23 (g_rc hR (Nat.le_of_ble_eq_true rfl) (Nat.le_of_ble_eq_true rfl)) (ck' := 0) (sk' := 0) rfl rfl (fun _ => rfl) (fun _ _ => ?_) (fun _ hx => absurd rfl hx)
    refine g_aload_n C 1 dX11_open_26 rfl ?_
    refine g_aload_n C 1 dX11_open_27 rfl ?_
    refine g_iload_n C 2 dX11_open_28 rfl ?_
    refine g_aload_n C 1 dX11_open_29 rfl ?_
    refine g_iload_n C 2 dX11_open_30 rfl ?_
    refine g_iconst C (v := 1) dX11_open_31 (by decide) ?_
    obtain ⟨v6, h7, hf⟩ := opt_bind hf
    refine g_callV C (c_X11_of (l := x_l X) (D := x_D X) (cy := x_y X) (a := a) (thrown := thrown) (g := v4) (saved := saved) (hasSaved := hasSaved) (coef := coef) (nodes := v1.2.1) (nodeMany := v1.2.2.1) (isDeep := isDeep) (codes := v1.2.2.2.1) (details := v1.2.2.2.2.1) (levelMany := v1.2.2.2.2.2) (given := given) (paper := paper) (papered := papered) (tape := tape) (taped := taped) (wrongAt := wrongAt) (at_ := at_) (value := value) (readPlace := readPlace) (readValue := readValue) (readEpoch := readEpoch) (p0 := p0) (p1 := 1) h7) (As := [.int p0, .int 1]) (rest := [.int p0, .ref (a 0), .ref (a 0)]) (wr := []) (ws' := fun _ => (wM (x_y X) a thrown v4 saved hasSaved coef v1.2.1 v1.2.2.1 isDeep v1.2.2.2.1 v1.2.2.2.2.1 v1.2.2.2.2.2 given paper papered tape taped wrongAt at_ value readPlace readValue readEpoch)) (st' := fun _ => [.int v6, .int p0, .ref (a 0), .ref (a 0)]) (ci := 12) 2 0 ⟨_, rfl⟩ rfl rfl mw_7_69 mw_1_9 mw_7_66 mw_7_68 mp_35 hd_X11_of rfl (g_rm hR rfl rfl) [0, 1, 2, 3, 4, 5, 6, 7, 8, 9] [] [0, 1, 2, 3, 4, 5, 6, 7, 8, 9] ⟨rfl, rfl, rfl, rfl, by decide, gRoIn_0, rfl, fun _ => rfl⟩ rfl (Nat.le_of_ble_eq_true rfl) dX11_open_32 (g_rc hR (Nat.le_of_ble_eq_true rfl) (Nat.le_of_ble_eq_true rfl)) (ck' := 0) (sk' := 0) rfl rfl (fun _ => rfl) (fun _ _ => ?_) (fun _ hx => absurd rfl hx)
    refine g_iconst C (v := 0) dX11_open_35 (by decide) ?_
    obtain ⟨v8, h9, hf⟩ := opt_bind hf
    refine g_callV C (c_X11_valueAt (l := x_l X) (D := x_D X) (cy := x_y X) (a := a) (thrown := thrown) (g := v4) (saved := saved) (hasSaved := hasSaved) (coef := coef) (nodes := v1.2.1) (nodeMany := v1.2.2.1) (isDeep := isDeep) (codes := v1.2.2.2.1) (details := v1.2.2.2.2.1) (levelMany := v1.2.2.2.2.2) (given := given) (paper := paper) (papered := papered) (tape := tape) (taped := taped) (wrongAt := wrongAt) (at_ := at_) (value := value) (readPlace := readPlace) (readValue := readValue) (readEpoch := readEpoch) (p0 := p0) (p1 := v6) (p2 := 0) h9) (As := [.int p0, .int v6, .int 0]) (rest := [.ref (a 0)]) (wr := []) (ws' := fun _ => (wM (x_y X) a thrown v4 saved hasSaved coef v1.2.1 v1.2.2.1 isDeep v1.2.2.2.1 v1.2.2.2.2.1 v1.2.2.2.2.2 given paper papered tape taped wrongAt at_ value readPlace readValue readEpoch)) (st' := fun _ => [.int v8, .ref (a 0)]) (ci := 12) 3 0 ⟨_, rfl⟩ rfl rfl mw_7_184 mw_1_9 mw_7_181 mw_7_183 mp_56 hd_X11_valueAt rfl (g_rm hR rfl rfl) [0, 1, 2, 3, 4, 5, 6, 7, 8, 9] [] [0, 1, 2, 3, 4, 5, 6, 7, 8, 9] ⟨rfl, rfl, rfl, rfl, by decide, gRoIn_0, rfl, fun _ => rfl⟩ rfl (Nat.le_of_ble_eq_true rfl) dX11_open_36 (g_rc hR (Nat.le_of_ble_eq_true rfl) (Nat.le_of_ble_eq_true rfl)) (ck' := 0) (sk' := 0) rfl rfl (fun _ => rfl) (fun _ _ => ?_) (fun _ hx => absurd rfl hx)
    obtain ⟨v10, h11, hf⟩ := opt_bind hf
    refine g_callV C (c_X11_done (l := x_l X) (D := x_D X) (cy := x_y X) (a := a) (thrown := thrown) (g := v4) (saved := saved) (hasSaved := hasSaved) (coef := coef) (nodes := v1.2.1) (nodeMany := v1.2.2.1) (isDeep := isDeep) (codes := v1.2.2.2.1) (details := v1.2.2.2.2.1) (levelMany := v1.2.2.2.2.2) (given := given) (paper := paper) (papered := papered) (tape := tape) (taped := taped) (wrongAt := wrongAt) (at_ := at_) (value := value) (readPlace := readPlace) (readValue := readValue) (readEpoch := readEpoch) (p0 := v8) h11) (As := [.int v8]) (rest := []) (wr := []) (ws' := fun _ => (wM (x_y X) a v10.2 v4 saved hasSaved coef v1.2.1 v1.2.2.1 isDeep v1.2.2.2.1 v1.2.2.2.2.1 v1.2.2.2.2.2 given paper papered tape taped wrongAt at_ value readPlace readValue readEpoch)) (st' := fun _ => [.int v10.1]) (ci := 12) 1 0 ⟨_, rfl⟩ rfl rfl mw_7_22 mw_1_9 mw_7_19 mw_7_21 mp_29 hd_X11_done rfl (g_rm hR rfl rfl) [0, 1, 2, 3, 4, 5, 6, 7, 8, 9] [] [0, 1, 2, 3, 4, 5, 6, 7, 8, 9] ⟨rfl, rfl, rfl, rfl, by decide, gRoIn_0, rfl, fun _ => rfl⟩ rfl (Nat.le_of_ble_eq_true rfl) dX11_open_39 (g_rc hR (Nat.le_of_ble_eq_true rfl) (Nat.le_of_ble_eq_true rfl)) (ck' := 0) (sk' := 0) rfl rfl (fun _ => rfl) (fun _ _ => ?_) (fun _ hx => absurd rfl hx)
    obtain rfl := Option.some.inj hf
    exact g_iret C E () dX11_open_42 rfl rfl rfl (Nat.le_of_ble_eq_true rfl) (Nat.le_of_ble_eq_true rfl)
  · have hf := opt_neg c3 hf
    refine g_aload_n C 1 dX11_open_11 rfl ?_
    refine g_iload_n C 0 dX11_open_12 rfl ?_
    obtain ⟨v12, h13, hf⟩ := opt_bind hf
    refine g_callV C (c_X11_fails (l := x_l X) (D := x_D X) (cy := x_y X) (a := a) (thrown := thrown) (g := g) (saved := saved) (hasSaved := hasSaved) (coef := coef) (nodes := v1.2.1) (nodeMany := v1.2.2.1) (isDeep := isDeep) (codes := v1.2.2.2.1) (details := v1.2.2.2.2.1) (levelMany := v1.2.2.2.2.2) (given := given) (paper := paper) (papered := papered) (tape := tape) (taped := taped) (wrongAt := wrongAt) (at_ := at_) (value := value) (readPlace := readPlace) (readValue := readValue) (readEpoch := readEpoch) (p0 := v1.1) h13) (As := [.int v1.1]) (rest := []) (wr := []) (ws' := fun _ => (wM (x_y X) a v12.2 g saved hasSaved coef v1.2.1 v1.2.2.1 isDeep v1.2.2.2.1 v1.2.2.2.2.1 v1.2.2.2.2.2 given paper papered tape taped wrongAt at_ value readPlace readValue readEpoch)) (st' := fun _ => [.int v12.1]) (ci := 12) 1 0 ⟨_, rfl⟩ rfl rfl mw_7_45 mw_1_9 mw_7_42 mw_7_44 mp_31 hd_X11_fails rfl (g_rm hR rfl rfl) [0, 1, 2, 3, 4, 5, 6, 7, 8, 9] [] [0, 1, 2, 3, 4, 5, 6, 7, 8, 9] ⟨rfl, rfl, rfl, rfl, by decide, gRoIn_0, rfl, fun _ => rfl⟩ rfl (Nat.le_of_ble_eq_true rfl) dX11_open_13 (g_rc hR (Nat.le_of_ble_eq_true rfl) (Nat.le_of_ble_eq_true rfl)) (ck' := 0) (sk' := 0) rfl rfl (fun _ => rfl) (fun _ _ => ?_) (fun _ hx => absurd rfl hx)
    obtain rfl := Option.some.inj hf
    exact g_iret C E () dX11_open_16 rfl rfl rfl (Nat.le_of_ble_eq_true rfl) (Nat.le_of_ble_eq_true rfl)
/-! X11_readsAll -/
theorem hd_X11_readsAll : yX11_readsAll.cls ≠ "java/lang/invoke/MethodHandle" ∧ yX11_readsAll.cls ≠ "java/lang/invoke/VarHandle" ∧ (parseMethodDescriptor yX11_readsAll.desc).map (fun d => d.parameters.length) = some 1 := by decide +kernel
/-! X11_readsPolicy -/
theorem hd_X11_readsPolicy : yX11_readsPolicy.cls ≠ "java/lang/invoke/MethodHandle" ∧ yX11_readsPolicy.cls ≠ "java/lang/invoke/VarHandle" ∧ (parseMethodDescriptor yX11_readsPolicy.desc).map (fun d => d.parameters.length) = some 1 := by decide +kernel
theorem hd_X11_readsPart : yX11_readsPart.cls ≠ "java/lang/invoke/MethodHandle" ∧ yX11_readsPart.cls ≠ "java/lang/invoke/VarHandle" ∧ (parseMethodDescriptor yX11_readsPart.desc).map (fun d => d.parameters.length) = some 1 := by decide +kernel
def F_X11_readsAll_L26   (at__26 : Int32) (l1_26 : Int32) : Option (Int32 × Int32) := gg (gnar .boolean l1_26) (some (l1_26, at__26))
def F_X11_readsAll_L5 (P : (Nat → Int32) → Int32 → Int32 → Option (Int32 × Int32)) (tape : Nat → Int32) (taped : Int32)  : Nat → Int32 → Int32 → Option (Int32 × Int32)
  | 0, _, _ => none
  | n + 1, at__5, l1_5 => if l1_5 = 0 then (F_X11_readsAll_L26 at__5 l1_5) else ((F_X11_eats tape taped at__5 38).bind fun v5 => if v5.1 = 0 then (F_X11_readsAll_L26 v5.2 l1_5) else ((P tape taped v5.2).bind fun v8 => F_X11_readsAll_L5 P tape taped n v8.2 v8.1))
def F_X11_readsAll (P : (Nat → Int32) → Int32 → Int32 → Option (Int32 × Int32)) (tape : Nat → Int32) (taped : Int32) (at_ : Int32) : Option (Int32 × Int32) := (P tape taped at_).bind fun v1 => F_X11_readsAll_L5 P tape taped 1000 v1.2 v1.1
set_option maxRecDepth 100000 in
set_option maxHeartbeats 4000000 in
theorem c_X11_readsAll {l : Launch} {D : va_G} {cy : Nat → ClassId} {d : Nat} {P : (Nat → Int32) → Int32 → Int32 → Option (Int32 × Int32)} (hP : ∀ {a : Nat → Nat} {thrown : Int32} {g : Nat → Int32} {saved : Nat → Int32} {hasSaved : Int32} {coef : Nat → Int32} {nodes : Nat → Int32} {nodeMany : Int32} {isDeep : Int32} {codes : Nat → Int32} {details : Nat → Int32} {levelMany : Int32} {given : Nat → Int32} {paper : Nat → Int32} {papered : Int32} {tape : Nat → Int32} {taped : Int32} {wrongAt : Int32} {at_ : Int32} {value : Int32} {readPlace : Int32} {readValue : Int32} {readEpoch : Int32}   {val : Int32 × Int32}, P tape taped at_ = some val → gCt l D cy yX11_readsPart cX11_readsPart 2 (some .boolean) (3 * d + 6) (90 * d + 500) 0 0 [.ref (a 0)] [] ((wM cy a thrown g saved hasSaved coef nodes nodeMany isDeep codes details levelMany given paper papered tape taped wrongAt at_ value readPlace readValue readEpoch)) 0 (fun _ : Unit => some (.int val.1)) (fun _ => (wM cy a thrown g saved hasSaved coef nodes nodeMany isDeep codes details levelMany given paper papered tape taped wrongAt val.2 value readPlace readValue readEpoch))) {a : Nat → Nat} {thrown : Int32} {g : Nat → Int32} {saved : Nat → Int32} {hasSaved : Int32} {coef : Nat → Int32} {nodes : Nat → Int32} {nodeMany : Int32} {isDeep : Int32} {codes : Nat → Int32} {details : Nat → Int32} {levelMany : Int32} {given : Nat → Int32} {paper : Nat → Int32} {papered : Int32} {tape : Nat → Int32} {taped : Int32} {wrongAt : Int32} {at_ : Int32} {value : Int32} {readPlace : Int32} {readValue : Int32} {readEpoch : Int32}   {val : Int32 × Int32} (hf : F_X11_readsAll P tape taped at_ = some val) : gCt l D cy yX11_readsAll cX11_readsAll 2 (some .boolean) (3 * d + 7) (90 * d + 530) 0 0 [.ref (a 0)] [] ((wM cy a thrown g saved hasSaved coef nodes nodeMany isDeep codes details levelMany given paper papered tape taped wrongAt at_ value readPlace readValue readEpoch)) 0 (fun _ : Unit => some (.int val.1)) (fun _ => (wM cy a thrown g saved hasSaved coef nodes nodeMany isDeep codes details levelMany given paper papered tape taped wrongAt val.2 value readPlace readValue readEpoch)) := by
  refine g_begin (by decide +kernel) (Nat.le_of_ble_eq_true rfl) ?_
  intro X Q hl hR hD hy hro hn C hin E
  subst hl; subst hD; subst hy
  replace C : gC X "SecretVaultModel" cX11_readsAll (some .boolean) := C
  unfold F_X11_readsAll at hf
  have H26 : ∀ (at__26 : Int32) (l1_26 : Int32), F_X11_readsAll_L26 at__26 l1_26 = some val → gW X Q 0 0 ((wM (x_y X) a thrown g saved hasSaved coef nodes nodeMany isDeep codes details levelMany given paper papered tape taped wrongAt at__26 value readPlace readValue readEpoch)) [(0, .ref (a 0)), (1, .int l1_26)] [] 26 := by
    intro at__26 l1_26 hf
    unfold F_X11_readsAll_L26 at hf
    refine g_iload_n C 1 dX11_readsAll_26 rfl ?_
    obtain ⟨c4, hf⟩ := gg_of hf
    obtain rfl := Option.some.inj hf
    exact g_zret C E () (gnar_of c4) dX11_readsAll_27 rfl rfl rfl (Nat.le_of_ble_eq_true rfl) (Nat.le_of_ble_eq_true rfl)
  have H5 : ∀ (n5 : Nat), ∀ (at__5 : Int32) (l1_5 : Int32), F_X11_readsAll_L5 P tape taped n5 at__5 l1_5 = some val → gW X Q 0 0 ((wM (x_y X) a thrown g saved hasSaved coef nodes nodeMany isDeep codes details levelMany given paper papered tape taped wrongAt at__5 value readPlace readValue readEpoch)) [(0, .ref (a 0)), (1, .int l1_5)] [] 5 := by
    intro n5
    induction n5 with
    | zero => intros; rename_i hf; cases hf
    | succ n5 ih =>
      intro at__5 l1_5 hf
      have H5 := ih
      rw [F_X11_readsAll_L5] at hf
      refine g_iload_n C 1 dX11_readsAll_5 rfl ?_
      refine g_if_eq C 26 dX11_readsAll_6 (by decide) (fun c3 => ?_) (fun c3 => ?_)
      · have hf := opt_pos c3 hf
        exact H26 at__5 l1_5 hf
      · have hf := opt_neg c3 hf
        refine g_aload_n C 0 dX11_readsAll_9 rfl ?_
        refine g_bipush C (v := 38) dX11_readsAll_10 (by decide) ?_
        obtain ⟨v5, h6, hf⟩ := opt_bind hf
        refine g_callV C (c_X11_eats (l := x_l X) (D := x_D X) (cy := x_y X) (a := a) (thrown := thrown) (g := g) (saved := saved) (hasSaved := hasSaved) (coef := coef) (nodes := nodes) (nodeMany := nodeMany) (isDeep := isDeep) (codes := codes) (details := details) (levelMany := levelMany) (given := given) (paper := paper) (papered := papered) (tape := tape) (taped := taped) (wrongAt := wrongAt) (at_ := at__5) (value := value) (readPlace := readPlace) (readValue := readValue) (readEpoch := readEpoch) (p0 := 38) h6) (As := [.int 38]) (rest := []) (wr := []) (ws' := fun _ => (wM (x_y X) a thrown g saved hasSaved coef nodes nodeMany isDeep codes details levelMany given paper papered tape taped wrongAt v5.2 value readPlace readValue readEpoch)) (st' := fun _ => [.int v5.1]) (ci := 12) 1 0 ⟨_, rfl⟩ rfl rfl mw_8_41 mw_1_9 mw_8_38 mw_8_40 mp_66 hd_X11_eats rfl (g_rmo hR (by omega) (by omega)) [0, 1, 2, 3, 4, 5, 6, 7, 8, 9] [] [0, 1, 2, 3, 4, 5, 6, 7, 8, 9] ⟨rfl, rfl, rfl, rfl, by decide, gRoIn_0, rfl, fun _ => rfl⟩ rfl (Nat.le_of_ble_eq_true rfl) dX11_readsAll_12 (g_rc hR (Nat.le_of_ble_eq_true rfl) (Nat.le_of_ble_eq_true rfl)) (ck' := 0) (sk' := 0) rfl rfl (fun _ => rfl) (fun _ _ => ?_) (fun _ hx => absurd rfl hx)
        refine g_if_eq C 26 dX11_readsAll_15 (by decide) (fun c7 => ?_) (fun c7 => ?_)
        · have hf := opt_pos c7 hf
          exact H26 v5.2 l1_5 hf
        · have hf := opt_neg c7 hf
          refine g_aload_n C 0 dX11_readsAll_18 rfl ?_
          obtain ⟨v8, h9, hf⟩ := opt_bind hf
          refine g_callS C (hP  (a := a) (thrown := thrown) (g := g) (saved := saved) (hasSaved := hasSaved) (coef := coef) (nodes := nodes) (nodeMany := nodeMany) (isDeep := isDeep) (codes := codes) (details := details) (levelMany := levelMany) (given := given) (paper := paper) (papered := papered) (tape := tape) (taped := taped) (wrongAt := wrongAt) (at_ := v5.2) (value := value) (readPlace := readPlace) (readValue := readValue) (readEpoch := readEpoch) h9) (As := [.ref (a 0)]) (rest := []) (wr := []) (ws' := fun _ => (wM (x_y X) a thrown g saved hasSaved coef nodes nodeMany isDeep codes details levelMany given paper papered tape taped wrongAt v8.2 value readPlace readValue readEpoch)) (st' := fun _ => [.int v8.1]) 1 mw_8_58 mw_1_9 mw_8_56 mw_8_57 hd_X11_readsPart rfl (g_rmo hR (by omega) (by omega)) [0, 1, 2, 3, 4, 5, 6, 7, 8, 9] [] [0, 1, 2, 3, 4, 5, 6, 7, 8, 9] ⟨rfl, rfl, rfl, rfl, by decide, gRoIn_0, rfl, fun _ => rfl⟩ rfl (Nat.le_of_ble_eq_true rfl) dX11_readsAll_19 (g_rc hR (Nat.le_of_ble_eq_true rfl) (Nat.le_of_ble_eq_true rfl)) (ck' := 0) (sk' := 0) rfl rfl (fun _ => rfl) (fun _ _ => ?_) (fun _ hx => absurd rfl hx)
          refine g_istore_n C (lv' := [(1, .int v8.1), (0, .ref (a 0))]) dX11_readsAll_22 (g_nlt hn rfl) rfl ?_
          refine g_goto C 5 dX11_readsAll_23 (by decide) ?_
          refine gW.locals [1, 0] rfl ?_
          exact H5 v8.2 v8.1 hf
  show gW X Q 0 0 ((wM (x_y X) a thrown g saved hasSaved coef nodes nodeMany isDeep codes details levelMany given paper papered tape taped wrongAt at_ value readPlace readValue readEpoch)) [(0, .ref (a 0))] [] 0
  refine g_aload_n C 0 dX11_readsAll_0 rfl ?_
  obtain ⟨v1, h2, hf⟩ := opt_bind hf
  refine g_callS C (hP  (a := a) (thrown := thrown) (g := g) (saved := saved) (hasSaved := hasSaved) (coef := coef) (nodes := nodes) (nodeMany := nodeMany) (isDeep := isDeep) (codes := codes) (details := details) (levelMany := levelMany) (given := given) (paper := paper) (papered := papered) (tape := tape) (taped := taped) (wrongAt := wrongAt) (at_ := at_) (value := value) (readPlace := readPlace) (readValue := readValue) (readEpoch := readEpoch) h2) (As := [.ref (a 0)]) (rest := []) (wr := []) (ws' := fun _ => (wM (x_y X) a thrown g saved hasSaved coef nodes nodeMany isDeep codes details levelMany given paper papered tape taped wrongAt v1.2 value readPlace readValue readEpoch)) (st' := fun _ => [.int v1.1]) 1 mw_8_58 mw_1_9 mw_8_56 mw_8_57 hd_X11_readsPart rfl (g_rmo hR (by omega) (by omega)) [0, 1, 2, 3, 4, 5, 6, 7, 8, 9] [] [0, 1, 2, 3, 4, 5, 6, 7, 8, 9] ⟨rfl, rfl, rfl, rfl, by decide, gRoIn_0, rfl, fun _ => rfl⟩ rfl (Nat.le_of_ble_eq_true rfl) dX11_readsAll_1 (g_rc hR (Nat.le_of_ble_eq_true rfl) (Nat.le_of_ble_eq_true rfl)) (ck' := 0) (sk' := 0) rfl rfl (fun _ => rfl) (fun _ _ => ?_) (fun _ hx => absurd rfl hx)
  refine g_istore_n C (lv' := [(1, .int v1.1), (0, .ref (a 0))]) dX11_readsAll_4 (g_nlt hn rfl) rfl ?_
  refine gW.locals [1, 0] rfl ?_
  exact H5 1000 v1.2 v1.1 hf
def F_X11_readsPolicy_L26   (at__26 : Int32) (l1_26 : Int32) : Option (Int32 × Int32) := gg (gnar .boolean l1_26) (some (l1_26, at__26))
def F_X11_readsPolicy_L5 (P : (Nat → Int32) → Int32 → Int32 → Option (Int32 × Int32)) (tape : Nat → Int32) (taped : Int32)  : Nat → Int32 → Int32 → Option (Int32 × Int32)
  | 0, _, _ => none
  | n + 1, at__5, l1_5 => if l1_5 = 0 then (F_X11_readsPolicy_L26 at__5 l1_5) else ((F_X11_eats tape taped at__5 124).bind fun v5 => if v5.1 = 0 then (F_X11_readsPolicy_L26 v5.2 l1_5) else ((F_X11_readsAll P tape taped v5.2).bind fun v8 => F_X11_readsPolicy_L5 P tape taped n v8.2 v8.1))
def F_X11_readsPolicy (P : (Nat → Int32) → Int32 → Int32 → Option (Int32 × Int32)) (tape : Nat → Int32) (taped : Int32) (at_ : Int32) : Option (Int32 × Int32) := (F_X11_readsAll P tape taped at_).bind fun v1 => F_X11_readsPolicy_L5 P tape taped 1000 v1.2 v1.1
set_option maxRecDepth 100000 in
set_option maxHeartbeats 4000000 in
theorem c_X11_readsPolicy {l : Launch} {D : va_G} {cy : Nat → ClassId} {d : Nat} {P : (Nat → Int32) → Int32 → Int32 → Option (Int32 × Int32)} (hP : ∀ {a : Nat → Nat} {thrown : Int32} {g : Nat → Int32} {saved : Nat → Int32} {hasSaved : Int32} {coef : Nat → Int32} {nodes : Nat → Int32} {nodeMany : Int32} {isDeep : Int32} {codes : Nat → Int32} {details : Nat → Int32} {levelMany : Int32} {given : Nat → Int32} {paper : Nat → Int32} {papered : Int32} {tape : Nat → Int32} {taped : Int32} {wrongAt : Int32} {at_ : Int32} {value : Int32} {readPlace : Int32} {readValue : Int32} {readEpoch : Int32}   {val : Int32 × Int32}, P tape taped at_ = some val → gCt l D cy yX11_readsPart cX11_readsPart 2 (some .boolean) (3 * d + 6) (90 * d + 500) 0 0 [.ref (a 0)] [] ((wM cy a thrown g saved hasSaved coef nodes nodeMany isDeep codes details levelMany given paper papered tape taped wrongAt at_ value readPlace readValue readEpoch)) 0 (fun _ : Unit => some (.int val.1)) (fun _ => (wM cy a thrown g saved hasSaved coef nodes nodeMany isDeep codes details levelMany given paper papered tape taped wrongAt val.2 value readPlace readValue readEpoch))) {a : Nat → Nat} {thrown : Int32} {g : Nat → Int32} {saved : Nat → Int32} {hasSaved : Int32} {coef : Nat → Int32} {nodes : Nat → Int32} {nodeMany : Int32} {isDeep : Int32} {codes : Nat → Int32} {details : Nat → Int32} {levelMany : Int32} {given : Nat → Int32} {paper : Nat → Int32} {papered : Int32} {tape : Nat → Int32} {taped : Int32} {wrongAt : Int32} {at_ : Int32} {value : Int32} {readPlace : Int32} {readValue : Int32} {readEpoch : Int32}   {val : Int32 × Int32} (hf : F_X11_readsPolicy P tape taped at_ = some val) : gCt l D cy yX11_readsPolicy cX11_readsPolicy 2 (some .boolean) (3 * d + 8) (90 * d + 560) 0 0 [.ref (a 0)] [] ((wM cy a thrown g saved hasSaved coef nodes nodeMany isDeep codes details levelMany given paper papered tape taped wrongAt at_ value readPlace readValue readEpoch)) 0 (fun _ : Unit => some (.int val.1)) (fun _ => (wM cy a thrown g saved hasSaved coef nodes nodeMany isDeep codes details levelMany given paper papered tape taped wrongAt val.2 value readPlace readValue readEpoch)) := by
  refine g_begin (by decide +kernel) (Nat.le_of_ble_eq_true rfl) ?_
  intro X Q hl hR hD hy hro hn C hin E
  subst hl; subst hD; subst hy
  replace C : gC X "SecretVaultModel" cX11_readsPolicy (some .boolean) := C
  unfold F_X11_readsPolicy at hf
  have H26 : ∀ (at__26 : Int32) (l1_26 : Int32), F_X11_readsPolicy_L26 at__26 l1_26 = some val → gW X Q 0 0 ((wM (x_y X) a thrown g saved hasSaved coef nodes nodeMany isDeep codes details levelMany given paper papered tape taped wrongAt at__26 value readPlace readValue readEpoch)) [(0, .ref (a 0)), (1, .int l1_26)] [] 26 := by
    intro at__26 l1_26 hf
    unfold F_X11_readsPolicy_L26 at hf
    refine g_iload_n C 1 dX11_readsPolicy_26 rfl ?_
    obtain ⟨c4, hf⟩ := gg_of hf
    obtain rfl := Option.some.inj hf
    exact g_zret C E () (gnar_of c4) dX11_readsPolicy_27 rfl rfl rfl (Nat.le_of_ble_eq_true rfl) (Nat.le_of_ble_eq_true rfl)
  have H5 : ∀ (n5 : Nat), ∀ (at__5 : Int32) (l1_5 : Int32), F_X11_readsPolicy_L5 P tape taped n5 at__5 l1_5 = some val → gW X Q 0 0 ((wM (x_y X) a thrown g saved hasSaved coef nodes nodeMany isDeep codes details levelMany given paper papered tape taped wrongAt at__5 value readPlace readValue readEpoch)) [(0, .ref (a 0)), (1, .int l1_5)] [] 5 := by
    intro n5
    induction n5 with
    | zero => intros; rename_i hf; cases hf
    | succ n5 ih =>
      intro at__5 l1_5 hf
      have H5 := ih
      rw [F_X11_readsPolicy_L5] at hf
      refine g_iload_n C 1 dX11_readsPolicy_5 rfl ?_
      refine g_if_eq C 26 dX11_readsPolicy_6 (by decide) (fun c3 => ?_) (fun c3 => ?_)
      · have hf := opt_pos c3 hf
        exact H26 at__5 l1_5 hf
      · have hf := opt_neg c3 hf
        refine g_aload_n C 0 dX11_readsPolicy_9 rfl ?_
        refine g_bipush C (v := 124) dX11_readsPolicy_10 (by decide) ?_
        obtain ⟨v5, h6, hf⟩ := opt_bind hf
        refine g_callV C (c_X11_eats (l := x_l X) (D := x_D X) (cy := x_y X) (a := a) (thrown := thrown) (g := g) (saved := saved) (hasSaved := hasSaved) (coef := coef) (nodes := nodes) (nodeMany := nodeMany) (isDeep := isDeep) (codes := codes) (details := details) (levelMany := levelMany) (given := given) (paper := paper) (papered := papered) (tape := tape) (taped := taped) (wrongAt := wrongAt) (at_ := at__5) (value := value) (readPlace := readPlace) (readValue := readValue) (readEpoch := readEpoch) (p0 := 124) h6) (As := [.int 124]) (rest := []) (wr := []) (ws' := fun _ => (wM (x_y X) a thrown g saved hasSaved coef nodes nodeMany isDeep codes details levelMany given paper papered tape taped wrongAt v5.2 value readPlace readValue readEpoch)) (st' := fun _ => [.int v5.1]) (ci := 12) 1 0 ⟨_, rfl⟩ rfl rfl mw_8_41 mw_1_9 mw_8_38 mw_8_40 mp_66 hd_X11_eats rfl (g_rmo hR (by omega) (by omega)) [0, 1, 2, 3, 4, 5, 6, 7, 8, 9] [] [0, 1, 2, 3, 4, 5, 6, 7, 8, 9] ⟨rfl, rfl, rfl, rfl, by decide, gRoIn_0, rfl, fun _ => rfl⟩ rfl (Nat.le_of_ble_eq_true rfl) dX11_readsPolicy_12 (g_rc hR (Nat.le_of_ble_eq_true rfl) (Nat.le_of_ble_eq_true rfl)) (ck' := 0) (sk' := 0) rfl rfl (fun _ => rfl) (fun _ _ => ?_) (fun _ hx => absurd rfl hx)
        refine g_if_eq C 26 dX11_readsPolicy_15 (by decide) (fun c7 => ?_) (fun c7 => ?_)
        · have hf := opt_pos c7 hf
          exact H26 v5.2 l1_5 hf
        · have hf := opt_neg c7 hf
          refine g_aload_n C 0 dX11_readsPolicy_18 rfl ?_
          obtain ⟨v8, h9, hf⟩ := opt_bind hf
          refine g_callS C (c_X11_readsAll (d := d) (P := P) hP (l := x_l X) (D := x_D X) (cy := x_y X) (a := a) (thrown := thrown) (g := g) (saved := saved) (hasSaved := hasSaved) (coef := coef) (nodes := nodes) (nodeMany := nodeMany) (isDeep := isDeep) (codes := codes) (details := details) (levelMany := levelMany) (given := given) (paper := paper) (papered := papered) (tape := tape) (taped := taped) (wrongAt := wrongAt) (at_ := v5.2) (value := value) (readPlace := readPlace) (readValue := readValue) (readEpoch := readEpoch) h9) (As := [.ref (a 0)]) (rest := []) (wr := []) (ws' := fun _ => (wM (x_y X) a thrown g saved hasSaved coef nodes nodeMany isDeep codes details levelMany given paper papered tape taped wrongAt v8.2 value readPlace readValue readEpoch)) (st' := fun _ => [.int v8.1]) 1 mw_8_55 mw_1_9 mw_8_53 mw_8_54 hd_X11_readsAll rfl (g_rmo hR (by omega) (by omega)) [0, 1, 2, 3, 4, 5, 6, 7, 8, 9] [] [0, 1, 2, 3, 4, 5, 6, 7, 8, 9] ⟨rfl, rfl, rfl, rfl, by decide, gRoIn_0, rfl, fun _ => rfl⟩ rfl (Nat.le_of_ble_eq_true rfl) dX11_readsPolicy_19 (g_rc hR (Nat.le_of_ble_eq_true rfl) (Nat.le_of_ble_eq_true rfl)) (ck' := 0) (sk' := 0) rfl rfl (fun _ => rfl) (fun _ _ => ?_) (fun _ hx => absurd rfl hx)
          refine g_istore_n C (lv' := [(1, .int v8.1), (0, .ref (a 0))]) dX11_readsPolicy_22 (g_nlt hn rfl) rfl ?_
          refine g_goto C 5 dX11_readsPolicy_23 (by decide) ?_
          refine gW.locals [1, 0] rfl ?_
          exact H5 v8.2 v8.1 hf
  show gW X Q 0 0 ((wM (x_y X) a thrown g saved hasSaved coef nodes nodeMany isDeep codes details levelMany given paper papered tape taped wrongAt at_ value readPlace readValue readEpoch)) [(0, .ref (a 0))] [] 0
  refine g_aload_n C 0 dX11_readsPolicy_0 rfl ?_
  obtain ⟨v1, h2, hf⟩ := opt_bind hf
  refine g_callS C (c_X11_readsAll (d := d) (P := P) hP (l := x_l X) (D := x_D X) (cy := x_y X) (a := a) (thrown := thrown) (g := g) (saved := saved) (hasSaved := hasSaved) (coef := coef) (nodes := nodes) (nodeMany := nodeMany) (isDeep := isDeep) (codes := codes) (details := details) (levelMany := levelMany) (given := given) (paper := paper) (papered := papered) (tape := tape) (taped := taped) (wrongAt := wrongAt) (at_ := at_) (value := value) (readPlace := readPlace) (readValue := readValue) (readEpoch := readEpoch) h2) (As := [.ref (a 0)]) (rest := []) (wr := []) (ws' := fun _ => (wM (x_y X) a thrown g saved hasSaved coef nodes nodeMany isDeep codes details levelMany given paper papered tape taped wrongAt v1.2 value readPlace readValue readEpoch)) (st' := fun _ => [.int v1.1]) 1 mw_8_55 mw_1_9 mw_8_53 mw_8_54 hd_X11_readsAll rfl (g_rmo hR (by omega) (by omega)) [0, 1, 2, 3, 4, 5, 6, 7, 8, 9] [] [0, 1, 2, 3, 4, 5, 6, 7, 8, 9] ⟨rfl, rfl, rfl, rfl, by decide, gRoIn_0, rfl, fun _ => rfl⟩ rfl (Nat.le_of_ble_eq_true rfl) dX11_readsPolicy_1 (g_rc hR (Nat.le_of_ble_eq_true rfl) (Nat.le_of_ble_eq_true rfl)) (ck' := 0) (sk' := 0) rfl rfl (fun _ => rfl) (fun _ _ => ?_) (fun _ hx => absurd rfl hx)
  refine g_istore_n C (lv' := [(1, .int v1.1), (0, .ref (a 0))]) dX11_readsPolicy_4 (g_nlt hn rfl) rfl ?_
  refine gW.locals [1, 0] rfl ?_
  exact H5 1000 v1.2 v1.1 hf
def FB_X11_readsPart_L85   (at__85 : Int32) (s0_85 : Int32) : Option (Int32 × Int32) := gg (gnar .boolean s0_85) (some (s0_85, at__85))
def FB_X11_readsPart_L74   (at__74 : Int32) (l1_74 : Int32) : Option (Int32 × Int32) := if 55 < l1_74 then (FB_X11_readsPart_L85 at__74 0) else (FB_X11_readsPart_L85 at__74 1)
def FB_X11_readsPart_L121   (at__121 : Int32) : Option (Int32 × Int32) := some (0, at__121)
def FB_X11_readsPart_L123 (P : (Nat → Int32) → Int32 → Int32 → Option (Int32 × Int32)) (tape : Nat → Int32) (taped : Int32)  : Nat → Int32 → Option (Int32 × Int32)
  | 0, _ => none
  | n + 1, at__123 => (F_X11_eats tape taped at__123 44).bind fun v24 => if v24.1 = 0 then ((F_X11_eats tape taped v24.2 41).bind fun v27 => gg (gnar .boolean v27.1) (some (v27.1, v27.2))) else ((F_X11_readsPolicy P tape taped v24.2).bind fun v30 => if v30.1 = 0 then (some (0, v30.2)) else (FB_X11_readsPart_L123 P tape taped n v30.2))
def FB_X11_readsPart_L30   (at__30 : Int32) (s0_30 : Int32) : Option (Int32 × Int32) := gg (gnar .boolean s0_30) (some (s0_30, at__30))
def FB_X11_readsPart_L29   (at__29 : Int32) : Option (Int32 × Int32) := FB_X11_readsPart_L30 at__29 0
def FB_X11_readsPart (P : (Nat → Int32) → Int32 → Int32 → Option (Int32 × Int32)) (tape : Nat → Int32) (taped : Int32) (at_ : Int32) : Option (Int32 × Int32) := (F_X11_eats tape taped at_ 40).bind fun v1 => if v1.1 = 0 then ((F_X11_here tape taped v1.2).bind fun v4 => (F_X11_in v4 48 57).bind fun v6 => if v6 = 0 then (some (0, v1.2)) else ((F_X11_here tape taped (v1.2 + 1)).bind fun v9 => if v9 = 111 then (if v4 = 48 then (FB_X11_readsPart_L74 (v1.2 + 1) v4) else ((F_X11_eats tape taped ((v1.2 + 1) + 1) 102).bind fun v15 => if v15.1 = 0 then (FB_X11_readsPart_L121 v15.2) else ((F_X11_eats tape taped v15.2 40).bind fun v18 => if v18.1 = 0 then (FB_X11_readsPart_L121 v18.2) else ((F_X11_readsPolicy P tape taped v18.2).bind fun v21 => if v21.1 = 0 then (FB_X11_readsPart_L121 v21.2) else (FB_X11_readsPart_L123 P tape taped 1000 v21.2))))) else (FB_X11_readsPart_L74 (v1.2 + 1) v4))) else ((F_X11_readsPolicy P tape taped v1.2).bind fun v33 => if v33.1 = 0 then (FB_X11_readsPart_L29 v33.2) else ((F_X11_eats tape taped v33.2 41).bind fun v37 => if v37.1 = 0 then (FB_X11_readsPart_L29 v37.2) else (FB_X11_readsPart_L30 v37.2 1)))
set_option maxRecDepth 100000 in
set_option maxHeartbeats 4000000 in
theorem cB_X11_readsPart {l : Launch} {D : va_G} {cy : Nat → ClassId} {d : Nat} {P : (Nat → Int32) → Int32 → Int32 → Option (Int32 × Int32)} (hP : ∀ {a : Nat → Nat} {thrown : Int32} {g : Nat → Int32} {saved : Nat → Int32} {hasSaved : Int32} {coef : Nat → Int32} {nodes : Nat → Int32} {nodeMany : Int32} {isDeep : Int32} {codes : Nat → Int32} {details : Nat → Int32} {levelMany : Int32} {given : Nat → Int32} {paper : Nat → Int32} {papered : Int32} {tape : Nat → Int32} {taped : Int32} {wrongAt : Int32} {at_ : Int32} {value : Int32} {readPlace : Int32} {readValue : Int32} {readEpoch : Int32}   {val : Int32 × Int32}, P tape taped at_ = some val → gCt l D cy yX11_readsPart cX11_readsPart 2 (some .boolean) (3 * d + 6) (90 * d + 500) 0 0 [.ref (a 0)] [] ((wM cy a thrown g saved hasSaved coef nodes nodeMany isDeep codes details levelMany given paper papered tape taped wrongAt at_ value readPlace readValue readEpoch)) 0 (fun _ : Unit => some (.int val.1)) (fun _ => (wM cy a thrown g saved hasSaved coef nodes nodeMany isDeep codes details levelMany given paper papered tape taped wrongAt val.2 value readPlace readValue readEpoch))) {a : Nat → Nat} {thrown : Int32} {g : Nat → Int32} {saved : Nat → Int32} {hasSaved : Int32} {coef : Nat → Int32} {nodes : Nat → Int32} {nodeMany : Int32} {isDeep : Int32} {codes : Nat → Int32} {details : Nat → Int32} {levelMany : Int32} {given : Nat → Int32} {paper : Nat → Int32} {papered : Int32} {tape : Nat → Int32} {taped : Int32} {wrongAt : Int32} {at_ : Int32} {value : Int32} {readPlace : Int32} {readValue : Int32} {readEpoch : Int32}   {val : Int32 × Int32} (hf : FB_X11_readsPart P tape taped at_ = some val) : gCt l D cy yX11_readsPart cX11_readsPart 2 (some .boolean) (3 * (d + 1) + 6) (90 * (d + 1) + 500) 0 0 [.ref (a 0)] [] ((wM cy a thrown g saved hasSaved coef nodes nodeMany isDeep codes details levelMany given paper papered tape taped wrongAt at_ value readPlace readValue readEpoch)) 0 (fun _ : Unit => some (.int val.1)) (fun _ => (wM cy a thrown g saved hasSaved coef nodes nodeMany isDeep codes details levelMany given paper papered tape taped wrongAt val.2 value readPlace readValue readEpoch)) := by
  refine g_begin (by decide +kernel) (Nat.le_of_ble_eq_true rfl) ?_
  intro X Q hl hR hD hy hro hn C hin E
  subst hl; subst hD; subst hy
  replace C : gC X "SecretVaultModel" cX11_readsPart (some .boolean) := C
  unfold FB_X11_readsPart at hf
  have H85 : ∀ (at__85 : Int32) (s0_85 : Int32), FB_X11_readsPart_L85 at__85 s0_85 = some val → gW X Q 0 0 ((wM (x_y X) a thrown g saved hasSaved coef nodes nodeMany isDeep codes details levelMany given paper papered tape taped wrongAt at__85 value readPlace readValue readEpoch)) [(0, .ref (a 0))] [.int s0_85] 85 := by
    intro at__85 s0_85 hf
    unfold FB_X11_readsPart_L85 at hf
    obtain ⟨c13, hf⟩ := gg_of hf
    obtain rfl := Option.some.inj hf
    exact g_zret C E () (gnar_of c13) dX11_readsPart_85 rfl rfl rfl (Nat.le_of_ble_eq_true rfl) (Nat.le_of_ble_eq_true rfl)
  have H74 : ∀ (at__74 : Int32) (l1_74 : Int32), FB_X11_readsPart_L74 at__74 l1_74 = some val → gW X Q 0 0 ((wM (x_y X) a thrown g saved hasSaved coef nodes nodeMany isDeep codes details levelMany given paper papered tape taped wrongAt at__74 value readPlace readValue readEpoch)) [(0, .ref (a 0)), (1, .int l1_74)] [] 74 := by
    intro at__74 l1_74 hf
    unfold FB_X11_readsPart_L74 at hf
    refine g_iload_n C 1 dX11_readsPart_74 rfl ?_
    refine g_bipush C (v := 55) dX11_readsPart_75 (by decide) ?_
    refine g_icmp_gt C 84 dX11_readsPart_77 (by decide) (fun c12 => ?_) (fun c12 => ?_)
    · have hf := opt_pos c12 hf
      refine g_iconst C (v := 0) dX11_readsPart_84 (by decide) ?_
      refine gW.locals [0] rfl ?_
      exact H85 at__74 0 hf
    · have hf := opt_neg c12 hf
      refine g_iconst C (v := 1) dX11_readsPart_80 (by decide) ?_
      refine g_goto C 85 dX11_readsPart_81 (by decide) ?_
      refine gW.locals [0] rfl ?_
      exact H85 at__74 1 hf
  have H121 : ∀ (at__121 : Int32), FB_X11_readsPart_L121 at__121 = some val → gW X Q 0 0 ((wM (x_y X) a thrown g saved hasSaved coef nodes nodeMany isDeep codes details levelMany given paper papered tape taped wrongAt at__121 value readPlace readValue readEpoch)) [(0, .ref (a 0))] [] 121 := by
    intro at__121 hf
    unfold FB_X11_readsPart_L121 at hf
    refine g_iconst C (v := 0) dX11_readsPart_121 (by decide) ?_
    obtain rfl := Option.some.inj hf
    exact g_zret C E () rfl dX11_readsPart_122 rfl rfl rfl (Nat.le_of_ble_eq_true rfl) (Nat.le_of_ble_eq_true rfl)
  have H123 : ∀ (n123 : Nat), ∀ (at__123 : Int32), FB_X11_readsPart_L123 P tape taped n123 at__123 = some val → gW X Q 0 0 ((wM (x_y X) a thrown g saved hasSaved coef nodes nodeMany isDeep codes details levelMany given paper papered tape taped wrongAt at__123 value readPlace readValue readEpoch)) [(0, .ref (a 0))] [] 123 := by
    intro n123
    induction n123 with
    | zero => intros; rename_i hf; cases hf
    | succ n123 ih =>
      intro at__123 hf
      have H123 := ih
      rw [FB_X11_readsPart_L123] at hf
      refine g_aload_n C 0 dX11_readsPart_123 rfl ?_
      refine g_bipush C (v := 44) dX11_readsPart_124 (by decide) ?_
      obtain ⟨v24, h25, hf⟩ := opt_bind hf
      refine g_callV C (c_X11_eats (l := x_l X) (D := x_D X) (cy := x_y X) (a := a) (thrown := thrown) (g := g) (saved := saved) (hasSaved := hasSaved) (coef := coef) (nodes := nodes) (nodeMany := nodeMany) (isDeep := isDeep) (codes := codes) (details := details) (levelMany := levelMany) (given := given) (paper := paper) (papered := papered) (tape := tape) (taped := taped) (wrongAt := wrongAt) (at_ := at__123) (value := value) (readPlace := readPlace) (readValue := readValue) (readEpoch := readEpoch) (p0 := 44) h25) (As := [.int 44]) (rest := []) (wr := []) (ws' := fun _ => (wM (x_y X) a thrown g saved hasSaved coef nodes nodeMany isDeep codes details levelMany given paper papered tape taped wrongAt v24.2 value readPlace readValue readEpoch)) (st' := fun _ => [.int v24.1]) (ci := 12) 1 0 ⟨_, rfl⟩ rfl rfl mw_8_41 mw_1_9 mw_8_38 mw_8_40 mp_66 hd_X11_eats rfl (g_rmo hR (by omega) (by omega)) [0, 1, 2, 3, 4, 5, 6, 7, 8, 9] [] [0, 1, 2, 3, 4, 5, 6, 7, 8, 9] ⟨rfl, rfl, rfl, rfl, by decide, gRoIn_0, rfl, fun _ => rfl⟩ rfl (Nat.le_of_ble_eq_true rfl) dX11_readsPart_126 (g_rc hR (Nat.le_of_ble_eq_true rfl) (Nat.le_of_ble_eq_true rfl)) (ck' := 0) (sk' := 0) rfl rfl (fun _ => rfl) (fun _ _ => ?_) (fun _ hx => absurd rfl hx)
      refine g_if_eq C 141 dX11_readsPart_129 (by decide) (fun c26 => ?_) (fun c26 => ?_)
      · have hf := opt_pos c26 hf
        refine g_aload_n C 0 dX11_readsPart_141 rfl ?_
        refine g_bipush C (v := 41) dX11_readsPart_142 (by decide) ?_
        obtain ⟨v27, h28, hf⟩ := opt_bind hf
        refine g_callV C (c_X11_eats (l := x_l X) (D := x_D X) (cy := x_y X) (a := a) (thrown := thrown) (g := g) (saved := saved) (hasSaved := hasSaved) (coef := coef) (nodes := nodes) (nodeMany := nodeMany) (isDeep := isDeep) (codes := codes) (details := details) (levelMany := levelMany) (given := given) (paper := paper) (papered := papered) (tape := tape) (taped := taped) (wrongAt := wrongAt) (at_ := v24.2) (value := value) (readPlace := readPlace) (readValue := readValue) (readEpoch := readEpoch) (p0 := 41) h28) (As := [.int 41]) (rest := []) (wr := []) (ws' := fun _ => (wM (x_y X) a thrown g saved hasSaved coef nodes nodeMany isDeep codes details levelMany given paper papered tape taped wrongAt v27.2 value readPlace readValue readEpoch)) (st' := fun _ => [.int v27.1]) (ci := 12) 1 0 ⟨_, rfl⟩ rfl rfl mw_8_41 mw_1_9 mw_8_38 mw_8_40 mp_66 hd_X11_eats rfl (g_rmo hR (by omega) (by omega)) [0, 1, 2, 3, 4, 5, 6, 7, 8, 9] [] [0, 1, 2, 3, 4, 5, 6, 7, 8, 9] ⟨rfl, rfl, rfl, rfl, by decide, gRoIn_0, rfl, fun _ => rfl⟩ rfl (Nat.le_of_ble_eq_true rfl) dX11_readsPart_144 (g_rc hR (Nat.le_of_ble_eq_true rfl) (Nat.le_of_ble_eq_true rfl)) (ck' := 0) (sk' := 0) rfl rfl (fun _ => rfl) (fun _ _ => ?_) (fun _ hx => absurd rfl hx)
        obtain ⟨c29, hf⟩ := gg_of hf
        obtain rfl := Option.some.inj hf
        exact g_zret C E () (gnar_of c29) dX11_readsPart_147 rfl rfl rfl (Nat.le_of_ble_eq_true rfl) (Nat.le_of_ble_eq_true rfl)
      · have hf := opt_neg c26 hf
        refine g_aload_n C 0 dX11_readsPart_132 rfl ?_
        obtain ⟨v30, h31, hf⟩ := opt_bind hf
        refine g_callS C (c_X11_readsPolicy (d := d) (P := P) hP (l := x_l X) (D := x_D X) (cy := x_y X) (a := a) (thrown := thrown) (g := g) (saved := saved) (hasSaved := hasSaved) (coef := coef) (nodes := nodes) (nodeMany := nodeMany) (isDeep := isDeep) (codes := codes) (details := details) (levelMany := levelMany) (given := given) (paper := paper) (papered := papered) (tape := tape) (taped := taped) (wrongAt := wrongAt) (at_ := v24.2) (value := value) (readPlace := readPlace) (readValue := readValue) (readEpoch := readEpoch) h31) (As := [.ref (a 0)]) (rest := []) (wr := []) (ws' := fun _ => (wM (x_y X) a thrown g saved hasSaved coef nodes nodeMany isDeep codes details levelMany given paper papered tape taped wrongAt v30.2 value readPlace readValue readEpoch)) (st' := fun _ => [.int v30.1]) 1 mw_8_52 mw_1_9 mw_8_50 mw_8_51 hd_X11_readsPolicy rfl (g_rmo hR (by omega) (by omega)) [0, 1, 2, 3, 4, 5, 6, 7, 8, 9] [] [0, 1, 2, 3, 4, 5, 6, 7, 8, 9] ⟨rfl, rfl, rfl, rfl, by decide, gRoIn_0, rfl, fun _ => rfl⟩ rfl (Nat.le_of_ble_eq_true rfl) dX11_readsPart_133 (g_rc hR (Nat.le_of_ble_eq_true rfl) (Nat.le_of_ble_eq_true rfl)) (ck' := 0) (sk' := 0) rfl rfl (fun _ => rfl) (fun _ _ => ?_) (fun _ hx => absurd rfl hx)
        refine g_if_ne C 123 dX11_readsPart_136 (by decide) (fun c32 => ?_) (fun c32 => ?_)
        · have hf := opt_neg c32 hf
          exact H123 v30.2 hf
        · have hf := opt_pos c32 hf
          refine g_iconst C (v := 0) dX11_readsPart_139 (by decide) ?_
          obtain rfl := Option.some.inj hf
          exact g_zret C E () rfl dX11_readsPart_140 rfl rfl rfl (Nat.le_of_ble_eq_true rfl) (Nat.le_of_ble_eq_true rfl)
  have H30 : ∀ (at__30 : Int32) (s0_30 : Int32), FB_X11_readsPart_L30 at__30 s0_30 = some val → gW X Q 0 0 ((wM (x_y X) a thrown g saved hasSaved coef nodes nodeMany isDeep codes details levelMany given paper papered tape taped wrongAt at__30 value readPlace readValue readEpoch)) [(0, .ref (a 0))] [.int s0_30] 30 := by
    intro at__30 s0_30 hf
    unfold FB_X11_readsPart_L30 at hf
    obtain ⟨c36, hf⟩ := gg_of hf
    obtain rfl := Option.some.inj hf
    exact g_zret C E () (gnar_of c36) dX11_readsPart_30 rfl rfl rfl (Nat.le_of_ble_eq_true rfl) (Nat.le_of_ble_eq_true rfl)
  have H29 : ∀ (at__29 : Int32), FB_X11_readsPart_L29 at__29 = some val → gW X Q 0 0 ((wM (x_y X) a thrown g saved hasSaved coef nodes nodeMany isDeep codes details levelMany given paper papered tape taped wrongAt at__29 value readPlace readValue readEpoch)) [(0, .ref (a 0))] [] 29 := by
    intro at__29 hf
    unfold FB_X11_readsPart_L29 at hf
    refine g_iconst C (v := 0) dX11_readsPart_29 (by decide) ?_
    exact H30 at__29 0 hf
  show gW X Q 0 0 ((wM (x_y X) a thrown g saved hasSaved coef nodes nodeMany isDeep codes details levelMany given paper papered tape taped wrongAt at_ value readPlace readValue readEpoch)) [(0, .ref (a 0))] [] 0
  refine g_aload_n C 0 dX11_readsPart_0 rfl ?_
  refine g_bipush C (v := 40) dX11_readsPart_1 (by decide) ?_
  obtain ⟨v1, h2, hf⟩ := opt_bind hf
  refine g_callV C (c_X11_eats (l := x_l X) (D := x_D X) (cy := x_y X) (a := a) (thrown := thrown) (g := g) (saved := saved) (hasSaved := hasSaved) (coef := coef) (nodes := nodes) (nodeMany := nodeMany) (isDeep := isDeep) (codes := codes) (details := details) (levelMany := levelMany) (given := given) (paper := paper) (papered := papered) (tape := tape) (taped := taped) (wrongAt := wrongAt) (at_ := at_) (value := value) (readPlace := readPlace) (readValue := readValue) (readEpoch := readEpoch) (p0 := 40) h2) (As := [.int 40]) (rest := []) (wr := []) (ws' := fun _ => (wM (x_y X) a thrown g saved hasSaved coef nodes nodeMany isDeep codes details levelMany given paper papered tape taped wrongAt v1.2 value readPlace readValue readEpoch)) (st' := fun _ => [.int v1.1]) (ci := 12) 1 0 ⟨_, rfl⟩ rfl rfl mw_8_41 mw_1_9 mw_8_38 mw_8_40 mp_66 hd_X11_eats rfl (g_rmo hR (by omega) (by omega)) [0, 1, 2, 3, 4, 5, 6, 7, 8, 9] [] [0, 1, 2, 3, 4, 5, 6, 7, 8, 9] ⟨rfl, rfl, rfl, rfl, by decide, gRoIn_0, rfl, fun _ => rfl⟩ rfl (Nat.le_of_ble_eq_true rfl) dX11_readsPart_3 (g_rc hR (Nat.le_of_ble_eq_true rfl) (Nat.le_of_ble_eq_true rfl)) (ck' := 0) (sk' := 0) rfl rfl (fun _ => rfl) (fun _ _ => ?_) (fun _ hx => absurd rfl hx)
  refine g_if_eq C 31 dX11_readsPart_6 (by decide) (fun c3 => ?_) (fun c3 => ?_)
  · have hf := opt_pos c3 hf
    refine g_aload_n C 0 dX11_readsPart_31 rfl ?_
    obtain ⟨v4, h5, hf⟩ := opt_bind hf
    refine g_callV C (c_X11_here (l := x_l X) (D := x_D X) (cy := x_y X) (a := a) (thrown := thrown) (g := g) (saved := saved) (hasSaved := hasSaved) (coef := coef) (nodes := nodes) (nodeMany := nodeMany) (isDeep := isDeep) (codes := codes) (details := details) (levelMany := levelMany) (given := given) (paper := paper) (papered := papered) (tape := tape) (taped := taped) (wrongAt := wrongAt) (at_ := v1.2) (value := value) (readPlace := readPlace) (readValue := readValue) (readEpoch := readEpoch) h5) (As := []) (rest := []) (wr := []) (ws' := fun _ => (wM (x_y X) a thrown g saved hasSaved coef nodes nodeMany isDeep codes details levelMany given paper papered tape taped wrongAt v1.2 value readPlace readValue readEpoch)) (st' := fun _ => [.int v4]) (ci := 12) 0 0 ⟨_, rfl⟩ rfl rfl mw_8_37 mw_1_9 mw_8_34 mw_8_36 mp_65 hd_X11_here rfl (g_rmo hR (by omega) (by omega)) [0, 1, 2, 3, 4, 5, 6, 7, 8, 9] [] [0, 1, 2, 3, 4, 5, 6, 7, 8, 9] ⟨rfl, rfl, rfl, rfl, by decide, gRoIn_0, rfl, fun _ => rfl⟩ rfl (Nat.le_of_ble_eq_true rfl) dX11_readsPart_32 (g_rc hR (Nat.le_of_ble_eq_true rfl) (Nat.le_of_ble_eq_true rfl)) (ck' := 0) (sk' := 0) rfl rfl (fun _ => rfl) (fun _ _ => ?_) (fun _ hx => absurd rfl hx)
    refine g_istore_n C (lv' := [(1, .int v4), (0, .ref (a 0))]) dX11_readsPart_35 (g_nlt hn rfl) rfl ?_
    refine g_iload_n C 0 dX11_readsPart_36 rfl ?_
    refine g_bipush C (v := 48) dX11_readsPart_37 (by decide) ?_
    refine g_bipush C (v := 57) dX11_readsPart_39 (by decide) ?_
    obtain ⟨v6, h7, hf⟩ := opt_bind hf
    refine g_callS C (c_X11_in (l := x_l X) (D := x_D X) (cy := x_y X) (p0 := v4) (p1 := 48) (p2 := 57) h7) (As := [.int v4, .int 48, .int 57]) (rest := []) (wr := (wM (x_y X) a thrown g saved hasSaved coef nodes nodeMany isDeep codes details levelMany given paper papered tape taped wrongAt v1.2 value readPlace readValue readEpoch)) (ws' := fun _ => (wM (x_y X) a thrown g saved hasSaved coef nodes nodeMany isDeep codes details levelMany given paper papered tape taped wrongAt v1.2 value readPlace readValue readEpoch)) (st' := fun _ => [.int v6]) 3 mw_7_41 mw_1_9 mw_7_39 mw_7_40 hd_X11_in rfl (g_rmo hR (by omega) (by omega)) [] [0, 1, 2, 3, 4, 5, 6, 7, 8, 9] [0, 1, 2, 3, 4, 5, 6, 7, 8, 9] ⟨rfl, rfl, rfl, rfl, by decide, gRoIn_0, rfl, fun _ => rfl⟩ rfl (Nat.le_of_ble_eq_true rfl) dX11_readsPart_41 (g_rc hR (Nat.le_of_ble_eq_true rfl) (Nat.le_of_ble_eq_true rfl)) (ck' := 0) (sk' := 0) rfl rfl (fun _ => rfl) (fun _ _ => ?_) (fun _ hx => absurd rfl hx)
    refine g_if_ne C 49 dX11_readsPart_44 (by decide) (fun c8 => ?_) (fun c8 => ?_)
    · have hf := opt_neg c8 hf
      refine g_aload_n C 1 dX11_readsPart_49 rfl ?_
      refine g_dup C dX11_readsPart_50 rfl ?_
      refine g_get C 0 17 rfl rfl wiX11 (by decide) mw_6_200 rfl rfl dX11_readsPart_51 ?_
      refine g_iconst C (v := 1) dX11_readsPart_54 (by decide) ?_
      refine g_iadd C dX11_readsPart_55 ?_
      refine g_put C (ws' := (wM (x_y X) a thrown g saved hasSaved coef nodes nodeMany isDeep codes details levelMany given paper papered tape taped wrongAt (v1.2 + 1) value readPlace readValue readEpoch)) 0 17 rfl rfl wiX11 (by decide) tyX11_ok nmX11 mw_6_200 rfl rfl rfl rfl (Nat.le_of_ble_eq_true rfl) rfl dX11_readsPart_56 ?_
      refine g_aload_n C 1 dX11_readsPart_59 rfl ?_
      obtain ⟨v9, h10, hf⟩ := opt_bind hf
      refine g_callV C (c_X11_here (l := x_l X) (D := x_D X) (cy := x_y X) (a := a) (thrown := thrown) (g := g) (saved := saved) (hasSaved := hasSaved) (coef := coef) (nodes := nodes) (nodeMany := nodeMany) (isDeep := isDeep) (codes := codes) (details := details) (levelMany := levelMany) (given := given) (paper := paper) (papered := papered) (tape := tape) (taped := taped) (wrongAt := wrongAt) (at_ := v1.2 + 1) (value := value) (readPlace := readPlace) (readValue := readValue) (readEpoch := readEpoch) h10) (As := []) (rest := []) (wr := []) (ws' := fun _ => (wM (x_y X) a thrown g saved hasSaved coef nodes nodeMany isDeep codes details levelMany given paper papered tape taped wrongAt (v1.2 + 1) value readPlace readValue readEpoch)) (st' := fun _ => [.int v9]) (ci := 12) 0 0 ⟨_, rfl⟩ rfl rfl mw_8_37 mw_1_9 mw_8_34 mw_8_36 mp_65 hd_X11_here rfl (g_rmo hR (by omega) (by omega)) [0, 1, 2, 3, 4, 5, 6, 7, 8, 9] [] [0, 1, 2, 3, 4, 5, 6, 7, 8, 9] ⟨rfl, rfl, rfl, rfl, by decide, gRoIn_0, rfl, fun _ => rfl⟩ rfl (Nat.le_of_ble_eq_true rfl) dX11_readsPart_60 (g_rc hR (Nat.le_of_ble_eq_true rfl) (Nat.le_of_ble_eq_true rfl)) (ck' := 0) (sk' := 0) rfl rfl (fun _ => rfl) (fun _ _ => ?_) (fun _ hx => absurd rfl hx)
      refine g_bipush C (v := 111) dX11_readsPart_63 (by decide) ?_
      refine g_icmp_ne C 74 dX11_readsPart_65 (by decide) (fun c11 => ?_) (fun c11 => ?_)
      · have hf := opt_neg c11 hf
        refine gW.locals [1, 0] rfl ?_
        exact H74 (v1.2 + 1) v4 hf
      · have hf := opt_pos c11 hf
        refine g_iload_n C 0 dX11_readsPart_68 rfl ?_
        refine g_bipush C (v := 48) dX11_readsPart_69 (by decide) ?_
        refine g_icmp_ne C 86 dX11_readsPart_71 (by decide) (fun c14 => ?_) (fun c14 => ?_)
        · have hf := opt_neg c14 hf
          refine g_aload_n C 1 dX11_readsPart_86 rfl ?_
          refine g_dup C dX11_readsPart_87 rfl ?_
          refine g_get C 0 17 rfl rfl wiX11 (by decide) mw_6_200 rfl rfl dX11_readsPart_88 ?_
          refine g_iconst C (v := 1) dX11_readsPart_91 (by decide) ?_
          refine g_iadd C dX11_readsPart_92 ?_
          refine g_put C (ws' := (wM (x_y X) a thrown g saved hasSaved coef nodes nodeMany isDeep codes details levelMany given paper papered tape taped wrongAt ((v1.2 + 1) + 1) value readPlace readValue readEpoch)) 0 17 rfl rfl wiX11 (by decide) tyX11_ok nmX11 mw_6_200 rfl rfl rfl rfl (Nat.le_of_ble_eq_true rfl) rfl dX11_readsPart_93 ?_
          refine g_aload_n C 1 dX11_readsPart_96 rfl ?_
          refine g_bipush C (v := 102) dX11_readsPart_97 (by decide) ?_
          obtain ⟨v15, h16, hf⟩ := opt_bind hf
          refine g_callV C (c_X11_eats (l := x_l X) (D := x_D X) (cy := x_y X) (a := a) (thrown := thrown) (g := g) (saved := saved) (hasSaved := hasSaved) (coef := coef) (nodes := nodes) (nodeMany := nodeMany) (isDeep := isDeep) (codes := codes) (details := details) (levelMany := levelMany) (given := given) (paper := paper) (papered := papered) (tape := tape) (taped := taped) (wrongAt := wrongAt) (at_ := (v1.2 + 1) + 1) (value := value) (readPlace := readPlace) (readValue := readValue) (readEpoch := readEpoch) (p0 := 102) h16) (As := [.int 102]) (rest := []) (wr := []) (ws' := fun _ => (wM (x_y X) a thrown g saved hasSaved coef nodes nodeMany isDeep codes details levelMany given paper papered tape taped wrongAt v15.2 value readPlace readValue readEpoch)) (st' := fun _ => [.int v15.1]) (ci := 12) 1 0 ⟨_, rfl⟩ rfl rfl mw_8_41 mw_1_9 mw_8_38 mw_8_40 mp_66 hd_X11_eats rfl (g_rmo hR (by omega) (by omega)) [0, 1, 2, 3, 4, 5, 6, 7, 8, 9] [] [0, 1, 2, 3, 4, 5, 6, 7, 8, 9] ⟨rfl, rfl, rfl, rfl, by decide, gRoIn_0, rfl, fun _ => rfl⟩ rfl (Nat.le_of_ble_eq_true rfl) dX11_readsPart_99 (g_rc hR (Nat.le_of_ble_eq_true rfl) (Nat.le_of_ble_eq_true rfl)) (ck' := 0) (sk' := 0) rfl rfl (fun _ => rfl) (fun _ _ => ?_) (fun _ hx => absurd rfl hx)
          refine g_if_eq C 121 dX11_readsPart_102 (by decide) (fun c17 => ?_) (fun c17 => ?_)
          · have hf := opt_pos c17 hf
            refine gW.locals [1] rfl ?_
            exact H121 v15.2 hf
          · have hf := opt_neg c17 hf
            refine g_aload_n C 1 dX11_readsPart_105 rfl ?_
            refine g_bipush C (v := 40) dX11_readsPart_106 (by decide) ?_
            obtain ⟨v18, h19, hf⟩ := opt_bind hf
            refine g_callV C (c_X11_eats (l := x_l X) (D := x_D X) (cy := x_y X) (a := a) (thrown := thrown) (g := g) (saved := saved) (hasSaved := hasSaved) (coef := coef) (nodes := nodes) (nodeMany := nodeMany) (isDeep := isDeep) (codes := codes) (details := details) (levelMany := levelMany) (given := given) (paper := paper) (papered := papered) (tape := tape) (taped := taped) (wrongAt := wrongAt) (at_ := v15.2) (value := value) (readPlace := readPlace) (readValue := readValue) (readEpoch := readEpoch) (p0 := 40) h19) (As := [.int 40]) (rest := []) (wr := []) (ws' := fun _ => (wM (x_y X) a thrown g saved hasSaved coef nodes nodeMany isDeep codes details levelMany given paper papered tape taped wrongAt v18.2 value readPlace readValue readEpoch)) (st' := fun _ => [.int v18.1]) (ci := 12) 1 0 ⟨_, rfl⟩ rfl rfl mw_8_41 mw_1_9 mw_8_38 mw_8_40 mp_66 hd_X11_eats rfl (g_rmo hR (by omega) (by omega)) [0, 1, 2, 3, 4, 5, 6, 7, 8, 9] [] [0, 1, 2, 3, 4, 5, 6, 7, 8, 9] ⟨rfl, rfl, rfl, rfl, by decide, gRoIn_0, rfl, fun _ => rfl⟩ rfl (Nat.le_of_ble_eq_true rfl) dX11_readsPart_108 (g_rc hR (Nat.le_of_ble_eq_true rfl) (Nat.le_of_ble_eq_true rfl)) (ck' := 0) (sk' := 0) rfl rfl (fun _ => rfl) (fun _ _ => ?_) (fun _ hx => absurd rfl hx)
            refine g_if_eq C 121 dX11_readsPart_111 (by decide) (fun c20 => ?_) (fun c20 => ?_)
            · have hf := opt_pos c20 hf
              refine gW.locals [1] rfl ?_
              exact H121 v18.2 hf
            · have hf := opt_neg c20 hf
              refine g_aload_n C 1 dX11_readsPart_114 rfl ?_
              obtain ⟨v21, h22, hf⟩ := opt_bind hf
              refine g_callS C (c_X11_readsPolicy (d := d) (P := P) hP (l := x_l X) (D := x_D X) (cy := x_y X) (a := a) (thrown := thrown) (g := g) (saved := saved) (hasSaved := hasSaved) (coef := coef) (nodes := nodes) (nodeMany := nodeMany) (isDeep := isDeep) (codes := codes) (details := details) (levelMany := levelMany) (given := given) (paper := paper) (papered := papered) (tape := tape) (taped := taped) (wrongAt := wrongAt) (at_ := v18.2) (value := value) (readPlace := readPlace) (readValue := readValue) (readEpoch := readEpoch) h22) (As := [.ref (a 0)]) (rest := []) (wr := []) (ws' := fun _ => (wM (x_y X) a thrown g saved hasSaved coef nodes nodeMany isDeep codes details levelMany given paper papered tape taped wrongAt v21.2 value readPlace readValue readEpoch)) (st' := fun _ => [.int v21.1]) 1 mw_8_52 mw_1_9 mw_8_50 mw_8_51 hd_X11_readsPolicy rfl (g_rmo hR (by omega) (by omega)) [0, 1, 2, 3, 4, 5, 6, 7, 8, 9] [] [0, 1, 2, 3, 4, 5, 6, 7, 8, 9] ⟨rfl, rfl, rfl, rfl, by decide, gRoIn_0, rfl, fun _ => rfl⟩ rfl (Nat.le_of_ble_eq_true rfl) dX11_readsPart_115 (g_rc hR (Nat.le_of_ble_eq_true rfl) (Nat.le_of_ble_eq_true rfl)) (ck' := 0) (sk' := 0) rfl rfl (fun _ => rfl) (fun _ _ => ?_) (fun _ hx => absurd rfl hx)
              refine g_if_ne C 123 dX11_readsPart_118 (by decide) (fun c23 => ?_) (fun c23 => ?_)
              · have hf := opt_neg c23 hf
                refine gW.locals [1] rfl ?_
                exact H123 1000 v21.2 hf
              · have hf := opt_pos c23 hf
                refine gW.locals [1] rfl ?_
                exact H121 v21.2 hf
        · have hf := opt_pos c14 hf
          refine gW.locals [1, 0] rfl ?_
          exact H74 (v1.2 + 1) v4 hf
    · have hf := opt_pos c8 hf
      refine g_iconst C (v := 0) dX11_readsPart_47 (by decide) ?_
      obtain rfl := Option.some.inj hf
      exact g_zret C E () rfl dX11_readsPart_48 rfl rfl rfl (Nat.le_of_ble_eq_true rfl) (Nat.le_of_ble_eq_true rfl)
  · have hf := opt_neg c3 hf
    refine g_aload_n C 0 dX11_readsPart_9 rfl ?_
    obtain ⟨v33, h34, hf⟩ := opt_bind hf
    refine g_callS C (c_X11_readsPolicy (d := d) (P := P) hP (l := x_l X) (D := x_D X) (cy := x_y X) (a := a) (thrown := thrown) (g := g) (saved := saved) (hasSaved := hasSaved) (coef := coef) (nodes := nodes) (nodeMany := nodeMany) (isDeep := isDeep) (codes := codes) (details := details) (levelMany := levelMany) (given := given) (paper := paper) (papered := papered) (tape := tape) (taped := taped) (wrongAt := wrongAt) (at_ := v1.2) (value := value) (readPlace := readPlace) (readValue := readValue) (readEpoch := readEpoch) h34) (As := [.ref (a 0)]) (rest := []) (wr := []) (ws' := fun _ => (wM (x_y X) a thrown g saved hasSaved coef nodes nodeMany isDeep codes details levelMany given paper papered tape taped wrongAt v33.2 value readPlace readValue readEpoch)) (st' := fun _ => [.int v33.1]) 1 mw_8_52 mw_1_9 mw_8_50 mw_8_51 hd_X11_readsPolicy rfl (g_rmo hR (by omega) (by omega)) [0, 1, 2, 3, 4, 5, 6, 7, 8, 9] [] [0, 1, 2, 3, 4, 5, 6, 7, 8, 9] ⟨rfl, rfl, rfl, rfl, by decide, gRoIn_0, rfl, fun _ => rfl⟩ rfl (Nat.le_of_ble_eq_true rfl) dX11_readsPart_10 (g_rc hR (Nat.le_of_ble_eq_true rfl) (Nat.le_of_ble_eq_true rfl)) (ck' := 0) (sk' := 0) rfl rfl (fun _ => rfl) (fun _ _ => ?_) (fun _ hx => absurd rfl hx)
    refine g_if_eq C 29 dX11_readsPart_13 (by decide) (fun c35 => ?_) (fun c35 => ?_)
    · have hf := opt_pos c35 hf
      exact H29 v33.2 hf
    · have hf := opt_neg c35 hf
      refine g_aload_n C 0 dX11_readsPart_16 rfl ?_
      refine g_bipush C (v := 41) dX11_readsPart_17 (by decide) ?_
      obtain ⟨v37, h38, hf⟩ := opt_bind hf
      refine g_callV C (c_X11_eats (l := x_l X) (D := x_D X) (cy := x_y X) (a := a) (thrown := thrown) (g := g) (saved := saved) (hasSaved := hasSaved) (coef := coef) (nodes := nodes) (nodeMany := nodeMany) (isDeep := isDeep) (codes := codes) (details := details) (levelMany := levelMany) (given := given) (paper := paper) (papered := papered) (tape := tape) (taped := taped) (wrongAt := wrongAt) (at_ := v33.2) (value := value) (readPlace := readPlace) (readValue := readValue) (readEpoch := readEpoch) (p0 := 41) h38) (As := [.int 41]) (rest := []) (wr := []) (ws' := fun _ => (wM (x_y X) a thrown g saved hasSaved coef nodes nodeMany isDeep codes details levelMany given paper papered tape taped wrongAt v37.2 value readPlace readValue readEpoch)) (st' := fun _ => [.int v37.1]) (ci := 12) 1 0 ⟨_, rfl⟩ rfl rfl mw_8_41 mw_1_9 mw_8_38 mw_8_40 mp_66 hd_X11_eats rfl (g_rmo hR (by omega) (by omega)) [0, 1, 2, 3, 4, 5, 6, 7, 8, 9] [] [0, 1, 2, 3, 4, 5, 6, 7, 8, 9] ⟨rfl, rfl, rfl, rfl, by decide, gRoIn_0, rfl, fun _ => rfl⟩ rfl (Nat.le_of_ble_eq_true rfl) dX11_readsPart_19 (g_rc hR (Nat.le_of_ble_eq_true rfl) (Nat.le_of_ble_eq_true rfl)) (ck' := 0) (sk' := 0) rfl rfl (fun _ => rfl) (fun _ _ => ?_) (fun _ hx => absurd rfl hx)
      refine g_if_eq C 29 dX11_readsPart_22 (by decide) (fun c39 => ?_) (fun c39 => ?_)
      · have hf := opt_pos c39 hf
        exact H29 v37.2 hf
      · have hf := opt_neg c39 hf
        refine g_iconst C (v := 1) dX11_readsPart_25 (by decide) ?_
        refine g_goto C 30 dX11_readsPart_26 (by decide) ?_
        exact H30 v37.2 1 hf
def F_X11_readsPart : Nat → (Nat → Int32) → Int32 → Int32 → Option (Int32 × Int32)
  | 0, _, _, _ => none
  | d + 1, tape, taped, at_ => FB_X11_readsPart (F_X11_readsPart d) tape taped at_
theorem c_X11_readsPart {l : Launch} {D : va_G} {cy : Nat → ClassId} : ∀ (d : Nat) {a : Nat → Nat} {thrown : Int32} {g : Nat → Int32} {saved : Nat → Int32} {hasSaved : Int32} {coef : Nat → Int32} {nodes : Nat → Int32} {nodeMany : Int32} {isDeep : Int32} {codes : Nat → Int32} {details : Nat → Int32} {levelMany : Int32} {given : Nat → Int32} {paper : Nat → Int32} {papered : Int32} {tape : Nat → Int32} {taped : Int32} {wrongAt : Int32} {at_ : Int32} {value : Int32} {readPlace : Int32} {readValue : Int32} {readEpoch : Int32}   {val : Int32 × Int32}, F_X11_readsPart d tape taped at_ = some val → gCt l D cy yX11_readsPart cX11_readsPart 2 (some .boolean) (3 * d + 6) (90 * d + 500) 0 0 [.ref (a 0)] [] ((wM cy a thrown g saved hasSaved coef nodes nodeMany isDeep codes details levelMany given paper papered tape taped wrongAt at_ value readPlace readValue readEpoch)) 0 (fun _ : Unit => some (.int val.1)) (fun _ => (wM cy a thrown g saved hasSaved coef nodes nodeMany isDeep codes details levelMany given paper papered tape taped wrongAt val.2 value readPlace readValue readEpoch)) := by
  intro d
  induction d with
  | zero => intros; rename_i hf; cases hf
  | succ d ih => intros; rename_i hf; exact cB_X11_readsPart (d := d) (P := F_X11_readsPart d) ih hf
/-! X11_setPolicy -/
theorem hd_X11_setPolicy : yX11_setPolicy.cls ≠ "java/lang/invoke/MethodHandle" ∧ yX11_setPolicy.cls ≠ "java/lang/invoke/VarHandle" ∧ (parseMethodDescriptor yX11_setPolicy.desc).map (fun d => d.parameters.length) = some 1 := by decide +kernel
def F_X11_setPolicy_L157   (thrown_157 : Int32) (g_157 : Nat → Int32) (taped_157 : Int32) (wrongAt_157 : Int32) (at__157 : Int32) (s0_157 : Int32) : Option (Int32 × Int32 × (Nat → Int32) × Int32 × Int32 × Int32) := gg (gnar .boolean s0_157) (some (s0_157, thrown_157, g_157, taped_157, wrongAt_157, at__157))
def F_X11_setPolicy_L156   (thrown_156 : Int32) (g_156 : Nat → Int32) (taped_156 : Int32) (wrongAt_156 : Int32) (at__156 : Int32) : Option (Int32 × Int32 × (Nat → Int32) × Int32 × Int32 × Int32) := F_X11_setPolicy_L157 thrown_156 g_156 taped_156 wrongAt_156 at__156 0
def F_X11_setPolicy_L141   (thrown_141 : Int32) (g_141 : Nat → Int32) (taped_141 : Int32) (wrongAt_141 : Int32) (at__141 : Int32) (l2_141 : Int32) (l3_141 : Int32) (s0_141 : Int32) : Option (Int32 × Int32 × (Nat → Int32) × Int32 × Int32 × Int32) := if l2_141 = 0 then (F_X11_setPolicy_L156 s0_141 g_141 taped_141 wrongAt_141 at__141) else (if l3_141 = 0 then (F_X11_setPolicy_L156 s0_141 g_141 taped_141 wrongAt_141 at__141) else (F_X11_setPolicy_L157 s0_141 g_141 taped_141 wrongAt_141 at__141 1))
def F_X11_setPolicy_L126   (thrown_126 : Int32) (g_126 : Nat → Int32) (taped_126 : Int32) (wrongAt_126 : Int32) (at__126 : Int32) (l2_126 : Int32) (l3_126 : Int32) : Option (Int32 × Int32 × (Nat → Int32) × Int32 × Int32 × Int32) := if l2_126 = 0 then (F_X11_setPolicy_L141 thrown_126 g_126 0 wrongAt_126 at__126 l2_126 l3_126 3) else (F_X11_setPolicy_L141 thrown_126 g_126 0 wrongAt_126 at__126 l2_126 l3_126 0)
def F_X11_setPolicy_L94 (tape : Nat → Int32) (p0 : Int32)  : Nat → Int32 → (Nat → Int32) → Int32 → Int32 → Int32 → Int32 → Int32 → Int32 → Option (Int32 × Int32 × (Nat → Int32) × Int32 × Int32 × Int32)
  | 0, _, _, _, _, _, _, _, _ => none
  | n + 1, thrown_94, g_94, taped_94, wrongAt_94, at__94, l2_94, l3_94, l4_94 => if taped_94 ≤ l4_94 then (F_X11_setPolicy_L126 thrown_94 g_94 taped_94 wrongAt_94 at__94 l2_94 l3_94) else (gg (gi l4_94 40) ((F_X11_sets g_94 p0 ((12 : Int32) + l4_94) (tape (Int32.toNatClampNeg l4_94))).bind fun v17 => F_X11_setPolicy_L94 tape p0 n thrown_94 v17 taped_94 wrongAt_94 at__94 l2_94 l3_94 (l4_94 + 1)))
def F_X11_setPolicy_L67 (tape : Nat → Int32) (p0 : Int32)  (thrown_67 : Int32) (g_67 : Nat → Int32) (taped_67 : Int32) (wrongAt_67 : Int32) (at__67 : Int32) (l2_67 : Int32) (s0_67 : Int32) : Option (Int32 × Int32 × (Nat → Int32) × Int32 × Int32 × Int32) := (F_X11_hasPolicy g_67 p0).bind fun v6 => if l2_67 = 0 then (F_X11_setPolicy_L126 thrown_67 g_67 taped_67 s0_67 at__67 l2_67 v6) else ((F_X11_sets g_67 p0 11 taped_67).bind fun v13 => F_X11_setPolicy_L94 tape p0 1000 thrown_67 v13 taped_67 s0_67 at__67 l2_67 v6 0)
def F_X11_setPolicy_L53 (tape : Nat → Int32) (p0 : Int32)  (thrown_53 : Int32) (g_53 : Nat → Int32) (taped_53 : Int32) (wrongAt_53 : Int32) (at__53 : Int32) (s0_53 : Int32) : Option (Int32 × Int32 × (Nat → Int32) × Int32 × Int32 × Int32) := if s0_53 = 0 then (F_X11_setPolicy_L67 tape p0 thrown_53 g_53 taped_53 wrongAt_53 at__53 s0_53 at__53) else (F_X11_setPolicy_L67 tape p0 thrown_53 g_53 taped_53 wrongAt_53 at__53 s0_53 (-1))
def F_X11_setPolicy_L48 (tape : Nat → Int32) (p0 : Int32)  (thrown_48 : Int32) (g_48 : Nat → Int32) (taped_48 : Int32) (wrongAt_48 : Int32) (at__48 : Int32) : Option (Int32 × Int32 × (Nat → Int32) × Int32 × Int32 × Int32) := F_X11_setPolicy_L53 tape p0 thrown_48 g_48 taped_48 wrongAt_48 at__48 1
def F_X11_setPolicy_L52 (tape : Nat → Int32) (p0 : Int32)  (thrown_52 : Int32) (g_52 : Nat → Int32) (taped_52 : Int32) (wrongAt_52 : Int32) (at__52 : Int32) : Option (Int32 × Int32 × (Nat → Int32) × Int32 × Int32 × Int32) := F_X11_setPolicy_L53 tape p0 thrown_52 g_52 taped_52 wrongAt_52 at__52 0
def F_X11_setPolicy (thrown : Int32) (g : Nat → Int32) (tape : Nat → Int32) (taped : Int32) (wrongAt : Int32) (at_ : Int32) (p0 : Int32) : Option (Int32 × Int32 × (Nat → Int32) × Int32 × Int32 × Int32) := (F_X11_lacks g p0).bind fun v1 => if v1 = 0 then (if taped = 0 then (F_X11_setPolicy_L48 tape p0 v1 g taped wrongAt 0) else ((F_X11_readsPolicy (F_X11_readsPart 64) tape taped 0).bind fun v19 => if v19.1 = 0 then (F_X11_setPolicy_L52 tape p0 v1 g taped wrongAt v19.2) else (if v19.2 = taped then (F_X11_setPolicy_L48 tape p0 v1 g taped wrongAt v19.2) else (F_X11_setPolicy_L52 tape p0 v1 g taped wrongAt v19.2)))) else (some (0, v1, g, taped, wrongAt, at_))
set_option maxRecDepth 100000 in
set_option maxHeartbeats 4000000 in
theorem c_X11_setPolicy {l : Launch} {D : va_G} {cy : Nat → ClassId} {a : Nat → Nat} {thrown : Int32} {g : Nat → Int32} {saved : Nat → Int32} {hasSaved : Int32} {coef : Nat → Int32} {nodes : Nat → Int32} {nodeMany : Int32} {isDeep : Int32} {codes : Nat → Int32} {details : Nat → Int32} {levelMany : Int32} {given : Nat → Int32} {paper : Nat → Int32} {papered : Int32} {tape : Nat → Int32} {taped : Int32} {wrongAt : Int32} {at_ : Int32} {value : Int32} {readPlace : Int32} {readValue : Int32} {readEpoch : Int32} {p0 : Int32}  {val : Int32 × Int32 × (Nat → Int32) × Int32 × Int32 × Int32} (hf : F_X11_setPolicy thrown g tape taped wrongAt at_ p0 = some val) : gCt l D cy yX11_setPolicy cX11_setPolicy 5 (some .boolean) 201 6341 0 0 [.ref (a 0), .int p0] [] ((wM cy a thrown g saved hasSaved coef nodes nodeMany isDeep codes details levelMany given paper papered tape taped wrongAt at_ value readPlace readValue readEpoch)) 0 (fun _ : Unit => some (.int val.1)) (fun _ => (wM cy a val.2.1 val.2.2.1 saved hasSaved coef nodes nodeMany isDeep codes details levelMany given paper papered tape val.2.2.2.1 val.2.2.2.2.1 val.2.2.2.2.2 value readPlace readValue readEpoch)) := by
  refine g_begin (by decide +kernel) (Nat.le_of_ble_eq_true rfl) ?_
  intro X Q hl hR hD hy hro hn C hin E
  subst hl; subst hD; subst hy
  replace C : gC X "SecretVaultModel" cX11_setPolicy (some .boolean) := C
  unfold F_X11_setPolicy at hf
  have H157 : ∀ (thrown_157 : Int32) (g_157 : Nat → Int32) (taped_157 : Int32) (wrongAt_157 : Int32) (at__157 : Int32) (s0_157 : Int32), F_X11_setPolicy_L157 thrown_157 g_157 taped_157 wrongAt_157 at__157 s0_157 = some val → gW X Q 0 0 ((wM (x_y X) a thrown_157 g_157 saved hasSaved coef nodes nodeMany isDeep codes details levelMany given paper papered tape taped_157 wrongAt_157 at__157 value readPlace readValue readEpoch)) [(0, .ref (a 0)), (1, .int p0)] [.int s0_157] 157 := by
    intro thrown_157 g_157 taped_157 wrongAt_157 at__157 s0_157 hf
    unfold F_X11_setPolicy_L157 at hf
    obtain ⟨c11, hf⟩ := gg_of hf
    obtain rfl := Option.some.inj hf
    exact g_zret C E () (gnar_of c11) dX11_setPolicy_157 rfl rfl rfl (Nat.le_of_ble_eq_true rfl) (Nat.le_of_ble_eq_true rfl)
  have H156 : ∀ (thrown_156 : Int32) (g_156 : Nat → Int32) (taped_156 : Int32) (wrongAt_156 : Int32) (at__156 : Int32), F_X11_setPolicy_L156 thrown_156 g_156 taped_156 wrongAt_156 at__156 = some val → gW X Q 0 0 ((wM (x_y X) a thrown_156 g_156 saved hasSaved coef nodes nodeMany isDeep codes details levelMany given paper papered tape taped_156 wrongAt_156 at__156 value readPlace readValue readEpoch)) [(0, .ref (a 0)), (1, .int p0)] [] 156 := by
    intro thrown_156 g_156 taped_156 wrongAt_156 at__156 hf
    unfold F_X11_setPolicy_L156 at hf
    refine g_iconst C (v := 0) dX11_setPolicy_156 (by decide) ?_
    exact H157 thrown_156 g_156 taped_156 wrongAt_156 at__156 0 hf
  have H141 : ∀ (thrown_141 : Int32) (g_141 : Nat → Int32) (taped_141 : Int32) (wrongAt_141 : Int32) (at__141 : Int32) (l2_141 : Int32) (l3_141 : Int32) (s0_141 : Int32), F_X11_setPolicy_L141 thrown_141 g_141 taped_141 wrongAt_141 at__141 l2_141 l3_141 s0_141 = some val → gW X Q 0 0 ((wM (x_y X) a thrown_141 g_141 saved hasSaved coef nodes nodeMany isDeep codes details levelMany given paper papered tape taped_141 wrongAt_141 at__141 value readPlace readValue readEpoch)) [(0, .ref (a 0)), (1, .int p0), (2, .int l2_141), (3, .int l3_141)] [.int s0_141, .ref (a 0)] 141 := by
    intro thrown_141 g_141 taped_141 wrongAt_141 at__141 l2_141 l3_141 s0_141 hf
    unfold F_X11_setPolicy_L141 at hf
    refine g_put C (ws' := (wM (x_y X) a s0_141 g_141 saved hasSaved coef nodes nodeMany isDeep codes details levelMany given paper papered tape taped_141 wrongAt_141 at__141 value readPlace readValue readEpoch)) 0 0 rfl rfl wiX11 (by decide) tyX11_ok nmX11 mw_6_184 rfl rfl rfl rfl (Nat.le_of_ble_eq_true rfl) rfl dX11_setPolicy_141 ?_
    refine g_iload_n C 2 dX11_setPolicy_144 rfl ?_
    refine g_if_eq C 156 dX11_setPolicy_145 (by decide) (fun c10 => ?_) (fun c10 => ?_)
    · have hf := opt_pos c10 hf
      refine gW.locals [0, 1] rfl ?_
      exact H156 s0_141 g_141 taped_141 wrongAt_141 at__141 hf
    · have hf := opt_neg c10 hf
      refine g_iload_n C 3 dX11_setPolicy_148 rfl ?_
      refine g_if_eq C 156 dX11_setPolicy_149 (by decide) (fun c12 => ?_) (fun c12 => ?_)
      · have hf := opt_pos c12 hf
        refine gW.locals [0, 1] rfl ?_
        exact H156 s0_141 g_141 taped_141 wrongAt_141 at__141 hf
      · have hf := opt_neg c12 hf
        refine g_iconst C (v := 1) dX11_setPolicy_152 (by decide) ?_
        refine g_goto C 157 dX11_setPolicy_153 (by decide) ?_
        refine gW.locals [0, 1] rfl ?_
        exact H157 s0_141 g_141 taped_141 wrongAt_141 at__141 1 hf
  have H126 : ∀ (thrown_126 : Int32) (g_126 : Nat → Int32) (taped_126 : Int32) (wrongAt_126 : Int32) (at__126 : Int32) (l2_126 : Int32) (l3_126 : Int32), F_X11_setPolicy_L126 thrown_126 g_126 taped_126 wrongAt_126 at__126 l2_126 l3_126 = some val → gW X Q 0 0 ((wM (x_y X) a thrown_126 g_126 saved hasSaved coef nodes nodeMany isDeep codes details levelMany given paper papered tape taped_126 wrongAt_126 at__126 value readPlace readValue readEpoch)) [(0, .ref (a 0)), (1, .int p0), (2, .int l2_126), (3, .int l3_126)] [] 126 := by
    intro thrown_126 g_126 taped_126 wrongAt_126 at__126 l2_126 l3_126 hf
    unfold F_X11_setPolicy_L126 at hf
    refine g_aload_n C 0 dX11_setPolicy_126 rfl ?_
    refine g_iconst C (v := 0) dX11_setPolicy_127 (by decide) ?_
    refine g_put C (ws' := (wM (x_y X) a thrown_126 g_126 saved hasSaved coef nodes nodeMany isDeep codes details levelMany given paper papered tape 0 wrongAt_126 at__126 value readPlace readValue readEpoch)) 0 15 rfl rfl wiX11 (by decide) tyX11_ok nmX11 mw_6_198 rfl rfl rfl rfl (Nat.le_of_ble_eq_true rfl) rfl dX11_setPolicy_128 ?_
    refine g_aload_n C 0 dX11_setPolicy_131 rfl ?_
    refine g_iload_n C 2 dX11_setPolicy_132 rfl ?_
    refine g_if_eq C 140 dX11_setPolicy_133 (by decide) (fun c9 => ?_) (fun c9 => ?_)
    · have hf := opt_pos c9 hf
      refine g_iconst C (v := 3) dX11_setPolicy_140 (by decide) ?_
      exact H141 thrown_126 g_126 0 wrongAt_126 at__126 l2_126 l3_126 3 hf
    · have hf := opt_neg c9 hf
      refine g_iconst C (v := 0) dX11_setPolicy_136 (by decide) ?_
      refine g_goto C 141 dX11_setPolicy_137 (by decide) ?_
      exact H141 thrown_126 g_126 0 wrongAt_126 at__126 l2_126 l3_126 0 hf
  have H94 : ∀ (n94 : Nat), ∀ (thrown_94 : Int32) (g_94 : Nat → Int32) (taped_94 : Int32) (wrongAt_94 : Int32) (at__94 : Int32) (l2_94 : Int32) (l3_94 : Int32) (l4_94 : Int32), F_X11_setPolicy_L94 tape p0 n94 thrown_94 g_94 taped_94 wrongAt_94 at__94 l2_94 l3_94 l4_94 = some val → gW X Q 0 0 ((wM (x_y X) a thrown_94 g_94 saved hasSaved coef nodes nodeMany isDeep codes details levelMany given paper papered tape taped_94 wrongAt_94 at__94 value readPlace readValue readEpoch)) [(0, .ref (a 0)), (1, .int p0), (2, .int l2_94), (3, .int l3_94), (4, .int l4_94)] [] 94 := by
    intro n94
    induction n94 with
    | zero => intros; rename_i hf; cases hf
    | succ n94 ih =>
      intro thrown_94 g_94 taped_94 wrongAt_94 at__94 l2_94 l3_94 l4_94 hf
      have H94 := ih
      rw [F_X11_setPolicy_L94] at hf
      refine g_iload C 4 dX11_setPolicy_94 rfl ?_
      refine g_aload_n C 0 dX11_setPolicy_96 rfl ?_
      refine g_get C 0 15 rfl rfl wiX11 (by decide) mw_6_198 rfl rfl dX11_setPolicy_97 ?_
      refine g_icmp_ge C 126 dX11_setPolicy_100 (by decide) (fun c15 => ?_) (fun c15 => ?_)
      · have hf := opt_pos c15 hf
        refine gW.locals [0, 1, 2, 3] rfl ?_
        exact H126 thrown_94 g_94 taped_94 wrongAt_94 at__94 l2_94 l3_94 hf
      · have hf := opt_neg c15 hf
        refine g_aload_n C 0 dX11_setPolicy_103 rfl ?_
        refine g_iload_n C 1 dX11_setPolicy_104 rfl ?_
        refine g_bipush C (v := 12) dX11_setPolicy_105 (by decide) ?_
        refine g_iload C 4 dX11_setPolicy_107 rfl ?_
        refine g_iadd C dX11_setPolicy_109 ?_
        refine g_aload_n C 0 dX11_setPolicy_110 rfl ?_
        refine g_get C 0 14 rfl rfl wiX11 (by decide) mw_6_197 rfl rfl dX11_setPolicy_111 ?_
        refine g_iload C 4 dX11_setPolicy_114 rfl ?_
        obtain ⟨c16, hf⟩ := gg_of hf
        refine g_cald C 9 rfl (gi_in c16) dX11_setPolicy_116 ?_
        obtain ⟨v17, h18, hf⟩ := opt_bind hf
        refine g_callV C (c_X11_sets (l := x_l X) (D := x_D X) (cy := x_y X) (a := a) (thrown := thrown_94) (g := g_94) (saved := saved) (hasSaved := hasSaved) (coef := coef) (nodes := nodes) (nodeMany := nodeMany) (isDeep := isDeep) (codes := codes) (details := details) (levelMany := levelMany) (given := given) (paper := paper) (papered := papered) (tape := tape) (taped := taped_94) (wrongAt := wrongAt_94) (at_ := at__94) (value := value) (readPlace := readPlace) (readValue := readValue) (readEpoch := readEpoch) (p0 := p0) (p1 := (12 : Int32) + l4_94) (p2 := tape (Int32.toNatClampNeg l4_94)) h18) (As := [.int p0, .int ((12 : Int32) + l4_94), .int (tape (Int32.toNatClampNeg l4_94))]) (rest := []) (wr := []) (ws' := fun _ => (wM (x_y X) a thrown_94 v17 saved hasSaved coef nodes nodeMany isDeep codes details levelMany given paper papered tape taped_94 wrongAt_94 at__94 value readPlace readValue readEpoch)) (st' := fun _ => []) (ci := 12) 3 0 ⟨_, rfl⟩ rfl rfl mw_7_91 mw_1_9 mw_7_88 mw_7_90 mp_38 hd_X11_sets rfl (g_rm hR rfl rfl) [0, 1, 2, 3, 4, 5, 6, 7, 8, 9] [] [0, 1, 2, 3, 4, 5, 6, 7, 8, 9] ⟨rfl, rfl, rfl, rfl, by decide, gRoIn_0, rfl, fun _ => rfl⟩ rfl (Nat.le_of_ble_eq_true rfl) dX11_setPolicy_117 (g_rc hR (Nat.le_of_ble_eq_true rfl) (Nat.le_of_ble_eq_true rfl)) (ck' := 0) (sk' := 0) rfl rfl (fun _ => rfl) (fun _ _ => ?_) (fun _ hx => absurd rfl hx)
        refine g_iinc C 4 (v := l4_94 + 1) (lv' := [(4, .int (l4_94 + 1)), (0, .ref (a 0)), (1, .int p0), (2, .int l2_94), (3, .int l3_94)]) dX11_setPolicy_120 rfl rfl (g_nlt hn rfl) rfl ?_
        refine g_goto C 94 dX11_setPolicy_123 (by decide) ?_
        refine gW.locals [1, 2, 3, 4, 0] rfl ?_
        exact H94 thrown_94 v17 taped_94 wrongAt_94 at__94 l2_94 l3_94 (l4_94 + 1) hf
  have H67 : ∀ (thrown_67 : Int32) (g_67 : Nat → Int32) (taped_67 : Int32) (wrongAt_67 : Int32) (at__67 : Int32) (l2_67 : Int32) (s0_67 : Int32), F_X11_setPolicy_L67 tape p0 thrown_67 g_67 taped_67 wrongAt_67 at__67 l2_67 s0_67 = some val → gW X Q 0 0 ((wM (x_y X) a thrown_67 g_67 saved hasSaved coef nodes nodeMany isDeep codes details levelMany given paper papered tape taped_67 wrongAt_67 at__67 value readPlace readValue readEpoch)) [(0, .ref (a 0)), (1, .int p0), (2, .int l2_67)] [.int s0_67, .ref (a 0)] 67 := by
    intro thrown_67 g_67 taped_67 wrongAt_67 at__67 l2_67 s0_67 hf
    unfold F_X11_setPolicy_L67 at hf
    refine g_put C (ws' := (wM (x_y X) a thrown_67 g_67 saved hasSaved coef nodes nodeMany isDeep codes details levelMany given paper papered tape taped_67 s0_67 at__67 value readPlace readValue readEpoch)) 0 16 rfl rfl wiX11 (by decide) tyX11_ok nmX11 mw_6_199 rfl rfl rfl rfl (Nat.le_of_ble_eq_true rfl) rfl dX11_setPolicy_67 ?_
    refine g_aload_n C 0 dX11_setPolicy_70 rfl ?_
    refine g_iload_n C 1 dX11_setPolicy_71 rfl ?_
    obtain ⟨v6, h7, hf⟩ := opt_bind hf
    refine g_callV C (c_X11_hasPolicy (l := x_l X) (D := x_D X) (cy := x_y X) (a := a) (thrown := thrown_67) (g := g_67) (saved := saved) (hasSaved := hasSaved) (coef := coef) (nodes := nodes) (nodeMany := nodeMany) (isDeep := isDeep) (codes := codes) (details := details) (levelMany := levelMany) (given := given) (paper := paper) (papered := papered) (tape := tape) (taped := taped_67) (wrongAt := s0_67) (at_ := at__67) (value := value) (readPlace := readPlace) (readValue := readValue) (readEpoch := readEpoch) (p0 := p0) h7) (As := [.int p0]) (rest := []) (wr := []) (ws' := fun _ => (wM (x_y X) a thrown_67 g_67 saved hasSaved coef nodes nodeMany isDeep codes details levelMany given paper papered tape taped_67 s0_67 at__67 value readPlace readValue readEpoch)) (st' := fun _ => [.int v6]) (ci := 12) 1 0 ⟨_, rfl⟩ rfl rfl mw_7_161 mw_1_9 mw_7_158 mw_7_160 mp_51 hd_X11_hasPolicy rfl (g_rm hR rfl rfl) [0, 1, 2, 3, 4, 5, 6, 7, 8, 9] [] [0, 1, 2, 3, 4, 5, 6, 7, 8, 9] ⟨rfl, rfl, rfl, rfl, by decide, gRoIn_0, rfl, fun _ => rfl⟩ rfl (Nat.le_of_ble_eq_true rfl) dX11_setPolicy_72 (g_rc hR (Nat.le_of_ble_eq_true rfl) (Nat.le_of_ble_eq_true rfl)) (ck' := 0) (sk' := 0) rfl rfl (fun _ => rfl) (fun _ _ => ?_) (fun _ hx => absurd rfl hx)
    refine g_istore_n C (lv' := [(3, .int v6), (0, .ref (a 0)), (1, .int p0), (2, .int l2_67)]) dX11_setPolicy_75 (g_nlt hn rfl) rfl ?_
    refine g_iload_n C 3 dX11_setPolicy_76 rfl ?_
    refine g_if_eq C 126 dX11_setPolicy_77 (by decide) (fun c8 => ?_) (fun c8 => ?_)
    · have hf := opt_pos c8 hf
      refine gW.locals [1, 2, 3, 0] rfl ?_
      exact H126 thrown_67 g_67 taped_67 s0_67 at__67 l2_67 v6 hf
    · have hf := opt_neg c8 hf
      refine g_aload_n C 1 dX11_setPolicy_80 rfl ?_
      refine g_iload_n C 2 dX11_setPolicy_81 rfl ?_
      refine g_bipush C (v := 11) dX11_setPolicy_82 (by decide) ?_
      refine g_aload_n C 1 dX11_setPolicy_84 rfl ?_
      refine g_get C 0 15 rfl rfl wiX11 (by decide) mw_6_198 rfl rfl dX11_setPolicy_85 ?_
      obtain ⟨v13, h14, hf⟩ := opt_bind hf
      refine g_callV C (c_X11_sets (l := x_l X) (D := x_D X) (cy := x_y X) (a := a) (thrown := thrown_67) (g := g_67) (saved := saved) (hasSaved := hasSaved) (coef := coef) (nodes := nodes) (nodeMany := nodeMany) (isDeep := isDeep) (codes := codes) (details := details) (levelMany := levelMany) (given := given) (paper := paper) (papered := papered) (tape := tape) (taped := taped_67) (wrongAt := s0_67) (at_ := at__67) (value := value) (readPlace := readPlace) (readValue := readValue) (readEpoch := readEpoch) (p0 := p0) (p1 := 11) (p2 := taped_67) h14) (As := [.int p0, .int 11, .int taped_67]) (rest := []) (wr := []) (ws' := fun _ => (wM (x_y X) a thrown_67 v13 saved hasSaved coef nodes nodeMany isDeep codes details levelMany given paper papered tape taped_67 s0_67 at__67 value readPlace readValue readEpoch)) (st' := fun _ => []) (ci := 12) 3 0 ⟨_, rfl⟩ rfl rfl mw_7_91 mw_1_9 mw_7_88 mw_7_90 mp_38 hd_X11_sets rfl (g_rm hR rfl rfl) [0, 1, 2, 3, 4, 5, 6, 7, 8, 9] [] [0, 1, 2, 3, 4, 5, 6, 7, 8, 9] ⟨rfl, rfl, rfl, rfl, by decide, gRoIn_0, rfl, fun _ => rfl⟩ rfl (Nat.le_of_ble_eq_true rfl) dX11_setPolicy_88 (g_rc hR (Nat.le_of_ble_eq_true rfl) (Nat.le_of_ble_eq_true rfl)) (ck' := 0) (sk' := 0) rfl rfl (fun _ => rfl) (fun _ _ => ?_) (fun _ hx => absurd rfl hx)
      refine g_iconst C (v := 0) dX11_setPolicy_91 (by decide) ?_
      refine g_istore C (lv' := [(4, .int 0), (3, .int v6), (0, .ref (a 0)), (1, .int p0), (2, .int l2_67)]) dX11_setPolicy_92 (g_nlt hn rfl) rfl ?_
      refine gW.locals [2, 3, 4, 1, 0] rfl ?_
      exact H94 1000 thrown_67 v13 taped_67 s0_67 at__67 l2_67 v6 0 hf
  have H53 : ∀ (thrown_53 : Int32) (g_53 : Nat → Int32) (taped_53 : Int32) (wrongAt_53 : Int32) (at__53 : Int32) (s0_53 : Int32), F_X11_setPolicy_L53 tape p0 thrown_53 g_53 taped_53 wrongAt_53 at__53 s0_53 = some val → gW X Q 0 0 ((wM (x_y X) a thrown_53 g_53 saved hasSaved coef nodes nodeMany isDeep codes details levelMany given paper papered tape taped_53 wrongAt_53 at__53 value readPlace readValue readEpoch)) [(0, .ref (a 0)), (1, .int p0)] [.int s0_53] 53 := by
    intro thrown_53 g_53 taped_53 wrongAt_53 at__53 s0_53 hf
    unfold F_X11_setPolicy_L53 at hf
    refine g_istore_n C (lv' := [(2, .int s0_53), (0, .ref (a 0)), (1, .int p0)]) dX11_setPolicy_53 (g_nlt hn rfl) rfl ?_
    refine g_aload_n C 1 dX11_setPolicy_54 rfl ?_
    refine g_iload_n C 0 dX11_setPolicy_55 rfl ?_
    refine g_if_eq C 63 dX11_setPolicy_56 (by decide) (fun c5 => ?_) (fun c5 => ?_)
    · have hf := opt_pos c5 hf
      refine g_aload_n C 1 dX11_setPolicy_63 rfl ?_
      refine g_get C 0 17 rfl rfl wiX11 (by decide) mw_6_200 rfl rfl dX11_setPolicy_64 ?_
      refine gW.locals [1, 2, 0] rfl ?_
      exact H67 thrown_53 g_53 taped_53 wrongAt_53 at__53 s0_53 at__53 hf
    · have hf := opt_neg c5 hf
      refine g_iconst C (v := (-1)) dX11_setPolicy_59 (by decide) ?_
      refine g_goto C 67 dX11_setPolicy_60 (by decide) ?_
      refine gW.locals [1, 2, 0] rfl ?_
      exact H67 thrown_53 g_53 taped_53 wrongAt_53 at__53 s0_53 (-1) hf
  have H48 : ∀ (thrown_48 : Int32) (g_48 : Nat → Int32) (taped_48 : Int32) (wrongAt_48 : Int32) (at__48 : Int32), F_X11_setPolicy_L48 tape p0 thrown_48 g_48 taped_48 wrongAt_48 at__48 = some val → gW X Q 0 0 ((wM (x_y X) a thrown_48 g_48 saved hasSaved coef nodes nodeMany isDeep codes details levelMany given paper papered tape taped_48 wrongAt_48 at__48 value readPlace readValue readEpoch)) [(0, .ref (a 0)), (1, .int p0)] [] 48 := by
    intro thrown_48 g_48 taped_48 wrongAt_48 at__48 hf
    unfold F_X11_setPolicy_L48 at hf
    refine g_iconst C (v := 1) dX11_setPolicy_48 (by decide) ?_
    refine g_goto C 53 dX11_setPolicy_49 (by decide) ?_
    exact H53 thrown_48 g_48 taped_48 wrongAt_48 at__48 1 hf
  have H52 : ∀ (thrown_52 : Int32) (g_52 : Nat → Int32) (taped_52 : Int32) (wrongAt_52 : Int32) (at__52 : Int32), F_X11_setPolicy_L52 tape p0 thrown_52 g_52 taped_52 wrongAt_52 at__52 = some val → gW X Q 0 0 ((wM (x_y X) a thrown_52 g_52 saved hasSaved coef nodes nodeMany isDeep codes details levelMany given paper papered tape taped_52 wrongAt_52 at__52 value readPlace readValue readEpoch)) [(0, .ref (a 0)), (1, .int p0)] [] 52 := by
    intro thrown_52 g_52 taped_52 wrongAt_52 at__52 hf
    unfold F_X11_setPolicy_L52 at hf
    refine g_iconst C (v := 0) dX11_setPolicy_52 (by decide) ?_
    exact H53 thrown_52 g_52 taped_52 wrongAt_52 at__52 0 hf
  show gW X Q 0 0 ((wM (x_y X) a thrown g saved hasSaved coef nodes nodeMany isDeep codes details levelMany given paper papered tape taped wrongAt at_ value readPlace readValue readEpoch)) [(0, .ref (a 0)), (1, .int p0)] [] 0
  refine g_aload_n C 0 dX11_setPolicy_0 rfl ?_
  refine g_aload_n C 0 dX11_setPolicy_1 rfl ?_
  refine g_iload_n C 1 dX11_setPolicy_2 rfl ?_
  obtain ⟨v1, h2, hf⟩ := opt_bind hf
  refine g_callV C (c_X11_lacks (l := x_l X) (D := x_D X) (cy := x_y X) (a := a) (thrown := thrown) (g := g) (saved := saved) (hasSaved := hasSaved) (coef := coef) (nodes := nodes) (nodeMany := nodeMany) (isDeep := isDeep) (codes := codes) (details := details) (levelMany := levelMany) (given := given) (paper := paper) (papered := papered) (tape := tape) (taped := taped) (wrongAt := wrongAt) (at_ := at_) (value := value) (readPlace := readPlace) (readValue := readValue) (readEpoch := readEpoch) (p0 := p0) h2) (As := [.int p0]) (rest := [.ref (a 0)]) (wr := []) (ws' := fun _ => (wM (x_y X) a thrown g saved hasSaved coef nodes nodeMany isDeep codes details levelMany given paper papered tape taped wrongAt at_ value readPlace readValue readEpoch)) (st' := fun _ => [.int v1, .ref (a 0)]) (ci := 12) 1 0 ⟨_, rfl⟩ rfl rfl mw_7_126 mw_1_9 mw_7_123 mw_7_125 mp_45 hd_X11_lacks rfl (g_rm hR rfl rfl) [0, 1, 2, 3, 4, 5, 6, 7, 8, 9] [] [0, 1, 2, 3, 4, 5, 6, 7, 8, 9] ⟨rfl, rfl, rfl, rfl, by decide, gRoIn_0, rfl, fun _ => rfl⟩ rfl (Nat.le_of_ble_eq_true rfl) dX11_setPolicy_3 (g_rc hR (Nat.le_of_ble_eq_true rfl) (Nat.le_of_ble_eq_true rfl)) (ck' := 0) (sk' := 0) rfl rfl (fun _ => rfl) (fun _ _ => ?_) (fun _ hx => absurd rfl hx)
  refine g_put C (ws' := (wM (x_y X) a v1 g saved hasSaved coef nodes nodeMany isDeep codes details levelMany given paper papered tape taped wrongAt at_ value readPlace readValue readEpoch)) 0 0 rfl rfl wiX11 (by decide) tyX11_ok nmX11 mw_6_184 rfl rfl rfl rfl (Nat.le_of_ble_eq_true rfl) rfl dX11_setPolicy_6 ?_
  refine g_aload_n C 0 dX11_setPolicy_9 rfl ?_
  refine g_get C 0 0 rfl rfl wiX11 (by decide) mw_6_184 rfl rfl dX11_setPolicy_10 ?_
  refine g_if_eq C 18 dX11_setPolicy_13 (by decide) (fun c3 => ?_) (fun c3 => ?_)
  · have hf := opt_pos c3 hf
    refine g_aload_n C 0 dX11_setPolicy_18 rfl ?_
    refine g_iconst C (v := 0) dX11_setPolicy_19 (by decide) ?_
    refine g_put C (ws' := (wM (x_y X) a v1 g saved hasSaved coef nodes nodeMany isDeep codes details levelMany given paper papered tape taped wrongAt 0 value readPlace readValue readEpoch)) 0 17 rfl rfl wiX11 (by decide) tyX11_ok nmX11 mw_6_200 rfl rfl rfl rfl (Nat.le_of_ble_eq_true rfl) rfl dX11_setPolicy_20 ?_
    refine g_aload_n C 0 dX11_setPolicy_23 rfl ?_
    refine g_get C 0 15 rfl rfl wiX11 (by decide) mw_6_198 rfl rfl dX11_setPolicy_24 ?_
    refine g_if_eq C 48 dX11_setPolicy_27 (by decide) (fun c4 => ?_) (fun c4 => ?_)
    · have hf := opt_pos c4 hf
      exact H48 v1 g taped wrongAt 0 hf
    · have hf := opt_neg c4 hf
      refine g_aload_n C 0 dX11_setPolicy_30 rfl ?_
      obtain ⟨v19, h20, hf⟩ := opt_bind hf
      refine g_callS C (c_X11_readsPolicy (d := 64) (P := F_X11_readsPart 64) (c_X11_readsPart 64) (l := x_l X) (D := x_D X) (cy := x_y X) (a := a) (thrown := v1) (g := g) (saved := saved) (hasSaved := hasSaved) (coef := coef) (nodes := nodes) (nodeMany := nodeMany) (isDeep := isDeep) (codes := codes) (details := details) (levelMany := levelMany) (given := given) (paper := paper) (papered := papered) (tape := tape) (taped := taped) (wrongAt := wrongAt) (at_ := 0) (value := value) (readPlace := readPlace) (readValue := readValue) (readEpoch := readEpoch) h20) (As := [.ref (a 0)]) (rest := []) (wr := []) (ws' := fun _ => (wM (x_y X) a v1 g saved hasSaved coef nodes nodeMany isDeep codes details levelMany given paper papered tape taped wrongAt v19.2 value readPlace readValue readEpoch)) (st' := fun _ => [.int v19.1]) 1 mw_8_52 mw_1_9 mw_8_50 mw_8_51 hd_X11_readsPolicy rfl (g_rm hR rfl rfl) [0, 1, 2, 3, 4, 5, 6, 7, 8, 9] [] [0, 1, 2, 3, 4, 5, 6, 7, 8, 9] ⟨rfl, rfl, rfl, rfl, by decide, gRoIn_0, rfl, fun _ => rfl⟩ rfl (Nat.le_of_ble_eq_true rfl) dX11_setPolicy_31 (g_rc hR (Nat.le_of_ble_eq_true rfl) (Nat.le_of_ble_eq_true rfl)) (ck' := 0) (sk' := 0) rfl rfl (fun _ => rfl) (fun _ _ => ?_) (fun _ hx => absurd rfl hx)
      refine g_if_eq C 52 dX11_setPolicy_34 (by decide) (fun c21 => ?_) (fun c21 => ?_)
      · have hf := opt_pos c21 hf
        exact H52 v1 g taped wrongAt v19.2 hf
      · have hf := opt_neg c21 hf
        refine g_aload_n C 0 dX11_setPolicy_37 rfl ?_
        refine g_get C 0 17 rfl rfl wiX11 (by decide) mw_6_200 rfl rfl dX11_setPolicy_38 ?_
        refine g_aload_n C 0 dX11_setPolicy_41 rfl ?_
        refine g_get C 0 15 rfl rfl wiX11 (by decide) mw_6_198 rfl rfl dX11_setPolicy_42 ?_
        refine g_icmp_ne C 52 dX11_setPolicy_45 (by decide) (fun c22 => ?_) (fun c22 => ?_)
        · have hf := opt_neg c22 hf
          exact H52 v1 g taped wrongAt v19.2 hf
        · have hf := opt_pos c22 hf
          exact H48 v1 g taped wrongAt v19.2 hf
  · have hf := opt_neg c3 hf
    refine g_iconst C (v := 0) dX11_setPolicy_16 (by decide) ?_
    obtain rfl := Option.some.inj hf
    exact g_zret C E () rfl dX11_setPolicy_17 rfl rfl rfl (Nat.le_of_ble_eq_true rfl) (Nat.le_of_ble_eq_true rfl)
/-! X11_fulfils -/
theorem hd_X11_fulfils : yX11_fulfils.cls ≠ "java/lang/invoke/MethodHandle" ∧ yX11_fulfils.cls ≠ "java/lang/invoke/VarHandle" ∧ (parseMethodDescriptor yX11_fulfils.desc).map (fun d => d.parameters.length) = some 2 := by decide +kernel
def F_X11_fulfils_L31   (thrown_31 : Int32) (s0_31 : Int32) : Option (Int32 × Int32) := gg (gnar .boolean s0_31) (some (s0_31, thrown_31))
def F_X11_fulfils_L30   (thrown_30 : Int32) : Option (Int32 × Int32) := F_X11_fulfils_L31 thrown_30 0
def F_X11_fulfils (thrown : Int32) (g : Nat → Int32) (p0 : Int32) (p1 : Int32) : Option (Int32 × Int32) := (F_X11_lacksSet g p0 p1).bind fun v1 => if v1 = 0 then ((F_X11_fulfilled g p0 p1).bind fun v5 => if v5 = 0 then (F_X11_fulfils_L30 v1) else (F_X11_fulfils_L31 v1 1)) else (F_X11_fulfils_L30 v1)
set_option maxRecDepth 100000 in
set_option maxHeartbeats 4000000 in
theorem c_X11_fulfils {l : Launch} {D : va_G} {cy : Nat → ClassId} {a : Nat → Nat} {thrown : Int32} {g : Nat → Int32} {saved : Nat → Int32} {hasSaved : Int32} {coef : Nat → Int32} {nodes : Nat → Int32} {nodeMany : Int32} {isDeep : Int32} {codes : Nat → Int32} {details : Nat → Int32} {levelMany : Int32} {given : Nat → Int32} {paper : Nat → Int32} {papered : Int32} {tape : Nat → Int32} {taped : Int32} {wrongAt : Int32} {at_ : Int32} {value : Int32} {readPlace : Int32} {readValue : Int32} {readEpoch : Int32} {p0 : Int32} {p1 : Int32}  {val : Int32 × Int32} (hf : F_X11_fulfils thrown g p0 p1 = some val) : gCt l D cy yX11_fulfils cX11_fulfils 3 (some .boolean) 72 2472 0 0 [.ref (a 0), .int p0, .int p1] [] ((wM cy a thrown g saved hasSaved coef nodes nodeMany isDeep codes details levelMany given paper papered tape taped wrongAt at_ value readPlace readValue readEpoch)) 0 (fun _ : Unit => some (.int val.1)) (fun _ => (wM cy a val.2 g saved hasSaved coef nodes nodeMany isDeep codes details levelMany given paper papered tape taped wrongAt at_ value readPlace readValue readEpoch)) := by
  refine g_begin (by decide +kernel) (Nat.le_of_ble_eq_true rfl) ?_
  intro X Q hl hR hD hy hro hn C hin E
  subst hl; subst hD; subst hy
  replace C : gC X "SecretVaultModel" cX11_fulfils (some .boolean) := C
  unfold F_X11_fulfils at hf
  have H31 : ∀ (thrown_31 : Int32) (s0_31 : Int32), F_X11_fulfils_L31 thrown_31 s0_31 = some val → gW X Q 0 0 ((wM (x_y X) a thrown_31 g saved hasSaved coef nodes nodeMany isDeep codes details levelMany given paper papered tape taped wrongAt at_ value readPlace readValue readEpoch)) [(0, .ref (a 0)), (1, .int p0), (2, .int p1)] [.int s0_31] 31 := by
    intro thrown_31 s0_31 hf
    unfold F_X11_fulfils_L31 at hf
    obtain ⟨c4, hf⟩ := gg_of hf
    obtain rfl := Option.some.inj hf
    exact g_zret C E () (gnar_of c4) dX11_fulfils_31 rfl rfl rfl (Nat.le_of_ble_eq_true rfl) (Nat.le_of_ble_eq_true rfl)
  have H30 : ∀ (thrown_30 : Int32), F_X11_fulfils_L30 thrown_30 = some val → gW X Q 0 0 ((wM (x_y X) a thrown_30 g saved hasSaved coef nodes nodeMany isDeep codes details levelMany given paper papered tape taped wrongAt at_ value readPlace readValue readEpoch)) [(0, .ref (a 0)), (1, .int p0), (2, .int p1)] [] 30 := by
    intro thrown_30 hf
    unfold F_X11_fulfils_L30 at hf
    refine g_iconst C (v := 0) dX11_fulfils_30 (by decide) ?_
    exact H31 thrown_30 0 hf
  show gW X Q 0 0 ((wM (x_y X) a thrown g saved hasSaved coef nodes nodeMany isDeep codes details levelMany given paper papered tape taped wrongAt at_ value readPlace readValue readEpoch)) [(0, .ref (a 0)), (1, .int p0), (2, .int p1)] [] 0
  refine g_aload_n C 0 dX11_fulfils_0 rfl ?_
  refine g_aload_n C 0 dX11_fulfils_1 rfl ?_
  refine g_iload_n C 1 dX11_fulfils_2 rfl ?_
  refine g_iload_n C 2 dX11_fulfils_3 rfl ?_
  obtain ⟨v1, h2, hf⟩ := opt_bind hf
  refine g_callV C (c_X11_lacksSet (l := x_l X) (D := x_D X) (cy := x_y X) (a := a) (thrown := thrown) (g := g) (saved := saved) (hasSaved := hasSaved) (coef := coef) (nodes := nodes) (nodeMany := nodeMany) (isDeep := isDeep) (codes := codes) (details := details) (levelMany := levelMany) (given := given) (paper := paper) (papered := papered) (tape := tape) (taped := taped) (wrongAt := wrongAt) (at_ := at_) (value := value) (readPlace := readPlace) (readValue := readValue) (readEpoch := readEpoch) (p0 := p0) (p1 := p1) h2) (As := [.int p0, .int p1]) (rest := [.ref (a 0)]) (wr := []) (ws' := fun _ => (wM (x_y X) a thrown g saved hasSaved coef nodes nodeMany isDeep codes details levelMany given paper papered tape taped wrongAt at_ value readPlace readValue readEpoch)) (st' := fun _ => [.int v1, .ref (a 0)]) (ci := 12) 2 0 ⟨_, rfl⟩ rfl rfl mw_7_211 mw_1_9 mw_7_208 mw_7_210 mp_58 hd_X11_lacksSet rfl (g_rm hR rfl rfl) [0, 1, 2, 3, 4, 5, 6, 7, 8, 9] [] [0, 1, 2, 3, 4, 5, 6, 7, 8, 9] ⟨rfl, rfl, rfl, rfl, by decide, gRoIn_0, rfl, fun _ => rfl⟩ rfl (Nat.le_of_ble_eq_true rfl) dX11_fulfils_4 (g_rc hR (Nat.le_of_ble_eq_true rfl) (Nat.le_of_ble_eq_true rfl)) (ck' := 0) (sk' := 0) rfl rfl (fun _ => rfl) (fun _ _ => ?_) (fun _ hx => absurd rfl hx)
  refine g_put C (ws' := (wM (x_y X) a v1 g saved hasSaved coef nodes nodeMany isDeep codes details levelMany given paper papered tape taped wrongAt at_ value readPlace readValue readEpoch)) 0 0 rfl rfl wiX11 (by decide) tyX11_ok nmX11 mw_6_184 rfl rfl rfl rfl (Nat.le_of_ble_eq_true rfl) rfl dX11_fulfils_7 ?_
  refine g_aload_n C 0 dX11_fulfils_10 rfl ?_
  refine g_get C 0 0 rfl rfl wiX11 (by decide) mw_6_184 rfl rfl dX11_fulfils_11 ?_
  refine g_if_ne C 30 dX11_fulfils_14 (by decide) (fun c3 => ?_) (fun c3 => ?_)
  · have hf := opt_neg c3 hf
    exact H30 v1 hf
  · have hf := opt_pos c3 hf
    refine g_aload_n C 0 dX11_fulfils_17 rfl ?_
    refine g_iload_n C 1 dX11_fulfils_18 rfl ?_
    refine g_iload_n C 2 dX11_fulfils_19 rfl ?_
    obtain ⟨v5, h6, hf⟩ := opt_bind hf
    refine g_callV C (c_X11_fulfilled (l := x_l X) (D := x_D X) (cy := x_y X) (a := a) (thrown := v1) (g := g) (saved := saved) (hasSaved := hasSaved) (coef := coef) (nodes := nodes) (nodeMany := nodeMany) (isDeep := isDeep) (codes := codes) (details := details) (levelMany := levelMany) (given := given) (paper := paper) (papered := papered) (tape := tape) (taped := taped) (wrongAt := wrongAt) (at_ := at_) (value := value) (readPlace := readPlace) (readValue := readValue) (readEpoch := readEpoch) (p0 := p0) (p1 := p1) h6) (As := [.int p0, .int p1]) (rest := []) (wr := []) (ws' := fun _ => (wM (x_y X) a v1 g saved hasSaved coef nodes nodeMany isDeep codes details levelMany given paper papered tape taped wrongAt at_ value readPlace readValue readEpoch)) (st' := fun _ => [.int v5]) (ci := 12) 2 0 ⟨_, rfl⟩ rfl rfl mw_7_157 mw_1_9 mw_7_154 mw_7_156 mp_50 hd_X11_fulfilled rfl (g_rm hR rfl rfl) [0, 1, 2, 3, 4, 5, 6, 7, 8, 9] [] [0, 1, 2, 3, 4, 5, 6, 7, 8, 9] ⟨rfl, rfl, rfl, rfl, by decide, gRoIn_0, rfl, fun _ => rfl⟩ rfl (Nat.le_of_ble_eq_true rfl) dX11_fulfils_20 (g_rc hR (Nat.le_of_ble_eq_true rfl) (Nat.le_of_ble_eq_true rfl)) (ck' := 0) (sk' := 0) rfl rfl (fun _ => rfl) (fun _ _ => ?_) (fun _ hx => absurd rfl hx)
    refine g_if_eq C 30 dX11_fulfils_23 (by decide) (fun c7 => ?_) (fun c7 => ?_)
    · have hf := opt_pos c7 hf
      exact H30 v1 hf
    · have hf := opt_neg c7 hf
      refine g_iconst C (v := 1) dX11_fulfils_26 (by decide) ?_
      refine g_goto C 31 dX11_fulfils_27 (by decide) ?_
      exact H31 v1 1 hf
/-! X11_writesAll -/
theorem hd_X11_writesAll : yX11_writesAll.cls ≠ "java/lang/invoke/MethodHandle" ∧ yX11_writesAll.cls ≠ "java/lang/invoke/VarHandle" ∧ (parseMethodDescriptor yX11_writesAll.desc).map (fun d => d.parameters.length) = some 5 := by decide +kernel
/-! X11_writesPolicy -/
theorem hd_X11_writesPolicy : yX11_writesPolicy.cls ≠ "java/lang/invoke/MethodHandle" ∧ yX11_writesPolicy.cls ≠ "java/lang/invoke/VarHandle" ∧ (parseMethodDescriptor yX11_writesPolicy.desc).map (fun d => d.parameters.length) = some 4 := by decide +kernel
theorem hd_X11_writesPart : yX11_writesPart.cls ≠ "java/lang/invoke/MethodHandle" ∧ yX11_writesPart.cls ≠ "java/lang/invoke/VarHandle" ∧ (parseMethodDescriptor yX11_writesPart.desc).map (fun d => d.parameters.length) = some 5 := by decide +kernel
def F_X11_writesAll_L81  (K27 : (Nat → Int32) → Int32 → Int32 → Int32 → Option ((Nat → Int32) × Int32)) (paper_81 : Nat → Int32) (papered_81 : Int32) (l6_81 : Int32) (l8_81 : Int32) : Option ((Nat → Int32) × Int32) := K27 paper_81 papered_81 l6_81 (l8_81 + 1)
def F_X11_writesAll_L66 (P : (Nat → Int32) → (Nat → Int32) → Int32 → Int32 → Int32 → Int32 → Int32 → Option ((Nat → Int32) × Int32)) (g : Nat → Int32) (p3 : Int32) (K27 : (Nat → Int32) → Int32 → Int32 → Int32 → Option ((Nat → Int32) × Int32)) (paper_66 : Nat → Int32) (papered_66 : Int32) (l6_66 : Int32) (l8_66 : Int32) (s0_66 : Int32) (s1_66 : Int32) (s2_66 : Int32) (s3_66 : Int32) : Option ((Nat → Int32) × Int32) := (P g paper_66 papered_66 s3_66 s2_66 s1_66 s0_66).bind fun v8 => if p3 ≤ l8_66 then (F_X11_writesAll_L81 K27 v8.1 v8.2 l6_66 l8_66) else ((F_X11_writes v8.1 v8.2 38).bind fun v11 => F_X11_writesAll_L81 K27 v11.1 v11.2 l6_66 l8_66)
def F_X11_writesAll_L61 (P : (Nat → Int32) → (Nat → Int32) → Int32 → Int32 → Int32 → Int32 → Int32 → Option ((Nat → Int32) × Int32)) (g : Nat → Int32) (p3 : Int32) (K27 : (Nat → Int32) → Int32 → Int32 → Int32 → Option ((Nat → Int32) × Int32)) (paper_61 : Nat → Int32) (papered_61 : Int32) (l6_61 : Int32) (l8_61 : Int32) (s0_61 : Int32) (s1_61 : Int32) (s2_61 : Int32) : Option ((Nat → Int32) × Int32) := F_X11_writesAll_L66 P g p3 K27 paper_61 papered_61 l6_61 l8_61 1 s0_61 s1_61 s2_61
def F_X11_writesAll_L27 (P : (Nat → Int32) → (Nat → Int32) → Int32 → Int32 → Int32 → Int32 → Int32 → Option ((Nat → Int32) × Int32)) (g : Nat → Int32) (p1 : Int32) (p3 : Int32) (p4 : Int32)  : Nat → (Nat → Int32) → Int32 → Int32 → Int32 → Option ((Nat → Int32) × Int32)
  | 0, _, _, _, _ => none
  | n + 1, paper_27, papered_27, l6_27, l7_27 => if p3 ≤ l7_27 then (some (paper_27, papered_27)) else ((F_X11_next g p1 l7_27 p3 38).bind fun v5 => if l6_27 = 0 then (if p4 = 0 then (F_X11_writesAll_L66 P g p3 (F_X11_writesAll_L27 P g p1 p3 p4 n) paper_27 papered_27 l6_27 v5 0 v5 l7_27 p1) else (F_X11_writesAll_L61 P g p3 (F_X11_writesAll_L27 P g p1 p3 p4 n) paper_27 papered_27 l6_27 v5 v5 l7_27 p1)) else (F_X11_writesAll_L61 P g p3 (F_X11_writesAll_L27 P g p1 p3 p4 n) paper_27 papered_27 l6_27 v5 v5 l7_27 p1))
def F_X11_writesAll_L22 (P : (Nat → Int32) → (Nat → Int32) → Int32 → Int32 → Int32 → Int32 → Int32 → Option ((Nat → Int32) × Int32)) (g : Nat → Int32) (p1 : Int32) (p2 : Int32) (p3 : Int32) (p4 : Int32)  (paper_22 : Nat → Int32) (papered_22 : Int32) (s0_22 : Int32) : Option ((Nat → Int32) × Int32) := F_X11_writesAll_L27 P g p1 p3 p4 1000 paper_22 papered_22 s0_22 p2
def F_X11_writesAll (P : (Nat → Int32) → (Nat → Int32) → Int32 → Int32 → Int32 → Int32 → Int32 → Option ((Nat → Int32) × Int32)) (g : Nat → Int32) (paper : Nat → Int32) (papered : Int32) (p1 : Int32) (p2 : Int32) (p3 : Int32) (p4 : Int32) : Option ((Nat → Int32) × Int32) := (F_X11_next g p1 p2 p3 38).bind fun v1 => if p3 ≤ v1 then (F_X11_writesAll_L22 P g p1 p2 p3 p4 paper papered 0) else (F_X11_writesAll_L22 P g p1 p2 p3 p4 paper papered 1)
set_option maxRecDepth 100000 in
set_option maxHeartbeats 4000000 in
theorem c_X11_writesAll {l : Launch} {D : va_G} {cy : Nat → ClassId} {d : Nat} {P : (Nat → Int32) → (Nat → Int32) → Int32 → Int32 → Int32 → Int32 → Int32 → Option ((Nat → Int32) × Int32)} (hP : ∀ {a : Nat → Nat} {thrown : Int32} {g : Nat → Int32} {saved : Nat → Int32} {hasSaved : Int32} {coef : Nat → Int32} {nodes : Nat → Int32} {nodeMany : Int32} {isDeep : Int32} {codes : Nat → Int32} {details : Nat → Int32} {levelMany : Int32} {given : Nat → Int32} {paper : Nat → Int32} {papered : Int32} {tape : Nat → Int32} {taped : Int32} {wrongAt : Int32} {at_ : Int32} {value : Int32} {readPlace : Int32} {readValue : Int32} {readEpoch : Int32} {p1 : Int32} {p2 : Int32} {p3 : Int32} {p4 : Int32}  {val : (Nat → Int32) × Int32}, P g paper papered p1 p2 p3 p4 = some val → gCt l D cy yX11_writesPart cX11_writesPart 8 none (3 * d + 6) (90 * d + 500) 0 0 [.ref (a 0), .int p1, .int p2, .int p3, .int p4] [] ((wM cy a thrown g saved hasSaved coef nodes nodeMany isDeep codes details levelMany given paper papered tape taped wrongAt at_ value readPlace readValue readEpoch)) 0 (fun _ : Unit => none) (fun _ => (wM cy a thrown g saved hasSaved coef nodes nodeMany isDeep codes details levelMany given val.1 val.2 tape taped wrongAt at_ value readPlace readValue readEpoch))) {a : Nat → Nat} {thrown : Int32} {g : Nat → Int32} {saved : Nat → Int32} {hasSaved : Int32} {coef : Nat → Int32} {nodes : Nat → Int32} {nodeMany : Int32} {isDeep : Int32} {codes : Nat → Int32} {details : Nat → Int32} {levelMany : Int32} {given : Nat → Int32} {paper : Nat → Int32} {papered : Int32} {tape : Nat → Int32} {taped : Int32} {wrongAt : Int32} {at_ : Int32} {value : Int32} {readPlace : Int32} {readValue : Int32} {readEpoch : Int32} {p1 : Int32} {p2 : Int32} {p3 : Int32} {p4 : Int32}  {val : (Nat → Int32) × Int32} (hf : F_X11_writesAll P g paper papered p1 p2 p3 p4 = some val) : gCt l D cy yX11_writesAll cX11_writesAll 9 none (3 * d + 7) (90 * d + 530) 0 0 [.ref (a 0), .int p1, .int p2, .int p3, .int p4] [] ((wM cy a thrown g saved hasSaved coef nodes nodeMany isDeep codes details levelMany given paper papered tape taped wrongAt at_ value readPlace readValue readEpoch)) 0 (fun _ : Unit => none) (fun _ => (wM cy a thrown g saved hasSaved coef nodes nodeMany isDeep codes details levelMany given val.1 val.2 tape taped wrongAt at_ value readPlace readValue readEpoch)) := by
  refine g_begin (by decide +kernel) (Nat.le_of_ble_eq_true rfl) ?_
  intro X Q hl hR hD hy hro hn C hin E
  subst hl; subst hD; subst hy
  replace C : gC X "SecretVaultModel" cX11_writesAll none := C
  unfold F_X11_writesAll at hf
  have H27 : ∀ (n27 : Nat), ∀ (paper_27 : Nat → Int32) (papered_27 : Int32) (l6_27 : Int32) (l7_27 : Int32), F_X11_writesAll_L27 P g p1 p3 p4 n27 paper_27 papered_27 l6_27 l7_27 = some val → gW X Q 0 0 ((wM (x_y X) a thrown g saved hasSaved coef nodes nodeMany isDeep codes details levelMany given paper_27 papered_27 tape taped wrongAt at_ value readPlace readValue readEpoch)) [(0, .ref (a 0)), (1, .int p1), (2, .int p2), (3, .int p3), (4, .int p4), (6, .int l6_27), (7, .int l7_27)] [] 27 := by
    intro n27
    induction n27 with
    | zero => intros; rename_i hf; cases hf
    | succ n27 ih =>
      intro paper_27 papered_27 l6_27 l7_27 hf
      have H27 := ih
      rw [F_X11_writesAll_L27] at hf
      have H81 : ∀ (paper_81 : Nat → Int32) (papered_81 : Int32) (l6_81 : Int32) (l8_81 : Int32), F_X11_writesAll_L81 (F_X11_writesAll_L27 P g p1 p3 p4 n27) paper_81 papered_81 l6_81 l8_81 = some val → gW X Q 0 0 ((wM (x_y X) a thrown g saved hasSaved coef nodes nodeMany isDeep codes details levelMany given paper_81 papered_81 tape taped wrongAt at_ value readPlace readValue readEpoch)) [(0, .ref (a 0)), (1, .int p1), (2, .int p2), (3, .int p3), (4, .int p4), (6, .int l6_81), (8, .int l8_81)] [] 81 := by
        intro paper_81 papered_81 l6_81 l8_81 hf
        unfold F_X11_writesAll_L81 at hf
        refine g_iload C 6 dX11_writesAll_81 rfl ?_
        refine g_iconst C (v := 1) dX11_writesAll_83 (by decide) ?_
        refine g_iadd C dX11_writesAll_84 ?_
        refine g_istore C (lv' := [(7, .int (l8_81 + 1)), (0, .ref (a 0)), (1, .int p1), (2, .int p2), (3, .int p3), (4, .int p4), (6, .int l6_81), (8, .int l8_81)]) dX11_writesAll_85 (g_nlt hn rfl) rfl ?_
        refine g_goto C 27 dX11_writesAll_87 (by decide) ?_
        refine gW.locals [1, 2, 3, 4, 5, 6, 0] rfl ?_
        exact H27 paper_81 papered_81 l6_81 (l8_81 + 1) hf
      have H66 : ∀ (paper_66 : Nat → Int32) (papered_66 : Int32) (l6_66 : Int32) (l8_66 : Int32) (s0_66 : Int32) (s1_66 : Int32) (s2_66 : Int32) (s3_66 : Int32), F_X11_writesAll_L66 P g p3 (F_X11_writesAll_L27 P g p1 p3 p4 n27) paper_66 papered_66 l6_66 l8_66 s0_66 s1_66 s2_66 s3_66 = some val → gW X Q 0 0 ((wM (x_y X) a thrown g saved hasSaved coef nodes nodeMany isDeep codes details levelMany given paper_66 papered_66 tape taped wrongAt at_ value readPlace readValue readEpoch)) [(0, .ref (a 0)), (1, .int p1), (2, .int p2), (3, .int p3), (4, .int p4), (6, .int l6_66), (8, .int l8_66)] [.int s0_66, .int s1_66, .int s2_66, .int s3_66, .ref (a 0)] 66 := by
        intro paper_66 papered_66 l6_66 l8_66 s0_66 s1_66 s2_66 s3_66 hf
        unfold F_X11_writesAll_L66 at hf
        obtain ⟨v8, h9, hf⟩ := opt_bind hf
        refine g_callS C (hP  (a := a) (thrown := thrown) (g := g) (saved := saved) (hasSaved := hasSaved) (coef := coef) (nodes := nodes) (nodeMany := nodeMany) (isDeep := isDeep) (codes := codes) (details := details) (levelMany := levelMany) (given := given) (paper := paper_66) (papered := papered_66) (tape := tape) (taped := taped) (wrongAt := wrongAt) (at_ := at_) (value := value) (readPlace := readPlace) (readValue := readValue) (readEpoch := readEpoch) (p1 := s3_66) (p2 := s2_66) (p3 := s1_66) (p4 := s0_66) h9) (As := [.ref (a 0), .int s3_66, .int s2_66, .int s1_66, .int s0_66]) (rest := []) (wr := []) (ws' := fun _ => (wM (x_y X) a thrown g saved hasSaved coef nodes nodeMany isDeep codes details levelMany given v8.1 v8.2 tape taped wrongAt at_ value readPlace readValue readEpoch)) (st' := fun _ => []) 5 mw_8_79 mw_1_9 mw_8_77 mw_8_78 hd_X11_writesPart rfl (g_rmo hR (by omega) (by omega)) [0, 1, 2, 3, 4, 5, 6, 7, 8, 9] [] [0, 1, 2, 3, 4, 5, 6, 7, 8, 9] ⟨rfl, rfl, rfl, rfl, by decide, gRoIn_0, rfl, fun _ => rfl⟩ rfl (Nat.le_of_ble_eq_true rfl) dX11_writesAll_66 (g_rc hR (Nat.le_of_ble_eq_true rfl) (Nat.le_of_ble_eq_true rfl)) (ck' := 0) (sk' := 0) rfl rfl (fun _ => rfl) (fun _ _ => ?_) (fun _ hx => absurd rfl hx)
        refine g_iload C 6 dX11_writesAll_69 rfl ?_
        refine g_iload_n C 3 dX11_writesAll_71 rfl ?_
        refine g_icmp_ge C 81 dX11_writesAll_72 (by decide) (fun c10 => ?_) (fun c10 => ?_)
        · have hf := opt_pos c10 hf
          exact H81 v8.1 v8.2 l6_66 l8_66 hf
        · have hf := opt_neg c10 hf
          refine g_aload_n C 0 dX11_writesAll_75 rfl ?_
          refine g_bipush C (v := 38) dX11_writesAll_76 (by decide) ?_
          obtain ⟨v11, h12, hf⟩ := opt_bind hf
          refine g_callV C (c_X11_writes (l := x_l X) (D := x_D X) (cy := x_y X) (a := a) (thrown := thrown) (g := g) (saved := saved) (hasSaved := hasSaved) (coef := coef) (nodes := nodes) (nodeMany := nodeMany) (isDeep := isDeep) (codes := codes) (details := details) (levelMany := levelMany) (given := given) (paper := v8.1) (papered := v8.2) (tape := tape) (taped := taped) (wrongAt := wrongAt) (at_ := at_) (value := value) (readPlace := readPlace) (readValue := readValue) (readEpoch := readEpoch) (p0 := 38) h12) (As := [.int 38]) (rest := []) (wr := []) (ws' := fun _ => (wM (x_y X) a thrown g saved hasSaved coef nodes nodeMany isDeep codes details levelMany given v11.1 v11.2 tape taped wrongAt at_ value readPlace readValue readEpoch)) (st' := fun _ => []) (ci := 12) 1 0 ⟨_, rfl⟩ rfl rfl mw_8_10 mw_1_9 mw_8_7 mw_8_9 mp_61 hd_X11_writes rfl (g_rmo hR (by omega) (by omega)) [0, 1, 2, 3, 4, 5, 6, 7, 8, 9] [] [0, 1, 2, 3, 4, 5, 6, 7, 8, 9] ⟨rfl, rfl, rfl, rfl, by decide, gRoIn_0, rfl, fun _ => rfl⟩ rfl (Nat.le_of_ble_eq_true rfl) dX11_writesAll_78 (g_rc hR (Nat.le_of_ble_eq_true rfl) (Nat.le_of_ble_eq_true rfl)) (ck' := 0) (sk' := 0) rfl rfl (fun _ => rfl) (fun _ _ => ?_) (fun _ hx => absurd rfl hx)
          exact H81 v11.1 v11.2 l6_66 l8_66 hf
      have H61 : ∀ (paper_61 : Nat → Int32) (papered_61 : Int32) (l6_61 : Int32) (l8_61 : Int32) (s0_61 : Int32) (s1_61 : Int32) (s2_61 : Int32), F_X11_writesAll_L61 P g p3 (F_X11_writesAll_L27 P g p1 p3 p4 n27) paper_61 papered_61 l6_61 l8_61 s0_61 s1_61 s2_61 = some val → gW X Q 0 0 ((wM (x_y X) a thrown g saved hasSaved coef nodes nodeMany isDeep codes details levelMany given paper_61 papered_61 tape taped wrongAt at_ value readPlace readValue readEpoch)) [(0, .ref (a 0)), (1, .int p1), (2, .int p2), (3, .int p3), (4, .int p4), (6, .int l6_61), (8, .int l8_61)] [.int s0_61, .int s1_61, .int s2_61, .ref (a 0)] 61 := by
        intro paper_61 papered_61 l6_61 l8_61 s0_61 s1_61 s2_61 hf
        unfold F_X11_writesAll_L61 at hf
        refine g_iconst C (v := 1) dX11_writesAll_61 (by decide) ?_
        refine g_goto C 66 dX11_writesAll_62 (by decide) ?_
        exact H66 paper_61 papered_61 l6_61 l8_61 1 s0_61 s1_61 s2_61 hf
      refine g_iload C 6 dX11_writesAll_27 rfl ?_
      refine g_iload_n C 3 dX11_writesAll_29 rfl ?_
      refine g_icmp_ge C 90 dX11_writesAll_30 (by decide) (fun c4 => ?_) (fun c4 => ?_)
      · have hf := opt_pos c4 hf
        obtain rfl := Option.some.inj hf
        exact g_vret C E () dX11_writesAll_90 rfl rfl rfl (Nat.le_of_ble_eq_true rfl) (Nat.le_of_ble_eq_true rfl)
      · have hf := opt_neg c4 hf
        refine g_aload_n C 0 dX11_writesAll_33 rfl ?_
        refine g_iload_n C 1 dX11_writesAll_34 rfl ?_
        refine g_iload C 6 dX11_writesAll_35 rfl ?_
        refine g_iload_n C 3 dX11_writesAll_37 rfl ?_
        refine g_bipush C (v := 38) dX11_writesAll_38 (by decide) ?_
        obtain ⟨v5, h6, hf⟩ := opt_bind hf
        refine g_callV C (c_X11_next (l := x_l X) (D := x_D X) (cy := x_y X) (a := a) (thrown := thrown) (g := g) (saved := saved) (hasSaved := hasSaved) (coef := coef) (nodes := nodes) (nodeMany := nodeMany) (isDeep := isDeep) (codes := codes) (details := details) (levelMany := levelMany) (given := given) (paper := paper_27) (papered := papered_27) (tape := tape) (taped := taped) (wrongAt := wrongAt) (at_ := at_) (value := value) (readPlace := readPlace) (readValue := readValue) (readEpoch := readEpoch) (p0 := p1) (p1 := l7_27) (p2 := p3) (p3 := 38) h6) (As := [.int p1, .int l7_27, .int p3, .int 38]) (rest := []) (wr := []) (ws' := fun _ => (wM (x_y X) a thrown g saved hasSaved coef nodes nodeMany isDeep codes details levelMany given paper_27 papered_27 tape taped wrongAt at_ value readPlace readValue readEpoch)) (st' := fun _ => [.int v5]) (ci := 12) 4 0 ⟨_, rfl⟩ rfl rfl mw_7_168 mw_1_9 mw_7_165 mw_7_167 mp_52 hd_X11_next rfl (g_rmo hR (by omega) (by omega)) [0, 1, 2, 3, 4, 5, 6, 7, 8, 9] [] [0, 1, 2, 3, 4, 5, 6, 7, 8, 9] ⟨rfl, rfl, rfl, rfl, by decide, gRoIn_0, rfl, fun _ => rfl⟩ rfl (Nat.le_of_ble_eq_true rfl) dX11_writesAll_40 (g_rc hR (Nat.le_of_ble_eq_true rfl) (Nat.le_of_ble_eq_true rfl)) (ck' := 0) (sk' := 0) rfl rfl (fun _ => rfl) (fun _ _ => ?_) (fun _ hx => absurd rfl hx)
        refine g_istore C (lv' := [(8, .int v5), (0, .ref (a 0)), (1, .int p1), (2, .int p2), (3, .int p3), (4, .int p4), (6, .int l6_27), (7, .int l7_27)]) dX11_writesAll_43 (g_nlt hn rfl) rfl ?_
        refine g_aload_n C 1 dX11_writesAll_45 rfl ?_
        refine g_iload_n C 2 dX11_writesAll_46 rfl ?_
        refine g_iload C 7 dX11_writesAll_47 rfl ?_
        refine g_iload C 0 dX11_writesAll_49 rfl ?_
        refine g_iload C 6 dX11_writesAll_51 rfl ?_
        refine g_if_ne C 61 dX11_writesAll_53 (by decide) (fun c7 => ?_) (fun c7 => ?_)
        · have hf := opt_neg c7 hf
          refine gW.locals [1, 2, 3, 4, 5, 6, 0] rfl ?_
          exact H61 paper_27 papered_27 l6_27 v5 v5 l7_27 p1 hf
        · have hf := opt_pos c7 hf
          refine g_iload C 5 dX11_writesAll_56 rfl ?_
          refine g_if_eq C 65 dX11_writesAll_58 (by decide) (fun c13 => ?_) (fun c13 => ?_)
          · have hf := opt_pos c13 hf
            refine g_iconst C (v := 0) dX11_writesAll_65 (by decide) ?_
            refine gW.locals [1, 2, 3, 4, 5, 6, 0] rfl ?_
            exact H66 paper_27 papered_27 l6_27 v5 0 v5 l7_27 p1 hf
          · have hf := opt_neg c13 hf
            refine gW.locals [1, 2, 3, 4, 5, 6, 0] rfl ?_
            exact H61 paper_27 papered_27 l6_27 v5 v5 l7_27 p1 hf
  have H22 : ∀ (paper_22 : Nat → Int32) (papered_22 : Int32) (s0_22 : Int32), F_X11_writesAll_L22 P g p1 p2 p3 p4 paper_22 papered_22 s0_22 = some val → gW X Q 0 0 ((wM (x_y X) a thrown g saved hasSaved coef nodes nodeMany isDeep codes details levelMany given paper_22 papered_22 tape taped wrongAt at_ value readPlace readValue readEpoch)) [(0, .ref (a 0)), (1, .int p1), (2, .int p2), (3, .int p3), (4, .int p4)] [.int s0_22] 22 := by
    intro paper_22 papered_22 s0_22 hf
    unfold F_X11_writesAll_L22 at hf
    refine g_istore C (lv' := [(6, .int s0_22), (0, .ref (a 0)), (1, .int p1), (2, .int p2), (3, .int p3), (4, .int p4)]) dX11_writesAll_22 (g_nlt hn rfl) rfl ?_
    refine g_iload_n C 3 dX11_writesAll_24 rfl ?_
    refine g_istore C (lv' := [(7, .int p2), (6, .int s0_22), (0, .ref (a 0)), (1, .int p1), (2, .int p2), (3, .int p3), (4, .int p4)]) dX11_writesAll_25 (g_nlt hn rfl) rfl ?_
    refine gW.locals [2, 3, 4, 5, 6, 1, 0] rfl ?_
    exact H27 1000 paper_22 papered_22 s0_22 p2 hf
  show gW X Q 0 0 ((wM (x_y X) a thrown g saved hasSaved coef nodes nodeMany isDeep codes details levelMany given paper papered tape taped wrongAt at_ value readPlace readValue readEpoch)) [(0, .ref (a 0)), (1, .int p1), (2, .int p2), (3, .int p3), (4, .int p4)] [] 0
  refine g_aload_n C 0 dX11_writesAll_0 rfl ?_
  refine g_iload_n C 1 dX11_writesAll_1 rfl ?_
  refine g_iload_n C 2 dX11_writesAll_2 rfl ?_
  refine g_iload_n C 3 dX11_writesAll_3 rfl ?_
  refine g_bipush C (v := 38) dX11_writesAll_4 (by decide) ?_
  obtain ⟨v1, h2, hf⟩ := opt_bind hf
  refine g_callV C (c_X11_next (l := x_l X) (D := x_D X) (cy := x_y X) (a := a) (thrown := thrown) (g := g) (saved := saved) (hasSaved := hasSaved) (coef := coef) (nodes := nodes) (nodeMany := nodeMany) (isDeep := isDeep) (codes := codes) (details := details) (levelMany := levelMany) (given := given) (paper := paper) (papered := papered) (tape := tape) (taped := taped) (wrongAt := wrongAt) (at_ := at_) (value := value) (readPlace := readPlace) (readValue := readValue) (readEpoch := readEpoch) (p0 := p1) (p1 := p2) (p2 := p3) (p3 := 38) h2) (As := [.int p1, .int p2, .int p3, .int 38]) (rest := []) (wr := []) (ws' := fun _ => (wM (x_y X) a thrown g saved hasSaved coef nodes nodeMany isDeep codes details levelMany given paper papered tape taped wrongAt at_ value readPlace readValue readEpoch)) (st' := fun _ => [.int v1]) (ci := 12) 4 0 ⟨_, rfl⟩ rfl rfl mw_7_168 mw_1_9 mw_7_165 mw_7_167 mp_52 hd_X11_next rfl (g_rmo hR (by omega) (by omega)) [0, 1, 2, 3, 4, 5, 6, 7, 8, 9] [] [0, 1, 2, 3, 4, 5, 6, 7, 8, 9] ⟨rfl, rfl, rfl, rfl, by decide, gRoIn_0, rfl, fun _ => rfl⟩ rfl (Nat.le_of_ble_eq_true rfl) dX11_writesAll_6 (g_rc hR (Nat.le_of_ble_eq_true rfl) (Nat.le_of_ble_eq_true rfl)) (ck' := 0) (sk' := 0) rfl rfl (fun _ => rfl) (fun _ _ => ?_) (fun _ hx => absurd rfl hx)
  refine g_istore C (lv' := [(5, .int v1), (0, .ref (a 0)), (1, .int p1), (2, .int p2), (3, .int p3), (4, .int p4)]) dX11_writesAll_9 (g_nlt hn rfl) rfl ?_
  refine g_iload C 0 dX11_writesAll_11 rfl ?_
  refine g_iload_n C 4 dX11_writesAll_13 rfl ?_
  refine g_icmp_ge C 21 dX11_writesAll_14 (by decide) (fun c3 => ?_) (fun c3 => ?_)
  · have hf := opt_pos c3 hf
    refine g_iconst C (v := 0) dX11_writesAll_21 (by decide) ?_
    refine gW.locals [1, 2, 3, 4, 5] rfl ?_
    exact H22 paper papered 0 hf
  · have hf := opt_neg c3 hf
    refine g_iconst C (v := 1) dX11_writesAll_17 (by decide) ?_
    refine g_goto C 22 dX11_writesAll_18 (by decide) ?_
    refine gW.locals [1, 2, 3, 4, 5] rfl ?_
    exact H22 paper papered 1 hf
def F_X11_writesPolicy_L43  (K3 : (Nat → Int32) → Int32 → Int32 → Option ((Nat → Int32) × Int32)) (paper_43 : Nat → Int32) (papered_43 : Int32) (l5_43 : Int32) : Option ((Nat → Int32) × Int32) := K3 paper_43 papered_43 (l5_43 + 1)
def F_X11_writesPolicy_L3 (P : (Nat → Int32) → (Nat → Int32) → Int32 → Int32 → Int32 → Int32 → Int32 → Option ((Nat → Int32) × Int32)) (g : Nat → Int32) (p1 : Int32) (p3 : Int32)  : Nat → (Nat → Int32) → Int32 → Int32 → Option ((Nat → Int32) × Int32)
  | 0, _, _, _ => none
  | n + 1, paper_3, papered_3, l4_3 => if p3 ≤ l4_3 then (some (paper_3, papered_3)) else ((F_X11_next g p1 l4_3 p3 124).bind fun v2 => (F_X11_writesAll P g paper_3 papered_3 p1 l4_3 v2 0).bind fun v4 => if p3 ≤ v2 then (F_X11_writesPolicy_L43 (F_X11_writesPolicy_L3 P g p1 p3 n) v4.1 v4.2 v2) else ((F_X11_writes v4.1 v4.2 124).bind fun v7 => F_X11_writesPolicy_L43 (F_X11_writesPolicy_L3 P g p1 p3 n) v7.1 v7.2 v2))
def F_X11_writesPolicy (P : (Nat → Int32) → (Nat → Int32) → Int32 → Int32 → Int32 → Int32 → Int32 → Option ((Nat → Int32) × Int32)) (g : Nat → Int32) (paper : Nat → Int32) (papered : Int32) (p1 : Int32) (p2 : Int32) (p3 : Int32) : Option ((Nat → Int32) × Int32) := F_X11_writesPolicy_L3 P g p1 p3 1000 paper papered p2
set_option maxRecDepth 100000 in
set_option maxHeartbeats 4000000 in
theorem c_X11_writesPolicy {l : Launch} {D : va_G} {cy : Nat → ClassId} {d : Nat} {P : (Nat → Int32) → (Nat → Int32) → Int32 → Int32 → Int32 → Int32 → Int32 → Option ((Nat → Int32) × Int32)} (hP : ∀ {a : Nat → Nat} {thrown : Int32} {g : Nat → Int32} {saved : Nat → Int32} {hasSaved : Int32} {coef : Nat → Int32} {nodes : Nat → Int32} {nodeMany : Int32} {isDeep : Int32} {codes : Nat → Int32} {details : Nat → Int32} {levelMany : Int32} {given : Nat → Int32} {paper : Nat → Int32} {papered : Int32} {tape : Nat → Int32} {taped : Int32} {wrongAt : Int32} {at_ : Int32} {value : Int32} {readPlace : Int32} {readValue : Int32} {readEpoch : Int32} {p1 : Int32} {p2 : Int32} {p3 : Int32} {p4 : Int32}  {val : (Nat → Int32) × Int32}, P g paper papered p1 p2 p3 p4 = some val → gCt l D cy yX11_writesPart cX11_writesPart 8 none (3 * d + 6) (90 * d + 500) 0 0 [.ref (a 0), .int p1, .int p2, .int p3, .int p4] [] ((wM cy a thrown g saved hasSaved coef nodes nodeMany isDeep codes details levelMany given paper papered tape taped wrongAt at_ value readPlace readValue readEpoch)) 0 (fun _ : Unit => none) (fun _ => (wM cy a thrown g saved hasSaved coef nodes nodeMany isDeep codes details levelMany given val.1 val.2 tape taped wrongAt at_ value readPlace readValue readEpoch))) {a : Nat → Nat} {thrown : Int32} {g : Nat → Int32} {saved : Nat → Int32} {hasSaved : Int32} {coef : Nat → Int32} {nodes : Nat → Int32} {nodeMany : Int32} {isDeep : Int32} {codes : Nat → Int32} {details : Nat → Int32} {levelMany : Int32} {given : Nat → Int32} {paper : Nat → Int32} {papered : Int32} {tape : Nat → Int32} {taped : Int32} {wrongAt : Int32} {at_ : Int32} {value : Int32} {readPlace : Int32} {readValue : Int32} {readEpoch : Int32} {p1 : Int32} {p2 : Int32} {p3 : Int32}  {val : (Nat → Int32) × Int32} (hf : F_X11_writesPolicy P g paper papered p1 p2 p3 = some val) : gCt l D cy yX11_writesPolicy cX11_writesPolicy 6 none (3 * d + 8) (90 * d + 560) 0 0 [.ref (a 0), .int p1, .int p2, .int p3] [] ((wM cy a thrown g saved hasSaved coef nodes nodeMany isDeep codes details levelMany given paper papered tape taped wrongAt at_ value readPlace readValue readEpoch)) 0 (fun _ : Unit => none) (fun _ => (wM cy a thrown g saved hasSaved coef nodes nodeMany isDeep codes details levelMany given val.1 val.2 tape taped wrongAt at_ value readPlace readValue readEpoch)) := by
  refine g_begin (by decide +kernel) (Nat.le_of_ble_eq_true rfl) ?_
  intro X Q hl hR hD hy hro hn C hin E
  subst hl; subst hD; subst hy
  replace C : gC X "SecretVaultModel" cX11_writesPolicy none := C
  unfold F_X11_writesPolicy at hf
  have H3 : ∀ (n3 : Nat), ∀ (paper_3 : Nat → Int32) (papered_3 : Int32) (l4_3 : Int32), F_X11_writesPolicy_L3 P g p1 p3 n3 paper_3 papered_3 l4_3 = some val → gW X Q 0 0 ((wM (x_y X) a thrown g saved hasSaved coef nodes nodeMany isDeep codes details levelMany given paper_3 papered_3 tape taped wrongAt at_ value readPlace readValue readEpoch)) [(0, .ref (a 0)), (1, .int p1), (2, .int p2), (3, .int p3), (4, .int l4_3)] [] 3 := by
    intro n3
    induction n3 with
    | zero => intros; rename_i hf; cases hf
    | succ n3 ih =>
      intro paper_3 papered_3 l4_3 hf
      have H3 := ih
      rw [F_X11_writesPolicy_L3] at hf
      have H43 : ∀ (paper_43 : Nat → Int32) (papered_43 : Int32) (l5_43 : Int32), F_X11_writesPolicy_L43 (F_X11_writesPolicy_L3 P g p1 p3 n3) paper_43 papered_43 l5_43 = some val → gW X Q 0 0 ((wM (x_y X) a thrown g saved hasSaved coef nodes nodeMany isDeep codes details levelMany given paper_43 papered_43 tape taped wrongAt at_ value readPlace readValue readEpoch)) [(0, .ref (a 0)), (1, .int p1), (2, .int p2), (3, .int p3), (5, .int l5_43)] [] 43 := by
        intro paper_43 papered_43 l5_43 hf
        unfold F_X11_writesPolicy_L43 at hf
        refine g_iload C 4 dX11_writesPolicy_43 rfl ?_
        refine g_iconst C (v := 1) dX11_writesPolicy_45 (by decide) ?_
        refine g_iadd C dX11_writesPolicy_46 ?_
        refine g_istore C (lv' := [(4, .int (l5_43 + 1)), (0, .ref (a 0)), (1, .int p1), (2, .int p2), (3, .int p3), (5, .int l5_43)]) dX11_writesPolicy_47 (g_nlt hn rfl) rfl ?_
        refine g_goto C 3 dX11_writesPolicy_49 (by decide) ?_
        refine gW.locals [1, 2, 3, 4, 0] rfl ?_
        exact H3 paper_43 papered_43 (l5_43 + 1) hf
      refine g_iload C 4 dX11_writesPolicy_3 rfl ?_
      refine g_iload_n C 3 dX11_writesPolicy_5 rfl ?_
      refine g_icmp_ge C 52 dX11_writesPolicy_6 (by decide) (fun c1 => ?_) (fun c1 => ?_)
      · have hf := opt_pos c1 hf
        obtain rfl := Option.some.inj hf
        exact g_vret C E () dX11_writesPolicy_52 rfl rfl rfl (Nat.le_of_ble_eq_true rfl) (Nat.le_of_ble_eq_true rfl)
      · have hf := opt_neg c1 hf
        refine g_aload_n C 0 dX11_writesPolicy_9 rfl ?_
        refine g_iload_n C 1 dX11_writesPolicy_10 rfl ?_
        refine g_iload C 4 dX11_writesPolicy_11 rfl ?_
        refine g_iload_n C 3 dX11_writesPolicy_13 rfl ?_
        refine g_bipush C (v := 124) dX11_writesPolicy_14 (by decide) ?_
        obtain ⟨v2, h3, hf⟩ := opt_bind hf
        refine g_callV C (c_X11_next (l := x_l X) (D := x_D X) (cy := x_y X) (a := a) (thrown := thrown) (g := g) (saved := saved) (hasSaved := hasSaved) (coef := coef) (nodes := nodes) (nodeMany := nodeMany) (isDeep := isDeep) (codes := codes) (details := details) (levelMany := levelMany) (given := given) (paper := paper_3) (papered := papered_3) (tape := tape) (taped := taped) (wrongAt := wrongAt) (at_ := at_) (value := value) (readPlace := readPlace) (readValue := readValue) (readEpoch := readEpoch) (p0 := p1) (p1 := l4_3) (p2 := p3) (p3 := 124) h3) (As := [.int p1, .int l4_3, .int p3, .int 124]) (rest := []) (wr := []) (ws' := fun _ => (wM (x_y X) a thrown g saved hasSaved coef nodes nodeMany isDeep codes details levelMany given paper_3 papered_3 tape taped wrongAt at_ value readPlace readValue readEpoch)) (st' := fun _ => [.int v2]) (ci := 12) 4 0 ⟨_, rfl⟩ rfl rfl mw_7_168 mw_1_9 mw_7_165 mw_7_167 mp_52 hd_X11_next rfl (g_rmo hR (by omega) (by omega)) [0, 1, 2, 3, 4, 5, 6, 7, 8, 9] [] [0, 1, 2, 3, 4, 5, 6, 7, 8, 9] ⟨rfl, rfl, rfl, rfl, by decide, gRoIn_0, rfl, fun _ => rfl⟩ rfl (Nat.le_of_ble_eq_true rfl) dX11_writesPolicy_16 (g_rc hR (Nat.le_of_ble_eq_true rfl) (Nat.le_of_ble_eq_true rfl)) (ck' := 0) (sk' := 0) rfl rfl (fun _ => rfl) (fun _ _ => ?_) (fun _ hx => absurd rfl hx)
        refine g_istore C (lv' := [(5, .int v2), (0, .ref (a 0)), (1, .int p1), (2, .int p2), (3, .int p3), (4, .int l4_3)]) dX11_writesPolicy_19 (g_nlt hn rfl) rfl ?_
        refine g_aload_n C 1 dX11_writesPolicy_21 rfl ?_
        refine g_iload_n C 2 dX11_writesPolicy_22 rfl ?_
        refine g_iload C 5 dX11_writesPolicy_23 rfl ?_
        refine g_iload C 0 dX11_writesPolicy_25 rfl ?_
        refine g_iconst C (v := 0) dX11_writesPolicy_27 (by decide) ?_
        obtain ⟨v4, h5, hf⟩ := opt_bind hf
        refine g_callS C (c_X11_writesAll (d := d) (P := P) hP (l := x_l X) (D := x_D X) (cy := x_y X) (a := a) (thrown := thrown) (g := g) (saved := saved) (hasSaved := hasSaved) (coef := coef) (nodes := nodes) (nodeMany := nodeMany) (isDeep := isDeep) (codes := codes) (details := details) (levelMany := levelMany) (given := given) (paper := paper_3) (papered := papered_3) (tape := tape) (taped := taped) (wrongAt := wrongAt) (at_ := at_) (value := value) (readPlace := readPlace) (readValue := readValue) (readEpoch := readEpoch) (p1 := p1) (p2 := l4_3) (p3 := v2) (p4 := 0) h5) (As := [.ref (a 0), .int p1, .int l4_3, .int v2, .int 0]) (rest := []) (wr := []) (ws' := fun _ => (wM (x_y X) a thrown g saved hasSaved coef nodes nodeMany isDeep codes details levelMany given v4.1 v4.2 tape taped wrongAt at_ value readPlace readValue readEpoch)) (st' := fun _ => []) 5 mw_8_76 mw_1_9 mw_8_74 mw_8_75 hd_X11_writesAll rfl (g_rmo hR (by omega) (by omega)) [0, 1, 2, 3, 4, 5, 6, 7, 8, 9] [] [0, 1, 2, 3, 4, 5, 6, 7, 8, 9] ⟨rfl, rfl, rfl, rfl, by decide, gRoIn_0, rfl, fun _ => rfl⟩ rfl (Nat.le_of_ble_eq_true rfl) dX11_writesPolicy_28 (g_rc hR (Nat.le_of_ble_eq_true rfl) (Nat.le_of_ble_eq_true rfl)) (ck' := 0) (sk' := 0) rfl rfl (fun _ => rfl) (fun _ _ => ?_) (fun _ hx => absurd rfl hx)
        refine g_iload C 0 dX11_writesPolicy_31 rfl ?_
        refine g_iload_n C 4 dX11_writesPolicy_33 rfl ?_
        refine g_icmp_ge C 43 dX11_writesPolicy_34 (by decide) (fun c6 => ?_) (fun c6 => ?_)
        · have hf := opt_pos c6 hf
          refine gW.locals [1, 2, 3, 4, 0] rfl ?_
          exact H43 v4.1 v4.2 v2 hf
        · have hf := opt_neg c6 hf
          refine g_aload_n C 1 dX11_writesPolicy_37 rfl ?_
          refine g_bipush C (v := 124) dX11_writesPolicy_38 (by decide) ?_
          obtain ⟨v7, h8, hf⟩ := opt_bind hf
          refine g_callV C (c_X11_writes (l := x_l X) (D := x_D X) (cy := x_y X) (a := a) (thrown := thrown) (g := g) (saved := saved) (hasSaved := hasSaved) (coef := coef) (nodes := nodes) (nodeMany := nodeMany) (isDeep := isDeep) (codes := codes) (details := details) (levelMany := levelMany) (given := given) (paper := v4.1) (papered := v4.2) (tape := tape) (taped := taped) (wrongAt := wrongAt) (at_ := at_) (value := value) (readPlace := readPlace) (readValue := readValue) (readEpoch := readEpoch) (p0 := 124) h8) (As := [.int 124]) (rest := []) (wr := []) (ws' := fun _ => (wM (x_y X) a thrown g saved hasSaved coef nodes nodeMany isDeep codes details levelMany given v7.1 v7.2 tape taped wrongAt at_ value readPlace readValue readEpoch)) (st' := fun _ => []) (ci := 12) 1 0 ⟨_, rfl⟩ rfl rfl mw_8_10 mw_1_9 mw_8_7 mw_8_9 mp_61 hd_X11_writes rfl (g_rmo hR (by omega) (by omega)) [0, 1, 2, 3, 4, 5, 6, 7, 8, 9] [] [0, 1, 2, 3, 4, 5, 6, 7, 8, 9] ⟨rfl, rfl, rfl, rfl, by decide, gRoIn_0, rfl, fun _ => rfl⟩ rfl (Nat.le_of_ble_eq_true rfl) dX11_writesPolicy_40 (g_rc hR (Nat.le_of_ble_eq_true rfl) (Nat.le_of_ble_eq_true rfl)) (ck' := 0) (sk' := 0) rfl rfl (fun _ => rfl) (fun _ _ => ?_) (fun _ hx => absurd rfl hx)
          refine gW.locals [1, 2, 3, 4, 0] rfl ?_
          exact H43 v7.1 v7.2 v2 hf
  show gW X Q 0 0 ((wM (x_y X) a thrown g saved hasSaved coef nodes nodeMany isDeep codes details levelMany given paper papered tape taped wrongAt at_ value readPlace readValue readEpoch)) [(0, .ref (a 0)), (1, .int p1), (2, .int p2), (3, .int p3)] [] 0
  refine g_iload_n C 2 dX11_writesPolicy_0 rfl ?_
  refine g_istore C (lv' := [(4, .int p2), (0, .ref (a 0)), (1, .int p1), (2, .int p2), (3, .int p3)]) dX11_writesPolicy_1 (g_nlt hn rfl) rfl ?_
  refine gW.locals [1, 2, 3, 4, 0] rfl ?_
  exact H3 1000 paper papered p2 hf
def FB_X11_writesPart_L218   (paper_218 : Nat → Int32) (papered_218 : Int32) : Option ((Nat → Int32) × Int32) := some (paper_218, papered_218)
def FB_X11_writesPart_L197  (K150 : (Nat → Int32) → Int32 → Int32 → Option ((Nat → Int32) × Int32)) (paper_197 : Nat → Int32) (papered_197 : Int32) (l7_197 : Int32) (s0_197 : Int32) : Option ((Nat → Int32) × Int32) := (F_X11_writes paper_197 papered_197 s0_197).bind fun v23 => K150 v23.1 v23.2 (l7_197 + 1)
def FB_X11_writesPart_L150 (P : (Nat → Int32) → (Nat → Int32) → Int32 → Int32 → Int32 → Int32 → Int32 → Option ((Nat → Int32) × Int32)) (g : Nat → Int32) (p1 : Int32) (p3 : Int32)  : Nat → (Nat → Int32) → Int32 → Int32 → Option ((Nat → Int32) × Int32)
  | 0, _, _, _ => none
  | n + 1, paper_150, papered_150, l6_150 => if (p3 - 1) ≤ l6_150 then (FB_X11_writesPart_L218 paper_150 papered_150) else ((F_X11_next g p1 l6_150 (p3 - 1) 44).bind fun v18 => (F_X11_writesPolicy P g paper_150 papered_150 p1 l6_150 v18).bind fun v20 => if (p3 - 1) ≤ v18 then (FB_X11_writesPart_L197 (FB_X11_writesPart_L150 P g p1 p3 n) v20.1 v20.2 v18 41) else (FB_X11_writesPart_L197 (FB_X11_writesPart_L150 P g p1 p3 n) v20.1 v20.2 v18 44))
def FB_X11_writesPart_L108   (paper_108 : Nat → Int32) (papered_108 : Int32) : Option ((Nat → Int32) × Int32) := FB_X11_writesPart_L218 paper_108 papered_108
def FB_X11_writesPart_L92 (p4 : Int32)  (paper_92 : Nat → Int32) (papered_92 : Int32) (l6_92 : Int32) : Option ((Nat → Int32) × Int32) := if l6_92 = 0 then (FB_X11_writesPart_L108 paper_92 papered_92) else (if p4 = 0 then (FB_X11_writesPart_L108 paper_92 papered_92) else ((F_X11_writes paper_92 papered_92 41).bind fun v34 => FB_X11_writesPart_L108 v34.1 v34.2))
def FB_X11_writesPart_L60 (P : (Nat → Int32) → (Nat → Int32) → Int32 → Int32 → Int32 → Int32 → Int32 → Option ((Nat → Int32) × Int32)) (g : Nat → Int32) (p1 : Int32) (p2 : Int32) (p3 : Int32) (p4 : Int32)  (paper_60 : Nat → Int32) (papered_60 : Int32) (l6_60 : Int32) : Option ((Nat → Int32) × Int32) := if l6_60 = 0 then ((F_X11_writesAll P g paper_60 papered_60 p1 (p2 + 1) (p3 - 1) p4).bind fun v30 => FB_X11_writesPart_L92 p4 v30.1 v30.2 l6_60) else ((F_X11_writesPolicy P g paper_60 papered_60 p1 (p2 + 1) (p3 - 1)).bind fun v36 => FB_X11_writesPart_L92 p4 v36.1 v36.2 l6_60)
def FB_X11_writesPart_L42 (P : (Nat → Int32) → (Nat → Int32) → Int32 → Int32 → Int32 → Int32 → Int32 → Option ((Nat → Int32) × Int32)) (g : Nat → Int32) (p1 : Int32) (p2 : Int32) (p3 : Int32) (p4 : Int32)  (paper_42 : Nat → Int32) (papered_42 : Int32) (s0_42 : Int32) : Option ((Nat → Int32) × Int32) := if s0_42 = 0 then (FB_X11_writesPart_L60 P g p1 p2 p3 p4 paper_42 papered_42 s0_42) else (if p4 = 0 then (FB_X11_writesPart_L60 P g p1 p2 p3 p4 paper_42 papered_42 s0_42) else ((F_X11_writes paper_42 papered_42 40).bind fun v39 => FB_X11_writesPart_L60 P g p1 p2 p3 p4 v39.1 v39.2 s0_42))
def FB_X11_writesPart (P : (Nat → Int32) → (Nat → Int32) → Int32 → Int32 → Int32 → Int32 → Int32 → Option ((Nat → Int32) × Int32)) (g : Nat → Int32) (paper : Nat → Int32) (papered : Int32) (p1 : Int32) (p2 : Int32) (p3 : Int32) (p4 : Int32) : Option ((Nat → Int32) × Int32) := (F_X11_of g p1 ((12 : Int32) + p2)).bind fun v1 => if v1 = 40 then ((F_X11_next g p1 (p2 + 1) (p3 - 1) 124).bind fun v25 => if (p3 - 1) ≤ v25 then (FB_X11_writesPart_L42 P g p1 p2 p3 p4 paper papered 0) else (FB_X11_writesPart_L42 P g p1 p2 p3 p4 paper papered 1)) else ((F_X11_isCount g p1 p2 p3).bind fun v4 => if v4 = 0 then ((F_X11_writes paper papered v1).bind fun v7 => FB_X11_writesPart_L218 v7.1 v7.2) else ((F_X11_writes paper papered v1).bind fun v9 => (F_X11_writes v9.1 v9.2 111).bind fun v11 => (F_X11_writes v11.1 v11.2 102).bind fun v13 => (F_X11_writes v13.1 v13.2 40).bind fun v15 => FB_X11_writesPart_L150 P g p1 p3 1000 v15.1 v15.2 (p2 + 4)))
set_option maxRecDepth 100000 in
set_option maxHeartbeats 4000000 in
theorem cB_X11_writesPart {l : Launch} {D : va_G} {cy : Nat → ClassId} {d : Nat} {P : (Nat → Int32) → (Nat → Int32) → Int32 → Int32 → Int32 → Int32 → Int32 → Option ((Nat → Int32) × Int32)} (hP : ∀ {a : Nat → Nat} {thrown : Int32} {g : Nat → Int32} {saved : Nat → Int32} {hasSaved : Int32} {coef : Nat → Int32} {nodes : Nat → Int32} {nodeMany : Int32} {isDeep : Int32} {codes : Nat → Int32} {details : Nat → Int32} {levelMany : Int32} {given : Nat → Int32} {paper : Nat → Int32} {papered : Int32} {tape : Nat → Int32} {taped : Int32} {wrongAt : Int32} {at_ : Int32} {value : Int32} {readPlace : Int32} {readValue : Int32} {readEpoch : Int32} {p1 : Int32} {p2 : Int32} {p3 : Int32} {p4 : Int32}  {val : (Nat → Int32) × Int32}, P g paper papered p1 p2 p3 p4 = some val → gCt l D cy yX11_writesPart cX11_writesPart 8 none (3 * d + 6) (90 * d + 500) 0 0 [.ref (a 0), .int p1, .int p2, .int p3, .int p4] [] ((wM cy a thrown g saved hasSaved coef nodes nodeMany isDeep codes details levelMany given paper papered tape taped wrongAt at_ value readPlace readValue readEpoch)) 0 (fun _ : Unit => none) (fun _ => (wM cy a thrown g saved hasSaved coef nodes nodeMany isDeep codes details levelMany given val.1 val.2 tape taped wrongAt at_ value readPlace readValue readEpoch))) {a : Nat → Nat} {thrown : Int32} {g : Nat → Int32} {saved : Nat → Int32} {hasSaved : Int32} {coef : Nat → Int32} {nodes : Nat → Int32} {nodeMany : Int32} {isDeep : Int32} {codes : Nat → Int32} {details : Nat → Int32} {levelMany : Int32} {given : Nat → Int32} {paper : Nat → Int32} {papered : Int32} {tape : Nat → Int32} {taped : Int32} {wrongAt : Int32} {at_ : Int32} {value : Int32} {readPlace : Int32} {readValue : Int32} {readEpoch : Int32} {p1 : Int32} {p2 : Int32} {p3 : Int32} {p4 : Int32}  {val : (Nat → Int32) × Int32} (hf : FB_X11_writesPart P g paper papered p1 p2 p3 p4 = some val) : gCt l D cy yX11_writesPart cX11_writesPart 8 none (3 * (d + 1) + 6) (90 * (d + 1) + 500) 0 0 [.ref (a 0), .int p1, .int p2, .int p3, .int p4] [] ((wM cy a thrown g saved hasSaved coef nodes nodeMany isDeep codes details levelMany given paper papered tape taped wrongAt at_ value readPlace readValue readEpoch)) 0 (fun _ : Unit => none) (fun _ => (wM cy a thrown g saved hasSaved coef nodes nodeMany isDeep codes details levelMany given val.1 val.2 tape taped wrongAt at_ value readPlace readValue readEpoch)) := by
  refine g_begin (by decide +kernel) (Nat.le_of_ble_eq_true rfl) ?_
  intro X Q hl hR hD hy hro hn C hin E
  subst hl; subst hD; subst hy
  replace C : gC X "SecretVaultModel" cX11_writesPart none := C
  unfold FB_X11_writesPart at hf
  have H218 : ∀ (paper_218 : Nat → Int32) (papered_218 : Int32), FB_X11_writesPart_L218 paper_218 papered_218 = some val → gW X Q 0 0 ((wM (x_y X) a thrown g saved hasSaved coef nodes nodeMany isDeep codes details levelMany given paper_218 papered_218 tape taped wrongAt at_ value readPlace readValue readEpoch)) [(0, .ref (a 0)), (1, .int p1), (2, .int p2), (3, .int p3), (4, .int p4)] [] 218 := by
    intro paper_218 papered_218 hf
    unfold FB_X11_writesPart_L218 at hf
    obtain rfl := Option.some.inj hf
    exact g_vret C E () dX11_writesPart_218 rfl rfl rfl (Nat.le_of_ble_eq_true rfl) (Nat.le_of_ble_eq_true rfl)
  have H150 : ∀ (n150 : Nat), ∀ (paper_150 : Nat → Int32) (papered_150 : Int32) (l6_150 : Int32), FB_X11_writesPart_L150 P g p1 p3 n150 paper_150 papered_150 l6_150 = some val → gW X Q 0 0 ((wM (x_y X) a thrown g saved hasSaved coef nodes nodeMany isDeep codes details levelMany given paper_150 papered_150 tape taped wrongAt at_ value readPlace readValue readEpoch)) [(0, .ref (a 0)), (1, .int p1), (2, .int p2), (3, .int p3), (4, .int p4), (6, .int l6_150)] [] 150 := by
    intro n150
    induction n150 with
    | zero => intros; rename_i hf; cases hf
    | succ n150 ih =>
      intro paper_150 papered_150 l6_150 hf
      have H150 := ih
      rw [FB_X11_writesPart_L150] at hf
      have H197 : ∀ (paper_197 : Nat → Int32) (papered_197 : Int32) (l7_197 : Int32) (s0_197 : Int32), FB_X11_writesPart_L197 (FB_X11_writesPart_L150 P g p1 p3 n150) paper_197 papered_197 l7_197 s0_197 = some val → gW X Q 0 0 ((wM (x_y X) a thrown g saved hasSaved coef nodes nodeMany isDeep codes details levelMany given paper_197 papered_197 tape taped wrongAt at_ value readPlace readValue readEpoch)) [(0, .ref (a 0)), (1, .int p1), (2, .int p2), (3, .int p3), (4, .int p4), (7, .int l7_197)] [.int s0_197, .ref (a 0)] 197 := by
        intro paper_197 papered_197 l7_197 s0_197 hf
        unfold FB_X11_writesPart_L197 at hf
        obtain ⟨v23, h24, hf⟩ := opt_bind hf
        refine g_callV C (c_X11_writes (l := x_l X) (D := x_D X) (cy := x_y X) (a := a) (thrown := thrown) (g := g) (saved := saved) (hasSaved := hasSaved) (coef := coef) (nodes := nodes) (nodeMany := nodeMany) (isDeep := isDeep) (codes := codes) (details := details) (levelMany := levelMany) (given := given) (paper := paper_197) (papered := papered_197) (tape := tape) (taped := taped) (wrongAt := wrongAt) (at_ := at_) (value := value) (readPlace := readPlace) (readValue := readValue) (readEpoch := readEpoch) (p0 := s0_197) h24) (As := [.int s0_197]) (rest := []) (wr := []) (ws' := fun _ => (wM (x_y X) a thrown g saved hasSaved coef nodes nodeMany isDeep codes details levelMany given v23.1 v23.2 tape taped wrongAt at_ value readPlace readValue readEpoch)) (st' := fun _ => []) (ci := 12) 1 0 ⟨_, rfl⟩ rfl rfl mw_8_10 mw_1_9 mw_8_7 mw_8_9 mp_61 hd_X11_writes rfl (g_rmo hR (by omega) (by omega)) [0, 1, 2, 3, 4, 5, 6, 7, 8, 9] [] [0, 1, 2, 3, 4, 5, 6, 7, 8, 9] ⟨rfl, rfl, rfl, rfl, by decide, gRoIn_0, rfl, fun _ => rfl⟩ rfl (Nat.le_of_ble_eq_true rfl) dX11_writesPart_197 (g_rc hR (Nat.le_of_ble_eq_true rfl) (Nat.le_of_ble_eq_true rfl)) (ck' := 0) (sk' := 0) rfl rfl (fun _ => rfl) (fun _ _ => ?_) (fun _ hx => absurd rfl hx)
        refine g_iload C 5 dX11_writesPart_200 rfl ?_
        refine g_iconst C (v := 1) dX11_writesPart_202 (by decide) ?_
        refine g_iadd C dX11_writesPart_203 ?_
        refine g_istore C (lv' := [(6, .int (l7_197 + 1)), (0, .ref (a 0)), (1, .int p1), (2, .int p2), (3, .int p3), (4, .int p4), (7, .int l7_197)]) dX11_writesPart_204 (g_nlt hn rfl) rfl ?_
        refine g_goto C 150 dX11_writesPart_206 (by decide) ?_
        refine gW.locals [1, 2, 3, 4, 5, 0] rfl ?_
        exact H150 v23.1 v23.2 (l7_197 + 1) hf
      refine g_iload C 5 dX11_writesPart_150 rfl ?_
      refine g_iload_n C 3 dX11_writesPart_152 rfl ?_
      refine g_iconst C (v := 1) dX11_writesPart_153 (by decide) ?_
      refine g_isub C dX11_writesPart_154 ?_
      refine g_icmp_ge C 209 dX11_writesPart_155 (by decide) (fun c17 => ?_) (fun c17 => ?_)
      · have hf := opt_pos c17 hf
        refine g_goto C 218 dX11_writesPart_209 (by decide) ?_
        refine gW.locals [0, 1, 2, 3, 4] rfl ?_
        exact H218 paper_150 papered_150 hf
      · have hf := opt_neg c17 hf
        refine g_aload_n C 0 dX11_writesPart_158 rfl ?_
        refine g_iload_n C 1 dX11_writesPart_159 rfl ?_
        refine g_iload C 5 dX11_writesPart_160 rfl ?_
        refine g_iload_n C 3 dX11_writesPart_162 rfl ?_
        refine g_iconst C (v := 1) dX11_writesPart_163 (by decide) ?_
        refine g_isub C dX11_writesPart_164 ?_
        refine g_bipush C (v := 44) dX11_writesPart_165 (by decide) ?_
        obtain ⟨v18, h19, hf⟩ := opt_bind hf
        refine g_callV C (c_X11_next (l := x_l X) (D := x_D X) (cy := x_y X) (a := a) (thrown := thrown) (g := g) (saved := saved) (hasSaved := hasSaved) (coef := coef) (nodes := nodes) (nodeMany := nodeMany) (isDeep := isDeep) (codes := codes) (details := details) (levelMany := levelMany) (given := given) (paper := paper_150) (papered := papered_150) (tape := tape) (taped := taped) (wrongAt := wrongAt) (at_ := at_) (value := value) (readPlace := readPlace) (readValue := readValue) (readEpoch := readEpoch) (p0 := p1) (p1 := l6_150) (p2 := p3 - 1) (p3 := 44) h19) (As := [.int p1, .int l6_150, .int (p3 - 1), .int 44]) (rest := []) (wr := []) (ws' := fun _ => (wM (x_y X) a thrown g saved hasSaved coef nodes nodeMany isDeep codes details levelMany given paper_150 papered_150 tape taped wrongAt at_ value readPlace readValue readEpoch)) (st' := fun _ => [.int v18]) (ci := 12) 4 0 ⟨_, rfl⟩ rfl rfl mw_7_168 mw_1_9 mw_7_165 mw_7_167 mp_52 hd_X11_next rfl (g_rmo hR (by omega) (by omega)) [0, 1, 2, 3, 4, 5, 6, 7, 8, 9] [] [0, 1, 2, 3, 4, 5, 6, 7, 8, 9] ⟨rfl, rfl, rfl, rfl, by decide, gRoIn_0, rfl, fun _ => rfl⟩ rfl (Nat.le_of_ble_eq_true rfl) dX11_writesPart_167 (g_rc hR (Nat.le_of_ble_eq_true rfl) (Nat.le_of_ble_eq_true rfl)) (ck' := 0) (sk' := 0) rfl rfl (fun _ => rfl) (fun _ _ => ?_) (fun _ hx => absurd rfl hx)
        refine g_istore C (lv' := [(7, .int v18), (0, .ref (a 0)), (1, .int p1), (2, .int p2), (3, .int p3), (4, .int p4), (6, .int l6_150)]) dX11_writesPart_170 (g_nlt hn rfl) rfl ?_
        refine g_aload_n C 1 dX11_writesPart_172 rfl ?_
        refine g_iload_n C 2 dX11_writesPart_173 rfl ?_
        refine g_iload C 6 dX11_writesPart_174 rfl ?_
        refine g_iload C 0 dX11_writesPart_176 rfl ?_
        obtain ⟨v20, h21, hf⟩ := opt_bind hf
        refine g_callS C (c_X11_writesPolicy (d := d) (P := P) hP (l := x_l X) (D := x_D X) (cy := x_y X) (a := a) (thrown := thrown) (g := g) (saved := saved) (hasSaved := hasSaved) (coef := coef) (nodes := nodes) (nodeMany := nodeMany) (isDeep := isDeep) (codes := codes) (details := details) (levelMany := levelMany) (given := given) (paper := paper_150) (papered := papered_150) (tape := tape) (taped := taped) (wrongAt := wrongAt) (at_ := at_) (value := value) (readPlace := readPlace) (readValue := readValue) (readEpoch := readEpoch) (p1 := p1) (p2 := l6_150) (p3 := v18) h21) (As := [.ref (a 0), .int p1, .int l6_150, .int v18]) (rest := []) (wr := []) (ws' := fun _ => (wM (x_y X) a thrown g saved hasSaved coef nodes nodeMany isDeep codes details levelMany given v20.1 v20.2 tape taped wrongAt at_ value readPlace readValue readEpoch)) (st' := fun _ => []) 4 mw_8_73 mw_1_9 mw_8_71 mw_8_72 hd_X11_writesPolicy rfl (g_rmo hR (by omega) (by omega)) [0, 1, 2, 3, 4, 5, 6, 7, 8, 9] [] [0, 1, 2, 3, 4, 5, 6, 7, 8, 9] ⟨rfl, rfl, rfl, rfl, by decide, gRoIn_0, rfl, fun _ => rfl⟩ rfl (Nat.le_of_ble_eq_true rfl) dX11_writesPart_178 (g_rc hR (Nat.le_of_ble_eq_true rfl) (Nat.le_of_ble_eq_true rfl)) (ck' := 0) (sk' := 0) rfl rfl (fun _ => rfl) (fun _ _ => ?_) (fun _ hx => absurd rfl hx)
        refine g_aload_n C 1 dX11_writesPart_181 rfl ?_
        refine g_iload C 0 dX11_writesPart_182 rfl ?_
        refine g_iload_n C 4 dX11_writesPart_184 rfl ?_
        refine g_iconst C (v := 1) dX11_writesPart_185 (by decide) ?_
        refine g_isub C dX11_writesPart_186 ?_
        refine g_icmp_ge C 195 dX11_writesPart_187 (by decide) (fun c22 => ?_) (fun c22 => ?_)
        · have hf := opt_pos c22 hf
          refine g_bipush C (v := 41) dX11_writesPart_195 (by decide) ?_
          refine gW.locals [1, 2, 3, 4, 5, 0] rfl ?_
          exact H197 v20.1 v20.2 v18 41 hf
        · have hf := opt_neg c22 hf
          refine g_bipush C (v := 44) dX11_writesPart_190 (by decide) ?_
          refine g_goto C 197 dX11_writesPart_192 (by decide) ?_
          refine gW.locals [1, 2, 3, 4, 5, 0] rfl ?_
          exact H197 v20.1 v20.2 v18 44 hf
  have H108 : ∀ (paper_108 : Nat → Int32) (papered_108 : Int32), FB_X11_writesPart_L108 paper_108 papered_108 = some val → gW X Q 0 0 ((wM (x_y X) a thrown g saved hasSaved coef nodes nodeMany isDeep codes details levelMany given paper_108 papered_108 tape taped wrongAt at_ value readPlace readValue readEpoch)) [(0, .ref (a 0)), (1, .int p1), (2, .int p2), (3, .int p3), (4, .int p4)] [] 108 := by
    intro paper_108 papered_108 hf
    unfold FB_X11_writesPart_L108 at hf
    refine g_goto C 218 dX11_writesPart_108 (by decide) ?_
    exact H218 paper_108 papered_108 hf
  have H92 : ∀ (paper_92 : Nat → Int32) (papered_92 : Int32) (l6_92 : Int32), FB_X11_writesPart_L92 p4 paper_92 papered_92 l6_92 = some val → gW X Q 0 0 ((wM (x_y X) a thrown g saved hasSaved coef nodes nodeMany isDeep codes details levelMany given paper_92 papered_92 tape taped wrongAt at_ value readPlace readValue readEpoch)) [(0, .ref (a 0)), (1, .int p1), (2, .int p2), (3, .int p3), (4, .int p4), (6, .int l6_92)] [] 92 := by
    intro paper_92 papered_92 l6_92 hf
    unfold FB_X11_writesPart_L92 at hf
    refine g_iload C 5 dX11_writesPart_92 rfl ?_
    refine g_if_eq C 108 dX11_writesPart_94 (by decide) (fun c32 => ?_) (fun c32 => ?_)
    · have hf := opt_pos c32 hf
      refine gW.locals [0, 1, 2, 3, 4] rfl ?_
      exact H108 paper_92 papered_92 hf
    · have hf := opt_neg c32 hf
      refine g_iload C 4 dX11_writesPart_97 rfl ?_
      refine g_if_eq C 108 dX11_writesPart_99 (by decide) (fun c33 => ?_) (fun c33 => ?_)
      · have hf := opt_pos c33 hf
        refine gW.locals [0, 1, 2, 3, 4] rfl ?_
        exact H108 paper_92 papered_92 hf
      · have hf := opt_neg c33 hf
        refine g_aload_n C 0 dX11_writesPart_102 rfl ?_
        refine g_bipush C (v := 41) dX11_writesPart_103 (by decide) ?_
        obtain ⟨v34, h35, hf⟩ := opt_bind hf
        refine g_callV C (c_X11_writes (l := x_l X) (D := x_D X) (cy := x_y X) (a := a) (thrown := thrown) (g := g) (saved := saved) (hasSaved := hasSaved) (coef := coef) (nodes := nodes) (nodeMany := nodeMany) (isDeep := isDeep) (codes := codes) (details := details) (levelMany := levelMany) (given := given) (paper := paper_92) (papered := papered_92) (tape := tape) (taped := taped) (wrongAt := wrongAt) (at_ := at_) (value := value) (readPlace := readPlace) (readValue := readValue) (readEpoch := readEpoch) (p0 := 41) h35) (As := [.int 41]) (rest := []) (wr := []) (ws' := fun _ => (wM (x_y X) a thrown g saved hasSaved coef nodes nodeMany isDeep codes details levelMany given v34.1 v34.2 tape taped wrongAt at_ value readPlace readValue readEpoch)) (st' := fun _ => []) (ci := 12) 1 0 ⟨_, rfl⟩ rfl rfl mw_8_10 mw_1_9 mw_8_7 mw_8_9 mp_61 hd_X11_writes rfl (g_rmo hR (by omega) (by omega)) [0, 1, 2, 3, 4, 5, 6, 7, 8, 9] [] [0, 1, 2, 3, 4, 5, 6, 7, 8, 9] ⟨rfl, rfl, rfl, rfl, by decide, gRoIn_0, rfl, fun _ => rfl⟩ rfl (Nat.le_of_ble_eq_true rfl) dX11_writesPart_105 (g_rc hR (Nat.le_of_ble_eq_true rfl) (Nat.le_of_ble_eq_true rfl)) (ck' := 0) (sk' := 0) rfl rfl (fun _ => rfl) (fun _ _ => ?_) (fun _ hx => absurd rfl hx)
        refine gW.locals [0, 1, 2, 3, 4] rfl ?_
        exact H108 v34.1 v34.2 hf
  have H60 : ∀ (paper_60 : Nat → Int32) (papered_60 : Int32) (l6_60 : Int32), FB_X11_writesPart_L60 P g p1 p2 p3 p4 paper_60 papered_60 l6_60 = some val → gW X Q 0 0 ((wM (x_y X) a thrown g saved hasSaved coef nodes nodeMany isDeep codes details levelMany given paper_60 papered_60 tape taped wrongAt at_ value readPlace readValue readEpoch)) [(0, .ref (a 0)), (1, .int p1), (2, .int p2), (3, .int p3), (4, .int p4), (6, .int l6_60)] [] 60 := by
    intro paper_60 papered_60 l6_60 hf
    unfold FB_X11_writesPart_L60 at hf
    refine g_iload C 5 dX11_writesPart_60 rfl ?_
    refine g_if_eq C 79 dX11_writesPart_62 (by decide) (fun c29 => ?_) (fun c29 => ?_)
    · have hf := opt_pos c29 hf
      refine g_aload_n C 0 dX11_writesPart_79 rfl ?_
      refine g_iload_n C 1 dX11_writesPart_80 rfl ?_
      refine g_iload_n C 2 dX11_writesPart_81 rfl ?_
      refine g_iconst C (v := 1) dX11_writesPart_82 (by decide) ?_
      refine g_iadd C dX11_writesPart_83 ?_
      refine g_iload_n C 3 dX11_writesPart_84 rfl ?_
      refine g_iconst C (v := 1) dX11_writesPart_85 (by decide) ?_
      refine g_isub C dX11_writesPart_86 ?_
      refine g_iload C 4 dX11_writesPart_87 rfl ?_
      obtain ⟨v30, h31, hf⟩ := opt_bind hf
      refine g_callS C (c_X11_writesAll (d := d) (P := P) hP (l := x_l X) (D := x_D X) (cy := x_y X) (a := a) (thrown := thrown) (g := g) (saved := saved) (hasSaved := hasSaved) (coef := coef) (nodes := nodes) (nodeMany := nodeMany) (isDeep := isDeep) (codes := codes) (details := details) (levelMany := levelMany) (given := given) (paper := paper_60) (papered := papered_60) (tape := tape) (taped := taped) (wrongAt := wrongAt) (at_ := at_) (value := value) (readPlace := readPlace) (readValue := readValue) (readEpoch := readEpoch) (p1 := p1) (p2 := p2 + 1) (p3 := p3 - 1) (p4 := p4) h31) (As := [.ref (a 0), .int p1, .int (p2 + 1), .int (p3 - 1), .int p4]) (rest := []) (wr := []) (ws' := fun _ => (wM (x_y X) a thrown g saved hasSaved coef nodes nodeMany isDeep codes details levelMany given v30.1 v30.2 tape taped wrongAt at_ value readPlace readValue readEpoch)) (st' := fun _ => []) 5 mw_8_76 mw_1_9 mw_8_74 mw_8_75 hd_X11_writesAll rfl (g_rmo hR (by omega) (by omega)) [0, 1, 2, 3, 4, 5, 6, 7, 8, 9] [] [0, 1, 2, 3, 4, 5, 6, 7, 8, 9] ⟨rfl, rfl, rfl, rfl, by decide, gRoIn_0, rfl, fun _ => rfl⟩ rfl (Nat.le_of_ble_eq_true rfl) dX11_writesPart_89 (g_rc hR (Nat.le_of_ble_eq_true rfl) (Nat.le_of_ble_eq_true rfl)) (ck' := 0) (sk' := 0) rfl rfl (fun _ => rfl) (fun _ _ => ?_) (fun _ hx => absurd rfl hx)
      exact H92 v30.1 v30.2 l6_60 hf
    · have hf := opt_neg c29 hf
      refine g_aload_n C 0 dX11_writesPart_65 rfl ?_
      refine g_iload_n C 1 dX11_writesPart_66 rfl ?_
      refine g_iload_n C 2 dX11_writesPart_67 rfl ?_
      refine g_iconst C (v := 1) dX11_writesPart_68 (by decide) ?_
      refine g_iadd C dX11_writesPart_69 ?_
      refine g_iload_n C 3 dX11_writesPart_70 rfl ?_
      refine g_iconst C (v := 1) dX11_writesPart_71 (by decide) ?_
      refine g_isub C dX11_writesPart_72 ?_
      obtain ⟨v36, h37, hf⟩ := opt_bind hf
      refine g_callS C (c_X11_writesPolicy (d := d) (P := P) hP (l := x_l X) (D := x_D X) (cy := x_y X) (a := a) (thrown := thrown) (g := g) (saved := saved) (hasSaved := hasSaved) (coef := coef) (nodes := nodes) (nodeMany := nodeMany) (isDeep := isDeep) (codes := codes) (details := details) (levelMany := levelMany) (given := given) (paper := paper_60) (papered := papered_60) (tape := tape) (taped := taped) (wrongAt := wrongAt) (at_ := at_) (value := value) (readPlace := readPlace) (readValue := readValue) (readEpoch := readEpoch) (p1 := p1) (p2 := p2 + 1) (p3 := p3 - 1) h37) (As := [.ref (a 0), .int p1, .int (p2 + 1), .int (p3 - 1)]) (rest := []) (wr := []) (ws' := fun _ => (wM (x_y X) a thrown g saved hasSaved coef nodes nodeMany isDeep codes details levelMany given v36.1 v36.2 tape taped wrongAt at_ value readPlace readValue readEpoch)) (st' := fun _ => []) 4 mw_8_73 mw_1_9 mw_8_71 mw_8_72 hd_X11_writesPolicy rfl (g_rmo hR (by omega) (by omega)) [0, 1, 2, 3, 4, 5, 6, 7, 8, 9] [] [0, 1, 2, 3, 4, 5, 6, 7, 8, 9] ⟨rfl, rfl, rfl, rfl, by decide, gRoIn_0, rfl, fun _ => rfl⟩ rfl (Nat.le_of_ble_eq_true rfl) dX11_writesPart_73 (g_rc hR (Nat.le_of_ble_eq_true rfl) (Nat.le_of_ble_eq_true rfl)) (ck' := 0) (sk' := 0) rfl rfl (fun _ => rfl) (fun _ _ => ?_) (fun _ hx => absurd rfl hx)
      refine g_goto C 92 dX11_writesPart_76 (by decide) ?_
      exact H92 v36.1 v36.2 l6_60 hf
  have H42 : ∀ (paper_42 : Nat → Int32) (papered_42 : Int32) (s0_42 : Int32), FB_X11_writesPart_L42 P g p1 p2 p3 p4 paper_42 papered_42 s0_42 = some val → gW X Q 0 0 ((wM (x_y X) a thrown g saved hasSaved coef nodes nodeMany isDeep codes details levelMany given paper_42 papered_42 tape taped wrongAt at_ value readPlace readValue readEpoch)) [(0, .ref (a 0)), (1, .int p1), (2, .int p2), (3, .int p3), (4, .int p4)] [.int s0_42] 42 := by
    intro paper_42 papered_42 s0_42 hf
    unfold FB_X11_writesPart_L42 at hf
    refine g_istore C (lv' := [(6, .int s0_42), (0, .ref (a 0)), (1, .int p1), (2, .int p2), (3, .int p3), (4, .int p4)]) dX11_writesPart_42 (g_nlt hn rfl) rfl ?_
    refine g_iload C 0 dX11_writesPart_44 rfl ?_
    refine g_if_eq C 60 dX11_writesPart_46 (by decide) (fun c28 => ?_) (fun c28 => ?_)
    · have hf := opt_pos c28 hf
      refine gW.locals [1, 2, 3, 4, 5, 0] rfl ?_
      exact H60 paper_42 papered_42 s0_42 hf
    · have hf := opt_neg c28 hf
      refine g_iload C 5 dX11_writesPart_49 rfl ?_
      refine g_if_eq C 60 dX11_writesPart_51 (by decide) (fun c38 => ?_) (fun c38 => ?_)
      · have hf := opt_pos c38 hf
        refine gW.locals [1, 2, 3, 4, 5, 0] rfl ?_
        exact H60 paper_42 papered_42 s0_42 hf
      · have hf := opt_neg c38 hf
        refine g_aload_n C 1 dX11_writesPart_54 rfl ?_
        refine g_bipush C (v := 40) dX11_writesPart_55 (by decide) ?_
        obtain ⟨v39, h40, hf⟩ := opt_bind hf
        refine g_callV C (c_X11_writes (l := x_l X) (D := x_D X) (cy := x_y X) (a := a) (thrown := thrown) (g := g) (saved := saved) (hasSaved := hasSaved) (coef := coef) (nodes := nodes) (nodeMany := nodeMany) (isDeep := isDeep) (codes := codes) (details := details) (levelMany := levelMany) (given := given) (paper := paper_42) (papered := papered_42) (tape := tape) (taped := taped) (wrongAt := wrongAt) (at_ := at_) (value := value) (readPlace := readPlace) (readValue := readValue) (readEpoch := readEpoch) (p0 := 40) h40) (As := [.int 40]) (rest := []) (wr := []) (ws' := fun _ => (wM (x_y X) a thrown g saved hasSaved coef nodes nodeMany isDeep codes details levelMany given v39.1 v39.2 tape taped wrongAt at_ value readPlace readValue readEpoch)) (st' := fun _ => []) (ci := 12) 1 0 ⟨_, rfl⟩ rfl rfl mw_8_10 mw_1_9 mw_8_7 mw_8_9 mp_61 hd_X11_writes rfl (g_rmo hR (by omega) (by omega)) [0, 1, 2, 3, 4, 5, 6, 7, 8, 9] [] [0, 1, 2, 3, 4, 5, 6, 7, 8, 9] ⟨rfl, rfl, rfl, rfl, by decide, gRoIn_0, rfl, fun _ => rfl⟩ rfl (Nat.le_of_ble_eq_true rfl) dX11_writesPart_57 (g_rc hR (Nat.le_of_ble_eq_true rfl) (Nat.le_of_ble_eq_true rfl)) (ck' := 0) (sk' := 0) rfl rfl (fun _ => rfl) (fun _ _ => ?_) (fun _ hx => absurd rfl hx)
        refine gW.locals [1, 2, 3, 4, 5, 0] rfl ?_
        exact H60 v39.1 v39.2 s0_42 hf
  show gW X Q 0 0 ((wM (x_y X) a thrown g saved hasSaved coef nodes nodeMany isDeep codes details levelMany given paper papered tape taped wrongAt at_ value readPlace readValue readEpoch)) [(0, .ref (a 0)), (1, .int p1), (2, .int p2), (3, .int p3), (4, .int p4)] [] 0
  refine g_aload_n C 0 dX11_writesPart_0 rfl ?_
  refine g_iload_n C 1 dX11_writesPart_1 rfl ?_
  refine g_bipush C (v := 12) dX11_writesPart_2 (by decide) ?_
  refine g_iload_n C 2 dX11_writesPart_4 rfl ?_
  refine g_iadd C dX11_writesPart_5 ?_
  obtain ⟨v1, h2, hf⟩ := opt_bind hf
  refine g_callV C (c_X11_of (l := x_l X) (D := x_D X) (cy := x_y X) (a := a) (thrown := thrown) (g := g) (saved := saved) (hasSaved := hasSaved) (coef := coef) (nodes := nodes) (nodeMany := nodeMany) (isDeep := isDeep) (codes := codes) (details := details) (levelMany := levelMany) (given := given) (paper := paper) (papered := papered) (tape := tape) (taped := taped) (wrongAt := wrongAt) (at_ := at_) (value := value) (readPlace := readPlace) (readValue := readValue) (readEpoch := readEpoch) (p0 := p1) (p1 := (12 : Int32) + p2) h2) (As := [.int p1, .int ((12 : Int32) + p2)]) (rest := []) (wr := []) (ws' := fun _ => (wM (x_y X) a thrown g saved hasSaved coef nodes nodeMany isDeep codes details levelMany given paper papered tape taped wrongAt at_ value readPlace readValue readEpoch)) (st' := fun _ => [.int v1]) (ci := 12) 2 0 ⟨_, rfl⟩ rfl rfl mw_7_69 mw_1_9 mw_7_66 mw_7_68 mp_35 hd_X11_of rfl (g_rmo hR (by omega) (by omega)) [0, 1, 2, 3, 4, 5, 6, 7, 8, 9] [] [0, 1, 2, 3, 4, 5, 6, 7, 8, 9] ⟨rfl, rfl, rfl, rfl, by decide, gRoIn_0, rfl, fun _ => rfl⟩ rfl (Nat.le_of_ble_eq_true rfl) dX11_writesPart_6 (g_rc hR (Nat.le_of_ble_eq_true rfl) (Nat.le_of_ble_eq_true rfl)) (ck' := 0) (sk' := 0) rfl rfl (fun _ => rfl) (fun _ _ => ?_) (fun _ hx => absurd rfl hx)
  refine g_istore C (lv' := [(5, .int v1), (0, .ref (a 0)), (1, .int p1), (2, .int p2), (3, .int p3), (4, .int p4)]) dX11_writesPart_9 (g_nlt hn rfl) rfl ?_
  refine g_iload C 0 dX11_writesPart_11 rfl ?_
  refine g_bipush C (v := 40) dX11_writesPart_13 (by decide) ?_
  refine g_icmp_ne C 111 dX11_writesPart_15 (by decide) (fun c3 => ?_) (fun c3 => ?_)
  · have hf := opt_neg c3 hf
    refine g_aload_n C 1 dX11_writesPart_111 rfl ?_
    refine g_iload_n C 2 dX11_writesPart_112 rfl ?_
    refine g_iload_n C 3 dX11_writesPart_113 rfl ?_
    refine g_iload_n C 4 dX11_writesPart_114 rfl ?_
    obtain ⟨v4, h5, hf⟩ := opt_bind hf
    refine g_callV C (c_X11_isCount (l := x_l X) (D := x_D X) (cy := x_y X) (a := a) (thrown := thrown) (g := g) (saved := saved) (hasSaved := hasSaved) (coef := coef) (nodes := nodes) (nodeMany := nodeMany) (isDeep := isDeep) (codes := codes) (details := details) (levelMany := levelMany) (given := given) (paper := paper) (papered := papered) (tape := tape) (taped := taped) (wrongAt := wrongAt) (at_ := at_) (value := value) (readPlace := readPlace) (readValue := readValue) (readEpoch := readEpoch) (p0 := p1) (p1 := p2) (p2 := p3) h5) (As := [.int p1, .int p2, .int p3]) (rest := []) (wr := []) (ws' := fun _ => (wM (x_y X) a thrown g saved hasSaved coef nodes nodeMany isDeep codes details levelMany given paper papered tape taped wrongAt at_ value readPlace readValue readEpoch)) (st' := fun _ => [.int v4]) (ci := 12) 3 0 ⟨_, rfl⟩ rfl rfl mw_7_172 mw_1_9 mw_7_169 mw_7_171 mp_53 hd_X11_isCount rfl (g_rmo hR (by omega) (by omega)) [0, 1, 2, 3, 4, 5, 6, 7, 8, 9] [] [0, 1, 2, 3, 4, 5, 6, 7, 8, 9] ⟨rfl, rfl, rfl, rfl, by decide, gRoIn_0, rfl, fun _ => rfl⟩ rfl (Nat.le_of_ble_eq_true rfl) dX11_writesPart_115 (g_rc hR (Nat.le_of_ble_eq_true rfl) (Nat.le_of_ble_eq_true rfl)) (ck' := 0) (sk' := 0) rfl rfl (fun _ => rfl) (fun _ _ => ?_) (fun _ hx => absurd rfl hx)
    refine g_if_eq C 212 dX11_writesPart_118 (by decide) (fun c6 => ?_) (fun c6 => ?_)
    · have hf := opt_pos c6 hf
      refine g_aload_n C 1 dX11_writesPart_212 rfl ?_
      refine g_iload C 0 dX11_writesPart_213 rfl ?_
      obtain ⟨v7, h8, hf⟩ := opt_bind hf
      refine g_callV C (c_X11_writes (l := x_l X) (D := x_D X) (cy := x_y X) (a := a) (thrown := thrown) (g := g) (saved := saved) (hasSaved := hasSaved) (coef := coef) (nodes := nodes) (nodeMany := nodeMany) (isDeep := isDeep) (codes := codes) (details := details) (levelMany := levelMany) (given := given) (paper := paper) (papered := papered) (tape := tape) (taped := taped) (wrongAt := wrongAt) (at_ := at_) (value := value) (readPlace := readPlace) (readValue := readValue) (readEpoch := readEpoch) (p0 := v1) h8) (As := [.int v1]) (rest := []) (wr := []) (ws' := fun _ => (wM (x_y X) a thrown g saved hasSaved coef nodes nodeMany isDeep codes details levelMany given v7.1 v7.2 tape taped wrongAt at_ value readPlace readValue readEpoch)) (st' := fun _ => []) (ci := 12) 1 0 ⟨_, rfl⟩ rfl rfl mw_8_10 mw_1_9 mw_8_7 mw_8_9 mp_61 hd_X11_writes rfl (g_rmo hR (by omega) (by omega)) [0, 1, 2, 3, 4, 5, 6, 7, 8, 9] [] [0, 1, 2, 3, 4, 5, 6, 7, 8, 9] ⟨rfl, rfl, rfl, rfl, by decide, gRoIn_0, rfl, fun _ => rfl⟩ rfl (Nat.le_of_ble_eq_true rfl) dX11_writesPart_215 (g_rc hR (Nat.le_of_ble_eq_true rfl) (Nat.le_of_ble_eq_true rfl)) (ck' := 0) (sk' := 0) rfl rfl (fun _ => rfl) (fun _ _ => ?_) (fun _ hx => absurd rfl hx)
      refine gW.locals [1, 2, 3, 4, 5] rfl ?_
      exact H218 v7.1 v7.2 hf
    · have hf := opt_neg c6 hf
      refine g_aload_n C 1 dX11_writesPart_121 rfl ?_
      refine g_iload C 0 dX11_writesPart_122 rfl ?_
      obtain ⟨v9, h10, hf⟩ := opt_bind hf
      refine g_callV C (c_X11_writes (l := x_l X) (D := x_D X) (cy := x_y X) (a := a) (thrown := thrown) (g := g) (saved := saved) (hasSaved := hasSaved) (coef := coef) (nodes := nodes) (nodeMany := nodeMany) (isDeep := isDeep) (codes := codes) (details := details) (levelMany := levelMany) (given := given) (paper := paper) (papered := papered) (tape := tape) (taped := taped) (wrongAt := wrongAt) (at_ := at_) (value := value) (readPlace := readPlace) (readValue := readValue) (readEpoch := readEpoch) (p0 := v1) h10) (As := [.int v1]) (rest := []) (wr := []) (ws' := fun _ => (wM (x_y X) a thrown g saved hasSaved coef nodes nodeMany isDeep codes details levelMany given v9.1 v9.2 tape taped wrongAt at_ value readPlace readValue readEpoch)) (st' := fun _ => []) (ci := 12) 1 0 ⟨_, rfl⟩ rfl rfl mw_8_10 mw_1_9 mw_8_7 mw_8_9 mp_61 hd_X11_writes rfl (g_rmo hR (by omega) (by omega)) [0, 1, 2, 3, 4, 5, 6, 7, 8, 9] [] [0, 1, 2, 3, 4, 5, 6, 7, 8, 9] ⟨rfl, rfl, rfl, rfl, by decide, gRoIn_0, rfl, fun _ => rfl⟩ rfl (Nat.le_of_ble_eq_true rfl) dX11_writesPart_124 (g_rc hR (Nat.le_of_ble_eq_true rfl) (Nat.le_of_ble_eq_true rfl)) (ck' := 0) (sk' := 0) rfl rfl (fun _ => rfl) (fun _ _ => ?_) (fun _ hx => absurd rfl hx)
      refine g_aload_n C 1 dX11_writesPart_127 rfl ?_
      refine g_bipush C (v := 111) dX11_writesPart_128 (by decide) ?_
      obtain ⟨v11, h12, hf⟩ := opt_bind hf
      refine g_callV C (c_X11_writes (l := x_l X) (D := x_D X) (cy := x_y X) (a := a) (thrown := thrown) (g := g) (saved := saved) (hasSaved := hasSaved) (coef := coef) (nodes := nodes) (nodeMany := nodeMany) (isDeep := isDeep) (codes := codes) (details := details) (levelMany := levelMany) (given := given) (paper := v9.1) (papered := v9.2) (tape := tape) (taped := taped) (wrongAt := wrongAt) (at_ := at_) (value := value) (readPlace := readPlace) (readValue := readValue) (readEpoch := readEpoch) (p0 := 111) h12) (As := [.int 111]) (rest := []) (wr := []) (ws' := fun _ => (wM (x_y X) a thrown g saved hasSaved coef nodes nodeMany isDeep codes details levelMany given v11.1 v11.2 tape taped wrongAt at_ value readPlace readValue readEpoch)) (st' := fun _ => []) (ci := 12) 1 0 ⟨_, rfl⟩ rfl rfl mw_8_10 mw_1_9 mw_8_7 mw_8_9 mp_61 hd_X11_writes rfl (g_rmo hR (by omega) (by omega)) [0, 1, 2, 3, 4, 5, 6, 7, 8, 9] [] [0, 1, 2, 3, 4, 5, 6, 7, 8, 9] ⟨rfl, rfl, rfl, rfl, by decide, gRoIn_0, rfl, fun _ => rfl⟩ rfl (Nat.le_of_ble_eq_true rfl) dX11_writesPart_130 (g_rc hR (Nat.le_of_ble_eq_true rfl) (Nat.le_of_ble_eq_true rfl)) (ck' := 0) (sk' := 0) rfl rfl (fun _ => rfl) (fun _ _ => ?_) (fun _ hx => absurd rfl hx)
      refine g_aload_n C 1 dX11_writesPart_133 rfl ?_
      refine g_bipush C (v := 102) dX11_writesPart_134 (by decide) ?_
      obtain ⟨v13, h14, hf⟩ := opt_bind hf
      refine g_callV C (c_X11_writes (l := x_l X) (D := x_D X) (cy := x_y X) (a := a) (thrown := thrown) (g := g) (saved := saved) (hasSaved := hasSaved) (coef := coef) (nodes := nodes) (nodeMany := nodeMany) (isDeep := isDeep) (codes := codes) (details := details) (levelMany := levelMany) (given := given) (paper := v11.1) (papered := v11.2) (tape := tape) (taped := taped) (wrongAt := wrongAt) (at_ := at_) (value := value) (readPlace := readPlace) (readValue := readValue) (readEpoch := readEpoch) (p0 := 102) h14) (As := [.int 102]) (rest := []) (wr := []) (ws' := fun _ => (wM (x_y X) a thrown g saved hasSaved coef nodes nodeMany isDeep codes details levelMany given v13.1 v13.2 tape taped wrongAt at_ value readPlace readValue readEpoch)) (st' := fun _ => []) (ci := 12) 1 0 ⟨_, rfl⟩ rfl rfl mw_8_10 mw_1_9 mw_8_7 mw_8_9 mp_61 hd_X11_writes rfl (g_rmo hR (by omega) (by omega)) [0, 1, 2, 3, 4, 5, 6, 7, 8, 9] [] [0, 1, 2, 3, 4, 5, 6, 7, 8, 9] ⟨rfl, rfl, rfl, rfl, by decide, gRoIn_0, rfl, fun _ => rfl⟩ rfl (Nat.le_of_ble_eq_true rfl) dX11_writesPart_136 (g_rc hR (Nat.le_of_ble_eq_true rfl) (Nat.le_of_ble_eq_true rfl)) (ck' := 0) (sk' := 0) rfl rfl (fun _ => rfl) (fun _ _ => ?_) (fun _ hx => absurd rfl hx)
      refine g_aload_n C 1 dX11_writesPart_139 rfl ?_
      refine g_bipush C (v := 40) dX11_writesPart_140 (by decide) ?_
      obtain ⟨v15, h16, hf⟩ := opt_bind hf
      refine g_callV C (c_X11_writes (l := x_l X) (D := x_D X) (cy := x_y X) (a := a) (thrown := thrown) (g := g) (saved := saved) (hasSaved := hasSaved) (coef := coef) (nodes := nodes) (nodeMany := nodeMany) (isDeep := isDeep) (codes := codes) (details := details) (levelMany := levelMany) (given := given) (paper := v13.1) (papered := v13.2) (tape := tape) (taped := taped) (wrongAt := wrongAt) (at_ := at_) (value := value) (readPlace := readPlace) (readValue := readValue) (readEpoch := readEpoch) (p0 := 40) h16) (As := [.int 40]) (rest := []) (wr := []) (ws' := fun _ => (wM (x_y X) a thrown g saved hasSaved coef nodes nodeMany isDeep codes details levelMany given v15.1 v15.2 tape taped wrongAt at_ value readPlace readValue readEpoch)) (st' := fun _ => []) (ci := 12) 1 0 ⟨_, rfl⟩ rfl rfl mw_8_10 mw_1_9 mw_8_7 mw_8_9 mp_61 hd_X11_writes rfl (g_rmo hR (by omega) (by omega)) [0, 1, 2, 3, 4, 5, 6, 7, 8, 9] [] [0, 1, 2, 3, 4, 5, 6, 7, 8, 9] ⟨rfl, rfl, rfl, rfl, by decide, gRoIn_0, rfl, fun _ => rfl⟩ rfl (Nat.le_of_ble_eq_true rfl) dX11_writesPart_142 (g_rc hR (Nat.le_of_ble_eq_true rfl) (Nat.le_of_ble_eq_true rfl)) (ck' := 0) (sk' := 0) rfl rfl (fun _ => rfl) (fun _ _ => ?_) (fun _ hx => absurd rfl hx)
      refine g_iload_n C 3 dX11_writesPart_145 rfl ?_
      refine g_iconst C (v := 4) dX11_writesPart_146 (by decide) ?_
      refine g_iadd C dX11_writesPart_147 ?_
      refine g_istore C (lv' := [(6, .int (p2 + 4)), (5, .int v1), (0, .ref (a 0)), (1, .int p1), (2, .int p2), (3, .int p3), (4, .int p4)]) dX11_writesPart_148 (g_nlt hn rfl) rfl ?_
      refine gW.locals [2, 3, 4, 5, 6, 0] rfl ?_
      exact H150 1000 v15.1 v15.2 (p2 + 4) hf
  · have hf := opt_pos c3 hf
    refine g_aload_n C 1 dX11_writesPart_18 rfl ?_
    refine g_iload_n C 2 dX11_writesPart_19 rfl ?_
    refine g_iload_n C 3 dX11_writesPart_20 rfl ?_
    refine g_iconst C (v := 1) dX11_writesPart_21 (by decide) ?_
    refine g_iadd C dX11_writesPart_22 ?_
    refine g_iload_n C 4 dX11_writesPart_23 rfl ?_
    refine g_iconst C (v := 1) dX11_writesPart_24 (by decide) ?_
    refine g_isub C dX11_writesPart_25 ?_
    refine g_bipush C (v := 124) dX11_writesPart_26 (by decide) ?_
    obtain ⟨v25, h26, hf⟩ := opt_bind hf
    refine g_callV C (c_X11_next (l := x_l X) (D := x_D X) (cy := x_y X) (a := a) (thrown := thrown) (g := g) (saved := saved) (hasSaved := hasSaved) (coef := coef) (nodes := nodes) (nodeMany := nodeMany) (isDeep := isDeep) (codes := codes) (details := details) (levelMany := levelMany) (given := given) (paper := paper) (papered := papered) (tape := tape) (taped := taped) (wrongAt := wrongAt) (at_ := at_) (value := value) (readPlace := readPlace) (readValue := readValue) (readEpoch := readEpoch) (p0 := p1) (p1 := p2 + 1) (p2 := p3 - 1) (p3 := 124) h26) (As := [.int p1, .int (p2 + 1), .int (p3 - 1), .int 124]) (rest := []) (wr := []) (ws' := fun _ => (wM (x_y X) a thrown g saved hasSaved coef nodes nodeMany isDeep codes details levelMany given paper papered tape taped wrongAt at_ value readPlace readValue readEpoch)) (st' := fun _ => [.int v25]) (ci := 12) 4 0 ⟨_, rfl⟩ rfl rfl mw_7_168 mw_1_9 mw_7_165 mw_7_167 mp_52 hd_X11_next rfl (g_rmo hR (by omega) (by omega)) [0, 1, 2, 3, 4, 5, 6, 7, 8, 9] [] [0, 1, 2, 3, 4, 5, 6, 7, 8, 9] ⟨rfl, rfl, rfl, rfl, by decide, gRoIn_0, rfl, fun _ => rfl⟩ rfl (Nat.le_of_ble_eq_true rfl) dX11_writesPart_28 (g_rc hR (Nat.le_of_ble_eq_true rfl) (Nat.le_of_ble_eq_true rfl)) (ck' := 0) (sk' := 0) rfl rfl (fun _ => rfl) (fun _ _ => ?_) (fun _ hx => absurd rfl hx)
    refine g_iload_n C 4 dX11_writesPart_31 rfl ?_
    refine g_iconst C (v := 1) dX11_writesPart_32 (by decide) ?_
    refine g_isub C dX11_writesPart_33 ?_
    refine g_icmp_ge C 41 dX11_writesPart_34 (by decide) (fun c27 => ?_) (fun c27 => ?_)
    · have hf := opt_pos c27 hf
      refine g_iconst C (v := 0) dX11_writesPart_41 (by decide) ?_
      refine gW.locals [1, 2, 3, 4, 5] rfl ?_
      exact H42 paper papered 0 hf
    · have hf := opt_neg c27 hf
      refine g_iconst C (v := 1) dX11_writesPart_37 (by decide) ?_
      refine g_goto C 42 dX11_writesPart_38 (by decide) ?_
      refine gW.locals [1, 2, 3, 4, 5] rfl ?_
      exact H42 paper papered 1 hf
def F_X11_writesPart : Nat → (Nat → Int32) → (Nat → Int32) → Int32 → Int32 → Int32 → Int32 → Int32 → Option ((Nat → Int32) × Int32)
  | 0, _, _, _, _, _, _, _ => none
  | d + 1, g, paper, papered, p1, p2, p3, p4 => FB_X11_writesPart (F_X11_writesPart d) g paper papered p1 p2 p3 p4
theorem c_X11_writesPart {l : Launch} {D : va_G} {cy : Nat → ClassId} : ∀ (d : Nat) {a : Nat → Nat} {thrown : Int32} {g : Nat → Int32} {saved : Nat → Int32} {hasSaved : Int32} {coef : Nat → Int32} {nodes : Nat → Int32} {nodeMany : Int32} {isDeep : Int32} {codes : Nat → Int32} {details : Nat → Int32} {levelMany : Int32} {given : Nat → Int32} {paper : Nat → Int32} {papered : Int32} {tape : Nat → Int32} {taped : Int32} {wrongAt : Int32} {at_ : Int32} {value : Int32} {readPlace : Int32} {readValue : Int32} {readEpoch : Int32} {p1 : Int32} {p2 : Int32} {p3 : Int32} {p4 : Int32}  {val : (Nat → Int32) × Int32}, F_X11_writesPart d g paper papered p1 p2 p3 p4 = some val → gCt l D cy yX11_writesPart cX11_writesPart 8 none (3 * d + 6) (90 * d + 500) 0 0 [.ref (a 0), .int p1, .int p2, .int p3, .int p4] [] ((wM cy a thrown g saved hasSaved coef nodes nodeMany isDeep codes details levelMany given paper papered tape taped wrongAt at_ value readPlace readValue readEpoch)) 0 (fun _ : Unit => none) (fun _ => (wM cy a thrown g saved hasSaved coef nodes nodeMany isDeep codes details levelMany given val.1 val.2 tape taped wrongAt at_ value readPlace readValue readEpoch)) := by
  intro d
  induction d with
  | zero => intros; rename_i hf; cases hf
  | succ d ih => intros; rename_i hf; exact cB_X11_writesPart (d := d) (P := F_X11_writesPart d) ih hf
/-! X11_policyText -/
theorem hd_X11_policyText : yX11_policyText.cls ≠ "java/lang/invoke/MethodHandle" ∧ yX11_policyText.cls ≠ "java/lang/invoke/VarHandle" ∧ (parseMethodDescriptor yX11_policyText.desc).map (fun d => d.parameters.length) = some 2 := by decide +kernel
def F_X11_policyText_L12   (thrown_12 : Int32) (paper_12 : Nat → Int32) (papered_12 : Int32) : Option (Int32 × Int32 × (Nat → Int32) × Int32) := (F_X11_fails thrown_12 1).bind fun v4 => some (v4.1, v4.2, paper_12, papered_12)
def F_X11_policyText_L35   (thrown_35 : Int32) (paper_35 : Nat → Int32) (papered_35 : Int32) : Option (Int32 × Int32 × (Nat → Int32) × Int32) := (F_X11_fails thrown_35 2).bind fun v10 => some (v10.1, v10.2, paper_35, papered_35)
def F_X11_policyText (thrown : Int32) (g : Nat → Int32) (paper : Nat → Int32) (papered : Int32) (p0 : Int32) (p1 : Int32) : Option (Int32 × Int32 × (Nat → Int32) × Int32) := (F_X11_isSlot p0).bind fun v1 => if v1 = 0 then (F_X11_policyText_L12 thrown paper papered) else (if (-1) ≤ p1 then ((F_X11_of g p0 0).bind fun v7 => if v7 = 0 then (F_X11_policyText_L35 thrown paper papered) else ((F_X11_hasPolicy g p0).bind fun v12 => if v12 = 0 then (F_X11_policyText_L35 thrown paper papered) else ((F_X11_of g p0 11).bind fun v15 => (F_X11_writesPolicy (F_X11_writesPart 64) g paper 0 p0 0 v15).bind fun v17 => (F_X11_paperAt thrown v17.1 v17.2 p1).bind fun v19 => some (v19.1, v19.2, v17.1, v17.2)))) else (F_X11_policyText_L12 thrown paper papered))
set_option maxRecDepth 100000 in
set_option maxHeartbeats 4000000 in
theorem c_X11_policyText {l : Launch} {D : va_G} {cy : Nat → ClassId} {a : Nat → Nat} {thrown : Int32} {g : Nat → Int32} {saved : Nat → Int32} {hasSaved : Int32} {coef : Nat → Int32} {nodes : Nat → Int32} {nodeMany : Int32} {isDeep : Int32} {codes : Nat → Int32} {details : Nat → Int32} {levelMany : Int32} {given : Nat → Int32} {paper : Nat → Int32} {papered : Int32} {tape : Nat → Int32} {taped : Int32} {wrongAt : Int32} {at_ : Int32} {value : Int32} {readPlace : Int32} {readValue : Int32} {readEpoch : Int32} {p0 : Int32} {p1 : Int32}  {val : Int32 × Int32 × (Nat → Int32) × Int32} (hf : F_X11_policyText thrown g paper papered p0 p1 = some val) : gCt l D cy yX11_policyText cX11_policyText 3 (some .int) 201 6345 0 0 [.ref (a 0), .int p0, .int p1] [] ((wM cy a thrown g saved hasSaved coef nodes nodeMany isDeep codes details levelMany given paper papered tape taped wrongAt at_ value readPlace readValue readEpoch)) 0 (fun _ : Unit => some (.int val.1)) (fun _ => (wM cy a val.2.1 g saved hasSaved coef nodes nodeMany isDeep codes details levelMany given val.2.2.1 val.2.2.2 tape taped wrongAt at_ value readPlace readValue readEpoch)) := by
  refine g_begin (by decide +kernel) (Nat.le_of_ble_eq_true rfl) ?_
  intro X Q hl hR hD hy hro hn C hin E
  subst hl; subst hD; subst hy
  replace C : gC X "SecretVaultModel" cX11_policyText (some .int) := C
  unfold F_X11_policyText at hf
  have H12 : ∀ (thrown_12 : Int32) (paper_12 : Nat → Int32) (papered_12 : Int32), F_X11_policyText_L12 thrown_12 paper_12 papered_12 = some val → gW X Q 0 0 ((wM (x_y X) a thrown_12 g saved hasSaved coef nodes nodeMany isDeep codes details levelMany given paper_12 papered_12 tape taped wrongAt at_ value readPlace readValue readEpoch)) [(0, .ref (a 0)), (1, .int p0), (2, .int p1)] [] 12 := by
    intro thrown_12 paper_12 papered_12 hf
    unfold F_X11_policyText_L12 at hf
    refine g_aload_n C 0 dX11_policyText_12 rfl ?_
    refine g_iconst C (v := 1) dX11_policyText_13 (by decide) ?_
    obtain ⟨v4, h5, hf⟩ := opt_bind hf
    refine g_callV C (c_X11_fails (l := x_l X) (D := x_D X) (cy := x_y X) (a := a) (thrown := thrown_12) (g := g) (saved := saved) (hasSaved := hasSaved) (coef := coef) (nodes := nodes) (nodeMany := nodeMany) (isDeep := isDeep) (codes := codes) (details := details) (levelMany := levelMany) (given := given) (paper := paper_12) (papered := papered_12) (tape := tape) (taped := taped) (wrongAt := wrongAt) (at_ := at_) (value := value) (readPlace := readPlace) (readValue := readValue) (readEpoch := readEpoch) (p0 := 1) h5) (As := [.int 1]) (rest := []) (wr := []) (ws' := fun _ => (wM (x_y X) a v4.2 g saved hasSaved coef nodes nodeMany isDeep codes details levelMany given paper_12 papered_12 tape taped wrongAt at_ value readPlace readValue readEpoch)) (st' := fun _ => [.int v4.1]) (ci := 12) 1 0 ⟨_, rfl⟩ rfl rfl mw_7_45 mw_1_9 mw_7_42 mw_7_44 mp_31 hd_X11_fails rfl (g_rm hR rfl rfl) [0, 1, 2, 3, 4, 5, 6, 7, 8, 9] [] [0, 1, 2, 3, 4, 5, 6, 7, 8, 9] ⟨rfl, rfl, rfl, rfl, by decide, gRoIn_0, rfl, fun _ => rfl⟩ rfl (Nat.le_of_ble_eq_true rfl) dX11_policyText_14 (g_rc hR (Nat.le_of_ble_eq_true rfl) (Nat.le_of_ble_eq_true rfl)) (ck' := 0) (sk' := 0) rfl rfl (fun _ => rfl) (fun _ _ => ?_) (fun _ hx => absurd rfl hx)
    obtain rfl := Option.some.inj hf
    exact g_iret C E () dX11_policyText_17 rfl rfl rfl (Nat.le_of_ble_eq_true rfl) (Nat.le_of_ble_eq_true rfl)
  have H35 : ∀ (thrown_35 : Int32) (paper_35 : Nat → Int32) (papered_35 : Int32), F_X11_policyText_L35 thrown_35 paper_35 papered_35 = some val → gW X Q 0 0 ((wM (x_y X) a thrown_35 g saved hasSaved coef nodes nodeMany isDeep codes details levelMany given paper_35 papered_35 tape taped wrongAt at_ value readPlace readValue readEpoch)) [(0, .ref (a 0)), (1, .int p0), (2, .int p1)] [] 35 := by
    intro thrown_35 paper_35 papered_35 hf
    unfold F_X11_policyText_L35 at hf
    refine g_aload_n C 0 dX11_policyText_35 rfl ?_
    refine g_iconst C (v := 2) dX11_policyText_36 (by decide) ?_
    obtain ⟨v10, h11, hf⟩ := opt_bind hf
    refine g_callV C (c_X11_fails (l := x_l X) (D := x_D X) (cy := x_y X) (a := a) (thrown := thrown_35) (g := g) (saved := saved) (hasSaved := hasSaved) (coef := coef) (nodes := nodes) (nodeMany := nodeMany) (isDeep := isDeep) (codes := codes) (details := details) (levelMany := levelMany) (given := given) (paper := paper_35) (papered := papered_35) (tape := tape) (taped := taped) (wrongAt := wrongAt) (at_ := at_) (value := value) (readPlace := readPlace) (readValue := readValue) (readEpoch := readEpoch) (p0 := 2) h11) (As := [.int 2]) (rest := []) (wr := []) (ws' := fun _ => (wM (x_y X) a v10.2 g saved hasSaved coef nodes nodeMany isDeep codes details levelMany given paper_35 papered_35 tape taped wrongAt at_ value readPlace readValue readEpoch)) (st' := fun _ => [.int v10.1]) (ci := 12) 1 0 ⟨_, rfl⟩ rfl rfl mw_7_45 mw_1_9 mw_7_42 mw_7_44 mp_31 hd_X11_fails rfl (g_rm hR rfl rfl) [0, 1, 2, 3, 4, 5, 6, 7, 8, 9] [] [0, 1, 2, 3, 4, 5, 6, 7, 8, 9] ⟨rfl, rfl, rfl, rfl, by decide, gRoIn_0, rfl, fun _ => rfl⟩ rfl (Nat.le_of_ble_eq_true rfl) dX11_policyText_37 (g_rc hR (Nat.le_of_ble_eq_true rfl) (Nat.le_of_ble_eq_true rfl)) (ck' := 0) (sk' := 0) rfl rfl (fun _ => rfl) (fun _ _ => ?_) (fun _ hx => absurd rfl hx)
    obtain rfl := Option.some.inj hf
    exact g_iret C E () dX11_policyText_40 rfl rfl rfl (Nat.le_of_ble_eq_true rfl) (Nat.le_of_ble_eq_true rfl)
  show gW X Q 0 0 ((wM (x_y X) a thrown g saved hasSaved coef nodes nodeMany isDeep codes details levelMany given paper papered tape taped wrongAt at_ value readPlace readValue readEpoch)) [(0, .ref (a 0)), (1, .int p0), (2, .int p1)] [] 0
  refine g_iload_n C 1 dX11_policyText_0 rfl ?_
  obtain ⟨v1, h2, hf⟩ := opt_bind hf
  refine g_callS C (c_X11_isSlot (l := x_l X) (D := x_D X) (cy := x_y X) (p0 := p0) h2) (As := [.int p0]) (rest := []) (wr := (wM (x_y X) a thrown g saved hasSaved coef nodes nodeMany isDeep codes details levelMany given paper papered tape taped wrongAt at_ value readPlace readValue readEpoch)) (ws' := fun _ => (wM (x_y X) a thrown g saved hasSaved coef nodes nodeMany isDeep codes details levelMany given paper papered tape taped wrongAt at_ value readPlace readValue readEpoch)) (st' := fun _ => [.int v1]) 1 mw_7_83 mw_1_9 mw_7_81 mw_7_82 hd_X11_isSlot rfl (g_rm hR rfl rfl) [] [0, 1, 2, 3, 4, 5, 6, 7, 8, 9] [0, 1, 2, 3, 4, 5, 6, 7, 8, 9] ⟨rfl, rfl, rfl, rfl, by decide, gRoIn_0, rfl, fun _ => rfl⟩ rfl (Nat.le_of_ble_eq_true rfl) dX11_policyText_1 (g_rc hR (Nat.le_of_ble_eq_true rfl) (Nat.le_of_ble_eq_true rfl)) (ck' := 0) (sk' := 0) rfl rfl (fun _ => rfl) (fun _ _ => ?_) (fun _ hx => absurd rfl hx)
  refine g_if_eq C 12 dX11_policyText_4 (by decide) (fun c3 => ?_) (fun c3 => ?_)
  · have hf := opt_pos c3 hf
    exact H12 thrown paper papered hf
  · have hf := opt_neg c3 hf
    refine g_iload_n C 2 dX11_policyText_7 rfl ?_
    refine g_iconst C (v := (-1)) dX11_policyText_8 (by decide) ?_
    refine g_icmp_ge C 18 dX11_policyText_9 (by decide) (fun c6 => ?_) (fun c6 => ?_)
    · have hf := opt_pos c6 hf
      refine g_aload_n C 0 dX11_policyText_18 rfl ?_
      refine g_iload_n C 1 dX11_policyText_19 rfl ?_
      refine g_iconst C (v := 0) dX11_policyText_20 (by decide) ?_
      obtain ⟨v7, h8, hf⟩ := opt_bind hf
      refine g_callV C (c_X11_of (l := x_l X) (D := x_D X) (cy := x_y X) (a := a) (thrown := thrown) (g := g) (saved := saved) (hasSaved := hasSaved) (coef := coef) (nodes := nodes) (nodeMany := nodeMany) (isDeep := isDeep) (codes := codes) (details := details) (levelMany := levelMany) (given := given) (paper := paper) (papered := papered) (tape := tape) (taped := taped) (wrongAt := wrongAt) (at_ := at_) (value := value) (readPlace := readPlace) (readValue := readValue) (readEpoch := readEpoch) (p0 := p0) (p1 := 0) h8) (As := [.int p0, .int 0]) (rest := []) (wr := []) (ws' := fun _ => (wM (x_y X) a thrown g saved hasSaved coef nodes nodeMany isDeep codes details levelMany given paper papered tape taped wrongAt at_ value readPlace readValue readEpoch)) (st' := fun _ => [.int v7]) (ci := 12) 2 0 ⟨_, rfl⟩ rfl rfl mw_7_69 mw_1_9 mw_7_66 mw_7_68 mp_35 hd_X11_of rfl (g_rm hR rfl rfl) [0, 1, 2, 3, 4, 5, 6, 7, 8, 9] [] [0, 1, 2, 3, 4, 5, 6, 7, 8, 9] ⟨rfl, rfl, rfl, rfl, by decide, gRoIn_0, rfl, fun _ => rfl⟩ rfl (Nat.le_of_ble_eq_true rfl) dX11_policyText_21 (g_rc hR (Nat.le_of_ble_eq_true rfl) (Nat.le_of_ble_eq_true rfl)) (ck' := 0) (sk' := 0) rfl rfl (fun _ => rfl) (fun _ _ => ?_) (fun _ hx => absurd rfl hx)
      refine g_if_eq C 35 dX11_policyText_24 (by decide) (fun c9 => ?_) (fun c9 => ?_)
      · have hf := opt_pos c9 hf
        exact H35 thrown paper papered hf
      · have hf := opt_neg c9 hf
        refine g_aload_n C 0 dX11_policyText_27 rfl ?_
        refine g_iload_n C 1 dX11_policyText_28 rfl ?_
        obtain ⟨v12, h13, hf⟩ := opt_bind hf
        refine g_callV C (c_X11_hasPolicy (l := x_l X) (D := x_D X) (cy := x_y X) (a := a) (thrown := thrown) (g := g) (saved := saved) (hasSaved := hasSaved) (coef := coef) (nodes := nodes) (nodeMany := nodeMany) (isDeep := isDeep) (codes := codes) (details := details) (levelMany := levelMany) (given := given) (paper := paper) (papered := papered) (tape := tape) (taped := taped) (wrongAt := wrongAt) (at_ := at_) (value := value) (readPlace := readPlace) (readValue := readValue) (readEpoch := readEpoch) (p0 := p0) h13) (As := [.int p0]) (rest := []) (wr := []) (ws' := fun _ => (wM (x_y X) a thrown g saved hasSaved coef nodes nodeMany isDeep codes details levelMany given paper papered tape taped wrongAt at_ value readPlace readValue readEpoch)) (st' := fun _ => [.int v12]) (ci := 12) 1 0 ⟨_, rfl⟩ rfl rfl mw_7_161 mw_1_9 mw_7_158 mw_7_160 mp_51 hd_X11_hasPolicy rfl (g_rm hR rfl rfl) [0, 1, 2, 3, 4, 5, 6, 7, 8, 9] [] [0, 1, 2, 3, 4, 5, 6, 7, 8, 9] ⟨rfl, rfl, rfl, rfl, by decide, gRoIn_0, rfl, fun _ => rfl⟩ rfl (Nat.le_of_ble_eq_true rfl) dX11_policyText_29 (g_rc hR (Nat.le_of_ble_eq_true rfl) (Nat.le_of_ble_eq_true rfl)) (ck' := 0) (sk' := 0) rfl rfl (fun _ => rfl) (fun _ _ => ?_) (fun _ hx => absurd rfl hx)
        refine g_if_ne C 41 dX11_policyText_32 (by decide) (fun c14 => ?_) (fun c14 => ?_)
        · have hf := opt_neg c14 hf
          refine g_aload_n C 0 dX11_policyText_41 rfl ?_
          refine g_iconst C (v := 0) dX11_policyText_42 (by decide) ?_
          refine g_put C (ws' := (wM (x_y X) a thrown g saved hasSaved coef nodes nodeMany isDeep codes details levelMany given paper 0 tape taped wrongAt at_ value readPlace readValue readEpoch)) 0 13 rfl rfl wiX11 (by decide) tyX11_ok nmX11 mw_6_196 rfl rfl rfl rfl (Nat.le_of_ble_eq_true rfl) rfl dX11_policyText_43 ?_
          refine g_aload_n C 0 dX11_policyText_46 rfl ?_
          refine g_iload_n C 1 dX11_policyText_47 rfl ?_
          refine g_iconst C (v := 0) dX11_policyText_48 (by decide) ?_
          refine g_aload_n C 0 dX11_policyText_49 rfl ?_
          refine g_iload_n C 1 dX11_policyText_50 rfl ?_
          refine g_bipush C (v := 11) dX11_policyText_51 (by decide) ?_
          obtain ⟨v15, h16, hf⟩ := opt_bind hf
          refine g_callV C (c_X11_of (l := x_l X) (D := x_D X) (cy := x_y X) (a := a) (thrown := thrown) (g := g) (saved := saved) (hasSaved := hasSaved) (coef := coef) (nodes := nodes) (nodeMany := nodeMany) (isDeep := isDeep) (codes := codes) (details := details) (levelMany := levelMany) (given := given) (paper := paper) (papered := 0) (tape := tape) (taped := taped) (wrongAt := wrongAt) (at_ := at_) (value := value) (readPlace := readPlace) (readValue := readValue) (readEpoch := readEpoch) (p0 := p0) (p1 := 11) h16) (As := [.int p0, .int 11]) (rest := [.int 0, .int p0, .ref (a 0)]) (wr := []) (ws' := fun _ => (wM (x_y X) a thrown g saved hasSaved coef nodes nodeMany isDeep codes details levelMany given paper 0 tape taped wrongAt at_ value readPlace readValue readEpoch)) (st' := fun _ => [.int v15, .int 0, .int p0, .ref (a 0)]) (ci := 12) 2 0 ⟨_, rfl⟩ rfl rfl mw_7_69 mw_1_9 mw_7_66 mw_7_68 mp_35 hd_X11_of rfl (g_rm hR rfl rfl) [0, 1, 2, 3, 4, 5, 6, 7, 8, 9] [] [0, 1, 2, 3, 4, 5, 6, 7, 8, 9] ⟨rfl, rfl, rfl, rfl, by decide, gRoIn_0, rfl, fun _ => rfl⟩ rfl (Nat.le_of_ble_eq_true rfl) dX11_policyText_53 (g_rc hR (Nat.le_of_ble_eq_true rfl) (Nat.le_of_ble_eq_true rfl)) (ck' := 0) (sk' := 0) rfl rfl (fun _ => rfl) (fun _ _ => ?_) (fun _ hx => absurd rfl hx)
          obtain ⟨v17, h18, hf⟩ := opt_bind hf
          refine g_callS C (c_X11_writesPolicy (d := 64) (P := F_X11_writesPart 64) (c_X11_writesPart 64) (l := x_l X) (D := x_D X) (cy := x_y X) (a := a) (thrown := thrown) (g := g) (saved := saved) (hasSaved := hasSaved) (coef := coef) (nodes := nodes) (nodeMany := nodeMany) (isDeep := isDeep) (codes := codes) (details := details) (levelMany := levelMany) (given := given) (paper := paper) (papered := 0) (tape := tape) (taped := taped) (wrongAt := wrongAt) (at_ := at_) (value := value) (readPlace := readPlace) (readValue := readValue) (readEpoch := readEpoch) (p1 := p0) (p2 := 0) (p3 := v15) h18) (As := [.ref (a 0), .int p0, .int 0, .int v15]) (rest := []) (wr := []) (ws' := fun _ => (wM (x_y X) a thrown g saved hasSaved coef nodes nodeMany isDeep codes details levelMany given v17.1 v17.2 tape taped wrongAt at_ value readPlace readValue readEpoch)) (st' := fun _ => []) 4 mw_8_73 mw_1_9 mw_8_71 mw_8_72 hd_X11_writesPolicy rfl (g_rm hR rfl rfl) [0, 1, 2, 3, 4, 5, 6, 7, 8, 9] [] [0, 1, 2, 3, 4, 5, 6, 7, 8, 9] ⟨rfl, rfl, rfl, rfl, by decide, gRoIn_0, rfl, fun _ => rfl⟩ rfl (Nat.le_of_ble_eq_true rfl) dX11_policyText_56 (g_rc hR (Nat.le_of_ble_eq_true rfl) (Nat.le_of_ble_eq_true rfl)) (ck' := 0) (sk' := 0) rfl rfl (fun _ => rfl) (fun _ _ => ?_) (fun _ hx => absurd rfl hx)
          refine g_aload_n C 0 dX11_policyText_59 rfl ?_
          refine g_iload_n C 2 dX11_policyText_60 rfl ?_
          obtain ⟨v19, h20, hf⟩ := opt_bind hf
          refine g_callV C (c_X11_paperAt (l := x_l X) (D := x_D X) (cy := x_y X) (a := a) (thrown := thrown) (g := g) (saved := saved) (hasSaved := hasSaved) (coef := coef) (nodes := nodes) (nodeMany := nodeMany) (isDeep := isDeep) (codes := codes) (details := details) (levelMany := levelMany) (given := given) (paper := v17.1) (papered := v17.2) (tape := tape) (taped := taped) (wrongAt := wrongAt) (at_ := at_) (value := value) (readPlace := readPlace) (readValue := readValue) (readEpoch := readEpoch) (p0 := p1) h20) (As := [.int p1]) (rest := []) (wr := []) (ws' := fun _ => (wM (x_y X) a v19.2 g saved hasSaved coef nodes nodeMany isDeep codes details levelMany given v17.1 v17.2 tape taped wrongAt at_ value readPlace readValue readEpoch)) (st' := fun _ => [.int v19.1]) (ci := 12) 1 0 ⟨_, rfl⟩ rfl rfl mw_8_17 mw_1_9 mw_8_14 mw_8_16 mp_62 hd_X11_paperAt rfl (g_rm hR rfl rfl) [0, 1, 2, 3, 4, 5, 6, 7, 8, 9] [] [0, 1, 2, 3, 4, 5, 6, 7, 8, 9] ⟨rfl, rfl, rfl, rfl, by decide, gRoIn_0, rfl, fun _ => rfl⟩ rfl (Nat.le_of_ble_eq_true rfl) dX11_policyText_61 (g_rc hR (Nat.le_of_ble_eq_true rfl) (Nat.le_of_ble_eq_true rfl)) (ck' := 0) (sk' := 0) rfl rfl (fun _ => rfl) (fun _ _ => ?_) (fun _ hx => absurd rfl hx)
          obtain rfl := Option.some.inj hf
          exact g_iret C E () dX11_policyText_64 rfl rfl rfl (Nat.le_of_ble_eq_true rfl) (Nat.le_of_ble_eq_true rfl)
        · have hf := opt_pos c14 hf
          exact H35 thrown paper papered hf
    · have hf := opt_neg c6 hf
      exact H12 thrown paper papered hf
/-! X11_groups -/
theorem hd_X11_groups : yX11_groups.cls ≠ "java/lang/invoke/MethodHandle" ∧ yX11_groups.cls ≠ "java/lang/invoke/VarHandle" ∧ (parseMethodDescriptor yX11_groups.desc).map (fun d => d.parameters.length) = some 1 := by decide +kernel
def F_X11_groups_L45  (K21 : Int32 → (Nat → Int32) → Int32 → Int32 → Int32 → Option (Int32 × Int32 × (Nat → Int32) × Int32)) (thrown_45 : Int32) (nodes_45 : Nat → Int32) (nodeMany_45 : Int32) (l4_45 : Int32) (s0_45 : Int32) (s1_45 : Int32) : Option (Int32 × Int32 × (Nat → Int32) × Int32) := K21 thrown_45 nodes_45 nodeMany_45 (s1_45 + s0_45) (l4_45 + 1)
def F_X11_groups_L21 (g : Nat → Int32) (p0 : Int32)  : Nat → Int32 → (Nat → Int32) → Int32 → Int32 → Int32 → Option (Int32 × Int32 × (Nat → Int32) × Int32)
  | 0, _, _, _, _, _ => none
  | n + 1, thrown_21, nodes_21, nodeMany_21, l3_21, l4_21 => if 256 ≤ l4_21 then ((F_X11_done thrown_21 l3_21).bind fun v5 => some (v5.1, v5.2, nodes_21, nodeMany_21)) else ((F_X11_opens g nodes_21 nodeMany_21 p0 l4_21).bind fun v7 => if v7.1 = 0 then (F_X11_groups_L45 (F_X11_groups_L21 g p0 n) thrown_21 v7.2.1 v7.2.2 l4_21 0 l3_21) else (F_X11_groups_L45 (F_X11_groups_L21 g p0 n) thrown_21 v7.2.1 v7.2.2 l4_21 1 l3_21))
def F_X11_groups (thrown : Int32) (g : Nat → Int32) (nodes : Nat → Int32) (nodeMany : Int32) (p0 : Int32) : Option (Int32 × Int32 × (Nat → Int32) × Int32) := (F_X11_lacks g p0).bind fun v1 => if v1 = 0 then (F_X11_groups_L21 g p0 1000 thrown nodes nodeMany 0 0) else ((F_X11_fails thrown v1).bind fun v10 => some (v10.1, v10.2, nodes, nodeMany))
set_option maxRecDepth 100000 in
set_option maxHeartbeats 4000000 in
theorem c_X11_groups {l : Launch} {D : va_G} {cy : Nat → ClassId} {a : Nat → Nat} {thrown : Int32} {g : Nat → Int32} {saved : Nat → Int32} {hasSaved : Int32} {coef : Nat → Int32} {nodes : Nat → Int32} {nodeMany : Int32} {isDeep : Int32} {codes : Nat → Int32} {details : Nat → Int32} {levelMany : Int32} {given : Nat → Int32} {paper : Nat → Int32} {papered : Int32} {tape : Nat → Int32} {taped : Int32} {wrongAt : Int32} {at_ : Int32} {value : Int32} {readPlace : Int32} {readValue : Int32} {readEpoch : Int32} {p0 : Int32}  {val : Int32 × Int32 × (Nat → Int32) × Int32} (hf : F_X11_groups thrown g nodes nodeMany p0 = some val) : gCt l D cy yX11_groups cX11_groups 5 (some .int) 73 2495 0 0 [.ref (a 0), .int p0] [] ((wM cy a thrown g saved hasSaved coef nodes nodeMany isDeep codes details levelMany given paper papered tape taped wrongAt at_ value readPlace readValue readEpoch)) 0 (fun _ : Unit => some (.int val.1)) (fun _ => (wM cy a val.2.1 g saved hasSaved coef val.2.2.1 val.2.2.2 isDeep codes details levelMany given paper papered tape taped wrongAt at_ value readPlace readValue readEpoch)) := by
  refine g_begin (by decide +kernel) (Nat.le_of_ble_eq_true rfl) ?_
  intro X Q hl hR hD hy hro hn C hin E
  subst hl; subst hD; subst hy
  replace C : gC X "SecretVaultModel" cX11_groups (some .int) := C
  unfold F_X11_groups at hf
  have H21 : ∀ (n21 : Nat), ∀ (thrown_21 : Int32) (nodes_21 : Nat → Int32) (nodeMany_21 : Int32) (l3_21 : Int32) (l4_21 : Int32), F_X11_groups_L21 g p0 n21 thrown_21 nodes_21 nodeMany_21 l3_21 l4_21 = some val → gW X Q 0 0 ((wM (x_y X) a thrown_21 g saved hasSaved coef nodes_21 nodeMany_21 isDeep codes details levelMany given paper papered tape taped wrongAt at_ value readPlace readValue readEpoch)) [(0, .ref (a 0)), (1, .int p0), (3, .int l3_21), (4, .int l4_21)] [] 21 := by
    intro n21
    induction n21 with
    | zero => intros; rename_i hf; cases hf
    | succ n21 ih =>
      intro thrown_21 nodes_21 nodeMany_21 l3_21 l4_21 hf
      have H21 := ih
      rw [F_X11_groups_L21] at hf
      have H45 : ∀ (thrown_45 : Int32) (nodes_45 : Nat → Int32) (nodeMany_45 : Int32) (l4_45 : Int32) (s0_45 : Int32) (s1_45 : Int32), F_X11_groups_L45 (F_X11_groups_L21 g p0 n21) thrown_45 nodes_45 nodeMany_45 l4_45 s0_45 s1_45 = some val → gW X Q 0 0 ((wM (x_y X) a thrown_45 g saved hasSaved coef nodes_45 nodeMany_45 isDeep codes details levelMany given paper papered tape taped wrongAt at_ value readPlace readValue readEpoch)) [(0, .ref (a 0)), (1, .int p0), (4, .int l4_45)] [.int s0_45, .int s1_45] 45 := by
        intro thrown_45 nodes_45 nodeMany_45 l4_45 s0_45 s1_45 hf
        unfold F_X11_groups_L45 at hf
        refine g_iadd C dX11_groups_45 ?_
        refine g_istore_n C (lv' := [(3, .int (s1_45 + s0_45)), (0, .ref (a 0)), (1, .int p0), (4, .int l4_45)]) dX11_groups_46 (g_nlt hn rfl) rfl ?_
        refine g_iinc C 3 (v := l4_45 + 1) (lv' := [(4, .int (l4_45 + 1)), (3, .int (s1_45 + s0_45)), (0, .ref (a 0)), (1, .int p0)]) dX11_groups_47 rfl rfl (g_nlt hn rfl) rfl ?_
        refine g_goto C 21 dX11_groups_50 (by decide) ?_
        refine gW.locals [2, 3, 1, 0] rfl ?_
        exact H21 thrown_45 nodes_45 nodeMany_45 (s1_45 + s0_45) (l4_45 + 1) hf
      refine g_iload C 3 dX11_groups_21 rfl ?_
      refine g_sipush C (v := 256) dX11_groups_23 (by decide) ?_
      refine g_icmp_ge C 53 dX11_groups_26 (by decide) (fun c4 => ?_) (fun c4 => ?_)
      · have hf := opt_pos c4 hf
        refine g_aload_n C 0 dX11_groups_53 rfl ?_
        refine g_iload_n C 2 dX11_groups_54 rfl ?_
        obtain ⟨v5, h6, hf⟩ := opt_bind hf
        refine g_callV C (c_X11_done (l := x_l X) (D := x_D X) (cy := x_y X) (a := a) (thrown := thrown_21) (g := g) (saved := saved) (hasSaved := hasSaved) (coef := coef) (nodes := nodes_21) (nodeMany := nodeMany_21) (isDeep := isDeep) (codes := codes) (details := details) (levelMany := levelMany) (given := given) (paper := paper) (papered := papered) (tape := tape) (taped := taped) (wrongAt := wrongAt) (at_ := at_) (value := value) (readPlace := readPlace) (readValue := readValue) (readEpoch := readEpoch) (p0 := l3_21) h6) (As := [.int l3_21]) (rest := []) (wr := []) (ws' := fun _ => (wM (x_y X) a v5.2 g saved hasSaved coef nodes_21 nodeMany_21 isDeep codes details levelMany given paper papered tape taped wrongAt at_ value readPlace readValue readEpoch)) (st' := fun _ => [.int v5.1]) (ci := 12) 1 0 ⟨_, rfl⟩ rfl rfl mw_7_22 mw_1_9 mw_7_19 mw_7_21 mp_29 hd_X11_done rfl (g_rm hR rfl rfl) [0, 1, 2, 3, 4, 5, 6, 7, 8, 9] [] [0, 1, 2, 3, 4, 5, 6, 7, 8, 9] ⟨rfl, rfl, rfl, rfl, by decide, gRoIn_0, rfl, fun _ => rfl⟩ rfl (Nat.le_of_ble_eq_true rfl) dX11_groups_55 (g_rc hR (Nat.le_of_ble_eq_true rfl) (Nat.le_of_ble_eq_true rfl)) (ck' := 0) (sk' := 0) rfl rfl (fun _ => rfl) (fun _ _ => ?_) (fun _ hx => absurd rfl hx)
        obtain rfl := Option.some.inj hf
        exact g_iret C E () dX11_groups_58 rfl rfl rfl (Nat.le_of_ble_eq_true rfl) (Nat.le_of_ble_eq_true rfl)
      · have hf := opt_neg c4 hf
        refine g_iload_n C 2 dX11_groups_29 rfl ?_
        refine g_aload_n C 0 dX11_groups_30 rfl ?_
        refine g_iload_n C 1 dX11_groups_31 rfl ?_
        refine g_iload C 3 dX11_groups_32 rfl ?_
        obtain ⟨v7, h8, hf⟩ := opt_bind hf
        refine g_callV C (c_X11_opens (l := x_l X) (D := x_D X) (cy := x_y X) (a := a) (thrown := thrown_21) (g := g) (saved := saved) (hasSaved := hasSaved) (coef := coef) (nodes := nodes_21) (nodeMany := nodeMany_21) (isDeep := isDeep) (codes := codes) (details := details) (levelMany := levelMany) (given := given) (paper := paper) (papered := papered) (tape := tape) (taped := taped) (wrongAt := wrongAt) (at_ := at_) (value := value) (readPlace := readPlace) (readValue := readValue) (readEpoch := readEpoch) (p0 := p0) (p1 := l4_21) h8) (As := [.int p0, .int l4_21]) (rest := [.int l3_21]) (wr := []) (ws' := fun _ => (wM (x_y X) a thrown_21 g saved hasSaved coef v7.2.1 v7.2.2 isDeep codes details levelMany given paper papered tape taped wrongAt at_ value readPlace readValue readEpoch)) (st' := fun _ => [.int v7.1, .int l3_21]) (ci := 12) 2 0 ⟨_, rfl⟩ rfl rfl mw_7_145 mw_1_9 mw_7_142 mw_7_144 mp_47 hd_X11_opens rfl (g_rm hR rfl rfl) [0, 1, 2, 3, 4, 5, 6, 7, 8, 9] [] [0, 1, 2, 3, 4, 5, 6, 7, 8, 9] ⟨rfl, rfl, rfl, rfl, by decide, gRoIn_0, rfl, fun _ => rfl⟩ rfl (Nat.le_of_ble_eq_true rfl) dX11_groups_34 (g_rc hR (Nat.le_of_ble_eq_true rfl) (Nat.le_of_ble_eq_true rfl)) (ck' := 0) (sk' := 0) rfl rfl (fun _ => rfl) (fun _ _ => ?_) (fun _ hx => absurd rfl hx)
        refine g_if_eq C 44 dX11_groups_37 (by decide) (fun c9 => ?_) (fun c9 => ?_)
        · have hf := opt_pos c9 hf
          refine g_iconst C (v := 0) dX11_groups_44 (by decide) ?_
          refine gW.locals [0, 1, 3] rfl ?_
          exact H45 thrown_21 v7.2.1 v7.2.2 l4_21 0 l3_21 hf
        · have hf := opt_neg c9 hf
          refine g_iconst C (v := 1) dX11_groups_40 (by decide) ?_
          refine g_goto C 45 dX11_groups_41 (by decide) ?_
          refine gW.locals [0, 1, 3] rfl ?_
          exact H45 thrown_21 v7.2.1 v7.2.2 l4_21 1 l3_21 hf
  show gW X Q 0 0 ((wM (x_y X) a thrown g saved hasSaved coef nodes nodeMany isDeep codes details levelMany given paper papered tape taped wrongAt at_ value readPlace readValue readEpoch)) [(0, .ref (a 0)), (1, .int p0)] [] 0
  refine g_aload_n C 0 dX11_groups_0 rfl ?_
  refine g_iload_n C 1 dX11_groups_1 rfl ?_
  obtain ⟨v1, h2, hf⟩ := opt_bind hf
  refine g_callV C (c_X11_lacks (l := x_l X) (D := x_D X) (cy := x_y X) (a := a) (thrown := thrown) (g := g) (saved := saved) (hasSaved := hasSaved) (coef := coef) (nodes := nodes) (nodeMany := nodeMany) (isDeep := isDeep) (codes := codes) (details := details) (levelMany := levelMany) (given := given) (paper := paper) (papered := papered) (tape := tape) (taped := taped) (wrongAt := wrongAt) (at_ := at_) (value := value) (readPlace := readPlace) (readValue := readValue) (readEpoch := readEpoch) (p0 := p0) h2) (As := [.int p0]) (rest := []) (wr := []) (ws' := fun _ => (wM (x_y X) a thrown g saved hasSaved coef nodes nodeMany isDeep codes details levelMany given paper papered tape taped wrongAt at_ value readPlace readValue readEpoch)) (st' := fun _ => [.int v1]) (ci := 12) 1 0 ⟨_, rfl⟩ rfl rfl mw_7_126 mw_1_9 mw_7_123 mw_7_125 mp_45 hd_X11_lacks rfl (g_rm hR rfl rfl) [0, 1, 2, 3, 4, 5, 6, 7, 8, 9] [] [0, 1, 2, 3, 4, 5, 6, 7, 8, 9] ⟨rfl, rfl, rfl, rfl, by decide, gRoIn_0, rfl, fun _ => rfl⟩ rfl (Nat.le_of_ble_eq_true rfl) dX11_groups_2 (g_rc hR (Nat.le_of_ble_eq_true rfl) (Nat.le_of_ble_eq_true rfl)) (ck' := 0) (sk' := 0) rfl rfl (fun _ => rfl) (fun _ _ => ?_) (fun _ hx => absurd rfl hx)
  refine g_istore_n C (lv' := [(2, .int v1), (0, .ref (a 0)), (1, .int p0)]) dX11_groups_5 (g_nlt hn rfl) rfl ?_
  refine g_iload_n C 0 dX11_groups_6 rfl ?_
  refine g_if_eq C 16 dX11_groups_7 (by decide) (fun c3 => ?_) (fun c3 => ?_)
  · have hf := opt_pos c3 hf
    refine g_iconst C (v := 0) dX11_groups_16 (by decide) ?_
    refine g_istore_n C (lv' := [(3, .int 0), (2, .int v1), (0, .ref (a 0)), (1, .int p0)]) dX11_groups_17 (g_nlt hn rfl) rfl ?_
    refine g_iconst C (v := 0) dX11_groups_18 (by decide) ?_
    refine g_istore C (lv' := [(4, .int 0), (3, .int 0), (2, .int v1), (0, .ref (a 0)), (1, .int p0)]) dX11_groups_19 (g_nlt hn rfl) rfl ?_
    refine gW.locals [3, 4, 1, 0] rfl ?_
    exact H21 1000 thrown nodes nodeMany 0 0 hf
  · have hf := opt_neg c3 hf
    refine g_aload_n C 1 dX11_groups_10 rfl ?_
    refine g_iload_n C 0 dX11_groups_11 rfl ?_
    obtain ⟨v10, h11, hf⟩ := opt_bind hf
    refine g_callV C (c_X11_fails (l := x_l X) (D := x_D X) (cy := x_y X) (a := a) (thrown := thrown) (g := g) (saved := saved) (hasSaved := hasSaved) (coef := coef) (nodes := nodes) (nodeMany := nodeMany) (isDeep := isDeep) (codes := codes) (details := details) (levelMany := levelMany) (given := given) (paper := paper) (papered := papered) (tape := tape) (taped := taped) (wrongAt := wrongAt) (at_ := at_) (value := value) (readPlace := readPlace) (readValue := readValue) (readEpoch := readEpoch) (p0 := v1) h11) (As := [.int v1]) (rest := []) (wr := []) (ws' := fun _ => (wM (x_y X) a v10.2 g saved hasSaved coef nodes nodeMany isDeep codes details levelMany given paper papered tape taped wrongAt at_ value readPlace readValue readEpoch)) (st' := fun _ => [.int v10.1]) (ci := 12) 1 0 ⟨_, rfl⟩ rfl rfl mw_7_45 mw_1_9 mw_7_42 mw_7_44 mp_31 hd_X11_fails rfl (g_rm hR rfl rfl) [0, 1, 2, 3, 4, 5, 6, 7, 8, 9] [] [0, 1, 2, 3, 4, 5, 6, 7, 8, 9] ⟨rfl, rfl, rfl, rfl, by decide, gRoIn_0, rfl, fun _ => rfl⟩ rfl (Nat.le_of_ble_eq_true rfl) dX11_groups_12 (g_rc hR (Nat.le_of_ble_eq_true rfl) (Nat.le_of_ble_eq_true rfl)) (ck' := 0) (sk' := 0) rfl rfl (fun _ => rfl) (fun _ _ => ?_) (fun _ hx => absurd rfl hx)
    obtain rfl := Option.some.inj hf
    exact g_iret C E () dX11_groups_15 rfl rfl rfl (Nat.le_of_ble_eq_true rfl) (Nat.le_of_ble_eq_true rfl)
/-! X11_isSmallest -/
theorem hd_X11_isSmallest : yX11_isSmallest.cls ≠ "java/lang/invoke/MethodHandle" ∧ yX11_isSmallest.cls ≠ "java/lang/invoke/VarHandle" ∧ (parseMethodDescriptor yX11_isSmallest.desc).map (fun d => d.parameters.length) = some 2 := by decide +kernel
def F_X11_isSmallest_L58   (nodes_58 : Nat → Int32) (nodeMany_58 : Int32) (l3_58 : Int32) : Option (Int32 × (Nat → Int32) × Int32) := gg (gnar .boolean l3_58) (some (l3_58, nodes_58, nodeMany_58))
def F_X11_isSmallest_L51  (K10 : (Nat → Int32) → Int32 → Int32 → Int32 → Option (Int32 × (Nat → Int32) × Int32)) (nodes_51 : Nat → Int32) (nodeMany_51 : Int32) (l4_51 : Int32) (s0_51 : Int32) : Option (Int32 × (Nat → Int32) × Int32) := K10 nodes_51 nodeMany_51 s0_51 (l4_51 + 1)
def F_X11_isSmallest_L46  (K10 : (Nat → Int32) → Int32 → Int32 → Int32 → Option (Int32 × (Nat → Int32) × Int32)) (nodes_46 : Nat → Int32) (nodeMany_46 : Int32) (l4_46 : Int32) : Option (Int32 × (Nat → Int32) × Int32) := F_X11_isSmallest_L51 K10 nodes_46 nodeMany_46 l4_46 1
def F_X11_isSmallest_L10 (g : Nat → Int32) (p0 : Int32) (p1 : Int32)  : Nat → (Nat → Int32) → Int32 → Int32 → Int32 → Option (Int32 × (Nat → Int32) × Int32)
  | 0, _, _, _, _ => none
  | n + 1, nodes_10, nodeMany_10, l3_10, l4_10 => if 8 ≤ l4_10 then (F_X11_isSmallest_L58 nodes_10 nodeMany_10 l3_10) else (if l3_10 = 0 then (F_X11_isSmallest_L58 nodes_10 nodeMany_10 l3_10) else (if ((p1 >>> (l4_10 &&& 31)) &&& 1) = 0 then (F_X11_isSmallest_L46 (F_X11_isSmallest_L10 g p0 p1 n) nodes_10 nodeMany_10 l4_10) else ((F_X11_opens g nodes_10 nodeMany_10 p0 (p1 &&& (((1 : Int32) <<< (l4_10 &&& 31)) ^^^ (-1)))).bind fun v7 => if v7.1 = 0 then (F_X11_isSmallest_L46 (F_X11_isSmallest_L10 g p0 p1 n) v7.2.1 v7.2.2 l4_10) else (F_X11_isSmallest_L51 (F_X11_isSmallest_L10 g p0 p1 n) v7.2.1 v7.2.2 l4_10 0))))
def F_X11_isSmallest (g : Nat → Int32) (nodes : Nat → Int32) (nodeMany : Int32) (p0 : Int32) (p1 : Int32) : Option (Int32 × (Nat → Int32) × Int32) := (F_X11_opens g nodes nodeMany p0 p1).bind fun v1 => F_X11_isSmallest_L10 g p0 p1 1000 v1.2.1 v1.2.2 v1.1 0
set_option maxRecDepth 100000 in
set_option maxHeartbeats 4000000 in
theorem c_X11_isSmallest {l : Launch} {D : va_G} {cy : Nat → ClassId} {a : Nat → Nat} {thrown : Int32} {g : Nat → Int32} {saved : Nat → Int32} {hasSaved : Int32} {coef : Nat → Int32} {nodes : Nat → Int32} {nodeMany : Int32} {isDeep : Int32} {codes : Nat → Int32} {details : Nat → Int32} {levelMany : Int32} {given : Nat → Int32} {paper : Nat → Int32} {papered : Int32} {tape : Nat → Int32} {taped : Int32} {wrongAt : Int32} {at_ : Int32} {value : Int32} {readPlace : Int32} {readValue : Int32} {readEpoch : Int32} {p0 : Int32} {p1 : Int32}  {val : Int32 × (Nat → Int32) × Int32} (hf : F_X11_isSmallest g nodes nodeMany p0 p1 = some val) : gCt l D cy yX11_isSmallest cX11_isSmallest 5 (some .boolean) 73 2495 0 0 [.ref (a 0), .int p0, .int p1] [] ((wM cy a thrown g saved hasSaved coef nodes nodeMany isDeep codes details levelMany given paper papered tape taped wrongAt at_ value readPlace readValue readEpoch)) 0 (fun _ : Unit => some (.int val.1)) (fun _ => (wM cy a thrown g saved hasSaved coef val.2.1 val.2.2 isDeep codes details levelMany given paper papered tape taped wrongAt at_ value readPlace readValue readEpoch)) := by
  refine g_begin (by decide +kernel) (Nat.le_of_ble_eq_true rfl) ?_
  intro X Q hl hR hD hy hro hn C hin E
  subst hl; subst hD; subst hy
  replace C : gC X "SecretVaultModel" cX11_isSmallest (some .boolean) := C
  unfold F_X11_isSmallest at hf
  have H58 : ∀ (nodes_58 : Nat → Int32) (nodeMany_58 : Int32) (l3_58 : Int32), F_X11_isSmallest_L58 nodes_58 nodeMany_58 l3_58 = some val → gW X Q 0 0 ((wM (x_y X) a thrown g saved hasSaved coef nodes_58 nodeMany_58 isDeep codes details levelMany given paper papered tape taped wrongAt at_ value readPlace readValue readEpoch)) [(0, .ref (a 0)), (1, .int p0), (2, .int p1), (3, .int l3_58)] [] 58 := by
    intro nodes_58 nodeMany_58 l3_58 hf
    unfold F_X11_isSmallest_L58 at hf
    refine g_iload_n C 3 dX11_isSmallest_58 rfl ?_
    obtain ⟨c4, hf⟩ := gg_of hf
    obtain rfl := Option.some.inj hf
    exact g_zret C E () (gnar_of c4) dX11_isSmallest_59 rfl rfl rfl (Nat.le_of_ble_eq_true rfl) (Nat.le_of_ble_eq_true rfl)
  have H10 : ∀ (n10 : Nat), ∀ (nodes_10 : Nat → Int32) (nodeMany_10 : Int32) (l3_10 : Int32) (l4_10 : Int32), F_X11_isSmallest_L10 g p0 p1 n10 nodes_10 nodeMany_10 l3_10 l4_10 = some val → gW X Q 0 0 ((wM (x_y X) a thrown g saved hasSaved coef nodes_10 nodeMany_10 isDeep codes details levelMany given paper papered tape taped wrongAt at_ value readPlace readValue readEpoch)) [(0, .ref (a 0)), (1, .int p0), (2, .int p1), (3, .int l3_10), (4, .int l4_10)] [] 10 := by
    intro n10
    induction n10 with
    | zero => intros; rename_i hf; cases hf
    | succ n10 ih =>
      intro nodes_10 nodeMany_10 l3_10 l4_10 hf
      have H10 := ih
      rw [F_X11_isSmallest_L10] at hf
      have H51 : ∀ (nodes_51 : Nat → Int32) (nodeMany_51 : Int32) (l4_51 : Int32) (s0_51 : Int32), F_X11_isSmallest_L51 (F_X11_isSmallest_L10 g p0 p1 n10) nodes_51 nodeMany_51 l4_51 s0_51 = some val → gW X Q 0 0 ((wM (x_y X) a thrown g saved hasSaved coef nodes_51 nodeMany_51 isDeep codes details levelMany given paper papered tape taped wrongAt at_ value readPlace readValue readEpoch)) [(0, .ref (a 0)), (1, .int p0), (2, .int p1), (4, .int l4_51)] [.int s0_51] 51 := by
        intro nodes_51 nodeMany_51 l4_51 s0_51 hf
        unfold F_X11_isSmallest_L51 at hf
        refine g_istore_n C (lv' := [(3, .int s0_51), (0, .ref (a 0)), (1, .int p0), (2, .int p1), (4, .int l4_51)]) dX11_isSmallest_51 (g_nlt hn rfl) rfl ?_
        refine g_iinc C 4 (v := l4_51 + 1) (lv' := [(4, .int (l4_51 + 1)), (3, .int s0_51), (0, .ref (a 0)), (1, .int p0), (2, .int p1)]) dX11_isSmallest_52 rfl rfl (g_nlt hn rfl) rfl ?_
        refine g_goto C 10 dX11_isSmallest_55 (by decide) ?_
        refine gW.locals [2, 3, 4, 1, 0] rfl ?_
        exact H10 nodes_51 nodeMany_51 s0_51 (l4_51 + 1) hf
      have H46 : ∀ (nodes_46 : Nat → Int32) (nodeMany_46 : Int32) (l4_46 : Int32), F_X11_isSmallest_L46 (F_X11_isSmallest_L10 g p0 p1 n10) nodes_46 nodeMany_46 l4_46 = some val → gW X Q 0 0 ((wM (x_y X) a thrown g saved hasSaved coef nodes_46 nodeMany_46 isDeep codes details levelMany given paper papered tape taped wrongAt at_ value readPlace readValue readEpoch)) [(0, .ref (a 0)), (1, .int p0), (2, .int p1), (4, .int l4_46)] [] 46 := by
        intro nodes_46 nodeMany_46 l4_46 hf
        unfold F_X11_isSmallest_L46 at hf
        refine g_iconst C (v := 1) dX11_isSmallest_46 (by decide) ?_
        refine g_goto C 51 dX11_isSmallest_47 (by decide) ?_
        exact H51 nodes_46 nodeMany_46 l4_46 1 hf
      refine g_iload C 4 dX11_isSmallest_10 rfl ?_
      refine g_bipush C (v := 8) dX11_isSmallest_12 (by decide) ?_
      refine g_icmp_ge C 58 dX11_isSmallest_14 (by decide) (fun c3 => ?_) (fun c3 => ?_)
      · have hf := opt_pos c3 hf
        refine gW.locals [0, 1, 2, 3] rfl ?_
        exact H58 nodes_10 nodeMany_10 l3_10 hf
      · have hf := opt_neg c3 hf
        refine g_iload_n C 3 dX11_isSmallest_17 rfl ?_
        refine g_if_eq C 58 dX11_isSmallest_18 (by decide) (fun c5 => ?_) (fun c5 => ?_)
        · have hf := opt_pos c5 hf
          refine gW.locals [0, 1, 2, 3] rfl ?_
          exact H58 nodes_10 nodeMany_10 l3_10 hf
        · have hf := opt_neg c5 hf
          refine g_iload_n C 2 dX11_isSmallest_21 rfl ?_
          refine g_iload C 4 dX11_isSmallest_22 rfl ?_
          refine g_ishr C dX11_isSmallest_24 ?_
          refine g_iconst C (v := 1) dX11_isSmallest_25 (by decide) ?_
          refine g_iand C dX11_isSmallest_26 ?_
          refine g_if_eq C 46 dX11_isSmallest_27 (by decide) (fun c6 => ?_) (fun c6 => ?_)
          · have hf := opt_pos c6 hf
            refine gW.locals [0, 1, 2, 4] rfl ?_
            exact H46 nodes_10 nodeMany_10 l4_10 hf
          · have hf := opt_neg c6 hf
            refine g_aload_n C 0 dX11_isSmallest_30 rfl ?_
            refine g_iload_n C 1 dX11_isSmallest_31 rfl ?_
            refine g_iload_n C 2 dX11_isSmallest_32 rfl ?_
            refine g_iconst C (v := 1) dX11_isSmallest_33 (by decide) ?_
            refine g_iload C 4 dX11_isSmallest_34 rfl ?_
            refine g_ishl C dX11_isSmallest_36 ?_
            refine g_iconst C (v := (-1)) dX11_isSmallest_37 (by decide) ?_
            refine g_ixor C dX11_isSmallest_38 ?_
            refine g_iand C dX11_isSmallest_39 ?_
            obtain ⟨v7, h8, hf⟩ := opt_bind hf
            refine g_callV C (c_X11_opens (l := x_l X) (D := x_D X) (cy := x_y X) (a := a) (thrown := thrown) (g := g) (saved := saved) (hasSaved := hasSaved) (coef := coef) (nodes := nodes_10) (nodeMany := nodeMany_10) (isDeep := isDeep) (codes := codes) (details := details) (levelMany := levelMany) (given := given) (paper := paper) (papered := papered) (tape := tape) (taped := taped) (wrongAt := wrongAt) (at_ := at_) (value := value) (readPlace := readPlace) (readValue := readValue) (readEpoch := readEpoch) (p0 := p0) (p1 := p1 &&& (((1 : Int32) <<< (l4_10 &&& 31)) ^^^ (-1))) h8) (As := [.int p0, .int (p1 &&& (((1 : Int32) <<< (l4_10 &&& 31)) ^^^ (-1)))]) (rest := []) (wr := []) (ws' := fun _ => (wM (x_y X) a thrown g saved hasSaved coef v7.2.1 v7.2.2 isDeep codes details levelMany given paper papered tape taped wrongAt at_ value readPlace readValue readEpoch)) (st' := fun _ => [.int v7.1]) (ci := 12) 2 0 ⟨_, rfl⟩ rfl rfl mw_7_145 mw_1_9 mw_7_142 mw_7_144 mp_47 hd_X11_opens rfl (g_rm hR rfl rfl) [0, 1, 2, 3, 4, 5, 6, 7, 8, 9] [] [0, 1, 2, 3, 4, 5, 6, 7, 8, 9] ⟨rfl, rfl, rfl, rfl, by decide, gRoIn_0, rfl, fun _ => rfl⟩ rfl (Nat.le_of_ble_eq_true rfl) dX11_isSmallest_40 (g_rc hR (Nat.le_of_ble_eq_true rfl) (Nat.le_of_ble_eq_true rfl)) (ck' := 0) (sk' := 0) rfl rfl (fun _ => rfl) (fun _ _ => ?_) (fun _ hx => absurd rfl hx)
            refine g_if_ne C 50 dX11_isSmallest_43 (by decide) (fun c9 => ?_) (fun c9 => ?_)
            · have hf := opt_neg c9 hf
              refine g_iconst C (v := 0) dX11_isSmallest_50 (by decide) ?_
              refine gW.locals [0, 1, 2, 4] rfl ?_
              exact H51 v7.2.1 v7.2.2 l4_10 0 hf
            · have hf := opt_pos c9 hf
              refine gW.locals [0, 1, 2, 4] rfl ?_
              exact H46 v7.2.1 v7.2.2 l4_10 hf
  show gW X Q 0 0 ((wM (x_y X) a thrown g saved hasSaved coef nodes nodeMany isDeep codes details levelMany given paper papered tape taped wrongAt at_ value readPlace readValue readEpoch)) [(0, .ref (a 0)), (1, .int p0), (2, .int p1)] [] 0
  refine g_aload_n C 0 dX11_isSmallest_0 rfl ?_
  refine g_iload_n C 1 dX11_isSmallest_1 rfl ?_
  refine g_iload_n C 2 dX11_isSmallest_2 rfl ?_
  obtain ⟨v1, h2, hf⟩ := opt_bind hf
  refine g_callV C (c_X11_opens (l := x_l X) (D := x_D X) (cy := x_y X) (a := a) (thrown := thrown) (g := g) (saved := saved) (hasSaved := hasSaved) (coef := coef) (nodes := nodes) (nodeMany := nodeMany) (isDeep := isDeep) (codes := codes) (details := details) (levelMany := levelMany) (given := given) (paper := paper) (papered := papered) (tape := tape) (taped := taped) (wrongAt := wrongAt) (at_ := at_) (value := value) (readPlace := readPlace) (readValue := readValue) (readEpoch := readEpoch) (p0 := p0) (p1 := p1) h2) (As := [.int p0, .int p1]) (rest := []) (wr := []) (ws' := fun _ => (wM (x_y X) a thrown g saved hasSaved coef v1.2.1 v1.2.2 isDeep codes details levelMany given paper papered tape taped wrongAt at_ value readPlace readValue readEpoch)) (st' := fun _ => [.int v1.1]) (ci := 12) 2 0 ⟨_, rfl⟩ rfl rfl mw_7_145 mw_1_9 mw_7_142 mw_7_144 mp_47 hd_X11_opens rfl (g_rm hR rfl rfl) [0, 1, 2, 3, 4, 5, 6, 7, 8, 9] [] [0, 1, 2, 3, 4, 5, 6, 7, 8, 9] ⟨rfl, rfl, rfl, rfl, by decide, gRoIn_0, rfl, fun _ => rfl⟩ rfl (Nat.le_of_ble_eq_true rfl) dX11_isSmallest_3 (g_rc hR (Nat.le_of_ble_eq_true rfl) (Nat.le_of_ble_eq_true rfl)) (ck' := 0) (sk' := 0) rfl rfl (fun _ => rfl) (fun _ _ => ?_) (fun _ hx => absurd rfl hx)
  refine g_istore_n C (lv' := [(3, .int v1.1), (0, .ref (a 0)), (1, .int p0), (2, .int p1)]) dX11_isSmallest_6 (g_nlt hn rfl) rfl ?_
  refine g_iconst C (v := 0) dX11_isSmallest_7 (by decide) ?_
  refine g_istore C (lv' := [(4, .int 0), (3, .int v1.1), (0, .ref (a 0)), (1, .int p0), (2, .int p1)]) dX11_isSmallest_8 (g_nlt hn rfl) rfl ?_
  refine gW.locals [2, 3, 4, 1, 0] rfl ?_
  exact H10 1000 v1.2.1 v1.2.2 v1.1 0 hf
/-! X11_smallest -/
theorem hd_X11_smallest : yX11_smallest.cls ≠ "java/lang/invoke/MethodHandle" ∧ yX11_smallest.cls ≠ "java/lang/invoke/VarHandle" ∧ (parseMethodDescriptor yX11_smallest.desc).map (fun d => d.parameters.length) = some 2 := by decide +kernel
def F_X11_smallest_L56  (K22 : Int32 → (Nat → Int32) → Int32 → Int32 → Int32 → Option (Int32 × Int32 × (Nat → Int32) × Int32)) (thrown_56 : Int32) (nodes_56 : Nat → Int32) (nodeMany_56 : Int32) (l4_56 : Int32) (l5_56 : Int32) : Option (Int32 × Int32 × (Nat → Int32) × Int32) := K22 thrown_56 nodes_56 nodeMany_56 l4_56 (l5_56 + 1)
def F_X11_smallest_L22 (g : Nat → Int32) (p0 : Int32) (p1 : Int32)  : Nat → Int32 → (Nat → Int32) → Int32 → Int32 → Int32 → Option (Int32 × Int32 × (Nat → Int32) × Int32)
  | 0, _, _, _, _, _ => none
  | n + 1, thrown_22, nodes_22, nodeMany_22, l4_22, l5_22 => if 256 ≤ l5_22 then ((F_X11_fails thrown_22 2).bind fun v5 => some (v5.1, v5.2, nodes_22, nodeMany_22)) else ((F_X11_isSmallest g nodes_22 nodeMany_22 p0 l5_22).bind fun v7 => if v7.1 = 0 then (F_X11_smallest_L56 (F_X11_smallest_L22 g p0 p1 n) thrown_22 v7.2.1 v7.2.2 l4_22 l5_22) else (if l4_22 = p1 then ((F_X11_done thrown_22 l5_22).bind fun v11 => some (v11.1, v11.2, v7.2.1, v7.2.2)) else (F_X11_smallest_L56 (F_X11_smallest_L22 g p0 p1 n) thrown_22 v7.2.1 v7.2.2 (l4_22 + 1) l5_22)))
def F_X11_smallest (thrown : Int32) (g : Nat → Int32) (nodes : Nat → Int32) (nodeMany : Int32) (p0 : Int32) (p1 : Int32) : Option (Int32 × Int32 × (Nat → Int32) × Int32) := (F_X11_lacks g p0).bind fun v1 => if v1 = 0 then (F_X11_smallest_L22 g p0 p1 1000 thrown nodes nodeMany 0 0) else ((F_X11_fails thrown v1).bind fun v13 => some (v13.1, v13.2, nodes, nodeMany))
set_option maxRecDepth 100000 in
set_option maxHeartbeats 4000000 in
theorem c_X11_smallest {l : Launch} {D : va_G} {cy : Nat → ClassId} {a : Nat → Nat} {thrown : Int32} {g : Nat → Int32} {saved : Nat → Int32} {hasSaved : Int32} {coef : Nat → Int32} {nodes : Nat → Int32} {nodeMany : Int32} {isDeep : Int32} {codes : Nat → Int32} {details : Nat → Int32} {levelMany : Int32} {given : Nat → Int32} {paper : Nat → Int32} {papered : Int32} {tape : Nat → Int32} {taped : Int32} {wrongAt : Int32} {at_ : Int32} {value : Int32} {readPlace : Int32} {readValue : Int32} {readEpoch : Int32} {p0 : Int32} {p1 : Int32}  {val : Int32 × Int32 × (Nat → Int32) × Int32} (hf : F_X11_smallest thrown g nodes nodeMany p0 p1 = some val) : gCt l D cy yX11_smallest cX11_smallest 6 (some .int) 74 2519 0 0 [.ref (a 0), .int p0, .int p1] [] ((wM cy a thrown g saved hasSaved coef nodes nodeMany isDeep codes details levelMany given paper papered tape taped wrongAt at_ value readPlace readValue readEpoch)) 0 (fun _ : Unit => some (.int val.1)) (fun _ => (wM cy a val.2.1 g saved hasSaved coef val.2.2.1 val.2.2.2 isDeep codes details levelMany given paper papered tape taped wrongAt at_ value readPlace readValue readEpoch)) := by
  refine g_begin (by decide +kernel) (Nat.le_of_ble_eq_true rfl) ?_
  intro X Q hl hR hD hy hro hn C hin E
  subst hl; subst hD; subst hy
  replace C : gC X "SecretVaultModel" cX11_smallest (some .int) := C
  unfold F_X11_smallest at hf
  have H22 : ∀ (n22 : Nat), ∀ (thrown_22 : Int32) (nodes_22 : Nat → Int32) (nodeMany_22 : Int32) (l4_22 : Int32) (l5_22 : Int32), F_X11_smallest_L22 g p0 p1 n22 thrown_22 nodes_22 nodeMany_22 l4_22 l5_22 = some val → gW X Q 0 0 ((wM (x_y X) a thrown_22 g saved hasSaved coef nodes_22 nodeMany_22 isDeep codes details levelMany given paper papered tape taped wrongAt at_ value readPlace readValue readEpoch)) [(0, .ref (a 0)), (1, .int p0), (2, .int p1), (4, .int l4_22), (5, .int l5_22)] [] 22 := by
    intro n22
    induction n22 with
    | zero => intros; rename_i hf; cases hf
    | succ n22 ih =>
      intro thrown_22 nodes_22 nodeMany_22 l4_22 l5_22 hf
      have H22 := ih
      rw [F_X11_smallest_L22] at hf
      have H56 : ∀ (thrown_56 : Int32) (nodes_56 : Nat → Int32) (nodeMany_56 : Int32) (l4_56 : Int32) (l5_56 : Int32), F_X11_smallest_L56 (F_X11_smallest_L22 g p0 p1 n22) thrown_56 nodes_56 nodeMany_56 l4_56 l5_56 = some val → gW X Q 0 0 ((wM (x_y X) a thrown_56 g saved hasSaved coef nodes_56 nodeMany_56 isDeep codes details levelMany given paper papered tape taped wrongAt at_ value readPlace readValue readEpoch)) [(0, .ref (a 0)), (1, .int p0), (2, .int p1), (4, .int l4_56), (5, .int l5_56)] [] 56 := by
        intro thrown_56 nodes_56 nodeMany_56 l4_56 l5_56 hf
        unfold F_X11_smallest_L56 at hf
        refine g_iinc C 4 (v := l5_56 + 1) (lv' := [(5, .int (l5_56 + 1)), (0, .ref (a 0)), (1, .int p0), (2, .int p1), (4, .int l4_56)]) dX11_smallest_56 rfl rfl (g_nlt hn rfl) rfl ?_
        refine g_goto C 22 dX11_smallest_59 (by decide) ?_
        refine gW.locals [1, 2, 3, 4, 0] rfl ?_
        exact H22 thrown_56 nodes_56 nodeMany_56 l4_56 (l5_56 + 1) hf
      refine g_iload C 4 dX11_smallest_22 rfl ?_
      refine g_sipush C (v := 256) dX11_smallest_24 (by decide) ?_
      refine g_icmp_ge C 62 dX11_smallest_27 (by decide) (fun c4 => ?_) (fun c4 => ?_)
      · have hf := opt_pos c4 hf
        refine g_aload_n C 0 dX11_smallest_62 rfl ?_
        refine g_iconst C (v := 2) dX11_smallest_63 (by decide) ?_
        obtain ⟨v5, h6, hf⟩ := opt_bind hf
        refine g_callV C (c_X11_fails (l := x_l X) (D := x_D X) (cy := x_y X) (a := a) (thrown := thrown_22) (g := g) (saved := saved) (hasSaved := hasSaved) (coef := coef) (nodes := nodes_22) (nodeMany := nodeMany_22) (isDeep := isDeep) (codes := codes) (details := details) (levelMany := levelMany) (given := given) (paper := paper) (papered := papered) (tape := tape) (taped := taped) (wrongAt := wrongAt) (at_ := at_) (value := value) (readPlace := readPlace) (readValue := readValue) (readEpoch := readEpoch) (p0 := 2) h6) (As := [.int 2]) (rest := []) (wr := []) (ws' := fun _ => (wM (x_y X) a v5.2 g saved hasSaved coef nodes_22 nodeMany_22 isDeep codes details levelMany given paper papered tape taped wrongAt at_ value readPlace readValue readEpoch)) (st' := fun _ => [.int v5.1]) (ci := 12) 1 0 ⟨_, rfl⟩ rfl rfl mw_7_45 mw_1_9 mw_7_42 mw_7_44 mp_31 hd_X11_fails rfl (g_rm hR rfl rfl) [0, 1, 2, 3, 4, 5, 6, 7, 8, 9] [] [0, 1, 2, 3, 4, 5, 6, 7, 8, 9] ⟨rfl, rfl, rfl, rfl, by decide, gRoIn_0, rfl, fun _ => rfl⟩ rfl (Nat.le_of_ble_eq_true rfl) dX11_smallest_64 (g_rc hR (Nat.le_of_ble_eq_true rfl) (Nat.le_of_ble_eq_true rfl)) (ck' := 0) (sk' := 0) rfl rfl (fun _ => rfl) (fun _ _ => ?_) (fun _ hx => absurd rfl hx)
        obtain rfl := Option.some.inj hf
        exact g_iret C E () dX11_smallest_67 rfl rfl rfl (Nat.le_of_ble_eq_true rfl) (Nat.le_of_ble_eq_true rfl)
      · have hf := opt_neg c4 hf
        refine g_aload_n C 0 dX11_smallest_30 rfl ?_
        refine g_iload_n C 1 dX11_smallest_31 rfl ?_
        refine g_iload C 4 dX11_smallest_32 rfl ?_
        obtain ⟨v7, h8, hf⟩ := opt_bind hf
        refine g_callV C (c_X11_isSmallest (l := x_l X) (D := x_D X) (cy := x_y X) (a := a) (thrown := thrown_22) (g := g) (saved := saved) (hasSaved := hasSaved) (coef := coef) (nodes := nodes_22) (nodeMany := nodeMany_22) (isDeep := isDeep) (codes := codes) (details := details) (levelMany := levelMany) (given := given) (paper := paper) (papered := papered) (tape := tape) (taped := taped) (wrongAt := wrongAt) (at_ := at_) (value := value) (readPlace := readPlace) (readValue := readValue) (readEpoch := readEpoch) (p0 := p0) (p1 := l5_22) h8) (As := [.int p0, .int l5_22]) (rest := []) (wr := []) (ws' := fun _ => (wM (x_y X) a thrown_22 g saved hasSaved coef v7.2.1 v7.2.2 isDeep codes details levelMany given paper papered tape taped wrongAt at_ value readPlace readValue readEpoch)) (st' := fun _ => [.int v7.1]) (ci := 12) 2 0 ⟨_, rfl⟩ rfl rfl mw_8_103 mw_1_9 mw_8_100 mw_8_102 mp_69 hd_X11_isSmallest rfl (g_rm hR rfl rfl) [0, 1, 2, 3, 4, 5, 6, 7, 8, 9] [] [0, 1, 2, 3, 4, 5, 6, 7, 8, 9] ⟨rfl, rfl, rfl, rfl, by decide, gRoIn_0, rfl, fun _ => rfl⟩ rfl (Nat.le_of_ble_eq_true rfl) dX11_smallest_34 (g_rc hR (Nat.le_of_ble_eq_true rfl) (Nat.le_of_ble_eq_true rfl)) (ck' := 0) (sk' := 0) rfl rfl (fun _ => rfl) (fun _ _ => ?_) (fun _ hx => absurd rfl hx)
        refine g_if_eq C 56 dX11_smallest_37 (by decide) (fun c9 => ?_) (fun c9 => ?_)
        · have hf := opt_pos c9 hf
          exact H56 thrown_22 v7.2.1 v7.2.2 l4_22 l5_22 hf
        · have hf := opt_neg c9 hf
          refine g_iload C 3 dX11_smallest_40 rfl ?_
          refine g_iload_n C 2 dX11_smallest_42 rfl ?_
          refine g_icmp_ne C 53 dX11_smallest_43 (by decide) (fun c10 => ?_) (fun c10 => ?_)
          · have hf := opt_neg c10 hf
            refine g_iinc C 3 (v := l4_22 + 1) (lv' := [(4, .int (l4_22 + 1)), (0, .ref (a 0)), (1, .int p0), (2, .int p1), (5, .int l5_22)]) dX11_smallest_53 rfl rfl (g_nlt hn rfl) rfl ?_
            refine gW.locals [1, 2, 3, 0, 4] rfl ?_
            exact H56 thrown_22 v7.2.1 v7.2.2 (l4_22 + 1) l5_22 hf
          · have hf := opt_pos c10 hf
            refine g_aload_n C 0 dX11_smallest_46 rfl ?_
            refine g_iload C 4 dX11_smallest_47 rfl ?_
            obtain ⟨v11, h12, hf⟩ := opt_bind hf
            refine g_callV C (c_X11_done (l := x_l X) (D := x_D X) (cy := x_y X) (a := a) (thrown := thrown_22) (g := g) (saved := saved) (hasSaved := hasSaved) (coef := coef) (nodes := v7.2.1) (nodeMany := v7.2.2) (isDeep := isDeep) (codes := codes) (details := details) (levelMany := levelMany) (given := given) (paper := paper) (papered := papered) (tape := tape) (taped := taped) (wrongAt := wrongAt) (at_ := at_) (value := value) (readPlace := readPlace) (readValue := readValue) (readEpoch := readEpoch) (p0 := l5_22) h12) (As := [.int l5_22]) (rest := []) (wr := []) (ws' := fun _ => (wM (x_y X) a v11.2 g saved hasSaved coef v7.2.1 v7.2.2 isDeep codes details levelMany given paper papered tape taped wrongAt at_ value readPlace readValue readEpoch)) (st' := fun _ => [.int v11.1]) (ci := 12) 1 0 ⟨_, rfl⟩ rfl rfl mw_7_22 mw_1_9 mw_7_19 mw_7_21 mp_29 hd_X11_done rfl (g_rm hR rfl rfl) [0, 1, 2, 3, 4, 5, 6, 7, 8, 9] [] [0, 1, 2, 3, 4, 5, 6, 7, 8, 9] ⟨rfl, rfl, rfl, rfl, by decide, gRoIn_0, rfl, fun _ => rfl⟩ rfl (Nat.le_of_ble_eq_true rfl) dX11_smallest_49 (g_rc hR (Nat.le_of_ble_eq_true rfl) (Nat.le_of_ble_eq_true rfl)) (ck' := 0) (sk' := 0) rfl rfl (fun _ => rfl) (fun _ _ => ?_) (fun _ hx => absurd rfl hx)
            obtain rfl := Option.some.inj hf
            exact g_iret C E () dX11_smallest_52 rfl rfl rfl (Nat.le_of_ble_eq_true rfl) (Nat.le_of_ble_eq_true rfl)
  show gW X Q 0 0 ((wM (x_y X) a thrown g saved hasSaved coef nodes nodeMany isDeep codes details levelMany given paper papered tape taped wrongAt at_ value readPlace readValue readEpoch)) [(0, .ref (a 0)), (1, .int p0), (2, .int p1)] [] 0
  refine g_aload_n C 0 dX11_smallest_0 rfl ?_
  refine g_iload_n C 1 dX11_smallest_1 rfl ?_
  obtain ⟨v1, h2, hf⟩ := opt_bind hf
  refine g_callV C (c_X11_lacks (l := x_l X) (D := x_D X) (cy := x_y X) (a := a) (thrown := thrown) (g := g) (saved := saved) (hasSaved := hasSaved) (coef := coef) (nodes := nodes) (nodeMany := nodeMany) (isDeep := isDeep) (codes := codes) (details := details) (levelMany := levelMany) (given := given) (paper := paper) (papered := papered) (tape := tape) (taped := taped) (wrongAt := wrongAt) (at_ := at_) (value := value) (readPlace := readPlace) (readValue := readValue) (readEpoch := readEpoch) (p0 := p0) h2) (As := [.int p0]) (rest := []) (wr := []) (ws' := fun _ => (wM (x_y X) a thrown g saved hasSaved coef nodes nodeMany isDeep codes details levelMany given paper papered tape taped wrongAt at_ value readPlace readValue readEpoch)) (st' := fun _ => [.int v1]) (ci := 12) 1 0 ⟨_, rfl⟩ rfl rfl mw_7_126 mw_1_9 mw_7_123 mw_7_125 mp_45 hd_X11_lacks rfl (g_rm hR rfl rfl) [0, 1, 2, 3, 4, 5, 6, 7, 8, 9] [] [0, 1, 2, 3, 4, 5, 6, 7, 8, 9] ⟨rfl, rfl, rfl, rfl, by decide, gRoIn_0, rfl, fun _ => rfl⟩ rfl (Nat.le_of_ble_eq_true rfl) dX11_smallest_2 (g_rc hR (Nat.le_of_ble_eq_true rfl) (Nat.le_of_ble_eq_true rfl)) (ck' := 0) (sk' := 0) rfl rfl (fun _ => rfl) (fun _ _ => ?_) (fun _ hx => absurd rfl hx)
  refine g_istore_n C (lv' := [(3, .int v1), (0, .ref (a 0)), (1, .int p0), (2, .int p1)]) dX11_smallest_5 (g_nlt hn rfl) rfl ?_
  refine g_iload_n C 0 dX11_smallest_6 rfl ?_
  refine g_if_eq C 16 dX11_smallest_7 (by decide) (fun c3 => ?_) (fun c3 => ?_)
  · have hf := opt_pos c3 hf
    refine g_iconst C (v := 0) dX11_smallest_16 (by decide) ?_
    refine g_istore C (lv' := [(4, .int 0), (3, .int v1), (0, .ref (a 0)), (1, .int p0), (2, .int p1)]) dX11_smallest_17 (g_nlt hn rfl) rfl ?_
    refine g_iconst C (v := 0) dX11_smallest_19 (by decide) ?_
    refine g_istore C (lv' := [(5, .int 0), (4, .int 0), (3, .int v1), (0, .ref (a 0)), (1, .int p0), (2, .int p1)]) dX11_smallest_20 (g_nlt hn rfl) rfl ?_
    refine gW.locals [3, 4, 5, 1, 0] rfl ?_
    exact H22 1000 thrown nodes nodeMany 0 0 hf
  · have hf := opt_neg c3 hf
    refine g_aload_n C 1 dX11_smallest_10 rfl ?_
    refine g_iload_n C 0 dX11_smallest_11 rfl ?_
    obtain ⟨v13, h14, hf⟩ := opt_bind hf
    refine g_callV C (c_X11_fails (l := x_l X) (D := x_D X) (cy := x_y X) (a := a) (thrown := thrown) (g := g) (saved := saved) (hasSaved := hasSaved) (coef := coef) (nodes := nodes) (nodeMany := nodeMany) (isDeep := isDeep) (codes := codes) (details := details) (levelMany := levelMany) (given := given) (paper := paper) (papered := papered) (tape := tape) (taped := taped) (wrongAt := wrongAt) (at_ := at_) (value := value) (readPlace := readPlace) (readValue := readValue) (readEpoch := readEpoch) (p0 := v1) h14) (As := [.int v1]) (rest := []) (wr := []) (ws' := fun _ => (wM (x_y X) a v13.2 g saved hasSaved coef nodes nodeMany isDeep codes details levelMany given paper papered tape taped wrongAt at_ value readPlace readValue readEpoch)) (st' := fun _ => [.int v13.1]) (ci := 12) 1 0 ⟨_, rfl⟩ rfl rfl mw_7_45 mw_1_9 mw_7_42 mw_7_44 mp_31 hd_X11_fails rfl (g_rm hR rfl rfl) [0, 1, 2, 3, 4, 5, 6, 7, 8, 9] [] [0, 1, 2, 3, 4, 5, 6, 7, 8, 9] ⟨rfl, rfl, rfl, rfl, by decide, gRoIn_0, rfl, fun _ => rfl⟩ rfl (Nat.le_of_ble_eq_true rfl) dX11_smallest_12 (g_rc hR (Nat.le_of_ble_eq_true rfl) (Nat.le_of_ble_eq_true rfl)) (ck' := 0) (sk' := 0) rfl rfl (fun _ => rfl) (fun _ _ => ?_) (fun _ hx => absurd rfl hx)
    obtain rfl := Option.some.inj hf
    exact g_iret C E () dX11_smallest_15 rfl rfl rfl (Nat.le_of_ble_eq_true rfl) (Nat.le_of_ble_eq_true rfl)
