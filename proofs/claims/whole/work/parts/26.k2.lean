abbrev gNP : Type := Option (Option (Int32 × Int32 × Int32 × (Nat → Int32) × Int32 × Int32 × Nat × (Nat → Int32)))
def gNPr (o : gNP) (q : Nat) (old : Option Nat) : Option Nat := match o with
  | none => old
  | some none => none
  | some (some _) => some q
def gNPw (cy : Nat → ClassId) (o : gNP) (a b c d : Nat) : va_W := match o with
  | none => []
  | some none => []
  | some (some (x1, x2, x3, x4, x5, x6, x7, x8)) => wPo cy a b c d x1 x2 x3 x4 x5 x6 x7 x8
/-! X3_from -/
theorem hd_X3_from : yX3_from.cls ≠ "java/lang/invoke/MethodHandle" ∧ yX3_from.cls ≠ "java/lang/invoke/VarHandle" ∧ (parseMethodDescriptor yX3_from.desc).map (fun d => d.parameters.length) = some 1 := by decide +kernel
def F_X3_from_L108  (K56 : Int32 → Int32 → Nat → (Nat → Int32) → (Nat → Int32) → Int32 → Int32 → Int32 → Option (Int32 × Int32 × Int32 × (Nat → Int32) × Int32 × Int32 × Nat × (Nat → Int32))) (y0hash_108 : Int32) (y0hz_108 : Int32) (y0tn_108 : Nat) (y0tb_108 : Nat → Int32) (y1t_108 : Nat → Int32) (l4_108 : Int32) (l5_108 : Int32) (l6_108 : Int32) : Option (Int32 × Int32 × Int32 × (Nat → Int32) × Int32 × Int32 × Nat × (Nat → Int32)) := K56 y0hash_108 y0hz_108 y0tn_108 y0tb_108 y1t_108 l4_108 l5_108 (l6_108 + 1)
def F_X3_from_L56   : Nat → Int32 → Int32 → Nat → (Nat → Int32) → (Nat → Int32) → Int32 → Int32 → Int32 → Option (Int32 × Int32 × Int32 × (Nat → Int32) × Int32 × Int32 × Nat × (Nat → Int32))
  | 0, _, _, _, _, _, _, _, _ => none
  | n + 1, y0hash_56, y0hz_56, y0tn_56, y0tb_56, y1t_56, l4_56, l5_56, l6_56 => (F_J0_length_8abf5 y0tn_56).bind fun v10 => if v10 ≤ l6_56 then ((F_X5_nestingOf y0tn_56 y0tb_56).bind fun v14 => (F_X3_init l4_56 v14 l5_56).bind fun v16 => some (v16.1, v16.2.1, v16.2.2, y1t_56, y0hash_56, y0hz_56, y0tn_56, y0tb_56)) else ((F_X5_isMember y0tn_56 y0tb_56 l6_56).bind fun v18 => if v18 = 0 then ((F_X5_isCount y0tn_56 y0tb_56 l6_56).bind fun v21 => if v21 = 0 then (F_X3_from_L108 (F_X3_from_L56 n) y0hash_56 y0hz_56 y0tn_56 y0tb_56 y1t_56 l4_56 l5_56 l6_56) else (F_X3_from_L108 (F_X3_from_L56 n) y0hash_56 y0hz_56 y0tn_56 y0tb_56 y1t_56 (l4_56 + 1) l5_56 l6_56)) else ((F_J0_charAt_5068e y0tn_56 y0tb_56 l6_56).bind fun v24 => gl (l5_56 ||| ((1 : Int32) <<< ((v24 - 48) &&& 31))) fun x26 => F_X3_from_L108 (F_X3_from_L56 n) y0hash_56 y0hz_56 y0tn_56 y0tb_56 y1t_56 (l4_56 + 1) x26 l6_56))
def F_X3_from_L23   : Nat → Int32 → Int32 → Nat → (Nat → Int32) → Int32 → Nat → (Nat → Int32) → Nat → (Nat → Int32) → Nat → (Nat → Int32) → Nat → (Nat → Int32) → (Nat → Int32) → Int32 → Option (Int32 × Int32 × Int32 × (Nat → Int32) × Int32 × Int32 × Nat × (Nat → Int32))
  | 0, _, _, _, _, _, _, _, _, _, _, _, _, _, _, _ => none
  | n + 1, y0hash_23, y0hz_23, y0tn_23, y0tb_23, y1opn_23, y1jn_23, y1du_23, y1jm_23, y1me_23, y1ja_23, y1an_23, y1jl_23, y1al_23, y2t_23, l4_23 => if 256 ≤ l4_23 then (F_X3_from_L56 1000 y0hash_23 y0hz_23 y0tn_23 y0tb_23 y2t_23 0 0 0) else ((F_X1_isFulfilledBy y1opn_23 y1jn_23 y1du_23 y1jm_23 y1me_23 y1ja_23 y1an_23 y1jl_23 y1al_23 y0tn_23 y0tb_23 l4_23).bind fun v27 => gg (gi l4_23 256) (gl (upd y2t_23 (Int32.toNatClampNeg l4_23) (vp_nar .boolean v27.1)) fun f31 => F_X3_from_L23 n y0hash_23 y0hz_23 y0tn_23 y0tb_23 v27.2.1 y1jn_23 v27.2.2.1 y1jm_23 v27.2.2.2.1 y1ja_23 v27.2.2.2.2.1 y1jl_23 v27.2.2.2.2.2 f31 (l4_23 + 1)))
def F_X3_from (tn : Nat) (tb : Nat → Int32) : Option (Int32 × Int32 × Int32 × (Nat → Int32) × Int32 × Int32 × Nat × (Nat → Int32)) := (F_X5_withoutNeedlessParentheses tn tb).bind fun v1 => (F_X1_init v1.2.2.1).bind fun v5 => F_X3_from_L23 1000 v1.1 v1.2.1 v1.2.2.1 v1.2.2.2 v5.1 v5.2.1 v5.2.2.1 v5.2.2.2.1 v5.2.2.2.2.1 v5.2.2.2.2.2.1 v5.2.2.2.2.2.2.1 v5.2.2.2.2.2.2.2.1 v5.2.2.2.2.2.2.2.2 (fun _ => 0) 0
set_option maxRecDepth 100000 in
set_option maxHeartbeats 4000000 in
theorem c_X3_from {l : Launch} {D : va_G} {cy : Nat → ClassId} {t0 t1 : Nat} {hash : Int32} {hz : Int32} {tn : Nat} {tb : Nat → Int32}   {val : Int32 × Int32 × Int32 × (Nat → Int32) × Int32 × Int32 × Nat × (Nat → Int32)} (hf : F_X3_from tn tb = some val) : gCt l D cy yX3_from cX3_from 7 (some (.object "SecretVault$Policy")) 8 193 79 6051 [.ref t0] (wStr cy t0 t1 hash hz tn tb) ([]) 0 (fun u : Nat × Nat × Nat × Nat => some (.ref u.1)) (fun u => (wPo cy u.1 u.2.1 u.2.2.1 u.2.2.2 val.1 val.2.1 val.2.2.1 val.2.2.2.1 val.2.2.2.2.1 val.2.2.2.2.2.1 val.2.2.2.2.2.2.1 val.2.2.2.2.2.2.2)) := by
  refine g_begin (by decide +kernel) (Nat.le_of_ble_eq_true rfl) ?_
  intro X Q hl hR hD hy hro hn C hin E
  subst hl; subst hD; subst hy
  replace C : gC X "SecretVault$Policy" cX3_from (some (.object "SecretVault$Policy")) := C
  unfold F_X3_from at hf
  have H56 : ∀ (n56 : Nat), ∀ (a0_0_56 : Nat) (a0_1_56 : Nat) (a1_0_56 : Nat) (y0hash_56 : Int32) (y0hz_56 : Int32) (y0tn_56 : Nat) (y0tb_56 : Nat → Int32) (y1t_56 : Nat → Int32) (l4_56 : Int32) (l5_56 : Int32) (l6_56 : Int32), F_X3_from_L56 n56 y0hash_56 y0hz_56 y0tn_56 y0tb_56 y1t_56 l4_56 l5_56 l6_56 = some val → gW X Q 77 5982 ((wStr (x_y X) a0_0_56 a0_1_56 y0hash_56 y0hz_56 y0tn_56 y0tb_56) ++ [(a1_0_56, .inl ((x_y X) 1, 256, .inl y1t_56))]) [(0, .ref t0), (1, .ref a0_0_56), (3, .ref a1_0_56), (4, .int l4_56), (5, .int l5_56), (6, .int l6_56)] [] 56 := by
    intro n56
    induction n56 with
    | zero => intros; rename_i hf; cases hf
    | succ n56 ih =>
      intro a0_0_56 a0_1_56 a1_0_56 y0hash_56 y0hz_56 y0tn_56 y0tb_56 y1t_56 l4_56 l5_56 l6_56 hf
      have H56 := ih
      rw [F_X3_from_L56] at hf
      have H108 : ∀ (a0_0_108 : Nat) (a0_1_108 : Nat) (a1_0_108 : Nat) (y0hash_108 : Int32) (y0hz_108 : Int32) (y0tn_108 : Nat) (y0tb_108 : Nat → Int32) (y1t_108 : Nat → Int32) (l4_108 : Int32) (l5_108 : Int32) (l6_108 : Int32), F_X3_from_L108 (F_X3_from_L56 n56) y0hash_108 y0hz_108 y0tn_108 y0tb_108 y1t_108 l4_108 l5_108 l6_108 = some val → gW X Q 77 5982 ((wStr (x_y X) a0_0_108 a0_1_108 y0hash_108 y0hz_108 y0tn_108 y0tb_108) ++ [(a1_0_108, .inl ((x_y X) 1, 256, .inl y1t_108))]) [(0, .ref t0), (1, .ref a0_0_108), (3, .ref a1_0_108), (4, .int l4_108), (5, .int l5_108), (6, .int l6_108)] [] 108 := by
        intro a0_0_108 a0_1_108 a1_0_108 y0hash_108 y0hz_108 y0tn_108 y0tb_108 y1t_108 l4_108 l5_108 l6_108 hf
        unfold F_X3_from_L108 at hf
        refine g_iinc C 5 (v := l6_108 + 1) (lv' := [(6, .int (l6_108 + 1)), (0, .ref t0), (1, .ref a0_0_108), (3, .ref a1_0_108), (4, .int l4_108), (5, .int l5_108)]) dX3_from_108 rfl rfl (g_nlt hn rfl) rfl ?_
        refine g_goto C 56 dX3_from_111 (by decide) ?_
        refine gW.locals [1, 2, 3, 4, 5, 0] rfl ?_
        exact H56 a0_0_108 a0_1_108 a1_0_108 y0hash_108 y0hz_108 y0tn_108 y0tb_108 y1t_108 l4_108 l5_108 (l6_108 + 1) hf
      refine g_iload C 5 dX3_from_56 rfl ?_
      refine g_aload_n C 1 dX3_from_58 rfl ?_
      obtain ⟨v10, h11, hf⟩ := opt_bind hf
      refine g_callV C (c_J0_length_8abf5 (l := x_l X) (D := x_D X) (cy := x_y X) (t0 := a0_0_56) (t1 := a0_1_56) (hash := y0hash_56) (hz := y0hz_56) (tn := y0tn_56) (tb := y0tb_56) h11) (As := []) (rest := [.int l6_56]) (wr := (wStr (x_y X) a0_0_56 a0_1_56 y0hash_56 y0hz_56 y0tn_56 y0tb_56) ++ [(a1_0_56, .inl ((x_y X) 1, 256, .inl y1t_56))]) (ws' := fun _ => (wStr (x_y X) a0_0_56 a0_1_56 y0hash_56 y0hz_56 y0tn_56 y0tb_56) ++ [(a1_0_56, .inl ((x_y X) 1, 256, .inl y1t_56))]) (st' := fun _ => [.int v10, .int l6_56]) (ci := 0) 0 0 ⟨_, rfl⟩ rfl rfl mw_4_75 mw_1_6 mw_6_17 mw_4_73 mw_4_74 hd_J0_length_8abf5 rfl (g_rm hR rfl rfl) [] [0, 1, 2] [0, 1, 2] ⟨rfl, rfl, rfl, rfl, by decide, gRoIn_p [0, 1] rfl (by decide), rfl, fun _ => rfl⟩ rfl (Nat.le_of_ble_eq_true rfl) dX3_from_59 (g_rc hR (Nat.le_of_ble_eq_true rfl) (Nat.le_of_ble_eq_true rfl)) (ck' := 77) (sk' := 5982) rfl rfl (fun _ => rfl) (fun _ _ => ?_) (fun _ hx => absurd rfl hx)
      refine g_icmp_ge C 114 dX3_from_62 (by decide) (fun c12 => ?_) (fun c12 => ?_)
      · have hf := opt_pos c12 hf
        refine g_new C (ci := 5) (ty := tyX3) (fs := [.null, .int 0, .int 0, .int 0, .null]) rfl wiX3 tyX3_ok mw_6_21 mw_6_22 mw_1_32 dfX3 (g_rc hR (Nat.le_of_ble_eq_true rfl) (Nat.le_of_ble_eq_true rfl)) (ck' := 78) (sk' := 5987) rfl rfl dX3_from_114 (fun q13 => ?_)
        refine g_dup C dX3_from_117 rfl ?_
        refine g_aload_n C 1 dX3_from_118 rfl ?_
        refine g_iload C 3 dX3_from_119 rfl ?_
        refine g_aload_n C 1 dX3_from_121 rfl ?_
        obtain ⟨v14, h15, hf⟩ := opt_bind hf
        refine g_callS C (c_X5_nestingOf (l := x_l X) (D := x_D X) (cy := x_y X) (t0 := a0_0_56) (t1 := a0_1_56) (hash := y0hash_56) (hz := y0hz_56) (tn := y0tn_56) (tb := y0tb_56) h15) (As := [.ref a0_0_56]) (rest := [.int l4_56, .ref a0_0_56, .ref q13, .ref q13]) (wr := (wStr (x_y X) a0_0_56 a0_1_56 y0hash_56 y0hz_56 y0tn_56 y0tb_56) ++ [(a1_0_56, .inl ((x_y X) 1, 256, .inl y1t_56))] ++ [(q13, .inr (5, [.null, .int 0, .int 0, .int 0, .null]))]) (ws' := fun _ => (wStr (x_y X) a0_0_56 a0_1_56 y0hash_56 y0hz_56 y0tn_56 y0tb_56) ++ [(a1_0_56, .inl ((x_y X) 1, 256, .inl y1t_56))] ++ [(q13, .inr (5, [.null, .int 0, .int 0, .int 0, .null]))]) (st' := fun _ => [.int v14, .int l4_56, .ref a0_0_56, .ref q13, .ref q13]) 1 mw_6_25 mw_1_31 mw_6_23 mw_6_24 hd_X5_nestingOf rfl (g_rm hR rfl rfl) [] [0, 1, 2, 3] [0, 1, 2, 3] ⟨rfl, rfl, rfl, rfl, by decide, gRoIn_p [0, 1] rfl (by decide), rfl, fun _ => rfl⟩ rfl (Nat.le_of_ble_eq_true rfl) dX3_from_122 (g_rc hR (Nat.le_of_ble_eq_true rfl) (Nat.le_of_ble_eq_true rfl)) (ck' := 79) (sk' := 6051) rfl rfl (fun _ => rfl) (fun _ _ => ?_) (fun _ hx => absurd rfl hx)
        refine g_iload C 4 dX3_from_125 rfl ?_
        refine g_aload_n C 2 dX3_from_127 rfl ?_
        obtain ⟨v16, h17, hf⟩ := opt_bind hf
        refine g_callI C (c_X3_init (l := x_l X) (D := x_D X) (cy := x_y X) (q0 := q13) (p0 := a0_0_56) (p1 := l4_56) (p2 := v14) (p3 := l5_56) (p4 := a1_0_56) h17) (As := [.ref a0_0_56, .int l4_56, .int v14, .int l5_56, .ref a1_0_56]) (rest := [.ref q13]) (wr := (wStr (x_y X) a0_0_56 a0_1_56 y0hash_56 y0hz_56 y0tn_56 y0tb_56) ++ [(a1_0_56, .inl ((x_y X) 1, 256, .inl y1t_56))]) (ws' := fun _ => (wStr (x_y X) a0_0_56 a0_1_56 y0hash_56 y0hz_56 y0tn_56 y0tb_56) ++ [(a1_0_56, .inl ((x_y X) 1, 256, .inl y1t_56))] ++ (wPol (x_y X) q13 a0_0_56 v16.1 v16.2.1 v16.2.2 a1_0_56)) (st' := fun _ => [.ref q13]) 5 rfl mw_6_29 mw_1_32 mw_6_27 mw_6_28 hd_X3_init rfl (g_rm hR rfl rfl) [3] [0, 1, 2] [0, 1, 2, 3] ⟨rfl, rfl, rfl, rfl, by decide, gRoIn_0, rfl, fun _ => rfl⟩ rfl (Nat.le_of_ble_eq_true rfl) dX3_from_128 (g_rc hR (Nat.le_of_ble_eq_true rfl) (Nat.le_of_ble_eq_true rfl)) (ck' := 79) (sk' := 6051) rfl rfl (fun _ => rfl) (fun _ _ => ?_) (fun _ hx => absurd rfl hx)
        refine g_sub [3, 2, 0, 1] (ws' := (wPo (x_y X) q13 a1_0_56 a0_0_56 a0_1_56 v16.1 v16.2.1 v16.2.2 y1t_56 y0hash_56 y0hz_56 y0tn_56 y0tb_56)) (by decide) rfl ?_
        obtain rfl := Option.some.inj hf
        exact g_aret C E (q13, a1_0_56, a0_0_56, a0_1_56) dX3_from_131 (Or.inl ⟨_, rfl⟩) rfl rfl rfl (Nat.le_of_ble_eq_true rfl) (Nat.le_of_ble_eq_true rfl)
      · have hf := opt_neg c12 hf
        refine g_aload_n C 1 dX3_from_65 rfl ?_
        refine g_iload C 5 dX3_from_66 rfl ?_
        obtain ⟨v18, h19, hf⟩ := opt_bind hf
        refine g_callS C (c_X5_isMember (l := x_l X) (D := x_D X) (cy := x_y X) (t0 := a0_0_56) (t1 := a0_1_56) (hash := y0hash_56) (hz := y0hz_56) (tn := y0tn_56) (tb := y0tb_56) (p1 := l6_56) h19) (As := [.ref a0_0_56, .int l6_56]) (rest := []) (wr := (wStr (x_y X) a0_0_56 a0_1_56 y0hash_56 y0hz_56 y0tn_56 y0tb_56) ++ [(a1_0_56, .inl ((x_y X) 1, 256, .inl y1t_56))]) (ws' := fun _ => (wStr (x_y X) a0_0_56 a0_1_56 y0hash_56 y0hz_56 y0tn_56 y0tb_56) ++ [(a1_0_56, .inl ((x_y X) 1, 256, .inl y1t_56))]) (st' := fun _ => [.int v18]) 2 mw_5_183 mw_1_31 mw_6_18 mw_5_182 hd_X5_isMember rfl (g_rm hR rfl rfl) [] [0, 1, 2] [0, 1, 2] ⟨rfl, rfl, rfl, rfl, by decide, gRoIn_p [0, 1] rfl (by decide), rfl, fun _ => rfl⟩ rfl (Nat.le_of_ble_eq_true rfl) dX3_from_68 (g_rc hR (Nat.le_of_ble_eq_true rfl) (Nat.le_of_ble_eq_true rfl)) (ck' := 77) (sk' := 5982) rfl rfl (fun _ => rfl) (fun _ _ => ?_) (fun _ hx => absurd rfl hx)
        refine g_if_eq C 96 dX3_from_71 (by decide) (fun c20 => ?_) (fun c20 => ?_)
        · have hf := opt_pos c20 hf
          refine g_aload_n C 1 dX3_from_96 rfl ?_
          refine g_iload C 5 dX3_from_97 rfl ?_
          obtain ⟨v21, h22, hf⟩ := opt_bind hf
          refine g_callS C (c_X5_isCount (l := x_l X) (D := x_D X) (cy := x_y X) (t0 := a0_0_56) (t1 := a0_1_56) (hash := y0hash_56) (hz := y0hz_56) (tn := y0tn_56) (tb := y0tb_56) (p1 := l6_56) h22) (As := [.ref a0_0_56, .int l6_56]) (rest := []) (wr := (wStr (x_y X) a0_0_56 a0_1_56 y0hash_56 y0hz_56 y0tn_56 y0tb_56) ++ [(a1_0_56, .inl ((x_y X) 1, 256, .inl y1t_56))]) (ws' := fun _ => (wStr (x_y X) a0_0_56 a0_1_56 y0hash_56 y0hz_56 y0tn_56 y0tb_56) ++ [(a1_0_56, .inl ((x_y X) 1, 256, .inl y1t_56))]) (st' := fun _ => [.int v21]) 2 mw_5_175 mw_1_31 mw_6_20 mw_5_174 hd_X5_isCount rfl (g_rm hR rfl rfl) [] [0, 1, 2] [0, 1, 2] ⟨rfl, rfl, rfl, rfl, by decide, gRoIn_p [0, 1] rfl (by decide), rfl, fun _ => rfl⟩ rfl (Nat.le_of_ble_eq_true rfl) dX3_from_99 (g_rc hR (Nat.le_of_ble_eq_true rfl) (Nat.le_of_ble_eq_true rfl)) (ck' := 77) (sk' := 5982) rfl rfl (fun _ => rfl) (fun _ _ => ?_) (fun _ hx => absurd rfl hx)
          refine g_if_eq C 108 dX3_from_102 (by decide) (fun c23 => ?_) (fun c23 => ?_)
          · have hf := opt_pos c23 hf
            exact H108 a0_0_56 a0_1_56 a1_0_56 y0hash_56 y0hz_56 y0tn_56 y0tb_56 y1t_56 l4_56 l5_56 l6_56 hf
          · have hf := opt_neg c23 hf
            refine g_iinc C 3 (v := l4_56 + 1) (lv' := [(4, .int (l4_56 + 1)), (0, .ref t0), (1, .ref a0_0_56), (3, .ref a1_0_56), (5, .int l5_56), (6, .int l6_56)]) dX3_from_105 rfl rfl (g_nlt hn rfl) rfl ?_
            refine gW.locals [1, 2, 3, 0, 4, 5] rfl ?_
            exact H108 a0_0_56 a0_1_56 a1_0_56 y0hash_56 y0hz_56 y0tn_56 y0tb_56 y1t_56 (l4_56 + 1) l5_56 l6_56 hf
        · have hf := opt_neg c20 hf
          refine g_iload C 4 dX3_from_74 rfl ?_
          refine g_iconst C (v := 1) dX3_from_76 (by decide) ?_
          refine g_aload_n C 1 dX3_from_77 rfl ?_
          refine g_iload C 5 dX3_from_78 rfl ?_
          obtain ⟨v24, h25, hf⟩ := opt_bind hf
          refine g_callV C (c_J0_charAt_5068e (l := x_l X) (D := x_D X) (cy := x_y X) (t0 := a0_0_56) (t1 := a0_1_56) (hash := y0hash_56) (hz := y0hz_56) (tn := y0tn_56) (tb := y0tb_56) (p0 := l6_56) h25) (As := [.int l6_56]) (rest := [.int 1, .int l5_56]) (wr := (wStr (x_y X) a0_0_56 a0_1_56 y0hash_56 y0hz_56 y0tn_56 y0tb_56) ++ [(a1_0_56, .inl ((x_y X) 1, 256, .inl y1t_56))]) (ws' := fun _ => (wStr (x_y X) a0_0_56 a0_1_56 y0hash_56 y0hz_56 y0tn_56 y0tb_56) ++ [(a1_0_56, .inl ((x_y X) 1, 256, .inl y1t_56))]) (st' := fun _ => [.int v24, .int 1, .int l5_56]) (ci := 0) 1 0 ⟨_, rfl⟩ rfl rfl mw_5_91 mw_1_6 mw_6_19 mw_5_89 mw_5_90 hd_J0_charAt_5068e rfl (g_rm hR rfl rfl) [] [0, 1, 2] [0, 1, 2] ⟨rfl, rfl, rfl, rfl, by decide, gRoIn_p [0, 1] rfl (by decide), rfl, fun _ => rfl⟩ rfl (Nat.le_of_ble_eq_true rfl) dX3_from_80 (g_rc hR (Nat.le_of_ble_eq_true rfl) (Nat.le_of_ble_eq_true rfl)) (ck' := 77) (sk' := 5982) rfl rfl (fun _ => rfl) (fun _ _ => ?_) (fun _ hx => absurd rfl hx)
          refine g_bipush C (v := 48) dX3_from_83 (by decide) ?_
          refine g_isub C dX3_from_85 ?_
          refine g_ishl C dX3_from_86 ?_
          refine g_ior C dX3_from_87 ?_
          obtain ⟨x26, ex26, hf⟩ := opt_let hf
          refine g_topi ex26 ?_
          refine g_istore C (lv' := [(5, .int x26), (0, .ref t0), (1, .ref a0_0_56), (3, .ref a1_0_56), (4, .int l4_56), (6, .int l6_56)]) dX3_from_88 (g_nlt hn rfl) rfl ?_
          refine g_iinc C 4 (v := l4_56 + 1) (lv' := [(4, .int (l4_56 + 1)), (5, .int x26), (0, .ref t0), (1, .ref a0_0_56), (3, .ref a1_0_56), (6, .int l6_56)]) dX3_from_90 rfl rfl (g_nlt hn rfl) rfl ?_
          refine g_goto C 108 dX3_from_93 (by decide) ?_
          refine gW.locals [2, 3, 4, 0, 1, 5] rfl ?_
          exact H108 a0_0_56 a0_1_56 a1_0_56 y0hash_56 y0hz_56 y0tn_56 y0tb_56 y1t_56 (l4_56 + 1) x26 l6_56 hf
  have H23 : ∀ (n23 : Nat), ∀ (a0_0_23 : Nat) (a0_1_23 : Nat) (a1_0_23 : Nat) (a1_1_23 : Nat) (a1_2_23 : Nat) (a1_3_23 : Nat) (a1_4_23 : Nat) (a2_0_23 : Nat) (y0hash_23 : Int32) (y0hz_23 : Int32) (y0tn_23 : Nat) (y0tb_23 : Nat → Int32) (y1opn_23 : Int32) (y1jn_23 : Nat) (y1du_23 : Nat → Int32) (y1jm_23 : Nat) (y1me_23 : Nat → Int32) (y1ja_23 : Nat) (y1an_23 : Nat → Int32) (y1jl_23 : Nat) (y1al_23 : Nat → Int32) (y2t_23 : Nat → Int32) (l4_23 : Int32), F_X3_from_L23 n23 y0hash_23 y0hz_23 y0tn_23 y0tb_23 y1opn_23 y1jn_23 y1du_23 y1jm_23 y1me_23 y1ja_23 y1an_23 y1jl_23 y1al_23 y2t_23 l4_23 = some val → gW X Q 77 5982 ((wStr (x_y X) a0_0_23 a0_1_23 y0hash_23 y0hz_23 y0tn_23 y0tb_23) ++ (wJu (x_y X) a1_0_23 a1_1_23 a1_2_23 a1_3_23 a1_4_23 a0_0_23 y1opn_23 y1jn_23 y1du_23 y1jm_23 y1me_23 y1ja_23 y1an_23 y1jl_23 y1al_23) ++ [(a2_0_23, .inl ((x_y X) 1, 256, .inl y2t_23))]) [(0, .ref t0), (1, .ref a0_0_23), (2, .ref a1_0_23), (3, .ref a2_0_23), (4, .int l4_23)] [] 23 := by
    intro n23
    induction n23 with
    | zero => intros; rename_i hf; cases hf
    | succ n23 ih =>
      intro a0_0_23 a0_1_23 a1_0_23 a1_1_23 a1_2_23 a1_3_23 a1_4_23 a2_0_23 y0hash_23 y0hz_23 y0tn_23 y0tb_23 y1opn_23 y1jn_23 y1du_23 y1jm_23 y1me_23 y1ja_23 y1an_23 y1jl_23 y1al_23 y2t_23 l4_23 hf
      have H23 := ih
      rw [F_X3_from_L23] at hf
      refine g_iload C 4 dX3_from_23 rfl ?_
      refine g_sipush C (v := 256) dX3_from_25 (by decide) ?_
      refine g_icmp_ge C 47 dX3_from_28 (by decide) (fun c9 => ?_) (fun c9 => ?_)
      · have hf := opt_pos c9 hf
        refine g_iconst C (v := 0) dX3_from_47 (by decide) ?_
        refine g_istore C (lv' := [(4, .int 0), (0, .ref t0), (1, .ref a0_0_23), (2, .ref a1_0_23), (3, .ref a2_0_23)]) dX3_from_48 (g_nlt hn rfl) rfl ?_
        refine g_iconst C (v := 0) dX3_from_50 (by decide) ?_
        refine g_istore C (lv' := [(5, .int 0), (4, .int 0), (0, .ref t0), (1, .ref a0_0_23), (2, .ref a1_0_23), (3, .ref a2_0_23)]) dX3_from_51 (g_nlt hn rfl) rfl ?_
        refine g_iconst C (v := 0) dX3_from_53 (by decide) ?_
        refine g_istore C (lv' := [(6, .int 0), (5, .int 0), (4, .int 0), (0, .ref t0), (1, .ref a0_0_23), (2, .ref a1_0_23), (3, .ref a2_0_23)]) dX3_from_54 (g_nlt hn rfl) rfl ?_
        refine g_sub [0, 1, 7] (ws' := (wStr (x_y X) a0_0_23 a0_1_23 y0hash_23 y0hz_23 y0tn_23 y0tb_23) ++ [(a2_0_23, .inl ((x_y X) 1, 256, .inl y2t_23))]) (by decide) rfl ?_
        refine gW.locals [3, 4, 6, 2, 1, 0] rfl ?_
        exact H56 1000 a0_0_23 a0_1_23 a2_0_23 y0hash_23 y0hz_23 y0tn_23 y0tb_23 y2t_23 0 0 0 hf
      · have hf := opt_neg c9 hf
        refine g_aload_n C 3 dX3_from_31 rfl ?_
        refine g_iload C 4 dX3_from_32 rfl ?_
        refine g_aload_n C 2 dX3_from_34 rfl ?_
        refine g_iload C 4 dX3_from_35 rfl ?_
        obtain ⟨v27, h28, hf⟩ := opt_bind hf
        refine g_callV C (c_X1_isFulfilledBy (l := x_l X) (D := x_D X) (cy := x_y X) (j0 := a1_0_23) (j1 := a1_1_23) (j2 := a1_2_23) (j3 := a1_3_23) (j4 := a1_4_23) (t0 := a0_0_23) (t1 := a0_1_23) (opn := y1opn_23) (jn := y1jn_23) (du := y1du_23) (jm := y1jm_23) (me := y1me_23) (ja := y1ja_23) (an := y1an_23) (jl := y1jl_23) (al := y1al_23) (hash := y0hash_23) (hz := y0hz_23) (tn := y0tn_23) (tb := y0tb_23) (p0 := l4_23) h28) (As := [.int l4_23]) (rest := [.int l4_23, .ref a2_0_23]) (wr := (wStr (x_y X) a0_0_23 a0_1_23 y0hash_23 y0hz_23 y0tn_23 y0tb_23) ++ [(a2_0_23, .inl ((x_y X) 1, 256, .inl y2t_23))]) (ws' := fun u29 => (wStr (x_y X) a0_0_23 a0_1_23 y0hash_23 y0hz_23 y0tn_23 y0tb_23) ++ (wJu (x_y X) a1_0_23 u29.1 u29.2.1 u29.2.2.1 u29.2.2.2 a0_0_23 v27.2.1 y1jn_23 v27.2.2.1 y1jm_23 v27.2.2.2.1 y1ja_23 v27.2.2.2.2.1 y1jl_23 v27.2.2.2.2.2) ++ [(a2_0_23, .inl ((x_y X) 1, 256, .inl y2t_23))]) (st' := fun u29 => [.int v27.1, .int l4_23, .ref a2_0_23]) (ci := 4) 1 2 ⟨_, rfl⟩ rfl rfl mw_5_232 mw_1_33 mw_5_229 mw_5_230 mw_5_231 hd_X1_isFulfilledBy rfl (g_rm hR rfl rfl) [2, 3, 4, 5, 6] [0, 1, 7] [0, 1, 3, 4, 5, 6, 7, 2] ⟨rfl, rfl, rfl, rfl, by decide, gRoIn_p [0, 1] rfl (by decide), rfl, fun _ => rfl⟩ rfl (Nat.le_of_ble_eq_true rfl) dX3_from_37 (g_rc hR (Nat.le_of_ble_eq_true rfl) (Nat.le_of_ble_eq_true rfl)) (ck' := 77) (sk' := 5982) rfl rfl (fun _ => rfl) (fun u29 _ => ?_) (fun _ hx => absurd rfl hx)
        obtain ⟨c30, hf⟩ := gg_of hf
        obtain ⟨f31, ef31, hf⟩ := opt_let hf
        refine g_zast C (ws' := (wStr (x_y X) a0_0_23 a0_1_23 y0hash_23 y0hz_23 y0tn_23 y0tb_23) ++ (wJu (x_y X) a1_0_23 u29.1 u29.2.1 u29.2.2.1 u29.2.2.2 a0_0_23 v27.2.1 y1jn_23 v27.2.2.1 y1jm_23 v27.2.2.2.1 y1ja_23 v27.2.2.2.2.1 y1jl_23 v27.2.2.2.2.2) ++ [(a2_0_23, .inl ((x_y X) 1, 256, .inl f31))]) 7 rfl (gi_in c30) (by rw [ef31]; rfl) dX3_from_40 ?_
        refine g_iinc C 4 (v := l4_23 + 1) (lv' := [(4, .int (l4_23 + 1)), (0, .ref t0), (1, .ref a0_0_23), (2, .ref a1_0_23), (3, .ref a2_0_23)]) dX3_from_41 rfl rfl (g_nlt hn rfl) rfl ?_
        refine g_goto C 23 dX3_from_44 (by decide) ?_
        refine gW.locals [1, 2, 3, 4, 0] rfl ?_
        exact H23 a0_0_23 a0_1_23 a1_0_23 u29.1 u29.2.1 u29.2.2.1 u29.2.2.2 a2_0_23 y0hash_23 y0hz_23 y0tn_23 y0tb_23 v27.2.1 y1jn_23 v27.2.2.1 y1jm_23 v27.2.2.2.1 y1ja_23 v27.2.2.2.2.1 y1jl_23 v27.2.2.2.2.2 f31 (l4_23 + 1) hf
  show gW X Q 0 0 ([]) [(0, .ref t0)] [] 0
  refine g_aload_n C 0 dX3_from_0 rfl ?_
  obtain ⟨v1, h2, hf⟩ := opt_bind hf
  refine g_callS C (c_X5_withoutNeedlessParentheses (l := x_l X) (D := x_D X) (cy := x_y X) (t0 := t0) (t1 := t1) (hash := hash) (hz := hz) (tn := tn) (tb := tb) h2) (As := [.ref t0]) (rest := []) (wr := []) (ws' := fun u3 => (wStr (x_y X) u3.1 u3.2 v1.1 v1.2.1 v1.2.2.1 v1.2.2.2)) (st' := fun u3 => [.ref u3.1]) 1 mw_5_195 mw_1_31 mw_5_193 mw_5_194 hd_X5_withoutNeedlessParentheses rfl (g_rm hR rfl rfl) [] [] [0, 1] ⟨rfl, rfl, rfl, rfl, by decide, gRoIn_p [0, 1] (by rw [hro]; rfl) (by decide), rfl, fun _ => rfl⟩ rfl (Nat.le_of_ble_eq_true rfl) dX3_from_1 (g_rc hR (Nat.le_of_ble_eq_true rfl) (Nat.le_of_ble_eq_true rfl)) (ck' := 71) (sk' := 5464) rfl rfl (fun _ => rfl) (fun u3 _ => ?_) (fun _ hx => absurd rfl hx)
  refine g_astore_n C (lv' := [(1, .ref u3.1), (0, .ref t0)]) dX3_from_4 (g_nlt hn rfl) rfl ?_
  refine g_new C (ci := 4) (ty := tyX1) (fs := [.null, .null, .null, .null, .null, .int 0]) rfl wiX1 tyX1_ok mw_5_203 mw_5_204 mw_1_33 dfX1 (g_rc hR (Nat.le_of_ble_eq_true rfl) (Nat.le_of_ble_eq_true rfl)) (ck' := 72) (sk' := 5470) rfl rfl dX3_from_5 (fun q4 => ?_)
  refine g_dup C dX3_from_8 rfl ?_
  refine g_aload_n C 0 dX3_from_9 rfl ?_
  obtain ⟨v5, h6, hf⟩ := opt_bind hf
  refine g_callI C (c_X1_init (l := x_l X) (D := x_D X) (cy := x_y X) (j0 := q4) (t0 := u3.1) (t1 := u3.2) (hash := v1.1) (hz := v1.2.1) (tn := v1.2.2.1) (tb := v1.2.2.2) h6) (As := [.ref u3.1]) (rest := [.ref q4]) (wr := (wStr (x_y X) u3.1 u3.2 v1.1 v1.2.1 v1.2.2.1 v1.2.2.2)) (ws' := fun u7 => (wStr (x_y X) u3.1 u3.2 v1.1 v1.2.1 v1.2.2.1 v1.2.2.2) ++ (wJu (x_y X) q4 u7.1 u7.2.1 u7.2.2.1 u7.2.2.2 u3.1 v5.1 v5.2.1 v5.2.2.1 v5.2.2.2.1 v5.2.2.2.2.1 v5.2.2.2.2.2.1 v5.2.2.2.2.2.2.1 v5.2.2.2.2.2.2.2.1 v5.2.2.2.2.2.2.2.2)) (st' := fun u7 => [.ref q4]) 1 rfl mw_5_207 mw_1_33 mw_5_205 mw_5_206 hd_X1_init rfl (g_rm hR rfl rfl) [2] [0, 1] [0, 1, 2, 3, 4, 5, 6] ⟨rfl, rfl, rfl, rfl, by decide, gRoIn_p [0, 1] rfl (by decide), rfl, fun _ => rfl⟩ rfl (Nat.le_of_ble_eq_true rfl) dX3_from_10 (g_rc hR (Nat.le_of_ble_eq_true rfl) (Nat.le_of_ble_eq_true rfl)) (ck' := 76) (sk' := 5726) rfl rfl (fun _ => rfl) (fun u7 _ => ?_) (fun _ hx => absurd rfl hx)
  refine g_astore_n C (lv' := [(2, .ref q4), (1, .ref u3.1), (0, .ref t0)]) dX3_from_13 (g_nlt hn rfl) rfl ?_
  refine g_sipush C (v := 256) dX3_from_14 (by decide) ?_
  refine g_newa C 1 (ty := .boolean) rfl rfl (fun _ h => nomatch h) mw_1_205 (N := 256) (B := 256) (a0 := (256, .inl (fun _ => 0))) (fun _ => rfl) (by decide) (by decide) (Nat.le_refl _) (by decide) (by decide) (g_rc hR (Nat.le_of_ble_eq_true rfl) (Nat.le_of_ble_eq_true rfl)) (ck' := 77) (sk' := 5982) rfl rfl dX3_from_17 (fun q8 => ?_)
  refine g_astore_n C (lv' := [(3, .ref q8), (2, .ref q4), (1, .ref u3.1), (0, .ref t0)]) dX3_from_19 (g_nlt hn rfl) rfl ?_
  refine g_iconst C (v := 0) dX3_from_20 (by decide) ?_
  refine g_istore C (lv' := [(4, .int 0), (3, .ref q8), (2, .ref q4), (1, .ref u3.1), (0, .ref t0)]) dX3_from_21 (g_nlt hn rfl) rfl ?_
  refine gW.locals [4, 3, 2, 1, 0] rfl ?_
  exact H23 1000 u3.1 u3.2 q4 u7.1 u7.2.1 u7.2.2.1 u7.2.2.2 q8 v1.1 v1.2.1 v1.2.2.1 v1.2.2.2 v5.1 v5.2.1 v5.2.2.1 v5.2.2.2.1 v5.2.2.2.2.1 v5.2.2.2.2.2.1 v5.2.2.2.2.2.2.1 v5.2.2.2.2.2.2.2.1 v5.2.2.2.2.2.2.2.2 (fun _ => 0) 0 hf
/-! X10_takeText -/
theorem hd_X10_takeText : yX10_takeText.cls ≠ "java/lang/invoke/MethodHandle" ∧ yX10_takeText.cls ≠ "java/lang/invoke/VarHandle" ∧ (parseMethodDescriptor yX10_takeText.desc).map (fun d => d.parameters.length) = some 0 := by decide +kernel
def F_X10_takeText (ml : Int32) (n : Int32) (cap : Nat) (bs : Nat → Int32) : Option (Int32 × Int32 × Nat × (Nat → Int32) × Int32 × Int32 × Nat × (Nat → Int32)) := (F_J4_toString_0e30d ml n cap bs).bind fun v1 => (F_J4_setLength_d00df ml n cap bs 0).bind fun v4 => some (v4.1, v4.2.1, v4.2.2.1, v4.2.2.2, v1.1, v1.2.1, v1.2.2.1, v1.2.2.2)
set_option maxRecDepth 100000 in
set_option maxHeartbeats 4000000 in
theorem c_X10_takeText {l : Launch} {D : va_G} {cy : Nat → ClassId} {v : Nat → Nat} {sb sy : Nat} {nw : Nat} {kp : Nat} {ak : Int32} {fa : Int32} {fl : Nat} {ln : Nat} {co : Nat → Int32} {ch : Nat → Int32} {gs : Nat → Int32} {op : Nat → Int32} {ml : Int32} {n : Int32} {cap : Nat} {bs : Nat → Int32}   {val : Int32 × Int32 × Nat × (Nat → Int32) × Int32 × Int32 × Nat × (Nat → Int32)} (hf : F_X10_takeText ml n cap bs = some val) : gCt l D cy yX10_takeText cX10_takeText 2 (some (.object "java/lang/String")) 6 141 3 164 [.ref (v 0)] [] ((wV cy v nw kp ak sb fa fl ln co ch gs op) ++ (wSb cy sb sy ml n cap bs)) 0 (fun u : Nat × Nat × Nat => some (.ref u.2.1)) (fun u => (wV cy v nw kp ak sb fa fl ln co ch gs op) ++ (wSb cy sb u.1 val.1 val.2.1 val.2.2.1 val.2.2.2.1) ++ (wStr cy u.2.1 u.2.2 val.2.2.2.2.1 val.2.2.2.2.2.1 val.2.2.2.2.2.2.1 val.2.2.2.2.2.2.2)) := by
  refine g_begin (by decide +kernel) (Nat.le_of_ble_eq_true rfl) ?_
  intro X Q hl hR hD hy hro hn C hin E
  subst hl; subst hD; subst hy
  replace C : gC X "SecretVault" cX10_takeText (some (.object "java/lang/String")) := C
  unfold F_X10_takeText at hf
  show gW X Q 0 0 ((wV (x_y X) v nw kp ak sb fa fl ln co ch gs op) ++ (wSb (x_y X) sb sy ml n cap bs)) [(0, .ref (v 0))] [] 0
  refine g_aload_n C 0 dX10_takeText_0 rfl ?_
  refine g_get C 0 3 rfl rfl wiX10 (by decide) mw_1_174 rfl rfl dX10_takeText_1 ?_
  obtain ⟨v1, h2, hf⟩ := opt_bind hf
  refine g_callV C (c_J4_toString_0e30d (l := x_l X) (D := x_D X) (cy := x_y X) (sb := sb) (sy := sy) (ml := ml) (n := n) (cap := cap) (bs := bs) h2) (As := []) (rest := []) (wr := (wV (x_y X) v nw kp ak sb fa fl ln co ch gs op)) (ws' := fun u3 => (wV (x_y X) v nw kp ak sb fa fl ln co ch gs op) ++ (wSb (x_y X) sb u3.1 ml n cap bs) ++ (wStr (x_y X) u3.2.1 u3.2.2 v1.1 v1.2.1 v1.2.2.1 v1.2.2.2)) (st' := fun u3 => [.ref u3.2.1]) (ci := 1) 0 5 ⟨_, rfl⟩ rfl rfl mw_4_143 mw_1_5 mw_5_48 mw_4_141 mw_4_142 hd_J4_toString_0e30d rfl (g_rm hR rfl rfl) [5, 6] [0, 1, 2, 3, 4] [0, 1, 2, 3, 4, 5, 6, 7, 8] ⟨rfl, rfl, rfl, rfl, by decide, gRoIn_0, rfl, fun _ => rfl⟩ rfl (Nat.le_of_ble_eq_true rfl) dX10_takeText_4 (g_rc hR (Nat.le_of_ble_eq_true rfl) (Nat.le_of_ble_eq_true rfl)) (ck' := 2) (sk' := 84) rfl rfl (fun _ => rfl) (fun u3 _ => ?_) (fun _ hx => absurd rfl hx)
  refine g_astore_n C (lv' := [(1, .ref u3.2.1), (0, .ref (v 0))]) dX10_takeText_7 (g_nlt hn rfl) rfl ?_
  refine g_aload_n C 1 dX10_takeText_8 rfl ?_
  refine g_get C 0 3 rfl rfl wiX10 (by decide) mw_1_174 rfl rfl dX10_takeText_9 ?_
  refine g_iconst C (v := 0) dX10_takeText_12 (by decide) ?_
  obtain ⟨v4, h5, hf⟩ := opt_bind hf
  refine g_callV C (c_J4_setLength_d00df (l := x_l X) (D := x_D X) (cy := x_y X) (sb := sb) (sy := u3.1) (ml := ml) (n := n) (cap := cap) (bs := bs) (p0 := 0) h5) (As := [.int 0]) (rest := []) (wr := (wV (x_y X) v nw kp ak sb fa fl ln co ch gs op) ++ (wStr (x_y X) u3.2.1 u3.2.2 v1.1 v1.2.1 v1.2.2.1 v1.2.2.2)) (ws' := fun u6 => (wV (x_y X) v nw kp ak sb fa fl ln co ch gs op) ++ (wSb (x_y X) sb u6 v4.1 v4.2.1 v4.2.2.1 v4.2.2.2) ++ (wStr (x_y X) u3.2.1 u3.2.2 v1.1 v1.2.1 v1.2.2.1 v1.2.2.2)) (st' := fun u6 => []) (ci := 1) 1 5 ⟨_, rfl⟩ rfl rfl mw_3_227 mw_1_5 mw_3_224 mw_3_225 mw_3_226 hd_J4_setLength_d00df rfl (g_rm hR rfl rfl) [5, 6] [0, 1, 2, 3, 4, 7, 8] [0, 1, 2, 3, 4, 7, 8, 5, 6] ⟨rfl, rfl, rfl, rfl, by decide, gRoIn_0, rfl, fun _ => rfl⟩ rfl (Nat.le_of_ble_eq_true rfl) dX10_takeText_13 (g_rc hR (Nat.le_of_ble_eq_true rfl) (Nat.le_of_ble_eq_true rfl)) (ck' := 3) (sk' := 164) rfl rfl (fun _ => rfl) (fun u6 _ => ?_) (fun _ hx => absurd rfl hx)
  refine g_aload_n C 0 dX10_takeText_16 rfl ?_
  refine g_eqw (ws' := (wV (x_y X) v nw kp ak sb fa fl ln co ch gs op) ++ (wSb (x_y X) sb u6 v4.1 v4.2.1 v4.2.2.1 v4.2.2.2) ++ (wStr (x_y X) u3.2.1 u3.2.2 v1.1 v1.2.1 v1.2.2.1 v1.2.2.2)) rfl ?_
  obtain rfl := Option.some.inj hf
  exact g_aret C E (u6, u3.2.1, u3.2.2) dX10_takeText_17 (Or.inl ⟨_, rfl⟩) rfl rfl rfl (Nat.le_of_ble_eq_true rfl) (Nat.le_of_ble_eq_true rfl)
/-! X10_writeShare -/
theorem hd_X10_writeShare : yX10_writeShare.cls ≠ "java/lang/invoke/MethodHandle" ∧ yX10_writeShare.cls ≠ "java/lang/invoke/VarHandle" ∧ (parseMethodDescriptor yX10_writeShare.desc).map (fun d => d.parameters.length) = some 3 := by decide +kernel
def F_X10_writeShare (ml : Int32) (n : Int32) (cap : Nat) (bs : Nat → Int32) (p0 : Int32) (p1 : Int32) (p2 : Int32) : Option (Int32 × Int32 × Nat × (Nat → Int32)) := (F_J4_setLength_d00df ml n cap bs 0).bind fun v1 => (F_J4_append_bf812 v1.2.1 v1.2.2.1 v1.2.2.2 p0).bind fun v4 => (F_J4_append_cf468 v4.1 v4.2.1 v4.2.2 58).bind fun v7 => (F_J4_append_bf812 v7.1 v7.2.1 v7.2.2 p1).bind fun v10 => (F_J4_append_cf468 v10.1 v10.2.1 v10.2.2 64).bind fun v13 => (F_J4_append_bf812 v13.1 v13.2.1 v13.2.2 p2).bind fun v16 => (F_J4_append_cf468 v16.1 v16.2.1 v16.2.2 35).bind fun v19 => (F_X2_checkDigit p0 p1 p2).bind fun v22 => (F_J4_append_bf812 v19.1 v19.2.1 v19.2.2 v22).bind fun v24 => some (v1.1, v24.1, v24.2.1, v24.2.2)
set_option maxRecDepth 100000 in
set_option maxHeartbeats 4000000 in
theorem c_X10_writeShare {l : Launch} {D : va_G} {cy : Nat → ClassId} {v : Nat → Nat} {sb sy : Nat} {nw : Nat} {kp : Nat} {ak : Int32} {bf : Nat} {fa : Int32} {fl : Nat} {co : Nat → Int32} {ch : Nat → Int32} {gs : Nat → Int32} {op : Nat → Int32} {ml : Int32} {n : Int32} {cap : Nat} {bs : Nat → Int32} {p0 : Int32} {p1 : Int32} {p2 : Int32}  {val : Int32 × Int32 × Nat × (Nat → Int32)} (hf : F_X10_writeShare ml n cap bs p0 p1 p2 = some val) : gCt l D cy yX10_writeShare cX10_writeShare 4 none 6 135 8 640 [.ref (v 0), .int p0, .int p1, .int p2] [] ((wV cy v nw kp ak bf fa fl sb co ch gs op) ++ (wSb cy sb sy ml n cap bs)) 0 (fun u : Nat => none) (fun u => (wV cy v nw kp ak bf fa fl sb co ch gs op) ++ (wSb cy sb u val.1 val.2.1 val.2.2.1 val.2.2.2)) := by
  refine g_begin (by decide +kernel) (Nat.le_of_ble_eq_true rfl) ?_
  intro X Q hl hR hD hy hro hn C hin E
  subst hl; subst hD; subst hy
  replace C : gC X "SecretVault" cX10_writeShare none := C
  unfold F_X10_writeShare at hf
  show gW X Q 0 0 ((wV (x_y X) v nw kp ak bf fa fl sb co ch gs op) ++ (wSb (x_y X) sb sy ml n cap bs)) [(0, .ref (v 0)), (1, .int p0), (2, .int p1), (3, .int p2)] [] 0
  refine g_aload_n C 0 dX10_writeShare_0 rfl ?_
  refine g_get C 0 10 rfl rfl wiX10 (by decide) mw_1_181 rfl rfl dX10_writeShare_1 ?_
  refine g_iconst C (v := 0) dX10_writeShare_4 (by decide) ?_
  obtain ⟨v1, h2, hf⟩ := opt_bind hf
  refine g_callV C (c_J4_setLength_d00df (l := x_l X) (D := x_D X) (cy := x_y X) (sb := sb) (sy := sy) (ml := ml) (n := n) (cap := cap) (bs := bs) (p0 := 0) h2) (As := [.int 0]) (rest := []) (wr := (wV (x_y X) v nw kp ak bf fa fl sb co ch gs op)) (ws' := fun u3 => (wV (x_y X) v nw kp ak bf fa fl sb co ch gs op) ++ (wSb (x_y X) sb u3 v1.1 v1.2.1 v1.2.2.1 v1.2.2.2)) (st' := fun u3 => []) (ci := 1) 1 5 ⟨_, rfl⟩ rfl rfl mw_3_227 mw_1_5 mw_3_224 mw_3_225 mw_3_226 hd_J4_setLength_d00df rfl (g_rm hR rfl rfl) [5, 6] [0, 1, 2, 3, 4] [0, 1, 2, 3, 4, 5, 6] ⟨rfl, rfl, rfl, rfl, by decide, gRoIn_0, rfl, fun _ => rfl⟩ rfl (Nat.le_of_ble_eq_true rfl) dX10_writeShare_5 (g_rc hR (Nat.le_of_ble_eq_true rfl) (Nat.le_of_ble_eq_true rfl)) (ck' := 1) (sk' := 80) rfl rfl (fun _ => rfl) (fun u3 _ => ?_) (fun _ hx => absurd rfl hx)
  refine g_aload_n C 0 dX10_writeShare_8 rfl ?_
  refine g_get C 0 10 rfl rfl wiX10 (by decide) mw_1_181 rfl rfl dX10_writeShare_9 ?_
  refine g_iload_n C 1 dX10_writeShare_12 rfl ?_
  obtain ⟨v4, h5, hf⟩ := opt_bind hf
  refine g_callV C (c_J4_append_bf812 (l := x_l X) (D := x_D X) (cy := x_y X) (sb := sb) (sy := u3) (ml := v1.1) (n := v1.2.1) (cap := v1.2.2.1) (bs := v1.2.2.2) (p0 := p0) h5) (As := [.int p0]) (rest := []) (wr := (wV (x_y X) v nw kp ak bf fa fl sb co ch gs op)) (ws' := fun u6 => (wV (x_y X) v nw kp ak bf fa fl sb co ch gs op) ++ (wSb (x_y X) sb u6 v1.1 v4.1 v4.2.1 v4.2.2)) (st' := fun u6 => [.ref sb]) (ci := 1) 1 5 ⟨_, rfl⟩ rfl rfl mw_4_118 mw_1_5 mw_4_237 mw_4_116 mw_4_117 hd_J4_append_bf812 rfl (g_rm hR rfl rfl) [5, 6] [0, 1, 2, 3, 4] [0, 1, 2, 3, 4, 5, 6] ⟨rfl, rfl, rfl, rfl, by decide, gRoIn_0, rfl, fun _ => rfl⟩ rfl (Nat.le_of_ble_eq_true rfl) dX10_writeShare_13 (g_rc hR (Nat.le_of_ble_eq_true rfl) (Nat.le_of_ble_eq_true rfl)) (ck' := 2) (sk' := 160) rfl rfl (fun _ => rfl) (fun u6 _ => ?_) (fun _ hx => absurd rfl hx)
  refine g_bipush C (v := 58) dX10_writeShare_16 (by decide) ?_
  obtain ⟨v7, h8, hf⟩ := opt_bind hf
  refine g_callV C (c_J4_append_cf468 (l := x_l X) (D := x_D X) (cy := x_y X) (sb := sb) (sy := u6) (ml := v1.1) (n := v4.1) (cap := v4.2.1) (bs := v4.2.2) (p0 := 58) h8) (As := [.int 58]) (rest := []) (wr := (wV (x_y X) v nw kp ak bf fa fl sb co ch gs op)) (ws' := fun u9 => (wV (x_y X) v nw kp ak bf fa fl sb co ch gs op) ++ (wSb (x_y X) sb u9 v1.1 v7.1 v7.2.1 v7.2.2)) (st' := fun u9 => [.ref sb]) (ci := 1) 1 5 ⟨_, rfl⟩ rfl rfl mw_5_1 mw_1_5 mw_4_238 mw_4_239 mw_5_0 hd_J4_append_cf468 rfl (g_rm hR rfl rfl) [5, 6] [0, 1, 2, 3, 4] [0, 1, 2, 3, 4, 5, 6] ⟨rfl, rfl, rfl, rfl, by decide, gRoIn_0, rfl, fun _ => rfl⟩ rfl (Nat.le_of_ble_eq_true rfl) dX10_writeShare_18 (g_rc hR (Nat.le_of_ble_eq_true rfl) (Nat.le_of_ble_eq_true rfl)) (ck' := 3) (sk' := 240) rfl rfl (fun _ => rfl) (fun u9 _ => ?_) (fun _ hx => absurd rfl hx)
  refine g_iload_n C 2 dX10_writeShare_21 rfl ?_
  obtain ⟨v10, h11, hf⟩ := opt_bind hf
  refine g_callV C (c_J4_append_bf812 (l := x_l X) (D := x_D X) (cy := x_y X) (sb := sb) (sy := u9) (ml := v1.1) (n := v7.1) (cap := v7.2.1) (bs := v7.2.2) (p0 := p1) h11) (As := [.int p1]) (rest := []) (wr := (wV (x_y X) v nw kp ak bf fa fl sb co ch gs op)) (ws' := fun u12 => (wV (x_y X) v nw kp ak bf fa fl sb co ch gs op) ++ (wSb (x_y X) sb u12 v1.1 v10.1 v10.2.1 v10.2.2)) (st' := fun u12 => [.ref sb]) (ci := 1) 1 5 ⟨_, rfl⟩ rfl rfl mw_4_118 mw_1_5 mw_4_237 mw_4_116 mw_4_117 hd_J4_append_bf812 rfl (g_rm hR rfl rfl) [5, 6] [0, 1, 2, 3, 4] [0, 1, 2, 3, 4, 5, 6] ⟨rfl, rfl, rfl, rfl, by decide, gRoIn_0, rfl, fun _ => rfl⟩ rfl (Nat.le_of_ble_eq_true rfl) dX10_writeShare_22 (g_rc hR (Nat.le_of_ble_eq_true rfl) (Nat.le_of_ble_eq_true rfl)) (ck' := 4) (sk' := 320) rfl rfl (fun _ => rfl) (fun u12 _ => ?_) (fun _ hx => absurd rfl hx)
  refine g_bipush C (v := 64) dX10_writeShare_25 (by decide) ?_
  obtain ⟨v13, h14, hf⟩ := opt_bind hf
  refine g_callV C (c_J4_append_cf468 (l := x_l X) (D := x_D X) (cy := x_y X) (sb := sb) (sy := u12) (ml := v1.1) (n := v10.1) (cap := v10.2.1) (bs := v10.2.2) (p0 := 64) h14) (As := [.int 64]) (rest := []) (wr := (wV (x_y X) v nw kp ak bf fa fl sb co ch gs op)) (ws' := fun u15 => (wV (x_y X) v nw kp ak bf fa fl sb co ch gs op) ++ (wSb (x_y X) sb u15 v1.1 v13.1 v13.2.1 v13.2.2)) (st' := fun u15 => [.ref sb]) (ci := 1) 1 5 ⟨_, rfl⟩ rfl rfl mw_5_1 mw_1_5 mw_4_238 mw_4_239 mw_5_0 hd_J4_append_cf468 rfl (g_rm hR rfl rfl) [5, 6] [0, 1, 2, 3, 4] [0, 1, 2, 3, 4, 5, 6] ⟨rfl, rfl, rfl, rfl, by decide, gRoIn_0, rfl, fun _ => rfl⟩ rfl (Nat.le_of_ble_eq_true rfl) dX10_writeShare_27 (g_rc hR (Nat.le_of_ble_eq_true rfl) (Nat.le_of_ble_eq_true rfl)) (ck' := 5) (sk' := 400) rfl rfl (fun _ => rfl) (fun u15 _ => ?_) (fun _ hx => absurd rfl hx)
  refine g_iload_n C 3 dX10_writeShare_30 rfl ?_
  obtain ⟨v16, h17, hf⟩ := opt_bind hf
  refine g_callV C (c_J4_append_bf812 (l := x_l X) (D := x_D X) (cy := x_y X) (sb := sb) (sy := u15) (ml := v1.1) (n := v13.1) (cap := v13.2.1) (bs := v13.2.2) (p0 := p2) h17) (As := [.int p2]) (rest := []) (wr := (wV (x_y X) v nw kp ak bf fa fl sb co ch gs op)) (ws' := fun u18 => (wV (x_y X) v nw kp ak bf fa fl sb co ch gs op) ++ (wSb (x_y X) sb u18 v1.1 v16.1 v16.2.1 v16.2.2)) (st' := fun u18 => [.ref sb]) (ci := 1) 1 5 ⟨_, rfl⟩ rfl rfl mw_4_118 mw_1_5 mw_4_237 mw_4_116 mw_4_117 hd_J4_append_bf812 rfl (g_rm hR rfl rfl) [5, 6] [0, 1, 2, 3, 4] [0, 1, 2, 3, 4, 5, 6] ⟨rfl, rfl, rfl, rfl, by decide, gRoIn_0, rfl, fun _ => rfl⟩ rfl (Nat.le_of_ble_eq_true rfl) dX10_writeShare_31 (g_rc hR (Nat.le_of_ble_eq_true rfl) (Nat.le_of_ble_eq_true rfl)) (ck' := 6) (sk' := 480) rfl rfl (fun _ => rfl) (fun u18 _ => ?_) (fun _ hx => absurd rfl hx)
  refine g_bipush C (v := 35) dX10_writeShare_34 (by decide) ?_
  obtain ⟨v19, h20, hf⟩ := opt_bind hf
  refine g_callV C (c_J4_append_cf468 (l := x_l X) (D := x_D X) (cy := x_y X) (sb := sb) (sy := u18) (ml := v1.1) (n := v16.1) (cap := v16.2.1) (bs := v16.2.2) (p0 := 35) h20) (As := [.int 35]) (rest := []) (wr := (wV (x_y X) v nw kp ak bf fa fl sb co ch gs op)) (ws' := fun u21 => (wV (x_y X) v nw kp ak bf fa fl sb co ch gs op) ++ (wSb (x_y X) sb u21 v1.1 v19.1 v19.2.1 v19.2.2)) (st' := fun u21 => [.ref sb]) (ci := 1) 1 5 ⟨_, rfl⟩ rfl rfl mw_5_1 mw_1_5 mw_4_238 mw_4_239 mw_5_0 hd_J4_append_cf468 rfl (g_rm hR rfl rfl) [5, 6] [0, 1, 2, 3, 4] [0, 1, 2, 3, 4, 5, 6] ⟨rfl, rfl, rfl, rfl, by decide, gRoIn_0, rfl, fun _ => rfl⟩ rfl (Nat.le_of_ble_eq_true rfl) dX10_writeShare_36 (g_rc hR (Nat.le_of_ble_eq_true rfl) (Nat.le_of_ble_eq_true rfl)) (ck' := 7) (sk' := 560) rfl rfl (fun _ => rfl) (fun u21 _ => ?_) (fun _ hx => absurd rfl hx)
  refine g_pop C dX10_writeShare_39 rfl ?_
  refine g_aload_n C 0 dX10_writeShare_40 rfl ?_
  refine g_get C 0 10 rfl rfl wiX10 (by decide) mw_1_181 rfl rfl dX10_writeShare_41 ?_
  refine g_iload_n C 1 dX10_writeShare_44 rfl ?_
  refine g_iload_n C 2 dX10_writeShare_45 rfl ?_
  refine g_iload_n C 3 dX10_writeShare_46 rfl ?_
  obtain ⟨v22, h23, hf⟩ := opt_bind hf
  refine g_callS C (c_X2_checkDigit (l := x_l X) (D := x_D X) (cy := x_y X) (p0 := p0) (p1 := p1) (p2 := p2) h23) (As := [.int p0, .int p1, .int p2]) (rest := [.ref sb]) (wr := (wV (x_y X) v nw kp ak bf fa fl sb co ch gs op) ++ (wSb (x_y X) sb u21 v1.1 v19.1 v19.2.1 v19.2.2)) (ws' := fun _ => (wV (x_y X) v nw kp ak bf fa fl sb co ch gs op) ++ (wSb (x_y X) sb u21 v1.1 v19.1 v19.2.1 v19.2.2)) (st' := fun _ => [.int v22, .ref sb]) 3 mw_5_22 mw_1_16 mw_5_20 mw_5_21 hd_X2_checkDigit rfl (g_rm hR rfl rfl) [] [0, 1, 2, 3, 4, 5, 6] [0, 1, 2, 3, 4, 5, 6] ⟨rfl, rfl, rfl, rfl, by decide, gRoIn_0, rfl, fun _ => rfl⟩ rfl (Nat.le_of_ble_eq_true rfl) dX10_writeShare_47 (g_rc hR (Nat.le_of_ble_eq_true rfl) (Nat.le_of_ble_eq_true rfl)) (ck' := 7) (sk' := 560) rfl rfl (fun _ => rfl) (fun _ _ => ?_) (fun _ hx => absurd rfl hx)
  obtain ⟨v24, h25, hf⟩ := opt_bind hf
  refine g_callV C (c_J4_append_bf812 (l := x_l X) (D := x_D X) (cy := x_y X) (sb := sb) (sy := u21) (ml := v1.1) (n := v19.1) (cap := v19.2.1) (bs := v19.2.2) (p0 := v22) h25) (As := [.int v22]) (rest := []) (wr := (wV (x_y X) v nw kp ak bf fa fl sb co ch gs op)) (ws' := fun u26 => (wV (x_y X) v nw kp ak bf fa fl sb co ch gs op) ++ (wSb (x_y X) sb u26 v1.1 v24.1 v24.2.1 v24.2.2)) (st' := fun u26 => [.ref sb]) (ci := 1) 1 5 ⟨_, rfl⟩ rfl rfl mw_4_118 mw_1_5 mw_4_237 mw_4_116 mw_4_117 hd_J4_append_bf812 rfl (g_rm hR rfl rfl) [5, 6] [0, 1, 2, 3, 4] [0, 1, 2, 3, 4, 5, 6] ⟨rfl, rfl, rfl, rfl, by decide, gRoIn_0, rfl, fun _ => rfl⟩ rfl (Nat.le_of_ble_eq_true rfl) dX10_writeShare_50 (g_rc hR (Nat.le_of_ble_eq_true rfl) (Nat.le_of_ble_eq_true rfl)) (ck' := 8) (sk' := 640) rfl rfl (fun _ => rfl) (fun u26 _ => ?_) (fun _ hx => absurd rfl hx)
  refine g_pop C dX10_writeShare_53 rfl ?_
  refine g_eqw (ws' := (wV (x_y X) v nw kp ak bf fa fl sb co ch gs op) ++ (wSb (x_y X) sb u26 v1.1 v24.1 v24.2.1 v24.2.2)) rfl ?_
  obtain rfl := Option.some.inj hf
  exact g_vret C E u26 dX10_writeShare_54 rfl rfl rfl (Nat.le_of_ble_eq_true rfl) (Nat.le_of_ble_eq_true rfl)
/-! X10_shareText -/
theorem hd_X10_shareText : yX10_shareText.cls ≠ "java/lang/invoke/MethodHandle" ∧ yX10_shareText.cls ≠ "java/lang/invoke/VarHandle" ∧ (parseMethodDescriptor yX10_shareText.desc).map (fun d => d.parameters.length) = some 3 := by decide +kernel
def F_X10_shareText_L82   (ml_82 : Int32) (n_82 : Int32) (cap_82 : Nat) (bs_82 : Nat → Int32) (s0_82 : Int32) : Option (Nat × Int32 × Int32 × Int32 × Nat × (Nat → Int32)) := some (0, s0_82, ml_82, n_82, cap_82, bs_82)
def F_X10_shareText (c_filled : Int32) (c_vs : Nat → Int32) (c_es : Nat → Int32) (ml : Int32) (n : Int32) (cap : Nat) (bs : Nat → Int32) (p0 : Int32) (p1 : Int32) (p2 : Int32) : Option (Nat × Int32 × Int32 × Int32 × Nat × (Nat → Int32)) := (F_X10_checkSlot p0).bind fun v1 => if v1 = 0 then ((F_X10_checkPlace p1).bind fun v3 => if v3 = 0 then ((F_X10_checkTextIndex p2).bind fun v5 => if v5 = 0 then ((F_X10_secretWithShare c_filled c_es p0 p1).bind fun v7 => if v7 = 0 then (gg (gi p1 25) (gg (gi p1 25) ((F_X10_writeShare ml n cap bs p1 (c_vs (Int32.toNatClampNeg p1)) (c_es (Int32.toNatClampNeg p1))).bind fun v11 => (F_J4_length_8abf5 v11.2.1).bind fun v14 => if p2 < v14 then (if 0 ≤ p2 then ((F_J4_charAt_5068e v11.2.1 v11.2.2.1 v11.2.2.2 p2).bind fun v18 => F_X10_shareText_L82 v11.1 v11.2.1 v11.2.2.1 v11.2.2.2 v18) else ((F_J4_length_8abf5 v11.2.1).bind fun v20 => F_X10_shareText_L82 v11.1 v11.2.1 v11.2.2.1 v11.2.2.2 v20)) else (some (3, 0, v11.1, v11.2.1, v11.2.2.1, v11.2.2.2))))) else some (v7, 0, ml, n, cap, bs)) else some (v5, 0, ml, n, cap, bs)) else some (v3, 0, ml, n, cap, bs)) else some (v1, 0, ml, n, cap, bs)
set_option maxRecDepth 100000 in
set_option maxHeartbeats 4000000 in
theorem c_X10_shareText {l : Launch} {D : va_G} {cy : Nat → ClassId} {v : Nat → Nat} {b : Nat → Nat} {c : Nat → Nat} {sb sy : Nat} {kp : Nat} {ak : Int32} {bf : Nat} {fa : Int32} {fl : Nat} {co : Nat → Int32} {ch : Nat → Int32} {gs : Nat → Int32} {op : Nat → Int32} {z : Int32} {pr : Int32} {le : Int32} {ec : Int32} {wt : Nat → Int32} {sa : Nat → Option Nat} {ev : Nat → Int32} {c_filled : Int32} {c_th : Int32} {c_ep : Int32} {c_rule : Option Nat} {c_cm : Nat → Int32} {c_vs : Nat → Int32} {c_es : Nat → Int32} {ml : Int32} {n : Int32} {cap : Nat} {bs : Nat → Int32} {p0 : Int32} {p1 : Int32} {p2 : Int32} (hs : gi p0 4 = true → sa (Int32.toNatClampNeg p0) = some (c 0)) {val : Nat × Int32 × Int32 × Int32 × Nat × (Nat → Int32)} (hf : F_X10_shareText c_filled c_vs c_es ml n cap bs p0 p1 p2 = some val) : gCt l D cy yX10_shareText cX10_shareText 5 (some .int) 8 158 14 676 [.ref (v 0), .int p0, .int p1, .int p2] [] ((wV cy v (b 0) kp ak bf fa fl sb co ch gs op) ++ (wSt cy b z pr le ec wt sa ev) ++ (wSec cy c c_filled c_th c_ep c_rule c_cm c_vs c_es) ++ (wSb cy sb sy ml n cap bs)) val.1 (fun u : Nat => some (.int val.2.1)) (fun u => (wV cy v (b 0) kp ak bf fa fl sb co ch gs op) ++ (wSt cy b z pr le ec wt sa ev) ++ (wSec cy c c_filled c_th c_ep c_rule c_cm c_vs c_es) ++ (wSb cy sb u val.2.2.1 val.2.2.2.1 val.2.2.2.2.1 val.2.2.2.2.2)) := by
  refine g_begin (by decide +kernel) (Nat.le_of_ble_eq_true rfl) ?_
  intro X Q hl hR hD hy hro hn C hin E
  subst hl; subst hD; subst hy
  replace C : gC X "SecretVault" cX10_shareText (some .int) := C
  unfold F_X10_shareText at hf
  have H82 : ∀ (a3_1_82 : Nat) (ml_82 : Int32) (n_82 : Int32) (cap_82 : Nat) (bs_82 : Nat → Int32) (s0_82 : Int32), F_X10_shareText_L82 ml_82 n_82 cap_82 bs_82 s0_82 = some val → gW X Q 13 670 ((wV (x_y X) v (b 0) kp ak bf fa fl sb co ch gs op) ++ (wSt (x_y X) b z pr le ec wt sa ev) ++ (wSec (x_y X) c c_filled c_th c_ep c_rule c_cm c_vs c_es) ++ (wSb (x_y X) sb a3_1_82 ml_82 n_82 cap_82 bs_82)) [(0, .ref (v 0)), (1, .int p0), (2, .int p1), (3, .int p2)] [.int s0_82] 82 := by
    intro a3_1_82 ml_82 n_82 cap_82 bs_82 s0_82 hf
    unfold F_X10_shareText_L82 at hf
    refine g_eqw (ws' := (wV (x_y X) v (b 0) kp ak bf fa fl sb co ch gs op) ++ (wSt (x_y X) b z pr le ec wt sa ev) ++ (wSec (x_y X) c c_filled c_th c_ep c_rule c_cm c_vs c_es) ++ (wSb (x_y X) sb a3_1_82 ml_82 n_82 cap_82 bs_82)) rfl ?_
    obtain rfl := Option.some.inj hf
    exact g_iret C E a3_1_82 dX10_shareText_82 rfl rfl rfl (Nat.le_of_ble_eq_true rfl) (Nat.le_of_ble_eq_true rfl)
  show gW X Q 0 0 ((wV (x_y X) v (b 0) kp ak bf fa fl sb co ch gs op) ++ (wSt (x_y X) b z pr le ec wt sa ev) ++ (wSec (x_y X) c c_filled c_th c_ep c_rule c_cm c_vs c_es) ++ (wSb (x_y X) sb sy ml n cap bs)) [(0, .ref (v 0)), (1, .int p0), (2, .int p1), (3, .int p2)] [] 0
  refine g_iload_n C 1 dX10_shareText_0 rfl ?_
  obtain ⟨v1, h2, hf⟩ := opt_bind hf
  refine g_callS C (c_X10_checkSlot (l := x_l X) (D := x_D X) (cy := x_y X) (p0 := p0) h2) (As := [.int p0]) (rest := []) (wr := (wV (x_y X) v (b 0) kp ak bf fa fl sb co ch gs op) ++ (wSt (x_y X) b z pr le ec wt sa ev) ++ (wSec (x_y X) c c_filled c_th c_ep c_rule c_cm c_vs c_es) ++ (wSb (x_y X) sb sy ml n cap bs)) (ws' := fun _ => (wV (x_y X) v (b 0) kp ak bf fa fl sb co ch gs op) ++ (wSt (x_y X) b z pr le ec wt sa ev) ++ (wSec (x_y X) c c_filled c_th c_ep c_rule c_cm c_vs c_es) ++ (wSb (x_y X) sb sy ml n cap bs)) (st' := fun _ => []) 1 mw_2_189 mw_1_1 mw_2_187 mw_2_188 hd_X10_checkSlot rfl (g_rm hR rfl rfl) [] [0, 1, 2, 3, 4, 5, 6, 7, 8, 9, 10, 11, 12, 13, 14] [0, 1, 2, 3, 4, 5, 6, 7, 8, 9, 10, 11, 12, 13, 14] ⟨rfl, rfl, rfl, rfl, by decide, gRoIn_0, rfl, fun _ => rfl⟩ rfl (Nat.le_of_ble_eq_true rfl) dX10_shareText_1 (g_rc hR (Nat.le_of_ble_eq_true rfl) (Nat.le_of_ble_eq_true rfl)) (ck' := 1) (sk' := 6) rfl rfl (fun _ => rfl) (fun _ ev1 => ?_) (fun _ ev1 => ?_)
  rotate_left
  · have hf := opt_neg ev1 hf
    refine g_subV [0, 1, 2, 3, 4, 5, 6, 7, 8, 9, 10, 11, 12, 13, 14] (ws' := (wV (x_y X) v (b 0) kp ak bf fa fl sb co ch gs op) ++ (wSt (x_y X) b z pr le ec wt sa ev) ++ (wSec (x_y X) c c_filled c_th c_ep c_rule c_cm c_vs c_es) ++ (wSb (x_y X) sb sy ml n cap bs)) (by decide) rfl ?_
    obtain rfl := Option.some.inj hf
    exact g_out E sy rfl ev1 rfl (Nat.le_of_ble_eq_true rfl) (Nat.le_of_ble_eq_true rfl)
  have hf := opt_pos ev1 hf
  refine g_iload_n C 2 dX10_shareText_4 rfl ?_
  obtain ⟨v3, h4, hf⟩ := opt_bind hf
  refine g_callS C (c_X10_checkPlace (l := x_l X) (D := x_D X) (cy := x_y X) (p0 := p1) h4) (As := [.int p1]) (rest := []) (wr := (wV (x_y X) v (b 0) kp ak bf fa fl sb co ch gs op) ++ (wSt (x_y X) b z pr le ec wt sa ev) ++ (wSec (x_y X) c c_filled c_th c_ep c_rule c_cm c_vs c_es) ++ (wSb (x_y X) sb sy ml n cap bs)) (ws' := fun _ => (wV (x_y X) v (b 0) kp ak bf fa fl sb co ch gs op) ++ (wSt (x_y X) b z pr le ec wt sa ev) ++ (wSec (x_y X) c c_filled c_th c_ep c_rule c_cm c_vs c_es) ++ (wSb (x_y X) sb sy ml n cap bs)) (st' := fun _ => []) 1 mw_3_195 mw_1_1 mw_3_193 mw_3_194 hd_X10_checkPlace rfl (g_rm hR rfl rfl) [] [0, 1, 2, 3, 4, 5, 6, 7, 8, 9, 10, 11, 12, 13, 14] [0, 1, 2, 3, 4, 5, 6, 7, 8, 9, 10, 11, 12, 13, 14] ⟨rfl, rfl, rfl, rfl, by decide, gRoIn_0, rfl, fun _ => rfl⟩ rfl (Nat.le_of_ble_eq_true rfl) dX10_shareText_5 (g_rc hR (Nat.le_of_ble_eq_true rfl) (Nat.le_of_ble_eq_true rfl)) (ck' := 2) (sk' := 12) rfl rfl (fun _ => rfl) (fun _ ev3 => ?_) (fun _ ev3 => ?_)
  rotate_left
  · have hf := opt_neg ev3 hf
    refine g_subV [0, 1, 2, 3, 4, 5, 6, 7, 8, 9, 10, 11, 12, 13, 14] (ws' := (wV (x_y X) v (b 0) kp ak bf fa fl sb co ch gs op) ++ (wSt (x_y X) b z pr le ec wt sa ev) ++ (wSec (x_y X) c c_filled c_th c_ep c_rule c_cm c_vs c_es) ++ (wSb (x_y X) sb sy ml n cap bs)) (by decide) rfl ?_
    obtain rfl := Option.some.inj hf
    exact g_out E sy rfl ev3 rfl (Nat.le_of_ble_eq_true rfl) (Nat.le_of_ble_eq_true rfl)
  have hf := opt_pos ev3 hf
  refine g_iload_n C 3 dX10_shareText_8 rfl ?_
  obtain ⟨v5, h6, hf⟩ := opt_bind hf
  refine g_callS C (c_X10_checkTextIndex (l := x_l X) (D := x_D X) (cy := x_y X) (p0 := p2) h6) (As := [.int p2]) (rest := []) (wr := (wV (x_y X) v (b 0) kp ak bf fa fl sb co ch gs op) ++ (wSt (x_y X) b z pr le ec wt sa ev) ++ (wSec (x_y X) c c_filled c_th c_ep c_rule c_cm c_vs c_es) ++ (wSb (x_y X) sb sy ml n cap bs)) (ws' := fun _ => (wV (x_y X) v (b 0) kp ak bf fa fl sb co ch gs op) ++ (wSt (x_y X) b z pr le ec wt sa ev) ++ (wSec (x_y X) c c_filled c_th c_ep c_rule c_cm c_vs c_es) ++ (wSb (x_y X) sb sy ml n cap bs)) (st' := fun _ => []) 1 mw_3_218 mw_1_1 mw_3_216 mw_3_217 hd_X10_checkTextIndex rfl (g_rm hR rfl rfl) [] [0, 1, 2, 3, 4, 5, 6, 7, 8, 9, 10, 11, 12, 13, 14] [0, 1, 2, 3, 4, 5, 6, 7, 8, 9, 10, 11, 12, 13, 14] ⟨rfl, rfl, rfl, rfl, by decide, gRoIn_0, rfl, fun _ => rfl⟩ rfl (Nat.le_of_ble_eq_true rfl) dX10_shareText_9 (g_rc hR (Nat.le_of_ble_eq_true rfl) (Nat.le_of_ble_eq_true rfl)) (ck' := 3) (sk' := 18) rfl rfl (fun _ => rfl) (fun _ ev5 => ?_) (fun _ ev5 => ?_)
  rotate_left
  · have hf := opt_neg ev5 hf
    refine g_subV [0, 1, 2, 3, 4, 5, 6, 7, 8, 9, 10, 11, 12, 13, 14] (ws' := (wV (x_y X) v (b 0) kp ak bf fa fl sb co ch gs op) ++ (wSt (x_y X) b z pr le ec wt sa ev) ++ (wSec (x_y X) c c_filled c_th c_ep c_rule c_cm c_vs c_es) ++ (wSb (x_y X) sb sy ml n cap bs)) (by decide) rfl ?_
    obtain rfl := Option.some.inj hf
    exact g_out E sy rfl ev5 rfl (Nat.le_of_ble_eq_true rfl) (Nat.le_of_ble_eq_true rfl)
  have hf := opt_pos ev5 hf
  refine g_aload_n C 0 dX10_shareText_12 rfl ?_
  refine g_iload_n C 1 dX10_shareText_13 rfl ?_
  refine g_iload_n C 2 dX10_shareText_14 rfl ?_
  obtain ⟨v7, h8, hf⟩ := opt_bind hf
  refine g_callV C (c_X10_secretWithShare (l := x_l X) (D := x_D X) (cy := x_y X) (v := v) (b := b) (c := c) (kp := kp) (ak := ak) (bf := bf) (fa := fa) (fl := fl) (ln := sb) (co := co) (ch := ch) (gs := gs) (op := op) (z := z) (pr := pr) (le := le) (ec := ec) (wt := wt) (sa := sa) (ev := ev) (c_filled := c_filled) (c_th := c_th) (c_ep := c_ep) (c_rule := c_rule) (c_cm := c_cm) (c_vs := c_vs) (c_es := c_es) (p0 := p0) (p1 := p1) (hs := hs) h8) (As := [.int p0, .int p1]) (rest := []) (wr := (wSb (x_y X) sb sy ml n cap bs)) (ws' := fun _ => (wV (x_y X) v (b 0) kp ak bf fa fl sb co ch gs op) ++ (wSt (x_y X) b z pr le ec wt sa ev) ++ (wSec (x_y X) c c_filled c_th c_ep c_rule c_cm c_vs c_es) ++ (wSb (x_y X) sb sy ml n cap bs)) (st' := fun _ => [.ref (c 0)]) (ci := 11) 2 0 ⟨_, rfl⟩ rfl rfl mw_3_200 mw_1_1 mw_3_197 mw_3_199 mp_10 hd_X10_secretWithShare rfl (g_rm hR rfl rfl) [0, 1, 2, 3, 4, 5, 6, 7, 8, 9, 10, 11, 12] [13, 14] [2, 3, 4, 5, 6, 7, 8, 9, 10, 11, 12, 13, 14, 0, 1] ⟨rfl, rfl, rfl, rfl, by decide, gRoIn_0, rfl, fun _ => rfl⟩ rfl (Nat.le_of_ble_eq_true rfl) dX10_shareText_15 (g_rc hR (Nat.le_of_ble_eq_true rfl) (Nat.le_of_ble_eq_true rfl)) (ck' := 5) (sk' := 30) rfl rfl (fun _ => rfl) (fun _ ev7 => ?_) (fun _ ev7 => ?_)
  rotate_left
  · have hf := opt_neg ev7 hf
    refine g_subV [0, 1, 2, 3, 4, 5, 6, 7, 8, 9, 10, 11, 12, 13, 14] (ws' := (wV (x_y X) v (b 0) kp ak bf fa fl sb co ch gs op) ++ (wSt (x_y X) b z pr le ec wt sa ev) ++ (wSec (x_y X) c c_filled c_th c_ep c_rule c_cm c_vs c_es) ++ (wSb (x_y X) sb sy ml n cap bs)) (by decide) rfl ?_
    obtain rfl := Option.some.inj hf
    exact g_out E sy rfl ev7 rfl (Nat.le_of_ble_eq_true rfl) (Nat.le_of_ble_eq_true rfl)
  have hf := opt_pos ev7 hf
  refine g_astore C (lv' := [(4, .ref (c 0)), (0, .ref (v 0)), (1, .int p0), (2, .int p1), (3, .int p2)]) dX10_shareText_18 (g_nlt hn rfl) rfl ?_
  refine g_aload_n C 1 dX10_shareText_20 rfl ?_
  refine g_iload_n C 3 dX10_shareText_21 rfl ?_
  refine g_aload C 0 dX10_shareText_22 rfl ?_
  refine g_get C 9 5 rfl rfl wiX7 (by decide) mw_1_71 rfl rfl dX10_shareText_24 ?_
  refine g_iload_n C 3 dX10_shareText_27 rfl ?_
  obtain ⟨c9, hf⟩ := gg_of hf
  refine g_iald C 11 rfl (gi_in c9) dX10_shareText_28 ?_
  refine g_aload C 0 dX10_shareText_29 rfl ?_
  refine g_get C 9 6 rfl rfl wiX7 (by decide) mw_1_73 rfl rfl dX10_shareText_31 ?_
  refine g_iload_n C 3 dX10_shareText_34 rfl ?_
  obtain ⟨c10, hf⟩ := gg_of hf
  refine g_iald C 12 rfl (gi_in c10) dX10_shareText_35 ?_
  obtain ⟨v11, h12, hf⟩ := opt_bind hf
  refine g_callV C (c_X10_writeShare (l := x_l X) (D := x_D X) (cy := x_y X) (v := v) (sb := sb) (sy := sy) (nw := (b 0)) (kp := kp) (ak := ak) (bf := bf) (fa := fa) (fl := fl) (co := co) (ch := ch) (gs := gs) (op := op) (ml := ml) (n := n) (cap := cap) (bs := bs) (p0 := p1) (p1 := c_vs (Int32.toNatClampNeg p1)) (p2 := c_es (Int32.toNatClampNeg p1)) h12) (As := [.int p1, .int (c_vs (Int32.toNatClampNeg p1)), .int (c_es (Int32.toNatClampNeg p1))]) (rest := []) (wr := (wSt (x_y X) b z pr le ec wt sa ev) ++ (wSec (x_y X) c c_filled c_th c_ep c_rule c_cm c_vs c_es)) (ws' := fun u13 => (wV (x_y X) v (b 0) kp ak bf fa fl sb co ch gs op) ++ (wSt (x_y X) b z pr le ec wt sa ev) ++ (wSec (x_y X) c c_filled c_th c_ep c_rule c_cm c_vs c_es) ++ (wSb (x_y X) sb u13 v11.1 v11.2.1 v11.2.2.1 v11.2.2.2)) (st' := fun u13 => []) (ci := 11) 3 0 ⟨_, rfl⟩ rfl rfl mw_3_223 mw_1_1 mw_3_220 mw_3_222 mp_11 hd_X10_writeShare rfl (g_rm hR rfl rfl) [0, 1, 2, 3, 4, 13, 14] [5, 6, 7, 8, 9, 10, 11, 12] [8, 9, 10, 11, 12, 0, 1, 2, 3, 4, 5, 6, 7, 13, 14] ⟨rfl, rfl, rfl, rfl, by decide, gRoIn_0, rfl, fun _ => rfl⟩ rfl (Nat.le_of_ble_eq_true rfl) dX10_shareText_36 (g_rc hR (Nat.le_of_ble_eq_true rfl) (Nat.le_of_ble_eq_true rfl)) (ck' := 13) (sk' := 670) rfl rfl (fun _ => rfl) (fun u13 _ => ?_) (fun _ hx => absurd rfl hx)
  refine g_iload_n C 4 dX10_shareText_39 rfl ?_
  refine g_aload_n C 1 dX10_shareText_40 rfl ?_
  refine g_get C 0 10 rfl rfl wiX10 (by decide) mw_1_181 rfl rfl dX10_shareText_41 ?_
  obtain ⟨v14, h15, hf⟩ := opt_bind hf
  refine g_callV C (c_J4_length_8abf5 (l := x_l X) (D := x_D X) (cy := x_y X) (sb := sb) (sy := u13) (ml := v11.1) (n := v11.2.1) (cap := v11.2.2.1) (bs := v11.2.2.2) h15) (As := []) (rest := [.int p2]) (wr := (wV (x_y X) v (b 0) kp ak bf fa fl sb co ch gs op) ++ (wSt (x_y X) b z pr le ec wt sa ev) ++ (wSec (x_y X) c c_filled c_th c_ep c_rule c_cm c_vs c_es) ++ (wSb (x_y X) sb u13 v11.1 v11.2.1 v11.2.2.1 v11.2.2.2)) (ws' := fun _ => (wV (x_y X) v (b 0) kp ak bf fa fl sb co ch gs op) ++ (wSt (x_y X) b z pr le ec wt sa ev) ++ (wSec (x_y X) c c_filled c_th c_ep c_rule c_cm c_vs c_es) ++ (wSb (x_y X) sb u13 v11.1 v11.2.1 v11.2.2.1 v11.2.2.2)) (st' := fun _ => [.int v14, .int p2]) (ci := 1) 0 13 ⟨_, rfl⟩ rfl rfl mw_4_162 mw_1_5 mw_5_23 mw_4_161 mw_8_169 hd_J4_length_8abf5 rfl (g_rm hR rfl rfl) [] [0, 1, 2, 3, 4, 5, 6, 7, 8, 9, 10, 11, 12, 13, 14] [0, 1, 2, 3, 4, 5, 6, 7, 8, 9, 10, 11, 12, 13, 14] ⟨rfl, rfl, rfl, rfl, by decide, gRoIn_p [13, 14] rfl (by decide), rfl, fun _ => rfl⟩ rfl (Nat.le_of_ble_eq_true rfl) dX10_shareText_44 (g_rc hR (Nat.le_of_ble_eq_true rfl) (Nat.le_of_ble_eq_true rfl)) (ck' := 13) (sk' := 670) rfl rfl (fun _ => rfl) (fun _ _ => ?_) (fun _ hx => absurd rfl hx)
  refine g_icmp_lt C 60 dX10_shareText_47 (by decide) (fun c16 => ?_) (fun c16 => ?_)
  · have hf := opt_pos c16 hf
    refine g_iload_n C 4 dX10_shareText_60 rfl ?_
    refine g_if_ge C 74 dX10_shareText_61 (by decide) (fun c17 => ?_) (fun c17 => ?_)
    · have hf := opt_pos c17 hf
      refine g_aload_n C 1 dX10_shareText_74 rfl ?_
      refine g_get C 0 10 rfl rfl wiX10 (by decide) mw_1_181 rfl rfl dX10_shareText_75 ?_
      refine g_iload_n C 4 dX10_shareText_78 rfl ?_
      obtain ⟨v18, h19, hf⟩ := opt_bind hf
      refine g_callV C (c_J4_charAt_5068e (l := x_l X) (D := x_D X) (cy := x_y X) (sb := sb) (sy := u13) (ml := v11.1) (n := v11.2.1) (cap := v11.2.2.1) (bs := v11.2.2.2) (p0 := p2) h19) (As := [.int p2]) (rest := []) (wr := (wV (x_y X) v (b 0) kp ak bf fa fl sb co ch gs op) ++ (wSt (x_y X) b z pr le ec wt sa ev) ++ (wSec (x_y X) c c_filled c_th c_ep c_rule c_cm c_vs c_es) ++ (wSb (x_y X) sb u13 v11.1 v11.2.1 v11.2.2.1 v11.2.2.2)) (ws' := fun _ => (wV (x_y X) v (b 0) kp ak bf fa fl sb co ch gs op) ++ (wSt (x_y X) b z pr le ec wt sa ev) ++ (wSec (x_y X) c c_filled c_th c_ep c_rule c_cm c_vs c_es) ++ (wSb (x_y X) sb u13 v11.1 v11.2.1 v11.2.2.1 v11.2.2.2)) (st' := fun _ => [.int v18]) (ci := 1) 1 13 ⟨_, rfl⟩ rfl rfl mw_5_28 mw_1_5 mw_5_25 mw_5_26 mw_5_27 hd_J4_charAt_5068e rfl (g_rm hR rfl rfl) [] [0, 1, 2, 3, 4, 5, 6, 7, 8, 9, 10, 11, 12, 13, 14] [0, 1, 2, 3, 4, 5, 6, 7, 8, 9, 10, 11, 12, 13, 14] ⟨rfl, rfl, rfl, rfl, by decide, gRoIn_p [13, 14] rfl (by decide), rfl, fun _ => rfl⟩ rfl (Nat.le_of_ble_eq_true rfl) dX10_shareText_79 (g_rc hR (Nat.le_of_ble_eq_true rfl) (Nat.le_of_ble_eq_true rfl)) (ck' := 13) (sk' := 670) rfl rfl (fun _ => rfl) (fun _ _ => ?_) (fun _ hx => absurd rfl hx)
      refine gW.locals [1, 2, 3, 4] rfl ?_
      exact H82 u13 v11.1 v11.2.1 v11.2.2.1 v11.2.2.2 v18 hf
    · have hf := opt_neg c17 hf
      refine g_aload_n C 1 dX10_shareText_64 rfl ?_
      refine g_get C 0 10 rfl rfl wiX10 (by decide) mw_1_181 rfl rfl dX10_shareText_65 ?_
      obtain ⟨v20, h21, hf⟩ := opt_bind hf
      refine g_callV C (c_J4_length_8abf5 (l := x_l X) (D := x_D X) (cy := x_y X) (sb := sb) (sy := u13) (ml := v11.1) (n := v11.2.1) (cap := v11.2.2.1) (bs := v11.2.2.2) h21) (As := []) (rest := []) (wr := (wV (x_y X) v (b 0) kp ak bf fa fl sb co ch gs op) ++ (wSt (x_y X) b z pr le ec wt sa ev) ++ (wSec (x_y X) c c_filled c_th c_ep c_rule c_cm c_vs c_es) ++ (wSb (x_y X) sb u13 v11.1 v11.2.1 v11.2.2.1 v11.2.2.2)) (ws' := fun _ => (wV (x_y X) v (b 0) kp ak bf fa fl sb co ch gs op) ++ (wSt (x_y X) b z pr le ec wt sa ev) ++ (wSec (x_y X) c c_filled c_th c_ep c_rule c_cm c_vs c_es) ++ (wSb (x_y X) sb u13 v11.1 v11.2.1 v11.2.2.1 v11.2.2.2)) (st' := fun _ => [.int v20]) (ci := 1) 0 13 ⟨_, rfl⟩ rfl rfl mw_4_162 mw_1_5 mw_5_23 mw_4_161 mw_8_169 hd_J4_length_8abf5 rfl (g_rm hR rfl rfl) [] [0, 1, 2, 3, 4, 5, 6, 7, 8, 9, 10, 11, 12, 13, 14] [0, 1, 2, 3, 4, 5, 6, 7, 8, 9, 10, 11, 12, 13, 14] ⟨rfl, rfl, rfl, rfl, by decide, gRoIn_p [13, 14] rfl (by decide), rfl, fun _ => rfl⟩ rfl (Nat.le_of_ble_eq_true rfl) dX10_shareText_68 (g_rc hR (Nat.le_of_ble_eq_true rfl) (Nat.le_of_ble_eq_true rfl)) (ck' := 13) (sk' := 670) rfl rfl (fun _ => rfl) (fun _ _ => ?_) (fun _ hx => absurd rfl hx)
      refine g_goto C 82 dX10_shareText_71 (by decide) ?_
      refine gW.locals [1, 2, 3, 4] rfl ?_
      exact H82 u13 v11.1 v11.2.1 v11.2.2.1 v11.2.2.2 v20 hf
  · have hf := opt_neg c16 hf
    refine g_eqw (ws' := (wV (x_y X) v (b 0) kp ak bf fa fl sb co ch gs op) ++ (wSt (x_y X) b z pr le ec wt sa ev) ++ (wSec (x_y X) c c_filled c_th c_ep c_rule c_cm c_vs c_es) ++ (wSb (x_y X) sb u13 v11.1 v11.2.1 v11.2.2.1 v11.2.2.2)) rfl ?_
    obtain rfl := Option.some.inj hf
    exact g_throwN C E u13 (text := "the text of the share has no such index") gTh_3 ms_216 dX10_shareText_50 dX10_shareText_53 dX10_shareText_54 dX10_shareText_56 dX10_shareText_59 (g_th hR rfl rfl) (g_rc hR (Nat.le_of_ble_eq_true rfl) (Nat.le_of_ble_eq_true rfl)) (Nat.succ_ne_zero 2) rfl rfl (Nat.le_of_ble_eq_true rfl) (Nat.le_of_ble_eq_true rfl)
/-! X10_importShare -/
theorem hd_X10_importShare : yX10_importShare.cls ≠ "java/lang/invoke/MethodHandle" ∧ yX10_importShare.cls ≠ "java/lang/invoke/VarHandle" ∧ (parseMethodDescriptor yX10_importShare.desc).map (fun d => d.parameters.length) = some 1 := by decide +kernel
def F_X10_importShare (fa : Int32) (c_filled : Int32) (c_vs : Nat → Int32) (c_es : Nat → Int32) (ml : Int32) (n : Int32) (cap : Nat) (bs : Nat → Int32) (p0 : Int32) : Option (Nat × Int32 × Int32 × (Nat → Int32) × (Nat → Int32) × Int32 × Int32 × Nat × (Nat → Int32)) := (F_X10_checkSlot p0).bind fun v1 => if v1 = 0 then ((F_X10_secretIn c_filled p0).bind fun v3 => if v3 = 0 then ((F_X10_takeText ml n cap bs).bind fun v6 => (F_X8_init ).bind fun v9 => (F_X8_read v9.1 v9.2.1 v9.2.2.1 v9.2.2.2.1 v9.2.2.2.2 v6.2.2.2.2.2.2.1 v6.2.2.2.2.2.2.2).bind fun v11 => if v11.1 < 0 then ((F_X7_give c_vs c_es v11.2.2.2.1 v11.2.2.2.2.1 v11.2.2.2.2.2).bind fun v14 => some (0, v11.2.2.2.1, v11.1, v14.1, v14.2, v6.1, v6.2.1, v6.2.2.1, v6.2.2.2.1)) else (some (2, 0, v11.1, c_vs, c_es, v6.1, v6.2.1, v6.2.2.1, v6.2.2.2.1))) else some (v3, 0, fa, c_vs, c_es, ml, n, cap, bs)) else some (v1, 0, fa, c_vs, c_es, ml, n, cap, bs)
set_option maxRecDepth 100000 in
set_option maxHeartbeats 4000000 in
theorem c_X10_importShare {l : Launch} {D : va_G} {cy : Nat → ClassId} {v : Nat → Nat} {b : Nat → Nat} {c : Nat → Nat} {sb sy : Nat} {kp : Nat} {ak : Int32} {fa : Int32} {fl : Nat} {ln : Nat} {co : Nat → Int32} {ch : Nat → Int32} {gs : Nat → Int32} {op : Nat → Int32} {z : Int32} {pr : Int32} {le : Int32} {ec : Int32} {wt : Nat → Int32} {sa : Nat → Option Nat} {ev : Nat → Int32} {c_filled : Int32} {c_th : Int32} {c_ep : Int32} {c_rule : Option Nat} {c_cm : Nat → Int32} {c_vs : Nat → Int32} {c_es : Nat → Int32} {ml : Int32} {n : Int32} {cap : Nat} {bs : Nat → Int32} {p0 : Int32} (hs : gi p0 4 = true → sa (Int32.toNatClampNeg p0) = some (c 0)) {val : Nat × Int32 × Int32 × (Nat → Int32) × (Nat → Int32) × Int32 × Int32 × Nat × (Nat → Int32)} (hf : F_X10_importShare fa c_filled c_vs c_es ml n cap bs p0 = some val) : gCt l D cy yX10_importShare cX10_importShare 4 (some .int) 7 162 7 188 [.ref (v 0), .int p0] [] ((wV cy v (b 0) kp ak sb fa fl ln co ch gs op) ++ (wSt cy b z pr le ec wt sa ev) ++ (wSec cy c c_filled c_th c_ep c_rule c_cm c_vs c_es) ++ (wSb cy sb sy ml n cap bs)) val.1 (fun u : Nat => some (.int val.2.1)) (fun u => (wV cy v (b 0) kp ak sb val.2.2.1 fl ln co ch gs op) ++ (wSt cy b z pr le ec wt sa ev) ++ (wSec cy c c_filled c_th c_ep c_rule c_cm val.2.2.2.1 val.2.2.2.2.1) ++ (wSb cy sb u val.2.2.2.2.2.1 val.2.2.2.2.2.2.1 val.2.2.2.2.2.2.2.1 val.2.2.2.2.2.2.2.2)) := by
  refine g_begin (by decide +kernel) (Nat.le_of_ble_eq_true rfl) ?_
  intro X Q hl hR hD hy hro hn C hin E
  subst hl; subst hD; subst hy
  replace C : gC X "SecretVault" cX10_importShare (some .int) := C
  unfold F_X10_importShare at hf
  show gW X Q 0 0 ((wV (x_y X) v (b 0) kp ak sb fa fl ln co ch gs op) ++ (wSt (x_y X) b z pr le ec wt sa ev) ++ (wSec (x_y X) c c_filled c_th c_ep c_rule c_cm c_vs c_es) ++ (wSb (x_y X) sb sy ml n cap bs)) [(0, .ref (v 0)), (1, .int p0)] [] 0
  refine g_iload_n C 1 dX10_importShare_0 rfl ?_
  obtain ⟨v1, h2, hf⟩ := opt_bind hf
  refine g_callS C (c_X10_checkSlot (l := x_l X) (D := x_D X) (cy := x_y X) (p0 := p0) h2) (As := [.int p0]) (rest := []) (wr := (wV (x_y X) v (b 0) kp ak sb fa fl ln co ch gs op) ++ (wSt (x_y X) b z pr le ec wt sa ev) ++ (wSec (x_y X) c c_filled c_th c_ep c_rule c_cm c_vs c_es) ++ (wSb (x_y X) sb sy ml n cap bs)) (ws' := fun _ => (wV (x_y X) v (b 0) kp ak sb fa fl ln co ch gs op) ++ (wSt (x_y X) b z pr le ec wt sa ev) ++ (wSec (x_y X) c c_filled c_th c_ep c_rule c_cm c_vs c_es) ++ (wSb (x_y X) sb sy ml n cap bs)) (st' := fun _ => []) 1 mw_2_189 mw_1_1 mw_2_187 mw_2_188 hd_X10_checkSlot rfl (g_rm hR rfl rfl) [] [0, 1, 2, 3, 4, 5, 6, 7, 8, 9, 10, 11, 12, 13, 14] [0, 1, 2, 3, 4, 5, 6, 7, 8, 9, 10, 11, 12, 13, 14] ⟨rfl, rfl, rfl, rfl, by decide, gRoIn_0, rfl, fun _ => rfl⟩ rfl (Nat.le_of_ble_eq_true rfl) dX10_importShare_1 (g_rc hR (Nat.le_of_ble_eq_true rfl) (Nat.le_of_ble_eq_true rfl)) (ck' := 1) (sk' := 6) rfl rfl (fun _ => rfl) (fun _ ev1 => ?_) (fun _ ev1 => ?_)
  rotate_left
  · have hf := opt_neg ev1 hf
    refine g_subV [0, 1, 2, 3, 4, 5, 6, 7, 8, 9, 10, 11, 12, 13, 14] (ws' := (wV (x_y X) v (b 0) kp ak sb fa fl ln co ch gs op) ++ (wSt (x_y X) b z pr le ec wt sa ev) ++ (wSec (x_y X) c c_filled c_th c_ep c_rule c_cm c_vs c_es) ++ (wSb (x_y X) sb sy ml n cap bs)) (by decide) rfl ?_
    obtain rfl := Option.some.inj hf
    exact g_out E sy rfl ev1 rfl (Nat.le_of_ble_eq_true rfl) (Nat.le_of_ble_eq_true rfl)
  have hf := opt_pos ev1 hf
  refine g_aload_n C 0 dX10_importShare_4 rfl ?_
  refine g_iload_n C 1 dX10_importShare_5 rfl ?_
  obtain ⟨v3, h4, hf⟩ := opt_bind hf
  refine g_callV C (c_X10_secretIn (l := x_l X) (D := x_D X) (cy := x_y X) (v := v) (b := b) (c := c) (kp := kp) (ak := ak) (bf := sb) (fa := fa) (fl := fl) (ln := ln) (co := co) (ch := ch) (gs := gs) (op := op) (z := z) (pr := pr) (le := le) (ec := ec) (wt := wt) (sa := sa) (ev := ev) (c_filled := c_filled) (c_th := c_th) (c_ep := c_ep) (c_rule := c_rule) (c_cm := c_cm) (c_vs := c_vs) (c_es := c_es) (p0 := p0) (hs := hs) h4) (As := [.int p0]) (rest := []) (wr := (wSb (x_y X) sb sy ml n cap bs)) (ws' := fun _ => (wV (x_y X) v (b 0) kp ak sb fa fl ln co ch gs op) ++ (wSt (x_y X) b z pr le ec wt sa ev) ++ (wSec (x_y X) c c_filled c_th c_ep c_rule c_cm c_vs c_es) ++ (wSb (x_y X) sb sy ml n cap bs)) (st' := fun _ => [.ref (c 0)]) (ci := 11) 1 0 ⟨_, rfl⟩ rfl rfl mw_3_34 mw_1_1 mw_3_31 mw_3_33 mp_5 hd_X10_secretIn rfl (g_rm hR rfl rfl) [0, 1, 2, 3, 4, 5, 6, 7, 8, 9, 10, 11, 12] [13, 14] [2, 3, 4, 5, 6, 7, 8, 9, 10, 11, 12, 13, 14, 0, 1] ⟨rfl, rfl, rfl, rfl, by decide, gRoIn_0, rfl, fun _ => rfl⟩ rfl (Nat.le_of_ble_eq_true rfl) dX10_importShare_6 (g_rc hR (Nat.le_of_ble_eq_true rfl) (Nat.le_of_ble_eq_true rfl)) (ck' := 2) (sk' := 12) rfl rfl (fun _ => rfl) (fun _ ev3 => ?_) (fun _ ev3 => ?_)
  rotate_left
  · have hf := opt_neg ev3 hf
    refine g_subV [0, 1, 2, 3, 4, 5, 6, 7, 8, 9, 10, 11, 12, 13, 14] (ws' := (wV (x_y X) v (b 0) kp ak sb fa fl ln co ch gs op) ++ (wSt (x_y X) b z pr le ec wt sa ev) ++ (wSec (x_y X) c c_filled c_th c_ep c_rule c_cm c_vs c_es) ++ (wSb (x_y X) sb sy ml n cap bs)) (by decide) rfl ?_
    obtain rfl := Option.some.inj hf
    exact g_out E sy rfl ev3 rfl (Nat.le_of_ble_eq_true rfl) (Nat.le_of_ble_eq_true rfl)
  have hf := opt_pos ev3 hf
  refine g_astore_n C (lv' := [(2, .ref (c 0)), (0, .ref (v 0)), (1, .int p0)]) dX10_importShare_9 (g_nlt hn rfl) rfl ?_
  refine g_new C (ci := 9) (ty := tyX8) (fs := [.null, .int 0, .int 0, .int 0, .int 0, .int 0]) rfl wiX8 tyX8_ok mw_5_42 mw_5_43 mw_1_29 dfX8 (g_rc hR (Nat.le_of_ble_eq_true rfl) (Nat.le_of_ble_eq_true rfl)) (ck' := 3) (sk' := 18) rfl rfl dX10_importShare_10 (fun q5 => ?_)
  refine g_dup C dX10_importShare_13 rfl ?_
  refine g_aload_n C 1 dX10_importShare_14 rfl ?_
  obtain ⟨v6, h7, hf⟩ := opt_bind hf
  refine g_callV C (c_X10_takeText (l := x_l X) (D := x_D X) (cy := x_y X) (v := v) (sb := sb) (sy := sy) (nw := (b 0)) (kp := kp) (ak := ak) (fa := fa) (fl := fl) (ln := ln) (co := co) (ch := ch) (gs := gs) (op := op) (ml := ml) (n := n) (cap := cap) (bs := bs) h7) (As := []) (rest := [.ref q5, .ref q5]) (wr := (wSt (x_y X) b z pr le ec wt sa ev) ++ (wSec (x_y X) c c_filled c_th c_ep c_rule c_cm c_vs c_es) ++ [(q5, .inr (9, [.null, .int 0, .int 0, .int 0, .int 0, .int 0]))]) (ws' := fun u8 => (wV (x_y X) v (b 0) kp ak sb fa fl ln co ch gs op) ++ (wSt (x_y X) b z pr le ec wt sa ev) ++ (wSec (x_y X) c c_filled c_th c_ep c_rule c_cm c_vs c_es) ++ (wSb (x_y X) sb u8.1 v6.1 v6.2.1 v6.2.2.1 v6.2.2.2.1) ++ [(q5, .inr (9, [.null, .int 0, .int 0, .int 0, .int 0, .int 0]))] ++ (wStr (x_y X) u8.2.1 u8.2.2 v6.2.2.2.2.1 v6.2.2.2.2.2.1 v6.2.2.2.2.2.2.1 v6.2.2.2.2.2.2.2)) (st' := fun u8 => [.ref u8.2.1, .ref q5, .ref q5]) (ci := 11) 0 0 ⟨_, rfl⟩ rfl rfl mw_5_47 mw_1_1 mw_5_44 mw_5_46 mp_12 hd_X10_takeText rfl (g_rm hR rfl rfl) [0, 1, 2, 3, 4, 13, 14] [5, 6, 7, 8, 9, 10, 11, 12, 15] [9, 10, 11, 12, 13, 0, 1, 2, 3, 4, 5, 6, 7, 14, 15, 8, 16, 17] ⟨rfl, rfl, rfl, rfl, by decide, gRoIn_0, rfl, fun _ => rfl⟩ rfl (Nat.le_of_ble_eq_true rfl) dX10_importShare_15 (g_rc hR (Nat.le_of_ble_eq_true rfl) (Nat.le_of_ble_eq_true rfl)) (ck' := 6) (sk' := 182) rfl rfl (fun _ => rfl) (fun u8 _ => ?_) (fun _ hx => absurd rfl hx)
  obtain ⟨v9, h10, hf⟩ := opt_bind hf
  refine g_callI C (c_X8_init (l := x_l X) (D := x_D X) (cy := x_y X) (r0 := q5) (p0 := u8.2.1) h10) (As := [.ref u8.2.1]) (rest := [.ref q5]) (wr := (wV (x_y X) v (b 0) kp ak sb fa fl ln co ch gs op) ++ (wSt (x_y X) b z pr le ec wt sa ev) ++ (wSec (x_y X) c c_filled c_th c_ep c_rule c_cm c_vs c_es) ++ (wSb (x_y X) sb u8.1 v6.1 v6.2.1 v6.2.2.1 v6.2.2.2.1) ++ (wStr (x_y X) u8.2.1 u8.2.2 v6.2.2.2.2.1 v6.2.2.2.2.2.1 v6.2.2.2.2.2.2.1 v6.2.2.2.2.2.2.2)) (ws' := fun _ => (wV (x_y X) v (b 0) kp ak sb fa fl ln co ch gs op) ++ (wSt (x_y X) b z pr le ec wt sa ev) ++ (wSec (x_y X) c c_filled c_th c_ep c_rule c_cm c_vs c_es) ++ (wSb (x_y X) sb u8.1 v6.1 v6.2.1 v6.2.2.1 v6.2.2.2.1) ++ (wSR (x_y X) q5 u8.2.1 v9.1 v9.2.1 v9.2.2.1 v9.2.2.2.1 v9.2.2.2.2) ++ (wStr (x_y X) u8.2.1 u8.2.2 v6.2.2.2.2.1 v6.2.2.2.2.2.1 v6.2.2.2.2.2.2.1 v6.2.2.2.2.2.2.2)) (st' := fun _ => [.ref q5]) 1 rfl mw_5_51 mw_1_29 mw_5_49 mw_5_50 hd_X8_init rfl (g_rm hR rfl rfl) [15] [0, 1, 2, 3, 4, 5, 6, 7, 8, 9, 10, 11, 12, 13, 14, 16, 17] [0, 1, 2, 3, 4, 5, 6, 7, 8, 9, 10, 11, 12, 13, 14, 17, 15, 16] ⟨rfl, rfl, rfl, rfl, by decide, gRoIn_0, rfl, fun _ => rfl⟩ rfl (Nat.le_of_ble_eq_true rfl) dX10_importShare_18 (g_rc hR (Nat.le_of_ble_eq_true rfl) (Nat.le_of_ble_eq_true rfl)) (ck' := 6) (sk' := 182) rfl rfl (fun _ => rfl) (fun _ _ => ?_) (fun _ hx => absurd rfl hx)
  refine g_astore_n C (lv' := [(3, .ref q5), (2, .ref (c 0)), (0, .ref (v 0)), (1, .int p0)]) dX10_importShare_21 (g_nlt hn rfl) rfl ?_
  refine g_aload_n C 2 dX10_importShare_22 rfl ?_
  refine g_aload_n C 0 dX10_importShare_23 rfl ?_
  obtain ⟨v11, h12, hf⟩ := opt_bind hf
  refine g_callV C (c_X8_read (l := x_l X) (D := x_D X) (cy := x_y X) (r0 := q5) (t0 := u8.2.1) (t1 := u8.2.2) (nx := v9.1) (er := v9.2.1) (rp := v9.2.2.1) (rv := v9.2.2.2.1) (re := v9.2.2.2.2) (hash := v6.2.2.2.2.1) (hz := v6.2.2.2.2.2.1) (tn := v6.2.2.2.2.2.2.1) (tb := v6.2.2.2.2.2.2.2) h12) (As := []) (rest := [.ref (v 0)]) (wr := (wV (x_y X) v (b 0) kp ak sb fa fl ln co ch gs op) ++ (wSt (x_y X) b z pr le ec wt sa ev) ++ (wSec (x_y X) c c_filled c_th c_ep c_rule c_cm c_vs c_es) ++ (wSb (x_y X) sb u8.1 v6.1 v6.2.1 v6.2.2.1 v6.2.2.2.1) ++ (wStr (x_y X) u8.2.1 u8.2.2 v6.2.2.2.2.1 v6.2.2.2.2.2.1 v6.2.2.2.2.2.2.1 v6.2.2.2.2.2.2.2)) (ws' := fun _ => (wV (x_y X) v (b 0) kp ak sb fa fl ln co ch gs op) ++ (wSt (x_y X) b z pr le ec wt sa ev) ++ (wSec (x_y X) c c_filled c_th c_ep c_rule c_cm c_vs c_es) ++ (wSb (x_y X) sb u8.1 v6.1 v6.2.1 v6.2.2.1 v6.2.2.2.1) ++ (wSR (x_y X) q5 u8.2.1 v11.2.1 v11.2.2.1 v11.2.2.2.1 v11.2.2.2.2.1 v11.2.2.2.2.2) ++ (wStr (x_y X) u8.2.1 u8.2.2 v6.2.2.2.2.1 v6.2.2.2.2.2.1 v6.2.2.2.2.2.2.1 v6.2.2.2.2.2.2.2)) (st' := fun _ => [.int v11.1, .ref (v 0)]) (ci := 9) 0 15 ⟨_, rfl⟩ rfl rfl mw_5_78 mw_1_29 mw_5_75 mw_5_76 mw_5_77 hd_X8_read rfl (g_rm hR rfl rfl) [15] [0, 1, 2, 3, 4, 5, 6, 7, 8, 9, 10, 11, 12, 13, 14, 16, 17] [0, 1, 2, 3, 4, 5, 6, 7, 8, 9, 10, 11, 12, 13, 14, 17, 15, 16] ⟨rfl, rfl, rfl, rfl, by decide, gRoIn_p [16, 17] rfl (by decide), rfl, fun _ => rfl⟩ rfl (Nat.le_of_ble_eq_true rfl) dX10_importShare_24 (g_rc hR (Nat.le_of_ble_eq_true rfl) (Nat.le_of_ble_eq_true rfl)) (ck' := 6) (sk' := 182) rfl rfl (fun _ => rfl) (fun _ _ => ?_) (fun _ hx => absurd rfl hx)
  refine g_put C (ws' := (wV (x_y X) v (b 0) kp ak sb v11.1 fl ln co ch gs op) ++ (wSt (x_y X) b z pr le ec wt sa ev) ++ (wSec (x_y X) c c_filled c_th c_ep c_rule c_cm c_vs c_es) ++ (wSb (x_y X) sb u8.1 v6.1 v6.2.1 v6.2.2.1 v6.2.2.2.1) ++ (wSR (x_y X) q5 u8.2.1 v11.2.1 v11.2.2.1 v11.2.2.2.1 v11.2.2.2.2.1 v11.2.2.2.2.2) ++ (wStr (x_y X) u8.2.1 u8.2.2 v6.2.2.2.2.1 v6.2.2.2.2.2.1 v6.2.2.2.2.2.2.1 v6.2.2.2.2.2.2.2)) 0 4 rfl rfl wiX10 (by decide) tyX10_ok nmX10 mw_1_175 rfl rfl rfl rfl (Nat.le_of_ble_eq_true rfl) rfl dX10_importShare_27 ?_
  refine g_aload_n C 2 dX10_importShare_30 rfl ?_
  refine g_get C 0 4 rfl rfl wiX10 (by decide) mw_1_175 rfl rfl dX10_importShare_31 ?_
  refine g_if_lt C 47 dX10_importShare_34 (by decide) (fun c13 => ?_) (fun c13 => ?_)
  · have hf := opt_pos c13 hf
    refine g_aload_n C 1 dX10_importShare_47 rfl ?_
    refine g_aload_n C 0 dX10_importShare_48 rfl ?_
    refine g_get C 15 3 rfl rfl wiX8 (by decide) mw_5_57 rfl rfl dX10_importShare_49 ?_
    refine g_aload_n C 0 dX10_importShare_52 rfl ?_
    refine g_get C 15 4 rfl rfl wiX8 (by decide) mw_5_59 rfl rfl dX10_importShare_53 ?_
    refine g_aload_n C 0 dX10_importShare_56 rfl ?_
    refine g_get C 15 5 rfl rfl wiX8 (by decide) mw_5_61 rfl rfl dX10_importShare_57 ?_
    obtain ⟨v14, h15, hf⟩ := opt_bind hf
    refine g_callV C (c_X7_give (l := x_l X) (D := x_D X) (cy := x_y X) (a := c) (filled := c_filled) (th := c_th) (ep := c_ep) (rule := c_rule) (cm := c_cm) (vs := c_vs) (es := c_es) (p0 := v11.2.2.2.1) (p1 := v11.2.2.2.2.1) (p2 := v11.2.2.2.2.2) h15) (As := [.int v11.2.2.2.1, .int v11.2.2.2.2.1, .int v11.2.2.2.2.2]) (rest := []) (wr := (wV (x_y X) v (b 0) kp ak sb v11.1 fl ln co ch gs op) ++ (wSt (x_y X) b z pr le ec wt sa ev) ++ (wSb (x_y X) sb u8.1 v6.1 v6.2.1 v6.2.2.1 v6.2.2.2.1) ++ (wSR (x_y X) q5 u8.2.1 v11.2.1 v11.2.2.1 v11.2.2.2.1 v11.2.2.2.2.1 v11.2.2.2.2.2) ++ (wStr (x_y X) u8.2.1 u8.2.2 v6.2.2.2.2.1 v6.2.2.2.2.2.1 v6.2.2.2.2.2.2.1 v6.2.2.2.2.2.2.2)) (ws' := fun _ => (wV (x_y X) v (b 0) kp ak sb v11.1 fl ln co ch gs op) ++ (wSt (x_y X) b z pr le ec wt sa ev) ++ (wSec (x_y X) c c_filled c_th c_ep c_rule c_cm v14.1 v14.2) ++ (wSb (x_y X) sb u8.1 v6.1 v6.2.1 v6.2.2.1 v6.2.2.2.1) ++ (wSR (x_y X) q5 u8.2.1 v11.2.1 v11.2.2.1 v11.2.2.2.1 v11.2.2.2.2.1 v11.2.2.2.2.2) ++ (wStr (x_y X) u8.2.1 u8.2.2 v6.2.2.2.2.1 v6.2.2.2.2.2.1 v6.2.2.2.2.2.2.1 v6.2.2.2.2.2.2.2)) (st' := fun _ => []) (ci := 8) 3 9 ⟨_, rfl⟩ rfl rfl mw_3_15 mw_1_3 mw_3_12 mw_3_13 mw_3_14 hd_X7_give rfl (g_rm hR rfl rfl) [9, 10, 11, 12] [0, 1, 2, 3, 4, 5, 6, 7, 8, 13, 14, 15, 16, 17] [0, 1, 2, 3, 4, 5, 6, 7, 8, 14, 15, 16, 17, 9, 10, 11, 12, 13] ⟨rfl, rfl, rfl, rfl, by decide, gRoIn_0, rfl, fun _ => rfl⟩ rfl (Nat.le_of_ble_eq_true rfl) dX10_importShare_60 (g_rc hR (Nat.le_of_ble_eq_true rfl) (Nat.le_of_ble_eq_true rfl)) (ck' := 6) (sk' := 182) rfl rfl (fun _ => rfl) (fun _ _ => ?_) (fun _ hx => absurd rfl hx)
    refine g_aload_n C 0 dX10_importShare_63 rfl ?_
    refine g_get C 15 3 rfl rfl wiX8 (by decide) mw_5_57 rfl rfl dX10_importShare_64 ?_
    refine g_sub [0, 1, 2, 3, 4, 5, 6, 7, 8, 9, 10, 11, 12, 13, 14] (ws' := (wV (x_y X) v (b 0) kp ak sb v11.1 fl ln co ch gs op) ++ (wSt (x_y X) b z pr le ec wt sa ev) ++ (wSec (x_y X) c c_filled c_th c_ep c_rule c_cm v14.1 v14.2) ++ (wSb (x_y X) sb u8.1 v6.1 v6.2.1 v6.2.2.1 v6.2.2.2.1)) (by decide) rfl ?_
    obtain rfl := Option.some.inj hf
    exact g_iret C E u8.1 dX10_importShare_67 rfl rfl rfl (Nat.le_of_ble_eq_true rfl) (Nat.le_of_ble_eq_true rfl)
  · have hf := opt_neg c13 hf
    refine g_sub [0, 1, 2, 3, 4, 5, 6, 7, 8, 9, 10, 11, 12, 13, 14] (ws' := (wV (x_y X) v (b 0) kp ak sb v11.1 fl ln co ch gs op) ++ (wSt (x_y X) b z pr le ec wt sa ev) ++ (wSec (x_y X) c c_filled c_th c_ep c_rule c_cm c_vs c_es) ++ (wSb (x_y X) sb u8.1 v6.1 v6.2.1 v6.2.2.1 v6.2.2.2.1)) (by decide) rfl ?_
    obtain rfl := Option.some.inj hf
    exact g_throwS C E u8.1 (text := "the text of the share has an error") gTh_2 ms_232 dX10_importShare_37 dX10_importShare_40 dX10_importShare_41 dX10_importShare_43 dX10_importShare_46 (g_th hR rfl rfl) (g_rc hR (Nat.le_of_ble_eq_true rfl) (Nat.le_of_ble_eq_true rfl)) (Nat.succ_ne_zero 1) rfl rfl (Nat.le_of_ble_eq_true rfl) (Nat.le_of_ble_eq_true rfl)
/-! X10_setPolicy -/
theorem hd_X10_setPolicy : yX10_setPolicy.cls ≠ "java/lang/invoke/MethodHandle" ∧ yX10_setPolicy.cls ≠ "java/lang/invoke/VarHandle" ∧ (parseMethodDescriptor yX10_setPolicy.desc).map (fun d => d.parameters.length) = some 1 := by decide +kernel
def F_X10_setPolicy_L71   (fa_71 : Int32) (ml_71 : Int32) (n_71 : Int32) (cap_71 : Nat) (bs_71 : Nat → Int32) (y4hash_71 : Int32) (y4hz_71 : Int32) (y4tn_71 : Nat) (y4tb_71 : Nat → Int32) (s0_71 : Int32) : Option (Nat × Int32 × Int32 × Int32 × Int32 × Nat × (Nat → Int32) × gNP) := (F_J0_isEmpty_aae02 y4tn_71).bind fun v20 => if v20 = 0 then ((F_X3_from y4tn_71 y4tb_71).bind fun v23 => gg (gnar .boolean s0_71) (some (0, s0_71, fa_71, ml_71, n_71, cap_71, bs_71, (some (some (v23.1, v23.2.1, v23.2.2.1, v23.2.2.2.1, v23.2.2.2.2.1, v23.2.2.2.2.2.1, v23.2.2.2.2.2.2.1, v23.2.2.2.2.2.2.2)))))) else (gg (gnar .boolean s0_71) (some (0, s0_71, fa_71, ml_71, n_71, cap_71, bs_71, (some none))))
def F_X10_setPolicy_L38 (c_rule : Option Nat)  (fa_38 : Int32) (ml_38 : Int32) (n_38 : Int32) (cap_38 : Nat) (bs_38 : Nat → Int32) (y4hash_38 : Int32) (y4hz_38 : Int32) (y4tn_38 : Nat) (y4tb_38 : Nat → Int32) (s0_38 : Int32) : Option (Nat × Int32 × Int32 × Int32 × Int32 × Nat × (Nat → Int32) × gNP) := if s0_38 < 0 then (if c_rule = none then (F_X10_setPolicy_L71 s0_38 ml_38 n_38 cap_38 bs_38 y4hash_38 y4hz_38 y4tn_38 y4tb_38 0) else (F_X10_setPolicy_L71 s0_38 ml_38 n_38 cap_38 bs_38 y4hash_38 y4hz_38 y4tn_38 y4tb_38 1)) else (some (2, 0, s0_38, ml_38, n_38, cap_38, bs_38, none))
def F_X10_setPolicy (fa : Int32) (c_filled : Int32) (c_rule : Option Nat) (ml : Int32) (n : Int32) (cap : Nat) (bs : Nat → Int32) (p0 : Int32) : Option (Nat × Int32 × Int32 × Int32 × Int32 × Nat × (Nat → Int32) × gNP) := (F_X10_checkSlot p0).bind fun v1 => if v1 = 0 then ((F_X10_secretIn c_filled p0).bind fun v3 => if v3 = 0 then ((F_X10_takeText ml n cap bs).bind fun v5 => (F_J0_isEmpty_aae02 v5.2.2.2.2.2.2.1).bind fun v8 => if v8 = 0 then ((F_X4_init v5.2.2.2.2.2.2.1).bind fun v12 => (F_X4_read v12.1 v12.2.1 v12.2.2.1 v12.2.2.2 v5.2.2.2.2.2.2.1 v5.2.2.2.2.2.2.2).bind fun v15 => F_X10_setPolicy_L38 c_rule fa v5.1 v5.2.1 v5.2.2.1 v5.2.2.2.1 v5.2.2.2.2.1 v5.2.2.2.2.2.1 v5.2.2.2.2.2.2.1 v5.2.2.2.2.2.2.2 v15.1) else (F_X10_setPolicy_L38 c_rule fa v5.1 v5.2.1 v5.2.2.1 v5.2.2.2.1 v5.2.2.2.2.1 v5.2.2.2.2.2.1 v5.2.2.2.2.2.2.1 v5.2.2.2.2.2.2.2 (-1))) else some (v3, 0, fa, ml, n, cap, bs, none)) else some (v1, 0, fa, ml, n, cap, bs, none)
set_option maxRecDepth 100000 in
set_option maxHeartbeats 4000000 in
theorem c_X10_setPolicy {l : Launch} {D : va_G} {cy : Nat → ClassId} {v : Nat → Nat} {b : Nat → Nat} {c : Nat → Nat} {sb sy : Nat} {kp : Nat} {ak : Int32} {fa : Int32} {fl : Nat} {ln : Nat} {co : Nat → Int32} {ch : Nat → Int32} {gs : Nat → Int32} {op : Nat → Int32} {z : Int32} {pr : Int32} {le : Int32} {ec : Int32} {wt : Nat → Int32} {sa : Nat → Option Nat} {ev : Nat → Int32} {c_filled : Int32} {c_th : Int32} {c_ep : Int32} {c_rule : Option Nat} {c_cm : Nat → Int32} {c_vs : Nat → Int32} {c_es : Nat → Int32} {ml : Int32} {n : Int32} {cap : Nat} {bs : Nat → Int32} {p0 : Int32} (hs : gi p0 4 = true → sa (Int32.toNatClampNeg p0) = some (c 0)) {val : Nat × Int32 × Int32 × Int32 × Int32 × Nat × (Nat → Int32) × gNP} (hf : F_X10_setPolicy fa c_filled c_rule ml n cap bs p0 = some val) : gCt l D cy yX10_setPolicy cX10_setPolicy 5 (some .boolean) 10 219 86 6295 [.ref (v 0), .int p0] [] ((wV cy v (b 0) kp ak sb fa fl ln co ch gs op) ++ (wSt cy b z pr le ec wt sa ev) ++ (wSec cy c c_filled c_th c_ep c_rule c_cm c_vs c_es) ++ (wSb cy sb sy ml n cap bs)) val.1 (fun u : Nat × Nat × Nat × Nat × Nat => some (.int val.2.1)) (fun u => (wV cy v (b 0) kp ak sb val.2.2.1 fl ln co ch gs op) ++ (wSt cy b z pr le ec wt sa ev) ++ (wSec cy c c_filled c_th c_ep (gNPr val.2.2.2.2.2.2.2 u.2.1 c_rule) c_cm c_vs c_es) ++ (wSb cy sb u.1 val.2.2.2.1 val.2.2.2.2.1 val.2.2.2.2.2.1 val.2.2.2.2.2.2.1) ++ gNPw cy val.2.2.2.2.2.2.2 u.2.1 u.2.2.1 u.2.2.2.1 u.2.2.2.2) := by
  refine g_begin (by decide +kernel) (Nat.le_of_ble_eq_true rfl) ?_
  intro X Q hl hR hD hy hro hn C hin E
  subst hl; subst hD; subst hy
  replace C : gC X "SecretVault" cX10_setPolicy (some .boolean) := C
  unfold F_X10_setPolicy at hf
  have H71 : ∀ (a3_1_71 : Nat) (a4_0_71 : Nat) (a4_1_71 : Nat) (fa_71 : Int32) (ml_71 : Int32) (n_71 : Int32) (cap_71 : Nat) (bs_71 : Nat → Int32) (y4hash_71 : Int32) (y4hz_71 : Int32) (y4tn_71 : Nat) (y4tb_71 : Nat → Int32) (s0_71 : Int32), F_X10_setPolicy_L71 fa_71 ml_71 n_71 cap_71 bs_71 y4hash_71 y4hz_71 y4tn_71 y4tb_71 s0_71 = some val → gW X Q 7 244 ((wV (x_y X) v (b 0) kp ak sb fa_71 fl ln co ch gs op) ++ (wSt (x_y X) b z pr le ec wt sa ev) ++ (wSec (x_y X) c c_filled c_th c_ep c_rule c_cm c_vs c_es) ++ (wSb (x_y X) sb a3_1_71 ml_71 n_71 cap_71 bs_71) ++ (wStr (x_y X) a4_0_71 a4_1_71 y4hash_71 y4hz_71 y4tn_71 y4tb_71)) [(0, .ref (v 0)), (1, .int p0), (2, .ref (c 0)), (3, .ref a4_0_71)] [.int s0_71] 71 := by
    intro a3_1_71 a4_0_71 a4_1_71 fa_71 ml_71 n_71 cap_71 bs_71 y4hash_71 y4hz_71 y4tn_71 y4tb_71 s0_71 hf
    unfold F_X10_setPolicy_L71 at hf
    refine g_istore C (lv' := [(4, .int s0_71), (0, .ref (v 0)), (1, .int p0), (2, .ref (c 0)), (3, .ref a4_0_71)]) dX10_setPolicy_71 (g_nlt hn rfl) rfl ?_
    refine g_aload_n C 3 dX10_setPolicy_73 rfl ?_
    refine g_aload_n C 4 dX10_setPolicy_74 rfl ?_
    obtain ⟨v20, h21, hf⟩ := opt_bind hf
    refine g_callV C (c_J0_isEmpty_aae02 (l := x_l X) (D := x_D X) (cy := x_y X) (t0 := a4_0_71) (t1 := a4_1_71) (hash := y4hash_71) (hz := y4hz_71) (tn := y4tn_71) (tb := y4tb_71) h21) (As := []) (rest := [.ref (c 0)]) (wr := (wV (x_y X) v (b 0) kp ak sb fa_71 fl ln co ch gs op) ++ (wSt (x_y X) b z pr le ec wt sa ev) ++ (wSec (x_y X) c c_filled c_th c_ep c_rule c_cm c_vs c_es) ++ (wSb (x_y X) sb a3_1_71 ml_71 n_71 cap_71 bs_71) ++ (wStr (x_y X) a4_0_71 a4_1_71 y4hash_71 y4hz_71 y4tn_71 y4tb_71)) (ws' := fun _ => (wV (x_y X) v (b 0) kp ak sb fa_71 fl ln co ch gs op) ++ (wSt (x_y X) b z pr le ec wt sa ev) ++ (wSec (x_y X) c c_filled c_th c_ep c_rule c_cm c_vs c_es) ++ (wSb (x_y X) sb a3_1_71 ml_71 n_71 cap_71 bs_71) ++ (wStr (x_y X) a4_0_71 a4_1_71 y4hash_71 y4hz_71 y4tn_71 y4tb_71)) (st' := fun _ => [.int v20, .ref (c 0)]) (ci := 0) 0 15 ⟨_, rfl⟩ rfl rfl mw_5_135 mw_1_6 mw_5_132 mw_5_133 mw_5_134 hd_J0_isEmpty_aae02 rfl (g_rm hR rfl rfl) [] [0, 1, 2, 3, 4, 5, 6, 7, 8, 9, 10, 11, 12, 13, 14, 15, 16] [0, 1, 2, 3, 4, 5, 6, 7, 8, 9, 10, 11, 12, 13, 14, 15, 16] ⟨rfl, rfl, rfl, rfl, by decide, gRoIn_p [15, 16] rfl (by decide), rfl, fun _ => rfl⟩ rfl (Nat.le_of_ble_eq_true rfl) dX10_setPolicy_75 (g_rc hR (Nat.le_of_ble_eq_true rfl) (Nat.le_of_ble_eq_true rfl)) (ck' := 7) (sk' := 244) rfl rfl (fun _ => rfl) (fun _ _ => ?_) (fun _ hx => absurd rfl hx)
    refine g_if_eq C 85 dX10_setPolicy_78 (by decide) (fun c22 => ?_) (fun c22 => ?_)
    · have hf := opt_pos c22 hf
      refine g_aload_n C 4 dX10_setPolicy_85 rfl ?_
      obtain ⟨v23, h24, hf⟩ := opt_bind hf
      refine g_callS C (c_X3_from (l := x_l X) (D := x_D X) (cy := x_y X) (t0 := a4_0_71) (t1 := a4_1_71) (hash := y4hash_71) (hz := y4hz_71) (tn := y4tn_71) (tb := y4tb_71) h24) (As := [.ref a4_0_71]) (rest := [.ref (c 0)]) (wr := (wV (x_y X) v (b 0) kp ak sb fa_71 fl ln co ch gs op) ++ (wSt (x_y X) b z pr le ec wt sa ev) ++ (wSec (x_y X) c c_filled c_th c_ep c_rule c_cm c_vs c_es) ++ (wSb (x_y X) sb a3_1_71 ml_71 n_71 cap_71 bs_71) ++ (wStr (x_y X) a4_0_71 a4_1_71 y4hash_71 y4hz_71 y4tn_71 y4tb_71)) (ws' := fun u25 => (wV (x_y X) v (b 0) kp ak sb fa_71 fl ln co ch gs op) ++ (wSt (x_y X) b z pr le ec wt sa ev) ++ (wSec (x_y X) c c_filled c_th c_ep c_rule c_cm c_vs c_es) ++ (wSb (x_y X) sb a3_1_71 ml_71 n_71 cap_71 bs_71) ++ (wStr (x_y X) a4_0_71 a4_1_71 y4hash_71 y4hz_71 y4tn_71 y4tb_71) ++ (wPo (x_y X) u25.1 u25.2.1 u25.2.2.1 u25.2.2.2 v23.1 v23.2.1 v23.2.2.1 v23.2.2.2.1 v23.2.2.2.2.1 v23.2.2.2.2.2.1 v23.2.2.2.2.2.2.1 v23.2.2.2.2.2.2.2)) (st' := fun u25 => [.ref u25.1, .ref (c 0)]) 1 mw_5_192 mw_1_32 mw_5_190 mw_5_191 hd_X3_from rfl (g_rm hR rfl rfl) [] [0, 1, 2, 3, 4, 5, 6, 7, 8, 9, 10, 11, 12, 13, 14, 15, 16] [0, 1, 2, 3, 4, 5, 6, 7, 8, 9, 10, 11, 12, 13, 14, 15, 16, 17, 18, 19, 20] ⟨rfl, rfl, rfl, rfl, by decide, gRoIn_p [15, 16] rfl (by decide), rfl, fun _ => rfl⟩ rfl (Nat.le_of_ble_eq_true rfl) dX10_setPolicy_86 (g_rc hR (Nat.le_of_ble_eq_true rfl) (Nat.le_of_ble_eq_true rfl)) (ck' := 86) (sk' := 6295) rfl rfl (fun _ => rfl) (fun u25 _ => ?_) (fun _ hx => absurd rfl hx)
      refine g_put C (ws' := (wV (x_y X) v (b 0) kp ak sb fa_71 fl ln co ch gs op) ++ (wSt (x_y X) b z pr le ec wt sa ev) ++ (wSec (x_y X) c c_filled c_th c_ep (some u25.1) c_cm c_vs c_es) ++ (wSb (x_y X) sb a3_1_71 ml_71 n_71 cap_71 bs_71) ++ (wStr (x_y X) a4_0_71 a4_1_71 y4hash_71 y4hz_71 y4tn_71 y4tb_71) ++ (wPo (x_y X) u25.1 u25.2.1 u25.2.2.1 u25.2.2.2 v23.1 v23.2.1 v23.2.2.1 v23.2.2.2.1 v23.2.2.2.2.1 v23.2.2.2.2.2.1 v23.2.2.2.2.2.2.1 v23.2.2.2.2.2.2.2)) 9 4 rfl rfl wiX7 (by decide) tyX7_ok nmX7 mw_1_69 rfl rfl rfl rfl (Nat.le_of_ble_eq_true rfl) rfl dX10_setPolicy_89 ?_
      refine g_iload C 0 dX10_setPolicy_92 rfl ?_
      refine g_sub [0, 1, 2, 3, 4, 5, 6, 7, 8, 9, 10, 11, 12, 13, 14, 17, 18, 19, 20] (ws' := (wV (x_y X) v (b 0) kp ak sb fa_71 fl ln co ch gs op) ++ (wSt (x_y X) b z pr le ec wt sa ev) ++ (wSec (x_y X) c c_filled c_th c_ep (some u25.1) c_cm c_vs c_es) ++ (wSb (x_y X) sb a3_1_71 ml_71 n_71 cap_71 bs_71) ++ (wPo (x_y X) u25.1 u25.2.1 u25.2.2.1 u25.2.2.2 v23.1 v23.2.1 v23.2.2.1 v23.2.2.2.1 v23.2.2.2.2.1 v23.2.2.2.2.2.1 v23.2.2.2.2.2.2.1 v23.2.2.2.2.2.2.2)) (by decide) rfl ?_
      obtain ⟨c26, hf⟩ := gg_of hf
      obtain rfl := Option.some.inj hf
      exact g_zret C E (a3_1_71, u25.1, u25.2.1, u25.2.2.1, u25.2.2.2) (gnar_of c26) dX10_setPolicy_94 rfl rfl rfl (Nat.le_of_ble_eq_true rfl) (Nat.le_of_ble_eq_true rfl)
    · have hf := opt_neg c22 hf
      refine g_null C dX10_setPolicy_81 ?_
      refine g_goto C 89 dX10_setPolicy_82 (by decide) ?_
      refine g_put C (ws' := (wV (x_y X) v (b 0) kp ak sb fa_71 fl ln co ch gs op) ++ (wSt (x_y X) b z pr le ec wt sa ev) ++ (wSec (x_y X) c c_filled c_th c_ep none c_cm c_vs c_es) ++ (wSb (x_y X) sb a3_1_71 ml_71 n_71 cap_71 bs_71) ++ (wStr (x_y X) a4_0_71 a4_1_71 y4hash_71 y4hz_71 y4tn_71 y4tb_71)) 9 4 rfl rfl wiX7 (by decide) tyX7_ok nmX7 mw_1_69 rfl rfl rfl rfl (Nat.le_of_ble_eq_true rfl) rfl dX10_setPolicy_89 ?_
      refine g_iload C 0 dX10_setPolicy_92 rfl ?_
      refine g_sub [0, 1, 2, 3, 4, 5, 6, 7, 8, 9, 10, 11, 12, 13, 14] (ws' := (wV (x_y X) v (b 0) kp ak sb fa_71 fl ln co ch gs op) ++ (wSt (x_y X) b z pr le ec wt sa ev) ++ (wSec (x_y X) c c_filled c_th c_ep none c_cm c_vs c_es) ++ (wSb (x_y X) sb a3_1_71 ml_71 n_71 cap_71 bs_71)) (by decide) rfl ?_
      obtain ⟨c27, hf⟩ := gg_of hf
      obtain rfl := Option.some.inj hf
      exact g_zret C E (a3_1_71, 0, 0, 0, 0) (gnar_of c27) dX10_setPolicy_94 rfl rfl rfl (Nat.le_of_ble_eq_true rfl) (Nat.le_of_ble_eq_true rfl)
  have H38 : ∀ (a3_1_38 : Nat) (a4_0_38 : Nat) (a4_1_38 : Nat) (fa_38 : Int32) (ml_38 : Int32) (n_38 : Int32) (cap_38 : Nat) (bs_38 : Nat → Int32) (y4hash_38 : Int32) (y4hz_38 : Int32) (y4tn_38 : Nat) (y4tb_38 : Nat → Int32) (s0_38 : Int32), F_X10_setPolicy_L38 c_rule fa_38 ml_38 n_38 cap_38 bs_38 y4hash_38 y4hz_38 y4tn_38 y4tb_38 s0_38 = some val → gW X Q 7 244 ((wV (x_y X) v (b 0) kp ak sb fa_38 fl ln co ch gs op) ++ (wSt (x_y X) b z pr le ec wt sa ev) ++ (wSec (x_y X) c c_filled c_th c_ep c_rule c_cm c_vs c_es) ++ (wSb (x_y X) sb a3_1_38 ml_38 n_38 cap_38 bs_38) ++ (wStr (x_y X) a4_0_38 a4_1_38 y4hash_38 y4hz_38 y4tn_38 y4tb_38)) [(0, .ref (v 0)), (1, .int p0), (2, .ref (c 0)), (3, .ref a4_0_38)] [.int s0_38, .ref (v 0)] 38 := by
    intro a3_1_38 a4_0_38 a4_1_38 fa_38 ml_38 n_38 cap_38 bs_38 y4hash_38 y4hz_38 y4tn_38 y4tb_38 s0_38 hf
    unfold F_X10_setPolicy_L38 at hf
    refine g_put C (ws' := (wV (x_y X) v (b 0) kp ak sb s0_38 fl ln co ch gs op) ++ (wSt (x_y X) b z pr le ec wt sa ev) ++ (wSec (x_y X) c c_filled c_th c_ep c_rule c_cm c_vs c_es) ++ (wSb (x_y X) sb a3_1_38 ml_38 n_38 cap_38 bs_38) ++ (wStr (x_y X) a4_0_38 a4_1_38 y4hash_38 y4hz_38 y4tn_38 y4tb_38)) 0 4 rfl rfl wiX10 (by decide) tyX10_ok nmX10 mw_1_175 rfl rfl rfl rfl (Nat.le_of_ble_eq_true rfl) rfl dX10_setPolicy_38 ?_
    refine g_aload_n C 0 dX10_setPolicy_41 rfl ?_
    refine g_get C 0 4 rfl rfl wiX10 (by decide) mw_1_175 rfl rfl dX10_setPolicy_42 ?_
    refine g_if_lt C 59 dX10_setPolicy_45 (by decide) (fun c18 => ?_) (fun c18 => ?_)
    · have hf := opt_pos c18 hf
      refine g_aload_n C 2 dX10_setPolicy_59 rfl ?_
      refine g_get C 9 4 rfl rfl wiX7 (by decide) mw_1_69 rfl rfl dX10_setPolicy_60 ?_
      refine g_ifnull_rf C 70 dX10_setPolicy_63 (by decide) (fun c19 => ?_) (fun c19 => ?_)
      · have hf := opt_pos c19 hf
        refine g_iconst C (v := 0) dX10_setPolicy_70 (by decide) ?_
        exact H71 a3_1_38 a4_0_38 a4_1_38 s0_38 ml_38 n_38 cap_38 bs_38 y4hash_38 y4hz_38 y4tn_38 y4tb_38 0 hf
      · have hf := opt_neg c19 hf
        refine g_iconst C (v := 1) dX10_setPolicy_66 (by decide) ?_
        refine g_goto C 71 dX10_setPolicy_67 (by decide) ?_
        exact H71 a3_1_38 a4_0_38 a4_1_38 s0_38 ml_38 n_38 cap_38 bs_38 y4hash_38 y4hz_38 y4tn_38 y4tb_38 1 hf
    · have hf := opt_neg c18 hf
      refine g_sub [0, 1, 2, 3, 4, 5, 6, 7, 8, 9, 10, 11, 12, 13, 14] (ws' := (wV (x_y X) v (b 0) kp ak sb s0_38 fl ln co ch gs op) ++ (wSt (x_y X) b z pr le ec wt sa ev) ++ (wSec (x_y X) c c_filled c_th c_ep c_rule c_cm c_vs c_es) ++ (wSb (x_y X) sb a3_1_38 ml_38 n_38 cap_38 bs_38)) (by decide) rfl ?_
      obtain rfl := Option.some.inj hf
      exact g_throwSW C E (a3_1_38, 0, 0, 0, 0) (text := "the text of the policy has an error") gTh_2 ms_261 dX10_setPolicy_48 dX10_setPolicy_51 dX10_setPolicy_52 dX10_setPolicy_55 dX10_setPolicy_58 (g_th hR rfl rfl) (g_rc hR (Nat.le_of_ble_eq_true rfl) (Nat.le_of_ble_eq_true rfl)) (Nat.succ_ne_zero 1) rfl rfl (Nat.le_of_ble_eq_true rfl) (Nat.le_of_ble_eq_true rfl)
  show gW X Q 0 0 ((wV (x_y X) v (b 0) kp ak sb fa fl ln co ch gs op) ++ (wSt (x_y X) b z pr le ec wt sa ev) ++ (wSec (x_y X) c c_filled c_th c_ep c_rule c_cm c_vs c_es) ++ (wSb (x_y X) sb sy ml n cap bs)) [(0, .ref (v 0)), (1, .int p0)] [] 0
  refine g_iload_n C 1 dX10_setPolicy_0 rfl ?_
  obtain ⟨v1, h2, hf⟩ := opt_bind hf
  refine g_callS C (c_X10_checkSlot (l := x_l X) (D := x_D X) (cy := x_y X) (p0 := p0) h2) (As := [.int p0]) (rest := []) (wr := (wV (x_y X) v (b 0) kp ak sb fa fl ln co ch gs op) ++ (wSt (x_y X) b z pr le ec wt sa ev) ++ (wSec (x_y X) c c_filled c_th c_ep c_rule c_cm c_vs c_es) ++ (wSb (x_y X) sb sy ml n cap bs)) (ws' := fun _ => (wV (x_y X) v (b 0) kp ak sb fa fl ln co ch gs op) ++ (wSt (x_y X) b z pr le ec wt sa ev) ++ (wSec (x_y X) c c_filled c_th c_ep c_rule c_cm c_vs c_es) ++ (wSb (x_y X) sb sy ml n cap bs)) (st' := fun _ => []) 1 mw_2_189 mw_1_1 mw_2_187 mw_2_188 hd_X10_checkSlot rfl (g_rm hR rfl rfl) [] [0, 1, 2, 3, 4, 5, 6, 7, 8, 9, 10, 11, 12, 13, 14] [0, 1, 2, 3, 4, 5, 6, 7, 8, 9, 10, 11, 12, 13, 14] ⟨rfl, rfl, rfl, rfl, by decide, gRoIn_0, rfl, fun _ => rfl⟩ rfl (Nat.le_of_ble_eq_true rfl) dX10_setPolicy_1 (g_rc hR (Nat.le_of_ble_eq_true rfl) (Nat.le_of_ble_eq_true rfl)) (ck' := 1) (sk' := 6) rfl rfl (fun _ => rfl) (fun _ ev1 => ?_) (fun _ ev1 => ?_)
  rotate_left
  · have hf := opt_neg ev1 hf
    refine g_subV [0, 1, 2, 3, 4, 5, 6, 7, 8, 9, 10, 11, 12, 13, 14] (ws' := (wV (x_y X) v (b 0) kp ak sb fa fl ln co ch gs op) ++ (wSt (x_y X) b z pr le ec wt sa ev) ++ (wSec (x_y X) c c_filled c_th c_ep c_rule c_cm c_vs c_es) ++ (wSb (x_y X) sb sy ml n cap bs)) (by decide) rfl ?_
    obtain rfl := Option.some.inj hf
    exact g_out E (sy, 0, 0, 0, 0) rfl ev1 rfl (Nat.le_of_ble_eq_true rfl) (Nat.le_of_ble_eq_true rfl)
  have hf := opt_pos ev1 hf
  refine g_aload_n C 0 dX10_setPolicy_4 rfl ?_
  refine g_iload_n C 1 dX10_setPolicy_5 rfl ?_
  obtain ⟨v3, h4, hf⟩ := opt_bind hf
  refine g_callV C (c_X10_secretIn (l := x_l X) (D := x_D X) (cy := x_y X) (v := v) (b := b) (c := c) (kp := kp) (ak := ak) (bf := sb) (fa := fa) (fl := fl) (ln := ln) (co := co) (ch := ch) (gs := gs) (op := op) (z := z) (pr := pr) (le := le) (ec := ec) (wt := wt) (sa := sa) (ev := ev) (c_filled := c_filled) (c_th := c_th) (c_ep := c_ep) (c_rule := c_rule) (c_cm := c_cm) (c_vs := c_vs) (c_es := c_es) (p0 := p0) (hs := hs) h4) (As := [.int p0]) (rest := []) (wr := (wSb (x_y X) sb sy ml n cap bs)) (ws' := fun _ => (wV (x_y X) v (b 0) kp ak sb fa fl ln co ch gs op) ++ (wSt (x_y X) b z pr le ec wt sa ev) ++ (wSec (x_y X) c c_filled c_th c_ep c_rule c_cm c_vs c_es) ++ (wSb (x_y X) sb sy ml n cap bs)) (st' := fun _ => [.ref (c 0)]) (ci := 11) 1 0 ⟨_, rfl⟩ rfl rfl mw_3_34 mw_1_1 mw_3_31 mw_3_33 mp_5 hd_X10_secretIn rfl (g_rm hR rfl rfl) [0, 1, 2, 3, 4, 5, 6, 7, 8, 9, 10, 11, 12] [13, 14] [2, 3, 4, 5, 6, 7, 8, 9, 10, 11, 12, 13, 14, 0, 1] ⟨rfl, rfl, rfl, rfl, by decide, gRoIn_0, rfl, fun _ => rfl⟩ rfl (Nat.le_of_ble_eq_true rfl) dX10_setPolicy_6 (g_rc hR (Nat.le_of_ble_eq_true rfl) (Nat.le_of_ble_eq_true rfl)) (ck' := 2) (sk' := 12) rfl rfl (fun _ => rfl) (fun _ ev3 => ?_) (fun _ ev3 => ?_)
  rotate_left
  · have hf := opt_neg ev3 hf
    refine g_subV [0, 1, 2, 3, 4, 5, 6, 7, 8, 9, 10, 11, 12, 13, 14] (ws' := (wV (x_y X) v (b 0) kp ak sb fa fl ln co ch gs op) ++ (wSt (x_y X) b z pr le ec wt sa ev) ++ (wSec (x_y X) c c_filled c_th c_ep c_rule c_cm c_vs c_es) ++ (wSb (x_y X) sb sy ml n cap bs)) (by decide) rfl ?_
    obtain rfl := Option.some.inj hf
    exact g_out E (sy, 0, 0, 0, 0) rfl ev3 rfl (Nat.le_of_ble_eq_true rfl) (Nat.le_of_ble_eq_true rfl)
  have hf := opt_pos ev3 hf
  refine g_astore_n C (lv' := [(2, .ref (c 0)), (0, .ref (v 0)), (1, .int p0)]) dX10_setPolicy_9 (g_nlt hn rfl) rfl ?_
  refine g_aload_n C 1 dX10_setPolicy_10 rfl ?_
  obtain ⟨v5, h6, hf⟩ := opt_bind hf
  refine g_callV C (c_X10_takeText (l := x_l X) (D := x_D X) (cy := x_y X) (v := v) (sb := sb) (sy := sy) (nw := (b 0)) (kp := kp) (ak := ak) (fa := fa) (fl := fl) (ln := ln) (co := co) (ch := ch) (gs := gs) (op := op) (ml := ml) (n := n) (cap := cap) (bs := bs) h6) (As := []) (rest := []) (wr := (wSt (x_y X) b z pr le ec wt sa ev) ++ (wSec (x_y X) c c_filled c_th c_ep c_rule c_cm c_vs c_es)) (ws' := fun u7 => (wV (x_y X) v (b 0) kp ak sb fa fl ln co ch gs op) ++ (wSt (x_y X) b z pr le ec wt sa ev) ++ (wSec (x_y X) c c_filled c_th c_ep c_rule c_cm c_vs c_es) ++ (wSb (x_y X) sb u7.1 v5.1 v5.2.1 v5.2.2.1 v5.2.2.2.1) ++ (wStr (x_y X) u7.2.1 u7.2.2 v5.2.2.2.2.1 v5.2.2.2.2.2.1 v5.2.2.2.2.2.2.1 v5.2.2.2.2.2.2.2)) (st' := fun u7 => [.ref u7.2.1]) (ci := 11) 0 0 ⟨_, rfl⟩ rfl rfl mw_5_47 mw_1_1 mw_5_44 mw_5_46 mp_12 hd_X10_takeText rfl (g_rm hR rfl rfl) [0, 1, 2, 3, 4, 13, 14] [5, 6, 7, 8, 9, 10, 11, 12] [8, 9, 10, 11, 12, 0, 1, 2, 3, 4, 5, 6, 7, 13, 14, 15, 16] ⟨rfl, rfl, rfl, rfl, by decide, gRoIn_0, rfl, fun _ => rfl⟩ rfl (Nat.le_of_ble_eq_true rfl) dX10_setPolicy_11 (g_rc hR (Nat.le_of_ble_eq_true rfl) (Nat.le_of_ble_eq_true rfl)) (ck' := 5) (sk' := 176) rfl rfl (fun _ => rfl) (fun u7 _ => ?_) (fun _ hx => absurd rfl hx)
  refine g_astore_n C (lv' := [(3, .ref u7.2.1), (2, .ref (c 0)), (0, .ref (v 0)), (1, .int p0)]) dX10_setPolicy_14 (g_nlt hn rfl) rfl ?_
  refine g_aload_n C 2 dX10_setPolicy_15 rfl ?_
  refine g_aload_n C 0 dX10_setPolicy_16 rfl ?_
  obtain ⟨v8, h9, hf⟩ := opt_bind hf
  refine g_callV C (c_J0_isEmpty_aae02 (l := x_l X) (D := x_D X) (cy := x_y X) (t0 := u7.2.1) (t1 := u7.2.2) (hash := v5.2.2.2.2.1) (hz := v5.2.2.2.2.2.1) (tn := v5.2.2.2.2.2.2.1) (tb := v5.2.2.2.2.2.2.2) h9) (As := []) (rest := [.ref (v 0)]) (wr := (wV (x_y X) v (b 0) kp ak sb fa fl ln co ch gs op) ++ (wSt (x_y X) b z pr le ec wt sa ev) ++ (wSec (x_y X) c c_filled c_th c_ep c_rule c_cm c_vs c_es) ++ (wSb (x_y X) sb u7.1 v5.1 v5.2.1 v5.2.2.1 v5.2.2.2.1) ++ (wStr (x_y X) u7.2.1 u7.2.2 v5.2.2.2.2.1 v5.2.2.2.2.2.1 v5.2.2.2.2.2.2.1 v5.2.2.2.2.2.2.2)) (ws' := fun _ => (wV (x_y X) v (b 0) kp ak sb fa fl ln co ch gs op) ++ (wSt (x_y X) b z pr le ec wt sa ev) ++ (wSec (x_y X) c c_filled c_th c_ep c_rule c_cm c_vs c_es) ++ (wSb (x_y X) sb u7.1 v5.1 v5.2.1 v5.2.2.1 v5.2.2.2.1) ++ (wStr (x_y X) u7.2.1 u7.2.2 v5.2.2.2.2.1 v5.2.2.2.2.2.1 v5.2.2.2.2.2.2.1 v5.2.2.2.2.2.2.2)) (st' := fun _ => [.int v8, .ref (v 0)]) (ci := 0) 0 15 ⟨_, rfl⟩ rfl rfl mw_5_135 mw_1_6 mw_5_132 mw_5_133 mw_5_134 hd_J0_isEmpty_aae02 rfl (g_rm hR rfl rfl) [] [0, 1, 2, 3, 4, 5, 6, 7, 8, 9, 10, 11, 12, 13, 14, 15, 16] [0, 1, 2, 3, 4, 5, 6, 7, 8, 9, 10, 11, 12, 13, 14, 15, 16] ⟨rfl, rfl, rfl, rfl, by decide, gRoIn_p [15, 16] rfl (by decide), rfl, fun _ => rfl⟩ rfl (Nat.le_of_ble_eq_true rfl) dX10_setPolicy_17 (g_rc hR (Nat.le_of_ble_eq_true rfl) (Nat.le_of_ble_eq_true rfl)) (ck' := 5) (sk' := 176) rfl rfl (fun _ => rfl) (fun _ _ => ?_) (fun _ hx => absurd rfl hx)
  refine g_if_eq C 27 dX10_setPolicy_20 (by decide) (fun c10 => ?_) (fun c10 => ?_)
  · have hf := opt_pos c10 hf
    refine g_new C (ci := 6) (ty := tyX4) (fs := [.null, .null, .int 0, .int 0]) rfl wiX4 tyX4_ok mw_5_136 mw_5_137 mw_1_30 dfX4 (g_rc hR (Nat.le_of_ble_eq_true rfl) (Nat.le_of_ble_eq_true rfl)) (ck' := 6) (sk' := 180) rfl rfl dX10_setPolicy_27 (fun q11 => ?_)
    refine g_dup C dX10_setPolicy_30 rfl ?_
    refine g_aload_n C 0 dX10_setPolicy_31 rfl ?_
    obtain ⟨v12, h13, hf⟩ := opt_bind hf
    refine g_callI C (c_X4_init (l := x_l X) (D := x_D X) (cy := x_y X) (r0 := q11) (t0 := u7.2.1) (t1 := u7.2.2) (hash := v5.2.2.2.2.1) (hz := v5.2.2.2.2.2.1) (tn := v5.2.2.2.2.2.2.1) (tb := v5.2.2.2.2.2.2.2) h13) (As := [.ref u7.2.1]) (rest := [.ref q11, .ref (v 0)]) (wr := (wV (x_y X) v (b 0) kp ak sb fa fl ln co ch gs op) ++ (wSt (x_y X) b z pr le ec wt sa ev) ++ (wSec (x_y X) c c_filled c_th c_ep c_rule c_cm c_vs c_es) ++ (wSb (x_y X) sb u7.1 v5.1 v5.2.1 v5.2.2.1 v5.2.2.2.1) ++ (wStr (x_y X) u7.2.1 u7.2.2 v5.2.2.2.2.1 v5.2.2.2.2.2.1 v5.2.2.2.2.2.2.1 v5.2.2.2.2.2.2.2)) (ws' := fun u14 => (wV (x_y X) v (b 0) kp ak sb fa fl ln co ch gs op) ++ (wSt (x_y X) b z pr le ec wt sa ev) ++ (wSec (x_y X) c c_filled c_th c_ep c_rule c_cm c_vs c_es) ++ (wSb (x_y X) sb u7.1 v5.1 v5.2.1 v5.2.2.1 v5.2.2.2.1) ++ (wStr (x_y X) u7.2.1 u7.2.2 v5.2.2.2.2.1 v5.2.2.2.2.2.1 v5.2.2.2.2.2.2.1 v5.2.2.2.2.2.2.2) ++ (wPR (x_y X) q11 u14 u7.2.1 v12.1 v12.2.1 v12.2.2.1 v12.2.2.2)) (st' := fun u14 => [.ref q11, .ref (v 0)]) 1 rfl mw_5_140 mw_1_30 mw_5_138 mw_5_139 hd_X4_init rfl (g_rm hR rfl rfl) [17] [0, 1, 2, 3, 4, 5, 6, 7, 8, 9, 10, 11, 12, 13, 14, 15, 16] [0, 1, 2, 3, 4, 5, 6, 7, 8, 9, 10, 11, 12, 13, 14, 15, 16, 17, 18] ⟨rfl, rfl, rfl, rfl, by decide, gRoIn_p [15, 16] rfl (by decide), rfl, fun _ => rfl⟩ rfl (Nat.le_of_ble_eq_true rfl) dX10_setPolicy_32 (g_rc hR (Nat.le_of_ble_eq_true rfl) (Nat.le_of_ble_eq_true rfl)) (ck' := 7) (sk' := 244) rfl rfl (fun _ => rfl) (fun u14 _ => ?_) (fun _ hx => absurd rfl hx)
    obtain ⟨v15, h16, hf⟩ := opt_bind hf
    refine g_callV C (c_X4_read (l := x_l X) (D := x_D X) (cy := x_y X) (r0 := q11) (r1 := u14) (t0 := u7.2.1) (t1 := u7.2.2) (opn := v12.1) (due := v12.2.1) (on := v12.2.2.1) (oc := v12.2.2.2) (hash := v5.2.2.2.2.1) (hz := v5.2.2.2.2.2.1) (tn := v5.2.2.2.2.2.2.1) (tb := v5.2.2.2.2.2.2.2) h16) (As := []) (rest := [.ref (v 0)]) (wr := (wV (x_y X) v (b 0) kp ak sb fa fl ln co ch gs op) ++ (wSt (x_y X) b z pr le ec wt sa ev) ++ (wSec (x_y X) c c_filled c_th c_ep c_rule c_cm c_vs c_es) ++ (wSb (x_y X) sb u7.1 v5.1 v5.2.1 v5.2.2.1 v5.2.2.2.1) ++ (wStr (x_y X) u7.2.1 u7.2.2 v5.2.2.2.2.1 v5.2.2.2.2.2.1 v5.2.2.2.2.2.2.1 v5.2.2.2.2.2.2.2)) (ws' := fun u17 => (wV (x_y X) v (b 0) kp ak sb fa fl ln co ch gs op) ++ (wSt (x_y X) b z pr le ec wt sa ev) ++ (wSec (x_y X) c c_filled c_th c_ep c_rule c_cm c_vs c_es) ++ (wSb (x_y X) sb u7.1 v5.1 v5.2.1 v5.2.2.1 v5.2.2.2.1) ++ (wStr (x_y X) u7.2.1 u7.2.2 v5.2.2.2.2.1 v5.2.2.2.2.2.1 v5.2.2.2.2.2.2.1 v5.2.2.2.2.2.2.2) ++ (wPR (x_y X) q11 u17 u7.2.1 v15.2.1 v15.2.2.1 v12.2.2.1 v15.2.2.2)) (st' := fun u17 => [.int v15.1, .ref (v 0)]) (ci := 6) 0 17 ⟨_, rfl⟩ rfl rfl mw_5_159 mw_1_30 mw_5_156 mw_5_157 mw_5_158 hd_X4_read rfl (g_rm hR rfl rfl) [17, 18] [0, 1, 2, 3, 4, 5, 6, 7, 8, 9, 10, 11, 12, 13, 14, 15, 16] [0, 1, 2, 3, 4, 5, 6, 7, 8, 9, 10, 11, 12, 13, 14, 15, 16, 17, 18] ⟨rfl, rfl, rfl, rfl, by decide, gRoIn_p [15, 16] rfl (by decide), rfl, fun _ => rfl⟩ rfl (Nat.le_of_ble_eq_true rfl) dX10_setPolicy_35 (g_rc hR (Nat.le_of_ble_eq_true rfl) (Nat.le_of_ble_eq_true rfl)) (ck' := 7) (sk' := 244) rfl rfl (fun _ => rfl) (fun u17 _ => ?_) (fun _ hx => absurd rfl hx)
    refine g_sub [0, 1, 2, 3, 4, 5, 6, 7, 8, 9, 10, 11, 12, 13, 14, 15, 16] (ws' := (wV (x_y X) v (b 0) kp ak sb fa fl ln co ch gs op) ++ (wSt (x_y X) b z pr le ec wt sa ev) ++ (wSec (x_y X) c c_filled c_th c_ep c_rule c_cm c_vs c_es) ++ (wSb (x_y X) sb u7.1 v5.1 v5.2.1 v5.2.2.1 v5.2.2.2.1) ++ (wStr (x_y X) u7.2.1 u7.2.2 v5.2.2.2.2.1 v5.2.2.2.2.2.1 v5.2.2.2.2.2.2.1 v5.2.2.2.2.2.2.2)) (by decide) rfl ?_
    refine gW.locals [2, 3, 1, 0] rfl ?_
    exact H38 u7.1 u7.2.1 u7.2.2 fa v5.1 v5.2.1 v5.2.2.1 v5.2.2.2.1 v5.2.2.2.2.1 v5.2.2.2.2.2.1 v5.2.2.2.2.2.2.1 v5.2.2.2.2.2.2.2 v15.1 hf
  · have hf := opt_neg c10 hf
    refine g_iconst C (v := (-1)) dX10_setPolicy_23 (by decide) ?_
    refine g_goto C 38 dX10_setPolicy_24 (by decide) ?_
    refine gW.locals [2, 3, 1, 0] rfl ?_
    refine g_wide (ck' := 7) (sk' := 244) (Nat.le_of_ble_eq_true rfl) (Nat.le_of_ble_eq_true rfl) ?_
    exact H38 u7.1 u7.2.1 u7.2.2 fa v5.1 v5.2.1 v5.2.2.1 v5.2.2.2.1 v5.2.2.2.2.1 v5.2.2.2.2.2.1 v5.2.2.2.2.2.2.1 v5.2.2.2.2.2.2.2 (-1) hf
/-! X10_append -/
theorem hd_X10_append : yX10_append.cls ≠ "java/lang/invoke/MethodHandle" ∧ yX10_append.cls ≠ "java/lang/invoke/VarHandle" ∧ (parseMethodDescriptor yX10_append.desc).map (fun d => d.parameters.length) = some 1 := by decide +kernel
def F_X10_append_L122  (K93 : Int32 → Nat → (Nat → Int32) → Int32 → Option (Nat × Int32 × Int32 × Nat × (Nat → Int32))) (n_122 : Int32) (cap_122 : Nat) (bs_122 : Nat → Int32) (l3_122 : Int32) : Option (Nat × Int32 × Int32 × Nat × (Nat → Int32)) := K93 n_122 cap_122 bs_122 (l3_122 + (-8))
def F_X10_append_L93 (p0 : Int32)  : Nat → Int32 → Nat → (Nat → Int32) → Int32 → Option (Nat × Int32 × Int32 × Nat × (Nat → Int32))
  | 0, _, _, _, _ => none
  | n + 1, n_93, cap_93, bs_93, l3_93 => if l3_93 < 0 then ((F_J4_length_8abf5 n_93).bind fun v6 => some (0, v6, n_93, cap_93, bs_93)) else (gl (((Int32.toUInt32 p0 >>> (Int32.toUInt32 l3_93 &&& Int32.toUInt32 31)).toInt32) &&& 255) fun x8 => if x8 = 0 then (F_X10_append_L122 (F_X10_append_L93 p0 n) n_93 cap_93 bs_93 l3_93) else ((F_J4_append_cf468 n_93 cap_93 bs_93 ((Int32.toUInt32 x8 % 65536).toInt32)).bind fun v10 => F_X10_append_L122 (F_X10_append_L93 p0 n) v10.1 v10.2.1 v10.2.2 l3_93))
def F_X10_append_L58  (K5 : Int32 → Nat → (Nat → Int32) → Int32 → Int32 → Option (Nat × Int32 × Int32 × Nat × (Nat → Int32))) (n_58 : Int32) (cap_58 : Nat) (bs_58 : Nat → Int32) (l3_58 : Int32) (s0_58 : Int32) (s1_58 : Int32) : Option (Nat × Int32 × Int32 × Nat × (Nat → Int32)) := K5 n_58 cap_58 bs_58 (s1_58 + s0_58) (l3_58 + (-8))
def F_X10_append_L47  (K5 : Int32 → Nat → (Nat → Int32) → Int32 → Int32 → Option (Nat × Int32 × Int32 × Nat × (Nat → Int32))) (n_47 : Int32) (cap_47 : Nat) (bs_47 : Nat → Int32) (l2_47 : Int32) (l3_47 : Int32) (l4_47 : Int32) : Option (Nat × Int32 × Int32 × Nat × (Nat → Int32)) := if l4_47 = 0 then (F_X10_append_L58 K5 n_47 cap_47 bs_47 l3_47 0 l2_47) else (F_X10_append_L58 K5 n_47 cap_47 bs_47 l3_47 1 l2_47)
def F_X10_append_L37   (n_37 : Int32) (cap_37 : Nat) (bs_37 : Nat → Int32) : Option (Nat × Int32 × Int32 × Nat × (Nat → Int32)) := some (2, 0, n_37, cap_37, bs_37)
def F_X10_append_L5 (p0 : Int32)  : Nat → Int32 → Nat → (Nat → Int32) → Int32 → Int32 → Option (Nat × Int32 × Int32 × Nat × (Nat → Int32))
  | 0, _, _, _, _, _ => none
  | n + 1, n_5, cap_5, bs_5, l2_5, l3_5 => if l3_5 < 0 then ((F_J4_length_8abf5 n_5).bind fun v2 => if (v2 + l2_5) ≤ 40 then (F_X10_append_L93 p0 8 n_5 cap_5 bs_5 24) else (some (5, 0, n_5, cap_5, bs_5))) else (gl (((Int32.toUInt32 p0 >>> (Int32.toUInt32 l3_5 &&& Int32.toUInt32 31)).toInt32) &&& 255) fun x13 => if x13 = 0 then (F_X10_append_L47 (F_X10_append_L5 p0 n) n_5 cap_5 bs_5 l2_5 l3_5 x13) else (if x13 < 33 then (F_X10_append_L37 n_5 cap_5 bs_5) else (if x13 ≤ 126 then (F_X10_append_L47 (F_X10_append_L5 p0 n) n_5 cap_5 bs_5 l2_5 l3_5 x13) else (F_X10_append_L37 n_5 cap_5 bs_5))))
def F_X10_append (n : Int32) (cap : Nat) (bs : Nat → Int32) (p0 : Int32) : Option (Nat × Int32 × Int32 × Nat × (Nat → Int32)) := F_X10_append_L5 p0 1000 n cap bs 0 24
set_option maxRecDepth 100000 in
set_option maxHeartbeats 4000000 in
theorem c_X10_append {l : Launch} {D : va_G} {cy : Nat → ClassId} {v : Nat → Nat} {sb sy : Nat} {nw : Nat} {kp : Nat} {ak : Int32} {fa : Int32} {fl : Nat} {ln : Nat} {co : Nat → Int32} {ch : Nat → Int32} {gs : Nat → Int32} {op : Nat → Int32} {ml : Int32} {n : Int32} {cap : Nat} {bs : Nat → Int32} {p0 : Int32}  {val : Nat × Int32 × Int32 × Nat × (Nat → Int32)} (hf : F_X10_append n cap bs p0 = some val) : gCt l D cy yX10_append cX10_append 5 (some .int) 6 133 9 720 [.ref (v 0), .int p0] [] ((wV cy v nw kp ak sb fa fl ln co ch gs op) ++ (wSb cy sb sy ml n cap bs)) val.1 (fun u : Nat => some (.int val.2.1)) (fun u => (wV cy v nw kp ak sb fa fl ln co ch gs op) ++ (wSb cy sb u ml val.2.2.1 val.2.2.2.1 val.2.2.2.2)) := by
  refine g_begin (by decide +kernel) (Nat.le_of_ble_eq_true rfl) ?_
  intro X Q hl hR hD hy hro hn C hin E
  subst hl; subst hD; subst hy
  replace C : gC X "SecretVault" cX10_append (some .int) := C
  unfold F_X10_append at hf
  have H93 : ∀ (n93 : Nat), ∀ (ck93 sk93 : Nat), ck93 + 1 * n93 ≤ 8 → sk93 + 80 * n93 ≤ 640 → ∀ (a1_1_93 : Nat) (n_93 : Int32) (cap_93 : Nat) (bs_93 : Nat → Int32) (l3_93 : Int32), F_X10_append_L93 p0 n93 n_93 cap_93 bs_93 l3_93 = some val → gW X Q (ck93 + 0) (sk93 + 0) ((wV (x_y X) v nw kp ak sb fa fl ln co ch gs op) ++ (wSb (x_y X) sb a1_1_93 ml n_93 cap_93 bs_93)) [(0, .ref (v 0)), (1, .int p0), (3, .int l3_93)] [] 93 := by
    intro n93
    induction n93 with
    | zero => intros; rename_i hf; cases hf
    | succ n93 ih =>
      intro ck93 sk93 hck93 hsk93 a1_1_93 n_93 cap_93 bs_93 l3_93 hf
      have H93 := ih
      rw [F_X10_append_L93] at hf
      have H122 : ∀ (a1_1_122 : Nat) (n_122 : Int32) (cap_122 : Nat) (bs_122 : Nat → Int32) (l3_122 : Int32), F_X10_append_L122 (F_X10_append_L93 p0 n93) n_122 cap_122 bs_122 l3_122 = some val → gW X Q (ck93 + 1) (sk93 + 80) ((wV (x_y X) v nw kp ak sb fa fl ln co ch gs op) ++ (wSb (x_y X) sb a1_1_122 ml n_122 cap_122 bs_122)) [(0, .ref (v 0)), (1, .int p0), (3, .int l3_122)] [] 122 := by
        intro a1_1_122 n_122 cap_122 bs_122 l3_122 hf
        unfold F_X10_append_L122 at hf
        refine g_iinc C 2 (v := l3_122 + (-8)) (lv' := [(3, .int (l3_122 + (-8))), (0, .ref (v 0)), (1, .int p0)]) dX10_append_122 rfl rfl (g_nlt hn rfl) rfl ?_
        refine g_goto C 93 dX10_append_125 (by decide) ?_
        refine gW.locals [1, 2, 0] rfl ?_
        exact H93 (ck93 + 1) (sk93 + 80) (by omega) (by omega) a1_1_122 n_122 cap_122 bs_122 (l3_122 + (-8)) hf
      refine g_iload_n C 2 dX10_append_93 rfl ?_
      refine g_if_lt C 128 dX10_append_94 (by decide) (fun c5 => ?_) (fun c5 => ?_)
      · have hf := opt_pos c5 hf
        refine g_aload_n C 0 dX10_append_128 rfl ?_
        refine g_get C 0 3 rfl rfl wiX10 (by decide) mw_1_174 rfl rfl dX10_append_129 ?_
        obtain ⟨v6, h7, hf⟩ := opt_bind hf
        refine g_callV C (c_J4_length_8abf5 (l := x_l X) (D := x_D X) (cy := x_y X) (sb := sb) (sy := a1_1_93) (ml := ml) (n := n_93) (cap := cap_93) (bs := bs_93) h7) (As := []) (rest := []) (wr := (wV (x_y X) v nw kp ak sb fa fl ln co ch gs op) ++ (wSb (x_y X) sb a1_1_93 ml n_93 cap_93 bs_93)) (ws' := fun _ => (wV (x_y X) v nw kp ak sb fa fl ln co ch gs op) ++ (wSb (x_y X) sb a1_1_93 ml n_93 cap_93 bs_93)) (st' := fun _ => [.int v6]) (ci := 1) 0 5 ⟨_, rfl⟩ rfl rfl mw_4_162 mw_1_5 mw_5_23 mw_4_161 mw_8_169 hd_J4_length_8abf5 rfl (g_rm hR rfl rfl) [] [0, 1, 2, 3, 4, 5, 6] [0, 1, 2, 3, 4, 5, 6] ⟨rfl, rfl, rfl, rfl, by decide, gRoIn_p [5, 6] rfl (by decide), rfl, fun _ => rfl⟩ rfl (Nat.le_of_ble_eq_true rfl) dX10_append_132 (g_rc hR (by omega) (by omega)) (ck' := ck93 + 0) (sk' := sk93 + 0) rfl rfl (fun _ => rfl) (fun _ _ => ?_) (fun _ hx => absurd rfl hx)
        refine g_eqw (ws' := (wV (x_y X) v nw kp ak sb fa fl ln co ch gs op) ++ (wSb (x_y X) sb a1_1_93 ml n_93 cap_93 bs_93)) rfl ?_
        obtain rfl := Option.some.inj hf
        exact g_iret C E a1_1_93 dX10_append_135 rfl rfl rfl (by omega) (by omega)
      · have hf := opt_neg c5 hf
        refine g_iload_n C 1 dX10_append_97 rfl ?_
        refine g_iload_n C 2 dX10_append_98 rfl ?_
        refine g_iushr C dX10_append_99 ?_
        refine g_sipush C (v := 255) dX10_append_100 (by decide) ?_
        refine g_iand C dX10_append_103 ?_
        obtain ⟨x8, ex8, hf⟩ := opt_let hf
        refine g_topi ex8 ?_
        refine g_istore C (lv' := [(4, .int x8), (0, .ref (v 0)), (1, .int p0), (3, .int l3_93)]) dX10_append_104 (g_nlt hn rfl) rfl ?_
        refine g_iload C 0 dX10_append_106 rfl ?_
        refine g_if_eq C 122 dX10_append_108 (by decide) (fun c9 => ?_) (fun c9 => ?_)
        · have hf := opt_pos c9 hf
          refine gW.locals [1, 2, 3] rfl ?_
          refine g_wide (ck' := ck93 + 1) (sk' := sk93 + 80) (by omega) (by omega) ?_
          exact H122 a1_1_93 n_93 cap_93 bs_93 l3_93 hf
        · have hf := opt_neg c9 hf
          refine g_aload_n C 1 dX10_append_111 rfl ?_
          refine g_get C 0 3 rfl rfl wiX10 (by decide) mw_1_174 rfl rfl dX10_append_112 ?_
          refine g_iload C 0 dX10_append_115 rfl ?_
          refine g_i2c C dX10_append_117 ?_
          obtain ⟨v10, h11, hf⟩ := opt_bind hf
          refine g_callV C (c_J4_append_cf468 (l := x_l X) (D := x_D X) (cy := x_y X) (sb := sb) (sy := a1_1_93) (ml := ml) (n := n_93) (cap := cap_93) (bs := bs_93) (p0 := (Int32.toUInt32 x8 % 65536).toInt32) h11) (As := [.int ((Int32.toUInt32 x8 % 65536).toInt32)]) (rest := []) (wr := (wV (x_y X) v nw kp ak sb fa fl ln co ch gs op)) (ws' := fun u12 => (wV (x_y X) v nw kp ak sb fa fl ln co ch gs op) ++ (wSb (x_y X) sb u12 ml v10.1 v10.2.1 v10.2.2)) (st' := fun u12 => [.ref sb]) (ci := 1) 1 5 ⟨_, rfl⟩ rfl rfl mw_5_1 mw_1_5 mw_4_238 mw_4_239 mw_5_0 hd_J4_append_cf468 rfl (g_rm hR rfl rfl) [5, 6] [0, 1, 2, 3, 4] [0, 1, 2, 3, 4, 5, 6] ⟨rfl, rfl, rfl, rfl, by decide, gRoIn_0, rfl, fun _ => rfl⟩ rfl (Nat.le_of_ble_eq_true rfl) dX10_append_118 (g_rc hR (by omega) (by omega)) (ck' := ck93 + 1) (sk' := sk93 + 80) rfl rfl (fun _ => rfl) (fun u12 _ => ?_) (fun _ hx => absurd rfl hx)
          refine g_pop C dX10_append_121 rfl ?_
          refine gW.locals [1, 2, 3] rfl ?_
          exact H122 u12 v10.1 v10.2.1 v10.2.2 l3_93 hf
  have H37 : ∀ (a1_1_37 : Nat) (n_37 : Int32) (cap_37 : Nat) (bs_37 : Nat → Int32), F_X10_append_L37 n_37 cap_37 bs_37 = some val → gW X Q 0 0 ((wV (x_y X) v nw kp ak sb fa fl ln co ch gs op) ++ (wSb (x_y X) sb a1_1_37 ml n_37 cap_37 bs_37)) [(0, .ref (v 0)), (1, .int p0)] [] 37 := by
    intro a1_1_37 n_37 cap_37 bs_37 hf
    unfold F_X10_append_L37 at hf
    refine g_eqw (ws' := (wV (x_y X) v nw kp ak sb fa fl ln co ch gs op) ++ (wSb (x_y X) sb a1_1_37 ml n_37 cap_37 bs_37)) rfl ?_
    obtain rfl := Option.some.inj hf
    exact g_throwS C E a1_1_37 (text := "a character is not from 33 to 126") gTh_2 ms_243 dX10_append_37 dX10_append_40 dX10_append_41 dX10_append_43 dX10_append_46 (g_th hR rfl rfl) (g_rc hR (Nat.le_of_ble_eq_true rfl) (Nat.le_of_ble_eq_true rfl)) (Nat.succ_ne_zero 1) rfl rfl (Nat.le_of_ble_eq_true rfl) (Nat.le_of_ble_eq_true rfl)
  have H5 : ∀ (n5 : Nat), ∀ (a1_1_5 : Nat) (n_5 : Int32) (cap_5 : Nat) (bs_5 : Nat → Int32) (l2_5 : Int32) (l3_5 : Int32), F_X10_append_L5 p0 n5 n_5 cap_5 bs_5 l2_5 l3_5 = some val → gW X Q 0 0 ((wV (x_y X) v nw kp ak sb fa fl ln co ch gs op) ++ (wSb (x_y X) sb a1_1_5 ml n_5 cap_5 bs_5)) [(0, .ref (v 0)), (1, .int p0), (2, .int l2_5), (3, .int l3_5)] [] 5 := by
    intro n5
    induction n5 with
    | zero => intros; rename_i hf; cases hf
    | succ n5 ih =>
      intro a1_1_5 n_5 cap_5 bs_5 l2_5 l3_5 hf
      have H5 := ih
      rw [F_X10_append_L5] at hf
      have H58 : ∀ (a1_1_58 : Nat) (n_58 : Int32) (cap_58 : Nat) (bs_58 : Nat → Int32) (l3_58 : Int32) (s0_58 : Int32) (s1_58 : Int32), F_X10_append_L58 (F_X10_append_L5 p0 n5) n_58 cap_58 bs_58 l3_58 s0_58 s1_58 = some val → gW X Q 0 0 ((wV (x_y X) v nw kp ak sb fa fl ln co ch gs op) ++ (wSb (x_y X) sb a1_1_58 ml n_58 cap_58 bs_58)) [(0, .ref (v 0)), (1, .int p0), (3, .int l3_58)] [.int s0_58, .int s1_58] 58 := by
        intro a1_1_58 n_58 cap_58 bs_58 l3_58 s0_58 s1_58 hf
        unfold F_X10_append_L58 at hf
        refine g_iadd C dX10_append_58 ?_
        refine g_istore_n C (lv' := [(2, .int (s1_58 + s0_58)), (0, .ref (v 0)), (1, .int p0), (3, .int l3_58)]) dX10_append_59 (g_nlt hn rfl) rfl ?_
        refine g_iinc C 3 (v := l3_58 + (-8)) (lv' := [(3, .int (l3_58 + (-8))), (2, .int (s1_58 + s0_58)), (0, .ref (v 0)), (1, .int p0)]) dX10_append_60 rfl rfl (g_nlt hn rfl) rfl ?_
        refine g_goto C 5 dX10_append_63 (by decide) ?_
        refine gW.locals [2, 3, 1, 0] rfl ?_
        exact H5 a1_1_58 n_58 cap_58 bs_58 (s1_58 + s0_58) (l3_58 + (-8)) hf
      have H47 : ∀ (a1_1_47 : Nat) (n_47 : Int32) (cap_47 : Nat) (bs_47 : Nat → Int32) (l2_47 : Int32) (l3_47 : Int32) (l4_47 : Int32), F_X10_append_L47 (F_X10_append_L5 p0 n5) n_47 cap_47 bs_47 l2_47 l3_47 l4_47 = some val → gW X Q 0 0 ((wV (x_y X) v nw kp ak sb fa fl ln co ch gs op) ++ (wSb (x_y X) sb a1_1_47 ml n_47 cap_47 bs_47)) [(0, .ref (v 0)), (1, .int p0), (2, .int l2_47), (3, .int l3_47), (4, .int l4_47)] [] 47 := by
        intro a1_1_47 n_47 cap_47 bs_47 l2_47 l3_47 l4_47 hf
        unfold F_X10_append_L47 at hf
        refine g_iload_n C 2 dX10_append_47 rfl ?_
        refine g_iload C 4 dX10_append_48 rfl ?_
        refine g_if_ne C 57 dX10_append_50 (by decide) (fun c15 => ?_) (fun c15 => ?_)
        · have hf := opt_neg c15 hf
          refine g_iconst C (v := 1) dX10_append_57 (by decide) ?_
          refine gW.locals [0, 1, 3] rfl ?_
          exact H58 a1_1_47 n_47 cap_47 bs_47 l3_47 1 l2_47 hf
        · have hf := opt_pos c15 hf
          refine g_iconst C (v := 0) dX10_append_53 (by decide) ?_
          refine g_goto C 58 dX10_append_54 (by decide) ?_
          refine gW.locals [0, 1, 3] rfl ?_
          exact H58 a1_1_47 n_47 cap_47 bs_47 l3_47 0 l2_47 hf
      refine g_iload_n C 3 dX10_append_5 rfl ?_
      refine g_if_lt C 66 dX10_append_6 (by decide) (fun c1 => ?_) (fun c1 => ?_)
      · have hf := opt_pos c1 hf
        refine g_aload_n C 0 dX10_append_66 rfl ?_
        refine g_get C 0 3 rfl rfl wiX10 (by decide) mw_1_174 rfl rfl dX10_append_67 ?_
        obtain ⟨v2, h3, hf⟩ := opt_bind hf
        refine g_callV C (c_J4_length_8abf5 (l := x_l X) (D := x_D X) (cy := x_y X) (sb := sb) (sy := a1_1_5) (ml := ml) (n := n_5) (cap := cap_5) (bs := bs_5) h3) (As := []) (rest := []) (wr := (wV (x_y X) v nw kp ak sb fa fl ln co ch gs op) ++ (wSb (x_y X) sb a1_1_5 ml n_5 cap_5 bs_5)) (ws' := fun _ => (wV (x_y X) v nw kp ak sb fa fl ln co ch gs op) ++ (wSb (x_y X) sb a1_1_5 ml n_5 cap_5 bs_5)) (st' := fun _ => [.int v2]) (ci := 1) 0 5 ⟨_, rfl⟩ rfl rfl mw_4_162 mw_1_5 mw_5_23 mw_4_161 mw_8_169 hd_J4_length_8abf5 rfl (g_rm hR rfl rfl) [] [0, 1, 2, 3, 4, 5, 6] [0, 1, 2, 3, 4, 5, 6] ⟨rfl, rfl, rfl, rfl, by decide, gRoIn_p [5, 6] rfl (by decide), rfl, fun _ => rfl⟩ rfl (Nat.le_of_ble_eq_true rfl) dX10_append_70 (g_rc hR (Nat.le_of_ble_eq_true rfl) (Nat.le_of_ble_eq_true rfl)) (ck' := 0) (sk' := 0) rfl rfl (fun _ => rfl) (fun _ _ => ?_) (fun _ hx => absurd rfl hx)
        refine g_iload_n C 2 dX10_append_73 rfl ?_
        refine g_iadd C dX10_append_74 ?_
        refine g_bipush C (v := 40) dX10_append_75 (by decide) ?_
        refine g_icmp_le C 90 dX10_append_77 (by decide) (fun c4 => ?_) (fun c4 => ?_)
        · have hf := opt_pos c4 hf
          refine g_bipush C (v := 24) dX10_append_90 (by decide) ?_
          refine g_istore_n C (lv' := [(3, .int 24), (0, .ref (v 0)), (1, .int p0), (2, .int l2_5)]) dX10_append_92 (g_nlt hn rfl) rfl ?_
          refine gW.locals [1, 2, 0] rfl ?_
          exact H93 8 (0) (0) (by omega) (by omega) a1_1_5 n_5 cap_5 bs_5 24 hf
        · have hf := opt_neg c4 hf
          refine g_eqw (ws' := (wV (x_y X) v nw kp ak sb fa fl ln co ch gs op) ++ (wSb (x_y X) sb a1_1_5 ml n_5 cap_5 bs_5)) rfl ?_
          obtain rfl := Option.some.inj hf
          exact g_throwS C E a1_1_5 (text := "the buffer would hold too many characters") gTh_5 ms_245 dX10_append_80 dX10_append_83 dX10_append_84 dX10_append_86 dX10_append_89 (g_th hR rfl rfl) (g_rc hR (Nat.le_of_ble_eq_true rfl) (Nat.le_of_ble_eq_true rfl)) (Nat.succ_ne_zero 4) rfl rfl (Nat.le_of_ble_eq_true rfl) (Nat.le_of_ble_eq_true rfl)
      · have hf := opt_neg c1 hf
        refine g_iload_n C 1 dX10_append_9 rfl ?_
        refine g_iload_n C 3 dX10_append_10 rfl ?_
        refine g_iushr C dX10_append_11 ?_
        refine g_sipush C (v := 255) dX10_append_12 (by decide) ?_
        refine g_iand C dX10_append_15 ?_
        obtain ⟨x13, ex13, hf⟩ := opt_let hf
        refine g_topi ex13 ?_
        refine g_istore C (lv' := [(4, .int x13), (0, .ref (v 0)), (1, .int p0), (2, .int l2_5), (3, .int l3_5)]) dX10_append_16 (g_nlt hn rfl) rfl ?_
        refine g_iload C 0 dX10_append_18 rfl ?_
        refine g_if_eq C 47 dX10_append_20 (by decide) (fun c14 => ?_) (fun c14 => ?_)
        · have hf := opt_pos c14 hf
          refine gW.locals [1, 2, 3, 4, 0] rfl ?_
          exact H47 a1_1_5 n_5 cap_5 bs_5 l2_5 l3_5 x13 hf
        · have hf := opt_neg c14 hf
          refine g_iload C 0 dX10_append_23 rfl ?_
          refine g_bipush C (v := 33) dX10_append_25 (by decide) ?_
          refine g_icmp_lt C 37 dX10_append_27 (by decide) (fun c16 => ?_) (fun c16 => ?_)
          · have hf := opt_pos c16 hf
            refine gW.locals [1, 2] rfl ?_
            exact H37 a1_1_5 n_5 cap_5 bs_5 hf
          · have hf := opt_neg c16 hf
            refine g_iload C 0 dX10_append_30 rfl ?_
            refine g_bipush C (v := 126) dX10_append_32 (by decide) ?_
            refine g_icmp_le C 47 dX10_append_34 (by decide) (fun c17 => ?_) (fun c17 => ?_)
            · have hf := opt_pos c17 hf
              refine gW.locals [1, 2, 3, 4, 0] rfl ?_
              exact H47 a1_1_5 n_5 cap_5 bs_5 l2_5 l3_5 x13 hf
            · have hf := opt_neg c17 hf
              refine gW.locals [1, 2] rfl ?_
              exact H37 a1_1_5 n_5 cap_5 bs_5 hf
  show gW X Q 0 0 ((wV (x_y X) v nw kp ak sb fa fl ln co ch gs op) ++ (wSb (x_y X) sb sy ml n cap bs)) [(0, .ref (v 0)), (1, .int p0)] [] 0
  refine g_iconst C (v := 0) dX10_append_0 (by decide) ?_
  refine g_istore_n C (lv' := [(2, .int 0), (0, .ref (v 0)), (1, .int p0)]) dX10_append_1 (g_nlt hn rfl) rfl ?_
  refine g_bipush C (v := 24) dX10_append_2 (by decide) ?_
  refine g_istore_n C (lv' := [(3, .int 24), (2, .int 0), (0, .ref (v 0)), (1, .int p0)]) dX10_append_4 (g_nlt hn rfl) rfl ?_
  refine gW.locals [2, 3, 1, 0] rfl ?_
  exact H5 1000 sy n cap bs 0 24 hf
