/-! PURE: shareText -/
set_option maxRecDepth 20000 in
theorem q_chr2 : ∀ b, b < 127 → (Int32.toUInt32 (nI b &&& 255) % 65536).toInt32 = nI b ∧ gnar .char (nI b) = true := by decide
theorem z_charAt {N cap i : Nat} {bf : Nat → Nat} (h : Bf N cap bf) (hi : i < N) : F_J4_charAt_5068e (nI N) cap (L bf) (nI i) = some (nI (bf i)) := by
  obtain ⟨h1, h2, h3⟩ := h
  have hb := q_chr2 (bf i) (by have := h3 i; omega)
  unfold F_J4_charAt_5068e F_J5_charAt_5068e
  refine ob (x := nI (bf i)) ?_ ?_
  · refine ob (x := nI N) ?_ ?_
    · unfold F_J9_min_7cf53 F_J9_min_7cf53_L10
      rw [q_cap]
      exact if_neg (nI_nlt h2 (by omega))
    · refine ob (x := ()) ?_ ?_
      · unfold F_J0_checkIndex_df160 F_J3_checkIndex_8e157_N
        refine ob (x := nI i) ?_ rfl
        exact (if_neg (show ¬ nI i < nI 0 from nI_nlt (by omega) (by omega))).trans (if_pos (nI_lt hi (by omega)))
      · rw [q_gi (show i < cap by omega) (by omega), q_gg, q_cl (show i < 2 ^ 31 by omega), L_app, hb.1, hb.2, q_gg]
  · rw [hb.2, q_gg]
theorem z_setLen0 {N cap : Nat} {ml : Int32} {bs : Nat → Int32} (hc : cap < 1000) (hN : N ≤ cap) : ∃ ml', F_J4_setLength_d00df ml (nI N) cap bs 0 = some (ml', 0, cap, bs) := by
  unfold F_J4_setLength_d00df F_J5_setLength_d00df F_J5_setLength_d00df_L76
  have h2 : (0 : Int32) ≤ nI N := nI_le (Nat.zero_le N) (by omega)
  by_cases h : nI N ≤ 0
  · refine ⟨ml, ob (x := (ml, 0, cap, bs)) ?_ rfl⟩
    refine (if_pos (by decide)).trans (ob (z_ens (n := 0) hc (by omega)) ?_)
    exact (if_pos h2).trans (if_pos h)
  · refine ⟨1, ob (x := (1, 0, cap, bs)) ?_ rfl⟩
    refine (if_pos (by decide)).trans (ob (z_ens (n := 0) hc (by omega)) ?_)
    exact (if_pos h2).trans (if_neg h)
def TR (N : Nat) (bf pp : Nat → Nat) : Prop := ∀ i, i < N → bf i = pp i
theorem dsz_le (a : Nat) : 1 ≤ dsz a ∧ dsz a ≤ 4 ∧ (a < 100 → dsz a ≤ 2) ∧ (a < 10 → dsz a = 1) := by
  unfold dsz
  by_cases h1 : a < 10
  · rw [if_pos h1]; omega
  rw [if_neg h1]
  by_cases h2 : a < 100
  · rw [if_pos h2]; omega
  rw [if_neg h2]
  split <;> omega
theorem t_num {N cap a : Nat} {bf pp : Nat → Nat} (h : Bf N cap bf) (hT : TR N bf pp) (ha : a < 10000) (hN : N + dsz a ≤ 16) : ∃ bf' pp', F_J4_append_bf812 (nI N) cap (L bf) (nI a) = some (nI (N + dsz a), cap, L bf') ∧ F_X11_writesNumber (L pp) (nI N) (nI a) = some (L pp', nI (N + dsz a)) ∧ Bf (N + dsz a) cap bf' ∧ TR (N + dsz a) bf' pp' := by
  have hc : 16 ≤ cap := by have := h.1; omega
  obtain ⟨bf', a1, a2, a3, a4⟩ := z_appi h ha (by omega)
  have := (dsz_le a).2.1
  obtain ⟨pp', b1, b2, b3⟩ := z_wn (pp := pp) (P := N) ha (by omega)
  refine ⟨bf', pp', a1, b1, a2, fun i hi => ?_⟩
  by_cases h2 : i < N
  · rw [a3 i h2, b2 i h2, hT i h2]
  · have := a4 (i - N) (by omega)
    have h5 := b3 (i - N) (by omega)
    rw [show N + (i - N) = i by omega] at this h5
    rw [this, h5]
theorem t_chr {N cap b : Nat} {bf pp : Nat → Nat} (h : Bf N cap bf) (hT : TR N bf pp) (hN : N < 40) (hb : b ≤ 126) : ∃ cap' bf' pp', F_J4_append_cf468 (nI N) cap (L bf) (nI b) = some (nI (N + 1), cap', L bf') ∧ F_X11_writes (L pp) (nI N) (nI b) = some (L pp', nI (N + 1)) ∧ Bf (N + 1) cap' bf' ∧ TR (N + 1) bf' pp' := by
  obtain ⟨cap', bf', a1, a2, a3, a4⟩ := z_appc h (by omega) hb
  refine ⟨cap', bf', _, a1, z_wr (by omega) (by omega), a2, fun i hi => ?_⟩
  by_cases h2 : i = N
  · rw [h2, a4, uN_s]
  · rw [a3 i (by omega), uN_n _ _ h2, hT i (by omega)]
theorem z_digit {p v e : Nat} (hp : p < 100) (hv : v < 10000) (he : e < 10000) : F_X2_checkDigit (nI p) (nI v) (nI e) = some (nI ((7 * p + 3 * v + e) % 10)) ∧ F_X11_lastDigit (nI p) (nI v) (nI e) = some (nI ((7 * p + 3 * v + e) % 10)) := by
  have x : ((((7 : Int32) * nI p) + ((3 : Int32) * nI v)) + nI e) - ((((7 : Int32) * nI p) + ((3 : Int32) * nI v)) + nI e) / 10 * 10 = nI ((7 * p + 3 * v + e) % 10) := by
    show (((nI 7 * nI p) + (nI 3 * nI v)) + nI e) - (((nI 7 * nI p) + (nI 3 * nI v)) + nI e) / nI 10 * nI 10 = _
    rw [pk_mul, pk_mul, nI_add, nI_add, pk_div (by omega) (by omega) (by omega), pk_mul, pk_sub (by omega), q_mod]
  constructor
  · unfold F_X2_checkDigit
    rw [q_gl, x]
  · unfold F_X11_lastDigit
    rw [q_gl, x]
theorem z_texts {N cap p v e : Nat} {ml : Int32} {lf pp : Nat → Nat} (hL : Bf N cap lf) (hp : p ≤ 24) (hv : v < 1019) (he : e < 10000) : ∃ ml' M cap' bf' pp', M ≤ 14 ∧ 1 ≤ M ∧ F_X10_writeShare ml (nI N) cap (L lf) (nI p) (nI v) (nI e) = some (ml', nI M, cap', L bf') ∧ Bf M cap' bf' ∧ TR M bf' pp' ∧ ∀ {β : Type} (f : (Nat → Int32) × Int32 → Option β), ((F_X11_writesNumber (L pp) 0 (nI p)).bind fun v17 => (F_X11_writes v17.1 v17.2 58).bind fun v19 => (F_X11_writesNumber v19.1 v19.2 (nI v)).bind fun v21 => (F_X11_writes v21.1 v21.2 64).bind fun v23 => (F_X11_writesNumber v23.1 v23.2 (nI e)).bind fun v25 => (F_X11_writes v25.1 v25.2 35).bind fun v27 => (F_X11_lastDigit (nI p) (nI v) (nI e)).bind fun v29 => (F_X11_writes v27.1 v27.2 ((48 : Int32) + v29)).bind f) = f (L pp', nI M) := by
  have hc : cap < 1000 := by have := hL.1; omega
  obtain ⟨ml', hml⟩ := z_setLen0 (N := N) (ml := ml) (bs := L lf) hc hL.2.1
  have h0 : Bf 0 cap lf := ⟨hL.1, by omega, hL.2.2⟩
  have d1 := dsz_le p
  have d2 := dsz_le v
  have d3 := dsz_le e
  have d4 := dsz_le ((7 * p + 3 * v + e) % 10)
  obtain ⟨b1, q1, a1, r1, f1, t1⟩ := t_num (pp := pp) h0 (fun i hi => by omega) (show p < 10000 by omega) (by omega)
  obtain ⟨c2, b2, q2, a2, r2, f2, t2⟩ := t_chr (b := 58) f1 t1 (by omega) (by omega)
  obtain ⟨b3, q3, a3, r3, f3, t3⟩ := t_num f2 t2 (show v < 10000 by omega) (by omega)
  obtain ⟨c4, b4, q4, a4, r4, f4, t4⟩ := t_chr (b := 64) f3 t3 (by omega) (by omega)
  obtain ⟨b5, q5, a5, r5, f5, t5⟩ := t_num f4 t4 he (by omega)
  obtain ⟨c6, b6, q6, a6, r6, f6, t6⟩ := t_chr (b := 35) f5 t5 (by omega) (by omega)
  have hd : (7 * p + 3 * v + e) % 10 < 10 := Nat.mod_lt _ (by omega)
  obtain ⟨b7, a7, f7, e7, e8⟩ := z_appi f6 (show (7 * p + 3 * v + e) % 10 < 10000 by omega) (by have := f6.1; rw [d4.2.2.2 hd]; omega)
  have e9 := e8 0 (by omega)
  rw [d4.2.2.2 hd] at a7 f7
  rw [Nat.add_zero, (dch_10 hd).2] at e9
  obtain ⟨g1, g2⟩ := z_digit (p := p) (v := v) (e := e) (by omega) (by omega) he
  refine ⟨ml', 0 + dsz p + 1 + dsz v + 1 + dsz e + 1 + 1, c6, b7, updN q6 (0 + dsz p + 1 + dsz v + 1 + dsz e + 1) (48 + (7 * p + 3 * v + e) % 10), ?_, ?_, ?_, f7, fun i hi => ?_, ?_⟩
  · omega
  · omega
  · unfold F_X10_writeShare
    exact ob hml (ob a1 (ob a2 (ob a3 (ob a4 (ob a5 (ob a6 (ob g1 (ob a7 rfl))))))))
  · by_cases h2 : i = 0 + dsz p + 1 + dsz v + 1 + dsz e + 1
    · rw [h2, uN_s, e9]; omega
    · rw [e7 i (by omega), uN_n _ _ h2, t6 i (by omega)]
  · intro β f
    refine ob r1 (ob r2 (ob r3 (ob r4 (ob r5 (ob r6 (ob g2 ?_))))))
    refine ob ?_ rfl
    show F_X11_writes (L q6) (nI (0 + dsz p + 1 + dsz v + 1 + dsz e + 1)) (nI 48 + nI ((7 * p + 3 * v + e) % 10)) = _
    rw [nI_add]
    exact z_wr (by omega) (by omega)
theorem m_shareText {w cm vs es lf pp : Nat → Nat} {s c fi th ep N cap : Nat} {t x y ml pq : Int32} (hs : s < 4) (hR : RSl w s c fi th ep cm vs es) (hL : Bf N cap lf) (hS1 : F_X10_checkSlot (nI s) = some 0) (hS2 : F_X11_isSlot (nI s) = some (nI 1)) :
    ∃ e r b k ml' N' cap' lf' pp' pq', F_X10_shareText (nI fi) (L vs) (L es) ml (nI N) cap (L lf) (nI s) x y = some (e, r, ml', nI N', cap', L lf') ∧ F_X11_shareText t (L w) (L pp) pq (nI s) x y = some (b, k, L pp', pq') ∧ EK [(0, 0), (1, 1), (3, 2)] e k ∧ (e = 0 → r = b) ∧ Bf N' cap' lf' := by
  have hf := hR.1
  unfold F_X10_shareText F_X10_shareText_L82 F_X11_shareText F_X11_shareText_L19
  have n1 : ¬ nI 1 = 0 := by decide
  rcases a_place x with ⟨p, hp, hp2, rfl, h1, h2⟩ | ⟨h1, h2⟩
  · have hsw := z_swS (fi := fi) hs hf hp2 (hR.2.2.2.1.2.2.2.2 p hp2) (fun h => hR.2.2.2.2.2.1 h p hp hp2)
    have hhs := hR.2.2.1.has hs hp hp2
    by_cases hy : (-1 : Int32) ≤ y
    · have hti : F_X10_checkTextIndex y = some 0 := if_pos hy
      by_cases h0 : es p = 0
      · rw [if_pos h0] at hsw
        rw [h0] at hhs
        refine ⟨3, 0, nI 0, nI 2, ml, N, cap, lf, pp, pq, ?_, ?_, EK.of (by simp), fun h => by omega, hL⟩
        · refine ob hS1 ((if_pos rfl).trans (ob h1 ((if_pos rfl).trans (ob hti ((if_pos rfl).trans (ob hsw (if_neg (by decide))))))))
        · refine ob hS2 ((if_neg n1).trans (ob h2 ((if_neg n1).trans ((if_pos hy).trans (ob hhs ((if_pos (by decide)).trans ?_))))))
          rfl
      · rw [if_neg h0] at hsw
        have hhs' : F_X11_hasShare (L w) (nI s) (nI p) = some (nI 1) := by rw [hhs]; simp [h0]
        have hfi : fi = 1 := by
          have : ¬ fi = 0 := fun h => h0 (hR.2.2.2.2.2.1 h p hp hp2)
          omega
        subst hfi
        have hRS := hR.2.2.2.2.2.2 rfl
        have hok := hRS.2.1
        obtain ⟨ml', M, cap', bf', pp', m1, m0, m2, m3, m4, m5⟩ := z_texts (p := p) (v := vs p) (e := es p) (ml := ml) (pp := pp) hL hp2 (hok.2.2.2.1 p hp2) (hok.2.2.2.2 p hp2)
        have gi1 : gi (nI p) 25 = true := q_gi (by omega) (by omega)
        have hcl : Int32.toNatClampNeg (nI p) = p := q_cl (by omega)
        have L1 : ∀ (r : Int32) (z : Nat), (if y < nI M then (if 0 ≤ y then ((F_J4_charAt_5068e (nI M) cap' (L bf') y).bind fun v18 => some (0, v18, ml', nI M, cap', L bf')) else ((F_J4_length_8abf5 (nI M)).bind fun v20 => some (0, v20, ml', nI M, cap', L bf'))) else (some (3, 0, ml', nI M, cap', L bf'))) = some (z, r, ml', nI M, cap', L bf') → ((F_X10_checkSlot (nI s)).bind fun v1 => if v1 = 0 then ((F_X10_checkPlace (nI p)).bind fun v3 => if v3 = 0 then ((F_X10_checkTextIndex y).bind fun v5 => if v5 = 0 then ((F_X10_secretWithShare (nI 1) (L es) (nI s) (nI p)).bind fun v7 => if v7 = 0 then (gg (gi (nI p) 25) (gg (gi (nI p) 25) ((F_X10_writeShare ml (nI N) cap (L lf) (nI p) (L vs (Int32.toNatClampNeg (nI p))) (L es (Int32.toNatClampNeg (nI p)))).bind fun v11 => (F_J4_length_8abf5 v11.2.1).bind fun v14 => if y < v14 then (if 0 ≤ y then ((F_J4_charAt_5068e v11.2.1 v11.2.2.1 v11.2.2.2 y).bind fun v18 => some (0, v18, v11.1, v11.2.1, v11.2.2.1, v11.2.2.2)) else ((F_J4_length_8abf5 v11.2.1).bind fun v20 => some (0, v20, v11.1, v11.2.1, v11.2.2.1, v11.2.2.2))) else (some (3, 0, v11.1, v11.2.1, v11.2.2.1, v11.2.2.2))))) else some (v7, 0, ml, nI N, cap, L lf)) else some (v5, 0, ml, nI N, cap, L lf)) else some (v3, 0, ml, nI N, cap, L lf)) else some (v1, 0, ml, nI N, cap, L lf)) = some (z, r, ml', nI M, cap', L bf') := by
          intro r z hh
          refine ob hS1 ((if_pos rfl).trans (ob h1 ((if_pos rfl).trans (ob hti ((if_pos rfl).trans (ob hsw ((if_pos rfl).trans ?_)))))))
          rw [gi1, q_gg, q_gg, hcl]
          exact ob m2 (ob (x := nI M) rfl hh)
        have R1 : ∀ (b k : Int32), F_X11_paperAt t (L pp') (nI M) y = some (b, k) → F_X11_shareText t (L w) (L pp) pq (nI s) (nI p) y = some (b, k, L pp', nI M) := by
          intro b k hh
          unfold F_X11_shareText F_X11_shareText_L19
          exact ob hS2 ((if_neg n1).trans (ob h2 ((if_neg n1).trans ((if_pos hy).trans (ob hhs' ((if_neg n1).trans (ob (hRS.1.v hs hp hp2) (ob (hRS.1.e hs hp hp2) ((m5 (fun v31 => (F_X11_paperAt t v31.1 v31.2 y).bind fun v33 => some (v33.1, v33.2, v31.1, v31.2))).trans (ob (v := some (b, k, L pp', nI M)) hh rfl))))))))))
        rcases z_arg y M (by omega) (by omega) with ⟨i, hi, rfl⟩ | ⟨-, g2⟩
        · have hz : ¬ nI i < nI 0 := nI_nlt (by omega) (by omega)
          have hz2 : (0 : Int32) ≤ nI i := nI_le (Nat.zero_le i) (by omega)
          refine ⟨0, nI (bf' i), nI (pp' i), nI 0, ml', M, cap', bf', pp', nI M, L1 _ _ ?_, R1 _ _ ?_, EK.of (by simp), fun _ => by rw [m4 i hi], m3⟩
          · exact (if_pos (nI_lt hi (by omega))).trans ((if_pos hz2).trans (ob (z_charAt m3 hi) rfl))
          · unfold F_X11_paperAt F_X11_paperAt_L42
            have e1 : ¬ nI i = -1 := fun h => by rw [h] at hz2; revert hz2; decide
            refine (if_neg e1).trans ((if_neg (show ¬ nI M ≤ nI i from nI_ge hi (by omega))).trans ?_)
            rw [q_gi (show i < 100 by omega) (by omega), q_gg, q_cl (by omega)]
            rfl
        · rcases g2 with g2 | ⟨g2, g3⟩
          · have e1 : y = -1 := by
              apply Int32.toInt_inj.mp
              rw [Int32.lt_iff_toInt_lt] at g2
              rw [Int32.le_iff_toInt_le] at hy
              have a : (0 : Int32).toInt = 0 := by decide
              have b : (-1 : Int32).toInt = -1 := by decide
              omega
            subst e1
            refine ⟨0, nI M, nI M, nI 0, ml', M, cap', bf', pp', nI M, L1 _ _ ?_, R1 _ _ ?_, EK.of (by simp), fun _ => rfl, m3⟩
            · have : (-1 : Int32) < nI M := by
                rw [Int32.lt_iff_toInt_lt, nI_toInt (by omega)]
                have b : (-1 : Int32).toInt = -1 := by decide
                omega
              exact (if_pos this).trans ((if_neg (by decide)).trans rfl)
            · unfold F_X11_paperAt F_X11_paperAt_L42
              exact (if_pos rfl).trans rfl
          · have g4 : ¬ y < nI M := z_lt (by omega) ⟨g2, g3⟩
            refine ⟨3, 0, nI 0, nI 2, ml', M, cap', bf', pp', nI M, L1 _ _ (if_neg g4), R1 _ _ ?_, EK.of (by simp), fun h => by omega, m3⟩
            unfold F_X11_paperAt F_X11_paperAt_L42
            have e1 : ¬ y = -1 := fun h => by subst h; revert g2; decide
            exact (if_neg e1).trans ((if_pos g3).trans rfl)
    · have hti : F_X10_checkTextIndex y = some 1 := if_neg hy
      refine ⟨1, 0, nI 0, nI 1, ml, N, cap, lf, pp, pq, ?_, ?_, EK.of (by simp), fun h => by omega, hL⟩
      · exact ob hS1 ((if_pos rfl).trans (ob h1 ((if_pos rfl).trans (ob hti (if_neg (by decide))))))
      · refine ob hS2 ((if_neg n1).trans (ob h2 ((if_neg n1).trans ((if_neg hy).trans ?_))))
        rfl
  · refine ⟨1, 0, nI 0, nI 1, ml, N, cap, lf, pp, pq, ?_, ?_, EK.of (by simp), fun h => by omega, hL⟩
    · exact ob hS1 ((if_pos rfl).trans (ob h1 (if_neg (by decide))))
    · refine ob hS2 ((if_neg n1).trans (ob h2 ((if_pos rfl).trans ?_)))
      rfl
