/-! PURE: importShare's reader -/
theorem q_neg1 : (-1 : Int32) < 0 := by decide
theorem z_numOk {N st a b : Nat} {tf tp : Nat → Nat} {vl : Int32} (h : TX N tf tp) (hst : st ≤ N) (ha : a < 10000) (hb : b < 10000) : ∃ i v, i ≤ N ∧ v < 10000 ∧ ((a ≤ v ∧ v ≤ b ∧ F_X8_readNumber (nI st) (-1) N (L tf) (nI a) (nI b) = some (nI v, nI i, -1) ∧ F_X11_readsNumber (L tp) (nI N) (nI st) vl (nI a) (nI b) = some (nI 1, nI i, nI v)) ∨ (F_X8_readNumber (nI st) (-1) N (L tf) (nI a) (nI b) = some (nI v, nI i, nI st) ∧ F_X11_readsNumber (L tp) (nI N) (nI st) vl (nI a) (nI b) = some (nI 0, nI st, nI v))) := by
  have hN := h.1
  obtain ⟨s1, s2, s3⟩ := S_nm_bd N tp st 4 st 0 (by omega) (by omega)
  have e8 : F_X8_readNumber (nI st) (-1) N (L tf) (nI a) (nI b) = _ := (if_pos q_neg1).trans (z_num8 (er := -1) (a := nI a) (b := nI b) h (by omega) 4 1000 st 0 rfl (Nat.le_refl _) (by omega) (by omega))
  have e11 : F_X11_readsNumber (L tp) (nI N) (nI st) vl (nI a) (nI b) = _ := z_num11 (a := nI a) (b := nI b) hN (by omega) (fun i hi => (h.2 i hi).2.2) 4 1000 st 0 rfl (Nat.le_refl _) (by omega) (by omega)
  rw [e8, e11]
  generalize S_nm N tp st 4 st 0 = r at *
  obtain ⟨i, v⟩ := r
  refine ⟨i, v, by omega, s1, ?_⟩
  show (_ ∧ _ ∧ F_X8_readNumber_L86 (nI a) (nI b) (nI i) (-1) (nI st) (nI v) = _ ∧ F_X11_readsNumber_L81 (nI a) (nI b) (nI i) (nI v) (nI st) = _) ∨ (F_X8_readNumber_L86 (nI a) (nI b) (nI i) (-1) (nI st) (nI v) = _ ∧ F_X11_readsNumber_L81 (nI a) (nI b) (nI i) (nI v) (nI st) = _)
  unfold F_X8_readNumber_L86 F_X8_readNumber_L106 F_X8_readNumber_L111 F_X11_readsNumber_L81
  simp only at s1 s2 s3
  by_cases h1 : i = st
  · right
    subst h1
    exact ⟨if_pos rfl, if_pos rfl⟩
  · have h1' : ¬ nI i = nI st := fun e => h1 ((q_eqI (by omega) (by omega)).mp e)
    by_cases h2 : v < a
    · right
      exact ⟨(if_neg h1').trans (if_pos (nI_lt h2 (by omega))), (if_neg h1').trans (ob (z_inno (Or.inl h2) (by omega) (by omega)) (if_pos rfl))⟩
    · by_cases h3 : v ≤ b
      · left
        exact ⟨by omega, h3, (if_neg h1').trans ((if_neg (nI_nlt (by omega) (by omega))).trans (if_pos (nI_le h3 (by omega)))), (if_neg h1').trans (ob (z_inok (by omega) h3 (by omega)) (if_neg (by decide)))⟩
      · right
        exact ⟨(if_neg h1').trans ((if_neg (nI_nlt (by omega) (by omega))).trans (if_neg (nI_ge (by omega) (by omega)))), (if_neg h1').trans (ob (z_inno (Or.inr (by omega)) (by omega) (by omega)) (if_pos rfl))⟩
theorem z_sgnOk {N st cc : Nat} {tf tp : Nat → Nat} (h : TX N tf tp) (hst : st ≤ N) (hc : cc < 127) : (st + 1 ≤ N ∧ F_X8_readSign (nI st) (-1) N (L tf) (nI cc) = some (nI (st + 1), -1) ∧ F_X11_eats (L tp) (nI N) (nI st) (nI cc) = some (nI 1, nI (st + 1))) ∨ (F_X8_readSign (nI st) (-1) N (L tf) (nI cc) = some (nI st, nI st) ∧ F_X11_eats (L tp) (nI N) (nI st) (nI cc) = some (nI 0, nI st)) := by
  have hN := h.1
  unfold F_X8_readSign F_X8_readSign_L50 F_X8_readSign_L58 F_X11_eats F_X11_eats_L23 F_X11_eats_L24 F_X11_eats_L39
  by_cases h1 : st < N
  · obtain ⟨h3, h4, h5⟩ := h.2 st h1
    have hch := z_tChar (N := N) (i := st) (tf := tf) (by omega) h1 (by omega)
    rw [h3] at hch
    have hh := z_here (N := N) (i := st) (tp := tp) hN (by omega)
    rw [if_pos h1] at hh
    have g1 : ¬ nI N ≤ nI st := nI_ge h1 (by omega)
    by_cases h6 : tp st = cc
    · left
      refine ⟨h1, (if_pos q_neg1).trans (ob z_tLen ((if_neg g1).trans (ob hch ((if_pos (congrArg nI h6)).trans ?_)))), (if_neg g1).trans (ob hh ((if_pos (congrArg nI h6)).trans ((if_neg (by decide)).trans ?_)))⟩
      · rw [show nI st + 1 = nI (st + 1) from nI_1 st]
      · rw [show nI st + 1 = nI (st + 1) from nI_1 st]
        rfl
    · right
      have g2 : ¬ nI (tp st) = nI cc := fun e => h6 ((q_eqI (by omega) (by omega)).mp e)
      refine ⟨(if_pos q_neg1).trans (ob z_tLen ((if_neg g1).trans (ob hch (if_neg g2)))), (if_neg g1).trans (ob hh ((if_neg g2).trans ((if_pos rfl).trans ?_)))⟩
      show gg _ (some (0, nI st + nI 0)) = _
      rw [nI_add]
      rfl
  · right
    have g1 : nI N ≤ nI st := nI_le (by omega) (by omega)
    refine ⟨(if_pos q_neg1).trans (ob z_tLen (if_pos g1)), (if_pos g1).trans ((if_pos rfl).trans ?_)⟩
    show gg _ (some (0, nI st + nI 0)) = _
    rw [nI_add]
    rfl
theorem z_numB {q : Nat} {nx a b : Int32} {N : Nat} {tb : Nat → Int32} (hq : q < 1000) : F_X8_readNumber nx (nI q) N tb a b = some (0, nx, nI q) := if_neg (show ¬ nI q < nI 0 from nI_nlt (by omega) (by omega))
theorem z_sgnB {q : Nat} {nx a : Int32} {N : Nat} {tb : Nat → Int32} (hq : q < 1000) : F_X8_readSign nx (nI q) N tb a = some (nx, nI q) := if_neg (show ¬ nI q < nI 0 from nI_nlt (by omega) (by omega))
theorem z_endB {q : Nat} {nx a b c : Int32} {N : Nat} (hq : q < 1000) : (if 0 ≤ nI q then F_X8_read_L105 nx (nI q) a b c else ((F_J0_length_8abf5 N).bind fun v18 => if v18 ≤ nx then F_X8_read_L105 nx (nI q) a b c else F_X8_read_L105 nx nx a b c)) = some (nI q, nx, nI q, a, b, c) := (if_pos (show nI 0 ≤ nI q from nI_le (Nat.zero_le q) (by omega))).trans rfl
theorem z_read {N : Nat} {tf tp : Nat → Nat} {vl r1 r2 r3 : Int32} (h : TX N tf tp) : ∃ er nx rp rv re ok at' val p' v' e', F_X8_read 0 (-1) 0 0 0 N (L tf) = some (er, nx, er, rp, rv, re) ∧ F_X11_readsShare (L tp) (nI N) 0 vl r1 r2 r3 = some (ok, at', val, p', v', e') ∧ ((ok = nI 1 ∧ er = -1 ∧ rp = p' ∧ rv = v' ∧ re = e' ∧ ∃ p v e : Nat, 1 ≤ p ∧ p ≤ 24 ∧ v < 1019 ∧ 1 ≤ e ∧ e < 10000 ∧ rp = nI p ∧ rv = nI v ∧ re = nI e) ∨ (ok = nI 0 ∧ ∃ q, q < 1000 ∧ er = nI q ∧ at' = nI q)) := by
  have hN := h.1
  unfold F_X8_read F_X11_readsShare
  have n1 : ¬ nI 1 = 0 := by decide
  obtain ⟨i1, p, hi1, hp, c1 | c1⟩ := z_numOk (st := 0) (a := 1) (b := 24) (vl := vl) h (by omega) (by omega) (by omega)
  · obtain ⟨b1, b2, x1, y1⟩ := c1
    rcases z_sgnOk (st := i1) (cc := 58) h hi1 (by omega) with ⟨j2, x2, y2⟩ | ⟨x2, y2⟩
    · obtain ⟨i3, v, hi3, hv, c3 | c3⟩ := z_numOk (st := i1 + 1) (a := 0) (b := 1018) (vl := nI p) h j2 (by omega) (by omega)
      · obtain ⟨b3, b4, x3, y3⟩ := c3
        rcases z_sgnOk (st := i3) (cc := 64) h hi3 (by omega) with ⟨j4, x4, y4⟩ | ⟨x4, y4⟩
        · obtain ⟨i5, e, hi5, he, c5 | c5⟩ := z_numOk (st := i3 + 1) (a := 1) (b := 9999) (vl := nI v) h j4 (by omega) (by omega)
          · obtain ⟨b5, b6, x5, y5⟩ := c5
            obtain ⟨g1, g2⟩ := z_digit (p := p) (v := v) (e := e) (by omega) hv he
            have hd : (7 * p + 3 * v + e) % 10 < 10 := Nat.mod_lt _ (by omega)
            have hch : (Int32.toUInt32 ((48 : Int32) + nI ((7 * p + 3 * v + e) % 10)) % 65536).toInt32 = nI (48 + (7 * p + 3 * v + e) % 10) := by
              rw [show (48 : Int32) + nI ((7 * p + 3 * v + e) % 10) = nI (48 + (7 * p + 3 * v + e) % 10) from nI_add 48 _]
              exact (q_chr _ (by omega)).1
            rcases z_sgnOk (st := i5) (cc := 35) h hi5 (by omega) with ⟨j6, x6, y6⟩ | ⟨x6, y6⟩
            · rcases z_sgnOk (st := i5 + 1) (cc := 48 + (7 * p + 3 * v + e) % 10) h j6 (by omega) with ⟨j7, x7, y7⟩ | ⟨x7, y7⟩
              · have y7' : F_X11_eats (L tp) (nI N) (nI (i5 + 1)) ((48 : Int32) + nI ((7 * p + 3 * v + e) % 10)) = some (nI 1, nI (i5 + 1 + 1)) := by
                  rw [show (48 : Int32) + nI ((7 * p + 3 * v + e) % 10) = nI (48 + (7 * p + 3 * v + e) % 10) from nI_add 48 _]
                  exact y7
                by_cases hend : i5 + 1 + 1 = N
                · refine ⟨-1, nI (i5 + 1 + 1), nI p, nI v, nI e, nI 1, nI (i5 + 1 + 1), nI e, nI p, nI v, nI e, ?_, ?_, Or.inl ⟨rfl, rfl, rfl, rfl, rfl, p, v, e, b1, b2, by omega, b5, by omega, rfl, rfl, rfl⟩⟩
                  · refine ob x1 (ob x2 (ob x3 (ob x4 (ob x5 (ob x6 (ob g1 ?_))))))
                    rw [hch]
                    refine ob x7 ((if_neg (show ¬ (0 : Int32) ≤ -1 by decide)).trans (ob z_tLen ((if_pos ?_).trans rfl)))
                    exact nI_le (by omega) (by omega)
                  · refine ob y1 ((if_neg n1).trans (ob y2 ((if_neg n1).trans (ob y3 ((if_neg n1).trans (ob y4 ((if_neg n1).trans (ob y5 ((if_neg n1).trans (ob y6 ((if_neg n1).trans (ob g2 (ob y7' ((if_neg n1).trans ((if_pos (congrArg nI hend)).trans ?_)))))))))))))))
                    rfl
                · refine ⟨nI (i5 + 1 + 1), nI (i5 + 1 + 1), nI p, nI v, nI e, nI 0, nI (i5 + 1 + 1), nI e, nI p, nI v, nI e, ?_, ?_, Or.inr ⟨rfl, i5 + 1 + 1, by omega, rfl, rfl⟩⟩
                  · refine ob x1 (ob x2 (ob x3 (ob x4 (ob x5 (ob x6 (ob g1 ?_))))))
                    rw [hch]
                    refine ob x7 ((if_neg (show ¬ (0 : Int32) ≤ -1 by decide)).trans (ob z_tLen ((if_neg ?_).trans rfl)))
                    exact nI_ge (by omega) (by omega)
                  · refine ob y1 ((if_neg n1).trans (ob y2 ((if_neg n1).trans (ob y3 ((if_neg n1).trans (ob y4 ((if_neg n1).trans (ob y5 ((if_neg n1).trans (ob y6 ((if_neg n1).trans (ob g2 (ob y7' ((if_neg n1).trans ((if_neg (fun e9 => hend ((q_eqI (by omega) (by omega)).mp e9))).trans ?_)))))))))))))))
                    rfl
              · have y7' : F_X11_eats (L tp) (nI N) (nI (i5 + 1)) ((48 : Int32) + nI ((7 * p + 3 * v + e) % 10)) = some (nI 0, nI (i5 + 1)) := by
                  rw [show (48 : Int32) + nI ((7 * p + 3 * v + e) % 10) = nI (48 + (7 * p + 3 * v + e) % 10) from nI_add 48 _]
                  exact y7
                refine ⟨nI (i5 + 1), nI (i5 + 1), nI p, nI v, nI e, nI 0, nI (i5 + 1), nI e, nI p, nI v, nI e, ?_, ?_, Or.inr ⟨rfl, i5 + 1, by omega, rfl, rfl⟩⟩
                · refine ob x1 (ob x2 (ob x3 (ob x4 (ob x5 (ob x6 (ob g1 ?_))))))
                  rw [hch]
                  exact ob x7 (z_endB (by omega))
                · refine ob y1 ((if_neg n1).trans (ob y2 ((if_neg n1).trans (ob y3 ((if_neg n1).trans (ob y4 ((if_neg n1).trans (ob y5 ((if_neg n1).trans (ob y6 ((if_neg n1).trans (ob g2 (ob y7' ((if_pos rfl).trans ?_))))))))))))))
                  rfl
            · refine ⟨nI i5, nI i5, nI p, nI v, nI e, nI 0, nI i5, nI e, nI p, nI v, nI e, ?_, ?_, Or.inr ⟨rfl, i5, by omega, rfl, rfl⟩⟩
              · exact ob x1 (ob x2 (ob x3 (ob x4 (ob x5 (ob x6 (ob g1 (ob (z_sgnB (by omega)) (z_endB (by omega)))))))))
              · refine ob y1 ((if_neg n1).trans (ob y2 ((if_neg n1).trans (ob y3 ((if_neg n1).trans (ob y4 ((if_neg n1).trans (ob y5 ((if_neg n1).trans (ob y6 ((if_pos rfl).trans ?_)))))))))))
                rfl
          · obtain ⟨x5, y5⟩ := c5
            refine ⟨nI (i3 + 1), nI i5, nI p, nI v, nI e, nI 0, nI (i3 + 1), nI e, nI p, nI v, r3, ?_, ?_, Or.inr ⟨rfl, i3 + 1, by omega, rfl, rfl⟩⟩
            · exact ob x1 (ob x2 (ob x3 (ob x4 (ob x5 (ob (z_sgnB (by omega)) (ob rfl (ob (z_sgnB (by omega)) (z_endB (by omega)))))))))
            · refine ob y1 ((if_neg n1).trans (ob y2 ((if_neg n1).trans (ob y3 ((if_neg n1).trans (ob y4 ((if_neg n1).trans (ob y5 ((if_pos rfl).trans ?_)))))))))
              rfl
        · refine ⟨nI i3, nI i3, nI p, nI v, 0, nI 0, nI i3, nI v, nI p, nI v, r3, ?_, ?_, Or.inr ⟨rfl, i3, by omega, rfl, rfl⟩⟩
          · exact ob x1 (ob x2 (ob x3 (ob x4 (ob (z_numB (by omega)) (ob (z_sgnB (by omega)) (ob rfl (ob (z_sgnB (by omega)) (z_endB (by omega)))))))))
          · refine ob y1 ((if_neg n1).trans (ob y2 ((if_neg n1).trans (ob y3 ((if_neg n1).trans (ob y4 ((if_pos rfl).trans ?_)))))))
            rfl
      · obtain ⟨x3, y3⟩ := c3
        refine ⟨nI (i1 + 1), nI i3, nI p, nI v, 0, nI 0, nI (i1 + 1), nI v, nI p, r2, r3, ?_, ?_, Or.inr ⟨rfl, i1 + 1, by omega, rfl, rfl⟩⟩
        · exact ob x1 (ob x2 (ob x3 (ob (z_sgnB (by omega)) (ob (z_numB (by omega)) (ob (z_sgnB (by omega)) (ob rfl (ob (z_sgnB (by omega)) (z_endB (by omega)))))))))
        · refine ob y1 ((if_neg n1).trans (ob y2 ((if_neg n1).trans (ob y3 ((if_pos rfl).trans ?_)))))
          rfl
    · refine ⟨nI i1, nI i1, nI p, 0, 0, nI 0, nI i1, nI p, nI p, r2, r3, ?_, ?_, Or.inr ⟨rfl, i1, by omega, rfl, rfl⟩⟩
      · exact ob x1 (ob x2 (ob (z_numB (by omega)) (ob (z_sgnB (by omega)) (ob (z_numB (by omega)) (ob (z_sgnB (by omega)) (ob rfl (ob (z_sgnB (by omega)) (z_endB (by omega)))))))))
      · refine ob y1 ((if_neg n1).trans (ob y2 ((if_pos rfl).trans ?_)))
        rfl
  · obtain ⟨x1, y1⟩ := c1
    refine ⟨nI 0, nI i1, nI p, 0, 0, nI 0, nI 0, nI p, r1, r2, r3, ?_, ?_, Or.inr ⟨rfl, 0, by omega, rfl, rfl⟩⟩
    · exact ob x1 (ob (z_sgnB (by omega)) (ob (z_numB (by omega)) (ob (z_sgnB (by omega)) (ob (z_numB (by omega)) (ob (z_sgnB (by omega)) (ob rfl (ob (z_sgnB (by omega)) (z_endB (by omega)))))))))
    · exact ob y1 (if_pos rfl)
theorem m_importShare {w cm vs es bf tf tp : Nat → Nat} {s c fi th ep N cap : Nat} {t fa ml ml' h1 h2 a1 a2 a3 a4 a5 : Int32} (hs : s < 4) (hR : RSl w s c fi th ep cm vs es) (hX : TX N tf tp) (hT : F_X10_takeText ml (nI N) cap (L bf) = some (ml', 0, cap, L bf, h1, h2, N, L tf)) (hS1 : F_X10_checkSlot (nI s) = some 0) (hS2 : F_X11_isSlot (nI s) = some (nI 1)) :
    ∃ e r b k fa' vs' es' ml2 N' w' b1 b2 b3 b4 b5, F_X10_importShare fa (nI fi) (L vs) (L es) ml (nI N) cap (L bf) (nI s) = some (e, r, fa', L vs', L es', ml2, nI N', cap, L bf) ∧ F_X11_importShare t (L w) (L tp) (nI N) fa a1 a2 a3 a4 a5 (nI s) = some (b, k, L w', nI N', fa', b1, b2, b3, b4, b5) ∧ EK [(0, 0), (1, 1), (3, 2), (2, 3)] e k ∧ (e = 0 → r = b) ∧ (N' = N ∨ N' = 0) ∧ RSl w' s c fi th ep cm vs' es' ∧ ∀ i, (i < ix s 52 ∨ ix s 123 < i) → w' i = w i := by
  have hf := hR.1
  have hl := hR.lacks hs hS2
  unfold F_X10_importShare F_X11_importShare
  have n1 : ¬ nI 1 = 0 := by decide
  by_cases h0 : fi = 0
  · subst h0
    refine ⟨3, 0, 0, nI 2, fa, vs, es, ml, N, w, a1, a2, a3, a4, a5, ?_, ?_, EK.of (by simp), fun h => by omega, Or.inl rfl, hR, fun _ _ => rfl⟩
    · exact ob hS1 ((if_pos rfl).trans (ob (z_secretIn hs hf) (if_neg (by decide))))
    · refine ob hl ((if_neg (by decide)).trans ?_)
      rfl
  · obtain rfl : fi = 1 := by omega
    obtain ⟨er, nx, rp, rv, re, ok, at', val, p', v', e', x1, y1, z1⟩ := z_read (vl := a2) (r1 := a3) (r2 := a4) (r3 := a5) hX
    rcases z1 with ⟨rfl, rfl, rfl, rfl, rfl, p, v, e, b1, b2, b3, b4, b5, rfl, rfl, rfl⟩ | ⟨rfl, q, hq, rfl, rfl⟩
    · refine ⟨0, nI p, nI p, nI 0, -1, updN vs p v, updN es p e, ml', 0, shW w s p 1 v e, at', val, nI p, nI v, nI e, ?_, ?_, EK.of (by simp), fun _ => rfl, Or.inr rfl, hR.upd b1 b2 b3 b5 (by rw [decide_eq_true (show e ≠ 0 by omega)]; rfl), fun i hi => ?_⟩
      · refine ob hS1 ((if_pos rfl).trans (ob (z_secretIn hs hf) ((if_pos rfl).trans (ob hT (ob rfl (ob x1 ((if_pos q_neg1).trans (ob (x := (L (updN vs p v), L (updN es p e))) ?_ rfl))))))))
        unfold F_X7_give
        show gg (gi (nI p) 25) (gl (upd (L vs) (Int32.toNatClampNeg (nI p)) (nI v)) fun f2 => gg (gi (nI p) 25) (gl (upd (L es) (Int32.toNatClampNeg (nI p)) (nI e)) fun f4 => some (f2, f4))) = _
        rw [q_gi (show p < 25 by omega) (by omega), q_gg, q_gl, q_gg, q_gl, q_cl (by omega), L_upd, L_upd]
      · refine ob hl ((if_pos rfl).trans (ob y1 ((if_neg n1).trans ?_)))
        unfold F_X11_importShare_L39
        refine (if_neg n1).trans (ob (z_setsShare hs b1 b2) ?_)
        rfl
      · exact shW_n _ _ _ _ (by simp only [ix, shx] at hi ⊢; omega)
    · refine ⟨2, 0, nI 0, nI 3, nI q, vs, es, ml', 0, w, nI q, val, p', v', e', ?_, ?_, EK.of (by simp), fun h => by omega, Or.inr rfl, hR, fun _ _ => rfl⟩
      · exact ob hS1 ((if_pos rfl).trans (ob (z_secretIn hs hf) ((if_pos rfl).trans (ob hT (ob rfl (ob x1 (if_neg (show ¬ nI q < nI 0 from nI_nlt (by omega) (by omega)))))))))
      · refine ob hl ((if_pos rfl).trans (ob y1 ((if_pos rfl).trans ?_)))
        rfl
