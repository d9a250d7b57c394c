/-! PURE: setPolicy -/
def NPR (w w' : Nat → Nat) (s fi : Nat) : gNP → Prop
  | none => w' = w
  | some none => fi = 1 ∧ w' (ix s 11) = 0
  | some (some (pp, pn, pm, ful, _, _, tn, tb)) => fi = 1 ∧ ∃ t tb', tb = L tb' ∧ PolT w' s t tn tb' ∧ pp = nI (np t) ∧ pn = nI (dp t) ∧ pm = nI (nm t) ∧ ∀ i, i < 256 → ful i = nI (fv i 2 t)
theorem z_sp141 {t : Int32} {w : Nat → Nat} {N : Nat} {wa a1 : Int32} (b : Bool) : F_X11_setPolicy_L126 t (L w) (nI N) wa a1 (nI 1) (nI b.toNat) = some (nI b.toNat, nI 0, L w, nI 0, wa, a1) := by
  unfold F_X11_setPolicy_L126 F_X11_setPolicy_L141 F_X11_setPolicy_L156 F_X11_setPolicy_L157
  refine (if_neg (by decide)).trans ((if_neg (by decide)).trans ?_)
  cases b with
  | true => exact (if_neg (by decide)).trans (by rw [show (1 : Int32) = nI 1 from rfl, q_nar1, q_gg]; rfl)
  | false => exact (if_pos rfl).trans (by rw [show (0 : Int32) = nI 0 from rfl, q_nar0, q_gg]; rfl)
theorem z_sp126 {t : Int32} {w : Nat → Nat} {N : Nat} {wa a1 l3 : Int32} : F_X11_setPolicy_L126 t (L w) (nI N) wa a1 (nI 0) l3 = some (nI 0, nI 3, L w, nI 0, wa, a1) := by
  unfold F_X11_setPolicy_L126 F_X11_setPolicy_L141 F_X11_setPolicy_L156 F_X11_setPolicy_L157
  refine (if_pos rfl).trans ((if_pos rfl).trans ?_)
  rw [show (0 : Int32) = nI 0 from rfl, q_nar0, q_gg]
  rfl
theorem m_setPolicy {w cm vs es bf tp tb : Nat → Nat} {s c fi th ep N cap tn : Nat} {t fa ml a0 pp pn pm : Int32} {rule : Option Nat} {ful : Nat → Int32} (hs : s < 4) (hR : RSl w s c fi th ep cm vs es) (hB : RBf N cap bf tp) (hP : fi = 1 → PolR w s rule pp pn pm ful tn tb) (hS1 : F_X10_checkSlot (nI s) = some 0) (hS2 : F_X11_isSlot (nI s) = some (nI 1)) :
    ∃ e r b k fa' ml' N' np' w' a1, F_X10_setPolicy fa (nI fi) rule ml (nI N) cap (L bf) (nI s) = some (e, r, fa', ml', nI N', cap, L bf, np') ∧ F_X11_setPolicy t (L w) (L tp) (nI N) fa a0 (nI s) = some (b, k, L w', nI N', fa', a1) ∧ EK [(0, 0), (1, 1), (3, 2), (2, 3)] e k ∧ (e = 0 → r = b) ∧ (N' = N ∨ N' = 0) ∧ RSl w' s c fi th ep cm vs es ∧ (∀ i, (i < ix s 11 ∨ ix s 51 < i) → w' i = w i) ∧ NPR w w' s fi np' := by
  have hf := hR.1
  have hl := hR.lacks hs hS2
  have n1 : ¬ nI 1 = 0 := by decide
  have hN := hB.1
  by_cases h0 : fi = 0
  · subst h0
    refine ⟨3, 0, 0, nI 2, fa, ml, N, none, w, a0, ?_, ?_, EK.of (by simp), fun h => by omega, Or.inl rfl, hR, fun _ _ => rfl, rfl⟩
    · unfold F_X10_setPolicy
      exact ob hS1 ((if_pos rfl).trans (ob (z_secretIn hs hf) (if_neg (by decide))))
    · unfold F_X11_setPolicy
      exact ob hl ((if_neg (by decide)).trans rfl)
  · obtain rfl : fi = 1 := by omega
    have hPR := hP rfl
    obtain ⟨ml', tf, hT, hX, htf⟩ := z_take (ml := ml) hB
    have hw11 : w (ix s 11) ≤ 40 := by
      rcases hPR with ⟨-, h2⟩ | ⟨q, tr, -, p, -⟩
      · omega
      · rw [p.2.1]; exact p.2.2.1
    have hhp := z_hasPol (w := w) hs hw11
    have hru : (decide (rule = none)) = !(decide (0 < w (ix s 11))) := by
      rcases hPR with ⟨h1, h2⟩ | ⟨q, tr, h1, p, -⟩
      · rw [h1, h2]; decide
      · rw [h1, decide_eq_true (show 0 < w (ix s 11) by rw [p.2.1]; exact fpr_pos tr 2 p.1)]
        simp
    -- what the class answers once it has read the text well
    have L38 : ∀ (v : Int32), v = nI (decide (0 < w (ix s 11))).toNat → ∀ z, F_X10_setPolicy_L71 (-1) ml' 0 cap (L bf) 0 0 N (L tf) v = z → F_X10_setPolicy_L38 rule fa ml' 0 cap (L bf) 0 0 N (L tf) (-1) = z := by
      intro v hv z hz
      unfold F_X10_setPolicy_L38
      refine (if_pos q_neg1).trans ?_
      by_cases hr : rule = none
      · rw [decide_eq_true hr] at hru
        have h9 : decide (0 < w (ix s 11)) = false := by
          cases hd : decide (0 < w (ix s 11)) with
          | false => rfl
          | true => rw [hd] at hru; exact absurd hru (by decide)
        rw [h9] at hv
        subst hv
        exact (if_pos hr).trans hz
      · rw [decide_eq_false hr] at hru
        have h9 : decide (0 < w (ix s 11)) = true := by
          cases hd : decide (0 < w (ix s 11)) with
          | true => rfl
          | false => rw [hd] at hru; exact absurd hru (by decide)
        rw [h9] at hv
        subst hv
        exact (if_neg hr).trans hz
    have Rlo : ∀ w', (∀ i, (i < ix s 11 ∨ ix s 51 < i) → w' i = w i) → RSl w' s c 1 th ep cm vs es := fun w' hw' => hR.of (Nat.le_refl c) (fun i _ h2 => hw' i (Or.inl (by simp only [ix] at *; omega))) (fun i h1 _ => hw' i (Or.inr (by simp only [ix] at *; omega)))
    by_cases hN0 : N = 0
    · subst hN0
      have hz := z_sets (w := w) (s := s) (k := 11) (v := 0) hs (by omega)
      obtain ⟨w', e1, e2, e3⟩ := z_store (tp := tp) (s := s) (N := 0) (t := nI 0) (wa := -1) (at' := 0) (l2 := nI 1) (l3 := nI (decide (0 < w (ix s 11))).toNat) hs (by omega) 0 1000 0 (updN w (ix s 11) 0) rfl (by omega)
      rw [z_sp141] at e1
      have hw' : ∀ i, w' i = updN w (ix s 11) 0 i := fun i => e3 i (by omega)
      have hout : ∀ i, (i < ix s 11 ∨ ix s 51 < i) → w' i = w i := fun i hi => by rw [hw' i, uN_n _ _ (by simp only [ix] at *; omega)]
      refine ⟨0, nI (decide (0 < w (ix s 11))).toNat, nI (decide (0 < w (ix s 11))).toNat, nI 0, -1, ml', 0, some none, w', 0, ?_, ?_, EK.of (by simp), fun _ => rfl, Or.inr rfl, Rlo w' hout, hout, rfl, by rw [hw', uN_s]⟩
      · unfold F_X10_setPolicy
        refine ob hS1 ((if_pos rfl).trans (ob (z_secretIn hs hf) ((if_pos rfl).trans (ob hT (ob (x := 1) (show F_J0_isEmpty_aae02 0 = some 1 by decide) ((if_neg (by decide)).trans (L38 _ rfl _ ?_)))))))
        unfold F_X10_setPolicy_L71
        refine ob (x := 1) (show F_J0_isEmpty_aae02 0 = some 1 by decide) ((if_neg (by decide)).trans ?_)
        rw [q_nar, q_gg]
        rfl
      · unfold F_X11_setPolicy F_X11_setPolicy_L48 F_X11_setPolicy_L53 F_X11_setPolicy_L67
        exact ob hl ((if_pos rfl).trans ((if_pos rfl).trans ((if_neg (by decide)).trans (ob hhp ((if_neg (by decide)).trans (ob hz e1))))))
    · obtain ⟨er, y, flag, b, r1, r2, r3, r4⟩ := z_rules hX
      have hne : F_J0_isEmpty_aae02 N = some 0 := by
        unfold F_J0_isEmpty_aae02 F_J0_isEmpty_aae02_L13
        exact (if_neg (show ¬ nI N = 0 from fun e => hN0 ((q_eqI (b := 0) (by omega) (by omega)).mp e))).trans (by decide)
      have hnt : ¬ nI N = 0 := fun e => hN0 ((q_eqI (b := 0) (by omega) (by omega)).mp e)
      have C1 : ∀ z, F_X10_setPolicy_L38 rule fa ml' 0 cap (L bf) 0 0 N (L tf) er = z → F_X10_setPolicy fa (nI 1) rule ml (nI N) cap (L bf) (nI s) = z := by
        intro z hz
        unfold F_X10_setPolicy
        exact ob hS1 ((if_pos rfl).trans (ob (z_secretIn hs hf) ((if_pos rfl).trans (ob hT (ob hne ((if_pos rfl).trans (ob (z_init4 hN) (ob r1 hz))))))))
      rcases r4 with ⟨rfl, rfl, rfl, tr, t1, t2⟩ | ⟨q1, rfl⟩
      · obtain ⟨tb', fin, f1, f2, f3, f4⟩ := z_from hX t1 t2
        have hlen : (fpr 2 tr).length = b := by rw [← t2, sfx_len, Nat.sub_zero]
        have hz := z_sets (w := w) (s := s) (k := 11) (v := b) hs (by omega)
        obtain ⟨w', e1, e2, e3⟩ := z_store (tp := tp) (s := s) (N := b) (t := nI 0) (wa := -1) (at' := nI b) (l2 := nI 1) (l3 := nI (decide (0 < w (ix s 11))).toNat) hs hN b 1000 0 (updN w (ix s 11) b) (by omega) (by omega)
        rw [z_sp141] at e1
        have hout : ∀ i, (i < ix s 11 ∨ ix s 51 < i) → w' i = w i := fun i hi => by rw [e3 i (by simp only [ix] at *; omega), uN_n _ _ (by simp only [ix] at *; omega)]
        have hw11' : w' (ix s 11) = b := by rw [e3 _ (Or.inl (by simp only [ix]; omega)), uN_s]
        have hSg : Sg (Tx w' s) 0 (fpr 2 tr) := by
          have h9 : Sg tp 0 (fpr 2 tr) := by rw [← t2]; exact sfx_Sg b 0 (by omega)
          intro i hi
          rw [← h9 i hi]
          unfold Tx
          rw [Nat.zero_add]
          exact e2 i (Nat.zero_le i) (by omega)
        refine ⟨0, nI (decide (0 < w (ix s 11))).toNat, nI (decide (0 < w (ix s 11))).toNat, nI 0, -1, ml', 0, some (some (nI (np tr), nI (dp tr), nI (nm tr), L fin, 0, 0, (fO 2 false tr).length, L tb')), w', nI b, C1 _ (L38 _ rfl _ ?_), ?_, EK.of (by simp), fun _ => rfl, Or.inr rfl, Rlo w' hout, hout, rfl, tr, tb', rfl, ⟨t1, by rw [hw11', hlen], by omega, hSg, rfl, f2, f3⟩, rfl, rfl, rfl, fun i hi => by rw [L_app, f4 i hi]⟩
        · unfold F_X10_setPolicy_L71
          refine ob hne ((if_pos rfl).trans (ob f1 ?_))
          rw [q_nar, q_gg]
          rfl
        · unfold F_X11_setPolicy F_X11_setPolicy_L48 F_X11_setPolicy_L53 F_X11_setPolicy_L67
          refine ob hl ((if_pos rfl).trans ((if_neg hnt).trans (ob r2 ((if_neg (show ¬ nI 1 = 0 by decide)).trans ((if_pos rfl).trans ((if_neg (by decide)).trans (ob hhp ((if_neg (by decide)).trans (ob hz e1)))))))))
      · refine ⟨2, 0, nI 0, nI 3, nI b, ml', 0, none, w, nI b, C1 _ ?_, ?_, EK.of (by simp), fun h => by omega, Or.inr rfl, hR, fun _ _ => rfl, rfl⟩
        · unfold F_X10_setPolicy_L38
          exact if_neg (show ¬ nI b < nI 0 from nI_nlt (by omega) (by omega))
        · have Rb : ∀ z, F_X11_setPolicy_L52 (L tp) (nI s) (nI 0) (L w) (nI N) fa (nI b) = z → F_X11_setPolicy t (L w) (L tp) (nI N) fa a0 (nI s) = z := by
            intro z hz
            unfold F_X11_setPolicy
            refine ob hl ((if_pos rfl).trans ((if_neg hnt).trans (ob r2 ?_)))
            by_cases hfl : flag = true
            · rw [hfl]
              refine (if_neg (show ¬ nI 1 = 0 by decide)).trans ((if_neg (fun e => q1 ⟨hfl, ?_⟩)).trans hz)
              exact (q_eqI (by omega) (by omega)).mp e
            · have : flag = false := by simpa using hfl
              rw [this]
              exact (if_pos rfl).trans hz
          refine Rb _ ?_
          unfold F_X11_setPolicy_L52 F_X11_setPolicy_L53 F_X11_setPolicy_L67
          exact (if_pos rfl).trans (ob hhp ((if_pos rfl).trans z_sp126))
