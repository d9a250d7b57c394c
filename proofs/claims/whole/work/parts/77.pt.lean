/-! PURE: policyText -/
def PolT (w : Nat → Nat) (s : Nat) (t : Fm) (tn : Nat) (tb : Nat → Nat) : Prop := fok 2 t ∧ w (ix s 11) = (fpr 2 t).length ∧ (fpr 2 t).length ≤ 40 ∧ Sg (Tx w s) 0 (fpr 2 t) ∧ tn = (fO 2 false t).length ∧ (∀ i, i < tn → tb i = (fO 2 false t).getD i 0) ∧ ∀ i, tb i ≤ 126
theorem fO_pos : ∀ (t : Fm) (k : Nat), fok k t → ∀ s, 0 < (fO k s t).length := by
  intro t
  induction t with
  | nest i f ih => intro k h s; simp [fO]
  | group P b ih =>
    intro k h s
    cases k with
    | succ k => exact absurd h (by simp [fok])
    | zero =>
      have h1 := ih 2 h false
      unfold fO
      split
      · simp
      · exact h1
  | tag c l ih => intro k h s; simp [fO]
  | append a b iha ihb =>
    intro k h s
    cases k with
    | zero => exact absurd h (by simp [fok])
    | succ k =>
      unfold fO
      split
      · exact iha k h.2.1 _
      · rw [List.length_append, List.length_cons]; omega
  | _ => intro k h; cases k <;> exact absurd h (by simp [fok])
theorem z_hasPol {w : Nat → Nat} {s : Nat} (hs : s < 4) (hw : w (ix s 11) ≤ 40) : F_X11_hasPolicy (L w) (nI s) = some (nI (decide (0 < w (ix s 11))).toNat) := by
  unfold F_X11_hasPolicy F_X11_hasPolicy_L15
  refine ob (z_of (k := 11) hs (by omega)) ?_
  by_cases h : 0 < w (ix s 11)
  · rw [decide_eq_true h]
    refine (if_neg (show ¬ nI (w (ix s 11)) ≤ nI 0 from nI_ge h (by omega))).trans ?_
    rw [show (1 : Int32) = nI 1 from rfl, q_nar1, q_gg]
    rfl
  · rw [decide_eq_false h]
    refine (if_pos (show nI (w (ix s 11)) ≤ nI 0 from nI_le (by omega) (by omega))).trans ?_
    rw [show (0 : Int32) = nI 0 from rfl, q_nar0, q_gg]
    rfl
theorem z_paperAt {t y : Int32} {pp : Nat → Nat} {M : Nat} (hM : 1 ≤ M) (hM2 : M ≤ 40) (hy : (-1 : Int32) ≤ y) : (y = -1 ∧ F_X11_paperAt t (L pp) (nI M) y = some (nI M, nI 0)) ∨ (∃ i, i < M ∧ y = nI i ∧ F_X11_paperAt t (L pp) (nI M) y = some (nI (pp i), nI 0)) ∨ (¬ y < 0 ∧ nI M ≤ y ∧ F_X11_paperAt t (L pp) (nI M) y = some (nI 0, nI 2)) := by
  unfold F_X11_paperAt F_X11_paperAt_L42
  rcases z_arg y M (by omega) (by omega) with ⟨i, hi, rfl⟩ | ⟨-, g2⟩
  · right; left
    have hz2 : (0 : Int32) ≤ nI i := nI_le (Nat.zero_le i) (by omega)
    have e1 : ¬ nI i = -1 := fun h => by rw [h] at hz2; revert hz2; decide
    refine ⟨i, hi, rfl, (if_neg e1).trans ((if_neg (show ¬ nI M ≤ nI i from nI_ge hi (by omega))).trans ?_)⟩
    rw [q_gi (show i < 100 by omega) (by omega), q_gg, q_cl (by omega)]
    rfl
  · rcases g2 with g2 | ⟨g2, g3⟩
    · left
      have e1 : y = -1 := by
        apply Int32.toInt_inj.mp
        rw [Int32.lt_iff_toInt_lt] at g2
        rw [Int32.le_iff_toInt_le] at hy
        have a : (0 : Int32).toInt = 0 := by decide
        have b : (-1 : Int32).toInt = -1 := by decide
        omega
      exact ⟨e1, (if_pos e1).trans rfl⟩
    · right; right
      have e1 : ¬ y = -1 := fun h => by subst h; revert g2; decide
      exact ⟨g2, g3, (if_neg e1).trans ((if_pos g3).trans rfl)⟩
theorem m_policyText {w cm vs es tb pp : Nat → Nat} {s c fi th ep tn : Nat} {t y pq : Int32} {rule : Option Nat} (hs : s < 4) (hR : RSl w s c fi th ep cm vs es) (hP : fi = 1 → (rule = none ∧ w (ix s 11) = 0) ∨ (∃ q tr, rule = some q ∧ PolT w s tr tn tb)) (hS1 : F_X10_checkSlot (nI s) = some 0) (hS2 : F_X11_isSlot (nI s) = some (nI 1)) :
    ∃ e r b k pp' pq', F_X10_policyText (nI fi) rule tn (L tb) (nI s) y = some (e, r) ∧ F_X11_policyText t (L w) (L pp) pq (nI s) y = some (b, k, L pp', pq') ∧ EK [(0, 0), (1, 1), (3, 2)] e k ∧ (e = 0 → r = b) := by
  have hf := hR.1
  have o0 : ¬ nI 1 = 0 := by decide
  unfold F_X10_policyText F_X10_policyText_L55 F_X11_policyText F_X11_policyText_L12 F_X11_policyText_L35
  by_cases hy : (-1 : Int32) ≤ y
  · have hti : F_X10_checkTextIndex y = some 0 := if_pos hy
    have hfi : fi = 0 ∨ fi = 1 := by omega
    rcases hfi with rfl | rfl
    · refine ⟨3, 0, nI 0, nI 2, pp, pq, ob hS1 ((if_pos rfl).trans (ob hti ((if_pos rfl).trans (ob (z_secretIn hs hf) (if_neg (by decide)))))), ob hS2 ((if_neg o0).trans ((if_pos hy).trans (ob (hR.has hs) ((if_pos rfl).trans ?_)))), EK.of (by simp), fun h => by omega⟩
      rfl
    · rcases hP rfl with ⟨rfl, h0⟩ | ⟨q, tr, rfl, p1, p2, p3, p4, p5, p6, p7⟩
      · refine ⟨3, 0, nI 0, nI 2, pp, pq, ob hS1 ((if_pos rfl).trans (ob hti ((if_pos rfl).trans (ob (z_secretIn hs hf) ((if_pos rfl).trans (ob (x := 3) rfl (if_neg (by decide)))))))), ob hS2 ((if_neg o0).trans ((if_pos hy).trans (ob (hR.has hs) ((if_neg o0).trans (ob (z_hasPol hs (by omega)) ?_))))), EK.of (by simp), fun h => by omega⟩
        rw [h0]
        exact (if_pos rfl).trans rfl
      · have hM : 1 ≤ tn := by rw [p5]; exact fO_pos tr 2 p1 false
        have hWO := ((fW_O tr 2 p1).2 rfl).1
        have hfl := fW_len tr 2 p1 false
        have hM2 : tn ≤ 40 := by rw [p5, ← hWO]; omega
        have hc := ((cw_all hs tr 2 p1 0 64 0 pp p4 (by omega) (by omega) (by omega)).2.2.1 rfl).1 1000 (by omega)
        rw [Nat.zero_add, hWO] at hc
        have hw : F_X11_writesPolicy (F_X11_writesPart 64) (L w) (L pp) 0 (nI s) 0 (nI (w (ix s 11))) = some (L (wrt pp 0 (fO 2 false tr)), nI tn) := by
          rw [p2, p5]
          refine Eq.trans hc ?_
          unfold wrd
          rw [Nat.zero_add]
        have hp11 : decide (0 < w (ix s 11)) = true := decide_eq_true (by rw [p2]; exact fpr_pos tr 2 p1)
        have R1 : ∀ (b k : Int32), F_X11_paperAt t (L (wrt pp 0 (fO 2 false tr))) (nI tn) y = some (b, k) → F_X11_policyText t (L w) (L pp) pq (nI s) y = some (b, k, L (wrt pp 0 (fO 2 false tr)), nI tn) := by
          intro b k hh
          unfold F_X11_policyText F_X11_policyText_L12 F_X11_policyText_L35
          refine ob hS2 ((if_neg o0).trans ((if_pos hy).trans (ob (hR.has hs) ((if_neg o0).trans (ob (z_hasPol hs (by omega)) ?_)))))
          rw [hp11]
          exact (if_neg o0).trans (ob (z_of (k := 11) hs (by omega)) (ob hw (ob hh rfl)))
        have L1 : ∀ z r, (if y < nI tn then (if 0 ≤ y then ((F_J0_charAt_5068e tn (L tb) y).bind fun v14 => some (0, v14)) else ((F_J0_length_8abf5 tn).bind fun v16 => some (0, v16))) else (some (3, 0))) = some (z, r) → F_X10_policyText (nI 1) (some q) tn (L tb) (nI s) y = some (z, r) := by
          intro z r hh
          unfold F_X10_policyText F_X10_policyText_L55
          exact ob hS1 ((if_pos rfl).trans (ob hti ((if_pos rfl).trans (ob (z_secretIn hs hf) ((if_pos rfl).trans (ob (x := 0) rfl ((if_pos rfl).trans ((q_gg _).trans (ob z_tLen hh)))))))))
        rcases z_paperAt (t := t) (pp := wrt pp 0 (fO 2 false tr)) hM hM2 hy with ⟨rfl, g1⟩ | ⟨i, hi, rfl, g1⟩ | ⟨g2, g3, g1⟩
        · have : (-1 : Int32) < nI tn := by
            rw [Int32.lt_iff_toInt_lt, nI_toInt (by omega)]
            have b : (-1 : Int32).toInt = -1 := by decide
            omega
          exact ⟨0, nI tn, nI tn, nI 0, _, _, L1 _ _ ((if_pos this).trans ((if_neg (by decide)).trans (ob z_tLen rfl))), R1 _ _ g1, EK.of (by simp), fun _ => rfl⟩
        · have hz2 : (0 : Int32) ≤ nI i := nI_le (Nat.zero_le i) (by omega)
          have hat := wrt_at (fO 2 false tr) pp 0 i (by omega)
          rw [Nat.zero_add] at hat
          rw [hat, ← p6 i hi] at g1
          exact ⟨0, nI (tb i), nI (tb i), nI 0, _, _, L1 _ _ ((if_pos (nI_lt hi (by omega))).trans ((if_pos hz2).trans (ob (z_tChar (by omega) hi (by have := p7 i; omega)) rfl))), R1 _ _ g1, EK.of (by simp), fun _ => rfl⟩
        · exact ⟨3, 0, nI 0, nI 2, _, _, L1 _ _ (if_neg (z_lt (by omega) ⟨g2, g3⟩)), R1 _ _ g1, EK.of (by simp), fun h => by omega⟩
  · have hti : F_X10_checkTextIndex y = some 1 := if_neg hy
    exact ⟨1, 0, nI 0, nI 1, pp, pq, ob hS1 ((if_pos rfl).trans (ob hti (if_neg (by decide)))), ob hS2 ((if_neg o0).trans ((if_neg hy).trans rfl)), EK.of (by simp), fun h => by omega⟩
