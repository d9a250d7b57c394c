/-! PURE: a policy object out of a text -/
theorem Sg_sfx {T : Nat → Nat} : ∀ (l : List Nat) a N, Sg T a l → N = a + l.length → sfx N T a = l := by
  intro l
  induction l with
  | nil => intro a N _ h; exact sfx_nil (by rw [h]; exact Nat.le_refl _)
  | cons c r ih =>
    intro a N hS h
    rw [Sg_cons] at hS
    rw [List.length_cons] at h
    rw [sfx_cons (by omega), hS.1, ih (a + 1) N hS.2 (by omega)]
def lT (l : List Nat) : Nat → Nat := fun i => l.getD i 0
theorem Sg_lT (l : List Nat) : Sg (lT l) 0 l := fun i _ => by
  show l.getD (0 + i) 0 = _
  rw [Nat.zero_add]
theorem lT_sfx (l : List Nat) : sfx l.length (lT l) 0 = l := Sg_sfx l 0 _ (Sg_lT l) (by rw [Nat.zero_add])
theorem lT_mem {l : List Nat} {i : Nat} (h : i < l.length) : lT l i ∈ l := by
  unfold lT
  rw [List.getD_eq_getElem?_getD, List.getElem?_eq_getElem h]
  exact List.getElem_mem h
theorem fO_TX {t : Fm} {tb : Nat → Nat} (hk : fok 2 t) (hl : (fpr 2 t).length ≤ 40) (hb : ∀ i, i < (fO 2 false t).length → tb i = (fO 2 false t).getD i 0) : TX (fO 2 false t).length tb (lT (fO 2 false t)) := by
  refine ⟨?_, fun i hi => ?_⟩
  · have h1 := fW_len t 2 hk false
    rw [((fW_O t 2 hk).2 rfl).1] at h1
    omega
  · have := fO_ch t 2 hk false _ (lT_mem hi)
    exact ⟨hb i hi, this.1, this.2⟩
theorem z_nest {t : Fm} {tb : Nat → Nat} (hk : fok 2 t) (h : TX (fO 2 false t).length tb (lT (fO 2 false t))) : F_X5_nestingOf (fO 2 false t).length (L tb) = some (nI (dp t)) := by
  have hM := h.1
  have e := z_ns h (fO 2 false t).length 1000 0 0 0 [] 0 (fun _ => 0) (by omega) (by omega) (Nat.le_refl 0) rfl (Nat.le_refl 0) (Nat.le_refl 0) rfl
  rw [lT_sfx] at e
  obtain ⟨q, -, e2⟩ := ns_tree t 2 hk false (prv (lT (fO 2 false t)) 0) [] 0 [] 0 (by unfold prv; rw [if_pos rfl]; omega) (Nat.le_refl 0)
  rw [List.append_nil, ns, Nat.zero_max, Nat.zero_add] at e2
  rw [e2] at e
  unfold F_X5_nestingOf
  refine ob z_tLen ?_
  have hg : gnw (nI ((fO 2 false t).length + 1)) 64 = true := by
    unfold gnw
    rw [q_cl (by omega)]
    have : ¬ nI ((fO 2 false t).length + 1) < 0 := nI_nlt (show 0 ≤ (fO 2 false t).length + 1 by omega) (by omega)
    simp [this]
    omega
  rw [show nI (fO 2 false t).length + 1 = nI ((fO 2 false t).length + 1) from nI_1 _, hg, q_gg, q_gl, q_cl (by omega)]
  exact e
theorem z_init1 {M : Nat} (hM : M ≤ 40) : F_X1_init M = some (0, M + 1, L (fun _ => 0), M + 1, L (fun _ => 0), M + 1, L (fun _ => 0), M + 1, L (fun _ => 0)) := by
  have hg : gnw (nI (M + 1)) 64 = true := by
    unfold gnw
    rw [q_cl (by omega)]
    have : ¬ nI (M + 1) < 0 := nI_nlt (show 0 ≤ M + 1 by omega) (by omega)
    simp [this]
    omega
  have e1 : nI M + 1 = nI (M + 1) := nI_1 M
  unfold F_X1_init
  refine ob z_tLen ?_
  rw [e1, hg, q_gg, q_gl]
  refine ob z_tLen ?_
  rw [e1, hg, q_gg, q_gl]
  refine ob z_tLen ?_
  rw [e1, hg, q_gg, q_gl]
  refine ob z_tLen ?_
  rw [e1, hg, q_gg, q_gl, q_cl (by omega)]
  rfl
theorem z_from {N : Nat} {tf tp : Nat → Nat} {t : Fm} (h : TX N tf tp) (hk : fok 2 t) (hs : sfx N tp 0 = fpr 2 t) : ∃ tb fin, F_X3_from N (L tf) = some (nI (np t), nI (dp t), nI (nm t), L fin, 0, 0, (fO 2 false t).length, L tb) ∧ (∀ i, i < (fO 2 false t).length → tb i = (fO 2 false t).getD i 0) ∧ (∀ i, tb i ≤ 126) ∧ ∀ i, i < 256 → fin i = fv i 2 t := by
  obtain ⟨tb, e1, e2, e3⟩ := z_wnp h hk hs
  have hl : (fpr 2 t).length ≤ 40 := by rw [← hs, sfx_len]; have := h.1; omega
  have hX := fO_TX hk hl e2
  have hM := hX.1
  obtain ⟨fin, f1, -, f3⟩ := z_L23 (h1 := 0) (h2 := 0) hX 256 1000 0 0 (fun _ => 0) (fun _ => 0) (fun _ => 0) (fun _ => 0) (fun _ => 0) (by omega) (by omega)
  rw [lT_sfx] at f3
  refine ⟨tb, fin, ?_, e2, e3, fun i hi => by rw [f3 i (Nat.zero_le i) hi, jd_top hk]⟩
  have hc := z_L56 (h1 := 0) (h2 := 0) (ful := L fin) hX (fO 2 false t).length 1000 0 0 0 (by omega) (by omega)
  have hsc := sc1_O t 2 hk false [] 0 0 (by decide)
  rw [List.append_nil, sc1, Nat.zero_add, Nat.zero_or] at hsc
  rw [lT_sfx, hsc] at hc
  unfold F_X3_from
  refine ob e1 (ob (z_init1 hM) ?_)
  refine Eq.trans f1 (Eq.trans hc ?_)
  refine ob (z_nest hk hX) (ob (x := (nI (np t), nI (dp t), nI (nm t))) rfl rfl)
/-- what a slot's two policies have in common -/
def PolR (w : Nat → Nat) (s : Nat) (rule : Option Nat) (pp pn pm : Int32) (ful : Nat → Int32) (tn : Nat) (tb : Nat → Nat) : Prop := (rule = none ∧ w (ix s 11) = 0) ∨ ∃ q t, rule = some q ∧ PolT w s t tn tb ∧ pp = nI (np t) ∧ pn = nI (dp t) ∧ pm = nI (nm t) ∧ ∀ i, i < 256 → ful i = nI (fv i 2 t)
theorem z_fulfilled {w : Nat → Nat} {s m : Nat} {t : Fm} (hs : s < 4) (hm : m < 256) (hk : fok 2 t) (hw : w (ix s 11) = (fpr 2 t).length) (hl : (fpr 2 t).length ≤ 40) (hS : Sg (Tx w s) 0 (fpr 2 t)) : F_X11_fulfilled (L w) (nI s) (nI m) = some (nI (decide (fv m 2 t = 1)).toNat) := by
  have hp := fpr_pos t 2 hk
  have e := (z_holds_t hs hm t 2 hk).1 (by omega) 0 64 hS (by omega) (by omega)
  rw [Nat.zero_add] at e
  have hv := (fv_le m t 2 hk).1 (by omega)
  unfold F_X11_fulfilled F_X11_fulfilled_L25 F_X11_fulfilled_L30
  refine ob (z_hasPol hs (by omega)) ?_
  rw [hw, decide_eq_true hp]
  refine (if_neg (by decide)).trans (ob (z_of (k := 11) hs (by omega)) ?_)
  rw [hw]
  refine ob e ?_
  have hv2 : fv m 2 t = 0 ∨ fv m 2 t = 1 := by omega
  rcases hv2 with q | q <;> rw [q]
  · exact (if_pos rfl).trans (by decide)
  · exact (if_neg (by decide)).trans (by decide)
def alR (rule : Option Nat) (ful : Nat → Int32) (m : Nat) : Bool := decide (rule = none) || decide (ful m = nI 1)
theorem PolR.hf {w : Nat → Nat} {s : Nat} {rule : Option Nat} {pp pn pm : Int32} {ful : Nat → Int32} {tn : Nat} {tb : Nat → Nat} (h : PolR w s rule pp pn pm ful tn tb) (hs : s < 4) : HF w s rule ful (alR rule ful) := by
  intro m hm
  unfold alR
  rcases h with ⟨h1, h2⟩ | ⟨q, t, h1, ⟨p1, p2, p3, p4, p5, p6, p7⟩, h3, h4, h5, h6⟩
  · subst h1
    rw [decide_eq_true (show (none : Option Nat) = none from rfl), Bool.true_or]
    constructor
    · unfold F_X7_allows F_X7_allows_L19 F_X7_allows_L24
      exact (if_pos rfl).trans (by decide)
    · unfold F_X11_fulfilled F_X11_fulfilled_L25 F_X11_fulfilled_L30
      refine ob (z_hasPol hs (by omega)) ?_
      rw [h2]
      exact (if_pos (by decide)).trans (by decide)
  · subst h1
    rw [decide_eq_false (show ¬ (some q : Option Nat) = none by simp), Bool.false_or]
    have hv := (fv_le m t 2 p1).1 (by omega)
    have hd : decide (ful m = nI 1) = decide (fv m 2 t = 1) := by
      rw [h6 m hm]
      congr 1
      exact q_eqI (by omega) (by omega)
    rw [hd]
    refine ⟨?_, z_fulfilled hs hm p1 p2 p3 p4⟩
    unfold F_X7_allows F_X7_allows_L19 F_X7_allows_L24
    refine (if_neg (by simp)).trans ?_
    rw [q_gi hm (by omega), q_gg, q_cl (by omega), h6 m hm]
    have hv2 : fv m 2 t = 0 ∨ fv m 2 t = 1 := by omega
    rcases hv2 with z | z <;> rw [z]
    · exact (if_pos rfl).trans (by decide)
    · exact (if_neg (by decide)).trans (by decide)
theorem PolT.of {w w' : Nat → Nat} {s tn : Nat} {t : Fm} {tb : Nat → Nat} (h : PolT w s t tn tb) (e : Ag w w' (ix s 11) (ix s 51)) : PolT w' s t tn tb := by
  obtain ⟨p1, p2, p3, p4, p5, p6, p7⟩ := h
  refine ⟨p1, (e _ (Nat.le_refl _) (by simp only [ix]; omega)).trans p2, p3, fun i hi => ?_, p5, p6, p7⟩
  have := p4 i hi
  unfold Tx at *
  rw [e _ (by simp only [ix]; omega) (by simp only [ix]; omega)]
  exact this
theorem PolR.of {w w' : Nat → Nat} {s : Nat} {rule : Option Nat} {pp pn pm : Int32} {ful : Nat → Int32} {tn : Nat} {tb : Nat → Nat} (h : PolR w s rule pp pn pm ful tn tb) (e : Ag w w' (ix s 11) (ix s 51)) : PolR w' s rule pp pn pm ful tn tb := by
  rcases h with ⟨h1, h2⟩ | ⟨q, t, h1, h2, h3⟩
  · exact Or.inl ⟨h1, (e _ (Nat.le_refl _) (by simp only [ix]; omega)).trans h2⟩
  · exact Or.inr ⟨q, t, h1, h2.of e, h3⟩
