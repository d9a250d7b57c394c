/-! PURE: policy, setPolicy -/
theorem fpr_ch : ∀ (t : Fm) (k : Nat), fok k t → ∀ c, c ∈ fpr k t → c < 127 := by
  intro t
  induction t with
  | nest i f ih =>
    intro k hk c hc
    cases k with
    | zero =>
      have h1 : i.toNat ≤ 7 := hk
      rw [fpr, List.mem_singleton] at hc
      omega
    | succ k => exact absurd hk (by simp [fok])
  | group P b ih =>
    intro k hk c hc
    cases k with
    | succ k => exact absurd hk (by simp [fok])
    | zero =>
      rw [fpr, List.mem_cons, List.mem_append, List.mem_singleton] at hc
      rcases hc with hc | hc | hc
      · omega
      · exact ih 2 hk _ hc
      · omega
  | tag d l ih =>
    intro k hk c hc
    cases k with
    | succ k => exact absurd hk (by simp [fok])
    | zero =>
      have h9 : (1 ≤ d ∧ d ≤ 9) ∧ fok 3 l := hk
      rw [fpr] at hc
      simp only [List.mem_cons, List.mem_append, List.not_mem_nil, or_false] at hc
      rcases hc with hc | hc | hc | hc | hc | hc
      · omega
      · omega
      · omega
      · omega
      · exact ih 3 h9.2 _ hc
      · omega
  | append a b iha ihb =>
    intro k hk c hc
    cases k with
    | zero => exact absurd hk (by simp [fok])
    | succ k =>
      obtain ⟨h1, h2, h3⟩ := hk
      rcases h3 with h3 | ⟨h3, h4⟩
      · rw [fpr_a1 h3] at hc
        exact iha k h2 _ hc
      · have hsp : fsep (k + 1) < 127 := by unfold fsep; split <;> omega
        rw [fpr_a2 h3, List.mem_append, List.mem_cons] at hc
        rcases hc with hc | hc | hc
        · exact iha k h2 _ hc
        · rw [hc]; exact hsp
        · exact ihb (k + 1) h4 _ hc
  | _ => intro k hk; cases k <;> exact absurd hk (by simp [fok])
theorem m_policy {w cm vs es tb : Nat → Nat} {s c fi th ep tn : Nat} {t y pp pn pm : Int32} {rule : Option Nat} {ful : Nat → Int32} (hs : s < 4) (hR : RSl w s c fi th ep cm vs es) (hP : fi = 1 → PolR w s rule pp pn pm ful tn tb) (hS1 : F_X10_checkSlot (nI s) = some 0) (hS2 : F_X11_isSlot (nI s) = some (nI 1)) :
    ∃ e r b k, F_X10_policy (nI fi) rule pp pn pm (nI s) y = some (e, r) ∧ F_X11_policy t (L w) (nI s) y = some (b, k) ∧ EK [(0, 0), (1, 1), (2, 2), (3, 3)] e k ∧ (e = 0 → r = b) := by
  have hf := hR.1
  have o0 : ¬ nI 1 = 0 := by decide
  rcases a_what y 2 (by omega) with ⟨j, hj, rfl, c1, c2⟩ | ⟨c1, c2⟩
  · have hfi : fi = 0 ∨ fi = 1 := by omega
    rcases hfi with rfl | rfl
    · refine ⟨3, 0, nI 0, nI 3, ?_, ?_, EK.of (by simp), fun h => by omega⟩
      · unfold F_X10_policy
        exact ob hS1 ((if_pos rfl).trans (ob c1 ((if_pos rfl).trans (ob (z_secretIn hs hf) (if_neg (by decide))))))
      · unfold F_X11_policy F_X11_policy_L45
        exact ob hS2 ((if_neg o0).trans (ob c2 ((if_neg o0).trans (ob (hR.has hs) ((if_pos rfl).trans rfl)))))
    · rcases hP rfl with ⟨rfl, h0⟩ | ⟨q, tr, rfl, ⟨p1, p2, p3, p4, p5, p6, p7⟩, rfl, rfl, rfl, -⟩
      · refine ⟨3, 0, nI 0, nI 3, ?_, ?_, EK.of (by simp), fun h => by omega⟩
        · unfold F_X10_policy
          exact ob hS1 ((if_pos rfl).trans (ob c1 ((if_pos rfl).trans (ob (z_secretIn hs hf) ((if_pos rfl).trans (ob (x := 3) rfl (if_neg (by decide))))))))
        · unfold F_X11_policy F_X11_policy_L45
          refine ob hS2 ((if_neg o0).trans (ob c2 ((if_neg o0).trans (ob (hR.has hs) ((if_neg o0).trans (ob (z_hasPol hs (by omega)) ?_))))))
          rw [h0]
          exact (if_pos rfl).trans rfl
      · have hp11 : decide (0 < w (ix s 11)) = true := decide_eq_true (by rw [p2]; exact fpr_pos tr 2 p1)
        have hO : ∀ i, i < (fpr 2 tr).length → Tx w s i < 127 := by
          intro i hi
          have h1 := p4 i hi
          rw [Nat.zero_add] at h1
          rw [h1]
          exact fpr_ch tr 2 p1 _ (lT_mem hi)
        have e62 := z_pol62 (wh := nI j) (th := t) hs p1 p2 p3 p4 hO
        have R1 : ∀ v, F_X11_policy_L62 (L w) (nI s) (nI j) 1000 t 0 0 0 0 = v → F_X11_policy t (L w) (nI s) (nI j) = v := by
          intro v hv
          unfold F_X11_policy F_X11_policy_L45
          refine ob hS2 ((if_neg o0).trans (ob c2 ((if_neg o0).trans (ob (hR.has hs) ((if_neg o0).trans (ob (z_hasPol hs (by omega)) ?_))))))
          rw [hp11]
          exact (if_neg o0).trans hv
        have L1 : ∀ v, (if nI j = 0 then (some (0, nI (np tr))) else (if nI j = 1 then (F_X10_policy_L43 (nI (dp tr))) else (F_X10_policy_L43 (nI (nm tr))))) = v → F_X10_policy (nI 1) (some q) (nI (np tr)) (nI (dp tr)) (nI (nm tr)) (nI s) (nI j) = v := by
          intro v hv
          unfold F_X10_policy
          exact ob hS1 ((if_pos rfl).trans (ob c1 ((if_pos rfl).trans (ob (z_secretIn hs hf) ((if_pos rfl).trans (ob (x := 0) rfl ((if_pos rfl).trans ((q_gg _).trans hv))))))))
        have hj3 : j = 0 ∨ j = 1 ∨ j = 2 := by omega
        rcases hj3 with rfl | rfl | rfl
        · exact ⟨0, nI (np tr), nI (np tr), nI 0, L1 _ (if_pos rfl), R1 _ (e62.trans ((if_pos rfl).trans rfl)), EK.of (by simp), fun _ => rfl⟩
        · exact ⟨0, nI (dp tr), nI (dp tr), nI 0, L1 _ ((if_neg (by decide)).trans (if_pos rfl)), R1 _ (e62.trans ((if_neg (by decide)).trans ((if_pos rfl).trans rfl))), EK.of (by simp), fun _ => rfl⟩
        · exact ⟨0, nI (nm tr), nI (nm tr), nI 0, L1 _ ((if_neg (by decide)).trans (if_neg (by decide))), R1 _ (e62.trans ((if_neg (by decide)).trans ((if_neg (by decide)).trans rfl))), EK.of (by simp), fun _ => rfl⟩
  · refine ⟨2, 0, nI 0, nI 2, ?_, ?_, EK.of (by simp), fun h => by omega⟩
    · unfold F_X10_policy
      exact ob hS1 ((if_pos rfl).trans (ob c1 (if_neg (by decide))))
    · unfold F_X11_policy
      exact ob hS2 ((if_neg o0).trans (ob c2 ((if_pos rfl).trans rfl)))
