/-! PURE: restore; what the relations read -/
theorem m_restore {z kz : Int32} {pr le ec kpr kle kec : Nat} {wt ev kwt kev : Nat → Nat} {fi th ep kfi kth kep : Nat → Nat} {rule krule : Nat → Option Nat} {cm vs es kcm kvs kes : Nat → Nat → Nat} {w sv : Nat → Nat} {t h ak : Int32} (hf : ∀ s, s < 4 → kfi s ≤ 1 ∧ sv (ix s 0) = kfi s) : ∃ w', F_X10_restore 1 z (nI pr) (nI le) (nI ec) (L wt) (L ev) (nI (fi 0)) (nI (th 0)) (nI (ep 0)) (rule 0) (L (cm 0)) (L (vs 0)) (L (es 0)) (nI (fi 1)) (nI (th 1)) (nI (ep 1)) (rule 1) (L (cm 1)) (L (vs 1)) (L (es 1)) (nI (fi 2)) (nI (th 2)) (nI (ep 2)) (rule 2) (L (cm 2)) (L (vs 2)) (L (es 2)) (nI (fi 3)) (nI (th 3)) (nI (ep 3)) (rule 3) (L (cm 3)) (L (vs 3)) (L (es 3)) kz (nI kpr) (nI kle) (nI kec) (L kwt) (L kev) (nI (kfi 0)) (nI (kth 0)) (nI (kep 0)) (krule 0) (L (kcm 0)) (L (kvs 0)) (L (kes 0)) (nI (kfi 1)) (nI (kth 1)) (nI (kep 1)) (krule 1) (L (kcm 1)) (L (kvs 1)) (L (kes 1)) (nI (kfi 2)) (nI (kth 2)) (nI (kep 2)) (krule 2) (L (kcm 2)) (L (kvs 2)) (L (kes 2)) (nI (kfi 3)) (nI (kth 3)) (nI (kep 3)) (krule 3) (L (kcm 3)) (L (kvs 3)) (L (kes 3)) = some (0, nI (kfi 0 + kfi 1 + kfi 2 + kfi 3), kz, nI kpr, nI kle, nI kec, L (cpN kwt wt 8), L (cpN kev ev 20), nI (kfi 0), nI (kth 0), nI (kep 0), krule 0, L (cpN (kcm 0) (cm 0) 8), L (cpN (kvs 0) (vs 0) 25), L (cpN (kes 0) (es 0) 25), nI (kfi 1), nI (kth 1), nI (kep 1), krule 1, L (cpN (kcm 1) (cm 1) 8), L (cpN (kvs 1) (vs 1) 25), L (cpN (kes 1) (es 1) 25), nI (kfi 2), nI (kth 2), nI (kep 2), krule 2, L (cpN (kcm 2) (cm 2) 8), L (cpN (kvs 2) (vs 2) 25), L (cpN (kes 2) (es 2) 25), nI (kfi 3), nI (kth 3), nI (kep 3), krule 3, L (cpN (kcm 3) (cm 3) 8), L (cpN (kvs 3) (vs 3) 25), L (cpN (kes 3) (es 3) 25)) ∧ F_X11_restore t (L w) (L sv) 1 = some (nI (kfi 0 + kfi 1 + kfi 2 + kfi 3), nI 0, L w') ∧ ∀ j, j < 534 → w' j = sv j := by
  obtain ⟨w', e1, e2, -⟩ := z_rs_L (sv := sv) (t := t) 534 1000 0 w (by omega) (by omega)
  refine ⟨w', ?_, ?_, fun j hj => e2 j (by omega) hj⟩
  · unfold F_X10_restore
    refine (if_neg (show ¬ (1 : Int32) = 0 by decide)).trans ?_
    refine ob (z_copy9 (fun s hs => (hf s hs).1)) ?_
    refine ob (z_filled (hf 0 (by omega)).1 (hf 1 (by omega)).1 (hf 2 (by omega)).1 (hf 3 (by omega)).1) ?_
    rfl
  · unfold F_X11_restore
    refine (if_neg (show ¬ (1 : Int32) = 0 by decide)).trans ?_
    refine Eq.trans e1 ?_
    refine ob (z_secrets (fun s hs => (e2 _ (by omega) (by simp only [ix]; omega)).trans (hf s hs).2)) ?_
    rfl
theorem m_restore0 {z kz : Int32} {pr le ec kpr kle kec : Nat} {wt ev kwt kev : Nat → Nat} {fi th ep kfi kth kep : Nat → Nat} {rule krule : Nat → Option Nat} {cm vs es kcm kvs kes : Nat → Nat → Nat} {w sv : Nat → Nat} {t h ak : Int32} : F_X10_restore 0 z (nI pr) (nI le) (nI ec) (L wt) (L ev) (nI (fi 0)) (nI (th 0)) (nI (ep 0)) (rule 0) (L (cm 0)) (L (vs 0)) (L (es 0)) (nI (fi 1)) (nI (th 1)) (nI (ep 1)) (rule 1) (L (cm 1)) (L (vs 1)) (L (es 1)) (nI (fi 2)) (nI (th 2)) (nI (ep 2)) (rule 2) (L (cm 2)) (L (vs 2)) (L (es 2)) (nI (fi 3)) (nI (th 3)) (nI (ep 3)) (rule 3) (L (cm 3)) (L (vs 3)) (L (es 3)) kz (nI kpr) (nI kle) (nI kec) (L kwt) (L kev) (nI (kfi 0)) (nI (kth 0)) (nI (kep 0)) (krule 0) (L (kcm 0)) (L (kvs 0)) (L (kes 0)) (nI (kfi 1)) (nI (kth 1)) (nI (kep 1)) (krule 1) (L (kcm 1)) (L (kvs 1)) (L (kes 1)) (nI (kfi 2)) (nI (kth 2)) (nI (kep 2)) (krule 2) (L (kcm 2)) (L (kvs 2)) (L (kes 2)) (nI (kfi 3)) (nI (kth 3)) (nI (kep 3)) (krule 3) (L (kcm 3)) (L (kvs 3)) (L (kes 3)) = some (5, 0, z, nI pr, nI le, nI ec, L wt, L ev, nI (fi 0), nI (th 0), nI (ep 0), rule 0, L (cm 0), L (vs 0), L (es 0), nI (fi 1), nI (th 1), nI (ep 1), rule 1, L (cm 1), L (vs 1), L (es 1), nI (fi 2), nI (th 2), nI (ep 2), rule 2, L (cm 2), L (vs 2), L (es 2), nI (fi 3), nI (th 3), nI (ep 3), rule 3, L (cm 3), L (vs 3), L (es 3)) ∧ F_X11_restore t (L w) (L sv) 0 = some (nI 0, nI 1, L w) := by
  refine ⟨?_, ?_⟩
  · unfold F_X10_restore
    exact if_pos rfl
  · unfold F_X11_restore
    refine (if_pos rfl).trans ?_
    rfl
theorem RSh.ext {w w' vs vs' es es' : Nat → Nat} {s : Nat} (h : RSh w s vs es) (hs : s < 4) (hw : ∀ i, i < 534 → w' i = w i) (hv : ∀ p, p < 25 → vs' p = vs p) (he : ∀ p, p < 25 → es' p = es p) : RSh w' s vs' es' := fun p h1 h2 => by
  have := h p h1 h2
  rw [hv p (by omega), he p (by omega), hw _ (by simp only [ix, shx]; omega), hw _ (by simp only [ix, shx]; omega), hw _ (by simp only [ix, shx]; omega)]
  exact this
theorem okS_ext {th ep : Nat} {cm cm' vs vs' es es' : Nat → Nat} (h : okS th ep cm vs es) (hc : ∀ j, j < 8 → cm' j = cm j) (hv : ∀ p, p < 25 → vs' p = vs p) (he : ∀ p, p < 25 → es' p = es p) : okS th ep cm' vs' es' := ⟨h.1, h.2.1, fun j hj => by rw [hc j hj]; exact h.2.2.1 j hj, fun p hp => by rw [hv p (by omega)]; exact h.2.2.2.1 p hp, fun p hp => by rw [he p (by omega)]; exact h.2.2.2.2 p hp⟩
theorem RSl.ext {w w' cm cm' vs vs' es es' : Nat → Nat} {s c fi th ep : Nat} (h : RSl w s c fi th ep cm vs es) (hs : s < 4) (hw : ∀ i, i < 534 → w' i = w i) (hc : ∀ j, j < 8 → cm' j = cm j) (hv : ∀ p, p < 25 → vs' p = vs p) (he : ∀ p, p < 25 → es' p = es p) : RSl w' s c fi th ep cm' vs' es' := by
  obtain ⟨h1, h2, h3, h4, h5, h6, h7⟩ := h
  refine ⟨h1, (hw _ (by simp only [ix]; omega)).trans h2, h3.ext hs hw hv he, okS_ext h4 hc hv he, h5, fun hf p q1 q2 => (he p (by omega)).trans (h6 hf p q1 q2), fun hf => ?_⟩
  obtain ⟨a1, a2, a3, a4, a5, a6, a7⟩ := h7 hf
  have := a2.1
  exact ⟨a1.ext hs hw hv he, okS_ext a2 hc hv he, a3, a4, (hw _ (by simp only [ix]; omega)).trans a5, (hw _ (by simp only [ix]; omega)).trans a6, fun j hj => by rw [hw _ (by simp only [ix]; omega), hc j (by omega)]; exact a7 j hj⟩
theorem HW.ext {w w' wt wt' : Nat → Nat} {pr : Nat} (h : HW w pr wt) (hw : ∀ i, i < 534 → w' i = w i) (ht : ∀ m, m < 8 → wt' m = wt m) : HW w' pr wt' := ⟨h.1, fun m hm => by rw [hw _ (by omega), hw _ (by omega), ht m hm]; exact h.2 m hm⟩
theorem REv.ext {w w' ev ev' : Nat → Nat} {le ec : Nat} (h : REv w le ec ev) (hw : ∀ i, i < 534 → w' i = w i) (ht : ∀ m, m < 20 → ev' m = ev m) : REv w' le ec ev' := ⟨h.1, h.2.1, (hw _ (by omega)).trans h.2.2.1, fun k hk => by
  have := h.2.1
  rw [hw _ (by omega), ht _ (Nat.mod_lt _ (by omega))]
  exact h.2.2.2 k hk⟩
