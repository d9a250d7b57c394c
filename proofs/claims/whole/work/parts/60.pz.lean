/-! PURE: save, restore -/
def cpN (f g : Nat → Nat) (n : Nat) : Nat → Nat := fun i => if i < n then f i else g i
theorem cpN_in {f g : Nat → Nat} {n i : Nat} (h : i < n) : cpN f g n i = f i := if_pos h
theorem L_cp (f g : Nat → Nat) (n : Nat) (hn : n < 2 ^ 31) : va_cpy (L f) (L g) (Int32.toNatClampNeg 0) (Int32.toNatClampNeg 0) (Int32.toNatClampNeg (nI n)) = L (cpN f g n) := by
  have h0 : Int32.toNatClampNeg 0 = 0 := by decide
  rw [h0, q_cl hn]
  funext i
  unfold va_cpy L cpN
  by_cases h : i < n
  · rw [if_pos ⟨by omega, by omega⟩, if_pos h, Nat.sub_zero, Nat.zero_add]
  · rw [if_neg (by omega), if_neg h]
theorem q_gzb {a : Nat} (h : a ≤ 1) : gzb (nI a) = true := by
  have : a = 0 ∨ a = 1 := by omega
  rcases this with rfl | rfl <;> decide
theorem z_copy7 {fi th ep fi' th' ep' : Nat} {rule rule' : Option Nat} {cm vs es cm' vs' es' : Nat → Nat} (h : fi' ≤ 1) : F_X7_copyFrom (nI fi) (nI th) (nI ep) rule (L cm) (L vs) (L es) (nI fi') (nI th') (nI ep') rule' (L cm') (L vs') (L es') = some (nI fi', nI th', nI ep', rule', L (cpN cm' cm 8), L (cpN vs' vs 25), L (cpN es' es 25)) := by
  unfold F_X7_copyFrom
  rw [q_gzb h, q_gg, ← L_cp cm' cm 8 (by omega), ← L_cp vs' vs 25 (by omega), ← L_cp es' es 25 (by omega)]
  rfl
theorem z_filled4 : ∀ a, a < 2 → ∀ b, b < 2 → ∀ c, c < 2 → ∀ d, d < 2 → F_X9_filledSlots (nI a) (nI b) (nI c) (nI d) = some (nI (a + b + c + d)) := by decide
theorem z_filled {a b c d : Nat} (ha : a ≤ 1) (hb : b ≤ 1) (hc : c ≤ 1) (hd : d ≤ 1) : F_X9_filledSlots (nI a) (nI b) (nI c) (nI d) = some (nI (a + b + c + d)) := z_filled4 a (by omega) b (by omega) c (by omega) d (by omega)
theorem z_secrets {w fi : Nat → Nat} (h : ∀ s, s < 4 → w (ix s 0) = fi s) : F_X11_secrets (L w) = some (nI (fi 0 + fi 1 + fi 2 + fi 3)) := by
  unfold F_X11_secrets
  obtain ⟨n, hn⟩ : ∃ n, (1000 : Nat) = n + 1 + 1 + 1 + 1 + 1 := ⟨995, rfl⟩
  have o := fun s (hs : s < 4) => (z_of (w := w) (s := s) (k := 0) hs (by omega)).trans (congrArg (fun x => some (nI x)) (h s hs))
  rw [hn, F_X11_secrets_L4]
  refine (if_neg (show ¬ nI 4 ≤ nI 0 by decide)).trans ?_
  refine ob (o 0 (by omega)) ?_
  rw [F_X11_secrets_L4]
  refine (if_neg (show ¬ nI 4 ≤ nI 1 by decide)).trans ?_
  refine ob (o 1 (by omega)) ?_
  rw [F_X11_secrets_L4]
  refine (if_neg (show ¬ nI 4 ≤ nI 2 by decide)).trans ?_
  refine ob (o 2 (by omega)) ?_
  rw [F_X11_secrets_L4]
  refine (if_neg (show ¬ nI 4 ≤ nI 3 by decide)).trans ?_
  refine ob (o 3 (by omega)) ?_
  rw [F_X11_secrets_L4]
  refine (if_pos (show nI 4 ≤ nI 4 by decide)).trans ?_
  show some (nI 0 + nI _ + nI _ + nI _ + nI _) = _
  rw [nI_add, nI_add, nI_add, nI_add, Nat.zero_add]
theorem z_copy9 {z kz : Int32} {pr le ec kpr kle kec : Nat} {wt ev kwt kev : Nat → Nat} {fi th ep kfi kth kep : Nat → Nat} {rule krule : Nat → Option Nat} {cm vs es kcm kvs kes : Nat → Nat → Nat} (hk : ∀ s, s < 4 → kfi s ≤ 1) : F_X9_copyFrom z (nI pr) (nI le) (nI ec) (L wt) (L ev) (nI (fi 0)) (nI (th 0)) (nI (ep 0)) (rule 0) (L (cm 0)) (L (vs 0)) (L (es 0)) (nI (fi 1)) (nI (th 1)) (nI (ep 1)) (rule 1) (L (cm 1)) (L (vs 1)) (L (es 1)) (nI (fi 2)) (nI (th 2)) (nI (ep 2)) (rule 2) (L (cm 2)) (L (vs 2)) (L (es 2)) (nI (fi 3)) (nI (th 3)) (nI (ep 3)) (rule 3) (L (cm 3)) (L (vs 3)) (L (es 3)) kz (nI kpr) (nI kle) (nI kec) (L kwt) (L kev) (nI (kfi 0)) (nI (kth 0)) (nI (kep 0)) (krule 0) (L (kcm 0)) (L (kvs 0)) (L (kes 0)) (nI (kfi 1)) (nI (kth 1)) (nI (kep 1)) (krule 1) (L (kcm 1)) (L (kvs 1)) (L (kes 1)) (nI (kfi 2)) (nI (kth 2)) (nI (kep 2)) (krule 2) (L (kcm 2)) (L (kvs 2)) (L (kes 2)) (nI (kfi 3)) (nI (kth 3)) (nI (kep 3)) (krule 3) (L (kcm 3)) (L (kvs 3)) (L (kes 3)) = some (kz, nI kpr, nI kle, nI kec, L (cpN kwt wt 8), L (cpN kev ev 20), nI (kfi 0), nI (kth 0), nI (kep 0), krule 0, L (cpN (kcm 0) (cm 0) 8), L (cpN (kvs 0) (vs 0) 25), L (cpN (kes 0) (es 0) 25), nI (kfi 1), nI (kth 1), nI (kep 1), krule 1, L (cpN (kcm 1) (cm 1) 8), L (cpN (kvs 1) (vs 1) 25), L (cpN (kes 1) (es 1) 25), nI (kfi 2), nI (kth 2), nI (kep 2), krule 2, L (cpN (kcm 2) (cm 2) 8), L (cpN (kvs 2) (vs 2) 25), L (cpN (kes 2) (es 2) 25), nI (kfi 3), nI (kth 3), nI (kep 3), krule 3, L (cpN (kcm 3) (cm 3) 8), L (cpN (kvs 3) (vs 3) 25), L (cpN (kes 3) (es 3) 25)) := by
  unfold F_X9_copyFrom
  refine ob (z_copy7 (hk 0 (by omega))) ?_
  refine ob (z_copy7 (hk 1 (by omega))) ?_
  refine ob (z_copy7 (hk 2 (by omega))) ?_
  refine ob (z_copy7 (hk 3 (by omega))) ?_
  rw [← L_cp kwt wt 8 (by omega), ← L_cp kev ev 20 (by omega)]
  rfl
theorem z_sv_L {w : Nat → Nat} {t h : Int32} {X : Option Int32} (hX : F_X11_secrets (L w) = X) : ∀ k n i (sv : Nat → Nat), i + k = 534 → k < n → ∃ sv', F_X11_save_L7 (L w) n t (L sv) h (nI i) = (X.bind fun v2 => (F_X11_done t v2).bind fun v4 => some (v4.1, v4.2, L sv', h)) ∧ (∀ j, i ≤ j → j < 534 → sv' j = w j) ∧ ∀ j, j < i → sv' j = sv j := by
  intro k
  induction k with
  | zero =>
    intro n i sv hi hn
    obtain ⟨n, rfl⟩ := z_fuel hn
    refine ⟨sv, ?_, fun j a b => by omega, fun _ _ => rfl⟩
    rw [F_X11_save_L7, hX]
    exact if_pos (show nI 534 ≤ nI i from nI_le (by omega) (by omega))
  | succ k ih =>
    intro n i sv hi hn
    obtain ⟨n, rfl⟩ := z_fuel (show 0 < n by omega)
    obtain ⟨sv', e1, e2, e3⟩ := ih n (i + 1) (updN sv i (w i)) (by omega) (by omega)
    refine ⟨sv', ?_, fun j a b => ?_, fun j a => ?_⟩
    · rw [F_X11_save_L7]
      refine (if_neg (show ¬ nI 534 ≤ nI i from nI_ge (by omega) (by omega))).trans ?_
      rw [q_gi (show i < 534 by omega) (by omega), q_gg, q_gg, q_gl, q_cl (by omega), L_app, L_upd, show nI i + 1 = nI (i + 1) from nI_1 i]
      exact e1
    · by_cases h9 : j = i
      · subst h9
        rw [e3 j (by omega), uN_s]
      · exact e2 j (by omega) b
    · rw [e3 j (by omega), uN_n _ _ (by omega)]
theorem z_rs_L {sv : Nat → Nat} {t : Int32} : ∀ k n i (w : Nat → Nat), i + k = 534 → k < n → ∃ w', F_X11_restore_L15 (L sv) n t (L w) (nI i) = ((F_X11_secrets (L w')).bind fun v2 => (F_X11_done t v2).bind fun v4 => some (v4.1, v4.2, L w')) ∧ (∀ j, i ≤ j → j < 534 → w' j = sv j) ∧ ∀ j, j < i → w' j = w j := by
  intro k
  induction k with
  | zero =>
    intro n i w hi hn
    obtain ⟨n, rfl⟩ := z_fuel hn
    refine ⟨w, ?_, fun j a b => by omega, fun _ _ => rfl⟩
    rw [F_X11_restore_L15]
    exact if_pos (show nI 534 ≤ nI i from nI_le (by omega) (by omega))
  | succ k ih =>
    intro n i w hi hn
    obtain ⟨n, rfl⟩ := z_fuel (show 0 < n by omega)
    obtain ⟨w', e1, e2, e3⟩ := ih n (i + 1) (updN w i (sv i)) (by omega) (by omega)
    refine ⟨w', ?_, fun j a b => ?_, fun j a => ?_⟩
    · rw [F_X11_restore_L15]
      refine (if_neg (show ¬ nI 534 ≤ nI i from nI_ge (by omega) (by omega))).trans ?_
      rw [q_gi (show i < 534 by omega) (by omega), q_gg, q_gg, q_gl, q_cl (by omega), L_app, L_upd, show nI i + 1 = nI (i + 1) from nI_1 i]
      exact e1
    · by_cases h9 : j = i
      · subst h9
        rw [e3 j (by omega), uN_s]
      · exact e2 j (by omega) b
    · rw [e3 j (by omega), uN_n _ _ (by omega)]
theorem m_save {z kz : Int32} {pr le ec kpr kle kec : Nat} {wt ev kwt kev : Nat → Nat} {fi th ep kfi kth kep : Nat → Nat} {rule krule : Nat → Option Nat} {cm vs es kcm kvs kes : Nat → Nat → Nat} {w sv : Nat → Nat} {t h ak : Int32} (hf : ∀ s, s < 4 → fi s ≤ 1 ∧ w (ix s 0) = fi s) : ∃ sv', F_X10_save ak z (nI pr) (nI le) (nI ec) (L wt) (L ev) (nI (fi 0)) (nI (th 0)) (nI (ep 0)) (rule 0) (L (cm 0)) (L (vs 0)) (L (es 0)) (nI (fi 1)) (nI (th 1)) (nI (ep 1)) (rule 1) (L (cm 1)) (L (vs 1)) (L (es 1)) (nI (fi 2)) (nI (th 2)) (nI (ep 2)) (rule 2) (L (cm 2)) (L (vs 2)) (L (es 2)) (nI (fi 3)) (nI (th 3)) (nI (ep 3)) (rule 3) (L (cm 3)) (L (vs 3)) (L (es 3)) kz (nI kpr) (nI kle) (nI kec) (L kwt) (L kev) (nI (kfi 0)) (nI (kth 0)) (nI (kep 0)) (krule 0) (L (kcm 0)) (L (kvs 0)) (L (kes 0)) (nI (kfi 1)) (nI (kth 1)) (nI (kep 1)) (krule 1) (L (kcm 1)) (L (kvs 1)) (L (kes 1)) (nI (kfi 2)) (nI (kth 2)) (nI (kep 2)) (krule 2) (L (kcm 2)) (L (kvs 2)) (L (kes 2)) (nI (kfi 3)) (nI (kth 3)) (nI (kep 3)) (krule 3) (L (kcm 3)) (L (kvs 3)) (L (kes 3)) = some (nI (fi 0 + fi 1 + fi 2 + fi 3), 1, z, nI pr, nI le, nI ec, L (cpN wt kwt 8), L (cpN ev kev 20), nI (fi 0), nI (th 0), nI (ep 0), rule 0, L (cpN (cm 0) (kcm 0) 8), L (cpN (vs 0) (kvs 0) 25), L (cpN (es 0) (kes 0) 25), nI (fi 1), nI (th 1), nI (ep 1), rule 1, L (cpN (cm 1) (kcm 1) 8), L (cpN (vs 1) (kvs 1) 25), L (cpN (es 1) (kes 1) 25), nI (fi 2), nI (th 2), nI (ep 2), rule 2, L (cpN (cm 2) (kcm 2) 8), L (cpN (vs 2) (kvs 2) 25), L (cpN (es 2) (kes 2) 25), nI (fi 3), nI (th 3), nI (ep 3), rule 3, L (cpN (cm 3) (kcm 3) 8), L (cpN (vs 3) (kvs 3) 25), L (cpN (es 3) (kes 3) 25)) ∧ F_X11_save t (L w) (L sv) h = some (nI (fi 0 + fi 1 + fi 2 + fi 3), nI 0, L sv', 1) ∧ ∀ j, j < 534 → sv' j = w j := by
  obtain ⟨sv', e1, e2, -⟩ := z_sv_L (t := t) (h := 1) (z_secrets (fun s hs => (hf s hs).2)) 534 1000 0 sv (by omega) (by omega)
  refine ⟨sv', ?_, ?_, fun j hj => e2 j (by omega) hj⟩
  · unfold F_X10_save
    refine ob (z_copy9 (fun s hs => (hf s hs).1)) ?_
    refine ob (z_filled (hf 0 (by omega)).1 (hf 1 (by omega)).1 (hf 2 (by omega)).1 (hf 3 (by omega)).1) ?_
    rfl
  · unfold F_X11_save
    refine Eq.trans e1 ?_
    rfl
