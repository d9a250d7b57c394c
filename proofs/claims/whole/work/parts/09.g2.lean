/-! THE G LAYER: what is read only, references, copies -/
section GN2
variable {X : gX} {own : String} {cc : ByteArray} {ret : Option FieldType} {Q : State → Prop} {ck sk pc : Nat} {ws ro : va_W} {lv : List (Nat × Value)} {st : List Value} {S : Type} {mc ms e0 : Nat} {rv : S → Option Value} {w1 : S → va_W}
theorem gC_ro (C : gC X own cc ret) (hro : x_ro X = ro) {H : Heap} {locs : List Loc} (a3 : va_S (x_A X) (x_s X).heap H locs) : va_P (x_D X) vwCl ro H := by
  have h := ((C.2.2.2.2.2.2.2.2.2.1).kept a3.2.1).1
  rw [hro] at h
  exact h
theorem g_aret {a : Nat} {ty : FieldType} (C : gC X own cc (some ty)) (E : gE X Q mc ms e0 rv w1) (u : S) (d : decode cc pc = .ok (.areturn, 1)) (hn : (∃ n, ty = FieldType.object n) ∨ ∃ t, ty = FieldType.array t) (he : e0 = 0) (hr : rv u = some (.ref a)) (hw : w1 u = ws) (h1 : ck ≤ mc) (h2 : sk ≤ ms) : gW X Q ck sk ws lv [.ref a] pc := fun H locs ls a1 a2 a3 a4 => by
  subst hw
  exact E.1 _ H locs ck sk u h1 h2 he a1 a2 a3 (W.aret C.1 C.2.1 C.2.2.2.2.2.1 hn (Or.inr ⟨a, rfl⟩) (fun t ht hW => ⟨by rw [hr], ht, hW⟩) a3.2.2 d C.2.2.2.2.2.2.1)
theorem g_getR (C : gC X own cc ret) (hro : x_ro X = ro) (q0 : Nat) {a ci N index : Nat} {fs : List Value} {K ref : String} {T : u_T} (k : Nat) {v : Value} (he : ro[q0]? = some (a, .inr (ci, fs))) (hc : vwCl[ci]? = some (K, T, N)) (hin : ∀ w ∈ u_ws K T N, w ∈ gBW) (hk : k < N)
    (hlink : Cond.fieldLink own index ref (T k).2.1 (T k).2.2.1 ∈ gBW) (href : (T k).1 = ref) (hv : fs[k]? = some v) (d : decode cc pc = .ok (.getfield index, 3)) (kk : gW X Q ck sk ws lv (v :: st) (pc + 3)) : gW X Q ck sk ws lv (.ref a :: st) pc := fun H locs ls a1 a2 a3 a4 => by
  subst href
  exact va_get C.1 C.2.1 C.2.2.2.2.1 hin C.2.2.2.1 C.2.2.2.2.2.2.2.1 (gC_ro C hro a3) q0 he hc k hk (C.2.2.2.2.1 _ hlink) (fun _ h => h) hv d (kk H locs ls a1 a2 a3 a4)
theorem g_zaldR (C : gC X own cc ret) (hro : x_ro X = ro) (q0 : Nat) {a n : Nat} {f : Nat → Int32} {i : Int32} (ha : ro[q0]? = some (a, .inl (x_y X 1, n, .inl f))) (hin : vp_in i n) (d : decode cc pc = .ok (.baload, 1)) (kk : gW X Q ck sk ws lv (.int (f i.toNatClampNeg) :: st) (pc + 1)) : gW X Q ck sk ws lv (.int i :: .ref a :: st) pc := fun H locs ls a1 a2 a3 a4 =>
  va_zald C.1 C.2.1 C.2.2.2.2.2.2.2.1 (gC_ro C hro a3) q0 1 ha rfl hin d (kk H locs ls a1 a2 a3 a4)
theorem g_baldR (C : gC X own cc ret) (hro : x_ro X = ro) (q0 : Nat) {a n : Nat} {f : Nat → Int32} {i : Int32} (ha : ro[q0]? = some (a, .inl (x_y X 3, n, .inl f))) (hin : vp_in i n) (d : decode cc pc = .ok (.baload, 1)) (kk : gW X Q ck sk ws lv (.int (f i.toNatClampNeg) :: st) (pc + 1)) : gW X Q ck sk ws lv (.int i :: .ref a :: st) pc := fun H locs ls a1 a2 a3 a4 =>
  va_bald C.1 C.2.1 C.2.2.2.2.2.2.2.1 (gC_ro C hro a3) q0 3 ha rfl hin d (kk H locs ls a1 a2 a3 a4)
theorem g_alenR (C : gC X own cc ret) (hro : x_ro X = ro) (q0 : Nat) {t0 a : Nat} {x : vp_A} {ty : FieldType} {v : Int32} (ha : ro[q0]? = some (a, .inl (x_y X t0, x))) (ht : (gTys (x_y X))[t0]? = some (x_y X t0, ty)) (hv : Int32.ofNat x.1 = v) (d : decode cc pc = .ok (.arraylength, 1)) (kk : gW X Q ck sk ws lv (.int v :: st) (pc + 1)) : gW X Q ck sk ws lv (.ref a :: st) pc := fun H locs ls a1 a2 a3 a4 =>
  va_alen C.1 C.2.1 C.2.2.2.2.2.2.2.1 (gC_ro C hro a3) q0 t0 ha ht hv d (kk H locs ls a1 a2 a3 a4)
theorem g_aald (C : gC X own cc ret) (q0 : Nat) {a n r : Nat} {f : Nat → Option Nat} {i : Int32} (ha : ws[q0]? = some (a, .inl (x_y X 5, n, .inr (.inr (.inr (.inr f)))))) (hin : vp_in i n) (hr : f i.toNatClampNeg = some r) (d : decode cc pc = .ok (.aaload, 1)) (kk : gW X Q ck sk ws lv (.ref r :: st) (pc + 1)) : gW X Q ck sk ws lv (.int i :: .ref a :: st) pc := fun H locs ls a1 a2 a3 a4 => by
  refine va_aldq C.1 C.2.1 C.2.2.2.2.2.2.2.1 a1 q0 5 ha rfl hin d ?_
  rw [hr]
  exact kk H locs ls a1 a2 a3 a4
theorem g_gets (C : gC X own cc ret) {index : Nat} {ref : String} (hlink : Cond.fieldLink own index ref "COMPACT_STRINGS" "Z" ∈ gBW) (href : ref = "java/lang/String") (d : decode cc pc = .ok (.getstatic index, 3)) (kk : gW X Q ck sk ws lv (.int 1 :: st) (pc + 3)) : gW X Q ck sk ws lv st pc := fun H locs ls a1 a2 a3 a4 => by
  subst href
  exact va_gets C.1 C.2.1 C.2.2.2.2.2.2.2.2.2.2.1.2.2.2.1 a3 C.2.2.2.1 (C.2.2.2.2.1 _ hlink) (fun _ h => h) d (kk H locs ls a1 a2 a3 a4)
theorem g_getsq (C : gC X own cc ret) {index : Nat} {ref : String} (hlink : Cond.fieldLink own index ref "SIOOBE_FORMATTER" "Ljava/util/function/BiFunction;" ∈ gBW) (href : ref = "jdk/internal/util/Preconditions") (d : decode cc pc = .ok (.getstatic index, 3)) (kk : ∀ r : Option Nat, gW X Q ck sk ws lv (va_rf r :: st) (pc + 3)) : gW X Q ck sk ws lv st pc := fun H locs ls a1 a2 a3 a4 => by
  subst href
  rcases C.2.2.2.2.2.2.2.2.2.2.1.2.2.2.2.1 with h | ⟨t, h⟩
  · exact va_gets C.1 C.2.1 h a3 C.2.2.2.1 (C.2.2.2.2.1 _ hlink) (fun _ h => h) d (kk none H locs ls a1 a2 a3 a4)
  · exact va_gets C.1 C.2.1 h a3 C.2.2.2.1 (C.2.2.2.2.1 _ hlink) (fun _ h => h) d (kk (some t) H locs ls a1 a2 a3 a4)
theorem g_alv_n (C : gC X own cc ret) {k : Fin 4} (i : Nat) {r : Option Nat} (d : decode cc pc = .ok (.aload_n k, 1)) (hl : lv[i]? = some ((k : Nat), va_rf r)) (kk : gW X Q ck sk ws lv (va_rf r :: st) (pc + 1)) : gW X Q ck sk ws lv st pc := fun H locs ls a1 a2 a3 a4 => by
  cases r with
  | none => exact lv_aload_nN C.1 C.2.1 d rfl (lv_at a4 i hl) (kk H locs ls a1 a2 a3 a4)
  | some a => exact lv_aload_n C.1 C.2.1 d rfl (lv_at a4 i hl) (kk H locs ls a1 a2 a3 a4)
theorem g_rfref {r : Option Nat} {a : Nat} (h : r = some a) (k : gW X Q ck sk ws lv (.ref a :: st) pc) : gW X Q ck sk ws lv (va_rf r :: st) pc := by subst h; exact k
theorem g_nrf (T : String) (r : Option Nat) : narrow (.object T) (va_rf r) = va_rf r := by cases r <;> rfl
theorem g_frf (T : String) (r : Option Nat) : fits (.object T) (va_rf r) = true := by cases r <;> rfl
theorem g_ifnull_rf (C : gC X own cc ret) {r : Option Nat} {off : Int} (tgt : Nat) (d : decode cc pc = .ok (.ifnull off, 3)) (ht : (pc : Int) + off = (tgt : Int)) (kt : r = none → gW X Q ck sk ws lv st tgt) (kf : ¬ r = none → gW X Q ck sk ws lv st (pc + 3)) : gW X Q ck sk ws lv (va_rf r :: st) pc := by
  cases r with
  | none => exact g_ifnullN C tgt d ht (kt rfl)
  | some a => exact g_ifnull C d (kf (by simp))
theorem g_ifnonnull_rf (C : gC X own cc ret) {r : Option Nat} {off : Int} (tgt : Nat) (d : decode cc pc = .ok (.ifnonnull off, 3)) (ht : (pc : Int) + off = (tgt : Int)) (kt : ¬ r = none → gW X Q ck sk ws lv st tgt) (kf : r = none → gW X Q ck sk ws lv st (pc + 3)) : gW X Q ck sk ws lv (va_rf r :: st) pc := by
  cases r with
  | none => exact g_ifnonnullN C d (kf rfl)
  | some a => exact g_ifnonnull C tgt d ht (kt (by simp))
/-- System.arraycopy of ints between two arrays of the world -/
theorem g_copyi (C : gC X own cc ret) {index : Nat} (q0 q1 : Nat) {a0 a n0 n1 : Nat} {f g : Nat → Int32} {ws' : va_W} {sp dp n : Int32} (hl : Cond.methodLink own index arraycopyName ∈ gBW) (hnat : Cond.native arraycopyName ∈ gBW) (hst : Cond.static arraycopyName ∈ gBW) (hini : Cond.initialized "java/lang/System" ∈ gBW)
    (ha0 : ws[q0]? = some (a0, .inl (x_y X 0, n0, .inl f))) (ha1 : ws[q1]? = some (a, .inl (x_y X 0, n1, .inl g))) (h1 : ¬ sp < 0) (h2 : ¬ dp < 0) (h3 : ¬ n < 0) (h4 : sp.toNatClampNeg + n.toNatClampNeg ≤ n0) (h5 : dp.toNatClampNeg + n.toNatClampNeg ≤ n1)
    (hR : 1 ≤ (x_R X).frames ∧ (st.map fun v => v.category).sum + (nativeFrameWords "java/lang/System" "arraycopy" 5 + 11) ≤ (x_R X).locals) (hw : ws.set q1 (a, .inl (x_y X 0, n1, .inl (va_cpy f g sp.toNatClampNeg dp.toNatClampNeg n.toNatClampNeg))) = ws')
    (d : decode cc pc = .ok (.invokestatic index, 3)) (kk : gW X Q ck sk ws' lv st (pc + 3)) : gW X Q ck sk ws lv (.int n :: .int dp :: .ref a :: .int sp :: .ref a0 :: st) pc := fun H locs ls a1 a2 a3 a4 => by
  subst hw
  exact va_copyi C.1 C.2.1 (C.2.2.1.trans a4.1.symm) C.2.2.2.1 (C.2.2.2.2.1 _ hl) (C.2.2.2.2.1 _ hnat) (C.2.2.2.2.1 _ hst) (C.2.2.2.2.1 _ hini) C.2.2.2.2.2.2.2.1 a1 a2 a3 q0 q1 0 0 ha0 ha1 rfl rfl rfl h1 h2 h3 h4 h5 (fun _ _ => rfl) hR.1 hR.2 d (fun H1 l1 b1 b2 b3 => kk H1 l1 ls b1 b2 b3 a4)
/-- Object's constructor, called by another constructor -/
theorem g_objInit (C : gC X own cc ret) {index a : Nat} (hl : Cond.methodLink own index objectInit ∈ gBW) (hin : Cond.instanceMethod objectInit ∈ gBW) (hcode : Cond.code objectInit ⟨#[0xb1]⟩ 1 none ∈ gBW) (hR : 1 ≤ (x_R X).frames ∧ 12 ≤ (x_R X).locals) (d : decode cc pc = .ok (.invokespecial index, 3)) (kk : gW X Q ck sk ws lv [] (pc + 3)) : gW X Q ck sk ws lv [.ref a] pc := fun H locs ls a1 a2 a3 a4 => by
  refine W.objInit C.1 C.2.1 C.2.2.2.1 (C.2.2.2.2.1 _ hl) (C.2.2.2.2.1 _ hin) (C.2.2.2.2.1 _ hcode) rfl (a4.1.trans C.2.2.1.symm) rfl d hR.1 ?_ (W.eq rfl (kk H locs ls a1 a2 a3 a4))
  exact hR.2
end GN2
/-- a world that stands only where a reference isn't null -/
def gOpt (r : Option Nat) (ws : va_W) : va_W := match r with
  | none => []
  | some _ => ws
theorem gOpt_some {X : gX} {r : Option Nat} {a : Nat} {L : va_W} (h : x_ro X = gOpt r L) (hr : r = some a) : x_ro X = L := by rw [h, hr]; rfl
/-- four references -/
def gA4 (a b c d : Nat) : Nat → Option Nat := fun i => match i with
  | 0 => some a
  | 1 => some b
  | 2 => some c
  | 3 => some d
  | _ => none
theorem g_th {X : gX} {fr lo mc ms : Nat} {names : List String} {st : List Value} (h : x_R X = gRm fr lo mc ms) (h1 : Nat.ble (names.length + 4) fr = true) (h2 : Nat.ble ((st.map fun v => v.category).sum + (13 * (names.length + 1) + 43)) lo = true) : names.length + 3 < (x_R X).frames ∧ (st.map fun v => v.category).sum + (13 * (names.length + 1) + 43) ≤ (x_R X).locals := by
  rw [h]; exact ⟨Nat.le_of_ble_eq_true h1, Nat.le_of_ble_eq_true h2⟩
theorem g_tn {X : gX} {fr lo mc ms a b : Nat} (h : x_R X = gRm fr lo mc ms) (h1 : Nat.ble a fr = true) (h2 : Nat.ble b lo = true) : a ≤ (x_R X).frames ∧ b ≤ (x_R X).locals := by
  rw [h]; exact ⟨Nat.le_of_ble_eq_true h1, Nat.le_of_ble_eq_true h2⟩
def gzb (x : Int32) : Bool := decide (x = 0 ∨ x = 1)
theorem gzb_n {x : Int32} (h : gzb x = true) : narrow .boolean (.int x) = .int x := by
  rcases of_decide_eq_true h with e | e <;> (subst e; rfl)
theorem gzb_f {x : Int32} (h : gzb x = true) : fits .boolean (.int x) = true := by
  rcases of_decide_eq_true h with e | e <;> (subst e; rfl)
