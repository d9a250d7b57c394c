/-! THE G LAYER: contracts, entries, ends, calls -/
def gPre (D : va_G) (cy : Nat → ClassId) (ro ws : va_W) (sz : Nat) (U : State) : Prop :=
  U.heap.size = sz ∧ va_P D vwCl ws U.heap ∧ va_K D vwCl (gTys cy) U ∧ va_D (fun _ => True) ws ∧ gRo D ro (va_A ws sz) U.heap ∧ gStat (va_A ws sz) U U.heap
def gPost (D : va_G) (cy : Nat → ClassId) (w1 : va_W) (A : Nat → Prop) (t : State) : Prop := va_P D vwCl w1 t.heap ∧ va_K D vwCl (gTys cy) t ∧ va_D A w1
def gQc {S : Type} (D : va_G) (cy : Nat → ClassId) (A : Nat → Prop) (e0 : Nat) (rv : S → Option Value) (w1 : S → va_W) : Array Value → State → Outcome → State → Prop := fun _ st oc t =>
  (∃ u : S, oc = .returned (rv u) ∧ e0 = 0 ∧ gPost D cy (w1 u) A t) ∧ va_F A st t
def gXc {S : Type} (D : va_G) (cy : Nat → ClassId) (A : Nat → Prop) (e0 : Nat) (w1 : S → va_W) : String → State → State → Prop := fun E st t =>
  (∃ u : S, e0 ≠ 0 ∧ E = gExn e0 ∧ gPost D cy (w1 u) A t) ∧ va_F A st t
abbrev gRm (fr lo mc ms : Nat) : Room := { frames := fr, cells := mc, slots := ms, locals := lo }
/-- THE CONTRACT of method y at launch l: from the world ws (it may be written) and ro (it is read), with the arguments av, it answers rv u in the world w1 u, for some u (the addresses of what it made), if e0 is 0; else it throws the exception of this number, in the same world -/
def gCt (l : Launch) (D : va_G) (cy : Nat → ClassId) (y : MethodName) (cc : ByteArray) (maxL : Nat) (ret : Option FieldType) (fr lo mc ms : Nat) (av : List Value) (ro ws : va_W) {S : Type} (e0 : Nat) (rv : S → Option Value) (w1 : S → va_W) : Prop :=
  l.stackTraces = false → ∀ sz : Nat, vx_Met l y (.code y cc maxL ret :: gBW) (gRm fr lo mc ms) (va_Pc av (gPre D cy ro ws sz)) (gQc D cy (va_A ws sz) e0 rv w1) (gXc D cy (va_A ws sz) e0 w1) mc ms (va_A ws sz)
theorem gPre.blind {D : va_G} {cy : Nat → ClassId} {ro ws : va_W} {sz : Nat} {av : List Value} : FrameBlind (va_Pc av (gPre D cy ro ws sz)) := fun a U g mk q => by
  obtain ⟨q0, q1, q2, q3, q4, q5, q6⟩ := q
  exact ⟨q0, q1, q2, va_K.moved (u := U) (U := U.calling g mk a) (Vm.Alike.refl U.vm) q3, q4, q5, q6.blind⟩
/-- what a method's end asks, given that its result is known: to return; to let a thrown object out; to throw one of its own -/
def gE (X : gX) (Q : State → Prop) (mc ms : Nat) {S : Type} (e0 : Nat) (rv : S → Option Value) (w1 : S → va_W) : Prop :=
  (∀ (g : JFrame) (H : Heap) (locs : List Loc) (ck sk : Nat) (u : S), ck ≤ mc → sk ≤ ms → e0 = 0 → va_P (x_D X) vwCl (w1 u) H → va_D (x_A X) (w1 u) → va_S (x_A X) (x_s X).heap H locs →
        (W (x_p X) (x_l X) (x_e X) (x_R X) (x_s X) (x_m X) (x_args X) (x_below X) (x_meth X) (x_c X) H locs mc ms (MQ (x_below X) (fun _ s o t => (o = .returned (rv u) ∧ t.heap = H ∧ s.WarmedH t.vm)) (x_args X) (x_s X) mc ms (x_A X)) g) →
        W (x_p X) (x_l X) (x_e X) (x_R X) (x_s X) (x_m X) (x_args X) (x_below X) (x_meth X) (x_c X) H locs ck sk Q g) ∧
  (∀ (H : Heap) (locs : List Loc) (ck sk : Nat) (u : S) (pc : Nat) (ls : Array Slot) (rest : List Value) (q : Addr) (ce : Cell), ck ≤ mc → sk ≤ ms → e0 ≠ 0 → va_P (x_D X) vwCl (w1 u) H → va_D (x_A X) (w1 u) → va_S (x_A X) (x_s X).heap H locs → H[q]? = some ce → ce.vm = .none → (x_s X).vm.findClass (gExn e0) = some ce.cls →
        vx_W (x_p X) (x_l X) (x_e X) (x_R X) (x_s X) (x_m X) (x_args X) (x_below X) (x_meth X) (x_c X) H locs ck sk Q (F0 (x_m X) pc ls rest) q) ∧
  (∃ (Qc : Array Value → State → Outcome → State → Prop) (XC : String → State → State → Prop), Q = vx_MQ (x_below X) Qc XC (x_args X) (x_s X) mc ms (x_A X) ∧
        (∀ (H : Heap) (locs : List Loc) (u : S) (t : State), e0 ≠ 0 → va_P (x_D X) vwCl (w1 u) H → va_D (x_A X) (w1 u) → va_S (x_A X) (x_s X).heap H locs → (x_s X).vm.Alike t.vm → H.size ≤ t.heap.size → (∀ q : Nat, q < H.size → t.heap[q]? = H[q]?) → XC (gExn e0) (x_s X) t)) ∧
  (x_c X).exceptionTable.toList = []
theorem vx_ofWF {l : Launch} {y : MethodName} {ws ws' : List Cond} {rm : Room} {Pc : Array Value → State → Prop} {Qc : Array Value → State → Outcome → State → Prop} {XC : String → State → State → Prop} {mc ms : Nat} {free : Addr → Prop} {cc : ByteArray} {maxL : Nat} {ret : Option FieldType}
    (hy : plainFor y = true) (hw : ws = Cond.code y cc maxL ret :: ws')
    (body : ∀ p e s m args below meth c s₁, BodyLoose p l y (headSpec ws rm) cc maxL ret e s m args below meth c s₁ → c.maxLocals = maxL → (∀ x ∈ c.exceptionTable.toList, False) → Pc args s →
      W p l e (headSpec ws rm).room s m args below meth c s.heap [] 0 0 (vx_MQ below Qc XC args s mc ms free) (entryFrame m args maxL)) : vx_Met l y ws rm Pc Qc XC mc ms free := by
  refine MetFree.of_bodySF (code := cc) (maxLocals := maxL) (ret := ret) hy ?_ ?_
  · intro args s m h hn
    obtain ⟨meth, c, h1, h2, h3, h4, h5, h6, -, -⟩ := Cond.code_spec hn (atoms_spec (ws := ws) h _ (by rw [hw]; exact List.mem_cons_self))
    exact ⟨meth, c, h1, h2, h3, h4, h5, h6⟩
  · intro p e s m args below meth c s₁ B hml hP _
    have hh0 : s₁.heap = s.heap := by rw [B.state]; rfl
    have ht : ∀ x ∈ c.exceptionTable.toList, False := by
      obtain ⟨meth9, c9, h1, h2, -, -, -, -, h7, -⟩ := Cond.code_spec B.named (atoms_spec (ws := ws) B.pre _ (by rw [hw]; exact List.mem_cons_self))
      cases Option.some.inj (h1.symm.trans B.method)
      cases Option.some.inj (h2.symm.trans (Stand.of_body B).code)
      intro x hx
      rw [Array.isEmpty_iff.mp h7] at hx
      cases hx
    obtain ⟨t, a1, o, b1, b2, b3⟩ := body p e s m args below meth c s₁ B hml ht hP s₁ hh0 (Stand.of_body B)
    exact ⟨t, o, a1, b1, b2, b3⟩
/-- the entry of a method -/
theorem g_begin {l : Launch} {D : va_G} {cy : Nat → ClassId} {y : MethodName} {cc : ByteArray} {maxL : Nat} {ret : Option FieldType} {fr lo mc ms : Nat} {av : List Value} {ro ws : va_W} {S : Type} {e0 : Nat} {rv : S → Option Value} {w1 : S → va_W}
    (hy : plainFor y = true) (hn : (lg_sl av).length ≤ maxL)
    (body : ∀ (X : gX) (Q : State → Prop), x_l X = l → x_R X = gRm fr lo mc ms → x_D X = D → x_y X = cy → x_ro X = ro → x_n X = maxL → gC X y.cls cc ret → (y.name = "<init>" → (x_meth X).name = "<init>") → gE X Q mc ms e0 rv w1 →
      gW X Q 0 0 ws (lv_args 0 av) [] 0) : gCt l D cy y cc maxL ret fr lo mc ms av ro ws e0 rv w1 := by
  intro hl sz
  refine vx_ofWF (cc := cc) (maxL := maxL) (ret := ret) hy rfl ?_
  intro p e s m args below meth c s₁ B hml hout hv
  obtain ⟨rfl, hsz, hP, hK, hD0, hRo, hSt⟩ := hv
  have hts := atoms_spec (ws := .code y cc maxL ret :: gBW) B.pre
  have hown : s.vm.findClass y.cls = some m.cls := findClass_of_methodNamed B.named
  have htab : c.exceptionTable.toList = [] := by
    cases h : c.exceptionTable.toList with
    | nil => rfl
    | cons a b => exact (hout a (by rw [h]; exact List.mem_cons_self)).elim
  subst hsz
  have hD := hD0.self (sz := s.heap.size)
  have hl0 := lv_entry av (n := maxL) hn
  rw [lg_entry_eq]
  have key := body (p, l, e, gRm fr lo mc ms, s, m, av.toArray, below, meth, c, va_A ws s.heap.size, D, cy, ro, maxL)
    (vx_MQ below (gQc D cy (va_A ws s.heap.size) e0 rv w1) (gXc D cy (va_A ws s.heap.size) e0 w1) av.toArray s mc ms (va_A ws s.heap.size)) rfl rfl rfl rfl rfl rfl
    ⟨B.exec, B.bytes, hml, hown, fun w hw => hts w (List.mem_cons_of_mem _ hw), B.returns, B.notSynchronized, hK, fun q h => Or.inr h, hRo, hSt, hl⟩
    (fun h => (name_of_methodNamed B.named B.method).1.trans h) ⟨?_, ?_, ?_, htab⟩
  · exact key s.heap [] _ hP hD va_S.rf hl0
  · intro g H locs ck sk u h1 h2 h3 h4 h5 h6 hW
    refine vx_ret ?_
    refine W.widen h1 h2 ?_
    intro T hT XT
    obtain ⟨t, st, o, b1, b2, ⟨b3, b4, b5⟩, b6⟩ := hW T hT XT
    have h7 : va_S (va_A ws s.heap.size) s.heap H locs := h6
    exact ⟨t, st, o, b1, b2, ⟨⟨u, b3, h3, by rw [b4]; exact h4, va_K.moved b5.alike hK, h5⟩, h7.F b4⟩, b6⟩
  · intro H locs ck sk u pc ls rest q ce h1 h2 h3 h4 h5 h6 h7 h8 h9
    have h6' : va_S (va_A ws s.heap.size) s.heap H locs := h6
    refine vx_out (fun x hx => ?_) B.notSynchronized h7 h8 h9 (fun t ht ha => ⟨⟨u, h3, rfl, by rw [ht]; exact h4, va_K.moved ha hK, h5⟩, h6'.F ht⟩) h6'.2.2 h1 h2
    exact (hout x hx).elim
  · refine ⟨_, _, rfl, ?_⟩
    intro H locs u t h3 h4 h5 h6 ha hz hk
    have h6' : va_S (va_A ws s.heap.size) s.heap H locs := h6
    exact ⟨⟨u, h3, rfl, h4.kept (fun k q hq => hk _ (h4 k q hq).lt), va_K.moved ha hK, h5⟩, Nat.le_trans h6'.1 hz, fun q q1 q2 => by rw [hk q (Nat.lt_of_lt_of_le q1 h6'.1)]; exact h6'.2.1 q q1 q2⟩
section GE
variable {X : gX} {own : String} {cc : ByteArray} {ret : Option FieldType} {Q : State → Prop} {ck sk pc : Nat} {ws : va_W} {lv : List (Nat × Value)} {st : List Value} {S : Type} {mc ms e0 : Nat} {rv : S → Option Value} {w1 : S → va_W}
theorem g_iret {v : Int32} (C : gC X own cc (some .int)) (E : gE X Q mc ms e0 rv w1) (u : S) (d : decode cc pc = .ok (.ireturn, 1)) (he : e0 = 0) (hr : rv u = some (.int v)) (hw : w1 u = ws) (h1 : ck ≤ mc) (h2 : sk ≤ ms) : gW X Q ck sk ws lv [.int v] pc := fun H locs ls a1 a2 a3 a4 => by
  subst hw
  exact E.1 _ H locs ck sk u h1 h2 he a1 a2 a3 (W.iret C.1 C.2.1 C.2.2.2.2.2.1 (fun t ht hW => ⟨by rw [hr], ht, hW⟩) a3.2.2 d C.2.2.2.2.2.2.1)
theorem g_zret {v : Int32} {ty : FieldType} (C : gC X own cc (some ty)) (E : gE X Q mc ms e0 rv w1) (u : S) (hn : narrow ty (.int v) = .int v) (d : decode cc pc = .ok (.ireturn, 1)) (he : e0 = 0) (hr : rv u = some (.int v)) (hw : w1 u = ws) (h1 : ck ≤ mc) (h2 : sk ≤ ms) : gW X Q ck sk ws lv [.int v] pc := fun H locs ls a1 a2 a3 a4 => by
  subst hw
  exact E.1 _ H locs ck sk u h1 h2 he a1 a2 a3 (W.zret C.1 C.2.1 C.2.2.2.2.2.1 hn (fun t ht hW => ⟨by rw [hr], ht, hW⟩) a3.2.2 d C.2.2.2.2.2.2.1)
theorem g_vret (C : gC X own cc none) (E : gE X Q mc ms e0 rv w1) (u : S) (d : decode cc pc = .ok (.return_, 1)) (he : e0 = 0) (hr : rv u = none) (hw : w1 u = ws) (h1 : ck ≤ mc) (h2 : sk ≤ ms) : gW X Q ck sk ws lv [] pc := fun H locs ls a1 a2 a3 a4 => by
  subst hw
  exact E.1 _ H locs ck sk u h1 h2 he a1 a2 a3 (W.vret C.1 C.2.1 C.2.2.2.2.2.1 (fun t ht hW => ⟨by rw [hr], ht, hW⟩) a3.2.2 d C.2.2.2.2.2.2.1)
theorem g_lret {v : Int64} (C : gC X own cc (some .long)) (E : gE X Q mc ms e0 rv w1) (u : S) (d : decode cc pc = .ok (.lreturn, 1)) (he : e0 = 0) (hr : rv u = some (.long v)) (hw : w1 u = ws) (h1 : ck ≤ mc) (h2 : sk ≤ ms) : gW X Q ck sk ws lv [.long v] pc := fun H locs ls a1 a2 a3 a4 => by
  subst hw
  exact E.1 _ H locs ck sk u h1 h2 he a1 a2 a3 (W.lret C.1 C.2.1 C.2.2.2.2.2.1 (fun t ht hW => ⟨by rw [hr], ht, hW⟩) a3.2.2 d C.2.2.2.2.2.2.1)
/-- a thrown object goes on to the caller -/
theorem g_out (E : gE X Q mc ms e0 rv w1) (u : S) {N : String} (hN : N = gExn e0) (he : e0 ≠ 0) (hw : w1 u = ws) (h1 : ck ≤ mc) (h2 : sk ≤ ms) : gV X Q ck sk ws lv pc N := fun H locs ls rest q ce a1 a2 a3 a4 a5 a6 a7 => by
  subst hw; subst hN
  exact E.2.1 H locs ck sk u pc ls rest q ce h1 h2 he a1 a2 a3 a5 a6 a7
end GE
section GF
variable {X : gX} {own : String} {cc : ByteArray} {ret : Option FieldType} {Q : State → Prop} {ck sk pc : Nat} {ws : va_W} {lv : List (Nat × Value)} {st : List Value}
/-- a field is read; q0: the object's place in the world -/
theorem g_get (C : gC X own cc ret) (q0 : Nat) {a ci N index : Nat} {fs : List Value} {K ref : String} {T : u_T} (k : Nat) {v : Value} (he : ws[q0]? = some (a, .inr (ci, fs))) (hc : vwCl[ci]? = some (K, T, N)) (hin : ∀ w ∈ u_ws K T N, w ∈ gBW) (hk : k < N)
    (hlink : Cond.fieldLink own index ref (T k).2.1 (T k).2.2.1 ∈ gBW) (href : (T k).1 = ref) (hv : fs[k]? = some v) (d : decode cc pc = .ok (.getfield index, 3)) (kk : gW X Q ck sk ws lv (v :: st) (pc + 3)) : gW X Q ck sk ws lv (.ref a :: st) pc := fun H locs ls a1 a2 a3 a4 => by
  subst href
  exact va_get C.1 C.2.1 C.2.2.2.2.1 hin C.2.2.2.1 C.2.2.2.2.2.2.2.1 a1 q0 he hc k hk (C.2.2.2.2.1 _ hlink) (fun _ h => h) hv d (kk H locs ls a1 a2 a3 a4)
theorem g_put (C : gC X own cc ret) (q0 : Nat) {a ci N index : Nat} {fs : List Value} {K ref : String} {T : u_T} (k : Nat) {v : Value} {ty0 : Nat → FieldType} {ws' : va_W} (he : ws[q0]? = some (a, .inr (ci, fs))) (hc : vwCl[ci]? = some (K, T, N)) (hin : ∀ w ∈ u_ws K T N, w ∈ gBW) (hk : k < N)
    (hty : ∀ k, k < N → parseFieldDescriptor (T k).2.2.1 = some (ty0 k)) (hnm : ∀ a, a < N → ∀ b, b < N → a ≠ b → (T a).2.1 ≠ (T b).2.1)
    (hlink : Cond.fieldLink own index ref (T k).2.1 (T k).2.2.1 ∈ gBW) (href : (T k).1 = ref) (hfin : (T k).2.2.2 = false) (hn : narrow (ty0 k) v = v) (hfit : fits (ty0 k) v = true) (hl : k < fs.length) (hw : ws.set q0 (a, .inr (ci, fs.set k v)) = ws')
    (d : decode cc pc = .ok (.putfield index, 3)) (kk : gW X Q ck sk ws' lv st (pc + 3)) : gW X Q ck sk ws lv (v :: .ref a :: st) pc := fun H locs ls a1 a2 a3 a4 => by
  subst href; subst hw
  exact va_put C.1 C.2.1 C.2.2.2.2.1 hin ty0 hty hnm C.2.2.2.1 C.2.2.2.2.2.2.2.1 a1 a2 a3 q0 he hc k hk (C.2.2.2.2.1 _ hlink) (fun _ h => h) hfin (hty k hk) hn hfit hl d (fun H1 l1 b1 b2 b3 => kk H1 l1 ls b1 b2 b3 a4)
theorem g_putF (C : gC X own cc ret) (q0 : Nat) {a ci N index : Nat} {fs : List Value} {K ref : String} {T : u_T} (k : Nat) {v : Value} {ty0 : Nat → FieldType} {ws' : va_W} (he : ws[q0]? = some (a, .inr (ci, fs))) (hc : vwCl[ci]? = some (K, T, N)) (hin : ∀ w ∈ u_ws K T N, w ∈ gBW) (hk : k < N)
    (hty : ∀ k, k < N → parseFieldDescriptor (T k).2.2.1 = some (ty0 k)) (hnm : ∀ a, a < N → ∀ b, b < N → a ≠ b → (T a).2.1 ≠ (T b).2.1)
    (hlink : Cond.fieldLink own index ref (T k).2.1 (T k).2.2.1 ∈ gBW) (href : (T k).1 = ref) (hfin : (T k).2.2.2 = true) (hin2 : (x_meth X).name = "<init>") (hdecl : (T k).1 = own) (hn : narrow (ty0 k) v = v) (hfit : fits (ty0 k) v = true) (hl : k < fs.length) (hw : ws.set q0 (a, .inr (ci, fs.set k v)) = ws')
    (d : decode cc pc = .ok (.putfield index, 3)) (kk : gW X Q ck sk ws' lv st (pc + 3)) : gW X Q ck sk ws lv (v :: .ref a :: st) pc := fun H locs ls a1 a2 a3 a4 => by
  subst href; subst hw
  exact va_putF C.1 C.2.1 C.2.2.2.2.1 hin ty0 hty hnm C.2.2.2.1 C.2.2.2.2.2.2.2.1 a1 a2 a3 q0 he hc k hk (C.2.2.2.2.1 _ hlink) (fun _ h => h) hfin hin2 hdecl (hty k hk) hn hfit hl d (fun H1 l1 b1 b2 b3 => kk H1 l1 ls b1 b2 b3 a4)
theorem g_iald (C : gC X own cc ret) (q0 : Nat) {a n : Nat} {f : Nat → Int32} {i : Int32} (ha : ws[q0]? = some (a, .inl (x_y X 0, n, .inl f))) (hin : vp_in i n) (d : decode cc pc = .ok (.iaload, 1)) (kk : gW X Q ck sk ws lv (.int (f i.toNatClampNeg) :: st) (pc + 1)) : gW X Q ck sk ws lv (.int i :: .ref a :: st) pc := fun H locs ls a1 a2 a3 a4 =>
  va_iald C.1 C.2.1 C.2.2.2.2.2.2.2.1 a1 q0 0 ha rfl hin d (kk H locs ls a1 a2 a3 a4)
theorem g_iast (C : gC X own cc ret) (q0 : Nat) {a n : Nat} {f : Nat → Int32} {i x : Int32} {ws' : va_W} (ha : ws[q0]? = some (a, .inl (x_y X 0, n, .inl f))) (hin : vp_in i n) (hw : ws.set q0 (a, .inl (x_y X 0, n, .inl (upd f i.toNatClampNeg x))) = ws') (d : decode cc pc = .ok (.iastore, 1)) (kk : gW X Q ck sk ws' lv st (pc + 1)) : gW X Q ck sk ws lv (.int x :: .int i :: .ref a :: st) pc := fun H locs ls a1 a2 a3 a4 => by
  subst hw
  exact va_iast C.1 C.2.1 C.2.2.2.2.2.2.2.1 a1 a2 a3 q0 0 ha rfl hin d (fun H1 l1 b1 b2 b3 => kk H1 l1 ls b1 b2 b3 a4)
end GF
section GK
variable {X : gX} {own : String} {cc : ByteArray} {ret : Option FieldType} {Q : State → Prop} {ck sk pc : Nat} {ws : va_W} {lv : List (Nat × Value)} {st rest : List Value}
variable {y : MethodName} {bytes : ByteArray} {maxL : Nat} {rety : Option FieldType} {fr lo mc ms e0 : Nat} {As : List Value} {ro' wc wr : va_W} {S : Type} {rv : S → Option Value} {w1 ws' : S → va_W}
/-- what a call's cells are among the caller's: the callee's world, the rest, what it reads, and the order behind it -/
def gRoIn (ws ro ro' : va_W) (isC : List Nat) : Prop := ∀ (k : Nat) (q : Nat × va_E), ro'[k]? = some q → ∃ i, i ∉ isC ∧ (ws ++ ro)[i]? = some q
def gCut (ws ro wc wr ro' : va_W) {S : Type} (w1 ws' : S → va_W) (isC isR isP : List Nat) : Prop :=
  isC.map (fun i => ws[i]?) = wc.map some ∧ isR.map (fun i => ws[i]?) = wr.map some ∧ va_nd isC = true ∧ va_nd isR = true ∧ (∀ i ∈ isR, i ∉ isC) ∧ gRoIn ws ro ro' isC ∧ va_nd isP = true ∧ ∀ u : S, isP.map (fun i => (wr ++ w1 u)[i]?) = (ws' u).map some
theorem gCut_at {ws : va_W} {is : List Nat} {w : va_W} (hs : is.map (fun i => ws[i]?) = w.map some) (k : Nat) (q : Nat × va_E) (hq : w[k]? = some q) : ∃ i, is[k]? = some i ∧ ws[i]? = some q := by
  have h1 : (is.map (fun i => ws[i]?))[k]? = some (some q) := by rw [hs, List.getElem?_map, hq]; rfl
  rw [List.getElem?_map] at h1
  cases hi : is[k]? with
  | none => rw [hi] at h1; cases h1
  | some i => rw [hi] at h1; exact ⟨i, rfl, Option.some.inj h1⟩
theorem gMap_filter {ws w : va_W} {is : List Nat} (hs : is.map (fun i => ws[i]?) = w.map some) : is.filterMap (fun i => ws[i]?) = w := by
  have h1 := congrArg (List.filterMap id) hs
  rw [List.filterMap_map, List.filterMap_map] at h1
  simpa using h1
theorem gRoIn_0 {ws ro : va_W} {isC : List Nat} : gRoIn ws ro [] isC := fun k q h => by simp at h
/-- by places -/
theorem gRoIn_p {ws ro ro' : va_W} {isC : List Nat} (isO : List Nat) (h : isO.map (fun i => (ws ++ ro)[i]?) = ro'.map some) (hd : ∀ i ∈ isO, i ∉ isC) : gRoIn ws ro ro' isC := fun k q hq => by
  obtain ⟨i, h1, h2⟩ := gCut_at h k q hq
  exact ⟨i, hd i (List.mem_of_getElem? h1), h2⟩
/-- all that the caller reads -/
theorem gRoIn_all {ws ro ro' : va_W} {isC : List Nat} (h : ro = ro') (hd : ∀ i ∈ isC, i < ws.length) : gRoIn ws ro ro' isC := fun k q hq => by
  subst h
  refine ⟨ws.length + k, fun hm => absurd (hd _ hm) (by omega), ?_⟩
  rw [List.getElem?_append_right (by omega)]
  simpa using hq
/-- the callee's start holds in the caller's heap -/
theorem gCut_pre (C : gC X own cc ret) {isC isR isP : List Nat} (hcut : gCut ws (x_ro X) wc wr ro' w1 ws' isC isR isP) {H : Heap} {locs : List Loc} (a1 : va_P (x_D X) vwCl ws H) (a2 : va_D (x_A X) ws) (a3 : va_S (x_A X) (x_s X).heap H locs) (U : State) (hU : U.heap = H) (hW : (x_s X).WarmedH U.vm) : gPre (x_D X) (x_y X) ro' wc H.size U := by
  obtain ⟨hC, hR, hnC, hnR, hdis, hO, hnP, hP⟩ := hcut
  obtain ⟨-, -, -, -, -, -, -, hK, hA, hRo, hSt, -⟩ := C
  have hF : ∀ q, va_A wc H.size q → x_A X q := va_free a2 a3 hA isC hC
  have hRo' := hRo.kept a3.2.1
  subst hU
  refine ⟨rfl, a1.sub isC (gMap_filter hC), va_K.moved hW.alike hK, (a2.sub isC hnC hC).weaken (fun _ _ _ _ => trivial), ⟨?_, ?_⟩, ?_⟩
  · intro k q hk
    obtain ⟨i, -, hi⟩ := hO k q hk
    rw [List.getElem?_append] at hi
    split at hi
    · exact a1 i q hi
    · exact hRo'.1 _ q hi
  · intro k q hk hq
    obtain ⟨i, hi0, hi⟩ := hO k q hk
    rw [List.getElem?_append] at hi
    split at hi
    · have hlt := (a1 i q hi).lt
      rcases hq with ⟨k2, e, h2⟩ | h2
      · obtain ⟨j, h3, h4⟩ := gCut_at hC k2 (q.1, e) h2
        have hij := a2.1 i j q (q.1, e) hi h4 rfl
        subst hij
        exact hi0 (List.mem_of_getElem? h3)
      · omega
    · exact hRo'.2 _ q hi (hF _ hq)
  · exact ((hSt.kept a3.2.1).narrow hF).moved hW
end GK
