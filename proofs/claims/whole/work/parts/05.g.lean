/-! THE G LAYER: the kit's rows over one bundled context; worlds are lists of cells; every contract is one that may throw. -/
def gBW : List Cond := lw_tbl.filter goodWord
theorem gBW_of {w : Cond} (h : w ∈ lw_tbl) (g : goodWord w = true) : w ∈ gBW := List.mem_filter.mpr ⟨h, g⟩
theorem gBW_good {w : Cond} (h : w ∈ gBW) : goodWord w = true := (List.mem_filter.mp h).2
theorem gBW_in {w : Cond} (h : w ∈ gBW) : w ∈ lw_tbl := (List.mem_filter.mp h).1
/-- the string constants that are loaded somewhere: class, entry, text -/
def gStrs : List (String × Nat × String) := []
/-- what the class files' exceptions are, by number -/
def gExn (n : Nat) : String := match n with
  | 1 => "java/lang/IndexOutOfBoundsException"
  | 2 => "java/lang/IllegalArgumentException"
  | 3 => "java/util/NoSuchElementException"
  | 4 => "java/lang/UnsupportedOperationException"
  | 5 => "java/lang/IllegalStateException"
  | _ => "java/lang/ArithmeticException"
abbrev gX : Type := Program × Launch × Env × Room × State × MethodId × Array Value × List Frame × Method × Code × (Nat → Prop) × va_G × (Nat → ClassId) × va_W × Nat
abbrev x_p (X : gX) : Program := X.1
abbrev x_l (X : gX) : Launch := X.2.1
abbrev x_e (X : gX) : Env := X.2.2.1
abbrev x_R (X : gX) : Room := X.2.2.2.1
abbrev x_s (X : gX) : State := X.2.2.2.2.1
abbrev x_m (X : gX) : MethodId := X.2.2.2.2.2.1
abbrev x_args (X : gX) : Array Value := X.2.2.2.2.2.2.1
abbrev x_below (X : gX) : List Frame := X.2.2.2.2.2.2.2.1
abbrev x_meth (X : gX) : Method := X.2.2.2.2.2.2.2.2.1
abbrev x_c (X : gX) : Code := X.2.2.2.2.2.2.2.2.2.1
abbrev x_A (X : gX) : Nat → Prop := X.2.2.2.2.2.2.2.2.2.2.1
abbrev x_D (X : gX) : va_G := X.2.2.2.2.2.2.2.2.2.2.2.1
abbrev x_y (X : gX) : Nat → ClassId := X.2.2.2.2.2.2.2.2.2.2.2.2.1
abbrev x_ro (X : gX) : va_W := X.2.2.2.2.2.2.2.2.2.2.2.2.2.1
abbrev x_n (X : gX) : Nat := X.2.2.2.2.2.2.2.2.2.2.2.2.2.2
/-- the array classes: 0 int, 1 boolean, 2 char, 3 byte, 4 long, 5 Secret -/
abbrev gTys (cy : Nat → ClassId) : List (ClassId × FieldType) := [(cy 0, .int), (cy 1, .boolean), (cy 2, .char), (cy 3, .byte), (cy 4, .long), (cy 5, .object "SecretVault$Secret")]
def gStat (A : Nat → Prop) (U : State) (H : Heap) : Prop :=
  vx_Zq Bundle.tN "UNASSIGNED_STACK" Bundle.steD A U H ∧ vx_Zq Bundle.tN "SUPPRESSED_SENTINEL" Bundle.listD A U H ∧ (∀ q ∈ gStrs, ∃ sa, vk_R q.1 q.2.1 q.2.2 sa U) ∧ va_Z "java/lang/String" "COMPACT_STRINGS" "Z" (.int 1) A U H
theorem gStat.moved {A : Nat → Prop} {u U : State} {H : Heap} (hW : u.WarmedH U.vm) (h : gStat A u H) : gStat A U H :=
  ⟨h.1.moved hW.alike, h.2.1.moved hW.alike, fun q hq => by obtain ⟨sa, h1⟩ := h.2.2.1 q hq; exact ⟨sa, vk_R.warm hW h1⟩, va_Z.moved hW.alike h.2.2.2⟩
theorem gStat.blind {A : Nat → Prop} {U : State} {H : Heap} {g : JFrame} {mk : MethodId} {a : Array Value} (h : gStat A U H) : gStat A (U.calling g mk a) H :=
  ⟨h.1.moved (Vm.Alike.refl U.vm), h.2.1.moved (Vm.Alike.refl U.vm), fun q hq => by obtain ⟨sa, h1⟩ := h.2.2.1 q hq; exact ⟨sa, vk_R.same rfl h1⟩, va_Z.moved (Vm.Alike.refl U.vm) h.2.2.2⟩
theorem gStat.kept {A : Nat → Prop} {U : State} {H H1 : Heap} (h : gStat A U H) (hq : ∀ a : Nat, a < H.size → ¬ A a → H1[a]? = H[a]?) : gStat A U H1 :=
  ⟨h.1.kept hq, h.2.1.kept hq, h.2.2.1, va_Z.kept h.2.2.2 hq⟩
theorem gStat.narrow {A B : Nat → Prop} {U : State} {H : Heap} (h : gStat A U H) (hAB : ∀ q, B q → A q) : gStat B U H :=
  ⟨h.1.narrow hAB, h.2.1.narrow hAB, h.2.2.1, va_Z.narrow h.2.2.2 hAB⟩
def gRo (D : va_G) (ro : va_W) (A : Nat → Prop) (H : Heap) : Prop := va_P D vwCl ro H ∧ ∀ (k : Nat) (q : Nat × va_E), ro[k]? = some q → ¬ A q.1
theorem gRo.kept {D : va_G} {ro : va_W} {A : Nat → Prop} {H H1 : Heap} (h : gRo D ro A H) (hq : ∀ a : Nat, a < H.size → ¬ A a → H1[a]? = H[a]?) : gRo D ro A H1 :=
  ⟨h.1.kept (fun k q hk => hq _ (h.1 k q hk).lt (h.2 k q hk)), h.2⟩
/-- what holds at a method's start; 'own': its class -/
def gC (X : gX) (own : String) (cc : ByteArray) (ret : Option FieldType) : Prop :=
  (x_p X).tables.exec = Jvm.exec ∧ (x_c X).code = cc ∧ (x_c X).maxLocals = x_n X ∧ (x_s X).vm.findClass own = some (x_m X).cls ∧ (∀ w ∈ gBW, w.before (x_args X) (x_s X) = true) ∧ (x_meth X).sig.returnType = ret ∧ (x_meth X).locks = false ∧ va_K (x_D X) vwCl (gTys (x_y X)) (x_s X) ∧ (∀ q, (x_s X).heap.size ≤ q → x_A X q) ∧ gRo (x_D X) (x_ro X) (x_A X) (x_s X).heap ∧ gStat (x_A X) (x_s X) (x_s X).heap ∧ (x_l X).stackTraces = false
/-- the goal at a point: world, locals, stack, pc -/
def gW (X : gX) (Q : State → Prop) (ck sk : Nat) (ws : va_W) (lv : List (Nat × Value)) (st : List Value) (pc : Nat) : Prop :=
  ∀ (H : Heap) (locs : List Loc) (ls : Array Slot), va_P (x_D X) vwCl ws H → va_D (x_A X) ws → va_S (x_A X) (x_s X).heap H locs → lv_has ls (x_n X) lv →
    W (x_p X) (x_l X) (x_e X) (x_R X) (x_s X) (x_m X) (x_args X) (x_below X) (x_meth X) (x_c X) H locs ck sk Q (F0 (x_m X) pc ls st)
/-- the same with an object of class E thrown over the frame -/
def gV (X : gX) (Q : State → Prop) (ck sk : Nat) (ws : va_W) (lv : List (Nat × Value)) (pc : Nat) (E : String) : Prop :=
  ∀ (H : Heap) (locs : List Loc) (ls : Array Slot) (rest : List Value) (q : Addr) (ce : Cell), va_P (x_D X) vwCl ws H → va_D (x_A X) ws → va_S (x_A X) (x_s X).heap H locs → lv_has ls (x_n X) lv →
    H[q]? = some ce → ce.vm = .none → (x_s X).vm.findClass E = some ce.cls →
    vx_W (x_p X) (x_l X) (x_e X) (x_R X) (x_s X) (x_m X) (x_args X) (x_below X) (x_meth X) (x_c X) H locs ck sk Q (F0 (x_m X) pc ls rest) q
section GR
variable {X : gX} {own : String} {cc : ByteArray} {ret : Option FieldType} {Q : State → Prop} {ck sk pc : Nat} {ws : va_W} {lv : List (Nat × Value)} {st : List Value}
theorem gW.locals {lv' : List (Nat × Value)} (ks : List Nat) (h : lv_pick lv ks = lv') (k : gW X Q ck sk ws lv' st pc) : gW X Q ck sk ws lv st pc := fun H locs ls h1 h2 h3 h4 => k H locs ls h1 h2 h3 (lv_sub h4 ks h)
theorem gW.widen {ck' sk' : Nat} (h1 : ck ≤ ck') (h2 : sk ≤ sk') (k : gW X Q ck' sk' ws lv st pc) : gW X Q ck sk ws lv st pc := fun H locs ls a1 a2 a3 a4 => W.widen h1 h2 (k H locs ls a1 a2 a3 a4)
theorem gW.world {ws' : va_W} (is : List Nat) (hn : va_nd is = true) (hs : is.map (fun i => ws[i]?) = ws'.map some) (k : gW X Q ck sk ws' lv st pc) : gW X Q ck sk ws lv st pc := fun H locs ls a1 a2 a3 a4 =>
  k H locs ls (a1.sub is (by
    have h1 := congrArg (List.filterMap id) hs
    rw [List.filterMap_map, List.filterMap_map] at h1
    simpa using h1)) (a2.sub is hn hs) a3 a4
theorem g_iconst (C : gC X own cc ret) {n : Int} {v : Int32} (d : decode cc pc = .ok (.iconst n, 1)) (hv : Int32.ofInt n = v) (k : gW X Q ck sk ws lv (.int v :: st) (pc + 1)) : gW X Q ck sk ws lv st pc := fun H locs ls a1 a2 a3 a4 => lv_iconst C.1 C.2.1 d hv (k H locs ls a1 a2 a3 a4)
theorem g_bipush (C : gC X own cc ret) {n : Int} {v : Int32} (d : decode cc pc = .ok (.bipush n, 2)) (hv : (Int8.ofInt n).toInt32 = v) (k : gW X Q ck sk ws lv (.int v :: st) (pc + 2)) : gW X Q ck sk ws lv st pc := fun H locs ls a1 a2 a3 a4 => lv_bipush C.1 C.2.1 d hv (k H locs ls a1 a2 a3 a4)
theorem g_sipush (C : gC X own cc ret) {n : Int} {v : Int32} (d : decode cc pc = .ok (.sipush n, 3)) (hv : (Int16.ofInt n).toInt32 = v) (k : gW X Q ck sk ws lv (.int v :: st) (pc + 3)) : gW X Q ck sk ws lv st pc := fun H locs ls a1 a2 a3 a4 => lv_sipush C.1 C.2.1 d hv (k H locs ls a1 a2 a3 a4)
theorem g_iload_n (C : gC X own cc ret) {k : Fin 4} (i : Nat) {x : Int32} (d : decode cc pc = .ok (.iload_n k, 1)) (hl : lv[i]? = some ((k : Nat), .int x)) (kk : gW X Q ck sk ws lv (.int x :: st) (pc + 1)) : gW X Q ck sk ws lv st pc := fun H locs ls a1 a2 a3 a4 => lv_iload_n C.1 C.2.1 d rfl (lv_at a4 i hl) (kk H locs ls a1 a2 a3 a4)
theorem g_iload (C : gC X own cc ret) {k : Nat} (i : Nat) {x : Int32} (d : decode cc pc = .ok (.iload k, 2)) (hl : lv[i]? = some (k, .int x)) (kk : gW X Q ck sk ws lv (.int x :: st) (pc + 2)) : gW X Q ck sk ws lv st pc := fun H locs ls a1 a2 a3 a4 => lv_iload C.1 C.2.1 d (lv_at a4 i hl) (kk H locs ls a1 a2 a3 a4)
theorem g_aload_n (C : gC X own cc ret) {k : Fin 4} (i : Nat) {x : Nat} (d : decode cc pc = .ok (.aload_n k, 1)) (hl : lv[i]? = some ((k : Nat), .ref x)) (kk : gW X Q ck sk ws lv (.ref x :: st) (pc + 1)) : gW X Q ck sk ws lv st pc := fun H locs ls a1 a2 a3 a4 => lv_aload_n C.1 C.2.1 d rfl (lv_at a4 i hl) (kk H locs ls a1 a2 a3 a4)
theorem g_aload (C : gC X own cc ret) {k : Nat} (i : Nat) {x : Nat} (d : decode cc pc = .ok (.aload k, 2)) (hl : lv[i]? = some (k, .ref x)) (kk : gW X Q ck sk ws lv (.ref x :: st) (pc + 2)) : gW X Q ck sk ws lv st pc := fun H locs ls a1 a2 a3 a4 => lv_aload C.1 C.2.1 d (lv_at a4 i hl) (kk H locs ls a1 a2 a3 a4)
theorem g_istore_n (C : gC X own cc ret) {k : Fin 4} {x : Int32} {lv' : List (Nat × Value)} (d : decode cc pc = .ok (.istore_n k, 1)) (hn : (k : Nat) < x_n X) (hl : ((k : Nat), Value.int x) :: lv.filter (fun q => !(q.1 == (k : Nat)) && !(q.1 + 1 == (k : Nat) && q.2.category == 2)) = lv') (kk : gW X Q ck sk ws lv' st (pc + 1)) : gW X Q ck sk ws lv (.int x :: st) pc := fun H locs ls a1 a2 a3 a4 => lv_istore_n C.1 C.2.1 d rfl a4 hn hl (fun ls' h => kk H locs ls' a1 a2 a3 h)
theorem g_istore (C : gC X own cc ret) {k : Nat} {x : Int32} {lv' : List (Nat × Value)} (d : decode cc pc = .ok (.istore k, 2)) (hn : k < x_n X) (hl : (k, Value.int x) :: lv.filter (fun q => !(q.1 == k) && !(q.1 + 1 == k && q.2.category == 2)) = lv') (kk : gW X Q ck sk ws lv' st (pc + 2)) : gW X Q ck sk ws lv (.int x :: st) pc := fun H locs ls a1 a2 a3 a4 => lv_istore C.1 C.2.1 d a4 hn hl (fun ls' h => kk H locs ls' a1 a2 a3 h)
theorem g_iinc (C : gC X own cc ret) {k : Nat} {n : Int} (i : Nat) {x v : Int32} {lv' : List (Nat × Value)} (d : decode cc pc = .ok (.iinc k n, 3)) (hi : lv[i]? = some (k, .int x)) (hv : x + Int32.ofInt n = v) (hn : k < x_n X) (hl : (k, Value.int v) :: lv.filter (fun q => !(q.1 == k) && !(q.1 + 1 == k && q.2.category == 2)) = lv') (kk : gW X Q ck sk ws lv' st (pc + 3)) : gW X Q ck sk ws lv st pc := fun H locs ls a1 a2 a3 a4 => lv_iinc C.1 C.2.1 d a4 hi hv hn hl (fun ls' h => kk H locs ls' a1 a2 a3 h)
theorem g_iadd (C : gC X own cc ret) {x y : Int32} (d : decode cc pc = .ok (.iadd, 1)) (k : gW X Q ck sk ws lv (.int (x + y) :: st) (pc + 1)) : gW X Q ck sk ws lv (.int y :: .int x :: st) pc := fun H locs ls a1 a2 a3 a4 => lv_iadd C.1 C.2.1 d (k H locs ls a1 a2 a3 a4)
theorem g_isub (C : gC X own cc ret) {x y : Int32} (d : decode cc pc = .ok (.isub, 1)) (k : gW X Q ck sk ws lv (.int (x - y) :: st) (pc + 1)) : gW X Q ck sk ws lv (.int y :: .int x :: st) pc := fun H locs ls a1 a2 a3 a4 => lv_isub C.1 C.2.1 d (k H locs ls a1 a2 a3 a4)
theorem g_imul (C : gC X own cc ret) {x y : Int32} (d : decode cc pc = .ok (.imul, 1)) (k : gW X Q ck sk ws lv (.int (x * y) :: st) (pc + 1)) : gW X Q ck sk ws lv (.int y :: .int x :: st) pc := fun H locs ls a1 a2 a3 a4 => lv_imul C.1 C.2.1 d (k H locs ls a1 a2 a3 a4)
theorem g_dup (C : gC X own cc ret) {v : Value} (d : decode cc pc = .ok (.dup, 1)) (hc : v.category = 1) (k : gW X Q ck sk ws lv (v :: v :: st) (pc + 1)) : gW X Q ck sk ws lv (v :: st) pc := fun H locs ls a1 a2 a3 a4 => lv_dup C.1 C.2.1 d hc (k H locs ls a1 a2 a3 a4)
theorem g_goto (C : gC X own cc ret) {off : Int} (tgt : Nat) (d : decode cc pc = .ok (.goto off, 3)) (ht : (pc : Int) + off = (tgt : Int)) (k : gW X Q ck sk ws lv st tgt) : gW X Q ck sk ws lv st pc := fun H locs ls a1 a2 a3 a4 => lv_goto C.1 C.2.1 d ht (k H locs ls a1 a2 a3 a4)
theorem g_if_lt (C : gC X own cc ret) {x : Int32} {off : Int} (tgt : Nat) (d : decode cc pc = .ok (.ifCond .lt off, 3)) (ht : (pc : Int) + off = (tgt : Int)) (kt : x < 0 → gW X Q ck sk ws lv st tgt) (kf : ¬ x < 0 → gW X Q ck sk ws lv st (pc + 3)) : gW X Q ck sk ws lv (.int x :: st) pc := fun H locs ls a1 a2 a3 a4 => lv_if_lt C.1 C.2.1 d ht (fun h => kt h H locs ls a1 a2 a3 a4) (fun h => kf h H locs ls a1 a2 a3 a4)
theorem g_if_eq (C : gC X own cc ret) {x : Int32} {off : Int} (tgt : Nat) (d : decode cc pc = .ok (.ifCond .eq off, 3)) (ht : (pc : Int) + off = (tgt : Int)) (kt : x = 0 → gW X Q ck sk ws lv st tgt) (kf : ¬ x = 0 → gW X Q ck sk ws lv st (pc + 3)) : gW X Q ck sk ws lv (.int x :: st) pc := fun H locs ls a1 a2 a3 a4 => lv_if_eq C.1 C.2.1 d ht (fun h => kt h H locs ls a1 a2 a3 a4) (fun h => kf h H locs ls a1 a2 a3 a4)
theorem g_icmp_lt (C : gC X own cc ret) {x y : Int32} {off : Int} (tgt : Nat) (d : decode cc pc = .ok (.if_icmp .lt off, 3)) (ht : (pc : Int) + off = (tgt : Int)) (kt : x < y → gW X Q ck sk ws lv st tgt) (kf : ¬ x < y → gW X Q ck sk ws lv st (pc + 3)) : gW X Q ck sk ws lv (.int y :: .int x :: st) pc := fun H locs ls a1 a2 a3 a4 => lv_icmp_lt C.1 C.2.1 d ht (fun h => kt h H locs ls a1 a2 a3 a4) (fun h => kf h H locs ls a1 a2 a3 a4)
theorem g_icmp_gt (C : gC X own cc ret) {x y : Int32} {off : Int} (tgt : Nat) (d : decode cc pc = .ok (.if_icmp .gt off, 3)) (ht : (pc : Int) + off = (tgt : Int)) (kt : y < x → gW X Q ck sk ws lv st tgt) (kf : ¬ y < x → gW X Q ck sk ws lv st (pc + 3)) : gW X Q ck sk ws lv (.int y :: .int x :: st) pc := fun H locs ls a1 a2 a3 a4 => lv_icmp_gt C.1 C.2.1 d ht (fun h => kt h H locs ls a1 a2 a3 a4) (fun h => kf h H locs ls a1 a2 a3 a4)
end GR
