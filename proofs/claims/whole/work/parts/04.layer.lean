/-! THE LAYER. A memory is rows of ints by cell number, and one long; the world is its cells at fixed addresses; a method's answer is a pure Option: what is none is never asked for. -/
abbrev Mem : Type := (Nat → Nat → Int32) × Int64
def u2 (M : Mem) (i k : Nat) (x : Int32) : Mem := (fun j => if j = i then upd (M.1 i) k x else M.1 j, M.2)
def uh (M : Mem) (h : Int64) : Mem := (M.1, h)
abbrev KyG : Type := Launch × va_G × (Nat → Nat) × Nat × ((Nat → Int32) → Int64 → Nat → va_E) × List (ClassId × FieldType) × (State → Prop)
abbrev gL (G : KyG) : Launch := G.1
abbrev gD (G : KyG) : va_G := G.2.1
abbrev gA (G : KyG) : Nat → Nat := G.2.2.1
abbrev gN (G : KyG) : Nat := G.2.2.2.1
abbrev gW (G : KyG) : (Nat → Int32) → Int64 → Nat → va_E := G.2.2.2.2.1
abbrev gT (G : KyG) : List (ClassId × FieldType) := G.2.2.2.2.2.1
abbrev gX (G : KyG) : State → Prop := G.2.2.2.2.2.2
abbrev KyE : Type := Program × Env × State × MethodId × Array Value × List Frame × Method × Code × Room
abbrev eS (E : KyE) : State := E.2.2.1
def wG (G : KyG) (M : Mem) : va_W := (List.range (gN G)).map (fun i => (gA G i, gW G (M.1 i) M.2 i))
def aG (G : KyG) : Nat → Prop := fun q => ∃ i, i < gN G ∧ gA G i = q
def GOK (G : KyG) : Prop := (∀ i j, i < gN G → j < gN G → gA G i = gA G j → i = j) ∧ (∀ u U : State, U.vm = u.vm → U.heap = u.heap → gX G u → gX G U) ∧ (∀ u U : State, u.WarmedH U.vm → (∀ q : Nat, q < u.heap.size → ¬ aG G q → U.heap[q]? = u.heap[q]?) → gX G u → gX G U)
theorem wG_get {G : KyG} {M : Mem} {i : Nat} (h : i < gN G) : (wG G M)[i]? = some (gA G i, gW G (M.1 i) M.2 i) := by
  simp [wG, h]
theorem wG_some {G : KyG} {M : Mem} {i : Nat} {q : Nat × va_E} (h : (wG G M)[i]? = some q) : i < gN G ∧ q = (gA G i, gW G (M.1 i) M.2 i) := by
  by_cases hi : i < gN G
  · rw [wG_get hi] at h
    exact ⟨hi, (Option.some.inj h).symm⟩
  · simp [wG, hi] at h
theorem wG_D {G : KyG} {M : Mem} (h : GOK G) : va_D (aG G) (wG G M) := by
  refine ⟨fun i j p q hi hj e => ?_, fun k q hk => ?_⟩
  · obtain ⟨h1, rfl⟩ := wG_some hi
    obtain ⟨h2, rfl⟩ := wG_some hj
    exact h.1 i j h1 h2 e
  · obtain ⟨h1, rfl⟩ := wG_some hk
    exact ⟨k, h1, rfl⟩
theorem wG_set {G : KyG} {M M' : Mem} {i : Nat} {e : va_E} (hi : i < gN G) (h1 : gW G (M'.1 i) M'.2 i = e) (h2 : ∀ j, j < gN G → j ≠ i → gW G (M'.1 j) M'.2 j = gW G (M.1 j) M.2 j) : (wG G M).set i (gA G i, e) = wG G M' := by
  refine List.ext_getElem? (fun j => ?_)
  by_cases hj : j < gN G
  · by_cases hji : j = i
    · subst hji
      rw [List.getElem?_set_self (by simp [wG, hj]), wG_get hj, h1]
    · rw [List.getElem?_set_ne (Ne.symm hji), wG_get hj, wG_get hj, h2 j hj hji]
  · have a1 : ((wG G M).set i (gA G i, e))[j]? = none := by simp [wG, hj]
    have a2 : (wG G M')[j]? = none := by simp [wG, hj]
    rw [a1, a2]
theorem u2_self {M : Mem} {i k : Nat} {x : Int32} : (u2 M i k x).1 i = upd (M.1 i) k x := if_pos rfl
theorem u2_ne {M : Mem} {i j k : Nat} {x : Int32} (h : j ≠ i) : (u2 M i k x).1 j = M.1 j := if_neg h
theorem wG_u2 {G : KyG} {M : Mem} {i k : Nat} {x : Int32} {e : va_E} (hi : i < gN G) (h1 : gW G (upd (M.1 i) k x) M.2 i = e) : (wG G M).set i (gA G i, e) = wG G (u2 M i k x) :=
  wG_set hi (by rw [u2_self]; exact h1) (fun j _ hj => by rw [u2_ne hj]; rfl)
def Cx (G : KyG) (E : KyE) (cc : ByteArray) (nL : Nat) (own : String) (Ts : List Cond) (ret : Option FieldType) (rm : Room) : Prop :=
  CallFix E.1 E.2.2.2.1 E.2.2.2.2.2.2.2.1 cc nL E.2.2.1 E.2.2.2.2.1 Ts own ∧ E.2.2.2.2.2.2.1.sig.returnType = ret ∧ E.2.2.2.2.2.2.1.locks = false ∧ va_K (gD G) vwCl (gT G) E.2.2.1 ∧ gX G E.2.2.1 ∧ E.2.2.2.2.2.2.2.2 = rm ∧ GOK G
abbrev WE (G : KyG) (E : KyE) (H : Heap) (locs : List Loc) (Q : State → Prop) (g : JFrame) : Prop := W E.1 (gL G) E.2.1 E.2.2.2.2.2.2.2.2 E.2.2.1 E.2.2.2.1 E.2.2.2.2.1 E.2.2.2.2.2.1 E.2.2.2.2.2.2.1 E.2.2.2.2.2.2.2.1 H locs 0 0 Q g
def Qr (G : KyG) (v : Option Value) (M : Mem) : Array Value → State → Outcome → State → Prop := fun _ st oc t => oc = .returned v ∧ va_P (gD G) vwCl (wG G M) t.heap ∧ va_F (aG G) st t
/-- from pc, with these locals and this stack, over this memory: if the answer is some, the method ends with it -/
def Wo {ρ : Type} (G : KyG) (E : KyE) (nL : Nat) (rv : ρ → Option Value) (o : Option (ρ × Mem)) (M : Mem) (pc : Nat) (lv : List (Nat × Value)) (st : List Value) : Prop :=
  ∀ (r : ρ) (M' : Mem), o = some (r, M') → ∀ (H : Heap) (locs : List Loc) (ls : Array Slot), va_P (gD G) vwCl (wG G M) H → va_S (aG G) E.2.2.1.heap H locs → lv_has ls nL lv → WE G E H locs (MQ E.2.2.2.2.2.1 (Qr G (rv r) M') E.2.2.2.2.1 E.2.2.1 0 0 (aG G)) (F0 E.2.2.2.1 pc ls st)
/-- a contract -/
def Ct {ρ : Type} (G : KyG) (y : MethodName) (ws : List Cond) (rm : Room) (rv : ρ → Option Value) (av : List Value) (o : Option (ρ × Mem)) (M : Mem) : Prop :=
  ∀ (r : ρ) (M' : Mem), o = some (r, M') → Met (gL G) y ws rm (va_Pc av (fun U => va_P (gD G) vwCl (wG G M) U.heap ∧ va_K (gD G) vwCl (gT G) U ∧ gX G U)) (Qr G (rv r) M') 0 0 (aG G)
abbrev rI : Int32 → Option Value := fun r => some (.int r)
abbrev rL : Int64 → Option Value := fun r => some (.long r)
abbrev rV : Unit → Option Value := fun _ => none
def nm {α β : Type} (x : α) (k : α → β) : β := k x
def gi {α : Type} (i : Int32) (n : Nat) (k : Option α) : Option α := if i < 0 ∨ n ≤ i.toNatClampNeg then none else k
def gb {α : Type} (x : Int32) (k : Option α) : Option α := if x = 0 ∨ x = 1 then k else none
def bd {ρ ρ' : Type} (o : Option (ρ × Mem)) (k : ρ → Mem → Option (ρ' × Mem)) : Option (ρ' × Mem) := match o with
  | none => none
  | some q => k q.1 q.2
theorem gi_some {α : Type} {i : Int32} {n : Nat} {k : Option α} {a : α} (h : gi i n k = some a) : vp_in i n ∧ k = some a := by
  unfold gi at h
  by_cases hc : i < 0 ∨ n ≤ i.toNatClampNeg
  · rw [if_pos hc] at h; cases h
  · rw [if_neg hc] at h; exact ⟨hc, h⟩
theorem gb_some {α : Type} {x : Int32} {k : Option α} {a : α} (h : gb x k = some a) : (x = 0 ∨ x = 1) ∧ k = some a := by
  unfold gb at h
  by_cases hc : x = 0 ∨ x = 1
  · rw [if_pos hc] at h; exact ⟨hc, h⟩
  · rw [if_neg hc] at h; cases h
theorem Ct_of {ρ : Type} {G : KyG} {y : MethodName} {ws ws' : List Cond} {rm : Room} {rv : ρ → Option Value} {av : List Value} {o : Option (ρ × Mem)} {M : Mem} (cc : ByteArray) (nL : Nat) (ret : Option FieldType) (own : String) {lv : List (Nat × Value)} (hG : GOK G) (hy : plainName y.cls = true) (hw : ws = Cond.code y cc nL ret :: ws') (ho : y.cls = own) (hn : (lg_sl av).length ≤ nL) (hlv : lv_args 0 av = lv)
    (body : ∀ E : KyE, Cx G E cc nL own ws ret rm → Wo G E nL rv o M 0 lv []) : Ct G y ws rm rv av o M := by
  intro r M' h
  refine Met.ofW (cc := cc) (maxL := nL) (ret := ret) hy hw ?_
  intro p e s m args below meth c s₁ B hml hv
  obtain ⟨rfl, hP, hK, hX⟩ := hv
  have hl := lv_entry av (n := nL) hn
  rw [hlv] at hl
  rw [lg_entry_eq]
  exact body (p, e, s, m, av.toArray, below, meth, c, (headSpec ws rm).room) ⟨⟨B.exec, B.bytes, hml, by rw [← ho]; exact findClass_of_methodNamed B.named, atoms_spec (ws := ws) B.pre⟩, B.returns, B.notSynchronized, hK, hX, rfl, hG⟩ r M' h _ _ _ hP va_S.rf hl
section KYS
variable {ρ : Type} {G : KyG} {E : KyE} {cc : ByteArray} {nL : Nat} {own : String} {Ts : List Cond} {ret : Option FieldType} {rm : Room} {rv : ρ → Option Value} {o o1 o2 : Option (ρ × Mem)} {M : Mem} {pc : Nat} {lv : List (Nat × Value)} {st : List Value}
theorem ky_none : Wo G E nL rv (none : Option (ρ × Mem)) M pc lv st := fun _ _ h => by cases h
theorem ky_sub {lv' : List (Nat × Value)} (ks : List Nat) (hl : lv_pick lv ks = lv') (k : Wo G E nL rv o M pc lv' st) : Wo G E nL rv o M pc lv st := fun r M' h H locs ls hP hS hv => k r M' h H locs ls hP hS (lv_sub hv ks hl)
theorem ky_aload_n (C : Cx G E cc nL own Ts ret rm) {k : Fin 4} {x : Nat} (d : decode cc pc = .ok (.aload_n k, 1)) (j : Nat) (hj : lv[j]? = some (k.val, .ref x)) (kk : Wo G E nL rv o M (pc + 1) lv (.ref x :: st)) : Wo G E nL rv o M pc lv st := fun r M' h H locs ls hP hS hv => lv_aload_n C.1.1 C.1.2.1 d rfl (lv_at hv j hj) (kk r M' h H locs ls hP hS hv)
theorem ky_aload (C : Cx G E cc nL own Ts ret rm) {k : Nat} {x : Nat} (d : decode cc pc = .ok (.aload k, 2)) (j : Nat) (hj : lv[j]? = some (k, .ref x)) (kk : Wo G E nL rv o M (pc + 2) lv (.ref x :: st)) : Wo G E nL rv o M pc lv st := fun r M' h H locs ls hP hS hv => lv_aload C.1.1 C.1.2.1 d (lv_at hv j hj) (kk r M' h H locs ls hP hS hv)
theorem ky_iload_n (C : Cx G E cc nL own Ts ret rm) {k : Fin 4} {x : Int32} (d : decode cc pc = .ok (.iload_n k, 1)) (j : Nat) (hj : lv[j]? = some (k.val, .int x)) (kk : Wo G E nL rv o M (pc + 1) lv (.int x :: st)) : Wo G E nL rv o M pc lv st := fun r M' h H locs ls hP hS hv => lv_iload_n C.1.1 C.1.2.1 d rfl (lv_at hv j hj) (kk r M' h H locs ls hP hS hv)
theorem ky_iload (C : Cx G E cc nL own Ts ret rm) {k : Nat} {x : Int32} (d : decode cc pc = .ok (.iload k, 2)) (j : Nat) (hj : lv[j]? = some (k, .int x)) (kk : Wo G E nL rv o M (pc + 2) lv (.int x :: st)) : Wo G E nL rv o M pc lv st := fun r M' h H locs ls hP hS hv => lv_iload C.1.1 C.1.2.1 d (lv_at hv j hj) (kk r M' h H locs ls hP hS hv)
theorem ky_lload_n (C : Cx G E cc nL own Ts ret rm) {k : Fin 4} {x : Int64} (d : decode cc pc = .ok (.lload_n k, 1)) (j : Nat) (hj : lv[j]? = some (k.val, .long x)) (kk : Wo G E nL rv o M (pc + 1) lv (.long x :: st)) : Wo G E nL rv o M pc lv st := fun r M' h H locs ls hP hS hv => lv_lload_n C.1.1 C.1.2.1 d rfl (lv_at hv j hj) (kk r M' h H locs ls hP hS hv)
theorem ky_lload (C : Cx G E cc nL own Ts ret rm) {k : Nat} {x : Int64} (d : decode cc pc = .ok (.lload k, 2)) (j : Nat) (hj : lv[j]? = some (k, .long x)) (kk : Wo G E nL rv o M (pc + 2) lv (.long x :: st)) : Wo G E nL rv o M pc lv st := fun r M' h H locs ls hP hS hv => lv_lload C.1.1 C.1.2.1 d (lv_at hv j hj) (kk r M' h H locs ls hP hS hv)
/-- a number gets a name -/
theorem ky_nmi {x : Int32} {K : Int32 → Option (ρ × Mem)} (kk : ∀ y : Int32, Wo G E nL rv (K y) M pc lv (.int y :: st)) : Wo G E nL rv (nm x K) M pc lv (.int x :: st) := kk x
theorem ky_nml {x : Int64} {K : Int64 → Option (ρ × Mem)} (kk : ∀ y : Int64, Wo G E nL rv (K y) M pc lv (.long y :: st)) : Wo G E nL rv (nm x K) M pc lv (.long x :: st) := kk x
theorem ky_istore_n (C : Cx G E cc nL own Ts ret rm) {k : Fin 4} {x : Int32} {lv' : List (Nat × Value)} (d : decode cc pc = .ok (.istore_n k, 1)) (hn : k.val < nL) (hl : (k.val, Value.int x) :: lv.filter (fun q => !(q.1 == k.val) && !(q.1 + 1 == k.val && q.2.category == 2)) = lv') (kk : Wo G E nL rv o M (pc + 1) lv' st) : Wo G E nL rv o M pc lv (.int x :: st) := fun r M' h H locs ls hP hS hv => lv_istore_n C.1.1 C.1.2.1 d rfl hv hn hl (fun ls' h' => kk r M' h H locs ls' hP hS h')
theorem ky_istore (C : Cx G E cc nL own Ts ret rm) {k : Nat} {x : Int32} {lv' : List (Nat × Value)} (d : decode cc pc = .ok (.istore k, 2)) (hn : k < nL) (hl : (k, Value.int x) :: lv.filter (fun q => !(q.1 == k) && !(q.1 + 1 == k && q.2.category == 2)) = lv') (kk : Wo G E nL rv o M (pc + 2) lv' st) : Wo G E nL rv o M pc lv (.int x :: st) := fun r M' h H locs ls hP hS hv => lv_istore C.1.1 C.1.2.1 d hv hn hl (fun ls' h' => kk r M' h H locs ls' hP hS h')
theorem ky_astore_n (C : Cx G E cc nL own Ts ret rm) {k : Fin 4} {x : Nat} {lv' : List (Nat × Value)} (d : decode cc pc = .ok (.astore_n k, 1)) (hn : k.val < nL) (hl : (k.val, Value.ref x) :: lv.filter (fun q => !(q.1 == k.val) && !(q.1 + 1 == k.val && q.2.category == 2)) = lv') (kk : Wo G E nL rv o M (pc + 1) lv' st) : Wo G E nL rv o M pc lv (.ref x :: st) := fun r M' h H locs ls hP hS hv => lv_astore_n C.1.1 C.1.2.1 d rfl hv hn hl (fun ls' h' => kk r M' h H locs ls' hP hS h')
theorem ky_astore (C : Cx G E cc nL own Ts ret rm) {k : Nat} {x : Nat} {lv' : List (Nat × Value)} (d : decode cc pc = .ok (.astore k, 2)) (hn : k < nL) (hl : (k, Value.ref x) :: lv.filter (fun q => !(q.1 == k) && !(q.1 + 1 == k && q.2.category == 2)) = lv') (kk : Wo G E nL rv o M (pc + 2) lv' st) : Wo G E nL rv o M pc lv (.ref x :: st) := fun r M' h H locs ls hP hS hv => lv_astore C.1.1 C.1.2.1 d hv hn hl (fun ls' h' => kk r M' h H locs ls' hP hS h')
theorem ky_lstore_n (C : Cx G E cc nL own Ts ret rm) {k : Fin 4} {x : Int64} {lv' : List (Nat × Value)} (d : decode cc pc = .ok (.lstore_n k, 1)) (hn : k.val + 1 < nL) (hl : (k.val, Value.long x) :: lv.filter (fun q => !(q.1 == k.val) && (!(q.1 == k.val + 1) && !(q.1 + 1 == k.val && q.2.category == 2))) = lv') (kk : Wo G E nL rv o M (pc + 1) lv' st) : Wo G E nL rv o M pc lv (.long x :: st) := fun r M' h H locs ls hP hS hv => lv_lstore_n C.1.1 C.1.2.1 d rfl hv hn hl (fun ls' h' => kk r M' h H locs ls' hP hS h')
theorem ky_lstore (C : Cx G E cc nL own Ts ret rm) {k : Nat} {x : Int64} {lv' : List (Nat × Value)} (d : decode cc pc = .ok (.lstore k, 2)) (hn : k + 1 < nL) (hl : (k, Value.long x) :: lv.filter (fun q => !(q.1 == k) && (!(q.1 == k + 1) && !(q.1 + 1 == k && q.2.category == 2))) = lv') (kk : Wo G E nL rv o M (pc + 2) lv' st) : Wo G E nL rv o M pc lv (.long x :: st) := fun r M' h H locs ls hP hS hv => lv_lstore C.1.1 C.1.2.1 d hv hn hl (fun ls' h' => kk r M' h H locs ls' hP hS h')
theorem ky_iinc (C : Cx G E cc nL own Ts ret rm) {k : Nat} {n : Int} {x d1 : Int32} {lv' : Int32 → List (Nat × Value)} {K : Int32 → Option (ρ × Mem)} (d : decode cc pc = .ok (.iinc k n, 3)) (j : Nat) (hj : lv[j]? = some (k, .int x)) (hd : Int32.ofInt n = d1) (hn : k < nL) (hl : ∀ y : Int32, (k, Value.int y) :: lv.filter (fun q => !(q.1 == k) && !(q.1 + 1 == k && q.2.category == 2)) = lv' y) (kk : ∀ y : Int32, Wo G E nL rv (K y) M (pc + 3) (lv' y) st) : Wo G E nL rv (nm (x + d1) K) M pc lv st := by
  intro r M' h H locs ls hP hS hv
  subst hd
  exact lv_iinc (v := x + Int32.ofInt n) C.1.1 C.1.2.1 d hv hj rfl hn (hl _) (fun ls' h' => kk (x + Int32.ofInt n) r M' h H locs ls' hP hS h')
theorem ky_iconst (C : Cx G E cc nL own Ts ret rm) {n : Int} (v : Int32) (d : decode cc pc = .ok (.iconst n, 1)) (hv : Int32.ofInt n = v) (kk : Wo G E nL rv o M (pc + 1) lv (.int v :: st)) : Wo G E nL rv o M pc lv st := fun r M' h H locs ls hP hS hl => lv_iconst C.1.1 C.1.2.1 d hv (kk r M' h H locs ls hP hS hl)
theorem ky_bipush (C : Cx G E cc nL own Ts ret rm) {n : Int} (v : Int32) (d : decode cc pc = .ok (.bipush n, 2)) (hv : (Int8.ofInt n).toInt32 = v) (kk : Wo G E nL rv o M (pc + 2) lv (.int v :: st)) : Wo G E nL rv o M pc lv st := fun r M' h H locs ls hP hS hl => lv_bipush C.1.1 C.1.2.1 d hv (kk r M' h H locs ls hP hS hl)
theorem ky_sipush (C : Cx G E cc nL own Ts ret rm) {n : Int} (v : Int32) (d : decode cc pc = .ok (.sipush n, 3)) (hv : (Int16.ofInt n).toInt32 = v) (kk : Wo G E nL rv o M (pc + 3) lv (.int v :: st)) : Wo G E nL rv o M pc lv st := fun r M' h H locs ls hP hS hl => lv_sipush C.1.1 C.1.2.1 d hv (kk r M' h H locs ls hP hS hl)
theorem ky_lconst (C : Cx G E cc nL own Ts ret rm) {n : Fin 2} (v : Int64) (d : decode cc pc = .ok (.lconst n, 1)) (hv : Int64.ofNat (n : Nat) = v) (kk : Wo G E nL rv o M (pc + 1) lv (.long v :: st)) : Wo G E nL rv o M pc lv st := fun r M' h H locs ls hP hS hl => lv_lconst C.1.1 C.1.2.1 d hv (kk r M' h H locs ls hP hS hl)
theorem ky_ldc (C : Cx G E cc nL own Ts ret rm) {i : Nat} (v : Int32) (hm : Jvm.Cond.constant own i v ∈ Ts) (d : decode cc pc = .ok (.ldc i, 2)) (kk : Wo G E nL rv o M (pc + 2) lv (.int v :: st)) : Wo G E nL rv o M pc lv st := fun r M' h H locs ls hP hS hl => lv_ldc C.1.1 C.1.2.1 C.1.2.2.2.1 (C.1.2.2.2.2 _ hm) d (kk r M' h H locs ls hP hS hl)
theorem ky_ldcw (C : Cx G E cc nL own Ts ret rm) {i : Nat} (v : Int32) (hm : Jvm.Cond.constant own i v ∈ Ts) (d : decode cc pc = .ok (.ldc_w i, 3)) (kk : Wo G E nL rv o M (pc + 3) lv (.int v :: st)) : Wo G E nL rv o M pc lv st := fun r M' h H locs ls hP hS hl => lv_ldcw C.1.1 C.1.2.1 C.1.2.2.2.1 (C.1.2.2.2.2 _ hm) d (kk r M' h H locs ls hP hS hl)
theorem ky_ldc2 (C : Cx G E cc nL own Ts ret rm) {i : Nat} (v : Int64) (hm : Jvm.Cond.constantLong own i v ∈ Ts) (d : decode cc pc = .ok (.ldc2_w i, 3)) (kk : Wo G E nL rv o M (pc + 3) lv (.long v :: st)) : Wo G E nL rv o M pc lv st := fun r M' h H locs ls hP hS hl => lv_ldc2 C.1.1 C.1.2.1 C.1.2.2.2.1 (C.1.2.2.2.2 _ hm) d (kk r M' h H locs ls hP hS hl)
theorem ky_iadd (C : Cx G E cc nL own Ts ret rm) {x y : Int32} (d : decode cc pc = .ok (.iadd, 1)) (kk : Wo G E nL rv o M (pc + 1) lv (.int (x + y) :: st)) : Wo G E nL rv o M pc lv (.int y :: .int x :: st) := fun r M' h H locs ls hP hS hl => lv_iadd C.1.1 C.1.2.1 d (kk r M' h H locs ls hP hS hl)
theorem ky_isub (C : Cx G E cc nL own Ts ret rm) {x y : Int32} (d : decode cc pc = .ok (.isub, 1)) (kk : Wo G E nL rv o M (pc + 1) lv (.int (x - y) :: st)) : Wo G E nL rv o M pc lv (.int y :: .int x :: st) := fun r M' h H locs ls hP hS hl => lv_isub C.1.1 C.1.2.1 d (kk r M' h H locs ls hP hS hl)
theorem ky_imul (C : Cx G E cc nL own Ts ret rm) {x y : Int32} (d : decode cc pc = .ok (.imul, 1)) (kk : Wo G E nL rv o M (pc + 1) lv (.int (x * y) :: st)) : Wo G E nL rv o M pc lv (.int y :: .int x :: st) := fun r M' h H locs ls hP hS hl => lv_imul C.1.1 C.1.2.1 d (kk r M' h H locs ls hP hS hl)
theorem ky_iand (C : Cx G E cc nL own Ts ret rm) {x y : Int32} (d : decode cc pc = .ok (.iand, 1)) (kk : Wo G E nL rv o M (pc + 1) lv (.int (x &&& y) :: st)) : Wo G E nL rv o M pc lv (.int y :: .int x :: st) := fun r M' h H locs ls hP hS hl => lv_iand C.1.1 C.1.2.1 d (kk r M' h H locs ls hP hS hl)
theorem ky_ior (C : Cx G E cc nL own Ts ret rm) {x y : Int32} (d : decode cc pc = .ok (.ior, 1)) (kk : Wo G E nL rv o M (pc + 1) lv (.int (x ||| y) :: st)) : Wo G E nL rv o M pc lv (.int y :: .int x :: st) := fun r M' h H locs ls hP hS hl => lv_ior C.1.1 C.1.2.1 d (kk r M' h H locs ls hP hS hl)
theorem ky_ixor (C : Cx G E cc nL own Ts ret rm) {x y : Int32} (d : decode cc pc = .ok (.ixor, 1)) (kk : Wo G E nL rv o M (pc + 1) lv (.int (x ^^^ y) :: st)) : Wo G E nL rv o M pc lv (.int y :: .int x :: st) := fun r M' h H locs ls hP hS hl => lv_ixor C.1.1 C.1.2.1 d (kk r M' h H locs ls hP hS hl)
theorem ky_ishl (C : Cx G E cc nL own Ts ret rm) {x y : Int32} (d : decode cc pc = .ok (.ishl, 1)) (kk : Wo G E nL rv o M (pc + 1) lv (.int (x <<< (y &&& 31)) :: st)) : Wo G E nL rv o M pc lv (.int y :: .int x :: st) := fun r M' h H locs ls hP hS hl => lv_ishl C.1.1 C.1.2.1 d (kk r M' h H locs ls hP hS hl)
theorem ky_ishr (C : Cx G E cc nL own Ts ret rm) {x y : Int32} (d : decode cc pc = .ok (.ishr, 1)) (kk : Wo G E nL rv o M (pc + 1) lv (.int (x >>> (y &&& 31)) :: st)) : Wo G E nL rv o M pc lv (.int y :: .int x :: st) := fun r M' h H locs ls hP hS hl => lv_ishr C.1.1 C.1.2.1 d (kk r M' h H locs ls hP hS hl)
theorem ky_iushr (C : Cx G E cc nL own Ts ret rm) {x y : Int32} (d : decode cc pc = .ok (.iushr, 1)) (kk : Wo G E nL rv o M (pc + 1) lv (.int ((x.toUInt32 >>> (y.toUInt32 &&& Int32.toUInt32 31)).toInt32) :: st)) : Wo G E nL rv o M pc lv (.int y :: .int x :: st) := fun r M' h H locs ls hP hS hl => lv_iushr C.1.1 C.1.2.1 d rfl (kk r M' h H locs ls hP hS hl)
theorem ky_idiv (C : Cx G E cc nL own Ts ret rm) {x y : Int32} (d : decode cc pc = .ok (.idiv, 1)) (hne : ¬ y = 0) (kk : Wo G E nL rv o M (pc + 1) lv (.int (x / y) :: st)) : Wo G E nL rv o M pc lv (.int y :: .int x :: st) := fun r M' h H locs ls hP hS hl => lv_idiv C.1.1 C.1.2.1 d hne (kk r M' h H locs ls hP hS hl)
theorem ky_irem (C : Cx G E cc nL own Ts ret rm) {x y : Int32} (d : decode cc pc = .ok (.irem, 1)) (hne : ¬ y = 0) (kk : Wo G E nL rv o M (pc + 1) lv (.int (x - x / y * y) :: st)) : Wo G E nL rv o M pc lv (.int y :: .int x :: st) := fun r M' h H locs ls hP hS hl => lv_irem C.1.1 C.1.2.1 d hne (kk r M' h H locs ls hP hS hl)
/-- a division whose divisor isn't a constant -/
theorem ky_idivG (C : Cx G E cc nL own Ts ret rm) {x y : Int32} (d : decode cc pc = .ok (.idiv, 1)) (kk : Wo G E nL rv o M (pc + 1) lv (.int (x / y) :: st)) : Wo G E nL rv (if y = 0 then none else o) M pc lv (.int y :: .int x :: st) := by
  intro r M' h
  by_cases hy : y = 0
  · rw [if_pos hy] at h; cases h
  · rw [if_neg hy] at h; exact ky_idiv C d hy kk r M' h
theorem ky_iremG (C : Cx G E cc nL own Ts ret rm) {x y : Int32} (d : decode cc pc = .ok (.irem, 1)) (kk : Wo G E nL rv o M (pc + 1) lv (.int (x - x / y * y) :: st)) : Wo G E nL rv (if y = 0 then none else o) M pc lv (.int y :: .int x :: st) := by
  intro r M' h
  by_cases hy : y = 0
  · rw [if_pos hy] at h; cases h
  · rw [if_neg hy] at h; exact ky_irem C d hy kk r M' h
theorem ky_ladd (C : Cx G E cc nL own Ts ret rm) {x y : Int64} (d : decode cc pc = .ok (.ladd, 1)) (kk : Wo G E nL rv o M (pc + 1) lv (.long (x + y) :: st)) : Wo G E nL rv o M pc lv (.long y :: .long x :: st) := fun r M' h H locs ls hP hS hl => lv_ladd C.1.1 C.1.2.1 d (kk r M' h H locs ls hP hS hl)
theorem ky_lmul (C : Cx G E cc nL own Ts ret rm) {x y : Int64} (d : decode cc pc = .ok (.lmul, 1)) (kk : Wo G E nL rv o M (pc + 1) lv (.long (x * y) :: st)) : Wo G E nL rv o M pc lv (.long y :: .long x :: st) := fun r M' h H locs ls hP hS hl => lv_lmul C.1.1 C.1.2.1 d (kk r M' h H locs ls hP hS hl)
theorem ky_land (C : Cx G E cc nL own Ts ret rm) {x y : Int64} (d : decode cc pc = .ok (.land, 1)) (kk : Wo G E nL rv o M (pc + 1) lv (.long (x &&& y) :: st)) : Wo G E nL rv o M pc lv (.long y :: .long x :: st) := fun r M' h H locs ls hP hS hl => lv_land C.1.1 C.1.2.1 d (kk r M' h H locs ls hP hS hl)
theorem ky_lcmp (C : Cx G E cc nL own Ts ret rm) {x y : Int64} (d : decode cc pc = .ok (.lcmp, 1)) (kk : Wo G E nL rv o M (pc + 1) lv (.int (lg_cmp x y) :: st)) : Wo G E nL rv o M pc lv (.long y :: .long x :: st) := fun r M' h H locs ls hP hS hl => W.lcmp C.1.1 C.1.2.1 d (kk r M' h H locs ls hP hS hl)
theorem ky_i2l (C : Cx G E cc nL own Ts ret rm) {x : Int32} (d : decode cc pc = .ok (.i2l, 1)) (kk : Wo G E nL rv o M (pc + 1) lv (.long x.toInt64 :: st)) : Wo G E nL rv o M pc lv (.int x :: st) := fun r M' h H locs ls hP hS hl => lv_i2l C.1.1 C.1.2.1 d rfl (kk r M' h H locs ls hP hS hl)
theorem ky_l2i (C : Cx G E cc nL own Ts ret rm) {x : Int64} (d : decode cc pc = .ok (.l2i, 1)) (kk : Wo G E nL rv o M (pc + 1) lv (.int x.toInt32 :: st)) : Wo G E nL rv o M pc lv (.long x :: st) := fun r M' h H locs ls hP hS hl => lv_l2i C.1.1 C.1.2.1 d rfl (kk r M' h H locs ls hP hS hl)
theorem ky_i2c (C : Cx G E cc nL own Ts ret rm) {x : Int32} (d : decode cc pc = .ok (.i2c, 1)) (kk : Wo G E nL rv o M (pc + 1) lv (.int (x.toUInt32 % 65536).toInt32 :: st)) : Wo G E nL rv o M pc lv (.int x :: st) := fun r M' h H locs ls hP hS hl => lv_i2c C.1.1 C.1.2.1 d rfl (kk r M' h H locs ls hP hS hl)
theorem ky_dup (C : Cx G E cc nL own Ts ret rm) {a : Value} (d : decode cc pc = .ok (.dup, 1)) (ha : a.category = 1) (kk : Wo G E nL rv o M (pc + 1) lv (a :: a :: st)) : Wo G E nL rv o M pc lv (a :: st) := fun r M' h H locs ls hP hS hl => lv_dup C.1.1 C.1.2.1 d ha (kk r M' h H locs ls hP hS hl)
theorem ky_dup2 (C : Cx G E cc nL own Ts ret rm) {a b : Value} (d : decode cc pc = .ok (.dup2, 1)) (ha : a.category = 1) (hb : b.category = 1) (kk : Wo G E nL rv o M (pc + 1) lv (a :: b :: a :: b :: st)) : Wo G E nL rv o M pc lv (a :: b :: st) := fun r M' h H locs ls hP hS hl => lv_dup2_11 C.1.1 C.1.2.1 d ha hb (kk r M' h H locs ls hP hS hl)
theorem ky_pop (C : Cx G E cc nL own Ts ret rm) {a : Value} (d : decode cc pc = .ok (.pop, 1)) (ha : a.category = 1) (kk : Wo G E nL rv o M (pc + 1) lv st) : Wo G E nL rv o M pc lv (a :: st) := fun r M' h H locs ls hP hS hl => lv_pop C.1.1 C.1.2.1 d ha (kk r M' h H locs ls hP hS hl)
theorem ky_goto (C : Cx G E cc nL own Ts ret rm) {off : Int} (t : Nat) (d : decode cc pc = .ok (.goto off, 3)) (ht : (pc : Int) + off = (t : Int)) (kk : Wo G E nL rv o M t lv st) : Wo G E nL rv o M pc lv st := fun r M' h H locs ls hP hS hl => lv_goto C.1.1 C.1.2.1 d ht (kk r M' h H locs ls hP hS hl)
theorem ky_if_eq (C : Cx G E cc nL own Ts ret rm) {off : Int} {x : Int32} (t : Nat) (d : decode cc pc = .ok (.ifCond .eq off, 3)) (ht : (pc : Int) + off = (t : Int)) (k1 : Wo G E nL rv o1 M t lv st) (k2 : Wo G E nL rv o2 M (pc + 3) lv st) : Wo G E nL rv (if x = 0 then o1 else o2) M pc lv (.int x :: st) := fun r M' h H locs ls hP hS hl => lv_if_eq C.1.1 C.1.2.1 d ht (fun hc => k1 r M' (by rw [if_pos hc] at h; exact h) H locs ls hP hS hl) (fun hc => k2 r M' (by rw [if_neg hc] at h; exact h) H locs ls hP hS hl)
theorem ky_icmp_eq (C : Cx G E cc nL own Ts ret rm) {off : Int} {x y : Int32} (t : Nat) (d : decode cc pc = .ok (.if_icmp .eq off, 3)) (ht : (pc : Int) + off = (t : Int)) (k1 : Wo G E nL rv o1 M t lv st) (k2 : Wo G E nL rv o2 M (pc + 3) lv st) : Wo G E nL rv (if x = y then o1 else o2) M pc lv (.int y :: .int x :: st) := fun r M' h H locs ls hP hS hl => lv_icmp_eq C.1.1 C.1.2.1 d ht (fun hc => k1 r M' (by rw [if_pos hc] at h; exact h) H locs ls hP hS hl) (fun hc => k2 r M' (by rw [if_neg hc] at h; exact h) H locs ls hP hS hl)
theorem ky_if_ne (C : Cx G E cc nL own Ts ret rm) {off : Int} {x : Int32} (t : Nat) (d : decode cc pc = .ok (.ifCond .ne off, 3)) (ht : (pc : Int) + off = (t : Int)) (k1 : Wo G E nL rv o1 M (pc + 3) lv st) (k2 : Wo G E nL rv o2 M t lv st) : Wo G E nL rv (if x = 0 then o1 else o2) M pc lv (.int x :: st) := fun r M' h H locs ls hP hS hl => lv_if_ne C.1.1 C.1.2.1 d ht (fun hc => k2 r M' (by rw [if_neg hc] at h; exact h) H locs ls hP hS hl) (fun hc => k1 r M' (by rw [if_pos hc] at h; exact h) H locs ls hP hS hl)
theorem ky_icmp_ne (C : Cx G E cc nL own Ts ret rm) {off : Int} {x y : Int32} (t : Nat) (d : decode cc pc = .ok (.if_icmp .ne off, 3)) (ht : (pc : Int) + off = (t : Int)) (k1 : Wo G E nL rv o1 M (pc + 3) lv st) (k2 : Wo G E nL rv o2 M t lv st) : Wo G E nL rv (if x = y then o1 else o2) M pc lv (.int y :: .int x :: st) := fun r M' h H locs ls hP hS hl => lv_icmp_ne C.1.1 C.1.2.1 d ht (fun hc => k2 r M' (by rw [if_neg hc] at h; exact h) H locs ls hP hS hl) (fun hc => k1 r M' (by rw [if_pos hc] at h; exact h) H locs ls hP hS hl)
theorem ky_if_lt (C : Cx G E cc nL own Ts ret rm) {off : Int} {x : Int32} (t : Nat) (d : decode cc pc = .ok (.ifCond .lt off, 3)) (ht : (pc : Int) + off = (t : Int)) (k1 : Wo G E nL rv o1 M t lv st) (k2 : Wo G E nL rv o2 M (pc + 3) lv st) : Wo G E nL rv (if x < 0 then o1 else o2) M pc lv (.int x :: st) := fun r M' h H locs ls hP hS hl => lv_if_lt C.1.1 C.1.2.1 d ht (fun hc => k1 r M' (by rw [if_pos hc] at h; exact h) H locs ls hP hS hl) (fun hc => k2 r M' (by rw [if_neg hc] at h; exact h) H locs ls hP hS hl)
theorem ky_icmp_lt (C : Cx G E cc nL own Ts ret rm) {off : Int} {x y : Int32} (t : Nat) (d : decode cc pc = .ok (.if_icmp .lt off, 3)) (ht : (pc : Int) + off = (t : Int)) (k1 : Wo G E nL rv o1 M t lv st) (k2 : Wo G E nL rv o2 M (pc + 3) lv st) : Wo G E nL rv (if x < y then o1 else o2) M pc lv (.int y :: .int x :: st) := fun r M' h H locs ls hP hS hl => lv_icmp_lt C.1.1 C.1.2.1 d ht (fun hc => k1 r M' (by rw [if_pos hc] at h; exact h) H locs ls hP hS hl) (fun hc => k2 r M' (by rw [if_neg hc] at h; exact h) H locs ls hP hS hl)
theorem ky_if_ge (C : Cx G E cc nL own Ts ret rm) {off : Int} {x : Int32} (t : Nat) (d : decode cc pc = .ok (.ifCond .ge off, 3)) (ht : (pc : Int) + off = (t : Int)) (k1 : Wo G E nL rv o1 M t lv st) (k2 : Wo G E nL rv o2 M (pc + 3) lv st) : Wo G E nL rv (if 0 ≤ x then o1 else o2) M pc lv (.int x :: st) := fun r M' h H locs ls hP hS hl => lv_if_ge C.1.1 C.1.2.1 d ht (fun hc => k1 r M' (by rw [if_pos hc] at h; exact h) H locs ls hP hS hl) (fun hc => k2 r M' (by rw [if_neg hc] at h; exact h) H locs ls hP hS hl)
theorem ky_icmp_ge (C : Cx G E cc nL own Ts ret rm) {off : Int} {x y : Int32} (t : Nat) (d : decode cc pc = .ok (.if_icmp .ge off, 3)) (ht : (pc : Int) + off = (t : Int)) (k1 : Wo G E nL rv o1 M t lv st) (k2 : Wo G E nL rv o2 M (pc + 3) lv st) : Wo G E nL rv (if y ≤ x then o1 else o2) M pc lv (.int y :: .int x :: st) := fun r M' h H locs ls hP hS hl => lv_icmp_ge C.1.1 C.1.2.1 d ht (fun hc => k1 r M' (by rw [if_pos hc] at h; exact h) H locs ls hP hS hl) (fun hc => k2 r M' (by rw [if_neg hc] at h; exact h) H locs ls hP hS hl)
theorem ky_if_gt (C : Cx G E cc nL own Ts ret rm) {off : Int} {x : Int32} (t : Nat) (d : decode cc pc = .ok (.ifCond .gt off, 3)) (ht : (pc : Int) + off = (t : Int)) (k1 : Wo G E nL rv o1 M t lv st) (k2 : Wo G E nL rv o2 M (pc + 3) lv st) : Wo G E nL rv (if 0 < x then o1 else o2) M pc lv (.int x :: st) := fun r M' h H locs ls hP hS hl => lv_if_gt C.1.1 C.1.2.1 d ht (fun hc => k1 r M' (by rw [if_pos hc] at h; exact h) H locs ls hP hS hl) (fun hc => k2 r M' (by rw [if_neg hc] at h; exact h) H locs ls hP hS hl)
theorem ky_icmp_gt (C : Cx G E cc nL own Ts ret rm) {off : Int} {x y : Int32} (t : Nat) (d : decode cc pc = .ok (.if_icmp .gt off, 3)) (ht : (pc : Int) + off = (t : Int)) (k1 : Wo G E nL rv o1 M t lv st) (k2 : Wo G E nL rv o2 M (pc + 3) lv st) : Wo G E nL rv (if y < x then o1 else o2) M pc lv (.int y :: .int x :: st) := fun r M' h H locs ls hP hS hl => lv_icmp_gt C.1.1 C.1.2.1 d ht (fun hc => k1 r M' (by rw [if_pos hc] at h; exact h) H locs ls hP hS hl) (fun hc => k2 r M' (by rw [if_neg hc] at h; exact h) H locs ls hP hS hl)
theorem ky_if_le (C : Cx G E cc nL own Ts ret rm) {off : Int} {x : Int32} (t : Nat) (d : decode cc pc = .ok (.ifCond .le off, 3)) (ht : (pc : Int) + off = (t : Int)) (k1 : Wo G E nL rv o1 M t lv st) (k2 : Wo G E nL rv o2 M (pc + 3) lv st) : Wo G E nL rv (if x ≤ 0 then o1 else o2) M pc lv (.int x :: st) := fun r M' h H locs ls hP hS hl => lv_if_le C.1.1 C.1.2.1 d ht (fun hc => k1 r M' (by rw [if_pos hc] at h; exact h) H locs ls hP hS hl) (fun hc => k2 r M' (by rw [if_neg hc] at h; exact h) H locs ls hP hS hl)
theorem ky_icmp_le (C : Cx G E cc nL own Ts ret rm) {off : Int} {x y : Int32} (t : Nat) (d : decode cc pc = .ok (.if_icmp .le off, 3)) (ht : (pc : Int) + off = (t : Int)) (k1 : Wo G E nL rv o1 M t lv st) (k2 : Wo G E nL rv o2 M (pc + 3) lv st) : Wo G E nL rv (if x ≤ y then o1 else o2) M pc lv (.int y :: .int x :: st) := fun r M' h H locs ls hP hS hl => lv_icmp_le C.1.1 C.1.2.1 d ht (fun hc => k1 r M' (by rw [if_pos hc] at h; exact h) H locs ls hP hS hl) (fun hc => k2 r M' (by rw [if_neg hc] at h; exact h) H locs ls hP hS hl)
/-- a switch: one row a case, the rest is the default -/
theorem ky_swIn (C : Cx G E cc nL own Ts ret rm) {dflt lo hi : Int} {offs : Array Int} {len : Nat} {x : Int32} (v : Int32) {off : Int} (t : Nat) (d : decode cc pc = .ok (.tableswitch dflt lo hi offs, len)) (h1 : ¬ v.toInt < lo) (h2 : ¬ hi < v.toInt) (ho : offs[(v.toInt - lo).toNat]? = some off) (ht : (pc : Int) + off = (t : Int)) (k1 : Wo G E nL rv o1 M t lv st) (k2 : ¬ x = v → Wo G E nL rv o2 M pc lv (.int x :: st)) : Wo G E nL rv (if x = v then o1 else o2) M pc lv (.int x :: st) := by
  intro r M' h H locs ls hP hS hl
  by_cases hc : x = v
  · rw [if_pos hc] at h
    subst hc
    exact lv_tableIn C.1.1 C.1.2.1 d h1 h2 ho ht (k1 r M' h H locs ls hP hS hl)
  · rw [if_neg hc] at h
    exact k2 hc r M' h H locs ls hP hS hl
theorem ky_swOut (C : Cx G E cc nL own Ts ret rm) {dflt lo hi : Int} {offs : Array Int} {len : Nat} {x : Int32} (t : Nat) (d : decode cc pc = .ok (.tableswitch dflt lo hi offs, len)) (hx : x.toInt < lo ∨ hi < x.toInt) (ht : (pc : Int) + dflt = (t : Int)) (k1 : Wo G E nL rv o M t lv st) : Wo G E nL rv o M pc lv (.int x :: st) := fun r M' h H locs ls hP hS hl => lv_tableOut C.1.1 C.1.2.1 d hx ht (k1 r M' h H locs ls hP hS hl)
/-- a field is read -/
theorem ky_get (C : Cx G E cc nL own Ts ret rm) {i ci n index : Nat} {CN ref : String} {T : u_T} {fl : (Nat → Int32) → Int64 → List Value} {v : Value} (hi : i < gN G) (cw : ∀ r h, gW G r h i = .inr (ci, fl r h)) (hc : vwCl[ci]? = some (CN, T, n)) (hin : ∀ w ∈ u_ws CN T n, w ∈ Ts) (k : Nat) (hk : k < n) (hm : Cond.fieldLink own index ref (T k).2.1 (T k).2.2.1 ∈ Ts) (hf : (T k).1 = ref) (hv : (fl (M.1 i) M.2)[k]? = some v) (d : decode cc pc = .ok (.getfield index, 3)) (kk : Wo G E nL rv o M (pc + 3) lv (v :: st)) : Wo G E nL rv o M pc lv (.ref (gA G i) :: st) := by
  intro r M' h H locs ls hP hS hl
  subst hf
  exact va_get (C := CN) (T := T) (N := n) C.1.1 C.1.2.1 C.1.2.2.2.2 hin C.1.2.2.2.1 C.2.2.2.1 hP i (by rw [wG_get hi, cw]) hc k hk (C.1.2.2.2.2 _ hm) (fun _ h9 => h9) hv d (kk r M' h H locs ls hP hS hl)
/-- a number is put into a field -/
theorem ky_put (C : Cx G E cc nL own Ts ret rm) {i ci n index : Nat} {CN ref : String} {T : u_T} {fl : (Nat → Int32) → Int64 → List Value} {x : Int32} {ty0 : Nat → FieldType} {ty : FieldType} {K : Mem → Option (ρ × Mem)} (hi : i < gN G) (cw : ∀ r h, gW G r h i = .inr (ci, fl r h)) (hc : vwCl[ci]? = some (CN, T, n)) (hin : ∀ w ∈ u_ws CN T n, w ∈ Ts) (hty : ∀ k, k < n → parseFieldDescriptor (T k).2.2.1 = some (ty0 k)) (hnm : ∀ a, a < n → ∀ b, b < n → a ≠ b → (T a).2.1 ≠ (T b).2.1) (k : Nat) (hk : k < n) (hm : Cond.fieldLink own index ref (T k).2.1 (T k).2.2.1 ∈ Ts) (hf : (T k).1 = ref ∧ (T k).2.2.2 = false) (hd : parseFieldDescriptor (T k).2.2.1 = some ty) (hn : narrow ty (.int x) = .int x) (hfit : fits ty (.int x) = true) (hl0 : k < (fl (M.1 i) M.2).length) (hset : fl (upd (M.1 i) k x) M.2 = (fl (M.1 i) M.2).set k (.int x)) (d : decode cc pc = .ok (.putfield index, 3)) (kk : ∀ M1 : Mem, Wo G E nL rv (K M1) M1 (pc + 3) lv st) : Wo G E nL rv (nm (u2 M i k x) K) M pc lv (.int x :: .ref (gA G i) :: st) := by
  intro r M' h H locs ls hP hS hl
  obtain ⟨hf, hfin⟩ := hf
  subst hf
  refine va_put (C := CN) (T := T) (N := n) C.1.1 C.1.2.1 C.1.2.2.2.2 hin ty0 hty hnm C.1.2.2.2.1 C.2.2.2.1 hP (wG_D C.2.2.2.2.2.2) hS i (by rw [wG_get hi, cw]) hc k hk (C.1.2.2.2.2 _ hm) (fun _ h9 => h9) hfin hd hn hfit hl0 d (fun H1 locs1 hP1 hD1 hS1 => ?_)
  rw [wG_u2 (k := k) (x := x) hi (by rw [cw, hset])] at hP1
  exact kk _ r M' h H1 locs1 ls hP1 hS1 hl
/-- a long is put into a field -/
theorem ky_putl (C : Cx G E cc nL own Ts ret rm) {i ci n index : Nat} {CN ref : String} {T : u_T} {fl : (Nat → Int32) → Int64 → List Value} {x : Int64} {ty0 : Nat → FieldType} {K : Mem → Option (ρ × Mem)} (hi : i < gN G) (cw : ∀ r h, gW G r h i = .inr (ci, fl r h)) (hoth : ∀ r h h' j, j < gN G → j ≠ i → gW G r h j = gW G r h' j) (hc : vwCl[ci]? = some (CN, T, n)) (hin : ∀ w ∈ u_ws CN T n, w ∈ Ts) (hty : ∀ k, k < n → parseFieldDescriptor (T k).2.2.1 = some (ty0 k)) (hnm : ∀ a, a < n → ∀ b, b < n → a ≠ b → (T a).2.1 ≠ (T b).2.1) (k : Nat) (hk : k < n) (hm : Cond.fieldLink own index ref (T k).2.1 (T k).2.2.1 ∈ Ts) (hf : (T k).1 = ref ∧ (T k).2.2.2 = false) (hd : parseFieldDescriptor (T k).2.2.1 = some .long) (hl0 : k < (fl (M.1 i) M.2).length) (hset : fl (M.1 i) x = (fl (M.1 i) M.2).set k (.long x)) (d : decode cc pc = .ok (.putfield index, 3)) (kk : ∀ M1 : Mem, Wo G E nL rv (K M1) M1 (pc + 3) lv st) : Wo G E nL rv (nm (uh M x) K) M pc lv (.long x :: .ref (gA G i) :: st) := by
  intro r M' h H locs ls hP hS hl
  obtain ⟨hf, hfin⟩ := hf
  subst hf
  refine va_put (C := CN) (T := T) (N := n) (ty := .long) (v := .long x) C.1.1 C.1.2.1 C.1.2.2.2.2 hin ty0 hty hnm C.1.2.2.2.1 C.2.2.2.1 hP (wG_D C.2.2.2.2.2.2) hS i (by rw [wG_get hi, cw]) hc k hk (C.1.2.2.2.2 _ hm) (fun _ h9 => h9) hfin hd rfl rfl hl0 d (fun H1 locs1 hP1 hD1 hS1 => ?_)
  rw [wG_set (M := M) (M' := uh M x) (e := .inr (ci, (fl (M.1 i) M.2).set k (.long x))) hi (by show gW G (M.1 i) x i = _; rw [cw, hset]) (fun j hj hji => hoth _ _ _ j hj hji)] at hP1
  exact kk _ r M' h H1 locs1 ls hP1 hS1 hl
/-- arrays of ints and chars -/
theorem ky_iald (C : Cx G E cc nL own Ts ret rm) {i n t0 : Nat} {cA : ClassId} {x : Int32} (hi : i < gN G) (cw : ∀ r h, gW G r h i = .inl (cA, n, .inl r)) (ht : (gT G)[t0]? = some (cA, .int)) (d : decode cc pc = .ok (.iaload, 1)) (kk : vp_in x n → Wo G E nL rv o M (pc + 1) lv (.int (M.1 i x.toNatClampNeg) :: st)) : Wo G E nL rv (gi x n o) M pc lv (.int x :: .ref (gA G i) :: st) := by
  intro r M' h H locs ls hP hS hl
  obtain ⟨hx, h⟩ := gi_some h
  exact va_iald C.1.1 C.1.2.1 C.2.2.2.1 hP i t0 (by rw [wG_get hi, cw]) ht hx d (kk hx r M' h H locs ls hP hS hl)
theorem ky_cald (C : Cx G E cc nL own Ts ret rm) {i n t0 : Nat} {cA : ClassId} {x : Int32} (hi : i < gN G) (cw : ∀ r h, gW G r h i = .inl (cA, n, .inl r)) (ht : (gT G)[t0]? = some (cA, .char)) (d : decode cc pc = .ok (.caload, 1)) (kk : vp_in x n → Wo G E nL rv o M (pc + 1) lv (.int (M.1 i x.toNatClampNeg) :: st)) : Wo G E nL rv (gi x n o) M pc lv (.int x :: .ref (gA G i) :: st) := by
  intro r M' h H locs ls hP hS hl
  obtain ⟨hx, h⟩ := gi_some h
  exact va_cald C.1.1 C.1.2.1 C.2.2.2.1 hP i t0 (by rw [wG_get hi, cw]) ht hx d (kk hx r M' h H locs ls hP hS hl)
theorem ky_iast (C : Cx G E cc nL own Ts ret rm) {i n t0 : Nat} {cA : ClassId} {x y : Int32} {K : Mem → Option (ρ × Mem)} (hi : i < gN G) (cw : ∀ r h, gW G r h i = .inl (cA, n, .inl r)) (ht : (gT G)[t0]? = some (cA, .int)) (d : decode cc pc = .ok (.iastore, 1)) (kk : ∀ M1 : Mem, vp_in x n → Wo G E nL rv (K M1) M1 (pc + 1) lv st) : Wo G E nL rv (gi x n (nm (u2 M i x.toNatClampNeg y) K)) M pc lv (.int y :: .int x :: .ref (gA G i) :: st) := by
  intro r M' h H locs ls hP hS hl
  obtain ⟨hx, h⟩ := gi_some h
  refine va_iast C.1.1 C.1.2.1 C.2.2.2.1 hP (wG_D C.2.2.2.2.2.2) hS i t0 (by rw [wG_get hi, cw]) ht hx d (fun H1 locs1 hP1 hD1 hS1 => ?_)
  rw [wG_u2 (k := x.toNatClampNeg) (x := y) hi (by rw [cw])] at hP1
  exact kk _ hx r M' h H1 locs1 ls hP1 hS1 hl
theorem ky_cast (C : Cx G E cc nL own Ts ret rm) {i n t0 : Nat} {cA : ClassId} {x y : Int32} {K : Mem → Option (ρ × Mem)} (hi : i < gN G) (cw : ∀ r h, gW G r h i = .inl (cA, n, .inl r)) (ht : (gT G)[t0]? = some (cA, .char)) (d : decode cc pc = .ok (.castore, 1)) (kk : ∀ M1 : Mem, vp_in x n → Wo G E nL rv (K M1) M1 (pc + 1) lv st) : Wo G E nL rv (gi x n (nm (u2 M i x.toNatClampNeg (vp_nar .char y)) K)) M pc lv (.int y :: .int x :: .ref (gA G i) :: st) := by
  intro r M' h H locs ls hP hS hl
  obtain ⟨hx, h⟩ := gi_some h
  refine va_cast C.1.1 C.1.2.1 C.2.2.2.1 hP (wG_D C.2.2.2.2.2.2) hS i t0 (by rw [wG_get hi, cw]) ht hx d (fun H1 locs1 hP1 hD1 hS1 => ?_)
  rw [wG_u2 (k := x.toNatClampNeg) (x := vp_nar .char y) hi (by rw [cw])] at hP1
  exact kk _ hx r M' h H1 locs1 ls hP1 hS1 hl
theorem ky_alen (C : Cx G E cc nL own Ts ret rm) {i n t0 : Nat} {cA : ClassId} {ty : FieldType} (v : Int32) (hi : i < gN G) (cw : ∀ r h, gW G r h i = .inl (cA, n, .inl r)) (ht : (gT G)[t0]? = some (cA, ty)) (hv : Int32.ofNat n = v) (d : decode cc pc = .ok (.arraylength, 1)) (kk : Wo G E nL rv o M (pc + 1) lv (.int v :: st)) : Wo G E nL rv o M pc lv (.ref (gA G i) :: st) := by
  intro r M' h H locs ls hP hS hl
  exact va_alen C.1.1 C.1.2.1 C.2.2.2.1 hP i t0 (x := (n, .inl (M.1 i))) (by rw [wG_get hi, cw]) ht hv d (kk r M' h H locs ls hP hS hl)
/-- arrays of references -/
theorem ky_aald (C : Cx G E cc nL own Ts ret rm) {i n t0 : Nat} {cA : ClassId} {CN : String} {x : Int32} {f : Nat → Nat} (hi : i < gN G) (cw : ∀ r h, gW G r h i = .inl (cA, n, .inr (.inr (.inr (.inr (fun j => some (gA G (f j)))))))) (ht : (gT G)[t0]? = some (cA, .object CN)) (d : decode cc pc = .ok (.aaload, 1)) (kk : vp_in x n → Wo G E nL rv o M (pc + 1) lv (.ref (gA G (f x.toNatClampNeg)) :: st)) : Wo G E nL rv (gi x n o) M pc lv (.int x :: .ref (gA G i) :: st) := by
  intro r M' h H locs ls hP hS hl
  obtain ⟨hx, h⟩ := gi_some h
  exact va_aldq (f := fun j => some (gA G (f j))) C.1.1 C.1.2.1 C.2.2.2.1 hP i t0 (by rw [wG_get hi, cw]) ht hx d (kk hx r M' h H locs ls hP hS hl)
/-- ends -/
theorem ky_iret (C : Cx G E cc nL own Ts (some .int) rm) {x : Int32} (d : decode cc pc = .ok (.ireturn, 1)) : Wo G E nL rI (some (x, M)) M pc lv [.int x] := by
  intro r M' h H locs ls hP hS hl
  cases h
  exact W.iret C.1.1 C.1.2.1 C.2.1 (fun t ht hW => ⟨rfl, by rw [ht]; exact hP, hS.F ht⟩) hS.2.2 d C.2.2.1
theorem ky_zret (C : Cx G E cc nL own Ts (some .boolean) rm) {x : Int32} (hx : narrow .boolean (.int x) = .int x) (d : decode cc pc = .ok (.ireturn, 1)) : Wo G E nL rI (some (x, M)) M pc lv [.int x] := by
  intro r M' h H locs ls hP hS hl
  cases h
  exact W.zret C.1.1 C.1.2.1 C.2.1 hx (fun t ht hW => ⟨rfl, by rw [ht]; exact hP, hS.F ht⟩) hS.2.2 d C.2.2.1
theorem ky_zretG (C : Cx G E cc nL own Ts (some .boolean) rm) {x : Int32} (d : decode cc pc = .ok (.ireturn, 1)) : Wo G E nL rI (gb x (some (x, M))) M pc lv [.int x] := by
  intro r M' h
  obtain ⟨hx, h⟩ := gb_some h
  refine ky_zret C ?_ d r M' h
  rcases hx with rfl | rfl <;> decide
theorem ky_lret (C : Cx G E cc nL own Ts (some .long) rm) {x : Int64} (d : decode cc pc = .ok (.lreturn, 1)) : Wo G E nL rL (some (x, M)) M pc lv [.long x] := by
  intro r M' h H locs ls hP hS hl
  cases h
  exact W.lret C.1.1 C.1.2.1 C.2.1 (fun t ht hW => ⟨rfl, by rw [ht]; exact hP, hS.F ht⟩) hS.2.2 d C.2.2.1
theorem ky_vret (C : Cx G E cc nL own Ts none rm) (d : decode cc pc = .ok (.return_, 1)) : Wo G E nL rV (some ((), M)) M pc lv [] := by
  intro r M' h H locs ls hP hS hl
  cases h
  exact W.vret C.1.1 C.1.2.1 C.2.1 (fun t ht hW => ⟨rfl, by rw [ht]; exact hP, hS.F ht⟩) hS.2.2 d C.2.2.1
end KYS
theorem wl_word {w : Cond} (h : w ∈ wA) : goodWord w = true := (List.mem_filter.mp h).2
theorem wY_in {y : MethodName} {cc : ByteArray} {nL : Nat} {ret : Option FieldType} {w : Cond} (h : w ∈ wA) : w ∈ wY y cc nL ret := List.mem_cons_of_mem _ h
theorem wY_good {y y' : MethodName} {cc cc' : ByteArray} {nL nL' : Nat} {ret ret' : Option FieldType} (h5 : Cond.code y' cc' nL' ret' ∈ wA) : GoodIn (wY y cc nL ret) (wY y' cc' nL' ret') := by
  intro w hw
  have : w ∈ wA := (List.mem_cons.mp hw).elim (fun e => e ▸ h5) id
  exact ⟨wY_in this, good_of_word (wl_word this)⟩
theorem wY_goodV {y y' : MethodName} {cc cc' : ByteArray} {nL nL' idx : Nat} {ret ret' : Option FieldType} {own C : String} (h1 : Cond.methodLink own idx y' ∈ wA) (h2 : Cond.instanceMethod y' ∈ wA) (h3 : Cond.selects C y' y' ∈ wA) (h4 : Cond.initialized C ∈ wA) (h5 : Cond.code y' cc' nL' ret' ∈ wA) : GoodIn (wY y cc nL ret) (wsV own idx C y' (wY y' cc' nL' ret')) := by
  intro w hw
  unfold wsV at hw
  rcases List.mem_append.mp hw with h | h
  · have : w ∈ wA := by
      simp only [List.mem_cons, List.not_mem_nil, or_false] at h
      rcases h with rfl | rfl | rfl | rfl <;> assumption
    exact ⟨wY_in this, good_of_word (wl_word this)⟩
  · exact wY_good h5 w h
theorem wY_goodS {y y' : MethodName} {cc cc' : ByteArray} {nL nL' idx : Nat} {ret ret' : Option FieldType} {own : String} (h1 : Cond.methodLink own idx y' ∈ wA) (h2 : Cond.static y' ∈ wA) (h4 : Cond.initialized y'.cls ∈ wA) (h5 : Cond.code y' cc' nL' ret' ∈ wA) : GoodIn (wY y cc nL ret) (va_wsS own idx y' (wY y' cc' nL' ret')) := by
  intro w hw
  unfold va_wsS at hw
  rcases List.mem_append.mp hw with h | h
  · have : w ∈ wA := by
      simp only [List.mem_cons, List.not_mem_nil, or_false] at h
      rcases h with rfl | rfl | rfl <;> assumption
    exact ⟨wY_in this, good_of_word (wl_word this)⟩
  · exact wY_good h5 w h
section KYC
variable {ρ ρ' : Type} {G : KyG} {E : KyE} {cc : ByteArray} {nL : Nat} {own : String} {Ts : List Cond} {ret : Option FieldType} {rm : Room} {rv : ρ → Option Value} {o : Option (ρ × Mem)} {M : Mem} {pc : Nat} {lv : List (Nat × Value)} {st st0 : List Value}
theorem ky_after {H : Heap} {locs : List Loc} {ls : Array Slot} {a : Array Value} {M1 : Mem} {v : Option Value} {Q : State → Prop} (hr : va_Run E.1 (gL G) E.2.1 E.2.2.2.2.2.2.2.2 E.2.2.1 E.2.2.2.1 E.2.2.2.2.1 E.2.2.2.2.2.1 E.2.2.2.2.2.2.1 E.2.2.2.2.2.2.2.1 H locs 0 0 0 0 (F0 E.2.2.2.1 pc ls st0) st (Qr G v M1 a) (aG G)) (hS : va_S (aG G) E.2.2.1.heap H locs)
    (kk : ∀ (H1 : Heap) (locs1 : List Loc), va_P (gD G) vwCl (wG G M1) H1 → va_S (aG G) E.2.2.1.heap H1 locs1 → WE G E H1 locs1 Q (F0 E.2.2.2.1 (pc + 3) ls (v.toList ++ st))) : WE G E H locs Q (F0 E.2.2.2.1 pc ls st0) := by
  intro T hT X
  obtain ⟨v', st₀, t, T', L, h0, X', hL, e1, e2, ⟨hv, hP, hz, hk⟩, stp⟩ := hr T hT X
  cases hv
  rw [h0] at hz hk
  obtain ⟨t2, a1, b1⟩ := kk T'.heap (locs ++ L) (by rw [e1]; exact hP)
    ⟨Nat.le_trans hS.1 (by rw [e1]; exact hz), fun q h1 h2 => by rw [e1, hk q (Nat.lt_of_lt_of_le h1 hS.1) h2]; exact hS.2.1 q h1 h2, fun q hq => by
      rcases List.mem_append.mp hq with h | h
      · exact hS.2.2 q h
      · exact hL q h⟩ T' rfl X'
  exact ⟨t2, stp t2 a1, b1⟩
theorem ky_blind {av : List Value} (hG : GOK G) : FrameBlind (va_Pc av (fun U => va_P (gD G) vwCl (wG G M) U.heap ∧ va_K (gD G) vwCl (gT G) U ∧ gX G U)) := by
  intro a U g mk q
  obtain ⟨q0, q1, q2, q3⟩ := q
  exact ⟨q0, q1, va_K.moved (u := U) (U := U.calling g mk a) (Vm.Alike.refl U.vm) q2, hG.2.1 U (U.calling g mk a) rfl rfl q3⟩
theorem ky_bd {oc : Option (ρ' × Mem)} {K : ρ' → Mem → Option (ρ × Mem)} {q : ρ × Mem} (h : bd oc K = some q) : ∃ r M1, oc = some (r, M1) ∧ K r M1 = some q := by
  cases oc with
  | none => cases h
  | some p => exact ⟨p.1, p.2, rfl, h⟩
theorem ky_callV0 {y0 : MethodName} {c0 : ByteArray} {n0 : Nat} {r0 : Option FieldType} (C : Cx G E cc nL own (wY y0 c0 n0 r0) ret rm) {rv' : ρ' → Option Value} {oc : Option (ρ' × Mem)} {K : ρ' → Mem → Option (ρ × Mem)} {y' : MethodName} {cc' : ByteArray} {nL' index n : Nat} {ret' : Option FieldType} {rm' : Room} {As : List Value} {i ci N' : Nat} {CN : String} {T : u_T} {fl : (Nat → Int32) → Int64 → List Value} (hM : Ct G y' (wY y' cc' nL' ret') rm' rv' (.ref (gA G i) :: As) oc M) (hi : i < gN G) (cw : ∀ r h, gW G r h i = .inr (ci, fl r h)) (hc : vwCl[ci]? = some (CN, T, N')) (hg : GoodIn (wY y0 c0 n0 r0) (wsV own index CN y' (wY y' cc' nL' ret')))
    (hd : y'.cls = CN ∧ y'.cls ≠ "java/lang/invoke/MethodHandle" ∧ y'.cls ≠ "java/lang/invoke/VarHandle" ∧ (parseMethodDescriptor y'.desc).map (fun d => d.parameters.length) = some n) (hrm : rm'.cells = 0 ∧ rm'.slots = 0 ∧ rm'.frames + 1 ≤ rm.frames ∧ 8 + (nL' + 11) + rm'.locals ≤ rm.locals) (hn : As.length = n) (hst : st0 = As.reverse ++ .ref (gA G i) :: st) (hroom : (st.map fun v => v.category).sum ≤ 8) (d : decode cc pc = .ok (.invokevirtual index, 3))
    (kk : ∀ (r : ρ') (M1 : Mem), Wo G E nL rv (K r M1) M1 (pc + 3) lv ((rv' r).toList ++ st)) : Wo G E nL rv (bd oc K) M pc lv st0 := by
  intro r M' h H locs ls hP hS hl
  obtain ⟨r1, M1, rfl, h⟩ := ky_bd h
  subst hst
  obtain ⟨C1, C2, C3, C4, C5, C6, C7⟩ := C
  refine ky_after (va_runV (As := As) (rest := st) C1 (hM r1 M1 rfl) (cwV n C1.2.2.2.2 hg rfl hrm.1 hrm.2.1 hd (by rw [C6]; exact hrm.2.2)) ⟨ky_blind C7, va_recv C4 hP hc (by rw [wG_get hi, cw]), fun U hU hW => ⟨rfl, by rw [hU]; exact hP, va_K.moved hW.alike C4, C7.2.2 _ U hW (fun q h1 h2 => by rw [hU]; exact hS.2.1 q h1 h2) C5⟩⟩ rfl hn hl.1 rfl (lv_room hroom) d ⟨Nat.zero_le _, Nat.zero_le _⟩) hS (fun H1 locs1 hP1 hS1 => ?_)
  exact kk r1 M1 r M' h H1 locs1 ls hP1 hS1 hl
theorem ky_callS0 {y0 : MethodName} {c0 : ByteArray} {n0 : Nat} {r0 : Option FieldType} (C : Cx G E cc nL own (wY y0 c0 n0 r0) ret rm) {rv' : ρ' → Option Value} {oc : Option (ρ' × Mem)} {K : ρ' → Mem → Option (ρ × Mem)} {y' : MethodName} {cc' : ByteArray} {nL' index n : Nat} {ret' : Option FieldType} {rm' : Room} {As : List Value} (hM : Ct G y' (wY y' cc' nL' ret') rm' rv' As oc M) (hg : GoodIn (wY y0 c0 n0 r0) (va_wsS own index y' (wY y' cc' nL' ret')))
    (hd : y'.cls ≠ "java/lang/invoke/MethodHandle" ∧ y'.cls ≠ "java/lang/invoke/VarHandle" ∧ (parseMethodDescriptor y'.desc).map (fun d => d.parameters.length) = some n) (hrm : rm'.cells = 0 ∧ rm'.slots = 0 ∧ rm'.frames + 1 ≤ rm.frames ∧ 8 + (nL' + 11) + rm'.locals ≤ rm.locals) (hn : As.length = n) (hst : st0 = As.reverse ++ st) (hroom : (st.map fun v => v.category).sum ≤ 8) (d : decode cc pc = .ok (.invokestatic index, 3))
    (kk : ∀ (r : ρ') (M1 : Mem), Wo G E nL rv (K r M1) M1 (pc + 3) lv ((rv' r).toList ++ st)) : Wo G E nL rv (bd oc K) M pc lv st0 := by
  intro r M' h H locs ls hP hS hl
  obtain ⟨r1, M1, rfl, h⟩ := ky_bd h
  subst hst
  obtain ⟨C1, C2, C3, C4, C5, C6, C7⟩ := C
  refine ky_after (va_runS (As := As) (rest := st) C1 (hM r1 M1 rfl) (va_cwS n C1.2.2.2.2 hg rfl hrm.1 hrm.2.1 hd (by rw [C6]; exact hrm.2.2)) ⟨ky_blind C7, fun U hU hW => ⟨rfl, by rw [hU]; exact hP, va_K.moved hW.alike C4, C7.2.2 _ U hW (fun q h1 h2 => by rw [hU]; exact hS.2.1 q h1 h2) C5⟩⟩ rfl hn hl.1 rfl (lv_room hroom) d ⟨Nat.zero_le _, Nat.zero_le _⟩) hS (fun H1 locs1 hP1 hS1 => ?_)
  exact kk r1 M1 r M' h H1 locs1 ls hP1 hS1 hl
/-- Math.min -/
theorem ky_mmin {y0 : MethodName} {c0 : ByteArray} {n0 : Nat} {r0 : Option FieldType} (C : Cx G E cc nL own (wY y0 c0 n0 r0) ret rm) {index : Nat} {x y : Int32} (h1 : Cond.methodLink own index Lib.Math.min.name ∈ wA) (h2 : Cond.static Lib.Math.min.name ∈ wA) (h3 : Cond.initialized "java/lang/Math" ∈ wA) (h4 : Cond.code Lib.Math.min.name Lib.Math.min.code 2 (some .int) ∈ wA) (hf : 1 ≤ rm.frames) (hroom : (st.map fun v => v.category).sum + 13 ≤ rm.locals) (d : decode cc pc = .ok (.invokestatic index, 3)) (kk : Wo G E nL rv o M (pc + 3) lv (.int (if y < x then y else x) :: st)) : Wo G E nL rv o M pc lv (.int y :: .int x :: st) := by
  intro r M' h H locs ls hP hS hl
  obtain ⟨C1, C2, C3, C4, C5, C6, C7⟩ := C
  exact va_mmin C1.1 C1.2.1 (by rw [C1.2.2.1]; exact hl.1.symm) C1.2.2.2.1 (C1.2.2.2.2 _ (wY_in h1)) (C1.2.2.2.2 _ (wY_in h2)) (C1.2.2.2.2 _ (wY_in h3)) (C1.2.2.2.2 _ (wY_in h4)) (by rw [C6]; exact hf) (by rw [C6]; exact hroom) (Nat.zero_le _) (Nat.zero_le _) d (kk r M' h H locs ls hP hS hl)
end KYC
