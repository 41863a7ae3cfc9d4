/-! SHARE: the most that can be shared out is the least cut -/
def dc (r : Nat → Nat) (c : Nat) : Nat → Nat := fun i => if i = c then r i - 1 else r i
def wS (S : Nat → Bool) (r : Nat → Nat) (n : Nat) : Nat := sm (fun c => if S c = true then r c else 0) n
def hit (L : Nat → Nat → Bool) (S : Nat → Bool) (j : Nat) : Nat → Bool
  | 0 => false
  | c + 1 => hit L S j c || (!S c && L c j)
def hits (n : Nat) (L : Nat → Nat → Bool) (S : Nat → Bool) : Nat → Nat → Nat
  | 0, _ => 0
  | d + 1, k => (hit L S k n).toNat + hits n L S d (k + 1)
def cutN (n : Nat) (L : Nat → Nat → Bool) (d k : Nat) (r : Nat → Nat) (S : Nat → Bool) : Nat := wS S r n + hits n L S d k
def Ach (n : Nat) (L : Nat → Nat → Bool) : Nat → Nat → (Nat → Nat) → Nat → Prop
  | 0, _, _, m => m = 0
  | d + 1, k, r, m => Ach n L d (k + 1) r m ∨ ∃ c m', c < n ∧ L c k = true ∧ 0 < r c ∧ m = m' + 1 ∧ Ach n L d (k + 1) (dc r c) m'
theorem hit_iff {L : Nat → Nat → Bool} {S : Nat → Bool} {j : Nat} : ∀ n, hit L S j n = true ↔ ∃ c, c < n ∧ S c = false ∧ L c j = true
  | 0 => ⟨fun h => absurd (show false = true from h) (by decide), fun ⟨c, h, _⟩ => absurd h (by omega)⟩
  | n + 1 => by
    have ih := hit_iff (L := L) (S := S) (j := j) n
    unfold hit
    rw [Bool.or_eq_true, ih, Bool.and_eq_true, Bool.not_eq_true']
    constructor
    · rintro (⟨c, h1, h2⟩ | h)
      · exact ⟨c, by omega, h2⟩
      · exact ⟨n, by omega, h⟩
    · rintro ⟨c, h1, h2⟩
      by_cases e : c = n
      · subst e; exact Or.inr h2
      · exact Or.inl ⟨c, by omega, h2⟩
theorem wS_0 {r : Nat → Nat} : ∀ n, wS (fun _ => false) r n = 0
  | 0 => rfl
  | n + 1 => by
    have := wS_0 (r := r) n
    unfold wS at this ⊢
    simp only [sm]
    rw [this]; rfl
theorem wS_s {S : Nat → Bool} {r : Nat → Nat} {n : Nat} : wS S r (n + 1) = wS S r n + (if S n = true then r n else 0) := rfl
theorem wS_out {S : Nat → Bool} {r : Nat → Nat} {c : Nat} (h : S c = false) : ∀ n, wS S (dc r c) n = wS S r n := fun n => by
  refine sm_congr n (fun i _ => ?_)
  by_cases e : i = c
  · subst e; rw [h]; rfl
  · show (if S i = true then (if i = c then r i - 1 else r i) else 0) = _
    rw [if_neg e]
theorem wS_in {S : Nat → Bool} {r : Nat → Nat} {c : Nat} (h : S c = true) (h0 : 0 < r c) : ∀ n, c < n → wS S (dc r c) n + 1 = wS S r n
  | 0, hc => by omega
  | n + 1, hc => by
    rw [wS_s, wS_s]
    by_cases e : c = n
    · subst e
      have : wS S (dc r c) c = wS S r c := sm_congr c (fun i hi => by
        show (if S i = true then (if i = c then r i - 1 else r i) else 0) = _
        rw [if_neg (show ¬ i = c by omega)])
      rw [this, if_pos h, if_pos h, show dc r c c = r c - 1 from if_pos rfl]
      omega
    · have ih := wS_in h h0 n (by omega)
      rw [show dc r c n = r n from if_neg (fun q => e q.symm)]
      omega
theorem wS_sub {S S' : Nat → Bool} {r : Nat → Nat} : ∀ n, wS (fun c => S c || S' c) r n + wS (fun c => S c && S' c) r n = wS S r n + wS S' r n
  | 0 => rfl
  | n + 1 => by
    have ih := wS_sub (S := S) (S' := S') (r := r) n
    rw [wS_s, wS_s, wS_s, wS_s]
    show _ + (if (S n || S' n) = true then r n else 0) + (_ + (if (S n && S' n) = true then r n else 0)) = _
    cases S n <;> cases S' n <;> simp <;> omega
section SH
variable {n : Nat} {L : Nat → Nat → Bool}
theorem hit_sub (S S' : Nat → Bool) (j : Nat) : (hit L (fun c => S c || S' c) j n).toNat + (hit L (fun c => S c && S' c) j n).toNat ≤ (hit L S j n).toNat + (hit L S' j n).toNat := by
  have a1 : hit L (fun c => S c || S' c) j n = true → hit L S j n = true ∧ hit L S' j n = true := fun h => by
    obtain ⟨c, h1, h2, h3⟩ := (hit_iff n).mp h
    have h2 := Bool.or_eq_false_iff.mp h2
    exact ⟨(hit_iff n).mpr ⟨c, h1, h2.1, h3⟩, (hit_iff n).mpr ⟨c, h1, h2.2, h3⟩⟩
  have a2 : hit L (fun c => S c && S' c) j n = true → hit L S j n = true ∨ hit L S' j n = true := fun h => by
    obtain ⟨c, h1, h2, h3⟩ := (hit_iff n).mp h
    rcases Bool.and_eq_false_iff.mp h2 with h2 | h2
    · exact Or.inl ((hit_iff n).mpr ⟨c, h1, h2, h3⟩)
    · exact Or.inr ((hit_iff n).mpr ⟨c, h1, h2, h3⟩)
  generalize hit L (fun c => S c || S' c) j n = x at a1 ⊢
  generalize hit L (fun c => S c && S' c) j n = y at a2 ⊢
  generalize hit L S j n = z at a1 a2 ⊢
  generalize hit L S' j n = w at a1 a2 ⊢
  revert a1 a2
  cases x <;> cases y <;> cases z <;> cases w <;> simp
theorem hits_sub (S S' : Nat → Bool) : ∀ d k, hits n L (fun c => S c || S' c) d k + hits n L (fun c => S c && S' c) d k ≤ hits n L S d k + hits n L S' d k
  | 0, _ => Nat.le_refl _
  | d + 1, k => by
    have h1 := hits_sub S S' d (k + 1)
    have h2 := hit_sub (n := n) (L := L) S S' k
    simp only [hits]
    omega
theorem cut_sub (S S' : Nat → Bool) (d k : Nat) (r : Nat → Nat) : cutN n L d k r (fun c => S c || S' c) + cutN n L d k r (fun c => S c && S' c) ≤ cutN n L d k r S + cutN n L d k r S' := by
  have h1 := hits_sub (n := n) (L := L) S S' d k
  have h2 := wS_sub (S := S) (S' := S') (r := r) n
  unfold cutN
  omega
theorem cut_s (d k : Nat) (r : Nat → Nat) (S : Nat → Bool) : cutN n L (d + 1) k r S = cutN n L d (k + 1) r S + (hit L S k n).toNat := by
  unfold cutN; simp only [hits]; omega
theorem ach_cut : ∀ d k r m, Ach n L d k r m → ∀ S, m ≤ cutN n L d k r S := by
  intro d
  induction d with
  | zero => intro k r m h S; have h : m = 0 := h; omega
  | succ d ih =>
    intro k r m h S
    rw [cut_s]
    rcases h with h | ⟨c, m', h1, h2, h3, h4, h5⟩
    · have := ih (k + 1) r m h S; omega
    · have := ih (k + 1) (dc r c) m' h5 S
      unfold cutN at this ⊢
      cases e : S c with
      | true => have := wS_in e h3 n h1; omega
      | false =>
        have w := wS_out (r := r) e n
        have t : hit L S k n = true := (hit_iff n).mpr ⟨c, h1, e, h2⟩
        rw [t, show true.toNat = 1 from rfl]
        omega
theorem hit_mono {S S' : Nat → Bool} (h : ∀ c, S c = true → S' c = true) (j : Nat) : (hit L S' j n).toNat ≤ (hit L S j n).toNat := by
  have : hit L S' j n = true → hit L S j n = true := fun q => by
    obtain ⟨c, h1, h2, h3⟩ := (hit_iff n).mp q
    refine (hit_iff n).mpr ⟨c, h1, ?_, h3⟩
    cases e : S c with
    | false => rfl
    | true => rw [h c e] at h2; cases h2
  revert this
  cases hit L S' j n <;> cases hit L S j n <;> simp
theorem hits_mono {S S' : Nat → Bool} (h : ∀ c, S c = true → S' c = true) : ∀ d k, hits n L S' d k ≤ hits n L S d k
  | 0, _ => Nat.le_refl _
  | d + 1, k => by
    have h1 := hits_mono h d (k + 1)
    have h2 := hit_mono (n := n) (L := L) h k
    simp only [hits]
    omega
theorem wS_add {S : Nat → Bool} {r : Nat → Nat} {c : Nat} (h0 : r c = 0) (n : Nat) : wS (fun i => S i || decide (i = c)) r n = wS S r n := by
  refine sm_congr n (fun i _ => ?_)
  by_cases e : i = c
  · subst e; rw [h0]; simp
  · simp [e]
theorem ach_max : ∀ d k r, ∃ m S, Ach n L d k r m ∧ cutN n L d k r S ≤ m := by
  intro d
  induction d with
  | zero => intro k r; exact ⟨0, fun _ => false, rfl, by unfold cutN; rw [wS_0]; exact Nat.le_refl _⟩
  | succ d ih =>
    intro k r
    obtain ⟨m0, S0, a0, u0⟩ := ih (k + 1) r
    by_cases hc : ∃ c m', c < n ∧ L c k = true ∧ 0 < r c ∧ Ach n L d (k + 1) (dc r c) m' ∧ m0 ≤ m'
    · obtain ⟨c, m', h1, h2, h3, h4, h5⟩ := hc
      refine ⟨m' + 1, S0, Or.inr ⟨c, m', h1, h2, h3, rfl, h4⟩, ?_⟩
      rw [cut_s]
      have := Bool.toNat_le (hit L S0 k n)
      omega
    · have tight : ∀ c, c ≤ n → ∃ S, cutN n L d (k + 1) r S ≤ m0 ∧ ∀ c', c' < c → L c' k = true → S c' = true := by
        intro c
        induction c with
        | zero => intro _; exact ⟨S0, u0, fun c' h => by omega⟩
        | succ c ihc =>
          intro hcn
          obtain ⟨S, s1, s2⟩ := ihc (by omega)
          by_cases hl : L c k = true
          · by_cases hr : 0 < r c
            · obtain ⟨m1, S1, a1, u1⟩ := ih (k + 1) (dc r c)
              have lt : m1 < m0 := by
                apply Classical.byContradiction
                intro q
                exact hc ⟨c, m1, by omega, hl, hr, a1, by omega⟩
              have in1 : S1 c = true := by
                cases e : S1 c with
                | true => rfl
                | false =>
                  have w := ach_cut d (k + 1) r m0 a0 S1
                  have w2 := wS_out (r := r) e n
                  unfold cutN at u1 w
                  omega
              have t1 : cutN n L d (k + 1) r S1 ≤ m0 := by
                have w := wS_in in1 hr n (by omega)
                unfold cutN at u1 ⊢
                omega
              refine ⟨fun i => S i || S1 i, ?_, fun c' h h' => ?_⟩
              · have w := cut_sub (n := n) (L := L) S S1 d (k + 1) r
                have w2 := ach_cut d (k + 1) r m0 a0 (fun i => S i && S1 i)
                omega
              · show (S c' || S1 c') = true
                by_cases e : c' = c
                · subst e; rw [in1, Bool.or_true]
                · rw [s2 c' (by omega) h', Bool.true_or]
            · refine ⟨fun i => S i || decide (i = c), ?_, fun c' h h' => ?_⟩
              · have w := wS_add (S := S) (show r c = 0 by omega) n
                have w2 := hits_mono (n := n) (L := L) (S := S) (S' := fun i => S i || decide (i = c)) (fun i hi => by rw [hi, Bool.true_or]) d (k + 1)
                unfold cutN at s1 ⊢
                omega
              · show (S c' || decide (c' = c)) = true
                by_cases e : c' = c
                · subst e; simp
                · rw [s2 c' (by omega) h', Bool.true_or]
          · refine ⟨S, s1, fun c' h h' => ?_⟩
            by_cases e : c' = c
            · subst e; exact absurd h' hl
            · exact s2 c' (by omega) h'
      obtain ⟨S, s1, s2⟩ := tight n (Nat.le_refl n)
      refine ⟨m0, S, Or.inl a0, ?_⟩
      rw [cut_s]
      have : hit L S k n = false := by
        cases e : hit L S k n with
        | false => rfl
        | true =>
          obtain ⟨c, h1, h2, h3⟩ := (hit_iff n).mp e
          rw [s2 c h1 h3] at h2; cases h2
      rw [this, show false.toNat = 0 from rfl]
      omega
/-- m is the most -/
def Op (n : Nat) (L : Nat → Nat → Bool) (d k : Nat) (r : Nat → Nat) (m : Nat) : Prop := Ach n L d k r m ∧ ∃ S, cutN n L d k r S ≤ m
theorem Op_ex (d k : Nat) (r : Nat → Nat) : ∃ m, Op n L d k r m := by
  obtain ⟨m, S, a, b⟩ := ach_max (n := n) (L := L) d k r
  exact ⟨m, a, S, b⟩
theorem Op_ge {d k : Nat} {r : Nat → Nat} {m m' : Nat} (h : Op n L d k r m) (h' : Ach n L d k r m') : m' ≤ m := by
  obtain ⟨a, S, b⟩ := h
  exact Nat.le_trans (ach_cut d k r m' h' S) b
theorem Op_un {d k : Nat} {r : Nat → Nat} {m m' : Nat} (h : Op n L d k r m) (h' : Op n L d k r m') : m = m' := Nat.le_antisymm (Op_ge h' h.1) (Op_ge h h'.1)
theorem Op_of {d k : Nat} {r : Nat → Nat} {m : Nat} (h : Ach n L d k r m) (g : ∀ m', Ach n L d k r m' → m' ≤ m) : Op n L d k r m := by
  obtain ⟨m', h'⟩ := Op_ex (n := n) (L := L) d k r
  rw [Nat.le_antisymm (Op_ge h' h) (g m' h'.1)]
  exact h'
/-! the shares as digits -/
def Val (n : Nat) (L : Nat → Nat → Bool) : Nat → Nat → (Nat → Nat) → (Nat → Nat) → Prop
  | 0, _, _, _ => True
  | d + 1, k, r, w => (w k = 0 ∧ Val n L d (k + 1) r w) ∨ ∃ c, w k = c + 1 ∧ c < n ∧ L c k = true ∧ 0 < r c ∧ Val n L d (k + 1) (dc r c) w
def cntW (w : Nat → Nat) : Nat → Nat → Nat
  | 0, _ => 0
  | d + 1, k => (if w k = 0 then 0 else 1) + cntW w d (k + 1)
def lexW (w' w : Nat → Nat) : Nat → Nat → Prop
  | 0, _ => False
  | d + 1, k => w' k < w k ∨ (w' k = w k ∧ lexW w' w d (k + 1))
def numW (w : Nat → Nat) (c : Nat) : Nat → Nat → Nat
  | 0, _ => 0
  | d + 1, k => (if w k = c + 1 then 1 else 0) + numW w c d (k + 1)
theorem Val_iff : ∀ d k r w, Val n L d k r w ↔ (∀ j, k ≤ j → j < k + d → w j = 0 ∨ ∃ c, w j = c + 1 ∧ c < n ∧ L c j = true) ∧ ∀ c, c < n → numW w c d k ≤ r c := by
  intro d
  induction d with
  | zero => intro k r w; exact ⟨fun _ => ⟨fun j a b => by omega, fun c _ => Nat.zero_le _⟩, fun _ => trivial⟩
  | succ d ih =>
    intro k r w
    constructor
    · rintro (⟨h0, h⟩ | ⟨c, h0, h1, h2, h3, h⟩)
      · obtain ⟨a, b⟩ := (ih (k + 1) r w).mp h
        refine ⟨fun j x y => ?_, fun c hc => ?_⟩
        · by_cases e : j = k
          · subst e; exact Or.inl h0
          · exact a j (by omega) (by omega)
        · simp only [numW]; rw [h0, if_neg (by omega)]; have := b c hc; omega
      · obtain ⟨a, b⟩ := (ih (k + 1) (dc r c) w).mp h
        refine ⟨fun j x y => ?_, fun c' hc => ?_⟩
        · by_cases e : j = k
          · subst e; exact Or.inr ⟨c, h0, h1, h2⟩
          · exact a j (by omega) (by omega)
        · simp only [numW]
          have := b c' hc
          by_cases e : c' = c
          · subst e; rw [show dc r c' c' = r c' - 1 from if_pos rfl] at this; rw [if_pos h0]; omega
          · rw [show dc r c c' = r c' from if_neg e] at this; rw [if_neg (by omega)]; omega
    · rintro ⟨a, b⟩
      rcases a k (Nat.le_refl k) (by omega) with h0 | ⟨c, h0, h1, h2⟩
      · refine Or.inl ⟨h0, (ih (k + 1) r w).mpr ⟨fun j x y => a j (by omega) (by omega), fun c hc => ?_⟩⟩
        have := b c hc
        simp only [numW] at this
        omega
      · have bc := b c h1
        simp only [numW] at bc
        rw [if_pos h0] at bc
        refine Or.inr ⟨c, h0, h1, h2, by omega, (ih (k + 1) (dc r c) w).mpr ⟨fun j x y => a j (by omega) (by omega), fun c' hc => ?_⟩⟩
        have := b c' hc
        simp only [numW] at this
        by_cases e : c' = c
        · subst e; rw [show dc r c' c' = r c' - 1 from if_pos rfl]; omega
        · rw [show dc r c c' = r c' from if_neg e]; omega
theorem Val_ach : ∀ d k r w, Val n L d k r w → Ach n L d k r (cntW w d k) := by
  intro d
  induction d with
  | zero => intro k r w h; rfl
  | succ d ih =>
    intro k r w h
    rcases h with ⟨h0, h⟩ | ⟨c, h0, h1, h2, h3, h⟩
    · refine Or.inl ?_
      simp only [cntW]; rw [if_pos h0, Nat.zero_add]; exact ih _ _ _ h
    · refine Or.inr ⟨c, cntW w d (k + 1), h1, h2, h3, ?_, ih _ _ _ h⟩
      simp only [cntW]; rw [if_neg (by omega)]; omega
theorem Val_congr : ∀ d k r w w', (∀ j, k ≤ j → j < k + d → w j = w' j) → Val n L d k r w → Val n L d k r w' := by
  intro d k r w w' h v
  obtain ⟨a, b⟩ := (Val_iff d k r w).mp v
  refine (Val_iff d k r w').mpr ⟨fun j x y => by rw [← h j x y]; exact a j x y, fun c hc => ?_⟩
  have : ∀ d k, (∀ j, k ≤ j → j < k + d → w j = w' j) → numW w' c d k = numW w c d k := by
    intro d
    induction d with
    | zero => intro k _; rfl
    | succ d ih => intro k h; simp only [numW]; rw [h k (Nat.le_refl k) (by omega), ih (k + 1) (fun j x y => h j (by omega) (by omega))]
  rw [this d k h]; exact b c hc
theorem cntW_congr {w w' : Nat → Nat} : ∀ d k, (∀ j, k ≤ j → j < k + d → w j = w' j) → cntW w d k = cntW w' d k
  | 0, _, _ => rfl
  | d + 1, k, h => by
    simp only [cntW]
    rw [h k (Nat.le_refl k) (by omega), cntW_congr d (k + 1) (fun j x y => h j (by omega) (by omega))]
theorem lexW_congr {w w' u : Nat → Nat} : ∀ d k, (∀ j, k ≤ j → j < k + d → w j = w' j) → (lexW w u d k ↔ lexW w' u d k)
  | 0, _, _ => Iff.rfl
  | d + 1, k, h => by
    simp only [lexW]
    rw [h k (Nat.le_refl k) (by omega), lexW_congr d (k + 1) (fun j x y => h j (by omega) (by omega))]
def setW (w : Nat → Nat) (k x : Nat) : Nat → Nat := fun j => if j = k then x else w j
theorem setW_s {w : Nat → Nat} {k x : Nat} : setW w k x k = x := if_pos rfl
theorem setW_n {w : Nat → Nat} {k x j : Nat} (h : k + 1 ≤ j) : w j = setW w k x j := (if_neg (by omega)).symm
theorem cntW_set {w : Nat → Nat} {k x d : Nat} : cntW (setW w k x) d (k + 1) = cntW w d (k + 1) := (cntW_congr (w := w) (w' := setW w k x) d (k + 1) (fun j h _ => setW_n h)).symm
theorem lexW_set {w u : Nat → Nat} {k x d : Nat} : lexW (setW w k x) u d (k + 1) ↔ lexW w u d (k + 1) := (lexW_congr (w := w) (w' := setW w k x) d (k + 1) (fun j h _ => setW_n h)).symm
theorem ach_Val : ∀ d k r m, Ach n L d k r m → ∃ w, Val n L d k r w ∧ cntW w d k = m := by
  intro d
  induction d with
  | zero => intro k r m h; exact ⟨fun _ => 0, trivial, Eq.symm h⟩
  | succ d ih =>
    intro k r m h
    rcases h with h | ⟨c, m', h1, h2, h3, h4, h5⟩
    · obtain ⟨w, v, e⟩ := ih _ _ _ h
      refine ⟨setW w k 0, Or.inl ⟨setW_s, Val_congr d (k + 1) r w _ (fun j x _ => setW_n x) v⟩, ?_⟩
      simp only [cntW]
      rw [setW_s, if_pos rfl, cntW_set, e, Nat.zero_add]
    · obtain ⟨w, v, e⟩ := ih _ _ _ h5
      refine ⟨setW w k (c + 1), Or.inr ⟨c, setW_s, h1, h2, h3, Val_congr d (k + 1) _ w _ (fun j x _ => setW_n x) v⟩, ?_⟩
      simp only [cntW]
      rw [setW_s, if_neg (by omega), cntW_set, e, h4]; omega
/-- valid, of the greatest count, and the first such -/
def Best (n : Nat) (L : Nat → Nat → Bool) (d k : Nat) (r w : Nat → Nat) : Prop := Val n L d k r w ∧ ∀ w', Val n L d k r w' → cntW w' d k ≤ cntW w d k ∧ (lexW w' w d k → cntW w' d k < cntW w d k)
theorem Best_Op {d k : Nat} {r w : Nat → Nat} (h : Best n L d k r w) : Op n L d k r (cntW w d k) := by
  refine Op_of (Val_ach d k r w h.1) (fun m' h' => ?_)
  obtain ⟨w', v, e⟩ := ach_Val d k r m' h'
  rw [← e]; exact (h.2 w' v).1
/-- none says k: the rest is the best of the same needs, and as much -/
theorem Best_0 {d k : Nat} {r w : Nat → Nat} (h : Best n L (d + 1) k r w) (h0 : w k = 0) : Best n L d (k + 1) r w ∧ ∃ m, Op n L (d + 1) k r m ∧ Op n L d (k + 1) r m := by
  have b : Best n L d (k + 1) r w := by
    rcases h.1 with ⟨_, v⟩ | ⟨c, e, _⟩
    · refine ⟨v, fun w' v' => ?_⟩
      have q := h.2 (setW w' k 0) (Or.inl ⟨setW_s, Val_congr d (k + 1) r w' _ (fun j x _ => setW_n x) v'⟩)
      simp only [cntW, lexW] at q
      rw [setW_s, if_pos rfl, h0, if_pos rfl, Nat.zero_add, Nat.zero_add, cntW_set, lexW_set] at q
      exact ⟨q.1, fun l => q.2 (Or.inr ⟨rfl, l⟩)⟩
    · omega
  refine ⟨b, cntW w (d + 1) k, Best_Op h, ?_⟩
  simp only [cntW]
  rw [if_pos h0, Nat.zero_add]
  exact Best_Op b
/-- convict c says k: none would be less, no earlier convict would do -/
theorem Best_c {d k c : Nat} {r w : Nat → Nat} (h : Best n L (d + 1) k r w) (h0 : w k = c + 1) : c < n ∧ L c k = true ∧ 0 < r c ∧ Best n L d (k + 1) (dc r c) w ∧ (∃ m, Op n L (d + 1) k r (m + 1) ∧ Op n L d (k + 1) (dc r c) m) ∧ (∀ m, Op n L (d + 1) k r m → ¬ Op n L d (k + 1) r m) ∧ ∀ c', c' < c → L c' k = true → 0 < r c' → ∀ m, Op n L (d + 1) k r (m + 1) → ¬ Op n L d (k + 1) (dc r c') m := by
  rcases h.1 with ⟨e, _⟩ | ⟨c1, e, h1, h2, h3, v⟩
  · omega
  obtain rfl : c1 = c := by omega
  have b : Best n L d (k + 1) (dc r c1) w := by
    refine ⟨v, fun w' v' => ?_⟩
    have q := h.2 (setW w' k (c1 + 1)) (Or.inr ⟨c1, setW_s, h1, h2, h3, Val_congr d (k + 1) _ w' _ (fun j x _ => setW_n x) v'⟩)
    simp only [cntW, lexW] at q
    rw [setW_s, if_neg (by omega), h0, if_neg (by omega), cntW_set, lexW_set] at q
    exact ⟨by omega, fun l => by have := q.2 (Or.inr ⟨rfl, l⟩); omega⟩
  refine ⟨h1, h2, h3, b, ⟨cntW w d (k + 1), ?_, Best_Op b⟩, fun m o o' => ?_, fun c' hc' l' r' m o o' => ?_⟩
  · have := Best_Op h
    simp only [cntW] at this
    rw [if_neg (by omega), Nat.add_comm 1] at this
    exact this
  · obtain ⟨w', v', e'⟩ := ach_Val d (k + 1) r m o'.1
    have q := h.2 (setW w' k 0) (Or.inl ⟨setW_s, Val_congr d (k + 1) r w' _ (fun j x _ => setW_n x) v'⟩)
    have m1 := Op_un o (Best_Op h)
    simp only [cntW, lexW] at q m1
    rw [setW_s, if_pos rfl, h0, if_neg (by omega), Nat.zero_add, cntW_set, e'] at q
    rw [h0, if_neg (by omega)] at m1
    have := q.2 (Or.inl (by omega))
    omega
  · obtain ⟨w', v', e'⟩ := ach_Val d (k + 1) (dc r c') m o'.1
    have q := h.2 (setW w' k (c' + 1)) (Or.inr ⟨c', setW_s, by omega, l', r', Val_congr d (k + 1) _ w' _ (fun j x _ => setW_n x) v'⟩)
    have m1 := Op_un o (Best_Op h)
    simp only [cntW, lexW] at q m1
    rw [setW_s, if_neg (by omega), h0, if_neg (by omega), cntW_set, e'] at q
    rw [h0, if_neg (by omega)] at m1
    have := q.2 (Or.inl (by omega))
    omega
end SH
