/-! MOST of the class -/
def Sh (M : Mem) (n : Nat) (r lf : Nat → Nat) : Prop := M.1 3 2 = nI n ∧ ∀ c, c < n → M.1 4 c = nI (r c) ∧ M.1 5 c = nI (lf c)
def ShW (n : Nat) (r lf : Nat → Nat) : Prop := n ≤ 4 ∧ (∀ c, c < n → r c ≤ 18) ∧ ∀ c, c < n → lf c < 64
def uN (lf : Nat → Nat) (s o : Nat) : Nat → Nat
  | 0 => 0
  | c + 1 => if s.testBit c = true then uN lf s o c else uN lf s o c ||| (lf c &&& o)
def LB (lf : Nat → Nat) : Nat → Nat → Bool := fun c j => (lf c).testBit j
theorem uN_lt {n : Nat} {lf : Nat → Nat} {s o : Nat} (h : ∀ c, c < n → lf c < 64) : ∀ c, c ≤ n → uN lf s o c < 64
  | 0, _ => show 0 < 64 by decide
  | c + 1, hc => by
    have ih := uN_lt (s := s) (o := o) h c (by omega)
    simp only [uN]
    split
    · exact ih
    · exact or64 ih (and64 (h c (by omega)))
theorem uN_bit {lf : Nat → Nat} {s o j : Nat} : ∀ c, (uN lf s o c).testBit j = (hit (LB lf) (fun i => s.testBit i) j c && o.testBit j)
  | 0 => by simp [uN, hit]
  | c + 1 => by
    have ih := uN_bit (lf := lf) (s := s) (o := o) (j := j) c
    simp only [uN, hit]
    by_cases e : s.testBit c = true
    · rw [if_pos e, ih, e]; simp
    · rw [if_neg e, Nat.testBit_or, Nat.testBit_and, ih]
      rw [Bool.not_eq_true] at e
      rw [e]
      show _ = ((_ || (!false && (lf c).testBit j)) && _)
      cases hit (LB lf) (fun i => s.testBit i) j c <;> cases (lf c).testBit j <;> cases o.testBit j <;> rfl
theorem opn_bit : ∀ k, k ≤ 6 → ∀ j, j < 6 → (64 - 2 ^ k).testBit j = decide (k ≤ j) := by decide +kernel
theorem opn_next : ∀ k, k < 6 → nI (64 - 2 ^ k) &&& (((1 : Int32) <<< (nI k &&& 31)) ^^^ mI 1) = nI (64 - 2 ^ (k + 1)) := by decide +kernel
theorem pc_bits : ∀ x, x < 64 → pc x = (x.testBit 0).toNat + ((x.testBit 1).toNat + ((x.testBit 2).toNat + ((x.testBit 3).toNat + ((x.testBit 4).toNat + ((x.testBit 5).toNat + 0))))) := by decide +kernel
theorem pc_hits {n k s : Nat} {lf : Nat → Nat} (hk : k ≤ 6) (h : ∀ c, c < n → lf c < 64) : pc (uN lf s (64 - 2 ^ k) n) = hits n (LB lf) (fun i => s.testBit i) (6 - k) k := by
  rw [pc_bits _ (uN_lt h n (Nat.le_refl n)), uN_bit, uN_bit, uN_bit, uN_bit, uN_bit, uN_bit, opn_bit k hk 0 (by omega), opn_bit k hk 1 (by omega), opn_bit k hk 2 (by omega), opn_bit k hk 3 (by omega), opn_bit k hk 4 (by omega), opn_bit k hk 5 (by omega)]
  obtain (rfl | rfl | rfl | rfl | rfl | rfl | rfl) : k = 0 ∨ k = 1 ∨ k = 2 ∨ k = 3 ∨ k = 4 ∨ k = 5 ∨ k = 6 := by omega
  all_goals simp [hits]
theorem bits_ex : ∀ n (S : Nat → Bool), ∃ s, s < 2 ^ n ∧ ∀ c, c < n → s.testBit c = S c := by
  intro n
  induction n with
  | zero => intro S; exact ⟨0, by decide, fun c h => by omega⟩
  | succ n ih =>
    intro S
    obtain ⟨s, h1, h2⟩ := ih (fun c => S (c + 1))
    refine ⟨2 * s + (S 0).toNat, ?_, fun c hc => ?_⟩
    · rw [Nat.pow_succ]; have := Bool.toNat_le (S 0); omega
    · cases c with
      | zero => rw [Nat.testBit_zero]; cases S 0 <;> simp <;> omega
      | succ c =>
        rw [Nat.testBit_succ, show (2 * s + (S 0).toNat) / 2 = s by have := Bool.toNat_le (S 0); omega]
        exact h2 c (by omega)
theorem hit_congr {L : Nat → Nat → Bool} {S S' : Nat → Bool} {j : Nat} : ∀ n, (∀ c, c < n → S c = S' c) → hit L S j n = hit L S' j n
  | 0, _ => rfl
  | n + 1, h => by simp only [hit]; rw [hit_congr n (fun c hc => h c (by omega)), h n (by omega)]
theorem hits_congr {n : Nat} {L : Nat → Nat → Bool} {S S' : Nat → Bool} (h : ∀ c, c < n → S c = S' c) : ∀ d k, hits n L S d k = hits n L S' d k
  | 0, _ => rfl
  | d + 1, k => by simp only [hits]; rw [hit_congr n h, hits_congr h d (k + 1)]
theorem cut_congr {n : Nat} {L : Nat → Nat → Bool} {S S' : Nat → Bool} (h : ∀ c, c < n → S c = S' c) (d k : Nat) (r : Nat → Nat) : cutN n L d k r S = cutN n L d k r S' := by
  unfold cutN
  rw [hits_congr h, show wS S r n = wS S' r n from sm_congr n (fun i hi => by rw [h i hi])]
theorem hits_le {n : Nat} {L : Nat → Nat → Bool} {S : Nat → Bool} : ∀ d k, hits n L S d k ≤ d
  | 0, _ => Nat.le_refl _
  | d + 1, k => by simp only [hits]; have := hits_le (n := n) (L := L) (S := S) d (k + 1); have := Bool.toNat_le (hit L S k n); omega
theorem dc_W {n c : Nat} {r lf : Nat → Nat} (h : ShW n r lf) : ShW n (dc r c) lf := ⟨h.1, fun c' hc => by
  have := h.2.1 c' hc
  unfold dc; split <;> omega, h.2.2⟩
theorem wS_le {n : Nat} {S : Nat → Bool} {r lf : Nat → Nat} (h : ShW n r lf) : ∀ c, c ≤ n → wS S r c ≤ 18 * c
  | 0, _ => Nat.zero_le _
  | c + 1, hc => by
    have := wS_le (S := S) h c (by omega)
    have := h.2.1 c (by omega)
    rw [wS_s]; split <;> omega
section MO
variable {M : Mem} {F n : Nat} {r lf : Nat → Nat}
theorem l_some (hS : Sh M n r lf) (hW : ShW n r lf) (q : Int32 → Int32 → Int32 → Int32 → Int32 → Mem → Option (Int32 × Mem)) (o s : Nat) (hs : s < 16) (x : Int32) : ∀ d c nC, c + d = n → d < nC → LX1_mostAmong_24 F q nC (nI o) x (nI s) (nI (wS (fun i => s.testBit i) r c)) (nI (uN lf s o c)) (nI c) M = q (nI o) x (nI s) (nI (wS (fun i => s.testBit i) r n)) (nI (uN lf s o n)) M := by
  intro d
  induction d with
  | zero =>
    intro c nC h hn
    obtain ⟨nC, rfl⟩ : ∃ k, nC = k + 1 := ⟨nC - 1, by omega⟩
    obtain rfl : c = n := by omega
    have := hW.1
    rw [LX1_mostAmong_24_s, hS.1, if_pos (nI_le (by omega) (by omega))]
  | succ d ih =>
    intro c nC h hn
    obtain ⟨nC, rfl⟩ : ∃ k, nC = k + 1 := ⟨nC - 1, by omega⟩
    have h4 := hW.1
    have hc : c < n := by omega
    rw [LX1_mostAmong_24_s, hS.1, if_neg (nI_ge (by omega) (by omega))]
    have q1 := ih (c + 1) nC (by omega) (by omega)
    rw [wS_s] at q1
    simp only [uN] at q1
    by_cases e : s.testBit c = true
    · rw [if_pos e, if_pos e] at q1
      rw [if_neg (fun z => by rw [(bit4 s hs c (by omega)).mp z] at e; cases e), gi_nI (by omega) (by omega), nm_eq, nm_eq, nI_clamp (by omega), (hS.2 c hc).1, nI_add, nI_1]
      exact q1
    · rw [if_neg e, if_neg e, Nat.add_zero] at q1
      rw [if_pos ((bit4 s hs c (by omega)).mpr (Bool.not_eq_true _ ▸ e)), gi_nI (by omega) (by omega), nm_eq, nm_eq, nI_clamp (by omega), (hS.2 c hc).2, and_nI, or_nI, nI_1]
      exact q1
theorem l_among (hF : 100 ≤ F) (hS : Sh M n r lf) (hW : ShW n r lf) {k : Nat} (hk : k ≤ 6) : ∀ d s nC x, s + d = 2 ^ n → d < nC → x ≤ 6 → ∃ m, LX1_mostAmong_5 F nC (nI (64 - 2 ^ k)) (nI x) (nI s) M = some (nI m, M) ∧ m ≤ x ∧ (∀ s', s ≤ s' → s' < 2 ^ n → m ≤ cutN n (LB lf) (6 - k) k r (fun i => s'.testBit i)) ∧ (m = x ∨ ∃ s' : Nat, m = cutN n (LB lf) (6 - k) k r (fun i => s'.testBit i)) := by
  have h4 := hW.1
  have hp : 2 ^ n ≤ 16 := Nat.pow_le_pow_right (n := 2) (by decide) h4
  intro d
  induction d with
  | zero =>
    intro s nC x h hn hx
    obtain ⟨nC, rfl⟩ : ∃ k, nC = k + 1 := ⟨nC - 1, by omega⟩
    refine ⟨x, ?_, Nat.le_refl x, fun s' a b => by omega, Or.inl rfl⟩
    rw [LX1_mostAmong_5_s, hS.1, shl_pow n (by omega), if_pos (nI_le (by omega) (by omega))]
  | succ d ih =>
    intro s nC x h hn hx
    obtain ⟨nC, rfl⟩ : ∃ k, nC = k + 1 := ⟨nC - 1, by omega⟩
    have hu := uN_lt (s := s) (o := 64 - 2 ^ k) hW.2.2 n (Nat.le_refl n)
    have hw := wS_le (S := fun i => s.testBit i) hW n (Nat.le_refl n)
    have hpc := pc_le _ hu
    have hc : wS (fun i => s.testBit i) r n + pc (uN lf s (64 - 2 ^ k) n) = cutN n (LB lf) (6 - k) k r (fun i => s.testBit i) := by rw [pc_hits hk hW.2.2]; rfl
    rw [LX1_mostAmong_5_s, hS.1, shl_pow n (by omega), if_neg (nI_ge (by omega) (by omega)), i0]
    rw [show (nI 0) = nI (wS (fun i => s.testBit i) r 0) from rfl]
    have e := l_some (F := F) hS hW (fun y8 y9 y10 y11 y12 M7 => bd (f_J6_bitCount_0f7a4 F y12 M7) (fun r13 M14 => nm (if (y11 + r13) < y9 then (y11 + r13) else y9) (fun x15 => nm (y10 + (1 : Int32)) (fun x16 => LX1_mostAmong_5 F nC y8 x15 x16 M14)))) (64 - 2 ^ k) s (by omega) (nI x) n 0 F (by omega) (by omega)
    rw [bd_of (e_bitCount F hu M), nm_eq, nm_eq, nI_add, hc, nI_1] at e
    by_cases p : cutN n (LB lf) (6 - k) k r (fun i => s.testBit i) < x
    · rw [if_pos (nI_lt p (by omega))] at e
      obtain ⟨m, q1, q2, q3, q4⟩ := ih (s + 1) nC _ (by omega) (by omega) (show cutN n (LB lf) (6 - k) k r (fun i => s.testBit i) ≤ 6 by omega)
      refine ⟨m, e.trans q1, by omega, fun s' a b => ?_, ?_⟩
      · by_cases z : s' = s
        · subst z; exact q2
        · exact q3 s' (by omega) b
      · rcases q4 with q4 | q4
        · exact Or.inr ⟨s, q4⟩
        · exact Or.inr q4
    · rw [if_neg (nI_nlt (by omega) (by omega))] at e
      obtain ⟨m, q1, q2, q3, q4⟩ := ih (s + 1) nC x (by omega) (by omega) hx
      refine ⟨m, e.trans q1, q2, fun s' a b => ?_, q4⟩
      by_cases z : s' = s
      · subst z; omega
      · exact q3 s' (by omega) b
theorem e_among (hF : 100 ≤ F) (hS : Sh M n r lf) (hW : ShW n r lf) {k : Nat} (hk : k ≤ 6) : ∃ m, f_X1_mostAmong F (nI (64 - 2 ^ k)) M = some (nI m, M) ∧ Op n (LB lf) (6 - k) k r m ∧ m ≤ 6 := by
  have h4 := hW.1
  have hp : 2 ^ n ≤ 16 := Nat.pow_le_pow_right (n := 2) (by decide) h4
  obtain ⟨m, q1, q2, q3, q4⟩ := l_among (F := F) hF hS hW hk (2 ^ n) 0 F 6 (by omega) (by omega) (Nat.le_refl 6)
  obtain ⟨m', o⟩ := Op_ex (n := n) (L := LB lf) (6 - k) k r
  have o' := o
  obtain ⟨a, S, b⟩ := o
  obtain ⟨s, s1, s2⟩ := bits_ex n S
  have t1 := q3 s (Nat.zero_le _) s1
  rw [cut_congr (S' := S) s2] at t1
  have t2 : m' ≤ m := by
    rcases q4 with q4 | ⟨s', q4⟩
    · have := ach_cut _ _ _ _ a (fun _ => false)
      unfold cutN at this
      rw [wS_0] at this
      have := hits_le (n := n) (L := LB lf) (S := fun _ => false) (6 - k) k
      omega
    · rw [q4]; exact ach_cut _ _ _ _ a _
  obtain rfl : m = m' := by omega
  exact ⟨m, q1, o', q2⟩
theorem u2_back {c : Nat} {x y : Int32} (h : M.1 4 c = y) : u2 (u2 M 4 c x) 4 c y = M := by
  refine Prod.ext ?_ rfl
  funext i j
  rw [u2_at, u2_at]
  split
  · rename_i q; rw [q.1, q.2, h]
  · rfl
theorem Sh_dc (hS : Sh M n r lf) {c x : Nat} (hx : r c - 1 = x) : Sh (u2 M 4 c (nI x)) n (dc r c) lf := by
  refine ⟨by rw [u2_ne (by omega)]; exact hS.1, fun c' hc => ⟨?_, by rw [u2_ne (by omega)]; exact (hS.2 c' hc).2⟩⟩
  rw [u2_at]
  by_cases e : c' = c
  · subst e; rw [if_pos ⟨rfl, rfl⟩, show dc r c' c' = r c' - 1 from if_pos rfl, hx]
  · rw [if_neg (fun q => e q.2), show dc r c c' = r c' from if_neg e]; exact (hS.2 c' hc).1
/-- the loop over the convicts up to the first that does -/
theorem l_first (hF : 100 ≤ F) (hS : Sh M n r lf) (hW : ShW n r lf) {k c0 m0 : Nat} (hk : k < 6) (h0 : c0 < n) (l0 : LB lf c0 k = true) (r0 : 0 < r c0) (o0 : Op n (LB lf) (6 - k) k r (m0 + 1)) (p0 : Op n (LB lf) (6 - (k + 1)) (k + 1) (dc r c0) m0) (hm : m0 ≤ 6) (ea : ∀ c', c' < c0 → LB lf c' k = true → 0 < r c' → ∀ m, Op n (LB lf) (6 - k) k r (m + 1) → ¬ Op n (LB lf) (6 - (k + 1)) (k + 1) (dc r c') m) : ∀ d c nC, c + d = c0 → d < nC → LX1_firstSayer_14 F nC (nI k) (nI (64 - 2 ^ (k + 1))) (nI (m0 + 1)) (nI c) M = some (nI c0, M) := by
  have h4 := hW.1
  intro d
  induction d with
  | zero =>
    intro c nC h hn
    obtain ⟨nC, rfl⟩ : ∃ k, nC = k + 1 := ⟨nC - 1, by omega⟩
    obtain rfl : c = c0 := by omega
    have r18 := hW.2.1 c h0
    obtain ⟨m, q1, q2, q3⟩ := e_among (F := F) hF (Sh_dc hS (c := c) (x := r c - 1) rfl) (dc_W hW) (show k + 1 ≤ 6 by omega)
    obtain rfl := Op_un p0 q2
    rw [LX1_firstSayer_14_s, hS.1, if_neg (nI_ge (by omega) (by omega)), gi_nI (by omega) (by omega), nI_clamp (by omega), (hS.2 c h0).1, if_neg (nI_nle r0 (by omega)), gi_nI (by omega) (by omega), (hS.2 c h0).2, if_neg (fun z => by rw [show LB lf c k = false from (bit_and (lf c) (hW.2.2 c h0) k hk).mp z] at l0; cases l0), gi_nI (by omega) (by omega), nm_eq, i1, pk_sub (by omega), gi_nI (by omega) (by omega), nm_eq, bd_of q1, gi_nI (by omega) (by omega), nm_eq, u2_at, if_pos ⟨rfl, rfl⟩, nI_add, gi_nI (by omega) (by omega), nm_eq, nI_add, if_pos rfl, show r c - 1 + 1 = r c by omega, u2_back (hS.2 c h0).1]
  | succ d ih =>
    intro c nC h hn
    obtain ⟨nC, rfl⟩ : ∃ k, nC = k + 1 := ⟨nC - 1, by omega⟩
    have hc : c < n := by omega
    have r18 := hW.2.1 c hc
    have nx := ih (c + 1) nC (by omega) (by omega)
    rw [LX1_firstSayer_14_s, hS.1, if_neg (nI_ge (by omega) (by omega)), gi_nI (by omega) (by omega), nI_clamp (by omega), (hS.2 c hc).1]
    by_cases e1 : r c = 0
    · rw [e1, if_pos (by decide), nm_eq, nI_1]; exact nx
    rw [if_neg (nI_nle (by omega) (by omega)), gi_nI (by omega) (by omega), (hS.2 c hc).2]
    cases e2 : LB lf c k with
    | false =>
      rw [if_pos ((bit_and (lf c) (hW.2.2 c hc) k hk).mpr e2), nm_eq, nI_1]; exact nx
    | true =>
      obtain ⟨m, q1, q2, q3⟩ := e_among (F := F) hF (Sh_dc hS (c := c) (x := r c - 1) rfl) (dc_W hW) (show k + 1 ≤ 6 by omega)
      have ne : m ≠ m0 := fun z => ea c (by omega) e2 (by omega) m (by rw [z]; exact o0) q2
      rw [if_neg (fun z => by rw [show LB lf c k = false from (bit_and (lf c) (hW.2.2 c hc) k hk).mp z] at e2; cases e2), gi_nI (by omega) (by omega), nm_eq, i1, pk_sub (by omega), gi_nI (by omega) (by omega), nm_eq, bd_of q1, gi_nI (by omega) (by omega), nm_eq, u2_at, if_pos ⟨rfl, rfl⟩, nI_add, gi_nI (by omega) (by omega), nm_eq, nI_add, if_neg (fun z => ne (by have := (nI_eq (by omega) (by omega)).mp z; omega)), show r c - 1 + 1 = r c by omega, u2_back (hS.2 c hc).1, nm_eq, nI_add]
      exact nx
/-- the digits from saying k up to the asked one -/
theorem l_sayer (hF : 100 ≤ F) {w : Nat → Nat} {a : Nat} (ha : a < 6) : ∀ d k nC M r x, k + d = a + 1 → d < nC → Sh M n r lf → ShW n r lf → Best n (LB lf) (6 - k) k r w → (d = 0 → x = nI (w a) - 1) → ∃ M', LX1_sayerOf_16 F nC (nI a) (nI (64 - 2 ^ k)) x (nI k) M = some (nI (w a) - 1, M') ∧ ∀ i, i ≠ 4 → M'.1 i = M.1 i := by
  intro d
  induction d with
  | zero =>
    intro k nC M r x h hn hS hW hb hx
    obtain ⟨nC, rfl⟩ : ∃ k, nC = k + 1 := ⟨nC - 1, by omega⟩
    refine ⟨M, ?_, fun _ _ => rfl⟩
    rw [LX1_sayerOf_16_s, if_pos (nI_lt (by omega) (by omega)), hx rfl]
  | succ d ih =>
    intro k nC M r x h hn hS hW hb hx
    obtain ⟨nC, rfl⟩ : ∃ k, nC = k + 1 := ⟨nC - 1, by omega⟩
    have h4 := hW.1
    have hk : k < 6 := by omega
    obtain ⟨m, q1, q2, q3⟩ := e_among (F := F) hF hS hW (show k ≤ 6 by omega)
    obtain ⟨m', t1, t2, t3⟩ := e_among (F := F) hF hS hW (show k + 1 ≤ 6 by omega)
    have e6 : 6 - k = 6 - (k + 1) + 1 := by omega
    rw [e6] at hb
    rw [LX1_sayerOf_16_s, if_neg (nI_nlt (by omega) (by omega)), bd_of q1, nm_eq, opn_next k hk]
    unfold f_X1_firstSayer
    cases e : w k with
    | zero =>
      obtain ⟨b, m1, o1, o2⟩ := Best_0 hb e
      rw [← e6] at o1
      obtain rfl := Op_un o1 q2
      obtain rfl := Op_un o2 t2
      rw [bd_of t1, if_pos rfl, bd_some, if_pos rfl, nm_eq, nI_1]
      exact ih (k + 1) nC M r (mI 1) (by omega) (by omega) hS hW b (fun z => by rw [show a = k by omega, e]; rfl)
    | succ c =>
      obtain ⟨c1, c2, c3, b, ⟨m1, o1, o2⟩, c5, c6⟩ := Best_c hb e
      rw [← e6] at o1 c5 c6
      obtain rfl := Op_un o1 q2
      have r18 := hW.2.1 c c1
      rw [bd_of t1, if_neg (fun z => c5 _ q2 (by rw [← (nI_eq (by omega) (by omega)).mp z]; exact t2)), i0, bd_of (l_first (F := F) hF hS hW hk c1 c2 c3 o1 o2 (by omega) c6 c 0 F (by omega) (by omega)), if_neg (im1_ne (by omega)), gi_nI (by omega) (by omega), nI_clamp (by omega), nm_eq, (hS.2 c c1).1, i1, pk_sub (by omega), gi_nI (by omega) (by omega), nm_eq, nm_eq, nI_add]
      obtain ⟨M', p1, p2⟩ := ih (k + 1) nC (u2 M 4 c (nI (r c - 1))) (dc r c) (nI c) (by omega) (by omega) (Sh_dc hS rfl) (dc_W hW) b (fun z => by rw [show a = k by omega, e, i1, pk_sub (by omega)]; rfl)
      exact ⟨M', p1, fun i hi => by rw [p2 i hi, u2_ne hi]⟩
end MO
