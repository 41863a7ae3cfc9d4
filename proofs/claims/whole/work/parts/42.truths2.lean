theorem sub_iff {t s : Nat} (ht : t < 64) : t &&& s = t ↔ ∀ k, k < 6 → t.testBit k = true → s.testBit k = true := by
  constructor
  · intro h k _ hk
    rw [← h, Nat.testBit_and] at hk
    exact (Bool.and_eq_true _ _ ▸ hk).2
  · intro h
    apply Nat.eq_of_testBit_eq
    intro k
    rw [Nat.testBit_and]
    by_cases hk : k < 6
    · cases e : t.testBit k with
      | false => rfl
      | true => rw [h k hk e]; rfl
    · rw [Nat.testBit_lt_two_pow (Nat.lt_of_lt_of_le ht (Nat.pow_le_pow_right (n := 2) (by omega) (show 6 ≤ k by omega)))]; rfl
theorem dis_iff {f s : Nat} (hf : f < 64) : f &&& s = 0 ↔ ∀ k, k < 6 → f.testBit k = true → s.testBit k = false := by
  constructor
  · intro h k _ hk
    have := congrArg (fun x => x.testBit k) h
    simp only [Nat.testBit_and, hk, Bool.true_and, Nat.zero_testBit] at this
    exact this
  · intro h
    apply Nat.eq_of_testBit_eq
    intro k
    rw [Nat.testBit_and, Nat.zero_testBit]
    by_cases hk : k < 6
    · cases e : f.testBit k with
      | false => rfl
      | true => rw [h k hk e]; rfl
    · rw [Nat.testBit_lt_two_pow (Nat.lt_of_lt_of_le hf (Nat.pow_le_pow_right (n := 2) (by omega) (show 6 ≤ k by omega)))]; rfl
section TR
variable {B : Nat} {M N : Mem} {b : Nat} {T : TA} {F : Nat}
theorem eC_poss (hT : CT M b T) (hW : Wf B T) {v : Nat} (hv : v < 3) : f_X3_possibleSets F (b + 3 + v) M = some (nI (cN (T.2.1 v 2) (T.2.1 v 3)), M) := by
  have w2 := hW.2.2.2.2.1 v hv 2 (by omega)
  have w3 := hW.2.2.2.2.1 v hv 3 (by omega)
  have hl : T.2.1 v 2 &&& T.2.1 v 3 < 64 := and64 w2
  have ho := or64 w2 w3
  have hp := pc_le _ ho
  unfold f_X3_possibleSets cN
  rw [hT.2.1 v hv 2 (by omega), hT.2.1 v hv 3 (by omega), and_nI, or_nI]
  by_cases e : T.2.1 v 2 &&& T.2.1 v 3 = 0
  · rw [e, if_pos nI_0, if_pos rfl, bd_of (e_bitCount F ho M), i6, pk_sub hp, shl_pow _ (by omega)]
  · rw [if_neg (nI_ne0 (by omega) (by omega)), if_neg e]; rfl
theorem lC_try {u : Nat} (hu : u < 64) : ∀ d k n, k + d = 6 → d < n → LX3_sayingToTry_21 F n (nI u) (nI k) M = some (nI (ftN u d k), M) := by
  intro d
  induction d with
  | zero =>
    intro k n h hn
    obtain ⟨n, rfl⟩ : ∃ k, n = k + 1 := ⟨n - 1, by omega⟩
    rw [LX3_sayingToTry_21_s, i6, if_pos (nI_le (by omega) (by omega))]; rfl
  | succ d ih =>
    intro k n h hn
    obtain ⟨n, rfl⟩ : ∃ k, n = k + 1 := ⟨n - 1, by omega⟩
    have := ih (k + 1) n (by omega) (by omega)
    rw [LX3_sayingToTry_21_s, i6, if_neg (nI_ge (by omega) (by omega))]
    simp only [ftN]
    cases e : u.testBit k with
    | false => rw [if_pos ((bit_and u hu k (by omega)).mpr e), if_neg (by decide)]
    | true => rw [if_neg (fun q => by have := (bit_and u hu k (by omega)).mp q; rw [e] at this; cases this), if_pos rfl, nm_eq, nI_1]; exact this
theorem eC_try (hF : 100 ≤ F) (hT : CT M b T) (hW : Wf B T) {v : Nat} (hv : v < 3) : f_X3_sayingToTry F (b + 3 + v) M = some (tryE (T.2.1 v 2) (T.2.1 v 3), M) := by
  have w2 := hW.2.2.2.2.1 v hv 2 (by omega)
  have w3 := hW.2.2.2.2.1 v hv 3 (by omega)
  have hc := cN_le _ w2 _ w3
  unfold f_X3_sayingToTry tryE
  rw [bd_of (eC_poss hT hW hv)]
  by_cases e : cN (T.2.1 v 2) (T.2.1 v 3) = 0
  · rw [e, if_pos nI_0, if_pos rfl]
  · rw [if_neg (nI_ne0 (by omega) (by omega)), if_neg e, hT.2.1 v hv 2 (by omega), hT.2.1 v hv 3 (by omega), or_nI, nm_eq, i0]
    exact lC_try (or64 w2 w3) 6 0 F (by omega) (by omega)
/-- truths(v, a) -/
def trE (t f : Nat) (a : Int32) : Int32 := if a = 0 then nI (cN t f) else if cN t f = 0 then mI 1 else nI t
def gdT (q : Nat → Int32) (v s j : Nat) : Prop := q (3 * j) = nI v → ∀ k, k < 6 → q (3 * j + 1) = nI k → q (3 * j + 2) = nI (s.testBit k).toNat
theorem lR_isTried (hT : RT N T) (hW : Wf B T) {v s : Nat} (hv : v < 3) (hs : s < 64) : ∀ d i n x, i + d = T.1 3 → d < n → x < 2 → ∃ r, r < 2 ∧ LX6_isTried_5 F n (nI v) (nI s) (nI x) (nI i) N = some (nI r, N) ∧ (r = 1 ↔ x = 1 ∧ ∀ j, i ≤ j → j < T.1 3 → gdT (N.1 8) v s j) := by
  have w8 := hW.2.2.2.1
  have tr := hT.2.2.2.2.2.2.2.1
  have hq := hT.2.2.2.1
  intro d
  induction d with
  | zero =>
    intro i n x h hn hx
    obtain ⟨n, rfl⟩ : ∃ k, n = k + 1 := ⟨n - 1, by omega⟩
    refine ⟨x, hx, ?_, fun q => ⟨q, fun j h1 h2 => by omega⟩, fun q => q.1⟩
    rw [LX6_isTried_5_s, hq, if_pos (nI_le (by omega) (by omega))]
    rcases (show x = 0 ∨ x = 1 by omega) with rfl | rfl <;> exact if_pos (by decide)
  | succ d ih =>
    intro i n x h hn hx
    obtain ⟨n, rfl⟩ : ∃ k, n = k + 1 := ⟨n - 1, by omega⟩
    have x0 : (3 : Int32) * nI i = nI (3 * i) := by rw [i3, pk_mul]
    have x1 : nI (3 * i) + 1 = nI (3 * i + 1) := nI_1 _
    have x2 : nI (3 * i) + 2 = nI (3 * i + 2) := nI_add _ 2
    obtain ⟨v0, k0, b0, a1, a2, a3, a4, a5, a6⟩ := tr i (by omega)
    rw [LX6_isTried_5_s, hq, if_neg (nI_ge (by omega) (by omega)), x0, x1, x2, gi_nI (show 3 * i < 24 by omega) (by omega), gi_nI (show 3 * i + 1 < 24 by omega) (by omega), gi_nI (show 3 * i + 2 < 24 by omega) (by omega), nI_clamp (show 3 * i < 2 ^ 31 by omega), nI_clamp (show 3 * i + 1 < 2 ^ 31 by omega), nI_clamp (show 3 * i + 2 < 2 ^ 31 by omega), a4, a5, a6, bit_shr s hs k0 a2]
    simp only [nm_eq, nI_1]
    -- what is due at i
    have due : ∀ y, y < 2 → (y = 1 ↔ x = 1 ∧ gdT (N.1 8) v s i) → ∃ r, r < 2 ∧ LX6_isTried_5 F n (nI v) (nI s) (nI y) (nI (i + 1)) N = some (nI r, N) ∧ (r = 1 ↔ x = 1 ∧ ∀ j, i ≤ j → j < T.1 3 → gdT (N.1 8) v s j) := by
      intro y hy he
      obtain ⟨r, r1, r2, r3⟩ := ih (i + 1) n y (by omega) (by omega) hy
      refine ⟨r, r1, r2, r3.trans ?_⟩
      rw [he]
      constructor
      · rintro ⟨⟨p1, p2⟩, p3⟩
        refine ⟨p1, fun j h1 h2 => ?_⟩
        by_cases q : j = i
        · rw [q]; exact p2
        · exact p3 j (by omega) h2
      · rintro ⟨p1, p2⟩
        exact ⟨⟨p1, p2 i (Nat.le_refl i) (by omega)⟩, fun j h1 h2 => p2 j (by omega) h2⟩
    have b31 : ∀ y : Nat, y < 6 → y < 2 ^ 31 := fun y hy => by omega
    have gd1 : v0 ≠ v → gdT (N.1 8) v s i := fun q e => by
      rw [a4] at e
      exact absurd ((nI_eq (b31 _ (Nat.lt_trans a1 (by decide))) (b31 _ (Nat.lt_trans hv (by decide)))).mp e) q
    have gd2 : v0 = v → (gdT (N.1 8) v s i ↔ (s.testBit k0).toNat = b0) := fun q => by
      constructor
      · intro g
        have := g (by rw [a4, q]) k0 a2 a5
        rw [a6] at this
        exact ((nI_eq (b31 _ (Nat.lt_trans a3 (by decide))) (b31 _ (Nat.lt_of_le_of_lt (Bool.toNat_le _) (by decide)))).mp this).symm
      · intro g _ k hk e
        rw [a5] at e
        have := (nI_eq (b31 _ a2) (b31 _ hk)).mp e
        rw [← this, a6, g]
    rcases (show x = 0 ∨ x = 1 by omega) with rfl | rfl
    · rw [if_pos nI_0]
      exact due 0 (by omega) ⟨fun q => by omega, fun q => by have := q.1; omega⟩
    · rw [if_neg (by decide)]
      by_cases e : v0 = v
      · rw [if_pos (by rw [e])]
        by_cases e2 : (s.testBit k0).toNat = b0
        · rw [if_pos (by rw [e2])]
          exact due 1 (by omega) ⟨fun _ => ⟨rfl, (gd2 e).mpr e2⟩, fun _ => rfl⟩
        · rw [if_neg (fun q => e2 ((nI_eq (b31 _ (Nat.lt_of_le_of_lt (Bool.toNat_le _) (by decide))) (b31 _ (Nat.lt_trans a3 (by decide)))).mp q))]
          exact due 0 (by omega) ⟨fun q => by omega, fun q => absurd ((gd2 e).mp q.2) e2⟩
      · rw [if_neg (fun q => e ((nI_eq (b31 _ (Nat.lt_trans a1 (by decide))) (b31 _ (Nat.lt_trans hv (by decide)))).mp q))]
        exact due 1 (by omega) ⟨fun _ => ⟨rfl, gd1 e⟩, fun _ => rfl⟩
theorem okS_iff {t f s : Nat} (ht : t < 64) (hf : f < 64) : okS t f s = true ↔ (∀ k, k < 6 → t.testBit k = true → s.testBit k = true) ∧ (∀ k, k < 6 → f.testBit k = true → s.testBit k = false) := by
  unfold okS
  simp only [Bool.and_eq_true, beq_iff_eq]
  rw [sub_iff ht, dis_iff hf]
theorem eR_isTried (hF : 100 ≤ F) (hT : RT N T) (hW : Wf B T) {v s : Nat} (hv : v < 3) (hs : s < 64) : f_X6_isTried F (nI v) (nI s) N = some (nI (okS (T.2.1 v 2) (T.2.1 v 3) s).toNat, N) := by
  have w2 := hW.2.2.2.2.1 v hv 2 (by omega)
  have w3 := hW.2.2.2.2.1 v hv 3 (by omega)
  have w8 := hW.2.2.2.1
  obtain ⟨r, r1, r2, r3⟩ := lR_isTried (F := F) hT hW hv hs (T.1 3) 0 F 1 (by omega) (by omega) (by omega)
  unfold f_X6_isTried
  rw [i1, i0, r2]
  obtain ⟨tr, bits⟩ := hT.2.2.2.2.2.2.2
  have key : okS (T.2.1 v 2) (T.2.1 v 3) s = true ↔ ∀ j, 0 ≤ j → j < T.1 3 → gdT (N.1 8) v s j := by
    rw [okS_iff w2 w3]
    constructor
    · rintro ⟨p1, p2⟩ j _ hj e k hk ek
      obtain ⟨v0, k0, b0, a1, a2, a3, a4, a5, a6⟩ := tr j hj
      rcases (show b0 = 0 ∨ b0 = 1 by omega) with rfl | rfl
      · rw [p2 k hk ((bits v hv k hk).2.mpr ⟨j, hj, e, ek, a6⟩), a6]; rfl
      · rw [p1 k hk ((bits v hv k hk).1.mpr ⟨j, hj, e, ek, a6⟩), a6]; rfl
    · intro p
      constructor
      · intro k hk e
        obtain ⟨j, hj, b1, b2, b3⟩ := (bits v hv k hk).1.mp e
        have := p j (Nat.zero_le j) hj b1 k hk b2
        rw [b3] at this
        cases q : s.testBit k with
        | true => rfl
        | false => rw [q] at this; exact absurd this (by decide)
      · intro k hk e
        obtain ⟨j, hj, b1, b2, b3⟩ := (bits v hv k hk).2.mp e
        have := p j (Nat.zero_le j) hj b1 k hk b2
        rw [b3] at this
        cases q : s.testBit k with
        | false => rfl
        | true => rw [q] at this; exact absurd this (by decide)
  cases e : okS (T.2.1 v 2) (T.2.1 v 3) s with
  | true =>
    have : r = 1 := r3.mpr ⟨rfl, key.mp e⟩
    rw [this]; rfl
  | false =>
    have : r ≠ 1 := fun q => by
      have := key.mpr (r3.mp q).2
      rw [e] at this; cases this
    have : r = 0 := by omega
    rw [this]; rfl
theorem lR_truths (hF : 100 ≤ F) (hT : RT N T) (hW : Wf B T) {v : Nat} (hv : v < 3) (a : Int32) : ∀ m d n, m + d = 64 → m < n → LX6_truthsOf_13 F n (nI v) a (nI (stM (T.2.1 v 2) (T.2.1 v 3) d)) (stL (T.2.1 v 2) (T.2.1 v 3) d) (nI (stA (T.2.1 v 2) (T.2.1 v 3) d)) (nI m + mI 1) N = some (if a = 0 then nI (stM (T.2.1 v 2) (T.2.1 v 3) 64) else if a = 1 then stL (T.2.1 v 2) (T.2.1 v 3) 64 else if nI (stM (T.2.1 v 2) (T.2.1 v 3) 64) = 0 then stL (T.2.1 v 2) (T.2.1 v 3) 64 else nI (stA (T.2.1 v 2) (T.2.1 v 3) 64), N) := by
  intro m
  induction m with
  | zero =>
    intro d n h hn
    obtain ⟨n, rfl⟩ : ∃ k, n = k + 1 := ⟨n - 1, by omega⟩
    rw [LX6_truthsOf_13_s, if_pos (by decide), show d = 64 by omega]
    repeat' split
    all_goals rfl
  | succ m ih =>
    intro d n h hn
    obtain ⟨n, rfl⟩ : ∃ k, n = k + 1 := ⟨n - 1, by omega⟩
    have em : nI (m + 1) + mI 1 = nI m := pk_m1 m
    have hm : m = 63 - d := by omega
    have := ih (d + 1) n (by omega) (by omega)
    rw [LX6_truthsOf_13_s, em, if_neg (nI_pos (by omega)), bd_of (eR_isTried hF hT hW hv (show m < 64 by omega)), nm_eq, nm_eq, nm_eq, nm_eq, and_nI, nI_1]
    rw [show stM (T.2.1 v 2) (T.2.1 v 3) (d + 1) = stM (T.2.1 v 2) (T.2.1 v 3) d + (okS (T.2.1 v 2) (T.2.1 v 3) (63 - d)).toNat from rfl, show stL (T.2.1 v 2) (T.2.1 v 3) (d + 1) = (if okS (T.2.1 v 2) (T.2.1 v 3) (63 - d) then nI (63 - d) else stL (T.2.1 v 2) (T.2.1 v 3) d) from rfl, show stA (T.2.1 v 2) (T.2.1 v 3) (d + 1) = (if okS (T.2.1 v 2) (T.2.1 v 3) (63 - d) then stA (T.2.1 v 2) (T.2.1 v 3) d &&& (63 - d) else stA (T.2.1 v 2) (T.2.1 v 3) d) from rfl, ← hm] at this
    cases e : okS (T.2.1 v 2) (T.2.1 v 3) m with
    | true =>
      rw [if_neg (by decide)]
      rw [e, if_pos rfl, if_pos rfl] at this
      exact this
    | false =>
      rw [if_pos (by decide)]
      rw [e, if_neg (by decide), if_neg (by decide)] at this
      exact this
theorem eR_truths (hF : 100 ≤ F) (hT : RT N T) (hW : Wf B T) {v : Nat} (hv : v < 3) (a : Int32) : f_X6_truthsOf F (nI v) a N = some (trE (T.2.1 v 2) (T.2.1 v 3) a, N) := by
  have w2 := hW.2.2.2.2.1 v hv 2 (by omega)
  have w3 := hW.2.2.2.2.1 v hv 3 (by omega)
  have hc := cN_le _ w2 _ w3
  have := lR_truths hF hT hW hv a 64 0 F (by omega) (by omega)
  unfold f_X6_truthsOf
  rw [show nI 64 + mI 1 = (63 : Int32) from by decide] at this
  refine Eq.trans this ?_
  rw [st_many w2 w3]
  unfold trE
  by_cases e : cN (T.2.1 v 2) (T.2.1 v 3) = 0
  · rw [st_none w2 w3 e, e, if_pos rfl, if_pos nI_0]
    by_cases e0 : a = 0
    · rw [if_pos e0, if_pos e0]
    · rw [if_neg e0, if_neg e0]
      split <;> rfl
  · rw [(st_some w2 w3 e).1, (st_some w2 w3 e).2, if_neg e, if_neg (nI_ne0 (by omega) (by omega))]
    by_cases e0 : a = 0
    · rw [if_pos e0, if_pos e0]
    · rw [if_neg e0, if_neg e0]
      split <;> rfl
theorem eC_truths {ht : Nat} (hh : M.1 0 6 = nI ht) (h1 : ht = 1) (hT : CT M 6 T) (hW : Wf B T) {v k : Nat} (hv : v < 3) (hk : k < 3) : f_X5_truths F (nI v) (nI k) M = some (trE (T.2.1 v 2) (T.2.1 v 3) (nI k), M) := by
  have w2 := hW.2.2.2.2.1 v hv 2 (by omega)
  have w3 := hW.2.2.2.2.1 v hv 3 (by omega)
  have hc := cN_le _ w2 _ w3
  unfold f_X5_truths trE
  rw [bd_of (eC_isV hh (by omega) _), if_pos (show ht = 1 ∧ inL (nI v) 3 from ⟨h1, inL_of hv (by omega)⟩), if_neg (show ¬ (1 : Int32) = 0 by decide), if_neg (nI_pos (by omega)), i2, if_pos (nI_le (by omega) (by omega)), gi_nI hv (by omega), nI_clamp (by omega), bd_of (eC_poss hT hW hv), bd_of (eC_poss hT hW hv), hT.2.1 v hv 2 (by omega)]
  by_cases e0 : nI k = 0
  · rw [if_pos e0, if_pos e0]
  · rw [if_neg e0, if_neg e0]
    by_cases e : cN (T.2.1 v 2) (T.2.1 v 3) = 0
    · rw [e, if_pos nI_0, if_pos rfl]
    · rw [if_neg (nI_ne0 (by omega) (by omega)), if_neg e]
theorem sp_truths (hF : 100 ≤ F) (a1 a2 : Int32) : Sp B (f_X5_truths F a1 a2) (f_X6_truths F a1 a2) := by
  intro M N h
  have h' := h
  obtain ⟨n, ht, hi, tn, pg, T, K, h1, h2, h3, h4, h5, h6, h7, h8, h9⟩ := h
  by_cases c : ht = 1 ∧ inL a1 3
  · obtain ⟨v, hv, rfl⟩ := inL_nI c.2 (by omega)
    by_cases c2 : inL a2 3
    · obtain ⟨k, hk, rfl⟩ := inL_nI c2 (by omega)
      refine ⟨_, M, N, eC_truths h2.1 c.1 h5 h7 hv hk, ?_, Rel_up h'⟩
      unfold f_X6_truths
      rw [bd_of (eR_isV h2.2.1 h2.2.2 _), if_pos c, if_neg (by decide), bd_of (e_inL F _ 3 2 N (by decide)), if_pos c2, if_neg (by decide), bd_of (eR_truths hF h6 h7 hv _)]
    · refine ⟨mI 102, M, N, ?_, ?_, Rel_up h'⟩
      · unfold f_X5_truths
        rw [bd_of (eC_isV h2.1 h2.2.2 _), if_pos c, if_neg (by decide)]
        by_cases c1 : a2 < 0
        · rw [if_pos c1]
        · rw [if_neg c1, if_neg (fun q => c2 ⟨by have := mt lt0_iff.mpr c1; omega, by have := (le_nI (n := 2) (by omega)).mp q; omega⟩)]
      · unfold f_X6_truths
        rw [bd_of (eR_isV h2.2.1 h2.2.2 _), if_pos c, if_neg (by decide), bd_of (e_inL F _ 3 2 N (by decide)), if_neg c2, if_pos rfl]
  · refine ⟨mI 101, M, N, ?_, ?_, Rel_up h'⟩
    · unfold f_X5_truths
      rw [bd_of (eC_isV h2.1 h2.2.2 _), if_neg c, if_pos rfl]
    · unfold f_X6_truths
      rw [bd_of (eR_isV h2.2.1 h2.2.2 _), if_neg c, if_pos rfl]
/-! TRY of the reference -/
theorem lR_at24 (hF : 100 ≤ F) (hT : RT N T) (hW : Wf B T) {v k : Nat} (hv : v < 3) (hk : k < 6) (q : Int32 → Int32 → Int32 → Int32 → Int32 → Int32 → Mem → Option (Int32 × Mem)) (best least : Int32) : ∀ d s n, s + d = 64 → d < n → LX6_attemptOf_24 F q n (nI v) best least (nI k) (nI (cnt (T.2.1 v 2 ||| 2 ^ k) (T.2.1 v 3) s)) (nI (cnt (T.2.1 v 2) (T.2.1 v 3 ||| 2 ^ k) s)) (nI s) N = q (nI v) best least (nI k) (nI (cnt (T.2.1 v 2 ||| 2 ^ k) (T.2.1 v 3) 64)) (nI (cnt (T.2.1 v 2) (T.2.1 v 3 ||| 2 ^ k) 64)) N := by
  have w2 := hW.2.2.2.2.1 v hv 2 (by omega)
  have w3 := hW.2.2.2.2.1 v hv 3 (by omega)
  intro d
  induction d with
  | zero =>
    intro s n h hn
    obtain ⟨n, rfl⟩ : ∃ k, n = k + 1 := ⟨n - 1, by omega⟩
    rw [LX6_attemptOf_24_s, i64, if_pos (nI_le (by omega) (by omega)), show s = 64 by omega]
  | succ d ih =>
    intro s n h hn
    obtain ⟨n, rfl⟩ : ∃ k, n = k + 1 := ⟨n - 1, by omega⟩
    have hs : s < 64 := by omega
    have := ih (s + 1) n (by omega) (by omega)
    simp only [cnt] at this
    have o1 : okS (T.2.1 v 2 ||| 2 ^ k) (T.2.1 v 3) s = (okS (T.2.1 v 2) (T.2.1 v 3) s && s.testBit k) := by
      unfold okS
      rw [okT_or _ w2 s hs k hk]
      cases (T.2.1 v 2 &&& s == T.2.1 v 2) <;> cases s.testBit k <;> cases (T.2.1 v 3 &&& s == 0) <;> rfl
    have o2 : okS (T.2.1 v 2) (T.2.1 v 3 ||| 2 ^ k) s = (okS (T.2.1 v 2) (T.2.1 v 3) s && !s.testBit k) := by
      unfold okS
      rw [okF_or _ w3 s hs k hk]
      cases (T.2.1 v 2 &&& s == T.2.1 v 2) <;> cases s.testBit k <;> cases (T.2.1 v 3 &&& s == 0) <;> rfl
    rw [o1, o2] at this
    rw [LX6_attemptOf_24_s, i64, if_neg (nI_ge (by omega) (by omega)), bd_of (eR_isTried hF hT hW hv hs), bit_shr s hs k hk]
    simp only [nm_eq, nI_1, Int32.add_zero]
    cases e : okS (T.2.1 v 2) (T.2.1 v 3) s with
    | false =>
      rw [e] at this
      rw [if_pos (by decide), if_pos (by decide)]
      exact this
    | true =>
      rw [e] at this
      cases z : s.testBit k with
      | true =>
        rw [z] at this
        rw [if_neg (by decide), if_pos (by decide), if_neg (by decide), if_neg (by decide)]
        exact this
      | false =>
        rw [z] at this
        rw [if_neg (by decide), if_neg (by decide), if_neg (by decide), if_pos (by decide)]
        exact this
theorem lR_at8 (hF : 100 ≤ F) (hT : RT N T) (hW : Wf B T) {v : Nat} (hv : v < 3) : ∀ d k n best least, k + d = 6 → d < n → least ≤ 65 → LX6_attemptOf_8 F n (nI v) best (nI least) (nI k) N = some (atL (T.2.1 v 2) (T.2.1 v 3) d k best least, N) := by
  have w2 := hW.2.2.2.2.1 v hv 2 (by omega)
  have w3 := hW.2.2.2.2.1 v hv 3 (by omega)
  intro d
  induction d with
  | zero =>
    intro k n best least h hn hl
    obtain ⟨n, rfl⟩ : ∃ k, n = k + 1 := ⟨n - 1, by omega⟩
    rw [LX6_attemptOf_8_s, i6, if_pos (nI_le (by omega) (by omega))]; rfl
  | succ d ih =>
    intro k n best least h hn hl
    obtain ⟨n, rfl⟩ : ∃ k, n = k + 1 := ⟨n - 1, by omega⟩
    have hk : k < 6 := by omega
    have t2 := or64 w2 (pow64 hk)
    have f2 := or64 w3 (pow64 hk)
    have ca := cN_le _ t2 _ w3
    have cb := cN_le _ w2 _ f2
    have hw : wsN (T.2.1 v 2) (T.2.1 v 3) k ≤ 64 := by unfold wsN; split <;> omega
    rw [LX6_attemptOf_8_s, i6, if_neg (nI_ge (by omega) (by omega)), show (0 : Int32) = nI (cnt (T.2.1 v 2 ||| 2 ^ k) (T.2.1 v 3) 0) from rfl]
    rw [show (nI (cnt (T.2.1 v 2 ||| 2 ^ k) (T.2.1 v 3) 0) : Int32) = nI 0 from rfl]
    refine (lR_at24 hF hT hW hv hk _ best (nI least) 64 0 F (by omega) (by omega)).trans ?_
    rw [cnt_cN t2 w3, cnt_cN w2 f2]
    simp only [nm_eq, nI_1]
    -- by the worse of the two
    have rest : ∀ w : Nat, w = wsN (T.2.1 v 2) (T.2.1 v 3) k → (if nI w ≤ nI 0 then (if nI least ≤ nI w then LX6_attemptOf_8 F n (nI v) best (nI least) (nI (k + 1)) N else LX6_attemptOf_8 F n (nI v) best (nI w) (nI (k + 1)) N) else (if nI least ≤ nI w then (if nI least ≤ nI w then LX6_attemptOf_8 F n (nI v) best (nI least) (nI (k + 1)) N else LX6_attemptOf_8 F n (nI v) best (nI w) (nI (k + 1)) N) else (if nI least ≤ nI w then LX6_attemptOf_8 F n (nI v) (nI k) (nI least) (nI (k + 1)) N else LX6_attemptOf_8 F n (nI v) (nI k) (nI w) (nI (k + 1)) N))) = some (atL (T.2.1 v 2) (T.2.1 v 3) (d + 1) k best least, N) := by
      intro w ew
      have hw' : w ≤ 64 := by rw [ew]; exact hw
      simp only [atL]
      rw [← ew]
      by_cases p : w = 0
      · subst p
        rw [if_pos (show nI 0 ≤ nI 0 from nI_le (Nat.le_refl 0) (by omega)), if_neg (show ¬ (0 < 0 ∧ 0 < least) from fun q => by omega)]
        by_cases l0 : 0 < least
        · rw [if_neg (show ¬ nI least ≤ nI 0 from nI_ge (by omega) (by omega)), if_pos l0]
          exact ih (k + 1) n best 0 (by omega) (by omega) (by omega)
        · rw [if_pos (show nI least ≤ nI 0 from nI_le (by omega) (by omega)), if_neg l0]
          exact ih (k + 1) n best least (by omega) (by omega) hl
      · rw [if_neg (show ¬ nI w ≤ nI 0 from nI_ge (by omega) (by omega))]
        by_cases l0 : w < least
        · have ng : ¬ nI least ≤ nI w := nI_ge l0 (by omega)
          rw [if_neg ng, if_neg ng, if_pos ⟨by omega, l0⟩, if_pos l0]
          exact ih (k + 1) n (nI k) w (by omega) (by omega) (by omega)
        · have ng : nI least ≤ nI w := nI_le (by omega) (by omega)
          rw [if_pos ng, if_pos ng, if_neg (fun q => l0 q.2), if_neg l0]
          exact ih (k + 1) n best least (by omega) (by omega) hl
    by_cases c : cN (T.2.1 v 2 ||| 2 ^ k) (T.2.1 v 3) ≤ cN (T.2.1 v 2) (T.2.1 v 3 ||| 2 ^ k)
    · rw [if_pos (nI_le c (by omega))]
      exact rest _ (by unfold wsN; rw [if_pos c])
    · rw [if_neg (nI_ge (by omega) (by omega))]
      exact rest _ (by unfold wsN; rw [if_neg c])
theorem eR_attempt (hF : 100 ≤ F) (hT : RT N T) (hW : Wf B T) {v : Nat} (hv : v < 3) : f_X6_attemptOf F (nI v) N = some (tryE (T.2.1 v 2) (T.2.1 v 3), N) := by
  have w2 := hW.2.2.2.2.1 v hv 2 (by omega)
  have w3 := hW.2.2.2.2.1 v hv 3 (by omega)
  rw [← atL_try _ w2 _ w3]
  exact lR_at8 hF hT hW hv 6 0 F (mI 1) 65 (by omega) (by omega) (by omega)
theorem eC_attempt (hF : 100 ≤ F) {ht : Nat} (hh : M.1 0 6 = nI ht) (h1 : ht = 1) (hT : CT M 6 T) (hW : Wf B T) {v : Nat} (hv : v < 3) : f_X5_attempt F (nI v) M = some (tryE (T.2.1 v 2) (T.2.1 v 3), M) := by
  unfold f_X5_attempt
  rw [bd_of (eC_isV hh (by omega) _), if_pos (show ht = 1 ∧ inL (nI v) 3 from ⟨h1, inL_of hv (by omega)⟩), if_neg (show ¬ (1 : Int32) = 0 by decide), gi_nI hv (by omega), nI_clamp (by omega), bd_of (eC_try hF hT hW hv)]
theorem sp_attempt (hF : 100 ≤ F) (a1 : Int32) : Sp B (f_X5_attempt F a1) (f_X6_attempt F a1) := by
  intro M N h
  have h' := h
  obtain ⟨n, ht, hi, tn, pg, T, K, h1, h2, h3, h4, h5, h6, h7, h8, h9⟩ := h
  by_cases c : ht = 1 ∧ inL a1 3
  · obtain ⟨v, hv, rfl⟩ := inL_nI c.2 (by omega)
    refine ⟨_, M, N, eC_attempt hF h2.1 c.1 h5 h7 hv, ?_, Rel_up h'⟩
    unfold f_X6_attempt
    rw [bd_of (eR_isV h2.2.1 h2.2.2 _), if_pos c, if_neg (by decide), bd_of (eR_attempt hF h6 h7 hv)]
  · refine ⟨mI 101, M, N, ?_, ?_, Rel_up h'⟩
    · unfold f_X5_attempt
      rw [bd_of (eC_isV h2.1 h2.2.2 _), if_neg c, if_pos rfl]
    · unfold f_X6_attempt
      rw [bd_of (eR_isV h2.2.1 h2.2.2 _), if_neg c, if_pos rfl]
end TR
