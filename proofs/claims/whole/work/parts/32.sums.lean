/-! sums over the convicts and the victims -/
def sm (f : Nat → Nat) : Nat → Nat
  | 0 => 0
  | n + 1 => sm f n + f n
def cvN (T : TA) (v : Nat) : Nat → Nat
  | 0 => 0
  | n + 1 => if T.2.2 n 1 = v then cvN T v n ||| 2 ^ n else cvN T v n
theorem sm_le {f : Nat → Nat} {k : Nat} : ∀ n, (∀ i, i < n → f i ≤ k) → sm f n ≤ n * k
  | 0, _ => by simp [sm]
  | n + 1, h => by
    have := sm_le n (fun i hi => h i (by omega))
    have := h n (by omega)
    have e : (n + 1) * k = n * k + k := Nat.succ_mul n k
    simp only [sm]
    omega
theorem cvN_lt (T : TA) (v : Nat) : ∀ n, cvN T v n < 2 ^ n
  | 0 => by simp [cvN]
  | n + 1 => by
    have h := cvN_lt T v n
    have h2 : 2 ^ (n + 1) = 2 * 2 ^ n := by rw [Nat.pow_succ]; omega
    simp only [cvN]
    split
    · exact Nat.or_lt_two_pow (by omega) (by omega)
    · omega
theorem cvN_bit (T : TA) (v : Nat) : ∀ n c, (cvN T v n).testBit c = (decide (c < n) && decide (T.2.2 c 1 = v))
  | 0, c => by simp [cvN]
  | n + 1, c => by
    have h := cvN_bit T v n c
    simp only [cvN]
    by_cases hc : c = n
    · subst hc
      by_cases e : T.2.2 c 1 = v
      · rw [if_pos e, Nat.testBit_or, h, Nat.testBit_two_pow_self]; simp [e]
      · rw [if_neg e, h]; simp [e]
    · by_cases e : T.2.2 n 1 = v
      · rw [if_pos e, Nat.testBit_or, h, Nat.testBit_two_pow_of_ne (Ne.symm hc)]
        by_cases hl : c < n
        · simp [hl, show c < n + 1 by omega]
        · simp [hl, show ¬ c < n + 1 by omega]
      · rw [if_neg e, h]
        by_cases hl : c < n
        · simp [hl, show c < n + 1 by omega]
        · simp [hl, show ¬ c < n + 1 by omega]
theorem bit4 : ∀ x, x < 16 → ∀ k, k < 4 → (nI x &&& ((1 : Int32) <<< (nI k &&& 31)) = 0 ↔ x.testBit k = false) := by decide +kernel
section S1
variable {B : Nat} {M N : Mem} {b : Nat} {T : TA} {F : Nat}
theorem CT_cc (hT : CT M b T) : M.1 b 2 = nI (T.1 0) := hT.1 0 (by omega)
theorem CT_sh (hT : CT M b T) : M.1 b 3 = nI (T.1 1) := hT.1 1 (by omega)
theorem CT_day (hT : CT M b T) : M.1 b 4 = nI (T.1 2) := hT.1 2 (by omega)
theorem CT_q (hT : CT M b T) : M.1 b 5 = nI (T.1 3) := hT.1 3 (by omega)
theorem lC_convictsOf (hT : CT M b T) (hW : Wf B T) {v : Nat} (hv : v < 3) : ∀ d c n, c + d = T.1 0 → d < n → LX2_convictsOf_4 F n b (nI v) (nI (cvN T v c)) (nI c) M = some (nI (cvN T v (T.1 0)), M) := by
  have h4 := hW.1
  intro d
  induction d with
  | zero =>
    intro c n h hn
    obtain ⟨n, rfl⟩ : ∃ k, n = k + 1 := ⟨n - 1, by omega⟩
    rw [LX2_convictsOf_4_s, CT_cc hT, if_pos (nI_le (by omega) (by omega)), show c = T.1 0 by omega]
  | succ d ih =>
    intro c n h hn
    obtain ⟨n, rfl⟩ : ∃ k, n = k + 1 := ⟨n - 1, by omega⟩
    have hc : c < 4 := by omega
    have w1 := (hW.2.2.2.2.2 c hc).2.1
    rw [LX2_convictsOf_4_s, CT_cc hT, if_neg (nI_ge (by omega) (by omega)), gi_nI hc (by omega), nI_clamp (by omega), hT.2.2 c hc 1 (by omega), shl_pow c (by omega)]
    have := ih (c + 1) n (by omega) (by omega)
    by_cases e : T.2.2 c 1 = v
    · rw [e, if_pos rfl, nm_eq, nm_eq, or_nI, nI_1]
      rwa [show cvN T v (c + 1) = cvN T v c ||| 2 ^ c from if_pos e] at this
    · rw [if_neg (fun q => e ((nI_eq (by omega) (by omega)).mp q)), nm_eq, nI_1]
      rwa [show cvN T v (c + 1) = cvN T v c from if_neg e] at this
theorem eC_convictsOf (hF : 100 ≤ F) (hT : CT M b T) (hW : Wf B T) {v : Nat} (hv : v < 3) : f_X2_convictsOf F b (nI v) M = some (nI (cvN T v (T.1 0)), M) := lC_convictsOf hT hW hv (T.1 0) 0 F (by omega) (by have := hW.1; omega)
/-- the fines of those whose bit is set -/
def fiN (T : TA) (m : Nat) : Nat → Nat := fun c => if m.testBit c then T.2.2 c 2 else 0
theorem lC_finesOf (hT : CT M b T) (hW : Wf B T) {m : Nat} (hm : m < 16) : ∀ d c n, c + d = T.1 0 → d < n → LX2_finesOf_4 F n b (nI m) (nI (sm (fiN T m) c)) (nI c) M = some (nI (sm (fiN T m) (T.1 0)), M) := by
  have h4 := hW.1
  intro d
  induction d with
  | zero =>
    intro c n h hn
    obtain ⟨n, rfl⟩ : ∃ k, n = k + 1 := ⟨n - 1, by omega⟩
    rw [LX2_finesOf_4_s, CT_cc hT, if_pos (nI_le (by omega) (by omega)), show c = T.1 0 by omega]
  | succ d ih =>
    intro c n h hn
    obtain ⟨n, rfl⟩ : ∃ k, n = k + 1 := ⟨n - 1, by omega⟩
    have hc : c < 4 := by omega
    have := ih (c + 1) n (by omega) (by omega)
    rw [LX2_finesOf_4_s, CT_cc hT, if_neg (nI_ge (by omega) (by omega)), nI_clamp (by omega), hT.2.2 c hc 2 (by omega)]
    cases e : m.testBit c with
    | false =>
      rw [if_pos ((bit4 m hm c hc).mpr e), nm_eq, nI_1]
      rwa [show sm (fiN T m) (c + 1) = sm (fiN T m) c by simp [sm, fiN, e]] at this
    | true =>
      rw [if_neg (fun q => by have := (bit4 m hm c hc).mp q; rw [e] at this; cases this), gi_nI hc (by omega), nm_eq, nm_eq, nI_add, nI_1]
      rwa [show sm (fiN T m) (c + 1) = sm (fiN T m) c + T.2.2 c 2 by simp [sm, fiN, e]] at this
theorem eC_finesOf (hF : 100 ≤ F) (hT : CT M b T) (hW : Wf B T) {m : Nat} (hm : m < 16) : f_X2_finesOf F b (nI m) M = some (nI (sm (fiN T m) (T.1 0)), M) := lC_finesOf hT hW hm (T.1 0) 0 F (by omega) (by have := hW.1; omega)
theorem sm_congr {f g : Nat → Nat} : ∀ n, (∀ i, i < n → f i = g i) → sm f n = sm g n
  | 0, _ => rfl
  | n + 1, h => by simp only [sm]; rw [sm_congr n (fun i hi => h i (by omega)), h n (by omega)]
theorem allC : ∀ c, c ≤ 4 → ((1 : Int32) <<< (nI c &&& 31)) - 1 = nI (2 ^ c - 1) := by decide +kernel
theorem allC_bit : ∀ c, c ≤ 4 → ∀ i, i < c → (2 ^ c - 1).testBit i = true := by decide +kernel
theorem allC_lt : ∀ c, c ≤ 4 → 2 ^ c - 1 < 16 := by decide +kernel
/-- count(4) -/
theorem eC_finesAll (hF : 100 ≤ F) (hT : CT M b T) (hW : Wf B T) : bd (f_X2_allConvicts F b M) (fun r M1 => bd (f_X2_finesOf F b r M1) (fun r M2 => some (r, M2))) = some (nI (sm (fun c => T.2.2 c 2) (T.1 0)), M) := by
  unfold f_X2_allConvicts
  rw [bd_some, CT_cc hT, allC _ hW.1, bd_of (eC_finesOf hF hT hW (allC_lt _ hW.1))]
  rw [sm_congr (f := fiN T (2 ^ T.1 0 - 1)) (g := fun c => T.2.2 c 2) _ (fun i hi => by simp [fiN, allC_bit _ hW.1 i hi])]
theorem lC_needsOfAll (hB : B ≤ 1000) (hT : CT M b T) (hW : Wf B T) : ∀ d c n, c + d = T.1 0 → d < n → LX2_needsOfAll_4 F n b (nI (sm (needN T) c)) (nI c) M = some (nI (sm (needN T) (T.1 0)), M) := by
  have h4 := hW.1
  intro d
  induction d with
  | zero =>
    intro c n h hn
    obtain ⟨n, rfl⟩ : ∃ k, n = k + 1 := ⟨n - 1, by omega⟩
    rw [LX2_needsOfAll_4_s, CT_cc hT, if_pos (nI_le (by omega) (by omega)), show c = T.1 0 by omega]
  | succ d ih =>
    intro c n h hn
    obtain ⟨n, rfl⟩ : ∃ k, n = k + 1 := ⟨n - 1, by omega⟩
    have hc : c < 4 := by omega
    rw [LX2_needsOfAll_4_s, CT_cc hT, if_neg (nI_ge (by omega) (by omega)), gi_nI hc (by omega), nI_clamp (by omega), bd_of (eC_needs hB hT hW hc), nm_eq, nm_eq, nI_add, nI_1]
    exact ih (c + 1) n (by omega) (by omega)
theorem eC_needsOfAll (hF : 100 ≤ F) (hB : B ≤ 1000) (hT : CT M b T) (hW : Wf B T) : f_X2_needsOfAll F b M = some (nI (sm (needN T) (T.1 0)), M) := lC_needsOfAll hB hT hW (T.1 0) 0 F (by omega) (by have := hW.1; omega)
def pdN (T : TA) : Nat → Nat := fun c => if T.2.2 c 2 = 0 then 1 else 0
theorem lC_paidCount (hT : CT M b T) (hW : Wf B T) : ∀ d c n, c + d = T.1 0 → d < n → LX2_paidCount_4 F n b (nI (sm (pdN T) c)) (nI c) M = some (nI (sm (pdN T) (T.1 0)), M) := by
  have h4 := hW.1
  intro d
  induction d with
  | zero =>
    intro c n h hn
    obtain ⟨n, rfl⟩ : ∃ k, n = k + 1 := ⟨n - 1, by omega⟩
    rw [LX2_paidCount_4_s, CT_cc hT, if_pos (nI_le (by omega) (by omega)), show c = T.1 0 by omega]
  | succ d ih =>
    intro c n h hn
    obtain ⟨n, rfl⟩ : ∃ k, n = k + 1 := ⟨n - 1, by omega⟩
    have hc : c < 4 := by omega
    have := ih (c + 1) n (by omega) (by omega)
    rw [LX2_paidCount_4_s, CT_cc hT, if_neg (nI_ge (by omega) (by omega)), gi_nI hc (by omega), nI_clamp (by omega), bd_of (eC_paid hT hW hc)]
    by_cases e : T.2.2 c 2 = 0
    · rw [if_pos e, if_neg (by decide), nm_eq, nm_eq, nI_1, nI_1]
      rwa [show sm (pdN T) (c + 1) = sm (pdN T) c + 1 by simp [sm, pdN, e]] at this
    · rw [if_neg e, if_pos rfl, nm_eq, nI_1]
      rwa [show sm (pdN T) (c + 1) = sm (pdN T) c by simp [sm, pdN, e]] at this
theorem eC_paidCount (hF : 100 ≤ F) (hT : CT M b T) (hW : Wf B T) : f_X2_paidCount F b M = some (nI (sm (pdN T) (T.1 0)), M) := lC_paidCount hT hW (T.1 0) 0 F (by omega) (by have := hW.1; omega)
theorem lC_truthsOfAll (hT : CT M b T) (hW : Wf B T) : ∀ d v n, v + d = 3 → d < n → LX2_truthsOfAll_4 F n b (nI (sm (fun v => pc (T.2.1 v 0)) v)) (nI v) M = some (nI (sm (fun v => pc (T.2.1 v 0)) 3), M) := by
  intro d
  induction d with
  | zero =>
    intro c n h hn
    obtain ⟨n, rfl⟩ : ∃ k, n = k + 1 := ⟨n - 1, by omega⟩
    rw [LX2_truthsOfAll_4_s, i3, if_pos (nI_le (by omega) (by omega)), show c = 3 by omega]
  | succ d ih =>
    intro c n h hn
    obtain ⟨n, rfl⟩ : ∃ k, n = k + 1 := ⟨n - 1, by omega⟩
    have hc : c < 3 := by omega
    rw [LX2_truthsOfAll_4_s, i3, if_neg (nI_ge (by omega) (by omega)), gi_nI hc (by omega), nI_clamp (by omega), hT.2.1 c hc 0 (by omega), bd_of (e_bitCount F (hW.2.2.2.2.1 c hc 0 (by omega)) M), nm_eq, nm_eq, nI_add, nI_1]
    exact ih (c + 1) n (by omega) (by omega)
theorem eC_truthsOfAll (hF : 100 ≤ F) (hT : CT M b T) (hW : Wf B T) : f_X2_truthsOfAll F b M = some (nI (sm (fun v => pc (T.2.1 v 0)) 3), M) := lC_truthsOfAll hT hW 3 0 F (by omega) (by omega)
theorem lC_usedOfAll (hT : CT M b T) (hW : Wf B T) : ∀ d v n, v + d = 3 → d < n → LX2_usedOfAll_4 F n b (nI (sm (fun v => pc (T.2.1 v 1)) v)) (nI v) M = some (nI (sm (fun v => pc (T.2.1 v 1)) 3), M) := by
  intro d
  induction d with
  | zero =>
    intro c n h hn
    obtain ⟨n, rfl⟩ : ∃ k, n = k + 1 := ⟨n - 1, by omega⟩
    rw [LX2_usedOfAll_4_s, i3, if_pos (nI_le (by omega) (by omega)), show c = 3 by omega]
  | succ d ih =>
    intro c n h hn
    obtain ⟨n, rfl⟩ : ∃ k, n = k + 1 := ⟨n - 1, by omega⟩
    have hc : c < 3 := by omega
    rw [LX2_usedOfAll_4_s, i3, if_neg (nI_ge (by omega) (by omega)), gi_nI hc (by omega), nI_clamp (by omega), hT.2.1 c hc 1 (by omega), bd_of (e_bitCount F (hW.2.2.2.2.1 c hc 1 (by omega)) M), nm_eq, nm_eq, nI_add, nI_1]
    exact ih (c + 1) n (by omega) (by omega)
theorem eC_usedOfAll (hF : 100 ≤ F) (hT : CT M b T) (hW : Wf B T) : f_X2_usedOfAll F b M = some (nI (sm (fun v => pc (T.2.1 v 1)) 3), M) := lC_usedOfAll hT hW 3 0 F (by omega) (by omega)
-- the reference's
theorem lR_trueAll (hF : 100 ≤ F) (hT : RT N T) (hW : Wf B T) : ∀ d v n, v + d = 3 → d < n → LX6_trueAll_4 F n (nI (sm (fun v => pc (T.2.1 v 0)) v)) (nI v) N = some (nI (sm (fun v => pc (T.2.1 v 0)) 3), N) := by
  intro d
  induction d with
  | zero =>
    intro c n h hn
    obtain ⟨n, rfl⟩ : ∃ k, n = k + 1 := ⟨n - 1, by omega⟩
    rw [LX6_trueAll_4_s, i3, if_pos (nI_le (by omega) (by omega)), show c = 3 by omega]
  | succ d ih =>
    intro c n h hn
    obtain ⟨n, rfl⟩ : ∃ k, n = k + 1 := ⟨n - 1, by omega⟩
    have hc : c < 3 := by omega
    rw [LX6_trueAll_4_s, i3, if_neg (nI_ge (by omega) (by omega)), gi_nI hc (by omega), nI_clamp (by omega), hT.2.2.2.2.1 c hc, bd_of (e_ones hF (hW.2.2.2.2.1 c hc 0 (by omega)) N), nm_eq, nm_eq, nI_add, nI_1]
    exact ih (c + 1) n (by omega) (by omega)
theorem eR_trueAll (hF : 100 ≤ F) (hT : RT N T) (hW : Wf B T) : f_X6_trueAll F N = some (nI (sm (fun v => pc (T.2.1 v 0)) 3), N) := lR_trueAll hF hT hW 3 0 F (by omega) (by omega)
theorem lR_paidMany (hT : RT N T) (hW : Wf B T) : ∀ d c n, c + d = T.1 0 → d < n → LX6_paidMany_4 F n (nI (sm (pdN T) c)) (nI c) N = some (nI (sm (pdN T) (T.1 0)), N) := by
  have h4 := hW.1
  intro d
  induction d with
  | zero =>
    intro c n h hn
    obtain ⟨n, rfl⟩ : ∃ k, n = k + 1 := ⟨n - 1, by omega⟩
    rw [LX6_paidMany_4_s, hT.1, if_pos (nI_le (by omega) (by omega)), show c = T.1 0 by omega]
  | succ d ih =>
    intro c n h hn
    obtain ⟨n, rfl⟩ : ∃ k, n = k + 1 := ⟨n - 1, by omega⟩
    have hc : c < 4 := by omega
    have w2 := (hW.2.2.2.2.2 c hc).2.2.1
    have := ih (c + 1) n (by omega) (by omega)
    rw [LX6_paidMany_4_s, hT.1, if_neg (nI_ge (by omega) (by omega)), ix6_2 hc, gi6 hc (by omega), cl6 hc (by omega), hT.2.2.2.2.2.2.1 c hc 2 (by omega)]
    by_cases e : T.2.2 c 2 = 0
    · rw [e, if_pos nI_0, nm_eq, nm_eq, nI_1, nI_1]
      rwa [show sm (pdN T) (c + 1) = sm (pdN T) c + 1 by simp [sm, pdN, e]] at this
    · rw [if_neg (nI_ne0 (by omega) (by omega)), nm_eq, nm_eq, nI_1, Int32.add_zero]
      rwa [show sm (pdN T) (c + 1) = sm (pdN T) c by simp [sm, pdN, e]] at this
theorem eR_paidMany (hF : 100 ≤ F) (hT : RT N T) (hW : Wf B T) : f_X6_paidMany F N = some (nI (sm (pdN T) (T.1 0)), N) := lR_paidMany hT hW (T.1 0) 0 F (by omega) (by have := hW.1; omega)
theorem lR_finesAll (hT : RT N T) (hW : Wf B T) : ∀ d c n, c + d = T.1 0 → d < n → LX6_finesAll_4 F n (nI (sm (fun c => T.2.2 c 2) c)) (nI c) N = some (nI (sm (fun c => T.2.2 c 2) (T.1 0)), N) := by
  have h4 := hW.1
  intro d
  induction d with
  | zero =>
    intro c n h hn
    obtain ⟨n, rfl⟩ : ∃ k, n = k + 1 := ⟨n - 1, by omega⟩
    rw [LX6_finesAll_4_s, hT.1, if_pos (nI_le (by omega) (by omega)), show c = T.1 0 by omega]
  | succ d ih =>
    intro c n h hn
    obtain ⟨n, rfl⟩ : ∃ k, n = k + 1 := ⟨n - 1, by omega⟩
    have hc : c < 4 := by omega
    rw [LX6_finesAll_4_s, hT.1, if_neg (nI_ge (by omega) (by omega)), ix6_2 hc, gi6 hc (by omega), cl6 hc (by omega), hT.2.2.2.2.2.2.1 c hc 2 (by omega), nm_eq, nm_eq, nI_add, nI_1]
    exact ih (c + 1) n (by omega) (by omega)
theorem eR_finesAll (hF : 100 ≤ F) (hT : RT N T) (hW : Wf B T) : f_X6_finesAll F N = some (nI (sm (fun c => T.2.2 c 2) (T.1 0)), N) := lR_finesAll hT hW (T.1 0) 0 F (by omega) (by have := hW.1; omega)
theorem lR_needsAll (hB : B ≤ 1000) (hT : RT N T) (hW : Wf B T) : ∀ d c n, c + d = T.1 0 → d < n → LX6_needsAll_4 F n (nI (sm (needN T) c)) (nI c) N = some (nI (sm (needN T) (T.1 0)), N) := by
  have h4 := hW.1
  intro d
  induction d with
  | zero =>
    intro c n h hn
    obtain ⟨n, rfl⟩ : ∃ k, n = k + 1 := ⟨n - 1, by omega⟩
    rw [LX6_needsAll_4_s, hT.1, if_pos (nI_le (by omega) (by omega)), show c = T.1 0 by omega]
  | succ d ih =>
    intro c n h hn
    obtain ⟨n, rfl⟩ : ∃ k, n = k + 1 := ⟨n - 1, by omega⟩
    have hc : c < 4 := by omega
    rw [LX6_needsAll_4_s, hT.1, if_neg (nI_ge (by omega) (by omega)), bd_of (eR_needs hB hT hW hc), nm_eq, nm_eq, nI_add, nI_1]
    exact ih (c + 1) n (by omega) (by omega)
theorem eR_needsAll (hF : 100 ≤ F) (hB : B ≤ 1000) (hT : RT N T) (hW : Wf B T) : f_X6_needsAll F N = some (nI (sm (needN T) (T.1 0)), N) := lR_needsAll hB hT hW (T.1 0) 0 F (by omega) (by have := hW.1; omega)
/-- what tellVictim answers, behind its loop -/
def tvE (T : TA) (v : Nat) (a : Int32) : Int32 := if a = 0 then nI (T.2.1 v 0) else if a = 1 then nI (T.2.1 v 1) else if a = 2 then nI (cvN T v (T.1 0)) else if a = 3 then nI (sm (fiN T (cvN T v (T.1 0))) (T.1 0)) else mI 102
theorem lR_tellVictim (hT : RT N T) (hW : Wf B T) {v : Nat} (hv : v < 3) (a : Int32) : ∀ d c n, c + d = T.1 0 → d < n → LX6_tellVictim_8 F n (nI v) a (nI (cvN T v c)) (nI (sm (fiN T (cvN T v (T.1 0))) c)) (nI c) N = some (tvE T v a, N) := by
  have h4 := hW.1
  intro d
  induction d with
  | zero =>
    intro c n h hn
    obtain ⟨n, rfl⟩ : ∃ k, n = k + 1 := ⟨n - 1, by omega⟩
    rw [LX6_tellVictim_8_s, hT.1, if_pos (nI_le (by omega) (by omega)), show c = T.1 0 by omega, gi_nI hv (by omega), gi_nI hv (by omega), nI_clamp (by omega), hT.2.2.2.2.1 v hv, hT.2.2.2.2.2.1 v hv]
    unfold tvE
    split
    · rfl
    · split
      · rfl
      · split
        · rfl
        · split <;> rfl
  | succ d ih =>
    intro c n h hn
    obtain ⟨n, rfl⟩ : ∃ k, n = k + 1 := ⟨n - 1, by omega⟩
    have hc : c < 4 := by omega
    have w1 := (hW.2.2.2.2.2 c hc).2.1
    have := ih (c + 1) n (by omega) (by omega)
    have hb : (cvN T v (T.1 0)).testBit c = decide (T.2.2 c 1 = v) := by rw [cvN_bit]; simp [show c < T.1 0 by omega]
    simp only [LX6_tellVictim_8_s, hT.1, if_neg (nI_ge (show c < T.1 0 by omega) (by omega)), ix6_1 hc, ix6_2 hc, gi6 hc (show 1 < 6 by omega), gi6 hc (show 2 < 6 by omega), cl6 hc (show 1 < 6 by omega), cl6 hc (show 2 < 6 by omega), hT.2.2.2.2.2.2.1 c hc 1 (by omega), hT.2.2.2.2.2.2.1 c hc 2 (by omega), nm_eq, nI_1, shl_pow c (by omega), or_nI, nI_add, Int32.add_zero, Int32.or_zero]
    by_cases e : T.2.2 c 1 = v
    · rw [e, if_pos rfl, if_pos rfl]
      rwa [show cvN T v (c + 1) = cvN T v c ||| 2 ^ c from if_pos e, show sm (fiN T (cvN T v (T.1 0))) (c + 1) = sm (fiN T (cvN T v (T.1 0))) c + T.2.2 c 2 by simp [sm, fiN, hb, e]] at this
    · have ne : ¬ nI (T.2.2 c 1) = nI v := fun q => e ((nI_eq (by omega) (by omega)).mp q)
      rw [if_neg ne, if_neg ne]
      rwa [show cvN T v (c + 1) = cvN T v c from if_neg e, show sm (fiN T (cvN T v (T.1 0))) (c + 1) = sm (fiN T (cvN T v (T.1 0))) c by simp [sm, fiN, hb, e]] at this
theorem eR_tellVictim (hF : 100 ≤ F) (hT : RT N T) (hW : Wf B T) {v : Nat} (hv : v < 3) (a : Int32) : f_X6_tellVictim F (nI v) a N = some (tvE T v a, N) := lR_tellVictim hT hW hv a (T.1 0) 0 F (by omega) (by have := hW.1; omega)
end S1
