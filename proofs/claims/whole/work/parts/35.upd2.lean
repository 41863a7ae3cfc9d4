section U2
variable {B : Nat} {M N : Mem} {b : Nat} {T : TA} {F : Nat}
/-- what the reference's says() may change -/
def frS (N N' : Mem) : Prop := (∀ i, i ≠ 0 → i ≠ 3 → i ≠ 4 → N'.1 i = N.1 i) ∧ (∀ j, j ≠ 3 → N'.1 0 j = N.1 0 j) ∧ N'.2 = N.2
theorem frS_rf : frS N N := ⟨fun _ _ _ _ => rfl, fun _ _ => rfl, rfl⟩
theorem frS.tr {N1 N2 : Mem} (h1 : frS N N1) (h2 : frS N1 N2) : frS N N2 := ⟨fun i a b c => (h2.1 i a b c).trans (h1.1 i a b c), fun j a => (h2.2.1 j a).trans (h1.2.1 j a), h2.2.2.trans h1.2.2⟩
theorem frS_3 {k : Nat} {x : Int32} : frS N (u2 N 3 k x) := ⟨fun i _ h _ => u2_ne h, fun j _ => by rw [u2_ne (by omega)], rfl⟩
theorem frS_4 {k : Nat} {x : Int32} : frS N (u2 N 4 k x) := ⟨fun i _ _ h => u2_ne h, fun j _ => by rw [u2_ne (by omega)], rfl⟩
theorem frS_0 {x : Int32} : frS N (u2 N 0 3 x) := ⟨fun i h _ _ => u2_ne h, fun j h => by rw [u2_at, if_neg (fun q => h q.2)], rfl⟩
theorem eR_cnt (hB : B ≤ 1000) (hT : RT N T) (hW : Wf B T) {c k f : Nat} (hc : c < 4) (hk : k < 6) (hf : 1 ≤ T.2.2 c 2) (hs : f ≤ T.1 1) : ∃ N', JX6_says_117 F (nI c) (nI k) (nI (T.2.2 c 1)) (nI f) (nI (T.1 1)) N = some (1, N') ∧ RT N' (cntN (sS T 1 (T.1 1 - f)) c k) ∧ frS N N' := by
  obtain ⟨w0, w1, w2, w3, w4, w5⟩ := hW.2.2.2.2.2 c hc
  have wu := hW.2.2.2.2.1 _ w1 1 (by omega)
  have r1 := RT_sc hT (k := 3) (i := 1) (by omega) (T.1 1 - f)
  have r2 := RT_used r1 (v0 := T.2.2 c 1) w1 (T.2.1 (T.2.2 c 1) 1 ||| 2 ^ k)
  have r3 := RT_row r2 (i := 5) hc (by omega) (T.2.2 c 5 + 1)
  unfold JX6_says_117
  rw [nm_eq, pk_sub hs, nm_eq, gi_nI w1 (by omega), nm_eq, nI_clamp (by omega), r1.2.2.2.2.2.1 _ w1, shl_pow k (by omega), or_nI, gi_nI w1 (by omega), nm_eq, ix6_5 hc, ix6_2 hc, ix6z]
  simp only [nm_eq, gi6 hc (show 5 < 6 by omega), gi6 hc (show 2 < 6 by omega), gi6z hc, cl6 hc (show 5 < 6 by omega), cl6 hc (show 2 < 6 by omega), cl6z hc]
  rw [show (u2 (u2 N 0 3 (nI (T.1 1 - f))) 3 (T.2.2 c 1) (nI ((sS T 1 (T.1 1 - f)).2.1 (T.2.2 c 1) 1 ||| 2 ^ k))).1 4 (6 * c + 5) = nI (T.2.2 c 5) from r2.2.2.2.2.2.2.1 c hc 5 (by omega), nI_1]
  rw [show (sS T 1 (T.1 1 - f)).2.1 = T.2.1 from rfl]
  rw [r3.2.2.2.2.2.2.1 c hc 0 (by omega), r3.2.2.2.2.2.2.1 c hc 5 (by omega), r3.2.2.2.2.2.2.1 c hc 2 (by omega)]
  rw [show (sC (sV (sS T 1 (T.1 1 - f)) (T.2.2 c 1) 1 (T.2.1 (T.2.2 c 1) 1 ||| 2 ^ k)) c 5 (T.2.2 c 5 + 1)).2.2 c 0 = T.2.2 c 0 from if_neg (fun q => by omega), show (sC (sV (sS T 1 (T.1 1 - f)) (T.2.2 c 1) 1 (T.2.1 (T.2.2 c 1) 1 ||| 2 ^ k)) c 5 (T.2.2 c 5 + 1)).2.2 c 5 = T.2.2 c 5 + 1 from if_pos ⟨rfl, rfl⟩, show (sC (sV (sS T 1 (T.1 1 - f)) (T.2.2 c 1) 1 (T.2.1 (T.2.2 c 1) 1 ||| 2 ^ k)) c 5 (T.2.2 c 5 + 1)).2.2 c 2 = T.2.2 c 2 from if_neg (fun q => by omega)]
  rw [i2, i3, i1, i0, pk_rem (by omega) (by omega) (by omega), pk_sub hf, pk_sub (Nat.zero_le _), Nat.sub_zero]
  have fr : ∀ x y z w : Int32, ∀ v, frS N (u2 (u2 (u2 (u2 N 0 3 x) 3 v y) 4 (6 * c + 5) z) 4 (6 * c + 2) w) := fun x y z w v => ((frS_0.tr frS_3).tr frS_4).tr frS_4
  have fin : ∀ y, RT (u2 (u2 (u2 (u2 N 0 3 (nI (T.1 1 - f))) 3 (T.2.2 c 1) (nI (T.2.1 (T.2.2 c 1) 1 ||| 2 ^ k))) 4 (6 * c + 5) (nI (T.2.2 c 5 + 1))) 4 (6 * c + 2) (nI y)) (sC (sC (sV (sS T 1 (T.1 1 - f)) (T.2.2 c 1) 1 (T.2.1 (T.2.2 c 1) 1 ||| 2 ^ k)) c 5 (T.2.2 c 5 + 1)) c 2 y) := fun y => RT_row r3 (i := 2) hc (by omega) y
  by_cases e3 : T.2.2 c 0 = 3
  · rw [e3, if_pos rfl]
    by_cases e5 : (T.2.2 c 5 + 1) % 2 = 1
    · rw [e5, if_pos rfl]
      refine ⟨_, rfl, ?_, fr _ _ _ _ _⟩
      have := fin (T.2.2 c 2)
      unfold cntN
      rw [show (sS T 1 (T.1 1 - f)).2.2 = T.2.2 from rfl, if_pos ⟨e3, e5⟩]
      exact this
    · rw [if_neg (fun q => e5 ((nI_eq (by omega) (by omega)).mp q))]
      refine ⟨_, rfl, ?_, fr _ _ _ _ _⟩
      have := fin (T.2.2 c 2 - 1)
      unfold cntN
      rw [show (sS T 1 (T.1 1 - f)).2.2 = T.2.2 from rfl, if_neg (fun q => e5 q.2)]
      exact this
  · rw [if_neg (fun q => e3 ((nI_eq (by omega) (by omega)).mp q))]
    refine ⟨_, rfl, ?_, fr _ _ _ _ _⟩
    have := fin (T.2.2 c 2 - 1)
    unfold cntN
    rw [show (sS T 1 (T.1 1 - f)).2.2 = T.2.2 from rfl, if_neg (fun q => e3 q.1)]
    exact this
theorem eR_says (hB : B ≤ 1000) (hT : RT N T) (hW : Wf B T) {c k : Nat} (hc : c < 4) (hk : k < 6) (hf : 1 ≤ T.2.2 c 2) : ∃ N', f_X6_says F (nI c) (nI k) N = some (nI (hearB T c k).toNat, N') ∧ RT N' (hearT T c k) ∧ frS N N' := by
  obtain ⟨w0, w1, w2, w3, w4, w5⟩ := hW.2.2.2.2.2 c hc
  have wu := hW.2.2.2.2.1 _ w1 1 (by omega)
  have wt := hW.2.2.2.2.1 _ w1 0 (by omega)
  have ws := hW.2.1
  have hr := hT.2.2.2.2.2.2.1 c hc
  obtain ⟨Na, a1, a2, a3⟩ := eR_cnt (F := F) (f := 0) hB hT hW hc hk hf (Nat.zero_le _)
  rw [Nat.sub_zero, sS_same rfl] at a2
  have g1 : ∀ z : Option (Int32 × Mem), gi (nI (T.2.2 c 1)) 3 z = z := fun _ => gi_nI w1 (by omega)
  have g2 : ∀ z : Option (Int32 × Mem), gi (nI (6 * c)) 24 z = z := fun _ => gi6z hc
  have g3 : (nI (T.2.2 c 1)).toNatClampNeg = T.2.2 c 1 := nI_clamp (by omega)
  unfold f_X6_says
  rw [ix6_1 hc, gi6 hc (by omega), nm_eq, cl6 hc (by omega), hr 1 (by omega), gi_nI w1 (by omega), nI_clamp (by omega), hT.2.2.2.2.2.1 _ w1, bit_shr _ wu k hk]
  simp only [JX6_says_30, JX6_says_51, JX6_says_82, JX6_says_83, JX6_says_102, g1, g2, g3, hT.2.2.2.2.1 _ w1, bit_shr _ wt k hk, ix6z, cl6z hc, hr 0 (show 0 < 6 by omega), hT.2.1]
  unfold hearT
  cases hu : (T.2.1 (T.2.2 c 1) 1).testBit k with
  | true =>
    have hh : hearB T c k = false := by unfold hearB; rw [hu]; rfl
    rw [hh]
    refine ⟨N, ?_, hT, frS_rf⟩
    cases ht : (T.2.1 (T.2.2 c 1) 0).testBit k <;> simp [Bool.toNat, i0, i1, nI_eq]
  | false =>
    cases ht : (T.2.1 (T.2.2 c 1) 0).testBit k with
    | true =>
      have hh : hearB T c k = true := by unfold hearB; rw [hu, ht]; rfl
      rw [hh, if_pos rfl, if_pos rfl]
      refine ⟨Na, ?_, a2, a3⟩
      simpa [Bool.toNat, i0, i1, nI_eq] using a1
    | false =>
      by_cases z0 : T.2.2 c 0 = 2
      · by_cases z1 : T.1 1 = 0
        · have hh : hearB T c k = false := by unfold hearB; rw [hu, ht, z1]; simp
          rw [hh, z0, z1]
          refine ⟨N, ?_, hT, frS_rf⟩
          simp [Bool.toNat, i0, i1, i2, nI_eq]
        · have hh : hearB T c k = true := by unfold hearB; rw [hu, ht]; simp [z0, z1]
          obtain ⟨Nb, b1, b2, b3⟩ := eR_cnt (F := F) (f := 1) hB hT hW hc hk hf (by omega)
          rw [hh, if_pos rfl, z0]
          refine ⟨Nb, ?_, by rw [if_neg (by decide)]; exact b2, b3⟩
          have hs0 : ¬ nI (T.1 1) ≤ nI 0 := nI_ge (by omega) (by omega)
          simpa [Bool.toNat, i0, i1, i2, nI_eq, hs0] using b1
      · have hh : hearB T c k = false := by unfold hearB; rw [hu, ht]; simp [z0]
        rw [hh]
        refine ⟨N, ?_, hT, frS_rf⟩
        have hz : ¬ nI (T.2.2 c 0) = nI 2 := fun q => z0 ((nI_eq (by omega) (by omega)).mp q)
        simp [Bool.toNat, i0, i1, i2, nI_eq, hz]
/-! a new day -/
def mayT (T : TA) (c : Nat) : TA := (T.1, T.2.1, fun c' j => if c' < c ∧ j = 4 then adN (T.2.2 c' 0) else T.2.2 c' j)
theorem mayT_0 : mayT T 0 = T := by
  have e : (fun c' j => if c' < 0 ∧ j = 4 then adN (T.2.2 c' 0) else T.2.2 c' j) = T.2.2 := by
    funext c j
    exact if_neg (fun q => by omega)
  unfold mayT
  rw [e]
theorem mayT_s (c : Nat) : sC (mayT T c) c 4 (adN (T.2.2 c 0)) = mayT T (c + 1) := by
  unfold mayT sC
  congr 1
  congr 1
  funext c' j
  by_cases h : c' = c ∧ j = 4
  · rw [if_pos h]
    exact (by rw [h.1, if_pos ⟨by omega, h.2⟩])
  · rw [if_neg h]
    by_cases h2 : c' < c ∧ j = 4
    · exact (if_pos h2).trans (if_pos ⟨by omega, h2.2⟩).symm
    · exact (if_neg h2).trans (if_neg (fun q => by omega)).symm
theorem Wf_may (hW : Wf B T) (c : Nat) : Wf B (mayT T c) := by
  refine ⟨hW.1, hW.2.1, hW.2.2.1, hW.2.2.2.1, hW.2.2.2.2.1, fun c' hc => ?_⟩
  obtain ⟨w0, w1, w2, w3, w4, w5⟩ := hW.2.2.2.2.2 c' hc
  have ha := adN_le (T.2.2 c' 0)
  have e : ∀ j, (mayT T c).2.2 c' j = if c' < c ∧ j = 4 then adN (T.2.2 c' 0) else T.2.2 c' j := fun _ => rfl
  refine ⟨?_, ?_, ?_, ?_, ?_, ?_⟩ <;> rw [e] <;> split <;> omega
theorem lC_next (hW : Wf B T) : ∀ d c n M, c + d = T.1 0 → d < n → CT M b (mayT T c) → ∃ M', LX2_beginNextDay_12 F n b (nI c) M = some ((), M') ∧ CT M' b (mayT T (T.1 0)) ∧ ∀ i, (i < b ∨ b + 10 ≤ i) → M'.1 i = M.1 i := by
  have h4 := hW.1
  intro d
  induction d with
  | zero =>
    intro c n M h hn hT
    obtain ⟨n, rfl⟩ : ∃ k, n = k + 1 := ⟨n - 1, by omega⟩
    refine ⟨M, ?_, by rw [← show c = T.1 0 by omega]; exact hT, fun _ _ => rfl⟩
    rw [LX2_beginNextDay_12_s, CT_cc hT, show (mayT T c).1 0 = T.1 0 from rfl, if_pos (nI_le (by omega) (by omega))]
  | succ d ih =>
    intro c n M h hn hT
    obtain ⟨n, rfl⟩ : ∃ k, n = k + 1 := ⟨n - 1, by omega⟩
    have hc : c < 4 := by omega
    have e0 : (mayT T c).2.2 c 0 = T.2.2 c 0 := if_neg (fun q => by omega)
    have c1 := CT_C hT (i := 4) hc (adN (T.2.2 c 0))
    rw [mayT_s] at c1
    obtain ⟨M', m1, m2, m3⟩ := ih (c + 1) n _ (by omega) (by omega) c1
    refine ⟨M', ?_, m2, fun i hi => by rw [m3 i hi, u2_ne (by omega)]⟩
    rw [LX2_beginNextDay_12_s, CT_cc hT, show (mayT T c).1 0 = T.1 0 from rfl, if_neg (nI_ge (by omega) (by omega)), gi_nI hc (by omega), gi_nI hc (by omega), nI_clamp (by omega), bd_of (eC_may hT (Wf_may hW c) hc), e0, nm_eq, nm_eq, nI_1]
    exact m1
theorem eC_next (hF : 100 ≤ F) (hT : CT M b T) (hW : Wf B T) : ∃ M', f_X2_beginNextDay F b M = some ((), M') ∧ CT M' b (mayT (sS T 2 (T.1 2 + 1)) (T.1 0)) ∧ ∀ i, (i < b ∨ b + 10 ≤ i) → M'.1 i = M.1 i := by
  have h4 := hW.1
  have W1 : Wf (B + 1) (sS T 2 (T.1 2 + 1)) := Wf_sS (Wf_up hW (Nat.le_succ B)) ⟨by omega, by omega, fun _ => by have := hW.2.2.1; omega, by omega⟩
  have c1 := CT_S hT (i := 2) (by omega) (T.1 2 + 1)
  rw [← mayT_0 (T := sS T 2 (T.1 2 + 1))] at c1
  obtain ⟨M', m1, m2, m3⟩ := lC_next (F := F) W1 (T.1 0) 0 F _ (by show 0 + T.1 0 = T.1 0; omega) (by omega) c1
  refine ⟨M', ?_, m2, fun i hi => by rw [m3 i hi, u2_ne (by omega)]⟩
  unfold f_X2_beginNextDay
  rw [nm_eq, nm_eq, CT_day hT, nI_1]
  exact m1
theorem lR_sleep (hW : Wf B T) : ∀ d c n N, c + d = T.1 0 → d < n → RT N (mayT T c) → ∃ N', LX6_sleep_2 F n (nI c) N = some ((), N') ∧ RT N' (mayT T (T.1 0)) ∧ (∀ i, i ≠ 4 → N'.1 i = N.1 i) ∧ N'.2 = N.2 := by
  have h4 := hW.1
  intro d
  induction d with
  | zero =>
    intro c n N h hn hT
    obtain ⟨n, rfl⟩ : ∃ k, n = k + 1 := ⟨n - 1, by omega⟩
    refine ⟨N, ?_, by rw [← show c = T.1 0 by omega]; exact hT, fun _ _ => rfl, rfl⟩
    rw [LX6_sleep_2_s, hT.1, show (mayT T c).1 0 = T.1 0 from rfl, if_pos (nI_le (by omega) (by omega))]
  | succ d ih =>
    intro c n N h hn hT
    obtain ⟨n, rfl⟩ : ∃ k, n = k + 1 := ⟨n - 1, by omega⟩
    have hc : c < 4 := by omega
    have w0 := (hW.2.2.2.2.2 c hc).1
    have e0 : (mayT T c).2.2 c 0 = T.2.2 c 0 := if_neg (fun q => by omega)
    have c1 := RT_row hT (i := 4) hc (by omega) (adN (T.2.2 c 0))
    rw [mayT_s] at c1
    obtain ⟨N', m1, m2, m3, m4⟩ := ih (c + 1) n _ (by omega) (by omega) c1
    refine ⟨N', ?_, m2, fun i hi => by rw [m3 i hi, u2_ne hi], m4⟩
    rw [LX6_sleep_2_s, hT.1, show (mayT T c).1 0 = T.1 0 from rfl, if_neg (nI_ge (by omega) (by omega)), ix6z, gi6z hc, cl6z hc, hT.2.2.2.2.2.2.1 c hc 0 (by omega), e0, bd_of (eR_aDay w0), i4, nI_add, gi6 hc (by omega), nm_eq, nm_eq, cl6 hc (by omega), nI_1]
    exact m1
theorem eR_sleep (hF : 100 ≤ F) (hT : RT N T) (hW : Wf B T) : ∃ N', f_X6_sleep F N = some ((), N') ∧ RT N' (mayT T (T.1 0)) ∧ (∀ i, i ≠ 4 → N'.1 i = N.1 i) ∧ N'.2 = N.2 := by
  have h4 := hW.1
  rw [← mayT_0 (T := T)] at hT
  exact lR_sleep hW (T.1 0) 0 F N (by omega) (by omega) hT
/-! copies -/
theorem eC_copyV {k0 k1 : Nat} (h : k0 ≠ k1) : ∃ M', f_X3_copy F k0 k1 M = some ((), M') ∧ (∀ i, i ≠ k0 → M'.1 i = M.1 i) ∧ ∀ j, j < 4 → M'.1 k0 j = M.1 k1 j := by
  refine ⟨_, rfl, fun i hi => ?_, fun j hj => ?_⟩
  · simp only [u2_ne hi]
  · simp only [u2_at]
    rcases (show j = 0 ∨ j = 1 ∨ j = 2 ∨ j = 3 by omega) with rfl | rfl | rfl | rfl <;> simp [h, Ne.symm h]
theorem eC_copyC {k0 k1 : Nat} (h : k0 ≠ k1) : ∃ M', f_X0_copy F k0 k1 M = some ((), M') ∧ (∀ i, i ≠ k0 → M'.1 i = M.1 i) ∧ ∀ j, j < 6 → M'.1 k0 j = M.1 k1 j := by
  refine ⟨_, rfl, fun i hi => ?_, fun j hj => ?_⟩
  · simp only [u2_ne hi]
  · simp only [u2_at]
    rcases (show j = 0 ∨ j = 1 ∨ j = 2 ∨ j = 3 ∨ j = 4 ∨ j = 5 by omega) with rfl | rfl | rfl | rfl | rfl | rfl <;> simp [h, Ne.symm h]
theorem lC_copyC {b' : Nat} (hd : b + 10 ≤ b' ∨ b' + 10 ≤ b) (M0 : Mem) : ∀ d c n M, c + d = 4 → d < n → (∀ i, ¬ (b + 6 ≤ i ∧ i < b + 10) → M.1 i = M0.1 i) → (∀ u, u < c → ∀ j, j < 6 → M.1 (b + 6 + u) j = M0.1 (b' + 6 + u) j) → ∃ M', LX2_copy_30 F n b b' (nI c) M = some ((), M') ∧ (∀ i, ¬ (b + 6 ≤ i ∧ i < b + 10) → i ≠ b → M'.1 i = M0.1 i) ∧ (∀ u, u < 4 → ∀ j, j < 6 → M'.1 (b + 6 + u) j = M0.1 (b' + 6 + u) j) ∧ (∀ j, j < 4 → M'.1 b (j + 2) = M0.1 b' (j + 2)) := by
  intro d
  induction d with
  | zero =>
    intro c n M h hn h1 h2
    obtain ⟨n, rfl⟩ : ∃ k, n = k + 1 := ⟨n - 1, by omega⟩
    rw [LX2_copy_30_s, i4, if_pos (nI_le (by omega) (by omega))]
    refine ⟨_, rfl, fun i hi hb => ?_, fun u hu j hj => ?_, fun j hj => ?_⟩
    · simp only [u2_ne hb]; exact h1 i hi
    · simp only [u2_at, show b + 6 + u ≠ b by omega, false_and, if_false]; exact h2 u (by omega) j hj
    · have hb : b' ≠ b := by omega
      have hb2 : ¬ (b + 6 ≤ b' ∧ b' < b + 10) := by omega
      simp only [u2_at, h1 b' hb2, hb, false_and, if_false]
      rcases (show j = 0 ∨ j = 1 ∨ j = 2 ∨ j = 3 by omega) with rfl | rfl | rfl | rfl <;> simp
  | succ d ih =>
    intro c n M h hn h1 h2
    obtain ⟨n, rfl⟩ : ∃ k, n = k + 1 := ⟨n - 1, by omega⟩
    have hc : c < 4 := by omega
    obtain ⟨M1, m1, m2, m3⟩ := eC_copyC (F := F) (M := M) (k0 := b + 6 + c) (k1 := b' + 6 + c) (by omega)
    rw [LX2_copy_30_s, i4, if_neg (nI_ge (by omega) (by omega)), gi_nI hc (by omega), gi_nI hc (by omega), nI_clamp (by omega), bd_of m1, nm_eq, nI_1]
    refine ih (c + 1) n M1 (by omega) (by omega) (fun i hi => ?_) (fun u hu j hj => ?_)
    · rw [m2 i (by omega)]; exact h1 i hi
    · by_cases e : u = c
      · subst e
        rw [m3 j hj, h1 (b' + 6 + u) (by omega)]
      · rw [m2 _ (by omega)]; exact h2 u (by omega) j hj
theorem lC_copyV {b' : Nat} (hF : 100 ≤ F) (hd : b + 10 ≤ b' ∨ b' + 10 ≤ b) (M0 : Mem) : ∀ d v n M, v + d = 3 → d < n → (∀ i, ¬ (b + 3 ≤ i ∧ i < b + 6) → M.1 i = M0.1 i) → (∀ u, u < v → ∀ j, j < 4 → M.1 (b + 3 + u) j = M0.1 (b' + 3 + u) j) → ∃ M', LX2_copy_2 F n b b' (nI v) M = some ((), M') ∧ (∀ i, (i < b ∨ b + 10 ≤ i) → M'.1 i = M0.1 i) ∧ (∀ u, u < 3 → ∀ j, j < 4 → M'.1 (b + 3 + u) j = M0.1 (b' + 3 + u) j) ∧ (∀ u, u < 4 → ∀ j, j < 6 → M'.1 (b + 6 + u) j = M0.1 (b' + 6 + u) j) ∧ (∀ j, j < 4 → M'.1 b (j + 2) = M0.1 b' (j + 2)) := by
  intro d
  induction d with
  | zero =>
    intro v n M h hn h1 h2
    obtain ⟨n, rfl⟩ : ∃ k, n = k + 1 := ⟨n - 1, by omega⟩
    rw [LX2_copy_2_s, i3, if_pos (nI_le (by omega) (by omega))]
    obtain ⟨M', m1, m2, m3, m4⟩ := lC_copyC (F := F) hd M 4 0 F M (by omega) (by omega) (fun _ _ => rfl) (fun u hu => absurd hu (Nat.not_lt_zero u))
    refine ⟨M', m1, fun i hi => ?_, fun u hu j hj => ?_, fun u hu j hj => ?_, fun j hj => ?_⟩
    · rw [m2 i (by omega) (by omega)]; exact h1 i (by omega)
    · rw [m2 _ (by omega) (by omega)]; exact h2 u (by omega) j hj
    · rw [m3 u hu j hj, h1 _ (by omega)]
    · rw [m4 j hj, h1 _ (by omega)]
  | succ d ih =>
    intro v n M h hn h1 h2
    obtain ⟨n, rfl⟩ : ∃ k, n = k + 1 := ⟨n - 1, by omega⟩
    have hv : v < 3 := by omega
    obtain ⟨M1, m1, m2, m3⟩ := eC_copyV (F := F) (M := M) (k0 := b + 3 + v) (k1 := b' + 3 + v) (by omega)
    rw [LX2_copy_2_s, i3, if_neg (nI_ge (by omega) (by omega)), gi_nI hv (by omega), gi_nI hv (by omega), nI_clamp (by omega), bd_of m1, nm_eq, nI_1]
    refine ih (v + 1) n M1 (by omega) (by omega) (fun i hi => ?_) (fun u hu j hj => ?_)
    · rw [m2 i (by omega)]; exact h1 i hi
    · by_cases e : u = v
      · subst e
        rw [m3 j hj, h1 (b' + 3 + u) (by omega)]
      · rw [m2 _ (by omega)]; exact h2 u (by omega) j hj
theorem eC_copy {b' : Nat} (hF : 100 ≤ F) (hd : b + 10 ≤ b' ∨ b' + 10 ≤ b) (M : Mem) : ∃ M', f_X2_copy F b b' M = some ((), M') ∧ (∀ T, CT M b' T → CT M' b T) ∧ ∀ i, (i < b ∨ b + 10 ≤ i) → M'.1 i = M.1 i := by
  obtain ⟨M', m1, m2, m3, m4, m5⟩ := lC_copyV (F := F) hF hd M 3 0 F M (by omega) (by omega) (fun _ _ => rfl) (fun u hu => absurd hu (Nat.not_lt_zero u))
  refine ⟨M', m1, fun T hT => ⟨fun j hj => ?_, fun v hv j hj => ?_, fun c hc j hj => ?_⟩, m2⟩
  · rw [m5 j hj]; exact hT.1 j hj
  · rw [m3 v hv j hj]; exact hT.2.1 v hv j hj
  · rw [m4 c hc j hj]; exact hT.2.2 c hc j hj
theorem lR_copy {a1 a2 : Nat} (h : a1 ≠ a2) (hl : lenR a1 = lenR a2) (hlen : lenR a1 ≤ 24) (N0 : Mem) : ∀ d c n N, c + d = lenR a1 → d < n → (∀ i, i ≠ a2 → N.1 i = N0.1 i) → (∀ u, u < c → N.1 a2 u = N0.1 a1 u) → N.2 = N0.2 → ∃ N', LX6_copy_2 F n a1 a2 (nI c) N = some ((), N') ∧ (∀ i, i ≠ a2 → N'.1 i = N0.1 i) ∧ (∀ u, u < lenR a1 → N'.1 a2 u = N0.1 a1 u) ∧ N'.2 = N0.2 := by
  intro d
  induction d with
  | zero =>
    intro c n N h0 hn h1 h2 h3
    obtain ⟨n, rfl⟩ : ∃ k, n = k + 1 := ⟨n - 1, by omega⟩
    refine ⟨N, ?_, h1, fun u hu => h2 u (by omega), h3⟩
    rw [LX6_copy_2_s, show Int32.ofNat (lenR a1) = nI (lenR a1) from rfl, if_pos (nI_le (by omega) (by omega))]
  | succ d ih =>
    intro c n N h0 hn h1 h2 h3
    obtain ⟨n, rfl⟩ : ∃ k, n = k + 1 := ⟨n - 1, by omega⟩
    rw [LX6_copy_2_s, show Int32.ofNat (lenR a1) = nI (lenR a1) from rfl, if_neg (nI_ge (by omega) (by omega)), gi_nI (by omega) (by omega), nm_eq, gi_nI (by omega) (by omega), nm_eq, nm_eq, nI_clamp (by omega), nI_1]
    refine ih (c + 1) n _ (by omega) (by omega) (fun i hi => ?_) (fun u hu => ?_) h3
    · rw [u2_ne hi]; exact h1 i hi
    · rw [u2_at]
      by_cases e : u = c
      · rw [if_pos ⟨rfl, e⟩, h1 a1 h, e]
      · rw [if_neg (fun q => e q.2)]; exact h2 u (by omega)
theorem eR_copy {a1 a2 : Nat} (hF : 100 ≤ F) (h : a1 ≠ a2) (hl : lenR a1 = lenR a2) (hlen : lenR a1 ≤ 24) (N : Mem) : ∃ N', f_X6_copy F a1 a2 N = some ((), N') ∧ (∀ i, i ≠ a2 → N'.1 i = N.1 i) ∧ (∀ u, u < lenR a1 → N'.1 a2 u = N.1 a1 u) ∧ N'.2 = N.2 :=
  lR_copy h hl hlen N (lenR a1) 0 F N (by omega) (by omega) (fun _ _ => rfl) (fun u hu => absurd hu (Nat.not_lt_zero u)) rfl
end U2
