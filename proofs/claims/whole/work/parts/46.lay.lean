/-! LAY: the reference's shares -/
def dg (x : Nat) : Nat → Nat := fun k => x / 5 ^ (5 - k) % 5
def lfv (T : TA) (v c : Nat) : Nat := if T.2.2 c 1 = v then leftN T c else 0
def okW (T : TA) (v : Nat) (w : Nat → Nat) (k : Nat) : Prop := w k = 0 ∨ ∃ c, w k = c + 1 ∧ c < T.1 0 ∧ LB (lfv T v) c k = true
def frY (N N' : Mem) : Prop := (∀ i, i ≠ 5 → i ≠ 6 → i ≠ 7 → N'.1 i = N.1 i) ∧ N'.2 = N.2
section LY
variable {B : Nat} {M N N0 : Mem} {T : TA} {F v : Nat}
theorem frY_rf : frY N N := ⟨fun _ _ _ _ => rfl, rfl⟩
theorem frY.tr {N1 N2 : Mem} (h1 : frY N N1) (h2 : frY N1 N2) : frY N N2 := ⟨fun i a b c => (h2.1 i a b c).trans (h1.1 i a b c), h2.2.trans h1.2⟩
theorem frY_u {i k : Nat} {x : Int32} (h : i = 5 ∨ i = 6 ∨ i = 7) : frY N (u2 N i k x) := ⟨fun j a b c => u2_ne (by omega), rfl⟩
theorem RT_Y {N' : Mem} (h : RT N T) (f : frY N N') : RT N' T := RTg_of h (by rw [f.1 0 (by omega) (by omega) (by omega)]) (by rw [f.1 0 (by omega) (by omega) (by omega)]) (by rw [f.1 0 (by omega) (by omega) (by omega)]) (by rw [f.1 0 (by omega) (by omega) (by omega)]) (f.1 2 (by omega) (by omega) (by omega)) (f.1 3 (by omega) (by omega) (by omega)) (f.1 4 (by omega) (by omega) (by omega)) (f.1 8 (by omega) (by omega) (by omega))
theorem l_nums (hB : B ≤ 1000) (hT : RT N T) (hW : Wf B T) (w : Nat → Nat) (h7 : ∀ c, c < 4 → N.1 7 c = nI (numW w c 6 0)) (hn6 : ∀ c, numW w c 6 0 ≤ 6) (m : Int32) : ∀ d c nC (b : Bool), c + d = T.1 0 → d < nC → ∃ x, LX6_saidBy_144 F nC m (nI b.toNat) (nI c) N = some (x, N) ∧ ((b = true ∧ ∀ c', c ≤ c' → c' < T.1 0 → numW w c' 6 0 ≤ needN T c') → x = m) ∧ (¬ (b = true ∧ ∀ c', c ≤ c' → c' < T.1 0 → numW w c' 6 0 ≤ needN T c') → x = mI 1) := by
  intro d
  induction d with
  | zero =>
    intro c nC b h hn
    obtain ⟨nC, rfl⟩ : ∃ k, nC = k + 1 := ⟨nC - 1, by omega⟩
    have h4 := hW.1
    rw [LX6_saidBy_144_s, hT.1, if_pos (nI_le (by omega) (by omega))]
    cases b with
    | false => exact ⟨mI 1, by rw [if_pos (show nI false.toNat = 0 from rfl)], fun q => Bool.noConfusion q.1, fun _ => rfl⟩
    | true => exact ⟨m, by rw [if_neg (by decide)], fun _ => rfl, fun q => absurd ⟨rfl, fun c' a b => by omega⟩ q⟩
  | succ d ih =>
    intro c nC b h hn
    obtain ⟨nC, rfl⟩ : ∃ k, nC = k + 1 := ⟨nC - 1, by omega⟩
    have h4 := hW.1
    have hc : c < 4 := by omega
    have nd := needN_le hW hc
    have n6 := hn6 c
    rw [LX6_saidBy_144_s, hT.1, if_neg (nI_ge (by omega) (by omega))]
    cases b with
    | false => exact ⟨mI 1, by rw [if_pos (show nI false.toNat = 0 from rfl), if_pos (show nI false.toNat = 0 from rfl)], fun q => Bool.noConfusion q.1, fun _ => rfl⟩
    | true =>
      rw [if_neg (by decide), gi_nI hc (by omega), nI_clamp (by omega), h7 c hc]
      have key : ∀ (b' : Bool), (b' = true ↔ numW w c 6 0 ≤ needN T c) → ∃ x, LX6_saidBy_144 F nC m (nI b'.toNat) (nI (c + 1)) N = some (x, N) ∧ ((true = true ∧ ∀ c', c ≤ c' → c' < T.1 0 → numW w c' 6 0 ≤ needN T c') → x = m) ∧ (¬ (true = true ∧ ∀ c', c ≤ c' → c' < T.1 0 → numW w c' 6 0 ≤ needN T c') → x = mI 1) := by
        intro b' hb'
        obtain ⟨x, x1, x2, x3⟩ := ih (c + 1) nC b' (by omega) (by omega)
        refine ⟨x, x1, fun q => x2 ⟨hb'.mpr (q.2 c (Nat.le_refl c) (by omega)), fun c' a b => q.2 c' (by omega) b⟩, fun q => x3 (fun z => q ⟨rfl, fun c' a b => ?_⟩)⟩
        by_cases e : c' = c
        · subst e; exact hb'.mp z.1
        · exact z.2 c' (by omega) b
      by_cases e0 : numW w c 6 0 = 0
      · rw [e0, if_pos (by decide), nm_eq, nI_1]
        exact key true ⟨fun _ => by omega, fun _ => rfl⟩
      · rw [if_neg (nI_ne0 (by omega) (by omega)), gi_nI hc (by omega), bd_of (eR_needs hB hT hW hc)]
        by_cases e1 : needN T c < numW w c 6 0
        · rw [if_pos (nI_lt e1 (by omega)), nm_eq, nI_1]
          exact key false ⟨fun q => Bool.noConfusion q, fun q => by omega⟩
        · rw [if_neg (nI_nlt (by omega) (by omega)), nm_eq, nI_1]
          exact key true ⟨fun _ => by omega, fun _ => rfl⟩
theorem l_dig (hT : RT N0 T) (hW : Wf B T) (hv : v < 3) (w : Nat → Nat) : ∀ j nC q N (b : Bool), j ≤ 6 → j < nC → q < 15625 → (∀ i, i < j → w i = q / 5 ^ (j - 1 - i) % 5) → frY N0 N → (∀ i, j ≤ i → i < 6 → N.1 5 i = nI (w i)) → (∀ c, c < 4 → N.1 7 c = nI (numW w c (6 - j) j)) → (b = true ↔ ∀ i, j ≤ i → i < 6 → okW T v w i) → ∃ N' b', LX6_saidBy_34 F nC (nI v) (nI q) (nI (cntW w (6 - j) j)) (nI b.toNat) (nI j + mI 1) N = LX6_saidBy_144 F F (nI (cntW w 6 0)) (nI b'.toNat) 0 N' ∧ frY N0 N' ∧ N'.1 6 = N.1 6 ∧ (∀ i, i < 6 → N'.1 5 i = nI (w i)) ∧ (∀ c, c < 4 → N'.1 7 c = nI (numW w c 6 0)) ∧ (b' = true ↔ ∀ i, i < 6 → okW T v w i) := by
  intro j
  induction j with
  | zero =>
    intro nC q N b hj hn hq hw fr a5 a7 hb
    obtain ⟨nC, rfl⟩ : ∃ k, nC = k + 1 := ⟨nC - 1, by omega⟩
    refine ⟨N, b, ?_, fr, rfl, fun i hi => a5 i (by omega) hi, a7, ⟨fun q i hi => hb.mp q i (by omega) hi, fun q => hb.mpr (fun i _ hi => q i hi)⟩⟩
    rw [LX6_saidBy_34_s, if_pos (by decide)]
  | succ j ih =>
    intro nC q N b hj hn hq hw fr a5 a7 hb
    obtain ⟨nC, rfl⟩ : ∃ k, nC = k + 1 := ⟨nC - 1, by omega⟩
    have h4 := hW.1
    have hq5 : w j = q % 5 := by have := hw j (by omega); rw [show j + 1 - 1 - j = 0 by omega, Nat.pow_zero, Nat.div_one] at this; exact this
    have hw' : ∀ i, i < j → w i = q / 5 / 5 ^ (j - 1 - i) % 5 := fun i hi => by
      have := hw i (by omega)
      rw [this, Nat.div_div_eq_div_mul, show j + 1 - 1 - i = (j - 1 - i) + 1 by omega, Nat.pow_succ, Nat.mul_comm]
    have e6 : 6 - j = 6 - (j + 1) + 1 := by omega
    have fr1 : frY N0 (u2 N 5 j (nI (w j))) := fr.tr (frY_u (by omega))
    have hR : RT (u2 N 5 j (nI (w j))) T := RT_Y hT fr1
    have a5' : ∀ i, j ≤ i → i < 6 → (u2 N 5 j (nI (w j))).1 5 i = nI (w i) := fun i x y => by
      rw [u2_at]
      by_cases e : i = j
      · subst e; rw [if_pos ⟨rfl, rfl⟩]
      · rw [if_neg (fun q => e q.2)]; exact a5 i (by omega) y
    have d1 : nI q - nI q / (5 : Int32) * (5 : Int32) = nI (w j) := by rw [hq5]; exact pk_rem (d := 5) (by omega) (by omega) (by omega)
    have d2 : nI q / (5 : Int32) = nI (q / 5) := pk_div (d := 5) (by omega) (by omega) (by omega)
    rw [show nI (j + 1) + mI 1 = nI j from pk_m1 j, LX6_saidBy_34_s, if_neg (nI_pos (by omega)), nm_eq, d1, gi_nI (by omega) (by omega), nm_eq, nI_clamp (by omega), nm_eq, d2, gi_nI (by omega) (by omega), nm_eq, a5' j (Nat.le_refl j) (by omega)]
    cases e : w j with
    | zero =>
      rw [if_pos (by decide), nm_eq]
      rw [e] at fr1 hR a5'
      have := ih nC (q / 5) (u2 N 5 j (nI 0)) b (by omega) (by omega) (by omega) hw' fr1 (fun i x y => a5' i x y) (fun c hc => by
        rw [u2_ne (by omega), a7 c hc, e6]; simp only [numW]; rw [e, if_neg (by omega), Nat.zero_add]) ⟨fun q i x y => by
          by_cases z : i = j
          · subst z; exact Or.inl e
          · exact hb.mp q i (by omega) y, fun q => hb.mpr (fun i x y => q i (by omega) y)⟩
      have ec : cntW w (6 - j) j = cntW w (6 - (j + 1)) (j + 1) := by rw [e6]; simp only [cntW]; rw [e, if_pos rfl, Nat.zero_add]
      rw [ec] at this
      obtain ⟨N', b', p1, p2, p3, p4, p5, p6⟩ := this
      exact ⟨N', b', p1, p2, p3.trans (u2_ne (by omega)), p4, p5, p6⟩
    | succ c =>
      have hc : c < 4 := by omega
      rw [e] at fr1 hR a5'
      have ec : cntW w (6 - j) j = cntW w (6 - (j + 1)) (j + 1) + 1 := by rw [e6]; simp only [cntW]; rw [e, if_neg (by omega), Nat.add_comm]
      have r7 : (u2 N 5 j (nI (c + 1))).1 7 c = nI (numW w c (6 - (j + 1)) (j + 1)) := by rw [u2_ne (by omega)]; exact a7 c hc
      have nx : ∀ b' : Bool, (b' = true ↔ b = true ∧ c < T.1 0 ∧ LB (lfv T v) c j = true) → ∃ N' b'', LX6_saidBy_34 F nC (nI v) (nI (q / 5)) (nI (cntW w (6 - (j + 1)) (j + 1) + 1)) (nI b'.toNat) (nI j + mI 1) (u2 (u2 N 5 j (nI (c + 1))) 7 c (nI (numW w c (6 - (j + 1)) (j + 1) + 1))) = LX6_saidBy_144 F F (nI (cntW w 6 0)) (nI b''.toNat) 0 N' ∧ frY N0 N' ∧ N'.1 6 = N.1 6 ∧ (∀ i, i < 6 → N'.1 5 i = nI (w i)) ∧ (∀ c, c < 4 → N'.1 7 c = nI (numW w c 6 0)) ∧ (b'' = true ↔ ∀ i, i < 6 → okW T v w i) := by
        intro b' hb'
        have := ih nC (q / 5) (u2 (u2 N 5 j (nI (c + 1))) 7 c (nI (numW w c (6 - (j + 1)) (j + 1) + 1))) b' (by omega) (by omega) (by omega) hw' (fr1.tr (frY_u (by omega))) (fun i x y => by rw [u2_ne (by omega)]; exact a5' i x y) (fun c' hc' => by
          have en : numW w c' (6 - (j + 1) + 1) j = (if w j = c' + 1 then 1 else 0) + numW w c' (6 - (j + 1)) (j + 1) := rfl
          rw [u2_at, e6, en]
          by_cases z : c' = c
          · subst z; rw [if_pos ⟨rfl, rfl⟩, if_pos e, Nat.add_comm]
          · rw [if_neg (fun q => z q.2), if_neg (by omega), Nat.zero_add, u2_ne (by omega)]; exact a7 c' hc') ⟨fun q i x y => by
            have q := hb'.mp q
            by_cases z : i = j
            · subst z; exact Or.inr ⟨c, e, q.2⟩
            · exact hb.mp q.1 i (by omega) y, fun q => hb'.mpr ⟨hb.mpr (fun i x y => q i (by omega) y), by
              rcases q j (Nat.le_refl j) (by omega) with q | ⟨c', q, q'⟩
              · omega
              · obtain rfl : c' = c := by omega
                exact q'⟩⟩
        rw [ec] at this
        obtain ⟨N', b'', p1, p2, p3, p4, p5, p6⟩ := this
        exact ⟨N', b'', p1, p2, p3.trans (by rw [u2_ne (by omega), u2_ne (by omega)]), p4, p5, p6⟩
      rw [i1, pk_sub (by omega), show c + 1 - 1 = c from rfl, if_neg (nI_pos (by omega))]
      cases b with
      | false =>
        rw [if_pos (by decide), gi_nI hc (by omega), nI_clamp (by omega), r7, nm_eq, nI_add, gi_nI hc (by omega), nm_eq, nm_eq, nI_add, nm_eq]
        exact nx false ⟨fun q => Bool.noConfusion q, fun q => Bool.noConfusion q.1⟩
      | true =>
        rw [if_neg (by decide), hR.1]
        by_cases c1 : T.1 0 ≤ c
        · rw [if_pos (nI_le c1 (by omega)), gi_nI hc (by omega), nI_clamp (by omega), r7, nm_eq, nI_add, gi_nI hc (by omega), nm_eq, nm_eq, nI_add, nm_eq]
          exact nx false ⟨fun q => Bool.noConfusion q, fun q => absurd q.2.1 (by omega)⟩
        rw [if_neg (nI_ge (by omega) (by omega)), ix6 (j := 1) hc (by omega), gi6 hc (by omega), cl6 hc (by omega), hR.2.2.2.2.2.2.1 c hc 1 (by omega)]
        have w1 := (hW.2.2.2.2.2 c hc).2.1
        by_cases c2 : T.2.2 c 1 = v
        · rw [if_pos (by rw [c2]), bd_of (eR_left hR hW hc), show (nI 1) = (1 : Int32) from rfl, bit_shr _ (leftN_lt hW hc) j (by omega)]
          have el : LB (lfv T v) c j = (leftN T c).testBit j := by unfold LB lfv; rw [if_pos c2]
          cases c3 : (leftN T c).testBit j with
          | true =>
            rw [if_pos (by decide), gi_nI hc (by omega), nI_clamp (by omega), r7, nm_eq, nI_1, gi_nI hc (by omega), nm_eq, nm_eq, nI_1, nm_eq]
            exact nx true ⟨fun _ => ⟨rfl, by omega, by rw [el]; exact c3⟩, fun _ => rfl⟩
          | false =>
            rw [if_neg (by decide), gi_nI hc (by omega), nI_clamp (by omega), r7, nm_eq, nI_1, gi_nI hc (by omega), nm_eq, nm_eq, nI_1, nm_eq]
            exact nx false ⟨fun q => Bool.noConfusion q, fun q => by rw [el, c3] at q; exact Bool.noConfusion q.2.2⟩
        · rw [if_neg (fun q => c2 ((nI_eq (by omega) (by omega)).mp q)), gi_nI hc (by omega), nI_clamp (by omega), r7, nm_eq, nI_add, gi_nI hc (by omega), nm_eq, nm_eq, nI_add, nm_eq]
          exact nx false ⟨fun q => Bool.noConfusion q, fun q => by
            have q := q.2.2
            unfold LB lfv at q
            rw [if_neg c2, Nat.zero_testBit] at q
            exact Bool.noConfusion q⟩
theorem numW_le (w : Nat → Nat) (c : Nat) : ∀ d k, numW w c d k ≤ d
  | 0, _ => Nat.le_refl _
  | d + 1, k => by
    have := numW_le w c d (k + 1)
    simp only [numW]
    split <;> omega
theorem l_zero : ∀ d c nC N, c + d = 4 → d < nC → (∀ c', c' < c → N.1 7 c' = nI 0) → ∀ a q m b, ∃ N', LX6_saidBy_11 F nC a q m b (nI c) N = LX6_saidBy_34 F F a q m b 5 N' ∧ (∀ i, i ≠ 7 → N'.1 i = N.1 i) ∧ N'.2 = N.2 ∧ ∀ c', c' < 4 → N'.1 7 c' = nI 0 := by
  intro d
  induction d with
  | zero =>
    intro c nC N h hn hz a q m b
    obtain ⟨nC, rfl⟩ : ∃ k, nC = k + 1 := ⟨nC - 1, by omega⟩
    refine ⟨N, ?_, fun _ _ => rfl, rfl, fun c' hc => hz c' (by omega)⟩
    rw [LX6_saidBy_11_s, if_pos (show (4 : Int32) ≤ nI c from nI_le (a := 4) (by omega) (by omega))]
  | succ d ih =>
    intro c nC N h hn hz a q m b
    obtain ⟨nC, rfl⟩ : ∃ k, nC = k + 1 := ⟨nC - 1, by omega⟩
    obtain ⟨N', p1, p2, p3, p4⟩ := ih (c + 1) nC (u2 N 7 c (nI 0)) (by omega) (by omega) (fun c' hc => by
      rw [u2_at]
      by_cases e : c' = c
      · rw [if_pos ⟨rfl, e⟩]
      · rw [if_neg (fun q => e q.2)]; exact hz c' (by omega)) a q m b
    refine ⟨N', ?_, fun i hi => by rw [p2 i hi, u2_ne hi], p3, p4⟩
    rw [LX6_saidBy_11_s, if_neg (show ¬ (4 : Int32) ≤ nI c from nI_ge (b := 4) (by omega) (by omega)), gi_nI (by omega) (by omega), nm_eq, nI_clamp (by omega), nm_eq, nI_1]
    exact p1
/-- a code of the reference -/
theorem e_said (hF : 100 ≤ F) (hB : B ≤ 1000) (hT : RT N T) (hW : Wf B T) (hv : v < 3) {s : Nat} (hs : s < 15625) : ∃ x N', f_X6_saidBy F (nI v) (nI s) N = some (x, N') ∧ (Val (T.1 0) (LB (lfv T v)) 6 0 (needN T) (dg s) → x = nI (cntW (dg s) 6 0)) ∧ (¬ Val (T.1 0) (LB (lfv T v)) 6 0 (needN T) (dg s) → x = mI 1) ∧ frY N N' ∧ N'.1 6 = N.1 6 ∧ ∀ i, i < 6 → N'.1 5 i = nI (dg s i) := by
  have h4 := hW.1
  obtain ⟨N1, p1, p2, p3, p4⟩ := l_zero (F := F) 4 0 F N (by omega) (by omega) (fun c' h => by omega) (nI v) (nI s) 0 1
  have f1 : frY N N1 := ⟨fun i a b c => p2 i c, p3⟩
  obtain ⟨N2, b', q1, q2, q3, q4, q5, q6⟩ := l_dig (F := F) hT hW hv (dg s) 6 F s N1 true (by omega) (by omega) hs (fun i hi => rfl) f1 (fun i a b => by omega) (fun c hc => p4 c hc) ⟨fun _ i a b => by omega, fun _ => rfl⟩
  obtain ⟨x, r1, r2, r3⟩ := l_nums (F := F) hB (RT_Y hT q2) hW (dg s) q5 (fun c => numW_le _ _ _ _) (nI (cntW (dg s) 6 0)) (T.1 0) 0 F b' (by omega) (by omega)
  have hV : Val (T.1 0) (LB (lfv T v)) 6 0 (needN T) (dg s) ↔ (b' = true ∧ ∀ c', 0 ≤ c' → c' < T.1 0 → numW (dg s) c' 6 0 ≤ needN T c') := by
    rw [Val_iff, q6]
    exact ⟨fun h => ⟨fun i hi => h.1 i (by omega) (by omega), fun c _ hc => h.2 c hc⟩, fun h => ⟨fun i _ hi => h.1 i (by omega), fun c hc => h.2 c (by omega) hc⟩⟩
  refine ⟨x, N2, ?_, fun h => r2 (hV.mp h), fun h => r3 (fun z => h (hV.mpr z)), q2, q3.trans (p2 6 (by omega)), q4⟩
  unfold f_X6_saidBy
  exact (p1.trans q1).trans r1
theorem cntW_le (w : Nat → Nat) : ∀ d k, cntW w d k ≤ d
  | 0, _ => Nat.le_refl _
  | d + 1, k => by
    have := cntW_le w d (k + 1)
    simp only [cntW]
    split <;> omega
/-- valid, and the first of the greatest count below s -/
def Fst (T : TA) (v s b : Nat) : Prop := Val (T.1 0) (LB (lfv T v)) 6 0 (needN T) (dg b) ∧ ∀ s', s' < s → Val (T.1 0) (LB (lfv T v)) 6 0 (needN T) (dg s') → cntW (dg s') 6 0 ≤ cntW (dg b) 6 0 ∧ (s' < b → cntW (dg s') 6 0 < cntW (dg b) 6 0)
theorem l_lay (hF : 100 ≤ F) (hB : B ≤ 1000) (hT : RT N0 T) (hW : Wf B T) (hv : v < 3) : ∀ d s b nC N, s + d = 15625 → d < nC → b < s → frY N0 N → Fst T v s b → (∀ i, i < 6 → N.1 6 i = nI (dg b i)) → ∃ b' N', LX6_layMost_4 F nC (nI v) (nI (cntW (dg b) 6 0)) (nI s) N = some (nI (cntW (dg b') 6 0), N') ∧ b' < 15625 ∧ frY N0 N' ∧ Fst T v 15625 b' ∧ ∀ i, i < 6 → N'.1 6 i = nI (dg b' i) := by
  intro d
  induction d with
  | zero =>
    intro s b nC N h hn hb fr fs a6
    obtain ⟨nC, rfl⟩ : ∃ k, nC = k + 1 := ⟨nC - 1, by omega⟩
    obtain rfl : s = 15625 := by omega
    refine ⟨b, N, ?_, hb, fr, fs, a6⟩
    rw [LX6_layMost_4_s, if_pos (by decide)]
  | succ d ih =>
    intro s b nC N h hn hb fr fs a6
    obtain ⟨nC, rfl⟩ : ∃ k, nC = k + 1 := ⟨nC - 1, by omega⟩
    obtain ⟨x, N1, p1, p2, p3, p4, p5, p6⟩ := e_said (F := F) hF hB (RT_Y hT fr) hW hv (show s < 15625 by omega)
    have cb := cntW_le (dg b) 6 0
    have cs := cntW_le (dg s) 6 0
    rw [LX6_layMost_4_s, if_neg (show ¬ (15625 : Int32) ≤ nI s from nI_ge (b := 15625) (by omega) (by omega)), bd_of p1]
    by_cases hV : Val (T.1 0) (LB (lfv T v)) 6 0 (needN T) (dg s)
    · rw [p2 hV]
      by_cases g : cntW (dg s) 6 0 ≤ cntW (dg b) 6 0
      · rw [if_pos (nI_le g (by omega)), nm_eq, nI_1]
        refine ih (s + 1) b nC N1 (by omega) (by omega) (by omega) (fr.tr p4) ⟨fs.1, fun s' a v' => ?_⟩ (fun i hi => by rw [p5]; exact a6 i hi)
        by_cases e : s' = s
        · subst e; exact ⟨g, fun z => by omega⟩
        · exact fs.2 s' (by omega) v'
      · obtain ⟨N2, t1, t2, t3, t4⟩ := eR_copy (F := F) (a1 := 5) (a2 := 6) hF (by decide) (by decide) (by decide) N1
        rw [if_neg (nI_ge (by omega) (by omega)), bd_of t1, nm_eq, nI_1]
        refine ih (s + 1) s nC N2 (by omega) (by omega) (by omega) ((fr.tr p4).tr ⟨fun i _ a _ => t2 i a, t4⟩) ⟨hV, fun s' a v' => ?_⟩ (fun i hi => by rw [t3 i hi]; exact p6 i hi)
        by_cases e : s' = s
        · subst e; exact ⟨Nat.le_refl _, fun z => by omega⟩
        · have := (fs.2 s' (by omega) v').1
          exact ⟨by omega, fun _ => by omega⟩
    · have ng : mI 1 ≤ nI (cntW (dg b) 6 0) := by
        rw [le_nI (by omega)]
        have : (mI 1).toInt = -1 := by decide
        omega
      rw [p3 hV, if_pos ng, nm_eq, nI_1]
      refine ih (s + 1) b nC N1 (by omega) (by omega) (by omega) (fr.tr p4) ⟨fs.1, fun s' a v' => ?_⟩ (fun i hi => by rw [p5]; exact a6 i hi)
      by_cases e : s' = s
      · subst e; exact absurd v' hV
      · exact fs.2 s' (by omega) v'
theorem dg_0 (k : Nat) : dg 0 k = 0 := by unfold dg; rw [Nat.zero_div]
theorem lex_code {w' : Nat → Nat} {b : Nat} (hb : b < 15625) (h0 : ∀ i, i < 6 → w' i ≤ 4) : lexW w' (dg b) 6 0 → 3125 * w' 0 + 625 * w' 1 + 125 * w' 2 + 25 * w' 3 + 5 * w' 4 + w' 5 < b := by
  intro h
  have a0 := h0 0 (by omega)
  have a1 := h0 1 (by omega)
  have a2 := h0 2 (by omega)
  have a3 := h0 3 (by omega)
  have a4 := h0 4 (by omega)
  have a5 := h0 5 (by omega)
  have b0 : dg b 0 = b / 3125 % 5 := rfl
  have b1 : dg b 1 = b / 625 % 5 := rfl
  have b2 : dg b 2 = b / 125 % 5 := rfl
  have b3 : dg b 3 = b / 25 % 5 := rfl
  have b4 : dg b 4 = b / 5 % 5 := rfl
  have b5 : dg b 5 = b / 1 % 5 := rfl
  have e : b = 3125 * dg b 0 + 625 * dg b 1 + 125 * dg b 2 + 25 * dg b 3 + 5 * dg b 4 + dg b 5 := by omega
  have l0 : dg b 0 ≤ 4 := by omega
  have l1 : dg b 1 ≤ 4 := by omega
  have l2 : dg b 2 ≤ 4 := by omega
  have l3 : dg b 3 ≤ 4 := by omega
  have l4 : dg b 4 ≤ 4 := by omega
  have l5 : dg b 5 ≤ 4 := by omega
  clear b0 b1 b2 b3 b4 b5
  simp only [lexW, Nat.reduceAdd, Nat.zero_add] at h
  rcases h with h | ⟨e0, h⟩
  · omega
  rcases h with h | ⟨e1, h⟩
  · omega
  rcases h with h | ⟨e2, h⟩
  · omega
  rcases h with h | ⟨e3, h⟩
  · omega
  rcases h with h | ⟨e4, h⟩
  · omega
  rcases h with h | ⟨e5, h⟩
  · omega
  · exact h.elim
theorem Fst_Best (hW : Wf B T) {b : Nat} (hb : b < 15625) (h : Fst T v 15625 b) : Best (T.1 0) (LB (lfv T v)) 6 0 (needN T) (dg b) := by
  refine ⟨h.1, fun w' v' => ?_⟩
  have h0 : ∀ i, i < 6 → w' i ≤ 4 := fun i hi => by
    have h4 := hW.1
    rcases ((Val_iff 6 0 _ w').mp v').1 i (by omega) (by omega) with z | ⟨c, z, z', _⟩ <;> omega
  have a0 := h0 0 (by omega)
  have a1 := h0 1 (by omega)
  have a2 := h0 2 (by omega)
  have a3 := h0 3 (by omega)
  have a4 := h0 4 (by omega)
  have a5 := h0 5 (by omega)
  have lc := lex_code hb h0
  obtain ⟨s, hs⟩ : ∃ s, s = 3125 * w' 0 + 625 * w' 1 + 125 * w' 2 + 25 * w' 3 + 5 * w' 4 + w' 5 := ⟨_, rfl⟩
  rw [← hs] at lc
  have ed : ∀ j, 0 ≤ j → j < 0 + 6 → w' j = dg s j := fun j _ hj => by
    obtain (rfl | rfl | rfl | rfl | rfl | rfl) : j = 0 ∨ j = 1 ∨ j = 2 ∨ j = 3 ∨ j = 4 ∨ j = 5 := by omega
    · show _ = s / 3125 % 5; omega
    · show _ = s / 625 % 5; omega
    · show _ = s / 125 % 5; omega
    · show _ = s / 25 % 5; omega
    · show _ = s / 5 % 5; omega
    · show _ = s / 1 % 5; omega
  have q := h.2 s (by omega) (Val_congr 6 0 _ w' _ ed v')
  rw [← cntW_congr 6 0 ed] at q
  exact ⟨q.1, fun l => q.2 (lc l)⟩
theorem eR_lay (hF : 20000 ≤ F) (hB : B ≤ 1000) (hT : RT N T) (hW : Wf B T) (hv : v < 3) : ∃ w N', f_X6_layMost F (nI v) N = some (nI (cntW w 6 0), N') ∧ Best (T.1 0) (LB (lfv T v)) 6 0 (needN T) w ∧ frY N N' ∧ (∀ i, i < 6 → N'.1 6 i = nI (w i)) ∧ ∀ i, i < 6 → w i ≤ 4 := by
  obtain ⟨F', e⟩ : ∃ k, F = k + 1 := ⟨F - 1, by omega⟩
  have hF1 : 100 ≤ F := by omega
  obtain ⟨x, N1, p1, p2, p3, p4, p5, p6⟩ := e_said (F := F) hF1 hB hT hW hv (show 0 < 15625 by omega)
  have v0 : Val (T.1 0) (LB (lfv T v)) 6 0 (needN T) (dg 0) := by
    refine (Val_iff 6 0 _ _).mpr ⟨fun j _ _ => Or.inl (dg_0 j), fun c _ => ?_⟩
    have : numW (dg 0) c 6 0 = 0 := by simp [numW, dg_0]
    omega
  have c0 : cntW (dg 0) 6 0 = 0 := by simp [cntW, dg_0]
  obtain ⟨N2, t1, t2, t3, t4⟩ := eR_copy (F := F) (a1 := 5) (a2 := 6) hF1 (by decide) (by decide) (by decide) N1
  obtain ⟨b, N3, q1, q2, q3, q4, q5⟩ := l_lay (F := F) hF1 hB hT hW hv 15624 1 0 F' N2 (by omega) (by omega) (by omega) (p4.tr ⟨fun i _ a _ => t2 i a, t4⟩) ⟨v0, fun s' a _ => by rw [show s' = 0 by omega]; exact ⟨Nat.le_refl _, fun z => by omega⟩⟩ (fun i hi => by rw [t3 i hi]; exact p6 i hi)
  refine ⟨dg b, N3, ?_, Fst_Best hW q2 q4, q3, q5, fun i hi => by unfold dg; omega⟩
  unfold f_X6_layMost
  have : LX6_layMost_4 F F (nI v) (mI 1) 0 N = LX6_layMost_4 F (F' + 1) (nI v) (mI 1) 0 N := by rw [← e]
  rw [this, LX6_layMost_4_s, if_neg (by decide), i0, bd_of p1, p2 v0, c0, if_neg (by decide), bd_of t1, nm_eq, nI_1]
  rw [c0] at q1
  exact q1
end LY
