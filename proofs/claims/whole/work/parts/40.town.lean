/-! town -/
section TN
variable {B : Nat} {M N : Mem} {T : TA} {F : Nat}
def clT (T : TA) (v : Nat) : TA := (T.1, fun v' j => if v' < v then 0 else T.2.1 v' j, T.2.2)
theorem eC_clearV {k0 : Nat} : ∃ M', f_X3_clear F k0 M = some ((), M') ∧ (∀ i, i ≠ k0 → M'.1 i = M.1 i) ∧ ∀ j, j < 4 → M'.1 k0 j = 0 := by
  refine ⟨_, rfl, fun i hi => ?_, fun j hj => ?_⟩
  · simp only [u2_ne hi]
  · simp only [u2_at]
    rcases (show j = 0 ∨ j = 1 ∨ j = 2 ∨ j = 3 by omega) with rfl | rfl | rfl | rfl <;> simp
theorem lC_clear : ∀ d v n M, v + d = 3 → d < n → CT M 6 (clT T v) → ∃ M', LX2_clear_2 F n 6 (nI v) M = some ((), M') ∧ CT M' 6 ((fun _ => 0), (fun _ _ => 0), T.2.2) ∧ ∀ i, (i < 6 ∨ 16 ≤ i) → M'.1 i = M.1 i := by
  intro d
  induction d with
  | zero =>
    intro v n M h hn hT
    obtain ⟨n, rfl⟩ : ∃ k, n = k + 1 := ⟨n - 1, by omega⟩
    rw [LX2_clear_2_s, i3, if_pos (nI_le (by omega) (by omega))]
    simp only [nm_eq]
    refine ⟨_, rfl, ⟨fun j hj => ?_, fun v' hv' j hj => ?_, fun c hc j hj => ?_⟩, fun i hi => ?_⟩
    · simp only [u2_at]
      rcases (show j = 0 ∨ j = 1 ∨ j = 2 ∨ j = 3 by omega) with rfl | rfl | rfl | rfl <;> simp [i0]
    · have e : (clT T v).2.1 v' j = 0 := if_pos (by omega)
      have := hT.2.1 v' hv' j hj
      rw [e] at this
      rw [u2_ne (by omega), u2_ne (by omega), u2_ne (by omega), u2_ne (by omega)]
      exact this
    · rw [u2_ne (by omega), u2_ne (by omega), u2_ne (by omega), u2_ne (by omega)]
      exact hT.2.2 c hc j hj
    · rw [u2_ne (by omega), u2_ne (by omega), u2_ne (by omega), u2_ne (by omega)]
  | succ d ih =>
    intro v n M h hn hT
    obtain ⟨n, rfl⟩ : ∃ k, n = k + 1 := ⟨n - 1, by omega⟩
    have hv : v < 3 := by omega
    obtain ⟨M1, m1, m2, m3⟩ := eC_clearV (F := F) (M := M) (k0 := 6 + 3 + v)
    have c1 : CT M1 6 (clT T (v + 1)) := by
      refine ⟨fun j hj => by rw [m2 6 (by omega)]; exact hT.1 j hj, fun v' hv' j hj => ?_, fun c hc j hj => by rw [m2 _ (by omega)]; exact hT.2.2 c hc j hj⟩
      show _ = nI (if v' < v + 1 then 0 else T.2.1 v' j)
      by_cases e : v' = v
      · subst e
        rw [m3 j hj, if_pos (by omega)]; rfl
      · rw [m2 _ (by omega), hT.2.1 v' hv' j hj]
        show nI (if v' < v then 0 else T.2.1 v' j) = _
        by_cases q : v' < v
        · rw [if_pos q, if_pos (by omega)]
        · rw [if_neg q, if_neg (by omega)]
    obtain ⟨M', p1, p2, p3⟩ := ih (v + 1) n M1 (by omega) (by omega) c1
    refine ⟨M', ?_, p2, fun i hi => by rw [p3 i hi, m2 i (by omega)]⟩
    rw [LX2_clear_2_s, i3, if_neg (nI_ge (by omega) (by omega)), gi_nI hv (by omega), nI_clamp (by omega), bd_of m1, nm_eq, nI_1]
    exact p1
/-- a victim's truth in the text -/
def dgN (pg : Nat → Nat) (v : Nat) : Nat := 8 * (pg (3 * v) - 48) + (pg (3 * v + 1) - 48)
def twT (T : TA) (pg : Nat → Nat) (v : Nat) : TA := ((fun _ => 0), (fun v' j => if v' < v ∧ j = 0 then dgN pg v' else 0), T.2.2)
def nwT (T : TA) (pg : Nat → Nat) : TA := sS (twT T pg 3) 1 (pg 9 - 48)
theorem ok_dig {pg : Nat → Nat} (h : ∀ i, i < 10 → okB i (pg i) = true) : (∀ v, v < 3 → 48 ≤ pg (3 * v) ∧ pg (3 * v) ≤ 55 ∧ 48 ≤ pg (3 * v + 1) ∧ pg (3 * v + 1) ≤ 55) ∧ 48 ≤ pg 9 ∧ pg 9 ≤ 57 := by
  refine ⟨fun v hv => ?_, ?_⟩
  · have a := h (3 * v) (by omega)
    have b := h (3 * v + 1) (by omega)
    rcases (show v = 0 ∨ v = 1 ∨ v = 2 by omega) with rfl | rfl | rfl <;> simp [okB] at a b ⊢ <;> omega
  · have a := h 9 (by omega)
    simp [okB] at a
    omega
theorem dgN_lt {pg : Nat → Nat} (h : ∀ i, i < 10 → okB i (pg i) = true) {v : Nat} (hv : v < 3) : dgN pg v < 64 := by
  have := (ok_dig h).1 v hv
  unfold dgN
  omega
theorem e_digitAt {pg : Nat → Nat} (hp : ∀ j, j < 10 → M.1 1 j = nI (pg j)) {j : Nat} (hj : j < 10) (h : 48 ≤ pg j) : f_X5_digitAt F (nI j) M = some (nI (pg j - 48), M) := by
  unfold f_X5_digitAt
  rw [gi_nI (by omega) (by omega), nI_clamp (by omega), hp j hj, i48, pk_sub h]
theorem lC_town {pg : Nat → Nat} (hF : 100 ≤ F) (hW : ∀ c, c < 4 → T.2.2 c 0 ≤ 4 ∧ T.2.2 c 1 < 3 ∧ T.2.2 c 2 ≤ 9 ∧ T.2.2 c 3 < 64 ∧ T.2.2 c 4 ≤ 3 ∧ T.2.2 c 5 ≤ B) (ok : ∀ i, i < 10 → okB i (pg i) = true) {tn : Nat} : ∀ d v n M, v + d = 3 → d < n → (∀ j, j < 10 → M.1 1 j = nI (pg j)) → M.1 0 8 = nI tn → CT M 6 (twT T pg v) → ∃ M', LX5_town_35 F n (nI v) M = some (nI (sm (dgN pg · |> pc) 3), M') ∧ CT M' 6 (nwT T pg) ∧ M'.1 0 1 = nI 0 ∧ M'.1 0 6 = nI 1 ∧ M'.1 0 7 = nI 0 ∧ M'.1 0 8 = nI (tn + 1) := by
  obtain ⟨od, o9⟩ := ok_dig ok
  intro d
  induction d with
  | zero =>
    intro v n M h hn hp ht hT
    obtain ⟨n, rfl⟩ : ∃ k, n = k + 1 := ⟨n - 1, by omega⟩
    have e3 : v = 3 := by omega
    subst e3
    rw [LX5_town_35_s, i3, if_pos (nI_le (by omega) (by omega)), i9, bd_of (e_digitAt hp (by omega) o9.1)]
    simp only [nm_eq]
    have c1 := CT_S hT (i := 1) (by omega) (pg 9 - 48)
    have t8 : (u2 (u2 (u2 (u2 M 6 3 (nI (pg 9 - 48))) 0 1 0) 0 6 1) 0 7 0).1 0 8 = nI tn := by
      rw [u2_at, if_neg (fun q => by omega), u2_at, if_neg (fun q => by omega), u2_at, if_neg (fun q => by omega), u2_ne (by omega)]; exact ht
    rw [t8, nI_1]
    have c2 : CT (u2 (u2 (u2 (u2 (u2 M 6 3 (nI (pg 9 - 48))) 0 1 0) 0 6 1) 0 7 0) 0 8 (nI (tn + 1))) 6 (nwT T pg) := CT_of c1 (fun i a b => by rw [u2_ne (by omega), u2_ne (by omega), u2_ne (by omega), u2_ne (by omega)])
    have W : Wf B (nwT T pg) := by
      refine ⟨?_, ?_, ?_, ?_, fun v hv j hj => ?_, hW⟩
      · exact Nat.zero_le 4
      · show pg 9 - 48 ≤ 9; omega
      · exact Nat.zero_le B
      · exact Nat.zero_le 8
      · show (if v < 3 ∧ j = 0 then dgN pg v else 0) < 64
        split
        · exact dgN_lt ok hv
        · omega
    refine ⟨_, ?_, c2, ?_, ?_, ?_, ?_⟩
    · rw [bd_of (eC_truthsOfAll hF c2 W)]
      congr 3
    · rw [u2_at, if_neg (fun q => by omega), u2_at, if_neg (fun q => by omega), u2_at, if_neg (fun q => by omega), u2_at, if_pos ⟨rfl, rfl⟩]; rfl
    · rw [u2_at, if_neg (fun q => by omega), u2_at, if_neg (fun q => by omega), u2_at, if_pos ⟨rfl, rfl⟩]; rfl
    · rw [u2_at, if_neg (fun q => by omega), u2_at, if_pos ⟨rfl, rfl⟩]; rfl
    · rw [u2_at, if_pos ⟨rfl, rfl⟩]
  | succ d ih =>
    intro v n M h hn hp ht hT
    obtain ⟨n, rfl⟩ : ∃ k, n = k + 1 := ⟨n - 1, by omega⟩
    have hv : v < 3 := by omega
    obtain ⟨d1, d2, d3, d4⟩ := od v hv
    have c1 := CT_V hT (v0 := v) (i := 0) hv (dgN pg v)
    have e : sV (twT T pg v) v 0 (dgN pg v) = twT T pg (v + 1) := by
      have : ∀ v' j, (sV (twT T pg v) v 0 (dgN pg v)).2.1 v' j = (twT T pg (v + 1)).2.1 v' j := by
        intro v' j
        show (if v' = v ∧ j = 0 then dgN pg v else if v' < v ∧ j = 0 then dgN pg v' else 0) = if v' < v + 1 ∧ j = 0 then dgN pg v' else 0
        by_cases q : v' = v ∧ j = 0
        · rw [if_pos q, if_pos (by omega), q.1]
        · rw [if_neg q]
          by_cases q2 : v' < v ∧ j = 0
          · rw [if_pos q2, if_pos (by omega)]
          · rw [if_neg q2, if_neg (by omega)]
      exact Prod.ext rfl (Prod.ext (funext fun v' => funext fun j => this v' j) rfl)
    rw [e] at c1
    obtain ⟨M', p1, p2⟩ := ih (v + 1) n _ (by omega) (by omega) (fun j hj => by rw [u2_ne (by omega)]; exact hp j hj) (by rw [u2_ne (by omega)]; exact ht) c1
    refine ⟨M', ?_, p2⟩
    rw [LX5_town_35_s, i3, if_neg (nI_ge (by omega) (by omega)), nm_eq, pk_mul, gi_nI hv (by omega), bd_of (e_digitAt hp (by omega) d1), nI_1, bd_of (e_digitAt hp (by omega) d3), nm_eq, i8, pk_mul, nI_add, nI_clamp (by omega), nm_eq, nm_eq, nI_1]
    exact p1
theorem lR_town {pg : Nat → Nat} (hF : 100 ≤ F) (ok : ∀ i, i < 10 → okB i (pg i) = true) {tn : Nat} (N0 : Mem) (hp : ∀ j, j < 10 → N0.1 1 j = nI (pg j)) (ht : N0.1 0 5 = nI tn) (hr : ∀ c, c < 4 → ∀ j, j < 6 → N0.1 4 (6 * c + j) = nI (T.2.2 c j)) : ∀ d v n N, v + d = 3 → d < n → (∀ i, i ≠ 2 → i ≠ 3 → N.1 i = N0.1 i) → (∀ u, u < v → N.1 2 u = nI (dgN pg u) ∧ N.1 3 u = 0) → ∃ N', LX6_town_23 F n (nI v) N = some (nI (sm (dgN pg · |> pc) 3), N') ∧ RT N' (nwT T pg) ∧ N'.1 0 1 = nI 0 ∧ N'.1 0 2 = nI 1 ∧ N'.1 0 5 = nI (tn + 1) ∧ N'.1 0 18 = N0.1 0 18 := by
  obtain ⟨od, o9⟩ := ok_dig ok
  intro d
  induction d with
  | zero =>
    intro v n N h hn ho hu
    obtain ⟨n, rfl⟩ : ∃ k, n = k + 1 := ⟨n - 1, by omega⟩
    have e3 : v = 3 := by omega
    subst e3
    rw [LX6_town_23_s, i3, if_pos (nI_le (by omega) (by omega)), i9, gi_nI (by omega) (by omega), nI_clamp (by omega), nm_eq, ho 1 (by omega) (by omega), hp 9 (by omega), i48, pk_sub o9.1]
    simp only [nm_eq]
    have t5 : (u2 (u2 (u2 (u2 (u2 N 0 3 (nI (pg 9 - 48))) 0 2 1) 0 4 0) 0 8 0) 0 13 0).1 0 5 = nI tn := by
      rw [u2_at, if_neg (fun q => by omega), u2_at, if_neg (fun q => by omega), u2_at, if_neg (fun q => by omega), u2_at, if_neg (fun q => by omega), u2_at, if_neg (fun q => by omega), ho 0 (by omega) (by omega)]; exact ht
    rw [t5, nI_1]
    generalize hN4 : u2 (u2 (u2 (u2 (u2 (u2 (u2 N 0 3 (nI (pg 9 - 48))) 0 2 1) 0 4 0) 0 8 0) 0 13 0) 0 5 (nI (tn + 1))) 0 1 0 = N4
    have qi : ∀ i, i ≠ 0 → N4.1 i = N.1 i := fun i hi => by
      rw [← hN4, u2_ne hi, u2_ne hi, u2_ne hi, u2_ne hi, u2_ne hi, u2_ne hi, u2_ne hi]
    have q1 : N4.1 0 1 = 0 := by rw [← hN4]; simp [u2_at]
    have q2 : N4.1 0 2 = 1 := by rw [← hN4]; simp [u2_at]
    have q3 : N4.1 0 3 = nI (pg 9 - 48) := by rw [← hN4]; simp [u2_at]
    have q4 : N4.1 0 4 = 0 := by rw [← hN4]; simp [u2_at]
    have q5 : N4.1 0 5 = nI (tn + 1) := by rw [← hN4]; simp [u2_at]
    have q8 : N4.1 0 8 = 0 := by rw [← hN4]; simp [u2_at]
    have q13 : N4.1 0 13 = 0 := by rw [← hN4]; simp [u2_at]
    have q18 : N4.1 0 18 = N0.1 0 18 := by rw [← hN4]; simp [u2_at, ho 0 (by omega) (by omega)]
    have R : RT N4 (nwT T pg) := by
      refine ⟨q8, q3, q4, q13, fun u hu' => ?_, fun u hu' => ?_, fun c hc j hj => ?_, ?_⟩
      · rw [qi 2 (by omega), (hu u hu').1]
        exact congrArg nI (if_pos ⟨hu', rfl⟩).symm
      · rw [qi 3 (by omega), (hu u hu').2]
        exact congrArg nI (if_neg (fun q => by omega)).symm
      · rw [qi 4 (by omega), ho 4 (by omega) (by omega)]; exact hr c hc j hj
      · refine ⟨fun i hi => absurd hi (Nat.not_lt_zero i), fun v' hv' k hk => ?_⟩
        have z : ∀ j, j = 2 ∨ j = 3 → (nwT T pg).2.1 v' j = 0 := fun j hj => if_neg (fun q => by omega)
        rw [z 2 (by omega), z 3 (by omega), Nat.zero_testBit]
        exact ⟨⟨fun q => Bool.noConfusion q, fun ⟨i, q, _⟩ => absurd q (Nat.not_lt_zero i)⟩, ⟨fun q => Bool.noConfusion q, fun ⟨i, q, _⟩ => absurd q (Nat.not_lt_zero i)⟩⟩
    have wv : ∀ v', v' < 3 → (nwT T pg).2.1 v' 0 < 64 := fun v' hv' => by
      show (if v' < 3 ∧ 0 = 0 then dgN pg v' else 0) < 64
      rw [if_pos ⟨hv', rfl⟩]; exact dgN_lt ok hv'
    refine ⟨N4, ?_, R, q1, q2, q5, q18⟩
    have tr : f_X6_trueAll F N4 = some (nI (sm (dgN pg · |> pc) 3), N4) := by
      have key2 : ∀ d v n, v + d = 3 → d < n → LX6_trueAll_4 F n (nI (sm (fun v => pc ((nwT T pg).2.1 v 0)) v)) (nI v) N4 = some (nI (sm (fun v => pc ((nwT T pg).2.1 v 0)) 3), N4) := by
        intro d
        induction d with
        | zero =>
          intro c n h hn
          obtain ⟨n, rfl⟩ : ∃ k, n = k + 1 := ⟨n - 1, by omega⟩
          rw [LX6_trueAll_4_s, i3, if_pos (nI_le (by omega) (by omega)), show c = 3 by omega]
        | succ d ih =>
          intro c n h hn
          obtain ⟨n, rfl⟩ : ∃ k, n = k + 1 := ⟨n - 1, by omega⟩
          have hc : c < 3 := by omega
          rw [LX6_trueAll_4_s, i3, if_neg (nI_ge (by omega) (by omega)), gi_nI hc (by omega), nI_clamp (by omega), R.2.2.2.2.1 c hc, bd_of (e_ones hF (wv c hc) N4), nm_eq, nm_eq, nI_add, nI_1]
          exact ih (c + 1) n (by omega) (by omega)
      have := key2 3 0 F (by omega) (by omega)
      rw [sm_congr (f := fun v => pc ((nwT T pg).2.1 v 0)) (g := (dgN pg · |> pc)) 3 (fun i hi => congrArg pc (show (if i < 3 ∧ 0 = 0 then dgN pg i else 0) = dgN pg i from if_pos ⟨hi, rfl⟩))] at this
      exact this
    rw [bd_of tr]
  | succ d ih =>
    intro v n N h hn ho hu
    obtain ⟨n, rfl⟩ : ∃ k, n = k + 1 := ⟨n - 1, by omega⟩
    have hv : v < 3 := by omega
    obtain ⟨d1, d2, d3, d4⟩ := od v hv
    obtain ⟨N', p1, p2⟩ := ih (v + 1) n (u2 (u2 N 2 v (nI (dgN pg v))) 3 v 0) (by omega) (by omega) (fun i a b => by rw [u2_ne b, u2_ne a]; exact ho i a b) (fun u hu' => by
      by_cases e : u = v
      · subst e
        exact ⟨by rw [u2_ne (by omega), u2_at, if_pos ⟨rfl, rfl⟩], by rw [u2_at, if_pos ⟨rfl, rfl⟩]⟩
      · exact ⟨by rw [u2_ne (by omega), u2_at, if_neg (fun q => e q.2)]; exact (hu u (by omega)).1, by rw [u2_at, if_neg (fun q => e q.2), u2_ne (by omega)]; exact (hu u (by omega)).2⟩)
    refine ⟨N', ?_, p2⟩
    rw [LX6_town_23_s, i3, if_neg (nI_ge (by omega) (by omega)), pk_mul, gi_nI (by omega) (by omega), nI_1, gi_nI (by omega) (by omega), nm_eq, nI_clamp (show 3 * v < 2 ^ 31 by omega), nI_clamp (show 3 * v + 1 < 2 ^ 31 by omega), ho 1 (by omega) (by omega), hp (3 * v) (by omega), hp (3 * v + 1) (by omega), i48, pk_sub d1, i8, pk_mul, nI_add, pk_sub (by omega), gi_nI hv (by omega), nm_eq, gi_nI hv (by omega), nm_eq, nm_eq, nI_1, nI_clamp (by omega), show 8 * (pg (3 * v) - 48) + pg (3 * v + 1) - 48 = dgN pg v by unfold dgN; omega]
    exact p1
theorem sp_town (hF : 100 ≤ F) (hB : B ≤ 1000) : Sp B (f_X5_town F) (f_X6_town F) := by
  intro M N h
  have h' := h
  obtain ⟨n, ht, hi, tn, pg, T, K, hx⟩ := h
  obtain ⟨h1, h2, h3, h4, h5, h6, h7, h8, h9⟩ := hx
  have hn := h1.2.2.1
  have hfl := flN_le pg n 0
  unfold f_X5_town f_X6_town
  rw [bd_of (e_len F M), h1.1, h1.2.1, i10]
  by_cases e : n = 10
  · subst e
    rw [if_pos rfl, if_pos rfl, bd_of (eC_fault hF h1), bd_of (eR_fault hF h1), h1.1]
    by_cases e2 : flN pg 10 0 = 10
    · have ok : ∀ i, i < 10 → okB i (pg i) = true := fun i hi => flN_all pg 10 0 (by omega) i (by omega) (by omega)
      rw [e2, if_pos rfl, if_pos (nI_le (by omega) (by omega))]
      have h0 : CT M 6 (clT T 0) := by
        refine ⟨h5.1, fun v hv j hj => ?_, h5.2.2⟩
        rw [h5.2.1 v hv j hj]
        show _ = nI (if v < 0 then 0 else T.2.1 v j)
        rw [if_neg (Nat.not_lt_zero v)]
      obtain ⟨M1, m1, m2, m3⟩ := lC_clear (F := F) 3 0 F M (by omega) (by omega) h0
      have c1 : CT M1 6 (twT T pg 0) := by
        refine ⟨m2.1, fun v hv j hj => ?_, m2.2.2⟩
        rw [m2.2.1 v hv j hj]
        show nI 0 = nI (if v < 0 ∧ j = 0 then dgN pg v else 0)
        rw [if_neg (fun q => Nat.not_lt_zero v q.1)]
      obtain ⟨M2, p1, p2, p3, p4, p5, p6⟩ := lC_town (F := F) (B := B) (tn := tn) hF h7.2.2.2.2.2 ok 3 0 F M1 (by omega) (by omega) (fun j hj => by rw [m3 1 (by omega)]; exact (h1.2.2.2 j hj).1) (by rw [m3 0 (by omega)]; exact h4.1) c1
      obtain ⟨N2, r1, r2, r3, r4, r5, r6⟩ := lR_town (F := F) (T := T) (tn := tn) hF ok N (fun j hj => (h1.2.2.2 j hj).2.1) h4.2.1 h6.2.2.2.2.2.2.1 3 0 F N (by omega) (by omega) (fun _ _ _ => rfl) (fun u hu => absurd hu (Nat.not_lt_zero u))
      unfold f_X2_clear
      rw [show (0 : Int32) = nI 0 from rfl, bd_of m1]
      refine ⟨_, M2, N2, p1, r1, 0, 1, 0, tn + 1, pg, nwT T pg, T, ⟨p3, r3, by omega, fun j hj => absurd hj (Nat.not_lt_zero j)⟩, ⟨p4, r4, by omega⟩, ⟨p5, by omega⟩, ⟨p6, r5, by have := h4.2.2; omega⟩, p2, r2, ?_, fun q => absurd q (by decide), fun _ => ?_⟩
      · refine Wf_up ⟨?_, ?_, ?_, ?_, fun v hv j hj => ?_, h7.2.2.2.2.2⟩ (Nat.le_succ B)
        · exact Nat.zero_le 4
        · have := (ok_dig ok).2
          show pg 9 - 48 ≤ 9; omega
        · exact Nat.zero_le B
        · exact Nat.zero_le 8
        · show (if v < 3 ∧ j = 0 then dgN pg v else 0) < 64
          split
          · exact dgN_lt ok hv
          · omega
      · rw [r6]
        by_cases e1 : hi = 1
        · exact Or.inr ⟨tn, by omega, (h8 e1).1⟩
        · rcases h9 (by have := h3.2; omega) with q | ⟨k, hk, q⟩
          · exact Or.inl q
          · exact Or.inr ⟨k, by omega, q⟩
    · rw [if_neg (fun q => e2 ((nI_eq (by omega) (by omega)).mp q)), if_neg (nI_ge (by omega) (by omega))]
      exact ⟨_, M, N, rfl, rfl, Rel_up h'⟩
  · have ne : ¬ nI n = nI 10 := fun q => e ((nI_eq (by omega) (by omega)).mp q)
    rw [if_neg ne, if_neg ne]
    exact ⟨_, M, N, rfl, rfl, Rel_up h'⟩
end TN
