/-! the page -/
def okB (j p : Nat) : Bool := if j = 8 then decide (p = 59) else if j = 9 then decide (48 ≤ p) && decide (p ≤ 57) else if j = 2 ∨ j = 5 then decide (p = 44) else decide (j < 8) && (decide (48 ≤ p) && decide (p ≤ 55))
theorem e_len (F : Nat) (M : Mem) : f_J0_length_8abf5 F M = some (nI 10, M) := by
  unfold f_J0_length_8abf5 f_J0_coder_7d493
  rw [if_neg (by decide), bd_some, show (10 : Int32) >>> ((0 : Int32) &&& 31) = nI 10 from by decide]
theorem bytS_c : ∀ j, j < 10 → (((bytS j) &&& (255 : Int32)).toUInt32 % 65536).toInt32 = bytS j := by decide +kernel
theorem e_char (F : Nat) {j : Nat} (hj : j < 10) (M : Mem) : f_J0_charAt_5068e F (nI j) M = some (bytS j, M) := by
  unfold f_J0_charAt_5068e f_J0_isLatin1_aae02 f_J1_charAt_3b067 f_J0_checkIndex_df160 f_J3_checkIndex_8e157
  rw [if_neg (by decide), if_pos rfl, bd_some, if_neg (by decide), if_neg (nI_pos (by omega)), i10, if_pos (nI_lt hj (by omega)), bd_some, bd_some, gi_nI hj (by omega), nI_clamp (by omega), bd_some, bytS_c j hj]
  have h : ∀ j, j < 10 → narrow .char (.int (bytS j)) = .int (bytS j) := fun j hj => by
    have := pk_nc ((bytS j) &&& (255 : Int32))
    rwa [bytS_c j hj] at this
  exact if_pos (h j hj)
theorem b2i (c : Bool) : nI c.toNat = if c = true then 1 else 0 := by cases c <;> rfl
/-- a digit's place of the class -/
theorem e_dig (F : Nat) {p : Nat} (hp : p < 200) (hi : Nat) (hh : hi < 200) (M : Mem) : JX5_fits_35 F (nI p) (nI hi) (1 : Int32) M = some (nI (decide (48 ≤ p) && decide (p ≤ hi)).toNat, M) := by
  unfold JX5_fits_35
  rw [if_neg (by decide), i48]
  by_cases h1 : p < 48
  · rw [if_pos (nI_lt h1 (by omega))]
    simp [show ¬ 48 ≤ p by omega, i0]
  · rw [if_neg (nI_nlt (by omega) (by omega))]
    by_cases h2 : hi < p
    · rw [if_pos (nI_lt h2 (by omega))]
      simp [show ¬ p ≤ hi by omega, i0]
    · rw [if_neg (nI_nlt (by omega) (by omega))]
      simp [show p ≤ hi by omega, show 48 ≤ p by omega, i1]
theorem e_sgn (F : Nat) {p : Nat} (hp : p < 200) (s : Nat) (hs : s < 200) (M : Mem) : JX5_fits_34 F (nI p) (nI s) M = some (nI (decide (p = s)).toNat, M) := by
  unfold JX5_fits_34 JX5_fits_35
  rw [if_pos rfl]
  by_cases h : p = s
  · rw [if_pos (by rw [h])]; simp [h, i1]
  · rw [if_neg (fun q => h ((nI_eq (by omega) (by omega)).mp q))]; simp [h, i0]
theorem e_fits (F : Nat) {j p : Nat} (hj : j < 12) (hp : p < 200) (M : Mem) : f_X5_fits F (nI j) (nI p) M = some (nI (okB j p).toNat, M) := by
  unfold f_X5_fits
  rw [bd_of (e_len F M)]
  by_cases h10 : j < 10
  · rw [if_pos (nI_lt h10 (by omega)), bd_of (e_char F h10 M)]
    rcases (show j = 0 ∨ j = 1 ∨ j = 2 ∨ j = 3 ∨ j = 4 ∨ j = 5 ∨ j = 6 ∨ j = 7 ∨ j = 8 ∨ j = 9 by omega) with rfl | rfl | rfl | rfl | rfl | rfl | rfl | rfl | rfl | rfl
    · rw [if_neg (by decide), if_neg (by decide)]; exact e_dig F hp 55 (by omega) M
    · rw [if_neg (by decide), if_neg (by decide)]; exact e_dig F hp 55 (by omega) M
    · rw [if_pos (by decide)]; exact e_sgn F hp 44 (by omega) M
    · rw [if_neg (by decide), if_neg (by decide)]; exact e_dig F hp 55 (by omega) M
    · rw [if_neg (by decide), if_neg (by decide)]; exact e_dig F hp 55 (by omega) M
    · rw [if_pos (by decide)]; exact e_sgn F hp 44 (by omega) M
    · rw [if_neg (by decide), if_neg (by decide)]; exact e_dig F hp 55 (by omega) M
    · rw [if_neg (by decide), if_neg (by decide)]; exact e_dig F hp 55 (by omega) M
    · rw [if_neg (by decide), if_pos (by decide)]; exact e_sgn F hp 59 (by omega) M
    · rw [if_neg (by decide), if_neg (by decide)]; exact e_dig F hp 57 (by omega) M
  · rw [if_neg (nI_nlt (by omega) (by omega))]
    rcases (show j = 10 ∨ j = 11 by omega) with rfl | rfl <;> rfl
theorem e_inD (F : Nat) {p : Nat} (hp : p < 200) (n : Nat) (y : Int64) (N : Mem) (hy : y.toInt = (n : Int) - 1) : f_X6_in F (nI p - nI 48).toInt64 0 y N = some (if 48 ≤ p ∧ p < 48 + n then 1 else 0, N) := by
  rw [e_inL F _ n y N hy]
  unfold inL
  rw [pk_sub_toInt (by omega) (by omega)]
  by_cases h : 48 ≤ p ∧ p < 48 + n
  · rw [if_pos h, if_pos ⟨by omega, by omega⟩]
  · rw [if_neg h, if_neg (fun q => h ⟨by have := q.1; omega, by have := q.2; omega⟩)]
theorem e_good (F : Nat) {j p : Nat} (hj : j < 12) (hp : p < 200) (N : Mem) : f_X6_isGood F (nI j) (nI p) N = some (nI (okB j p).toNat, N) := by
  unfold f_X6_isGood
  rw [nm_eq, i48, bd_of (e_inD F hp 8 7 N (by decide)), bd_of (e_inD F hp 10 9 N (by decide)), gb01]
  have d8 : (some ((if 48 ≤ p ∧ p < 48 + 8 then (1 : Int32) else 0), N) : Option (Int32 × Mem)) = some (nI (decide (48 ≤ p) && decide (p ≤ 55)).toNat, N) := by
    by_cases h : 48 ≤ p ∧ p < 48 + 8
    · rw [if_pos h]; simp [h.1, show p ≤ 55 by omega, i1]
    · rw [if_neg h]
      by_cases h1 : 48 ≤ p
      · simp [h1, show ¬ p ≤ 55 by omega, i0]
      · simp [h1, i0]
  have sg : ∀ s, s < 200 → (if nI p = nI s then (some ((1 : Int32), N) : Option (Int32 × Mem)) else some (0, N)) = some (nI (decide (p = s)).toNat, N) := by
    intro s hs
    by_cases h : p = s
    · rw [if_pos (by rw [h])]; simp [h, i1]
    · rw [if_neg (fun q => h ((nI_eq (by omega) (by omega)).mp q))]; simp [h, i0]
  rcases (show j = 0 ∨ j = 1 ∨ j = 2 ∨ j = 3 ∨ j = 4 ∨ j = 5 ∨ j = 6 ∨ j = 7 ∨ j = 8 ∨ j = 9 ∨ j = 10 ∨ j = 11 by omega) with rfl | rfl | rfl | rfl | rfl | rfl | rfl | rfl | rfl | rfl | rfl | rfl
  · rw [if_pos (by decide), if_neg (by decide), d8]; rfl
  · rw [if_pos (by decide), if_neg (by decide), d8]; rfl
  · rw [if_pos (by decide), if_pos (by decide), i44]; exact sg 44 (by omega)
  · rw [if_pos (by decide), if_neg (by decide), d8]; rfl
  · rw [if_pos (by decide), if_neg (by decide), d8]; rfl
  · rw [if_pos (by decide), if_pos (by decide), i44]; exact sg 44 (by omega)
  · rw [if_pos (by decide), if_neg (by decide), d8]; rfl
  · rw [if_pos (by decide), if_neg (by decide), d8]; rfl
  · rw [if_neg (by decide), if_pos (by decide), i59]; exact sg 59 (by omega)
  · rw [if_neg (by decide), if_neg (by decide), if_pos (by decide)]
    show _ = some (nI (decide (48 ≤ p) && decide (p ≤ 57)).toNat, N)
    by_cases h : 48 ≤ p ∧ p < 48 + 10
    · rw [if_pos h, if_neg (by decide)]; simp [h.1, show p ≤ 57 by omega, i1]
    · rw [if_neg h, if_pos rfl]
      by_cases h1 : 48 ≤ p
      · simp [h1, show ¬ p ≤ 57 by omega, i0]
      · simp [h1, i0]
  · rw [if_neg (by decide), if_neg (by decide), if_neg (by decide)]; rfl
  · rw [if_neg (by decide), if_neg (by decide), if_neg (by decide)]; rfl
def flN (pg : Nat → Nat) : Nat → Nat → Nat
  | 0, j => j
  | d + 1, j => if okB j (pg j) = true then flN pg d (j + 1) else j
theorem flN_le (pg : Nat → Nat) : ∀ d j, flN pg d j ≤ j + d
  | 0, j => by simp [flN]
  | d + 1, j => by
    have := flN_le pg d (j + 1)
    simp only [flN]
    split <;> omega
theorem flN_all (pg : Nat → Nat) : ∀ d j, flN pg d j = j + d → ∀ i, j ≤ i → i < j + d → okB i (pg i) = true
  | 0, j, _, i, h1, h2 => by omega
  | d + 1, j, h, i, h1, h2 => by
    simp only [flN] at h
    by_cases e : okB j (pg j) = true
    · rw [if_pos e] at h
      by_cases q : i = j
      · rw [q]; exact e
      · exact flN_all pg d (j + 1) (by omega) i (by omega) (by omega)
    · rw [if_neg e] at h; omega
section PG
variable {B : Nat} {M N : Mem} {T : TA} {F : Nat}
theorem lC_fault {n : Nat} {pg : Nat → Nat} (hP : PgR n pg M N) : ∀ d j fu, j + d = n → d < fu → LX5_fault_2 F fu (nI j) M = some (nI (flN pg d j), M) := by
  obtain ⟨p1, p2, p3, p4⟩ := hP
  intro d
  induction d with
  | zero =>
    intro j fu h hn
    obtain ⟨fu, rfl⟩ : ∃ k, fu = k + 1 := ⟨fu - 1, by omega⟩
    rw [LX5_fault_2_s, p1, if_pos (nI_le (by omega) (by omega)), show n = j by omega]; rfl
  | succ d ih =>
    intro j fu h hn
    obtain ⟨fu, rfl⟩ : ∃ k, fu = k + 1 := ⟨fu - 1, by omega⟩
    obtain ⟨q1, q2, q3, q4⟩ := p4 j (by omega)
    rw [LX5_fault_2_s, p1, if_neg (nI_ge (by omega) (by omega)), gi_nI (by omega) (by omega), nI_clamp (by omega), q1, bd_of (e_fits F (by omega) (by omega) M), nm_eq, nI_1]
    simp only [flN]
    cases e : okB j (pg j) with
    | true => rw [if_neg (by decide), if_pos rfl]; exact ih (j + 1) fu (by omega) (by omega)
    | false => rw [if_pos (by decide), if_neg (by decide)]
theorem eC_fault {n : Nat} {pg : Nat → Nat} (hF : 100 ≤ F) (hP : PgR n pg M N) : f_X5_fault F M = some (nI (flN pg n 0), M) := lC_fault hP n 0 F (by omega) (by have := hP.2.2.1; omega)
theorem lR_fault {n : Nat} {pg : Nat → Nat} (hP : PgR n pg M N) : ∀ d j fu, j + d = n → d < fu → LX6_faultOf_2 F fu (nI j) N = some (nI (flN pg d j), N) := by
  obtain ⟨p1, p2, p3, p4⟩ := hP
  intro d
  induction d with
  | zero =>
    intro j fu h hn
    obtain ⟨fu, rfl⟩ : ∃ k, fu = k + 1 := ⟨fu - 1, by omega⟩
    rw [LX6_faultOf_2_s, p2, if_pos (nI_le (by omega) (by omega))]; rfl
  | succ d ih =>
    intro j fu h hn
    obtain ⟨fu, rfl⟩ : ∃ k, fu = k + 1 := ⟨fu - 1, by omega⟩
    obtain ⟨q1, q2, q3, q4⟩ := p4 j (by omega)
    rw [LX6_faultOf_2_s, p2, if_neg (nI_ge (by omega) (by omega)), gi_nI (by omega) (by omega), nI_clamp (by omega), q2, bd_of (e_good F (by omega) (by omega) N), nm_eq, nI_1]
    simp only [flN]
    cases e : okB j (pg j) with
    | true => rw [if_neg (by decide), if_pos rfl]; exact ih (j + 1) fu (by omega) (by omega)
    | false => rw [if_pos (by decide), if_neg (by decide)]
theorem eR_fault {n : Nat} {pg : Nat → Nat} (hF : 100 ≤ F) (hP : PgR n pg M N) : f_X6_faultOf F N = some (nI (flN pg n 0), N) := lR_fault hP n 0 F (by omega) (by have := hP.2.2.1; omega)
theorem sp_fault (hF : 100 ≤ F) : Sp B (f_X5_fault F) (f_X6_fault F) := by
  intro M N h
  have h' := h
  obtain ⟨n, ht, hi, tn, pg, T, K, h1, h2, h3, h4, h5, h6, h7, h8, h9⟩ := h
  refine ⟨_, M, N, eC_fault hF h1, ?_, Rel_up h'⟩
  unfold f_X6_fault
  rw [bd_of (eR_fault hF h1)]
/-- a change of the page alone -/
theorem Rel_page {n' : Nat} {pg' : Nat → Nat} {M' N' : Mem} (h : Rel B M N) (m : ∀ i, i ≠ 0 → i ≠ 1 → M'.1 i = M.1 i) (m0 : ∀ j, j ≠ 1 → M'.1 0 j = M.1 0 j) (a : ∀ i, i ≠ 0 → i ≠ 1 → N'.1 i = N.1 i) (a0 : ∀ j, j ≠ 1 → N'.1 0 j = N.1 0 j) (p : PgR n' pg' M' N') : Rel (B + 1) M' N' := by
  obtain ⟨n, ht, hi, tn, pg, T, K, h1, h2, h3, h4, h5, h6, h7, h8, h9⟩ := h
  refine ⟨n', ht, hi, tn, pg', T, K, p, ?_, ?_, ?_, CT_of h5 (fun i x y => m i (by omega) (by omega)), ?_, Wf_up h7 (Nat.le_succ B), fun e => ?_, fun e => ?_⟩
  · rw [m0 6 (by omega), a0 2 (by omega)]; exact h2
  · rw [m0 7 (by omega)]; exact h3
  · rw [m0 8 (by omega), a0 5 (by omega)]; exact ⟨h4.1, h4.2.1, by have := h4.2.2; omega⟩
  · exact RTg_of h6 (a0 8 (by omega)) (a0 3 (by omega)) (a0 4 (by omega)) (a0 13 (by omega)) (a 2 (by omega) (by omega)) (a 3 (by omega) (by omega)) (a 4 (by omega) (by omega)) (a 8 (by omega) (by omega))
  · obtain ⟨k1, k2, k3, k4⟩ := h8 e
    refine ⟨by rw [a0 18 (by omega)]; exact k1, CT_of k2 (fun i x y => m i (by omega) (by omega)), ?_, Wf_up k4 (Nat.le_succ B)⟩
    exact RTg_of k3 (a0 21 (by omega)) (a0 19 (by omega)) (a0 20 (by omega)) (a0 22 (by omega)) (a 2 (by omega) (by omega)) (a 12 (by omega) (by omega)) (a 11 (by omega) (by omega)) (a 13 (by omega) (by omega))
  · rw [a0 18 (by omega)]; exact h9 e
theorem sp_blank : Sp B (f_X5_blank F) (f_X6_blank F) := by
  intro M N h
  have h' := h
  obtain ⟨n, ht, hi, tn, pg, T, K, h1, h2, h3, h4, h5, h6, h7, h8, h9⟩ := h
  refine ⟨nI n, u2 M 0 1 0, u2 N 0 1 0, ?_, ?_, Rel_page (n' := 0) (pg' := pg) h' (fun i x y => u2_ne x) (fun j x => by rw [u2_at, if_neg (fun q => x q.2)]) (fun i x y => u2_ne x) (fun j x => by rw [u2_at, if_neg (fun q => x q.2)]) ⟨by rw [u2_at, if_pos ⟨rfl, rfl⟩]; rfl, by rw [u2_at, if_pos ⟨rfl, rfl⟩]; rfl, by omega, fun j hj => absurd hj (Nat.not_lt_zero j)⟩⟩
  · unfold f_X5_blank
    rw [nm_eq, nm_eq, h1.1]
  · unfold f_X6_blank
    rw [nm_eq, nm_eq, h1.2.1]
theorem char_nI {j : Nat} (hj : j < 65536) : ((nI j).toUInt32 % 65536).toInt32 = nI j := by
  rw [pk_char, pk_tn (by omega), Nat.mod_eq_of_lt hj]
theorem sp_letter (a : Int32) : Sp B (f_X5_letter F a) (f_X6_letter F a) := by
  intro M N h
  have h' := h
  obtain ⟨n, ht, hi, tn, pg, T, K, ⟨p1, p2, p3, p4⟩, h2, h3, h4, h5, h6, h7, h8, h9⟩ := h
  unfold f_X5_letter f_X6_letter
  rw [bd_of (e_in F a 1 126 1 126 N (by decide) (by decide))]
  by_cases c : inR a 1 126
  · obtain ⟨j, j1, j2, rfl⟩ := inR_nI c (by omega)
    rw [if_pos c, if_neg (show ¬ (1 : Int32) = 0 from by decide), i1, if_neg (nI_nlt j1 (by omega)), i126, if_pos (nI_le j2 (by omega)), p1, p2, i12]
    by_cases e : n = 12
    · rw [if_neg (nI_nlt (by omega) (by omega)), if_pos (by rw [e])]
      exact ⟨_, M, N, rfl, rfl, Rel_up h'⟩
    · rw [if_pos (nI_lt (by omega) (by omega)), if_neg (fun q => e ((nI_eq (by omega) (by omega)).mp q)), nm_eq, gi_nI (by omega) (by omega), gi_nI (by omega) (by omega), pk_vc, char_nI (by omega), nI_clamp (by omega), nm_eq, nm_eq, nm_eq, nm_eq, nm_eq, nm_eq]
      rw [show (u2 M 1 n (nI j)).1 0 1 = nI n by rw [u2_ne (by omega)]; exact p1, show (u2 N 1 n (nI j)).1 0 1 = nI n by rw [u2_ne (by omega)]; exact p2, nI_add]
      refine ⟨nI (n + 1), _, _, by rw [u2_at, if_pos ⟨rfl, rfl⟩], by rw [u2_at, if_pos ⟨rfl, rfl⟩], Rel_page (n' := n + 1) (pg' := fun i => if i = n then j else pg i) h' (fun i x y => by rw [u2_ne x, u2_ne y]) (fun i x => by rw [u2_at, if_neg (fun q => x q.2), u2_ne (by omega)]) (fun i x y => by rw [u2_ne x, u2_ne y]) (fun i x => by rw [u2_at, if_neg (fun q => x q.2), u2_ne (by omega)]) ⟨by rw [u2_at, if_pos ⟨rfl, rfl⟩], by rw [u2_at, if_pos ⟨rfl, rfl⟩], by omega, fun i hi => ?_⟩⟩
      have e1 : ∀ (X : Mem) (y : Int32), (u2 (u2 X 1 n (nI j)) 0 1 y).1 1 i = if i = n then nI j else X.1 1 i := fun X y => by
        rw [u2_ne (by omega), u2_at]
        by_cases z : i = n
        · rw [if_pos ⟨rfl, z⟩, if_pos z]
        · rw [if_neg (fun q => z q.2), if_neg z]
      rw [e1, e1]
      show _ = nI (if i = n then j else pg i) ∧ _ = nI (if i = n then j else pg i) ∧ 1 ≤ (if i = n then j else pg i) ∧ (if i = n then j else pg i) ≤ 126
      by_cases z : i = n
      · rw [if_pos z, if_pos z, if_pos z]; exact ⟨rfl, rfl, j1, j2⟩
      · rw [if_neg z, if_neg z, if_neg z]; exact p4 i (by omega)
  · rw [if_neg c, if_pos rfl, i1, i126]
    refine ⟨mI 102, M, N, ?_, rfl, Rel_up h'⟩
    by_cases c1 : a < nI 1
    · rw [if_pos c1]
    · rw [if_neg c1, if_neg (fun q => c ⟨by have := mt (lt_nI (by omega)).mpr c1; omega, by have := (le_nI (by omega)).mp q; omega⟩)]
end PG
