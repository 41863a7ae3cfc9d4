/-! the two memories agree -/
def PgR (n : Nat) (pg : Nat → Nat) (M N : Mem) : Prop := M.1 0 1 = nI n ∧ N.1 0 1 = nI n ∧ n ≤ 12 ∧ ∀ j, j < n → M.1 1 j = nI (pg j) ∧ N.1 1 j = nI (pg j) ∧ 1 ≤ pg j ∧ pg j ≤ 126
def RelX (B n ht hi tn : Nat) (pg : Nat → Nat) (T K : TA) (M N : Mem) : Prop :=
  PgR n pg M N ∧ (M.1 0 6 = nI ht ∧ N.1 0 2 = nI ht ∧ ht ≤ 1) ∧ (M.1 0 7 = nI hi ∧ hi ≤ 1) ∧ (M.1 0 8 = nI tn ∧ N.1 0 5 = nI tn ∧ tn ≤ B) ∧ CT M 6 T ∧ RT N T ∧ Wf B T ∧ (hi = 1 → N.1 0 18 = nI tn ∧ CT M 16 K ∧ KT N K ∧ Wf B K) ∧ (hi = 0 → N.1 0 18 = mI 1 ∨ ∃ k, k < tn ∧ N.1 0 18 = nI k)
def Rel (B : Nat) (M N : Mem) : Prop := ∃ (n ht hi tn : Nat) (pg : Nat → Nat) (T K : TA), RelX B n ht hi tn pg T K M N
def Sp (B : Nat) (fC fR : Mem → Option (Int32 × Mem)) : Prop := ∀ M N, Rel B M N → ∃ r M' N', fC M = some (r, M') ∧ fR N = some (r, N') ∧ Rel (B + 1) M' N'
theorem Rel_up {B : Nat} {M N : Mem} (h : Rel B M N) : Rel (B + 1) M N := by
  obtain ⟨n, ht, hi, tn, pg, T, K, h1, h2, h3, h4, h5, h6, h7, h8, h9⟩ := h
  exact ⟨n, ht, hi, tn, pg, T, K, h1, h2, h3, ⟨h4.1, h4.2.1, by have := h4.2.2; omega⟩, h5, h6, Wf_up h7 (Nat.le_succ B), fun e => ⟨(h8 e).1, (h8 e).2.1, (h8 e).2.2.1, Wf_up (h8 e).2.2.2 (Nat.le_succ B)⟩, h9⟩
/-- a change of the town that is now, and of nothing else that counts -/
theorem Rel_now {B n ht hi tn : Nat} {pg : Nat → Nat} {T K T' : TA} {M N M' N' : Mem} (h : RelX B n ht hi tn pg T K M N) (m : ∀ i, i = 0 ∨ i = 1 ∨ (16 ≤ i ∧ i < 26) → M'.1 i = M.1 i) (a : ∀ i, i = 1 ∨ i = 2 ∨ i = 11 ∨ i = 12 ∨ i = 13 → N'.1 i = N.1 i) (s : ∀ j, j = 1 ∨ j = 2 ∨ j = 5 ∨ j = 18 ∨ j = 19 ∨ j = 20 ∨ j = 21 ∨ j = 22 → N'.1 0 j = N.1 0 j) (c : CT M' 6 T') (r : RT N' T') (w : Wf (B + 1) T') : Rel (B + 1) M' N' := by
  obtain ⟨h1, h2, h3, h4, h5, h6, h7, h8, h9⟩ := h
  refine ⟨n, ht, hi, tn, pg, T', K, ?_, ?_, ?_, ?_, c, r, w, fun e => ?_, fun e => ?_⟩
  · unfold PgR
    rw [m 0 (by omega), m 1 (by omega), s 1 (by omega), a 1 (by omega)]; exact h1
  · rw [m 0 (by omega), s 2 (by omega)]; exact h2
  · rw [m 0 (by omega)]; exact h3
  · rw [m 0 (by omega), s 5 (by omega)]; exact ⟨h4.1, h4.2.1, by have := h4.2.2; omega⟩
  · obtain ⟨k1, k2, k3, k4⟩ := h8 e
    refine ⟨by rw [s 18 (by omega)]; exact k1, CT_of k2 (fun i h1 h2 => m i (by omega)), ?_, Wf_up k4 (Nat.le_succ B)⟩
    exact RTg_of k3 (s 21 (by omega)) (s 19 (by omega)) (s 20 (by omega)) (s 22 (by omega)) (a 2 (by omega)) (a 12 (by omega)) (a 11 (by omega)) (a 13 (by omega))
  · rw [s 18 (by omega)]; exact h9 e
/-- nothing that counts has changed -/
theorem Rel_scr {B : Nat} {M N M' N' : Mem} (h : Rel B M N) (m : ∀ i, i = 0 ∨ i = 1 ∨ (6 ≤ i ∧ i < 26) → M'.1 i = M.1 i) (a : ∀ i, i = 1 ∨ i = 2 ∨ i = 3 ∨ i = 4 ∨ i = 8 ∨ i = 11 ∨ i = 12 ∨ i = 13 → N'.1 i = N.1 i) (s : ∀ j, j ≠ 15 → N'.1 0 j = N.1 0 j) : Rel (B + 1) M' N' := by
  obtain ⟨n, ht, hi, tn, pg, T, K, h⟩ := h
  refine Rel_now (T' := T) h (fun i hi => m i (by omega)) (fun i hi => a i (by omega)) (fun j hj => s j (by omega)) (CT_of h.2.2.2.2.1 (fun i h1 h2 => m i (by omega))) ?_ (Wf_up h.2.2.2.2.2.2.1 (Nat.le_succ B))
  exact RTg_of h.2.2.2.2.2.1 (s 8 (by omega)) (s 3 (by omega)) (s 4 (by omega)) (s 13 (by omega)) (a 2 (by omega)) (a 3 (by omega)) (a 4 (by omega)) (a 8 (by omega))
abbrev inL (a : Int32) (n : Nat) : Prop := 0 ≤ a.toInt ∧ a.toInt < (n : Int)
theorem inL_nI {a : Int32} {n : Nat} (h : inL a n) (hn : n < 2 ^ 31) : ∃ j, j < n ∧ a = nI j := by
  obtain ⟨j, h1, h2, h3⟩ := inR_nI (a := a) (lo := 0) (hi := n - 1) ⟨h.1, by have := h.2; omega⟩ (by omega)
  exact ⟨j, by have := h.2; have := h.1; omega, h3⟩
theorem inL_of {j n : Nat} (h : j < n) (hn : n < 2 ^ 31) : inL (nI j) n := by
  unfold inL
  rw [nI_toInt (by omega)]
  omega
theorem e_inI (F : Nat) (a : Int32) (x y : Int64) (N : Mem) : f_X6_in F a.toInt64 x y N = some (if x.toInt ≤ a.toInt ∧ a.toInt ≤ y.toInt then 1 else 0, N) := by
  have h1 : (lg_cmp a.toInt64 x < 0) ↔ a.toInt < x.toInt := by
    have := lg_cmp_ge a.toInt64 x
    rw [Int64.le_iff_toInt_le, Int32.toInt_toInt64] at this
    rw [Int32.lt_iff_toInt_lt]
    rw [Int32.le_iff_toInt_le] at this
    omega
  have h2 : (0 < lg_cmp a.toInt64 y) ↔ y.toInt < a.toInt := by
    have := lg_cmp_le a.toInt64 y
    rw [Int64.le_iff_toInt_le, Int32.toInt_toInt64] at this
    rw [Int32.lt_iff_toInt_lt]
    rw [Int32.le_iff_toInt_le] at this
    omega
  unfold f_X6_in
  by_cases c1 : a.toInt < x.toInt
  · rw [if_pos (h1.mpr c1), if_neg (fun h => by have := h.1; omega)]
  · rw [if_neg (fun h => c1 (h1.mp h))]
    by_cases c2 : y.toInt < a.toInt
    · rw [if_pos (h2.mpr c2), if_neg (fun h => by have := h.2; omega)]
    · rw [if_neg (fun h => c2 (h2.mp h)), if_pos ⟨by omega, by omega⟩]
/-- 'in(a, 0, n - 1)' -/
theorem e_inL (F : Nat) (a : Int32) (n : Nat) (y : Int64) (N : Mem) (hy : y.toInt = (n : Int) - 1) : f_X6_in F a.toInt64 0 y N = some (if inL a n then 1 else 0, N) := by
  rw [e_inI, show (0 : Int64).toInt = 0 from by decide, hy]
  by_cases h : inL a n
  · rw [if_pos h, if_pos ⟨h.1, by have := h.2; omega⟩]
  · rw [if_neg h, if_neg (fun q => h ⟨q.1, by have := q.2; omega⟩)]
theorem lt0_iff {a : Int32} : a < 0 ↔ a.toInt < 0 := by rw [Int32.lt_iff_toInt_lt, show (0 : Int32).toInt = 0 from by decide]
theorem gb01 {α : Type} {c : Prop} [Decidable c] {k : Option α} : gb (if c then (1 : Int32) else 0) k = k := by
  unfold gb
  split <;> exact if_pos (by decide)
section PR
variable {B : Nat} {M N : Mem} {T : TA} {F : Nat}
theorem eC_isV {ht : Nat} (hh : M.1 0 6 = nI ht) (h1 : ht ≤ 1) (a : Int32) : f_X5_isVictim F a M = some (if ht = 1 ∧ inL a 3 then 1 else 0, M) := by
  unfold f_X5_isVictim
  rw [hh, i3]
  by_cases e : ht = 0
  · rw [e, if_pos nI_0, if_neg (fun q => by omega)]
  · rw [if_neg (nI_ne0 (by omega) (by omega))]
    by_cases c1 : a < 0
    · rw [if_pos c1, if_neg (fun q => by have := q.2.1; have := lt0_iff.mp c1; omega)]
    · rw [if_neg c1]
      by_cases c2 : nI 3 ≤ a
      · rw [if_pos c2, if_neg (fun q => by have := q.2.2; have := (nI_leA (by omega)).mp c2; omega)]
      · rw [if_neg c2, if_pos ⟨by omega, by have := mt lt0_iff.mpr c1; omega, by have := mt (nI_leA (by omega)).mpr c2; omega⟩]
theorem eR_isV {ht : Nat} (hh : N.1 0 2 = nI ht) (h1 : ht ≤ 1) (a : Int32) : f_X6_isVictim F a N = some (if ht = 1 ∧ inL a 3 then 1 else 0, N) := by
  unfold f_X6_isVictim
  rw [hh, bd_of (e_inL F a 3 2 N (by decide))]
  by_cases e : ht = 0
  · rw [e, if_pos nI_0, if_neg (fun q => by omega)]
  · rw [if_neg (nI_ne0 (by omega) (by omega))]
    by_cases c : inL a 3
    · rw [if_pos c, if_neg (by decide), if_pos ⟨by omega, c⟩]
    · rw [if_neg c, if_pos rfl, if_neg (fun q => c q.2)]
theorem eC_isC {cc : Nat} (hh : M.1 6 2 = nI cc) (h1 : cc ≤ 4) (a : Int32) : f_X5_isConvict F a M = some (if inL a cc then 1 else 0, M) := by
  unfold f_X5_isConvict
  rw [hh]
  by_cases c1 : a < 0
  · rw [if_pos c1, if_neg (fun q => by have := q.1; have := lt0_iff.mp c1; omega)]
  · rw [if_neg c1]
    by_cases c2 : nI cc ≤ a
    · rw [if_pos c2, if_neg (fun q => by have := q.2; have := (nI_leA (by omega)).mp c2; omega)]
    · rw [if_neg c2, if_pos ⟨by have := mt lt0_iff.mpr c1; omega, by have := mt (nI_leA (by omega)).mpr c2; omega⟩]
theorem eR_isC {cc : Nat} (hh : N.1 0 8 = nI cc) (h1 : cc ≤ 4) (a : Int32) : f_X6_isConvict F a N = some (if inL a cc then 1 else 0, N) := by
  unfold f_X6_isConvict
  rw [hh, bd_of (e_inL F a cc _ N (by rw [Int32.toInt_toInt64, i1, pk_sub_toInt (by omega) (by omega)]; rfl)), gb01]
theorem eC_isS (a : Int32) : f_X5_isSaying F a M = some (if inL a 6 then 1 else 0, M) := by
  unfold f_X5_isSaying
  rw [i6]
  by_cases c1 : a < 0
  · rw [if_pos c1, if_neg (fun q => by have := q.1; have := lt0_iff.mp c1; omega)]
  · rw [if_neg c1]
    by_cases c2 : nI 6 ≤ a
    · rw [if_pos c2, if_neg (fun q => by have := q.2; have := (nI_leA (by omega)).mp c2; omega)]
    · rw [if_neg c2, if_pos ⟨by have := mt lt0_iff.mpr c1; omega, by have := mt (nI_leA (by omega)).mpr c2; omega⟩]
theorem eR_isS (a : Int32) : f_X6_isSaying F a N = some (if inL a 6 then 1 else 0, N) := by
  unfold f_X6_isSaying
  rw [bd_of (e_inL F a 6 5 N (by decide)), gb01]
theorem eC_isK (a : Int32) : f_X5_isKind F a M = some (if inL a 5 then 1 else 0, M) := by
  unfold f_X5_isKind
  rw [i4]
  by_cases c1 : a < 0
  · rw [if_pos c1, if_neg (fun q => by have := q.1; have := lt0_iff.mp c1; omega)]
  · rw [if_neg c1]
    by_cases c2 : nI 4 < a
    · rw [if_pos c2, if_neg (fun q => by have := q.2; have := (nI_ltA (by omega)).mp c2; omega)]
    · rw [if_neg c2, if_pos ⟨by have := mt lt0_iff.mpr c1; omega, by have := mt (nI_ltA (by omega)).mpr c2; omega⟩]
/-! victim, about, as, count -/
theorem eC_victim (hF : 100 ≤ F) {ht : Nat} (hh : M.1 0 6 = nI ht) (h1 : ht = 1) (hT : CT M 6 T) (hW : Wf B T) {v : Nat} (hv : v < 3) (a : Int32) : f_X5_victim F (nI v) a M = some (tvE T v a, M) := by
  unfold f_X5_victim tvE
  rw [bd_of (eC_isV hh (by omega) _), if_pos (show ht = 1 ∧ inL (nI v) 3 from ⟨h1, inL_of hv (by omega)⟩), if_neg (by decide)]
  have cb : cvN T v (T.1 0) < 16 := Nat.lt_of_lt_of_le (cvN_lt T v (T.1 0)) (Nat.pow_le_pow_right (n := 2) (by omega) hW.1)
  by_cases h0 : a < 0
  · rw [if_pos h0, if_neg (show ¬ a = 0 from sw_lo h0 0 (by omega)), if_neg (show ¬ a = 1 from sw_lo h0 1 (by omega)), if_neg (show ¬ a = 2 from sw_lo h0 2 (by omega)), if_neg (show ¬ a = 3 from sw_lo h0 3 (by omega))]
  rw [if_neg h0]
  by_cases h8 : a ≤ 3
  · rw [if_pos h8]
    obtain ⟨k, hk, rfl⟩ := sw_in (n := 3) h0 h8 (by omega)
    rcases (show k = 0 ∨ k = 1 ∨ k = 2 ∨ k = 3 by omega) with rfl | rfl | rfl | rfl
    · rw [if_pos (by decide), if_pos (by decide), gi_nI hv (by omega), nI_clamp (by omega), hT.2.1 v hv 0 (by omega)]
    · rw [if_neg (by decide), if_pos (by decide), if_neg (by decide), if_pos (by decide), gi_nI hv (by omega), nI_clamp (by omega), hT.2.1 v hv 1 (by omega)]
    · rw [if_neg (by decide), if_neg (by decide), if_pos (by decide), if_neg (by decide), if_neg (by decide), if_pos (by decide), bd_of (eC_convictsOf hF hT hW hv)]
    · rw [if_neg (by decide), if_neg (by decide), if_neg (by decide), if_neg (by decide), if_neg (by decide), if_neg (by decide), if_pos (by decide), bd_of (eC_convictsOf hF hT hW hv), bd_of (eC_finesOf hF hT hW cb)]
  · rw [if_neg h8, if_neg (show ¬ a = 0 from sw_hi (n := 3) h8 (by omega) 0 (by omega)), if_neg (show ¬ a = 1 from sw_hi (n := 3) h8 (by omega) 1 (by omega)), if_neg (show ¬ a = 2 from sw_hi (n := 3) h8 (by omega) 2 (by omega)), if_neg (show ¬ a = 3 from sw_hi (n := 3) h8 (by omega) 3 (by omega))]
theorem sp_victim (hF : 100 ≤ F) (a1 a2 : Int32) : Sp B (f_X5_victim F a1 a2) (f_X6_victim F a1 a2) := by
  intro M N h
  have h' := h
  obtain ⟨n, ht, hi, tn, pg, T, K, h1, h2, h3, h4, h5, h6, h7, h8, h9⟩ := h
  by_cases c : ht = 1 ∧ inL a1 3
  · obtain ⟨v, hv, rfl⟩ := inL_nI c.2 (by omega)
    refine ⟨tvE T v a2, M, N, eC_victim hF h2.1 c.1 h5 h7 hv a2, ?_, Rel_up h'⟩
    unfold f_X6_victim
    rw [bd_of (eR_isV h2.2.1 h2.2.2 _), if_pos c, if_neg (by decide), bd_of (eR_tellVictim hF h6 h7 hv a2)]
  · refine ⟨mI 101, M, N, ?_, ?_, Rel_up h'⟩
    · unfold f_X5_victim
      rw [bd_of (eC_isV h2.1 h2.2.2 _), if_neg c, if_pos rfl]
    · unfold f_X6_victim
      rw [bd_of (eR_isV h2.2.1 h2.2.2 _), if_neg c, if_pos rfl]
theorem sp_about (hF : 100 ≤ F) (hB : B ≤ 1000) (a1 a2 : Int32) : Sp B (f_X5_about F a1 a2) (f_X6_about F a1 a2) := by
  intro M N h
  have h' := h
  obtain ⟨n, ht, hi, tn, pg, T, K, h1, h2, h3, h4, h5, h6, h7, h8, h9⟩ := h
  have w := h7.1
  by_cases c : inL a1 (T.1 0)
  · obtain ⟨v, hv, rfl⟩ := inL_nI c (by omega)
    refine ⟨abE T v a2, M, N, eC_about hF hB h5 h7 hv a2, ?_, Rel_up h'⟩
    unfold f_X6_about
    rw [bd_of (eR_isC h6.1 w _), if_pos c, if_neg (by decide), bd_of (eR_tell hF hB h6 h7 (by omega) a2)]
  · refine ⟨mI 101, M, N, ?_, ?_, Rel_up h'⟩
    · unfold f_X5_about
      rw [bd_of (eC_isC (CT_cc h5) w _), if_neg c, if_pos rfl]
    · unfold f_X6_about
      rw [bd_of (eR_isC h6.1 w _), if_neg c, if_pos rfl]
theorem sp_as (a1 a2 : Int32) : Sp B (f_X5_as F a1 a2) (f_X6_as F a1 a2) := by
  intro M N h
  have h' := h
  obtain ⟨n, ht, hi, tn, pg, T, K, h1, h2, h3, h4, h5, h6, h7, h8, h9⟩ := h
  have w := h7.1
  unfold f_X5_as f_X6_as
  rw [bd_of (eC_isC (CT_cc h5) w _), bd_of (eR_isC h6.1 w _)]
  by_cases c : inL a1 (T.1 0)
  · obtain ⟨v, hv, rfl⟩ := inL_nI c (by omega)
    have hv4 : v < 4 := by omega
    rw [if_pos c, if_neg (by decide), bd_of (eC_isK a2), bd_of (e_inL F a2 5 4 N (by decide))]
    by_cases c2 : inL a2 5
    · rw [if_pos c2, if_neg (by decide), gi_nI hv4 (by omega), ix6z, gi6z hv4, nm_eq, cl6z hv4, h6.2.2.2.2.2.2.1 v hv4 0 (by omega), nI_clamp (by omega)]
      unfold f_X0_isA JX6_as_55
      rw [h5.2.2 v hv4 0 (by omega)]
      by_cases e0 : a2 = 0
      · rw [if_pos e0, if_pos e0]; exact ⟨_, M, N, rfl, rfl, Rel_up h'⟩
      rw [if_neg e0, if_neg e0]
      by_cases e1 : a2 = nI (T.2.2 v 0)
      · rw [if_pos e1, if_pos e1]; exact ⟨_, M, N, rfl, rfl, Rel_up h'⟩
      rw [if_neg e1, if_neg e1]
      by_cases e2 : a2 = 1
      · rw [if_pos e2, if_pos e2]
        by_cases e3 : nI (T.2.2 v 0) = 4
        · rw [if_pos e3, if_pos e3]; exact ⟨_, M, N, rfl, rfl, Rel_up h'⟩
        · rw [if_neg e3, if_neg e3]; exact ⟨_, M, N, rfl, rfl, Rel_up h'⟩
      · rw [if_neg e2, if_neg e2]; exact ⟨_, M, N, rfl, rfl, Rel_up h'⟩
    · rw [if_neg c2]; exact ⟨_, M, N, rfl, rfl, Rel_up h'⟩
  · rw [if_neg c]; exact ⟨_, M, N, rfl, rfl, Rel_up h'⟩
/-- count(a) -/
def coE (T : TA) (n tn : Nat) (a : Int32) : Int32 := if a = 0 then nI (sm (fun v => pc (T.2.1 v 0)) 3) else if a = 1 then nI (T.1 1) else if a = 2 then nI (T.1 0) else if a = 3 then nI (sm (pdN T) (T.1 0)) else if a = 4 then nI (sm (fun c => T.2.2 c 2) (T.1 0)) else if a = 5 then nI (sm (fun v => pc (T.2.1 v 1)) 3) else if a = 6 then nI (T.1 2) else if a = 7 then nI (T.1 3) else if a = 8 then nI n else if a = 9 then nI tn else mI 102
theorem eR_countOf (hF : 100 ≤ F) (hT : RT N T) (hW : Wf B T) {n tn : Nat} (hn : N.1 0 1 = nI n) (ht : N.1 0 5 = nI tn) (a : Int32) : f_X6_countOf F a N = some (coE T n tn a, N) := by
  have g0 : ∀ z : Option (Int32 × Mem), gi (0 : Int32) 3 z = z := fun _ => gi_nI (j := 0) (by omega) (by omega)
  have g1 : ∀ z : Option (Int32 × Mem), gi (1 : Int32) 3 z = z := fun _ => gi_nI (j := 1) (by omega) (by omega)
  have g2 : ∀ z : Option (Int32 × Mem), gi (2 : Int32) 3 z = z := fun _ => gi_nI (j := 2) (by omega) (by omega)
  have u := hT.2.2.2.2.2.1
  have wv := hW.2.2.2.2.1
  unfold f_X6_countOf coE
  rw [bd_of (eR_trueAll hF hT hW), bd_of (eR_paidMany hF hT hW), bd_of (eR_finesAll hF hT hW), hT.1, hT.2.1, hT.2.2.1, hT.2.2.2.1, hn, ht]
  rw [g0, show (0 : Int32).toNatClampNeg = 0 from by decide, show (1 : Int32).toNatClampNeg = 1 from by decide, show (2 : Int32).toNatClampNeg = 2 from by decide, u 0 (by omega), bd_of (e_ones hF (wv 0 (by omega) 1 (by omega)) N), g1, u 1 (by omega), bd_of (e_ones hF (wv 1 (by omega) 1 (by omega)) N), g2, u 2 (by omega), bd_of (e_ones hF (wv 2 (by omega) 1 (by omega)) N), nI_add, nI_add]
  rw [show sm (fun v => pc (T.2.1 v 1)) 3 = pc (T.2.1 0 1) + pc (T.2.1 1 1) + pc (T.2.1 2 1) by simp [sm]]
  repeat' split
  all_goals rfl
theorem eC_count' (hF : 100 ≤ F) (hT : CT M 6 T) (hW : Wf B T) {n tn : Nat} (hn : M.1 0 1 = nI n) (ht : M.1 0 8 = nI tn) (a : Int32) : f_X5_count F a M = some (coE T n tn a, M) := by
  unfold f_X5_count coE
  by_cases h0 : a < 0
  · rw [if_pos h0, if_neg (show ¬ a = 0 from sw_lo h0 0 (by omega)), if_neg (show ¬ a = 1 from sw_lo h0 1 (by omega)), if_neg (show ¬ a = 2 from sw_lo h0 2 (by omega)), if_neg (show ¬ a = 3 from sw_lo h0 3 (by omega)), if_neg (show ¬ a = 4 from sw_lo h0 4 (by omega)), if_neg (show ¬ a = 5 from sw_lo h0 5 (by omega)), if_neg (show ¬ a = 6 from sw_lo h0 6 (by omega)), if_neg (show ¬ a = 7 from sw_lo h0 7 (by omega)), if_neg (show ¬ a = 8 from sw_lo h0 8 (by omega)), if_neg (show ¬ a = 9 from sw_lo h0 9 (by omega))]
  rw [if_neg h0]
  by_cases h8 : a ≤ 9
  · rw [if_pos h8]
    obtain ⟨k, hk, rfl⟩ := sw_in (n := 9) h0 h8 (by omega)
    rcases (show k = 0 ∨ k = 1 ∨ k = 2 ∨ k = 3 ∨ k = 4 ∨ k = 5 ∨ k = 6 ∨ k = 7 ∨ k = 8 ∨ k = 9 by omega) with rfl | rfl | rfl | rfl | rfl | rfl | rfl | rfl | rfl | rfl
    · rw [if_pos (by decide), if_pos (by decide), bd_of (eC_truthsOfAll hF hT hW)]
    · rw [if_neg (by decide), if_pos (by decide), if_neg (by decide), if_pos (by decide), CT_sh hT]
    · rw [if_neg (by decide), if_neg (by decide), if_pos (by decide), if_neg (by decide), if_neg (by decide), if_pos (by decide), CT_cc hT]
    · rw [if_neg (by decide), if_neg (by decide), if_neg (by decide), if_pos (by decide), if_neg (by decide), if_neg (by decide), if_neg (by decide), if_pos (by decide), bd_of (eC_paidCount hF hT hW)]
    · rw [if_neg (by decide), if_neg (by decide), if_neg (by decide), if_neg (by decide), if_pos (by decide), if_neg (by decide), if_neg (by decide), if_neg (by decide), if_neg (by decide), if_pos (by decide)]; exact eC_finesAll hF hT hW
    · rw [if_neg (by decide), if_neg (by decide), if_neg (by decide), if_neg (by decide), if_neg (by decide), if_pos (by decide), if_neg (by decide), if_neg (by decide), if_neg (by decide), if_neg (by decide), if_neg (by decide), if_pos (by decide), bd_of (eC_usedOfAll hF hT hW)]
    · rw [if_neg (by decide), if_neg (by decide), if_neg (by decide), if_neg (by decide), if_neg (by decide), if_neg (by decide), if_pos (by decide), if_neg (by decide), if_neg (by decide), if_neg (by decide), if_neg (by decide), if_neg (by decide), if_neg (by decide), if_pos (by decide), CT_day hT]
    · rw [if_neg (by decide), if_neg (by decide), if_neg (by decide), if_neg (by decide), if_neg (by decide), if_neg (by decide), if_neg (by decide), if_pos (by decide), if_neg (by decide), if_neg (by decide), if_neg (by decide), if_neg (by decide), if_neg (by decide), if_neg (by decide), if_neg (by decide), if_pos (by decide), CT_q hT]
    · rw [if_neg (by decide), if_neg (by decide), if_neg (by decide), if_neg (by decide), if_neg (by decide), if_neg (by decide), if_neg (by decide), if_neg (by decide), if_pos (by decide), if_neg (by decide), if_neg (by decide), if_neg (by decide), if_neg (by decide), if_neg (by decide), if_neg (by decide), if_neg (by decide), if_neg (by decide), if_pos (by decide), hn]
    · rw [if_neg (by decide), if_neg (by decide), if_neg (by decide), if_neg (by decide), if_neg (by decide), if_neg (by decide), if_neg (by decide), if_neg (by decide), if_neg (by decide), if_neg (by decide), if_neg (by decide), if_neg (by decide), if_neg (by decide), if_neg (by decide), if_neg (by decide), if_neg (by decide), if_neg (by decide), if_neg (by decide), if_pos (by decide), ht]
  · rw [if_neg h8, if_neg (show ¬ a = 0 from sw_hi (n := 9) h8 (by omega) 0 (by omega)), if_neg (show ¬ a = 1 from sw_hi (n := 9) h8 (by omega) 1 (by omega)), if_neg (show ¬ a = 2 from sw_hi (n := 9) h8 (by omega) 2 (by omega)), if_neg (show ¬ a = 3 from sw_hi (n := 9) h8 (by omega) 3 (by omega)), if_neg (show ¬ a = 4 from sw_hi (n := 9) h8 (by omega) 4 (by omega)), if_neg (show ¬ a = 5 from sw_hi (n := 9) h8 (by omega) 5 (by omega)), if_neg (show ¬ a = 6 from sw_hi (n := 9) h8 (by omega) 6 (by omega)), if_neg (show ¬ a = 7 from sw_hi (n := 9) h8 (by omega) 7 (by omega)), if_neg (show ¬ a = 8 from sw_hi (n := 9) h8 (by omega) 8 (by omega)), if_neg (show ¬ a = 9 from sw_hi (n := 9) h8 (by omega) 9 (by omega))]
theorem sp_count (hF : 100 ≤ F) (a : Int32) : Sp B (f_X5_count F a) (f_X6_count F a) := by
  intro M N h
  have h' := h
  obtain ⟨n, ht, hi, tn, pg, T, K, h1, h2, h3, h4, h5, h6, h7, h8, h9⟩ := h
  refine ⟨coE T n tn a, M, N, eC_count' hF h5 h7 h1.1 h4.1 a, ?_, Rel_up h'⟩
  unfold f_X6_count
  rw [bd_of (eR_countOf hF h6 h7 h1.2.1 h4.2.1 a)]
end PR
