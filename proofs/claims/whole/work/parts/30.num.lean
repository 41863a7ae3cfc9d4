/-! PURE PART. Numbers: ints as small naturals, sets of six as naturals below 64. -/
theorem nm_eq {α β : Type} (x : α) (k : α → β) : nm x k = k x := rfl
theorem bd_some {ρ ρ' : Type} {r : ρ} {M : Mem} {k : ρ → Mem → Option (ρ' × Mem)} : bd (some (r, M)) k = k r M := rfl
theorem bd_of {ρ ρ' : Type} {o : Option (ρ × Mem)} {r : ρ} {M : Mem} {k : ρ → Mem → Option (ρ' × Mem)} (h : o = some (r, M)) : bd o k = k r M := by subst h; rfl
theorem gi_nI {α : Type} {j n : Nat} {k : Option α} (h : j < n) (hn : n < 2 ^ 31) : gi (nI j) n k = k := if_neg (nI_in h hn)
theorem le_t {a b : Nat} (h : a ≤ b) (hb : b < 2 ^ 31) : (nI a ≤ nI b) = True := eq_true (nI_le h hb)
theorem le_f {a b : Nat} (h : b < a) (ha : a < 2 ^ 31) : (nI a ≤ nI b) = False := eq_false (nI_ge h ha)
theorem lt_t {a b : Nat} (h : a < b) (hb : b < 2 ^ 31) : (nI a < nI b) = True := eq_true (nI_lt h hb)
theorem lt_f {a b : Nat} (h : b ≤ a) (ha : a < 2 ^ 31) : (nI a < nI b) = False := eq_false (nI_nlt h ha)
theorem eq_tI {a b : Nat} (h : a = b) : (nI a = nI b) = True := eq_true (by rw [h])
theorem eq_fI {a b : Nat} (h : a ≠ b) (ha : a < 2 ^ 31) (hb : b < 2 ^ 31) : (nI a = nI b) = False := eq_false (fun e => h ((nI_eq ha hb).mp e))
theorem i0 : (0 : Int32) = nI 0 := rfl
theorem i1 : (1 : Int32) = nI 1 := rfl
theorem i2 : (2 : Int32) = nI 2 := rfl
theorem i3 : (3 : Int32) = nI 3 := rfl
theorem i4 : (4 : Int32) = nI 4 := rfl
theorem i5 : (5 : Int32) = nI 5 := rfl
theorem i6 : (6 : Int32) = nI 6 := rfl
theorem i7 : (7 : Int32) = nI 7 := rfl
theorem i8 : (8 : Int32) = nI 8 := rfl
theorem i9 : (9 : Int32) = nI 9 := rfl
theorem i10 : (10 : Int32) = nI 10 := rfl
theorem i12 : (12 : Int32) = nI 12 := rfl
theorem i40 : (40 : Int32) = nI 40 := rfl
theorem i44 : (44 : Int32) = nI 44 := rfl
theorem i48 : (48 : Int32) = nI 48 := rfl
theorem i57 : (57 : Int32) = nI 57 := rfl
theorem i59 : (59 : Int32) = nI 59 := rfl
theorem i63 : (63 : Int32) = nI 63 := rfl
theorem i64 : (64 : Int32) = nI 64 := rfl
theorem i65 : (65 : Int32) = nI 65 := rfl
theorem i126 : (126 : Int32) = nI 126 := rfl
theorem i15625 : (15625 : Int32) = nI 15625 := rfl
theorem im1_ne {a : Nat} (ha : a < 2 ^ 31) : ¬ nI a = mI 1 := fun e => by
  have := congrArg Int32.toInt e
  rw [nI_toInt ha] at this
  have h2 : (mI 1).toInt = -1 := by decide
  omega
/-- an int in a range, as a natural -/
abbrev inR (a : Int32) (lo hi : Nat) : Prop := (lo : Int) ≤ a.toInt ∧ a.toInt ≤ (hi : Int)
theorem inR_nI {a : Int32} {lo hi : Nat} (h : inR a lo hi) (hh : hi < 2 ^ 31) : ∃ j, lo ≤ j ∧ j ≤ hi ∧ a = nI j := by
  refine ⟨a.toInt.toNat, by have := h.1; omega, by have := h.2; omega, ?_⟩
  apply Int32.toInt_inj.mp
  have h1 := h.1
  have h2 := h.2
  rw [nI_toInt (by omega)]
  omega
theorem inR_of {j lo hi : Nat} (h1 : lo ≤ j) (h2 : j ≤ hi) (hh : hi < 2 ^ 31) : inR (nI j) lo hi := by
  unfold inR
  rw [nI_toInt (by omega)]
  omega
theorem lt_nI {a : Int32} {n : Nat} (hn : n < 2 ^ 31) : a < nI n ↔ a.toInt < (n : Int) := by rw [Int32.lt_iff_toInt_lt, nI_toInt hn]
theorem nI_ltA {a : Int32} {n : Nat} (hn : n < 2 ^ 31) : nI n < a ↔ (n : Int) < a.toInt := by rw [Int32.lt_iff_toInt_lt, nI_toInt hn]
theorem le_nI {a : Int32} {n : Nat} (hn : n < 2 ^ 31) : a ≤ nI n ↔ a.toInt ≤ (n : Int) := by rw [Int32.le_iff_toInt_le, nI_toInt hn]
theorem nI_leA {a : Int32} {n : Nat} (hn : n < 2 ^ 31) : nI n ≤ a ↔ (n : Int) ≤ a.toInt := by rw [Int32.le_iff_toInt_le, nI_toInt hn]
/-- the reference's 'in' -/
theorem e_in (F : Nat) (a : Int32) (lo hi : Nat) (x y : Int64) (N : Mem) (hx : x.toInt = (lo : Int)) (hy : y.toInt = (hi : Int)) : f_X6_in F a.toInt64 x y N = some (if inR a lo hi then 1 else 0, N) := by
  have h1 : (lg_cmp a.toInt64 x < 0) ↔ a.toInt < (lo : Int) := by
    have := lg_cmp_ge a.toInt64 x
    rw [Int64.le_iff_toInt_le, Int32.toInt_toInt64, hx] at this
    rw [Int32.lt_iff_toInt_lt]
    rw [Int32.le_iff_toInt_le] at this
    omega
  have h2 : (0 < lg_cmp a.toInt64 y) ↔ (hi : Int) < a.toInt := by
    have := lg_cmp_le a.toInt64 y
    rw [Int64.le_iff_toInt_le, Int32.toInt_toInt64, hy] at this
    rw [Int32.lt_iff_toInt_lt]
    rw [Int32.le_iff_toInt_le] at this
    omega
  unfold f_X6_in
  by_cases c1 : a.toInt < (lo : Int)
  · rw [if_pos (h1.mpr c1), if_neg (fun h => by have := h.1; omega)]
  · rw [if_neg (fun h => c1 (h1.mp h))]
    by_cases c2 : (hi : Int) < a.toInt
    · rw [if_pos (h2.mpr c2), if_neg (fun h => by have := h.2; omega)]
    · rw [if_neg (fun h => c2 (h2.mp h)), if_pos ⟨by omega, by omega⟩]
/-! sets of six -/
def pc (x : Nat) : Nat := x % 2 + x / 2 % 2 + x / 4 % 2 + x / 8 % 2 + x / 16 % 2 + x / 32 % 2
def bcE (a0 : Int32) : Int32 := (fun x1 => (fun x2 => (fun x3 => (fun x4 => (fun x5 => x5 &&& (63 : Int32)) (x4 + ((x4.toUInt32 >>> ((16 : Int32).toUInt32 &&& Int32.toUInt32 31)).toInt32))) (x3 + ((x3.toUInt32 >>> ((8 : Int32).toUInt32 &&& Int32.toUInt32 31)).toInt32))) ((x2 + ((x2.toUInt32 >>> ((4 : Int32).toUInt32 &&& Int32.toUInt32 31)).toInt32)) &&& (252645135 : Int32))) ((x1 &&& (858993459 : Int32)) + (((x1.toUInt32 >>> ((2 : Int32).toUInt32 &&& Int32.toUInt32 31)).toInt32) &&& (858993459 : Int32)))) (a0 - (((a0.toUInt32 >>> ((1 : Int32).toUInt32 &&& Int32.toUInt32 31)).toInt32) &&& (1431655765 : Int32)))
theorem bcE_pc : ∀ x, x < 64 → bcE (nI x) = nI (pc x) := by decide +kernel
theorem e_bitCount (F : Nat) {x : Nat} (hx : x < 64) (M : Mem) : f_J6_bitCount_0f7a4 F (nI x) M = some (nI (pc x), M) := by
  rw [← bcE_pc x hx]; rfl
theorem onE_pc : ∀ x, x < 64 → ((((((nI 0 + ((nI x >>> (nI 0 &&& 31)) &&& 1)) + ((nI x >>> (nI 1 &&& 31)) &&& 1)) + ((nI x >>> (nI 2 &&& 31)) &&& 1)) + ((nI x >>> (nI 3 &&& 31)) &&& 1)) + ((nI x >>> (nI 4 &&& 31)) &&& 1)) + ((nI x >>> (nI 5 &&& 31)) &&& 1)) = nI (pc x) := by decide +kernel
theorem e_ones {F : Nat} (hF : 100 ≤ F) {x : Nat} (hx : x < 64) (M : Mem) : f_X6_ones F (nI x) M = some (nI (pc x), M) := by
  rw [← onE_pc x hx]
  obtain ⟨G, rfl⟩ : ∃ G, F = G + 7 := ⟨F - 7, by omega⟩
  unfold f_X6_ones
  rw [LX6_ones_4_s, if_neg (by decide)]
  simp only [nm_eq]
  rw [show ((0 : Int32) + 1) = nI 1 from rfl, LX6_ones_4_s, if_neg (by decide)]
  simp only [nm_eq]
  rw [show (nI 1 + 1) = nI 2 from rfl, LX6_ones_4_s, if_neg (by decide)]
  simp only [nm_eq]
  rw [show (nI 2 + 1) = nI 3 from rfl, LX6_ones_4_s, if_neg (by decide)]
  simp only [nm_eq]
  rw [show (nI 3 + 1) = nI 4 from rfl, LX6_ones_4_s, if_neg (by decide)]
  simp only [nm_eq]
  rw [show (nI 4 + 1) = nI 5 from rfl, LX6_ones_4_s, if_neg (by decide)]
  simp only [nm_eq]
  rw [show (nI 5 + 1) = nI 6 from rfl, LX6_ones_4_s, if_pos (by decide)]
  rfl
theorem bit_and : ∀ x, x < 64 → ∀ k, k < 6 → (nI x &&& ((1 : Int32) <<< (nI k &&& 31)) = 0 ↔ x.testBit k = false) := by decide +kernel
theorem bit_shr : ∀ x, x < 64 → ∀ k, k < 6 → ((nI x >>> (nI k &&& 31)) &&& (1 : Int32)) = nI (x.testBit k).toNat := by decide +kernel
theorem shl_pow : ∀ k, k < 30 → ((1 : Int32) <<< (nI k &&& 31)) = nI (2 ^ k) := by decide +kernel
theorem and_nI (a b : Nat) : nI a &&& nI b = nI (a &&& b) := by
  apply Int32.toBitVec_inj.1
  show BitVec.ofNat 32 a &&& BitVec.ofNat 32 b = BitVec.ofNat 32 (a &&& b)
  apply BitVec.eq_of_getLsbD_eq
  intro i hi
  simp [hi]
theorem or_nI (a b : Nat) : nI a ||| nI b = nI (a ||| b) := by
  apply Int32.toBitVec_inj.1
  show BitVec.ofNat 32 a ||| BitVec.ofNat 32 b = BitVec.ofNat 32 (a ||| b)
  apply BitVec.eq_of_getLsbD_eq
  intro i hi
  simp [hi]
theorem not_nI {a : Nat} (ha : a < 64) (y : Nat) (hy : y < 64) : nI y &&& (nI a ^^^ mI 1) = nI (y &&& (63 ^^^ a)) := by
  have key : ∀ a, a < 64 → nI 63 &&& (nI a ^^^ mI 1) = nI (63 ^^^ a) := by decide +kernel
  have e : nI y = nI y &&& nI 63 := by
    rw [and_nI]
    congr 1
    have := Nat.and_two_pow_sub_one_eq_mod y 6
    rw [show 2 ^ 6 - 1 = 63 from rfl] at this
    rw [this, Nat.mod_eq_of_lt hy]
  rw [e, Int32.and_assoc, key a ha, and_nI]
theorem and64 {a b : Nat} (ha : a < 64) : a &&& b < 64 := Nat.lt_of_le_of_lt Nat.and_le_left ha
theorem or64 {a b : Nat} (ha : a < 64) (hb : b < 64) : a ||| b < 64 := Nat.or_lt_two_pow (n := 6) ha hb
theorem xor64 {a b : Nat} (ha : a < 64) (hb : b < 64) : a ^^^ b < 64 := Nat.xor_lt_two_pow (n := 6) ha hb
theorem pow64 {k : Nat} (hk : k < 6) : 2 ^ k < 64 := Nat.pow_lt_pow_right (a := 2) (by decide) hk
theorem pc_le : ∀ x, x < 64 → pc x ≤ 6 := by decide +kernel
