/-! THE TWO WORLDS, out of the constructors' ends -/
theorem kwL_at {q : Nat → Nat} {cy : Nat → ClassId} {i : Nat} (h : i < 36) : (kwL q cy)[i]? = some (q i, cC q cy (fun _ => 0) 0 i) := by
  simp [kwL, h]
theorem mdL_at {q : Nat → Nat} {c : ClassId} {i : Nat} (h : i < 14) : (mdL q c)[i]? = some (q i, cR q c (rz i) 0 i) := by
  simp [mdL, h]
theorem kwL_len {q : Nat → Nat} {cy : Nat → ClassId} : (kwL q cy).length = 36 := by simp [kwL]
theorem kwL_inj {A : Nat → Prop} {q : Nat → Nat} {cy : Nat → ClassId} (hD : va_D A (kwL q cy)) : ∀ i j, i < 36 → j < 36 → q i = q j → i = j := fun i j hi hj e => hD.1 i j _ _ (kwL_at hi) (kwL_at hj) e
theorem mdL_inj {A : Nat → Prop} {q : Nat → Nat} {c : ClassId} (hD : va_D A (mdL q c)) : ∀ i j, i < 14 → j < 14 → q i = q j → i = j := fun i j hi hj e => hD.1 i j _ _ (mdL_at hi) (mdL_at hj) e
def adS (q : Nat → Nat) (a1 a2 : Nat) : Nat → Nat := fun i => if i < 36 then q i else if i = 36 then a1 else a2
theorem adS_lt {q : Nat → Nat} {a1 a2 i : Nat} (h : i < 36) : q i = adS q a1 a2 i := (if_pos h).symm
def mkC (l : Launch) (D : va_G) (ad : Nat → Nat) (cy : Nat → ClassId) : KyG := (l, D, ad, 36, cC ad cy, kwT cy, fun U => StrX (fun q => ∃ i, i < 36 ∧ ad i = q) (ad 36) (ad 37) U)
def mkR (l : Launch) (D : va_G) (q : Nat → Nat) (c : ClassId) : KyG := (l, D, q, 14, cR q c, [(c, .int)], fun _ => True)
theorem mkC_ok {l : Launch} {D : va_G} {ad : Nat → Nat} {cy : Nat → ClassId} (h : ∀ i j, i < 36 → j < 36 → ad i = ad j → i = j) : IsC (mkC l D ad cy) cy := ⟨rfl, rfl, rfl, ⟨h, fun _ _ hv hh hx => StrX_same hv hh hx, fun _ _ hW hh hx => StrX_warm hW hh hx⟩, fun _ h => h⟩
theorem mkR_ok {l : Launch} {D : va_G} {q : Nat → Nat} {c : ClassId} (h : ∀ i j, i < 14 → j < 14 → q i = q j → i = j) : IsR (mkR l D q c) c := ⟨rfl, rfl, rfl, ⟨h, fun _ _ _ _ _ => trivial, fun _ _ _ _ _ => trivial⟩⟩
def M00 : Mem := (fun _ _ => 0, 0)
def N00 : Mem := (rz, 0)
theorem mkC_wG {l : Launch} {D : va_G} {ad : Nat → Nat} {cy : Nat → ClassId} : wG (mkC l D ad cy) M00 = kwL ad cy := rfl
theorem mkR_wG {l : Launch} {D : va_G} {q : Nat → Nat} {c : ClassId} : wG (mkR l D q c) N00 = mdL q c := rfl
set_option maxHeartbeats 4000000 in
set_option maxRecDepth 100000 in
/-- the cells speak of the first 36 addresses alone -/
theorem kwL_to {D : va_G} {H : Heap} {q ad : Nat → Nat} {cy : Nat → ClassId} (e : ∀ i, i < 36 → q i = ad i) (hP : va_P D vwCl (kwL q cy) H) : va_P D vwCl (kwL ad cy) H := by
  rw [kwL_eq] at hP
  rw [e 0 (by omega), e 1 (by omega), e 2 (by omega), e 3 (by omega), e 4 (by omega), e 5 (by omega), e 6 (by omega), e 7 (by omega), e 8 (by omega), e 9 (by omega), e 10 (by omega), e 11 (by omega), e 12 (by omega), e 13 (by omega), e 14 (by omega), e 15 (by omega), e 16 (by omega), e 17 (by omega), e 18 (by omega), e 19 (by omega), e 20 (by omega), e 21 (by omega), e 22 (by omega), e 23 (by omega), e 24 (by omega), e 25 (by omega), e 26 (by omega), e 27 (by omega), e 28 (by omega), e 29 (by omega), e 30 (by omega), e 31 (by omega), e 32 (by omega), e 33 (by omega), e 34 (by omega), e 35 (by omega)] at hP
  have hP := P_arr hP 7 (f' := fun j => some (ad (7 - 1 + 3 + j))) rfl (fun j hj => congrArg some (e _ (by omega)))
  have hP := P_arr hP 8 (f' := fun j => some (ad (8 - 2 + 6 + j))) rfl (fun j hj => congrArg some (e _ (by omega)))
  have hP := P_arr hP 17 (f' := fun j => some (ad (17 - 1 + 3 + j))) rfl (fun j hj => congrArg some (e _ (by omega)))
  have hP := P_arr hP 18 (f' := fun j => some (ad (18 - 2 + 6 + j))) rfl (fun j hj => congrArg some (e _ (by omega)))
  have hP := P_arr hP 27 (f' := fun j => some (ad (27 - 1 + 3 + j))) rfl (fun j hj => congrArg some (e _ (by omega)))
  have hP := P_arr hP 28 (f' := fun j => some (ad (28 - 2 + 6 + j))) rfl (fun j hj => congrArg some (e _ (by omega)))
  rw [kwL_eq]
  exact hP
theorem Rel_0 : Rel 0 M00 N00 := by
  refine ⟨0, 0, 0, 0, fun _ => 0, (fun _ => 0, fun _ _ => 0, fun _ _ => 0), (fun _ => 0, fun _ _ => 0, fun _ _ => 0), ⟨nI_0.symm, nI_0.symm, by omega, fun j hj => absurd hj (by omega)⟩, ⟨nI_0.symm, nI_0.symm, by omega⟩, ⟨nI_0.symm, by omega⟩, ⟨nI_0.symm, nI_0.symm, by omega⟩, ⟨fun _ _ => nI_0.symm, fun _ _ _ _ => nI_0.symm, fun _ _ _ _ => nI_0.symm⟩, ⟨nI_0.symm, nI_0.symm, nI_0.symm, nI_0.symm, fun _ _ => nI_0.symm, fun _ _ => nI_0.symm, fun _ _ _ _ => nI_0.symm, ?_⟩, ?_, fun h => absurd h (by omega), fun _ => Or.inl rfl⟩
  · refine ⟨fun i hi => absurd hi (Nat.not_lt_zero i), fun v _ k _ => ⟨⟨fun h => ?_, fun h => ?_⟩, ⟨fun h => ?_, fun h => ?_⟩⟩⟩
    · rw [show (0 : Nat).testBit k = false from Nat.zero_testBit k] at h; cases h
    · obtain ⟨i, hi, -⟩ := h; exact absurd hi (Nat.not_lt_zero i)
    · rw [show (0 : Nat).testBit k = false from Nat.zero_testBit k] at h; cases h
    · obtain ⟨i, hi, -⟩ := h; exact absurd hi (Nat.not_lt_zero i)
  · exact ⟨by decide, by decide, by decide, by decide, fun _ _ _ _ => by show 0 < 64; decide, fun _ _ => show 0 ≤ 4 ∧ 0 < 3 ∧ 0 ≤ 9 ∧ 0 < 64 ∧ 0 ≤ 3 ∧ 0 ≤ 0 by decide⟩
/-- behind a constructor: the first world, and the new one -/
theorem two_worlds {A0 : Nat → Prop} {D : va_G} {cl : List vw_C} {w w1 : va_W} {x : Nat × va_E} {H H1 : Heap} (hP : va_P D cl (w ++ [x]) H) (hD : va_D A0 (w ++ [x])) (hk : ∀ q : Nat, q < H.size → ¬ va_A [x] H.size q → H1[q]? = H[q]?) (hD1 : va_D (va_A [x] H.size) w1) : va_P D cl w H1 ∧ va_D A0 w ∧ ∀ (i j : Nat) (p q : Nat × va_E), w[i]? = some p → w1[j]? = some q → p.1 ≠ q.1 := by
  have at' : ∀ (k : Nat) (q : Nat × va_E), w[k]? = some q → k < w.length ∧ (w ++ [x])[k]? = some q := fun k q h => by
    have hl : k < w.length := (List.getElem?_eq_some_iff.mp h).1
    exact ⟨hl, by rw [List.getElem?_append_left hl]; exact h⟩
  have hx : (w ++ [x])[w.length]? = some x := by simp
  have hn : ∀ (k : Nat) (q : Nat × va_E), w[k]? = some q → ¬ va_A [x] H.size q.1 := fun k q h z => by
    obtain ⟨hl, h2⟩ := at' k q h
    rcases z with ⟨i, e, z⟩ | z
    · have hi : i = 0 := by have := (List.getElem?_eq_some_iff.mp z).1; simp at this; omega
      subst hi
      have zx : x = (q.1, e) := Option.some.inj z
      have := hD.1 k w.length q x h2 hx (by rw [zx])
      omega
    · exact absurd (hP k q h2).lt (Nat.not_lt.mpr z)
  have hPw : va_P D cl w H := fun k q h => hP k q (at' k q h).2
  refine ⟨hPw.kept (fun k q h => hk q.1 (hPw k q h).lt (hn k q h)), ⟨fun i j p q h1 h2 e => hD.1 i j p q (at' i p h1).2 (at' j q h2).2 e, fun k q h => hD.2 k q (at' k q h).2⟩, fun i j p q h1 h2 e => ?_⟩
  exact hn i p h1 (e ▸ hD1.2 j q h2)
theorem lw_in0 : ∀ w ∈ u_ws RX0 TX0 6, w ∈ lw_tbl := fun w hw => by
  obtain ⟨k, hk, rfl⟩ := List.mem_map.mp hw
  exact (lw_good (inAX0 k (List.mem_range.mp hk))).1
theorem lw_in1 : ∀ w ∈ u_ws RX1 TX1 3, w ∈ lw_tbl := fun w hw => by
  obtain ⟨k, hk, rfl⟩ := List.mem_map.mp hw
  exact (lw_good (inAX1 k (List.mem_range.mp hk))).1
theorem lw_in2 : ∀ w ∈ u_ws RX2 TX2 6, w ∈ lw_tbl := fun w hw => by
  obtain ⟨k, hk, rfl⟩ := List.mem_map.mp hw
  exact (lw_good (inAX2 k (List.mem_range.mp hk))).1
theorem lw_in3 : ∀ w ∈ u_ws RX3 TX3 4, w ∈ lw_tbl := fun w hw => by
  obtain ⟨k, hk, rfl⟩ := List.mem_map.mp hw
  exact (lw_good (inAX3 k (List.mem_range.mp hk))).1
theorem lw_in4 : ∀ w ∈ u_ws RX4 TX4 3, w ∈ lw_tbl := fun w hw => by
  obtain ⟨k, hk, rfl⟩ := List.mem_map.mp hw
  exact (lw_good (inAX4 k (List.mem_range.mp hk))).1
theorem lw_in5 : ∀ w ∈ u_ws RX5 TX5 9, w ∈ lw_tbl := fun w hw => by
  obtain ⟨k, hk, rfl⟩ := List.mem_map.mp hw
  exact (lw_good (inAX5 k (List.mem_range.mp hk))).1
theorem lw_in6 : ∀ w ∈ u_ws RX6 TX6 27, w ∈ lw_tbl := fun w hw => by
  obtain ⟨k, hk, rfl⟩ := List.mem_map.mp hw
  exact (lw_good (inAX6 k (List.mem_range.mp hk))).1
theorem D_of {b : Nat} {s : State} (hts : ∀ w ∈ lw_tbl, w.before #[Value.ref b] s = true) : ∃ D : va_G, va_K D vwCl [] s := by
  obtain ⟨c0, i0, k0⟩ := u_known (C := RX0) (T := TX0) (N := 6) (n := 6) hts lw_in0 (hts (Cond.instantiable RX0 6) (lw_good tw_1_56).1)
  obtain ⟨c1, i1, k1⟩ := u_known (C := RX1) (T := TX1) (N := 3) (n := 3) hts lw_in1 (hts (Cond.instantiable RX1 3) (lw_good tw_1_144).1)
  obtain ⟨c2, i2, k2⟩ := u_known (C := RX2) (T := TX2) (N := 6) (n := 6) hts lw_in2 (hts (Cond.instantiable RX2 6) (lw_good tw_1_23).1)
  obtain ⟨c3, i3, k3⟩ := u_known (C := RX3) (T := TX3) (N := 4) (n := 4) hts lw_in3 (hts (Cond.instantiable RX3 4) (lw_good tw_1_32).1)
  obtain ⟨c4, i4, k4⟩ := u_known (C := RX4) (T := TX4) (N := 3) (n := 3) hts lw_in4 (hts (Cond.instantiable RX4 3) (lw_good tw_1_123).1)
  obtain ⟨c5, i5, k5⟩ := u_known (C := RX5) (T := TX5) (N := 9) (n := 9) hts lw_in5 (hts (Cond.instantiable RX5 9) (lw_good tw_1_15).1)
  obtain ⟨c6, i6, k6⟩ := u_known (C := RX6) (T := TX6) (N := 27) (n := 27) hts lw_in6 (hts (Cond.instantiable RX6 27) (lw_good tw_3_65).1)
  refine ⟨(fun k => if k = 0 then c0 else if k = 1 then c1 else if k = 2 then c2 else if k = 3 then c3 else if k = 4 then c4 else if k = 5 then c5 else c6, fun k => if k = 0 then i0 else if k = 1 then i1 else if k = 2 then i2 else if k = 3 then i3 else if k = 4 then i4 else if k = 5 then i5 else i6), ?_, fun k q h => by simp at h⟩
  intro k q hq
  match k, hq with
  | 0, hq => cases hq; exact k0
  | 1, hq => cases hq; exact k1
  | 2, hq => cases hq; exact k2
  | 3, hq => cases hq; exact k3
  | 4, hq => cases hq; exact k4
  | 5, hq => cases hq; exact k5
  | 6, hq => cases hq; exact k6
  | k + 7, hq => simp [vwCl] at hq
theorem xN_of {b : Nat} {s : State} (hts : ∀ w ∈ lw_tbl, w.before #[Value.ref b] s = true) : xN s := ⟨va_AO.of (hts _ tq_1_29), va_AO.of (hts _ tq_1_31), va_Nw.of rfl (hts _ tq_1_33), va_Nw.of rfl (hts _ tq_1_57), va_Nw.of rfl (hts _ tq_1_124), va_Nw.of rfl (hts _ tq_1_145)⟩
