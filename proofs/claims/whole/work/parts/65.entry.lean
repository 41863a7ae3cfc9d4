/-! THE LAW'S ENTRY -/
set_option maxHeartbeats 4000000 in
set_option maxRecDepth 100000 in
/-- behind both constructors -/
theorem law_on {p : Program} {l : Launch} {e : Env} {s : State} {m : MethodId} {below : List Frame} {meth : Method} {c : Code} {b L : Nat} {xs : Nat → Int32} (hL : L ≤ 320) (C0 : lw_At p s m meth c b L xs) {D : va_G} {a1 a2 : Nat} (hStr : StrX (fun q : Nat => s.heap.size ≤ q) a1 a2 s) {q q' : Nat → Nat} {cy : Nat → ClassId} {cr : ClassId} {H : Heap} {locs : List Loc} {ls : Array Slot} (hP1 : va_P D vwCl (kwL q cy) H) (hP2 : va_P D vwCl (mdL q' cr) H) (hD1 : va_D (fun q : Nat => s.heap.size ≤ q) (kwL q cy)) (hD2 : va_D (fun q : Nat => s.heap.size ≤ q) (mdL q' cr)) (hx12 : ∀ (i j : Nat) (p r : Nat × va_E), (kwL q cy)[i]? = some p → (mdL q' cr)[j]? = some r → p.1 ≠ r.1) (hK1 : va_K D vwCl (kwT cy) s) (hK2 : va_K D vwCl [(cr, .int)] s) (hS : va_S (fun q : Nat => s.heap.size ≤ q) s.heap H locs) (hl : lv_has ls 4 [(0, .ref b), (1, .ref (q 0)), (2, .ref (q' 0)), (3, .int (nI (5 * 0)))]) : W p l e room_1 s m #[Value.ref b] below meth c H locs 50 369 (lw_Z below #[Value.ref b] s) (F0 m 18 ls []) := by
  have eA : ∀ i, i < 36 → q i = adS q a1 a2 i := fun i h => adS_lt h
  have hi1 := kwL_inj hD1
  have hC : IsC (mkC l D (adS q a1 a2) cy) cy := mkC_ok (fun i j hi hj h => hi1 i j hi hj (by rw [eA i hi, eA j hj]; exact h))
  have hR : IsR (mkR l D q' cr) cr := mkR_ok (mdL_inj hD2)
  have sC : ∀ z, aG (mkC l D (adS q a1 a2) cy) z → s.heap.size ≤ z := fun z hz => by
    obtain ⟨i, hi, rfl⟩ := hz
    have hi : i < 36 := hi
    show s.heap.size ≤ adS q a1 a2 i
    rw [← eA i hi]
    exact hD1.2 i _ (kwL_at hi)
  have sR : ∀ z, aG (mkR l D q' cr) z → s.heap.size ≤ z := fun z hz => by
    obtain ⟨i, hi, rfl⟩ := hz
    have hi : i < 14 := hi
    exact hD2.2 i _ (mdL_at hi)
  have hdis : ∀ z, aG (mkC l D (adS q a1 a2) cy) z → ¬ aG (mkR l D q' cr) z := fun z h1 h2 => by
    obtain ⟨i, hi, h1⟩ := h1
    obtain ⟨j, hj, h2⟩ := h2
    have hi : i < 36 := hi
    have hj : j < 14 := hj
    have h1 : adS q a1 a2 i = z := h1
    have h2 : q' j = z := h2
    refine hx12 i j _ _ (kwL_at hi) (mdL_at hj) ?_
    show q i = q' j
    rw [eA i hi, h1, h2]
  have xC : gX (mkC l D (adS q a1 a2) cy) s := StrX_narrow hStr sC
  have X : LwX p l s m meth c b L xs (mkC l D (adS q a1 a2) cy) (mkR l D q' cr) cy cr := ⟨C0, hC, hR, ⟨rfl, rfl⟩, ⟨hK1, hK2⟩, ⟨xC, trivial⟩, ⟨sC, sR⟩, hdis⟩
  refine law_loop X hL (L + 1) 0 M00 N00 H locs ls (by omega) (by omega) Rel_0 ?_ ?_ hS ?_
  · rw [mkC_wG]; exact kwL_to eA hP1
  · rw [mkR_wG]; exact hP2
  · rw [show gA (mkC l D (adS q a1 a2) cy) 0 = q 0 from (eA 0 (by omega)).symm]
    exact hl
set_option maxHeartbeats 4000000 in
set_option maxRecDepth 100000 in
/-- from the entry, for every script of at most 320 ints, the law comes to its end with true -/
theorem whole_start {p : Program} {e : Env} {s : State} {m : MethodId} {below : List Frame} {meth : Method} {c : Code} (l : Launch) {b L : Nat} {xs : Nat → Int32} (hL : L ≤ 320) (C0 : lw_At p s m meth c b L xs) : W p l e room_1 s m #[Value.ref b] below meth c s.heap [] 0 0 (lw_Z below #[Value.ref b] s) (entryFrame m ([Value.ref b] : List Value).toArray 4) := by
  obtain ⟨hx, hb, hr, hml, hown, hts, hX, hbl, hlocks, hgv⟩ := id C0
  have hA : ∀ q : Nat, s.heap.size ≤ q → (fun q : Nat => s.heap.size ≤ q) q := fun _ h => h
  obtain ⟨D, hK⟩ := D_of hts
  obtain ⟨a1, a2, hStr⟩ := str_at hts hgv
  have hN := xN_of hts
  have hS : va_S (fun q : Nat => s.heap.size ≤ q) s.heap s.heap [] := va_S.rf
  have hP : va_P D vwCl [] s.heap := fun k q h => by simp at h
  have hD : va_D (fun q : Nat => s.heap.size ≤ q) [] := ⟨fun i j p q h => by simp at h, fun k q h => by simp at h⟩
  have hl := lv_entry ([.ref b]) (n := 4) (Nat.le_of_ble_eq_true rfl)
  rw [lg_entry_eq]
  generalize (lg_sl ([.ref b]) ++ List.replicate (4 - (lg_sl ([.ref b])).length) Slot.unset).toArray = ls at hl ⊢
  have hl : lv_has ls 4 [(0, .ref b)] := hl
  refine va_new (ci := 5) (fs := [.null, .int 0, .null, .null, .null, .null, .int 0, .int 0, .int 0]) (C := RX5) (T := TX5) (N := 9) hx hb hts lw_in5 tyX5 tyX5_ok hown (hts (Cond.classLink RL 7 "KindWords") (lw_good tw_1_14).1) (hts (Cond.instantiable RX5 9) (lw_good tw_1_15).1) (hts (Cond.initialized RX5) (lw_good tw_1_1).1) hK hP hD hS hA rfl (fun j hj => by rcases (show j = 0 ∨ j = 1 ∨ j = 2 ∨ j = 3 ∨ j = 4 ∨ j = 5 ∨ j = 6 ∨ j = 7 ∨ j = 8 by omega) with rfl | rfl | rfl | rfl | rfl | rfl | rfl | rfl | rfl <;> rfl) (Nat.le_of_ble_eq_true rfl) (Nat.le_of_ble_eq_true rfl) dL_law_0 (fun h5 H hP hD hS => ?_)
  have hP : va_P D vwCl [(h5, .inr (5, [.null, .int 0, .null, .null, .null, .null, .int 0, .int 0, .int 0]))] H := hP
  have hD : va_D (fun q : Nat => s.heap.size ≤ q) [(h5, .inr (5, [.null, .int 0, .null, .null, .null, .null, .int 0, .int 0, .int 0]))] := hD
  refine W.widen (k := 1) (n := 9) (by omega) (by omega) ?_
  refine lv_dup hx hb dL_law_3 rfl ?_
  have hFc := va_free (wc := [(h5, .inr (5, [.null, .int 0, .null, .null, .null, .null, .int 0, .int 0, .int 0]))]) hD hS hA [0] rfl
  refine va_callv (va_runI (As := []) (rest := [.ref h5]) ⟨hx, hb, hml, hown, hts⟩ (c_X5_init l D h5 H.size) (cwI 0 hts (lw_goodY tw_1_18) rfl rfl rfl (hts (Cond.initialized RX5) (lw_good tw_1_1).1) (hts (Cond.methodLink RL 9 yX5_init) (lw_good tw_1_16).1) (hts (Cond.instanceMethod yX5_init) (lw_good tw_1_17).1) rfl ⟨by decide, by decide, by decide +kernel⟩ ⟨Nat.le_of_ble_eq_true rfl, Nat.le_of_ble_eq_true rfl⟩) ⟨fun a U g mk q => by obtain ⟨q0, q1, qP, qK, qD, qN⟩ := q; exact ⟨q0, q1, qP, va_K.moved (u := U) (U := U.calling g mk a) (Vm.Alike.refl U.vm) qK, qD, xN_same rfl qN⟩, fun U hU hW => ⟨rfl, by rw [hU], by rw [hU]; exact hP, va_K.moved hW.alike hK, hD.weaken (fun _ _ _ _ => trivial), xN_warm hW hN⟩⟩ rfl rfl hl.1 rfl (lv_room (Nat.le_of_ble_eq_true rfl)) dL_law_4 ⟨Nat.le_of_ble_eq_true rfl, Nat.le_of_ble_eq_true rfl⟩) hS (fun q _ h => hFc q h) hFc (fun u t H1 locs ht hvm hw hB hz1 hk1 hS => ?_)
  obtain ⟨q, cy, e5, hP1, hK1, hD1⟩ := hB
  rw [ht] at hP1
  have hK1 := va_K.moved hvm.symm hK1
  have hD4 := hD1.weaken (B := fun q : Nat => s.heap.size ≤ q) (fun _ q _ h => hFc _ h)
  refine W.widen (k := 36) (n := 182) (by omega) (by omega) ?_
  refine W.eq (g2 := F0 m 7 ls [.ref h5]) rfl ?_
  refine lv_astore_n (lv' := [(1, .ref h5), (0, .ref b)]) hx hb dL_law_7 rfl hl (by decide) rfl (fun ls hl => ?_)
  refine va_new (ci := 6) (fs := [.null, .int 0, .int 0, .int 0, .int 0, .int 0, .null, .null, .int 0, .null, .null, .null, .null, .int 0, .null, .int 0, .null, .null, .int 0, .int 0, .int 0, .int 0, .int 0, .null, .null, .null, .long 0]) (C := RX6) (T := TX6) (N := 27) hx hb hts lw_in6 tyX6 tyX6_ok hown (hts (Cond.classLink RL 10 "KindWordsModel") (lw_good tw_3_64).1) (hts (Cond.instantiable RX6 27) (lw_good tw_3_65).1) (hts (Cond.initialized RX6) (lw_good tw_1_7).1) hK hP1 hD4 hS hA rfl (fun j hj => by rcases (show j = 0 ∨ j = 1 ∨ j = 2 ∨ j = 3 ∨ j = 4 ∨ j = 5 ∨ j = 6 ∨ j = 7 ∨ j = 8 ∨ j = 9 ∨ j = 10 ∨ j = 11 ∨ j = 12 ∨ j = 13 ∨ j = 14 ∨ j = 15 ∨ j = 16 ∨ j = 17 ∨ j = 18 ∨ j = 19 ∨ j = 20 ∨ j = 21 ∨ j = 22 ∨ j = 23 ∨ j = 24 ∨ j = 25 ∨ j = 26 by omega) with rfl | rfl | rfl | rfl | rfl | rfl | rfl | rfl | rfl | rfl | rfl | rfl | rfl | rfl | rfl | rfl | rfl | rfl | rfl | rfl | rfl | rfl | rfl | rfl | rfl | rfl | rfl <;> rfl) (Nat.le_of_ble_eq_true rfl) (Nat.le_of_ble_eq_true rfl) dL_law_8 (fun h6 H hP hD hS => ?_)
  refine W.widen (k := 37) (n := 209) (by omega) (by omega) ?_
  refine lv_dup hx hb dL_law_11 rfl ?_
  have hPc : va_P D vwCl [(h6, .inr (6, [.null, .int 0, .int 0, .int 0, .int 0, .int 0, .null, .null, .int 0, .null, .null, .null, .null, .int 0, .null, .int 0, .null, .null, .int 0, .int 0, .int 0, .int 0, .int 0, .null, .null, .null, .long 0]))] H := fun k q hk => hP (k + 36) q (by rw [List.getElem?_append_right (by rw [kwL_len]; omega), kwL_len]; rw [Nat.add_sub_cancel]; exact hk)
  have hDc : va_D (fun _ => True) [(h6, .inr (6, [.null, .int 0, .int 0, .int 0, .int 0, .int 0, .null, .null, .int 0, .null, .null, .null, .null, .int 0, .null, .int 0, .null, .null, .int 0, .int 0, .int 0, .int 0, .int 0, .null, .null, .null, .long 0]))] := ⟨fun i j p q h1 h2 _ => by
    have := (List.getElem?_eq_some_iff.mp h1).1
    have := (List.getElem?_eq_some_iff.mp h2).1
    simp at *
    omega, fun _ _ _ => trivial⟩
  have hFc : ∀ q, va_A [(h6, .inr (6, [.null, .int 0, .int 0, .int 0, .int 0, .int 0, .null, .null, .int 0, .null, .null, .null, .null, .int 0, .null, .int 0, .null, .null, .int 0, .int 0, .int 0, .int 0, .int 0, .null, .null, .null, .long 0]))] H.size q → (fun q : Nat => s.heap.size ≤ q) q := fun q h => by
    rcases h with ⟨k, e, h⟩ | h
    · have := hD.2 (k + 36) (q, e) (by rw [List.getElem?_append_right (by rw [kwL_len]; omega), kwL_len]; rw [Nat.add_sub_cancel]; exact h)
      exact this
    · exact Nat.le_trans hS.1 h
  refine va_callv (va_runI (As := []) (rest := [.ref h6]) ⟨hx, hb, hml, hown, hts⟩ (c_X6_init l D h6 H.size) (cwI 0 hts (lw_goodY tw_3_68) rfl rfl rfl (hts (Cond.initialized RX6) (lw_good tw_1_7).1) (hts (Cond.methodLink RL 12 yX6_init) (lw_good tw_3_66).1) (hts (Cond.instanceMethod yX6_init) (lw_good tw_3_67).1) rfl ⟨by decide, by decide, by decide +kernel⟩ ⟨Nat.le_of_ble_eq_true rfl, Nat.le_of_ble_eq_true rfl⟩) ⟨fun a U g mk q => by obtain ⟨q0, q1, qP, qK, qD, qN⟩ := q; exact ⟨q0, q1, qP, va_K.moved (u := U) (U := U.calling g mk a) (Vm.Alike.refl U.vm) qK, qD, xN_same rfl qN⟩, fun U hU hW => ⟨rfl, by rw [hU], by rw [hU]; exact hPc, va_K.moved hW.alike hK, hDc, xN_warm hW hN⟩⟩ rfl rfl hl.1 rfl (lv_room (Nat.le_of_ble_eq_true rfl)) dL_law_12 ⟨Nat.le_of_ble_eq_true rfl, Nat.le_of_ble_eq_true rfl⟩) hS (fun q _ h => hFc q h) hFc (fun u t H1 locs ht hvm hw hB hz1 hk1 hS => ?_)
  obtain ⟨q', cr, e6, hP2, hK2, hD2⟩ := hB
  rw [ht] at hP2
  have hK2 := va_K.moved hvm.symm hK2
  obtain ⟨hPw, hDw, hx12⟩ := two_worlds hP hD hk1 hD2
  have hD3 := hD2.weaken (B := fun q : Nat => s.heap.size ≤ q) (fun _ q _ h => hFc _ h)
  refine W.widen (k := 50) (n := 369) (by omega) (by omega) ?_
  refine W.eq (g2 := F0 m 15 ls [.ref h6]) rfl ?_
  refine lv_astore_n (lv' := [(2, .ref h6), (1, .ref h5), (0, .ref b)]) hx hb dL_law_15 rfl hl (by decide) rfl (fun ls hl => ?_)
  refine lv_iconst (v := 0) hx hb dL_law_16 (by decide) ?_
  refine lv_istore_n (lv' := [(3, .int 0), (2, .ref h6), (1, .ref h5), (0, .ref b)]) hx hb dL_law_17 rfl hl (by decide) rfl (fun ls hl => ?_)
  refine W.eq (g2 := F0 m 18 ls []) rfl ?_
  subst e5
  subst e6
  exact law_on hL C0 hStr hPw hP2 hDw hD3 hx12 hK1 hK2 hS (lv_sub hl [3, 2, 1, 0] (by rw [show nI (5 * 0) = 0 from nI_0]; rfl))
