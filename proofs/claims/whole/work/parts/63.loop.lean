/-! THE LAW'S LOOP -/
set_option maxHeartbeats 4000000 in
set_option maxRecDepth 100000 in
theorem law_loop {p : Program} {l : Launch} {e : Env} {s : State} {m : MethodId} {below : List Frame} {meth : Method} {c : Code} {b L : Nat} {xs : Nat → Int32} {GC GR : KyG} {cy : Nat → ClassId} {cr : ClassId} (X : LwX p l s m meth c b L xs GC GR cy cr) (hL : L ≤ 320) : ∀ (n B : Nat) (M N : Mem) (H : Heap) (locs : List Loc) (ls : Array Slot), 5 * B ≤ L → L + 1 ≤ 5 * B + n → Rel B M N → va_P (gD GC) vwCl (wG GC M) H → va_P (gD GR) vwCl (wG GR N) H → va_S (fun q : Nat => s.heap.size ≤ q) s.heap H locs → lv_has ls 4 [(0, .ref b), (1, .ref (gA GC 0)), (2, .ref (gA GR 0)), (3, .int (nI (5 * B)))] → W p l e room_1 s m #[Value.ref b] below meth c H locs 50 369 (lw_Z below #[Value.ref b] s) (F0 m 18 ls []) := by
  have X' := X
  obtain ⟨C0, hC, hR, ⟨lC, lR⟩, ⟨kC, kR⟩, ⟨xC, xR⟩, ⟨sC, sR⟩, hdis⟩ := X
  obtain ⟨hx, hb, hr, hml, hown, hts, hX, hbl, hlocks, hgv⟩ := C0
  have hbA : ¬ (fun q : Nat => s.heap.size ≤ q) b := Nat.not_le.mpr hbl
  intro n
  induction n with
  | zero =>
    intro B M N H locs ls h1 h2
    exact absurd h2 (by omega)
  | succ n ih =>
    intro B M N H locs ls h1 h2 hRel hP1 hP2 hS hl
    refine lv_iload_n hx hb dL_law_18 rfl (lv_at hl 3 rfl) ?_
    refine lv_aload_n hx hb dL_law_19 rfl (lv_at hl 0 rfl) ?_
    refine va_slen hx hb hX hbl hbA hS dL_law_20 ?_
    refine lv_iconst (v := 5) hx hb dL_law_21 (by decide) ?_
    refine lv_isub hx hb dL_law_22 ?_
    refine lv_icmp_gt (tgt := 725) hx hb dL_law_23 (by decide) (fun _ => ?_) (fun cg => ?_)
    · refine lv_iconst (v := 1) hx hb dL_law_725 (by decide) ?_
      refine va_forget (fun q hq => hS.2.2 q hq) ?_
      refine W.widen (k := 609253) (n := 7274488) (by omega) (by omega) ?_
      exact lw_ret hx hb hr hlocks dL_law_726
    · have hi : 5 * B + 5 ≤ L := by
        apply Classical.byContradiction
        intro hn
        apply cg
        show nI L - nI 5 < nI (5 * B)
        by_cases h5 : L < 5
        · have := pk_sneg (a := L) (b := 5) (by omega) h5
          rw [lt0_iff] at this
          rw [lt_nI (by omega)]
          omega
        · rw [pk_sub (by omega)]
          exact nI_lt (by omega) (by omega)
      refine lv_aload_n hx hb dL_law_26 rfl (lv_at hl 0 rfl) ?_
      refine lv_iload_n hx hb dL_law_27 rfl (lv_at hl 3 rfl) ?_
      refine va_sld hx hb hX hbl hbA hS (i := nI (5 * B)) (vp_in_nI (by omega) (by omega)) dL_law_28 ?_
      refine lv_bipush (v := 31) hx hb dL_law_29 (by decide) ?_
      refine lv_iand hx hb dL_law_31 ?_
      obtain ⟨j, hj, ej⟩ := pk_andE (xs (nI (5 * B)).toNatClampNeg) (m := 31) 5 (by decide)
      rw [ej]
      have kk : ∀ (H1 : Heap) (locs1 : List Loc) (M1 N1 : Mem), Rel (B + 1) M1 N1 → va_P (gD GC) vwCl (wG GC M1) H1 → va_P (gD GR) vwCl (wG GR N1) H1 → va_S (fun q : Nat => s.heap.size ≤ q) s.heap H1 locs1 → W p l e room_1 s m #[Value.ref b] below meth c H1 locs1 50 369 (lw_Z below #[Value.ref b] s) (F0 m 719 ls []) := by
        intro H1 locs1 M1 N1 r1 p1 p2 s1
        refine lv_iinc (v := nI (5 * (B + 1))) (lv' := [(3, .int (nI (5 * (B + 1)))), (0, .ref b), (1, .ref (gA GC 0)), (2, .ref (gA GR 0))]) hx hb dL_law_719 hl (k := 3) rfl (nI_add (5 * B) 5) (by decide) rfl (fun ls hl => ?_)
        refine lv_goto (tgt := 18) hx hb dL_law_722 (by decide) ?_
        exact ih (B + 1) M1 N1 H1 locs1 ls (by omega) (by omega) r1 p1 p2 s1 (lv_sub hl [1, 2, 3, 0] rfl)
      by_cases big : 22 ≤ j
      · refine lv_tableOut (tgt := 719) hx hb dL_law_32 (Or.inr ?_) (by decide) (kk _ _ _ _ (Rel_up hRel) hP1 hP2 hS)
        rw [nI_toInt (by omega)]
        omega
      · obtain (rfl | rfl | rfl | rfl | rfl | rfl | rfl | rfl | rfl | rfl | rfl | rfl | rfl | rfl | rfl | rfl | rfl | rfl | rfl | rfl | rfl | rfl) : j = 0 ∨ j = 1 ∨ j = 2 ∨ j = 3 ∨ j = 4 ∨ j = 5 ∨ j = 6 ∨ j = 7 ∨ j = 8 ∨ j = 9 ∨ j = 10 ∨ j = 11 ∨ j = 12 ∨ j = 13 ∨ j = 14 ∨ j = 15 ∨ j = 16 ∨ j = 17 ∨ j = 18 ∨ j = 19 ∨ j = 20 ∨ j = 21 := by omega
        · exact lv_tableIn (tgt := 136) hx hb dL_law_32 (by decide) (by decide) rfl (by decide) (law_c0 X' (F := 20000) (by omega) (by omega) hi hL hRel hP1 hP2 hS hl kk)
        · exact lv_tableIn (tgt := 159) hx hb dL_law_32 (by decide) (by decide) rfl (by decide) (law_c1 X' (F := 20000) (by omega) (by omega) hi hL hRel hP1 hP2 hS hl kk)
        · exact lv_tableIn (tgt := 172) hx hb dL_law_32 (by decide) (by decide) rfl (by decide) (law_c2 X' (F := 20000) (by omega) (by omega) hi hL hRel hP1 hP2 hS hl kk)
        · exact lv_tableIn (tgt := 185) hx hb dL_law_32 (by decide) (by decide) rfl (by decide) (law_c3 X' (F := 20000) (by omega) (by omega) hi hL hRel hP1 hP2 hS hl kk)
        · exact lv_tableIn (tgt := 198) hx hb dL_law_32 (by decide) (by decide) rfl (by decide) (law_c4 X' (F := 20000) (by omega) (by omega) hi hL hRel hP1 hP2 hS hl kk)
        · exact lv_tableIn (tgt := 231) hx hb dL_law_32 (by decide) (by decide) rfl (by decide) (law_c5 X' (F := 20000) (by omega) (by omega) hi hL hRel hP1 hP2 hS hl kk)
        · exact lv_tableIn (tgt := 284) hx hb dL_law_32 (by decide) (by decide) rfl (by decide) (law_c6 X' (F := 20000) (by omega) (by omega) hi hL hRel hP1 hP2 hS hl kk)
        · exact lv_tableIn (tgt := 317) hx hb dL_law_32 (by decide) (by decide) rfl (by decide) (law_c7 X' (F := 20000) (by omega) (by omega) hi hL hRel hP1 hP2 hS hl kk)
        · exact lv_tableIn (tgt := 350) hx hb dL_law_32 (by decide) (by decide) rfl (by decide) (law_c8 X' (F := 20000) (by omega) (by omega) hi hL hRel hP1 hP2 hS hl kk)
        · exact lv_tableIn (tgt := 383) hx hb dL_law_32 (by decide) (by decide) rfl (by decide) (law_c9 X' (F := 20000) (by omega) (by omega) hi hL hRel hP1 hP2 hS hl kk)
        · exact lv_tableIn (tgt := 416) hx hb dL_law_32 (by decide) (by decide) rfl (by decide) (law_c10 X' (F := 20000) (by omega) (by omega) hi hL hRel hP1 hP2 hS hl kk)
        · exact lv_tableIn (tgt := 429) hx hb dL_law_32 (by decide) (by decide) rfl (by decide) (law_c11 X' (F := 20000) (by omega) (by omega) hi hL hRel hP1 hP2 hS hl kk)
        · exact lv_tableIn (tgt := 452) hx hb dL_law_32 (by decide) (by decide) rfl (by decide) (law_c12 X' (F := 20000) (by omega) (by omega) hi hL hRel hP1 hP2 hS hl kk)
        · exact lv_tableIn (tgt := 485) hx hb dL_law_32 (by decide) (by decide) rfl (by decide) (law_c13 X' (F := 20000) (by omega) (by omega) hi hL hRel hP1 hP2 hS hl kk)
        · exact lv_tableIn (tgt := 544) hx hb dL_law_32 (by decide) (by decide) rfl (by decide) (law_c14 X' (F := 20000) (by omega) (by omega) hi hL hRel hP1 hP2 hS hl kk)
        · exact lv_tableIn (tgt := 557) hx hb dL_law_32 (by decide) (by decide) rfl (by decide) (law_c15 X' (F := 20000) (by omega) (by omega) hi hL hRel hP1 hP2 hS hl kk)
        · exact lv_tableIn (tgt := 590) hx hb dL_law_32 (by decide) (by decide) rfl (by decide) (law_c16 X' (F := 20000) (by omega) (by omega) hi hL hRel hP1 hP2 hS hl kk)
        · exact lv_tableIn (tgt := 613) hx hb dL_law_32 (by decide) (by decide) rfl (by decide) (law_c17 X' (F := 20000) (by omega) (by omega) hi hL hRel hP1 hP2 hS hl kk)
        · exact lv_tableIn (tgt := 656) hx hb dL_law_32 (by decide) (by decide) rfl (by decide) (law_c18 X' (F := 20000) (by omega) (by omega) hi hL hRel hP1 hP2 hS hl kk)
        · exact lv_tableIn (tgt := 669) hx hb dL_law_32 (by decide) (by decide) rfl (by decide) (law_c19 X' (F := 20000) (by omega) (by omega) hi hL hRel hP1 hP2 hS hl kk)
        · exact lv_tableIn (tgt := 682) hx hb dL_law_32 (by decide) (by decide) rfl (by decide) (law_c20 X' (F := 20000) (by omega) (by omega) hi hL hRel hP1 hP2 hS hl kk)
        · exact lv_tableIn (tgt := 705) hx hb dL_law_32 (by decide) (by decide) rfl (by decide) (law_c21 X' (F := 20000) (by omega) (by omega) hi hL hRel hP1 hP2 hS hl kk)
