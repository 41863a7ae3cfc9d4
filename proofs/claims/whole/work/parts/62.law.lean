/-! THE LAW'S CASES -/
def LwX (p : Program) (l : Launch) (s : State) (m : MethodId) (meth : Method) (c : Code) (b L : Nat) (xs : Nat → Int32) (GC GR : KyG) (cy : Nat → ClassId) (cr : ClassId) : Prop := lw_At p s m meth c b L xs ∧ IsC GC cy ∧ IsR GR cr ∧ (gL GC = l ∧ gL GR = l) ∧ (va_K (gD GC) vwCl (gT GC) s ∧ va_K (gD GR) vwCl (gT GR) s) ∧ (gX GC s ∧ gX GR s) ∧ ((∀ q, aG GC q → s.heap.size ≤ q) ∧ ∀ q, aG GR q → s.heap.size ≤ q) ∧ ∀ q, aG GC q → ¬ aG GR q
section LWC
variable {p : Program} {l : Launch} {e : Env} {s : State} {m : MethodId} {below : List Frame} {meth : Method} {c : Code} {b L : Nat} {xs : Nat → Int32} {GC GR : KyG} {cy : Nat → ClassId} {cr : ClassId} {F B i : Nat} {M N : Mem} {H : Heap} {locs : List Loc} {ls : Array Slot} {Q : State → Prop}
def LwK (p : Program) (l : Launch) (e : Env) (s : State) (m : MethodId) (below : List Frame) (meth : Method) (c : Code) (b : Nat) (GC GR : KyG) (B : Nat) (ls : Array Slot) (Q : State → Prop) : Prop := ∀ (H1 : Heap) (locs1 : List Loc) (M1 N1 : Mem), Rel (B + 1) M1 N1 → va_P (gD GC) vwCl (wG GC M1) H1 → va_P (gD GR) vwCl (wG GR N1) H1 → va_S (fun q : Nat => s.heap.size ≤ q) s.heap H1 locs1 → W p l e room_1 s m #[Value.ref b] below meth c H1 locs1 50 369 Q (F0 m 719 ls [])
set_option maxHeartbeats 4000000 in
set_option maxRecDepth 100000 in
theorem law_c0 (X : LwX p l s m meth c b L xs GC GR cy cr) (hF : 20000 ≤ F) (hB4 : B ≤ 400) (hi : i + 5 ≤ L) (hL : L ≤ 320) (hRel : Rel B M N) (hP1 : va_P (gD GC) vwCl (wG GC M) H) (hP2 : va_P (gD GR) vwCl (wG GR N) H) (hS : va_S (fun q : Nat => s.heap.size ≤ q) s.heap H locs) (hl : lv_has ls 4 [(0, .ref b), (1, .ref (gA GC 0)), (2, .ref (gA GR 0)), (3, .int (nI i))]) (kk : LwK p l e s m below meth c b GC GR B ls Q) : W p l e room_1 s m #[Value.ref b] below meth c H locs 50 369 Q (F0 m 136 ls []) := by
  obtain ⟨C0, hC, hR, ⟨lC, lR⟩, ⟨kC, kR⟩, ⟨xC, xR⟩, ⟨sC, sR⟩, hdis⟩ := X
  obtain ⟨hx, hb, hr, hml, hown, hts, hX, hbl, hlocks, hgv⟩ := C0
  have hbA : ¬ (fun q : Nat => s.heap.size ≤ q) b := Nat.not_le.mpr hbl
  have hF1 : 100 ≤ F := by omega
  have hB : B ≤ 1000 := by omega
  have C1 : CallFix p m c code 4 s #[Value.ref b] lw_tbl RL := ⟨hx, hb, hml, hown, hts⟩
  obtain ⟨r, M1, N1, e1, e2, hRel1⟩ := sp_letter (F := F)  (xs (i + 1)) M N hRel
  refine lv_aload_n hx hb dL_law_136 rfl (lv_at hl 1 rfl) ?_
  refine lv_aload_n hx hb dL_law_137 rfl (lv_at hl 0 rfl) ?_
  refine lv_iload_n hx hb dL_law_138 rfl (lv_at hl 3 rfl) ?_
  refine lv_iconst (v := 1) hx hb dL_law_139 (by decide) ?_
  refine lv_iadd hx hb dL_law_140 ?_
  rw [show nI i + (1 : Int32) = nI (i + 1) from nI_add i 1]
  refine va_sld hx hb hX hbl hbA hS (i := nI (i + 1)) (vp_in_nI (by omega) (by omega)) dL_law_141 ?_
  rw [nI_clamp (show i + 1 < 2 ^ 31 by omega)]
  refine lw_call (n := 1) (G := GC) (As := [.int (xs (i + 1))]) (st := []) C1 hC.2.2.2.1 kC xC lC sC (c_X5_letter hC F (xs (i + 1)) M) e1 (ltK hC) (ceK hC) rfl (lw_goodV tw_1_188 tw_1_189 tw_1_190 tw_1_1 tw_1_191) (by decide +kernel) ⟨rfl, rfl, by decide, by decide⟩ rfl rfl (Nat.le_of_ble_eq_true rfl) hl.1 (by decide) dL_law_142 hP1 hS (fun H locs hP1 hS hk => ?_)
  have hP2 := wG_kept hdis hP2 hk
  refine W.eq (g2 := F0 m 145 ls [.int r]) rfl ?_
  refine lv_aload_n hx hb dL_law_145 rfl (lv_at hl 2 rfl) ?_
  refine lv_aload_n hx hb dL_law_146 rfl (lv_at hl 0 rfl) ?_
  refine lv_iload_n hx hb dL_law_147 rfl (lv_at hl 3 rfl) ?_
  refine lv_iconst (v := 1) hx hb dL_law_148 (by decide) ?_
  refine lv_iadd hx hb dL_law_149 ?_
  rw [show nI i + (1 : Int32) = nI (i + 1) from nI_add i 1]
  refine va_sld hx hb hX hbl hbA hS (i := nI (i + 1)) (vp_in_nI (by omega) (by omega)) dL_law_150 ?_
  rw [nI_clamp (show i + 1 < 2 ^ 31 by omega)]
  refine lw_call (n := 1) (G := GR) (As := [.int (xs (i + 1))]) (st := [.int r]) C1 hR.2.2.2 kR xR lR sR (c_X6_letter hR F (xs (i + 1)) N) e2 (ltR hR) (ceR hR) rfl (lw_goodV tw_3_152 tw_3_153 tw_3_154 tw_1_7 tw_3_155) (by decide +kernel) ⟨rfl, rfl, by decide, by decide⟩ rfl rfl (Nat.le_of_ble_eq_true rfl) hl.1 (by decide) dL_law_151 hP2 hS (fun H locs hP2 hS hk => ?_)
  have hP1 := wG_kept (fun q a z => hdis q z a) hP1 hk
  refine W.eq (g2 := F0 m 154 ls [.int r, .int r]) rfl ?_
  exact lv_icmp_eq (tgt := 719) hx hb dL_law_154 (by decide) (fun _ => kk _ _ _ _ hRel1 hP1 hP2 hS) (fun cz => absurd rfl cz)
set_option maxHeartbeats 4000000 in
set_option maxRecDepth 100000 in
theorem law_c1 (X : LwX p l s m meth c b L xs GC GR cy cr) (hF : 20000 ≤ F) (hB4 : B ≤ 400) (hi : i + 5 ≤ L) (hL : L ≤ 320) (hRel : Rel B M N) (hP1 : va_P (gD GC) vwCl (wG GC M) H) (hP2 : va_P (gD GR) vwCl (wG GR N) H) (hS : va_S (fun q : Nat => s.heap.size ≤ q) s.heap H locs) (hl : lv_has ls 4 [(0, .ref b), (1, .ref (gA GC 0)), (2, .ref (gA GR 0)), (3, .int (nI i))]) (kk : LwK p l e s m below meth c b GC GR B ls Q) : W p l e room_1 s m #[Value.ref b] below meth c H locs 50 369 Q (F0 m 159 ls []) := by
  obtain ⟨C0, hC, hR, ⟨lC, lR⟩, ⟨kC, kR⟩, ⟨xC, xR⟩, ⟨sC, sR⟩, hdis⟩ := X
  obtain ⟨hx, hb, hr, hml, hown, hts, hX, hbl, hlocks, hgv⟩ := C0
  have hbA : ¬ (fun q : Nat => s.heap.size ≤ q) b := Nat.not_le.mpr hbl
  have hF1 : 100 ≤ F := by omega
  have hB : B ≤ 1000 := by omega
  have C1 : CallFix p m c code 4 s #[Value.ref b] lw_tbl RL := ⟨hx, hb, hml, hown, hts⟩
  obtain ⟨r, M1, N1, e1, e2, hRel1⟩ := sp_blank (F := F)   M N hRel
  refine lv_aload_n hx hb dL_law_159 rfl (lv_at hl 1 rfl) ?_
  refine lw_call (n := 0) (G := GC) (As := []) (st := []) C1 hC.2.2.2.1 kC xC lC sC (c_X5_blank hC F  M) e1 (ltK hC) (ceK hC) rfl (lw_goodV tw_1_192 tw_1_193 tw_1_194 tw_1_1 tw_1_195) (by decide +kernel) ⟨rfl, rfl, by decide, by decide⟩ rfl rfl (Nat.le_of_ble_eq_true rfl) hl.1 (by decide) dL_law_160 hP1 hS (fun H locs hP1 hS hk => ?_)
  have hP2 := wG_kept hdis hP2 hk
  refine W.eq (g2 := F0 m 163 ls [.int r]) rfl ?_
  refine lv_aload_n hx hb dL_law_163 rfl (lv_at hl 2 rfl) ?_
  refine lw_call (n := 0) (G := GR) (As := []) (st := [.int r]) C1 hR.2.2.2 kR xR lR sR (c_X6_blank hR F  N) e2 (ltR hR) (ceR hR) rfl (lw_goodV tw_3_160 tw_3_161 tw_3_162 tw_1_7 tw_3_163) (by decide +kernel) ⟨rfl, rfl, by decide, by decide⟩ rfl rfl (Nat.le_of_ble_eq_true rfl) hl.1 (by decide) dL_law_164 hP2 hS (fun H locs hP2 hS hk => ?_)
  have hP1 := wG_kept (fun q a z => hdis q z a) hP1 hk
  refine W.eq (g2 := F0 m 167 ls [.int r, .int r]) rfl ?_
  exact lv_icmp_eq (tgt := 719) hx hb dL_law_167 (by decide) (fun _ => kk _ _ _ _ hRel1 hP1 hP2 hS) (fun cz => absurd rfl cz)
set_option maxHeartbeats 4000000 in
set_option maxRecDepth 100000 in
theorem law_c2 (X : LwX p l s m meth c b L xs GC GR cy cr) (hF : 20000 ≤ F) (hB4 : B ≤ 400) (hi : i + 5 ≤ L) (hL : L ≤ 320) (hRel : Rel B M N) (hP1 : va_P (gD GC) vwCl (wG GC M) H) (hP2 : va_P (gD GR) vwCl (wG GR N) H) (hS : va_S (fun q : Nat => s.heap.size ≤ q) s.heap H locs) (hl : lv_has ls 4 [(0, .ref b), (1, .ref (gA GC 0)), (2, .ref (gA GR 0)), (3, .int (nI i))]) (kk : LwK p l e s m below meth c b GC GR B ls Q) : W p l e room_1 s m #[Value.ref b] below meth c H locs 50 369 Q (F0 m 172 ls []) := by
  obtain ⟨C0, hC, hR, ⟨lC, lR⟩, ⟨kC, kR⟩, ⟨xC, xR⟩, ⟨sC, sR⟩, hdis⟩ := X
  obtain ⟨hx, hb, hr, hml, hown, hts, hX, hbl, hlocks, hgv⟩ := C0
  have hbA : ¬ (fun q : Nat => s.heap.size ≤ q) b := Nat.not_le.mpr hbl
  have hF1 : 100 ≤ F := by omega
  have hB : B ≤ 1000 := by omega
  have C1 : CallFix p m c code 4 s #[Value.ref b] lw_tbl RL := ⟨hx, hb, hml, hown, hts⟩
  obtain ⟨r, M1, N1, e1, e2, hRel1⟩ := sp_fault (F := F) hF1  M N hRel
  refine lv_aload_n hx hb dL_law_172 rfl (lv_at hl 1 rfl) ?_
  refine lw_call (n := 0) (G := GC) (As := []) (st := []) C1 hC.2.2.2.1 kC xC lC sC (c_X5_fault hC F  M) e1 (ltK hC) (ceK hC) rfl (lw_goodV tw_1_196 tw_1_197 tw_1_198 tw_1_1 tw_1_199) (by decide +kernel) ⟨rfl, rfl, by decide, by decide⟩ rfl rfl (Nat.le_of_ble_eq_true rfl) hl.1 (by decide) dL_law_173 hP1 hS (fun H locs hP1 hS hk => ?_)
  have hP2 := wG_kept hdis hP2 hk
  refine W.eq (g2 := F0 m 176 ls [.int r]) rfl ?_
  refine lv_aload_n hx hb dL_law_176 rfl (lv_at hl 2 rfl) ?_
  refine lw_call (n := 0) (G := GR) (As := []) (st := [.int r]) C1 hR.2.2.2 kR xR lR sR (c_X6_fault hR F  N) e2 (ltR hR) (ceR hR) rfl (lw_goodV tw_3_164 tw_3_165 tw_3_166 tw_1_7 tw_3_167) (by decide +kernel) ⟨rfl, rfl, by decide, by decide⟩ rfl rfl (Nat.le_of_ble_eq_true rfl) hl.1 (by decide) dL_law_177 hP2 hS (fun H locs hP2 hS hk => ?_)
  have hP1 := wG_kept (fun q a z => hdis q z a) hP1 hk
  refine W.eq (g2 := F0 m 180 ls [.int r, .int r]) rfl ?_
  exact lv_icmp_eq (tgt := 719) hx hb dL_law_180 (by decide) (fun _ => kk _ _ _ _ hRel1 hP1 hP2 hS) (fun cz => absurd rfl cz)
set_option maxHeartbeats 4000000 in
set_option maxRecDepth 100000 in
theorem law_c3 (X : LwX p l s m meth c b L xs GC GR cy cr) (hF : 20000 ≤ F) (hB4 : B ≤ 400) (hi : i + 5 ≤ L) (hL : L ≤ 320) (hRel : Rel B M N) (hP1 : va_P (gD GC) vwCl (wG GC M) H) (hP2 : va_P (gD GR) vwCl (wG GR N) H) (hS : va_S (fun q : Nat => s.heap.size ≤ q) s.heap H locs) (hl : lv_has ls 4 [(0, .ref b), (1, .ref (gA GC 0)), (2, .ref (gA GR 0)), (3, .int (nI i))]) (kk : LwK p l e s m below meth c b GC GR B ls Q) : W p l e room_1 s m #[Value.ref b] below meth c H locs 50 369 Q (F0 m 185 ls []) := by
  obtain ⟨C0, hC, hR, ⟨lC, lR⟩, ⟨kC, kR⟩, ⟨xC, xR⟩, ⟨sC, sR⟩, hdis⟩ := X
  obtain ⟨hx, hb, hr, hml, hown, hts, hX, hbl, hlocks, hgv⟩ := C0
  have hbA : ¬ (fun q : Nat => s.heap.size ≤ q) b := Nat.not_le.mpr hbl
  have hF1 : 100 ≤ F := by omega
  have hB : B ≤ 1000 := by omega
  have C1 : CallFix p m c code 4 s #[Value.ref b] lw_tbl RL := ⟨hx, hb, hml, hown, hts⟩
  obtain ⟨r, M1, N1, e1, e2, hRel1⟩ := sp_town (F := F) hF1 hB  M N hRel
  refine lv_aload_n hx hb dL_law_185 rfl (lv_at hl 1 rfl) ?_
  refine lw_call (n := 0) (G := GC) (As := []) (st := []) C1 hC.2.2.2.1 kC xC lC sC (c_X5_town hC F  M) e1 (ltK hC) (ceK hC) rfl (lw_goodV tw_2_13 tw_2_14 tw_2_15 tw_1_1 tw_2_16) (by decide +kernel) ⟨rfl, rfl, by decide, by decide⟩ rfl rfl (Nat.le_of_ble_eq_true rfl) hl.1 (by decide) dL_law_186 hP1 hS (fun H locs hP1 hS hk => ?_)
  have hP2 := wG_kept hdis hP2 hk
  refine W.eq (g2 := F0 m 189 ls [.int r]) rfl ?_
  refine lv_aload_n hx hb dL_law_189 rfl (lv_at hl 2 rfl) ?_
  refine lw_call (n := 0) (G := GR) (As := []) (st := [.int r]) C1 hR.2.2.2 kR xR lR sR (c_X6_town hR F  N) e2 (ltR hR) (ceR hR) rfl (lw_goodV tw_3_177 tw_3_178 tw_3_179 tw_1_7 tw_3_180) (by decide +kernel) ⟨rfl, rfl, by decide, by decide⟩ rfl rfl (Nat.le_of_ble_eq_true rfl) hl.1 (by decide) dL_law_190 hP2 hS (fun H locs hP2 hS hk => ?_)
  have hP1 := wG_kept (fun q a z => hdis q z a) hP1 hk
  refine W.eq (g2 := F0 m 193 ls [.int r, .int r]) rfl ?_
  exact lv_icmp_eq (tgt := 719) hx hb dL_law_193 (by decide) (fun _ => kk _ _ _ _ hRel1 hP1 hP2 hS) (fun cz => absurd rfl cz)
set_option maxHeartbeats 4000000 in
set_option maxRecDepth 100000 in
theorem law_c4 (X : LwX p l s m meth c b L xs GC GR cy cr) (hF : 20000 ≤ F) (hB4 : B ≤ 400) (hi : i + 5 ≤ L) (hL : L ≤ 320) (hRel : Rel B M N) (hP1 : va_P (gD GC) vwCl (wG GC M) H) (hP2 : va_P (gD GR) vwCl (wG GR N) H) (hS : va_S (fun q : Nat => s.heap.size ≤ q) s.heap H locs) (hl : lv_has ls 4 [(0, .ref b), (1, .ref (gA GC 0)), (2, .ref (gA GR 0)), (3, .int (nI i))]) (kk : LwK p l e s m below meth c b GC GR B ls Q) : W p l e room_1 s m #[Value.ref b] below meth c H locs 50 369 Q (F0 m 198 ls []) := by
  obtain ⟨C0, hC, hR, ⟨lC, lR⟩, ⟨kC, kR⟩, ⟨xC, xR⟩, ⟨sC, sR⟩, hdis⟩ := X
  obtain ⟨hx, hb, hr, hml, hown, hts, hX, hbl, hlocks, hgv⟩ := C0
  have hbA : ¬ (fun q : Nat => s.heap.size ≤ q) b := Nat.not_le.mpr hbl
  have hF1 : 100 ≤ F := by omega
  have hB : B ≤ 1000 := by omega
  have C1 : CallFix p m c code 4 s #[Value.ref b] lw_tbl RL := ⟨hx, hb, hml, hown, hts⟩
  obtain ⟨r, M1, N1, e1, e2, hRel1⟩ := sp_victim (F := F) hF1 (xs (i + 1)) (xs (i + 2)) M N hRel
  refine lv_aload_n hx hb dL_law_198 rfl (lv_at hl 1 rfl) ?_
  refine lv_aload_n hx hb dL_law_199 rfl (lv_at hl 0 rfl) ?_
  refine lv_iload_n hx hb dL_law_200 rfl (lv_at hl 3 rfl) ?_
  refine lv_iconst (v := 1) hx hb dL_law_201 (by decide) ?_
  refine lv_iadd hx hb dL_law_202 ?_
  rw [show nI i + (1 : Int32) = nI (i + 1) from nI_add i 1]
  refine va_sld hx hb hX hbl hbA hS (i := nI (i + 1)) (vp_in_nI (by omega) (by omega)) dL_law_203 ?_
  rw [nI_clamp (show i + 1 < 2 ^ 31 by omega)]
  refine lv_aload_n hx hb dL_law_204 rfl (lv_at hl 0 rfl) ?_
  refine lv_iload_n hx hb dL_law_205 rfl (lv_at hl 3 rfl) ?_
  refine lv_iconst (v := 2) hx hb dL_law_206 (by decide) ?_
  refine lv_iadd hx hb dL_law_207 ?_
  rw [show nI i + (2 : Int32) = nI (i + 2) from nI_add i 2]
  refine va_sld hx hb hX hbl hbA hS (i := nI (i + 2)) (vp_in_nI (by omega) (by omega)) dL_law_208 ?_
  rw [nI_clamp (show i + 2 < 2 ^ 31 by omega)]
  refine lw_call (n := 2) (G := GC) (As := [.int (xs (i + 1)), .int (xs (i + 2))]) (st := []) C1 hC.2.2.2.1 kC xC lC sC (c_X5_victim hC F (xs (i + 1)) (xs (i + 2)) M) e1 (ltK hC) (ceK hC) rfl (lw_goodV tw_2_44 tw_2_45 tw_2_46 tw_1_1 tw_2_47) (by decide +kernel) ⟨rfl, rfl, by decide, by decide⟩ rfl rfl (Nat.le_of_ble_eq_true rfl) hl.1 (by decide) dL_law_209 hP1 hS (fun H locs hP1 hS hk => ?_)
  have hP2 := wG_kept hdis hP2 hk
  refine W.eq (g2 := F0 m 212 ls [.int r]) rfl ?_
  refine lv_aload_n hx hb dL_law_212 rfl (lv_at hl 2 rfl) ?_
  refine lv_aload_n hx hb dL_law_213 rfl (lv_at hl 0 rfl) ?_
  refine lv_iload_n hx hb dL_law_214 rfl (lv_at hl 3 rfl) ?_
  refine lv_iconst (v := 1) hx hb dL_law_215 (by decide) ?_
  refine lv_iadd hx hb dL_law_216 ?_
  rw [show nI i + (1 : Int32) = nI (i + 1) from nI_add i 1]
  refine va_sld hx hb hX hbl hbA hS (i := nI (i + 1)) (vp_in_nI (by omega) (by omega)) dL_law_217 ?_
  rw [nI_clamp (show i + 1 < 2 ^ 31 by omega)]
  refine lv_aload_n hx hb dL_law_218 rfl (lv_at hl 0 rfl) ?_
  refine lv_iload_n hx hb dL_law_219 rfl (lv_at hl 3 rfl) ?_
  refine lv_iconst (v := 2) hx hb dL_law_220 (by decide) ?_
  refine lv_iadd hx hb dL_law_221 ?_
  rw [show nI i + (2 : Int32) = nI (i + 2) from nI_add i 2]
  refine va_sld hx hb hX hbl hbA hS (i := nI (i + 2)) (vp_in_nI (by omega) (by omega)) dL_law_222 ?_
  rw [nI_clamp (show i + 2 < 2 ^ 31 by omega)]
  refine lw_call (n := 2) (G := GR) (As := [.int (xs (i + 1)), .int (xs (i + 2))]) (st := [.int r]) C1 hR.2.2.2 kR xR lR sR (c_X6_victim hR F (xs (i + 1)) (xs (i + 2)) N) e2 (ltR hR) (ceR hR) rfl (lw_goodV tw_3_188 tw_3_189 tw_3_190 tw_1_7 tw_3_191) (by decide +kernel) ⟨rfl, rfl, by decide, by decide⟩ rfl rfl (Nat.le_of_ble_eq_true rfl) hl.1 (by decide) dL_law_223 hP2 hS (fun H locs hP2 hS hk => ?_)
  have hP1 := wG_kept (fun q a z => hdis q z a) hP1 hk
  refine W.eq (g2 := F0 m 226 ls [.int r, .int r]) rfl ?_
  exact lv_icmp_eq (tgt := 719) hx hb dL_law_226 (by decide) (fun _ => kk _ _ _ _ hRel1 hP1 hP2 hS) (fun cz => absurd rfl cz)
set_option maxHeartbeats 4000000 in
set_option maxRecDepth 100000 in
theorem law_c5 (X : LwX p l s m meth c b L xs GC GR cy cr) (hF : 20000 ≤ F) (hB4 : B ≤ 400) (hi : i + 5 ≤ L) (hL : L ≤ 320) (hRel : Rel B M N) (hP1 : va_P (gD GC) vwCl (wG GC M) H) (hP2 : va_P (gD GR) vwCl (wG GR N) H) (hS : va_S (fun q : Nat => s.heap.size ≤ q) s.heap H locs) (hl : lv_has ls 4 [(0, .ref b), (1, .ref (gA GC 0)), (2, .ref (gA GR 0)), (3, .int (nI i))]) (kk : LwK p l e s m below meth c b GC GR B ls Q) : W p l e room_1 s m #[Value.ref b] below meth c H locs 50 369 Q (F0 m 231 ls []) := by
  obtain ⟨C0, hC, hR, ⟨lC, lR⟩, ⟨kC, kR⟩, ⟨xC, xR⟩, ⟨sC, sR⟩, hdis⟩ := X
  obtain ⟨hx, hb, hr, hml, hown, hts, hX, hbl, hlocks, hgv⟩ := C0
  have hbA : ¬ (fun q : Nat => s.heap.size ≤ q) b := Nat.not_le.mpr hbl
  have hF1 : 100 ≤ F := by omega
  have hB : B ≤ 1000 := by omega
  have C1 : CallFix p m c code 4 s #[Value.ref b] lw_tbl RL := ⟨hx, hb, hml, hown, hts⟩
  obtain ⟨r, M1, N1, e1, e2, hRel1⟩ := sp_convict (F := F)  (xs (i + 1)) (xs (i + 2)) (xs (i + 3)) (xs (i + 4)) M N hRel
  refine lv_aload_n hx hb dL_law_231 rfl (lv_at hl 1 rfl) ?_
  refine lv_aload_n hx hb dL_law_232 rfl (lv_at hl 0 rfl) ?_
  refine lv_iload_n hx hb dL_law_233 rfl (lv_at hl 3 rfl) ?_
  refine lv_iconst (v := 1) hx hb dL_law_234 (by decide) ?_
  refine lv_iadd hx hb dL_law_235 ?_
  rw [show nI i + (1 : Int32) = nI (i + 1) from nI_add i 1]
  refine va_sld hx hb hX hbl hbA hS (i := nI (i + 1)) (vp_in_nI (by omega) (by omega)) dL_law_236 ?_
  rw [nI_clamp (show i + 1 < 2 ^ 31 by omega)]
  refine lv_aload_n hx hb dL_law_237 rfl (lv_at hl 0 rfl) ?_
  refine lv_iload_n hx hb dL_law_238 rfl (lv_at hl 3 rfl) ?_
  refine lv_iconst (v := 2) hx hb dL_law_239 (by decide) ?_
  refine lv_iadd hx hb dL_law_240 ?_
  rw [show nI i + (2 : Int32) = nI (i + 2) from nI_add i 2]
  refine va_sld hx hb hX hbl hbA hS (i := nI (i + 2)) (vp_in_nI (by omega) (by omega)) dL_law_241 ?_
  rw [nI_clamp (show i + 2 < 2 ^ 31 by omega)]
  refine lv_aload_n hx hb dL_law_242 rfl (lv_at hl 0 rfl) ?_
  refine lv_iload_n hx hb dL_law_243 rfl (lv_at hl 3 rfl) ?_
  refine lv_iconst (v := 3) hx hb dL_law_244 (by decide) ?_
  refine lv_iadd hx hb dL_law_245 ?_
  rw [show nI i + (3 : Int32) = nI (i + 3) from nI_add i 3]
  refine va_sld hx hb hX hbl hbA hS (i := nI (i + 3)) (vp_in_nI (by omega) (by omega)) dL_law_246 ?_
  rw [nI_clamp (show i + 3 < 2 ^ 31 by omega)]
  refine lv_aload_n hx hb dL_law_247 rfl (lv_at hl 0 rfl) ?_
  refine lv_iload_n hx hb dL_law_248 rfl (lv_at hl 3 rfl) ?_
  refine lv_iconst (v := 4) hx hb dL_law_249 (by decide) ?_
  refine lv_iadd hx hb dL_law_250 ?_
  rw [show nI i + (4 : Int32) = nI (i + 4) from nI_add i 4]
  refine va_sld hx hb hX hbl hbA hS (i := nI (i + 4)) (vp_in_nI (by omega) (by omega)) dL_law_251 ?_
  rw [nI_clamp (show i + 4 < 2 ^ 31 by omega)]
  refine lw_call (n := 4) (G := GC) (As := [.int (xs (i + 1)), .int (xs (i + 2)), .int (xs (i + 3)), .int (xs (i + 4))]) (st := []) C1 hC.2.2.2.1 kC xC lC sC (c_X5_convict hC F (xs (i + 1)) (xs (i + 2)) (xs (i + 3)) (xs (i + 4)) M) e1 (ltK hC) (ceK hC) rfl (lw_goodV tw_2_60 tw_2_61 tw_2_62 tw_1_1 tw_2_63) (by decide +kernel) ⟨rfl, rfl, by decide, by decide⟩ rfl rfl (Nat.le_of_ble_eq_true rfl) hl.1 (by decide) dL_law_252 hP1 hS (fun H locs hP1 hS hk => ?_)
  have hP2 := wG_kept hdis hP2 hk
  refine W.eq (g2 := F0 m 255 ls [.int r]) rfl ?_
  refine lv_aload_n hx hb dL_law_255 rfl (lv_at hl 2 rfl) ?_
  refine lv_aload_n hx hb dL_law_256 rfl (lv_at hl 0 rfl) ?_
  refine lv_iload_n hx hb dL_law_257 rfl (lv_at hl 3 rfl) ?_
  refine lv_iconst (v := 1) hx hb dL_law_258 (by decide) ?_
  refine lv_iadd hx hb dL_law_259 ?_
  rw [show nI i + (1 : Int32) = nI (i + 1) from nI_add i 1]
  refine va_sld hx hb hX hbl hbA hS (i := nI (i + 1)) (vp_in_nI (by omega) (by omega)) dL_law_260 ?_
  rw [nI_clamp (show i + 1 < 2 ^ 31 by omega)]
  refine lv_aload_n hx hb dL_law_261 rfl (lv_at hl 0 rfl) ?_
  refine lv_iload_n hx hb dL_law_262 rfl (lv_at hl 3 rfl) ?_
  refine lv_iconst (v := 2) hx hb dL_law_263 (by decide) ?_
  refine lv_iadd hx hb dL_law_264 ?_
  rw [show nI i + (2 : Int32) = nI (i + 2) from nI_add i 2]
  refine va_sld hx hb hX hbl hbA hS (i := nI (i + 2)) (vp_in_nI (by omega) (by omega)) dL_law_265 ?_
  rw [nI_clamp (show i + 2 < 2 ^ 31 by omega)]
  refine lv_aload_n hx hb dL_law_266 rfl (lv_at hl 0 rfl) ?_
  refine lv_iload_n hx hb dL_law_267 rfl (lv_at hl 3 rfl) ?_
  refine lv_iconst (v := 3) hx hb dL_law_268 (by decide) ?_
  refine lv_iadd hx hb dL_law_269 ?_
  rw [show nI i + (3 : Int32) = nI (i + 3) from nI_add i 3]
  refine va_sld hx hb hX hbl hbA hS (i := nI (i + 3)) (vp_in_nI (by omega) (by omega)) dL_law_270 ?_
  rw [nI_clamp (show i + 3 < 2 ^ 31 by omega)]
  refine lv_aload_n hx hb dL_law_271 rfl (lv_at hl 0 rfl) ?_
  refine lv_iload_n hx hb dL_law_272 rfl (lv_at hl 3 rfl) ?_
  refine lv_iconst (v := 4) hx hb dL_law_273 (by decide) ?_
  refine lv_iadd hx hb dL_law_274 ?_
  rw [show nI i + (4 : Int32) = nI (i + 4) from nI_add i 4]
  refine va_sld hx hb hX hbl hbA hS (i := nI (i + 4)) (vp_in_nI (by omega) (by omega)) dL_law_275 ?_
  rw [nI_clamp (show i + 4 < 2 ^ 31 by omega)]
  refine lw_call (n := 4) (G := GR) (As := [.int (xs (i + 1)), .int (xs (i + 2)), .int (xs (i + 3)), .int (xs (i + 4))]) (st := [.int r]) C1 hR.2.2.2 kR xR lR sR (c_X6_convict hR F (xs (i + 1)) (xs (i + 2)) (xs (i + 3)) (xs (i + 4)) N) e2 (ltR hR) (ceR hR) rfl (lw_goodV tw_3_201 tw_3_202 tw_3_203 tw_1_7 tw_3_204) (by decide +kernel) ⟨rfl, rfl, by decide, by decide⟩ rfl rfl (Nat.le_of_ble_eq_true rfl) hl.1 (by decide) dL_law_276 hP2 hS (fun H locs hP2 hS hk => ?_)
  have hP1 := wG_kept (fun q a z => hdis q z a) hP1 hk
  refine W.eq (g2 := F0 m 279 ls [.int r, .int r]) rfl ?_
  exact lv_icmp_eq (tgt := 719) hx hb dL_law_279 (by decide) (fun _ => kk _ _ _ _ hRel1 hP1 hP2 hS) (fun cz => absurd rfl cz)
set_option maxHeartbeats 4000000 in
set_option maxRecDepth 100000 in
theorem law_c6 (X : LwX p l s m meth c b L xs GC GR cy cr) (hF : 20000 ≤ F) (hB4 : B ≤ 400) (hi : i + 5 ≤ L) (hL : L ≤ 320) (hRel : Rel B M N) (hP1 : va_P (gD GC) vwCl (wG GC M) H) (hP2 : va_P (gD GR) vwCl (wG GR N) H) (hS : va_S (fun q : Nat => s.heap.size ≤ q) s.heap H locs) (hl : lv_has ls 4 [(0, .ref b), (1, .ref (gA GC 0)), (2, .ref (gA GR 0)), (3, .int (nI i))]) (kk : LwK p l e s m below meth c b GC GR B ls Q) : W p l e room_1 s m #[Value.ref b] below meth c H locs 50 369 Q (F0 m 284 ls []) := by
  obtain ⟨C0, hC, hR, ⟨lC, lR⟩, ⟨kC, kR⟩, ⟨xC, xR⟩, ⟨sC, sR⟩, hdis⟩ := X
  obtain ⟨hx, hb, hr, hml, hown, hts, hX, hbl, hlocks, hgv⟩ := C0
  have hbA : ¬ (fun q : Nat => s.heap.size ≤ q) b := Nat.not_le.mpr hbl
  have hF1 : 100 ≤ F := by omega
  have hB : B ≤ 1000 := by omega
  have C1 : CallFix p m c code 4 s #[Value.ref b] lw_tbl RL := ⟨hx, hb, hml, hown, hts⟩
  obtain ⟨r, M1, N1, e1, e2, hRel1⟩ := sp_about (F := F) hF1 hB (xs (i + 1)) (xs (i + 2)) M N hRel
  refine lv_aload_n hx hb dL_law_284 rfl (lv_at hl 1 rfl) ?_
  refine lv_aload_n hx hb dL_law_285 rfl (lv_at hl 0 rfl) ?_
  refine lv_iload_n hx hb dL_law_286 rfl (lv_at hl 3 rfl) ?_
  refine lv_iconst (v := 1) hx hb dL_law_287 (by decide) ?_
  refine lv_iadd hx hb dL_law_288 ?_
  rw [show nI i + (1 : Int32) = nI (i + 1) from nI_add i 1]
  refine va_sld hx hb hX hbl hbA hS (i := nI (i + 1)) (vp_in_nI (by omega) (by omega)) dL_law_289 ?_
  rw [nI_clamp (show i + 1 < 2 ^ 31 by omega)]
  refine lv_aload_n hx hb dL_law_290 rfl (lv_at hl 0 rfl) ?_
  refine lv_iload_n hx hb dL_law_291 rfl (lv_at hl 3 rfl) ?_
  refine lv_iconst (v := 2) hx hb dL_law_292 (by decide) ?_
  refine lv_iadd hx hb dL_law_293 ?_
  rw [show nI i + (2 : Int32) = nI (i + 2) from nI_add i 2]
  refine va_sld hx hb hX hbl hbA hS (i := nI (i + 2)) (vp_in_nI (by omega) (by omega)) dL_law_294 ?_
  rw [nI_clamp (show i + 2 < 2 ^ 31 by omega)]
  refine lw_call (n := 2) (G := GC) (As := [.int (xs (i + 1)), .int (xs (i + 2))]) (st := []) C1 hC.2.2.2.1 kC xC lC sC (c_X5_about hC F (xs (i + 1)) (xs (i + 2)) M) e1 (ltK hC) (ceK hC) rfl (lw_goodV tw_2_75 tw_2_76 tw_2_77 tw_1_1 tw_2_78) (by decide +kernel) ⟨rfl, rfl, by decide, by decide⟩ rfl rfl (Nat.le_of_ble_eq_true rfl) hl.1 (by decide) dL_law_295 hP1 hS (fun H locs hP1 hS hk => ?_)
  have hP2 := wG_kept hdis hP2 hk
  refine W.eq (g2 := F0 m 298 ls [.int r]) rfl ?_
  refine lv_aload_n hx hb dL_law_298 rfl (lv_at hl 2 rfl) ?_
  refine lv_aload_n hx hb dL_law_299 rfl (lv_at hl 0 rfl) ?_
  refine lv_iload_n hx hb dL_law_300 rfl (lv_at hl 3 rfl) ?_
  refine lv_iconst (v := 1) hx hb dL_law_301 (by decide) ?_
  refine lv_iadd hx hb dL_law_302 ?_
  rw [show nI i + (1 : Int32) = nI (i + 1) from nI_add i 1]
  refine va_sld hx hb hX hbl hbA hS (i := nI (i + 1)) (vp_in_nI (by omega) (by omega)) dL_law_303 ?_
  rw [nI_clamp (show i + 1 < 2 ^ 31 by omega)]
  refine lv_aload_n hx hb dL_law_304 rfl (lv_at hl 0 rfl) ?_
  refine lv_iload_n hx hb dL_law_305 rfl (lv_at hl 3 rfl) ?_
  refine lv_iconst (v := 2) hx hb dL_law_306 (by decide) ?_
  refine lv_iadd hx hb dL_law_307 ?_
  rw [show nI i + (2 : Int32) = nI (i + 2) from nI_add i 2]
  refine va_sld hx hb hX hbl hbA hS (i := nI (i + 2)) (vp_in_nI (by omega) (by omega)) dL_law_308 ?_
  rw [nI_clamp (show i + 2 < 2 ^ 31 by omega)]
  refine lw_call (n := 2) (G := GR) (As := [.int (xs (i + 1)), .int (xs (i + 2))]) (st := [.int r]) C1 hR.2.2.2 kR xR lR sR (c_X6_about hR F (xs (i + 1)) (xs (i + 2)) N) e2 (ltR hR) (ceR hR) rfl (lw_goodV tw_3_210 tw_3_211 tw_3_212 tw_1_7 tw_3_213) (by decide +kernel) ⟨rfl, rfl, by decide, by decide⟩ rfl rfl (Nat.le_of_ble_eq_true rfl) hl.1 (by decide) dL_law_309 hP2 hS (fun H locs hP2 hS hk => ?_)
  have hP1 := wG_kept (fun q a z => hdis q z a) hP1 hk
  refine W.eq (g2 := F0 m 312 ls [.int r, .int r]) rfl ?_
  exact lv_icmp_eq (tgt := 719) hx hb dL_law_312 (by decide) (fun _ => kk _ _ _ _ hRel1 hP1 hP2 hS) (fun cz => absurd rfl cz)
set_option maxHeartbeats 4000000 in
set_option maxRecDepth 100000 in
theorem law_c7 (X : LwX p l s m meth c b L xs GC GR cy cr) (hF : 20000 ≤ F) (hB4 : B ≤ 400) (hi : i + 5 ≤ L) (hL : L ≤ 320) (hRel : Rel B M N) (hP1 : va_P (gD GC) vwCl (wG GC M) H) (hP2 : va_P (gD GR) vwCl (wG GR N) H) (hS : va_S (fun q : Nat => s.heap.size ≤ q) s.heap H locs) (hl : lv_has ls 4 [(0, .ref b), (1, .ref (gA GC 0)), (2, .ref (gA GR 0)), (3, .int (nI i))]) (kk : LwK p l e s m below meth c b GC GR B ls Q) : W p l e room_1 s m #[Value.ref b] below meth c H locs 50 369 Q (F0 m 317 ls []) := by
  obtain ⟨C0, hC, hR, ⟨lC, lR⟩, ⟨kC, kR⟩, ⟨xC, xR⟩, ⟨sC, sR⟩, hdis⟩ := X
  obtain ⟨hx, hb, hr, hml, hown, hts, hX, hbl, hlocks, hgv⟩ := C0
  have hbA : ¬ (fun q : Nat => s.heap.size ≤ q) b := Nat.not_le.mpr hbl
  have hF1 : 100 ≤ F := by omega
  have hB : B ≤ 1000 := by omega
  have C1 : CallFix p m c code 4 s #[Value.ref b] lw_tbl RL := ⟨hx, hb, hml, hown, hts⟩
  obtain ⟨r, M1, N1, e1, e2, hRel1⟩ := sp_as (F := F)  (xs (i + 1)) (xs (i + 2)) M N hRel
  refine lv_aload_n hx hb dL_law_317 rfl (lv_at hl 1 rfl) ?_
  refine lv_aload_n hx hb dL_law_318 rfl (lv_at hl 0 rfl) ?_
  refine lv_iload_n hx hb dL_law_319 rfl (lv_at hl 3 rfl) ?_
  refine lv_iconst (v := 1) hx hb dL_law_320 (by decide) ?_
  refine lv_iadd hx hb dL_law_321 ?_
  rw [show nI i + (1 : Int32) = nI (i + 1) from nI_add i 1]
  refine va_sld hx hb hX hbl hbA hS (i := nI (i + 1)) (vp_in_nI (by omega) (by omega)) dL_law_322 ?_
  rw [nI_clamp (show i + 1 < 2 ^ 31 by omega)]
  refine lv_aload_n hx hb dL_law_323 rfl (lv_at hl 0 rfl) ?_
  refine lv_iload_n hx hb dL_law_324 rfl (lv_at hl 3 rfl) ?_
  refine lv_iconst (v := 2) hx hb dL_law_325 (by decide) ?_
  refine lv_iadd hx hb dL_law_326 ?_
  rw [show nI i + (2 : Int32) = nI (i + 2) from nI_add i 2]
  refine va_sld hx hb hX hbl hbA hS (i := nI (i + 2)) (vp_in_nI (by omega) (by omega)) dL_law_327 ?_
  rw [nI_clamp (show i + 2 < 2 ^ 31 by omega)]
  refine lw_call (n := 2) (G := GC) (As := [.int (xs (i + 1)), .int (xs (i + 2))]) (st := []) C1 hC.2.2.2.1 kC xC lC sC (c_X5_as hC F (xs (i + 1)) (xs (i + 2)) M) e1 (ltK hC) (ceK hC) rfl (lw_goodV tw_2_110 tw_2_111 tw_2_112 tw_1_1 tw_2_113) (by decide +kernel) ⟨rfl, rfl, by decide, by decide⟩ rfl rfl (Nat.le_of_ble_eq_true rfl) hl.1 (by decide) dL_law_328 hP1 hS (fun H locs hP1 hS hk => ?_)
  have hP2 := wG_kept hdis hP2 hk
  refine W.eq (g2 := F0 m 331 ls [.int r]) rfl ?_
  refine lv_aload_n hx hb dL_law_331 rfl (lv_at hl 2 rfl) ?_
  refine lv_aload_n hx hb dL_law_332 rfl (lv_at hl 0 rfl) ?_
  refine lv_iload_n hx hb dL_law_333 rfl (lv_at hl 3 rfl) ?_
  refine lv_iconst (v := 1) hx hb dL_law_334 (by decide) ?_
  refine lv_iadd hx hb dL_law_335 ?_
  rw [show nI i + (1 : Int32) = nI (i + 1) from nI_add i 1]
  refine va_sld hx hb hX hbl hbA hS (i := nI (i + 1)) (vp_in_nI (by omega) (by omega)) dL_law_336 ?_
  rw [nI_clamp (show i + 1 < 2 ^ 31 by omega)]
  refine lv_aload_n hx hb dL_law_337 rfl (lv_at hl 0 rfl) ?_
  refine lv_iload_n hx hb dL_law_338 rfl (lv_at hl 3 rfl) ?_
  refine lv_iconst (v := 2) hx hb dL_law_339 (by decide) ?_
  refine lv_iadd hx hb dL_law_340 ?_
  rw [show nI i + (2 : Int32) = nI (i + 2) from nI_add i 2]
  refine va_sld hx hb hX hbl hbA hS (i := nI (i + 2)) (vp_in_nI (by omega) (by omega)) dL_law_341 ?_
  rw [nI_clamp (show i + 2 < 2 ^ 31 by omega)]
  refine lw_call (n := 2) (G := GR) (As := [.int (xs (i + 1)), .int (xs (i + 2))]) (st := [.int r]) C1 hR.2.2.2 kR xR lR sR (c_X6_as hR F (xs (i + 1)) (xs (i + 2)) N) e2 (ltR hR) (ceR hR) rfl (lw_goodV tw_3_238 tw_3_239 tw_4_0 tw_1_7 tw_4_1) (by decide +kernel) ⟨rfl, rfl, by decide, by decide⟩ rfl rfl (Nat.le_of_ble_eq_true rfl) hl.1 (by decide) dL_law_342 hP2 hS (fun H locs hP2 hS hk => ?_)
  have hP1 := wG_kept (fun q a z => hdis q z a) hP1 hk
  refine W.eq (g2 := F0 m 345 ls [.int r, .int r]) rfl ?_
  exact lv_icmp_eq (tgt := 719) hx hb dL_law_345 (by decide) (fun _ => kk _ _ _ _ hRel1 hP1 hP2 hS) (fun cz => absurd rfl cz)
set_option maxHeartbeats 4000000 in
set_option maxRecDepth 100000 in
theorem law_c8 (X : LwX p l s m meth c b L xs GC GR cy cr) (hF : 20000 ≤ F) (hB4 : B ≤ 400) (hi : i + 5 ≤ L) (hL : L ≤ 320) (hRel : Rel B M N) (hP1 : va_P (gD GC) vwCl (wG GC M) H) (hP2 : va_P (gD GR) vwCl (wG GR N) H) (hS : va_S (fun q : Nat => s.heap.size ≤ q) s.heap H locs) (hl : lv_has ls 4 [(0, .ref b), (1, .ref (gA GC 0)), (2, .ref (gA GR 0)), (3, .int (nI i))]) (kk : LwK p l e s m below meth c b GC GR B ls Q) : W p l e room_1 s m #[Value.ref b] below meth c H locs 50 369 Q (F0 m 350 ls []) := by
  obtain ⟨C0, hC, hR, ⟨lC, lR⟩, ⟨kC, kR⟩, ⟨xC, xR⟩, ⟨sC, sR⟩, hdis⟩ := X
  obtain ⟨hx, hb, hr, hml, hown, hts, hX, hbl, hlocks, hgv⟩ := C0
  have hbA : ¬ (fun q : Nat => s.heap.size ≤ q) b := Nat.not_le.mpr hbl
  have hF1 : 100 ≤ F := by omega
  have hB : B ≤ 1000 := by omega
  have C1 : CallFix p m c code 4 s #[Value.ref b] lw_tbl RL := ⟨hx, hb, hml, hown, hts⟩
  obtain ⟨r, M1, N1, e1, e2, hRel1⟩ := sp_say (F := F) hB (xs (i + 1)) (xs (i + 2)) M N hRel
  refine lv_aload_n hx hb dL_law_350 rfl (lv_at hl 1 rfl) ?_
  refine lv_aload_n hx hb dL_law_351 rfl (lv_at hl 0 rfl) ?_
  refine lv_iload_n hx hb dL_law_352 rfl (lv_at hl 3 rfl) ?_
  refine lv_iconst (v := 1) hx hb dL_law_353 (by decide) ?_
  refine lv_iadd hx hb dL_law_354 ?_
  rw [show nI i + (1 : Int32) = nI (i + 1) from nI_add i 1]
  refine va_sld hx hb hX hbl hbA hS (i := nI (i + 1)) (vp_in_nI (by omega) (by omega)) dL_law_355 ?_
  rw [nI_clamp (show i + 1 < 2 ^ 31 by omega)]
  refine lv_aload_n hx hb dL_law_356 rfl (lv_at hl 0 rfl) ?_
  refine lv_iload_n hx hb dL_law_357 rfl (lv_at hl 3 rfl) ?_
  refine lv_iconst (v := 2) hx hb dL_law_358 (by decide) ?_
  refine lv_iadd hx hb dL_law_359 ?_
  rw [show nI i + (2 : Int32) = nI (i + 2) from nI_add i 2]
  refine va_sld hx hb hX hbl hbA hS (i := nI (i + 2)) (vp_in_nI (by omega) (by omega)) dL_law_360 ?_
  rw [nI_clamp (show i + 2 < 2 ^ 31 by omega)]
  refine lw_call (n := 2) (G := GC) (As := [.int (xs (i + 1)), .int (xs (i + 2))]) (st := []) C1 hC.2.2.2.1 kC xC lC sC (c_X5_say hC F (xs (i + 1)) (xs (i + 2)) M) e1 (ltK hC) (ceK hC) rfl (lw_goodV tw_2_118 tw_2_119 tw_2_120 tw_1_1 tw_2_121) (by decide +kernel) ⟨rfl, rfl, by decide, by decide⟩ rfl rfl (Nat.le_of_ble_eq_true rfl) hl.1 (by decide) dL_law_361 hP1 hS (fun H locs hP1 hS hk => ?_)
  have hP2 := wG_kept hdis hP2 hk
  refine W.eq (g2 := F0 m 364 ls [.int r]) rfl ?_
  refine lv_aload_n hx hb dL_law_364 rfl (lv_at hl 2 rfl) ?_
  refine lv_aload_n hx hb dL_law_365 rfl (lv_at hl 0 rfl) ?_
  refine lv_iload_n hx hb dL_law_366 rfl (lv_at hl 3 rfl) ?_
  refine lv_iconst (v := 1) hx hb dL_law_367 (by decide) ?_
  refine lv_iadd hx hb dL_law_368 ?_
  rw [show nI i + (1 : Int32) = nI (i + 1) from nI_add i 1]
  refine va_sld hx hb hX hbl hbA hS (i := nI (i + 1)) (vp_in_nI (by omega) (by omega)) dL_law_369 ?_
  rw [nI_clamp (show i + 1 < 2 ^ 31 by omega)]
  refine lv_aload_n hx hb dL_law_370 rfl (lv_at hl 0 rfl) ?_
  refine lv_iload_n hx hb dL_law_371 rfl (lv_at hl 3 rfl) ?_
  refine lv_iconst (v := 2) hx hb dL_law_372 (by decide) ?_
  refine lv_iadd hx hb dL_law_373 ?_
  rw [show nI i + (2 : Int32) = nI (i + 2) from nI_add i 2]
  refine va_sld hx hb hX hbl hbA hS (i := nI (i + 2)) (vp_in_nI (by omega) (by omega)) dL_law_374 ?_
  rw [nI_clamp (show i + 2 < 2 ^ 31 by omega)]
  refine lw_call (n := 2) (G := GR) (As := [.int (xs (i + 1)), .int (xs (i + 2))]) (st := [.int r]) C1 hR.2.2.2 kR xR lR sR (c_X6_say hR F (xs (i + 1)) (xs (i + 2)) N) e2 (ltR hR) (ceR hR) rfl (lw_goodV tw_4_2 tw_4_3 tw_4_4 tw_1_7 tw_4_5) (by decide +kernel) ⟨rfl, rfl, by decide, by decide⟩ rfl rfl (Nat.le_of_ble_eq_true rfl) hl.1 (by decide) dL_law_375 hP2 hS (fun H locs hP2 hS hk => ?_)
  have hP1 := wG_kept (fun q a z => hdis q z a) hP1 hk
  refine W.eq (g2 := F0 m 378 ls [.int r, .int r]) rfl ?_
  exact lv_icmp_eq (tgt := 719) hx hb dL_law_378 (by decide) (fun _ => kk _ _ _ _ hRel1 hP1 hP2 hS) (fun cz => absurd rfl cz)
set_option maxHeartbeats 4000000 in
set_option maxRecDepth 100000 in
theorem law_c9 (X : LwX p l s m meth c b L xs GC GR cy cr) (hF : 20000 ≤ F) (hB4 : B ≤ 400) (hi : i + 5 ≤ L) (hL : L ≤ 320) (hRel : Rel B M N) (hP1 : va_P (gD GC) vwCl (wG GC M) H) (hP2 : va_P (gD GR) vwCl (wG GR N) H) (hS : va_S (fun q : Nat => s.heap.size ≤ q) s.heap H locs) (hl : lv_has ls 4 [(0, .ref b), (1, .ref (gA GC 0)), (2, .ref (gA GR 0)), (3, .int (nI i))]) (kk : LwK p l e s m below meth c b GC GR B ls Q) : W p l e room_1 s m #[Value.ref b] below meth c H locs 50 369 Q (F0 m 383 ls []) := by
  obtain ⟨C0, hC, hR, ⟨lC, lR⟩, ⟨kC, kR⟩, ⟨xC, xR⟩, ⟨sC, sR⟩, hdis⟩ := X
  obtain ⟨hx, hb, hr, hml, hown, hts, hX, hbl, hlocks, hgv⟩ := C0
  have hbA : ¬ (fun q : Nat => s.heap.size ≤ q) b := Nat.not_le.mpr hbl
  have hF1 : 100 ≤ F := by omega
  have hB : B ≤ 1000 := by omega
  have C1 : CallFix p m c code 4 s #[Value.ref b] lw_tbl RL := ⟨hx, hb, hml, hown, hts⟩
  obtain ⟨r, M1, N1, e1, e2, hRel1⟩ := sp_learn (F := F) hB (xs (i + 1)) (xs (i + 2)) M N hRel
  refine lv_aload_n hx hb dL_law_383 rfl (lv_at hl 1 rfl) ?_
  refine lv_aload_n hx hb dL_law_384 rfl (lv_at hl 0 rfl) ?_
  refine lv_iload_n hx hb dL_law_385 rfl (lv_at hl 3 rfl) ?_
  refine lv_iconst (v := 1) hx hb dL_law_386 (by decide) ?_
  refine lv_iadd hx hb dL_law_387 ?_
  rw [show nI i + (1 : Int32) = nI (i + 1) from nI_add i 1]
  refine va_sld hx hb hX hbl hbA hS (i := nI (i + 1)) (vp_in_nI (by omega) (by omega)) dL_law_388 ?_
  rw [nI_clamp (show i + 1 < 2 ^ 31 by omega)]
  refine lv_aload_n hx hb dL_law_389 rfl (lv_at hl 0 rfl) ?_
  refine lv_iload_n hx hb dL_law_390 rfl (lv_at hl 3 rfl) ?_
  refine lv_iconst (v := 2) hx hb dL_law_391 (by decide) ?_
  refine lv_iadd hx hb dL_law_392 ?_
  rw [show nI i + (2 : Int32) = nI (i + 2) from nI_add i 2]
  refine va_sld hx hb hX hbl hbA hS (i := nI (i + 2)) (vp_in_nI (by omega) (by omega)) dL_law_393 ?_
  rw [nI_clamp (show i + 2 < 2 ^ 31 by omega)]
  refine lw_call (n := 2) (G := GC) (As := [.int (xs (i + 1)), .int (xs (i + 2))]) (st := []) C1 hC.2.2.2.1 kC xC lC sC (c_X5_learn hC F (xs (i + 1)) (xs (i + 2)) M) e1 (ltK hC) (ceK hC) rfl (lw_goodV tw_2_138 tw_2_139 tw_2_140 tw_1_1 tw_2_141) (by decide +kernel) ⟨rfl, rfl, by decide, by decide⟩ rfl rfl (Nat.le_of_ble_eq_true rfl) hl.1 (by decide) dL_law_394 hP1 hS (fun H locs hP1 hS hk => ?_)
  have hP2 := wG_kept hdis hP2 hk
  refine W.eq (g2 := F0 m 397 ls [.int r]) rfl ?_
  refine lv_aload_n hx hb dL_law_397 rfl (lv_at hl 2 rfl) ?_
  refine lv_aload_n hx hb dL_law_398 rfl (lv_at hl 0 rfl) ?_
  refine lv_iload_n hx hb dL_law_399 rfl (lv_at hl 3 rfl) ?_
  refine lv_iconst (v := 1) hx hb dL_law_400 (by decide) ?_
  refine lv_iadd hx hb dL_law_401 ?_
  rw [show nI i + (1 : Int32) = nI (i + 1) from nI_add i 1]
  refine va_sld hx hb hX hbl hbA hS (i := nI (i + 1)) (vp_in_nI (by omega) (by omega)) dL_law_402 ?_
  rw [nI_clamp (show i + 1 < 2 ^ 31 by omega)]
  refine lv_aload_n hx hb dL_law_403 rfl (lv_at hl 0 rfl) ?_
  refine lv_iload_n hx hb dL_law_404 rfl (lv_at hl 3 rfl) ?_
  refine lv_iconst (v := 2) hx hb dL_law_405 (by decide) ?_
  refine lv_iadd hx hb dL_law_406 ?_
  rw [show nI i + (2 : Int32) = nI (i + 2) from nI_add i 2]
  refine va_sld hx hb hX hbl hbA hS (i := nI (i + 2)) (vp_in_nI (by omega) (by omega)) dL_law_407 ?_
  rw [nI_clamp (show i + 2 < 2 ^ 31 by omega)]
  refine lw_call (n := 2) (G := GR) (As := [.int (xs (i + 1)), .int (xs (i + 2))]) (st := [.int r]) C1 hR.2.2.2 kR xR lR sR (c_X6_learn hR F (xs (i + 1)) (xs (i + 2)) N) e2 (ltR hR) (ceR hR) rfl (lw_goodV tw_4_18 tw_4_19 tw_4_20 tw_1_7 tw_4_21) (by decide +kernel) ⟨rfl, rfl, by decide, by decide⟩ rfl rfl (Nat.le_of_ble_eq_true rfl) hl.1 (by decide) dL_law_408 hP2 hS (fun H locs hP2 hS hk => ?_)
  have hP1 := wG_kept (fun q a z => hdis q z a) hP1 hk
  refine W.eq (g2 := F0 m 411 ls [.int r, .int r]) rfl ?_
  exact lv_icmp_eq (tgt := 719) hx hb dL_law_411 (by decide) (fun _ => kk _ _ _ _ hRel1 hP1 hP2 hS) (fun cz => absurd rfl cz)
set_option maxHeartbeats 4000000 in
set_option maxRecDepth 100000 in
theorem law_c10 (X : LwX p l s m meth c b L xs GC GR cy cr) (hF : 20000 ≤ F) (hB4 : B ≤ 400) (hi : i + 5 ≤ L) (hL : L ≤ 320) (hRel : Rel B M N) (hP1 : va_P (gD GC) vwCl (wG GC M) H) (hP2 : va_P (gD GR) vwCl (wG GR N) H) (hS : va_S (fun q : Nat => s.heap.size ≤ q) s.heap H locs) (hl : lv_has ls 4 [(0, .ref b), (1, .ref (gA GC 0)), (2, .ref (gA GR 0)), (3, .int (nI i))]) (kk : LwK p l e s m below meth c b GC GR B ls Q) : W p l e room_1 s m #[Value.ref b] below meth c H locs 50 369 Q (F0 m 416 ls []) := by
  obtain ⟨C0, hC, hR, ⟨lC, lR⟩, ⟨kC, kR⟩, ⟨xC, xR⟩, ⟨sC, sR⟩, hdis⟩ := X
  obtain ⟨hx, hb, hr, hml, hown, hts, hX, hbl, hlocks, hgv⟩ := C0
  have hbA : ¬ (fun q : Nat => s.heap.size ≤ q) b := Nat.not_le.mpr hbl
  have hF1 : 100 ≤ F := by omega
  have hB : B ≤ 1000 := by omega
  have C1 : CallFix p m c code 4 s #[Value.ref b] lw_tbl RL := ⟨hx, hb, hml, hown, hts⟩
  obtain ⟨r, M1, N1, e1, e2, hRel1⟩ := sp_night (F := F) hF1  M N hRel
  refine lv_aload_n hx hb dL_law_416 rfl (lv_at hl 1 rfl) ?_
  refine lw_call (n := 0) (G := GC) (As := []) (st := []) C1 hC.2.2.2.1 kC xC lC sC (c_X5_night hC F  M) e1 (ltK hC) (ceK hC) rfl (lw_goodV tw_2_142 tw_2_143 tw_2_144 tw_1_1 tw_2_145) (by decide +kernel) ⟨rfl, rfl, by decide, by decide⟩ rfl rfl (Nat.le_of_ble_eq_true rfl) hl.1 (by decide) dL_law_417 hP1 hS (fun H locs hP1 hS hk => ?_)
  have hP2 := wG_kept hdis hP2 hk
  refine W.eq (g2 := F0 m 420 ls [.int r]) rfl ?_
  refine lv_aload_n hx hb dL_law_420 rfl (lv_at hl 2 rfl) ?_
  refine lw_call (n := 0) (G := GR) (As := []) (st := [.int r]) C1 hR.2.2.2 kR xR lR sR (c_X6_night hR F  N) e2 (ltR hR) (ceR hR) rfl (lw_goodV tw_4_22 tw_4_23 tw_4_24 tw_1_7 tw_4_25) (by decide +kernel) ⟨rfl, rfl, by decide, by decide⟩ rfl rfl (Nat.le_of_ble_eq_true rfl) hl.1 (by decide) dL_law_421 hP2 hS (fun H locs hP2 hS hk => ?_)
  have hP1 := wG_kept (fun q a z => hdis q z a) hP1 hk
  refine W.eq (g2 := F0 m 424 ls [.int r, .int r]) rfl ?_
  exact lv_icmp_eq (tgt := 719) hx hb dL_law_424 (by decide) (fun _ => kk _ _ _ _ hRel1 hP1 hP2 hS) (fun cz => absurd rfl cz)
set_option maxHeartbeats 4000000 in
set_option maxRecDepth 100000 in
theorem law_c11 (X : LwX p l s m meth c b L xs GC GR cy cr) (hF : 20000 ≤ F) (hB4 : B ≤ 400) (hi : i + 5 ≤ L) (hL : L ≤ 320) (hRel : Rel B M N) (hP1 : va_P (gD GC) vwCl (wG GC M) H) (hP2 : va_P (gD GR) vwCl (wG GR N) H) (hS : va_S (fun q : Nat => s.heap.size ≤ q) s.heap H locs) (hl : lv_has ls 4 [(0, .ref b), (1, .ref (gA GC 0)), (2, .ref (gA GR 0)), (3, .int (nI i))]) (kk : LwK p l e s m below meth c b GC GR B ls Q) : W p l e room_1 s m #[Value.ref b] below meth c H locs 50 369 Q (F0 m 429 ls []) := by
  obtain ⟨C0, hC, hR, ⟨lC, lR⟩, ⟨kC, kR⟩, ⟨xC, xR⟩, ⟨sC, sR⟩, hdis⟩ := X
  obtain ⟨hx, hb, hr, hml, hown, hts, hX, hbl, hlocks, hgv⟩ := C0
  have hbA : ¬ (fun q : Nat => s.heap.size ≤ q) b := Nat.not_le.mpr hbl
  have hF1 : 100 ≤ F := by omega
  have hB : B ≤ 1000 := by omega
  have C1 : CallFix p m c code 4 s #[Value.ref b] lw_tbl RL := ⟨hx, hb, hml, hown, hts⟩
  obtain ⟨r, M1, N1, e1, e2, hRel1⟩ := sp_most (F := F) hF hB (xs (i + 1)) M N hRel
  refine lv_aload_n hx hb dL_law_429 rfl (lv_at hl 1 rfl) ?_
  refine lv_aload_n hx hb dL_law_430 rfl (lv_at hl 0 rfl) ?_
  refine lv_iload_n hx hb dL_law_431 rfl (lv_at hl 3 rfl) ?_
  refine lv_iconst (v := 1) hx hb dL_law_432 (by decide) ?_
  refine lv_iadd hx hb dL_law_433 ?_
  rw [show nI i + (1 : Int32) = nI (i + 1) from nI_add i 1]
  refine va_sld hx hb hX hbl hbA hS (i := nI (i + 1)) (vp_in_nI (by omega) (by omega)) dL_law_434 ?_
  rw [nI_clamp (show i + 1 < 2 ^ 31 by omega)]
  refine lw_call (n := 1) (G := GC) (As := [.int (xs (i + 1))]) (st := []) C1 hC.2.2.2.1 kC xC lC sC (c_X5_most hC F (xs (i + 1)) M) e1 (ltK hC) (ceK hC) rfl (lw_goodV tw_2_150 tw_2_151 tw_2_152 tw_1_1 tw_2_153) (by decide +kernel) ⟨rfl, rfl, by decide, by decide⟩ rfl rfl (Nat.le_of_ble_eq_true rfl) hl.1 (by decide) dL_law_435 hP1 hS (fun H locs hP1 hS hk => ?_)
  have hP2 := wG_kept hdis hP2 hk
  refine W.eq (g2 := F0 m 438 ls [.int r]) rfl ?_
  refine lv_aload_n hx hb dL_law_438 rfl (lv_at hl 2 rfl) ?_
  refine lv_aload_n hx hb dL_law_439 rfl (lv_at hl 0 rfl) ?_
  refine lv_iload_n hx hb dL_law_440 rfl (lv_at hl 3 rfl) ?_
  refine lv_iconst (v := 1) hx hb dL_law_441 (by decide) ?_
  refine lv_iadd hx hb dL_law_442 ?_
  rw [show nI i + (1 : Int32) = nI (i + 1) from nI_add i 1]
  refine va_sld hx hb hX hbl hbA hS (i := nI (i + 1)) (vp_in_nI (by omega) (by omega)) dL_law_443 ?_
  rw [nI_clamp (show i + 1 < 2 ^ 31 by omega)]
  refine lw_call (n := 1) (G := GR) (As := [.int (xs (i + 1))]) (st := [.int r]) C1 hR.2.2.2 kR xR lR sR (c_X6_most hR F (xs (i + 1)) N) e2 (ltR hR) (ceR hR) rfl (lw_goodV tw_4_30 tw_4_31 tw_4_32 tw_1_7 tw_4_33) (by decide +kernel) ⟨rfl, rfl, by decide, by decide⟩ rfl rfl (Nat.le_of_ble_eq_true rfl) hl.1 (by decide) dL_law_444 hP2 hS (fun H locs hP2 hS hk => ?_)
  have hP1 := wG_kept (fun q a z => hdis q z a) hP1 hk
  refine W.eq (g2 := F0 m 447 ls [.int r, .int r]) rfl ?_
  exact lv_icmp_eq (tgt := 719) hx hb dL_law_447 (by decide) (fun _ => kk _ _ _ _ hRel1 hP1 hP2 hS) (fun cz => absurd rfl cz)
set_option maxHeartbeats 4000000 in
set_option maxRecDepth 100000 in
theorem law_c12 (X : LwX p l s m meth c b L xs GC GR cy cr) (hF : 20000 ≤ F) (hB4 : B ≤ 400) (hi : i + 5 ≤ L) (hL : L ≤ 320) (hRel : Rel B M N) (hP1 : va_P (gD GC) vwCl (wG GC M) H) (hP2 : va_P (gD GR) vwCl (wG GR N) H) (hS : va_S (fun q : Nat => s.heap.size ≤ q) s.heap H locs) (hl : lv_has ls 4 [(0, .ref b), (1, .ref (gA GC 0)), (2, .ref (gA GR 0)), (3, .int (nI i))]) (kk : LwK p l e s m below meth c b GC GR B ls Q) : W p l e room_1 s m #[Value.ref b] below meth c H locs 50 369 Q (F0 m 452 ls []) := by
  obtain ⟨C0, hC, hR, ⟨lC, lR⟩, ⟨kC, kR⟩, ⟨xC, xR⟩, ⟨sC, sR⟩, hdis⟩ := X
  obtain ⟨hx, hb, hr, hml, hown, hts, hX, hbl, hlocks, hgv⟩ := C0
  have hbA : ¬ (fun q : Nat => s.heap.size ≤ q) b := Nat.not_le.mpr hbl
  have hF1 : 100 ≤ F := by omega
  have hB : B ≤ 1000 := by omega
  have C1 : CallFix p m c code 4 s #[Value.ref b] lw_tbl RL := ⟨hx, hb, hml, hown, hts⟩
  obtain ⟨r, M1, N1, e1, e2, hRel1⟩ := sp_who (F := F) hF hB (xs (i + 1)) (xs (i + 2)) M N hRel
  refine lv_aload_n hx hb dL_law_452 rfl (lv_at hl 1 rfl) ?_
  refine lv_aload_n hx hb dL_law_453 rfl (lv_at hl 0 rfl) ?_
  refine lv_iload_n hx hb dL_law_454 rfl (lv_at hl 3 rfl) ?_
  refine lv_iconst (v := 1) hx hb dL_law_455 (by decide) ?_
  refine lv_iadd hx hb dL_law_456 ?_
  rw [show nI i + (1 : Int32) = nI (i + 1) from nI_add i 1]
  refine va_sld hx hb hX hbl hbA hS (i := nI (i + 1)) (vp_in_nI (by omega) (by omega)) dL_law_457 ?_
  rw [nI_clamp (show i + 1 < 2 ^ 31 by omega)]
  refine lv_aload_n hx hb dL_law_458 rfl (lv_at hl 0 rfl) ?_
  refine lv_iload_n hx hb dL_law_459 rfl (lv_at hl 3 rfl) ?_
  refine lv_iconst (v := 2) hx hb dL_law_460 (by decide) ?_
  refine lv_iadd hx hb dL_law_461 ?_
  rw [show nI i + (2 : Int32) = nI (i + 2) from nI_add i 2]
  refine va_sld hx hb hX hbl hbA hS (i := nI (i + 2)) (vp_in_nI (by omega) (by omega)) dL_law_462 ?_
  rw [nI_clamp (show i + 2 < 2 ^ 31 by omega)]
  refine lw_call (n := 2) (G := GC) (As := [.int (xs (i + 1)), .int (xs (i + 2))]) (st := []) C1 hC.2.2.2.1 kC xC lC sC (c_X5_who hC F (xs (i + 1)) (xs (i + 2)) M) e1 (ltK hC) (ceK hC) rfl (lw_goodV tw_2_176 tw_2_177 tw_2_178 tw_1_1 tw_2_179) (by decide +kernel) ⟨rfl, rfl, by decide, by decide⟩ rfl rfl (Nat.le_of_ble_eq_true rfl) hl.1 (by decide) dL_law_463 hP1 hS (fun H locs hP1 hS hk => ?_)
  have hP2 := wG_kept hdis hP2 hk
  refine W.eq (g2 := F0 m 466 ls [.int r]) rfl ?_
  refine lv_aload_n hx hb dL_law_466 rfl (lv_at hl 2 rfl) ?_
  refine lv_aload_n hx hb dL_law_467 rfl (lv_at hl 0 rfl) ?_
  refine lv_iload_n hx hb dL_law_468 rfl (lv_at hl 3 rfl) ?_
  refine lv_iconst (v := 1) hx hb dL_law_469 (by decide) ?_
  refine lv_iadd hx hb dL_law_470 ?_
  rw [show nI i + (1 : Int32) = nI (i + 1) from nI_add i 1]
  refine va_sld hx hb hX hbl hbA hS (i := nI (i + 1)) (vp_in_nI (by omega) (by omega)) dL_law_471 ?_
  rw [nI_clamp (show i + 1 < 2 ^ 31 by omega)]
  refine lv_aload_n hx hb dL_law_472 rfl (lv_at hl 0 rfl) ?_
  refine lv_iload_n hx hb dL_law_473 rfl (lv_at hl 3 rfl) ?_
  refine lv_iconst (v := 2) hx hb dL_law_474 (by decide) ?_
  refine lv_iadd hx hb dL_law_475 ?_
  rw [show nI i + (2 : Int32) = nI (i + 2) from nI_add i 2]
  refine va_sld hx hb hX hbl hbA hS (i := nI (i + 2)) (vp_in_nI (by omega) (by omega)) dL_law_476 ?_
  rw [nI_clamp (show i + 2 < 2 ^ 31 by omega)]
  refine lw_call (n := 2) (G := GR) (As := [.int (xs (i + 1)), .int (xs (i + 2))]) (st := [.int r]) C1 hR.2.2.2 kR xR lR sR (c_X6_who hR F (xs (i + 1)) (xs (i + 2)) N) e2 (ltR hR) (ceR hR) rfl (lw_goodV tw_4_53 tw_4_54 tw_4_55 tw_1_7 tw_4_56) (by decide +kernel) ⟨rfl, rfl, by decide, by decide⟩ rfl rfl (Nat.le_of_ble_eq_true rfl) hl.1 (by decide) dL_law_477 hP2 hS (fun H locs hP2 hS hk => ?_)
  have hP1 := wG_kept (fun q a z => hdis q z a) hP1 hk
  refine W.eq (g2 := F0 m 480 ls [.int r, .int r]) rfl ?_
  exact lv_icmp_eq (tgt := 719) hx hb dL_law_480 (by decide) (fun _ => kk _ _ _ _ hRel1 hP1 hP2 hS) (fun cz => absurd rfl cz)
set_option maxHeartbeats 4000000 in
set_option maxRecDepth 100000 in
theorem law_c13 (X : LwX p l s m meth c b L xs GC GR cy cr) (hF : 20000 ≤ F) (hB4 : B ≤ 400) (hi : i + 5 ≤ L) (hL : L ≤ 320) (hRel : Rel B M N) (hP1 : va_P (gD GC) vwCl (wG GC M) H) (hP2 : va_P (gD GR) vwCl (wG GR N) H) (hS : va_S (fun q : Nat => s.heap.size ≤ q) s.heap H locs) (hl : lv_has ls 4 [(0, .ref b), (1, .ref (gA GC 0)), (2, .ref (gA GR 0)), (3, .int (nI i))]) (kk : LwK p l e s m below meth c b GC GR B ls Q) : W p l e room_1 s m #[Value.ref b] below meth c H locs 50 369 Q (F0 m 485 ls []) := by
  obtain ⟨C0, hC, hR, ⟨lC, lR⟩, ⟨kC, kR⟩, ⟨xC, xR⟩, ⟨sC, sR⟩, hdis⟩ := X
  obtain ⟨hx, hb, hr, hml, hown, hts, hX, hbl, hlocks, hgv⟩ := C0
  have hbA : ¬ (fun q : Nat => s.heap.size ≤ q) b := Nat.not_le.mpr hbl
  have hF1 : 100 ≤ F := by omega
  have hB : B ≤ 1000 := by omega
  have C1 : CallFix p m c code 4 s #[Value.ref b] lw_tbl RL := ⟨hx, hb, hml, hown, hts⟩
  obtain ⟨z3, hz3⟩ : ∃ z : Int32, z = if xs (i + 3) = 0 then 0 else 1 := ⟨_, rfl⟩
  obtain ⟨r, M1, N1, e1, e2, hRel1⟩ := sp_trial (F := F)  (xs (i + 1)) (xs (i + 2)) z3 M N hRel
  refine lv_aload_n hx hb dL_law_485 rfl (lv_at hl 1 rfl) ?_
  refine lv_aload_n hx hb dL_law_486 rfl (lv_at hl 0 rfl) ?_
  refine lv_iload_n hx hb dL_law_487 rfl (lv_at hl 3 rfl) ?_
  refine lv_iconst (v := 1) hx hb dL_law_488 (by decide) ?_
  refine lv_iadd hx hb dL_law_489 ?_
  rw [show nI i + (1 : Int32) = nI (i + 1) from nI_add i 1]
  refine va_sld hx hb hX hbl hbA hS (i := nI (i + 1)) (vp_in_nI (by omega) (by omega)) dL_law_490 ?_
  rw [nI_clamp (show i + 1 < 2 ^ 31 by omega)]
  refine lv_aload_n hx hb dL_law_491 rfl (lv_at hl 0 rfl) ?_
  refine lv_iload_n hx hb dL_law_492 rfl (lv_at hl 3 rfl) ?_
  refine lv_iconst (v := 2) hx hb dL_law_493 (by decide) ?_
  refine lv_iadd hx hb dL_law_494 ?_
  rw [show nI i + (2 : Int32) = nI (i + 2) from nI_add i 2]
  refine va_sld hx hb hX hbl hbA hS (i := nI (i + 2)) (vp_in_nI (by omega) (by omega)) dL_law_495 ?_
  rw [nI_clamp (show i + 2 < 2 ^ 31 by omega)]
  refine lv_aload_n hx hb dL_law_496 rfl (lv_at hl 0 rfl) ?_
  refine lv_iload_n hx hb dL_law_497 rfl (lv_at hl 3 rfl) ?_
  refine lv_iconst (v := 3) hx hb dL_law_498 (by decide) ?_
  refine lv_iadd hx hb dL_law_499 ?_
  rw [show nI i + (3 : Int32) = nI (i + 3) from nI_add i 3]
  refine va_sld hx hb hX hbl hbA hS (i := nI (i + 3)) (vp_in_nI (by omega) (by omega)) dL_law_500 ?_
  rw [nI_clamp (show i + 3 < 2 ^ 31 by omega)]
  have go501 : ∀ K : W p l e room_1 s m #[Value.ref b] below meth c H locs 50 369 Q (F0 m 509 ls [.int z3, .int (xs (i + 2)), .int (xs (i + 1)), .ref (gA GC 0)]), W p l e room_1 s m #[Value.ref b] below meth c H locs 50 369 Q (F0 m 501 ls [.int (xs (i + 3)), .int (xs (i + 2)), .int (xs (i + 1)), .ref (gA GC 0)]) := by
    intro K
    refine lv_if_eq (tgt := 508) hx hb dL_law_501 (by decide) (fun cz => ?_) (fun cz => ?_)
    · rw [if_pos cz] at hz3; subst hz3; exact lv_iconst (v := 0) hx hb dL_law_508 (by decide) K
    · rw [if_neg cz] at hz3; subst hz3; exact lv_iconst (v := 1) hx hb dL_law_504 (by decide) (lv_goto (tgt := 509) hx hb dL_law_505 (by decide) K)
  refine go501 ?_
  refine lw_call (n := 3) (G := GC) (As := [.int (xs (i + 1)), .int (xs (i + 2)), .int z3]) (st := []) C1 hC.2.2.2.1 kC xC lC sC (c_X5_trial hC F (xs (i + 1)) (xs (i + 2)) z3 M) e1 (ltK hC) (ceK hC) rfl (lw_goodV tw_2_188 tw_2_189 tw_2_190 tw_1_1 tw_2_191) (by decide +kernel) ⟨rfl, rfl, by decide, by decide⟩ rfl rfl (Nat.le_of_ble_eq_true rfl) hl.1 (by decide) dL_law_509 hP1 hS (fun H locs hP1 hS hk => ?_)
  have hP2 := wG_kept hdis hP2 hk
  refine W.eq (g2 := F0 m 512 ls [.int r]) rfl ?_
  refine lv_aload_n hx hb dL_law_512 rfl (lv_at hl 2 rfl) ?_
  refine lv_aload_n hx hb dL_law_513 rfl (lv_at hl 0 rfl) ?_
  refine lv_iload_n hx hb dL_law_514 rfl (lv_at hl 3 rfl) ?_
  refine lv_iconst (v := 1) hx hb dL_law_515 (by decide) ?_
  refine lv_iadd hx hb dL_law_516 ?_
  rw [show nI i + (1 : Int32) = nI (i + 1) from nI_add i 1]
  refine va_sld hx hb hX hbl hbA hS (i := nI (i + 1)) (vp_in_nI (by omega) (by omega)) dL_law_517 ?_
  rw [nI_clamp (show i + 1 < 2 ^ 31 by omega)]
  refine lv_aload_n hx hb dL_law_518 rfl (lv_at hl 0 rfl) ?_
  refine lv_iload_n hx hb dL_law_519 rfl (lv_at hl 3 rfl) ?_
  refine lv_iconst (v := 2) hx hb dL_law_520 (by decide) ?_
  refine lv_iadd hx hb dL_law_521 ?_
  rw [show nI i + (2 : Int32) = nI (i + 2) from nI_add i 2]
  refine va_sld hx hb hX hbl hbA hS (i := nI (i + 2)) (vp_in_nI (by omega) (by omega)) dL_law_522 ?_
  rw [nI_clamp (show i + 2 < 2 ^ 31 by omega)]
  refine lv_aload_n hx hb dL_law_523 rfl (lv_at hl 0 rfl) ?_
  refine lv_iload_n hx hb dL_law_524 rfl (lv_at hl 3 rfl) ?_
  refine lv_iconst (v := 3) hx hb dL_law_525 (by decide) ?_
  refine lv_iadd hx hb dL_law_526 ?_
  rw [show nI i + (3 : Int32) = nI (i + 3) from nI_add i 3]
  refine va_sld hx hb hX hbl hbA hS (i := nI (i + 3)) (vp_in_nI (by omega) (by omega)) dL_law_527 ?_
  rw [nI_clamp (show i + 3 < 2 ^ 31 by omega)]
  have go528 : ∀ K : W p l e room_1 s m #[Value.ref b] below meth c H locs 50 369 Q (F0 m 536 ls [.int z3, .int (xs (i + 2)), .int (xs (i + 1)), .ref (gA GR 0), .int r]), W p l e room_1 s m #[Value.ref b] below meth c H locs 50 369 Q (F0 m 528 ls [.int (xs (i + 3)), .int (xs (i + 2)), .int (xs (i + 1)), .ref (gA GR 0), .int r]) := by
    intro K
    refine lv_if_eq (tgt := 535) hx hb dL_law_528 (by decide) (fun cz => ?_) (fun cz => ?_)
    · rw [if_pos cz] at hz3; subst hz3; exact lv_iconst (v := 0) hx hb dL_law_535 (by decide) K
    · rw [if_neg cz] at hz3; subst hz3; exact lv_iconst (v := 1) hx hb dL_law_531 (by decide) (lv_goto (tgt := 536) hx hb dL_law_532 (by decide) K)
  refine go528 ?_
  refine lw_call (n := 3) (G := GR) (As := [.int (xs (i + 1)), .int (xs (i + 2)), .int z3]) (st := [.int r]) C1 hR.2.2.2 kR xR lR sR (c_X6_trial hR F (xs (i + 1)) (xs (i + 2)) z3 N) e2 (ltR hR) (ceR hR) rfl (lw_goodV tw_4_57 tw_4_58 tw_4_59 tw_1_7 tw_4_60) (by decide +kernel) ⟨rfl, rfl, by decide, by decide⟩ rfl rfl (Nat.le_of_ble_eq_true rfl) hl.1 (by decide) dL_law_536 hP2 hS (fun H locs hP2 hS hk => ?_)
  have hP1 := wG_kept (fun q a z => hdis q z a) hP1 hk
  refine W.eq (g2 := F0 m 539 ls [.int r, .int r]) rfl ?_
  exact lv_icmp_eq (tgt := 719) hx hb dL_law_539 (by decide) (fun _ => kk _ _ _ _ hRel1 hP1 hP2 hS) (fun cz => absurd rfl cz)
set_option maxHeartbeats 4000000 in
set_option maxRecDepth 100000 in
theorem law_c14 (X : LwX p l s m meth c b L xs GC GR cy cr) (hF : 20000 ≤ F) (hB4 : B ≤ 400) (hi : i + 5 ≤ L) (hL : L ≤ 320) (hRel : Rel B M N) (hP1 : va_P (gD GC) vwCl (wG GC M) H) (hP2 : va_P (gD GR) vwCl (wG GR N) H) (hS : va_S (fun q : Nat => s.heap.size ≤ q) s.heap H locs) (hl : lv_has ls 4 [(0, .ref b), (1, .ref (gA GC 0)), (2, .ref (gA GR 0)), (3, .int (nI i))]) (kk : LwK p l e s m below meth c b GC GR B ls Q) : W p l e room_1 s m #[Value.ref b] below meth c H locs 50 369 Q (F0 m 544 ls []) := by
  obtain ⟨C0, hC, hR, ⟨lC, lR⟩, ⟨kC, kR⟩, ⟨xC, xR⟩, ⟨sC, sR⟩, hdis⟩ := X
  obtain ⟨hx, hb, hr, hml, hown, hts, hX, hbl, hlocks, hgv⟩ := C0
  have hbA : ¬ (fun q : Nat => s.heap.size ≤ q) b := Nat.not_le.mpr hbl
  have hF1 : 100 ≤ F := by omega
  have hB : B ≤ 1000 := by omega
  have C1 : CallFix p m c code 4 s #[Value.ref b] lw_tbl RL := ⟨hx, hb, hml, hown, hts⟩
  obtain ⟨r, M1, N1, e1, e2, hRel1⟩ := sp_forget (F := F) hF1  M N hRel
  refine lv_aload_n hx hb dL_law_544 rfl (lv_at hl 1 rfl) ?_
  refine lw_call (n := 0) (G := GC) (As := []) (st := []) C1 hC.2.2.2.1 kC xC lC sC (c_X5_forget hC F  M) e1 (ltK hC) (ceK hC) rfl (lw_goodV tw_2_196 tw_2_197 tw_2_198 tw_1_1 tw_2_199) (by decide +kernel) ⟨rfl, rfl, by decide, by decide⟩ rfl rfl (Nat.le_of_ble_eq_true rfl) hl.1 (by decide) dL_law_545 hP1 hS (fun H locs hP1 hS hk => ?_)
  have hP2 := wG_kept hdis hP2 hk
  refine W.eq (g2 := F0 m 548 ls [.int r]) rfl ?_
  refine lv_aload_n hx hb dL_law_548 rfl (lv_at hl 2 rfl) ?_
  refine lw_call (n := 0) (G := GR) (As := []) (st := [.int r]) C1 hR.2.2.2 kR xR lR sR (c_X6_forget hR F  N) e2 (ltR hR) (ceR hR) rfl (lw_goodV tw_4_61 tw_4_62 tw_4_63 tw_1_7 tw_4_64) (by decide +kernel) ⟨rfl, rfl, by decide, by decide⟩ rfl rfl (Nat.le_of_ble_eq_true rfl) hl.1 (by decide) dL_law_549 hP2 hS (fun H locs hP2 hS hk => ?_)
  have hP1 := wG_kept (fun q a z => hdis q z a) hP1 hk
  refine W.eq (g2 := F0 m 552 ls [.int r, .int r]) rfl ?_
  exact lv_icmp_eq (tgt := 719) hx hb dL_law_552 (by decide) (fun _ => kk _ _ _ _ hRel1 hP1 hP2 hS) (fun cz => absurd rfl cz)
set_option maxHeartbeats 4000000 in
set_option maxRecDepth 100000 in
theorem law_c15 (X : LwX p l s m meth c b L xs GC GR cy cr) (hF : 20000 ≤ F) (hB4 : B ≤ 400) (hi : i + 5 ≤ L) (hL : L ≤ 320) (hRel : Rel B M N) (hP1 : va_P (gD GC) vwCl (wG GC M) H) (hP2 : va_P (gD GR) vwCl (wG GR N) H) (hS : va_S (fun q : Nat => s.heap.size ≤ q) s.heap H locs) (hl : lv_has ls 4 [(0, .ref b), (1, .ref (gA GC 0)), (2, .ref (gA GR 0)), (3, .int (nI i))]) (kk : LwK p l e s m below meth c b GC GR B ls Q) : W p l e room_1 s m #[Value.ref b] below meth c H locs 50 369 Q (F0 m 557 ls []) := by
  obtain ⟨C0, hC, hR, ⟨lC, lR⟩, ⟨kC, kR⟩, ⟨xC, xR⟩, ⟨sC, sR⟩, hdis⟩ := X
  obtain ⟨hx, hb, hr, hml, hown, hts, hX, hbl, hlocks, hgv⟩ := C0
  have hbA : ¬ (fun q : Nat => s.heap.size ≤ q) b := Nat.not_le.mpr hbl
  have hF1 : 100 ≤ F := by omega
  have hB : B ≤ 1000 := by omega
  have C1 : CallFix p m c code 4 s #[Value.ref b] lw_tbl RL := ⟨hx, hb, hml, hown, hts⟩
  obtain ⟨r, M1, N1, e1, e2, hRel1⟩ := sp_truths (F := F) hF1 (xs (i + 1)) (xs (i + 2)) M N hRel
  refine lv_aload_n hx hb dL_law_557 rfl (lv_at hl 1 rfl) ?_
  refine lv_aload_n hx hb dL_law_558 rfl (lv_at hl 0 rfl) ?_
  refine lv_iload_n hx hb dL_law_559 rfl (lv_at hl 3 rfl) ?_
  refine lv_iconst (v := 1) hx hb dL_law_560 (by decide) ?_
  refine lv_iadd hx hb dL_law_561 ?_
  rw [show nI i + (1 : Int32) = nI (i + 1) from nI_add i 1]
  refine va_sld hx hb hX hbl hbA hS (i := nI (i + 1)) (vp_in_nI (by omega) (by omega)) dL_law_562 ?_
  rw [nI_clamp (show i + 1 < 2 ^ 31 by omega)]
  refine lv_aload_n hx hb dL_law_563 rfl (lv_at hl 0 rfl) ?_
  refine lv_iload_n hx hb dL_law_564 rfl (lv_at hl 3 rfl) ?_
  refine lv_iconst (v := 2) hx hb dL_law_565 (by decide) ?_
  refine lv_iadd hx hb dL_law_566 ?_
  rw [show nI i + (2 : Int32) = nI (i + 2) from nI_add i 2]
  refine va_sld hx hb hX hbl hbA hS (i := nI (i + 2)) (vp_in_nI (by omega) (by omega)) dL_law_567 ?_
  rw [nI_clamp (show i + 2 < 2 ^ 31 by omega)]
  refine lw_call (n := 2) (G := GC) (As := [.int (xs (i + 1)), .int (xs (i + 2))]) (st := []) C1 hC.2.2.2.1 kC xC lC sC (c_X5_truths hC F (xs (i + 1)) (xs (i + 2)) M) e1 (ltK hC) (ceK hC) rfl (lw_goodV tw_2_205 tw_2_206 tw_2_207 tw_1_1 tw_2_208) (by decide +kernel) ⟨rfl, rfl, by decide, by decide⟩ rfl rfl (Nat.le_of_ble_eq_true rfl) hl.1 (by decide) dL_law_568 hP1 hS (fun H locs hP1 hS hk => ?_)
  have hP2 := wG_kept hdis hP2 hk
  refine W.eq (g2 := F0 m 571 ls [.int r]) rfl ?_
  refine lv_aload_n hx hb dL_law_571 rfl (lv_at hl 2 rfl) ?_
  refine lv_aload_n hx hb dL_law_572 rfl (lv_at hl 0 rfl) ?_
  refine lv_iload_n hx hb dL_law_573 rfl (lv_at hl 3 rfl) ?_
  refine lv_iconst (v := 1) hx hb dL_law_574 (by decide) ?_
  refine lv_iadd hx hb dL_law_575 ?_
  rw [show nI i + (1 : Int32) = nI (i + 1) from nI_add i 1]
  refine va_sld hx hb hX hbl hbA hS (i := nI (i + 1)) (vp_in_nI (by omega) (by omega)) dL_law_576 ?_
  rw [nI_clamp (show i + 1 < 2 ^ 31 by omega)]
  refine lv_aload_n hx hb dL_law_577 rfl (lv_at hl 0 rfl) ?_
  refine lv_iload_n hx hb dL_law_578 rfl (lv_at hl 3 rfl) ?_
  refine lv_iconst (v := 2) hx hb dL_law_579 (by decide) ?_
  refine lv_iadd hx hb dL_law_580 ?_
  rw [show nI i + (2 : Int32) = nI (i + 2) from nI_add i 2]
  refine va_sld hx hb hX hbl hbA hS (i := nI (i + 2)) (vp_in_nI (by omega) (by omega)) dL_law_581 ?_
  rw [nI_clamp (show i + 2 < 2 ^ 31 by omega)]
  refine lw_call (n := 2) (G := GR) (As := [.int (xs (i + 1)), .int (xs (i + 2))]) (st := [.int r]) C1 hR.2.2.2 kR xR lR sR (c_X6_truths hR F (xs (i + 1)) (xs (i + 2)) N) e2 (ltR hR) (ceR hR) rfl (lw_goodV tw_4_65 tw_4_66 tw_4_67 tw_1_7 tw_4_68) (by decide +kernel) ⟨rfl, rfl, by decide, by decide⟩ rfl rfl (Nat.le_of_ble_eq_true rfl) hl.1 (by decide) dL_law_582 hP2 hS (fun H locs hP2 hS hk => ?_)
  have hP1 := wG_kept (fun q a z => hdis q z a) hP1 hk
  refine W.eq (g2 := F0 m 585 ls [.int r, .int r]) rfl ?_
  exact lv_icmp_eq (tgt := 719) hx hb dL_law_585 (by decide) (fun _ => kk _ _ _ _ hRel1 hP1 hP2 hS) (fun cz => absurd rfl cz)
set_option maxHeartbeats 4000000 in
set_option maxRecDepth 100000 in
theorem law_c16 (X : LwX p l s m meth c b L xs GC GR cy cr) (hF : 20000 ≤ F) (hB4 : B ≤ 400) (hi : i + 5 ≤ L) (hL : L ≤ 320) (hRel : Rel B M N) (hP1 : va_P (gD GC) vwCl (wG GC M) H) (hP2 : va_P (gD GR) vwCl (wG GR N) H) (hS : va_S (fun q : Nat => s.heap.size ≤ q) s.heap H locs) (hl : lv_has ls 4 [(0, .ref b), (1, .ref (gA GC 0)), (2, .ref (gA GR 0)), (3, .int (nI i))]) (kk : LwK p l e s m below meth c b GC GR B ls Q) : W p l e room_1 s m #[Value.ref b] below meth c H locs 50 369 Q (F0 m 590 ls []) := by
  obtain ⟨C0, hC, hR, ⟨lC, lR⟩, ⟨kC, kR⟩, ⟨xC, xR⟩, ⟨sC, sR⟩, hdis⟩ := X
  obtain ⟨hx, hb, hr, hml, hown, hts, hX, hbl, hlocks, hgv⟩ := C0
  have hbA : ¬ (fun q : Nat => s.heap.size ≤ q) b := Nat.not_le.mpr hbl
  have hF1 : 100 ≤ F := by omega
  have hB : B ≤ 1000 := by omega
  have C1 : CallFix p m c code 4 s #[Value.ref b] lw_tbl RL := ⟨hx, hb, hml, hown, hts⟩
  obtain ⟨r, M1, N1, e1, e2, hRel1⟩ := sp_attempt (F := F) hF1 (xs (i + 1)) M N hRel
  refine lv_aload_n hx hb dL_law_590 rfl (lv_at hl 1 rfl) ?_
  refine lv_aload_n hx hb dL_law_591 rfl (lv_at hl 0 rfl) ?_
  refine lv_iload_n hx hb dL_law_592 rfl (lv_at hl 3 rfl) ?_
  refine lv_iconst (v := 1) hx hb dL_law_593 (by decide) ?_
  refine lv_iadd hx hb dL_law_594 ?_
  rw [show nI i + (1 : Int32) = nI (i + 1) from nI_add i 1]
  refine va_sld hx hb hX hbl hbA hS (i := nI (i + 1)) (vp_in_nI (by omega) (by omega)) dL_law_595 ?_
  rw [nI_clamp (show i + 1 < 2 ^ 31 by omega)]
  refine lw_call (n := 1) (G := GC) (As := [.int (xs (i + 1))]) (st := []) C1 hC.2.2.2.1 kC xC lC sC (c_X5_attempt hC F (xs (i + 1)) M) e1 (ltK hC) (ceK hC) rfl (lw_goodV tw_2_214 tw_2_215 tw_2_216 tw_1_1 tw_2_217) (by decide +kernel) ⟨rfl, rfl, by decide, by decide⟩ rfl rfl (Nat.le_of_ble_eq_true rfl) hl.1 (by decide) dL_law_596 hP1 hS (fun H locs hP1 hS hk => ?_)
  have hP2 := wG_kept hdis hP2 hk
  refine W.eq (g2 := F0 m 599 ls [.int r]) rfl ?_
  refine lv_aload_n hx hb dL_law_599 rfl (lv_at hl 2 rfl) ?_
  refine lv_aload_n hx hb dL_law_600 rfl (lv_at hl 0 rfl) ?_
  refine lv_iload_n hx hb dL_law_601 rfl (lv_at hl 3 rfl) ?_
  refine lv_iconst (v := 1) hx hb dL_law_602 (by decide) ?_
  refine lv_iadd hx hb dL_law_603 ?_
  rw [show nI i + (1 : Int32) = nI (i + 1) from nI_add i 1]
  refine va_sld hx hb hX hbl hbA hS (i := nI (i + 1)) (vp_in_nI (by omega) (by omega)) dL_law_604 ?_
  rw [nI_clamp (show i + 1 < 2 ^ 31 by omega)]
  refine lw_call (n := 1) (G := GR) (As := [.int (xs (i + 1))]) (st := [.int r]) C1 hR.2.2.2 kR xR lR sR (c_X6_attempt hR F (xs (i + 1)) N) e2 (ltR hR) (ceR hR) rfl (lw_goodV tw_4_77 tw_4_78 tw_4_79 tw_1_7 tw_4_80) (by decide +kernel) ⟨rfl, rfl, by decide, by decide⟩ rfl rfl (Nat.le_of_ble_eq_true rfl) hl.1 (by decide) dL_law_605 hP2 hS (fun H locs hP2 hS hk => ?_)
  have hP1 := wG_kept (fun q a z => hdis q z a) hP1 hk
  refine W.eq (g2 := F0 m 608 ls [.int r, .int r]) rfl ?_
  exact lv_icmp_eq (tgt := 719) hx hb dL_law_608 (by decide) (fun _ => kk _ _ _ _ hRel1 hP1 hP2 hS) (fun cz => absurd rfl cz)
set_option maxHeartbeats 4000000 in
set_option maxRecDepth 100000 in
theorem law_c17 (X : LwX p l s m meth c b L xs GC GR cy cr) (hF : 20000 ≤ F) (hB4 : B ≤ 400) (hi : i + 5 ≤ L) (hL : L ≤ 320) (hRel : Rel B M N) (hP1 : va_P (gD GC) vwCl (wG GC M) H) (hP2 : va_P (gD GR) vwCl (wG GR N) H) (hS : va_S (fun q : Nat => s.heap.size ≤ q) s.heap H locs) (hl : lv_has ls 4 [(0, .ref b), (1, .ref (gA GC 0)), (2, .ref (gA GR 0)), (3, .int (nI i))]) (kk : LwK p l e s m below meth c b GC GR B ls Q) : W p l e room_1 s m #[Value.ref b] below meth c H locs 50 369 Q (F0 m 613 ls []) := by
  obtain ⟨C0, hC, hR, ⟨lC, lR⟩, ⟨kC, kR⟩, ⟨xC, xR⟩, ⟨sC, sR⟩, hdis⟩ := X
  obtain ⟨hx, hb, hr, hml, hown, hts, hX, hbl, hlocks, hgv⟩ := C0
  have hbA : ¬ (fun q : Nat => s.heap.size ≤ q) b := Nat.not_le.mpr hbl
  have hF1 : 100 ≤ F := by omega
  have hB : B ≤ 1000 := by omega
  have C1 : CallFix p m c code 4 s #[Value.ref b] lw_tbl RL := ⟨hx, hb, hml, hown, hts⟩
  obtain ⟨r, M1, N1, e1, e2, hRel1⟩ := sp_weeks (F := F) hF1 hB4 (xs (i + 1)) (xs (i + 2)) (xs (i + 3)) M N hRel
  refine lv_aload_n hx hb dL_law_613 rfl (lv_at hl 1 rfl) ?_
  refine lv_aload_n hx hb dL_law_614 rfl (lv_at hl 0 rfl) ?_
  refine lv_iload_n hx hb dL_law_615 rfl (lv_at hl 3 rfl) ?_
  refine lv_iconst (v := 1) hx hb dL_law_616 (by decide) ?_
  refine lv_iadd hx hb dL_law_617 ?_
  rw [show nI i + (1 : Int32) = nI (i + 1) from nI_add i 1]
  refine va_sld hx hb hX hbl hbA hS (i := nI (i + 1)) (vp_in_nI (by omega) (by omega)) dL_law_618 ?_
  rw [nI_clamp (show i + 1 < 2 ^ 31 by omega)]
  refine lv_aload_n hx hb dL_law_619 rfl (lv_at hl 0 rfl) ?_
  refine lv_iload_n hx hb dL_law_620 rfl (lv_at hl 3 rfl) ?_
  refine lv_iconst (v := 2) hx hb dL_law_621 (by decide) ?_
  refine lv_iadd hx hb dL_law_622 ?_
  rw [show nI i + (2 : Int32) = nI (i + 2) from nI_add i 2]
  refine va_sld hx hb hX hbl hbA hS (i := nI (i + 2)) (vp_in_nI (by omega) (by omega)) dL_law_623 ?_
  rw [nI_clamp (show i + 2 < 2 ^ 31 by omega)]
  refine lv_aload_n hx hb dL_law_624 rfl (lv_at hl 0 rfl) ?_
  refine lv_iload_n hx hb dL_law_625 rfl (lv_at hl 3 rfl) ?_
  refine lv_iconst (v := 3) hx hb dL_law_626 (by decide) ?_
  refine lv_iadd hx hb dL_law_627 ?_
  rw [show nI i + (3 : Int32) = nI (i + 3) from nI_add i 3]
  refine va_sld hx hb hX hbl hbA hS (i := nI (i + 3)) (vp_in_nI (by omega) (by omega)) dL_law_628 ?_
  rw [nI_clamp (show i + 3 < 2 ^ 31 by omega)]
  refine lw_call (n := 3) (G := GC) (As := [.int (xs (i + 1)), .int (xs (i + 2)), .int (xs (i + 3))]) (st := []) C1 hC.2.2.2.1 kC xC lC sC (c_X5_weeks hC F (xs (i + 1)) (xs (i + 2)) (xs (i + 3)) M) e1 (ltK hC) (ceK hC) rfl (lw_goodV tw_2_223 tw_2_224 tw_2_225 tw_1_1 tw_2_226) (by decide +kernel) ⟨rfl, rfl, by decide, by decide⟩ rfl rfl (Nat.le_of_ble_eq_true rfl) hl.1 (by decide) dL_law_629 hP1 hS (fun H locs hP1 hS hk => ?_)
  have hP2 := wG_kept hdis hP2 hk
  refine W.eq (g2 := F0 m 632 ls [.int r]) rfl ?_
  refine lv_aload_n hx hb dL_law_632 rfl (lv_at hl 2 rfl) ?_
  refine lv_aload_n hx hb dL_law_633 rfl (lv_at hl 0 rfl) ?_
  refine lv_iload_n hx hb dL_law_634 rfl (lv_at hl 3 rfl) ?_
  refine lv_iconst (v := 1) hx hb dL_law_635 (by decide) ?_
  refine lv_iadd hx hb dL_law_636 ?_
  rw [show nI i + (1 : Int32) = nI (i + 1) from nI_add i 1]
  refine va_sld hx hb hX hbl hbA hS (i := nI (i + 1)) (vp_in_nI (by omega) (by omega)) dL_law_637 ?_
  rw [nI_clamp (show i + 1 < 2 ^ 31 by omega)]
  refine lv_aload_n hx hb dL_law_638 rfl (lv_at hl 0 rfl) ?_
  refine lv_iload_n hx hb dL_law_639 rfl (lv_at hl 3 rfl) ?_
  refine lv_iconst (v := 2) hx hb dL_law_640 (by decide) ?_
  refine lv_iadd hx hb dL_law_641 ?_
  rw [show nI i + (2 : Int32) = nI (i + 2) from nI_add i 2]
  refine va_sld hx hb hX hbl hbA hS (i := nI (i + 2)) (vp_in_nI (by omega) (by omega)) dL_law_642 ?_
  rw [nI_clamp (show i + 2 < 2 ^ 31 by omega)]
  refine lv_aload_n hx hb dL_law_643 rfl (lv_at hl 0 rfl) ?_
  refine lv_iload_n hx hb dL_law_644 rfl (lv_at hl 3 rfl) ?_
  refine lv_iconst (v := 3) hx hb dL_law_645 (by decide) ?_
  refine lv_iadd hx hb dL_law_646 ?_
  rw [show nI i + (3 : Int32) = nI (i + 3) from nI_add i 3]
  refine va_sld hx hb hX hbl hbA hS (i := nI (i + 3)) (vp_in_nI (by omega) (by omega)) dL_law_647 ?_
  rw [nI_clamp (show i + 3 < 2 ^ 31 by omega)]
  refine lw_call (n := 3) (G := GR) (As := [.int (xs (i + 1)), .int (xs (i + 2)), .int (xs (i + 3))]) (st := [.int r]) C1 hR.2.2.2 kR xR lR sR (c_X6_weeks hR F (xs (i + 1)) (xs (i + 2)) (xs (i + 3)) N) e2 (ltR hR) (ceR hR) rfl (lw_goodV tw_4_85 tw_4_86 tw_4_87 tw_1_7 tw_4_88) (by decide +kernel) ⟨rfl, rfl, by decide, by decide⟩ rfl rfl (Nat.le_of_ble_eq_true rfl) hl.1 (by decide) dL_law_648 hP2 hS (fun H locs hP2 hS hk => ?_)
  have hP1 := wG_kept (fun q a z => hdis q z a) hP1 hk
  refine W.eq (g2 := F0 m 651 ls [.int r, .int r]) rfl ?_
  exact lv_icmp_eq (tgt := 719) hx hb dL_law_651 (by decide) (fun _ => kk _ _ _ _ hRel1 hP1 hP2 hS) (fun cz => absurd rfl cz)
set_option maxHeartbeats 4000000 in
set_option maxRecDepth 100000 in
theorem law_c18 (X : LwX p l s m meth c b L xs GC GR cy cr) (hF : 20000 ≤ F) (hB4 : B ≤ 400) (hi : i + 5 ≤ L) (hL : L ≤ 320) (hRel : Rel B M N) (hP1 : va_P (gD GC) vwCl (wG GC M) H) (hP2 : va_P (gD GR) vwCl (wG GR N) H) (hS : va_S (fun q : Nat => s.heap.size ≤ q) s.heap H locs) (hl : lv_has ls 4 [(0, .ref b), (1, .ref (gA GC 0)), (2, .ref (gA GR 0)), (3, .int (nI i))]) (kk : LwK p l e s m below meth c b GC GR B ls Q) : W p l e room_1 s m #[Value.ref b] below meth c H locs 50 369 Q (F0 m 656 ls []) := by
  obtain ⟨C0, hC, hR, ⟨lC, lR⟩, ⟨kC, kR⟩, ⟨xC, xR⟩, ⟨sC, sR⟩, hdis⟩ := X
  obtain ⟨hx, hb, hr, hml, hown, hts, hX, hbl, hlocks, hgv⟩ := C0
  have hbA : ¬ (fun q : Nat => s.heap.size ≤ q) b := Nat.not_le.mpr hbl
  have hF1 : 100 ≤ F := by omega
  have hB : B ≤ 1000 := by omega
  have C1 : CallFix p m c code 4 s #[Value.ref b] lw_tbl RL := ⟨hx, hb, hml, hown, hts⟩
  obtain ⟨r, M1, N1, e1, e2, hRel1⟩ := sp_image (F := F) hF1  M N hRel
  refine lv_aload_n hx hb dL_law_656 rfl (lv_at hl 1 rfl) ?_
  refine lw_call (n := 0) (G := GC) (As := []) (st := []) C1 hC.2.2.2.1 kC xC lC sC (c_X5_image hC F  M) e1 (ltK hC) (ceK hC) rfl (lw_goodV tw_3_23 tw_3_24 tw_3_25 tw_1_1 tw_3_26) (by decide +kernel) ⟨rfl, rfl, by decide, by decide⟩ rfl rfl (Nat.le_of_ble_eq_true rfl) hl.1 (by decide) dL_law_657 hP1 hS (fun H locs hP1 hS hk => ?_)
  have hP2 := wG_kept hdis hP2 hk
  refine W.eq (g2 := F0 m 660 ls [.int r]) rfl ?_
  refine lv_aload_n hx hb dL_law_660 rfl (lv_at hl 2 rfl) ?_
  refine lw_call (n := 0) (G := GR) (As := []) (st := [.int r]) C1 hR.2.2.2 kR xR lR sR (c_X6_image hR F  N) e2 (ltR hR) (ceR hR) rfl (lw_goodV tw_4_106 tw_4_107 tw_4_108 tw_1_7 tw_4_109) (by decide +kernel) ⟨rfl, rfl, by decide, by decide⟩ rfl rfl (Nat.le_of_ble_eq_true rfl) hl.1 (by decide) dL_law_661 hP2 hS (fun H locs hP2 hS hk => ?_)
  have hP1 := wG_kept (fun q a z => hdis q z a) hP1 hk
  refine W.eq (g2 := F0 m 664 ls [.int r, .int r]) rfl ?_
  exact lv_icmp_eq (tgt := 719) hx hb dL_law_664 (by decide) (fun _ => kk _ _ _ _ hRel1 hP1 hP2 hS) (fun cz => absurd rfl cz)
set_option maxHeartbeats 4000000 in
set_option maxRecDepth 100000 in
theorem law_c19 (X : LwX p l s m meth c b L xs GC GR cy cr) (hF : 20000 ≤ F) (hB4 : B ≤ 400) (hi : i + 5 ≤ L) (hL : L ≤ 320) (hRel : Rel B M N) (hP1 : va_P (gD GC) vwCl (wG GC M) H) (hP2 : va_P (gD GR) vwCl (wG GR N) H) (hS : va_S (fun q : Nat => s.heap.size ≤ q) s.heap H locs) (hl : lv_has ls 4 [(0, .ref b), (1, .ref (gA GC 0)), (2, .ref (gA GR 0)), (3, .int (nI i))]) (kk : LwK p l e s m below meth c b GC GR B ls Q) : W p l e room_1 s m #[Value.ref b] below meth c H locs 50 369 Q (F0 m 669 ls []) := by
  obtain ⟨C0, hC, hR, ⟨lC, lR⟩, ⟨kC, kR⟩, ⟨xC, xR⟩, ⟨sC, sR⟩, hdis⟩ := X
  obtain ⟨hx, hb, hr, hml, hown, hts, hX, hbl, hlocks, hgv⟩ := C0
  have hbA : ¬ (fun q : Nat => s.heap.size ≤ q) b := Nat.not_le.mpr hbl
  have hF1 : 100 ≤ F := by omega
  have hB : B ≤ 1000 := by omega
  have C1 : CallFix p m c code 4 s #[Value.ref b] lw_tbl RL := ⟨hx, hb, hml, hown, hts⟩
  obtain ⟨r, M1, N1, e1, e2, hRel1⟩ := sp_restore (F := F) hF1 hB  M N hRel
  refine lv_aload_n hx hb dL_law_669 rfl (lv_at hl 1 rfl) ?_
  refine lw_call (n := 0) (G := GC) (As := []) (st := []) C1 hC.2.2.2.1 kC xC lC sC (c_X5_restore hC F  M) e1 (ltK hC) (ceK hC) rfl (lw_goodV tw_3_28 tw_3_29 tw_3_30 tw_1_1 tw_3_31) (by decide +kernel) ⟨rfl, rfl, by decide, by decide⟩ rfl rfl (Nat.le_of_ble_eq_true rfl) hl.1 (by decide) dL_law_670 hP1 hS (fun H locs hP1 hS hk => ?_)
  have hP2 := wG_kept hdis hP2 hk
  refine W.eq (g2 := F0 m 673 ls [.int r]) rfl ?_
  refine lv_aload_n hx hb dL_law_673 rfl (lv_at hl 2 rfl) ?_
  refine lw_call (n := 0) (G := GR) (As := []) (st := [.int r]) C1 hR.2.2.2 kR xR lR sR (c_X6_restore hR F  N) e2 (ltR hR) (ceR hR) rfl (lw_goodV tw_4_110 tw_4_111 tw_4_112 tw_1_7 tw_4_113) (by decide +kernel) ⟨rfl, rfl, by decide, by decide⟩ rfl rfl (Nat.le_of_ble_eq_true rfl) hl.1 (by decide) dL_law_674 hP2 hS (fun H locs hP2 hS hk => ?_)
  have hP1 := wG_kept (fun q a z => hdis q z a) hP1 hk
  refine W.eq (g2 := F0 m 677 ls [.int r, .int r]) rfl ?_
  exact lv_icmp_eq (tgt := 719) hx hb dL_law_677 (by decide) (fun _ => kk _ _ _ _ hRel1 hP1 hP2 hS) (fun cz => absurd rfl cz)
set_option maxHeartbeats 4000000 in
set_option maxRecDepth 100000 in
theorem law_c20 (X : LwX p l s m meth c b L xs GC GR cy cr) (hF : 20000 ≤ F) (hB4 : B ≤ 400) (hi : i + 5 ≤ L) (hL : L ≤ 320) (hRel : Rel B M N) (hP1 : va_P (gD GC) vwCl (wG GC M) H) (hP2 : va_P (gD GR) vwCl (wG GR N) H) (hS : va_S (fun q : Nat => s.heap.size ≤ q) s.heap H locs) (hl : lv_has ls 4 [(0, .ref b), (1, .ref (gA GC 0)), (2, .ref (gA GR 0)), (3, .int (nI i))]) (kk : LwK p l e s m below meth c b GC GR B ls Q) : W p l e room_1 s m #[Value.ref b] below meth c H locs 50 369 Q (F0 m 682 ls []) := by
  obtain ⟨C0, hC, hR, ⟨lC, lR⟩, ⟨kC, kR⟩, ⟨xC, xR⟩, ⟨sC, sR⟩, hdis⟩ := X
  obtain ⟨hx, hb, hr, hml, hown, hts, hX, hbl, hlocks, hgv⟩ := C0
  have hbA : ¬ (fun q : Nat => s.heap.size ≤ q) b := Nat.not_le.mpr hbl
  have hF1 : 100 ≤ F := by omega
  have hB : B ≤ 1000 := by omega
  have C1 : CallFix p m c code 4 s #[Value.ref b] lw_tbl RL := ⟨hx, hb, hml, hown, hts⟩
  obtain ⟨r, M1, N1, e1, e2, hRel1⟩ := sp_count (F := F) hF1 (xs (i + 1)) M N hRel
  refine lv_aload_n hx hb dL_law_682 rfl (lv_at hl 1 rfl) ?_
  refine lv_aload_n hx hb dL_law_683 rfl (lv_at hl 0 rfl) ?_
  refine lv_iload_n hx hb dL_law_684 rfl (lv_at hl 3 rfl) ?_
  refine lv_iconst (v := 1) hx hb dL_law_685 (by decide) ?_
  refine lv_iadd hx hb dL_law_686 ?_
  rw [show nI i + (1 : Int32) = nI (i + 1) from nI_add i 1]
  refine va_sld hx hb hX hbl hbA hS (i := nI (i + 1)) (vp_in_nI (by omega) (by omega)) dL_law_687 ?_
  rw [nI_clamp (show i + 1 < 2 ^ 31 by omega)]
  refine lw_call (n := 1) (G := GC) (As := [.int (xs (i + 1))]) (st := []) C1 hC.2.2.2.1 kC xC lC sC (c_X5_count hC F (xs (i + 1)) M) e1 (ltK hC) (ceK hC) rfl (lw_goodV tw_3_32 tw_3_33 tw_3_34 tw_1_1 tw_3_35) (by decide +kernel) ⟨rfl, rfl, by decide, by decide⟩ rfl rfl (Nat.le_of_ble_eq_true rfl) hl.1 (by decide) dL_law_688 hP1 hS (fun H locs hP1 hS hk => ?_)
  have hP2 := wG_kept hdis hP2 hk
  refine W.eq (g2 := F0 m 691 ls [.int r]) rfl ?_
  refine lv_aload_n hx hb dL_law_691 rfl (lv_at hl 2 rfl) ?_
  refine lv_aload_n hx hb dL_law_692 rfl (lv_at hl 0 rfl) ?_
  refine lv_iload_n hx hb dL_law_693 rfl (lv_at hl 3 rfl) ?_
  refine lv_iconst (v := 1) hx hb dL_law_694 (by decide) ?_
  refine lv_iadd hx hb dL_law_695 ?_
  rw [show nI i + (1 : Int32) = nI (i + 1) from nI_add i 1]
  refine va_sld hx hb hX hbl hbA hS (i := nI (i + 1)) (vp_in_nI (by omega) (by omega)) dL_law_696 ?_
  rw [nI_clamp (show i + 1 < 2 ^ 31 by omega)]
  refine lw_call (n := 1) (G := GR) (As := [.int (xs (i + 1))]) (st := [.int r]) C1 hR.2.2.2 kR xR lR sR (c_X6_count hR F (xs (i + 1)) N) e2 (ltR hR) (ceR hR) rfl (lw_goodV tw_4_114 tw_4_115 tw_4_116 tw_1_7 tw_4_117) (by decide +kernel) ⟨rfl, rfl, by decide, by decide⟩ rfl rfl (Nat.le_of_ble_eq_true rfl) hl.1 (by decide) dL_law_697 hP2 hS (fun H locs hP2 hS hk => ?_)
  have hP1 := wG_kept (fun q a z => hdis q z a) hP1 hk
  refine W.eq (g2 := F0 m 700 ls [.int r, .int r]) rfl ?_
  exact lv_icmp_eq (tgt := 719) hx hb dL_law_700 (by decide) (fun _ => kk _ _ _ _ hRel1 hP1 hP2 hS) (fun cz => absurd rfl cz)
set_option maxHeartbeats 4000000 in
set_option maxRecDepth 100000 in
theorem law_c21 (X : LwX p l s m meth c b L xs GC GR cy cr) (hF : 20000 ≤ F) (hB4 : B ≤ 400) (hi : i + 5 ≤ L) (hL : L ≤ 320) (hRel : Rel B M N) (hP1 : va_P (gD GC) vwCl (wG GC M) H) (hP2 : va_P (gD GR) vwCl (wG GR N) H) (hS : va_S (fun q : Nat => s.heap.size ≤ q) s.heap H locs) (hl : lv_has ls 4 [(0, .ref b), (1, .ref (gA GC 0)), (2, .ref (gA GR 0)), (3, .int (nI i))]) (kk : LwK p l e s m below meth c b GC GR B ls Q) : W p l e room_1 s m #[Value.ref b] below meth c H locs 50 369 Q (F0 m 705 ls []) := by
  obtain ⟨C0, hC, hR, ⟨lC, lR⟩, ⟨kC, kR⟩, ⟨xC, xR⟩, ⟨sC, sR⟩, hdis⟩ := X
  obtain ⟨hx, hb, hr, hml, hown, hts, hX, hbl, hlocks, hgv⟩ := C0
  have hbA : ¬ (fun q : Nat => s.heap.size ≤ q) b := Nat.not_le.mpr hbl
  have hF1 : 100 ≤ F := by omega
  have hB : B ≤ 1000 := by omega
  have C1 : CallFix p m c code 4 s #[Value.ref b] lw_tbl RL := ⟨hx, hb, hml, hown, hts⟩
  obtain ⟨r, M1, N1, e1, e2, hRel1⟩ := sp_digest (F := F) hF hB  M N hRel
  refine lv_aload_n hx hb dL_law_705 rfl (lv_at hl 1 rfl) ?_
  refine lw_call (n := 0) (G := GC) (As := []) (st := []) C1 hC.2.2.2.1 kC xC lC sC (c_X5_digest hC F  M) e1 (ltK hC) (ceK hC) rfl (lw_goodV tw_3_44 tw_3_45 tw_3_46 tw_1_1 tw_3_47) (by decide +kernel) ⟨rfl, rfl, by decide, by decide⟩ rfl rfl (Nat.le_of_ble_eq_true rfl) hl.1 (by decide) dL_law_706 hP1 hS (fun H locs hP1 hS hk => ?_)
  have hP2 := wG_kept hdis hP2 hk
  refine W.eq (g2 := F0 m 709 ls [.long r]) rfl ?_
  refine lv_aload_n hx hb dL_law_709 rfl (lv_at hl 2 rfl) ?_
  refine lw_call (n := 0) (G := GR) (As := []) (st := [.long r]) C1 hR.2.2.2 kR xR lR sR (c_X6_digest hR F  N) e2 (ltR hR) (ceR hR) rfl (lw_goodV tw_4_126 tw_4_127 tw_4_128 tw_1_7 tw_4_129) (by decide +kernel) ⟨rfl, rfl, by decide, by decide⟩ rfl rfl (Nat.le_of_ble_eq_true rfl) hl.1 (by decide) dL_law_710 hP2 hS (fun H locs hP2 hS hk => ?_)
  have hP1 := wG_kept (fun q a z => hdis q z a) hP1 hk
  refine W.eq (g2 := F0 m 713 ls [.long r, .long r]) rfl ?_
  refine W.lcmp hx hb dL_law_713 ?_
  rw [show lg_cmp r r = 0 from by unfold lg_cmp; simp]
  exact lv_if_eq (tgt := 719) hx hb dL_law_714 (by decide) (fun _ => kk _ _ _ _ hRel1 hP1 hP2 hS) (fun cz => absurd rfl cz)
end LWC
