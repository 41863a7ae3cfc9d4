/-! THE LAW'S CALLS: of one world, the other stays -/
theorem lw_good {w : Cond} (h : w ∈ wA) : w ∈ lw_tbl ∧ goodWord w = true := List.mem_filter.mp h
theorem lw_goodY {y' : MethodName} {cc' : ByteArray} {nL' : Nat} {ret' : Option FieldType} (h5 : Cond.code y' cc' nL' ret' ∈ wA) : GoodIn lw_tbl (wY y' cc' nL' ret') := by
  intro w hw
  have : w ∈ wA := (List.mem_cons.mp hw).elim (fun e => e ▸ h5) id
  exact ⟨(lw_good this).1, good_of_word (wl_word this)⟩
theorem lw_goodV {y' : MethodName} {cc' : ByteArray} {nL' idx : Nat} {ret' : Option FieldType} {own C : String} (h1 : Cond.methodLink own idx y' ∈ wA) (h2 : Cond.instanceMethod y' ∈ wA) (h3 : Cond.selects C y' y' ∈ wA) (h4 : Cond.initialized C ∈ wA) (h5 : Cond.code y' cc' nL' ret' ∈ wA) : GoodIn lw_tbl (wsV own idx C y' (wY y' cc' nL' ret')) := by
  intro w hw
  unfold wsV at hw
  rcases List.mem_append.mp hw with h | h
  · have : w ∈ wA := by
      simp only [List.mem_cons, List.not_mem_nil, or_false] at h
      rcases h with rfl | rfl | rfl | rfl <;> assumption
    exact ⟨(lw_good this).1, good_of_word (wl_word this)⟩
  · exact lw_goodY h5 w h
theorem wG_a {G : KyG} {M : Mem} {k : Nat} {q : Nat × va_E} (h : (wG G M)[k]? = some q) : aG G q.1 := by
  obtain ⟨h1, rfl⟩ := wG_some h
  exact ⟨k, h1, rfl⟩
/-- the other world stays -/
theorem wG_kept {G G' : KyG} {N : Mem} {H H1 : Heap} (hdis : ∀ q, aG G q → ¬ aG G' q) (hP : va_P (gD G') vwCl (wG G' N) H) (hk : ∀ q : Nat, q < H.size → ¬ aG G q → H1[q]? = H[q]?) : va_P (gD G') vwCl (wG G' N) H1 := hP.kept (fun k q hq => hk q.1 ((hP k q hq).lt) (fun z => hdis _ z (wG_a hq)))
theorem lw_call {p : Program} {l : Launch} {e : Env} {s : State} {m : MethodId} {below : List Frame} {meth : Method} {c : Code} {b : Nat} {ρ : Type} {G : KyG} {rv : ρ → Option Value} {oc : Option (ρ × Mem)} {M M1 : Mem} {r : ρ} {y' : MethodName} {cc' : ByteArray} {nL' index n ci N' : Nat} {ret' : Option FieldType} {rm' : Room} {As st st0 : List Value} {CN : String} {T : u_T} {fl : (Nat → Int32) → Int64 → List Value} {pc cells slots : Nat} {ls : Array Slot} {H : Heap} {locs : List Loc} {Q : State → Prop}
    (C1 : CallFix p m c code 4 s #[Value.ref b] lw_tbl RL) (hG : GOK G) (hK : va_K (gD G) vwCl (gT G) s) (hX : gX G s) (hL : gL G = l) (hsub : ∀ q, aG G q → s.heap.size ≤ q)
    (hM : Ct G y' (wY y' cc' nL' ret') rm' rv (.ref (gA G 0) :: As) oc M) (ho : oc = some (r, M1)) (h0 : 0 < gN G) (cw : ∀ r h, gW G r h 0 = .inr (ci, fl r h)) (hc : vwCl[ci]? = some (CN, T, N')) (hg : GoodIn lw_tbl (wsV RL index CN y' (wY y' cc' nL' ret')))
    (hd : y'.cls = CN ∧ y'.cls ≠ "java/lang/invoke/MethodHandle" ∧ y'.cls ≠ "java/lang/invoke/VarHandle" ∧ (parseMethodDescriptor y'.desc).map (fun d => d.parameters.length) = some n) (hrm : rm'.cells = 0 ∧ rm'.slots = 0 ∧ rm'.frames + 1 ≤ room_1.frames ∧ 8 + (nL' + 11) + rm'.locals ≤ room_1.locals) (hn : As.length = n) (hst : st0 = As.reverse ++ .ref (gA G 0) :: st) (hroom : (st.map fun v => v.category).sum ≤ 8) (hls : ls.size = 4) (hf : cells ≤ room_1.cells ∧ slots ≤ room_1.slots) (d : decode code pc = .ok (.invokevirtual index, 3))
    (hP : va_P (gD G) vwCl (wG G M) H) (hS : va_S (fun q : Nat => s.heap.size ≤ q) s.heap H locs)
    (kk : ∀ (H1 : Heap) (locs1 : List Loc), va_P (gD G) vwCl (wG G M1) H1 → va_S (fun q : Nat => s.heap.size ≤ q) s.heap H1 locs1 → (∀ q : Nat, q < H.size → ¬ aG G q → H1[q]? = H[q]?) → W p l e room_1 s m #[Value.ref b] below meth c H1 locs1 cells slots Q (F0 m (pc + 3) ls ((rv r).toList ++ st))) : W p l e room_1 s m #[Value.ref b] below meth c H locs cells slots Q (F0 m pc ls st0) := by
  subst hst
  subst hL
  have hr := va_runV (l := gL G) (e := e) (below := below) (meth := meth) (locs := locs) (cells := cells) (slots := slots) (R := room_1) (g := F0 m pc ls (As.reverse ++ .ref (gA G 0) :: st)) (As := As) (rest := st) C1 (hM r M1 ho) (cwV n C1.2.2.2.2 hg rfl hrm.1 hrm.2.1 hd hrm.2.2) ⟨ky_blind hG, va_recv hK hP hc (by rw [wG_get h0, cw]), fun U hU hW => ⟨rfl, by rw [hU]; exact hP, va_K.moved hW.alike hK, hG.2.2 _ U hW (fun q h1 h2 => by rw [hU]; exact hS.2.1 q h1 (Nat.not_le.mpr h1)) hX⟩⟩ rfl hn hls rfl (lv_room hroom) d ⟨hf.1, hf.2⟩
  intro T' hT X
  obtain ⟨v', st₀, t, T2, L, h1, X', hLc, e1, e2, ⟨hv, hP1, hz, hk⟩, stp⟩ := hr T' hT X
  cases hv
  rw [h1] at hz hk
  obtain ⟨t2, a1, b1⟩ := kk T2.heap (locs ++ L) (by rw [e1]; exact hP1)
    ⟨Nat.le_trans hS.1 (by rw [e1]; exact hz), fun q g1 g2 => by rw [e1, hk q (Nat.lt_of_lt_of_le g1 hS.1) (fun z => g2 (hsub q z))]; exact hS.2.1 q g1 g2, fun q hq => by
      rcases List.mem_append.mp hq with h | h
      · exact hS.2.2 q h
      · exact hsub _ (hLc q h)⟩ (fun q g1 g2 => by rw [e1]; exact hk q g1 g2) T2 rfl X'
  exact ⟨t2, stp t2 a1, b1⟩
