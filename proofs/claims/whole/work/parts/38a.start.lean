/-! THE START: what the tables and the premises give -/
def stL : List (String × Nat) := [(RX4, 52), (RX6, 33), (RX6, 88), (RX6, 112), (RX6, 83), (RX12, 235), (RX12, 237), (RX12, 229), (RX12, 231), (RX12, 239), (RX12, 376), (RX12, 377), (RX12, 222), (RX12, 224), (RX12, 226), (RX12, 228), (RX12, 233), (RX12, 332), (RX12, 334)]
def stT (i : Nat) : Term := .string (stL.getD i ("", 0)).1 (stL.getD i ("", 0)).2
def stV (i : Nat) : Term := .field (stT i) "java/lang/String" "value" "[B"
def stC (i : Nat) : List Cond := Cond.exactly (stT i) "java/lang/String" :: Cond.eq (.field (stT i) "java/lang/String" "coder" "B") (.int 0) :: Cond.arrayOf (stV i) .byte :: Cond.eq (.length (stV i)) (.int (Int32.ofNat (qa_by.getD i []).length)) :: (List.range (qa_by.getD i []).length).map (fun j => Cond.eq (.elem (stV i) (.int (Int32.ofNat j))) (.int ((qa_by.getD i []).getD j 0)))
def stN : List Cond := flatC (Jvm.Cond.and given_1 narrow_1)
theorem st_in {l c : List Cond} {b n : Nat} (e : (l.drop b).take n = c) : ∀ w ∈ c, w ∈ l := fun w hw => List.mem_of_mem_drop (List.mem_of_mem_take (by rw [e]; exact hw))
theorem stC_0 : (stN.drop 33).take 28 = stC 0 := by decide +kernel
theorem stC_1 : (stN.drop 61).take 13 = stC 1 := by decide +kernel
theorem stC_2 : (stN.drop 75).take 7 = stC 2 := by decide +kernel
theorem stC_3 : (stN.drop 84).take 33 = stC 3 := by decide +kernel
theorem stC_4 : (stN.drop 120).take 10 = stC 4 := by decide +kernel
theorem stC_5 : (stN.drop 134).take 8 = stC 5 := by decide +kernel
theorem stC_6 : (stN.drop 147).take 8 = stC 6 := by decide +kernel
theorem stC_7 : (stN.drop 161).take 8 = stC 7 := by decide +kernel
theorem stC_8 : (stN.drop 176).take 8 = stC 8 := by decide +kernel
theorem stC_9 : (stN.drop 192).take 8 = stC 9 := by decide +kernel
theorem stC_10 : (stN.drop 209).take 9 = stC 10 := by decide +kernel
theorem stC_11 : (stN.drop 228).take 7 = stC 11 := by decide +kernel
theorem stC_12 : (stN.drop 265).take 5 = stC 12 := by decide +kernel
theorem stC_13 : (stN.drop 283).take 5 = stC 13 := by decide +kernel
theorem stC_14 : (stN.drop 302).take 9 = stC 14 := by decide +kernel
theorem stC_15 : (stN.drop 326).take 8 = stC 15 := by decide +kernel
theorem stC_16 : (stN.drop 350).take 8 = stC 16 := by decide +kernel
theorem stC_17 : (stN.drop 375).take 7 = stC 17 := by decide +kernel
theorem stC_18 : (stN.drop 400).take 6 = stC 18 := by decide +kernel
theorem stC_in : ∀ i, i < 19 → ∀ w ∈ stC i, w ∈ stN := by
  intro i hi
  have k : i = 0 ∨ i = 1 ∨ i = 2 ∨ i = 3 ∨ i = 4 ∨ i = 5 ∨ i = 6 ∨ i = 7 ∨ i = 8 ∨ i = 9 ∨ i = 10 ∨ i = 11 ∨ i = 12 ∨ i = 13 ∨ i = 14 ∨ i = 15 ∨ i = 16 ∨ i = 17 ∨ i = 18 := by omega
  rcases k with rfl | rfl | rfl | rfl | rfl | rfl | rfl | rfl | rfl | rfl | rfl | rfl | rfl | rfl | rfl | rfl | rfl | rfl | rfl
  · exact st_in stC_0
  · exact st_in stC_1
  · exact st_in stC_2
  · exact st_in stC_3
  · exact st_in stC_4
  · exact st_in stC_5
  · exact st_in stC_6
  · exact st_in stC_7
  · exact st_in stC_8
  · exact st_in stC_9
  · exact st_in stC_10
  · exact st_in stC_11
  · exact st_in stC_12
  · exact st_in stC_13
  · exact st_in stC_14
  · exact st_in stC_15
  · exact st_in stC_16
  · exact st_in stC_17
  · exact st_in stC_18
theorem st_318 : Cond.eq (.string RX6 88) (.string RX12 318) ∈ stN := List.mem_of_getElem? (i := 255) (by decide +kernel)
theorem st_cs : Cond.eq (.static "java/lang/String" "COMPACT_STRINGS" "Z") (.int 1) ∈ stN := List.mem_of_getElem? (i := 4) (by decide +kernel)
theorem st_sio : Cond.isRef (.static "jdk/internal/util/Preconditions" "SIOOBE_FORMATTER" "Ljava/util/function/BiFunction;") ∈ stN := List.mem_of_getElem? (i := 5) (by decide +kernel)
theorem st_one {args : Array Value} {s : State} {A : Nat → Prop} (hs : ∀ w ∈ stN, w.before args s = true) (hA : ∀ a : Nat, a < s.heap.size → ¬ A a) {i : Nat} (hi : i < 19) : ∃ q : Nat × Nat, (stT i).eval args s none [] s = some (.ref q.1) ∧ va_O "java/lang/String" q.1 A s s.heap ∧ va_OF "java/lang/String" "coder" "B" (.int 0) q.1 A s s.heap ∧ va_OF "java/lang/String" "value" "[B" (.ref q.2) q.1 A s s.heap ∧ va_T .byte q.2 (qa_by.getD i []).length (fun j => .int ((qa_by.getD i []).getD j 0)) A s s.heap := by
  have m := stC_in i hi
  unfold stC at m
  have h1 := hs _ (m _ List.mem_cons_self)
  have h2 := hs _ (m _ (List.mem_cons_of_mem _ List.mem_cons_self))
  have h3 := hs _ (m _ (List.mem_cons_of_mem _ (List.mem_cons_of_mem _ List.mem_cons_self)))
  have h4 := hs _ (m _ (List.mem_cons_of_mem _ (List.mem_cons_of_mem _ (List.mem_cons_of_mem _ List.mem_cons_self))))
  have h5 : ∀ j, j < (qa_by.getD i []).length → (Cond.eq (.elem (stV i) (.int (Int32.ofNat j))) (.int ((qa_by.getD i []).getD j 0))).before args s = true := fun j hj => hs _ (m _ (List.mem_cons_of_mem _ (List.mem_cons_of_mem _ (List.mem_cons_of_mem _ (List.mem_cons_of_mem _ (List.mem_map.mpr ⟨j, List.mem_range.mpr hj, rfl⟩))))))
  have hn : ∀ i, i < 19 → (qa_by.getD i []).length < 2 ^ 31 := by decide
  obtain ⟨a, -, -, -, e1, -⟩ := Cond.exactly_spec (args := args) (first := s) (o := none) (s := s) (idx := []) h1
  obtain ⟨t, e2, e3⟩ := va_Tof (f := fun j => .int ((qa_by.getD i []).getD j 0)) (A := A) (hn i hi) h3 (va_eqt h4) (fun j hj => va_eqt (h5 j hj)) hA
  exact ⟨(a, t), e1, va_Oof h1 e1 hA, vk_OFof e1 (va_eqt h2) hA, vk_OFof e1 e2 hA, e3⟩
theorem st_ac {args : Array Value} {s : State} {ty : FieldType} (h : (Cond.arrayClass ty).before args s = true) : ∃ c : ClassId, s.vm.findClass ("[" ++ ty.toString) = some c ∧ ArrOfT s c ty := by
  obtain ⟨c, k, comp, h1, h2, h3⟩ := Cond.arrayClass_spec (args := args) (first := s) (o := none) (s := s) (idx := []) h
  exact ⟨c, h1, fun n z => ⟨fun k h => (by cases h), k, h2, comp, h3⟩⟩
theorem st_ao {args : Array Value} {s : State} {C : String} (h : (Cond.arrayOver (.object C)).before args s = true) : ∃ c : ClassId, ArrOfT s c (.object C) ∧ va_RA s c (.object C) := by
  obtain ⟨comp, c, k, h1, -, h2, h3, h4⟩ := Cond.arrayOver_spec (args := args) (first := s) (o := none) (s := s) (idx := []) h
  exact ⟨c, fun n z => ⟨fun k h => (by cases h), k, h2, comp, h3⟩, k, comp, h2, h3, h1, h4⟩
theorem st_cl {args : Array Value} {s : State} (hts : ∀ w ∈ qw_tbl, w.before args s = true) : ∃ D : va_G, ∀ (c : Nat) (q : vw_C), qa_cl[c]? = some q → u_Kn s q.1 q.2.1 q.2.2 (D.1 c) (D.2 c) := by
  have h : ∀ c : Nat, ∃ d : ClassId × (Nat → Nat), ∀ q : vw_C, qa_cl[c]? = some q → u_Kn s q.1 q.2.1 q.2.2 d.1 d.2 := by
    intro c
    by_cases hc : c < 12
    · have k : c = 0 ∨ c = 1 ∨ c = 2 ∨ c = 3 ∨ c = 4 ∨ c = 5 ∨ c = 6 ∨ c = 7 ∨ c = 8 ∨ c = 9 ∨ c = 10 ∨ c = 11 := by omega
      rcases k with rfl | rfl | rfl | rfl | rfl | rfl | rfl | rfl | rfl | rfl | rfl | rfl
      · obtain ⟨cC, iS, u⟩ := u_known (C := RX0) (T := TX0) (N := 16) (n := 16) hts clok_X0.1 (hts _ tb_443)
        exact ⟨(cC, iS), fun q hq => by cases hq; exact u⟩
      · obtain ⟨cC, iS, u⟩ := u_known (C := RX1) (T := TX1) (N := 7) (n := 7) hts clok_X1.1 (hts _ tb_415)
        exact ⟨(cC, iS), fun q hq => by cases hq; exact u⟩
      · obtain ⟨cC, iS, u⟩ := u_known (C := RX3) (T := TX3) (N := 13) (n := 13) hts clok_X3.1 (hts _ tb_198)
        exact ⟨(cC, iS), fun q hq => by cases hq; exact u⟩
      · obtain ⟨cC, iS, u⟩ := u_known (C := RX4) (T := TX4) (N := 6) (n := 6) hts clok_X4.1 (hts _ tb_303)
        exact ⟨(cC, iS), fun q hq => by cases hq; exact u⟩
      · obtain ⟨cC, iS, u⟩ := u_known (C := RX5) (T := TX5) (N := 11) (n := 11) hts clok_X5.1 (hts _ tb_510)
        exact ⟨(cC, iS), fun q hq => by cases hq; exact u⟩
      · obtain ⟨cC, iS, u⟩ := u_known (C := RX6) (T := TX6) (N := 4) (n := 4) hts clok_X6.1 (hts _ tb_329)
        exact ⟨(cC, iS), fun q hq => by cases hq; exact u⟩
      · obtain ⟨cC, iS, u⟩ := u_known (C := RX7) (T := TX7) (N := 17) (n := 17) hts clok_X7.1 (hts _ tb_348)
        exact ⟨(cC, iS), fun q hq => by cases hq; exact u⟩
      · obtain ⟨cC, iS, u⟩ := u_known (C := RX8) (T := TX8) (N := 5) (n := 5) hts clok_X8.1 (hts _ tb_192)
        exact ⟨(cC, iS), fun q hq => by cases hq; exact u⟩
      · obtain ⟨cC, iS, u⟩ := u_known (C := RX9) (T := TX9) (N := 8) (n := 8) hts clok_X9.1 (hts _ tb_150)
        exact ⟨(cC, iS), fun q hq => by cases hq; exact u⟩
      · obtain ⟨cC, iS, u⟩ := u_known (C := RX10) (T := TX10) (N := 2) (n := 2) hts clok_X10.1 (hts _ tb_498)
        exact ⟨(cC, iS), fun q hq => by cases hq; exact u⟩
      · obtain ⟨cC, iS, u⟩ := u_known (C := RX11) (T := TX11) (N := 15) (n := 15) hts clok_X11.1 (hts _ tb_142)
        exact ⟨(cC, iS), fun q hq => by cases hq; exact u⟩
      · obtain ⟨cC, iS, u⟩ := u_known (C := RX12) (T := TX12) (N := 64) (n := 64) hts clok_X12.1 (hts _ tb_1331)
        exact ⟨(cC, iS), fun q hq => by cases hq; exact u⟩
    · exact ⟨(0, fun _ => 0), fun q hq => absurd (List.getElem?_eq_some_iff.mp hq).1 hc⟩
  obtain ⟨d, hd⟩ := Classical.axiomOfChoice h
  exact ⟨(fun c => (d c).1, fun c => (d c).2), fun c q hq => hd c q hq⟩
theorem st_nest : ∀ w ∈ qa_nest, w ∈ lw_tbl := by
  unfold qa_nest
  exact List.forall_mem_cons.mpr ⟨qw_m1 (List.mem_of_getElem? (i := 33) rfl), List.forall_mem_cons.mpr ⟨qw_m1 (List.mem_of_getElem? (i := 75) rfl), List.forall_mem_cons.mpr ⟨qw_m1 (List.mem_of_getElem? (i := 81) rfl), List.forall_mem_cons.mpr ⟨qw_m1 (List.mem_of_getElem? (i := 183) rfl), List.forall_mem_cons.mpr ⟨qw_m2 (List.mem_of_getElem? (i := 58) rfl), List.forall_mem_cons.mpr ⟨qw_m2 (List.mem_of_getElem? (i := 86) rfl), List.forall_mem_cons.mpr ⟨qw_m2 (List.mem_of_getElem? (i := 141) rfl), List.forall_mem_cons.mpr ⟨qw_m2 (List.mem_of_getElem? (i := 153) rfl), List.forall_mem_cons.mpr ⟨qw_m4 (List.mem_of_getElem? (i := 40) rfl), fun _ h => absurd h List.not_mem_nil⟩⟩⟩⟩⟩⟩⟩⟩⟩
theorem st_refs {args : Array Value} {s : State} {ad : Nat → Nat} (hts : ∀ w ∈ lw_tbl, w.before args s = true) (hs : ∀ w ∈ stN, w.before args s = true) (he : ∀ i, i < 19 → (stT i).eval args s none [] s = some (.ref (ad i))) : ∀ r ∈ qa_sr, vk_R r.1 r.2.1 r.2.2.1 (ad r.2.2.2) s := by
  unfold qa_sr
  refine List.forall_mem_cons.mpr ⟨vk_R.of (hts _ (qw_m3 (List.mem_of_getElem? (i := 37) rfl))) (he 0 (by decide)), ?_⟩
  refine List.forall_mem_cons.mpr ⟨vk_R.of (hts _ (qw_m3 (List.mem_of_getElem? (i := 195) rfl))) (he 1 (by decide)), ?_⟩
  refine List.forall_mem_cons.mpr ⟨vk_R.of (hts _ (qw_m3 (List.mem_of_getElem? (i := 224) rfl))) (he 2 (by decide)), ?_⟩
  refine List.forall_mem_cons.mpr ⟨vk_R.of (hts _ (qw_m3 (List.mem_of_getElem? (i := 234) rfl))) (he 3 (by decide)), ?_⟩
  refine List.forall_mem_cons.mpr ⟨vk_R.of (hts _ (qw_m4 (List.mem_of_getElem? (i := 16) rfl))) (he 4 (by decide)), ?_⟩
  refine List.forall_mem_cons.mpr ⟨vk_R.of (hts _ (qw_m7 (List.mem_of_getElem? (i := 58) rfl))) (he 5 (by decide)), ?_⟩
  refine List.forall_mem_cons.mpr ⟨vk_R.of (hts _ (qw_m7 (List.mem_of_getElem? (i := 59) rfl))) (he 6 (by decide)), ?_⟩
  refine List.forall_mem_cons.mpr ⟨vk_R.of (hts _ (qw_m7 (List.mem_of_getElem? (i := 60) rfl))) (he 7 (by decide)), ?_⟩
  refine List.forall_mem_cons.mpr ⟨vk_R.of (hts _ (qw_m7 (List.mem_of_getElem? (i := 61) rfl))) (he 8 (by decide)), ?_⟩
  refine List.forall_mem_cons.mpr ⟨vk_R.of (hts _ (qw_m7 (List.mem_of_getElem? (i := 62) rfl))) (he 9 (by decide)), ?_⟩
  refine List.forall_mem_cons.mpr ⟨vk_R.of (hts _ (qw_m7 (List.mem_of_getElem? (i := 135) rfl))) (he 10 (by decide)), ?_⟩
  refine List.forall_mem_cons.mpr ⟨vk_R.of (hts _ (qw_m7 (List.mem_of_getElem? (i := 136) rfl))) (he 11 (by decide)), ?_⟩
  refine List.forall_mem_cons.mpr ⟨vk_R.of (hts _ (qw_m7 (List.mem_of_getElem? (i := 145) rfl))) (va_eqR (hs _ st_318) (he 2 (by decide))), ?_⟩
  refine List.forall_mem_cons.mpr ⟨vk_R.of (hts _ (qw_m7 (List.mem_of_getElem? (i := 177) rfl))) (he 12 (by decide)), ?_⟩
  refine List.forall_mem_cons.mpr ⟨vk_R.of (hts _ (qw_m7 (List.mem_of_getElem? (i := 178) rfl))) (he 13 (by decide)), ?_⟩
  refine List.forall_mem_cons.mpr ⟨vk_R.of (hts _ (qw_m7 (List.mem_of_getElem? (i := 179) rfl))) (he 14 (by decide)), ?_⟩
  refine List.forall_mem_cons.mpr ⟨vk_R.of (hts _ (qw_m7 (List.mem_of_getElem? (i := 180) rfl))) (he 15 (by decide)), ?_⟩
  refine List.forall_mem_cons.mpr ⟨vk_R.of (hts _ (qw_m7 (List.mem_of_getElem? (i := 181) rfl))) (he 16 (by decide)), ?_⟩
  refine List.forall_mem_cons.mpr ⟨vk_R.of (hts _ (qw_m7 (List.mem_of_getElem? (i := 190) rfl))) (he 17 (by decide)), ?_⟩
  refine List.forall_mem_cons.mpr ⟨vk_R.of (hts _ (qw_m7 (List.mem_of_getElem? (i := 191) rfl))) (he 18 (by decide)), ?_⟩
  exact fun _ h => absurd h List.not_mem_nil
/-- the start gives the law's ground -/
theorem st_base {args : Array Value} {s : State} {b L : Nat} {xs : Nat → Int32} (hts : ∀ w ∈ lw_tbl, w.before args s = true) (hs : ∀ w ∈ stN, w.before args s = true) (hX : va_X b L xs s s.heap) (hb : b < s.heap.size) : ∃ g : qa_G, g.1 = s.heap.size ∧ g.2.2.2.2.2 = (b, L, xs) ∧ qa_S g s s.heap := by
  have htq : ∀ w ∈ qw_tbl, w.before args s = true := fun w hw => hts w (List.mem_filter.mp hw).1
  have hA : ∀ a : Nat, a < s.heap.size → ¬ (s.heap.size ≤ a) := fun a h => Nat.not_le.mpr h
  obtain ⟨D, hD⟩ := st_cl htq
  obtain ⟨a0, f0, r0⟩ := st_ac (htq _ tb_190)
  obtain ⟨a1, f1, r1⟩ := st_ac (htq _ tb_273)
  obtain ⟨a2, f2, r2⟩ := st_ac (htq _ tb_779)
  obtain ⟨a3, f3, r3⟩ := st_ac (htq _ tb_327)
  have h8 : (Cond.arrayOver (.object RX8)).before args s = true := hts _ (qw_m1 (List.mem_of_getElem? (i := 179) rfl))
  have h5 : (Cond.arrayOver (.object RX5)).before args s = true := hts _ (qw_m1 (List.mem_of_getElem? (i := 181) rfl))
  obtain ⟨a4, r4, v4⟩ := st_ao h8
  obtain ⟨a5, r5, v5⟩ := st_ao h5
  obtain ⟨ad, had⟩ := Classical.axiomOfChoice (fun i : Nat => show ∃ q : Nat × Nat, i < 19 → (stT i).eval args s none [] s = some (.ref q.1) ∧ va_O "java/lang/String" q.1 (fun q => s.heap.size ≤ q) s s.heap ∧ va_OF "java/lang/String" "coder" "B" (.int 0) q.1 (fun q => s.heap.size ≤ q) s s.heap ∧ va_OF "java/lang/String" "value" "[B" (.ref q.2) q.1 (fun q => s.heap.size ≤ q) s s.heap ∧ va_T .byte q.2 (qa_by.getD i []).length (fun j => .int ((qa_by.getD i []).getD j 0)) (fun q => s.heap.size ≤ q) s s.heap from by
    by_cases hi : i < 19
    · obtain ⟨q, hq⟩ := st_one hs hA hi
      exact ⟨q, fun _ => hq⟩
    · exact ⟨(0, 0), fun h => absurd h hi⟩)
  refine ⟨(s.heap.size, D, fun k => ([a0, a1, a2, a3, a4, a5] : List ClassId).getD k 0, fun i => (ad i).1, fun i => (ad i).2, b, L, xs), rfl, rfl, ⟨hD, ?_⟩, fun i hi => (had i hi).2, st_refs hts hs (fun i hi => (had i hi).1), ?_, ?_, fun n hn => va_Nw.of (qa_nestT n hn) (hts n (st_nest n hn)), va_AO.of h8, va_AO.of h5, hb, Nat.le_refl _, hX⟩
  · intro k q hq
    by_cases hk : k < 6
    · have c : k = 0 ∨ k = 1 ∨ k = 2 ∨ k = 3 ∨ k = 4 ∨ k = 5 := by omega
      rcases c with rfl | rfl | rfl | rfl | rfl | rfl
      · cases hq; exact ⟨r0, f0⟩
      · cases hq; exact ⟨r1, f1⟩
      · cases hq; exact ⟨r2, f2⟩
      · cases hq; exact ⟨r3, f3⟩
      · cases hq; exact ⟨r4, v4⟩
      · cases hq; exact ⟨r5, v5⟩
    · exact absurd (List.getElem?_eq_some_iff.mp hq).1 hk
  · exact va_Zof (hts _ (qw_m3 (List.mem_of_getElem? (i := 51) rfl))) (hts _ (qw_m1 (List.mem_of_getElem? (i := 14) rfl))) (va_eqi (hs _ st_cs)) hA
  · exact va_Zqof (hts _ (qw_m3 (List.mem_of_getElem? (i := 67) rfl))) (hts _ (qw_m1 (List.mem_of_getElem? (i := 16) rfl))) (hs _ st_sio) hA
