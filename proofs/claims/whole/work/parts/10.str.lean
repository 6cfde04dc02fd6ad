/-! TEXTS: length() and charAt() of the constants -/
def qa_len (k : Nat) : Nat := (qa_by.getD k []).length
def qa_ch (k j : Nat) : Int32 := (qa_by.getD k []).getD j 0
section q10_sec
variable {l : Launch} {g : qa_G} {y : MethodName} {cc : ByteArray} {nL : Nat} {rt : Option FieldType} {d b u pc : Nat} {lv : List (Nat × Value)} {st : List Value} {h h2 : qa_M} {r : Option Value}
theorem qt_strval {i idx : Nat} (hi : i < 19) (hk : Cond.fieldLink y.cls idx "java/lang/String" "value" "[B" ∈ qw_tbl) (dg : decode cc pc = .ok (.getfield idx, 3)) (k : qt_At l g (y, cc, nL, rt) d b u (pc + 3) lv (.ref (g.2.2.2.2.1 i) :: st) h r h2) : qt_At l g (y, cc, nL, rt) d b u pc lv (.ref (g.2.2.2.1 i) :: st) h r h2 := qs_strval hi hk dg k
theorem qt_strcoder {i idx : Nat} (hi : i < 19) (hk : Cond.fieldLink y.cls idx "java/lang/String" "coder" "B" ∈ qw_tbl) (dg : decode cc pc = .ok (.getfield idx, 3)) (k : qt_At l g (y, cc, nL, rt) d b u (pc + 3) lv (.int 0 :: st) h r h2) : qt_At l g (y, cc, nL, rt) d b u pc lv (.ref (g.2.2.2.1 i) :: st) h r h2 := qs_strcoder hi hk dg k
theorem qt_strlenB {i : Nat} {v : Int32} (hi : i < 19) (hv : Int32.ofNat (qa_by.getD i []).length = v) (dg : decode cc pc = .ok (.arraylength, 1)) (k : qt_At l g (y, cc, nL, rt) d b u (pc + 1) lv (.int v :: st) h r h2) : qt_At l g (y, cc, nL, rt) d b u pc lv (.ref (g.2.2.2.2.1 i) :: st) h r h2 := qs_strlenB hi hv dg k
theorem qt_strbyte {i : Nat} {x : Int32} (hi : i < 19) (hx : vp_in x (qa_by.getD i []).length) (dg : decode cc pc = .ok (.baload, 1)) (k : qt_At l g (y, cc, nL, rt) d b u (pc + 1) lv (.int ((qa_by.getD i []).getD x.toNatClampNeg 0) :: st) h r h2) : qt_At l g (y, cc, nL, rt) d b u pc lv (.int x :: .ref (g.2.2.2.2.1 i) :: st) h r h2 := qs_strbyte hi hx dg k
theorem qt_compact {idx : Nat} (hk : Cond.fieldLink y.cls idx "java/lang/String" "COMPACT_STRINGS" "Z" ∈ qw_tbl) (dg : decode cc pc = .ok (.getstatic idx, 3)) (k : qt_At l g (y, cc, nL, rt) d b u (pc + 3) lv (.int 1 :: st) h r h2) : qt_At l g (y, cc, nL, rt) d b u pc lv st h r h2 := qs_compact hk dg k
theorem qt_sioobe {idx : Nat} (hk : Cond.fieldLink y.cls idx "jdk/internal/util/Preconditions" "SIOOBE_FORMATTER" "Ljava/util/function/BiFunction;" ∈ qw_tbl) (dg : decode cc pc = .ok (.getstatic idx, 3)) (k : ∀ v : Value, v.category = 1 → qt_At l g (y, cc, nL, rt) d b u (pc + 3) lv (v :: st) h r h2) : qt_At l g (y, cc, nL, rt) d b u pc lv st h r h2 := qs_sioobe hk dg k
theorem qt_ret {v : Int32} {ty : FieldType} (hrt : rt = some ty) (hn : narrow ty (.int v) = .int v) (hu : u ≤ b) (dg : decode cc pc = .ok (.ireturn, 1)) : qt_At l g (y, cc, nL, rt) d b u pc lv [.int v] h (some (.int v)) h := qs_zreturn hrt hn hu (Nat.mul_le_mul_left _ hu) dg ⟨rfl, rfl, rfl⟩
theorem qt_callT {y2 : MethodName} {cc2 : ByteArray} {nL2 : Nat} {rt2 : Option FieldType} {i idx n : Nat} {rest : List Value} {h1 : qa_M} {x : Int32} (hi : i < 19) (As : List Value) (hM : qt_Met l g (y2, cc2, nL2, rt2) d 0 (.ref (g.2.2.2.1 i) :: As) h (some (.int x)) h1) (cv : qa_cv y.cls idx (y2, cc2, nL2, rt2) n) (hcl : y2.cls = "java/lang/String") (hn : As.length = n) (hroom : (rest.map fun v => v.category).sum ≤ 8) (hu : u ≤ b) (dg : decode cc pc = .ok (.invokevirtual idx, 3)) (kk : qt_At l g (y, cc, nL, rt) (d + 1) b u (pc + 3) lv (.int x :: rest) h1 r h2) : qt_At l g (y, cc, nL, rt) (d + 1) b u pc lv (As.reverse ++ .ref (g.2.2.2.1 i) :: rest) h r h2 := by
  refine qs_invT hi hM cv hcl hn hroom dg hu (Nat.mul_le_mul_left _ hu) ?_
  rintro r3 w3 h3 ⟨rfl, rfl, rfl⟩
  exact kk
end q10_sec
theorem cvJ_335 : qa_cv RJ0 335 (yJ0_coder_7d493, cJ0_coder_7d493, 1, some .byte) 0 := ⟨tb_644, tb_645, tb_646, tb_132, tb_647, ⟨by decide +kernel, by decide +kernel, by decide +kernel⟩, Nat.le_of_ble_eq_true rfl⟩
theorem cvJ_492 : qa_cv RJ0 492 (yJ0_isLatin1_aae02, cJ0_isLatin1_aae02, 1, some .boolean) 0 := ⟨tb_654, tb_655, tb_656, tb_132, tb_657, ⟨by decide +kernel, by decide +kernel, by decide +kernel⟩, Nat.le_of_ble_eq_true rfl⟩
theorem cvJ_495 : qa_cs RJ0 495 (yJ1_charAt_3b067, cJ1_charAt_3b067, 2, some .char) 2 := ⟨tb_658, tb_659, tb_133, tb_660, ⟨by decide +kernel, by decide +kernel, by decide +kernel⟩, Nat.le_of_ble_eq_true rfl⟩
theorem cvJ_9 : qa_cs RJ1 9 (yJ0_checkIndex_df160, cJ0_checkIndex_df160, 2, none) 2 := ⟨tb_661, tb_662, tb_132, tb_663, ⟨by decide +kernel, by decide +kernel, by decide +kernel⟩, Nat.le_of_ble_eq_true rfl⟩
theorem cvJ_1059 : qa_cs RJ0 1059 (yJ3_checkIndex_8e157, cJ3_checkIndex_8e157, 3, some .int) 3 := ⟨tb_666, tb_667, tb_134, tb_668, ⟨by decide +kernel, by decide +kernel, by decide +kernel⟩, Nat.le_of_ble_eq_true rfl⟩
theorem cJ_coder {l : Launch} {g : qa_G} {d : Nat} {i : Nat} (hi : i < 19) (h : qa_M) : qt_Met l g (yJ0_coder_7d493, cJ0_coder_7d493, 1, some .byte) d 0 [.ref (g.2.2.2.1 i)] h (some (.int 0)) h := by
  refine qt_Met.of (plainFor_of_name (by decide)) (Nat.le_of_ble_eq_true rfl) ?_
  refine qt_compact tb_648 dJ0_coder_7d493_0 ?_
  refine qt_if_eq (A := none) (B := some ()) (z := ()) 13 dJ0_coder_7d493_3 (by decide) (if_neg (by decide)) (fun E => by cases E) (fun _ => ?_)
  refine qt_aload_n 0 dJ0_coder_7d493_6 rfl rfl ?_
  refine qt_strcoder hi tb_2009 dJ0_coder_7d493_7 ?_
  refine qt_goto 14 dJ0_coder_7d493_10 (by decide) ?_
  exact qt_ret rfl rfl (Nat.le_refl _) dJ0_coder_7d493_14
theorem cJ_isLatin1 {l : Launch} {g : qa_G} {d : Nat} {i : Nat} (hi : i < 19) (h : qa_M) : qt_Met l g (yJ0_isLatin1_aae02, cJ0_isLatin1_aae02, 1, some .boolean) d 0 [.ref (g.2.2.2.1 i)] h (some (.int 1)) h := by
  refine qt_Met.of (plainFor_of_name (by decide)) (Nat.le_of_ble_eq_true rfl) ?_
  refine qt_compact tb_648 dJ0_isLatin1_aae02_0 ?_
  refine qt_if_eq (A := none) (B := some ()) (z := ()) 17 dJ0_isLatin1_aae02_3 (by decide) (if_neg (by decide)) (fun E => by cases E) (fun _ => ?_)
  refine qt_aload_n 0 dJ0_isLatin1_aae02_6 rfl rfl ?_
  refine qt_strcoder hi tb_2009 dJ0_isLatin1_aae02_7 ?_
  refine qt_if_ne (A := some ()) (B := none) (z := ()) 17 dJ0_isLatin1_aae02_10 (by decide) (if_pos rfl) (fun E => by cases E) (fun _ => ?_)
  refine qt_iconst (v := 1) dJ0_isLatin1_aae02_13 (by decide) ?_
  refine qt_goto 18 dJ0_isLatin1_aae02_14 (by decide) ?_
  exact qt_ret rfl rfl (Nat.le_refl _) dJ0_isLatin1_aae02_18
theorem qa_len_shr : ∀ i, i < 19 → nI (qa_len i) >>> ((0 : Int32) &&& 31) = nI (qa_len i) := by decide
theorem cJ_length {l : Launch} {g : qa_G} {d : Nat} {i : Nat} (hi : i < 19) (h : qa_M) : qt_Met l g (yJ0_length_8abf5, cJ0_length_8abf5, 1, some .int) (d + 1) 0 [.ref (g.2.2.2.1 i)] h (some (.int (nI (qa_len i)))) h := by
  refine qt_Met.of (plainFor_of_name (by decide)) (Nat.le_of_ble_eq_true rfl) ?_
  refine qt_aload_n 0 dJ0_length_8abf5_0 rfl rfl ?_
  refine qt_strval hi tb_2008 dJ0_length_8abf5_1 ?_
  refine qt_strlenB (v := nI (qa_len i)) hi rfl dJ0_length_8abf5_4 ?_
  refine qt_aload_n 0 dJ0_length_8abf5_5 rfl rfl ?_
  refine qt_callT hi [] (cJ_coder hi h) cvJ_335 rfl rfl (Nat.le_of_ble_eq_true rfl) (Nat.le_refl _) dJ0_length_8abf5_6 ?_
  refine qt_ishr dJ0_length_8abf5_9 ?_
  rw [qa_len_shr i hi]
  exact qt_ret rfl rfl (Nat.le_refl _) dJ0_length_8abf5_10
theorem cJ_check3 {l : Launch} {g : qa_G} {d : Nat} {x n : Int32} {v : Value} (hv : v.category = 1) (h0 : ¬ x < 0) (h1 : x < n) (h : qa_M) : qt_Met l g (yJ3_checkIndex_8e157, cJ3_checkIndex_8e157, 3, some .int) d 0 [.int x, .int n, v] h (some (.int x)) h := by
  refine qt_Met.of (plainFor_of_name (by decide)) (by cases v <;> first | exact Nat.le_of_ble_eq_true rfl | cases hv) ?_
  refine qt_sub [(0, .int x), (1, .int n)] [0, 1] rfl ?_
  refine qt_iload_n 0 dJ3_checkIndex_8e157_0 rfl rfl ?_
  refine qt_if_lt (A := none) (B := some ()) (z := ()) 9 dJ3_checkIndex_8e157_1 (by decide) (if_neg h0) (fun E => by cases E) (fun _ => ?_)
  refine qt_iload_n 0 dJ3_checkIndex_8e157_4 rfl rfl ?_
  refine qt_iload_n 1 dJ3_checkIndex_8e157_5 rfl rfl ?_
  refine qt_icmp_lt (A := some ()) (B := none) (z := ()) 16 dJ3_checkIndex_8e157_6 (by decide) (if_pos h1) (fun _ => ?_) (fun E => by cases E)
  refine qt_iload_n 0 dJ3_checkIndex_8e157_16 rfl rfl ?_
  exact qt_ret rfl rfl (Nat.le_refl _) dJ3_checkIndex_8e157_17
theorem cJ_check2 {l : Launch} {g : qa_G} {d : Nat} {x n : Int32} (h0 : ¬ x < 0) (h1 : x < n) (h : qa_M) : qt_Met l g (yJ0_checkIndex_df160, cJ0_checkIndex_df160, 2, none) (d + 1) 0 [.int x, .int n] h none h := by
  refine qt_Met.of (plainFor_of_name (by decide)) (Nat.le_of_ble_eq_true rfl) ?_
  refine qt_iload_n 0 dJ0_checkIndex_df160_0 rfl rfl ?_
  refine qt_iload_n 1 dJ0_checkIndex_df160_1 rfl rfl ?_
  refine qt_sioobe tb_664 dJ0_checkIndex_df160_2 (fun v hv => ?_)
  refine qt_callSi (b2 := 0) [.int x, .int n, v] (cJ_check3 hv h0 h1 h) cvJ_1059 rfl (Nat.le_of_ble_eq_true rfl) (Nat.le_refl _) dJ0_checkIndex_df160_5 ?_
  refine qt_pop dJ0_checkIndex_df160_8 rfl ?_
  exact qt_vreturn rfl (Nat.le_refl _) dJ0_checkIndex_df160_9 rfl ⟨rfl, rfl⟩
theorem qa_ch_nf : ∀ i, i < 19 → ∀ j, j < qa_len i → ((qa_ch i j &&& 255).toUInt32 % 65536).toInt32 = qa_ch i j ∧ narrow .char (.int (qa_ch i j)) = .int (qa_ch i j) := by decide
theorem cJ_charAt1 {l : Launch} {g : qa_G} {d : Nat} {i : Nat} {x : Int32} (hi : i < 19) (hx : vp_in x (qa_len i)) (h : qa_M) : qt_Met l g (yJ1_charAt_3b067, cJ1_charAt_3b067, 2, some .char) (d + 2) 0 [.ref (g.2.2.2.2.1 i), .int x] h (some (.int (qa_ch i x.toNatClampNeg))) h := by
  have hlt : x.toNatClampNeg < qa_len i := qa_lt_of hx
  obtain ⟨e1, e2⟩ := qa_ch_nf i hi _ hlt
  have h0 : ¬ x < 0 := fun q => hx (Or.inl q)
  have hL : qa_len i < 2 ^ 31 := Nat.lt_of_le_of_lt ((show ∀ i, i < 19 → qa_len i ≤ 100 by decide) i hi) (by decide)
  have h1 : x < nI (qa_len i) := by
    obtain ⟨j, hj, rfl⟩ := vp_in_of hx hL
    exact nI_lt hj hL
  refine qt_Met.of (plainFor_of_name (by decide)) (Nat.le_of_ble_eq_true rfl) ?_
  refine qt_iload_n 1 dJ1_charAt_3b067_0 rfl rfl ?_
  refine qt_aload_n 0 dJ1_charAt_3b067_1 rfl rfl ?_
  refine qt_strlenB (v := nI (qa_len i)) hi rfl dJ1_charAt_3b067_2 ?_
  refine qt_callSv (b2 := 0) [.int x, .int (nI (qa_len i))] (cJ_check2 h0 h1 h) cvJ_9 rfl (Nat.le_of_ble_eq_true rfl) (Nat.le_refl _) dJ1_charAt_3b067_3 ?_
  refine qt_aload_n 0 dJ1_charAt_3b067_6 rfl rfl ?_
  refine qt_iload_n 1 dJ1_charAt_3b067_7 rfl rfl ?_
  refine qt_strbyte hi hx dJ1_charAt_3b067_8 ?_
  refine qt_sipush (v := 255) dJ1_charAt_3b067_9 (by decide) ?_
  refine qt_iand dJ1_charAt_3b067_12 ?_
  refine qt_i2c dJ1_charAt_3b067_13 ?_
  rw [show (((qa_by.getD i []).getD x.toNatClampNeg 0 &&& 255).toUInt32 % 65536).toInt32 = qa_ch i x.toNatClampNeg from e1]
  exact qt_ret rfl e2 (Nat.le_refl _) dJ1_charAt_3b067_14
theorem cJ_charAt {l : Launch} {g : qa_G} {d : Nat} {i : Nat} {x : Int32} (hi : i < 19) (hx : vp_in x (qa_len i)) (h : qa_M) : qt_Met l g (yJ0_charAt_5068e, cJ0_charAt_5068e, 2, some .char) (d + 3) 0 [.ref (g.2.2.2.1 i), .int x] h (some (.int (qa_ch i x.toNatClampNeg))) h := by
  obtain ⟨e1, e2⟩ := qa_ch_nf i hi _ (qa_lt_of hx)
  refine qt_Met.of (plainFor_of_name (by decide)) (Nat.le_of_ble_eq_true rfl) ?_
  refine qt_aload_n 0 dJ0_charAt_5068e_0 rfl rfl ?_
  refine qt_callT hi [] (cJ_isLatin1 hi h) cvJ_492 rfl rfl (Nat.le_of_ble_eq_true rfl) (Nat.le_refl _) dJ0_charAt_5068e_1 ?_
  refine qt_if_eq (A := none) (B := some ()) (z := ()) 16 dJ0_charAt_5068e_4 (by decide) (if_neg (by decide)) (fun E => by cases E) (fun _ => ?_)
  refine qt_aload_n 0 dJ0_charAt_5068e_7 rfl rfl ?_
  refine qt_strval hi tb_2008 dJ0_charAt_5068e_8 ?_
  refine qt_iload_n 1 dJ0_charAt_5068e_11 rfl rfl ?_
  refine qt_callSi (b2 := 0) [.ref (g.2.2.2.2.1 i), .int x] (cJ_charAt1 hi hx h) cvJ_495 rfl (Nat.le_of_ble_eq_true rfl) (Nat.le_refl _) dJ0_charAt_5068e_12 ?_
  exact qt_ret rfl e2 (Nat.le_refl _) dJ0_charAt_5068e_15
section q11_sec
variable {l : Launch} {g : qa_G} {y : MethodName} {cc : ByteArray} {nL : Nat} {rt : Option FieldType} {d b u pc : Nat} {lv : List (Nat × Value)} {st : List Value} {h h2 : qa_M} {r : Option Value}
theorem qt_strlen {i idx : Nat} (hi : i < 19) (hk : Cond.methodLink y.cls idx yJ0_length_8abf5 ∈ qw_tbl) (dg : decode cc pc = .ok (.invokevirtual idx, 3)) (hroom : (st.map fun v => v.category).sum ≤ 8) (k : qt_At l g (y, cc, nL, rt) (d + 3) b u (pc + 3) lv (.int (nI (qa_len i)) :: st) h r h2) (hu : u ≤ b := by exact Nat.le_of_ble_eq_true rfl) : qt_At l g (y, cc, nL, rt) (d + 3) b u pc lv (.ref (g.2.2.2.1 i) :: st) h r h2 := qt_callT (n := 0) hi [] (cJ_length hi h) ⟨hk, tb_641, tb_642, tb_132, tb_643, ⟨by decide +kernel, by decide +kernel, by decide +kernel⟩, Nat.le_of_ble_eq_true rfl⟩ rfl rfl hroom hu dg k
theorem qt_charAt {i idx : Nat} {x : Int32} {α : Type} {K : Option α} {z : α} (hi : i < 19) (hk : Cond.methodLink y.cls idx yJ0_charAt_5068e ∈ qw_tbl) (dg : decode cc pc = .ok (.invokevirtual idx, 3)) (hroom : (st.map fun v => v.category).sum ≤ 8) (E : qck x (qa_len i) K = some z) (k : K = some z → qt_At l g (y, cc, nL, rt) (d + 4) b u (pc + 3) lv (.int (qa_ch i x.toNatClampNeg) :: st) h r h2) (hu : u ≤ b := by exact Nat.le_of_ble_eq_true rfl) : qt_At l g (y, cc, nL, rt) (d + 4) b u pc lv (.int x :: .ref (g.2.2.2.1 i) :: st) h r h2 := qt_callT (n := 1) hi [.int x] (cJ_charAt hi (qck_el E).1 h) ⟨hk, tb_651, tb_652, tb_132, tb_653, ⟨by decide +kernel, by decide +kernel, by decide +kernel⟩, Nat.le_of_ble_eq_true rfl⟩ rfl rfl hroom hu dg (k (qck_el E).2)
end q11_sec
