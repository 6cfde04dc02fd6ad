/-! THE LAW: its entry -/
theorem fk_X11 : ∀ j, j < 15 → (([2, 2, 2, 2, 2, 0, 2, 2, 2, 2, 2, 2, 2, 0, 0] : List Nat).getD j 0 < 3 ∧ defaultValue (tyX11 j) = qd_def (([2, 2, 2, 2, 2, 0, 2, 2, 2, 2, 2, 2, 2, 0, 0] : List Nat).getD j 0)) := by decide
theorem fk_X12 : ∀ j, j < 64 → (([0, 2, 2, 2, 2, 2, 2, 2, 2, 2, 2, 2, 2, 2, 2, 2, 2, 2, 2, 2, 0, 0, 0, 0, 0, 0, 0, 0, 0, 0, 2, 2, 2, 2, 2, 2, 2, 2, 2, 2, 2, 2, 2, 2, 2, 2, 2, 2, 0, 0, 0, 0, 2, 2, 2, 2, 2, 2, 2, 2, 2, 2, 0, 0] : List Nat).getD j 0 < 3 ∧ defaultValue (tyX12 j) = qd_def (([0, 2, 2, 2, 2, 2, 2, 2, 2, 2, 2, 2, 2, 2, 2, 2, 2, 2, 2, 2, 0, 0, 0, 0, 0, 0, 0, 0, 0, 0, 2, 2, 2, 2, 2, 2, 2, 2, 2, 2, 2, 2, 2, 2, 2, 2, 2, 2, 0, 0, 0, 0, 2, 2, 2, 2, 2, 2, 2, 2, 2, 2, 0, 0] : List Nat).getD j 0)) := by decide
section le_sec
variable {l : Launch} {g : qa_G} {cells slots pc i : Nat} {lv : List (Nat × Value)} {st : List Value} {h : qa_M}
theorem la_new {ci idx N : Nat} {fks : List Nat} {C : String} {T : u_T} (hk : qa_layD[i]? = some (.inl (ci, fks))) (hc : qa_cl[ci]? = some (C, T, N)) (hok : qa_clok (C, T, N)) (hlen : fks.length = N) (ty : Nat → FieldType) (hty : ∀ k, k < N → parseFieldDescriptor (T k).2.2.1 = some (ty k)) (hfk : ∀ j, j < N → fks.getD j 0 < 3 ∧ defaultValue (ty j) = qd_def (fks.getD j 0)) (hl : Cond.classLink RL idx C ∈ qw_tbl) (hi : Cond.instantiable C N ∈ qw_tbl) (hini : Cond.initialized C ∈ qw_tbl) (h1 : cells + 1 ≤ 600000) (h3 : slots + N ≤ 7302250) (dg : decode cL_law pc = .ok (.new idx, 3)) (kk : LW l g (cells + 1) (slots + N) (pc + 3) lv (.ref (g.1 + i) :: st) (qL (i + 1)) (qw_z h i)) : LW l g cells slots pc lv st (qL i) h := by
  rw [← qL_succ hk] at kk
  exact qs_new hc hok hlen ty hty hl hi hini h1 h3 (h2 := qw_z h i) (by rw [qL_len hk]; exact qw_z_off h i) (fun j hj => by rw [qL_len hk, qd_fv _ _ _ _ _ (hfk j hj).1]; exact (hfk j hj).2) dg (by rw [qL_len hk]; exact kk)
theorem la_callI {y2 : MethodName} {cc2 : ByteArray} {nL2 : Nat} {b idx kc ks i3 : Nat} {rest : List Value} {h1 : qa_M} (hM : qv_Met l g (y2, cc2, nL2, none) 2047 kc ks [.ref (g.1 + b)] i h none i3 h1) (cv : qa_ci RL idx (y2, cc2, nL2, none) 0 ∨ qa_cin RL idx (y2, cc2, nL2, none) 0) (hroom : (rest.map fun v => v.category).sum ≤ 8) (hc : cells + kc ≤ 600000) (hs : slots + ks ≤ 7302250) (dg : decode cL_law pc = .ok (.invokespecial idx, 3)) (kk : LW l g (cells + kc) (slots + ks) (pc + 3) lv rest (qL i3) h1) : LW l g cells slots pc lv (.ref (g.1 + b) :: rest) (qL i) h := by
  refine qs_invI (As := []) hM cv rfl hroom dg hc hs ?_
  rintro r3 w3 h3 ⟨rfl, rfl, rfl⟩
  exact kk
end le_sec
theorem la_entry {l : Launch} {g : qa_G} (hL : g.2.2.2.2.2.2.1 ≤ 3072) : LW l g 0 0 0 [(0, .ref g.2.2.2.2.2.1)] [] (qL 0) ((fun _ _ => 0, fun _ _ => 0, fun _ _ => 0, 0) : qa_M) := by
  obtain ⟨h1, e1, h2, e2, iv, r1, r2, zl⟩ := qa_made (h := ((fun _ _ => 0, fun _ _ => 0, fun _ _ => 0, 0) : qa_M)) rfl
  refine la_new (show qa_layD[0]? = some (.inl (10, [2, 2, 2, 2, 2, 0, 2, 2, 2, 2, 2, 2, 2, 0, 0])) from rfl) rfl clok_X11 rfl tyX11 tyX11_ok fk_X11 tb_141 tb_142 tb_119 (Nat.le_of_ble_eq_true rfl) (Nat.le_of_ble_eq_true rfl) dL_law_0 ?_
  refine qs_dup dL_law_3 rfl ?_
  refine la_callI (b := 0) (k_X11_init _ e1) ci_RL_9 (Nat.le_of_ble_eq_true rfl) (Nat.le_of_ble_eq_true rfl) (Nat.le_of_ble_eq_true rfl) dL_law_4 ?_
  refine qs_astore_n [(1, .ref (g.1 + 0)), (0, .ref g.2.2.2.2.2.1)] dL_law_7 rfl (by decide) rfl ?_
  refine la_new (show qa_layD[119]? = some (.inl (11, [0, 2, 2, 2, 2, 2, 2, 2, 2, 2, 2, 2, 2, 2, 2, 2, 2, 2, 2, 2, 0, 0, 0, 0, 0, 0, 0, 0, 0, 0, 2, 2, 2, 2, 2, 2, 2, 2, 2, 2, 2, 2, 2, 2, 2, 2, 2, 2, 0, 0, 0, 0, 2, 2, 2, 2, 2, 2, 2, 2, 2, 2, 0, 0])) from rfl) rfl clok_X12 rfl tyX12 tyX12_ok fk_X12 tb_1330 tb_1331 tb_131 (Nat.le_of_ble_eq_true rfl) (Nat.le_of_ble_eq_true rfl) dL_law_8 ?_
  refine qs_dup dL_law_11 rfl ?_
  refine la_callI (b := 119) (k_X12_init _ e2) ci_RL_12 (Nat.le_of_ble_eq_true rfl) (Nat.le_of_ble_eq_true rfl) (Nat.le_of_ble_eq_true rfl) dL_law_12 ?_
  refine qs_astore_n [(2, .ref (g.1 + 119)), (1, .ref (g.1 + 0)), (0, .ref g.2.2.2.2.2.1)] dL_law_15 rfl (by decide) rfl ?_
  refine qs_iconst (v := nn 0) dL_law_16 (by decide) ?_
  refine qs_istore_n (laV g 0) dL_law_17 rfl (by decide) rfl ?_
  intro p e s m args below meth c C H locs ls hl hW hS
  exact la_loop hL 513 0 h2 rfl iv p e s m args below meth c C H locs ls hl (qa_freeze r1 r2 zl hW) hS
