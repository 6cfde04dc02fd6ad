/-! THE LAW: its loop -/
theorem la_and (a : Int32) : ∃ t, t < 32 ∧ a &&& 31 = nn t := by
  refine ⟨(a &&& 31).toBitVec.toNat, ?_, ?_⟩
  · rw [Int32.toBitVec_and, BitVec.toNat_and]
    exact Nat.lt_of_le_of_lt Nat.and_le_right (by decide)
  · rw [← Int32.toBitVec_inj]
    show _ = BitVec.ofNat 32 _
    rw [BitVec.ofNat_toNat, BitVec.setWidth_eq]
theorem la_lo : ∀ L, L < 6 → (nn L - nn 6).toInt < 0 := by decide
theorem la_end {L i : Nat} (hL : L ≤ 3072) (hi : i ≤ 4000) (c : ¬ nn L - nn 6 < nn i) : i + 6 ≤ L := by
  by_cases q : L < 6
  · exact absurd (Int32.lt_iff_toInt_lt.mpr (by rw [nn_toInt (by omega)]; have := la_lo L q; omega)) c
  · rw [nn_sub (by omega), nn_lt (by omega) (by omega)] at c
    omega
theorem Inv_mono {v w : Nat} {h : qa_M} (i : Inv v h) (e : v ≤ w) : Inv w h := by
  obtain ⟨nl, B, n, I, u, q, r⟩ := i
  exact ⟨nl, B, n, I, u, Nat.le_trans q e, r⟩
set_option maxRecDepth 4000 in
theorem la_body {l : Launch} {g : qa_G} {v i cells slots : Nat} {h : qa_M} (iv : Inv v h) (hv : v < 1000) (hi : i + 6 ≤ g.2.2.2.2.2.2.1) (hL : g.2.2.2.2.2.2.1 ≤ 3072) (hc : cells + 1 ≤ 600000) (hs : slots + 9216 ≤ 7302250) (K : ∀ h2, Inv (v + 1) h2 → LW l g (cells + 1) (slots + 9216) 1197 (laV g i) [] (qO h2) h2) : LW l g cells slots 27 (laV g i) [] (qO h) h := by
  refine qs_aload_n 3 dL_law_27 rfl rfl ?_
  refine qs_iload_n 0 dL_law_28 rfl rfl ?_
  refine qs_sld (vp_in_nI (by omega) (by omega)) dL_law_29 ?_
  refine qs_bipush (v := 31) dL_law_30 (by decide) ?_
  refine qs_iand dL_law_32 ?_
  obtain ⟨t, ht, e⟩ := la_and (g.2.2.2.2.2.2.2 (nn i).toNatClampNeg)
  rw [e]
  have k : t = 0 ∨ t = 1 ∨ t = 2 ∨ t = 3 ∨ t = 4 ∨ t = 5 ∨ t = 6 ∨ t = 7 ∨ t = 8 ∨ t = 9 ∨ t = 10 ∨ t = 11 ∨ t = 12 ∨ t = 13 ∨ t = 14 ∨ t = 15 ∨ t = 16 ∨ t = 17 ∨ t = 18 ∨ t = 19 ∨ t = 20 ∨ t = 21 ∨ t = 22 ∨ t = 23 ∨ t = 24 ∨ t = 25 ∨ t = 26 ∨ t = 27 ∨ t = 28 ∨ t = 29 ∨ t = 30 ∨ t = 31 := by omega
  rcases k with rfl | rfl | rfl | rfl | rfl | rfl | rfl | rfl | rfl | rfl | rfl | rfl | rfl | rfl | rfl | rfl | rfl | rfl | rfl | rfl | rfl | rfl | rfl | rfl | rfl | rfl | rfl | rfl | rfl | rfl | rfl | rfl
  · exact qs_tin 172 dL_law_33 (by decide) (by decide) rfl rfl (la_0 iv hv hi hL hc hs K)
  · exact qs_tin 235 dL_law_33 (by decide) (by decide) rfl rfl (la_1 iv hv hi hL hc hs K)
  · exact qs_tin 258 dL_law_33 (by decide) (by decide) rfl rfl (la_2 iv hv hi hL hc hs K)
  · exact qs_tin 271 dL_law_33 (by decide) (by decide) rfl rfl (la_3 iv hv hi hL hc hs K)
  · exact qs_tin 284 dL_law_33 (by decide) (by decide) rfl rfl (la_4 iv hv hi hL hc hs K)
  · exact qs_tin 307 dL_law_33 (by decide) (by decide) rfl rfl (la_5 iv hv hi hL hc hs K)
  · exact qs_tin 370 dL_law_33 (by decide) (by decide) rfl rfl (la_6 iv hv hi hL hc hs K)
  · exact qs_tin 413 dL_law_33 (by decide) (by decide) rfl rfl (la_7 iv hv hi hL hc hs K)
  · exact qs_tin 437 dL_law_33 (by decide) (by decide) rfl rfl (la_8 iv hv hi hL hc hs K)
  · exact qs_tin 451 dL_law_33 (by decide) (by decide) rfl rfl (la_9 iv hv hi hL hc hs K)
  · exact qs_tin 484 dL_law_33 (by decide) (by decide) rfl rfl (la_10 iv hv hi hL hc hs K)
  · exact qs_tin 507 dL_law_33 (by decide) (by decide) rfl rfl (la_11 iv hv hi hL hc hs K)
  · exact qs_tin 560 dL_law_33 (by decide) (by decide) rfl rfl (la_12 iv hv hi hL hc hs K)
  · exact qs_tin 623 dL_law_33 (by decide) (by decide) rfl rfl (la_13 iv hv hi hL hc hs K)
  · exact qs_tin 666 dL_law_33 (by decide) (by decide) rfl rfl (la_14 iv hv hi hL hc hs K)
  · exact qs_tin 719 dL_law_33 (by decide) (by decide) rfl rfl (la_15 iv hv hi hL hc hs K)
  · exact qs_tin 752 dL_law_33 (by decide) (by decide) rfl rfl (la_16 iv hv hi hL hc hs K)
  · exact qs_tin 785 dL_law_33 (by decide) (by decide) rfl rfl (la_17 iv hv hi hL hc hs K)
  · exact qs_tin 808 dL_law_33 (by decide) (by decide) rfl rfl (la_18 iv hv hi hL hc hs K)
  · exact qs_tin 831 dL_law_33 (by decide) (by decide) rfl rfl (la_19 iv hv hi hL hc hs K)
  · exact qs_tin 854 dL_law_33 (by decide) (by decide) rfl rfl (la_20 iv hv hi hL hc hs K)
  · exact qs_tin 887 dL_law_33 (by decide) (by decide) rfl rfl (la_21 iv hv hi hL hc hs K)
  · exact qs_tin 920 dL_law_33 (by decide) (by decide) rfl rfl (la_22 iv hv hi hL hc hs K)
  · exact qs_tin 973 dL_law_33 (by decide) (by decide) rfl rfl (la_23 iv hv hi hL hc hs K)
  · exact qs_tin 1006 dL_law_33 (by decide) (by decide) rfl rfl (la_24 iv hv hi hL hc hs K)
  · exact qs_tin 1049 dL_law_33 (by decide) (by decide) rfl rfl (la_25 iv hv hi hL hc hs K)
  · exact qs_tin 1082 dL_law_33 (by decide) (by decide) rfl rfl (la_26 iv hv hi hL hc hs K)
  · exact qs_tin 1105 dL_law_33 (by decide) (by decide) rfl rfl (la_27 iv hv hi hL hc hs K)
  · exact qs_tin 1128 dL_law_33 (by decide) (by decide) rfl rfl (la_28 iv hv hi hL hc hs K)
  · exact qs_tin 1151 dL_law_33 (by decide) (by decide) rfl rfl (la_29 iv hv hi hL hc hs K)
  · exact qs_tin 1174 dL_law_33 (by decide) (by decide) rfl rfl (la_30 iv hv hi hL hc hs K)
  · exact qs_tout 1197 dL_law_33 (by decide) rfl (qs_widen (by omega) (by omega) (K _ (Inv_mono iv (by omega))))
theorem la_step {l : Launch} {g : qa_G} {k : Nat} {h : qa_M} (hk : k ≤ 513) (iv : Inv (k + 1) h) (hL : g.2.2.2.2.2.2.1 ≤ 3072) (K : 6 * k + 6 ≤ g.2.2.2.2.2.2.1 → ∀ h2, Inv (k + 1 + 1) h2 → LW l g (167 + (k + 1)) (32312 + 9216 * (k + 1)) 18 (laV g (6 * (k + 1))) [] (qO h2) h2) : LW l g (167 + k) (32312 + 9216 * k) 18 (laV g (6 * k)) [] (qO h) h := by
  refine qs_iload_n 0 dL_law_18 rfl rfl ?_
  refine qs_aload_n 3 dL_law_19 rfl rfl ?_
  refine qs_slen dL_law_20 ?_
  refine qs_bipush (v := nn 6) dL_law_21 (by decide) ?_
  refine qs_isub dL_law_23 ?_
  refine qs_icmp_gt 1203 dL_law_24 rfl (fun _ => ?_) (fun c => ?_)
  · refine qs_iconst dL_law_1203 (v := 1) (by decide) ?_
    exact la_ret (by omega) (by omega) dL_law_1204
  · have hi := la_end hL (by omega) c
    refine la_body iv (by omega) hi hL (by omega) (by omega) (fun h2 iv2 => ?_)
    refine qs_iinc 0 (laV g (6 * (k + 1))) dL_law_1197 rfl (v := nn (6 * (k + 1))) ?_ (by decide) rfl ?_
    · show nn (6 * k) + nn 6 = _
      rw [nn_add]; rfl
    · refine qs_goto 18 dL_law_1200 rfl ?_
      have := K hi h2 iv2
      rw [show 167 + (k + 1) = 167 + k + 1 by omega, show 32312 + 9216 * (k + 1) = 32312 + 9216 * k + 9216 by omega] at this
      exact this
theorem la_loop {l : Launch} {g : qa_G} (hL : g.2.2.2.2.2.2.1 ≤ 3072) : ∀ (n k : Nat) (h : qa_M), k + n = 513 → Inv (k + 1) h → LW l g (167 + k) (32312 + 9216 * k) 18 (laV g (6 * k)) [] (qO h) h
  | 0, k, h, e, iv => la_step (by omega) iv hL (fun q => absurd q (by omega))
  | n + 1, k, h, e, iv => la_step (by omega) iv hL (fun _ h2 iv2 => la_loop hL n (k + 1) h2 (by omega) iv2)
