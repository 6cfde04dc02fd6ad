/-! FEED -/
def byt (x : Int32) (k : Nat) : Nat := (x.toBitVec >>> k).toNat % 256
theorem byt_lt {x : Int32} {k : Nat} : byt x k < 256 := Nat.mod_lt _ (by omega)
theorem k_byt {x : Int32} {k : Nat} (hk : k < 32) : (q_iushr x (nn k)) &&& (255 : Int32) = nn (byt x k) := by
  have e : (q_iushr x (nn k)).toBitVec = x.toBitVec >>> k := by
    have : ∀ k, k < 32 → ((nn k).toUInt32 &&& Int32.toUInt32 31).toNat = k ∧ ((nn k).toUInt32 &&& Int32.toUInt32 31).toBitVec.toNat % 32 = k := by decide +kernel
    show x.toBitVec >>> (((nn k).toUInt32 &&& Int32.toUInt32 31).toBitVec % 32#32) = _
    apply BitVec.eq_of_toNat_eq
    rw [BitVec.toNat_ushiftRight, BitVec.ushiftRight_eq', BitVec.toNat_ushiftRight, BitVec.toNat_umod]
    rw [show (32#32).toNat = 32 from rfl, (this k hk).2]
  rw [← Int32.toBitVec_inj, Int32.toBitVec_and, e]
  apply BitVec.eq_of_toNat_eq
  show ((x.toBitVec >>> k) &&& 255#32).toNat = (BitVec.ofNat 32 (byt x k)).toNat
  have b := byt_lt (x := x) (k := k)
  have z : (BitVec.ofNat 32 (byt x k)).toNat = byt x k := by rw [BitVec.toNat_ofNat, Nat.mod_eq_of_lt (by omega)]
  rw [BitVec.toNat_and, z]
  show (x.toBitVec >>> k).toNat &&& (2 ^ 8 - 1) = _
  rw [Nat.and_two_pow_sub_one_eq_mod]
  rfl
theorem sx_8 : ∀ n, n < 256 → (Int8.ofBitVec (BitVec.ofNat 8 n)).toInt32 = sx n := by decide +kernel
theorem i8_8 : ∀ n, n < 256 → (Int8.ofBitVec (BitVec.ofNat 8 n)).toInt32.toInt8 = Int8.ofBitVec (BitVec.ofNat 8 n) := by decide +kernel
theorem r_byt {x : Int32} {k : Nat} (hk : k ≤ 24) : ((x >>> (nn k &&& 31)).toInt8.toInt32).toInt8.toInt32 = sx (byt x k) := by
  have b := byt_lt (x := x) (k := k)
  have e : (x >>> (nn k &&& 31)).toInt8 = Int8.ofBitVec (BitVec.ofNat 8 (byt x k)) := by
    have k31 : ∀ k, k ≤ 24 → (nn k &&& 31).toBitVec.smod 32#32 = BitVec.ofNat 32 k := by decide +kernel
    rw [← Int8.toBitVec_inj]
    show ((x.toBitVec.sshiftRight' ((nn k &&& 31).toBitVec.smod 32#32)).signExtend 8) = BitVec.ofNat 8 (byt x k)
    rw [k31 k hk]
    apply BitVec.eq_of_getLsbD_eq
    intro i hi
    have z : (BitVec.ofNat 32 k).toNat = k := by rw [BitVec.toNat_ofNat, Nat.mod_eq_of_lt (by omega)]
    have r : (BitVec.ofNat 8 (byt x k)).getLsbD i = x.toBitVec.getLsbD (k + i) := by
      rw [BitVec.getLsbD_ofNat, decide_eq_true hi, Bool.true_and]
      show ((x.toBitVec >>> k).toNat % 2 ^ 8).testBit i = _
      rw [Nat.testBit_mod_two_pow, decide_eq_true hi, Bool.true_and]
      show (x.toBitVec >>> k).getLsbD i = _
      rw [BitVec.getLsbD_ushiftRight]
    rw [r, BitVec.getLsbD_signExtend, decide_eq_true hi, Bool.true_and, if_pos (by omega), BitVec.sshiftRight_eq', z, BitVec.getLsbD_sshiftRight, if_pos (by omega), decide_eq_false (by omega)]
    rfl
  rw [e, i8_8 _ b, sx_8 _ b]
def upB (B : Nat → Nat) (n b : Nat) : Nat → Nat := fun j => if j = n then b else B j
def wB (B : Nat → Nat) (n : Nat) (x : Int32) : Nat → Nat := upB (upB (upB (upB B n (byt x 24)) (n + 1) (byt x 16)) (n + 2) (byt x 8)) (n + 3) (byt x 0)
theorem TpC_add {B : Nat → Nat} {n b : Nat} {h : qa_M} (t : TpC B n h) (hn : n < 400) (hb : b < 256) : TpC (upB B n b) (n + 1) (qw_I (qw_I h 2 n (nn b)) 1 1 (nn (n + 1))) := by
  refine ⟨wI_at, by omega, fun j hj => ?_⟩
  rw [wI_ne (by omega)]
  unfold upB
  by_cases c : j = n
  · rw [if_pos c, c, wI_at]; exact ⟨hb, rfl⟩
  · rw [if_neg c, wI_ne (by omega)]; exact t.2.2 j (by omega)
theorem TpR_add {B : Nat → Nat} {n b : Nat} {h : qa_M} (t : TpR B n h) (hn : n < 400) (hb : b < 256) : TpR (upB B n b) (n + 1) (qw_I (qw_I h 139 n (sx b)) 119 20 (nn (n + 1))) := by
  refine ⟨wI_at, by omega, fun j hj => ?_⟩
  rw [wI_ne (by omega)]
  unfold upB
  by_cases c : j = n
  · rw [if_pos c, c, wI_at]; exact ⟨hb, rfl⟩
  · rw [if_neg c, wI_ne (by omega)]; exact t.2.2 j (by omega)
theorem k_app1 {B : Nat → Nat} {n k : Nat} {x : Int32} {h : qa_M} {P : qa_M → Prop} (t : TpC B n h) (hn : n < 400) (hk : k < 32) (hP : ∀ g, TpC (upB B n (byt x k)) (n + 1) g → qfr [(1, 2), (2, 0)] h g → qW (f_X9_append_b3_loop x (nn k + -8) g) P) : qW (f_X9_append_b3_loop x (nn k) h) P := by
  unfold f_X9_append_b3_loop
  refine qW_lpin ?_
  show qW (f_X9_append_b3 x (nn k) h) _
  unfold f_X9_append_b3
  rw [if_neg (by rw [show (0 : Int32) = nn 0 from rfl, nn_lt (by omega) (by omega)]; omega), t.1, if_neg (fun q => by rw [show (400 : Int32) = nn 400 from rfl, nn_le (by omega) (by omega)] at q; omega), qck_nn (by omega) (by omega), nn_cl (by omega), k_byt hk, qbd_e, wI_ne (by omega), t.1, nn_add1, qbd_e, qbd_e, qW_some]
  exact hP _ (TpC_add t hn byt_lt) (qfr_Ik rfl (by simp) (qfr_I0 rfl (by simp) qfr_rf))
theorem k_app {B : Nat → Nat} {n : Nat} {x : Int32} {h : qa_M} (t : TpC B n h) (hn : n + 4 ≤ 400) : qW (m_X9_append x h) (fun g => TpC (wB B n x) (n + 4) g ∧ qfr [(1, 2), (2, 0)] h g) := by
  unfold m_X9_append
  rw [qbd_e]
  refine k_app1 (k := 24) t (by omega) (by omega) (fun g1 t1 f1 => ?_)
  refine k_app1 (k := 16) t1 (by omega) (by omega) (fun g2 t2 f2 => ?_)
  refine k_app1 (k := 8) t2 (by omega) (by omega) (fun g3 t3 f3 => ?_)
  refine k_app1 (k := 0) t3 (by omega) (by omega) (fun g4 t4 f4 => ?_)
  unfold f_X9_append_b3_loop
  refine qW_lpin ?_
  show qW (f_X9_append_b3 x (nn 0 + -8) g4) _
  unfold f_X9_append_b3
  rw [if_pos (by decide), qup_s, qW_some]
  exact ⟨t4, qfr_tr f1 (qfr_tr f2 (qfr_tr f3 f4))⟩
theorem r_put1 {B : Nat → Nat} {n k : Nat} {x : Int32} {h : qa_M} {P : qa_M → Prop} (t : TpR B n h) (hn : n < 400) (hk : k ≤ 24) (hP : ∀ g, TpR (upB B n (byt x k)) (n + 1) g → qfr [(119, 21), (139, 0)] h g → qW (f_X12_put_b3_loop x (nn k + -8) g) P) : qW (f_X12_put_b3_loop x (nn k) h) P := by
  unfold f_X12_put_b3_loop
  refine qW_lpin ?_
  show qW (f_X12_put_b3 x (nn k) h) _
  unfold f_X12_put_b3
  rw [if_neg (by rw [show (0 : Int32) = nn 0 from rfl, nn_lt (by omega) (by omega)]; omega), t.1, qck_nn (by omega) (by omega), nn_cl (by omega), r_byt hk, qbd_e, wI_ne (by omega), t.1, nn_add1, qbd_e, qbd_e, qW_some]
  exact hP _ (TpR_add t hn byt_lt) (qfr_Ik rfl (by simp) (qfr_I0 rfl (by simp) qfr_rf))
theorem r_put {B : Nat → Nat} {n : Nat} {x : Int32} {h : qa_M} (t : TpR B n h) (hn : n + 4 ≤ 400) : qW (m_X12_put x h) (fun g => TpR (wB B n x) (n + 4) g ∧ qfr [(119, 21), (139, 0)] h g) := by
  unfold m_X12_put
  rw [qbd_e]
  refine r_put1 (k := 24) t (by omega) (by omega) (fun g1 t1 f1 => ?_)
  refine r_put1 (k := 16) t1 (by omega) (by omega) (fun g2 t2 f2 => ?_)
  refine r_put1 (k := 8) t2 (by omega) (by omega) (fun g3 t3 f3 => ?_)
  refine r_put1 (k := 0) t3 (by omega) (by omega) (fun g4 t4 f4 => ?_)
  unfold f_X12_put_b3_loop
  refine qW_lpin ?_
  show qW (f_X12_put_b3 x (nn 0 + -8) g4) _
  unfold f_X12_put_b3
  rw [if_pos (by decide), qup_s, qW_some]
  exact ⟨t4, qfr_tr f1 (qfr_tr f2 (qfr_tr f3 f4))⟩
def bFd (B : Nat → Nat) (n : Nat) (x1 x2 x3 x4 x5 : Int32) : Nat → Nat := if n + 20 ≤ 400 then wB (wB (wB (wB (wB B n x1) (n + 4) x2) (n + 8) x3) (n + 12) x4) (n + 16) x5 else B
def nFd (n : Nat) : Nat := if n + 20 ≤ 400 then n + 20 else n
def aFd (n : Nat) : Int32 := if n + 20 ≤ 400 then nn (n + 20) else -1
theorem k_aFd {s : Sg} {L : Nat → Lw} {nl : Nat} {B : Nat → Nat} {n : Nat} {I : Nat → Option qa_M} {v : Nat} {h : qa_M} {x1 x2 x3 x4 x5 : Int32} (a : AL s L nl) (i : IvC s L nl B n I v h) : qW (m_X11_feed x1 x2 x3 x4 x5 h) (fun z => z.1 = aFd n ∧ IvC s L nl (bFd B n x1 x2 x3 x4 x5) (nFd n) I v z.2) := by
  have h400 := i.1.tp.2.1
  unfold m_X11_feed aFd bFd nFd
  rw [i.1.tp.1, show (20 : Int32) = nn 20 from rfl, nn_add, show (400 : Int32) = nn 400 from rfl]
  by_cases c : n + 20 ≤ 400
  · rw [if_pos ((nn_le (by omega) (by omega)).mpr c), if_pos c, if_pos c, if_pos c, qW_bv]
    refine qW_mono (k_app i.1.tp (by omega)) ?_
    rintro g1 ⟨t1, f1⟩
    rw [qW_bv]
    refine qW_mono (k_app t1 (by omega)) ?_
    rintro g2 ⟨t2, f2⟩
    rw [qW_bv]
    refine qW_mono (k_app t2 (by omega)) ?_
    rintro g3 ⟨t3, f3⟩
    rw [qW_bv]
    refine qW_mono (k_app t3 (by omega)) ?_
    rintro g4 ⟨t4, f4⟩
    rw [qW_bv]
    refine qW_mono (k_app t4 (by omega)) ?_
    rintro g5 ⟨t5, f5⟩
    rw [qW_some]
    have f := qfr_tr f1 (qfr_tr f2 (qfr_tr f3 (qfr_tr f4 f5)))
    exact ⟨t5.1, i.1.tape a f t5 (fun b j k => by unfold inW; simp; omega), i.2.fr f (fun b j k => by unfold kpV at k; unfold inW; simp; omega)⟩
  · rw [if_neg (fun q => c ((nn_le (by omega) (by omega)).mp q)), if_neg c, if_neg c, if_neg c, qW_some]
    exact ⟨rfl, i⟩
theorem r_aFd {nl : Nat} {B : Nat → Nat} {n : Nat} {I : Nat → Option qa_M} {h : qa_M} {x1 x2 x3 x4 x5 : Int32} (i : IvR nl B n I h) : qW (m_X12_feed x1 x2 x3 x4 x5 h) (fun z => z.1 = aFd n ∧ IvR nl (bFd B n x1 x2 x3 x4 x5) (nFd n) I z.2 ∧ lw z.2 = lw h ∧ sg z.2 = sg h) := by
  have h400 := i.tp.2.1
  unfold m_X12_feed aFd bFd nFd
  rw [i.tp.1, show (20 : Int32) = nn 20 from rfl, nn_add, show (400 : Int32) = nn 400 from rfl]
  by_cases c : n + 20 ≤ 400
  · rw [if_pos ((nn_le (by omega) (by omega)).mpr c), if_pos c, if_pos c, if_pos c, qW_bv]
    refine qW_mono (r_put i.tp (by omega)) ?_
    rintro g1 ⟨t1, f1⟩
    rw [qW_bv]
    refine qW_mono (r_put t1 (by omega)) ?_
    rintro g2 ⟨t2, f2⟩
    rw [qW_bv]
    refine qW_mono (r_put t2 (by omega)) ?_
    rintro g3 ⟨t3, f3⟩
    rw [qW_bv]
    refine qW_mono (r_put t3 (by omega)) ?_
    rintro g4 ⟨t4, f4⟩
    rw [qW_bv]
    refine qW_mono (r_put t4 (by omega)) ?_
    rintro g5 ⟨t5, f5⟩
    rw [qW_some]
    have f := qfr_tr f1 (qfr_tr f2 (qfr_tr f3 (qfr_tr f4 f5)))
    exact ⟨t5.1, i.tape f t5 (fun b j k => by unfold inW; simp; omega)⟩
  · rw [if_neg (fun q => c ((nn_le (by omega) (by omega)).mp q)), if_neg c, if_neg c, if_neg c, qW_some]
    exact ⟨rfl, i, rfl, rfl⟩
