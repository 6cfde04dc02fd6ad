/-! THE LEAST OF THE WORST -/
def mxN (f : Nat → Nat) : Nat → Nat
  | 0 => 0
  | k + 1 => max (mxN f k) (f k)
theorem mxN_le {f : Nat → Nat} {B : Nat} (h : ∀ k, f k ≤ B) : ∀ n, mxN f n ≤ B
  | 0 => Nat.zero_le _
  | n + 1 => Nat.max_le.mpr ⟨mxN_le h n, h n⟩
theorem mxN_congr {f g : Nat → Nat} : ∀ {n : Nat}, (∀ k, k < n → f k = g k) → mxN f n = mxN g n
  | 0, _ => rfl
  | n + 1, h => by
    show max (mxN f n) (f n) = max (mxN g n) (g n)
    rw [mxN_congr (fun k hk => h k (by omega)), h n (by omega)]
def stq (F : Nat → Nat) (o : Option Nat) (q : Nat) : Option Nat := match o with
  | none => some q
  | some b => if F b ≤ F q then some b else some q
def bsl (F : Nat → Nat) (l : List Nat) : Option Nat := l.foldl (stq F) none
theorem bsl_snoc {F : Nat → Nat} {l : List Nat} {q : Nat} : bsl F (l ++ [q]) = stq F (bsl F l) q := by
  unfold bsl
  rw [List.foldl_append]
  rfl
theorem bsl_mem {F : Nat → Nat} : ∀ {n : Nat} {l : List Nat} {b : Nat}, l.length = n → bsl F l = some b → b ∈ l
  | 0, [], b, _, h => by cases h
  | n + 1, l, b, hl, h => by
    have hne : l ≠ [] := by intro e; rw [e] at hl; cases hl
    rw [← List.dropLast_concat_getLast hne] at h ⊢
    rw [bsl_snoc] at h
    have ih := bsl_mem (F := F) (n := n) (l := l.dropLast) (b := b) (by rw [List.length_dropLast]; omega)
    revert h ih
    cases bsl F l.dropLast with
    | none => intro h _; cases h; simp
    | some c =>
      intro h ih
      have h : (if F c ≤ F (l.getLast hne) then some c else some (l.getLast hne)) = some b := h
      split at h
      · cases h; exact List.mem_append_left _ (ih rfl)
      · cases h; simp
theorem tlV_le {s : Sg} {V : Int64} {D : List (List Nat)} {c : Nat} : tlV s V D c ≤ D.length := List.countP_le_length
/-- what is seen from one -/
def vw (s : Sg) (m q : Nat) : Int64 := if m = 0 then seesM s (hAt s q) (hFar s q) else seesM s q m
def nms (s : Sg) (m : Nat) : List Nat := if m = 0 then List.range (gH s) else (List.range 36).filter (opn s)
theorem vws_nms {s : Sg} {m : Nat} : vws s m = (nms s m).map (fun q => (q, vw s m q)) := by
  unfold vws nms vw vwH vwF
  by_cases c : m = 0
  · rw [if_pos c, if_pos c]
    simp only [if_pos c]
  · rw [if_neg c, if_neg c]
    simp only [if_neg c]
theorem vws_nlen {s : Sg} {m : Nat} : (vws s m).length = (nms s m).length := by rw [vws_nms, List.length_map]
theorem vws_at {s : Sg} {m i : Nat} (h : i < (nms s m).length) : (vws s m).getD i (0, 0) = ((nms s m)[i], vw s m (nms s m)[i]) := by
  rw [vws_nms, List.getD_eq_getElem?_getD, List.getElem?_map, List.getElem?_eq_getElem h]
  rfl
/-- the most that one look leaves -/
def wst (s : Sg) (L : Nat → Lw) (S m q : Nat) : Nat := mxN (tlV s (vw s m q) (fitL s L S)) 16
theorem wst_le {s : Sg} {L : Nat → Lw} {S m q : Nat} (w : WF s) : wst s L S m q ≤ 1679616 := mxN_le (fun _ => Nat.le_trans tlV_le (fit_len w)) 16
theorem k_greatest {h : qa_M} {i : Nat} {f : Nat → Nat} (hi : i < 36) (hf : ∀ c, f c ≤ 1679616) (hc : ∀ c, c < 16 → h.1 43 (16 * i + c) = nn (f c)) : m_X0_greatest (nn i) h = some (nn (mxN f 16), h) := by
  unfold m_X0_greatest f_X0_greatest_b4_loop
  rw [qbd_e, qbd_e]
  refine qlp_for0 (fun k => (nn i, nn (mxN f k), nn k, h)) 16 ?_ ?_
  · intro k hk
    have := mxN_le hf k
    have := hf k
    show f_X0_greatest_b4 (nn i) (nn _) (nn k) h = _
    unfold f_X0_greatest_b4
    rw [if_neg (by rw [show (16 : Int32) = nn 16 from rfl, nn_le (by omega) (by omega)]; omega), show (16 : Int32) = nn 16 from rfl, nn_mul, nn_add, qck_nn (by omega) (by omega), nn_cl (by omega), show i * 16 + k = 16 * i + k by omega, hc k hk, nn_qmax (by omega) (by omega), qbd_e, qbd_e, nn_add1]
    rfl
  · show f_X0_greatest_b4 (nn i) (nn _) (nn 16) h = _
    unfold f_X0_greatest_b4
    rw [if_pos (by decide), qup_s]
theorem nn_nm1 {b : Nat} (h : b < 2147483648) : ¬ nn b = -1 := by
  intro e
  have := congrArg Int32.toInt e
  rw [nn_toInt h, show (-1 : Int32).toInt = -1 from rfl] at this
  omega
theorem nn_nm2 {b : Nat} (h : b < 2147483648) : ¬ nn b = -2 := by
  intro e
  have := congrArg Int32.toInt e
  rw [nn_toInt h, show (-2 : Int32).toInt = -2 from rfl] at this
  omega
def BT (F : Nat → Nat) (o : Option Nat) (h : qa_M) : Prop := (o = none → h.1 40 14 = -1) ∧ ∀ b, o = some b → h.1 40 14 = nn b ∧ h.1 40 15 = nn (F b)
theorem k_choose {F : Nat → Nat} {o : Option Nat} {h : qa_M} {q : Nat} (hF : ∀ q, F q < 2147483648) (ho : ∀ b, o = some b → b < 2147483648) (bt : BT F o h) : qW (m_X0_choose (nn q) (nn (F q)) h) (BT F (stq F o q)) := by
  have new : qW (f_X0_choose_b16 (nn q) (nn (F q)) h) (BT F (some q)) := by
    unfold f_X0_choose_b16
    rw [qbd_e, qbd_e, qW_some]
    refine ⟨fun e => by (cases e), fun b e => ?_⟩
    cases e
    exact ⟨by rw [wI_ne (by omega), wI_at], wI_at⟩
  unfold m_X0_choose
  cases o with
  | none =>
    rw [if_pos (bt.1 rfl)]
    exact new
  | some b =>
    obtain ⟨b1, b2⟩ := bt.2 b rfl
    have hb := ho b rfl
    rw [b1, b2, if_neg (nn_nm1 hb)]
    show qW _ (BT F (if F b ≤ F q then some b else some q))
    by_cases c : F b ≤ F q
    · rw [if_pos ((nn_le (hF b) (hF q)).mpr c), if_pos c, qW_some]
      exact bt
    · rw [if_neg (fun e => c ((nn_le (hF b) (hF q)).mp e)), if_neg c]
      exact new
theorem nms_lt {s : Sg} (w : WF s) {m q : Nat} (h : q ∈ nms s m) : q < 36 := by
  have l8 := w.h.2
  unfold nms at h
  split at h
  · rw [List.mem_range] at h; omega
  · rw [List.mem_filter, List.mem_range] at h; exact h.1
theorem k_chooseView {s : Sg} {L : Nat → Lw} {S m : Nat} {h : qa_M} (w : WF s) (lk : LK s L S m h) : qW (m_X0_chooseView h) (BT (wst s L S m) (bsl (wst s L S m) (nms s m))) := by
  have vl := vws_len w (m := m)
  have nl := vws_nlen (s := s) (m := m)
  have hF : ∀ q, wst s L S m q < 2147483648 := fun q => by have := wst_le (L := L) (S := S) (m := m) (q := q) w; omega
  unfold m_X0_chooseView m_X0_forget
  rw [qbd_e, qbd_e, qbv_s, qbd_e]
  unfold f_X0_chooseView_b6_loop
  refine qW_for (nms s m).length (fun k t => ∃ g, t = (nn k, g) ∧ qfr [(40, 15), (40, 16)] h g ∧ BT (wst s L S m) (bsl (wst s L S m) ((nms s m).take k)) g) ?_ ?_ (Nat.zero_le _) ⟨_, rfl, qfr_Ik rfl (by simp) (qfr_Ik rfl (by simp) qfr_rf), fun _ => by rw [wI_ne (by omega), wI_at], fun b e => by cases e⟩
  · rintro k t hk ⟨g, rfl, f, bt⟩
    have hl := lk.1.2 k (by omega)
    have hc := fun c => lk.2 k c (by omega)
    rw [vws_at hk] at hl hc
    show qW (f_X0_chooseView_b6 (nn k) g) _
    unfold f_X0_chooseView_b6
    rw [(f.1 40 0 rfl).1, lk.1.1, nl, if_neg (fun q => by rw [nn_le (by omega) (by omega)] at q; omega), qck_nn (by omega) (by omega), nn_cl (by omega), (f.1 42 k rfl).1, hl.1, k_greatest (f := tlV s (vw s m (nms s m)[k]) (fitL s L S)) (by omega) (fun c => Nat.le_trans tlV_le (fit_len w)) (fun c h16 => by rw [(f.1 43 _ rfl).1]; exact hc c h16), qbn_s, qW_bv]
    refine qW_fr (k_choose (F := wst s L S m) (o := bsl (wst s L S m) ((nms s m).take k)) hF (fun b e => by have := nms_lt w (List.mem_of_mem_take (bsl_mem rfl e)); omega) bt) (fun z e => fr_X0_choose _ _ _ e) ?_
    intro g2 bt2 f2
    have f2 : qfr [(40, 15), (40, 16)] g g2 := f2
    rw [qbd_e, nn_add1, qW_some]
    refine ⟨g2, rfl, qfr_tr f f2, ?_⟩
    rw [← bsl_snoc, List.take_append_getElem hk] at bt2
    exact bt2
  · rintro t ⟨g, rfl, f, bt⟩
    show qW (f_X0_chooseView_b6 (nn (nms s m).length) g) _
    unfold f_X0_chooseView_b6
    rw [(f.1 40 0 rfl).1, lk.1.1, nl, if_pos ((nn_le (by omega) (by omega)).mpr (by omega)), qup_s, qW_some]
    rw [List.take_length] at bt
    exact bt
