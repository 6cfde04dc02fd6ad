/-! PAIRS OF LOOKS -/
def tri (j : Nat) : Nat := j * (j + 1) / 2
theorem tri_lt : ∀ j, j < 8 → ∀ i, i < 8 → i ≤ j → tri j + i < 36 := by decide +kernel
theorem tri_ij0 : (List.range 8).all (fun j => (List.range 8).all (fun i => (List.range 8).all (fun j2 => (List.range 8).all (fun i2 => !(decide (i ≤ j) && decide (i2 ≤ j2) && decide (tri j + i = tri j2 + i2)) || (decide (j = j2) && decide (i = i2)))))) = true := by decide +kernel
theorem tri_ij (j : Nat) (hj : j < 8) (i : Nat) (hi : i < 8) (j2 : Nat) (hj2 : j2 < 8) (i2 : Nat) (hi2 : i2 < 8) (h1 : i ≤ j) (h2 : i2 ≤ j2) (h3 : tri j + i = tri j2 + i2) : j = j2 ∧ i = i2 := by
  have := List.all_eq_true.mp (List.all_eq_true.mp (List.all_eq_true.mp (List.all_eq_true.mp tri_ij0 j (List.mem_range.mpr hj)) i (List.mem_range.mpr hi)) j2 (List.mem_range.mpr hj2)) i2 (List.mem_range.mpr hi2)
  rw [decide_eq_true h1, decide_eq_true h2, decide_eq_true h3] at this
  simpa using this
theorem tri_nn : ∀ j, j < 8 → (nn j * (nn j + 1)) / 2 = nn (tri j) := by decide +kernel
def spI (i j a b : Nat) : Nat := ((tri j + i) * 16 + a) * 16 + b
theorem spI_lt {i j a b : Nat} (h : i ≤ j) (hj : j < 8) (ha : a < 16) (hb : b < 16) : spI i j a b < 9216 := by
  have := tri_lt j hj i (by omega) h
  unfold spI
  omega
theorem spI_eq {i j a b i2 j2 a2 b2 : Nat} (h : i ≤ j) (hj : j < 8) (ha : a < 16) (hb : b < 16) (h2 : i2 ≤ j2) (hj2 : j2 < 8) (ha2 : a2 < 16) (hb2 : b2 < 16) : spI i j a b = spI i2 j2 a2 b2 ↔ (i = i2 ∧ j = j2) ∧ a = a2 ∧ b = b2 := by
  constructor
  · intro e
    unfold spI at e
    have e1 : tri j + i = tri j2 + i2 := by omega
    obtain ⟨x, y⟩ := tri_ij j hj i (by omega) j2 hj2 i2 (by omega) h h2 e1
    exact ⟨⟨y, x⟩, by omega, by omega⟩
  · rintro ⟨⟨rfl, rfl⟩, rfl, rfl⟩
    rfl
theorem k_spot {h : qa_M} {i j a b : Nat} (hj : j < 8) (hi : i < 8) : m_X0_spot (nn i) (nn j) (nn a) (nn b) h = some (nn (if i ≤ j then spI i j a b else spI j i b a), h) := by
  unfold m_X0_spot
  by_cases c : i ≤ j
  · rw [if_pos ((nn_le (by omega) (by omega)).mpr c), if_pos c, tri_nn j hj, show (16 : Int32) = nn 16 from rfl, nn_add, nn_mul, nn_add, nn_mul, nn_add]
    rfl
  · rw [if_neg (fun q => c ((nn_le (by omega) (by omega)).mp q)), if_neg c, tri_nn i hi, show (16 : Int32) = nn 16 from rfl, nn_add, nn_mul, nn_add, nn_mul, nn_add]
    rfl
theorem twV_sw {s : Sg} {V W : Int64} {D : List (List Nat)} {a b : Nat} : twV s V W D a b = twV s W V D b a := by
  unfold twV
  apply List.countP_congr
  intro l _
  simp only [decide_eq_true_eq]
  exact and_comm
theorem cnt_sp {p r : Nat → Bool} : ∀ {n : Nat}, cnt p n = cnt (fun q => p q && r q) n + cnt (fun q => p q && !r q) n
  | 0 => rfl
  | n + 1 => by
    show cnt p n + (if p n = true then 1 else 0) = (cnt (fun q => p q && r q) n + (if (p n && r n) = true then 1 else 0)) + (cnt (fun q => p q && !r q) n + (if (p n && !r n) = true then 1 else 0))
    rw [cnt_sp (p := p) (r := r) (n := n)]
    cases p n <;> cases r n <;> simp <;> omega
theorem cnt_four {p r t : Nat → Bool} {A B A2 B2 a c : Nat} : ∀ {n : Nat}, cnt (fun q => p q && decide ((if r q then B else A) = a ∧ (if t q then B2 else A2) = c)) n = (if a = B ∧ c = B2 then cnt (fun q => (p q && r q) && t q) n else 0) + (if a = B ∧ c = A2 then cnt (fun q => (p q && r q) && !t q) n else 0) + (if a = A ∧ c = B2 then cnt (fun q => (p q && !r q) && t q) n else 0) + (if a = A ∧ c = A2 then cnt (fun q => (p q && !r q) && !t q) n else 0)
  | 0 => by simp [cnt]
  | n + 1 => by
    have ih := cnt_four (p := p) (r := r) (t := t) (A := A) (B := B) (A2 := A2) (B2 := B2) (a := a) (c := c) (n := n)
    have e1 : cnt (fun q => p q && decide ((if r q then B else A) = a ∧ (if t q then B2 else A2) = c)) (n + 1) = cnt (fun q => p q && decide ((if r q then B else A) = a ∧ (if t q then B2 else A2) = c)) n + (if (p n && decide ((if r n then B else A) = a ∧ (if t n then B2 else A2) = c)) = true then 1 else 0) := rfl
    have f1 : cnt (fun q => (p q && r q) && t q) (n + 1) = cnt (fun q => (p q && r q) && t q) n + (if ((p n && r n) && t n) = true then 1 else 0) := rfl
    have f2 : cnt (fun q => (p q && r q) && !t q) (n + 1) = cnt (fun q => (p q && r q) && !t q) n + (if ((p n && r n) && !t n) = true then 1 else 0) := rfl
    have f3 : cnt (fun q => (p q && !r q) && t q) (n + 1) = cnt (fun q => (p q && !r q) && t q) n + (if ((p n && !r n) && t n) = true then 1 else 0) := rfl
    have f4 : cnt (fun q => (p q && !r q) && !t q) (n + 1) = cnt (fun q => (p q && !r q) && !t q) n + (if ((p n && !r n) && !t n) = true then 1 else 0) := rfl
    rw [e1, f1, f2, f3, f4, ih]
    clear e1 f1 f2 f3 f4 ih
    generalize cnt (fun q => (p q && r q) && t q) n = x1
    generalize cnt (fun q => (p q && r q) && !t q) n = x2
    generalize cnt (fun q => (p q && !r q) && t q) n = x3
    generalize cnt (fun q => (p q && !r q) && !t q) n = x4
    simp only [eq_comm (a := a) (b := B), eq_comm (a := a) (b := A), eq_comm (a := c) (b := B2), eq_comm (a := c) (b := A2)]
    cases p n <;> cases r n <;> cases t n <;> by_cases k1 : A = a <;> by_cases k2 : B = a <;> by_cases k3 : A2 = c <;> by_cases k4 : B2 = c <;> simp [k1, k2, k3, k4] <;> omega
theorem i32_four (p q r : Int32) : ((p + q) - (r + p)) + r = q := by grind
/-- what one batch adds -/
theorem twV_b {s : Sg} {L : Nat → Lw} {S : Nat} {b : List Nat × Int64} (hb : b ∈ batC s L S) {V W : Int64} (hV : ∀ k, 36 ≤ k → tb V k = false) (hW : ∀ k, 36 ≤ k → tb W k = false) {A B A2 B2 : Nat} (hA : A = andn (2 ^ gS s - 1) (sOn s V b.1)) (hB : B = andn A (2 ^ (if nT s = 0 then 0 else srt s (nT s - 1)))) (hA2 : A2 = andn (2 ^ gS s - 1) (sOn s W b.1)) (hB2 : B2 = andn A2 (2 ^ (if nT s = 0 then 0 else srt s (nT s - 1)))) :
    ∃ x1 x2 x3 x4, bc b.2 = x1 + x2 + (x3 + x4) ∧ bc (b.2 &&& V) = x1 + x2 ∧ bc (b.2 &&& W) = x1 + x3 ∧ bc ((b.2 &&& V) &&& W) = x1 ∧ ∀ a c, twV s V W (flC s b) a c = (if a = B ∧ c = B2 then x1 else 0) + (if a = B ∧ c = A2 then x2 else 0) + (if a = A ∧ c = B2 then x3 else 0) + (if a = A ∧ c = A2 then x4 else 0) := by
  rcases bat_mem hb with ⟨c0, e0⟩ | ⟨c0, g0, l0, m0, -⟩
  · have b1 : bc b.2 = 1 := by rw [e0]; decide +kernel
    have bz : ∀ V : Int64, (∀ k, 36 ≤ k → tb V k = false) → ∀ k, tb (b.2 &&& V) k = false := by
      intro V hV k
      rw [tb_and, e0]
      rcases Nat.lt_or_ge k 36 with a | a
      · rw [tb_p62 k (by omega), decide_eq_false (by omega)]; rfl
      · rw [hV k a, Bool.and_false]
    refine ⟨0, 0, 0, 1, b1, bc_0 (bz V hV), bc_0 (bz W hW), bc_0 (fun k => by rw [tb_and, bz V hV k]; rfl), fun a c => ?_⟩
    have t1 : tld s V [] = A := by rw [hA, e0]; rfl
    have t2 : tld s W [] = A2 := by rw [hA2, e0]; rfl
    unfold twV flC
    rw [if_pos c0, List.countP_cons, List.countP_nil, t1, t2]
    simp only [ite_self, Nat.zero_add, decide_eq_true_eq]
    simp only [eq_comm (a := a) (b := A), eq_comm (a := c) (b := A2)]
  · have hb36 : ∀ k, 36 ≤ k → tb b.2 k = false := fun k hk => by rw [m0]; exact msk_hi hk
    have hn0 : ¬ nT s = 0 := by omega
    refine ⟨cnt (fun q => (tb b.2 q && tb V q) && tb W q) 36, cnt (fun q => (tb b.2 q && tb V q) && !tb W q) 36, cnt (fun q => (tb b.2 q && !tb V q) && tb W q) 36, cnt (fun q => (tb b.2 q && !tb V q) && !tb W q) 36, ?_, ?_, ?_, ?_, fun a c => ?_⟩
    · rw [bc_cnt hb36, cnt_sp (r := tb V), cnt_sp (p := fun q => tb b.2 q && tb V q) (r := tb W), cnt_sp (p := fun q => tb b.2 q && !tb V q) (r := tb W)]
    · rw [bc_cnt (fun k hk => by rw [tb_and, hb36 k hk]; rfl), cnt_congr (q := fun q => tb b.2 q && tb V q) (fun q _ => tb_and _ _ _), cnt_sp (p := fun q => tb b.2 q && tb V q) (r := tb W)]
    · rw [bc_cnt (fun k hk => by rw [tb_and, hb36 k hk]; rfl), cnt_congr (q := fun q => tb b.2 q && tb W q) (fun q _ => tb_and _ _ _), cnt_sp (p := fun q => tb b.2 q && tb W q) (r := tb V)]
      congr 1
      · exact cnt_congr (fun q _ => by rw [Bool.and_right_comm])
      · exact cnt_congr (fun q _ => by rw [Bool.and_right_comm])
    · rw [bc_cnt (fun k hk => by rw [tb_and, tb_and, hb36 k hk]; rfl)]
      exact cnt_congr (fun q _ => by rw [tb_and, tb_and])
    · rw [← cnt_four (p := tb b.2) (r := tb V) (t := tb W) (A := A) (B := B) (A2 := A2) (B2 := B2)]
      unfold twV flC
      rw [if_neg hn0, flat_cnt]
      apply cnt_congr
      intro q _
      have key : ∀ (U : Int64) (X Y : Nat), X = andn (2 ^ gS s - 1) (sOn s U b.1) → Y = andn X (2 ^ (if nT s = 0 then 0 else srt s (nT s - 1))) → tld s U (q :: b.1) = if tb U q then Y else X := by
        intro U X Y hX hY
        show andn _ (sOn s U b.1 ||| (if tb U q = true then 2 ^ srt s b.1.length else 0)) = _
        rw [hY, hX, if_neg hn0, show b.1.length = nT s - 1 by omega]
        rcases mb2 (tb U q) with e | e
        · rw [e, if_pos rfl, if_pos rfl, andn_or]
        · rw [e, if_neg (by decide), if_neg (by decide), Nat.or_zero]
      rw [key V A B hA hB, key W A2 B2 hA2 hB2]
