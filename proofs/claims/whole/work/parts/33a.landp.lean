/-! A LAND IS READ: the clauses, as functions -/
def upS (s : Sg) (i j : Nat) (v : Int32) : Sg := fun a b => if a = i ∧ b = j then v else s a b
theorem upS_at {s : Sg} {i j : Nat} {v : Int32} : upS s i j v i j = v := if_pos ⟨rfl, rfl⟩
theorem upS_ne {s : Sg} {i j a b : Nat} {v : Int32} (h : ¬ (a = i ∧ b = j)) : upS s i j v a b = s a b := if_neg h
def pBd {α β : Type} (r : Nat ⊕ α) (k : α → Nat ⊕ β) : Nat ⊕ β := match r with
  | .inl f => .inl f
  | .inr a => k a
def pSq (B : Nat → Nat) (n : Nat) (s : Sg) (p : Nat) : Nat ⊕ (Nat × Nat × Nat) := pBd (pNum B n p 0 (gC s - 1)) (fun a => pBd (pNum B n a.2 0 (gR s - 1)) (fun b => .inr (a.1, b.1, b.2)))
def pBox (B : Nat → Nat) (n : Nat) (s : Sg) (p : Nat) : Nat ⊕ (Nat × Nat × Nat × Nat × Nat) := pBd (pSq B n s p) (fun a => pBd (pNum B n a.2.2 a.1 (gC s - 1)) (fun c => pBd (pNum B n c.2 a.2.1 (gR s - 1)) (fun d => .inr (a.1, a.2.1, c.1, d.1, d.2))))
def inB (x y x2 y2 q : Nat) : Bool := decide (x ≤ q % 6 ∧ q % 6 ≤ x2) && decide (y ≤ q / 6 ∧ q / 6 ≤ y2)
def wdS (s : Sg) (x y x2 y2 : Nat) : Sg := fun i j => if i = 1 ∧ j < 36 ∧ inB x y x2 y2 j = true then 1 else s i j
def hlS (s : Sg) (q f : Nat) : Sg := upS (upS (upS s 2 (gH s) (nn q)) 3 (gH s) (nn f)) 0 2 (nn (gH s + 1))
def rdS (s : Sg) (q q2 : Nat) : Sg := upS (upS (upS s 4 (gO s) (nn q)) 5 (gO s) (nn q2)) 0 3 (nn (gO s + 1))
def srS (s : Sg) (v : Nat) : Sg := upS (upS s 6 (gS s) (nn v)) 0 4 (nn (gS s + 1))
def wiS (s : Sg) (c r : Nat) : Sg := upS (upS s 0 0 (nn c)) 0 1 (nn r)
def cWide (B : Nat → Nat) (n : Nat) (s : Sg) (p : Nat) : Nat ⊕ (Sg × Nat) := pBd (pNum B n p 2 6) (fun a => pBd (pNum B n a.2 2 6) (fun b => .inr (wiS s a.1 b.1, b.2)))
def cWood (B : Nat → Nat) (n : Nat) (s : Sg) (p : Nat) : Nat ⊕ (Sg × Nat) := pBd (pBox B n s p) (fun b => .inr (wdS s b.1 b.2.1 b.2.2.1 b.2.2.2.1, b.2.2.2.2))
def cHill (B : Nat → Nat) (n : Nat) (s : Sg) (p : Nat) : Nat ⊕ (Sg × Nat) := pBd (pSq B n s p) (fun a => if hon s (6 * a.2.1 + a.1) = -1 then pBd (pNum B n a.2.2 1 9) (fun f => .inr (hlS s (6 * a.2.1 + a.1) f.1, f.2)) else .inl (ER (sk B n p) 5))
def cRoad (B : Nat → Nat) (n : Nat) (s : Sg) (p : Nat) : Nat ⊕ (Sg × Nat) := pBd (pBox B n s p) (fun b => if b.1 = b.2.2.1 ∨ b.2.1 = b.2.2.2.1 then .inr (rdS s (6 * b.2.1 + b.1) (6 * b.2.2.2.1 + b.2.2.1), b.2.2.2.2) else .inl (ER (sk B n p) 5))
def cSort (B : Nat → Nat) (n : Nat) (s : Sg) (p : Nat) : Nat ⊕ (Sg × Nat) := pBd (pNum B n p 0 4) (fun a => if nT s + a.1 ≤ 4 then .inr (srS s a.1, a.2) else .inl (ER (sk B n p) 5))
def fulL (s : Sg) (cnt k : Nat) : Bool := decide (cnt = 24) || (!decide ((k = 0) ↔ (cnt = 0)) || ((decide (k = 2) && decide (gH s = 8)) || ((decide (k = 3) && decide (gO s = 6)) || (decide (k = 4) && decide (gS s = 4)))))
def clP (B : Nat → Nat) (n : Nat) (s : Sg) (cnt p : Nat) : Nat ⊕ (Sg × Nat) := match amN B n (sk B n p) [5, 6, 7, 8, 9] 0 with
  | none => .inl (ER (sk B n p) 0)
  | some k => if fulL s cnt k then .inl (ER (sk B n p) 4) else if k = 0 then cWide B n s (sk B n p + 4) else if k = 1 then cWood B n s (sk B n p + 4) else if k = 2 then cHill B n s (sk B n p + 4) else if k = 3 then cRoad B n s (sk B n p + 4) else cSort B n s (sk B n p + 4)
def ldP (B : Nat → Nat) (n : Nat) : Nat → Sg → Nat → Nat → Nat ⊕ Sg
  | 0, _, _, _ => .inl 1
  | f + 1, s, cnt, p => pBd (clP B n s cnt p) (fun a => if n ≤ sk B n a.2 then .inr a.1 else if B (sk B n a.2) = 59 then ldP B n f a.1 (cnt + 1) (sk B n a.2 + 1) else .inl (ER (sk B n a.2) 0))
theorem pBd_r {α β : Type} {r : Nat ⊕ α} {k : α → Nat ⊕ β} {b : β} (h : pBd r k = .inr b) : ∃ a, r = .inr a ∧ k a = .inr b := by
  cases r with
  | inl f => cases h
  | inr a => exact ⟨a, rfl, h⟩
theorem pSq_ok {B : Nat → Nat} {n p x y e : Nat} {s : Sg} (h : pSq B n s p = .inr (x, y, e)) (hp : p ≤ n) (hC : 2 ≤ gC s) (hR : 2 ≤ gR s) : x < gC s ∧ y < gR s ∧ p < e ∧ e ≤ n := by
  obtain ⟨⟨a, e1⟩, h1, h⟩ := pBd_r h
  obtain ⟨⟨b, e2⟩, h2, h⟩ := pBd_r h
  have h := Prod.mk.inj (Sum.inr.inj h)
  have h3 := Prod.mk.inj h.2
  have a1 := pNum_ok h1 hp
  have a2 := pNum_ok h2 (show e1 ≤ n by omega)
  have q1 : a = x := h.1
  have q2 : b = y := h3.1
  have q3 : e2 = e := h3.2
  omega
theorem pBox_ok {B : Nat → Nat} {n p x y x2 y2 e : Nat} {s : Sg} (h : pBox B n s p = .inr (x, y, x2, y2, e)) (hp : p ≤ n) (hC : 2 ≤ gC s) (hR : 2 ≤ gR s) : x ≤ x2 ∧ x2 < gC s ∧ y ≤ y2 ∧ y2 < gR s ∧ p < e ∧ e ≤ n := by
  obtain ⟨⟨a1, a2, a3⟩, h1, h⟩ := pBd_r h
  obtain ⟨⟨b1, b2⟩, h2, h⟩ := pBd_r h
  obtain ⟨⟨c1, c2⟩, h3, h⟩ := pBd_r h
  have h := Prod.mk.inj (Sum.inr.inj h)
  have h4 := Prod.mk.inj h.2
  have h5 := Prod.mk.inj h4.2
  have h6 := Prod.mk.inj h5.2
  have q1 : a1 = x := h.1
  have q2 : a2 = y := h4.1
  have q3 : b1 = x2 := h5.1
  have q4 : c1 = y2 := h6.1
  have q5 : c2 = e := h6.2
  have o1 := pSq_ok h1 hp hC hR
  have o2 := pNum_ok h2 (show a3 ≤ n by omega)
  have o3 := pNum_ok h3 (show b2 ≤ n by omega)
  dsimp only at o2 o3
  omega
/-! the drafts keep in shape -/
theorem gC_up {s : Sg} {i j : Nat} {v : Int32} (h : ¬ (0 = i ∧ 0 = j)) : gC (upS s i j v) = gC s := by unfold gC; rw [upS_ne h]
theorem gR_up {s : Sg} {i j : Nat} {v : Int32} (h : ¬ (0 = i ∧ 1 = j)) : gR (upS s i j v) = gR s := by unfold gR; rw [upS_ne h]
theorem gH_up {s : Sg} {i j : Nat} {v : Int32} (h : ¬ (0 = i ∧ 2 = j)) : gH (upS s i j v) = gH s := by unfold gH; rw [upS_ne h]
theorem gO_up {s : Sg} {i j : Nat} {v : Int32} (h : ¬ (0 = i ∧ 3 = j)) : gO (upS s i j v) = gO s := by unfold gO; rw [upS_ne h]
theorem gS_up {s : Sg} {i j : Nat} {v : Int32} (h : ¬ (0 = i ∧ 4 = j)) : gS (upS s i j v) = gS s := by unfold gS; rw [upS_ne h]
theorem gT_up {s : Sg} {i j : Nat} {v : Int32} (h : ¬ (0 = i ∧ 5 = j)) : gT (upS s i j v) = gT s := by unfold gT; rw [upS_ne h]
theorem gL_up {s : Sg} {i j : Nat} {v : Int32} (h : ¬ (0 = i ∧ 6 = j)) : gL (upS s i j v) = gL s := by unfold gL; rw [upS_ne h]
/-- a draft: no notes, no law, nothing drawn -/
def DF (s : Sg) : Prop := WF s ∧ s 0 5 = 0 ∧ s 0 6 = 0 ∧ s 0 7 = 0
theorem DF.t {s : Sg} (d : DF s) : gT s = 0 := by unfold gT; rw [d.2.1]; rfl
theorem gH_hl {s : Sg} {q f : Nat} (w : WF s) : gH (hlS s q f) = gH s + 1 := by
  have := w.h.2
  unfold hlS gH
  rw [upS_at]
  exact cN_nn (by unfold gH at this; omega)
theorem thr_up {s t : Sg} (h1 : gC t = gC s) (h2 : gR t = gR s) (q : Nat) : thr t q = thr s q := by unfold thr; rw [h1, h2]
theorem inr_mk {n m : Nat} (h : n ≤ m) : inr (nn n) m := ⟨n, h, rfl⟩
theorem DF_hl {s : Sg} {x y f : Nat} (d : DF s) (h8 : gH s < 8) (hx : x < gC s) (hy : y < gR s) (hf : f ≤ 9) : DF (hlS s (6 * y + x) f) := by
  obtain ⟨w, d5, d6, d7⟩ := d
  have w0 := w
  have lc := w.c.2
  have lr := w.r.2
  obtain ⟨⟨a0, a1, a2, a3, a4, a5, a6, a7⟩, b1, b2, b3, b4, b5, b6⟩ := w
  have e0 : ∀ j, j ≠ 2 → hlS s (6 * y + x) f 0 j = s 0 j := fun j hj => by unfold hlS; rw [upS_ne (by omega), upS_ne (by omega), upS_ne (by omega)]
  have e1 : ∀ i j, i ≠ 0 → i ≠ 2 → i ≠ 3 → hlS s (6 * y + x) f i j = s i j := fun i j h0 h1 h2 => by unfold hlS; rw [upS_ne (by omega), upS_ne (by omega), upS_ne (by omega)]
  have gh := gH_hl (q := 6 * y + x) (f := f) w0
  have gc : gC (hlS s (6 * y + x) f) = gC s := by unfold gC; rw [e0 0 (by omega)]
  have gr : gR (hlS s (6 * y + x) f) = gR s := by unfold gR; rw [e0 1 (by omega)]
  have go : gO (hlS s (6 * y + x) f) = gO s := by unfold gO; rw [e0 3 (by omega)]
  have gs : gS (hlS s (6 * y + x) f) = gS s := by unfold gS; rw [e0 4 (by omega)]
  have gt : gT (hlS s (6 * y + x) f) = gT s := by unfold gT; rw [e0 5 (by omega)]
  have t0 : gT s = 0 := by unfold gT; rw [d5]; rfl
  have hm : mny (hlS s (6 * y + x) f) = mny s := by funext i; unfold mny; rw [e1 6 i (by omega) (by omega) (by omega)]
  refine ⟨⟨⟨?_, ?_, ?_, ?_, ?_, ?_, ?_, ?_⟩, ?_, ?_, ?_, ?_, ?_, ?_⟩, by rw [e0 5 (by omega)]; exact d5, by rw [e0 6 (by omega)]; exact d6, by rw [e0 7 (by omega)]; exact d7⟩
  · rw [e0 0 (by omega)]; exact a0
  · rw [e0 1 (by omega)]; exact a1
  · show inr (upS _ 0 2 _ 0 2) 8
    rw [upS_at]; exact inr_mk (by omega)
  · rw [e0 3 (by omega)]; exact a3
  · rw [e0 4 (by omega)]; exact a4
  · rw [e0 5 (by omega)]; exact a5
  · rw [e0 6 (by omega)]; exact a6
  · rw [e0 7 (by omega)]; exact a7
  · intro i hi
    rw [gh] at hi
    rw [thr_up gc gr]
    by_cases c : i = gH s
    · subst c
      have q2 : hlS s (6 * y + x) f 2 (gH s) = nn (6 * y + x) := by unfold hlS; rw [upS_ne (by omega), upS_ne (by omega), upS_at]
      have q3 : hlS s (6 * y + x) f 3 (gH s) = nn f := by unfold hlS; rw [upS_ne (by omega), upS_at]
      rw [q2, q3, cN_nn (by omega)]
      refine ⟨inr_mk (by omega), ?_, inr_mk hf⟩
      unfold thr
      rw [decide_eq_true (by omega), decide_eq_true (by omega)]
      rfl
    · have q2 : hlS s (6 * y + x) f 2 i = s 2 i := by unfold hlS; rw [upS_ne (by omega), upS_ne (by omega), upS_ne (by omega)]
      have q3 : hlS s (6 * y + x) f 3 i = s 3 i := by unfold hlS; rw [upS_ne (by omega), upS_ne (by omega), upS_ne (by omega)]
      rw [q2, q3]
      exact b1 i (by omega)
  · intro i hi
    rw [go] at hi
    rw [e1 4 i (by omega) (by omega) (by omega), e1 5 i (by omega) (by omega) (by omega)]
    exact b2 i hi
  · rw [gs, hm]
    refine ⟨fun i hi => ?_, b3.2⟩
    rw [e1 6 i (by omega) (by omega) (by omega)]
    exact b3.1 i hi
  · intro q hq
    rw [e1 1 q (by omega) (by omega) (by omega), thr_up gc gr]
    exact b4 q hq
  · intro m hm
    rw [gt, t0] at hm
    omega
  · intro hc
    rw [gc] at hc
    omega
theorem gO_rd {s : Sg} {q q2 : Nat} (w : WF s) : gO (rdS s q q2) = gO s + 1 := by
  have := w.o.2
  unfold rdS gO
  rw [upS_at]
  exact cN_nn (by unfold gO at this; omega)
theorem DF_rd {s : Sg} {q q2 : Nat} (d : DF s) (h6 : gO s < 6) (hq : q ≤ 35) (hq2 : q2 ≤ 35) (hC : 2 ≤ gC s) : DF (rdS s q q2) := by
  obtain ⟨w, d5, d6, d7⟩ := d
  have w0 := w
  obtain ⟨⟨a0, a1, a2, a3, a4, a5, a6, a7⟩, b1, b2, b3, b4, b5, b6⟩ := w
  have e0 : ∀ j, j ≠ 3 → rdS s q q2 0 j = s 0 j := fun j hj => by unfold rdS; rw [upS_ne (by omega), upS_ne (by omega), upS_ne (by omega)]
  have e1 : ∀ i j, i ≠ 0 → i ≠ 4 → i ≠ 5 → rdS s q q2 i j = s i j := fun i j h0 h1 h2 => by unfold rdS; rw [upS_ne (by omega), upS_ne (by omega), upS_ne (by omega)]
  have go := gO_rd (q := q) (q2 := q2) w0
  have gc : gC (rdS s q q2) = gC s := by unfold gC; rw [e0 0 (by omega)]
  have gr : gR (rdS s q q2) = gR s := by unfold gR; rw [e0 1 (by omega)]
  have gh : gH (rdS s q q2) = gH s := by unfold gH; rw [e0 2 (by omega)]
  have gs : gS (rdS s q q2) = gS s := by unfold gS; rw [e0 4 (by omega)]
  have gt : gT (rdS s q q2) = gT s := by unfold gT; rw [e0 5 (by omega)]
  have t0 : gT s = 0 := by unfold gT; rw [d5]; rfl
  have hm : mny (rdS s q q2) = mny s := by funext i; unfold mny; rw [e1 6 i (by omega) (by omega) (by omega)]
  refine ⟨⟨⟨?_, ?_, ?_, ?_, ?_, ?_, ?_, ?_⟩, ?_, ?_, ?_, ?_, ?_, ?_⟩, by rw [e0 5 (by omega)]; exact d5, by rw [e0 6 (by omega)]; exact d6, by rw [e0 7 (by omega)]; exact d7⟩
  · rw [e0 0 (by omega)]; exact a0
  · rw [e0 1 (by omega)]; exact a1
  · rw [e0 2 (by omega)]; exact a2
  · show inr (upS _ 0 3 _ 0 3) 6
    rw [upS_at]; exact inr_mk (by omega)
  · rw [e0 4 (by omega)]; exact a4
  · rw [e0 5 (by omega)]; exact a5
  · rw [e0 6 (by omega)]; exact a6
  · rw [e0 7 (by omega)]; exact a7
  · intro i hi
    rw [gh] at hi
    rw [thr_up gc gr, e1 2 i (by omega) (by omega) (by omega), e1 3 i (by omega) (by omega) (by omega)]
    exact b1 i hi
  · intro i hi
    rw [go] at hi
    by_cases c : i = gO s
    · subst c
      have q4 : rdS s q q2 4 (gO s) = nn q := by unfold rdS; rw [upS_ne (by omega), upS_ne (by omega), upS_at]
      have q5 : rdS s q q2 5 (gO s) = nn q2 := by unfold rdS; rw [upS_ne (by omega), upS_at]
      rw [q4, q5]
      exact ⟨inr_mk hq, inr_mk hq2⟩
    · have q4 : rdS s q q2 4 i = s 4 i := by unfold rdS; rw [upS_ne (by omega), upS_ne (by omega), upS_ne (by omega)]
      have q5 : rdS s q q2 5 i = s 5 i := by unfold rdS; rw [upS_ne (by omega), upS_ne (by omega), upS_ne (by omega)]
      rw [q4, q5]
      exact b2 i (by omega)
  · rw [gs, hm]
    refine ⟨fun i hi => ?_, b3.2⟩
    rw [e1 6 i (by omega) (by omega) (by omega)]
    exact b3.1 i hi
  · intro q hq
    rw [e1 1 q (by omega) (by omega) (by omega), thr_up gc gr]
    exact b4 q hq
  · intro m hm
    rw [gt, t0] at hm
    omega
  · intro hc
    rw [gc] at hc
    omega
theorem gS_sr {s : Sg} {v : Nat} (w : WF s) : gS (srS s v) = gS s + 1 := by
  have := w.s.2
  unfold srS gS
  rw [upS_at]
  exact cN_nn (by unfold gS at this; omega)
theorem sumN_congr {f g : Nat → Nat} : ∀ {n : Nat}, (∀ k, k < n → f k = g k) → sumN f n = sumN g n
  | 0, _ => rfl
  | n + 1, h => by
    unfold sumN
    rw [sumN_congr (fun k hk => h k (by omega)), h n (by omega)]
theorem nT_sr {s : Sg} {v : Nat} (w : WF s) (hv : v < 2147483648) : nT (srS s v) = nT s + v := by
  have hm : ∀ i, i < gS s → mny (srS s v) i = mny s i := fun i hi => by unfold mny srS; rw [upS_ne (by omega), upS_ne (by omega)]
  unfold nT
  rw [gS_sr w]
  show sumN _ (gS s) + mny (srS s v) (gS s) = _
  rw [sumN_congr hm]
  congr 1
  unfold mny srS
  rw [upS_ne (by omega), upS_at, cN_nn hv]
theorem DF_sr {s : Sg} {v : Nat} (d : DF s) (h4 : gS s < 4) (hv : nT s + v ≤ 4) (hC : 2 ≤ gC s) : DF (srS s v) := by
  obtain ⟨w, d5, d6, d7⟩ := d
  have w0 := w
  obtain ⟨⟨a0, a1, a2, a3, a4, a5, a6, a7⟩, b1, b2, b3, b4, b5, b6⟩ := w
  have e0 : ∀ j, j ≠ 4 → srS s v 0 j = s 0 j := fun j hj => by unfold srS; rw [upS_ne (by omega), upS_ne (by omega)]
  have e1 : ∀ i j, i ≠ 0 → i ≠ 6 → srS s v i j = s i j := fun i j h0 h1 => by unfold srS; rw [upS_ne (by omega), upS_ne (by omega)]
  have gs := gS_sr (v := v) w0
  have gc : gC (srS s v) = gC s := by unfold gC; rw [e0 0 (by omega)]
  have gr : gR (srS s v) = gR s := by unfold gR; rw [e0 1 (by omega)]
  have gh : gH (srS s v) = gH s := by unfold gH; rw [e0 2 (by omega)]
  have go : gO (srS s v) = gO s := by unfold gO; rw [e0 3 (by omega)]
  have gt : gT (srS s v) = gT s := by unfold gT; rw [e0 5 (by omega)]
  have t0 : gT s = 0 := by unfold gT; rw [d5]; rfl
  refine ⟨⟨⟨?_, ?_, ?_, ?_, ?_, ?_, ?_, ?_⟩, ?_, ?_, ?_, ?_, ?_, ?_⟩, by rw [e0 5 (by omega)]; exact d5, by rw [e0 6 (by omega)]; exact d6, by rw [e0 7 (by omega)]; exact d7⟩
  · rw [e0 0 (by omega)]; exact a0
  · rw [e0 1 (by omega)]; exact a1
  · rw [e0 2 (by omega)]; exact a2
  · rw [e0 3 (by omega)]; exact a3
  · show inr (upS _ 0 4 _ 0 4) 4
    rw [upS_at]; exact inr_mk (by omega)
  · rw [e0 5 (by omega)]; exact a5
  · rw [e0 6 (by omega)]; exact a6
  · rw [e0 7 (by omega)]; exact a7
  · intro i hi
    rw [gh] at hi
    rw [thr_up gc gr, e1 2 i (by omega) (by omega), e1 3 i (by omega) (by omega)]
    exact b1 i hi
  · intro i hi
    rw [go] at hi
    rw [e1 4 i (by omega) (by omega), e1 5 i (by omega) (by omega)]
    exact b2 i hi
  · refine ⟨fun i hi => ?_, ?_⟩
    · rw [gs] at hi
      by_cases c : i = gS s
      · subst c
        have q6 : srS s v 6 (gS s) = nn v := by unfold srS; rw [upS_ne (by omega), upS_at]
        rw [q6]
        exact inr_mk (by omega)
      · have q6 : srS s v 6 i = s 6 i := by unfold srS; rw [upS_ne (by omega), upS_ne (by omega)]
        rw [q6]
        exact b3.1 i (by omega)
    · have := nT_sr (v := v) w0 (by omega)
      unfold nT at this hv
      omega
  · intro q hq
    rw [e1 1 q (by omega) (by omega), thr_up gc gr]
    exact b4 q hq
  · intro m hm
    rw [gt, t0] at hm
    omega
  · intro hc
    rw [gc] at hc
    omega
theorem DF_wd {s : Sg} {x y x2 y2 : Nat} (d : DF s) (hx : x2 < gC s) (hy : y2 < gR s) : DF (wdS s x y x2 y2) := by
  obtain ⟨w, d5, d6, d7⟩ := d
  obtain ⟨⟨a0, a1, a2, a3, a4, a5, a6, a7⟩, b1, b2, b3, b4, b5, b6⟩ := w
  have e1 : ∀ i j, i ≠ 1 → wdS s x y x2 y2 i j = s i j := fun i j h0 => by unfold wdS; rw [if_neg (fun q => h0 q.1)]
  have gc : gC (wdS s x y x2 y2) = gC s := by unfold gC; rw [e1 0 0 (by omega)]
  have gr : gR (wdS s x y x2 y2) = gR s := by unfold gR; rw [e1 0 1 (by omega)]
  have gh : gH (wdS s x y x2 y2) = gH s := by unfold gH; rw [e1 0 2 (by omega)]
  have go : gO (wdS s x y x2 y2) = gO s := by unfold gO; rw [e1 0 3 (by omega)]
  have gs : gS (wdS s x y x2 y2) = gS s := by unfold gS; rw [e1 0 4 (by omega)]
  have gt : gT (wdS s x y x2 y2) = gT s := by unfold gT; rw [e1 0 5 (by omega)]
  have t0 : gT s = 0 := by unfold gT; rw [d5]; rfl
  have hm : mny (wdS s x y x2 y2) = mny s := by funext i; unfold mny; rw [e1 6 i (by omega)]
  refine ⟨⟨⟨?_, ?_, ?_, ?_, ?_, ?_, ?_, ?_⟩, ?_, ?_, ?_, ?_, ?_, ?_⟩, by rw [e1 0 5 (by omega)]; exact d5, by rw [e1 0 6 (by omega)]; exact d6, by rw [e1 0 7 (by omega)]; exact d7⟩
  · rw [e1 0 0 (by omega)]; exact a0
  · rw [e1 0 1 (by omega)]; exact a1
  · rw [e1 0 2 (by omega)]; exact a2
  · rw [e1 0 3 (by omega)]; exact a3
  · rw [e1 0 4 (by omega)]; exact a4
  · rw [e1 0 5 (by omega)]; exact a5
  · rw [e1 0 6 (by omega)]; exact a6
  · rw [e1 0 7 (by omega)]; exact a7
  · intro i hi
    rw [gh] at hi
    rw [thr_up gc gr, e1 2 i (by omega), e1 3 i (by omega)]
    exact b1 i hi
  · intro i hi
    rw [go] at hi
    rw [e1 4 i (by omega), e1 5 i (by omega)]
    exact b2 i hi
  · rw [gs, hm]
    refine ⟨fun i hi => ?_, b3.2⟩
    rw [e1 6 i (by omega)]
    exact b3.1 i hi
  · intro q hq
    rw [thr_up gc gr]
    unfold wdS
    by_cases c : (1 : Nat) = 1 ∧ q < 36 ∧ inB x y x2 y2 q = true
    · rw [if_pos c]
      refine ⟨.inr rfl, fun _ => ?_⟩
      have ci := c.2.2
      unfold inB at ci
      rw [Bool.and_eq_true, decide_eq_true_eq, decide_eq_true_eq] at ci
      unfold thr
      rw [decide_eq_true (by omega), decide_eq_true (by omega)]
      rfl
    · rw [if_neg c]
      exact b4 q hq
  · intro m hm
    rw [gt, t0] at hm
    omega
  · intro hc
    rw [gc] at hc
    omega
/-- the first clause, on an empty draft -/
def Z0 (s : Sg) : Prop := (∀ j, s 0 j = 0) ∧ ∀ j, j < 36 → s 1 j = 0
theorem Z0.g {s : Sg} (z : Z0 s) : gC s = 0 ∧ gR s = 0 ∧ gH s = 0 ∧ gO s = 0 ∧ gS s = 0 ∧ gT s = 0 := by
  refine ⟨?_, ?_, ?_, ?_, ?_, ?_⟩
  · unfold gC; rw [z.1]; rfl
  · unfold gR; rw [z.1]; rfl
  · unfold gH; rw [z.1]; rfl
  · unfold gO; rw [z.1]; rfl
  · unfold gS; rw [z.1]; rfl
  · unfold gT; rw [z.1]; rfl
theorem DF_0 {s : Sg} (z : Z0 s) : DF s := by
  obtain ⟨g0, g1, g2, g3, g4, g5⟩ := z.g
  have zz : ∀ j m, inr (s 0 j) m := fun j m => by rw [z.1]; exact ⟨0, Nat.zero_le _, rfl⟩
  refine ⟨⟨⟨zz _ _, zz _ _, zz _ _, zz _ _, zz _ _, zz _ _, zz _ _, zz _ _⟩, ?_, ?_, ⟨?_, ?_⟩, ?_, ?_, ?_⟩, z.1 _, z.1 _, z.1 _⟩
  · intro i hi; rw [g2] at hi; omega
  · intro i hi; rw [g3] at hi; omega
  · intro i hi; rw [g4] at hi; omega
  · rw [g4]; exact Nat.zero_le _
  · intro q hq; rw [z.2 q hq]; exact ⟨.inl rfl, fun q => absurd q (show ¬ (0 : Int32) = 1 by decide)⟩
  · intro i hi; rw [g5] at hi; omega
  · intro _; exact ⟨g1, g2, g3, g4, g5⟩
theorem DF_wi {s : Sg} {c r : Nat} (z : Z0 s) (hc : 2 ≤ c ∧ c ≤ 6) (hr : 2 ≤ r ∧ r ≤ 6) : DF (wiS s c r) ∧ gC (wiS s c r) = c ∧ gR (wiS s c r) = r := by
  have zz : ∀ m, inr (0 : Int32) m := fun m => ⟨0, Nat.zero_le _, rfl⟩
  have e1 : ∀ j, 2 ≤ j → wiS s c r 0 j = 0 := fun j h => by unfold wiS; rw [upS_ne (by omega), upS_ne (by omega)]; exact z.1 j
  have e2 : ∀ j, j < 36 → wiS s c r 1 j = 0 := fun j h => by unfold wiS; rw [upS_ne (by omega), upS_ne (by omega)]; exact z.2 j h
  have e00 : wiS s c r 0 0 = nn c := by unfold wiS; rw [upS_ne (by omega), upS_at]
  have e01 : wiS s c r 0 1 = nn r := by unfold wiS; rw [upS_at]
  have gc : gC (wiS s c r) = c := by unfold gC; rw [e00, cN_nn (by omega)]
  have gr : gR (wiS s c r) = r := by unfold gR; rw [e01, cN_nn (by omega)]
  have gh : gH (wiS s c r) = 0 := by unfold gH; rw [e1 2 (by omega)]; rfl
  have go : gO (wiS s c r) = 0 := by unfold gO; rw [e1 3 (by omega)]; rfl
  have gs : gS (wiS s c r) = 0 := by unfold gS; rw [e1 4 (by omega)]; rfl
  have gt : gT (wiS s c r) = 0 := by unfold gT; rw [e1 5 (by omega)]; rfl
  refine ⟨⟨⟨⟨?_, ?_, ?_, ?_, ?_, ?_, ?_, ?_⟩, ?_, ?_, ⟨?_, ?_⟩, ?_, ?_, ?_⟩, e1 5 (by omega), e1 6 (by omega), e1 7 (by omega)⟩, gc, gr⟩
  · rw [e00]; exact inr_mk (by omega)
  · rw [e01]; exact inr_mk (by omega)
  · rw [e1 2 (by omega)]; exact zz _
  · rw [e1 3 (by omega)]; exact zz _
  · rw [e1 4 (by omega)]; exact zz _
  · rw [e1 5 (by omega)]; exact zz _
  · rw [e1 6 (by omega)]; exact zz _
  · rw [e1 7 (by omega)]; exact zz _
  · intro i hi; rw [gh] at hi; omega
  · intro i hi; rw [go] at hi; omega
  · intro i hi; rw [gs] at hi; omega
  · rw [gs]; exact Nat.zero_le _
  · intro q hq
    rw [e2 q hq]
    exact ⟨.inl rfl, fun q => absurd q (by decide)⟩
  · intro i hi; rw [gt] at hi; omega
  · intro q; rw [gc] at q; omega
/-- what a clause leaves -/
def DC (s : Sg) (cnt : Nat) : Prop := DF s ∧ (cnt = 0 → Z0 s) ∧ (0 < cnt → 2 ≤ gC s ∧ 2 ≤ gR s)
theorem clP_ok {B : Nat → Nat} {n cnt p e : Nat} {s t : Sg} (d : DC s cnt) (hp : p ≤ n) (h : clP B n s cnt p = .inr (t, e)) : DC t (cnt + 1) ∧ p < e ∧ e ≤ n := by
  obtain ⟨d, d0, d1⟩ := d
  have hsk := sk_ge (B := B) (n := n) (p := p)
  have hskn := sk_le (B := B) hp
  unfold clP at h
  cases ha : amN B n (sk B n p) [5, 6, 7, 8, 9] 0 with
  | none => rw [ha] at h; cases h
  | some k =>
    rw [ha] at h
    have h : (if fulL s cnt k then .inl (ER (sk B n p) 4) else if k = 0 then cWide B n s (sk B n p + 4) else if k = 1 then cWood B n s (sk B n p + 4) else if k = 2 then cHill B n s (sk B n p + 4) else if k = 3 then cRoad B n s (sk B n p + 4) else cSort B n s (sk B n p + 4)) = (.inr (t, e) : Nat ⊕ (Sg × Nat)) := h
    obtain ⟨k1, k2, w, k3, k4⟩ := amN_lt ha
    have hw : (wrd w).length = 4 := by
      rw [Nat.sub_zero] at k3
      rw [List.length_cons, List.length_cons, List.length_cons, List.length_cons, List.length_cons, List.length_nil] at k2
      have : k = 0 ∨ k = 1 ∨ k = 2 ∨ k = 3 ∨ k = 4 := by omega
      rcases this with rfl | rfl | rfl | rfl | rfl <;> (have := Option.some.inj k3; subst this; decide)
    have h4 : sk B n p + 4 ≤ n := by
      have := mtc_len k4
      rw [hw] at this
      have := wd_le (B := B) hskn
      omega
    by_cases cf : fulL s cnt k = true
    · rw [if_pos cf] at h; cases h
    · rw [if_neg cf] at h
      unfold fulL at cf
      rw [Bool.or_eq_true, Bool.or_eq_true, Bool.or_eq_true, Bool.or_eq_true, Bool.not_eq_true', decide_eq_false_iff_not] at cf
      have cf1 : ((k = 0) ↔ (cnt = 0)) := Classical.byContradiction (fun q => cf (.inr (.inl q)))
      by_cases c0 : k = 0
      · rw [if_pos c0] at h
        have z := d0 (cf1.mp c0)
        obtain ⟨⟨a, e1⟩, h1, h⟩ := pBd_r h
        obtain ⟨⟨b, e2⟩, h2, h⟩ := pBd_r h
        have a1 := pNum_ok h1 h4
        have a2 := pNum_ok h2 (show e1 ≤ n by omega)
        have hh := Prod.mk.inj (Sum.inr.inj h)
        have q1 : wiS s a b = t := hh.1
        have q2 : e2 = e := hh.2
        have dw := DF_wi (c := a) (r := b) z (by omega) (by omega)
        rw [q1] at dw
        exact ⟨⟨dw.1, fun q => by omega, fun _ => by omega⟩, by omega, by omega⟩
      · rw [if_neg c0] at h
        have hcp : 0 < cnt := by
          rcases Nat.eq_zero_or_pos cnt with q | q
          · exact absurd (cf1.mpr q) c0
          · exact q
        obtain ⟨hC, hR⟩ := d1 hcp
        have lc := d.1.c.2
        have lr := d.1.r.2
        by_cases c1 : k = 1
        · rw [if_pos c1] at h
          obtain ⟨⟨x, y, x2, y2, e1⟩, h1, h⟩ := pBd_r h
          have a1 := pBox_ok h1 h4 hC hR
          have hh := Prod.mk.inj (Sum.inr.inj h)
          have q1 : wdS s x y x2 y2 = t := hh.1
          have q2 : e1 = e := hh.2
          have dw := DF_wd (x := x) (y := y) d (show x2 < gC s by omega) (show y2 < gR s by omega)
          have g1 : gC (wdS s x y x2 y2) = gC s := rfl
          have g2 : gR (wdS s x y x2 y2) = gR s := rfl
          rw [q1] at dw g1 g2
          exact ⟨⟨dw, fun q => by omega, fun _ => by omega⟩, by omega, by omega⟩
        · rw [if_neg c1] at h
          by_cases c2 : k = 2
          · rw [if_pos c2] at h
            obtain ⟨⟨x, y, e1⟩, h1, h⟩ := pBd_r h
            have a1 := pSq_ok h1 h4 hC hR
            have h : (if hon s (6 * y + x) = -1 then pBd (pNum B n e1 1 9) (fun f => .inr (hlS s (6 * y + x) f.1, f.2)) else .inl (ER (sk B n (sk B n p + 4)) 5)) = (.inr (t, e) : Nat ⊕ (Sg × Nat)) := h
            by_cases c3 : hon s (6 * y + x) = -1
            · rw [if_pos c3] at h
              obtain ⟨⟨f, e2⟩, h2, h⟩ := pBd_r h
              have a2 := pNum_ok h2 (show e1 ≤ n by omega)
              have hh := Prod.mk.inj (Sum.inr.inj h)
              have q1 : hlS s (6 * y + x) f = t := hh.1
              have q2 : e2 = e := hh.2
              have h8 : gH s < 8 := by
                have := d.1.h.2
                rcases Nat.eq_or_lt_of_le this with q | q
                · exact absurd (.inr (.inr (.inl (by rw [decide_eq_true c2, decide_eq_true q]; rfl)))) cf
                · exact q
              have dw := DF_hl (x := x) (y := y) (f := f) d h8 (by omega) (by omega) (by omega)
              have g1 : gC (hlS s (6 * y + x) f) = gC s := rfl
              have g2 : gR (hlS s (6 * y + x) f) = gR s := rfl
              rw [q1] at dw g1 g2
              exact ⟨⟨dw, fun q => by omega, fun _ => by omega⟩, by omega, by omega⟩
            · rw [if_neg c3] at h; cases h
          · rw [if_neg c2] at h
            by_cases c3 : k = 3
            · rw [if_pos c3] at h
              obtain ⟨⟨x, y, x2, y2, e1⟩, h1, h⟩ := pBd_r h
              have a1 := pBox_ok h1 h4 hC hR
              have h : (if x = x2 ∨ y = y2 then .inr (rdS s (6 * y + x) (6 * y2 + x2), e1) else .inl (ER (sk B n (sk B n p + 4)) 5)) = (.inr (t, e) : Nat ⊕ (Sg × Nat)) := h
              by_cases c5 : x = x2 ∨ y = y2
              · rw [if_pos c5] at h
                have hh := Prod.mk.inj (Sum.inr.inj h)
                have q1 : rdS s (6 * y + x) (6 * y2 + x2) = t := hh.1
                have q2 : e1 = e := hh.2
                have h6 : gO s < 6 := by
                  have := d.1.o.2
                  rcases Nat.eq_or_lt_of_le this with q | q
                  · exact absurd (.inr (.inr (.inr (.inl (by rw [decide_eq_true c3, decide_eq_true q]; rfl))))) cf
                  · exact q
                have dw := DF_rd (q := 6 * y + x) (q2 := 6 * y2 + x2) d h6 (by omega) (by omega) hC
                have g1 : gC (rdS s (6 * y + x) (6 * y2 + x2)) = gC s := rfl
                have g2 : gR (rdS s (6 * y + x) (6 * y2 + x2)) = gR s := rfl
                rw [q1] at dw g1 g2
                exact ⟨⟨dw, fun q => by omega, fun _ => by omega⟩, by omega, by omega⟩
              · rw [if_neg c5] at h; cases h
            · rw [if_neg c3] at h
              have c4 : k = 4 := by
                rw [List.length_cons, List.length_cons, List.length_cons, List.length_cons, List.length_cons, List.length_nil] at k2
                omega
              obtain ⟨⟨a, e1⟩, h1, h⟩ := pBd_r h
              have a1 := pNum_ok h1 h4
              have h : (if nT s + a ≤ 4 then .inr (srS s a, e1) else .inl (ER (sk B n (sk B n p + 4)) 5)) = (.inr (t, e) : Nat ⊕ (Sg × Nat)) := h
              by_cases c5 : nT s + a ≤ 4
              · rw [if_pos c5] at h
                have hh := Prod.mk.inj (Sum.inr.inj h)
                have q1 : srS s a = t := hh.1
                have q2 : e1 = e := hh.2
                have h6 : gS s < 4 := by
                  have := d.1.s.2
                  rcases Nat.eq_or_lt_of_le this with q | q
                  · exact absurd (.inr (.inr (.inr (.inr (by rw [decide_eq_true c4, decide_eq_true q]; rfl))))) cf
                  · exact q
                have dw := DF_sr (v := a) d h6 c5 hC
                have g1 : gC (srS s a) = gC s := rfl
                have g2 : gR (srS s a) = gR s := rfl
                rw [q1] at dw g1 g2
                exact ⟨⟨dw, fun q => by omega, fun _ => by omega⟩, by omega, by omega⟩
              · rw [if_neg c5] at h; cases h
