/-! LANDS THAT AGREE WHERE IT MATTERS -/
def len7 : Nat → Nat
  | 0 => 5
  | 1 => 36
  | 2 => 8
  | 3 => 8
  | 4 => 6
  | 5 => 6
  | _ => 4
def AgS (s t : Sg) : Prop := ∀ i j, i < 7 → j < len7 i → s i j = t i j
theorem AgS.g {s t : Sg} (a : AgS s t) : gC s = gC t ∧ gR s = gR t ∧ gH s = gH t ∧ gO s = gO t ∧ gS s = gS t := by
  refine ⟨?_, ?_, ?_, ?_, ?_⟩
  · unfold gC; rw [a 0 0 (by omega) (by decide)]
  · unfold gR; rw [a 0 1 (by omega) (by decide)]
  · unfold gH; rw [a 0 2 (by omega) (by decide)]
  · unfold gO; rw [a 0 3 (by omega) (by decide)]
  · unfold gS; rw [a 0 4 (by omega) (by decide)]
theorem AgS.th {s t : Sg} (a : AgS s t) (q : Nat) : thr s q = thr t q := by
  obtain ⟨g1, g2, -⟩ := a.g
  unfold thr
  rw [g1, g2]
theorem AgS.ho {s t : Sg} (a : AgS s t) (l : gH t ≤ 8) (q : Nat) : hon s q = hon t q := by
  obtain ⟨-, -, g3, -⟩ := a.g
  unfold hon
  rw [g3]
  exact fstI_congr (fun k hk => by rw [a 2 k (by omega) (by show k < 8; omega)])
theorem AgS.iw {s t : Sg} (a : AgS s t) (l : gH t ≤ 8) {q : Nat} (hq : q < 36) : isW s q = isW t q := by
  unfold isW
  rw [a.ho l, a 1 q (by omega) hq]
theorem alF_congr {p q : Nat → Bool} : ∀ {m k : Nat}, (∀ j, k ≤ j → j < k + m → p j = q j) → alF p k m = alF q k m
  | 0, _, _ => rfl
  | m + 1, k, h => by
    show (p k && alF p (k + 1) m) = (q k && alF q (k + 1) m)
    rw [h k (by omega) (by omega), alF_congr (fun j h1 h2 => h j (by omega) (by omega))]
theorem AgS.se {s t : Sg} (a : AgS s t) (l : gH t ≤ 8) {u v m : Nat} (hu : u < 36) (hv : v < 36) : seen s u v m = seen t u v m := by
  unfold seen
  congr 1
  exact alF_congr (fun j h1 h2 => by rw [a.iw l (pth_lt hu hv rfl (by omega))])
theorem AgS.sM {s t : Sg} (a : AgS s t) (l : gH t ≤ 8) {u m : Nat} (hu : u < 36) : seesM s u m = seesM t u m := mkm_congr (fun k hk => by rw [a.th, a.se l hu hk])
theorem AgS.rM {s t : Sg} (a : AgS s t) {r : Nat} (hr : r < 6) : roadM s r = roadM t r := mkm_congr (fun k hk => by unfold onR; rw [a 4 r (by omega) hr, a 5 r (by omega) hr])
theorem sumN_cg {f g : Nat → Nat} : ∀ {n : Nat}, (∀ k, k < n → f k = g k) → sumN f n = sumN g n
  | 0, _ => rfl
  | n + 1, h => by
    show sumN f n + f n = sumN g n + g n
    rw [h n (by omega), sumN_cg (fun k hk => h k (by omega))]
theorem AgS.su {s t : Sg} (a : AgS s t) (l : gS t ≤ 4) : sumN (mny s) (gS s) = sumN (mny t) (gS t) := by
  obtain ⟨-, -, -, -, g5⟩ := a.g
  rw [g5]
  exact sumN_cg (fun k hk => by unfold mny; rw [a 6 k (by omega) (by show k < 4; omega)])
theorem AgS.rel {s t : Sg} {b : Nat} {h : qa_M} (a : AgS s t) (w : WF t) (r : RelL b t h) : RelL b s h := by
  obtain ⟨g1, g2, g3, g4, g5⟩ := a.g
  have l8 := w.h.2
  have l6 := w.o.2
  have l4 := w.s.2
  obtain ⟨⟨r0, r1, r2, r3, r4, r5⟩, ⟨r6, r7⟩, r8, r9, r10⟩ := r
  refine ⟨⟨?_, ?_, ?_, ?_, ?_, ?_⟩, ⟨?_, ?_⟩, fun i hi => ?_, fun i hi => ?_, fun i hi => ?_⟩
  · rw [a 0 0 (by omega) (by decide)]; exact r0
  · rw [a 0 1 (by omega) (by decide)]; exact r1
  · rw [a 0 2 (by omega) (by decide)]; exact r2
  · rw [a 0 3 (by omega) (by decide)]; exact r3
  · rw [a 0 4 (by omega) (by decide)]; exact r4
  · rw [a.su l4]; exact r5
  · rw [r6]; exact mkm_congr (fun k hk => (a.th k).symm)
  · rw [r7]; exact mkm_congr (fun k hk => (a.iw l8 hk).symm)
  · rw [g3] at hi
    have e2 := a 2 i (by omega) (by show i < 8; omega)
    have e3 := a 3 i (by omega) (by show i < 8; omega)
    have hA : hAt s i = hAt t i := by unfold hAt; rw [e2]
    have hF : hFar s i = hFar t i := by unfold hFar; rw [e3]
    have := (w.hA hi).2
    rw [e2, e3, hA, hF, a.sM l8 (by omega)]
    exact r8 i hi
  · rw [g4] at hi
    rw [a.rM (by omega)]
    exact r9 i hi
  · rw [g5] at hi
    rw [a 6 i (by omega) (by show i < 4; omega)]
    exact r10 i hi
def NtF (s : Sg) (n : Nat) : Prop := inr (s 7 n) 5 ∧ inr (s 8 n) 1 ∧ inr (s 9 n) 7 ∧ cN (s 9 n) < (if cN (s 8 n) = 0 then gH s else gO s) ∧ inr (s 10 n) 3 ∧ cN (s 10 n) < gS s ∧ -1 ≤ (s 11 n).toInt ∧ (s 11 n).toInt ≤ 3
theorem AgS.wf {s t : Sg} (a : AgS s t) (w : WF t) (h5 : inr (s 0 5) 10) (h6 : inr (s 0 6) 4) (h7 : inr (s 0 7) 2147483647) (hn : ∀ n, n < gT s → NtF s n) (h0 : gC t = 0 → gT s = 0) : WF s := by
  obtain ⟨g1, g2, g3, g4, g5⟩ := a.g
  have l8 := w.h.2
  have l6 := w.o.2
  have l4 := w.s.2
  obtain ⟨⟨w0, w1, w2, w3, w4, -⟩, wb, wc, ⟨wd, we⟩, wf, -, wz⟩ := w
  refine ⟨⟨?_, ?_, ?_, ?_, ?_, h5, h6, h7⟩, fun i hi => ?_, fun i hi => ?_, ⟨fun i hi => ?_, ?_⟩, fun q hq => ?_, hn, fun q => ?_⟩
  · rw [a 0 0 (by omega) (by decide)]; exact w0
  · rw [a 0 1 (by omega) (by decide)]; exact w1
  · rw [a 0 2 (by omega) (by decide)]; exact w2
  · rw [a 0 3 (by omega) (by decide)]; exact w3
  · rw [a 0 4 (by omega) (by decide)]; exact w4
  · rw [g3] at hi
    rw [a 2 i (by omega) (by show i < 8; omega), a 3 i (by omega) (by show i < 8; omega), a.th]
    exact wb i hi
  · rw [g4] at hi
    rw [a 4 i (by omega) (by show i < 6; omega), a 5 i (by omega) (by show i < 6; omega)]
    exact wc i hi
  · rw [g5] at hi
    rw [a 6 i (by omega) (by show i < 4; omega)]
    exact wd i hi
  · rw [a.su l4]; exact we
  · rw [a 1 q (by omega) hq, a.th]; exact wf q hq
  · rw [g1] at q
    rw [g2, g3, g4, g5]
    obtain ⟨z1, z2, z3, z4, z5⟩ := wz q
    exact ⟨z1, z2, z3, z4, h0 q⟩
theorem sg_row {h : qa_M} {i j : Nat} (hi : i < 12) : sg h i j = h.1 (120 + i) j := by
  have k : i = 0 ∨ i = 1 ∨ i = 2 ∨ i = 3 ∨ i = 4 ∨ i = 5 ∨ i = 6 ∨ i = 7 ∨ i = 8 ∨ i = 9 ∨ i = 10 ∨ i = 11 := by omega
  rcases k with rfl | rfl | rfl | rfl | rfl | rfl | rfl | rfl | rfl | rfl | rfl | rfl <;> rfl
theorem AgS_same {s t : Sg} (h : ∀ i j, i < 7 → (i = 0 → j < 5) → s i j = t i j) : AgS s t := fun i j h1 h2 => h i j h1 (fun q => by subst q; exact h2)
