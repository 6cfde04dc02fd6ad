/-! pure operations, and the words of the functions that a program prints -/
def q_iushr (x x2 : Int32) : Int32 := (x.toUInt32 >>> (x2.toUInt32 &&& Int32.toUInt32 31)).toInt32
def q_lushr (x : Int64) (x2 : Int32) : Int64 := (x.toUInt64 >>> (x2.toInt64.toUInt64 &&& Int64.toUInt64 63)).toInt64
def q_lshl (x : Int64) (x2 : Int32) : Int64 := x <<< (x2.toInt64 &&& 63)
def q_lshr (x : Int64) (x2 : Int32) : Int64 := x >>> (x2.toInt64 &&& 63)
def qw_I (h : qa_M) (a k : Nat) (v : Int32) : qa_M := (fun b j => if b = a ∧ j = k then v else h.1 b j, h.2)
def qw_J (h : qa_M) (a k : Nat) (v : Int64) : qa_M := (h.1, fun b j => if b = a ∧ j = k then v else h.2.1 b j, h.2.2)
def qw_R (h : qa_M) (a k : Nat) (v : Nat) : qa_M := (h.1, h.2.1, fun b j => if b = a ∧ j = k then v else h.2.2.1 b j, h.2.2.2)
/-- a late row of zeros -/
def qw_new (h : qa_M) : qa_M := (fun b j => if b = 167 + h.2.2.2 then 0 else h.1 b j, h.2.1, h.2.2.1, h.2.2.2 + 1)
/-- n places copied -/
def qw_cI (h : qa_M) (a sp b dp n : Nat) : qa_M := (fun c j => if c = b ∧ dp ≤ j ∧ j < dp + n then h.1 a (sp + (j - dp)) else h.1 c j, h.2)
def qw_cJ (h : qa_M) (a sp b dp n : Nat) : qa_M := (h.1, fun c j => if c = b ∧ dp ≤ j ∧ j < dp + n then h.2.1 a (sp + (j - dp)) else h.2.1 c j, h.2.2)
def qbd {α β : Type} (x : α) (K : α → β) : β := K x
def qnz {α : Type} (c : Prop) [Decidable c] (K : Option α) : Option α := if c then none else K
theorem qnz_el {α : Type} {c : Prop} [Decidable c] {K : Option α} {z : α} (E : qnz c K = some z) : ¬ c ∧ K = some z := by
  unfold qnz at E
  split at E
  · cases E
  · exact ⟨by assumption, E⟩
theorem qif_t {α : Type} {c : Prop} [Decidable c] {A B : α} {z : α} (q : c) (E : (if c then A else B) = z) : A = z := by rw [if_pos q] at E; exact E
theorem qif_f {α : Type} {c : Prop} [Decidable c] {A B : α} {z : α} (q : ¬ c) (E : (if c then A else B) = z) : B = z := by rw [if_neg q] at E; exact E
/-- a test that must hold -/
def qpr {α : Type} (c : Prop) [Decidable c] (K : Option α) : Option α := if c then K else none
theorem qpr_el {α : Type} {c : Prop} [Decidable c] {K : Option α} {z : α} (E : qpr c K = some z) : c ∧ K = some z := by
  unfold qpr at E
  split at E
  · exact ⟨by assumption, E⟩
  · cases E
/-- an index within -/
def qck {α : Type} (i : Int32) (n : Nat) (K : Option α) : Option α := if 0 ≤ i.toInt ∧ i.toInt < n then K else none
theorem qck_el {α : Type} {i : Int32} {n : Nat} {K : Option α} {z : α} (E : qck i n K = some z) : vp_in i n ∧ K = some z := by
  unfold qck at E
  split at E
  · exact ⟨vp_in_iff.mpr (by assumption), E⟩
  · cases E
/-- not null -/
def qnn {α : Type} (r : Nat) (K : Nat → Option α) : Option α := match r with
  | 0 => none
  | a + 1 => K a
theorem qnn_el {α : Type} {r : Nat} {K : Nat → Option α} {z : α} (E : qnn r K = some z) : ∃ a, r = a + 1 ∧ K a = some z := by
  cases r with
  | zero => cases E
  | succ a => exact ⟨a, rfl, E⟩
/-- a row of a sort, its length -/
def qal {α : Type} (tc a : Nat) (h : qa_M) (K : Nat → Option α) : Option α := match (qO h)[a]? with
  | some (.inr q) => if q.1 = tc then K q.2 else none
  | _ => none
theorem qal_el {α : Type} {tc a : Nat} {h : qa_M} {K : Nat → Option α} {z : α} (E : qal tc a h K = some z) : ∃ n, (qO h)[a]? = some (.inr (tc, n)) ∧ K n = some z := by
  unfold qal at E
  split at E
  · rename_i q hq
    split at E
    · rename_i ht
      obtain ⟨t, n⟩ := q
      dsimp only at ht
      subst ht
      exact ⟨n, hq, E⟩
    · cases E
  · cases E
/-- a call's answer and memory -/
def qbn {α β : Type} (x : Option (β × qa_M)) (K : β → qa_M → Option α) : Option α := match x with
  | some q => K q.1 q.2
  | none => none
theorem qbn_el {α β : Type} {x : Option (β × qa_M)} {K : β → qa_M → Option α} {z : α} (E : qbn x K = some z) : ∃ r h, x = some (r, h) ∧ K r h = some z := by
  cases x with
  | none => cases E
  | some q => exact ⟨q.1, q.2, rfl, E⟩
def qbv {α : Type} (x : Option qa_M) (K : qa_M → Option α) : Option α := match x with
  | some q => K q
  | none => none
theorem qbv_el {α : Type} {x : Option qa_M} {K : qa_M → Option α} {z : α} (E : qbv x K = some z) : ∃ h, x = some h ∧ K h = some z := by
  cases x with
  | none => cases E
  | some q => exact ⟨q, rfl, E⟩
/-- out of a loop -/
def qup {α β : Type} (x : Option β) : Option (α ⊕ β) := match x with
  | some r => some (.inr r)
  | none => none
theorem qup_el {α β : Type} {x : Option β} {z : α ⊕ β} (E : qup x = some z) : ∃ r, z = .inr r ∧ x = some r := by
  cases x with
  | none => cases E
  | some q => cases E; exact ⟨q, rfl, rfl⟩
/-- a loop, n times at most -/
def qit {σ β : Type} (b : σ → Option (σ ⊕ β)) : Nat → σ → Option β
  | 0, _ => none
  | n + 1, s => match b s with
    | none => none
    | some (.inl s2) => qit b n s2
    | some (.inr r) => some r
theorem qit_more {σ β : Type} {b : σ → Option (σ ⊕ β)} : ∀ (n : Nat) (s : σ) (r : β), qit b n s = some r → ∀ m, qit b (n + m) s = some r
  | 0, _, _, h, _ => by cases h
  | n + 1, s, r, h, m => by
    rw [show n + 1 + m = (n + m) + 1 by omega]
    unfold qit at h ⊢
    split at h
    · cases h
    · rename_i s2 hs
      exact qit_more n s2 r h m
    · exact h

/-- a loop: what it comes to, if it ends -/
noncomputable def qlp {σ β : Type} (b : σ → Option (σ ⊕ β)) (s : σ) : Option β := @dite (Option β) (∃ r n, qit b n s = some r) (Classical.propDecidable _) (fun h => some (Classical.choose h)) (fun _ => none)
theorem qlp_iff {σ β : Type} {b : σ → Option (σ ⊕ β)} {s : σ} {r : β} : qlp b s = some r ↔ ∃ n, qit b n s = some r := by
  unfold qlp
  by_cases h : ∃ r n, qit b n s = some r
  · rw [dif_pos h]
    obtain ⟨n, hn⟩ := Classical.choose_spec h
    constructor
    · intro e
      cases e
      exact ⟨n, hn⟩
    · rintro ⟨m, hm⟩
      have h1 := qit_more n s _ hn m
      have h2 := qit_more m s _ hm n
      rw [show n + m = m + n by omega] at h1
      rw [← Option.some.inj (h1.symm.trans h2)]
  · rw [dif_neg h]
    constructor
    · intro e
      cases e
    · rintro ⟨m, hm⟩
      exact absurd ⟨r, m, hm⟩ h
theorem qlp_eq {σ β : Type} (b : σ → Option (σ ⊕ β)) (s : σ) : qlp b s = (match b s with
    | none => none
    | some (.inl s2) => qlp b s2
    | some (.inr r) => some r) := by
  apply Option.ext
  intro r
  rw [qlp_iff]
  cases hb : b s with
  | none =>
    constructor
    · rintro ⟨n, hn⟩
      cases n with
      | zero => cases hn
      | succ n => simp [qit, hb] at hn
    · intro e; cases e
  | some z =>
    cases z with
    | inl s2 =>
      show _ ↔ qlp b s2 = some r
      rw [qlp_iff]
      constructor
      · rintro ⟨n, hn⟩
        cases n with
        | zero => cases hn
        | succ n => simp only [qit, hb] at hn; exact ⟨n, hn⟩
      · rintro ⟨n, hn⟩
        exact ⟨n + 1, by simp only [qit, hb]; exact hn⟩
    | inr q =>
      show _ ↔ some q = some r
      constructor
      · rintro ⟨n, hn⟩
        cases n with
        | zero => cases hn
        | succ n => simp only [qit, hb] at hn; exact hn
      · intro e
        exact ⟨1, by simp only [qit, hb]; exact e⟩
theorem qlp_ind {σ β : Type} {b : σ → Option (σ ⊕ β)} {r : β} (P : σ → Prop) (hx : ∀ s, b s = some (.inr r) → P s) (hs : ∀ s s2, b s = some (.inl s2) → P s2 → P s) : ∀ s, qlp b s = some r → P s := by
  intro s h
  obtain ⟨n, hn⟩ := qlp_iff.mp h
  clear h
  induction n generalizing s with
  | zero => cases hn
  | succ n ih =>
    cases hb : b s with
    | none => simp [qit, hb] at hn
    | some z =>
      cases z with
      | inl s2 => simp only [qit, hb] at hn; exact hs s s2 hb (ih s2 hn)
      | inr q => simp only [qit, hb] at hn; cases hn; exact hx s hb
section qs_sec
variable {l : Launch} {g : qa_G} {y : MethodName} {cc : ByteArray} {nL : Nat} {rt : Option FieldType} {d KC KS cells slots pc : Nat} {lv : List (Nat × Value)} {st : List Value} {w : List qa_K} {h : qa_M} {Z : qa_Zt}
theorem qs_iconst {n : Int} {v : Int32} (dg : decode cc pc = .ok (.iconst n, 1)) (hv : Int32.ofInt n = v) (k : qa_At l g (y, cc, nL, rt) d KC KS cells slots (pc + 1) lv (.int v :: st) w h Z) : qa_At l g (y, cc, nL, rt) d KC KS cells slots pc lv st w h Z := fun p e s m args below meth c C H locs ls hl hW hS => lv_iconst C.1 C.2.1 dg hv (k p e s m args below meth c C H locs ls hl hW hS)
theorem qs_bipush {n : Int} {v : Int32} (dg : decode cc pc = .ok (.bipush n, 2)) (hv : (Int8.ofInt n).toInt32 = v) (k : qa_At l g (y, cc, nL, rt) d KC KS cells slots (pc + 2) lv (.int v :: st) w h Z) : qa_At l g (y, cc, nL, rt) d KC KS cells slots pc lv st w h Z := fun p e s m args below meth c C H locs ls hl hW hS => lv_bipush C.1 C.2.1 dg hv (k p e s m args below meth c C H locs ls hl hW hS)
theorem qs_sipush {n : Int} {v : Int32} (dg : decode cc pc = .ok (.sipush n, 3)) (hv : (Int16.ofInt n).toInt32 = v) (k : qa_At l g (y, cc, nL, rt) d KC KS cells slots (pc + 3) lv (.int v :: st) w h Z) : qa_At l g (y, cc, nL, rt) d KC KS cells slots pc lv st w h Z := fun p e s m args below meth c C H locs ls hl hW hS => lv_sipush C.1 C.2.1 dg hv (k p e s m args below meth c C H locs ls hl hW hS)
theorem qs_lconst {n : Fin 2} {v : Int64} (dg : decode cc pc = .ok (.lconst n, 1)) (hv : Int64.ofNat (n : Nat) = v) (k : qa_At l g (y, cc, nL, rt) d KC KS cells slots (pc + 1) lv (.long v :: st) w h Z) : qa_At l g (y, cc, nL, rt) d KC KS cells slots pc lv st w h Z := fun p e s m args below meth c C H locs ls hl hW hS => lv_lconst C.1 C.2.1 dg hv (k p e s m args below meth c C H locs ls hl hW hS)
theorem qs_null  (dg : decode cc pc = .ok (.aconst_null, 1))  (k : qa_At l g (y, cc, nL, rt) d KC KS cells slots (pc + 1) lv (.null :: st) w h Z) : qa_At l g (y, cc, nL, rt) d KC KS cells slots pc lv st w h Z := fun p e s m args below meth c C H locs ls hl hW hS => lv_null C.1 C.2.1 dg  (k p e s m args below meth c C H locs ls hl hW hS)
theorem qs_ldc {idx : Nat} {v : Int32} (hw : Cond.constant y.cls idx v ∈ qw_tbl) (dg : decode cc pc = .ok (.ldc idx, 2)) (k : qa_At l g (y, cc, nL, rt) d KC KS cells slots (pc + 2) lv (.int v :: st) w h Z) : qa_At l g (y, cc, nL, rt) d KC KS cells slots pc lv st w h Z := fun p e s m args below meth c C H locs ls hl hW hS => lv_ldc C.1 C.2.1 C.2.2.2.2.2.1 (C.2.2.2.2.2.2.2.1 _ hw) dg (k p e s m args below meth c C H locs ls hl hW hS)
theorem qs_ldcw {idx : Nat} {v : Int32} (hw : Cond.constant y.cls idx v ∈ qw_tbl) (dg : decode cc pc = .ok (.ldc_w idx, 3)) (k : qa_At l g (y, cc, nL, rt) d KC KS cells slots (pc + 3) lv (.int v :: st) w h Z) : qa_At l g (y, cc, nL, rt) d KC KS cells slots pc lv st w h Z := fun p e s m args below meth c C H locs ls hl hW hS => lv_ldcw C.1 C.2.1 C.2.2.2.2.2.1 (C.2.2.2.2.2.2.2.1 _ hw) dg (k p e s m args below meth c C H locs ls hl hW hS)
theorem qs_ldc2 {idx : Nat} {v : Int64} (hw : Cond.constantLong y.cls idx v ∈ qw_tbl) (dg : decode cc pc = .ok (.ldc2_w idx, 3)) (k : qa_At l g (y, cc, nL, rt) d KC KS cells slots (pc + 3) lv (.long v :: st) w h Z) : qa_At l g (y, cc, nL, rt) d KC KS cells slots pc lv st w h Z := fun p e s m args below meth c C H locs ls hl hW hS => lv_ldc2 C.1 C.2.1 C.2.2.2.2.2.1 (C.2.2.2.2.2.2.2.1 _ hw) dg (k p e s m args below meth c C H locs ls hl hW hS)
theorem qs_iload_n {k0 : Fin 4} {i : Nat} (q : Nat) {x : Int32} (dg : decode cc pc = .ok (.iload_n k0, 1)) (hi : (k0 : Nat) = i) (hk : lv[q]? = some (i, .int x)) (k : qa_At l g (y, cc, nL, rt) d KC KS cells slots (pc + 1) lv (.int x :: st) w h Z) : qa_At l g (y, cc, nL, rt) d KC KS cells slots pc lv st w h Z := fun p e s m args below meth c C H locs ls hl hW hS => lv_iload_n C.1 C.2.1 dg hi (lv_at hl q hk) (k p e s m args below meth c C H locs ls hl hW hS)
theorem qs_iload {i : Nat} (q : Nat) {x : Int32} (dg : decode cc pc = .ok (.iload i, 2)) (hk : lv[q]? = some (i, .int x)) (k : qa_At l g (y, cc, nL, rt) d KC KS cells slots (pc + 2) lv (.int x :: st) w h Z) : qa_At l g (y, cc, nL, rt) d KC KS cells slots pc lv st w h Z := fun p e s m args below meth c C H locs ls hl hW hS => lv_iload C.1 C.2.1 dg (lv_at hl q hk) (k p e s m args below meth c C H locs ls hl hW hS)
theorem qs_istore_n {k0 : Fin 4} {i : Nat} {x : Int32} (lv2 : List (Nat × Value)) (dg : decode cc pc = .ok (.istore_n k0, 1)) (hi : (k0 : Nat) = i) (hn : i < nL) (hl2 : (i, Value.int x) :: lv.filter (fun q => !(q.1 == i) && !(q.1 + 1 == i && q.2.category == 2)) = lv2) (k : qa_At l g (y, cc, nL, rt) d KC KS cells slots (pc + 1) lv2 st w h Z) : qa_At l g (y, cc, nL, rt) d KC KS cells slots pc lv (.int x :: st) w h Z := fun p e s m args below meth c C H locs ls hl hW hS => lv_istore_n C.1 C.2.1 dg hi hl hn hl2 (fun ls hl => k p e s m args below meth c C H locs ls hl hW hS)
theorem qs_istore {i : Nat} {x : Int32} (lv2 : List (Nat × Value)) (dg : decode cc pc = .ok (.istore i, 2)) (hn : i < nL) (hl2 : (i, Value.int x) :: lv.filter (fun q => !(q.1 == i) && !(q.1 + 1 == i && q.2.category == 2)) = lv2) (k : qa_At l g (y, cc, nL, rt) d KC KS cells slots (pc + 2) lv2 st w h Z) : qa_At l g (y, cc, nL, rt) d KC KS cells slots pc lv (.int x :: st) w h Z := fun p e s m args below meth c C H locs ls hl hW hS => lv_istore C.1 C.2.1 dg hl hn hl2 (fun ls hl => k p e s m args below meth c C H locs ls hl hW hS)
theorem qs_lload_n {k0 : Fin 4} {i : Nat} (q : Nat) {x : Int64} (dg : decode cc pc = .ok (.lload_n k0, 1)) (hi : (k0 : Nat) = i) (hk : lv[q]? = some (i, .long x)) (k : qa_At l g (y, cc, nL, rt) d KC KS cells slots (pc + 1) lv (.long x :: st) w h Z) : qa_At l g (y, cc, nL, rt) d KC KS cells slots pc lv st w h Z := fun p e s m args below meth c C H locs ls hl hW hS => lv_lload_n C.1 C.2.1 dg hi (lv_at hl q hk) (k p e s m args below meth c C H locs ls hl hW hS)
theorem qs_lload {i : Nat} (q : Nat) {x : Int64} (dg : decode cc pc = .ok (.lload i, 2)) (hk : lv[q]? = some (i, .long x)) (k : qa_At l g (y, cc, nL, rt) d KC KS cells slots (pc + 2) lv (.long x :: st) w h Z) : qa_At l g (y, cc, nL, rt) d KC KS cells slots pc lv st w h Z := fun p e s m args below meth c C H locs ls hl hW hS => lv_lload C.1 C.2.1 dg (lv_at hl q hk) (k p e s m args below meth c C H locs ls hl hW hS)
theorem qs_lstore_n {k0 : Fin 4} {i : Nat} {x : Int64} (lv2 : List (Nat × Value)) (dg : decode cc pc = .ok (.lstore_n k0, 1)) (hi : (k0 : Nat) = i) (hn : i + 1 < nL) (hl2 : (i, Value.long x) :: lv.filter (fun q => !(q.1 == i) && (!(q.1 == i + 1) && !(q.1 + 1 == i && q.2.category == 2))) = lv2) (k : qa_At l g (y, cc, nL, rt) d KC KS cells slots (pc + 1) lv2 st w h Z) : qa_At l g (y, cc, nL, rt) d KC KS cells slots pc lv (.long x :: st) w h Z := fun p e s m args below meth c C H locs ls hl hW hS => lv_lstore_n C.1 C.2.1 dg hi hl hn hl2 (fun ls hl => k p e s m args below meth c C H locs ls hl hW hS)
theorem qs_lstore {i : Nat} {x : Int64} (lv2 : List (Nat × Value)) (dg : decode cc pc = .ok (.lstore i, 2)) (hn : i + 1 < nL) (hl2 : (i, Value.long x) :: lv.filter (fun q => !(q.1 == i) && (!(q.1 == i + 1) && !(q.1 + 1 == i && q.2.category == 2))) = lv2) (k : qa_At l g (y, cc, nL, rt) d KC KS cells slots (pc + 2) lv2 st w h Z) : qa_At l g (y, cc, nL, rt) d KC KS cells slots pc lv (.long x :: st) w h Z := fun p e s m args below meth c C H locs ls hl hW hS => lv_lstore C.1 C.2.1 dg hl hn hl2 (fun ls hl => k p e s m args below meth c C H locs ls hl hW hS)
theorem qs_aload_n {k0 : Fin 4} {i : Nat} (q : Nat) {x : Nat} (dg : decode cc pc = .ok (.aload_n k0, 1)) (hi : (k0 : Nat) = i) (hk : lv[q]? = some (i, .ref x)) (k : qa_At l g (y, cc, nL, rt) d KC KS cells slots (pc + 1) lv (.ref x :: st) w h Z) : qa_At l g (y, cc, nL, rt) d KC KS cells slots pc lv st w h Z := fun p e s m args below meth c C H locs ls hl hW hS => lv_aload_n C.1 C.2.1 dg hi (lv_at hl q hk) (k p e s m args below meth c C H locs ls hl hW hS)
theorem qs_aload {i : Nat} (q : Nat) {x : Nat} (dg : decode cc pc = .ok (.aload i, 2)) (hk : lv[q]? = some (i, .ref x)) (k : qa_At l g (y, cc, nL, rt) d KC KS cells slots (pc + 2) lv (.ref x :: st) w h Z) : qa_At l g (y, cc, nL, rt) d KC KS cells slots pc lv st w h Z := fun p e s m args below meth c C H locs ls hl hW hS => lv_aload C.1 C.2.1 dg (lv_at hl q hk) (k p e s m args below meth c C H locs ls hl hW hS)
theorem qs_astore_n {k0 : Fin 4} {i : Nat} {x : Nat} (lv2 : List (Nat × Value)) (dg : decode cc pc = .ok (.astore_n k0, 1)) (hi : (k0 : Nat) = i) (hn : i < nL) (hl2 : (i, Value.ref x) :: lv.filter (fun q => !(q.1 == i) && !(q.1 + 1 == i && q.2.category == 2)) = lv2) (k : qa_At l g (y, cc, nL, rt) d KC KS cells slots (pc + 1) lv2 st w h Z) : qa_At l g (y, cc, nL, rt) d KC KS cells slots pc lv (.ref x :: st) w h Z := fun p e s m args below meth c C H locs ls hl hW hS => lv_astore_n C.1 C.2.1 dg hi hl hn hl2 (fun ls hl => k p e s m args below meth c C H locs ls hl hW hS)
theorem qs_astore {i : Nat} {x : Nat} (lv2 : List (Nat × Value)) (dg : decode cc pc = .ok (.astore i, 2)) (hn : i < nL) (hl2 : (i, Value.ref x) :: lv.filter (fun q => !(q.1 == i) && !(q.1 + 1 == i && q.2.category == 2)) = lv2) (k : qa_At l g (y, cc, nL, rt) d KC KS cells slots (pc + 2) lv2 st w h Z) : qa_At l g (y, cc, nL, rt) d KC KS cells slots pc lv (.ref x :: st) w h Z := fun p e s m args below meth c C H locs ls hl hW hS => lv_astore C.1 C.2.1 dg hl hn hl2 (fun ls hl => k p e s m args below meth c C H locs ls hl hW hS)
theorem qs_iinc {i : Nat} (q : Nat) {n : Int} {x v : Int32} (lv2 : List (Nat × Value)) (dg : decode cc pc = .ok (.iinc i n, 3)) (hk : lv[q]? = some (i, .int x)) (hv : x + Int32.ofInt n = v) (hn : i < nL) (hl2 : (i, Value.int v) :: lv.filter (fun q => !(q.1 == i) && !(q.1 + 1 == i && q.2.category == 2)) = lv2) (k : qa_At l g (y, cc, nL, rt) d KC KS cells slots (pc + 3) lv2 st w h Z) : qa_At l g (y, cc, nL, rt) d KC KS cells slots pc lv st w h Z := fun p e s m args below meth c C H locs ls hl hW hS => lv_iinc C.1 C.2.1 dg hl hk hv hn hl2 (fun ls hl => k p e s m args below meth c C H locs ls hl hW hS)
theorem qs_aloadN {k0 : Fin 4} {i : Nat} (q : Nat) {x : Nat} (dg : decode cc pc = .ok (.aload_n k0, 1)) (hi : (k0 : Nat) = i) (hk : lv[q]? = some (i, qa_rv g.1 x)) (k : qa_At l g (y, cc, nL, rt) d KC KS cells slots (pc + 1) lv (qa_rv g.1 x :: st) w h Z) : qa_At l g (y, cc, nL, rt) d KC KS cells slots pc lv st w h Z := by
  intro p e s m args below meth c C H locs ls hl hW hS
  cases x with
  | zero => exact lv_aload_nN C.1 C.2.1 dg hi (lv_at hl q hk) (k p e s m args below meth c C H locs ls hl hW hS)
  | succ n => exact lv_aload_n C.1 C.2.1 dg hi (lv_at hl q hk) (k p e s m args below meth c C H locs ls hl hW hS)
theorem qs_iadd {x x2 : Int32} (dg : decode cc pc = .ok (.iadd, 1))  (k : qa_At l g (y, cc, nL, rt) d KC KS cells slots (pc + 1) lv (.int (x + x2) :: st) w h Z) : qa_At l g (y, cc, nL, rt) d KC KS cells slots pc lv (.int x2 :: .int x :: st) w h Z := fun p e s m args below meth c C H locs ls hl hW hS => lv_iadd C.1 C.2.1 dg  (k p e s m args below meth c C H locs ls hl hW hS)
theorem qs_isub {x x2 : Int32} (dg : decode cc pc = .ok (.isub, 1))  (k : qa_At l g (y, cc, nL, rt) d KC KS cells slots (pc + 1) lv (.int (x - x2) :: st) w h Z) : qa_At l g (y, cc, nL, rt) d KC KS cells slots pc lv (.int x2 :: .int x :: st) w h Z := fun p e s m args below meth c C H locs ls hl hW hS => lv_isub C.1 C.2.1 dg  (k p e s m args below meth c C H locs ls hl hW hS)
theorem qs_imul {x x2 : Int32} (dg : decode cc pc = .ok (.imul, 1))  (k : qa_At l g (y, cc, nL, rt) d KC KS cells slots (pc + 1) lv (.int (x * x2) :: st) w h Z) : qa_At l g (y, cc, nL, rt) d KC KS cells slots pc lv (.int x2 :: .int x :: st) w h Z := fun p e s m args below meth c C H locs ls hl hW hS => lv_imul C.1 C.2.1 dg  (k p e s m args below meth c C H locs ls hl hW hS)
theorem qs_iand {x x2 : Int32} (dg : decode cc pc = .ok (.iand, 1))  (k : qa_At l g (y, cc, nL, rt) d KC KS cells slots (pc + 1) lv (.int (x &&& x2) :: st) w h Z) : qa_At l g (y, cc, nL, rt) d KC KS cells slots pc lv (.int x2 :: .int x :: st) w h Z := fun p e s m args below meth c C H locs ls hl hW hS => lv_iand C.1 C.2.1 dg  (k p e s m args below meth c C H locs ls hl hW hS)
theorem qs_ior {x x2 : Int32} (dg : decode cc pc = .ok (.ior, 1))  (k : qa_At l g (y, cc, nL, rt) d KC KS cells slots (pc + 1) lv (.int (x ||| x2) :: st) w h Z) : qa_At l g (y, cc, nL, rt) d KC KS cells slots pc lv (.int x2 :: .int x :: st) w h Z := fun p e s m args below meth c C H locs ls hl hW hS => lv_ior C.1 C.2.1 dg  (k p e s m args below meth c C H locs ls hl hW hS)
theorem qs_ixor {x x2 : Int32} (dg : decode cc pc = .ok (.ixor, 1))  (k : qa_At l g (y, cc, nL, rt) d KC KS cells slots (pc + 1) lv (.int (x ^^^ x2) :: st) w h Z) : qa_At l g (y, cc, nL, rt) d KC KS cells slots pc lv (.int x2 :: .int x :: st) w h Z := fun p e s m args below meth c C H locs ls hl hW hS => lv_ixor C.1 C.2.1 dg  (k p e s m args below meth c C H locs ls hl hW hS)
theorem qs_ishl {x x2 : Int32} (dg : decode cc pc = .ok (.ishl, 1))  (k : qa_At l g (y, cc, nL, rt) d KC KS cells slots (pc + 1) lv (.int (x <<< (x2 &&& 31)) :: st) w h Z) : qa_At l g (y, cc, nL, rt) d KC KS cells slots pc lv (.int x2 :: .int x :: st) w h Z := fun p e s m args below meth c C H locs ls hl hW hS => lv_ishl C.1 C.2.1 dg  (k p e s m args below meth c C H locs ls hl hW hS)
theorem qs_ishr {x x2 : Int32} (dg : decode cc pc = .ok (.ishr, 1))  (k : qa_At l g (y, cc, nL, rt) d KC KS cells slots (pc + 1) lv (.int (x >>> (x2 &&& 31)) :: st) w h Z) : qa_At l g (y, cc, nL, rt) d KC KS cells slots pc lv (.int x2 :: .int x :: st) w h Z := fun p e s m args below meth c C H locs ls hl hW hS => lv_ishr C.1 C.2.1 dg  (k p e s m args below meth c C H locs ls hl hW hS)
theorem qs_ladd {x x2 : Int64} (dg : decode cc pc = .ok (.ladd, 1))  (k : qa_At l g (y, cc, nL, rt) d KC KS cells slots (pc + 1) lv (.long (x + x2) :: st) w h Z) : qa_At l g (y, cc, nL, rt) d KC KS cells slots pc lv (.long x2 :: .long x :: st) w h Z := fun p e s m args below meth c C H locs ls hl hW hS => lv_ladd C.1 C.2.1 dg  (k p e s m args below meth c C H locs ls hl hW hS)
theorem qs_lsub {x x2 : Int64} (dg : decode cc pc = .ok (.lsub, 1))  (k : qa_At l g (y, cc, nL, rt) d KC KS cells slots (pc + 1) lv (.long (x - x2) :: st) w h Z) : qa_At l g (y, cc, nL, rt) d KC KS cells slots pc lv (.long x2 :: .long x :: st) w h Z := fun p e s m args below meth c C H locs ls hl hW hS => lv_lsub C.1 C.2.1 dg  (k p e s m args below meth c C H locs ls hl hW hS)
theorem qs_lmul {x x2 : Int64} (dg : decode cc pc = .ok (.lmul, 1))  (k : qa_At l g (y, cc, nL, rt) d KC KS cells slots (pc + 1) lv (.long (x * x2) :: st) w h Z) : qa_At l g (y, cc, nL, rt) d KC KS cells slots pc lv (.long x2 :: .long x :: st) w h Z := fun p e s m args below meth c C H locs ls hl hW hS => lv_lmul C.1 C.2.1 dg  (k p e s m args below meth c C H locs ls hl hW hS)
theorem qs_land {x x2 : Int64} (dg : decode cc pc = .ok (.land, 1))  (k : qa_At l g (y, cc, nL, rt) d KC KS cells slots (pc + 1) lv (.long (x &&& x2) :: st) w h Z) : qa_At l g (y, cc, nL, rt) d KC KS cells slots pc lv (.long x2 :: .long x :: st) w h Z := fun p e s m args below meth c C H locs ls hl hW hS => lv_land C.1 C.2.1 dg  (k p e s m args below meth c C H locs ls hl hW hS)
theorem qs_lor {x x2 : Int64} (dg : decode cc pc = .ok (.lor, 1))  (k : qa_At l g (y, cc, nL, rt) d KC KS cells slots (pc + 1) lv (.long (x ||| x2) :: st) w h Z) : qa_At l g (y, cc, nL, rt) d KC KS cells slots pc lv (.long x2 :: .long x :: st) w h Z := fun p e s m args below meth c C H locs ls hl hW hS => lv_lor C.1 C.2.1 dg  (k p e s m args below meth c C H locs ls hl hW hS)
theorem qs_lxor {x x2 : Int64} (dg : decode cc pc = .ok (.lxor, 1))  (k : qa_At l g (y, cc, nL, rt) d KC KS cells slots (pc + 1) lv (.long (x ^^^ x2) :: st) w h Z) : qa_At l g (y, cc, nL, rt) d KC KS cells slots pc lv (.long x2 :: .long x :: st) w h Z := fun p e s m args below meth c C H locs ls hl hW hS => lv_lxor C.1 C.2.1 dg  (k p e s m args below meth c C H locs ls hl hW hS)
theorem qs_ineg {x : Int32} (dg : decode cc pc = .ok (.ineg, 1))  (k : qa_At l g (y, cc, nL, rt) d KC KS cells slots (pc + 1) lv (.int (-x) :: st) w h Z) : qa_At l g (y, cc, nL, rt) d KC KS cells slots pc lv (.int x :: st) w h Z := fun p e s m args below meth c C H locs ls hl hW hS => lv_ineg C.1 C.2.1 dg  (k p e s m args below meth c C H locs ls hl hW hS)
theorem qs_lneg {x : Int64} (dg : decode cc pc = .ok (.lneg, 1))  (k : qa_At l g (y, cc, nL, rt) d KC KS cells slots (pc + 1) lv (.long (-x) :: st) w h Z) : qa_At l g (y, cc, nL, rt) d KC KS cells slots pc lv (.long x :: st) w h Z := fun p e s m args below meth c C H locs ls hl hW hS => lv_lneg C.1 C.2.1 dg  (k p e s m args below meth c C H locs ls hl hW hS)
theorem qs_idiv {x x2 : Int32} (dg : decode cc pc = .ok (.idiv, 1)) (hne : ¬ x2 = 0) (k : qa_At l g (y, cc, nL, rt) d KC KS cells slots (pc + 1) lv (.int (x / x2) :: st) w h Z) : qa_At l g (y, cc, nL, rt) d KC KS cells slots pc lv (.int x2 :: .int x :: st) w h Z := fun p e s m args below meth c C H locs ls hl hW hS => lv_idiv C.1 C.2.1 dg hne (k p e s m args below meth c C H locs ls hl hW hS)
theorem qs_irem {x x2 : Int32} (dg : decode cc pc = .ok (.irem, 1)) (hne : ¬ x2 = 0) (k : qa_At l g (y, cc, nL, rt) d KC KS cells slots (pc + 1) lv (.int (x - x / x2 * x2) :: st) w h Z) : qa_At l g (y, cc, nL, rt) d KC KS cells slots pc lv (.int x2 :: .int x :: st) w h Z := fun p e s m args below meth c C H locs ls hl hW hS => lv_irem C.1 C.2.1 dg hne (k p e s m args below meth c C H locs ls hl hW hS)
theorem qs_ldiv {x x2 : Int64} (dg : decode cc pc = .ok (.ldiv, 1)) (hne : ¬ x2 = 0) (k : qa_At l g (y, cc, nL, rt) d KC KS cells slots (pc + 1) lv (.long (x / x2) :: st) w h Z) : qa_At l g (y, cc, nL, rt) d KC KS cells slots pc lv (.long x2 :: .long x :: st) w h Z := fun p e s m args below meth c C H locs ls hl hW hS => lv_ldiv C.1 C.2.1 dg hne (k p e s m args below meth c C H locs ls hl hW hS)
theorem qs_lrem {x x2 : Int64} (dg : decode cc pc = .ok (.lrem, 1)) (hne : ¬ x2 = 0) (k : qa_At l g (y, cc, nL, rt) d KC KS cells slots (pc + 1) lv (.long (x - x / x2 * x2) :: st) w h Z) : qa_At l g (y, cc, nL, rt) d KC KS cells slots pc lv (.long x2 :: .long x :: st) w h Z := fun p e s m args below meth c C H locs ls hl hW hS => lv_lrem C.1 C.2.1 dg hne (k p e s m args below meth c C H locs ls hl hW hS)
theorem qs_i2l {x : Int32} (dg : decode cc pc = .ok (.i2l, 1)) (k : qa_At l g (y, cc, nL, rt) d KC KS cells slots (pc + 1) lv (.long (x.toInt64) :: st) w h Z) : qa_At l g (y, cc, nL, rt) d KC KS cells slots pc lv (.int x :: st) w h Z := fun p e s m args below meth c C H locs ls hl hW hS => lv_i2l C.1 C.2.1 dg rfl (k p e s m args below meth c C H locs ls hl hW hS)
theorem qs_l2i {x : Int64} (dg : decode cc pc = .ok (.l2i, 1)) (k : qa_At l g (y, cc, nL, rt) d KC KS cells slots (pc + 1) lv (.int (x.toInt32) :: st) w h Z) : qa_At l g (y, cc, nL, rt) d KC KS cells slots pc lv (.long x :: st) w h Z := fun p e s m args below meth c C H locs ls hl hW hS => lv_l2i C.1 C.2.1 dg rfl (k p e s m args below meth c C H locs ls hl hW hS)
theorem qs_i2b {x : Int32} (dg : decode cc pc = .ok (.i2b, 1)) (k : qa_At l g (y, cc, nL, rt) d KC KS cells slots (pc + 1) lv (.int (x.toInt8.toInt32) :: st) w h Z) : qa_At l g (y, cc, nL, rt) d KC KS cells slots pc lv (.int x :: st) w h Z := fun p e s m args below meth c C H locs ls hl hW hS => lv_i2b C.1 C.2.1 dg rfl (k p e s m args below meth c C H locs ls hl hW hS)
theorem qs_i2c {x : Int32} (dg : decode cc pc = .ok (.i2c, 1)) (k : qa_At l g (y, cc, nL, rt) d KC KS cells slots (pc + 1) lv (.int ((x.toUInt32 % 65536).toInt32) :: st) w h Z) : qa_At l g (y, cc, nL, rt) d KC KS cells slots pc lv (.int x :: st) w h Z := fun p e s m args below meth c C H locs ls hl hW hS => lv_i2c C.1 C.2.1 dg rfl (k p e s m args below meth c C H locs ls hl hW hS)
theorem qs_iushr {x : Int32} {x2 : Int32} (dg : decode cc pc = .ok (.iushr, 1)) (k : qa_At l g (y, cc, nL, rt) d KC KS cells slots (pc + 1) lv (.int (q_iushr x x2) :: st) w h Z) : qa_At l g (y, cc, nL, rt) d KC KS cells slots pc lv (.int x2 :: .int x :: st) w h Z := fun p e s m args below meth c C H locs ls hl hW hS => lv_iushr C.1 C.2.1 dg rfl (k p e s m args below meth c C H locs ls hl hW hS)
theorem qs_lushr {x : Int64} {x2 : Int32} (dg : decode cc pc = .ok (.lushr, 1)) (k : qa_At l g (y, cc, nL, rt) d KC KS cells slots (pc + 1) lv (.long (q_lushr x x2) :: st) w h Z) : qa_At l g (y, cc, nL, rt) d KC KS cells slots pc lv (.int x2 :: .long x :: st) w h Z := fun p e s m args below meth c C H locs ls hl hW hS => lv_lushr C.1 C.2.1 dg rfl (k p e s m args below meth c C H locs ls hl hW hS)
theorem qs_lshl {x : Int64} {x2 : Int32} (dg : decode cc pc = .ok (.lshl, 1)) (k : qa_At l g (y, cc, nL, rt) d KC KS cells slots (pc + 1) lv (.long (q_lshl x x2) :: st) w h Z) : qa_At l g (y, cc, nL, rt) d KC KS cells slots pc lv (.int x2 :: .long x :: st) w h Z := fun p e s m args below meth c C H locs ls hl hW hS => lv_lshl C.1 C.2.1 dg rfl (k p e s m args below meth c C H locs ls hl hW hS)
theorem qs_lshr {x : Int64} {x2 : Int32} (dg : decode cc pc = .ok (.lshr, 1)) (k : qa_At l g (y, cc, nL, rt) d KC KS cells slots (pc + 1) lv (.long (q_lshr x x2) :: st) w h Z) : qa_At l g (y, cc, nL, rt) d KC KS cells slots pc lv (.int x2 :: .long x :: st) w h Z := fun p e s m args below meth c C H locs ls hl hW hS => lv_lshr C.1 C.2.1 dg rfl (k p e s m args below meth c C H locs ls hl hW hS)
theorem qs_dup {va : Value} (dg : decode cc pc = .ok (.dup, 1)) (hva : va.category = 1) (k : qa_At l g (y, cc, nL, rt) d KC KS cells slots (pc + 1) lv (va :: va :: st) w h Z) : qa_At l g (y, cc, nL, rt) d KC KS cells slots pc lv (va :: st) w h Z := fun p e s m args below meth c C H locs ls hl hW hS => lv_dup C.1 C.2.1 dg hva (k p e s m args below meth c C H locs ls hl hW hS)
theorem qs_pop {va : Value} (dg : decode cc pc = .ok (.pop, 1)) (hva : va.category = 1) (k : qa_At l g (y, cc, nL, rt) d KC KS cells slots (pc + 1) lv st w h Z) : qa_At l g (y, cc, nL, rt) d KC KS cells slots pc lv (va :: st) w h Z := fun p e s m args below meth c C H locs ls hl hW hS => lv_pop C.1 C.2.1 dg hva (k p e s m args below meth c C H locs ls hl hW hS)
theorem qs_dup2_11 {va vb : Value} (dg : decode cc pc = .ok (.dup2, 1)) (hva : va.category = 1) (hvb : vb.category = 1) (k : qa_At l g (y, cc, nL, rt) d KC KS cells slots (pc + 1) lv (va :: vb :: va :: vb :: st) w h Z) : qa_At l g (y, cc, nL, rt) d KC KS cells slots pc lv (va :: vb :: st) w h Z := fun p e s m args below meth c C H locs ls hl hW hS => lv_dup2_11 C.1 C.2.1 dg hva hvb (k p e s m args below meth c C H locs ls hl hW hS)
theorem qs_if_eq {x : Int32} {off : Int} (tgt : Nat) (dg : decode cc pc = .ok (.ifCond .eq off, 3)) (ht : (pc : Int) + off = (tgt : Int)) (kt : x = 0 → qa_At l g (y, cc, nL, rt) d KC KS cells slots tgt lv st w h Z) (kf : ¬ x = 0 → qa_At l g (y, cc, nL, rt) d KC KS cells slots (pc + 3) lv st w h Z) : qa_At l g (y, cc, nL, rt) d KC KS cells slots pc lv (.int x :: st) w h Z := fun p e s m args below meth c C H locs ls hl hW hS => lv_if_eq C.1 C.2.1 dg ht (fun q => kt q p e s m args below meth c C H locs ls hl hW hS) (fun q => kf q p e s m args below meth c C H locs ls hl hW hS)
theorem qs_icmp_eq {x x2 : Int32} {off : Int} (tgt : Nat) (dg : decode cc pc = .ok (.if_icmp .eq off, 3)) (ht : (pc : Int) + off = (tgt : Int)) (kt : x = x2 → qa_At l g (y, cc, nL, rt) d KC KS cells slots tgt lv st w h Z) (kf : ¬ x = x2 → qa_At l g (y, cc, nL, rt) d KC KS cells slots (pc + 3) lv st w h Z) : qa_At l g (y, cc, nL, rt) d KC KS cells slots pc lv (.int x2 :: .int x :: st) w h Z := fun p e s m args below meth c C H locs ls hl hW hS => lv_icmp_eq C.1 C.2.1 dg ht (fun q => kt q p e s m args below meth c C H locs ls hl hW hS) (fun q => kf q p e s m args below meth c C H locs ls hl hW hS)
theorem qs_if_ne {x : Int32} {off : Int} (tgt : Nat) (dg : decode cc pc = .ok (.ifCond .ne off, 3)) (ht : (pc : Int) + off = (tgt : Int)) (kt : ¬ x = 0 → qa_At l g (y, cc, nL, rt) d KC KS cells slots tgt lv st w h Z) (kf : x = 0 → qa_At l g (y, cc, nL, rt) d KC KS cells slots (pc + 3) lv st w h Z) : qa_At l g (y, cc, nL, rt) d KC KS cells slots pc lv (.int x :: st) w h Z := fun p e s m args below meth c C H locs ls hl hW hS => lv_if_ne C.1 C.2.1 dg ht (fun q => kt q p e s m args below meth c C H locs ls hl hW hS) (fun q => kf q p e s m args below meth c C H locs ls hl hW hS)
theorem qs_icmp_ne {x x2 : Int32} {off : Int} (tgt : Nat) (dg : decode cc pc = .ok (.if_icmp .ne off, 3)) (ht : (pc : Int) + off = (tgt : Int)) (kt : ¬ x = x2 → qa_At l g (y, cc, nL, rt) d KC KS cells slots tgt lv st w h Z) (kf : x = x2 → qa_At l g (y, cc, nL, rt) d KC KS cells slots (pc + 3) lv st w h Z) : qa_At l g (y, cc, nL, rt) d KC KS cells slots pc lv (.int x2 :: .int x :: st) w h Z := fun p e s m args below meth c C H locs ls hl hW hS => lv_icmp_ne C.1 C.2.1 dg ht (fun q => kt q p e s m args below meth c C H locs ls hl hW hS) (fun q => kf q p e s m args below meth c C H locs ls hl hW hS)
theorem qs_if_lt {x : Int32} {off : Int} (tgt : Nat) (dg : decode cc pc = .ok (.ifCond .lt off, 3)) (ht : (pc : Int) + off = (tgt : Int)) (kt : x < 0 → qa_At l g (y, cc, nL, rt) d KC KS cells slots tgt lv st w h Z) (kf : ¬ x < 0 → qa_At l g (y, cc, nL, rt) d KC KS cells slots (pc + 3) lv st w h Z) : qa_At l g (y, cc, nL, rt) d KC KS cells slots pc lv (.int x :: st) w h Z := fun p e s m args below meth c C H locs ls hl hW hS => lv_if_lt C.1 C.2.1 dg ht (fun q => kt q p e s m args below meth c C H locs ls hl hW hS) (fun q => kf q p e s m args below meth c C H locs ls hl hW hS)
theorem qs_icmp_lt {x x2 : Int32} {off : Int} (tgt : Nat) (dg : decode cc pc = .ok (.if_icmp .lt off, 3)) (ht : (pc : Int) + off = (tgt : Int)) (kt : x < x2 → qa_At l g (y, cc, nL, rt) d KC KS cells slots tgt lv st w h Z) (kf : ¬ x < x2 → qa_At l g (y, cc, nL, rt) d KC KS cells slots (pc + 3) lv st w h Z) : qa_At l g (y, cc, nL, rt) d KC KS cells slots pc lv (.int x2 :: .int x :: st) w h Z := fun p e s m args below meth c C H locs ls hl hW hS => lv_icmp_lt C.1 C.2.1 dg ht (fun q => kt q p e s m args below meth c C H locs ls hl hW hS) (fun q => kf q p e s m args below meth c C H locs ls hl hW hS)
theorem qs_if_ge {x : Int32} {off : Int} (tgt : Nat) (dg : decode cc pc = .ok (.ifCond .ge off, 3)) (ht : (pc : Int) + off = (tgt : Int)) (kt : 0 ≤ x → qa_At l g (y, cc, nL, rt) d KC KS cells slots tgt lv st w h Z) (kf : ¬ 0 ≤ x → qa_At l g (y, cc, nL, rt) d KC KS cells slots (pc + 3) lv st w h Z) : qa_At l g (y, cc, nL, rt) d KC KS cells slots pc lv (.int x :: st) w h Z := fun p e s m args below meth c C H locs ls hl hW hS => lv_if_ge C.1 C.2.1 dg ht (fun q => kt q p e s m args below meth c C H locs ls hl hW hS) (fun q => kf q p e s m args below meth c C H locs ls hl hW hS)
theorem qs_icmp_ge {x x2 : Int32} {off : Int} (tgt : Nat) (dg : decode cc pc = .ok (.if_icmp .ge off, 3)) (ht : (pc : Int) + off = (tgt : Int)) (kt : x2 ≤ x → qa_At l g (y, cc, nL, rt) d KC KS cells slots tgt lv st w h Z) (kf : ¬ x2 ≤ x → qa_At l g (y, cc, nL, rt) d KC KS cells slots (pc + 3) lv st w h Z) : qa_At l g (y, cc, nL, rt) d KC KS cells slots pc lv (.int x2 :: .int x :: st) w h Z := fun p e s m args below meth c C H locs ls hl hW hS => lv_icmp_ge C.1 C.2.1 dg ht (fun q => kt q p e s m args below meth c C H locs ls hl hW hS) (fun q => kf q p e s m args below meth c C H locs ls hl hW hS)
theorem qs_if_gt {x : Int32} {off : Int} (tgt : Nat) (dg : decode cc pc = .ok (.ifCond .gt off, 3)) (ht : (pc : Int) + off = (tgt : Int)) (kt : 0 < x → qa_At l g (y, cc, nL, rt) d KC KS cells slots tgt lv st w h Z) (kf : ¬ 0 < x → qa_At l g (y, cc, nL, rt) d KC KS cells slots (pc + 3) lv st w h Z) : qa_At l g (y, cc, nL, rt) d KC KS cells slots pc lv (.int x :: st) w h Z := fun p e s m args below meth c C H locs ls hl hW hS => lv_if_gt C.1 C.2.1 dg ht (fun q => kt q p e s m args below meth c C H locs ls hl hW hS) (fun q => kf q p e s m args below meth c C H locs ls hl hW hS)
theorem qs_icmp_gt {x x2 : Int32} {off : Int} (tgt : Nat) (dg : decode cc pc = .ok (.if_icmp .gt off, 3)) (ht : (pc : Int) + off = (tgt : Int)) (kt : x2 < x → qa_At l g (y, cc, nL, rt) d KC KS cells slots tgt lv st w h Z) (kf : ¬ x2 < x → qa_At l g (y, cc, nL, rt) d KC KS cells slots (pc + 3) lv st w h Z) : qa_At l g (y, cc, nL, rt) d KC KS cells slots pc lv (.int x2 :: .int x :: st) w h Z := fun p e s m args below meth c C H locs ls hl hW hS => lv_icmp_gt C.1 C.2.1 dg ht (fun q => kt q p e s m args below meth c C H locs ls hl hW hS) (fun q => kf q p e s m args below meth c C H locs ls hl hW hS)
theorem qs_if_le {x : Int32} {off : Int} (tgt : Nat) (dg : decode cc pc = .ok (.ifCond .le off, 3)) (ht : (pc : Int) + off = (tgt : Int)) (kt : x ≤ 0 → qa_At l g (y, cc, nL, rt) d KC KS cells slots tgt lv st w h Z) (kf : ¬ x ≤ 0 → qa_At l g (y, cc, nL, rt) d KC KS cells slots (pc + 3) lv st w h Z) : qa_At l g (y, cc, nL, rt) d KC KS cells slots pc lv (.int x :: st) w h Z := fun p e s m args below meth c C H locs ls hl hW hS => lv_if_le C.1 C.2.1 dg ht (fun q => kt q p e s m args below meth c C H locs ls hl hW hS) (fun q => kf q p e s m args below meth c C H locs ls hl hW hS)
theorem qs_icmp_le {x x2 : Int32} {off : Int} (tgt : Nat) (dg : decode cc pc = .ok (.if_icmp .le off, 3)) (ht : (pc : Int) + off = (tgt : Int)) (kt : x ≤ x2 → qa_At l g (y, cc, nL, rt) d KC KS cells slots tgt lv st w h Z) (kf : ¬ x ≤ x2 → qa_At l g (y, cc, nL, rt) d KC KS cells slots (pc + 3) lv st w h Z) : qa_At l g (y, cc, nL, rt) d KC KS cells slots pc lv (.int x2 :: .int x :: st) w h Z := fun p e s m args below meth c C H locs ls hl hW hS => lv_icmp_le C.1 C.2.1 dg ht (fun q => kt q p e s m args below meth c C H locs ls hl hW hS) (fun q => kf q p e s m args below meth c C H locs ls hl hW hS)
theorem qs_goto {off : Int} (tgt : Nat) (dg : decode cc pc = .ok (.goto off, 3)) (ht : (pc : Int) + off = (tgt : Int)) (k : qa_At l g (y, cc, nL, rt) d KC KS cells slots tgt lv st w h Z) : qa_At l g (y, cc, nL, rt) d KC KS cells slots pc lv st w h Z := fun p e s m args below meth c C H locs ls hl hW hS => lv_goto C.1 C.2.1 dg ht (k p e s m args below meth c C H locs ls hl hW hS)
theorem qs_lcmp {x x2 : Int64} (dg : decode cc pc = .ok (.lcmp, 1)) (k : qa_At l g (y, cc, nL, rt) d KC KS cells slots (pc + 1) lv (.int (lg_cmp x x2) :: st) w h Z) : qa_At l g (y, cc, nL, rt) d KC KS cells slots pc lv (.long x2 :: .long x :: st) w h Z := fun p e s m args below meth c C H locs ls hl hW hS => W.lcmp C.1 C.2.1 dg (k p e s m args below meth c C H locs ls hl hW hS)
theorem qs_lc_eq {x x2 : Int64} {off : Int} (tgt : Nat) (dg1 : decode cc pc = .ok (.lcmp, 1)) (dg : decode cc (pc + 1) = .ok (.ifCond .eq off, 3)) (ht : ((pc + 1 : Nat) : Int) + off = (tgt : Int)) (kt : x = x2 → qa_At l g (y, cc, nL, rt) d KC KS cells slots tgt lv st w h Z) (kf : ¬ x = x2 → qa_At l g (y, cc, nL, rt) d KC KS cells slots (pc + 4) lv st w h Z) : qa_At l g (y, cc, nL, rt) d KC KS cells slots pc lv (.long x2 :: .long x :: st) w h Z := qs_lcmp dg1 (qs_if_eq tgt dg ht (fun q => kt ((lg_cmp_eq x x2).mp q)) (fun q => kf (fun z => q ((lg_cmp_eq x x2).mpr z))))
theorem qs_lc_ne {x x2 : Int64} {off : Int} (tgt : Nat) (dg1 : decode cc pc = .ok (.lcmp, 1)) (dg : decode cc (pc + 1) = .ok (.ifCond .ne off, 3)) (ht : ((pc + 1 : Nat) : Int) + off = (tgt : Int)) (kt : ¬ x = x2 → qa_At l g (y, cc, nL, rt) d KC KS cells slots tgt lv st w h Z) (kf : x = x2 → qa_At l g (y, cc, nL, rt) d KC KS cells slots (pc + 4) lv st w h Z) : qa_At l g (y, cc, nL, rt) d KC KS cells slots pc lv (.long x2 :: .long x :: st) w h Z := qs_lcmp dg1 (qs_if_ne tgt dg ht (fun q => kt (fun z => q ((lg_cmp_eq x x2).mpr z))) (fun q => kf ((lg_cmp_eq x x2).mp q)))
theorem qs_lc_lt {x x2 : Int64} {off : Int} (tgt : Nat) (dg1 : decode cc pc = .ok (.lcmp, 1)) (dg : decode cc (pc + 1) = .ok (.ifCond .lt off, 3)) (ht : ((pc + 1 : Nat) : Int) + off = (tgt : Int)) (kt : x < x2 → qa_At l g (y, cc, nL, rt) d KC KS cells slots tgt lv st w h Z) (kf : ¬ x < x2 → qa_At l g (y, cc, nL, rt) d KC KS cells slots (pc + 4) lv st w h Z) : qa_At l g (y, cc, nL, rt) d KC KS cells slots pc lv (.long x2 :: .long x :: st) w h Z := qs_lcmp dg1 (qs_if_lt tgt dg ht (fun q => kt ((lg_cmp_lt x x2).mp q)) (fun q => kf (fun z => q ((lg_cmp_lt x x2).mpr z))))
theorem qs_lc_ge {x x2 : Int64} {off : Int} (tgt : Nat) (dg1 : decode cc pc = .ok (.lcmp, 1)) (dg : decode cc (pc + 1) = .ok (.ifCond .ge off, 3)) (ht : ((pc + 1 : Nat) : Int) + off = (tgt : Int)) (kt : x2 ≤ x → qa_At l g (y, cc, nL, rt) d KC KS cells slots tgt lv st w h Z) (kf : ¬ x2 ≤ x → qa_At l g (y, cc, nL, rt) d KC KS cells slots (pc + 4) lv st w h Z) : qa_At l g (y, cc, nL, rt) d KC KS cells slots pc lv (.long x2 :: .long x :: st) w h Z := qs_lcmp dg1 (qs_if_ge tgt dg ht (fun q => kt ((lg_cmp_ge x x2).mp q)) (fun q => kf (fun z => q ((lg_cmp_ge x x2).mpr z))))
theorem qs_lc_gt {x x2 : Int64} {off : Int} (tgt : Nat) (dg1 : decode cc pc = .ok (.lcmp, 1)) (dg : decode cc (pc + 1) = .ok (.ifCond .gt off, 3)) (ht : ((pc + 1 : Nat) : Int) + off = (tgt : Int)) (kt : x2 < x → qa_At l g (y, cc, nL, rt) d KC KS cells slots tgt lv st w h Z) (kf : ¬ x2 < x → qa_At l g (y, cc, nL, rt) d KC KS cells slots (pc + 4) lv st w h Z) : qa_At l g (y, cc, nL, rt) d KC KS cells slots pc lv (.long x2 :: .long x :: st) w h Z := qs_lcmp dg1 (qs_if_gt tgt dg ht (fun q => kt ((lg_cmp_gt x x2).mp q)) (fun q => kf (fun z => q ((lg_cmp_gt x x2).mpr z))))
theorem qs_lc_le {x x2 : Int64} {off : Int} (tgt : Nat) (dg1 : decode cc pc = .ok (.lcmp, 1)) (dg : decode cc (pc + 1) = .ok (.ifCond .le off, 3)) (ht : ((pc + 1 : Nat) : Int) + off = (tgt : Int)) (kt : x ≤ x2 → qa_At l g (y, cc, nL, rt) d KC KS cells slots tgt lv st w h Z) (kf : ¬ x ≤ x2 → qa_At l g (y, cc, nL, rt) d KC KS cells slots (pc + 4) lv st w h Z) : qa_At l g (y, cc, nL, rt) d KC KS cells slots pc lv (.long x2 :: .long x :: st) w h Z := qs_lcmp dg1 (qs_if_le tgt dg ht (fun q => kt ((lg_cmp_le x x2).mp q)) (fun q => kf (fun z => q ((lg_cmp_le x x2).mpr z))))
theorem qs_ifnull {x : Nat} {off : Int} (tgt : Nat) (dg : decode cc pc = .ok (.ifnull off, 3)) (ht : (pc : Int) + off = (tgt : Int)) (kt : x = 0 → qa_At l g (y, cc, nL, rt) d KC KS cells slots tgt lv st w h Z) (kf : ∀ a, x = a + 1 → qa_At l g (y, cc, nL, rt) d KC KS cells slots (pc + 3) lv st w h Z) : qa_At l g (y, cc, nL, rt) d KC KS cells slots pc lv (qa_rv g.1 x :: st) w h Z := by
  intro p e s m args below meth c C H locs ls hl hW hS
  cases x with
  | zero => exact lv_ifnullN C.1 C.2.1 dg ht (kt rfl p e s m args below meth c C H locs ls hl hW hS)
  | succ n => exact lv_ifnull C.1 C.2.1 dg (kf n rfl p e s m args below meth c C H locs ls hl hW hS)
theorem qs_tabOut {dflt lo hi : Int} {offs : Array Int} {len : Nat} {x : Int32} (tgt : Nat) (dg : decode cc pc = .ok (.tableswitch dflt lo hi offs, len)) (hh : x.toInt < lo ∨ hi < x.toInt) (ht : (pc : Int) + dflt = (tgt : Int)) (k : qa_At l g (y, cc, nL, rt) d KC KS cells slots tgt lv st w h Z) : qa_At l g (y, cc, nL, rt) d KC KS cells slots pc lv (.int x :: st) w h Z := fun p e s m args below meth c C H locs ls hl hW hS => lv_tableOut C.1 C.2.1 dg hh ht (k p e s m args below meth c C H locs ls hl hW hS)
theorem qs_tabIn {dflt lo hi : Int} {offs : Array Int} {len : Nat} {x : Int32} {off : Int} (tgt : Nat) (dg : decode cc pc = .ok (.tableswitch dflt lo hi offs, len)) (h1 : ¬ x.toInt < lo) (h2 : ¬ hi < x.toInt) (ho : offs[(x.toInt - lo).toNat]? = some off) (ht : (pc : Int) + off = (tgt : Int)) (k : qa_At l g (y, cc, nL, rt) d KC KS cells slots tgt lv st w h Z) : qa_At l g (y, cc, nL, rt) d KC KS cells slots pc lv (.int x :: st) w h Z := fun p e s m args below meth c C H locs ls hl hW hS => lv_tableIn C.1 C.2.1 dg h1 h2 ho ht (k p e s m args below meth c C H locs ls hl hW hS)
theorem qs_lookup {dflt : Int} {ps : Array (Int × Int)} {len : Nat} {x : Int32} {off : Int} (tgt : Nat) (dg : decode cc pc = .ok (.lookupswitch dflt ps, len)) (hp : (ps.toList.zip (ps.toList.drop 1)).all (fun (a, next) => a.1 < next.1) = true) (ho : Op.lookupswitch.offset ps.toList dflt x.toInt = off) (ht : (pc : Int) + off = (tgt : Int)) (k : qa_At l g (y, cc, nL, rt) d KC KS cells slots tgt lv st w h Z) : qa_At l g (y, cc, nL, rt) d KC KS cells slots pc lv (.int x :: st) w h Z := fun p e s m args below meth c C H locs ls hl hW hS => lv_lookup C.1 C.2.1 dg hp ho ht (k p e s m args below meth c C H locs ls hl hW hS)
end qs_sec
/-! the heap's rows -/
def qa_off (a : Nat) (h h2 : qa_M) : Prop := ∀ b, b ≠ a → h2.1 b = h.1 b ∧ h2.2.1 b = h.2.1 b ∧ h2.2.2.1 b = h.2.2.1 b
theorem qa_fv_eq {B : Nat} {h h2 : qa_M} {b : Nat} (e : h2.1 b = h.1 b ∧ h2.2.1 b = h.2.1 b ∧ h2.2.2.1 b = h.2.2.1 b) (j fk : Nat) : qa_fv B h2 b j fk = qa_fv B h b j fk := by
  match fk with
  | 0 => simp only [qa_fv, e.1]
  | 1 => simp only [qa_fv, e.2.1]
  | 2 => simp only [qa_fv, e.2.2]
  | n + 3 => rfl
theorem qa_av_eq {B : Nat} {h h2 : qa_M} {b : Nat} (e : h2.1 b = h.1 b ∧ h2.2.1 b = h.2.1 b ∧ h2.2.2.1 b = h.2.2.1 b) (tc : Nat) : qa_av B h2 b tc = qa_av B h b tc := by
  funext j
  unfold qa_av
  rw [e.1, e.2.1, e.2.2]
theorem qa_at_eq {g : qa_G} {h h2 : qa_M} {b : Nat} {kd : qa_K} {H H1 : Heap} (e : h2.1 b = h.1 b ∧ h2.2.1 b = h.2.1 b ∧ h2.2.2.1 b = h.2.2.1 b) (hH : H1[g.1 + b]? = H[g.1 + b]?) (k : qa_at g h b kd H) : qa_at g h2 b kd H1 := by
  cases kd with
  | inl o =>
    obtain ⟨r, h1, hl, h3⟩ := k
    exact ⟨r, h1, hl, (h3.kept hH).to (fun j _ => (qa_fv_eq e j _).symm)⟩
  | inr q =>
    show H1[g.1 + b]? = _
    rw [hH, qa_av_eq e]
    exact k
theorem qa_H_set {g : qa_G} {w : List qa_K} {h h2 : qa_M} {H H1 : Heap} {a : Nat} {kd : qa_K} (hW : qa_H g w h H) (ho : qa_off a h h2) (hz : H1.size = H.size) (oq : ∀ q, q ≠ g.1 + a → H1[q]? = H[q]?) (hw : w[a]? = some kd) (ha : qa_at g h2 a kd H1) : qa_H g w h2 H1 := by
  refine ⟨hz.trans hW.1, fun b kd2 hb => ?_⟩
  by_cases e : b = a
  · subst e
    cases hw.symm.trans hb
    exact ha
  · exact qa_at_eq (ho b e) (oq _ (by omega)) (hW.2 b kd2 hb)
theorem qw_I_off (h : qa_M) (a k : Nat) (v : Int32) : qa_off a h (qw_I h a k v) := fun b e => ⟨by funext j; simp [qw_I, e], rfl, rfl⟩
theorem qw_J_off (h : qa_M) (a k : Nat) (v : Int64) : qa_off a h (qw_J h a k v) := fun b e => ⟨rfl, by funext j; simp [qw_J, e], rfl⟩
theorem qw_R_off (h : qa_M) (a k : Nat) (v : Nat) : qa_off a h (qw_R h a k v) := fun b e => ⟨rfl, rfl, by funext j; simp [qw_R, e]⟩
/-- a class of the list: its words, types, names -/
def qa_clok (r : vw_C) : Prop := (∀ w ∈ u_ws r.1 r.2.1 r.2.2, w ∈ qw_tbl) ∧ ∃ ty0 : Nat → FieldType, (∀ k, k < r.2.2 → parseFieldDescriptor (r.2.1 k).2.2.1 = some (ty0 k)) ∧ ∀ a, a < r.2.2 → ∀ b, b < r.2.2 → a ≠ b → (r.2.1 a).2.1 ≠ (r.2.1 b).2.1
/-- a field as an instruction names it -/
def qa_fd (own : String) (idx ci k : Nat) (ty : FieldType) (fin : Bool) : Prop := ∃ r : vw_C, qa_cl[ci]? = some r ∧ qa_clok r ∧ k < r.2.2 ∧ Cond.fieldLink own idx (r.2.1 k).1 (r.2.1 k).2.1 (r.2.1 k).2.2.1 ∈ qw_tbl ∧ parseFieldDescriptor (r.2.1 k).2.2.1 = some ty ∧ (r.2.1 k).2.2.2 = fin ∧ (fin = true → (r.2.1 k).1 = own)
/-- a field that is read -/
def qa_fe (own : String) (idx ci k : Nat) : Prop := ∃ r : vw_C, qa_cl[ci]? = some r ∧ qa_clok r ∧ k < r.2.2 ∧ Cond.fieldLink own idx (r.2.1 k).1 (r.2.1 k).2.1 (r.2.1 k).2.2.1 ∈ qw_tbl
section qh_sec
variable {l : Launch} {g : qa_G} {y : MethodName} {cc : ByteArray} {nL : Nat} {rt : Option FieldType} {d KC KS cells slots pc : Nat} {lv : List (Nat × Value)} {st : List Value} {w : List qa_K} {h : qa_M} {Z : qa_Zt}
theorem qs_sub (lv2 : List (Nat × Value)) (ks : List Nat) (e : lv_pick lv ks = lv2) (k : qa_At l g (y, cc, nL, rt) d KC KS cells slots pc lv2 st w h Z) : qa_At l g (y, cc, nL, rt) d KC KS cells slots pc lv st w h Z := fun p e1 s m args below meth c C H locs ls hl hW hS => k p e1 s m args below meth c C H locs ls (lv_sub hl ks e) hW hS
theorem qs_widen {c2 s2 : Nat} (h1 : cells ≤ c2) (h2 : slots ≤ s2) (k : qa_At l g (y, cc, nL, rt) d KC KS c2 s2 pc lv st w h Z) : qa_At l g (y, cc, nL, rt) d KC KS cells slots pc lv st w h Z := fun p e1 s m args below meth c C H locs ls hl hW hS => W.widen h1 h2 (k p e1 s m args below meth c C H locs ls hl hW hS)
theorem qs_get {a ci k idx : Nat} {fks : List Nat} {v : Value} (hw : w[a]? = some (.inl (ci, fks))) (F : qa_fe y.cls idx ci k) (hv : qa_fv g.1 h a k (fks.getD k 0) = v) (dg : decode cc pc = .ok (.getfield idx, 3)) (kk : qa_At l g (y, cc, nL, rt) d KC KS cells slots (pc + 3) lv (v :: st) w h Z) : qa_At l g (y, cc, nL, rt) d KC KS cells slots pc lv (.ref (g.1 + a) :: st) w h Z := by
  intro p e s m args below meth c C H locs ls hl hW hS
  obtain ⟨hx, hb, hml, hr, hlk, hown, hnm, hts, hSt, hB⟩ := id C
  obtain ⟨r, hc, hok, hk, hlink⟩ := F
  obtain ⟨r2, h1, hlen, cell, q1, q2, q3, q4⟩ := hW.2 a _ hw
  have hr2 : r2 = r := Option.some.inj (h1.symm.trans hc)
  subst hr2
  obtain ⟨hS1, hfc, kC, hkC, hkind⟩ := hSt.1.1 ci _ hc
  obtain ⟨cf, kf, fi, f, hi, hsl⟩ := hS1 k hk
  refine W.getf hx hb hown (hts _ hlink) hi (u_facts hfc hkC (u_lays hts hok.1 hk) hi).1 q1 (by rw [q3]; exact fun h => by cases h) (v := v) ?_ rfl rfl dg (kk p e s m args below meth c C H locs ls hl hW hS)
  rw [hsl, q4 k hk]
  exact congrArg some hv
theorem qs_put {a ci k idx : Nat} {fks : List Nat} {ty : FieldType} {v : Value} {h2 : qa_M} (hw : w[a]? = some (.inl (ci, fks))) (F : qa_fd y.cls idx ci k ty false) (hn : narrow ty v = v) (hf : fits ty v = true) (ho : qa_off a h h2) (hv : qa_fv g.1 h2 a k (fks.getD k 0) = v) (hj : ∀ j, j ≠ k → qa_fv g.1 h2 a j (fks.getD j 0) = qa_fv g.1 h a j (fks.getD j 0)) (dg : decode cc pc = .ok (.putfield idx, 3)) (kk : qa_At l g (y, cc, nL, rt) d KC KS cells slots (pc + 3) lv st w h2 Z) : qa_At l g (y, cc, nL, rt) d KC KS cells slots pc lv (v :: .ref (g.1 + a) :: st) w h Z := by
  intro p e s m args below meth c C H locs ls hl hW hS
  obtain ⟨hx, hb, hml, hr, hlk, hown, hnm, hts, hSt, hB⟩ := id C
  obtain ⟨r, hc, hok, hk, hlink, hd, hfin, -⟩ := F
  obtain ⟨r2, h1, hlen, cell, q1, q2, q3, q4⟩ := hW.2 a _ hw
  have hr2 : r2 = r := Option.some.inj (h1.symm.trans hc)
  subst hr2
  obtain ⟨ty0, hty, hnames⟩ := hok.2
  have hap := va_apart (own := y.cls) hts hok.1 ty0 hty hnames hSt.1 hc
  obtain ⟨hS1, hfc, kC, hkC, hkind⟩ := hSt.1.1 ci _ hc
  obtain ⟨cf, kf, fi, f, hi, hsl⟩ := hS1 k hk
  have hlay := hts _ (hok.1 _ (u_in_lay hk))
  unfold u_lay at hlay
  rw [if_neg (by rw [hfin]; decide)] at hlay
  have hst := (u_facts hfc hkC (u_lays hts hok.1 hk) hi).1
  have h6 := u_store hfc hkC hkind hlay hi hd hn hf
  refine W.putK hx hb (f := f) ⟨hown, hts _ hlink, ⟨_, _, _, hi⟩, hst⟩ (by rw [q2]; exact h6) q1 q3 (by rw [hsl]; exact k2_hasslot (q4 k hk)) rfl rfl dg fun H2 e1 e2 e3 => ?_
  rw [hsl] at e1 ⊢
  refine kk p e s m args below meth c C H2 _ ls hl (qa_H_set hW ho e2 e3 hw ⟨r2, h1, hlen, ?_⟩) (hS.put e2 e3 (Nat.le_add_right _ _))
  refine t_OB.to (V := updV (fun j => qa_fv g.1 h a j (fks.getD j 0)) k v) ⟨_, e1, q2, q3, t_set q4 hap hk v⟩ (fun j _ => ?_)
  unfold updV
  by_cases e : j = k
  · subst e; rw [if_pos rfl]; exact hv.symm
  · rw [if_neg e]; exact (hj j e).symm
theorem qs_putF {a ci k idx : Nat} {fks : List Nat} {ty : FieldType} {v : Value} {h2 : qa_M} (hw : w[a]? = some (.inl (ci, fks))) (F : qa_fd y.cls idx ci k ty true) (hin : y.name = "<init>") (hn : narrow ty v = v) (hf : fits ty v = true) (ho : qa_off a h h2) (hv : qa_fv g.1 h2 a k (fks.getD k 0) = v) (hj : ∀ j, j ≠ k → qa_fv g.1 h2 a j (fks.getD j 0) = qa_fv g.1 h a j (fks.getD j 0)) (dg : decode cc pc = .ok (.putfield idx, 3)) (kk : qa_At l g (y, cc, nL, rt) d KC KS cells slots (pc + 3) lv st w h2 Z) : qa_At l g (y, cc, nL, rt) d KC KS cells slots pc lv (v :: .ref (g.1 + a) :: st) w h Z := by
  intro p e s m args below meth c C H locs ls hl hW hS
  obtain ⟨hx, hb, hml, hr, hlk, hown, hnm, hts, hSt, hB⟩ := id C
  obtain ⟨r, hc, hok, hk, hlink, hd, hfin, hdecl⟩ := F
  obtain ⟨r2, h1, hlen, cell, q1, q2, q3, q4⟩ := hW.2 a _ hw
  have hr2 : r2 = r := Option.some.inj (h1.symm.trans hc)
  subst hr2
  obtain ⟨ty0, hty, hnames⟩ := hok.2
  have hap := va_apart (own := y.cls) hts hok.1 ty0 hty hnames hSt.1 hc
  obtain ⟨hS1, hfc, kC, hkC, hkind⟩ := hSt.1.1 ci _ hc
  obtain ⟨cf, kf, fi, f, hi, hsl⟩ := hS1 k hk
  have hlay := hts _ (hok.1 _ (u_in_lay hk))
  unfold u_lay at hlay
  rw [if_pos hfin] at hlay
  have hst := (u_facts hfc hkC (u_lays hts hok.1 hk) hi).1
  have hcf : m.cls = cf := by
    obtain ⟨_, _, c', _, _, _, -, -, hf', -, -, -, hown2, -⟩ := Cond.laysFinal_spec hlay
    have e1 : c' = cf := by have := hi.symm.trans hf'; simp at this; exact this.1.symm
    rw [hdecl rfl] at hown2
    rw [← e1]; exact Option.some.inj (hown.symm.trans hown2)
  have h6 := u_fits hfc hkC hkind (Or.inr hlay) hi hd hn hf
  refine W.putFinK hx hb hown (hts _ hlink) hi hst hcf (hnm.trans hin) (by rw [q2]; exact h6) q1 q3 (by rw [hsl]; exact k2_hasslot (q4 k hk)) rfl rfl dg fun H2 e1 e2 e3 => ?_
  rw [hsl] at e1 ⊢
  refine kk p e s m args below meth c C H2 _ ls hl (qa_H_set hW ho e2 e3 hw ⟨r2, h1, hlen, ?_⟩) (hS.put e2 e3 (Nat.le_add_right _ _))
  refine t_OB.to (V := updV (fun j => qa_fv g.1 h a j (fks.getD j 0)) k v) ⟨_, e1, q2, q3, t_set q4 hap hk v⟩ (fun j _ => ?_)
  unfold updV
  by_cases e : j = k
  · subst e; rw [if_pos rfl]; exact hv.symm
  · rw [if_neg e]; exact (hj j e).symm
theorem qa_lt_of {i : Int32} {n : Nat} (hin : vp_in i n) : i.toNatClampNeg < n := Nat.not_le.mp fun q => hin (Or.inr q)
theorem qs_iald {a n : Nat} {i : Int32} (hw : w[a]? = some (.inr (0, n))) (hin : vp_in i n) (dg : decode cc pc = .ok (.iaload, 1)) (kk : qa_At l g (y, cc, nL, rt) d KC KS cells slots (pc + 1) lv (.int (h.1 a i.toNatClampNeg) :: st) w h Z) : qa_At l g (y, cc, nL, rt) d KC KS cells slots pc lv (.int i :: .ref (g.1 + a) :: st) w h Z := by
  intro p e s m args below meth c C H locs ls hl hW hS
  exact W.iald (v := .int (h.1 a i.toNatClampNeg)) C.1 C.2.1 (hW.2 a _ hw) ((C.2.2.2.2.2.2.2.2.1.1.2 0 _ rfl).1 n (qa_av g.1 h a 0)) (fun q => by cases q) (by show ¬ (i < 0 ∨ (arrV _ _ _).slots.size ≤ _); rw [arrV_size]; exact hin) (by show (arrV _ _ _).slots[_]? = _; rw [arrV_read _ _ (qa_lt_of hin)]; rfl) rfl rfl dg (kk p e s m args below meth c C H locs ls hl hW hS)
theorem qs_lald {a n : Nat} {i : Int32} (hw : w[a]? = some (.inr (1, n))) (hin : vp_in i n) (dg : decode cc pc = .ok (.laload, 1)) (kk : qa_At l g (y, cc, nL, rt) d KC KS cells slots (pc + 1) lv (.long (h.2.1 a i.toNatClampNeg) :: st) w h Z) : qa_At l g (y, cc, nL, rt) d KC KS cells slots pc lv (.int i :: .ref (g.1 + a) :: st) w h Z := by
  intro p e s m args below meth c C H locs ls hl hW hS
  exact W.lald (v := .long (h.2.1 a i.toNatClampNeg)) C.1 C.2.1 (hW.2 a _ hw) ((C.2.2.2.2.2.2.2.2.1.1.2 1 _ rfl).1 n (qa_av g.1 h a 1)) (fun q => by cases q) (by show ¬ (i < 0 ∨ (arrV _ _ _).slots.size ≤ _); rw [arrV_size]; exact hin) (by show (arrV _ _ _).slots[_]? = _; rw [arrV_read _ _ (qa_lt_of hin)]; rfl) rfl rfl dg (kk p e s m args below meth c C H locs ls hl hW hS)
theorem qs_bald {a n : Nat} {i : Int32} (hw : w[a]? = some (.inr (2, n))) (hin : vp_in i n) (dg : decode cc pc = .ok (.baload, 1)) (kk : qa_At l g (y, cc, nL, rt) d KC KS cells slots (pc + 1) lv (.int (h.1 a i.toNatClampNeg) :: st) w h Z) : qa_At l g (y, cc, nL, rt) d KC KS cells slots pc lv (.int i :: .ref (g.1 + a) :: st) w h Z := by
  intro p e s m args below meth c C H locs ls hl hW hS
  exact W.bald (v := .int (h.1 a i.toNatClampNeg)) C.1 C.2.1 (hW.2 a _ hw) ((C.2.2.2.2.2.2.2.2.1.1.2 2 _ rfl).1 n (qa_av g.1 h a 2)) (fun q => by cases q) (by show ¬ (i < 0 ∨ (arrV _ _ _).slots.size ≤ _); rw [arrV_size]; exact hin) (by show (arrV _ _ _).slots[_]? = _; rw [arrV_read _ _ (qa_lt_of hin)]; rfl) rfl rfl dg (kk p e s m args below meth c C H locs ls hl hW hS)
theorem qs_zald {a n : Nat} {i : Int32} (hw : w[a]? = some (.inr (3, n))) (hin : vp_in i n) (dg : decode cc pc = .ok (.baload, 1)) (kk : qa_At l g (y, cc, nL, rt) d KC KS cells slots (pc + 1) lv (.int (h.1 a i.toNatClampNeg) :: st) w h Z) : qa_At l g (y, cc, nL, rt) d KC KS cells slots pc lv (.int i :: .ref (g.1 + a) :: st) w h Z := by
  intro p e s m args below meth c C H locs ls hl hW hS
  exact W.zald (v := .int (h.1 a i.toNatClampNeg)) C.1 C.2.1 (hW.2 a _ hw) ((C.2.2.2.2.2.2.2.2.1.1.2 3 _ rfl).1 n (qa_av g.1 h a 3)) (fun q => by cases q) (by show ¬ (i < 0 ∨ (arrV _ _ _).slots.size ≤ _); rw [arrV_size]; exact hin) (by show (arrV _ _ _).slots[_]? = _; rw [arrV_read _ _ (qa_lt_of hin)]; rfl) rfl rfl dg (kk p e s m args below meth c C H locs ls hl hW hS)
theorem qs_aald {a n tc : Nat} {i : Int32} (htc : tc = 4 ∨ tc = 5) (hw : w[a]? = some (.inr (tc, n))) (hin : vp_in i n) (dg : decode cc pc = .ok (.aaload, 1)) (kk : qa_At l g (y, cc, nL, rt) d KC KS cells slots (pc + 1) lv (qa_rv g.1 (h.2.2.1 a i.toNatClampNeg) :: st) w h Z) : qa_At l g (y, cc, nL, rt) d KC KS cells slots pc lv (.int i :: .ref (g.1 + a) :: st) w h Z := by
  intro p e s m args below meth c C H locs ls hl hW hS
  rcases htc with rfl | rfl
  · exact W.aald (v := qa_rv g.1 (h.2.2.1 a i.toNatClampNeg)) (ty := .object RX8) C.1 C.2.1 (hW.2 a _ hw) ((C.2.2.2.2.2.2.2.2.1.1.2 4 _ rfl).1 n (qa_av g.1 h a 4)) rfl (fun q => by cases q) (by show ¬ (i < 0 ∨ (arrV _ _ _).slots.size ≤ _); rw [arrV_size]; exact hin) (by show (arrV _ _ _).slots[_]? = _; rw [arrV_read _ _ (qa_lt_of hin)]; rfl) rfl rfl dg (kk p e s m args below meth c C H locs ls hl hW hS)
  · exact W.aald (v := qa_rv g.1 (h.2.2.1 a i.toNatClampNeg)) (ty := .object RX5) C.1 C.2.1 (hW.2 a _ hw) ((C.2.2.2.2.2.2.2.2.1.1.2 5 _ rfl).1 n (qa_av g.1 h a 5)) rfl (fun q => by cases q) (by show ¬ (i < 0 ∨ (arrV _ _ _).slots.size ≤ _); rw [arrV_size]; exact hin) (by show (arrV _ _ _).slots[_]? = _; rw [arrV_read _ _ (qa_lt_of hin)]; rfl) rfl rfl dg (kk p e s m args below meth c C H locs ls hl hW hS)
theorem qa_arr_set {a n tc k : Nat} {v : Value} {h2 : qa_M} {H H1 : Heap} (hW : qa_H g w h H) (hw : w[a]? = some (.inr (tc, n))) (ho : qa_off a h h2) (hz : H1.size = H.size) (oq : ∀ q, q ≠ g.1 + a → H1[q]? = H[q]?) (e : H1[g.1 + a]? = some ((arrV (g.2.2.1 tc) n (qa_av g.1 h a tc)).setSlot k v)) (hv : ∀ j, updV (qa_av g.1 h a tc) k v j = qa_av g.1 h2 a tc j) : qa_H g w h2 H1 := by
  refine qa_H_set hW ho hz oq hw ?_
  show H1[g.1 + a]? = some (arrV _ _ _)
  rw [e, arrV_store]
  congr 2
  funext j
  exact hv j
theorem qs_iast {a n : Nat} {i x : Int32} (hw : w[a]? = some (.inr (0, n))) (hin : vp_in i n) (dg : decode cc pc = .ok (.iastore, 1)) (kk : qa_At l g (y, cc, nL, rt) d KC KS cells slots (pc + 1) lv st w (qw_I h a i.toNatClampNeg x) Z) : qa_At l g (y, cc, nL, rt) d KC KS cells slots pc lv (.int x :: .int i :: .ref (g.1 + a) :: st) w h Z := by
  intro p e s m args below meth c C H locs ls hl hW hS
  refine W.iast C.1 C.2.1 (hW.2 a _ hw) ((C.2.2.2.2.2.2.2.2.1.1.2 0 _ rfl).1 n (qa_av g.1 h a 0)) (fun q => by cases q) (by show ¬ (i < 0 ∨ (arrV _ _ _).slots.size ≤ _); rw [arrV_size]; exact hin) rfl rfl dg fun H1 e1 z oq => ?_
  refine kk p e s m args below meth c C H1 _ ls hl (qa_arr_set hW hw (qw_I_off _ _ _ _) z oq e1 (fun j => ?_)) (hS.put z oq (Nat.le_add_right _ _))
  simp only [updV, qa_av, qw_I, true_and]
  split <;> rfl
theorem qs_last {a n : Nat} {i : Int32} {x : Int64} (hw : w[a]? = some (.inr (1, n))) (hin : vp_in i n) (dg : decode cc pc = .ok (.lastore, 1)) (kk : qa_At l g (y, cc, nL, rt) d KC KS cells slots (pc + 1) lv st w (qw_J h a i.toNatClampNeg x) Z) : qa_At l g (y, cc, nL, rt) d KC KS cells slots pc lv (.long x :: .int i :: .ref (g.1 + a) :: st) w h Z := by
  intro p e s m args below meth c C H locs ls hl hW hS
  refine W.last C.1 C.2.1 (hW.2 a _ hw) ((C.2.2.2.2.2.2.2.2.1.1.2 1 _ rfl).1 n (qa_av g.1 h a 1)) (fun q => by cases q) (by show ¬ (i < 0 ∨ (arrV _ _ _).slots.size ≤ _); rw [arrV_size]; exact hin) rfl rfl dg fun H1 e1 z oq => ?_
  refine kk p e s m args below meth c C H1 _ ls hl (qa_arr_set hW hw (qw_J_off _ _ _ _) z oq e1 (fun j => ?_)) (hS.put z oq (Nat.le_add_right _ _))
  simp only [updV, qa_av, qw_J, true_and]
  split <;> rfl
theorem qs_bast {a n : Nat} {i x : Int32} (hw : w[a]? = some (.inr (2, n))) (hin : vp_in i n) (dg : decode cc pc = .ok (.bastore, 1)) (kk : qa_At l g (y, cc, nL, rt) d KC KS cells slots (pc + 1) lv st w (qw_I h a i.toNatClampNeg x.toInt8.toInt32) Z) : qa_At l g (y, cc, nL, rt) d KC KS cells slots pc lv (.int x :: .int i :: .ref (g.1 + a) :: st) w h Z := by
  intro p e s m args below meth c C H locs ls hl hW hS
  refine W.bast C.1 C.2.1 (hW.2 a _ hw) ((C.2.2.2.2.2.2.2.2.1.1.2 2 _ rfl).1 n (qa_av g.1 h a 2)) (fun q => by cases q) (by show ¬ (i < 0 ∨ (arrV _ _ _).slots.size ≤ _); rw [arrV_size]; exact hin) rfl rfl dg fun H1 e1 z oq => ?_
  refine kk p e s m args below meth c C H1 _ ls hl (qa_arr_set hW hw (qw_I_off _ _ _ _) z oq e1 (fun j => ?_)) (hS.put z oq (Nat.le_add_right _ _))
  simp only [updV, qa_av, qw_I, true_and]
  split <;> rfl
theorem qs_zast {a n : Nat} {i x : Int32} (hw : w[a]? = some (.inr (3, n))) (hin : vp_in i n) (hx : narrow .boolean (.int x) = .int x) (dg : decode cc pc = .ok (.bastore, 1)) (kk : qa_At l g (y, cc, nL, rt) d KC KS cells slots (pc + 1) lv st w (qw_I h a i.toNatClampNeg x) Z) : qa_At l g (y, cc, nL, rt) d KC KS cells slots pc lv (.int x :: .int i :: .ref (g.1 + a) :: st) w h Z := by
  intro p e s m args below meth c C H locs ls hl hW hS
  refine W.zast C.1 C.2.1 (hW.2 a _ hw) ((C.2.2.2.2.2.2.2.2.1.1.2 3 _ rfl).1 n (qa_av g.1 h a 3)) (fun q => by cases q) (by show ¬ (i < 0 ∨ (arrV _ _ _).slots.size ≤ _); rw [arrV_size]; exact hin) rfl rfl dg fun H1 e1 z oq => ?_
  rw [hx] at e1
  refine kk p e s m args below meth c C H1 _ ls hl (qa_arr_set hW hw (qw_I_off _ _ _ _) z oq e1 (fun j => ?_)) (hS.put z oq (Nat.le_add_right _ _))
  simp only [updV, qa_av, qw_I, true_and]
  split <;> rfl
theorem qs_alen {a n tc : Nat} {v : Int32} (htc : tc < 4) (hw : w[a]? = some (.inr (tc, n))) (hv : Int32.ofNat n = v) (dg : decode cc pc = .ok (.arraylength, 1)) (kk : qa_At l g (y, cc, nL, rt) d KC KS cells slots (pc + 1) lv (.int v :: st) w h Z) : qa_At l g (y, cc, nL, rt) d KC KS cells slots pc lv (.ref (g.1 + a) :: st) w h Z := by
  intro p e s m args below meth c C H locs ls hl hW hS
  have ht : ∃ ty, (qa_tys g)[tc]? = some (g.2.2.1 tc, ty) := by
    rcases (show tc = 0 ∨ tc = 1 ∨ tc = 2 ∨ tc = 3 by omega) with rfl | rfl | rfl | rfl <;> exact ⟨_, rfl⟩
  obtain ⟨ty, ht⟩ := ht
  exact W.alen C.1 C.2.1 (hW.2 a _ hw) ((C.2.2.2.2.2.2.2.2.1.1.2 tc _ ht).1 n (qa_av g.1 h a tc)) (by show (arrV _ _ _).slots.size.toInt32 = _; rw [arrV_size]; exact hv) rfl rfl dg (kk p e s m args below meth c C H locs ls hl hW hS)
/-- a call of an instance method: the words of the tables -/
def qa_cv (own : String) (idx : Nat) (M : qa_MI) (n : Nat) : Prop := Cond.methodLink own idx M.1 ∈ qw_tbl ∧ Cond.instanceMethod M.1 ∈ qw_tbl ∧ Cond.selects M.1.cls M.1 M.1 ∈ qw_tbl ∧ Cond.initialized M.1.cls ∈ qw_tbl ∧ Cond.code M.1 M.2.1 M.2.2.1 M.2.2.2 ∈ qw_tbl ∧ (M.1.cls ≠ "java/lang/invoke/MethodHandle" ∧ M.1.cls ≠ "java/lang/invoke/VarHandle" ∧ (parseMethodDescriptor M.1.desc).map (fun d => d.parameters.length) = some n) ∧ M.2.2.1 ≤ 21
def qa_cs (own : String) (idx : Nat) (M : qa_MI) (n : Nat) : Prop := Cond.methodLink own idx M.1 ∈ qw_tbl ∧ Cond.static M.1 ∈ qw_tbl ∧ Cond.initialized M.1.cls ∈ qw_tbl ∧ Cond.code M.1 M.2.1 M.2.2.1 M.2.2.2 ∈ qw_tbl ∧ (M.1.cls ≠ "java/lang/invoke/MethodHandle" ∧ M.1.cls ≠ "java/lang/invoke/VarHandle" ∧ (parseMethodDescriptor M.1.desc).map (fun d => d.parameters.length) = some n) ∧ M.2.2.1 ≤ 21
theorem qa_goodIn {M : qa_MI} (hc : Cond.code M.1 M.2.1 M.2.2.1 M.2.2.2 ∈ qw_tbl) : GoodIn qw_tbl (Cond.code M.1 M.2.1 M.2.2.1 M.2.2.2 :: qw_tbl) := by
  intro w hw
  rcases List.mem_cons.mp hw with rfl | hw
  · exact ⟨hc, good_of_word (qw_good _ hc)⟩
  · exact ⟨hw, good_of_word (qw_good _ hw)⟩
theorem qa_goodC {w : Cond} {ws : List Cond} (hw : w ∈ qw_tbl) (h : GoodIn qw_tbl ws) : GoodIn qw_tbl (w :: ws) := by
  intro v hv
  rcases List.mem_cons.mp hv with rfl | hv
  · exact ⟨hw, good_of_word (qw_good _ hw)⟩
  · exact h v hv
/-- behind a call -/
theorem qa_after {p : Program} {e : Env} {s : State} {m : MethodId} {args : Array Value} {below : List Frame} {meth : Method} {c : Code} {H : Heap} {locs : List Loc} {ls : Array Slot} {R : Room} {Q1 : qa_Po} {kc ks : Nat} {st0 rest : List Value} {a0 : Array Value} {Zt : State → Prop} (hr : va_Run p l e R s m args below meth c H locs cells slots kc ks (F0 m pc ls st0) rest (qa_Q g Q1 a0) (qa_A g)) (hS : va_S (qa_A g) s.heap H locs)
    (kk : ∀ (r : Option Value) (w2 : List qa_K) (h2 : qa_M) (H1 : Heap) (locs1 : List Loc), Q1 r w2 h2 → qa_H g w2 h2 H1 → va_S (qa_A g) s.heap H1 locs1 → W p l e R s m args below meth c H1 locs1 (cells + kc) (slots + ks) Zt (F0 m (pc + 3) ls (r.toList ++ rest))) : W p l e R s m args below meth c H locs cells slots Zt (F0 m pc ls st0) := by
  intro T hT X
  obtain ⟨v, st₀, t, T', L, h0, X', hL, e1, e2, ⟨r, w2, h2, hv, hq, hH, hz, hk⟩, stp⟩ := hr T hT X
  cases hv
  rw [h0] at hz hk
  obtain ⟨t2, a1, b1⟩ := kk v w2 h2 T'.heap (locs ++ L) hq (by rw [e1]; exact hH)
    ⟨Nat.le_trans hS.1 (by rw [e1]; exact hz), fun q h1 h2 => by rw [e1, hk q (Nat.lt_of_lt_of_le h1 hS.1) h2]; exact hS.2.1 q h1 h2, fun q hq => by
      rcases List.mem_append.mp hq with h | h
      · exact hS.2.2 q h
      · exact hL q h⟩ T' rfl X'
  exact ⟨t2, stp t2 a1, b1⟩
theorem qs_invV {y2 : MethodName} {cc2 : ByteArray} {nL2 : Nat} {rt2 : Option FieldType} {b ci idx n kc ks : Nat} {fks : List Nat} {r : vw_C} {As rest : List Value} {Q1 : qa_Po} (hM : qa_Met l g (y2, cc2, nL2, rt2) d kc ks (.ref (g.1 + b) :: As) w h Q1) (cv : qa_cv y.cls idx (y2, cc2, nL2, rt2) n) (hw : w[b]? = some (.inl (ci, fks))) (hc : qa_cl[ci]? = some r) (hcl : r.1 = y2.cls) (hn : As.length = n) (hroom : (rest.map fun v => v.category).sum ≤ 8) (dg : decode cc pc = .ok (.invokevirtual idx, 3)) (h1 : cells + kc ≤ KC) (h2 : slots + ks ≤ KS)
    (kk : ∀ (r : Option Value) (w2 : List qa_K) (h2 : qa_M), Q1 r w2 h2 → qa_At l g (y, cc, nL, rt) (d + 1) KC KS (cells + kc) (slots + ks) (pc + 3) lv (r.toList ++ rest) w2 h2 Z) : qa_At l g (y, cc, nL, rt) (d + 1) KC KS cells slots pc lv (As.reverse ++ .ref (g.1 + b) :: rest) w h Z := by
  intro p e s m args below meth c C H locs ls hl hW hS
  obtain ⟨hx, hb, hml, hr, hlk, hown, hnm, hts, hSt, hB⟩ := id C
  obtain ⟨c1, c2, c3, c4, c5, c6, c7⟩ := cv
  have hG := qa_goodC c1 (qa_goodC c2 (qa_goodC c3 (qa_goodC c4 (qa_goodIn (M := (y2, cc2, nL2, rt2)) c5))))
  obtain ⟨r2, k1, hlen, cell, q1, q2, q3, q4⟩ := hW.2 b _ hw
  have hr2 : r2 = r := Option.some.inj (k1.symm.trans hc)
  subst hr2
  refine qa_after (va_runV ⟨hx, hb, hml, hown, hts⟩ hM (cwV n hts hG rfl rfl rfl ⟨rfl, c6⟩ ⟨Nat.le_refl _, by show 8 + (nL2 + 11) + (41 * d + 32) ≤ 41 * (d + 1) + 32; simp only at c7; omega⟩) ⟨qa_blind g _ w h, ⟨cell, q1, by rw [q3]; rfl, by rw [q2, ← hcl]; exact (hSt.1.1 ci _ hc).2.1⟩, fun U hU hWm => ⟨rfl, by rw [hU]; exact hW, by rw [hU]; exact (hSt.kept hS.1 hS.2.1).warm hWm⟩⟩ rfl hn hl.1 rfl (lv_room hroom) dg ⟨h1, h2⟩) hS ?_
  intro r w2 h2 H1 locs1 hq hH hS1
  exact kk r w2 h2 hq p e s m args below meth c C H1 locs1 ls hl hH hS1
theorem qs_invS {y2 : MethodName} {cc2 : ByteArray} {nL2 : Nat} {rt2 : Option FieldType} {idx n kc ks : Nat} {As rest : List Value} {Q1 : qa_Po} (hM : qa_Met l g (y2, cc2, nL2, rt2) d kc ks As w h Q1) (cv : qa_cs y.cls idx (y2, cc2, nL2, rt2) n) (hn : As.length = n) (hroom : (rest.map fun v => v.category).sum ≤ 8) (dg : decode cc pc = .ok (.invokestatic idx, 3)) (h1 : cells + kc ≤ KC) (h2 : slots + ks ≤ KS)
    (kk : ∀ (r : Option Value) (w2 : List qa_K) (h2 : qa_M), Q1 r w2 h2 → qa_At l g (y, cc, nL, rt) (d + 1) KC KS (cells + kc) (slots + ks) (pc + 3) lv (r.toList ++ rest) w2 h2 Z) : qa_At l g (y, cc, nL, rt) (d + 1) KC KS cells slots pc lv (As.reverse ++ rest) w h Z := by
  intro p e s m args below meth c C H locs ls hl hW hS
  obtain ⟨hx, hb, hml, hr, hlk, hown, hnm, hts, hSt, hB⟩ := id C
  obtain ⟨c1, c2, c3, c4, c5, c6⟩ := cv
  have hG := qa_goodC c1 (qa_goodC c2 (qa_goodC c3 (qa_goodIn (M := (y2, cc2, nL2, rt2)) c4)))
  refine qa_after (va_runS ⟨hx, hb, hml, hown, hts⟩ hM (va_cwS n hts hG rfl rfl rfl c5 ⟨Nat.le_refl _, by show 8 + (nL2 + 11) + (41 * d + 32) ≤ 41 * (d + 1) + 32; simp only at c6; omega⟩) ⟨qa_blind g _ w h, fun U hU hWm => ⟨rfl, by rw [hU]; exact hW, by rw [hU]; exact (hSt.kept hS.1 hS.2.1).warm hWm⟩⟩ rfl hn hl.1 rfl (lv_room hroom) dg ⟨h1, h2⟩) hS ?_
  intro r w2 h2 H1 locs1 hq hH hS1
  exact kk r w2 h2 hq p e s m args below meth c C H1 locs1 ls hl hH hS1
/-- a static call of a private method of a nest mate -/
def qa_cn (own : String) (idx : Nat) (M : qa_MI) (n : Nat) (host : String) : Prop := Cond.methodLinkNest own idx M.1 host ∈ qa_nest ∧ Cond.static M.1 ∈ qw_tbl ∧ Cond.initialized M.1.cls ∈ qw_tbl ∧ Cond.code M.1 M.2.1 M.2.2.1 M.2.2.2 ∈ qw_tbl ∧ (M.1.cls ≠ "java/lang/invoke/MethodHandle" ∧ M.1.cls ≠ "java/lang/invoke/VarHandle" ∧ (parseMethodDescriptor M.1.desc).map (fun d => d.parameters.length) = some n) ∧ M.2.2.1 ≤ 21
theorem qs_invSN {y2 : MethodName} {cc2 : ByteArray} {nL2 : Nat} {rt2 : Option FieldType} {idx n kc ks : Nat} {host : String} {As rest : List Value} {Q1 : qa_Po} (hM : qa_Met l g (y2, cc2, nL2, rt2) d kc ks As w h Q1) (cv : qa_cn y.cls idx (y2, cc2, nL2, rt2) n host) (hn : As.length = n) (hroom : (rest.map fun v => v.category).sum ≤ 8) (dg : decode cc pc = .ok (.invokestatic idx, 3)) (h1 : cells + kc ≤ KC) (h2 : slots + ks ≤ KS)
    (kk : ∀ (r : Option Value) (w2 : List qa_K) (h2 : qa_M), Q1 r w2 h2 → qa_At l g (y, cc, nL, rt) (d + 1) KC KS (cells + kc) (slots + ks) (pc + 3) lv (r.toList ++ rest) w2 h2 Z) : qa_At l g (y, cc, nL, rt) (d + 1) KC KS cells slots pc lv (As.reverse ++ rest) w h Z := by
  intro p e s m args below meth c C H locs ls hl hW hS
  obtain ⟨hx, hb, hml, hr, hlk, hown, hnm, hts, hSt, hB⟩ := id C
  obtain ⟨c1, c2, c3, c4, c5, c6⟩ := cv
  refine qa_after (va_runSN ⟨hx, hb, hml, hown, hts⟩ hM ⟨va_cnB n hts (qa_goodIn (M := (y2, cc2, nL2, rt2)) c4) rfl rfl rfl (hSt.2.2.2.2.2.1 _ c1) (hts _ c3) c5 ⟨Nat.le_refl _, by show 8 + (nL2 + 11) + (41 * d + 32) ≤ 41 * (d + 1) + 32; simp only at c6; omega⟩, hts _ c2, trivial⟩ ⟨qa_blind g _ w h, fun U hU hWm => ⟨rfl, by rw [hU]; exact hW, by rw [hU]; exact (hSt.kept hS.1 hS.2.1).warm hWm⟩⟩ rfl hn hl.1 rfl (lv_room hroom) dg ⟨h1, h2⟩) hS ?_
  intro r w2 h2 H1 locs1 hq hH hS1
  exact kk r w2 h2 hq p e s m args below meth c C H1 locs1 ls hl hH hS1
/-- a call upon a text -/
theorem qs_invT {y2 : MethodName} {cc2 : ByteArray} {nL2 : Nat} {rt2 : Option FieldType} {i idx n kc ks : Nat} {As rest : List Value} {Q1 : qa_Po} (hi : i < 19) (hM : qa_Met l g (y2, cc2, nL2, rt2) d kc ks (.ref (g.2.2.2.1 i) :: As) w h Q1) (cv : qa_cv y.cls idx (y2, cc2, nL2, rt2) n) (hcl : y2.cls = "java/lang/String") (hn : As.length = n) (hroom : (rest.map fun v => v.category).sum ≤ 8) (dg : decode cc pc = .ok (.invokevirtual idx, 3)) (h1 : cells + kc ≤ KC) (h2 : slots + ks ≤ KS)
    (kk : ∀ (r : Option Value) (w2 : List qa_K) (h2 : qa_M), Q1 r w2 h2 → qa_At l g (y, cc, nL, rt) (d + 1) KC KS (cells + kc) (slots + ks) (pc + 3) lv (r.toList ++ rest) w2 h2 Z) : qa_At l g (y, cc, nL, rt) (d + 1) KC KS cells slots pc lv (As.reverse ++ .ref (g.2.2.2.1 i) :: rest) w h Z := by
  intro p e s m args below meth c C H locs ls hl hW hS
  obtain ⟨hx, hb, hml, hr, hlk, hown, hnm, hts, hSt, hB⟩ := id C
  obtain ⟨c1, c2, c3, c4, c5, c6, c7⟩ := cv
  have hG := qa_goodC c1 (qa_goodC c2 (qa_goodC c3 (qa_goodC c4 (qa_goodIn (M := (y2, cc2, nL2, rt2)) c5))))
  obtain ⟨cell, q1, q2, q3, -⟩ := (hSt.2.1 i hi).1.kept hS.2.1
  refine qa_after (va_runV ⟨hx, hb, hml, hown, hts⟩ hM (cwV n hts hG rfl rfl rfl ⟨rfl, c6⟩ ⟨Nat.le_refl _, by show 8 + (nL2 + 11) + (41 * d + 32) ≤ 41 * (d + 1) + 32; simp only at c7; omega⟩) ⟨qa_blind g _ w h, ⟨cell, q1, q2, by simp only; rw [hcl]; exact q3⟩, fun U hU hWm => ⟨rfl, by rw [hU]; exact hW, by rw [hU]; exact (hSt.kept hS.1 hS.2.1).warm hWm⟩⟩ rfl hn hl.1 rfl (lv_room hroom) dg ⟨h1, h2⟩) hS ?_
  intro r w2 h2 H1 locs1 hq hH hS1
  exact kk r w2 h2 hq p e s m args below meth c C H1 locs1 ls hl hH hS1
theorem qs_ireturn {Q : qa_Po} {v : Int32} (hrt : rt = some .int) (hc : cells ≤ KC) (hs : slots ≤ KS) (dg : decode cc pc = .ok (.ireturn, 1)) (hQ : Q (some (.int v)) w h) : qa_At l g (y, cc, nL, rt) d KC KS cells slots pc lv [.int v] w h (qa_ZM g KC KS Q) := fun p e s m args below meth c C H locs ls hl hW hS => W.widen hc hs (W.iret C.1 C.2.1 (C.2.2.2.1.trans hrt) (fun t ht hWm => ⟨_, w, h, rfl, hQ, by rw [ht]; exact hW, hS.F ht⟩) hS.2.2 dg C.2.2.2.2.1)
theorem qs_zreturn {Q : qa_Po} {v : Int32} {ty : FieldType} (hrt : rt = some ty) (hn : narrow ty (.int v) = .int v) (hc : cells ≤ KC) (hs : slots ≤ KS) (dg : decode cc pc = .ok (.ireturn, 1)) (hQ : Q (some (.int v)) w h) : qa_At l g (y, cc, nL, rt) d KC KS cells slots pc lv [.int v] w h (qa_ZM g KC KS Q) := fun p e s m args below meth c C H locs ls hl hW hS => W.widen hc hs (W.zret C.1 C.2.1 (C.2.2.2.1.trans hrt) hn (fun t ht hWm => ⟨_, w, h, rfl, hQ, by rw [ht]; exact hW, hS.F ht⟩) hS.2.2 dg C.2.2.2.2.1)
theorem qs_lreturn {Q : qa_Po} {v : Int64} (hrt : rt = some .long) (hc : cells ≤ KC) (hs : slots ≤ KS) (dg : decode cc pc = .ok (.lreturn, 1)) (hQ : Q (some (.long v)) w h) : qa_At l g (y, cc, nL, rt) d KC KS cells slots pc lv [.long v] w h (qa_ZM g KC KS Q) := fun p e s m args below meth c C H locs ls hl hW hS => W.widen hc hs (W.lret C.1 C.2.1 (C.2.2.2.1.trans hrt) (fun t ht hWm => ⟨_, w, h, rfl, hQ, by rw [ht]; exact hW, hS.F ht⟩) hS.2.2 dg C.2.2.2.2.1)
theorem qs_vreturn {Q : qa_Po} (hrt : rt = none) (hc : cells ≤ KC) (hs : slots ≤ KS) (dg : decode cc pc = .ok (.return_, 1)) (hQ : Q none w h) : qa_At l g (y, cc, nL, rt) d KC KS cells slots pc lv [] w h (qa_ZM g KC KS Q) := fun p e s m args below meth c C H locs ls hl hW hS => W.widen hc hs (W.vret C.1 C.2.1 (C.2.2.2.1.trans hrt) (fun t ht hWm => ⟨_, w, h, rfl, hQ, by rw [ht]; exact hW, hS.F ht⟩) hS.2.2 dg C.2.2.2.2.1)
theorem qs_areturn {Q : qa_Po} {a : Nat} {n : String} (hrt : rt = some (.object n)) (hc : cells ≤ KC) (hs : slots ≤ KS) (dg : decode cc pc = .ok (.areturn, 1)) (hQ : Q (some (.ref a)) w h) : qa_At l g (y, cc, nL, rt) d KC KS cells slots pc lv [.ref a] w h (qa_ZM g KC KS Q) := fun p e s m args below meth c C H locs ls hl hW hS => W.widen hc hs (W.aret C.1 C.2.1 (C.2.2.2.1.trans hrt) (Or.inl ⟨_, rfl⟩) (Or.inr ⟨_, rfl⟩) (fun t ht hWm => ⟨_, w, h, rfl, hQ, by rw [ht]; exact hW, hS.F ht⟩) hS.2.2 dg C.2.2.2.2.1)
theorem qs_ldcS {idx i : Nat} {tx : String} (hm : (y.cls, idx, tx, i) ∈ qa_sr) (dg : decode cc pc = .ok (.ldc idx, 2)) (k : qa_At l g (y, cc, nL, rt) d KC KS cells slots (pc + 2) lv (.ref (g.2.2.2.1 i) :: st) w h Z) : qa_At l g (y, cc, nL, rt) d KC KS cells slots pc lv st w h Z := fun p e s m args below meth c C H locs ls hl hW hS => va_ldcS C.1 C.2.1 C.2.2.2.2.2.1 (C.2.2.2.2.2.2.2.2.1.2.2.1 _ hm) dg (k p e s m args below meth c C H locs ls hl hW hS)
theorem qs_ldcwS {idx i : Nat} {tx : String} (hm : (y.cls, idx, tx, i) ∈ qa_sr) (dg : decode cc pc = .ok (.ldc_w idx, 3)) (k : qa_At l g (y, cc, nL, rt) d KC KS cells slots (pc + 3) lv (.ref (g.2.2.2.1 i) :: st) w h Z) : qa_At l g (y, cc, nL, rt) d KC KS cells slots pc lv st w h Z := by
  intro p e s m args below meth c C H locs ls hl hW hS T hT X
  obtain ⟨t, a1, b1⟩ := k p e s m args below meth c C H locs ls hl hW hS T hT X
  refine ⟨t, ?_, b1⟩
  have hZ := C.2.2.2.2.2.2.2.2.1.2.2.1 _ hm
  obtain ⟨k0, cf, i0, a', hk, hcf, hcp, -, hr, hev'⟩ := Cond.stringRef_spec C.2.2.2.2.2.1 hZ.1
  have hea : g.2.2.2.1 i = a' := by
    have := hZ.2.symm.trans hev'
    simpa using this
  obtain ⟨k', hk', he⟩ := X.warmed.alike.2.2 _ _ hk
  have hr' : k'.resolved[idx]? = some (some (.string a')) := by
    rcases X.warmed.entry hk hk' idx with h | ⟨h, -⟩
    · rw [h]; exact hr
    · rw [hr] at h; cases h
  rw [hea] at a1
  have hcb := C.2.1
  have hexec := C.1
  jvm_step X.here [hexec, hcb, dg, ldc_w.wp_string (e := e) (s := T) (f := F0 m pc ls st) X.here.top hk' (by rw [he]; exact hcf) hcp hr']
  exact a1
theorem qs_strval {i idx : Nat} (hi : i < 19) (hk : Cond.fieldLink y.cls idx "java/lang/String" "value" "[B" ∈ qw_tbl) (dg : decode cc pc = .ok (.getfield idx, 3)) (k : qa_At l g (y, cc, nL, rt) d KC KS cells slots (pc + 3) lv (.ref (g.2.2.2.2.1 i) :: st) w h Z) : qa_At l g (y, cc, nL, rt) d KC KS cells slots pc lv (.ref (g.2.2.2.1 i) :: st) w h Z := fun p e s m args below meth c C H locs ls hl hW hS => vk_getf C.1 C.2.1 (C.2.2.2.2.2.2.2.2.1.2.1 i hi).2.2.1 hS C.2.2.2.2.2.1 (C.2.2.2.2.2.2.2.1 _ hk) (fun _ q => q) dg (k p e s m args below meth c C H locs ls hl hW hS)
theorem qs_strcoder {i idx : Nat} (hi : i < 19) (hk : Cond.fieldLink y.cls idx "java/lang/String" "coder" "B" ∈ qw_tbl) (dg : decode cc pc = .ok (.getfield idx, 3)) (k : qa_At l g (y, cc, nL, rt) d KC KS cells slots (pc + 3) lv (.int 0 :: st) w h Z) : qa_At l g (y, cc, nL, rt) d KC KS cells slots pc lv (.ref (g.2.2.2.1 i) :: st) w h Z := fun p e s m args below meth c C H locs ls hl hW hS => vk_getf C.1 C.2.1 (C.2.2.2.2.2.2.2.2.1.2.1 i hi).2.1 hS C.2.2.2.2.2.1 (C.2.2.2.2.2.2.2.1 _ hk) (fun _ q => q) dg (k p e s m args below meth c C H locs ls hl hW hS)
theorem qs_strlenB {i : Nat} {v : Int32} (hi : i < 19) (hv : Int32.ofNat (qa_by.getD i []).length = v) (dg : decode cc pc = .ok (.arraylength, 1)) (k : qa_At l g (y, cc, nL, rt) d KC KS cells slots (pc + 1) lv (.int v :: st) w h Z) : qa_At l g (y, cc, nL, rt) d KC KS cells slots pc lv (.ref (g.2.2.2.2.1 i) :: st) w h Z := fun p e s m args below meth c C H locs ls hl hW hS => va_tlen C.1 C.2.1 (C.2.2.2.2.2.2.2.2.1.2.1 i hi).2.2.2 hS hv dg (k p e s m args below meth c C H locs ls hl hW hS)
theorem qs_strbyte {i : Nat} {x : Int32} (hi : i < 19) (hx : vp_in x (qa_by.getD i []).length) (dg : decode cc pc = .ok (.baload, 1)) (k : qa_At l g (y, cc, nL, rt) d KC KS cells slots (pc + 1) lv (.int ((qa_by.getD i []).getD x.toNatClampNeg 0) :: st) w h Z) : qa_At l g (y, cc, nL, rt) d KC KS cells slots pc lv (.int x :: .ref (g.2.2.2.2.1 i) :: st) w h Z := fun p e s m args below meth c C H locs ls hl hW hS => va_tb C.1 C.2.1 (C.2.2.2.2.2.2.2.2.1.2.1 i hi).2.2.2 hS hx rfl dg (k p e s m args below meth c C H locs ls hl hW hS)
theorem qs_compact {idx : Nat} (hk : Cond.fieldLink y.cls idx "java/lang/String" "COMPACT_STRINGS" "Z" ∈ qw_tbl) (dg : decode cc pc = .ok (.getstatic idx, 3)) (k : qa_At l g (y, cc, nL, rt) d KC KS cells slots (pc + 3) lv (.int 1 :: st) w h Z) : qa_At l g (y, cc, nL, rt) d KC KS cells slots pc lv st w h Z := fun p e s m args below meth c C H locs ls hl hW hS => va_gets C.1 C.2.1 C.2.2.2.2.2.2.2.2.1.2.2.2.1 hS C.2.2.2.2.2.1 (C.2.2.2.2.2.2.2.1 _ hk) (fun _ q => q) dg (k p e s m args below meth c C H locs ls hl hW hS)
theorem qs_sioobe {idx : Nat} (hk : Cond.fieldLink y.cls idx "jdk/internal/util/Preconditions" "SIOOBE_FORMATTER" "Ljava/util/function/BiFunction;" ∈ qw_tbl) (dg : decode cc pc = .ok (.getstatic idx, 3)) (k : ∀ v : Value, v.category = 1 → qa_At l g (y, cc, nL, rt) d KC KS cells slots (pc + 3) lv (v :: st) w h Z) : qa_At l g (y, cc, nL, rt) d KC KS cells slots pc lv st w h Z := by
  intro p e s m args below meth c C H locs ls hl hW hS
  rcases C.2.2.2.2.2.2.2.2.1.2.2.2.2.1 with hZ | ⟨t, hZ⟩
  · exact va_gets C.1 C.2.1 hZ hS C.2.2.2.2.2.1 (C.2.2.2.2.2.2.2.1 _ hk) (fun _ q => q) dg (k _ rfl p e s m args below meth c C H locs ls hl hW hS)
  · exact va_gets C.1 C.2.1 hZ hS C.2.2.2.2.2.1 (C.2.2.2.2.2.2.2.1 _ hk) (fun _ q => q) dg (k _ rfl p e s m args below meth c C H locs ls hl hW hS)
theorem qs_mmax {x x2 : Int32} {idx : Nat} (hk : Cond.methodLink y.cls idx Lib.Math.max.name ∈ qw_tbl) (h1 : Cond.static Lib.Math.max.name ∈ qw_tbl) (h2 : Cond.initialized "java/lang/Math" ∈ qw_tbl) (h3 : Cond.code Lib.Math.max.name Lib.Math.max.code 2 (some .int) ∈ qw_tbl) (hroom : (st.map fun v => v.category).sum ≤ 8) (hc : cells ≤ KC) (hs : slots ≤ KS) (dg : decode cc pc = .ok (.invokestatic idx, 3)) (k : qa_At l g (y, cc, nL, rt) (d + 1) KC KS cells slots (pc + 3) lv (.int (if x < x2 then x2 else x) :: st) w h Z) : qa_At l g (y, cc, nL, rt) (d + 1) KC KS cells slots pc lv (.int x2 :: .int x :: st) w h Z := fun p e s m args below meth c C H locs ls hl hW hS => va_mmax C.1 C.2.1 (C.2.2.1.trans hl.1.symm) C.2.2.2.2.2.1 (C.2.2.2.2.2.2.2.1 _ hk) (C.2.2.2.2.2.2.2.1 _ h1) (C.2.2.2.2.2.2.2.1 _ h2) (C.2.2.2.2.2.2.2.1 _ h3) (Nat.le_add_left _ _) (by show _ ≤ 41 * (d + 1) + 32; omega) hc hs dg (k p e s m args below meth c C H locs ls hl hW hS)
theorem qs_mmin {x x2 : Int32} {idx : Nat} (hk : Cond.methodLink y.cls idx Lib.Math.min.name ∈ qw_tbl) (h1 : Cond.static Lib.Math.min.name ∈ qw_tbl) (h2 : Cond.initialized "java/lang/Math" ∈ qw_tbl) (h3 : Cond.code Lib.Math.min.name Lib.Math.min.code 2 (some .int) ∈ qw_tbl) (hroom : (st.map fun v => v.category).sum ≤ 8) (hc : cells ≤ KC) (hs : slots ≤ KS) (dg : decode cc pc = .ok (.invokestatic idx, 3)) (k : qa_At l g (y, cc, nL, rt) (d + 1) KC KS cells slots (pc + 3) lv (.int (if x2 < x then x2 else x) :: st) w h Z) : qa_At l g (y, cc, nL, rt) (d + 1) KC KS cells slots pc lv (.int x2 :: .int x :: st) w h Z := fun p e s m args below meth c C H locs ls hl hW hS => va_mmin C.1 C.2.1 (C.2.2.1.trans hl.1.symm) C.2.2.2.2.2.1 (C.2.2.2.2.2.2.2.1 _ hk) (C.2.2.2.2.2.2.2.1 _ h1) (C.2.2.2.2.2.2.2.1 _ h2) (C.2.2.2.2.2.2.2.1 _ h3) (Nat.le_add_left _ _) (by show _ ≤ 41 * (d + 1) + 32; omega) hc hs dg (k p e s m args below meth c C H locs ls hl hW hS)
theorem qs_mabs {x : Int32} {idx : Nat} (hk : Cond.methodLink y.cls idx Lib.Math.abs.name ∈ qw_tbl) (h1 : Cond.static Lib.Math.abs.name ∈ qw_tbl) (h2 : Cond.initialized "java/lang/Math" ∈ qw_tbl) (h3 : Cond.code Lib.Math.abs.name Lib.Math.abs.code 1 (some .int) ∈ qw_tbl) (hroom : (st.map fun v => v.category).sum ≤ 8) (hc : cells ≤ KC) (hs : slots ≤ KS) (dg : decode cc pc = .ok (.invokestatic idx, 3)) (k : qa_At l g (y, cc, nL, rt) (d + 1) KC KS cells slots (pc + 3) lv (.int (if 0 ≤ x then x else 0 - x) :: st) w h Z) : qa_At l g (y, cc, nL, rt) (d + 1) KC KS cells slots pc lv (.int x :: st) w h Z := fun p e s m args below meth c C H locs ls hl hW hS => va_mabs C.1 C.2.1 (C.2.2.1.trans hl.1.symm) C.2.2.2.2.2.1 (C.2.2.2.2.2.2.2.1 _ hk) (C.2.2.2.2.2.2.2.1 _ h1) (C.2.2.2.2.2.2.2.1 _ h2) (C.2.2.2.2.2.2.2.1 _ h3) (Nat.le_add_left _ _) (by show _ ≤ 41 * (d + 1) + 32; omega) hc hs dg (k p e s m args below meth c C H locs ls hl hW hS)
/-- System.arraycopy(a, 0, b, 0, n) -/
theorem qs_copy {a b n1 n2 idx : Nat} {tc : Nat} {n : Int32} (k0 : Nat) (htc : tc = 0 ∨ tc = 1) (hw1 : w[a]? = some (.inr (tc, n1))) (hw2 : w[b]? = some (.inr (tc, n2))) (hk : Cond.methodLink y.cls idx arraycopyName ∈ qw_tbl) (h1 : Cond.native arraycopyName ∈ qw_tbl) (h2 : Cond.static arraycopyName ∈ qw_tbl) (h3 : Cond.initialized "java/lang/System" ∈ qw_tbl) (hn : ¬ n < 0) (hn0 : n.toNatClampNeg = k0) (hl1 : k0 ≤ n1) (hl2 : k0 ≤ n2) (hroom : (st.map fun v => v.category).sum ≤ 8) (hwd : nativeFrameWords "java/lang/System" "arraycopy" 5 ≤ 20) (dg : decode cc pc = .ok (.invokestatic idx, 3)) (k : qa_At l g (y, cc, nL, rt) (d + 1) KC KS cells slots (pc + 3) lv st w (qw_cI (qw_cJ h a 0 b 0 (if tc = 1 then k0 else 0)) a 0 b 0 (if tc = 0 then k0 else 0)) Z) : qa_At l g (y, cc, nL, rt) (d + 1) KC KS cells slots pc lv (.int n :: .int 0 :: .ref (g.1 + b) :: .int 0 :: .ref (g.1 + a) :: st) w h Z := by
  intro p e s m args below meth c C H locs ls hl hW hS
  obtain ⟨hx, hb, hml, hr, hlk, hown, hnm, hts, hSt, hB⟩ := id C
  intro T hT X
  have hc0 : H[g.1 + a]? = some (arrV (g.2.2.1 tc) n1 (qa_av g.1 h a tc)) := hW.2 a _ hw1
  have hc1 : H[g.1 + b]? = some (arrV (g.2.2.1 tc) n2 (qa_av g.1 h b tc)) := hW.2 b _ hw2
  have ht : ∃ ty, (qa_tys g)[tc]? = some (g.2.2.1 tc, ty) ∧ refKind ty = false ∧ ∀ z, fits ty (qa_av g.1 h a tc z) = true := by
    rcases htc with rfl | rfl
    · exact ⟨_, rfl, rfl, fun _ => rfl⟩
    · exact ⟨_, rfl, rfl, fun _ => rfl⟩
  obtain ⟨ty, ht, hprim, hfit⟩ := ht
  obtain ⟨-, kk0, hk0, cm0, hkk0⟩ := (hSt.1.2 tc _ ht).1 n1 (qa_av g.1 h a tc)
  obtain ⟨-, kk1, hk1, cm1, hkk1⟩ := (hSt.1.2 tc _ ht).1 n2 (qa_av g.1 h b tc)
  have nz : n.toInt = (k0 : Int) := by
    have hz0 : (0 : Int) ≤ n.toInt := by
      have := Int32.not_lt.mp hn
      simpa using Int32.le_iff_toInt_le.mp this
    rw [← hn0]
    show n.toInt = ((n.toInt.toNat : Nat) : Int)
    omega
  obtain ⟨vm', X', step⟩ := X.arraycopy hx hown (hts _ hk) (hts _ h1) (hts _ h2) (hts _ h3) (src := g.1 + a) (dst := g.1 + b) (cs := arrV (g.2.2.1 tc) n1 (qa_av g.1 h a tc)) (cd := arrV (g.2.2.1 tc) n2 (qa_av g.1 h b tc)) (srcPos := 0) (destPos := 0) (n := n) (by rw [hT]; exact hc0) (by rw [hT]; exact hc1)
    (fun _ h => by cases h) (fun _ h => by cases h) (fun h => by cases h) (fun h => by cases h) hk0 hk1 hkk0 hkk1 (by simp [hprim]) (by decide) (by decide) hn
    (by rw [nz, arrV_size]; show ¬ (0 : Int) + _ > _; omega)
    (by rw [nz, arrV_size]; show ¬ (0 : Int) + _ > _; omega)
    (fun vm₁ _ i hi => by
      have e : (arrV (g.2.2.1 tc) n1 (qa_av g.1 h a tc)).slots.getD (Int32.toNatClampNeg 0 + i) .null = qa_av g.1 h a tc (0 + i) := by
        rw [Array.getD_eq_getD_getElem?, show Int32.toNatClampNeg 0 + i = 0 + i from rfl, arrV_read _ _ (by rw [hn0] at hi; omega)]
        rfl
      refine ⟨?_, ?_⟩
      · rw [e]
        exact hfit _
      · rw [e]
        rcases htc with rfl | rfl <;> exact trivial)
    (g := F0 m pc ls (.int n :: .int 0 :: .ref (g.1 + b) :: .int 0 :: .ref (g.1 + a) :: st)) rfl (hl.1.trans hml.symm) (rest := st) rfl (by rw [hb]; exact dg) (Nat.le_add_left _ _) (by show 2 * 0 + _ + _ ≤ 41 * (d + 1) + 32; omega)
  have e1 : copied (arrV (g.2.2.1 tc) n1 (qa_av g.1 h a tc)) (arrV (g.2.2.1 tc) n2 (qa_av g.1 h b tc)) 0 0 n = arrV (g.2.2.1 tc) n2 (va_cpy (qa_av g.1 h a tc) (qa_av g.1 h b tc) 0 0 n.toNatClampNeg) := va_copied (fun z => z) (g.2.2.1 tc) (g.2.2.1 tc) (qa_av g.1 h a tc) (qa_av g.1 h b tc) (sp := Int32.toNatClampNeg 0) (dp := Int32.toNatClampNeg 0) (n := n.toNatClampNeg) (n0 := n1) (n1 := n2) (by rw [hn0]; show 0 + k0 ≤ n1; omega)
  rw [hn0] at e1
  rw [e1] at X' step
  have hlt : g.1 + b < H.size := (Array.getElem?_eq_some_iff.mp hc1).1
  have hheap : ((T.setVm vm').setCell (g.1 + b) (arrV (g.2.2.1 tc) n2 (va_cpy (qa_av g.1 h a tc) (qa_av g.1 h b tc) 0 0 k0))).heap = H.setIfInBounds (g.1 + b) (arrV (g.2.2.1 tc) n2 (va_cpy (qa_av g.1 h a tc) (qa_av g.1 h b tc) 0 0 k0)) := by rw [← hT]; rfl
  have oq : ∀ q : Nat, q ≠ g.1 + b → (H.setIfInBounds (g.1 + b) (arrV (g.2.2.1 tc) n2 (va_cpy (qa_av g.1 h a tc) (qa_av g.1 h b tc) 0 0 k0)))[q]? = H[q]? := fun q hq => by simp [Array.getElem?_setIfInBounds, Ne.symm hq]
  have hH2 : qa_H g w (qw_cI (qw_cJ h a 0 b 0 (if tc = 1 then k0 else 0)) a 0 b 0 (if tc = 0 then k0 else 0)) (H.setIfInBounds (g.1 + b) (arrV (g.2.2.1 tc) n2 (va_cpy (qa_av g.1 h a tc) (qa_av g.1 h b tc) 0 0 k0))) := by
    refine qa_H_set hW (fun c hc => ⟨?_, ?_, rfl⟩) (by simp) oq hw2 ?_
    · funext j; simp [qw_cI, qw_cJ, hc]
    · funext j; simp [qw_cI, qw_cJ, hc]
    · show (H.setIfInBounds (g.1 + b) _)[g.1 + b]? = some (arrV _ _ _)
      rw [show (H.setIfInBounds (g.1 + b) (arrV (g.2.2.1 tc) n2 (va_cpy (qa_av g.1 h a tc) (qa_av g.1 h b tc) 0 0 k0)))[g.1 + b]? = some (arrV (g.2.2.1 tc) n2 (va_cpy (qa_av g.1 h a tc) (qa_av g.1 h b tc) 0 0 k0)) by simp [Array.getElem?_setIfInBounds, hlt]]
      congr 2
      funext j
      rcases htc with rfl | rfl
      · simp only [va_cpy, qa_av, qw_cI, qw_cJ]
        by_cases hj : j < k0 <;> simp [hj]
      · simp only [va_cpy, qa_av, qw_cI, qw_cJ]
        by_cases hj : j < k0 <;> simp [hj]
  obtain ⟨t, a1, b1⟩ := k p e s m args below meth c C _ _ ls hl hH2 ⟨by simp; exact hS.1, fun q g1 g2 => by
      rw [oq q (fun e => g2 (by rw [e]; exact Nat.le_add_right _ _))]
      exact hS.2.1 q g1 g2, fun q hq => by
      rcases List.mem_append.mp hq with h | h
      · exact hS.2.2 q h
      · obtain ⟨z, -, hz⟩ := List.mem_map.mp h
        rw [← hz]
        exact Nat.le_add_right _ _⟩ _ hheap X'
  exact ⟨t, step t a1, b1⟩
/-- a world with one more cell -/
theorem qa_H_push {kd : qa_K} {h2 : qa_M} {H H1 : Heap} (hW : qa_H g w h H) (ho : qa_off w.length h h2) (hz : H1.size = H.size + 1) (oq : ∀ q, q < H.size → H1[q]? = H[q]?) (ha : qa_at g h2 w.length kd H1) : qa_H g (w ++ [kd]) h2 H1 := by
  refine ⟨by rw [hz, hW.1, List.length_append]; rfl, fun b kd2 hb => ?_⟩
  by_cases e : b < w.length
  · rw [List.getElem?_append_left e] at hb
    exact qa_at_eq (ho b (by omega)) (oq _ (by rw [hW.1]; omega)) (hW.2 b kd2 hb)
  · rw [List.getElem?_append_right (by omega)] at hb
    have hz2 : b - w.length < 1 := (List.getElem?_eq_some_iff.mp hb).1
    have e2 : b = w.length := by omega
    subst e2
    rw [Nat.sub_self] at hb
    cases hb
    exact ha
theorem qs_newa {tc N : Nat} {n : Int32} {atype : ArrayType} {h2 : qa_M} (htc : (qa_tys g)[tc]? = some (g.2.2.1 tc, newarray.typeOf atype)) (hra : ∀ (U : State) (cA : ClassId), va_RA U cA (newarray.typeOf atype) → U.vm.findClass ("[" ++ (newarray.typeOf atype).toString) = some cA) (harr : Cond.arrayClass (newarray.typeOf atype) ∈ qw_tbl) (hn : ¬ n < 0) (hN : n.toNatClampNeg = N) (hby : N * componentBytes (newarray.typeOf atype) ≤ 536870912) (h1 : cells + 1 ≤ KC) (h3 : slots + N ≤ KS) (ho : qa_off w.length h h2) (hz : ∀ j, qa_av g.1 h2 w.length tc j = defaultValue (newarray.typeOf atype)) (dg : decode cc pc = .ok (.newarray atype, 2)) (kk : qa_At l g (y, cc, nL, rt) d KC KS (cells + 1) (slots + N) (pc + 2) lv (.ref (g.1 + w.length) :: st) (w ++ [.inr (tc, N)]) h2 Z) : qa_At l g (y, cc, nL, rt) d KC KS cells slots pc lv (.int n :: st) w h Z := by
  intro p e s m args below meth c C H locs ls hl hW hS
  obtain ⟨hx, hb, hml, hr, hlk, hown, hnm, hts, hSt, hB⟩ := id C
  refine va_newaK hx hb (hts _ harr) rfl dg rfl hn hN hby h1 h3 hW.1 fun H1 cA e1 z1 o1 hAr hNm => ?_
  have hcA : cA = g.2.2.1 tc := Option.some.inj (hNm.symm.trans (hra s _ (hSt.1.2 tc _ htc).2))
  subst hcA
  refine kk p e s m args below meth c C H1 locs ls hl (qa_H_push hW ho (by rw [z1, hW.1]) (fun q hq => o1 q (by rw [← hW.1]; exact hq)) ?_) ⟨by have := hS.1; have := hW.1; omega, fun q q1 q2 => by
    rw [o1 q (by have := hS.1; have := hW.1; omega)]
    exact hS.2.1 q q1 q2, hS.2.2⟩
  show H1[g.1 + w.length]? = some (arrV _ _ _)
  rw [e1]
  congr 2
  funext j
  exact (hz j).symm
theorem qs_new {ci idx : Nat} {fks : List Nat} {r : vw_C} {h2 : qa_M} (hc : qa_cl[ci]? = some r) (hok : qa_clok r) (hlen : fks.length = r.2.2) (ty : Nat → FieldType) (hty : ∀ k, k < r.2.2 → parseFieldDescriptor (r.2.1 k).2.2.1 = some (ty k)) (hk : Cond.classLink y.cls idx r.1 ∈ qw_tbl) (hi : Cond.instantiable r.1 r.2.2 ∈ qw_tbl) (hini : Cond.initialized r.1 ∈ qw_tbl) (h1 : cells + 1 ≤ KC) (h3 : slots + r.2.2 ≤ KS) (ho : qa_off w.length h h2) (hz : ∀ j, j < r.2.2 → defaultValue (ty j) = qa_fv g.1 h2 w.length j (fks.getD j 0)) (dg : decode cc pc = .ok (.new idx, 3)) (kk : qa_At l g (y, cc, nL, rt) d KC KS (cells + 1) (slots + r.2.2) (pc + 3) lv (.ref (g.1 + w.length) :: st) (w ++ [.inl (ci, fks)]) h2 Z) : qa_At l g (y, cc, nL, rt) d KC KS cells slots pc lv st w h Z := by
  intro p e s m args below meth c C H locs ls hl hW hS
  obtain ⟨hx, hb, hml, hr, hlk, hown, hnm, hts, hSt, hB⟩ := id C
  have hKn := hSt.1.1 ci _ hc
  refine W.newcK hx hb hown (hts _ hk) (hts _ hi) (hts _ hini) rfl dg h1 h3 hKn.2.1 hW.1 fun H1 kC hkC e1 z1 o1 => ?_
  exact kk p e s m args below meth c C H1 locs ls hl (qa_H_push hW ho (by rw [z1, hW.1]) (fun q hq => o1 q (by rw [← hW.1]; exact hq)) ⟨r, hc, hlen, (u_born ty hts hok.1 hKn hkC e1 hty).to hz⟩) ⟨by have := hS.1; have := hW.1; omega, fun q q1 q2 => by
    rw [o1 q (by have := hS.1; have := hW.1; omega)]
    exact hS.2.1 q q1 q2, hS.2.2⟩
theorem qs_newq {tc N idx : Nat} {n : Int32} {R : String} {h2 : qa_M} (htc : (qa_tys g)[tc]? = some (g.2.2.1 tc, .object R)) (hav : ∀ s : State, qa_S g s s.heap → va_AO R s) (htc4 : 4 ≤ tc) (hk : Cond.classLink y.cls idx R ∈ qw_tbl) (hn : ¬ n < 0) (hN : n.toNatClampNeg = N) (hby : N * 4 ≤ 536870912) (h1 : cells + 1 ≤ KC) (h3 : slots + N ≤ KS) (ho : qa_off w.length h h2) (hz : ∀ j, h2.2.2.1 w.length j = 0) (dg : decode cc pc = .ok (.anewarray idx, 3)) (kk : qa_At l g (y, cc, nL, rt) d KC KS (cells + 1) (slots + N) (pc + 3) lv (.ref (g.1 + w.length) :: st) (w ++ [.inr (tc, N)]) h2 Z) : qa_At l g (y, cc, nL, rt) d KC KS cells slots pc lv (.int n :: st) w h Z := by
  intro p e s m args below meth c C H locs ls hl hW hS
  obtain ⟨hx, hb, hml, hr, hlk, hown, hnm, hts, hSt, hB⟩ := id C
  subst hN
  refine W.anew hx hb hown (hts _ hk) (va_AO.use (hav s hSt)) rfl dg rfl hn hby h1 h3 fun cA kA comp f1 f2 f3 f4 => ?_
  generalize hH1 : H.push ({ cls := cA, slots := Array.replicate n.toNatClampNeg .null, vm := .none } : Cell) = H1
  have z1 : H1.size = H.size + 1 := by rw [← hH1, Array.size_push]
  have e1 : H1[H.size]? = some (arrV cA n.toNatClampNeg (fun _ => .null)) := by rw [← hH1, Array.getElem?_push_size, ← arrV_new]
  have o1 : ∀ q : Nat, q < H.size → H1[q]? = H[q]? := fun q hq => by rw [← hH1, Array.getElem?_push, if_neg (Nat.ne_of_lt hq)]
  obtain ⟨kA2, comp2, -, -, -, k4⟩ := (hSt.1.2 tc _ htc).2
  have hcA : cA = g.2.2.1 tc := Option.some.inj (f1.symm.trans k4)
  subst hcA
  have hat : qa_at g h2 w.length (.inr (tc, n.toNatClampNeg)) H1 := by
    show H1[g.1 + w.length]? = some (arrV _ _ _)
    rw [← hW.1, e1]
    congr 2
    funext j
    obtain ⟨t2, rfl⟩ : ∃ t2, tc = t2 + 4 := ⟨tc - 4, by omega⟩
    show Value.null = qa_rv g.1 (h2.2.2.1 w.length j)
    rw [hz]
    rfl
  have hfr : H.size = g.1 + w.length := hW.1
  rw [hfr]
  exact kk p e s m args below meth c C H1 locs ls hl (qa_H_push hW ho z1 o1 hat) ⟨by have := hS.1; omega, fun q q1 q2 => by
    rw [o1 q (by have := hS.1; omega)]
    exact hS.2.1 q q1 q2, hS.2.2⟩
theorem qs_aast {a b n tc ci : Nat} {i : Int32} {r : vw_C} {fks : List Nat} {R : String} (htc : (qa_tys g)[tc]? = some (g.2.2.1 tc, .object R)) (htc4 : 4 ≤ tc) (hw : w[a]? = some (.inr (tc, n))) (hv : w[b]? = some (.inl (ci, fks))) (hc : qa_cl[ci]? = some r) (hR : r.1 = R) (hin : vp_in i n) (dg : decode cc pc = .ok (.aastore, 1)) (kk : qa_At l g (y, cc, nL, rt) d KC KS cells slots (pc + 1) lv st w (qw_R h a i.toNatClampNeg (b + 1)) Z) : qa_At l g (y, cc, nL, rt) d KC KS cells slots pc lv (.ref (g.1 + b) :: .int i :: .ref (g.1 + a) :: st) w h Z := by
  intro p e s m args below meth c C H locs ls hl hW hS
  obtain ⟨hx, hb, hml, hr, hlk, hown, hnm, hts, hSt, hB⟩ := id C
  subst hR
  have h0 : ¬ i < 0 := fun q => hin (Or.inl q)
  obtain ⟨r2, hr2, hlen2, cellV, g1, g2, g3, -⟩ := hW.2 b _ hv
  have hcls := (hSt.1.1 ci r hc).2
  obtain ⟨kA, comp, k1, k2, k3, -⟩ := (hSt.1.2 tc _ htc).2
  have hcomp : comp = g.2.1.1 ci := Option.some.inj (k3.symm.trans hcls.1)
  subst hcomp
  obtain ⟨kC, hkC, -⟩ := hcls.2
  refine W.aast hx hb (hW.2 a _ hw) (fun q h => by cases h) (fun h => by cases h) k1 k2 rfl hkC ⟨h0, by show _ < (arrV _ _ _).slots.size; rw [arrV_size]; exact qa_lt_of hin⟩ g1 (fun q h => by rw [g3] at h; cases h) (by rw [g2]; exact hkC) (by rw [g2]; exact va_assign hcls) rfl rfl dg fun H1 e1 z oq => ?_
  refine kk p e s m args below meth c C H1 _ ls hl (qa_arr_set hW hw (qw_R_off _ _ _ _) z oq e1 (fun j => ?_)) (hS.put z oq (Nat.le_add_right _ _))
  obtain ⟨t2, rfl⟩ : ∃ t2, tc = t2 + 4 := ⟨tc - 4, by omega⟩
  show updV (fun j => qa_rv g.1 (h.2.2.1 a j)) i.toNatClampNeg (.ref (g.1 + b)) j = qa_rv g.1 ((qw_R h a i.toNatClampNeg (b + 1)).2.2.1 a j)
  simp only [updV, qw_R, true_and]
  split <;> rfl
theorem qs_objInit {a idx : Nat} (hk : Cond.methodLink y.cls idx Lib.objectInit ∈ qw_tbl) (h1 : Cond.instanceMethod Lib.objectInit ∈ qw_tbl) (h2 : Cond.code Lib.objectInit ⟨#[0xb1]⟩ 1 none ∈ qw_tbl) (hroom : (st.map fun v => v.category).sum ≤ 8) (dg : decode cc pc = .ok (.invokespecial idx, 3)) (kk : qa_At l g (y, cc, nL, rt) (d + 1) KC KS cells slots (pc + 3) lv st w h Z) : qa_At l g (y, cc, nL, rt) (d + 1) KC KS cells slots pc lv (.ref a :: st) w h Z := by
  intro p e s m args below meth c C H locs ls hl hW hS
  exact W.objInit C.1 C.2.1 C.2.2.2.2.2.1 (C.2.2.2.2.2.2.2.1 _ hk) (C.2.2.2.2.2.2.2.1 _ h1) (C.2.2.2.2.2.2.2.1 _ h2) rfl (hl.1.trans C.2.2.1.symm) rfl dg (Nat.le_add_left _ _) (by show 2 * 0 + _ + 12 ≤ 41 * (d + 1) + 32; omega) (kk p e s m args below meth c C H locs ls hl hW hS)
/-- the script's ints, its length -/
theorem qs_sld {i : Int32} (hi : vp_in i g.2.2.2.2.2.2.1) (dg : decode cc pc = .ok (.iaload, 1)) (k : qa_At l g (y, cc, nL, rt) d KC KS cells slots (pc + 1) lv (.int (g.2.2.2.2.2.2.2 i.toNatClampNeg) :: st) w h Z) : qa_At l g (y, cc, nL, rt) d KC KS cells slots pc lv (.int i :: .ref g.2.2.2.2.2.1 :: st) w h Z := fun p e s m args below meth c C H locs ls hl hW hS => va_sld C.1 C.2.1 C.2.2.2.2.2.2.2.2.1.2.2.2.2.2.2.2.2.2.2 (Nat.lt_of_lt_of_le C.2.2.2.2.2.2.2.2.1.2.2.2.2.2.2.2.2.1 C.2.2.2.2.2.2.2.2.2) (Nat.not_le.mpr C.2.2.2.2.2.2.2.2.1.2.2.2.2.2.2.2.2.1) hS hi dg (k p e s m args below meth c C H locs ls hl hW hS)
theorem qs_slen (dg : decode cc pc = .ok (.arraylength, 1)) (k : qa_At l g (y, cc, nL, rt) d KC KS cells slots (pc + 1) lv (.int (Int32.ofNat g.2.2.2.2.2.2.1) :: st) w h Z) : qa_At l g (y, cc, nL, rt) d KC KS cells slots pc lv (.ref g.2.2.2.2.2.1 :: st) w h Z := fun p e s m args below meth c C H locs ls hl hW hS => va_slen C.1 C.2.1 C.2.2.2.2.2.2.2.2.1.2.2.2.2.2.2.2.2.2.2 (Nat.lt_of_lt_of_le C.2.2.2.2.2.2.2.2.1.2.2.2.2.2.2.2.2.1 C.2.2.2.2.2.2.2.2.2) (Nat.not_le.mpr C.2.2.2.2.2.2.2.2.1.2.2.2.2.2.2.2.2.1) hS dg (k p e s m args below meth c C H locs ls hl hW hS)
end qh_sec
