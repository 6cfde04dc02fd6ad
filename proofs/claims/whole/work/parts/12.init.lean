def qa_layD : List qa_K := [.inl (10, [2, 2, 2, 2, 2, 0, 2, 2, 2, 2, 2, 2, 2, 0, 0]), .inl (8, [2, 0, 0, 0, 0, 0, 0, 0]), .inr (0, 400), .inl (7, [2, 0, 2, 0, 0]), .inl (2, [0, 0, 0, 0, 0, 0, 1, 1, 2, 2, 2, 2, 2]), .inr (0, 8), .inr (0, 8), .inr (1, 8), .inr (1, 6), .inr (0, 4), .inr (0, 50), .inr (4, 4), .inr (3, 4), .inr (5, 4), .inl (2, [0, 0, 0, 0, 0, 0, 1, 1, 2, 2, 2, 2, 2]), .inr (0, 8), .inr (0, 8), .inr (1, 8), .inr (1, 6), .inr (0, 4), .inl (3, [2, 2, 0, 0, 0, 0]), .inl (5, [2, 2, 0, 0]), .inl (6, [2, 2, 2, 2, 0, 2, 2, 0, 0, 2, 2, 2, 0, 2, 2, 1, 2]), .inr (1, 216), .inr (1, 4), .inr (0, 16), .inr (0, 4), .inr (1, 4), .inr (1, 10), .inr (0, 10), .inr (0, 10), .inr (0, 4), .inr (1, 4), .inr (0, 5), .inl (1, [0, 2, 2, 2, 0, 2, 2]), .inr (0, 1024), .inr (0, 144), .inr (0, 5), .inr (1, 37), .inr (0, 37), .inl (0, [0, 2, 2, 2, 0, 0, 0, 0, 2, 2, 2, 2, 0, 0, 0, 0]), .inr (1, 36), .inr (0, 36), .inr (0, 576), .inr (0, 0), .inr (0, 8), .inr (0, 8), .inr (0, 8), .inl (9, [2, 2]), .inr (0, 64), .inr (0, 2048), .inl (7, [2, 0, 2, 0, 0]), .inl (2, [0, 0, 0, 0, 0, 0, 1, 1, 2, 2, 2, 2, 2]), .inr (0, 8), .inr (0, 8), .inr (1, 8), .inr (1, 6), .inr (0, 4), .inr (0, 50), .inl (7, [2, 0, 2, 0, 0]), .inl (2, [0, 0, 0, 0, 0, 0, 1, 1, 2, 2, 2, 2, 2]), .inr (0, 8), .inr (0, 8), .inr (1, 8), .inr (1, 6), .inr (0, 4), .inr (0, 50), .inl (7, [2, 0, 2, 0, 0]), .inl (2, [0, 0, 0, 0, 0, 0, 1, 1, 2, 2, 2, 2, 2]), .inr (0, 8), .inr (0, 8), .inr (1, 8), .inr (1, 6), .inr (0, 4), .inr (0, 50), .inl (7, [2, 0, 2, 0, 0]), .inl (2, [0, 0, 0, 0, 0, 0, 1, 1, 2, 2, 2, 2, 2]), .inr (0, 8), .inr (0, 8), .inr (1, 8), .inr (1, 6), .inr (0, 4), .inr (0, 50), .inl (4, [0, 2, 2, 2, 0, 2, 2, 2, 0, 2, 2]), .inr (0, 12), .inr (0, 12), .inr (0, 12), .inr (0, 12), .inr (0, 13), .inr (0, 400), .inr (1, 61), .inr (0, 7), .inl (4, [0, 2, 2, 2, 0, 2, 2, 2, 0, 2, 2]), .inr (0, 12), .inr (0, 12), .inr (0, 12), .inr (0, 12), .inr (0, 13), .inr (0, 400), .inr (1, 61), .inr (0, 7), .inl (4, [0, 2, 2, 2, 0, 2, 2, 2, 0, 2, 2]), .inr (0, 12), .inr (0, 12), .inr (0, 12), .inr (0, 12), .inr (0, 13), .inr (0, 400), .inr (1, 61), .inr (0, 7), .inl (4, [0, 2, 2, 2, 0, 2, 2, 2, 0, 2, 2]), .inr (0, 12), .inr (0, 12), .inr (0, 12), .inr (0, 12), .inr (0, 13), .inr (0, 400), .inr (1, 61), .inr (0, 7), .inl (11, [0, 2, 2, 2, 2, 2, 2, 2, 2, 2, 2, 2, 2, 2, 2, 2, 2, 2, 2, 2, 0, 0, 0, 0, 0, 0, 0, 0, 0, 0, 2, 2, 2, 2, 2, 2, 2, 2, 2, 2, 2, 2, 2, 2, 2, 2, 2, 2, 0, 0, 0, 0, 2, 2, 2, 2, 2, 2, 2, 2, 2, 2, 0, 0]), .inr (0, 8), .inr (0, 36), .inr (0, 8), .inr (0, 8), .inr (0, 6), .inr (0, 6), .inr (0, 4), .inr (0, 10), .inr (0, 10), .inr (0, 10), .inr (0, 10), .inr (0, 10), .inr (0, 5), .inr (0, 36), .inr (0, 8), .inr (0, 8), .inr (0, 6), .inr (0, 6), .inr (0, 4), .inr (2, 400), .inr (0, 1200), .inr (0, 1200), .inr (0, 4), .inr (0, 48), .inr (0, 48), .inr (0, 48), .inr (0, 48), .inr (0, 48), .inr (0, 402), .inr (1, 7), .inr (1, 300), .inr (0, 4), .inr (0, 4), .inr (0, 16), .inr (1, 4), .inr (1, 10), .inr (1, 36), .inr (0, 1024), .inr (0, 8), .inr (0, 16384), .inr (0, 576), .inr (0, 36), .inr (0, 36), .inr (0, 64), .inr (0, 2048), .inr (0, 520), .inr (3, 4)]
/-! THE TIME OF MAKING: the world is the first i cells of the layout, their references as they are set -/
def qL (i : Nat) : List qa_K := qa_layD.take i
theorem qL_at {a i : Nat} {kd : qa_K} (e : qa_layD[a]? = some kd) (h : a < i) : (qL i)[a]? = some kd := by
  unfold qL
  rw [List.getElem?_take_of_lt h]
  exact e
theorem qL_len {i : Nat} {kd : qa_K} (e : qa_layD[i]? = some kd) : (qL i).length = i := by
  have := (List.getElem?_eq_some_iff.mp e).1
  unfold qL
  rw [List.length_take]
  omega
theorem qL_succ {i : Nat} {kd : qa_K} (e : qa_layD[i]? = some kd) : qL i ++ [kd] = qL (i + 1) := by
  obtain ⟨h, e⟩ := List.getElem?_eq_some_iff.mp e
  unfold qL
  rw [← List.take_append_getElem h, e]
/-- a new cell's row: nothing -/
def qw_z (h : qa_M) (n : Nat) : qa_M := (fun b j => if b = n then 0 else h.1 b j, fun b j => if b = n then 0 else h.2.1 b j, fun b j => if b = n then 0 else h.2.2.1 b j, h.2.2.2)
theorem qw_z_off (h : qa_M) (n : Nat) : qa_off n h (qw_z h n) := fun b e => ⟨by funext j; simp [qw_z, e], by funext j; simp [qw_z, e], by funext j; simp [qw_z, e]⟩
def qv_At (l : Launch) (g : qa_G) (M : qa_MI) (d KC KS cells slots i pc : Nat) (lv : List (Nat × Value)) (st : List Value) (h : qa_M) (r : Option Value) (i2 : Nat) (h2 : qa_M) : Prop := qa_At l g M d KC KS cells slots pc lv st (qL i) h (qa_ZM g KC KS (fun r1 w1 h1 => r1 = r ∧ w1 = qL i2 ∧ h1 = h2))
def qv_Met (l : Launch) (g : qa_G) (M : qa_MI) (d KC KS : Nat) (As : List Value) (i : Nat) (h : qa_M) (r : Option Value) (i2 : Nat) (h2 : qa_M) : Prop := qa_Met l g M d KC KS As (qL i) h (fun r1 w1 h1 => r1 = r ∧ w1 = qL i2 ∧ h1 = h2)
theorem qv_Met.of {l : Launch} {g : qa_G} {y : MethodName} {cc : ByteArray} {nL : Nat} {rt : Option FieldType} {d KC KS : Nat} {As : List Value} {i i2 : Nat} {h h2 : qa_M} {r : Option Value} (hy : plainFor y = true) (hn : (lg_sl As).length ≤ nL) (k : qv_At l g (y, cc, nL, rt) d KC KS 0 0 i 0 (lv_args 0 As) [] h r i2 h2) : qv_Met l g (y, cc, nL, rt) d KC KS As i h r i2 h2 := qa_Met.of hy hn k
def qd_def : Nat → Value
  | 0 => .int 0
  | 1 => .long 0
  | _ => .null
theorem qd_fv (B : Nat) (h : qa_M) (n j fk : Nat) (e : fk < 3) : qa_fv B (qw_z h n) n j fk = qd_def fk := by
  match fk, e with
  | 0, _ => simp [qa_fv, qw_z, qd_def]
  | 1, _ => simp [qa_fv, qw_z, qd_def]
  | 2, _ => simp [qa_fv, qw_z, qd_def, qa_rv]
theorem wd_Land_0 {a : Nat} (e : qLand a) : qa_layD[a]? = some (.inl (2, [0, 0, 0, 0, 0, 0, 1, 1, 2, 2, 2, 2, 2])) := by
  rcases e with rfl | rfl | rfl | rfl | rfl | rfl <;> rfl
theorem wd_Land_1 {a : Nat} (e : qLand a) : qa_layD[a + 1]? = some (.inr (0, 8)) := by
  rcases e with rfl | rfl | rfl | rfl | rfl | rfl <;> rfl
theorem wd_Land_2 {a : Nat} (e : qLand a) : qa_layD[a + 2]? = some (.inr (0, 8)) := by
  rcases e with rfl | rfl | rfl | rfl | rfl | rfl <;> rfl
theorem wd_Land_3 {a : Nat} (e : qLand a) : qa_layD[a + 3]? = some (.inr (1, 8)) := by
  rcases e with rfl | rfl | rfl | rfl | rfl | rfl <;> rfl
theorem wd_Land_4 {a : Nat} (e : qLand a) : qa_layD[a + 4]? = some (.inr (1, 6)) := by
  rcases e with rfl | rfl | rfl | rfl | rfl | rfl <;> rfl
theorem wd_Land_5 {a : Nat} (e : qLand a) : qa_layD[a + 5]? = some (.inr (0, 4)) := by
  rcases e with rfl | rfl | rfl | rfl | rfl | rfl <;> rfl
theorem wd_State_0 {a : Nat} (e : qState a) : qa_layD[a]? = some (.inl (7, [2, 0, 2, 0, 0])) := by
  rcases e with rfl | rfl | rfl | rfl | rfl <;> rfl
theorem wd_State_1 {a : Nat} (e : qState a) : qa_layD[a + 1]? = some (.inl (2, [0, 0, 0, 0, 0, 0, 1, 1, 2, 2, 2, 2, 2])) := by
  rcases e with rfl | rfl | rfl | rfl | rfl <;> rfl
theorem wd_State_2 {a : Nat} (e : qState a) : qa_layD[a + 2]? = some (.inr (0, 8)) := by
  rcases e with rfl | rfl | rfl | rfl | rfl <;> rfl
theorem wd_State_3 {a : Nat} (e : qState a) : qa_layD[a + 3]? = some (.inr (0, 8)) := by
  rcases e with rfl | rfl | rfl | rfl | rfl <;> rfl
theorem wd_State_4 {a : Nat} (e : qState a) : qa_layD[a + 4]? = some (.inr (1, 8)) := by
  rcases e with rfl | rfl | rfl | rfl | rfl <;> rfl
theorem wd_State_5 {a : Nat} (e : qState a) : qa_layD[a + 5]? = some (.inr (1, 6)) := by
  rcases e with rfl | rfl | rfl | rfl | rfl <;> rfl
theorem wd_State_6 {a : Nat} (e : qState a) : qa_layD[a + 6]? = some (.inr (0, 4)) := by
  rcases e with rfl | rfl | rfl | rfl | rfl <;> rfl
theorem wd_State_7 {a : Nat} (e : qState a) : qa_layD[a + 7]? = some (.inr (0, 50)) := by
  rcases e with rfl | rfl | rfl | rfl | rfl <;> rfl
theorem wd_Law_0 {a : Nat} (e : qLaw a) : qa_layD[a]? = some (.inl (4, [0, 2, 2, 2, 0, 2, 2, 2, 0, 2, 2])) := by
  rcases e with rfl | rfl | rfl | rfl <;> rfl
theorem wd_Law_1 {a : Nat} (e : qLaw a) : qa_layD[a + 1]? = some (.inr (0, 12)) := by
  rcases e with rfl | rfl | rfl | rfl <;> rfl
theorem wd_Law_2 {a : Nat} (e : qLaw a) : qa_layD[a + 2]? = some (.inr (0, 12)) := by
  rcases e with rfl | rfl | rfl | rfl <;> rfl
theorem wd_Law_3 {a : Nat} (e : qLaw a) : qa_layD[a + 3]? = some (.inr (0, 12)) := by
  rcases e with rfl | rfl | rfl | rfl <;> rfl
theorem wd_Law_4 {a : Nat} (e : qLaw a) : qa_layD[a + 4]? = some (.inr (0, 12)) := by
  rcases e with rfl | rfl | rfl | rfl <;> rfl
theorem wd_Law_5 {a : Nat} (e : qLaw a) : qa_layD[a + 5]? = some (.inr (0, 13)) := by
  rcases e with rfl | rfl | rfl | rfl <;> rfl
theorem wd_Law_6 {a : Nat} (e : qLaw a) : qa_layD[a + 6]? = some (.inr (0, 400)) := by
  rcases e with rfl | rfl | rfl | rfl <;> rfl
theorem wd_Law_7 {a : Nat} (e : qLaw a) : qa_layD[a + 7]? = some (.inr (1, 61)) := by
  rcases e with rfl | rfl | rfl | rfl <;> rfl
theorem wd_Law_8 {a : Nat} (e : qLaw a) : qa_layD[a + 8]? = some (.inr (0, 7)) := by
  rcases e with rfl | rfl | rfl | rfl <;> rfl
section qv_sec
variable {l : Launch} {g : qa_G} {y : MethodName} {cc : ByteArray} {nL : Nat} {rt : Option FieldType} {d KC KS cells slots i pc : Nat} {lv : List (Nat × Value)} {st : List Value} {h h2 : qa_M} {r : Option Value} {i2 : Nat}
theorem qv_iconst {n : Int} {v : Int32} (dg : decode cc pc = .ok (.iconst n, 1)) (hv : Int32.ofInt n = v) (k : qv_At l g (y, cc, nL, rt) d KC KS cells slots i (pc + 1) lv (.int v :: st) h r i2 h2) : qv_At l g (y, cc, nL, rt) d KC KS cells slots i pc lv st h r i2 h2 := qs_iconst dg hv k
theorem qv_bipush {n : Int} {v : Int32} (dg : decode cc pc = .ok (.bipush n, 2)) (hv : (Int8.ofInt n).toInt32 = v) (k : qv_At l g (y, cc, nL, rt) d KC KS cells slots i (pc + 2) lv (.int v :: st) h r i2 h2) : qv_At l g (y, cc, nL, rt) d KC KS cells slots i pc lv st h r i2 h2 := qs_bipush dg hv k
theorem qv_sipush {n : Int} {v : Int32} (dg : decode cc pc = .ok (.sipush n, 3)) (hv : (Int16.ofInt n).toInt32 = v) (k : qv_At l g (y, cc, nL, rt) d KC KS cells slots i (pc + 3) lv (.int v :: st) h r i2 h2) : qv_At l g (y, cc, nL, rt) d KC KS cells slots i pc lv st h r i2 h2 := qs_sipush dg hv k
theorem qv_lconst {n : Fin 2} {v : Int64} (dg : decode cc pc = .ok (.lconst n, 1)) (hv : Int64.ofNat (n : Nat) = v) (k : qv_At l g (y, cc, nL, rt) d KC KS cells slots i (pc + 1) lv (.long v :: st) h r i2 h2) : qv_At l g (y, cc, nL, rt) d KC KS cells slots i pc lv st h r i2 h2 := qs_lconst dg hv k
theorem qv_ldc2 {idx : Nat} {v : Int64} (hw : Cond.constantLong y.cls idx v ∈ qw_tbl) (dg : decode cc pc = .ok (.ldc2_w idx, 3)) (k : qv_At l g (y, cc, nL, rt) d KC KS cells slots i (pc + 3) lv (.long v :: st) h r i2 h2) : qv_At l g (y, cc, nL, rt) d KC KS cells slots i pc lv st h r i2 h2 := qs_ldc2 hw dg k
theorem qv_iload_n {k0 : Fin 4} {ix : Nat} (q : Nat) {x : Int32} (dg : decode cc pc = .ok (.iload_n k0, 1)) (hi : (k0 : Nat) = ix) (hk : lv[q]? = some (ix, .int x)) (k : qv_At l g (y, cc, nL, rt) d KC KS cells slots i (pc + 1) lv (.int x :: st) h r i2 h2) : qv_At l g (y, cc, nL, rt) d KC KS cells slots i pc lv st h r i2 h2 := qs_iload_n q dg hi hk k
theorem qv_iload {ix : Nat} (q : Nat) {x : Int32} (dg : decode cc pc = .ok (.iload ix, 2)) (hk : lv[q]? = some (ix, .int x)) (k : qv_At l g (y, cc, nL, rt) d KC KS cells slots i (pc + 2) lv (.int x :: st) h r i2 h2) : qv_At l g (y, cc, nL, rt) d KC KS cells slots i pc lv st h r i2 h2 := qs_iload q dg hk k
theorem qv_istore_n {k0 : Fin 4} {ix : Nat} {x : Int32} {α : Type} {K : Int32 → Option α} {z : α} (lv2 : Int32 → List (Nat × Value)) (dg : decode cc pc = .ok (.istore_n k0, 1)) (hi : (k0 : Nat) = ix) (hn : ix < nL) (hl2 : ∀ x : Int32, (ix, Value.int x) :: lv.filter (fun q => !(q.1 == ix) && !(q.1 + 1 == ix && q.2.category == 2)) = lv2 x) (E : qbd x K = some z) (k : ∀ x : Int32, K x = some z → qv_At l g (y, cc, nL, rt) d KC KS cells slots i (pc + 1) (lv2 x) st h r i2 h2) : qv_At l g (y, cc, nL, rt) d KC KS cells slots i pc lv (.int x :: st) h r i2 h2 := qs_istore_n (lv2 x) dg hi hn (hl2 x) (k x E)
theorem qv_istore {ix : Nat} {x : Int32} {α : Type} {K : Int32 → Option α} {z : α} (lv2 : Int32 → List (Nat × Value)) (dg : decode cc pc = .ok (.istore ix, 2)) (hn : ix < nL) (hl2 : ∀ x : Int32, (ix, Value.int x) :: lv.filter (fun q => !(q.1 == ix) && !(q.1 + 1 == ix && q.2.category == 2)) = lv2 x) (E : qbd x K = some z) (k : ∀ x : Int32, K x = some z → qv_At l g (y, cc, nL, rt) d KC KS cells slots i (pc + 2) (lv2 x) st h r i2 h2) : qv_At l g (y, cc, nL, rt) d KC KS cells slots i pc lv (.int x :: st) h r i2 h2 := qs_istore (lv2 x) dg hn (hl2 x) (k x E)
theorem qv_lload_n {k0 : Fin 4} {ix : Nat} (q : Nat) {x : Int64} (dg : decode cc pc = .ok (.lload_n k0, 1)) (hi : (k0 : Nat) = ix) (hk : lv[q]? = some (ix, .long x)) (k : qv_At l g (y, cc, nL, rt) d KC KS cells slots i (pc + 1) lv (.long x :: st) h r i2 h2) : qv_At l g (y, cc, nL, rt) d KC KS cells slots i pc lv st h r i2 h2 := qs_lload_n q dg hi hk k
theorem qv_lload {ix : Nat} (q : Nat) {x : Int64} (dg : decode cc pc = .ok (.lload ix, 2)) (hk : lv[q]? = some (ix, .long x)) (k : qv_At l g (y, cc, nL, rt) d KC KS cells slots i (pc + 2) lv (.long x :: st) h r i2 h2) : qv_At l g (y, cc, nL, rt) d KC KS cells slots i pc lv st h r i2 h2 := qs_lload q dg hk k
theorem qv_lstore_n {k0 : Fin 4} {ix : Nat} {x : Int64} {α : Type} {K : Int64 → Option α} {z : α} (lv2 : Int64 → List (Nat × Value)) (dg : decode cc pc = .ok (.lstore_n k0, 1)) (hi : (k0 : Nat) = ix) (hn : ix + 1 < nL) (hl2 : ∀ x : Int64, (ix, Value.long x) :: lv.filter (fun q => !(q.1 == ix) && (!(q.1 == ix + 1) && !(q.1 + 1 == ix && q.2.category == 2))) = lv2 x) (E : qbd x K = some z) (k : ∀ x : Int64, K x = some z → qv_At l g (y, cc, nL, rt) d KC KS cells slots i (pc + 1) (lv2 x) st h r i2 h2) : qv_At l g (y, cc, nL, rt) d KC KS cells slots i pc lv (.long x :: st) h r i2 h2 := qs_lstore_n (lv2 x) dg hi hn (hl2 x) (k x E)
theorem qv_lstore {ix : Nat} {x : Int64} {α : Type} {K : Int64 → Option α} {z : α} (lv2 : Int64 → List (Nat × Value)) (dg : decode cc pc = .ok (.lstore ix, 2)) (hn : ix + 1 < nL) (hl2 : ∀ x : Int64, (ix, Value.long x) :: lv.filter (fun q => !(q.1 == ix) && (!(q.1 == ix + 1) && !(q.1 + 1 == ix && q.2.category == 2))) = lv2 x) (E : qbd x K = some z) (k : ∀ x : Int64, K x = some z → qv_At l g (y, cc, nL, rt) d KC KS cells slots i (pc + 2) (lv2 x) st h r i2 h2) : qv_At l g (y, cc, nL, rt) d KC KS cells slots i pc lv (.long x :: st) h r i2 h2 := qs_lstore (lv2 x) dg hn (hl2 x) (k x E)
theorem qv_aload_n {k0 : Fin 4} {ix : Nat} (q : Nat) {x : Nat} (dg : decode cc pc = .ok (.aload_n k0, 1)) (hi : (k0 : Nat) = ix) (hk : lv[q]? = some (ix, .ref x)) (k : qv_At l g (y, cc, nL, rt) d KC KS cells slots i (pc + 1) lv (.ref x :: st) h r i2 h2) : qv_At l g (y, cc, nL, rt) d KC KS cells slots i pc lv st h r i2 h2 := qs_aload_n q dg hi hk k
theorem qv_iinc {ix : Nat} (q : Nat) {n : Int} {x v : Int32} {α : Type} {K : Int32 → Option α} {z : α} (lv2 : Int32 → List (Nat × Value)) (dg : decode cc pc = .ok (.iinc ix n, 3)) (hk : lv[q]? = some (ix, .int x)) (hv : Int32.ofInt n = v) (hn : ix < nL) (hl2 : ∀ x : Int32, (ix, Value.int x) :: lv.filter (fun q => !(q.1 == ix) && !(q.1 + 1 == ix && q.2.category == 2)) = lv2 x) (E : qbd (x + v) K = some z) (k : ∀ x : Int32, K x = some z → qv_At l g (y, cc, nL, rt) d KC KS cells slots i (pc + 3) (lv2 x) st h r i2 h2) : qv_At l g (y, cc, nL, rt) d KC KS cells slots i pc lv st h r i2 h2 := qs_iinc q (lv2 (x + v)) dg hk (by rw [hv]) hn (hl2 _) (k _ E)
theorem qv_iadd {x x2 : Int32} (dg : decode cc pc = .ok (.iadd, 1))  (k : qv_At l g (y, cc, nL, rt) d KC KS cells slots i (pc + 1) lv (.int (x + x2) :: st) h r i2 h2) : qv_At l g (y, cc, nL, rt) d KC KS cells slots i pc lv (.int x2 :: .int x :: st) h r i2 h2 := qs_iadd dg  k
theorem qv_imul {x x2 : Int32} (dg : decode cc pc = .ok (.imul, 1))  (k : qv_At l g (y, cc, nL, rt) d KC KS cells slots i (pc + 1) lv (.int (x * x2) :: st) h r i2 h2) : qv_At l g (y, cc, nL, rt) d KC KS cells slots i pc lv (.int x2 :: .int x :: st) h r i2 h2 := qs_imul dg  k
theorem qv_ladd {x x2 : Int64} (dg : decode cc pc = .ok (.ladd, 1))  (k : qv_At l g (y, cc, nL, rt) d KC KS cells slots i (pc + 1) lv (.long (x + x2) :: st) h r i2 h2) : qv_At l g (y, cc, nL, rt) d KC KS cells slots i pc lv (.long x2 :: .long x :: st) h r i2 h2 := qs_ladd dg  k
theorem qv_land {x x2 : Int64} (dg : decode cc pc = .ok (.land, 1))  (k : qv_At l g (y, cc, nL, rt) d KC KS cells slots i (pc + 1) lv (.long (x &&& x2) :: st) h r i2 h2) : qv_At l g (y, cc, nL, rt) d KC KS cells slots i pc lv (.long x2 :: .long x :: st) h r i2 h2 := qs_land dg  k
theorem qv_lor {x x2 : Int64} (dg : decode cc pc = .ok (.lor, 1))  (k : qv_At l g (y, cc, nL, rt) d KC KS cells slots i (pc + 1) lv (.long (x ||| x2) :: st) h r i2 h2) : qv_At l g (y, cc, nL, rt) d KC KS cells slots i pc lv (.long x2 :: .long x :: st) h r i2 h2 := qs_lor dg  k
theorem qv_lxor {x x2 : Int64} (dg : decode cc pc = .ok (.lxor, 1))  (k : qv_At l g (y, cc, nL, rt) d KC KS cells slots i (pc + 1) lv (.long (x ^^^ x2) :: st) h r i2 h2) : qv_At l g (y, cc, nL, rt) d KC KS cells slots i pc lv (.long x2 :: .long x :: st) h r i2 h2 := qs_lxor dg  k
theorem qv_lushr {x : Int64} {x2 : Int32} (dg : decode cc pc = .ok (.lushr, 1)) (k : qv_At l g (y, cc, nL, rt) d KC KS cells slots i (pc + 1) lv (.long (q_lushr x x2) :: st) h r i2 h2) : qv_At l g (y, cc, nL, rt) d KC KS cells slots i pc lv (.int x2 :: .long x :: st) h r i2 h2 := qs_lushr dg k
theorem qv_lshl {x : Int64} {x2 : Int32} (dg : decode cc pc = .ok (.lshl, 1)) (k : qv_At l g (y, cc, nL, rt) d KC KS cells slots i (pc + 1) lv (.long (q_lshl x x2) :: st) h r i2 h2) : qv_At l g (y, cc, nL, rt) d KC KS cells slots i pc lv (.int x2 :: .long x :: st) h r i2 h2 := qs_lshl dg k
theorem qv_dup {va : Value} (dg : decode cc pc = .ok (.dup, 1)) (hva : va.category = 1) (k : qv_At l g (y, cc, nL, rt) d KC KS cells slots i (pc + 1) lv (va :: va :: st) h r i2 h2) : qv_At l g (y, cc, nL, rt) d KC KS cells slots i pc lv (va :: st) h r i2 h2 := qs_dup dg hva k
theorem qv_icmp_ge {x x2 : Int32} {off : Int} {α : Type} {A B : Option α} {z : α} (tgt : Nat) (dg : decode cc pc = .ok (.if_icmp .ge off, 3)) (ht : (pc : Int) + off = (tgt : Int)) (E : (if x2 ≤ x then A else B) = some z) (kt : A = some z → qv_At l g (y, cc, nL, rt) d KC KS cells slots i tgt lv st h r i2 h2) (kf : B = some z → qv_At l g (y, cc, nL, rt) d KC KS cells slots i (pc + 3) lv st h r i2 h2) : qv_At l g (y, cc, nL, rt) d KC KS cells slots i pc lv (.int x2 :: .int x :: st) h r i2 h2 := qs_icmp_ge tgt dg ht (fun q => kt (qif_t q E)) (fun q => kf (qif_f q E))
theorem qv_goto {off : Int} (tgt : Nat) (dg : decode cc pc = .ok (.goto off, 3)) (ht : (pc : Int) + off = (tgt : Int)) (k : qv_At l g (y, cc, nL, rt) d KC KS cells slots i tgt lv st h r i2 h2) : qv_At l g (y, cc, nL, rt) d KC KS cells slots i pc lv st h r i2 h2 := qs_goto tgt dg ht k
end qv_sec
section qn_sec
variable {l : Launch} {g : qa_G} {y : MethodName} {cc : ByteArray} {nL : Nat} {rt : Option FieldType} {d KC KS cells slots i pc : Nat} {lv : List (Nat × Value)} {st : List Value} {h h2 : qa_M} {r : Option Value} {i2 : Nat}
theorem qv_sub (lv2 : List (Nat × Value)) (ks : List Nat) (e : lv_pick lv ks = lv2) (k : qv_At l g (y, cc, nL, rt) d KC KS cells slots i pc lv2 st h r i2 h2) : qv_At l g (y, cc, nL, rt) d KC KS cells slots i pc lv st h r i2 h2 := qs_sub lv2 ks e k
theorem qv_newT {tc N : Nat} {n : Int32} {atype : ArrayType} {α : Type} {K : qa_M → Option α} {z : α} (hk : qa_layD[i]? = some (.inr (tc, N))) (htc : (qa_tys g)[tc]? = some (g.2.2.1 tc, newarray.typeOf atype)) (hra : ∀ (U : State) (cA : ClassId), va_RA U cA (newarray.typeOf atype) → U.vm.findClass ("[" ++ (newarray.typeOf atype).toString) = some cA) (hz : ∀ j, qa_av g.1 (qw_z h i) i tc j = defaultValue (newarray.typeOf atype)) (harr : Cond.arrayClass (newarray.typeOf atype) ∈ qw_tbl) (hn : ¬ n < 0) (hN : n.toNatClampNeg = N) (hby : N * componentBytes (newarray.typeOf atype) ≤ 536870912) (h1 : cells + 1 ≤ KC) (h3 : slots + N ≤ KS) (dg : decode cc pc = .ok (.newarray atype, 2)) (E : qbd (qw_z h i) K = some z) (kk : ∀ h3, K h3 = some z → qv_At l g (y, cc, nL, rt) d KC KS (cells + 1) (slots + N) (i + 1) (pc + 2) lv (.ref (g.1 + i) :: st) h3 r i2 h2) : qv_At l g (y, cc, nL, rt) d KC KS cells slots i pc lv (.int n :: st) h r i2 h2 := by
  have hkk := kk _ E
  unfold qv_At at hkk
  rw [← qL_succ hk] at hkk
  refine qs_newa htc hra harr hn hN hby h1 h3 (h2 := qw_z h i) (by rw [qL_len hk]; exact qw_z_off h i) (by rw [qL_len hk]; exact hz) dg (by rw [qL_len hk]; exact hkk)
theorem qv_newI {N : Nat} {n : Int32} {α : Type} {K : qa_M → Option α} {z : α} (hk : qa_layD[i]? = some (.inr (0, N))) (hn : n = nI N) (hN : N ≤ 20000) (h1 : cells + 1 ≤ KC) (h3 : slots + N ≤ KS) (dg : decode cc pc = .ok (.newarray .int, 2)) (E : qbd (qw_z h i) K = some z) (kk : ∀ h3, K h3 = some z → qv_At l g (y, cc, nL, rt) d KC KS (cells + 1) (slots + N) (i + 1) (pc + 2) lv (.ref (g.1 + i) :: st) h3 r i2 h2) : qv_At l g (y, cc, nL, rt) d KC KS cells slots i pc lv (.int n :: st) h r i2 h2 := qv_newT (atype := .int) hk rfl (fun _ _ q => q) (fun j => by simp [qa_av, qw_z]; rfl) tb_190 (by rw [hn]; exact nI_pos (by omega)) (by rw [hn]; exact nI_clamp (by omega)) (by show N * 4 ≤ _; omega) h1 h3 dg E kk
theorem qv_newJ {N : Nat} {n : Int32} {α : Type} {K : qa_M → Option α} {z : α} (hk : qa_layD[i]? = some (.inr (1, N))) (hn : n = nI N) (hN : N ≤ 20000) (h1 : cells + 1 ≤ KC) (h3 : slots + N ≤ KS) (dg : decode cc pc = .ok (.newarray .long, 2)) (E : qbd (qw_z h i) K = some z) (kk : ∀ h3, K h3 = some z → qv_At l g (y, cc, nL, rt) d KC KS (cells + 1) (slots + N) (i + 1) (pc + 2) lv (.ref (g.1 + i) :: st) h3 r i2 h2) : qv_At l g (y, cc, nL, rt) d KC KS cells slots i pc lv (.int n :: st) h r i2 h2 := qv_newT (atype := .long) hk rfl (fun _ _ q => q) (fun j => by simp [qa_av, qw_z]; rfl) tb_273 (by rw [hn]; exact nI_pos (by omega)) (by rw [hn]; exact nI_clamp (by omega)) (by show N * 8 ≤ _; omega) h1 h3 dg E kk
theorem qv_newB {N : Nat} {n : Int32} {α : Type} {K : qa_M → Option α} {z : α} (hk : qa_layD[i]? = some (.inr (2, N))) (hn : n = nI N) (hN : N ≤ 20000) (h1 : cells + 1 ≤ KC) (h3 : slots + N ≤ KS) (dg : decode cc pc = .ok (.newarray .byte, 2)) (E : qbd (qw_z h i) K = some z) (kk : ∀ h3, K h3 = some z → qv_At l g (y, cc, nL, rt) d KC KS (cells + 1) (slots + N) (i + 1) (pc + 2) lv (.ref (g.1 + i) :: st) h3 r i2 h2) : qv_At l g (y, cc, nL, rt) d KC KS cells slots i pc lv (.int n :: st) h r i2 h2 := qv_newT (atype := .byte) hk rfl (fun _ _ q => q) (fun j => by simp [qa_av, qw_z]; rfl) tb_779 (by rw [hn]; exact nI_pos (by omega)) (by rw [hn]; exact nI_clamp (by omega)) (by show N * 1 ≤ _; omega) h1 h3 dg E kk
theorem qv_newZ {N : Nat} {n : Int32} {α : Type} {K : qa_M → Option α} {z : α} (hk : qa_layD[i]? = some (.inr (3, N))) (hn : n = nI N) (hN : N ≤ 20000) (h1 : cells + 1 ≤ KC) (h3 : slots + N ≤ KS) (dg : decode cc pc = .ok (.newarray .boolean, 2)) (E : qbd (qw_z h i) K = some z) (kk : ∀ h3, K h3 = some z → qv_At l g (y, cc, nL, rt) d KC KS (cells + 1) (slots + N) (i + 1) (pc + 2) lv (.ref (g.1 + i) :: st) h3 r i2 h2) : qv_At l g (y, cc, nL, rt) d KC KS cells slots i pc lv (.int n :: st) h r i2 h2 := qv_newT (atype := .boolean) hk rfl (fun _ _ q => q) (fun j => by simp [qa_av, qw_z]; rfl) tb_327 (by rw [hn]; exact nI_pos (by omega)) (by rw [hn]; exact nI_clamp (by omega)) (by show N * 1 ≤ _; omega) h1 h3 dg E kk
theorem qv_new {ci idx N : Nat} {fks : List Nat} {C : String} {T : u_T} {α : Type} {K : qa_M → Option α} {z : α} (hk : qa_layD[i]? = some (.inl (ci, fks))) (hc : qa_cl[ci]? = some (C, T, N)) (hok : qa_clok (C, T, N)) (hlen : fks.length = N) (ty : Nat → FieldType) (hty : ∀ k, k < N → parseFieldDescriptor (T k).2.2.1 = some (ty k)) (hfk : ∀ j, j < N → fks.getD j 0 < 3 ∧ defaultValue (ty j) = qd_def (fks.getD j 0)) (hl : Cond.classLink y.cls idx C ∈ qw_tbl) (hi : Cond.instantiable C N ∈ qw_tbl) (hini : Cond.initialized C ∈ qw_tbl) (h1 : cells + 1 ≤ KC) (h3 : slots + N ≤ KS) (dg : decode cc pc = .ok (.new idx, 3)) (E : qbd (qw_z h i) K = some z) (kk : ∀ h3, K h3 = some z → qv_At l g (y, cc, nL, rt) d KC KS (cells + 1) (slots + N) (i + 1) (pc + 3) lv (.ref (g.1 + i) :: st) h3 r i2 h2) : qv_At l g (y, cc, nL, rt) d KC KS cells slots i pc lv st h r i2 h2 := by
  have hkk := kk _ E
  unfold qv_At at hkk
  rw [← qL_succ hk] at hkk
  exact qs_new hc hok hlen ty hty hl hi hini h1 h3 (h2 := qw_z h i) (by rw [qL_len hk]; exact qw_z_off h i) (fun j hj => by rw [qL_len hk, qd_fv _ _ _ _ _ (hfk j hj).1]; exact (hfk j hj).2) dg (by rw [qL_len hk]; exact hkk)
theorem qv_newq {tc N idx : Nat} {n : Int32} {R : String} {α : Type} {K : qa_M → Option α} {z : α} (hk : qa_layD[i]? = some (.inr (tc, N))) (htc : (qa_tys g)[tc]? = some (g.2.2.1 tc, .object R)) (hav : ∀ s : State, qa_S g s s.heap → va_AO R s) (htc4 : 4 ≤ tc) (hl : Cond.classLink y.cls idx R ∈ qw_tbl) (hn : n = nI N) (hN : N ≤ 20000) (h1 : cells + 1 ≤ KC) (h3 : slots + N ≤ KS) (dg : decode cc pc = .ok (.anewarray idx, 3)) (E : qbd (qw_z h i) K = some z) (kk : ∀ h3, K h3 = some z → qv_At l g (y, cc, nL, rt) d KC KS (cells + 1) (slots + N) (i + 1) (pc + 3) lv (.ref (g.1 + i) :: st) h3 r i2 h2) : qv_At l g (y, cc, nL, rt) d KC KS cells slots i pc lv (.int n :: st) h r i2 h2 := by
  have hkk := kk _ E
  unfold qv_At at hkk
  rw [← qL_succ hk] at hkk
  exact qs_newq htc hav htc4 hl (by rw [hn]; exact nI_pos (by omega)) (by rw [hn]; exact nI_clamp (by omega)) (by omega) h1 h3 (h2 := qw_z h i) (by rw [qL_len hk]; exact qw_z_off h i) (fun j => by rw [qL_len hk]; simp [qw_z]) dg (by rw [qL_len hk]; exact hkk)
theorem qv_aast {a b n tc ci : Nat} {x : Int32} {v : vw_C} {fks : List Nat} {R : String} {α : Type} {K : qa_M → Option α} {z : α} (htc : (qa_tys g)[tc]? = some (g.2.2.1 tc, .object R)) (htc4 : 4 ≤ tc) (hw : (qL i)[a]? = some (.inr (tc, n))) (hv : (qL i)[b]? = some (.inl (ci, fks))) (hc : qa_cl[ci]? = some v) (hR : v.1 = R) (hin : vp_in x n) (dg : decode cc pc = .ok (.aastore, 1)) (E : qbd (qw_R h a x.toNatClampNeg (b + 1)) K = some z) (kk : ∀ h3, K h3 = some z → qv_At l g (y, cc, nL, rt) d KC KS cells slots i (pc + 1) lv st h3 r i2 h2) : qv_At l g (y, cc, nL, rt) d KC KS cells slots i pc lv (.ref (g.1 + b) :: .int x :: .ref (g.1 + a) :: st) h r i2 h2 := qs_aast htc htc4 hw hv hc hR hin dg (kk _ E)
theorem qv_objInit {a idx : Nat} (hk : Cond.methodLink y.cls idx Lib.objectInit ∈ qw_tbl) (hroom : (st.map fun v => v.category).sum ≤ 8) (dg : decode cc pc = .ok (.invokespecial idx, 3)) (kk : qv_At l g (y, cc, nL, rt) (d + 1) KC KS cells slots i (pc + 3) lv st h r i2 h2) : qv_At l g (y, cc, nL, rt) (d + 1) KC KS cells slots i pc lv (.ref a :: st) h r i2 h2 := qs_objInit hk tb_147 tb_148 hroom dg kk
theorem qv_fvR {B : Nat} {a k x : Nat} {fks : List Nat} (hf : fks.getD k 0 = 2) : qa_fv B (qw_R h a k (x + 1)) a k (fks.getD k 0) = .ref (B + x) := by rw [hf]; simp [qa_fv, qw_R, qa_rv]
theorem qv_fvj {B : Nat} {a k x : Nat} {fks : List Nat} (j : Nat) (hj : j ≠ k) : qa_fv B (qw_R h a k x) a j (fks.getD j 0) = qa_fv B h a j (fks.getD j 0) := by
  generalize fks.getD j 0 = fk
  match fk with
  | 0 => rfl
  | 1 => rfl
  | 2 => simp [qa_fv, qw_R, hj]
  | n + 3 => rfl
theorem qv_putF {a ci k idx x : Nat} {fks : List Nat} {ty : FieldType} {α : Type} {K : qa_M → Option α} {z : α} (hw : (qL i)[a]? = some (.inl (ci, fks))) (F : qa_fd y.cls idx ci k ty true) (hin : y.name = "<init>") (hf : fks.getD k 0 = 2) (hn : narrow ty (.ref (g.1 + x)) = .ref (g.1 + x)) (hft : fits ty (.ref (g.1 + x)) = true) (dg : decode cc pc = .ok (.putfield idx, 3)) (E : qbd (qw_R h a k (x + 1)) K = some z) (kk : ∀ h3, K h3 = some z → qv_At l g (y, cc, nL, rt) d KC KS cells slots i (pc + 3) lv st h3 r i2 h2) : qv_At l g (y, cc, nL, rt) d KC KS cells slots i pc lv (.ref (g.1 + x) :: .ref (g.1 + a) :: st) h r i2 h2 := qs_putF hw F hin hn hft (qw_R_off h a k (x + 1)) (qv_fvR hf) (fun j hj => qv_fvj j hj) dg (kk _ E)
theorem qv_putR {a ci k idx x : Nat} {fks : List Nat} {ty : FieldType} {α : Type} {K : qa_M → Option α} {z : α} (hw : (qL i)[a]? = some (.inl (ci, fks))) (F : qa_fd y.cls idx ci k ty false) (hf : fks.getD k 0 = 2) (hn : narrow ty (.ref (g.1 + x)) = .ref (g.1 + x)) (hft : fits ty (.ref (g.1 + x)) = true) (dg : decode cc pc = .ok (.putfield idx, 3)) (E : qbd (qw_R h a k (x + 1)) K = some z) (kk : ∀ h3, K h3 = some z → qv_At l g (y, cc, nL, rt) d KC KS cells slots i (pc + 3) lv st h3 r i2 h2) : qv_At l g (y, cc, nL, rt) d KC KS cells slots i pc lv (.ref (g.1 + x) :: .ref (g.1 + a) :: st) h r i2 h2 := qs_put hw F hn hft (qw_R_off h a k (x + 1)) (qv_fvR hf) (fun j hj => qv_fvj j hj) dg (kk _ E)
theorem qv_putI {a ci k idx : Nat} {fks : List Nat} {x : Int32} {α : Type} {K : qa_M → Option α} {z : α} (hw : (qL i)[a]? = some (.inl (ci, fks))) (F : qa_fd y.cls idx ci k .int false) (hf : fks.getD k 9 = 0) (dg : decode cc pc = .ok (.putfield idx, 3)) (E : qbd (qw_I h a k x) K = some z) (kk : ∀ h3, K h3 = some z → qv_At l g (y, cc, nL, rt) d KC KS cells slots i (pc + 3) lv st h3 r i2 h2) : qv_At l g (y, cc, nL, rt) d KC KS cells slots i pc lv (.int x :: .ref (g.1 + a) :: st) h r i2 h2 := by
  have hf0 : fks.getD k 0 = 0 := by
    simp only [List.getD_eq_getElem?_getD] at hf ⊢
    cases e : fks[k]? with
    | none => rfl
    | some v => rw [e] at hf; exact hf
  refine qs_put hw F rfl rfl (qw_I_off h a k x) (by rw [hf0]; simp [qa_fv, qw_I]) (fun j hj => ?_) dg (kk _ E)
  generalize fks.getD j 0 = fk
  match fk with
  | 0 => simp [qa_fv, qw_I, hj]
  | 1 => rfl
  | 2 => rfl
  | n + 3 => rfl
theorem qv_getC {a ci k idx x : Nat} {fks : List Nat} {α : Type} {K : Option α} {z : α} (hw : (qL i)[a]? = some (.inl (ci, fks))) (F : qa_fe y.cls idx ci k) (hf : fks.getD k 0 = 2) (dg : decode cc pc = .ok (.getfield idx, 3)) (E : qpr (h.2.2.1 a k = x + 1) K = some z) (kk : K = some z → qv_At l g (y, cc, nL, rt) d KC KS cells slots i (pc + 3) lv (.ref (g.1 + x) :: st) h r i2 h2) : qv_At l g (y, cc, nL, rt) d KC KS cells slots i pc lv (.ref (g.1 + a) :: st) h r i2 h2 := qs_get hw F (by rw [hf]; simp only [qa_fv, (qpr_el E).1, qa_rv]) dg (kk (qpr_el E).2)
theorem qv_last {a n : Nat} {x : Int32} {v : Int64} {α : Type} {K : qa_M → Option α} {z : α} (hw : (qL i)[a]? = some (.inr (1, n))) (dg : decode cc pc = .ok (.lastore, 1)) (E : qck x n (qbd (qw_J h a x.toNatClampNeg v) K) = some z) (kk : ∀ h, K h = some z → qv_At l g (y, cc, nL, rt) d KC KS cells slots i (pc + 1) lv st h r i2 h2) : qv_At l g (y, cc, nL, rt) d KC KS cells slots i pc lv (.long v :: .int x :: .ref (g.1 + a) :: st) h r i2 h2 := qs_last hw (qck_el E).1 dg (kk _ (qck_el E).2)
theorem qv_vreturn {z : qa_M} (hrt : rt = none) (hc : cells ≤ KC) (hs : slots ≤ KS) (hi : i = i2) (dg : decode cc pc = .ok (.return_, 1)) (E : some h = some z) (G : qg_v r h2 z) : qv_At l g (y, cc, nL, rt) d KC KS cells slots i pc lv [] h r i2 h2 := by
  cases E
  subst hi
  exact qs_vreturn hrt hc hs dg ⟨G.1.symm, rfl, G.2.symm⟩
theorem qv_lreturn {v : Int64} {z : Int64 × qa_M} (hrt : rt = some .long) (hc : cells ≤ KC) (hs : slots ≤ KS) (hi : i = i2) (dg : decode cc pc = .ok (.lreturn, 1)) (E : some (v, h) = some z) (G : qg_l r h2 z) : qv_At l g (y, cc, nL, rt) d KC KS cells slots i pc lv [.long v] h r i2 h2 := by
  cases E
  subst hi
  exact qs_lreturn hrt hc hs dg ⟨G.1.symm, rfl, G.2.symm⟩
/-- a constructor's call: by its link, or as a nest mate's -/
def qa_ci (own : String) (idx : Nat) (M : qa_MI) (n : Nat) : Prop := Cond.methodLink own idx M.1 ∈ qw_tbl ∧ Cond.instanceMethod M.1 ∈ qw_tbl ∧ Cond.initialized M.1.cls ∈ qw_tbl ∧ Cond.code M.1 M.2.1 M.2.2.1 none ∈ qw_tbl ∧ (M.1.cls ≠ "java/lang/invoke/MethodHandle" ∧ M.1.cls ≠ "java/lang/invoke/VarHandle" ∧ (parseMethodDescriptor M.1.desc).map (fun d => d.parameters.length) = some n) ∧ M.2.2.1 ≤ 21 ∧ M.1.name = "<init>"
def qa_cin (own : String) (idx : Nat) (M : qa_MI) (n : Nat) : Prop := Cond.methodLinkNest own idx M.1 "MapsOfNothing" ∈ qa_nest ∧ Cond.instanceMethod M.1 ∈ qw_tbl ∧ Cond.initialized M.1.cls ∈ qw_tbl ∧ Cond.code M.1 M.2.1 M.2.2.1 none ∈ qw_tbl ∧ (M.1.cls ≠ "java/lang/invoke/MethodHandle" ∧ M.1.cls ≠ "java/lang/invoke/VarHandle" ∧ (parseMethodDescriptor M.1.desc).map (fun d => d.parameters.length) = some n) ∧ M.2.2.1 ≤ 21 ∧ M.1.name = "<init>"
theorem qs_invI {Z : qa_Zt} {w : List qa_K} {y2 : MethodName} {cc2 : ByteArray} {nL2 : Nat} {b idx n kc ks : Nat} {As rest : List Value} {Q1 : qa_Po} (hM : qa_Met l g (y2, cc2, nL2, none) d kc ks (.ref (g.1 + b) :: As) w h Q1) (cv : qa_ci y.cls idx (y2, cc2, nL2, none) n ∨ qa_cin y.cls idx (y2, cc2, nL2, none) n) (hn : As.length = n) (hroom : (rest.map fun v => v.category).sum ≤ 8) (dg : decode cc pc = .ok (.invokespecial idx, 3)) (h1 : cells + kc ≤ KC) (h2 : slots + ks ≤ KS)
    (kk : ∀ (r : Option Value) (w2 : List qa_K) (h2 : qa_M), Q1 r w2 h2 → qa_At l g (y, cc, nL, rt) (d + 1) KC KS (cells + kc) (slots + ks) (pc + 3) lv (r.toList ++ rest) w2 h2 Z) : qa_At l g (y, cc, nL, rt) (d + 1) KC KS cells slots pc lv (As.reverse ++ .ref (g.1 + b) :: rest) w h Z := by
  intro p e s m args below meth c C H locs ls hl hW hS
  obtain ⟨hx, hb, hml, hr, hlk, hown, hnm, hts, hSt, hB⟩ := id C
  rcases cv with ⟨c1, c2, c3, c4, c5, c6, c7⟩ | ⟨c1, c2, c3, c4, c5, c6, c7⟩
  · refine qa_after (va_runI ⟨hx, hb, hml, hown, hts⟩ hM (cwI n hts (qa_goodIn (M := (y2, cc2, nL2, none)) c4) rfl rfl rfl (hts _ c3) (hts _ c1) (hts _ c2) c7 c5 ⟨Nat.le_refl _, by show 8 + (nL2 + 11) + (41 * d + 32) ≤ 41 * (d + 1) + 32; simp only at c6; omega⟩) ⟨qa_blind g _ w h, fun U hU hWm => ⟨rfl, by rw [hU]; exact hW, by rw [hU]; exact (hSt.kept hS.1 hS.2.1).warm hWm⟩⟩ rfl hn hl.1 rfl (lv_room hroom) dg ⟨h1, h2⟩) hS ?_
    intro r w2 h2 H1 locs1 hq hH hS1
    exact kk r w2 h2 hq p e s m args below meth c C H1 locs1 ls hl hH hS1
  · refine qa_after (va_runIN ⟨hx, hb, hml, hown, hts⟩ hM ⟨va_cnB n hts (qa_goodIn (M := (y2, cc2, nL2, none)) c4) rfl rfl rfl (hSt.2.2.2.2.2.1 _ c1) (hts _ c3) c5 ⟨Nat.le_refl _, by show 8 + (nL2 + 11) + (41 * d + 32) ≤ 41 * (d + 1) + 32; simp only at c6; omega⟩, c7, hts _ c2⟩ ⟨qa_blind g _ w h, fun U hU hWm => ⟨rfl, by rw [hU]; exact hW, by rw [hU]; exact (hSt.kept hS.1 hS.2.1).warm hWm⟩⟩ rfl hn hl.1 rfl (lv_room hroom) dg ⟨h1, h2⟩) hS ?_
    intro r w2 h2 H1 locs1 hq hH hS1
    exact kk r w2 h2 hq p e s m args below meth c C H1 locs1 ls hl hH hS1
theorem qv_callI {y2 : MethodName} {cc2 : ByteArray} {nL2 : Nat} {b idx n kc ks i3 : Nat} {rest : List Value} {h1 : qa_M} (As : List Value) (hM : qv_Met l g (y2, cc2, nL2, none) d kc ks (.ref (g.1 + b) :: As) i h none i3 h1) (cv : qa_ci y.cls idx (y2, cc2, nL2, none) n ∨ qa_cin y.cls idx (y2, cc2, nL2, none) n) (hn : As.length = n) (hroom : (rest.map fun v => v.category).sum ≤ 8) (hc : cells + kc ≤ KC) (hs : slots + ks ≤ KS) (dg : decode cc pc = .ok (.invokespecial idx, 3)) (kk : qv_At l g (y, cc, nL, rt) (d + 1) KC KS (cells + kc) (slots + ks) i3 (pc + 3) lv rest h1 r i2 h2) : qv_At l g (y, cc, nL, rt) (d + 1) KC KS cells slots i pc lv (As.reverse ++ .ref (g.1 + b) :: rest) h r i2 h2 := by
  refine qs_invI hM cv hn hroom dg hc hs ?_
  rintro r3 w3 h3 ⟨rfl, rfl, rfl⟩
  exact kk
theorem qv_callSl {y2 : MethodName} {cc2 : ByteArray} {nL2 : Nat} {rt2 : Option FieldType} {idx n : Nat} {rest : List Value} {h1 : qa_M} {x : Int64} (As : List Value) (hM : qv_Met l g (y2, cc2, nL2, rt2) d 0 0 As i h (some (.long x)) i h1) (cv : qa_cs y.cls idx (y2, cc2, nL2, rt2) n) (hn : As.length = n) (hroom : (rest.map fun v => v.category).sum ≤ 8) (hc : cells ≤ KC) (hs : slots ≤ KS) (dg : decode cc pc = .ok (.invokestatic idx, 3)) (kk : qv_At l g (y, cc, nL, rt) (d + 1) KC KS cells slots i (pc + 3) lv (.long x :: rest) h1 r i2 h2) : qv_At l g (y, cc, nL, rt) (d + 1) KC KS cells slots i pc lv (As.reverse ++ rest) h r i2 h2 := by
  refine qs_invS hM cv hn hroom dg hc hs ?_
  rintro r3 w3 h3 ⟨rfl, rfl, rfl⟩
  exact kk
end qn_sec
theorem cb_37 : (Int8.ofInt 37).toInt32 = (37 : Int32) := by decide
theorem cb_50 : (Int8.ofInt 50).toInt32 = (50 : Int32) := by decide
theorem cs_144 : (Int16.ofInt 144).toInt32 = (144 : Int32) := by decide
theorem cs_216 : (Int16.ofInt 216).toInt32 = (216 : Int32) := by decide
theorem cs_402 : (Int16.ofInt 402).toInt32 = (402 : Int32) := by decide
theorem cs_520 : (Int16.ofInt 520).toInt32 = (520 : Int32) := by decide
theorem cs_576 : (Int16.ofInt 576).toInt32 = (576 : Int32) := by decide
theorem cs_1200 : (Int16.ofInt 1200).toInt32 = (1200 : Int32) := by decide
theorem cs_2048 : (Int16.ofInt 2048).toInt32 = (2048 : Int32) := by decide
theorem cs_16384 : (Int16.ofInt 16384).toInt32 = (16384 : Int32) := by decide
theorem fd_RX11_10 : qa_fd RX11 10 10 0 (.object "MapsOfNothing$Tape") true := ⟨_, rfl, clok_X11, Nat.le_of_ble_eq_true rfl, tb_553, by decide +kernel, rfl, fun h => rfl⟩
theorem fd_RX11_19 : qa_fd RX11 19 10 1 (.object "MapsOfNothing$State") true := ⟨_, rfl, clok_X11, Nat.le_of_ble_eq_true rfl, tb_554, by decide +kernel, rfl, fun h => rfl⟩
theorem fd_RX11_23 : qa_fd RX11 23 10 2 (.array (.object "MapsOfNothing$State")) true := ⟨_, rfl, clok_X11, Nat.le_of_ble_eq_true rfl, tb_555, by decide +kernel, rfl, fun h => rfl⟩
theorem fd_RX11_27 : qa_fd RX11 27 10 3 (.array .boolean) true := ⟨_, rfl, clok_X11, Nat.le_of_ble_eq_true rfl, tb_556, by decide +kernel, rfl, fun h => rfl⟩
theorem fd_RX11_33 : qa_fd RX11 33 10 4 (.array (.object "MapsOfNothing$Law")) true := ⟨_, rfl, clok_X11, Nat.le_of_ble_eq_true rfl, tb_557, by decide +kernel, rfl, fun h => rfl⟩
theorem fd_RX11_40 : qa_fd RX11 40 10 6 (.object "MapsOfNothing$Land") true := ⟨_, rfl, clok_X11, Nat.le_of_ble_eq_true rfl, tb_559, by decide +kernel, rfl, fun h => rfl⟩
theorem fd_RX11_49 : qa_fd RX11 49 10 7 (.object "MapsOfNothing$LandReader") true := ⟨_, rfl, clok_X11, Nat.le_of_ble_eq_true rfl, tb_560, by decide +kernel, rfl, fun h => rfl⟩
theorem fd_RX11_58 : qa_fd RX11 58 10 8 (.object "MapsOfNothing$LawReader") true := ⟨_, rfl, clok_X11, Nat.le_of_ble_eq_true rfl, tb_561, by decide +kernel, rfl, fun h => rfl⟩
theorem fd_RX11_67 : qa_fd RX11 67 10 9 (.object "MapsOfNothing$Search") true := ⟨_, rfl, clok_X11, Nat.le_of_ble_eq_true rfl, tb_562, by decide +kernel, rfl, fun h => rfl⟩
theorem fd_RX11_74 : qa_fd RX11 74 10 10 (.object "MapsOfNothing$Fits") true := ⟨_, rfl, clok_X11, Nat.le_of_ble_eq_true rfl, tb_563, by decide +kernel, rfl, fun h => rfl⟩
theorem fd_RX11_81 : qa_fd RX11 81 10 11 (.object "MapsOfNothing$Climbs") true := ⟨_, rfl, clok_X11, Nat.le_of_ble_eq_true rfl, tb_564, by decide +kernel, rfl, fun h => rfl⟩
theorem fd_RX11_88 : qa_fd RX11 88 10 12 (.object "MapsOfNothing$Walks") true := ⟨_, rfl, clok_X11, Nat.le_of_ble_eq_true rfl, tb_565, by decide +kernel, rfl, fun h => rfl⟩
theorem fd_RX0_9 : qa_fd RX0 9 0 1 (.array .long) true := ⟨_, rfl, clok_X0, Nat.le_of_ble_eq_true rfl, tb_449, by decide +kernel, rfl, fun h => rfl⟩
theorem fd_RX0_15 : qa_fd RX0 15 0 2 (.array .int) true := ⟨_, rfl, clok_X0, Nat.le_of_ble_eq_true rfl, tb_450, by decide +kernel, rfl, fun h => rfl⟩
theorem fd_RX0_19 : qa_fd RX0 19 0 3 (.array .int) true := ⟨_, rfl, clok_X0, Nat.le_of_ble_eq_true rfl, tb_451, by decide +kernel, rfl, fun h => rfl⟩
theorem fd_RX0_25 : qa_fd RX0 25 0 9 (.array .int) true := ⟨_, rfl, clok_X0, Nat.le_of_ble_eq_true rfl, tb_457, by decide +kernel, rfl, fun h => rfl⟩
theorem fd_RX0_28 : qa_fd RX0 28 0 10 (.array .int) true := ⟨_, rfl, clok_X0, Nat.le_of_ble_eq_true rfl, tb_458, by decide +kernel, rfl, fun h => rfl⟩
theorem fd_RX0_31 : qa_fd RX0 31 0 11 (.array .int) true := ⟨_, rfl, clok_X0, Nat.le_of_ble_eq_true rfl, tb_459, by decide +kernel, rfl, fun h => rfl⟩
theorem fd_RX1_11 : qa_fd RX1 11 1 1 (.array .int) true := ⟨_, rfl, clok_X1, Nat.le_of_ble_eq_true rfl, tb_421, by decide +kernel, rfl, fun h => rfl⟩
theorem fd_RX1_15 : qa_fd RX1 15 1 2 (.array .int) true := ⟨_, rfl, clok_X1, Nat.le_of_ble_eq_true rfl, tb_422, by decide +kernel, rfl, fun h => rfl⟩
theorem fd_RX1_18 : qa_fd RX1 18 1 3 (.array .int) true := ⟨_, rfl, clok_X1, Nat.le_of_ble_eq_true rfl, tb_423, by decide +kernel, rfl, fun h => rfl⟩
theorem fd_RX1_21 : qa_fd RX1 21 1 5 (.array .long) true := ⟨_, rfl, clok_X1, Nat.le_of_ble_eq_true rfl, tb_425, by decide +kernel, rfl, fun h => rfl⟩
theorem fd_RX1_25 : qa_fd RX1 25 1 6 (.array .int) true := ⟨_, rfl, clok_X1, Nat.le_of_ble_eq_true rfl, tb_426, by decide +kernel, rfl, fun h => rfl⟩
theorem fd_RX3_9 : qa_fd RX3 9 2 8 (.array .int) true := ⟨_, rfl, clok_X3, Nat.le_of_ble_eq_true rfl, tb_231, by decide +kernel, rfl, fun h => rfl⟩
theorem fd_RX3_15 : qa_fd RX3 15 2 9 (.array .int) true := ⟨_, rfl, clok_X3, Nat.le_of_ble_eq_true rfl, tb_234, by decide +kernel, rfl, fun h => rfl⟩
theorem fd_RX3_18 : qa_fd RX3 18 2 10 (.array .long) true := ⟨_, rfl, clok_X3, Nat.le_of_ble_eq_true rfl, tb_236, by decide +kernel, rfl, fun h => rfl⟩
theorem fd_RX3_22 : qa_fd RX3 22 2 11 (.array .long) true := ⟨_, rfl, clok_X3, Nat.le_of_ble_eq_true rfl, tb_240, by decide +kernel, rfl, fun h => rfl⟩
theorem fd_RX3_25 : qa_fd RX3 25 2 12 (.array .int) true := ⟨_, rfl, clok_X3, Nat.le_of_ble_eq_true rfl, tb_243, by decide +kernel, rfl, fun h => rfl⟩
theorem fd_RX4_9 : qa_fd RX4 9 3 0 (.object "MapsOfNothing$Tape") true := ⟨_, rfl, clok_X4, Nat.le_of_ble_eq_true rfl, tb_308, by decide +kernel, rfl, fun h => rfl⟩
theorem fd_RX4_15 : qa_fd RX4 15 3 1 (.object "MapsOfNothing$Land") true := ⟨_, rfl, clok_X4, Nat.le_of_ble_eq_true rfl, tb_309, by decide +kernel, rfl, fun h => rfl⟩
theorem fd_RX5_11 : qa_fd RX5 11 4 1 (.array .int) true := ⟨_, rfl, clok_X5, Nat.le_of_ble_eq_true rfl, tb_517, by decide +kernel, rfl, fun h => rfl⟩
theorem fd_RX5_15 : qa_fd RX5 15 4 2 (.array .int) true := ⟨_, rfl, clok_X5, Nat.le_of_ble_eq_true rfl, tb_519, by decide +kernel, rfl, fun h => rfl⟩
theorem fd_RX5_18 : qa_fd RX5 18 4 3 (.array .int) true := ⟨_, rfl, clok_X5, Nat.le_of_ble_eq_true rfl, tb_521, by decide +kernel, rfl, fun h => rfl⟩
theorem fd_RX5_21 : qa_fd RX5 21 4 5 (.array .int) true := ⟨_, rfl, clok_X5, Nat.le_of_ble_eq_true rfl, tb_524, by decide +kernel, rfl, fun h => rfl⟩
theorem fd_RX5_24 : qa_fd RX5 24 4 6 (.array .int) true := ⟨_, rfl, clok_X5, Nat.le_of_ble_eq_true rfl, tb_525, by decide +kernel, rfl, fun h => rfl⟩
theorem fd_RX5_29 : qa_fd RX5 29 4 7 (.array .int) true := ⟨_, rfl, clok_X5, Nat.le_of_ble_eq_true rfl, tb_526, by decide +kernel, rfl, fun h => rfl⟩
theorem fd_RX5_32 : qa_fd RX5 32 4 9 (.array .long) true := ⟨_, rfl, clok_X5, Nat.le_of_ble_eq_true rfl, tb_528, by decide +kernel, rfl, fun h => rfl⟩
theorem fd_RX5_36 : qa_fd RX5 36 4 10 (.array .int) true := ⟨_, rfl, clok_X5, Nat.le_of_ble_eq_true rfl, tb_529, by decide +kernel, rfl, fun h => rfl⟩
theorem fd_RX6_9 : qa_fd RX6 9 5 0 (.object "MapsOfNothing$Tape") true := ⟨_, rfl, clok_X6, Nat.le_of_ble_eq_true rfl, tb_334, by decide +kernel, rfl, fun h => rfl⟩
theorem fd_RX7_9 : qa_fd RX7 9 6 0 (.array .long) true := ⟨_, rfl, clok_X7, Nat.le_of_ble_eq_true rfl, tb_359, by decide +kernel, rfl, fun h => rfl⟩
theorem fd_RX7_15 : qa_fd RX7 15 6 2 (.array .long) true := ⟨_, rfl, clok_X7, Nat.le_of_ble_eq_true rfl, tb_361, by decide +kernel, rfl, fun h => rfl⟩
theorem fd_RX7_18 : qa_fd RX7 18 6 3 (.array .int) true := ⟨_, rfl, clok_X7, Nat.le_of_ble_eq_true rfl, tb_362, by decide +kernel, rfl, fun h => rfl⟩
theorem fd_RX7_22 : qa_fd RX7 22 6 5 (.array .int) true := ⟨_, rfl, clok_X7, Nat.le_of_ble_eq_true rfl, tb_364, by decide +kernel, rfl, fun h => rfl⟩
theorem fd_RX7_25 : qa_fd RX7 25 6 6 (.array .long) true := ⟨_, rfl, clok_X7, Nat.le_of_ble_eq_true rfl, tb_365, by decide +kernel, rfl, fun h => rfl⟩
theorem fd_RX7_28 : qa_fd RX7 28 6 9 (.array .long) true := ⟨_, rfl, clok_X7, Nat.le_of_ble_eq_true rfl, tb_368, by decide +kernel, rfl, fun h => rfl⟩
theorem fd_RX7_31 : qa_fd RX7 31 6 10 (.array .int) true := ⟨_, rfl, clok_X7, Nat.le_of_ble_eq_true rfl, tb_369, by decide +kernel, rfl, fun h => rfl⟩
theorem fd_RX7_34 : qa_fd RX7 34 6 11 (.array .int) true := ⟨_, rfl, clok_X7, Nat.le_of_ble_eq_true rfl, tb_370, by decide +kernel, rfl, fun h => rfl⟩
theorem fd_RX7_37 : qa_fd RX7 37 6 13 (.array .int) true := ⟨_, rfl, clok_X7, Nat.le_of_ble_eq_true rfl, tb_372, by decide +kernel, rfl, fun h => rfl⟩
theorem fd_RX7_40 : qa_fd RX7 40 6 14 (.array .long) true := ⟨_, rfl, clok_X7, Nat.le_of_ble_eq_true rfl, tb_373, by decide +kernel, rfl, fun h => rfl⟩
theorem fd_RX7_43 : qa_fd RX7 43 6 16 (.array .int) true := ⟨_, rfl, clok_X7, Nat.le_of_ble_eq_true rfl, tb_377, by decide +kernel, rfl, fun h => rfl⟩
theorem fd_RX7_46 : qa_fd RX7 46 6 1 (.object "MapsOfNothing$State") true := ⟨_, rfl, clok_X7, Nat.le_of_ble_eq_true rfl, tb_360, by decide +kernel, rfl, fun h => rfl⟩
theorem fd_RX8_12 : qa_fd RX8 12 7 0 (.object "MapsOfNothing$Land") true := ⟨_, rfl, clok_X8, Nat.le_of_ble_eq_true rfl, tb_274, by decide +kernel, rfl, fun h => rfl⟩
theorem fd_RX8_18 : qa_fd RX8 18 7 2 (.array .int) true := ⟨_, rfl, clok_X8, Nat.le_of_ble_eq_true rfl, tb_281, by decide +kernel, rfl, fun h => rfl⟩
theorem fd_RX9_11 : qa_fd RX9 11 8 0 (.array .int) true := ⟨_, rfl, clok_X9, Nat.le_of_ble_eq_true rfl, tb_155, by decide +kernel, rfl, fun h => rfl⟩
theorem fd_RX10_9 : qa_fd RX10 9 9 0 (.array .int) true := ⟨_, rfl, clok_X10, Nat.le_of_ble_eq_true rfl, tb_503, by decide +kernel, rfl, fun h => rfl⟩
theorem fd_RX10_15 : qa_fd RX10 15 9 1 (.array .int) true := ⟨_, rfl, clok_X10, Nat.le_of_ble_eq_true rfl, tb_504, by decide +kernel, rfl, fun h => rfl⟩
theorem fd_RX12_7 : qa_fd RX12 7 11 1 (.array .int) true := ⟨_, rfl, clok_X12, Nat.le_of_ble_eq_true rfl, tb_1336, by decide +kernel, rfl, fun h => rfl⟩
theorem fd_RX12_13 : qa_fd RX12 13 11 2 (.array .int) true := ⟨_, rfl, clok_X12, Nat.le_of_ble_eq_true rfl, tb_1337, by decide +kernel, rfl, fun h => rfl⟩
theorem fd_RX12_16 : qa_fd RX12 16 11 3 (.array .int) true := ⟨_, rfl, clok_X12, Nat.le_of_ble_eq_true rfl, tb_1338, by decide +kernel, rfl, fun h => rfl⟩
theorem fd_RX12_19 : qa_fd RX12 19 11 4 (.array .int) true := ⟨_, rfl, clok_X12, Nat.le_of_ble_eq_true rfl, tb_1339, by decide +kernel, rfl, fun h => rfl⟩
theorem fd_RX12_22 : qa_fd RX12 22 11 5 (.array .int) true := ⟨_, rfl, clok_X12, Nat.le_of_ble_eq_true rfl, tb_1340, by decide +kernel, rfl, fun h => rfl⟩
theorem fd_RX12_25 : qa_fd RX12 25 11 6 (.array .int) true := ⟨_, rfl, clok_X12, Nat.le_of_ble_eq_true rfl, tb_1341, by decide +kernel, rfl, fun h => rfl⟩
theorem fd_RX12_28 : qa_fd RX12 28 11 7 (.array .int) true := ⟨_, rfl, clok_X12, Nat.le_of_ble_eq_true rfl, tb_1342, by decide +kernel, rfl, fun h => rfl⟩
theorem fd_RX12_31 : qa_fd RX12 31 11 8 (.array .int) true := ⟨_, rfl, clok_X12, Nat.le_of_ble_eq_true rfl, tb_1343, by decide +kernel, rfl, fun h => rfl⟩
theorem fd_RX12_34 : qa_fd RX12 34 11 9 (.array .int) true := ⟨_, rfl, clok_X12, Nat.le_of_ble_eq_true rfl, tb_1344, by decide +kernel, rfl, fun h => rfl⟩
theorem fd_RX12_37 : qa_fd RX12 37 11 10 (.array .int) true := ⟨_, rfl, clok_X12, Nat.le_of_ble_eq_true rfl, tb_1345, by decide +kernel, rfl, fun h => rfl⟩
theorem fd_RX12_40 : qa_fd RX12 40 11 11 (.array .int) true := ⟨_, rfl, clok_X12, Nat.le_of_ble_eq_true rfl, tb_1346, by decide +kernel, rfl, fun h => rfl⟩
theorem fd_RX12_43 : qa_fd RX12 43 11 12 (.array .int) true := ⟨_, rfl, clok_X12, Nat.le_of_ble_eq_true rfl, tb_1347, by decide +kernel, rfl, fun h => rfl⟩
theorem fd_RX12_46 : qa_fd RX12 46 11 13 (.array .int) true := ⟨_, rfl, clok_X12, Nat.le_of_ble_eq_true rfl, tb_1348, by decide +kernel, rfl, fun h => rfl⟩
theorem fd_RX12_49 : qa_fd RX12 49 11 14 (.array .int) true := ⟨_, rfl, clok_X12, Nat.le_of_ble_eq_true rfl, tb_1349, by decide +kernel, rfl, fun h => rfl⟩
theorem fd_RX12_52 : qa_fd RX12 52 11 15 (.array .int) true := ⟨_, rfl, clok_X12, Nat.le_of_ble_eq_true rfl, tb_1350, by decide +kernel, rfl, fun h => rfl⟩
theorem fd_RX12_55 : qa_fd RX12 55 11 16 (.array .int) true := ⟨_, rfl, clok_X12, Nat.le_of_ble_eq_true rfl, tb_1351, by decide +kernel, rfl, fun h => rfl⟩
theorem fd_RX12_58 : qa_fd RX12 58 11 17 (.array .int) true := ⟨_, rfl, clok_X12, Nat.le_of_ble_eq_true rfl, tb_1352, by decide +kernel, rfl, fun h => rfl⟩
theorem fd_RX12_61 : qa_fd RX12 61 11 18 (.array .int) true := ⟨_, rfl, clok_X12, Nat.le_of_ble_eq_true rfl, tb_1353, by decide +kernel, rfl, fun h => rfl⟩
theorem fd_RX12_64 : qa_fd RX12 64 11 19 (.array .int) true := ⟨_, rfl, clok_X12, Nat.le_of_ble_eq_true rfl, tb_1354, by decide +kernel, rfl, fun h => rfl⟩
theorem fd_RX12_67 : qa_fd RX12 67 11 29 .int false := ⟨_, rfl, clok_X12, Nat.le_of_ble_eq_true rfl, tb_1364, by decide +kernel, rfl, fun h => by cases h⟩
theorem fd_RX12_71 : qa_fd RX12 71 11 30 (.array .byte) true := ⟨_, rfl, clok_X12, Nat.le_of_ble_eq_true rfl, tb_1365, by decide +kernel, rfl, fun h => rfl⟩
theorem fd_RX12_75 : qa_fd RX12 75 11 31 (.array .int) true := ⟨_, rfl, clok_X12, Nat.le_of_ble_eq_true rfl, tb_1366, by decide +kernel, rfl, fun h => rfl⟩
theorem fd_RX12_78 : qa_fd RX12 78 11 32 (.array .int) true := ⟨_, rfl, clok_X12, Nat.le_of_ble_eq_true rfl, tb_1367, by decide +kernel, rfl, fun h => rfl⟩
theorem fd_RX12_81 : qa_fd RX12 81 11 33 (.array .int) true := ⟨_, rfl, clok_X12, Nat.le_of_ble_eq_true rfl, tb_1368, by decide +kernel, rfl, fun h => rfl⟩
theorem fd_RX12_84 : qa_fd RX12 84 11 34 (.array .int) true := ⟨_, rfl, clok_X12, Nat.le_of_ble_eq_true rfl, tb_1369, by decide +kernel, rfl, fun h => rfl⟩
theorem fd_RX12_87 : qa_fd RX12 87 11 35 (.array .int) true := ⟨_, rfl, clok_X12, Nat.le_of_ble_eq_true rfl, tb_1370, by decide +kernel, rfl, fun h => rfl⟩
theorem fd_RX12_90 : qa_fd RX12 90 11 36 (.array .int) true := ⟨_, rfl, clok_X12, Nat.le_of_ble_eq_true rfl, tb_1371, by decide +kernel, rfl, fun h => rfl⟩
theorem fd_RX12_93 : qa_fd RX12 93 11 37 (.array .int) true := ⟨_, rfl, clok_X12, Nat.le_of_ble_eq_true rfl, tb_1372, by decide +kernel, rfl, fun h => rfl⟩
theorem fd_RX12_96 : qa_fd RX12 96 11 38 (.array .int) true := ⟨_, rfl, clok_X12, Nat.le_of_ble_eq_true rfl, tb_1373, by decide +kernel, rfl, fun h => rfl⟩
theorem fd_RX12_99 : qa_fd RX12 99 11 39 (.array .int) true := ⟨_, rfl, clok_X12, Nat.le_of_ble_eq_true rfl, tb_1374, by decide +kernel, rfl, fun h => rfl⟩
theorem fd_RX12_102 : qa_fd RX12 102 11 40 (.array .long) true := ⟨_, rfl, clok_X12, Nat.le_of_ble_eq_true rfl, tb_1375, by decide +kernel, rfl, fun h => rfl⟩
theorem fd_RX12_106 : qa_fd RX12 106 11 41 (.array .long) true := ⟨_, rfl, clok_X12, Nat.le_of_ble_eq_true rfl, tb_1376, by decide +kernel, rfl, fun h => rfl⟩
theorem fd_RX12_109 : qa_fd RX12 109 11 42 (.array .int) true := ⟨_, rfl, clok_X12, Nat.le_of_ble_eq_true rfl, tb_1377, by decide +kernel, rfl, fun h => rfl⟩
theorem fd_RX12_112 : qa_fd RX12 112 11 43 (.array .int) true := ⟨_, rfl, clok_X12, Nat.le_of_ble_eq_true rfl, tb_1378, by decide +kernel, rfl, fun h => rfl⟩
theorem fd_RX12_115 : qa_fd RX12 115 11 44 (.array .int) true := ⟨_, rfl, clok_X12, Nat.le_of_ble_eq_true rfl, tb_1379, by decide +kernel, rfl, fun h => rfl⟩
theorem fd_RX12_118 : qa_fd RX12 118 11 45 (.array .long) true := ⟨_, rfl, clok_X12, Nat.le_of_ble_eq_true rfl, tb_1380, by decide +kernel, rfl, fun h => rfl⟩
theorem fd_RX12_121 : qa_fd RX12 121 11 46 (.array .long) true := ⟨_, rfl, clok_X12, Nat.le_of_ble_eq_true rfl, tb_1381, by decide +kernel, rfl, fun h => rfl⟩
theorem fd_RX12_124 : qa_fd RX12 124 11 47 (.array .long) true := ⟨_, rfl, clok_X12, Nat.le_of_ble_eq_true rfl, tb_1382, by decide +kernel, rfl, fun h => rfl⟩
theorem fd_RX12_127 : qa_fd RX12 127 11 52 (.array .int) true := ⟨_, rfl, clok_X12, Nat.le_of_ble_eq_true rfl, tb_1387, by decide +kernel, rfl, fun h => rfl⟩
theorem fd_RX12_130 : qa_fd RX12 130 11 53 (.array .int) true := ⟨_, rfl, clok_X12, Nat.le_of_ble_eq_true rfl, tb_1388, by decide +kernel, rfl, fun h => rfl⟩
theorem fd_RX12_133 : qa_fd RX12 133 11 54 (.array .int) true := ⟨_, rfl, clok_X12, Nat.le_of_ble_eq_true rfl, tb_1389, by decide +kernel, rfl, fun h => rfl⟩
theorem fd_RX12_136 : qa_fd RX12 136 11 55 (.array .int) true := ⟨_, rfl, clok_X12, Nat.le_of_ble_eq_true rfl, tb_1390, by decide +kernel, rfl, fun h => rfl⟩
theorem fd_RX12_139 : qa_fd RX12 139 11 56 (.array .int) true := ⟨_, rfl, clok_X12, Nat.le_of_ble_eq_true rfl, tb_1391, by decide +kernel, rfl, fun h => rfl⟩
theorem fd_RX12_142 : qa_fd RX12 142 11 57 (.array .int) true := ⟨_, rfl, clok_X12, Nat.le_of_ble_eq_true rfl, tb_1392, by decide +kernel, rfl, fun h => rfl⟩
theorem fd_RX12_145 : qa_fd RX12 145 11 58 (.array .int) true := ⟨_, rfl, clok_X12, Nat.le_of_ble_eq_true rfl, tb_1393, by decide +kernel, rfl, fun h => rfl⟩
theorem fd_RX12_148 : qa_fd RX12 148 11 59 (.array .int) true := ⟨_, rfl, clok_X12, Nat.le_of_ble_eq_true rfl, tb_1394, by decide +kernel, rfl, fun h => rfl⟩
theorem fd_RX12_151 : qa_fd RX12 151 11 60 (.array .int) true := ⟨_, rfl, clok_X12, Nat.le_of_ble_eq_true rfl, tb_1395, by decide +kernel, rfl, fun h => rfl⟩
theorem fd_RX12_154 : qa_fd RX12 154 11 61 (.array .boolean) true := ⟨_, rfl, clok_X12, Nat.le_of_ble_eq_true rfl, tb_1396, by decide +kernel, rfl, fun h => rfl⟩
theorem fk_X0 : ∀ j, j < 16 → (([0, 2, 2, 2, 0, 0, 0, 0, 2, 2, 2, 2, 0, 0, 0, 0] : List Nat).getD j 0 < 3 ∧ defaultValue (tyX0 j) = qd_def (([0, 2, 2, 2, 0, 0, 0, 0, 2, 2, 2, 2, 0, 0, 0, 0] : List Nat).getD j 0)) := by decide
theorem fk_X1 : ∀ j, j < 7 → (([0, 2, 2, 2, 0, 2, 2] : List Nat).getD j 0 < 3 ∧ defaultValue (tyX1 j) = qd_def (([0, 2, 2, 2, 0, 2, 2] : List Nat).getD j 0)) := by decide
theorem fk_X10 : ∀ j, j < 2 → (([2, 2] : List Nat).getD j 0 < 3 ∧ defaultValue (tyX10 j) = qd_def (([2, 2] : List Nat).getD j 0)) := by decide
theorem fk_X3 : ∀ j, j < 13 → (([0, 0, 0, 0, 0, 0, 1, 1, 2, 2, 2, 2, 2] : List Nat).getD j 0 < 3 ∧ defaultValue (tyX3 j) = qd_def (([0, 0, 0, 0, 0, 0, 1, 1, 2, 2, 2, 2, 2] : List Nat).getD j 0)) := by decide
theorem fk_X4 : ∀ j, j < 6 → (([2, 2, 0, 0, 0, 0] : List Nat).getD j 0 < 3 ∧ defaultValue (tyX4 j) = qd_def (([2, 2, 0, 0, 0, 0] : List Nat).getD j 0)) := by decide
theorem fk_X5 : ∀ j, j < 11 → (([0, 2, 2, 2, 0, 2, 2, 2, 0, 2, 2] : List Nat).getD j 0 < 3 ∧ defaultValue (tyX5 j) = qd_def (([0, 2, 2, 2, 0, 2, 2, 2, 0, 2, 2] : List Nat).getD j 0)) := by decide
theorem fk_X6 : ∀ j, j < 4 → (([2, 2, 0, 0] : List Nat).getD j 0 < 3 ∧ defaultValue (tyX6 j) = qd_def (([2, 2, 0, 0] : List Nat).getD j 0)) := by decide
theorem fk_X7 : ∀ j, j < 17 → (([2, 2, 2, 2, 0, 2, 2, 0, 0, 2, 2, 2, 0, 2, 2, 1, 2] : List Nat).getD j 0 < 3 ∧ defaultValue (tyX7 j) = qd_def (([2, 2, 2, 2, 0, 2, 2, 0, 0, 2, 2, 2, 0, 2, 2, 1, 2] : List Nat).getD j 0)) := by decide
theorem fk_X8 : ∀ j, j < 5 → (([2, 0, 2, 0, 0] : List Nat).getD j 0 < 3 ∧ defaultValue (tyX8 j) = qd_def (([2, 0, 2, 0, 0] : List Nat).getD j 0)) := by decide
theorem fk_X9 : ∀ j, j < 8 → (([2, 0, 0, 0, 0, 0, 0, 0] : List Nat).getD j 0 < 3 ∧ defaultValue (tyX9 j) = qd_def (([2, 0, 0, 0, 0, 0, 0, 0] : List Nat).getD j 0)) := by decide
theorem ci_RX11_9 : qa_ci RX11 9 (yX9_init, cX9_init, 1, none) 0 ∨ qa_cin RX11 9 (yX9_init, cX9_init, 1, none) 0 := Or.inr ⟨List.mem_of_getElem? (i := 0) rfl, tb_152, tb_120, tb_153, ⟨by decide +kernel, by decide +kernel, by decide +kernel⟩, Nat.le_of_ble_eq_true rfl, rfl⟩
theorem ci_RX11_18 : qa_ci RX11 18 (yX8_init, cX8_init, 1, none) 0 ∨ qa_cin RX11 18 (yX8_init, cX8_init, 1, none) 0 := Or.inr ⟨List.mem_of_getElem? (i := 1) rfl, tb_194, tb_121, tb_195, ⟨by decide +kernel, by decide +kernel, by decide +kernel⟩, Nat.le_of_ble_eq_true rfl, rfl⟩
theorem ci_RX11_39 : qa_ci RX11 39 (yX3_init, cX3_init, 1, none) 0 ∨ qa_cin RX11 39 (yX3_init, cX3_init, 1, none) 0 := Or.inr ⟨List.mem_of_getElem? (i := 3) rfl, tb_200, tb_122, tb_201, ⟨by decide +kernel, by decide +kernel, by decide +kernel⟩, Nat.le_of_ble_eq_true rfl, rfl⟩
theorem ci_RX11_46 : qa_ci RX11 46 (yX4_init, cX4_init, 3, none) 2 ∨ qa_cin RX11 46 (yX4_init, cX4_init, 3, none) 2 := Or.inl ⟨tb_304, tb_305, tb_123, tb_306, ⟨by decide +kernel, by decide +kernel, by decide +kernel⟩, Nat.le_of_ble_eq_true rfl, rfl⟩
theorem ci_RX11_55 : qa_ci RX11 55 (yX6_init, cX6_init, 2, none) 1 ∨ qa_cin RX11 55 (yX6_init, cX6_init, 2, none) 1 := Or.inl ⟨tb_330, tb_331, tb_124, tb_332, ⟨by decide +kernel, by decide +kernel, by decide +kernel⟩, Nat.le_of_ble_eq_true rfl, rfl⟩
theorem ci_RX11_64 : qa_ci RX11 64 (yX7_init, cX7_init, 6, none) 1 ∨ qa_cin RX11 64 (yX7_init, cX7_init, 6, none) 1 := Or.inl ⟨tb_349, tb_350, tb_125, tb_351, ⟨by decide +kernel, by decide +kernel, by decide +kernel⟩, Nat.le_of_ble_eq_true rfl, rfl⟩
theorem ci_RX11_73 : qa_ci RX11 73 (yX1_init, cX1_init, 1, none) 0 ∨ qa_cin RX11 73 (yX1_init, cX1_init, 1, none) 0 := Or.inr ⟨List.mem_of_getElem? (i := 4) rfl, tb_417, tb_127, tb_418, ⟨by decide +kernel, by decide +kernel, by decide +kernel⟩, Nat.le_of_ble_eq_true rfl, rfl⟩
theorem ci_RX11_80 : qa_ci RX11 80 (yX0_init, cX0_init, 1, none) 0 ∨ qa_cin RX11 80 (yX0_init, cX0_init, 1, none) 0 := Or.inr ⟨List.mem_of_getElem? (i := 5) rfl, tb_445, tb_128, tb_446, ⟨by decide +kernel, by decide +kernel, by decide +kernel⟩, Nat.le_of_ble_eq_true rfl, rfl⟩
theorem ci_RX11_87 : qa_ci RX11 87 (yX10_init, cX10_init, 1, none) 0 ∨ qa_cin RX11 87 (yX10_init, cX10_init, 1, none) 0 := Or.inr ⟨List.mem_of_getElem? (i := 6) rfl, tb_500, tb_129, tb_501, ⟨by decide +kernel, by decide +kernel, by decide +kernel⟩, Nat.le_of_ble_eq_true rfl, rfl⟩
theorem ci_RX11_96 : qa_ci RX11 96 (yX5_init, cX5_init, 1, none) 0 ∨ qa_cin RX11 96 (yX5_init, cX5_init, 1, none) 0 := Or.inr ⟨List.mem_of_getElem? (i := 7) rfl, tb_512, tb_130, tb_513, ⟨by decide +kernel, by decide +kernel, by decide +kernel⟩, Nat.le_of_ble_eq_true rfl, rfl⟩
theorem ci_RX8_11 : qa_ci RX8 11 (yX3_init, cX3_init, 1, none) 0 ∨ qa_cin RX8 11 (yX3_init, cX3_init, 1, none) 0 := Or.inr ⟨List.mem_of_getElem? (i := 2) rfl, tb_200, tb_122, tb_201, ⟨by decide +kernel, by decide +kernel, by decide +kernel⟩, Nat.le_of_ble_eq_true rfl, rfl⟩
theorem cv_RX7_50 : qa_cs RX7 50 (yX2_grow, cX2_grow, 4, (some .long)) 1 := ⟨tb_353, tb_354, tb_126, tb_355, ⟨by decide +kernel, by decide +kernel, by decide +kernel⟩, Nat.le_of_ble_eq_true rfl⟩
noncomputable def m_X9_init (h : qa_M) : Option qa_M :=
  qbd (qw_z h 2) (fun h1 : qa_M =>
  qbd (qw_R h1 1 0 (2 + 1)) (fun h2 : qa_M =>
  some h2))
set_option maxRecDepth 20000 in
theorem k_X9_init {l : Launch} {g : qa_G} {d : Nat} (h : qa_M) {h1z : qa_M} (E : m_X9_init h = some h1z) : qv_Met l g (yX9_init, cX9_init, 1, none) (d + 1) 1 400 [.ref (g.1 + 1)] 2 h none 3 h1z := by
  refine qv_Met.of (plainFor_of_name (by decide)) (Nat.le_of_ble_eq_true rfl) ?_
  unfold m_X9_init at E
  refine qv_aload_n 0 dX9_init_0 rfl rfl ?_
  refine qv_objInit tb_154 (Nat.le_of_ble_eq_true rfl) dX9_init_1 ?_
  refine qv_aload_n 0 dX9_init_4 rfl rfl ?_
  refine qv_sipush dX9_init_5 cs_400 ?_
  refine qv_newI (show qa_layD[2]? = some (.inr (0, 400)) from rfl) (by decide) (by decide) (Nat.le_of_ble_eq_true rfl) (Nat.le_of_ble_eq_true rfl) dX9_init_8 E (fun h1 E => ?_)
  refine qv_putF (qL_at (i := 3) (kd := .inl (8, [2, 0, 0, 0, 0, 0, 0, 0])) rfl (by decide)) fd_RX9_11 rfl rfl rfl rfl dX9_init_10 E (fun h2 E => ?_)
  exact qv_vreturn rfl (Nat.le_of_ble_eq_true rfl) (Nat.le_of_ble_eq_true rfl) rfl dX9_init_13 E ⟨rfl, rfl⟩
noncomputable def m_X3_init (a0 : Nat) (h : qa_M) : Option qa_M :=
  qbd (qw_z h (a0 + 1)) (fun h1 : qa_M =>
  qbd (qw_R h1 a0 8 ((a0 + 1) + 1)) (fun h2 : qa_M =>
  qbd (qw_z h2 (a0 + 2)) (fun h3 : qa_M =>
  qbd (qw_R h3 a0 9 ((a0 + 2) + 1)) (fun h4 : qa_M =>
  qbd (qw_z h4 (a0 + 3)) (fun h5 : qa_M =>
  qbd (qw_R h5 a0 10 ((a0 + 3) + 1)) (fun h6 : qa_M =>
  qbd (qw_z h6 (a0 + 4)) (fun h7 : qa_M =>
  qbd (qw_R h7 a0 11 ((a0 + 4) + 1)) (fun h8 : qa_M =>
  qbd (qw_z h8 (a0 + 5)) (fun h9 : qa_M =>
  qbd (qw_R h9 a0 12 ((a0 + 5) + 1)) (fun h10 : qa_M =>
  some h10))))))))))
set_option maxRecDepth 20000 in
theorem k_X3_init {l : Launch} {g : qa_G} {d : Nat} (a0 : Nat) (h : qa_M) (ha0 : qLand a0) {h1z : qa_M} (E : m_X3_init a0 h = some h1z) : qv_Met l g (yX3_init, cX3_init, 1, none) (d + 1) 5 34 [.ref (g.1 + a0)] (a0 + 1) h none (a0 + 6) h1z := by
  refine qv_Met.of (plainFor_of_name (by decide)) (Nat.le_of_ble_eq_true rfl) ?_
  unfold m_X3_init at E
  refine qv_aload_n 0 dX3_init_0 rfl rfl ?_
  refine qv_objInit tb_202 (Nat.le_of_ble_eq_true rfl) dX3_init_1 ?_
  refine qv_aload_n 0 dX3_init_4 rfl rfl ?_
  refine qv_bipush dX3_init_5 cb_8 ?_
  refine qv_newI (wd_Land_1 ha0) (by decide) (by decide) (Nat.le_of_ble_eq_true rfl) (Nat.le_of_ble_eq_true rfl) dX3_init_7 E (fun h1 E => ?_)
  refine qv_putF (qL_at (i := (a0 + 2)) (wd_Land_0 ha0) (by omega)) fd_RX3_9 rfl rfl rfl rfl dX3_init_9 E (fun h2 E => ?_)
  refine qv_aload_n 0 dX3_init_12 rfl rfl ?_
  refine qv_bipush dX3_init_13 cb_8 ?_
  refine qv_newI (wd_Land_2 ha0) (by decide) (by decide) (Nat.le_of_ble_eq_true rfl) (Nat.le_of_ble_eq_true rfl) dX3_init_15 E (fun h3 E => ?_)
  refine qv_putF (qL_at (i := (a0 + 3)) (wd_Land_0 ha0) (by omega)) fd_RX3_15 rfl rfl rfl rfl dX3_init_17 E (fun h4 E => ?_)
  refine qv_aload_n 0 dX3_init_20 rfl rfl ?_
  refine qv_bipush dX3_init_21 cb_8 ?_
  refine qv_newJ (wd_Land_3 ha0) (by decide) (by decide) (Nat.le_of_ble_eq_true rfl) (Nat.le_of_ble_eq_true rfl) dX3_init_23 E (fun h5 E => ?_)
  refine qv_putF (qL_at (i := (a0 + 4)) (wd_Land_0 ha0) (by omega)) fd_RX3_18 rfl rfl rfl rfl dX3_init_25 E (fun h6 E => ?_)
  refine qv_aload_n 0 dX3_init_28 rfl rfl ?_
  refine qv_bipush dX3_init_29 cb_6 ?_
  refine qv_newJ (wd_Land_4 ha0) (by decide) (by decide) (Nat.le_of_ble_eq_true rfl) (Nat.le_of_ble_eq_true rfl) dX3_init_31 E (fun h7 E => ?_)
  refine qv_putF (qL_at (i := (a0 + 5)) (wd_Land_0 ha0) (by omega)) fd_RX3_22 rfl rfl rfl rfl dX3_init_33 E (fun h8 E => ?_)
  refine qv_aload_n 0 dX3_init_36 rfl rfl ?_
  refine qv_iconst dX3_init_37 ci_4 ?_
  refine qv_newI (wd_Land_5 ha0) (by decide) (by decide) (Nat.le_of_ble_eq_true rfl) (Nat.le_of_ble_eq_true rfl) dX3_init_38 E (fun h9 E => ?_)
  refine qv_putF (qL_at (i := (a0 + 6)) (wd_Land_0 ha0) (by omega)) fd_RX3_25 rfl rfl rfl rfl dX3_init_40 E (fun h10 E => ?_)
  exact qv_vreturn rfl (Nat.le_of_ble_eq_true rfl) (Nat.le_of_ble_eq_true rfl) rfl dX3_init_43 E ⟨rfl, rfl⟩
noncomputable def m_X8_init (a0 : Nat) (h : qa_M) : Option qa_M :=
  qbd (qw_z h (a0 + 1)) (fun h1 : qa_M =>
  qbv (m_X3_init (a0 + 1) h1) (fun h2 : qa_M =>
  qbd (qw_R h2 a0 0 ((a0 + 1) + 1)) (fun h3 : qa_M =>
  qbd (qw_z h3 (a0 + 7)) (fun h4 : qa_M =>
  qbd (qw_R h4 a0 2 ((a0 + 7) + 1)) (fun h5 : qa_M =>
  qbd (qw_I h5 a0 3 (-1 : Int32)) (fun h6 : qa_M =>
  some h6))))))
set_option maxRecDepth 20000 in
theorem k_X8_init {l : Launch} {g : qa_G} {d : Nat} (a0 : Nat) (h : qa_M) (ha0 : qState a0) {h1z : qa_M} (E : m_X8_init a0 h = some h1z) : qv_Met l g (yX8_init, cX8_init, 1, none) (d + 2) 7 97 [.ref (g.1 + a0)] (a0 + 1) h none (a0 + 8) h1z := by
  refine qv_Met.of (plainFor_of_name (by decide)) (Nat.le_of_ble_eq_true rfl) ?_
  unfold m_X8_init at E
  refine qv_aload_n 0 dX8_init_0 rfl rfl ?_
  refine qv_objInit tb_196 (Nat.le_of_ble_eq_true rfl) dX8_init_1 ?_
  refine qv_aload_n 0 dX8_init_4 rfl rfl ?_
  refine qv_new (wd_State_1 ha0) rfl clok_X3 rfl tyX3 tyX3_ok fk_X3 tb_197 tb_198 tb_122 (Nat.le_of_ble_eq_true rfl) (Nat.le_of_ble_eq_true rfl) dX8_init_5 E (fun h1 E => ?_)
  refine qv_dup dX8_init_8 rfl ?_
  obtain ⟨h2, eh2, E⟩ := qbv_el E
  refine qv_callI (i3 := a0 + 7) [] (k_X3_init (a0 + 1) h1 (qState_land ha0) eh2) ci_RX8_11 rfl (Nat.le_of_ble_eq_true rfl) (Nat.le_of_ble_eq_true rfl) (Nat.le_of_ble_eq_true rfl) dX8_init_9 ?_
  refine qv_putF (qL_at (i := (a0 + 7)) (wd_State_0 ha0) (by omega)) fd_RX8_12 rfl rfl rfl rfl dX8_init_12 E (fun h3 E => ?_)
  refine qv_aload_n 0 dX8_init_15 rfl rfl ?_
  refine qv_bipush dX8_init_16 cb_50 ?_
  refine qv_newI (wd_State_7 ha0) (by decide) (by decide) (Nat.le_of_ble_eq_true rfl) (Nat.le_of_ble_eq_true rfl) dX8_init_18 E (fun h4 E => ?_)
  refine qv_putF (qL_at (i := (a0 + 8)) (wd_State_0 ha0) (by omega)) fd_RX8_18 rfl rfl rfl rfl dX8_init_20 E (fun h5 E => ?_)
  refine qv_aload_n 0 dX8_init_23 rfl rfl ?_
  refine qv_iconst dX8_init_24 ci_m1 ?_
  refine qv_putI (qL_at (i := (a0 + 8)) (wd_State_0 ha0) (by omega)) fd_RX8_22 rfl dX8_init_25 E (fun h6 E => ?_)
  exact qv_vreturn rfl (Nat.le_of_ble_eq_true rfl) (Nat.le_of_ble_eq_true rfl) rfl dX8_init_28 E ⟨rfl, rfl⟩
noncomputable def m_X4_init (h : qa_M) : Option qa_M :=
  qbd (qw_R h 20 0 (1 + 1)) (fun h1 : qa_M =>
  qbd (qw_R h1 20 1 (14 + 1)) (fun h2 : qa_M =>
  some h2))
set_option maxRecDepth 20000 in
theorem k_X4_init {l : Launch} {g : qa_G} {d : Nat} (h : qa_M) {h1z : qa_M} (E : m_X4_init h = some h1z) : qv_Met l g (yX4_init, cX4_init, 3, none) (d + 1) 0 0 [.ref (g.1 + 20), .ref (g.1 + 1), .ref (g.1 + 14)] 21 h none 21 h1z := by
  refine qv_Met.of (plainFor_of_name (by decide)) (Nat.le_of_ble_eq_true rfl) ?_
  unfold m_X4_init at E
  refine qv_aload_n 0 dX4_init_0 rfl rfl ?_
  refine qv_objInit tb_307 (Nat.le_of_ble_eq_true rfl) dX4_init_1 ?_
  refine qv_aload_n 0 dX4_init_4 rfl rfl ?_
  refine qv_aload_n 1 dX4_init_5 rfl rfl ?_
  refine qv_putF (qL_at (i := 21) (kd := .inl (3, [2, 2, 0, 0, 0, 0])) rfl (by decide)) fd_RX4_9 rfl rfl rfl rfl dX4_init_6 E (fun h1 E => ?_)
  refine qv_aload_n 0 dX4_init_9 rfl rfl ?_
  refine qv_aload_n 2 dX4_init_10 rfl rfl ?_
  refine qv_putF (qL_at (i := 21) (kd := .inl (3, [2, 2, 0, 0, 0, 0])) rfl (by decide)) fd_RX4_15 rfl rfl rfl rfl dX4_init_11 E (fun h2 E => ?_)
  exact qv_vreturn rfl (Nat.le_of_ble_eq_true rfl) (Nat.le_of_ble_eq_true rfl) rfl dX4_init_14 E ⟨rfl, rfl⟩
noncomputable def m_X6_init (h : qa_M) : Option qa_M :=
  qbd (qw_R h 21 0 (1 + 1)) (fun h1 : qa_M =>
  some h1)
set_option maxRecDepth 20000 in
theorem k_X6_init {l : Launch} {g : qa_G} {d : Nat} (h : qa_M) {h1z : qa_M} (E : m_X6_init h = some h1z) : qv_Met l g (yX6_init, cX6_init, 2, none) (d + 1) 0 0 [.ref (g.1 + 21), .ref (g.1 + 1)] 22 h none 22 h1z := by
  refine qv_Met.of (plainFor_of_name (by decide)) (Nat.le_of_ble_eq_true rfl) ?_
  unfold m_X6_init at E
  refine qv_aload_n 0 dX6_init_0 rfl rfl ?_
  refine qv_objInit tb_333 (Nat.le_of_ble_eq_true rfl) dX6_init_1 ?_
  refine qv_aload_n 0 dX6_init_4 rfl rfl ?_
  refine qv_aload_n 1 dX6_init_5 rfl rfl ?_
  refine qv_putF (qL_at (i := 22) (kd := .inl (5, [2, 2, 0, 0])) rfl (by decide)) fd_RX6_9 rfl rfl rfl rfl dX6_init_6 E (fun h1 E => ?_)
  exact qv_vreturn rfl (Nat.le_of_ble_eq_true rfl) (Nat.le_of_ble_eq_true rfl) rfl dX6_init_9 E ⟨rfl, rfl⟩
theorem k_X2_grow {l : Launch} {g : qa_G} {d : Nat} (i : Nat) (x0 : Int64) (h : qa_M) {c : Int64} {h1 : qa_M} (E : m_X2_grow x0 h = some (c, h1)) : qv_Met l g (yX2_grow, cX2_grow, 4, some .long) d 0 0 [.long x0] i h (some (.long c)) i h1 := by
  refine qv_Met.of (plainFor_of_name (by decide)) (Nat.le_of_ble_eq_true rfl) ?_
  unfold m_X2_grow at E
  refine qv_lload_n 0 dX2_grow_0 rfl rfl ?_
  refine qv_lload_n 0 dX2_grow_1 rfl rfl ?_
  refine qv_ldc2 tb_356 dX2_grow_2 ?_
  refine qv_land dX2_grow_5 ?_
  refine qv_iconst dX2_grow_6 ci_1 ?_
  refine qv_lshl dX2_grow_7 ?_
  refine qv_lor dX2_grow_8 ?_
  refine qv_lload_n 0 dX2_grow_9 rfl rfl ?_
  refine qv_ldc2 tb_357 dX2_grow_10 ?_
  refine qv_land dX2_grow_13 ?_
  refine qv_iconst dX2_grow_14 ci_1 ?_
  refine qv_lushr dX2_grow_15 ?_
  refine qv_lor dX2_grow_16 ?_
  refine qv_lstore_n (fun v17 => [(2, .long v17), (0, .long x0)]) dX2_grow_17 rfl (Nat.le_of_ble_eq_true rfl) (fun _ => rfl) E (fun v17 E => ?_)
  refine qv_lload_n 0 dX2_grow_18 rfl rfl ?_
  refine qv_lload_n 0 dX2_grow_19 rfl rfl ?_
  refine qv_bipush dX2_grow_20 cb_6 ?_
  refine qv_lshl dX2_grow_22 ?_
  refine qv_lor dX2_grow_23 ?_
  refine qv_lload_n 0 dX2_grow_24 rfl rfl ?_
  refine qv_bipush dX2_grow_25 cb_6 ?_
  refine qv_lushr dX2_grow_27 ?_
  refine qv_lor dX2_grow_28 ?_
  refine qv_ldc2 tb_358 dX2_grow_29 ?_
  refine qv_land dX2_grow_32 ?_
  exact qv_lreturn rfl (Nat.le_refl _) (Nat.le_refl _) rfl dX2_grow_33 E ⟨rfl, rfl⟩
noncomputable def f_X7_init_b107 (x2 : Int32) (x3 : Int64) (x5 : Int32) (h : qa_M) : Option ((Int32 × Int64 × Int32 × qa_M) ⊕ ((Int32 × qa_M) ⊕ qa_M)) :=
  if (6 : Int32) ≤ x5 then qup (qbd (x2 + (1 : Int32)) (fun v138 : Int32 => some (.inl (v138, h))))
  else qpr (h.2.2.1 22 0 = 23 + 1) (
   qck ((x5 * (36 : Int32)) + x2) 216 (qbd (qw_J h 23 ((x5 * (36 : Int32)) + x2).toNatClampNeg x3) (fun h126 : qa_M =>
   qbn (m_X2_grow x3 h126) (fun (c128 : Int64) (h128 : qa_M) => qbd c128 (fun v131 : Int64 => qbd (x5 + (1 : Int32)) (fun v132 : Int32 => some (.inl (x2, v131, v132, h128))))))))
noncomputable def f_X7_init_b107_loop (x2 : Int32) (x3 : Int64) (x5 : Int32) (h : qa_M) : Option ((Int32 × qa_M) ⊕ qa_M) := qlp (fun sz : Int32 × Int64 × Int32 × qa_M => f_X7_init_b107 sz.1 sz.2.1 sz.2.2.1 sz.2.2.2) (x2, x3, x5, h)
noncomputable def f_X7_init_b94 (x2 : Int32) (h : qa_M) : Option ((Int32 × qa_M) ⊕ qa_M) :=
  if (36 : Int32) ≤ x2 then qup (some h)
  else qbd (q_lshl (1 : Int64) x2) (fun v103 : Int64 => qbd (1 : Int32) (fun v105 : Int32 => f_X7_init_b107_loop x2 v103 v105 h))
noncomputable def f_X7_init_b94_loop (x2 : Int32) (h : qa_M) : Option qa_M := qlp (fun sz : Int32 × qa_M => f_X7_init_b94 sz.1 sz.2) (x2, h)
set_option maxRecDepth 20000 in
theorem s_X7_init_b107 {l : Launch} {g : qa_G} {d : Nat} {hz : qa_M} (x2 : Int32) (x3 : Int64) (x5 : Int32) (h : qa_M) {z : ((Int32 × Int64 × Int32 × qa_M) ⊕ ((Int32 × qa_M) ⊕ qa_M))} (E : f_X7_init_b107 x2 x3 x5 h = some z) (G : (Sum.elim (fun (sz : Int32 × Int64 × Int32 × qa_M) => qv_At l g (yX7_init, cX7_init, 6, none) (d + 2) 11 287 11 287 34 107 [(0, .ref (g.1 + 22)), (2, .int sz.1), (3, .long sz.2.1), (5, .int sz.2.2.1)] [] sz.2.2.2 none 34 hz) (Sum.elim (fun (sz : Int32 × qa_M) => qv_At l g (yX7_init, cX7_init, 6, none) (d + 2) 11 287 11 287 34 94 [(0, .ref (g.1 + 22)), (2, .int sz.1)] [] sz.2 none 34 hz) (qg_v none hz))) z) : qv_At l g (yX7_init, cX7_init, 6, none) (d + 2) 11 287 11 287 34 107 [(0, .ref (g.1 + 22)), (2, .int x2), (3, .long x3), (5, .int x5)] [] h none 34 hz := by
  unfold f_X7_init_b107 at E
  refine qv_iload 3 dX7_init_107 rfl ?_
  refine qv_bipush dX7_init_109 cb_6 ?_
  refine qv_icmp_ge 138 dX7_init_111 (by decide) E (fun E => ?_) (fun E => ?_)
  · obtain ⟨z0_, E, G⟩ := qup_g E G
    refine qv_iinc 1 (fun v138 => [(2, .int v138), (0, .ref (g.1 + 22)), (3, .long x3), (5, .int x5)]) dX7_init_138 rfl ci_1 (Nat.le_of_ble_eq_true rfl) (fun _ => rfl) E (fun v138 E => ?_)
    refine qv_goto 94 dX7_init_141 (by decide) ?_
    cases E
    exact qv_sub _ [1, 0] rfl G
  · refine qv_aload_n 0 dX7_init_114 rfl rfl ?_
    refine qv_getC (x := 23) (qL_at (i := 34) (kd := .inl (6, [2, 2, 2, 2, 0, 2, 2, 0, 0, 2, 2, 2, 0, 2, 2, 1, 2])) rfl (by decide)) fe_RX7_9 rfl dX7_init_115 E (fun E => ?_)
    refine qv_iload 3 dX7_init_118 rfl ?_
    refine qv_bipush dX7_init_120 cb_36 ?_
    refine qv_imul dX7_init_122 ?_
    refine qv_iload_n 1 dX7_init_123 rfl rfl ?_
    refine qv_iadd dX7_init_124 ?_
    refine qv_lload_n 2 dX7_init_125 rfl rfl ?_
    refine qv_last (qL_at (i := 34) (kd := .inr (1, 216)) rfl (by decide)) dX7_init_126 E (fun h126 E => ?_)
    refine qv_lload_n 2 dX7_init_127 rfl rfl ?_
    obtain ⟨c128, h128, e128, E⟩ := qbn_el E
    refine qv_callSl [.long x3] (k_X2_grow 34 x3 h126 e128) cv_RX7_50 rfl (Nat.le_of_ble_eq_true rfl) (Nat.le_refl _) (Nat.le_refl _) dX7_init_128 ?_
    refine qv_lstore_n (fun v131 => [(3, .long v131), (0, .ref (g.1 + 22)), (2, .int x2), (5, .int x5)]) dX7_init_131 rfl (Nat.le_of_ble_eq_true rfl) (fun _ => rfl) E (fun v131 E => ?_)
    refine qv_iinc 3 (fun v132 => [(5, .int v132), (3, .long v131), (0, .ref (g.1 + 22)), (2, .int x2)]) dX7_init_132 rfl ci_1 (Nat.le_of_ble_eq_true rfl) (fun _ => rfl) E (fun v132 E => ?_)
    refine qv_goto 107 dX7_init_135 (by decide) ?_
    cases E
    exact qv_sub _ [2, 3, 1, 0] rfl G
theorem s_X7_init_b107_loop {l : Launch} {g : qa_G} {d : Nat} {hz : qa_M} (x2 : Int32) (x3 : Int64) (x5 : Int32) (h : qa_M) {z : ((Int32 × qa_M) ⊕ qa_M)} (E : f_X7_init_b107_loop x2 x3 x5 h = some z) (G : (Sum.elim (fun (sz : Int32 × qa_M) => qv_At l g (yX7_init, cX7_init, 6, none) (d + 2) 11 287 11 287 34 94 [(0, .ref (g.1 + 22)), (2, .int sz.1)] [] sz.2 none 34 hz) (qg_v none hz)) z) : qv_At l g (yX7_init, cX7_init, 6, none) (d + 2) 11 287 11 287 34 107 [(0, .ref (g.1 + 22)), (2, .int x2), (3, .long x3), (5, .int x5)] [] h none 34 hz :=
  qlp_ind (fun sz : Int32 × Int64 × Int32 × qa_M => qv_At l g (yX7_init, cX7_init, 6, none) (d + 2) 11 287 11 287 34 107 [(0, .ref (g.1 + 22)), (2, .int sz.1), (3, .long sz.2.1), (5, .int sz.2.2.1)] [] sz.2.2.2 none 34 hz) (fun sz E => s_X7_init_b107 sz.1 sz.2.1 sz.2.2.1 sz.2.2.2 E G) (fun sz sz2 E ih => s_X7_init_b107 sz.1 sz.2.1 sz.2.2.1 sz.2.2.2 E ih) (x2, x3, x5, h) E
set_option maxRecDepth 20000 in
theorem s_X7_init_b94 {l : Launch} {g : qa_G} {d : Nat} {hz : qa_M} (x2 : Int32) (h : qa_M) {z : ((Int32 × qa_M) ⊕ qa_M)} (E : f_X7_init_b94 x2 h = some z) (G : (Sum.elim (fun (sz : Int32 × qa_M) => qv_At l g (yX7_init, cX7_init, 6, none) (d + 2) 11 287 11 287 34 94 [(0, .ref (g.1 + 22)), (2, .int sz.1)] [] sz.2 none 34 hz) (qg_v none hz)) z) : qv_At l g (yX7_init, cX7_init, 6, none) (d + 2) 11 287 11 287 34 94 [(0, .ref (g.1 + 22)), (2, .int x2)] [] h none 34 hz := by
  unfold f_X7_init_b94 at E
  refine qv_iload_n 1 dX7_init_94 rfl rfl ?_
  refine qv_bipush dX7_init_95 cb_36 ?_
  refine qv_icmp_ge 144 dX7_init_97 (by decide) E (fun E => ?_) (fun E => ?_)
  · obtain ⟨z0_, E, G⟩ := qup_g E G
    exact qv_vreturn rfl (Nat.le_refl _) (Nat.le_refl _) rfl dX7_init_144 E G
  · refine qv_lconst dX7_init_100 cl_1 ?_
    refine qv_iload_n 1 dX7_init_101 rfl rfl ?_
    refine qv_lshl dX7_init_102 ?_
    refine qv_lstore_n (fun v103 => [(3, .long v103), (0, .ref (g.1 + 22)), (2, .int x2)]) dX7_init_103 rfl (Nat.le_of_ble_eq_true rfl) (fun _ => rfl) E (fun v103 E => ?_)
    refine qv_iconst dX7_init_104 ci_1 ?_
    refine qv_istore (fun v105 => [(5, .int v105), (3, .long v103), (0, .ref (g.1 + 22)), (2, .int x2)]) dX7_init_105 (Nat.le_of_ble_eq_true rfl) (fun _ => rfl) E (fun v105 E => ?_)
    exact qv_sub _ [2, 3, 1, 0] rfl (s_X7_init_b107_loop x2 v103 v105 h E G)
theorem s_X7_init_b94_loop {l : Launch} {g : qa_G} {d : Nat} {hz : qa_M} (x2 : Int32) (h : qa_M) {z : qa_M} (E : f_X7_init_b94_loop x2 h = some z) (G : (qg_v none hz) z) : qv_At l g (yX7_init, cX7_init, 6, none) (d + 2) 11 287 11 287 34 94 [(0, .ref (g.1 + 22)), (2, .int x2)] [] h none 34 hz :=
  qlp_ind (fun sz : Int32 × qa_M => qv_At l g (yX7_init, cX7_init, 6, none) (d + 2) 11 287 11 287 34 94 [(0, .ref (g.1 + 22)), (2, .int sz.1)] [] sz.2 none 34 hz) (fun sz E => s_X7_init_b94 sz.1 sz.2 E G) (fun sz sz2 E ih => s_X7_init_b94 sz.1 sz.2 E ih) (x2, h) E
noncomputable def m_X7_init (h : qa_M) : Option qa_M :=
  qbd (qw_z h 23) (fun h1 : qa_M =>
  qbd (qw_R h1 22 0 (23 + 1)) (fun h2 : qa_M =>
  qbd (qw_z h2 24) (fun h3 : qa_M =>
  qbd (qw_R h3 22 2 (24 + 1)) (fun h4 : qa_M =>
  qbd (qw_z h4 25) (fun h5 : qa_M =>
  qbd (qw_R h5 22 3 (25 + 1)) (fun h6 : qa_M =>
  qbd (qw_z h6 26) (fun h7 : qa_M =>
  qbd (qw_R h7 22 5 (26 + 1)) (fun h8 : qa_M =>
  qbd (qw_z h8 27) (fun h9 : qa_M =>
  qbd (qw_R h9 22 6 (27 + 1)) (fun h10 : qa_M =>
  qbd (qw_z h10 28) (fun h11 : qa_M =>
  qbd (qw_R h11 22 9 (28 + 1)) (fun h12 : qa_M =>
  qbd (qw_z h12 29) (fun h13 : qa_M =>
  qbd (qw_R h13 22 10 (29 + 1)) (fun h14 : qa_M =>
  qbd (qw_z h14 30) (fun h15 : qa_M =>
  qbd (qw_R h15 22 11 (30 + 1)) (fun h16 : qa_M =>
  qbd (qw_z h16 31) (fun h17 : qa_M =>
  qbd (qw_R h17 22 13 (31 + 1)) (fun h18 : qa_M =>
  qbd (qw_z h18 32) (fun h19 : qa_M =>
  qbd (qw_R h19 22 14 (32 + 1)) (fun h20 : qa_M =>
  qbd (qw_z h20 33) (fun h21 : qa_M =>
  qbd (qw_R h21 22 16 (33 + 1)) (fun h22 : qa_M =>
  qbd (qw_R h22 22 1 (3 + 1)) (fun h23 : qa_M =>
  f_X7_init_b94_loop (0 : Int32) h23)))))))))))))))))))))))
set_option maxRecDepth 20000 in
theorem k_X7_init {l : Launch} {g : qa_G} {d : Nat} (h : qa_M) {h1z : qa_M} (E : m_X7_init h = some h1z) : qv_Met l g (yX7_init, cX7_init, 6, none) (d + 2) 11 287 [.ref (g.1 + 22), .ref (g.1 + 3)] 23 h none 34 h1z := by
  refine qv_Met.of (plainFor_of_name (by decide)) (Nat.le_of_ble_eq_true rfl) ?_
  unfold m_X7_init at E
  refine qv_aload_n 0 dX7_init_0 rfl rfl ?_
  refine qv_objInit tb_352 (Nat.le_of_ble_eq_true rfl) dX7_init_1 ?_
  refine qv_aload_n 0 dX7_init_4 rfl rfl ?_
  refine qv_sipush dX7_init_5 cs_216 ?_
  refine qv_newJ (show qa_layD[23]? = some (.inr (1, 216)) from rfl) (by decide) (by decide) (Nat.le_of_ble_eq_true rfl) (Nat.le_of_ble_eq_true rfl) dX7_init_8 E (fun h1 E => ?_)
  refine qv_putF (qL_at (i := 24) (kd := .inl (6, [2, 2, 2, 2, 0, 2, 2, 0, 0, 2, 2, 2, 0, 2, 2, 1, 2])) rfl (by decide)) fd_RX7_9 rfl rfl rfl rfl dX7_init_10 E (fun h2 E => ?_)
  refine qv_aload_n 0 dX7_init_13 rfl rfl ?_
  refine qv_iconst dX7_init_14 ci_4 ?_
  refine qv_newJ (show qa_layD[24]? = some (.inr (1, 4)) from rfl) (by decide) (by decide) (Nat.le_of_ble_eq_true rfl) (Nat.le_of_ble_eq_true rfl) dX7_init_15 E (fun h3 E => ?_)
  refine qv_putF (qL_at (i := 25) (kd := .inl (6, [2, 2, 2, 2, 0, 2, 2, 0, 0, 2, 2, 2, 0, 2, 2, 1, 2])) rfl (by decide)) fd_RX7_15 rfl rfl rfl rfl dX7_init_17 E (fun h4 E => ?_)
  refine qv_aload_n 0 dX7_init_20 rfl rfl ?_
  refine qv_bipush dX7_init_21 cb_16 ?_
  refine qv_newI (show qa_layD[25]? = some (.inr (0, 16)) from rfl) (by decide) (by decide) (Nat.le_of_ble_eq_true rfl) (Nat.le_of_ble_eq_true rfl) dX7_init_23 E (fun h5 E => ?_)
  refine qv_putF (qL_at (i := 26) (kd := .inl (6, [2, 2, 2, 2, 0, 2, 2, 0, 0, 2, 2, 2, 0, 2, 2, 1, 2])) rfl (by decide)) fd_RX7_18 rfl rfl rfl rfl dX7_init_25 E (fun h6 E => ?_)
  refine qv_aload_n 0 dX7_init_28 rfl rfl ?_
  refine qv_iconst dX7_init_29 ci_4 ?_
  refine qv_newI (show qa_layD[26]? = some (.inr (0, 4)) from rfl) (by decide) (by decide) (Nat.le_of_ble_eq_true rfl) (Nat.le_of_ble_eq_true rfl) dX7_init_30 E (fun h7 E => ?_)
  refine qv_putF (qL_at (i := 27) (kd := .inl (6, [2, 2, 2, 2, 0, 2, 2, 0, 0, 2, 2, 2, 0, 2, 2, 1, 2])) rfl (by decide)) fd_RX7_22 rfl rfl rfl rfl dX7_init_32 E (fun h8 E => ?_)
  refine qv_aload_n 0 dX7_init_35 rfl rfl ?_
  refine qv_iconst dX7_init_36 ci_4 ?_
  refine qv_newJ (show qa_layD[27]? = some (.inr (1, 4)) from rfl) (by decide) (by decide) (Nat.le_of_ble_eq_true rfl) (Nat.le_of_ble_eq_true rfl) dX7_init_37 E (fun h9 E => ?_)
  refine qv_putF (qL_at (i := 28) (kd := .inl (6, [2, 2, 2, 2, 0, 2, 2, 0, 0, 2, 2, 2, 0, 2, 2, 1, 2])) rfl (by decide)) fd_RX7_25 rfl rfl rfl rfl dX7_init_39 E (fun h10 E => ?_)
  refine qv_aload_n 0 dX7_init_42 rfl rfl ?_
  refine qv_bipush dX7_init_43 cb_10 ?_
  refine qv_newJ (show qa_layD[28]? = some (.inr (1, 10)) from rfl) (by decide) (by decide) (Nat.le_of_ble_eq_true rfl) (Nat.le_of_ble_eq_true rfl) dX7_init_45 E (fun h11 E => ?_)
  refine qv_putF (qL_at (i := 29) (kd := .inl (6, [2, 2, 2, 2, 0, 2, 2, 0, 0, 2, 2, 2, 0, 2, 2, 1, 2])) rfl (by decide)) fd_RX7_28 rfl rfl rfl rfl dX7_init_47 E (fun h12 E => ?_)
  refine qv_aload_n 0 dX7_init_50 rfl rfl ?_
  refine qv_bipush dX7_init_51 cb_10 ?_
  refine qv_newI (show qa_layD[29]? = some (.inr (0, 10)) from rfl) (by decide) (by decide) (Nat.le_of_ble_eq_true rfl) (Nat.le_of_ble_eq_true rfl) dX7_init_53 E (fun h13 E => ?_)
  refine qv_putF (qL_at (i := 30) (kd := .inl (6, [2, 2, 2, 2, 0, 2, 2, 0, 0, 2, 2, 2, 0, 2, 2, 1, 2])) rfl (by decide)) fd_RX7_31 rfl rfl rfl rfl dX7_init_55 E (fun h14 E => ?_)
  refine qv_aload_n 0 dX7_init_58 rfl rfl ?_
  refine qv_bipush dX7_init_59 cb_10 ?_
  refine qv_newI (show qa_layD[30]? = some (.inr (0, 10)) from rfl) (by decide) (by decide) (Nat.le_of_ble_eq_true rfl) (Nat.le_of_ble_eq_true rfl) dX7_init_61 E (fun h15 E => ?_)
  refine qv_putF (qL_at (i := 31) (kd := .inl (6, [2, 2, 2, 2, 0, 2, 2, 0, 0, 2, 2, 2, 0, 2, 2, 1, 2])) rfl (by decide)) fd_RX7_34 rfl rfl rfl rfl dX7_init_63 E (fun h16 E => ?_)
  refine qv_aload_n 0 dX7_init_66 rfl rfl ?_
  refine qv_iconst dX7_init_67 ci_4 ?_
  refine qv_newI (show qa_layD[31]? = some (.inr (0, 4)) from rfl) (by decide) (by decide) (Nat.le_of_ble_eq_true rfl) (Nat.le_of_ble_eq_true rfl) dX7_init_68 E (fun h17 E => ?_)
  refine qv_putF (qL_at (i := 32) (kd := .inl (6, [2, 2, 2, 2, 0, 2, 2, 0, 0, 2, 2, 2, 0, 2, 2, 1, 2])) rfl (by decide)) fd_RX7_37 rfl rfl rfl rfl dX7_init_70 E (fun h18 E => ?_)
  refine qv_aload_n 0 dX7_init_73 rfl rfl ?_
  refine qv_iconst dX7_init_74 ci_4 ?_
  refine qv_newJ (show qa_layD[32]? = some (.inr (1, 4)) from rfl) (by decide) (by decide) (Nat.le_of_ble_eq_true rfl) (Nat.le_of_ble_eq_true rfl) dX7_init_75 E (fun h19 E => ?_)
  refine qv_putF (qL_at (i := 33) (kd := .inl (6, [2, 2, 2, 2, 0, 2, 2, 0, 0, 2, 2, 2, 0, 2, 2, 1, 2])) rfl (by decide)) fd_RX7_40 rfl rfl rfl rfl dX7_init_77 E (fun h20 E => ?_)
  refine qv_aload_n 0 dX7_init_80 rfl rfl ?_
  refine qv_iconst dX7_init_81 ci_5 ?_
  refine qv_newI (show qa_layD[33]? = some (.inr (0, 5)) from rfl) (by decide) (by decide) (Nat.le_of_ble_eq_true rfl) (Nat.le_of_ble_eq_true rfl) dX7_init_82 E (fun h21 E => ?_)
  refine qv_putF (qL_at (i := 34) (kd := .inl (6, [2, 2, 2, 2, 0, 2, 2, 0, 0, 2, 2, 2, 0, 2, 2, 1, 2])) rfl (by decide)) fd_RX7_43 rfl rfl rfl rfl dX7_init_84 E (fun h22 E => ?_)
  refine qv_aload_n 0 dX7_init_87 rfl rfl ?_
  refine qv_aload_n 1 dX7_init_88 rfl rfl ?_
  refine qv_putF (qL_at (i := 34) (kd := .inl (6, [2, 2, 2, 2, 0, 2, 2, 0, 0, 2, 2, 2, 0, 2, 2, 1, 2])) rfl (by decide)) fd_RX7_46 rfl rfl rfl rfl dX7_init_89 E (fun h23 E => ?_)
  refine qv_iconst dX7_init_92 ci_0 ?_
  refine qs_istore_n [(2, .int 0), (0, .ref (g.1 + 22)), (1, .ref (g.1 + 3))] dX7_init_93 rfl (Nat.le_of_ble_eq_true rfl) rfl ?_
  exact qv_sub _ [1, 0] rfl (s_X7_init_b94_loop 0 h23 E ⟨rfl, rfl⟩)
noncomputable def m_X1_init (h : qa_M) : Option qa_M :=
  qbd (qw_z h 35) (fun h1 : qa_M =>
  qbd (qw_R h1 34 1 (35 + 1)) (fun h2 : qa_M =>
  qbd (qw_z h2 36) (fun h3 : qa_M =>
  qbd (qw_R h3 34 2 (36 + 1)) (fun h4 : qa_M =>
  qbd (qw_z h4 37) (fun h5 : qa_M =>
  qbd (qw_R h5 34 3 (37 + 1)) (fun h6 : qa_M =>
  qbd (qw_z h6 38) (fun h7 : qa_M =>
  qbd (qw_R h7 34 5 (38 + 1)) (fun h8 : qa_M =>
  qbd (qw_z h8 39) (fun h9 : qa_M =>
  qbd (qw_R h9 34 6 (39 + 1)) (fun h10 : qa_M =>
  some h10))))))))))
set_option maxRecDepth 20000 in
theorem k_X1_init {l : Launch} {g : qa_G} {d : Nat} (h : qa_M) {h1z : qa_M} (E : m_X1_init h = some h1z) : qv_Met l g (yX1_init, cX1_init, 1, none) (d + 1) 5 1247 [.ref (g.1 + 34)] 35 h none 40 h1z := by
  refine qv_Met.of (plainFor_of_name (by decide)) (Nat.le_of_ble_eq_true rfl) ?_
  unfold m_X1_init at E
  refine qv_aload_n 0 dX1_init_0 rfl rfl ?_
  refine qv_objInit tb_419 (Nat.le_of_ble_eq_true rfl) dX1_init_1 ?_
  refine qv_aload_n 0 dX1_init_4 rfl rfl ?_
  refine qv_sipush dX1_init_5 cs_1024 ?_
  refine qv_newI (show qa_layD[35]? = some (.inr (0, 1024)) from rfl) (by decide) (by decide) (Nat.le_of_ble_eq_true rfl) (Nat.le_of_ble_eq_true rfl) dX1_init_8 E (fun h1 E => ?_)
  refine qv_putF (qL_at (i := 36) (kd := .inl (1, [0, 2, 2, 2, 0, 2, 2])) rfl (by decide)) fd_RX1_11 rfl rfl rfl rfl dX1_init_10 E (fun h2 E => ?_)
  refine qv_aload_n 0 dX1_init_13 rfl rfl ?_
  refine qv_sipush dX1_init_14 cs_144 ?_
  refine qv_newI (show qa_layD[36]? = some (.inr (0, 144)) from rfl) (by decide) (by decide) (Nat.le_of_ble_eq_true rfl) (Nat.le_of_ble_eq_true rfl) dX1_init_17 E (fun h3 E => ?_)
  refine qv_putF (qL_at (i := 37) (kd := .inl (1, [0, 2, 2, 2, 0, 2, 2])) rfl (by decide)) fd_RX1_15 rfl rfl rfl rfl dX1_init_19 E (fun h4 E => ?_)
  refine qv_aload_n 0 dX1_init_22 rfl rfl ?_
  refine qv_iconst dX1_init_23 ci_5 ?_
  refine qv_newI (show qa_layD[37]? = some (.inr (0, 5)) from rfl) (by decide) (by decide) (Nat.le_of_ble_eq_true rfl) (Nat.le_of_ble_eq_true rfl) dX1_init_24 E (fun h5 E => ?_)
  refine qv_putF (qL_at (i := 38) (kd := .inl (1, [0, 2, 2, 2, 0, 2, 2])) rfl (by decide)) fd_RX1_18 rfl rfl rfl rfl dX1_init_26 E (fun h6 E => ?_)
  refine qv_aload_n 0 dX1_init_29 rfl rfl ?_
  refine qv_bipush dX1_init_30 cb_37 ?_
  refine qv_newJ (show qa_layD[38]? = some (.inr (1, 37)) from rfl) (by decide) (by decide) (Nat.le_of_ble_eq_true rfl) (Nat.le_of_ble_eq_true rfl) dX1_init_32 E (fun h7 E => ?_)
  refine qv_putF (qL_at (i := 39) (kd := .inl (1, [0, 2, 2, 2, 0, 2, 2])) rfl (by decide)) fd_RX1_21 rfl rfl rfl rfl dX1_init_34 E (fun h8 E => ?_)
  refine qv_aload_n 0 dX1_init_37 rfl rfl ?_
  refine qv_bipush dX1_init_38 cb_37 ?_
  refine qv_newI (show qa_layD[39]? = some (.inr (0, 37)) from rfl) (by decide) (by decide) (Nat.le_of_ble_eq_true rfl) (Nat.le_of_ble_eq_true rfl) dX1_init_40 E (fun h9 E => ?_)
  refine qv_putF (qL_at (i := 40) (kd := .inl (1, [0, 2, 2, 2, 0, 2, 2])) rfl (by decide)) fd_RX1_25 rfl rfl rfl rfl dX1_init_42 E (fun h10 E => ?_)
  exact qv_vreturn rfl (Nat.le_of_ble_eq_true rfl) (Nat.le_of_ble_eq_true rfl) rfl dX1_init_45 E ⟨rfl, rfl⟩
noncomputable def m_X0_init (h : qa_M) : Option qa_M :=
  qbd (qw_z h 41) (fun h1 : qa_M =>
  qbd (qw_R h1 40 1 (41 + 1)) (fun h2 : qa_M =>
  qbd (qw_z h2 42) (fun h3 : qa_M =>
  qbd (qw_R h3 40 2 (42 + 1)) (fun h4 : qa_M =>
  qbd (qw_z h4 43) (fun h5 : qa_M =>
  qbd (qw_R h5 40 3 (43 + 1)) (fun h6 : qa_M =>
  qbd (qw_z h6 44) (fun h7 : qa_M =>
  qbd (qw_R h7 40 8 (44 + 1)) (fun h8 : qa_M =>
  qbd (qw_z h8 45) (fun h9 : qa_M =>
  qbd (qw_R h9 40 9 (45 + 1)) (fun h10 : qa_M =>
  qbd (qw_z h10 46) (fun h11 : qa_M =>
  qbd (qw_R h11 40 10 (46 + 1)) (fun h12 : qa_M =>
  qbd (qw_z h12 47) (fun h13 : qa_M =>
  qbd (qw_R h13 40 11 (47 + 1)) (fun h14 : qa_M =>
  some h14))))))))))))))
set_option maxRecDepth 20000 in
theorem k_X0_init {l : Launch} {g : qa_G} {d : Nat} (h : qa_M) {h1z : qa_M} (E : m_X0_init h = some h1z) : qv_Met l g (yX0_init, cX0_init, 1, none) (d + 1) 7 672 [.ref (g.1 + 40)] 41 h none 48 h1z := by
  refine qv_Met.of (plainFor_of_name (by decide)) (Nat.le_of_ble_eq_true rfl) ?_
  unfold m_X0_init at E
  refine qv_aload_n 0 dX0_init_0 rfl rfl ?_
  refine qv_objInit tb_447 (Nat.le_of_ble_eq_true rfl) dX0_init_1 ?_
  refine qv_aload_n 0 dX0_init_4 rfl rfl ?_
  refine qv_bipush dX0_init_5 cb_36 ?_
  refine qv_newJ (show qa_layD[41]? = some (.inr (1, 36)) from rfl) (by decide) (by decide) (Nat.le_of_ble_eq_true rfl) (Nat.le_of_ble_eq_true rfl) dX0_init_7 E (fun h1 E => ?_)
  refine qv_putF (qL_at (i := 42) (kd := .inl (0, [0, 2, 2, 2, 0, 0, 0, 0, 2, 2, 2, 2, 0, 0, 0, 0])) rfl (by decide)) fd_RX0_9 rfl rfl rfl rfl dX0_init_9 E (fun h2 E => ?_)
  refine qv_aload_n 0 dX0_init_12 rfl rfl ?_
  refine qv_bipush dX0_init_13 cb_36 ?_
  refine qv_newI (show qa_layD[42]? = some (.inr (0, 36)) from rfl) (by decide) (by decide) (Nat.le_of_ble_eq_true rfl) (Nat.le_of_ble_eq_true rfl) dX0_init_15 E (fun h3 E => ?_)
  refine qv_putF (qL_at (i := 43) (kd := .inl (0, [0, 2, 2, 2, 0, 0, 0, 0, 2, 2, 2, 2, 0, 0, 0, 0])) rfl (by decide)) fd_RX0_15 rfl rfl rfl rfl dX0_init_17 E (fun h4 E => ?_)
  refine qv_aload_n 0 dX0_init_20 rfl rfl ?_
  refine qv_sipush dX0_init_21 cs_576 ?_
  refine qv_newI (show qa_layD[43]? = some (.inr (0, 576)) from rfl) (by decide) (by decide) (Nat.le_of_ble_eq_true rfl) (Nat.le_of_ble_eq_true rfl) dX0_init_24 E (fun h5 E => ?_)
  refine qv_putF (qL_at (i := 44) (kd := .inl (0, [0, 2, 2, 2, 0, 0, 0, 0, 2, 2, 2, 2, 0, 0, 0, 0])) rfl (by decide)) fd_RX0_19 rfl rfl rfl rfl dX0_init_26 E (fun h6 E => ?_)
  refine qv_aload_n 0 dX0_init_29 rfl rfl ?_
  refine qv_iconst dX0_init_30 ci_0 ?_
  refine qv_newI (show qa_layD[44]? = some (.inr (0, 0)) from rfl) (by decide) (by decide) (Nat.le_of_ble_eq_true rfl) (Nat.le_of_ble_eq_true rfl) dX0_init_31 E (fun h7 E => ?_)
  refine qv_putR (qL_at (i := 45) (kd := .inl (0, [0, 2, 2, 2, 0, 0, 0, 0, 2, 2, 2, 2, 0, 0, 0, 0])) rfl (by decide)) fd_RX0_22 rfl rfl rfl dX0_init_33 E (fun h8 E => ?_)
  refine qv_aload_n 0 dX0_init_36 rfl rfl ?_
  refine qv_bipush dX0_init_37 cb_8 ?_
  refine qv_newI (show qa_layD[45]? = some (.inr (0, 8)) from rfl) (by decide) (by decide) (Nat.le_of_ble_eq_true rfl) (Nat.le_of_ble_eq_true rfl) dX0_init_39 E (fun h9 E => ?_)
  refine qv_putF (qL_at (i := 46) (kd := .inl (0, [0, 2, 2, 2, 0, 0, 0, 0, 2, 2, 2, 2, 0, 0, 0, 0])) rfl (by decide)) fd_RX0_25 rfl rfl rfl rfl dX0_init_41 E (fun h10 E => ?_)
  refine qv_aload_n 0 dX0_init_44 rfl rfl ?_
  refine qv_bipush dX0_init_45 cb_8 ?_
  refine qv_newI (show qa_layD[46]? = some (.inr (0, 8)) from rfl) (by decide) (by decide) (Nat.le_of_ble_eq_true rfl) (Nat.le_of_ble_eq_true rfl) dX0_init_47 E (fun h11 E => ?_)
  refine qv_putF (qL_at (i := 47) (kd := .inl (0, [0, 2, 2, 2, 0, 0, 0, 0, 2, 2, 2, 2, 0, 0, 0, 0])) rfl (by decide)) fd_RX0_28 rfl rfl rfl rfl dX0_init_49 E (fun h12 E => ?_)
  refine qv_aload_n 0 dX0_init_52 rfl rfl ?_
  refine qv_bipush dX0_init_53 cb_8 ?_
  refine qv_newI (show qa_layD[47]? = some (.inr (0, 8)) from rfl) (by decide) (by decide) (Nat.le_of_ble_eq_true rfl) (Nat.le_of_ble_eq_true rfl) dX0_init_55 E (fun h13 E => ?_)
  refine qv_putF (qL_at (i := 48) (kd := .inl (0, [0, 2, 2, 2, 0, 0, 0, 0, 2, 2, 2, 2, 0, 0, 0, 0])) rfl (by decide)) fd_RX0_31 rfl rfl rfl rfl dX0_init_57 E (fun h14 E => ?_)
  exact qv_vreturn rfl (Nat.le_of_ble_eq_true rfl) (Nat.le_of_ble_eq_true rfl) rfl dX0_init_60 E ⟨rfl, rfl⟩
noncomputable def m_X10_init (h : qa_M) : Option qa_M :=
  qbd (qw_z h 49) (fun h1 : qa_M =>
  qbd (qw_R h1 48 0 (49 + 1)) (fun h2 : qa_M =>
  qbd (qw_z h2 50) (fun h3 : qa_M =>
  qbd (qw_R h3 48 1 (50 + 1)) (fun h4 : qa_M =>
  some h4))))
set_option maxRecDepth 20000 in
theorem k_X10_init {l : Launch} {g : qa_G} {d : Nat} (h : qa_M) {h1z : qa_M} (E : m_X10_init h = some h1z) : qv_Met l g (yX10_init, cX10_init, 1, none) (d + 1) 2 2112 [.ref (g.1 + 48)] 49 h none 51 h1z := by
  refine qv_Met.of (plainFor_of_name (by decide)) (Nat.le_of_ble_eq_true rfl) ?_
  unfold m_X10_init at E
  refine qv_aload_n 0 dX10_init_0 rfl rfl ?_
  refine qv_objInit tb_502 (Nat.le_of_ble_eq_true rfl) dX10_init_1 ?_
  refine qv_aload_n 0 dX10_init_4 rfl rfl ?_
  refine qv_bipush dX10_init_5 cb_64 ?_
  refine qv_newI (show qa_layD[49]? = some (.inr (0, 64)) from rfl) (by decide) (by decide) (Nat.le_of_ble_eq_true rfl) (Nat.le_of_ble_eq_true rfl) dX10_init_7 E (fun h1 E => ?_)
  refine qv_putF (qL_at (i := 50) (kd := .inl (9, [2, 2])) rfl (by decide)) fd_RX10_9 rfl rfl rfl rfl dX10_init_9 E (fun h2 E => ?_)
  refine qv_aload_n 0 dX10_init_12 rfl rfl ?_
  refine qv_sipush dX10_init_13 cs_2048 ?_
  refine qv_newI (show qa_layD[50]? = some (.inr (0, 2048)) from rfl) (by decide) (by decide) (Nat.le_of_ble_eq_true rfl) (Nat.le_of_ble_eq_true rfl) dX10_init_16 E (fun h3 E => ?_)
  refine qv_putF (qL_at (i := 51) (kd := .inl (9, [2, 2])) rfl (by decide)) fd_RX10_15 rfl rfl rfl rfl dX10_init_18 E (fun h4 E => ?_)
  exact qv_vreturn rfl (Nat.le_of_ble_eq_true rfl) (Nat.le_of_ble_eq_true rfl) rfl dX10_init_21 E ⟨rfl, rfl⟩
noncomputable def m_X5_init (a0 : Nat) (h : qa_M) : Option qa_M :=
  qbd (qw_z h (a0 + 1)) (fun h1 : qa_M =>
  qbd (qw_R h1 a0 1 ((a0 + 1) + 1)) (fun h2 : qa_M =>
  qbd (qw_z h2 (a0 + 2)) (fun h3 : qa_M =>
  qbd (qw_R h3 a0 2 ((a0 + 2) + 1)) (fun h4 : qa_M =>
  qbd (qw_z h4 (a0 + 3)) (fun h5 : qa_M =>
  qbd (qw_R h5 a0 3 ((a0 + 3) + 1)) (fun h6 : qa_M =>
  qbd (qw_z h6 (a0 + 4)) (fun h7 : qa_M =>
  qbd (qw_R h7 a0 5 ((a0 + 4) + 1)) (fun h8 : qa_M =>
  qbd (qw_z h8 (a0 + 5)) (fun h9 : qa_M =>
  qbd (qw_R h9 a0 6 ((a0 + 5) + 1)) (fun h10 : qa_M =>
  qbd (qw_z h10 (a0 + 6)) (fun h11 : qa_M =>
  qbd (qw_R h11 a0 7 ((a0 + 6) + 1)) (fun h12 : qa_M =>
  qbd (qw_z h12 (a0 + 7)) (fun h13 : qa_M =>
  qbd (qw_R h13 a0 9 ((a0 + 7) + 1)) (fun h14 : qa_M =>
  qbd (qw_z h14 (a0 + 8)) (fun h15 : qa_M =>
  qbd (qw_R h15 a0 10 ((a0 + 8) + 1)) (fun h16 : qa_M =>
  some h16))))))))))))))))
set_option maxRecDepth 20000 in
theorem k_X5_init {l : Launch} {g : qa_G} {d : Nat} (a0 : Nat) (h : qa_M) (ha0 : qLaw a0) {h1z : qa_M} (E : m_X5_init a0 h = some h1z) : qv_Met l g (yX5_init, cX5_init, 1, none) (d + 1) 8 529 [.ref (g.1 + a0)] (a0 + 1) h none (a0 + 9) h1z := by
  refine qv_Met.of (plainFor_of_name (by decide)) (Nat.le_of_ble_eq_true rfl) ?_
  unfold m_X5_init at E
  refine qv_aload_n 0 dX5_init_0 rfl rfl ?_
  refine qv_objInit tb_514 (Nat.le_of_ble_eq_true rfl) dX5_init_1 ?_
  refine qv_aload_n 0 dX5_init_4 rfl rfl ?_
  refine qv_bipush dX5_init_5 cb_12 ?_
  refine qv_newI (wd_Law_1 ha0) (by decide) (by decide) (Nat.le_of_ble_eq_true rfl) (Nat.le_of_ble_eq_true rfl) dX5_init_7 E (fun h1 E => ?_)
  refine qv_putF (qL_at (i := (a0 + 2)) (wd_Law_0 ha0) (by omega)) fd_RX5_11 rfl rfl rfl rfl dX5_init_9 E (fun h2 E => ?_)
  refine qv_aload_n 0 dX5_init_12 rfl rfl ?_
  refine qv_bipush dX5_init_13 cb_12 ?_
  refine qv_newI (wd_Law_2 ha0) (by decide) (by decide) (Nat.le_of_ble_eq_true rfl) (Nat.le_of_ble_eq_true rfl) dX5_init_15 E (fun h3 E => ?_)
  refine qv_putF (qL_at (i := (a0 + 3)) (wd_Law_0 ha0) (by omega)) fd_RX5_15 rfl rfl rfl rfl dX5_init_17 E (fun h4 E => ?_)
  refine qv_aload_n 0 dX5_init_20 rfl rfl ?_
  refine qv_bipush dX5_init_21 cb_12 ?_
  refine qv_newI (wd_Law_3 ha0) (by decide) (by decide) (Nat.le_of_ble_eq_true rfl) (Nat.le_of_ble_eq_true rfl) dX5_init_23 E (fun h5 E => ?_)
  refine qv_putF (qL_at (i := (a0 + 4)) (wd_Law_0 ha0) (by omega)) fd_RX5_18 rfl rfl rfl rfl dX5_init_25 E (fun h6 E => ?_)
  refine qv_aload_n 0 dX5_init_28 rfl rfl ?_
  refine qv_bipush dX5_init_29 cb_12 ?_
  refine qv_newI (wd_Law_4 ha0) (by decide) (by decide) (Nat.le_of_ble_eq_true rfl) (Nat.le_of_ble_eq_true rfl) dX5_init_31 E (fun h7 E => ?_)
  refine qv_putF (qL_at (i := (a0 + 5)) (wd_Law_0 ha0) (by omega)) fd_RX5_21 rfl rfl rfl rfl dX5_init_33 E (fun h8 E => ?_)
  refine qv_aload_n 0 dX5_init_36 rfl rfl ?_
  refine qv_bipush dX5_init_37 cb_13 ?_
  refine qv_newI (wd_Law_5 ha0) (by decide) (by decide) (Nat.le_of_ble_eq_true rfl) (Nat.le_of_ble_eq_true rfl) dX5_init_39 E (fun h9 E => ?_)
  refine qv_putF (qL_at (i := (a0 + 6)) (wd_Law_0 ha0) (by omega)) fd_RX5_24 rfl rfl rfl rfl dX5_init_41 E (fun h10 E => ?_)
  refine qv_aload_n 0 dX5_init_44 rfl rfl ?_
  refine qv_sipush dX5_init_45 cs_400 ?_
  refine qv_newI (wd_Law_6 ha0) (by decide) (by decide) (Nat.le_of_ble_eq_true rfl) (Nat.le_of_ble_eq_true rfl) dX5_init_48 E (fun h11 E => ?_)
  refine qv_putF (qL_at (i := (a0 + 7)) (wd_Law_0 ha0) (by omega)) fd_RX5_29 rfl rfl rfl rfl dX5_init_50 E (fun h12 E => ?_)
  refine qv_aload_n 0 dX5_init_53 rfl rfl ?_
  refine qv_bipush dX5_init_54 cb_61 ?_
  refine qv_newJ (wd_Law_7 ha0) (by decide) (by decide) (Nat.le_of_ble_eq_true rfl) (Nat.le_of_ble_eq_true rfl) dX5_init_56 E (fun h13 E => ?_)
  refine qv_putF (qL_at (i := (a0 + 8)) (wd_Law_0 ha0) (by omega)) fd_RX5_32 rfl rfl rfl rfl dX5_init_58 E (fun h14 E => ?_)
  refine qv_aload_n 0 dX5_init_61 rfl rfl ?_
  refine qv_bipush dX5_init_62 cb_7 ?_
  refine qv_newI (wd_Law_8 ha0) (by decide) (by decide) (Nat.le_of_ble_eq_true rfl) (Nat.le_of_ble_eq_true rfl) dX5_init_64 E (fun h15 E => ?_)
  refine qv_putF (qL_at (i := (a0 + 9)) (wd_Law_0 ha0) (by omega)) fd_RX5_36 rfl rfl rfl rfl dX5_init_66 E (fun h16 E => ?_)
  exact qv_vreturn rfl (Nat.le_of_ble_eq_true rfl) (Nat.le_of_ble_eq_true rfl) rfl dX5_init_69 E ⟨rfl, rfl⟩
noncomputable def m_X11_init (h : qa_M) : Option qa_M :=
  qbd (qw_z h 1) (fun h1 : qa_M =>
  qbv (m_X9_init h1) (fun h2 : qa_M =>
  qbd (qw_R h2 0 0 (1 + 1)) (fun h3 : qa_M =>
  qbd (qw_z h3 3) (fun h4 : qa_M =>
  qbv (m_X8_init 3 h4) (fun h5 : qa_M =>
  qbd (qw_R h5 0 1 (3 + 1)) (fun h6 : qa_M =>
  qbd (qw_z h6 11) (fun h7 : qa_M =>
  qbd (qw_R h7 0 2 (11 + 1)) (fun h8 : qa_M =>
  qbd (qw_z h8 12) (fun h9 : qa_M =>
  qbd (qw_R h9 0 3 (12 + 1)) (fun h10 : qa_M =>
  qbd (qw_z h10 13) (fun h11 : qa_M =>
  qbd (qw_R h11 0 4 (13 + 1)) (fun h12 : qa_M =>
  qbd (qw_z h12 14) (fun h13 : qa_M =>
  qbv (m_X3_init 14 h13) (fun h14 : qa_M =>
  qbd (qw_R h14 0 6 (14 + 1)) (fun h15 : qa_M =>
  qbd (qw_z h15 20) (fun h16 : qa_M =>
  qpr (h16.2.2.1 0 0 = 1 + 1) (
  qpr (h16.2.2.1 0 6 = 14 + 1) (
  qbv (m_X4_init h16) (fun h17 : qa_M =>
  qbd (qw_R h17 0 7 (20 + 1)) (fun h18 : qa_M =>
  qbd (qw_z h18 21) (fun h19 : qa_M =>
  qpr (h19.2.2.1 0 0 = 1 + 1) (
  qbv (m_X6_init h19) (fun h20 : qa_M =>
  qbd (qw_R h20 0 8 (21 + 1)) (fun h21 : qa_M =>
  qbd (qw_z h21 22) (fun h22 : qa_M =>
  qpr (h22.2.2.1 0 1 = 3 + 1) (
  qbv (m_X7_init h22) (fun h23 : qa_M =>
  qbd (qw_R h23 0 9 (22 + 1)) (fun h24 : qa_M =>
  qbd (qw_z h24 34) (fun h25 : qa_M =>
  qbv (m_X1_init h25) (fun h26 : qa_M =>
  qbd (qw_R h26 0 10 (34 + 1)) (fun h27 : qa_M =>
  qbd (qw_z h27 40) (fun h28 : qa_M =>
  qbv (m_X0_init h28) (fun h29 : qa_M =>
  qbd (qw_R h29 0 11 (40 + 1)) (fun h30 : qa_M =>
  qbd (qw_z h30 48) (fun h31 : qa_M =>
  qbv (m_X10_init h31) (fun h32 : qa_M =>
  qbd (qw_R h32 0 12 (48 + 1)) (fun h33 : qa_M =>
  qbd (qw_I h33 0 13 (1 : Int32)) (fun h34 : qa_M =>
  qpr (h34.2.2.1 0 2 = 11 + 1) (
  qbd (qw_z h34 51) (fun h35 : qa_M =>
  qbv (m_X8_init 51 h35) (fun h36 : qa_M =>
  qbd (qw_R h36 11 (0 : Int32).toNatClampNeg (51 + 1)) (fun h37 : qa_M =>
  qpr (h37.2.2.1 0 2 = 11 + 1) (
  qbd (qw_z h37 59) (fun h38 : qa_M =>
  qbv (m_X8_init 59 h38) (fun h39 : qa_M =>
  qbd (qw_R h39 11 (1 : Int32).toNatClampNeg (59 + 1)) (fun h40 : qa_M =>
  qpr (h40.2.2.1 0 2 = 11 + 1) (
  qbd (qw_z h40 67) (fun h41 : qa_M =>
  qbv (m_X8_init 67 h41) (fun h42 : qa_M =>
  qbd (qw_R h42 11 (2 : Int32).toNatClampNeg (67 + 1)) (fun h43 : qa_M =>
  qpr (h43.2.2.1 0 2 = 11 + 1) (
  qbd (qw_z h43 75) (fun h44 : qa_M =>
  qbv (m_X8_init 75 h44) (fun h45 : qa_M =>
  qbd (qw_R h45 11 (3 : Int32).toNatClampNeg (75 + 1)) (fun h46 : qa_M =>
  qpr (h46.2.2.1 0 4 = 13 + 1) (
  qbd (qw_z h46 83) (fun h47 : qa_M =>
  qbv (m_X5_init 83 h47) (fun h48 : qa_M =>
  qbd (qw_R h48 13 (0 : Int32).toNatClampNeg (83 + 1)) (fun h49 : qa_M =>
  qpr (h49.2.2.1 0 4 = 13 + 1) (
  qbd (qw_z h49 92) (fun h50 : qa_M =>
  qbv (m_X5_init 92 h50) (fun h51 : qa_M =>
  qbd (qw_R h51 13 (1 : Int32).toNatClampNeg (92 + 1)) (fun h52 : qa_M =>
  qpr (h52.2.2.1 0 4 = 13 + 1) (
  qbd (qw_z h52 101) (fun h53 : qa_M =>
  qbv (m_X5_init 101 h53) (fun h54 : qa_M =>
  qbd (qw_R h54 13 (2 : Int32).toNatClampNeg (101 + 1)) (fun h55 : qa_M =>
  qpr (h55.2.2.1 0 4 = 13 + 1) (
  qbd (qw_z h55 110) (fun h56 : qa_M =>
  qbv (m_X5_init 110 h56) (fun h57 : qa_M =>
  qbd (qw_R h57 13 (3 : Int32).toNatClampNeg (110 + 1)) (fun h58 : qa_M =>
  some h58))))))))))))))))))))))))))))))))))))))))))))))))))))))))))))))))))))))
set_option maxRecDepth 20000 in
theorem k_X11_init {l : Launch} {g : qa_G} {d : Nat} (h : qa_M) {h1z : qa_M} (E : m_X11_init h = some h1z) : qv_Met l g (yX11_init, cX11_init, 2, none) (d + 3) 118 7507 [.ref (g.1 + 0)] 1 h none 119 h1z := by
  refine qv_Met.of (plainFor_of_name (by decide)) (Nat.le_of_ble_eq_true rfl) ?_
  unfold m_X11_init at E
  refine qv_aload_n 0 dX11_init_0 rfl rfl ?_
  refine qv_objInit tb_146 (Nat.le_of_ble_eq_true rfl) dX11_init_1 ?_
  refine qv_aload_n 0 dX11_init_4 rfl rfl ?_
  refine qv_new (show qa_layD[1]? = some (.inl (8, [2, 0, 0, 0, 0, 0, 0, 0])) from rfl) rfl clok_X9 rfl tyX9 tyX9_ok fk_X9 tb_149 tb_150 tb_120 (Nat.le_of_ble_eq_true rfl) (Nat.le_of_ble_eq_true rfl) dX11_init_5 E (fun h1 E => ?_)
  refine qv_dup dX11_init_8 rfl ?_
  obtain ⟨h2, eh2, E⟩ := qbv_el E
  refine qv_callI (i3 := 3) [] (k_X9_init h1 eh2) ci_RX11_9 rfl (Nat.le_of_ble_eq_true rfl) (Nat.le_of_ble_eq_true rfl) (Nat.le_of_ble_eq_true rfl) dX11_init_9 ?_
  refine qv_putF (qL_at (i := 3) (kd := .inl (10, [2, 2, 2, 2, 2, 0, 2, 2, 2, 2, 2, 2, 2, 0, 0])) rfl (by decide)) fd_RX11_10 rfl rfl rfl rfl dX11_init_12 E (fun h3 E => ?_)
  refine qv_aload_n 0 dX11_init_15 rfl rfl ?_
  refine qv_new (show qa_layD[3]? = some (.inl (7, [2, 0, 2, 0, 0])) from rfl) rfl clok_X8 rfl tyX8 tyX8_ok fk_X8 tb_191 tb_192 tb_121 (Nat.le_of_ble_eq_true rfl) (Nat.le_of_ble_eq_true rfl) dX11_init_16 E (fun h4 E => ?_)
  refine qv_dup dX11_init_19 rfl ?_
  obtain ⟨h5, eh5, E⟩ := qbv_el E
  refine qv_callI (i3 := 11) [] (k_X8_init 3 h4 (show qState 3 by unfold qState; decide) eh5) ci_RX11_18 rfl (Nat.le_of_ble_eq_true rfl) (Nat.le_of_ble_eq_true rfl) (Nat.le_of_ble_eq_true rfl) dX11_init_20 ?_
  refine qv_putF (qL_at (i := 11) (kd := .inl (10, [2, 2, 2, 2, 2, 0, 2, 2, 2, 2, 2, 2, 2, 0, 0])) rfl (by decide)) fd_RX11_19 rfl rfl rfl rfl dX11_init_23 E (fun h6 E => ?_)
  refine qv_aload_n 0 dX11_init_26 rfl rfl ?_
  refine qv_iconst dX11_init_27 ci_4 ?_
  refine qv_newq (show qa_layD[11]? = some (.inr (4, 4)) from rfl) rfl (fun _ q => q.2.2.2.2.2.2.1) (by decide) tb_191 (by decide) (by decide) (Nat.le_of_ble_eq_true rfl) (Nat.le_of_ble_eq_true rfl) dX11_init_28 E (fun h7 E => ?_)
  refine qv_putF (qL_at (i := 12) (kd := .inl (10, [2, 2, 2, 2, 2, 0, 2, 2, 2, 2, 2, 2, 2, 0, 0])) rfl (by decide)) fd_RX11_23 rfl rfl rfl rfl dX11_init_31 E (fun h8 E => ?_)
  refine qv_aload_n 0 dX11_init_34 rfl rfl ?_
  refine qv_iconst dX11_init_35 ci_4 ?_
  refine qv_newZ (show qa_layD[12]? = some (.inr (3, 4)) from rfl) (by decide) (by decide) (Nat.le_of_ble_eq_true rfl) (Nat.le_of_ble_eq_true rfl) dX11_init_36 E (fun h9 E => ?_)
  refine qv_putF (qL_at (i := 13) (kd := .inl (10, [2, 2, 2, 2, 2, 0, 2, 2, 2, 2, 2, 2, 2, 0, 0])) rfl (by decide)) fd_RX11_27 rfl rfl rfl rfl dX11_init_38 E (fun h10 E => ?_)
  refine qv_aload_n 0 dX11_init_41 rfl rfl ?_
  refine qv_iconst dX11_init_42 ci_4 ?_
  refine qv_newq (show qa_layD[13]? = some (.inr (5, 4)) from rfl) rfl (fun _ q => q.2.2.2.2.2.2.2.1) (by decide) tb_298 (by decide) (by decide) (Nat.le_of_ble_eq_true rfl) (Nat.le_of_ble_eq_true rfl) dX11_init_43 E (fun h11 E => ?_)
  refine qv_putF (qL_at (i := 14) (kd := .inl (10, [2, 2, 2, 2, 2, 0, 2, 2, 2, 2, 2, 2, 2, 0, 0])) rfl (by decide)) fd_RX11_33 rfl rfl rfl rfl dX11_init_46 E (fun h12 E => ?_)
  refine qv_aload_n 0 dX11_init_49 rfl rfl ?_
  refine qv_new (show qa_layD[14]? = some (.inl (2, [0, 0, 0, 0, 0, 0, 1, 1, 2, 2, 2, 2, 2])) from rfl) rfl clok_X3 rfl tyX3 tyX3_ok fk_X3 tb_300 tb_198 tb_122 (Nat.le_of_ble_eq_true rfl) (Nat.le_of_ble_eq_true rfl) dX11_init_50 E (fun h13 E => ?_)
  refine qv_dup dX11_init_53 rfl ?_
  obtain ⟨h14, eh14, E⟩ := qbv_el E
  refine qv_callI (i3 := 20) [] (k_X3_init 14 h13 (show qLand 14 by unfold qLand; decide) eh14) ci_RX11_39 rfl (Nat.le_of_ble_eq_true rfl) (Nat.le_of_ble_eq_true rfl) (Nat.le_of_ble_eq_true rfl) dX11_init_54 ?_
  refine qv_putF (qL_at (i := 20) (kd := .inl (10, [2, 2, 2, 2, 2, 0, 2, 2, 2, 2, 2, 2, 2, 0, 0])) rfl (by decide)) fd_RX11_40 rfl rfl rfl rfl dX11_init_57 E (fun h15 E => ?_)
  refine qv_aload_n 0 dX11_init_60 rfl rfl ?_
  refine qv_new (show qa_layD[20]? = some (.inl (3, [2, 2, 0, 0, 0, 0])) from rfl) rfl clok_X4 rfl tyX4 tyX4_ok fk_X4 tb_302 tb_303 tb_123 (Nat.le_of_ble_eq_true rfl) (Nat.le_of_ble_eq_true rfl) dX11_init_61 E (fun h16 E => ?_)
  refine qv_dup dX11_init_64 rfl ?_
  refine qv_aload_n 0 dX11_init_65 rfl rfl ?_
  refine qv_getC (x := 1) (qL_at (i := 21) (kd := .inl (10, [2, 2, 2, 2, 2, 0, 2, 2, 2, 2, 2, 2, 2, 0, 0])) rfl (by decide)) fe_RX11_10 rfl dX11_init_66 E (fun E => ?_)
  refine qv_aload_n 0 dX11_init_69 rfl rfl ?_
  refine qv_getC (x := 14) (qL_at (i := 21) (kd := .inl (10, [2, 2, 2, 2, 2, 0, 2, 2, 2, 2, 2, 2, 2, 0, 0])) rfl (by decide)) fe_RX11_40 rfl dX11_init_70 E (fun E => ?_)
  obtain ⟨h17, eh17, E⟩ := qbv_el E
  refine qv_callI (i3 := 21) [.ref (g.1 + 1), .ref (g.1 + 14)] (k_X4_init h16 eh17) ci_RX11_46 rfl (Nat.le_of_ble_eq_true rfl) (Nat.le_of_ble_eq_true rfl) (Nat.le_of_ble_eq_true rfl) dX11_init_73 ?_
  refine qv_putF (qL_at (i := 21) (kd := .inl (10, [2, 2, 2, 2, 2, 0, 2, 2, 2, 2, 2, 2, 2, 0, 0])) rfl (by decide)) fd_RX11_49 rfl rfl rfl rfl dX11_init_76 E (fun h18 E => ?_)
  refine qv_aload_n 0 dX11_init_79 rfl rfl ?_
  refine qv_new (show qa_layD[21]? = some (.inl (5, [2, 2, 0, 0])) from rfl) rfl clok_X6 rfl tyX6 tyX6_ok fk_X6 tb_328 tb_329 tb_124 (Nat.le_of_ble_eq_true rfl) (Nat.le_of_ble_eq_true rfl) dX11_init_80 E (fun h19 E => ?_)
  refine qv_dup dX11_init_83 rfl ?_
  refine qv_aload_n 0 dX11_init_84 rfl rfl ?_
  refine qv_getC (x := 1) (qL_at (i := 22) (kd := .inl (10, [2, 2, 2, 2, 2, 0, 2, 2, 2, 2, 2, 2, 2, 0, 0])) rfl (by decide)) fe_RX11_10 rfl dX11_init_85 E (fun E => ?_)
  obtain ⟨h20, eh20, E⟩ := qbv_el E
  refine qv_callI (i3 := 22) [.ref (g.1 + 1)] (k_X6_init h19 eh20) ci_RX11_55 rfl (Nat.le_of_ble_eq_true rfl) (Nat.le_of_ble_eq_true rfl) (Nat.le_of_ble_eq_true rfl) dX11_init_88 ?_
  refine qv_putF (qL_at (i := 22) (kd := .inl (10, [2, 2, 2, 2, 2, 0, 2, 2, 2, 2, 2, 2, 2, 0, 0])) rfl (by decide)) fd_RX11_58 rfl rfl rfl rfl dX11_init_91 E (fun h21 E => ?_)
  refine qv_aload_n 0 dX11_init_94 rfl rfl ?_
  refine qv_new (show qa_layD[22]? = some (.inl (6, [2, 2, 2, 2, 0, 2, 2, 0, 0, 2, 2, 2, 0, 2, 2, 1, 2])) from rfl) rfl clok_X7 rfl tyX7 tyX7_ok fk_X7 tb_347 tb_348 tb_125 (Nat.le_of_ble_eq_true rfl) (Nat.le_of_ble_eq_true rfl) dX11_init_95 E (fun h22 E => ?_)
  refine qv_dup dX11_init_98 rfl ?_
  refine qv_aload_n 0 dX11_init_99 rfl rfl ?_
  refine qv_getC (x := 3) (qL_at (i := 23) (kd := .inl (10, [2, 2, 2, 2, 2, 0, 2, 2, 2, 2, 2, 2, 2, 0, 0])) rfl (by decide)) fe_RX11_19 rfl dX11_init_100 E (fun E => ?_)
  obtain ⟨h23, eh23, E⟩ := qbv_el E
  refine qv_callI (i3 := 34) [.ref (g.1 + 3)] (k_X7_init h22 eh23) ci_RX11_64 rfl (Nat.le_of_ble_eq_true rfl) (Nat.le_of_ble_eq_true rfl) (Nat.le_of_ble_eq_true rfl) dX11_init_103 ?_
  refine qv_putF (qL_at (i := 34) (kd := .inl (10, [2, 2, 2, 2, 2, 0, 2, 2, 2, 2, 2, 2, 2, 0, 0])) rfl (by decide)) fd_RX11_67 rfl rfl rfl rfl dX11_init_106 E (fun h24 E => ?_)
  refine qv_aload_n 0 dX11_init_109 rfl rfl ?_
  refine qv_new (show qa_layD[34]? = some (.inl (1, [0, 2, 2, 2, 0, 2, 2])) from rfl) rfl clok_X1 rfl tyX1 tyX1_ok fk_X1 tb_414 tb_415 tb_127 (Nat.le_of_ble_eq_true rfl) (Nat.le_of_ble_eq_true rfl) dX11_init_110 E (fun h25 E => ?_)
  refine qv_dup dX11_init_113 rfl ?_
  obtain ⟨h26, eh26, E⟩ := qbv_el E
  refine qv_callI (i3 := 40) [] (k_X1_init h25 eh26) ci_RX11_73 rfl (Nat.le_of_ble_eq_true rfl) (Nat.le_of_ble_eq_true rfl) (Nat.le_of_ble_eq_true rfl) dX11_init_114 ?_
  refine qv_putF (qL_at (i := 40) (kd := .inl (10, [2, 2, 2, 2, 2, 0, 2, 2, 2, 2, 2, 2, 2, 0, 0])) rfl (by decide)) fd_RX11_74 rfl rfl rfl rfl dX11_init_117 E (fun h27 E => ?_)
  refine qv_aload_n 0 dX11_init_120 rfl rfl ?_
  refine qv_new (show qa_layD[40]? = some (.inl (0, [0, 2, 2, 2, 0, 0, 0, 0, 2, 2, 2, 2, 0, 0, 0, 0])) from rfl) rfl clok_X0 rfl tyX0 tyX0_ok fk_X0 tb_442 tb_443 tb_128 (Nat.le_of_ble_eq_true rfl) (Nat.le_of_ble_eq_true rfl) dX11_init_121 E (fun h28 E => ?_)
  refine qv_dup dX11_init_124 rfl ?_
  obtain ⟨h29, eh29, E⟩ := qbv_el E
  refine qv_callI (i3 := 48) [] (k_X0_init h28 eh29) ci_RX11_80 rfl (Nat.le_of_ble_eq_true rfl) (Nat.le_of_ble_eq_true rfl) (Nat.le_of_ble_eq_true rfl) dX11_init_125 ?_
  refine qv_putF (qL_at (i := 48) (kd := .inl (10, [2, 2, 2, 2, 2, 0, 2, 2, 2, 2, 2, 2, 2, 0, 0])) rfl (by decide)) fd_RX11_81 rfl rfl rfl rfl dX11_init_128 E (fun h30 E => ?_)
  refine qv_aload_n 0 dX11_init_131 rfl rfl ?_
  refine qv_new (show qa_layD[48]? = some (.inl (9, [2, 2])) from rfl) rfl clok_X10 rfl tyX10 tyX10_ok fk_X10 tb_497 tb_498 tb_129 (Nat.le_of_ble_eq_true rfl) (Nat.le_of_ble_eq_true rfl) dX11_init_132 E (fun h31 E => ?_)
  refine qv_dup dX11_init_135 rfl ?_
  obtain ⟨h32, eh32, E⟩ := qbv_el E
  refine qv_callI (i3 := 51) [] (k_X10_init h31 eh32) ci_RX11_87 rfl (Nat.le_of_ble_eq_true rfl) (Nat.le_of_ble_eq_true rfl) (Nat.le_of_ble_eq_true rfl) dX11_init_136 ?_
  refine qv_putF (qL_at (i := 51) (kd := .inl (10, [2, 2, 2, 2, 2, 0, 2, 2, 2, 2, 2, 2, 2, 0, 0])) rfl (by decide)) fd_RX11_88 rfl rfl rfl rfl dX11_init_139 E (fun h33 E => ?_)
  refine qv_aload_n 0 dX11_init_142 rfl rfl ?_
  refine qv_iconst dX11_init_143 ci_1 ?_
  refine qv_putI (qL_at (i := 51) (kd := .inl (10, [2, 2, 2, 2, 2, 0, 2, 2, 2, 2, 2, 2, 2, 0, 0])) rfl (by decide)) fd_RX11_92 rfl dX11_init_144 E (fun h34 E => ?_)
  refine qv_iconst dX11_init_147 ci_0 ?_
  refine qs_istore_n [(1, .int (0 : Int32)), (0, .ref (g.1 + 0))] dX11_init_148 rfl (Nat.le_of_ble_eq_true rfl) rfl ?_
  show qv_At _ _ _ _ _ _ _ _ _ _ _ _ _ _ _ _
  refine qv_iload_n 0 dX11_init_149 rfl rfl ?_
  refine qv_iconst dX11_init_150 ci_4 ?_
  refine qs_icmp_ge 173 dX11_init_151 (by decide) (fun q => absurd q (by decide)) (fun _ => ?_)
  show qv_At _ _ _ _ _ _ _ _ _ _ _ _ _ _ _ _
  refine qv_aload_n 1 dX11_init_154 rfl rfl ?_
  refine qv_getC (x := 11) (qL_at (i := 51) (kd := .inl (10, [2, 2, 2, 2, 2, 0, 2, 2, 2, 2, 2, 2, 2, 0, 0])) rfl (by decide)) fe_RX11_23 rfl dX11_init_155 E (fun E => ?_)
  refine qv_iload_n 0 dX11_init_158 rfl rfl ?_
  refine qv_new (show qa_layD[51]? = some (.inl (7, [2, 0, 2, 0, 0])) from rfl) rfl clok_X8 rfl tyX8 tyX8_ok fk_X8 tb_191 tb_192 tb_121 (Nat.le_of_ble_eq_true rfl) (Nat.le_of_ble_eq_true rfl) dX11_init_159 E (fun h35 E => ?_)
  refine qv_dup dX11_init_162 rfl ?_
  obtain ⟨h36, eh36, E⟩ := qbv_el E
  refine qv_callI (i3 := 59) [] (k_X8_init 51 h35 (show qState 51 by unfold qState; decide) eh36) ci_RX11_18 rfl (Nat.le_of_ble_eq_true rfl) (Nat.le_of_ble_eq_true rfl) (Nat.le_of_ble_eq_true rfl) dX11_init_163 ?_
  refine qv_aast (tc := 4) rfl (by decide) (qL_at (i := 59) (kd := .inr (4, 4)) rfl (by decide)) (qL_at (i := 59) (kd := .inl (7, [2, 0, 2, 0, 0])) rfl (by decide)) rfl rfl (vp_in_iff.mpr (by decide)) dX11_init_166 E (fun h37 E => ?_)
  refine qs_iinc 0 [(1, .int (1 : Int32)), (0, .ref (g.1 + 0))] dX11_init_167 rfl (by decide) (Nat.le_of_ble_eq_true rfl) rfl ?_
  show qv_At _ _ _ _ _ _ _ _ _ _ _ _ _ _ _ _
  refine qv_goto 149 dX11_init_170 (by decide) ?_
  refine qv_iload_n 0 dX11_init_149 rfl rfl ?_
  refine qv_iconst dX11_init_150 ci_4 ?_
  refine qs_icmp_ge 173 dX11_init_151 (by decide) (fun q => absurd q (by decide)) (fun _ => ?_)
  show qv_At _ _ _ _ _ _ _ _ _ _ _ _ _ _ _ _
  refine qv_aload_n 1 dX11_init_154 rfl rfl ?_
  refine qv_getC (x := 11) (qL_at (i := 59) (kd := .inl (10, [2, 2, 2, 2, 2, 0, 2, 2, 2, 2, 2, 2, 2, 0, 0])) rfl (by decide)) fe_RX11_23 rfl dX11_init_155 E (fun E => ?_)
  refine qv_iload_n 0 dX11_init_158 rfl rfl ?_
  refine qv_new (show qa_layD[59]? = some (.inl (7, [2, 0, 2, 0, 0])) from rfl) rfl clok_X8 rfl tyX8 tyX8_ok fk_X8 tb_191 tb_192 tb_121 (Nat.le_of_ble_eq_true rfl) (Nat.le_of_ble_eq_true rfl) dX11_init_159 E (fun h38 E => ?_)
  refine qv_dup dX11_init_162 rfl ?_
  obtain ⟨h39, eh39, E⟩ := qbv_el E
  refine qv_callI (i3 := 67) [] (k_X8_init 59 h38 (show qState 59 by unfold qState; decide) eh39) ci_RX11_18 rfl (Nat.le_of_ble_eq_true rfl) (Nat.le_of_ble_eq_true rfl) (Nat.le_of_ble_eq_true rfl) dX11_init_163 ?_
  refine qv_aast (tc := 4) rfl (by decide) (qL_at (i := 67) (kd := .inr (4, 4)) rfl (by decide)) (qL_at (i := 67) (kd := .inl (7, [2, 0, 2, 0, 0])) rfl (by decide)) rfl rfl (vp_in_iff.mpr (by decide)) dX11_init_166 E (fun h40 E => ?_)
  refine qs_iinc 0 [(1, .int (2 : Int32)), (0, .ref (g.1 + 0))] dX11_init_167 rfl (by decide) (Nat.le_of_ble_eq_true rfl) rfl ?_
  show qv_At _ _ _ _ _ _ _ _ _ _ _ _ _ _ _ _
  refine qv_goto 149 dX11_init_170 (by decide) ?_
  refine qv_iload_n 0 dX11_init_149 rfl rfl ?_
  refine qv_iconst dX11_init_150 ci_4 ?_
  refine qs_icmp_ge 173 dX11_init_151 (by decide) (fun q => absurd q (by decide)) (fun _ => ?_)
  show qv_At _ _ _ _ _ _ _ _ _ _ _ _ _ _ _ _
  refine qv_aload_n 1 dX11_init_154 rfl rfl ?_
  refine qv_getC (x := 11) (qL_at (i := 67) (kd := .inl (10, [2, 2, 2, 2, 2, 0, 2, 2, 2, 2, 2, 2, 2, 0, 0])) rfl (by decide)) fe_RX11_23 rfl dX11_init_155 E (fun E => ?_)
  refine qv_iload_n 0 dX11_init_158 rfl rfl ?_
  refine qv_new (show qa_layD[67]? = some (.inl (7, [2, 0, 2, 0, 0])) from rfl) rfl clok_X8 rfl tyX8 tyX8_ok fk_X8 tb_191 tb_192 tb_121 (Nat.le_of_ble_eq_true rfl) (Nat.le_of_ble_eq_true rfl) dX11_init_159 E (fun h41 E => ?_)
  refine qv_dup dX11_init_162 rfl ?_
  obtain ⟨h42, eh42, E⟩ := qbv_el E
  refine qv_callI (i3 := 75) [] (k_X8_init 67 h41 (show qState 67 by unfold qState; decide) eh42) ci_RX11_18 rfl (Nat.le_of_ble_eq_true rfl) (Nat.le_of_ble_eq_true rfl) (Nat.le_of_ble_eq_true rfl) dX11_init_163 ?_
  refine qv_aast (tc := 4) rfl (by decide) (qL_at (i := 75) (kd := .inr (4, 4)) rfl (by decide)) (qL_at (i := 75) (kd := .inl (7, [2, 0, 2, 0, 0])) rfl (by decide)) rfl rfl (vp_in_iff.mpr (by decide)) dX11_init_166 E (fun h43 E => ?_)
  refine qs_iinc 0 [(1, .int (3 : Int32)), (0, .ref (g.1 + 0))] dX11_init_167 rfl (by decide) (Nat.le_of_ble_eq_true rfl) rfl ?_
  show qv_At _ _ _ _ _ _ _ _ _ _ _ _ _ _ _ _
  refine qv_goto 149 dX11_init_170 (by decide) ?_
  refine qv_iload_n 0 dX11_init_149 rfl rfl ?_
  refine qv_iconst dX11_init_150 ci_4 ?_
  refine qs_icmp_ge 173 dX11_init_151 (by decide) (fun q => absurd q (by decide)) (fun _ => ?_)
  show qv_At _ _ _ _ _ _ _ _ _ _ _ _ _ _ _ _
  refine qv_aload_n 1 dX11_init_154 rfl rfl ?_
  refine qv_getC (x := 11) (qL_at (i := 75) (kd := .inl (10, [2, 2, 2, 2, 2, 0, 2, 2, 2, 2, 2, 2, 2, 0, 0])) rfl (by decide)) fe_RX11_23 rfl dX11_init_155 E (fun E => ?_)
  refine qv_iload_n 0 dX11_init_158 rfl rfl ?_
  refine qv_new (show qa_layD[75]? = some (.inl (7, [2, 0, 2, 0, 0])) from rfl) rfl clok_X8 rfl tyX8 tyX8_ok fk_X8 tb_191 tb_192 tb_121 (Nat.le_of_ble_eq_true rfl) (Nat.le_of_ble_eq_true rfl) dX11_init_159 E (fun h44 E => ?_)
  refine qv_dup dX11_init_162 rfl ?_
  obtain ⟨h45, eh45, E⟩ := qbv_el E
  refine qv_callI (i3 := 83) [] (k_X8_init 75 h44 (show qState 75 by unfold qState; decide) eh45) ci_RX11_18 rfl (Nat.le_of_ble_eq_true rfl) (Nat.le_of_ble_eq_true rfl) (Nat.le_of_ble_eq_true rfl) dX11_init_163 ?_
  refine qv_aast (tc := 4) rfl (by decide) (qL_at (i := 83) (kd := .inr (4, 4)) rfl (by decide)) (qL_at (i := 83) (kd := .inl (7, [2, 0, 2, 0, 0])) rfl (by decide)) rfl rfl (vp_in_iff.mpr (by decide)) dX11_init_166 E (fun h46 E => ?_)
  refine qs_iinc 0 [(1, .int (4 : Int32)), (0, .ref (g.1 + 0))] dX11_init_167 rfl (by decide) (Nat.le_of_ble_eq_true rfl) rfl ?_
  show qv_At _ _ _ _ _ _ _ _ _ _ _ _ _ _ _ _
  refine qv_goto 149 dX11_init_170 (by decide) ?_
  refine qv_iload_n 0 dX11_init_149 rfl rfl ?_
  refine qv_iconst dX11_init_150 ci_4 ?_
  refine qs_icmp_ge 173 dX11_init_151 (by decide) (fun _ => ?_) (fun q => absurd (by decide) q)
  show qv_At _ _ _ _ _ _ _ _ _ _ _ _ _ _ _ _
  refine qv_iconst dX11_init_173 ci_0 ?_
  refine qs_istore_n [(1, .int (0 : Int32)), (0, .ref (g.1 + 0))] dX11_init_174 rfl (Nat.le_of_ble_eq_true rfl) rfl ?_
  show qv_At _ _ _ _ _ _ _ _ _ _ _ _ _ _ _ _
  refine qv_iload_n 0 dX11_init_175 rfl rfl ?_
  refine qv_iconst dX11_init_176 ci_4 ?_
  refine qs_icmp_ge 199 dX11_init_177 (by decide) (fun q => absurd q (by decide)) (fun _ => ?_)
  show qv_At _ _ _ _ _ _ _ _ _ _ _ _ _ _ _ _
  refine qv_aload_n 1 dX11_init_180 rfl rfl ?_
  refine qv_getC (x := 13) (qL_at (i := 83) (kd := .inl (10, [2, 2, 2, 2, 2, 0, 2, 2, 2, 2, 2, 2, 2, 0, 0])) rfl (by decide)) fe_RX11_33 rfl dX11_init_181 E (fun E => ?_)
  refine qv_iload_n 0 dX11_init_184 rfl rfl ?_
  refine qv_new (show qa_layD[83]? = some (.inl (4, [0, 2, 2, 2, 0, 2, 2, 2, 0, 2, 2])) from rfl) rfl clok_X5 rfl tyX5 tyX5_ok fk_X5 tb_298 tb_510 tb_130 (Nat.le_of_ble_eq_true rfl) (Nat.le_of_ble_eq_true rfl) dX11_init_185 E (fun h47 E => ?_)
  refine qv_dup dX11_init_188 rfl ?_
  obtain ⟨h48, eh48, E⟩ := qbv_el E
  refine qv_callI (i3 := 92) [] (k_X5_init 83 h47 (show qLaw 83 by unfold qLaw; decide) eh48) ci_RX11_96 rfl (Nat.le_of_ble_eq_true rfl) (Nat.le_of_ble_eq_true rfl) (Nat.le_of_ble_eq_true rfl) dX11_init_189 ?_
  refine qv_aast (tc := 5) rfl (by decide) (qL_at (i := 92) (kd := .inr (5, 4)) rfl (by decide)) (qL_at (i := 92) (kd := .inl (4, [0, 2, 2, 2, 0, 2, 2, 2, 0, 2, 2])) rfl (by decide)) rfl rfl (vp_in_iff.mpr (by decide)) dX11_init_192 E (fun h49 E => ?_)
  refine qs_iinc 0 [(1, .int (1 : Int32)), (0, .ref (g.1 + 0))] dX11_init_193 rfl (by decide) (Nat.le_of_ble_eq_true rfl) rfl ?_
  show qv_At _ _ _ _ _ _ _ _ _ _ _ _ _ _ _ _
  refine qv_goto 175 dX11_init_196 (by decide) ?_
  refine qv_iload_n 0 dX11_init_175 rfl rfl ?_
  refine qv_iconst dX11_init_176 ci_4 ?_
  refine qs_icmp_ge 199 dX11_init_177 (by decide) (fun q => absurd q (by decide)) (fun _ => ?_)
  show qv_At _ _ _ _ _ _ _ _ _ _ _ _ _ _ _ _
  refine qv_aload_n 1 dX11_init_180 rfl rfl ?_
  refine qv_getC (x := 13) (qL_at (i := 92) (kd := .inl (10, [2, 2, 2, 2, 2, 0, 2, 2, 2, 2, 2, 2, 2, 0, 0])) rfl (by decide)) fe_RX11_33 rfl dX11_init_181 E (fun E => ?_)
  refine qv_iload_n 0 dX11_init_184 rfl rfl ?_
  refine qv_new (show qa_layD[92]? = some (.inl (4, [0, 2, 2, 2, 0, 2, 2, 2, 0, 2, 2])) from rfl) rfl clok_X5 rfl tyX5 tyX5_ok fk_X5 tb_298 tb_510 tb_130 (Nat.le_of_ble_eq_true rfl) (Nat.le_of_ble_eq_true rfl) dX11_init_185 E (fun h50 E => ?_)
  refine qv_dup dX11_init_188 rfl ?_
  obtain ⟨h51, eh51, E⟩ := qbv_el E
  refine qv_callI (i3 := 101) [] (k_X5_init 92 h50 (show qLaw 92 by unfold qLaw; decide) eh51) ci_RX11_96 rfl (Nat.le_of_ble_eq_true rfl) (Nat.le_of_ble_eq_true rfl) (Nat.le_of_ble_eq_true rfl) dX11_init_189 ?_
  refine qv_aast (tc := 5) rfl (by decide) (qL_at (i := 101) (kd := .inr (5, 4)) rfl (by decide)) (qL_at (i := 101) (kd := .inl (4, [0, 2, 2, 2, 0, 2, 2, 2, 0, 2, 2])) rfl (by decide)) rfl rfl (vp_in_iff.mpr (by decide)) dX11_init_192 E (fun h52 E => ?_)
  refine qs_iinc 0 [(1, .int (2 : Int32)), (0, .ref (g.1 + 0))] dX11_init_193 rfl (by decide) (Nat.le_of_ble_eq_true rfl) rfl ?_
  show qv_At _ _ _ _ _ _ _ _ _ _ _ _ _ _ _ _
  refine qv_goto 175 dX11_init_196 (by decide) ?_
  refine qv_iload_n 0 dX11_init_175 rfl rfl ?_
  refine qv_iconst dX11_init_176 ci_4 ?_
  refine qs_icmp_ge 199 dX11_init_177 (by decide) (fun q => absurd q (by decide)) (fun _ => ?_)
  show qv_At _ _ _ _ _ _ _ _ _ _ _ _ _ _ _ _
  refine qv_aload_n 1 dX11_init_180 rfl rfl ?_
  refine qv_getC (x := 13) (qL_at (i := 101) (kd := .inl (10, [2, 2, 2, 2, 2, 0, 2, 2, 2, 2, 2, 2, 2, 0, 0])) rfl (by decide)) fe_RX11_33 rfl dX11_init_181 E (fun E => ?_)
  refine qv_iload_n 0 dX11_init_184 rfl rfl ?_
  refine qv_new (show qa_layD[101]? = some (.inl (4, [0, 2, 2, 2, 0, 2, 2, 2, 0, 2, 2])) from rfl) rfl clok_X5 rfl tyX5 tyX5_ok fk_X5 tb_298 tb_510 tb_130 (Nat.le_of_ble_eq_true rfl) (Nat.le_of_ble_eq_true rfl) dX11_init_185 E (fun h53 E => ?_)
  refine qv_dup dX11_init_188 rfl ?_
  obtain ⟨h54, eh54, E⟩ := qbv_el E
  refine qv_callI (i3 := 110) [] (k_X5_init 101 h53 (show qLaw 101 by unfold qLaw; decide) eh54) ci_RX11_96 rfl (Nat.le_of_ble_eq_true rfl) (Nat.le_of_ble_eq_true rfl) (Nat.le_of_ble_eq_true rfl) dX11_init_189 ?_
  refine qv_aast (tc := 5) rfl (by decide) (qL_at (i := 110) (kd := .inr (5, 4)) rfl (by decide)) (qL_at (i := 110) (kd := .inl (4, [0, 2, 2, 2, 0, 2, 2, 2, 0, 2, 2])) rfl (by decide)) rfl rfl (vp_in_iff.mpr (by decide)) dX11_init_192 E (fun h55 E => ?_)
  refine qs_iinc 0 [(1, .int (3 : Int32)), (0, .ref (g.1 + 0))] dX11_init_193 rfl (by decide) (Nat.le_of_ble_eq_true rfl) rfl ?_
  show qv_At _ _ _ _ _ _ _ _ _ _ _ _ _ _ _ _
  refine qv_goto 175 dX11_init_196 (by decide) ?_
  refine qv_iload_n 0 dX11_init_175 rfl rfl ?_
  refine qv_iconst dX11_init_176 ci_4 ?_
  refine qs_icmp_ge 199 dX11_init_177 (by decide) (fun q => absurd q (by decide)) (fun _ => ?_)
  show qv_At _ _ _ _ _ _ _ _ _ _ _ _ _ _ _ _
  refine qv_aload_n 1 dX11_init_180 rfl rfl ?_
  refine qv_getC (x := 13) (qL_at (i := 110) (kd := .inl (10, [2, 2, 2, 2, 2, 0, 2, 2, 2, 2, 2, 2, 2, 0, 0])) rfl (by decide)) fe_RX11_33 rfl dX11_init_181 E (fun E => ?_)
  refine qv_iload_n 0 dX11_init_184 rfl rfl ?_
  refine qv_new (show qa_layD[110]? = some (.inl (4, [0, 2, 2, 2, 0, 2, 2, 2, 0, 2, 2])) from rfl) rfl clok_X5 rfl tyX5 tyX5_ok fk_X5 tb_298 tb_510 tb_130 (Nat.le_of_ble_eq_true rfl) (Nat.le_of_ble_eq_true rfl) dX11_init_185 E (fun h56 E => ?_)
  refine qv_dup dX11_init_188 rfl ?_
  obtain ⟨h57, eh57, E⟩ := qbv_el E
  refine qv_callI (i3 := 119) [] (k_X5_init 110 h56 (show qLaw 110 by unfold qLaw; decide) eh57) ci_RX11_96 rfl (Nat.le_of_ble_eq_true rfl) (Nat.le_of_ble_eq_true rfl) (Nat.le_of_ble_eq_true rfl) dX11_init_189 ?_
  refine qv_aast (tc := 5) rfl (by decide) (qL_at (i := 119) (kd := .inr (5, 4)) rfl (by decide)) (qL_at (i := 119) (kd := .inl (4, [0, 2, 2, 2, 0, 2, 2, 2, 0, 2, 2])) rfl (by decide)) rfl rfl (vp_in_iff.mpr (by decide)) dX11_init_192 E (fun h58 E => ?_)
  refine qs_iinc 0 [(1, .int (4 : Int32)), (0, .ref (g.1 + 0))] dX11_init_193 rfl (by decide) (Nat.le_of_ble_eq_true rfl) rfl ?_
  show qv_At _ _ _ _ _ _ _ _ _ _ _ _ _ _ _ _
  refine qv_goto 175 dX11_init_196 (by decide) ?_
  refine qv_iload_n 0 dX11_init_175 rfl rfl ?_
  refine qv_iconst dX11_init_176 ci_4 ?_
  refine qs_icmp_ge 199 dX11_init_177 (by decide) (fun _ => ?_) (fun q => absurd (by decide) q)
  show qv_At _ _ _ _ _ _ _ _ _ _ _ _ _ _ _ _
  exact qv_vreturn rfl (Nat.le_of_ble_eq_true rfl) (Nat.le_of_ble_eq_true rfl) rfl dX11_init_199 E ⟨rfl, rfl⟩
noncomputable def m_X12_init (h : qa_M) : Option qa_M :=
  qbd (qw_z h 120) (fun h1 : qa_M =>
  qbd (qw_R h1 119 1 (120 + 1)) (fun h2 : qa_M =>
  qbd (qw_z h2 121) (fun h3 : qa_M =>
  qbd (qw_R h3 119 2 (121 + 1)) (fun h4 : qa_M =>
  qbd (qw_z h4 122) (fun h5 : qa_M =>
  qbd (qw_R h5 119 3 (122 + 1)) (fun h6 : qa_M =>
  qbd (qw_z h6 123) (fun h7 : qa_M =>
  qbd (qw_R h7 119 4 (123 + 1)) (fun h8 : qa_M =>
  qbd (qw_z h8 124) (fun h9 : qa_M =>
  qbd (qw_R h9 119 5 (124 + 1)) (fun h10 : qa_M =>
  qbd (qw_z h10 125) (fun h11 : qa_M =>
  qbd (qw_R h11 119 6 (125 + 1)) (fun h12 : qa_M =>
  qbd (qw_z h12 126) (fun h13 : qa_M =>
  qbd (qw_R h13 119 7 (126 + 1)) (fun h14 : qa_M =>
  qbd (qw_z h14 127) (fun h15 : qa_M =>
  qbd (qw_R h15 119 8 (127 + 1)) (fun h16 : qa_M =>
  qbd (qw_z h16 128) (fun h17 : qa_M =>
  qbd (qw_R h17 119 9 (128 + 1)) (fun h18 : qa_M =>
  qbd (qw_z h18 129) (fun h19 : qa_M =>
  qbd (qw_R h19 119 10 (129 + 1)) (fun h20 : qa_M =>
  qbd (qw_z h20 130) (fun h21 : qa_M =>
  qbd (qw_R h21 119 11 (130 + 1)) (fun h22 : qa_M =>
  qbd (qw_z h22 131) (fun h23 : qa_M =>
  qbd (qw_R h23 119 12 (131 + 1)) (fun h24 : qa_M =>
  qbd (qw_z h24 132) (fun h25 : qa_M =>
  qbd (qw_R h25 119 13 (132 + 1)) (fun h26 : qa_M =>
  qbd (qw_z h26 133) (fun h27 : qa_M =>
  qbd (qw_R h27 119 14 (133 + 1)) (fun h28 : qa_M =>
  qbd (qw_z h28 134) (fun h29 : qa_M =>
  qbd (qw_R h29 119 15 (134 + 1)) (fun h30 : qa_M =>
  qbd (qw_z h30 135) (fun h31 : qa_M =>
  qbd (qw_R h31 119 16 (135 + 1)) (fun h32 : qa_M =>
  qbd (qw_z h32 136) (fun h33 : qa_M =>
  qbd (qw_R h33 119 17 (136 + 1)) (fun h34 : qa_M =>
  qbd (qw_z h34 137) (fun h35 : qa_M =>
  qbd (qw_R h35 119 18 (137 + 1)) (fun h36 : qa_M =>
  qbd (qw_z h36 138) (fun h37 : qa_M =>
  qbd (qw_R h37 119 19 (138 + 1)) (fun h38 : qa_M =>
  qbd (qw_I h38 119 29 (7 : Int32)) (fun h39 : qa_M =>
  qbd (qw_z h39 139) (fun h40 : qa_M =>
  qbd (qw_R h40 119 30 (139 + 1)) (fun h41 : qa_M =>
  qbd (qw_z h41 140) (fun h42 : qa_M =>
  qbd (qw_R h42 119 31 (140 + 1)) (fun h43 : qa_M =>
  qbd (qw_z h43 141) (fun h44 : qa_M =>
  qbd (qw_R h44 119 32 (141 + 1)) (fun h45 : qa_M =>
  qbd (qw_z h45 142) (fun h46 : qa_M =>
  qbd (qw_R h46 119 33 (142 + 1)) (fun h47 : qa_M =>
  qbd (qw_z h47 143) (fun h48 : qa_M =>
  qbd (qw_R h48 119 34 (143 + 1)) (fun h49 : qa_M =>
  qbd (qw_z h49 144) (fun h50 : qa_M =>
  qbd (qw_R h50 119 35 (144 + 1)) (fun h51 : qa_M =>
  qbd (qw_z h51 145) (fun h52 : qa_M =>
  qbd (qw_R h52 119 36 (145 + 1)) (fun h53 : qa_M =>
  qbd (qw_z h53 146) (fun h54 : qa_M =>
  qbd (qw_R h54 119 37 (146 + 1)) (fun h55 : qa_M =>
  qbd (qw_z h55 147) (fun h56 : qa_M =>
  qbd (qw_R h56 119 38 (147 + 1)) (fun h57 : qa_M =>
  qbd (qw_z h57 148) (fun h58 : qa_M =>
  qbd (qw_R h58 119 39 (148 + 1)) (fun h59 : qa_M =>
  qbd (qw_z h59 149) (fun h60 : qa_M =>
  qbd (qw_R h60 119 40 (149 + 1)) (fun h61 : qa_M =>
  qbd (qw_z h61 150) (fun h62 : qa_M =>
  qbd (qw_R h62 119 41 (150 + 1)) (fun h63 : qa_M =>
  qbd (qw_z h63 151) (fun h64 : qa_M =>
  qbd (qw_R h64 119 42 (151 + 1)) (fun h65 : qa_M =>
  qbd (qw_z h65 152) (fun h66 : qa_M =>
  qbd (qw_R h66 119 43 (152 + 1)) (fun h67 : qa_M =>
  qbd (qw_z h67 153) (fun h68 : qa_M =>
  qbd (qw_R h68 119 44 (153 + 1)) (fun h69 : qa_M =>
  qbd (qw_z h69 154) (fun h70 : qa_M =>
  qbd (qw_R h70 119 45 (154 + 1)) (fun h71 : qa_M =>
  qbd (qw_z h71 155) (fun h72 : qa_M =>
  qbd (qw_R h72 119 46 (155 + 1)) (fun h73 : qa_M =>
  qbd (qw_z h73 156) (fun h74 : qa_M =>
  qbd (qw_R h74 119 47 (156 + 1)) (fun h75 : qa_M =>
  qbd (qw_z h75 157) (fun h76 : qa_M =>
  qbd (qw_R h76 119 52 (157 + 1)) (fun h77 : qa_M =>
  qbd (qw_z h77 158) (fun h78 : qa_M =>
  qbd (qw_R h78 119 53 (158 + 1)) (fun h79 : qa_M =>
  qbd (qw_z h79 159) (fun h80 : qa_M =>
  qbd (qw_R h80 119 54 (159 + 1)) (fun h81 : qa_M =>
  qbd (qw_z h81 160) (fun h82 : qa_M =>
  qbd (qw_R h82 119 55 (160 + 1)) (fun h83 : qa_M =>
  qbd (qw_z h83 161) (fun h84 : qa_M =>
  qbd (qw_R h84 119 56 (161 + 1)) (fun h85 : qa_M =>
  qbd (qw_z h85 162) (fun h86 : qa_M =>
  qbd (qw_R h86 119 57 (162 + 1)) (fun h87 : qa_M =>
  qbd (qw_z h87 163) (fun h88 : qa_M =>
  qbd (qw_R h88 119 58 (163 + 1)) (fun h89 : qa_M =>
  qbd (qw_z h89 164) (fun h90 : qa_M =>
  qbd (qw_R h90 119 59 (164 + 1)) (fun h91 : qa_M =>
  qbd (qw_z h91 165) (fun h92 : qa_M =>
  qbd (qw_R h92 119 60 (165 + 1)) (fun h93 : qa_M =>
  qbd (qw_z h93 166) (fun h94 : qa_M =>
  qbd (qw_R h94 119 61 (166 + 1)) (fun h95 : qa_M =>
  some h95)))))))))))))))))))))))))))))))))))))))))))))))))))))))))))))))))))))))))))))))))))))))))))))))
set_option maxRecDepth 20000 in
theorem k_X12_init {l : Launch} {g : qa_G} {d : Nat} (h : qa_M) {h1z : qa_M} (E : m_X12_init h = some h1z) : qv_Met l g (yX12_init, cX12_init, 1, none) (d + 1) 47 24726 [.ref (g.1 + 119)] 120 h none 167 h1z := by
  refine qv_Met.of (plainFor_of_name (by decide)) (Nat.le_of_ble_eq_true rfl) ?_
  unfold m_X12_init at E
  refine qv_aload_n 0 dX12_init_0 rfl rfl ?_
  refine qv_objInit tb_1335 (Nat.le_of_ble_eq_true rfl) dX12_init_1 ?_
  refine qv_aload_n 0 dX12_init_4 rfl rfl ?_
  refine qv_bipush dX12_init_5 cb_8 ?_
  refine qv_newI (show qa_layD[120]? = some (.inr (0, 8)) from rfl) (by decide) (by decide) (Nat.le_of_ble_eq_true rfl) (Nat.le_of_ble_eq_true rfl) dX12_init_7 E (fun h1 E => ?_)
  refine qv_putF (qL_at (i := 121) (kd := .inl (11, [0, 2, 2, 2, 2, 2, 2, 2, 2, 2, 2, 2, 2, 2, 2, 2, 2, 2, 2, 2, 0, 0, 0, 0, 0, 0, 0, 0, 0, 0, 2, 2, 2, 2, 2, 2, 2, 2, 2, 2, 2, 2, 2, 2, 2, 2, 2, 2, 0, 0, 0, 0, 2, 2, 2, 2, 2, 2, 2, 2, 2, 2, 0, 0])) rfl (by decide)) fd_RX12_7 rfl rfl rfl rfl dX12_init_9 E (fun h2 E => ?_)
  refine qv_aload_n 0 dX12_init_12 rfl rfl ?_
  refine qv_bipush dX12_init_13 cb_36 ?_
  refine qv_newI (show qa_layD[121]? = some (.inr (0, 36)) from rfl) (by decide) (by decide) (Nat.le_of_ble_eq_true rfl) (Nat.le_of_ble_eq_true rfl) dX12_init_15 E (fun h3 E => ?_)
  refine qv_putF (qL_at (i := 122) (kd := .inl (11, [0, 2, 2, 2, 2, 2, 2, 2, 2, 2, 2, 2, 2, 2, 2, 2, 2, 2, 2, 2, 0, 0, 0, 0, 0, 0, 0, 0, 0, 0, 2, 2, 2, 2, 2, 2, 2, 2, 2, 2, 2, 2, 2, 2, 2, 2, 2, 2, 0, 0, 0, 0, 2, 2, 2, 2, 2, 2, 2, 2, 2, 2, 0, 0])) rfl (by decide)) fd_RX12_13 rfl rfl rfl rfl dX12_init_17 E (fun h4 E => ?_)
  refine qv_aload_n 0 dX12_init_20 rfl rfl ?_
  refine qv_bipush dX12_init_21 cb_8 ?_
  refine qv_newI (show qa_layD[122]? = some (.inr (0, 8)) from rfl) (by decide) (by decide) (Nat.le_of_ble_eq_true rfl) (Nat.le_of_ble_eq_true rfl) dX12_init_23 E (fun h5 E => ?_)
  refine qv_putF (qL_at (i := 123) (kd := .inl (11, [0, 2, 2, 2, 2, 2, 2, 2, 2, 2, 2, 2, 2, 2, 2, 2, 2, 2, 2, 2, 0, 0, 0, 0, 0, 0, 0, 0, 0, 0, 2, 2, 2, 2, 2, 2, 2, 2, 2, 2, 2, 2, 2, 2, 2, 2, 2, 2, 0, 0, 0, 0, 2, 2, 2, 2, 2, 2, 2, 2, 2, 2, 0, 0])) rfl (by decide)) fd_RX12_16 rfl rfl rfl rfl dX12_init_25 E (fun h6 E => ?_)
  refine qv_aload_n 0 dX12_init_28 rfl rfl ?_
  refine qv_bipush dX12_init_29 cb_8 ?_
  refine qv_newI (show qa_layD[123]? = some (.inr (0, 8)) from rfl) (by decide) (by decide) (Nat.le_of_ble_eq_true rfl) (Nat.le_of_ble_eq_true rfl) dX12_init_31 E (fun h7 E => ?_)
  refine qv_putF (qL_at (i := 124) (kd := .inl (11, [0, 2, 2, 2, 2, 2, 2, 2, 2, 2, 2, 2, 2, 2, 2, 2, 2, 2, 2, 2, 0, 0, 0, 0, 0, 0, 0, 0, 0, 0, 2, 2, 2, 2, 2, 2, 2, 2, 2, 2, 2, 2, 2, 2, 2, 2, 2, 2, 0, 0, 0, 0, 2, 2, 2, 2, 2, 2, 2, 2, 2, 2, 0, 0])) rfl (by decide)) fd_RX12_19 rfl rfl rfl rfl dX12_init_33 E (fun h8 E => ?_)
  refine qv_aload_n 0 dX12_init_36 rfl rfl ?_
  refine qv_bipush dX12_init_37 cb_6 ?_
  refine qv_newI (show qa_layD[124]? = some (.inr (0, 6)) from rfl) (by decide) (by decide) (Nat.le_of_ble_eq_true rfl) (Nat.le_of_ble_eq_true rfl) dX12_init_39 E (fun h9 E => ?_)
  refine qv_putF (qL_at (i := 125) (kd := .inl (11, [0, 2, 2, 2, 2, 2, 2, 2, 2, 2, 2, 2, 2, 2, 2, 2, 2, 2, 2, 2, 0, 0, 0, 0, 0, 0, 0, 0, 0, 0, 2, 2, 2, 2, 2, 2, 2, 2, 2, 2, 2, 2, 2, 2, 2, 2, 2, 2, 0, 0, 0, 0, 2, 2, 2, 2, 2, 2, 2, 2, 2, 2, 0, 0])) rfl (by decide)) fd_RX12_22 rfl rfl rfl rfl dX12_init_41 E (fun h10 E => ?_)
  refine qv_aload_n 0 dX12_init_44 rfl rfl ?_
  refine qv_bipush dX12_init_45 cb_6 ?_
  refine qv_newI (show qa_layD[125]? = some (.inr (0, 6)) from rfl) (by decide) (by decide) (Nat.le_of_ble_eq_true rfl) (Nat.le_of_ble_eq_true rfl) dX12_init_47 E (fun h11 E => ?_)
  refine qv_putF (qL_at (i := 126) (kd := .inl (11, [0, 2, 2, 2, 2, 2, 2, 2, 2, 2, 2, 2, 2, 2, 2, 2, 2, 2, 2, 2, 0, 0, 0, 0, 0, 0, 0, 0, 0, 0, 2, 2, 2, 2, 2, 2, 2, 2, 2, 2, 2, 2, 2, 2, 2, 2, 2, 2, 0, 0, 0, 0, 2, 2, 2, 2, 2, 2, 2, 2, 2, 2, 0, 0])) rfl (by decide)) fd_RX12_25 rfl rfl rfl rfl dX12_init_49 E (fun h12 E => ?_)
  refine qv_aload_n 0 dX12_init_52 rfl rfl ?_
  refine qv_iconst dX12_init_53 ci_4 ?_
  refine qv_newI (show qa_layD[126]? = some (.inr (0, 4)) from rfl) (by decide) (by decide) (Nat.le_of_ble_eq_true rfl) (Nat.le_of_ble_eq_true rfl) dX12_init_54 E (fun h13 E => ?_)
  refine qv_putF (qL_at (i := 127) (kd := .inl (11, [0, 2, 2, 2, 2, 2, 2, 2, 2, 2, 2, 2, 2, 2, 2, 2, 2, 2, 2, 2, 0, 0, 0, 0, 0, 0, 0, 0, 0, 0, 2, 2, 2, 2, 2, 2, 2, 2, 2, 2, 2, 2, 2, 2, 2, 2, 2, 2, 0, 0, 0, 0, 2, 2, 2, 2, 2, 2, 2, 2, 2, 2, 0, 0])) rfl (by decide)) fd_RX12_28 rfl rfl rfl rfl dX12_init_56 E (fun h14 E => ?_)
  refine qv_aload_n 0 dX12_init_59 rfl rfl ?_
  refine qv_bipush dX12_init_60 cb_10 ?_
  refine qv_newI (show qa_layD[127]? = some (.inr (0, 10)) from rfl) (by decide) (by decide) (Nat.le_of_ble_eq_true rfl) (Nat.le_of_ble_eq_true rfl) dX12_init_62 E (fun h15 E => ?_)
  refine qv_putF (qL_at (i := 128) (kd := .inl (11, [0, 2, 2, 2, 2, 2, 2, 2, 2, 2, 2, 2, 2, 2, 2, 2, 2, 2, 2, 2, 0, 0, 0, 0, 0, 0, 0, 0, 0, 0, 2, 2, 2, 2, 2, 2, 2, 2, 2, 2, 2, 2, 2, 2, 2, 2, 2, 2, 0, 0, 0, 0, 2, 2, 2, 2, 2, 2, 2, 2, 2, 2, 0, 0])) rfl (by decide)) fd_RX12_31 rfl rfl rfl rfl dX12_init_64 E (fun h16 E => ?_)
  refine qv_aload_n 0 dX12_init_67 rfl rfl ?_
  refine qv_bipush dX12_init_68 cb_10 ?_
  refine qv_newI (show qa_layD[128]? = some (.inr (0, 10)) from rfl) (by decide) (by decide) (Nat.le_of_ble_eq_true rfl) (Nat.le_of_ble_eq_true rfl) dX12_init_70 E (fun h17 E => ?_)
  refine qv_putF (qL_at (i := 129) (kd := .inl (11, [0, 2, 2, 2, 2, 2, 2, 2, 2, 2, 2, 2, 2, 2, 2, 2, 2, 2, 2, 2, 0, 0, 0, 0, 0, 0, 0, 0, 0, 0, 2, 2, 2, 2, 2, 2, 2, 2, 2, 2, 2, 2, 2, 2, 2, 2, 2, 2, 0, 0, 0, 0, 2, 2, 2, 2, 2, 2, 2, 2, 2, 2, 0, 0])) rfl (by decide)) fd_RX12_34 rfl rfl rfl rfl dX12_init_72 E (fun h18 E => ?_)
  refine qv_aload_n 0 dX12_init_75 rfl rfl ?_
  refine qv_bipush dX12_init_76 cb_10 ?_
  refine qv_newI (show qa_layD[129]? = some (.inr (0, 10)) from rfl) (by decide) (by decide) (Nat.le_of_ble_eq_true rfl) (Nat.le_of_ble_eq_true rfl) dX12_init_78 E (fun h19 E => ?_)
  refine qv_putF (qL_at (i := 130) (kd := .inl (11, [0, 2, 2, 2, 2, 2, 2, 2, 2, 2, 2, 2, 2, 2, 2, 2, 2, 2, 2, 2, 0, 0, 0, 0, 0, 0, 0, 0, 0, 0, 2, 2, 2, 2, 2, 2, 2, 2, 2, 2, 2, 2, 2, 2, 2, 2, 2, 2, 0, 0, 0, 0, 2, 2, 2, 2, 2, 2, 2, 2, 2, 2, 0, 0])) rfl (by decide)) fd_RX12_37 rfl rfl rfl rfl dX12_init_80 E (fun h20 E => ?_)
  refine qv_aload_n 0 dX12_init_83 rfl rfl ?_
  refine qv_bipush dX12_init_84 cb_10 ?_
  refine qv_newI (show qa_layD[130]? = some (.inr (0, 10)) from rfl) (by decide) (by decide) (Nat.le_of_ble_eq_true rfl) (Nat.le_of_ble_eq_true rfl) dX12_init_86 E (fun h21 E => ?_)
  refine qv_putF (qL_at (i := 131) (kd := .inl (11, [0, 2, 2, 2, 2, 2, 2, 2, 2, 2, 2, 2, 2, 2, 2, 2, 2, 2, 2, 2, 0, 0, 0, 0, 0, 0, 0, 0, 0, 0, 2, 2, 2, 2, 2, 2, 2, 2, 2, 2, 2, 2, 2, 2, 2, 2, 2, 2, 0, 0, 0, 0, 2, 2, 2, 2, 2, 2, 2, 2, 2, 2, 0, 0])) rfl (by decide)) fd_RX12_40 rfl rfl rfl rfl dX12_init_88 E (fun h22 E => ?_)
  refine qv_aload_n 0 dX12_init_91 rfl rfl ?_
  refine qv_bipush dX12_init_92 cb_10 ?_
  refine qv_newI (show qa_layD[131]? = some (.inr (0, 10)) from rfl) (by decide) (by decide) (Nat.le_of_ble_eq_true rfl) (Nat.le_of_ble_eq_true rfl) dX12_init_94 E (fun h23 E => ?_)
  refine qv_putF (qL_at (i := 132) (kd := .inl (11, [0, 2, 2, 2, 2, 2, 2, 2, 2, 2, 2, 2, 2, 2, 2, 2, 2, 2, 2, 2, 0, 0, 0, 0, 0, 0, 0, 0, 0, 0, 2, 2, 2, 2, 2, 2, 2, 2, 2, 2, 2, 2, 2, 2, 2, 2, 2, 2, 0, 0, 0, 0, 2, 2, 2, 2, 2, 2, 2, 2, 2, 2, 0, 0])) rfl (by decide)) fd_RX12_43 rfl rfl rfl rfl dX12_init_96 E (fun h24 E => ?_)
  refine qv_aload_n 0 dX12_init_99 rfl rfl ?_
  refine qv_iconst dX12_init_100 ci_5 ?_
  refine qv_newI (show qa_layD[132]? = some (.inr (0, 5)) from rfl) (by decide) (by decide) (Nat.le_of_ble_eq_true rfl) (Nat.le_of_ble_eq_true rfl) dX12_init_101 E (fun h25 E => ?_)
  refine qv_putF (qL_at (i := 133) (kd := .inl (11, [0, 2, 2, 2, 2, 2, 2, 2, 2, 2, 2, 2, 2, 2, 2, 2, 2, 2, 2, 2, 0, 0, 0, 0, 0, 0, 0, 0, 0, 0, 2, 2, 2, 2, 2, 2, 2, 2, 2, 2, 2, 2, 2, 2, 2, 2, 2, 2, 0, 0, 0, 0, 2, 2, 2, 2, 2, 2, 2, 2, 2, 2, 0, 0])) rfl (by decide)) fd_RX12_46 rfl rfl rfl rfl dX12_init_103 E (fun h26 E => ?_)
  refine qv_aload_n 0 dX12_init_106 rfl rfl ?_
  refine qv_bipush dX12_init_107 cb_36 ?_
  refine qv_newI (show qa_layD[133]? = some (.inr (0, 36)) from rfl) (by decide) (by decide) (Nat.le_of_ble_eq_true rfl) (Nat.le_of_ble_eq_true rfl) dX12_init_109 E (fun h27 E => ?_)
  refine qv_putF (qL_at (i := 134) (kd := .inl (11, [0, 2, 2, 2, 2, 2, 2, 2, 2, 2, 2, 2, 2, 2, 2, 2, 2, 2, 2, 2, 0, 0, 0, 0, 0, 0, 0, 0, 0, 0, 2, 2, 2, 2, 2, 2, 2, 2, 2, 2, 2, 2, 2, 2, 2, 2, 2, 2, 0, 0, 0, 0, 2, 2, 2, 2, 2, 2, 2, 2, 2, 2, 0, 0])) rfl (by decide)) fd_RX12_49 rfl rfl rfl rfl dX12_init_111 E (fun h28 E => ?_)
  refine qv_aload_n 0 dX12_init_114 rfl rfl ?_
  refine qv_bipush dX12_init_115 cb_8 ?_
  refine qv_newI (show qa_layD[134]? = some (.inr (0, 8)) from rfl) (by decide) (by decide) (Nat.le_of_ble_eq_true rfl) (Nat.le_of_ble_eq_true rfl) dX12_init_117 E (fun h29 E => ?_)
  refine qv_putF (qL_at (i := 135) (kd := .inl (11, [0, 2, 2, 2, 2, 2, 2, 2, 2, 2, 2, 2, 2, 2, 2, 2, 2, 2, 2, 2, 0, 0, 0, 0, 0, 0, 0, 0, 0, 0, 2, 2, 2, 2, 2, 2, 2, 2, 2, 2, 2, 2, 2, 2, 2, 2, 2, 2, 0, 0, 0, 0, 2, 2, 2, 2, 2, 2, 2, 2, 2, 2, 0, 0])) rfl (by decide)) fd_RX12_52 rfl rfl rfl rfl dX12_init_119 E (fun h30 E => ?_)
  refine qv_aload_n 0 dX12_init_122 rfl rfl ?_
  refine qv_bipush dX12_init_123 cb_8 ?_
  refine qv_newI (show qa_layD[135]? = some (.inr (0, 8)) from rfl) (by decide) (by decide) (Nat.le_of_ble_eq_true rfl) (Nat.le_of_ble_eq_true rfl) dX12_init_125 E (fun h31 E => ?_)
  refine qv_putF (qL_at (i := 136) (kd := .inl (11, [0, 2, 2, 2, 2, 2, 2, 2, 2, 2, 2, 2, 2, 2, 2, 2, 2, 2, 2, 2, 0, 0, 0, 0, 0, 0, 0, 0, 0, 0, 2, 2, 2, 2, 2, 2, 2, 2, 2, 2, 2, 2, 2, 2, 2, 2, 2, 2, 0, 0, 0, 0, 2, 2, 2, 2, 2, 2, 2, 2, 2, 2, 0, 0])) rfl (by decide)) fd_RX12_55 rfl rfl rfl rfl dX12_init_127 E (fun h32 E => ?_)
  refine qv_aload_n 0 dX12_init_130 rfl rfl ?_
  refine qv_bipush dX12_init_131 cb_6 ?_
  refine qv_newI (show qa_layD[136]? = some (.inr (0, 6)) from rfl) (by decide) (by decide) (Nat.le_of_ble_eq_true rfl) (Nat.le_of_ble_eq_true rfl) dX12_init_133 E (fun h33 E => ?_)
  refine qv_putF (qL_at (i := 137) (kd := .inl (11, [0, 2, 2, 2, 2, 2, 2, 2, 2, 2, 2, 2, 2, 2, 2, 2, 2, 2, 2, 2, 0, 0, 0, 0, 0, 0, 0, 0, 0, 0, 2, 2, 2, 2, 2, 2, 2, 2, 2, 2, 2, 2, 2, 2, 2, 2, 2, 2, 0, 0, 0, 0, 2, 2, 2, 2, 2, 2, 2, 2, 2, 2, 0, 0])) rfl (by decide)) fd_RX12_58 rfl rfl rfl rfl dX12_init_135 E (fun h34 E => ?_)
  refine qv_aload_n 0 dX12_init_138 rfl rfl ?_
  refine qv_bipush dX12_init_139 cb_6 ?_
  refine qv_newI (show qa_layD[137]? = some (.inr (0, 6)) from rfl) (by decide) (by decide) (Nat.le_of_ble_eq_true rfl) (Nat.le_of_ble_eq_true rfl) dX12_init_141 E (fun h35 E => ?_)
  refine qv_putF (qL_at (i := 138) (kd := .inl (11, [0, 2, 2, 2, 2, 2, 2, 2, 2, 2, 2, 2, 2, 2, 2, 2, 2, 2, 2, 2, 0, 0, 0, 0, 0, 0, 0, 0, 0, 0, 2, 2, 2, 2, 2, 2, 2, 2, 2, 2, 2, 2, 2, 2, 2, 2, 2, 2, 0, 0, 0, 0, 2, 2, 2, 2, 2, 2, 2, 2, 2, 2, 0, 0])) rfl (by decide)) fd_RX12_61 rfl rfl rfl rfl dX12_init_143 E (fun h36 E => ?_)
  refine qv_aload_n 0 dX12_init_146 rfl rfl ?_
  refine qv_iconst dX12_init_147 ci_4 ?_
  refine qv_newI (show qa_layD[138]? = some (.inr (0, 4)) from rfl) (by decide) (by decide) (Nat.le_of_ble_eq_true rfl) (Nat.le_of_ble_eq_true rfl) dX12_init_148 E (fun h37 E => ?_)
  refine qv_putF (qL_at (i := 139) (kd := .inl (11, [0, 2, 2, 2, 2, 2, 2, 2, 2, 2, 2, 2, 2, 2, 2, 2, 2, 2, 2, 2, 0, 0, 0, 0, 0, 0, 0, 0, 0, 0, 2, 2, 2, 2, 2, 2, 2, 2, 2, 2, 2, 2, 2, 2, 2, 2, 2, 2, 0, 0, 0, 0, 2, 2, 2, 2, 2, 2, 2, 2, 2, 2, 0, 0])) rfl (by decide)) fd_RX12_64 rfl rfl rfl rfl dX12_init_150 E (fun h38 E => ?_)
  refine qv_aload_n 0 dX12_init_153 rfl rfl ?_
  refine qv_bipush dX12_init_154 cb_7 ?_
  refine qv_putI (qL_at (i := 139) (kd := .inl (11, [0, 2, 2, 2, 2, 2, 2, 2, 2, 2, 2, 2, 2, 2, 2, 2, 2, 2, 2, 2, 0, 0, 0, 0, 0, 0, 0, 0, 0, 0, 2, 2, 2, 2, 2, 2, 2, 2, 2, 2, 2, 2, 2, 2, 2, 2, 2, 2, 0, 0, 0, 0, 2, 2, 2, 2, 2, 2, 2, 2, 2, 2, 0, 0])) rfl (by decide)) fd_RX12_67 rfl dX12_init_156 E (fun h39 E => ?_)
  refine qv_aload_n 0 dX12_init_159 rfl rfl ?_
  refine qv_sipush dX12_init_160 cs_400 ?_
  refine qv_newB (show qa_layD[139]? = some (.inr (2, 400)) from rfl) (by decide) (by decide) (Nat.le_of_ble_eq_true rfl) (Nat.le_of_ble_eq_true rfl) dX12_init_163 E (fun h40 E => ?_)
  refine qv_putF (qL_at (i := 140) (kd := .inl (11, [0, 2, 2, 2, 2, 2, 2, 2, 2, 2, 2, 2, 2, 2, 2, 2, 2, 2, 2, 2, 0, 0, 0, 0, 0, 0, 0, 0, 0, 0, 2, 2, 2, 2, 2, 2, 2, 2, 2, 2, 2, 2, 2, 2, 2, 2, 2, 2, 0, 0, 0, 0, 2, 2, 2, 2, 2, 2, 2, 2, 2, 2, 0, 0])) rfl (by decide)) fd_RX12_71 rfl rfl rfl rfl dX12_init_165 E (fun h41 E => ?_)
  refine qv_aload_n 0 dX12_init_168 rfl rfl ?_
  refine qv_sipush dX12_init_169 cs_1200 ?_
  refine qv_newI (show qa_layD[140]? = some (.inr (0, 1200)) from rfl) (by decide) (by decide) (Nat.le_of_ble_eq_true rfl) (Nat.le_of_ble_eq_true rfl) dX12_init_172 E (fun h42 E => ?_)
  refine qv_putF (qL_at (i := 141) (kd := .inl (11, [0, 2, 2, 2, 2, 2, 2, 2, 2, 2, 2, 2, 2, 2, 2, 2, 2, 2, 2, 2, 0, 0, 0, 0, 0, 0, 0, 0, 0, 0, 2, 2, 2, 2, 2, 2, 2, 2, 2, 2, 2, 2, 2, 2, 2, 2, 2, 2, 0, 0, 0, 0, 2, 2, 2, 2, 2, 2, 2, 2, 2, 2, 0, 0])) rfl (by decide)) fd_RX12_75 rfl rfl rfl rfl dX12_init_174 E (fun h43 E => ?_)
  refine qv_aload_n 0 dX12_init_177 rfl rfl ?_
  refine qv_sipush dX12_init_178 cs_1200 ?_
  refine qv_newI (show qa_layD[141]? = some (.inr (0, 1200)) from rfl) (by decide) (by decide) (Nat.le_of_ble_eq_true rfl) (Nat.le_of_ble_eq_true rfl) dX12_init_181 E (fun h44 E => ?_)
  refine qv_putF (qL_at (i := 142) (kd := .inl (11, [0, 2, 2, 2, 2, 2, 2, 2, 2, 2, 2, 2, 2, 2, 2, 2, 2, 2, 2, 2, 0, 0, 0, 0, 0, 0, 0, 0, 0, 0, 2, 2, 2, 2, 2, 2, 2, 2, 2, 2, 2, 2, 2, 2, 2, 2, 2, 2, 0, 0, 0, 0, 2, 2, 2, 2, 2, 2, 2, 2, 2, 2, 0, 0])) rfl (by decide)) fd_RX12_78 rfl rfl rfl rfl dX12_init_183 E (fun h45 E => ?_)
  refine qv_aload_n 0 dX12_init_186 rfl rfl ?_
  refine qv_iconst dX12_init_187 ci_4 ?_
  refine qv_newI (show qa_layD[142]? = some (.inr (0, 4)) from rfl) (by decide) (by decide) (Nat.le_of_ble_eq_true rfl) (Nat.le_of_ble_eq_true rfl) dX12_init_188 E (fun h46 E => ?_)
  refine qv_putF (qL_at (i := 143) (kd := .inl (11, [0, 2, 2, 2, 2, 2, 2, 2, 2, 2, 2, 2, 2, 2, 2, 2, 2, 2, 2, 2, 0, 0, 0, 0, 0, 0, 0, 0, 0, 0, 2, 2, 2, 2, 2, 2, 2, 2, 2, 2, 2, 2, 2, 2, 2, 2, 2, 2, 0, 0, 0, 0, 2, 2, 2, 2, 2, 2, 2, 2, 2, 2, 0, 0])) rfl (by decide)) fd_RX12_81 rfl rfl rfl rfl dX12_init_190 E (fun h47 E => ?_)
  refine qv_aload_n 0 dX12_init_193 rfl rfl ?_
  refine qv_bipush dX12_init_194 cb_48 ?_
  refine qv_newI (show qa_layD[143]? = some (.inr (0, 48)) from rfl) (by decide) (by decide) (Nat.le_of_ble_eq_true rfl) (Nat.le_of_ble_eq_true rfl) dX12_init_196 E (fun h48 E => ?_)
  refine qv_putF (qL_at (i := 144) (kd := .inl (11, [0, 2, 2, 2, 2, 2, 2, 2, 2, 2, 2, 2, 2, 2, 2, 2, 2, 2, 2, 2, 0, 0, 0, 0, 0, 0, 0, 0, 0, 0, 2, 2, 2, 2, 2, 2, 2, 2, 2, 2, 2, 2, 2, 2, 2, 2, 2, 2, 0, 0, 0, 0, 2, 2, 2, 2, 2, 2, 2, 2, 2, 2, 0, 0])) rfl (by decide)) fd_RX12_84 rfl rfl rfl rfl dX12_init_198 E (fun h49 E => ?_)
  refine qv_aload_n 0 dX12_init_201 rfl rfl ?_
  refine qv_bipush dX12_init_202 cb_48 ?_
  refine qv_newI (show qa_layD[144]? = some (.inr (0, 48)) from rfl) (by decide) (by decide) (Nat.le_of_ble_eq_true rfl) (Nat.le_of_ble_eq_true rfl) dX12_init_204 E (fun h50 E => ?_)
  refine qv_putF (qL_at (i := 145) (kd := .inl (11, [0, 2, 2, 2, 2, 2, 2, 2, 2, 2, 2, 2, 2, 2, 2, 2, 2, 2, 2, 2, 0, 0, 0, 0, 0, 0, 0, 0, 0, 0, 2, 2, 2, 2, 2, 2, 2, 2, 2, 2, 2, 2, 2, 2, 2, 2, 2, 2, 0, 0, 0, 0, 2, 2, 2, 2, 2, 2, 2, 2, 2, 2, 0, 0])) rfl (by decide)) fd_RX12_87 rfl rfl rfl rfl dX12_init_206 E (fun h51 E => ?_)
  refine qv_aload_n 0 dX12_init_209 rfl rfl ?_
  refine qv_bipush dX12_init_210 cb_48 ?_
  refine qv_newI (show qa_layD[145]? = some (.inr (0, 48)) from rfl) (by decide) (by decide) (Nat.le_of_ble_eq_true rfl) (Nat.le_of_ble_eq_true rfl) dX12_init_212 E (fun h52 E => ?_)
  refine qv_putF (qL_at (i := 146) (kd := .inl (11, [0, 2, 2, 2, 2, 2, 2, 2, 2, 2, 2, 2, 2, 2, 2, 2, 2, 2, 2, 2, 0, 0, 0, 0, 0, 0, 0, 0, 0, 0, 2, 2, 2, 2, 2, 2, 2, 2, 2, 2, 2, 2, 2, 2, 2, 2, 2, 2, 0, 0, 0, 0, 2, 2, 2, 2, 2, 2, 2, 2, 2, 2, 0, 0])) rfl (by decide)) fd_RX12_90 rfl rfl rfl rfl dX12_init_214 E (fun h53 E => ?_)
  refine qv_aload_n 0 dX12_init_217 rfl rfl ?_
  refine qv_bipush dX12_init_218 cb_48 ?_
  refine qv_newI (show qa_layD[146]? = some (.inr (0, 48)) from rfl) (by decide) (by decide) (Nat.le_of_ble_eq_true rfl) (Nat.le_of_ble_eq_true rfl) dX12_init_220 E (fun h54 E => ?_)
  refine qv_putF (qL_at (i := 147) (kd := .inl (11, [0, 2, 2, 2, 2, 2, 2, 2, 2, 2, 2, 2, 2, 2, 2, 2, 2, 2, 2, 2, 0, 0, 0, 0, 0, 0, 0, 0, 0, 0, 2, 2, 2, 2, 2, 2, 2, 2, 2, 2, 2, 2, 2, 2, 2, 2, 2, 2, 0, 0, 0, 0, 2, 2, 2, 2, 2, 2, 2, 2, 2, 2, 0, 0])) rfl (by decide)) fd_RX12_93 rfl rfl rfl rfl dX12_init_222 E (fun h55 E => ?_)
  refine qv_aload_n 0 dX12_init_225 rfl rfl ?_
  refine qv_bipush dX12_init_226 cb_48 ?_
  refine qv_newI (show qa_layD[147]? = some (.inr (0, 48)) from rfl) (by decide) (by decide) (Nat.le_of_ble_eq_true rfl) (Nat.le_of_ble_eq_true rfl) dX12_init_228 E (fun h56 E => ?_)
  refine qv_putF (qL_at (i := 148) (kd := .inl (11, [0, 2, 2, 2, 2, 2, 2, 2, 2, 2, 2, 2, 2, 2, 2, 2, 2, 2, 2, 2, 0, 0, 0, 0, 0, 0, 0, 0, 0, 0, 2, 2, 2, 2, 2, 2, 2, 2, 2, 2, 2, 2, 2, 2, 2, 2, 2, 2, 0, 0, 0, 0, 2, 2, 2, 2, 2, 2, 2, 2, 2, 2, 0, 0])) rfl (by decide)) fd_RX12_96 rfl rfl rfl rfl dX12_init_230 E (fun h57 E => ?_)
  refine qv_aload_n 0 dX12_init_233 rfl rfl ?_
  refine qv_sipush dX12_init_234 cs_402 ?_
  refine qv_newI (show qa_layD[148]? = some (.inr (0, 402)) from rfl) (by decide) (by decide) (Nat.le_of_ble_eq_true rfl) (Nat.le_of_ble_eq_true rfl) dX12_init_237 E (fun h58 E => ?_)
  refine qv_putF (qL_at (i := 149) (kd := .inl (11, [0, 2, 2, 2, 2, 2, 2, 2, 2, 2, 2, 2, 2, 2, 2, 2, 2, 2, 2, 2, 0, 0, 0, 0, 0, 0, 0, 0, 0, 0, 2, 2, 2, 2, 2, 2, 2, 2, 2, 2, 2, 2, 2, 2, 2, 2, 2, 2, 0, 0, 0, 0, 2, 2, 2, 2, 2, 2, 2, 2, 2, 2, 0, 0])) rfl (by decide)) fd_RX12_99 rfl rfl rfl rfl dX12_init_239 E (fun h59 E => ?_)
  refine qv_aload_n 0 dX12_init_242 rfl rfl ?_
  refine qv_bipush dX12_init_243 cb_7 ?_
  refine qv_newJ (show qa_layD[149]? = some (.inr (1, 7)) from rfl) (by decide) (by decide) (Nat.le_of_ble_eq_true rfl) (Nat.le_of_ble_eq_true rfl) dX12_init_245 E (fun h60 E => ?_)
  refine qv_putF (qL_at (i := 150) (kd := .inl (11, [0, 2, 2, 2, 2, 2, 2, 2, 2, 2, 2, 2, 2, 2, 2, 2, 2, 2, 2, 2, 0, 0, 0, 0, 0, 0, 0, 0, 0, 0, 2, 2, 2, 2, 2, 2, 2, 2, 2, 2, 2, 2, 2, 2, 2, 2, 2, 2, 0, 0, 0, 0, 2, 2, 2, 2, 2, 2, 2, 2, 2, 2, 0, 0])) rfl (by decide)) fd_RX12_102 rfl rfl rfl rfl dX12_init_247 E (fun h61 E => ?_)
  refine qv_aload_n 0 dX12_init_250 rfl rfl ?_
  refine qv_sipush dX12_init_251 cs_300 ?_
  refine qv_newJ (show qa_layD[150]? = some (.inr (1, 300)) from rfl) (by decide) (by decide) (Nat.le_of_ble_eq_true rfl) (Nat.le_of_ble_eq_true rfl) dX12_init_254 E (fun h62 E => ?_)
  refine qv_putF (qL_at (i := 151) (kd := .inl (11, [0, 2, 2, 2, 2, 2, 2, 2, 2, 2, 2, 2, 2, 2, 2, 2, 2, 2, 2, 2, 0, 0, 0, 0, 0, 0, 0, 0, 0, 0, 2, 2, 2, 2, 2, 2, 2, 2, 2, 2, 2, 2, 2, 2, 2, 2, 2, 2, 0, 0, 0, 0, 2, 2, 2, 2, 2, 2, 2, 2, 2, 2, 0, 0])) rfl (by decide)) fd_RX12_106 rfl rfl rfl rfl dX12_init_256 E (fun h63 E => ?_)
  refine qv_aload_n 0 dX12_init_259 rfl rfl ?_
  refine qv_iconst dX12_init_260 ci_4 ?_
  refine qv_newI (show qa_layD[151]? = some (.inr (0, 4)) from rfl) (by decide) (by decide) (Nat.le_of_ble_eq_true rfl) (Nat.le_of_ble_eq_true rfl) dX12_init_261 E (fun h64 E => ?_)
  refine qv_putF (qL_at (i := 152) (kd := .inl (11, [0, 2, 2, 2, 2, 2, 2, 2, 2, 2, 2, 2, 2, 2, 2, 2, 2, 2, 2, 2, 0, 0, 0, 0, 0, 0, 0, 0, 0, 0, 2, 2, 2, 2, 2, 2, 2, 2, 2, 2, 2, 2, 2, 2, 2, 2, 2, 2, 0, 0, 0, 0, 2, 2, 2, 2, 2, 2, 2, 2, 2, 2, 0, 0])) rfl (by decide)) fd_RX12_109 rfl rfl rfl rfl dX12_init_263 E (fun h65 E => ?_)
  refine qv_aload_n 0 dX12_init_266 rfl rfl ?_
  refine qv_iconst dX12_init_267 ci_4 ?_
  refine qv_newI (show qa_layD[152]? = some (.inr (0, 4)) from rfl) (by decide) (by decide) (Nat.le_of_ble_eq_true rfl) (Nat.le_of_ble_eq_true rfl) dX12_init_268 E (fun h66 E => ?_)
  refine qv_putF (qL_at (i := 153) (kd := .inl (11, [0, 2, 2, 2, 2, 2, 2, 2, 2, 2, 2, 2, 2, 2, 2, 2, 2, 2, 2, 2, 0, 0, 0, 0, 0, 0, 0, 0, 0, 0, 2, 2, 2, 2, 2, 2, 2, 2, 2, 2, 2, 2, 2, 2, 2, 2, 2, 2, 0, 0, 0, 0, 2, 2, 2, 2, 2, 2, 2, 2, 2, 2, 0, 0])) rfl (by decide)) fd_RX12_112 rfl rfl rfl rfl dX12_init_270 E (fun h67 E => ?_)
  refine qv_aload_n 0 dX12_init_273 rfl rfl ?_
  refine qv_bipush dX12_init_274 cb_16 ?_
  refine qv_newI (show qa_layD[153]? = some (.inr (0, 16)) from rfl) (by decide) (by decide) (Nat.le_of_ble_eq_true rfl) (Nat.le_of_ble_eq_true rfl) dX12_init_276 E (fun h68 E => ?_)
  refine qv_putF (qL_at (i := 154) (kd := .inl (11, [0, 2, 2, 2, 2, 2, 2, 2, 2, 2, 2, 2, 2, 2, 2, 2, 2, 2, 2, 2, 0, 0, 0, 0, 0, 0, 0, 0, 0, 0, 2, 2, 2, 2, 2, 2, 2, 2, 2, 2, 2, 2, 2, 2, 2, 2, 2, 2, 0, 0, 0, 0, 2, 2, 2, 2, 2, 2, 2, 2, 2, 2, 0, 0])) rfl (by decide)) fd_RX12_115 rfl rfl rfl rfl dX12_init_278 E (fun h69 E => ?_)
  refine qv_aload_n 0 dX12_init_281 rfl rfl ?_
  refine qv_iconst dX12_init_282 ci_4 ?_
  refine qv_newJ (show qa_layD[154]? = some (.inr (1, 4)) from rfl) (by decide) (by decide) (Nat.le_of_ble_eq_true rfl) (Nat.le_of_ble_eq_true rfl) dX12_init_283 E (fun h70 E => ?_)
  refine qv_putF (qL_at (i := 155) (kd := .inl (11, [0, 2, 2, 2, 2, 2, 2, 2, 2, 2, 2, 2, 2, 2, 2, 2, 2, 2, 2, 2, 0, 0, 0, 0, 0, 0, 0, 0, 0, 0, 2, 2, 2, 2, 2, 2, 2, 2, 2, 2, 2, 2, 2, 2, 2, 2, 2, 2, 0, 0, 0, 0, 2, 2, 2, 2, 2, 2, 2, 2, 2, 2, 0, 0])) rfl (by decide)) fd_RX12_118 rfl rfl rfl rfl dX12_init_285 E (fun h71 E => ?_)
  refine qv_aload_n 0 dX12_init_288 rfl rfl ?_
  refine qv_bipush dX12_init_289 cb_10 ?_
  refine qv_newJ (show qa_layD[155]? = some (.inr (1, 10)) from rfl) (by decide) (by decide) (Nat.le_of_ble_eq_true rfl) (Nat.le_of_ble_eq_true rfl) dX12_init_291 E (fun h72 E => ?_)
  refine qv_putF (qL_at (i := 156) (kd := .inl (11, [0, 2, 2, 2, 2, 2, 2, 2, 2, 2, 2, 2, 2, 2, 2, 2, 2, 2, 2, 2, 0, 0, 0, 0, 0, 0, 0, 0, 0, 0, 2, 2, 2, 2, 2, 2, 2, 2, 2, 2, 2, 2, 2, 2, 2, 2, 2, 2, 0, 0, 0, 0, 2, 2, 2, 2, 2, 2, 2, 2, 2, 2, 0, 0])) rfl (by decide)) fd_RX12_121 rfl rfl rfl rfl dX12_init_293 E (fun h73 E => ?_)
  refine qv_aload_n 0 dX12_init_296 rfl rfl ?_
  refine qv_bipush dX12_init_297 cb_36 ?_
  refine qv_newJ (show qa_layD[156]? = some (.inr (1, 36)) from rfl) (by decide) (by decide) (Nat.le_of_ble_eq_true rfl) (Nat.le_of_ble_eq_true rfl) dX12_init_299 E (fun h74 E => ?_)
  refine qv_putF (qL_at (i := 157) (kd := .inl (11, [0, 2, 2, 2, 2, 2, 2, 2, 2, 2, 2, 2, 2, 2, 2, 2, 2, 2, 2, 2, 0, 0, 0, 0, 0, 0, 0, 0, 0, 0, 2, 2, 2, 2, 2, 2, 2, 2, 2, 2, 2, 2, 2, 2, 2, 2, 2, 2, 0, 0, 0, 0, 2, 2, 2, 2, 2, 2, 2, 2, 2, 2, 0, 0])) rfl (by decide)) fd_RX12_124 rfl rfl rfl rfl dX12_init_301 E (fun h75 E => ?_)
  refine qv_aload_n 0 dX12_init_304 rfl rfl ?_
  refine qv_sipush dX12_init_305 cs_1024 ?_
  refine qv_newI (show qa_layD[157]? = some (.inr (0, 1024)) from rfl) (by decide) (by decide) (Nat.le_of_ble_eq_true rfl) (Nat.le_of_ble_eq_true rfl) dX12_init_308 E (fun h76 E => ?_)
  refine qv_putF (qL_at (i := 158) (kd := .inl (11, [0, 2, 2, 2, 2, 2, 2, 2, 2, 2, 2, 2, 2, 2, 2, 2, 2, 2, 2, 2, 0, 0, 0, 0, 0, 0, 0, 0, 0, 0, 2, 2, 2, 2, 2, 2, 2, 2, 2, 2, 2, 2, 2, 2, 2, 2, 2, 2, 0, 0, 0, 0, 2, 2, 2, 2, 2, 2, 2, 2, 2, 2, 0, 0])) rfl (by decide)) fd_RX12_127 rfl rfl rfl rfl dX12_init_310 E (fun h77 E => ?_)
  refine qv_aload_n 0 dX12_init_313 rfl rfl ?_
  refine qv_bipush dX12_init_314 cb_8 ?_
  refine qv_newI (show qa_layD[158]? = some (.inr (0, 8)) from rfl) (by decide) (by decide) (Nat.le_of_ble_eq_true rfl) (Nat.le_of_ble_eq_true rfl) dX12_init_316 E (fun h78 E => ?_)
  refine qv_putF (qL_at (i := 159) (kd := .inl (11, [0, 2, 2, 2, 2, 2, 2, 2, 2, 2, 2, 2, 2, 2, 2, 2, 2, 2, 2, 2, 0, 0, 0, 0, 0, 0, 0, 0, 0, 0, 2, 2, 2, 2, 2, 2, 2, 2, 2, 2, 2, 2, 2, 2, 2, 2, 2, 2, 0, 0, 0, 0, 2, 2, 2, 2, 2, 2, 2, 2, 2, 2, 0, 0])) rfl (by decide)) fd_RX12_130 rfl rfl rfl rfl dX12_init_318 E (fun h79 E => ?_)
  refine qv_aload_n 0 dX12_init_321 rfl rfl ?_
  refine qv_sipush dX12_init_322 cs_16384 ?_
  refine qv_newI (show qa_layD[159]? = some (.inr (0, 16384)) from rfl) (by decide) (by decide) (Nat.le_of_ble_eq_true rfl) (Nat.le_of_ble_eq_true rfl) dX12_init_325 E (fun h80 E => ?_)
  refine qv_putF (qL_at (i := 160) (kd := .inl (11, [0, 2, 2, 2, 2, 2, 2, 2, 2, 2, 2, 2, 2, 2, 2, 2, 2, 2, 2, 2, 0, 0, 0, 0, 0, 0, 0, 0, 0, 0, 2, 2, 2, 2, 2, 2, 2, 2, 2, 2, 2, 2, 2, 2, 2, 2, 2, 2, 0, 0, 0, 0, 2, 2, 2, 2, 2, 2, 2, 2, 2, 2, 0, 0])) rfl (by decide)) fd_RX12_133 rfl rfl rfl rfl dX12_init_327 E (fun h81 E => ?_)
  refine qv_aload_n 0 dX12_init_330 rfl rfl ?_
  refine qv_sipush dX12_init_331 cs_576 ?_
  refine qv_newI (show qa_layD[160]? = some (.inr (0, 576)) from rfl) (by decide) (by decide) (Nat.le_of_ble_eq_true rfl) (Nat.le_of_ble_eq_true rfl) dX12_init_334 E (fun h82 E => ?_)
  refine qv_putF (qL_at (i := 161) (kd := .inl (11, [0, 2, 2, 2, 2, 2, 2, 2, 2, 2, 2, 2, 2, 2, 2, 2, 2, 2, 2, 2, 0, 0, 0, 0, 0, 0, 0, 0, 0, 0, 2, 2, 2, 2, 2, 2, 2, 2, 2, 2, 2, 2, 2, 2, 2, 2, 2, 2, 0, 0, 0, 0, 2, 2, 2, 2, 2, 2, 2, 2, 2, 2, 0, 0])) rfl (by decide)) fd_RX12_136 rfl rfl rfl rfl dX12_init_336 E (fun h83 E => ?_)
  refine qv_aload_n 0 dX12_init_339 rfl rfl ?_
  refine qv_bipush dX12_init_340 cb_36 ?_
  refine qv_newI (show qa_layD[161]? = some (.inr (0, 36)) from rfl) (by decide) (by decide) (Nat.le_of_ble_eq_true rfl) (Nat.le_of_ble_eq_true rfl) dX12_init_342 E (fun h84 E => ?_)
  refine qv_putF (qL_at (i := 162) (kd := .inl (11, [0, 2, 2, 2, 2, 2, 2, 2, 2, 2, 2, 2, 2, 2, 2, 2, 2, 2, 2, 2, 0, 0, 0, 0, 0, 0, 0, 0, 0, 0, 2, 2, 2, 2, 2, 2, 2, 2, 2, 2, 2, 2, 2, 2, 2, 2, 2, 2, 0, 0, 0, 0, 2, 2, 2, 2, 2, 2, 2, 2, 2, 2, 0, 0])) rfl (by decide)) fd_RX12_139 rfl rfl rfl rfl dX12_init_344 E (fun h85 E => ?_)
  refine qv_aload_n 0 dX12_init_347 rfl rfl ?_
  refine qv_bipush dX12_init_348 cb_36 ?_
  refine qv_newI (show qa_layD[162]? = some (.inr (0, 36)) from rfl) (by decide) (by decide) (Nat.le_of_ble_eq_true rfl) (Nat.le_of_ble_eq_true rfl) dX12_init_350 E (fun h86 E => ?_)
  refine qv_putF (qL_at (i := 163) (kd := .inl (11, [0, 2, 2, 2, 2, 2, 2, 2, 2, 2, 2, 2, 2, 2, 2, 2, 2, 2, 2, 2, 0, 0, 0, 0, 0, 0, 0, 0, 0, 0, 2, 2, 2, 2, 2, 2, 2, 2, 2, 2, 2, 2, 2, 2, 2, 2, 2, 2, 0, 0, 0, 0, 2, 2, 2, 2, 2, 2, 2, 2, 2, 2, 0, 0])) rfl (by decide)) fd_RX12_142 rfl rfl rfl rfl dX12_init_352 E (fun h87 E => ?_)
  refine qv_aload_n 0 dX12_init_355 rfl rfl ?_
  refine qv_bipush dX12_init_356 cb_64 ?_
  refine qv_newI (show qa_layD[163]? = some (.inr (0, 64)) from rfl) (by decide) (by decide) (Nat.le_of_ble_eq_true rfl) (Nat.le_of_ble_eq_true rfl) dX12_init_358 E (fun h88 E => ?_)
  refine qv_putF (qL_at (i := 164) (kd := .inl (11, [0, 2, 2, 2, 2, 2, 2, 2, 2, 2, 2, 2, 2, 2, 2, 2, 2, 2, 2, 2, 0, 0, 0, 0, 0, 0, 0, 0, 0, 0, 2, 2, 2, 2, 2, 2, 2, 2, 2, 2, 2, 2, 2, 2, 2, 2, 2, 2, 0, 0, 0, 0, 2, 2, 2, 2, 2, 2, 2, 2, 2, 2, 0, 0])) rfl (by decide)) fd_RX12_145 rfl rfl rfl rfl dX12_init_360 E (fun h89 E => ?_)
  refine qv_aload_n 0 dX12_init_363 rfl rfl ?_
  refine qv_sipush dX12_init_364 cs_2048 ?_
  refine qv_newI (show qa_layD[164]? = some (.inr (0, 2048)) from rfl) (by decide) (by decide) (Nat.le_of_ble_eq_true rfl) (Nat.le_of_ble_eq_true rfl) dX12_init_367 E (fun h90 E => ?_)
  refine qv_putF (qL_at (i := 165) (kd := .inl (11, [0, 2, 2, 2, 2, 2, 2, 2, 2, 2, 2, 2, 2, 2, 2, 2, 2, 2, 2, 2, 0, 0, 0, 0, 0, 0, 0, 0, 0, 0, 2, 2, 2, 2, 2, 2, 2, 2, 2, 2, 2, 2, 2, 2, 2, 2, 2, 2, 0, 0, 0, 0, 2, 2, 2, 2, 2, 2, 2, 2, 2, 2, 0, 0])) rfl (by decide)) fd_RX12_148 rfl rfl rfl rfl dX12_init_369 E (fun h91 E => ?_)
  refine qv_aload_n 0 dX12_init_372 rfl rfl ?_
  refine qv_sipush dX12_init_373 cs_520 ?_
  refine qv_newI (show qa_layD[165]? = some (.inr (0, 520)) from rfl) (by decide) (by decide) (Nat.le_of_ble_eq_true rfl) (Nat.le_of_ble_eq_true rfl) dX12_init_376 E (fun h92 E => ?_)
  refine qv_putF (qL_at (i := 166) (kd := .inl (11, [0, 2, 2, 2, 2, 2, 2, 2, 2, 2, 2, 2, 2, 2, 2, 2, 2, 2, 2, 2, 0, 0, 0, 0, 0, 0, 0, 0, 0, 0, 2, 2, 2, 2, 2, 2, 2, 2, 2, 2, 2, 2, 2, 2, 2, 2, 2, 2, 0, 0, 0, 0, 2, 2, 2, 2, 2, 2, 2, 2, 2, 2, 0, 0])) rfl (by decide)) fd_RX12_151 rfl rfl rfl rfl dX12_init_378 E (fun h93 E => ?_)
  refine qv_aload_n 0 dX12_init_381 rfl rfl ?_
  refine qv_iconst dX12_init_382 ci_4 ?_
  refine qv_newZ (show qa_layD[166]? = some (.inr (3, 4)) from rfl) (by decide) (by decide) (Nat.le_of_ble_eq_true rfl) (Nat.le_of_ble_eq_true rfl) dX12_init_383 E (fun h94 E => ?_)
  refine qv_putF (qL_at (i := 167) (kd := .inl (11, [0, 2, 2, 2, 2, 2, 2, 2, 2, 2, 2, 2, 2, 2, 2, 2, 2, 2, 2, 2, 0, 0, 0, 0, 0, 0, 0, 0, 0, 0, 2, 2, 2, 2, 2, 2, 2, 2, 2, 2, 2, 2, 2, 2, 2, 2, 2, 2, 0, 0, 0, 0, 2, 2, 2, 2, 2, 2, 2, 2, 2, 2, 0, 0])) rfl (by decide)) fd_RX12_154 rfl rfl rfl rfl dX12_init_385 E (fun h95 E => ?_)
  exact qv_vreturn rfl (Nat.le_of_ble_eq_true rfl) (Nat.le_of_ble_eq_true rfl) rfl dX12_init_388 E ⟨rfl, rfl⟩
