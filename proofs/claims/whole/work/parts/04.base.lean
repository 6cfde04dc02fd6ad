/-! THE PURE WORLD: cells at base + k, k from 0 on; kinds of cells; what they hold, as functions -/
abbrev qa_cl : List vw_C := [(RX0, TX0, 16), (RX1, TX1, 7), (RX3, TX3, 13), (RX4, TX4, 6), (RX5, TX5, 11), (RX6, TX6, 4), (RX7, TX7, 17), (RX8, TX8, 5), (RX9, TX9, 8), (RX10, TX10, 2), (RX11, TX11, 15), (RX12, TX12, 64)]
/-- base; class ids and slots; array class ids; addresses of the string constants and of their bytes; the script: where it lies, how long it is, what it holds -/
abbrev qa_G : Type := Nat × va_G × (Nat → ClassId) × (Nat → Nat) × (Nat → Nat) × Nat × Nat × (Nat → Int32)
/-- memory: ints, longs, references (0: null, n + 1: cell n) by cell and place; how many late rows there are -/
abbrev qa_M : Type := (Nat → Nat → Int32) × (Nat → Nat → Int64) × (Nat → Nat → Nat) × Nat
/-- a cell's kind: an object (number of its type, its fields: 0 int, 1 long, 2 reference, n + 3 the cell n for good), or an array (0 int, 1 long, 2 byte, 3 boolean, 4 State, 5 Law; its length) -/
abbrev qa_K : Type := (Nat × List Nat) ⊕ (Nat × Nat)
def qa_rv (B : Nat) : Nat → Value
  | 0 => .null
  | n + 1 => .ref (B + n)
def qa_fv (B : Nat) (h : qa_M) (a j : Nat) : Nat → Value
  | 0 => .int (h.1 a j)
  | 1 => .long (h.2.1 a j)
  | 2 => qa_rv B (h.2.2.1 a j)
  | n + 3 => .ref (B + n)
def qa_av (B : Nat) (h : qa_M) (a : Nat) (tc j : Nat) : Value := match tc with
  | 1 => .long (h.2.1 a j)
  | 0 => .int (h.1 a j)
  | 2 => .int (h.1 a j)
  | 3 => .int (h.1 a j)
  | _ => qa_rv B (h.2.2.1 a j)
def qa_at (g : qa_G) (h : qa_M) (a : Nat) (kd : qa_K) (H : Heap) : Prop := match kd with
  | .inl o => ∃ r : vw_C, qa_cl[o.1]? = some r ∧ o.2.length = r.2.2 ∧ t_OB (g.1 + a) (g.2.1.1 o.1) r.2.2 (g.2.1.2 o.1) H (fun j => qa_fv g.1 h a j (o.2.getD j 0))
  | .inr q => H[g.1 + a]? = some (arrV (g.2.2.1 q.1) q.2 (qa_av g.1 h a q.1))
def qa_H (g : qa_G) (w : List qa_K) (h : qa_M) (H : Heap) : Prop := H.size = g.1 + w.length ∧ ∀ (a : Nat) (kd : qa_K), w[a]? = some kd → qa_at g h a kd H
def qa_A (g : qa_G) : Nat → Prop := fun q => g.1 ≤ q
abbrev qa_tys (g : qa_G) : List (ClassId × FieldType) := [(g.2.2.1 0, .int), (g.2.2.1 1, .long), (g.2.2.1 2, .byte), (g.2.2.1 3, .boolean), (g.2.2.1 4, .object RX8), (g.2.2.1 5, .object RX5)]
/-- the texts, by number -/
def qa_tx : List String := ["wide wood hill road sort", "apart bar", "not", "x y woods seen hill road edge", "and or", "wide", "wood", "hill", "road", "sort", "apart", "bar", "x", "y", "woods", "seen", "edge", "and", "or"]
def qa_by : List (List Int32) := [[119, 105, 100, 101, 32, 119, 111, 111, 100, 32, 104, 105, 108, 108, 32, 114, 111, 97, 100, 32, 115, 111, 114, 116], [97, 112, 97, 114, 116, 32, 98, 97, 114], [110, 111, 116], [120, 32, 121, 32, 119, 111, 111, 100, 115, 32, 115, 101, 101, 110, 32, 104, 105, 108, 108, 32, 114, 111, 97, 100, 32, 101, 100, 103, 101], [97, 110, 100, 32, 111, 114], [119, 105, 100, 101], [119, 111, 111, 100], [104, 105, 108, 108], [114, 111, 97, 100], [115, 111, 114, 116], [97, 112, 97, 114, 116], [98, 97, 114], [120], [121], [119, 111, 111, 100, 115], [115, 101, 101, 110], [101, 100, 103, 101], [97, 110, 100], [111, 114]]
/-- where a text is named: owner, entry, text, number -/
def qa_sr : List (String × Nat × String × Nat) := [(RX4, 52, "wide wood hill road sort", 0), (RX6, 33, "apart bar", 1), (RX6, 88, "not", 2), (RX6, 112, "x y woods seen hill road edge", 3), (RX6, 83, "and or", 4), (RX12, 235, "wide", 5), (RX12, 237, "wood", 6), (RX12, 229, "hill", 7), (RX12, 231, "road", 8), (RX12, 239, "sort", 9), (RX12, 376, "apart", 10), (RX12, 377, "bar", 11), (RX12, 318, "not", 2), (RX12, 222, "x", 12), (RX12, 224, "y", 13), (RX12, 226, "woods", 14), (RX12, 228, "seen", 15), (RX12, 233, "edge", 16), (RX12, 332, "and", 17), (RX12, 334, "or", 18)]
def qa_str (g : qa_G) (A : Nat → Prop) (U : State) (H : Heap) : Prop := ∀ i : Nat, i < 19 → va_O "java/lang/String" (g.2.2.2.1 i) A U H ∧ va_OF "java/lang/String" "coder" "B" (.int 0) (g.2.2.2.1 i) A U H ∧ va_OF "java/lang/String" "value" "[B" (.ref (g.2.2.2.2.1 i)) (g.2.2.2.1 i) A U H ∧ va_T .byte (g.2.2.2.2.1 i) (qa_by.getD i []).length (fun j => .int ((qa_by.getD i []).getD j 0)) A U H
def qw_tbl : List Cond := lw_tbl.filter goodWord
theorem qw_of {w : Cond} (i : Nat) (h : lw_tbl[i]? = some w) (hg : goodWord w = true) : w ∈ qw_tbl := List.mem_filter.mpr ⟨List.mem_of_getElem? h, hg⟩
theorem qw_good : ∀ w ∈ qw_tbl, goodWord w = true := fun _ h => (List.mem_filter.mp h).2
/-- links to private members of nest mates -/
def qa_nest : List Cond := [.methodLinkNest RX11 9 yX9_init "MapsOfNothing", .methodLinkNest RX11 18 yX8_init "MapsOfNothing", .methodLinkNest RX8 11 yX3_init "MapsOfNothing", .methodLinkNest RX11 39 yX3_init "MapsOfNothing", .methodLinkNest RX11 73 yX1_init "MapsOfNothing", .methodLinkNest RX11 80 yX0_init "MapsOfNothing", .methodLinkNest RX11 87 yX10_init "MapsOfNothing", .methodLinkNest RX11 96 yX5_init "MapsOfNothing", .methodLinkNest RX3 60 yX11_within "MapsOfNothing"]
/-- what stands below the base, and the tables -/
def qa_S (g : qa_G) (U : State) (H : Heap) : Prop := va_K g.2.1 qa_cl (qa_tys g) U ∧ qa_str g (qa_A g) U H ∧ (∀ r ∈ qa_sr, vk_R r.1 r.2.1 r.2.2.1 (g.2.2.2.1 r.2.2.2) U) ∧ va_Z "java/lang/String" "COMPACT_STRINGS" "Z" (.int 1) (qa_A g) U H ∧ va_Zq "jdk/internal/util/Preconditions" "SIOOBE_FORMATTER" "Ljava/util/function/BiFunction;" (qa_A g) U H ∧ (∀ n ∈ qa_nest, va_Nw n U) ∧ va_AO RX8 U ∧ va_AO RX5 U ∧ g.2.2.2.2.2.1 < g.1 ∧ g.1 ≤ H.size ∧ va_X g.2.2.2.2.2.1 g.2.2.2.2.2.2.1 g.2.2.2.2.2.2.2 U H
theorem qa_str.moved {g : qa_G} {A : Nat → Prop} {u U : State} {H : Heap} (hvm : u.vm.Alike U.vm) (h : qa_str g A u H) : qa_str g A U H := fun i hi => ⟨va_O.moved hvm (h i hi).1, va_OF.moved hvm (h i hi).2.1, va_OF.moved hvm (h i hi).2.2.1, va_T.moved hvm (h i hi).2.2.2⟩
theorem qa_str.kept {g : qa_G} {A : Nat → Prop} {U : State} {H H1 : Heap} (h : qa_str g A U H) (hq : ∀ a : Nat, a < H.size → ¬ A a → H1[a]? = H[a]?) : qa_str g A U H1 := fun i hi => ⟨(h i hi).1.kept hq, (h i hi).2.1.kept hq, (h i hi).2.2.1.kept hq, (h i hi).2.2.2.kept hq⟩
theorem qa_nestT : ∀ n ∈ qa_nest, n.onTables = true := by
  intro n hn
  simp only [qa_nest, List.mem_cons, List.not_mem_nil, or_false] at hn
  rcases hn with rfl | rfl | rfl | rfl | rfl | rfl | rfl | rfl | rfl <;> rfl
theorem qa_nestW {s U : State} (hW : s.WarmedH U.vm) (h : ∀ n ∈ qa_nest, va_Nw n s) : ∀ n ∈ qa_nest, va_Nw n U := by
  intro n hn
  have h1 := h n hn
  simp only [qa_nest, List.mem_cons, List.not_mem_nil, or_false] at hn
  rcases hn with rfl | rfl | rfl | rfl | rfl | rfl | rfl | rfl | rfl <;> exact va_Nw.warmM hW h1
theorem qa_S.warm {g : qa_G} {s U : State} {H : Heap} (hW : s.WarmedH U.vm) (h : qa_S g s H) : qa_S g U H := ⟨va_K.moved hW.alike h.1, h.2.1.moved hW.alike, fun r hr => (h.2.2.1 r hr).warm hW, h.2.2.2.1.moved hW.alike, h.2.2.2.2.1.moved hW.alike, qa_nestW hW h.2.2.2.2.2.1, h.2.2.2.2.2.2.1.moved hW.alike, h.2.2.2.2.2.2.2.1.moved hW.alike, h.2.2.2.2.2.2.2.2.1, h.2.2.2.2.2.2.2.2.2.1, h.2.2.2.2.2.2.2.2.2.2.moved hW.alike⟩
theorem qa_S.same {g : qa_G} {u U : State} {H : Heap} (hv : U.vm = u.vm) (h : qa_S g u H) : qa_S g U H := by
  have ha : u.vm.Alike U.vm := by rw [hv]; exact Vm.Alike.refl _
  exact ⟨va_K.moved ha h.1, h.2.1.moved ha, fun r hr => (h.2.2.1 r hr).same hv, h.2.2.2.1.moved ha, h.2.2.2.2.1.moved ha, fun n hn => (h.2.2.2.2.2.1 n hn).same (qa_nestT n hn) hv.symm, h.2.2.2.2.2.2.1.moved ha, h.2.2.2.2.2.2.2.1.moved ha, h.2.2.2.2.2.2.2.2.1, h.2.2.2.2.2.2.2.2.2.1, h.2.2.2.2.2.2.2.2.2.2.moved ha⟩
theorem qa_S.kept {g : qa_G} {U : State} {H H1 : Heap} (h : qa_S g U H) (hz : H.size ≤ H1.size) (hq : ∀ a : Nat, a < H.size → ¬ qa_A g a → H1[a]? = H[a]?) : qa_S g U H1 := ⟨h.1, h.2.1.kept hq, h.2.2.1, h.2.2.2.1.kept hq, h.2.2.2.2.1.kept hq, h.2.2.2.2.2.1, h.2.2.2.2.2.2.1, h.2.2.2.2.2.2.2.1, h.2.2.2.2.2.2.2.2.1, Nat.le_trans h.2.2.2.2.2.2.2.2.2.1 hz, h.2.2.2.2.2.2.2.2.2.2.kept (hq _ (Nat.lt_of_lt_of_le h.2.2.2.2.2.2.2.2.1 h.2.2.2.2.2.2.2.2.2.1) (Nat.not_le.mpr h.2.2.2.2.2.2.2.2.1))⟩
/-- a method: its name, code, locals, answer -/
abbrev qa_MI : Type := MethodName × ByteArray × Nat × Option FieldType
def qa_Cx (g : qa_G) (M : qa_MI) (p : Program) (s : State) (m : MethodId) (args : Array Value) (meth : Method) (c : Code) : Prop :=
  p.tables.exec = Jvm.exec ∧ c.code = M.2.1 ∧ c.maxLocals = M.2.2.1 ∧ meth.sig.returnType = M.2.2.2 ∧ meth.locks = false ∧ s.vm.findClass M.1.cls = some m.cls ∧ meth.name = M.1.name ∧ (∀ w ∈ qw_tbl, w.before args s = true) ∧ qa_S g s s.heap ∧ g.1 ≤ s.heap.size
def qa_rm (d kc ks : Nat) : Room := { frames := d, cells := kc, slots := ks, locals := 41 * d + 32 }
abbrev qa_Po : Type := Option Value → List qa_K → qa_M → Prop
def qa_Q (g : qa_G) (Q : qa_Po) : Array Value → State → Outcome → State → Prop := fun _ st oc t => ∃ (r : Option Value) (w : List qa_K) (h : qa_M), oc = .returned r ∧ Q r w h ∧ qa_H g w h t.heap ∧ va_F (qa_A g) st t
/-- what a walk is to come to: by the frames below, the arguments, the start -/
abbrev qa_Zt : Type := List Frame → Array Value → State → State → Prop
def qa_ZM (g : qa_G) (KC KS : Nat) (Q : qa_Po) : qa_Zt := fun below args s => MQ below (qa_Q g Q) args s KC KS (qa_A g)
def qa_At (l : Launch) (g : qa_G) (M : qa_MI) (d KC KS cells slots pc : Nat) (lv : List (Nat × Value)) (st : List Value) (w : List qa_K) (h : qa_M) (Z : qa_Zt) : Prop :=
  ∀ (p : Program) (e : Env) (s : State) (m : MethodId) (args : Array Value) (below : List Frame) (meth : Method) (c : Code), qa_Cx g M p s m args meth c → ∀ (H : Heap) (locs : List Loc) (ls : Array Slot), lv_has ls M.2.2.1 lv → qa_H g w h H → va_S (qa_A g) s.heap H locs →
    W p l e (qa_rm d KC KS) s m args below meth c H locs cells slots (Z below args s) (F0 m pc ls st)
def qa_Met (l : Launch) (g : qa_G) (M : qa_MI) (d KC KS : Nat) (As : List Value) (w : List qa_K) (h : qa_M) (Q : qa_Po) : Prop :=
  Met l M.1 (Cond.code M.1 M.2.1 M.2.2.1 M.2.2.2 :: qw_tbl) (qa_rm d KC KS) (va_Pc As (fun U => qa_H g w h U.heap ∧ qa_S g U U.heap)) (qa_Q g Q) KC KS (qa_A g)
theorem qa_blind (g : qa_G) (As : List Value) (w : List qa_K) (h : qa_M) : FrameBlind (va_Pc As (fun U => qa_H g w h U.heap ∧ qa_S g U U.heap)) := fun a U g' mk q => ⟨q.1, q.2.1, qa_S.same (u := U) (U := U.calling g' mk a) rfl q.2.2⟩
theorem qa_lt {g : qa_G} {w : List qa_K} {h : qa_M} {H : Heap} (hW : qa_H g w h H) : g.1 ≤ H.size := by rw [hW.1]; exact Nat.le_add_right _ _
theorem qa_ofW {l : Launch} {y : MethodName} {ws ws' : List Cond} {rm : Room} {Pc : Array Value → State → Prop} {Qc : Array Value → State → Outcome → State → Prop} {mc ms : Nat} {free : Addr → Prop} {cc : ByteArray} {maxL : Nat} {ret : Option FieldType}
    (hy : plainFor y = true) (hw : ws = Cond.code y cc maxL ret :: ws')
    (body : ∀ p e s m args below meth c s₁, BodyLoose p l y (headSpec ws rm) cc maxL ret e s m args below meth c s₁ → c.maxLocals = maxL → Pc args s →
      W p l e (headSpec ws rm).room s m args below meth c s.heap [] 0 0 (MQ below Qc args s mc ms free) (entryFrame m args maxL)) : Met l y ws rm Pc Qc mc ms free := by
  refine MetFree.of_bodySF (code := cc) (maxLocals := maxL) (ret := ret) hy ?_ ?_
  · intro args s m h hn
    obtain ⟨meth, c, h1, h2, h3, h4, h5, h6, -, -⟩ := Cond.code_spec hn (atoms_spec (ws := ws) h _ (by rw [hw]; exact List.mem_cons_self))
    exact ⟨meth, c, h1, h2, h3, h4, h5, h6⟩
  · intro p e s m args below meth c s₁ B hml hP _
    have hh0 : s₁.heap = s.heap := by rw [B.state]; rfl
    obtain ⟨t, a1, o, b1, b2, b3⟩ := body p e s m args below meth c s₁ B hml hP s₁ hh0 (Stand.of_body B)
    exact ⟨t, o, a1, b1, b2, ⟨b3.1, b3.2⟩⟩
/-- from a walk of its body to a method's contract -/
theorem qa_Met.of {l : Launch} {g : qa_G} {y : MethodName} {cc : ByteArray} {nL : Nat} {rt : Option FieldType} {d KC KS : Nat} {As : List Value} {w : List qa_K} {h : qa_M} {Q : qa_Po} (hy : plainFor y = true) (hn : (lg_sl As).length ≤ nL) (k : qa_At l g (y, cc, nL, rt) d KC KS 0 0 0 (lv_args 0 As) [] w h (qa_ZM g KC KS Q)) : qa_Met l g (y, cc, nL, rt) d KC KS As w h Q := by
  refine qa_ofW (cc := cc) (maxL := nL) (ret := rt) hy rfl ?_
  intro p e s m args below meth c s₁ B hml hv
  obtain ⟨rfl, hW, hSt⟩ := hv
  have hts := atoms_spec (ws := Cond.code y cc nL rt :: qw_tbl) B.pre
  have hl := lv_entry As (n := nL) hn
  rw [lg_entry_eq]
  exact k p e s m As.toArray below meth c ⟨B.exec, B.bytes, hml, B.returns, B.notSynchronized, findClass_of_methodNamed B.named, (name_of_methodNamed B.named B.method).1, fun w hw => hts w (List.mem_cons_of_mem _ hw), hSt, qa_lt hW⟩ s.heap [] _ hl hW va_S.rf
