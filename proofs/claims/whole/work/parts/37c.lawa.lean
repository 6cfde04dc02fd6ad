/-! THE LAW: the claim's end, and its rows -/
def R_law : String := "MapsOfNothingLaw"
def lw_P (b : Addr) (xs : List Int32) (args : Array Value) (s : State) : Prop := args = #[.ref b] ∧ s.IntsAt b xs ∧ xs.length ≤ 3072 ∧ (Jvm.Cond.and given_1 narrow_1).before args s = true
def lw_Q (_ : Array Value) (s : State) (o : Outcome) (t : State) : Prop := o = .returned (some (.int 1)) ∧ Framed s o t [] 600000 7302250
def lw_Z (below : List Frame) (a : Array Value) (s : State) : State → Prop := fun t => ∃ o, t.status = .running ∧ Ended t below o ∧ lw_Q a s o t
/-- what the law comes to, if nothing lay from the base on when it began -/
def laZ (g : qa_G) : qa_Zt := fun below args s t => s.heap.size = g.1 → lw_Z below args s t
theorem la_fin {p : Program} {l : Launch} {e : Env} {s : State} {m : MethodId} {args : Array Value} {below : List Frame} {meth : Method} {c : Code} (hx : p.tables.exec = Jvm.exec) (hb : c.code = code) (hr : meth.sig.returnType = ret) (hlocks : meth.locks = false) {pc : Nat} {H : Heap} {ls : Array Slot} (hdg : decode code pc = .ok (.ireturn, 1)) : W p l e room_1 s m args below meth c H [] 600000 7302250 (lw_Z below args s) (F0 m pc ls [.int 1]) := by
  intro T hT X
  obtain ⟨fs, hret, hrun, hended, hW, hframe⟩ := X.leave (v := some (.int 1)) (hlocks := hlocks) (fun h => by rw [hr] at h; cases h)
  have hmeth' : T.vm.method? m = some meth := X.method'
  refine ⟨T.setFrames fs, ?_, .returned (some (.int 1)), hrun, hended, rfl, ⟨_, rfl⟩, hW, hframe⟩
  jvm_step X.here [X.here.top, hx, hb, hdg, hmeth', hr, ret, narrow_b1]
  (try refine ⟨rfl, ?_⟩); (try refine ⟨rfl, ?_⟩)
  first | (intro acts; rw [hret _ acts rfl rfl rfl]) | rw [hret _ _ rfl rfl rfl]
  exact Steps.refl _
abbrev LW (l : Launch) (g : qa_G) (cells slots pc : Nat) (lv : List (Nat × Value)) (st : List Value) (w : List qa_K) (h : qa_M) : Prop := qa_At l g (yL_law, cL_law, 4, some .boolean) 2048 600000 7302250 cells slots pc lv st w h (laZ g)
abbrev laV (g : qa_G) (i : Nat) : List (Nat × Value) := [(3, .int (nn i)), (2, .ref (g.1 + 119)), (1, .ref (g.1 + 0)), (0, .ref g.2.2.2.2.2.1)]
abbrev laX (g : qa_G) (i k : Nat) : Int32 := g.2.2.2.2.2.2.2 (i + k)
section la_sec
variable {l : Launch} {g : qa_G} {cells slots pc i : Nat} {st : List Value} {w : List qa_K} {h : qa_M} {lv : List (Nat × Value)}
theorem la_ret (hc : cells ≤ 600000) (hs : slots ≤ 7302250) (dg : decode cL_law pc = .ok (.ireturn, 1)) : LW l g cells slots pc lv [.int 1] w h := by
  intro p e s m args below meth c C H locs ls hl hW hS
  refine W.widen hc hs ?_
  by_cases q : s.heap.size = g.1
  · refine va_forget (fun k hk => by have := hS.2.2 k hk; rw [q]; exact this) ?_
    intro T hT X
    obtain ⟨t, a, b⟩ := la_fin (below := below) (args := args) (ls := ls) C.1 C.2.1 C.2.2.2.1 C.2.2.2.2.1 dg T hT X
    exact ⟨t, a, fun _ => b⟩
  · intro T hT X
    exact ⟨_, Steps.refl _, fun z => absurd z q⟩
theorem la_arg {k : Nat} {ki : Int} (hk : Int32.ofInt ki = nn k) (hb : i + k < g.2.2.2.2.2.2.1) (hn : g.2.2.2.2.2.2.1 < 2147483648) (d0 : decode cL_law pc = .ok (.aload_n 0, 1)) (d1 : decode cL_law (pc + 1) = .ok (.iload_n 3, 1)) (d2 : decode cL_law (pc + 2) = .ok (.iconst ki, 1)) (d3 : decode cL_law (pc + 3) = .ok (.iadd, 1)) (d4 : decode cL_law (pc + 4) = .ok (.iaload, 1)) (kk : LW l g cells slots (pc + 5) (laV g i) (.int (laX g i k) :: st) w h) : LW l g cells slots pc (laV g i) st w h := by
  refine qs_aload_n 3 d0 rfl rfl ?_
  refine qs_iload_n 0 d1 rfl rfl ?_
  refine qs_iconst d2 hk ?_
  refine qs_iadd d3 ?_
  rw [nn_add]
  refine qs_sld (vp_in_nI hb hn) d4 ?_
  rw [nn_cl (Nat.lt_trans hb hn)]
  exact kk
theorem qs_tin {dflt lo hi : Int} {offs : Array Int} {len : Nat} {x : Int32} {off : Int} (tgt : Nat) (dg : decode cL_law pc = .ok (.tableswitch dflt lo hi offs, len)) (h1 : ¬ x.toInt < lo) (h2 : ¬ hi < x.toInt) (ho : offs[(x.toInt - lo).toNat]? = some off) (ht : (pc : Int) + off = (tgt : Int)) (kk : LW l g cells slots tgt lv st w h) : LW l g cells slots pc lv (.int x :: st) w h := fun p e s m args below meth c C H locs ls hl hW hS => lv_tableIn C.1 C.2.1 dg h1 h2 ho ht (kk p e s m args below meth c C H locs ls hl hW hS)
theorem qs_tout {dflt lo hi : Int} {offs : Array Int} {len : Nat} {x : Int32} (tgt : Nat) (dg : decode cL_law pc = .ok (.tableswitch dflt lo hi offs, len)) (h1 : x.toInt < lo ∨ hi < x.toInt) (ht : (pc : Int) + dflt = (tgt : Int)) (kk : LW l g cells slots tgt lv st w h) : LW l g cells slots pc lv (.int x :: st) w h := fun p e s m args below meth c C H locs ls hl hW hS => lv_tableOut C.1 C.2.1 dg h1 ht (kk p e s m args below meth c C H locs ls hl hW hS)
theorem la_call {b2 : Nat} {y2 : MethodName} {cc2 : ByteArray} {nL2 : Nat} {rt2 : Option FieldType} {a ci idx n : Nat} {fks : List Nat} {v : vw_C} {rest : List Value} {h1 : qa_M} {r1 : Option Value} (As : List Value) (hM : qt_Met l g (y2, cc2, nL2, rt2) 2047 b2 (.ref (g.1 + a) :: As) h r1 h1) (cv : qa_cv RL idx (y2, cc2, nL2, rt2) n) (hw : (qO h)[a]? = some (.inl (ci, fks))) (hc : qa_cl[ci]? = some v) (hcl : v.1 = y2.cls) (hn : As.length = n) (hroom : (rest.map fun v => v.category).sum ≤ 8) (dg : decode cL_law pc = .ok (.invokevirtual idx, 3)) (u1 : cells + b2 ≤ 600000) (u2 : slots + 9216 * b2 ≤ 7302250) (kk : LW l g (cells + b2) (slots + 9216 * b2) (pc + 3) lv (r1.toList ++ rest) (qO h1) h1) : LW l g cells slots pc lv (As.reverse ++ .ref (g.1 + a) :: rest) (qO h) h := by
  refine qs_invV hM cv hw hc hcl hn hroom dg u1 u2 ?_
  rintro _ _ _ ⟨rfl, rfl, rfl⟩
  exact kk
theorem la_calli {b2 : Nat} {y2 : MethodName} {cc2 : ByteArray} {nL2 : Nat} {rt2 : Option FieldType} {a ci idx n : Nat} {fks : List Nat} {v : vw_C} {rest : List Value} {h1 : qa_M} {x : Int32} (As : List Value) (hM : qt_Met l g (y2, cc2, nL2, rt2) 2047 b2 (.ref (g.1 + a) :: As) h (some (.int x)) h1) (cv : qa_cv RL idx (y2, cc2, nL2, rt2) n) (hw : (qO h)[a]? = some (.inl (ci, fks))) (hc : qa_cl[ci]? = some v) (hcl : v.1 = y2.cls) (hn : As.length = n) (hroom : (rest.map fun v => v.category).sum ≤ 8) (dg : decode cL_law pc = .ok (.invokevirtual idx, 3)) (u1 : cells + b2 ≤ 600000) (u2 : slots + 9216 * b2 ≤ 7302250) (kk : LW l g (cells + b2) (slots + 9216 * b2) (pc + 3) lv (.int x :: rest) (qO h1) h1) : LW l g cells slots pc lv (As.reverse ++ .ref (g.1 + a) :: rest) (qO h) h := la_call As hM cv hw hc hcl hn hroom dg u1 u2 kk
theorem la_calll {b2 : Nat} {y2 : MethodName} {cc2 : ByteArray} {nL2 : Nat} {rt2 : Option FieldType} {a ci idx n : Nat} {fks : List Nat} {v : vw_C} {rest : List Value} {h1 : qa_M} {x : Int64} (As : List Value) (hM : qt_Met l g (y2, cc2, nL2, rt2) 2047 b2 (.ref (g.1 + a) :: As) h (some (.long x)) h1) (cv : qa_cv RL idx (y2, cc2, nL2, rt2) n) (hw : (qO h)[a]? = some (.inl (ci, fks))) (hc : qa_cl[ci]? = some v) (hcl : v.1 = y2.cls) (hn : As.length = n) (hroom : (rest.map fun v => v.category).sum ≤ 8) (dg : decode cL_law pc = .ok (.invokevirtual idx, 3)) (u1 : cells + b2 ≤ 600000) (u2 : slots + 9216 * b2 ≤ 7302250) (kk : LW l g (cells + b2) (slots + 9216 * b2) (pc + 3) lv (.long x :: rest) (qO h1) h1) : LW l g cells slots pc lv (As.reverse ++ .ref (g.1 + a) :: rest) (qO h) h := la_call As hM cv hw hc hcl hn hroom dg u1 u2 kk
end la_sec
theorem la_cmp (x : Int64) : lg_cmp x x = 0 := by simp [lg_cmp]
