/-! THE JUDGEMENT: EV says that the method, from here, comes to an end (an answer or a throw) in a store that Q tells. -/
abbrev Out : Type := Option Value ⊕ String
abbrev MI : Type := MethodName × ByteArray × Nat × Option FieldType × List (Nat × Nat × Nat × Nat)
def m_code (M : MI) : Cond := if M.2.2.2.2 = [] then Cond.code M.1 M.2.1 M.2.2.1 M.2.2.2.1 else Cond.codeWith M.1 M.2.1 M.2.2.1 M.2.2.2.1 M.2.2.2.2
def m_F (G : Gh) (s : State) : Prop := (g_H G).size = g_b G ∧ va_K (g_C G, g_I G) mCl (m_tys (g_A G)) s ∧ (∀ i q, mStr[i]? = some q → vk_R q.1 q.2.1 q.2.2 (g_s G i) s) ∧
  (∀ i q, mSt[i]? = some q → va_Z q.1 q.2.1 q.2.2 (g_v G i) (g_own G) s (g_H G)) ∧
  vx_Zq Bundle.tN "UNASSIGNED_STACK" Bundle.steD (g_own G) s (g_H G) ∧ vx_Zq Bundle.tN "SUPPRESSED_SENTINEL" Bundle.listD (g_own G) s (g_H G)
theorem m_F.warm {G : Gh} {s U : State} (hW : s.WarmedH U.vm) (h : m_F G s) : m_F G U :=
  ⟨h.1, va_K.moved hW.alike h.2.1, fun i q hq => vk_R.warm hW (h.2.2.1 i q hq), fun i q hq => va_Z.moved hW.alike (h.2.2.2.1 i q hq), vx_Zq.moved hW.alike h.2.2.2.2.1, vx_Zq.moved hW.alike h.2.2.2.2.2⟩
def m_In (G : Gh) (S : Sto) (sz : Nat) (U : State) : Prop := m_R G S sz U.heap ∧ m_F G U ∧ (∀ q, q < g_b G → U.heap[q]? = (g_H G)[q]?) ∧ g_b G ≤ sz
def m_Qc (G : Gh) (o : Out) (S1 : Sto) (sz1 : Nat) : Array Value → State → Outcome → State → Prop := fun _ st oc t => ∃ v, o = .inl v ∧ oc = .returned v ∧ m_R G S1 sz1 t.heap ∧ va_F (g_own G) st t
def m_XC (G : Gh) (o : Out) (S1 : Sto) (sz1 : Nat) : String → State → State → Prop := fun E st t => o = .inr E ∧ m_R G S1 sz1 t.heap ∧ va_F (g_own G) st t
def m_rm (d c n : Nat) : Room := { frames := d, cells := c, slots := n, locals := 64 * d }
def m_Met (G : Gh) (l : Launch) (M : MI) (d : Nat) (args : List Value) (S : Sto) (sz sl : Nat) (o : Out) (S1 : Sto) (sz1 sl1 : Nat) : Prop :=
  sz ≤ sz1 ∧ sl ≤ sl1 ∧ (l.stackTraces = false → vx_Met l M.1 (m_code M :: m_big) (m_rm d (sz1 - sz) (sl1 - sl)) (va_Pc args (m_In G S sz)) (m_Qc G o S1 sz1) (m_XC G o S1 sz1) (sz1 - sz) (sl1 - sl) (g_own G))
/-- a method's contract: from S it ends, with an outcome and a store that Q tells -/
def Rn (G : Gh) (l : Launch) (M : MI) (d : Nat) (args : List Value) (S : Sto) (sz sl : Nat) (Q : Out → Sto → Nat → Nat → Prop) : Prop :=
  ∃ o S1 sz1 sl1, Q o S1 sz1 sl1 ∧ m_Met G l M d args S sz sl o S1 sz1 sl1
def m_CX (G : Gh) (l : Launch) (M : MI) (n0 : Nat) (p : Program) (s : State) (m : MethodId) (args : Array Value) (meth : Method) (c : Code) : Prop :=
  p.tables.exec = Jvm.exec ∧ c.code = M.2.1 ∧ meth.sig.returnType = M.2.2.2.1 ∧ c.maxLocals = M.2.2.1 ∧ s.vm.findClass M.1.cls = some m.cls ∧ (∀ w ∈ m_big, w.before args s = true) ∧ meth.locks = false ∧ m_F G s ∧ meth.name = M.1.name ∧ c.exceptionTable.toList = tableOf M.2.2.2.2 ∧ l.stackTraces = false ∧ (∀ q, q < g_b G → s.heap[q]? = (g_H G)[q]?) ∧ s.heap.size = n0 ∧ g_b G ≤ n0
abbrev m_end (G : Gh) (below : List Frame) (o : Out) (S1 : Sto) (sz1 : Nat) (args : Array Value) (s : State) (mc ms : Nat) : State → Prop := vx_MQ below (m_Qc G o S1 sz1) (m_XC G o S1 sz1) args s mc ms (g_own G)
def m_W (G : Gh) (l : Launch) (M : MI) (d n0 l0 : Nat) (o : Out) (S1 : Sto) (sz1 sl1 : Nat) (pc : Nat) (L : List (Nat × Value)) (st : List Value) (S : Sto) (sz sl : Nat) : Prop :=
  sz ≤ sz1 ∧ sl ≤ sl1 ∧ ∀ (p : Program) (e : Env) (s : State) (m : MethodId) (args : Array Value) (below : List Frame) (meth : Method) (c : Code) (H : Heap) (locs : List Loc) (ls : Array Slot),
    n0 ≤ sz → l0 ≤ sl → m_CX G l M n0 p s m args meth c → m_R G S sz H → va_S (g_own G) s.heap H locs → lv_has ls M.2.2.1 L →
    W p l e (m_rm d (sz1 - n0) (sl1 - l0)) s m args below meth c H locs (sz - n0) (sl - l0) (m_end G below o S1 sz1 args s (sz1 - n0) (sl1 - l0)) (F0 m pc ls st)
def EV (G : Gh) (l : Launch) (M : MI) (d n0 l0 : Nat) (Q : Out → Sto → Nat → Nat → Prop) (pc : Nat) (L : List (Nat × Value)) (st : List Value) (S : Sto) (sz sl : Nat) : Prop :=
  ∃ o S1 sz1 sl1, Q o S1 sz1 sl1 ∧ m_W G l M d n0 l0 o S1 sz1 sl1 pc L st S sz sl
section Rules
variable {G : Gh} {l : Launch} {M : MI} {d n0 l0 : Nat} {Q : Out → Sto → Nat → Nat → Prop} {pc : Nat} {L : List (Nat × Value)} {st : List Value} {S : Sto} {sz sl : Nat}
/-- an instruction that leaves the heap as it is -/
theorem ev_go {pc' : Nat} {L' : List (Nat × Value)} {st' : List Value} (h : EV G l M d n0 l0 Q pc' L' st' S sz sl)
    (k : ∀ (p : Program) (e : Env) (R : Room) (s : State) (m : MethodId) (args : Array Value) (below : List Frame) (meth : Method) (c : Code) (H : Heap) (locs : List Loc) (cells slots : Nat) (Qf : State → Prop) (ls : Array Slot),
      m_CX G l M n0 p s m args meth c → m_R G S sz H → va_S (g_own G) s.heap H locs → lv_has ls M.2.2.1 L → (∀ ls', lv_has ls' M.2.2.1 L' → W p l e R s m args below meth c H locs cells slots Qf (F0 m pc' ls' st')) → W p l e R s m args below meth c H locs cells slots Qf (F0 m pc ls st)) :
    EV G l M d n0 l0 Q pc L st S sz sl := by
  obtain ⟨o, S1, sz1, sl1, hQ, h1, h2, hw⟩ := h
  exact ⟨o, S1, sz1, sl1, hQ, h1, h2, fun p e s m args below meth c H locs ls g1 g2 hc hR hS hl => k _ _ _ _ _ _ _ _ _ _ _ _ _ _ _ hc hR hS hl fun ls' hl' => hw p e s m args below meth c H locs ls' g1 g2 hc hR hS hl'⟩
/-- an instruction that writes to the heap: no new cell -/
theorem ev_wr {pc' : Nat} {L' : List (Nat × Value)} {st' : List Value} {S' : Sto} (h : EV G l M d n0 l0 Q pc' L' st' S' sz sl)
    (k : ∀ (p : Program) (e : Env) (R : Room) (s : State) (m : MethodId) (args : Array Value) (below : List Frame) (meth : Method) (c : Code) (H : Heap) (locs : List Loc) (cells slots : Nat) (Qf : State → Prop) (ls : Array Slot),
      m_CX G l M n0 p s m args meth c → m_R G S sz H → va_S (g_own G) s.heap H locs → lv_has ls M.2.2.1 L → (∀ ls' H' locs', m_R G S' sz H' → va_S (g_own G) s.heap H' locs' → lv_has ls' M.2.2.1 L' → W p l e R s m args below meth c H' locs' cells slots Qf (F0 m pc' ls' st')) → W p l e R s m args below meth c H locs cells slots Qf (F0 m pc ls st)) :
    EV G l M d n0 l0 Q pc L st S sz sl := by
  obtain ⟨o, S1, sz1, sl1, hQ, h1, h2, hw⟩ := h
  exact ⟨o, S1, sz1, sl1, hQ, h1, h2, fun p e s m args below meth c H locs ls g1 g2 hc hR hS hl => k _ _ _ _ _ _ _ _ _ _ _ _ _ _ _ hc hR hS hl fun ls' H' locs' hR' hS' hl' => hw p e s m args below meth c H' locs' ls' g1 g2 hc hR' hS' hl'⟩
/-- an instruction that makes one cell of k slots -/
theorem ev_mk {pc' k : Nat} {L' : List (Nat × Value)} {st' : List Value} {S' : Sto} (h : EV G l M d n0 l0 Q pc' L' st' S' (sz + 1) (sl + k))
    (hk : ∀ (p : Program) (e : Env) (R : Room) (s : State) (m : MethodId) (args : Array Value) (below : List Frame) (meth : Method) (c : Code) (H : Heap) (locs : List Loc) (cells slots : Nat) (Qf : State → Prop) (ls : Array Slot),
      m_CX G l M n0 p s m args meth c → m_R G S sz H → va_S (g_own G) s.heap H locs → lv_has ls M.2.2.1 L → cells + 1 ≤ R.cells → slots + k ≤ R.slots → (∀ ls' H' locs', m_R G S' (sz + 1) H' → va_S (g_own G) s.heap H' locs' → lv_has ls' M.2.2.1 L' → W p l e R s m args below meth c H' locs' (cells + 1) (slots + k) Qf (F0 m pc' ls' st')) → W p l e R s m args below meth c H locs cells slots Qf (F0 m pc ls st)) :
    EV G l M d n0 l0 Q pc L st S sz sl := by
  obtain ⟨o, S1, sz1, sl1, hQ, h1, h2, hw⟩ := h
  refine ⟨o, S1, sz1, sl1, hQ, by omega, by omega, fun p e s m args below meth c H locs ls g1 g2 hc hR hS hl => hk _ _ _ _ _ _ _ _ _ _ _ _ _ _ _ hc hR hS hl ?_ ?_ fun ls' H' locs' hR' hS' hl' => ?_⟩
  · show sz - n0 + 1 ≤ sz1 - n0
    omega
  · show sl - l0 + k ≤ sl1 - l0
    omega
  · have := hw p e s m args below meth c H' locs' ls' (by omega) (by omega) hc hR' hS' hl'
    rw [show sz + 1 - n0 = sz - n0 + 1 by omega, show sl + k - l0 = sl - l0 + k by omega] at this
    exact this

theorem ev_iadd {x y : Int32} (hd : decode M.2.1 pc = .ok (.iadd, 1)) (h : EV G l M d n0 l0 Q (pc + 1) L (.int (x + y) :: st) S sz sl) : EV G l M d n0 l0 Q pc L (.int y :: .int x :: st) S sz sl :=
  ev_go h fun _ _ _ _ _ _ _ _ _ _ _ _ _ _ _ hc _ _ hl kk => lv_iadd hc.1 hc.2.1 hd (kk _ hl)
theorem ev_isub {x y : Int32} (hd : decode M.2.1 pc = .ok (.isub, 1)) (h : EV G l M d n0 l0 Q (pc + 1) L (.int (x - y) :: st) S sz sl) : EV G l M d n0 l0 Q pc L (.int y :: .int x :: st) S sz sl :=
  ev_go h fun _ _ _ _ _ _ _ _ _ _ _ _ _ _ _ hc _ _ hl kk => lv_isub hc.1 hc.2.1 hd (kk _ hl)
theorem ev_imul {x y : Int32} (hd : decode M.2.1 pc = .ok (.imul, 1)) (h : EV G l M d n0 l0 Q (pc + 1) L (.int (x * y) :: st) S sz sl) : EV G l M d n0 l0 Q pc L (.int y :: .int x :: st) S sz sl :=
  ev_go h fun _ _ _ _ _ _ _ _ _ _ _ _ _ _ _ hc _ _ hl kk => lv_imul hc.1 hc.2.1 hd (kk _ hl)
theorem ev_iand {x y : Int32} (hd : decode M.2.1 pc = .ok (.iand, 1)) (h : EV G l M d n0 l0 Q (pc + 1) L (.int (x &&& y) :: st) S sz sl) : EV G l M d n0 l0 Q pc L (.int y :: .int x :: st) S sz sl :=
  ev_go h fun _ _ _ _ _ _ _ _ _ _ _ _ _ _ _ hc _ _ hl kk => lv_iand hc.1 hc.2.1 hd (kk _ hl)
theorem ev_ior {x y : Int32} (hd : decode M.2.1 pc = .ok (.ior, 1)) (h : EV G l M d n0 l0 Q (pc + 1) L (.int (x ||| y) :: st) S sz sl) : EV G l M d n0 l0 Q pc L (.int y :: .int x :: st) S sz sl :=
  ev_go h fun _ _ _ _ _ _ _ _ _ _ _ _ _ _ _ hc _ _ hl kk => lv_ior hc.1 hc.2.1 hd (kk _ hl)
theorem ev_ixor {x y : Int32} (hd : decode M.2.1 pc = .ok (.ixor, 1)) (h : EV G l M d n0 l0 Q (pc + 1) L (.int (x ^^^ y) :: st) S sz sl) : EV G l M d n0 l0 Q pc L (.int y :: .int x :: st) S sz sl :=
  ev_go h fun _ _ _ _ _ _ _ _ _ _ _ _ _ _ _ hc _ _ hl kk => lv_ixor hc.1 hc.2.1 hd (kk _ hl)
theorem ev_ineg {x : Int32} (hd : decode M.2.1 pc = .ok (.ineg, 1)) (h : EV G l M d n0 l0 Q (pc + 1) L (.int (-x) :: st) S sz sl) : EV G l M d n0 l0 Q pc L (.int x :: st) S sz sl :=
  ev_go h fun _ _ _ _ _ _ _ _ _ _ _ _ _ _ _ hc _ _ hl kk => lv_ineg hc.1 hc.2.1 hd (kk _ hl)
theorem ev_ladd {x y : Int64} (hd : decode M.2.1 pc = .ok (.ladd, 1)) (h : EV G l M d n0 l0 Q (pc + 1) L (.long (x + y) :: st) S sz sl) : EV G l M d n0 l0 Q pc L (.long y :: .long x :: st) S sz sl :=
  ev_go h fun _ _ _ _ _ _ _ _ _ _ _ _ _ _ _ hc _ _ hl kk => lv_ladd hc.1 hc.2.1 hd (kk _ hl)
theorem ev_lsub {x y : Int64} (hd : decode M.2.1 pc = .ok (.lsub, 1)) (h : EV G l M d n0 l0 Q (pc + 1) L (.long (x - y) :: st) S sz sl) : EV G l M d n0 l0 Q pc L (.long y :: .long x :: st) S sz sl :=
  ev_go h fun _ _ _ _ _ _ _ _ _ _ _ _ _ _ _ hc _ _ hl kk => lv_lsub hc.1 hc.2.1 hd (kk _ hl)
theorem ev_lmul {x y : Int64} (hd : decode M.2.1 pc = .ok (.lmul, 1)) (h : EV G l M d n0 l0 Q (pc + 1) L (.long (x * y) :: st) S sz sl) : EV G l M d n0 l0 Q pc L (.long y :: .long x :: st) S sz sl :=
  ev_go h fun _ _ _ _ _ _ _ _ _ _ _ _ _ _ _ hc _ _ hl kk => lv_lmul hc.1 hc.2.1 hd (kk _ hl)
theorem ev_land {x y : Int64} (hd : decode M.2.1 pc = .ok (.land, 1)) (h : EV G l M d n0 l0 Q (pc + 1) L (.long (x &&& y) :: st) S sz sl) : EV G l M d n0 l0 Q pc L (.long y :: .long x :: st) S sz sl :=
  ev_go h fun _ _ _ _ _ _ _ _ _ _ _ _ _ _ _ hc _ _ hl kk => lv_land hc.1 hc.2.1 hd (kk _ hl)
theorem ev_lor {x y : Int64} (hd : decode M.2.1 pc = .ok (.lor, 1)) (h : EV G l M d n0 l0 Q (pc + 1) L (.long (x ||| y) :: st) S sz sl) : EV G l M d n0 l0 Q pc L (.long y :: .long x :: st) S sz sl :=
  ev_go h fun _ _ _ _ _ _ _ _ _ _ _ _ _ _ _ hc _ _ hl kk => lv_lor hc.1 hc.2.1 hd (kk _ hl)
theorem ev_ishl {x y : Int32} (hd : decode M.2.1 pc = .ok (.ishl, 1)) (h : EV G l M d n0 l0 Q (pc + 1) L (.int (x <<< (y &&& 31)) :: st) S sz sl) : EV G l M d n0 l0 Q pc L (.int y :: .int x :: st) S sz sl :=
  ev_go h fun _ _ _ _ _ _ _ _ _ _ _ _ _ _ _ hc _ _ hl kk => lv_ishl hc.1 hc.2.1 hd (kk _ hl)
theorem ev_ishr {x y : Int32} (hd : decode M.2.1 pc = .ok (.ishr, 1)) (h : EV G l M d n0 l0 Q (pc + 1) L (.int (x >>> (y &&& 31)) :: st) S sz sl) : EV G l M d n0 l0 Q pc L (.int y :: .int x :: st) S sz sl :=
  ev_go h fun _ _ _ _ _ _ _ _ _ _ _ _ _ _ _ hc _ _ hl kk => lv_ishr hc.1 hc.2.1 hd (kk _ hl)
theorem ev_l2d {x : Int64} (hd : decode M.2.1 pc = .ok (.l2d, 1)) (h : EV G l M d n0 l0 Q (pc + 1) L (.double (FP.l2d x) :: st) S sz sl) : EV G l M d n0 l0 Q pc L (.long x :: st) S sz sl :=
  ev_go h fun _ _ _ _ _ _ _ _ _ _ _ _ _ _ _ hc _ _ hl kk => lv_l2d hc.1 hc.2.1 hd (kk _ hl)
theorem ev_i2d {x : Int32} (hd : decode M.2.1 pc = .ok (.i2d, 1)) (h : EV G l M d n0 l0 Q (pc + 1) L (.double (FP.i2d x) :: st) S sz sl) : EV G l M d n0 l0 Q pc L (.int x :: st) S sz sl :=
  ev_go h fun _ _ _ _ _ _ _ _ _ _ _ _ _ _ _ hc _ _ hl kk => lv_i2d hc.1 hc.2.1 hd (kk _ hl)
theorem ev_i2f {x : Int32} (hd : decode M.2.1 pc = .ok (.i2f, 1)) (h : EV G l M d n0 l0 Q (pc + 1) L (.float (FP.i2f x) :: st) S sz sl) : EV G l M d n0 l0 Q pc L (.int x :: st) S sz sl :=
  ev_go h fun _ _ _ _ _ _ _ _ _ _ _ _ _ _ _ hc _ _ hl kk => lv_i2f hc.1 hc.2.1 hd (kk _ hl)
theorem ev_d2i {x : UInt64} (hd : decode M.2.1 pc = .ok (.d2i, 1)) (h : EV G l M d n0 l0 Q (pc + 1) L (.int (FP.d2i x) :: st) S sz sl) : EV G l M d n0 l0 Q pc L (.double x :: st) S sz sl :=
  ev_go h fun _ _ _ _ _ _ _ _ _ _ _ _ _ _ _ hc _ _ hl kk => lv_d2i hc.1 hc.2.1 hd (kk _ hl)
theorem ev_d2l {x : UInt64} (hd : decode M.2.1 pc = .ok (.d2l, 1)) (h : EV G l M d n0 l0 Q (pc + 1) L (.long (FP.d2l x) :: st) S sz sl) : EV G l M d n0 l0 Q pc L (.double x :: st) S sz sl :=
  ev_go h fun _ _ _ _ _ _ _ _ _ _ _ _ _ _ _ hc _ _ hl kk => lv_d2l hc.1 hc.2.1 hd (kk _ hl)
theorem ev_dneg {x : UInt64} (hd : decode M.2.1 pc = .ok (.dneg, 1)) (h : EV G l M d n0 l0 Q (pc + 1) L (.double (FP.dneg x) :: st) S sz sl) : EV G l M d n0 l0 Q pc L (.double x :: st) S sz sl :=
  ev_go h fun _ _ _ _ _ _ _ _ _ _ _ _ _ _ _ hc _ _ hl kk => lv_dneg hc.1 hc.2.1 hd (kk _ hl)
theorem ev_dcmp {x y : UInt64} {op : CmpOp} (hd : decode M.2.1 pc = .ok (.dcmp op, 1)) (h : EV G l M d n0 l0 Q (pc + 1) L (.int (Op.cmpValue (FP.dcmp x y) op) :: st) S sz sl) : EV G l M d n0 l0 Q pc L (.double y :: .double x :: st) S sz sl :=
  ev_go h fun _ _ _ _ _ _ _ _ _ _ _ _ _ _ _ hc _ _ hl kk => lv_dcmp hc.1 hc.2.1 hd (kk _ hl)
theorem ev_fcmp {x y : UInt32} {op : CmpOp} (hd : decode M.2.1 pc = .ok (.fcmp op, 1)) (h : EV G l M d n0 l0 Q (pc + 1) L (.int (Op.cmpValue (FP.fcmp x y) op) :: st) S sz sl) : EV G l M d n0 l0 Q pc L (.float y :: .float x :: st) S sz sl :=
  ev_go h fun _ _ _ _ _ _ _ _ _ _ _ _ _ _ _ hc _ _ hl kk => lv_fcmp hc.1 hc.2.1 hd (kk _ hl)
theorem ev_lcmp {x y : Int64} (hd : decode M.2.1 pc = .ok (.lcmp, 1)) (h : EV G l M d n0 l0 Q (pc + 1) L (.int (lg_cmp x y) :: st) S sz sl) : EV G l M d n0 l0 Q pc L (.long y :: .long x :: st) S sz sl :=
  ev_go h fun _ _ _ _ _ _ _ _ _ _ _ _ _ _ _ hc _ _ hl kk => W.lcmp hc.1 hc.2.1 hd (kk _ hl)
theorem ev_dconst0  (hd : decode M.2.1 pc = .ok (.dconst 0, 1)) (h : EV G l M d n0 l0 Q (pc + 1) L (.double FP.dconst0 :: st) S sz sl) : EV G l M d n0 l0 Q pc L (st) S sz sl :=
  ev_go h fun _ _ _ _ _ _ _ _ _ _ _ _ _ _ _ hc _ _ hl kk => lv_dconst0 hc.1 hc.2.1 hd (kk _ hl)
theorem ev_dconst1  (hd : decode M.2.1 pc = .ok (.dconst 1, 1)) (h : EV G l M d n0 l0 Q (pc + 1) L (.double FP.dconst1 :: st) S sz sl) : EV G l M d n0 l0 Q pc L (st) S sz sl :=
  ev_go h fun _ _ _ _ _ _ _ _ _ _ _ _ _ _ _ hc _ _ hl kk => lv_dconst1 hc.1 hc.2.1 hd (kk _ hl)
theorem ev_null  (hd : decode M.2.1 pc = .ok (.aconst_null, 1)) (h : EV G l M d n0 l0 Q (pc + 1) L (.null :: st) S sz sl) : EV G l M d n0 l0 Q pc L (st) S sz sl :=
  ev_go h fun _ _ _ _ _ _ _ _ _ _ _ _ _ _ _ hc _ _ hl kk => lv_null hc.1 hc.2.1 hd (kk _ hl)
theorem ev_idiv {x y : Int32} (hd : decode M.2.1 pc = .ok (.idiv, 1)) (hv : ¬ y = 0) (h : EV G l M d n0 l0 Q (pc + 1) L (.int (x / y) :: st) S sz sl) : EV G l M d n0 l0 Q pc L (.int y :: .int x :: st) S sz sl :=
  ev_go h fun _ _ _ _ _ _ _ _ _ _ _ _ _ _ _ hc _ _ hl kk => lv_idiv hc.1 hc.2.1 hd hv (kk _ hl)
theorem ev_irem {x y : Int32} (hd : decode M.2.1 pc = .ok (.irem, 1)) (hv : ¬ y = 0) (h : EV G l M d n0 l0 Q (pc + 1) L (.int (x - x / y * y) :: st) S sz sl) : EV G l M d n0 l0 Q pc L (.int y :: .int x :: st) S sz sl :=
  ev_go h fun _ _ _ _ _ _ _ _ _ _ _ _ _ _ _ hc _ _ hl kk => lv_irem hc.1 hc.2.1 hd hv (kk _ hl)
theorem ev_dadd {x y : UInt64} (hd : decode M.2.1 pc = .ok (.dadd, 1)) (hv : vf_n64 (FP.dadd x y)) (h : EV G l M d n0 l0 Q (pc + 1) L (.double (FP.dadd x y) :: st) S sz sl) : EV G l M d n0 l0 Q pc L (.double y :: .double x :: st) S sz sl :=
  ev_go h fun _ _ _ _ _ _ _ _ _ _ _ _ _ _ _ hc _ _ hl kk => lv_dadd hc.1 hc.2.1 hd hv (kk _ hl)
theorem ev_dsub {x y : UInt64} (hd : decode M.2.1 pc = .ok (.dsub, 1)) (hv : vf_n64 (FP.dsub x y)) (h : EV G l M d n0 l0 Q (pc + 1) L (.double (FP.dsub x y) :: st) S sz sl) : EV G l M d n0 l0 Q pc L (.double y :: .double x :: st) S sz sl :=
  ev_go h fun _ _ _ _ _ _ _ _ _ _ _ _ _ _ _ hc _ _ hl kk => lv_dsub hc.1 hc.2.1 hd hv (kk _ hl)
theorem ev_dmul {x y : UInt64} (hd : decode M.2.1 pc = .ok (.dmul, 1)) (hv : vf_n64 (FP.dmul x y)) (h : EV G l M d n0 l0 Q (pc + 1) L (.double (FP.dmul x y) :: st) S sz sl) : EV G l M d n0 l0 Q pc L (.double y :: .double x :: st) S sz sl :=
  ev_go h fun _ _ _ _ _ _ _ _ _ _ _ _ _ _ _ hc _ _ hl kk => lv_dmul hc.1 hc.2.1 hd hv (kk _ hl)
theorem ev_ddiv {x y : UInt64} (hd : decode M.2.1 pc = .ok (.ddiv, 1)) (hv : vf_n64 (FP.ddiv x y)) (h : EV G l M d n0 l0 Q (pc + 1) L (.double (FP.ddiv x y) :: st) S sz sl) : EV G l M d n0 l0 Q pc L (.double y :: .double x :: st) S sz sl :=
  ev_go h fun _ _ _ _ _ _ _ _ _ _ _ _ _ _ _ hc _ _ hl kk => lv_ddiv hc.1 hc.2.1 hd hv (kk _ hl)
theorem ev_fdiv {x y : UInt32} (hd : decode M.2.1 pc = .ok (.fdiv, 1)) (hv : vf_n32 (FP.fdiv x y)) (h : EV G l M d n0 l0 Q (pc + 1) L (.float (FP.fdiv x y) :: st) S sz sl) : EV G l M d n0 l0 Q pc L (.float y :: .float x :: st) S sz sl :=
  ev_go h fun _ _ _ _ _ _ _ _ _ _ _ _ _ _ _ hc _ _ hl kk => lv_fdiv hc.1 hc.2.1 hd hv (kk _ hl)
theorem ev_iconst {n : Int} {v : Int32} (hd : decode M.2.1 pc = .ok (.iconst n, 1)) (hv : Int32.ofInt n = v) (h : EV G l M d n0 l0 Q (pc + 1) L (.int v :: st) S sz sl) : EV G l M d n0 l0 Q pc L (st) S sz sl :=
  ev_go h fun _ _ _ _ _ _ _ _ _ _ _ _ _ _ _ hc _ _ hl kk => lv_iconst hc.1 hc.2.1 hd hv (kk _ hl)
theorem ev_bipush {n : Int} {v : Int32} (hd : decode M.2.1 pc = .ok (.bipush n, 2)) (hv : (Int8.ofInt n).toInt32 = v) (h : EV G l M d n0 l0 Q (pc + 2) L (.int v :: st) S sz sl) : EV G l M d n0 l0 Q pc L (st) S sz sl :=
  ev_go h fun _ _ _ _ _ _ _ _ _ _ _ _ _ _ _ hc _ _ hl kk => lv_bipush hc.1 hc.2.1 hd hv (kk _ hl)
theorem ev_sipush {n : Int} {v : Int32} (hd : decode M.2.1 pc = .ok (.sipush n, 3)) (hv : (Int16.ofInt n).toInt32 = v) (h : EV G l M d n0 l0 Q (pc + 3) L (.int v :: st) S sz sl) : EV G l M d n0 l0 Q pc L (st) S sz sl :=
  ev_go h fun _ _ _ _ _ _ _ _ _ _ _ _ _ _ _ hc _ _ hl kk => lv_sipush hc.1 hc.2.1 hd hv (kk _ hl)
theorem ev_lconst {n : Fin 2} {v : Int64} (hd : decode M.2.1 pc = .ok (.lconst n, 1)) (hv : Int64.ofNat (n : Nat) = v) (h : EV G l M d n0 l0 Q (pc + 1) L (.long v :: st) S sz sl) : EV G l M d n0 l0 Q pc L (st) S sz sl :=
  ev_go h fun _ _ _ _ _ _ _ _ _ _ _ _ _ _ _ hc _ _ hl kk => lv_lconst hc.1 hc.2.1 hd hv (kk _ hl)
theorem ev_i2c {x v : Int32} (hd : decode M.2.1 pc = .ok (.i2c, 1)) (hv : (x.toUInt32 % 65536).toInt32 = v) (h : EV G l M d n0 l0 Q (pc + 1) L (.int v :: st) S sz sl) : EV G l M d n0 l0 Q pc L (.int x :: st) S sz sl :=
  ev_go h fun _ _ _ _ _ _ _ _ _ _ _ _ _ _ _ hc _ _ hl kk => lv_i2c hc.1 hc.2.1 hd hv (kk _ hl)
theorem ev_i2l {x : Int32} {v : Int64} (hd : decode M.2.1 pc = .ok (.i2l, 1)) (hv : x.toInt64 = v) (h : EV G l M d n0 l0 Q (pc + 1) L (.long v :: st) S sz sl) : EV G l M d n0 l0 Q pc L (.int x :: st) S sz sl :=
  ev_go h fun _ _ _ _ _ _ _ _ _ _ _ _ _ _ _ hc _ _ hl kk => lv_i2l hc.1 hc.2.1 hd hv (kk _ hl)
theorem ev_i2b {x v : Int32} (hd : decode M.2.1 pc = .ok (.i2b, 1)) (hv : x.toInt8.toInt32 = v) (h : EV G l M d n0 l0 Q (pc + 1) L (.int v :: st) S sz sl) : EV G l M d n0 l0 Q pc L (.int x :: st) S sz sl :=
  ev_go h fun _ _ _ _ _ _ _ _ _ _ _ _ _ _ _ hc _ _ hl kk => lv_i2b hc.1 hc.2.1 hd hv (kk _ hl)
theorem ev_iushr {x y v : Int32} (hd : decode M.2.1 pc = .ok (.iushr, 1)) (hv : (x.toUInt32 >>> (y.toUInt32 &&& Int32.toUInt32 31)).toInt32 = v) (h : EV G l M d n0 l0 Q (pc + 1) L (.int v :: st) S sz sl) : EV G l M d n0 l0 Q pc L (.int y :: .int x :: st) S sz sl :=
  ev_go h fun _ _ _ _ _ _ _ _ _ _ _ _ _ _ _ hc _ _ hl kk => lv_iushr hc.1 hc.2.1 hd hv (kk _ hl)
theorem ev_lshl {x v : Int64} {y : Int32} (hd : decode M.2.1 pc = .ok (.lshl, 1)) (hv : x <<< (y.toInt64 &&& 63) = v) (h : EV G l M d n0 l0 Q (pc + 1) L (.long v :: st) S sz sl) : EV G l M d n0 l0 Q pc L (.int y :: .long x :: st) S sz sl :=
  ev_go h fun _ _ _ _ _ _ _ _ _ _ _ _ _ _ _ hc _ _ hl kk => lv_lshl hc.1 hc.2.1 hd hv (kk _ hl)
theorem ev_lshr {x v : Int64} {y : Int32} (hd : decode M.2.1 pc = .ok (.lshr, 1)) (hv : x >>> (y.toInt64 &&& 63) = v) (h : EV G l M d n0 l0 Q (pc + 1) L (.long v :: st) S sz sl) : EV G l M d n0 l0 Q pc L (.int y :: .long x :: st) S sz sl :=
  ev_go h fun _ _ _ _ _ _ _ _ _ _ _ _ _ _ _ hc _ _ hl kk => lv_lshr hc.1 hc.2.1 hd hv (kk _ hl)
theorem ev_dup {va : Value} (hd : decode M.2.1 pc = .ok (.dup, 1)) (hv : va.category = 1) (h : EV G l M d n0 l0 Q (pc + 1) L (va :: va :: st) S sz sl) : EV G l M d n0 l0 Q pc L (va :: st) S sz sl :=
  ev_go h fun _ _ _ _ _ _ _ _ _ _ _ _ _ _ _ hc _ _ hl kk => lv_dup hc.1 hc.2.1 hd hv (kk _ hl)
theorem ev_pop {va : Value} (hd : decode M.2.1 pc = .ok (.pop, 1)) (hv : va.category = 1) (h : EV G l M d n0 l0 Q (pc + 1) L (st) S sz sl) : EV G l M d n0 l0 Q pc L (va :: st) S sz sl :=
  ev_go h fun _ _ _ _ _ _ _ _ _ _ _ _ _ _ _ hc _ _ hl kk => lv_pop hc.1 hc.2.1 hd hv (kk _ hl)
theorem ev_dup_x1 {va vb : Value} (hd : decode M.2.1 pc = .ok (.dup_x1, 1)) (hv : va.category = 1) (hu : vb.category = 1) (h : EV G l M d n0 l0 Q (pc + 1) L (va :: vb :: va :: st) S sz sl) : EV G l M d n0 l0 Q pc L (va :: vb :: st) S sz sl :=
  ev_go h fun _ _ _ _ _ _ _ _ _ _ _ _ _ _ _ hc _ _ hl kk => lv_dup_x1 hc.1 hc.2.1 hd hv hu (kk _ hl)
theorem ev_dup2 {va vb : Value} (hd : decode M.2.1 pc = .ok (.dup2, 1)) (hv : va.category = 1) (hu : vb.category = 1) (h : EV G l M d n0 l0 Q (pc + 1) L (va :: vb :: va :: vb :: st) S sz sl) : EV G l M d n0 l0 Q pc L (va :: vb :: st) S sz sl :=
  ev_go h fun _ _ _ _ _ _ _ _ _ _ _ _ _ _ _ hc _ _ hl kk => lv_dup2_11 hc.1 hc.2.1 hd hv hu (kk _ hl)
theorem ev_iload_n {f : Fin 4} {i : Nat} {x : Int32} (hd : decode M.2.1 pc = .ok (.iload_n f, 1)) (hi : (f : Nat) = i) (k : Nat) (hk : L[k]? = some (i, .int x)) (h : EV G l M d n0 l0 Q (pc + 1) L (.int x :: st) S sz sl) : EV G l M d n0 l0 Q pc L st S sz sl :=
  ev_go h fun _ _ _ _ _ _ _ _ _ _ _ _ _ _ _ hc _ _ hl kk => lv_iload_n hc.1 hc.2.1 hd hi (lv_at hl k hk) (kk _ hl)
theorem ev_iload {i : Nat} {x : Int32} (hd : decode M.2.1 pc = .ok (.iload i, 2)) (k : Nat) (hk : L[k]? = some (i, .int x)) (h : EV G l M d n0 l0 Q (pc + 2) L (.int x :: st) S sz sl) : EV G l M d n0 l0 Q pc L st S sz sl :=
  ev_go h fun _ _ _ _ _ _ _ _ _ _ _ _ _ _ _ hc _ _ hl kk => lv_iload hc.1 hc.2.1 hd (lv_at hl k hk) (kk _ hl)
theorem ev_lload_n {f : Fin 4} {i : Nat} {x : Int64} (hd : decode M.2.1 pc = .ok (.lload_n f, 1)) (hi : (f : Nat) = i) (k : Nat) (hk : L[k]? = some (i, .long x)) (h : EV G l M d n0 l0 Q (pc + 1) L (.long x :: st) S sz sl) : EV G l M d n0 l0 Q pc L st S sz sl :=
  ev_go h fun _ _ _ _ _ _ _ _ _ _ _ _ _ _ _ hc _ _ hl kk => lv_lload_n hc.1 hc.2.1 hd hi (lv_at hl k hk) (kk _ hl)
theorem ev_lload {i : Nat} {x : Int64} (hd : decode M.2.1 pc = .ok (.lload i, 2)) (k : Nat) (hk : L[k]? = some (i, .long x)) (h : EV G l M d n0 l0 Q (pc + 2) L (.long x :: st) S sz sl) : EV G l M d n0 l0 Q pc L st S sz sl :=
  ev_go h fun _ _ _ _ _ _ _ _ _ _ _ _ _ _ _ hc _ _ hl kk => lv_lload hc.1 hc.2.1 hd (lv_at hl k hk) (kk _ hl)
theorem ev_dload_n {f : Fin 4} {i : Nat} {x : UInt64} (hd : decode M.2.1 pc = .ok (.dload_n f, 1)) (hi : (f : Nat) = i) (k : Nat) (hk : L[k]? = some (i, .double x)) (h : EV G l M d n0 l0 Q (pc + 1) L (.double x :: st) S sz sl) : EV G l M d n0 l0 Q pc L st S sz sl :=
  ev_go h fun _ _ _ _ _ _ _ _ _ _ _ _ _ _ _ hc _ _ hl kk => lv_dload_n hc.1 hc.2.1 hd hi (lv_at hl k hk) (kk _ hl)
theorem ev_dload {i : Nat} {x : UInt64} (hd : decode M.2.1 pc = .ok (.dload i, 2)) (k : Nat) (hk : L[k]? = some (i, .double x)) (h : EV G l M d n0 l0 Q (pc + 2) L (.double x :: st) S sz sl) : EV G l M d n0 l0 Q pc L st S sz sl :=
  ev_go h fun _ _ _ _ _ _ _ _ _ _ _ _ _ _ _ hc _ _ hl kk => lv_dload hc.1 hc.2.1 hd (lv_at hl k hk) (kk _ hl)
theorem ev_aload_n {f : Fin 4} {i : Nat} {x : Nat} (hd : decode M.2.1 pc = .ok (.aload_n f, 1)) (hi : (f : Nat) = i) (k : Nat) (hk : L[k]? = some (i, .ref x)) (h : EV G l M d n0 l0 Q (pc + 1) L (.ref x :: st) S sz sl) : EV G l M d n0 l0 Q pc L st S sz sl :=
  ev_go h fun _ _ _ _ _ _ _ _ _ _ _ _ _ _ _ hc _ _ hl kk => lv_aload_n hc.1 hc.2.1 hd hi (lv_at hl k hk) (kk _ hl)
theorem ev_aload {i : Nat} {x : Nat} (hd : decode M.2.1 pc = .ok (.aload i, 2)) (k : Nat) (hk : L[k]? = some (i, .ref x)) (h : EV G l M d n0 l0 Q (pc + 2) L (.ref x :: st) S sz sl) : EV G l M d n0 l0 Q pc L st S sz sl :=
  ev_go h fun _ _ _ _ _ _ _ _ _ _ _ _ _ _ _ hc _ _ hl kk => lv_aload hc.1 hc.2.1 hd (lv_at hl k hk) (kk _ hl)
theorem ev_aload_nN {f : Fin 4} {i : Nat} (hd : decode M.2.1 pc = .ok (.aload_n f, 1)) (hi : (f : Nat) = i) (k : Nat) (hk : L[k]? = some (i, .null)) (h : EV G l M d n0 l0 Q (pc + 1) L (.null :: st) S sz sl) : EV G l M d n0 l0 Q pc L st S sz sl :=
  ev_go h fun _ _ _ _ _ _ _ _ _ _ _ _ _ _ _ hc _ _ hl kk => lv_aload_nN hc.1 hc.2.1 hd hi (lv_at hl k hk) (kk _ hl)
theorem ev_aloadN {i : Nat} (hd : decode M.2.1 pc = .ok (.aload i, 2)) (k : Nat) (hk : L[k]? = some (i, .null)) (h : EV G l M d n0 l0 Q (pc + 2) L (.null :: st) S sz sl) : EV G l M d n0 l0 Q pc L st S sz sl :=
  ev_go h fun _ _ _ _ _ _ _ _ _ _ _ _ _ _ _ hc _ _ hl kk => lv_aloadN hc.1 hc.2.1 hd (lv_at hl k hk) (kk _ hl)
/-- the locals behind a store of one word, of two words -/
def l_s1 (L : List (Nat × Value)) (i : Nat) (v : Value) : List (Nat × Value) := (i, v) :: L.filter (fun q => !(q.1 == i) && !(q.1 + 1 == i && q.2.category == 2))
def l_s2 (L : List (Nat × Value)) (i : Nat) (v : Value) : List (Nat × Value) := (i, v) :: L.filter (fun q => !(q.1 == i) && (!(q.1 == i + 1) && !(q.1 + 1 == i && q.2.category == 2)))
theorem ev_istore_n {f : Fin 4} {i : Nat} {x : Int32} {L' : List (Nat × Value)} (hd : decode M.2.1 pc = .ok (.istore_n f, 1)) (hi : (f : Nat) = i) (hn : i < M.2.2.1) (hL : l_s1 L i (.int x) = L') (h : EV G l M d n0 l0 Q (pc + 1) L' st S sz sl) : EV G l M d n0 l0 Q pc L (.int x :: st) S sz sl :=
  ev_go h fun _ _ _ _ _ _ _ _ _ _ _ _ _ _ _ hc _ _ hl kk => lv_istore_n hc.1 hc.2.1 hd hi hl hn hL (fun ls' hl' => kk ls' hl')
theorem ev_istore {i : Nat} {x : Int32} {L' : List (Nat × Value)} (hd : decode M.2.1 pc = .ok (.istore i, 2)) (hn : i < M.2.2.1) (hL : l_s1 L i (.int x) = L') (h : EV G l M d n0 l0 Q (pc + 2) L' st S sz sl) : EV G l M d n0 l0 Q pc L (.int x :: st) S sz sl :=
  ev_go h fun _ _ _ _ _ _ _ _ _ _ _ _ _ _ _ hc _ _ hl kk => lv_istore hc.1 hc.2.1 hd hl hn hL (fun ls' hl' => kk ls' hl')
theorem ev_lstore_n {f : Fin 4} {i : Nat} {x : Int64} {L' : List (Nat × Value)} (hd : decode M.2.1 pc = .ok (.lstore_n f, 1)) (hi : (f : Nat) = i) (hn : i + 1 < M.2.2.1) (hL : l_s2 L i (.long x) = L') (h : EV G l M d n0 l0 Q (pc + 1) L' st S sz sl) : EV G l M d n0 l0 Q pc L (.long x :: st) S sz sl :=
  ev_go h fun _ _ _ _ _ _ _ _ _ _ _ _ _ _ _ hc _ _ hl kk => lv_lstore_n hc.1 hc.2.1 hd hi hl hn hL (fun ls' hl' => kk ls' hl')
theorem ev_lstore {i : Nat} {x : Int64} {L' : List (Nat × Value)} (hd : decode M.2.1 pc = .ok (.lstore i, 2)) (hn : i + 1 < M.2.2.1) (hL : l_s2 L i (.long x) = L') (h : EV G l M d n0 l0 Q (pc + 2) L' st S sz sl) : EV G l M d n0 l0 Q pc L (.long x :: st) S sz sl :=
  ev_go h fun _ _ _ _ _ _ _ _ _ _ _ _ _ _ _ hc _ _ hl kk => lv_lstore hc.1 hc.2.1 hd hl hn hL (fun ls' hl' => kk ls' hl')
theorem ev_dstore_n {f : Fin 4} {i : Nat} {x : UInt64} {L' : List (Nat × Value)} (hd : decode M.2.1 pc = .ok (.dstore_n f, 1)) (hi : (f : Nat) = i) (hn : i + 1 < M.2.2.1) (hL : l_s2 L i (.double x) = L') (h : EV G l M d n0 l0 Q (pc + 1) L' st S sz sl) : EV G l M d n0 l0 Q pc L (.double x :: st) S sz sl :=
  ev_go h fun _ _ _ _ _ _ _ _ _ _ _ _ _ _ _ hc _ _ hl kk => lv_dstore_n hc.1 hc.2.1 hd hi hl hn hL (fun ls' hl' => kk ls' hl')
theorem ev_dstore {i : Nat} {x : UInt64} {L' : List (Nat × Value)} (hd : decode M.2.1 pc = .ok (.dstore i, 2)) (hn : i + 1 < M.2.2.1) (hL : l_s2 L i (.double x) = L') (h : EV G l M d n0 l0 Q (pc + 2) L' st S sz sl) : EV G l M d n0 l0 Q pc L (.double x :: st) S sz sl :=
  ev_go h fun _ _ _ _ _ _ _ _ _ _ _ _ _ _ _ hc _ _ hl kk => lv_dstore hc.1 hc.2.1 hd hl hn hL (fun ls' hl' => kk ls' hl')
theorem ev_astore_n {f : Fin 4} {i : Nat} {x : Nat} {L' : List (Nat × Value)} (hd : decode M.2.1 pc = .ok (.astore_n f, 1)) (hi : (f : Nat) = i) (hn : i < M.2.2.1) (hL : l_s1 L i (.ref x) = L') (h : EV G l M d n0 l0 Q (pc + 1) L' st S sz sl) : EV G l M d n0 l0 Q pc L (.ref x :: st) S sz sl :=
  ev_go h fun _ _ _ _ _ _ _ _ _ _ _ _ _ _ _ hc _ _ hl kk => lv_astore_n hc.1 hc.2.1 hd hi hl hn hL (fun ls' hl' => kk ls' hl')
theorem ev_astore {i : Nat} {x : Nat} {L' : List (Nat × Value)} (hd : decode M.2.1 pc = .ok (.astore i, 2)) (hn : i < M.2.2.1) (hL : l_s1 L i (.ref x) = L') (h : EV G l M d n0 l0 Q (pc + 2) L' st S sz sl) : EV G l M d n0 l0 Q pc L (.ref x :: st) S sz sl :=
  ev_go h fun _ _ _ _ _ _ _ _ _ _ _ _ _ _ _ hc _ _ hl kk => lv_astore hc.1 hc.2.1 hd hl hn hL (fun ls' hl' => kk ls' hl')
theorem ev_astore_nN {f : Fin 4} {i : Nat} {L' : List (Nat × Value)} (hd : decode M.2.1 pc = .ok (.astore_n f, 1)) (hi : (f : Nat) = i) (hn : i < M.2.2.1) (hL : l_s1 L i .null = L') (h : EV G l M d n0 l0 Q (pc + 1) L' st S sz sl) : EV G l M d n0 l0 Q pc L (.null :: st) S sz sl :=
  ev_go h fun _ _ _ _ _ _ _ _ _ _ _ _ _ _ _ hc _ _ hl kk => lv_astore_nN hc.1 hc.2.1 hd hi hl hn hL (fun ls' hl' => kk ls' hl')
theorem ev_astoreN {i : Nat} {L' : List (Nat × Value)} (hd : decode M.2.1 pc = .ok (.astore i, 2)) (hn : i < M.2.2.1) (hL : l_s1 L i .null = L') (h : EV G l M d n0 l0 Q (pc + 2) L' st S sz sl) : EV G l M d n0 l0 Q pc L (.null :: st) S sz sl :=
  ev_go h fun _ _ _ _ _ _ _ _ _ _ _ _ _ _ _ hc _ _ hl kk => lv_astoreN hc.1 hc.2.1 hd hl hn hL (fun ls' hl' => kk ls' hl')
theorem ev_iinc {i : Nat} {n : Int} {x v : Int32} {L' : List (Nat × Value)} (hd : decode M.2.1 pc = .ok (.iinc i n, 3)) (k : Nat) (hk : L[k]? = some (i, .int x)) (hv : x + Int32.ofInt n = v) (hn : i < M.2.2.1) (hL : l_s1 L i (.int v) = L') (h : EV G l M d n0 l0 Q (pc + 3) L' st S sz sl) : EV G l M d n0 l0 Q pc L st S sz sl :=
  ev_go h fun _ _ _ _ _ _ _ _ _ _ _ _ _ _ _ hc _ _ hl kk => lv_iinc hc.1 hc.2.1 hd hl hk hv hn hL (fun ls' hl' => kk ls' hl')
/-- fewer listed locals, in any order -/
theorem ev_sub {L' : List (Nat × Value)} (ks : List Nat) (hL : lv_pick L ks = L') (h : EV G l M d n0 l0 Q pc L' st S sz sl) : EV G l M d n0 l0 Q pc L st S sz sl :=
  ev_go h fun _ _ _ _ _ _ _ _ _ _ _ _ _ _ _ _ _ _ hl kk => kk _ (lv_sub hl ks hL)
theorem ev_if_eq {x : Int32} {off : Int} (tgt : Nat) (hd : decode M.2.1 pc = .ok (.ifCond .eq off, 3)) (ht : (pc : Int) + off = (tgt : Int)) (kt : x = 0 → EV G l M d n0 l0 Q tgt L st S sz sl) (kf : ¬ x = 0 → EV G l M d n0 l0 Q (pc + 3) L st S sz sl) : EV G l M d n0 l0 Q pc L (.int x :: st) S sz sl := by
  by_cases q : x = 0
  · exact ev_go (kt q) fun _ _ _ _ _ _ _ _ _ _ _ _ _ _ _ hc _ _ hl kk => lv_if_eq hc.1 hc.2.1 hd ht (fun _ => kk _ hl) (fun z => by first | exact absurd q z | exact absurd z q)
  · exact ev_go (kf (by first | exact q | exact Classical.not_not.mp q)) fun _ _ _ _ _ _ _ _ _ _ _ _ _ _ _ hc _ _ hl kk => lv_if_eq hc.1 hc.2.1 hd ht (fun z => absurd z q) (fun _ => kk _ hl)
theorem ev_icmp_eq {x y : Int32} {off : Int} (tgt : Nat) (hd : decode M.2.1 pc = .ok (.if_icmp .eq off, 3)) (ht : (pc : Int) + off = (tgt : Int)) (kt : x = y → EV G l M d n0 l0 Q tgt L st S sz sl) (kf : ¬ x = y → EV G l M d n0 l0 Q (pc + 3) L st S sz sl) : EV G l M d n0 l0 Q pc L (.int y :: .int x :: st) S sz sl := by
  by_cases q : x = y
  · exact ev_go (kt q) fun _ _ _ _ _ _ _ _ _ _ _ _ _ _ _ hc _ _ hl kk => lv_icmp_eq hc.1 hc.2.1 hd ht (fun _ => kk _ hl) (fun z => by first | exact absurd q z | exact absurd z q)
  · exact ev_go (kf (by first | exact q | exact Classical.not_not.mp q)) fun _ _ _ _ _ _ _ _ _ _ _ _ _ _ _ hc _ _ hl kk => lv_icmp_eq hc.1 hc.2.1 hd ht (fun z => absurd z q) (fun _ => kk _ hl)
theorem ev_if_ne {x : Int32} {off : Int} (tgt : Nat) (hd : decode M.2.1 pc = .ok (.ifCond .ne off, 3)) (ht : (pc : Int) + off = (tgt : Int)) (kt : ¬ x = 0 → EV G l M d n0 l0 Q tgt L st S sz sl) (kf : x = 0 → EV G l M d n0 l0 Q (pc + 3) L st S sz sl) : EV G l M d n0 l0 Q pc L (.int x :: st) S sz sl := by
  by_cases q : ¬ x = 0
  · exact ev_go (kt q) fun _ _ _ _ _ _ _ _ _ _ _ _ _ _ _ hc _ _ hl kk => lv_if_ne hc.1 hc.2.1 hd ht (fun _ => kk _ hl) (fun z => by first | exact absurd q z | exact absurd z q)
  · exact ev_go (kf (by first | exact q | exact Classical.not_not.mp q)) fun _ _ _ _ _ _ _ _ _ _ _ _ _ _ _ hc _ _ hl kk => lv_if_ne hc.1 hc.2.1 hd ht (fun z => absurd z q) (fun _ => kk _ hl)
theorem ev_icmp_ne {x y : Int32} {off : Int} (tgt : Nat) (hd : decode M.2.1 pc = .ok (.if_icmp .ne off, 3)) (ht : (pc : Int) + off = (tgt : Int)) (kt : ¬ x = y → EV G l M d n0 l0 Q tgt L st S sz sl) (kf : x = y → EV G l M d n0 l0 Q (pc + 3) L st S sz sl) : EV G l M d n0 l0 Q pc L (.int y :: .int x :: st) S sz sl := by
  by_cases q : ¬ x = y
  · exact ev_go (kt q) fun _ _ _ _ _ _ _ _ _ _ _ _ _ _ _ hc _ _ hl kk => lv_icmp_ne hc.1 hc.2.1 hd ht (fun _ => kk _ hl) (fun z => by first | exact absurd q z | exact absurd z q)
  · exact ev_go (kf (by first | exact q | exact Classical.not_not.mp q)) fun _ _ _ _ _ _ _ _ _ _ _ _ _ _ _ hc _ _ hl kk => lv_icmp_ne hc.1 hc.2.1 hd ht (fun z => absurd z q) (fun _ => kk _ hl)
theorem ev_if_lt {x : Int32} {off : Int} (tgt : Nat) (hd : decode M.2.1 pc = .ok (.ifCond .lt off, 3)) (ht : (pc : Int) + off = (tgt : Int)) (kt : x < 0 → EV G l M d n0 l0 Q tgt L st S sz sl) (kf : ¬ x < 0 → EV G l M d n0 l0 Q (pc + 3) L st S sz sl) : EV G l M d n0 l0 Q pc L (.int x :: st) S sz sl := by
  by_cases q : x < 0
  · exact ev_go (kt q) fun _ _ _ _ _ _ _ _ _ _ _ _ _ _ _ hc _ _ hl kk => lv_if_lt hc.1 hc.2.1 hd ht (fun _ => kk _ hl) (fun z => by first | exact absurd q z | exact absurd z q)
  · exact ev_go (kf (by first | exact q | exact Classical.not_not.mp q)) fun _ _ _ _ _ _ _ _ _ _ _ _ _ _ _ hc _ _ hl kk => lv_if_lt hc.1 hc.2.1 hd ht (fun z => absurd z q) (fun _ => kk _ hl)
theorem ev_icmp_lt {x y : Int32} {off : Int} (tgt : Nat) (hd : decode M.2.1 pc = .ok (.if_icmp .lt off, 3)) (ht : (pc : Int) + off = (tgt : Int)) (kt : x < y → EV G l M d n0 l0 Q tgt L st S sz sl) (kf : ¬ x < y → EV G l M d n0 l0 Q (pc + 3) L st S sz sl) : EV G l M d n0 l0 Q pc L (.int y :: .int x :: st) S sz sl := by
  by_cases q : x < y
  · exact ev_go (kt q) fun _ _ _ _ _ _ _ _ _ _ _ _ _ _ _ hc _ _ hl kk => lv_icmp_lt hc.1 hc.2.1 hd ht (fun _ => kk _ hl) (fun z => by first | exact absurd q z | exact absurd z q)
  · exact ev_go (kf (by first | exact q | exact Classical.not_not.mp q)) fun _ _ _ _ _ _ _ _ _ _ _ _ _ _ _ hc _ _ hl kk => lv_icmp_lt hc.1 hc.2.1 hd ht (fun z => absurd z q) (fun _ => kk _ hl)
theorem ev_if_ge {x : Int32} {off : Int} (tgt : Nat) (hd : decode M.2.1 pc = .ok (.ifCond .ge off, 3)) (ht : (pc : Int) + off = (tgt : Int)) (kt : 0 ≤ x → EV G l M d n0 l0 Q tgt L st S sz sl) (kf : ¬ 0 ≤ x → EV G l M d n0 l0 Q (pc + 3) L st S sz sl) : EV G l M d n0 l0 Q pc L (.int x :: st) S sz sl := by
  by_cases q : 0 ≤ x
  · exact ev_go (kt q) fun _ _ _ _ _ _ _ _ _ _ _ _ _ _ _ hc _ _ hl kk => lv_if_ge hc.1 hc.2.1 hd ht (fun _ => kk _ hl) (fun z => by first | exact absurd q z | exact absurd z q)
  · exact ev_go (kf (by first | exact q | exact Classical.not_not.mp q)) fun _ _ _ _ _ _ _ _ _ _ _ _ _ _ _ hc _ _ hl kk => lv_if_ge hc.1 hc.2.1 hd ht (fun z => absurd z q) (fun _ => kk _ hl)
theorem ev_icmp_ge {x y : Int32} {off : Int} (tgt : Nat) (hd : decode M.2.1 pc = .ok (.if_icmp .ge off, 3)) (ht : (pc : Int) + off = (tgt : Int)) (kt : y ≤ x → EV G l M d n0 l0 Q tgt L st S sz sl) (kf : ¬ y ≤ x → EV G l M d n0 l0 Q (pc + 3) L st S sz sl) : EV G l M d n0 l0 Q pc L (.int y :: .int x :: st) S sz sl := by
  by_cases q : y ≤ x
  · exact ev_go (kt q) fun _ _ _ _ _ _ _ _ _ _ _ _ _ _ _ hc _ _ hl kk => lv_icmp_ge hc.1 hc.2.1 hd ht (fun _ => kk _ hl) (fun z => by first | exact absurd q z | exact absurd z q)
  · exact ev_go (kf (by first | exact q | exact Classical.not_not.mp q)) fun _ _ _ _ _ _ _ _ _ _ _ _ _ _ _ hc _ _ hl kk => lv_icmp_ge hc.1 hc.2.1 hd ht (fun z => absurd z q) (fun _ => kk _ hl)
theorem ev_if_gt {x : Int32} {off : Int} (tgt : Nat) (hd : decode M.2.1 pc = .ok (.ifCond .gt off, 3)) (ht : (pc : Int) + off = (tgt : Int)) (kt : 0 < x → EV G l M d n0 l0 Q tgt L st S sz sl) (kf : ¬ 0 < x → EV G l M d n0 l0 Q (pc + 3) L st S sz sl) : EV G l M d n0 l0 Q pc L (.int x :: st) S sz sl := by
  by_cases q : 0 < x
  · exact ev_go (kt q) fun _ _ _ _ _ _ _ _ _ _ _ _ _ _ _ hc _ _ hl kk => lv_if_gt hc.1 hc.2.1 hd ht (fun _ => kk _ hl) (fun z => by first | exact absurd q z | exact absurd z q)
  · exact ev_go (kf (by first | exact q | exact Classical.not_not.mp q)) fun _ _ _ _ _ _ _ _ _ _ _ _ _ _ _ hc _ _ hl kk => lv_if_gt hc.1 hc.2.1 hd ht (fun z => absurd z q) (fun _ => kk _ hl)
theorem ev_icmp_gt {x y : Int32} {off : Int} (tgt : Nat) (hd : decode M.2.1 pc = .ok (.if_icmp .gt off, 3)) (ht : (pc : Int) + off = (tgt : Int)) (kt : y < x → EV G l M d n0 l0 Q tgt L st S sz sl) (kf : ¬ y < x → EV G l M d n0 l0 Q (pc + 3) L st S sz sl) : EV G l M d n0 l0 Q pc L (.int y :: .int x :: st) S sz sl := by
  by_cases q : y < x
  · exact ev_go (kt q) fun _ _ _ _ _ _ _ _ _ _ _ _ _ _ _ hc _ _ hl kk => lv_icmp_gt hc.1 hc.2.1 hd ht (fun _ => kk _ hl) (fun z => by first | exact absurd q z | exact absurd z q)
  · exact ev_go (kf (by first | exact q | exact Classical.not_not.mp q)) fun _ _ _ _ _ _ _ _ _ _ _ _ _ _ _ hc _ _ hl kk => lv_icmp_gt hc.1 hc.2.1 hd ht (fun z => absurd z q) (fun _ => kk _ hl)
theorem ev_if_le {x : Int32} {off : Int} (tgt : Nat) (hd : decode M.2.1 pc = .ok (.ifCond .le off, 3)) (ht : (pc : Int) + off = (tgt : Int)) (kt : x ≤ 0 → EV G l M d n0 l0 Q tgt L st S sz sl) (kf : ¬ x ≤ 0 → EV G l M d n0 l0 Q (pc + 3) L st S sz sl) : EV G l M d n0 l0 Q pc L (.int x :: st) S sz sl := by
  by_cases q : x ≤ 0
  · exact ev_go (kt q) fun _ _ _ _ _ _ _ _ _ _ _ _ _ _ _ hc _ _ hl kk => lv_if_le hc.1 hc.2.1 hd ht (fun _ => kk _ hl) (fun z => by first | exact absurd q z | exact absurd z q)
  · exact ev_go (kf (by first | exact q | exact Classical.not_not.mp q)) fun _ _ _ _ _ _ _ _ _ _ _ _ _ _ _ hc _ _ hl kk => lv_if_le hc.1 hc.2.1 hd ht (fun z => absurd z q) (fun _ => kk _ hl)
theorem ev_icmp_le {x y : Int32} {off : Int} (tgt : Nat) (hd : decode M.2.1 pc = .ok (.if_icmp .le off, 3)) (ht : (pc : Int) + off = (tgt : Int)) (kt : x ≤ y → EV G l M d n0 l0 Q tgt L st S sz sl) (kf : ¬ x ≤ y → EV G l M d n0 l0 Q (pc + 3) L st S sz sl) : EV G l M d n0 l0 Q pc L (.int y :: .int x :: st) S sz sl := by
  by_cases q : x ≤ y
  · exact ev_go (kt q) fun _ _ _ _ _ _ _ _ _ _ _ _ _ _ _ hc _ _ hl kk => lv_icmp_le hc.1 hc.2.1 hd ht (fun _ => kk _ hl) (fun z => by first | exact absurd q z | exact absurd z q)
  · exact ev_go (kf (by first | exact q | exact Classical.not_not.mp q)) fun _ _ _ _ _ _ _ _ _ _ _ _ _ _ _ hc _ _ hl kk => lv_icmp_le hc.1 hc.2.1 hd ht (fun z => absurd z q) (fun _ => kk _ hl)
theorem ev_goto {off : Int} (tgt : Nat) (hd : decode M.2.1 pc = .ok (.goto off, 3)) (ht : (pc : Int) + off = (tgt : Int)) (h : EV G l M d n0 l0 Q tgt L st S sz sl) : EV G l M d n0 l0 Q pc L st S sz sl :=
  ev_go h fun _ _ _ _ _ _ _ _ _ _ _ _ _ _ _ hc _ _ hl kk => lv_goto hc.1 hc.2.1 hd ht (kk _ hl)
theorem ev_ifnull {x : Nat} {off : Int} (hd : decode M.2.1 pc = .ok (.ifnull off, 3)) (h : EV G l M d n0 l0 Q (pc + 3) L st S sz sl) : EV G l M d n0 l0 Q pc L (.ref x :: st) S sz sl :=
  ev_go h fun _ _ _ _ _ _ _ _ _ _ _ _ _ _ _ hc _ _ hl kk => lv_ifnull hc.1 hc.2.1 hd (kk _ hl)
theorem ev_ifnullN {off : Int} (tgt : Nat) (hd : decode M.2.1 pc = .ok (.ifnull off, 3)) (ht : (pc : Int) + off = (tgt : Int)) (h : EV G l M d n0 l0 Q tgt L st S sz sl) : EV G l M d n0 l0 Q pc L (.null :: st) S sz sl :=
  ev_go h fun _ _ _ _ _ _ _ _ _ _ _ _ _ _ _ hc _ _ hl kk => lv_ifnullN hc.1 hc.2.1 hd ht (kk _ hl)
theorem ev_ifnonnull {x : Nat} {off : Int} (tgt : Nat) (hd : decode M.2.1 pc = .ok (.ifnonnull off, 3)) (ht : (pc : Int) + off = (tgt : Int)) (h : EV G l M d n0 l0 Q tgt L st S sz sl) : EV G l M d n0 l0 Q pc L (.ref x :: st) S sz sl :=
  ev_go h fun _ _ _ _ _ _ _ _ _ _ _ _ _ _ _ hc _ _ hl kk => lv_ifnonnull hc.1 hc.2.1 hd ht (kk _ hl)
theorem ev_ifnonnullN {off : Int} (hd : decode M.2.1 pc = .ok (.ifnonnull off, 3)) (h : EV G l M d n0 l0 Q (pc + 3) L st S sz sl) : EV G l M d n0 l0 Q pc L (.null :: st) S sz sl :=
  ev_go h fun _ _ _ _ _ _ _ _ _ _ _ _ _ _ _ hc _ _ hl kk => lv_ifnonnullN hc.1 hc.2.1 hd (kk _ hl)
theorem ev_acmp_eq {rx ry : Option Nat} {off : Int} (tgt : Nat) (hd : decode M.2.1 pc = .ok (.if_acmp .eq off, 3)) (ht : (pc : Int) + off = (tgt : Int)) (kt : rx = ry → EV G l M d n0 l0 Q tgt L st S sz sl) (kf : ¬ rx = ry → EV G l M d n0 l0 Q (pc + 3) L st S sz sl) : EV G l M d n0 l0 Q pc L (va_rf ry :: va_rf rx :: st) S sz sl := by
  by_cases q : rx = ry
  · exact ev_go (kt q) fun _ _ _ _ _ _ _ _ _ _ _ _ _ _ _ hc _ _ hl kk => lv_acmp_eq hc.1 hc.2.1 hd ht (fun _ => kk _ hl) (fun z => absurd q z)
  · exact ev_go (kf q) fun _ _ _ _ _ _ _ _ _ _ _ _ _ _ _ hc _ _ hl kk => lv_acmp_eq hc.1 hc.2.1 hd ht (fun z => absurd z q) (fun _ => kk _ hl)
theorem ev_acmp_ne {rx ry : Option Nat} {off : Int} (tgt : Nat) (hd : decode M.2.1 pc = .ok (.if_acmp .ne off, 3)) (ht : (pc : Int) + off = (tgt : Int)) (kt : ¬ rx = ry → EV G l M d n0 l0 Q tgt L st S sz sl) (kf : rx = ry → EV G l M d n0 l0 Q (pc + 3) L st S sz sl) : EV G l M d n0 l0 Q pc L (va_rf ry :: va_rf rx :: st) S sz sl := by
  by_cases q : rx = ry
  · exact ev_go (kf q) fun _ _ _ _ _ _ _ _ _ _ _ _ _ _ _ hc _ _ hl kk => lv_acmp_ne hc.1 hc.2.1 hd ht (fun z => absurd q z) (fun _ => kk _ hl)
  · exact ev_go (kt q) fun _ _ _ _ _ _ _ _ _ _ _ _ _ _ _ hc _ _ hl kk => lv_acmp_ne hc.1 hc.2.1 hd ht (fun _ => kk _ hl) (fun z => absurd z q)
theorem ev_lookup {dflt : Int} {ps : Array (Int × Int)} {len : Nat} {x : Int32} {off : Int} (tgt : Nat) (hd : decode M.2.1 pc = .ok (.lookupswitch dflt ps, len)) (hp : (ps.toList.zip (ps.toList.drop 1)).all (fun (a, next) => a.1 < next.1) = true) (ho : Op.lookupswitch.offset ps.toList dflt x.toInt = off) (ht : (pc : Int) + off = (tgt : Int)) (h : EV G l M d n0 l0 Q tgt L st S sz sl) : EV G l M d n0 l0 Q pc L (.int x :: st) S sz sl :=
  ev_go h fun _ _ _ _ _ _ _ _ _ _ _ _ _ _ _ hc _ _ hl kk => lv_lookup hc.1 hc.2.1 hd hp ho ht (kk _ hl)
theorem ev_tableOut {dflt lo hi : Int} {offs : Array Int} {len : Nat} {x : Int32} (tgt : Nat) (hd : decode M.2.1 pc = .ok (.tableswitch dflt lo hi offs, len)) (hx : x.toInt < lo ∨ hi < x.toInt) (ht : (pc : Int) + dflt = (tgt : Int)) (h : EV G l M d n0 l0 Q tgt L st S sz sl) : EV G l M d n0 l0 Q pc L (.int x :: st) S sz sl :=
  ev_go h fun _ _ _ _ _ _ _ _ _ _ _ _ _ _ _ hc _ _ hl kk => lv_tableOut hc.1 hc.2.1 hd hx ht (kk _ hl)
theorem ev_tableIn {dflt lo hi : Int} {offs : Array Int} {len : Nat} {x : Int32} {off : Int} (tgt : Nat) (hd : decode M.2.1 pc = .ok (.tableswitch dflt lo hi offs, len)) (h1 : ¬ x.toInt < lo) (h2 : ¬ hi < x.toInt) (ho : offs[(x.toInt - lo).toNat]? = some off) (ht : (pc : Int) + off = (tgt : Int)) (h : EV G l M d n0 l0 Q tgt L st S sz sl) : EV G l M d n0 l0 Q pc L (.int x :: st) S sz sl :=
  ev_go h fun _ _ _ _ _ _ _ _ _ _ _ _ _ _ _ hc _ _ hl kk => lv_tableIn hc.1 hc.2.1 hd h1 h2 ho ht (kk _ hl)
theorem ev_ldc {index : Nat} {v : Int32} (hw : Cond.constant M.1.cls index v ∈ m_big) (hd : decode M.2.1 pc = .ok (.ldc index, 2)) (h : EV G l M d n0 l0 Q (pc + 2) L (.int v :: st) S sz sl) : EV G l M d n0 l0 Q pc L st S sz sl :=
  ev_go h fun _ _ _ _ _ _ _ _ _ _ _ _ _ _ _ hc _ _ hl kk => lv_ldc hc.1 hc.2.1 hc.2.2.2.2.1 (hc.2.2.2.2.2.1 _ hw) hd (kk _ hl)
theorem ev_ldcw {index : Nat} {v : Int32} (hw : Cond.constant M.1.cls index v ∈ m_big) (hd : decode M.2.1 pc = .ok (.ldc_w index, 3)) (h : EV G l M d n0 l0 Q (pc + 3) L (.int v :: st) S sz sl) : EV G l M d n0 l0 Q pc L st S sz sl :=
  ev_go h fun _ _ _ _ _ _ _ _ _ _ _ _ _ _ _ hc _ _ hl kk => lv_ldcw hc.1 hc.2.1 hc.2.2.2.2.1 (hc.2.2.2.2.2.1 _ hw) hd (kk _ hl)
theorem ev_ldc2 {index : Nat} {v : Int64} (hw : Cond.constantLong M.1.cls index v ∈ m_big) (hd : decode M.2.1 pc = .ok (.ldc2_w index, 3)) (h : EV G l M d n0 l0 Q (pc + 3) L (.long v :: st) S sz sl) : EV G l M d n0 l0 Q pc L st S sz sl :=
  ev_go h fun _ _ _ _ _ _ _ _ _ _ _ _ _ _ _ hc _ _ hl kk => lv_ldc2 hc.1 hc.2.1 hc.2.2.2.2.1 (hc.2.2.2.2.2.1 _ hw) hd (kk _ hl)
theorem ev_ldc2d {index : Nat} {v : UInt64} (hw : Cond.constantDouble M.1.cls index v ∈ m_big) (hd : decode M.2.1 pc = .ok (.ldc2_w index, 3)) (h : EV G l M d n0 l0 Q (pc + 3) L (.double v :: st) S sz sl) : EV G l M d n0 l0 Q pc L st S sz sl :=
  ev_go h fun _ _ _ _ _ _ _ _ _ _ _ _ _ _ _ hc _ _ hl kk => lv_ldc2d hc.1 hc.2.1 hc.2.2.2.2.1 (hc.2.2.2.2.2.1 _ hw) hd (kk _ hl)
theorem ev_ldcS {index i : Nat} {tx : String} (hi : mStr[i]? = some (M.1.cls, index, tx)) (hd : decode M.2.1 pc = .ok (.ldc index, 2)) (h : EV G l M d n0 l0 Q (pc + 2) L (.ref (g_s G i) :: st) S sz sl) : EV G l M d n0 l0 Q pc L st S sz sl :=
  ev_go h fun _ _ _ _ _ _ _ _ _ _ _ _ _ _ _ hc _ _ hl kk => va_ldcS hc.1 hc.2.1 hc.2.2.2.2.1 (hc.2.2.2.2.2.2.2.1.2.2.1 i _ hi) hd (kk _ hl)
theorem ev_gets {index i : Nat} {C n ds : String} (hi : mSt[i]? = some (C, n, ds)) (hw : Cond.fieldLink M.1.cls index C n ds ∈ m_big) (hd : decode M.2.1 pc = .ok (.getstatic index, 3)) (h : EV G l M d n0 l0 Q (pc + 3) L (g_v G i :: st) S sz sl) : EV G l M d n0 l0 Q pc L st S sz sl :=
  ev_go h fun _ _ _ _ _ _ _ _ _ _ _ _ _ _ _ hc _ hS hl kk => by
    obtain ⟨hx, hb, -, -, hown, hts, -, hF, -, -, -, hpre, hsz, hbn⟩ := hc
    refine va_gets hx hb ((hF.2.2.2.1 i _ hi).kept fun a h1 h2 => ?_) hS hown (hts _ hw) (fun _ z => z) hd (kk _ hl)
    exact hpre a (by have := hF.1; omega)
end Rules
