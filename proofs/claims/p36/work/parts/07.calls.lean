/-! CALLS AND THROWS. vx_throwS, vx_throwSW of the pasted text once more, with the heap's size told exactly. -/
section MT
variable {p : Program} {l : Launch} {e : Env} {R : Room} {s : State} {m : MethodId} {args : Array Value} {below : List Frame} {meth : Method} {c : Code} {H : Heap} {locs : List Loc} {cells slots : Nat} {Q : State → Prop}
variable {mc ms : Nat} {free : Addr → Prop} {A0 A1 : Nat → Prop} {H0 : Heap} {a : Array Value} {ls : Array Slot} {st0 rest : List Value}
variable {Qc : Array Value → State → Outcome → State → Prop} {XC : String → State → State → Prop}
theorem m_throwS {cc : ByteArray} {pc : Nat} (hexec : p.tables.exec = Jvm.exec) (hb : c.code = cc) (hl : l.stackTraces = false) {own cls text : String} {names : List String} {ik is ic mc ms sa : Nat} {A : Nat → Prop}
    (hown : s.vm.findClass own = some m.cls) (hcls : Bundle.fit cls = true) (hnames : ∀ n ∈ names, Bundle.fit n = true)
    (hk : (Cond.classLink own ik cls).before args s = true) (hini : (Cond.initialized cls).before args s = true) (hstr : vk_R own is text sa s) (hat : ∀ w ∈ vx_atS own ic cls names, w.before args s = true)
    (hgood : ∀ w ∈ Cond.classLink own ik cls :: Cond.initialized cls :: vx_atS own ic cls names, vx_ot w = true)
    (hU : vx_Zq Bundle.tN "UNASSIGNED_STACK" Bundle.steD A s s.heap) (hN : vx_Zq Bundle.tN "SUPPRESSED_SENTINEL" Bundle.listD A s s.heap) (hS : va_S A s.heap H locs) (hsize : ls.size = c.maxLocals)
    (d0 : decode cc pc = .ok (.new ik, 3)) (d3 : decode cc (pc + 3) = .ok (.dup, 1)) (d4 : decode cc (pc + 4) = .ok (.ldc is, 2)) (d6 : decode cc (pc + 6) = .ok (.invokespecial ic, 3)) (d9 : decode cc (pc + 9) = .ok (.athrow, 1))
    (hout : ∀ x ∈ c.exceptionTable.toList, covers x (pc + 9) = false)
    (hRframes : names.length + 3 < R.frames) (hRlocals : (rest.map fun v => v.category).sum + (13 * (names.length + 1) + 43) ≤ R.locals) (hRcells : cells + 1 ≤ R.cells) (hRslots : slots + 6 ≤ R.slots) (hlocks : meth.locks = false)
    (hx : ∀ t : State, s.vm.Alike t.vm → t.heap.size = H.size + 1 → (∀ q : Nat, q < H.size → t.heap[q]? = H[q]?) → XC cls s t)
    (hf : ∀ z ∈ locs, free z.base) (hc : cells + 1 ≤ mc) (hs : slots + 6 ≤ ms) :
    W p l e R s m args below meth c H locs cells slots (vx_MQ below Qc XC args s mc ms free) (F0 m pc ls rest) := by
  intro T hT X
  have htr : e.platform.stackTraces = false := (show e.platform.stackTraces = l.stackTraces by rw [X.admits.platform]).trans hl
  have Y := vx_rebase X (R' := { frames := R.frames, locals := R.locals, cells := 1, slots := 6 }) (Nat.le_refl _) (Nat.le_refl _) hRcells hRslots
  obtain ⟨s', hA⟩ : ∃ z, z = (T.setVm s.vm).setFrames (.invoking m args :: below) := ⟨_, rfl⟩
  rw [← hA] at Y
  have hvm : s'.vm = s.vm := by rw [hA]; rfl
  have hhp : s'.heap = H := by rw [hA]; exact hT
  have hW0 : s.WarmedH s'.vm := by rw [hvm]; exact State.WarmedH.refl s
  have hat' : ∀ w ∈ vx_atS own ic cls names, w.before args s' = true := fun w hw => vx_ot_at hW0 hvm.symm (hgood w (List.mem_cons_of_mem _ (List.mem_cons_of_mem _ hw))) (hat w hw)
  have hk' : (Cond.classLink own ik cls).before args s' = true := vx_ot_at hW0 hvm.symm (hgood _ List.mem_cons_self) hk
  have hini' : (Cond.initialized cls).before args s' = true := vx_ot_at hW0 hvm.symm (hgood _ (List.mem_cons_of_mem _ List.mem_cons_self)) hini
  have hU' : vx_Zq Bundle.tN "UNASSIGNED_STACK" Bundle.steD A s' s'.heap := by rw [hhp]; exact vx_Zq.moved hW0.alike (hU.kept hS.2.1)
  have hN' : vx_Zq Bundle.tN "SUPPRESSED_SENTINEL" Bundle.listD A s' s'.heap := by rw [hhp]; exact vx_Zq.moved hW0.alike (hN.kept hS.2.1)
  have h : ∀ w ∈ Bundle.ownAtoms own ic cls names, w.before args s' = true := vx_own hat' (vx_isRefq hU'.1) (vx_isRefq hN'.1) hU'.2.word hN'.2.word
  have hown' : s'.vm.findClass own = some m.cls := by rw [hvm]; exact hown
  have hins : (Cond.instantiable cls 6).before args s' = true := h _ (by simp [Bundle.ownAtoms])
  obtain ⟨vm₁, cX, kX, hfX, hkX, -, -, X₁, st1⟩ := Y.newCold hexec (own := own) (C := cls) (index := ik) (n := 6) hown' hk' hins hini'
    (g := F0 m pc ls rest) rfl (by rw [hb]; exact d0) (Nat.le_refl _) (Nat.le_refl _)
  generalize hT1 : (T.setVm vm₁).pushCell { cls := cX, slots := kX.instanceTypes.map defaultValue, vm := .none } = T1 at X₁ st1
  have hcat : (Value.ref T.heap.size).category = 1 := rfl
  have hcellA : T1.heap[T.heap.size]? = some (freshCell cX kX) := by rw [← hT1]; exact State.heap_pushCell_size _ _
  have d3' : decode c.code (pc + 3) = .ok (.dup, 1) := by rw [hb]; exact d3
  have d4' : decode c.code (pc + 4) = .ok (.ldc is, 2) := by rw [hb]; exact d4
  have hstr' : vk_R own is text sa s' := vk_R.warm hW0 hstr
  obtain ⟨U, hsteps, hrun, hend, hW, hsame, ce, hce, hO⟩ := X₁.ctorThrowS hexec htr (own := own) (cls := cls) (names := names) (ic := ic) hown' hcls hnames h (fun x hx => nomatch hx) hfX hkX hcellA (by rw [hhp, hT]; exact Nat.le_refl _) (msg := .ref sa) rfl
    (g := { method := m, pc := pc + 6, locals := ls, stack := .ref sa :: .ref T.heap.size :: .ref T.heap.size :: rest, locked := none }) rfl hsize rfl rfl (rest := rest) rfl
    (by rw [hb]; exact d6) (by rw [hb]; exact d9) hout hRframes (by simp only [List.map_cons, List.sum_cons, hcat]; omega) hlocks
  obtain ⟨f1, f2⟩ := vx_frame hsame
  rw [hhp] at f1 f2
  have f9 : U.heap.size = H.size + 1 := by
    have u1 : T.heap.size < U.heap.size := (Array.getElem?_eq_some_iff.mp hce).1
    have u2 : U.heap.size ≤ s'.heap.size + (0 + 1) := hsame.2.2.1
    rw [hhp] at u2
    rw [hT] at u1
    omega
  have hWs : s.WarmedH U.vm := State.WarmedH.trans hW0 hW
  have hcl : s.vm.findClass cls = some ce.cls := by
    have h9 := hO.cls
    rw [hvm] at h9
    exact h9
  have hall : s.sameButNew ({ U with vm := s.vm } : State) locs mc ms := by
    subst hA
    obtain ⟨e1, e2⟩ := hsame
    rw [State.setFrames_setFrames] at e1
    have h2 : (T.setVm s.vm).sameButNew ({ U with vm := s.vm } : State) [] (0 + 1) (0 + 6) := ⟨e1, e2⟩
    have h3 := X.same.trans h2
    rw [List.append_nil] at h3
    exact h3.mono hc hs
  refine ⟨U, ?_, .threw T.heap.size, hrun, hend, Or.inr ⟨T.heap.size, rfl, cls, ce, locs, hx U hWs.alike f9 (fun q hq => f2 q hq (fun z hz => nomatch hz)), hce, hO.vm, hcl, hWs, hall, hf⟩⟩
  refine st1 _ ?_
  show Steps p.tables e below (T1.setTop { method := m, pc := pc + 3, locals := ls, stack := .ref T.heap.size :: rest, locked := none }) _
  jvm_step X₁.here [X₁.here.top, hexec, d3', Value.category]
  exact X₁.ldcString hexec (own := own) (text := text) (index := is) (a := sa) hown' hstr'.1 hstr'.2
    (g := { method := m, pc := pc + 4, locals := ls, stack := .ref T.heap.size :: .ref T.heap.size :: rest, locked := none }) rfl d4' _ hsteps
theorem m_throwSW {cc : ByteArray} {pc : Nat} (hexec : p.tables.exec = Jvm.exec) (hb : c.code = cc) (hl : l.stackTraces = false) {own cls text : String} {names : List String} {ik is ic mc ms sa : Nat} {A : Nat → Prop}
    (hown : s.vm.findClass own = some m.cls) (hcls : Bundle.fit cls = true) (hnames : ∀ n ∈ names, Bundle.fit n = true)
    (hk : (Cond.classLink own ik cls).before args s = true) (hini : (Cond.initialized cls).before args s = true) (hstr : vk_R own is text sa s) (hat : ∀ w ∈ vx_atS own ic cls names, w.before args s = true)
    (hgood : ∀ w ∈ Cond.classLink own ik cls :: Cond.initialized cls :: vx_atS own ic cls names, vx_ot w = true)
    (hU : vx_Zq Bundle.tN "UNASSIGNED_STACK" Bundle.steD A s s.heap) (hN : vx_Zq Bundle.tN "SUPPRESSED_SENTINEL" Bundle.listD A s s.heap) (hS : va_S A s.heap H locs) (hsize : ls.size = c.maxLocals)
    (d0 : decode cc pc = .ok (.new ik, 3)) (d3 : decode cc (pc + 3) = .ok (.dup, 1)) (d4 : decode cc (pc + 4) = .ok (.ldc_w is, 3)) (d7 : decode cc (pc + 7) = .ok (.invokespecial ic, 3)) (d10 : decode cc (pc + 10) = .ok (.athrow, 1))
    (hout : ∀ x ∈ c.exceptionTable.toList, covers x (pc + 10) = false)
    (hRframes : names.length + 3 < R.frames) (hRlocals : (rest.map fun v => v.category).sum + (13 * (names.length + 1) + 43) ≤ R.locals) (hRcells : cells + 1 ≤ R.cells) (hRslots : slots + 6 ≤ R.slots) (hlocks : meth.locks = false)
    (hx : ∀ t : State, s.vm.Alike t.vm → t.heap.size = H.size + 1 → (∀ q : Nat, q < H.size → t.heap[q]? = H[q]?) → XC cls s t)
    (hf : ∀ z ∈ locs, free z.base) (hc : cells + 1 ≤ mc) (hs : slots + 6 ≤ ms) :
    W p l e R s m args below meth c H locs cells slots (vx_MQ below Qc XC args s mc ms free) (F0 m pc ls rest) := by
  intro T hT X
  have htr : e.platform.stackTraces = false := (show e.platform.stackTraces = l.stackTraces by rw [X.admits.platform]).trans hl
  have Y := vx_rebase X (R' := { frames := R.frames, locals := R.locals, cells := 1, slots := 6 }) (Nat.le_refl _) (Nat.le_refl _) hRcells hRslots
  obtain ⟨s', hA⟩ : ∃ z, z = (T.setVm s.vm).setFrames (.invoking m args :: below) := ⟨_, rfl⟩
  rw [← hA] at Y
  have hvm : s'.vm = s.vm := by rw [hA]; rfl
  have hhp : s'.heap = H := by rw [hA]; exact hT
  have hW0 : s.WarmedH s'.vm := by rw [hvm]; exact State.WarmedH.refl s
  have hat' : ∀ w ∈ vx_atS own ic cls names, w.before args s' = true := fun w hw => vx_ot_at hW0 hvm.symm (hgood w (List.mem_cons_of_mem _ (List.mem_cons_of_mem _ hw))) (hat w hw)
  have hk' : (Cond.classLink own ik cls).before args s' = true := vx_ot_at hW0 hvm.symm (hgood _ List.mem_cons_self) hk
  have hini' : (Cond.initialized cls).before args s' = true := vx_ot_at hW0 hvm.symm (hgood _ (List.mem_cons_of_mem _ List.mem_cons_self)) hini
  have hU' : vx_Zq Bundle.tN "UNASSIGNED_STACK" Bundle.steD A s' s'.heap := by rw [hhp]; exact vx_Zq.moved hW0.alike (hU.kept hS.2.1)
  have hN' : vx_Zq Bundle.tN "SUPPRESSED_SENTINEL" Bundle.listD A s' s'.heap := by rw [hhp]; exact vx_Zq.moved hW0.alike (hN.kept hS.2.1)
  have h : ∀ w ∈ Bundle.ownAtoms own ic cls names, w.before args s' = true := vx_own hat' (vx_isRefq hU'.1) (vx_isRefq hN'.1) hU'.2.word hN'.2.word
  have hown' : s'.vm.findClass own = some m.cls := by rw [hvm]; exact hown
  have hins : (Cond.instantiable cls 6).before args s' = true := h _ (by simp [Bundle.ownAtoms])
  obtain ⟨vm₁, cX, kX, hfX, hkX, -, -, X₁, st1⟩ := Y.newCold hexec (own := own) (C := cls) (index := ik) (n := 6) hown' hk' hins hini'
    (g := F0 m pc ls rest) rfl (by rw [hb]; exact d0) (Nat.le_refl _) (Nat.le_refl _)
  generalize hT1 : (T.setVm vm₁).pushCell { cls := cX, slots := kX.instanceTypes.map defaultValue, vm := .none } = T1 at X₁ st1
  have hcat : (Value.ref T.heap.size).category = 1 := rfl
  have hcellA : T1.heap[T.heap.size]? = some (freshCell cX kX) := by rw [← hT1]; exact State.heap_pushCell_size _ _
  have d3' : decode c.code (pc + 3) = .ok (.dup, 1) := by rw [hb]; exact d3
  have d4' : decode c.code (pc + 4) = .ok (.ldc_w is, 3) := by rw [hb]; exact d4
  have hstr' : vk_R own is text sa s' := vk_R.warm hW0 hstr
  obtain ⟨U, hsteps, hrun, hend, hW, hsame, ce, hce, hO⟩ := X₁.ctorThrowS hexec htr (own := own) (cls := cls) (names := names) (ic := ic) hown' hcls hnames h (fun x hx => nomatch hx) hfX hkX hcellA (by rw [hhp, hT]; exact Nat.le_refl _) (msg := .ref sa) rfl
    (g := { method := m, pc := pc + 7, locals := ls, stack := .ref sa :: .ref T.heap.size :: .ref T.heap.size :: rest, locked := none }) rfl hsize rfl rfl (rest := rest) rfl
    (by rw [hb]; exact d7) (by rw [hb]; exact d10) hout hRframes (by simp only [List.map_cons, List.sum_cons, hcat]; omega) hlocks
  obtain ⟨f1, f2⟩ := vx_frame hsame
  rw [hhp] at f1 f2
  have f9 : U.heap.size = H.size + 1 := by
    have u1 : T.heap.size < U.heap.size := (Array.getElem?_eq_some_iff.mp hce).1
    have u2 : U.heap.size ≤ s'.heap.size + (0 + 1) := hsame.2.2.1
    rw [hhp] at u2
    rw [hT] at u1
    omega
  have hWs : s.WarmedH U.vm := State.WarmedH.trans hW0 hW
  have hcl : s.vm.findClass cls = some ce.cls := by
    have h9 := hO.cls
    rw [hvm] at h9
    exact h9
  have hall : s.sameButNew ({ U with vm := s.vm } : State) locs mc ms := by
    subst hA
    obtain ⟨e1, e2⟩ := hsame
    rw [State.setFrames_setFrames] at e1
    have h2 : (T.setVm s.vm).sameButNew ({ U with vm := s.vm } : State) [] (0 + 1) (0 + 6) := ⟨e1, e2⟩
    have h3 := X.same.trans h2
    rw [List.append_nil] at h3
    exact h3.mono hc hs
  refine ⟨U, ?_, .threw T.heap.size, hrun, hend, Or.inr ⟨T.heap.size, rfl, cls, ce, locs, hx U hWs.alike f9 (fun q hq => f2 q hq (fun z hz => nomatch hz)), hce, hO.vm, hcl, hWs, hall, hf⟩⟩
  refine st1 _ ?_
  show Steps p.tables e below (T1.setTop { method := m, pc := pc + 3, locals := ls, stack := .ref T.heap.size :: rest, locked := none }) _
  jvm_step X₁.here [X₁.here.top, hexec, d3', Value.category]
  exact X₁.ldcStringW hexec (own := own) (text := text) (index := is) (a := sa) hown' hstr'.1 hstr'.2
    (g := { method := m, pc := pc + 4, locals := ls, stack := .ref T.heap.size :: .ref T.heap.size :: rest, locked := none }) rfl d4' _ hsteps
end MT
section Rules3
variable {G : Gh} {l : Launch} {M : MI} {d n0 l0 : Nat} {Q : Out → Sto → Nat → Nat → Prop} {pc : Nat} {L : List (Nat × Value)} {st : List Value} {S : Sto} {sz sl : Nat}
/-- a throw in flight over this frame -/
def EX (G : Gh) (l : Launch) (M : MI) (d n0 l0 : Nat) (Q : Out → Sto → Nat → Nat → Prop) (pc : Nat) (L : List (Nat × Value)) (st : List Value) (E : String) (S : Sto) (sz sl : Nat) : Prop :=
  ∃ o S1 sz1 sl1, Q o S1 sz1 sl1 ∧ sz ≤ sz1 ∧ sl ≤ sl1 ∧ ∀ (p : Program) (e : Env) (s : State) (m : MethodId) (args : Array Value) (below : List Frame) (meth : Method) (c : Code) (H : Heap) (locs : List Loc) (ls : Array Slot) (q : Addr) (ce : Cell),
    n0 ≤ sz → l0 ≤ sl → m_CX G l M n0 p s m args meth c → m_R G S sz H → va_S (g_own G) s.heap H locs → lv_has ls M.2.2.1 L → H[q]? = some ce → ce.vm = .none → s.vm.findClass E = some ce.cls →
    vx_W p l e (m_rm d (sz1 - n0) (sl1 - l0)) s m args below meth c H locs (sz - n0) (sl - l0) (m_end G below o S1 sz1 args s (sz1 - n0) (sl1 - l0)) (F0 m pc ls st) q
/-- not caught here -/
theorem ex_out {E : String} (hh : M.2.2.2.2 = []) (h : Q (.inr E) S sz sl) : EX G l M d n0 l0 Q pc L st E S sz sl :=
  ⟨_, S, sz, sl, h, Nat.le_refl _, Nat.le_refl _, fun _ _ _ _ _ _ _ _ _ _ _ _ _ _ _ hc hR hS _ hq hv hcl => vx_out (fun x hx => by
    obtain ⟨-, -, -, -, -, -, -, -, -, ht, -⟩ := hc
    rw [ht, hh] at hx
    cases hx) hc.2.2.2.2.2.2.1 hq hv hcl (fun t ht _ => ⟨rfl, by rw [ht]; exact hR, hS.F ht⟩) hS.2.2 (Nat.le_refl _) (Nat.le_refl _)⟩
/-- throw new E("text") -/
theorem ev_throw {cls text : String} {names : List String} {ik is ic i : Nat} (hh : M.2.2.2.2 = []) (hcls : Bundle.fit cls = true) (hnames : ∀ n ∈ names, Bundle.fit n = true) (hk : Cond.classLink M.1.cls ik cls ∈ m_big) (hini : Cond.initialized cls ∈ m_big) (hstr : mStr[i]? = some (M.1.cls, is, text)) (hat : ∀ w ∈ vx_atS M.1.cls ic cls names, w ∈ lw_tbl)
    (hgood : ∀ w ∈ Cond.classLink M.1.cls ik cls :: Cond.initialized cls :: vx_atS M.1.cls ic cls names, vx_ot w = true) (hgw : ∀ w ∈ vx_atS M.1.cls ic cls names, goodWord w = true)
    (hdp : names.length + 3 < d) (hlc : (st.map fun v => v.category).sum + (13 * (names.length + 1) + 43) ≤ 64 * d)
    (d0 : decode M.2.1 pc = .ok (.new ik, 3)) (d3 : decode M.2.1 (pc + 3) = .ok (.dup, 1)) (d4 : decode M.2.1 (pc + 4) = .ok (.ldc is, 2)) (d6 : decode M.2.1 (pc + 6) = .ok (.invokespecial ic, 3)) (d9 : decode M.2.1 (pc + 9) = .ok (.athrow, 1))
    (h : Q (.inr cls) S (sz + 1) (sl + 6)) : EV G l M d n0 l0 Q pc L st S sz sl :=
  ⟨_, S, sz + 1, sl + 6, h, by omega, by omega, fun _ _ _ _ _ _ _ _ _ _ _ g1 g2 hc hR hS hl => by
    obtain ⟨hx, hb, hr, hml, hown, hts, hlocks, hF, hname, htab, hst, hpre, hn, hbn⟩ := hc
    have hk0 : ∀ a : Nat, a < (g_H G).size → ¬ g_own G a → _ = (g_H G)[a]? := fun a h1 h2 => hpre a (by have := hF.1; omega)
    exact m_throwS hx hb hst hown hcls hnames (hts _ hk) (hts _ hini) (hF.2.2.1 i _ hstr) (fun w hw => hts w (List.mem_filter.mpr ⟨hat w hw, hgw w hw⟩)) hgood (hF.2.2.2.2.1.kept hk0) (hF.2.2.2.2.2.kept hk0) hS (by rw [hl.1, hml]) d0 d3 d4 d6 d9
      (fun x hx => by rw [htab, hh] at hx; cases hx) hdp hlc (by show _ ≤ sz + 1 - n0; omega) (by show _ ≤ sl + 6 - l0; omega) hlocks
      (fun t _ hz ho => ⟨rfl, hR.grown (by rw [hz, hR.1]) (fun q hq => ho q (by rw [hR.1]; exact hq)), by
        refine ⟨Nat.le_trans hS.1 (by omega), fun q h1 h2 => ?_⟩
        have := hS.1
        rw [ho q (by omega)]; exact hS.2.1 q h1 h2⟩) hS.2.2 (by omega) (by omega)⟩
/-- a body's walk gives the method's contract -/
theorem rn_body {args : List Value} (hh : M.2.2.2.2 = []) (hy : plainName M.1.cls = true) (hn : (lg_sl args).length ≤ M.2.2.1) (h : EV G l M d sz sl Q 0 (lv_args 0 args) [] S sz sl) : Rn G l M d args S sz sl Q := by
  obtain ⟨o, S1, sz1, sl1, hQ, h1, h2, hw⟩ := h
  refine ⟨o, S1, sz1, sl1, hQ, h1, h2, fun hst => ?_⟩
  refine vx_ofW (cc := M.2.1) (maxL := M.2.2.1) (ret := M.2.2.2.1) hy (by rw [m_code, if_pos hh]) ?_
  intro p e s m args' below meth c s₁ B hml ht hv
  obtain ⟨rfl, hR, hF, hpre, hbz⟩ := hv
  rw [lg_entry_eq]
  have htab : c.exceptionTable.toList = [] := List.eq_nil_iff_forall_not_mem.mpr fun x hx => ht x hx
  have hl := lv_entry args hn
  have K := hw p e s m args.toArray below meth c s.heap [] _ (Nat.le_refl _) (Nat.le_refl _) ⟨B.exec, B.bytes, B.returns, hml, findClass_of_methodNamed B.named, fun w hw => atoms_spec (ws := m_code M :: m_big) B.pre w (List.mem_cons_of_mem _ hw), B.notSynchronized, hF, (name_of_methodNamed B.named B.method).1, by rw [htab, hh]; rfl, hst, hpre, hR.1, hbz⟩ hR va_S.rf hl
  rw [Nat.sub_self, Nat.sub_self] at K
  exact K
theorem m_blind {args : List Value} : FrameBlind (va_Pc args (m_In G S sz)) := fun _ U _ _ q => ⟨q.1, q.2.1, m_F.warm (s := U) (State.WarmedH.refl U) q.2.2.1, q.2.2.2⟩
theorem m_pay {M' : MI} {s : State} {args : Array Value} (hts : ∀ w ∈ m_big, w.before args s = true) (hcd : m_code M' ∈ m_big) : ∀ w ∈ m_code M' :: m_big, ∀ (a' : Array Value) (U : State), s.WarmedH U.vm → w.before a' U = true := by
  refine pay_in hts fun w hw => ?_
  rcases List.mem_cons.mp hw with rfl | hw
  · exact ⟨hcd, m_good _ hcd⟩
  · exact ⟨hw, m_good _ hw⟩
/-- behind a run of a callee: it goes on, or a throw is in flight -/
theorem m_after {M' : MI} {d' : Nat} {As : List Value} {Q' : Out → Sto → Nat → Nat → Prop} {len : Nat} (hlen : len = 3) (hcall : Rn G l M' d' As S sz sl Q') {st0 : List Value}
    (kk : ∀ v S' sz' sl', Q' (.inl v) S' sz' sl' → sz ≤ sz' → sl ≤ sl' → EV G l M d n0 l0 Q (pc + 3) L (v.toList ++ st) S' sz' sl')
    (kx : ∀ E S' sz' sl', Q' (.inr E) S' sz' sl' → sz ≤ sz' → sl ≤ sl' → EX G l M d n0 l0 Q pc L st E S' sz' sl')
    (run : ∀ (p : Program) (e : Env) (s : State) (m : MethodId) (args : Array Value) (below : List Frame) (meth : Method) (c : Code) (H : Heap) (locs : List Loc) (ls : Array Slot) (cells slots mc ms : Nat) (R : Room) (o : Out) (S1 : Sto) (sz1 : Nat),
      m_CX G l M n0 p s m args meth c → m_R G S sz H → lv_has ls M.2.2.1 L → vx_Met l M'.1 (m_code M' :: m_big) (m_rm d' mc ms) (va_Pc As (m_In G S sz)) (m_Qc G o S1 sz1) (m_XC G o S1 sz1) mc ms (g_own G) → R.frames = d → R.locals = 64 * d → cells + mc ≤ R.cells → slots + ms ≤ R.slots →
      (∀ U : State, U.heap = H → s.WarmedH U.vm → va_Pc As (m_In G S sz) As.toArray U) →
      vx_Run p l e R s m args below meth c H locs cells slots mc ms (F0 m pc ls st0) st (m_Qc G o S1 sz1 As.toArray) (m_XC G o S1 sz1) (g_own G)) :
    EV G l M d n0 l0 Q pc L st0 S sz sl := by
  obtain ⟨o', S', sz', sl', hQ', u1, u2, hM⟩ := hcall
  have hX : ∀ {p : Program} {s : State} {m : MethodId} {args : Array Value} {meth : Method} {c : Code} {H : Heap} {locs : List Loc}, m_CX G l M n0 p s m args meth c → m_R G S sz H → va_S (g_own G) s.heap H locs → ∀ U : State, U.heap = H → s.WarmedH U.vm → va_Pc As (m_In G S sz) As.toArray U := by
    intro p s m args meth c H locs hc hR hS U hU hW
    obtain ⟨-, -, -, -, -, -, -, hF, -, -, -, hpre, hn, hbn⟩ := hc
    have hF1 := hF.1
    refine ⟨rfl, by rw [hU]; exact hR, hF.warm hW, fun q hq => ?_, ?_⟩
    · rw [hU, hS.2.1 q (by omega) (by show ¬ g_b G ≤ q; omega)]; exact hpre q hq
    · have := hS.1
      have := hR.1
      omega
  have hstep : ∀ {st₀ t T' s : State} {H : Heap} {locs Lc : List Loc} (h0 : st₀.heap = H) (e1 : T'.heap = t.heap) (hS : va_S (g_own G) s.heap H locs) (hL : ∀ q ∈ Lc, g_own G q.base) (hFr : va_F (g_own G) st₀ t), va_S (g_own G) s.heap T'.heap (locs ++ Lc) :=
    fun h0 e1 hS hL hFr => (vx_keep h0 e1 hS (fun _ _ z => z) (fun _ z => z) hL hFr).2.2
  rcases o' with v | E
  · obtain ⟨o, S1, sz1, sl1, hQ, h1, h2, hw⟩ := kk v S' sz' sl' hQ' u1 u2
    refine ⟨o, S1, sz1, sl1, hQ, by omega, by omega, fun p e s m args below meth c H locs ls g1 g2 hc hR hS hl => ?_⟩
    intro T hT X
    rcases run p e s m args below meth c H locs ls (sz - n0) (sl - l0) (sz' - sz) (sl' - sl) (m_rm d (sz1 - n0) (sl1 - l0)) (.inl v) S' sz' hc hR hl (hM hc.2.2.2.2.2.2.2.2.2.2.1) rfl rfl (by show _ ≤ sz1 - n0; omega) (by show _ ≤ sl1 - l0; omega) (hX hc hR hS) T hT X with ⟨v', st₀, t, T', Lc, q0, X', hL, e1, e2, ⟨v'', j1, j2, j3, j4⟩, go⟩ | ⟨q, st₀, t, T', Lc, E, ce, q0, X', hL, e1, e2, ⟨j1, -⟩, -⟩
    · cases j1
      cases j2
      rw [show sz - n0 + (sz' - sz) = sz' - n0 by omega, show sl - l0 + (sl' - sl) = sl' - l0 by omega] at X'
      obtain ⟨t2, a1, b1⟩ := hw p e s m args below meth c T'.heap (locs ++ Lc) ls (by omega) (by omega) hc (by rw [e1]; exact j3) (hstep q0 e1 hS hL j4) hl T' rfl X'
      exact ⟨t2, go t2 a1, b1⟩
    · cases j1
  · obtain ⟨o, S1, sz1, sl1, hQ, h1, h2, hw⟩ := kx E S' sz' sl' hQ' u1 u2
    refine ⟨o, S1, sz1, sl1, hQ, by omega, by omega, fun p e s m args below meth c H locs ls g1 g2 hc hR hS hl => ?_⟩
    intro T hT X
    rcases run p e s m args below meth c H locs ls (sz - n0) (sl - l0) (sz' - sz) (sl' - sl) (m_rm d (sz1 - n0) (sl1 - l0)) (.inr E) S' sz' hc hR hl (hM hc.2.2.2.2.2.2.2.2.2.2.1) rfl rfl (by show _ ≤ sz1 - n0; omega) (by show _ ≤ sl1 - l0; omega) (hX hc hR hS) T hT X with ⟨v', st₀, t, T', Lc, q0, X', hL, e1, e2, ⟨v'', j1, j2, j3, j4⟩, go⟩ | ⟨q, st₀, t, T', Lc, E', ce, q0, X', hL, e1, e2, ⟨j1, j3, j4⟩, hce, hcv, hcl, go⟩
    · cases j1
    · cases j1
      rw [show sz - n0 + (sz' - sz) = sz' - n0 by omega, show sl - l0 + (sl' - sl) = sl' - l0 by omega] at X'
      obtain ⟨t2, a1, b1⟩ := hw p e s m args below meth c T'.heap (locs ++ Lc) ls q ce (by omega) (by omega) hc (by rw [e1]; exact j3) (hstep q0 e1 hS hL j4) hl (by rw [e1]; exact hce) hcv hcl T' rfl X'
      exact ⟨t2, go.trans a1, b1⟩
/-- what a call of M' asks of the tables, once a method -/
def m_cal (M' : MI) (n : Nat) : Prop := m_code M' ∈ m_big ∧ M'.2.2.2.2 = [] ∧ Cond.initialized M'.1.cls ∈ m_big ∧ (M'.1.cls ≠ "java/lang/invoke/MethodHandle" ∧ M'.1.cls ≠ "java/lang/invoke/VarHandle") ∧ (parseMethodDescriptor M'.1.desc).map (fun d => d.parameters.length) = some n ∧ M'.2.2.1 ≤ 45
theorem m_callB {M' : MI} {n d' mc ms index : Nat} {R : Room} {s : State} {args : Array Value} {own : String} (h : m_cal M' n) (hts : ∀ w ∈ m_big, w.before args s = true) (hR : R.frames = d' + 1) (hL : R.locals = 64 * (d' + 1)) (hl : Cond.methodLink own index M'.1 ∈ m_big) :
    CallB R s args own index M'.1 M'.2.1 M'.2.2.1 M'.2.2.2.1 (m_code M' :: m_big) (m_rm d' mc ms) mc ms n := by
  obtain ⟨h1, h2, h3, h4, h5, h6⟩ := h
  have hcd : m_code M' = Cond.code M'.1 M'.2.1 M'.2.2.1 M'.2.2.2.1 := by rw [m_code, if_pos h2]
  refine ⟨rfl, rfl, by rw [hR]; exact Nat.le_refl _, by rw [hL]; show 8 + (M'.2.2.1 + 11) + 64 * d' ≤ _; omega, m_pay hts h1, by rw [hcd]; exact List.mem_cons_self, by rw [← hcd]; exact hts _ h1, hts _ h3, h4, fun sig hs => ?_, hts _ hl⟩
  rw [hs] at h5
  exact (Option.some.inj h5).symm
theorem ev_callV {M' : MI} {d' index b kb : Nat} {r : vw_C} {As st0 : List Value} {Q' : Out → Sto → Nat → Nat → Prop} (hcall : Rn G l M' d' (.ref b :: As) S sz sl Q') (hd' : d = d' + 1) (hcal : m_cal M' As.length) (hk : S 0 b 0 = .ref kb) (hr : mCl[kb]? = some r)
    (w1 : Cond.methodLink M.1.cls index M'.1 ∈ m_big) (w2 : Cond.instanceMethod M'.1 ∈ m_big) (w3 : Cond.selects r.1 M'.1 M'.1 ∈ m_big) (hst : As.reverse ++ .ref b :: st = st0) (hcat : (st.map fun v => v.category).sum ≤ 8) (hd : decode M.2.1 pc = .ok (.invokevirtual index, 3))
    (kk : ∀ v S' sz' sl', Q' (.inl v) S' sz' sl' → sz ≤ sz' → sl ≤ sl' → EV G l M d n0 l0 Q (pc + 3) L (v.toList ++ st) S' sz' sl')
    (kx : ∀ E S' sz' sl', Q' (.inr E) S' sz' sl' → sz ≤ sz' → sl ≤ sl' → EX G l M d n0 l0 Q pc L st E S' sz' sl') : EV G l M d n0 l0 Q pc L st0 S sz sl :=
  m_after (len := 3) rfl hcall kk kx fun p e s m args below meth c H locs ls cells slots mc ms R o S1 sz1 hc hR hl hM hRf hRl hce hsl hpre =>
    vx_runV (As := As) (b := b) (C := r.1) ⟨hc.1, hc.2.1, hc.2.2.2.1, hc.2.2.2.2.1, hc.2.2.2.2.2.1⟩ hM ⟨m_callB hcal hc.2.2.2.2.2.1 (hRf.trans hd') (by rw [hRl, hd']) w1, hc.2.2.2.2.2.1 _ w2, hc.2.2.2.2.2.1 _ w3⟩ ⟨m_blind, m_recv hc.2.2.2.2.2.2.2.1 hR hk hr, hpre⟩ rfl rfl hl.1 hst.symm (by show 2 * 0 + _ ≤ 8; omega) hd ⟨hce, hsl⟩
theorem ev_callS {M' : MI} {d' index : Nat} {As st0 : List Value} {Q' : Out → Sto → Nat → Nat → Prop} (hcall : Rn G l M' d' As S sz sl Q') (hd' : d = d' + 1) (hcal : m_cal M' As.length)
    (w1 : Cond.methodLink M.1.cls index M'.1 ∈ m_big) (w2 : Cond.static M'.1 ∈ m_big) (hst : As.reverse ++ st = st0) (hcat : (st.map fun v => v.category).sum ≤ 8) (hd : decode M.2.1 pc = .ok (.invokestatic index, 3))
    (kk : ∀ v S' sz' sl', Q' (.inl v) S' sz' sl' → sz ≤ sz' → sl ≤ sl' → EV G l M d n0 l0 Q (pc + 3) L (v.toList ++ st) S' sz' sl')
    (kx : ∀ E S' sz' sl', Q' (.inr E) S' sz' sl' → sz ≤ sz' → sl ≤ sl' → EX G l M d n0 l0 Q pc L st E S' sz' sl') : EV G l M d n0 l0 Q pc L st0 S sz sl :=
  m_after (len := 3) rfl hcall kk kx fun p e s m args below meth c H locs ls cells slots mc ms R o S1 sz1 hc hR hl hM hRf hRl hce hsl hpre =>
    vx_runS (As := As) ⟨hc.1, hc.2.1, hc.2.2.2.1, hc.2.2.2.2.1, hc.2.2.2.2.2.1⟩ hM ⟨m_callB hcal hc.2.2.2.2.2.1 (hRf.trans hd') (by rw [hRl, hd']) w1, hc.2.2.2.2.2.1 _ w2⟩ ⟨m_blind, hpre⟩ rfl rfl hl.1 hst.symm (by show 2 * 0 + _ ≤ 8; omega) hd ⟨hce, hsl⟩
end Rules3
