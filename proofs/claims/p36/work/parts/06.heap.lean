/-! RULES of objects, arrays, calls and ends -/
def m_cOK (r : vw_C) : Prop := (∀ w ∈ u_ws r.1 r.2.1 r.2.2, w ∈ m_big) ∧ (∃ ty : Nat → FieldType, ∀ k, k < r.2.2 → parseFieldDescriptor (r.2.1 k).2.2.1 = some (ty k)) ∧ ∀ a, a < r.2.2 → ∀ b, b < r.2.2 → a ≠ b → (r.2.1 a).2.1 ≠ (r.2.1 b).2.1
def m_fs (S : Sto) (k a N : Nat) : List Value := (List.range N).map fun j => S (16 * (k + 1) + j) a 0
theorem m_fs_at {S : Sto} {k a N j : Nat} (h : j < N) : (m_fs S k a N)[j]? = some (S (16 * (k + 1) + j) a 0) := by simp [m_fs, h]
theorem m_single {G : Gh} {S : Sto} {sz a k : Nat} {H : Heap} {r : vw_C} (h : m_R G S sz H) (hk : S 0 a 0 = .ref k) (hr : mCl[k]? = some r) : va_P (g_C G, g_I G) mCl [(a, .inr (k, m_fs S k a r.2.2))] H := by
  intro i q hq
  have hi : i < 1 := (List.getElem?_eq_some_iff.mp hq).1
  rw [show i = 0 by omega] at hq
  cases hq
  obtain ⟨r', h1, h2⟩ := (h.2 a).1 k hk (by have := mCl_small hr; omega)
  cases Option.some.inj (hr.symm.trans h1)
  exact ⟨r, hr, h2.to fun j hj => by simp [vp_V, m_fs, List.getD, hj]⟩
theorem m_recv {G : Gh} {S : Sto} {sz a k : Nat} {H : Heap} {r : vw_C} {s : State} (hF : m_F G s) (h : m_R G S sz H) (hk : S 0 a 0 = .ref k) (hr : mCl[k]? = some r) : ∃ cell : Cell, H[a]? = some cell ∧ cell.vm.isStatics = false ∧ s.vm.findClass r.1 = some cell.cls := by
  obtain ⟨r', h1, cell, q1, q2, q3, -⟩ := (h.2 a).1 k hk (by have := mCl_small hr; omega)
  cases Option.some.inj (hr.symm.trans h1)
  exact ⟨cell, q1, by rw [q3]; rfl, by rw [q2]; exact (hF.2.1.1 k r hr).2.1⟩
section Rules2
variable {G : Gh} {l : Launch} {M : MI} {d n0 l0 : Nat} {Q : Out → Sto → Nat → Nat → Prop} {pc : Nat} {L : List (Nat × Value)} {st : List Value} {S : Sto} {sz sl : Nat}
/-- a field is read -/
theorem ev_get {a k j index : Nat} {r : vw_C} {v : Value} (hk : S 0 a 0 = .ref k) (hr : mCl[k]? = some r) (hok : m_cOK r) (hj : j < r.2.2) (hw : Cond.fieldLink M.1.cls index (r.2.1 j).1 (r.2.1 j).2.1 (r.2.1 j).2.2.1 ∈ m_big) (hv : S (16 * (k + 1) + j) a 0 = v) (hd : decode M.2.1 pc = .ok (.getfield index, 3))
    (h : EV G l M d n0 l0 Q (pc + 3) L (v :: st) S sz sl) : EV G l M d n0 l0 Q pc L (.ref a :: st) S sz sl :=
  ev_go h fun _ _ _ _ _ _ _ _ _ _ _ _ _ _ _ hc hR _ hl kk => by
    obtain ⟨hx, hb, -, -, hown, hts, -, hF, -⟩ := hc
    obtain ⟨C, T, N⟩ := r
    exact va_get (D := (g_C G, g_I G)) (cl := mCl) (tys := m_tys (g_A G)) hx hb hts hok.1 hown hF.2.1 (m_single hR hk hr) 0 rfl hr j hj (hts _ hw) (fun _ z => z) (by rw [m_fs_at hj, hv]) hd (kk _ hl)
/-- a field is written -/
theorem ev_put {a k j index : Nat} {r : vw_C} {v : Value} {ty : FieldType} (hk : S 0 a 0 = .ref k) (hr : mCl[k]? = some r) (hok : m_cOK r) (hj : j < r.2.2) (hw : Cond.fieldLink M.1.cls index (r.2.1 j).1 (r.2.1 j).2.1 (r.2.1 j).2.2.1 ∈ m_big) (hfin : (r.2.1 j).2.2.2 = false) (hty : parseFieldDescriptor (r.2.1 j).2.2.1 = some ty) (hn : narrow ty v = v) (hfit : fits ty v = true) (hg : g_b G ≤ a) (hd : decode M.2.1 pc = .ok (.putfield index, 3))
    (h : EV G l M d n0 l0 Q (pc + 3) L st (s_up S (16 * (k + 1) + j) a 0 v) sz sl) : EV G l M d n0 l0 Q pc L (v :: .ref a :: st) S sz sl :=
  ev_wr h fun _ _ _ _ _ _ _ _ _ _ _ _ _ _ _ hc hR hS hl kk => by
    obtain ⟨hx, hb, -, -, hown, hts, -, hF, -⟩ := hc
    obtain ⟨C, T, N⟩ := r
    obtain ⟨hin, ⟨ty0, hty0⟩, hnm⟩ := hok
    have hK := hF.2.1
    have hap := va_apart (own := C) hts hin ty0 hty0 hnm hK hr
    obtain ⟨r', h1, cell, q1, q2, q3, q4⟩ := (hR.2 a).1 k hk (by have := mCl_small hr; omega)
    cases Option.some.inj (hr.symm.trans h1)
    obtain ⟨hSl, hfc, kC, hkC, hkind⟩ := hK.1 k _ hr
    obtain ⟨cf, kf, fi, f, hi, hsl⟩ := hSl j hj
    have hlay := hts _ (hin _ (u_in_lay hj))
    unfold u_lay at hlay
    rw [if_neg (by rw [hfin]; decide)] at hlay
    have hst := (u_facts hfc hkC (u_lays hts hin hj) hi).1
    have h6 := u_store hfc hkC hkind hlay hi hty hn hfit
    refine W.putK hx hb (f := f) ⟨hown, hts _ hw, ⟨_, _, _, hi⟩, hst⟩ (by rw [q2]; exact h6) q1 q3 (by rw [hsl]; exact k2_hasslot (q4 j hj)) rfl rfl hd fun H' e1 e2 e3 => ?_
    rw [hsl] at e1 ⊢
    exact kk _ H' _ (hR.fput hk hr e2 e3 ⟨_, e1, q2, q3, t_set q4 hap hj v⟩) (hS.put e2 e3 hg) hl
/-- a final field is written, in its constructor -/
theorem ev_putF {a k j index : Nat} {r : vw_C} {v : Value} {ty : FieldType} (hk : S 0 a 0 = .ref k) (hr : mCl[k]? = some r) (hok : m_cOK r) (hj : j < r.2.2) (hw : Cond.fieldLink M.1.cls index (r.2.1 j).1 (r.2.1 j).2.1 (r.2.1 j).2.2.1 ∈ m_big) (hfin : (r.2.1 j).2.2.2 = true) (hin2 : M.1.name = "<init>") (hdecl : (r.2.1 j).1 = M.1.cls) (hty : parseFieldDescriptor (r.2.1 j).2.2.1 = some ty) (hn : narrow ty v = v) (hfit : fits ty v = true) (hg : g_b G ≤ a) (hd : decode M.2.1 pc = .ok (.putfield index, 3))
    (h : EV G l M d n0 l0 Q (pc + 3) L st (s_up S (16 * (k + 1) + j) a 0 v) sz sl) : EV G l M d n0 l0 Q pc L (v :: .ref a :: st) S sz sl :=
  ev_wr h fun _ _ _ _ m _ _ _ _ _ _ _ _ _ _ hc hR hS hl kk => by
    obtain ⟨hx, hb, -, -, hown, hts, -, hF, hname, -⟩ := hc
    obtain ⟨C, T, N⟩ := r
    obtain ⟨hin, ⟨ty0, hty0⟩, hnm⟩ := hok
    have hK := hF.2.1
    have hap := va_apart (own := C) hts hin ty0 hty0 hnm hK hr
    obtain ⟨r', h1, cell, q1, q2, q3, q4⟩ := (hR.2 a).1 k hk (by have := mCl_small hr; omega)
    cases Option.some.inj (hr.symm.trans h1)
    obtain ⟨hSl, hfc, kC, hkC, hkind⟩ := hK.1 k _ hr
    obtain ⟨cf, kf, fi, f, hi, hsl⟩ := hSl j hj
    have hlay := hts _ (hin _ (u_in_lay hj))
    unfold u_lay at hlay
    rw [if_pos hfin] at hlay
    have hst := (u_facts hfc hkC (u_lays hts hin hj) hi).1
    have hcf : m.cls = cf := by
      obtain ⟨_, _, c', _, _, _, -, -, hf', -, -, -, hown2, -⟩ := Cond.laysFinal_spec hlay
      have e1 : c' = cf := by have := hi.symm.trans hf'; simp at this; exact this.1.symm
      rw [hdecl] at hown2
      rw [← e1]; exact Option.some.inj (hown.symm.trans hown2)
    have h6 := u_fits hfc hkC hkind (Or.inr hlay) hi hty hn hfit
    refine W.putFinK hx hb hown (hts _ hw) hi hst hcf (hname.trans hin2) (by rw [q2]; exact h6) q1 q3 (by rw [hsl]; exact k2_hasslot (q4 j hj)) rfl rfl hd fun H' e1 e2 e3 => ?_
    rw [hsl] at e1 ⊢
    exact kk _ H' _ (hR.fput hk hr e2 e3 ⟨_, e1, q2, q3, t_set q4 hap hj v⟩) (hS.put e2 e3 hg) hl
/-- new C -/
theorem ev_new {k index : Nat} {r : vw_C} {df : Nat → Value} (hr : mCl[k]? = some r) (hok : m_cOK r) (hcl : Cond.classLink M.1.cls index r.1 ∈ m_big) (hins : Cond.instantiable r.1 r.2.2 ∈ m_big) (hini : Cond.initialized r.1 ∈ m_big)
    (hdf : ∀ j ty, j < r.2.2 → parseFieldDescriptor (r.2.1 j).2.2.1 = some ty → defaultValue ty = df j) (hd : decode M.2.1 pc = .ok (.new index, 3))
    (h : EV G l M d n0 l0 Q (pc + 3) L (.ref sz :: st) (s_new S sz k df) (sz + 1) (sl + r.2.2)) : EV G l M d n0 l0 Q pc L st S sz sl :=
  ev_mk h fun _ _ _ _ _ _ _ _ _ _ _ _ _ _ _ hc hR hS hl r1 r2 kk => by
    obtain ⟨hx, hb, -, -, hown, hts, -, hF, -⟩ := hc
    obtain ⟨C, T, N⟩ := r
    obtain ⟨hin, ⟨ty0, hty0⟩, hnm⟩ := hok
    have hKn := hF.2.1.1 k _ hr
    refine W.newcK hx hb hown (hts _ hcl) (hts _ hins) (hts _ hini) rfl hd r1 r2 hKn.2.1 hR.1 fun H1 kC hkC e1 z1 o1 => ?_
    exact kk _ H1 _ (hR.onew hr z1 o1 ((u_born ty0 hts hin hKn hkC e1 hty0).to fun j hj => hdf j _ hj (hty0 j hj))) ⟨Nat.le_trans hS.1 (by rw [hR.1, z1]; omega), fun x h1 h2 => (o1 x (Nat.lt_of_lt_of_le h1 (by rw [← hR.1]; exact hS.1))).trans (hS.2.1 x h1 h2), hS.2.2⟩ hl
/-- new int[n] and its like -/
theorem ev_newa {t N : Nat} {atype : ArrayType} {n : Int32} {ty : FieldType} (hty : newarray.typeOf atype = ty) (ht : mTy[t]? = some ty) (hobj : ∀ C, ty ≠ .object C) (hw : Cond.arrayClass ty ∈ m_big) (hn : ¬ n < 0) (hN : n.toNatClampNeg = N) (hbytes : N * componentBytes ty ≤ 536870912) (hd : decode M.2.1 pc = .ok (.newarray atype, 2))
    (h : EV G l M d n0 l0 Q (pc + 2) L (.ref sz :: st) (s_newa S sz t N (defaultValue ty)) (sz + 1) (sl + N)) : EV G l M d n0 l0 Q pc L (.int n :: st) S sz sl :=
  ev_mk h fun _ _ _ s _ _ _ _ _ _ _ _ _ _ _ hc hR hS hl r1 r2 kk => by
    obtain ⟨hx, hb, -, -, hown, hts, -, hF, -⟩ := hc
    subst hty
    refine va_newaK hx hb (hts _ hw) rfl hd rfl hn hN hbytes r1 r2 hR.1 fun H1 cA e1 z1 o1 _ hfc => ?_
    have hra := (hF.2.1.2 t _ (m_tys_at ht)).2
    have hA : cA = g_A G t := by
      have h2 : s.vm.findClass ("[" ++ (newarray.typeOf atype).toString) = some (g_A G t) := by
        unfold va_RA at hra
        split at hra
        · exact absurd (by assumption) (hobj _)
        · exact hra
      exact Option.some.inj (hfc.symm.trans h2)
    rw [hA] at e1
    exact kk _ H1 _ (hR.anew z1 o1 e1) ⟨Nat.le_trans hS.1 (by rw [hR.1, z1]; omega), fun x h1 h2 => (o1 x (Nat.lt_of_lt_of_le h1 (by rw [← hR.1]; exact hS.1))).trans (hS.2.1 x h1 h2), hS.2.2⟩ hl
/-- new C[n] -/
theorem ev_anew {t N index : Nat} {C : String} {n : Int32} (ht : mTy[t]? = some (.object C)) (hcl : Cond.classLink M.1.cls index C ∈ m_big) (hov : Cond.arrayOver (.object C) ∈ m_big) (hn : ¬ n < 0) (hN : n.toNatClampNeg = N) (hbytes : N * 4 ≤ 536870912) (hd : decode M.2.1 pc = .ok (.anewarray index, 3))
    (h : EV G l M d n0 l0 Q (pc + 3) L (.ref sz :: st) (s_newa S sz t N .null) (sz + 1) (sl + N)) : EV G l M d n0 l0 Q pc L (.int n :: st) S sz sl :=
  ev_mk h fun _ _ _ _ _ _ _ _ _ _ _ _ _ _ _ hc hR hS hl r1 r2 kk => by
    obtain ⟨hx, hb, -, -, hown, hts, -, hF, -⟩ := hc
    subst hN
    refine W.anew hx hb hown (hts _ hcl) (hts _ hov) rfl hd rfl hn hbytes r1 r2 fun cA kA comp hfc hkA hkk hcomp => ?_
    obtain ⟨kA', comp', j1, j2, j3, j4⟩ := (hF.2.1.2 t _ (m_tys_at ht)).2
    have hA : cA = g_A G t := Option.some.inj (hfc.symm.trans j4)
    subst hA
    have hz := hR.1
    rw [hz]
    refine kk _ _ _ (hR.anew (by rw [Array.size_push, hz]) (fun q hq => by rw [Array.getElem?_push_lt (by omega)]; simp [hz, hq]) (by rw [← hz, Array.getElem?_push_size, arrV_new])) ⟨Nat.le_trans hS.1 (by rw [Array.size_push]; omega), fun x h1 h2 => ?_, hS.2.2⟩ hl
    rw [← hS.2.1 x h1 h2]
    have := hS.1
    rw [Array.getElem?_push_lt (by omega)]
    simp [show x < _ from Nat.lt_of_lt_of_le h1 this]
/-- the length of an array -/
theorem ev_alen {a t n : Nat} {ty : FieldType} {v : Int32} (hk : S 0 a 0 = .ref (100 + t : Nat)) (ht : mTy[t]? = some ty) (hn : S 1 a 0 = .ref n) (hv : Int32.ofNat n = v) (hd : decode M.2.1 pc = .ok (.arraylength, 1)) (h : EV G l M d n0 l0 Q (pc + 1) L (.int v :: st) S sz sl) : EV G l M d n0 l0 Q pc L (.ref a :: st) S sz sl :=
  ev_go h fun _ _ _ _ _ _ _ _ _ _ _ _ _ _ _ hc hR _ hl kk => by
    obtain ⟨hx, hb, -, -, hown, hts, -, hF, -⟩ := hc
    obtain ⟨n', q1, q2⟩ := (hR.2 a).2 t hk
    rw [hn] at q1
    cases Value.ref.inj q1
    exact W.alen hx hb q2 ((hF.2.1.2 t _ (m_tys_at ht)).1 n _) (by rw [arrV_size]; exact hv) rfl rfl hd (kk _ hl)
theorem ev_iald {a n : Nat} {i : Int32} {v : Value} (hk : S 0 a 0 = .ref 103) (hn : S 1 a 0 = .ref n) (hi : vp_in i n) (hv : S 1003 a i.toNatClampNeg = v) (hd : decode M.2.1 pc = .ok (.iaload, 1)) (h : EV G l M d n0 l0 Q (pc + 1) L (v :: st) S sz sl) : EV G l M d n0 l0 Q pc L (.int i :: .ref a :: st) S sz sl :=
  ev_go h fun _ _ _ _ _ _ _ _ _ _ _ _ _ _ _ hc hR _ hl kk => by
    obtain ⟨hx, hb, -, -, hown, hts, -, hF, -⟩ := hc
    obtain ⟨n', q1, q2⟩ := (hR.2 a).2 3 hk
    rw [hn] at q1
    cases Value.ref.inj q1
    have hlt : i.toNatClampNeg < n := Nat.not_le.mp fun q => hi (Or.inr q)
    exact W.iald (v := v) hx hb q2 ((hF.2.1.2 3 _ (m_tys_at (t := 3) (ty := .int) rfl)).1 n _) (fun q => by cases q) (by rw [arrV_size]; exact hi) (by rw [arrV_read _ _ hlt, ← hv]) rfl rfl hd (kk _ hl)
theorem ev_cald {a n : Nat} {i : Int32} {v : Value} (hk : S 0 a 0 = .ref 101) (hn : S 1 a 0 = .ref n) (hi : vp_in i n) (hv : S 1001 a i.toNatClampNeg = v) (hd : decode M.2.1 pc = .ok (.caload, 1)) (h : EV G l M d n0 l0 Q (pc + 1) L (v :: st) S sz sl) : EV G l M d n0 l0 Q pc L (.int i :: .ref a :: st) S sz sl :=
  ev_go h fun _ _ _ _ _ _ _ _ _ _ _ _ _ _ _ hc hR _ hl kk => by
    obtain ⟨hx, hb, -, -, hown, hts, -, hF, -⟩ := hc
    obtain ⟨n', q1, q2⟩ := (hR.2 a).2 1 hk
    rw [hn] at q1
    cases Value.ref.inj q1
    have hlt : i.toNatClampNeg < n := Nat.not_le.mp fun q => hi (Or.inr q)
    exact W.cald (v := v) hx hb q2 ((hF.2.1.2 1 _ (m_tys_at (t := 1) (ty := .char) rfl)).1 n _) (fun q => by cases q) (by rw [arrV_size]; exact hi) (by rw [arrV_read _ _ hlt, ← hv]) rfl rfl hd (kk _ hl)
theorem ev_bald {a n : Nat} {i : Int32} {v : Value} (hk : S 0 a 0 = .ref 102) (hn : S 1 a 0 = .ref n) (hi : vp_in i n) (hv : S 1002 a i.toNatClampNeg = v) (hd : decode M.2.1 pc = .ok (.baload, 1)) (h : EV G l M d n0 l0 Q (pc + 1) L (v :: st) S sz sl) : EV G l M d n0 l0 Q pc L (.int i :: .ref a :: st) S sz sl :=
  ev_go h fun _ _ _ _ _ _ _ _ _ _ _ _ _ _ _ hc hR _ hl kk => by
    obtain ⟨hx, hb, -, -, hown, hts, -, hF, -⟩ := hc
    obtain ⟨n', q1, q2⟩ := (hR.2 a).2 2 hk
    rw [hn] at q1
    cases Value.ref.inj q1
    have hlt : i.toNatClampNeg < n := Nat.not_le.mp fun q => hi (Or.inr q)
    exact W.bald (v := v) hx hb q2 ((hF.2.1.2 2 _ (m_tys_at (t := 2) (ty := .byte) rfl)).1 n _) (fun q => by cases q) (by rw [arrV_size]; exact hi) (by rw [arrV_read _ _ hlt, ← hv]) rfl rfl hd (kk _ hl)
theorem ev_zald {a n : Nat} {i : Int32} {v : Value} (hk : S 0 a 0 = .ref 100) (hn : S 1 a 0 = .ref n) (hi : vp_in i n) (hv : S 1000 a i.toNatClampNeg = v) (hd : decode M.2.1 pc = .ok (.baload, 1)) (h : EV G l M d n0 l0 Q (pc + 1) L (v :: st) S sz sl) : EV G l M d n0 l0 Q pc L (.int i :: .ref a :: st) S sz sl :=
  ev_go h fun _ _ _ _ _ _ _ _ _ _ _ _ _ _ _ hc hR _ hl kk => by
    obtain ⟨hx, hb, -, -, hown, hts, -, hF, -⟩ := hc
    obtain ⟨n', q1, q2⟩ := (hR.2 a).2 0 hk
    rw [hn] at q1
    cases Value.ref.inj q1
    have hlt : i.toNatClampNeg < n := Nat.not_le.mp fun q => hi (Or.inr q)
    exact W.zald (v := v) hx hb q2 ((hF.2.1.2 0 _ (m_tys_at (t := 0) (ty := .boolean) rfl)).1 n _) (fun q => by cases q) (by rw [arrV_size]; exact hi) (by rw [arrV_read _ _ hlt, ← hv]) rfl rfl hd (kk _ hl)
theorem ev_lald {a n : Nat} {i : Int32} {v : Value} (hk : S 0 a 0 = .ref 104) (hn : S 1 a 0 = .ref n) (hi : vp_in i n) (hv : S 1004 a i.toNatClampNeg = v) (hd : decode M.2.1 pc = .ok (.laload, 1)) (h : EV G l M d n0 l0 Q (pc + 1) L (v :: st) S sz sl) : EV G l M d n0 l0 Q pc L (.int i :: .ref a :: st) S sz sl :=
  ev_go h fun _ _ _ _ _ _ _ _ _ _ _ _ _ _ _ hc hR _ hl kk => by
    obtain ⟨hx, hb, -, -, hown, hts, -, hF, -⟩ := hc
    obtain ⟨n', q1, q2⟩ := (hR.2 a).2 4 hk
    rw [hn] at q1
    cases Value.ref.inj q1
    have hlt : i.toNatClampNeg < n := Nat.not_le.mp fun q => hi (Or.inr q)
    exact W.lald (v := v) hx hb q2 ((hF.2.1.2 4 _ (m_tys_at (t := 4) (ty := .long) rfl)).1 n _) (fun q => by cases q) (by rw [arrV_size]; exact hi) (by rw [arrV_read _ _ hlt, ← hv]) rfl rfl hd (kk _ hl)
theorem ev_dald {a n : Nat} {i : Int32} {v : Value} (hk : S 0 a 0 = .ref 105) (hn : S 1 a 0 = .ref n) (hi : vp_in i n) (hv : S 1005 a i.toNatClampNeg = v) (hd : decode M.2.1 pc = .ok (.daload, 1)) (h : EV G l M d n0 l0 Q (pc + 1) L (v :: st) S sz sl) : EV G l M d n0 l0 Q pc L (.int i :: .ref a :: st) S sz sl :=
  ev_go h fun _ _ _ _ _ _ _ _ _ _ _ _ _ _ _ hc hR _ hl kk => by
    obtain ⟨hx, hb, -, -, hown, hts, -, hF, -⟩ := hc
    obtain ⟨n', q1, q2⟩ := (hR.2 a).2 5 hk
    rw [hn] at q1
    cases Value.ref.inj q1
    have hlt : i.toNatClampNeg < n := Nat.not_le.mp fun q => hi (Or.inr q)
    exact W.dald (v := v) hx hb q2 ((hF.2.1.2 5 _ (m_tys_at (t := 5) (ty := .double) rfl)).1 n _) (fun q => by cases q) (by rw [arrV_size]; exact hi) (by rw [arrV_read _ _ hlt, ← hv]) rfl rfl hd (kk _ hl)
theorem ev_aald {a n t : Nat} {i : Int32} {v : Value} {C : String} (hk : S 0 a 0 = .ref (100 + t : Nat)) (ht : mTy[t]? = some (.object C)) (hn : S 1 a 0 = .ref n) (hi : vp_in i n) (hv : S (1000 + t) a i.toNatClampNeg = v) (hd : decode M.2.1 pc = .ok (.aaload, 1)) (h : EV G l M d n0 l0 Q (pc + 1) L (v :: st) S sz sl) : EV G l M d n0 l0 Q pc L (.int i :: .ref a :: st) S sz sl :=
  ev_go h fun _ _ _ _ _ _ _ _ _ _ _ _ _ _ _ hc hR _ hl kk => by
    obtain ⟨hx, hb, -, -, hown, hts, -, hF, -⟩ := hc
    obtain ⟨n', q1, q2⟩ := (hR.2 a).2 t hk
    rw [hn] at q1
    cases Value.ref.inj q1
    have hlt : i.toNatClampNeg < n := Nat.not_le.mp fun q => hi (Or.inr q)
    exact W.aald (v := v) (ty := .object C) hx hb q2 ((hF.2.1.2 t _ (m_tys_at ht)).1 n _) rfl (fun q => by cases q) (by rw [arrV_size]; exact hi) (by rw [arrV_read _ _ hlt, ← hv]) rfl rfl hd (kk _ hl)
theorem ev_iast {a n : Nat} {i : Int32} {x : Int32} {v : Value} (hk : S 0 a 0 = .ref 103) (hn : S 1 a 0 = .ref n) (hi : vp_in i n) (hg : g_b G ≤ a) (hv : .int x = v) (hd : decode M.2.1 pc = .ok (.iastore, 1)) (h : EV G l M d n0 l0 Q (pc + 1) L st (s_up S 1003 a i.toNatClampNeg v) sz sl) : EV G l M d n0 l0 Q pc L (.int x :: .int i :: .ref a :: st) S sz sl :=
  ev_wr h fun _ _ _ _ _ _ _ _ _ _ _ _ _ _ _ hc hR hS hl kk => by
    obtain ⟨hx, hb, -, -, hown, hts, -, hF, -⟩ := hc
    obtain ⟨n', q1, q2⟩ := (hR.2 a).2 3 hk
    rw [hn] at q1
    cases Value.ref.inj q1
    refine W.iast hx hb q2 ((hF.2.1.2 3 _ (m_tys_at (t := 3) (ty := .int) rfl)).1 n _) (fun q => by cases q) (by rw [arrV_size]; exact hi) rfl rfl hd fun H' e1 e2 e3 => ?_
    exact kk _ H' _ (hR.aput (t := 3) hk hn e2 e3 (by rw [e1, ← hv])) (hS.put e2 e3 hg) hl
theorem ev_cast {a n : Nat} {i : Int32} {x : Int32} {v : Value} (hk : S 0 a 0 = .ref 101) (hn : S 1 a 0 = .ref n) (hi : vp_in i n) (hg : g_b G ≤ a) (hv : narrow .char (.int x) = v) (hd : decode M.2.1 pc = .ok (.castore, 1)) (h : EV G l M d n0 l0 Q (pc + 1) L st (s_up S 1001 a i.toNatClampNeg v) sz sl) : EV G l M d n0 l0 Q pc L (.int x :: .int i :: .ref a :: st) S sz sl :=
  ev_wr h fun _ _ _ _ _ _ _ _ _ _ _ _ _ _ _ hc hR hS hl kk => by
    obtain ⟨hx, hb, -, -, hown, hts, -, hF, -⟩ := hc
    obtain ⟨n', q1, q2⟩ := (hR.2 a).2 1 hk
    rw [hn] at q1
    cases Value.ref.inj q1
    refine W.cast hx hb q2 ((hF.2.1.2 1 _ (m_tys_at (t := 1) (ty := .char) rfl)).1 n _) (fun q => by cases q) (by rw [arrV_size]; exact hi) rfl rfl hd fun H' e1 e2 e3 => ?_
    exact kk _ H' _ (hR.aput (t := 1) hk hn e2 e3 (by rw [e1, ← hv])) (hS.put e2 e3 hg) hl
theorem ev_bast {a n : Nat} {i : Int32} {x : Int32} {v : Value} (hk : S 0 a 0 = .ref 102) (hn : S 1 a 0 = .ref n) (hi : vp_in i n) (hg : g_b G ≤ a) (hv : narrow .byte (.int x) = v) (hd : decode M.2.1 pc = .ok (.bastore, 1)) (h : EV G l M d n0 l0 Q (pc + 1) L st (s_up S 1002 a i.toNatClampNeg v) sz sl) : EV G l M d n0 l0 Q pc L (.int x :: .int i :: .ref a :: st) S sz sl :=
  ev_wr h fun _ _ _ _ _ _ _ _ _ _ _ _ _ _ _ hc hR hS hl kk => by
    obtain ⟨hx, hb, -, -, hown, hts, -, hF, -⟩ := hc
    obtain ⟨n', q1, q2⟩ := (hR.2 a).2 2 hk
    rw [hn] at q1
    cases Value.ref.inj q1
    refine W.bast hx hb q2 ((hF.2.1.2 2 _ (m_tys_at (t := 2) (ty := .byte) rfl)).1 n _) (fun q => by cases q) (by rw [arrV_size]; exact hi) rfl rfl hd fun H' e1 e2 e3 => ?_
    exact kk _ H' _ (hR.aput (t := 2) hk hn e2 e3 (by rw [e1, ← hv])) (hS.put e2 e3 hg) hl
theorem ev_zast {a n : Nat} {i : Int32} {x : Int32} {v : Value} (hk : S 0 a 0 = .ref 100) (hn : S 1 a 0 = .ref n) (hi : vp_in i n) (hg : g_b G ≤ a) (hv : narrow .boolean (.int x) = v) (hd : decode M.2.1 pc = .ok (.bastore, 1)) (h : EV G l M d n0 l0 Q (pc + 1) L st (s_up S 1000 a i.toNatClampNeg v) sz sl) : EV G l M d n0 l0 Q pc L (.int x :: .int i :: .ref a :: st) S sz sl :=
  ev_wr h fun _ _ _ _ _ _ _ _ _ _ _ _ _ _ _ hc hR hS hl kk => by
    obtain ⟨hx, hb, -, -, hown, hts, -, hF, -⟩ := hc
    obtain ⟨n', q1, q2⟩ := (hR.2 a).2 0 hk
    rw [hn] at q1
    cases Value.ref.inj q1
    refine W.zast hx hb q2 ((hF.2.1.2 0 _ (m_tys_at (t := 0) (ty := .boolean) rfl)).1 n _) (fun q => by cases q) (by rw [arrV_size]; exact hi) rfl rfl hd fun H' e1 e2 e3 => ?_
    exact kk _ H' _ (hR.aput (t := 0) hk hn e2 e3 (by rw [e1, ← hv])) (hS.put e2 e3 hg) hl
theorem ev_last {a n : Nat} {i : Int32} {x : Int64} {v : Value} (hk : S 0 a 0 = .ref 104) (hn : S 1 a 0 = .ref n) (hi : vp_in i n) (hg : g_b G ≤ a) (hv : .long x = v) (hd : decode M.2.1 pc = .ok (.lastore, 1)) (h : EV G l M d n0 l0 Q (pc + 1) L st (s_up S 1004 a i.toNatClampNeg v) sz sl) : EV G l M d n0 l0 Q pc L (.long x :: .int i :: .ref a :: st) S sz sl :=
  ev_wr h fun _ _ _ _ _ _ _ _ _ _ _ _ _ _ _ hc hR hS hl kk => by
    obtain ⟨hx, hb, -, -, hown, hts, -, hF, -⟩ := hc
    obtain ⟨n', q1, q2⟩ := (hR.2 a).2 4 hk
    rw [hn] at q1
    cases Value.ref.inj q1
    refine W.last hx hb q2 ((hF.2.1.2 4 _ (m_tys_at (t := 4) (ty := .long) rfl)).1 n _) (fun q => by cases q) (by rw [arrV_size]; exact hi) rfl rfl hd fun H' e1 e2 e3 => ?_
    exact kk _ H' _ (hR.aput (t := 4) hk hn e2 e3 (by rw [e1, ← hv])) (hS.put e2 e3 hg) hl
theorem ev_dast {a n : Nat} {i : Int32} {x : UInt64} {v : Value} (hk : S 0 a 0 = .ref 105) (hn : S 1 a 0 = .ref n) (hi : vp_in i n) (hg : g_b G ≤ a) (hv : .double x = v) (hd : decode M.2.1 pc = .ok (.dastore, 1)) (h : EV G l M d n0 l0 Q (pc + 1) L st (s_up S 1005 a i.toNatClampNeg v) sz sl) : EV G l M d n0 l0 Q pc L (.double x :: .int i :: .ref a :: st) S sz sl :=
  ev_wr h fun _ _ _ _ _ _ _ _ _ _ _ _ _ _ _ hc hR hS hl kk => by
    obtain ⟨hx, hb, -, -, hown, hts, -, hF, -⟩ := hc
    obtain ⟨n', q1, q2⟩ := (hR.2 a).2 5 hk
    rw [hn] at q1
    cases Value.ref.inj q1
    refine W.dast hx hb q2 ((hF.2.1.2 5 _ (m_tys_at (t := 5) (ty := .double) rfl)).1 n _) (fun q => by cases q) (by rw [arrV_size]; exact hi) rfl rfl hd fun H' e1 e2 e3 => ?_
    exact kk _ H' _ (hR.aput (t := 5) hk hn e2 e3 (by rw [e1, ← hv])) (hS.put e2 e3 hg) hl
theorem ev_aastN {a n t : Nat} {i : Int32} {C : String} (hk : S 0 a 0 = .ref (100 + t : Nat)) (ht : mTy[t]? = some (.object C)) (hn : S 1 a 0 = .ref n) (hi : vp_in i n) (hg : g_b G ≤ a) (hd : decode M.2.1 pc = .ok (.aastore, 1)) (h : EV G l M d n0 l0 Q (pc + 1) L st (s_up S (1000 + t) a i.toNatClampNeg .null) sz sl) : EV G l M d n0 l0 Q pc L (.null :: .int i :: .ref a :: st) S sz sl :=
  ev_wr h fun _ _ _ _ _ _ _ _ _ _ _ _ _ _ _ hc hR hS hl kk => by
    obtain ⟨hx, hb, -, -, hown, hts, -, hF, -⟩ := hc
    obtain ⟨n', q1, q2⟩ := (hR.2 a).2 t hk
    rw [hn] at q1
    cases Value.ref.inj q1
    refine va_WaastN hx hb q2 ((hF.2.1.2 t _ (m_tys_at ht)).1 n _) (fun q => by cases q) (by rw [arrV_size]; exact hi) rfl rfl hd fun H' e1 e2 e3 => ?_
    exact kk _ H' _ (hR.aput hk hn e2 e3 e1) (hS.put e2 e3 hg) hl
theorem ev_aast {a n t b kb : Nat} {i : Int32} {r : vw_C} (hk : S 0 a 0 = .ref (100 + t : Nat)) (ht : mTy[t]? = some (.object r.1)) (hn : S 1 a 0 = .ref n) (hi : vp_in i n) (hg : g_b G ≤ a) (hkb : S 0 b 0 = .ref kb) (hr : mCl[kb]? = some r) (hd : decode M.2.1 pc = .ok (.aastore, 1)) (h : EV G l M d n0 l0 Q (pc + 1) L st (s_up S (1000 + t) a i.toNatClampNeg (.ref b)) sz sl) : EV G l M d n0 l0 Q pc L (.ref b :: .int i :: .ref a :: st) S sz sl :=
  ev_wr h fun _ _ _ _ _ _ _ _ _ _ _ _ _ _ _ hc hR hS hl kk => by
    obtain ⟨hx, hb, -, -, hown, hts, -, hF, -⟩ := hc
    obtain ⟨n', q1, q2⟩ := (hR.2 a).2 t hk
    rw [hn] at q1
    cases Value.ref.inj q1
    have hlt : i.toNatClampNeg < n := Nat.not_le.mp fun q => hi (Or.inr q)
    have h0 : ¬ i < 0 := fun q => hi (Or.inl q)
    obtain ⟨r', hr', cellV, g1, g2, g3, -⟩ := (hR.2 b).1 kb hkb (by have := mCl_small hr; omega)
    have hcls := (hF.2.1.1 kb r hr).2
    obtain ⟨kA, comp, k1, k2, k3, -⟩ := (hF.2.1.2 t _ (m_tys_at ht)).2
    have hcomp : comp = g_C G kb := Option.some.inj (k3.symm.trans hcls.1)
    subst hcomp
    obtain ⟨kC, hkC, -⟩ := hcls.2
    refine W.aast hx hb q2 (fun q h => by cases h) (fun h => by cases h) k1 k2 rfl hkC ⟨h0, by show _ < (arrV _ _ _).slots.size; rw [arrV_size]; exact hlt⟩ g1 (fun q h => by rw [g3] at h; cases h) (by rw [g2]; exact hkC) (by rw [g2]; exact va_assign hcls) rfl rfl hd fun H' e1 e2 e3 => ?_
    exact kk _ H' _ (hR.aput hk hn e2 e3 e1) (hS.put e2 e3 hg) hl
/-! ends -/
theorem ev_iret {v : Int32} {ty : FieldType} (hr : M.2.2.2.1 = some ty) (hn : narrow ty (.int v) = .int v) (hd : decode M.2.1 pc = .ok (.ireturn, 1)) (h : Q (.inl (some (.int v))) S sz sl) : EV G l M d n0 l0 Q pc L [.int v] S sz sl :=
  ⟨_, S, sz, sl, h, Nat.le_refl _, Nat.le_refl _, fun _ _ _ _ _ _ _ _ _ _ _ _ _ hc hR hS _ => vx_ret (W.zret (v := v) (hlocks := hc.2.2.2.2.2.2.1) hc.1 hc.2.1 (hc.2.2.1.trans hr) hn (fun t ht _ => ⟨_, rfl, rfl, by rw [ht]; exact hR, hS.F ht⟩) hS.2.2 hd)⟩
theorem ev_lret {v : Int64} (hr : M.2.2.2.1 = some .long) (hd : decode M.2.1 pc = .ok (.lreturn, 1)) (h : Q (.inl (some (.long v))) S sz sl) : EV G l M d n0 l0 Q pc L [.long v] S sz sl :=
  ⟨_, S, sz, sl, h, Nat.le_refl _, Nat.le_refl _, fun _ _ _ _ _ _ _ _ _ _ _ _ _ hc hR hS _ => vx_ret (W.lret (v := v) (hlocks := hc.2.2.2.2.2.2.1) hc.1 hc.2.1 (hc.2.2.1.trans hr) (fun t ht _ => ⟨_, rfl, rfl, by rw [ht]; exact hR, hS.F ht⟩) hS.2.2 hd)⟩
theorem ev_dret {v : UInt64} (hr : M.2.2.2.1 = some .double) (hd : decode M.2.1 pc = .ok (.dreturn, 1)) (h : Q (.inl (some (.double v))) S sz sl) : EV G l M d n0 l0 Q pc L [.double v] S sz sl :=
  ⟨_, S, sz, sl, h, Nat.le_refl _, Nat.le_refl _, fun _ _ _ _ _ _ _ _ _ _ _ _ _ hc hR hS _ => vx_ret (W.dret (v := v) (hlocks := hc.2.2.2.2.2.2.1) hc.1 hc.2.1 (hc.2.2.1.trans hr) (fun t ht _ => ⟨_, rfl, rfl, by rw [ht]; exact hR, hS.F ht⟩) hS.2.2 hd)⟩
theorem ev_fret {v : UInt32} (hr : M.2.2.2.1 = some .float) (hd : decode M.2.1 pc = .ok (.freturn, 1)) (h : Q (.inl (some (.float v))) S sz sl) : EV G l M d n0 l0 Q pc L [.float v] S sz sl :=
  ⟨_, S, sz, sl, h, Nat.le_refl _, Nat.le_refl _, fun _ _ _ _ _ _ _ _ _ _ _ _ _ hc hR hS _ => vx_ret (W.fret (v := v) (hlocks := hc.2.2.2.2.2.2.1) hc.1 hc.2.1 (hc.2.2.1.trans hr) (fun t ht _ => ⟨_, rfl, rfl, by rw [ht]; exact hR, hS.F ht⟩) hS.2.2 hd)⟩
theorem ev_aret {v : Value} {rt : FieldType} (hr : M.2.2.2.1 = some rt) (hrt : (∃ n, rt = .object n) ∨ ∃ t, rt = .array t) (hv : v = .null ∨ ∃ a, v = .ref a) (hd : decode M.2.1 pc = .ok (.areturn, 1)) (h : Q (.inl (some v)) S sz sl) : EV G l M d n0 l0 Q pc L [v] S sz sl :=
  ⟨_, S, sz, sl, h, Nat.le_refl _, Nat.le_refl _, fun _ _ _ _ _ _ _ _ _ _ _ _ _ hc hR hS _ => vx_ret (W.aret (v := v) (hlocks := hc.2.2.2.2.2.2.1) hc.1 hc.2.1 (hc.2.2.1.trans hr) hrt hv (fun t ht _ => ⟨_, rfl, rfl, by rw [ht]; exact hR, hS.F ht⟩) hS.2.2 hd)⟩
theorem ev_vret (hr : M.2.2.2.1 = none) (hd : decode M.2.1 pc = .ok (.return_, 1)) (h : Q (.inl none) S sz sl) : EV G l M d n0 l0 Q pc L [] S sz sl :=
  ⟨_, S, sz, sl, h, Nat.le_refl _, Nat.le_refl _, fun _ _ _ _ _ _ _ _ _ _ _ _ _ hc hR hS _ => vx_ret (W.vret (hlocks := hc.2.2.2.2.2.2.1) hc.1 hc.2.1 (hc.2.2.1.trans hr) (fun t ht _ => ⟨_, rfl, rfl, by rw [ht]; exact hR, hS.F ht⟩) hS.2.2 hd)⟩
end Rules2
