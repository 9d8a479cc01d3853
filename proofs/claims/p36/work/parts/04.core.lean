/-! THE MACHINE LAYER: a judgement over a store (channel, address, index), under which the kit's words, worlds and rooms are hidden. A known cell has its kind in channel 0: .ref k, an object of class k of mCl, its field j in channel 16 (k + 1) + j; .ref (100 + t), an array over mTy's type t, its length n as .ref n in channel 1, its elements in channel 1000 + t. -/
abbrev mCl : List vw_C := [(RJ0, TJ0, 4), (RJ4, TJ4, 4), (RX0, TX0, 4), (RX1, TX1, 4), (RX2, TX2, 11), (RX3, TX3, 3), (RX4, TX4, 3), (RX5, TX5, 11), (RX6, TX6, 15), (RX7, TX7, 10), (RX8, TX8, 5), (RX9, TX9, 1), (RX10, TX10, 5), (RX11, TX11, 7)]
def mTy : List FieldType := [.boolean, .char, .byte, .int, .long, .double, .object RX4, .object RX1, .object RX5, .object RX2, .object RX10, .object RX9]
def m_big : List Cond := lw_tbl.filter goodWord
theorem m_in {w : Cond} (i : Nat) (h : lw_tbl[i]? = some w) (g : goodWord w = true) : w ∈ m_big := List.mem_filter.mpr ⟨List.mem_of_getElem? h, g⟩
theorem m_good : ∀ w ∈ m_big, (w.onTables && w.keeps) = true ∨ ∃ ty, w = .arrayClass ty := fun _ h => good_of_word (List.mem_filter.mp h).2
theorem mCl_small {k : Nat} {r : vw_C} (h : mCl[k]? = some r) : k < 14 ∧ r.2.2 ≤ 15 := by
  have hk : k < 14 := (List.getElem?_eq_some_iff.mp h).1
  refine ⟨hk, ?_⟩
  have : ∀ r ∈ mCl, r.2.2 ≤ 15 := by simp [mCl]
  exact this r (List.mem_of_getElem? h)
/-! the store -/
abbrev Sto : Type := Nat → Nat → Nat → Value
def s_up (S : Sto) (c a i : Nat) (v : Value) : Sto := fun c' a' i' => if c' = c ∧ a' = a ∧ i' = i then v else S c' a' i'
theorem s_eq (S : Sto) (c a i : Nat) (v : Value) : s_up S c a i v c a i = v := by simp [s_up]
theorem s_nc {S : Sto} {c a i : Nat} {v : Value} {c' a' i' : Nat} (h : c' ≠ c) : s_up S c a i v c' a' i' = S c' a' i' := by simp [s_up, h]
theorem s_na {S : Sto} {c a i : Nat} {v : Value} {c' a' i' : Nat} (h : a' ≠ a) : s_up S c a i v c' a' i' = S c' a' i' := by simp [s_up, h]
theorem s_ni {S : Sto} {c a i : Nat} {v : Value} {c' a' i' : Nat} (h : i' ≠ i) : s_up S c a i v c' a' i' = S c' a' i' := by simp [s_up, h]
theorem s_ncf {S : Sto} {c a i : Nat} {v : Value} {c' : Nat} (h : c' ≠ c) : s_up S c a i v c' = S c' := by funext a' i'; exact s_nc h
/-- a new object of class k (n fields with the defaults df), or a new array -/
def s_new (S : Sto) (a k : Nat) (df : Nat → Value) : Sto := fun c a' i => if a' = a then (if c = 0 then (if i = 0 then .ref k else S c a' i) else if 16 * (k + 1) ≤ c ∧ c < 16 * (k + 1) + 16 ∧ i = 0 then df (c - 16 * (k + 1)) else S c a' i) else S c a' i
def s_newa (S : Sto) (a t n : Nat) (v : Value) : Sto := fun c a' i => if a' = a then (if c = 0 then (if i = 0 then .ref (100 + t : Nat) else S c a' i) else if c = 1 then (if i = 0 then .ref n else S c a' i) else if c = 1000 + t then v else S c a' i) else S c a' i
/-! ghosts: the classes' numbers and slots, the array classes, the String constants' and statics' places, the heap below the run's own -/
abbrev Gh : Type := (Nat → ClassId) × (Nat → Nat → Nat) × (Nat → ClassId) × (Nat → Nat) × (Nat → Value) × Nat × Heap
abbrev g_C (G : Gh) : Nat → ClassId := G.1
abbrev g_I (G : Gh) : Nat → Nat → Nat := G.2.1
abbrev g_A (G : Gh) : Nat → ClassId := G.2.2.1
abbrev g_s (G : Gh) : Nat → Nat := G.2.2.2.1
abbrev g_v (G : Gh) : Nat → Value := G.2.2.2.2.1
abbrev g_b (G : Gh) : Nat := G.2.2.2.2.2.1
abbrev g_H (G : Gh) : Heap := G.2.2.2.2.2.2
abbrev g_own (G : Gh) : Nat → Prop := fun a => g_b G ≤ a
def m_cel (G : Gh) (S : Sto) (a : Nat) (H : Heap) : Prop :=
  (∀ k : Nat, S 0 a 0 = .ref k → k < 100 → ∃ r, mCl[k]? = some r ∧ t_OB a (g_C G k) r.2.2 (g_I G k) H (fun j => S (16 * (k + 1) + j) a 0)) ∧
  (∀ t : Nat, S 0 a 0 = .ref (100 + t : Nat) → ∃ n : Nat, S 1 a 0 = .ref n ∧ H[a]? = some (arrV (g_A G t) n (fun j => S (1000 + t) a j)))
def m_R (G : Gh) (S : Sto) (sz : Nat) (H : Heap) : Prop := H.size = sz ∧ ∀ a, m_cel G S a H
def m_tys (cA : Nat → ClassId) : List (ClassId × FieldType) := mTy.zipIdx.map fun q => (cA q.2, q.1)
theorem m_tys_at {cA : Nat → ClassId} {t : Nat} {ty : FieldType} (h : mTy[t]? = some ty) : (m_tys cA)[t]? = some (cA t, ty) := by
  simp [m_tys, List.getElem?_zipIdx, h]
theorem m_cel.kept {G : Gh} {S : Sto} {a : Nat} {H H1 : Heap} (h : m_cel G S a H) (hq : ∀ x, H[a]? = some x → H1[a]? = some x) : m_cel G S a H1 := by
  refine ⟨fun k h1 h2 => ?_, fun t h1 => ?_⟩
  · obtain ⟨r, q1, cell, q2, q3⟩ := h.1 k h1 h2
    exact ⟨r, q1, cell, hq _ q2, q3⟩
  · obtain ⟨n, q1, q2⟩ := h.2 t h1
    exact ⟨n, q1, hq _ q2⟩
theorem m_cel.to {G : Gh} {S S' : Sto} {a : Nat} {H : Heap} (h : m_cel G S a H) (h0 : S' 0 a 0 = S 0 a 0) (h1 : S' 1 a 0 = S 1 a 0)
    (hf : ∀ k j, k < 14 → j < 15 → S' (16 * (k + 1) + j) a 0 = S (16 * (k + 1) + j) a 0) (he : ∀ t j : Nat, S 0 a 0 = .ref (100 + t : Nat) → S' (1000 + t) a j = S (1000 + t) a j) : m_cel G S' a H := by
  refine ⟨fun k q1 q2 => ?_, fun t q1 => ?_⟩
  · obtain ⟨r, g1, g2⟩ := h.1 k (h0 ▸ q1) q2
    have := mCl_small g1
    exact ⟨r, g1, g2.to fun j hj => (hf k j this.1 (by omega)).symm⟩
  · rw [h0] at q1
    obtain ⟨n, g1, g2⟩ := h.2 t q1
    refine ⟨n, h1.trans g1, ?_⟩
    rw [g2]; congr 2; funext j; exact (he t j q1).symm
theorem m_R.fput {G : Gh} {S : Sto} {sz a k j : Nat} {H H1 : Heap} {v : Value} {r : vw_C} (h : m_R G S sz H) (hk : S 0 a 0 = .ref k) (hr : mCl[k]? = some r) (hz : H1.size = H.size) (ho : ∀ q, q ≠ a → H1[q]? = H[q]?)
    (hc : t_OB a (g_C G k) r.2.2 (g_I G k) H1 (updV (fun j => S (16 * (k + 1) + j) a 0) j v)) : m_R G (s_up S (16 * (k + 1) + j) a 0 v) sz H1 := by
  refine ⟨hz.trans h.1, fun b => ?_⟩
  have hks := mCl_small hr
  by_cases hb : b = a
  · subst hb
    refine ⟨fun k' q1 q2 => ?_, fun t q1 => ?_⟩
    · have e : k' = k := by
        rw [s_nc (show (0 : Nat) ≠ 16 * (k + 1) + j by omega), hk] at q1
        exact (Value.ref.inj q1).symm
      subst e
      refine ⟨r, hr, hc.to fun j' _ => ?_⟩
      by_cases hj : j' = j
      · subst hj; simp [updV, s_up]
      · rw [s_nc (show 16 * (k' + 1) + j' ≠ 16 * (k' + 1) + j by omega)]; simp [updV, hj]
    · rw [s_nc (show (0 : Nat) ≠ 16 * (k + 1) + j by omega), hk] at q1
      have z : k = 100 + t := Value.ref.inj q1
      omega
  · refine ((h.2 b).kept (fun x hx => by rw [ho b hb]; exact hx)).to ?_ ?_ (fun _ _ _ _ => ?_) (fun _ _ _ => ?_) <;> exact s_na hb
theorem m_R.aput {G : Gh} {S : Sto} {sz a t n i : Nat} {H H1 : Heap} {v : Value} (h : m_R G S sz H) (hk : S 0 a 0 = .ref (100 + t : Nat)) (hn : S 1 a 0 = .ref n) (hz : H1.size = H.size) (ho : ∀ q, q ≠ a → H1[q]? = H[q]?)
    (hc : H1[a]? = some ((arrV (g_A G t) n (fun j => S (1000 + t) a j)).setSlot i v)) : m_R G (s_up S (1000 + t) a i v) sz H1 := by
  refine ⟨hz.trans h.1, fun b => ?_⟩
  by_cases hb : b = a
  · subst hb
    refine ⟨fun k' q1 q2 => ?_, fun t' q1 => ?_⟩
    · rw [s_nc (show (0 : Nat) ≠ 1000 + t by omega), hk] at q1
      have z : 100 + t = k' := Value.ref.inj q1
      omega
    · have e : t' = t := by
        rw [s_nc (show (0 : Nat) ≠ 1000 + t by omega), hk] at q1
        have z : 100 + t = 100 + t' := Value.ref.inj q1
        omega
      subst e
      refine ⟨n, by rw [s_nc (show (1 : Nat) ≠ 1000 + t' by omega)]; exact hn, ?_⟩
      rw [hc, arrV_store]; congr 2; funext j
      by_cases hj : j = i
      · subst hj; simp [updV, s_up]
      · rw [s_ni hj]; simp [updV, hj]
  · refine ((h.2 b).kept (fun x hx => by rw [ho b hb]; exact hx)).to ?_ ?_ (fun _ _ _ _ => ?_) (fun _ _ _ => ?_) <;> exact s_na hb
theorem m_R.onew {G : Gh} {S : Sto} {sz k : Nat} {H H1 : Heap} {df : Nat → Value} {r : vw_C} (h : m_R G S sz H) (hr : mCl[k]? = some r) (hz : H1.size = sz + 1) (ho : ∀ q, q < sz → H1[q]? = H[q]?)
    (hc : t_OB sz (g_C G k) r.2.2 (g_I G k) H1 df) : m_R G (s_new S sz k df) (sz + 1) H1 := by
  refine ⟨hz, fun b => ?_⟩
  have hks := mCl_small hr
  by_cases hb : b = sz
  · subst hb
    refine ⟨fun k' q1 q2 => ?_, fun t q1 => ?_⟩
    · have e : k' = k := by
        have q2 : (k : Nat) = k' := by simpa [s_new] using q1
        exact q2.symm
      subst e
      refine ⟨r, hr, hc.to fun j' hj => ?_⟩
      have g1 : j' < 16 := by omega
      have g2 : ¬ 16 * (k' + 1) + j' = 0 := by omega
      have g3 : 16 * (k' + 1) + j' - 16 * (k' + 1) = j' := by omega
      simp only [s_new, if_true, if_neg g2]
      rw [if_pos ⟨by omega, by omega, trivial⟩, g3]
    · have q2 : (k : Nat) = 100 + t := by simpa [s_new] using q1
      omega
  · refine ((h.2 b).kept (fun x hx => ?_)).to ?_ ?_ (fun _ _ _ _ => ?_) (fun _ _ _ => ?_)
    · have : b < H.size := (Array.getElem?_eq_some_iff.mp hx).1
      rw [ho b (by have := h.1; omega)]; exact hx
    all_goals simp [s_new, hb]
theorem m_R.anew {G : Gh} {S : Sto} {sz t n : Nat} {H H1 : Heap} {v : Value} (h : m_R G S sz H) (hz : H1.size = sz + 1) (ho : ∀ q, q < sz → H1[q]? = H[q]?)
    (hc : H1[sz]? = some (arrV (g_A G t) n (fun _ => v))) : m_R G (s_newa S sz t n v) (sz + 1) H1 := by
  refine ⟨hz, fun b => ?_⟩
  by_cases hb : b = sz
  · subst hb
    refine ⟨fun k' q1 q2 => ?_, fun t' q1 => ?_⟩
    · have q3 : (100 + t : Nat) = k' := by simpa [s_newa] using q1
      omega
    · have e : t' = t := by
        have q3 : (100 + t : Nat) = 100 + t' := by
          have : Value.ref (100 + t : Nat) = Value.ref (100 + t' : Nat) := by simpa [s_newa] using q1
          exact Value.ref.inj this
        omega
      subst e
      refine ⟨n, by simp [s_newa], ?_⟩
      have g1 : ¬ 1000 + t' = 0 := by omega
      have g2 : ¬ 1000 + t' = 1 := by omega
      rw [hc]; congr 2; funext j
      simp only [s_newa, if_true, if_neg g1, if_neg g2]
  · refine ((h.2 b).kept (fun x hx => ?_)).to ?_ ?_ (fun _ _ _ _ => ?_) (fun _ _ _ => ?_)
    · have : b < H.size := (Array.getElem?_eq_some_iff.mp hx).1
      rw [ho b (by have := h.1; omega)]; exact hx
    all_goals simp [s_newa, hb]
theorem m_R.grown {G : Gh} {S : Sto} {sz sz1 : Nat} {H H1 : Heap} (h : m_R G S sz H) (hz : H1.size = sz1) (ho : ∀ q, q < sz → H1[q]? = H[q]?) : m_R G S sz1 H1 :=
  ⟨hz, fun b => (h.2 b).kept fun x hx => by
    have : b < H.size := (Array.getElem?_eq_some_iff.mp hx).1
    rw [ho b (by have := h.1; omega)]; exact hx⟩
