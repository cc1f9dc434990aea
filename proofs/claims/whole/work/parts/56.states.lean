/-! Copies of clubs and states, and a state's relation to the reference's row. -/
theorem cpy_lt {α : Type} {f g : Nat → α} {n m : Nat} (h : m < n) : va_cpy f g 0 0 n m = f m := by
  unfold va_cpy
  rw [if_pos (by omega)]
  congr 1
  omega
theorem c12 : (12 : Int32).toNatClampNeg = 12 := by decide
theorem t_copyC {a b : CS} {Post : CS × CS → Prop} (h01 : b.1 1 = 0 ∨ b.1 1 = 1) (h : ∀ a', EqC a' b → Post (a', b)) : wp_Clb_copyFrom (a, b) Post := by
  unfold wp_Clb_copyFrom wp_Crd_copyFrom wp_Hmp_copyFrom wp_Acc_copyFrom
  simp only [forall_eq, c0, c4, c12]
  refine ⟨h01, h _ ⟨fun i hi => ?_, fun k m hk hm h7 h8 => ?_, fun m hm => ⟨?_, ?_⟩, fun m hm => ?_⟩⟩
  · have : i = 0 ∨ i = 1 ∨ i = 2 ∨ i = 3 ∨ i = 4 ∨ i = 5 ∨ i = 6 ∨ i = 7 ∨ i = 8 ∨ i = 9 := by omega
    rcases this with rfl | rfl | rfl | rfl | rfl | rfl | rfl | rfl | rfl | rfl <;> rfl
  · have : k = 0 ∨ k = 1 ∨ k = 2 ∨ k = 3 ∨ k = 4 ∨ k = 5 ∨ k = 6 ∨ k = 9 ∨ k = 10 ∨ k = 11 := by omega
    rcases this with rfl | rfl | rfl | rfl | rfl | rfl | rfl | rfl | rfl | rfl <;> exact cpy_lt hm
  · exact cpy_lt hm
  · exact cpy_lt hm
  · exact cpy_lt hm
def OkS (s : SS) : Prop := (s.1.1 1 = 0 ∨ s.1.1 1 = 1) ∧ (s.2.1 = 0 ∨ s.2.1 = 1) ∧ (s.2.1 = 1 → (s.2.2.1.1 1 = 0 ∨ s.2.2.1.1 1 = 1)) ∧ (s.2.2.2.1 = 0 ∨ s.2.2.2.1 = 1) ∧ (s.2.2.2.1 = 1 → (s.2.2.2.2.1 1 = 0 ∨ s.2.2.2.2.1 1 = 1))
def EqS (a s : SS) : Prop := EqC a.1 s.1 ∧ a.2.1 = s.2.1 ∧ (s.2.1 = 1 → EqC a.2.2.1 s.2.2.1) ∧ a.2.2.2.1 = s.2.2.2.1 ∧ (s.2.2.2.1 = 1 → EqC a.2.2.2.2 s.2.2.2.2)
theorem t_copySn {a1 s1 : Int32} {a2 s2 : CS} {Post : (Int32 × CS × Int32 × CS) → Prop} (h1 : s1 = 0 ∨ s1 = 1) (h2 : s1 = 1 → (s2.1 1 = 0 ∨ s2.1 1 = 1)) (h : ∀ a', (s1 = 1 → EqC a' s2) → Post (s1, a', s1, s2)) : wp_Snp_copyFrom (a1, a2, s1, s2) Post := by
  unfold wp_Snp_copyFrom
  refine ⟨h1, ?_⟩
  intro u1 e1
  rw [e1]
  refine ⟨fun z => h a2 (fun y => absurd (z.symm.trans y) (by decide)), fun z => ?_⟩
  have y : s1 = 1 := h1.resolve_left z
  exact t_copyC (h2 y) (fun a' e => h a' (fun _ => e))
theorem t_copyS {a s : SS} {Post : (CS × Int32 × CS × Int32 × CS × CS × Int32 × CS × Int32 × CS) → Prop} (ok : OkS s) (h : ∀ a' : SS, EqS a' s → Post (a'.1, a'.2.1, a'.2.2.1, a'.2.2.2.1, a'.2.2.2.2, s.1, s.2.1, s.2.2.1, s.2.2.2.1, s.2.2.2.2)) : wp_Sta_copyFrom (a.1, a.2.1, a.2.2.1, a.2.2.2.1, a.2.2.2.2, s.1, s.2.1, s.2.2.1, s.2.2.2.1, s.2.2.2.2) Post := by
  obtain ⟨o1, o2, o3, o4, o5⟩ := ok
  unfold wp_Sta_copyFrom
  refine t_copyC o1 (fun a1 e1 => ?_)
  refine t_copySn o2 o3 (fun a2 e2 => ?_)
  refine t_copySn o4 o5 (fun a3 e3 => ?_)
  exact h (a1, s.2.1, a2, s.2.2.2.1, a3) ⟨e1, rfl, e2, rfl, e3⟩
theorem CR_eqC {a b : CS} {f : Nat → Int32} (h : CR b f) (e : EqC a b) : CR a f := by
  obtain ⟨w, N, h⟩ := h
  exact ⟨w, N, CRw_eqC h e⟩
theorem CR_row {c : CS} {f f' : Nat → Int32} (h : CR c f) (e : ∀ i, i < 226 → f' i = f i) : CR c f' := by
  obtain ⟨w, N, h⟩ := h
  exact ⟨w, N, CRw_row h e⟩
theorem CR_01 {c : CS} {f : Nat → Int32} (h : CR c f) : c.1 1 = 0 ∨ c.1 1 = 1 := by
  obtain ⟨w, N, h⟩ := h
  exact h.1.1.2.2.2.2.2.2.1
/-- a state of the program and a state's row of the reference -/
def SR (s : SS) (f : Nat → Int32) : Prop := CR s.1 f ∧ (s.2.1 = 0 ∨ s.2.1 = 1) ∧ f 678 = s.2.1 ∧ (s.2.1 = 1 → CR s.2.2.1 (fun i => f (226 + i))) ∧ (s.2.2.2.1 = 0 ∨ s.2.2.2.1 = 1) ∧ f 679 = s.2.2.2.1 ∧ (s.2.2.2.1 = 1 → CR s.2.2.2.2 (fun i => f (452 + i)))
theorem SR.ok {s : SS} {f : Nat → Int32} (h : SR s f) : OkS s := by
  obtain ⟨h1, h2, h3, h4, h5, h6, h7⟩ := h
  exact ⟨CR_01 h1, h2, fun z => CR_01 (h4 z), h5, fun z => CR_01 (h7 z)⟩
theorem SR_eq {a s : SS} {f : Nat → Int32} (h : SR s f) (e : EqS a s) : SR a f := by
  obtain ⟨h1, h2, h3, h4, h5, h6, h7⟩ := h
  obtain ⟨e1, e2, e3, e4, e5⟩ := e
  refine ⟨CR_eqC h1 e1, by rw [e2]; exact h2, by rw [e2]; exact h3, fun z => ?_, by rw [e4]; exact h5, by rw [e4]; exact h6, fun z => ?_⟩
  · rw [e2] at z
    exact CR_eqC (h4 z) (e3 z)
  · rw [e4] at z
    exact CR_eqC (h7 z) (e5 z)
theorem SR_row {s : SS} {f f' : Nat → Int32} (h : SR s f) (e : ∀ i, i < 680 → f' i = f i) : SR s f' := by
  obtain ⟨h1, h2, h3, h4, h5, h6, h7⟩ := h
  refine ⟨CR_row h1 (fun i hi => e i (by omega)), h2, by rw [e 678 (by omega)]; exact h3, fun z => CR_row (h4 z) (fun i hi => e (226 + i) (by omega)), h5, by rw [e 679 (by omega)]; exact h6, fun z => CR_row (h7 z) (fun i hi => e (452 + i) (by omega))⟩
