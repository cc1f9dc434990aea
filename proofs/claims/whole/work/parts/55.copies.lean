/-! Copies of a club. -/
def EqC (a b : CS) : Prop := (∀ i, i < 10 → a.1 i = b.1 i) ∧ (∀ k m, k < 12 → m < 12 → k ≠ 7 → k ≠ 8 → a.2.1 k m = b.2.1 k m) ∧ (∀ m, m < 4 → a.2.1 7 m = b.2.1 7 m ∧ a.2.1 8 m = b.2.1 8 m) ∧ ∀ m, m < 12 → a.2.2 m = b.2.2 m
def norm12 (a b : CS) : CS := (a.1, (fun k => if k < 12 then a.2.1 k else b.2.1 k), a.2.2)
theorem norm_a {a b : CS} {k : Nat} (h : k < 12) : (norm12 a b).2.1 k = a.2.1 k := if_pos h
theorem norm_b {a b : CS} {k : Nat} (h : ¬ k < 12) : (norm12 a b).2.1 k = b.2.1 k := if_neg h
theorem CRw_eqC {a b : CS} {f : Nat → Int32} {w N : Nat} (h : CRw b f w N) (e : EqC a b) : CRw a f w N := by
  obtain ⟨⟨hG, hM, hI, hO, hQ⟩, ⟨⟨a1, a2, a3, a4, a5, a6, a7⟩, a8⟩, hE⟩ := h
  obtain ⟨e1, e2, e3, e4⟩ := e
  have hN := hG.2.1
  have ar : ∀ k m, m < 12 → k ≠ 7 → k ≠ 8 → (norm12 a b).2.1 k m = b.2.1 k m := by
    intro k m hm h7 h8
    by_cases z : k < 12
    · rw [norm_a z]; exact e2 k m z hm h7 h8
    · rw [norm_b z]
  have key : CRw (norm12 a b) f w N := by
    refine ⟨⟨CG_eq hG (e1 0 (by omega)) (e1 1 (by omega)) (e1 4 (by omega)) rfl rfl rfl, fun m hm => CMm_eq (hM m hm) (fun k _ h7 h8 => ar k m (by omega) h7 h8) (e4 m (by omega)) (fun _ _ _ => rfl), fun m hm => CI_eq (hI m hm) (fun k _ h7 h8 => ar k m hm h7 h8) (e4 m hm), fun m m1 m2 => CO_eq (hO m m1 m2) (fun k h7 h8 => ar k m m2 h7 h8) (e4 m m2), fun k hk => CQ_eq (hQ k hk) hN ?_ ?_ (fun m hm => ar 9 m hm (by omega) (by omega)) (fun m hm => ar 10 m hm (by omega) (by omega)) (fun _ _ => rfl)⟩, ⟨⟨?_, ?_, ?_, ?_, ?_, ?_, fun m hm => ?_⟩, ?_⟩, ?_⟩
    · rw [norm_a (by omega)]; exact (e3 k hk).1
    · rw [norm_a (by omega)]; exact (e3 k hk).2
    · show a.1 5 + 0 = _; rw [e1 5 (by omega)]; exact a1
    · show a.1 7 = _; rw [e1 7 (by omega)]; exact a2
    · show a.1 8 = _; rw [e1 8 (by omega)]; exact a3
    · show a.1 9 = _; rw [e1 9 (by omega)]; exact a4
    · show a.1 2 = _; rw [e1 2 (by omega)]; exact a5
    · show a.1 3 = _; rw [e1 3 (by omega)]; exact a6
    · rw [ar 4 m (by omega) (by omega) (by omega)]; exact a7 m hm
    · show a.1 6 = _; rw [e1 6 (by omega)]; exact a8
    · refine ⟨fun z => ?_, fun z m hm => ?_⟩
      · show a.1 2 = 0
        rw [e1 2 (by omega)]
        refine hE.1 ?_
        rw [← e1 1 (by omega)]
        exact z
      · rw [ar 1 m hm (by omega) (by omega), ar 9 m hm (by omega) (by omega)]
        refine hE.2 ?_ m hm
        rw [← e1 1 (by omega)]
        exact z
  exact key
theorem CRw_row {c : CS} {f f' : Nat → Int32} {w N : Nat} (h : CRw c f w N) (e : ∀ i, i < 226 → f' i = f i) : CRw c f' w N := by
  obtain ⟨⟨hG, hM, hI, hO, hQ⟩, ⟨⟨a1, a2, a3, a4, a5, a6, a7⟩, a8⟩, hE⟩ := h
  have hN := hG.2.1
  refine ⟨⟨CG_eq hG rfl rfl rfl (e 0 (by omega)) (e 1 (by omega)) (e 2 (by omega)), fun m hm => CMm_eq (hM m hm) (fun _ _ _ _ => rfl) rfl (fun v hv _ => e _ (by omega)), hI, hO, fun k hk => CQ_eq (hQ k hk) hN rfl rfl (fun _ _ => rfl) (fun _ _ => rfl) (fun v hv => e _ (by omega))⟩, ⟨⟨?_, ?_, ?_, ?_, ?_, ?_, fun m hm => ?_⟩, ?_⟩, hE⟩
  · rw [e 3 (by omega)]; exact a1
  · rw [e 5 (by omega)]; exact a2
  · rw [e 6 (by omega)]; exact a3
  · rw [e 7 (by omega)]; exact a4
  · rw [e 8 (by omega)]; exact a5
  · rw [e 9 (by omega)]; exact a6
  · have : mb f' m 10 = mb f m 10 := e _ (by omega)
    rw [this]; exact a7 m hm
  · rw [e 4 (by omega)]; exact a8
theorem EqC.refl (a : CS) : EqC a a := ⟨fun _ _ => rfl, fun _ _ _ _ _ _ => rfl, fun _ _ => ⟨rfl, rfl⟩, fun _ _ => rfl⟩
