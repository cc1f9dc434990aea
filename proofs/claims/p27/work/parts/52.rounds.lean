/-! The loop over the script, and the end. -/
section ROUND
variable {L : Nat} {xs : Nat → Int32} {R : Int32 → ZZ → Prop} {K : ZZ → Prop}
theorem r_184 {z : ZZ} {i : Nat} {a4 : Int32} (hz : ZI z) (hR : ∀ z', ZI z' → R (nI (i + 1)) z') : wb_Law_law_184 L xs R K (nI i) a4 z := by
  unfold wb_Law_law_184
  refine ⟨fun _ => o_fore (z := z) hz (fun z' hz' => ⟨fun y => absurd y (by decide), fun _ => ?_⟩), fun _ => ?_⟩
  · intro x ex
    rw [ex, nI_1]
    exact hR z' hz'
  · intro x ex
    rw [ex, nI_1]
    exact hR z hz
theorem r_170 {z : ZZ} {i : Nat} {a4 : Int32} (hz : ZI z) (hR : ∀ z', ZI z' → R (nI (i + 1)) z') : wb_Law_law_170 L xs R K (nI i) a4 z := by
  obtain ⟨w, N, hI⟩ := hz.1.1
  have hI : Inv z.1 w N := hI
  unfold wb_Law_law_170
  exact ⟨fun _ => o_sound (z := z) hI ⟨fun y => absurd y (by decide), fun _ => r_184 hz hR⟩, fun _ => r_184 hz hR⟩
theorem r_loop (hK : ∀ z, ZI z → K z) (hL : L ≤ 260) : ∀ (n i : Nat) (z : ZZ), ZI z → i ≤ 26 → 26 - i < n → wl_Law_law_90 L xs K n (nI i) z := by
  intro n
  induction n with
  | zero => intro i z _ h1 h2; omega
  | succ n ih =>
    intro i z hz h1 h2
    obtain ⟨w, N, hI⟩ := hz.1.1
    have hG : InvG z.1 w N := hI.1.2.1
    unfold wl_Law_law_90
    refine ⟨fun _ => hK z hz, fun q => ?_⟩
    have hi := lt_of (L := 26) (by omega) h1 q
    have hR : ∀ z', ZI z' → wl_Law_law_90 L xs K n (nI (i + 1)) z' := fun z' hz' => ih (i + 1) z' hz' (by omega) (by omega)
    have e1 : (1 : Int32) + nI i = nI (1 + i) := nI_add 1 i
    refine ⟨?_, ?_⟩
    · rw [e1]
      intro y
      exact vp_in_nI (Nat.lt_of_not_le (fun q => absurd y (Int32.not_lt.mpr (nI_le q (by omega))))) (by omega)
    · intro x16 _
      refine o_all (z := z) hG ?_
      intro V eV
      refine acts_ok hz ⟨fun e z' he hz' es => ⟨fun y => absurd y (Int32.not_le.mpr he), fun _ => ?_⟩, fun e z' he hz' ht => ⟨fun _ => ?_, fun y => absurd he y⟩⟩
      · have ec : z'.1 = z.1 := (congrArg (·.1) es : _)
        refine o_all (z := z') (w := w) (N := N) (by rw [ec]; exact hG) ?_
        have es' : EqS (stZ z') (stZ z) := by rw [es]; exact EqS.rf _
        rw [same_all es', ← eV]
        refine ⟨fun _ => ?_, fun y => absurd (cmp_self V) y⟩
        unfold wb_Law_law_136
        exact ⟨fun _ => r_170 hz' hR, fun y => absurd he y⟩
      · unfold wb_Law_law_136
        refine ⟨fun y => absurd y (Int32.not_lt.mpr he), fun _ => ⟨fun _ => undo_ok (z := z') (s := stZ z) hz' ht hz.1 (fun m z2 hm hz2 he2 _ => ⟨fun y => absurd y (Int32.not_lt.mpr (nI_nn (by omega))), fun _ => ?_⟩), fun _ => r_170 hz' hR⟩⟩
        have ec : z2.1 = z.1 := he2.1
        refine o_all (z := z2) (w := w) (N := N) (by rw [ec]; exact hG) ?_
        rw [same_all he2, ← eV]
        exact ⟨fun _ => r_170 hz2 hR, fun y => absurd (cmp_self V) y⟩
end ROUND
theorem not_M {N : Nat} (h : N ≤ 12) : ¬ isM N 12 := by
  unfold isM
  intro q
  have := q.2
  have e : (12 : Int32).toInt = 12 := rfl
  omega
theorem o_m12 {z : ZZ} {w N : Nat} {Post : Int32 → ZZ → Prop} (hG : InvG z.1 w N) (h : Post (-1) z) : wp_Ham_member z 12 0 Post := by
  unfold wp_Ham_member wp_Clb_tellOfMember
  exact k_exists hG.2.2.2.1 hG.2.1 (fun q => absurd q (not_M hG.2.1)) (fun _ => ⟨fun _ => h, fun q => absurd rfl q⟩)
theorem o_w41 {z : ZZ} {w N : Nat} {Post : Int32 → ZZ → Prop} (hG : InvG z.1 w N) (h : Post (-1) z) : wp_Ham_weeksFor z 0 4 1 Post := by
  unfold wp_Ham_weeksFor
  exact k_exists hG.2.2.2.1 hG.2.1 (fun _ => ⟨fun q => absurd q (by decide), fun _ => ⟨fun _ => h, fun q => absurd (by decide) q⟩⟩) (fun _ => ⟨fun _ => h, fun q => absurd rfl q⟩)
theorem o_w06 {z : ZZ} {w N : Nat} {Post : Int32 → ZZ → Prop} (hG : InvG z.1 w N) (h : Post (-1) z) : wp_Ham_weeksFor z 0 0 6 Post := by
  unfold wp_Ham_weeksFor
  exact k_exists hG.2.2.2.1 hG.2.1 (fun _ => ⟨fun q => absurd q (by decide), fun _ => ⟨fun q => absurd q (by decide), fun _ => ⟨fun q => absurd q (by decide), fun _ => ⟨fun q => absurd q (by decide), fun _ => h⟩⟩⟩⟩) (fun _ => ⟨fun _ => h, fun q => absurd rfl q⟩)
theorem ZI.G {z : ZZ} (h : ZI z) : ∃ w N, InvG z.1 w N := by
  obtain ⟨w, N, h⟩ := h.1.1
  exact ⟨w, N, h.1.2.1⟩
/-- refused: what is no slot, no number, no member, no kind -/
theorem e_last {z : ZZ} (hz : ZI z) : wp_Ham_take z 2 (fun x64 z63 => ((x64 = (-1) → (wp_Ham_restore z63 (-1) (fun x66 z65 => ((x66 = (-1) → (wp_Ham_count z65 16 (fun x68 z67 => ((x68 = (-1) → (wp_Ham_member z67 12 0 (fun x70 z69 => ((x70 = (-1) → (wp_Ham_would z69 0 3 (fun x72 z71 => ((x72 = (-1) → (wp_Ham_weeksFor z71 0 4 1 (fun x74 z73 => ((x74 = (-1) → (wp_Ham_weeksFor z73 0 0 6 (fun x76 z75 => ((x76 = (-1) → True) ∧ (¬ x76 = (-1) → False))))) ∧ (¬ x74 = (-1) → False))))) ∧ (¬ x72 = (-1) → False))))) ∧ (¬ x70 = (-1) → False))))) ∧ (¬ x68 = (-1) → False))))) ∧ (¬ x66 = (-1) → False))))) ∧ (¬ x64 = (-1) → False))) :=
  take_2 hz (fun z1 h1 _ => ⟨fun _ => restore_m1 h1 (fun z2 h2 _ => ⟨fun _ => o_count16 ⟨fun _ => by
    obtain ⟨w, N, hG⟩ := h2.G
    exact o_m12 hG ⟨fun _ => o_would_3 hG ⟨fun _ => o_w41 hG ⟨fun _ => o_w06 hG ⟨fun _ => trivial, fun q => absurd rfl q⟩, fun q => absurd rfl q⟩, fun q => absurd rfl q⟩, fun q => absurd rfl q⟩, fun q => absurd rfl q⟩, fun q => absurd rfl q⟩), fun q => absurd rfl q⟩)
