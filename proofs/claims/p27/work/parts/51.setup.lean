/-! The kinds are set, the text is written. -/
theorem set_up {L : Nat} {xs : Nat → Int32} {K : ZZ → Prop} {a2 : Int32} {j : Nat} (hj : j < 3) (ej : pf_Law_low a2 3 = nI j) (hK : ∀ z, ZI z → z.2.2.2.2.2.2.2.1.1 0 = 0 → K z) : ∀ (n i : Nat) (z : ZZ), ZI z → z.2.2.2.2.2.2.2.1.1 0 = 0 → i ≤ 2 + j → 2 + j - i < n → wl_Law_law_16 L xs K n a2 (nI i) z := by
  intro n
  induction n with
  | zero => intro i z _ _ h1 h2; omega
  | succ n ih =>
    intro i z hz ho h1 h2
    unfold wl_Law_law_16
    rw [ej, show (2 : Int32) = nI 2 from rfl, nI_add]
    refine ⟨fun _ => hK z hz ho, fun q => ?_⟩
    have hi := lt_of (L := 2 + j) (by omega) h1 q
    have nx : ∀ z' : ZZ, ZI z' → z'.2.2.2.2.2.2.2.1.1 0 = 0 → ∀ x7 : Int32, x7 = nI i + 1 → wl_Law_law_16 L xs K n a2 x7 z' := fun z' hz' ho' x7 e7 => by
      rw [e7, nI_1]
      exact ih (i + 1) z' hz' ho' (by omega) (by omega)
    have ha : ∀ z' : ZZ, ZI z' → z'.2.2.2.2.2.2.2.1.1 0 = 0 → wp_Ham_setHamper z' (nI i - nI i / 4 * 4) ((1 : Int32) + (pf_Law_low (a2 >>> (((3 : Int32) * nI i) &&& 31)) 12)) (pf_Law_low (a2 >>> (((4 : Int32) + nI i) &&& 31)) 3) (fun x6 z5 => (∀ x7 : Int32, x7 = nI i + 1 → wl_Law_law_16 L xs K n a2 x7 z5)) := fun z' hz' ho' =>
      a_setHamper hz' ⟨fun e z5 _ hz5 _ kp => nx z5 hz5 (by rw [kp.2.2.2.2]; exact ho'), fun e z5 _ hz5 _ kp => nx z5 hz5 (by rw [kp.2.2.2.2]; exact ho')⟩
    exact a_join hz ⟨fun e z5 _ hz5 _ kp => ha z5 hz5 (by rw [kp.2.2.2.2]; exact ho), fun e z5 _ hz5 _ kp => ha z5 hz5 (by rw [kp.2.2.2.2]; exact ho)⟩
def putO (z : ZZ) (o : OS) : ZZ := (z.1, z.2.1, z.2.2.1, z.2.2.2.1, z.2.2.2.2.1, z.2.2.2.2.2.1, z.2.2.2.2.2.2.1, o, z.2.2.2.2.2.2.2.2)
def addO (o : OS) (v : Int32) : OS := oS (oT o (upd o.2 (o.1 0).toNatClampNeg v)) 0 (o.1 0 + 1)
theorem o_append {z : ZZ} {v : Int32} {n : Nat} {Post : Int32 → ZZ → Prop} (h1 : ¬ v < 1) (h2 : v ≤ 255) (hn : n < 100) (hl : z.2.2.2.2.2.2.2.1.1 0 = nI n) (h : ∀ x, Post x (putO z (addO z.2.2.2.2.2.2.2.1 v))) : wp_Ham_append z v Post := by
  unfold wp_Ham_append wp_Ord_add
  refine ⟨fun q => absurd q h1, fun _ => ⟨fun _ => ⟨fun _ => ⟨?_, ?_⟩, fun q => ?_⟩, fun q => absurd h2 q⟩⟩
  · rw [hl]
    exact vp_in_nI hn (by omega)
  · intro u1 e1 u2 e2
    refine ⟨fun q => absurd q (by decide), fun _ => ?_⟩
    have e : u2 = addO z.2.2.2.2.2.2.2.1 v := by
      rw [e2, e1]
      rfl
    rw [e]
    exact h _
  · rw [hl] at q
    exact absurd (nI_lt hn (by omega)) q
theorem addO_len {o : OS} {v : Int32} {n : Nat} (h : o.1 0 = nI n) : (addO o v).1 0 = nI (n + 1) := by
  show o.1 0 + 1 = _
  rw [h, nI_1]
theorem addO_at {o : OS} {v : Int32} {n : Nat} (hn : n < 100) (h : o.1 0 = nI n) : (addO o v).2 n = v := by
  show upd o.2 (o.1 0).toNatClampNeg v n = v
  rw [h, nI_clamp (by omega)]
  exact upd_s
theorem addO_ne {o : OS} {v : Int32} {n m : Nat} (hn : n < 100) (hm : m ≠ n) (h : o.1 0 = nI n) : (addO o v).2 m = o.2 m := by
  show upd o.2 (o.1 0).toNatClampNeg v m = o.2 m
  rw [h, nI_clamp (by omega)]
  exact upd_o hm
theorem text3 {z : ZZ} {K : ZZ → Prop} (hz : ZI z) (ho : z.2.2.2.2.2.2.2.1.1 0 = 0) (hK : ∀ z, ZI z → K z) : wp_Ham_append z 48 (fun x10 z9 => wp_Ham_append z9 43 (fun x12 z11 => wp_Ham_append z11 51 (fun x14 z13 => K z13))) := by
  have h0 : z.2.2.2.2.2.2.2.1.1 0 = nI 0 := ho
  have h1 := addO_len (v := 48) h0
  have h2 := addO_len (v := 43) h1
  have h3 := addO_len (v := 51) h2
  refine o_append (n := 0) (by decide) (by decide) (by omega) h0 (fun _ => o_append (z := putO z (addO z.2.2.2.2.2.2.2.1 48)) (n := 1) (by decide) (by decide) (by omega) h1 (fun _ => o_append (z := putO z (addO (addO z.2.2.2.2.2.2.2.1 48) 43)) (n := 2) (by decide) (by decide) (by omega) h2 (fun _ => hK _ ?_)))
  refine ⟨hz.1, hz.2.1, hz.2.2.1, Or.inr ⟨h3, ?_, ?_, ?_⟩, hz.2.2.2.2⟩
  · show (addO (addO (addO z.2.2.2.2.2.2.2.1 48) 43) 51).2 0 = 48
    rw [addO_ne (by omega) (by omega) h2, addO_ne (by omega) (by omega) h1, addO_at (by omega) h0]
  · show (addO (addO (addO z.2.2.2.2.2.2.2.1 48) 43) 51).2 1 = 43
    rw [addO_ne (by omega) (by omega) h2, addO_at (by omega) h1]
  · show (addO (addO (addO z.2.2.2.2.2.2.2.1 48) 43) 51).2 2 = 51
    rw [addO_at (by omega) h2]
