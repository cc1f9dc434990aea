/-! Reading an order on both sides. -/
def RQ (r r' : RS) : Prop := r'.1 = r.1 ∧ r'.2.1 = r.2.1 ∧ r'.2.2.2 0 = r.2.2.2 0
theorem RQ.trans {a b c : RS} (h : RQ a b) (h' : RQ b c) : RQ a c := ⟨h'.1.trans h.1, h'.2.1.trans h.2.1, h'.2.2.trans h.2.2⟩
theorem RE.rq {r r' : RS} (h : RE r r') : RQ r r' := ⟨h.1, h.2.1, h.2.2 0 (by omega)⟩
theorem RQ.set (r : RS) {k : Nat} (v : Int32) (hk : k ≠ 0) : RQ r (rS r k v) := ⟨rfl, rfl, if_neg (fun e => hk e.symm)⟩
def two (L : Int32) : Prop := L = 43 ∨ L = 45 ∨ L = 104
def one (L : Int32) : Prop := L = 120 ∨ L = 108 ∨ L = 102
def OF (L a q : Int32) (o : OS) : Prop := o.1 3 = L ∧ (¬ L = 119 → o.1 2 = a) ∧ (two L → o.1 4 = q)
def RFF (L a q : Int32) (r : RS) : Prop := r.2.2.2 3 = L ∧ (¬ L = 119 → r.2.2.2 4 = a) ∧ (two L → r.2.2.2 5 = q)
theorem OT.set {t : Nat → Int32} {l i : Nat} {o : OS} (h : OT t l i o) {k : Nat} (v : Int32) (hk : 2 ≤ k) : OT t l i (oS o k v) := by
  refine ⟨?_, ?_, h.2.2⟩
  · show upd o.1 k v 0 = _
    rw [upd_o (by omega)]
    exact h.1
  · show upd o.1 k v 1 = _
    rw [upd_o (by omega)]
    exact h.2.1
theorem RT.set {t : Nat → Int32} {l i : Nat} {r : RS} (h : RT t l i r) {k : Nat} (v : Int32) (hk : 3 ≤ k) : RT t l i (rS r k v) := by
  refine ⟨?_, ?_, h.2.2⟩
  · show upd r.2.2.2 k v 1 = _
    rw [upd_o (by omega)]
    exact h.1
  · show upd r.2.2.2 k v 2 = _
    rw [upd_o (by omega)]
    exact h.2.1
/-- the outcome of reading at a place -/
def RdOut (t : Nat → Int32) (l i : Nat) (e : Int32) (i' : Nat) (L a q : Int32) : Prop := i' ≤ l ∧ i ≤ i' ∧ (e = 0 ∨ (e = 1 ∧ i < i' ∧ (L = 119 ∨ two L ∨ one L))) ∧
    (∀ (o : OS) (Post : Int32 → OS → Prop), OT t l i o → (∀ o', OT t l i' o' → o'.2 = o.2 → (e = 1 → OF L a q o') → Post e o') → wp_Ord_readOrder o Post) ∧
    (∀ (r : RS) (Post : Int32 → RS → Prop), RT t l i r → (∀ r', RT t l i' r' → RQ r r' → (e = 1 → RFF L a q r') → Post e r') → wp_Mod_readsOrder r Post)
theorem neg1_lt : (-1 : Int32) < 0 := by decide
theorem sm_nlt {v : Nat} (h : v < 1000) : ¬ nI v < 0 := Int32.not_lt.mpr (nI_nn (by omega))
theorem sm_nm1 {v : Nat} (h : v < 1000) : ¬ nI v = -1 := fun e => absurd (e ▸ neg1_lt : nI v < 0) (sm_nlt h)
theorem ro_sim (t : Nat → Int32) (l : Nat) (hl : l ≤ 100) (i : Nat) (hi : i ≤ l) : ∃ (e : Int32) (i' : Nat) (L a q : Int32), RdOut t l i e i' L a q := by
  by_cases hw : cd t l i = 119
  · have hil := cd_lt (t := t) (l := l) (i := i) (by rw [hw]; decide)
    refine ⟨1, i + 1, 119, 0, 0, by omega, by omega, Or.inr ⟨rfl, by omega, Or.inl rfl⟩, fun o Post hO q => ?_, fun r Post hR q => ?_⟩
    · unfold wp_Ord_readOrder
      refine k_next hl (by omega) hO ⟨fun _ => ?_, fun y => absurd hw y⟩
      intro u eu v ev
      rw [ev, eu]
      exact q _ (hO.set 119 (k := 3) (by omega)).step rfl (fun _ => ⟨rfl, fun y => absurd rfl y, fun y => absurd y (by unfold two; decide)⟩)
    · unfold wp_Mod_readsOrder
      refine t_code hl (by omega) hR ?_
      intro u eu
      rw [hw] at eu
      subst eu
      refine ⟨fun _ => ?_, fun y => absurd rfl y⟩
      intro v ev
      rw [ev]
      exact q _ (hR.set 119 (k := 3) (by omega)).step ((RQ.set r 119 (by omega)).trans (RE.step _ _).rq) (fun _ => ⟨rfl, fun y => absurd rfl y, fun y => absurd y (by unfold two; decide)⟩)
  · obtain ⟨x, i1, n1, n2, n3, n4, n5⟩ := nu_sim t l hl i hi
    -- the reference up to the letter
    have refH : ∀ (r : RS) (Post : Int32 → RS → Prop), RT t l i r → (∀ u9 : RS, RT t l i1 u9 → RQ r u9 → u9.2.2.2 3 = cd t l i1 → u9.2.2.2 4 = x → (((u9.2.2.2 3) = 43 → (((u9.2.2.2 4) < 0 → Post 0 u9) ∧ (¬ (u9.2.2.2 4) < 0 → (∀ u10 : RS, u10 = (rS u9 2 ((u9.2.2.2 2) + 1)) → (wp_Mod_number u10  (fun x12 u11 => (∀ u13 : RS, u13 = (rS u11 5 x12) → (((u13.2.2.2 5) < 0 → Post 0 u13) ∧ (¬ (u13.2.2.2 5) < 0 → Post 1 u13))))))))) ∧ (¬ (u9.2.2.2 3) = 43 → (((u9.2.2.2 3) = 45 → (((u9.2.2.2 4) < 0 → Post 0 u9) ∧ (¬ (u9.2.2.2 4) < 0 → (∀ u14 : RS, u14 = (rS u9 2 ((u9.2.2.2 2) + 1)) → (wp_Mod_number u14  (fun x16 u15 => (∀ u17 : RS, u17 = (rS u15 5 x16) → (((u17.2.2.2 5) < 0 → Post 0 u17) ∧ (¬ (u17.2.2.2 5) < 0 → Post 1 u17))))))))) ∧ (¬ (u9.2.2.2 3) = 45 → (((u9.2.2.2 3) = 104 → (((u9.2.2.2 4) < 0 → Post 0 u9) ∧ (¬ (u9.2.2.2 4) < 0 → (∀ u24 : RS, u24 = (rS u9 2 ((u9.2.2.2 2) + 1)) → (wp_Mod_number u24  (fun x26 u25 => (∀ u27 : RS, u27 = (rS u25 5 x26) → (((u27.2.2.2 5) < 0 → Post 0 u27) ∧ (¬ (u27.2.2.2 5) < 0 → Post 1 u27))))))))) ∧ (¬ (u9.2.2.2 3) = 104 → (((u9.2.2.2 4) < 0 → Post 0 u9) ∧ (¬ (u9.2.2.2 4) < 0 → (((u9.2.2.2 3) = 120 → (∀ u18 : RS, u18 = (rS u9 2 ((u9.2.2.2 2) + 1)) → (∀ u19 : RS, u19 = (rS u18 5 0) → (((u19.2.2.2 5) < 0 → Post 0 u19) ∧ (¬ (u19.2.2.2 5) < 0 → Post 1 u19))))) ∧ (¬ (u9.2.2.2 3) = 120 → (((u9.2.2.2 3) = 108 → (∀ u20 : RS, u20 = (rS u9 2 ((u9.2.2.2 2) + 1)) → (∀ u21 : RS, u21 = (rS u20 5 0) → (((u21.2.2.2 5) < 0 → Post 0 u21) ∧ (¬ (u21.2.2.2 5) < 0 → Post 1 u21))))) ∧ (¬ (u9.2.2.2 3) = 108 → (((u9.2.2.2 3) = 102 → (∀ u22 : RS, u22 = (rS u9 2 ((u9.2.2.2 2) + 1)) → (∀ u23 : RS, u23 = (rS u22 5 0) → (((u23.2.2.2 5) < 0 → Post 0 u23) ∧ (¬ (u23.2.2.2 5) < 0 → Post 1 u23))))) ∧ (¬ (u9.2.2.2 3) = 102 → Post 0 u9))))))))))))))) → wp_Mod_readsOrder r Post := by
      intro r Post hR q
      unfold wp_Mod_readsOrder
      refine t_code hl (by omega) hR ?_
      intro u3 e3
      subst e3
      refine ⟨fun y => absurd y hw, fun _ => n5 _ _ (hR.set _ (k := 3) (by omega)) (fun r' a b => ?_)⟩
      intro u6 e6
      refine t_code (t := t) (l := l) (i := i1) hl (by omega) (by rw [e6]; exact a.set _ (by omega)) ?_
      intro u9 e9
      subst e6
      subst e9
      exact q _ ((a.set _ (k := 4) (by omega)).set _ (k := 3) (by omega)) ((((RQ.set r _ (by omega)).trans b.rq).trans (RQ.set _ _ (by omega))).trans (RQ.set _ _ (by omega))) rfl rfl
    have clsH : ∀ (o : OS) (Post : Int32 → OS → Prop), OT t l i o → (∀ u5 : OS, OT t l i1 u5 → u5.2 = o.2 → u5.1 2 = x → ((u5.1 2 = -1 → Post 0 u5) ∧ (¬ u5.1 2 = -1 → ∀ u8 : OS, u8 = oS u5 3 (cd t l i1) → (((u8.1 3) = 43 → (((u8.1 3) = 120 → (∀ u9 : OS, u9 = (oS u8 1 ((u8.1 1) + 1)) → Post 1 u9)) ∧ (¬ (u8.1 3) = 120 → (((u8.1 3) = 108 → (∀ u10 : OS, u10 = (oS u8 1 ((u8.1 1) + 1)) → Post 1 u10)) ∧ (¬ (u8.1 3) = 108 → (((u8.1 3) = 102 → (∀ u15 : OS, u15 = (oS u8 1 ((u8.1 1) + 1)) → Post 1 u15)) ∧ (¬ (u8.1 3) = 102 → (∀ u11 : OS, u11 = (oS u8 1 ((u8.1 1) + 1)) → (wp_Ord_readNumber u11  (fun x13 u12 => (∀ u14 : OS, u14 = (oS u12 4 x13) → (((u14.1 4) = (-1) → Post 0 u14) ∧ (¬ (u14.1 4) = (-1) → Post 1 u14))))))))))))) ∧ (¬ (u8.1 3) = 43 → (((u8.1 3) = 45 → (((u8.1 3) = 120 → (∀ u16 : OS, u16 = (oS u8 1 ((u8.1 1) + 1)) → Post 1 u16)) ∧ (¬ (u8.1 3) = 120 → (((u8.1 3) = 108 → (∀ u17 : OS, u17 = (oS u8 1 ((u8.1 1) + 1)) → Post 1 u17)) ∧ (¬ (u8.1 3) = 108 → (((u8.1 3) = 102 → (∀ u22 : OS, u22 = (oS u8 1 ((u8.1 1) + 1)) → Post 1 u22)) ∧ (¬ (u8.1 3) = 102 → (∀ u18 : OS, u18 = (oS u8 1 ((u8.1 1) + 1)) → (wp_Ord_readNumber u18  (fun x20 u19 => (∀ u21 : OS, u21 = (oS u19 4 x20) → (((u21.1 4) = (-1) → Post 0 u21) ∧ (¬ (u21.1 4) = (-1) → Post 1 u21))))))))))))) ∧ (¬ (u8.1 3) = 45 → (((u8.1 3) = 104 → (((u8.1 3) = 120 → (∀ u26 : OS, u26 = (oS u8 1 ((u8.1 1) + 1)) → Post 1 u26)) ∧ (¬ (u8.1 3) = 120 → (((u8.1 3) = 108 → (∀ u27 : OS, u27 = (oS u8 1 ((u8.1 1) + 1)) → Post 1 u27)) ∧ (¬ (u8.1 3) = 108 → (((u8.1 3) = 102 → (∀ u32 : OS, u32 = (oS u8 1 ((u8.1 1) + 1)) → Post 1 u32)) ∧ (¬ (u8.1 3) = 102 → (∀ u28 : OS, u28 = (oS u8 1 ((u8.1 1) + 1)) → (wp_Ord_readNumber u28  (fun x30 u29 => (∀ u31 : OS, u31 = (oS u29 4 x30) → (((u31.1 4) = (-1) → Post 0 u31) ∧ (¬ (u31.1 4) = (-1) → Post 1 u31))))))))))))) ∧ (¬ (u8.1 3) = 104 → (((u8.1 3) = 120 → (∀ u23 : OS, u23 = (oS u8 1 ((u8.1 1) + 1)) → Post 1 u23)) ∧ (¬ (u8.1 3) = 120 → (((u8.1 3) = 108 → (∀ u24 : OS, u24 = (oS u8 1 ((u8.1 1) + 1)) → Post 1 u24)) ∧ (¬ (u8.1 3) = 108 → (((u8.1 3) = 102 → (∀ u25 : OS, u25 = (oS u8 1 ((u8.1 1) + 1)) → Post 1 u25)) ∧ (¬ (u8.1 3) = 102 → Post 0 u8))))))))))))))) → wp_Ord_readOrder o Post := by
      intro o Post hO q
      unfold wp_Ord_readOrder
      refine k_next hl (by omega) hO ⟨fun y => absurd y hw, fun _ => n4 _ _ hO (fun o' a b => ?_)⟩
      intro u5 e5
      subst e5
      have q1 := q _ (a.set x (k := 2) (by omega)) b.1 rfl
      exact ⟨q1.1, fun y => k_next (t := t) (l := l) (i := i1) hl (by omega) (a.set x (k := 2) (by omega)) (q1.2 y)⟩
    rcases n3 with hx | ⟨⟨v, hv, hx⟩, hii⟩
    · -- no number
      refine ⟨0, i1, 0, 0, 0, n1, n2, Or.inl rfl, fun o Post hO q => clsH o Post hO (fun u5 a b c => ?_), fun r Post hR q => refH r Post hR (fun u9 a b c d => ?_)⟩
      · exact ⟨fun _ => q _ a b (fun y => absurd y (by decide)), fun y => absurd (c.trans hx) y⟩
      · have hlt : u9.2.2.2 4 < 0 := by rw [d, hx]; exact neg1_lt
        have fin := q _ a b (fun y => absurd y (by decide))
        exact ⟨fun _ => ⟨fun _ => fin, fun y => absurd hlt y⟩, fun _ => ⟨fun _ => ⟨fun _ => fin, fun y => absurd hlt y⟩, fun _ => ⟨fun _ => ⟨fun _ => fin, fun y => absurd hlt y⟩, fun _ => ⟨fun _ => fin, fun y => absurd hlt y⟩⟩⟩⟩
    · have xm : ¬ x = -1 := by rw [hx]; exact sm_nm1 hv
      have xn : ¬ x < 0 := by rw [hx]; exact sm_nlt hv
      by_cases ht : two (cd t l i1)
      · have hl1 := cd_lt (t := t) (l := l) (i := i1) (fun y => by rw [y] at ht; exact absurd ht (by unfold two; decide))
        obtain ⟨x', i2, m1, m2, m3, m4, m5⟩ := nu_sim t l hl (i1 + 1) (by omega)
        have l120 : ¬ cd t l i1 = 120 := fun y => by rw [y] at ht; exact absurd ht (by unfold two; decide)
        have l108 : ¬ cd t l i1 = 108 := fun y => by rw [y] at ht; exact absurd ht (by unfold two; decide)
        have l102 : ¬ cd t l i1 = 102 := fun y => by rw [y] at ht; exact absurd ht (by unfold two; decide)
        have l119 : ¬ cd t l i1 = 119 := fun y => by rw [y] at ht; exact absurd ht (by unfold two; decide)
        have tailO : ∀ (e : Int32) (Post : Int32 → OS → Prop) (o u5 : OS), (x' = -1 → e = 0) → (¬ x' = -1 → e = 1) → OT t l i1 u5 → u5.2 = o.2 → u5.1 2 = x → (∀ o', OT t l i2 o' → o'.2 = o.2 → (e = 1 → OF (cd t l i1) x x' o') → Post e o') → ∀ u11, u11 = oS (oS u5 3 (cd t l i1)) 1 ((oS u5 3 (cd t l i1)).1 1 + 1) → wp_Ord_readNumber u11 (fun x13 u12 => (∀ u14 : OS, u14 = (oS u12 4 x13) → (((u14.1 4) = (-1) → Post 0 u14) ∧ (¬ (u14.1 4) = (-1) → Post 1 u14)))) := by
          intro e Post o u5 h1 h2 a b c q u11 e11
          rw [e11]
          refine m4 _ _ (a.set (cd t l i1) (k := 3) (by omega)).step (fun o' a' b' => ?_)
          intro u14 e14
          rw [e14]
          have g : Post e (oS o' 4 x') := q _ (a'.set x' (k := 4) (by omega)) (b'.1.trans b) (fun _ => ⟨b'.2 3 (by omega), fun _ => (b'.2 2 (by omega)).trans c, fun _ => rfl⟩)
          refine ⟨fun y => ?_, fun y => ?_⟩
          · have y : x' = -1 := y
            rw [h1 y] at g
            exact g
          · have y : ¬ x' = -1 := y
            rw [h2 y] at g
            exact g
        have tailR : ∀ (e : Int32) (Post : Int32 → RS → Prop) (r u9 : RS), (x' < 0 → e = 0) → (¬ x' < 0 → e = 1) → RT t l i1 u9 → RQ r u9 → u9.2.2.2 3 = cd t l i1 → u9.2.2.2 4 = x → (∀ r', RT t l i2 r' → RQ r r' → (e = 1 → RFF (cd t l i1) x x' r') → Post e r') → ((u9.2.2.2 4) < 0 → Post 0 u9) ∧ (¬ (u9.2.2.2 4) < 0 → (∀ u10 : RS, u10 = (rS u9 2 ((u9.2.2.2 2) + 1)) → (wp_Mod_number u10  (fun x12 u11 => (∀ u13 : RS, u13 = (rS u11 5 x12) → (((u13.2.2.2 5) < 0 → Post 0 u13) ∧ (¬ (u13.2.2.2 5) < 0 → Post 1 u13))))))) := by
          intro e Post r u9 h1 h2 a b c d q
          refine ⟨fun y => absurd (d ▸ y) xn, fun _ => ?_⟩
          intro u10 e10
          rw [e10]
          refine m5 _ _ a.step (fun r' a' b' => ?_)
          intro u13 e13
          rw [e13]
          have g : Post e (rS r' 5 x') := q _ (a'.set x' (k := 5) (by omega)) (((b.trans (RE.step _ _).rq).trans b'.rq).trans (RQ.set _ _ (by omega))) (fun _ => ⟨(b'.2.2 3 (by omega)).trans c, fun _ => (b'.2.2 4 (by omega)).trans d, fun _ => rfl⟩)
          refine ⟨fun y => ?_, fun y => ?_⟩
          · have y : x' < 0 := y
            rw [h1 y] at g
            exact g
          · have y : ¬ x' < 0 := y
            rw [h2 y] at g
            exact g
        have go : ∀ e : Int32, (e = 0 ∨ (e = 1 ∧ i < i2 ∧ (cd t l i1 = 119 ∨ two (cd t l i1) ∨ one (cd t l i1)))) → (x' = -1 → e = 0) → (¬ x' = -1 → e = 1) → (x' < 0 → e = 0) → (¬ x' < 0 → e = 1) → RdOut t l i e i2 (cd t l i1) x x' := by
          intro e he h1 h2 h3 h4
          refine ⟨m1, by omega, he, fun o Post hO q => clsH o Post hO (fun u5 a b c => ⟨fun y => absurd (c.symm.trans y) xm, fun _ => ?_⟩), fun r Post hR q => refH r Post hR (fun u9 a b c d => ?_)⟩
          · intro u8 e8
            subst e8
            have tl := tailO e Post o u5 h1 h2 a b c q
            have T : ∀ X Y Z : Prop, (∀ u9 : OS, u9 = (oS (oS u5 3 (cd t l i1)) 1 (((oS u5 3 (cd t l i1)).1 1) + 1)) → wp_Ord_readNumber u9 (fun x13 u12 => (∀ u14 : OS, u14 = (oS u12 4 x13) → (((u14.1 4) = (-1) → Post 0 u14) ∧ (¬ (u14.1 4) = (-1) → Post 1 u14))))) → (((oS u5 3 (cd t l i1)).1 3) = 120 → X) ∧ (¬ ((oS u5 3 (cd t l i1)).1 3) = 120 → (((oS u5 3 (cd t l i1)).1 3) = 108 → Y) ∧ (¬ ((oS u5 3 (cd t l i1)).1 3) = 108 → (((oS u5 3 (cd t l i1)).1 3) = 102 → Z) ∧ (¬ ((oS u5 3 (cd t l i1)).1 3) = 102 → (∀ u9 : OS, u9 = (oS (oS u5 3 (cd t l i1)) 1 (((oS u5 3 (cd t l i1)).1 1) + 1)) → wp_Ord_readNumber u9 (fun x13 u12 => (∀ u14 : OS, u14 = (oS u12 4 x13) → (((u14.1 4) = (-1) → Post 0 u14) ∧ (¬ (u14.1 4) = (-1) → Post 1 u14)))))))) := fun X Y Z h => ⟨fun y => absurd y l120, fun _ => ⟨fun y => absurd y l108, fun _ => ⟨fun y => absurd y l102, fun _ => h⟩⟩⟩
            refine ⟨fun _ => T _ _ _ tl, fun y1 => ⟨fun _ => T _ _ _ tl, fun y2 => ⟨fun _ => T _ _ _ tl, fun y3 => ?_⟩⟩⟩
            exact absurd ht (fun z => z.elim y1 (fun z => z.elim y2 y3))
          · have tl := tailR e Post r u9 h3 h4 a b c d q
            rw [← c] at ht
            exact ⟨fun _ => tl, fun y1 => ⟨fun _ => tl, fun y2 => ⟨fun _ => tl, fun y3 => absurd ht (fun z => z.elim y1 (fun z => z.elim y2 y3))⟩⟩⟩
        rcases m3 with hx' | ⟨⟨v', hv', hx'⟩, hii'⟩
        · exact ⟨0, i2, cd t l i1, x, x', go 0 (Or.inl rfl) (fun _ => rfl) (fun y => absurd hx' y) (fun _ => rfl) (fun y => absurd (by rw [hx']; exact neg1_lt) y)⟩
        · exact ⟨1, i2, cd t l i1, x, x', go 1 (Or.inr ⟨rfl, by omega, Or.inr (Or.inl ht)⟩) (fun y => absurd (hx' ▸ y) (sm_nm1 hv')) (fun _ => rfl) (fun y => absurd (hx' ▸ y) (sm_nlt hv')) (fun _ => rfl)⟩
      · have t43 : ¬ cd t l i1 = 43 := fun y => ht (Or.inl y)
        have t45 : ¬ cd t l i1 = 45 := fun y => ht (Or.inr (Or.inl y))
        have t104 : ¬ cd t l i1 = 104 := fun y => ht (Or.inr (Or.inr y))
        by_cases ho : one (cd t l i1)
        · have hl1 := cd_lt (t := t) (l := l) (i := i1) (fun y => by rw [y] at ho; exact absurd ho (by unfold one; decide))
          refine ⟨1, i1 + 1, cd t l i1, x, 0, by omega, by omega, Or.inr ⟨rfl, by omega, Or.inr (Or.inr ho)⟩, fun o Post hO q => clsH o Post hO (fun u5 a b c => ⟨fun y => absurd (c.symm.trans y) xm, fun _ => ?_⟩), fun r Post hR q => refH r Post hR (fun u9 a b c d => ?_)⟩
          · intro u8 e8
            subst e8
            have fin : ∀ u9, u9 = oS (oS u5 3 (cd t l i1)) 1 ((oS u5 3 (cd t l i1)).1 1 + 1) → Post 1 u9 := by
              intro u9 e9
              rw [e9]
              exact q _ (a.set (cd t l i1) (k := 3) (by omega)).step b (fun _ => ⟨rfl, fun _ => c, fun y => absurd y ht⟩)
            refine ⟨fun y => absurd y t43, fun _ => ⟨fun y => absurd y t45, fun _ => ⟨fun y => absurd y t104, fun _ => ⟨fun _ => fin, fun y1 => ⟨fun _ => fin, fun y2 => ⟨fun _ => fin, fun y3 => ?_⟩⟩⟩⟩⟩⟩
            exact absurd ho (fun z => z.elim y1 (fun z => z.elim y2 y3))
          · have fin : ∀ u18 : RS, u18 = (rS u9 2 ((u9.2.2.2 2) + 1)) → (∀ u19 : RS, u19 = (rS u18 5 0) → (((u19.2.2.2 5) < 0 → Post 0 u19) ∧ (¬ (u19.2.2.2 5) < 0 → Post 1 u19))) := by
              intro u18 e18 u19 e19
              subst e18 e19
              refine ⟨fun y => absurd y (by show ¬ (0 : Int32) < 0; decide), fun _ => ?_⟩
              exact q _ (a.step.set 0 (k := 5) (by omega)) ((b.trans (RE.step _ _).rq).trans (RQ.set _ _ (by omega))) (fun _ => ⟨c, fun _ => d, fun y => absurd y ht⟩)
            have dn : ¬ u9.2.2.2 4 < 0 := by rw [d]; exact xn
            rw [← c] at t43 t45 t104 ho
            refine ⟨fun y => absurd y t43, fun _ => ⟨fun y => absurd y t45, fun _ => ⟨fun y => absurd y t104, fun _ => ⟨fun y => absurd y dn, fun _ => ⟨fun _ => fin, fun y1 => ⟨fun _ => fin, fun y2 => ⟨fun _ => fin, fun y3 => ?_⟩⟩⟩⟩⟩⟩⟩
            exact absurd ho (fun z => z.elim y1 (fun z => z.elim y2 y3))
        · have t120 : ¬ cd t l i1 = 120 := fun y => ho (Or.inl y)
          have t108 : ¬ cd t l i1 = 108 := fun y => ho (Or.inr (Or.inl y))
          have t102 : ¬ cd t l i1 = 102 := fun y => ho (Or.inr (Or.inr y))
          refine ⟨0, i1, 0, 0, 0, n1, n2, Or.inl rfl, fun o Post hO q => clsH o Post hO (fun u5 a b c => ⟨fun y => absurd (c.symm.trans y) xm, fun _ => ?_⟩), fun r Post hR q => refH r Post hR (fun u9 a b c d => ?_)⟩
          · intro u8 e8
            subst e8
            have fin := q _ (a.set (cd t l i1) (k := 3) (by omega)) b (fun y => absurd y (by decide))
            exact ⟨fun y => absurd y t43, fun _ => ⟨fun y => absurd y t45, fun _ => ⟨fun y => absurd y t104, fun _ => ⟨fun y => absurd y t120, fun _ => ⟨fun y => absurd y t108, fun _ => ⟨fun y => absurd y t102, fun _ => fin⟩⟩⟩⟩⟩⟩
          · have dn : ¬ u9.2.2.2 4 < 0 := by rw [d]; exact xn
            have fin := q _ a b (fun y => absurd y (by decide))
            rw [← c] at t43 t45 t104 t120 t108 t102
            exact ⟨fun y => absurd y t43, fun _ => ⟨fun y => absurd y t45, fun _ => ⟨fun y => absurd y t104, fun _ => ⟨fun y => absurd y dn, fun _ => ⟨fun y => absurd y t120, fun _ => ⟨fun y => absurd y t108, fun _ => ⟨fun y => absurd y t102, fun _ => fin⟩⟩⟩⟩⟩⟩⟩
