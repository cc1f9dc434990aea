/-! States, the history, an action. -/
def CInv (c : CS) : Prop := ∃ w N, Inv c w N
theorem CInv.can {c : CS} (h : CInv c) : Can c := by
  obtain ⟨w, N, h⟩ := h
  exact h.1.1
theorem CInv.flag {c : CS} (h : CInv c) : c.1 1 = 0 ∨ c.1 1 = 1 := by
  obtain ⟨w, N, h⟩ := h
  exact h.flag
def SI (s : SS) : Prop := CInv s.1 ∧ (s.2.1 = 0 ∨ s.2.1 = 1) ∧ Can s.2.2.1 ∧ (s.2.1 = 1 → CInv s.2.2.1) ∧ (s.2.2.2.1 = 0 ∨ s.2.2.2.1 = 1) ∧ Can s.2.2.2.2 ∧ (s.2.2.2.1 = 1 → CInv s.2.2.2.2)
def Fk (s : SS) : Prop := Can s.1 ∧ Can s.2.2.1 ∧ Can s.2.2.2.2
def EqS (a s : SS) : Prop := a.1 = s.1 ∧ a.2.1 = s.2.1 ∧ (s.2.1 = 1 → a.2.2.1 = s.2.2.1) ∧ a.2.2.2.1 = s.2.2.2.1 ∧ (s.2.2.2.1 = 1 → a.2.2.2.2 = s.2.2.2.2)
theorem SI.fk {s : SS} (h : SI s) : Fk s := ⟨h.1.can, h.2.2.1, h.2.2.2.2.2.1⟩
theorem SI_eq {a s : SS} (h : SI s) (e : EqS a s) (k : Fk a) : SI a := by
  obtain ⟨h1, h2, h3, h4, h5, h6, h7⟩ := h
  obtain ⟨e1, e2, e3, e4, e5⟩ := e
  refine ⟨by rw [e1]; exact h1, by rw [e2]; exact h2, k.2.1, fun z => ?_, by rw [e4]; exact h5, k.2.2, fun z => ?_⟩
  · rw [e2] at z
    rw [e3 z]
    exact h4 z
  · rw [e4] at z
    rw [e5 z]
    exact h7 z
theorem EqS.trans {a b c : SS} (h : EqS a b) (g : EqS b c) : EqS a c := by
  obtain ⟨h1, h2, h3, h4, h5⟩ := h
  obtain ⟨g1, g2, g3, g4, g5⟩ := g
  refine ⟨h1.trans g1, h2.trans g2, fun z => (h3 (g2.trans z)).trans (g3 z), h4.trans g4, fun z => (h5 (g4.trans z)).trans (g5 z)⟩
theorem EqS.rf (a : SS) : EqS a a := ⟨rfl, rfl, fun _ => rfl, rfl, fun _ => rfl⟩
theorem t_copySn {a1 s1 : Int32} {a2 s2 : CS} {Post : (Int32 × CS × Int32 × CS) → Prop} (ca : Can a2) (cs : Can s2) (h1 : s1 = 0 ∨ s1 = 1) (h2 : s1 = 1 → CInv s2) (h : ∀ a', Can a' → (s1 = 1 → a' = s2) → Post (s1, a', s1, s2)) : wp_Snp_copyFrom (a1, a2, s1, s2) Post := by
  unfold wp_Snp_copyFrom
  refine ⟨h1, ?_⟩
  intro u1 e1
  rw [e1]
  refine ⟨fun z => h a2 ca (fun y => absurd (z.symm.trans y) (by decide)), fun z => ?_⟩
  have y : s1 = 1 := h1.resolve_left z
  exact t_copyC ca cs (h2 y).flag (h s2 cs (fun _ => rfl))
theorem t_copyS {a s : SS} {Post : (CS × Int32 × CS × Int32 × CS × CS × Int32 × CS × Int32 × CS) → Prop} (hs : SI s) (ka : Fk a) (h : ∀ a' : SS, EqS a' s → Fk a' → Post (a'.1, a'.2.1, a'.2.2.1, a'.2.2.2.1, a'.2.2.2.2, s.1, s.2.1, s.2.2.1, s.2.2.2.1, s.2.2.2.2)) : wp_Sta_copyFrom (a.1, a.2.1, a.2.2.1, a.2.2.2.1, a.2.2.2.2, s.1, s.2.1, s.2.2.1, s.2.2.2.1, s.2.2.2.2) Post := by
  obtain ⟨h1, h2, h3, h4, h5, h6, h7⟩ := hs
  unfold wp_Sta_copyFrom
  refine t_copyC ka.1 h1.can h1.flag ?_
  refine t_copySn ka.2.1 h3 h2 h4 (fun a2 c2 e2 => ?_)
  refine t_copySn ka.2.2 h6 h5 h7 (fun a3 c3 e3 => ?_)
  exact h (s.1, s.2.1, a2, s.2.2.2.1, a3) ⟨rfl, rfl, e2, rfl, e3⟩ ⟨h1.can, c2, c3⟩
def HI (his : Nat → Int32) : Prop := ∃ p n, p < 6 ∧ n ≤ 5 ∧ his 0 = nI p ∧ his 1 = nI n
def TX (o : OS) : Prop := o.1 0 = 0 ∨ (o.1 0 = 3 ∧ o.2 0 = 48 ∧ o.2 1 = 43 ∧ o.2 2 = 51)
def stZ (z : ZZ) : SS := (z.1, z.2.1, z.2.2.1, z.2.2.2.1, z.2.2.2.2.1)
def ZI (z : ZZ) : Prop := SI (stZ z) ∧ HI z.2.2.2.2.2.1 ∧ (∀ j, Fk (z.2.2.2.2.2.2.1 j)) ∧ TX z.2.2.2.2.2.2.2.1 ∧ Can z.2.2.2.2.2.2.2.2
/-- the state before the latest action lies on top -/
def Top (z : ZZ) (s : SS) : Prop := ∃ p n, p < 6 ∧ n ≤ 4 ∧ z.2.2.2.2.2.1 0 = nI p ∧ z.2.2.2.2.2.1 1 = nI (n + 1) ∧ EqS (z.2.2.2.2.2.2.1 ((p + 5) % 6)) s
def mkZ (s : SS) (his : Nat → Int32) (fr : Nat → SS) (o : OS) (tr : CS) : ZZ := (s.1, s.2.1, s.2.2.1, s.2.2.2.1, s.2.2.2.2, his, fr, o, tr)
theorem FI_up {fr : Nat → SS} {p : Nat} {a : SS} (h : ∀ j, Fk (fr j)) (ha : Fk a) : ∀ j, Fk (va_up fr p a j) := fun j => by
  by_cases e : j = p
  · rw [e, va_up_self]
    exact ha
  · rw [va_up_ne fr a e]
    exact h j
theorem t_draft {s : SS} {his : Nat → Int32} {fr : Nat → SS} {p : Nat} {Post : ((Nat → Int32) × (Nat → SS) × CS × Int32 × CS × Int32 × CS) → Prop} (hs : SI s) (hp : p < 6) (h0 : his 0 = nI p) (hf : ∀ j, Fk (fr j)) (h : ∀ a : SS, EqS a s → Fk a → Post (his, va_up fr p a, s.1, s.2.1, s.2.2.1, s.2.2.2.1, s.2.2.2.2)) : wp_His_draft (his, fr, s.1, s.2.1, s.2.2.1, s.2.2.2.1, s.2.2.2.2) Post := by
  unfold wp_His_draft
  refine ⟨by show vp_in (his 0) 6; rw [h0]; exact vp_in_nI hp (by omega), ?_⟩
  intro j1 ej
  have ej : j1 = p := by
    rw [ej]
    show (his 0).toNatClampNeg = p
    rw [h0, nI_clamp (by omega)]
  subst ej
  exact t_copyS (a := fr j1) (s := s) hs (hf j1) (fun a' e' k' => h a' e' k')
theorem rem6 {p : Nat} (h : p < 1000) : nI p + 1 - (nI p + 1) / 6 * 6 = nI ((p + 1) % 6) := by
  rw [nI_1]
  exact pk_rem (d := 6) (by omega) (by omega) (by omega)
theorem keep1 {n : Nat} (hn : n ≤ 5) : (if (5 : Int32) < nI n + 1 then (5 : Int32) else nI n + 1) = nI (if n < 5 then n + 1 else 5) := by
  rw [nI_1]
  by_cases h : n < 5
  · rw [if_pos h, if_neg (show ¬ (5 : Int32) < nI (n + 1) from Int32.not_lt.mpr (nI_le (a := n + 1) (b := 5) (by omega) (by omega)))]
  · have : n = 5 := by omega
    subst this
    decide
def keepH (his : Nat → Int32) : Nat → Int32 := upd (upd his 0 (his 0 + 1 - (his 0 + 1) / 6 * 6)) 1 (if (5 : Int32) < his 1 + 1 then 5 else his 1 + 1)
theorem t_rec {s : SS} {his : Nat → Int32} {fr : Nat → SS} {o : OS} {tr : CS} {x : Int32} {Post : Int32 → ZZ → Prop} (hn : x < 0 → Post x (mkZ s his fr o tr)) (hp : 0 ≤ x → Post x (mkZ s (keepH his) fr o tr)) : wp_Ham_recorded (s.1, s.2.1, s.2.2.1, s.2.2.2.1, s.2.2.2.2, his, fr, o, tr) x Post := by
  unfold wp_Ham_recorded
  refine ⟨fun q => hn q, fun q => ?_⟩
  unfold wp_His_keepDraft
  simp only [forall_eq]
  exact hp (Int32.not_lt.mp q)
theorem keepH_top {his : Nat → Int32} {fr : Nat → SS} {p n : Nat} {a s s' : SS} {o : OS} {tr : CS} (hp : p < 6) (hn : n ≤ 5) (h0 : his 0 = nI p) (h1 : his 1 = nI n) (e : EqS a s) : HI (keepH his) ∧ Top (mkZ s' (keepH his) (va_up fr p a) o tr) s := by
  have k0 : keepH his 0 = nI ((p + 1) % 6) := by
    show his 0 + 1 - (his 0 + 1) / 6 * 6 = _
    rw [h0]
    exact rem6 (by omega)
  have k1 : keepH his 1 = nI (if n < 5 then n + 1 else 5) := by
    show (if (5 : Int32) < his 1 + 1 then (5 : Int32) else his 1 + 1) = _
    rw [h1]
    exact keep1 hn
  refine ⟨⟨(p + 1) % 6, if n < 5 then n + 1 else 5, by omega, by split <;> omega, k0, k1⟩, (p + 1) % 6, if n < 5 then n else 4, by omega, by split <;> omega, k0, ?_, ?_⟩
  · show keepH his 1 = _
    rw [k1]
    by_cases z : n < 5
    · rw [if_pos z, if_pos z]
    · rw [if_neg z, if_neg z]
  · show EqS (va_up fr p a (((p + 1) % 6 + 5) % 6)) s
    rw [show ((p + 1) % 6 + 5) % 6 = p by omega, va_up_self]
    exact e
def ActH (cw : CS → (Int32 → CS → Prop) → Prop) (u : ZZ) (Post : Int32 → ZZ → Prop) : Prop := (wp_His_draft (u.2.2.2.2.2.1, u.2.2.2.2.2.2.1, u.1, u.2.1, u.2.2.1, u.2.2.2.1, u.2.2.2.2.1)  (fun z1 => (cw z1.2.2.1 (fun x3 z2 => (wp_Ham_recorded (z2, z1.2.2.2.1, z1.2.2.2.2.1, z1.2.2.2.2.2.1, z1.2.2.2.2.2.2, z1.1, z1.2.1, u.2.2.2.2.2.2.2.1, u.2.2.2.2.2.2.2.2) x3 (fun x5 z4 => Post x5 (z4.1, z4.2.1, z4.2.2.1, z4.2.2.2.1, z4.2.2.2.2.1, z4.2.2.2.2.2.1, z4.2.2.2.2.2.2.1, z4.2.2.2.2.2.2.2.1, z4.2.2.2.2.2.2.2.2)))))))
/-- an action that is refused leaves all but a draft -/
theorem act_err {cw : CS → (Int32 → CS → Prop) → Prop} {z : ZZ} (h : ZI z) {e : Int32} (he : e < 0) (hw : ∀ Post : Int32 → CS → Prop, Post e z.1 → cw z.1 Post) {Post : Int32 → ZZ → Prop} (hK : ∀ fr, ZI (mkZ (stZ z) z.2.2.2.2.2.1 fr z.2.2.2.2.2.2.2.1 z.2.2.2.2.2.2.2.2) → Post e (mkZ (stZ z) z.2.2.2.2.2.1 fr z.2.2.2.2.2.2.2.1 z.2.2.2.2.2.2.2.2)) : ActH cw z Post := by
  obtain ⟨hs, ⟨p, n, hp, hn, h0, h1⟩, hf, ht, hc⟩ := h
  unfold ActH
  refine t_draft (s := stZ z) hs hp h0 hf (fun a ea ka => hw _ (t_rec (s := stZ z) (fun _ => hK _ ⟨hs, ⟨p, n, hp, hn, h0, h1⟩, FI_up hf ka, ht, hc⟩) (fun q => absurd he (Int32.not_lt.mpr q))))
theorem act_ok {cw : CS → (Int32 → CS → Prop) → Prop} {z : ZZ} (h : ZI z) {x : Int32} {c' : CS} (hx : 0 ≤ x) (hc' : CInv c') (hw : ∀ Post : Int32 → CS → Prop, Post x c' → cw z.1 Post) {Post : Int32 → ZZ → Prop} (hK : ∀ his fr, ZI (mkZ (c', z.2.1, z.2.2.1, z.2.2.2.1, z.2.2.2.2.1) his fr z.2.2.2.2.2.2.2.1 z.2.2.2.2.2.2.2.2) → Top (mkZ (c', z.2.1, z.2.2.1, z.2.2.2.1, z.2.2.2.2.1) his fr z.2.2.2.2.2.2.2.1 z.2.2.2.2.2.2.2.2) (stZ z) → Post x (mkZ (c', z.2.1, z.2.2.1, z.2.2.2.1, z.2.2.2.2.1) his fr z.2.2.2.2.2.2.2.1 z.2.2.2.2.2.2.2.2)) : ActH cw z Post := by
  obtain ⟨hs, ⟨p, n, hp, hn, h0, h1⟩, hf, ht, hc⟩ := h
  unfold ActH
  refine t_draft (s := stZ z) hs hp h0 hf (fun a ea ka => hw _ (t_rec (s := (c', z.2.1, z.2.2.1, z.2.2.2.1, z.2.2.2.2.1)) (fun q => absurd q (Int32.not_lt.mpr hx)) (fun _ => ?_)))
  obtain ⟨k1, k2⟩ := keepH_top (fr := z.2.2.2.2.2.2.1) (s' := (c', z.2.1, z.2.2.1, z.2.2.2.1, z.2.2.2.2.1)) (o := z.2.2.2.2.2.2.2.1) (tr := z.2.2.2.2.2.2.2.2) hp hn h0 h1 ea
  exact hK _ _ ⟨⟨hc', hs.2⟩, k1, FI_up hf ka, ht, hc⟩ k2
/-- what an action leaves: the slots and the text -/
def Keep (z' z : ZZ) : Prop := z'.2.1 = z.2.1 ∧ z'.2.2.1 = z.2.2.1 ∧ z'.2.2.2.1 = z.2.2.2.1 ∧ z'.2.2.2.2.1 = z.2.2.2.2.1 ∧ z'.2.2.2.2.2.2.2.1 = z.2.2.2.2.2.2.2.1
/-- what an action's answer says: nothing is done, or what was lies on top -/
def AKo (z : ZZ) (Post : Int32 → ZZ → Prop) : Prop := (∀ e z', e < 0 → ZI z' → stZ z' = stZ z → Keep z' z → Post e z') ∧ ∀ x z', 0 ≤ x → ZI z' → Top z' (stZ z) → Keep z' z → Post x z'
def AK (z : ZZ) (Post : Int32 → ZZ → Prop) : Prop := (∀ e z', e < 0 → ZI z' → stZ z' = stZ z → Post e z') ∧ ∀ x z', 0 ≤ x → ZI z' → Top z' (stZ z) → Post x z'
theorem AK.o {z : ZZ} {Post : Int32 → ZZ → Prop} (h : AK z Post) : AKo z Post := ⟨fun e z' h1 h2 h3 _ => h.1 e z' h1 h2 h3, fun x z' h1 h2 h3 _ => h.2 x z' h1 h2 h3⟩
theorem act_op {cw : CS → (Int32 → CS → Prop) → Prop} {z : ZZ} (h : ZI z) (ho : ∀ w N, Inv z.1 w N → Op (cw z.1) z.1) {Post : Int32 → ZZ → Prop} (hK : AKo z Post) : ActH cw z Post := by
  obtain ⟨w, N, hI⟩ := h.1.1
  rcases ho w N hI with ⟨e, he, hw⟩ | ⟨x, c', w', N', hx, hc, hw⟩
  · exact act_err h he hw (fun fr hz => hK.1 _ _ he hz rfl ⟨rfl, rfl, rfl, rfl, rfl⟩)
  · exact act_ok h hx ⟨w', N', hc⟩ hw (fun his fr hz ht => hK.2 _ _ hx hz ht ⟨rfl, rfl, rfl, rfl, rfl⟩)
/-- undoing -/
theorem undo_ok {z : ZZ} {s : SS} (h : ZI z) (ht : Top z s) (hs : SI s) {Post : Int32 → ZZ → Prop} (hK : ∀ n z', n ≤ 4 → ZI z' → EqS (stZ z') s → z'.2.2.2.2.2.2.2.1 = z.2.2.2.2.2.2.2.1 → Post (nI n) z') : wp_Ham_undo z Post := by
  obtain ⟨h1, -, h3, h4, h5⟩ := h
  obtain ⟨p, n, hp, hn, e0, e1, ef⟩ := ht
  unfold wp_Ham_undo wp_His_putBackLatest
  refine ⟨fun q => ?_, fun q => ?_⟩
  · have q : z.2.2.2.2.2.1 1 = 0 := q
    rw [e1] at q
    exact absurd q (nI_ne0 (by omega) (by omega))
  · intro u1 eu1 u2 eu2
    have x0 : u2 0 = nI ((p + 5) % 6) := by
      rw [eu2, eu1]
      show z.2.2.2.2.2.1 0 + 5 - (z.2.2.2.2.2.1 0 + 5) / 6 * 6 = _
      rw [e0, show (5 : Int32) = nI 5 from rfl, nI_add]
      exact pk_rem (d := 6) (by omega) (by omega) (by omega)
    have x1 : u2 1 = nI n := by
      rw [eu2, eu1]
      show z.2.2.2.2.2.1 1 - 1 = _
      rw [e1, nI_m1]
    refine ⟨by rw [x0]; exact vp_in_nI (by omega) (by omega), ?_⟩
    intro j3 ej
    have ej : j3 = (p + 5) % 6 := by rw [ej, x0, nI_clamp (by omega)]
    subst ej
    have hfr : SI (z.2.2.2.2.2.2.1 ((p + 5) % 6)) := SI_eq hs ef (h3 _)
    refine t_copyS (a := stZ z) (s := z.2.2.2.2.2.2.1 ((p + 5) % 6)) hfr h1.fk (fun a' ea ka => ?_)
    refine ⟨fun q => absurd q (by decide), fun _ => ?_⟩
    show Post (u2 1) (mkZ a' u2 (va_up z.2.2.2.2.2.2.1 ((p + 5) % 6) (z.2.2.2.2.2.2.1 ((p + 5) % 6))) z.2.2.2.2.2.2.2.1 z.2.2.2.2.2.2.2.2)
    rw [x1]
    exact hK n _ hn ⟨SI_eq hfr ea ka, ⟨(p + 5) % 6, n, by omega, by omega, x0, x1⟩, FI_up h3 (h3 _), h4, h5⟩ (ea.trans ef) rfl
theorem same_all {z z' : ZZ} {w N : Nat} (e : EqS (stZ z') (stZ z)) : allV z'.1 z'.2.1 z'.2.2.2.1 w N = allV z.1 z.2.1 z.2.2.2.1 w N := by
  obtain ⟨e1, e2, -, e4, -⟩ := e
  have e1 : z'.1 = z.1 := e1
  have e2 : z'.2.1 = z.2.1 := e2
  have e4 : z'.2.2.2.1 = z.2.2.2.1 := e4
  rw [e1, e2, e4]
