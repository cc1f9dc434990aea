/-! The constructors: what is known of the two static arrays; contracts that make cells. -/
def pfF : Nat → Int32 := fun j => if j = 0 then 20 else if j = 1 then 40 else if j = 2 then 60 else 100
def sfF : Nat → Int32 := fun j => if j = 0 then 2 else if j = 1 then 2 else 1
def lkP : Cond := .fieldLinkNest "HamperClub$Hampers" 27 "HamperClub" "FIRST_PRICES" "[I" "HamperClub"
def lkS : Cond := .fieldLinkNest "HamperClub$Hampers" 36 "HamperClub" "FIRST_STOCKS" "[I" "HamperClub"
/-- the cells below N0 are nobody's: among them the two arrays -/
def SKn (N0 tp ts : Nat) (U : State) : Prop :=
  (va_Z "HamperClub" "FIRST_PRICES" "[I" (.ref tp) (fun q => N0 ≤ q) U U.heap ∧ va_T .int tp 4 (fun j => .int (pfF j)) (fun q => N0 ≤ q) U U.heap) ∧
  (va_Z "HamperClub" "FIRST_STOCKS" "[I" (.ref ts) (fun q => N0 ≤ q) U U.heap ∧ va_T .int ts 4 (fun j => .int (sfF j)) (fun q => N0 ≤ q) U U.heap) ∧ va_Nw lkP U ∧ va_Nw lkS U ∧ va_AO "HamperClub$State" U
theorem SKn.go {N0 tp ts : Nat} {s U : State} (h : SKn N0 tp ts s) (hW : s.WarmedH U.vm) (hq : ∀ a : Nat, a < s.heap.size → ¬ N0 ≤ a → U.heap[a]? = s.heap[a]?) : SKn N0 tp ts U := by
  obtain ⟨⟨h1, h2⟩, ⟨h3, h4⟩, h5, h6, h7⟩ := h
  exact ⟨⟨va_Z.moved hW.alike (h1.kept hq), va_T.moved hW.alike (h2.kept hq)⟩, ⟨va_Z.moved hW.alike (h3.kept hq), va_T.moved hW.alike (h4.kept hq)⟩, va_Nw.warmF hW h5, va_Nw.warmF hW h6, va_AO.moved hW.alike h7⟩
theorem SKn.calling {N0 tp ts : Nat} {U : State} {g : JFrame} {mk : MethodId} {a : Array Value} (h : SKn N0 tp ts U) : SKn N0 tp ts (U.calling g mk a) := by
  obtain ⟨⟨h1, h2⟩, ⟨h3, h4⟩, h5, h6, h7⟩ := h
  exact ⟨⟨va_Z.moved (u := U) (U := U.calling g mk a) (Vm.Alike.refl U.vm) h1, va_T.moved (u := U) (U := U.calling g mk a) (Vm.Alike.refl U.vm) h2⟩, ⟨va_Z.moved (u := U) (U := U.calling g mk a) (Vm.Alike.refl U.vm) h3, va_T.moved (u := U) (U := U.calling g mk a) (Vm.Alike.refl U.vm) h4⟩, va_Nw.same (u := U) rfl rfl h5, va_Nw.same (u := U) rfl rfl h6, va_AO.moved (u := U) (U := U.calling g mk a) (Vm.Alike.refl U.vm) h7⟩
def rmC (k mc ms : Nat) : Room := { frames := k, cells := mc, slots := ms, locals := 32 * k }
def PcC (G : GG) (N0 tp ts : Nat) (av : List Value) (sz : Nat) (w : va_W) : Array Value → State → Prop := va_Pc av (fun U => U.heap.size = sz ∧ va_P G.1 classes w U.heap ∧ KN G U ∧ va_D (fun q => N0 ≤ q) w ∧ SKn N0 tp ts U ∧ N0 ≤ sz)
/-- a constructor's contract -/
def CMc {S : Type} (l : Launch) (y : MethodName) (cc : ByteArray) (n k mc ms : Nat) (G : GG) (N0 tp ts : Nat) (av : List Value) (sz : Nat) (w : va_W) (Wf : S → va_W) (Post : S → Prop) : Prop := Met l y (.code y cc n none :: Tg) (rmC k mc ms) (PcC G N0 tp ts av sz w) (va_Qv Post (BW G (va_A w sz) Wf) (va_A w sz)) mc ms (va_A w sz)
theorem CMc.start {S : Type} {l : Launch} {y : MethodName} {cc : ByteArray} {n k mc ms : Nat} {G : GG} {N0 tp ts : Nat} {av : List Value} {sz : Nat} {w : va_W} {Wf : S → va_W} {Post : S → Prop} (hy : plainName y.cls = true) (hn : (lg_sl av).length ≤ n)
    (body : ∀ (p : Program) (e : Env) (s : State) (m : MethodId) (below : List Frame) (meth : Method) (c : Code) (A : Nat → Prop) (ls : Array Slot), p.tables.exec = Jvm.exec → c.code = cc → meth.sig.returnType = none → (∀ w ∈ Tg, w.before av.toArray s = true) → s.vm.findClass y.cls = some m.cls → c.maxLocals = n → meth.locks = false → (∀ q, s.heap.size ≤ q → A q) → va_S A s.heap s.heap [] → va_P G.1 classes w s.heap → va_D A w → KN G s → lv_has ls n (lv_args 0 av) → SKn N0 tp ts s → (∀ q, A q → N0 ≤ q) → meth.name = y.name →
      W p l e (rmC k mc ms) s m av.toArray below meth c s.heap [] 0 0 (MQ below (va_Qv Post (BW G A Wf) A) av.toArray s mc ms A) (F0 m 0 ls [])) : CMc l y cc n k mc ms G N0 tp ts av sz w Wf Post := by
  refine Met.ofW (cc := cc) (maxL := n) (ret := none) hy rfl ?_
  intro p e s m args below meth c s₁ B hml hv
  obtain ⟨rfl, hsz, hP, hK, hD0, hSK, hN⟩ := hv
  have hts := atoms_spec (ws := .code y cc n none :: Tg) B.pre
  subst hsz
  rw [lg_entry_eq]
  refine body p e s m below meth c (va_A w s.heap.size) _ B.exec B.bytes B.returns (fun w hw => hts w (List.mem_cons_of_mem _ hw)) (findClass_of_methodNamed B.named) hml B.notSynchronized (fun q h => Or.inr h) va_S.rf hP hD0.self hK (lv_entry av hn) hSK (fun q hq => ?_) (name_of_methodNamed B.named B.method).1
  rcases hq with ⟨k, e, h⟩ | h
  · exact hD0.2 k _ h
  · exact Nat.le_trans hN h
section CTOR
variable {p : Program} {l : Launch} {e : Env} {R : Room} {s : State} {m : MethodId} {args : Array Value} {below : List Frame} {meth : Method} {c : Code} {H : Heap} {locs : List Loc} {cells slots : Nat} {Q : State → Prop}
variable {cc : ByteArray} {pc : Nat} {ls : Array Slot} {rest st0 : List Value} {A : Nat → Prop} {G : GG} {N0 tp ts : Nat}
def IOk (y : MethodName) (b : ByteArray) (n : Nat) (own : String) (idx : Nat) (host : String) : Prop :=
  (Cond.methodLink own idx y ∈ Tg ∨ Cond.methodLinkNest own idx y host ∈ nestL) ∧ Cond.instanceMethod y ∈ Tg ∧ Cond.initialized y.cls ∈ Tg ∧ Cond.code y b n none ∈ Tg ∧ y.name = "<init>" ∧ (y.cls ≠ "java/lang/invoke/MethodHandle" ∧ y.cls ≠ "java/lang/invoke/VarHandle" ∧ (parseMethodDescriptor y.desc).map (fun d => d.parameters.length) = some 0)
theorem precC_ok {wc : va_W} (hK : KN G s) (hSK : SKn N0 tp ts s) (hAN : ∀ q, A q → N0 ≤ q) (hS : va_S A s.heap H locs) (hA : ∀ q, s.heap.size ≤ q → A q) (hP : va_P G.1 classes wc H) (hD : va_D A wc) (av : List Value) : FrameBlind (PcC G N0 tp ts av H.size wc) ∧ ∀ U : State, U.heap = H → s.WarmedH U.vm → PcC G N0 tp ts av H.size wc av.toArray U := by
  refine ⟨fun a U g mk q => ?_, fun U hU hW => ⟨rfl, by rw [hU], by rw [hU]; exact hP, hK.warm hW, hD.weaken (fun _ q _ h => hAN _ h), hSK.go hW (fun a h1 h2 => by rw [hU]; exact hS.2.1 a h1 (fun z => h2 (hAN a z))), hAN _ (hA _ hS.1)⟩⟩
  obtain ⟨q0, q1, qP, qK, qD, qS, qN⟩ := q
  exact ⟨q0, q1, qP, KN.same (u := U) rfl qK, qD, qS.calling, qN⟩
/-- behind 'new': the constructor on the last part of the world -/
theorem call_I {S : Type} {own host : String} {nL : Nat} {pre wc : va_W} {Wc : S → va_W} {y : MethodName} {b : ByteArray} {n k mc ms : Nat} {a : Nat} {Pst : S → Prop} {idx : Nat}
    (hx : p.tables.exec = Jvm.exec) (hb : c.code = cc) (hml : c.maxLocals = nL) (hts : ∀ w ∈ Tg, w.before args s = true) (hown : s.vm.findClass own = some m.cls) (hK : KN G s) (hA : ∀ q, s.heap.size ≤ q → A q) (hSK : SKn N0 tp ts s) (hAN : ∀ q, A q → N0 ≤ q)
    (hP : va_P G.1 classes (pre ++ wc) H) (hD : va_D A (pre ++ wc)) (hS : va_S A s.heap H locs)
    (ok : IOk y b n own idx host) (hR : k + 1 ≤ R.frames ∧ 8 + (n + 11) + 32 * k ≤ R.locals) (hcs : cells + mc ≤ R.cells ∧ slots + ms ≤ R.slots)
    (hl : ls.size = nL) (hst : st0 = .ref a :: rest) (hW : (rest.map fun v => v.category).sum ≤ 8) (hdg : decode cc pc = .ok (.invokespecial idx, 3))
    (hM : CMc l y b n k mc ms G N0 tp ts [.ref a] H.size wc Wc Pst)
    (kk : ∀ (u : S) (H1 : Heap) (locs1 : List Loc), Pst u → va_P G.1 classes (pre ++ Wc u) H1 → va_D A (pre ++ Wc u) → va_S A s.heap H1 locs1 → W p l e R s m args below meth c H1 locs1 (cells + mc) (slots + ms) Q (F0 m (pc + 3) ls rest)) : W p l e R s m args below meth c H locs cells slots Q (F0 m pc ls st0) := by
  have e0 : ∀ x : va_W, pre ++ x = pre ++ (x ++ []) := fun x => by simp
  rw [e0] at hP hD
  have hF := seg_free hD hS hA
  obtain ⟨g1, g2⟩ := precC_ok hK hSK hAN hS hA (sub_P hP) (sub_D hD) [.ref a]
  obtain ⟨f1, f2, f4, f5, fy, hd⟩ := ok
  have hrun : va_Run p l e R s m args below meth c H locs cells slots mc ms (F0 m pc ls st0) rest (va_Qv Pst (BW G (va_A wc H.size) Wc) (va_A wc H.size) (Value.ref a :: ([] : List Value)).toArray) (va_A wc H.size) := by
    rcases f1 with f1 | f1
    · exact va_runI (As := []) (rest := rest) ⟨hx, hb, hml, hown, hts⟩ hM (cwI 0 hts (Tg_in f5) rfl rfl rfl (hts _ f4) (hts _ f1) (hts _ f2) fy hd hR) ⟨g1, g2⟩ rfl rfl hl hst (by show 2 * 0 + _ ≤ 8; omega) hdg hcs
    · exact va_runIN (As := []) (rest := rest) ⟨hx, hb, hml, hown, hts⟩ hM ⟨va_cnB 0 hts (Tg_in f5) rfl rfl rfl (hK.2 _ f1) (hts _ f4) hd hR, fy, hts _ f2⟩ ⟨g1, g2⟩ rfl rfl hl hst (by show 2 * 0 + _ ≤ 8; omega) hdg hcs
  refine va_callv hrun hS (fun q _ h => hF q h) hF (fun u t H1 locs1 ht hvm hw hB hz1 hk1 hS1 => ?_)
  obtain ⟨hP1, hD1⟩ := hB
  rw [ht] at hP1
  obtain ⟨hP2, hD2⟩ := seg_join hP hD hk1 hF hP1 hD1
  rw [← e0] at hP2 hD2
  exact kk u H1 locs1 hw hP2 hD2 hS1
theorem newK {U : State} {D : va_G} {cl : List vw_C} {tys : List (ClassId × FieldType)} {c0 cA : ClassId} {ty : FieldType} {t0 : Nat} (hty : ty = .int ∨ ty = .long ∨ ty = .boolean ∨ ∃ C, ty = .object C) (hK : va_K D cl tys U) (hK1 : va_K D cl (tys ++ [(cA, ty)]) U) (ht : tys[t0]? = some (c0, ty)) : cA = c0 := by
  have h0 := (hK.2 t0 _ ht).2
  have h1 := (hK1.2 tys.length (cA, ty) (by simp)).2
  rcases hty with rfl | rfl | rfl | ⟨C, rfl⟩
  · exact Option.some.inj ((show U.vm.findClass _ = some cA from h1).symm.trans (show U.vm.findClass _ = some c0 from h0))
  · exact Option.some.inj ((show U.vm.findClass _ = some cA from h1).symm.trans (show U.vm.findClass _ = some c0 from h0))
  · exact Option.some.inj ((show U.vm.findClass _ = some cA from h1).symm.trans (show U.vm.findClass _ = some c0 from h0))
  · obtain ⟨_, _, _, _, _, e0⟩ := h0
    obtain ⟨_, _, _, _, _, e1⟩ := h1
    exact Option.some.inj (e1.symm.trans e0)
/-- System.arraycopy out of a static array of which only the first places are known, from its beginning on -/
theorem copyT {D : va_G} {cl : List vw_C} {tys : List (ClassId × FieldType)} {ws : va_W} {own : String} {index a : Nat} (hx : p.tables.exec = Jvm.exec) (hb : c.code = cc) (hml : c.maxLocals = ls.size) (hown : s.vm.findClass own = some m.cls) (hlink : (Cond.methodLink own index arraycopyName).before args s = true) (hnat : (Cond.native arraycopyName).before args s = true) (hstat : (Cond.static arraycopyName).before args s = true) (hini : (Cond.initialized "java/lang/System").before args s = true)
    (hK : va_K D cl tys s) (hP : va_P D cl ws H) (hD : va_D A ws) (hS : va_S A s.heap H locs) {b0 : Nat} {f : Nat → Int32} (hT : va_T .int b0 4 (fun j => .int (f j)) A s s.heap) (q1 t1 : Nat) {c1 : ClassId} {g : Nat → Int32} (ha1 : ws[q1]? = some (a, .inl (c1, 4, .inl g))) (ht1 : tys[t1]? = some (c1, .int))
    (hframes : 1 ≤ R.frames) (hlocals : (rest.map fun v => v.category).sum + (nativeFrameWords "java/lang/System" "arraycopy" 5 + 11) ≤ R.locals) (hdg : decode cc pc = .ok (.invokestatic index, 3))
    (kk : ∀ (H1 : Heap) (locs1 : List Loc), va_P D cl (ws.set q1 (a, .inl (c1, 4, .inl (va_cpy f g 0 0 4)))) H1 → va_D A (ws.set q1 (a, .inl (c1, 4, .inl (va_cpy f g 0 0 4)))) → va_S A s.heap H1 locs1 → W p l e R s m args below meth c H1 locs1 cells slots Q (F0 m (pc + 3) ls rest)) : W p l e R s m args below meth c H locs cells slots Q (F0 m pc ls (.int 4 :: .int 0 :: .ref a :: .int 0 :: .ref b0 :: rest)) := by
  obtain ⟨scr, z1, z2, z3, z4, z5, z6, z7⟩ := hT
  obtain ⟨w1, k0, w2, cm0, w3⟩ := z2
  have hq := hP q1 _ ha1
  obtain ⟨-, k1, v2, cm1, v3⟩ := (hK.2 t1 _ ht1).1 4 (fun j => .int (g j))
  intro T eT X
  have d0 : (0 : Int32).toNatClampNeg = 0 := by decide
  have d4 : (4 : Int32).toNatClampNeg = 4 := by decide
  obtain ⟨vm', X', step⟩ := X.arraycopy hx hown hlink hnat hstat hini (src := b0) (dst := a) (cs := scr) (cd := vp_cell c1 (4, .inl g)) (srcPos := 0) (destPos := 0) (n := 4)
    (by rw [eT, hS.2.1 b0 (Array.getElem?_eq_some_iff.mp z1).1 z7]; exact z1) (by rw [eT]; exact hq) w1 (fun _ h => by cases h) z3 (fun h => by cases h) w2 v2 w3 v3 (by simp [refKind]) (by decide) (by decide) (by decide)
    (by show ¬ (0 : Int) + 4 > (scr.slots.size : Int); omega) (by show ¬ (0 : Int) + 4 > ((arrV c1 4 (fun j => .int (g j))).slots.size : Int); rw [arrV_size]; omega)
    (fun vm₁ _ i hi => by
      have e1 : scr.slots.getD ((0 : Int32).toNatClampNeg + i) .null = .int (f i) := by
        rw [d0, Nat.zero_add, Array.getD_eq_getD_getElem?, z6 i (by rw [d4] at hi; exact hi)]
        rfl
      exact ⟨by rw [e1]; rfl, by rw [e1]; exact trivial⟩)
    (g := F0 m pc ls (.int 4 :: .int 0 :: .ref a :: .int 0 :: .ref b0 :: rest)) rfl (by rw [hml]) (rest := rest) rfl (by rw [hb]; exact hdg) hframes (by show 2 * 0 + _ + _ ≤ _; omega)
  have e1 : copied scr (vp_cell c1 (4, .inl g)) 0 0 4 = vp_cell c1 (4, .inl (va_cpy f g 0 0 4)) := va_copiedX (fun z => .int z) scr c1 f g z6 (Nat.le_refl 4)
  rw [e1] at X' step
  have hlt : a < H.size := (Array.getElem?_eq_some_iff.mp hq).1
  have oq : ∀ q : Nat, q ≠ a → (H.setIfInBounds a (vp_cell c1 (4, .inl (va_cpy f g 0 0 4))))[q]? = H[q]? := fun q h => by simp [Array.getElem?_setIfInBounds, Ne.symm h]
  have hAa := hD.2 q1 _ ha1
  obtain ⟨t, b1, b2⟩ := kk _ _ (hP.set hD ha1 (show (H.setIfInBounds a _)[a]? = some _ by simp [Array.getElem?_setIfInBounds, hlt]) oq) (hD.set ha1)
    ⟨by simp only [Array.size_setIfInBounds]; exact hS.1, fun q g1 g2 => (oq q (fun e => g2 (e ▸ hAa))).trans (hS.2.1 q g1 g2), fun q h => by
      rcases List.mem_append.mp h with h | h
      · exact hS.2.2 q h
      · obtain ⟨z, -, hz⟩ := List.mem_map.mp h
        exact hz ▸ hAa⟩ ((T.setVm vm').setCell a (vp_cell c1 (4, .inl (va_cpy f g 0 0 4)))) (by rw [← eT]; rfl) X'
  exact ⟨t, step t b1, b2⟩
theorem r_cret {S : Type} {Post : S → Prop} {Wf : S → va_W} {u : S} (hx : p.tables.exec = Jvm.exec) (hb : c.code = cc) (hr : meth.sig.returnType = none) (hlocks : meth.locks = false)
    (hP : va_P G.1 classes (Wf u) H) (hD : va_D A (Wf u)) (hS : va_S A s.heap H locs) (hd : decode cc pc = .ok (.return_, 1)) (hq : Post u) :
    W p l e R s m args below meth c H locs cells slots (MQ below (va_Qv Post (BW G A Wf) A) args s cells slots A) (F0 m pc ls []) :=
  W.vret hx hb hr (fun t ht hW => ⟨⟨u, rfl, hq, by rw [ht]; exact hP, hD⟩, hS.F ht⟩) hS.2.2 hd hlocks
end CTOR
theorem seg_get {ws pre wc : va_W} {i : Nat} (e : ws = pre ++ wc) : ws[pre.length + i]? = wc[i]? := by
  rw [e, List.getElem?_append_right (Nat.le_add_right _ _), Nat.add_sub_cancel_left]
theorem frRef_6 (a0 a1 a2 a3 a4 a5 : Nat → Nat → Nat) : va_up (va_up (va_up (va_up (va_up (va_up (fun _ => none) (0 : Int32).toNatClampNeg (some (a0 0 0))) (1 : Int32).toNatClampNeg (some (a1 0 0))) (2 : Int32).toNatClampNeg (some (a2 0 0))) (3 : Int32).toNatClampNeg (some (a3 0 0))) (4 : Int32).toNatClampNeg (some (a4 0 0))) (5 : Int32).toNatClampNeg (some (a5 0 0)) = frRef (fun j => if j = 0 then a0 else if j = 1 then a1 else if j = 2 then a2 else if j = 3 then a3 else if j = 4 then a4 else a5) := by
  have c0 : (0 : Int32).toNatClampNeg = 0 := by decide
  have c1 : (1 : Int32).toNatClampNeg = 1 := by decide
  have c2 : (2 : Int32).toNatClampNeg = 2 := by decide
  have c3 : (3 : Int32).toNatClampNeg = 3 := by decide
  have c4 : (4 : Int32).toNatClampNeg = 4 := by decide
  have c5 : (5 : Int32).toNatClampNeg = 5 := by decide
  rw [c0, c1, c2, c3, c4, c5]
  funext j
  rcases j with _ | _ | _ | _ | _ | _ | j
  · rfl
  · rfl
  · rfl
  · rfl
  · rfl
  · rfl
  · simp [va_up, frRef]
