/-! The contracts' form: a world of cells, what is known of the tables, the start, the end, the calls. -/
abbrev GG : Type := va_G × (Nat → ClassId)
def tysG (G : GG) : List (ClassId × FieldType) := [(G.2 0, .int), (G.2 1, .long), (G.2 2, .int), (G.2 3, .object "HamperClub$State")]
def KN (G : GG) (U : State) : Prop := va_K G.1 classes (tysG G) U ∧ ∀ w ∈ nestL, va_Nw w U
def isNest : Cond → Bool
  | .methodLinkNest .. => true
  | _ => false
theorem nest_all : nestL.all isNest = true := by decide +kernel
theorem nest_form {w : Cond} (h : w ∈ nestL) : ∃ a i x b, w = .methodLinkNest a i x b := by
  have h1 := List.all_eq_true.mp nest_all w h
  cases w <;> first | exact ⟨_, _, _, _, rfl⟩ | (simp [isNest] at h1; done)
theorem KN.warm {G : GG} {s U : State} (hW : s.WarmedH U.vm) (h : KN G s) : KN G U := by
  refine ⟨va_K.moved hW.alike h.1, fun w hw => ?_⟩
  obtain ⟨a, i, x, b, rfl⟩ := nest_form hw
  exact va_Nw.warmM hW (h.2 _ hw)
theorem KN.same {G : GG} {u U : State} (hv : u.vm = U.vm) (h : KN G u) : KN G U := by
  refine ⟨va_K.moved (u := u) (U := U) (by rw [hv]; exact Vm.Alike.refl U.vm) h.1, fun w hw => ?_⟩
  have h2 := h.2 w hw
  obtain ⟨a, i, x, b, rfl⟩ := nest_form hw
  exact va_Nw.same rfl hv h2
def rmK (k : Nat) : Room := { frames := k, cells := 0, slots := 0, locals := 32 * k }
def PcW (G : GG) (av : List Value) (sz : Nat) (w : va_W) : Array Value → State → Prop := va_Pc av (fun U => U.heap.size = sz ∧ va_P G.1 classes w U.heap ∧ KN G U ∧ va_D (fun _ => True) w)
def BW {S : Type} (G : GG) (A : Nat → Prop) (Wf : S → va_W) : S → State → Prop := fun u t => va_P G.1 classes (Wf u) t.heap ∧ va_D A (Wf u)
/-- an int's (or a boolean's) method's contract; a method's without an answer -/
def CMi {S : Type} (l : Launch) (y : MethodName) (cc : ByteArray) (n : Nat) (ty : FieldType) (k : Nat) (G : GG) (av : List Value) (sz : Nat) (w : va_W) (Wf : S → va_W) (Post : Int32 → S → Prop) : Prop := Met l y (.code y cc n (some ty) :: Tg) (rmK k) (PcW G av sz w) (va_Qi Post (BW G (va_A w sz) Wf) (va_A w sz)) 0 0 (va_A w sz)
def CMv {S : Type} (l : Launch) (y : MethodName) (cc : ByteArray) (n : Nat) (k : Nat) (G : GG) (av : List Value) (sz : Nat) (w : va_W) (Wf : S → va_W) (Post : S → Prop) : Prop := Met l y (.code y cc n none :: Tg) (rmK k) (PcW G av sz w) (va_Qv Post (BW G (va_A w sz) Wf) (va_A w sz)) 0 0 (va_A w sz)
theorem CMi.start {S : Type} {l : Launch} {y : MethodName} {cc : ByteArray} {n : Nat} {ty : FieldType} {k : Nat} {G : GG} {av : List Value} {sz : Nat} {w : va_W} {Wf : S → va_W} {Post : Int32 → S → Prop} (hy : plainName y.cls = true) (hn : (lg_sl av).length ≤ n)
    (body : ∀ (p : Program) (e : Env) (s : State) (m : MethodId) (below : List Frame) (meth : Method) (c : Code) (A : Nat → Prop) (ls : Array Slot), p.tables.exec = Jvm.exec → c.code = cc → meth.sig.returnType = some ty → (∀ w ∈ Tg, w.before av.toArray s = true) → s.vm.findClass y.cls = some m.cls → c.maxLocals = n → meth.locks = false → (∀ q, s.heap.size ≤ q → A q) → va_S A s.heap s.heap [] → va_P G.1 classes w s.heap → va_D A w → KN G s → lv_has ls n (lv_args 0 av) →
      W p l e (rmK k) s m av.toArray below meth c s.heap [] 0 0 (MQ below (va_Qi Post (BW G A Wf) A) av.toArray s 0 0 A) (F0 m 0 ls [])) : CMi l y cc n ty k G av sz w Wf Post := by
  refine Met.ofW (cc := cc) (maxL := n) (ret := some ty) hy rfl ?_
  intro p e s m args below meth c s₁ B hml hv
  obtain ⟨rfl, hsz, hP, hK, hD0⟩ := hv
  have hts := atoms_spec (ws := .code y cc n (some ty) :: Tg) B.pre
  subst hsz
  rw [lg_entry_eq]
  exact body p e s m below meth c (va_A w s.heap.size) _ B.exec B.bytes B.returns (fun w hw => hts w (List.mem_cons_of_mem _ hw)) (findClass_of_methodNamed B.named) hml B.notSynchronized (fun q h => Or.inr h) va_S.rf hP hD0.self hK (lv_entry av hn)
def CMl {S : Type} (l : Launch) (y : MethodName) (cc : ByteArray) (n : Nat) (k : Nat) (G : GG) (av : List Value) (sz : Nat) (w : va_W) (Wf : S → va_W) (Post : Int64 → S → Prop) : Prop := Met l y (.code y cc n (some .long) :: Tg) (rmK k) (PcW G av sz w) (va_Ql Post (BW G (va_A w sz) Wf) (va_A w sz)) 0 0 (va_A w sz)
theorem CMl.start {S : Type} {l : Launch} {y : MethodName} {cc : ByteArray} {n : Nat} {k : Nat} {G : GG} {av : List Value} {sz : Nat} {w : va_W} {Wf : S → va_W} {Post : Int64 → S → Prop} (hy : plainName y.cls = true) (hn : (lg_sl av).length ≤ n)
    (body : ∀ (p : Program) (e : Env) (s : State) (m : MethodId) (below : List Frame) (meth : Method) (c : Code) (A : Nat → Prop) (ls : Array Slot), p.tables.exec = Jvm.exec → c.code = cc → meth.sig.returnType = some .long → (∀ w ∈ Tg, w.before av.toArray s = true) → s.vm.findClass y.cls = some m.cls → c.maxLocals = n → meth.locks = false → (∀ q, s.heap.size ≤ q → A q) → va_S A s.heap s.heap [] → va_P G.1 classes w s.heap → va_D A w → KN G s → lv_has ls n (lv_args 0 av) →
      W p l e (rmK k) s m av.toArray below meth c s.heap [] 0 0 (MQ below (va_Ql Post (BW G A Wf) A) av.toArray s 0 0 A) (F0 m 0 ls [])) : CMl l y cc n k G av sz w Wf Post := by
  refine Met.ofW (cc := cc) (maxL := n) (ret := some .long) hy rfl ?_
  intro p e s m args below meth c s₁ B hml hv
  obtain ⟨rfl, hsz, hP, hK, hD0⟩ := hv
  have hts := atoms_spec (ws := .code y cc n (some .long) :: Tg) B.pre
  subst hsz
  rw [lg_entry_eq]
  exact body p e s m below meth c (va_A w s.heap.size) _ B.exec B.bytes B.returns (fun w hw => hts w (List.mem_cons_of_mem _ hw)) (findClass_of_methodNamed B.named) hml B.notSynchronized (fun q h => Or.inr h) va_S.rf hP hD0.self hK (lv_entry av hn)
theorem CMv.start {S : Type} {l : Launch} {y : MethodName} {cc : ByteArray} {n : Nat} {k : Nat} {G : GG} {av : List Value} {sz : Nat} {w : va_W} {Wf : S → va_W} {Post : S → Prop} (hy : plainName y.cls = true) (hn : (lg_sl av).length ≤ n)
    (body : ∀ (p : Program) (e : Env) (s : State) (m : MethodId) (below : List Frame) (meth : Method) (c : Code) (A : Nat → Prop) (ls : Array Slot), p.tables.exec = Jvm.exec → c.code = cc → meth.sig.returnType = none → (∀ w ∈ Tg, w.before av.toArray s = true) → s.vm.findClass y.cls = some m.cls → c.maxLocals = n → meth.locks = false → (∀ q, s.heap.size ≤ q → A q) → va_S A s.heap s.heap [] → va_P G.1 classes w s.heap → va_D A w → KN G s → lv_has ls n (lv_args 0 av) →
      W p l e (rmK k) s m av.toArray below meth c s.heap [] 0 0 (MQ below (va_Qv Post (BW G A Wf) A) av.toArray s 0 0 A) (F0 m 0 ls [])) : CMv l y cc n k G av sz w Wf Post := by
  refine Met.ofW (cc := cc) (maxL := n) (ret := none) hy rfl ?_
  intro p e s m args below meth c s₁ B hml hv
  obtain ⟨rfl, hsz, hP, hK, hD0⟩ := hv
  have hts := atoms_spec (ws := .code y cc n none :: Tg) B.pre
  subst hsz
  rw [lg_entry_eq]
  exact body p e s m below meth c (va_A w s.heap.size) _ B.exec B.bytes B.returns (fun w hw => hts w (List.mem_cons_of_mem _ hw)) (findClass_of_methodNamed B.named) hml B.notSynchronized (fun q h => Or.inr h) va_S.rf hP hD0.self hK (lv_entry av hn)
/-! worlds side by side -/
theorem va_P_mem {D : va_G} {cl : List vw_C} {ws : va_W} {H : Heap} : va_P D cl ws H ↔ ∀ q ∈ ws, va_at D cl q H := by
  constructor
  · intro h q hq
    obtain ⟨i, hi⟩ := List.getElem?_of_mem hq
    exact h i q hi
  · intro h k q hk
    exact h q (List.mem_of_getElem? hk)
theorem va_D_nd {A : Nat → Prop} {ws : va_W} : va_D A ws ↔ (ws.map (fun q => q.1)).Nodup ∧ ∀ q ∈ ws, A q.1 := by
  constructor
  · intro h
    refine ⟨?_, fun q hq => ?_⟩
    · refine List.pairwise_iff_getElem.mpr ?_
      intro i j hi hj hij he
      rw [List.length_map] at hi hj
      rw [List.getElem_map, List.getElem_map] at he
      have h1 := h.1 i j _ _ (List.getElem?_eq_getElem hi) (List.getElem?_eq_getElem hj) he
      omega
    · obtain ⟨i, hi⟩ := List.getElem?_of_mem hq
      exact h.2 i q hi
  · intro ⟨h1, h2⟩
    refine ⟨fun i j p q hp hq hpq => ?_, fun k q hk => h2 q (List.mem_of_getElem? hk)⟩
    have h1 := List.pairwise_iff_getElem.mp h1
    obtain ⟨hi, ei⟩ := List.getElem?_eq_some_iff.mp hp
    obtain ⟨hj, ej⟩ := List.getElem?_eq_some_iff.mp hq
    rcases Nat.lt_trichotomy i j with h | h | h
    · refine absurd ?_ (h1 i j (by rw [List.length_map]; exact hi) (by rw [List.length_map]; exact hj) h)
      rw [List.getElem_map, List.getElem_map, ei, ej]
      exact hpq
    · exact h
    · refine absurd ?_ (h1 j i (by rw [List.length_map]; exact hj) (by rw [List.length_map]; exact hi) h)
      rw [List.getElem_map, List.getElem_map, ei, ej]
      exact hpq.symm
theorem seg_join {A : Nat → Prop} {D : va_G} {cl : List vw_C} {pre wc post w1 : va_W} {H H1 : Heap} (hP : va_P D cl (pre ++ (wc ++ post)) H) (hD : va_D A (pre ++ (wc ++ post)))
    (hk : ∀ q : Nat, q < H.size → ¬ va_A wc H.size q → H1[q]? = H[q]?) (hF : ∀ q, va_A wc H.size q → A q) (hP1 : va_P D cl w1 H1) (hD1 : va_D (va_A wc H.size) w1) : va_P D cl (pre ++ (w1 ++ post)) H1 ∧ va_D A (pre ++ (w1 ++ post)) := by
  rw [va_P_mem] at hP hP1 ⊢
  rw [va_D_nd] at hD hD1 ⊢
  obtain ⟨hn, hAll⟩ := hD
  obtain ⟨hn1, hA1⟩ := hD1
  rw [List.map_append, List.map_append, List.nodup_append, List.nodup_append] at hn
  obtain ⟨npre, ⟨nwc, npost, ncp⟩, npx⟩ := hn
  have inA : ∀ a : Nat, va_A wc H.size a → (a ∈ wc.map (fun q => q.1)) ∨ H.size ≤ a := by
    intro a h
    rcases h with ⟨k, e, h⟩ | h
    · exact Or.inl (List.mem_map.mpr ⟨_, List.mem_of_getElem? h, rfl⟩)
    · exact Or.inr h
  have apre : ∀ q ∈ pre, q.1 < H.size ∧ ¬ va_A wc H.size q.1 := by
    intro q hq
    have hl := (hP q (List.mem_append_left _ hq)).lt
    refine ⟨hl, fun h => ?_⟩
    rcases inA _ h with h | h
    · exact npx q.1 (List.mem_map.mpr ⟨q, hq, rfl⟩) q.1 (List.mem_append_left _ h) rfl
    · omega
  have apost : ∀ q ∈ post, q.1 < H.size ∧ ¬ va_A wc H.size q.1 := by
    intro q hq
    have hl := (hP q (List.mem_append_right _ (List.mem_append_right _ hq))).lt
    refine ⟨hl, fun h => ?_⟩
    rcases inA _ h with h | h
    · exact ncp q.1 h q.1 (List.mem_map.mpr ⟨q, hq, rfl⟩) rfl
    · omega
  refine ⟨fun q hq => ?_, ?_, fun q hq => ?_⟩
  · rcases List.mem_append.mp hq with h | h
    · exact (hP q (List.mem_append_left _ h)).kept (hk q.1 (apre q h).1 (apre q h).2)
    · rcases List.mem_append.mp h with h | h
      · exact hP1 q h
      · exact (hP q (List.mem_append_right _ (List.mem_append_right _ h))).kept (hk q.1 (apost q h).1 (apost q h).2)
  · rw [List.map_append, List.map_append, List.nodup_append, List.nodup_append]
    refine ⟨npre, ⟨hn1, npost, ?_⟩, ?_⟩
    · intro a ha b hb hab
      obtain ⟨x, hx, rfl⟩ := List.mem_map.mp ha
      obtain ⟨z, hz, rfl⟩ := List.mem_map.mp hb
      exact (apost z hz).2 (hab ▸ hA1 x hx)
    · intro a ha b hb hab
      obtain ⟨x, hx, rfl⟩ := List.mem_map.mp ha
      rcases List.mem_append.mp hb with h | h
      · obtain ⟨z, hz, rfl⟩ := List.mem_map.mp h
        exact (apre x hx).2 (hab ▸ hA1 z hz)
      · exact npx x.1 (List.mem_map.mpr ⟨x, hx, rfl⟩) b (List.mem_append_right _ h) hab
  · rcases List.mem_append.mp hq with h | h
    · exact hAll q (List.mem_append_left _ h)
    · rcases List.mem_append.mp h with h | h
      · exact hF _ (hA1 q h)
      · exact hAll q (List.mem_append_right _ (List.mem_append_right _ h))
theorem seg_free {A : Nat → Prop} {pre wc post : va_W} {H0 H : Heap} {locs : List Loc} (hD : va_D A (pre ++ (wc ++ post))) (hS : va_S A H0 H locs) (hA : ∀ q, H0.size ≤ q → A q) : ∀ q, va_A wc H.size q → A q := by
  intro q h
  rcases h with ⟨k, e, h⟩ | h
  · rw [va_D_nd] at hD
    exact hD.2 (q, e) (List.mem_append_right _ (List.mem_append_left _ (List.mem_of_getElem? h)))
  · exact hA q (Nat.le_trans hS.1 h)
section BASE
variable {p : Program} {l : Launch} {e : Env} {R : Room} {s : State} {m : MethodId} {args : Array Value} {below : List Frame} {meth : Method} {c : Code} {H : Heap} {locs : List Loc} {cells slots : Nat} {Q : State → Prop}
variable {cc : ByteArray} {pc : Nat} {ls : Array Slot} {rest st0 : List Value} {A : Nat → Prop} {G : GG}
theorem r_iret {S : Type} {Post : Int32 → S → Prop} {Wf : S → va_W} {v : Int32} {u : S} (hx : p.tables.exec = Jvm.exec) (hb : c.code = cc) (hr : meth.sig.returnType = some .int) (hlocks : meth.locks = false)
    (hP : va_P G.1 classes (Wf u) H) (hD : va_D A (Wf u)) (hS : va_S A s.heap H locs) (hd : decode cc pc = .ok (.ireturn, 1)) (hq : Post v u) :
    W p l e R s m args below meth c H locs cells slots (MQ below (va_Qi Post (BW G A Wf) A) args s cells slots A) (F0 m pc ls [.int v]) :=
  W.iret hx hb hr (fun t ht hW => ⟨⟨v, u, rfl, hq, by rw [ht]; exact hP, hD⟩, hS.F ht⟩) hS.2.2 hd hlocks
theorem r_zret {S : Type} {Post : Int32 → S → Prop} {Wf : S → va_W} {v : Int32} {u : S} (hx : p.tables.exec = Jvm.exec) (hb : c.code = cc) (hr : meth.sig.returnType = some .boolean) (hlocks : meth.locks = false) (hn : narrow .boolean (.int v) = .int v)
    (hP : va_P G.1 classes (Wf u) H) (hD : va_D A (Wf u)) (hS : va_S A s.heap H locs) (hd : decode cc pc = .ok (.ireturn, 1)) (hq : Post v u) :
    W p l e R s m args below meth c H locs cells slots (MQ below (va_Qi Post (BW G A Wf) A) args s cells slots A) (F0 m pc ls [.int v]) :=
  W.zret hx hb hr hn (fun t ht hW => ⟨⟨v, u, rfl, hq, by rw [ht]; exact hP, hD⟩, hS.F ht⟩) hS.2.2 hd hlocks
theorem r_vret {S : Type} {Post : S → Prop} {Wf : S → va_W} {u : S} (hx : p.tables.exec = Jvm.exec) (hb : c.code = cc) (hr : meth.sig.returnType = none) (hlocks : meth.locks = false)
    (hP : va_P G.1 classes (Wf u) H) (hD : va_D A (Wf u)) (hS : va_S A s.heap H locs) (hd : decode cc pc = .ok (.return_, 1)) (hq : Post u) :
    W p l e R s m args below meth c H locs cells slots (MQ below (va_Qv Post (BW G A Wf) A) args s cells slots A) (F0 m pc ls []) :=
  W.vret hx hb hr (fun t ht hW => ⟨⟨u, rfl, hq, by rw [ht]; exact hP, hD⟩, hS.F ht⟩) hS.2.2 hd hlocks
theorem Tg_in {y : MethodName} {b : ByteArray} {n : Nat} {r : Option FieldType} (f5 : Cond.code y b n r ∈ Tg) : GoodIn Tg (.code y b n r :: Tg) := fun w hw => by
  rcases List.mem_cons.mp hw with h | h
  · subst h; exact ⟨f5, Or.inl rfl⟩
  · exact ⟨h, good_of_word (Tg_good _ h)⟩
/-- what a call asks of the tables and of the room -/
def CallOk (y : MethodName) (b : ByteArray) (n : Nat) (r : Option FieldType) (k na : Nat) (own : String) (idx : Nat) : Prop :=
  Cond.methodLink own idx y ∈ Tg ∧ Cond.instanceMethod y ∈ Tg ∧ Cond.selects y.cls y y ∈ Tg ∧ Cond.initialized y.cls ∈ Tg ∧ Cond.code y b n r ∈ Tg ∧ (y.cls ≠ "java/lang/invoke/MethodHandle" ∧ y.cls ≠ "java/lang/invoke/VarHandle" ∧ (parseMethodDescriptor y.desc).map (fun d => d.parameters.length) = some na)
theorem callOk_W {y : MethodName} {b : ByteArray} {n : Nat} {r : Option FieldType} {k na : Nat} {own : String} {idx : Nat} (h : CallOk y b n r k na own idx) (hts : ∀ w ∈ Tg, w.before args s = true) (hR : k + 1 ≤ R.frames ∧ 8 + (n + 11) + 32 * k ≤ R.locals) :
    CallW R s args own y.cls idx y b n r (.code y b n r :: Tg) (rmK k) 0 0 na := by
  obtain ⟨f1, f2, f3, f4, f5, hd⟩ := h
  exact ⟨callB_of na hts (Tg_in f5) rfl rfl rfl (hts _ f4) (hts _ f1) hd hR, hts _ f2, hts _ f3⟩
theorem recv_ok {ws : va_W} {q0 ci : Nat} {b : Nat} {fs : List Value} {r : vw_C} (hK : KN G s) (hP : va_P G.1 classes ws H) (hr : ws[q0]? = some (b, .inr (ci, fs))) (hc : classes[ci]? = some r) {C : String} (hC : r.1 = C) : ∃ cell : Cell, H[b]? = some cell ∧ cell.vm.isStatics = false ∧ s.vm.findClass C = some cell.cls := by
  subst hC
  exact va_recv hK.1 hP hc hr
theorem pre_ok {wc : va_W} (hK : KN G s) (hP : va_P G.1 classes wc H) (hD : va_D A wc) (av : List Value) : FrameBlind (PcW G av H.size wc) ∧ ∀ U : State, U.heap = H → s.WarmedH U.vm → PcW G av H.size wc av.toArray U := by
  refine ⟨fun a U g mk q => ?_, fun U hU hW => ⟨rfl, by rw [hU], by rw [hU]; exact hP, hK.warm hW, hD.weaken (fun _ _ _ _ => trivial)⟩⟩
  obtain ⟨q0, q1, qP, qK, qD⟩ := q
  exact ⟨q0, q1, qP, KN.same (u := U) rfl qK, qD⟩
theorem sub_P {D : va_G} {cl : List vw_C} {pre wc post : va_W} (h : va_P D cl (pre ++ (wc ++ post)) H) : va_P D cl wc H := va_P_mem.mpr fun q hq => va_P_mem.mp h q (List.mem_append_right _ (List.mem_append_left _ hq))
theorem sub_D {pre wc post : va_W} (h : va_D A (pre ++ (wc ++ post))) : va_D A wc := by
  rw [va_D_nd] at h ⊢
  obtain ⟨hn, hA⟩ := h
  rw [List.map_append, List.map_append, List.nodup_append, List.nodup_append] at hn
  exact ⟨hn.2.1.1, fun q hq => hA q (List.mem_append_right _ (List.mem_append_left _ hq))⟩
/-- a call of an int's method on a part of the world -/
theorem call_Vi {S : Type} {own : String} {nL : Nat} {pre wc post : va_W} {Wc : S → va_W} {y : MethodName} {b : ByteArray} {n : Nat} {ty : FieldType} {k : Nat} {As : List Value} {a : Nat} {Pst : Int32 → S → Prop} {idx : Nat} {na : Nat} {q0 ci : Nat} {fs : List Value} {r : vw_C}
    (hx : p.tables.exec = Jvm.exec) (hb : c.code = cc) (hml : c.maxLocals = nL) (hts : ∀ w ∈ Tg, w.before args s = true) (hown : s.vm.findClass own = some m.cls) (hK : KN G s) (hA : ∀ q, s.heap.size ≤ q → A q)
    (hP : va_P G.1 classes (pre ++ (wc ++ post)) H) (hD : va_D A (pre ++ (wc ++ post))) (hS : va_S A s.heap H locs)
    (ok : CallOk y b n (some ty) k na own idx) (hna : As.length = na) (hR : k + 1 ≤ R.frames ∧ 8 + (n + 11) + 32 * k ≤ R.locals) (hcs : cells ≤ R.cells ∧ slots ≤ R.slots)
    (hr : wc[q0]? = some (a, .inr (ci, fs))) (hc : classes[ci]? = some r) (hrc : r.1 = y.cls) (hl : ls.size = nL) (hst : st0 = As.reverse ++ .ref a :: rest) (hW : (rest.map fun v => v.category).sum ≤ 8) (hdg : decode cc pc = .ok (.invokevirtual idx, 3))
    (hM : CMi l y b n ty k G (.ref a :: As) H.size wc Wc Pst)
    (kk : ∀ (x : Int32) (u : S) (H1 : Heap) (locs1 : List Loc), Pst x u → va_P G.1 classes (pre ++ (Wc u ++ post)) H1 → va_D A (pre ++ (Wc u ++ post)) → va_S A s.heap H1 locs1 → W p l e R s m args below meth c H1 locs1 cells slots Q (F0 m (pc + 3) ls (.int x :: rest))) : W p l e R s m args below meth c H locs cells slots Q (F0 m pc ls st0) := by
  have hF := seg_free hD hS hA
  obtain ⟨g1, g2⟩ := pre_ok hK (sub_P hP) (sub_D hD) (.ref a :: As)
  refine va_calli (va_runV (As := As) (rest := rest) ⟨hx, hb, hml, hown, hts⟩ hM (callOk_W ok hts hR) ⟨g1, recv_ok hK (sub_P hP) hr hc hrc, g2⟩ rfl hna hl hst (by show 2 * 0 + _ ≤ 8; omega) hdg ⟨hcs.1, hcs.2⟩) hS (fun q _ h => hF q h) hF (fun x u t H1 locs1 ht hvm hw hB hz1 hk1 hS1 => ?_)
  obtain ⟨hP1, hD1⟩ := hB
  rw [ht] at hP1
  obtain ⟨hP2, hD2⟩ := seg_join hP hD hk1 hF hP1 hD1
  exact kk x u H1 locs1 hw hP2 hD2 hS1
theorem call_Vv {S : Type} {own : String} {nL : Nat} {pre wc post : va_W} {Wc : S → va_W} {y : MethodName} {b : ByteArray} {n : Nat} {k : Nat} {As : List Value} {a : Nat} {Pst : S → Prop} {idx : Nat} {na : Nat} {q0 ci : Nat} {fs : List Value} {r : vw_C}
    (hx : p.tables.exec = Jvm.exec) (hb : c.code = cc) (hml : c.maxLocals = nL) (hts : ∀ w ∈ Tg, w.before args s = true) (hown : s.vm.findClass own = some m.cls) (hK : KN G s) (hA : ∀ q, s.heap.size ≤ q → A q)
    (hP : va_P G.1 classes (pre ++ (wc ++ post)) H) (hD : va_D A (pre ++ (wc ++ post))) (hS : va_S A s.heap H locs)
    (ok : CallOk y b n none k na own idx) (hna : As.length = na) (hR : k + 1 ≤ R.frames ∧ 8 + (n + 11) + 32 * k ≤ R.locals) (hcs : cells ≤ R.cells ∧ slots ≤ R.slots)
    (hr : wc[q0]? = some (a, .inr (ci, fs))) (hc : classes[ci]? = some r) (hrc : r.1 = y.cls) (hl : ls.size = nL) (hst : st0 = As.reverse ++ .ref a :: rest) (hW : (rest.map fun v => v.category).sum ≤ 8) (hdg : decode cc pc = .ok (.invokevirtual idx, 3))
    (hM : CMv l y b n k G (.ref a :: As) H.size wc Wc Pst)
    (kk : ∀ (u : S) (H1 : Heap) (locs1 : List Loc), Pst u → va_P G.1 classes (pre ++ (Wc u ++ post)) H1 → va_D A (pre ++ (Wc u ++ post)) → va_S A s.heap H1 locs1 → W p l e R s m args below meth c H1 locs1 cells slots Q (F0 m (pc + 3) ls rest)) : W p l e R s m args below meth c H locs cells slots Q (F0 m pc ls st0) := by
  have hF := seg_free hD hS hA
  obtain ⟨g1, g2⟩ := pre_ok hK (sub_P hP) (sub_D hD) (.ref a :: As)
  refine va_callv (va_runV (As := As) (rest := rest) ⟨hx, hb, hml, hown, hts⟩ hM (callOk_W ok hts hR) ⟨g1, recv_ok hK (sub_P hP) hr hc hrc, g2⟩ rfl hna hl hst (by show 2 * 0 + _ ≤ 8; omega) hdg ⟨hcs.1, hcs.2⟩) hS (fun q _ h => hF q h) hF (fun u t H1 locs1 ht hvm hw hB hz1 hk1 hS1 => ?_)
  obtain ⟨hP1, hD1⟩ := hB
  rw [ht] at hP1
  obtain ⟨hP2, hD2⟩ := seg_join hP hD hk1 hF hP1 hD1
  exact kk u H1 locs1 hw hP2 hD2 hS1
end BASE
section BASE2
variable {p : Program} {l : Launch} {e : Env} {R : Room} {s : State} {m : MethodId} {args : Array Value} {below : List Frame} {meth : Method} {c : Code} {H : Heap} {locs : List Loc} {cells slots : Nat} {Q : State → Prop}
variable {cc : ByteArray} {pc : Nat} {ls : Array Slot} {rest st0 : List Value} {A : Nat → Prop} {G : GG}
/-- a call on the whole world -/
theorem call_Vi1 {S : Type} {own : String} {nL : Nat} {wc : va_W} {Wc : S → va_W} {y : MethodName} {b : ByteArray} {n : Nat} {ty : FieldType} {k : Nat} {As : List Value} {a : Nat} {Pst : Int32 → S → Prop} {idx : Nat} {na : Nat} {q0 ci : Nat} {fs : List Value} {r : vw_C}
    (hx : p.tables.exec = Jvm.exec) (hb : c.code = cc) (hml : c.maxLocals = nL) (hts : ∀ w ∈ Tg, w.before args s = true) (hown : s.vm.findClass own = some m.cls) (hK : KN G s) (hA : ∀ q, s.heap.size ≤ q → A q)
    (hP : va_P G.1 classes wc H) (hD : va_D A wc) (hS : va_S A s.heap H locs)
    (ok : CallOk y b n (some ty) k na own idx) (hna : As.length = na) (hR : k + 1 ≤ R.frames ∧ 8 + (n + 11) + 32 * k ≤ R.locals) (hcs : cells ≤ R.cells ∧ slots ≤ R.slots)
    (hr : wc[q0]? = some (a, .inr (ci, fs))) (hc : classes[ci]? = some r) (hrc : r.1 = y.cls) (hl : ls.size = nL) (hst : st0 = As.reverse ++ .ref a :: rest) (hW : (rest.map fun v => v.category).sum ≤ 8) (hdg : decode cc pc = .ok (.invokevirtual idx, 3))
    (hM : CMi l y b n ty k G (.ref a :: As) H.size wc Wc Pst)
    (kk : ∀ (x : Int32) (u : S) (H1 : Heap) (locs1 : List Loc), Pst x u → va_P G.1 classes (Wc u) H1 → va_D A (Wc u) → va_S A s.heap H1 locs1 → W p l e R s m args below meth c H1 locs1 cells slots Q (F0 m (pc + 3) ls (.int x :: rest))) : W p l e R s m args below meth c H locs cells slots Q (F0 m pc ls st0) := by
  have e0 : ∀ w : va_W, w = [] ++ (w ++ []) := fun w => by simp
  refine call_Vi (pre := []) (post := []) hx hb hml hts hown hK hA (by rw [← e0]; exact hP) (by rw [← e0]; exact hD) hS ok hna hR hcs hr hc hrc hl hst hW hdg hM (fun x u H1 l1 h1 h2 h3 h4 => ?_)
  rw [← e0] at h2 h3
  exact kk x u H1 l1 h1 h2 h3 h4
theorem call_Vv1 {S : Type} {own : String} {nL : Nat} {wc : va_W} {Wc : S → va_W} {y : MethodName} {b : ByteArray} {n : Nat} {k : Nat} {As : List Value} {a : Nat} {Pst : S → Prop} {idx : Nat} {na : Nat} {q0 ci : Nat} {fs : List Value} {r : vw_C}
    (hx : p.tables.exec = Jvm.exec) (hb : c.code = cc) (hml : c.maxLocals = nL) (hts : ∀ w ∈ Tg, w.before args s = true) (hown : s.vm.findClass own = some m.cls) (hK : KN G s) (hA : ∀ q, s.heap.size ≤ q → A q)
    (hP : va_P G.1 classes wc H) (hD : va_D A wc) (hS : va_S A s.heap H locs)
    (ok : CallOk y b n none k na own idx) (hna : As.length = na) (hR : k + 1 ≤ R.frames ∧ 8 + (n + 11) + 32 * k ≤ R.locals) (hcs : cells ≤ R.cells ∧ slots ≤ R.slots)
    (hr : wc[q0]? = some (a, .inr (ci, fs))) (hc : classes[ci]? = some r) (hrc : r.1 = y.cls) (hl : ls.size = nL) (hst : st0 = As.reverse ++ .ref a :: rest) (hW : (rest.map fun v => v.category).sum ≤ 8) (hdg : decode cc pc = .ok (.invokevirtual idx, 3))
    (hM : CMv l y b n k G (.ref a :: As) H.size wc Wc Pst)
    (kk : ∀ (u : S) (H1 : Heap) (locs1 : List Loc), Pst u → va_P G.1 classes (Wc u) H1 → va_D A (Wc u) → va_S A s.heap H1 locs1 → W p l e R s m args below meth c H1 locs1 cells slots Q (F0 m (pc + 3) ls rest)) : W p l e R s m args below meth c H locs cells slots Q (F0 m pc ls st0) := by
  have e0 : ∀ w : va_W, w = [] ++ (w ++ []) := fun w => by simp
  refine call_Vv (pre := []) (post := []) hx hb hml hts hown hK hA (by rw [← e0]; exact hP) (by rw [← e0]; exact hD) hS ok hna hR hcs hr hc hrc hl hst hW hdg hM (fun u H1 l1 h1 h2 h3 h4 => ?_)
  rw [← e0] at h2 h3
  exact kk u H1 l1 h1 h2 h3 h4
/-- a static method that looks at nothing but its arguments, and what it answers -/
def CMs (l : Launch) (y : MethodName) (cc : ByteArray) (n : Nat) (ty : FieldType) (k : Nat) (av : List Value) (v : Int32) : Prop := Met l y (.code y cc n (some ty) :: Tg) (rmK k) (va_Pc av (fun _ => True)) (fun _ st o t => o = .returned (some (.int v)) ∧ t.heap = st.heap) 0 0 (fun _ => False)
theorem CMs.start {l : Launch} {y : MethodName} {cc : ByteArray} {n : Nat} {ty : FieldType} {k : Nat} {av : List Value} {v : Int32} (hy : plainName y.cls = true) (hn : (lg_sl av).length ≤ n)
    (body : ∀ (p : Program) (e : Env) (s : State) (m : MethodId) (below : List Frame) (meth : Method) (c : Code) (ls : Array Slot), p.tables.exec = Jvm.exec → c.code = cc → meth.sig.returnType = some ty → (∀ w ∈ Tg, w.before av.toArray s = true) → s.vm.findClass y.cls = some m.cls → c.maxLocals = n → meth.locks = false → lv_has ls n (lv_args 0 av) →
      W p l e (rmK k) s m av.toArray below meth c s.heap [] 0 0 (MQ below (fun _ st o t => o = .returned (some (.int v)) ∧ t.heap = st.heap) av.toArray s 0 0 (fun _ => False)) (F0 m 0 ls [])) : CMs l y cc n ty k av v := by
  refine Met.ofW (cc := cc) (maxL := n) (ret := some ty) hy rfl ?_
  intro p e s m args below meth c s₁ B hml hv
  obtain ⟨rfl, -⟩ := hv
  have hts := atoms_spec (ws := .code y cc n (some ty) :: Tg) B.pre
  rw [lg_entry_eq]
  exact body p e s m below meth c _ B.exec B.bytes B.returns (fun w hw => hts w (List.mem_cons_of_mem _ hw)) (findClass_of_methodNamed B.named) hml B.notSynchronized (lv_entry av hn)
theorem r_siret {v w : Int32} (hx : p.tables.exec = Jvm.exec) (hb : c.code = cc) (hr : meth.sig.returnType = some .int) (hlocks : meth.locks = false) (hd : decode cc pc = .ok (.ireturn, 1)) (hq : v = w) :
    W p l e R s m args below meth c s.heap [] cells slots (MQ below (fun _ st o t => o = .returned (some (.int w)) ∧ t.heap = st.heap) args s cells slots (fun _ => False)) (F0 m pc ls [.int v]) :=
  W.iret hx hb hr (fun t ht hW => ⟨by rw [hq], ht⟩) (fun q hq => by cases hq) hd hlocks
theorem r_szret {v w : Int32} (hx : p.tables.exec = Jvm.exec) (hb : c.code = cc) (hr : meth.sig.returnType = some .boolean) (hlocks : meth.locks = false) (hn : narrow .boolean (.int v) = .int v) (hd : decode cc pc = .ok (.ireturn, 1)) (hq : v = w) :
    W p l e R s m args below meth c s.heap [] cells slots (MQ below (fun _ st o t => o = .returned (some (.int w)) ∧ t.heap = st.heap) args s cells slots (fun _ => False)) (F0 m pc ls [.int v]) :=
  W.zret hx hb hr hn (fun t ht hW => ⟨by rw [hq], ht⟩) (fun q hq => by cases hq) hd hlocks
def StOk (y : MethodName) (b : ByteArray) (n : Nat) (r : Option FieldType) (na : Nat) (own : String) (idx : Nat) : Prop :=
  Cond.methodLink own idx y ∈ Tg ∧ Cond.static y ∈ Tg ∧ Cond.initialized y.cls ∈ Tg ∧ Cond.code y b n r ∈ Tg ∧ (y.cls ≠ "java/lang/invoke/MethodHandle" ∧ y.cls ≠ "java/lang/invoke/VarHandle" ∧ (parseMethodDescriptor y.desc).map (fun d => d.parameters.length) = some na)
def NsOk (y : MethodName) (b : ByteArray) (n : Nat) (r : Option FieldType) (na : Nat) (own : String) (idx : Nat) (host : String) : Prop :=
  Cond.methodLinkNest own idx y host ∈ nestL ∧ Cond.static y ∈ Tg ∧ Cond.initialized y.cls ∈ Tg ∧ Cond.code y b n r ∈ Tg ∧ (y.cls ≠ "java/lang/invoke/MethodHandle" ∧ y.cls ≠ "java/lang/invoke/VarHandle" ∧ (parseMethodDescriptor y.desc).map (fun d => d.parameters.length) = some na)
theorem run_pure {v : Int32} {mc : Nat} {as' : List Value} {g : JFrame} (hr : va_Run p l e R s m args below meth c H locs cells slots 0 0 g rest ((fun _ st o t => o = .returned (some (.int v)) ∧ t.heap = st.heap : Array Value → State → Outcome → State → Prop) as'.toArray) (fun _ => False))
    (kk : W p l e R s m args below meth c H locs cells slots Q { g with pc := g.pc + 3, stack := .int v :: rest }) : W p l e R s m args below meth c H locs cells slots Q g := by
  intro T hT X
  obtain ⟨v', st₀, t, T', L, h0, X', hL, e1, e2, ⟨ho, hh⟩, st⟩ := hr T hT X
  cases ho
  have hL0 : L = [] := List.eq_nil_iff_forall_not_mem.mpr (fun q hq => hL q hq)
  subst hL0
  rw [List.append_nil] at X'
  obtain ⟨t2, a1, b1⟩ := kk T' (by rw [e1, hh, h0]) X'
  exact ⟨t2, st t2 a1, b1⟩
theorem call_S {own : String} {nL : Nat} {y : MethodName} {b : ByteArray} {n : Nat} {ty : FieldType} {k : Nat} {As : List Value} {idx na : Nat} {v : Int32}
    (hx : p.tables.exec = Jvm.exec) (hb : c.code = cc) (hml : c.maxLocals = nL) (hts : ∀ w ∈ Tg, w.before args s = true) (hown : s.vm.findClass own = some m.cls)
    (ok : StOk y b n (some ty) na own idx) (hna : As.length = na) (hR : k + 1 ≤ R.frames ∧ 8 + (n + 11) + 32 * k ≤ R.locals) (hcs : cells ≤ R.cells ∧ slots ≤ R.slots) (hl : ls.size = nL) (hst : st0 = As.reverse ++ rest) (hW : (rest.map fun v => v.category).sum ≤ 8) (hdg : decode cc pc = .ok (.invokestatic idx, 3))
    (hM : CMs l y b n ty k As v)
    (kk : W p l e R s m args below meth c H locs cells slots Q (F0 m (pc + 3) ls (.int v :: rest))) : W p l e R s m args below meth c H locs cells slots Q (F0 m pc ls st0) := by
  obtain ⟨f1, f2, f4, f5, hd⟩ := ok
  exact run_pure (mc := 0) (as' := As) (va_runS (As := As) (rest := rest) ⟨hx, hb, hml, hown, hts⟩ hM ⟨callB_of na hts (Tg_in f5) rfl rfl rfl (hts _ f4) (hts _ f1) hd hR, hts _ f2⟩ ⟨fun _ _ _ _ q => q, fun _ _ _ => ⟨rfl, trivial⟩⟩ rfl hna hl hst (by show 2 * 0 + _ ≤ 8; omega) hdg ⟨hcs.1, hcs.2⟩) kk
theorem call_SN {own host : String} {nL : Nat} {y : MethodName} {b : ByteArray} {n : Nat} {ty : FieldType} {k : Nat} {As : List Value} {idx na : Nat} {v : Int32}
    (hx : p.tables.exec = Jvm.exec) (hb : c.code = cc) (hml : c.maxLocals = nL) (hts : ∀ w ∈ Tg, w.before args s = true) (hown : s.vm.findClass own = some m.cls) (hK : KN G s)
    (ok : NsOk y b n (some ty) na own idx host) (hna : As.length = na) (hR : k + 1 ≤ R.frames ∧ 8 + (n + 11) + 32 * k ≤ R.locals) (hcs : cells ≤ R.cells ∧ slots ≤ R.slots) (hl : ls.size = nL) (hst : st0 = As.reverse ++ rest) (hW : (rest.map fun v => v.category).sum ≤ 8) (hdg : decode cc pc = .ok (.invokestatic idx, 3))
    (hM : CMs l y b n ty k As v)
    (kk : W p l e R s m args below meth c H locs cells slots Q (F0 m (pc + 3) ls (.int v :: rest))) : W p l e R s m args below meth c H locs cells slots Q (F0 m pc ls st0) := by
  obtain ⟨f1, f2, f4, f5, hd⟩ := ok
  exact run_pure (mc := 0) (as' := As) (va_runSN (As := As) (rest := rest) ⟨hx, hb, hml, hown, hts⟩ hM ⟨va_cnB na hts (Tg_in f5) rfl rfl rfl (hK.2 _ f1) (hts _ f4) hd hR, hts _ f2, trivial⟩ ⟨fun _ _ _ _ q => q, fun _ _ _ => ⟨rfl, trivial⟩⟩ rfl hna hl hst (by show 2 * 0 + _ ≤ 8; omega) hdg ⟨hcs.1, hcs.2⟩) kk
end BASE2
/-- a switch's default: what none of its keys is lies outside -/
theorem tb_out {x : Int32} {lo : Int} {n : Nat} (hlo : -2147483648 ≤ lo) (h : ∀ k : Nat, k ≤ n → x ≠ Int32.ofInt (lo + k)) : x.toInt < lo ∨ lo + n < x.toInt := by
  by_cases h1 : x.toInt < lo
  · exact Or.inl h1
  · by_cases h2 : lo + n < x.toInt
    · exact Or.inr h2
    · refine absurd ?_ (h (x.toInt - lo).toNat (by omega))
      have e : lo + ((x.toInt - lo).toNat : Int) = x.toInt := by omega
      rw [e, Int32.ofInt_toInt]
section BASE3
variable {p : Program} {l : Launch} {e : Env} {R : Room} {s : State} {m : MethodId} {args : Array Value} {below : List Frame} {meth : Method} {c : Code} {H : Heap} {locs : List Loc} {cells slots : Nat} {Q : State → Prop}
variable {cc : ByteArray} {pc : Nat} {ls : Array Slot} {rest st0 : List Value} {A : Nat → Prop} {G : GG}
/-- a static method without an answer on a part of the world -/
theorem call_Sv {S : Type} {own : String} {nL : Nat} {pre wc post : va_W} {Wc : S → va_W} {y : MethodName} {b : ByteArray} {n : Nat} {k : Nat} {As : List Value} {Pst : S → Prop} {idx : Nat} {na : Nat}
    (hx : p.tables.exec = Jvm.exec) (hb : c.code = cc) (hml : c.maxLocals = nL) (hts : ∀ w ∈ Tg, w.before args s = true) (hown : s.vm.findClass own = some m.cls) (hK : KN G s) (hA : ∀ q, s.heap.size ≤ q → A q)
    (hP : va_P G.1 classes (pre ++ (wc ++ post)) H) (hD : va_D A (pre ++ (wc ++ post))) (hS : va_S A s.heap H locs)
    (ok : StOk y b n none na own idx) (hna : As.length = na) (hR : k + 1 ≤ R.frames ∧ 8 + (n + 11) + 32 * k ≤ R.locals) (hcs : cells ≤ R.cells ∧ slots ≤ R.slots)
    (hl : ls.size = nL) (hst : st0 = As.reverse ++ rest) (hW : (rest.map fun v => v.category).sum ≤ 8) (hdg : decode cc pc = .ok (.invokestatic idx, 3))
    (hM : CMv l y b n k G As H.size wc Wc Pst)
    (kk : ∀ (u : S) (H1 : Heap) (locs1 : List Loc), Pst u → va_P G.1 classes (pre ++ (Wc u ++ post)) H1 → va_D A (pre ++ (Wc u ++ post)) → va_S A s.heap H1 locs1 → W p l e R s m args below meth c H1 locs1 cells slots Q (F0 m (pc + 3) ls rest)) : W p l e R s m args below meth c H locs cells slots Q (F0 m pc ls st0) := by
  have hF := seg_free hD hS hA
  obtain ⟨g1, g2⟩ := pre_ok hK (sub_P hP) (sub_D hD) As
  obtain ⟨f1, f2, f4, f5, hd⟩ := ok
  refine va_callv (va_runS (As := As) (rest := rest) ⟨hx, hb, hml, hown, hts⟩ hM ⟨callB_of na hts (Tg_in f5) rfl rfl rfl (hts _ f4) (hts _ f1) hd hR, hts _ f2⟩ ⟨g1, g2⟩ rfl hna hl hst (by show 2 * 0 + _ ≤ 8; omega) hdg ⟨hcs.1, hcs.2⟩) hS (fun q _ h => hF q h) hF (fun u t H1 locs1 ht hvm hw hB hz1 hk1 hS1 => ?_)
  obtain ⟨hP1, hD1⟩ := hB
  rw [ht] at hP1
  obtain ⟨hP2, hD2⟩ := seg_join hP hD hk1 hF hP1 hD1
  exact kk u H1 locs1 hw hP2 hD2 hS1
end BASE3
section BASE4
variable {p : Program} {l : Launch} {e : Env} {R : Room} {s : State} {m : MethodId} {args : Array Value} {below : List Frame} {meth : Method} {c : Code} {H : Heap} {locs : List Loc} {cells slots : Nat} {Q : State → Prop}
variable {cc : ByteArray} {pc : Nat} {ls : Array Slot} {rest st0 : List Value} {A : Nat → Prop} {G : GG}
theorem r_lret {S : Type} {Post : Int64 → S → Prop} {Wf : S → va_W} {v : Int64} {u : S} (hx : p.tables.exec = Jvm.exec) (hb : c.code = cc) (hr : meth.sig.returnType = some .long) (hlocks : meth.locks = false)
    (hP : va_P G.1 classes (Wf u) H) (hD : va_D A (Wf u)) (hS : va_S A s.heap H locs) (hd : decode cc pc = .ok (.lreturn, 1)) (hq : Post v u) :
    W p l e R s m args below meth c H locs cells slots (MQ below (va_Ql Post (BW G A Wf) A) args s cells slots A) (F0 m pc ls [.long v]) :=
  W.lret hx hb hr (fun t ht hW => ⟨⟨v, u, rfl, hq, by rw [ht]; exact hP, hD⟩, hS.F ht⟩) hS.2.2 hd hlocks
/-- a static method of an int's (a long's) answer on the whole world -/
theorem call_Si {S : Type} {own : String} {nL : Nat} {wc : va_W} {Wc : S → va_W} {y : MethodName} {b : ByteArray} {n : Nat} {ty : FieldType} {k : Nat} {As : List Value} {Pst : Int32 → S → Prop} {idx : Nat} {na : Nat}
    (hx : p.tables.exec = Jvm.exec) (hb : c.code = cc) (hml : c.maxLocals = nL) (hts : ∀ w ∈ Tg, w.before args s = true) (hown : s.vm.findClass own = some m.cls) (hK : KN G s) (hA : ∀ q, s.heap.size ≤ q → A q)
    (hP : va_P G.1 classes wc H) (hD : va_D A wc) (hS : va_S A s.heap H locs)
    (ok : StOk y b n (some ty) na own idx) (hna : As.length = na) (hR : k + 1 ≤ R.frames ∧ 8 + (n + 11) + 32 * k ≤ R.locals) (hcs : cells ≤ R.cells ∧ slots ≤ R.slots)
    (hl : ls.size = nL) (hst : st0 = As.reverse ++ rest) (hW : (rest.map fun v => v.category).sum ≤ 8) (hdg : decode cc pc = .ok (.invokestatic idx, 3))
    (hM : CMi l y b n ty k G As H.size wc Wc Pst)
    (kk : ∀ (x : Int32) (u : S) (H1 : Heap) (locs1 : List Loc), Pst x u → va_P G.1 classes (Wc u) H1 → va_D A (Wc u) → va_S A s.heap H1 locs1 → W p l e R s m args below meth c H1 locs1 cells slots Q (F0 m (pc + 3) ls (.int x :: rest))) : W p l e R s m args below meth c H locs cells slots Q (F0 m pc ls st0) := by
  have e0 : ∀ w : va_W, w = [] ++ (w ++ []) := fun w => by simp
  rw [e0 wc] at hP hD
  have hF := seg_free hD hS hA
  obtain ⟨g1, g2⟩ := pre_ok hK (sub_P hP) (sub_D hD) As
  obtain ⟨f1, f2, f4, f5, hd⟩ := ok
  refine va_calli (va_runS (As := As) (rest := rest) ⟨hx, hb, hml, hown, hts⟩ hM ⟨callB_of na hts (Tg_in f5) rfl rfl rfl (hts _ f4) (hts _ f1) hd hR, hts _ f2⟩ ⟨g1, g2⟩ rfl hna hl hst (by show 2 * 0 + _ ≤ 8; omega) hdg ⟨hcs.1, hcs.2⟩) hS (fun q _ h => hF q h) hF (fun x u t H1 locs1 ht hvm hw hB hz1 hk1 hS1 => ?_)
  obtain ⟨hP1, hD1⟩ := hB
  rw [ht] at hP1
  obtain ⟨hP2, hD2⟩ := seg_join hP hD hk1 hF hP1 hD1
  rw [← e0] at hP2 hD2
  exact kk x u H1 locs1 hw hP2 hD2 hS1
theorem call_Sl {S : Type} {own : String} {nL : Nat} {wc : va_W} {Wc : S → va_W} {y : MethodName} {b : ByteArray} {n : Nat} {k : Nat} {As : List Value} {Pst : Int64 → S → Prop} {idx : Nat} {na : Nat}
    (hx : p.tables.exec = Jvm.exec) (hb : c.code = cc) (hml : c.maxLocals = nL) (hts : ∀ w ∈ Tg, w.before args s = true) (hown : s.vm.findClass own = some m.cls) (hK : KN G s) (hA : ∀ q, s.heap.size ≤ q → A q)
    (hP : va_P G.1 classes wc H) (hD : va_D A wc) (hS : va_S A s.heap H locs)
    (ok : StOk y b n (some .long) na own idx) (hna : As.length = na) (hR : k + 1 ≤ R.frames ∧ 8 + (n + 11) + 32 * k ≤ R.locals) (hcs : cells ≤ R.cells ∧ slots ≤ R.slots)
    (hl : ls.size = nL) (hst : st0 = As.reverse ++ rest) (hW : (rest.map fun v => v.category).sum ≤ 8) (hdg : decode cc pc = .ok (.invokestatic idx, 3))
    (hM : CMl l y b n k G As H.size wc Wc Pst)
    (kk : ∀ (x : Int64) (u : S) (H1 : Heap) (locs1 : List Loc), Pst x u → va_P G.1 classes (Wc u) H1 → va_D A (Wc u) → va_S A s.heap H1 locs1 → W p l e R s m args below meth c H1 locs1 cells slots Q (F0 m (pc + 3) ls (.long x :: rest))) : W p l e R s m args below meth c H locs cells slots Q (F0 m pc ls st0) := by
  have e0 : ∀ w : va_W, w = [] ++ (w ++ []) := fun w => by simp
  rw [e0 wc] at hP hD
  have hF := seg_free hD hS hA
  obtain ⟨g1, g2⟩ := pre_ok hK (sub_P hP) (sub_D hD) As
  obtain ⟨f1, f2, f4, f5, hd⟩ := ok
  refine va_calll (va_runS (As := As) (rest := rest) ⟨hx, hb, hml, hown, hts⟩ hM ⟨callB_of na hts (Tg_in f5) rfl rfl rfl (hts _ f4) (hts _ f1) hd hR, hts _ f2⟩ ⟨g1, g2⟩ rfl hna hl hst (by show 2 * 0 + _ ≤ 8; omega) hdg ⟨hcs.1, hcs.2⟩) hS (fun q _ h => hF q h) hF (fun x u t H1 locs1 ht hvm hw hB hz1 hk1 hS1 => ?_)
  obtain ⟨hP1, hD1⟩ := hB
  rw [ht] at hP1
  obtain ⟨hP2, hD2⟩ := seg_join hP hD hk1 hF hP1 hD1
  rw [← e0] at hP2 hD2
  exact kk x u H1 locs1 hw hP2 hD2 hS1
/-- a static method that looks at what is old, and changes nothing -/
def CMx (l : Launch) (y : MethodName) (cc : ByteArray) (n : Nat) (ty : FieldType) (k : Nat) (av : List Value) (Pre : State → Prop) (v : Int32) : Prop := Met l y (.code y cc n (some ty) :: Tg) (rmK k) (va_Pc av Pre) (fun _ st o t => o = .returned (some (.int v)) ∧ t.heap = st.heap) 0 0 (fun _ => False)
theorem CMx.start {l : Launch} {y : MethodName} {cc : ByteArray} {n : Nat} {ty : FieldType} {k : Nat} {av : List Value} {Pre : State → Prop} {v : Int32} (hy : plainName y.cls = true) (hn : (lg_sl av).length ≤ n)
    (body : ∀ (p : Program) (e : Env) (s : State) (m : MethodId) (below : List Frame) (meth : Method) (c : Code) (ls : Array Slot), Pre s → p.tables.exec = Jvm.exec → c.code = cc → meth.sig.returnType = some ty → (∀ w ∈ Tg, w.before av.toArray s = true) → s.vm.findClass y.cls = some m.cls → c.maxLocals = n → meth.locks = false → lv_has ls n (lv_args 0 av) →
      W p l e (rmK k) s m av.toArray below meth c s.heap [] 0 0 (MQ below (fun _ st o t => o = .returned (some (.int v)) ∧ t.heap = st.heap) av.toArray s 0 0 (fun _ => False)) (F0 m 0 ls [])) : CMx l y cc n ty k av Pre v := by
  refine Met.ofW (cc := cc) (maxL := n) (ret := some ty) hy rfl ?_
  intro p e s m args below meth c s₁ B hml hv
  obtain ⟨rfl, hpre⟩ := hv
  have hts := atoms_spec (ws := .code y cc n (some ty) :: Tg) B.pre
  rw [lg_entry_eq]
  exact body p e s m below meth c _ hpre B.exec B.bytes B.returns (fun w hw => hts w (List.mem_cons_of_mem _ hw)) (findClass_of_methodNamed B.named) hml B.notSynchronized (lv_entry av hn)
theorem call_X {own : String} {nL : Nat} {y : MethodName} {b : ByteArray} {n : Nat} {ty : FieldType} {k : Nat} {As : List Value} {idx na : Nat} {v : Int32} {Pre : State → Prop}
    (hx : p.tables.exec = Jvm.exec) (hb : c.code = cc) (hml : c.maxLocals = nL) (hts : ∀ w ∈ Tg, w.before args s = true) (hown : s.vm.findClass own = some m.cls)
    (hbl : ∀ (U : State) (g : JFrame) (mk : MethodId) (a : Array Value), Pre U → Pre (U.calling g mk a)) (hpre : ∀ U : State, U.heap = H → s.WarmedH U.vm → Pre U)
    (ok : StOk y b n (some ty) na own idx) (hna : As.length = na) (hR : k + 1 ≤ R.frames ∧ 8 + (n + 11) + 32 * k ≤ R.locals) (hcs : cells ≤ R.cells ∧ slots ≤ R.slots) (hl : ls.size = nL) (hst : st0 = As.reverse ++ rest) (hW : (rest.map fun v => v.category).sum ≤ 8) (hdg : decode cc pc = .ok (.invokestatic idx, 3))
    (hM : CMx l y b n ty k As Pre v)
    (kk : W p l e R s m args below meth c H locs cells slots Q (F0 m (pc + 3) ls (.int v :: rest))) : W p l e R s m args below meth c H locs cells slots Q (F0 m pc ls st0) := by
  obtain ⟨f1, f2, f4, f5, hd⟩ := ok
  exact run_pure (mc := 0) (as' := As) (va_runS (As := As) (rest := rest) ⟨hx, hb, hml, hown, hts⟩ hM ⟨callB_of na hts (Tg_in f5) rfl rfl rfl (hts _ f4) (hts _ f1) hd hR, hts _ f2⟩ ⟨fun a U g mk q => ⟨q.1, hbl U g mk _ q.2⟩, fun U hU hW => ⟨rfl, hpre U hU hW⟩⟩ rfl hna hl hst (by show 2 * 0 + _ ≤ 8; omega) hdg ⟨hcs.1, hcs.2⟩) kk
end BASE4
theorem ne_key {x : Int32} {n : Int32} (h : ¬ x = n) : ¬ n.toInt = x.toInt := fun e => h (Int32.toInt_inj.mp e.symm)
theorem lk_out {ps : List (Int × Int)} {df k : Int} (h : ∀ q ∈ ps, ¬ q.1 = k) : Op.lookupswitch.offset ps df k = df := by
  induction ps with
  | nil => rfl
  | cons a r ih =>
    obtain ⟨a, o⟩ := a
    rw [Op.lookupswitch.offset_cons, if_neg (h (a, o) List.mem_cons_self)]
    exact ih (fun q hq => h q (List.mem_cons_of_mem _ hq))
