/-! THE CLAIM OUT OF ONE WALK OF THE LAW'S BODY. Your part is whole_start (and what it stands on); all else here is the same for every law, but numbers. -/
def R_law : String := "HamperClubLaw"
def lw_P (b : Addr) (xs : List Int32) (args : Array Value) (s : State) : Prop := args = #[.ref b] ∧ s.IntsAt b xs ∧ xs.length ≤ 2048 ∧ (Jvm.Cond.and given_1 narrow_1).before args s = true
def lw_Q (_ : Array Value) (s : State) (o : Outcome) (t : State) : Prop := o = .returned (some (.int 1)) ∧ Framed s o t [] 600000 7302250
def lw_Z (below : List Frame) (a : Array Value) (s : State) : State → Prop := fun t => ∃ o, t.status = .running ∧ Ended t below o ∧ lw_Q a s o t
/-- the law's own end, with 1 on the stack, nothing written that was there before, its room as the claim has it -/
theorem lw_ret {p : Program} {l : Launch} {e : Env} {s : State} {m : MethodId} {below : List Frame} {meth : Method} {c : Code} {b : Nat} (hx : p.tables.exec = Jvm.exec) (hb : c.code = code) (hr : meth.sig.returnType = ret) (hlocks : meth.locks = false) {pc : Nat} {H : Heap} {ls : Array Slot} (hdg : decode code pc = .ok (.ireturn, 1)) : W p l e room_1 s m #[Value.ref b] below meth c H [] 600000 7302250 (lw_Z below #[Value.ref b] s) (F0 m pc ls [.int 1]) := by
  intro T hT X
  obtain ⟨fs, hret, hrun, hended, hW, hframe⟩ := X.leave (v := some (.int 1)) (hlocks := hlocks) (fun h => by rw [hr] at h; cases h)
  have hmeth' : T.vm.method? m = some meth := X.method'
  refine ⟨T.setFrames fs, ?_, .returned (some (.int 1)), hrun, hended, rfl, ⟨_, rfl⟩, hW, hframe⟩
  jvm_step X.here [X.here.top, hx, hb, hdg, hmeth', hr, ret, narrow_b1]
  (try refine ⟨rfl, ?_⟩); (try refine ⟨rfl, ?_⟩)
  first | (intro acts; rw [hret _ acts rfl rfl rfl]) | rw [hret _ _ rfl rfl rfl]
  exact Steps.refl _
/-- what holds at the law's entry: the machine, the code, the tables' words (any of lw_tbl by 'hts w (by decide +kernel)'), the script of L ints xs at the cell b, what the Statement gives of the start (any of its parts by flat_of_before) -/
def lw_At (p : Program) (s : State) (m : MethodId) (meth : Method) (c : Code) (b L : Nat) (xs : Nat → Int32) : Prop :=
  p.tables.exec = Jvm.exec ∧ c.code = code ∧ meth.sig.returnType = ret ∧ c.maxLocals = 4 ∧ s.vm.findClass R_law = some m.cls ∧ (∀ w ∈ lw_tbl, w.before #[Value.ref b] s = true) ∧ va_X b L xs s s.heap ∧ b < s.heap.size ∧ meth.locks = false ∧ (Jvm.Cond.and given_1 narrow_1).before #[Value.ref b] s = true

theorem law_KN {s : State} {b : Nat} (hts : ∀ w ∈ lw_tbl, w.before #[Value.ref b] s = true) : ∃ G : GG, KN G s := by
  have hk : ∀ k : Nat, ∃ p : ClassId × (Nat → Nat), ∀ q, classes[k]? = some q → u_Kn s q.1 q.2.1 q.2.2 p.1 p.2 := by
    intro k
    match k with
    | 0 => obtain ⟨c, iS, h⟩ := u_known (C := R_Acc) (T := F_Acc) (N := 5) (n := 5) hts (fun w hw => Tg_sub w (i_Acc w hw)) (hts (.instantiable R_Acc 5) (Tg_sub _ tb_123)); exact ⟨(c, iS), fun q hq => by cases hq; exact h⟩
    | 1 => obtain ⟨c, iS, h⟩ := u_known (C := R_Crd) (T := F_Crd) (N := 9) (n := 9) hts (fun w hw => Tg_sub w (i_Crd w hw)) (hts (.instantiable R_Crd 9) (Tg_sub _ tb_36)); exact ⟨(c, iS), fun q hq => by cases hq; exact h⟩
    | 2 => obtain ⟨c, iS, h⟩ := u_known (C := R_Clb) (T := F_Clb) (N := 7) (n := 7) hts (fun w hw => Tg_sub w (i_Clb w hw)) (hts (.instantiable R_Clb 7) (Tg_sub _ tb_30)); exact ⟨(c, iS), fun q hq => by cases hq; exact h⟩
    | 3 => obtain ⟨c, iS, h⟩ := u_known (C := R_Hmp) (T := F_Hmp) (N := 5) (n := 5) hts (fun w hw => Tg_sub w (i_Hmp w hw)) (hts (.instantiable R_Hmp 5) (Tg_sub _ tb_86)); exact ⟨(c, iS), fun q hq => by cases hq; exact h⟩
    | 4 => obtain ⟨c, iS, h⟩ := u_known (C := R_His) (T := F_His) (N := 3) (n := 3) hts (fun w hw => Tg_sub w (i_His w hw)) (hts (.instantiable R_His 3) (Tg_sub _ tb_205)); exact ⟨(c, iS), fun q hq => by cases hq; exact h⟩
    | 5 => obtain ⟨c, iS, h⟩ := u_known (C := R_Ord) (T := F_Ord) (N := 6) (n := 6) hts (fun w hw => Tg_sub w (i_Ord w hw)) (hts (.instantiable R_Ord 6) (Tg_sub _ tb_225)); exact ⟨(c, iS), fun q hq => by cases hq; exact h⟩
    | 6 => obtain ⟨c, iS, h⟩ := u_known (C := R_Snp) (T := F_Snp) (N := 2) (n := 2) hts (fun w hw => Tg_sub w (i_Snp w hw)) (hts (.instantiable R_Snp 2) (Tg_sub _ tb_177)); exact ⟨(c, iS), fun q hq => by cases hq; exact h⟩
    | 7 => obtain ⟨c, iS, h⟩ := u_known (C := R_Sta) (T := F_Sta) (N := 3) (n := 3) hts (fun w hw => Tg_sub w (i_Sta w hw)) (hts (.instantiable R_Sta 3) (Tg_sub _ tb_24)); exact ⟨(c, iS), fun q hq => by cases hq; exact h⟩
    | 8 => obtain ⟨c, iS, h⟩ := u_known (C := R_Ham) (T := F_Ham) (N := 4) (n := 4) hts (fun w hw => Tg_sub w (i_Ham w hw)) (hts (.instantiable R_Ham 4) (Tg_sub _ tb_16)); exact ⟨(c, iS), fun q hq => by cases hq; exact h⟩
    | 9 => obtain ⟨c, iS, h⟩ := u_known (C := R_Mod) (T := F_Mod) (N := 9) (n := 9) hts (fun w hw => Tg_sub w (i_Mod w hw)) (hts (.instantiable R_Mod 9) (Tg_sub _ tb_645)); exact ⟨(c, iS), fun q hq => by cases hq; exact h⟩
    | k + 10 => exact ⟨(0, fun _ => 0), fun q hq => by simp [classes] at hq⟩
  obtain ⟨f, hf⟩ := Classical.axiomOfChoice hk
  obtain ⟨c0, k0, m0, a1, a2, a3⟩ := Cond.arrayClass_spec (hts (.arrayClass .int) (List.mem_of_getElem? (i := 135) (by decide +kernel)))
  obtain ⟨c1, k1, m1, b1, b2, b3⟩ := Cond.arrayClass_spec (hts (.arrayClass .long) (List.mem_of_getElem? (i := 136) (by decide +kernel)))
  obtain ⟨c2, k2, m2, e1, e2, e3⟩ := Cond.arrayClass_spec (hts (.arrayClass .boolean) (List.mem_of_getElem? (i := 733) (by decide +kernel)))
  obtain ⟨m3, c3, k3, f1, f2, f3, f4, f5⟩ := Cond.arrayOver_spec (hts (.arrayOver (.object "HamperClub$State")) (List.mem_of_getElem? (i := 263) (by decide +kernel)))
  refine ⟨((fun k => (f k).1, fun k => (f k).2), fun k => if k = 0 then c0 else if k = 1 then c1 else if k = 2 then c2 else c3), ⟨fun k q hq => hf k q hq, fun k q hq => ?_⟩, fun w hw => ?_⟩
  · match k, hq with
    | 0, hq => cases hq; exact ⟨fun n z => ⟨fun k h => (by cases h), k0, a2, m0, a3⟩, a1⟩
    | 1, hq => cases hq; exact ⟨fun n z => ⟨fun k h => (by cases h), k1, b2, m1, b3⟩, b1⟩
    | 2, hq => cases hq; exact ⟨fun n z => ⟨fun k h => (by cases h), k2, e2, m2, e3⟩, e1⟩
    | 3, hq => cases hq; exact ⟨fun n z => ⟨fun k h => (by cases h), k3, f3, m3, f4⟩, k3, m3, f3, f4, f1, f5⟩
    | k + 4, hq => simp [tysG] at hq
  · have h1 : w ∈ lw_tbl := by
      have h2 : nestL.all (fun w => decide (w ∈ lw_tbl)) = true := by decide +kernel
      exact of_decide_eq_true (List.all_eq_true.mp h2 w hw)
    have h3 := hts w h1
    obtain ⟨a, i, x, b', rfl⟩ := nest_form hw
    exact va_Nw.of rfl h3
theorem law_SKn {s : State} {b : Nat} (hts : ∀ w ∈ lw_tbl, w.before #[Value.ref b] s = true) (hgv : (Jvm.Cond.and given_1 narrow_1).before #[Value.ref b] s = true) : ∃ tp ts : Nat, SKn s.heap.size tp ts s := by
  have hs := flat_of_before _ hgv
  have hpf : ∃ t : Nat, (va_Z "HamperClub" "FIRST_PRICES" "[I" (.ref t) (fun q => s.heap.size ≤ q) s s.heap ∧ va_T .int t 4 (fun j => .int (pfF j)) (fun q => s.heap.size ≤ q) s s.heap) := by
    have harr : (Cond.arrayOf (Term.static "HamperClub" "FIRST_PRICES" "[I") .int).before #[Value.ref b] s = true := hs _ (by decide +kernel)
    have hlen := va_eqt (hs (Cond.eq (.length (Term.static "HamperClub" "FIRST_PRICES" "[I")) (.int 4)) (by decide +kernel))
    obtain ⟨t, ht, hT⟩ := va_Tof (N := 4) (f := fun j => .int (pfF j)) (A := fun q => s.heap.size ≤ q) (by decide) harr hlen (fun j hj => by
      match j, hj with
      | 0, _ => exact va_eqt (hs (Cond.eq (.elem (Term.static "HamperClub" "FIRST_PRICES" "[I") (.int 0)) (.int 20)) (by decide +kernel))
      | 1, _ => exact va_eqt (hs (Cond.eq (.elem (Term.static "HamperClub" "FIRST_PRICES" "[I") (.int 1)) (.int 40)) (by decide +kernel))
      | 2, _ => exact va_eqt (hs (Cond.eq (.elem (Term.static "HamperClub" "FIRST_PRICES" "[I") (.int 2)) (.int 60)) (by decide +kernel))
      | 3, _ => exact va_eqt (hs (Cond.eq (.elem (Term.static "HamperClub" "FIRST_PRICES" "[I") (.int 3)) (.int 100)) (by decide +kernel))
      | j + 4, hj => omega) (fun a ha => Nat.not_le.mpr ha)
    exact ⟨t, va_Zof (hts (.laysStatic "HamperClub" "FIRST_PRICES" "[I") (List.mem_of_getElem? (i := 144) (by decide +kernel))) (hts (.initialized "HamperClub") (Tg_sub _ tb_1)) ht (fun a ha => Nat.not_le.mpr ha), hT⟩
  have hsf : ∃ t : Nat, (va_Z "HamperClub" "FIRST_STOCKS" "[I" (.ref t) (fun q => s.heap.size ≤ q) s s.heap ∧ va_T .int t 4 (fun j => .int (sfF j)) (fun q => s.heap.size ≤ q) s s.heap) := by
    have harr : (Cond.arrayOf (Term.static "HamperClub" "FIRST_STOCKS" "[I") .int).before #[Value.ref b] s = true := hs _ (by decide +kernel)
    have hlen := va_eqt (hs (Cond.eq (.length (Term.static "HamperClub" "FIRST_STOCKS" "[I")) (.int 4)) (by decide +kernel))
    obtain ⟨t, ht, hT⟩ := va_Tof (N := 4) (f := fun j => .int (sfF j)) (A := fun q => s.heap.size ≤ q) (by decide) harr hlen (fun j hj => by
      match j, hj with
      | 0, _ => exact va_eqt (hs (Cond.eq (.elem (Term.static "HamperClub" "FIRST_STOCKS" "[I") (.int 0)) (.int 2)) (by decide +kernel))
      | 1, _ => exact va_eqt (hs (Cond.eq (.elem (Term.static "HamperClub" "FIRST_STOCKS" "[I") (.int 1)) (.int 2)) (by decide +kernel))
      | 2, _ => exact va_eqt (hs (Cond.eq (.elem (Term.static "HamperClub" "FIRST_STOCKS" "[I") (.int 2)) (.int 1)) (by decide +kernel))
      | 3, _ => exact va_eqt (hs (Cond.eq (.elem (Term.static "HamperClub" "FIRST_STOCKS" "[I") (.int 3)) (.int 1)) (by decide +kernel))
      | j + 4, hj => omega) (fun a ha => Nat.not_le.mpr ha)
    exact ⟨t, va_Zof (hts (.laysStatic "HamperClub" "FIRST_STOCKS" "[I") (List.mem_of_getElem? (i := 149) (by decide +kernel))) (hts (.initialized "HamperClub") (Tg_sub _ tb_1)) ht (fun a ha => Nat.not_le.mpr ha), hT⟩
  obtain ⟨tp, h1⟩ := hpf
  obtain ⟨ts, h2⟩ := hsf
  exact ⟨tp, ts, h1, h2, va_Nw.of rfl (hts lkP (List.mem_of_getElem? (i := 143) (by decide +kernel))), va_Nw.of rfl (hts lkS (List.mem_of_getElem? (i := 148) (by decide +kernel))), va_AO.of (hts (.arrayOver (.object "HamperClub$State")) (List.mem_of_getElem? (i := 263) (by decide +kernel)))⟩
def wl_law (L : Nat) (xs : Nat → Int32) : Nat → Int32 → (CS × Int32 × CS × Int32 × CS × (Nat → Int32) × (Nat → SS) × OS × CS × RS) → Prop
  | 0, _ => fun _ => False
  | n + 1, a3 => fun u => ((((Int32.ofNat L) - 4) < a3 → True) ∧ (¬ ((Int32.ofNat L) - 4) < a3 → (vp_in a3 L ∧ ((((xs a3.toNatClampNeg) &&& 31) = 0 → (wp_Ham_join (u.1, u.2.1, u.2.2.1, u.2.2.2.1, u.2.2.2.2.1, u.2.2.2.2.2.1, u.2.2.2.2.2.2.1, u.2.2.2.2.2.2.2.1, u.2.2.2.2.2.2.2.2.1)  (fun x2 z1 => (wp_Mod_join u.2.2.2.2.2.2.2.2.2  (fun x4 z3 => ((x2 = x4 → (∀ x5 : Int32, x5 = a3 + 4 → wl_law L xs n x5 (z1.1, z1.2.1, z1.2.2.1, z1.2.2.2.1, z1.2.2.2.2.1, z1.2.2.2.2.2.1, z1.2.2.2.2.2.2.1, z1.2.2.2.2.2.2.2.1, z1.2.2.2.2.2.2.2.2, z3))) ∧ (¬ x2 = x4 → False))))))) ∧ (((xs a3.toNatClampNeg) &&& 31) = 1 → (vp_in (a3 + 1) L ∧ (vp_in (a3 + 2) L ∧ (wp_Ham_stick (u.1, u.2.1, u.2.2.1, u.2.2.2.1, u.2.2.2.2.1, u.2.2.2.2.2.1, u.2.2.2.2.2.2.1, u.2.2.2.2.2.2.2.1, u.2.2.2.2.2.2.2.2.1) (xs (a3 + 1).toNatClampNeg) (xs (a3 + 2).toNatClampNeg) (fun x7 z6 => (vp_in (a3 + 1) L ∧ (vp_in (a3 + 2) L ∧ (wp_Mod_stick u.2.2.2.2.2.2.2.2.2 (xs (a3 + 1).toNatClampNeg) (xs (a3 + 2).toNatClampNeg) (fun x9 z8 => ((x7 = x9 → (∀ x10 : Int32, x10 = a3 + 4 → wl_law L xs n x10 (z6.1, z6.2.1, z6.2.2.1, z6.2.2.2.1, z6.2.2.2.2.1, z6.2.2.2.2.2.1, z6.2.2.2.2.2.2.1, z6.2.2.2.2.2.2.2.1, z6.2.2.2.2.2.2.2.2, z8))) ∧ (¬ x7 = x9 → False))))))))))) ∧ (((xs a3.toNatClampNeg) &&& 31) = 2 → (vp_in (a3 + 1) L ∧ (vp_in (a3 + 2) L ∧ (wp_Ham_withdraw (u.1, u.2.1, u.2.2.1, u.2.2.2.1, u.2.2.2.2.1, u.2.2.2.2.2.1, u.2.2.2.2.2.2.1, u.2.2.2.2.2.2.2.1, u.2.2.2.2.2.2.2.2.1) (xs (a3 + 1).toNatClampNeg) (xs (a3 + 2).toNatClampNeg) (fun x12 z11 => (vp_in (a3 + 1) L ∧ (vp_in (a3 + 2) L ∧ (wp_Mod_withdraw u.2.2.2.2.2.2.2.2.2 (xs (a3 + 1).toNatClampNeg) (xs (a3 + 2).toNatClampNeg) (fun x14 z13 => ((x12 = x14 → (∀ x15 : Int32, x15 = a3 + 4 → wl_law L xs n x15 (z11.1, z11.2.1, z11.2.2.1, z11.2.2.2.1, z11.2.2.2.2.1, z11.2.2.2.2.2.1, z11.2.2.2.2.2.2.1, z11.2.2.2.2.2.2.2.1, z11.2.2.2.2.2.2.2.2, z13))) ∧ (¬ x12 = x14 → False))))))))))) ∧ (((xs a3.toNatClampNeg) &&& 31) = 3 → (vp_in (a3 + 1) L ∧ (wp_Ham_mislay (u.1, u.2.1, u.2.2.1, u.2.2.2.1, u.2.2.2.2.1, u.2.2.2.2.2.1, u.2.2.2.2.2.2.1, u.2.2.2.2.2.2.2.1, u.2.2.2.2.2.2.2.2.1) (xs (a3 + 1).toNatClampNeg) (fun x17 z16 => (vp_in (a3 + 1) L ∧ (wp_Mod_mislay u.2.2.2.2.2.2.2.2.2 (xs (a3 + 1).toNatClampNeg) (fun x19 z18 => ((x17 = x19 → (∀ x20 : Int32, x20 = a3 + 4 → wl_law L xs n x20 (z16.1, z16.2.1, z16.2.2.1, z16.2.2.2.1, z16.2.2.2.2.1, z16.2.2.2.2.2.1, z16.2.2.2.2.2.2.1, z16.2.2.2.2.2.2.2.1, z16.2.2.2.2.2.2.2.2, z18))) ∧ (¬ x17 = x19 → False))))))))) ∧ (((xs a3.toNatClampNeg) &&& 31) = 4 → (vp_in (a3 + 1) L ∧ (wp_Ham_find (u.1, u.2.1, u.2.2.1, u.2.2.2.1, u.2.2.2.2.1, u.2.2.2.2.2.1, u.2.2.2.2.2.2.1, u.2.2.2.2.2.2.2.1, u.2.2.2.2.2.2.2.2.1) (xs (a3 + 1).toNatClampNeg) (fun x22 z21 => (vp_in (a3 + 1) L ∧ (wp_Mod_find u.2.2.2.2.2.2.2.2.2 (xs (a3 + 1).toNatClampNeg) (fun x24 z23 => ((x22 = x24 → (∀ x25 : Int32, x25 = a3 + 4 → wl_law L xs n x25 (z21.1, z21.2.1, z21.2.2.1, z21.2.2.2.1, z21.2.2.2.2.1, z21.2.2.2.2.2.1, z21.2.2.2.2.2.2.1, z21.2.2.2.2.2.2.2.1, z21.2.2.2.2.2.2.2.2, z23))) ∧ (¬ x22 = x24 → False))))))))) ∧ (((xs a3.toNatClampNeg) &&& 31) = 5 → (vp_in (a3 + 1) L ∧ (vp_in (a3 + 2) L ∧ (vp_in (a3 + 3) L ∧ (wp_Ham_setHamper (u.1, u.2.1, u.2.2.1, u.2.2.2.1, u.2.2.2.2.1, u.2.2.2.2.2.1, u.2.2.2.2.2.2.1, u.2.2.2.2.2.2.2.1, u.2.2.2.2.2.2.2.2.1) (xs (a3 + 1).toNatClampNeg) (xs (a3 + 2).toNatClampNeg) (xs (a3 + 3).toNatClampNeg) (fun x27 z26 => (vp_in (a3 + 1) L ∧ (vp_in (a3 + 2) L ∧ (vp_in (a3 + 3) L ∧ (wp_Mod_setHamper u.2.2.2.2.2.2.2.2.2 (xs (a3 + 1).toNatClampNeg) (xs (a3 + 2).toNatClampNeg) (xs (a3 + 3).toNatClampNeg) (fun x29 z28 => ((x27 = x29 → (∀ x30 : Int32, x30 = a3 + 4 → wl_law L xs n x30 (z26.1, z26.2.1, z26.2.2.1, z26.2.2.2.1, z26.2.2.2.2.1, z26.2.2.2.2.2.1, z26.2.2.2.2.2.2.1, z26.2.2.2.2.2.2.2.1, z26.2.2.2.2.2.2.2.2, z28))) ∧ (¬ x27 = x29 → False))))))))))))) ∧ (((xs a3.toNatClampNeg) &&& 31) = 6 → (vp_in (a3 + 1) L ∧ (vp_in (a3 + 2) L ∧ (wp_Ham_choose (u.1, u.2.1, u.2.2.1, u.2.2.2.1, u.2.2.2.2.1, u.2.2.2.2.2.1, u.2.2.2.2.2.2.1, u.2.2.2.2.2.2.2.1, u.2.2.2.2.2.2.2.2.1) (xs (a3 + 1).toNatClampNeg) (xs (a3 + 2).toNatClampNeg) (fun x32 z31 => (vp_in (a3 + 1) L ∧ (vp_in (a3 + 2) L ∧ (wp_Mod_choose u.2.2.2.2.2.2.2.2.2 (xs (a3 + 1).toNatClampNeg) (xs (a3 + 2).toNatClampNeg) (fun x34 z33 => ((x32 = x34 → (∀ x35 : Int32, x35 = a3 + 4 → wl_law L xs n x35 (z31.1, z31.2.1, z31.2.2.1, z31.2.2.2.1, z31.2.2.2.2.1, z31.2.2.2.2.2.1, z31.2.2.2.2.2.2.1, z31.2.2.2.2.2.2.2.1, z31.2.2.2.2.2.2.2.2, z33))) ∧ (¬ x32 = x34 → False))))))))))) ∧ (((xs a3.toNatClampNeg) &&& 31) = 7 → (vp_in (a3 + 1) L ∧ (wp_Ham_giveUp (u.1, u.2.1, u.2.2.1, u.2.2.2.1, u.2.2.2.2.1, u.2.2.2.2.2.1, u.2.2.2.2.2.2.1, u.2.2.2.2.2.2.2.1, u.2.2.2.2.2.2.2.2.1) (xs (a3 + 1).toNatClampNeg) (fun x37 z36 => (vp_in (a3 + 1) L ∧ (wp_Mod_giveUp u.2.2.2.2.2.2.2.2.2 (xs (a3 + 1).toNatClampNeg) (fun x39 z38 => ((x37 = x39 → (∀ x40 : Int32, x40 = a3 + 4 → wl_law L xs n x40 (z36.1, z36.2.1, z36.2.2.1, z36.2.2.2.1, z36.2.2.2.2.1, z36.2.2.2.2.2.1, z36.2.2.2.2.2.2.1, z36.2.2.2.2.2.2.2.1, z36.2.2.2.2.2.2.2.2, z38))) ∧ (¬ x37 = x39 → False))))))))) ∧ (((xs a3.toNatClampNeg) &&& 31) = 8 → (wp_Ham_week (u.1, u.2.1, u.2.2.1, u.2.2.2.1, u.2.2.2.2.1, u.2.2.2.2.2.1, u.2.2.2.2.2.2.1, u.2.2.2.2.2.2.2.1, u.2.2.2.2.2.2.2.2.1)  (fun x42 z41 => (wp_Mod_week u.2.2.2.2.2.2.2.2.2  (fun x44 z43 => ((x42 = x44 → (∀ x45 : Int32, x45 = a3 + 4 → wl_law L xs n x45 (z41.1, z41.2.1, z41.2.2.1, z41.2.2.2.1, z41.2.2.2.2.1, z41.2.2.2.2.2.1, z41.2.2.2.2.2.2.1, z41.2.2.2.2.2.2.2.1, z41.2.2.2.2.2.2.2.2, z43))) ∧ (¬ x42 = x44 → False))))))) ∧ (((xs a3.toNatClampNeg) &&& 31) = 9 → (wp_Ham_settle (u.1, u.2.1, u.2.2.1, u.2.2.2.1, u.2.2.2.2.1, u.2.2.2.2.2.1, u.2.2.2.2.2.2.1, u.2.2.2.2.2.2.2.1, u.2.2.2.2.2.2.2.2.1)  (fun x47 z46 => (wp_Mod_settle u.2.2.2.2.2.2.2.2.2  (fun x49 z48 => ((x47 = x49 → (∀ x50 : Int32, x50 = a3 + 4 → wl_law L xs n x50 (z46.1, z46.2.1, z46.2.2.1, z46.2.2.2.1, z46.2.2.2.2.1, z46.2.2.2.2.2.1, z46.2.2.2.2.2.2.1, z46.2.2.2.2.2.2.2.1, z46.2.2.2.2.2.2.2.2, z48))) ∧ (¬ x47 = x49 → False))))))) ∧ (((xs a3.toNatClampNeg) &&& 31) = 10 → (vp_in (a3 + 1) L ∧ (wp_Ham_take (u.1, u.2.1, u.2.2.1, u.2.2.2.1, u.2.2.2.2.1, u.2.2.2.2.2.1, u.2.2.2.2.2.2.1, u.2.2.2.2.2.2.2.1, u.2.2.2.2.2.2.2.2.1) (xs (a3 + 1).toNatClampNeg) (fun x52 z51 => (vp_in (a3 + 1) L ∧ (wp_Mod_take u.2.2.2.2.2.2.2.2.2 (xs (a3 + 1).toNatClampNeg) (fun x54 z53 => ((x52 = x54 → (∀ x55 : Int32, x55 = a3 + 4 → wl_law L xs n x55 (z51.1, z51.2.1, z51.2.2.1, z51.2.2.2.1, z51.2.2.2.2.1, z51.2.2.2.2.2.1, z51.2.2.2.2.2.2.1, z51.2.2.2.2.2.2.2.1, z51.2.2.2.2.2.2.2.2, z53))) ∧ (¬ x52 = x54 → False))))))))) ∧ (((xs a3.toNatClampNeg) &&& 31) = 11 → (vp_in (a3 + 1) L ∧ (wp_Ham_restore (u.1, u.2.1, u.2.2.1, u.2.2.2.1, u.2.2.2.2.1, u.2.2.2.2.2.1, u.2.2.2.2.2.2.1, u.2.2.2.2.2.2.2.1, u.2.2.2.2.2.2.2.2.1) (xs (a3 + 1).toNatClampNeg) (fun x57 z56 => (vp_in (a3 + 1) L ∧ (wp_Mod_restore u.2.2.2.2.2.2.2.2.2 (xs (a3 + 1).toNatClampNeg) (fun x59 z58 => ((x57 = x59 → (∀ x60 : Int32, x60 = a3 + 4 → wl_law L xs n x60 (z56.1, z56.2.1, z56.2.2.1, z56.2.2.2.1, z56.2.2.2.2.1, z56.2.2.2.2.2.1, z56.2.2.2.2.2.2.1, z56.2.2.2.2.2.2.2.1, z56.2.2.2.2.2.2.2.2, z58))) ∧ (¬ x57 = x59 → False))))))))) ∧ (((xs a3.toNatClampNeg) &&& 31) = 12 → (wp_Ham_undo (u.1, u.2.1, u.2.2.1, u.2.2.2.1, u.2.2.2.2.1, u.2.2.2.2.2.1, u.2.2.2.2.2.2.1, u.2.2.2.2.2.2.2.1, u.2.2.2.2.2.2.2.2.1)  (fun x62 z61 => (wp_Mod_undo u.2.2.2.2.2.2.2.2.2  (fun x64 z63 => ((x62 = x64 → (∀ x65 : Int32, x65 = a3 + 4 → wl_law L xs n x65 (z61.1, z61.2.1, z61.2.2.1, z61.2.2.2.1, z61.2.2.2.2.1, z61.2.2.2.2.2.1, z61.2.2.2.2.2.2.1, z61.2.2.2.2.2.2.2.1, z61.2.2.2.2.2.2.2.2, z63))) ∧ (¬ x62 = x64 → False))))))) ∧ (((xs a3.toNatClampNeg) &&& 31) = 13 → (vp_in (a3 + 1) L ∧ (wp_Ham_append (u.1, u.2.1, u.2.2.1, u.2.2.2.1, u.2.2.2.2.1, u.2.2.2.2.2.1, u.2.2.2.2.2.2.1, u.2.2.2.2.2.2.2.1, u.2.2.2.2.2.2.2.2.1) (xs (a3 + 1).toNatClampNeg) (fun x67 z66 => (vp_in (a3 + 1) L ∧ (wp_Mod_append u.2.2.2.2.2.2.2.2.2 (xs (a3 + 1).toNatClampNeg) (fun x69 z68 => ((x67 = x69 → (∀ x70 : Int32, x70 = a3 + 4 → wl_law L xs n x70 (z66.1, z66.2.1, z66.2.2.1, z66.2.2.2.1, z66.2.2.2.2.1, z66.2.2.2.2.2.1, z66.2.2.2.2.2.2.1, z66.2.2.2.2.2.2.2.1, z66.2.2.2.2.2.2.2.2, z68))) ∧ (¬ x67 = x69 → False))))))))) ∧ (((xs a3.toNatClampNeg) &&& 31) = 14 → (wp_Ham_clearText (u.1, u.2.1, u.2.2.1, u.2.2.2.1, u.2.2.2.2.1, u.2.2.2.2.2.1, u.2.2.2.2.2.2.1, u.2.2.2.2.2.2.2.1, u.2.2.2.2.2.2.2.2.1)  (fun x72 z71 => (wp_Mod_clearText u.2.2.2.2.2.2.2.2.2  (fun x74 z73 => ((x72 = x74 → (∀ x75 : Int32, x75 = a3 + 4 → wl_law L xs n x75 (z71.1, z71.2.1, z71.2.2.1, z71.2.2.2.1, z71.2.2.2.2.1, z71.2.2.2.2.2.1, z71.2.2.2.2.2.2.1, z71.2.2.2.2.2.2.2.1, z71.2.2.2.2.2.2.2.2, z73))) ∧ (¬ x72 = x74 → False))))))) ∧ (((xs a3.toNatClampNeg) &&& 31) = 15 → (wp_Ham_carryOut (u.1, u.2.1, u.2.2.1, u.2.2.2.1, u.2.2.2.2.1, u.2.2.2.2.2.1, u.2.2.2.2.2.2.1, u.2.2.2.2.2.2.2.1, u.2.2.2.2.2.2.2.2.1)  (fun x77 z76 => (wp_Mod_carryOut u.2.2.2.2.2.2.2.2.2  (fun x79 z78 => ((x77 = x79 → (∀ x80 : Int32, x80 = a3 + 4 → wl_law L xs n x80 (z76.1, z76.2.1, z76.2.2.1, z76.2.2.2.1, z76.2.2.2.2.1, z76.2.2.2.2.2.1, z76.2.2.2.2.2.2.1, z76.2.2.2.2.2.2.2.1, z76.2.2.2.2.2.2.2.2, z78))) ∧ (¬ x77 = x79 → False))))))) ∧ (((xs a3.toNatClampNeg) &&& 31) = 16 → (vp_in (a3 + 1) L ∧ (wp_Ham_count (u.1, u.2.1, u.2.2.1, u.2.2.2.1, u.2.2.2.2.1, u.2.2.2.2.2.1, u.2.2.2.2.2.2.1, u.2.2.2.2.2.2.2.1, u.2.2.2.2.2.2.2.2.1) (xs (a3 + 1).toNatClampNeg) (fun x82 z81 => (vp_in (a3 + 1) L ∧ (wp_Mod_count u.2.2.2.2.2.2.2.2.2 (xs (a3 + 1).toNatClampNeg) (fun x84 z83 => ((x82 = x84 → (∀ x85 : Int32, x85 = a3 + 4 → wl_law L xs n x85 (z81.1, z81.2.1, z81.2.2.1, z81.2.2.2.1, z81.2.2.2.2.1, z81.2.2.2.2.2.1, z81.2.2.2.2.2.2.1, z81.2.2.2.2.2.2.2.1, z81.2.2.2.2.2.2.2.2, z83))) ∧ (¬ x82 = x84 → False))))))))) ∧ (((xs a3.toNatClampNeg) &&& 31) = 17 → (vp_in (a3 + 1) L ∧ (vp_in (a3 + 2) L ∧ (wp_Ham_member (u.1, u.2.1, u.2.2.1, u.2.2.2.1, u.2.2.2.2.1, u.2.2.2.2.2.1, u.2.2.2.2.2.2.1, u.2.2.2.2.2.2.2.1, u.2.2.2.2.2.2.2.2.1) (xs (a3 + 1).toNatClampNeg) (xs (a3 + 2).toNatClampNeg) (fun x87 z86 => (vp_in (a3 + 1) L ∧ (vp_in (a3 + 2) L ∧ (wp_Mod_member u.2.2.2.2.2.2.2.2.2 (xs (a3 + 1).toNatClampNeg) (xs (a3 + 2).toNatClampNeg) (fun x89 z88 => ((x87 = x89 → (∀ x90 : Int32, x90 = a3 + 4 → wl_law L xs n x90 (z86.1, z86.2.1, z86.2.2.1, z86.2.2.2.1, z86.2.2.2.2.1, z86.2.2.2.2.2.1, z86.2.2.2.2.2.2.1, z86.2.2.2.2.2.2.2.1, z86.2.2.2.2.2.2.2.2, z88))) ∧ (¬ x87 = x89 → False))))))))))) ∧ (((xs a3.toNatClampNeg) &&& 31) = 18 → (vp_in (a3 + 1) L ∧ (vp_in (a3 + 2) L ∧ (wp_Ham_isGood (u.1, u.2.1, u.2.2.1, u.2.2.2.1, u.2.2.2.2.1, u.2.2.2.2.2.1, u.2.2.2.2.2.2.1, u.2.2.2.2.2.2.2.1, u.2.2.2.2.2.2.2.2.1) (xs (a3 + 1).toNatClampNeg) (xs (a3 + 2).toNatClampNeg) (fun x92 z91 => (vp_in (a3 + 1) L ∧ (vp_in (a3 + 2) L ∧ (wp_Mod_isGood u.2.2.2.2.2.2.2.2.2 (xs (a3 + 1).toNatClampNeg) (xs (a3 + 2).toNatClampNeg) (fun x94 z93 => ((x92 = x94 → (∀ x95 : Int32, x95 = a3 + 4 → wl_law L xs n x95 (z91.1, z91.2.1, z91.2.2.1, z91.2.2.2.1, z91.2.2.2.2.1, z91.2.2.2.2.2.1, z91.2.2.2.2.2.2.1, z91.2.2.2.2.2.2.2.1, z91.2.2.2.2.2.2.2.2, z93))) ∧ (¬ x92 = x94 → False))))))))))) ∧ (((xs a3.toNatClampNeg) &&& 31) = 19 → (vp_in (a3 + 1) L ∧ (vp_in (a3 + 2) L ∧ (wp_Ham_hamper (u.1, u.2.1, u.2.2.1, u.2.2.2.1, u.2.2.2.2.1, u.2.2.2.2.2.1, u.2.2.2.2.2.2.1, u.2.2.2.2.2.2.2.1, u.2.2.2.2.2.2.2.2.1) (xs (a3 + 1).toNatClampNeg) (xs (a3 + 2).toNatClampNeg) (fun x97 z96 => (vp_in (a3 + 1) L ∧ (vp_in (a3 + 2) L ∧ (wp_Mod_hamper u.2.2.2.2.2.2.2.2.2 (xs (a3 + 1).toNatClampNeg) (xs (a3 + 2).toNatClampNeg) (fun x99 z98 => ((x97 = x99 → (∀ x100 : Int32, x100 = a3 + 4 → wl_law L xs n x100 (z96.1, z96.2.1, z96.2.2.1, z96.2.2.2.1, z96.2.2.2.2.1, z96.2.2.2.2.2.1, z96.2.2.2.2.2.2.1, z96.2.2.2.2.2.2.2.1, z96.2.2.2.2.2.2.2.2, z98))) ∧ (¬ x97 = x99 → False))))))))))) ∧ (((xs a3.toNatClampNeg) &&& 31) = 20 → (vp_in (a3 + 1) L ∧ (vp_in (a3 + 2) L ∧ (wp_Ham_waiting (u.1, u.2.1, u.2.2.1, u.2.2.2.1, u.2.2.2.2.1, u.2.2.2.2.2.1, u.2.2.2.2.2.2.1, u.2.2.2.2.2.2.2.1, u.2.2.2.2.2.2.2.2.1) (xs (a3 + 1).toNatClampNeg) (xs (a3 + 2).toNatClampNeg) (fun x102 z101 => (vp_in (a3 + 1) L ∧ (vp_in (a3 + 2) L ∧ (wp_Mod_waiting u.2.2.2.2.2.2.2.2.2 (xs (a3 + 1).toNatClampNeg) (xs (a3 + 2).toNatClampNeg) (fun x104 z103 => ((x102 = x104 → (∀ x105 : Int32, x105 = a3 + 4 → wl_law L xs n x105 (z101.1, z101.2.1, z101.2.2.1, z101.2.2.2.1, z101.2.2.2.2.1, z101.2.2.2.2.2.1, z101.2.2.2.2.2.2.1, z101.2.2.2.2.2.2.2.1, z101.2.2.2.2.2.2.2.2, z103))) ∧ (¬ x102 = x104 → False))))))))))) ∧ (((xs a3.toNatClampNeg) &&& 31) = 21 → (vp_in (a3 + 1) L ∧ (vp_in (a3 + 2) L ∧ (wp_Ham_would (u.1, u.2.1, u.2.2.1, u.2.2.2.1, u.2.2.2.2.1, u.2.2.2.2.2.1, u.2.2.2.2.2.2.1, u.2.2.2.2.2.2.2.1, u.2.2.2.2.2.2.2.2.1) (xs (a3 + 1).toNatClampNeg) (xs (a3 + 2).toNatClampNeg) (fun x107 z106 => (vp_in (a3 + 1) L ∧ (vp_in (a3 + 2) L ∧ (wp_Mod_would u.2.2.2.2.2.2.2.2.2 (xs (a3 + 1).toNatClampNeg) (xs (a3 + 2).toNatClampNeg) (fun x109 z108 => ((x107 = x109 → (∀ x110 : Int32, x110 = a3 + 4 → wl_law L xs n x110 (z106.1, z106.2.1, z106.2.2.1, z106.2.2.2.1, z106.2.2.2.2.1, z106.2.2.2.2.2.1, z106.2.2.2.2.2.2.1, z106.2.2.2.2.2.2.2.1, z106.2.2.2.2.2.2.2.2, z108))) ∧ (¬ x107 = x109 → False))))))))))) ∧ (((xs a3.toNatClampNeg) &&& 31) = 22 → (vp_in (a3 + 1) L ∧ (wp_Ham_bestKind (u.1, u.2.1, u.2.2.1, u.2.2.2.1, u.2.2.2.2.1, u.2.2.2.2.2.1, u.2.2.2.2.2.2.1, u.2.2.2.2.2.2.2.1, u.2.2.2.2.2.2.2.2.1) (xs (a3 + 1).toNatClampNeg) (fun x112 z111 => (vp_in (a3 + 1) L ∧ (wp_Mod_bestKind u.2.2.2.2.2.2.2.2.2 (xs (a3 + 1).toNatClampNeg) (fun x114 z113 => ((x112 = x114 → (∀ x115 : Int32, x115 = a3 + 4 → wl_law L xs n x115 (z111.1, z111.2.1, z111.2.2.1, z111.2.2.2.1, z111.2.2.2.2.1, z111.2.2.2.2.2.1, z111.2.2.2.2.2.2.1, z111.2.2.2.2.2.2.2.1, z111.2.2.2.2.2.2.2.2, z113))) ∧ (¬ x112 = x114 → False))))))))) ∧ (((xs a3.toNatClampNeg) &&& 31) = 23 → (vp_in (a3 + 1) L ∧ (vp_in (a3 + 2) L ∧ (vp_in (a3 + 3) L ∧ (wp_Ham_weeksFor (u.1, u.2.1, u.2.2.1, u.2.2.2.1, u.2.2.2.2.1, u.2.2.2.2.2.1, u.2.2.2.2.2.2.1, u.2.2.2.2.2.2.2.1, u.2.2.2.2.2.2.2.2.1) (xs (a3 + 1).toNatClampNeg) (xs (a3 + 2).toNatClampNeg) (xs (a3 + 3).toNatClampNeg) (fun x117 z116 => (vp_in (a3 + 1) L ∧ (vp_in (a3 + 2) L ∧ (vp_in (a3 + 3) L ∧ (wp_Mod_weeksFor u.2.2.2.2.2.2.2.2.2 (xs (a3 + 1).toNatClampNeg) (xs (a3 + 2).toNatClampNeg) (xs (a3 + 3).toNatClampNeg) (fun x119 z118 => ((x117 = x119 → (∀ x120 : Int32, x120 = a3 + 4 → wl_law L xs n x120 (z116.1, z116.2.1, z116.2.2.1, z116.2.2.2.1, z116.2.2.2.2.1, z116.2.2.2.2.2.1, z116.2.2.2.2.2.2.1, z116.2.2.2.2.2.2.2.1, z116.2.2.2.2.2.2.2.2, z118))) ∧ (¬ x117 = x119 → False))))))))))))) ∧ (¬ ((xs a3.toNatClampNeg) &&& 31) = 0 → ¬ ((xs a3.toNatClampNeg) &&& 31) = 1 → ¬ ((xs a3.toNatClampNeg) &&& 31) = 2 → ¬ ((xs a3.toNatClampNeg) &&& 31) = 3 → ¬ ((xs a3.toNatClampNeg) &&& 31) = 4 → ¬ ((xs a3.toNatClampNeg) &&& 31) = 5 → ¬ ((xs a3.toNatClampNeg) &&& 31) = 6 → ¬ ((xs a3.toNatClampNeg) &&& 31) = 7 → ¬ ((xs a3.toNatClampNeg) &&& 31) = 8 → ¬ ((xs a3.toNatClampNeg) &&& 31) = 9 → ¬ ((xs a3.toNatClampNeg) &&& 31) = 10 → ¬ ((xs a3.toNatClampNeg) &&& 31) = 11 → ¬ ((xs a3.toNatClampNeg) &&& 31) = 12 → ¬ ((xs a3.toNatClampNeg) &&& 31) = 13 → ¬ ((xs a3.toNatClampNeg) &&& 31) = 14 → ¬ ((xs a3.toNatClampNeg) &&& 31) = 15 → ¬ ((xs a3.toNatClampNeg) &&& 31) = 16 → ¬ ((xs a3.toNatClampNeg) &&& 31) = 17 → ¬ ((xs a3.toNatClampNeg) &&& 31) = 18 → ¬ ((xs a3.toNatClampNeg) &&& 31) = 19 → ¬ ((xs a3.toNatClampNeg) &&& 31) = 20 → ¬ ((xs a3.toNatClampNeg) &&& 31) = 21 → ¬ ((xs a3.toNatClampNeg) &&& 31) = 22 → ¬ ((xs a3.toNatClampNeg) &&& 31) = 23 → (∀ x121 : Int32, x121 = a3 + 4 → wl_law L xs n x121 (u.1, u.2.1, u.2.2.1, u.2.2.2.1, u.2.2.2.2.1, u.2.2.2.2.2.1, u.2.2.2.2.2.2.1, u.2.2.2.2.2.2.2.1, u.2.2.2.2.2.2.2.2.1, u.2.2.2.2.2.2.2.2.2)))))))
theorem ok_Law_13 : CallOk y_Ham_join b_Ham_join 1 (some .int) 6 0 "HamperClubLaw" 13 := ⟨tb_265, tb_266, tb_267, tb_1, tb_268, by decide +kernel⟩
theorem sw_12_0_1_2_3_4_5_6_7_8_9_10 (s0 s1 s2 s3 s4 s5 s6 s7 s8 s9 s10 s11 : va_W) : SW (s0 ++ (s1 ++ (s2 ++ (s3 ++ (s4 ++ (s5 ++ (s6 ++ (s7 ++ (s8 ++ (s9 ++ (s10 ++ s11))))))))))) ((s0 ++ (s1 ++ (s2 ++ (s3 ++ (s4 ++ (s5 ++ (s6 ++ (s7 ++ (s8 ++ (s9 ++ s10)))))))))) ++ (s11)) := ⟨fun q => by simp only [List.mem_append, List.not_mem_nil, or_false, false_or, or_assoc, or_left_comm, or_comm], fun a => by first | (simp only [List.map_append, List.map_nil, List.count_append, List.count_nil, Nat.add_zero, Nat.add_assoc]; done) | (simp only [List.map_append, List.map_nil, List.count_append, List.count_nil]; omega)⟩
theorem ok_Law_17 : CallOk y_Mod_join b_Mod_join 3 (some .int) 2 0 "HamperClubLaw" 17 := ⟨tb_705, tb_706, tb_707, tb_12, tb_708, by decide +kernel⟩
theorem sw_12_11 (s0 s1 s2 s3 s4 s5 s6 s7 s8 s9 s10 s11 : va_W) : SW (s0 ++ (s1 ++ (s2 ++ (s3 ++ (s4 ++ (s5 ++ (s6 ++ (s7 ++ (s8 ++ (s9 ++ (s10 ++ s11))))))))))) ((s11) ++ (s0 ++ (s1 ++ (s2 ++ (s3 ++ (s4 ++ (s5 ++ (s6 ++ (s7 ++ (s8 ++ (s9 ++ s10))))))))))) := ⟨fun q => by simp only [List.mem_append, List.not_mem_nil, or_false, false_or, or_assoc, or_left_comm, or_comm], fun a => by first | (simp only [List.map_append, List.map_nil, List.count_append, List.count_nil, Nat.add_zero, Nat.add_assoc]; done) | (simp only [List.map_append, List.map_nil, List.count_append, List.count_nil]; omega)⟩
theorem ok_Law_18 : CallOk y_Ham_stick b_Ham_stick 3 (some .int) 6 2 "HamperClubLaw" 18 := ⟨tb_314, tb_315, tb_316, tb_1, tb_317, by decide +kernel⟩
theorem ok_Law_22 : CallOk y_Mod_stick b_Mod_stick 4 (some .int) 3 2 "HamperClubLaw" 22 := ⟨tb_716, tb_717, tb_718, tb_12, tb_719, by decide +kernel⟩
theorem ok_Law_23 : CallOk y_Ham_withdraw b_Ham_withdraw 3 (some .int) 6 2 "HamperClubLaw" 23 := ⟨tb_342, tb_343, tb_344, tb_1, tb_345, by decide +kernel⟩
theorem ok_Law_26 : CallOk y_Mod_withdraw b_Mod_withdraw 4 (some .int) 3 2 "HamperClubLaw" 26 := ⟨tb_740, tb_741, tb_742, tb_12, tb_743, by decide +kernel⟩
theorem ok_Law_27 : CallOk y_Ham_mislay b_Ham_mislay 2 (some .int) 6 1 "HamperClubLaw" 27 := ⟨tb_359, tb_360, tb_361, tb_1, tb_362, by decide +kernel⟩
theorem ok_Law_31 : CallOk y_Mod_mislay b_Mod_mislay 3 (some .int) 3 1 "HamperClubLaw" 31 := ⟨tb_756, tb_757, tb_758, tb_12, tb_759, by decide +kernel⟩
theorem ok_Law_32 : CallOk y_Ham_find b_Ham_find 2 (some .int) 6 1 "HamperClubLaw" 32 := ⟨tb_367, tb_368, tb_369, tb_1, tb_370, by decide +kernel⟩
theorem ok_Law_35 : CallOk y_Mod_find b_Mod_find 3 (some .int) 3 1 "HamperClubLaw" 35 := ⟨tb_768, tb_769, tb_770, tb_12, tb_771, by decide +kernel⟩
theorem ok_Law_36 : CallOk y_Ham_setHamper b_Ham_setHamper 4 (some .int) 6 3 "HamperClubLaw" 36 := ⟨tb_375, tb_376, tb_377, tb_1, tb_378, by decide +kernel⟩
theorem ok_Law_40 : CallOk y_Mod_setHamper b_Mod_setHamper 5 (some .int) 2 3 "HamperClubLaw" 40 := ⟨tb_780, tb_781, tb_782, tb_12, tb_783, by decide +kernel⟩
theorem ok_Law_41 : CallOk y_Ham_choose b_Ham_choose 3 (some .int) 6 2 "HamperClubLaw" 41 := ⟨tb_386, tb_387, tb_388, tb_1, tb_389, by decide +kernel⟩
theorem ok_Law_44 : CallOk y_Mod_choose b_Mod_choose 4 (some .int) 5 2 "HamperClubLaw" 44 := ⟨tb_787, tb_788, tb_789, tb_12, tb_790, by decide +kernel⟩
theorem ok_Law_45 : CallOk y_Ham_giveUp b_Ham_giveUp 2 (some .int) 6 1 "HamperClubLaw" 45 := ⟨tb_410, tb_411, tb_412, tb_1, tb_413, by decide +kernel⟩
theorem ok_Law_48 : CallOk y_Mod_giveUp b_Mod_giveUp 4 (some .int) 4 1 "HamperClubLaw" 48 := ⟨tb_815, tb_816, tb_817, tb_12, tb_818, by decide +kernel⟩
theorem ok_Law_49 : CallOk y_Ham_week b_Ham_week 1 (some .int) 6 0 "HamperClubLaw" 49 := ⟨tb_418, tb_419, tb_420, tb_1, tb_421, by decide +kernel⟩
theorem ok_Law_52 : CallOk y_Mod_week b_Mod_week 2 (some .int) 5 0 "HamperClubLaw" 52 := ⟨tb_823, tb_824, tb_825, tb_12, tb_826, by decide +kernel⟩
theorem ok_Law_53 : CallOk y_Ham_settle b_Ham_settle 1 (some .int) 6 0 "HamperClubLaw" 53 := ⟨tb_438, tb_439, tb_440, tb_1, tb_441, by decide +kernel⟩
theorem ok_Law_56 : CallOk y_Mod_settle b_Mod_settle 1 (some .int) 6 0 "HamperClubLaw" 56 := ⟨tb_835, tb_836, tb_837, tb_12, tb_838, by decide +kernel⟩
theorem ok_Law_57 : CallOk y_Ham_take b_Ham_take 2 (some .int) 6 1 "HamperClubLaw" 57 := ⟨tb_483, tb_484, tb_485, tb_1, tb_486, by decide +kernel⟩
theorem ok_Law_60 : CallOk y_Mod_take b_Mod_take 2 (some .int) 2 1 "HamperClubLaw" 60 := ⟨tb_690, tb_691, tb_692, tb_12, tb_693, by decide +kernel⟩
theorem ok_Law_61 : CallOk y_Ham_restore b_Ham_restore 2 (some .int) 6 1 "HamperClubLaw" 61 := ⟨tb_491, tb_492, tb_493, tb_1, tb_494, by decide +kernel⟩
theorem ok_Law_64 : CallOk y_Mod_restore b_Mod_restore 2 (some .int) 2 1 "HamperClubLaw" 64 := ⟨tb_701, tb_702, tb_703, tb_12, tb_704, by decide +kernel⟩
theorem ok_Law_65 : CallOk y_Ham_undo b_Ham_undo 1 (some .int) 6 0 "HamperClubLaw" 65 := ⟨tb_499, tb_500, tb_501, tb_1, tb_502, by decide +kernel⟩
theorem ok_Law_68 : CallOk y_Mod_undo b_Mod_undo 1 (some .int) 1 0 "HamperClubLaw" 68 := ⟨tb_682, tb_683, tb_684, tb_12, tb_685, by decide +kernel⟩
theorem ok_Law_69 : CallOk y_Ham_append b_Ham_append 2 (some .int) 1 1 "HamperClubLaw" 69 := ⟨tb_507, tb_508, tb_509, tb_1, tb_510, by decide +kernel⟩
theorem ok_Law_72 : CallOk y_Mod_append b_Mod_append 2 (some .int) 1 1 "HamperClubLaw" 72 := ⟨tb_855, tb_856, tb_857, tb_12, tb_858, by decide +kernel⟩
theorem ok_Law_73 : CallOk y_Ham_clearText b_Ham_clearText 2 (some .int) 0 0 "HamperClubLaw" 73 := ⟨tb_515, tb_516, tb_517, tb_1, tb_518, by decide +kernel⟩
theorem ok_Law_76 : CallOk y_Mod_clearText b_Mod_clearText 2 (some .int) 0 0 "HamperClubLaw" 76 := ⟨tb_859, tb_860, tb_861, tb_12, tb_862, by decide +kernel⟩
theorem ok_Law_77 : CallOk y_Ham_carryOut b_Ham_carryOut 3 (some .int) 6 0 "HamperClubLaw" 77 := ⟨tb_519, tb_520, tb_521, tb_1, tb_522, by decide +kernel⟩
theorem ok_Law_80 : CallOk y_Mod_carryOut b_Mod_carryOut 3 (some .int) 6 0 "HamperClubLaw" 80 := ⟨tb_863, tb_864, tb_865, tb_12, tb_866, by decide +kernel⟩
theorem ok_Law_81 : CallOk y_Ham_count b_Ham_count 2 (some .int) 2 1 "HamperClubLaw" 81 := ⟨tb_557, tb_558, tb_559, tb_1, tb_560, by decide +kernel⟩
theorem ok_Law_84 : CallOk y_Mod_count b_Mod_count 2 (some .int) 2 1 "HamperClubLaw" 84 := ⟨tb_891, tb_892, tb_893, tb_12, tb_894, by decide +kernel⟩
theorem ok_Law_85 : CallOk y_Ham_member b_Ham_member 3 (some .int) 3 2 "HamperClubLaw" 85 := ⟨tb_581, tb_582, tb_583, tb_1, tb_584, by decide +kernel⟩
theorem ok_Law_88 : CallOk y_Mod_member b_Mod_member 3 (some .int) 3 2 "HamperClubLaw" 88 := ⟨tb_903, tb_904, tb_905, tb_12, tb_906, by decide +kernel⟩
theorem ok_Law_89 : CallOk y_Ham_isGood b_Ham_isGood 4 (some .int) 1 2 "HamperClubLaw" 89 := ⟨tb_600, tb_601, tb_602, tb_1, tb_603, by decide +kernel⟩
theorem ok_Law_92 : CallOk y_Mod_isGood b_Mod_isGood 3 (some .int) 2 2 "HamperClubLaw" 92 := ⟨tb_919, tb_920, tb_921, tb_12, tb_922, by decide +kernel⟩
theorem ok_Law_93 : CallOk y_Ham_hamper b_Ham_hamper 3 (some .int) 2 2 "HamperClubLaw" 93 := ⟨tb_606, tb_607, tb_608, tb_1, tb_609, by decide +kernel⟩
theorem ok_Law_96 : CallOk y_Mod_hamper b_Mod_hamper 3 (some .int) 2 2 "HamperClubLaw" 96 := ⟨tb_923, tb_924, tb_925, tb_12, tb_926, by decide +kernel⟩
theorem ok_Law_97 : CallOk y_Ham_waiting b_Ham_waiting 3 (some .int) 1 2 "HamperClubLaw" 97 := ⟨tb_619, tb_620, tb_621, tb_1, tb_622, by decide +kernel⟩
theorem ok_Law_100 : CallOk y_Mod_waiting b_Mod_waiting 3 (some .int) 2 2 "HamperClubLaw" 100 := ⟨tb_931, tb_932, tb_933, tb_12, tb_934, by decide +kernel⟩
theorem ok_Law_101 : CallOk y_Ham_would b_Ham_would 4 (some .int) 5 2 "HamperClubLaw" 101 := ⟨tb_625, tb_626, tb_627, tb_1, tb_628, by decide +kernel⟩
theorem ok_Law_104 : CallOk y_Mod_would b_Mod_would 5 (some .int) 6 2 "HamperClubLaw" 104 := ⟨tb_935, tb_936, tb_937, tb_12, tb_938, by decide +kernel⟩
theorem ok_Law_105 : CallOk y_Ham_bestKind b_Ham_bestKind 6 (some .int) 6 1 "HamperClubLaw" 105 := ⟨tb_631, tb_632, tb_633, tb_1, tb_634, by decide +kernel⟩
theorem ok_Law_108 : CallOk y_Mod_bestKind b_Mod_bestKind 4 (some .int) 7 1 "HamperClubLaw" 108 := ⟨tb_939, tb_940, tb_941, tb_12, tb_942, by decide +kernel⟩
theorem ok_Law_109 : CallOk y_Ham_weeksFor b_Ham_weeksFor 7 (some .int) 1 3 "HamperClubLaw" 109 := ⟨tb_639, tb_640, tb_641, tb_1, tb_642, by decide +kernel⟩
theorem ok_Law_112 : CallOk y_Mod_weeksFor b_Mod_weeksFor 5 (some .int) 2 3 "HamperClubLaw" 112 := ⟨tb_947, tb_948, tb_949, tb_12, tb_950, by decide +kernel⟩
set_option maxHeartbeats 40000000 in
set_option maxRecDepth 100000 in
theorem law_loop {p : Program} {l : Launch} {e : Env} {s : State} {m : MethodId} {below : List Frame} {meth : Method} {c : Code} {G : GG} {qm qa0 qa1 qa2 qa3 qa4 qa5 qh qo qt qr : Nat → Nat} {af : Nat → Nat → Nat → Nat} {b L : Nat} {xs : Nat → Int32} {cells slots : Nat} (hkc : cells ≤ 600000) (hks : slots ≤ 7302250) (C0 : lw_At p s m meth c b L xs) (hK : KN G s) :
    ∀ (n : Nat) (a3 : Int32) (u : (CS × Int32 × CS × Int32 × CS × (Nat → Int32) × (Nat → SS) × OS × CS × RS)), wl_law L xs n a3 u → ∀ (H : Heap) (locs : List Loc) (ls : Array Slot), va_P G.1 classes (hamW G qm qa0 qh qo qt ++ (staW G qa0 qa1 qa2 qa4 ++ (clubW G qa1 u.1 ++ (snpW G qa2 qa3 u.2.1 ++ (clubW G qa3 u.2.2.1 ++ (snpW G qa4 qa5 u.2.2.2.1 ++ (clubW G qa5 u.2.2.2.2.1 ++ (hisW G qh af u.2.2.2.2.2.1 ++ (frW G af u.2.2.2.2.2.2.1 0 6 ++ (ordW G qo u.2.2.2.2.2.2.2.1 ++ (clubW G qt u.2.2.2.2.2.2.2.2.1 ++ refW G qr u.2.2.2.2.2.2.2.2.2))))))))))) H → va_D (fun q : Nat => s.heap.size ≤ q) (hamW G qm qa0 qh qo qt ++ (staW G qa0 qa1 qa2 qa4 ++ (clubW G qa1 u.1 ++ (snpW G qa2 qa3 u.2.1 ++ (clubW G qa3 u.2.2.1 ++ (snpW G qa4 qa5 u.2.2.2.1 ++ (clubW G qa5 u.2.2.2.2.1 ++ (hisW G qh af u.2.2.2.2.2.1 ++ (frW G af u.2.2.2.2.2.2.1 0 6 ++ (ordW G qo u.2.2.2.2.2.2.2.1 ++ (clubW G qt u.2.2.2.2.2.2.2.2.1 ++ refW G qr u.2.2.2.2.2.2.2.2.2))))))))))) → va_S (fun q : Nat => s.heap.size ≤ q) s.heap H locs → lv_has ls 4 [(0, .ref b), (1, .ref (qm 0)), (2, .ref (qr 0)), (3, .int a3)] → W p l e room_1 s m #[Value.ref b] below meth c H locs cells slots (lw_Z below #[Value.ref b] s) (F0 m 18 ls []) := by
  obtain ⟨hx, hb, hr, hml, hown, hts0, hX, hbl, hlocks, hgv⟩ := C0
  have hts : ∀ w ∈ Tg, w.before #[Value.ref b] s = true := fun w hw => hts0 w (Tg_sub w hw)
  have hA : ∀ q : Nat, s.heap.size ≤ q → (fun q : Nat => s.heap.size ≤ q) q := fun _ h => h
  have hbA : ¬ (fun q : Nat => s.heap.size ≤ q) b := Nat.not_le.mpr hbl
  have hcs1 : cells ≤ room_1.cells := hkc
  have hcs2 : slots ≤ room_1.slots := hks
  intro n
  induction n with
  | zero => intro a3 u h; exact h.elim
  | succ n ih =>
    intro a3 u h H locs ls hP hD hS hl
    unfold wl_law at h
    refine lv_iload_n hx hb d_Law_law_18 rfl (lv_at hl 3 rfl) ?_
    refine lv_aload_n hx hb d_Law_law_19 rfl (lv_at hl 0 rfl) ?_
    refine va_slen hx hb hX hbl hbA hS d_Law_law_20 ?_
    refine lv_iconst (v := 4) hx hb d_Law_law_21 (by decide) ?_
    refine lv_isub hx hb d_Law_law_22 ?_
    refine lv_icmp_gt (tgt := 762) hx hb d_Law_law_23 (by decide) (fun hc => ?_) (fun hc => ?_)
    · have h := h.1 hc
      refine lv_iconst (v := 1) hx hb d_Law_law_762 (by decide) ?_
      refine va_forget (fun q hq => hS.2.2 q hq) ?_
      refine W.widen (k := 600000) (n := 7302250) hkc hks ?_
      exact lw_ret hx hb hr hlocks d_Law_law_763
    · have h := h.2 hc
      refine lv_aload_n hx hb d_Law_law_26 rfl (lv_at hl 0 rfl) ?_
      refine lv_iload_n hx hb d_Law_law_27 rfl (lv_at hl 3 rfl) ?_
      obtain ⟨hi, h⟩ := h
      refine va_sld hx hb hX hbl hbA hS hi d_Law_law_28 ?_
      refine lv_bipush (v := 31) hx hb d_Law_law_29 (by decide) ?_
      refine lv_iand hx hb d_Law_law_31 ?_
      by_cases hc0 : ((xs a3.toNatClampNeg) &&& 31) = 0
      · have h := h.1 hc0
        refine lv_tableIn (off := 112) (tgt := 144) hx hb d_Law_law_32 (by rw [hc0]; decide) (by rw [hc0]; decide) (by rw [hc0]; rfl) (by decide) ?_
        refine lv_aload_n hx hb d_Law_law_144 rfl (lv_at hl 1 rfl) ?_
        have hP := SW.P (sw_12_0_1_2_3_4_5_6_7_8_9_10 (hamW G qm qa0 qh qo qt) (staW G qa0 qa1 qa2 qa4) (clubW G qa1 u.1) (snpW G qa2 qa3 u.2.1) (clubW G qa3 u.2.2.1) (snpW G qa4 qa5 u.2.2.2.1) (clubW G qa5 u.2.2.2.2.1) (hisW G qh af u.2.2.2.2.2.1) (frW G af u.2.2.2.2.2.2.1 0 6) (ordW G qo u.2.2.2.2.2.2.2.1) (clubW G qt u.2.2.2.2.2.2.2.2.1) (refW G qr u.2.2.2.2.2.2.2.2.2)) hP
        have hD := SW.D (sw_12_0_1_2_3_4_5_6_7_8_9_10 (hamW G qm qa0 qh qo qt) (staW G qa0 qa1 qa2 qa4) (clubW G qa1 u.1) (snpW G qa2 qa3 u.2.1) (clubW G qa3 u.2.2.1) (snpW G qa4 qa5 u.2.2.2.1) (clubW G qa5 u.2.2.2.2.1) (hisW G qh af u.2.2.2.2.2.1) (frW G af u.2.2.2.2.2.2.1 0 6) (ordW G qo u.2.2.2.2.2.2.2.1) (clubW G qt u.2.2.2.2.2.2.2.2.1) (refW G qr u.2.2.2.2.2.2.2.2.2)) hD
        refine call_ViP (own := "HamperClubLaw") (As := []) (rest := []) (q0 := 0) (ci := 8) (wc := hamW G qm qa0 qh qo qt ++ (staW G qa0 qa1 qa2 qa4 ++ (clubW G qa1 u.1 ++ (snpW G qa2 qa3 u.2.1 ++ (clubW G qa3 u.2.2.1 ++ (snpW G qa4 qa5 u.2.2.2.1 ++ (clubW G qa5 u.2.2.2.2.1 ++ (hisW G qh af u.2.2.2.2.2.1 ++ (frW G af u.2.2.2.2.2.2.1 0 6 ++ (ordW G qo u.2.2.2.2.2.2.2.1 ++ clubW G qt u.2.2.2.2.2.2.2.2.1)))))))))) (post := refW G qr u.2.2.2.2.2.2.2.2.2) hx hb hml hts hown hK hA hP hD hS ok_Law_13 rfl ⟨Nat.le_of_ble_eq_true rfl, Nat.le_of_ble_eq_true rfl⟩ ⟨hcs1, hcs2⟩ rfl rfl rfl hl.1 rfl (Nat.le_of_ble_eq_true rfl) d_Law_law_145 (c_Ham_join l G qm qa0 qa1 qa2 qa3 qa4 qa5 qh qo qt af _ (u.1, u.2.1, u.2.2.1, u.2.2.2.1, u.2.2.2.2.1, u.2.2.2.2.2.1, u.2.2.2.2.2.2.1, u.2.2.2.2.2.2.2.1, u.2.2.2.2.2.2.2.2.1)  _ h) (fun x2 z1 H locs h hP hD hS => ?_)
        have hP := SW.P (sw_12_0_1_2_3_4_5_6_7_8_9_10 (hamW G qm qa0 qh qo qt) (staW G qa0 qa1 qa2 qa4) (clubW G qa1 z1.1) (snpW G qa2 qa3 z1.2.1) (clubW G qa3 z1.2.2.1) (snpW G qa4 qa5 z1.2.2.2.1) (clubW G qa5 z1.2.2.2.2.1) (hisW G qh af z1.2.2.2.2.2.1) (frW G af z1.2.2.2.2.2.2.1 0 6) (ordW G qo z1.2.2.2.2.2.2.2.1) (clubW G qt z1.2.2.2.2.2.2.2.2) (refW G qr u.2.2.2.2.2.2.2.2.2)).symm hP
        have hD := SW.D (sw_12_0_1_2_3_4_5_6_7_8_9_10 (hamW G qm qa0 qh qo qt) (staW G qa0 qa1 qa2 qa4) (clubW G qa1 z1.1) (snpW G qa2 qa3 z1.2.1) (clubW G qa3 z1.2.2.1) (snpW G qa4 qa5 z1.2.2.2.1) (clubW G qa5 z1.2.2.2.2.1) (hisW G qh af z1.2.2.2.2.2.1) (frW G af z1.2.2.2.2.2.2.1 0 6) (ordW G qo z1.2.2.2.2.2.2.2.1) (clubW G qt z1.2.2.2.2.2.2.2.2) (refW G qr u.2.2.2.2.2.2.2.2.2)).symm hD
        refine lv_aload_n hx hb d_Law_law_148 rfl (lv_at hl 2 rfl) ?_
        have hP := SW.P (sw_12_11 (hamW G qm qa0 qh qo qt) (staW G qa0 qa1 qa2 qa4) (clubW G qa1 z1.1) (snpW G qa2 qa3 z1.2.1) (clubW G qa3 z1.2.2.1) (snpW G qa4 qa5 z1.2.2.2.1) (clubW G qa5 z1.2.2.2.2.1) (hisW G qh af z1.2.2.2.2.2.1) (frW G af z1.2.2.2.2.2.2.1 0 6) (ordW G qo z1.2.2.2.2.2.2.2.1) (clubW G qt z1.2.2.2.2.2.2.2.2) (refW G qr u.2.2.2.2.2.2.2.2.2)) hP
        have hD := SW.D (sw_12_11 (hamW G qm qa0 qh qo qt) (staW G qa0 qa1 qa2 qa4) (clubW G qa1 z1.1) (snpW G qa2 qa3 z1.2.1) (clubW G qa3 z1.2.2.1) (snpW G qa4 qa5 z1.2.2.2.1) (clubW G qa5 z1.2.2.2.2.1) (hisW G qh af z1.2.2.2.2.2.1) (frW G af z1.2.2.2.2.2.2.1 0 6) (ordW G qo z1.2.2.2.2.2.2.2.1) (clubW G qt z1.2.2.2.2.2.2.2.2) (refW G qr u.2.2.2.2.2.2.2.2.2)) hD
        refine call_ViP (own := "HamperClubLaw") (As := []) (rest := [.int x2]) (q0 := 0) (ci := 9) (wc := refW G qr u.2.2.2.2.2.2.2.2.2) (post := hamW G qm qa0 qh qo qt ++ (staW G qa0 qa1 qa2 qa4 ++ (clubW G qa1 z1.1 ++ (snpW G qa2 qa3 z1.2.1 ++ (clubW G qa3 z1.2.2.1 ++ (snpW G qa4 qa5 z1.2.2.2.1 ++ (clubW G qa5 z1.2.2.2.2.1 ++ (hisW G qh af z1.2.2.2.2.2.1 ++ (frW G af z1.2.2.2.2.2.2.1 0 6 ++ (ordW G qo z1.2.2.2.2.2.2.2.1 ++ clubW G qt z1.2.2.2.2.2.2.2.2)))))))))) hx hb hml hts hown hK hA hP hD hS ok_Law_17 rfl ⟨Nat.le_of_ble_eq_true rfl, Nat.le_of_ble_eq_true rfl⟩ ⟨hcs1, hcs2⟩ rfl rfl rfl hl.1 rfl (Nat.le_of_ble_eq_true rfl) d_Law_law_149 (c_Mod_join l G qr _ u.2.2.2.2.2.2.2.2.2  _ h) (fun x4 z3 H locs h hP hD hS => ?_)
        have hP := SW.P (sw_12_11 (hamW G qm qa0 qh qo qt) (staW G qa0 qa1 qa2 qa4) (clubW G qa1 z1.1) (snpW G qa2 qa3 z1.2.1) (clubW G qa3 z1.2.2.1) (snpW G qa4 qa5 z1.2.2.2.1) (clubW G qa5 z1.2.2.2.2.1) (hisW G qh af z1.2.2.2.2.2.1) (frW G af z1.2.2.2.2.2.2.1 0 6) (ordW G qo z1.2.2.2.2.2.2.2.1) (clubW G qt z1.2.2.2.2.2.2.2.2) (refW G qr z3)).symm hP
        have hD := SW.D (sw_12_11 (hamW G qm qa0 qh qo qt) (staW G qa0 qa1 qa2 qa4) (clubW G qa1 z1.1) (snpW G qa2 qa3 z1.2.1) (clubW G qa3 z1.2.2.1) (snpW G qa4 qa5 z1.2.2.2.1) (clubW G qa5 z1.2.2.2.2.1) (hisW G qh af z1.2.2.2.2.2.1) (frW G af z1.2.2.2.2.2.2.1 0 6) (ordW G qo z1.2.2.2.2.2.2.2.1) (clubW G qt z1.2.2.2.2.2.2.2.2) (refW G qr z3)).symm hD
        refine lv_icmp_eq (tgt := 756) hx hb d_Law_law_152 (by decide) (fun hc => ?_) (fun hc => ?_)
        · have h := h.1 hc
          obtain ⟨x5, ex5⟩ : ∃ y : Int32, y = a3 + 4 := ⟨_, rfl⟩
          have h := h x5 ex5
          refine lv_iinc (v := x5) (lv' := [(3, .int x5), (0, .ref b), (1, .ref (qm 0)), (2, .ref (qr 0))]) hx hb d_Law_law_756 hl (k := 3) rfl (by rw [ex5]; rfl) (by decide) rfl (fun ls hl => ?_)
          refine lv_goto (tgt := 18) hx hb d_Law_law_759 (by decide) ?_
          exact ih x5 (z1.1, z1.2.1, z1.2.2.1, z1.2.2.2.1, z1.2.2.2.2.1, z1.2.2.2.2.2.1, z1.2.2.2.2.2.2.1, z1.2.2.2.2.2.2.2.1, z1.2.2.2.2.2.2.2.2, z3) h _ _ _ hP hD hS (lv_sub hl [1, 2, 3, 0] rfl)
        · have h := h.2 hc
          refine lv_iconst (v := 0) hx hb d_Law_law_155 (by decide) ?_
          exact h.elim
      by_cases hc1 : ((xs a3.toNatClampNeg) &&& 31) = 1
      · have h := h.2.1 hc1
        refine lv_tableIn (off := 125) (tgt := 157) hx hb d_Law_law_32 (by rw [hc1]; decide) (by rw [hc1]; decide) (by rw [hc1]; rfl) (by decide) ?_
        refine lv_aload_n hx hb d_Law_law_157 rfl (lv_at hl 1 rfl) ?_
        refine lv_aload_n hx hb d_Law_law_158 rfl (lv_at hl 0 rfl) ?_
        refine lv_iload_n hx hb d_Law_law_159 rfl (lv_at hl 3 rfl) ?_
        refine lv_iconst (v := 1) hx hb d_Law_law_160 (by decide) ?_
        refine lv_iadd hx hb d_Law_law_161 ?_
        obtain ⟨hi, h⟩ := h
        refine va_sld hx hb hX hbl hbA hS hi d_Law_law_162 ?_
        refine lv_aload_n hx hb d_Law_law_163 rfl (lv_at hl 0 rfl) ?_
        refine lv_iload_n hx hb d_Law_law_164 rfl (lv_at hl 3 rfl) ?_
        refine lv_iconst (v := 2) hx hb d_Law_law_165 (by decide) ?_
        refine lv_iadd hx hb d_Law_law_166 ?_
        obtain ⟨hi, h⟩ := h
        refine va_sld hx hb hX hbl hbA hS hi d_Law_law_167 ?_
        have hP := SW.P (sw_12_0_1_2_3_4_5_6_7_8_9_10 (hamW G qm qa0 qh qo qt) (staW G qa0 qa1 qa2 qa4) (clubW G qa1 u.1) (snpW G qa2 qa3 u.2.1) (clubW G qa3 u.2.2.1) (snpW G qa4 qa5 u.2.2.2.1) (clubW G qa5 u.2.2.2.2.1) (hisW G qh af u.2.2.2.2.2.1) (frW G af u.2.2.2.2.2.2.1 0 6) (ordW G qo u.2.2.2.2.2.2.2.1) (clubW G qt u.2.2.2.2.2.2.2.2.1) (refW G qr u.2.2.2.2.2.2.2.2.2)) hP
        have hD := SW.D (sw_12_0_1_2_3_4_5_6_7_8_9_10 (hamW G qm qa0 qh qo qt) (staW G qa0 qa1 qa2 qa4) (clubW G qa1 u.1) (snpW G qa2 qa3 u.2.1) (clubW G qa3 u.2.2.1) (snpW G qa4 qa5 u.2.2.2.1) (clubW G qa5 u.2.2.2.2.1) (hisW G qh af u.2.2.2.2.2.1) (frW G af u.2.2.2.2.2.2.1 0 6) (ordW G qo u.2.2.2.2.2.2.2.1) (clubW G qt u.2.2.2.2.2.2.2.2.1) (refW G qr u.2.2.2.2.2.2.2.2.2)) hD
        refine call_ViP (own := "HamperClubLaw") (As := [.int (xs (a3 + 1).toNatClampNeg), .int (xs (a3 + 2).toNatClampNeg)]) (rest := []) (q0 := 0) (ci := 8) (wc := hamW G qm qa0 qh qo qt ++ (staW G qa0 qa1 qa2 qa4 ++ (clubW G qa1 u.1 ++ (snpW G qa2 qa3 u.2.1 ++ (clubW G qa3 u.2.2.1 ++ (snpW G qa4 qa5 u.2.2.2.1 ++ (clubW G qa5 u.2.2.2.2.1 ++ (hisW G qh af u.2.2.2.2.2.1 ++ (frW G af u.2.2.2.2.2.2.1 0 6 ++ (ordW G qo u.2.2.2.2.2.2.2.1 ++ clubW G qt u.2.2.2.2.2.2.2.2.1)))))))))) (post := refW G qr u.2.2.2.2.2.2.2.2.2) hx hb hml hts hown hK hA hP hD hS ok_Law_18 rfl ⟨Nat.le_of_ble_eq_true rfl, Nat.le_of_ble_eq_true rfl⟩ ⟨hcs1, hcs2⟩ rfl rfl rfl hl.1 rfl (Nat.le_of_ble_eq_true rfl) d_Law_law_168 (c_Ham_stick l G qm qa0 qa1 qa2 qa3 qa4 qa5 qh qo qt af _ (u.1, u.2.1, u.2.2.1, u.2.2.2.1, u.2.2.2.2.1, u.2.2.2.2.2.1, u.2.2.2.2.2.2.1, u.2.2.2.2.2.2.2.1, u.2.2.2.2.2.2.2.2.1) (xs (a3 + 1).toNatClampNeg) (xs (a3 + 2).toNatClampNeg) _ h) (fun x7 z6 H locs h hP hD hS => ?_)
        have hP := SW.P (sw_12_0_1_2_3_4_5_6_7_8_9_10 (hamW G qm qa0 qh qo qt) (staW G qa0 qa1 qa2 qa4) (clubW G qa1 z6.1) (snpW G qa2 qa3 z6.2.1) (clubW G qa3 z6.2.2.1) (snpW G qa4 qa5 z6.2.2.2.1) (clubW G qa5 z6.2.2.2.2.1) (hisW G qh af z6.2.2.2.2.2.1) (frW G af z6.2.2.2.2.2.2.1 0 6) (ordW G qo z6.2.2.2.2.2.2.2.1) (clubW G qt z6.2.2.2.2.2.2.2.2) (refW G qr u.2.2.2.2.2.2.2.2.2)).symm hP
        have hD := SW.D (sw_12_0_1_2_3_4_5_6_7_8_9_10 (hamW G qm qa0 qh qo qt) (staW G qa0 qa1 qa2 qa4) (clubW G qa1 z6.1) (snpW G qa2 qa3 z6.2.1) (clubW G qa3 z6.2.2.1) (snpW G qa4 qa5 z6.2.2.2.1) (clubW G qa5 z6.2.2.2.2.1) (hisW G qh af z6.2.2.2.2.2.1) (frW G af z6.2.2.2.2.2.2.1 0 6) (ordW G qo z6.2.2.2.2.2.2.2.1) (clubW G qt z6.2.2.2.2.2.2.2.2) (refW G qr u.2.2.2.2.2.2.2.2.2)).symm hD
        refine lv_aload_n hx hb d_Law_law_171 rfl (lv_at hl 2 rfl) ?_
        refine lv_aload_n hx hb d_Law_law_172 rfl (lv_at hl 0 rfl) ?_
        refine lv_iload_n hx hb d_Law_law_173 rfl (lv_at hl 3 rfl) ?_
        refine lv_iconst (v := 1) hx hb d_Law_law_174 (by decide) ?_
        refine lv_iadd hx hb d_Law_law_175 ?_
        obtain ⟨hi, h⟩ := h
        refine va_sld hx hb hX hbl hbA hS hi d_Law_law_176 ?_
        refine lv_aload_n hx hb d_Law_law_177 rfl (lv_at hl 0 rfl) ?_
        refine lv_iload_n hx hb d_Law_law_178 rfl (lv_at hl 3 rfl) ?_
        refine lv_iconst (v := 2) hx hb d_Law_law_179 (by decide) ?_
        refine lv_iadd hx hb d_Law_law_180 ?_
        obtain ⟨hi, h⟩ := h
        refine va_sld hx hb hX hbl hbA hS hi d_Law_law_181 ?_
        have hP := SW.P (sw_12_11 (hamW G qm qa0 qh qo qt) (staW G qa0 qa1 qa2 qa4) (clubW G qa1 z6.1) (snpW G qa2 qa3 z6.2.1) (clubW G qa3 z6.2.2.1) (snpW G qa4 qa5 z6.2.2.2.1) (clubW G qa5 z6.2.2.2.2.1) (hisW G qh af z6.2.2.2.2.2.1) (frW G af z6.2.2.2.2.2.2.1 0 6) (ordW G qo z6.2.2.2.2.2.2.2.1) (clubW G qt z6.2.2.2.2.2.2.2.2) (refW G qr u.2.2.2.2.2.2.2.2.2)) hP
        have hD := SW.D (sw_12_11 (hamW G qm qa0 qh qo qt) (staW G qa0 qa1 qa2 qa4) (clubW G qa1 z6.1) (snpW G qa2 qa3 z6.2.1) (clubW G qa3 z6.2.2.1) (snpW G qa4 qa5 z6.2.2.2.1) (clubW G qa5 z6.2.2.2.2.1) (hisW G qh af z6.2.2.2.2.2.1) (frW G af z6.2.2.2.2.2.2.1 0 6) (ordW G qo z6.2.2.2.2.2.2.2.1) (clubW G qt z6.2.2.2.2.2.2.2.2) (refW G qr u.2.2.2.2.2.2.2.2.2)) hD
        refine call_ViP (own := "HamperClubLaw") (As := [.int (xs (a3 + 1).toNatClampNeg), .int (xs (a3 + 2).toNatClampNeg)]) (rest := [.int x7]) (q0 := 0) (ci := 9) (wc := refW G qr u.2.2.2.2.2.2.2.2.2) (post := hamW G qm qa0 qh qo qt ++ (staW G qa0 qa1 qa2 qa4 ++ (clubW G qa1 z6.1 ++ (snpW G qa2 qa3 z6.2.1 ++ (clubW G qa3 z6.2.2.1 ++ (snpW G qa4 qa5 z6.2.2.2.1 ++ (clubW G qa5 z6.2.2.2.2.1 ++ (hisW G qh af z6.2.2.2.2.2.1 ++ (frW G af z6.2.2.2.2.2.2.1 0 6 ++ (ordW G qo z6.2.2.2.2.2.2.2.1 ++ clubW G qt z6.2.2.2.2.2.2.2.2)))))))))) hx hb hml hts hown hK hA hP hD hS ok_Law_22 rfl ⟨Nat.le_of_ble_eq_true rfl, Nat.le_of_ble_eq_true rfl⟩ ⟨hcs1, hcs2⟩ rfl rfl rfl hl.1 rfl (Nat.le_of_ble_eq_true rfl) d_Law_law_182 (c_Mod_stick l G qr _ u.2.2.2.2.2.2.2.2.2 (xs (a3 + 1).toNatClampNeg) (xs (a3 + 2).toNatClampNeg) _ h) (fun x9 z8 H locs h hP hD hS => ?_)
        have hP := SW.P (sw_12_11 (hamW G qm qa0 qh qo qt) (staW G qa0 qa1 qa2 qa4) (clubW G qa1 z6.1) (snpW G qa2 qa3 z6.2.1) (clubW G qa3 z6.2.2.1) (snpW G qa4 qa5 z6.2.2.2.1) (clubW G qa5 z6.2.2.2.2.1) (hisW G qh af z6.2.2.2.2.2.1) (frW G af z6.2.2.2.2.2.2.1 0 6) (ordW G qo z6.2.2.2.2.2.2.2.1) (clubW G qt z6.2.2.2.2.2.2.2.2) (refW G qr z8)).symm hP
        have hD := SW.D (sw_12_11 (hamW G qm qa0 qh qo qt) (staW G qa0 qa1 qa2 qa4) (clubW G qa1 z6.1) (snpW G qa2 qa3 z6.2.1) (clubW G qa3 z6.2.2.1) (snpW G qa4 qa5 z6.2.2.2.1) (clubW G qa5 z6.2.2.2.2.1) (hisW G qh af z6.2.2.2.2.2.1) (frW G af z6.2.2.2.2.2.2.1 0 6) (ordW G qo z6.2.2.2.2.2.2.2.1) (clubW G qt z6.2.2.2.2.2.2.2.2) (refW G qr z8)).symm hD
        refine lv_icmp_eq (tgt := 756) hx hb d_Law_law_185 (by decide) (fun hc => ?_) (fun hc => ?_)
        · have h := h.1 hc
          obtain ⟨x10, ex10⟩ : ∃ y : Int32, y = a3 + 4 := ⟨_, rfl⟩
          have h := h x10 ex10
          refine lv_iinc (v := x10) (lv' := [(3, .int x10), (0, .ref b), (1, .ref (qm 0)), (2, .ref (qr 0))]) hx hb d_Law_law_756 hl (k := 3) rfl (by rw [ex10]; rfl) (by decide) rfl (fun ls hl => ?_)
          refine lv_goto (tgt := 18) hx hb d_Law_law_759 (by decide) ?_
          exact ih x10 (z6.1, z6.2.1, z6.2.2.1, z6.2.2.2.1, z6.2.2.2.2.1, z6.2.2.2.2.2.1, z6.2.2.2.2.2.2.1, z6.2.2.2.2.2.2.2.1, z6.2.2.2.2.2.2.2.2, z8) h _ _ _ hP hD hS (lv_sub hl [1, 2, 3, 0] rfl)
        · have h := h.2 hc
          refine lv_iconst (v := 0) hx hb d_Law_law_188 (by decide) ?_
          exact h.elim
      by_cases hc2 : ((xs a3.toNatClampNeg) &&& 31) = 2
      · have h := h.2.2.1 hc2
        refine lv_tableIn (off := 158) (tgt := 190) hx hb d_Law_law_32 (by rw [hc2]; decide) (by rw [hc2]; decide) (by rw [hc2]; rfl) (by decide) ?_
        refine lv_aload_n hx hb d_Law_law_190 rfl (lv_at hl 1 rfl) ?_
        refine lv_aload_n hx hb d_Law_law_191 rfl (lv_at hl 0 rfl) ?_
        refine lv_iload_n hx hb d_Law_law_192 rfl (lv_at hl 3 rfl) ?_
        refine lv_iconst (v := 1) hx hb d_Law_law_193 (by decide) ?_
        refine lv_iadd hx hb d_Law_law_194 ?_
        obtain ⟨hi, h⟩ := h
        refine va_sld hx hb hX hbl hbA hS hi d_Law_law_195 ?_
        refine lv_aload_n hx hb d_Law_law_196 rfl (lv_at hl 0 rfl) ?_
        refine lv_iload_n hx hb d_Law_law_197 rfl (lv_at hl 3 rfl) ?_
        refine lv_iconst (v := 2) hx hb d_Law_law_198 (by decide) ?_
        refine lv_iadd hx hb d_Law_law_199 ?_
        obtain ⟨hi, h⟩ := h
        refine va_sld hx hb hX hbl hbA hS hi d_Law_law_200 ?_
        have hP := SW.P (sw_12_0_1_2_3_4_5_6_7_8_9_10 (hamW G qm qa0 qh qo qt) (staW G qa0 qa1 qa2 qa4) (clubW G qa1 u.1) (snpW G qa2 qa3 u.2.1) (clubW G qa3 u.2.2.1) (snpW G qa4 qa5 u.2.2.2.1) (clubW G qa5 u.2.2.2.2.1) (hisW G qh af u.2.2.2.2.2.1) (frW G af u.2.2.2.2.2.2.1 0 6) (ordW G qo u.2.2.2.2.2.2.2.1) (clubW G qt u.2.2.2.2.2.2.2.2.1) (refW G qr u.2.2.2.2.2.2.2.2.2)) hP
        have hD := SW.D (sw_12_0_1_2_3_4_5_6_7_8_9_10 (hamW G qm qa0 qh qo qt) (staW G qa0 qa1 qa2 qa4) (clubW G qa1 u.1) (snpW G qa2 qa3 u.2.1) (clubW G qa3 u.2.2.1) (snpW G qa4 qa5 u.2.2.2.1) (clubW G qa5 u.2.2.2.2.1) (hisW G qh af u.2.2.2.2.2.1) (frW G af u.2.2.2.2.2.2.1 0 6) (ordW G qo u.2.2.2.2.2.2.2.1) (clubW G qt u.2.2.2.2.2.2.2.2.1) (refW G qr u.2.2.2.2.2.2.2.2.2)) hD
        refine call_ViP (own := "HamperClubLaw") (As := [.int (xs (a3 + 1).toNatClampNeg), .int (xs (a3 + 2).toNatClampNeg)]) (rest := []) (q0 := 0) (ci := 8) (wc := hamW G qm qa0 qh qo qt ++ (staW G qa0 qa1 qa2 qa4 ++ (clubW G qa1 u.1 ++ (snpW G qa2 qa3 u.2.1 ++ (clubW G qa3 u.2.2.1 ++ (snpW G qa4 qa5 u.2.2.2.1 ++ (clubW G qa5 u.2.2.2.2.1 ++ (hisW G qh af u.2.2.2.2.2.1 ++ (frW G af u.2.2.2.2.2.2.1 0 6 ++ (ordW G qo u.2.2.2.2.2.2.2.1 ++ clubW G qt u.2.2.2.2.2.2.2.2.1)))))))))) (post := refW G qr u.2.2.2.2.2.2.2.2.2) hx hb hml hts hown hK hA hP hD hS ok_Law_23 rfl ⟨Nat.le_of_ble_eq_true rfl, Nat.le_of_ble_eq_true rfl⟩ ⟨hcs1, hcs2⟩ rfl rfl rfl hl.1 rfl (Nat.le_of_ble_eq_true rfl) d_Law_law_201 (c_Ham_withdraw l G qm qa0 qa1 qa2 qa3 qa4 qa5 qh qo qt af _ (u.1, u.2.1, u.2.2.1, u.2.2.2.1, u.2.2.2.2.1, u.2.2.2.2.2.1, u.2.2.2.2.2.2.1, u.2.2.2.2.2.2.2.1, u.2.2.2.2.2.2.2.2.1) (xs (a3 + 1).toNatClampNeg) (xs (a3 + 2).toNatClampNeg) _ h) (fun x12 z11 H locs h hP hD hS => ?_)
        have hP := SW.P (sw_12_0_1_2_3_4_5_6_7_8_9_10 (hamW G qm qa0 qh qo qt) (staW G qa0 qa1 qa2 qa4) (clubW G qa1 z11.1) (snpW G qa2 qa3 z11.2.1) (clubW G qa3 z11.2.2.1) (snpW G qa4 qa5 z11.2.2.2.1) (clubW G qa5 z11.2.2.2.2.1) (hisW G qh af z11.2.2.2.2.2.1) (frW G af z11.2.2.2.2.2.2.1 0 6) (ordW G qo z11.2.2.2.2.2.2.2.1) (clubW G qt z11.2.2.2.2.2.2.2.2) (refW G qr u.2.2.2.2.2.2.2.2.2)).symm hP
        have hD := SW.D (sw_12_0_1_2_3_4_5_6_7_8_9_10 (hamW G qm qa0 qh qo qt) (staW G qa0 qa1 qa2 qa4) (clubW G qa1 z11.1) (snpW G qa2 qa3 z11.2.1) (clubW G qa3 z11.2.2.1) (snpW G qa4 qa5 z11.2.2.2.1) (clubW G qa5 z11.2.2.2.2.1) (hisW G qh af z11.2.2.2.2.2.1) (frW G af z11.2.2.2.2.2.2.1 0 6) (ordW G qo z11.2.2.2.2.2.2.2.1) (clubW G qt z11.2.2.2.2.2.2.2.2) (refW G qr u.2.2.2.2.2.2.2.2.2)).symm hD
        refine lv_aload_n hx hb d_Law_law_204 rfl (lv_at hl 2 rfl) ?_
        refine lv_aload_n hx hb d_Law_law_205 rfl (lv_at hl 0 rfl) ?_
        refine lv_iload_n hx hb d_Law_law_206 rfl (lv_at hl 3 rfl) ?_
        refine lv_iconst (v := 1) hx hb d_Law_law_207 (by decide) ?_
        refine lv_iadd hx hb d_Law_law_208 ?_
        obtain ⟨hi, h⟩ := h
        refine va_sld hx hb hX hbl hbA hS hi d_Law_law_209 ?_
        refine lv_aload_n hx hb d_Law_law_210 rfl (lv_at hl 0 rfl) ?_
        refine lv_iload_n hx hb d_Law_law_211 rfl (lv_at hl 3 rfl) ?_
        refine lv_iconst (v := 2) hx hb d_Law_law_212 (by decide) ?_
        refine lv_iadd hx hb d_Law_law_213 ?_
        obtain ⟨hi, h⟩ := h
        refine va_sld hx hb hX hbl hbA hS hi d_Law_law_214 ?_
        have hP := SW.P (sw_12_11 (hamW G qm qa0 qh qo qt) (staW G qa0 qa1 qa2 qa4) (clubW G qa1 z11.1) (snpW G qa2 qa3 z11.2.1) (clubW G qa3 z11.2.2.1) (snpW G qa4 qa5 z11.2.2.2.1) (clubW G qa5 z11.2.2.2.2.1) (hisW G qh af z11.2.2.2.2.2.1) (frW G af z11.2.2.2.2.2.2.1 0 6) (ordW G qo z11.2.2.2.2.2.2.2.1) (clubW G qt z11.2.2.2.2.2.2.2.2) (refW G qr u.2.2.2.2.2.2.2.2.2)) hP
        have hD := SW.D (sw_12_11 (hamW G qm qa0 qh qo qt) (staW G qa0 qa1 qa2 qa4) (clubW G qa1 z11.1) (snpW G qa2 qa3 z11.2.1) (clubW G qa3 z11.2.2.1) (snpW G qa4 qa5 z11.2.2.2.1) (clubW G qa5 z11.2.2.2.2.1) (hisW G qh af z11.2.2.2.2.2.1) (frW G af z11.2.2.2.2.2.2.1 0 6) (ordW G qo z11.2.2.2.2.2.2.2.1) (clubW G qt z11.2.2.2.2.2.2.2.2) (refW G qr u.2.2.2.2.2.2.2.2.2)) hD
        refine call_ViP (own := "HamperClubLaw") (As := [.int (xs (a3 + 1).toNatClampNeg), .int (xs (a3 + 2).toNatClampNeg)]) (rest := [.int x12]) (q0 := 0) (ci := 9) (wc := refW G qr u.2.2.2.2.2.2.2.2.2) (post := hamW G qm qa0 qh qo qt ++ (staW G qa0 qa1 qa2 qa4 ++ (clubW G qa1 z11.1 ++ (snpW G qa2 qa3 z11.2.1 ++ (clubW G qa3 z11.2.2.1 ++ (snpW G qa4 qa5 z11.2.2.2.1 ++ (clubW G qa5 z11.2.2.2.2.1 ++ (hisW G qh af z11.2.2.2.2.2.1 ++ (frW G af z11.2.2.2.2.2.2.1 0 6 ++ (ordW G qo z11.2.2.2.2.2.2.2.1 ++ clubW G qt z11.2.2.2.2.2.2.2.2)))))))))) hx hb hml hts hown hK hA hP hD hS ok_Law_26 rfl ⟨Nat.le_of_ble_eq_true rfl, Nat.le_of_ble_eq_true rfl⟩ ⟨hcs1, hcs2⟩ rfl rfl rfl hl.1 rfl (Nat.le_of_ble_eq_true rfl) d_Law_law_215 (c_Mod_withdraw l G qr _ u.2.2.2.2.2.2.2.2.2 (xs (a3 + 1).toNatClampNeg) (xs (a3 + 2).toNatClampNeg) _ h) (fun x14 z13 H locs h hP hD hS => ?_)
        have hP := SW.P (sw_12_11 (hamW G qm qa0 qh qo qt) (staW G qa0 qa1 qa2 qa4) (clubW G qa1 z11.1) (snpW G qa2 qa3 z11.2.1) (clubW G qa3 z11.2.2.1) (snpW G qa4 qa5 z11.2.2.2.1) (clubW G qa5 z11.2.2.2.2.1) (hisW G qh af z11.2.2.2.2.2.1) (frW G af z11.2.2.2.2.2.2.1 0 6) (ordW G qo z11.2.2.2.2.2.2.2.1) (clubW G qt z11.2.2.2.2.2.2.2.2) (refW G qr z13)).symm hP
        have hD := SW.D (sw_12_11 (hamW G qm qa0 qh qo qt) (staW G qa0 qa1 qa2 qa4) (clubW G qa1 z11.1) (snpW G qa2 qa3 z11.2.1) (clubW G qa3 z11.2.2.1) (snpW G qa4 qa5 z11.2.2.2.1) (clubW G qa5 z11.2.2.2.2.1) (hisW G qh af z11.2.2.2.2.2.1) (frW G af z11.2.2.2.2.2.2.1 0 6) (ordW G qo z11.2.2.2.2.2.2.2.1) (clubW G qt z11.2.2.2.2.2.2.2.2) (refW G qr z13)).symm hD
        refine lv_icmp_eq (tgt := 756) hx hb d_Law_law_218 (by decide) (fun hc => ?_) (fun hc => ?_)
        · have h := h.1 hc
          obtain ⟨x15, ex15⟩ : ∃ y : Int32, y = a3 + 4 := ⟨_, rfl⟩
          have h := h x15 ex15
          refine lv_iinc (v := x15) (lv' := [(3, .int x15), (0, .ref b), (1, .ref (qm 0)), (2, .ref (qr 0))]) hx hb d_Law_law_756 hl (k := 3) rfl (by rw [ex15]; rfl) (by decide) rfl (fun ls hl => ?_)
          refine lv_goto (tgt := 18) hx hb d_Law_law_759 (by decide) ?_
          exact ih x15 (z11.1, z11.2.1, z11.2.2.1, z11.2.2.2.1, z11.2.2.2.2.1, z11.2.2.2.2.2.1, z11.2.2.2.2.2.2.1, z11.2.2.2.2.2.2.2.1, z11.2.2.2.2.2.2.2.2, z13) h _ _ _ hP hD hS (lv_sub hl [1, 2, 3, 0] rfl)
        · have h := h.2 hc
          refine lv_iconst (v := 0) hx hb d_Law_law_221 (by decide) ?_
          exact h.elim
      by_cases hc3 : ((xs a3.toNatClampNeg) &&& 31) = 3
      · have h := h.2.2.2.1 hc3
        refine lv_tableIn (off := 191) (tgt := 223) hx hb d_Law_law_32 (by rw [hc3]; decide) (by rw [hc3]; decide) (by rw [hc3]; rfl) (by decide) ?_
        refine lv_aload_n hx hb d_Law_law_223 rfl (lv_at hl 1 rfl) ?_
        refine lv_aload_n hx hb d_Law_law_224 rfl (lv_at hl 0 rfl) ?_
        refine lv_iload_n hx hb d_Law_law_225 rfl (lv_at hl 3 rfl) ?_
        refine lv_iconst (v := 1) hx hb d_Law_law_226 (by decide) ?_
        refine lv_iadd hx hb d_Law_law_227 ?_
        obtain ⟨hi, h⟩ := h
        refine va_sld hx hb hX hbl hbA hS hi d_Law_law_228 ?_
        have hP := SW.P (sw_12_0_1_2_3_4_5_6_7_8_9_10 (hamW G qm qa0 qh qo qt) (staW G qa0 qa1 qa2 qa4) (clubW G qa1 u.1) (snpW G qa2 qa3 u.2.1) (clubW G qa3 u.2.2.1) (snpW G qa4 qa5 u.2.2.2.1) (clubW G qa5 u.2.2.2.2.1) (hisW G qh af u.2.2.2.2.2.1) (frW G af u.2.2.2.2.2.2.1 0 6) (ordW G qo u.2.2.2.2.2.2.2.1) (clubW G qt u.2.2.2.2.2.2.2.2.1) (refW G qr u.2.2.2.2.2.2.2.2.2)) hP
        have hD := SW.D (sw_12_0_1_2_3_4_5_6_7_8_9_10 (hamW G qm qa0 qh qo qt) (staW G qa0 qa1 qa2 qa4) (clubW G qa1 u.1) (snpW G qa2 qa3 u.2.1) (clubW G qa3 u.2.2.1) (snpW G qa4 qa5 u.2.2.2.1) (clubW G qa5 u.2.2.2.2.1) (hisW G qh af u.2.2.2.2.2.1) (frW G af u.2.2.2.2.2.2.1 0 6) (ordW G qo u.2.2.2.2.2.2.2.1) (clubW G qt u.2.2.2.2.2.2.2.2.1) (refW G qr u.2.2.2.2.2.2.2.2.2)) hD
        refine call_ViP (own := "HamperClubLaw") (As := [.int (xs (a3 + 1).toNatClampNeg)]) (rest := []) (q0 := 0) (ci := 8) (wc := hamW G qm qa0 qh qo qt ++ (staW G qa0 qa1 qa2 qa4 ++ (clubW G qa1 u.1 ++ (snpW G qa2 qa3 u.2.1 ++ (clubW G qa3 u.2.2.1 ++ (snpW G qa4 qa5 u.2.2.2.1 ++ (clubW G qa5 u.2.2.2.2.1 ++ (hisW G qh af u.2.2.2.2.2.1 ++ (frW G af u.2.2.2.2.2.2.1 0 6 ++ (ordW G qo u.2.2.2.2.2.2.2.1 ++ clubW G qt u.2.2.2.2.2.2.2.2.1)))))))))) (post := refW G qr u.2.2.2.2.2.2.2.2.2) hx hb hml hts hown hK hA hP hD hS ok_Law_27 rfl ⟨Nat.le_of_ble_eq_true rfl, Nat.le_of_ble_eq_true rfl⟩ ⟨hcs1, hcs2⟩ rfl rfl rfl hl.1 rfl (Nat.le_of_ble_eq_true rfl) d_Law_law_229 (c_Ham_mislay l G qm qa0 qa1 qa2 qa3 qa4 qa5 qh qo qt af _ (u.1, u.2.1, u.2.2.1, u.2.2.2.1, u.2.2.2.2.1, u.2.2.2.2.2.1, u.2.2.2.2.2.2.1, u.2.2.2.2.2.2.2.1, u.2.2.2.2.2.2.2.2.1) (xs (a3 + 1).toNatClampNeg) _ h) (fun x17 z16 H locs h hP hD hS => ?_)
        have hP := SW.P (sw_12_0_1_2_3_4_5_6_7_8_9_10 (hamW G qm qa0 qh qo qt) (staW G qa0 qa1 qa2 qa4) (clubW G qa1 z16.1) (snpW G qa2 qa3 z16.2.1) (clubW G qa3 z16.2.2.1) (snpW G qa4 qa5 z16.2.2.2.1) (clubW G qa5 z16.2.2.2.2.1) (hisW G qh af z16.2.2.2.2.2.1) (frW G af z16.2.2.2.2.2.2.1 0 6) (ordW G qo z16.2.2.2.2.2.2.2.1) (clubW G qt z16.2.2.2.2.2.2.2.2) (refW G qr u.2.2.2.2.2.2.2.2.2)).symm hP
        have hD := SW.D (sw_12_0_1_2_3_4_5_6_7_8_9_10 (hamW G qm qa0 qh qo qt) (staW G qa0 qa1 qa2 qa4) (clubW G qa1 z16.1) (snpW G qa2 qa3 z16.2.1) (clubW G qa3 z16.2.2.1) (snpW G qa4 qa5 z16.2.2.2.1) (clubW G qa5 z16.2.2.2.2.1) (hisW G qh af z16.2.2.2.2.2.1) (frW G af z16.2.2.2.2.2.2.1 0 6) (ordW G qo z16.2.2.2.2.2.2.2.1) (clubW G qt z16.2.2.2.2.2.2.2.2) (refW G qr u.2.2.2.2.2.2.2.2.2)).symm hD
        refine lv_aload_n hx hb d_Law_law_232 rfl (lv_at hl 2 rfl) ?_
        refine lv_aload_n hx hb d_Law_law_233 rfl (lv_at hl 0 rfl) ?_
        refine lv_iload_n hx hb d_Law_law_234 rfl (lv_at hl 3 rfl) ?_
        refine lv_iconst (v := 1) hx hb d_Law_law_235 (by decide) ?_
        refine lv_iadd hx hb d_Law_law_236 ?_
        obtain ⟨hi, h⟩ := h
        refine va_sld hx hb hX hbl hbA hS hi d_Law_law_237 ?_
        have hP := SW.P (sw_12_11 (hamW G qm qa0 qh qo qt) (staW G qa0 qa1 qa2 qa4) (clubW G qa1 z16.1) (snpW G qa2 qa3 z16.2.1) (clubW G qa3 z16.2.2.1) (snpW G qa4 qa5 z16.2.2.2.1) (clubW G qa5 z16.2.2.2.2.1) (hisW G qh af z16.2.2.2.2.2.1) (frW G af z16.2.2.2.2.2.2.1 0 6) (ordW G qo z16.2.2.2.2.2.2.2.1) (clubW G qt z16.2.2.2.2.2.2.2.2) (refW G qr u.2.2.2.2.2.2.2.2.2)) hP
        have hD := SW.D (sw_12_11 (hamW G qm qa0 qh qo qt) (staW G qa0 qa1 qa2 qa4) (clubW G qa1 z16.1) (snpW G qa2 qa3 z16.2.1) (clubW G qa3 z16.2.2.1) (snpW G qa4 qa5 z16.2.2.2.1) (clubW G qa5 z16.2.2.2.2.1) (hisW G qh af z16.2.2.2.2.2.1) (frW G af z16.2.2.2.2.2.2.1 0 6) (ordW G qo z16.2.2.2.2.2.2.2.1) (clubW G qt z16.2.2.2.2.2.2.2.2) (refW G qr u.2.2.2.2.2.2.2.2.2)) hD
        refine call_ViP (own := "HamperClubLaw") (As := [.int (xs (a3 + 1).toNatClampNeg)]) (rest := [.int x17]) (q0 := 0) (ci := 9) (wc := refW G qr u.2.2.2.2.2.2.2.2.2) (post := hamW G qm qa0 qh qo qt ++ (staW G qa0 qa1 qa2 qa4 ++ (clubW G qa1 z16.1 ++ (snpW G qa2 qa3 z16.2.1 ++ (clubW G qa3 z16.2.2.1 ++ (snpW G qa4 qa5 z16.2.2.2.1 ++ (clubW G qa5 z16.2.2.2.2.1 ++ (hisW G qh af z16.2.2.2.2.2.1 ++ (frW G af z16.2.2.2.2.2.2.1 0 6 ++ (ordW G qo z16.2.2.2.2.2.2.2.1 ++ clubW G qt z16.2.2.2.2.2.2.2.2)))))))))) hx hb hml hts hown hK hA hP hD hS ok_Law_31 rfl ⟨Nat.le_of_ble_eq_true rfl, Nat.le_of_ble_eq_true rfl⟩ ⟨hcs1, hcs2⟩ rfl rfl rfl hl.1 rfl (Nat.le_of_ble_eq_true rfl) d_Law_law_238 (c_Mod_mislay l G qr _ u.2.2.2.2.2.2.2.2.2 (xs (a3 + 1).toNatClampNeg) _ h) (fun x19 z18 H locs h hP hD hS => ?_)
        have hP := SW.P (sw_12_11 (hamW G qm qa0 qh qo qt) (staW G qa0 qa1 qa2 qa4) (clubW G qa1 z16.1) (snpW G qa2 qa3 z16.2.1) (clubW G qa3 z16.2.2.1) (snpW G qa4 qa5 z16.2.2.2.1) (clubW G qa5 z16.2.2.2.2.1) (hisW G qh af z16.2.2.2.2.2.1) (frW G af z16.2.2.2.2.2.2.1 0 6) (ordW G qo z16.2.2.2.2.2.2.2.1) (clubW G qt z16.2.2.2.2.2.2.2.2) (refW G qr z18)).symm hP
        have hD := SW.D (sw_12_11 (hamW G qm qa0 qh qo qt) (staW G qa0 qa1 qa2 qa4) (clubW G qa1 z16.1) (snpW G qa2 qa3 z16.2.1) (clubW G qa3 z16.2.2.1) (snpW G qa4 qa5 z16.2.2.2.1) (clubW G qa5 z16.2.2.2.2.1) (hisW G qh af z16.2.2.2.2.2.1) (frW G af z16.2.2.2.2.2.2.1 0 6) (ordW G qo z16.2.2.2.2.2.2.2.1) (clubW G qt z16.2.2.2.2.2.2.2.2) (refW G qr z18)).symm hD
        refine lv_icmp_eq (tgt := 756) hx hb d_Law_law_241 (by decide) (fun hc => ?_) (fun hc => ?_)
        · have h := h.1 hc
          obtain ⟨x20, ex20⟩ : ∃ y : Int32, y = a3 + 4 := ⟨_, rfl⟩
          have h := h x20 ex20
          refine lv_iinc (v := x20) (lv' := [(3, .int x20), (0, .ref b), (1, .ref (qm 0)), (2, .ref (qr 0))]) hx hb d_Law_law_756 hl (k := 3) rfl (by rw [ex20]; rfl) (by decide) rfl (fun ls hl => ?_)
          refine lv_goto (tgt := 18) hx hb d_Law_law_759 (by decide) ?_
          exact ih x20 (z16.1, z16.2.1, z16.2.2.1, z16.2.2.2.1, z16.2.2.2.2.1, z16.2.2.2.2.2.1, z16.2.2.2.2.2.2.1, z16.2.2.2.2.2.2.2.1, z16.2.2.2.2.2.2.2.2, z18) h _ _ _ hP hD hS (lv_sub hl [1, 2, 3, 0] rfl)
        · have h := h.2 hc
          refine lv_iconst (v := 0) hx hb d_Law_law_244 (by decide) ?_
          exact h.elim
      by_cases hc4 : ((xs a3.toNatClampNeg) &&& 31) = 4
      · have h := h.2.2.2.2.1 hc4
        refine lv_tableIn (off := 214) (tgt := 246) hx hb d_Law_law_32 (by rw [hc4]; decide) (by rw [hc4]; decide) (by rw [hc4]; rfl) (by decide) ?_
        refine lv_aload_n hx hb d_Law_law_246 rfl (lv_at hl 1 rfl) ?_
        refine lv_aload_n hx hb d_Law_law_247 rfl (lv_at hl 0 rfl) ?_
        refine lv_iload_n hx hb d_Law_law_248 rfl (lv_at hl 3 rfl) ?_
        refine lv_iconst (v := 1) hx hb d_Law_law_249 (by decide) ?_
        refine lv_iadd hx hb d_Law_law_250 ?_
        obtain ⟨hi, h⟩ := h
        refine va_sld hx hb hX hbl hbA hS hi d_Law_law_251 ?_
        have hP := SW.P (sw_12_0_1_2_3_4_5_6_7_8_9_10 (hamW G qm qa0 qh qo qt) (staW G qa0 qa1 qa2 qa4) (clubW G qa1 u.1) (snpW G qa2 qa3 u.2.1) (clubW G qa3 u.2.2.1) (snpW G qa4 qa5 u.2.2.2.1) (clubW G qa5 u.2.2.2.2.1) (hisW G qh af u.2.2.2.2.2.1) (frW G af u.2.2.2.2.2.2.1 0 6) (ordW G qo u.2.2.2.2.2.2.2.1) (clubW G qt u.2.2.2.2.2.2.2.2.1) (refW G qr u.2.2.2.2.2.2.2.2.2)) hP
        have hD := SW.D (sw_12_0_1_2_3_4_5_6_7_8_9_10 (hamW G qm qa0 qh qo qt) (staW G qa0 qa1 qa2 qa4) (clubW G qa1 u.1) (snpW G qa2 qa3 u.2.1) (clubW G qa3 u.2.2.1) (snpW G qa4 qa5 u.2.2.2.1) (clubW G qa5 u.2.2.2.2.1) (hisW G qh af u.2.2.2.2.2.1) (frW G af u.2.2.2.2.2.2.1 0 6) (ordW G qo u.2.2.2.2.2.2.2.1) (clubW G qt u.2.2.2.2.2.2.2.2.1) (refW G qr u.2.2.2.2.2.2.2.2.2)) hD
        refine call_ViP (own := "HamperClubLaw") (As := [.int (xs (a3 + 1).toNatClampNeg)]) (rest := []) (q0 := 0) (ci := 8) (wc := hamW G qm qa0 qh qo qt ++ (staW G qa0 qa1 qa2 qa4 ++ (clubW G qa1 u.1 ++ (snpW G qa2 qa3 u.2.1 ++ (clubW G qa3 u.2.2.1 ++ (snpW G qa4 qa5 u.2.2.2.1 ++ (clubW G qa5 u.2.2.2.2.1 ++ (hisW G qh af u.2.2.2.2.2.1 ++ (frW G af u.2.2.2.2.2.2.1 0 6 ++ (ordW G qo u.2.2.2.2.2.2.2.1 ++ clubW G qt u.2.2.2.2.2.2.2.2.1)))))))))) (post := refW G qr u.2.2.2.2.2.2.2.2.2) hx hb hml hts hown hK hA hP hD hS ok_Law_32 rfl ⟨Nat.le_of_ble_eq_true rfl, Nat.le_of_ble_eq_true rfl⟩ ⟨hcs1, hcs2⟩ rfl rfl rfl hl.1 rfl (Nat.le_of_ble_eq_true rfl) d_Law_law_252 (c_Ham_find l G qm qa0 qa1 qa2 qa3 qa4 qa5 qh qo qt af _ (u.1, u.2.1, u.2.2.1, u.2.2.2.1, u.2.2.2.2.1, u.2.2.2.2.2.1, u.2.2.2.2.2.2.1, u.2.2.2.2.2.2.2.1, u.2.2.2.2.2.2.2.2.1) (xs (a3 + 1).toNatClampNeg) _ h) (fun x22 z21 H locs h hP hD hS => ?_)
        have hP := SW.P (sw_12_0_1_2_3_4_5_6_7_8_9_10 (hamW G qm qa0 qh qo qt) (staW G qa0 qa1 qa2 qa4) (clubW G qa1 z21.1) (snpW G qa2 qa3 z21.2.1) (clubW G qa3 z21.2.2.1) (snpW G qa4 qa5 z21.2.2.2.1) (clubW G qa5 z21.2.2.2.2.1) (hisW G qh af z21.2.2.2.2.2.1) (frW G af z21.2.2.2.2.2.2.1 0 6) (ordW G qo z21.2.2.2.2.2.2.2.1) (clubW G qt z21.2.2.2.2.2.2.2.2) (refW G qr u.2.2.2.2.2.2.2.2.2)).symm hP
        have hD := SW.D (sw_12_0_1_2_3_4_5_6_7_8_9_10 (hamW G qm qa0 qh qo qt) (staW G qa0 qa1 qa2 qa4) (clubW G qa1 z21.1) (snpW G qa2 qa3 z21.2.1) (clubW G qa3 z21.2.2.1) (snpW G qa4 qa5 z21.2.2.2.1) (clubW G qa5 z21.2.2.2.2.1) (hisW G qh af z21.2.2.2.2.2.1) (frW G af z21.2.2.2.2.2.2.1 0 6) (ordW G qo z21.2.2.2.2.2.2.2.1) (clubW G qt z21.2.2.2.2.2.2.2.2) (refW G qr u.2.2.2.2.2.2.2.2.2)).symm hD
        refine lv_aload_n hx hb d_Law_law_255 rfl (lv_at hl 2 rfl) ?_
        refine lv_aload_n hx hb d_Law_law_256 rfl (lv_at hl 0 rfl) ?_
        refine lv_iload_n hx hb d_Law_law_257 rfl (lv_at hl 3 rfl) ?_
        refine lv_iconst (v := 1) hx hb d_Law_law_258 (by decide) ?_
        refine lv_iadd hx hb d_Law_law_259 ?_
        obtain ⟨hi, h⟩ := h
        refine va_sld hx hb hX hbl hbA hS hi d_Law_law_260 ?_
        have hP := SW.P (sw_12_11 (hamW G qm qa0 qh qo qt) (staW G qa0 qa1 qa2 qa4) (clubW G qa1 z21.1) (snpW G qa2 qa3 z21.2.1) (clubW G qa3 z21.2.2.1) (snpW G qa4 qa5 z21.2.2.2.1) (clubW G qa5 z21.2.2.2.2.1) (hisW G qh af z21.2.2.2.2.2.1) (frW G af z21.2.2.2.2.2.2.1 0 6) (ordW G qo z21.2.2.2.2.2.2.2.1) (clubW G qt z21.2.2.2.2.2.2.2.2) (refW G qr u.2.2.2.2.2.2.2.2.2)) hP
        have hD := SW.D (sw_12_11 (hamW G qm qa0 qh qo qt) (staW G qa0 qa1 qa2 qa4) (clubW G qa1 z21.1) (snpW G qa2 qa3 z21.2.1) (clubW G qa3 z21.2.2.1) (snpW G qa4 qa5 z21.2.2.2.1) (clubW G qa5 z21.2.2.2.2.1) (hisW G qh af z21.2.2.2.2.2.1) (frW G af z21.2.2.2.2.2.2.1 0 6) (ordW G qo z21.2.2.2.2.2.2.2.1) (clubW G qt z21.2.2.2.2.2.2.2.2) (refW G qr u.2.2.2.2.2.2.2.2.2)) hD
        refine call_ViP (own := "HamperClubLaw") (As := [.int (xs (a3 + 1).toNatClampNeg)]) (rest := [.int x22]) (q0 := 0) (ci := 9) (wc := refW G qr u.2.2.2.2.2.2.2.2.2) (post := hamW G qm qa0 qh qo qt ++ (staW G qa0 qa1 qa2 qa4 ++ (clubW G qa1 z21.1 ++ (snpW G qa2 qa3 z21.2.1 ++ (clubW G qa3 z21.2.2.1 ++ (snpW G qa4 qa5 z21.2.2.2.1 ++ (clubW G qa5 z21.2.2.2.2.1 ++ (hisW G qh af z21.2.2.2.2.2.1 ++ (frW G af z21.2.2.2.2.2.2.1 0 6 ++ (ordW G qo z21.2.2.2.2.2.2.2.1 ++ clubW G qt z21.2.2.2.2.2.2.2.2)))))))))) hx hb hml hts hown hK hA hP hD hS ok_Law_35 rfl ⟨Nat.le_of_ble_eq_true rfl, Nat.le_of_ble_eq_true rfl⟩ ⟨hcs1, hcs2⟩ rfl rfl rfl hl.1 rfl (Nat.le_of_ble_eq_true rfl) d_Law_law_261 (c_Mod_find l G qr _ u.2.2.2.2.2.2.2.2.2 (xs (a3 + 1).toNatClampNeg) _ h) (fun x24 z23 H locs h hP hD hS => ?_)
        have hP := SW.P (sw_12_11 (hamW G qm qa0 qh qo qt) (staW G qa0 qa1 qa2 qa4) (clubW G qa1 z21.1) (snpW G qa2 qa3 z21.2.1) (clubW G qa3 z21.2.2.1) (snpW G qa4 qa5 z21.2.2.2.1) (clubW G qa5 z21.2.2.2.2.1) (hisW G qh af z21.2.2.2.2.2.1) (frW G af z21.2.2.2.2.2.2.1 0 6) (ordW G qo z21.2.2.2.2.2.2.2.1) (clubW G qt z21.2.2.2.2.2.2.2.2) (refW G qr z23)).symm hP
        have hD := SW.D (sw_12_11 (hamW G qm qa0 qh qo qt) (staW G qa0 qa1 qa2 qa4) (clubW G qa1 z21.1) (snpW G qa2 qa3 z21.2.1) (clubW G qa3 z21.2.2.1) (snpW G qa4 qa5 z21.2.2.2.1) (clubW G qa5 z21.2.2.2.2.1) (hisW G qh af z21.2.2.2.2.2.1) (frW G af z21.2.2.2.2.2.2.1 0 6) (ordW G qo z21.2.2.2.2.2.2.2.1) (clubW G qt z21.2.2.2.2.2.2.2.2) (refW G qr z23)).symm hD
        refine lv_icmp_eq (tgt := 756) hx hb d_Law_law_264 (by decide) (fun hc => ?_) (fun hc => ?_)
        · have h := h.1 hc
          obtain ⟨x25, ex25⟩ : ∃ y : Int32, y = a3 + 4 := ⟨_, rfl⟩
          have h := h x25 ex25
          refine lv_iinc (v := x25) (lv' := [(3, .int x25), (0, .ref b), (1, .ref (qm 0)), (2, .ref (qr 0))]) hx hb d_Law_law_756 hl (k := 3) rfl (by rw [ex25]; rfl) (by decide) rfl (fun ls hl => ?_)
          refine lv_goto (tgt := 18) hx hb d_Law_law_759 (by decide) ?_
          exact ih x25 (z21.1, z21.2.1, z21.2.2.1, z21.2.2.2.1, z21.2.2.2.2.1, z21.2.2.2.2.2.1, z21.2.2.2.2.2.2.1, z21.2.2.2.2.2.2.2.1, z21.2.2.2.2.2.2.2.2, z23) h _ _ _ hP hD hS (lv_sub hl [1, 2, 3, 0] rfl)
        · have h := h.2 hc
          refine lv_iconst (v := 0) hx hb d_Law_law_267 (by decide) ?_
          exact h.elim
      by_cases hc5 : ((xs a3.toNatClampNeg) &&& 31) = 5
      · have h := h.2.2.2.2.2.1 hc5
        refine lv_tableIn (off := 237) (tgt := 269) hx hb d_Law_law_32 (by rw [hc5]; decide) (by rw [hc5]; decide) (by rw [hc5]; rfl) (by decide) ?_
        refine lv_aload_n hx hb d_Law_law_269 rfl (lv_at hl 1 rfl) ?_
        refine lv_aload_n hx hb d_Law_law_270 rfl (lv_at hl 0 rfl) ?_
        refine lv_iload_n hx hb d_Law_law_271 rfl (lv_at hl 3 rfl) ?_
        refine lv_iconst (v := 1) hx hb d_Law_law_272 (by decide) ?_
        refine lv_iadd hx hb d_Law_law_273 ?_
        obtain ⟨hi, h⟩ := h
        refine va_sld hx hb hX hbl hbA hS hi d_Law_law_274 ?_
        refine lv_aload_n hx hb d_Law_law_275 rfl (lv_at hl 0 rfl) ?_
        refine lv_iload_n hx hb d_Law_law_276 rfl (lv_at hl 3 rfl) ?_
        refine lv_iconst (v := 2) hx hb d_Law_law_277 (by decide) ?_
        refine lv_iadd hx hb d_Law_law_278 ?_
        obtain ⟨hi, h⟩ := h
        refine va_sld hx hb hX hbl hbA hS hi d_Law_law_279 ?_
        refine lv_aload_n hx hb d_Law_law_280 rfl (lv_at hl 0 rfl) ?_
        refine lv_iload_n hx hb d_Law_law_281 rfl (lv_at hl 3 rfl) ?_
        refine lv_iconst (v := 3) hx hb d_Law_law_282 (by decide) ?_
        refine lv_iadd hx hb d_Law_law_283 ?_
        obtain ⟨hi, h⟩ := h
        refine va_sld hx hb hX hbl hbA hS hi d_Law_law_284 ?_
        have hP := SW.P (sw_12_0_1_2_3_4_5_6_7_8_9_10 (hamW G qm qa0 qh qo qt) (staW G qa0 qa1 qa2 qa4) (clubW G qa1 u.1) (snpW G qa2 qa3 u.2.1) (clubW G qa3 u.2.2.1) (snpW G qa4 qa5 u.2.2.2.1) (clubW G qa5 u.2.2.2.2.1) (hisW G qh af u.2.2.2.2.2.1) (frW G af u.2.2.2.2.2.2.1 0 6) (ordW G qo u.2.2.2.2.2.2.2.1) (clubW G qt u.2.2.2.2.2.2.2.2.1) (refW G qr u.2.2.2.2.2.2.2.2.2)) hP
        have hD := SW.D (sw_12_0_1_2_3_4_5_6_7_8_9_10 (hamW G qm qa0 qh qo qt) (staW G qa0 qa1 qa2 qa4) (clubW G qa1 u.1) (snpW G qa2 qa3 u.2.1) (clubW G qa3 u.2.2.1) (snpW G qa4 qa5 u.2.2.2.1) (clubW G qa5 u.2.2.2.2.1) (hisW G qh af u.2.2.2.2.2.1) (frW G af u.2.2.2.2.2.2.1 0 6) (ordW G qo u.2.2.2.2.2.2.2.1) (clubW G qt u.2.2.2.2.2.2.2.2.1) (refW G qr u.2.2.2.2.2.2.2.2.2)) hD
        refine call_ViP (own := "HamperClubLaw") (As := [.int (xs (a3 + 1).toNatClampNeg), .int (xs (a3 + 2).toNatClampNeg), .int (xs (a3 + 3).toNatClampNeg)]) (rest := []) (q0 := 0) (ci := 8) (wc := hamW G qm qa0 qh qo qt ++ (staW G qa0 qa1 qa2 qa4 ++ (clubW G qa1 u.1 ++ (snpW G qa2 qa3 u.2.1 ++ (clubW G qa3 u.2.2.1 ++ (snpW G qa4 qa5 u.2.2.2.1 ++ (clubW G qa5 u.2.2.2.2.1 ++ (hisW G qh af u.2.2.2.2.2.1 ++ (frW G af u.2.2.2.2.2.2.1 0 6 ++ (ordW G qo u.2.2.2.2.2.2.2.1 ++ clubW G qt u.2.2.2.2.2.2.2.2.1)))))))))) (post := refW G qr u.2.2.2.2.2.2.2.2.2) hx hb hml hts hown hK hA hP hD hS ok_Law_36 rfl ⟨Nat.le_of_ble_eq_true rfl, Nat.le_of_ble_eq_true rfl⟩ ⟨hcs1, hcs2⟩ rfl rfl rfl hl.1 rfl (Nat.le_of_ble_eq_true rfl) d_Law_law_285 (c_Ham_setHamper l G qm qa0 qa1 qa2 qa3 qa4 qa5 qh qo qt af _ (u.1, u.2.1, u.2.2.1, u.2.2.2.1, u.2.2.2.2.1, u.2.2.2.2.2.1, u.2.2.2.2.2.2.1, u.2.2.2.2.2.2.2.1, u.2.2.2.2.2.2.2.2.1) (xs (a3 + 1).toNatClampNeg) (xs (a3 + 2).toNatClampNeg) (xs (a3 + 3).toNatClampNeg) _ h) (fun x27 z26 H locs h hP hD hS => ?_)
        have hP := SW.P (sw_12_0_1_2_3_4_5_6_7_8_9_10 (hamW G qm qa0 qh qo qt) (staW G qa0 qa1 qa2 qa4) (clubW G qa1 z26.1) (snpW G qa2 qa3 z26.2.1) (clubW G qa3 z26.2.2.1) (snpW G qa4 qa5 z26.2.2.2.1) (clubW G qa5 z26.2.2.2.2.1) (hisW G qh af z26.2.2.2.2.2.1) (frW G af z26.2.2.2.2.2.2.1 0 6) (ordW G qo z26.2.2.2.2.2.2.2.1) (clubW G qt z26.2.2.2.2.2.2.2.2) (refW G qr u.2.2.2.2.2.2.2.2.2)).symm hP
        have hD := SW.D (sw_12_0_1_2_3_4_5_6_7_8_9_10 (hamW G qm qa0 qh qo qt) (staW G qa0 qa1 qa2 qa4) (clubW G qa1 z26.1) (snpW G qa2 qa3 z26.2.1) (clubW G qa3 z26.2.2.1) (snpW G qa4 qa5 z26.2.2.2.1) (clubW G qa5 z26.2.2.2.2.1) (hisW G qh af z26.2.2.2.2.2.1) (frW G af z26.2.2.2.2.2.2.1 0 6) (ordW G qo z26.2.2.2.2.2.2.2.1) (clubW G qt z26.2.2.2.2.2.2.2.2) (refW G qr u.2.2.2.2.2.2.2.2.2)).symm hD
        refine lv_aload_n hx hb d_Law_law_288 rfl (lv_at hl 2 rfl) ?_
        refine lv_aload_n hx hb d_Law_law_289 rfl (lv_at hl 0 rfl) ?_
        refine lv_iload_n hx hb d_Law_law_290 rfl (lv_at hl 3 rfl) ?_
        refine lv_iconst (v := 1) hx hb d_Law_law_291 (by decide) ?_
        refine lv_iadd hx hb d_Law_law_292 ?_
        obtain ⟨hi, h⟩ := h
        refine va_sld hx hb hX hbl hbA hS hi d_Law_law_293 ?_
        refine lv_aload_n hx hb d_Law_law_294 rfl (lv_at hl 0 rfl) ?_
        refine lv_iload_n hx hb d_Law_law_295 rfl (lv_at hl 3 rfl) ?_
        refine lv_iconst (v := 2) hx hb d_Law_law_296 (by decide) ?_
        refine lv_iadd hx hb d_Law_law_297 ?_
        obtain ⟨hi, h⟩ := h
        refine va_sld hx hb hX hbl hbA hS hi d_Law_law_298 ?_
        refine lv_aload_n hx hb d_Law_law_299 rfl (lv_at hl 0 rfl) ?_
        refine lv_iload_n hx hb d_Law_law_300 rfl (lv_at hl 3 rfl) ?_
        refine lv_iconst (v := 3) hx hb d_Law_law_301 (by decide) ?_
        refine lv_iadd hx hb d_Law_law_302 ?_
        obtain ⟨hi, h⟩ := h
        refine va_sld hx hb hX hbl hbA hS hi d_Law_law_303 ?_
        have hP := SW.P (sw_12_11 (hamW G qm qa0 qh qo qt) (staW G qa0 qa1 qa2 qa4) (clubW G qa1 z26.1) (snpW G qa2 qa3 z26.2.1) (clubW G qa3 z26.2.2.1) (snpW G qa4 qa5 z26.2.2.2.1) (clubW G qa5 z26.2.2.2.2.1) (hisW G qh af z26.2.2.2.2.2.1) (frW G af z26.2.2.2.2.2.2.1 0 6) (ordW G qo z26.2.2.2.2.2.2.2.1) (clubW G qt z26.2.2.2.2.2.2.2.2) (refW G qr u.2.2.2.2.2.2.2.2.2)) hP
        have hD := SW.D (sw_12_11 (hamW G qm qa0 qh qo qt) (staW G qa0 qa1 qa2 qa4) (clubW G qa1 z26.1) (snpW G qa2 qa3 z26.2.1) (clubW G qa3 z26.2.2.1) (snpW G qa4 qa5 z26.2.2.2.1) (clubW G qa5 z26.2.2.2.2.1) (hisW G qh af z26.2.2.2.2.2.1) (frW G af z26.2.2.2.2.2.2.1 0 6) (ordW G qo z26.2.2.2.2.2.2.2.1) (clubW G qt z26.2.2.2.2.2.2.2.2) (refW G qr u.2.2.2.2.2.2.2.2.2)) hD
        refine call_ViP (own := "HamperClubLaw") (As := [.int (xs (a3 + 1).toNatClampNeg), .int (xs (a3 + 2).toNatClampNeg), .int (xs (a3 + 3).toNatClampNeg)]) (rest := [.int x27]) (q0 := 0) (ci := 9) (wc := refW G qr u.2.2.2.2.2.2.2.2.2) (post := hamW G qm qa0 qh qo qt ++ (staW G qa0 qa1 qa2 qa4 ++ (clubW G qa1 z26.1 ++ (snpW G qa2 qa3 z26.2.1 ++ (clubW G qa3 z26.2.2.1 ++ (snpW G qa4 qa5 z26.2.2.2.1 ++ (clubW G qa5 z26.2.2.2.2.1 ++ (hisW G qh af z26.2.2.2.2.2.1 ++ (frW G af z26.2.2.2.2.2.2.1 0 6 ++ (ordW G qo z26.2.2.2.2.2.2.2.1 ++ clubW G qt z26.2.2.2.2.2.2.2.2)))))))))) hx hb hml hts hown hK hA hP hD hS ok_Law_40 rfl ⟨Nat.le_of_ble_eq_true rfl, Nat.le_of_ble_eq_true rfl⟩ ⟨hcs1, hcs2⟩ rfl rfl rfl hl.1 rfl (Nat.le_of_ble_eq_true rfl) d_Law_law_304 (c_Mod_setHamper l G qr _ u.2.2.2.2.2.2.2.2.2 (xs (a3 + 1).toNatClampNeg) (xs (a3 + 2).toNatClampNeg) (xs (a3 + 3).toNatClampNeg) _ h) (fun x29 z28 H locs h hP hD hS => ?_)
        have hP := SW.P (sw_12_11 (hamW G qm qa0 qh qo qt) (staW G qa0 qa1 qa2 qa4) (clubW G qa1 z26.1) (snpW G qa2 qa3 z26.2.1) (clubW G qa3 z26.2.2.1) (snpW G qa4 qa5 z26.2.2.2.1) (clubW G qa5 z26.2.2.2.2.1) (hisW G qh af z26.2.2.2.2.2.1) (frW G af z26.2.2.2.2.2.2.1 0 6) (ordW G qo z26.2.2.2.2.2.2.2.1) (clubW G qt z26.2.2.2.2.2.2.2.2) (refW G qr z28)).symm hP
        have hD := SW.D (sw_12_11 (hamW G qm qa0 qh qo qt) (staW G qa0 qa1 qa2 qa4) (clubW G qa1 z26.1) (snpW G qa2 qa3 z26.2.1) (clubW G qa3 z26.2.2.1) (snpW G qa4 qa5 z26.2.2.2.1) (clubW G qa5 z26.2.2.2.2.1) (hisW G qh af z26.2.2.2.2.2.1) (frW G af z26.2.2.2.2.2.2.1 0 6) (ordW G qo z26.2.2.2.2.2.2.2.1) (clubW G qt z26.2.2.2.2.2.2.2.2) (refW G qr z28)).symm hD
        refine lv_icmp_eq (tgt := 756) hx hb d_Law_law_307 (by decide) (fun hc => ?_) (fun hc => ?_)
        · have h := h.1 hc
          obtain ⟨x30, ex30⟩ : ∃ y : Int32, y = a3 + 4 := ⟨_, rfl⟩
          have h := h x30 ex30
          refine lv_iinc (v := x30) (lv' := [(3, .int x30), (0, .ref b), (1, .ref (qm 0)), (2, .ref (qr 0))]) hx hb d_Law_law_756 hl (k := 3) rfl (by rw [ex30]; rfl) (by decide) rfl (fun ls hl => ?_)
          refine lv_goto (tgt := 18) hx hb d_Law_law_759 (by decide) ?_
          exact ih x30 (z26.1, z26.2.1, z26.2.2.1, z26.2.2.2.1, z26.2.2.2.2.1, z26.2.2.2.2.2.1, z26.2.2.2.2.2.2.1, z26.2.2.2.2.2.2.2.1, z26.2.2.2.2.2.2.2.2, z28) h _ _ _ hP hD hS (lv_sub hl [1, 2, 3, 0] rfl)
        · have h := h.2 hc
          refine lv_iconst (v := 0) hx hb d_Law_law_310 (by decide) ?_
          exact h.elim
      by_cases hc6 : ((xs a3.toNatClampNeg) &&& 31) = 6
      · have h := h.2.2.2.2.2.2.1 hc6
        refine lv_tableIn (off := 280) (tgt := 312) hx hb d_Law_law_32 (by rw [hc6]; decide) (by rw [hc6]; decide) (by rw [hc6]; rfl) (by decide) ?_
        refine lv_aload_n hx hb d_Law_law_312 rfl (lv_at hl 1 rfl) ?_
        refine lv_aload_n hx hb d_Law_law_313 rfl (lv_at hl 0 rfl) ?_
        refine lv_iload_n hx hb d_Law_law_314 rfl (lv_at hl 3 rfl) ?_
        refine lv_iconst (v := 1) hx hb d_Law_law_315 (by decide) ?_
        refine lv_iadd hx hb d_Law_law_316 ?_
        obtain ⟨hi, h⟩ := h
        refine va_sld hx hb hX hbl hbA hS hi d_Law_law_317 ?_
        refine lv_aload_n hx hb d_Law_law_318 rfl (lv_at hl 0 rfl) ?_
        refine lv_iload_n hx hb d_Law_law_319 rfl (lv_at hl 3 rfl) ?_
        refine lv_iconst (v := 2) hx hb d_Law_law_320 (by decide) ?_
        refine lv_iadd hx hb d_Law_law_321 ?_
        obtain ⟨hi, h⟩ := h
        refine va_sld hx hb hX hbl hbA hS hi d_Law_law_322 ?_
        have hP := SW.P (sw_12_0_1_2_3_4_5_6_7_8_9_10 (hamW G qm qa0 qh qo qt) (staW G qa0 qa1 qa2 qa4) (clubW G qa1 u.1) (snpW G qa2 qa3 u.2.1) (clubW G qa3 u.2.2.1) (snpW G qa4 qa5 u.2.2.2.1) (clubW G qa5 u.2.2.2.2.1) (hisW G qh af u.2.2.2.2.2.1) (frW G af u.2.2.2.2.2.2.1 0 6) (ordW G qo u.2.2.2.2.2.2.2.1) (clubW G qt u.2.2.2.2.2.2.2.2.1) (refW G qr u.2.2.2.2.2.2.2.2.2)) hP
        have hD := SW.D (sw_12_0_1_2_3_4_5_6_7_8_9_10 (hamW G qm qa0 qh qo qt) (staW G qa0 qa1 qa2 qa4) (clubW G qa1 u.1) (snpW G qa2 qa3 u.2.1) (clubW G qa3 u.2.2.1) (snpW G qa4 qa5 u.2.2.2.1) (clubW G qa5 u.2.2.2.2.1) (hisW G qh af u.2.2.2.2.2.1) (frW G af u.2.2.2.2.2.2.1 0 6) (ordW G qo u.2.2.2.2.2.2.2.1) (clubW G qt u.2.2.2.2.2.2.2.2.1) (refW G qr u.2.2.2.2.2.2.2.2.2)) hD
        refine call_ViP (own := "HamperClubLaw") (As := [.int (xs (a3 + 1).toNatClampNeg), .int (xs (a3 + 2).toNatClampNeg)]) (rest := []) (q0 := 0) (ci := 8) (wc := hamW G qm qa0 qh qo qt ++ (staW G qa0 qa1 qa2 qa4 ++ (clubW G qa1 u.1 ++ (snpW G qa2 qa3 u.2.1 ++ (clubW G qa3 u.2.2.1 ++ (snpW G qa4 qa5 u.2.2.2.1 ++ (clubW G qa5 u.2.2.2.2.1 ++ (hisW G qh af u.2.2.2.2.2.1 ++ (frW G af u.2.2.2.2.2.2.1 0 6 ++ (ordW G qo u.2.2.2.2.2.2.2.1 ++ clubW G qt u.2.2.2.2.2.2.2.2.1)))))))))) (post := refW G qr u.2.2.2.2.2.2.2.2.2) hx hb hml hts hown hK hA hP hD hS ok_Law_41 rfl ⟨Nat.le_of_ble_eq_true rfl, Nat.le_of_ble_eq_true rfl⟩ ⟨hcs1, hcs2⟩ rfl rfl rfl hl.1 rfl (Nat.le_of_ble_eq_true rfl) d_Law_law_323 (c_Ham_choose l G qm qa0 qa1 qa2 qa3 qa4 qa5 qh qo qt af _ (u.1, u.2.1, u.2.2.1, u.2.2.2.1, u.2.2.2.2.1, u.2.2.2.2.2.1, u.2.2.2.2.2.2.1, u.2.2.2.2.2.2.2.1, u.2.2.2.2.2.2.2.2.1) (xs (a3 + 1).toNatClampNeg) (xs (a3 + 2).toNatClampNeg) _ h) (fun x32 z31 H locs h hP hD hS => ?_)
        have hP := SW.P (sw_12_0_1_2_3_4_5_6_7_8_9_10 (hamW G qm qa0 qh qo qt) (staW G qa0 qa1 qa2 qa4) (clubW G qa1 z31.1) (snpW G qa2 qa3 z31.2.1) (clubW G qa3 z31.2.2.1) (snpW G qa4 qa5 z31.2.2.2.1) (clubW G qa5 z31.2.2.2.2.1) (hisW G qh af z31.2.2.2.2.2.1) (frW G af z31.2.2.2.2.2.2.1 0 6) (ordW G qo z31.2.2.2.2.2.2.2.1) (clubW G qt z31.2.2.2.2.2.2.2.2) (refW G qr u.2.2.2.2.2.2.2.2.2)).symm hP
        have hD := SW.D (sw_12_0_1_2_3_4_5_6_7_8_9_10 (hamW G qm qa0 qh qo qt) (staW G qa0 qa1 qa2 qa4) (clubW G qa1 z31.1) (snpW G qa2 qa3 z31.2.1) (clubW G qa3 z31.2.2.1) (snpW G qa4 qa5 z31.2.2.2.1) (clubW G qa5 z31.2.2.2.2.1) (hisW G qh af z31.2.2.2.2.2.1) (frW G af z31.2.2.2.2.2.2.1 0 6) (ordW G qo z31.2.2.2.2.2.2.2.1) (clubW G qt z31.2.2.2.2.2.2.2.2) (refW G qr u.2.2.2.2.2.2.2.2.2)).symm hD
        refine lv_aload_n hx hb d_Law_law_326 rfl (lv_at hl 2 rfl) ?_
        refine lv_aload_n hx hb d_Law_law_327 rfl (lv_at hl 0 rfl) ?_
        refine lv_iload_n hx hb d_Law_law_328 rfl (lv_at hl 3 rfl) ?_
        refine lv_iconst (v := 1) hx hb d_Law_law_329 (by decide) ?_
        refine lv_iadd hx hb d_Law_law_330 ?_
        obtain ⟨hi, h⟩ := h
        refine va_sld hx hb hX hbl hbA hS hi d_Law_law_331 ?_
        refine lv_aload_n hx hb d_Law_law_332 rfl (lv_at hl 0 rfl) ?_
        refine lv_iload_n hx hb d_Law_law_333 rfl (lv_at hl 3 rfl) ?_
        refine lv_iconst (v := 2) hx hb d_Law_law_334 (by decide) ?_
        refine lv_iadd hx hb d_Law_law_335 ?_
        obtain ⟨hi, h⟩ := h
        refine va_sld hx hb hX hbl hbA hS hi d_Law_law_336 ?_
        have hP := SW.P (sw_12_11 (hamW G qm qa0 qh qo qt) (staW G qa0 qa1 qa2 qa4) (clubW G qa1 z31.1) (snpW G qa2 qa3 z31.2.1) (clubW G qa3 z31.2.2.1) (snpW G qa4 qa5 z31.2.2.2.1) (clubW G qa5 z31.2.2.2.2.1) (hisW G qh af z31.2.2.2.2.2.1) (frW G af z31.2.2.2.2.2.2.1 0 6) (ordW G qo z31.2.2.2.2.2.2.2.1) (clubW G qt z31.2.2.2.2.2.2.2.2) (refW G qr u.2.2.2.2.2.2.2.2.2)) hP
        have hD := SW.D (sw_12_11 (hamW G qm qa0 qh qo qt) (staW G qa0 qa1 qa2 qa4) (clubW G qa1 z31.1) (snpW G qa2 qa3 z31.2.1) (clubW G qa3 z31.2.2.1) (snpW G qa4 qa5 z31.2.2.2.1) (clubW G qa5 z31.2.2.2.2.1) (hisW G qh af z31.2.2.2.2.2.1) (frW G af z31.2.2.2.2.2.2.1 0 6) (ordW G qo z31.2.2.2.2.2.2.2.1) (clubW G qt z31.2.2.2.2.2.2.2.2) (refW G qr u.2.2.2.2.2.2.2.2.2)) hD
        refine call_ViP (own := "HamperClubLaw") (As := [.int (xs (a3 + 1).toNatClampNeg), .int (xs (a3 + 2).toNatClampNeg)]) (rest := [.int x32]) (q0 := 0) (ci := 9) (wc := refW G qr u.2.2.2.2.2.2.2.2.2) (post := hamW G qm qa0 qh qo qt ++ (staW G qa0 qa1 qa2 qa4 ++ (clubW G qa1 z31.1 ++ (snpW G qa2 qa3 z31.2.1 ++ (clubW G qa3 z31.2.2.1 ++ (snpW G qa4 qa5 z31.2.2.2.1 ++ (clubW G qa5 z31.2.2.2.2.1 ++ (hisW G qh af z31.2.2.2.2.2.1 ++ (frW G af z31.2.2.2.2.2.2.1 0 6 ++ (ordW G qo z31.2.2.2.2.2.2.2.1 ++ clubW G qt z31.2.2.2.2.2.2.2.2)))))))))) hx hb hml hts hown hK hA hP hD hS ok_Law_44 rfl ⟨Nat.le_of_ble_eq_true rfl, Nat.le_of_ble_eq_true rfl⟩ ⟨hcs1, hcs2⟩ rfl rfl rfl hl.1 rfl (Nat.le_of_ble_eq_true rfl) d_Law_law_337 (c_Mod_choose l G qr _ u.2.2.2.2.2.2.2.2.2 (xs (a3 + 1).toNatClampNeg) (xs (a3 + 2).toNatClampNeg) _ h) (fun x34 z33 H locs h hP hD hS => ?_)
        have hP := SW.P (sw_12_11 (hamW G qm qa0 qh qo qt) (staW G qa0 qa1 qa2 qa4) (clubW G qa1 z31.1) (snpW G qa2 qa3 z31.2.1) (clubW G qa3 z31.2.2.1) (snpW G qa4 qa5 z31.2.2.2.1) (clubW G qa5 z31.2.2.2.2.1) (hisW G qh af z31.2.2.2.2.2.1) (frW G af z31.2.2.2.2.2.2.1 0 6) (ordW G qo z31.2.2.2.2.2.2.2.1) (clubW G qt z31.2.2.2.2.2.2.2.2) (refW G qr z33)).symm hP
        have hD := SW.D (sw_12_11 (hamW G qm qa0 qh qo qt) (staW G qa0 qa1 qa2 qa4) (clubW G qa1 z31.1) (snpW G qa2 qa3 z31.2.1) (clubW G qa3 z31.2.2.1) (snpW G qa4 qa5 z31.2.2.2.1) (clubW G qa5 z31.2.2.2.2.1) (hisW G qh af z31.2.2.2.2.2.1) (frW G af z31.2.2.2.2.2.2.1 0 6) (ordW G qo z31.2.2.2.2.2.2.2.1) (clubW G qt z31.2.2.2.2.2.2.2.2) (refW G qr z33)).symm hD
        refine lv_icmp_eq (tgt := 756) hx hb d_Law_law_340 (by decide) (fun hc => ?_) (fun hc => ?_)
        · have h := h.1 hc
          obtain ⟨x35, ex35⟩ : ∃ y : Int32, y = a3 + 4 := ⟨_, rfl⟩
          have h := h x35 ex35
          refine lv_iinc (v := x35) (lv' := [(3, .int x35), (0, .ref b), (1, .ref (qm 0)), (2, .ref (qr 0))]) hx hb d_Law_law_756 hl (k := 3) rfl (by rw [ex35]; rfl) (by decide) rfl (fun ls hl => ?_)
          refine lv_goto (tgt := 18) hx hb d_Law_law_759 (by decide) ?_
          exact ih x35 (z31.1, z31.2.1, z31.2.2.1, z31.2.2.2.1, z31.2.2.2.2.1, z31.2.2.2.2.2.1, z31.2.2.2.2.2.2.1, z31.2.2.2.2.2.2.2.1, z31.2.2.2.2.2.2.2.2, z33) h _ _ _ hP hD hS (lv_sub hl [1, 2, 3, 0] rfl)
        · have h := h.2 hc
          refine lv_iconst (v := 0) hx hb d_Law_law_343 (by decide) ?_
          exact h.elim
      by_cases hc7 : ((xs a3.toNatClampNeg) &&& 31) = 7
      · have h := h.2.2.2.2.2.2.2.1 hc7
        refine lv_tableIn (off := 313) (tgt := 345) hx hb d_Law_law_32 (by rw [hc7]; decide) (by rw [hc7]; decide) (by rw [hc7]; rfl) (by decide) ?_
        refine lv_aload_n hx hb d_Law_law_345 rfl (lv_at hl 1 rfl) ?_
        refine lv_aload_n hx hb d_Law_law_346 rfl (lv_at hl 0 rfl) ?_
        refine lv_iload_n hx hb d_Law_law_347 rfl (lv_at hl 3 rfl) ?_
        refine lv_iconst (v := 1) hx hb d_Law_law_348 (by decide) ?_
        refine lv_iadd hx hb d_Law_law_349 ?_
        obtain ⟨hi, h⟩ := h
        refine va_sld hx hb hX hbl hbA hS hi d_Law_law_350 ?_
        have hP := SW.P (sw_12_0_1_2_3_4_5_6_7_8_9_10 (hamW G qm qa0 qh qo qt) (staW G qa0 qa1 qa2 qa4) (clubW G qa1 u.1) (snpW G qa2 qa3 u.2.1) (clubW G qa3 u.2.2.1) (snpW G qa4 qa5 u.2.2.2.1) (clubW G qa5 u.2.2.2.2.1) (hisW G qh af u.2.2.2.2.2.1) (frW G af u.2.2.2.2.2.2.1 0 6) (ordW G qo u.2.2.2.2.2.2.2.1) (clubW G qt u.2.2.2.2.2.2.2.2.1) (refW G qr u.2.2.2.2.2.2.2.2.2)) hP
        have hD := SW.D (sw_12_0_1_2_3_4_5_6_7_8_9_10 (hamW G qm qa0 qh qo qt) (staW G qa0 qa1 qa2 qa4) (clubW G qa1 u.1) (snpW G qa2 qa3 u.2.1) (clubW G qa3 u.2.2.1) (snpW G qa4 qa5 u.2.2.2.1) (clubW G qa5 u.2.2.2.2.1) (hisW G qh af u.2.2.2.2.2.1) (frW G af u.2.2.2.2.2.2.1 0 6) (ordW G qo u.2.2.2.2.2.2.2.1) (clubW G qt u.2.2.2.2.2.2.2.2.1) (refW G qr u.2.2.2.2.2.2.2.2.2)) hD
        refine call_ViP (own := "HamperClubLaw") (As := [.int (xs (a3 + 1).toNatClampNeg)]) (rest := []) (q0 := 0) (ci := 8) (wc := hamW G qm qa0 qh qo qt ++ (staW G qa0 qa1 qa2 qa4 ++ (clubW G qa1 u.1 ++ (snpW G qa2 qa3 u.2.1 ++ (clubW G qa3 u.2.2.1 ++ (snpW G qa4 qa5 u.2.2.2.1 ++ (clubW G qa5 u.2.2.2.2.1 ++ (hisW G qh af u.2.2.2.2.2.1 ++ (frW G af u.2.2.2.2.2.2.1 0 6 ++ (ordW G qo u.2.2.2.2.2.2.2.1 ++ clubW G qt u.2.2.2.2.2.2.2.2.1)))))))))) (post := refW G qr u.2.2.2.2.2.2.2.2.2) hx hb hml hts hown hK hA hP hD hS ok_Law_45 rfl ⟨Nat.le_of_ble_eq_true rfl, Nat.le_of_ble_eq_true rfl⟩ ⟨hcs1, hcs2⟩ rfl rfl rfl hl.1 rfl (Nat.le_of_ble_eq_true rfl) d_Law_law_351 (c_Ham_giveUp l G qm qa0 qa1 qa2 qa3 qa4 qa5 qh qo qt af _ (u.1, u.2.1, u.2.2.1, u.2.2.2.1, u.2.2.2.2.1, u.2.2.2.2.2.1, u.2.2.2.2.2.2.1, u.2.2.2.2.2.2.2.1, u.2.2.2.2.2.2.2.2.1) (xs (a3 + 1).toNatClampNeg) _ h) (fun x37 z36 H locs h hP hD hS => ?_)
        have hP := SW.P (sw_12_0_1_2_3_4_5_6_7_8_9_10 (hamW G qm qa0 qh qo qt) (staW G qa0 qa1 qa2 qa4) (clubW G qa1 z36.1) (snpW G qa2 qa3 z36.2.1) (clubW G qa3 z36.2.2.1) (snpW G qa4 qa5 z36.2.2.2.1) (clubW G qa5 z36.2.2.2.2.1) (hisW G qh af z36.2.2.2.2.2.1) (frW G af z36.2.2.2.2.2.2.1 0 6) (ordW G qo z36.2.2.2.2.2.2.2.1) (clubW G qt z36.2.2.2.2.2.2.2.2) (refW G qr u.2.2.2.2.2.2.2.2.2)).symm hP
        have hD := SW.D (sw_12_0_1_2_3_4_5_6_7_8_9_10 (hamW G qm qa0 qh qo qt) (staW G qa0 qa1 qa2 qa4) (clubW G qa1 z36.1) (snpW G qa2 qa3 z36.2.1) (clubW G qa3 z36.2.2.1) (snpW G qa4 qa5 z36.2.2.2.1) (clubW G qa5 z36.2.2.2.2.1) (hisW G qh af z36.2.2.2.2.2.1) (frW G af z36.2.2.2.2.2.2.1 0 6) (ordW G qo z36.2.2.2.2.2.2.2.1) (clubW G qt z36.2.2.2.2.2.2.2.2) (refW G qr u.2.2.2.2.2.2.2.2.2)).symm hD
        refine lv_aload_n hx hb d_Law_law_354 rfl (lv_at hl 2 rfl) ?_
        refine lv_aload_n hx hb d_Law_law_355 rfl (lv_at hl 0 rfl) ?_
        refine lv_iload_n hx hb d_Law_law_356 rfl (lv_at hl 3 rfl) ?_
        refine lv_iconst (v := 1) hx hb d_Law_law_357 (by decide) ?_
        refine lv_iadd hx hb d_Law_law_358 ?_
        obtain ⟨hi, h⟩ := h
        refine va_sld hx hb hX hbl hbA hS hi d_Law_law_359 ?_
        have hP := SW.P (sw_12_11 (hamW G qm qa0 qh qo qt) (staW G qa0 qa1 qa2 qa4) (clubW G qa1 z36.1) (snpW G qa2 qa3 z36.2.1) (clubW G qa3 z36.2.2.1) (snpW G qa4 qa5 z36.2.2.2.1) (clubW G qa5 z36.2.2.2.2.1) (hisW G qh af z36.2.2.2.2.2.1) (frW G af z36.2.2.2.2.2.2.1 0 6) (ordW G qo z36.2.2.2.2.2.2.2.1) (clubW G qt z36.2.2.2.2.2.2.2.2) (refW G qr u.2.2.2.2.2.2.2.2.2)) hP
        have hD := SW.D (sw_12_11 (hamW G qm qa0 qh qo qt) (staW G qa0 qa1 qa2 qa4) (clubW G qa1 z36.1) (snpW G qa2 qa3 z36.2.1) (clubW G qa3 z36.2.2.1) (snpW G qa4 qa5 z36.2.2.2.1) (clubW G qa5 z36.2.2.2.2.1) (hisW G qh af z36.2.2.2.2.2.1) (frW G af z36.2.2.2.2.2.2.1 0 6) (ordW G qo z36.2.2.2.2.2.2.2.1) (clubW G qt z36.2.2.2.2.2.2.2.2) (refW G qr u.2.2.2.2.2.2.2.2.2)) hD
        refine call_ViP (own := "HamperClubLaw") (As := [.int (xs (a3 + 1).toNatClampNeg)]) (rest := [.int x37]) (q0 := 0) (ci := 9) (wc := refW G qr u.2.2.2.2.2.2.2.2.2) (post := hamW G qm qa0 qh qo qt ++ (staW G qa0 qa1 qa2 qa4 ++ (clubW G qa1 z36.1 ++ (snpW G qa2 qa3 z36.2.1 ++ (clubW G qa3 z36.2.2.1 ++ (snpW G qa4 qa5 z36.2.2.2.1 ++ (clubW G qa5 z36.2.2.2.2.1 ++ (hisW G qh af z36.2.2.2.2.2.1 ++ (frW G af z36.2.2.2.2.2.2.1 0 6 ++ (ordW G qo z36.2.2.2.2.2.2.2.1 ++ clubW G qt z36.2.2.2.2.2.2.2.2)))))))))) hx hb hml hts hown hK hA hP hD hS ok_Law_48 rfl ⟨Nat.le_of_ble_eq_true rfl, Nat.le_of_ble_eq_true rfl⟩ ⟨hcs1, hcs2⟩ rfl rfl rfl hl.1 rfl (Nat.le_of_ble_eq_true rfl) d_Law_law_360 (c_Mod_giveUp l G qr _ u.2.2.2.2.2.2.2.2.2 (xs (a3 + 1).toNatClampNeg) _ h) (fun x39 z38 H locs h hP hD hS => ?_)
        have hP := SW.P (sw_12_11 (hamW G qm qa0 qh qo qt) (staW G qa0 qa1 qa2 qa4) (clubW G qa1 z36.1) (snpW G qa2 qa3 z36.2.1) (clubW G qa3 z36.2.2.1) (snpW G qa4 qa5 z36.2.2.2.1) (clubW G qa5 z36.2.2.2.2.1) (hisW G qh af z36.2.2.2.2.2.1) (frW G af z36.2.2.2.2.2.2.1 0 6) (ordW G qo z36.2.2.2.2.2.2.2.1) (clubW G qt z36.2.2.2.2.2.2.2.2) (refW G qr z38)).symm hP
        have hD := SW.D (sw_12_11 (hamW G qm qa0 qh qo qt) (staW G qa0 qa1 qa2 qa4) (clubW G qa1 z36.1) (snpW G qa2 qa3 z36.2.1) (clubW G qa3 z36.2.2.1) (snpW G qa4 qa5 z36.2.2.2.1) (clubW G qa5 z36.2.2.2.2.1) (hisW G qh af z36.2.2.2.2.2.1) (frW G af z36.2.2.2.2.2.2.1 0 6) (ordW G qo z36.2.2.2.2.2.2.2.1) (clubW G qt z36.2.2.2.2.2.2.2.2) (refW G qr z38)).symm hD
        refine lv_icmp_eq (tgt := 756) hx hb d_Law_law_363 (by decide) (fun hc => ?_) (fun hc => ?_)
        · have h := h.1 hc
          obtain ⟨x40, ex40⟩ : ∃ y : Int32, y = a3 + 4 := ⟨_, rfl⟩
          have h := h x40 ex40
          refine lv_iinc (v := x40) (lv' := [(3, .int x40), (0, .ref b), (1, .ref (qm 0)), (2, .ref (qr 0))]) hx hb d_Law_law_756 hl (k := 3) rfl (by rw [ex40]; rfl) (by decide) rfl (fun ls hl => ?_)
          refine lv_goto (tgt := 18) hx hb d_Law_law_759 (by decide) ?_
          exact ih x40 (z36.1, z36.2.1, z36.2.2.1, z36.2.2.2.1, z36.2.2.2.2.1, z36.2.2.2.2.2.1, z36.2.2.2.2.2.2.1, z36.2.2.2.2.2.2.2.1, z36.2.2.2.2.2.2.2.2, z38) h _ _ _ hP hD hS (lv_sub hl [1, 2, 3, 0] rfl)
        · have h := h.2 hc
          refine lv_iconst (v := 0) hx hb d_Law_law_366 (by decide) ?_
          exact h.elim
      by_cases hc8 : ((xs a3.toNatClampNeg) &&& 31) = 8
      · have h := h.2.2.2.2.2.2.2.2.1 hc8
        refine lv_tableIn (off := 336) (tgt := 368) hx hb d_Law_law_32 (by rw [hc8]; decide) (by rw [hc8]; decide) (by rw [hc8]; rfl) (by decide) ?_
        refine lv_aload_n hx hb d_Law_law_368 rfl (lv_at hl 1 rfl) ?_
        have hP := SW.P (sw_12_0_1_2_3_4_5_6_7_8_9_10 (hamW G qm qa0 qh qo qt) (staW G qa0 qa1 qa2 qa4) (clubW G qa1 u.1) (snpW G qa2 qa3 u.2.1) (clubW G qa3 u.2.2.1) (snpW G qa4 qa5 u.2.2.2.1) (clubW G qa5 u.2.2.2.2.1) (hisW G qh af u.2.2.2.2.2.1) (frW G af u.2.2.2.2.2.2.1 0 6) (ordW G qo u.2.2.2.2.2.2.2.1) (clubW G qt u.2.2.2.2.2.2.2.2.1) (refW G qr u.2.2.2.2.2.2.2.2.2)) hP
        have hD := SW.D (sw_12_0_1_2_3_4_5_6_7_8_9_10 (hamW G qm qa0 qh qo qt) (staW G qa0 qa1 qa2 qa4) (clubW G qa1 u.1) (snpW G qa2 qa3 u.2.1) (clubW G qa3 u.2.2.1) (snpW G qa4 qa5 u.2.2.2.1) (clubW G qa5 u.2.2.2.2.1) (hisW G qh af u.2.2.2.2.2.1) (frW G af u.2.2.2.2.2.2.1 0 6) (ordW G qo u.2.2.2.2.2.2.2.1) (clubW G qt u.2.2.2.2.2.2.2.2.1) (refW G qr u.2.2.2.2.2.2.2.2.2)) hD
        refine call_ViP (own := "HamperClubLaw") (As := []) (rest := []) (q0 := 0) (ci := 8) (wc := hamW G qm qa0 qh qo qt ++ (staW G qa0 qa1 qa2 qa4 ++ (clubW G qa1 u.1 ++ (snpW G qa2 qa3 u.2.1 ++ (clubW G qa3 u.2.2.1 ++ (snpW G qa4 qa5 u.2.2.2.1 ++ (clubW G qa5 u.2.2.2.2.1 ++ (hisW G qh af u.2.2.2.2.2.1 ++ (frW G af u.2.2.2.2.2.2.1 0 6 ++ (ordW G qo u.2.2.2.2.2.2.2.1 ++ clubW G qt u.2.2.2.2.2.2.2.2.1)))))))))) (post := refW G qr u.2.2.2.2.2.2.2.2.2) hx hb hml hts hown hK hA hP hD hS ok_Law_49 rfl ⟨Nat.le_of_ble_eq_true rfl, Nat.le_of_ble_eq_true rfl⟩ ⟨hcs1, hcs2⟩ rfl rfl rfl hl.1 rfl (Nat.le_of_ble_eq_true rfl) d_Law_law_369 (c_Ham_week l G qm qa0 qa1 qa2 qa3 qa4 qa5 qh qo qt af _ (u.1, u.2.1, u.2.2.1, u.2.2.2.1, u.2.2.2.2.1, u.2.2.2.2.2.1, u.2.2.2.2.2.2.1, u.2.2.2.2.2.2.2.1, u.2.2.2.2.2.2.2.2.1)  _ h) (fun x42 z41 H locs h hP hD hS => ?_)
        have hP := SW.P (sw_12_0_1_2_3_4_5_6_7_8_9_10 (hamW G qm qa0 qh qo qt) (staW G qa0 qa1 qa2 qa4) (clubW G qa1 z41.1) (snpW G qa2 qa3 z41.2.1) (clubW G qa3 z41.2.2.1) (snpW G qa4 qa5 z41.2.2.2.1) (clubW G qa5 z41.2.2.2.2.1) (hisW G qh af z41.2.2.2.2.2.1) (frW G af z41.2.2.2.2.2.2.1 0 6) (ordW G qo z41.2.2.2.2.2.2.2.1) (clubW G qt z41.2.2.2.2.2.2.2.2) (refW G qr u.2.2.2.2.2.2.2.2.2)).symm hP
        have hD := SW.D (sw_12_0_1_2_3_4_5_6_7_8_9_10 (hamW G qm qa0 qh qo qt) (staW G qa0 qa1 qa2 qa4) (clubW G qa1 z41.1) (snpW G qa2 qa3 z41.2.1) (clubW G qa3 z41.2.2.1) (snpW G qa4 qa5 z41.2.2.2.1) (clubW G qa5 z41.2.2.2.2.1) (hisW G qh af z41.2.2.2.2.2.1) (frW G af z41.2.2.2.2.2.2.1 0 6) (ordW G qo z41.2.2.2.2.2.2.2.1) (clubW G qt z41.2.2.2.2.2.2.2.2) (refW G qr u.2.2.2.2.2.2.2.2.2)).symm hD
        refine lv_aload_n hx hb d_Law_law_372 rfl (lv_at hl 2 rfl) ?_
        have hP := SW.P (sw_12_11 (hamW G qm qa0 qh qo qt) (staW G qa0 qa1 qa2 qa4) (clubW G qa1 z41.1) (snpW G qa2 qa3 z41.2.1) (clubW G qa3 z41.2.2.1) (snpW G qa4 qa5 z41.2.2.2.1) (clubW G qa5 z41.2.2.2.2.1) (hisW G qh af z41.2.2.2.2.2.1) (frW G af z41.2.2.2.2.2.2.1 0 6) (ordW G qo z41.2.2.2.2.2.2.2.1) (clubW G qt z41.2.2.2.2.2.2.2.2) (refW G qr u.2.2.2.2.2.2.2.2.2)) hP
        have hD := SW.D (sw_12_11 (hamW G qm qa0 qh qo qt) (staW G qa0 qa1 qa2 qa4) (clubW G qa1 z41.1) (snpW G qa2 qa3 z41.2.1) (clubW G qa3 z41.2.2.1) (snpW G qa4 qa5 z41.2.2.2.1) (clubW G qa5 z41.2.2.2.2.1) (hisW G qh af z41.2.2.2.2.2.1) (frW G af z41.2.2.2.2.2.2.1 0 6) (ordW G qo z41.2.2.2.2.2.2.2.1) (clubW G qt z41.2.2.2.2.2.2.2.2) (refW G qr u.2.2.2.2.2.2.2.2.2)) hD
        refine call_ViP (own := "HamperClubLaw") (As := []) (rest := [.int x42]) (q0 := 0) (ci := 9) (wc := refW G qr u.2.2.2.2.2.2.2.2.2) (post := hamW G qm qa0 qh qo qt ++ (staW G qa0 qa1 qa2 qa4 ++ (clubW G qa1 z41.1 ++ (snpW G qa2 qa3 z41.2.1 ++ (clubW G qa3 z41.2.2.1 ++ (snpW G qa4 qa5 z41.2.2.2.1 ++ (clubW G qa5 z41.2.2.2.2.1 ++ (hisW G qh af z41.2.2.2.2.2.1 ++ (frW G af z41.2.2.2.2.2.2.1 0 6 ++ (ordW G qo z41.2.2.2.2.2.2.2.1 ++ clubW G qt z41.2.2.2.2.2.2.2.2)))))))))) hx hb hml hts hown hK hA hP hD hS ok_Law_52 rfl ⟨Nat.le_of_ble_eq_true rfl, Nat.le_of_ble_eq_true rfl⟩ ⟨hcs1, hcs2⟩ rfl rfl rfl hl.1 rfl (Nat.le_of_ble_eq_true rfl) d_Law_law_373 (c_Mod_week l G qr _ u.2.2.2.2.2.2.2.2.2  _ h) (fun x44 z43 H locs h hP hD hS => ?_)
        have hP := SW.P (sw_12_11 (hamW G qm qa0 qh qo qt) (staW G qa0 qa1 qa2 qa4) (clubW G qa1 z41.1) (snpW G qa2 qa3 z41.2.1) (clubW G qa3 z41.2.2.1) (snpW G qa4 qa5 z41.2.2.2.1) (clubW G qa5 z41.2.2.2.2.1) (hisW G qh af z41.2.2.2.2.2.1) (frW G af z41.2.2.2.2.2.2.1 0 6) (ordW G qo z41.2.2.2.2.2.2.2.1) (clubW G qt z41.2.2.2.2.2.2.2.2) (refW G qr z43)).symm hP
        have hD := SW.D (sw_12_11 (hamW G qm qa0 qh qo qt) (staW G qa0 qa1 qa2 qa4) (clubW G qa1 z41.1) (snpW G qa2 qa3 z41.2.1) (clubW G qa3 z41.2.2.1) (snpW G qa4 qa5 z41.2.2.2.1) (clubW G qa5 z41.2.2.2.2.1) (hisW G qh af z41.2.2.2.2.2.1) (frW G af z41.2.2.2.2.2.2.1 0 6) (ordW G qo z41.2.2.2.2.2.2.2.1) (clubW G qt z41.2.2.2.2.2.2.2.2) (refW G qr z43)).symm hD
        refine lv_icmp_eq (tgt := 756) hx hb d_Law_law_376 (by decide) (fun hc => ?_) (fun hc => ?_)
        · have h := h.1 hc
          obtain ⟨x45, ex45⟩ : ∃ y : Int32, y = a3 + 4 := ⟨_, rfl⟩
          have h := h x45 ex45
          refine lv_iinc (v := x45) (lv' := [(3, .int x45), (0, .ref b), (1, .ref (qm 0)), (2, .ref (qr 0))]) hx hb d_Law_law_756 hl (k := 3) rfl (by rw [ex45]; rfl) (by decide) rfl (fun ls hl => ?_)
          refine lv_goto (tgt := 18) hx hb d_Law_law_759 (by decide) ?_
          exact ih x45 (z41.1, z41.2.1, z41.2.2.1, z41.2.2.2.1, z41.2.2.2.2.1, z41.2.2.2.2.2.1, z41.2.2.2.2.2.2.1, z41.2.2.2.2.2.2.2.1, z41.2.2.2.2.2.2.2.2, z43) h _ _ _ hP hD hS (lv_sub hl [1, 2, 3, 0] rfl)
        · have h := h.2 hc
          refine lv_iconst (v := 0) hx hb d_Law_law_379 (by decide) ?_
          exact h.elim
      by_cases hc9 : ((xs a3.toNatClampNeg) &&& 31) = 9
      · have h := h.2.2.2.2.2.2.2.2.2.1 hc9
        refine lv_tableIn (off := 349) (tgt := 381) hx hb d_Law_law_32 (by rw [hc9]; decide) (by rw [hc9]; decide) (by rw [hc9]; rfl) (by decide) ?_
        refine lv_aload_n hx hb d_Law_law_381 rfl (lv_at hl 1 rfl) ?_
        have hP := SW.P (sw_12_0_1_2_3_4_5_6_7_8_9_10 (hamW G qm qa0 qh qo qt) (staW G qa0 qa1 qa2 qa4) (clubW G qa1 u.1) (snpW G qa2 qa3 u.2.1) (clubW G qa3 u.2.2.1) (snpW G qa4 qa5 u.2.2.2.1) (clubW G qa5 u.2.2.2.2.1) (hisW G qh af u.2.2.2.2.2.1) (frW G af u.2.2.2.2.2.2.1 0 6) (ordW G qo u.2.2.2.2.2.2.2.1) (clubW G qt u.2.2.2.2.2.2.2.2.1) (refW G qr u.2.2.2.2.2.2.2.2.2)) hP
        have hD := SW.D (sw_12_0_1_2_3_4_5_6_7_8_9_10 (hamW G qm qa0 qh qo qt) (staW G qa0 qa1 qa2 qa4) (clubW G qa1 u.1) (snpW G qa2 qa3 u.2.1) (clubW G qa3 u.2.2.1) (snpW G qa4 qa5 u.2.2.2.1) (clubW G qa5 u.2.2.2.2.1) (hisW G qh af u.2.2.2.2.2.1) (frW G af u.2.2.2.2.2.2.1 0 6) (ordW G qo u.2.2.2.2.2.2.2.1) (clubW G qt u.2.2.2.2.2.2.2.2.1) (refW G qr u.2.2.2.2.2.2.2.2.2)) hD
        refine call_ViP (own := "HamperClubLaw") (As := []) (rest := []) (q0 := 0) (ci := 8) (wc := hamW G qm qa0 qh qo qt ++ (staW G qa0 qa1 qa2 qa4 ++ (clubW G qa1 u.1 ++ (snpW G qa2 qa3 u.2.1 ++ (clubW G qa3 u.2.2.1 ++ (snpW G qa4 qa5 u.2.2.2.1 ++ (clubW G qa5 u.2.2.2.2.1 ++ (hisW G qh af u.2.2.2.2.2.1 ++ (frW G af u.2.2.2.2.2.2.1 0 6 ++ (ordW G qo u.2.2.2.2.2.2.2.1 ++ clubW G qt u.2.2.2.2.2.2.2.2.1)))))))))) (post := refW G qr u.2.2.2.2.2.2.2.2.2) hx hb hml hts hown hK hA hP hD hS ok_Law_53 rfl ⟨Nat.le_of_ble_eq_true rfl, Nat.le_of_ble_eq_true rfl⟩ ⟨hcs1, hcs2⟩ rfl rfl rfl hl.1 rfl (Nat.le_of_ble_eq_true rfl) d_Law_law_382 (c_Ham_settle l G qm qa0 qa1 qa2 qa3 qa4 qa5 qh qo qt af _ (u.1, u.2.1, u.2.2.1, u.2.2.2.1, u.2.2.2.2.1, u.2.2.2.2.2.1, u.2.2.2.2.2.2.1, u.2.2.2.2.2.2.2.1, u.2.2.2.2.2.2.2.2.1)  _ h) (fun x47 z46 H locs h hP hD hS => ?_)
        have hP := SW.P (sw_12_0_1_2_3_4_5_6_7_8_9_10 (hamW G qm qa0 qh qo qt) (staW G qa0 qa1 qa2 qa4) (clubW G qa1 z46.1) (snpW G qa2 qa3 z46.2.1) (clubW G qa3 z46.2.2.1) (snpW G qa4 qa5 z46.2.2.2.1) (clubW G qa5 z46.2.2.2.2.1) (hisW G qh af z46.2.2.2.2.2.1) (frW G af z46.2.2.2.2.2.2.1 0 6) (ordW G qo z46.2.2.2.2.2.2.2.1) (clubW G qt z46.2.2.2.2.2.2.2.2) (refW G qr u.2.2.2.2.2.2.2.2.2)).symm hP
        have hD := SW.D (sw_12_0_1_2_3_4_5_6_7_8_9_10 (hamW G qm qa0 qh qo qt) (staW G qa0 qa1 qa2 qa4) (clubW G qa1 z46.1) (snpW G qa2 qa3 z46.2.1) (clubW G qa3 z46.2.2.1) (snpW G qa4 qa5 z46.2.2.2.1) (clubW G qa5 z46.2.2.2.2.1) (hisW G qh af z46.2.2.2.2.2.1) (frW G af z46.2.2.2.2.2.2.1 0 6) (ordW G qo z46.2.2.2.2.2.2.2.1) (clubW G qt z46.2.2.2.2.2.2.2.2) (refW G qr u.2.2.2.2.2.2.2.2.2)).symm hD
        refine lv_aload_n hx hb d_Law_law_385 rfl (lv_at hl 2 rfl) ?_
        have hP := SW.P (sw_12_11 (hamW G qm qa0 qh qo qt) (staW G qa0 qa1 qa2 qa4) (clubW G qa1 z46.1) (snpW G qa2 qa3 z46.2.1) (clubW G qa3 z46.2.2.1) (snpW G qa4 qa5 z46.2.2.2.1) (clubW G qa5 z46.2.2.2.2.1) (hisW G qh af z46.2.2.2.2.2.1) (frW G af z46.2.2.2.2.2.2.1 0 6) (ordW G qo z46.2.2.2.2.2.2.2.1) (clubW G qt z46.2.2.2.2.2.2.2.2) (refW G qr u.2.2.2.2.2.2.2.2.2)) hP
        have hD := SW.D (sw_12_11 (hamW G qm qa0 qh qo qt) (staW G qa0 qa1 qa2 qa4) (clubW G qa1 z46.1) (snpW G qa2 qa3 z46.2.1) (clubW G qa3 z46.2.2.1) (snpW G qa4 qa5 z46.2.2.2.1) (clubW G qa5 z46.2.2.2.2.1) (hisW G qh af z46.2.2.2.2.2.1) (frW G af z46.2.2.2.2.2.2.1 0 6) (ordW G qo z46.2.2.2.2.2.2.2.1) (clubW G qt z46.2.2.2.2.2.2.2.2) (refW G qr u.2.2.2.2.2.2.2.2.2)) hD
        refine call_ViP (own := "HamperClubLaw") (As := []) (rest := [.int x47]) (q0 := 0) (ci := 9) (wc := refW G qr u.2.2.2.2.2.2.2.2.2) (post := hamW G qm qa0 qh qo qt ++ (staW G qa0 qa1 qa2 qa4 ++ (clubW G qa1 z46.1 ++ (snpW G qa2 qa3 z46.2.1 ++ (clubW G qa3 z46.2.2.1 ++ (snpW G qa4 qa5 z46.2.2.2.1 ++ (clubW G qa5 z46.2.2.2.2.1 ++ (hisW G qh af z46.2.2.2.2.2.1 ++ (frW G af z46.2.2.2.2.2.2.1 0 6 ++ (ordW G qo z46.2.2.2.2.2.2.2.1 ++ clubW G qt z46.2.2.2.2.2.2.2.2)))))))))) hx hb hml hts hown hK hA hP hD hS ok_Law_56 rfl ⟨Nat.le_of_ble_eq_true rfl, Nat.le_of_ble_eq_true rfl⟩ ⟨hcs1, hcs2⟩ rfl rfl rfl hl.1 rfl (Nat.le_of_ble_eq_true rfl) d_Law_law_386 (c_Mod_settle l G qr _ u.2.2.2.2.2.2.2.2.2  _ h) (fun x49 z48 H locs h hP hD hS => ?_)
        have hP := SW.P (sw_12_11 (hamW G qm qa0 qh qo qt) (staW G qa0 qa1 qa2 qa4) (clubW G qa1 z46.1) (snpW G qa2 qa3 z46.2.1) (clubW G qa3 z46.2.2.1) (snpW G qa4 qa5 z46.2.2.2.1) (clubW G qa5 z46.2.2.2.2.1) (hisW G qh af z46.2.2.2.2.2.1) (frW G af z46.2.2.2.2.2.2.1 0 6) (ordW G qo z46.2.2.2.2.2.2.2.1) (clubW G qt z46.2.2.2.2.2.2.2.2) (refW G qr z48)).symm hP
        have hD := SW.D (sw_12_11 (hamW G qm qa0 qh qo qt) (staW G qa0 qa1 qa2 qa4) (clubW G qa1 z46.1) (snpW G qa2 qa3 z46.2.1) (clubW G qa3 z46.2.2.1) (snpW G qa4 qa5 z46.2.2.2.1) (clubW G qa5 z46.2.2.2.2.1) (hisW G qh af z46.2.2.2.2.2.1) (frW G af z46.2.2.2.2.2.2.1 0 6) (ordW G qo z46.2.2.2.2.2.2.2.1) (clubW G qt z46.2.2.2.2.2.2.2.2) (refW G qr z48)).symm hD
        refine lv_icmp_eq (tgt := 756) hx hb d_Law_law_389 (by decide) (fun hc => ?_) (fun hc => ?_)
        · have h := h.1 hc
          obtain ⟨x50, ex50⟩ : ∃ y : Int32, y = a3 + 4 := ⟨_, rfl⟩
          have h := h x50 ex50
          refine lv_iinc (v := x50) (lv' := [(3, .int x50), (0, .ref b), (1, .ref (qm 0)), (2, .ref (qr 0))]) hx hb d_Law_law_756 hl (k := 3) rfl (by rw [ex50]; rfl) (by decide) rfl (fun ls hl => ?_)
          refine lv_goto (tgt := 18) hx hb d_Law_law_759 (by decide) ?_
          exact ih x50 (z46.1, z46.2.1, z46.2.2.1, z46.2.2.2.1, z46.2.2.2.2.1, z46.2.2.2.2.2.1, z46.2.2.2.2.2.2.1, z46.2.2.2.2.2.2.2.1, z46.2.2.2.2.2.2.2.2, z48) h _ _ _ hP hD hS (lv_sub hl [1, 2, 3, 0] rfl)
        · have h := h.2 hc
          refine lv_iconst (v := 0) hx hb d_Law_law_392 (by decide) ?_
          exact h.elim
      by_cases hc10 : ((xs a3.toNatClampNeg) &&& 31) = 10
      · have h := h.2.2.2.2.2.2.2.2.2.2.1 hc10
        refine lv_tableIn (off := 362) (tgt := 394) hx hb d_Law_law_32 (by rw [hc10]; decide) (by rw [hc10]; decide) (by rw [hc10]; rfl) (by decide) ?_
        refine lv_aload_n hx hb d_Law_law_394 rfl (lv_at hl 1 rfl) ?_
        refine lv_aload_n hx hb d_Law_law_395 rfl (lv_at hl 0 rfl) ?_
        refine lv_iload_n hx hb d_Law_law_396 rfl (lv_at hl 3 rfl) ?_
        refine lv_iconst (v := 1) hx hb d_Law_law_397 (by decide) ?_
        refine lv_iadd hx hb d_Law_law_398 ?_
        obtain ⟨hi, h⟩ := h
        refine va_sld hx hb hX hbl hbA hS hi d_Law_law_399 ?_
        have hP := SW.P (sw_12_0_1_2_3_4_5_6_7_8_9_10 (hamW G qm qa0 qh qo qt) (staW G qa0 qa1 qa2 qa4) (clubW G qa1 u.1) (snpW G qa2 qa3 u.2.1) (clubW G qa3 u.2.2.1) (snpW G qa4 qa5 u.2.2.2.1) (clubW G qa5 u.2.2.2.2.1) (hisW G qh af u.2.2.2.2.2.1) (frW G af u.2.2.2.2.2.2.1 0 6) (ordW G qo u.2.2.2.2.2.2.2.1) (clubW G qt u.2.2.2.2.2.2.2.2.1) (refW G qr u.2.2.2.2.2.2.2.2.2)) hP
        have hD := SW.D (sw_12_0_1_2_3_4_5_6_7_8_9_10 (hamW G qm qa0 qh qo qt) (staW G qa0 qa1 qa2 qa4) (clubW G qa1 u.1) (snpW G qa2 qa3 u.2.1) (clubW G qa3 u.2.2.1) (snpW G qa4 qa5 u.2.2.2.1) (clubW G qa5 u.2.2.2.2.1) (hisW G qh af u.2.2.2.2.2.1) (frW G af u.2.2.2.2.2.2.1 0 6) (ordW G qo u.2.2.2.2.2.2.2.1) (clubW G qt u.2.2.2.2.2.2.2.2.1) (refW G qr u.2.2.2.2.2.2.2.2.2)) hD
        refine call_ViP (own := "HamperClubLaw") (As := [.int (xs (a3 + 1).toNatClampNeg)]) (rest := []) (q0 := 0) (ci := 8) (wc := hamW G qm qa0 qh qo qt ++ (staW G qa0 qa1 qa2 qa4 ++ (clubW G qa1 u.1 ++ (snpW G qa2 qa3 u.2.1 ++ (clubW G qa3 u.2.2.1 ++ (snpW G qa4 qa5 u.2.2.2.1 ++ (clubW G qa5 u.2.2.2.2.1 ++ (hisW G qh af u.2.2.2.2.2.1 ++ (frW G af u.2.2.2.2.2.2.1 0 6 ++ (ordW G qo u.2.2.2.2.2.2.2.1 ++ clubW G qt u.2.2.2.2.2.2.2.2.1)))))))))) (post := refW G qr u.2.2.2.2.2.2.2.2.2) hx hb hml hts hown hK hA hP hD hS ok_Law_57 rfl ⟨Nat.le_of_ble_eq_true rfl, Nat.le_of_ble_eq_true rfl⟩ ⟨hcs1, hcs2⟩ rfl rfl rfl hl.1 rfl (Nat.le_of_ble_eq_true rfl) d_Law_law_400 (c_Ham_take l G qm qa0 qa1 qa2 qa3 qa4 qa5 qh qo qt af _ (u.1, u.2.1, u.2.2.1, u.2.2.2.1, u.2.2.2.2.1, u.2.2.2.2.2.1, u.2.2.2.2.2.2.1, u.2.2.2.2.2.2.2.1, u.2.2.2.2.2.2.2.2.1) (xs (a3 + 1).toNatClampNeg) _ h) (fun x52 z51 H locs h hP hD hS => ?_)
        have hP := SW.P (sw_12_0_1_2_3_4_5_6_7_8_9_10 (hamW G qm qa0 qh qo qt) (staW G qa0 qa1 qa2 qa4) (clubW G qa1 z51.1) (snpW G qa2 qa3 z51.2.1) (clubW G qa3 z51.2.2.1) (snpW G qa4 qa5 z51.2.2.2.1) (clubW G qa5 z51.2.2.2.2.1) (hisW G qh af z51.2.2.2.2.2.1) (frW G af z51.2.2.2.2.2.2.1 0 6) (ordW G qo z51.2.2.2.2.2.2.2.1) (clubW G qt z51.2.2.2.2.2.2.2.2) (refW G qr u.2.2.2.2.2.2.2.2.2)).symm hP
        have hD := SW.D (sw_12_0_1_2_3_4_5_6_7_8_9_10 (hamW G qm qa0 qh qo qt) (staW G qa0 qa1 qa2 qa4) (clubW G qa1 z51.1) (snpW G qa2 qa3 z51.2.1) (clubW G qa3 z51.2.2.1) (snpW G qa4 qa5 z51.2.2.2.1) (clubW G qa5 z51.2.2.2.2.1) (hisW G qh af z51.2.2.2.2.2.1) (frW G af z51.2.2.2.2.2.2.1 0 6) (ordW G qo z51.2.2.2.2.2.2.2.1) (clubW G qt z51.2.2.2.2.2.2.2.2) (refW G qr u.2.2.2.2.2.2.2.2.2)).symm hD
        refine lv_aload_n hx hb d_Law_law_403 rfl (lv_at hl 2 rfl) ?_
        refine lv_aload_n hx hb d_Law_law_404 rfl (lv_at hl 0 rfl) ?_
        refine lv_iload_n hx hb d_Law_law_405 rfl (lv_at hl 3 rfl) ?_
        refine lv_iconst (v := 1) hx hb d_Law_law_406 (by decide) ?_
        refine lv_iadd hx hb d_Law_law_407 ?_
        obtain ⟨hi, h⟩ := h
        refine va_sld hx hb hX hbl hbA hS hi d_Law_law_408 ?_
        have hP := SW.P (sw_12_11 (hamW G qm qa0 qh qo qt) (staW G qa0 qa1 qa2 qa4) (clubW G qa1 z51.1) (snpW G qa2 qa3 z51.2.1) (clubW G qa3 z51.2.2.1) (snpW G qa4 qa5 z51.2.2.2.1) (clubW G qa5 z51.2.2.2.2.1) (hisW G qh af z51.2.2.2.2.2.1) (frW G af z51.2.2.2.2.2.2.1 0 6) (ordW G qo z51.2.2.2.2.2.2.2.1) (clubW G qt z51.2.2.2.2.2.2.2.2) (refW G qr u.2.2.2.2.2.2.2.2.2)) hP
        have hD := SW.D (sw_12_11 (hamW G qm qa0 qh qo qt) (staW G qa0 qa1 qa2 qa4) (clubW G qa1 z51.1) (snpW G qa2 qa3 z51.2.1) (clubW G qa3 z51.2.2.1) (snpW G qa4 qa5 z51.2.2.2.1) (clubW G qa5 z51.2.2.2.2.1) (hisW G qh af z51.2.2.2.2.2.1) (frW G af z51.2.2.2.2.2.2.1 0 6) (ordW G qo z51.2.2.2.2.2.2.2.1) (clubW G qt z51.2.2.2.2.2.2.2.2) (refW G qr u.2.2.2.2.2.2.2.2.2)) hD
        refine call_ViP (own := "HamperClubLaw") (As := [.int (xs (a3 + 1).toNatClampNeg)]) (rest := [.int x52]) (q0 := 0) (ci := 9) (wc := refW G qr u.2.2.2.2.2.2.2.2.2) (post := hamW G qm qa0 qh qo qt ++ (staW G qa0 qa1 qa2 qa4 ++ (clubW G qa1 z51.1 ++ (snpW G qa2 qa3 z51.2.1 ++ (clubW G qa3 z51.2.2.1 ++ (snpW G qa4 qa5 z51.2.2.2.1 ++ (clubW G qa5 z51.2.2.2.2.1 ++ (hisW G qh af z51.2.2.2.2.2.1 ++ (frW G af z51.2.2.2.2.2.2.1 0 6 ++ (ordW G qo z51.2.2.2.2.2.2.2.1 ++ clubW G qt z51.2.2.2.2.2.2.2.2)))))))))) hx hb hml hts hown hK hA hP hD hS ok_Law_60 rfl ⟨Nat.le_of_ble_eq_true rfl, Nat.le_of_ble_eq_true rfl⟩ ⟨hcs1, hcs2⟩ rfl rfl rfl hl.1 rfl (Nat.le_of_ble_eq_true rfl) d_Law_law_409 (c_Mod_take l G qr _ u.2.2.2.2.2.2.2.2.2 (xs (a3 + 1).toNatClampNeg) _ h) (fun x54 z53 H locs h hP hD hS => ?_)
        have hP := SW.P (sw_12_11 (hamW G qm qa0 qh qo qt) (staW G qa0 qa1 qa2 qa4) (clubW G qa1 z51.1) (snpW G qa2 qa3 z51.2.1) (clubW G qa3 z51.2.2.1) (snpW G qa4 qa5 z51.2.2.2.1) (clubW G qa5 z51.2.2.2.2.1) (hisW G qh af z51.2.2.2.2.2.1) (frW G af z51.2.2.2.2.2.2.1 0 6) (ordW G qo z51.2.2.2.2.2.2.2.1) (clubW G qt z51.2.2.2.2.2.2.2.2) (refW G qr z53)).symm hP
        have hD := SW.D (sw_12_11 (hamW G qm qa0 qh qo qt) (staW G qa0 qa1 qa2 qa4) (clubW G qa1 z51.1) (snpW G qa2 qa3 z51.2.1) (clubW G qa3 z51.2.2.1) (snpW G qa4 qa5 z51.2.2.2.1) (clubW G qa5 z51.2.2.2.2.1) (hisW G qh af z51.2.2.2.2.2.1) (frW G af z51.2.2.2.2.2.2.1 0 6) (ordW G qo z51.2.2.2.2.2.2.2.1) (clubW G qt z51.2.2.2.2.2.2.2.2) (refW G qr z53)).symm hD
        refine lv_icmp_eq (tgt := 756) hx hb d_Law_law_412 (by decide) (fun hc => ?_) (fun hc => ?_)
        · have h := h.1 hc
          obtain ⟨x55, ex55⟩ : ∃ y : Int32, y = a3 + 4 := ⟨_, rfl⟩
          have h := h x55 ex55
          refine lv_iinc (v := x55) (lv' := [(3, .int x55), (0, .ref b), (1, .ref (qm 0)), (2, .ref (qr 0))]) hx hb d_Law_law_756 hl (k := 3) rfl (by rw [ex55]; rfl) (by decide) rfl (fun ls hl => ?_)
          refine lv_goto (tgt := 18) hx hb d_Law_law_759 (by decide) ?_
          exact ih x55 (z51.1, z51.2.1, z51.2.2.1, z51.2.2.2.1, z51.2.2.2.2.1, z51.2.2.2.2.2.1, z51.2.2.2.2.2.2.1, z51.2.2.2.2.2.2.2.1, z51.2.2.2.2.2.2.2.2, z53) h _ _ _ hP hD hS (lv_sub hl [1, 2, 3, 0] rfl)
        · have h := h.2 hc
          refine lv_iconst (v := 0) hx hb d_Law_law_415 (by decide) ?_
          exact h.elim
      by_cases hc11 : ((xs a3.toNatClampNeg) &&& 31) = 11
      · have h := h.2.2.2.2.2.2.2.2.2.2.2.1 hc11
        refine lv_tableIn (off := 385) (tgt := 417) hx hb d_Law_law_32 (by rw [hc11]; decide) (by rw [hc11]; decide) (by rw [hc11]; rfl) (by decide) ?_
        refine lv_aload_n hx hb d_Law_law_417 rfl (lv_at hl 1 rfl) ?_
        refine lv_aload_n hx hb d_Law_law_418 rfl (lv_at hl 0 rfl) ?_
        refine lv_iload_n hx hb d_Law_law_419 rfl (lv_at hl 3 rfl) ?_
        refine lv_iconst (v := 1) hx hb d_Law_law_420 (by decide) ?_
        refine lv_iadd hx hb d_Law_law_421 ?_
        obtain ⟨hi, h⟩ := h
        refine va_sld hx hb hX hbl hbA hS hi d_Law_law_422 ?_
        have hP := SW.P (sw_12_0_1_2_3_4_5_6_7_8_9_10 (hamW G qm qa0 qh qo qt) (staW G qa0 qa1 qa2 qa4) (clubW G qa1 u.1) (snpW G qa2 qa3 u.2.1) (clubW G qa3 u.2.2.1) (snpW G qa4 qa5 u.2.2.2.1) (clubW G qa5 u.2.2.2.2.1) (hisW G qh af u.2.2.2.2.2.1) (frW G af u.2.2.2.2.2.2.1 0 6) (ordW G qo u.2.2.2.2.2.2.2.1) (clubW G qt u.2.2.2.2.2.2.2.2.1) (refW G qr u.2.2.2.2.2.2.2.2.2)) hP
        have hD := SW.D (sw_12_0_1_2_3_4_5_6_7_8_9_10 (hamW G qm qa0 qh qo qt) (staW G qa0 qa1 qa2 qa4) (clubW G qa1 u.1) (snpW G qa2 qa3 u.2.1) (clubW G qa3 u.2.2.1) (snpW G qa4 qa5 u.2.2.2.1) (clubW G qa5 u.2.2.2.2.1) (hisW G qh af u.2.2.2.2.2.1) (frW G af u.2.2.2.2.2.2.1 0 6) (ordW G qo u.2.2.2.2.2.2.2.1) (clubW G qt u.2.2.2.2.2.2.2.2.1) (refW G qr u.2.2.2.2.2.2.2.2.2)) hD
        refine call_ViP (own := "HamperClubLaw") (As := [.int (xs (a3 + 1).toNatClampNeg)]) (rest := []) (q0 := 0) (ci := 8) (wc := hamW G qm qa0 qh qo qt ++ (staW G qa0 qa1 qa2 qa4 ++ (clubW G qa1 u.1 ++ (snpW G qa2 qa3 u.2.1 ++ (clubW G qa3 u.2.2.1 ++ (snpW G qa4 qa5 u.2.2.2.1 ++ (clubW G qa5 u.2.2.2.2.1 ++ (hisW G qh af u.2.2.2.2.2.1 ++ (frW G af u.2.2.2.2.2.2.1 0 6 ++ (ordW G qo u.2.2.2.2.2.2.2.1 ++ clubW G qt u.2.2.2.2.2.2.2.2.1)))))))))) (post := refW G qr u.2.2.2.2.2.2.2.2.2) hx hb hml hts hown hK hA hP hD hS ok_Law_61 rfl ⟨Nat.le_of_ble_eq_true rfl, Nat.le_of_ble_eq_true rfl⟩ ⟨hcs1, hcs2⟩ rfl rfl rfl hl.1 rfl (Nat.le_of_ble_eq_true rfl) d_Law_law_423 (c_Ham_restore l G qm qa0 qa1 qa2 qa3 qa4 qa5 qh qo qt af _ (u.1, u.2.1, u.2.2.1, u.2.2.2.1, u.2.2.2.2.1, u.2.2.2.2.2.1, u.2.2.2.2.2.2.1, u.2.2.2.2.2.2.2.1, u.2.2.2.2.2.2.2.2.1) (xs (a3 + 1).toNatClampNeg) _ h) (fun x57 z56 H locs h hP hD hS => ?_)
        have hP := SW.P (sw_12_0_1_2_3_4_5_6_7_8_9_10 (hamW G qm qa0 qh qo qt) (staW G qa0 qa1 qa2 qa4) (clubW G qa1 z56.1) (snpW G qa2 qa3 z56.2.1) (clubW G qa3 z56.2.2.1) (snpW G qa4 qa5 z56.2.2.2.1) (clubW G qa5 z56.2.2.2.2.1) (hisW G qh af z56.2.2.2.2.2.1) (frW G af z56.2.2.2.2.2.2.1 0 6) (ordW G qo z56.2.2.2.2.2.2.2.1) (clubW G qt z56.2.2.2.2.2.2.2.2) (refW G qr u.2.2.2.2.2.2.2.2.2)).symm hP
        have hD := SW.D (sw_12_0_1_2_3_4_5_6_7_8_9_10 (hamW G qm qa0 qh qo qt) (staW G qa0 qa1 qa2 qa4) (clubW G qa1 z56.1) (snpW G qa2 qa3 z56.2.1) (clubW G qa3 z56.2.2.1) (snpW G qa4 qa5 z56.2.2.2.1) (clubW G qa5 z56.2.2.2.2.1) (hisW G qh af z56.2.2.2.2.2.1) (frW G af z56.2.2.2.2.2.2.1 0 6) (ordW G qo z56.2.2.2.2.2.2.2.1) (clubW G qt z56.2.2.2.2.2.2.2.2) (refW G qr u.2.2.2.2.2.2.2.2.2)).symm hD
        refine lv_aload_n hx hb d_Law_law_426 rfl (lv_at hl 2 rfl) ?_
        refine lv_aload_n hx hb d_Law_law_427 rfl (lv_at hl 0 rfl) ?_
        refine lv_iload_n hx hb d_Law_law_428 rfl (lv_at hl 3 rfl) ?_
        refine lv_iconst (v := 1) hx hb d_Law_law_429 (by decide) ?_
        refine lv_iadd hx hb d_Law_law_430 ?_
        obtain ⟨hi, h⟩ := h
        refine va_sld hx hb hX hbl hbA hS hi d_Law_law_431 ?_
        have hP := SW.P (sw_12_11 (hamW G qm qa0 qh qo qt) (staW G qa0 qa1 qa2 qa4) (clubW G qa1 z56.1) (snpW G qa2 qa3 z56.2.1) (clubW G qa3 z56.2.2.1) (snpW G qa4 qa5 z56.2.2.2.1) (clubW G qa5 z56.2.2.2.2.1) (hisW G qh af z56.2.2.2.2.2.1) (frW G af z56.2.2.2.2.2.2.1 0 6) (ordW G qo z56.2.2.2.2.2.2.2.1) (clubW G qt z56.2.2.2.2.2.2.2.2) (refW G qr u.2.2.2.2.2.2.2.2.2)) hP
        have hD := SW.D (sw_12_11 (hamW G qm qa0 qh qo qt) (staW G qa0 qa1 qa2 qa4) (clubW G qa1 z56.1) (snpW G qa2 qa3 z56.2.1) (clubW G qa3 z56.2.2.1) (snpW G qa4 qa5 z56.2.2.2.1) (clubW G qa5 z56.2.2.2.2.1) (hisW G qh af z56.2.2.2.2.2.1) (frW G af z56.2.2.2.2.2.2.1 0 6) (ordW G qo z56.2.2.2.2.2.2.2.1) (clubW G qt z56.2.2.2.2.2.2.2.2) (refW G qr u.2.2.2.2.2.2.2.2.2)) hD
        refine call_ViP (own := "HamperClubLaw") (As := [.int (xs (a3 + 1).toNatClampNeg)]) (rest := [.int x57]) (q0 := 0) (ci := 9) (wc := refW G qr u.2.2.2.2.2.2.2.2.2) (post := hamW G qm qa0 qh qo qt ++ (staW G qa0 qa1 qa2 qa4 ++ (clubW G qa1 z56.1 ++ (snpW G qa2 qa3 z56.2.1 ++ (clubW G qa3 z56.2.2.1 ++ (snpW G qa4 qa5 z56.2.2.2.1 ++ (clubW G qa5 z56.2.2.2.2.1 ++ (hisW G qh af z56.2.2.2.2.2.1 ++ (frW G af z56.2.2.2.2.2.2.1 0 6 ++ (ordW G qo z56.2.2.2.2.2.2.2.1 ++ clubW G qt z56.2.2.2.2.2.2.2.2)))))))))) hx hb hml hts hown hK hA hP hD hS ok_Law_64 rfl ⟨Nat.le_of_ble_eq_true rfl, Nat.le_of_ble_eq_true rfl⟩ ⟨hcs1, hcs2⟩ rfl rfl rfl hl.1 rfl (Nat.le_of_ble_eq_true rfl) d_Law_law_432 (c_Mod_restore l G qr _ u.2.2.2.2.2.2.2.2.2 (xs (a3 + 1).toNatClampNeg) _ h) (fun x59 z58 H locs h hP hD hS => ?_)
        have hP := SW.P (sw_12_11 (hamW G qm qa0 qh qo qt) (staW G qa0 qa1 qa2 qa4) (clubW G qa1 z56.1) (snpW G qa2 qa3 z56.2.1) (clubW G qa3 z56.2.2.1) (snpW G qa4 qa5 z56.2.2.2.1) (clubW G qa5 z56.2.2.2.2.1) (hisW G qh af z56.2.2.2.2.2.1) (frW G af z56.2.2.2.2.2.2.1 0 6) (ordW G qo z56.2.2.2.2.2.2.2.1) (clubW G qt z56.2.2.2.2.2.2.2.2) (refW G qr z58)).symm hP
        have hD := SW.D (sw_12_11 (hamW G qm qa0 qh qo qt) (staW G qa0 qa1 qa2 qa4) (clubW G qa1 z56.1) (snpW G qa2 qa3 z56.2.1) (clubW G qa3 z56.2.2.1) (snpW G qa4 qa5 z56.2.2.2.1) (clubW G qa5 z56.2.2.2.2.1) (hisW G qh af z56.2.2.2.2.2.1) (frW G af z56.2.2.2.2.2.2.1 0 6) (ordW G qo z56.2.2.2.2.2.2.2.1) (clubW G qt z56.2.2.2.2.2.2.2.2) (refW G qr z58)).symm hD
        refine lv_icmp_eq (tgt := 756) hx hb d_Law_law_435 (by decide) (fun hc => ?_) (fun hc => ?_)
        · have h := h.1 hc
          obtain ⟨x60, ex60⟩ : ∃ y : Int32, y = a3 + 4 := ⟨_, rfl⟩
          have h := h x60 ex60
          refine lv_iinc (v := x60) (lv' := [(3, .int x60), (0, .ref b), (1, .ref (qm 0)), (2, .ref (qr 0))]) hx hb d_Law_law_756 hl (k := 3) rfl (by rw [ex60]; rfl) (by decide) rfl (fun ls hl => ?_)
          refine lv_goto (tgt := 18) hx hb d_Law_law_759 (by decide) ?_
          exact ih x60 (z56.1, z56.2.1, z56.2.2.1, z56.2.2.2.1, z56.2.2.2.2.1, z56.2.2.2.2.2.1, z56.2.2.2.2.2.2.1, z56.2.2.2.2.2.2.2.1, z56.2.2.2.2.2.2.2.2, z58) h _ _ _ hP hD hS (lv_sub hl [1, 2, 3, 0] rfl)
        · have h := h.2 hc
          refine lv_iconst (v := 0) hx hb d_Law_law_438 (by decide) ?_
          exact h.elim
      by_cases hc12 : ((xs a3.toNatClampNeg) &&& 31) = 12
      · have h := h.2.2.2.2.2.2.2.2.2.2.2.2.1 hc12
        refine lv_tableIn (off := 408) (tgt := 440) hx hb d_Law_law_32 (by rw [hc12]; decide) (by rw [hc12]; decide) (by rw [hc12]; rfl) (by decide) ?_
        refine lv_aload_n hx hb d_Law_law_440 rfl (lv_at hl 1 rfl) ?_
        have hP := SW.P (sw_12_0_1_2_3_4_5_6_7_8_9_10 (hamW G qm qa0 qh qo qt) (staW G qa0 qa1 qa2 qa4) (clubW G qa1 u.1) (snpW G qa2 qa3 u.2.1) (clubW G qa3 u.2.2.1) (snpW G qa4 qa5 u.2.2.2.1) (clubW G qa5 u.2.2.2.2.1) (hisW G qh af u.2.2.2.2.2.1) (frW G af u.2.2.2.2.2.2.1 0 6) (ordW G qo u.2.2.2.2.2.2.2.1) (clubW G qt u.2.2.2.2.2.2.2.2.1) (refW G qr u.2.2.2.2.2.2.2.2.2)) hP
        have hD := SW.D (sw_12_0_1_2_3_4_5_6_7_8_9_10 (hamW G qm qa0 qh qo qt) (staW G qa0 qa1 qa2 qa4) (clubW G qa1 u.1) (snpW G qa2 qa3 u.2.1) (clubW G qa3 u.2.2.1) (snpW G qa4 qa5 u.2.2.2.1) (clubW G qa5 u.2.2.2.2.1) (hisW G qh af u.2.2.2.2.2.1) (frW G af u.2.2.2.2.2.2.1 0 6) (ordW G qo u.2.2.2.2.2.2.2.1) (clubW G qt u.2.2.2.2.2.2.2.2.1) (refW G qr u.2.2.2.2.2.2.2.2.2)) hD
        refine call_ViP (own := "HamperClubLaw") (As := []) (rest := []) (q0 := 0) (ci := 8) (wc := hamW G qm qa0 qh qo qt ++ (staW G qa0 qa1 qa2 qa4 ++ (clubW G qa1 u.1 ++ (snpW G qa2 qa3 u.2.1 ++ (clubW G qa3 u.2.2.1 ++ (snpW G qa4 qa5 u.2.2.2.1 ++ (clubW G qa5 u.2.2.2.2.1 ++ (hisW G qh af u.2.2.2.2.2.1 ++ (frW G af u.2.2.2.2.2.2.1 0 6 ++ (ordW G qo u.2.2.2.2.2.2.2.1 ++ clubW G qt u.2.2.2.2.2.2.2.2.1)))))))))) (post := refW G qr u.2.2.2.2.2.2.2.2.2) hx hb hml hts hown hK hA hP hD hS ok_Law_65 rfl ⟨Nat.le_of_ble_eq_true rfl, Nat.le_of_ble_eq_true rfl⟩ ⟨hcs1, hcs2⟩ rfl rfl rfl hl.1 rfl (Nat.le_of_ble_eq_true rfl) d_Law_law_441 (c_Ham_undo l G qm qa0 qa1 qa2 qa3 qa4 qa5 qh qo qt af _ (u.1, u.2.1, u.2.2.1, u.2.2.2.1, u.2.2.2.2.1, u.2.2.2.2.2.1, u.2.2.2.2.2.2.1, u.2.2.2.2.2.2.2.1, u.2.2.2.2.2.2.2.2.1)  _ h) (fun x62 z61 H locs h hP hD hS => ?_)
        have hP := SW.P (sw_12_0_1_2_3_4_5_6_7_8_9_10 (hamW G qm qa0 qh qo qt) (staW G qa0 qa1 qa2 qa4) (clubW G qa1 z61.1) (snpW G qa2 qa3 z61.2.1) (clubW G qa3 z61.2.2.1) (snpW G qa4 qa5 z61.2.2.2.1) (clubW G qa5 z61.2.2.2.2.1) (hisW G qh af z61.2.2.2.2.2.1) (frW G af z61.2.2.2.2.2.2.1 0 6) (ordW G qo z61.2.2.2.2.2.2.2.1) (clubW G qt z61.2.2.2.2.2.2.2.2) (refW G qr u.2.2.2.2.2.2.2.2.2)).symm hP
        have hD := SW.D (sw_12_0_1_2_3_4_5_6_7_8_9_10 (hamW G qm qa0 qh qo qt) (staW G qa0 qa1 qa2 qa4) (clubW G qa1 z61.1) (snpW G qa2 qa3 z61.2.1) (clubW G qa3 z61.2.2.1) (snpW G qa4 qa5 z61.2.2.2.1) (clubW G qa5 z61.2.2.2.2.1) (hisW G qh af z61.2.2.2.2.2.1) (frW G af z61.2.2.2.2.2.2.1 0 6) (ordW G qo z61.2.2.2.2.2.2.2.1) (clubW G qt z61.2.2.2.2.2.2.2.2) (refW G qr u.2.2.2.2.2.2.2.2.2)).symm hD
        refine lv_aload_n hx hb d_Law_law_444 rfl (lv_at hl 2 rfl) ?_
        have hP := SW.P (sw_12_11 (hamW G qm qa0 qh qo qt) (staW G qa0 qa1 qa2 qa4) (clubW G qa1 z61.1) (snpW G qa2 qa3 z61.2.1) (clubW G qa3 z61.2.2.1) (snpW G qa4 qa5 z61.2.2.2.1) (clubW G qa5 z61.2.2.2.2.1) (hisW G qh af z61.2.2.2.2.2.1) (frW G af z61.2.2.2.2.2.2.1 0 6) (ordW G qo z61.2.2.2.2.2.2.2.1) (clubW G qt z61.2.2.2.2.2.2.2.2) (refW G qr u.2.2.2.2.2.2.2.2.2)) hP
        have hD := SW.D (sw_12_11 (hamW G qm qa0 qh qo qt) (staW G qa0 qa1 qa2 qa4) (clubW G qa1 z61.1) (snpW G qa2 qa3 z61.2.1) (clubW G qa3 z61.2.2.1) (snpW G qa4 qa5 z61.2.2.2.1) (clubW G qa5 z61.2.2.2.2.1) (hisW G qh af z61.2.2.2.2.2.1) (frW G af z61.2.2.2.2.2.2.1 0 6) (ordW G qo z61.2.2.2.2.2.2.2.1) (clubW G qt z61.2.2.2.2.2.2.2.2) (refW G qr u.2.2.2.2.2.2.2.2.2)) hD
        refine call_ViP (own := "HamperClubLaw") (As := []) (rest := [.int x62]) (q0 := 0) (ci := 9) (wc := refW G qr u.2.2.2.2.2.2.2.2.2) (post := hamW G qm qa0 qh qo qt ++ (staW G qa0 qa1 qa2 qa4 ++ (clubW G qa1 z61.1 ++ (snpW G qa2 qa3 z61.2.1 ++ (clubW G qa3 z61.2.2.1 ++ (snpW G qa4 qa5 z61.2.2.2.1 ++ (clubW G qa5 z61.2.2.2.2.1 ++ (hisW G qh af z61.2.2.2.2.2.1 ++ (frW G af z61.2.2.2.2.2.2.1 0 6 ++ (ordW G qo z61.2.2.2.2.2.2.2.1 ++ clubW G qt z61.2.2.2.2.2.2.2.2)))))))))) hx hb hml hts hown hK hA hP hD hS ok_Law_68 rfl ⟨Nat.le_of_ble_eq_true rfl, Nat.le_of_ble_eq_true rfl⟩ ⟨hcs1, hcs2⟩ rfl rfl rfl hl.1 rfl (Nat.le_of_ble_eq_true rfl) d_Law_law_445 (c_Mod_undo l G qr _ u.2.2.2.2.2.2.2.2.2  _ h) (fun x64 z63 H locs h hP hD hS => ?_)
        have hP := SW.P (sw_12_11 (hamW G qm qa0 qh qo qt) (staW G qa0 qa1 qa2 qa4) (clubW G qa1 z61.1) (snpW G qa2 qa3 z61.2.1) (clubW G qa3 z61.2.2.1) (snpW G qa4 qa5 z61.2.2.2.1) (clubW G qa5 z61.2.2.2.2.1) (hisW G qh af z61.2.2.2.2.2.1) (frW G af z61.2.2.2.2.2.2.1 0 6) (ordW G qo z61.2.2.2.2.2.2.2.1) (clubW G qt z61.2.2.2.2.2.2.2.2) (refW G qr z63)).symm hP
        have hD := SW.D (sw_12_11 (hamW G qm qa0 qh qo qt) (staW G qa0 qa1 qa2 qa4) (clubW G qa1 z61.1) (snpW G qa2 qa3 z61.2.1) (clubW G qa3 z61.2.2.1) (snpW G qa4 qa5 z61.2.2.2.1) (clubW G qa5 z61.2.2.2.2.1) (hisW G qh af z61.2.2.2.2.2.1) (frW G af z61.2.2.2.2.2.2.1 0 6) (ordW G qo z61.2.2.2.2.2.2.2.1) (clubW G qt z61.2.2.2.2.2.2.2.2) (refW G qr z63)).symm hD
        refine lv_icmp_eq (tgt := 756) hx hb d_Law_law_448 (by decide) (fun hc => ?_) (fun hc => ?_)
        · have h := h.1 hc
          obtain ⟨x65, ex65⟩ : ∃ y : Int32, y = a3 + 4 := ⟨_, rfl⟩
          have h := h x65 ex65
          refine lv_iinc (v := x65) (lv' := [(3, .int x65), (0, .ref b), (1, .ref (qm 0)), (2, .ref (qr 0))]) hx hb d_Law_law_756 hl (k := 3) rfl (by rw [ex65]; rfl) (by decide) rfl (fun ls hl => ?_)
          refine lv_goto (tgt := 18) hx hb d_Law_law_759 (by decide) ?_
          exact ih x65 (z61.1, z61.2.1, z61.2.2.1, z61.2.2.2.1, z61.2.2.2.2.1, z61.2.2.2.2.2.1, z61.2.2.2.2.2.2.1, z61.2.2.2.2.2.2.2.1, z61.2.2.2.2.2.2.2.2, z63) h _ _ _ hP hD hS (lv_sub hl [1, 2, 3, 0] rfl)
        · have h := h.2 hc
          refine lv_iconst (v := 0) hx hb d_Law_law_451 (by decide) ?_
          exact h.elim
      by_cases hc13 : ((xs a3.toNatClampNeg) &&& 31) = 13
      · have h := h.2.2.2.2.2.2.2.2.2.2.2.2.2.1 hc13
        refine lv_tableIn (off := 421) (tgt := 453) hx hb d_Law_law_32 (by rw [hc13]; decide) (by rw [hc13]; decide) (by rw [hc13]; rfl) (by decide) ?_
        refine lv_aload_n hx hb d_Law_law_453 rfl (lv_at hl 1 rfl) ?_
        refine lv_aload_n hx hb d_Law_law_454 rfl (lv_at hl 0 rfl) ?_
        refine lv_iload_n hx hb d_Law_law_455 rfl (lv_at hl 3 rfl) ?_
        refine lv_iconst (v := 1) hx hb d_Law_law_456 (by decide) ?_
        refine lv_iadd hx hb d_Law_law_457 ?_
        obtain ⟨hi, h⟩ := h
        refine va_sld hx hb hX hbl hbA hS hi d_Law_law_458 ?_
        have hP := SW.P (sw_12_0_1_2_3_4_5_6_7_8_9_10 (hamW G qm qa0 qh qo qt) (staW G qa0 qa1 qa2 qa4) (clubW G qa1 u.1) (snpW G qa2 qa3 u.2.1) (clubW G qa3 u.2.2.1) (snpW G qa4 qa5 u.2.2.2.1) (clubW G qa5 u.2.2.2.2.1) (hisW G qh af u.2.2.2.2.2.1) (frW G af u.2.2.2.2.2.2.1 0 6) (ordW G qo u.2.2.2.2.2.2.2.1) (clubW G qt u.2.2.2.2.2.2.2.2.1) (refW G qr u.2.2.2.2.2.2.2.2.2)) hP
        have hD := SW.D (sw_12_0_1_2_3_4_5_6_7_8_9_10 (hamW G qm qa0 qh qo qt) (staW G qa0 qa1 qa2 qa4) (clubW G qa1 u.1) (snpW G qa2 qa3 u.2.1) (clubW G qa3 u.2.2.1) (snpW G qa4 qa5 u.2.2.2.1) (clubW G qa5 u.2.2.2.2.1) (hisW G qh af u.2.2.2.2.2.1) (frW G af u.2.2.2.2.2.2.1 0 6) (ordW G qo u.2.2.2.2.2.2.2.1) (clubW G qt u.2.2.2.2.2.2.2.2.1) (refW G qr u.2.2.2.2.2.2.2.2.2)) hD
        refine call_ViP (own := "HamperClubLaw") (As := [.int (xs (a3 + 1).toNatClampNeg)]) (rest := []) (q0 := 0) (ci := 8) (wc := hamW G qm qa0 qh qo qt ++ (staW G qa0 qa1 qa2 qa4 ++ (clubW G qa1 u.1 ++ (snpW G qa2 qa3 u.2.1 ++ (clubW G qa3 u.2.2.1 ++ (snpW G qa4 qa5 u.2.2.2.1 ++ (clubW G qa5 u.2.2.2.2.1 ++ (hisW G qh af u.2.2.2.2.2.1 ++ (frW G af u.2.2.2.2.2.2.1 0 6 ++ (ordW G qo u.2.2.2.2.2.2.2.1 ++ clubW G qt u.2.2.2.2.2.2.2.2.1)))))))))) (post := refW G qr u.2.2.2.2.2.2.2.2.2) hx hb hml hts hown hK hA hP hD hS ok_Law_69 rfl ⟨Nat.le_of_ble_eq_true rfl, Nat.le_of_ble_eq_true rfl⟩ ⟨hcs1, hcs2⟩ rfl rfl rfl hl.1 rfl (Nat.le_of_ble_eq_true rfl) d_Law_law_459 (c_Ham_append l G qm qa0 qa1 qa2 qa3 qa4 qa5 qh qo qt af _ (u.1, u.2.1, u.2.2.1, u.2.2.2.1, u.2.2.2.2.1, u.2.2.2.2.2.1, u.2.2.2.2.2.2.1, u.2.2.2.2.2.2.2.1, u.2.2.2.2.2.2.2.2.1) (xs (a3 + 1).toNatClampNeg) _ h) (fun x67 z66 H locs h hP hD hS => ?_)
        have hP := SW.P (sw_12_0_1_2_3_4_5_6_7_8_9_10 (hamW G qm qa0 qh qo qt) (staW G qa0 qa1 qa2 qa4) (clubW G qa1 z66.1) (snpW G qa2 qa3 z66.2.1) (clubW G qa3 z66.2.2.1) (snpW G qa4 qa5 z66.2.2.2.1) (clubW G qa5 z66.2.2.2.2.1) (hisW G qh af z66.2.2.2.2.2.1) (frW G af z66.2.2.2.2.2.2.1 0 6) (ordW G qo z66.2.2.2.2.2.2.2.1) (clubW G qt z66.2.2.2.2.2.2.2.2) (refW G qr u.2.2.2.2.2.2.2.2.2)).symm hP
        have hD := SW.D (sw_12_0_1_2_3_4_5_6_7_8_9_10 (hamW G qm qa0 qh qo qt) (staW G qa0 qa1 qa2 qa4) (clubW G qa1 z66.1) (snpW G qa2 qa3 z66.2.1) (clubW G qa3 z66.2.2.1) (snpW G qa4 qa5 z66.2.2.2.1) (clubW G qa5 z66.2.2.2.2.1) (hisW G qh af z66.2.2.2.2.2.1) (frW G af z66.2.2.2.2.2.2.1 0 6) (ordW G qo z66.2.2.2.2.2.2.2.1) (clubW G qt z66.2.2.2.2.2.2.2.2) (refW G qr u.2.2.2.2.2.2.2.2.2)).symm hD
        refine lv_aload_n hx hb d_Law_law_462 rfl (lv_at hl 2 rfl) ?_
        refine lv_aload_n hx hb d_Law_law_463 rfl (lv_at hl 0 rfl) ?_
        refine lv_iload_n hx hb d_Law_law_464 rfl (lv_at hl 3 rfl) ?_
        refine lv_iconst (v := 1) hx hb d_Law_law_465 (by decide) ?_
        refine lv_iadd hx hb d_Law_law_466 ?_
        obtain ⟨hi, h⟩ := h
        refine va_sld hx hb hX hbl hbA hS hi d_Law_law_467 ?_
        have hP := SW.P (sw_12_11 (hamW G qm qa0 qh qo qt) (staW G qa0 qa1 qa2 qa4) (clubW G qa1 z66.1) (snpW G qa2 qa3 z66.2.1) (clubW G qa3 z66.2.2.1) (snpW G qa4 qa5 z66.2.2.2.1) (clubW G qa5 z66.2.2.2.2.1) (hisW G qh af z66.2.2.2.2.2.1) (frW G af z66.2.2.2.2.2.2.1 0 6) (ordW G qo z66.2.2.2.2.2.2.2.1) (clubW G qt z66.2.2.2.2.2.2.2.2) (refW G qr u.2.2.2.2.2.2.2.2.2)) hP
        have hD := SW.D (sw_12_11 (hamW G qm qa0 qh qo qt) (staW G qa0 qa1 qa2 qa4) (clubW G qa1 z66.1) (snpW G qa2 qa3 z66.2.1) (clubW G qa3 z66.2.2.1) (snpW G qa4 qa5 z66.2.2.2.1) (clubW G qa5 z66.2.2.2.2.1) (hisW G qh af z66.2.2.2.2.2.1) (frW G af z66.2.2.2.2.2.2.1 0 6) (ordW G qo z66.2.2.2.2.2.2.2.1) (clubW G qt z66.2.2.2.2.2.2.2.2) (refW G qr u.2.2.2.2.2.2.2.2.2)) hD
        refine call_ViP (own := "HamperClubLaw") (As := [.int (xs (a3 + 1).toNatClampNeg)]) (rest := [.int x67]) (q0 := 0) (ci := 9) (wc := refW G qr u.2.2.2.2.2.2.2.2.2) (post := hamW G qm qa0 qh qo qt ++ (staW G qa0 qa1 qa2 qa4 ++ (clubW G qa1 z66.1 ++ (snpW G qa2 qa3 z66.2.1 ++ (clubW G qa3 z66.2.2.1 ++ (snpW G qa4 qa5 z66.2.2.2.1 ++ (clubW G qa5 z66.2.2.2.2.1 ++ (hisW G qh af z66.2.2.2.2.2.1 ++ (frW G af z66.2.2.2.2.2.2.1 0 6 ++ (ordW G qo z66.2.2.2.2.2.2.2.1 ++ clubW G qt z66.2.2.2.2.2.2.2.2)))))))))) hx hb hml hts hown hK hA hP hD hS ok_Law_72 rfl ⟨Nat.le_of_ble_eq_true rfl, Nat.le_of_ble_eq_true rfl⟩ ⟨hcs1, hcs2⟩ rfl rfl rfl hl.1 rfl (Nat.le_of_ble_eq_true rfl) d_Law_law_468 (c_Mod_append l G qr _ u.2.2.2.2.2.2.2.2.2 (xs (a3 + 1).toNatClampNeg) _ h) (fun x69 z68 H locs h hP hD hS => ?_)
        have hP := SW.P (sw_12_11 (hamW G qm qa0 qh qo qt) (staW G qa0 qa1 qa2 qa4) (clubW G qa1 z66.1) (snpW G qa2 qa3 z66.2.1) (clubW G qa3 z66.2.2.1) (snpW G qa4 qa5 z66.2.2.2.1) (clubW G qa5 z66.2.2.2.2.1) (hisW G qh af z66.2.2.2.2.2.1) (frW G af z66.2.2.2.2.2.2.1 0 6) (ordW G qo z66.2.2.2.2.2.2.2.1) (clubW G qt z66.2.2.2.2.2.2.2.2) (refW G qr z68)).symm hP
        have hD := SW.D (sw_12_11 (hamW G qm qa0 qh qo qt) (staW G qa0 qa1 qa2 qa4) (clubW G qa1 z66.1) (snpW G qa2 qa3 z66.2.1) (clubW G qa3 z66.2.2.1) (snpW G qa4 qa5 z66.2.2.2.1) (clubW G qa5 z66.2.2.2.2.1) (hisW G qh af z66.2.2.2.2.2.1) (frW G af z66.2.2.2.2.2.2.1 0 6) (ordW G qo z66.2.2.2.2.2.2.2.1) (clubW G qt z66.2.2.2.2.2.2.2.2) (refW G qr z68)).symm hD
        refine lv_icmp_eq (tgt := 756) hx hb d_Law_law_471 (by decide) (fun hc => ?_) (fun hc => ?_)
        · have h := h.1 hc
          obtain ⟨x70, ex70⟩ : ∃ y : Int32, y = a3 + 4 := ⟨_, rfl⟩
          have h := h x70 ex70
          refine lv_iinc (v := x70) (lv' := [(3, .int x70), (0, .ref b), (1, .ref (qm 0)), (2, .ref (qr 0))]) hx hb d_Law_law_756 hl (k := 3) rfl (by rw [ex70]; rfl) (by decide) rfl (fun ls hl => ?_)
          refine lv_goto (tgt := 18) hx hb d_Law_law_759 (by decide) ?_
          exact ih x70 (z66.1, z66.2.1, z66.2.2.1, z66.2.2.2.1, z66.2.2.2.2.1, z66.2.2.2.2.2.1, z66.2.2.2.2.2.2.1, z66.2.2.2.2.2.2.2.1, z66.2.2.2.2.2.2.2.2, z68) h _ _ _ hP hD hS (lv_sub hl [1, 2, 3, 0] rfl)
        · have h := h.2 hc
          refine lv_iconst (v := 0) hx hb d_Law_law_474 (by decide) ?_
          exact h.elim
      by_cases hc14 : ((xs a3.toNatClampNeg) &&& 31) = 14
      · have h := h.2.2.2.2.2.2.2.2.2.2.2.2.2.2.1 hc14
        refine lv_tableIn (off := 444) (tgt := 476) hx hb d_Law_law_32 (by rw [hc14]; decide) (by rw [hc14]; decide) (by rw [hc14]; rfl) (by decide) ?_
        refine lv_aload_n hx hb d_Law_law_476 rfl (lv_at hl 1 rfl) ?_
        have hP := SW.P (sw_12_0_1_2_3_4_5_6_7_8_9_10 (hamW G qm qa0 qh qo qt) (staW G qa0 qa1 qa2 qa4) (clubW G qa1 u.1) (snpW G qa2 qa3 u.2.1) (clubW G qa3 u.2.2.1) (snpW G qa4 qa5 u.2.2.2.1) (clubW G qa5 u.2.2.2.2.1) (hisW G qh af u.2.2.2.2.2.1) (frW G af u.2.2.2.2.2.2.1 0 6) (ordW G qo u.2.2.2.2.2.2.2.1) (clubW G qt u.2.2.2.2.2.2.2.2.1) (refW G qr u.2.2.2.2.2.2.2.2.2)) hP
        have hD := SW.D (sw_12_0_1_2_3_4_5_6_7_8_9_10 (hamW G qm qa0 qh qo qt) (staW G qa0 qa1 qa2 qa4) (clubW G qa1 u.1) (snpW G qa2 qa3 u.2.1) (clubW G qa3 u.2.2.1) (snpW G qa4 qa5 u.2.2.2.1) (clubW G qa5 u.2.2.2.2.1) (hisW G qh af u.2.2.2.2.2.1) (frW G af u.2.2.2.2.2.2.1 0 6) (ordW G qo u.2.2.2.2.2.2.2.1) (clubW G qt u.2.2.2.2.2.2.2.2.1) (refW G qr u.2.2.2.2.2.2.2.2.2)) hD
        refine call_ViP (own := "HamperClubLaw") (As := []) (rest := []) (q0 := 0) (ci := 8) (wc := hamW G qm qa0 qh qo qt ++ (staW G qa0 qa1 qa2 qa4 ++ (clubW G qa1 u.1 ++ (snpW G qa2 qa3 u.2.1 ++ (clubW G qa3 u.2.2.1 ++ (snpW G qa4 qa5 u.2.2.2.1 ++ (clubW G qa5 u.2.2.2.2.1 ++ (hisW G qh af u.2.2.2.2.2.1 ++ (frW G af u.2.2.2.2.2.2.1 0 6 ++ (ordW G qo u.2.2.2.2.2.2.2.1 ++ clubW G qt u.2.2.2.2.2.2.2.2.1)))))))))) (post := refW G qr u.2.2.2.2.2.2.2.2.2) hx hb hml hts hown hK hA hP hD hS ok_Law_73 rfl ⟨Nat.le_of_ble_eq_true rfl, Nat.le_of_ble_eq_true rfl⟩ ⟨hcs1, hcs2⟩ rfl rfl rfl hl.1 rfl (Nat.le_of_ble_eq_true rfl) d_Law_law_477 (c_Ham_clearText l G qm qa0 qa1 qa2 qa3 qa4 qa5 qh qo qt af _ (u.1, u.2.1, u.2.2.1, u.2.2.2.1, u.2.2.2.2.1, u.2.2.2.2.2.1, u.2.2.2.2.2.2.1, u.2.2.2.2.2.2.2.1, u.2.2.2.2.2.2.2.2.1)  _ h) (fun x72 z71 H locs h hP hD hS => ?_)
        have hP := SW.P (sw_12_0_1_2_3_4_5_6_7_8_9_10 (hamW G qm qa0 qh qo qt) (staW G qa0 qa1 qa2 qa4) (clubW G qa1 z71.1) (snpW G qa2 qa3 z71.2.1) (clubW G qa3 z71.2.2.1) (snpW G qa4 qa5 z71.2.2.2.1) (clubW G qa5 z71.2.2.2.2.1) (hisW G qh af z71.2.2.2.2.2.1) (frW G af z71.2.2.2.2.2.2.1 0 6) (ordW G qo z71.2.2.2.2.2.2.2.1) (clubW G qt z71.2.2.2.2.2.2.2.2) (refW G qr u.2.2.2.2.2.2.2.2.2)).symm hP
        have hD := SW.D (sw_12_0_1_2_3_4_5_6_7_8_9_10 (hamW G qm qa0 qh qo qt) (staW G qa0 qa1 qa2 qa4) (clubW G qa1 z71.1) (snpW G qa2 qa3 z71.2.1) (clubW G qa3 z71.2.2.1) (snpW G qa4 qa5 z71.2.2.2.1) (clubW G qa5 z71.2.2.2.2.1) (hisW G qh af z71.2.2.2.2.2.1) (frW G af z71.2.2.2.2.2.2.1 0 6) (ordW G qo z71.2.2.2.2.2.2.2.1) (clubW G qt z71.2.2.2.2.2.2.2.2) (refW G qr u.2.2.2.2.2.2.2.2.2)).symm hD
        refine lv_aload_n hx hb d_Law_law_480 rfl (lv_at hl 2 rfl) ?_
        have hP := SW.P (sw_12_11 (hamW G qm qa0 qh qo qt) (staW G qa0 qa1 qa2 qa4) (clubW G qa1 z71.1) (snpW G qa2 qa3 z71.2.1) (clubW G qa3 z71.2.2.1) (snpW G qa4 qa5 z71.2.2.2.1) (clubW G qa5 z71.2.2.2.2.1) (hisW G qh af z71.2.2.2.2.2.1) (frW G af z71.2.2.2.2.2.2.1 0 6) (ordW G qo z71.2.2.2.2.2.2.2.1) (clubW G qt z71.2.2.2.2.2.2.2.2) (refW G qr u.2.2.2.2.2.2.2.2.2)) hP
        have hD := SW.D (sw_12_11 (hamW G qm qa0 qh qo qt) (staW G qa0 qa1 qa2 qa4) (clubW G qa1 z71.1) (snpW G qa2 qa3 z71.2.1) (clubW G qa3 z71.2.2.1) (snpW G qa4 qa5 z71.2.2.2.1) (clubW G qa5 z71.2.2.2.2.1) (hisW G qh af z71.2.2.2.2.2.1) (frW G af z71.2.2.2.2.2.2.1 0 6) (ordW G qo z71.2.2.2.2.2.2.2.1) (clubW G qt z71.2.2.2.2.2.2.2.2) (refW G qr u.2.2.2.2.2.2.2.2.2)) hD
        refine call_ViP (own := "HamperClubLaw") (As := []) (rest := [.int x72]) (q0 := 0) (ci := 9) (wc := refW G qr u.2.2.2.2.2.2.2.2.2) (post := hamW G qm qa0 qh qo qt ++ (staW G qa0 qa1 qa2 qa4 ++ (clubW G qa1 z71.1 ++ (snpW G qa2 qa3 z71.2.1 ++ (clubW G qa3 z71.2.2.1 ++ (snpW G qa4 qa5 z71.2.2.2.1 ++ (clubW G qa5 z71.2.2.2.2.1 ++ (hisW G qh af z71.2.2.2.2.2.1 ++ (frW G af z71.2.2.2.2.2.2.1 0 6 ++ (ordW G qo z71.2.2.2.2.2.2.2.1 ++ clubW G qt z71.2.2.2.2.2.2.2.2)))))))))) hx hb hml hts hown hK hA hP hD hS ok_Law_76 rfl ⟨Nat.le_of_ble_eq_true rfl, Nat.le_of_ble_eq_true rfl⟩ ⟨hcs1, hcs2⟩ rfl rfl rfl hl.1 rfl (Nat.le_of_ble_eq_true rfl) d_Law_law_481 (c_Mod_clearText l G qr _ u.2.2.2.2.2.2.2.2.2  _ h) (fun x74 z73 H locs h hP hD hS => ?_)
        have hP := SW.P (sw_12_11 (hamW G qm qa0 qh qo qt) (staW G qa0 qa1 qa2 qa4) (clubW G qa1 z71.1) (snpW G qa2 qa3 z71.2.1) (clubW G qa3 z71.2.2.1) (snpW G qa4 qa5 z71.2.2.2.1) (clubW G qa5 z71.2.2.2.2.1) (hisW G qh af z71.2.2.2.2.2.1) (frW G af z71.2.2.2.2.2.2.1 0 6) (ordW G qo z71.2.2.2.2.2.2.2.1) (clubW G qt z71.2.2.2.2.2.2.2.2) (refW G qr z73)).symm hP
        have hD := SW.D (sw_12_11 (hamW G qm qa0 qh qo qt) (staW G qa0 qa1 qa2 qa4) (clubW G qa1 z71.1) (snpW G qa2 qa3 z71.2.1) (clubW G qa3 z71.2.2.1) (snpW G qa4 qa5 z71.2.2.2.1) (clubW G qa5 z71.2.2.2.2.1) (hisW G qh af z71.2.2.2.2.2.1) (frW G af z71.2.2.2.2.2.2.1 0 6) (ordW G qo z71.2.2.2.2.2.2.2.1) (clubW G qt z71.2.2.2.2.2.2.2.2) (refW G qr z73)).symm hD
        refine lv_icmp_eq (tgt := 756) hx hb d_Law_law_484 (by decide) (fun hc => ?_) (fun hc => ?_)
        · have h := h.1 hc
          obtain ⟨x75, ex75⟩ : ∃ y : Int32, y = a3 + 4 := ⟨_, rfl⟩
          have h := h x75 ex75
          refine lv_iinc (v := x75) (lv' := [(3, .int x75), (0, .ref b), (1, .ref (qm 0)), (2, .ref (qr 0))]) hx hb d_Law_law_756 hl (k := 3) rfl (by rw [ex75]; rfl) (by decide) rfl (fun ls hl => ?_)
          refine lv_goto (tgt := 18) hx hb d_Law_law_759 (by decide) ?_
          exact ih x75 (z71.1, z71.2.1, z71.2.2.1, z71.2.2.2.1, z71.2.2.2.2.1, z71.2.2.2.2.2.1, z71.2.2.2.2.2.2.1, z71.2.2.2.2.2.2.2.1, z71.2.2.2.2.2.2.2.2, z73) h _ _ _ hP hD hS (lv_sub hl [1, 2, 3, 0] rfl)
        · have h := h.2 hc
          refine lv_iconst (v := 0) hx hb d_Law_law_487 (by decide) ?_
          exact h.elim
      by_cases hc15 : ((xs a3.toNatClampNeg) &&& 31) = 15
      · have h := h.2.2.2.2.2.2.2.2.2.2.2.2.2.2.2.1 hc15
        refine lv_tableIn (off := 457) (tgt := 489) hx hb d_Law_law_32 (by rw [hc15]; decide) (by rw [hc15]; decide) (by rw [hc15]; rfl) (by decide) ?_
        refine lv_aload_n hx hb d_Law_law_489 rfl (lv_at hl 1 rfl) ?_
        have hP := SW.P (sw_12_0_1_2_3_4_5_6_7_8_9_10 (hamW G qm qa0 qh qo qt) (staW G qa0 qa1 qa2 qa4) (clubW G qa1 u.1) (snpW G qa2 qa3 u.2.1) (clubW G qa3 u.2.2.1) (snpW G qa4 qa5 u.2.2.2.1) (clubW G qa5 u.2.2.2.2.1) (hisW G qh af u.2.2.2.2.2.1) (frW G af u.2.2.2.2.2.2.1 0 6) (ordW G qo u.2.2.2.2.2.2.2.1) (clubW G qt u.2.2.2.2.2.2.2.2.1) (refW G qr u.2.2.2.2.2.2.2.2.2)) hP
        have hD := SW.D (sw_12_0_1_2_3_4_5_6_7_8_9_10 (hamW G qm qa0 qh qo qt) (staW G qa0 qa1 qa2 qa4) (clubW G qa1 u.1) (snpW G qa2 qa3 u.2.1) (clubW G qa3 u.2.2.1) (snpW G qa4 qa5 u.2.2.2.1) (clubW G qa5 u.2.2.2.2.1) (hisW G qh af u.2.2.2.2.2.1) (frW G af u.2.2.2.2.2.2.1 0 6) (ordW G qo u.2.2.2.2.2.2.2.1) (clubW G qt u.2.2.2.2.2.2.2.2.1) (refW G qr u.2.2.2.2.2.2.2.2.2)) hD
        refine call_ViP (own := "HamperClubLaw") (As := []) (rest := []) (q0 := 0) (ci := 8) (wc := hamW G qm qa0 qh qo qt ++ (staW G qa0 qa1 qa2 qa4 ++ (clubW G qa1 u.1 ++ (snpW G qa2 qa3 u.2.1 ++ (clubW G qa3 u.2.2.1 ++ (snpW G qa4 qa5 u.2.2.2.1 ++ (clubW G qa5 u.2.2.2.2.1 ++ (hisW G qh af u.2.2.2.2.2.1 ++ (frW G af u.2.2.2.2.2.2.1 0 6 ++ (ordW G qo u.2.2.2.2.2.2.2.1 ++ clubW G qt u.2.2.2.2.2.2.2.2.1)))))))))) (post := refW G qr u.2.2.2.2.2.2.2.2.2) hx hb hml hts hown hK hA hP hD hS ok_Law_77 rfl ⟨Nat.le_of_ble_eq_true rfl, Nat.le_of_ble_eq_true rfl⟩ ⟨hcs1, hcs2⟩ rfl rfl rfl hl.1 rfl (Nat.le_of_ble_eq_true rfl) d_Law_law_490 (c_Ham_carryOut l G qm qa0 qa1 qa2 qa3 qa4 qa5 qh qo qt af _ (u.1, u.2.1, u.2.2.1, u.2.2.2.1, u.2.2.2.2.1, u.2.2.2.2.2.1, u.2.2.2.2.2.2.1, u.2.2.2.2.2.2.2.1, u.2.2.2.2.2.2.2.2.1)  _ h) (fun x77 z76 H locs h hP hD hS => ?_)
        have hP := SW.P (sw_12_0_1_2_3_4_5_6_7_8_9_10 (hamW G qm qa0 qh qo qt) (staW G qa0 qa1 qa2 qa4) (clubW G qa1 z76.1) (snpW G qa2 qa3 z76.2.1) (clubW G qa3 z76.2.2.1) (snpW G qa4 qa5 z76.2.2.2.1) (clubW G qa5 z76.2.2.2.2.1) (hisW G qh af z76.2.2.2.2.2.1) (frW G af z76.2.2.2.2.2.2.1 0 6) (ordW G qo z76.2.2.2.2.2.2.2.1) (clubW G qt z76.2.2.2.2.2.2.2.2) (refW G qr u.2.2.2.2.2.2.2.2.2)).symm hP
        have hD := SW.D (sw_12_0_1_2_3_4_5_6_7_8_9_10 (hamW G qm qa0 qh qo qt) (staW G qa0 qa1 qa2 qa4) (clubW G qa1 z76.1) (snpW G qa2 qa3 z76.2.1) (clubW G qa3 z76.2.2.1) (snpW G qa4 qa5 z76.2.2.2.1) (clubW G qa5 z76.2.2.2.2.1) (hisW G qh af z76.2.2.2.2.2.1) (frW G af z76.2.2.2.2.2.2.1 0 6) (ordW G qo z76.2.2.2.2.2.2.2.1) (clubW G qt z76.2.2.2.2.2.2.2.2) (refW G qr u.2.2.2.2.2.2.2.2.2)).symm hD
        refine lv_aload_n hx hb d_Law_law_493 rfl (lv_at hl 2 rfl) ?_
        have hP := SW.P (sw_12_11 (hamW G qm qa0 qh qo qt) (staW G qa0 qa1 qa2 qa4) (clubW G qa1 z76.1) (snpW G qa2 qa3 z76.2.1) (clubW G qa3 z76.2.2.1) (snpW G qa4 qa5 z76.2.2.2.1) (clubW G qa5 z76.2.2.2.2.1) (hisW G qh af z76.2.2.2.2.2.1) (frW G af z76.2.2.2.2.2.2.1 0 6) (ordW G qo z76.2.2.2.2.2.2.2.1) (clubW G qt z76.2.2.2.2.2.2.2.2) (refW G qr u.2.2.2.2.2.2.2.2.2)) hP
        have hD := SW.D (sw_12_11 (hamW G qm qa0 qh qo qt) (staW G qa0 qa1 qa2 qa4) (clubW G qa1 z76.1) (snpW G qa2 qa3 z76.2.1) (clubW G qa3 z76.2.2.1) (snpW G qa4 qa5 z76.2.2.2.1) (clubW G qa5 z76.2.2.2.2.1) (hisW G qh af z76.2.2.2.2.2.1) (frW G af z76.2.2.2.2.2.2.1 0 6) (ordW G qo z76.2.2.2.2.2.2.2.1) (clubW G qt z76.2.2.2.2.2.2.2.2) (refW G qr u.2.2.2.2.2.2.2.2.2)) hD
        refine call_ViP (own := "HamperClubLaw") (As := []) (rest := [.int x77]) (q0 := 0) (ci := 9) (wc := refW G qr u.2.2.2.2.2.2.2.2.2) (post := hamW G qm qa0 qh qo qt ++ (staW G qa0 qa1 qa2 qa4 ++ (clubW G qa1 z76.1 ++ (snpW G qa2 qa3 z76.2.1 ++ (clubW G qa3 z76.2.2.1 ++ (snpW G qa4 qa5 z76.2.2.2.1 ++ (clubW G qa5 z76.2.2.2.2.1 ++ (hisW G qh af z76.2.2.2.2.2.1 ++ (frW G af z76.2.2.2.2.2.2.1 0 6 ++ (ordW G qo z76.2.2.2.2.2.2.2.1 ++ clubW G qt z76.2.2.2.2.2.2.2.2)))))))))) hx hb hml hts hown hK hA hP hD hS ok_Law_80 rfl ⟨Nat.le_of_ble_eq_true rfl, Nat.le_of_ble_eq_true rfl⟩ ⟨hcs1, hcs2⟩ rfl rfl rfl hl.1 rfl (Nat.le_of_ble_eq_true rfl) d_Law_law_494 (c_Mod_carryOut l G qr _ u.2.2.2.2.2.2.2.2.2  _ h) (fun x79 z78 H locs h hP hD hS => ?_)
        have hP := SW.P (sw_12_11 (hamW G qm qa0 qh qo qt) (staW G qa0 qa1 qa2 qa4) (clubW G qa1 z76.1) (snpW G qa2 qa3 z76.2.1) (clubW G qa3 z76.2.2.1) (snpW G qa4 qa5 z76.2.2.2.1) (clubW G qa5 z76.2.2.2.2.1) (hisW G qh af z76.2.2.2.2.2.1) (frW G af z76.2.2.2.2.2.2.1 0 6) (ordW G qo z76.2.2.2.2.2.2.2.1) (clubW G qt z76.2.2.2.2.2.2.2.2) (refW G qr z78)).symm hP
        have hD := SW.D (sw_12_11 (hamW G qm qa0 qh qo qt) (staW G qa0 qa1 qa2 qa4) (clubW G qa1 z76.1) (snpW G qa2 qa3 z76.2.1) (clubW G qa3 z76.2.2.1) (snpW G qa4 qa5 z76.2.2.2.1) (clubW G qa5 z76.2.2.2.2.1) (hisW G qh af z76.2.2.2.2.2.1) (frW G af z76.2.2.2.2.2.2.1 0 6) (ordW G qo z76.2.2.2.2.2.2.2.1) (clubW G qt z76.2.2.2.2.2.2.2.2) (refW G qr z78)).symm hD
        refine lv_icmp_eq (tgt := 756) hx hb d_Law_law_497 (by decide) (fun hc => ?_) (fun hc => ?_)
        · have h := h.1 hc
          obtain ⟨x80, ex80⟩ : ∃ y : Int32, y = a3 + 4 := ⟨_, rfl⟩
          have h := h x80 ex80
          refine lv_iinc (v := x80) (lv' := [(3, .int x80), (0, .ref b), (1, .ref (qm 0)), (2, .ref (qr 0))]) hx hb d_Law_law_756 hl (k := 3) rfl (by rw [ex80]; rfl) (by decide) rfl (fun ls hl => ?_)
          refine lv_goto (tgt := 18) hx hb d_Law_law_759 (by decide) ?_
          exact ih x80 (z76.1, z76.2.1, z76.2.2.1, z76.2.2.2.1, z76.2.2.2.2.1, z76.2.2.2.2.2.1, z76.2.2.2.2.2.2.1, z76.2.2.2.2.2.2.2.1, z76.2.2.2.2.2.2.2.2, z78) h _ _ _ hP hD hS (lv_sub hl [1, 2, 3, 0] rfl)
        · have h := h.2 hc
          refine lv_iconst (v := 0) hx hb d_Law_law_500 (by decide) ?_
          exact h.elim
      by_cases hc16 : ((xs a3.toNatClampNeg) &&& 31) = 16
      · have h := h.2.2.2.2.2.2.2.2.2.2.2.2.2.2.2.2.1 hc16
        refine lv_tableIn (off := 470) (tgt := 502) hx hb d_Law_law_32 (by rw [hc16]; decide) (by rw [hc16]; decide) (by rw [hc16]; rfl) (by decide) ?_
        refine lv_aload_n hx hb d_Law_law_502 rfl (lv_at hl 1 rfl) ?_
        refine lv_aload_n hx hb d_Law_law_503 rfl (lv_at hl 0 rfl) ?_
        refine lv_iload_n hx hb d_Law_law_504 rfl (lv_at hl 3 rfl) ?_
        refine lv_iconst (v := 1) hx hb d_Law_law_505 (by decide) ?_
        refine lv_iadd hx hb d_Law_law_506 ?_
        obtain ⟨hi, h⟩ := h
        refine va_sld hx hb hX hbl hbA hS hi d_Law_law_507 ?_
        have hP := SW.P (sw_12_0_1_2_3_4_5_6_7_8_9_10 (hamW G qm qa0 qh qo qt) (staW G qa0 qa1 qa2 qa4) (clubW G qa1 u.1) (snpW G qa2 qa3 u.2.1) (clubW G qa3 u.2.2.1) (snpW G qa4 qa5 u.2.2.2.1) (clubW G qa5 u.2.2.2.2.1) (hisW G qh af u.2.2.2.2.2.1) (frW G af u.2.2.2.2.2.2.1 0 6) (ordW G qo u.2.2.2.2.2.2.2.1) (clubW G qt u.2.2.2.2.2.2.2.2.1) (refW G qr u.2.2.2.2.2.2.2.2.2)) hP
        have hD := SW.D (sw_12_0_1_2_3_4_5_6_7_8_9_10 (hamW G qm qa0 qh qo qt) (staW G qa0 qa1 qa2 qa4) (clubW G qa1 u.1) (snpW G qa2 qa3 u.2.1) (clubW G qa3 u.2.2.1) (snpW G qa4 qa5 u.2.2.2.1) (clubW G qa5 u.2.2.2.2.1) (hisW G qh af u.2.2.2.2.2.1) (frW G af u.2.2.2.2.2.2.1 0 6) (ordW G qo u.2.2.2.2.2.2.2.1) (clubW G qt u.2.2.2.2.2.2.2.2.1) (refW G qr u.2.2.2.2.2.2.2.2.2)) hD
        refine call_ViP (own := "HamperClubLaw") (As := [.int (xs (a3 + 1).toNatClampNeg)]) (rest := []) (q0 := 0) (ci := 8) (wc := hamW G qm qa0 qh qo qt ++ (staW G qa0 qa1 qa2 qa4 ++ (clubW G qa1 u.1 ++ (snpW G qa2 qa3 u.2.1 ++ (clubW G qa3 u.2.2.1 ++ (snpW G qa4 qa5 u.2.2.2.1 ++ (clubW G qa5 u.2.2.2.2.1 ++ (hisW G qh af u.2.2.2.2.2.1 ++ (frW G af u.2.2.2.2.2.2.1 0 6 ++ (ordW G qo u.2.2.2.2.2.2.2.1 ++ clubW G qt u.2.2.2.2.2.2.2.2.1)))))))))) (post := refW G qr u.2.2.2.2.2.2.2.2.2) hx hb hml hts hown hK hA hP hD hS ok_Law_81 rfl ⟨Nat.le_of_ble_eq_true rfl, Nat.le_of_ble_eq_true rfl⟩ ⟨hcs1, hcs2⟩ rfl rfl rfl hl.1 rfl (Nat.le_of_ble_eq_true rfl) d_Law_law_508 (c_Ham_count l G qm qa0 qa1 qa2 qa3 qa4 qa5 qh qo qt af _ (u.1, u.2.1, u.2.2.1, u.2.2.2.1, u.2.2.2.2.1, u.2.2.2.2.2.1, u.2.2.2.2.2.2.1, u.2.2.2.2.2.2.2.1, u.2.2.2.2.2.2.2.2.1) (xs (a3 + 1).toNatClampNeg) _ h) (fun x82 z81 H locs h hP hD hS => ?_)
        have hP := SW.P (sw_12_0_1_2_3_4_5_6_7_8_9_10 (hamW G qm qa0 qh qo qt) (staW G qa0 qa1 qa2 qa4) (clubW G qa1 z81.1) (snpW G qa2 qa3 z81.2.1) (clubW G qa3 z81.2.2.1) (snpW G qa4 qa5 z81.2.2.2.1) (clubW G qa5 z81.2.2.2.2.1) (hisW G qh af z81.2.2.2.2.2.1) (frW G af z81.2.2.2.2.2.2.1 0 6) (ordW G qo z81.2.2.2.2.2.2.2.1) (clubW G qt z81.2.2.2.2.2.2.2.2) (refW G qr u.2.2.2.2.2.2.2.2.2)).symm hP
        have hD := SW.D (sw_12_0_1_2_3_4_5_6_7_8_9_10 (hamW G qm qa0 qh qo qt) (staW G qa0 qa1 qa2 qa4) (clubW G qa1 z81.1) (snpW G qa2 qa3 z81.2.1) (clubW G qa3 z81.2.2.1) (snpW G qa4 qa5 z81.2.2.2.1) (clubW G qa5 z81.2.2.2.2.1) (hisW G qh af z81.2.2.2.2.2.1) (frW G af z81.2.2.2.2.2.2.1 0 6) (ordW G qo z81.2.2.2.2.2.2.2.1) (clubW G qt z81.2.2.2.2.2.2.2.2) (refW G qr u.2.2.2.2.2.2.2.2.2)).symm hD
        refine lv_aload_n hx hb d_Law_law_511 rfl (lv_at hl 2 rfl) ?_
        refine lv_aload_n hx hb d_Law_law_512 rfl (lv_at hl 0 rfl) ?_
        refine lv_iload_n hx hb d_Law_law_513 rfl (lv_at hl 3 rfl) ?_
        refine lv_iconst (v := 1) hx hb d_Law_law_514 (by decide) ?_
        refine lv_iadd hx hb d_Law_law_515 ?_
        obtain ⟨hi, h⟩ := h
        refine va_sld hx hb hX hbl hbA hS hi d_Law_law_516 ?_
        have hP := SW.P (sw_12_11 (hamW G qm qa0 qh qo qt) (staW G qa0 qa1 qa2 qa4) (clubW G qa1 z81.1) (snpW G qa2 qa3 z81.2.1) (clubW G qa3 z81.2.2.1) (snpW G qa4 qa5 z81.2.2.2.1) (clubW G qa5 z81.2.2.2.2.1) (hisW G qh af z81.2.2.2.2.2.1) (frW G af z81.2.2.2.2.2.2.1 0 6) (ordW G qo z81.2.2.2.2.2.2.2.1) (clubW G qt z81.2.2.2.2.2.2.2.2) (refW G qr u.2.2.2.2.2.2.2.2.2)) hP
        have hD := SW.D (sw_12_11 (hamW G qm qa0 qh qo qt) (staW G qa0 qa1 qa2 qa4) (clubW G qa1 z81.1) (snpW G qa2 qa3 z81.2.1) (clubW G qa3 z81.2.2.1) (snpW G qa4 qa5 z81.2.2.2.1) (clubW G qa5 z81.2.2.2.2.1) (hisW G qh af z81.2.2.2.2.2.1) (frW G af z81.2.2.2.2.2.2.1 0 6) (ordW G qo z81.2.2.2.2.2.2.2.1) (clubW G qt z81.2.2.2.2.2.2.2.2) (refW G qr u.2.2.2.2.2.2.2.2.2)) hD
        refine call_ViP (own := "HamperClubLaw") (As := [.int (xs (a3 + 1).toNatClampNeg)]) (rest := [.int x82]) (q0 := 0) (ci := 9) (wc := refW G qr u.2.2.2.2.2.2.2.2.2) (post := hamW G qm qa0 qh qo qt ++ (staW G qa0 qa1 qa2 qa4 ++ (clubW G qa1 z81.1 ++ (snpW G qa2 qa3 z81.2.1 ++ (clubW G qa3 z81.2.2.1 ++ (snpW G qa4 qa5 z81.2.2.2.1 ++ (clubW G qa5 z81.2.2.2.2.1 ++ (hisW G qh af z81.2.2.2.2.2.1 ++ (frW G af z81.2.2.2.2.2.2.1 0 6 ++ (ordW G qo z81.2.2.2.2.2.2.2.1 ++ clubW G qt z81.2.2.2.2.2.2.2.2)))))))))) hx hb hml hts hown hK hA hP hD hS ok_Law_84 rfl ⟨Nat.le_of_ble_eq_true rfl, Nat.le_of_ble_eq_true rfl⟩ ⟨hcs1, hcs2⟩ rfl rfl rfl hl.1 rfl (Nat.le_of_ble_eq_true rfl) d_Law_law_517 (c_Mod_count l G qr _ u.2.2.2.2.2.2.2.2.2 (xs (a3 + 1).toNatClampNeg) _ h) (fun x84 z83 H locs h hP hD hS => ?_)
        have hP := SW.P (sw_12_11 (hamW G qm qa0 qh qo qt) (staW G qa0 qa1 qa2 qa4) (clubW G qa1 z81.1) (snpW G qa2 qa3 z81.2.1) (clubW G qa3 z81.2.2.1) (snpW G qa4 qa5 z81.2.2.2.1) (clubW G qa5 z81.2.2.2.2.1) (hisW G qh af z81.2.2.2.2.2.1) (frW G af z81.2.2.2.2.2.2.1 0 6) (ordW G qo z81.2.2.2.2.2.2.2.1) (clubW G qt z81.2.2.2.2.2.2.2.2) (refW G qr z83)).symm hP
        have hD := SW.D (sw_12_11 (hamW G qm qa0 qh qo qt) (staW G qa0 qa1 qa2 qa4) (clubW G qa1 z81.1) (snpW G qa2 qa3 z81.2.1) (clubW G qa3 z81.2.2.1) (snpW G qa4 qa5 z81.2.2.2.1) (clubW G qa5 z81.2.2.2.2.1) (hisW G qh af z81.2.2.2.2.2.1) (frW G af z81.2.2.2.2.2.2.1 0 6) (ordW G qo z81.2.2.2.2.2.2.2.1) (clubW G qt z81.2.2.2.2.2.2.2.2) (refW G qr z83)).symm hD
        refine lv_icmp_eq (tgt := 756) hx hb d_Law_law_520 (by decide) (fun hc => ?_) (fun hc => ?_)
        · have h := h.1 hc
          obtain ⟨x85, ex85⟩ : ∃ y : Int32, y = a3 + 4 := ⟨_, rfl⟩
          have h := h x85 ex85
          refine lv_iinc (v := x85) (lv' := [(3, .int x85), (0, .ref b), (1, .ref (qm 0)), (2, .ref (qr 0))]) hx hb d_Law_law_756 hl (k := 3) rfl (by rw [ex85]; rfl) (by decide) rfl (fun ls hl => ?_)
          refine lv_goto (tgt := 18) hx hb d_Law_law_759 (by decide) ?_
          exact ih x85 (z81.1, z81.2.1, z81.2.2.1, z81.2.2.2.1, z81.2.2.2.2.1, z81.2.2.2.2.2.1, z81.2.2.2.2.2.2.1, z81.2.2.2.2.2.2.2.1, z81.2.2.2.2.2.2.2.2, z83) h _ _ _ hP hD hS (lv_sub hl [1, 2, 3, 0] rfl)
        · have h := h.2 hc
          refine lv_iconst (v := 0) hx hb d_Law_law_523 (by decide) ?_
          exact h.elim
      by_cases hc17 : ((xs a3.toNatClampNeg) &&& 31) = 17
      · have h := h.2.2.2.2.2.2.2.2.2.2.2.2.2.2.2.2.2.1 hc17
        refine lv_tableIn (off := 493) (tgt := 525) hx hb d_Law_law_32 (by rw [hc17]; decide) (by rw [hc17]; decide) (by rw [hc17]; rfl) (by decide) ?_
        refine lv_aload_n hx hb d_Law_law_525 rfl (lv_at hl 1 rfl) ?_
        refine lv_aload_n hx hb d_Law_law_526 rfl (lv_at hl 0 rfl) ?_
        refine lv_iload_n hx hb d_Law_law_527 rfl (lv_at hl 3 rfl) ?_
        refine lv_iconst (v := 1) hx hb d_Law_law_528 (by decide) ?_
        refine lv_iadd hx hb d_Law_law_529 ?_
        obtain ⟨hi, h⟩ := h
        refine va_sld hx hb hX hbl hbA hS hi d_Law_law_530 ?_
        refine lv_aload_n hx hb d_Law_law_531 rfl (lv_at hl 0 rfl) ?_
        refine lv_iload_n hx hb d_Law_law_532 rfl (lv_at hl 3 rfl) ?_
        refine lv_iconst (v := 2) hx hb d_Law_law_533 (by decide) ?_
        refine lv_iadd hx hb d_Law_law_534 ?_
        obtain ⟨hi, h⟩ := h
        refine va_sld hx hb hX hbl hbA hS hi d_Law_law_535 ?_
        have hP := SW.P (sw_12_0_1_2_3_4_5_6_7_8_9_10 (hamW G qm qa0 qh qo qt) (staW G qa0 qa1 qa2 qa4) (clubW G qa1 u.1) (snpW G qa2 qa3 u.2.1) (clubW G qa3 u.2.2.1) (snpW G qa4 qa5 u.2.2.2.1) (clubW G qa5 u.2.2.2.2.1) (hisW G qh af u.2.2.2.2.2.1) (frW G af u.2.2.2.2.2.2.1 0 6) (ordW G qo u.2.2.2.2.2.2.2.1) (clubW G qt u.2.2.2.2.2.2.2.2.1) (refW G qr u.2.2.2.2.2.2.2.2.2)) hP
        have hD := SW.D (sw_12_0_1_2_3_4_5_6_7_8_9_10 (hamW G qm qa0 qh qo qt) (staW G qa0 qa1 qa2 qa4) (clubW G qa1 u.1) (snpW G qa2 qa3 u.2.1) (clubW G qa3 u.2.2.1) (snpW G qa4 qa5 u.2.2.2.1) (clubW G qa5 u.2.2.2.2.1) (hisW G qh af u.2.2.2.2.2.1) (frW G af u.2.2.2.2.2.2.1 0 6) (ordW G qo u.2.2.2.2.2.2.2.1) (clubW G qt u.2.2.2.2.2.2.2.2.1) (refW G qr u.2.2.2.2.2.2.2.2.2)) hD
        refine call_ViP (own := "HamperClubLaw") (As := [.int (xs (a3 + 1).toNatClampNeg), .int (xs (a3 + 2).toNatClampNeg)]) (rest := []) (q0 := 0) (ci := 8) (wc := hamW G qm qa0 qh qo qt ++ (staW G qa0 qa1 qa2 qa4 ++ (clubW G qa1 u.1 ++ (snpW G qa2 qa3 u.2.1 ++ (clubW G qa3 u.2.2.1 ++ (snpW G qa4 qa5 u.2.2.2.1 ++ (clubW G qa5 u.2.2.2.2.1 ++ (hisW G qh af u.2.2.2.2.2.1 ++ (frW G af u.2.2.2.2.2.2.1 0 6 ++ (ordW G qo u.2.2.2.2.2.2.2.1 ++ clubW G qt u.2.2.2.2.2.2.2.2.1)))))))))) (post := refW G qr u.2.2.2.2.2.2.2.2.2) hx hb hml hts hown hK hA hP hD hS ok_Law_85 rfl ⟨Nat.le_of_ble_eq_true rfl, Nat.le_of_ble_eq_true rfl⟩ ⟨hcs1, hcs2⟩ rfl rfl rfl hl.1 rfl (Nat.le_of_ble_eq_true rfl) d_Law_law_536 (c_Ham_member l G qm qa0 qa1 qa2 qa3 qa4 qa5 qh qo qt af _ (u.1, u.2.1, u.2.2.1, u.2.2.2.1, u.2.2.2.2.1, u.2.2.2.2.2.1, u.2.2.2.2.2.2.1, u.2.2.2.2.2.2.2.1, u.2.2.2.2.2.2.2.2.1) (xs (a3 + 1).toNatClampNeg) (xs (a3 + 2).toNatClampNeg) _ h) (fun x87 z86 H locs h hP hD hS => ?_)
        have hP := SW.P (sw_12_0_1_2_3_4_5_6_7_8_9_10 (hamW G qm qa0 qh qo qt) (staW G qa0 qa1 qa2 qa4) (clubW G qa1 z86.1) (snpW G qa2 qa3 z86.2.1) (clubW G qa3 z86.2.2.1) (snpW G qa4 qa5 z86.2.2.2.1) (clubW G qa5 z86.2.2.2.2.1) (hisW G qh af z86.2.2.2.2.2.1) (frW G af z86.2.2.2.2.2.2.1 0 6) (ordW G qo z86.2.2.2.2.2.2.2.1) (clubW G qt z86.2.2.2.2.2.2.2.2) (refW G qr u.2.2.2.2.2.2.2.2.2)).symm hP
        have hD := SW.D (sw_12_0_1_2_3_4_5_6_7_8_9_10 (hamW G qm qa0 qh qo qt) (staW G qa0 qa1 qa2 qa4) (clubW G qa1 z86.1) (snpW G qa2 qa3 z86.2.1) (clubW G qa3 z86.2.2.1) (snpW G qa4 qa5 z86.2.2.2.1) (clubW G qa5 z86.2.2.2.2.1) (hisW G qh af z86.2.2.2.2.2.1) (frW G af z86.2.2.2.2.2.2.1 0 6) (ordW G qo z86.2.2.2.2.2.2.2.1) (clubW G qt z86.2.2.2.2.2.2.2.2) (refW G qr u.2.2.2.2.2.2.2.2.2)).symm hD
        refine lv_aload_n hx hb d_Law_law_539 rfl (lv_at hl 2 rfl) ?_
        refine lv_aload_n hx hb d_Law_law_540 rfl (lv_at hl 0 rfl) ?_
        refine lv_iload_n hx hb d_Law_law_541 rfl (lv_at hl 3 rfl) ?_
        refine lv_iconst (v := 1) hx hb d_Law_law_542 (by decide) ?_
        refine lv_iadd hx hb d_Law_law_543 ?_
        obtain ⟨hi, h⟩ := h
        refine va_sld hx hb hX hbl hbA hS hi d_Law_law_544 ?_
        refine lv_aload_n hx hb d_Law_law_545 rfl (lv_at hl 0 rfl) ?_
        refine lv_iload_n hx hb d_Law_law_546 rfl (lv_at hl 3 rfl) ?_
        refine lv_iconst (v := 2) hx hb d_Law_law_547 (by decide) ?_
        refine lv_iadd hx hb d_Law_law_548 ?_
        obtain ⟨hi, h⟩ := h
        refine va_sld hx hb hX hbl hbA hS hi d_Law_law_549 ?_
        have hP := SW.P (sw_12_11 (hamW G qm qa0 qh qo qt) (staW G qa0 qa1 qa2 qa4) (clubW G qa1 z86.1) (snpW G qa2 qa3 z86.2.1) (clubW G qa3 z86.2.2.1) (snpW G qa4 qa5 z86.2.2.2.1) (clubW G qa5 z86.2.2.2.2.1) (hisW G qh af z86.2.2.2.2.2.1) (frW G af z86.2.2.2.2.2.2.1 0 6) (ordW G qo z86.2.2.2.2.2.2.2.1) (clubW G qt z86.2.2.2.2.2.2.2.2) (refW G qr u.2.2.2.2.2.2.2.2.2)) hP
        have hD := SW.D (sw_12_11 (hamW G qm qa0 qh qo qt) (staW G qa0 qa1 qa2 qa4) (clubW G qa1 z86.1) (snpW G qa2 qa3 z86.2.1) (clubW G qa3 z86.2.2.1) (snpW G qa4 qa5 z86.2.2.2.1) (clubW G qa5 z86.2.2.2.2.1) (hisW G qh af z86.2.2.2.2.2.1) (frW G af z86.2.2.2.2.2.2.1 0 6) (ordW G qo z86.2.2.2.2.2.2.2.1) (clubW G qt z86.2.2.2.2.2.2.2.2) (refW G qr u.2.2.2.2.2.2.2.2.2)) hD
        refine call_ViP (own := "HamperClubLaw") (As := [.int (xs (a3 + 1).toNatClampNeg), .int (xs (a3 + 2).toNatClampNeg)]) (rest := [.int x87]) (q0 := 0) (ci := 9) (wc := refW G qr u.2.2.2.2.2.2.2.2.2) (post := hamW G qm qa0 qh qo qt ++ (staW G qa0 qa1 qa2 qa4 ++ (clubW G qa1 z86.1 ++ (snpW G qa2 qa3 z86.2.1 ++ (clubW G qa3 z86.2.2.1 ++ (snpW G qa4 qa5 z86.2.2.2.1 ++ (clubW G qa5 z86.2.2.2.2.1 ++ (hisW G qh af z86.2.2.2.2.2.1 ++ (frW G af z86.2.2.2.2.2.2.1 0 6 ++ (ordW G qo z86.2.2.2.2.2.2.2.1 ++ clubW G qt z86.2.2.2.2.2.2.2.2)))))))))) hx hb hml hts hown hK hA hP hD hS ok_Law_88 rfl ⟨Nat.le_of_ble_eq_true rfl, Nat.le_of_ble_eq_true rfl⟩ ⟨hcs1, hcs2⟩ rfl rfl rfl hl.1 rfl (Nat.le_of_ble_eq_true rfl) d_Law_law_550 (c_Mod_member l G qr _ u.2.2.2.2.2.2.2.2.2 (xs (a3 + 1).toNatClampNeg) (xs (a3 + 2).toNatClampNeg) _ h) (fun x89 z88 H locs h hP hD hS => ?_)
        have hP := SW.P (sw_12_11 (hamW G qm qa0 qh qo qt) (staW G qa0 qa1 qa2 qa4) (clubW G qa1 z86.1) (snpW G qa2 qa3 z86.2.1) (clubW G qa3 z86.2.2.1) (snpW G qa4 qa5 z86.2.2.2.1) (clubW G qa5 z86.2.2.2.2.1) (hisW G qh af z86.2.2.2.2.2.1) (frW G af z86.2.2.2.2.2.2.1 0 6) (ordW G qo z86.2.2.2.2.2.2.2.1) (clubW G qt z86.2.2.2.2.2.2.2.2) (refW G qr z88)).symm hP
        have hD := SW.D (sw_12_11 (hamW G qm qa0 qh qo qt) (staW G qa0 qa1 qa2 qa4) (clubW G qa1 z86.1) (snpW G qa2 qa3 z86.2.1) (clubW G qa3 z86.2.2.1) (snpW G qa4 qa5 z86.2.2.2.1) (clubW G qa5 z86.2.2.2.2.1) (hisW G qh af z86.2.2.2.2.2.1) (frW G af z86.2.2.2.2.2.2.1 0 6) (ordW G qo z86.2.2.2.2.2.2.2.1) (clubW G qt z86.2.2.2.2.2.2.2.2) (refW G qr z88)).symm hD
        refine lv_icmp_eq (tgt := 756) hx hb d_Law_law_553 (by decide) (fun hc => ?_) (fun hc => ?_)
        · have h := h.1 hc
          obtain ⟨x90, ex90⟩ : ∃ y : Int32, y = a3 + 4 := ⟨_, rfl⟩
          have h := h x90 ex90
          refine lv_iinc (v := x90) (lv' := [(3, .int x90), (0, .ref b), (1, .ref (qm 0)), (2, .ref (qr 0))]) hx hb d_Law_law_756 hl (k := 3) rfl (by rw [ex90]; rfl) (by decide) rfl (fun ls hl => ?_)
          refine lv_goto (tgt := 18) hx hb d_Law_law_759 (by decide) ?_
          exact ih x90 (z86.1, z86.2.1, z86.2.2.1, z86.2.2.2.1, z86.2.2.2.2.1, z86.2.2.2.2.2.1, z86.2.2.2.2.2.2.1, z86.2.2.2.2.2.2.2.1, z86.2.2.2.2.2.2.2.2, z88) h _ _ _ hP hD hS (lv_sub hl [1, 2, 3, 0] rfl)
        · have h := h.2 hc
          refine lv_iconst (v := 0) hx hb d_Law_law_556 (by decide) ?_
          exact h.elim
      by_cases hc18 : ((xs a3.toNatClampNeg) &&& 31) = 18
      · have h := h.2.2.2.2.2.2.2.2.2.2.2.2.2.2.2.2.2.2.1 hc18
        refine lv_tableIn (off := 526) (tgt := 558) hx hb d_Law_law_32 (by rw [hc18]; decide) (by rw [hc18]; decide) (by rw [hc18]; rfl) (by decide) ?_
        refine lv_aload_n hx hb d_Law_law_558 rfl (lv_at hl 1 rfl) ?_
        refine lv_aload_n hx hb d_Law_law_559 rfl (lv_at hl 0 rfl) ?_
        refine lv_iload_n hx hb d_Law_law_560 rfl (lv_at hl 3 rfl) ?_
        refine lv_iconst (v := 1) hx hb d_Law_law_561 (by decide) ?_
        refine lv_iadd hx hb d_Law_law_562 ?_
        obtain ⟨hi, h⟩ := h
        refine va_sld hx hb hX hbl hbA hS hi d_Law_law_563 ?_
        refine lv_aload_n hx hb d_Law_law_564 rfl (lv_at hl 0 rfl) ?_
        refine lv_iload_n hx hb d_Law_law_565 rfl (lv_at hl 3 rfl) ?_
        refine lv_iconst (v := 2) hx hb d_Law_law_566 (by decide) ?_
        refine lv_iadd hx hb d_Law_law_567 ?_
        obtain ⟨hi, h⟩ := h
        refine va_sld hx hb hX hbl hbA hS hi d_Law_law_568 ?_
        have hP := SW.P (sw_12_0_1_2_3_4_5_6_7_8_9_10 (hamW G qm qa0 qh qo qt) (staW G qa0 qa1 qa2 qa4) (clubW G qa1 u.1) (snpW G qa2 qa3 u.2.1) (clubW G qa3 u.2.2.1) (snpW G qa4 qa5 u.2.2.2.1) (clubW G qa5 u.2.2.2.2.1) (hisW G qh af u.2.2.2.2.2.1) (frW G af u.2.2.2.2.2.2.1 0 6) (ordW G qo u.2.2.2.2.2.2.2.1) (clubW G qt u.2.2.2.2.2.2.2.2.1) (refW G qr u.2.2.2.2.2.2.2.2.2)) hP
        have hD := SW.D (sw_12_0_1_2_3_4_5_6_7_8_9_10 (hamW G qm qa0 qh qo qt) (staW G qa0 qa1 qa2 qa4) (clubW G qa1 u.1) (snpW G qa2 qa3 u.2.1) (clubW G qa3 u.2.2.1) (snpW G qa4 qa5 u.2.2.2.1) (clubW G qa5 u.2.2.2.2.1) (hisW G qh af u.2.2.2.2.2.1) (frW G af u.2.2.2.2.2.2.1 0 6) (ordW G qo u.2.2.2.2.2.2.2.1) (clubW G qt u.2.2.2.2.2.2.2.2.1) (refW G qr u.2.2.2.2.2.2.2.2.2)) hD
        refine call_ViP (own := "HamperClubLaw") (As := [.int (xs (a3 + 1).toNatClampNeg), .int (xs (a3 + 2).toNatClampNeg)]) (rest := []) (q0 := 0) (ci := 8) (wc := hamW G qm qa0 qh qo qt ++ (staW G qa0 qa1 qa2 qa4 ++ (clubW G qa1 u.1 ++ (snpW G qa2 qa3 u.2.1 ++ (clubW G qa3 u.2.2.1 ++ (snpW G qa4 qa5 u.2.2.2.1 ++ (clubW G qa5 u.2.2.2.2.1 ++ (hisW G qh af u.2.2.2.2.2.1 ++ (frW G af u.2.2.2.2.2.2.1 0 6 ++ (ordW G qo u.2.2.2.2.2.2.2.1 ++ clubW G qt u.2.2.2.2.2.2.2.2.1)))))))))) (post := refW G qr u.2.2.2.2.2.2.2.2.2) hx hb hml hts hown hK hA hP hD hS ok_Law_89 rfl ⟨Nat.le_of_ble_eq_true rfl, Nat.le_of_ble_eq_true rfl⟩ ⟨hcs1, hcs2⟩ rfl rfl rfl hl.1 rfl (Nat.le_of_ble_eq_true rfl) d_Law_law_569 (c_Ham_isGood l G qm qa0 qa1 qa2 qa3 qa4 qa5 qh qo qt af _ (u.1, u.2.1, u.2.2.1, u.2.2.2.1, u.2.2.2.2.1, u.2.2.2.2.2.1, u.2.2.2.2.2.2.1, u.2.2.2.2.2.2.2.1, u.2.2.2.2.2.2.2.2.1) (xs (a3 + 1).toNatClampNeg) (xs (a3 + 2).toNatClampNeg) _ h) (fun x92 z91 H locs h hP hD hS => ?_)
        have hP := SW.P (sw_12_0_1_2_3_4_5_6_7_8_9_10 (hamW G qm qa0 qh qo qt) (staW G qa0 qa1 qa2 qa4) (clubW G qa1 z91.1) (snpW G qa2 qa3 z91.2.1) (clubW G qa3 z91.2.2.1) (snpW G qa4 qa5 z91.2.2.2.1) (clubW G qa5 z91.2.2.2.2.1) (hisW G qh af z91.2.2.2.2.2.1) (frW G af z91.2.2.2.2.2.2.1 0 6) (ordW G qo z91.2.2.2.2.2.2.2.1) (clubW G qt z91.2.2.2.2.2.2.2.2) (refW G qr u.2.2.2.2.2.2.2.2.2)).symm hP
        have hD := SW.D (sw_12_0_1_2_3_4_5_6_7_8_9_10 (hamW G qm qa0 qh qo qt) (staW G qa0 qa1 qa2 qa4) (clubW G qa1 z91.1) (snpW G qa2 qa3 z91.2.1) (clubW G qa3 z91.2.2.1) (snpW G qa4 qa5 z91.2.2.2.1) (clubW G qa5 z91.2.2.2.2.1) (hisW G qh af z91.2.2.2.2.2.1) (frW G af z91.2.2.2.2.2.2.1 0 6) (ordW G qo z91.2.2.2.2.2.2.2.1) (clubW G qt z91.2.2.2.2.2.2.2.2) (refW G qr u.2.2.2.2.2.2.2.2.2)).symm hD
        refine lv_aload_n hx hb d_Law_law_572 rfl (lv_at hl 2 rfl) ?_
        refine lv_aload_n hx hb d_Law_law_573 rfl (lv_at hl 0 rfl) ?_
        refine lv_iload_n hx hb d_Law_law_574 rfl (lv_at hl 3 rfl) ?_
        refine lv_iconst (v := 1) hx hb d_Law_law_575 (by decide) ?_
        refine lv_iadd hx hb d_Law_law_576 ?_
        obtain ⟨hi, h⟩ := h
        refine va_sld hx hb hX hbl hbA hS hi d_Law_law_577 ?_
        refine lv_aload_n hx hb d_Law_law_578 rfl (lv_at hl 0 rfl) ?_
        refine lv_iload_n hx hb d_Law_law_579 rfl (lv_at hl 3 rfl) ?_
        refine lv_iconst (v := 2) hx hb d_Law_law_580 (by decide) ?_
        refine lv_iadd hx hb d_Law_law_581 ?_
        obtain ⟨hi, h⟩ := h
        refine va_sld hx hb hX hbl hbA hS hi d_Law_law_582 ?_
        have hP := SW.P (sw_12_11 (hamW G qm qa0 qh qo qt) (staW G qa0 qa1 qa2 qa4) (clubW G qa1 z91.1) (snpW G qa2 qa3 z91.2.1) (clubW G qa3 z91.2.2.1) (snpW G qa4 qa5 z91.2.2.2.1) (clubW G qa5 z91.2.2.2.2.1) (hisW G qh af z91.2.2.2.2.2.1) (frW G af z91.2.2.2.2.2.2.1 0 6) (ordW G qo z91.2.2.2.2.2.2.2.1) (clubW G qt z91.2.2.2.2.2.2.2.2) (refW G qr u.2.2.2.2.2.2.2.2.2)) hP
        have hD := SW.D (sw_12_11 (hamW G qm qa0 qh qo qt) (staW G qa0 qa1 qa2 qa4) (clubW G qa1 z91.1) (snpW G qa2 qa3 z91.2.1) (clubW G qa3 z91.2.2.1) (snpW G qa4 qa5 z91.2.2.2.1) (clubW G qa5 z91.2.2.2.2.1) (hisW G qh af z91.2.2.2.2.2.1) (frW G af z91.2.2.2.2.2.2.1 0 6) (ordW G qo z91.2.2.2.2.2.2.2.1) (clubW G qt z91.2.2.2.2.2.2.2.2) (refW G qr u.2.2.2.2.2.2.2.2.2)) hD
        refine call_ViP (own := "HamperClubLaw") (As := [.int (xs (a3 + 1).toNatClampNeg), .int (xs (a3 + 2).toNatClampNeg)]) (rest := [.int x92]) (q0 := 0) (ci := 9) (wc := refW G qr u.2.2.2.2.2.2.2.2.2) (post := hamW G qm qa0 qh qo qt ++ (staW G qa0 qa1 qa2 qa4 ++ (clubW G qa1 z91.1 ++ (snpW G qa2 qa3 z91.2.1 ++ (clubW G qa3 z91.2.2.1 ++ (snpW G qa4 qa5 z91.2.2.2.1 ++ (clubW G qa5 z91.2.2.2.2.1 ++ (hisW G qh af z91.2.2.2.2.2.1 ++ (frW G af z91.2.2.2.2.2.2.1 0 6 ++ (ordW G qo z91.2.2.2.2.2.2.2.1 ++ clubW G qt z91.2.2.2.2.2.2.2.2)))))))))) hx hb hml hts hown hK hA hP hD hS ok_Law_92 rfl ⟨Nat.le_of_ble_eq_true rfl, Nat.le_of_ble_eq_true rfl⟩ ⟨hcs1, hcs2⟩ rfl rfl rfl hl.1 rfl (Nat.le_of_ble_eq_true rfl) d_Law_law_583 (c_Mod_isGood l G qr _ u.2.2.2.2.2.2.2.2.2 (xs (a3 + 1).toNatClampNeg) (xs (a3 + 2).toNatClampNeg) _ h) (fun x94 z93 H locs h hP hD hS => ?_)
        have hP := SW.P (sw_12_11 (hamW G qm qa0 qh qo qt) (staW G qa0 qa1 qa2 qa4) (clubW G qa1 z91.1) (snpW G qa2 qa3 z91.2.1) (clubW G qa3 z91.2.2.1) (snpW G qa4 qa5 z91.2.2.2.1) (clubW G qa5 z91.2.2.2.2.1) (hisW G qh af z91.2.2.2.2.2.1) (frW G af z91.2.2.2.2.2.2.1 0 6) (ordW G qo z91.2.2.2.2.2.2.2.1) (clubW G qt z91.2.2.2.2.2.2.2.2) (refW G qr z93)).symm hP
        have hD := SW.D (sw_12_11 (hamW G qm qa0 qh qo qt) (staW G qa0 qa1 qa2 qa4) (clubW G qa1 z91.1) (snpW G qa2 qa3 z91.2.1) (clubW G qa3 z91.2.2.1) (snpW G qa4 qa5 z91.2.2.2.1) (clubW G qa5 z91.2.2.2.2.1) (hisW G qh af z91.2.2.2.2.2.1) (frW G af z91.2.2.2.2.2.2.1 0 6) (ordW G qo z91.2.2.2.2.2.2.2.1) (clubW G qt z91.2.2.2.2.2.2.2.2) (refW G qr z93)).symm hD
        refine lv_icmp_eq (tgt := 756) hx hb d_Law_law_586 (by decide) (fun hc => ?_) (fun hc => ?_)
        · have h := h.1 hc
          obtain ⟨x95, ex95⟩ : ∃ y : Int32, y = a3 + 4 := ⟨_, rfl⟩
          have h := h x95 ex95
          refine lv_iinc (v := x95) (lv' := [(3, .int x95), (0, .ref b), (1, .ref (qm 0)), (2, .ref (qr 0))]) hx hb d_Law_law_756 hl (k := 3) rfl (by rw [ex95]; rfl) (by decide) rfl (fun ls hl => ?_)
          refine lv_goto (tgt := 18) hx hb d_Law_law_759 (by decide) ?_
          exact ih x95 (z91.1, z91.2.1, z91.2.2.1, z91.2.2.2.1, z91.2.2.2.2.1, z91.2.2.2.2.2.1, z91.2.2.2.2.2.2.1, z91.2.2.2.2.2.2.2.1, z91.2.2.2.2.2.2.2.2, z93) h _ _ _ hP hD hS (lv_sub hl [1, 2, 3, 0] rfl)
        · have h := h.2 hc
          refine lv_iconst (v := 0) hx hb d_Law_law_589 (by decide) ?_
          exact h.elim
      by_cases hc19 : ((xs a3.toNatClampNeg) &&& 31) = 19
      · have h := h.2.2.2.2.2.2.2.2.2.2.2.2.2.2.2.2.2.2.2.1 hc19
        refine lv_tableIn (off := 559) (tgt := 591) hx hb d_Law_law_32 (by rw [hc19]; decide) (by rw [hc19]; decide) (by rw [hc19]; rfl) (by decide) ?_
        refine lv_aload_n hx hb d_Law_law_591 rfl (lv_at hl 1 rfl) ?_
        refine lv_aload_n hx hb d_Law_law_592 rfl (lv_at hl 0 rfl) ?_
        refine lv_iload_n hx hb d_Law_law_593 rfl (lv_at hl 3 rfl) ?_
        refine lv_iconst (v := 1) hx hb d_Law_law_594 (by decide) ?_
        refine lv_iadd hx hb d_Law_law_595 ?_
        obtain ⟨hi, h⟩ := h
        refine va_sld hx hb hX hbl hbA hS hi d_Law_law_596 ?_
        refine lv_aload_n hx hb d_Law_law_597 rfl (lv_at hl 0 rfl) ?_
        refine lv_iload_n hx hb d_Law_law_598 rfl (lv_at hl 3 rfl) ?_
        refine lv_iconst (v := 2) hx hb d_Law_law_599 (by decide) ?_
        refine lv_iadd hx hb d_Law_law_600 ?_
        obtain ⟨hi, h⟩ := h
        refine va_sld hx hb hX hbl hbA hS hi d_Law_law_601 ?_
        have hP := SW.P (sw_12_0_1_2_3_4_5_6_7_8_9_10 (hamW G qm qa0 qh qo qt) (staW G qa0 qa1 qa2 qa4) (clubW G qa1 u.1) (snpW G qa2 qa3 u.2.1) (clubW G qa3 u.2.2.1) (snpW G qa4 qa5 u.2.2.2.1) (clubW G qa5 u.2.2.2.2.1) (hisW G qh af u.2.2.2.2.2.1) (frW G af u.2.2.2.2.2.2.1 0 6) (ordW G qo u.2.2.2.2.2.2.2.1) (clubW G qt u.2.2.2.2.2.2.2.2.1) (refW G qr u.2.2.2.2.2.2.2.2.2)) hP
        have hD := SW.D (sw_12_0_1_2_3_4_5_6_7_8_9_10 (hamW G qm qa0 qh qo qt) (staW G qa0 qa1 qa2 qa4) (clubW G qa1 u.1) (snpW G qa2 qa3 u.2.1) (clubW G qa3 u.2.2.1) (snpW G qa4 qa5 u.2.2.2.1) (clubW G qa5 u.2.2.2.2.1) (hisW G qh af u.2.2.2.2.2.1) (frW G af u.2.2.2.2.2.2.1 0 6) (ordW G qo u.2.2.2.2.2.2.2.1) (clubW G qt u.2.2.2.2.2.2.2.2.1) (refW G qr u.2.2.2.2.2.2.2.2.2)) hD
        refine call_ViP (own := "HamperClubLaw") (As := [.int (xs (a3 + 1).toNatClampNeg), .int (xs (a3 + 2).toNatClampNeg)]) (rest := []) (q0 := 0) (ci := 8) (wc := hamW G qm qa0 qh qo qt ++ (staW G qa0 qa1 qa2 qa4 ++ (clubW G qa1 u.1 ++ (snpW G qa2 qa3 u.2.1 ++ (clubW G qa3 u.2.2.1 ++ (snpW G qa4 qa5 u.2.2.2.1 ++ (clubW G qa5 u.2.2.2.2.1 ++ (hisW G qh af u.2.2.2.2.2.1 ++ (frW G af u.2.2.2.2.2.2.1 0 6 ++ (ordW G qo u.2.2.2.2.2.2.2.1 ++ clubW G qt u.2.2.2.2.2.2.2.2.1)))))))))) (post := refW G qr u.2.2.2.2.2.2.2.2.2) hx hb hml hts hown hK hA hP hD hS ok_Law_93 rfl ⟨Nat.le_of_ble_eq_true rfl, Nat.le_of_ble_eq_true rfl⟩ ⟨hcs1, hcs2⟩ rfl rfl rfl hl.1 rfl (Nat.le_of_ble_eq_true rfl) d_Law_law_602 (c_Ham_hamper l G qm qa0 qa1 qa2 qa3 qa4 qa5 qh qo qt af _ (u.1, u.2.1, u.2.2.1, u.2.2.2.1, u.2.2.2.2.1, u.2.2.2.2.2.1, u.2.2.2.2.2.2.1, u.2.2.2.2.2.2.2.1, u.2.2.2.2.2.2.2.2.1) (xs (a3 + 1).toNatClampNeg) (xs (a3 + 2).toNatClampNeg) _ h) (fun x97 z96 H locs h hP hD hS => ?_)
        have hP := SW.P (sw_12_0_1_2_3_4_5_6_7_8_9_10 (hamW G qm qa0 qh qo qt) (staW G qa0 qa1 qa2 qa4) (clubW G qa1 z96.1) (snpW G qa2 qa3 z96.2.1) (clubW G qa3 z96.2.2.1) (snpW G qa4 qa5 z96.2.2.2.1) (clubW G qa5 z96.2.2.2.2.1) (hisW G qh af z96.2.2.2.2.2.1) (frW G af z96.2.2.2.2.2.2.1 0 6) (ordW G qo z96.2.2.2.2.2.2.2.1) (clubW G qt z96.2.2.2.2.2.2.2.2) (refW G qr u.2.2.2.2.2.2.2.2.2)).symm hP
        have hD := SW.D (sw_12_0_1_2_3_4_5_6_7_8_9_10 (hamW G qm qa0 qh qo qt) (staW G qa0 qa1 qa2 qa4) (clubW G qa1 z96.1) (snpW G qa2 qa3 z96.2.1) (clubW G qa3 z96.2.2.1) (snpW G qa4 qa5 z96.2.2.2.1) (clubW G qa5 z96.2.2.2.2.1) (hisW G qh af z96.2.2.2.2.2.1) (frW G af z96.2.2.2.2.2.2.1 0 6) (ordW G qo z96.2.2.2.2.2.2.2.1) (clubW G qt z96.2.2.2.2.2.2.2.2) (refW G qr u.2.2.2.2.2.2.2.2.2)).symm hD
        refine lv_aload_n hx hb d_Law_law_605 rfl (lv_at hl 2 rfl) ?_
        refine lv_aload_n hx hb d_Law_law_606 rfl (lv_at hl 0 rfl) ?_
        refine lv_iload_n hx hb d_Law_law_607 rfl (lv_at hl 3 rfl) ?_
        refine lv_iconst (v := 1) hx hb d_Law_law_608 (by decide) ?_
        refine lv_iadd hx hb d_Law_law_609 ?_
        obtain ⟨hi, h⟩ := h
        refine va_sld hx hb hX hbl hbA hS hi d_Law_law_610 ?_
        refine lv_aload_n hx hb d_Law_law_611 rfl (lv_at hl 0 rfl) ?_
        refine lv_iload_n hx hb d_Law_law_612 rfl (lv_at hl 3 rfl) ?_
        refine lv_iconst (v := 2) hx hb d_Law_law_613 (by decide) ?_
        refine lv_iadd hx hb d_Law_law_614 ?_
        obtain ⟨hi, h⟩ := h
        refine va_sld hx hb hX hbl hbA hS hi d_Law_law_615 ?_
        have hP := SW.P (sw_12_11 (hamW G qm qa0 qh qo qt) (staW G qa0 qa1 qa2 qa4) (clubW G qa1 z96.1) (snpW G qa2 qa3 z96.2.1) (clubW G qa3 z96.2.2.1) (snpW G qa4 qa5 z96.2.2.2.1) (clubW G qa5 z96.2.2.2.2.1) (hisW G qh af z96.2.2.2.2.2.1) (frW G af z96.2.2.2.2.2.2.1 0 6) (ordW G qo z96.2.2.2.2.2.2.2.1) (clubW G qt z96.2.2.2.2.2.2.2.2) (refW G qr u.2.2.2.2.2.2.2.2.2)) hP
        have hD := SW.D (sw_12_11 (hamW G qm qa0 qh qo qt) (staW G qa0 qa1 qa2 qa4) (clubW G qa1 z96.1) (snpW G qa2 qa3 z96.2.1) (clubW G qa3 z96.2.2.1) (snpW G qa4 qa5 z96.2.2.2.1) (clubW G qa5 z96.2.2.2.2.1) (hisW G qh af z96.2.2.2.2.2.1) (frW G af z96.2.2.2.2.2.2.1 0 6) (ordW G qo z96.2.2.2.2.2.2.2.1) (clubW G qt z96.2.2.2.2.2.2.2.2) (refW G qr u.2.2.2.2.2.2.2.2.2)) hD
        refine call_ViP (own := "HamperClubLaw") (As := [.int (xs (a3 + 1).toNatClampNeg), .int (xs (a3 + 2).toNatClampNeg)]) (rest := [.int x97]) (q0 := 0) (ci := 9) (wc := refW G qr u.2.2.2.2.2.2.2.2.2) (post := hamW G qm qa0 qh qo qt ++ (staW G qa0 qa1 qa2 qa4 ++ (clubW G qa1 z96.1 ++ (snpW G qa2 qa3 z96.2.1 ++ (clubW G qa3 z96.2.2.1 ++ (snpW G qa4 qa5 z96.2.2.2.1 ++ (clubW G qa5 z96.2.2.2.2.1 ++ (hisW G qh af z96.2.2.2.2.2.1 ++ (frW G af z96.2.2.2.2.2.2.1 0 6 ++ (ordW G qo z96.2.2.2.2.2.2.2.1 ++ clubW G qt z96.2.2.2.2.2.2.2.2)))))))))) hx hb hml hts hown hK hA hP hD hS ok_Law_96 rfl ⟨Nat.le_of_ble_eq_true rfl, Nat.le_of_ble_eq_true rfl⟩ ⟨hcs1, hcs2⟩ rfl rfl rfl hl.1 rfl (Nat.le_of_ble_eq_true rfl) d_Law_law_616 (c_Mod_hamper l G qr _ u.2.2.2.2.2.2.2.2.2 (xs (a3 + 1).toNatClampNeg) (xs (a3 + 2).toNatClampNeg) _ h) (fun x99 z98 H locs h hP hD hS => ?_)
        have hP := SW.P (sw_12_11 (hamW G qm qa0 qh qo qt) (staW G qa0 qa1 qa2 qa4) (clubW G qa1 z96.1) (snpW G qa2 qa3 z96.2.1) (clubW G qa3 z96.2.2.1) (snpW G qa4 qa5 z96.2.2.2.1) (clubW G qa5 z96.2.2.2.2.1) (hisW G qh af z96.2.2.2.2.2.1) (frW G af z96.2.2.2.2.2.2.1 0 6) (ordW G qo z96.2.2.2.2.2.2.2.1) (clubW G qt z96.2.2.2.2.2.2.2.2) (refW G qr z98)).symm hP
        have hD := SW.D (sw_12_11 (hamW G qm qa0 qh qo qt) (staW G qa0 qa1 qa2 qa4) (clubW G qa1 z96.1) (snpW G qa2 qa3 z96.2.1) (clubW G qa3 z96.2.2.1) (snpW G qa4 qa5 z96.2.2.2.1) (clubW G qa5 z96.2.2.2.2.1) (hisW G qh af z96.2.2.2.2.2.1) (frW G af z96.2.2.2.2.2.2.1 0 6) (ordW G qo z96.2.2.2.2.2.2.2.1) (clubW G qt z96.2.2.2.2.2.2.2.2) (refW G qr z98)).symm hD
        refine lv_icmp_eq (tgt := 756) hx hb d_Law_law_619 (by decide) (fun hc => ?_) (fun hc => ?_)
        · have h := h.1 hc
          obtain ⟨x100, ex100⟩ : ∃ y : Int32, y = a3 + 4 := ⟨_, rfl⟩
          have h := h x100 ex100
          refine lv_iinc (v := x100) (lv' := [(3, .int x100), (0, .ref b), (1, .ref (qm 0)), (2, .ref (qr 0))]) hx hb d_Law_law_756 hl (k := 3) rfl (by rw [ex100]; rfl) (by decide) rfl (fun ls hl => ?_)
          refine lv_goto (tgt := 18) hx hb d_Law_law_759 (by decide) ?_
          exact ih x100 (z96.1, z96.2.1, z96.2.2.1, z96.2.2.2.1, z96.2.2.2.2.1, z96.2.2.2.2.2.1, z96.2.2.2.2.2.2.1, z96.2.2.2.2.2.2.2.1, z96.2.2.2.2.2.2.2.2, z98) h _ _ _ hP hD hS (lv_sub hl [1, 2, 3, 0] rfl)
        · have h := h.2 hc
          refine lv_iconst (v := 0) hx hb d_Law_law_622 (by decide) ?_
          exact h.elim
      by_cases hc20 : ((xs a3.toNatClampNeg) &&& 31) = 20
      · have h := h.2.2.2.2.2.2.2.2.2.2.2.2.2.2.2.2.2.2.2.2.1 hc20
        refine lv_tableIn (off := 592) (tgt := 624) hx hb d_Law_law_32 (by rw [hc20]; decide) (by rw [hc20]; decide) (by rw [hc20]; rfl) (by decide) ?_
        refine lv_aload_n hx hb d_Law_law_624 rfl (lv_at hl 1 rfl) ?_
        refine lv_aload_n hx hb d_Law_law_625 rfl (lv_at hl 0 rfl) ?_
        refine lv_iload_n hx hb d_Law_law_626 rfl (lv_at hl 3 rfl) ?_
        refine lv_iconst (v := 1) hx hb d_Law_law_627 (by decide) ?_
        refine lv_iadd hx hb d_Law_law_628 ?_
        obtain ⟨hi, h⟩ := h
        refine va_sld hx hb hX hbl hbA hS hi d_Law_law_629 ?_
        refine lv_aload_n hx hb d_Law_law_630 rfl (lv_at hl 0 rfl) ?_
        refine lv_iload_n hx hb d_Law_law_631 rfl (lv_at hl 3 rfl) ?_
        refine lv_iconst (v := 2) hx hb d_Law_law_632 (by decide) ?_
        refine lv_iadd hx hb d_Law_law_633 ?_
        obtain ⟨hi, h⟩ := h
        refine va_sld hx hb hX hbl hbA hS hi d_Law_law_634 ?_
        have hP := SW.P (sw_12_0_1_2_3_4_5_6_7_8_9_10 (hamW G qm qa0 qh qo qt) (staW G qa0 qa1 qa2 qa4) (clubW G qa1 u.1) (snpW G qa2 qa3 u.2.1) (clubW G qa3 u.2.2.1) (snpW G qa4 qa5 u.2.2.2.1) (clubW G qa5 u.2.2.2.2.1) (hisW G qh af u.2.2.2.2.2.1) (frW G af u.2.2.2.2.2.2.1 0 6) (ordW G qo u.2.2.2.2.2.2.2.1) (clubW G qt u.2.2.2.2.2.2.2.2.1) (refW G qr u.2.2.2.2.2.2.2.2.2)) hP
        have hD := SW.D (sw_12_0_1_2_3_4_5_6_7_8_9_10 (hamW G qm qa0 qh qo qt) (staW G qa0 qa1 qa2 qa4) (clubW G qa1 u.1) (snpW G qa2 qa3 u.2.1) (clubW G qa3 u.2.2.1) (snpW G qa4 qa5 u.2.2.2.1) (clubW G qa5 u.2.2.2.2.1) (hisW G qh af u.2.2.2.2.2.1) (frW G af u.2.2.2.2.2.2.1 0 6) (ordW G qo u.2.2.2.2.2.2.2.1) (clubW G qt u.2.2.2.2.2.2.2.2.1) (refW G qr u.2.2.2.2.2.2.2.2.2)) hD
        refine call_ViP (own := "HamperClubLaw") (As := [.int (xs (a3 + 1).toNatClampNeg), .int (xs (a3 + 2).toNatClampNeg)]) (rest := []) (q0 := 0) (ci := 8) (wc := hamW G qm qa0 qh qo qt ++ (staW G qa0 qa1 qa2 qa4 ++ (clubW G qa1 u.1 ++ (snpW G qa2 qa3 u.2.1 ++ (clubW G qa3 u.2.2.1 ++ (snpW G qa4 qa5 u.2.2.2.1 ++ (clubW G qa5 u.2.2.2.2.1 ++ (hisW G qh af u.2.2.2.2.2.1 ++ (frW G af u.2.2.2.2.2.2.1 0 6 ++ (ordW G qo u.2.2.2.2.2.2.2.1 ++ clubW G qt u.2.2.2.2.2.2.2.2.1)))))))))) (post := refW G qr u.2.2.2.2.2.2.2.2.2) hx hb hml hts hown hK hA hP hD hS ok_Law_97 rfl ⟨Nat.le_of_ble_eq_true rfl, Nat.le_of_ble_eq_true rfl⟩ ⟨hcs1, hcs2⟩ rfl rfl rfl hl.1 rfl (Nat.le_of_ble_eq_true rfl) d_Law_law_635 (c_Ham_waiting l G qm qa0 qa1 qa2 qa3 qa4 qa5 qh qo qt af _ (u.1, u.2.1, u.2.2.1, u.2.2.2.1, u.2.2.2.2.1, u.2.2.2.2.2.1, u.2.2.2.2.2.2.1, u.2.2.2.2.2.2.2.1, u.2.2.2.2.2.2.2.2.1) (xs (a3 + 1).toNatClampNeg) (xs (a3 + 2).toNatClampNeg) _ h) (fun x102 z101 H locs h hP hD hS => ?_)
        have hP := SW.P (sw_12_0_1_2_3_4_5_6_7_8_9_10 (hamW G qm qa0 qh qo qt) (staW G qa0 qa1 qa2 qa4) (clubW G qa1 z101.1) (snpW G qa2 qa3 z101.2.1) (clubW G qa3 z101.2.2.1) (snpW G qa4 qa5 z101.2.2.2.1) (clubW G qa5 z101.2.2.2.2.1) (hisW G qh af z101.2.2.2.2.2.1) (frW G af z101.2.2.2.2.2.2.1 0 6) (ordW G qo z101.2.2.2.2.2.2.2.1) (clubW G qt z101.2.2.2.2.2.2.2.2) (refW G qr u.2.2.2.2.2.2.2.2.2)).symm hP
        have hD := SW.D (sw_12_0_1_2_3_4_5_6_7_8_9_10 (hamW G qm qa0 qh qo qt) (staW G qa0 qa1 qa2 qa4) (clubW G qa1 z101.1) (snpW G qa2 qa3 z101.2.1) (clubW G qa3 z101.2.2.1) (snpW G qa4 qa5 z101.2.2.2.1) (clubW G qa5 z101.2.2.2.2.1) (hisW G qh af z101.2.2.2.2.2.1) (frW G af z101.2.2.2.2.2.2.1 0 6) (ordW G qo z101.2.2.2.2.2.2.2.1) (clubW G qt z101.2.2.2.2.2.2.2.2) (refW G qr u.2.2.2.2.2.2.2.2.2)).symm hD
        refine lv_aload_n hx hb d_Law_law_638 rfl (lv_at hl 2 rfl) ?_
        refine lv_aload_n hx hb d_Law_law_639 rfl (lv_at hl 0 rfl) ?_
        refine lv_iload_n hx hb d_Law_law_640 rfl (lv_at hl 3 rfl) ?_
        refine lv_iconst (v := 1) hx hb d_Law_law_641 (by decide) ?_
        refine lv_iadd hx hb d_Law_law_642 ?_
        obtain ⟨hi, h⟩ := h
        refine va_sld hx hb hX hbl hbA hS hi d_Law_law_643 ?_
        refine lv_aload_n hx hb d_Law_law_644 rfl (lv_at hl 0 rfl) ?_
        refine lv_iload_n hx hb d_Law_law_645 rfl (lv_at hl 3 rfl) ?_
        refine lv_iconst (v := 2) hx hb d_Law_law_646 (by decide) ?_
        refine lv_iadd hx hb d_Law_law_647 ?_
        obtain ⟨hi, h⟩ := h
        refine va_sld hx hb hX hbl hbA hS hi d_Law_law_648 ?_
        have hP := SW.P (sw_12_11 (hamW G qm qa0 qh qo qt) (staW G qa0 qa1 qa2 qa4) (clubW G qa1 z101.1) (snpW G qa2 qa3 z101.2.1) (clubW G qa3 z101.2.2.1) (snpW G qa4 qa5 z101.2.2.2.1) (clubW G qa5 z101.2.2.2.2.1) (hisW G qh af z101.2.2.2.2.2.1) (frW G af z101.2.2.2.2.2.2.1 0 6) (ordW G qo z101.2.2.2.2.2.2.2.1) (clubW G qt z101.2.2.2.2.2.2.2.2) (refW G qr u.2.2.2.2.2.2.2.2.2)) hP
        have hD := SW.D (sw_12_11 (hamW G qm qa0 qh qo qt) (staW G qa0 qa1 qa2 qa4) (clubW G qa1 z101.1) (snpW G qa2 qa3 z101.2.1) (clubW G qa3 z101.2.2.1) (snpW G qa4 qa5 z101.2.2.2.1) (clubW G qa5 z101.2.2.2.2.1) (hisW G qh af z101.2.2.2.2.2.1) (frW G af z101.2.2.2.2.2.2.1 0 6) (ordW G qo z101.2.2.2.2.2.2.2.1) (clubW G qt z101.2.2.2.2.2.2.2.2) (refW G qr u.2.2.2.2.2.2.2.2.2)) hD
        refine call_ViP (own := "HamperClubLaw") (As := [.int (xs (a3 + 1).toNatClampNeg), .int (xs (a3 + 2).toNatClampNeg)]) (rest := [.int x102]) (q0 := 0) (ci := 9) (wc := refW G qr u.2.2.2.2.2.2.2.2.2) (post := hamW G qm qa0 qh qo qt ++ (staW G qa0 qa1 qa2 qa4 ++ (clubW G qa1 z101.1 ++ (snpW G qa2 qa3 z101.2.1 ++ (clubW G qa3 z101.2.2.1 ++ (snpW G qa4 qa5 z101.2.2.2.1 ++ (clubW G qa5 z101.2.2.2.2.1 ++ (hisW G qh af z101.2.2.2.2.2.1 ++ (frW G af z101.2.2.2.2.2.2.1 0 6 ++ (ordW G qo z101.2.2.2.2.2.2.2.1 ++ clubW G qt z101.2.2.2.2.2.2.2.2)))))))))) hx hb hml hts hown hK hA hP hD hS ok_Law_100 rfl ⟨Nat.le_of_ble_eq_true rfl, Nat.le_of_ble_eq_true rfl⟩ ⟨hcs1, hcs2⟩ rfl rfl rfl hl.1 rfl (Nat.le_of_ble_eq_true rfl) d_Law_law_649 (c_Mod_waiting l G qr _ u.2.2.2.2.2.2.2.2.2 (xs (a3 + 1).toNatClampNeg) (xs (a3 + 2).toNatClampNeg) _ h) (fun x104 z103 H locs h hP hD hS => ?_)
        have hP := SW.P (sw_12_11 (hamW G qm qa0 qh qo qt) (staW G qa0 qa1 qa2 qa4) (clubW G qa1 z101.1) (snpW G qa2 qa3 z101.2.1) (clubW G qa3 z101.2.2.1) (snpW G qa4 qa5 z101.2.2.2.1) (clubW G qa5 z101.2.2.2.2.1) (hisW G qh af z101.2.2.2.2.2.1) (frW G af z101.2.2.2.2.2.2.1 0 6) (ordW G qo z101.2.2.2.2.2.2.2.1) (clubW G qt z101.2.2.2.2.2.2.2.2) (refW G qr z103)).symm hP
        have hD := SW.D (sw_12_11 (hamW G qm qa0 qh qo qt) (staW G qa0 qa1 qa2 qa4) (clubW G qa1 z101.1) (snpW G qa2 qa3 z101.2.1) (clubW G qa3 z101.2.2.1) (snpW G qa4 qa5 z101.2.2.2.1) (clubW G qa5 z101.2.2.2.2.1) (hisW G qh af z101.2.2.2.2.2.1) (frW G af z101.2.2.2.2.2.2.1 0 6) (ordW G qo z101.2.2.2.2.2.2.2.1) (clubW G qt z101.2.2.2.2.2.2.2.2) (refW G qr z103)).symm hD
        refine lv_icmp_eq (tgt := 756) hx hb d_Law_law_652 (by decide) (fun hc => ?_) (fun hc => ?_)
        · have h := h.1 hc
          obtain ⟨x105, ex105⟩ : ∃ y : Int32, y = a3 + 4 := ⟨_, rfl⟩
          have h := h x105 ex105
          refine lv_iinc (v := x105) (lv' := [(3, .int x105), (0, .ref b), (1, .ref (qm 0)), (2, .ref (qr 0))]) hx hb d_Law_law_756 hl (k := 3) rfl (by rw [ex105]; rfl) (by decide) rfl (fun ls hl => ?_)
          refine lv_goto (tgt := 18) hx hb d_Law_law_759 (by decide) ?_
          exact ih x105 (z101.1, z101.2.1, z101.2.2.1, z101.2.2.2.1, z101.2.2.2.2.1, z101.2.2.2.2.2.1, z101.2.2.2.2.2.2.1, z101.2.2.2.2.2.2.2.1, z101.2.2.2.2.2.2.2.2, z103) h _ _ _ hP hD hS (lv_sub hl [1, 2, 3, 0] rfl)
        · have h := h.2 hc
          refine lv_iconst (v := 0) hx hb d_Law_law_655 (by decide) ?_
          exact h.elim
      by_cases hc21 : ((xs a3.toNatClampNeg) &&& 31) = 21
      · have h := h.2.2.2.2.2.2.2.2.2.2.2.2.2.2.2.2.2.2.2.2.2.1 hc21
        refine lv_tableIn (off := 625) (tgt := 657) hx hb d_Law_law_32 (by rw [hc21]; decide) (by rw [hc21]; decide) (by rw [hc21]; rfl) (by decide) ?_
        refine lv_aload_n hx hb d_Law_law_657 rfl (lv_at hl 1 rfl) ?_
        refine lv_aload_n hx hb d_Law_law_658 rfl (lv_at hl 0 rfl) ?_
        refine lv_iload_n hx hb d_Law_law_659 rfl (lv_at hl 3 rfl) ?_
        refine lv_iconst (v := 1) hx hb d_Law_law_660 (by decide) ?_
        refine lv_iadd hx hb d_Law_law_661 ?_
        obtain ⟨hi, h⟩ := h
        refine va_sld hx hb hX hbl hbA hS hi d_Law_law_662 ?_
        refine lv_aload_n hx hb d_Law_law_663 rfl (lv_at hl 0 rfl) ?_
        refine lv_iload_n hx hb d_Law_law_664 rfl (lv_at hl 3 rfl) ?_
        refine lv_iconst (v := 2) hx hb d_Law_law_665 (by decide) ?_
        refine lv_iadd hx hb d_Law_law_666 ?_
        obtain ⟨hi, h⟩ := h
        refine va_sld hx hb hX hbl hbA hS hi d_Law_law_667 ?_
        have hP := SW.P (sw_12_0_1_2_3_4_5_6_7_8_9_10 (hamW G qm qa0 qh qo qt) (staW G qa0 qa1 qa2 qa4) (clubW G qa1 u.1) (snpW G qa2 qa3 u.2.1) (clubW G qa3 u.2.2.1) (snpW G qa4 qa5 u.2.2.2.1) (clubW G qa5 u.2.2.2.2.1) (hisW G qh af u.2.2.2.2.2.1) (frW G af u.2.2.2.2.2.2.1 0 6) (ordW G qo u.2.2.2.2.2.2.2.1) (clubW G qt u.2.2.2.2.2.2.2.2.1) (refW G qr u.2.2.2.2.2.2.2.2.2)) hP
        have hD := SW.D (sw_12_0_1_2_3_4_5_6_7_8_9_10 (hamW G qm qa0 qh qo qt) (staW G qa0 qa1 qa2 qa4) (clubW G qa1 u.1) (snpW G qa2 qa3 u.2.1) (clubW G qa3 u.2.2.1) (snpW G qa4 qa5 u.2.2.2.1) (clubW G qa5 u.2.2.2.2.1) (hisW G qh af u.2.2.2.2.2.1) (frW G af u.2.2.2.2.2.2.1 0 6) (ordW G qo u.2.2.2.2.2.2.2.1) (clubW G qt u.2.2.2.2.2.2.2.2.1) (refW G qr u.2.2.2.2.2.2.2.2.2)) hD
        refine call_ViP (own := "HamperClubLaw") (As := [.int (xs (a3 + 1).toNatClampNeg), .int (xs (a3 + 2).toNatClampNeg)]) (rest := []) (q0 := 0) (ci := 8) (wc := hamW G qm qa0 qh qo qt ++ (staW G qa0 qa1 qa2 qa4 ++ (clubW G qa1 u.1 ++ (snpW G qa2 qa3 u.2.1 ++ (clubW G qa3 u.2.2.1 ++ (snpW G qa4 qa5 u.2.2.2.1 ++ (clubW G qa5 u.2.2.2.2.1 ++ (hisW G qh af u.2.2.2.2.2.1 ++ (frW G af u.2.2.2.2.2.2.1 0 6 ++ (ordW G qo u.2.2.2.2.2.2.2.1 ++ clubW G qt u.2.2.2.2.2.2.2.2.1)))))))))) (post := refW G qr u.2.2.2.2.2.2.2.2.2) hx hb hml hts hown hK hA hP hD hS ok_Law_101 rfl ⟨Nat.le_of_ble_eq_true rfl, Nat.le_of_ble_eq_true rfl⟩ ⟨hcs1, hcs2⟩ rfl rfl rfl hl.1 rfl (Nat.le_of_ble_eq_true rfl) d_Law_law_668 (c_Ham_would l G qm qa0 qa1 qa2 qa3 qa4 qa5 qh qo qt af _ (u.1, u.2.1, u.2.2.1, u.2.2.2.1, u.2.2.2.2.1, u.2.2.2.2.2.1, u.2.2.2.2.2.2.1, u.2.2.2.2.2.2.2.1, u.2.2.2.2.2.2.2.2.1) (xs (a3 + 1).toNatClampNeg) (xs (a3 + 2).toNatClampNeg) _ h) (fun x107 z106 H locs h hP hD hS => ?_)
        have hP := SW.P (sw_12_0_1_2_3_4_5_6_7_8_9_10 (hamW G qm qa0 qh qo qt) (staW G qa0 qa1 qa2 qa4) (clubW G qa1 z106.1) (snpW G qa2 qa3 z106.2.1) (clubW G qa3 z106.2.2.1) (snpW G qa4 qa5 z106.2.2.2.1) (clubW G qa5 z106.2.2.2.2.1) (hisW G qh af z106.2.2.2.2.2.1) (frW G af z106.2.2.2.2.2.2.1 0 6) (ordW G qo z106.2.2.2.2.2.2.2.1) (clubW G qt z106.2.2.2.2.2.2.2.2) (refW G qr u.2.2.2.2.2.2.2.2.2)).symm hP
        have hD := SW.D (sw_12_0_1_2_3_4_5_6_7_8_9_10 (hamW G qm qa0 qh qo qt) (staW G qa0 qa1 qa2 qa4) (clubW G qa1 z106.1) (snpW G qa2 qa3 z106.2.1) (clubW G qa3 z106.2.2.1) (snpW G qa4 qa5 z106.2.2.2.1) (clubW G qa5 z106.2.2.2.2.1) (hisW G qh af z106.2.2.2.2.2.1) (frW G af z106.2.2.2.2.2.2.1 0 6) (ordW G qo z106.2.2.2.2.2.2.2.1) (clubW G qt z106.2.2.2.2.2.2.2.2) (refW G qr u.2.2.2.2.2.2.2.2.2)).symm hD
        refine lv_aload_n hx hb d_Law_law_671 rfl (lv_at hl 2 rfl) ?_
        refine lv_aload_n hx hb d_Law_law_672 rfl (lv_at hl 0 rfl) ?_
        refine lv_iload_n hx hb d_Law_law_673 rfl (lv_at hl 3 rfl) ?_
        refine lv_iconst (v := 1) hx hb d_Law_law_674 (by decide) ?_
        refine lv_iadd hx hb d_Law_law_675 ?_
        obtain ⟨hi, h⟩ := h
        refine va_sld hx hb hX hbl hbA hS hi d_Law_law_676 ?_
        refine lv_aload_n hx hb d_Law_law_677 rfl (lv_at hl 0 rfl) ?_
        refine lv_iload_n hx hb d_Law_law_678 rfl (lv_at hl 3 rfl) ?_
        refine lv_iconst (v := 2) hx hb d_Law_law_679 (by decide) ?_
        refine lv_iadd hx hb d_Law_law_680 ?_
        obtain ⟨hi, h⟩ := h
        refine va_sld hx hb hX hbl hbA hS hi d_Law_law_681 ?_
        have hP := SW.P (sw_12_11 (hamW G qm qa0 qh qo qt) (staW G qa0 qa1 qa2 qa4) (clubW G qa1 z106.1) (snpW G qa2 qa3 z106.2.1) (clubW G qa3 z106.2.2.1) (snpW G qa4 qa5 z106.2.2.2.1) (clubW G qa5 z106.2.2.2.2.1) (hisW G qh af z106.2.2.2.2.2.1) (frW G af z106.2.2.2.2.2.2.1 0 6) (ordW G qo z106.2.2.2.2.2.2.2.1) (clubW G qt z106.2.2.2.2.2.2.2.2) (refW G qr u.2.2.2.2.2.2.2.2.2)) hP
        have hD := SW.D (sw_12_11 (hamW G qm qa0 qh qo qt) (staW G qa0 qa1 qa2 qa4) (clubW G qa1 z106.1) (snpW G qa2 qa3 z106.2.1) (clubW G qa3 z106.2.2.1) (snpW G qa4 qa5 z106.2.2.2.1) (clubW G qa5 z106.2.2.2.2.1) (hisW G qh af z106.2.2.2.2.2.1) (frW G af z106.2.2.2.2.2.2.1 0 6) (ordW G qo z106.2.2.2.2.2.2.2.1) (clubW G qt z106.2.2.2.2.2.2.2.2) (refW G qr u.2.2.2.2.2.2.2.2.2)) hD
        refine call_ViP (own := "HamperClubLaw") (As := [.int (xs (a3 + 1).toNatClampNeg), .int (xs (a3 + 2).toNatClampNeg)]) (rest := [.int x107]) (q0 := 0) (ci := 9) (wc := refW G qr u.2.2.2.2.2.2.2.2.2) (post := hamW G qm qa0 qh qo qt ++ (staW G qa0 qa1 qa2 qa4 ++ (clubW G qa1 z106.1 ++ (snpW G qa2 qa3 z106.2.1 ++ (clubW G qa3 z106.2.2.1 ++ (snpW G qa4 qa5 z106.2.2.2.1 ++ (clubW G qa5 z106.2.2.2.2.1 ++ (hisW G qh af z106.2.2.2.2.2.1 ++ (frW G af z106.2.2.2.2.2.2.1 0 6 ++ (ordW G qo z106.2.2.2.2.2.2.2.1 ++ clubW G qt z106.2.2.2.2.2.2.2.2)))))))))) hx hb hml hts hown hK hA hP hD hS ok_Law_104 rfl ⟨Nat.le_of_ble_eq_true rfl, Nat.le_of_ble_eq_true rfl⟩ ⟨hcs1, hcs2⟩ rfl rfl rfl hl.1 rfl (Nat.le_of_ble_eq_true rfl) d_Law_law_682 (c_Mod_would l G qr _ u.2.2.2.2.2.2.2.2.2 (xs (a3 + 1).toNatClampNeg) (xs (a3 + 2).toNatClampNeg) _ h) (fun x109 z108 H locs h hP hD hS => ?_)
        have hP := SW.P (sw_12_11 (hamW G qm qa0 qh qo qt) (staW G qa0 qa1 qa2 qa4) (clubW G qa1 z106.1) (snpW G qa2 qa3 z106.2.1) (clubW G qa3 z106.2.2.1) (snpW G qa4 qa5 z106.2.2.2.1) (clubW G qa5 z106.2.2.2.2.1) (hisW G qh af z106.2.2.2.2.2.1) (frW G af z106.2.2.2.2.2.2.1 0 6) (ordW G qo z106.2.2.2.2.2.2.2.1) (clubW G qt z106.2.2.2.2.2.2.2.2) (refW G qr z108)).symm hP
        have hD := SW.D (sw_12_11 (hamW G qm qa0 qh qo qt) (staW G qa0 qa1 qa2 qa4) (clubW G qa1 z106.1) (snpW G qa2 qa3 z106.2.1) (clubW G qa3 z106.2.2.1) (snpW G qa4 qa5 z106.2.2.2.1) (clubW G qa5 z106.2.2.2.2.1) (hisW G qh af z106.2.2.2.2.2.1) (frW G af z106.2.2.2.2.2.2.1 0 6) (ordW G qo z106.2.2.2.2.2.2.2.1) (clubW G qt z106.2.2.2.2.2.2.2.2) (refW G qr z108)).symm hD
        refine lv_icmp_eq (tgt := 756) hx hb d_Law_law_685 (by decide) (fun hc => ?_) (fun hc => ?_)
        · have h := h.1 hc
          obtain ⟨x110, ex110⟩ : ∃ y : Int32, y = a3 + 4 := ⟨_, rfl⟩
          have h := h x110 ex110
          refine lv_iinc (v := x110) (lv' := [(3, .int x110), (0, .ref b), (1, .ref (qm 0)), (2, .ref (qr 0))]) hx hb d_Law_law_756 hl (k := 3) rfl (by rw [ex110]; rfl) (by decide) rfl (fun ls hl => ?_)
          refine lv_goto (tgt := 18) hx hb d_Law_law_759 (by decide) ?_
          exact ih x110 (z106.1, z106.2.1, z106.2.2.1, z106.2.2.2.1, z106.2.2.2.2.1, z106.2.2.2.2.2.1, z106.2.2.2.2.2.2.1, z106.2.2.2.2.2.2.2.1, z106.2.2.2.2.2.2.2.2, z108) h _ _ _ hP hD hS (lv_sub hl [1, 2, 3, 0] rfl)
        · have h := h.2 hc
          refine lv_iconst (v := 0) hx hb d_Law_law_688 (by decide) ?_
          exact h.elim
      by_cases hc22 : ((xs a3.toNatClampNeg) &&& 31) = 22
      · have h := h.2.2.2.2.2.2.2.2.2.2.2.2.2.2.2.2.2.2.2.2.2.2.1 hc22
        refine lv_tableIn (off := 658) (tgt := 690) hx hb d_Law_law_32 (by rw [hc22]; decide) (by rw [hc22]; decide) (by rw [hc22]; rfl) (by decide) ?_
        refine lv_aload_n hx hb d_Law_law_690 rfl (lv_at hl 1 rfl) ?_
        refine lv_aload_n hx hb d_Law_law_691 rfl (lv_at hl 0 rfl) ?_
        refine lv_iload_n hx hb d_Law_law_692 rfl (lv_at hl 3 rfl) ?_
        refine lv_iconst (v := 1) hx hb d_Law_law_693 (by decide) ?_
        refine lv_iadd hx hb d_Law_law_694 ?_
        obtain ⟨hi, h⟩ := h
        refine va_sld hx hb hX hbl hbA hS hi d_Law_law_695 ?_
        have hP := SW.P (sw_12_0_1_2_3_4_5_6_7_8_9_10 (hamW G qm qa0 qh qo qt) (staW G qa0 qa1 qa2 qa4) (clubW G qa1 u.1) (snpW G qa2 qa3 u.2.1) (clubW G qa3 u.2.2.1) (snpW G qa4 qa5 u.2.2.2.1) (clubW G qa5 u.2.2.2.2.1) (hisW G qh af u.2.2.2.2.2.1) (frW G af u.2.2.2.2.2.2.1 0 6) (ordW G qo u.2.2.2.2.2.2.2.1) (clubW G qt u.2.2.2.2.2.2.2.2.1) (refW G qr u.2.2.2.2.2.2.2.2.2)) hP
        have hD := SW.D (sw_12_0_1_2_3_4_5_6_7_8_9_10 (hamW G qm qa0 qh qo qt) (staW G qa0 qa1 qa2 qa4) (clubW G qa1 u.1) (snpW G qa2 qa3 u.2.1) (clubW G qa3 u.2.2.1) (snpW G qa4 qa5 u.2.2.2.1) (clubW G qa5 u.2.2.2.2.1) (hisW G qh af u.2.2.2.2.2.1) (frW G af u.2.2.2.2.2.2.1 0 6) (ordW G qo u.2.2.2.2.2.2.2.1) (clubW G qt u.2.2.2.2.2.2.2.2.1) (refW G qr u.2.2.2.2.2.2.2.2.2)) hD
        refine call_ViP (own := "HamperClubLaw") (As := [.int (xs (a3 + 1).toNatClampNeg)]) (rest := []) (q0 := 0) (ci := 8) (wc := hamW G qm qa0 qh qo qt ++ (staW G qa0 qa1 qa2 qa4 ++ (clubW G qa1 u.1 ++ (snpW G qa2 qa3 u.2.1 ++ (clubW G qa3 u.2.2.1 ++ (snpW G qa4 qa5 u.2.2.2.1 ++ (clubW G qa5 u.2.2.2.2.1 ++ (hisW G qh af u.2.2.2.2.2.1 ++ (frW G af u.2.2.2.2.2.2.1 0 6 ++ (ordW G qo u.2.2.2.2.2.2.2.1 ++ clubW G qt u.2.2.2.2.2.2.2.2.1)))))))))) (post := refW G qr u.2.2.2.2.2.2.2.2.2) hx hb hml hts hown hK hA hP hD hS ok_Law_105 rfl ⟨Nat.le_of_ble_eq_true rfl, Nat.le_of_ble_eq_true rfl⟩ ⟨hcs1, hcs2⟩ rfl rfl rfl hl.1 rfl (Nat.le_of_ble_eq_true rfl) d_Law_law_696 (c_Ham_bestKind l G qm qa0 qa1 qa2 qa3 qa4 qa5 qh qo qt af _ (u.1, u.2.1, u.2.2.1, u.2.2.2.1, u.2.2.2.2.1, u.2.2.2.2.2.1, u.2.2.2.2.2.2.1, u.2.2.2.2.2.2.2.1, u.2.2.2.2.2.2.2.2.1) (xs (a3 + 1).toNatClampNeg) _ h) (fun x112 z111 H locs h hP hD hS => ?_)
        have hP := SW.P (sw_12_0_1_2_3_4_5_6_7_8_9_10 (hamW G qm qa0 qh qo qt) (staW G qa0 qa1 qa2 qa4) (clubW G qa1 z111.1) (snpW G qa2 qa3 z111.2.1) (clubW G qa3 z111.2.2.1) (snpW G qa4 qa5 z111.2.2.2.1) (clubW G qa5 z111.2.2.2.2.1) (hisW G qh af z111.2.2.2.2.2.1) (frW G af z111.2.2.2.2.2.2.1 0 6) (ordW G qo z111.2.2.2.2.2.2.2.1) (clubW G qt z111.2.2.2.2.2.2.2.2) (refW G qr u.2.2.2.2.2.2.2.2.2)).symm hP
        have hD := SW.D (sw_12_0_1_2_3_4_5_6_7_8_9_10 (hamW G qm qa0 qh qo qt) (staW G qa0 qa1 qa2 qa4) (clubW G qa1 z111.1) (snpW G qa2 qa3 z111.2.1) (clubW G qa3 z111.2.2.1) (snpW G qa4 qa5 z111.2.2.2.1) (clubW G qa5 z111.2.2.2.2.1) (hisW G qh af z111.2.2.2.2.2.1) (frW G af z111.2.2.2.2.2.2.1 0 6) (ordW G qo z111.2.2.2.2.2.2.2.1) (clubW G qt z111.2.2.2.2.2.2.2.2) (refW G qr u.2.2.2.2.2.2.2.2.2)).symm hD
        refine lv_aload_n hx hb d_Law_law_699 rfl (lv_at hl 2 rfl) ?_
        refine lv_aload_n hx hb d_Law_law_700 rfl (lv_at hl 0 rfl) ?_
        refine lv_iload_n hx hb d_Law_law_701 rfl (lv_at hl 3 rfl) ?_
        refine lv_iconst (v := 1) hx hb d_Law_law_702 (by decide) ?_
        refine lv_iadd hx hb d_Law_law_703 ?_
        obtain ⟨hi, h⟩ := h
        refine va_sld hx hb hX hbl hbA hS hi d_Law_law_704 ?_
        have hP := SW.P (sw_12_11 (hamW G qm qa0 qh qo qt) (staW G qa0 qa1 qa2 qa4) (clubW G qa1 z111.1) (snpW G qa2 qa3 z111.2.1) (clubW G qa3 z111.2.2.1) (snpW G qa4 qa5 z111.2.2.2.1) (clubW G qa5 z111.2.2.2.2.1) (hisW G qh af z111.2.2.2.2.2.1) (frW G af z111.2.2.2.2.2.2.1 0 6) (ordW G qo z111.2.2.2.2.2.2.2.1) (clubW G qt z111.2.2.2.2.2.2.2.2) (refW G qr u.2.2.2.2.2.2.2.2.2)) hP
        have hD := SW.D (sw_12_11 (hamW G qm qa0 qh qo qt) (staW G qa0 qa1 qa2 qa4) (clubW G qa1 z111.1) (snpW G qa2 qa3 z111.2.1) (clubW G qa3 z111.2.2.1) (snpW G qa4 qa5 z111.2.2.2.1) (clubW G qa5 z111.2.2.2.2.1) (hisW G qh af z111.2.2.2.2.2.1) (frW G af z111.2.2.2.2.2.2.1 0 6) (ordW G qo z111.2.2.2.2.2.2.2.1) (clubW G qt z111.2.2.2.2.2.2.2.2) (refW G qr u.2.2.2.2.2.2.2.2.2)) hD
        refine call_ViP (own := "HamperClubLaw") (As := [.int (xs (a3 + 1).toNatClampNeg)]) (rest := [.int x112]) (q0 := 0) (ci := 9) (wc := refW G qr u.2.2.2.2.2.2.2.2.2) (post := hamW G qm qa0 qh qo qt ++ (staW G qa0 qa1 qa2 qa4 ++ (clubW G qa1 z111.1 ++ (snpW G qa2 qa3 z111.2.1 ++ (clubW G qa3 z111.2.2.1 ++ (snpW G qa4 qa5 z111.2.2.2.1 ++ (clubW G qa5 z111.2.2.2.2.1 ++ (hisW G qh af z111.2.2.2.2.2.1 ++ (frW G af z111.2.2.2.2.2.2.1 0 6 ++ (ordW G qo z111.2.2.2.2.2.2.2.1 ++ clubW G qt z111.2.2.2.2.2.2.2.2)))))))))) hx hb hml hts hown hK hA hP hD hS ok_Law_108 rfl ⟨Nat.le_of_ble_eq_true rfl, Nat.le_of_ble_eq_true rfl⟩ ⟨hcs1, hcs2⟩ rfl rfl rfl hl.1 rfl (Nat.le_of_ble_eq_true rfl) d_Law_law_705 (c_Mod_bestKind l G qr _ u.2.2.2.2.2.2.2.2.2 (xs (a3 + 1).toNatClampNeg) _ h) (fun x114 z113 H locs h hP hD hS => ?_)
        have hP := SW.P (sw_12_11 (hamW G qm qa0 qh qo qt) (staW G qa0 qa1 qa2 qa4) (clubW G qa1 z111.1) (snpW G qa2 qa3 z111.2.1) (clubW G qa3 z111.2.2.1) (snpW G qa4 qa5 z111.2.2.2.1) (clubW G qa5 z111.2.2.2.2.1) (hisW G qh af z111.2.2.2.2.2.1) (frW G af z111.2.2.2.2.2.2.1 0 6) (ordW G qo z111.2.2.2.2.2.2.2.1) (clubW G qt z111.2.2.2.2.2.2.2.2) (refW G qr z113)).symm hP
        have hD := SW.D (sw_12_11 (hamW G qm qa0 qh qo qt) (staW G qa0 qa1 qa2 qa4) (clubW G qa1 z111.1) (snpW G qa2 qa3 z111.2.1) (clubW G qa3 z111.2.2.1) (snpW G qa4 qa5 z111.2.2.2.1) (clubW G qa5 z111.2.2.2.2.1) (hisW G qh af z111.2.2.2.2.2.1) (frW G af z111.2.2.2.2.2.2.1 0 6) (ordW G qo z111.2.2.2.2.2.2.2.1) (clubW G qt z111.2.2.2.2.2.2.2.2) (refW G qr z113)).symm hD
        refine lv_icmp_eq (tgt := 756) hx hb d_Law_law_708 (by decide) (fun hc => ?_) (fun hc => ?_)
        · have h := h.1 hc
          obtain ⟨x115, ex115⟩ : ∃ y : Int32, y = a3 + 4 := ⟨_, rfl⟩
          have h := h x115 ex115
          refine lv_iinc (v := x115) (lv' := [(3, .int x115), (0, .ref b), (1, .ref (qm 0)), (2, .ref (qr 0))]) hx hb d_Law_law_756 hl (k := 3) rfl (by rw [ex115]; rfl) (by decide) rfl (fun ls hl => ?_)
          refine lv_goto (tgt := 18) hx hb d_Law_law_759 (by decide) ?_
          exact ih x115 (z111.1, z111.2.1, z111.2.2.1, z111.2.2.2.1, z111.2.2.2.2.1, z111.2.2.2.2.2.1, z111.2.2.2.2.2.2.1, z111.2.2.2.2.2.2.2.1, z111.2.2.2.2.2.2.2.2, z113) h _ _ _ hP hD hS (lv_sub hl [1, 2, 3, 0] rfl)
        · have h := h.2 hc
          refine lv_iconst (v := 0) hx hb d_Law_law_711 (by decide) ?_
          exact h.elim
      by_cases hc23 : ((xs a3.toNatClampNeg) &&& 31) = 23
      · have h := h.2.2.2.2.2.2.2.2.2.2.2.2.2.2.2.2.2.2.2.2.2.2.2.1 hc23
        refine lv_tableIn (off := 681) (tgt := 713) hx hb d_Law_law_32 (by rw [hc23]; decide) (by rw [hc23]; decide) (by rw [hc23]; rfl) (by decide) ?_
        refine lv_aload_n hx hb d_Law_law_713 rfl (lv_at hl 1 rfl) ?_
        refine lv_aload_n hx hb d_Law_law_714 rfl (lv_at hl 0 rfl) ?_
        refine lv_iload_n hx hb d_Law_law_715 rfl (lv_at hl 3 rfl) ?_
        refine lv_iconst (v := 1) hx hb d_Law_law_716 (by decide) ?_
        refine lv_iadd hx hb d_Law_law_717 ?_
        obtain ⟨hi, h⟩ := h
        refine va_sld hx hb hX hbl hbA hS hi d_Law_law_718 ?_
        refine lv_aload_n hx hb d_Law_law_719 rfl (lv_at hl 0 rfl) ?_
        refine lv_iload_n hx hb d_Law_law_720 rfl (lv_at hl 3 rfl) ?_
        refine lv_iconst (v := 2) hx hb d_Law_law_721 (by decide) ?_
        refine lv_iadd hx hb d_Law_law_722 ?_
        obtain ⟨hi, h⟩ := h
        refine va_sld hx hb hX hbl hbA hS hi d_Law_law_723 ?_
        refine lv_aload_n hx hb d_Law_law_724 rfl (lv_at hl 0 rfl) ?_
        refine lv_iload_n hx hb d_Law_law_725 rfl (lv_at hl 3 rfl) ?_
        refine lv_iconst (v := 3) hx hb d_Law_law_726 (by decide) ?_
        refine lv_iadd hx hb d_Law_law_727 ?_
        obtain ⟨hi, h⟩ := h
        refine va_sld hx hb hX hbl hbA hS hi d_Law_law_728 ?_
        have hP := SW.P (sw_12_0_1_2_3_4_5_6_7_8_9_10 (hamW G qm qa0 qh qo qt) (staW G qa0 qa1 qa2 qa4) (clubW G qa1 u.1) (snpW G qa2 qa3 u.2.1) (clubW G qa3 u.2.2.1) (snpW G qa4 qa5 u.2.2.2.1) (clubW G qa5 u.2.2.2.2.1) (hisW G qh af u.2.2.2.2.2.1) (frW G af u.2.2.2.2.2.2.1 0 6) (ordW G qo u.2.2.2.2.2.2.2.1) (clubW G qt u.2.2.2.2.2.2.2.2.1) (refW G qr u.2.2.2.2.2.2.2.2.2)) hP
        have hD := SW.D (sw_12_0_1_2_3_4_5_6_7_8_9_10 (hamW G qm qa0 qh qo qt) (staW G qa0 qa1 qa2 qa4) (clubW G qa1 u.1) (snpW G qa2 qa3 u.2.1) (clubW G qa3 u.2.2.1) (snpW G qa4 qa5 u.2.2.2.1) (clubW G qa5 u.2.2.2.2.1) (hisW G qh af u.2.2.2.2.2.1) (frW G af u.2.2.2.2.2.2.1 0 6) (ordW G qo u.2.2.2.2.2.2.2.1) (clubW G qt u.2.2.2.2.2.2.2.2.1) (refW G qr u.2.2.2.2.2.2.2.2.2)) hD
        refine call_ViP (own := "HamperClubLaw") (As := [.int (xs (a3 + 1).toNatClampNeg), .int (xs (a3 + 2).toNatClampNeg), .int (xs (a3 + 3).toNatClampNeg)]) (rest := []) (q0 := 0) (ci := 8) (wc := hamW G qm qa0 qh qo qt ++ (staW G qa0 qa1 qa2 qa4 ++ (clubW G qa1 u.1 ++ (snpW G qa2 qa3 u.2.1 ++ (clubW G qa3 u.2.2.1 ++ (snpW G qa4 qa5 u.2.2.2.1 ++ (clubW G qa5 u.2.2.2.2.1 ++ (hisW G qh af u.2.2.2.2.2.1 ++ (frW G af u.2.2.2.2.2.2.1 0 6 ++ (ordW G qo u.2.2.2.2.2.2.2.1 ++ clubW G qt u.2.2.2.2.2.2.2.2.1)))))))))) (post := refW G qr u.2.2.2.2.2.2.2.2.2) hx hb hml hts hown hK hA hP hD hS ok_Law_109 rfl ⟨Nat.le_of_ble_eq_true rfl, Nat.le_of_ble_eq_true rfl⟩ ⟨hcs1, hcs2⟩ rfl rfl rfl hl.1 rfl (Nat.le_of_ble_eq_true rfl) d_Law_law_729 (c_Ham_weeksFor l G qm qa0 qa1 qa2 qa3 qa4 qa5 qh qo qt af _ (u.1, u.2.1, u.2.2.1, u.2.2.2.1, u.2.2.2.2.1, u.2.2.2.2.2.1, u.2.2.2.2.2.2.1, u.2.2.2.2.2.2.2.1, u.2.2.2.2.2.2.2.2.1) (xs (a3 + 1).toNatClampNeg) (xs (a3 + 2).toNatClampNeg) (xs (a3 + 3).toNatClampNeg) _ h) (fun x117 z116 H locs h hP hD hS => ?_)
        have hP := SW.P (sw_12_0_1_2_3_4_5_6_7_8_9_10 (hamW G qm qa0 qh qo qt) (staW G qa0 qa1 qa2 qa4) (clubW G qa1 z116.1) (snpW G qa2 qa3 z116.2.1) (clubW G qa3 z116.2.2.1) (snpW G qa4 qa5 z116.2.2.2.1) (clubW G qa5 z116.2.2.2.2.1) (hisW G qh af z116.2.2.2.2.2.1) (frW G af z116.2.2.2.2.2.2.1 0 6) (ordW G qo z116.2.2.2.2.2.2.2.1) (clubW G qt z116.2.2.2.2.2.2.2.2) (refW G qr u.2.2.2.2.2.2.2.2.2)).symm hP
        have hD := SW.D (sw_12_0_1_2_3_4_5_6_7_8_9_10 (hamW G qm qa0 qh qo qt) (staW G qa0 qa1 qa2 qa4) (clubW G qa1 z116.1) (snpW G qa2 qa3 z116.2.1) (clubW G qa3 z116.2.2.1) (snpW G qa4 qa5 z116.2.2.2.1) (clubW G qa5 z116.2.2.2.2.1) (hisW G qh af z116.2.2.2.2.2.1) (frW G af z116.2.2.2.2.2.2.1 0 6) (ordW G qo z116.2.2.2.2.2.2.2.1) (clubW G qt z116.2.2.2.2.2.2.2.2) (refW G qr u.2.2.2.2.2.2.2.2.2)).symm hD
        refine lv_aload_n hx hb d_Law_law_732 rfl (lv_at hl 2 rfl) ?_
        refine lv_aload_n hx hb d_Law_law_733 rfl (lv_at hl 0 rfl) ?_
        refine lv_iload_n hx hb d_Law_law_734 rfl (lv_at hl 3 rfl) ?_
        refine lv_iconst (v := 1) hx hb d_Law_law_735 (by decide) ?_
        refine lv_iadd hx hb d_Law_law_736 ?_
        obtain ⟨hi, h⟩ := h
        refine va_sld hx hb hX hbl hbA hS hi d_Law_law_737 ?_
        refine lv_aload_n hx hb d_Law_law_738 rfl (lv_at hl 0 rfl) ?_
        refine lv_iload_n hx hb d_Law_law_739 rfl (lv_at hl 3 rfl) ?_
        refine lv_iconst (v := 2) hx hb d_Law_law_740 (by decide) ?_
        refine lv_iadd hx hb d_Law_law_741 ?_
        obtain ⟨hi, h⟩ := h
        refine va_sld hx hb hX hbl hbA hS hi d_Law_law_742 ?_
        refine lv_aload_n hx hb d_Law_law_743 rfl (lv_at hl 0 rfl) ?_
        refine lv_iload_n hx hb d_Law_law_744 rfl (lv_at hl 3 rfl) ?_
        refine lv_iconst (v := 3) hx hb d_Law_law_745 (by decide) ?_
        refine lv_iadd hx hb d_Law_law_746 ?_
        obtain ⟨hi, h⟩ := h
        refine va_sld hx hb hX hbl hbA hS hi d_Law_law_747 ?_
        have hP := SW.P (sw_12_11 (hamW G qm qa0 qh qo qt) (staW G qa0 qa1 qa2 qa4) (clubW G qa1 z116.1) (snpW G qa2 qa3 z116.2.1) (clubW G qa3 z116.2.2.1) (snpW G qa4 qa5 z116.2.2.2.1) (clubW G qa5 z116.2.2.2.2.1) (hisW G qh af z116.2.2.2.2.2.1) (frW G af z116.2.2.2.2.2.2.1 0 6) (ordW G qo z116.2.2.2.2.2.2.2.1) (clubW G qt z116.2.2.2.2.2.2.2.2) (refW G qr u.2.2.2.2.2.2.2.2.2)) hP
        have hD := SW.D (sw_12_11 (hamW G qm qa0 qh qo qt) (staW G qa0 qa1 qa2 qa4) (clubW G qa1 z116.1) (snpW G qa2 qa3 z116.2.1) (clubW G qa3 z116.2.2.1) (snpW G qa4 qa5 z116.2.2.2.1) (clubW G qa5 z116.2.2.2.2.1) (hisW G qh af z116.2.2.2.2.2.1) (frW G af z116.2.2.2.2.2.2.1 0 6) (ordW G qo z116.2.2.2.2.2.2.2.1) (clubW G qt z116.2.2.2.2.2.2.2.2) (refW G qr u.2.2.2.2.2.2.2.2.2)) hD
        refine call_ViP (own := "HamperClubLaw") (As := [.int (xs (a3 + 1).toNatClampNeg), .int (xs (a3 + 2).toNatClampNeg), .int (xs (a3 + 3).toNatClampNeg)]) (rest := [.int x117]) (q0 := 0) (ci := 9) (wc := refW G qr u.2.2.2.2.2.2.2.2.2) (post := hamW G qm qa0 qh qo qt ++ (staW G qa0 qa1 qa2 qa4 ++ (clubW G qa1 z116.1 ++ (snpW G qa2 qa3 z116.2.1 ++ (clubW G qa3 z116.2.2.1 ++ (snpW G qa4 qa5 z116.2.2.2.1 ++ (clubW G qa5 z116.2.2.2.2.1 ++ (hisW G qh af z116.2.2.2.2.2.1 ++ (frW G af z116.2.2.2.2.2.2.1 0 6 ++ (ordW G qo z116.2.2.2.2.2.2.2.1 ++ clubW G qt z116.2.2.2.2.2.2.2.2)))))))))) hx hb hml hts hown hK hA hP hD hS ok_Law_112 rfl ⟨Nat.le_of_ble_eq_true rfl, Nat.le_of_ble_eq_true rfl⟩ ⟨hcs1, hcs2⟩ rfl rfl rfl hl.1 rfl (Nat.le_of_ble_eq_true rfl) d_Law_law_748 (c_Mod_weeksFor l G qr _ u.2.2.2.2.2.2.2.2.2 (xs (a3 + 1).toNatClampNeg) (xs (a3 + 2).toNatClampNeg) (xs (a3 + 3).toNatClampNeg) _ h) (fun x119 z118 H locs h hP hD hS => ?_)
        have hP := SW.P (sw_12_11 (hamW G qm qa0 qh qo qt) (staW G qa0 qa1 qa2 qa4) (clubW G qa1 z116.1) (snpW G qa2 qa3 z116.2.1) (clubW G qa3 z116.2.2.1) (snpW G qa4 qa5 z116.2.2.2.1) (clubW G qa5 z116.2.2.2.2.1) (hisW G qh af z116.2.2.2.2.2.1) (frW G af z116.2.2.2.2.2.2.1 0 6) (ordW G qo z116.2.2.2.2.2.2.2.1) (clubW G qt z116.2.2.2.2.2.2.2.2) (refW G qr z118)).symm hP
        have hD := SW.D (sw_12_11 (hamW G qm qa0 qh qo qt) (staW G qa0 qa1 qa2 qa4) (clubW G qa1 z116.1) (snpW G qa2 qa3 z116.2.1) (clubW G qa3 z116.2.2.1) (snpW G qa4 qa5 z116.2.2.2.1) (clubW G qa5 z116.2.2.2.2.1) (hisW G qh af z116.2.2.2.2.2.1) (frW G af z116.2.2.2.2.2.2.1 0 6) (ordW G qo z116.2.2.2.2.2.2.2.1) (clubW G qt z116.2.2.2.2.2.2.2.2) (refW G qr z118)).symm hD
        refine lv_icmp_eq (tgt := 756) hx hb d_Law_law_751 (by decide) (fun hc => ?_) (fun hc => ?_)
        · have h := h.1 hc
          obtain ⟨x120, ex120⟩ : ∃ y : Int32, y = a3 + 4 := ⟨_, rfl⟩
          have h := h x120 ex120
          refine lv_iinc (v := x120) (lv' := [(3, .int x120), (0, .ref b), (1, .ref (qm 0)), (2, .ref (qr 0))]) hx hb d_Law_law_756 hl (k := 3) rfl (by rw [ex120]; rfl) (by decide) rfl (fun ls hl => ?_)
          refine lv_goto (tgt := 18) hx hb d_Law_law_759 (by decide) ?_
          exact ih x120 (z116.1, z116.2.1, z116.2.2.1, z116.2.2.2.1, z116.2.2.2.2.1, z116.2.2.2.2.2.1, z116.2.2.2.2.2.2.1, z116.2.2.2.2.2.2.2.1, z116.2.2.2.2.2.2.2.2, z118) h _ _ _ hP hD hS (lv_sub hl [1, 2, 3, 0] rfl)
        · have h := h.2 hc
          refine lv_iconst (v := 0) hx hb d_Law_law_754 (by decide) ?_
          exact h.elim
      have h := h.2.2.2.2.2.2.2.2.2.2.2.2.2.2.2.2.2.2.2.2.2.2.2.2
      have h := h hc0
      have h := h hc1
      have h := h hc2
      have h := h hc3
      have h := h hc4
      have h := h hc5
      have h := h hc6
      have h := h hc7
      have h := h hc8
      have h := h hc9
      have h := h hc10
      have h := h hc11
      have h := h hc12
      have h := h hc13
      have h := h hc14
      have h := h hc15
      have h := h hc16
      have h := h hc17
      have h := h hc18
      have h := h hc19
      have h := h hc20
      have h := h hc21
      have h := h hc22
      have h := h hc23
      refine lv_tableOut (tgt := 756) hx hb d_Law_law_32 (tb_out (lo := 0) (n := 23) (by decide) (fun k hk => by rcases (show k = 0 ∨ k = 1 ∨ k = 2 ∨ k = 3 ∨ k = 4 ∨ k = 5 ∨ k = 6 ∨ k = 7 ∨ k = 8 ∨ k = 9 ∨ k = 10 ∨ k = 11 ∨ k = 12 ∨ k = 13 ∨ k = 14 ∨ k = 15 ∨ k = 16 ∨ k = 17 ∨ k = 18 ∨ k = 19 ∨ k = 20 ∨ k = 21 ∨ k = 22 ∨ k = 23 by omega) with rfl | rfl | rfl | rfl | rfl | rfl | rfl | rfl | rfl | rfl | rfl | rfl | rfl | rfl | rfl | rfl | rfl | rfl | rfl | rfl | rfl | rfl | rfl | rfl <;> first | exact hc0 | exact hc1 | exact hc2 | exact hc3 | exact hc4 | exact hc5 | exact hc6 | exact hc7 | exact hc8 | exact hc9 | exact hc10 | exact hc11 | exact hc12 | exact hc13 | exact hc14 | exact hc15 | exact hc16 | exact hc17 | exact hc18 | exact hc19 | exact hc20 | exact hc21 | exact hc22 | exact hc23)) (by decide) ?_
      obtain ⟨x121, ex121⟩ : ∃ y : Int32, y = a3 + 4 := ⟨_, rfl⟩
      have h := h x121 ex121
      refine lv_iinc (v := x121) (lv' := [(3, .int x121), (0, .ref b), (1, .ref (qm 0)), (2, .ref (qr 0))]) hx hb d_Law_law_756 hl (k := 3) rfl (by rw [ex121]; rfl) (by decide) rfl (fun ls hl => ?_)
      refine lv_goto (tgt := 18) hx hb d_Law_law_759 (by decide) ?_
      exact ih x121 (u.1, u.2.1, u.2.2.1, u.2.2.2.1, u.2.2.2.2.1, u.2.2.2.2.2.1, u.2.2.2.2.2.2.1, u.2.2.2.2.2.2.2.1, u.2.2.2.2.2.2.2.2.1, u.2.2.2.2.2.2.2.2.2) h _ _ _ hP hD hS (lv_sub hl [1, 2, 3, 0] rfl)
