/-! THE CLAIM OUT OF ONE WALK OF THE LAW'S BODY. Your part is whole_start (and what it stands on); all else here is the same for every law, but numbers. -/
def R_law : String := "HamperClubLaw"
def lw_P (b : Addr) (xs : List Int32) (args : Array Value) (s : State) : Prop := args = #[.ref b] ∧ s.IntsAt b xs ∧ xs.length ≤ 260 ∧ (Jvm.Cond.and given_1 narrow_1).before args s = true
def lw_Q (_ : Array Value) (s : State) (o : Outcome) (t : State) : Prop := o = .returned (some (.int 1)) ∧ Framed s o t [] 600000 7302250
def lw_Z (below : List Frame) (a : Array Value) (s : State) : State → Prop := fun t => ∃ o, t.status = .running ∧ Ended t below o ∧ lw_Q a s o t
/-- the law's own end, with 1 on the stack, nothing written that was there before, its room as the claim has it -/
theorem lw_ret {p : Program} {l : Launch} {e : Env} {s : State} {m : MethodId} {below : List Frame} {meth : Method} {c : Code} {b : Nat} (hx : p.tables.exec = Jvm.exec) (hb : c.code = code) (hr : meth.sig.returnType = ret) (hlocks : meth.locks = false) {pc : Nat} {H : Heap} {ls : Array Slot} (hdg : decode code pc = .ok (.ireturn, 1)) : W p l e room_1 s m #[Value.ref b] below meth c H [] 600000 7302250 (lw_Z below #[Value.ref b] s) (F0 m pc ls [.int 1]) := by
  intro T hT X
  obtain ⟨fs, hret, hrun, hended, hW, hframe⟩ := X.leave (v := some (.int 1)) (hlocks := hlocks) (fun h => by rw [hr] at h; cases h)
  have hmeth' : T.vm.method? m = some meth := X.method'
  refine ⟨T.setFrames fs, ?_, .returned (some (.int 1)), hrun, hended, rfl, ⟨_, rfl⟩, hW, hframe⟩
  jvm_step X.here [X.here.top, hx, hb, hdg, hmeth', hr, ret, narrow_b1]
  (try refine ⟨rfl, ?_⟩); (try refine ⟨rfl, ?_⟩)
  first | (intro acts; rw [hret _ acts rfl rfl rfl]) | rw [hret _ _ rfl rfl rfl]
  exact Steps.refl _
/-- what holds at the law's entry: the machine, the code, the tables' words (any of lw_tbl by 'hts w (by decide +kernel)'), the script of L ints xs at the cell b, what the Statement gives of the start (any of its parts by flat_of_before) -/
def lw_At (p : Program) (s : State) (m : MethodId) (meth : Method) (c : Code) (b L : Nat) (xs : Nat → Int32) : Prop :=
  p.tables.exec = Jvm.exec ∧ c.code = code ∧ meth.sig.returnType = ret ∧ c.maxLocals = 8 ∧ s.vm.findClass R_law = some m.cls ∧ (∀ w ∈ lw_tbl, w.before #[Value.ref b] s = true) ∧ va_X b L xs s s.heap ∧ b < s.heap.size ∧ meth.locks = false ∧ (Jvm.Cond.and given_1 narrow_1).before #[Value.ref b] s = true

theorem law_KN {s : State} {b : Nat} (hts : ∀ w ∈ lw_tbl, w.before #[Value.ref b] s = true) : ∃ G : GG, KN G s := by
  have hk : ∀ k : Nat, ∃ p : ClassId × (Nat → Nat), ∀ q, classes[k]? = some q → u_Kn s q.1 q.2.1 q.2.2 p.1 p.2 := by
    intro k
    match k with
    | 0 => obtain ⟨c, iS, h⟩ := u_known (C := R_Acc) (T := F_Acc) (N := 5) (n := 5) hts (fun w hw => Tg_sub w (i_Acc w hw)) (hts (.instantiable R_Acc 5) (Tg_sub _ tb_122)); exact ⟨(c, iS), fun q hq => by cases hq; exact h⟩
    | 1 => obtain ⟨c, iS, h⟩ := u_known (C := R_Crd) (T := F_Crd) (N := 9) (n := 9) hts (fun w hw => Tg_sub w (i_Crd w hw)) (hts (.instantiable R_Crd 9) (Tg_sub _ tb_35)); exact ⟨(c, iS), fun q hq => by cases hq; exact h⟩
    | 2 => obtain ⟨c, iS, h⟩ := u_known (C := R_Clb) (T := F_Clb) (N := 7) (n := 7) hts (fun w hw => Tg_sub w (i_Clb w hw)) (hts (.instantiable R_Clb 7) (Tg_sub _ tb_29)); exact ⟨(c, iS), fun q hq => by cases hq; exact h⟩
    | 3 => obtain ⟨c, iS, h⟩ := u_known (C := R_Hmp) (T := F_Hmp) (N := 5) (n := 5) hts (fun w hw => Tg_sub w (i_Hmp w hw)) (hts (.instantiable R_Hmp 5) (Tg_sub _ tb_85)); exact ⟨(c, iS), fun q hq => by cases hq; exact h⟩
    | 4 => obtain ⟨c, iS, h⟩ := u_known (C := R_His) (T := F_His) (N := 3) (n := 3) hts (fun w hw => Tg_sub w (i_His w hw)) (hts (.instantiable R_His 3) (Tg_sub _ tb_204)); exact ⟨(c, iS), fun q hq => by cases hq; exact h⟩
    | 5 => obtain ⟨c, iS, h⟩ := u_known (C := R_Ord) (T := F_Ord) (N := 6) (n := 6) hts (fun w hw => Tg_sub w (i_Ord w hw)) (hts (.instantiable R_Ord 6) (Tg_sub _ tb_224)); exact ⟨(c, iS), fun q hq => by cases hq; exact h⟩
    | 6 => obtain ⟨c, iS, h⟩ := u_known (C := R_Snp) (T := F_Snp) (N := 2) (n := 2) hts (fun w hw => Tg_sub w (i_Snp w hw)) (hts (.instantiable R_Snp 2) (Tg_sub _ tb_176)); exact ⟨(c, iS), fun q hq => by cases hq; exact h⟩
    | 7 => obtain ⟨c, iS, h⟩ := u_known (C := R_Sta) (T := F_Sta) (N := 3) (n := 3) hts (fun w hw => Tg_sub w (i_Sta w hw)) (hts (.instantiable R_Sta 3) (Tg_sub _ tb_23)); exact ⟨(c, iS), fun q hq => by cases hq; exact h⟩
    | 8 => obtain ⟨c, iS, h⟩ := u_known (C := R_Ham) (T := F_Ham) (N := 4) (n := 4) hts (fun w hw => Tg_sub w (i_Ham w hw)) (hts (.instantiable R_Ham 4) (Tg_sub _ tb_15)); exact ⟨(c, iS), fun q hq => by cases hq; exact h⟩
    | k + 9 => exact ⟨(0, fun _ => 0), fun q hq => by simp [classes] at hq⟩
  obtain ⟨f, hf⟩ := Classical.axiomOfChoice hk
  obtain ⟨c0, k0, m0, a1, a2, a3⟩ := Cond.arrayClass_spec (hts (.arrayClass .int) (List.mem_of_getElem? (i := 93) (by decide +kernel)))
  obtain ⟨c1, k1, m1, b1, b2, b3⟩ := Cond.arrayClass_spec (hts (.arrayClass .long) (List.mem_of_getElem? (i := 94) (by decide +kernel)))
  obtain ⟨m3, c3, k3, f1, f2, f3, f4, f5⟩ := Cond.arrayOver_spec (hts (.arrayOver (.object "HamperClub$State")) (List.mem_of_getElem? (i := 221) (by decide +kernel)))
  refine ⟨((fun k => (f k).1, fun k => (f k).2), fun k => if k = 0 then c0 else if k = 1 then c1 else if k = 2 then c0 else c3), ⟨fun k q hq => hf k q hq, fun k q hq => ?_⟩, fun w hw => ?_⟩
  · match k, hq with
    | 0, hq => cases hq; exact ⟨fun n z => ⟨fun k h => (by cases h), k0, a2, m0, a3⟩, a1⟩
    | 1, hq => cases hq; exact ⟨fun n z => ⟨fun k h => (by cases h), k1, b2, m1, b3⟩, b1⟩
    | 2, hq => cases hq; exact ⟨fun n z => ⟨fun k h => (by cases h), k0, a2, m0, a3⟩, a1⟩
    | 3, hq => cases hq; exact ⟨fun n z => ⟨fun k h => (by cases h), k3, f3, m3, f4⟩, k3, m3, f3, f4, f1, f5⟩
    | k + 4, hq => simp [tysG] at hq
  · have h1 : w ∈ lw_tbl := by
      have h2 : nestL.all (fun w => decide (w ∈ lw_tbl)) = true := by decide +kernel
      exact of_decide_eq_true (List.all_eq_true.mp h2 w hw)
    have h3 := hts w h1
    obtain ⟨a, i, x, b', rfl⟩ := nest_form hw
    exact va_Nw.of rfl h3
theorem law_SKn {s : State} {b : Nat} (hts : ∀ w ∈ lw_tbl, w.before #[Value.ref b] s = true) (hgv : (Jvm.Cond.and given_1 narrow_1).before #[Value.ref b] s = true) : ∃ tp ts : Nat, SKn s.heap.size tp ts s := by
  have hs := flat_of_before _ hgv
  have hpf : ∃ t : Nat, (va_Z "HamperClub" "FIRST_PRICES" "[I" (.ref t) (fun q => s.heap.size ≤ q) s s.heap ∧ va_T .int t 4 (fun j => .int (pfF j)) (fun q => s.heap.size ≤ q) s s.heap) := by
    have harr : (Cond.arrayOf (Term.static "HamperClub" "FIRST_PRICES" "[I") .int).before #[Value.ref b] s = true := hs _ (by decide +kernel)
    have hlen := va_eqt (hs (Cond.eq (.length (Term.static "HamperClub" "FIRST_PRICES" "[I")) (.int 4)) (by decide +kernel))
    obtain ⟨t, ht, hT⟩ := va_Tof (N := 4) (f := fun j => .int (pfF j)) (A := fun q => s.heap.size ≤ q) (by decide) harr hlen (fun j hj => by
      match j, hj with
      | 0, _ => exact va_eqt (hs (Cond.eq (.elem (Term.static "HamperClub" "FIRST_PRICES" "[I") (.int 0)) (.int 20)) (by decide +kernel))
      | 1, _ => exact va_eqt (hs (Cond.eq (.elem (Term.static "HamperClub" "FIRST_PRICES" "[I") (.int 1)) (.int 40)) (by decide +kernel))
      | 2, _ => exact va_eqt (hs (Cond.eq (.elem (Term.static "HamperClub" "FIRST_PRICES" "[I") (.int 2)) (.int 60)) (by decide +kernel))
      | 3, _ => exact va_eqt (hs (Cond.eq (.elem (Term.static "HamperClub" "FIRST_PRICES" "[I") (.int 3)) (.int 100)) (by decide +kernel))
      | j + 4, hj => omega) (fun a ha => Nat.not_le.mpr ha)
    exact ⟨t, va_Zof (hts (.laysStatic "HamperClub" "FIRST_PRICES" "[I") (List.mem_of_getElem? (i := 102) (by decide +kernel))) (hts (.initialized "HamperClub") (Tg_sub _ tb_1)) ht (fun a ha => Nat.not_le.mpr ha), hT⟩
  have hsf : ∃ t : Nat, (va_Z "HamperClub" "FIRST_STOCKS" "[I" (.ref t) (fun q => s.heap.size ≤ q) s s.heap ∧ va_T .int t 4 (fun j => .int (sfF j)) (fun q => s.heap.size ≤ q) s s.heap) := by
    have harr : (Cond.arrayOf (Term.static "HamperClub" "FIRST_STOCKS" "[I") .int).before #[Value.ref b] s = true := hs _ (by decide +kernel)
    have hlen := va_eqt (hs (Cond.eq (.length (Term.static "HamperClub" "FIRST_STOCKS" "[I")) (.int 4)) (by decide +kernel))
    obtain ⟨t, ht, hT⟩ := va_Tof (N := 4) (f := fun j => .int (sfF j)) (A := fun q => s.heap.size ≤ q) (by decide) harr hlen (fun j hj => by
      match j, hj with
      | 0, _ => exact va_eqt (hs (Cond.eq (.elem (Term.static "HamperClub" "FIRST_STOCKS" "[I") (.int 0)) (.int 2)) (by decide +kernel))
      | 1, _ => exact va_eqt (hs (Cond.eq (.elem (Term.static "HamperClub" "FIRST_STOCKS" "[I") (.int 1)) (.int 2)) (by decide +kernel))
      | 2, _ => exact va_eqt (hs (Cond.eq (.elem (Term.static "HamperClub" "FIRST_STOCKS" "[I") (.int 2)) (.int 1)) (by decide +kernel))
      | 3, _ => exact va_eqt (hs (Cond.eq (.elem (Term.static "HamperClub" "FIRST_STOCKS" "[I") (.int 3)) (.int 1)) (by decide +kernel))
      | j + 4, hj => omega) (fun a ha => Nat.not_le.mpr ha)
    exact ⟨t, va_Zof (hts (.laysStatic "HamperClub" "FIRST_STOCKS" "[I") (List.mem_of_getElem? (i := 107) (by decide +kernel))) (hts (.initialized "HamperClub") (Tg_sub _ tb_1)) ht (fun a ha => Nat.not_le.mpr ha), hT⟩
  obtain ⟨tp, h1⟩ := hpf
  obtain ⟨ts, h2⟩ := hsf
  exact ⟨tp, ts, h1, h2, va_Nw.of rfl (hts lkP (List.mem_of_getElem? (i := 101) (by decide +kernel))), va_Nw.of rfl (hts lkS (List.mem_of_getElem? (i := 106) (by decide +kernel))), va_AO.of (hts (.arrayOver (.object "HamperClub$State")) (List.mem_of_getElem? (i := 221) (by decide +kernel)))⟩
def pf_cell (L : Nat) (xs : Nat → Int32) (k : Int32) : Int32 := if k < Int32.ofNat L then xs k.toNatClampNeg else 7919 * (k + 31) * (k + 61)
def PreX (b L : Nat) (xs : Nat → Int32) (U : State) : Prop := va_X b L xs U U.heap ∧ b < U.heap.size
theorem cell_blind (b L : Nat) (xs : Nat → Int32) : ∀ (U : State) (g : JFrame) (mk : MethodId) (a : Array Value), PreX b L xs U → PreX b L xs (U.calling g mk a) := fun U g mk a h => ⟨va_X.moved (u := U) (U := U.calling g mk a) (Vm.Alike.refl U.vm) h.1, h.2⟩
theorem cell_pre {b L : Nat} {xs : Nat → Int32} {s : State} {A : Nat → Prop} {H : Heap} {locs : List Loc} (hX : va_X b L xs s s.heap) (hbl : b < s.heap.size) (hbA : ¬ A b) (hS : va_S A s.heap H locs) : ∀ U : State, U.heap = H → s.WarmedH U.vm → PreX b L xs U := fun U hU hW => by
  subst hU
  exact ⟨va_X.moved hW.alike (hX.kept (hS.2.1 b hbl hbA)), Nat.lt_of_lt_of_le hbl hS.1⟩
set_option maxHeartbeats 4000000 in
theorem k_cell (l : Launch) (b L : Nat) (xs : Nat → Int32) (k : Int32) (hi : k < Int32.ofNat L → vp_in k L) : CMx l y_Law_cell b_Law_cell 2 .int 0 [.ref b, .int k] (PreX b L xs) (pf_cell L xs k) := by
  refine CMx.start (by decide) (Nat.le_of_ble_eq_true rfl) (fun p e s m below meth c ls hpre hx hb hr hts hown hml hlocks hl => ?_)
  obtain ⟨hX, hbl⟩ := hpre
  have hbA : ¬ (fun _ : Nat => False) b := fun q => q
  have hS : va_S (fun _ : Nat => False) s.heap s.heap [] := va_S.rf
  have hl : lv_has ls 2 [(0, .ref b), (1, .int k)] := hl
  unfold pf_cell
  refine lv_iload_n hx hb d_Law_cell_0 rfl (lv_at hl 1 rfl) ?_
  refine lv_aload_n hx hb d_Law_cell_1 rfl (lv_at hl 0 rfl) ?_
  refine va_slen hx hb hX hbl hbA hS d_Law_cell_2 ?_
  refine lv_icmp_ge (tgt := 12) hx hb d_Law_cell_3 (by decide) (fun hc => ?_) (fun hc => ?_)
  · rw [if_neg (Int32.not_lt.mpr hc)]
    refine lv_sipush (v := 7919) hx hb d_Law_cell_12 (by decide) ?_
    refine lv_iload_n hx hb d_Law_cell_15 rfl (lv_at hl 1 rfl) ?_
    refine lv_bipush (v := 31) hx hb d_Law_cell_16 (by decide) ?_
    refine lv_iadd hx hb d_Law_cell_18 ?_
    refine lv_imul hx hb d_Law_cell_19 ?_
    refine lv_iload_n hx hb d_Law_cell_20 rfl (lv_at hl 1 rfl) ?_
    refine lv_bipush (v := 61) hx hb d_Law_cell_21 (by decide) ?_
    refine lv_iadd hx hb d_Law_cell_23 ?_
    refine lv_imul hx hb d_Law_cell_24 ?_
    exact r_siret hx hb hr hlocks d_Law_cell_25 rfl
  · have hlt : k < Int32.ofNat L := Int32.not_le.mp hc
    rw [if_pos hlt]
    refine lv_aload_n hx hb d_Law_cell_6 rfl (lv_at hl 0 rfl) ?_
    refine lv_iload_n hx hb d_Law_cell_7 rfl (lv_at hl 1 rfl) ?_
    refine va_sld hx hb hX hbl hbA hS (hi hlt) d_Law_cell_8 ?_
    refine lv_goto (tgt := 25) hx hb d_Law_cell_9 (by decide) ?_
    exact r_siret hx hb hr hlocks d_Law_cell_25 rfl
def wl_Law_law_16 (L : Nat) (xs : Nat → Int32) (K : (CS × Int32 × CS × Int32 × CS × (Nat → Int32) × (Nat → SS) × OS × CS) → Prop) : Nat → Int32 → Int32 → (CS × Int32 × CS × Int32 × CS × (Nat → Int32) × (Nat → SS) × OS × CS) → Prop
  | 0, _, _ => fun _ => False
  | n + 1, a2, a3 => fun u2 => ((((2 : Int32) + (pf_Law_low a2 3)) ≤ a3 → K  (u2.1, u2.2.1, u2.2.2.1, u2.2.2.2.1, u2.2.2.2.2.1, u2.2.2.2.2.2.1, u2.2.2.2.2.2.2.1, u2.2.2.2.2.2.2.2.1, u2.2.2.2.2.2.2.2.2)) ∧ (¬ ((2 : Int32) + (pf_Law_low a2 3)) ≤ a3 → (wp_Ham_join (u2.1, u2.2.1, u2.2.2.1, u2.2.2.2.1, u2.2.2.2.2.1, u2.2.2.2.2.2.1, u2.2.2.2.2.2.2.1, u2.2.2.2.2.2.2.2.1, u2.2.2.2.2.2.2.2.2)  (fun x4 z3 => (wp_Ham_setHamper (z3.1, z3.2.1, z3.2.2.1, z3.2.2.2.1, z3.2.2.2.2.1, z3.2.2.2.2.2.1, z3.2.2.2.2.2.2.1, z3.2.2.2.2.2.2.2.1, z3.2.2.2.2.2.2.2.2) (a3 - a3 / 4 * 4) ((1 : Int32) + (pf_Law_low (a2 >>> (((3 : Int32) * a3) &&& 31)) 12)) (pf_Law_low (a2 >>> (((4 : Int32) + a3) &&& 31)) 3) (fun x6 z5 => (∀ x7 : Int32, x7 = a3 + 1 → wl_Law_law_16 L xs K n a2 x7 (z5.1, z5.2.1, z5.2.2.1, z5.2.2.2.1, z5.2.2.2.2.1, z5.2.2.2.2.2.1, z5.2.2.2.2.2.2.1, z5.2.2.2.2.2.2.2.1, z5.2.2.2.2.2.2.2.2))))))))
def wb_Law_law_184 (L : Nat) (xs : Nat → Int32) (R : Int32 → (CS × Int32 × CS × Int32 × CS × (Nat → Int32) × (Nat → SS) × OS × CS) → Prop) (K : (CS × Int32 × CS × Int32 × CS × (Nat → Int32) × (Nat → SS) × OS × CS) → Prop) : Int32 → Int32 → (CS × Int32 × CS × Int32 × CS × (Nat → Int32) × (Nat → SS) × OS × CS) → Prop := fun a3 a4 u24 => (((a3 - a3 / 4 * 4) = 2 → (wp_Law_isForetold (u24.1, u24.2.1, u24.2.2.1, u24.2.2.2.1, u24.2.2.2.2.1, u24.2.2.2.2.2.1, u24.2.2.2.2.2.2.1, u24.2.2.2.2.2.2.2.1, u24.2.2.2.2.2.2.2.2) (a4 >>> (7 &&& 31)) (fun x27 z26 => ((x27 = 0 → False) ∧ (¬ x27 = 0 → (∀ x28 : Int32, x28 = a3 + 1 → R x28 (z26.1, z26.2.1, z26.2.2.1, z26.2.2.2.1, z26.2.2.2.2.1, z26.2.2.2.2.2.1, z26.2.2.2.2.2.2.1, z26.2.2.2.2.2.2.2.1, z26.2.2.2.2.2.2.2.2))))))) ∧ (¬ (a3 - a3 / 4 * 4) = 2 → (∀ x25 : Int32, x25 = a3 + 1 → R x25 (u24.1, u24.2.1, u24.2.2.1, u24.2.2.2.1, u24.2.2.2.2.1, u24.2.2.2.2.2.1, u24.2.2.2.2.2.2.1, u24.2.2.2.2.2.2.2.1, u24.2.2.2.2.2.2.2.2))))
def wb_Law_law_170 (L : Nat) (xs : Nat → Int32) (R : Int32 → (CS × Int32 × CS × Int32 × CS × (Nat → Int32) × (Nat → SS) × OS × CS) → Prop) (K : (CS × Int32 × CS × Int32 × CS × (Nat → Int32) × (Nat → SS) × OS × CS) → Prop) : Int32 → Int32 → (CS × Int32 × CS × Int32 × CS × (Nat → Int32) × (Nat → SS) × OS × CS) → Prop := fun a3 a4 u23 => (((a3 - a3 / 2 * 2) = 1 → (wp_Law_isSound (u23.1, u23.2.1, u23.2.2.1, u23.2.2.2.1, u23.2.2.2.2.1, u23.2.2.2.2.2.1, u23.2.2.2.2.2.2.1, u23.2.2.2.2.2.2.2.1, u23.2.2.2.2.2.2.2.2) (fun x30 z29 => ((x30 = 0 → False) ∧ (¬ x30 = 0 → wb_Law_law_184 L xs R K a3 a4 (z29.1, z29.2.1, z29.2.2.1, z29.2.2.2.1, z29.2.2.2.2.1, z29.2.2.2.2.2.1, z29.2.2.2.2.2.2.1, z29.2.2.2.2.2.2.2.1, z29.2.2.2.2.2.2.2.2)))))) ∧ (¬ (a3 - a3 / 2 * 2) = 1 → wb_Law_law_184 L xs R K a3 a4 (u23.1, u23.2.1, u23.2.2.1, u23.2.2.2.1, u23.2.2.2.2.1, u23.2.2.2.2.2.1, u23.2.2.2.2.2.2.1, u23.2.2.2.2.2.2.2.1, u23.2.2.2.2.2.2.2.2)))
def wb_Law_law_136 (L : Nat) (xs : Nat → Int32) (R : Int32 → (CS × Int32 × CS × Int32 × CS × (Nat → Int32) × (Nat → SS) × OS × CS) → Prop) (K : (CS × Int32 × CS × Int32 × CS × (Nat → Int32) × (Nat → SS) × OS × CS) → Prop) : Int32 → Int32 → Int64 → Int32 → (CS × Int32 × CS × Int32 × CS × (Nat → Int32) × (Nat → SS) × OS × CS) → Prop := fun a3 a4 a5 a7 u22 => ((a7 < 0 → wb_Law_law_170 L xs R K a3 a4 (u22.1, u22.2.1, u22.2.2.1, u22.2.2.2.1, u22.2.2.2.2.1, u22.2.2.2.2.2.1, u22.2.2.2.2.2.2.1, u22.2.2.2.2.2.2.2.1, u22.2.2.2.2.2.2.2.2)) ∧ (¬ a7 < 0 → ((((a4 >>> (28 &&& 31)) &&& 3) = 0 → (wp_Ham_undo (u22.1, u22.2.1, u22.2.2.1, u22.2.2.2.1, u22.2.2.2.2.1, u22.2.2.2.2.2.1, u22.2.2.2.2.2.2.1, u22.2.2.2.2.2.2.2.1, u22.2.2.2.2.2.2.2.2)  (fun x32 z31 => ((x32 < 0 → False) ∧ (¬ x32 < 0 → (wp_Law_all (z31.1, z31.2.1, z31.2.2.1, z31.2.2.2.1, z31.2.2.2.2.1, z31.2.2.2.2.2.1, z31.2.2.2.2.2.2.1, z31.2.2.2.2.2.2.2.1, z31.2.2.2.2.2.2.2.2) (fun x34 z33 => (((lg_cmp x34 a5) = 0 → wb_Law_law_170 L xs R K a3 a4 (z33.1, z33.2.1, z33.2.2.1, z33.2.2.2.1, z33.2.2.2.2.1, z33.2.2.2.2.2.1, z33.2.2.2.2.2.2.1, z33.2.2.2.2.2.2.2.1, z33.2.2.2.2.2.2.2.2)) ∧ (¬ (lg_cmp x34 a5) = 0 → False))))))))) ∧ (¬ ((a4 >>> (28 &&& 31)) &&& 3) = 0 → wb_Law_law_170 L xs R K a3 a4 (u22.1, u22.2.1, u22.2.2.1, u22.2.2.2.1, u22.2.2.2.2.1, u22.2.2.2.2.2.1, u22.2.2.2.2.2.2.1, u22.2.2.2.2.2.2.2.1, u22.2.2.2.2.2.2.2.2)))))
def wl_Law_law_90 (L : Nat) (xs : Nat → Int32) (K : (CS × Int32 × CS × Int32 × CS × (Nat → Int32) × (Nat → SS) × OS × CS) → Prop) : Nat → Int32 → (CS × Int32 × CS × Int32 × CS × (Nat → Int32) × (Nat → SS) × OS × CS) → Prop
  | 0, _ => fun _ => False
  | n + 1, a3 => fun u15 => ((26 ≤ a3 → K  (u15.1, u15.2.1, u15.2.2.1, u15.2.2.2.1, u15.2.2.2.2.1, u15.2.2.2.2.2.1, u15.2.2.2.2.2.2.1, u15.2.2.2.2.2.2.2.1, u15.2.2.2.2.2.2.2.2)) ∧ (¬ 26 ≤ a3 → ((((1 : Int32) + a3) < Int32.ofNat L → vp_in ((1 : Int32) + a3) L) ∧ (∀ x16 : Int32, x16 = (pf_cell L xs ((1 : Int32) + a3)) → (wp_Law_all (u15.1, u15.2.1, u15.2.2.1, u15.2.2.2.1, u15.2.2.2.2.1, u15.2.2.2.2.2.1, u15.2.2.2.2.2.2.1, u15.2.2.2.2.2.2.2.1, u15.2.2.2.2.2.2.2.2) (fun x18 z17 => (∀ x19 : Int64, x19 = x18 → (wp_Law_acts (z17.1, z17.2.1, z17.2.2.1, z17.2.2.2.1, z17.2.2.2.2.1, z17.2.2.2.2.2.1, z17.2.2.2.2.2.2.1, z17.2.2.2.2.2.2.2.1, z17.2.2.2.2.2.2.2.2) x16 (fun x21 z20 => ((0 ≤ x21 → wb_Law_law_136 L xs (wl_Law_law_90 L xs K n) K a3 x16 x19 x21 (z20.1, z20.2.1, z20.2.2.1, z20.2.2.2.1, z20.2.2.2.2.1, z20.2.2.2.2.2.1, z20.2.2.2.2.2.2.1, z20.2.2.2.2.2.2.2.1, z20.2.2.2.2.2.2.2.2)) ∧ (¬ 0 ≤ x21 → (wp_Law_all (z20.1, z20.2.1, z20.2.2.1, z20.2.2.2.1, z20.2.2.2.2.1, z20.2.2.2.2.2.1, z20.2.2.2.2.2.2.1, z20.2.2.2.2.2.2.2.1, z20.2.2.2.2.2.2.2.2) (fun x36 z35 => (((lg_cmp x36 x19) = 0 → wb_Law_law_136 L xs (wl_Law_law_90 L xs K n) K a3 x16 x19 x21 (z35.1, z35.2.1, z35.2.2.1, z35.2.2.2.1, z35.2.2.2.2.1, z35.2.2.2.2.2.1, z35.2.2.2.2.2.2.1, z35.2.2.2.2.2.2.2.1, z35.2.2.2.2.2.2.2.2)) ∧ (¬ (lg_cmp x36 x19) = 0 → False)))))))))))))))
def wb_Law_8 (L : Nat) (xs : Nat → Int32) (u : (CS × Int32 × CS × Int32 × CS × (Nat → Int32) × (Nat → SS) × OS × CS)) : Prop := (((0 : Int32) < Int32.ofNat L → vp_in (0 : Int32) L) ∧ (∀ x1 : Int32, x1 = (pf_cell L xs (0 : Int32)) → (∃ k78 : Nat, wl_Law_law_16 L xs (fun u8 => (wp_Ham_append (u8.1, u8.2.1, u8.2.2.1, u8.2.2.2.1, u8.2.2.2.2.1, u8.2.2.2.2.2.1, u8.2.2.2.2.2.2.1, u8.2.2.2.2.2.2.2.1, u8.2.2.2.2.2.2.2.2) 48 (fun x10 z9 => (wp_Ham_append (z9.1, z9.2.1, z9.2.2.1, z9.2.2.2.1, z9.2.2.2.2.1, z9.2.2.2.2.2.1, z9.2.2.2.2.2.2.1, z9.2.2.2.2.2.2.2.1, z9.2.2.2.2.2.2.2.2) 43 (fun x12 z11 => (wp_Ham_append (z11.1, z11.2.1, z11.2.2.1, z11.2.2.2.1, z11.2.2.2.2.1, z11.2.2.2.2.2.1, z11.2.2.2.2.2.2.1, z11.2.2.2.2.2.2.2.1, z11.2.2.2.2.2.2.2.2) 51 (fun x14 z13 => (∃ k77 : Nat, wl_Law_law_90 L xs (fun u37 => (wp_Ham_take (u37.1, u37.2.1, u37.2.2.1, u37.2.2.2.1, u37.2.2.2.2.1, u37.2.2.2.2.2.1, u37.2.2.2.2.2.2.1, u37.2.2.2.2.2.2.2.1, u37.2.2.2.2.2.2.2.2) 0 (fun x39 z38 => (wp_Ham_count (z38.1, z38.2.1, z38.2.2.1, z38.2.2.2.1, z38.2.2.2.2.1, z38.2.2.2.2.2.1, z38.2.2.2.2.2.2.1, z38.2.2.2.2.2.2.2.1, z38.2.2.2.2.2.2.2.2) 0 (fun x41 z40 => ((x39 = x41 → (wp_Law_all (z40.1, z40.2.1, z40.2.2.1, z40.2.2.2.1, z40.2.2.2.2.1, z40.2.2.2.2.2.1, z40.2.2.2.2.2.2.1, z40.2.2.2.2.2.2.2.1, z40.2.2.2.2.2.2.2.2) (fun x43 z42 => (∀ x44 : Int64, x44 = x43 → (wp_Ham_stick (z42.1, z42.2.1, z42.2.2.1, z42.2.2.2.1, z42.2.2.2.2.1, z42.2.2.2.2.2.1, z42.2.2.2.2.2.2.1, z42.2.2.2.2.2.2.2.1, z42.2.2.2.2.2.2.2.2) 0 1 (fun x46 z45 => (wp_Ham_week (z45.1, z45.2.1, z45.2.2.1, z45.2.2.2.1, z45.2.2.2.2.1, z45.2.2.2.2.2.1, z45.2.2.2.2.2.2.1, z45.2.2.2.2.2.2.2.1, z45.2.2.2.2.2.2.2.2)  (fun x48 z47 => (wp_Ham_choose (z47.1, z47.2.1, z47.2.2.1, z47.2.2.2.1, z47.2.2.2.2.1, z47.2.2.2.2.2.1, z47.2.2.2.2.2.2.1, z47.2.2.2.2.2.2.2.1, z47.2.2.2.2.2.2.2.2) 0 3 (fun x50 z49 => (wp_Ham_restore (z49.1, z49.2.1, z49.2.2.1, z49.2.2.2.1, z49.2.2.2.2.1, z49.2.2.2.2.2.1, z49.2.2.2.2.2.2.1, z49.2.2.2.2.2.2.2.1, z49.2.2.2.2.2.2.2.2) 0 (fun x52 z51 => (wp_Ham_count (z51.1, z51.2.1, z51.2.2.1, z51.2.2.2.1, z51.2.2.2.2.1, z51.2.2.2.2.2.1, z51.2.2.2.2.2.2.1, z51.2.2.2.2.2.2.2.1, z51.2.2.2.2.2.2.2.2) 0 (fun x54 z53 => ((x52 = x54 → (wp_Law_all (z53.1, z53.2.1, z53.2.2.1, z53.2.2.2.1, z53.2.2.2.2.1, z53.2.2.2.2.2.1, z53.2.2.2.2.2.2.1, z53.2.2.2.2.2.2.2.1, z53.2.2.2.2.2.2.2.2) (fun x56 z55 => (((lg_cmp x56 x44) = 0 → (wp_Ham_undo (z55.1, z55.2.1, z55.2.2.1, z55.2.2.2.1, z55.2.2.2.2.1, z55.2.2.2.2.2.1, z55.2.2.2.2.2.2.1, z55.2.2.2.2.2.2.2.1, z55.2.2.2.2.2.2.2.2)  (fun x58 z57 => ((x58 < 0 → False) ∧ (¬ x58 < 0 → (wp_Ham_restore (z57.1, z57.2.1, z57.2.2.1, z57.2.2.2.1, z57.2.2.2.2.1, z57.2.2.2.2.2.1, z57.2.2.2.2.2.2.1, z57.2.2.2.2.2.2.2.1, z57.2.2.2.2.2.2.2.2) 0 (fun x60 z59 => ((x60 < 0 → False) ∧ (¬ x60 < 0 → (wp_Law_all (z59.1, z59.2.1, z59.2.2.1, z59.2.2.2.1, z59.2.2.2.2.1, z59.2.2.2.2.2.1, z59.2.2.2.2.2.2.1, z59.2.2.2.2.2.2.2.1, z59.2.2.2.2.2.2.2.2) (fun x62 z61 => (((lg_cmp x62 x44) = 0 → (wp_Ham_take (z61.1, z61.2.1, z61.2.2.1, z61.2.2.2.1, z61.2.2.2.2.1, z61.2.2.2.2.2.1, z61.2.2.2.2.2.2.1, z61.2.2.2.2.2.2.2.1, z61.2.2.2.2.2.2.2.2) 2 (fun x64 z63 => ((x64 = (-1) → (wp_Ham_restore (z63.1, z63.2.1, z63.2.2.1, z63.2.2.2.1, z63.2.2.2.2.1, z63.2.2.2.2.2.1, z63.2.2.2.2.2.2.1, z63.2.2.2.2.2.2.2.1, z63.2.2.2.2.2.2.2.2) (-1) (fun x66 z65 => ((x66 = (-1) → (wp_Ham_count (z65.1, z65.2.1, z65.2.2.1, z65.2.2.2.1, z65.2.2.2.2.1, z65.2.2.2.2.2.1, z65.2.2.2.2.2.2.1, z65.2.2.2.2.2.2.2.1, z65.2.2.2.2.2.2.2.2) 16 (fun x68 z67 => ((x68 = (-1) → (wp_Ham_member (z67.1, z67.2.1, z67.2.2.1, z67.2.2.2.1, z67.2.2.2.2.1, z67.2.2.2.2.2.1, z67.2.2.2.2.2.2.1, z67.2.2.2.2.2.2.2.1, z67.2.2.2.2.2.2.2.2) 12 0 (fun x70 z69 => ((x70 = (-1) → (wp_Ham_would (z69.1, z69.2.1, z69.2.2.1, z69.2.2.2.1, z69.2.2.2.2.1, z69.2.2.2.2.2.1, z69.2.2.2.2.2.2.1, z69.2.2.2.2.2.2.2.1, z69.2.2.2.2.2.2.2.2) 0 3 (fun x72 z71 => ((x72 = (-1) → (wp_Ham_weeksFor (z71.1, z71.2.1, z71.2.2.1, z71.2.2.2.1, z71.2.2.2.2.1, z71.2.2.2.2.2.1, z71.2.2.2.2.2.2.1, z71.2.2.2.2.2.2.2.1, z71.2.2.2.2.2.2.2.2) 0 4 1 (fun x74 z73 => ((x74 = (-1) → (wp_Ham_weeksFor (z73.1, z73.2.1, z73.2.2.1, z73.2.2.2.1, z73.2.2.2.2.1, z73.2.2.2.2.2.1, z73.2.2.2.2.2.2.1, z73.2.2.2.2.2.2.2.1, z73.2.2.2.2.2.2.2.2) 0 0 6 (fun x76 z75 => ((x76 = (-1) → True) ∧ (¬ x76 = (-1) → False))))) ∧ (¬ x74 = (-1) → False))))) ∧ (¬ x72 = (-1) → False))))) ∧ (¬ x70 = (-1) → False))))) ∧ (¬ x68 = (-1) → False))))) ∧ (¬ x66 = (-1) → False))))) ∧ (¬ x64 = (-1) → False))))) ∧ (¬ (lg_cmp x62 x44) = 0 → False))))))))))))) ∧ (¬ (lg_cmp x56 x44) = 0 → False))))) ∧ (¬ x52 = x54 → False)))))))))))))))) ∧ (¬ x39 = x41 → False))))))) k77 0 (z13.1, z13.2.1, z13.2.2.1, z13.2.2.2.1, z13.2.2.2.2.1, z13.2.2.2.2.2.1, z13.2.2.2.2.2.2.1, z13.2.2.2.2.2.2.2.1, z13.2.2.2.2.2.2.2.2))))))))) k78 x1 0 (u.1, u.2.1, u.2.2.1, u.2.2.2.1, u.2.2.2.2.1, u.2.2.2.2.2.1, u.2.2.2.2.2.2.1, u.2.2.2.2.2.2.2.1, u.2.2.2.2.2.2.2.2))))
theorem so_Law_95 : StOk y_Law_cell b_Law_cell 2 (some .int) 2 "HamperClubLaw" 95 := ⟨tb_534, tb_535, tb_0, tb_536, by decide +kernel⟩
theorem ok_Law_99 : CallOk y_Ham_append b_Ham_append 2 (some .int) 1 1 "HamperClubLaw" 99 := ⟨tb_420, tb_421, tb_422, tb_1, tb_423, by decide +kernel⟩
theorem so_Law_102 : StOk y_Law_acts b_Law_acts 4 (some .int) 2 "HamperClubLaw" 102 := ⟨tb_586, tb_587, tb_0, tb_588, by decide +kernel⟩
theorem so_Law_106 : StOk y_Law_isForetold b_Law_isForetold 16 (some .boolean) 2 "HamperClubLaw" 106 := ⟨tb_571, tb_572, tb_0, tb_573, by decide +kernel⟩
theorem ok_Law_110 : CallOk y_Ham_weeksFor b_Ham_weeksFor 7 (some .int) 1 3 "HamperClubLaw" 110 := ⟨tb_527, tb_528, tb_529, tb_1, tb_530, by decide +kernel⟩
set_option maxHeartbeats 40000000 in
set_option maxRecDepth 100000 in
theorem x_Law_law_16 {p : Program} {l : Launch} {e : Env} {s : State} {m : MethodId} {below : List Frame} {meth : Method} {c : Code} {G : GG} {qm qa0 qa1 qa2 qa3 qa4 qa5 qh qo qt : Nat → Nat} {af : Nat → Nat → Nat → Nat} {b L : Nat} {xs : Nat → Int32} {K : (CS × Int32 × CS × Int32 × CS × (Nat → Int32) × (Nat → SS) × OS × CS) → Prop} {cells slots : Nat} (hkc : cells ≤ 600000) (hks : slots ≤ 7302250) (C0 : lw_At p s m meth c b L xs) (hK : KN G s)
    (kk : ∀ (u : (CS × Int32 × CS × Int32 × CS × (Nat → Int32) × (Nat → SS) × OS × CS)), K  u → ∀ (H : Heap) (locs : List Loc) (ls : Array Slot), va_P G.1 classes (hamW G qm qa0 qh qo qt ++ (staW G qa0 qa1 qa2 qa4 ++ (clubW G qa1 u.1 ++ (snpW G qa2 qa3 u.2.1 ++ (clubW G qa3 u.2.2.1 ++ (snpW G qa4 qa5 u.2.2.2.1 ++ (clubW G qa5 u.2.2.2.2.1 ++ (hisW G qh af u.2.2.2.2.2.1 ++ (frW G af u.2.2.2.2.2.2.1 0 6 ++ (ordW G qo u.2.2.2.2.2.2.2.1 ++ clubW G qt u.2.2.2.2.2.2.2.2)))))))))) H → va_D (fun q : Nat => s.heap.size ≤ q) (hamW G qm qa0 qh qo qt ++ (staW G qa0 qa1 qa2 qa4 ++ (clubW G qa1 u.1 ++ (snpW G qa2 qa3 u.2.1 ++ (clubW G qa3 u.2.2.1 ++ (snpW G qa4 qa5 u.2.2.2.1 ++ (clubW G qa5 u.2.2.2.2.1 ++ (hisW G qh af u.2.2.2.2.2.1 ++ (frW G af u.2.2.2.2.2.2.1 0 6 ++ (ordW G qo u.2.2.2.2.2.2.2.1 ++ clubW G qt u.2.2.2.2.2.2.2.2)))))))))) → va_S (fun q : Nat => s.heap.size ≤ q) s.heap H locs → lv_has ls 8 [(0, .ref b), (1, .ref (qm 0))] → W p l e room_1 s m #[Value.ref b] below meth c H locs cells slots (lw_Z below #[Value.ref b] s) (F0 m 67 ls [])) :
    ∀ (n : Nat) (a2 : Int32) (a3 : Int32) (u : (CS × Int32 × CS × Int32 × CS × (Nat → Int32) × (Nat → SS) × OS × CS)), wl_Law_law_16 L xs K n a2 a3 u → ∀ (H : Heap) (locs : List Loc) (ls : Array Slot), va_P G.1 classes (hamW G qm qa0 qh qo qt ++ (staW G qa0 qa1 qa2 qa4 ++ (clubW G qa1 u.1 ++ (snpW G qa2 qa3 u.2.1 ++ (clubW G qa3 u.2.2.1 ++ (snpW G qa4 qa5 u.2.2.2.1 ++ (clubW G qa5 u.2.2.2.2.1 ++ (hisW G qh af u.2.2.2.2.2.1 ++ (frW G af u.2.2.2.2.2.2.1 0 6 ++ (ordW G qo u.2.2.2.2.2.2.2.1 ++ clubW G qt u.2.2.2.2.2.2.2.2)))))))))) H → va_D (fun q : Nat => s.heap.size ≤ q) (hamW G qm qa0 qh qo qt ++ (staW G qa0 qa1 qa2 qa4 ++ (clubW G qa1 u.1 ++ (snpW G qa2 qa3 u.2.1 ++ (clubW G qa3 u.2.2.1 ++ (snpW G qa4 qa5 u.2.2.2.1 ++ (clubW G qa5 u.2.2.2.2.1 ++ (hisW G qh af u.2.2.2.2.2.1 ++ (frW G af u.2.2.2.2.2.2.1 0 6 ++ (ordW G qo u.2.2.2.2.2.2.2.1 ++ clubW G qt u.2.2.2.2.2.2.2.2)))))))))) → va_S (fun q : Nat => s.heap.size ≤ q) s.heap H locs → lv_has ls 8 [(0, .ref b), (1, .ref (qm 0)), (2, .int a2), (3, .int a3)] → W p l e room_1 s m #[Value.ref b] below meth c H locs cells slots (lw_Z below #[Value.ref b] s) (F0 m 16 ls []) := by
  obtain ⟨hx, hb, hr, hml, hown, hts0, hX, hbl, hlocks, hgv⟩ := id C0
  have hts : ∀ w ∈ Tg, w.before #[Value.ref b] s = true := fun w hw => hts0 w (Tg_sub w hw)
  have hA : ∀ q : Nat, s.heap.size ≤ q → (fun q : Nat => s.heap.size ≤ q) q := fun _ h => h
  have hbA : ¬ (fun q : Nat => s.heap.size ≤ q) b := Nat.not_le.mpr hbl
  have hcs1 : cells ≤ room_1.cells := hkc
  have hcs2 : slots ≤ room_1.slots := hks
  intro n
  induction n with
  | zero => intro a2 a3 u h; exact h.elim
  | succ n ih =>
    intro a2 a3 u2 h H locs ls hP hD hS hl
    unfold wl_Law_law_16 at h
    refine lv_iload_n hx hb d_Law_law_16 rfl (lv_at hl 3 rfl) ?_
    refine lv_iconst (v := 2) hx hb d_Law_law_17 (by decide) ?_
    refine lv_iload_n hx hb d_Law_law_18 rfl (lv_at hl 2 rfl) ?_
    refine lv_iconst (v := 3) hx hb d_Law_law_19 (by decide) ?_
    refine call_S (As := [.int a2, .int 3]) (rest := [.int 2, .int a3]) hx hb hml hts hown so_Law_39 rfl ⟨Nat.le_of_ble_eq_true rfl, Nat.le_of_ble_eq_true rfl⟩ ⟨hcs1, hcs2⟩ hl.1 rfl (Nat.le_of_ble_eq_true rfl) d_Law_law_20 (k_Law_low l a2 3 (by decide)) ?_
    refine lv_iadd hx hb d_Law_law_23 ?_
    refine lv_icmp_ge (tgt := 67) hx hb d_Law_law_24 (by decide) (fun hc => ?_) (fun hc => ?_)
    · have h := h.1 hc
      exact kk  (u2.1, u2.2.1, u2.2.2.1, u2.2.2.2.1, u2.2.2.2.2.1, u2.2.2.2.2.2.1, u2.2.2.2.2.2.2.1, u2.2.2.2.2.2.2.2.1, u2.2.2.2.2.2.2.2.2) h _ _ _ hP hD hS (lv_sub hl [0, 1] rfl)
    · have h := h.2 hc
      refine lv_aload_n hx hb d_Law_law_27 rfl (lv_at hl 1 rfl) ?_
      have hP := SW.P (sw_11_0_1_2_3_4_5_6_7_8_9_10 (hamW G qm qa0 qh qo qt) (staW G qa0 qa1 qa2 qa4) (clubW G qa1 u2.1) (snpW G qa2 qa3 u2.2.1) (clubW G qa3 u2.2.2.1) (snpW G qa4 qa5 u2.2.2.2.1) (clubW G qa5 u2.2.2.2.2.1) (hisW G qh af u2.2.2.2.2.2.1) (frW G af u2.2.2.2.2.2.2.1 0 6) (ordW G qo u2.2.2.2.2.2.2.2.1) (clubW G qt u2.2.2.2.2.2.2.2.2)) hP
      have hD := SW.D (sw_11_0_1_2_3_4_5_6_7_8_9_10 (hamW G qm qa0 qh qo qt) (staW G qa0 qa1 qa2 qa4) (clubW G qa1 u2.1) (snpW G qa2 qa3 u2.2.1) (clubW G qa3 u2.2.2.1) (snpW G qa4 qa5 u2.2.2.2.1) (clubW G qa5 u2.2.2.2.2.1) (hisW G qh af u2.2.2.2.2.2.1) (frW G af u2.2.2.2.2.2.2.1 0 6) (ordW G qo u2.2.2.2.2.2.2.2.1) (clubW G qt u2.2.2.2.2.2.2.2.2)) hD
      refine call_ViP (own := "HamperClubLaw") (As := []) (rest := []) (q0 := 0) (ci := 8) (wc := hamW G qm qa0 qh qo qt ++ (staW G qa0 qa1 qa2 qa4 ++ (clubW G qa1 u2.1 ++ (snpW G qa2 qa3 u2.2.1 ++ (clubW G qa3 u2.2.2.1 ++ (snpW G qa4 qa5 u2.2.2.2.1 ++ (clubW G qa5 u2.2.2.2.2.1 ++ (hisW G qh af u2.2.2.2.2.2.1 ++ (frW G af u2.2.2.2.2.2.2.1 0 6 ++ (ordW G qo u2.2.2.2.2.2.2.2.1 ++ clubW G qt u2.2.2.2.2.2.2.2.2)))))))))) (post := []) hx hb hml hts hown hK hA hP hD hS ok_Law_60 rfl ⟨Nat.le_of_ble_eq_true rfl, Nat.le_of_ble_eq_true rfl⟩ ⟨hcs1, hcs2⟩ rfl rfl rfl hl.1 rfl (Nat.le_of_ble_eq_true rfl) d_Law_law_28 (c_Ham_join l G qm qa0 qa1 qa2 qa3 qa4 qa5 qh qo qt af _ (u2.1, u2.2.1, u2.2.2.1, u2.2.2.2.1, u2.2.2.2.2.1, u2.2.2.2.2.2.1, u2.2.2.2.2.2.2.1, u2.2.2.2.2.2.2.2.1, u2.2.2.2.2.2.2.2.2)  _ h) (fun x4 z3 H locs h hP hD hS => ?_)
      have hP := SW.P (sw_11_0_1_2_3_4_5_6_7_8_9_10 (hamW G qm qa0 qh qo qt) (staW G qa0 qa1 qa2 qa4) (clubW G qa1 z3.1) (snpW G qa2 qa3 z3.2.1) (clubW G qa3 z3.2.2.1) (snpW G qa4 qa5 z3.2.2.2.1) (clubW G qa5 z3.2.2.2.2.1) (hisW G qh af z3.2.2.2.2.2.1) (frW G af z3.2.2.2.2.2.2.1 0 6) (ordW G qo z3.2.2.2.2.2.2.2.1) (clubW G qt z3.2.2.2.2.2.2.2.2)).symm hP
      have hD := SW.D (sw_11_0_1_2_3_4_5_6_7_8_9_10 (hamW G qm qa0 qh qo qt) (staW G qa0 qa1 qa2 qa4) (clubW G qa1 z3.1) (snpW G qa2 qa3 z3.2.1) (clubW G qa3 z3.2.2.1) (snpW G qa4 qa5 z3.2.2.2.1) (clubW G qa5 z3.2.2.2.2.1) (hisW G qh af z3.2.2.2.2.2.1) (frW G af z3.2.2.2.2.2.2.1 0 6) (ordW G qo z3.2.2.2.2.2.2.2.1) (clubW G qt z3.2.2.2.2.2.2.2.2)).symm hD
      refine lv_pop hx hb d_Law_law_31 rfl ?_
      refine lv_aload_n hx hb d_Law_law_32 rfl (lv_at hl 1 rfl) ?_
      refine lv_iload_n hx hb d_Law_law_33 rfl (lv_at hl 3 rfl) ?_
      refine lv_iconst (v := 4) hx hb d_Law_law_34 (by decide) ?_
      refine lv_irem hx hb d_Law_law_35 (by decide) ?_
      refine lv_iconst (v := 1) hx hb d_Law_law_36 (by decide) ?_
      refine lv_iload_n hx hb d_Law_law_37 rfl (lv_at hl 2 rfl) ?_
      refine lv_iconst (v := 3) hx hb d_Law_law_38 (by decide) ?_
      refine lv_iload_n hx hb d_Law_law_39 rfl (lv_at hl 3 rfl) ?_
      refine lv_imul hx hb d_Law_law_40 ?_
      refine lv_ishr hx hb d_Law_law_41 ?_
      refine lv_bipush (v := 12) hx hb d_Law_law_42 (by decide) ?_
      refine call_S (As := [.int (a2 >>> (((3 : Int32) * a3) &&& 31)), .int 12]) (rest := [.int 1, .int (a3 - a3 / 4 * 4), .ref (qm 0)]) hx hb hml hts hown so_Law_39 rfl ⟨Nat.le_of_ble_eq_true rfl, Nat.le_of_ble_eq_true rfl⟩ ⟨hcs1, hcs2⟩ hl.1 rfl (Nat.le_of_ble_eq_true rfl) d_Law_law_44 (k_Law_low l (a2 >>> (((3 : Int32) * a3) &&& 31)) 12 (by decide)) ?_
      refine lv_iadd hx hb d_Law_law_47 ?_
      refine lv_iload_n hx hb d_Law_law_48 rfl (lv_at hl 2 rfl) ?_
      refine lv_iconst (v := 4) hx hb d_Law_law_49 (by decide) ?_
      refine lv_iload_n hx hb d_Law_law_50 rfl (lv_at hl 3 rfl) ?_
      refine lv_iadd hx hb d_Law_law_51 ?_
      refine lv_ishr hx hb d_Law_law_52 ?_
      refine lv_iconst (v := 3) hx hb d_Law_law_53 (by decide) ?_
      refine call_S (As := [.int (a2 >>> (((4 : Int32) + a3) &&& 31)), .int 3]) (rest := [.int ((1 : Int32) + (pf_Law_low (a2 >>> (((3 : Int32) * a3) &&& 31)) 12)), .int (a3 - a3 / 4 * 4), .ref (qm 0)]) hx hb hml hts hown so_Law_39 rfl ⟨Nat.le_of_ble_eq_true rfl, Nat.le_of_ble_eq_true rfl⟩ ⟨hcs1, hcs2⟩ hl.1 rfl (Nat.le_of_ble_eq_true rfl) d_Law_law_54 (k_Law_low l (a2 >>> (((4 : Int32) + a3) &&& 31)) 3 (by decide)) ?_
      have hP := SW.P (sw_11_0_1_2_3_4_5_6_7_8_9_10 (hamW G qm qa0 qh qo qt) (staW G qa0 qa1 qa2 qa4) (clubW G qa1 z3.1) (snpW G qa2 qa3 z3.2.1) (clubW G qa3 z3.2.2.1) (snpW G qa4 qa5 z3.2.2.2.1) (clubW G qa5 z3.2.2.2.2.1) (hisW G qh af z3.2.2.2.2.2.1) (frW G af z3.2.2.2.2.2.2.1 0 6) (ordW G qo z3.2.2.2.2.2.2.2.1) (clubW G qt z3.2.2.2.2.2.2.2.2)) hP
      have hD := SW.D (sw_11_0_1_2_3_4_5_6_7_8_9_10 (hamW G qm qa0 qh qo qt) (staW G qa0 qa1 qa2 qa4) (clubW G qa1 z3.1) (snpW G qa2 qa3 z3.2.1) (clubW G qa3 z3.2.2.1) (snpW G qa4 qa5 z3.2.2.2.1) (clubW G qa5 z3.2.2.2.2.1) (hisW G qh af z3.2.2.2.2.2.1) (frW G af z3.2.2.2.2.2.2.1 0 6) (ordW G qo z3.2.2.2.2.2.2.2.1) (clubW G qt z3.2.2.2.2.2.2.2.2)) hD
      refine call_ViP (own := "HamperClubLaw") (As := [.int (a3 - a3 / 4 * 4), .int ((1 : Int32) + (pf_Law_low (a2 >>> (((3 : Int32) * a3) &&& 31)) 12)), .int (pf_Law_low (a2 >>> (((4 : Int32) + a3) &&& 31)) 3)]) (rest := []) (q0 := 0) (ci := 8) (wc := hamW G qm qa0 qh qo qt ++ (staW G qa0 qa1 qa2 qa4 ++ (clubW G qa1 z3.1 ++ (snpW G qa2 qa3 z3.2.1 ++ (clubW G qa3 z3.2.2.1 ++ (snpW G qa4 qa5 z3.2.2.2.1 ++ (clubW G qa5 z3.2.2.2.2.1 ++ (hisW G qh af z3.2.2.2.2.2.1 ++ (frW G af z3.2.2.2.2.2.2.1 0 6 ++ (ordW G qo z3.2.2.2.2.2.2.2.1 ++ clubW G qt z3.2.2.2.2.2.2.2.2)))))))))) (post := []) hx hb hml hts hown hK hA hP hD hS ok_Law_78 rfl ⟨Nat.le_of_ble_eq_true rfl, Nat.le_of_ble_eq_true rfl⟩ ⟨hcs1, hcs2⟩ rfl rfl rfl hl.1 rfl (Nat.le_of_ble_eq_true rfl) d_Law_law_57 (c_Ham_setHamper l G qm qa0 qa1 qa2 qa3 qa4 qa5 qh qo qt af _ (z3.1, z3.2.1, z3.2.2.1, z3.2.2.2.1, z3.2.2.2.2.1, z3.2.2.2.2.2.1, z3.2.2.2.2.2.2.1, z3.2.2.2.2.2.2.2.1, z3.2.2.2.2.2.2.2.2) (a3 - a3 / 4 * 4) ((1 : Int32) + (pf_Law_low (a2 >>> (((3 : Int32) * a3) &&& 31)) 12)) (pf_Law_low (a2 >>> (((4 : Int32) + a3) &&& 31)) 3) _ h) (fun x6 z5 H locs h hP hD hS => ?_)
      have hP := SW.P (sw_11_0_1_2_3_4_5_6_7_8_9_10 (hamW G qm qa0 qh qo qt) (staW G qa0 qa1 qa2 qa4) (clubW G qa1 z5.1) (snpW G qa2 qa3 z5.2.1) (clubW G qa3 z5.2.2.1) (snpW G qa4 qa5 z5.2.2.2.1) (clubW G qa5 z5.2.2.2.2.1) (hisW G qh af z5.2.2.2.2.2.1) (frW G af z5.2.2.2.2.2.2.1 0 6) (ordW G qo z5.2.2.2.2.2.2.2.1) (clubW G qt z5.2.2.2.2.2.2.2.2)).symm hP
      have hD := SW.D (sw_11_0_1_2_3_4_5_6_7_8_9_10 (hamW G qm qa0 qh qo qt) (staW G qa0 qa1 qa2 qa4) (clubW G qa1 z5.1) (snpW G qa2 qa3 z5.2.1) (clubW G qa3 z5.2.2.1) (snpW G qa4 qa5 z5.2.2.2.1) (clubW G qa5 z5.2.2.2.2.1) (hisW G qh af z5.2.2.2.2.2.1) (frW G af z5.2.2.2.2.2.2.1 0 6) (ordW G qo z5.2.2.2.2.2.2.2.1) (clubW G qt z5.2.2.2.2.2.2.2.2)).symm hD
      refine lv_pop hx hb d_Law_law_60 rfl ?_
      obtain ⟨x7, ex7⟩ : ∃ y : Int32, y = a3 + 1 := ⟨_, rfl⟩
      have h := h x7 ex7
      refine lv_iinc (v := x7) (lv' := [(3, .int x7), (0, .ref b), (1, .ref (qm 0)), (2, .int a2)]) hx hb d_Law_law_61 hl (k := 3) rfl (by rw [ex7]; rfl) (by decide) rfl (fun ls hl => ?_)
      refine lv_goto (tgt := 16) hx hb d_Law_law_64 (by decide) ?_
      exact ih a2 x7 (z5.1, z5.2.1, z5.2.2.1, z5.2.2.2.1, z5.2.2.2.2.1, z5.2.2.2.2.2.1, z5.2.2.2.2.2.2.1, z5.2.2.2.2.2.2.2.1, z5.2.2.2.2.2.2.2.2) h _ _ _ hP hD hS (lv_sub hl [1, 2, 3, 0] rfl)
set_option maxHeartbeats 40000000 in
set_option maxRecDepth 100000 in
theorem y_Law_law_184 {p : Program} {l : Launch} {e : Env} {s : State} {m : MethodId} {below : List Frame} {meth : Method} {c : Code} {G : GG} {qm qa0 qa1 qa2 qa3 qa4 qa5 qh qo qt : Nat → Nat} {af : Nat → Nat → Nat → Nat} {b L : Nat} {xs : Nat → Int32} {R : Int32 → (CS × Int32 × CS × Int32 × CS × (Nat → Int32) × (Nat → SS) × OS × CS) → Prop} {K : (CS × Int32 × CS × Int32 × CS × (Nat → Int32) × (Nat → SS) × OS × CS) → Prop} {cells slots : Nat} (hkc : cells ≤ 600000) (hks : slots ≤ 7302250) (C0 : lw_At p s m meth c b L xs) (hK : KN G s)
    (rr : ∀ (a3 : Int32) (u : (CS × Int32 × CS × Int32 × CS × (Nat → Int32) × (Nat → SS) × OS × CS)), R a3 u → ∀ (H : Heap) (locs : List Loc) (ls : Array Slot), va_P G.1 classes (hamW G qm qa0 qh qo qt ++ (staW G qa0 qa1 qa2 qa4 ++ (clubW G qa1 u.1 ++ (snpW G qa2 qa3 u.2.1 ++ (clubW G qa3 u.2.2.1 ++ (snpW G qa4 qa5 u.2.2.2.1 ++ (clubW G qa5 u.2.2.2.2.1 ++ (hisW G qh af u.2.2.2.2.2.1 ++ (frW G af u.2.2.2.2.2.2.1 0 6 ++ (ordW G qo u.2.2.2.2.2.2.2.1 ++ clubW G qt u.2.2.2.2.2.2.2.2)))))))))) H → va_D (fun q : Nat => s.heap.size ≤ q) (hamW G qm qa0 qh qo qt ++ (staW G qa0 qa1 qa2 qa4 ++ (clubW G qa1 u.1 ++ (snpW G qa2 qa3 u.2.1 ++ (clubW G qa3 u.2.2.1 ++ (snpW G qa4 qa5 u.2.2.2.1 ++ (clubW G qa5 u.2.2.2.2.1 ++ (hisW G qh af u.2.2.2.2.2.1 ++ (frW G af u.2.2.2.2.2.2.1 0 6 ++ (ordW G qo u.2.2.2.2.2.2.2.1 ++ clubW G qt u.2.2.2.2.2.2.2.2)))))))))) → va_S (fun q : Nat => s.heap.size ≤ q) s.heap H locs → lv_has ls 8 [(0, .ref b), (1, .ref (qm 0)), (3, .int a3)] → W p l e room_1 s m #[Value.ref b] below meth c H locs cells slots (lw_Z below #[Value.ref b] s) (F0 m 90 ls []))
    (kk : ∀ (u : (CS × Int32 × CS × Int32 × CS × (Nat → Int32) × (Nat → SS) × OS × CS)), K  u → ∀ (H : Heap) (locs : List Loc) (ls : Array Slot), va_P G.1 classes (hamW G qm qa0 qh qo qt ++ (staW G qa0 qa1 qa2 qa4 ++ (clubW G qa1 u.1 ++ (snpW G qa2 qa3 u.2.1 ++ (clubW G qa3 u.2.2.1 ++ (snpW G qa4 qa5 u.2.2.2.1 ++ (clubW G qa5 u.2.2.2.2.1 ++ (hisW G qh af u.2.2.2.2.2.1 ++ (frW G af u.2.2.2.2.2.2.1 0 6 ++ (ordW G qo u.2.2.2.2.2.2.2.1 ++ clubW G qt u.2.2.2.2.2.2.2.2)))))))))) H → va_D (fun q : Nat => s.heap.size ≤ q) (hamW G qm qa0 qh qo qt ++ (staW G qa0 qa1 qa2 qa4 ++ (clubW G qa1 u.1 ++ (snpW G qa2 qa3 u.2.1 ++ (clubW G qa3 u.2.2.1 ++ (snpW G qa4 qa5 u.2.2.2.1 ++ (clubW G qa5 u.2.2.2.2.1 ++ (hisW G qh af u.2.2.2.2.2.1 ++ (frW G af u.2.2.2.2.2.2.1 0 6 ++ (ordW G qo u.2.2.2.2.2.2.2.1 ++ clubW G qt u.2.2.2.2.2.2.2.2)))))))))) → va_S (fun q : Nat => s.heap.size ≤ q) s.heap H locs → lv_has ls 8 [(1, .ref (qm 0))] → W p l e room_1 s m #[Value.ref b] below meth c H locs cells slots (lw_Z below #[Value.ref b] s) (F0 m 211 ls [])) :
    ∀ (a3 : Int32) (a4 : Int32) (u : (CS × Int32 × CS × Int32 × CS × (Nat → Int32) × (Nat → SS) × OS × CS)), wb_Law_law_184 L xs R K a3 a4 u → ∀ (H : Heap) (locs : List Loc) (ls : Array Slot), va_P G.1 classes (hamW G qm qa0 qh qo qt ++ (staW G qa0 qa1 qa2 qa4 ++ (clubW G qa1 u.1 ++ (snpW G qa2 qa3 u.2.1 ++ (clubW G qa3 u.2.2.1 ++ (snpW G qa4 qa5 u.2.2.2.1 ++ (clubW G qa5 u.2.2.2.2.1 ++ (hisW G qh af u.2.2.2.2.2.1 ++ (frW G af u.2.2.2.2.2.2.1 0 6 ++ (ordW G qo u.2.2.2.2.2.2.2.1 ++ clubW G qt u.2.2.2.2.2.2.2.2)))))))))) H → va_D (fun q : Nat => s.heap.size ≤ q) (hamW G qm qa0 qh qo qt ++ (staW G qa0 qa1 qa2 qa4 ++ (clubW G qa1 u.1 ++ (snpW G qa2 qa3 u.2.1 ++ (clubW G qa3 u.2.2.1 ++ (snpW G qa4 qa5 u.2.2.2.1 ++ (clubW G qa5 u.2.2.2.2.1 ++ (hisW G qh af u.2.2.2.2.2.1 ++ (frW G af u.2.2.2.2.2.2.1 0 6 ++ (ordW G qo u.2.2.2.2.2.2.2.1 ++ clubW G qt u.2.2.2.2.2.2.2.2)))))))))) → va_S (fun q : Nat => s.heap.size ≤ q) s.heap H locs → lv_has ls 8 [(0, .ref b), (1, .ref (qm 0)), (3, .int a3), (4, .int a4)] → W p l e room_1 s m #[Value.ref b] below meth c H locs cells slots (lw_Z below #[Value.ref b] s) (F0 m 184 ls []) := by
  obtain ⟨hx, hb, hr, hml, hown, hts0, hX, hbl, hlocks, hgv⟩ := id C0
  have hts : ∀ w ∈ Tg, w.before #[Value.ref b] s = true := fun w hw => hts0 w (Tg_sub w hw)
  have hA : ∀ q : Nat, s.heap.size ≤ q → (fun q : Nat => s.heap.size ≤ q) q := fun _ h => h
  have hbA : ¬ (fun q : Nat => s.heap.size ≤ q) b := Nat.not_le.mpr hbl
  have hcs1 : cells ≤ room_1.cells := hkc
  have hcs2 : slots ≤ room_1.slots := hks
  intro a3 a4 u24 h H locs ls hP hD hS hl
  unfold wb_Law_law_184 at h
  refine lv_iload_n hx hb d_Law_law_184 rfl (lv_at hl 2 rfl) ?_
  refine lv_iconst (v := 4) hx hb d_Law_law_185 (by decide) ?_
  refine lv_irem hx hb d_Law_law_186 (by decide) ?_
  refine lv_iconst (v := 2) hx hb d_Law_law_187 (by decide) ?_
  refine lv_icmp_ne (tgt := 205) hx hb d_Law_law_188 (by decide) (fun hc => ?_) (fun hc => ?_)
  · have h := h.2 hc
    obtain ⟨x25, ex25⟩ : ∃ y : Int32, y = a3 + 1 := ⟨_, rfl⟩
    have h := h x25 ex25
    refine lv_iinc (v := x25) (lv' := [(3, .int x25), (0, .ref b), (1, .ref (qm 0)), (4, .int a4)]) hx hb d_Law_law_205 hl (k := 2) rfl (by rw [ex25]; rfl) (by decide) rfl (fun ls hl => ?_)
    refine lv_goto (tgt := 90) hx hb d_Law_law_208 (by decide) ?_
    exact rr x25 (u24.1, u24.2.1, u24.2.2.1, u24.2.2.2.1, u24.2.2.2.2.1, u24.2.2.2.2.2.1, u24.2.2.2.2.2.2.1, u24.2.2.2.2.2.2.2.1, u24.2.2.2.2.2.2.2.2) h _ _ _ hP hD hS (lv_sub hl [1, 2, 0] rfl)
  · have h := h.1 hc
    refine lv_aload_n hx hb d_Law_law_191 rfl (lv_at hl 1 rfl) ?_
    refine lv_iload hx hb d_Law_law_192 (lv_at hl 3 rfl) ?_
    refine lv_bipush (v := 7) hx hb d_Law_law_194 (by decide) ?_
    refine lv_ishr hx hb d_Law_law_196 ?_
    refine call_Si (own := "HamperClubLaw") (As := [.ref (qm 0), .int (a4 >>> (7 &&& 31))]) (rest := []) hx hb hml hts hown hK hA hP hD hS so_Law_106 rfl ⟨Nat.le_of_ble_eq_true rfl, Nat.le_of_ble_eq_true rfl⟩ ⟨hcs1, hcs2⟩ hl.1 rfl (Nat.le_of_ble_eq_true rfl) d_Law_law_197 (c_Law_isForetold l G qm qa0 qa1 qa2 qa3 qa4 qa5 qh qo qt af _ (u24.1, u24.2.1, u24.2.2.1, u24.2.2.2.1, u24.2.2.2.2.1, u24.2.2.2.2.2.1, u24.2.2.2.2.2.2.1, u24.2.2.2.2.2.2.2.1, u24.2.2.2.2.2.2.2.2) (a4 >>> (7 &&& 31)) _ h) (fun x27 z26 H locs h hP hD hS => ?_)
    refine lv_if_ne (tgt := 205) hx hb d_Law_law_200 (by decide) (fun hc => ?_) (fun hc => ?_)
    · have h := h.2 hc
      obtain ⟨x28, ex28⟩ : ∃ y : Int32, y = a3 + 1 := ⟨_, rfl⟩
      have h := h x28 ex28
      refine lv_iinc (v := x28) (lv' := [(3, .int x28), (0, .ref b), (1, .ref (qm 0)), (4, .int a4)]) hx hb d_Law_law_205 hl (k := 2) rfl (by rw [ex28]; rfl) (by decide) rfl (fun ls hl => ?_)
      refine lv_goto (tgt := 90) hx hb d_Law_law_208 (by decide) ?_
      exact rr x28 (z26.1, z26.2.1, z26.2.2.1, z26.2.2.2.1, z26.2.2.2.2.1, z26.2.2.2.2.2.1, z26.2.2.2.2.2.2.1, z26.2.2.2.2.2.2.2.1, z26.2.2.2.2.2.2.2.2) h _ _ _ hP hD hS (lv_sub hl [1, 2, 0] rfl)
    · have h := h.1 hc
      refine lv_iconst (v := 0) hx hb d_Law_law_203 (by decide) ?_
      exact h.elim
set_option maxHeartbeats 40000000 in
set_option maxRecDepth 100000 in
theorem y_Law_law_170 {p : Program} {l : Launch} {e : Env} {s : State} {m : MethodId} {below : List Frame} {meth : Method} {c : Code} {G : GG} {qm qa0 qa1 qa2 qa3 qa4 qa5 qh qo qt : Nat → Nat} {af : Nat → Nat → Nat → Nat} {b L : Nat} {xs : Nat → Int32} {R : Int32 → (CS × Int32 × CS × Int32 × CS × (Nat → Int32) × (Nat → SS) × OS × CS) → Prop} {K : (CS × Int32 × CS × Int32 × CS × (Nat → Int32) × (Nat → SS) × OS × CS) → Prop} {cells slots : Nat} (hkc : cells ≤ 600000) (hks : slots ≤ 7302250) (C0 : lw_At p s m meth c b L xs) (hK : KN G s)
    (rr : ∀ (a3 : Int32) (u : (CS × Int32 × CS × Int32 × CS × (Nat → Int32) × (Nat → SS) × OS × CS)), R a3 u → ∀ (H : Heap) (locs : List Loc) (ls : Array Slot), va_P G.1 classes (hamW G qm qa0 qh qo qt ++ (staW G qa0 qa1 qa2 qa4 ++ (clubW G qa1 u.1 ++ (snpW G qa2 qa3 u.2.1 ++ (clubW G qa3 u.2.2.1 ++ (snpW G qa4 qa5 u.2.2.2.1 ++ (clubW G qa5 u.2.2.2.2.1 ++ (hisW G qh af u.2.2.2.2.2.1 ++ (frW G af u.2.2.2.2.2.2.1 0 6 ++ (ordW G qo u.2.2.2.2.2.2.2.1 ++ clubW G qt u.2.2.2.2.2.2.2.2)))))))))) H → va_D (fun q : Nat => s.heap.size ≤ q) (hamW G qm qa0 qh qo qt ++ (staW G qa0 qa1 qa2 qa4 ++ (clubW G qa1 u.1 ++ (snpW G qa2 qa3 u.2.1 ++ (clubW G qa3 u.2.2.1 ++ (snpW G qa4 qa5 u.2.2.2.1 ++ (clubW G qa5 u.2.2.2.2.1 ++ (hisW G qh af u.2.2.2.2.2.1 ++ (frW G af u.2.2.2.2.2.2.1 0 6 ++ (ordW G qo u.2.2.2.2.2.2.2.1 ++ clubW G qt u.2.2.2.2.2.2.2.2)))))))))) → va_S (fun q : Nat => s.heap.size ≤ q) s.heap H locs → lv_has ls 8 [(0, .ref b), (1, .ref (qm 0)), (3, .int a3)] → W p l e room_1 s m #[Value.ref b] below meth c H locs cells slots (lw_Z below #[Value.ref b] s) (F0 m 90 ls []))
    (kk : ∀ (u : (CS × Int32 × CS × Int32 × CS × (Nat → Int32) × (Nat → SS) × OS × CS)), K  u → ∀ (H : Heap) (locs : List Loc) (ls : Array Slot), va_P G.1 classes (hamW G qm qa0 qh qo qt ++ (staW G qa0 qa1 qa2 qa4 ++ (clubW G qa1 u.1 ++ (snpW G qa2 qa3 u.2.1 ++ (clubW G qa3 u.2.2.1 ++ (snpW G qa4 qa5 u.2.2.2.1 ++ (clubW G qa5 u.2.2.2.2.1 ++ (hisW G qh af u.2.2.2.2.2.1 ++ (frW G af u.2.2.2.2.2.2.1 0 6 ++ (ordW G qo u.2.2.2.2.2.2.2.1 ++ clubW G qt u.2.2.2.2.2.2.2.2)))))))))) H → va_D (fun q : Nat => s.heap.size ≤ q) (hamW G qm qa0 qh qo qt ++ (staW G qa0 qa1 qa2 qa4 ++ (clubW G qa1 u.1 ++ (snpW G qa2 qa3 u.2.1 ++ (clubW G qa3 u.2.2.1 ++ (snpW G qa4 qa5 u.2.2.2.1 ++ (clubW G qa5 u.2.2.2.2.1 ++ (hisW G qh af u.2.2.2.2.2.1 ++ (frW G af u.2.2.2.2.2.2.1 0 6 ++ (ordW G qo u.2.2.2.2.2.2.2.1 ++ clubW G qt u.2.2.2.2.2.2.2.2)))))))))) → va_S (fun q : Nat => s.heap.size ≤ q) s.heap H locs → lv_has ls 8 [(1, .ref (qm 0))] → W p l e room_1 s m #[Value.ref b] below meth c H locs cells slots (lw_Z below #[Value.ref b] s) (F0 m 211 ls [])) :
    ∀ (a3 : Int32) (a4 : Int32) (u : (CS × Int32 × CS × Int32 × CS × (Nat → Int32) × (Nat → SS) × OS × CS)), wb_Law_law_170 L xs R K a3 a4 u → ∀ (H : Heap) (locs : List Loc) (ls : Array Slot), va_P G.1 classes (hamW G qm qa0 qh qo qt ++ (staW G qa0 qa1 qa2 qa4 ++ (clubW G qa1 u.1 ++ (snpW G qa2 qa3 u.2.1 ++ (clubW G qa3 u.2.2.1 ++ (snpW G qa4 qa5 u.2.2.2.1 ++ (clubW G qa5 u.2.2.2.2.1 ++ (hisW G qh af u.2.2.2.2.2.1 ++ (frW G af u.2.2.2.2.2.2.1 0 6 ++ (ordW G qo u.2.2.2.2.2.2.2.1 ++ clubW G qt u.2.2.2.2.2.2.2.2)))))))))) H → va_D (fun q : Nat => s.heap.size ≤ q) (hamW G qm qa0 qh qo qt ++ (staW G qa0 qa1 qa2 qa4 ++ (clubW G qa1 u.1 ++ (snpW G qa2 qa3 u.2.1 ++ (clubW G qa3 u.2.2.1 ++ (snpW G qa4 qa5 u.2.2.2.1 ++ (clubW G qa5 u.2.2.2.2.1 ++ (hisW G qh af u.2.2.2.2.2.1 ++ (frW G af u.2.2.2.2.2.2.1 0 6 ++ (ordW G qo u.2.2.2.2.2.2.2.1 ++ clubW G qt u.2.2.2.2.2.2.2.2)))))))))) → va_S (fun q : Nat => s.heap.size ≤ q) s.heap H locs → lv_has ls 8 [(0, .ref b), (1, .ref (qm 0)), (3, .int a3), (4, .int a4)] → W p l e room_1 s m #[Value.ref b] below meth c H locs cells slots (lw_Z below #[Value.ref b] s) (F0 m 170 ls []) := by
  obtain ⟨hx, hb, hr, hml, hown, hts0, hX, hbl, hlocks, hgv⟩ := id C0
  have hts : ∀ w ∈ Tg, w.before #[Value.ref b] s = true := fun w hw => hts0 w (Tg_sub w hw)
  have hA : ∀ q : Nat, s.heap.size ≤ q → (fun q : Nat => s.heap.size ≤ q) q := fun _ h => h
  have hbA : ¬ (fun q : Nat => s.heap.size ≤ q) b := Nat.not_le.mpr hbl
  have hcs1 : cells ≤ room_1.cells := hkc
  have hcs2 : slots ≤ room_1.slots := hks
  intro a3 a4 u23 h H locs ls hP hD hS hl
  unfold wb_Law_law_170 at h
  refine lv_iload_n hx hb d_Law_law_170 rfl (lv_at hl 2 rfl) ?_
  refine lv_iconst (v := 2) hx hb d_Law_law_171 (by decide) ?_
  refine lv_irem hx hb d_Law_law_172 (by decide) ?_
  refine lv_iconst (v := 1) hx hb d_Law_law_173 (by decide) ?_
  refine lv_icmp_ne (tgt := 184) hx hb d_Law_law_174 (by decide) (fun hc => ?_) (fun hc => ?_)
  · have h := h.2 hc
    exact y_Law_law_184 hkc hks C0 hK rr kk a3 a4 (u23.1, u23.2.1, u23.2.2.1, u23.2.2.2.1, u23.2.2.2.2.1, u23.2.2.2.2.2.1, u23.2.2.2.2.2.2.1, u23.2.2.2.2.2.2.2.1, u23.2.2.2.2.2.2.2.2) h _ _ _ hP hD hS (lv_sub hl [0, 1, 2, 3] rfl)
  · have h := h.1 hc
    refine lv_aload_n hx hb d_Law_law_177 rfl (lv_at hl 1 rfl) ?_
    refine call_Si (own := "HamperClubLaw") (As := [.ref (qm 0)]) (rest := []) hx hb hml hts hown hK hA hP hD hS so_Law_50 rfl ⟨Nat.le_of_ble_eq_true rfl, Nat.le_of_ble_eq_true rfl⟩ ⟨hcs1, hcs2⟩ hl.1 rfl (Nat.le_of_ble_eq_true rfl) d_Law_law_178 (c_Law_isSound l G qm qa0 qa1 qa2 qa3 qa4 qa5 qh qo qt af _ (u23.1, u23.2.1, u23.2.2.1, u23.2.2.2.1, u23.2.2.2.2.1, u23.2.2.2.2.2.1, u23.2.2.2.2.2.2.1, u23.2.2.2.2.2.2.2.1, u23.2.2.2.2.2.2.2.2) _ h) (fun x30 z29 H locs h hP hD hS => ?_)
    refine lv_if_eq (tgt := 203) hx hb d_Law_law_181 (by decide) (fun hc => ?_) (fun hc => ?_)
    · have h := h.1 hc
      refine lv_iconst (v := 0) hx hb d_Law_law_203 (by decide) ?_
      exact h.elim
    · have h := h.2 hc
      exact y_Law_law_184 hkc hks C0 hK rr kk a3 a4 (z29.1, z29.2.1, z29.2.2.1, z29.2.2.2.1, z29.2.2.2.2.1, z29.2.2.2.2.2.1, z29.2.2.2.2.2.2.1, z29.2.2.2.2.2.2.2.1, z29.2.2.2.2.2.2.2.2) h _ _ _ hP hD hS (lv_sub hl [0, 1, 2, 3] rfl)
set_option maxHeartbeats 40000000 in
set_option maxRecDepth 100000 in
theorem y_Law_law_136 {p : Program} {l : Launch} {e : Env} {s : State} {m : MethodId} {below : List Frame} {meth : Method} {c : Code} {G : GG} {qm qa0 qa1 qa2 qa3 qa4 qa5 qh qo qt : Nat → Nat} {af : Nat → Nat → Nat → Nat} {b L : Nat} {xs : Nat → Int32} {R : Int32 → (CS × Int32 × CS × Int32 × CS × (Nat → Int32) × (Nat → SS) × OS × CS) → Prop} {K : (CS × Int32 × CS × Int32 × CS × (Nat → Int32) × (Nat → SS) × OS × CS) → Prop} {cells slots : Nat} (hkc : cells ≤ 600000) (hks : slots ≤ 7302250) (C0 : lw_At p s m meth c b L xs) (hK : KN G s)
    (rr : ∀ (a3 : Int32) (u : (CS × Int32 × CS × Int32 × CS × (Nat → Int32) × (Nat → SS) × OS × CS)), R a3 u → ∀ (H : Heap) (locs : List Loc) (ls : Array Slot), va_P G.1 classes (hamW G qm qa0 qh qo qt ++ (staW G qa0 qa1 qa2 qa4 ++ (clubW G qa1 u.1 ++ (snpW G qa2 qa3 u.2.1 ++ (clubW G qa3 u.2.2.1 ++ (snpW G qa4 qa5 u.2.2.2.1 ++ (clubW G qa5 u.2.2.2.2.1 ++ (hisW G qh af u.2.2.2.2.2.1 ++ (frW G af u.2.2.2.2.2.2.1 0 6 ++ (ordW G qo u.2.2.2.2.2.2.2.1 ++ clubW G qt u.2.2.2.2.2.2.2.2)))))))))) H → va_D (fun q : Nat => s.heap.size ≤ q) (hamW G qm qa0 qh qo qt ++ (staW G qa0 qa1 qa2 qa4 ++ (clubW G qa1 u.1 ++ (snpW G qa2 qa3 u.2.1 ++ (clubW G qa3 u.2.2.1 ++ (snpW G qa4 qa5 u.2.2.2.1 ++ (clubW G qa5 u.2.2.2.2.1 ++ (hisW G qh af u.2.2.2.2.2.1 ++ (frW G af u.2.2.2.2.2.2.1 0 6 ++ (ordW G qo u.2.2.2.2.2.2.2.1 ++ clubW G qt u.2.2.2.2.2.2.2.2)))))))))) → va_S (fun q : Nat => s.heap.size ≤ q) s.heap H locs → lv_has ls 8 [(0, .ref b), (1, .ref (qm 0)), (3, .int a3)] → W p l e room_1 s m #[Value.ref b] below meth c H locs cells slots (lw_Z below #[Value.ref b] s) (F0 m 90 ls []))
    (kk : ∀ (u : (CS × Int32 × CS × Int32 × CS × (Nat → Int32) × (Nat → SS) × OS × CS)), K  u → ∀ (H : Heap) (locs : List Loc) (ls : Array Slot), va_P G.1 classes (hamW G qm qa0 qh qo qt ++ (staW G qa0 qa1 qa2 qa4 ++ (clubW G qa1 u.1 ++ (snpW G qa2 qa3 u.2.1 ++ (clubW G qa3 u.2.2.1 ++ (snpW G qa4 qa5 u.2.2.2.1 ++ (clubW G qa5 u.2.2.2.2.1 ++ (hisW G qh af u.2.2.2.2.2.1 ++ (frW G af u.2.2.2.2.2.2.1 0 6 ++ (ordW G qo u.2.2.2.2.2.2.2.1 ++ clubW G qt u.2.2.2.2.2.2.2.2)))))))))) H → va_D (fun q : Nat => s.heap.size ≤ q) (hamW G qm qa0 qh qo qt ++ (staW G qa0 qa1 qa2 qa4 ++ (clubW G qa1 u.1 ++ (snpW G qa2 qa3 u.2.1 ++ (clubW G qa3 u.2.2.1 ++ (snpW G qa4 qa5 u.2.2.2.1 ++ (clubW G qa5 u.2.2.2.2.1 ++ (hisW G qh af u.2.2.2.2.2.1 ++ (frW G af u.2.2.2.2.2.2.1 0 6 ++ (ordW G qo u.2.2.2.2.2.2.2.1 ++ clubW G qt u.2.2.2.2.2.2.2.2)))))))))) → va_S (fun q : Nat => s.heap.size ≤ q) s.heap H locs → lv_has ls 8 [(1, .ref (qm 0))] → W p l e room_1 s m #[Value.ref b] below meth c H locs cells slots (lw_Z below #[Value.ref b] s) (F0 m 211 ls [])) :
    ∀ (a3 : Int32) (a4 : Int32) (a5 : Int64) (a7 : Int32) (u : (CS × Int32 × CS × Int32 × CS × (Nat → Int32) × (Nat → SS) × OS × CS)), wb_Law_law_136 L xs R K a3 a4 a5 a7 u → ∀ (H : Heap) (locs : List Loc) (ls : Array Slot), va_P G.1 classes (hamW G qm qa0 qh qo qt ++ (staW G qa0 qa1 qa2 qa4 ++ (clubW G qa1 u.1 ++ (snpW G qa2 qa3 u.2.1 ++ (clubW G qa3 u.2.2.1 ++ (snpW G qa4 qa5 u.2.2.2.1 ++ (clubW G qa5 u.2.2.2.2.1 ++ (hisW G qh af u.2.2.2.2.2.1 ++ (frW G af u.2.2.2.2.2.2.1 0 6 ++ (ordW G qo u.2.2.2.2.2.2.2.1 ++ clubW G qt u.2.2.2.2.2.2.2.2)))))))))) H → va_D (fun q : Nat => s.heap.size ≤ q) (hamW G qm qa0 qh qo qt ++ (staW G qa0 qa1 qa2 qa4 ++ (clubW G qa1 u.1 ++ (snpW G qa2 qa3 u.2.1 ++ (clubW G qa3 u.2.2.1 ++ (snpW G qa4 qa5 u.2.2.2.1 ++ (clubW G qa5 u.2.2.2.2.1 ++ (hisW G qh af u.2.2.2.2.2.1 ++ (frW G af u.2.2.2.2.2.2.1 0 6 ++ (ordW G qo u.2.2.2.2.2.2.2.1 ++ clubW G qt u.2.2.2.2.2.2.2.2)))))))))) → va_S (fun q : Nat => s.heap.size ≤ q) s.heap H locs → lv_has ls 8 [(0, .ref b), (1, .ref (qm 0)), (3, .int a3), (4, .int a4), (5, .long a5), (7, .int a7)] → W p l e room_1 s m #[Value.ref b] below meth c H locs cells slots (lw_Z below #[Value.ref b] s) (F0 m 136 ls []) := by
  obtain ⟨hx, hb, hr, hml, hown, hts0, hX, hbl, hlocks, hgv⟩ := id C0
  have hts : ∀ w ∈ Tg, w.before #[Value.ref b] s = true := fun w hw => hts0 w (Tg_sub w hw)
  have hA : ∀ q : Nat, s.heap.size ≤ q → (fun q : Nat => s.heap.size ≤ q) q := fun _ h => h
  have hbA : ¬ (fun q : Nat => s.heap.size ≤ q) b := Nat.not_le.mpr hbl
  have hcs1 : cells ≤ room_1.cells := hkc
  have hcs2 : slots ≤ room_1.slots := hks
  intro a3 a4 a5 a7 u22 h H locs ls hP hD hS hl
  unfold wb_Law_law_136 at h
  refine lv_iload hx hb d_Law_law_136 (lv_at hl 5 rfl) ?_
  refine lv_if_lt (tgt := 170) hx hb d_Law_law_138 (by decide) (fun hc => ?_) (fun hc => ?_)
  · have h := h.1 hc
    exact y_Law_law_170 hkc hks C0 hK rr kk a3 a4 (u22.1, u22.2.1, u22.2.2.1, u22.2.2.2.1, u22.2.2.2.2.1, u22.2.2.2.2.2.1, u22.2.2.2.2.2.2.1, u22.2.2.2.2.2.2.2.1, u22.2.2.2.2.2.2.2.2) h _ _ _ hP hD hS (lv_sub hl [0, 1, 2, 3] rfl)
  · have h := h.2 hc
    refine lv_iload hx hb d_Law_law_141 (lv_at hl 3 rfl) ?_
    refine lv_bipush (v := 28) hx hb d_Law_law_143 (by decide) ?_
    refine lv_ishr hx hb d_Law_law_145 ?_
    refine lv_iconst (v := 3) hx hb d_Law_law_146 (by decide) ?_
    refine lv_iand hx hb d_Law_law_147 ?_
    refine lv_if_ne (tgt := 170) hx hb d_Law_law_148 (by decide) (fun hc => ?_) (fun hc => ?_)
    · have h := h.2 hc
      exact y_Law_law_170 hkc hks C0 hK rr kk a3 a4 (u22.1, u22.2.1, u22.2.2.1, u22.2.2.2.1, u22.2.2.2.2.1, u22.2.2.2.2.2.1, u22.2.2.2.2.2.2.1, u22.2.2.2.2.2.2.2.1, u22.2.2.2.2.2.2.2.2) h _ _ _ hP hD hS (lv_sub hl [0, 1, 2, 3] rfl)
    · have h := h.1 hc
      refine lv_aload_n hx hb d_Law_law_151 rfl (lv_at hl 1 rfl) ?_
      have hP := SW.P (sw_11_0_1_2_3_4_5_6_7_8_9_10 (hamW G qm qa0 qh qo qt) (staW G qa0 qa1 qa2 qa4) (clubW G qa1 u22.1) (snpW G qa2 qa3 u22.2.1) (clubW G qa3 u22.2.2.1) (snpW G qa4 qa5 u22.2.2.2.1) (clubW G qa5 u22.2.2.2.2.1) (hisW G qh af u22.2.2.2.2.2.1) (frW G af u22.2.2.2.2.2.2.1 0 6) (ordW G qo u22.2.2.2.2.2.2.2.1) (clubW G qt u22.2.2.2.2.2.2.2.2)) hP
      have hD := SW.D (sw_11_0_1_2_3_4_5_6_7_8_9_10 (hamW G qm qa0 qh qo qt) (staW G qa0 qa1 qa2 qa4) (clubW G qa1 u22.1) (snpW G qa2 qa3 u22.2.1) (clubW G qa3 u22.2.2.1) (snpW G qa4 qa5 u22.2.2.2.1) (clubW G qa5 u22.2.2.2.2.1) (hisW G qh af u22.2.2.2.2.2.1) (frW G af u22.2.2.2.2.2.2.1 0 6) (ordW G qo u22.2.2.2.2.2.2.2.1) (clubW G qt u22.2.2.2.2.2.2.2.2)) hD
      refine call_ViP (own := "HamperClubLaw") (As := []) (rest := []) (q0 := 0) (ci := 8) (wc := hamW G qm qa0 qh qo qt ++ (staW G qa0 qa1 qa2 qa4 ++ (clubW G qa1 u22.1 ++ (snpW G qa2 qa3 u22.2.1 ++ (clubW G qa3 u22.2.2.1 ++ (snpW G qa4 qa5 u22.2.2.2.1 ++ (clubW G qa5 u22.2.2.2.2.1 ++ (hisW G qh af u22.2.2.2.2.2.1 ++ (frW G af u22.2.2.2.2.2.2.1 0 6 ++ (ordW G qo u22.2.2.2.2.2.2.2.1 ++ clubW G qt u22.2.2.2.2.2.2.2.2)))))))))) (post := []) hx hb hml hts hown hK hA hP hD hS ok_Law_54 rfl ⟨Nat.le_of_ble_eq_true rfl, Nat.le_of_ble_eq_true rfl⟩ ⟨hcs1, hcs2⟩ rfl rfl rfl hl.1 rfl (Nat.le_of_ble_eq_true rfl) d_Law_law_152 (c_Ham_undo l G qm qa0 qa1 qa2 qa3 qa4 qa5 qh qo qt af _ (u22.1, u22.2.1, u22.2.2.1, u22.2.2.2.1, u22.2.2.2.2.1, u22.2.2.2.2.2.1, u22.2.2.2.2.2.2.1, u22.2.2.2.2.2.2.2.1, u22.2.2.2.2.2.2.2.2)  _ h) (fun x32 z31 H locs h hP hD hS => ?_)
      have hP := SW.P (sw_11_0_1_2_3_4_5_6_7_8_9_10 (hamW G qm qa0 qh qo qt) (staW G qa0 qa1 qa2 qa4) (clubW G qa1 z31.1) (snpW G qa2 qa3 z31.2.1) (clubW G qa3 z31.2.2.1) (snpW G qa4 qa5 z31.2.2.2.1) (clubW G qa5 z31.2.2.2.2.1) (hisW G qh af z31.2.2.2.2.2.1) (frW G af z31.2.2.2.2.2.2.1 0 6) (ordW G qo z31.2.2.2.2.2.2.2.1) (clubW G qt z31.2.2.2.2.2.2.2.2)).symm hP
      have hD := SW.D (sw_11_0_1_2_3_4_5_6_7_8_9_10 (hamW G qm qa0 qh qo qt) (staW G qa0 qa1 qa2 qa4) (clubW G qa1 z31.1) (snpW G qa2 qa3 z31.2.1) (clubW G qa3 z31.2.2.1) (snpW G qa4 qa5 z31.2.2.2.1) (clubW G qa5 z31.2.2.2.2.1) (hisW G qh af z31.2.2.2.2.2.1) (frW G af z31.2.2.2.2.2.2.1 0 6) (ordW G qo z31.2.2.2.2.2.2.2.1) (clubW G qt z31.2.2.2.2.2.2.2.2)).symm hD
      refine lv_if_lt (tgt := 168) hx hb d_Law_law_155 (by decide) (fun hc => ?_) (fun hc => ?_)
      · have h := h.1 hc
        refine lv_iconst (v := 0) hx hb d_Law_law_168 (by decide) ?_
        exact h.elim
      · have h := h.2 hc
        refine lv_aload_n hx hb d_Law_law_158 rfl (lv_at hl 1 rfl) ?_
        refine call_Sl (own := "HamperClubLaw") (As := [.ref (qm 0)]) (rest := []) hx hb hml hts hown hK hA hP hD hS so_Law_42 rfl ⟨Nat.le_of_ble_eq_true rfl, Nat.le_of_ble_eq_true rfl⟩ ⟨hcs1, hcs2⟩ hl.1 rfl (Nat.le_of_ble_eq_true rfl) d_Law_law_159 (c_Law_all l G qm qa0 qa1 qa2 qa3 qa4 qa5 qh qo qt af _ (z31.1, z31.2.1, z31.2.2.1, z31.2.2.2.1, z31.2.2.2.2.1, z31.2.2.2.2.2.1, z31.2.2.2.2.2.2.1, z31.2.2.2.2.2.2.2.1, z31.2.2.2.2.2.2.2.2) _ h) (fun x34 z33 H locs h hP hD hS => ?_)
        refine lv_lload hx hb d_Law_law_162 (lv_at hl 4 rfl) ?_
        refine W.lcmp hx hb d_Law_law_164 ?_
        refine lv_if_eq (tgt := 170) hx hb d_Law_law_165 (by decide) (fun hc => ?_) (fun hc => ?_)
        · have h := h.1 hc
          exact y_Law_law_170 hkc hks C0 hK rr kk a3 a4 (z33.1, z33.2.1, z33.2.2.1, z33.2.2.2.1, z33.2.2.2.2.1, z33.2.2.2.2.2.1, z33.2.2.2.2.2.2.1, z33.2.2.2.2.2.2.2.1, z33.2.2.2.2.2.2.2.2) h _ _ _ hP hD hS (lv_sub hl [0, 1, 2, 3] rfl)
        · have h := h.2 hc
          refine lv_iconst (v := 0) hx hb d_Law_law_168 (by decide) ?_
          exact h.elim
set_option maxHeartbeats 40000000 in
set_option maxRecDepth 100000 in
theorem x_Law_law_90 {p : Program} {l : Launch} {e : Env} {s : State} {m : MethodId} {below : List Frame} {meth : Method} {c : Code} {G : GG} {qm qa0 qa1 qa2 qa3 qa4 qa5 qh qo qt : Nat → Nat} {af : Nat → Nat → Nat → Nat} {b L : Nat} {xs : Nat → Int32} {K : (CS × Int32 × CS × Int32 × CS × (Nat → Int32) × (Nat → SS) × OS × CS) → Prop} {cells slots : Nat} (hkc : cells ≤ 600000) (hks : slots ≤ 7302250) (C0 : lw_At p s m meth c b L xs) (hK : KN G s)
    (kk : ∀ (u : (CS × Int32 × CS × Int32 × CS × (Nat → Int32) × (Nat → SS) × OS × CS)), K  u → ∀ (H : Heap) (locs : List Loc) (ls : Array Slot), va_P G.1 classes (hamW G qm qa0 qh qo qt ++ (staW G qa0 qa1 qa2 qa4 ++ (clubW G qa1 u.1 ++ (snpW G qa2 qa3 u.2.1 ++ (clubW G qa3 u.2.2.1 ++ (snpW G qa4 qa5 u.2.2.2.1 ++ (clubW G qa5 u.2.2.2.2.1 ++ (hisW G qh af u.2.2.2.2.2.1 ++ (frW G af u.2.2.2.2.2.2.1 0 6 ++ (ordW G qo u.2.2.2.2.2.2.2.1 ++ clubW G qt u.2.2.2.2.2.2.2.2)))))))))) H → va_D (fun q : Nat => s.heap.size ≤ q) (hamW G qm qa0 qh qo qt ++ (staW G qa0 qa1 qa2 qa4 ++ (clubW G qa1 u.1 ++ (snpW G qa2 qa3 u.2.1 ++ (clubW G qa3 u.2.2.1 ++ (snpW G qa4 qa5 u.2.2.2.1 ++ (clubW G qa5 u.2.2.2.2.1 ++ (hisW G qh af u.2.2.2.2.2.1 ++ (frW G af u.2.2.2.2.2.2.1 0 6 ++ (ordW G qo u.2.2.2.2.2.2.2.1 ++ clubW G qt u.2.2.2.2.2.2.2.2)))))))))) → va_S (fun q : Nat => s.heap.size ≤ q) s.heap H locs → lv_has ls 8 [(1, .ref (qm 0))] → W p l e room_1 s m #[Value.ref b] below meth c H locs cells slots (lw_Z below #[Value.ref b] s) (F0 m 211 ls [])) :
    ∀ (n : Nat) (a3 : Int32) (u : (CS × Int32 × CS × Int32 × CS × (Nat → Int32) × (Nat → SS) × OS × CS)), wl_Law_law_90 L xs K n a3 u → ∀ (H : Heap) (locs : List Loc) (ls : Array Slot), va_P G.1 classes (hamW G qm qa0 qh qo qt ++ (staW G qa0 qa1 qa2 qa4 ++ (clubW G qa1 u.1 ++ (snpW G qa2 qa3 u.2.1 ++ (clubW G qa3 u.2.2.1 ++ (snpW G qa4 qa5 u.2.2.2.1 ++ (clubW G qa5 u.2.2.2.2.1 ++ (hisW G qh af u.2.2.2.2.2.1 ++ (frW G af u.2.2.2.2.2.2.1 0 6 ++ (ordW G qo u.2.2.2.2.2.2.2.1 ++ clubW G qt u.2.2.2.2.2.2.2.2)))))))))) H → va_D (fun q : Nat => s.heap.size ≤ q) (hamW G qm qa0 qh qo qt ++ (staW G qa0 qa1 qa2 qa4 ++ (clubW G qa1 u.1 ++ (snpW G qa2 qa3 u.2.1 ++ (clubW G qa3 u.2.2.1 ++ (snpW G qa4 qa5 u.2.2.2.1 ++ (clubW G qa5 u.2.2.2.2.1 ++ (hisW G qh af u.2.2.2.2.2.1 ++ (frW G af u.2.2.2.2.2.2.1 0 6 ++ (ordW G qo u.2.2.2.2.2.2.2.1 ++ clubW G qt u.2.2.2.2.2.2.2.2)))))))))) → va_S (fun q : Nat => s.heap.size ≤ q) s.heap H locs → lv_has ls 8 [(0, .ref b), (1, .ref (qm 0)), (3, .int a3)] → W p l e room_1 s m #[Value.ref b] below meth c H locs cells slots (lw_Z below #[Value.ref b] s) (F0 m 90 ls []) := by
  obtain ⟨hx, hb, hr, hml, hown, hts0, hX, hbl, hlocks, hgv⟩ := id C0
  have hts : ∀ w ∈ Tg, w.before #[Value.ref b] s = true := fun w hw => hts0 w (Tg_sub w hw)
  have hA : ∀ q : Nat, s.heap.size ≤ q → (fun q : Nat => s.heap.size ≤ q) q := fun _ h => h
  have hbA : ¬ (fun q : Nat => s.heap.size ≤ q) b := Nat.not_le.mpr hbl
  have hcs1 : cells ≤ room_1.cells := hkc
  have hcs2 : slots ≤ room_1.slots := hks
  intro n
  induction n with
  | zero => intro a3 u h; exact h.elim
  | succ n ih =>
    intro a3 u15 h H locs ls hP hD hS hl
    unfold wl_Law_law_90 at h
    refine lv_iload_n hx hb d_Law_law_90 rfl (lv_at hl 2 rfl) ?_
    refine lv_bipush (v := 26) hx hb d_Law_law_91 (by decide) ?_
    refine lv_icmp_ge (tgt := 211) hx hb d_Law_law_93 (by decide) (fun hc => ?_) (fun hc => ?_)
    · have h := h.1 hc
      exact kk  (u15.1, u15.2.1, u15.2.2.1, u15.2.2.2.1, u15.2.2.2.2.1, u15.2.2.2.2.2.1, u15.2.2.2.2.2.2.1, u15.2.2.2.2.2.2.2.1, u15.2.2.2.2.2.2.2.2) h _ _ _ hP hD hS (lv_sub hl [1] rfl)
    · have h := h.2 hc
      refine lv_aload_n hx hb d_Law_law_96 rfl (lv_at hl 0 rfl) ?_
      refine lv_iconst (v := 1) hx hb d_Law_law_97 (by decide) ?_
      refine lv_iload_n hx hb d_Law_law_98 rfl (lv_at hl 2 rfl) ?_
      refine lv_iadd hx hb d_Law_law_99 ?_
      obtain ⟨hi, h⟩ := h
      refine call_X (own := "HamperClubLaw") (As := [.ref b, .int ((1 : Int32) + a3)]) (rest := []) hx hb hml hts hown (cell_blind b L xs) (cell_pre hX hbl hbA hS) so_Law_95 rfl ⟨Nat.le_of_ble_eq_true rfl, Nat.le_of_ble_eq_true rfl⟩ ⟨hcs1, hcs2⟩ hl.1 rfl (Nat.le_of_ble_eq_true rfl) d_Law_law_100 (k_cell l b L xs _ hi) ?_
      refine lv_topi (fun x16 ex16 => ?_)
      have h := h x16 ex16
      refine lv_istore (lv' := [(4, .int x16), (0, .ref b), (1, .ref (qm 0)), (3, .int a3)]) hx hb d_Law_law_103 hl (by decide) rfl (fun ls hl => ?_)
      refine lv_aload_n hx hb d_Law_law_105 rfl (lv_at hl 2 rfl) ?_
      refine call_Sl (own := "HamperClubLaw") (As := [.ref (qm 0)]) (rest := []) hx hb hml hts hown hK hA hP hD hS so_Law_42 rfl ⟨Nat.le_of_ble_eq_true rfl, Nat.le_of_ble_eq_true rfl⟩ ⟨hcs1, hcs2⟩ hl.1 rfl (Nat.le_of_ble_eq_true rfl) d_Law_law_106 (c_Law_all l G qm qa0 qa1 qa2 qa3 qa4 qa5 qh qo qt af _ (u15.1, u15.2.1, u15.2.2.1, u15.2.2.2.1, u15.2.2.2.2.1, u15.2.2.2.2.2.1, u15.2.2.2.2.2.2.1, u15.2.2.2.2.2.2.2.1, u15.2.2.2.2.2.2.2.2) _ h) (fun x18 z17 H locs h hP hD hS => ?_)
      refine lv_topl (fun x19 ex19 => ?_)
      have h := h x19 ex19
      refine lv_lstore (lv' := [(5, .long x19), (4, .int x16), (0, .ref b), (1, .ref (qm 0)), (3, .int a3)]) hx hb d_Law_law_109 hl (by decide) rfl (fun ls hl => ?_)
      refine lv_aload_n hx hb d_Law_law_111 rfl (lv_at hl 3 rfl) ?_
      refine lv_iload hx hb d_Law_law_112 (lv_at hl 1 rfl) ?_
      refine call_Si (own := "HamperClubLaw") (As := [.ref (qm 0), .int x16]) (rest := []) hx hb hml hts hown hK hA hP hD hS so_Law_102 rfl ⟨Nat.le_of_ble_eq_true rfl, Nat.le_of_ble_eq_true rfl⟩ ⟨hcs1, hcs2⟩ hl.1 rfl (Nat.le_of_ble_eq_true rfl) d_Law_law_114 (c_Law_acts l G qm qa0 qa1 qa2 qa3 qa4 qa5 qh qo qt af _ (z17.1, z17.2.1, z17.2.2.1, z17.2.2.2.1, z17.2.2.2.2.1, z17.2.2.2.2.2.1, z17.2.2.2.2.2.2.1, z17.2.2.2.2.2.2.2.1, z17.2.2.2.2.2.2.2.2) x16 _ h) (fun x21 z20 H locs h hP hD hS => ?_)
      refine lv_istore (lv' := [(7, .int x21), (5, .long x19), (4, .int x16), (0, .ref b), (1, .ref (qm 0)), (3, .int a3)]) hx hb d_Law_law_117 hl (by decide) rfl (fun ls hl => ?_)
      refine lv_iload hx hb d_Law_law_119 (lv_at hl 0 rfl) ?_
      refine lv_if_ge (tgt := 136) hx hb d_Law_law_121 (by decide) (fun hc => ?_) (fun hc => ?_)
      · have h := h.1 hc
        exact y_Law_law_136 hkc hks C0 hK ih kk a3 x16 x19 x21 (z20.1, z20.2.1, z20.2.2.1, z20.2.2.2.1, z20.2.2.2.2.1, z20.2.2.2.2.2.1, z20.2.2.2.2.2.2.1, z20.2.2.2.2.2.2.2.1, z20.2.2.2.2.2.2.2.2) h _ _ _ hP hD hS (lv_sub hl [3, 4, 5, 2, 1, 0] rfl)
      · have h := h.2 hc
        refine lv_aload_n hx hb d_Law_law_124 rfl (lv_at hl 4 rfl) ?_
        refine call_Sl (own := "HamperClubLaw") (As := [.ref (qm 0)]) (rest := []) hx hb hml hts hown hK hA hP hD hS so_Law_42 rfl ⟨Nat.le_of_ble_eq_true rfl, Nat.le_of_ble_eq_true rfl⟩ ⟨hcs1, hcs2⟩ hl.1 rfl (Nat.le_of_ble_eq_true rfl) d_Law_law_125 (c_Law_all l G qm qa0 qa1 qa2 qa3 qa4 qa5 qh qo qt af _ (z20.1, z20.2.1, z20.2.2.1, z20.2.2.2.1, z20.2.2.2.2.1, z20.2.2.2.2.2.1, z20.2.2.2.2.2.2.1, z20.2.2.2.2.2.2.2.1, z20.2.2.2.2.2.2.2.2) _ h) (fun x36 z35 H locs h hP hD hS => ?_)
        refine lv_lload hx hb d_Law_law_128 (lv_at hl 1 rfl) ?_
        refine W.lcmp hx hb d_Law_law_130 ?_
        refine lv_if_eq (tgt := 136) hx hb d_Law_law_131 (by decide) (fun hc => ?_) (fun hc => ?_)
        · have h := h.1 hc
          exact y_Law_law_136 hkc hks C0 hK ih kk a3 x16 x19 x21 (z35.1, z35.2.1, z35.2.2.1, z35.2.2.2.1, z35.2.2.2.2.1, z35.2.2.2.2.2.1, z35.2.2.2.2.2.2.1, z35.2.2.2.2.2.2.2.1, z35.2.2.2.2.2.2.2.2) h _ _ _ hP hD hS (lv_sub hl [3, 4, 5, 2, 1, 0] rfl)
        · have h := h.2 hc
          refine lv_iconst (v := 0) hx hb d_Law_law_134 (by decide) ?_
          exact h.elim
set_option maxHeartbeats 40000000 in
set_option maxRecDepth 100000 in
theorem y_Law_8 {p : Program} {l : Launch} {e : Env} {s : State} {m : MethodId} {below : List Frame} {meth : Method} {c : Code} {G : GG} {qm qa0 qa1 qa2 qa3 qa4 qa5 qh qo qt : Nat → Nat} {af : Nat → Nat → Nat → Nat} {b L : Nat} {xs : Nat → Int32} {cells slots : Nat} (hkc : cells ≤ 600000) (hks : slots ≤ 7302250) (C0 : lw_At p s m meth c b L xs) (hK : KN G s) :
    ∀ (u : (CS × Int32 × CS × Int32 × CS × (Nat → Int32) × (Nat → SS) × OS × CS)), wb_Law_8 L xs u → ∀ (H : Heap) (locs : List Loc) (ls : Array Slot), va_P G.1 classes (hamW G qm qa0 qh qo qt ++ (staW G qa0 qa1 qa2 qa4 ++ (clubW G qa1 u.1 ++ (snpW G qa2 qa3 u.2.1 ++ (clubW G qa3 u.2.2.1 ++ (snpW G qa4 qa5 u.2.2.2.1 ++ (clubW G qa5 u.2.2.2.2.1 ++ (hisW G qh af u.2.2.2.2.2.1 ++ (frW G af u.2.2.2.2.2.2.1 0 6 ++ (ordW G qo u.2.2.2.2.2.2.2.1 ++ clubW G qt u.2.2.2.2.2.2.2.2)))))))))) H → va_D (fun q : Nat => s.heap.size ≤ q) (hamW G qm qa0 qh qo qt ++ (staW G qa0 qa1 qa2 qa4 ++ (clubW G qa1 u.1 ++ (snpW G qa2 qa3 u.2.1 ++ (clubW G qa3 u.2.2.1 ++ (snpW G qa4 qa5 u.2.2.2.1 ++ (clubW G qa5 u.2.2.2.2.1 ++ (hisW G qh af u.2.2.2.2.2.1 ++ (frW G af u.2.2.2.2.2.2.1 0 6 ++ (ordW G qo u.2.2.2.2.2.2.2.1 ++ clubW G qt u.2.2.2.2.2.2.2.2)))))))))) → va_S (fun q : Nat => s.heap.size ≤ q) s.heap H locs → lv_has ls 8 [(1, .ref (qm 0)), (0, .ref b)] → W p l e room_1 s m #[Value.ref b] below meth c H locs cells slots (lw_Z below #[Value.ref b] s) (F0 m 8 ls []) := by
  obtain ⟨hx, hb, hr, hml, hown, hts0, hX, hbl, hlocks, hgv⟩ := id C0
  have hts : ∀ w ∈ Tg, w.before #[Value.ref b] s = true := fun w hw => hts0 w (Tg_sub w hw)
  have hA : ∀ q : Nat, s.heap.size ≤ q → (fun q : Nat => s.heap.size ≤ q) q := fun _ h => h
  have hbA : ¬ (fun q : Nat => s.heap.size ≤ q) b := Nat.not_le.mpr hbl
  have hcs1 : cells ≤ room_1.cells := hkc
  have hcs2 : slots ≤ room_1.slots := hks
  intro u h H locs ls hP hD hS hl
  unfold wb_Law_8 at h
  refine lv_aload_n hx hb d_Law_law_8 rfl (lv_at hl 1 rfl) ?_
  refine lv_iconst (v := 0) hx hb d_Law_law_9 (by decide) ?_
  obtain ⟨hi, h⟩ := h
  refine call_X (own := "HamperClubLaw") (As := [.ref b, .int 0]) (rest := []) hx hb hml hts hown (cell_blind b L xs) (cell_pre hX hbl hbA hS) so_Law_95 rfl ⟨Nat.le_of_ble_eq_true rfl, Nat.le_of_ble_eq_true rfl⟩ ⟨hcs1, hcs2⟩ hl.1 rfl (Nat.le_of_ble_eq_true rfl) d_Law_law_10 (k_cell l b L xs _ hi) ?_
  refine lv_topi (fun x1 ex1 => ?_)
  have h := h x1 ex1
  refine lv_istore_n (lv' := [(2, .int x1), (1, .ref (qm 0)), (0, .ref b)]) hx hb d_Law_law_13 rfl hl (by decide) rfl (fun ls hl => ?_)
  refine lv_iconst (v := 0) hx hb d_Law_law_14 (by decide) ?_
  refine lv_istore_n (lv' := [(3, .int 0), (2, .int x1), (1, .ref (qm 0)), (0, .ref b)]) hx hb d_Law_law_15 rfl hl (by decide) rfl (fun ls hl => ?_)
  obtain ⟨n, h⟩ := h
  refine x_Law_law_16 hkc hks C0 hK (fun u8 h H locs ls hP hD hS hl => ?_) n x1 0 (u.1, u.2.1, u.2.2.1, u.2.2.2.1, u.2.2.2.2.1, u.2.2.2.2.2.1, u.2.2.2.2.2.2.1, u.2.2.2.2.2.2.2.1, u.2.2.2.2.2.2.2.2) h _ _ _ hP hD hS (lv_sub hl [3, 2, 1, 0] rfl)
  refine lv_aload_n hx hb d_Law_law_67 rfl (lv_at hl 1 rfl) ?_
  refine lv_bipush (v := 48) hx hb d_Law_law_68 (by decide) ?_
  have hP := SW.P (sw_11_0_1_2_3_4_5_6_7_8_9_10 (hamW G qm qa0 qh qo qt) (staW G qa0 qa1 qa2 qa4) (clubW G qa1 u8.1) (snpW G qa2 qa3 u8.2.1) (clubW G qa3 u8.2.2.1) (snpW G qa4 qa5 u8.2.2.2.1) (clubW G qa5 u8.2.2.2.2.1) (hisW G qh af u8.2.2.2.2.2.1) (frW G af u8.2.2.2.2.2.2.1 0 6) (ordW G qo u8.2.2.2.2.2.2.2.1) (clubW G qt u8.2.2.2.2.2.2.2.2)) hP
  have hD := SW.D (sw_11_0_1_2_3_4_5_6_7_8_9_10 (hamW G qm qa0 qh qo qt) (staW G qa0 qa1 qa2 qa4) (clubW G qa1 u8.1) (snpW G qa2 qa3 u8.2.1) (clubW G qa3 u8.2.2.1) (snpW G qa4 qa5 u8.2.2.2.1) (clubW G qa5 u8.2.2.2.2.1) (hisW G qh af u8.2.2.2.2.2.1) (frW G af u8.2.2.2.2.2.2.1 0 6) (ordW G qo u8.2.2.2.2.2.2.2.1) (clubW G qt u8.2.2.2.2.2.2.2.2)) hD
  refine call_ViP (own := "HamperClubLaw") (As := [.int 48]) (rest := []) (q0 := 0) (ci := 8) (wc := hamW G qm qa0 qh qo qt ++ (staW G qa0 qa1 qa2 qa4 ++ (clubW G qa1 u8.1 ++ (snpW G qa2 qa3 u8.2.1 ++ (clubW G qa3 u8.2.2.1 ++ (snpW G qa4 qa5 u8.2.2.2.1 ++ (clubW G qa5 u8.2.2.2.2.1 ++ (hisW G qh af u8.2.2.2.2.2.1 ++ (frW G af u8.2.2.2.2.2.2.1 0 6 ++ (ordW G qo u8.2.2.2.2.2.2.2.1 ++ clubW G qt u8.2.2.2.2.2.2.2.2)))))))))) (post := []) hx hb hml hts hown hK hA hP hD hS ok_Law_99 rfl ⟨Nat.le_of_ble_eq_true rfl, Nat.le_of_ble_eq_true rfl⟩ ⟨hcs1, hcs2⟩ rfl rfl rfl hl.1 rfl (Nat.le_of_ble_eq_true rfl) d_Law_law_70 (c_Ham_append l G qm qa0 qa1 qa2 qa3 qa4 qa5 qh qo qt af _ (u8.1, u8.2.1, u8.2.2.1, u8.2.2.2.1, u8.2.2.2.2.1, u8.2.2.2.2.2.1, u8.2.2.2.2.2.2.1, u8.2.2.2.2.2.2.2.1, u8.2.2.2.2.2.2.2.2) 48 _ h) (fun x10 z9 H locs h hP hD hS => ?_)
  have hP := SW.P (sw_11_0_1_2_3_4_5_6_7_8_9_10 (hamW G qm qa0 qh qo qt) (staW G qa0 qa1 qa2 qa4) (clubW G qa1 z9.1) (snpW G qa2 qa3 z9.2.1) (clubW G qa3 z9.2.2.1) (snpW G qa4 qa5 z9.2.2.2.1) (clubW G qa5 z9.2.2.2.2.1) (hisW G qh af z9.2.2.2.2.2.1) (frW G af z9.2.2.2.2.2.2.1 0 6) (ordW G qo z9.2.2.2.2.2.2.2.1) (clubW G qt z9.2.2.2.2.2.2.2.2)).symm hP
  have hD := SW.D (sw_11_0_1_2_3_4_5_6_7_8_9_10 (hamW G qm qa0 qh qo qt) (staW G qa0 qa1 qa2 qa4) (clubW G qa1 z9.1) (snpW G qa2 qa3 z9.2.1) (clubW G qa3 z9.2.2.1) (snpW G qa4 qa5 z9.2.2.2.1) (clubW G qa5 z9.2.2.2.2.1) (hisW G qh af z9.2.2.2.2.2.1) (frW G af z9.2.2.2.2.2.2.1 0 6) (ordW G qo z9.2.2.2.2.2.2.2.1) (clubW G qt z9.2.2.2.2.2.2.2.2)).symm hD
  refine lv_pop hx hb d_Law_law_73 rfl ?_
  refine lv_aload_n hx hb d_Law_law_74 rfl (lv_at hl 1 rfl) ?_
  refine lv_bipush (v := 43) hx hb d_Law_law_75 (by decide) ?_
  have hP := SW.P (sw_11_0_1_2_3_4_5_6_7_8_9_10 (hamW G qm qa0 qh qo qt) (staW G qa0 qa1 qa2 qa4) (clubW G qa1 z9.1) (snpW G qa2 qa3 z9.2.1) (clubW G qa3 z9.2.2.1) (snpW G qa4 qa5 z9.2.2.2.1) (clubW G qa5 z9.2.2.2.2.1) (hisW G qh af z9.2.2.2.2.2.1) (frW G af z9.2.2.2.2.2.2.1 0 6) (ordW G qo z9.2.2.2.2.2.2.2.1) (clubW G qt z9.2.2.2.2.2.2.2.2)) hP
  have hD := SW.D (sw_11_0_1_2_3_4_5_6_7_8_9_10 (hamW G qm qa0 qh qo qt) (staW G qa0 qa1 qa2 qa4) (clubW G qa1 z9.1) (snpW G qa2 qa3 z9.2.1) (clubW G qa3 z9.2.2.1) (snpW G qa4 qa5 z9.2.2.2.1) (clubW G qa5 z9.2.2.2.2.1) (hisW G qh af z9.2.2.2.2.2.1) (frW G af z9.2.2.2.2.2.2.1 0 6) (ordW G qo z9.2.2.2.2.2.2.2.1) (clubW G qt z9.2.2.2.2.2.2.2.2)) hD
  refine call_ViP (own := "HamperClubLaw") (As := [.int 43]) (rest := []) (q0 := 0) (ci := 8) (wc := hamW G qm qa0 qh qo qt ++ (staW G qa0 qa1 qa2 qa4 ++ (clubW G qa1 z9.1 ++ (snpW G qa2 qa3 z9.2.1 ++ (clubW G qa3 z9.2.2.1 ++ (snpW G qa4 qa5 z9.2.2.2.1 ++ (clubW G qa5 z9.2.2.2.2.1 ++ (hisW G qh af z9.2.2.2.2.2.1 ++ (frW G af z9.2.2.2.2.2.2.1 0 6 ++ (ordW G qo z9.2.2.2.2.2.2.2.1 ++ clubW G qt z9.2.2.2.2.2.2.2.2)))))))))) (post := []) hx hb hml hts hown hK hA hP hD hS ok_Law_99 rfl ⟨Nat.le_of_ble_eq_true rfl, Nat.le_of_ble_eq_true rfl⟩ ⟨hcs1, hcs2⟩ rfl rfl rfl hl.1 rfl (Nat.le_of_ble_eq_true rfl) d_Law_law_77 (c_Ham_append l G qm qa0 qa1 qa2 qa3 qa4 qa5 qh qo qt af _ (z9.1, z9.2.1, z9.2.2.1, z9.2.2.2.1, z9.2.2.2.2.1, z9.2.2.2.2.2.1, z9.2.2.2.2.2.2.1, z9.2.2.2.2.2.2.2.1, z9.2.2.2.2.2.2.2.2) 43 _ h) (fun x12 z11 H locs h hP hD hS => ?_)
  have hP := SW.P (sw_11_0_1_2_3_4_5_6_7_8_9_10 (hamW G qm qa0 qh qo qt) (staW G qa0 qa1 qa2 qa4) (clubW G qa1 z11.1) (snpW G qa2 qa3 z11.2.1) (clubW G qa3 z11.2.2.1) (snpW G qa4 qa5 z11.2.2.2.1) (clubW G qa5 z11.2.2.2.2.1) (hisW G qh af z11.2.2.2.2.2.1) (frW G af z11.2.2.2.2.2.2.1 0 6) (ordW G qo z11.2.2.2.2.2.2.2.1) (clubW G qt z11.2.2.2.2.2.2.2.2)).symm hP
  have hD := SW.D (sw_11_0_1_2_3_4_5_6_7_8_9_10 (hamW G qm qa0 qh qo qt) (staW G qa0 qa1 qa2 qa4) (clubW G qa1 z11.1) (snpW G qa2 qa3 z11.2.1) (clubW G qa3 z11.2.2.1) (snpW G qa4 qa5 z11.2.2.2.1) (clubW G qa5 z11.2.2.2.2.1) (hisW G qh af z11.2.2.2.2.2.1) (frW G af z11.2.2.2.2.2.2.1 0 6) (ordW G qo z11.2.2.2.2.2.2.2.1) (clubW G qt z11.2.2.2.2.2.2.2.2)).symm hD
  refine lv_pop hx hb d_Law_law_80 rfl ?_
  refine lv_aload_n hx hb d_Law_law_81 rfl (lv_at hl 1 rfl) ?_
  refine lv_bipush (v := 51) hx hb d_Law_law_82 (by decide) ?_
  have hP := SW.P (sw_11_0_1_2_3_4_5_6_7_8_9_10 (hamW G qm qa0 qh qo qt) (staW G qa0 qa1 qa2 qa4) (clubW G qa1 z11.1) (snpW G qa2 qa3 z11.2.1) (clubW G qa3 z11.2.2.1) (snpW G qa4 qa5 z11.2.2.2.1) (clubW G qa5 z11.2.2.2.2.1) (hisW G qh af z11.2.2.2.2.2.1) (frW G af z11.2.2.2.2.2.2.1 0 6) (ordW G qo z11.2.2.2.2.2.2.2.1) (clubW G qt z11.2.2.2.2.2.2.2.2)) hP
  have hD := SW.D (sw_11_0_1_2_3_4_5_6_7_8_9_10 (hamW G qm qa0 qh qo qt) (staW G qa0 qa1 qa2 qa4) (clubW G qa1 z11.1) (snpW G qa2 qa3 z11.2.1) (clubW G qa3 z11.2.2.1) (snpW G qa4 qa5 z11.2.2.2.1) (clubW G qa5 z11.2.2.2.2.1) (hisW G qh af z11.2.2.2.2.2.1) (frW G af z11.2.2.2.2.2.2.1 0 6) (ordW G qo z11.2.2.2.2.2.2.2.1) (clubW G qt z11.2.2.2.2.2.2.2.2)) hD
  refine call_ViP (own := "HamperClubLaw") (As := [.int 51]) (rest := []) (q0 := 0) (ci := 8) (wc := hamW G qm qa0 qh qo qt ++ (staW G qa0 qa1 qa2 qa4 ++ (clubW G qa1 z11.1 ++ (snpW G qa2 qa3 z11.2.1 ++ (clubW G qa3 z11.2.2.1 ++ (snpW G qa4 qa5 z11.2.2.2.1 ++ (clubW G qa5 z11.2.2.2.2.1 ++ (hisW G qh af z11.2.2.2.2.2.1 ++ (frW G af z11.2.2.2.2.2.2.1 0 6 ++ (ordW G qo z11.2.2.2.2.2.2.2.1 ++ clubW G qt z11.2.2.2.2.2.2.2.2)))))))))) (post := []) hx hb hml hts hown hK hA hP hD hS ok_Law_99 rfl ⟨Nat.le_of_ble_eq_true rfl, Nat.le_of_ble_eq_true rfl⟩ ⟨hcs1, hcs2⟩ rfl rfl rfl hl.1 rfl (Nat.le_of_ble_eq_true rfl) d_Law_law_84 (c_Ham_append l G qm qa0 qa1 qa2 qa3 qa4 qa5 qh qo qt af _ (z11.1, z11.2.1, z11.2.2.1, z11.2.2.2.1, z11.2.2.2.2.1, z11.2.2.2.2.2.1, z11.2.2.2.2.2.2.1, z11.2.2.2.2.2.2.2.1, z11.2.2.2.2.2.2.2.2) 51 _ h) (fun x14 z13 H locs h hP hD hS => ?_)
  have hP := SW.P (sw_11_0_1_2_3_4_5_6_7_8_9_10 (hamW G qm qa0 qh qo qt) (staW G qa0 qa1 qa2 qa4) (clubW G qa1 z13.1) (snpW G qa2 qa3 z13.2.1) (clubW G qa3 z13.2.2.1) (snpW G qa4 qa5 z13.2.2.2.1) (clubW G qa5 z13.2.2.2.2.1) (hisW G qh af z13.2.2.2.2.2.1) (frW G af z13.2.2.2.2.2.2.1 0 6) (ordW G qo z13.2.2.2.2.2.2.2.1) (clubW G qt z13.2.2.2.2.2.2.2.2)).symm hP
  have hD := SW.D (sw_11_0_1_2_3_4_5_6_7_8_9_10 (hamW G qm qa0 qh qo qt) (staW G qa0 qa1 qa2 qa4) (clubW G qa1 z13.1) (snpW G qa2 qa3 z13.2.1) (clubW G qa3 z13.2.2.1) (snpW G qa4 qa5 z13.2.2.2.1) (clubW G qa5 z13.2.2.2.2.1) (hisW G qh af z13.2.2.2.2.2.1) (frW G af z13.2.2.2.2.2.2.1 0 6) (ordW G qo z13.2.2.2.2.2.2.2.1) (clubW G qt z13.2.2.2.2.2.2.2.2)).symm hD
  refine lv_pop hx hb d_Law_law_87 rfl ?_
  refine lv_iconst (v := 0) hx hb d_Law_law_88 (by decide) ?_
  refine lv_istore_n (lv' := [(3, .int 0), (0, .ref b), (1, .ref (qm 0))]) hx hb d_Law_law_89 rfl hl (by decide) rfl (fun ls hl => ?_)
  obtain ⟨n, h⟩ := h
  refine x_Law_law_90 hkc hks C0 hK (fun u37 h H locs ls hP hD hS hl => ?_) n 0 (z13.1, z13.2.1, z13.2.2.1, z13.2.2.2.1, z13.2.2.2.2.1, z13.2.2.2.2.2.1, z13.2.2.2.2.2.2.1, z13.2.2.2.2.2.2.2.1, z13.2.2.2.2.2.2.2.2) h _ _ _ hP hD hS (lv_sub hl [1, 2, 0] rfl)
  refine lv_aload_n hx hb d_Law_law_211 rfl (lv_at hl 0 rfl) ?_
  refine lv_iconst (v := 0) hx hb d_Law_law_212 (by decide) ?_
  have hP := SW.P (sw_11_0_1_2_3_4_5_6_7_8_9_10 (hamW G qm qa0 qh qo qt) (staW G qa0 qa1 qa2 qa4) (clubW G qa1 u37.1) (snpW G qa2 qa3 u37.2.1) (clubW G qa3 u37.2.2.1) (snpW G qa4 qa5 u37.2.2.2.1) (clubW G qa5 u37.2.2.2.2.1) (hisW G qh af u37.2.2.2.2.2.1) (frW G af u37.2.2.2.2.2.2.1 0 6) (ordW G qo u37.2.2.2.2.2.2.2.1) (clubW G qt u37.2.2.2.2.2.2.2.2)) hP
  have hD := SW.D (sw_11_0_1_2_3_4_5_6_7_8_9_10 (hamW G qm qa0 qh qo qt) (staW G qa0 qa1 qa2 qa4) (clubW G qa1 u37.1) (snpW G qa2 qa3 u37.2.1) (clubW G qa3 u37.2.2.1) (snpW G qa4 qa5 u37.2.2.2.1) (clubW G qa5 u37.2.2.2.2.1) (hisW G qh af u37.2.2.2.2.2.1) (frW G af u37.2.2.2.2.2.2.1 0 6) (ordW G qo u37.2.2.2.2.2.2.2.1) (clubW G qt u37.2.2.2.2.2.2.2.2)) hD
  refine call_ViP (own := "HamperClubLaw") (As := [.int 0]) (rest := []) (q0 := 0) (ci := 8) (wc := hamW G qm qa0 qh qo qt ++ (staW G qa0 qa1 qa2 qa4 ++ (clubW G qa1 u37.1 ++ (snpW G qa2 qa3 u37.2.1 ++ (clubW G qa3 u37.2.2.1 ++ (snpW G qa4 qa5 u37.2.2.2.1 ++ (clubW G qa5 u37.2.2.2.2.1 ++ (hisW G qh af u37.2.2.2.2.2.1 ++ (frW G af u37.2.2.2.2.2.2.1 0 6 ++ (ordW G qo u37.2.2.2.2.2.2.2.1 ++ clubW G qt u37.2.2.2.2.2.2.2.2)))))))))) (post := []) hx hb hml hts hown hK hA hP hD hS ok_Law_82 rfl ⟨Nat.le_of_ble_eq_true rfl, Nat.le_of_ble_eq_true rfl⟩ ⟨hcs1, hcs2⟩ rfl rfl rfl hl.1 rfl (Nat.le_of_ble_eq_true rfl) d_Law_law_213 (c_Ham_take l G qm qa0 qa1 qa2 qa3 qa4 qa5 qh qo qt af _ (u37.1, u37.2.1, u37.2.2.1, u37.2.2.2.1, u37.2.2.2.2.1, u37.2.2.2.2.2.1, u37.2.2.2.2.2.2.1, u37.2.2.2.2.2.2.2.1, u37.2.2.2.2.2.2.2.2) 0 _ h) (fun x39 z38 H locs h hP hD hS => ?_)
  have hP := SW.P (sw_11_0_1_2_3_4_5_6_7_8_9_10 (hamW G qm qa0 qh qo qt) (staW G qa0 qa1 qa2 qa4) (clubW G qa1 z38.1) (snpW G qa2 qa3 z38.2.1) (clubW G qa3 z38.2.2.1) (snpW G qa4 qa5 z38.2.2.2.1) (clubW G qa5 z38.2.2.2.2.1) (hisW G qh af z38.2.2.2.2.2.1) (frW G af z38.2.2.2.2.2.2.1 0 6) (ordW G qo z38.2.2.2.2.2.2.2.1) (clubW G qt z38.2.2.2.2.2.2.2.2)).symm hP
  have hD := SW.D (sw_11_0_1_2_3_4_5_6_7_8_9_10 (hamW G qm qa0 qh qo qt) (staW G qa0 qa1 qa2 qa4) (clubW G qa1 z38.1) (snpW G qa2 qa3 z38.2.1) (clubW G qa3 z38.2.2.1) (snpW G qa4 qa5 z38.2.2.2.1) (clubW G qa5 z38.2.2.2.2.1) (hisW G qh af z38.2.2.2.2.2.1) (frW G af z38.2.2.2.2.2.2.1 0 6) (ordW G qo z38.2.2.2.2.2.2.2.1) (clubW G qt z38.2.2.2.2.2.2.2.2)).symm hD
  refine lv_aload_n hx hb d_Law_law_216 rfl (lv_at hl 0 rfl) ?_
  refine lv_iconst (v := 0) hx hb d_Law_law_217 (by decide) ?_
  have hP := SW.P (sw_11_0_1_2_3_4_5_6_7_8_9_10 (hamW G qm qa0 qh qo qt) (staW G qa0 qa1 qa2 qa4) (clubW G qa1 z38.1) (snpW G qa2 qa3 z38.2.1) (clubW G qa3 z38.2.2.1) (snpW G qa4 qa5 z38.2.2.2.1) (clubW G qa5 z38.2.2.2.2.1) (hisW G qh af z38.2.2.2.2.2.1) (frW G af z38.2.2.2.2.2.2.1 0 6) (ordW G qo z38.2.2.2.2.2.2.2.1) (clubW G qt z38.2.2.2.2.2.2.2.2)) hP
  have hD := SW.D (sw_11_0_1_2_3_4_5_6_7_8_9_10 (hamW G qm qa0 qh qo qt) (staW G qa0 qa1 qa2 qa4) (clubW G qa1 z38.1) (snpW G qa2 qa3 z38.2.1) (clubW G qa3 z38.2.2.1) (snpW G qa4 qa5 z38.2.2.2.1) (clubW G qa5 z38.2.2.2.2.1) (hisW G qh af z38.2.2.2.2.2.1) (frW G af z38.2.2.2.2.2.2.1 0 6) (ordW G qo z38.2.2.2.2.2.2.2.1) (clubW G qt z38.2.2.2.2.2.2.2.2)) hD
  refine call_ViP (own := "HamperClubLaw") (As := [.int 0]) (rest := [.int x39]) (q0 := 0) (ci := 8) (wc := hamW G qm qa0 qh qo qt ++ (staW G qa0 qa1 qa2 qa4 ++ (clubW G qa1 z38.1 ++ (snpW G qa2 qa3 z38.2.1 ++ (clubW G qa3 z38.2.2.1 ++ (snpW G qa4 qa5 z38.2.2.2.1 ++ (clubW G qa5 z38.2.2.2.2.1 ++ (hisW G qh af z38.2.2.2.2.2.1 ++ (frW G af z38.2.2.2.2.2.2.1 0 6 ++ (ordW G qo z38.2.2.2.2.2.2.2.1 ++ clubW G qt z38.2.2.2.2.2.2.2.2)))))))))) (post := []) hx hb hml hts hown hK hA hP hD hS ok_Law_12 rfl ⟨Nat.le_of_ble_eq_true rfl, Nat.le_of_ble_eq_true rfl⟩ ⟨hcs1, hcs2⟩ rfl rfl rfl hl.1 rfl (Nat.le_of_ble_eq_true rfl) d_Law_law_218 (c_Ham_count l G qm qa0 qa1 qa2 qa3 qa4 qa5 qh qo qt af _ (z38.1, z38.2.1, z38.2.2.1, z38.2.2.2.1, z38.2.2.2.2.1, z38.2.2.2.2.2.1, z38.2.2.2.2.2.2.1, z38.2.2.2.2.2.2.2.1, z38.2.2.2.2.2.2.2.2) 0 _ h) (fun x41 z40 H locs h hP hD hS => ?_)
  have hP := SW.P (sw_11_0_1_2_3_4_5_6_7_8_9_10 (hamW G qm qa0 qh qo qt) (staW G qa0 qa1 qa2 qa4) (clubW G qa1 z40.1) (snpW G qa2 qa3 z40.2.1) (clubW G qa3 z40.2.2.1) (snpW G qa4 qa5 z40.2.2.2.1) (clubW G qa5 z40.2.2.2.2.1) (hisW G qh af z40.2.2.2.2.2.1) (frW G af z40.2.2.2.2.2.2.1 0 6) (ordW G qo z40.2.2.2.2.2.2.2.1) (clubW G qt z40.2.2.2.2.2.2.2.2)).symm hP
  have hD := SW.D (sw_11_0_1_2_3_4_5_6_7_8_9_10 (hamW G qm qa0 qh qo qt) (staW G qa0 qa1 qa2 qa4) (clubW G qa1 z40.1) (snpW G qa2 qa3 z40.2.1) (clubW G qa3 z40.2.2.1) (snpW G qa4 qa5 z40.2.2.2.1) (clubW G qa5 z40.2.2.2.2.1) (hisW G qh af z40.2.2.2.2.2.1) (frW G af z40.2.2.2.2.2.2.1 0 6) (ordW G qo z40.2.2.2.2.2.2.2.1) (clubW G qt z40.2.2.2.2.2.2.2.2)).symm hD
  refine lv_icmp_eq (tgt := 226) hx hb d_Law_law_221 (by decide) (fun hc => ?_) (fun hc => ?_)
  · have h := h.1 hc
    refine lv_aload_n hx hb d_Law_law_226 rfl (lv_at hl 0 rfl) ?_
    refine call_Sl (own := "HamperClubLaw") (As := [.ref (qm 0)]) (rest := []) hx hb hml hts hown hK hA hP hD hS so_Law_42 rfl ⟨Nat.le_of_ble_eq_true rfl, Nat.le_of_ble_eq_true rfl⟩ ⟨hcs1, hcs2⟩ hl.1 rfl (Nat.le_of_ble_eq_true rfl) d_Law_law_227 (c_Law_all l G qm qa0 qa1 qa2 qa3 qa4 qa5 qh qo qt af _ (z40.1, z40.2.1, z40.2.2.1, z40.2.2.2.1, z40.2.2.2.2.1, z40.2.2.2.2.2.1, z40.2.2.2.2.2.2.1, z40.2.2.2.2.2.2.2.1, z40.2.2.2.2.2.2.2.2) _ h) (fun x43 z42 H locs h hP hD hS => ?_)
    refine lv_topl (fun x44 ex44 => ?_)
    have h := h x44 ex44
    refine lv_lstore_n (lv' := [(3, .long x44), (1, .ref (qm 0))]) hx hb d_Law_law_230 rfl hl (by decide) rfl (fun ls hl => ?_)
    refine lv_aload_n hx hb d_Law_law_231 rfl (lv_at hl 1 rfl) ?_
    refine lv_iconst (v := 0) hx hb d_Law_law_232 (by decide) ?_
    refine lv_iconst (v := 1) hx hb d_Law_law_233 (by decide) ?_
    have hP := SW.P (sw_11_0_1_2_3_4_5_6_7_8_9_10 (hamW G qm qa0 qh qo qt) (staW G qa0 qa1 qa2 qa4) (clubW G qa1 z42.1) (snpW G qa2 qa3 z42.2.1) (clubW G qa3 z42.2.2.1) (snpW G qa4 qa5 z42.2.2.2.1) (clubW G qa5 z42.2.2.2.2.1) (hisW G qh af z42.2.2.2.2.2.1) (frW G af z42.2.2.2.2.2.2.1 0 6) (ordW G qo z42.2.2.2.2.2.2.2.1) (clubW G qt z42.2.2.2.2.2.2.2.2)) hP
    have hD := SW.D (sw_11_0_1_2_3_4_5_6_7_8_9_10 (hamW G qm qa0 qh qo qt) (staW G qa0 qa1 qa2 qa4) (clubW G qa1 z42.1) (snpW G qa2 qa3 z42.2.1) (clubW G qa3 z42.2.2.1) (snpW G qa4 qa5 z42.2.2.2.1) (clubW G qa5 z42.2.2.2.2.1) (hisW G qh af z42.2.2.2.2.2.1) (frW G af z42.2.2.2.2.2.2.1 0 6) (ordW G qo z42.2.2.2.2.2.2.2.1) (clubW G qt z42.2.2.2.2.2.2.2.2)) hD
    refine call_ViP (own := "HamperClubLaw") (As := [.int 0, .int 1]) (rest := []) (q0 := 0) (ci := 8) (wc := hamW G qm qa0 qh qo qt ++ (staW G qa0 qa1 qa2 qa4 ++ (clubW G qa1 z42.1 ++ (snpW G qa2 qa3 z42.2.1 ++ (clubW G qa3 z42.2.2.1 ++ (snpW G qa4 qa5 z42.2.2.2.1 ++ (clubW G qa5 z42.2.2.2.2.1 ++ (hisW G qh af z42.2.2.2.2.2.1 ++ (frW G af z42.2.2.2.2.2.2.1 0 6 ++ (ordW G qo z42.2.2.2.2.2.2.2.1 ++ clubW G qt z42.2.2.2.2.2.2.2.2)))))))))) (post := []) hx hb hml hts hown hK hA hP hD hS ok_Law_63 rfl ⟨Nat.le_of_ble_eq_true rfl, Nat.le_of_ble_eq_true rfl⟩ ⟨hcs1, hcs2⟩ rfl rfl rfl hl.1 rfl (Nat.le_of_ble_eq_true rfl) d_Law_law_234 (c_Ham_stick l G qm qa0 qa1 qa2 qa3 qa4 qa5 qh qo qt af _ (z42.1, z42.2.1, z42.2.2.1, z42.2.2.2.1, z42.2.2.2.2.1, z42.2.2.2.2.2.1, z42.2.2.2.2.2.2.1, z42.2.2.2.2.2.2.2.1, z42.2.2.2.2.2.2.2.2) 0 1 _ h) (fun x46 z45 H locs h hP hD hS => ?_)
    have hP := SW.P (sw_11_0_1_2_3_4_5_6_7_8_9_10 (hamW G qm qa0 qh qo qt) (staW G qa0 qa1 qa2 qa4) (clubW G qa1 z45.1) (snpW G qa2 qa3 z45.2.1) (clubW G qa3 z45.2.2.1) (snpW G qa4 qa5 z45.2.2.2.1) (clubW G qa5 z45.2.2.2.2.1) (hisW G qh af z45.2.2.2.2.2.1) (frW G af z45.2.2.2.2.2.2.1 0 6) (ordW G qo z45.2.2.2.2.2.2.2.1) (clubW G qt z45.2.2.2.2.2.2.2.2)).symm hP
    have hD := SW.D (sw_11_0_1_2_3_4_5_6_7_8_9_10 (hamW G qm qa0 qh qo qt) (staW G qa0 qa1 qa2 qa4) (clubW G qa1 z45.1) (snpW G qa2 qa3 z45.2.1) (clubW G qa3 z45.2.2.1) (snpW G qa4 qa5 z45.2.2.2.1) (clubW G qa5 z45.2.2.2.2.1) (hisW G qh af z45.2.2.2.2.2.1) (frW G af z45.2.2.2.2.2.2.1 0 6) (ordW G qo z45.2.2.2.2.2.2.2.1) (clubW G qt z45.2.2.2.2.2.2.2.2)).symm hD
    refine lv_pop hx hb d_Law_law_237 rfl ?_
    refine lv_aload_n hx hb d_Law_law_238 rfl (lv_at hl 1 rfl) ?_
    have hP := SW.P (sw_11_0_1_2_3_4_5_6_7_8_9_10 (hamW G qm qa0 qh qo qt) (staW G qa0 qa1 qa2 qa4) (clubW G qa1 z45.1) (snpW G qa2 qa3 z45.2.1) (clubW G qa3 z45.2.2.1) (snpW G qa4 qa5 z45.2.2.2.1) (clubW G qa5 z45.2.2.2.2.1) (hisW G qh af z45.2.2.2.2.2.1) (frW G af z45.2.2.2.2.2.2.1 0 6) (ordW G qo z45.2.2.2.2.2.2.2.1) (clubW G qt z45.2.2.2.2.2.2.2.2)) hP
    have hD := SW.D (sw_11_0_1_2_3_4_5_6_7_8_9_10 (hamW G qm qa0 qh qo qt) (staW G qa0 qa1 qa2 qa4) (clubW G qa1 z45.1) (snpW G qa2 qa3 z45.2.1) (clubW G qa3 z45.2.2.1) (snpW G qa4 qa5 z45.2.2.2.1) (clubW G qa5 z45.2.2.2.2.1) (hisW G qh af z45.2.2.2.2.2.1) (frW G af z45.2.2.2.2.2.2.1 0 6) (ordW G qo z45.2.2.2.2.2.2.2.1) (clubW G qt z45.2.2.2.2.2.2.2.2)) hD
    refine call_ViP (own := "HamperClubLaw") (As := []) (rest := []) (q0 := 0) (ci := 8) (wc := hamW G qm qa0 qh qo qt ++ (staW G qa0 qa1 qa2 qa4 ++ (clubW G qa1 z45.1 ++ (snpW G qa2 qa3 z45.2.1 ++ (clubW G qa3 z45.2.2.1 ++ (snpW G qa4 qa5 z45.2.2.2.1 ++ (clubW G qa5 z45.2.2.2.2.1 ++ (hisW G qh af z45.2.2.2.2.2.1 ++ (frW G af z45.2.2.2.2.2.2.1 0 6 ++ (ordW G qo z45.2.2.2.2.2.2.2.1 ++ clubW G qt z45.2.2.2.2.2.2.2.2)))))))))) (post := []) hx hb hml hts hown hK hA hP hD hS ok_Law_91 rfl ⟨Nat.le_of_ble_eq_true rfl, Nat.le_of_ble_eq_true rfl⟩ ⟨hcs1, hcs2⟩ rfl rfl rfl hl.1 rfl (Nat.le_of_ble_eq_true rfl) d_Law_law_239 (c_Ham_week l G qm qa0 qa1 qa2 qa3 qa4 qa5 qh qo qt af _ (z45.1, z45.2.1, z45.2.2.1, z45.2.2.2.1, z45.2.2.2.2.1, z45.2.2.2.2.2.1, z45.2.2.2.2.2.2.1, z45.2.2.2.2.2.2.2.1, z45.2.2.2.2.2.2.2.2)  _ h) (fun x48 z47 H locs h hP hD hS => ?_)
    have hP := SW.P (sw_11_0_1_2_3_4_5_6_7_8_9_10 (hamW G qm qa0 qh qo qt) (staW G qa0 qa1 qa2 qa4) (clubW G qa1 z47.1) (snpW G qa2 qa3 z47.2.1) (clubW G qa3 z47.2.2.1) (snpW G qa4 qa5 z47.2.2.2.1) (clubW G qa5 z47.2.2.2.2.1) (hisW G qh af z47.2.2.2.2.2.1) (frW G af z47.2.2.2.2.2.2.1 0 6) (ordW G qo z47.2.2.2.2.2.2.2.1) (clubW G qt z47.2.2.2.2.2.2.2.2)).symm hP
    have hD := SW.D (sw_11_0_1_2_3_4_5_6_7_8_9_10 (hamW G qm qa0 qh qo qt) (staW G qa0 qa1 qa2 qa4) (clubW G qa1 z47.1) (snpW G qa2 qa3 z47.2.1) (clubW G qa3 z47.2.2.1) (snpW G qa4 qa5 z47.2.2.2.1) (clubW G qa5 z47.2.2.2.2.1) (hisW G qh af z47.2.2.2.2.2.1) (frW G af z47.2.2.2.2.2.2.1 0 6) (ordW G qo z47.2.2.2.2.2.2.2.1) (clubW G qt z47.2.2.2.2.2.2.2.2)).symm hD
    refine lv_pop hx hb d_Law_law_242 rfl ?_
    refine lv_aload_n hx hb d_Law_law_243 rfl (lv_at hl 1 rfl) ?_
    refine lv_iconst (v := 0) hx hb d_Law_law_244 (by decide) ?_
    refine lv_iconst (v := 3) hx hb d_Law_law_245 (by decide) ?_
    have hP := SW.P (sw_11_0_1_2_3_4_5_6_7_8_9_10 (hamW G qm qa0 qh qo qt) (staW G qa0 qa1 qa2 qa4) (clubW G qa1 z47.1) (snpW G qa2 qa3 z47.2.1) (clubW G qa3 z47.2.2.1) (snpW G qa4 qa5 z47.2.2.2.1) (clubW G qa5 z47.2.2.2.2.1) (hisW G qh af z47.2.2.2.2.2.1) (frW G af z47.2.2.2.2.2.2.1 0 6) (ordW G qo z47.2.2.2.2.2.2.2.1) (clubW G qt z47.2.2.2.2.2.2.2.2)) hP
    have hD := SW.D (sw_11_0_1_2_3_4_5_6_7_8_9_10 (hamW G qm qa0 qh qo qt) (staW G qa0 qa1 qa2 qa4) (clubW G qa1 z47.1) (snpW G qa2 qa3 z47.2.1) (clubW G qa3 z47.2.2.1) (snpW G qa4 qa5 z47.2.2.2.1) (clubW G qa5 z47.2.2.2.2.1) (hisW G qh af z47.2.2.2.2.2.1) (frW G af z47.2.2.2.2.2.2.1 0 6) (ordW G qo z47.2.2.2.2.2.2.2.1) (clubW G qt z47.2.2.2.2.2.2.2.2)) hD
    refine call_ViP (own := "HamperClubLaw") (As := [.int 0, .int 3]) (rest := []) (q0 := 0) (ci := 8) (wc := hamW G qm qa0 qh qo qt ++ (staW G qa0 qa1 qa2 qa4 ++ (clubW G qa1 z47.1 ++ (snpW G qa2 qa3 z47.2.1 ++ (clubW G qa3 z47.2.2.1 ++ (snpW G qa4 qa5 z47.2.2.2.1 ++ (clubW G qa5 z47.2.2.2.2.1 ++ (hisW G qh af z47.2.2.2.2.2.1 ++ (frW G af z47.2.2.2.2.2.2.1 0 6 ++ (ordW G qo z47.2.2.2.2.2.2.2.1 ++ clubW G qt z47.2.2.2.2.2.2.2.2)))))))))) (post := []) hx hb hml hts hown hK hA hP hD hS ok_Law_57 rfl ⟨Nat.le_of_ble_eq_true rfl, Nat.le_of_ble_eq_true rfl⟩ ⟨hcs1, hcs2⟩ rfl rfl rfl hl.1 rfl (Nat.le_of_ble_eq_true rfl) d_Law_law_246 (c_Ham_choose l G qm qa0 qa1 qa2 qa3 qa4 qa5 qh qo qt af _ (z47.1, z47.2.1, z47.2.2.1, z47.2.2.2.1, z47.2.2.2.2.1, z47.2.2.2.2.2.1, z47.2.2.2.2.2.2.1, z47.2.2.2.2.2.2.2.1, z47.2.2.2.2.2.2.2.2) 0 3 _ h) (fun x50 z49 H locs h hP hD hS => ?_)
    have hP := SW.P (sw_11_0_1_2_3_4_5_6_7_8_9_10 (hamW G qm qa0 qh qo qt) (staW G qa0 qa1 qa2 qa4) (clubW G qa1 z49.1) (snpW G qa2 qa3 z49.2.1) (clubW G qa3 z49.2.2.1) (snpW G qa4 qa5 z49.2.2.2.1) (clubW G qa5 z49.2.2.2.2.1) (hisW G qh af z49.2.2.2.2.2.1) (frW G af z49.2.2.2.2.2.2.1 0 6) (ordW G qo z49.2.2.2.2.2.2.2.1) (clubW G qt z49.2.2.2.2.2.2.2.2)).symm hP
    have hD := SW.D (sw_11_0_1_2_3_4_5_6_7_8_9_10 (hamW G qm qa0 qh qo qt) (staW G qa0 qa1 qa2 qa4) (clubW G qa1 z49.1) (snpW G qa2 qa3 z49.2.1) (clubW G qa3 z49.2.2.1) (snpW G qa4 qa5 z49.2.2.2.1) (clubW G qa5 z49.2.2.2.2.1) (hisW G qh af z49.2.2.2.2.2.1) (frW G af z49.2.2.2.2.2.2.1 0 6) (ordW G qo z49.2.2.2.2.2.2.2.1) (clubW G qt z49.2.2.2.2.2.2.2.2)).symm hD
    refine lv_pop hx hb d_Law_law_249 rfl ?_
    refine lv_aload_n hx hb d_Law_law_250 rfl (lv_at hl 1 rfl) ?_
    refine lv_iconst (v := 0) hx hb d_Law_law_251 (by decide) ?_
    have hP := SW.P (sw_11_0_1_2_3_4_5_6_7_8_9_10 (hamW G qm qa0 qh qo qt) (staW G qa0 qa1 qa2 qa4) (clubW G qa1 z49.1) (snpW G qa2 qa3 z49.2.1) (clubW G qa3 z49.2.2.1) (snpW G qa4 qa5 z49.2.2.2.1) (clubW G qa5 z49.2.2.2.2.1) (hisW G qh af z49.2.2.2.2.2.1) (frW G af z49.2.2.2.2.2.2.1 0 6) (ordW G qo z49.2.2.2.2.2.2.2.1) (clubW G qt z49.2.2.2.2.2.2.2.2)) hP
    have hD := SW.D (sw_11_0_1_2_3_4_5_6_7_8_9_10 (hamW G qm qa0 qh qo qt) (staW G qa0 qa1 qa2 qa4) (clubW G qa1 z49.1) (snpW G qa2 qa3 z49.2.1) (clubW G qa3 z49.2.2.1) (snpW G qa4 qa5 z49.2.2.2.1) (clubW G qa5 z49.2.2.2.2.1) (hisW G qh af z49.2.2.2.2.2.1) (frW G af z49.2.2.2.2.2.2.1 0 6) (ordW G qo z49.2.2.2.2.2.2.2.1) (clubW G qt z49.2.2.2.2.2.2.2.2)) hD
    refine call_ViP (own := "HamperClubLaw") (As := [.int 0]) (rest := []) (q0 := 0) (ci := 8) (wc := hamW G qm qa0 qh qo qt ++ (staW G qa0 qa1 qa2 qa4 ++ (clubW G qa1 z49.1 ++ (snpW G qa2 qa3 z49.2.1 ++ (clubW G qa3 z49.2.2.1 ++ (snpW G qa4 qa5 z49.2.2.2.1 ++ (clubW G qa5 z49.2.2.2.2.1 ++ (hisW G qh af z49.2.2.2.2.2.1 ++ (frW G af z49.2.2.2.2.2.2.1 0 6 ++ (ordW G qo z49.2.2.2.2.2.2.2.1 ++ clubW G qt z49.2.2.2.2.2.2.2.2)))))))))) (post := []) hx hb hml hts hown hK hA hP hD hS ok_Law_85 rfl ⟨Nat.le_of_ble_eq_true rfl, Nat.le_of_ble_eq_true rfl⟩ ⟨hcs1, hcs2⟩ rfl rfl rfl hl.1 rfl (Nat.le_of_ble_eq_true rfl) d_Law_law_252 (c_Ham_restore l G qm qa0 qa1 qa2 qa3 qa4 qa5 qh qo qt af _ (z49.1, z49.2.1, z49.2.2.1, z49.2.2.2.1, z49.2.2.2.2.1, z49.2.2.2.2.2.1, z49.2.2.2.2.2.2.1, z49.2.2.2.2.2.2.2.1, z49.2.2.2.2.2.2.2.2) 0 _ h) (fun x52 z51 H locs h hP hD hS => ?_)
    have hP := SW.P (sw_11_0_1_2_3_4_5_6_7_8_9_10 (hamW G qm qa0 qh qo qt) (staW G qa0 qa1 qa2 qa4) (clubW G qa1 z51.1) (snpW G qa2 qa3 z51.2.1) (clubW G qa3 z51.2.2.1) (snpW G qa4 qa5 z51.2.2.2.1) (clubW G qa5 z51.2.2.2.2.1) (hisW G qh af z51.2.2.2.2.2.1) (frW G af z51.2.2.2.2.2.2.1 0 6) (ordW G qo z51.2.2.2.2.2.2.2.1) (clubW G qt z51.2.2.2.2.2.2.2.2)).symm hP
    have hD := SW.D (sw_11_0_1_2_3_4_5_6_7_8_9_10 (hamW G qm qa0 qh qo qt) (staW G qa0 qa1 qa2 qa4) (clubW G qa1 z51.1) (snpW G qa2 qa3 z51.2.1) (clubW G qa3 z51.2.2.1) (snpW G qa4 qa5 z51.2.2.2.1) (clubW G qa5 z51.2.2.2.2.1) (hisW G qh af z51.2.2.2.2.2.1) (frW G af z51.2.2.2.2.2.2.1 0 6) (ordW G qo z51.2.2.2.2.2.2.2.1) (clubW G qt z51.2.2.2.2.2.2.2.2)).symm hD
    refine lv_aload_n hx hb d_Law_law_255 rfl (lv_at hl 1 rfl) ?_
    refine lv_iconst (v := 0) hx hb d_Law_law_256 (by decide) ?_
    have hP := SW.P (sw_11_0_1_2_3_4_5_6_7_8_9_10 (hamW G qm qa0 qh qo qt) (staW G qa0 qa1 qa2 qa4) (clubW G qa1 z51.1) (snpW G qa2 qa3 z51.2.1) (clubW G qa3 z51.2.2.1) (snpW G qa4 qa5 z51.2.2.2.1) (clubW G qa5 z51.2.2.2.2.1) (hisW G qh af z51.2.2.2.2.2.1) (frW G af z51.2.2.2.2.2.2.1 0 6) (ordW G qo z51.2.2.2.2.2.2.2.1) (clubW G qt z51.2.2.2.2.2.2.2.2)) hP
    have hD := SW.D (sw_11_0_1_2_3_4_5_6_7_8_9_10 (hamW G qm qa0 qh qo qt) (staW G qa0 qa1 qa2 qa4) (clubW G qa1 z51.1) (snpW G qa2 qa3 z51.2.1) (clubW G qa3 z51.2.2.1) (snpW G qa4 qa5 z51.2.2.2.1) (clubW G qa5 z51.2.2.2.2.1) (hisW G qh af z51.2.2.2.2.2.1) (frW G af z51.2.2.2.2.2.2.1 0 6) (ordW G qo z51.2.2.2.2.2.2.2.1) (clubW G qt z51.2.2.2.2.2.2.2.2)) hD
    refine call_ViP (own := "HamperClubLaw") (As := [.int 0]) (rest := [.int x52]) (q0 := 0) (ci := 8) (wc := hamW G qm qa0 qh qo qt ++ (staW G qa0 qa1 qa2 qa4 ++ (clubW G qa1 z51.1 ++ (snpW G qa2 qa3 z51.2.1 ++ (clubW G qa3 z51.2.2.1 ++ (snpW G qa4 qa5 z51.2.2.2.1 ++ (clubW G qa5 z51.2.2.2.2.1 ++ (hisW G qh af z51.2.2.2.2.2.1 ++ (frW G af z51.2.2.2.2.2.2.1 0 6 ++ (ordW G qo z51.2.2.2.2.2.2.2.1 ++ clubW G qt z51.2.2.2.2.2.2.2.2)))))))))) (post := []) hx hb hml hts hown hK hA hP hD hS ok_Law_12 rfl ⟨Nat.le_of_ble_eq_true rfl, Nat.le_of_ble_eq_true rfl⟩ ⟨hcs1, hcs2⟩ rfl rfl rfl hl.1 rfl (Nat.le_of_ble_eq_true rfl) d_Law_law_257 (c_Ham_count l G qm qa0 qa1 qa2 qa3 qa4 qa5 qh qo qt af _ (z51.1, z51.2.1, z51.2.2.1, z51.2.2.2.1, z51.2.2.2.2.1, z51.2.2.2.2.2.1, z51.2.2.2.2.2.2.1, z51.2.2.2.2.2.2.2.1, z51.2.2.2.2.2.2.2.2) 0 _ h) (fun x54 z53 H locs h hP hD hS => ?_)
    have hP := SW.P (sw_11_0_1_2_3_4_5_6_7_8_9_10 (hamW G qm qa0 qh qo qt) (staW G qa0 qa1 qa2 qa4) (clubW G qa1 z53.1) (snpW G qa2 qa3 z53.2.1) (clubW G qa3 z53.2.2.1) (snpW G qa4 qa5 z53.2.2.2.1) (clubW G qa5 z53.2.2.2.2.1) (hisW G qh af z53.2.2.2.2.2.1) (frW G af z53.2.2.2.2.2.2.1 0 6) (ordW G qo z53.2.2.2.2.2.2.2.1) (clubW G qt z53.2.2.2.2.2.2.2.2)).symm hP
    have hD := SW.D (sw_11_0_1_2_3_4_5_6_7_8_9_10 (hamW G qm qa0 qh qo qt) (staW G qa0 qa1 qa2 qa4) (clubW G qa1 z53.1) (snpW G qa2 qa3 z53.2.1) (clubW G qa3 z53.2.2.1) (snpW G qa4 qa5 z53.2.2.2.1) (clubW G qa5 z53.2.2.2.2.1) (hisW G qh af z53.2.2.2.2.2.1) (frW G af z53.2.2.2.2.2.2.1 0 6) (ordW G qo z53.2.2.2.2.2.2.2.1) (clubW G qt z53.2.2.2.2.2.2.2.2)).symm hD
    refine lv_icmp_ne (tgt := 372) hx hb d_Law_law_260 (by decide) (fun hc => ?_) (fun hc => ?_)
    · have h := h.2 hc
      refine lv_iconst (v := 0) hx hb d_Law_law_372 (by decide) ?_
      exact h.elim
    · have h := h.1 hc
      refine lv_aload_n hx hb d_Law_law_263 rfl (lv_at hl 1 rfl) ?_
      refine call_Sl (own := "HamperClubLaw") (As := [.ref (qm 0)]) (rest := []) hx hb hml hts hown hK hA hP hD hS so_Law_42 rfl ⟨Nat.le_of_ble_eq_true rfl, Nat.le_of_ble_eq_true rfl⟩ ⟨hcs1, hcs2⟩ hl.1 rfl (Nat.le_of_ble_eq_true rfl) d_Law_law_264 (c_Law_all l G qm qa0 qa1 qa2 qa3 qa4 qa5 qh qo qt af _ (z53.1, z53.2.1, z53.2.2.1, z53.2.2.2.1, z53.2.2.2.2.1, z53.2.2.2.2.2.1, z53.2.2.2.2.2.2.1, z53.2.2.2.2.2.2.2.1, z53.2.2.2.2.2.2.2.2) _ h) (fun x56 z55 H locs h hP hD hS => ?_)
      refine lv_lload_n hx hb d_Law_law_267 rfl (lv_at hl 0 rfl) ?_
      refine W.lcmp hx hb d_Law_law_268 ?_
      refine lv_if_ne (tgt := 372) hx hb d_Law_law_269 (by decide) (fun hc => ?_) (fun hc => ?_)
      · have h := h.2 hc
        refine lv_iconst (v := 0) hx hb d_Law_law_372 (by decide) ?_
        exact h.elim
      · have h := h.1 hc
        refine lv_aload_n hx hb d_Law_law_272 rfl (lv_at hl 1 rfl) ?_
        have hP := SW.P (sw_11_0_1_2_3_4_5_6_7_8_9_10 (hamW G qm qa0 qh qo qt) (staW G qa0 qa1 qa2 qa4) (clubW G qa1 z55.1) (snpW G qa2 qa3 z55.2.1) (clubW G qa3 z55.2.2.1) (snpW G qa4 qa5 z55.2.2.2.1) (clubW G qa5 z55.2.2.2.2.1) (hisW G qh af z55.2.2.2.2.2.1) (frW G af z55.2.2.2.2.2.2.1 0 6) (ordW G qo z55.2.2.2.2.2.2.2.1) (clubW G qt z55.2.2.2.2.2.2.2.2)) hP
        have hD := SW.D (sw_11_0_1_2_3_4_5_6_7_8_9_10 (hamW G qm qa0 qh qo qt) (staW G qa0 qa1 qa2 qa4) (clubW G qa1 z55.1) (snpW G qa2 qa3 z55.2.1) (clubW G qa3 z55.2.2.1) (snpW G qa4 qa5 z55.2.2.2.1) (clubW G qa5 z55.2.2.2.2.1) (hisW G qh af z55.2.2.2.2.2.1) (frW G af z55.2.2.2.2.2.2.1 0 6) (ordW G qo z55.2.2.2.2.2.2.2.1) (clubW G qt z55.2.2.2.2.2.2.2.2)) hD
        refine call_ViP (own := "HamperClubLaw") (As := []) (rest := []) (q0 := 0) (ci := 8) (wc := hamW G qm qa0 qh qo qt ++ (staW G qa0 qa1 qa2 qa4 ++ (clubW G qa1 z55.1 ++ (snpW G qa2 qa3 z55.2.1 ++ (clubW G qa3 z55.2.2.1 ++ (snpW G qa4 qa5 z55.2.2.2.1 ++ (clubW G qa5 z55.2.2.2.2.1 ++ (hisW G qh af z55.2.2.2.2.2.1 ++ (frW G af z55.2.2.2.2.2.2.1 0 6 ++ (ordW G qo z55.2.2.2.2.2.2.2.1 ++ clubW G qt z55.2.2.2.2.2.2.2.2)))))))))) (post := []) hx hb hml hts hown hK hA hP hD hS ok_Law_54 rfl ⟨Nat.le_of_ble_eq_true rfl, Nat.le_of_ble_eq_true rfl⟩ ⟨hcs1, hcs2⟩ rfl rfl rfl hl.1 rfl (Nat.le_of_ble_eq_true rfl) d_Law_law_273 (c_Ham_undo l G qm qa0 qa1 qa2 qa3 qa4 qa5 qh qo qt af _ (z55.1, z55.2.1, z55.2.2.1, z55.2.2.2.1, z55.2.2.2.2.1, z55.2.2.2.2.2.1, z55.2.2.2.2.2.2.1, z55.2.2.2.2.2.2.2.1, z55.2.2.2.2.2.2.2.2)  _ h) (fun x58 z57 H locs h hP hD hS => ?_)
        have hP := SW.P (sw_11_0_1_2_3_4_5_6_7_8_9_10 (hamW G qm qa0 qh qo qt) (staW G qa0 qa1 qa2 qa4) (clubW G qa1 z57.1) (snpW G qa2 qa3 z57.2.1) (clubW G qa3 z57.2.2.1) (snpW G qa4 qa5 z57.2.2.2.1) (clubW G qa5 z57.2.2.2.2.1) (hisW G qh af z57.2.2.2.2.2.1) (frW G af z57.2.2.2.2.2.2.1 0 6) (ordW G qo z57.2.2.2.2.2.2.2.1) (clubW G qt z57.2.2.2.2.2.2.2.2)).symm hP
        have hD := SW.D (sw_11_0_1_2_3_4_5_6_7_8_9_10 (hamW G qm qa0 qh qo qt) (staW G qa0 qa1 qa2 qa4) (clubW G qa1 z57.1) (snpW G qa2 qa3 z57.2.1) (clubW G qa3 z57.2.2.1) (snpW G qa4 qa5 z57.2.2.2.1) (clubW G qa5 z57.2.2.2.2.1) (hisW G qh af z57.2.2.2.2.2.1) (frW G af z57.2.2.2.2.2.2.1 0 6) (ordW G qo z57.2.2.2.2.2.2.2.1) (clubW G qt z57.2.2.2.2.2.2.2.2)).symm hD
        refine lv_if_lt (tgt := 372) hx hb d_Law_law_276 (by decide) (fun hc => ?_) (fun hc => ?_)
        · have h := h.1 hc
          refine lv_iconst (v := 0) hx hb d_Law_law_372 (by decide) ?_
          exact h.elim
        · have h := h.2 hc
          refine lv_aload_n hx hb d_Law_law_279 rfl (lv_at hl 1 rfl) ?_
          refine lv_iconst (v := 0) hx hb d_Law_law_280 (by decide) ?_
          have hP := SW.P (sw_11_0_1_2_3_4_5_6_7_8_9_10 (hamW G qm qa0 qh qo qt) (staW G qa0 qa1 qa2 qa4) (clubW G qa1 z57.1) (snpW G qa2 qa3 z57.2.1) (clubW G qa3 z57.2.2.1) (snpW G qa4 qa5 z57.2.2.2.1) (clubW G qa5 z57.2.2.2.2.1) (hisW G qh af z57.2.2.2.2.2.1) (frW G af z57.2.2.2.2.2.2.1 0 6) (ordW G qo z57.2.2.2.2.2.2.2.1) (clubW G qt z57.2.2.2.2.2.2.2.2)) hP
          have hD := SW.D (sw_11_0_1_2_3_4_5_6_7_8_9_10 (hamW G qm qa0 qh qo qt) (staW G qa0 qa1 qa2 qa4) (clubW G qa1 z57.1) (snpW G qa2 qa3 z57.2.1) (clubW G qa3 z57.2.2.1) (snpW G qa4 qa5 z57.2.2.2.1) (clubW G qa5 z57.2.2.2.2.1) (hisW G qh af z57.2.2.2.2.2.1) (frW G af z57.2.2.2.2.2.2.1 0 6) (ordW G qo z57.2.2.2.2.2.2.2.1) (clubW G qt z57.2.2.2.2.2.2.2.2)) hD
          refine call_ViP (own := "HamperClubLaw") (As := [.int 0]) (rest := []) (q0 := 0) (ci := 8) (wc := hamW G qm qa0 qh qo qt ++ (staW G qa0 qa1 qa2 qa4 ++ (clubW G qa1 z57.1 ++ (snpW G qa2 qa3 z57.2.1 ++ (clubW G qa3 z57.2.2.1 ++ (snpW G qa4 qa5 z57.2.2.2.1 ++ (clubW G qa5 z57.2.2.2.2.1 ++ (hisW G qh af z57.2.2.2.2.2.1 ++ (frW G af z57.2.2.2.2.2.2.1 0 6 ++ (ordW G qo z57.2.2.2.2.2.2.2.1 ++ clubW G qt z57.2.2.2.2.2.2.2.2)))))))))) (post := []) hx hb hml hts hown hK hA hP hD hS ok_Law_85 rfl ⟨Nat.le_of_ble_eq_true rfl, Nat.le_of_ble_eq_true rfl⟩ ⟨hcs1, hcs2⟩ rfl rfl rfl hl.1 rfl (Nat.le_of_ble_eq_true rfl) d_Law_law_281 (c_Ham_restore l G qm qa0 qa1 qa2 qa3 qa4 qa5 qh qo qt af _ (z57.1, z57.2.1, z57.2.2.1, z57.2.2.2.1, z57.2.2.2.2.1, z57.2.2.2.2.2.1, z57.2.2.2.2.2.2.1, z57.2.2.2.2.2.2.2.1, z57.2.2.2.2.2.2.2.2) 0 _ h) (fun x60 z59 H locs h hP hD hS => ?_)
          have hP := SW.P (sw_11_0_1_2_3_4_5_6_7_8_9_10 (hamW G qm qa0 qh qo qt) (staW G qa0 qa1 qa2 qa4) (clubW G qa1 z59.1) (snpW G qa2 qa3 z59.2.1) (clubW G qa3 z59.2.2.1) (snpW G qa4 qa5 z59.2.2.2.1) (clubW G qa5 z59.2.2.2.2.1) (hisW G qh af z59.2.2.2.2.2.1) (frW G af z59.2.2.2.2.2.2.1 0 6) (ordW G qo z59.2.2.2.2.2.2.2.1) (clubW G qt z59.2.2.2.2.2.2.2.2)).symm hP
          have hD := SW.D (sw_11_0_1_2_3_4_5_6_7_8_9_10 (hamW G qm qa0 qh qo qt) (staW G qa0 qa1 qa2 qa4) (clubW G qa1 z59.1) (snpW G qa2 qa3 z59.2.1) (clubW G qa3 z59.2.2.1) (snpW G qa4 qa5 z59.2.2.2.1) (clubW G qa5 z59.2.2.2.2.1) (hisW G qh af z59.2.2.2.2.2.1) (frW G af z59.2.2.2.2.2.2.1 0 6) (ordW G qo z59.2.2.2.2.2.2.2.1) (clubW G qt z59.2.2.2.2.2.2.2.2)).symm hD
          refine lv_if_lt (tgt := 372) hx hb d_Law_law_284 (by decide) (fun hc => ?_) (fun hc => ?_)
          · have h := h.1 hc
            refine lv_iconst (v := 0) hx hb d_Law_law_372 (by decide) ?_
            exact h.elim
          · have h := h.2 hc
            refine lv_aload_n hx hb d_Law_law_287 rfl (lv_at hl 1 rfl) ?_
            refine call_Sl (own := "HamperClubLaw") (As := [.ref (qm 0)]) (rest := []) hx hb hml hts hown hK hA hP hD hS so_Law_42 rfl ⟨Nat.le_of_ble_eq_true rfl, Nat.le_of_ble_eq_true rfl⟩ ⟨hcs1, hcs2⟩ hl.1 rfl (Nat.le_of_ble_eq_true rfl) d_Law_law_288 (c_Law_all l G qm qa0 qa1 qa2 qa3 qa4 qa5 qh qo qt af _ (z59.1, z59.2.1, z59.2.2.1, z59.2.2.2.1, z59.2.2.2.2.1, z59.2.2.2.2.2.1, z59.2.2.2.2.2.2.1, z59.2.2.2.2.2.2.2.1, z59.2.2.2.2.2.2.2.2) _ h) (fun x62 z61 H locs h hP hD hS => ?_)
            refine lv_lload_n hx hb d_Law_law_291 rfl (lv_at hl 0 rfl) ?_
            refine W.lcmp hx hb d_Law_law_292 ?_
            refine lv_if_ne (tgt := 372) hx hb d_Law_law_293 (by decide) (fun hc => ?_) (fun hc => ?_)
            · have h := h.2 hc
              refine lv_iconst (v := 0) hx hb d_Law_law_372 (by decide) ?_
              exact h.elim
            · have h := h.1 hc
              refine lv_aload_n hx hb d_Law_law_296 rfl (lv_at hl 1 rfl) ?_
              refine lv_iconst (v := 2) hx hb d_Law_law_297 (by decide) ?_
              have hP := SW.P (sw_11_0_1_2_3_4_5_6_7_8_9_10 (hamW G qm qa0 qh qo qt) (staW G qa0 qa1 qa2 qa4) (clubW G qa1 z61.1) (snpW G qa2 qa3 z61.2.1) (clubW G qa3 z61.2.2.1) (snpW G qa4 qa5 z61.2.2.2.1) (clubW G qa5 z61.2.2.2.2.1) (hisW G qh af z61.2.2.2.2.2.1) (frW G af z61.2.2.2.2.2.2.1 0 6) (ordW G qo z61.2.2.2.2.2.2.2.1) (clubW G qt z61.2.2.2.2.2.2.2.2)) hP
              have hD := SW.D (sw_11_0_1_2_3_4_5_6_7_8_9_10 (hamW G qm qa0 qh qo qt) (staW G qa0 qa1 qa2 qa4) (clubW G qa1 z61.1) (snpW G qa2 qa3 z61.2.1) (clubW G qa3 z61.2.2.1) (snpW G qa4 qa5 z61.2.2.2.1) (clubW G qa5 z61.2.2.2.2.1) (hisW G qh af z61.2.2.2.2.2.1) (frW G af z61.2.2.2.2.2.2.1 0 6) (ordW G qo z61.2.2.2.2.2.2.2.1) (clubW G qt z61.2.2.2.2.2.2.2.2)) hD
              refine call_ViP (own := "HamperClubLaw") (As := [.int 2]) (rest := []) (q0 := 0) (ci := 8) (wc := hamW G qm qa0 qh qo qt ++ (staW G qa0 qa1 qa2 qa4 ++ (clubW G qa1 z61.1 ++ (snpW G qa2 qa3 z61.2.1 ++ (clubW G qa3 z61.2.2.1 ++ (snpW G qa4 qa5 z61.2.2.2.1 ++ (clubW G qa5 z61.2.2.2.2.1 ++ (hisW G qh af z61.2.2.2.2.2.1 ++ (frW G af z61.2.2.2.2.2.2.1 0 6 ++ (ordW G qo z61.2.2.2.2.2.2.2.1 ++ clubW G qt z61.2.2.2.2.2.2.2.2)))))))))) (post := []) hx hb hml hts hown hK hA hP hD hS ok_Law_82 rfl ⟨Nat.le_of_ble_eq_true rfl, Nat.le_of_ble_eq_true rfl⟩ ⟨hcs1, hcs2⟩ rfl rfl rfl hl.1 rfl (Nat.le_of_ble_eq_true rfl) d_Law_law_298 (c_Ham_take l G qm qa0 qa1 qa2 qa3 qa4 qa5 qh qo qt af _ (z61.1, z61.2.1, z61.2.2.1, z61.2.2.2.1, z61.2.2.2.2.1, z61.2.2.2.2.2.1, z61.2.2.2.2.2.2.1, z61.2.2.2.2.2.2.2.1, z61.2.2.2.2.2.2.2.2) 2 _ h) (fun x64 z63 H locs h hP hD hS => ?_)
              have hP := SW.P (sw_11_0_1_2_3_4_5_6_7_8_9_10 (hamW G qm qa0 qh qo qt) (staW G qa0 qa1 qa2 qa4) (clubW G qa1 z63.1) (snpW G qa2 qa3 z63.2.1) (clubW G qa3 z63.2.2.1) (snpW G qa4 qa5 z63.2.2.2.1) (clubW G qa5 z63.2.2.2.2.1) (hisW G qh af z63.2.2.2.2.2.1) (frW G af z63.2.2.2.2.2.2.1 0 6) (ordW G qo z63.2.2.2.2.2.2.2.1) (clubW G qt z63.2.2.2.2.2.2.2.2)).symm hP
              have hD := SW.D (sw_11_0_1_2_3_4_5_6_7_8_9_10 (hamW G qm qa0 qh qo qt) (staW G qa0 qa1 qa2 qa4) (clubW G qa1 z63.1) (snpW G qa2 qa3 z63.2.1) (clubW G qa3 z63.2.2.1) (snpW G qa4 qa5 z63.2.2.2.1) (clubW G qa5 z63.2.2.2.2.1) (hisW G qh af z63.2.2.2.2.2.1) (frW G af z63.2.2.2.2.2.2.1 0 6) (ordW G qo z63.2.2.2.2.2.2.2.1) (clubW G qt z63.2.2.2.2.2.2.2.2)).symm hD
              refine lv_iconst (v := (-1)) hx hb d_Law_law_301 (by decide) ?_
              refine lv_icmp_ne (tgt := 372) hx hb d_Law_law_302 (by decide) (fun hc => ?_) (fun hc => ?_)
              · have h := h.2 hc
                refine lv_iconst (v := 0) hx hb d_Law_law_372 (by decide) ?_
                exact h.elim
              · have h := h.1 hc
                refine lv_aload_n hx hb d_Law_law_305 rfl (lv_at hl 1 rfl) ?_
                refine lv_iconst (v := (-1)) hx hb d_Law_law_306 (by decide) ?_
                have hP := SW.P (sw_11_0_1_2_3_4_5_6_7_8_9_10 (hamW G qm qa0 qh qo qt) (staW G qa0 qa1 qa2 qa4) (clubW G qa1 z63.1) (snpW G qa2 qa3 z63.2.1) (clubW G qa3 z63.2.2.1) (snpW G qa4 qa5 z63.2.2.2.1) (clubW G qa5 z63.2.2.2.2.1) (hisW G qh af z63.2.2.2.2.2.1) (frW G af z63.2.2.2.2.2.2.1 0 6) (ordW G qo z63.2.2.2.2.2.2.2.1) (clubW G qt z63.2.2.2.2.2.2.2.2)) hP
                have hD := SW.D (sw_11_0_1_2_3_4_5_6_7_8_9_10 (hamW G qm qa0 qh qo qt) (staW G qa0 qa1 qa2 qa4) (clubW G qa1 z63.1) (snpW G qa2 qa3 z63.2.1) (clubW G qa3 z63.2.2.1) (snpW G qa4 qa5 z63.2.2.2.1) (clubW G qa5 z63.2.2.2.2.1) (hisW G qh af z63.2.2.2.2.2.1) (frW G af z63.2.2.2.2.2.2.1 0 6) (ordW G qo z63.2.2.2.2.2.2.2.1) (clubW G qt z63.2.2.2.2.2.2.2.2)) hD
                refine call_ViP (own := "HamperClubLaw") (As := [.int (-1)]) (rest := []) (q0 := 0) (ci := 8) (wc := hamW G qm qa0 qh qo qt ++ (staW G qa0 qa1 qa2 qa4 ++ (clubW G qa1 z63.1 ++ (snpW G qa2 qa3 z63.2.1 ++ (clubW G qa3 z63.2.2.1 ++ (snpW G qa4 qa5 z63.2.2.2.1 ++ (clubW G qa5 z63.2.2.2.2.1 ++ (hisW G qh af z63.2.2.2.2.2.1 ++ (frW G af z63.2.2.2.2.2.2.1 0 6 ++ (ordW G qo z63.2.2.2.2.2.2.2.1 ++ clubW G qt z63.2.2.2.2.2.2.2.2)))))))))) (post := []) hx hb hml hts hown hK hA hP hD hS ok_Law_85 rfl ⟨Nat.le_of_ble_eq_true rfl, Nat.le_of_ble_eq_true rfl⟩ ⟨hcs1, hcs2⟩ rfl rfl rfl hl.1 rfl (Nat.le_of_ble_eq_true rfl) d_Law_law_307 (c_Ham_restore l G qm qa0 qa1 qa2 qa3 qa4 qa5 qh qo qt af _ (z63.1, z63.2.1, z63.2.2.1, z63.2.2.2.1, z63.2.2.2.2.1, z63.2.2.2.2.2.1, z63.2.2.2.2.2.2.1, z63.2.2.2.2.2.2.2.1, z63.2.2.2.2.2.2.2.2) (-1) _ h) (fun x66 z65 H locs h hP hD hS => ?_)
                have hP := SW.P (sw_11_0_1_2_3_4_5_6_7_8_9_10 (hamW G qm qa0 qh qo qt) (staW G qa0 qa1 qa2 qa4) (clubW G qa1 z65.1) (snpW G qa2 qa3 z65.2.1) (clubW G qa3 z65.2.2.1) (snpW G qa4 qa5 z65.2.2.2.1) (clubW G qa5 z65.2.2.2.2.1) (hisW G qh af z65.2.2.2.2.2.1) (frW G af z65.2.2.2.2.2.2.1 0 6) (ordW G qo z65.2.2.2.2.2.2.2.1) (clubW G qt z65.2.2.2.2.2.2.2.2)).symm hP
                have hD := SW.D (sw_11_0_1_2_3_4_5_6_7_8_9_10 (hamW G qm qa0 qh qo qt) (staW G qa0 qa1 qa2 qa4) (clubW G qa1 z65.1) (snpW G qa2 qa3 z65.2.1) (clubW G qa3 z65.2.2.1) (snpW G qa4 qa5 z65.2.2.2.1) (clubW G qa5 z65.2.2.2.2.1) (hisW G qh af z65.2.2.2.2.2.1) (frW G af z65.2.2.2.2.2.2.1 0 6) (ordW G qo z65.2.2.2.2.2.2.2.1) (clubW G qt z65.2.2.2.2.2.2.2.2)).symm hD
                refine lv_iconst (v := (-1)) hx hb d_Law_law_310 (by decide) ?_
                refine lv_icmp_ne (tgt := 372) hx hb d_Law_law_311 (by decide) (fun hc => ?_) (fun hc => ?_)
                · have h := h.2 hc
                  refine lv_iconst (v := 0) hx hb d_Law_law_372 (by decide) ?_
                  exact h.elim
                · have h := h.1 hc
                  refine lv_aload_n hx hb d_Law_law_314 rfl (lv_at hl 1 rfl) ?_
                  refine lv_bipush (v := 16) hx hb d_Law_law_315 (by decide) ?_
                  have hP := SW.P (sw_11_0_1_2_3_4_5_6_7_8_9_10 (hamW G qm qa0 qh qo qt) (staW G qa0 qa1 qa2 qa4) (clubW G qa1 z65.1) (snpW G qa2 qa3 z65.2.1) (clubW G qa3 z65.2.2.1) (snpW G qa4 qa5 z65.2.2.2.1) (clubW G qa5 z65.2.2.2.2.1) (hisW G qh af z65.2.2.2.2.2.1) (frW G af z65.2.2.2.2.2.2.1 0 6) (ordW G qo z65.2.2.2.2.2.2.2.1) (clubW G qt z65.2.2.2.2.2.2.2.2)) hP
                  have hD := SW.D (sw_11_0_1_2_3_4_5_6_7_8_9_10 (hamW G qm qa0 qh qo qt) (staW G qa0 qa1 qa2 qa4) (clubW G qa1 z65.1) (snpW G qa2 qa3 z65.2.1) (clubW G qa3 z65.2.2.1) (snpW G qa4 qa5 z65.2.2.2.1) (clubW G qa5 z65.2.2.2.2.1) (hisW G qh af z65.2.2.2.2.2.1) (frW G af z65.2.2.2.2.2.2.1 0 6) (ordW G qo z65.2.2.2.2.2.2.2.1) (clubW G qt z65.2.2.2.2.2.2.2.2)) hD
                  refine call_ViP (own := "HamperClubLaw") (As := [.int 16]) (rest := []) (q0 := 0) (ci := 8) (wc := hamW G qm qa0 qh qo qt ++ (staW G qa0 qa1 qa2 qa4 ++ (clubW G qa1 z65.1 ++ (snpW G qa2 qa3 z65.2.1 ++ (clubW G qa3 z65.2.2.1 ++ (snpW G qa4 qa5 z65.2.2.2.1 ++ (clubW G qa5 z65.2.2.2.2.1 ++ (hisW G qh af z65.2.2.2.2.2.1 ++ (frW G af z65.2.2.2.2.2.2.1 0 6 ++ (ordW G qo z65.2.2.2.2.2.2.2.1 ++ clubW G qt z65.2.2.2.2.2.2.2.2)))))))))) (post := []) hx hb hml hts hown hK hA hP hD hS ok_Law_12 rfl ⟨Nat.le_of_ble_eq_true rfl, Nat.le_of_ble_eq_true rfl⟩ ⟨hcs1, hcs2⟩ rfl rfl rfl hl.1 rfl (Nat.le_of_ble_eq_true rfl) d_Law_law_317 (c_Ham_count l G qm qa0 qa1 qa2 qa3 qa4 qa5 qh qo qt af _ (z65.1, z65.2.1, z65.2.2.1, z65.2.2.2.1, z65.2.2.2.2.1, z65.2.2.2.2.2.1, z65.2.2.2.2.2.2.1, z65.2.2.2.2.2.2.2.1, z65.2.2.2.2.2.2.2.2) 16 _ h) (fun x68 z67 H locs h hP hD hS => ?_)
                  have hP := SW.P (sw_11_0_1_2_3_4_5_6_7_8_9_10 (hamW G qm qa0 qh qo qt) (staW G qa0 qa1 qa2 qa4) (clubW G qa1 z67.1) (snpW G qa2 qa3 z67.2.1) (clubW G qa3 z67.2.2.1) (snpW G qa4 qa5 z67.2.2.2.1) (clubW G qa5 z67.2.2.2.2.1) (hisW G qh af z67.2.2.2.2.2.1) (frW G af z67.2.2.2.2.2.2.1 0 6) (ordW G qo z67.2.2.2.2.2.2.2.1) (clubW G qt z67.2.2.2.2.2.2.2.2)).symm hP
                  have hD := SW.D (sw_11_0_1_2_3_4_5_6_7_8_9_10 (hamW G qm qa0 qh qo qt) (staW G qa0 qa1 qa2 qa4) (clubW G qa1 z67.1) (snpW G qa2 qa3 z67.2.1) (clubW G qa3 z67.2.2.1) (snpW G qa4 qa5 z67.2.2.2.1) (clubW G qa5 z67.2.2.2.2.1) (hisW G qh af z67.2.2.2.2.2.1) (frW G af z67.2.2.2.2.2.2.1 0 6) (ordW G qo z67.2.2.2.2.2.2.2.1) (clubW G qt z67.2.2.2.2.2.2.2.2)).symm hD
                  refine lv_iconst (v := (-1)) hx hb d_Law_law_320 (by decide) ?_
                  refine lv_icmp_ne (tgt := 372) hx hb d_Law_law_321 (by decide) (fun hc => ?_) (fun hc => ?_)
                  · have h := h.2 hc
                    refine lv_iconst (v := 0) hx hb d_Law_law_372 (by decide) ?_
                    exact h.elim
                  · have h := h.1 hc
                    refine lv_aload_n hx hb d_Law_law_324 rfl (lv_at hl 1 rfl) ?_
                    refine lv_bipush (v := 12) hx hb d_Law_law_325 (by decide) ?_
                    refine lv_iconst (v := 0) hx hb d_Law_law_327 (by decide) ?_
                    have hP := SW.P (sw_11_0_1_2_3_4_5_6_7_8_9_10 (hamW G qm qa0 qh qo qt) (staW G qa0 qa1 qa2 qa4) (clubW G qa1 z67.1) (snpW G qa2 qa3 z67.2.1) (clubW G qa3 z67.2.2.1) (snpW G qa4 qa5 z67.2.2.2.1) (clubW G qa5 z67.2.2.2.2.1) (hisW G qh af z67.2.2.2.2.2.1) (frW G af z67.2.2.2.2.2.2.1 0 6) (ordW G qo z67.2.2.2.2.2.2.2.1) (clubW G qt z67.2.2.2.2.2.2.2.2)) hP
                    have hD := SW.D (sw_11_0_1_2_3_4_5_6_7_8_9_10 (hamW G qm qa0 qh qo qt) (staW G qa0 qa1 qa2 qa4) (clubW G qa1 z67.1) (snpW G qa2 qa3 z67.2.1) (clubW G qa3 z67.2.2.1) (snpW G qa4 qa5 z67.2.2.2.1) (clubW G qa5 z67.2.2.2.2.1) (hisW G qh af z67.2.2.2.2.2.1) (frW G af z67.2.2.2.2.2.2.1 0 6) (ordW G qo z67.2.2.2.2.2.2.2.1) (clubW G qt z67.2.2.2.2.2.2.2.2)) hD
                    refine call_ViP (own := "HamperClubLaw") (As := [.int 12, .int 0]) (rest := []) (q0 := 0) (ci := 8) (wc := hamW G qm qa0 qh qo qt ++ (staW G qa0 qa1 qa2 qa4 ++ (clubW G qa1 z67.1 ++ (snpW G qa2 qa3 z67.2.1 ++ (clubW G qa3 z67.2.2.1 ++ (snpW G qa4 qa5 z67.2.2.2.1 ++ (clubW G qa5 z67.2.2.2.2.1 ++ (hisW G qh af z67.2.2.2.2.2.1 ++ (frW G af z67.2.2.2.2.2.2.1 0 6 ++ (ordW G qo z67.2.2.2.2.2.2.2.1 ++ clubW G qt z67.2.2.2.2.2.2.2.2)))))))))) (post := []) hx hb hml hts hown hK hA hP hD hS ok_Law_25 rfl ⟨Nat.le_of_ble_eq_true rfl, Nat.le_of_ble_eq_true rfl⟩ ⟨hcs1, hcs2⟩ rfl rfl rfl hl.1 rfl (Nat.le_of_ble_eq_true rfl) d_Law_law_328 (c_Ham_member l G qm qa0 qa1 qa2 qa3 qa4 qa5 qh qo qt af _ (z67.1, z67.2.1, z67.2.2.1, z67.2.2.2.1, z67.2.2.2.2.1, z67.2.2.2.2.2.1, z67.2.2.2.2.2.2.1, z67.2.2.2.2.2.2.2.1, z67.2.2.2.2.2.2.2.2) 12 0 _ h) (fun x70 z69 H locs h hP hD hS => ?_)
                    have hP := SW.P (sw_11_0_1_2_3_4_5_6_7_8_9_10 (hamW G qm qa0 qh qo qt) (staW G qa0 qa1 qa2 qa4) (clubW G qa1 z69.1) (snpW G qa2 qa3 z69.2.1) (clubW G qa3 z69.2.2.1) (snpW G qa4 qa5 z69.2.2.2.1) (clubW G qa5 z69.2.2.2.2.1) (hisW G qh af z69.2.2.2.2.2.1) (frW G af z69.2.2.2.2.2.2.1 0 6) (ordW G qo z69.2.2.2.2.2.2.2.1) (clubW G qt z69.2.2.2.2.2.2.2.2)).symm hP
                    have hD := SW.D (sw_11_0_1_2_3_4_5_6_7_8_9_10 (hamW G qm qa0 qh qo qt) (staW G qa0 qa1 qa2 qa4) (clubW G qa1 z69.1) (snpW G qa2 qa3 z69.2.1) (clubW G qa3 z69.2.2.1) (snpW G qa4 qa5 z69.2.2.2.1) (clubW G qa5 z69.2.2.2.2.1) (hisW G qh af z69.2.2.2.2.2.1) (frW G af z69.2.2.2.2.2.2.1 0 6) (ordW G qo z69.2.2.2.2.2.2.2.1) (clubW G qt z69.2.2.2.2.2.2.2.2)).symm hD
                    refine lv_iconst (v := (-1)) hx hb d_Law_law_331 (by decide) ?_
                    refine lv_icmp_ne (tgt := 372) hx hb d_Law_law_332 (by decide) (fun hc => ?_) (fun hc => ?_)
                    · have h := h.2 hc
                      refine lv_iconst (v := 0) hx hb d_Law_law_372 (by decide) ?_
                      exact h.elim
                    · have h := h.1 hc
                      refine lv_aload_n hx hb d_Law_law_335 rfl (lv_at hl 1 rfl) ?_
                      refine lv_iconst (v := 0) hx hb d_Law_law_336 (by decide) ?_
                      refine lv_iconst (v := 3) hx hb d_Law_law_337 (by decide) ?_
                      have hP := SW.P (sw_11_0_1_2_3_4_5_6_7_8_9_10 (hamW G qm qa0 qh qo qt) (staW G qa0 qa1 qa2 qa4) (clubW G qa1 z69.1) (snpW G qa2 qa3 z69.2.1) (clubW G qa3 z69.2.2.1) (snpW G qa4 qa5 z69.2.2.2.1) (clubW G qa5 z69.2.2.2.2.1) (hisW G qh af z69.2.2.2.2.2.1) (frW G af z69.2.2.2.2.2.2.1 0 6) (ordW G qo z69.2.2.2.2.2.2.2.1) (clubW G qt z69.2.2.2.2.2.2.2.2)) hP
                      have hD := SW.D (sw_11_0_1_2_3_4_5_6_7_8_9_10 (hamW G qm qa0 qh qo qt) (staW G qa0 qa1 qa2 qa4) (clubW G qa1 z69.1) (snpW G qa2 qa3 z69.2.1) (clubW G qa3 z69.2.2.1) (snpW G qa4 qa5 z69.2.2.2.1) (clubW G qa5 z69.2.2.2.2.1) (hisW G qh af z69.2.2.2.2.2.1) (frW G af z69.2.2.2.2.2.2.1 0 6) (ordW G qo z69.2.2.2.2.2.2.2.1) (clubW G qt z69.2.2.2.2.2.2.2.2)) hD
                      refine call_ViP (own := "HamperClubLaw") (As := [.int 0, .int 3]) (rest := []) (q0 := 0) (ci := 8) (wc := hamW G qm qa0 qh qo qt ++ (staW G qa0 qa1 qa2 qa4 ++ (clubW G qa1 z69.1 ++ (snpW G qa2 qa3 z69.2.1 ++ (clubW G qa3 z69.2.2.1 ++ (snpW G qa4 qa5 z69.2.2.2.1 ++ (clubW G qa5 z69.2.2.2.2.1 ++ (hisW G qh af z69.2.2.2.2.2.1 ++ (frW G af z69.2.2.2.2.2.2.1 0 6 ++ (ordW G qo z69.2.2.2.2.2.2.2.1 ++ clubW G qt z69.2.2.2.2.2.2.2.2)))))))))) (post := []) hx hb hml hts hown hK hA hP hD hS ok_Law_33 rfl ⟨Nat.le_of_ble_eq_true rfl, Nat.le_of_ble_eq_true rfl⟩ ⟨hcs1, hcs2⟩ rfl rfl rfl hl.1 rfl (Nat.le_of_ble_eq_true rfl) d_Law_law_338 (c_Ham_would l G qm qa0 qa1 qa2 qa3 qa4 qa5 qh qo qt af _ (z69.1, z69.2.1, z69.2.2.1, z69.2.2.2.1, z69.2.2.2.2.1, z69.2.2.2.2.2.1, z69.2.2.2.2.2.2.1, z69.2.2.2.2.2.2.2.1, z69.2.2.2.2.2.2.2.2) 0 3 _ h) (fun x72 z71 H locs h hP hD hS => ?_)
                      have hP := SW.P (sw_11_0_1_2_3_4_5_6_7_8_9_10 (hamW G qm qa0 qh qo qt) (staW G qa0 qa1 qa2 qa4) (clubW G qa1 z71.1) (snpW G qa2 qa3 z71.2.1) (clubW G qa3 z71.2.2.1) (snpW G qa4 qa5 z71.2.2.2.1) (clubW G qa5 z71.2.2.2.2.1) (hisW G qh af z71.2.2.2.2.2.1) (frW G af z71.2.2.2.2.2.2.1 0 6) (ordW G qo z71.2.2.2.2.2.2.2.1) (clubW G qt z71.2.2.2.2.2.2.2.2)).symm hP
                      have hD := SW.D (sw_11_0_1_2_3_4_5_6_7_8_9_10 (hamW G qm qa0 qh qo qt) (staW G qa0 qa1 qa2 qa4) (clubW G qa1 z71.1) (snpW G qa2 qa3 z71.2.1) (clubW G qa3 z71.2.2.1) (snpW G qa4 qa5 z71.2.2.2.1) (clubW G qa5 z71.2.2.2.2.1) (hisW G qh af z71.2.2.2.2.2.1) (frW G af z71.2.2.2.2.2.2.1 0 6) (ordW G qo z71.2.2.2.2.2.2.2.1) (clubW G qt z71.2.2.2.2.2.2.2.2)).symm hD
                      refine lv_iconst (v := (-1)) hx hb d_Law_law_341 (by decide) ?_
                      refine lv_icmp_ne (tgt := 372) hx hb d_Law_law_342 (by decide) (fun hc => ?_) (fun hc => ?_)
                      · have h := h.2 hc
                        refine lv_iconst (v := 0) hx hb d_Law_law_372 (by decide) ?_
                        exact h.elim
                      · have h := h.1 hc
                        refine lv_aload_n hx hb d_Law_law_345 rfl (lv_at hl 1 rfl) ?_
                        refine lv_iconst (v := 0) hx hb d_Law_law_346 (by decide) ?_
                        refine lv_iconst (v := 4) hx hb d_Law_law_347 (by decide) ?_
                        refine lv_iconst (v := 1) hx hb d_Law_law_348 (by decide) ?_
                        have hP := SW.P (sw_11_0_1_2_3_4_5_6_7_8_9_10 (hamW G qm qa0 qh qo qt) (staW G qa0 qa1 qa2 qa4) (clubW G qa1 z71.1) (snpW G qa2 qa3 z71.2.1) (clubW G qa3 z71.2.2.1) (snpW G qa4 qa5 z71.2.2.2.1) (clubW G qa5 z71.2.2.2.2.1) (hisW G qh af z71.2.2.2.2.2.1) (frW G af z71.2.2.2.2.2.2.1 0 6) (ordW G qo z71.2.2.2.2.2.2.2.1) (clubW G qt z71.2.2.2.2.2.2.2.2)) hP
                        have hD := SW.D (sw_11_0_1_2_3_4_5_6_7_8_9_10 (hamW G qm qa0 qh qo qt) (staW G qa0 qa1 qa2 qa4) (clubW G qa1 z71.1) (snpW G qa2 qa3 z71.2.1) (clubW G qa3 z71.2.2.1) (snpW G qa4 qa5 z71.2.2.2.1) (clubW G qa5 z71.2.2.2.2.1) (hisW G qh af z71.2.2.2.2.2.1) (frW G af z71.2.2.2.2.2.2.1 0 6) (ordW G qo z71.2.2.2.2.2.2.2.1) (clubW G qt z71.2.2.2.2.2.2.2.2)) hD
                        refine call_ViP (own := "HamperClubLaw") (As := [.int 0, .int 4, .int 1]) (rest := []) (q0 := 0) (ci := 8) (wc := hamW G qm qa0 qh qo qt ++ (staW G qa0 qa1 qa2 qa4 ++ (clubW G qa1 z71.1 ++ (snpW G qa2 qa3 z71.2.1 ++ (clubW G qa3 z71.2.2.1 ++ (snpW G qa4 qa5 z71.2.2.2.1 ++ (clubW G qa5 z71.2.2.2.2.1 ++ (hisW G qh af z71.2.2.2.2.2.1 ++ (frW G af z71.2.2.2.2.2.2.1 0 6 ++ (ordW G qo z71.2.2.2.2.2.2.2.1 ++ clubW G qt z71.2.2.2.2.2.2.2.2)))))))))) (post := []) hx hb hml hts hown hK hA hP hD hS ok_Law_110 rfl ⟨Nat.le_of_ble_eq_true rfl, Nat.le_of_ble_eq_true rfl⟩ ⟨hcs1, hcs2⟩ rfl rfl rfl hl.1 rfl (Nat.le_of_ble_eq_true rfl) d_Law_law_349 (c_Ham_weeksFor l G qm qa0 qa1 qa2 qa3 qa4 qa5 qh qo qt af _ (z71.1, z71.2.1, z71.2.2.1, z71.2.2.2.1, z71.2.2.2.2.1, z71.2.2.2.2.2.1, z71.2.2.2.2.2.2.1, z71.2.2.2.2.2.2.2.1, z71.2.2.2.2.2.2.2.2) 0 4 1 _ h) (fun x74 z73 H locs h hP hD hS => ?_)
                        have hP := SW.P (sw_11_0_1_2_3_4_5_6_7_8_9_10 (hamW G qm qa0 qh qo qt) (staW G qa0 qa1 qa2 qa4) (clubW G qa1 z73.1) (snpW G qa2 qa3 z73.2.1) (clubW G qa3 z73.2.2.1) (snpW G qa4 qa5 z73.2.2.2.1) (clubW G qa5 z73.2.2.2.2.1) (hisW G qh af z73.2.2.2.2.2.1) (frW G af z73.2.2.2.2.2.2.1 0 6) (ordW G qo z73.2.2.2.2.2.2.2.1) (clubW G qt z73.2.2.2.2.2.2.2.2)).symm hP
                        have hD := SW.D (sw_11_0_1_2_3_4_5_6_7_8_9_10 (hamW G qm qa0 qh qo qt) (staW G qa0 qa1 qa2 qa4) (clubW G qa1 z73.1) (snpW G qa2 qa3 z73.2.1) (clubW G qa3 z73.2.2.1) (snpW G qa4 qa5 z73.2.2.2.1) (clubW G qa5 z73.2.2.2.2.1) (hisW G qh af z73.2.2.2.2.2.1) (frW G af z73.2.2.2.2.2.2.1 0 6) (ordW G qo z73.2.2.2.2.2.2.2.1) (clubW G qt z73.2.2.2.2.2.2.2.2)).symm hD
                        refine lv_iconst (v := (-1)) hx hb d_Law_law_352 (by decide) ?_
                        refine lv_icmp_ne (tgt := 372) hx hb d_Law_law_353 (by decide) (fun hc => ?_) (fun hc => ?_)
                        · have h := h.2 hc
                          refine lv_iconst (v := 0) hx hb d_Law_law_372 (by decide) ?_
                          exact h.elim
                        · have h := h.1 hc
                          refine lv_aload_n hx hb d_Law_law_356 rfl (lv_at hl 1 rfl) ?_
                          refine lv_iconst (v := 0) hx hb d_Law_law_357 (by decide) ?_
                          refine lv_iconst (v := 0) hx hb d_Law_law_358 (by decide) ?_
                          refine lv_bipush (v := 6) hx hb d_Law_law_359 (by decide) ?_
                          have hP := SW.P (sw_11_0_1_2_3_4_5_6_7_8_9_10 (hamW G qm qa0 qh qo qt) (staW G qa0 qa1 qa2 qa4) (clubW G qa1 z73.1) (snpW G qa2 qa3 z73.2.1) (clubW G qa3 z73.2.2.1) (snpW G qa4 qa5 z73.2.2.2.1) (clubW G qa5 z73.2.2.2.2.1) (hisW G qh af z73.2.2.2.2.2.1) (frW G af z73.2.2.2.2.2.2.1 0 6) (ordW G qo z73.2.2.2.2.2.2.2.1) (clubW G qt z73.2.2.2.2.2.2.2.2)) hP
                          have hD := SW.D (sw_11_0_1_2_3_4_5_6_7_8_9_10 (hamW G qm qa0 qh qo qt) (staW G qa0 qa1 qa2 qa4) (clubW G qa1 z73.1) (snpW G qa2 qa3 z73.2.1) (clubW G qa3 z73.2.2.1) (snpW G qa4 qa5 z73.2.2.2.1) (clubW G qa5 z73.2.2.2.2.1) (hisW G qh af z73.2.2.2.2.2.1) (frW G af z73.2.2.2.2.2.2.1 0 6) (ordW G qo z73.2.2.2.2.2.2.2.1) (clubW G qt z73.2.2.2.2.2.2.2.2)) hD
                          refine call_ViP (own := "HamperClubLaw") (As := [.int 0, .int 0, .int 6]) (rest := []) (q0 := 0) (ci := 8) (wc := hamW G qm qa0 qh qo qt ++ (staW G qa0 qa1 qa2 qa4 ++ (clubW G qa1 z73.1 ++ (snpW G qa2 qa3 z73.2.1 ++ (clubW G qa3 z73.2.2.1 ++ (snpW G qa4 qa5 z73.2.2.2.1 ++ (clubW G qa5 z73.2.2.2.2.1 ++ (hisW G qh af z73.2.2.2.2.2.1 ++ (frW G af z73.2.2.2.2.2.2.1 0 6 ++ (ordW G qo z73.2.2.2.2.2.2.2.1 ++ clubW G qt z73.2.2.2.2.2.2.2.2)))))))))) (post := []) hx hb hml hts hown hK hA hP hD hS ok_Law_110 rfl ⟨Nat.le_of_ble_eq_true rfl, Nat.le_of_ble_eq_true rfl⟩ ⟨hcs1, hcs2⟩ rfl rfl rfl hl.1 rfl (Nat.le_of_ble_eq_true rfl) d_Law_law_361 (c_Ham_weeksFor l G qm qa0 qa1 qa2 qa3 qa4 qa5 qh qo qt af _ (z73.1, z73.2.1, z73.2.2.1, z73.2.2.2.1, z73.2.2.2.2.1, z73.2.2.2.2.2.1, z73.2.2.2.2.2.2.1, z73.2.2.2.2.2.2.2.1, z73.2.2.2.2.2.2.2.2) 0 0 6 _ h) (fun x76 z75 H locs h hP hD hS => ?_)
                          have hP := SW.P (sw_11_0_1_2_3_4_5_6_7_8_9_10 (hamW G qm qa0 qh qo qt) (staW G qa0 qa1 qa2 qa4) (clubW G qa1 z75.1) (snpW G qa2 qa3 z75.2.1) (clubW G qa3 z75.2.2.1) (snpW G qa4 qa5 z75.2.2.2.1) (clubW G qa5 z75.2.2.2.2.1) (hisW G qh af z75.2.2.2.2.2.1) (frW G af z75.2.2.2.2.2.2.1 0 6) (ordW G qo z75.2.2.2.2.2.2.2.1) (clubW G qt z75.2.2.2.2.2.2.2.2)).symm hP
                          have hD := SW.D (sw_11_0_1_2_3_4_5_6_7_8_9_10 (hamW G qm qa0 qh qo qt) (staW G qa0 qa1 qa2 qa4) (clubW G qa1 z75.1) (snpW G qa2 qa3 z75.2.1) (clubW G qa3 z75.2.2.1) (snpW G qa4 qa5 z75.2.2.2.1) (clubW G qa5 z75.2.2.2.2.1) (hisW G qh af z75.2.2.2.2.2.1) (frW G af z75.2.2.2.2.2.2.1 0 6) (ordW G qo z75.2.2.2.2.2.2.2.1) (clubW G qt z75.2.2.2.2.2.2.2.2)).symm hD
                          refine lv_iconst (v := (-1)) hx hb d_Law_law_364 (by decide) ?_
                          refine lv_icmp_ne (tgt := 372) hx hb d_Law_law_365 (by decide) (fun hc => ?_) (fun hc => ?_)
                          · have h := h.2 hc
                            refine lv_iconst (v := 0) hx hb d_Law_law_372 (by decide) ?_
                            exact h.elim
                          · have h := h.1 hc
                            refine lv_iconst (v := 1) hx hb d_Law_law_368 (by decide) ?_
                            refine lv_goto (tgt := 373) hx hb d_Law_law_369 (by decide) ?_
                            refine va_forget (fun q hq => hS.2.2 q hq) ?_
                            refine W.widen (k := 600000) (n := 7302250) hkc hks ?_
                            exact lw_ret hx hb hr hlocks d_Law_law_373
  · have h := h.2 hc
    refine lv_iconst (v := 0) hx hb d_Law_law_224 (by decide) ?_
    exact h.elim
