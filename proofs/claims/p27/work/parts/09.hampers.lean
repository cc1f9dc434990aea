/-! the hampers and the accounts -/
def wp_Acc_takeIn (u : CS) (p1 : Int32) (Post : CS → Prop) : Prop := (∀ u1 : CS, u1 = (cS u 5 ((u.1 5) + p1)) → (∀ u2 : CS, u2 = (cS u1 7 ((u1.1 7) + p1)) → Post u2))
set_option maxHeartbeats 4000000 in
set_option maxRecDepth 100000 in
theorem c_Acc_takeIn (l : Launch) (G : GG) (ad : Nat → Nat) (sz : Nat) (u : CS) (p1 : Int32) (Post : CS → Prop) (h : wp_Acc_takeIn u p1 Post) : CMv l y_Acc_takeIn b_Acc_takeIn 2 0 G [.ref (ad 16), .int p1] sz (clubW G ad u) (clubW G ad) Post := by
  refine CMv.start (by decide) (Nat.le_of_ble_eq_true rfl) (fun p e s m below meth c A ls hx hb hr hts hown hml hlocks hA hS hP hD hK hl => ?_)
  unfold wp_Acc_takeIn at h
  have hl : lv_has ls 2 [(0, .ref (ad 16)), (1, .int p1)] := hl
  refine lv_aload_n hx hb d_Acc_takeIn_0 rfl (lv_at hl 0 rfl) ?_
  refine lv_dup hx hb d_Acc_takeIn_1 rfl ?_
  refine gC_Acc_tin hx hb hts hown hK hP tb_127 d_Acc_takeIn_2 ?_
  refine lv_iload_n hx hb d_Acc_takeIn_5 rfl (lv_at hl 1 rfl) ?_
  refine lv_iadd hx hb d_Acc_takeIn_6 ?_
  refine pC_Acc_tin hx hb hts hown hK hP hD hS tb_127 d_Acc_takeIn_7 (fun u1 H locs eu1 hP hD hS => ?_)
  have h := h u1 eu1
  refine lv_aload_n hx hb d_Acc_takeIn_10 rfl (lv_at hl 0 rfl) ?_
  refine lv_dup hx hb d_Acc_takeIn_11 rfl ?_
  refine gC_Acc_cameIn hx hb hts hown hK hP tb_131 d_Acc_takeIn_12 ?_
  refine lv_iload_n hx hb d_Acc_takeIn_15 rfl (lv_at hl 1 rfl) ?_
  refine lv_iadd hx hb d_Acc_takeIn_16 ?_
  refine pC_Acc_cameIn hx hb hts hown hK hP hD hS tb_131 d_Acc_takeIn_17 (fun u2 H locs eu2 hP hD hS => ?_)
  have h := h u2 eu2
  exact r_vret hx hb hr hlocks hP hD hS d_Acc_takeIn_20 h
def wp_Acc_payOut (u : CS) (p1 : Int32) (Post : CS → Prop) : Prop := (∀ u1 : CS, u1 = (cS u 5 ((u.1 5) - p1)) → (∀ u2 : CS, u2 = (cS u1 8 ((u1.1 8) + p1)) → Post u2))
set_option maxHeartbeats 4000000 in
set_option maxRecDepth 100000 in
theorem c_Acc_payOut (l : Launch) (G : GG) (ad : Nat → Nat) (sz : Nat) (u : CS) (p1 : Int32) (Post : CS → Prop) (h : wp_Acc_payOut u p1 Post) : CMv l y_Acc_payOut b_Acc_payOut 2 0 G [.ref (ad 16), .int p1] sz (clubW G ad u) (clubW G ad) Post := by
  refine CMv.start (by decide) (Nat.le_of_ble_eq_true rfl) (fun p e s m below meth c A ls hx hb hr hts hown hml hlocks hA hS hP hD hK hl => ?_)
  unfold wp_Acc_payOut at h
  have hl : lv_has ls 2 [(0, .ref (ad 16)), (1, .int p1)] := hl
  refine lv_aload_n hx hb d_Acc_payOut_0 rfl (lv_at hl 0 rfl) ?_
  refine lv_dup hx hb d_Acc_payOut_1 rfl ?_
  refine gC_Acc_tin hx hb hts hown hK hP tb_127 d_Acc_payOut_2 ?_
  refine lv_iload_n hx hb d_Acc_payOut_5 rfl (lv_at hl 1 rfl) ?_
  refine lv_isub hx hb d_Acc_payOut_6 ?_
  refine pC_Acc_tin hx hb hts hown hK hP hD hS tb_127 d_Acc_payOut_7 (fun u1 H locs eu1 hP hD hS => ?_)
  have h := h u1 eu1
  refine lv_aload_n hx hb d_Acc_payOut_10 rfl (lv_at hl 0 rfl) ?_
  refine lv_dup hx hb d_Acc_payOut_11 rfl ?_
  refine gC_Acc_paidOut hx hb hts hown hK hP tb_133 d_Acc_payOut_12 ?_
  refine lv_iload_n hx hb d_Acc_payOut_15 rfl (lv_at hl 1 rfl) ?_
  refine lv_iadd hx hb d_Acc_payOut_16 ?_
  refine pC_Acc_paidOut hx hb hts hown hK hP hD hS tb_133 d_Acc_payOut_17 (fun u2 H locs eu2 hP hD hS => ?_)
  have h := h u2 eu2
  exact r_vret hx hb hr hlocks hP hD hS d_Acc_payOut_20 h
def wp_Acc_payShop (u : CS) (p1 : Int32) (Post : CS → Prop) : Prop := (∀ u1 : CS, u1 = (cS u 5 ((u.1 5) - p1)) → (∀ u2 : CS, u2 = (cS u1 9 ((u1.1 9) + p1)) → Post u2))
set_option maxHeartbeats 4000000 in
set_option maxRecDepth 100000 in
theorem c_Acc_payShop (l : Launch) (G : GG) (ad : Nat → Nat) (sz : Nat) (u : CS) (p1 : Int32) (Post : CS → Prop) (h : wp_Acc_payShop u p1 Post) : CMv l y_Acc_payShop b_Acc_payShop 2 0 G [.ref (ad 16), .int p1] sz (clubW G ad u) (clubW G ad) Post := by
  refine CMv.start (by decide) (Nat.le_of_ble_eq_true rfl) (fun p e s m below meth c A ls hx hb hr hts hown hml hlocks hA hS hP hD hK hl => ?_)
  unfold wp_Acc_payShop at h
  have hl : lv_has ls 2 [(0, .ref (ad 16)), (1, .int p1)] := hl
  refine lv_aload_n hx hb d_Acc_payShop_0 rfl (lv_at hl 0 rfl) ?_
  refine lv_dup hx hb d_Acc_payShop_1 rfl ?_
  refine gC_Acc_tin hx hb hts hown hK hP tb_127 d_Acc_payShop_2 ?_
  refine lv_iload_n hx hb d_Acc_payShop_5 rfl (lv_at hl 1 rfl) ?_
  refine lv_isub hx hb d_Acc_payShop_6 ?_
  refine pC_Acc_tin hx hb hts hown hK hP hD hS tb_127 d_Acc_payShop_7 (fun u1 H locs eu1 hP hD hS => ?_)
  have h := h u1 eu1
  refine lv_aload_n hx hb d_Acc_payShop_10 rfl (lv_at hl 0 rfl) ?_
  refine lv_dup hx hb d_Acc_payShop_11 rfl ?_
  refine gC_Acc_toShop hx hb hts hown hK hP tb_135 d_Acc_payShop_12 ?_
  refine lv_iload_n hx hb d_Acc_payShop_15 rfl (lv_at hl 1 rfl) ?_
  refine lv_iadd hx hb d_Acc_payShop_16 ?_
  refine pC_Acc_toShop hx hb hts hown hK hP hD hS tb_135 d_Acc_payShop_17 (fun u2 H locs eu2 hP hD hS => ?_)
  have h := h u2 eu2
  exact r_vret hx hb hr hlocks hP hD hS d_Acc_payShop_20 h
def wp_Hmp_hasOneKept (u : CS) (p1 : Int32) (Post : Int32 → CS → Prop) : Prop := (vp_in p1 12 ∧ ((((u.2.1 9) p1.toNatClampNeg) = (-9) → Post 0 u) ∧ (¬ ((u.2.1 9) p1.toNatClampNeg) = (-9) → (vp_in p1 12 ∧ ((((u.2.1 10) p1.toNatClampNeg) = 0 → Post 1 u) ∧ (¬ ((u.2.1 10) p1.toNatClampNeg) = 0 → Post 0 u))))))
set_option maxHeartbeats 4000000 in
set_option maxRecDepth 100000 in
theorem c_Hmp_hasOneKept (l : Launch) (G : GG) (ad : Nat → Nat) (sz : Nat) (u : CS) (p1 : Int32) (Post : Int32 → CS → Prop) (h : wp_Hmp_hasOneKept u p1 Post) : CMi l y_Hmp_hasOneKept b_Hmp_hasOneKept 2 .boolean 0 G [.ref (ad 10), .int p1] sz (clubW G ad u) (clubW G ad) Post := by
  refine CMi.start (by decide) (Nat.le_of_ble_eq_true rfl) (fun p e s m below meth c A ls hx hb hr hts hown hml hlocks hA hS hP hD hK hl => ?_)
  unfold wp_Hmp_hasOneKept at h
  have hl : lv_has ls 2 [(0, .ref (ad 10)), (1, .int p1)] := hl
  refine lv_aload_n hx hb d_Hmp_hasOneKept_0 rfl (lv_at hl 0 rfl) ?_
  refine gC_Hmp_choice hx hb hts hown hK hP tb_103 d_Hmp_hasOneKept_1 ?_
  refine lv_iload_n hx hb d_Hmp_hasOneKept_4 rfl (lv_at hl 1 rfl) ?_
  obtain ⟨hi, h⟩ := h
  refine lC_13 hx hb hK hP hi d_Hmp_hasOneKept_5 ?_
  refine lv_bipush (v := (-9)) hx hb d_Hmp_hasOneKept_6 (by decide) ?_
  refine lv_icmp_eq (tgt := 24) hx hb d_Hmp_hasOneKept_8 (by decide) (fun hc => ?_) (fun hc => ?_)
  · have h := h.1 hc
    refine lv_iconst (v := 0) hx hb d_Hmp_hasOneKept_24 (by decide) ?_
    exact r_zret hx hb hr hlocks rfl hP hD hS d_Hmp_hasOneKept_25 h
  · have h := h.2 hc
    refine lv_aload_n hx hb d_Hmp_hasOneKept_11 rfl (lv_at hl 0 rfl) ?_
    refine gC_Hmp_place hx hb hts hown hK hP tb_105 d_Hmp_hasOneKept_12 ?_
    refine lv_iload_n hx hb d_Hmp_hasOneKept_15 rfl (lv_at hl 1 rfl) ?_
    obtain ⟨hi, h⟩ := h
    refine lC_14 hx hb hK hP hi d_Hmp_hasOneKept_16 ?_
    refine lv_if_ne (tgt := 24) hx hb d_Hmp_hasOneKept_17 (by decide) (fun hc => ?_) (fun hc => ?_)
    · have h := h.2 hc
      refine lv_iconst (v := 0) hx hb d_Hmp_hasOneKept_24 (by decide) ?_
      exact r_zret hx hb hr hlocks rfl hP hD hS d_Hmp_hasOneKept_25 h
    · have h := h.1 hc
      refine lv_iconst (v := 1) hx hb d_Hmp_hasOneKept_20 (by decide) ?_
      refine lv_goto (tgt := 25) hx hb d_Hmp_hasOneKept_21 (by decide) ?_
      exact r_zret hx hb hr hlocks rfl hP hD hS d_Hmp_hasOneKept_25 h
def wl_Hmp_keptOf_4 (Post : Int32 → CS → Prop) (K : Int32 → CS → Prop) : Nat → Int32 → Int32 → Int32 → CS → Prop
  | 0, _, _, _ => fun _ => False
  | n + 1, a1, a2, a3 => fun u1 => ((12 ≤ a3 → K a2 u1) ∧ (¬ 12 ≤ a3 → (vp_in a3 12 ∧ ((((u1.2.1 9) a3.toNatClampNeg) = a1 → (vp_in a3 12 ∧ ((((u1.2.1 10) a3.toNatClampNeg) = 0 → (∀ x6 : Int32, x6 = (a2 + 1) → (∀ x7 : Int32, x7 = a3 + 1 → wl_Hmp_keptOf_4 Post K n a1 x6 x7 u1))) ∧ (¬ ((u1.2.1 10) a3.toNatClampNeg) = 0 → (∀ x4 : Int32, x4 = (a2 + 0) → (∀ x5 : Int32, x5 = a3 + 1 → wl_Hmp_keptOf_4 Post K n a1 x4 x5 u1)))))) ∧ (¬ ((u1.2.1 9) a3.toNatClampNeg) = a1 → (∀ x2 : Int32, x2 = (a2 + 0) → (∀ x3 : Int32, x3 = a3 + 1 → wl_Hmp_keptOf_4 Post K n a1 x2 x3 u1)))))))
def wp_Hmp_keptOf (u : CS) (p1 : Int32) (Post : Int32 → CS → Prop) : Prop := (∃ k10 : Nat, wl_Hmp_keptOf_4 Post (fun x9 u8 => Post x9 u8) k10 p1 0 0 u)
set_option maxHeartbeats 4000000 in
set_option maxRecDepth 100000 in
theorem x_Hmp_keptOf_4 {p : Program} {l : Launch} {e : Env} {s : State} {m : MethodId} {args : Array Value} {below : List Frame} {meth : Method} {c : Code} {A : Nat → Prop} {G : GG} {ad : Nat → Nat} {Post : Int32 → CS → Prop} {K : Int32 → CS → Prop} {Q : State → Prop}
    (hx : p.tables.exec = Jvm.exec) (hb : c.code = b_Hmp_keptOf) (hr : meth.sig.returnType = some .int) (hts : ∀ w ∈ Tg, w.before args s = true) (hown : s.vm.findClass "HamperClub$Hampers" = some m.cls) (hml : c.maxLocals = 4) (hlocks : meth.locks = false) (hA : ∀ q, s.heap.size ≤ q → A q) (hK : KN G s)
    (hQ : Q = MQ below (va_Qi Post (BW G A (clubW G ad)) A) args s 0 0 A)
    (kk : ∀ (b2 : Int32) (u : CS), K b2 u → ∀ (H : Heap) (locs : List Loc) (ls : Array Slot), va_P G.1 classes (clubW G ad u) H → va_D A (clubW G ad u) → va_S A s.heap H locs → lv_has ls 4 [(2, .int b2)] → W p l e (rmK 0) s m args below meth c H locs 0 0 Q (F0 m 43 ls [])) :
    ∀ (n : Nat) (a1 : Int32) (a2 : Int32) (a3 : Int32) (u : CS), wl_Hmp_keptOf_4 Post K n a1 a2 a3 u → ∀ (H : Heap) (locs : List Loc) (ls : Array Slot), va_P G.1 classes (clubW G ad u) H → va_D A (clubW G ad u) → va_S A s.heap H locs → lv_has ls 4 [(0, .ref (ad 10)), (1, .int a1), (2, .int a2), (3, .int a3)] → W p l e (rmK 0) s m args below meth c H locs 0 0 Q (F0 m 4 ls []) := by
  subst hQ
  intro n
  induction n with
  | zero => intro a1 a2 a3 u h; exact h.elim
  | succ n ih =>
    intro a1 a2 a3 u1 h H locs ls hP hD hS hl
    unfold wl_Hmp_keptOf_4 at h
    refine lv_iload_n hx hb d_Hmp_keptOf_4 rfl (lv_at hl 3 rfl) ?_
    refine lv_bipush (v := 12) hx hb d_Hmp_keptOf_5 (by decide) ?_
    refine lv_icmp_ge (tgt := 43) hx hb d_Hmp_keptOf_7 (by decide) (fun hc => ?_) (fun hc => ?_)
    · have h := h.1 hc
      exact kk a2 u1 h _ _ _ hP hD hS (lv_sub hl [2] rfl)
    · have h := h.2 hc
      refine lv_iload_n hx hb d_Hmp_keptOf_10 rfl (lv_at hl 2 rfl) ?_
      refine lv_aload_n hx hb d_Hmp_keptOf_11 rfl (lv_at hl 0 rfl) ?_
      refine gC_Hmp_choice hx hb hts hown hK hP tb_103 d_Hmp_keptOf_12 ?_
      refine lv_iload_n hx hb d_Hmp_keptOf_15 rfl (lv_at hl 3 rfl) ?_
      obtain ⟨hi, h⟩ := h
      refine lC_13 hx hb hK hP hi d_Hmp_keptOf_16 ?_
      refine lv_iload_n hx hb d_Hmp_keptOf_17 rfl (lv_at hl 1 rfl) ?_
      refine lv_icmp_ne (tgt := 34) hx hb d_Hmp_keptOf_18 (by decide) (fun hc => ?_) (fun hc => ?_)
      · have h := h.2 hc
        refine lv_iconst (v := 0) hx hb d_Hmp_keptOf_34 (by decide) ?_
        refine lv_iadd hx hb d_Hmp_keptOf_35 ?_
        refine lv_topi (fun x2 ex2 => ?_)
        have h := h x2 ex2
        refine lv_istore_n (lv' := [(2, .int x2), (0, .ref (ad 10)), (1, .int a1), (3, .int a3)]) hx hb d_Hmp_keptOf_36 rfl hl (by decide) rfl (fun ls hl => ?_)
        obtain ⟨x3, ex3⟩ : ∃ y : Int32, y = a3 + 1 := ⟨_, rfl⟩
        have h := h x3 ex3
        refine lv_iinc (v := x3) (lv' := [(3, .int x3), (2, .int x2), (0, .ref (ad 10)), (1, .int a1)]) hx hb d_Hmp_keptOf_37 hl (k := 3) rfl (by rw [ex3]; rfl) (by decide) rfl (fun ls hl => ?_)
        refine lv_goto (tgt := 4) hx hb d_Hmp_keptOf_40 (by decide) ?_
        exact ih a1 x2 x3 u1 h _ _ _ hP hD hS (lv_sub hl [2, 3, 1, 0] rfl)
      · have h := h.1 hc
        refine lv_aload_n hx hb d_Hmp_keptOf_21 rfl (lv_at hl 0 rfl) ?_
        refine gC_Hmp_place hx hb hts hown hK hP tb_105 d_Hmp_keptOf_22 ?_
        refine lv_iload_n hx hb d_Hmp_keptOf_25 rfl (lv_at hl 3 rfl) ?_
        obtain ⟨hi, h⟩ := h
        refine lC_14 hx hb hK hP hi d_Hmp_keptOf_26 ?_
        refine lv_if_ne (tgt := 34) hx hb d_Hmp_keptOf_27 (by decide) (fun hc => ?_) (fun hc => ?_)
        · have h := h.2 hc
          refine lv_iconst (v := 0) hx hb d_Hmp_keptOf_34 (by decide) ?_
          refine lv_iadd hx hb d_Hmp_keptOf_35 ?_
          refine lv_topi (fun x4 ex4 => ?_)
          have h := h x4 ex4
          refine lv_istore_n (lv' := [(2, .int x4), (0, .ref (ad 10)), (1, .int a1), (3, .int a3)]) hx hb d_Hmp_keptOf_36 rfl hl (by decide) rfl (fun ls hl => ?_)
          obtain ⟨x5, ex5⟩ : ∃ y : Int32, y = a3 + 1 := ⟨_, rfl⟩
          have h := h x5 ex5
          refine lv_iinc (v := x5) (lv' := [(3, .int x5), (2, .int x4), (0, .ref (ad 10)), (1, .int a1)]) hx hb d_Hmp_keptOf_37 hl (k := 3) rfl (by rw [ex5]; rfl) (by decide) rfl (fun ls hl => ?_)
          refine lv_goto (tgt := 4) hx hb d_Hmp_keptOf_40 (by decide) ?_
          exact ih a1 x4 x5 u1 h _ _ _ hP hD hS (lv_sub hl [2, 3, 1, 0] rfl)
        · have h := h.1 hc
          refine lv_iconst (v := 1) hx hb d_Hmp_keptOf_30 (by decide) ?_
          refine lv_goto (tgt := 35) hx hb d_Hmp_keptOf_31 (by decide) ?_
          refine lv_iadd hx hb d_Hmp_keptOf_35 ?_
          refine lv_topi (fun x6 ex6 => ?_)
          have h := h x6 ex6
          refine lv_istore_n (lv' := [(2, .int x6), (0, .ref (ad 10)), (1, .int a1), (3, .int a3)]) hx hb d_Hmp_keptOf_36 rfl hl (by decide) rfl (fun ls hl => ?_)
          obtain ⟨x7, ex7⟩ : ∃ y : Int32, y = a3 + 1 := ⟨_, rfl⟩
          have h := h x7 ex7
          refine lv_iinc (v := x7) (lv' := [(3, .int x7), (2, .int x6), (0, .ref (ad 10)), (1, .int a1)]) hx hb d_Hmp_keptOf_37 hl (k := 3) rfl (by rw [ex7]; rfl) (by decide) rfl (fun ls hl => ?_)
          refine lv_goto (tgt := 4) hx hb d_Hmp_keptOf_40 (by decide) ?_
          exact ih a1 x6 x7 u1 h _ _ _ hP hD hS (lv_sub hl [2, 3, 1, 0] rfl)
set_option maxHeartbeats 4000000 in
set_option maxRecDepth 100000 in
theorem c_Hmp_keptOf (l : Launch) (G : GG) (ad : Nat → Nat) (sz : Nat) (u : CS) (p1 : Int32) (Post : Int32 → CS → Prop) (h : wp_Hmp_keptOf u p1 Post) : CMi l y_Hmp_keptOf b_Hmp_keptOf 4 .int 0 G [.ref (ad 10), .int p1] sz (clubW G ad u) (clubW G ad) Post := by
  refine CMi.start (by decide) (Nat.le_of_ble_eq_true rfl) (fun p e s m below meth c A ls hx hb hr hts hown hml hlocks hA hS hP hD hK hl => ?_)
  unfold wp_Hmp_keptOf at h
  have hl : lv_has ls 4 [(0, .ref (ad 10)), (1, .int p1)] := hl
  refine lv_iconst (v := 0) hx hb d_Hmp_keptOf_0 (by decide) ?_
  refine lv_istore_n (lv' := [(2, .int 0), (0, .ref (ad 10)), (1, .int p1)]) hx hb d_Hmp_keptOf_1 rfl hl (by decide) rfl (fun ls hl => ?_)
  refine lv_iconst (v := 0) hx hb d_Hmp_keptOf_2 (by decide) ?_
  refine lv_istore_n (lv' := [(3, .int 0), (2, .int 0), (0, .ref (ad 10)), (1, .int p1)]) hx hb d_Hmp_keptOf_3 rfl hl (by decide) rfl (fun ls hl => ?_)
  obtain ⟨n, h⟩ := h
  refine x_Hmp_keptOf_4 hx hb hr hts hown hml hlocks hA hK rfl (fun x9 u8 h H locs ls hP hD hS hl => ?_) n p1 0 0 u h _ _ _ hP hD hS (lv_sub hl [2, 3, 1, 0] rfl)
  refine lv_iload_n hx hb d_Hmp_keptOf_43 rfl (lv_at hl 0 rfl) ?_
  exact r_iret hx hb hr hlocks hP hD hS d_Hmp_keptOf_44 h
def wl_Hmp_rowLength_4 (Post : Int32 → CS → Prop) (K : Int32 → CS → Prop) : Nat → Int32 → Int32 → Int32 → CS → Prop
  | 0, _, _, _ => fun _ => False
  | n + 1, a1, a2, a3 => fun u1 => ((12 ≤ a3 → K a2 u1) ∧ (¬ 12 ≤ a3 → (vp_in a3 12 ∧ ((((u1.2.1 9) a3.toNatClampNeg) = a1 → (vp_in a3 12 ∧ ((((u1.2.1 10) a3.toNatClampNeg) ≤ 0 → (∀ x4 : Int32, x4 = (a2 + 0) → (∀ x5 : Int32, x5 = a3 + 1 → wl_Hmp_rowLength_4 Post K n a1 x4 x5 u1))) ∧ (¬ ((u1.2.1 10) a3.toNatClampNeg) ≤ 0 → (∀ x6 : Int32, x6 = (a2 + 1) → (∀ x7 : Int32, x7 = a3 + 1 → wl_Hmp_rowLength_4 Post K n a1 x6 x7 u1)))))) ∧ (¬ ((u1.2.1 9) a3.toNatClampNeg) = a1 → (∀ x2 : Int32, x2 = (a2 + 0) → (∀ x3 : Int32, x3 = a3 + 1 → wl_Hmp_rowLength_4 Post K n a1 x2 x3 u1)))))))
def wp_Hmp_rowLength (u : CS) (p1 : Int32) (Post : Int32 → CS → Prop) : Prop := (∃ k10 : Nat, wl_Hmp_rowLength_4 Post (fun x9 u8 => Post x9 u8) k10 p1 0 0 u)
set_option maxHeartbeats 4000000 in
set_option maxRecDepth 100000 in
theorem x_Hmp_rowLength_4 {p : Program} {l : Launch} {e : Env} {s : State} {m : MethodId} {args : Array Value} {below : List Frame} {meth : Method} {c : Code} {A : Nat → Prop} {G : GG} {ad : Nat → Nat} {Post : Int32 → CS → Prop} {K : Int32 → CS → Prop} {Q : State → Prop}
    (hx : p.tables.exec = Jvm.exec) (hb : c.code = b_Hmp_rowLength) (hr : meth.sig.returnType = some .int) (hts : ∀ w ∈ Tg, w.before args s = true) (hown : s.vm.findClass "HamperClub$Hampers" = some m.cls) (hml : c.maxLocals = 4) (hlocks : meth.locks = false) (hA : ∀ q, s.heap.size ≤ q → A q) (hK : KN G s)
    (hQ : Q = MQ below (va_Qi Post (BW G A (clubW G ad)) A) args s 0 0 A)
    (kk : ∀ (b2 : Int32) (u : CS), K b2 u → ∀ (H : Heap) (locs : List Loc) (ls : Array Slot), va_P G.1 classes (clubW G ad u) H → va_D A (clubW G ad u) → va_S A s.heap H locs → lv_has ls 4 [(2, .int b2)] → W p l e (rmK 0) s m args below meth c H locs 0 0 Q (F0 m 43 ls [])) :
    ∀ (n : Nat) (a1 : Int32) (a2 : Int32) (a3 : Int32) (u : CS), wl_Hmp_rowLength_4 Post K n a1 a2 a3 u → ∀ (H : Heap) (locs : List Loc) (ls : Array Slot), va_P G.1 classes (clubW G ad u) H → va_D A (clubW G ad u) → va_S A s.heap H locs → lv_has ls 4 [(0, .ref (ad 10)), (1, .int a1), (2, .int a2), (3, .int a3)] → W p l e (rmK 0) s m args below meth c H locs 0 0 Q (F0 m 4 ls []) := by
  subst hQ
  intro n
  induction n with
  | zero => intro a1 a2 a3 u h; exact h.elim
  | succ n ih =>
    intro a1 a2 a3 u1 h H locs ls hP hD hS hl
    unfold wl_Hmp_rowLength_4 at h
    refine lv_iload_n hx hb d_Hmp_rowLength_4 rfl (lv_at hl 3 rfl) ?_
    refine lv_bipush (v := 12) hx hb d_Hmp_rowLength_5 (by decide) ?_
    refine lv_icmp_ge (tgt := 43) hx hb d_Hmp_rowLength_7 (by decide) (fun hc => ?_) (fun hc => ?_)
    · have h := h.1 hc
      exact kk a2 u1 h _ _ _ hP hD hS (lv_sub hl [2] rfl)
    · have h := h.2 hc
      refine lv_iload_n hx hb d_Hmp_rowLength_10 rfl (lv_at hl 2 rfl) ?_
      refine lv_aload_n hx hb d_Hmp_rowLength_11 rfl (lv_at hl 0 rfl) ?_
      refine gC_Hmp_choice hx hb hts hown hK hP tb_103 d_Hmp_rowLength_12 ?_
      refine lv_iload_n hx hb d_Hmp_rowLength_15 rfl (lv_at hl 3 rfl) ?_
      obtain ⟨hi, h⟩ := h
      refine lC_13 hx hb hK hP hi d_Hmp_rowLength_16 ?_
      refine lv_iload_n hx hb d_Hmp_rowLength_17 rfl (lv_at hl 1 rfl) ?_
      refine lv_icmp_ne (tgt := 34) hx hb d_Hmp_rowLength_18 (by decide) (fun hc => ?_) (fun hc => ?_)
      · have h := h.2 hc
        refine lv_iconst (v := 0) hx hb d_Hmp_rowLength_34 (by decide) ?_
        refine lv_iadd hx hb d_Hmp_rowLength_35 ?_
        refine lv_topi (fun x2 ex2 => ?_)
        have h := h x2 ex2
        refine lv_istore_n (lv' := [(2, .int x2), (0, .ref (ad 10)), (1, .int a1), (3, .int a3)]) hx hb d_Hmp_rowLength_36 rfl hl (by decide) rfl (fun ls hl => ?_)
        obtain ⟨x3, ex3⟩ : ∃ y : Int32, y = a3 + 1 := ⟨_, rfl⟩
        have h := h x3 ex3
        refine lv_iinc (v := x3) (lv' := [(3, .int x3), (2, .int x2), (0, .ref (ad 10)), (1, .int a1)]) hx hb d_Hmp_rowLength_37 hl (k := 3) rfl (by rw [ex3]; rfl) (by decide) rfl (fun ls hl => ?_)
        refine lv_goto (tgt := 4) hx hb d_Hmp_rowLength_40 (by decide) ?_
        exact ih a1 x2 x3 u1 h _ _ _ hP hD hS (lv_sub hl [2, 3, 1, 0] rfl)
      · have h := h.1 hc
        refine lv_aload_n hx hb d_Hmp_rowLength_21 rfl (lv_at hl 0 rfl) ?_
        refine gC_Hmp_place hx hb hts hown hK hP tb_105 d_Hmp_rowLength_22 ?_
        refine lv_iload_n hx hb d_Hmp_rowLength_25 rfl (lv_at hl 3 rfl) ?_
        obtain ⟨hi, h⟩ := h
        refine lC_14 hx hb hK hP hi d_Hmp_rowLength_26 ?_
        refine lv_if_le (tgt := 34) hx hb d_Hmp_rowLength_27 (by decide) (fun hc => ?_) (fun hc => ?_)
        · have h := h.1 hc
          refine lv_iconst (v := 0) hx hb d_Hmp_rowLength_34 (by decide) ?_
          refine lv_iadd hx hb d_Hmp_rowLength_35 ?_
          refine lv_topi (fun x4 ex4 => ?_)
          have h := h x4 ex4
          refine lv_istore_n (lv' := [(2, .int x4), (0, .ref (ad 10)), (1, .int a1), (3, .int a3)]) hx hb d_Hmp_rowLength_36 rfl hl (by decide) rfl (fun ls hl => ?_)
          obtain ⟨x5, ex5⟩ : ∃ y : Int32, y = a3 + 1 := ⟨_, rfl⟩
          have h := h x5 ex5
          refine lv_iinc (v := x5) (lv' := [(3, .int x5), (2, .int x4), (0, .ref (ad 10)), (1, .int a1)]) hx hb d_Hmp_rowLength_37 hl (k := 3) rfl (by rw [ex5]; rfl) (by decide) rfl (fun ls hl => ?_)
          refine lv_goto (tgt := 4) hx hb d_Hmp_rowLength_40 (by decide) ?_
          exact ih a1 x4 x5 u1 h _ _ _ hP hD hS (lv_sub hl [2, 3, 1, 0] rfl)
        · have h := h.2 hc
          refine lv_iconst (v := 1) hx hb d_Hmp_rowLength_30 (by decide) ?_
          refine lv_goto (tgt := 35) hx hb d_Hmp_rowLength_31 (by decide) ?_
          refine lv_iadd hx hb d_Hmp_rowLength_35 ?_
          refine lv_topi (fun x6 ex6 => ?_)
          have h := h x6 ex6
          refine lv_istore_n (lv' := [(2, .int x6), (0, .ref (ad 10)), (1, .int a1), (3, .int a3)]) hx hb d_Hmp_rowLength_36 rfl hl (by decide) rfl (fun ls hl => ?_)
          obtain ⟨x7, ex7⟩ : ∃ y : Int32, y = a3 + 1 := ⟨_, rfl⟩
          have h := h x7 ex7
          refine lv_iinc (v := x7) (lv' := [(3, .int x7), (2, .int x6), (0, .ref (ad 10)), (1, .int a1)]) hx hb d_Hmp_rowLength_37 hl (k := 3) rfl (by rw [ex7]; rfl) (by decide) rfl (fun ls hl => ?_)
          refine lv_goto (tgt := 4) hx hb d_Hmp_rowLength_40 (by decide) ?_
          exact ih a1 x6 x7 u1 h _ _ _ hP hD hS (lv_sub hl [2, 3, 1, 0] rfl)
set_option maxHeartbeats 4000000 in
set_option maxRecDepth 100000 in
theorem c_Hmp_rowLength (l : Launch) (G : GG) (ad : Nat → Nat) (sz : Nat) (u : CS) (p1 : Int32) (Post : Int32 → CS → Prop) (h : wp_Hmp_rowLength u p1 Post) : CMi l y_Hmp_rowLength b_Hmp_rowLength 4 .int 0 G [.ref (ad 10), .int p1] sz (clubW G ad u) (clubW G ad) Post := by
  refine CMi.start (by decide) (Nat.le_of_ble_eq_true rfl) (fun p e s m below meth c A ls hx hb hr hts hown hml hlocks hA hS hP hD hK hl => ?_)
  unfold wp_Hmp_rowLength at h
  have hl : lv_has ls 4 [(0, .ref (ad 10)), (1, .int p1)] := hl
  refine lv_iconst (v := 0) hx hb d_Hmp_rowLength_0 (by decide) ?_
  refine lv_istore_n (lv' := [(2, .int 0), (0, .ref (ad 10)), (1, .int p1)]) hx hb d_Hmp_rowLength_1 rfl hl (by decide) rfl (fun ls hl => ?_)
  refine lv_iconst (v := 0) hx hb d_Hmp_rowLength_2 (by decide) ?_
  refine lv_istore_n (lv' := [(3, .int 0), (2, .int 0), (0, .ref (ad 10)), (1, .int p1)]) hx hb d_Hmp_rowLength_3 rfl hl (by decide) rfl (fun ls hl => ?_)
  obtain ⟨n, h⟩ := h
  refine x_Hmp_rowLength_4 hx hb hr hts hown hml hlocks hA hK rfl (fun x9 u8 h H locs ls hP hD hS hl => ?_) n p1 0 0 u h _ _ _ hP hD hS (lv_sub hl [2, 3, 1, 0] rfl)
  refine lv_iload_n hx hb d_Hmp_rowLength_43 rfl (lv_at hl 0 rfl) ?_
  exact r_iret hx hb hr hlocks hP hD hS d_Hmp_rowLength_44 h
def wl_Hmp_memberInRow_2 (Post : Int32 → CS → Prop) (K : CS → Prop) : Nat → Int32 → Int32 → Int32 → CS → Prop
  | 0, _, _, _ => fun _ => False
  | n + 1, a1, a2, a3 => fun u1 => ((12 ≤ a3 → K  u1) ∧ (¬ 12 ≤ a3 → (vp_in a3 12 ∧ ((((u1.2.1 9) a3.toNatClampNeg) = a1 → (vp_in a3 12 ∧ ((((u1.2.1 10) a3.toNatClampNeg) ≤ 0 → (∀ x3 : Int32, x3 = a3 + 1 → wl_Hmp_memberInRow_2 Post K n a1 a2 x3 u1)) ∧ (¬ ((u1.2.1 10) a3.toNatClampNeg) ≤ 0 → (vp_in a3 12 ∧ (((((u1.2.1 10) a3.toNatClampNeg) - 1) = a2 → Post a3 u1) ∧ (¬ (((u1.2.1 10) a3.toNatClampNeg) - 1) = a2 → (∀ x4 : Int32, x4 = a3 + 1 → wl_Hmp_memberInRow_2 Post K n a1 a2 x4 u1)))))))) ∧ (¬ ((u1.2.1 9) a3.toNatClampNeg) = a1 → (∀ x2 : Int32, x2 = a3 + 1 → wl_Hmp_memberInRow_2 Post K n a1 a2 x2 u1))))))
def wp_Hmp_memberInRow (u : CS) (p1 : Int32) (p2 : Int32) (Post : Int32 → CS → Prop) : Prop := (∃ k6 : Nat, wl_Hmp_memberInRow_2 Post (fun u5 => Post (-9) u5) k6 p1 p2 0 u)
set_option maxHeartbeats 4000000 in
set_option maxRecDepth 100000 in
theorem x_Hmp_memberInRow_2 {p : Program} {l : Launch} {e : Env} {s : State} {m : MethodId} {args : Array Value} {below : List Frame} {meth : Method} {c : Code} {A : Nat → Prop} {G : GG} {ad : Nat → Nat} {Post : Int32 → CS → Prop} {K : CS → Prop} {Q : State → Prop}
    (hx : p.tables.exec = Jvm.exec) (hb : c.code = b_Hmp_memberInRow) (hr : meth.sig.returnType = some .int) (hts : ∀ w ∈ Tg, w.before args s = true) (hown : s.vm.findClass "HamperClub$Hampers" = some m.cls) (hml : c.maxLocals = 4) (hlocks : meth.locks = false) (hA : ∀ q, s.heap.size ≤ q → A q) (hK : KN G s)
    (hQ : Q = MQ below (va_Qi Post (BW G A (clubW G ad)) A) args s 0 0 A)
    (kk : ∀ (u : CS), K  u → ∀ (H : Heap) (locs : List Loc) (ls : Array Slot), va_P G.1 classes (clubW G ad u) H → va_D A (clubW G ad u) → va_S A s.heap H locs → lv_has ls 4 [] → W p l e (rmK 0) s m args below meth c H locs 0 0 Q (F0 m 47 ls [])) :
    ∀ (n : Nat) (a1 : Int32) (a2 : Int32) (a3 : Int32) (u : CS), wl_Hmp_memberInRow_2 Post K n a1 a2 a3 u → ∀ (H : Heap) (locs : List Loc) (ls : Array Slot), va_P G.1 classes (clubW G ad u) H → va_D A (clubW G ad u) → va_S A s.heap H locs → lv_has ls 4 [(0, .ref (ad 10)), (1, .int a1), (2, .int a2), (3, .int a3)] → W p l e (rmK 0) s m args below meth c H locs 0 0 Q (F0 m 2 ls []) := by
  subst hQ
  intro n
  induction n with
  | zero => intro a1 a2 a3 u h; exact h.elim
  | succ n ih =>
    intro a1 a2 a3 u1 h H locs ls hP hD hS hl
    unfold wl_Hmp_memberInRow_2 at h
    refine lv_iload_n hx hb d_Hmp_memberInRow_2 rfl (lv_at hl 3 rfl) ?_
    refine lv_bipush (v := 12) hx hb d_Hmp_memberInRow_3 (by decide) ?_
    refine lv_icmp_ge (tgt := 47) hx hb d_Hmp_memberInRow_5 (by decide) (fun hc => ?_) (fun hc => ?_)
    · have h := h.1 hc
      exact kk  u1 h _ _ _ hP hD hS (lv_sub hl [] rfl)
    · have h := h.2 hc
      refine lv_aload_n hx hb d_Hmp_memberInRow_8 rfl (lv_at hl 0 rfl) ?_
      refine gC_Hmp_choice hx hb hts hown hK hP tb_103 d_Hmp_memberInRow_9 ?_
      refine lv_iload_n hx hb d_Hmp_memberInRow_12 rfl (lv_at hl 3 rfl) ?_
      obtain ⟨hi, h⟩ := h
      refine lC_13 hx hb hK hP hi d_Hmp_memberInRow_13 ?_
      refine lv_iload_n hx hb d_Hmp_memberInRow_14 rfl (lv_at hl 1 rfl) ?_
      refine lv_icmp_ne (tgt := 41) hx hb d_Hmp_memberInRow_15 (by decide) (fun hc => ?_) (fun hc => ?_)
      · have h := h.2 hc
        obtain ⟨x2, ex2⟩ : ∃ y : Int32, y = a3 + 1 := ⟨_, rfl⟩
        have h := h x2 ex2
        refine lv_iinc (v := x2) (lv' := [(3, .int x2), (0, .ref (ad 10)), (1, .int a1), (2, .int a2)]) hx hb d_Hmp_memberInRow_41 hl (k := 3) rfl (by rw [ex2]; rfl) (by decide) rfl (fun ls hl => ?_)
        refine lv_goto (tgt := 2) hx hb d_Hmp_memberInRow_44 (by decide) ?_
        exact ih a1 a2 x2 u1 h _ _ _ hP hD hS (lv_sub hl [1, 2, 3, 0] rfl)
      · have h := h.1 hc
        refine lv_aload_n hx hb d_Hmp_memberInRow_18 rfl (lv_at hl 0 rfl) ?_
        refine gC_Hmp_place hx hb hts hown hK hP tb_105 d_Hmp_memberInRow_19 ?_
        refine lv_iload_n hx hb d_Hmp_memberInRow_22 rfl (lv_at hl 3 rfl) ?_
        obtain ⟨hi, h⟩ := h
        refine lC_14 hx hb hK hP hi d_Hmp_memberInRow_23 ?_
        refine lv_if_le (tgt := 41) hx hb d_Hmp_memberInRow_24 (by decide) (fun hc => ?_) (fun hc => ?_)
        · have h := h.1 hc
          obtain ⟨x3, ex3⟩ : ∃ y : Int32, y = a3 + 1 := ⟨_, rfl⟩
          have h := h x3 ex3
          refine lv_iinc (v := x3) (lv' := [(3, .int x3), (0, .ref (ad 10)), (1, .int a1), (2, .int a2)]) hx hb d_Hmp_memberInRow_41 hl (k := 3) rfl (by rw [ex3]; rfl) (by decide) rfl (fun ls hl => ?_)
          refine lv_goto (tgt := 2) hx hb d_Hmp_memberInRow_44 (by decide) ?_
          exact ih a1 a2 x3 u1 h _ _ _ hP hD hS (lv_sub hl [1, 2, 3, 0] rfl)
        · have h := h.2 hc
          refine lv_aload_n hx hb d_Hmp_memberInRow_27 rfl (lv_at hl 0 rfl) ?_
          refine gC_Hmp_place hx hb hts hown hK hP tb_105 d_Hmp_memberInRow_28 ?_
          refine lv_iload_n hx hb d_Hmp_memberInRow_31 rfl (lv_at hl 3 rfl) ?_
          obtain ⟨hi, h⟩ := h
          refine lC_14 hx hb hK hP hi d_Hmp_memberInRow_32 ?_
          refine lv_iconst (v := 1) hx hb d_Hmp_memberInRow_33 (by decide) ?_
          refine lv_isub hx hb d_Hmp_memberInRow_34 ?_
          refine lv_iload_n hx hb d_Hmp_memberInRow_35 rfl (lv_at hl 2 rfl) ?_
          refine lv_icmp_ne (tgt := 41) hx hb d_Hmp_memberInRow_36 (by decide) (fun hc => ?_) (fun hc => ?_)
          · have h := h.2 hc
            obtain ⟨x4, ex4⟩ : ∃ y : Int32, y = a3 + 1 := ⟨_, rfl⟩
            have h := h x4 ex4
            refine lv_iinc (v := x4) (lv' := [(3, .int x4), (0, .ref (ad 10)), (1, .int a1), (2, .int a2)]) hx hb d_Hmp_memberInRow_41 hl (k := 3) rfl (by rw [ex4]; rfl) (by decide) rfl (fun ls hl => ?_)
            refine lv_goto (tgt := 2) hx hb d_Hmp_memberInRow_44 (by decide) ?_
            exact ih a1 a2 x4 u1 h _ _ _ hP hD hS (lv_sub hl [1, 2, 3, 0] rfl)
          · have h := h.1 hc
            refine lv_iload_n hx hb d_Hmp_memberInRow_39 rfl (lv_at hl 3 rfl) ?_
            exact r_iret hx hb hr hlocks hP hD hS d_Hmp_memberInRow_40 h
set_option maxHeartbeats 4000000 in
set_option maxRecDepth 100000 in
theorem c_Hmp_memberInRow (l : Launch) (G : GG) (ad : Nat → Nat) (sz : Nat) (u : CS) (p1 : Int32) (p2 : Int32) (Post : Int32 → CS → Prop) (h : wp_Hmp_memberInRow u p1 p2 Post) : CMi l y_Hmp_memberInRow b_Hmp_memberInRow 4 .int 0 G [.ref (ad 10), .int p1, .int p2] sz (clubW G ad u) (clubW G ad) Post := by
  refine CMi.start (by decide) (Nat.le_of_ble_eq_true rfl) (fun p e s m below meth c A ls hx hb hr hts hown hml hlocks hA hS hP hD hK hl => ?_)
  unfold wp_Hmp_memberInRow at h
  have hl : lv_has ls 4 [(0, .ref (ad 10)), (1, .int p1), (2, .int p2)] := hl
  refine lv_iconst (v := 0) hx hb d_Hmp_memberInRow_0 (by decide) ?_
  refine lv_istore_n (lv' := [(3, .int 0), (0, .ref (ad 10)), (1, .int p1), (2, .int p2)]) hx hb d_Hmp_memberInRow_1 rfl hl (by decide) rfl (fun ls hl => ?_)
  obtain ⟨n, h⟩ := h
  refine x_Hmp_memberInRow_2 hx hb hr hts hown hml hlocks hA hK rfl (fun u5 h H locs ls hP hD hS hl => ?_) n p1 p2 0 u h _ _ _ hP hD hS (lv_sub hl [1, 2, 3, 0] rfl)
  refine lv_bipush (v := (-9)) hx hb d_Hmp_memberInRow_47 (by decide) ?_
  exact r_iret hx hb hr hlocks hP hD hS d_Hmp_memberInRow_49 h
def wp_Hmp_handOut (u : CS) (p1 : Int32) (p2 : Int32) (Post : CS → Prop) : Prop := (vp_in p1 12 ∧ (∀ u1 : CS, u1 = (cA u 11 (upd (u.2.1 11) p1.toNatClampNeg p2)) → (vp_in p1 12 ∧ (∀ u2 : CS, u2 = (cA u1 9 (upd (u1.2.1 9) p1.toNatClampNeg (-9))) → Post u2))))
set_option maxHeartbeats 4000000 in
set_option maxRecDepth 100000 in
theorem c_Hmp_handOut (l : Launch) (G : GG) (ad : Nat → Nat) (sz : Nat) (u : CS) (p1 : Int32) (p2 : Int32) (Post : CS → Prop) (h : wp_Hmp_handOut u p1 p2 Post) : CMv l y_Hmp_handOut b_Hmp_handOut 3 0 G [.ref (ad 10), .int p1, .int p2] sz (clubW G ad u) (clubW G ad) Post := by
  refine CMv.start (by decide) (Nat.le_of_ble_eq_true rfl) (fun p e s m below meth c A ls hx hb hr hts hown hml hlocks hA hS hP hD hK hl => ?_)
  unfold wp_Hmp_handOut at h
  have hl : lv_has ls 3 [(0, .ref (ad 10)), (1, .int p1), (2, .int p2)] := hl
  refine lv_aload_n hx hb d_Hmp_handOut_0 rfl (lv_at hl 0 rfl) ?_
  refine gC_Hmp_got hx hb hts hown hK hP tb_107 d_Hmp_handOut_1 ?_
  refine lv_iload_n hx hb d_Hmp_handOut_4 rfl (lv_at hl 1 rfl) ?_
  refine lv_iload_n hx hb d_Hmp_handOut_5 rfl (lv_at hl 2 rfl) ?_
  obtain ⟨hi, h⟩ := h
  refine sC_15 hx hb hK hP hD hS hi d_Hmp_handOut_6 (fun u1 H locs eu1 hP hD hS => ?_)
  have h := h u1 eu1
  refine lv_aload_n hx hb d_Hmp_handOut_7 rfl (lv_at hl 0 rfl) ?_
  refine gC_Hmp_choice hx hb hts hown hK hP tb_103 d_Hmp_handOut_8 ?_
  refine lv_iload_n hx hb d_Hmp_handOut_11 rfl (lv_at hl 1 rfl) ?_
  refine lv_bipush (v := (-9)) hx hb d_Hmp_handOut_12 (by decide) ?_
  obtain ⟨hi, h⟩ := h
  refine sC_13 hx hb hK hP hD hS hi d_Hmp_handOut_14 (fun u2 H locs eu2 hP hD hS => ?_)
  have h := h u2 eu2
  exact r_vret hx hb hr hlocks hP hD hS d_Hmp_handOut_15 h
def wl_Arr_fill_5 (Post : (Nat → Int32) → Prop) (K : (Nat → Int32) → Prop) : Nat → Int32 → Int32 → Int32 → (Nat → Int32) → Prop
  | 0, _, _, _ => fun _ => False
  | n + 1, a1, a2, a3 => fun u1 => ((a3 ≤ a2 → K  u1) ∧ (¬ a3 ≤ a2 → (vp_in a2 12 ∧ (∀ u2 : (Nat → Int32), u2 = (upd u1 a2.toNatClampNeg a1) → (∀ x3 : Int32, x3 = a2 + 1 → wl_Arr_fill_5 Post K n a1 x3 a3 u2)))))
def wp_Arr_fill (u : (Nat → Int32)) (p1 : Int32) (Post : (Nat → Int32) → Prop) : Prop := (∃ k5 : Nat, wl_Arr_fill_5 Post (fun u4 => Post u4) k5 p1 0 12 u)
set_option maxHeartbeats 4000000 in
set_option maxRecDepth 100000 in
theorem x_Arr_fill_5 {p : Program} {l : Launch} {e : Env} {s : State} {m : MethodId} {args : Array Value} {below : List Frame} {meth : Method} {c : Code} {A : Nat → Prop} {G : GG} {ad : Nat → Nat} {Post : (Nat → Int32) → Prop} {K : (Nat → Int32) → Prop} {Q : State → Prop}
    (hx : p.tables.exec = Jvm.exec) (hb : c.code = b_Arr_fill) (hr : meth.sig.returnType = none) (hts : ∀ w ∈ Tg, w.before args s = true) (hown : s.vm.findClass "java/util/Arrays" = some m.cls) (hml : c.maxLocals = 4) (hlocks : meth.locks = false) (hA : ∀ q, s.heap.size ≤ q → A q) (hK : KN G s)
    (hQ : Q = MQ below (va_Qv Post (BW G A (arrW G ad)) A) args s 0 0 A)
    (kk : ∀ (u : (Nat → Int32)), K  u → ∀ (H : Heap) (locs : List Loc) (ls : Array Slot), va_P G.1 classes (arrW G ad u) H → va_D A (arrW G ad u) → va_S A s.heap H locs → lv_has ls 4 [] → W p l e (rmK 0) s m args below meth c H locs 0 0 Q (F0 m 20 ls [])) :
    ∀ (n : Nat) (a1 : Int32) (a2 : Int32) (a3 : Int32) (u : (Nat → Int32)), wl_Arr_fill_5 Post K n a1 a2 a3 u → ∀ (H : Heap) (locs : List Loc) (ls : Array Slot), va_P G.1 classes (arrW G ad u) H → va_D A (arrW G ad u) → va_S A s.heap H locs → lv_has ls 4 [(0, .ref (ad 0)), (1, .int a1), (2, .int a2), (3, .int a3)] → W p l e (rmK 0) s m args below meth c H locs 0 0 Q (F0 m 5 ls []) := by
  subst hQ
  intro n
  induction n with
  | zero => intro a1 a2 a3 u h; exact h.elim
  | succ n ih =>
    intro a1 a2 a3 u1 h H locs ls hP hD hS hl
    unfold wl_Arr_fill_5 at h
    refine lv_iload_n hx hb d_Arr_fill_5 rfl (lv_at hl 2 rfl) ?_
    refine lv_iload_n hx hb d_Arr_fill_6 rfl (lv_at hl 3 rfl) ?_
    refine lv_icmp_ge (tgt := 20) hx hb d_Arr_fill_7 (by decide) (fun hc => ?_) (fun hc => ?_)
    · have h := h.1 hc
      exact kk  u1 h _ _ _ hP hD hS (lv_sub hl [] rfl)
    · have h := h.2 hc
      refine lv_aload_n hx hb d_Arr_fill_10 rfl (lv_at hl 0 rfl) ?_
      refine lv_iload_n hx hb d_Arr_fill_11 rfl (lv_at hl 2 rfl) ?_
      refine lv_iload_n hx hb d_Arr_fill_12 rfl (lv_at hl 1 rfl) ?_
      obtain ⟨hi, h⟩ := h
      refine sA_0 hx hb hK hP hD hS hi d_Arr_fill_13 (fun u2 H locs eu2 hP hD hS => ?_)
      have h := h u2 eu2
      obtain ⟨x3, ex3⟩ : ∃ y : Int32, y = a2 + 1 := ⟨_, rfl⟩
      have h := h x3 ex3
      refine lv_iinc (v := x3) (lv' := [(2, .int x3), (0, .ref (ad 0)), (1, .int a1), (3, .int a3)]) hx hb d_Arr_fill_14 hl (k := 2) rfl (by rw [ex3]; rfl) (by decide) rfl (fun ls hl => ?_)
      refine lv_goto (tgt := 5) hx hb d_Arr_fill_17 (by decide) ?_
      exact ih a1 x3 a3 u2 h _ _ _ hP hD hS (lv_sub hl [1, 2, 0, 3] rfl)
set_option maxHeartbeats 4000000 in
set_option maxRecDepth 100000 in
theorem c_Arr_fill (l : Launch) (G : GG) (ad : Nat → Nat) (sz : Nat) (u : (Nat → Int32)) (p1 : Int32) (Post : (Nat → Int32) → Prop) (h : wp_Arr_fill u p1 Post) : CMv l y_Arr_fill b_Arr_fill 4 0 G [.ref (ad 0), .int p1] sz (arrW G ad u) (arrW G ad) Post := by
  refine CMv.start (by decide) (Nat.le_of_ble_eq_true rfl) (fun p e s m below meth c A ls hx hb hr hts hown hml hlocks hA hS hP hD hK hl => ?_)
  unfold wp_Arr_fill at h
  have hl : lv_has ls 4 [(0, .ref (ad 0)), (1, .int p1)] := hl
  refine lv_iconst (v := 0) hx hb d_Arr_fill_0 (by decide) ?_
  refine lv_istore_n (lv' := [(2, .int 0), (0, .ref (ad 0)), (1, .int p1)]) hx hb d_Arr_fill_1 rfl hl (by decide) rfl (fun ls hl => ?_)
  refine lv_aload_n hx hb d_Arr_fill_2 rfl (lv_at hl 1 rfl) ?_
  refine alenA hx hb hK hP d_Arr_fill_3 ?_
  refine lv_istore_n (lv' := [(3, .int 12), (2, .int 0), (0, .ref (ad 0)), (1, .int p1)]) hx hb d_Arr_fill_4 rfl hl (by decide) rfl (fun ls hl => ?_)
  obtain ⟨n, h⟩ := h
  refine x_Arr_fill_5 hx hb hr hts hown hml hlocks hA hK rfl (fun u4 h H locs ls hP hD hS hl => ?_) n p1 0 12 u h _ _ _ hP hD hS (lv_sub hl [2, 3, 1, 0] rfl)
  exact r_vret hx hb hr hlocks hP hD hS d_Arr_fill_20 h
def wp_Hmp_tell (u : CS) (p1 : Int32) (p2 : Int32) (Post : Int32 → CS → Prop) : Prop := (((pf_Ham_isKind p1) = 0 → Post (-1) u) ∧ (¬ (pf_Ham_isKind p1) = 0 → ((p2 = 0 → (vp_in p1 4 ∧ Post ((u.2.1 7) p1.toNatClampNeg) u)) ∧ (p2 = 1 → (vp_in p1 4 ∧ Post ((u.2.1 8) p1.toNatClampNeg) u)) ∧ (p2 = 2 → (wp_Hmp_keptOf u p1 (fun x2 u1 => Post x2 u1))) ∧ (p2 = 3 → (wp_Hmp_rowLength u p1 (fun x4 u3 => Post x4 u3))) ∧ (¬ p2 = 0 → ¬ p2 = 1 → ¬ p2 = 2 → ¬ p2 = 3 → Post (-1) u))))
theorem so_Hmp_45 : NsOk y_Ham_isKind b_Ham_isKind 1 (some .boolean) 1 "HamperClub$Hampers" 45 "HamperClub" := ⟨by decide +kernel, tb_350, tb_1, tb_351, by decide +kernel⟩
theorem ok_Hmp_49 : CallOk y_Hmp_keptOf b_Hmp_keptOf 4 (some .int) 0 1 "HamperClub$Hampers" 49 := ⟨tb_555, tb_556, tb_557, tb_6, tb_558, by decide +kernel⟩
theorem ok_Hmp_53 : CallOk y_Hmp_rowLength b_Hmp_rowLength 4 (some .int) 0 1 "HamperClub$Hampers" 53 := ⟨tb_372, tb_373, tb_374, tb_6, tb_375, by decide +kernel⟩
set_option maxHeartbeats 4000000 in
set_option maxRecDepth 100000 in
theorem c_Hmp_tell (l : Launch) (G : GG) (ad : Nat → Nat) (sz : Nat) (u : CS) (p1 : Int32) (p2 : Int32) (Post : Int32 → CS → Prop) (h : wp_Hmp_tell u p1 p2 Post) : CMi l y_Hmp_tell b_Hmp_tell 3 .int 1 G [.ref (ad 10), .int p1, .int p2] sz (clubW G ad u) (clubW G ad) Post := by
  refine CMi.start (by decide) (Nat.le_of_ble_eq_true rfl) (fun p e s m below meth c A ls hx hb hr hts hown hml hlocks hA hS hP hD hK hl => ?_)
  unfold wp_Hmp_tell at h
  have hl : lv_has ls 3 [(0, .ref (ad 10)), (1, .int p1), (2, .int p2)] := hl
  refine lv_iload_n hx hb d_Hmp_tell_0 rfl (lv_at hl 1 rfl) ?_
  refine call_SN (As := [.int p1]) (rest := []) hx hb hml hts hown hK so_Hmp_45 rfl ⟨Nat.le_of_ble_eq_true rfl, Nat.le_of_ble_eq_true rfl⟩ ⟨Nat.le_of_ble_eq_true rfl, Nat.le_of_ble_eq_true rfl⟩ hl.1 rfl (Nat.le_of_ble_eq_true rfl) d_Hmp_tell_1 (k_Ham_isKind l p1) ?_
  refine lv_if_ne (tgt := 9) hx hb d_Hmp_tell_4 (by decide) (fun hc => ?_) (fun hc => ?_)
  · have h := h.2 hc
    refine lv_iload_n hx hb d_Hmp_tell_9 rfl (lv_at hl 2 rfl) ?_
    by_cases hc0 : p2 = 0
    · have h := h.1 hc0
      refine lv_tableIn (off := 30) (tgt := 40) hx hb d_Hmp_tell_10 (by rw [hc0]; decide) (by rw [hc0]; decide) (by rw [hc0]; rfl) (by decide) ?_
      refine lv_aload_n hx hb d_Hmp_tell_40 rfl (lv_at hl 0 rfl) ?_
      refine gC_Hmp_price hx hb hts hown hK hP tb_98 d_Hmp_tell_41 ?_
      refine lv_iload_n hx hb d_Hmp_tell_44 rfl (lv_at hl 1 rfl) ?_
      obtain ⟨hi, h⟩ := h
      refine lC_11 hx hb hK hP hi d_Hmp_tell_45 ?_
      exact r_iret hx hb hr hlocks hP hD hS d_Hmp_tell_46 h
    by_cases hc1 : p2 = 1
    · have h := h.2.1 hc1
      refine lv_tableIn (off := 37) (tgt := 47) hx hb d_Hmp_tell_10 (by rw [hc1]; decide) (by rw [hc1]; decide) (by rw [hc1]; rfl) (by decide) ?_
      refine lv_aload_n hx hb d_Hmp_tell_47 rfl (lv_at hl 0 rfl) ?_
      refine gC_Hmp_stock hx hb hts hown hK hP tb_101 d_Hmp_tell_48 ?_
      refine lv_iload_n hx hb d_Hmp_tell_51 rfl (lv_at hl 1 rfl) ?_
      obtain ⟨hi, h⟩ := h
      refine lC_12 hx hb hK hP hi d_Hmp_tell_52 ?_
      exact r_iret hx hb hr hlocks hP hD hS d_Hmp_tell_53 h
    by_cases hc2 : p2 = 2
    · have h := h.2.2.1 hc2
      refine lv_tableIn (off := 44) (tgt := 54) hx hb d_Hmp_tell_10 (by rw [hc2]; decide) (by rw [hc2]; decide) (by rw [hc2]; rfl) (by decide) ?_
      refine lv_aload_n hx hb d_Hmp_tell_54 rfl (lv_at hl 0 rfl) ?_
      refine lv_iload_n hx hb d_Hmp_tell_55 rfl (lv_at hl 1 rfl) ?_
      refine call_Vi1 (own := "HamperClub$Hampers") (As := [.int p1]) (rest := []) (q0 := 10) (ci := 3) hx hb hml hts hown hK hA hP hD hS ok_Hmp_49 rfl ⟨Nat.le_of_ble_eq_true rfl, Nat.le_of_ble_eq_true rfl⟩ ⟨Nat.le_of_ble_eq_true rfl, Nat.le_of_ble_eq_true rfl⟩ rfl rfl rfl hl.1 rfl (Nat.le_of_ble_eq_true rfl) d_Hmp_tell_56 (c_Hmp_keptOf l G ad _ u p1 _ h) (fun x2 u1 H locs h hP hD hS => ?_)
      exact r_iret hx hb hr hlocks hP hD hS d_Hmp_tell_59 h
    by_cases hc3 : p2 = 3
    · have h := h.2.2.2.1 hc3
      refine lv_tableIn (off := 50) (tgt := 60) hx hb d_Hmp_tell_10 (by rw [hc3]; decide) (by rw [hc3]; decide) (by rw [hc3]; rfl) (by decide) ?_
      refine lv_aload_n hx hb d_Hmp_tell_60 rfl (lv_at hl 0 rfl) ?_
      refine lv_iload_n hx hb d_Hmp_tell_61 rfl (lv_at hl 1 rfl) ?_
      refine call_Vi1 (own := "HamperClub$Hampers") (As := [.int p1]) (rest := []) (q0 := 10) (ci := 3) hx hb hml hts hown hK hA hP hD hS ok_Hmp_53 rfl ⟨Nat.le_of_ble_eq_true rfl, Nat.le_of_ble_eq_true rfl⟩ ⟨Nat.le_of_ble_eq_true rfl, Nat.le_of_ble_eq_true rfl⟩ rfl rfl rfl hl.1 rfl (Nat.le_of_ble_eq_true rfl) d_Hmp_tell_62 (c_Hmp_rowLength l G ad _ u p1 _ h) (fun x4 u3 H locs h hP hD hS => ?_)
      exact r_iret hx hb hr hlocks hP hD hS d_Hmp_tell_65 h
    have h := h.2.2.2.2
    have h := h hc0
    have h := h hc1
    have h := h hc2
    have h := h hc3
    refine lv_tableOut (tgt := 66) hx hb d_Hmp_tell_10 (tb_out (lo := 0) (n := 3) (by decide) (fun k hk => by rcases (show k = 0 ∨ k = 1 ∨ k = 2 ∨ k = 3 by omega) with rfl | rfl | rfl | rfl <;> first | exact hc0 | exact hc1 | exact hc2 | exact hc3)) (by decide) ?_
    refine lv_iconst (v := (-1)) hx hb d_Hmp_tell_66 (by decide) ?_
    exact r_iret hx hb hr hlocks hP hD hS d_Hmp_tell_67 h
  · have h := h.1 hc
    refine lv_iconst (v := (-1)) hx hb d_Hmp_tell_7 (by decide) ?_
    exact r_iret hx hb hr hlocks hP hD hS d_Hmp_tell_8 h
def wp_Hmp_put (u : CS) (p1 : Int32) (p2 : Int32) (Post : Int32 → CS → Prop) : Prop := (vp_in p2 4 ∧ ((((u.2.1 8) p2.toNatClampNeg) ≤ 0 → (wp_Hmp_rowLength u p2 (fun x2 u1 => (∀ x3 : Int32, x3 = (x2 + 1) → (vp_in p1 12 ∧ (∀ u4 : CS, u4 = (cA u1 9 (upd (u1.2.1 9) p1.toNatClampNeg p2)) → (vp_in p1 12 ∧ (∀ u5 : CS, u5 = (cA u4 10 (upd (u4.2.1 10) p1.toNatClampNeg x3)) → Post x3 u5)))))))) ∧ (¬ ((u.2.1 8) p2.toNatClampNeg) ≤ 0 → (vp_in p2 4 ∧ (vp_in p2 4 ∧ (∀ u6 : CS, u6 = (cA u 8 (upd (u.2.1 8) p2.toNatClampNeg (((u.2.1 8) p2.toNatClampNeg) - 1))) → (vp_in p1 12 ∧ (∀ u7 : CS, u7 = (cA u6 9 (upd (u6.2.1 9) p1.toNatClampNeg p2)) → (vp_in p1 12 ∧ (∀ u8 : CS, u8 = (cA u7 10 (upd (u7.2.1 10) p1.toNatClampNeg 0)) → Post 0 u8))))))))))
set_option maxHeartbeats 4000000 in
set_option maxRecDepth 100000 in
theorem c_Hmp_put (l : Launch) (G : GG) (ad : Nat → Nat) (sz : Nat) (u : CS) (p1 : Int32) (p2 : Int32) (Post : Int32 → CS → Prop) (h : wp_Hmp_put u p1 p2 Post) : CMi l y_Hmp_put b_Hmp_put 4 .int 1 G [.ref (ad 10), .int p1, .int p2] sz (clubW G ad u) (clubW G ad) Post := by
  refine CMi.start (by decide) (Nat.le_of_ble_eq_true rfl) (fun p e s m below meth c A ls hx hb hr hts hown hml hlocks hA hS hP hD hK hl => ?_)
  unfold wp_Hmp_put at h
  have hl : lv_has ls 4 [(0, .ref (ad 10)), (1, .int p1), (2, .int p2)] := hl
  refine lv_iconst (v := 0) hx hb d_Hmp_put_0 (by decide) ?_
  refine lv_istore_n (lv' := [(3, .int 0), (0, .ref (ad 10)), (1, .int p1), (2, .int p2)]) hx hb d_Hmp_put_1 rfl hl (by decide) rfl (fun ls hl => ?_)
  refine lv_aload_n hx hb d_Hmp_put_2 rfl (lv_at hl 1 rfl) ?_
  refine gC_Hmp_stock hx hb hts hown hK hP tb_101 d_Hmp_put_3 ?_
  refine lv_iload_n hx hb d_Hmp_put_6 rfl (lv_at hl 3 rfl) ?_
  obtain ⟨hi, h⟩ := h
  refine lC_12 hx hb hK hP hi d_Hmp_put_7 ?_
  refine lv_if_le (tgt := 24) hx hb d_Hmp_put_8 (by decide) (fun hc => ?_) (fun hc => ?_)
  · have h := h.1 hc
    refine lv_aload_n hx hb d_Hmp_put_24 rfl (lv_at hl 1 rfl) ?_
    refine lv_iload_n hx hb d_Hmp_put_25 rfl (lv_at hl 3 rfl) ?_
    refine call_Vi1 (own := "HamperClub$Hampers") (As := [.int p2]) (rest := []) (q0 := 10) (ci := 3) hx hb hml hts hown hK hA hP hD hS ok_Hmp_53 rfl ⟨Nat.le_of_ble_eq_true rfl, Nat.le_of_ble_eq_true rfl⟩ ⟨Nat.le_of_ble_eq_true rfl, Nat.le_of_ble_eq_true rfl⟩ rfl rfl rfl hl.1 rfl (Nat.le_of_ble_eq_true rfl) d_Hmp_put_26 (c_Hmp_rowLength l G ad _ u p2 _ h) (fun x2 u1 H locs h hP hD hS => ?_)
    refine lv_iconst (v := 1) hx hb d_Hmp_put_29 (by decide) ?_
    refine lv_iadd hx hb d_Hmp_put_30 ?_
    refine lv_topi (fun x3 ex3 => ?_)
    have h := h x3 ex3
    refine lv_istore_n (lv' := [(3, .int x3), (0, .ref (ad 10)), (1, .int p1), (2, .int p2)]) hx hb d_Hmp_put_31 rfl hl (by decide) rfl (fun ls hl => ?_)
    refine lv_aload_n hx hb d_Hmp_put_32 rfl (lv_at hl 1 rfl) ?_
    refine gC_Hmp_choice hx hb hts hown hK hP tb_103 d_Hmp_put_33 ?_
    refine lv_iload_n hx hb d_Hmp_put_36 rfl (lv_at hl 2 rfl) ?_
    refine lv_iload_n hx hb d_Hmp_put_37 rfl (lv_at hl 3 rfl) ?_
    obtain ⟨hi, h⟩ := h
    refine sC_13 hx hb hK hP hD hS hi d_Hmp_put_38 (fun u4 H locs eu4 hP hD hS => ?_)
    have h := h u4 eu4
    refine lv_aload_n hx hb d_Hmp_put_39 rfl (lv_at hl 1 rfl) ?_
    refine gC_Hmp_place hx hb hts hown hK hP tb_105 d_Hmp_put_40 ?_
    refine lv_iload_n hx hb d_Hmp_put_43 rfl (lv_at hl 2 rfl) ?_
    refine lv_iload_n hx hb d_Hmp_put_44 rfl (lv_at hl 0 rfl) ?_
    obtain ⟨hi, h⟩ := h
    refine sC_14 hx hb hK hP hD hS hi d_Hmp_put_45 (fun u5 H locs eu5 hP hD hS => ?_)
    have h := h u5 eu5
    refine lv_iload_n hx hb d_Hmp_put_46 rfl (lv_at hl 0 rfl) ?_
    exact r_iret hx hb hr hlocks hP hD hS d_Hmp_put_47 h
  · have h := h.2 hc
    refine lv_aload_n hx hb d_Hmp_put_11 rfl (lv_at hl 1 rfl) ?_
    refine gC_Hmp_stock hx hb hts hown hK hP tb_101 d_Hmp_put_12 ?_
    refine lv_iload_n hx hb d_Hmp_put_15 rfl (lv_at hl 3 rfl) ?_
    refine lv_dup2_11 hx hb d_Hmp_put_16 rfl rfl ?_
    obtain ⟨hi, h⟩ := h
    refine lC_12 hx hb hK hP hi d_Hmp_put_17 ?_
    refine lv_iconst (v := 1) hx hb d_Hmp_put_18 (by decide) ?_
    refine lv_isub hx hb d_Hmp_put_19 ?_
    obtain ⟨hi, h⟩ := h
    refine sC_12 hx hb hK hP hD hS hi d_Hmp_put_20 (fun u6 H locs eu6 hP hD hS => ?_)
    have h := h u6 eu6
    refine lv_goto (tgt := 32) hx hb d_Hmp_put_21 (by decide) ?_
    refine lv_aload_n hx hb d_Hmp_put_32 rfl (lv_at hl 1 rfl) ?_
    refine gC_Hmp_choice hx hb hts hown hK hP tb_103 d_Hmp_put_33 ?_
    refine lv_iload_n hx hb d_Hmp_put_36 rfl (lv_at hl 2 rfl) ?_
    refine lv_iload_n hx hb d_Hmp_put_37 rfl (lv_at hl 3 rfl) ?_
    obtain ⟨hi, h⟩ := h
    refine sC_13 hx hb hK hP hD hS hi d_Hmp_put_38 (fun u7 H locs eu7 hP hD hS => ?_)
    have h := h u7 eu7
    refine lv_aload_n hx hb d_Hmp_put_39 rfl (lv_at hl 1 rfl) ?_
    refine gC_Hmp_place hx hb hts hown hK hP tb_105 d_Hmp_put_40 ?_
    refine lv_iload_n hx hb d_Hmp_put_43 rfl (lv_at hl 2 rfl) ?_
    refine lv_iload_n hx hb d_Hmp_put_44 rfl (lv_at hl 0 rfl) ?_
    obtain ⟨hi, h⟩ := h
    refine sC_14 hx hb hK hP hD hS hi d_Hmp_put_45 (fun u8 H locs eu8 hP hD hS => ?_)
    have h := h u8 eu8
    refine lv_iload_n hx hb d_Hmp_put_46 rfl (lv_at hl 0 rfl) ?_
    exact r_iret hx hb hr hlocks hP hD hS d_Hmp_put_47 h
def wl_Hmp_drop_42 (Post : Int32 → CS → Prop) (K : Int32 → Int32 → Int32 → CS → Prop) : Nat → Int32 → Int32 → Int32 → Int32 → CS → Prop
  | 0, _, _, _, _ => fun _ => False
  | n + 1, a2, a3, a4, a5 => fun u4 => ((12 ≤ a5 → K a2 a3 a4 u4) ∧ (¬ 12 ≤ a5 → (vp_in a5 12 ∧ ((((u4.2.1 9) a5.toNatClampNeg) = a2 → (vp_in a5 12 ∧ ((((u4.2.1 10) a5.toNatClampNeg) ≤ a3 → (∀ x6 : Int32, x6 = a5 + 1 → wl_Hmp_drop_42 Post K n a2 a3 a4 x6 u4)) ∧ (¬ ((u4.2.1 10) a5.toNatClampNeg) ≤ a3 → (vp_in a5 12 ∧ (vp_in a5 12 ∧ (∀ u7 : CS, u7 = (cA u4 10 (upd (u4.2.1 10) a5.toNatClampNeg (((u4.2.1 10) a5.toNatClampNeg) - 1))) → (∀ x8 : Int32, x8 = a5 + 1 → wl_Hmp_drop_42 Post K n a2 a3 a4 x8 u7)))))))) ∧ (¬ ((u4.2.1 9) a5.toNatClampNeg) = a2 → (∀ x5 : Int32, x5 = a5 + 1 → wl_Hmp_drop_42 Post K n a2 a3 a4 x5 u4))))))
def wp_Hmp_drop (u : CS) (p1 : Int32) (p2 : Int32) (Post : Int32 → CS → Prop) : Prop := (vp_in p1 12 ∧ (∀ x1 : Int32, x1 = ((u.2.1 10) p1.toNatClampNeg) → ((x1 = 0 → (wp_Hmp_memberInRow u p2 0 (fun x16 u15 => (vp_in p1 12 ∧ (∀ u17 : CS, u17 = (cA u15 9 (upd (u15.2.1 9) p1.toNatClampNeg (-9))) → (vp_in p1 12 ∧ (∀ u18 : CS, u18 = (cA u17 10 (upd (u17.2.1 10) p1.toNatClampNeg 0)) → (∃ k24 : Nat, wl_Hmp_drop_42 Post (fun x20 x21 x22 u19 => ((x21 = 0 → ((x22 = (-9) → (vp_in x20 4 ∧ (vp_in x20 4 ∧ (∀ u23 : CS, u23 = (cA u19 8 (upd (u19.2.1 8) x20.toNatClampNeg (((u19.2.1 8) x20.toNatClampNeg) + 1))) → Post x22 u23)))) ∧ (¬ x22 = (-9) → Post x22 u19))) ∧ (¬ x21 = 0 → Post x22 u19))) k24 p2 x1 x16 0 u18)))))))) ∧ (¬ x1 = 0 → (vp_in p1 12 ∧ (∀ u2 : CS, u2 = (cA u 9 (upd (u.2.1 9) p1.toNatClampNeg (-9))) → (vp_in p1 12 ∧ (∀ u3 : CS, u3 = (cA u2 10 (upd (u2.2.1 10) p1.toNatClampNeg 0)) → (∃ k14 : Nat, wl_Hmp_drop_42 Post (fun x10 x11 x12 u9 => ((x11 = 0 → ((x12 = (-9) → (vp_in x10 4 ∧ (vp_in x10 4 ∧ (∀ u13 : CS, u13 = (cA u9 8 (upd (u9.2.1 8) x10.toNatClampNeg (((u9.2.1 8) x10.toNatClampNeg) + 1))) → Post x12 u13)))) ∧ (¬ x12 = (-9) → Post x12 u9))) ∧ (¬ x11 = 0 → Post x12 u9))) k14 p2 x1 (-9) 0 u3)))))))))
theorem ok_Hmp_56 : CallOk y_Hmp_memberInRow b_Hmp_memberInRow 4 (some .int) 0 2 "HamperClub$Hampers" 56 := ⟨tb_364, tb_365, tb_366, tb_6, tb_367, by decide +kernel⟩
set_option maxHeartbeats 4000000 in
set_option maxRecDepth 100000 in
theorem x_Hmp_drop_42 {p : Program} {l : Launch} {e : Env} {s : State} {m : MethodId} {args : Array Value} {below : List Frame} {meth : Method} {c : Code} {A : Nat → Prop} {G : GG} {ad : Nat → Nat} {Post : Int32 → CS → Prop} {K : Int32 → Int32 → Int32 → CS → Prop} {Q : State → Prop}
    (hx : p.tables.exec = Jvm.exec) (hb : c.code = b_Hmp_drop) (hr : meth.sig.returnType = some .int) (hts : ∀ w ∈ Tg, w.before args s = true) (hown : s.vm.findClass "HamperClub$Hampers" = some m.cls) (hml : c.maxLocals = 6) (hlocks : meth.locks = false) (hA : ∀ q, s.heap.size ≤ q → A q) (hK : KN G s)
    (hQ : Q = MQ below (va_Qi Post (BW G A (clubW G ad)) A) args s 0 0 A)
    (kk : ∀ (b2 : Int32) (b3 : Int32) (b4 : Int32) (u : CS), K b2 b3 b4 u → ∀ (H : Heap) (locs : List Loc) (ls : Array Slot), va_P G.1 classes (clubW G ad u) H → va_D A (clubW G ad u) → va_S A s.heap H locs → lv_has ls 6 [(0, .ref (ad 10)), (2, .int b2), (3, .int b3), (4, .int b4)] → W p l e (rmK 1) s m args below meth c H locs 0 0 Q (F0 m 88 ls [])) :
    ∀ (n : Nat) (a2 : Int32) (a3 : Int32) (a4 : Int32) (a5 : Int32) (u : CS), wl_Hmp_drop_42 Post K n a2 a3 a4 a5 u → ∀ (H : Heap) (locs : List Loc) (ls : Array Slot), va_P G.1 classes (clubW G ad u) H → va_D A (clubW G ad u) → va_S A s.heap H locs → lv_has ls 6 [(0, .ref (ad 10)), (2, .int a2), (3, .int a3), (4, .int a4), (5, .int a5)] → W p l e (rmK 1) s m args below meth c H locs 0 0 Q (F0 m 42 ls []) := by
  subst hQ
  intro n
  induction n with
  | zero => intro a2 a3 a4 a5 u h; exact h.elim
  | succ n ih =>
    intro a2 a3 a4 a5 u4 h H locs ls hP hD hS hl
    unfold wl_Hmp_drop_42 at h
    refine lv_iload hx hb d_Hmp_drop_42 (lv_at hl 4 rfl) ?_
    refine lv_bipush (v := 12) hx hb d_Hmp_drop_44 (by decide) ?_
    refine lv_icmp_ge (tgt := 88) hx hb d_Hmp_drop_46 (by decide) (fun hc => ?_) (fun hc => ?_)
    · have h := h.1 hc
      exact kk a2 a3 a4 u4 h _ _ _ hP hD hS (lv_sub hl [0, 1, 2, 3] rfl)
    · have h := h.2 hc
      refine lv_aload_n hx hb d_Hmp_drop_49 rfl (lv_at hl 0 rfl) ?_
      refine gC_Hmp_choice hx hb hts hown hK hP tb_103 d_Hmp_drop_50 ?_
      refine lv_iload hx hb d_Hmp_drop_53 (lv_at hl 4 rfl) ?_
      obtain ⟨hi, h⟩ := h
      refine lC_13 hx hb hK hP hi d_Hmp_drop_55 ?_
      refine lv_iload_n hx hb d_Hmp_drop_56 rfl (lv_at hl 1 rfl) ?_
      refine lv_icmp_ne (tgt := 82) hx hb d_Hmp_drop_57 (by decide) (fun hc => ?_) (fun hc => ?_)
      · have h := h.2 hc
        obtain ⟨x5, ex5⟩ : ∃ y : Int32, y = a5 + 1 := ⟨_, rfl⟩
        have h := h x5 ex5
        refine lv_iinc (v := x5) (lv' := [(5, .int x5), (0, .ref (ad 10)), (2, .int a2), (3, .int a3), (4, .int a4)]) hx hb d_Hmp_drop_82 hl (k := 4) rfl (by rw [ex5]; rfl) (by decide) rfl (fun ls hl => ?_)
        refine lv_goto (tgt := 42) hx hb d_Hmp_drop_85 (by decide) ?_
        exact ih a2 a3 a4 x5 u4 h _ _ _ hP hD hS (lv_sub hl [1, 2, 3, 4, 0] rfl)
      · have h := h.1 hc
        refine lv_aload_n hx hb d_Hmp_drop_60 rfl (lv_at hl 0 rfl) ?_
        refine gC_Hmp_place hx hb hts hown hK hP tb_105 d_Hmp_drop_61 ?_
        refine lv_iload hx hb d_Hmp_drop_64 (lv_at hl 4 rfl) ?_
        obtain ⟨hi, h⟩ := h
        refine lC_14 hx hb hK hP hi d_Hmp_drop_66 ?_
        refine lv_iload_n hx hb d_Hmp_drop_67 rfl (lv_at hl 2 rfl) ?_
        refine lv_icmp_le (tgt := 82) hx hb d_Hmp_drop_68 (by decide) (fun hc => ?_) (fun hc => ?_)
        · have h := h.1 hc
          obtain ⟨x6, ex6⟩ : ∃ y : Int32, y = a5 + 1 := ⟨_, rfl⟩
          have h := h x6 ex6
          refine lv_iinc (v := x6) (lv' := [(5, .int x6), (0, .ref (ad 10)), (2, .int a2), (3, .int a3), (4, .int a4)]) hx hb d_Hmp_drop_82 hl (k := 4) rfl (by rw [ex6]; rfl) (by decide) rfl (fun ls hl => ?_)
          refine lv_goto (tgt := 42) hx hb d_Hmp_drop_85 (by decide) ?_
          exact ih a2 a3 a4 x6 u4 h _ _ _ hP hD hS (lv_sub hl [1, 2, 3, 4, 0] rfl)
        · have h := h.2 hc
          refine lv_aload_n hx hb d_Hmp_drop_71 rfl (lv_at hl 0 rfl) ?_
          refine gC_Hmp_place hx hb hts hown hK hP tb_105 d_Hmp_drop_72 ?_
          refine lv_iload hx hb d_Hmp_drop_75 (lv_at hl 4 rfl) ?_
          refine lv_dup2_11 hx hb d_Hmp_drop_77 rfl rfl ?_
          obtain ⟨hi, h⟩ := h
          refine lC_14 hx hb hK hP hi d_Hmp_drop_78 ?_
          refine lv_iconst (v := 1) hx hb d_Hmp_drop_79 (by decide) ?_
          refine lv_isub hx hb d_Hmp_drop_80 ?_
          obtain ⟨hi, h⟩ := h
          refine sC_14 hx hb hK hP hD hS hi d_Hmp_drop_81 (fun u7 H locs eu7 hP hD hS => ?_)
          have h := h u7 eu7
          obtain ⟨x8, ex8⟩ : ∃ y : Int32, y = a5 + 1 := ⟨_, rfl⟩
          have h := h x8 ex8
          refine lv_iinc (v := x8) (lv' := [(5, .int x8), (0, .ref (ad 10)), (2, .int a2), (3, .int a3), (4, .int a4)]) hx hb d_Hmp_drop_82 hl (k := 4) rfl (by rw [ex8]; rfl) (by decide) rfl (fun ls hl => ?_)
          refine lv_goto (tgt := 42) hx hb d_Hmp_drop_85 (by decide) ?_
          exact ih a2 a3 a4 x8 u7 h _ _ _ hP hD hS (lv_sub hl [1, 2, 3, 4, 0] rfl)
set_option maxHeartbeats 4000000 in
set_option maxRecDepth 100000 in
theorem c_Hmp_drop (l : Launch) (G : GG) (ad : Nat → Nat) (sz : Nat) (u : CS) (p1 : Int32) (p2 : Int32) (Post : Int32 → CS → Prop) (h : wp_Hmp_drop u p1 p2 Post) : CMi l y_Hmp_drop b_Hmp_drop 6 .int 1 G [.ref (ad 10), .int p1, .int p2] sz (clubW G ad u) (clubW G ad) Post := by
  refine CMi.start (by decide) (Nat.le_of_ble_eq_true rfl) (fun p e s m below meth c A ls hx hb hr hts hown hml hlocks hA hS hP hD hK hl => ?_)
  unfold wp_Hmp_drop at h
  have hl : lv_has ls 6 [(0, .ref (ad 10)), (1, .int p1), (2, .int p2)] := hl
  refine lv_aload_n hx hb d_Hmp_drop_0 rfl (lv_at hl 0 rfl) ?_
  refine gC_Hmp_place hx hb hts hown hK hP tb_105 d_Hmp_drop_1 ?_
  refine lv_iload_n hx hb d_Hmp_drop_4 rfl (lv_at hl 1 rfl) ?_
  obtain ⟨hi, h⟩ := h
  refine lC_14 hx hb hK hP hi d_Hmp_drop_5 ?_
  refine lv_topi (fun x1 ex1 => ?_)
  have h := h x1 ex1
  refine lv_istore_n (lv' := [(3, .int x1), (0, .ref (ad 10)), (1, .int p1), (2, .int p2)]) hx hb d_Hmp_drop_6 rfl hl (by decide) rfl (fun ls hl => ?_)
  refine lv_iload_n hx hb d_Hmp_drop_7 rfl (lv_at hl 0 rfl) ?_
  refine lv_if_ne (tgt := 20) hx hb d_Hmp_drop_8 (by decide) (fun hc => ?_) (fun hc => ?_)
  · have h := h.2 hc
    refine lv_bipush (v := (-9)) hx hb d_Hmp_drop_20 (by decide) ?_
    refine lv_istore (lv' := [(4, .int (-9)), (3, .int x1), (0, .ref (ad 10)), (1, .int p1), (2, .int p2)]) hx hb d_Hmp_drop_22 hl (by decide) rfl (fun ls hl => ?_)
    refine lv_aload_n hx hb d_Hmp_drop_24 rfl (lv_at hl 2 rfl) ?_
    refine gC_Hmp_choice hx hb hts hown hK hP tb_103 d_Hmp_drop_25 ?_
    refine lv_iload_n hx hb d_Hmp_drop_28 rfl (lv_at hl 3 rfl) ?_
    refine lv_bipush (v := (-9)) hx hb d_Hmp_drop_29 (by decide) ?_
    obtain ⟨hi, h⟩ := h
    refine sC_13 hx hb hK hP hD hS hi d_Hmp_drop_31 (fun u2 H locs eu2 hP hD hS => ?_)
    have h := h u2 eu2
    refine lv_aload_n hx hb d_Hmp_drop_32 rfl (lv_at hl 2 rfl) ?_
    refine gC_Hmp_place hx hb hts hown hK hP tb_105 d_Hmp_drop_33 ?_
    refine lv_iload_n hx hb d_Hmp_drop_36 rfl (lv_at hl 3 rfl) ?_
    refine lv_iconst (v := 0) hx hb d_Hmp_drop_37 (by decide) ?_
    obtain ⟨hi, h⟩ := h
    refine sC_14 hx hb hK hP hD hS hi d_Hmp_drop_38 (fun u3 H locs eu3 hP hD hS => ?_)
    have h := h u3 eu3
    refine lv_iconst (v := 0) hx hb d_Hmp_drop_39 (by decide) ?_
    refine lv_istore (lv' := [(5, .int 0), (4, .int (-9)), (3, .int x1), (0, .ref (ad 10)), (1, .int p1), (2, .int p2)]) hx hb d_Hmp_drop_40 hl (by decide) rfl (fun ls hl => ?_)
    obtain ⟨n, h⟩ := h
    refine x_Hmp_drop_42 hx hb hr hts hown hml hlocks hA hK rfl (fun x10 x11 x12 u9 h H locs ls hP hD hS hl => ?_) n p2 x1 (-9) 0 u3 h _ _ _ hP hD hS (lv_sub hl [3, 5, 2, 1, 0] rfl)
    refine lv_iload_n hx hb d_Hmp_drop_88 rfl (lv_at hl 2 rfl) ?_
    refine lv_if_ne (tgt := 109) hx hb d_Hmp_drop_89 (by decide) (fun hc => ?_) (fun hc => ?_)
    · have h := h.2 hc
      refine lv_iload hx hb d_Hmp_drop_109 (lv_at hl 3 rfl) ?_
      exact r_iret hx hb hr hlocks hP hD hS d_Hmp_drop_111 h
    · have h := h.1 hc
      refine lv_iload hx hb d_Hmp_drop_92 (lv_at hl 3 rfl) ?_
      refine lv_bipush (v := (-9)) hx hb d_Hmp_drop_94 (by decide) ?_
      refine lv_icmp_ne (tgt := 109) hx hb d_Hmp_drop_96 (by decide) (fun hc => ?_) (fun hc => ?_)
      · have h := h.2 hc
        refine lv_iload hx hb d_Hmp_drop_109 (lv_at hl 3 rfl) ?_
        exact r_iret hx hb hr hlocks hP hD hS d_Hmp_drop_111 h
      · have h := h.1 hc
        refine lv_aload_n hx hb d_Hmp_drop_99 rfl (lv_at hl 0 rfl) ?_
        refine gC_Hmp_stock hx hb hts hown hK hP tb_101 d_Hmp_drop_100 ?_
        refine lv_iload_n hx hb d_Hmp_drop_103 rfl (lv_at hl 1 rfl) ?_
        refine lv_dup2_11 hx hb d_Hmp_drop_104 rfl rfl ?_
        obtain ⟨hi, h⟩ := h
        refine lC_12 hx hb hK hP hi d_Hmp_drop_105 ?_
        refine lv_iconst (v := 1) hx hb d_Hmp_drop_106 (by decide) ?_
        refine lv_iadd hx hb d_Hmp_drop_107 ?_
        obtain ⟨hi, h⟩ := h
        refine sC_12 hx hb hK hP hD hS hi d_Hmp_drop_108 (fun u13 H locs eu13 hP hD hS => ?_)
        have h := h u13 eu13
        refine lv_iload hx hb d_Hmp_drop_109 (lv_at hl 3 rfl) ?_
        exact r_iret hx hb hr hlocks hP hD hS d_Hmp_drop_111 h
  · have h := h.1 hc
    refine lv_aload_n hx hb d_Hmp_drop_11 rfl (lv_at hl 1 rfl) ?_
    refine lv_iload_n hx hb d_Hmp_drop_12 rfl (lv_at hl 3 rfl) ?_
    refine lv_iconst (v := 0) hx hb d_Hmp_drop_13 (by decide) ?_
    refine call_Vi1 (own := "HamperClub$Hampers") (As := [.int p2, .int 0]) (rest := []) (q0 := 10) (ci := 3) hx hb hml hts hown hK hA hP hD hS ok_Hmp_56 rfl ⟨Nat.le_of_ble_eq_true rfl, Nat.le_of_ble_eq_true rfl⟩ ⟨Nat.le_of_ble_eq_true rfl, Nat.le_of_ble_eq_true rfl⟩ rfl rfl rfl hl.1 rfl (Nat.le_of_ble_eq_true rfl) d_Hmp_drop_14 (c_Hmp_memberInRow l G ad _ u p2 0 _ h) (fun x16 u15 H locs h hP hD hS => ?_)
    refine lv_goto (tgt := 22) hx hb d_Hmp_drop_17 (by decide) ?_
    refine lv_istore (lv' := [(4, .int x16), (3, .int x1), (0, .ref (ad 10)), (1, .int p1), (2, .int p2)]) hx hb d_Hmp_drop_22 hl (by decide) rfl (fun ls hl => ?_)
    refine lv_aload_n hx hb d_Hmp_drop_24 rfl (lv_at hl 2 rfl) ?_
    refine gC_Hmp_choice hx hb hts hown hK hP tb_103 d_Hmp_drop_25 ?_
    refine lv_iload_n hx hb d_Hmp_drop_28 rfl (lv_at hl 3 rfl) ?_
    refine lv_bipush (v := (-9)) hx hb d_Hmp_drop_29 (by decide) ?_
    obtain ⟨hi, h⟩ := h
    refine sC_13 hx hb hK hP hD hS hi d_Hmp_drop_31 (fun u17 H locs eu17 hP hD hS => ?_)
    have h := h u17 eu17
    refine lv_aload_n hx hb d_Hmp_drop_32 rfl (lv_at hl 2 rfl) ?_
    refine gC_Hmp_place hx hb hts hown hK hP tb_105 d_Hmp_drop_33 ?_
    refine lv_iload_n hx hb d_Hmp_drop_36 rfl (lv_at hl 3 rfl) ?_
    refine lv_iconst (v := 0) hx hb d_Hmp_drop_37 (by decide) ?_
    obtain ⟨hi, h⟩ := h
    refine sC_14 hx hb hK hP hD hS hi d_Hmp_drop_38 (fun u18 H locs eu18 hP hD hS => ?_)
    have h := h u18 eu18
    refine lv_iconst (v := 0) hx hb d_Hmp_drop_39 (by decide) ?_
    refine lv_istore (lv' := [(5, .int 0), (4, .int x16), (3, .int x1), (0, .ref (ad 10)), (1, .int p1), (2, .int p2)]) hx hb d_Hmp_drop_40 hl (by decide) rfl (fun ls hl => ?_)
    obtain ⟨n, h⟩ := h
    refine x_Hmp_drop_42 hx hb hr hts hown hml hlocks hA hK rfl (fun x20 x21 x22 u19 h H locs ls hP hD hS hl => ?_) n p2 x1 x16 0 u18 h _ _ _ hP hD hS (lv_sub hl [3, 5, 2, 1, 0] rfl)
    refine lv_iload_n hx hb d_Hmp_drop_88 rfl (lv_at hl 2 rfl) ?_
    refine lv_if_ne (tgt := 109) hx hb d_Hmp_drop_89 (by decide) (fun hc => ?_) (fun hc => ?_)
    · have h := h.2 hc
      refine lv_iload hx hb d_Hmp_drop_109 (lv_at hl 3 rfl) ?_
      exact r_iret hx hb hr hlocks hP hD hS d_Hmp_drop_111 h
    · have h := h.1 hc
      refine lv_iload hx hb d_Hmp_drop_92 (lv_at hl 3 rfl) ?_
      refine lv_bipush (v := (-9)) hx hb d_Hmp_drop_94 (by decide) ?_
      refine lv_icmp_ne (tgt := 109) hx hb d_Hmp_drop_96 (by decide) (fun hc => ?_) (fun hc => ?_)
      · have h := h.2 hc
        refine lv_iload hx hb d_Hmp_drop_109 (lv_at hl 3 rfl) ?_
        exact r_iret hx hb hr hlocks hP hD hS d_Hmp_drop_111 h
      · have h := h.1 hc
        refine lv_aload_n hx hb d_Hmp_drop_99 rfl (lv_at hl 0 rfl) ?_
        refine gC_Hmp_stock hx hb hts hown hK hP tb_101 d_Hmp_drop_100 ?_
        refine lv_iload_n hx hb d_Hmp_drop_103 rfl (lv_at hl 1 rfl) ?_
        refine lv_dup2_11 hx hb d_Hmp_drop_104 rfl rfl ?_
        obtain ⟨hi, h⟩ := h
        refine lC_12 hx hb hK hP hi d_Hmp_drop_105 ?_
        refine lv_iconst (v := 1) hx hb d_Hmp_drop_106 (by decide) ?_
        refine lv_iadd hx hb d_Hmp_drop_107 ?_
        obtain ⟨hi, h⟩ := h
        refine sC_12 hx hb hK hP hD hS hi d_Hmp_drop_108 (fun u23 H locs eu23 hP hD hS => ?_)
        have h := h u23 eu23
        refine lv_iload hx hb d_Hmp_drop_109 (lv_at hl 3 rfl) ?_
        exact r_iret hx hb hr hlocks hP hD hS d_Hmp_drop_111 h
def wp_Hmp_forgetChoices (u : CS) (Post : CS → Prop) : Prop := (wp_Arr_fill ((u.2.1 9)) (-9) (fun f1 => (∀ u2 : CS, u2 = (cA u 9 f1) → (wp_Arr_fill ((u2.2.1 10)) 0 (fun f3 => (∀ u4 : CS, u4 = (cA u2 10 f3) → Post u4))))))
theorem so_Hmp_39 : StOk y_Arr_fill b_Arr_fill 4 none 2 "HamperClub$Hampers" 39 := ⟨tb_97, tb_41, tb_5, tb_42, by decide +kernel⟩
set_option maxHeartbeats 4000000 in
set_option maxRecDepth 100000 in
theorem c_Hmp_forgetChoices (l : Launch) (G : GG) (ad : Nat → Nat) (sz : Nat) (u : CS) (Post : CS → Prop) (h : wp_Hmp_forgetChoices u Post) : CMv l y_Hmp_forgetChoices b_Hmp_forgetChoices 1 1 G [.ref (ad 10)] sz (clubW G ad u) (clubW G ad) Post := by
  refine CMv.start (by decide) (Nat.le_of_ble_eq_true rfl) (fun p e s m below meth c A ls hx hb hr hts hown hml hlocks hA hS hP hD hK hl => ?_)
  unfold wp_Hmp_forgetChoices at h
  have hl : lv_has ls 1 [(0, .ref (ad 10))] := hl
  refine lv_aload_n hx hb d_Hmp_forgetChoices_0 rfl (lv_at hl 0 rfl) ?_
  refine gC_Hmp_choice hx hb hts hown hK hP tb_103 d_Hmp_forgetChoices_1 ?_
  refine lv_bipush (v := (-9)) hx hb d_Hmp_forgetChoices_4 (by decide) ?_
  refine call_Sv (pre := [(ad 0, .inr (2, [.int (u.1 0), .int (u.1 1), .int (u.1 2), .int (u.1 3), .ref (ad 1), .ref (ad 10), .ref (ad 16)])), (ad 1, .inr (1, [.int (u.1 4), .ref (ad 2), .ref (ad 3), .ref (ad 4), .ref (ad 5), .ref (ad 6), .ref (ad 7), .ref (ad 8), .ref (ad 9)])), (ad 2, .inl (G.2 0, 12, .inl (u.2.1 0))), (ad 3, .inl (G.2 0, 12, .inl (u.2.1 1))), (ad 4, .inl (G.2 0, 12, .inl (u.2.1 2))), (ad 5, .inl (G.2 0, 12, .inl (u.2.1 3))), (ad 6, .inl (G.2 0, 12, .inl (u.2.1 4))), (ad 7, .inl (G.2 0, 12, .inl (u.2.1 5))), (ad 8, .inl (G.2 1, 12, .inr (.inl (u.2.2)))), (ad 9, .inl (G.2 0, 12, .inl (u.2.1 6))), (ad 10, .inr (3, [.ref (ad 11), .ref (ad 12), .ref (ad 13), .ref (ad 14), .ref (ad 15)])), (ad 11, .inl (G.2 0, 4, .inl (u.2.1 7))), (ad 12, .inl (G.2 0, 4, .inl (u.2.1 8)))]) (wc := arrW G (fun _ => ad 13) ((u.2.1 9))) (post := [(ad 14, .inl (G.2 0, 12, .inl (u.2.1 10))), (ad 15, .inl (G.2 0, 12, .inl (u.2.1 11))), (ad 16, .inr (0, [.int (u.1 5), .int (u.1 6), .int (u.1 7), .int (u.1 8), .int (u.1 9)]))]) (Wc := arrW G (fun _ => ad 13)) (own := "HamperClub$Hampers") (As := [.ref (ad 13), .int (-9)]) (rest := []) hx hb hml hts hown hK hA hP hD hS so_Hmp_39 rfl ⟨Nat.le_of_ble_eq_true rfl, Nat.le_of_ble_eq_true rfl⟩ ⟨Nat.le_of_ble_eq_true rfl, Nat.le_of_ble_eq_true rfl⟩ hl.1 rfl (Nat.le_of_ble_eq_true rfl) d_Hmp_forgetChoices_6 (c_Arr_fill l G (fun _ => ad 13) _ ((u.2.1 9)) (-9) _ h) (fun f1 H locs h hP hD hS => ?_)
  obtain ⟨u2, eu2⟩ : ∃ z : CS, z = (cA u 9 f1) := ⟨_, rfl⟩
  have hP : va_P G.1 classes (clubW G ad u2) H := by rw [eu2]; exact hP
  have hD : va_D A (clubW G ad u2) := by rw [eu2]; exact hD
  have h := h u2 eu2
  refine lv_aload_n hx hb d_Hmp_forgetChoices_9 rfl (lv_at hl 0 rfl) ?_
  refine gC_Hmp_place hx hb hts hown hK hP tb_105 d_Hmp_forgetChoices_10 ?_
  refine lv_iconst (v := 0) hx hb d_Hmp_forgetChoices_13 (by decide) ?_
  refine call_Sv (pre := [(ad 0, .inr (2, [.int (u2.1 0), .int (u2.1 1), .int (u2.1 2), .int (u2.1 3), .ref (ad 1), .ref (ad 10), .ref (ad 16)])), (ad 1, .inr (1, [.int (u2.1 4), .ref (ad 2), .ref (ad 3), .ref (ad 4), .ref (ad 5), .ref (ad 6), .ref (ad 7), .ref (ad 8), .ref (ad 9)])), (ad 2, .inl (G.2 0, 12, .inl (u2.2.1 0))), (ad 3, .inl (G.2 0, 12, .inl (u2.2.1 1))), (ad 4, .inl (G.2 0, 12, .inl (u2.2.1 2))), (ad 5, .inl (G.2 0, 12, .inl (u2.2.1 3))), (ad 6, .inl (G.2 0, 12, .inl (u2.2.1 4))), (ad 7, .inl (G.2 0, 12, .inl (u2.2.1 5))), (ad 8, .inl (G.2 1, 12, .inr (.inl (u2.2.2)))), (ad 9, .inl (G.2 0, 12, .inl (u2.2.1 6))), (ad 10, .inr (3, [.ref (ad 11), .ref (ad 12), .ref (ad 13), .ref (ad 14), .ref (ad 15)])), (ad 11, .inl (G.2 0, 4, .inl (u2.2.1 7))), (ad 12, .inl (G.2 0, 4, .inl (u2.2.1 8))), (ad 13, .inl (G.2 0, 12, .inl (u2.2.1 9)))]) (wc := arrW G (fun _ => ad 14) ((u2.2.1 10))) (post := [(ad 15, .inl (G.2 0, 12, .inl (u2.2.1 11))), (ad 16, .inr (0, [.int (u2.1 5), .int (u2.1 6), .int (u2.1 7), .int (u2.1 8), .int (u2.1 9)]))]) (Wc := arrW G (fun _ => ad 14)) (own := "HamperClub$Hampers") (As := [.ref (ad 14), .int 0]) (rest := []) hx hb hml hts hown hK hA hP hD hS so_Hmp_39 rfl ⟨Nat.le_of_ble_eq_true rfl, Nat.le_of_ble_eq_true rfl⟩ ⟨Nat.le_of_ble_eq_true rfl, Nat.le_of_ble_eq_true rfl⟩ hl.1 rfl (Nat.le_of_ble_eq_true rfl) d_Hmp_forgetChoices_14 (c_Arr_fill l G (fun _ => ad 14) _ ((u2.2.1 10)) 0 _ h) (fun f3 H locs h hP hD hS => ?_)
  obtain ⟨u4, eu4⟩ : ∃ z : CS, z = (cA u2 10 f3) := ⟨_, rfl⟩
  have hP : va_P G.1 classes (clubW G ad u4) H := by rw [eu4]; exact hP
  have hD : va_D A (clubW G ad u4) := by rw [eu4]; exact hD
  have h := h u4 eu4
  exact r_vret hx hb hr hlocks hP hD hS d_Hmp_forgetChoices_17 h
