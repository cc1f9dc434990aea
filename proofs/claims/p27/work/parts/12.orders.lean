/-! the orders -/
def wp_Ord_add (u : OS) (p1 : Int32) (Post : Int32 → OS → Prop) : Prop := (((u.1 0) < 100 → (vp_in (u.1 0) 100 ∧ (∀ u1 : OS, u1 = (oT u (upd u.2 (u.1 0).toNatClampNeg p1)) → (∀ u2 : OS, u2 = (oS u1 0 ((u1.1 0) + 1)) → Post 1 u2)))) ∧ (¬ (u.1 0) < 100 → Post 0 u))
set_option maxHeartbeats 4000000 in
set_option maxRecDepth 100000 in
theorem c_Ord_add (l : Launch) (G : GG) (ad : Nat → Nat) (sz : Nat) (u : OS) (p1 : Int32) (Post : Int32 → OS → Prop) (h : wp_Ord_add u p1 Post) : CMi l y_Ord_add b_Ord_add 2 .boolean 0 G [.ref (ad 0), .int p1] sz (ordW G ad u) (ordW G ad) Post := by
  refine CMi.start (by decide) (Nat.le_of_ble_eq_true rfl) (fun p e s m below meth c A ls hx hb hr hts hown hml hlocks hA hS hP hD hK hl => ?_)
  unfold wp_Ord_add at h
  have hl : lv_has ls 2 [(0, .ref (ad 0)), (1, .int p1)] := hl
  refine lv_aload_n hx hb d_Ord_add_0 rfl (lv_at hl 0 rfl) ?_
  refine gO_Ord_length hx hb hts hown hK hP tb_230 d_Ord_add_1 ?_
  refine lv_bipush (v := 100) hx hb d_Ord_add_4 (by decide) ?_
  refine lv_icmp_lt (tgt := 11) hx hb d_Ord_add_6 (by decide) (fun hc => ?_) (fun hc => ?_)
  · have h := h.1 hc
    refine lv_aload_n hx hb d_Ord_add_11 rfl (lv_at hl 0 rfl) ?_
    refine gO_Ord_text hx hb hts hown hK hP tb_229 d_Ord_add_12 ?_
    refine lv_aload_n hx hb d_Ord_add_15 rfl (lv_at hl 0 rfl) ?_
    refine gO_Ord_length hx hb hts hown hK hP tb_230 d_Ord_add_16 ?_
    refine lv_iload_n hx hb d_Ord_add_19 rfl (lv_at hl 1 rfl) ?_
    obtain ⟨hi, h⟩ := h
    refine sO_1 hx hb hK hP hD hS hi d_Ord_add_20 (fun u1 H locs eu1 hP hD hS => ?_)
    have h := h u1 eu1
    refine lv_aload_n hx hb d_Ord_add_21 rfl (lv_at hl 0 rfl) ?_
    refine lv_dup hx hb d_Ord_add_22 rfl ?_
    refine gO_Ord_length hx hb hts hown hK hP tb_230 d_Ord_add_23 ?_
    refine lv_iconst (v := 1) hx hb d_Ord_add_26 (by decide) ?_
    refine lv_iadd hx hb d_Ord_add_27 ?_
    refine pO_Ord_length hx hb hts hown hK hP hD hS tb_230 d_Ord_add_28 (fun u2 H locs eu2 hP hD hS => ?_)
    have h := h u2 eu2
    refine lv_iconst (v := 1) hx hb d_Ord_add_31 (by decide) ?_
    exact r_zret hx hb hr hlocks rfl hP hD hS d_Ord_add_32 h
  · have h := h.2 hc
    refine lv_iconst (v := 0) hx hb d_Ord_add_9 (by decide) ?_
    exact r_zret hx hb hr hlocks rfl hP hD hS d_Ord_add_10 h
def wp_Ord_next (u : OS) (Post : Int32 → OS → Prop) : Prop := (((u.1 0) ≤ (u.1 1) → Post 0 u) ∧ (¬ (u.1 0) ≤ (u.1 1) → (vp_in (u.1 1) 100 ∧ Post (u.2 (u.1 1).toNatClampNeg) u)))
set_option maxHeartbeats 4000000 in
set_option maxRecDepth 100000 in
theorem c_Ord_next (l : Launch) (G : GG) (ad : Nat → Nat) (sz : Nat) (u : OS) (Post : Int32 → OS → Prop) (h : wp_Ord_next u Post) : CMi l y_Ord_next b_Ord_next 1 .int 0 G [.ref (ad 0)] sz (ordW G ad u) (ordW G ad) Post := by
  refine CMi.start (by decide) (Nat.le_of_ble_eq_true rfl) (fun p e s m below meth c A ls hx hb hr hts hown hml hlocks hA hS hP hD hK hl => ?_)
  unfold wp_Ord_next at h
  have hl : lv_has ls 1 [(0, .ref (ad 0))] := hl
  refine lv_aload_n hx hb d_Ord_next_0 rfl (lv_at hl 0 rfl) ?_
  refine gO_Ord_at hx hb hts hown hK hP tb_232 d_Ord_next_1 ?_
  refine lv_aload_n hx hb d_Ord_next_4 rfl (lv_at hl 0 rfl) ?_
  refine gO_Ord_length hx hb hts hown hK hP tb_230 d_Ord_next_5 ?_
  refine lv_icmp_ge (tgt := 23) hx hb d_Ord_next_8 (by decide) (fun hc => ?_) (fun hc => ?_)
  · have h := h.1 hc
    refine lv_iconst (v := 0) hx hb d_Ord_next_23 (by decide) ?_
    exact r_iret hx hb hr hlocks hP hD hS d_Ord_next_24 h
  · have h := h.2 hc
    refine lv_aload_n hx hb d_Ord_next_11 rfl (lv_at hl 0 rfl) ?_
    refine gO_Ord_text hx hb hts hown hK hP tb_229 d_Ord_next_12 ?_
    refine lv_aload_n hx hb d_Ord_next_15 rfl (lv_at hl 0 rfl) ?_
    refine gO_Ord_at hx hb hts hown hK hP tb_232 d_Ord_next_16 ?_
    obtain ⟨hi, h⟩ := h
    refine lO_1 hx hb hK hP hi d_Ord_next_19 ?_
    refine lv_goto (tgt := 24) hx hb d_Ord_next_20 (by decide) ?_
    exact r_iret hx hb hr hlocks hP hD hS d_Ord_next_24 h
def wl_Ord_readNumber_38 (Post : Int32 → OS → Prop) (K : Int32 → OS → Prop) : Nat → Int32 → Int32 → OS → Prop
  | 0, _, _ => fun _ => False
  | n + 1, a1, a2 => fun u7 => ((3 ≤ a2 → K a1 u7) ∧ (¬ 3 ≤ a2 → (wp_Ord_next u7  (fun x9 u8 => (((pf_Ord_isDigit x9) = 0 → K a1 u8) ∧ (¬ (pf_Ord_isDigit x9) = 0 → (wp_Ord_next u8  (fun x11 u10 => (∀ x12 : Int32, x12 = ((a1 * 10) + (x11 - 48)) → (∀ u13 : OS, u13 = (oS u10 1 ((u10.1 1) + 1)) → (∀ x14 : Int32, x14 = a2 + 1 → wl_Ord_readNumber_38 Post K n x12 x14 u13)))))))))))
def wp_Ord_readNumber (u : OS) (Post : Int32 → OS → Prop) : Prop := (wp_Ord_next u  (fun x2 u1 => (((pf_Ord_isDigit x2) = 0 → Post (-1) u1) ∧ (¬ (pf_Ord_isDigit x2) = 0 → (wp_Ord_next u1  (fun x4 u3 => (∀ x5 : Int32, x5 = (x4 - 48) → (∀ u6 : OS, u6 = (oS u3 1 ((u3.1 1) + 1)) → ((x5 = 0 → Post 0 u6) ∧ (¬ x5 = 0 → (∃ k17 : Nat, wl_Ord_readNumber_38 Post (fun x16 u15 => Post x16 u15) k17 x5 1 u6)))))))))))
theorem ok_Ord_65 : CallOk y_Ord_next b_Ord_next 1 (some .int) 0 0 "HamperClub$Orders" 65 := ⟨tb_634, tb_636, sl_8, tb_11, tb_637, by decide +kernel⟩
theorem so_Ord_71 : StOk y_Ord_isDigit b_Ord_isDigit 1 (some .boolean) 1 "HamperClub$Orders" 71 := ⟨tb_642, tb_643, tb_11, tb_644, by decide +kernel⟩
set_option maxHeartbeats 4000000 in
set_option maxRecDepth 100000 in
theorem x_Ord_readNumber_38 {p : Program} {l : Launch} {e : Env} {s : State} {m : MethodId} {args : Array Value} {below : List Frame} {meth : Method} {c : Code} {A : Nat → Prop} {G : GG} {ad : Nat → Nat} {Post : Int32 → OS → Prop} {K : Int32 → OS → Prop} {Q : State → Prop}
    (hx : p.tables.exec = Jvm.exec) (hb : c.code = b_Ord_readNumber) (hr : meth.sig.returnType = some .int) (hts : ∀ w ∈ Tg, w.before args s = true) (hown : s.vm.findClass "HamperClub$Orders" = some m.cls) (hml : c.maxLocals = 3) (hlocks : meth.locks = false) (hA : ∀ q, s.heap.size ≤ q → A q) (hK : KN G s)
    (hQ : Q = MQ below (va_Qi Post (BW G A (ordW G ad)) A) args s 0 0 A)
    (kk : ∀ (b1 : Int32) (u : OS), K b1 u → ∀ (H : Heap) (locs : List Loc) (ls : Array Slot), va_P G.1 classes (ordW G ad u) H → va_D A (ordW G ad u) → va_S A s.heap H locs → lv_has ls 3 [(1, .int b1)] → W p l e (rmK 1) s m args below meth c H locs 0 0 Q (F0 m 82 ls [])) :
    ∀ (n : Nat) (a1 : Int32) (a2 : Int32) (u : OS), wl_Ord_readNumber_38 Post K n a1 a2 u → ∀ (H : Heap) (locs : List Loc) (ls : Array Slot), va_P G.1 classes (ordW G ad u) H → va_D A (ordW G ad u) → va_S A s.heap H locs → lv_has ls 3 [(0, .ref (ad 0)), (1, .int a1), (2, .int a2)] → W p l e (rmK 1) s m args below meth c H locs 0 0 Q (F0 m 38 ls []) := by
  subst hQ
  intro n
  induction n with
  | zero => intro a1 a2 u h; exact h.elim
  | succ n ih =>
    intro a1 a2 u7 h H locs ls hP hD hS hl
    unfold wl_Ord_readNumber_38 at h
    refine lv_iload_n hx hb d_Ord_readNumber_38 rfl (lv_at hl 2 rfl) ?_
    refine lv_iconst (v := 3) hx hb d_Ord_readNumber_39 (by decide) ?_
    refine lv_icmp_ge (tgt := 82) hx hb d_Ord_readNumber_40 (by decide) (fun hc => ?_) (fun hc => ?_)
    · have h := h.1 hc
      exact kk a1 u7 h _ _ _ hP hD hS (lv_sub hl [1] rfl)
    · have h := h.2 hc
      refine lv_aload_n hx hb d_Ord_readNumber_43 rfl (lv_at hl 0 rfl) ?_
      refine call_Vi1 (own := "HamperClub$Orders") (As := []) (rest := []) (q0 := 0) (ci := 5) hx hb hml hts hown hK hA hP hD hS ok_Ord_65 rfl ⟨Nat.le_of_ble_eq_true rfl, Nat.le_of_ble_eq_true rfl⟩ ⟨Nat.le_of_ble_eq_true rfl, Nat.le_of_ble_eq_true rfl⟩ rfl rfl rfl hl.1 rfl (Nat.le_of_ble_eq_true rfl) d_Ord_readNumber_44 (c_Ord_next l G ad _ u7  _ h) (fun x9 u8 H locs h hP hD hS => ?_)
      refine call_S (As := [.int x9]) (rest := []) hx hb hml hts hown so_Ord_71 rfl ⟨Nat.le_of_ble_eq_true rfl, Nat.le_of_ble_eq_true rfl⟩ ⟨Nat.le_of_ble_eq_true rfl, Nat.le_of_ble_eq_true rfl⟩ hl.1 rfl (Nat.le_of_ble_eq_true rfl) d_Ord_readNumber_47 (k_Ord_isDigit l x9) ?_
      refine lv_if_eq (tgt := 82) hx hb d_Ord_readNumber_50 (by decide) (fun hc => ?_) (fun hc => ?_)
      · have h := h.1 hc
        exact kk a1 u8 h _ _ _ hP hD hS (lv_sub hl [1] rfl)
      · have h := h.2 hc
        refine lv_iload_n hx hb d_Ord_readNumber_53 rfl (lv_at hl 1 rfl) ?_
        refine lv_bipush (v := 10) hx hb d_Ord_readNumber_54 (by decide) ?_
        refine lv_imul hx hb d_Ord_readNumber_56 ?_
        refine lv_aload_n hx hb d_Ord_readNumber_57 rfl (lv_at hl 0 rfl) ?_
        refine call_Vi1 (own := "HamperClub$Orders") (As := []) (rest := [.int (a1 * 10)]) (q0 := 0) (ci := 5) hx hb hml hts hown hK hA hP hD hS ok_Ord_65 rfl ⟨Nat.le_of_ble_eq_true rfl, Nat.le_of_ble_eq_true rfl⟩ ⟨Nat.le_of_ble_eq_true rfl, Nat.le_of_ble_eq_true rfl⟩ rfl rfl rfl hl.1 rfl (Nat.le_of_ble_eq_true rfl) d_Ord_readNumber_58 (c_Ord_next l G ad _ u8  _ h) (fun x11 u10 H locs h hP hD hS => ?_)
        refine lv_bipush (v := 48) hx hb d_Ord_readNumber_61 (by decide) ?_
        refine lv_isub hx hb d_Ord_readNumber_63 ?_
        refine lv_iadd hx hb d_Ord_readNumber_64 ?_
        refine lv_topi (fun x12 ex12 => ?_)
        have h := h x12 ex12
        refine lv_istore_n (lv' := [(1, .int x12), (0, .ref (ad 0)), (2, .int a2)]) hx hb d_Ord_readNumber_65 rfl hl (by decide) rfl (fun ls hl => ?_)
        refine lv_aload_n hx hb d_Ord_readNumber_66 rfl (lv_at hl 1 rfl) ?_
        refine lv_dup hx hb d_Ord_readNumber_67 rfl ?_
        refine gO_Ord_at hx hb hts hown hK hP tb_232 d_Ord_readNumber_68 ?_
        refine lv_iconst (v := 1) hx hb d_Ord_readNumber_71 (by decide) ?_
        refine lv_iadd hx hb d_Ord_readNumber_72 ?_
        refine pO_Ord_at hx hb hts hown hK hP hD hS tb_232 d_Ord_readNumber_73 (fun u13 H locs eu13 hP hD hS => ?_)
        have h := h u13 eu13
        obtain ⟨x14, ex14⟩ : ∃ y : Int32, y = a2 + 1 := ⟨_, rfl⟩
        have h := h x14 ex14
        refine lv_iinc (v := x14) (lv' := [(2, .int x14), (1, .int x12), (0, .ref (ad 0))]) hx hb d_Ord_readNumber_76 hl (k := 2) rfl (by rw [ex14]; rfl) (by decide) rfl (fun ls hl => ?_)
        refine lv_goto (tgt := 38) hx hb d_Ord_readNumber_79 (by decide) ?_
        exact ih x12 x14 u13 h _ _ _ hP hD hS (lv_sub hl [2, 1, 0] rfl)
set_option maxHeartbeats 4000000 in
set_option maxRecDepth 100000 in
theorem c_Ord_readNumber (l : Launch) (G : GG) (ad : Nat → Nat) (sz : Nat) (u : OS) (Post : Int32 → OS → Prop) (h : wp_Ord_readNumber u Post) : CMi l y_Ord_readNumber b_Ord_readNumber 3 .int 1 G [.ref (ad 0)] sz (ordW G ad u) (ordW G ad) Post := by
  refine CMi.start (by decide) (Nat.le_of_ble_eq_true rfl) (fun p e s m below meth c A ls hx hb hr hts hown hml hlocks hA hS hP hD hK hl => ?_)
  unfold wp_Ord_readNumber at h
  have hl : lv_has ls 3 [(0, .ref (ad 0))] := hl
  refine lv_aload_n hx hb d_Ord_readNumber_0 rfl (lv_at hl 0 rfl) ?_
  refine call_Vi1 (own := "HamperClub$Orders") (As := []) (rest := []) (q0 := 0) (ci := 5) hx hb hml hts hown hK hA hP hD hS ok_Ord_65 rfl ⟨Nat.le_of_ble_eq_true rfl, Nat.le_of_ble_eq_true rfl⟩ ⟨Nat.le_of_ble_eq_true rfl, Nat.le_of_ble_eq_true rfl⟩ rfl rfl rfl hl.1 rfl (Nat.le_of_ble_eq_true rfl) d_Ord_readNumber_1 (c_Ord_next l G ad _ u  _ h) (fun x2 u1 H locs h hP hD hS => ?_)
  refine call_S (As := [.int x2]) (rest := []) hx hb hml hts hown so_Ord_71 rfl ⟨Nat.le_of_ble_eq_true rfl, Nat.le_of_ble_eq_true rfl⟩ ⟨Nat.le_of_ble_eq_true rfl, Nat.le_of_ble_eq_true rfl⟩ hl.1 rfl (Nat.le_of_ble_eq_true rfl) d_Ord_readNumber_4 (k_Ord_isDigit l x2) ?_
  refine lv_if_ne (tgt := 12) hx hb d_Ord_readNumber_7 (by decide) (fun hc => ?_) (fun hc => ?_)
  · have h := h.2 hc
    refine lv_aload_n hx hb d_Ord_readNumber_12 rfl (lv_at hl 0 rfl) ?_
    refine call_Vi1 (own := "HamperClub$Orders") (As := []) (rest := []) (q0 := 0) (ci := 5) hx hb hml hts hown hK hA hP hD hS ok_Ord_65 rfl ⟨Nat.le_of_ble_eq_true rfl, Nat.le_of_ble_eq_true rfl⟩ ⟨Nat.le_of_ble_eq_true rfl, Nat.le_of_ble_eq_true rfl⟩ rfl rfl rfl hl.1 rfl (Nat.le_of_ble_eq_true rfl) d_Ord_readNumber_13 (c_Ord_next l G ad _ u1  _ h) (fun x4 u3 H locs h hP hD hS => ?_)
    refine lv_bipush (v := 48) hx hb d_Ord_readNumber_16 (by decide) ?_
    refine lv_isub hx hb d_Ord_readNumber_18 ?_
    refine lv_topi (fun x5 ex5 => ?_)
    have h := h x5 ex5
    refine lv_istore_n (lv' := [(1, .int x5), (0, .ref (ad 0))]) hx hb d_Ord_readNumber_19 rfl hl (by decide) rfl (fun ls hl => ?_)
    refine lv_aload_n hx hb d_Ord_readNumber_20 rfl (lv_at hl 1 rfl) ?_
    refine lv_dup hx hb d_Ord_readNumber_21 rfl ?_
    refine gO_Ord_at hx hb hts hown hK hP tb_232 d_Ord_readNumber_22 ?_
    refine lv_iconst (v := 1) hx hb d_Ord_readNumber_25 (by decide) ?_
    refine lv_iadd hx hb d_Ord_readNumber_26 ?_
    refine pO_Ord_at hx hb hts hown hK hP hD hS tb_232 d_Ord_readNumber_27 (fun u6 H locs eu6 hP hD hS => ?_)
    have h := h u6 eu6
    refine lv_iload_n hx hb d_Ord_readNumber_30 rfl (lv_at hl 0 rfl) ?_
    refine lv_if_ne (tgt := 36) hx hb d_Ord_readNumber_31 (by decide) (fun hc => ?_) (fun hc => ?_)
    · have h := h.2 hc
      refine lv_iconst (v := 1) hx hb d_Ord_readNumber_36 (by decide) ?_
      refine lv_istore_n (lv' := [(2, .int 1), (1, .int x5), (0, .ref (ad 0))]) hx hb d_Ord_readNumber_37 rfl hl (by decide) rfl (fun ls hl => ?_)
      obtain ⟨n, h⟩ := h
      refine x_Ord_readNumber_38 hx hb hr hts hown hml hlocks hA hK rfl (fun x16 u15 h H locs ls hP hD hS hl => ?_) n x5 1 u6 h _ _ _ hP hD hS (lv_sub hl [2, 1, 0] rfl)
      refine lv_iload_n hx hb d_Ord_readNumber_82 rfl (lv_at hl 0 rfl) ?_
      exact r_iret hx hb hr hlocks hP hD hS d_Ord_readNumber_83 h
    · have h := h.1 hc
      refine lv_iconst (v := 0) hx hb d_Ord_readNumber_34 (by decide) ?_
      exact r_iret hx hb hr hlocks hP hD hS d_Ord_readNumber_35 h
  · have h := h.1 hc
    refine lv_iconst (v := (-1)) hx hb d_Ord_readNumber_10 (by decide) ?_
    exact r_iret hx hb hr hlocks hP hD hS d_Ord_readNumber_11 h
def wp_Ord_readOrder (u : OS) (Post : Int32 → OS → Prop) : Prop := (wp_Ord_next u  (fun x2 u1 => ((x2 = 119 → (∀ u33 : OS, u33 = (oS u1 3 119) → (∀ u34 : OS, u34 = (oS u33 1 ((u33.1 1) + 1)) → Post 1 u34))) ∧ (¬ x2 = 119 → (wp_Ord_readNumber u1  (fun x4 u3 => (∀ u5 : OS, u5 = (oS u3 2 x4) → (((u5.1 2) = (-1) → Post 0 u5) ∧ (¬ (u5.1 2) = (-1) → (wp_Ord_next u5  (fun x7 u6 => (∀ u8 : OS, u8 = (oS u6 3 x7) → (((u8.1 3) = 43 → (((u8.1 3) = 120 → (∀ u9 : OS, u9 = (oS u8 1 ((u8.1 1) + 1)) → Post 1 u9)) ∧ (¬ (u8.1 3) = 120 → (((u8.1 3) = 108 → (∀ u10 : OS, u10 = (oS u8 1 ((u8.1 1) + 1)) → Post 1 u10)) ∧ (¬ (u8.1 3) = 108 → (((u8.1 3) = 102 → (∀ u15 : OS, u15 = (oS u8 1 ((u8.1 1) + 1)) → Post 1 u15)) ∧ (¬ (u8.1 3) = 102 → (∀ u11 : OS, u11 = (oS u8 1 ((u8.1 1) + 1)) → (wp_Ord_readNumber u11  (fun x13 u12 => (∀ u14 : OS, u14 = (oS u12 4 x13) → (((u14.1 4) = (-1) → Post 0 u14) ∧ (¬ (u14.1 4) = (-1) → Post 1 u14))))))))))))) ∧ (¬ (u8.1 3) = 43 → (((u8.1 3) = 45 → (((u8.1 3) = 120 → (∀ u16 : OS, u16 = (oS u8 1 ((u8.1 1) + 1)) → Post 1 u16)) ∧ (¬ (u8.1 3) = 120 → (((u8.1 3) = 108 → (∀ u17 : OS, u17 = (oS u8 1 ((u8.1 1) + 1)) → Post 1 u17)) ∧ (¬ (u8.1 3) = 108 → (((u8.1 3) = 102 → (∀ u22 : OS, u22 = (oS u8 1 ((u8.1 1) + 1)) → Post 1 u22)) ∧ (¬ (u8.1 3) = 102 → (∀ u18 : OS, u18 = (oS u8 1 ((u8.1 1) + 1)) → (wp_Ord_readNumber u18  (fun x20 u19 => (∀ u21 : OS, u21 = (oS u19 4 x20) → (((u21.1 4) = (-1) → Post 0 u21) ∧ (¬ (u21.1 4) = (-1) → Post 1 u21))))))))))))) ∧ (¬ (u8.1 3) = 45 → (((u8.1 3) = 104 → (((u8.1 3) = 120 → (∀ u26 : OS, u26 = (oS u8 1 ((u8.1 1) + 1)) → Post 1 u26)) ∧ (¬ (u8.1 3) = 120 → (((u8.1 3) = 108 → (∀ u27 : OS, u27 = (oS u8 1 ((u8.1 1) + 1)) → Post 1 u27)) ∧ (¬ (u8.1 3) = 108 → (((u8.1 3) = 102 → (∀ u32 : OS, u32 = (oS u8 1 ((u8.1 1) + 1)) → Post 1 u32)) ∧ (¬ (u8.1 3) = 102 → (∀ u28 : OS, u28 = (oS u8 1 ((u8.1 1) + 1)) → (wp_Ord_readNumber u28  (fun x30 u29 => (∀ u31 : OS, u31 = (oS u29 4 x30) → (((u31.1 4) = (-1) → Post 0 u31) ∧ (¬ (u31.1 4) = (-1) → Post 1 u31))))))))))))) ∧ (¬ (u8.1 3) = 104 → (((u8.1 3) = 120 → (∀ u23 : OS, u23 = (oS u8 1 ((u8.1 1) + 1)) → Post 1 u23)) ∧ (¬ (u8.1 3) = 120 → (((u8.1 3) = 108 → (∀ u24 : OS, u24 = (oS u8 1 ((u8.1 1) + 1)) → Post 1 u24)) ∧ (¬ (u8.1 3) = 108 → (((u8.1 3) = 102 → (∀ u25 : OS, u25 = (oS u8 1 ((u8.1 1) + 1)) → Post 1 u25)) ∧ (¬ (u8.1 3) = 102 → Post 0 u8))))))))))))))))))))))))
theorem ok_Ord_68 : CallOk y_Ord_readNumber b_Ord_readNumber 3 (some .int) 1 0 "HamperClub$Orders" 68 := ⟨tb_638, tb_640, sl_9, tb_11, tb_641, by decide +kernel⟩
set_option maxHeartbeats 4000000 in
set_option maxRecDepth 100000 in
theorem c_Ord_readOrder (l : Launch) (G : GG) (ad : Nat → Nat) (sz : Nat) (u : OS) (Post : Int32 → OS → Prop) (h : wp_Ord_readOrder u Post) : CMi l y_Ord_readOrder b_Ord_readOrder 3 .boolean 2 G [.ref (ad 0)] sz (ordW G ad u) (ordW G ad) Post := by
  refine CMi.start (by decide) (Nat.le_of_ble_eq_true rfl) (fun p e s m below meth c A ls hx hb hr hts hown hml hlocks hA hS hP hD hK hl => ?_)
  unfold wp_Ord_readOrder at h
  have hl : lv_has ls 3 [(0, .ref (ad 0))] := hl
  refine lv_aload_n hx hb d_Ord_readOrder_0 rfl (lv_at hl 0 rfl) ?_
  refine call_Vi1 (own := "HamperClub$Orders") (As := []) (rest := []) (q0 := 0) (ci := 5) hx hb hml hts hown hK hA hP hD hS ok_Ord_65 rfl ⟨Nat.le_of_ble_eq_true rfl, Nat.le_of_ble_eq_true rfl⟩ ⟨Nat.le_of_ble_eq_true rfl, Nat.le_of_ble_eq_true rfl⟩ rfl rfl rfl hl.1 rfl (Nat.le_of_ble_eq_true rfl) d_Ord_readOrder_1 (c_Ord_next l G ad _ u  _ h) (fun x2 u1 H locs h hP hD hS => ?_)
  refine lv_bipush (v := 119) hx hb d_Ord_readOrder_4 (by decide) ?_
  refine lv_icmp_ne (tgt := 27) hx hb d_Ord_readOrder_6 (by decide) (fun hc => ?_) (fun hc => ?_)
  · have h := h.2 hc
    refine lv_aload_n hx hb d_Ord_readOrder_27 rfl (lv_at hl 0 rfl) ?_
    refine lv_aload_n hx hb d_Ord_readOrder_28 rfl (lv_at hl 0 rfl) ?_
    refine call_Vi1 (own := "HamperClub$Orders") (As := []) (rest := [.ref (ad 0)]) (q0 := 0) (ci := 5) hx hb hml hts hown hK hA hP hD hS ok_Ord_68 rfl ⟨Nat.le_of_ble_eq_true rfl, Nat.le_of_ble_eq_true rfl⟩ ⟨Nat.le_of_ble_eq_true rfl, Nat.le_of_ble_eq_true rfl⟩ rfl rfl rfl hl.1 rfl (Nat.le_of_ble_eq_true rfl) d_Ord_readOrder_29 (c_Ord_readNumber l G ad _ u1  _ h) (fun x4 u3 H locs h hP hD hS => ?_)
    refine pO_Ord_member hx hb hts hown hK hP hD hS tb_233 d_Ord_readOrder_32 (fun u5 H locs eu5 hP hD hS => ?_)
    have h := h u5 eu5
    refine lv_aload_n hx hb d_Ord_readOrder_35 rfl (lv_at hl 0 rfl) ?_
    refine gO_Ord_member hx hb hts hown hK hP tb_233 d_Ord_readOrder_36 ?_
    refine lv_iconst (v := (-1)) hx hb d_Ord_readOrder_39 (by decide) ?_
    refine lv_icmp_ne (tgt := 45) hx hb d_Ord_readOrder_40 (by decide) (fun hc => ?_) (fun hc => ?_)
    · have h := h.2 hc
      refine lv_aload_n hx hb d_Ord_readOrder_45 rfl (lv_at hl 0 rfl) ?_
      refine lv_aload_n hx hb d_Ord_readOrder_46 rfl (lv_at hl 0 rfl) ?_
      refine call_Vi1 (own := "HamperClub$Orders") (As := []) (rest := [.ref (ad 0)]) (q0 := 0) (ci := 5) hx hb hml hts hown hK hA hP hD hS ok_Ord_65 rfl ⟨Nat.le_of_ble_eq_true rfl, Nat.le_of_ble_eq_true rfl⟩ ⟨Nat.le_of_ble_eq_true rfl, Nat.le_of_ble_eq_true rfl⟩ rfl rfl rfl hl.1 rfl (Nat.le_of_ble_eq_true rfl) d_Ord_readOrder_47 (c_Ord_next l G ad _ u5  _ h) (fun x7 u6 H locs h hP hD hS => ?_)
      refine pO_Ord_sign hx hb hts hown hK hP hD hS tb_234 d_Ord_readOrder_50 (fun u8 H locs eu8 hP hD hS => ?_)
      have h := h u8 eu8
      refine lv_aload_n hx hb d_Ord_readOrder_53 rfl (lv_at hl 0 rfl) ?_
      refine gO_Ord_sign hx hb hts hown hK hP tb_234 d_Ord_readOrder_54 ?_
      refine lv_bipush (v := 43) hx hb d_Ord_readOrder_57 (by decide) ?_
      refine lv_icmp_eq (tgt := 80) hx hb d_Ord_readOrder_59 (by decide) (fun hc => ?_) (fun hc => ?_)
      · have h := h.1 hc
        refine lv_iconst (v := 1) hx hb d_Ord_readOrder_80 (by decide) ?_
        refine lv_goto (tgt := 85) hx hb d_Ord_readOrder_81 (by decide) ?_
        refine lv_istore_n (lv' := [(1, .int 1), (0, .ref (ad 0))]) hx hb d_Ord_readOrder_85 rfl hl (by decide) rfl (fun ls hl => ?_)
        refine lv_aload_n hx hb d_Ord_readOrder_86 rfl (lv_at hl 1 rfl) ?_
        refine gO_Ord_sign hx hb hts hown hK hP tb_234 d_Ord_readOrder_87 ?_
        refine lv_bipush (v := 120) hx hb d_Ord_readOrder_90 (by decide) ?_
        refine lv_icmp_eq (tgt := 113) hx hb d_Ord_readOrder_92 (by decide) (fun hc => ?_) (fun hc => ?_)
        · have h := h.1 hc
          refine lv_iconst (v := 1) hx hb d_Ord_readOrder_113 (by decide) ?_
          refine lv_goto (tgt := 118) hx hb d_Ord_readOrder_114 (by decide) ?_
          refine lv_istore_n (lv' := [(2, .int 1), (1, .int 1), (0, .ref (ad 0))]) hx hb d_Ord_readOrder_118 rfl hl (by decide) rfl (fun ls hl => ?_)
          refine lv_iload_n hx hb d_Ord_readOrder_119 rfl (lv_at hl 1 rfl) ?_
          refine lv_if_ne (tgt := 129) hx hb d_Ord_readOrder_120 (by decide) (fun _ => ?_) (fun hc => absurd hc (by decide))
          refine lv_aload_n hx hb d_Ord_readOrder_129 rfl (lv_at hl 2 rfl) ?_
          refine lv_dup hx hb d_Ord_readOrder_130 rfl ?_
          refine gO_Ord_at hx hb hts hown hK hP tb_232 d_Ord_readOrder_131 ?_
          refine lv_iconst (v := 1) hx hb d_Ord_readOrder_134 (by decide) ?_
          refine lv_iadd hx hb d_Ord_readOrder_135 ?_
          refine pO_Ord_at hx hb hts hown hK hP hD hS tb_232 d_Ord_readOrder_136 (fun u9 H locs eu9 hP hD hS => ?_)
          have h := h u9 eu9
          refine lv_iload_n hx hb d_Ord_readOrder_139 rfl (lv_at hl 0 rfl) ?_
          refine lv_if_eq (tgt := 145) hx hb d_Ord_readOrder_140 (by decide) (fun hc => absurd hc (by decide)) (fun _ => ?_)
          refine lv_iconst (v := 1) hx hb d_Ord_readOrder_143 (by decide) ?_
          exact r_zret hx hb hr hlocks rfl hP hD hS d_Ord_readOrder_144 h
        · have h := h.2 hc
          refine lv_aload_n hx hb d_Ord_readOrder_95 rfl (lv_at hl 1 rfl) ?_
          refine gO_Ord_sign hx hb hts hown hK hP tb_234 d_Ord_readOrder_96 ?_
          refine lv_bipush (v := 108) hx hb d_Ord_readOrder_99 (by decide) ?_
          refine lv_icmp_eq (tgt := 113) hx hb d_Ord_readOrder_101 (by decide) (fun hc => ?_) (fun hc => ?_)
          · have h := h.1 hc
            refine lv_iconst (v := 1) hx hb d_Ord_readOrder_113 (by decide) ?_
            refine lv_goto (tgt := 118) hx hb d_Ord_readOrder_114 (by decide) ?_
            refine lv_istore_n (lv' := [(2, .int 1), (1, .int 1), (0, .ref (ad 0))]) hx hb d_Ord_readOrder_118 rfl hl (by decide) rfl (fun ls hl => ?_)
            refine lv_iload_n hx hb d_Ord_readOrder_119 rfl (lv_at hl 1 rfl) ?_
            refine lv_if_ne (tgt := 129) hx hb d_Ord_readOrder_120 (by decide) (fun _ => ?_) (fun hc => absurd hc (by decide))
            refine lv_aload_n hx hb d_Ord_readOrder_129 rfl (lv_at hl 2 rfl) ?_
            refine lv_dup hx hb d_Ord_readOrder_130 rfl ?_
            refine gO_Ord_at hx hb hts hown hK hP tb_232 d_Ord_readOrder_131 ?_
            refine lv_iconst (v := 1) hx hb d_Ord_readOrder_134 (by decide) ?_
            refine lv_iadd hx hb d_Ord_readOrder_135 ?_
            refine pO_Ord_at hx hb hts hown hK hP hD hS tb_232 d_Ord_readOrder_136 (fun u10 H locs eu10 hP hD hS => ?_)
            have h := h u10 eu10
            refine lv_iload_n hx hb d_Ord_readOrder_139 rfl (lv_at hl 0 rfl) ?_
            refine lv_if_eq (tgt := 145) hx hb d_Ord_readOrder_140 (by decide) (fun hc => absurd hc (by decide)) (fun _ => ?_)
            refine lv_iconst (v := 1) hx hb d_Ord_readOrder_143 (by decide) ?_
            exact r_zret hx hb hr hlocks rfl hP hD hS d_Ord_readOrder_144 h
          · have h := h.2 hc
            refine lv_aload_n hx hb d_Ord_readOrder_104 rfl (lv_at hl 1 rfl) ?_
            refine gO_Ord_sign hx hb hts hown hK hP tb_234 d_Ord_readOrder_105 ?_
            refine lv_bipush (v := 102) hx hb d_Ord_readOrder_108 (by decide) ?_
            refine lv_icmp_ne (tgt := 117) hx hb d_Ord_readOrder_110 (by decide) (fun hc => ?_) (fun hc => ?_)
            · have h := h.2 hc
              refine lv_iconst (v := 0) hx hb d_Ord_readOrder_117 (by decide) ?_
              refine lv_istore_n (lv' := [(2, .int 0), (1, .int 1), (0, .ref (ad 0))]) hx hb d_Ord_readOrder_118 rfl hl (by decide) rfl (fun ls hl => ?_)
              refine lv_iload_n hx hb d_Ord_readOrder_119 rfl (lv_at hl 1 rfl) ?_
              refine lv_if_ne (tgt := 129) hx hb d_Ord_readOrder_120 (by decide) (fun _ => ?_) (fun hc => absurd hc (by decide))
              refine lv_aload_n hx hb d_Ord_readOrder_129 rfl (lv_at hl 2 rfl) ?_
              refine lv_dup hx hb d_Ord_readOrder_130 rfl ?_
              refine gO_Ord_at hx hb hts hown hK hP tb_232 d_Ord_readOrder_131 ?_
              refine lv_iconst (v := 1) hx hb d_Ord_readOrder_134 (by decide) ?_
              refine lv_iadd hx hb d_Ord_readOrder_135 ?_
              refine pO_Ord_at hx hb hts hown hK hP hD hS tb_232 d_Ord_readOrder_136 (fun u11 H locs eu11 hP hD hS => ?_)
              have h := h u11 eu11
              refine lv_iload_n hx hb d_Ord_readOrder_139 rfl (lv_at hl 0 rfl) ?_
              refine lv_if_eq (tgt := 145) hx hb d_Ord_readOrder_140 (by decide) (fun _ => ?_) (fun hc => absurd hc (by decide))
              refine lv_aload_n hx hb d_Ord_readOrder_145 rfl (lv_at hl 2 rfl) ?_
              refine lv_aload_n hx hb d_Ord_readOrder_146 rfl (lv_at hl 2 rfl) ?_
              refine call_Vi1 (own := "HamperClub$Orders") (As := []) (rest := [.ref (ad 0)]) (q0 := 0) (ci := 5) hx hb hml hts hown hK hA hP hD hS ok_Ord_68 rfl ⟨Nat.le_of_ble_eq_true rfl, Nat.le_of_ble_eq_true rfl⟩ ⟨Nat.le_of_ble_eq_true rfl, Nat.le_of_ble_eq_true rfl⟩ rfl rfl rfl hl.1 rfl (Nat.le_of_ble_eq_true rfl) d_Ord_readOrder_147 (c_Ord_readNumber l G ad _ u11  _ h) (fun x13 u12 H locs h hP hD hS => ?_)
              refine pO_Ord_number hx hb hts hown hK hP hD hS tb_235 d_Ord_readOrder_150 (fun u14 H locs eu14 hP hD hS => ?_)
              have h := h u14 eu14
              refine lv_aload_n hx hb d_Ord_readOrder_153 rfl (lv_at hl 2 rfl) ?_
              refine gO_Ord_number hx hb hts hown hK hP tb_235 d_Ord_readOrder_154 ?_
              refine lv_iconst (v := (-1)) hx hb d_Ord_readOrder_157 (by decide) ?_
              refine lv_icmp_eq (tgt := 165) hx hb d_Ord_readOrder_158 (by decide) (fun hc => ?_) (fun hc => ?_)
              · have h := h.1 hc
                refine lv_iconst (v := 0) hx hb d_Ord_readOrder_165 (by decide) ?_
                exact r_zret hx hb hr hlocks rfl hP hD hS d_Ord_readOrder_166 h
              · have h := h.2 hc
                refine lv_iconst (v := 1) hx hb d_Ord_readOrder_161 (by decide) ?_
                refine lv_goto (tgt := 166) hx hb d_Ord_readOrder_162 (by decide) ?_
                exact r_zret hx hb hr hlocks rfl hP hD hS d_Ord_readOrder_166 h
            · have h := h.1 hc
              refine lv_iconst (v := 1) hx hb d_Ord_readOrder_113 (by decide) ?_
              refine lv_goto (tgt := 118) hx hb d_Ord_readOrder_114 (by decide) ?_
              refine lv_istore_n (lv' := [(2, .int 1), (1, .int 1), (0, .ref (ad 0))]) hx hb d_Ord_readOrder_118 rfl hl (by decide) rfl (fun ls hl => ?_)
              refine lv_iload_n hx hb d_Ord_readOrder_119 rfl (lv_at hl 1 rfl) ?_
              refine lv_if_ne (tgt := 129) hx hb d_Ord_readOrder_120 (by decide) (fun _ => ?_) (fun hc => absurd hc (by decide))
              refine lv_aload_n hx hb d_Ord_readOrder_129 rfl (lv_at hl 2 rfl) ?_
              refine lv_dup hx hb d_Ord_readOrder_130 rfl ?_
              refine gO_Ord_at hx hb hts hown hK hP tb_232 d_Ord_readOrder_131 ?_
              refine lv_iconst (v := 1) hx hb d_Ord_readOrder_134 (by decide) ?_
              refine lv_iadd hx hb d_Ord_readOrder_135 ?_
              refine pO_Ord_at hx hb hts hown hK hP hD hS tb_232 d_Ord_readOrder_136 (fun u15 H locs eu15 hP hD hS => ?_)
              have h := h u15 eu15
              refine lv_iload_n hx hb d_Ord_readOrder_139 rfl (lv_at hl 0 rfl) ?_
              refine lv_if_eq (tgt := 145) hx hb d_Ord_readOrder_140 (by decide) (fun hc => absurd hc (by decide)) (fun _ => ?_)
              refine lv_iconst (v := 1) hx hb d_Ord_readOrder_143 (by decide) ?_
              exact r_zret hx hb hr hlocks rfl hP hD hS d_Ord_readOrder_144 h
      · have h := h.2 hc
        refine lv_aload_n hx hb d_Ord_readOrder_62 rfl (lv_at hl 0 rfl) ?_
        refine gO_Ord_sign hx hb hts hown hK hP tb_234 d_Ord_readOrder_63 ?_
        refine lv_bipush (v := 45) hx hb d_Ord_readOrder_66 (by decide) ?_
        refine lv_icmp_eq (tgt := 80) hx hb d_Ord_readOrder_68 (by decide) (fun hc => ?_) (fun hc => ?_)
        · have h := h.1 hc
          refine lv_iconst (v := 1) hx hb d_Ord_readOrder_80 (by decide) ?_
          refine lv_goto (tgt := 85) hx hb d_Ord_readOrder_81 (by decide) ?_
          refine lv_istore_n (lv' := [(1, .int 1), (0, .ref (ad 0))]) hx hb d_Ord_readOrder_85 rfl hl (by decide) rfl (fun ls hl => ?_)
          refine lv_aload_n hx hb d_Ord_readOrder_86 rfl (lv_at hl 1 rfl) ?_
          refine gO_Ord_sign hx hb hts hown hK hP tb_234 d_Ord_readOrder_87 ?_
          refine lv_bipush (v := 120) hx hb d_Ord_readOrder_90 (by decide) ?_
          refine lv_icmp_eq (tgt := 113) hx hb d_Ord_readOrder_92 (by decide) (fun hc => ?_) (fun hc => ?_)
          · have h := h.1 hc
            refine lv_iconst (v := 1) hx hb d_Ord_readOrder_113 (by decide) ?_
            refine lv_goto (tgt := 118) hx hb d_Ord_readOrder_114 (by decide) ?_
            refine lv_istore_n (lv' := [(2, .int 1), (1, .int 1), (0, .ref (ad 0))]) hx hb d_Ord_readOrder_118 rfl hl (by decide) rfl (fun ls hl => ?_)
            refine lv_iload_n hx hb d_Ord_readOrder_119 rfl (lv_at hl 1 rfl) ?_
            refine lv_if_ne (tgt := 129) hx hb d_Ord_readOrder_120 (by decide) (fun _ => ?_) (fun hc => absurd hc (by decide))
            refine lv_aload_n hx hb d_Ord_readOrder_129 rfl (lv_at hl 2 rfl) ?_
            refine lv_dup hx hb d_Ord_readOrder_130 rfl ?_
            refine gO_Ord_at hx hb hts hown hK hP tb_232 d_Ord_readOrder_131 ?_
            refine lv_iconst (v := 1) hx hb d_Ord_readOrder_134 (by decide) ?_
            refine lv_iadd hx hb d_Ord_readOrder_135 ?_
            refine pO_Ord_at hx hb hts hown hK hP hD hS tb_232 d_Ord_readOrder_136 (fun u16 H locs eu16 hP hD hS => ?_)
            have h := h u16 eu16
            refine lv_iload_n hx hb d_Ord_readOrder_139 rfl (lv_at hl 0 rfl) ?_
            refine lv_if_eq (tgt := 145) hx hb d_Ord_readOrder_140 (by decide) (fun hc => absurd hc (by decide)) (fun _ => ?_)
            refine lv_iconst (v := 1) hx hb d_Ord_readOrder_143 (by decide) ?_
            exact r_zret hx hb hr hlocks rfl hP hD hS d_Ord_readOrder_144 h
          · have h := h.2 hc
            refine lv_aload_n hx hb d_Ord_readOrder_95 rfl (lv_at hl 1 rfl) ?_
            refine gO_Ord_sign hx hb hts hown hK hP tb_234 d_Ord_readOrder_96 ?_
            refine lv_bipush (v := 108) hx hb d_Ord_readOrder_99 (by decide) ?_
            refine lv_icmp_eq (tgt := 113) hx hb d_Ord_readOrder_101 (by decide) (fun hc => ?_) (fun hc => ?_)
            · have h := h.1 hc
              refine lv_iconst (v := 1) hx hb d_Ord_readOrder_113 (by decide) ?_
              refine lv_goto (tgt := 118) hx hb d_Ord_readOrder_114 (by decide) ?_
              refine lv_istore_n (lv' := [(2, .int 1), (1, .int 1), (0, .ref (ad 0))]) hx hb d_Ord_readOrder_118 rfl hl (by decide) rfl (fun ls hl => ?_)
              refine lv_iload_n hx hb d_Ord_readOrder_119 rfl (lv_at hl 1 rfl) ?_
              refine lv_if_ne (tgt := 129) hx hb d_Ord_readOrder_120 (by decide) (fun _ => ?_) (fun hc => absurd hc (by decide))
              refine lv_aload_n hx hb d_Ord_readOrder_129 rfl (lv_at hl 2 rfl) ?_
              refine lv_dup hx hb d_Ord_readOrder_130 rfl ?_
              refine gO_Ord_at hx hb hts hown hK hP tb_232 d_Ord_readOrder_131 ?_
              refine lv_iconst (v := 1) hx hb d_Ord_readOrder_134 (by decide) ?_
              refine lv_iadd hx hb d_Ord_readOrder_135 ?_
              refine pO_Ord_at hx hb hts hown hK hP hD hS tb_232 d_Ord_readOrder_136 (fun u17 H locs eu17 hP hD hS => ?_)
              have h := h u17 eu17
              refine lv_iload_n hx hb d_Ord_readOrder_139 rfl (lv_at hl 0 rfl) ?_
              refine lv_if_eq (tgt := 145) hx hb d_Ord_readOrder_140 (by decide) (fun hc => absurd hc (by decide)) (fun _ => ?_)
              refine lv_iconst (v := 1) hx hb d_Ord_readOrder_143 (by decide) ?_
              exact r_zret hx hb hr hlocks rfl hP hD hS d_Ord_readOrder_144 h
            · have h := h.2 hc
              refine lv_aload_n hx hb d_Ord_readOrder_104 rfl (lv_at hl 1 rfl) ?_
              refine gO_Ord_sign hx hb hts hown hK hP tb_234 d_Ord_readOrder_105 ?_
              refine lv_bipush (v := 102) hx hb d_Ord_readOrder_108 (by decide) ?_
              refine lv_icmp_ne (tgt := 117) hx hb d_Ord_readOrder_110 (by decide) (fun hc => ?_) (fun hc => ?_)
              · have h := h.2 hc
                refine lv_iconst (v := 0) hx hb d_Ord_readOrder_117 (by decide) ?_
                refine lv_istore_n (lv' := [(2, .int 0), (1, .int 1), (0, .ref (ad 0))]) hx hb d_Ord_readOrder_118 rfl hl (by decide) rfl (fun ls hl => ?_)
                refine lv_iload_n hx hb d_Ord_readOrder_119 rfl (lv_at hl 1 rfl) ?_
                refine lv_if_ne (tgt := 129) hx hb d_Ord_readOrder_120 (by decide) (fun _ => ?_) (fun hc => absurd hc (by decide))
                refine lv_aload_n hx hb d_Ord_readOrder_129 rfl (lv_at hl 2 rfl) ?_
                refine lv_dup hx hb d_Ord_readOrder_130 rfl ?_
                refine gO_Ord_at hx hb hts hown hK hP tb_232 d_Ord_readOrder_131 ?_
                refine lv_iconst (v := 1) hx hb d_Ord_readOrder_134 (by decide) ?_
                refine lv_iadd hx hb d_Ord_readOrder_135 ?_
                refine pO_Ord_at hx hb hts hown hK hP hD hS tb_232 d_Ord_readOrder_136 (fun u18 H locs eu18 hP hD hS => ?_)
                have h := h u18 eu18
                refine lv_iload_n hx hb d_Ord_readOrder_139 rfl (lv_at hl 0 rfl) ?_
                refine lv_if_eq (tgt := 145) hx hb d_Ord_readOrder_140 (by decide) (fun _ => ?_) (fun hc => absurd hc (by decide))
                refine lv_aload_n hx hb d_Ord_readOrder_145 rfl (lv_at hl 2 rfl) ?_
                refine lv_aload_n hx hb d_Ord_readOrder_146 rfl (lv_at hl 2 rfl) ?_
                refine call_Vi1 (own := "HamperClub$Orders") (As := []) (rest := [.ref (ad 0)]) (q0 := 0) (ci := 5) hx hb hml hts hown hK hA hP hD hS ok_Ord_68 rfl ⟨Nat.le_of_ble_eq_true rfl, Nat.le_of_ble_eq_true rfl⟩ ⟨Nat.le_of_ble_eq_true rfl, Nat.le_of_ble_eq_true rfl⟩ rfl rfl rfl hl.1 rfl (Nat.le_of_ble_eq_true rfl) d_Ord_readOrder_147 (c_Ord_readNumber l G ad _ u18  _ h) (fun x20 u19 H locs h hP hD hS => ?_)
                refine pO_Ord_number hx hb hts hown hK hP hD hS tb_235 d_Ord_readOrder_150 (fun u21 H locs eu21 hP hD hS => ?_)
                have h := h u21 eu21
                refine lv_aload_n hx hb d_Ord_readOrder_153 rfl (lv_at hl 2 rfl) ?_
                refine gO_Ord_number hx hb hts hown hK hP tb_235 d_Ord_readOrder_154 ?_
                refine lv_iconst (v := (-1)) hx hb d_Ord_readOrder_157 (by decide) ?_
                refine lv_icmp_eq (tgt := 165) hx hb d_Ord_readOrder_158 (by decide) (fun hc => ?_) (fun hc => ?_)
                · have h := h.1 hc
                  refine lv_iconst (v := 0) hx hb d_Ord_readOrder_165 (by decide) ?_
                  exact r_zret hx hb hr hlocks rfl hP hD hS d_Ord_readOrder_166 h
                · have h := h.2 hc
                  refine lv_iconst (v := 1) hx hb d_Ord_readOrder_161 (by decide) ?_
                  refine lv_goto (tgt := 166) hx hb d_Ord_readOrder_162 (by decide) ?_
                  exact r_zret hx hb hr hlocks rfl hP hD hS d_Ord_readOrder_166 h
              · have h := h.1 hc
                refine lv_iconst (v := 1) hx hb d_Ord_readOrder_113 (by decide) ?_
                refine lv_goto (tgt := 118) hx hb d_Ord_readOrder_114 (by decide) ?_
                refine lv_istore_n (lv' := [(2, .int 1), (1, .int 1), (0, .ref (ad 0))]) hx hb d_Ord_readOrder_118 rfl hl (by decide) rfl (fun ls hl => ?_)
                refine lv_iload_n hx hb d_Ord_readOrder_119 rfl (lv_at hl 1 rfl) ?_
                refine lv_if_ne (tgt := 129) hx hb d_Ord_readOrder_120 (by decide) (fun _ => ?_) (fun hc => absurd hc (by decide))
                refine lv_aload_n hx hb d_Ord_readOrder_129 rfl (lv_at hl 2 rfl) ?_
                refine lv_dup hx hb d_Ord_readOrder_130 rfl ?_
                refine gO_Ord_at hx hb hts hown hK hP tb_232 d_Ord_readOrder_131 ?_
                refine lv_iconst (v := 1) hx hb d_Ord_readOrder_134 (by decide) ?_
                refine lv_iadd hx hb d_Ord_readOrder_135 ?_
                refine pO_Ord_at hx hb hts hown hK hP hD hS tb_232 d_Ord_readOrder_136 (fun u22 H locs eu22 hP hD hS => ?_)
                have h := h u22 eu22
                refine lv_iload_n hx hb d_Ord_readOrder_139 rfl (lv_at hl 0 rfl) ?_
                refine lv_if_eq (tgt := 145) hx hb d_Ord_readOrder_140 (by decide) (fun hc => absurd hc (by decide)) (fun _ => ?_)
                refine lv_iconst (v := 1) hx hb d_Ord_readOrder_143 (by decide) ?_
                exact r_zret hx hb hr hlocks rfl hP hD hS d_Ord_readOrder_144 h
        · have h := h.2 hc
          refine lv_aload_n hx hb d_Ord_readOrder_71 rfl (lv_at hl 0 rfl) ?_
          refine gO_Ord_sign hx hb hts hown hK hP tb_234 d_Ord_readOrder_72 ?_
          refine lv_bipush (v := 104) hx hb d_Ord_readOrder_75 (by decide) ?_
          refine lv_icmp_ne (tgt := 84) hx hb d_Ord_readOrder_77 (by decide) (fun hc => ?_) (fun hc => ?_)
          · have h := h.2 hc
            refine lv_iconst (v := 0) hx hb d_Ord_readOrder_84 (by decide) ?_
            refine lv_istore_n (lv' := [(1, .int 0), (0, .ref (ad 0))]) hx hb d_Ord_readOrder_85 rfl hl (by decide) rfl (fun ls hl => ?_)
            refine lv_aload_n hx hb d_Ord_readOrder_86 rfl (lv_at hl 1 rfl) ?_
            refine gO_Ord_sign hx hb hts hown hK hP tb_234 d_Ord_readOrder_87 ?_
            refine lv_bipush (v := 120) hx hb d_Ord_readOrder_90 (by decide) ?_
            refine lv_icmp_eq (tgt := 113) hx hb d_Ord_readOrder_92 (by decide) (fun hc => ?_) (fun hc => ?_)
            · have h := h.1 hc
              refine lv_iconst (v := 1) hx hb d_Ord_readOrder_113 (by decide) ?_
              refine lv_goto (tgt := 118) hx hb d_Ord_readOrder_114 (by decide) ?_
              refine lv_istore_n (lv' := [(2, .int 1), (1, .int 0), (0, .ref (ad 0))]) hx hb d_Ord_readOrder_118 rfl hl (by decide) rfl (fun ls hl => ?_)
              refine lv_iload_n hx hb d_Ord_readOrder_119 rfl (lv_at hl 1 rfl) ?_
              refine lv_if_ne (tgt := 129) hx hb d_Ord_readOrder_120 (by decide) (fun hc => absurd hc (by decide)) (fun _ => ?_)
              refine lv_iload_n hx hb d_Ord_readOrder_123 rfl (lv_at hl 0 rfl) ?_
              refine lv_if_ne (tgt := 129) hx hb d_Ord_readOrder_124 (by decide) (fun _ => ?_) (fun hc => absurd hc (by decide))
              refine lv_aload_n hx hb d_Ord_readOrder_129 rfl (lv_at hl 2 rfl) ?_
              refine lv_dup hx hb d_Ord_readOrder_130 rfl ?_
              refine gO_Ord_at hx hb hts hown hK hP tb_232 d_Ord_readOrder_131 ?_
              refine lv_iconst (v := 1) hx hb d_Ord_readOrder_134 (by decide) ?_
              refine lv_iadd hx hb d_Ord_readOrder_135 ?_
              refine pO_Ord_at hx hb hts hown hK hP hD hS tb_232 d_Ord_readOrder_136 (fun u23 H locs eu23 hP hD hS => ?_)
              have h := h u23 eu23
              refine lv_iload_n hx hb d_Ord_readOrder_139 rfl (lv_at hl 0 rfl) ?_
              refine lv_if_eq (tgt := 145) hx hb d_Ord_readOrder_140 (by decide) (fun hc => absurd hc (by decide)) (fun _ => ?_)
              refine lv_iconst (v := 1) hx hb d_Ord_readOrder_143 (by decide) ?_
              exact r_zret hx hb hr hlocks rfl hP hD hS d_Ord_readOrder_144 h
            · have h := h.2 hc
              refine lv_aload_n hx hb d_Ord_readOrder_95 rfl (lv_at hl 1 rfl) ?_
              refine gO_Ord_sign hx hb hts hown hK hP tb_234 d_Ord_readOrder_96 ?_
              refine lv_bipush (v := 108) hx hb d_Ord_readOrder_99 (by decide) ?_
              refine lv_icmp_eq (tgt := 113) hx hb d_Ord_readOrder_101 (by decide) (fun hc => ?_) (fun hc => ?_)
              · have h := h.1 hc
                refine lv_iconst (v := 1) hx hb d_Ord_readOrder_113 (by decide) ?_
                refine lv_goto (tgt := 118) hx hb d_Ord_readOrder_114 (by decide) ?_
                refine lv_istore_n (lv' := [(2, .int 1), (1, .int 0), (0, .ref (ad 0))]) hx hb d_Ord_readOrder_118 rfl hl (by decide) rfl (fun ls hl => ?_)
                refine lv_iload_n hx hb d_Ord_readOrder_119 rfl (lv_at hl 1 rfl) ?_
                refine lv_if_ne (tgt := 129) hx hb d_Ord_readOrder_120 (by decide) (fun hc => absurd hc (by decide)) (fun _ => ?_)
                refine lv_iload_n hx hb d_Ord_readOrder_123 rfl (lv_at hl 0 rfl) ?_
                refine lv_if_ne (tgt := 129) hx hb d_Ord_readOrder_124 (by decide) (fun _ => ?_) (fun hc => absurd hc (by decide))
                refine lv_aload_n hx hb d_Ord_readOrder_129 rfl (lv_at hl 2 rfl) ?_
                refine lv_dup hx hb d_Ord_readOrder_130 rfl ?_
                refine gO_Ord_at hx hb hts hown hK hP tb_232 d_Ord_readOrder_131 ?_
                refine lv_iconst (v := 1) hx hb d_Ord_readOrder_134 (by decide) ?_
                refine lv_iadd hx hb d_Ord_readOrder_135 ?_
                refine pO_Ord_at hx hb hts hown hK hP hD hS tb_232 d_Ord_readOrder_136 (fun u24 H locs eu24 hP hD hS => ?_)
                have h := h u24 eu24
                refine lv_iload_n hx hb d_Ord_readOrder_139 rfl (lv_at hl 0 rfl) ?_
                refine lv_if_eq (tgt := 145) hx hb d_Ord_readOrder_140 (by decide) (fun hc => absurd hc (by decide)) (fun _ => ?_)
                refine lv_iconst (v := 1) hx hb d_Ord_readOrder_143 (by decide) ?_
                exact r_zret hx hb hr hlocks rfl hP hD hS d_Ord_readOrder_144 h
              · have h := h.2 hc
                refine lv_aload_n hx hb d_Ord_readOrder_104 rfl (lv_at hl 1 rfl) ?_
                refine gO_Ord_sign hx hb hts hown hK hP tb_234 d_Ord_readOrder_105 ?_
                refine lv_bipush (v := 102) hx hb d_Ord_readOrder_108 (by decide) ?_
                refine lv_icmp_ne (tgt := 117) hx hb d_Ord_readOrder_110 (by decide) (fun hc => ?_) (fun hc => ?_)
                · have h := h.2 hc
                  refine lv_iconst (v := 0) hx hb d_Ord_readOrder_117 (by decide) ?_
                  refine lv_istore_n (lv' := [(2, .int 0), (1, .int 0), (0, .ref (ad 0))]) hx hb d_Ord_readOrder_118 rfl hl (by decide) rfl (fun ls hl => ?_)
                  refine lv_iload_n hx hb d_Ord_readOrder_119 rfl (lv_at hl 1 rfl) ?_
                  refine lv_if_ne (tgt := 129) hx hb d_Ord_readOrder_120 (by decide) (fun hc => absurd hc (by decide)) (fun _ => ?_)
                  refine lv_iload_n hx hb d_Ord_readOrder_123 rfl (lv_at hl 0 rfl) ?_
                  refine lv_if_ne (tgt := 129) hx hb d_Ord_readOrder_124 (by decide) (fun hc => absurd hc (by decide)) (fun _ => ?_)
                  refine lv_iconst (v := 0) hx hb d_Ord_readOrder_127 (by decide) ?_
                  exact r_zret hx hb hr hlocks rfl hP hD hS d_Ord_readOrder_128 h
                · have h := h.1 hc
                  refine lv_iconst (v := 1) hx hb d_Ord_readOrder_113 (by decide) ?_
                  refine lv_goto (tgt := 118) hx hb d_Ord_readOrder_114 (by decide) ?_
                  refine lv_istore_n (lv' := [(2, .int 1), (1, .int 0), (0, .ref (ad 0))]) hx hb d_Ord_readOrder_118 rfl hl (by decide) rfl (fun ls hl => ?_)
                  refine lv_iload_n hx hb d_Ord_readOrder_119 rfl (lv_at hl 1 rfl) ?_
                  refine lv_if_ne (tgt := 129) hx hb d_Ord_readOrder_120 (by decide) (fun hc => absurd hc (by decide)) (fun _ => ?_)
                  refine lv_iload_n hx hb d_Ord_readOrder_123 rfl (lv_at hl 0 rfl) ?_
                  refine lv_if_ne (tgt := 129) hx hb d_Ord_readOrder_124 (by decide) (fun _ => ?_) (fun hc => absurd hc (by decide))
                  refine lv_aload_n hx hb d_Ord_readOrder_129 rfl (lv_at hl 2 rfl) ?_
                  refine lv_dup hx hb d_Ord_readOrder_130 rfl ?_
                  refine gO_Ord_at hx hb hts hown hK hP tb_232 d_Ord_readOrder_131 ?_
                  refine lv_iconst (v := 1) hx hb d_Ord_readOrder_134 (by decide) ?_
                  refine lv_iadd hx hb d_Ord_readOrder_135 ?_
                  refine pO_Ord_at hx hb hts hown hK hP hD hS tb_232 d_Ord_readOrder_136 (fun u25 H locs eu25 hP hD hS => ?_)
                  have h := h u25 eu25
                  refine lv_iload_n hx hb d_Ord_readOrder_139 rfl (lv_at hl 0 rfl) ?_
                  refine lv_if_eq (tgt := 145) hx hb d_Ord_readOrder_140 (by decide) (fun hc => absurd hc (by decide)) (fun _ => ?_)
                  refine lv_iconst (v := 1) hx hb d_Ord_readOrder_143 (by decide) ?_
                  exact r_zret hx hb hr hlocks rfl hP hD hS d_Ord_readOrder_144 h
          · have h := h.1 hc
            refine lv_iconst (v := 1) hx hb d_Ord_readOrder_80 (by decide) ?_
            refine lv_goto (tgt := 85) hx hb d_Ord_readOrder_81 (by decide) ?_
            refine lv_istore_n (lv' := [(1, .int 1), (0, .ref (ad 0))]) hx hb d_Ord_readOrder_85 rfl hl (by decide) rfl (fun ls hl => ?_)
            refine lv_aload_n hx hb d_Ord_readOrder_86 rfl (lv_at hl 1 rfl) ?_
            refine gO_Ord_sign hx hb hts hown hK hP tb_234 d_Ord_readOrder_87 ?_
            refine lv_bipush (v := 120) hx hb d_Ord_readOrder_90 (by decide) ?_
            refine lv_icmp_eq (tgt := 113) hx hb d_Ord_readOrder_92 (by decide) (fun hc => ?_) (fun hc => ?_)
            · have h := h.1 hc
              refine lv_iconst (v := 1) hx hb d_Ord_readOrder_113 (by decide) ?_
              refine lv_goto (tgt := 118) hx hb d_Ord_readOrder_114 (by decide) ?_
              refine lv_istore_n (lv' := [(2, .int 1), (1, .int 1), (0, .ref (ad 0))]) hx hb d_Ord_readOrder_118 rfl hl (by decide) rfl (fun ls hl => ?_)
              refine lv_iload_n hx hb d_Ord_readOrder_119 rfl (lv_at hl 1 rfl) ?_
              refine lv_if_ne (tgt := 129) hx hb d_Ord_readOrder_120 (by decide) (fun _ => ?_) (fun hc => absurd hc (by decide))
              refine lv_aload_n hx hb d_Ord_readOrder_129 rfl (lv_at hl 2 rfl) ?_
              refine lv_dup hx hb d_Ord_readOrder_130 rfl ?_
              refine gO_Ord_at hx hb hts hown hK hP tb_232 d_Ord_readOrder_131 ?_
              refine lv_iconst (v := 1) hx hb d_Ord_readOrder_134 (by decide) ?_
              refine lv_iadd hx hb d_Ord_readOrder_135 ?_
              refine pO_Ord_at hx hb hts hown hK hP hD hS tb_232 d_Ord_readOrder_136 (fun u26 H locs eu26 hP hD hS => ?_)
              have h := h u26 eu26
              refine lv_iload_n hx hb d_Ord_readOrder_139 rfl (lv_at hl 0 rfl) ?_
              refine lv_if_eq (tgt := 145) hx hb d_Ord_readOrder_140 (by decide) (fun hc => absurd hc (by decide)) (fun _ => ?_)
              refine lv_iconst (v := 1) hx hb d_Ord_readOrder_143 (by decide) ?_
              exact r_zret hx hb hr hlocks rfl hP hD hS d_Ord_readOrder_144 h
            · have h := h.2 hc
              refine lv_aload_n hx hb d_Ord_readOrder_95 rfl (lv_at hl 1 rfl) ?_
              refine gO_Ord_sign hx hb hts hown hK hP tb_234 d_Ord_readOrder_96 ?_
              refine lv_bipush (v := 108) hx hb d_Ord_readOrder_99 (by decide) ?_
              refine lv_icmp_eq (tgt := 113) hx hb d_Ord_readOrder_101 (by decide) (fun hc => ?_) (fun hc => ?_)
              · have h := h.1 hc
                refine lv_iconst (v := 1) hx hb d_Ord_readOrder_113 (by decide) ?_
                refine lv_goto (tgt := 118) hx hb d_Ord_readOrder_114 (by decide) ?_
                refine lv_istore_n (lv' := [(2, .int 1), (1, .int 1), (0, .ref (ad 0))]) hx hb d_Ord_readOrder_118 rfl hl (by decide) rfl (fun ls hl => ?_)
                refine lv_iload_n hx hb d_Ord_readOrder_119 rfl (lv_at hl 1 rfl) ?_
                refine lv_if_ne (tgt := 129) hx hb d_Ord_readOrder_120 (by decide) (fun _ => ?_) (fun hc => absurd hc (by decide))
                refine lv_aload_n hx hb d_Ord_readOrder_129 rfl (lv_at hl 2 rfl) ?_
                refine lv_dup hx hb d_Ord_readOrder_130 rfl ?_
                refine gO_Ord_at hx hb hts hown hK hP tb_232 d_Ord_readOrder_131 ?_
                refine lv_iconst (v := 1) hx hb d_Ord_readOrder_134 (by decide) ?_
                refine lv_iadd hx hb d_Ord_readOrder_135 ?_
                refine pO_Ord_at hx hb hts hown hK hP hD hS tb_232 d_Ord_readOrder_136 (fun u27 H locs eu27 hP hD hS => ?_)
                have h := h u27 eu27
                refine lv_iload_n hx hb d_Ord_readOrder_139 rfl (lv_at hl 0 rfl) ?_
                refine lv_if_eq (tgt := 145) hx hb d_Ord_readOrder_140 (by decide) (fun hc => absurd hc (by decide)) (fun _ => ?_)
                refine lv_iconst (v := 1) hx hb d_Ord_readOrder_143 (by decide) ?_
                exact r_zret hx hb hr hlocks rfl hP hD hS d_Ord_readOrder_144 h
              · have h := h.2 hc
                refine lv_aload_n hx hb d_Ord_readOrder_104 rfl (lv_at hl 1 rfl) ?_
                refine gO_Ord_sign hx hb hts hown hK hP tb_234 d_Ord_readOrder_105 ?_
                refine lv_bipush (v := 102) hx hb d_Ord_readOrder_108 (by decide) ?_
                refine lv_icmp_ne (tgt := 117) hx hb d_Ord_readOrder_110 (by decide) (fun hc => ?_) (fun hc => ?_)
                · have h := h.2 hc
                  refine lv_iconst (v := 0) hx hb d_Ord_readOrder_117 (by decide) ?_
                  refine lv_istore_n (lv' := [(2, .int 0), (1, .int 1), (0, .ref (ad 0))]) hx hb d_Ord_readOrder_118 rfl hl (by decide) rfl (fun ls hl => ?_)
                  refine lv_iload_n hx hb d_Ord_readOrder_119 rfl (lv_at hl 1 rfl) ?_
                  refine lv_if_ne (tgt := 129) hx hb d_Ord_readOrder_120 (by decide) (fun _ => ?_) (fun hc => absurd hc (by decide))
                  refine lv_aload_n hx hb d_Ord_readOrder_129 rfl (lv_at hl 2 rfl) ?_
                  refine lv_dup hx hb d_Ord_readOrder_130 rfl ?_
                  refine gO_Ord_at hx hb hts hown hK hP tb_232 d_Ord_readOrder_131 ?_
                  refine lv_iconst (v := 1) hx hb d_Ord_readOrder_134 (by decide) ?_
                  refine lv_iadd hx hb d_Ord_readOrder_135 ?_
                  refine pO_Ord_at hx hb hts hown hK hP hD hS tb_232 d_Ord_readOrder_136 (fun u28 H locs eu28 hP hD hS => ?_)
                  have h := h u28 eu28
                  refine lv_iload_n hx hb d_Ord_readOrder_139 rfl (lv_at hl 0 rfl) ?_
                  refine lv_if_eq (tgt := 145) hx hb d_Ord_readOrder_140 (by decide) (fun _ => ?_) (fun hc => absurd hc (by decide))
                  refine lv_aload_n hx hb d_Ord_readOrder_145 rfl (lv_at hl 2 rfl) ?_
                  refine lv_aload_n hx hb d_Ord_readOrder_146 rfl (lv_at hl 2 rfl) ?_
                  refine call_Vi1 (own := "HamperClub$Orders") (As := []) (rest := [.ref (ad 0)]) (q0 := 0) (ci := 5) hx hb hml hts hown hK hA hP hD hS ok_Ord_68 rfl ⟨Nat.le_of_ble_eq_true rfl, Nat.le_of_ble_eq_true rfl⟩ ⟨Nat.le_of_ble_eq_true rfl, Nat.le_of_ble_eq_true rfl⟩ rfl rfl rfl hl.1 rfl (Nat.le_of_ble_eq_true rfl) d_Ord_readOrder_147 (c_Ord_readNumber l G ad _ u28  _ h) (fun x30 u29 H locs h hP hD hS => ?_)
                  refine pO_Ord_number hx hb hts hown hK hP hD hS tb_235 d_Ord_readOrder_150 (fun u31 H locs eu31 hP hD hS => ?_)
                  have h := h u31 eu31
                  refine lv_aload_n hx hb d_Ord_readOrder_153 rfl (lv_at hl 2 rfl) ?_
                  refine gO_Ord_number hx hb hts hown hK hP tb_235 d_Ord_readOrder_154 ?_
                  refine lv_iconst (v := (-1)) hx hb d_Ord_readOrder_157 (by decide) ?_
                  refine lv_icmp_eq (tgt := 165) hx hb d_Ord_readOrder_158 (by decide) (fun hc => ?_) (fun hc => ?_)
                  · have h := h.1 hc
                    refine lv_iconst (v := 0) hx hb d_Ord_readOrder_165 (by decide) ?_
                    exact r_zret hx hb hr hlocks rfl hP hD hS d_Ord_readOrder_166 h
                  · have h := h.2 hc
                    refine lv_iconst (v := 1) hx hb d_Ord_readOrder_161 (by decide) ?_
                    refine lv_goto (tgt := 166) hx hb d_Ord_readOrder_162 (by decide) ?_
                    exact r_zret hx hb hr hlocks rfl hP hD hS d_Ord_readOrder_166 h
                · have h := h.1 hc
                  refine lv_iconst (v := 1) hx hb d_Ord_readOrder_113 (by decide) ?_
                  refine lv_goto (tgt := 118) hx hb d_Ord_readOrder_114 (by decide) ?_
                  refine lv_istore_n (lv' := [(2, .int 1), (1, .int 1), (0, .ref (ad 0))]) hx hb d_Ord_readOrder_118 rfl hl (by decide) rfl (fun ls hl => ?_)
                  refine lv_iload_n hx hb d_Ord_readOrder_119 rfl (lv_at hl 1 rfl) ?_
                  refine lv_if_ne (tgt := 129) hx hb d_Ord_readOrder_120 (by decide) (fun _ => ?_) (fun hc => absurd hc (by decide))
                  refine lv_aload_n hx hb d_Ord_readOrder_129 rfl (lv_at hl 2 rfl) ?_
                  refine lv_dup hx hb d_Ord_readOrder_130 rfl ?_
                  refine gO_Ord_at hx hb hts hown hK hP tb_232 d_Ord_readOrder_131 ?_
                  refine lv_iconst (v := 1) hx hb d_Ord_readOrder_134 (by decide) ?_
                  refine lv_iadd hx hb d_Ord_readOrder_135 ?_
                  refine pO_Ord_at hx hb hts hown hK hP hD hS tb_232 d_Ord_readOrder_136 (fun u32 H locs eu32 hP hD hS => ?_)
                  have h := h u32 eu32
                  refine lv_iload_n hx hb d_Ord_readOrder_139 rfl (lv_at hl 0 rfl) ?_
                  refine lv_if_eq (tgt := 145) hx hb d_Ord_readOrder_140 (by decide) (fun hc => absurd hc (by decide)) (fun _ => ?_)
                  refine lv_iconst (v := 1) hx hb d_Ord_readOrder_143 (by decide) ?_
                  exact r_zret hx hb hr hlocks rfl hP hD hS d_Ord_readOrder_144 h
    · have h := h.1 hc
      refine lv_iconst (v := 0) hx hb d_Ord_readOrder_43 (by decide) ?_
      exact r_zret hx hb hr hlocks rfl hP hD hS d_Ord_readOrder_44 h
  · have h := h.1 hc
    refine lv_aload_n hx hb d_Ord_readOrder_9 rfl (lv_at hl 0 rfl) ?_
    refine lv_bipush (v := 119) hx hb d_Ord_readOrder_10 (by decide) ?_
    refine pO_Ord_sign hx hb hts hown hK hP hD hS tb_234 d_Ord_readOrder_12 (fun u33 H locs eu33 hP hD hS => ?_)
    have h := h u33 eu33
    refine lv_aload_n hx hb d_Ord_readOrder_15 rfl (lv_at hl 0 rfl) ?_
    refine lv_dup hx hb d_Ord_readOrder_16 rfl ?_
    refine gO_Ord_at hx hb hts hown hK hP tb_232 d_Ord_readOrder_17 ?_
    refine lv_iconst (v := 1) hx hb d_Ord_readOrder_20 (by decide) ?_
    refine lv_iadd hx hb d_Ord_readOrder_21 ?_
    refine pO_Ord_at hx hb hts hown hK hP hD hS tb_232 d_Ord_readOrder_22 (fun u34 H locs eu34 hP hD hS => ?_)
    have h := h u34 eu34
    refine lv_iconst (v := 1) hx hb d_Ord_readOrder_25 (by decide) ?_
    exact r_zret hx hb hr hlocks rfl hP hD hS d_Ord_readOrder_26 h
def wl_Ord_fault_7 (Post : Int32 → OS → Prop) (K : OS → Prop) : Nat → Int32 → OS → Prop
  | 0, _ => fun _ => False
  | n + 1, a1 => fun u2 => ((100 ≤ a1 → K  u2) ∧ (¬ 100 ≤ a1 → (wp_Ord_readOrder u2  (fun x4 u3 => ((x4 = 0 → Post (u3.1 1) u3) ∧ (¬ x4 = 0 → (((u3.1 1) < (u3.1 0) → (vp_in (u3.1 1) 100 ∧ (((u3.2 (u3.1 1).toNatClampNeg) = 59 → (∀ u5 : OS, u5 = (oS u3 1 ((u3.1 1) + 1)) → (∀ x6 : Int32, x6 = a1 + 1 → wl_Ord_fault_7 Post K n x6 u5))) ∧ (¬ (u3.2 (u3.1 1).toNatClampNeg) = 59 → Post (u3.1 1) u3)))) ∧ (¬ (u3.1 1) < (u3.1 0) → Post (-1) u3))))))))
def wp_Ord_fault (u : OS) (Post : Int32 → OS → Prop) : Prop := (∀ u1 : OS, u1 = (oS u 1 0) → (∃ k8 : Nat, wl_Ord_fault_7 Post (fun u7 => Post (u7.1 1) u7) k8 0 u1))
theorem ok_Ord_22 : CallOk y_Ord_readOrder b_Ord_readOrder 3 (some .boolean) 2 0 "HamperClub$Orders" 22 := ⟨tb_630, tb_632, sl_7, tb_11, tb_633, by decide +kernel⟩
set_option maxHeartbeats 4000000 in
set_option maxRecDepth 100000 in
theorem x_Ord_fault_7 {p : Program} {l : Launch} {e : Env} {s : State} {m : MethodId} {args : Array Value} {below : List Frame} {meth : Method} {c : Code} {A : Nat → Prop} {G : GG} {ad : Nat → Nat} {Post : Int32 → OS → Prop} {K : OS → Prop} {Q : State → Prop}
    (hx : p.tables.exec = Jvm.exec) (hb : c.code = b_Ord_fault) (hr : meth.sig.returnType = some .int) (hts : ∀ w ∈ Tg, w.before args s = true) (hown : s.vm.findClass "HamperClub$Orders" = some m.cls) (hml : c.maxLocals = 2) (hlocks : meth.locks = false) (hA : ∀ q, s.heap.size ≤ q → A q) (hK : KN G s)
    (hQ : Q = MQ below (va_Qi Post (BW G A (ordW G ad)) A) args s 0 0 A)
    (kk : ∀ (u : OS), K  u → ∀ (H : Heap) (locs : List Loc) (ls : Array Slot), va_P G.1 classes (ordW G ad u) H → va_D A (ordW G ad u) → va_S A s.heap H locs → lv_has ls 2 [(0, .ref (ad 0))] → W p l e (rmK 3) s m args below meth c H locs 0 0 Q (F0 m 73 ls [])) :
    ∀ (n : Nat) (a1 : Int32) (u : OS), wl_Ord_fault_7 Post K n a1 u → ∀ (H : Heap) (locs : List Loc) (ls : Array Slot), va_P G.1 classes (ordW G ad u) H → va_D A (ordW G ad u) → va_S A s.heap H locs → lv_has ls 2 [(0, .ref (ad 0)), (1, .int a1)] → W p l e (rmK 3) s m args below meth c H locs 0 0 Q (F0 m 7 ls []) := by
  subst hQ
  intro n
  induction n with
  | zero => intro a1 u h; exact h.elim
  | succ n ih =>
    intro a1 u2 h H locs ls hP hD hS hl
    unfold wl_Ord_fault_7 at h
    refine lv_iload_n hx hb d_Ord_fault_7 rfl (lv_at hl 1 rfl) ?_
    refine lv_bipush (v := 100) hx hb d_Ord_fault_8 (by decide) ?_
    refine lv_icmp_ge (tgt := 73) hx hb d_Ord_fault_10 (by decide) (fun hc => ?_) (fun hc => ?_)
    · have h := h.1 hc
      exact kk  u2 h _ _ _ hP hD hS (lv_sub hl [0] rfl)
    · have h := h.2 hc
      refine lv_aload_n hx hb d_Ord_fault_13 rfl (lv_at hl 0 rfl) ?_
      refine call_Vi1 (own := "HamperClub$Orders") (As := []) (rest := []) (q0 := 0) (ci := 5) hx hb hml hts hown hK hA hP hD hS ok_Ord_22 rfl ⟨Nat.le_of_ble_eq_true rfl, Nat.le_of_ble_eq_true rfl⟩ ⟨Nat.le_of_ble_eq_true rfl, Nat.le_of_ble_eq_true rfl⟩ rfl rfl rfl hl.1 rfl (Nat.le_of_ble_eq_true rfl) d_Ord_fault_14 (c_Ord_readOrder l G ad _ u2  _ h) (fun x4 u3 H locs h hP hD hS => ?_)
      refine lv_if_ne (tgt := 25) hx hb d_Ord_fault_17 (by decide) (fun hc => ?_) (fun hc => ?_)
      · have h := h.2 hc
        refine lv_aload_n hx hb d_Ord_fault_25 rfl (lv_at hl 0 rfl) ?_
        refine gO_Ord_at hx hb hts hown hK hP tb_232 d_Ord_fault_26 ?_
        refine lv_aload_n hx hb d_Ord_fault_29 rfl (lv_at hl 0 rfl) ?_
        refine gO_Ord_length hx hb hts hown hK hP tb_230 d_Ord_fault_30 ?_
        refine lv_icmp_lt (tgt := 38) hx hb d_Ord_fault_33 (by decide) (fun hc => ?_) (fun hc => ?_)
        · have h := h.1 hc
          refine lv_aload_n hx hb d_Ord_fault_38 rfl (lv_at hl 0 rfl) ?_
          refine gO_Ord_text hx hb hts hown hK hP tb_229 d_Ord_fault_39 ?_
          refine lv_aload_n hx hb d_Ord_fault_42 rfl (lv_at hl 0 rfl) ?_
          refine gO_Ord_at hx hb hts hown hK hP tb_232 d_Ord_fault_43 ?_
          obtain ⟨hi, h⟩ := h
          refine lO_1 hx hb hK hP hi d_Ord_fault_46 ?_
          refine lv_bipush (v := 59) hx hb d_Ord_fault_47 (by decide) ?_
          refine lv_icmp_eq (tgt := 57) hx hb d_Ord_fault_49 (by decide) (fun hc => ?_) (fun hc => ?_)
          · have h := h.1 hc
            refine lv_aload_n hx hb d_Ord_fault_57 rfl (lv_at hl 0 rfl) ?_
            refine lv_dup hx hb d_Ord_fault_58 rfl ?_
            refine gO_Ord_at hx hb hts hown hK hP tb_232 d_Ord_fault_59 ?_
            refine lv_iconst (v := 1) hx hb d_Ord_fault_62 (by decide) ?_
            refine lv_iadd hx hb d_Ord_fault_63 ?_
            refine pO_Ord_at hx hb hts hown hK hP hD hS tb_232 d_Ord_fault_64 (fun u5 H locs eu5 hP hD hS => ?_)
            have h := h u5 eu5
            obtain ⟨x6, ex6⟩ : ∃ y : Int32, y = a1 + 1 := ⟨_, rfl⟩
            have h := h x6 ex6
            refine lv_iinc (v := x6) (lv' := [(1, .int x6), (0, .ref (ad 0))]) hx hb d_Ord_fault_67 hl (k := 1) rfl (by rw [ex6]; rfl) (by decide) rfl (fun ls hl => ?_)
            refine lv_goto (tgt := 7) hx hb d_Ord_fault_70 (by decide) ?_
            exact ih x6 u5 h _ _ _ hP hD hS (lv_sub hl [1, 0] rfl)
          · have h := h.2 hc
            refine lv_aload_n hx hb d_Ord_fault_52 rfl (lv_at hl 0 rfl) ?_
            refine gO_Ord_at hx hb hts hown hK hP tb_232 d_Ord_fault_53 ?_
            exact r_iret hx hb hr hlocks hP hD hS d_Ord_fault_56 h
        · have h := h.2 hc
          refine lv_iconst (v := (-1)) hx hb d_Ord_fault_36 (by decide) ?_
          exact r_iret hx hb hr hlocks hP hD hS d_Ord_fault_37 h
      · have h := h.1 hc
        refine lv_aload_n hx hb d_Ord_fault_20 rfl (lv_at hl 0 rfl) ?_
        refine gO_Ord_at hx hb hts hown hK hP tb_232 d_Ord_fault_21 ?_
        exact r_iret hx hb hr hlocks hP hD hS d_Ord_fault_24 h
set_option maxHeartbeats 4000000 in
set_option maxRecDepth 100000 in
theorem c_Ord_fault (l : Launch) (G : GG) (ad : Nat → Nat) (sz : Nat) (u : OS) (Post : Int32 → OS → Prop) (h : wp_Ord_fault u Post) : CMi l y_Ord_fault b_Ord_fault 2 .int 3 G [.ref (ad 0)] sz (ordW G ad u) (ordW G ad) Post := by
  refine CMi.start (by decide) (Nat.le_of_ble_eq_true rfl) (fun p e s m below meth c A ls hx hb hr hts hown hml hlocks hA hS hP hD hK hl => ?_)
  unfold wp_Ord_fault at h
  have hl : lv_has ls 2 [(0, .ref (ad 0))] := hl
  refine lv_aload_n hx hb d_Ord_fault_0 rfl (lv_at hl 0 rfl) ?_
  refine lv_iconst (v := 0) hx hb d_Ord_fault_1 (by decide) ?_
  refine pO_Ord_at hx hb hts hown hK hP hD hS tb_232 d_Ord_fault_2 (fun u1 H locs eu1 hP hD hS => ?_)
  have h := h u1 eu1
  refine lv_iconst (v := 0) hx hb d_Ord_fault_5 (by decide) ?_
  refine lv_istore_n (lv' := [(1, .int 0), (0, .ref (ad 0))]) hx hb d_Ord_fault_6 rfl hl (by decide) rfl (fun ls hl => ?_)
  obtain ⟨n, h⟩ := h
  refine x_Ord_fault_7 hx hb hr hts hown hml hlocks hA hK rfl (fun u7 h H locs ls hP hD hS hl => ?_) n 0 u1 h _ _ _ hP hD hS (lv_sub hl [1, 0] rfl)
  refine lv_aload_n hx hb d_Ord_fault_73 rfl (lv_at hl 0 rfl) ?_
  refine gO_Ord_at hx hb hts hown hK hP tb_232 d_Ord_fault_74 ?_
  exact r_iret hx hb hr hlocks hP hD hS d_Ord_fault_77 h
