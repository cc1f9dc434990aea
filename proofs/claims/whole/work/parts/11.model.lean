/-! the reference -/
def wp_Mod_isSettled (u : RS) (Post : Int32 → RS → Prop) : Prop := (((u.1 (2 : Int32).toNatClampNeg) = 1 → Post 1 u) ∧ (¬ (u.1 (2 : Int32).toNatClampNeg) = 1 → Post 0 u))
set_option maxHeartbeats 4000000 in
set_option maxRecDepth 100000 in
theorem c_Mod_isSettled (l : Launch) (G : GG) (ad : Nat → Nat) (sz : Nat) (u : RS) (Post : Int32 → RS → Prop) (h : wp_Mod_isSettled u Post) : CMi l y_Mod_isSettled b_Mod_isSettled 1 .boolean 0 G [.ref (ad 0)] sz (refW G ad u) (refW G ad) Post := by
  refine CMi.start (by decide) (Nat.le_of_ble_eq_true rfl) (fun p e s m below meth c A ls hx hb hr hts hown hml hlocks hA hS hP hD hK hl => ?_)
  unfold wp_Mod_isSettled at h
  have hl : lv_has ls 1 [(0, .ref (ad 0))] := hl
  refine lv_aload_n hx hb d_Mod_isSettled_0 rfl (lv_at hl 0 rfl) ?_
  refine gR_Mod_row hx hb hts hown hK hP tb_653 d_Mod_isSettled_1 ?_
  refine lv_iconst (v := 2) hx hb d_Mod_isSettled_4 (by decide) ?_
  refine lR_1 hx hb hK hP (by unfold vp_in; decide) d_Mod_isSettled_5 ?_
  refine lv_iconst (v := 1) hx hb d_Mod_isSettled_6 (by decide) ?_
  refine lv_icmp_ne (tgt := 14) hx hb d_Mod_isSettled_7 (by decide) (fun hc => ?_) (fun hc => ?_)
  · have h := h.2 hc
    refine lv_iconst (v := 0) hx hb d_Mod_isSettled_14 (by decide) ?_
    exact r_zret hx hb hr hlocks rfl hP hD hS d_Mod_isSettled_15 h
  · have h := h.1 hc
    refine lv_iconst (v := 1) hx hb d_Mod_isSettled_10 (by decide) ?_
    refine lv_goto (tgt := 15) hx hb d_Mod_isSettled_11 (by decide) ?_
    exact r_zret hx hb hr hlocks rfl hP hD hS d_Mod_isSettled_15 h
def wl_Mod_copy_3 (Post : RS → Prop) (K : RS → Prop) : Nat → Int32 → Int32 → Int32 → Int32 → RS → Prop
  | 0, _, _, _, _ => fun _ => False
  | n + 1, a1, a2, a3, a4 => fun u1 => ((a3 ≤ a4 → K  u1) ∧ (¬ a3 ≤ a4 → (vp_in (a1 + a4) 4306 ∧ (vp_in (a2 + a4) 4306 ∧ (∀ u2 : RS, u2 = (rR u1 (upd u1.1 (a2 + a4).toNatClampNeg (u1.1 (a1 + a4).toNatClampNeg))) → (∀ x3 : Int32, x3 = a4 + 1 → wl_Mod_copy_3 Post K n a1 a2 a3 x3 u2))))))
def wp_Mod_copy (u : RS) (p1 : Int32) (p2 : Int32) (p3 : Int32) (Post : RS → Prop) : Prop := (∃ k5 : Nat, wl_Mod_copy_3 Post (fun u4 => Post u4) k5 p1 p2 p3 0 u)
set_option maxHeartbeats 4000000 in
set_option maxRecDepth 100000 in
theorem x_Mod_copy_3 {p : Program} {l : Launch} {e : Env} {s : State} {m : MethodId} {args : Array Value} {below : List Frame} {meth : Method} {c : Code} {A : Nat → Prop} {G : GG} {ad : Nat → Nat} {Post : RS → Prop} {K : RS → Prop} {Q : State → Prop}
    (hx : p.tables.exec = Jvm.exec) (hb : c.code = b_Mod_copy) (hr : meth.sig.returnType = none) (hts : ∀ w ∈ Tg, w.before args s = true) (hown : s.vm.findClass "HamperClubModel" = some m.cls) (hml : c.maxLocals = 5) (hlocks : meth.locks = false) (hA : ∀ q, s.heap.size ≤ q → A q) (hK : KN G s)
    (hQ : Q = MQ below (va_Qv Post (BW G A (refW G ad)) A) args s 0 0 A)
    (kk : ∀ (u : RS), K  u → ∀ (H : Heap) (locs : List Loc) (ls : Array Slot), va_P G.1 classes (refW G ad u) H → va_D A (refW G ad u) → va_S A s.heap H locs → lv_has ls 5 [] → W p l e (rmK 0) s m args below meth c H locs 0 0 Q (F0 m 33 ls [])) :
    ∀ (n : Nat) (a1 : Int32) (a2 : Int32) (a3 : Int32) (a4 : Int32) (u : RS), wl_Mod_copy_3 Post K n a1 a2 a3 a4 u → ∀ (H : Heap) (locs : List Loc) (ls : Array Slot), va_P G.1 classes (refW G ad u) H → va_D A (refW G ad u) → va_S A s.heap H locs → lv_has ls 5 [(0, .ref (ad 0)), (1, .int a1), (2, .int a2), (3, .int a3), (4, .int a4)] → W p l e (rmK 0) s m args below meth c H locs 0 0 Q (F0 m 3 ls []) := by
  subst hQ
  intro n
  induction n with
  | zero => intro a1 a2 a3 a4 u h; exact h.elim
  | succ n ih =>
    intro a1 a2 a3 a4 u1 h H locs ls hP hD hS hl
    unfold wl_Mod_copy_3 at h
    refine lv_iload hx hb d_Mod_copy_3 (lv_at hl 4 rfl) ?_
    refine lv_iload_n hx hb d_Mod_copy_5 rfl (lv_at hl 3 rfl) ?_
    refine lv_icmp_ge (tgt := 33) hx hb d_Mod_copy_6 (by decide) (fun hc => ?_) (fun hc => ?_)
    · have h := h.1 hc
      exact kk  u1 h _ _ _ hP hD hS (lv_sub hl [] rfl)
    · have h := h.2 hc
      refine lv_aload_n hx hb d_Mod_copy_9 rfl (lv_at hl 0 rfl) ?_
      refine gR_Mod_row hx hb hts hown hK hP tb_653 d_Mod_copy_10 ?_
      refine lv_iload_n hx hb d_Mod_copy_13 rfl (lv_at hl 2 rfl) ?_
      refine lv_iload hx hb d_Mod_copy_14 (lv_at hl 4 rfl) ?_
      refine lv_iadd hx hb d_Mod_copy_16 ?_
      refine lv_aload_n hx hb d_Mod_copy_17 rfl (lv_at hl 0 rfl) ?_
      refine gR_Mod_row hx hb hts hown hK hP tb_653 d_Mod_copy_18 ?_
      refine lv_iload_n hx hb d_Mod_copy_21 rfl (lv_at hl 1 rfl) ?_
      refine lv_iload hx hb d_Mod_copy_22 (lv_at hl 4 rfl) ?_
      refine lv_iadd hx hb d_Mod_copy_24 ?_
      obtain ⟨hi, h⟩ := h
      refine lR_1 hx hb hK hP hi d_Mod_copy_25 ?_
      obtain ⟨hi, h⟩ := h
      refine sR_1 hx hb hK hP hD hS hi d_Mod_copy_26 (fun u2 H locs eu2 hP hD hS => ?_)
      have h := h u2 eu2
      obtain ⟨x3, ex3⟩ : ∃ y : Int32, y = a4 + 1 := ⟨_, rfl⟩
      have h := h x3 ex3
      refine lv_iinc (v := x3) (lv' := [(4, .int x3), (0, .ref (ad 0)), (1, .int a1), (2, .int a2), (3, .int a3)]) hx hb d_Mod_copy_27 hl (k := 4) rfl (by rw [ex3]; rfl) (by decide) rfl (fun ls hl => ?_)
      refine lv_goto (tgt := 3) hx hb d_Mod_copy_30 (by decide) ?_
      exact ih a1 a2 a3 x3 u2 h _ _ _ hP hD hS (lv_sub hl [1, 2, 3, 4, 0] rfl)
set_option maxHeartbeats 4000000 in
set_option maxRecDepth 100000 in
theorem c_Mod_copy (l : Launch) (G : GG) (ad : Nat → Nat) (sz : Nat) (u : RS) (p1 : Int32) (p2 : Int32) (p3 : Int32) (Post : RS → Prop) (h : wp_Mod_copy u p1 p2 p3 Post) : CMv l y_Mod_copy b_Mod_copy 5 0 G [.ref (ad 0), .int p1, .int p2, .int p3] sz (refW G ad u) (refW G ad) Post := by
  refine CMv.start (by decide) (Nat.le_of_ble_eq_true rfl) (fun p e s m below meth c A ls hx hb hr hts hown hml hlocks hA hS hP hD hK hl => ?_)
  unfold wp_Mod_copy at h
  have hl : lv_has ls 5 [(0, .ref (ad 0)), (1, .int p1), (2, .int p2), (3, .int p3)] := hl
  refine lv_iconst (v := 0) hx hb d_Mod_copy_0 (by decide) ?_
  refine lv_istore (lv' := [(4, .int 0), (0, .ref (ad 0)), (1, .int p1), (2, .int p2), (3, .int p3)]) hx hb d_Mod_copy_1 hl (by decide) rfl (fun ls hl => ?_)
  obtain ⟨n, h⟩ := h
  refine x_Mod_copy_3 hx hb hr hts hown hml hlocks hA hK rfl (fun u4 h H locs ls hP hD hS hl => ?_) n p1 p2 p3 0 u h _ _ _ hP hD hS (lv_sub hl [1, 2, 3, 4, 0] rfl)
  exact r_vret hx hb hr hlocks hP hD hS d_Mod_copy_33 h
def wp_Mod_clearText (u : RS) (Post : Int32 → RS → Prop) : Prop := (∀ x1 : Int32, x1 = (u.2.2.2 1) → (∀ u2 : RS, u2 = (rS u 1 0) → Post x1 u2))
set_option maxHeartbeats 4000000 in
set_option maxRecDepth 100000 in
theorem c_Mod_clearText (l : Launch) (G : GG) (ad : Nat → Nat) (sz : Nat) (u : RS) (Post : Int32 → RS → Prop) (h : wp_Mod_clearText u Post) : CMi l y_Mod_clearText b_Mod_clearText 2 .int 0 G [.ref (ad 0)] sz (refW G ad u) (refW G ad) Post := by
  refine CMi.start (by decide) (Nat.le_of_ble_eq_true rfl) (fun p e s m below meth c A ls hx hb hr hts hown hml hlocks hA hS hP hD hK hl => ?_)
  unfold wp_Mod_clearText at h
  have hl : lv_has ls 2 [(0, .ref (ad 0))] := hl
  refine lv_aload_n hx hb d_Mod_clearText_0 rfl (lv_at hl 0 rfl) ?_
  refine gR_Mod_length hx hb hts hown hK hP tb_656 d_Mod_clearText_1 ?_
  refine lv_topi (fun x1 ex1 => ?_)
  have h := h x1 ex1
  refine lv_istore_n (lv' := [(1, .int x1), (0, .ref (ad 0))]) hx hb d_Mod_clearText_4 rfl hl (by decide) rfl (fun ls hl => ?_)
  refine lv_aload_n hx hb d_Mod_clearText_5 rfl (lv_at hl 1 rfl) ?_
  refine lv_iconst (v := 0) hx hb d_Mod_clearText_6 (by decide) ?_
  refine pR_Mod_length hx hb hts hown hK hP hD hS tb_656 d_Mod_clearText_7 (fun u2 H locs eu2 hP hD hS => ?_)
  have h := h u2 eu2
  refine lv_iload_n hx hb d_Mod_clearText_10 rfl (lv_at hl 0 rfl) ?_
  exact r_iret hx hb hr hlocks hP hD hS d_Mod_clearText_11 h
def wp_Mod_code (u : RS) (Post : Int32 → RS → Prop) : Prop := (((u.2.2.2 1) ≤ (u.2.2.2 2) → Post 0 u) ∧ (¬ (u.2.2.2 1) ≤ (u.2.2.2 2) → (vp_in (u.2.2.2 2) 100 ∧ Post (u.2.1 (u.2.2.2 2).toNatClampNeg) u)))
set_option maxHeartbeats 4000000 in
set_option maxRecDepth 100000 in
theorem c_Mod_code (l : Launch) (G : GG) (ad : Nat → Nat) (sz : Nat) (u : RS) (Post : Int32 → RS → Prop) (h : wp_Mod_code u Post) : CMi l y_Mod_code b_Mod_code 1 .int 0 G [.ref (ad 0)] sz (refW G ad u) (refW G ad) Post := by
  refine CMi.start (by decide) (Nat.le_of_ble_eq_true rfl) (fun p e s m below meth c A ls hx hb hr hts hown hml hlocks hA hS hP hD hK hl => ?_)
  unfold wp_Mod_code at h
  have hl : lv_has ls 1 [(0, .ref (ad 0))] := hl
  refine lv_aload_n hx hb d_Mod_code_0 rfl (lv_at hl 0 rfl) ?_
  refine gR_Mod_pos hx hb hts hown hK hP tb_658 d_Mod_code_1 ?_
  refine lv_aload_n hx hb d_Mod_code_4 rfl (lv_at hl 0 rfl) ?_
  refine gR_Mod_length hx hb hts hown hK hP tb_656 d_Mod_code_5 ?_
  refine lv_icmp_ge (tgt := 23) hx hb d_Mod_code_8 (by decide) (fun hc => ?_) (fun hc => ?_)
  · have h := h.1 hc
    refine lv_iconst (v := 0) hx hb d_Mod_code_23 (by decide) ?_
    exact r_iret hx hb hr hlocks hP hD hS d_Mod_code_24 h
  · have h := h.2 hc
    refine lv_aload_n hx hb d_Mod_code_11 rfl (lv_at hl 0 rfl) ?_
    refine gR_Mod_text hx hb hts hown hK hP tb_655 d_Mod_code_12 ?_
    refine lv_aload_n hx hb d_Mod_code_15 rfl (lv_at hl 0 rfl) ?_
    refine gR_Mod_pos hx hb hts hown hK hP tb_658 d_Mod_code_16 ?_
    obtain ⟨hi, h⟩ := h
    refine lR_2 hx hb hK hP hi d_Mod_code_19 ?_
    refine lv_goto (tgt := 24) hx hb d_Mod_code_20 (by decide) ?_
    exact r_iret hx hb hr hlocks hP hD hS d_Mod_code_24 h
def wp_Mod_isMember (u : RS) (p1 : Int32) (Post : Int32 → RS → Prop) : Prop := (((pf_Mod_in p1 0 ((u.1 (1 : Int32).toNatClampNeg) - 1)) = 0 ∨ (pf_Mod_in p1 0 ((u.1 (1 : Int32).toNatClampNeg) - 1)) = 1) ∧ Post (pf_Mod_in p1 0 ((u.1 (1 : Int32).toNatClampNeg) - 1)) u)
set_option maxHeartbeats 4000000 in
set_option maxRecDepth 100000 in
theorem c_Mod_isMember (l : Launch) (G : GG) (ad : Nat → Nat) (sz : Nat) (u : RS) (p1 : Int32) (Post : Int32 → RS → Prop) (h : wp_Mod_isMember u p1 Post) : CMi l y_Mod_isMember b_Mod_isMember 2 .boolean 1 G [.ref (ad 0), .int p1] sz (refW G ad u) (refW G ad) Post := by
  refine CMi.start (by decide) (Nat.le_of_ble_eq_true rfl) (fun p e s m below meth c A ls hx hb hr hts hown hml hlocks hA hS hP hD hK hl => ?_)
  unfold wp_Mod_isMember at h
  have hl : lv_has ls 2 [(0, .ref (ad 0)), (1, .int p1)] := hl
  refine lv_iload_n hx hb d_Mod_isMember_0 rfl (lv_at hl 1 rfl) ?_
  refine lv_iconst (v := 0) hx hb d_Mod_isMember_1 (by decide) ?_
  refine lv_aload_n hx hb d_Mod_isMember_2 rfl (lv_at hl 0 rfl) ?_
  refine gR_Mod_row hx hb hts hown hK hP tb_653 d_Mod_isMember_3 ?_
  refine lv_iconst (v := 1) hx hb d_Mod_isMember_6 (by decide) ?_
  refine lR_1 hx hb hK hP (by unfold vp_in; decide) d_Mod_isMember_7 ?_
  refine lv_iconst (v := 1) hx hb d_Mod_isMember_8 (by decide) ?_
  refine lv_isub hx hb d_Mod_isMember_9 ?_
  refine call_S (As := [.int p1, .int 0, .int ((u.1 (1 : Int32).toNatClampNeg) - 1)]) (rest := []) hx hb hml hts hown so_Mod_24 rfl ⟨Nat.le_of_ble_eq_true rfl, Nat.le_of_ble_eq_true rfl⟩ ⟨Nat.le_of_ble_eq_true rfl, Nat.le_of_ble_eq_true rfl⟩ hl.1 rfl (Nat.le_of_ble_eq_true rfl) d_Mod_isMember_10 (k_Mod_in l p1 0 ((u.1 (1 : Int32).toNatClampNeg) - 1)) ?_
  obtain ⟨hz, h⟩ := h
  exact r_zret hx hb hr hlocks (by rcases hz with hz | hz <;> rw [hz] <;> rfl) hP hD hS d_Mod_isMember_13 h
def wl_Mod_record_10 (Post : RS → Prop) (K : RS → Prop) : Nat → Int32 → RS → Prop
  | 0, _ => fun _ => False
  | n + 1, a1 => fun u3 => ((5 ≤ a1 → K  u3) ∧ (¬ 5 ≤ a1 → (wp_Mod_copy u3 (680 + (680 * a1)) (680 * a1) 680 (fun u4 => (∀ x5 : Int32, x5 = a1 + 1 → wl_Mod_record_10 Post K n x5 u4)))))
def wp_Mod_record (u : RS) (Post : RS → Prop) : Prop := (((u.2.2.2 0) = 5 → (∃ k10 : Nat, wl_Mod_record_10 Post (fun u6 => (∀ u7 : RS, u7 = (rS u6 0 ((u6.2.2.2 0) - 1)) → (wp_Mod_copy u7 0 (680 + (680 * (u7.2.2.2 0))) 680 (fun u8 => (∀ u9 : RS, u9 = (rS u8 0 ((u8.2.2.2 0) + 1)) → Post u9))))) k10 1 u)) ∧ (¬ (u.2.2.2 0) = 5 → (wp_Mod_copy u 0 (680 + (680 * (u.2.2.2 0))) 680 (fun u1 => (∀ u2 : RS, u2 = (rS u1 0 ((u1.2.2.2 0) + 1)) → Post u2)))))
theorem ok_Mod_32 : CallOk y_Mod_copy b_Mod_copy 5 none 0 3 "HamperClubModel" 32 := ⟨tb_686, tb_688, sl_11, tb_12, tb_689, by decide +kernel⟩
set_option maxHeartbeats 4000000 in
set_option maxRecDepth 100000 in
theorem x_Mod_record_10 {p : Program} {l : Launch} {e : Env} {s : State} {m : MethodId} {args : Array Value} {below : List Frame} {meth : Method} {c : Code} {A : Nat → Prop} {G : GG} {ad : Nat → Nat} {Post : RS → Prop} {K : RS → Prop} {Q : State → Prop}
    (hx : p.tables.exec = Jvm.exec) (hb : c.code = b_Mod_record) (hr : meth.sig.returnType = none) (hts : ∀ w ∈ Tg, w.before args s = true) (hown : s.vm.findClass "HamperClubModel" = some m.cls) (hml : c.maxLocals = 2) (hlocks : meth.locks = false) (hA : ∀ q, s.heap.size ≤ q → A q) (hK : KN G s)
    (hQ : Q = MQ below (va_Qv Post (BW G A (refW G ad)) A) args s 0 0 A)
    (kk : ∀ (u : RS), K  u → ∀ (H : Heap) (locs : List Loc) (ls : Array Slot), va_P G.1 classes (refW G ad u) H → va_D A (refW G ad u) → va_S A s.heap H locs → lv_has ls 2 [(0, .ref (ad 0))] → W p l e (rmK 1) s m args below meth c H locs 0 0 Q (F0 m 42 ls [])) :
    ∀ (n : Nat) (a1 : Int32) (u : RS), wl_Mod_record_10 Post K n a1 u → ∀ (H : Heap) (locs : List Loc) (ls : Array Slot), va_P G.1 classes (refW G ad u) H → va_D A (refW G ad u) → va_S A s.heap H locs → lv_has ls 2 [(0, .ref (ad 0)), (1, .int a1)] → W p l e (rmK 1) s m args below meth c H locs 0 0 Q (F0 m 10 ls []) := by
  subst hQ
  intro n
  induction n with
  | zero => intro a1 u h; exact h.elim
  | succ n ih =>
    intro a1 u3 h H locs ls hP hD hS hl
    unfold wl_Mod_record_10 at h
    refine lv_iload_n hx hb d_Mod_record_10 rfl (lv_at hl 1 rfl) ?_
    refine lv_iconst (v := 5) hx hb d_Mod_record_11 (by decide) ?_
    refine lv_icmp_ge (tgt := 42) hx hb d_Mod_record_12 (by decide) (fun hc => ?_) (fun hc => ?_)
    · have h := h.1 hc
      exact kk  u3 h _ _ _ hP hD hS (lv_sub hl [0] rfl)
    · have h := h.2 hc
      refine lv_aload_n hx hb d_Mod_record_15 rfl (lv_at hl 0 rfl) ?_
      refine lv_sipush (v := 680) hx hb d_Mod_record_16 (by decide) ?_
      refine lv_sipush (v := 680) hx hb d_Mod_record_19 (by decide) ?_
      refine lv_iload_n hx hb d_Mod_record_22 rfl (lv_at hl 1 rfl) ?_
      refine lv_imul hx hb d_Mod_record_23 ?_
      refine lv_iadd hx hb d_Mod_record_24 ?_
      refine lv_sipush (v := 680) hx hb d_Mod_record_25 (by decide) ?_
      refine lv_iload_n hx hb d_Mod_record_28 rfl (lv_at hl 1 rfl) ?_
      refine lv_imul hx hb d_Mod_record_29 ?_
      refine lv_sipush (v := 680) hx hb d_Mod_record_30 (by decide) ?_
      refine call_Vv1 (own := "HamperClubModel") (As := [.int (680 + (680 * a1)), .int (680 * a1), .int 680]) (rest := []) (q0 := 0) (ci := 9) hx hb hml hts hown hK hA hP hD hS ok_Mod_32 rfl ⟨Nat.le_of_ble_eq_true rfl, Nat.le_of_ble_eq_true rfl⟩ ⟨Nat.le_of_ble_eq_true rfl, Nat.le_of_ble_eq_true rfl⟩ rfl rfl rfl hl.1 rfl (Nat.le_of_ble_eq_true rfl) d_Mod_record_33 (c_Mod_copy l G ad _ u3 (680 + (680 * a1)) (680 * a1) 680 _ h) (fun u4 H locs h hP hD hS => ?_)
      obtain ⟨x5, ex5⟩ : ∃ y : Int32, y = a1 + 1 := ⟨_, rfl⟩
      have h := h x5 ex5
      refine lv_iinc (v := x5) (lv' := [(1, .int x5), (0, .ref (ad 0))]) hx hb d_Mod_record_36 hl (k := 1) rfl (by rw [ex5]; rfl) (by decide) rfl (fun ls hl => ?_)
      refine lv_goto (tgt := 10) hx hb d_Mod_record_39 (by decide) ?_
      exact ih x5 u4 h _ _ _ hP hD hS (lv_sub hl [1, 0] rfl)
set_option maxHeartbeats 4000000 in
set_option maxRecDepth 100000 in
theorem c_Mod_record (l : Launch) (G : GG) (ad : Nat → Nat) (sz : Nat) (u : RS) (Post : RS → Prop) (h : wp_Mod_record u Post) : CMv l y_Mod_record b_Mod_record 2 1 G [.ref (ad 0)] sz (refW G ad u) (refW G ad) Post := by
  refine CMv.start (by decide) (Nat.le_of_ble_eq_true rfl) (fun p e s m below meth c A ls hx hb hr hts hown hml hlocks hA hS hP hD hK hl => ?_)
  unfold wp_Mod_record at h
  have hl : lv_has ls 2 [(0, .ref (ad 0))] := hl
  refine lv_aload_n hx hb d_Mod_record_0 rfl (lv_at hl 0 rfl) ?_
  refine gR_Mod_states hx hb hts hown hK hP tb_654 d_Mod_record_1 ?_
  refine lv_iconst (v := 5) hx hb d_Mod_record_4 (by decide) ?_
  refine lv_icmp_ne (tgt := 52) hx hb d_Mod_record_5 (by decide) (fun hc => ?_) (fun hc => ?_)
  · have h := h.2 hc
    refine lv_aload_n hx hb d_Mod_record_52 rfl (lv_at hl 0 rfl) ?_
    refine lv_iconst (v := 0) hx hb d_Mod_record_53 (by decide) ?_
    refine lv_sipush (v := 680) hx hb d_Mod_record_54 (by decide) ?_
    refine lv_sipush (v := 680) hx hb d_Mod_record_57 (by decide) ?_
    refine lv_aload_n hx hb d_Mod_record_60 rfl (lv_at hl 0 rfl) ?_
    refine gR_Mod_states hx hb hts hown hK hP tb_654 d_Mod_record_61 ?_
    refine lv_imul hx hb d_Mod_record_64 ?_
    refine lv_iadd hx hb d_Mod_record_65 ?_
    refine lv_sipush (v := 680) hx hb d_Mod_record_66 (by decide) ?_
    refine call_Vv1 (own := "HamperClubModel") (As := [.int 0, .int (680 + (680 * (u.2.2.2 0))), .int 680]) (rest := []) (q0 := 0) (ci := 9) hx hb hml hts hown hK hA hP hD hS ok_Mod_32 rfl ⟨Nat.le_of_ble_eq_true rfl, Nat.le_of_ble_eq_true rfl⟩ ⟨Nat.le_of_ble_eq_true rfl, Nat.le_of_ble_eq_true rfl⟩ rfl rfl rfl hl.1 rfl (Nat.le_of_ble_eq_true rfl) d_Mod_record_69 (c_Mod_copy l G ad _ u 0 (680 + (680 * (u.2.2.2 0))) 680 _ h) (fun u1 H locs h hP hD hS => ?_)
    refine lv_aload_n hx hb d_Mod_record_72 rfl (lv_at hl 0 rfl) ?_
    refine lv_dup hx hb d_Mod_record_73 rfl ?_
    refine gR_Mod_states hx hb hts hown hK hP tb_654 d_Mod_record_74 ?_
    refine lv_iconst (v := 1) hx hb d_Mod_record_77 (by decide) ?_
    refine lv_iadd hx hb d_Mod_record_78 ?_
    refine pR_Mod_states hx hb hts hown hK hP hD hS tb_654 d_Mod_record_79 (fun u2 H locs eu2 hP hD hS => ?_)
    have h := h u2 eu2
    exact r_vret hx hb hr hlocks hP hD hS d_Mod_record_82 h
  · have h := h.1 hc
    refine lv_iconst (v := 1) hx hb d_Mod_record_8 (by decide) ?_
    refine lv_istore_n (lv' := [(1, .int 1), (0, .ref (ad 0))]) hx hb d_Mod_record_9 rfl hl (by decide) rfl (fun ls hl => ?_)
    obtain ⟨n, h⟩ := h
    refine x_Mod_record_10 hx hb hr hts hown hml hlocks hA hK rfl (fun u6 h H locs ls hP hD hS hl => ?_) n 1 u h _ _ _ hP hD hS (lv_sub hl [1, 0] rfl)
    refine lv_aload_n hx hb d_Mod_record_42 rfl (lv_at hl 0 rfl) ?_
    refine lv_dup hx hb d_Mod_record_43 rfl ?_
    refine gR_Mod_states hx hb hts hown hK hP tb_654 d_Mod_record_44 ?_
    refine lv_iconst (v := 1) hx hb d_Mod_record_47 (by decide) ?_
    refine lv_isub hx hb d_Mod_record_48 ?_
    refine pR_Mod_states hx hb hts hown hK hP hD hS tb_654 d_Mod_record_49 (fun u7 H locs eu7 hP hD hS => ?_)
    have h := h u7 eu7
    refine lv_aload_n hx hb d_Mod_record_52 rfl (lv_at hl 0 rfl) ?_
    refine lv_iconst (v := 0) hx hb d_Mod_record_53 (by decide) ?_
    refine lv_sipush (v := 680) hx hb d_Mod_record_54 (by decide) ?_
    refine lv_sipush (v := 680) hx hb d_Mod_record_57 (by decide) ?_
    refine lv_aload_n hx hb d_Mod_record_60 rfl (lv_at hl 0 rfl) ?_
    refine gR_Mod_states hx hb hts hown hK hP tb_654 d_Mod_record_61 ?_
    refine lv_imul hx hb d_Mod_record_64 ?_
    refine lv_iadd hx hb d_Mod_record_65 ?_
    refine lv_sipush (v := 680) hx hb d_Mod_record_66 (by decide) ?_
    refine call_Vv1 (own := "HamperClubModel") (As := [.int 0, .int (680 + (680 * (u7.2.2.2 0))), .int 680]) (rest := []) (q0 := 0) (ci := 9) hx hb hml hts hown hK hA hP hD hS ok_Mod_32 rfl ⟨Nat.le_of_ble_eq_true rfl, Nat.le_of_ble_eq_true rfl⟩ ⟨Nat.le_of_ble_eq_true rfl, Nat.le_of_ble_eq_true rfl⟩ rfl rfl rfl hl.1 rfl (Nat.le_of_ble_eq_true rfl) d_Mod_record_69 (c_Mod_copy l G ad _ u7 0 (680 + (680 * (u7.2.2.2 0))) 680 _ h) (fun u8 H locs h hP hD hS => ?_)
    refine lv_aload_n hx hb d_Mod_record_72 rfl (lv_at hl 0 rfl) ?_
    refine lv_dup hx hb d_Mod_record_73 rfl ?_
    refine gR_Mod_states hx hb hts hown hK hP tb_654 d_Mod_record_74 ?_
    refine lv_iconst (v := 1) hx hb d_Mod_record_77 (by decide) ?_
    refine lv_iadd hx hb d_Mod_record_78 ?_
    refine pR_Mod_states hx hb hts hown hK hP hD hS tb_654 d_Mod_record_79 (fun u9 H locs eu9 hP hD hS => ?_)
    have h := h u9 eu9
    exact r_vret hx hb hr hlocks hP hD hS d_Mod_record_82 h
def wp_Mod_undo (u : RS) (Post : Int32 → RS → Prop) : Prop := (((u.2.2.2 0) = 0 → Post (-2) u) ∧ (¬ (u.2.2.2 0) = 0 → (∀ u1 : RS, u1 = (rS u 0 ((u.2.2.2 0) - 1)) → (wp_Mod_copy u1 (680 + (680 * (u1.2.2.2 0))) 0 680 (fun u2 => Post (u2.2.2.2 0) u2)))))
set_option maxHeartbeats 4000000 in
set_option maxRecDepth 100000 in
theorem c_Mod_undo (l : Launch) (G : GG) (ad : Nat → Nat) (sz : Nat) (u : RS) (Post : Int32 → RS → Prop) (h : wp_Mod_undo u Post) : CMi l y_Mod_undo b_Mod_undo 1 .int 1 G [.ref (ad 0)] sz (refW G ad u) (refW G ad) Post := by
  refine CMi.start (by decide) (Nat.le_of_ble_eq_true rfl) (fun p e s m below meth c A ls hx hb hr hts hown hml hlocks hA hS hP hD hK hl => ?_)
  unfold wp_Mod_undo at h
  have hl : lv_has ls 1 [(0, .ref (ad 0))] := hl
  refine lv_aload_n hx hb d_Mod_undo_0 rfl (lv_at hl 0 rfl) ?_
  refine gR_Mod_states hx hb hts hown hK hP tb_654 d_Mod_undo_1 ?_
  refine lv_if_ne (tgt := 10) hx hb d_Mod_undo_4 (by decide) (fun hc => ?_) (fun hc => ?_)
  · have h := h.2 hc
    refine lv_aload_n hx hb d_Mod_undo_10 rfl (lv_at hl 0 rfl) ?_
    refine lv_dup hx hb d_Mod_undo_11 rfl ?_
    refine gR_Mod_states hx hb hts hown hK hP tb_654 d_Mod_undo_12 ?_
    refine lv_iconst (v := 1) hx hb d_Mod_undo_15 (by decide) ?_
    refine lv_isub hx hb d_Mod_undo_16 ?_
    refine pR_Mod_states hx hb hts hown hK hP hD hS tb_654 d_Mod_undo_17 (fun u1 H locs eu1 hP hD hS => ?_)
    have h := h u1 eu1
    refine lv_aload_n hx hb d_Mod_undo_20 rfl (lv_at hl 0 rfl) ?_
    refine lv_sipush (v := 680) hx hb d_Mod_undo_21 (by decide) ?_
    refine lv_sipush (v := 680) hx hb d_Mod_undo_24 (by decide) ?_
    refine lv_aload_n hx hb d_Mod_undo_27 rfl (lv_at hl 0 rfl) ?_
    refine gR_Mod_states hx hb hts hown hK hP tb_654 d_Mod_undo_28 ?_
    refine lv_imul hx hb d_Mod_undo_31 ?_
    refine lv_iadd hx hb d_Mod_undo_32 ?_
    refine lv_iconst (v := 0) hx hb d_Mod_undo_33 (by decide) ?_
    refine lv_sipush (v := 680) hx hb d_Mod_undo_34 (by decide) ?_
    refine call_Vv1 (own := "HamperClubModel") (As := [.int (680 + (680 * (u1.2.2.2 0))), .int 0, .int 680]) (rest := []) (q0 := 0) (ci := 9) hx hb hml hts hown hK hA hP hD hS ok_Mod_32 rfl ⟨Nat.le_of_ble_eq_true rfl, Nat.le_of_ble_eq_true rfl⟩ ⟨Nat.le_of_ble_eq_true rfl, Nat.le_of_ble_eq_true rfl⟩ rfl rfl rfl hl.1 rfl (Nat.le_of_ble_eq_true rfl) d_Mod_undo_37 (c_Mod_copy l G ad _ u1 (680 + (680 * (u1.2.2.2 0))) 0 680 _ h) (fun u2 H locs h hP hD hS => ?_)
    refine lv_aload_n hx hb d_Mod_undo_40 rfl (lv_at hl 0 rfl) ?_
    refine gR_Mod_states hx hb hts hown hK hP tb_654 d_Mod_undo_41 ?_
    exact r_iret hx hb hr hlocks hP hD hS d_Mod_undo_44 h
  · have h := h.1 hc
    refine lv_bipush (v := (-2)) hx hb d_Mod_undo_7 (by decide) ?_
    exact r_iret hx hb hr hlocks hP hD hS d_Mod_undo_9 h
def wp_Mod_isGoodWeek (u : RS) (p1 : Int32) (p2 : Int32) (Post : Int32 → RS → Prop) : Prop := ((p2 < 0 → Post 0 u) ∧ (¬ p2 < 0 → (vp_in (pf_Mod_of p1 (7 + (p2 / 31))) 4306 ∧ (((((u.1 (pf_Mod_of p1 (7 + (p2 / 31))).toNatClampNeg) >>> ((p2 - p2 / 31 * 31) &&& 31)) &&& 1) = 1 → Post 1 u) ∧ (¬ (((u.1 (pf_Mod_of p1 (7 + (p2 / 31))).toNatClampNeg) >>> ((p2 - p2 / 31 * 31) &&& 31)) &&& 1) = 1 → Post 0 u)))))
theorem so_Mod_43 : StOk y_Mod_of b_Mod_of 2 (some .int) 2 "HamperClubModel" 43 := ⟨tb_713, tb_714, tb_12, tb_715, by decide +kernel⟩
set_option maxHeartbeats 4000000 in
set_option maxRecDepth 100000 in
theorem c_Mod_isGoodWeek (l : Launch) (G : GG) (ad : Nat → Nat) (sz : Nat) (u : RS) (p1 : Int32) (p2 : Int32) (Post : Int32 → RS → Prop) (h : wp_Mod_isGoodWeek u p1 p2 Post) : CMi l y_Mod_isGoodWeek b_Mod_isGoodWeek 3 .boolean 1 G [.ref (ad 0), .int p1, .int p2] sz (refW G ad u) (refW G ad) Post := by
  refine CMi.start (by decide) (Nat.le_of_ble_eq_true rfl) (fun p e s m below meth c A ls hx hb hr hts hown hml hlocks hA hS hP hD hK hl => ?_)
  unfold wp_Mod_isGoodWeek at h
  have hl : lv_has ls 3 [(0, .ref (ad 0)), (1, .int p1), (2, .int p2)] := hl
  refine lv_iload_n hx hb d_Mod_isGoodWeek_0 rfl (lv_at hl 2 rfl) ?_
  refine lv_if_lt (tgt := 35) hx hb d_Mod_isGoodWeek_1 (by decide) (fun hc => ?_) (fun hc => ?_)
  · have h := h.1 hc
    refine lv_iconst (v := 0) hx hb d_Mod_isGoodWeek_35 (by decide) ?_
    exact r_zret hx hb hr hlocks rfl hP hD hS d_Mod_isGoodWeek_36 h
  · have h := h.2 hc
    refine lv_aload_n hx hb d_Mod_isGoodWeek_4 rfl (lv_at hl 0 rfl) ?_
    refine gR_Mod_row hx hb hts hown hK hP tb_653 d_Mod_isGoodWeek_5 ?_
    refine lv_iload_n hx hb d_Mod_isGoodWeek_8 rfl (lv_at hl 1 rfl) ?_
    refine lv_bipush (v := 7) hx hb d_Mod_isGoodWeek_9 (by decide) ?_
    refine lv_iload_n hx hb d_Mod_isGoodWeek_11 rfl (lv_at hl 2 rfl) ?_
    refine lv_bipush (v := 31) hx hb d_Mod_isGoodWeek_12 (by decide) ?_
    refine lv_idiv hx hb d_Mod_isGoodWeek_14 (by decide) ?_
    refine lv_iadd hx hb d_Mod_isGoodWeek_15 ?_
    refine call_S (As := [.int p1, .int (7 + (p2 / 31))]) (rest := [.ref (ad 1)]) hx hb hml hts hown so_Mod_43 rfl ⟨Nat.le_of_ble_eq_true rfl, Nat.le_of_ble_eq_true rfl⟩ ⟨Nat.le_of_ble_eq_true rfl, Nat.le_of_ble_eq_true rfl⟩ hl.1 rfl (Nat.le_of_ble_eq_true rfl) d_Mod_isGoodWeek_16 (k_Mod_of l p1 (7 + (p2 / 31))) ?_
    obtain ⟨hi, h⟩ := h
    refine lR_1 hx hb hK hP hi d_Mod_isGoodWeek_19 ?_
    refine lv_iload_n hx hb d_Mod_isGoodWeek_20 rfl (lv_at hl 2 rfl) ?_
    refine lv_bipush (v := 31) hx hb d_Mod_isGoodWeek_21 (by decide) ?_
    refine lv_irem hx hb d_Mod_isGoodWeek_23 (by decide) ?_
    refine lv_ishr hx hb d_Mod_isGoodWeek_24 ?_
    refine lv_iconst (v := 1) hx hb d_Mod_isGoodWeek_25 (by decide) ?_
    refine lv_iand hx hb d_Mod_isGoodWeek_26 ?_
    refine lv_iconst (v := 1) hx hb d_Mod_isGoodWeek_27 (by decide) ?_
    refine lv_icmp_ne (tgt := 35) hx hb d_Mod_isGoodWeek_28 (by decide) (fun hc => ?_) (fun hc => ?_)
    · have h := h.2 hc
      refine lv_iconst (v := 0) hx hb d_Mod_isGoodWeek_35 (by decide) ?_
      exact r_zret hx hb hr hlocks rfl hP hD hS d_Mod_isGoodWeek_36 h
    · have h := h.1 hc
      refine lv_iconst (v := 1) hx hb d_Mod_isGoodWeek_31 (by decide) ?_
      refine lv_goto (tgt := 36) hx hb d_Mod_isGoodWeek_32 (by decide) ?_
      exact r_zret hx hb hr hlocks rfl hP hD hS d_Mod_isGoodWeek_36 h
def wp_Mod_isInHand (u : RS) (p1 : Int32) (Post : Int32 → RS → Prop) : Prop := (vp_in (pf_Mod_of p1 1) 4306 ∧ (((u.1 (pf_Mod_of p1 1).toNatClampNeg) = 0 → Post 1 u) ∧ (¬ (u.1 (pf_Mod_of p1 1).toNatClampNeg) = 0 → Post 0 u)))
set_option maxHeartbeats 4000000 in
set_option maxRecDepth 100000 in
theorem c_Mod_isInHand (l : Launch) (G : GG) (ad : Nat → Nat) (sz : Nat) (u : RS) (p1 : Int32) (Post : Int32 → RS → Prop) (h : wp_Mod_isInHand u p1 Post) : CMi l y_Mod_isInHand b_Mod_isInHand 2 .boolean 1 G [.ref (ad 0), .int p1] sz (refW G ad u) (refW G ad) Post := by
  refine CMi.start (by decide) (Nat.le_of_ble_eq_true rfl) (fun p e s m below meth c A ls hx hb hr hts hown hml hlocks hA hS hP hD hK hl => ?_)
  unfold wp_Mod_isInHand at h
  have hl : lv_has ls 2 [(0, .ref (ad 0)), (1, .int p1)] := hl
  refine lv_aload_n hx hb d_Mod_isInHand_0 rfl (lv_at hl 0 rfl) ?_
  refine gR_Mod_row hx hb hts hown hK hP tb_653 d_Mod_isInHand_1 ?_
  refine lv_iload_n hx hb d_Mod_isInHand_4 rfl (lv_at hl 1 rfl) ?_
  refine lv_iconst (v := 1) hx hb d_Mod_isInHand_5 (by decide) ?_
  refine call_S (As := [.int p1, .int 1]) (rest := [.ref (ad 1)]) hx hb hml hts hown so_Mod_43 rfl ⟨Nat.le_of_ble_eq_true rfl, Nat.le_of_ble_eq_true rfl⟩ ⟨Nat.le_of_ble_eq_true rfl, Nat.le_of_ble_eq_true rfl⟩ hl.1 rfl (Nat.le_of_ble_eq_true rfl) d_Mod_isInHand_6 (k_Mod_of l p1 1) ?_
  obtain ⟨hi, h⟩ := h
  refine lR_1 hx hb hK hP hi d_Mod_isInHand_9 ?_
  refine lv_if_ne (tgt := 17) hx hb d_Mod_isInHand_10 (by decide) (fun hc => ?_) (fun hc => ?_)
  · have h := h.2 hc
    refine lv_iconst (v := 0) hx hb d_Mod_isInHand_17 (by decide) ?_
    exact r_zret hx hb hr hlocks rfl hP hD hS d_Mod_isInHand_18 h
  · have h := h.1 hc
    refine lv_iconst (v := 1) hx hb d_Mod_isInHand_13 (by decide) ?_
    refine lv_goto (tgt := 18) hx hb d_Mod_isInHand_14 (by decide) ?_
    exact r_zret hx hb hr hlocks rfl hP hD hS d_Mod_isInHand_18 h
def wp_Mod_doStick (u : RS) (p1 : Int32) (p2 : Int32) (Post : Int32 → RS → Prop) : Prop := (vp_in (pf_Mod_of p1 0) 4306 ∧ (vp_in (pf_Mod_of p1 0) 4306 ∧ (∀ u1 : RS, u1 = (rR u (upd u.1 (pf_Mod_of p1 0).toNatClampNeg ((u.1 (pf_Mod_of p1 0).toNatClampNeg) + p2))) → (vp_in (pf_Mod_of p1 (7 + ((u1.1 (0 : Int32).toNatClampNeg) / 31))) 4306 ∧ (vp_in (pf_Mod_of p1 (7 + ((u1.1 (0 : Int32).toNatClampNeg) / 31))) 4306 ∧ (∀ u2 : RS, u2 = (rR u1 (upd u1.1 (pf_Mod_of p1 (7 + ((u1.1 (0 : Int32).toNatClampNeg) / 31))).toNatClampNeg ((u1.1 (pf_Mod_of p1 (7 + ((u1.1 (0 : Int32).toNatClampNeg) / 31))).toNatClampNeg) ||| (1 <<< (((u1.1 (0 : Int32).toNatClampNeg) - (u1.1 (0 : Int32).toNatClampNeg) / 31 * 31) &&& 31))))) → (vp_in (pf_Mod_of p1 9) 4306 ∧ (∀ u3 : RS, u3 = (rR u2 (upd u2.1 (pf_Mod_of p1 9).toNatClampNeg (u2.1 (0 : Int32).toNatClampNeg))) → (∀ u4 : RS, u4 = (rR u3 (upd u3.1 (3 : Int32).toNatClampNeg ((u3.1 (3 : Int32).toNatClampNeg) + (10 * p2)))) → (∀ u5 : RS, u5 = (rR u4 (upd u4.1 (5 : Int32).toNatClampNeg ((u4.1 (5 : Int32).toNatClampNeg) + (10 * p2)))) → (vp_in (pf_Mod_of p1 0) 4306 ∧ Post (u5.1 (pf_Mod_of p1 0).toNatClampNeg) u5)))))))))))
set_option maxHeartbeats 4000000 in
set_option maxRecDepth 100000 in
theorem c_Mod_doStick (l : Launch) (G : GG) (ad : Nat → Nat) (sz : Nat) (u : RS) (p1 : Int32) (p2 : Int32) (Post : Int32 → RS → Prop) (h : wp_Mod_doStick u p1 p2 Post) : CMi l y_Mod_doStick b_Mod_doStick 3 .int 1 G [.ref (ad 0), .int p1, .int p2] sz (refW G ad u) (refW G ad) Post := by
  refine CMi.start (by decide) (Nat.le_of_ble_eq_true rfl) (fun p e s m below meth c A ls hx hb hr hts hown hml hlocks hA hS hP hD hK hl => ?_)
  unfold wp_Mod_doStick at h
  have hl : lv_has ls 3 [(0, .ref (ad 0)), (1, .int p1), (2, .int p2)] := hl
  refine lv_aload_n hx hb d_Mod_doStick_0 rfl (lv_at hl 0 rfl) ?_
  refine gR_Mod_row hx hb hts hown hK hP tb_653 d_Mod_doStick_1 ?_
  refine lv_iload_n hx hb d_Mod_doStick_4 rfl (lv_at hl 1 rfl) ?_
  refine lv_iconst (v := 0) hx hb d_Mod_doStick_5 (by decide) ?_
  refine call_S (As := [.int p1, .int 0]) (rest := [.ref (ad 1)]) hx hb hml hts hown so_Mod_43 rfl ⟨Nat.le_of_ble_eq_true rfl, Nat.le_of_ble_eq_true rfl⟩ ⟨Nat.le_of_ble_eq_true rfl, Nat.le_of_ble_eq_true rfl⟩ hl.1 rfl (Nat.le_of_ble_eq_true rfl) d_Mod_doStick_6 (k_Mod_of l p1 0) ?_
  refine lv_dup2_11 hx hb d_Mod_doStick_9 rfl rfl ?_
  obtain ⟨hi, h⟩ := h
  refine lR_1 hx hb hK hP hi d_Mod_doStick_10 ?_
  refine lv_iload_n hx hb d_Mod_doStick_11 rfl (lv_at hl 2 rfl) ?_
  refine lv_iadd hx hb d_Mod_doStick_12 ?_
  obtain ⟨hi, h⟩ := h
  refine sR_1 hx hb hK hP hD hS hi d_Mod_doStick_13 (fun u1 H locs eu1 hP hD hS => ?_)
  have h := h u1 eu1
  refine lv_aload_n hx hb d_Mod_doStick_14 rfl (lv_at hl 0 rfl) ?_
  refine gR_Mod_row hx hb hts hown hK hP tb_653 d_Mod_doStick_15 ?_
  refine lv_iload_n hx hb d_Mod_doStick_18 rfl (lv_at hl 1 rfl) ?_
  refine lv_bipush (v := 7) hx hb d_Mod_doStick_19 (by decide) ?_
  refine lv_aload_n hx hb d_Mod_doStick_21 rfl (lv_at hl 0 rfl) ?_
  refine gR_Mod_row hx hb hts hown hK hP tb_653 d_Mod_doStick_22 ?_
  refine lv_iconst (v := 0) hx hb d_Mod_doStick_25 (by decide) ?_
  refine lR_1 hx hb hK hP (by unfold vp_in; decide) d_Mod_doStick_26 ?_
  refine lv_bipush (v := 31) hx hb d_Mod_doStick_27 (by decide) ?_
  refine lv_idiv hx hb d_Mod_doStick_29 (by decide) ?_
  refine lv_iadd hx hb d_Mod_doStick_30 ?_
  refine call_S (As := [.int p1, .int (7 + ((u1.1 (0 : Int32).toNatClampNeg) / 31))]) (rest := [.ref (ad 1)]) hx hb hml hts hown so_Mod_43 rfl ⟨Nat.le_of_ble_eq_true rfl, Nat.le_of_ble_eq_true rfl⟩ ⟨Nat.le_of_ble_eq_true rfl, Nat.le_of_ble_eq_true rfl⟩ hl.1 rfl (Nat.le_of_ble_eq_true rfl) d_Mod_doStick_31 (k_Mod_of l p1 (7 + ((u1.1 (0 : Int32).toNatClampNeg) / 31))) ?_
  refine lv_dup2_11 hx hb d_Mod_doStick_34 rfl rfl ?_
  obtain ⟨hi, h⟩ := h
  refine lR_1 hx hb hK hP hi d_Mod_doStick_35 ?_
  refine lv_iconst (v := 1) hx hb d_Mod_doStick_36 (by decide) ?_
  refine lv_aload_n hx hb d_Mod_doStick_37 rfl (lv_at hl 0 rfl) ?_
  refine gR_Mod_row hx hb hts hown hK hP tb_653 d_Mod_doStick_38 ?_
  refine lv_iconst (v := 0) hx hb d_Mod_doStick_41 (by decide) ?_
  refine lR_1 hx hb hK hP (by unfold vp_in; decide) d_Mod_doStick_42 ?_
  refine lv_bipush (v := 31) hx hb d_Mod_doStick_43 (by decide) ?_
  refine lv_irem hx hb d_Mod_doStick_45 (by decide) ?_
  refine lv_ishl hx hb d_Mod_doStick_46 ?_
  refine lv_ior hx hb d_Mod_doStick_47 ?_
  obtain ⟨hi, h⟩ := h
  refine sR_1 hx hb hK hP hD hS hi d_Mod_doStick_48 (fun u2 H locs eu2 hP hD hS => ?_)
  have h := h u2 eu2
  refine lv_aload_n hx hb d_Mod_doStick_49 rfl (lv_at hl 0 rfl) ?_
  refine gR_Mod_row hx hb hts hown hK hP tb_653 d_Mod_doStick_50 ?_
  refine lv_iload_n hx hb d_Mod_doStick_53 rfl (lv_at hl 1 rfl) ?_
  refine lv_bipush (v := 9) hx hb d_Mod_doStick_54 (by decide) ?_
  refine call_S (As := [.int p1, .int 9]) (rest := [.ref (ad 1)]) hx hb hml hts hown so_Mod_43 rfl ⟨Nat.le_of_ble_eq_true rfl, Nat.le_of_ble_eq_true rfl⟩ ⟨Nat.le_of_ble_eq_true rfl, Nat.le_of_ble_eq_true rfl⟩ hl.1 rfl (Nat.le_of_ble_eq_true rfl) d_Mod_doStick_56 (k_Mod_of l p1 9) ?_
  refine lv_aload_n hx hb d_Mod_doStick_59 rfl (lv_at hl 0 rfl) ?_
  refine gR_Mod_row hx hb hts hown hK hP tb_653 d_Mod_doStick_60 ?_
  refine lv_iconst (v := 0) hx hb d_Mod_doStick_63 (by decide) ?_
  refine lR_1 hx hb hK hP (by unfold vp_in; decide) d_Mod_doStick_64 ?_
  obtain ⟨hi, h⟩ := h
  refine sR_1 hx hb hK hP hD hS hi d_Mod_doStick_65 (fun u3 H locs eu3 hP hD hS => ?_)
  have h := h u3 eu3
  refine lv_aload_n hx hb d_Mod_doStick_66 rfl (lv_at hl 0 rfl) ?_
  refine gR_Mod_row hx hb hts hown hK hP tb_653 d_Mod_doStick_67 ?_
  refine lv_iconst (v := 3) hx hb d_Mod_doStick_70 (by decide) ?_
  refine lv_dup2_11 hx hb d_Mod_doStick_71 rfl rfl ?_
  refine lR_1 hx hb hK hP (by unfold vp_in; decide) d_Mod_doStick_72 ?_
  refine lv_bipush (v := 10) hx hb d_Mod_doStick_73 (by decide) ?_
  refine lv_iload_n hx hb d_Mod_doStick_75 rfl (lv_at hl 2 rfl) ?_
  refine lv_imul hx hb d_Mod_doStick_76 ?_
  refine lv_iadd hx hb d_Mod_doStick_77 ?_
  refine sR_1 hx hb hK hP hD hS (by unfold vp_in; decide) d_Mod_doStick_78 (fun u4 H locs eu4 hP hD hS => ?_)
  have h := h u4 eu4
  refine lv_aload_n hx hb d_Mod_doStick_79 rfl (lv_at hl 0 rfl) ?_
  refine gR_Mod_row hx hb hts hown hK hP tb_653 d_Mod_doStick_80 ?_
  refine lv_iconst (v := 5) hx hb d_Mod_doStick_83 (by decide) ?_
  refine lv_dup2_11 hx hb d_Mod_doStick_84 rfl rfl ?_
  refine lR_1 hx hb hK hP (by unfold vp_in; decide) d_Mod_doStick_85 ?_
  refine lv_bipush (v := 10) hx hb d_Mod_doStick_86 (by decide) ?_
  refine lv_iload_n hx hb d_Mod_doStick_88 rfl (lv_at hl 2 rfl) ?_
  refine lv_imul hx hb d_Mod_doStick_89 ?_
  refine lv_iadd hx hb d_Mod_doStick_90 ?_
  refine sR_1 hx hb hK hP hD hS (by unfold vp_in; decide) d_Mod_doStick_91 (fun u5 H locs eu5 hP hD hS => ?_)
  have h := h u5 eu5
  refine lv_aload_n hx hb d_Mod_doStick_92 rfl (lv_at hl 0 rfl) ?_
  refine gR_Mod_row hx hb hts hown hK hP tb_653 d_Mod_doStick_93 ?_
  refine lv_iload_n hx hb d_Mod_doStick_96 rfl (lv_at hl 1 rfl) ?_
  refine lv_iconst (v := 0) hx hb d_Mod_doStick_97 (by decide) ?_
  refine call_S (As := [.int p1, .int 0]) (rest := [.ref (ad 1)]) hx hb hml hts hown so_Mod_43 rfl ⟨Nat.le_of_ble_eq_true rfl, Nat.le_of_ble_eq_true rfl⟩ ⟨Nat.le_of_ble_eq_true rfl, Nat.le_of_ble_eq_true rfl⟩ hl.1 rfl (Nat.le_of_ble_eq_true rfl) d_Mod_doStick_98 (k_Mod_of l p1 0) ?_
  obtain ⟨hi, h⟩ := h
  refine lR_1 hx hb hK hP hi d_Mod_doStick_101 ?_
  exact r_iret hx hb hr hlocks hP hD hS d_Mod_doStick_102 h
def wp_Mod_payOut (u : RS) (p1 : Int32) (p2 : Int32) (Post : RS → Prop) : Prop := (∀ u1 : RS, u1 = (rR u (upd u.1 (3 : Int32).toNatClampNeg ((u.1 (3 : Int32).toNatClampNeg) - p2))) → (∀ u2 : RS, u2 = (rR u1 (upd u1.1 (6 : Int32).toNatClampNeg ((u1.1 (6 : Int32).toNatClampNeg) + p2))) → (vp_in (pf_Mod_of p1 10) 4306 ∧ (vp_in (pf_Mod_of p1 10) 4306 ∧ (∀ u3 : RS, u3 = (rR u2 (upd u2.1 (pf_Mod_of p1 10).toNatClampNeg ((u2.1 (pf_Mod_of p1 10).toNatClampNeg) + p2))) → Post u3)))))
set_option maxHeartbeats 4000000 in
set_option maxRecDepth 100000 in
theorem c_Mod_payOut (l : Launch) (G : GG) (ad : Nat → Nat) (sz : Nat) (u : RS) (p1 : Int32) (p2 : Int32) (Post : RS → Prop) (h : wp_Mod_payOut u p1 p2 Post) : CMv l y_Mod_payOut b_Mod_payOut 3 1 G [.ref (ad 0), .int p1, .int p2] sz (refW G ad u) (refW G ad) Post := by
  refine CMv.start (by decide) (Nat.le_of_ble_eq_true rfl) (fun p e s m below meth c A ls hx hb hr hts hown hml hlocks hA hS hP hD hK hl => ?_)
  unfold wp_Mod_payOut at h
  have hl : lv_has ls 3 [(0, .ref (ad 0)), (1, .int p1), (2, .int p2)] := hl
  refine lv_aload_n hx hb d_Mod_payOut_0 rfl (lv_at hl 0 rfl) ?_
  refine gR_Mod_row hx hb hts hown hK hP tb_653 d_Mod_payOut_1 ?_
  refine lv_iconst (v := 3) hx hb d_Mod_payOut_4 (by decide) ?_
  refine lv_dup2_11 hx hb d_Mod_payOut_5 rfl rfl ?_
  refine lR_1 hx hb hK hP (by unfold vp_in; decide) d_Mod_payOut_6 ?_
  refine lv_iload_n hx hb d_Mod_payOut_7 rfl (lv_at hl 2 rfl) ?_
  refine lv_isub hx hb d_Mod_payOut_8 ?_
  refine sR_1 hx hb hK hP hD hS (by unfold vp_in; decide) d_Mod_payOut_9 (fun u1 H locs eu1 hP hD hS => ?_)
  have h := h u1 eu1
  refine lv_aload_n hx hb d_Mod_payOut_10 rfl (lv_at hl 0 rfl) ?_
  refine gR_Mod_row hx hb hts hown hK hP tb_653 d_Mod_payOut_11 ?_
  refine lv_bipush (v := 6) hx hb d_Mod_payOut_14 (by decide) ?_
  refine lv_dup2_11 hx hb d_Mod_payOut_16 rfl rfl ?_
  refine lR_1 hx hb hK hP (by unfold vp_in; decide) d_Mod_payOut_17 ?_
  refine lv_iload_n hx hb d_Mod_payOut_18 rfl (lv_at hl 2 rfl) ?_
  refine lv_iadd hx hb d_Mod_payOut_19 ?_
  refine sR_1 hx hb hK hP hD hS (by unfold vp_in; decide) d_Mod_payOut_20 (fun u2 H locs eu2 hP hD hS => ?_)
  have h := h u2 eu2
  refine lv_aload_n hx hb d_Mod_payOut_21 rfl (lv_at hl 0 rfl) ?_
  refine gR_Mod_row hx hb hts hown hK hP tb_653 d_Mod_payOut_22 ?_
  refine lv_iload_n hx hb d_Mod_payOut_25 rfl (lv_at hl 1 rfl) ?_
  refine lv_bipush (v := 10) hx hb d_Mod_payOut_26 (by decide) ?_
  refine call_S (As := [.int p1, .int 10]) (rest := [.ref (ad 1)]) hx hb hml hts hown so_Mod_43 rfl ⟨Nat.le_of_ble_eq_true rfl, Nat.le_of_ble_eq_true rfl⟩ ⟨Nat.le_of_ble_eq_true rfl, Nat.le_of_ble_eq_true rfl⟩ hl.1 rfl (Nat.le_of_ble_eq_true rfl) d_Mod_payOut_28 (k_Mod_of l p1 10) ?_
  refine lv_dup2_11 hx hb d_Mod_payOut_31 rfl rfl ?_
  obtain ⟨hi, h⟩ := h
  refine lR_1 hx hb hK hP hi d_Mod_payOut_32 ?_
  refine lv_iload_n hx hb d_Mod_payOut_33 rfl (lv_at hl 2 rfl) ?_
  refine lv_iadd hx hb d_Mod_payOut_34 ?_
  obtain ⟨hi, h⟩ := h
  refine sR_1 hx hb hK hP hD hS hi d_Mod_payOut_35 (fun u3 H locs eu3 hP hD hS => ?_)
  have h := h u3 eu3
  exact r_vret hx hb hr hlocks hP hD hS d_Mod_payOut_36 h
def wp_Mod_doMislay (u : RS) (p1 : Int32) (Post : Int32 → RS → Prop) : Prop := (vp_in (pf_Mod_of p1 1) 4306 ∧ (∀ u1 : RS, u1 = (rR u (upd u.1 (pf_Mod_of p1 1).toNatClampNeg 1)) → (vp_in (pf_Mod_of p1 2) 4306 ∧ (∀ u2 : RS, u2 = (rR u1 (upd u1.1 (pf_Mod_of p1 2).toNatClampNeg (u1.1 (0 : Int32).toNatClampNeg))) → Post ((u2.1 (0 : Int32).toNatClampNeg) + 3) u2))))
set_option maxHeartbeats 4000000 in
set_option maxRecDepth 100000 in
theorem c_Mod_doMislay (l : Launch) (G : GG) (ad : Nat → Nat) (sz : Nat) (u : RS) (p1 : Int32) (Post : Int32 → RS → Prop) (h : wp_Mod_doMislay u p1 Post) : CMi l y_Mod_doMislay b_Mod_doMislay 2 .int 1 G [.ref (ad 0), .int p1] sz (refW G ad u) (refW G ad) Post := by
  refine CMi.start (by decide) (Nat.le_of_ble_eq_true rfl) (fun p e s m below meth c A ls hx hb hr hts hown hml hlocks hA hS hP hD hK hl => ?_)
  unfold wp_Mod_doMislay at h
  have hl : lv_has ls 2 [(0, .ref (ad 0)), (1, .int p1)] := hl
  refine lv_aload_n hx hb d_Mod_doMislay_0 rfl (lv_at hl 0 rfl) ?_
  refine gR_Mod_row hx hb hts hown hK hP tb_653 d_Mod_doMislay_1 ?_
  refine lv_iload_n hx hb d_Mod_doMislay_4 rfl (lv_at hl 1 rfl) ?_
  refine lv_iconst (v := 1) hx hb d_Mod_doMislay_5 (by decide) ?_
  refine call_S (As := [.int p1, .int 1]) (rest := [.ref (ad 1)]) hx hb hml hts hown so_Mod_43 rfl ⟨Nat.le_of_ble_eq_true rfl, Nat.le_of_ble_eq_true rfl⟩ ⟨Nat.le_of_ble_eq_true rfl, Nat.le_of_ble_eq_true rfl⟩ hl.1 rfl (Nat.le_of_ble_eq_true rfl) d_Mod_doMislay_6 (k_Mod_of l p1 1) ?_
  refine lv_iconst (v := 1) hx hb d_Mod_doMislay_9 (by decide) ?_
  obtain ⟨hi, h⟩ := h
  refine sR_1 hx hb hK hP hD hS hi d_Mod_doMislay_10 (fun u1 H locs eu1 hP hD hS => ?_)
  have h := h u1 eu1
  refine lv_aload_n hx hb d_Mod_doMislay_11 rfl (lv_at hl 0 rfl) ?_
  refine gR_Mod_row hx hb hts hown hK hP tb_653 d_Mod_doMislay_12 ?_
  refine lv_iload_n hx hb d_Mod_doMislay_15 rfl (lv_at hl 1 rfl) ?_
  refine lv_iconst (v := 2) hx hb d_Mod_doMislay_16 (by decide) ?_
  refine call_S (As := [.int p1, .int 2]) (rest := [.ref (ad 1)]) hx hb hml hts hown so_Mod_43 rfl ⟨Nat.le_of_ble_eq_true rfl, Nat.le_of_ble_eq_true rfl⟩ ⟨Nat.le_of_ble_eq_true rfl, Nat.le_of_ble_eq_true rfl⟩ hl.1 rfl (Nat.le_of_ble_eq_true rfl) d_Mod_doMislay_17 (k_Mod_of l p1 2) ?_
  refine lv_aload_n hx hb d_Mod_doMislay_20 rfl (lv_at hl 0 rfl) ?_
  refine gR_Mod_row hx hb hts hown hK hP tb_653 d_Mod_doMislay_21 ?_
  refine lv_iconst (v := 0) hx hb d_Mod_doMislay_24 (by decide) ?_
  refine lR_1 hx hb hK hP (by unfold vp_in; decide) d_Mod_doMislay_25 ?_
  obtain ⟨hi, h⟩ := h
  refine sR_1 hx hb hK hP hD hS hi d_Mod_doMislay_26 (fun u2 H locs eu2 hP hD hS => ?_)
  have h := h u2 eu2
  refine lv_aload_n hx hb d_Mod_doMislay_27 rfl (lv_at hl 0 rfl) ?_
  refine gR_Mod_row hx hb hts hown hK hP tb_653 d_Mod_doMislay_28 ?_
  refine lv_iconst (v := 0) hx hb d_Mod_doMislay_31 (by decide) ?_
  refine lR_1 hx hb hK hP (by unfold vp_in; decide) d_Mod_doMislay_32 ?_
  refine lv_iconst (v := 3) hx hb d_Mod_doMislay_33 (by decide) ?_
  refine lv_iadd hx hb d_Mod_doMislay_34 ?_
  exact r_iret hx hb hr hlocks hP hD hS d_Mod_doMislay_35 h
def wp_Mod_doFind (u : RS) (p1 : Int32) (Post : Int32 → RS → Prop) : Prop := (vp_in (pf_Mod_of p1 1) 4306 ∧ (∀ u1 : RS, u1 = (rR u (upd u.1 (pf_Mod_of p1 1).toNatClampNeg 0)) → (vp_in (pf_Mod_of p1 2) 4306 ∧ Post ((u1.1 (0 : Int32).toNatClampNeg) - (u1.1 (pf_Mod_of p1 2).toNatClampNeg)) u1)))
set_option maxHeartbeats 4000000 in
set_option maxRecDepth 100000 in
theorem c_Mod_doFind (l : Launch) (G : GG) (ad : Nat → Nat) (sz : Nat) (u : RS) (p1 : Int32) (Post : Int32 → RS → Prop) (h : wp_Mod_doFind u p1 Post) : CMi l y_Mod_doFind b_Mod_doFind 2 .int 1 G [.ref (ad 0), .int p1] sz (refW G ad u) (refW G ad) Post := by
  refine CMi.start (by decide) (Nat.le_of_ble_eq_true rfl) (fun p e s m below meth c A ls hx hb hr hts hown hml hlocks hA hS hP hD hK hl => ?_)
  unfold wp_Mod_doFind at h
  have hl : lv_has ls 2 [(0, .ref (ad 0)), (1, .int p1)] := hl
  refine lv_aload_n hx hb d_Mod_doFind_0 rfl (lv_at hl 0 rfl) ?_
  refine gR_Mod_row hx hb hts hown hK hP tb_653 d_Mod_doFind_1 ?_
  refine lv_iload_n hx hb d_Mod_doFind_4 rfl (lv_at hl 1 rfl) ?_
  refine lv_iconst (v := 1) hx hb d_Mod_doFind_5 (by decide) ?_
  refine call_S (As := [.int p1, .int 1]) (rest := [.ref (ad 1)]) hx hb hml hts hown so_Mod_43 rfl ⟨Nat.le_of_ble_eq_true rfl, Nat.le_of_ble_eq_true rfl⟩ ⟨Nat.le_of_ble_eq_true rfl, Nat.le_of_ble_eq_true rfl⟩ hl.1 rfl (Nat.le_of_ble_eq_true rfl) d_Mod_doFind_6 (k_Mod_of l p1 1) ?_
  refine lv_iconst (v := 0) hx hb d_Mod_doFind_9 (by decide) ?_
  obtain ⟨hi, h⟩ := h
  refine sR_1 hx hb hK hP hD hS hi d_Mod_doFind_10 (fun u1 H locs eu1 hP hD hS => ?_)
  have h := h u1 eu1
  refine lv_aload_n hx hb d_Mod_doFind_11 rfl (lv_at hl 0 rfl) ?_
  refine gR_Mod_row hx hb hts hown hK hP tb_653 d_Mod_doFind_12 ?_
  refine lv_iconst (v := 0) hx hb d_Mod_doFind_15 (by decide) ?_
  refine lR_1 hx hb hK hP (by unfold vp_in; decide) d_Mod_doFind_16 ?_
  refine lv_aload_n hx hb d_Mod_doFind_17 rfl (lv_at hl 0 rfl) ?_
  refine gR_Mod_row hx hb hts hown hK hP tb_653 d_Mod_doFind_18 ?_
  refine lv_iload_n hx hb d_Mod_doFind_21 rfl (lv_at hl 1 rfl) ?_
  refine lv_iconst (v := 2) hx hb d_Mod_doFind_22 (by decide) ?_
  refine call_S (As := [.int p1, .int 2]) (rest := [.ref (ad 1), .int (u1.1 (0 : Int32).toNatClampNeg)]) hx hb hml hts hown so_Mod_43 rfl ⟨Nat.le_of_ble_eq_true rfl, Nat.le_of_ble_eq_true rfl⟩ ⟨Nat.le_of_ble_eq_true rfl, Nat.le_of_ble_eq_true rfl⟩ hl.1 rfl (Nat.le_of_ble_eq_true rfl) d_Mod_doFind_23 (k_Mod_of l p1 2) ?_
  obtain ⟨hi, h⟩ := h
  refine lR_1 hx hb hK hP hi d_Mod_doFind_26 ?_
  refine lv_isub hx hb d_Mod_doFind_27 ?_
  exact r_iret hx hb hr hlocks hP hD hS d_Mod_doFind_28 h
def wl_Mod_placeOf_2 (Post : Int32 → RS → Prop) (K : RS → Prop) : Nat → Int32 → Int32 → Int32 → RS → Prop
  | 0, _, _, _ => fun _ => False
  | n + 1, a1, a2, a3 => fun u1 => (vp_in (pf_Mod_ofKind a2 2) 4306 ∧ (((u1.1 (pf_Mod_ofKind a2 2).toNatClampNeg) ≤ a3 → K  u1) ∧ (¬ (u1.1 (pf_Mod_ofKind a2 2).toNatClampNeg) ≤ a3 → (vp_in (pf_Mod_ofKind a2 (3 + a3)) 4306 ∧ (((u1.1 (pf_Mod_ofKind a2 (3 + a3)).toNatClampNeg) = a1 → Post a3 u1) ∧ (¬ (u1.1 (pf_Mod_ofKind a2 (3 + a3)).toNatClampNeg) = a1 → (∀ x2 : Int32, x2 = a3 + 1 → wl_Mod_placeOf_2 Post K n a1 a2 x2 u1)))))))
def wp_Mod_placeOf (u : RS) (p1 : Int32) (p2 : Int32) (Post : Int32 → RS → Prop) : Prop := (∃ k4 : Nat, wl_Mod_placeOf_2 Post (fun u3 => Post (-9) u3) k4 p1 p2 0 u)
theorem so_Mod_20 : StOk y_Mod_ofKind b_Mod_ofKind 2 (some .int) 2 "HamperClubModel" 20 := ⟨tb_650, tb_651, tb_12, tb_652, by decide +kernel⟩
set_option maxHeartbeats 4000000 in
set_option maxRecDepth 100000 in
theorem x_Mod_placeOf_2 {p : Program} {l : Launch} {e : Env} {s : State} {m : MethodId} {args : Array Value} {below : List Frame} {meth : Method} {c : Code} {A : Nat → Prop} {G : GG} {ad : Nat → Nat} {Post : Int32 → RS → Prop} {K : RS → Prop} {Q : State → Prop}
    (hx : p.tables.exec = Jvm.exec) (hb : c.code = b_Mod_placeOf) (hr : meth.sig.returnType = some .int) (hts : ∀ w ∈ Tg, w.before args s = true) (hown : s.vm.findClass "HamperClubModel" = some m.cls) (hml : c.maxLocals = 4) (hlocks : meth.locks = false) (hA : ∀ q, s.heap.size ≤ q → A q) (hK : KN G s)
    (hQ : Q = MQ below (va_Qi Post (BW G A (refW G ad)) A) args s 0 0 A)
    (kk : ∀ (u : RS), K  u → ∀ (H : Heap) (locs : List Loc) (ls : Array Slot), va_P G.1 classes (refW G ad u) H → va_D A (refW G ad u) → va_S A s.heap H locs → lv_has ls 4 [] → W p l e (rmK 1) s m args below meth c H locs 0 0 Q (F0 m 40 ls [])) :
    ∀ (n : Nat) (a1 : Int32) (a2 : Int32) (a3 : Int32) (u : RS), wl_Mod_placeOf_2 Post K n a1 a2 a3 u → ∀ (H : Heap) (locs : List Loc) (ls : Array Slot), va_P G.1 classes (refW G ad u) H → va_D A (refW G ad u) → va_S A s.heap H locs → lv_has ls 4 [(0, .ref (ad 0)), (1, .int a1), (2, .int a2), (3, .int a3)] → W p l e (rmK 1) s m args below meth c H locs 0 0 Q (F0 m 2 ls []) := by
  subst hQ
  intro n
  induction n with
  | zero => intro a1 a2 a3 u h; exact h.elim
  | succ n ih =>
    intro a1 a2 a3 u1 h H locs ls hP hD hS hl
    unfold wl_Mod_placeOf_2 at h
    refine lv_iload_n hx hb d_Mod_placeOf_2 rfl (lv_at hl 3 rfl) ?_
    refine lv_aload_n hx hb d_Mod_placeOf_3 rfl (lv_at hl 0 rfl) ?_
    refine gR_Mod_row hx hb hts hown hK hP tb_653 d_Mod_placeOf_4 ?_
    refine lv_iload_n hx hb d_Mod_placeOf_7 rfl (lv_at hl 2 rfl) ?_
    refine lv_iconst (v := 2) hx hb d_Mod_placeOf_8 (by decide) ?_
    refine call_S (As := [.int a2, .int 2]) (rest := [.ref (ad 1), .int a3]) hx hb hml hts hown so_Mod_20 rfl ⟨Nat.le_of_ble_eq_true rfl, Nat.le_of_ble_eq_true rfl⟩ ⟨Nat.le_of_ble_eq_true rfl, Nat.le_of_ble_eq_true rfl⟩ hl.1 rfl (Nat.le_of_ble_eq_true rfl) d_Mod_placeOf_9 (k_Mod_ofKind l a2 2) ?_
    obtain ⟨hi, h⟩ := h
    refine lR_1 hx hb hK hP hi d_Mod_placeOf_12 ?_
    refine lv_icmp_ge (tgt := 40) hx hb d_Mod_placeOf_13 (by decide) (fun hc => ?_) (fun hc => ?_)
    · have h := h.1 hc
      exact kk  u1 h _ _ _ hP hD hS (lv_sub hl [] rfl)
    · have h := h.2 hc
      refine lv_aload_n hx hb d_Mod_placeOf_16 rfl (lv_at hl 0 rfl) ?_
      refine gR_Mod_row hx hb hts hown hK hP tb_653 d_Mod_placeOf_17 ?_
      refine lv_iload_n hx hb d_Mod_placeOf_20 rfl (lv_at hl 2 rfl) ?_
      refine lv_iconst (v := 3) hx hb d_Mod_placeOf_21 (by decide) ?_
      refine lv_iload_n hx hb d_Mod_placeOf_22 rfl (lv_at hl 3 rfl) ?_
      refine lv_iadd hx hb d_Mod_placeOf_23 ?_
      refine call_S (As := [.int a2, .int (3 + a3)]) (rest := [.ref (ad 1)]) hx hb hml hts hown so_Mod_20 rfl ⟨Nat.le_of_ble_eq_true rfl, Nat.le_of_ble_eq_true rfl⟩ ⟨Nat.le_of_ble_eq_true rfl, Nat.le_of_ble_eq_true rfl⟩ hl.1 rfl (Nat.le_of_ble_eq_true rfl) d_Mod_placeOf_24 (k_Mod_ofKind l a2 (3 + a3)) ?_
      obtain ⟨hi, h⟩ := h
      refine lR_1 hx hb hK hP hi d_Mod_placeOf_27 ?_
      refine lv_iload_n hx hb d_Mod_placeOf_28 rfl (lv_at hl 1 rfl) ?_
      refine lv_icmp_ne (tgt := 34) hx hb d_Mod_placeOf_29 (by decide) (fun hc => ?_) (fun hc => ?_)
      · have h := h.2 hc
        obtain ⟨x2, ex2⟩ : ∃ y : Int32, y = a3 + 1 := ⟨_, rfl⟩
        have h := h x2 ex2
        refine lv_iinc (v := x2) (lv' := [(3, .int x2), (0, .ref (ad 0)), (1, .int a1), (2, .int a2)]) hx hb d_Mod_placeOf_34 hl (k := 3) rfl (by rw [ex2]; rfl) (by decide) rfl (fun ls hl => ?_)
        refine lv_goto (tgt := 2) hx hb d_Mod_placeOf_37 (by decide) ?_
        exact ih a1 a2 x2 u1 h _ _ _ hP hD hS (lv_sub hl [1, 2, 3, 0] rfl)
      · have h := h.1 hc
        refine lv_iload_n hx hb d_Mod_placeOf_32 rfl (lv_at hl 3 rfl) ?_
        exact r_iret hx hb hr hlocks hP hD hS d_Mod_placeOf_33 h
set_option maxHeartbeats 4000000 in
set_option maxRecDepth 100000 in
theorem c_Mod_placeOf (l : Launch) (G : GG) (ad : Nat → Nat) (sz : Nat) (u : RS) (p1 : Int32) (p2 : Int32) (Post : Int32 → RS → Prop) (h : wp_Mod_placeOf u p1 p2 Post) : CMi l y_Mod_placeOf b_Mod_placeOf 4 .int 1 G [.ref (ad 0), .int p1, .int p2] sz (refW G ad u) (refW G ad) Post := by
  refine CMi.start (by decide) (Nat.le_of_ble_eq_true rfl) (fun p e s m below meth c A ls hx hb hr hts hown hml hlocks hA hS hP hD hK hl => ?_)
  unfold wp_Mod_placeOf at h
  have hl : lv_has ls 4 [(0, .ref (ad 0)), (1, .int p1), (2, .int p2)] := hl
  refine lv_iconst (v := 0) hx hb d_Mod_placeOf_0 (by decide) ?_
  refine lv_istore_n (lv' := [(3, .int 0), (0, .ref (ad 0)), (1, .int p1), (2, .int p2)]) hx hb d_Mod_placeOf_1 rfl hl (by decide) rfl (fun ls hl => ?_)
  obtain ⟨n, h⟩ := h
  refine x_Mod_placeOf_2 hx hb hr hts hown hml hlocks hA hK rfl (fun u3 h H locs ls hP hD hS hl => ?_) n p1 p2 0 u h _ _ _ hP hD hS (lv_sub hl [1, 2, 3, 0] rfl)
  refine lv_bipush (v := (-9)) hx hb d_Mod_placeOf_40 (by decide) ?_
  exact r_iret hx hb hr hlocks hP hD hS d_Mod_placeOf_42 h
def wl_Mod_leaveRow_16 (Post : RS → Prop) (K : RS → Prop) : Nat → Int32 → Int32 → RS → Prop
  | 0, _, _ => fun _ => False
  | n + 1, a1, a3 => fun u2 => (vp_in (pf_Mod_ofKind a1 2) 4306 ∧ (((u2.1 (pf_Mod_ofKind a1 2).toNatClampNeg) ≤ a3 → K  u2) ∧ (¬ (u2.1 (pf_Mod_ofKind a1 2).toNatClampNeg) ≤ a3 → (vp_in (pf_Mod_ofKind a1 ((3 + a3) + 1)) 4306 ∧ (vp_in (pf_Mod_ofKind a1 (3 + a3)) 4306 ∧ (∀ u3 : RS, u3 = (rR u2 (upd u2.1 (pf_Mod_ofKind a1 (3 + a3)).toNatClampNeg (u2.1 (pf_Mod_ofKind a1 ((3 + a3) + 1)).toNatClampNeg))) → (∀ x4 : Int32, x4 = a3 + 1 → wl_Mod_leaveRow_16 Post K n a1 x4 u3)))))))
def wp_Mod_leaveRow (u : RS) (p1 : Int32) (p2 : Int32) (Post : RS → Prop) : Prop := (vp_in (pf_Mod_ofKind p1 2) 4306 ∧ (vp_in (pf_Mod_ofKind p1 2) 4306 ∧ (∀ u1 : RS, u1 = (rR u (upd u.1 (pf_Mod_ofKind p1 2).toNatClampNeg ((u.1 (pf_Mod_ofKind p1 2).toNatClampNeg) - 1))) → (∃ k6 : Nat, wl_Mod_leaveRow_16 Post (fun u5 => Post u5) k6 p1 p2 u1))))
set_option maxHeartbeats 4000000 in
set_option maxRecDepth 100000 in
theorem x_Mod_leaveRow_16 {p : Program} {l : Launch} {e : Env} {s : State} {m : MethodId} {args : Array Value} {below : List Frame} {meth : Method} {c : Code} {A : Nat → Prop} {G : GG} {ad : Nat → Nat} {Post : RS → Prop} {K : RS → Prop} {Q : State → Prop}
    (hx : p.tables.exec = Jvm.exec) (hb : c.code = b_Mod_leaveRow) (hr : meth.sig.returnType = none) (hts : ∀ w ∈ Tg, w.before args s = true) (hown : s.vm.findClass "HamperClubModel" = some m.cls) (hml : c.maxLocals = 4) (hlocks : meth.locks = false) (hA : ∀ q, s.heap.size ≤ q → A q) (hK : KN G s)
    (hQ : Q = MQ below (va_Qv Post (BW G A (refW G ad)) A) args s 0 0 A)
    (kk : ∀ (u : RS), K  u → ∀ (H : Heap) (locs : List Loc) (ls : Array Slot), va_P G.1 classes (refW G ad u) H → va_D A (refW G ad u) → va_S A s.heap H locs → lv_has ls 4 [] → W p l e (rmK 1) s m args below meth c H locs 0 0 Q (F0 m 62 ls [])) :
    ∀ (n : Nat) (a1 : Int32) (a3 : Int32) (u : RS), wl_Mod_leaveRow_16 Post K n a1 a3 u → ∀ (H : Heap) (locs : List Loc) (ls : Array Slot), va_P G.1 classes (refW G ad u) H → va_D A (refW G ad u) → va_S A s.heap H locs → lv_has ls 4 [(0, .ref (ad 0)), (1, .int a1), (3, .int a3)] → W p l e (rmK 1) s m args below meth c H locs 0 0 Q (F0 m 16 ls []) := by
  subst hQ
  intro n
  induction n with
  | zero => intro a1 a3 u h; exact h.elim
  | succ n ih =>
    intro a1 a3 u2 h H locs ls hP hD hS hl
    unfold wl_Mod_leaveRow_16 at h
    refine lv_iload_n hx hb d_Mod_leaveRow_16 rfl (lv_at hl 2 rfl) ?_
    refine lv_aload_n hx hb d_Mod_leaveRow_17 rfl (lv_at hl 0 rfl) ?_
    refine gR_Mod_row hx hb hts hown hK hP tb_653 d_Mod_leaveRow_18 ?_
    refine lv_iload_n hx hb d_Mod_leaveRow_21 rfl (lv_at hl 1 rfl) ?_
    refine lv_iconst (v := 2) hx hb d_Mod_leaveRow_22 (by decide) ?_
    refine call_S (As := [.int a1, .int 2]) (rest := [.ref (ad 1), .int a3]) hx hb hml hts hown so_Mod_20 rfl ⟨Nat.le_of_ble_eq_true rfl, Nat.le_of_ble_eq_true rfl⟩ ⟨Nat.le_of_ble_eq_true rfl, Nat.le_of_ble_eq_true rfl⟩ hl.1 rfl (Nat.le_of_ble_eq_true rfl) d_Mod_leaveRow_23 (k_Mod_ofKind l a1 2) ?_
    obtain ⟨hi, h⟩ := h
    refine lR_1 hx hb hK hP hi d_Mod_leaveRow_26 ?_
    refine lv_icmp_ge (tgt := 62) hx hb d_Mod_leaveRow_27 (by decide) (fun hc => ?_) (fun hc => ?_)
    · have h := h.1 hc
      exact kk  u2 h _ _ _ hP hD hS (lv_sub hl [] rfl)
    · have h := h.2 hc
      refine lv_aload_n hx hb d_Mod_leaveRow_30 rfl (lv_at hl 0 rfl) ?_
      refine gR_Mod_row hx hb hts hown hK hP tb_653 d_Mod_leaveRow_31 ?_
      refine lv_iload_n hx hb d_Mod_leaveRow_34 rfl (lv_at hl 1 rfl) ?_
      refine lv_iconst (v := 3) hx hb d_Mod_leaveRow_35 (by decide) ?_
      refine lv_iload_n hx hb d_Mod_leaveRow_36 rfl (lv_at hl 2 rfl) ?_
      refine lv_iadd hx hb d_Mod_leaveRow_37 ?_
      refine call_S (As := [.int a1, .int (3 + a3)]) (rest := [.ref (ad 1)]) hx hb hml hts hown so_Mod_20 rfl ⟨Nat.le_of_ble_eq_true rfl, Nat.le_of_ble_eq_true rfl⟩ ⟨Nat.le_of_ble_eq_true rfl, Nat.le_of_ble_eq_true rfl⟩ hl.1 rfl (Nat.le_of_ble_eq_true rfl) d_Mod_leaveRow_38 (k_Mod_ofKind l a1 (3 + a3)) ?_
      refine lv_aload_n hx hb d_Mod_leaveRow_41 rfl (lv_at hl 0 rfl) ?_
      refine gR_Mod_row hx hb hts hown hK hP tb_653 d_Mod_leaveRow_42 ?_
      refine lv_iload_n hx hb d_Mod_leaveRow_45 rfl (lv_at hl 1 rfl) ?_
      refine lv_iconst (v := 3) hx hb d_Mod_leaveRow_46 (by decide) ?_
      refine lv_iload_n hx hb d_Mod_leaveRow_47 rfl (lv_at hl 2 rfl) ?_
      refine lv_iadd hx hb d_Mod_leaveRow_48 ?_
      refine lv_iconst (v := 1) hx hb d_Mod_leaveRow_49 (by decide) ?_
      refine lv_iadd hx hb d_Mod_leaveRow_50 ?_
      refine call_S (As := [.int a1, .int ((3 + a3) + 1)]) (rest := [.ref (ad 1), .int (pf_Mod_ofKind a1 (3 + a3)), .ref (ad 1)]) hx hb hml hts hown so_Mod_20 rfl ⟨Nat.le_of_ble_eq_true rfl, Nat.le_of_ble_eq_true rfl⟩ ⟨Nat.le_of_ble_eq_true rfl, Nat.le_of_ble_eq_true rfl⟩ hl.1 rfl (Nat.le_of_ble_eq_true rfl) d_Mod_leaveRow_51 (k_Mod_ofKind l a1 ((3 + a3) + 1)) ?_
      obtain ⟨hi, h⟩ := h
      refine lR_1 hx hb hK hP hi d_Mod_leaveRow_54 ?_
      obtain ⟨hi, h⟩ := h
      refine sR_1 hx hb hK hP hD hS hi d_Mod_leaveRow_55 (fun u3 H locs eu3 hP hD hS => ?_)
      have h := h u3 eu3
      obtain ⟨x4, ex4⟩ : ∃ y : Int32, y = a3 + 1 := ⟨_, rfl⟩
      have h := h x4 ex4
      refine lv_iinc (v := x4) (lv' := [(3, .int x4), (0, .ref (ad 0)), (1, .int a1)]) hx hb d_Mod_leaveRow_56 hl (k := 2) rfl (by rw [ex4]; rfl) (by decide) rfl (fun ls hl => ?_)
      refine lv_goto (tgt := 16) hx hb d_Mod_leaveRow_59 (by decide) ?_
      exact ih a1 x4 u3 h _ _ _ hP hD hS (lv_sub hl [1, 2, 0] rfl)
set_option maxHeartbeats 4000000 in
set_option maxRecDepth 100000 in
theorem c_Mod_leaveRow (l : Launch) (G : GG) (ad : Nat → Nat) (sz : Nat) (u : RS) (p1 : Int32) (p2 : Int32) (Post : RS → Prop) (h : wp_Mod_leaveRow u p1 p2 Post) : CMv l y_Mod_leaveRow b_Mod_leaveRow 4 1 G [.ref (ad 0), .int p1, .int p2] sz (refW G ad u) (refW G ad) Post := by
  refine CMv.start (by decide) (Nat.le_of_ble_eq_true rfl) (fun p e s m below meth c A ls hx hb hr hts hown hml hlocks hA hS hP hD hK hl => ?_)
  unfold wp_Mod_leaveRow at h
  have hl : lv_has ls 4 [(0, .ref (ad 0)), (1, .int p1), (2, .int p2)] := hl
  refine lv_aload_n hx hb d_Mod_leaveRow_0 rfl (lv_at hl 0 rfl) ?_
  refine gR_Mod_row hx hb hts hown hK hP tb_653 d_Mod_leaveRow_1 ?_
  refine lv_iload_n hx hb d_Mod_leaveRow_4 rfl (lv_at hl 1 rfl) ?_
  refine lv_iconst (v := 2) hx hb d_Mod_leaveRow_5 (by decide) ?_
  refine call_S (As := [.int p1, .int 2]) (rest := [.ref (ad 1)]) hx hb hml hts hown so_Mod_20 rfl ⟨Nat.le_of_ble_eq_true rfl, Nat.le_of_ble_eq_true rfl⟩ ⟨Nat.le_of_ble_eq_true rfl, Nat.le_of_ble_eq_true rfl⟩ hl.1 rfl (Nat.le_of_ble_eq_true rfl) d_Mod_leaveRow_6 (k_Mod_ofKind l p1 2) ?_
  refine lv_dup2_11 hx hb d_Mod_leaveRow_9 rfl rfl ?_
  obtain ⟨hi, h⟩ := h
  refine lR_1 hx hb hK hP hi d_Mod_leaveRow_10 ?_
  refine lv_iconst (v := 1) hx hb d_Mod_leaveRow_11 (by decide) ?_
  refine lv_isub hx hb d_Mod_leaveRow_12 ?_
  obtain ⟨hi, h⟩ := h
  refine sR_1 hx hb hK hP hD hS hi d_Mod_leaveRow_13 (fun u1 H locs eu1 hP hD hS => ?_)
  have h := h u1 eu1
  refine lv_iload_n hx hb d_Mod_leaveRow_14 rfl (lv_at hl 2 rfl) ?_
  refine lv_istore_n (lv' := [(3, .int p2), (0, .ref (ad 0)), (1, .int p1), (2, .int p2)]) hx hb d_Mod_leaveRow_15 rfl hl (by decide) rfl (fun ls hl => ?_)
  obtain ⟨n, h⟩ := h
  refine x_Mod_leaveRow_16 hx hb hr hts hown hml hlocks hA hK rfl (fun u5 h H locs ls hP hD hS hl => ?_) n p1 p2 u1 h _ _ _ hP hD hS (lv_sub hl [1, 2, 0] rfl)
  exact r_vret hx hb hr hlocks hP hD hS d_Mod_leaveRow_62 h
def wp_Mod_noWeek (u : RS) (Post : Int32 → RS → Prop) : Prop := (wp_Mod_isSettled u  (fun x2 u1 => ((x2 = 0 → (((u1.1 (0 : Int32).toNatClampNeg) = 60 → Post (-3) u1) ∧ (¬ (u1.1 (0 : Int32).toNatClampNeg) = 60 → Post 0 u1))) ∧ (¬ x2 = 0 → Post (-2) u1))))
theorem ok_Mod_39 : CallOk y_Mod_isSettled b_Mod_isSettled 1 (some .boolean) 0 0 "HamperClubModel" 39 := ⟨tb_709, tb_711, sl_13, tb_12, tb_712, by decide +kernel⟩
set_option maxHeartbeats 4000000 in
set_option maxRecDepth 100000 in
theorem c_Mod_noWeek (l : Launch) (G : GG) (ad : Nat → Nat) (sz : Nat) (u : RS) (Post : Int32 → RS → Prop) (h : wp_Mod_noWeek u Post) : CMi l y_Mod_noWeek b_Mod_noWeek 1 .int 1 G [.ref (ad 0)] sz (refW G ad u) (refW G ad) Post := by
  refine CMi.start (by decide) (Nat.le_of_ble_eq_true rfl) (fun p e s m below meth c A ls hx hb hr hts hown hml hlocks hA hS hP hD hK hl => ?_)
  unfold wp_Mod_noWeek at h
  have hl : lv_has ls 1 [(0, .ref (ad 0))] := hl
  refine lv_aload_n hx hb d_Mod_noWeek_0 rfl (lv_at hl 0 rfl) ?_
  refine call_Vi1 (own := "HamperClubModel") (As := []) (rest := []) (q0 := 0) (ci := 9) hx hb hml hts hown hK hA hP hD hS ok_Mod_39 rfl ⟨Nat.le_of_ble_eq_true rfl, Nat.le_of_ble_eq_true rfl⟩ ⟨Nat.le_of_ble_eq_true rfl, Nat.le_of_ble_eq_true rfl⟩ rfl rfl rfl hl.1 rfl (Nat.le_of_ble_eq_true rfl) d_Mod_noWeek_1 (c_Mod_isSettled l G ad _ u  _ h) (fun x2 u1 H locs h hP hD hS => ?_)
  refine lv_if_eq (tgt := 12) hx hb d_Mod_noWeek_4 (by decide) (fun hc => ?_) (fun hc => ?_)
  · have h := h.1 hc
    refine lv_aload_n hx hb d_Mod_noWeek_12 rfl (lv_at hl 0 rfl) ?_
    refine gR_Mod_row hx hb hts hown hK hP tb_653 d_Mod_noWeek_13 ?_
    refine lv_iconst (v := 0) hx hb d_Mod_noWeek_16 (by decide) ?_
    refine lR_1 hx hb hK hP (by unfold vp_in; decide) d_Mod_noWeek_17 ?_
    refine lv_bipush (v := 60) hx hb d_Mod_noWeek_18 (by decide) ?_
    refine lv_icmp_ne (tgt := 28) hx hb d_Mod_noWeek_20 (by decide) (fun hc => ?_) (fun hc => ?_)
    · have h := h.2 hc
      refine lv_iconst (v := 0) hx hb d_Mod_noWeek_28 (by decide) ?_
      exact r_iret hx hb hr hlocks hP hD hS d_Mod_noWeek_29 h
    · have h := h.1 hc
      refine lv_bipush (v := (-3)) hx hb d_Mod_noWeek_23 (by decide) ?_
      refine lv_goto (tgt := 29) hx hb d_Mod_noWeek_25 (by decide) ?_
      exact r_iret hx hb hr hlocks hP hD hS d_Mod_noWeek_29 h
  · have h := h.2 hc
    refine lv_bipush (v := (-2)) hx hb d_Mod_noWeek_7 (by decide) ?_
    refine lv_goto (tgt := 29) hx hb d_Mod_noWeek_9 (by decide) ?_
    exact r_iret hx hb hr hlocks hP hD hS d_Mod_noWeek_29 h
def wp_Mod_shares (u : RS) (p1 : Int32) (Post : Int32 → RS → Prop) : Prop := (vp_in (pf_Mod_of p1 5) 4306 ∧ (((u.1 (pf_Mod_of p1 5).toNatClampNeg) = 0 → (vp_in (pf_Mod_of p1 0) 4306 ∧ (((u.1 (pf_Mod_of p1 0).toNatClampNeg) ≤ 0 → Post 0 u) ∧ (¬ (u.1 (pf_Mod_of p1 0).toNatClampNeg) ≤ 0 → Post 1 u)))) ∧ (¬ (u.1 (pf_Mod_of p1 5).toNatClampNeg) = 0 → Post 0 u)))
set_option maxHeartbeats 4000000 in
set_option maxRecDepth 100000 in
theorem c_Mod_shares (l : Launch) (G : GG) (ad : Nat → Nat) (sz : Nat) (u : RS) (p1 : Int32) (Post : Int32 → RS → Prop) (h : wp_Mod_shares u p1 Post) : CMi l y_Mod_shares b_Mod_shares 2 .boolean 1 G [.ref (ad 0), .int p1] sz (refW G ad u) (refW G ad) Post := by
  refine CMi.start (by decide) (Nat.le_of_ble_eq_true rfl) (fun p e s m below meth c A ls hx hb hr hts hown hml hlocks hA hS hP hD hK hl => ?_)
  unfold wp_Mod_shares at h
  have hl : lv_has ls 2 [(0, .ref (ad 0)), (1, .int p1)] := hl
  refine lv_aload_n hx hb d_Mod_shares_0 rfl (lv_at hl 0 rfl) ?_
  refine gR_Mod_row hx hb hts hown hK hP tb_653 d_Mod_shares_1 ?_
  refine lv_iload_n hx hb d_Mod_shares_4 rfl (lv_at hl 1 rfl) ?_
  refine lv_iconst (v := 5) hx hb d_Mod_shares_5 (by decide) ?_
  refine call_S (As := [.int p1, .int 5]) (rest := [.ref (ad 1)]) hx hb hml hts hown so_Mod_43 rfl ⟨Nat.le_of_ble_eq_true rfl, Nat.le_of_ble_eq_true rfl⟩ ⟨Nat.le_of_ble_eq_true rfl, Nat.le_of_ble_eq_true rfl⟩ hl.1 rfl (Nat.le_of_ble_eq_true rfl) d_Mod_shares_6 (k_Mod_of l p1 5) ?_
  obtain ⟨hi, h⟩ := h
  refine lR_1 hx hb hK hP hi d_Mod_shares_9 ?_
  refine lv_if_ne (tgt := 30) hx hb d_Mod_shares_10 (by decide) (fun hc => ?_) (fun hc => ?_)
  · have h := h.2 hc
    refine lv_iconst (v := 0) hx hb d_Mod_shares_30 (by decide) ?_
    exact r_zret hx hb hr hlocks rfl hP hD hS d_Mod_shares_31 h
  · have h := h.1 hc
    refine lv_aload_n hx hb d_Mod_shares_13 rfl (lv_at hl 0 rfl) ?_
    refine gR_Mod_row hx hb hts hown hK hP tb_653 d_Mod_shares_14 ?_
    refine lv_iload_n hx hb d_Mod_shares_17 rfl (lv_at hl 1 rfl) ?_
    refine lv_iconst (v := 0) hx hb d_Mod_shares_18 (by decide) ?_
    refine call_S (As := [.int p1, .int 0]) (rest := [.ref (ad 1)]) hx hb hml hts hown so_Mod_43 rfl ⟨Nat.le_of_ble_eq_true rfl, Nat.le_of_ble_eq_true rfl⟩ ⟨Nat.le_of_ble_eq_true rfl, Nat.le_of_ble_eq_true rfl⟩ hl.1 rfl (Nat.le_of_ble_eq_true rfl) d_Mod_shares_19 (k_Mod_of l p1 0) ?_
    obtain ⟨hi, h⟩ := h
    refine lR_1 hx hb hK hP hi d_Mod_shares_22 ?_
    refine lv_if_le (tgt := 30) hx hb d_Mod_shares_23 (by decide) (fun hc => ?_) (fun hc => ?_)
    · have h := h.1 hc
      refine lv_iconst (v := 0) hx hb d_Mod_shares_30 (by decide) ?_
      exact r_zret hx hb hr hlocks rfl hP hD hS d_Mod_shares_31 h
    · have h := h.2 hc
      refine lv_iconst (v := 1) hx hb d_Mod_shares_26 (by decide) ?_
      refine lv_goto (tgt := 31) hx hb d_Mod_shares_27 (by decide) ?_
      exact r_zret hx hb hr hlocks rfl hP hD hS d_Mod_shares_31 h
def wp_Mod_append (u : RS) (p1 : Int32) (Post : Int32 → RS → Prop) : Prop := (((pf_Mod_in p1 1 255) = 0 → Post (-1) u) ∧ (¬ (pf_Mod_in p1 1 255) = 0 → (((u.2.2.2 1) = 100 → Post (-3) u) ∧ (¬ (u.2.2.2 1) = 100 → (vp_in (u.2.2.2 1) 100 ∧ (∀ u1 : RS, u1 = (rT u (upd u.2.1 (u.2.2.2 1).toNatClampNeg p1)) → (∀ u2 : RS, u2 = (rS u1 1 ((u1.2.2.2 1) + 1)) → Post (u2.2.2.2 1) u2)))))))
set_option maxHeartbeats 4000000 in
set_option maxRecDepth 100000 in
theorem c_Mod_append (l : Launch) (G : GG) (ad : Nat → Nat) (sz : Nat) (u : RS) (p1 : Int32) (Post : Int32 → RS → Prop) (h : wp_Mod_append u p1 Post) : CMi l y_Mod_append b_Mod_append 2 .int 1 G [.ref (ad 0), .int p1] sz (refW G ad u) (refW G ad) Post := by
  refine CMi.start (by decide) (Nat.le_of_ble_eq_true rfl) (fun p e s m below meth c A ls hx hb hr hts hown hml hlocks hA hS hP hD hK hl => ?_)
  unfold wp_Mod_append at h
  have hl : lv_has ls 2 [(0, .ref (ad 0)), (1, .int p1)] := hl
  refine lv_iload_n hx hb d_Mod_append_0 rfl (lv_at hl 1 rfl) ?_
  refine lv_iconst (v := 1) hx hb d_Mod_append_1 (by decide) ?_
  refine lv_sipush (v := 255) hx hb d_Mod_append_2 (by decide) ?_
  refine call_S (As := [.int p1, .int 1, .int 255]) (rest := []) hx hb hml hts hown so_Mod_24 rfl ⟨Nat.le_of_ble_eq_true rfl, Nat.le_of_ble_eq_true rfl⟩ ⟨Nat.le_of_ble_eq_true rfl, Nat.le_of_ble_eq_true rfl⟩ hl.1 rfl (Nat.le_of_ble_eq_true rfl) d_Mod_append_5 (k_Mod_in l p1 1 255) ?_
  refine lv_if_ne (tgt := 13) hx hb d_Mod_append_8 (by decide) (fun hc => ?_) (fun hc => ?_)
  · have h := h.2 hc
    refine lv_aload_n hx hb d_Mod_append_13 rfl (lv_at hl 0 rfl) ?_
    refine gR_Mod_length hx hb hts hown hK hP tb_656 d_Mod_append_14 ?_
    refine lv_bipush (v := 100) hx hb d_Mod_append_17 (by decide) ?_
    refine lv_icmp_ne (tgt := 25) hx hb d_Mod_append_19 (by decide) (fun hc => ?_) (fun hc => ?_)
    · have h := h.2 hc
      refine lv_aload_n hx hb d_Mod_append_25 rfl (lv_at hl 0 rfl) ?_
      refine gR_Mod_text hx hb hts hown hK hP tb_655 d_Mod_append_26 ?_
      refine lv_aload_n hx hb d_Mod_append_29 rfl (lv_at hl 0 rfl) ?_
      refine gR_Mod_length hx hb hts hown hK hP tb_656 d_Mod_append_30 ?_
      refine lv_iload_n hx hb d_Mod_append_33 rfl (lv_at hl 1 rfl) ?_
      obtain ⟨hi, h⟩ := h
      refine sR_2 hx hb hK hP hD hS hi d_Mod_append_34 (fun u1 H locs eu1 hP hD hS => ?_)
      have h := h u1 eu1
      refine lv_aload_n hx hb d_Mod_append_35 rfl (lv_at hl 0 rfl) ?_
      refine lv_dup hx hb d_Mod_append_36 rfl ?_
      refine gR_Mod_length hx hb hts hown hK hP tb_656 d_Mod_append_37 ?_
      refine lv_iconst (v := 1) hx hb d_Mod_append_40 (by decide) ?_
      refine lv_iadd hx hb d_Mod_append_41 ?_
      refine pR_Mod_length hx hb hts hown hK hP hD hS tb_656 d_Mod_append_42 (fun u2 H locs eu2 hP hD hS => ?_)
      have h := h u2 eu2
      refine lv_aload_n hx hb d_Mod_append_45 rfl (lv_at hl 0 rfl) ?_
      refine gR_Mod_length hx hb hts hown hK hP tb_656 d_Mod_append_46 ?_
      exact r_iret hx hb hr hlocks hP hD hS d_Mod_append_49 h
    · have h := h.1 hc
      refine lv_bipush (v := (-3)) hx hb d_Mod_append_22 (by decide) ?_
      exact r_iret hx hb hr hlocks hP hD hS d_Mod_append_24 h
  · have h := h.1 hc
    refine lv_iconst (v := (-1)) hx hb d_Mod_append_11 (by decide) ?_
    exact r_iret hx hb hr hlocks hP hD hS d_Mod_append_12 h
def wl_Mod_number_4 (Post : Int32 → RS → Prop) (K : Int32 → Int32 → RS → Prop) : Nat → Int32 → Int32 → RS → Prop
  | 0, _, _ => fun _ => False
  | n + 1, a1, a2 => fun u1 => (wp_Mod_code u1  (fun x3 u2 => (((pf_Mod_in x3 48 57) = 0 → K a1 a2 u2) ∧ (¬ (pf_Mod_in x3 48 57) = 0 → ((3 ≤ a1 → K a1 a2 u2) ∧ (¬ 3 ≤ a1 → ((a1 = 0 → (wp_Mod_code u2  (fun x5 u4 => (∀ x6 : Int32, x6 = (((10 * a2) + x5) - 48) → (∀ u7 : RS, u7 = (rS u4 2 ((u4.2.2.2 2) + 1)) → (∀ x8 : Int32, x8 = a1 + 1 → wl_Mod_number_4 Post K n x8 x6 u7)))))) ∧ (¬ a1 = 0 → ((a2 ≤ 0 → K a1 a2 u2) ∧ (¬ a2 ≤ 0 → (wp_Mod_code u2  (fun x10 u9 => (∀ x11 : Int32, x11 = (((10 * a2) + x10) - 48) → (∀ u12 : RS, u12 = (rS u9 2 ((u9.2.2.2 2) + 1)) → (∀ x13 : Int32, x13 = a1 + 1 → wl_Mod_number_4 Post K n x13 x11 u12)))))))))))))))
def wp_Mod_number (u : RS) (Post : Int32 → RS → Prop) : Prop := (∃ k17 : Nat, wl_Mod_number_4 Post (fun x15 x16 u14 => ((x15 = 0 → Post (-1) u14) ∧ (¬ x15 = 0 → Post x16 u14))) k17 0 0 u)
theorem ok_Mod_135 : CallOk y_Mod_code b_Mod_code 1 (some .int) 0 0 "HamperClubModel" 135 := ⟨tb_875, tb_877, sl_41, tb_12, tb_878, by decide +kernel⟩
set_option maxHeartbeats 4000000 in
set_option maxRecDepth 100000 in
theorem x_Mod_number_4 {p : Program} {l : Launch} {e : Env} {s : State} {m : MethodId} {args : Array Value} {below : List Frame} {meth : Method} {c : Code} {A : Nat → Prop} {G : GG} {ad : Nat → Nat} {Post : Int32 → RS → Prop} {K : Int32 → Int32 → RS → Prop} {Q : State → Prop}
    (hx : p.tables.exec = Jvm.exec) (hb : c.code = b_Mod_number) (hr : meth.sig.returnType = some .int) (hts : ∀ w ∈ Tg, w.before args s = true) (hown : s.vm.findClass "HamperClubModel" = some m.cls) (hml : c.maxLocals = 3) (hlocks : meth.locks = false) (hA : ∀ q, s.heap.size ≤ q → A q) (hK : KN G s)
    (hQ : Q = MQ below (va_Qi Post (BW G A (refW G ad)) A) args s 0 0 A)
    (kk : ∀ (b1 : Int32) (b2 : Int32) (u : RS), K b1 b2 u → ∀ (H : Heap) (locs : List Loc) (ls : Array Slot), va_P G.1 classes (refW G ad u) H → va_D A (refW G ad u) → va_S A s.heap H locs → lv_has ls 3 [(1, .int b1), (2, .int b2)] → W p l e (rmK 1) s m args below meth c H locs 0 0 Q (F0 m 60 ls [])) :
    ∀ (n : Nat) (a1 : Int32) (a2 : Int32) (u : RS), wl_Mod_number_4 Post K n a1 a2 u → ∀ (H : Heap) (locs : List Loc) (ls : Array Slot), va_P G.1 classes (refW G ad u) H → va_D A (refW G ad u) → va_S A s.heap H locs → lv_has ls 3 [(0, .ref (ad 0)), (1, .int a1), (2, .int a2)] → W p l e (rmK 1) s m args below meth c H locs 0 0 Q (F0 m 4 ls []) := by
  subst hQ
  intro n
  induction n with
  | zero => intro a1 a2 u h; exact h.elim
  | succ n ih =>
    intro a1 a2 u1 h H locs ls hP hD hS hl
    unfold wl_Mod_number_4 at h
    refine lv_aload_n hx hb d_Mod_number_4 rfl (lv_at hl 0 rfl) ?_
    refine call_Vi1 (own := "HamperClubModel") (As := []) (rest := []) (q0 := 0) (ci := 9) hx hb hml hts hown hK hA hP hD hS ok_Mod_135 rfl ⟨Nat.le_of_ble_eq_true rfl, Nat.le_of_ble_eq_true rfl⟩ ⟨Nat.le_of_ble_eq_true rfl, Nat.le_of_ble_eq_true rfl⟩ rfl rfl rfl hl.1 rfl (Nat.le_of_ble_eq_true rfl) d_Mod_number_5 (c_Mod_code l G ad _ u1  _ h) (fun x3 u2 H locs h hP hD hS => ?_)
    refine lv_bipush (v := 48) hx hb d_Mod_number_8 (by decide) ?_
    refine lv_bipush (v := 57) hx hb d_Mod_number_10 (by decide) ?_
    refine call_S (As := [.int x3, .int 48, .int 57]) (rest := []) hx hb hml hts hown so_Mod_24 rfl ⟨Nat.le_of_ble_eq_true rfl, Nat.le_of_ble_eq_true rfl⟩ ⟨Nat.le_of_ble_eq_true rfl, Nat.le_of_ble_eq_true rfl⟩ hl.1 rfl (Nat.le_of_ble_eq_true rfl) d_Mod_number_12 (k_Mod_in l x3 48 57) ?_
    refine lv_if_eq (tgt := 60) hx hb d_Mod_number_15 (by decide) (fun hc => ?_) (fun hc => ?_)
    · have h := h.1 hc
      exact kk a1 a2 u2 h _ _ _ hP hD hS (lv_sub hl [1, 2] rfl)
    · have h := h.2 hc
      refine lv_iload_n hx hb d_Mod_number_18 rfl (lv_at hl 1 rfl) ?_
      refine lv_iconst (v := 3) hx hb d_Mod_number_19 (by decide) ?_
      refine lv_icmp_ge (tgt := 60) hx hb d_Mod_number_20 (by decide) (fun hc => ?_) (fun hc => ?_)
      · have h := h.1 hc
        exact kk a1 a2 u2 h _ _ _ hP hD hS (lv_sub hl [1, 2] rfl)
      · have h := h.2 hc
        refine lv_iload_n hx hb d_Mod_number_23 rfl (lv_at hl 1 rfl) ?_
        refine lv_if_eq (tgt := 31) hx hb d_Mod_number_24 (by decide) (fun hc => ?_) (fun hc => ?_)
        · have h := h.1 hc
          refine lv_bipush (v := 10) hx hb d_Mod_number_31 (by decide) ?_
          refine lv_iload_n hx hb d_Mod_number_33 rfl (lv_at hl 2 rfl) ?_
          refine lv_imul hx hb d_Mod_number_34 ?_
          refine lv_aload_n hx hb d_Mod_number_35 rfl (lv_at hl 0 rfl) ?_
          refine call_Vi1 (own := "HamperClubModel") (As := []) (rest := [.int (10 * a2)]) (q0 := 0) (ci := 9) hx hb hml hts hown hK hA hP hD hS ok_Mod_135 rfl ⟨Nat.le_of_ble_eq_true rfl, Nat.le_of_ble_eq_true rfl⟩ ⟨Nat.le_of_ble_eq_true rfl, Nat.le_of_ble_eq_true rfl⟩ rfl rfl rfl hl.1 rfl (Nat.le_of_ble_eq_true rfl) d_Mod_number_36 (c_Mod_code l G ad _ u2  _ h) (fun x5 u4 H locs h hP hD hS => ?_)
          refine lv_iadd hx hb d_Mod_number_39 ?_
          refine lv_bipush (v := 48) hx hb d_Mod_number_40 (by decide) ?_
          refine lv_isub hx hb d_Mod_number_42 ?_
          refine lv_topi (fun x6 ex6 => ?_)
          have h := h x6 ex6
          refine lv_istore_n (lv' := [(2, .int x6), (0, .ref (ad 0)), (1, .int a1)]) hx hb d_Mod_number_43 rfl hl (by decide) rfl (fun ls hl => ?_)
          refine lv_aload_n hx hb d_Mod_number_44 rfl (lv_at hl 1 rfl) ?_
          refine lv_dup hx hb d_Mod_number_45 rfl ?_
          refine gR_Mod_pos hx hb hts hown hK hP tb_658 d_Mod_number_46 ?_
          refine lv_iconst (v := 1) hx hb d_Mod_number_49 (by decide) ?_
          refine lv_iadd hx hb d_Mod_number_50 ?_
          refine pR_Mod_pos hx hb hts hown hK hP hD hS tb_658 d_Mod_number_51 (fun u7 H locs eu7 hP hD hS => ?_)
          have h := h u7 eu7
          obtain ⟨x8, ex8⟩ : ∃ y : Int32, y = a1 + 1 := ⟨_, rfl⟩
          have h := h x8 ex8
          refine lv_iinc (v := x8) (lv' := [(1, .int x8), (2, .int x6), (0, .ref (ad 0))]) hx hb d_Mod_number_54 hl (k := 2) rfl (by rw [ex8]; rfl) (by decide) rfl (fun ls hl => ?_)
          refine lv_goto (tgt := 4) hx hb d_Mod_number_57 (by decide) ?_
          exact ih x8 x6 u7 h _ _ _ hP hD hS (lv_sub hl [2, 0, 1] rfl)
        · have h := h.2 hc
          refine lv_iload_n hx hb d_Mod_number_27 rfl (lv_at hl 2 rfl) ?_
          refine lv_if_le (tgt := 60) hx hb d_Mod_number_28 (by decide) (fun hc => ?_) (fun hc => ?_)
          · have h := h.1 hc
            exact kk a1 a2 u2 h _ _ _ hP hD hS (lv_sub hl [1, 2] rfl)
          · have h := h.2 hc
            refine lv_bipush (v := 10) hx hb d_Mod_number_31 (by decide) ?_
            refine lv_iload_n hx hb d_Mod_number_33 rfl (lv_at hl 2 rfl) ?_
            refine lv_imul hx hb d_Mod_number_34 ?_
            refine lv_aload_n hx hb d_Mod_number_35 rfl (lv_at hl 0 rfl) ?_
            refine call_Vi1 (own := "HamperClubModel") (As := []) (rest := [.int (10 * a2)]) (q0 := 0) (ci := 9) hx hb hml hts hown hK hA hP hD hS ok_Mod_135 rfl ⟨Nat.le_of_ble_eq_true rfl, Nat.le_of_ble_eq_true rfl⟩ ⟨Nat.le_of_ble_eq_true rfl, Nat.le_of_ble_eq_true rfl⟩ rfl rfl rfl hl.1 rfl (Nat.le_of_ble_eq_true rfl) d_Mod_number_36 (c_Mod_code l G ad _ u2  _ h) (fun x10 u9 H locs h hP hD hS => ?_)
            refine lv_iadd hx hb d_Mod_number_39 ?_
            refine lv_bipush (v := 48) hx hb d_Mod_number_40 (by decide) ?_
            refine lv_isub hx hb d_Mod_number_42 ?_
            refine lv_topi (fun x11 ex11 => ?_)
            have h := h x11 ex11
            refine lv_istore_n (lv' := [(2, .int x11), (0, .ref (ad 0)), (1, .int a1)]) hx hb d_Mod_number_43 rfl hl (by decide) rfl (fun ls hl => ?_)
            refine lv_aload_n hx hb d_Mod_number_44 rfl (lv_at hl 1 rfl) ?_
            refine lv_dup hx hb d_Mod_number_45 rfl ?_
            refine gR_Mod_pos hx hb hts hown hK hP tb_658 d_Mod_number_46 ?_
            refine lv_iconst (v := 1) hx hb d_Mod_number_49 (by decide) ?_
            refine lv_iadd hx hb d_Mod_number_50 ?_
            refine pR_Mod_pos hx hb hts hown hK hP hD hS tb_658 d_Mod_number_51 (fun u12 H locs eu12 hP hD hS => ?_)
            have h := h u12 eu12
            obtain ⟨x13, ex13⟩ : ∃ y : Int32, y = a1 + 1 := ⟨_, rfl⟩
            have h := h x13 ex13
            refine lv_iinc (v := x13) (lv' := [(1, .int x13), (2, .int x11), (0, .ref (ad 0))]) hx hb d_Mod_number_54 hl (k := 2) rfl (by rw [ex13]; rfl) (by decide) rfl (fun ls hl => ?_)
            refine lv_goto (tgt := 4) hx hb d_Mod_number_57 (by decide) ?_
            exact ih x13 x11 u12 h _ _ _ hP hD hS (lv_sub hl [2, 0, 1] rfl)
set_option maxHeartbeats 4000000 in
set_option maxRecDepth 100000 in
theorem c_Mod_number (l : Launch) (G : GG) (ad : Nat → Nat) (sz : Nat) (u : RS) (Post : Int32 → RS → Prop) (h : wp_Mod_number u Post) : CMi l y_Mod_number b_Mod_number 3 .int 1 G [.ref (ad 0)] sz (refW G ad u) (refW G ad) Post := by
  refine CMi.start (by decide) (Nat.le_of_ble_eq_true rfl) (fun p e s m below meth c A ls hx hb hr hts hown hml hlocks hA hS hP hD hK hl => ?_)
  unfold wp_Mod_number at h
  have hl : lv_has ls 3 [(0, .ref (ad 0))] := hl
  refine lv_iconst (v := 0) hx hb d_Mod_number_0 (by decide) ?_
  refine lv_istore_n (lv' := [(1, .int 0), (0, .ref (ad 0))]) hx hb d_Mod_number_1 rfl hl (by decide) rfl (fun ls hl => ?_)
  refine lv_iconst (v := 0) hx hb d_Mod_number_2 (by decide) ?_
  refine lv_istore_n (lv' := [(2, .int 0), (1, .int 0), (0, .ref (ad 0))]) hx hb d_Mod_number_3 rfl hl (by decide) rfl (fun ls hl => ?_)
  obtain ⟨n, h⟩ := h
  refine x_Mod_number_4 hx hb hr hts hown hml hlocks hA hK rfl (fun x15 x16 u14 h H locs ls hP hD hS hl => ?_) n 0 0 u h _ _ _ hP hD hS (lv_sub hl [2, 1, 0] rfl)
  refine lv_iload_n hx hb d_Mod_number_60 rfl (lv_at hl 0 rfl) ?_
  refine lv_if_ne (tgt := 68) hx hb d_Mod_number_61 (by decide) (fun hc => ?_) (fun hc => ?_)
  · have h := h.2 hc
    refine lv_iload_n hx hb d_Mod_number_68 rfl (lv_at hl 1 rfl) ?_
    exact r_iret hx hb hr hlocks hP hD hS d_Mod_number_69 h
  · have h := h.1 hc
    refine lv_iconst (v := (-1)) hx hb d_Mod_number_64 (by decide) ?_
    refine lv_goto (tgt := 69) hx hb d_Mod_number_65 (by decide) ?_
    exact r_iret hx hb hr hlocks hP hD hS d_Mod_number_69 h
def wl_Mod_sumOf_4 (Post : Int32 → RS → Prop) (K : Int32 → RS → Prop) : Nat → Int32 → Int32 → Int32 → RS → Prop
  | 0, _, _, _ => fun _ => False
  | n + 1, a1, a2, a3 => fun u1 => (((u1.1 (1 : Int32).toNatClampNeg) ≤ a3 → K a2 u1) ∧ (¬ (u1.1 (1 : Int32).toNatClampNeg) ≤ a3 → (vp_in (pf_Mod_of a3 a1) 4306 ∧ (∀ x2 : Int32, x2 = (a2 + (u1.1 (pf_Mod_of a3 a1).toNatClampNeg)) → (∀ x3 : Int32, x3 = a3 + 1 → wl_Mod_sumOf_4 Post K n a1 x2 x3 u1)))))
def wp_Mod_sumOf (u : RS) (p1 : Int32) (Post : Int32 → RS → Prop) : Prop := (∃ k6 : Nat, wl_Mod_sumOf_4 Post (fun x5 u4 => Post x5 u4) k6 p1 0 0 u)
set_option maxHeartbeats 4000000 in
set_option maxRecDepth 100000 in
theorem x_Mod_sumOf_4 {p : Program} {l : Launch} {e : Env} {s : State} {m : MethodId} {args : Array Value} {below : List Frame} {meth : Method} {c : Code} {A : Nat → Prop} {G : GG} {ad : Nat → Nat} {Post : Int32 → RS → Prop} {K : Int32 → RS → Prop} {Q : State → Prop}
    (hx : p.tables.exec = Jvm.exec) (hb : c.code = b_Mod_sumOf) (hr : meth.sig.returnType = some .int) (hts : ∀ w ∈ Tg, w.before args s = true) (hown : s.vm.findClass "HamperClubModel" = some m.cls) (hml : c.maxLocals = 4) (hlocks : meth.locks = false) (hA : ∀ q, s.heap.size ≤ q → A q) (hK : KN G s)
    (hQ : Q = MQ below (va_Qi Post (BW G A (refW G ad)) A) args s 0 0 A)
    (kk : ∀ (b2 : Int32) (u : RS), K b2 u → ∀ (H : Heap) (locs : List Loc) (ls : Array Slot), va_P G.1 classes (refW G ad u) H → va_D A (refW G ad u) → va_S A s.heap H locs → lv_has ls 4 [(2, .int b2)] → W p l e (rmK 1) s m args below meth c H locs 0 0 Q (F0 m 33 ls [])) :
    ∀ (n : Nat) (a1 : Int32) (a2 : Int32) (a3 : Int32) (u : RS), wl_Mod_sumOf_4 Post K n a1 a2 a3 u → ∀ (H : Heap) (locs : List Loc) (ls : Array Slot), va_P G.1 classes (refW G ad u) H → va_D A (refW G ad u) → va_S A s.heap H locs → lv_has ls 4 [(0, .ref (ad 0)), (1, .int a1), (2, .int a2), (3, .int a3)] → W p l e (rmK 1) s m args below meth c H locs 0 0 Q (F0 m 4 ls []) := by
  subst hQ
  intro n
  induction n with
  | zero => intro a1 a2 a3 u h; exact h.elim
  | succ n ih =>
    intro a1 a2 a3 u1 h H locs ls hP hD hS hl
    unfold wl_Mod_sumOf_4 at h
    refine lv_iload_n hx hb d_Mod_sumOf_4 rfl (lv_at hl 3 rfl) ?_
    refine lv_aload_n hx hb d_Mod_sumOf_5 rfl (lv_at hl 0 rfl) ?_
    refine gR_Mod_row hx hb hts hown hK hP tb_653 d_Mod_sumOf_6 ?_
    refine lv_iconst (v := 1) hx hb d_Mod_sumOf_9 (by decide) ?_
    refine lR_1 hx hb hK hP (by unfold vp_in; decide) d_Mod_sumOf_10 ?_
    refine lv_icmp_ge (tgt := 33) hx hb d_Mod_sumOf_11 (by decide) (fun hc => ?_) (fun hc => ?_)
    · have h := h.1 hc
      exact kk a2 u1 h _ _ _ hP hD hS (lv_sub hl [2] rfl)
    · have h := h.2 hc
      refine lv_iload_n hx hb d_Mod_sumOf_14 rfl (lv_at hl 2 rfl) ?_
      refine lv_aload_n hx hb d_Mod_sumOf_15 rfl (lv_at hl 0 rfl) ?_
      refine gR_Mod_row hx hb hts hown hK hP tb_653 d_Mod_sumOf_16 ?_
      refine lv_iload_n hx hb d_Mod_sumOf_19 rfl (lv_at hl 3 rfl) ?_
      refine lv_iload_n hx hb d_Mod_sumOf_20 rfl (lv_at hl 1 rfl) ?_
      refine call_S (As := [.int a3, .int a1]) (rest := [.ref (ad 1), .int a2]) hx hb hml hts hown so_Mod_43 rfl ⟨Nat.le_of_ble_eq_true rfl, Nat.le_of_ble_eq_true rfl⟩ ⟨Nat.le_of_ble_eq_true rfl, Nat.le_of_ble_eq_true rfl⟩ hl.1 rfl (Nat.le_of_ble_eq_true rfl) d_Mod_sumOf_21 (k_Mod_of l a3 a1) ?_
      obtain ⟨hi, h⟩ := h
      refine lR_1 hx hb hK hP hi d_Mod_sumOf_24 ?_
      refine lv_iadd hx hb d_Mod_sumOf_25 ?_
      refine lv_topi (fun x2 ex2 => ?_)
      have h := h x2 ex2
      refine lv_istore_n (lv' := [(2, .int x2), (0, .ref (ad 0)), (1, .int a1), (3, .int a3)]) hx hb d_Mod_sumOf_26 rfl hl (by decide) rfl (fun ls hl => ?_)
      obtain ⟨x3, ex3⟩ : ∃ y : Int32, y = a3 + 1 := ⟨_, rfl⟩
      have h := h x3 ex3
      refine lv_iinc (v := x3) (lv' := [(3, .int x3), (2, .int x2), (0, .ref (ad 0)), (1, .int a1)]) hx hb d_Mod_sumOf_27 hl (k := 3) rfl (by rw [ex3]; rfl) (by decide) rfl (fun ls hl => ?_)
      refine lv_goto (tgt := 4) hx hb d_Mod_sumOf_30 (by decide) ?_
      exact ih a1 x2 x3 u1 h _ _ _ hP hD hS (lv_sub hl [2, 3, 1, 0] rfl)
set_option maxHeartbeats 4000000 in
set_option maxRecDepth 100000 in
theorem c_Mod_sumOf (l : Launch) (G : GG) (ad : Nat → Nat) (sz : Nat) (u : RS) (p1 : Int32) (Post : Int32 → RS → Prop) (h : wp_Mod_sumOf u p1 Post) : CMi l y_Mod_sumOf b_Mod_sumOf 4 .int 1 G [.ref (ad 0), .int p1] sz (refW G ad u) (refW G ad) Post := by
  refine CMi.start (by decide) (Nat.le_of_ble_eq_true rfl) (fun p e s m below meth c A ls hx hb hr hts hown hml hlocks hA hS hP hD hK hl => ?_)
  unfold wp_Mod_sumOf at h
  have hl : lv_has ls 4 [(0, .ref (ad 0)), (1, .int p1)] := hl
  refine lv_iconst (v := 0) hx hb d_Mod_sumOf_0 (by decide) ?_
  refine lv_istore_n (lv' := [(2, .int 0), (0, .ref (ad 0)), (1, .int p1)]) hx hb d_Mod_sumOf_1 rfl hl (by decide) rfl (fun ls hl => ?_)
  refine lv_iconst (v := 0) hx hb d_Mod_sumOf_2 (by decide) ?_
  refine lv_istore_n (lv' := [(3, .int 0), (2, .int 0), (0, .ref (ad 0)), (1, .int p1)]) hx hb d_Mod_sumOf_3 rfl hl (by decide) rfl (fun ls hl => ?_)
  obtain ⟨n, h⟩ := h
  refine x_Mod_sumOf_4 hx hb hr hts hown hml hlocks hA hK rfl (fun x5 u4 h H locs ls hP hD hS hl => ?_) n p1 0 0 u h _ _ _ hP hD hS (lv_sub hl [2, 3, 1, 0] rfl)
  refine lv_iload_n hx hb d_Mod_sumOf_33 rfl (lv_at hl 0 rfl) ?_
  exact r_iret hx hb hr hlocks hP hD hS d_Mod_sumOf_34 h
def wl_Mod_mislaid_4 (Post : Int32 → RS → Prop) (K : Int32 → RS → Prop) : Nat → Int32 → Int32 → RS → Prop
  | 0, _, _ => fun _ => False
  | n + 1, a1, a2 => fun u1 => (((u1.1 (1 : Int32).toNatClampNeg) ≤ a2 → K a1 u1) ∧ (¬ (u1.1 (1 : Int32).toNatClampNeg) ≤ a2 → (vp_in (pf_Mod_of a2 1) 4306 ∧ (((u1.1 (pf_Mod_of a2 1).toNatClampNeg) = 1 → (∀ x4 : Int32, x4 = (a1 + 1) → (∀ x5 : Int32, x5 = a2 + 1 → wl_Mod_mislaid_4 Post K n x4 x5 u1))) ∧ (¬ (u1.1 (pf_Mod_of a2 1).toNatClampNeg) = 1 → (∀ x2 : Int32, x2 = (a1 + 0) → (∀ x3 : Int32, x3 = a2 + 1 → wl_Mod_mislaid_4 Post K n x2 x3 u1)))))))
def wp_Mod_mislaid (u : RS) (Post : Int32 → RS → Prop) : Prop := (∃ k8 : Nat, wl_Mod_mislaid_4 Post (fun x7 u6 => Post x7 u6) k8 0 0 u)
set_option maxHeartbeats 4000000 in
set_option maxRecDepth 100000 in
theorem x_Mod_mislaid_4 {p : Program} {l : Launch} {e : Env} {s : State} {m : MethodId} {args : Array Value} {below : List Frame} {meth : Method} {c : Code} {A : Nat → Prop} {G : GG} {ad : Nat → Nat} {Post : Int32 → RS → Prop} {K : Int32 → RS → Prop} {Q : State → Prop}
    (hx : p.tables.exec = Jvm.exec) (hb : c.code = b_Mod_mislaid) (hr : meth.sig.returnType = some .int) (hts : ∀ w ∈ Tg, w.before args s = true) (hown : s.vm.findClass "HamperClubModel" = some m.cls) (hml : c.maxLocals = 3) (hlocks : meth.locks = false) (hA : ∀ q, s.heap.size ≤ q → A q) (hK : KN G s)
    (hQ : Q = MQ below (va_Qi Post (BW G A (refW G ad)) A) args s 0 0 A)
    (kk : ∀ (b1 : Int32) (u : RS), K b1 u → ∀ (H : Heap) (locs : List Loc) (ls : Array Slot), va_P G.1 classes (refW G ad u) H → va_D A (refW G ad u) → va_S A s.heap H locs → lv_has ls 3 [(1, .int b1)] → W p l e (rmK 1) s m args below meth c H locs 0 0 Q (F0 m 42 ls [])) :
    ∀ (n : Nat) (a1 : Int32) (a2 : Int32) (u : RS), wl_Mod_mislaid_4 Post K n a1 a2 u → ∀ (H : Heap) (locs : List Loc) (ls : Array Slot), va_P G.1 classes (refW G ad u) H → va_D A (refW G ad u) → va_S A s.heap H locs → lv_has ls 3 [(0, .ref (ad 0)), (1, .int a1), (2, .int a2)] → W p l e (rmK 1) s m args below meth c H locs 0 0 Q (F0 m 4 ls []) := by
  subst hQ
  intro n
  induction n with
  | zero => intro a1 a2 u h; exact h.elim
  | succ n ih =>
    intro a1 a2 u1 h H locs ls hP hD hS hl
    unfold wl_Mod_mislaid_4 at h
    refine lv_iload_n hx hb d_Mod_mislaid_4 rfl (lv_at hl 2 rfl) ?_
    refine lv_aload_n hx hb d_Mod_mislaid_5 rfl (lv_at hl 0 rfl) ?_
    refine gR_Mod_row hx hb hts hown hK hP tb_653 d_Mod_mislaid_6 ?_
    refine lv_iconst (v := 1) hx hb d_Mod_mislaid_9 (by decide) ?_
    refine lR_1 hx hb hK hP (by unfold vp_in; decide) d_Mod_mislaid_10 ?_
    refine lv_icmp_ge (tgt := 42) hx hb d_Mod_mislaid_11 (by decide) (fun hc => ?_) (fun hc => ?_)
    · have h := h.1 hc
      exact kk a1 u1 h _ _ _ hP hD hS (lv_sub hl [1] rfl)
    · have h := h.2 hc
      refine lv_iload_n hx hb d_Mod_mislaid_14 rfl (lv_at hl 1 rfl) ?_
      refine lv_aload_n hx hb d_Mod_mislaid_15 rfl (lv_at hl 0 rfl) ?_
      refine gR_Mod_row hx hb hts hown hK hP tb_653 d_Mod_mislaid_16 ?_
      refine lv_iload_n hx hb d_Mod_mislaid_19 rfl (lv_at hl 2 rfl) ?_
      refine lv_iconst (v := 1) hx hb d_Mod_mislaid_20 (by decide) ?_
      refine call_S (As := [.int a2, .int 1]) (rest := [.ref (ad 1), .int a1]) hx hb hml hts hown so_Mod_43 rfl ⟨Nat.le_of_ble_eq_true rfl, Nat.le_of_ble_eq_true rfl⟩ ⟨Nat.le_of_ble_eq_true rfl, Nat.le_of_ble_eq_true rfl⟩ hl.1 rfl (Nat.le_of_ble_eq_true rfl) d_Mod_mislaid_21 (k_Mod_of l a2 1) ?_
      obtain ⟨hi, h⟩ := h
      refine lR_1 hx hb hK hP hi d_Mod_mislaid_24 ?_
      refine lv_iconst (v := 1) hx hb d_Mod_mislaid_25 (by decide) ?_
      refine lv_icmp_ne (tgt := 33) hx hb d_Mod_mislaid_26 (by decide) (fun hc => ?_) (fun hc => ?_)
      · have h := h.2 hc
        refine lv_iconst (v := 0) hx hb d_Mod_mislaid_33 (by decide) ?_
        refine lv_iadd hx hb d_Mod_mislaid_34 ?_
        refine lv_topi (fun x2 ex2 => ?_)
        have h := h x2 ex2
        refine lv_istore_n (lv' := [(1, .int x2), (0, .ref (ad 0)), (2, .int a2)]) hx hb d_Mod_mislaid_35 rfl hl (by decide) rfl (fun ls hl => ?_)
        obtain ⟨x3, ex3⟩ : ∃ y : Int32, y = a2 + 1 := ⟨_, rfl⟩
        have h := h x3 ex3
        refine lv_iinc (v := x3) (lv' := [(2, .int x3), (1, .int x2), (0, .ref (ad 0))]) hx hb d_Mod_mislaid_36 hl (k := 2) rfl (by rw [ex3]; rfl) (by decide) rfl (fun ls hl => ?_)
        refine lv_goto (tgt := 4) hx hb d_Mod_mislaid_39 (by decide) ?_
        exact ih x2 x3 u1 h _ _ _ hP hD hS (lv_sub hl [2, 1, 0] rfl)
      · have h := h.1 hc
        refine lv_iconst (v := 1) hx hb d_Mod_mislaid_29 (by decide) ?_
        refine lv_goto (tgt := 34) hx hb d_Mod_mislaid_30 (by decide) ?_
        refine lv_iadd hx hb d_Mod_mislaid_34 ?_
        refine lv_topi (fun x4 ex4 => ?_)
        have h := h x4 ex4
        refine lv_istore_n (lv' := [(1, .int x4), (0, .ref (ad 0)), (2, .int a2)]) hx hb d_Mod_mislaid_35 rfl hl (by decide) rfl (fun ls hl => ?_)
        obtain ⟨x5, ex5⟩ : ∃ y : Int32, y = a2 + 1 := ⟨_, rfl⟩
        have h := h x5 ex5
        refine lv_iinc (v := x5) (lv' := [(2, .int x5), (1, .int x4), (0, .ref (ad 0))]) hx hb d_Mod_mislaid_36 hl (k := 2) rfl (by rw [ex5]; rfl) (by decide) rfl (fun ls hl => ?_)
        refine lv_goto (tgt := 4) hx hb d_Mod_mislaid_39 (by decide) ?_
        exact ih x4 x5 u1 h _ _ _ hP hD hS (lv_sub hl [2, 1, 0] rfl)
set_option maxHeartbeats 4000000 in
set_option maxRecDepth 100000 in
theorem c_Mod_mislaid (l : Launch) (G : GG) (ad : Nat → Nat) (sz : Nat) (u : RS) (Post : Int32 → RS → Prop) (h : wp_Mod_mislaid u Post) : CMi l y_Mod_mislaid b_Mod_mislaid 3 .int 1 G [.ref (ad 0)] sz (refW G ad u) (refW G ad) Post := by
  refine CMi.start (by decide) (Nat.le_of_ble_eq_true rfl) (fun p e s m below meth c A ls hx hb hr hts hown hml hlocks hA hS hP hD hK hl => ?_)
  unfold wp_Mod_mislaid at h
  have hl : lv_has ls 3 [(0, .ref (ad 0))] := hl
  refine lv_iconst (v := 0) hx hb d_Mod_mislaid_0 (by decide) ?_
  refine lv_istore_n (lv' := [(1, .int 0), (0, .ref (ad 0))]) hx hb d_Mod_mislaid_1 rfl hl (by decide) rfl (fun ls hl => ?_)
  refine lv_iconst (v := 0) hx hb d_Mod_mislaid_2 (by decide) ?_
  refine lv_istore_n (lv' := [(2, .int 0), (1, .int 0), (0, .ref (ad 0))]) hx hb d_Mod_mislaid_3 rfl hl (by decide) rfl (fun ls hl => ?_)
  obtain ⟨n, h⟩ := h
  refine x_Mod_mislaid_4 hx hb hr hts hown hml hlocks hA hK rfl (fun x7 u6 h H locs ls hP hD hS hl => ?_) n 0 0 u h _ _ _ hP hD hS (lv_sub hl [2, 1, 0] rfl)
  refine lv_iload_n hx hb d_Mod_mislaid_42 rfl (lv_at hl 0 rfl) ?_
  exact r_iret hx hb hr hlocks hP hD hS d_Mod_mislaid_43 h
def wl_Mod_keptOf_4 (Post : Int32 → RS → Prop) (K : Int32 → RS → Prop) : Nat → Int32 → Int32 → Int32 → RS → Prop
  | 0, _, _, _ => fun _ => False
  | n + 1, a1, a2, a3 => fun u1 => (((u1.1 (1 : Int32).toNatClampNeg) ≤ a3 → K a2 u1) ∧ (¬ (u1.1 (1 : Int32).toNatClampNeg) ≤ a3 → (vp_in (pf_Mod_of a3 3) 4306 ∧ (((u1.1 (pf_Mod_of a3 3).toNatClampNeg) = a1 → (vp_in (pf_Mod_of a3 4) 4306 ∧ (((u1.1 (pf_Mod_of a3 4).toNatClampNeg) = 1 → (∀ x6 : Int32, x6 = (a2 + 1) → (∀ x7 : Int32, x7 = a3 + 1 → wl_Mod_keptOf_4 Post K n a1 x6 x7 u1))) ∧ (¬ (u1.1 (pf_Mod_of a3 4).toNatClampNeg) = 1 → (∀ x4 : Int32, x4 = (a2 + 0) → (∀ x5 : Int32, x5 = a3 + 1 → wl_Mod_keptOf_4 Post K n a1 x4 x5 u1)))))) ∧ (¬ (u1.1 (pf_Mod_of a3 3).toNatClampNeg) = a1 → (∀ x2 : Int32, x2 = (a2 + 0) → (∀ x3 : Int32, x3 = a3 + 1 → wl_Mod_keptOf_4 Post K n a1 x2 x3 u1)))))))
def wp_Mod_keptOf (u : RS) (p1 : Int32) (Post : Int32 → RS → Prop) : Prop := (∃ k10 : Nat, wl_Mod_keptOf_4 Post (fun x9 u8 => Post x9 u8) k10 p1 0 0 u)
set_option maxHeartbeats 4000000 in
set_option maxRecDepth 100000 in
theorem x_Mod_keptOf_4 {p : Program} {l : Launch} {e : Env} {s : State} {m : MethodId} {args : Array Value} {below : List Frame} {meth : Method} {c : Code} {A : Nat → Prop} {G : GG} {ad : Nat → Nat} {Post : Int32 → RS → Prop} {K : Int32 → RS → Prop} {Q : State → Prop}
    (hx : p.tables.exec = Jvm.exec) (hb : c.code = b_Mod_keptOf) (hr : meth.sig.returnType = some .int) (hts : ∀ w ∈ Tg, w.before args s = true) (hown : s.vm.findClass "HamperClubModel" = some m.cls) (hml : c.maxLocals = 4) (hlocks : meth.locks = false) (hA : ∀ q, s.heap.size ≤ q → A q) (hK : KN G s)
    (hQ : Q = MQ below (va_Qi Post (BW G A (refW G ad)) A) args s 0 0 A)
    (kk : ∀ (b2 : Int32) (u : RS), K b2 u → ∀ (H : Heap) (locs : List Loc) (ls : Array Slot), va_P G.1 classes (refW G ad u) H → va_D A (refW G ad u) → va_S A s.heap H locs → lv_has ls 4 [(2, .int b2)] → W p l e (rmK 1) s m args below meth c H locs 0 0 Q (F0 m 56 ls [])) :
    ∀ (n : Nat) (a1 : Int32) (a2 : Int32) (a3 : Int32) (u : RS), wl_Mod_keptOf_4 Post K n a1 a2 a3 u → ∀ (H : Heap) (locs : List Loc) (ls : Array Slot), va_P G.1 classes (refW G ad u) H → va_D A (refW G ad u) → va_S A s.heap H locs → lv_has ls 4 [(0, .ref (ad 0)), (1, .int a1), (2, .int a2), (3, .int a3)] → W p l e (rmK 1) s m args below meth c H locs 0 0 Q (F0 m 4 ls []) := by
  subst hQ
  intro n
  induction n with
  | zero => intro a1 a2 a3 u h; exact h.elim
  | succ n ih =>
    intro a1 a2 a3 u1 h H locs ls hP hD hS hl
    unfold wl_Mod_keptOf_4 at h
    refine lv_iload_n hx hb d_Mod_keptOf_4 rfl (lv_at hl 3 rfl) ?_
    refine lv_aload_n hx hb d_Mod_keptOf_5 rfl (lv_at hl 0 rfl) ?_
    refine gR_Mod_row hx hb hts hown hK hP tb_653 d_Mod_keptOf_6 ?_
    refine lv_iconst (v := 1) hx hb d_Mod_keptOf_9 (by decide) ?_
    refine lR_1 hx hb hK hP (by unfold vp_in; decide) d_Mod_keptOf_10 ?_
    refine lv_icmp_ge (tgt := 56) hx hb d_Mod_keptOf_11 (by decide) (fun hc => ?_) (fun hc => ?_)
    · have h := h.1 hc
      exact kk a2 u1 h _ _ _ hP hD hS (lv_sub hl [2] rfl)
    · have h := h.2 hc
      refine lv_iload_n hx hb d_Mod_keptOf_14 rfl (lv_at hl 2 rfl) ?_
      refine lv_aload_n hx hb d_Mod_keptOf_15 rfl (lv_at hl 0 rfl) ?_
      refine gR_Mod_row hx hb hts hown hK hP tb_653 d_Mod_keptOf_16 ?_
      refine lv_iload_n hx hb d_Mod_keptOf_19 rfl (lv_at hl 3 rfl) ?_
      refine lv_iconst (v := 3) hx hb d_Mod_keptOf_20 (by decide) ?_
      refine call_S (As := [.int a3, .int 3]) (rest := [.ref (ad 1), .int a2]) hx hb hml hts hown so_Mod_43 rfl ⟨Nat.le_of_ble_eq_true rfl, Nat.le_of_ble_eq_true rfl⟩ ⟨Nat.le_of_ble_eq_true rfl, Nat.le_of_ble_eq_true rfl⟩ hl.1 rfl (Nat.le_of_ble_eq_true rfl) d_Mod_keptOf_21 (k_Mod_of l a3 3) ?_
      obtain ⟨hi, h⟩ := h
      refine lR_1 hx hb hK hP hi d_Mod_keptOf_24 ?_
      refine lv_iload_n hx hb d_Mod_keptOf_25 rfl (lv_at hl 1 rfl) ?_
      refine lv_icmp_ne (tgt := 47) hx hb d_Mod_keptOf_26 (by decide) (fun hc => ?_) (fun hc => ?_)
      · have h := h.2 hc
        refine lv_iconst (v := 0) hx hb d_Mod_keptOf_47 (by decide) ?_
        refine lv_iadd hx hb d_Mod_keptOf_48 ?_
        refine lv_topi (fun x2 ex2 => ?_)
        have h := h x2 ex2
        refine lv_istore_n (lv' := [(2, .int x2), (0, .ref (ad 0)), (1, .int a1), (3, .int a3)]) hx hb d_Mod_keptOf_49 rfl hl (by decide) rfl (fun ls hl => ?_)
        obtain ⟨x3, ex3⟩ : ∃ y : Int32, y = a3 + 1 := ⟨_, rfl⟩
        have h := h x3 ex3
        refine lv_iinc (v := x3) (lv' := [(3, .int x3), (2, .int x2), (0, .ref (ad 0)), (1, .int a1)]) hx hb d_Mod_keptOf_50 hl (k := 3) rfl (by rw [ex3]; rfl) (by decide) rfl (fun ls hl => ?_)
        refine lv_goto (tgt := 4) hx hb d_Mod_keptOf_53 (by decide) ?_
        exact ih a1 x2 x3 u1 h _ _ _ hP hD hS (lv_sub hl [2, 3, 1, 0] rfl)
      · have h := h.1 hc
        refine lv_aload_n hx hb d_Mod_keptOf_29 rfl (lv_at hl 0 rfl) ?_
        refine gR_Mod_row hx hb hts hown hK hP tb_653 d_Mod_keptOf_30 ?_
        refine lv_iload_n hx hb d_Mod_keptOf_33 rfl (lv_at hl 3 rfl) ?_
        refine lv_iconst (v := 4) hx hb d_Mod_keptOf_34 (by decide) ?_
        refine call_S (As := [.int a3, .int 4]) (rest := [.ref (ad 1), .int a2]) hx hb hml hts hown so_Mod_43 rfl ⟨Nat.le_of_ble_eq_true rfl, Nat.le_of_ble_eq_true rfl⟩ ⟨Nat.le_of_ble_eq_true rfl, Nat.le_of_ble_eq_true rfl⟩ hl.1 rfl (Nat.le_of_ble_eq_true rfl) d_Mod_keptOf_35 (k_Mod_of l a3 4) ?_
        obtain ⟨hi, h⟩ := h
        refine lR_1 hx hb hK hP hi d_Mod_keptOf_38 ?_
        refine lv_iconst (v := 1) hx hb d_Mod_keptOf_39 (by decide) ?_
        refine lv_icmp_ne (tgt := 47) hx hb d_Mod_keptOf_40 (by decide) (fun hc => ?_) (fun hc => ?_)
        · have h := h.2 hc
          refine lv_iconst (v := 0) hx hb d_Mod_keptOf_47 (by decide) ?_
          refine lv_iadd hx hb d_Mod_keptOf_48 ?_
          refine lv_topi (fun x4 ex4 => ?_)
          have h := h x4 ex4
          refine lv_istore_n (lv' := [(2, .int x4), (0, .ref (ad 0)), (1, .int a1), (3, .int a3)]) hx hb d_Mod_keptOf_49 rfl hl (by decide) rfl (fun ls hl => ?_)
          obtain ⟨x5, ex5⟩ : ∃ y : Int32, y = a3 + 1 := ⟨_, rfl⟩
          have h := h x5 ex5
          refine lv_iinc (v := x5) (lv' := [(3, .int x5), (2, .int x4), (0, .ref (ad 0)), (1, .int a1)]) hx hb d_Mod_keptOf_50 hl (k := 3) rfl (by rw [ex5]; rfl) (by decide) rfl (fun ls hl => ?_)
          refine lv_goto (tgt := 4) hx hb d_Mod_keptOf_53 (by decide) ?_
          exact ih a1 x4 x5 u1 h _ _ _ hP hD hS (lv_sub hl [2, 3, 1, 0] rfl)
        · have h := h.1 hc
          refine lv_iconst (v := 1) hx hb d_Mod_keptOf_43 (by decide) ?_
          refine lv_goto (tgt := 48) hx hb d_Mod_keptOf_44 (by decide) ?_
          refine lv_iadd hx hb d_Mod_keptOf_48 ?_
          refine lv_topi (fun x6 ex6 => ?_)
          have h := h x6 ex6
          refine lv_istore_n (lv' := [(2, .int x6), (0, .ref (ad 0)), (1, .int a1), (3, .int a3)]) hx hb d_Mod_keptOf_49 rfl hl (by decide) rfl (fun ls hl => ?_)
          obtain ⟨x7, ex7⟩ : ∃ y : Int32, y = a3 + 1 := ⟨_, rfl⟩
          have h := h x7 ex7
          refine lv_iinc (v := x7) (lv' := [(3, .int x7), (2, .int x6), (0, .ref (ad 0)), (1, .int a1)]) hx hb d_Mod_keptOf_50 hl (k := 3) rfl (by rw [ex7]; rfl) (by decide) rfl (fun ls hl => ?_)
          refine lv_goto (tgt := 4) hx hb d_Mod_keptOf_53 (by decide) ?_
          exact ih a1 x6 x7 u1 h _ _ _ hP hD hS (lv_sub hl [2, 3, 1, 0] rfl)
set_option maxHeartbeats 4000000 in
set_option maxRecDepth 100000 in
theorem c_Mod_keptOf (l : Launch) (G : GG) (ad : Nat → Nat) (sz : Nat) (u : RS) (p1 : Int32) (Post : Int32 → RS → Prop) (h : wp_Mod_keptOf u p1 Post) : CMi l y_Mod_keptOf b_Mod_keptOf 4 .int 1 G [.ref (ad 0), .int p1] sz (refW G ad u) (refW G ad) Post := by
  refine CMi.start (by decide) (Nat.le_of_ble_eq_true rfl) (fun p e s m below meth c A ls hx hb hr hts hown hml hlocks hA hS hP hD hK hl => ?_)
  unfold wp_Mod_keptOf at h
  have hl : lv_has ls 4 [(0, .ref (ad 0)), (1, .int p1)] := hl
  refine lv_iconst (v := 0) hx hb d_Mod_keptOf_0 (by decide) ?_
  refine lv_istore_n (lv' := [(2, .int 0), (0, .ref (ad 0)), (1, .int p1)]) hx hb d_Mod_keptOf_1 rfl hl (by decide) rfl (fun ls hl => ?_)
  refine lv_iconst (v := 0) hx hb d_Mod_keptOf_2 (by decide) ?_
  refine lv_istore_n (lv' := [(3, .int 0), (2, .int 0), (0, .ref (ad 0)), (1, .int p1)]) hx hb d_Mod_keptOf_3 rfl hl (by decide) rfl (fun ls hl => ?_)
  obtain ⟨n, h⟩ := h
  refine x_Mod_keptOf_4 hx hb hr hts hown hml hlocks hA hK rfl (fun x9 u8 h H locs ls hP hD hS hl => ?_) n p1 0 0 u h _ _ _ hP hD hS (lv_sub hl [2, 3, 1, 0] rfl)
  refine lv_iload_n hx hb d_Mod_keptOf_56 rfl (lv_at hl 0 rfl) ?_
  exact r_iret hx hb hr hlocks hP hD hS d_Mod_keptOf_57 h
def wp_Mod_take (u : RS) (p1 : Int32) (Post : Int32 → RS → Prop) : Prop := (((pf_Mod_in p1 0 1) = 0 → Post (-1) u) ∧ (¬ (pf_Mod_in p1 0 1) = 0 → (wp_Mod_record u  (fun u1 => (wp_Mod_copy u1 0 (226 + (226 * p1)) 226 (fun u2 => (vp_in (678 + p1) 4306 ∧ (∀ u3 : RS, u3 = (rR u2 (upd u2.1 (678 + p1).toNatClampNeg 1)) → Post (u3.1 (0 : Int32).toNatClampNeg) u3))))))))
theorem ok_Mod_36 : CallOk y_Mod_record b_Mod_record 2 none 1 0 "HamperClubModel" 36 := ⟨tb_697, tb_699, sl_12, tb_12, tb_700, by decide +kernel⟩
set_option maxHeartbeats 4000000 in
set_option maxRecDepth 100000 in
theorem c_Mod_take (l : Launch) (G : GG) (ad : Nat → Nat) (sz : Nat) (u : RS) (p1 : Int32) (Post : Int32 → RS → Prop) (h : wp_Mod_take u p1 Post) : CMi l y_Mod_take b_Mod_take 2 .int 2 G [.ref (ad 0), .int p1] sz (refW G ad u) (refW G ad) Post := by
  refine CMi.start (by decide) (Nat.le_of_ble_eq_true rfl) (fun p e s m below meth c A ls hx hb hr hts hown hml hlocks hA hS hP hD hK hl => ?_)
  unfold wp_Mod_take at h
  have hl : lv_has ls 2 [(0, .ref (ad 0)), (1, .int p1)] := hl
  refine lv_iload_n hx hb d_Mod_take_0 rfl (lv_at hl 1 rfl) ?_
  refine lv_iconst (v := 0) hx hb d_Mod_take_1 (by decide) ?_
  refine lv_iconst (v := 1) hx hb d_Mod_take_2 (by decide) ?_
  refine call_S (As := [.int p1, .int 0, .int 1]) (rest := []) hx hb hml hts hown so_Mod_24 rfl ⟨Nat.le_of_ble_eq_true rfl, Nat.le_of_ble_eq_true rfl⟩ ⟨Nat.le_of_ble_eq_true rfl, Nat.le_of_ble_eq_true rfl⟩ hl.1 rfl (Nat.le_of_ble_eq_true rfl) d_Mod_take_3 (k_Mod_in l p1 0 1) ?_
  refine lv_if_ne (tgt := 11) hx hb d_Mod_take_6 (by decide) (fun hc => ?_) (fun hc => ?_)
  · have h := h.2 hc
    refine lv_aload_n hx hb d_Mod_take_11 rfl (lv_at hl 0 rfl) ?_
    refine call_Vv1 (own := "HamperClubModel") (As := []) (rest := []) (q0 := 0) (ci := 9) hx hb hml hts hown hK hA hP hD hS ok_Mod_36 rfl ⟨Nat.le_of_ble_eq_true rfl, Nat.le_of_ble_eq_true rfl⟩ ⟨Nat.le_of_ble_eq_true rfl, Nat.le_of_ble_eq_true rfl⟩ rfl rfl rfl hl.1 rfl (Nat.le_of_ble_eq_true rfl) d_Mod_take_12 (c_Mod_record l G ad _ u  _ h) (fun u1 H locs h hP hD hS => ?_)
    refine lv_aload_n hx hb d_Mod_take_15 rfl (lv_at hl 0 rfl) ?_
    refine lv_iconst (v := 0) hx hb d_Mod_take_16 (by decide) ?_
    refine lv_sipush (v := 226) hx hb d_Mod_take_17 (by decide) ?_
    refine lv_sipush (v := 226) hx hb d_Mod_take_20 (by decide) ?_
    refine lv_iload_n hx hb d_Mod_take_23 rfl (lv_at hl 1 rfl) ?_
    refine lv_imul hx hb d_Mod_take_24 ?_
    refine lv_iadd hx hb d_Mod_take_25 ?_
    refine lv_sipush (v := 226) hx hb d_Mod_take_26 (by decide) ?_
    refine call_Vv1 (own := "HamperClubModel") (As := [.int 0, .int (226 + (226 * p1)), .int 226]) (rest := []) (q0 := 0) (ci := 9) hx hb hml hts hown hK hA hP hD hS ok_Mod_32 rfl ⟨Nat.le_of_ble_eq_true rfl, Nat.le_of_ble_eq_true rfl⟩ ⟨Nat.le_of_ble_eq_true rfl, Nat.le_of_ble_eq_true rfl⟩ rfl rfl rfl hl.1 rfl (Nat.le_of_ble_eq_true rfl) d_Mod_take_29 (c_Mod_copy l G ad _ u1 0 (226 + (226 * p1)) 226 _ h) (fun u2 H locs h hP hD hS => ?_)
    refine lv_aload_n hx hb d_Mod_take_32 rfl (lv_at hl 0 rfl) ?_
    refine gR_Mod_row hx hb hts hown hK hP tb_653 d_Mod_take_33 ?_
    refine lv_sipush (v := 678) hx hb d_Mod_take_36 (by decide) ?_
    refine lv_iload_n hx hb d_Mod_take_39 rfl (lv_at hl 1 rfl) ?_
    refine lv_iadd hx hb d_Mod_take_40 ?_
    refine lv_iconst (v := 1) hx hb d_Mod_take_41 (by decide) ?_
    obtain ⟨hi, h⟩ := h
    refine sR_1 hx hb hK hP hD hS hi d_Mod_take_42 (fun u3 H locs eu3 hP hD hS => ?_)
    have h := h u3 eu3
    refine lv_aload_n hx hb d_Mod_take_43 rfl (lv_at hl 0 rfl) ?_
    refine gR_Mod_row hx hb hts hown hK hP tb_653 d_Mod_take_44 ?_
    refine lv_iconst (v := 0) hx hb d_Mod_take_47 (by decide) ?_
    refine lR_1 hx hb hK hP (by unfold vp_in; decide) d_Mod_take_48 ?_
    exact r_iret hx hb hr hlocks hP hD hS d_Mod_take_49 h
  · have h := h.1 hc
    refine lv_iconst (v := (-1)) hx hb d_Mod_take_9 (by decide) ?_
    exact r_iret hx hb hr hlocks hP hD hS d_Mod_take_10 h
def wp_Mod_restore (u : RS) (p1 : Int32) (Post : Int32 → RS → Prop) : Prop := (((pf_Mod_in p1 0 1) = 0 → Post (-1) u) ∧ (¬ (pf_Mod_in p1 0 1) = 0 → (vp_in (678 + p1) 4306 ∧ (((u.1 (678 + p1).toNatClampNeg) = 0 → Post (-2) u) ∧ (¬ (u.1 (678 + p1).toNatClampNeg) = 0 → (wp_Mod_record u  (fun u1 => (wp_Mod_copy u1 (226 + (226 * p1)) 0 226 (fun u2 => Post (u2.1 (0 : Int32).toNatClampNeg) u2)))))))))
set_option maxHeartbeats 4000000 in
set_option maxRecDepth 100000 in
theorem c_Mod_restore (l : Launch) (G : GG) (ad : Nat → Nat) (sz : Nat) (u : RS) (p1 : Int32) (Post : Int32 → RS → Prop) (h : wp_Mod_restore u p1 Post) : CMi l y_Mod_restore b_Mod_restore 2 .int 2 G [.ref (ad 0), .int p1] sz (refW G ad u) (refW G ad) Post := by
  refine CMi.start (by decide) (Nat.le_of_ble_eq_true rfl) (fun p e s m below meth c A ls hx hb hr hts hown hml hlocks hA hS hP hD hK hl => ?_)
  unfold wp_Mod_restore at h
  have hl : lv_has ls 2 [(0, .ref (ad 0)), (1, .int p1)] := hl
  refine lv_iload_n hx hb d_Mod_restore_0 rfl (lv_at hl 1 rfl) ?_
  refine lv_iconst (v := 0) hx hb d_Mod_restore_1 (by decide) ?_
  refine lv_iconst (v := 1) hx hb d_Mod_restore_2 (by decide) ?_
  refine call_S (As := [.int p1, .int 0, .int 1]) (rest := []) hx hb hml hts hown so_Mod_24 rfl ⟨Nat.le_of_ble_eq_true rfl, Nat.le_of_ble_eq_true rfl⟩ ⟨Nat.le_of_ble_eq_true rfl, Nat.le_of_ble_eq_true rfl⟩ hl.1 rfl (Nat.le_of_ble_eq_true rfl) d_Mod_restore_3 (k_Mod_in l p1 0 1) ?_
  refine lv_if_ne (tgt := 11) hx hb d_Mod_restore_6 (by decide) (fun hc => ?_) (fun hc => ?_)
  · have h := h.2 hc
    refine lv_aload_n hx hb d_Mod_restore_11 rfl (lv_at hl 0 rfl) ?_
    refine gR_Mod_row hx hb hts hown hK hP tb_653 d_Mod_restore_12 ?_
    refine lv_sipush (v := 678) hx hb d_Mod_restore_15 (by decide) ?_
    refine lv_iload_n hx hb d_Mod_restore_18 rfl (lv_at hl 1 rfl) ?_
    refine lv_iadd hx hb d_Mod_restore_19 ?_
    obtain ⟨hi, h⟩ := h
    refine lR_1 hx hb hK hP hi d_Mod_restore_20 ?_
    refine lv_if_ne (tgt := 27) hx hb d_Mod_restore_21 (by decide) (fun hc => ?_) (fun hc => ?_)
    · have h := h.2 hc
      refine lv_aload_n hx hb d_Mod_restore_27 rfl (lv_at hl 0 rfl) ?_
      refine call_Vv1 (own := "HamperClubModel") (As := []) (rest := []) (q0 := 0) (ci := 9) hx hb hml hts hown hK hA hP hD hS ok_Mod_36 rfl ⟨Nat.le_of_ble_eq_true rfl, Nat.le_of_ble_eq_true rfl⟩ ⟨Nat.le_of_ble_eq_true rfl, Nat.le_of_ble_eq_true rfl⟩ rfl rfl rfl hl.1 rfl (Nat.le_of_ble_eq_true rfl) d_Mod_restore_28 (c_Mod_record l G ad _ u  _ h) (fun u1 H locs h hP hD hS => ?_)
      refine lv_aload_n hx hb d_Mod_restore_31 rfl (lv_at hl 0 rfl) ?_
      refine lv_sipush (v := 226) hx hb d_Mod_restore_32 (by decide) ?_
      refine lv_sipush (v := 226) hx hb d_Mod_restore_35 (by decide) ?_
      refine lv_iload_n hx hb d_Mod_restore_38 rfl (lv_at hl 1 rfl) ?_
      refine lv_imul hx hb d_Mod_restore_39 ?_
      refine lv_iadd hx hb d_Mod_restore_40 ?_
      refine lv_iconst (v := 0) hx hb d_Mod_restore_41 (by decide) ?_
      refine lv_sipush (v := 226) hx hb d_Mod_restore_42 (by decide) ?_
      refine call_Vv1 (own := "HamperClubModel") (As := [.int (226 + (226 * p1)), .int 0, .int 226]) (rest := []) (q0 := 0) (ci := 9) hx hb hml hts hown hK hA hP hD hS ok_Mod_32 rfl ⟨Nat.le_of_ble_eq_true rfl, Nat.le_of_ble_eq_true rfl⟩ ⟨Nat.le_of_ble_eq_true rfl, Nat.le_of_ble_eq_true rfl⟩ rfl rfl rfl hl.1 rfl (Nat.le_of_ble_eq_true rfl) d_Mod_restore_45 (c_Mod_copy l G ad _ u1 (226 + (226 * p1)) 0 226 _ h) (fun u2 H locs h hP hD hS => ?_)
      refine lv_aload_n hx hb d_Mod_restore_48 rfl (lv_at hl 0 rfl) ?_
      refine gR_Mod_row hx hb hts hown hK hP tb_653 d_Mod_restore_49 ?_
      refine lv_iconst (v := 0) hx hb d_Mod_restore_52 (by decide) ?_
      refine lR_1 hx hb hK hP (by unfold vp_in; decide) d_Mod_restore_53 ?_
      exact r_iret hx hb hr hlocks hP hD hS d_Mod_restore_54 h
    · have h := h.1 hc
      refine lv_bipush (v := (-2)) hx hb d_Mod_restore_24 (by decide) ?_
      exact r_iret hx hb hr hlocks hP hD hS d_Mod_restore_26 h
  · have h := h.1 hc
    refine lv_iconst (v := (-1)) hx hb d_Mod_restore_9 (by decide) ?_
    exact r_iret hx hb hr hlocks hP hD hS d_Mod_restore_10 h
def wl_Mod_join_37 (Post : Int32 → RS → Prop) (K : Int32 → RS → Prop) : Nat → Int32 → Int32 → RS → Prop
  | 0, _, _ => fun _ => False
  | n + 1, a1, a2 => fun u5 => ((13 ≤ a2 → K a1 u5) ∧ (¬ 13 ≤ a2 → (vp_in (pf_Mod_of a1 a2) 4306 ∧ (∀ u6 : RS, u6 = (rR u5 (upd u5.1 (pf_Mod_of a1 a2).toNatClampNeg 0)) → (∀ x7 : Int32, x7 = a2 + 1 → wl_Mod_join_37 Post K n a1 x7 u6)))))
def wp_Mod_join (u : RS) (Post : Int32 → RS → Prop) : Prop := (wp_Mod_isSettled u  (fun x2 u1 => ((x2 = 0 → (((u1.1 (1 : Int32).toNatClampNeg) = 12 → Post (-3) u1) ∧ (¬ (u1.1 (1 : Int32).toNatClampNeg) = 12 → (wp_Mod_record u1  (fun u3 => (∀ x4 : Int32, x4 = (u3.1 (1 : Int32).toNatClampNeg) → (∃ k15 : Nat, wl_Mod_join_37 Post (fun x9 u8 => (vp_in (pf_Mod_of x9 3) 4306 ∧ (∀ u10 : RS, u10 = (rR u8 (upd u8.1 (pf_Mod_of x9 3).toNatClampNeg (-9))) → (vp_in (pf_Mod_of x9 6) 4306 ∧ (∀ u11 : RS, u11 = (rR u10 (upd u10.1 (pf_Mod_of x9 6).toNatClampNeg (u10.1 (0 : Int32).toNatClampNeg))) → (vp_in (pf_Mod_of x9 9) 4306 ∧ (∀ u12 : RS, u12 = (rR u11 (upd u11.1 (pf_Mod_of x9 9).toNatClampNeg (-9))) → (vp_in (pf_Mod_of x9 11) 4306 ∧ (∀ u13 : RS, u13 = (rR u12 (upd u12.1 (pf_Mod_of x9 11).toNatClampNeg (-9))) → (∀ u14 : RS, u14 = (rR u13 (upd u13.1 (1 : Int32).toNatClampNeg ((u13.1 (1 : Int32).toNatClampNeg) + 1))) → Post x9 u14)))))))))) k15 x4 0 u3))))))) ∧ (¬ x2 = 0 → Post (-2) u1))))
set_option maxHeartbeats 4000000 in
set_option maxRecDepth 100000 in
theorem x_Mod_join_37 {p : Program} {l : Launch} {e : Env} {s : State} {m : MethodId} {args : Array Value} {below : List Frame} {meth : Method} {c : Code} {A : Nat → Prop} {G : GG} {ad : Nat → Nat} {Post : Int32 → RS → Prop} {K : Int32 → RS → Prop} {Q : State → Prop}
    (hx : p.tables.exec = Jvm.exec) (hb : c.code = b_Mod_join) (hr : meth.sig.returnType = some .int) (hts : ∀ w ∈ Tg, w.before args s = true) (hown : s.vm.findClass "HamperClubModel" = some m.cls) (hml : c.maxLocals = 3) (hlocks : meth.locks = false) (hA : ∀ q, s.heap.size ≤ q → A q) (hK : KN G s)
    (hQ : Q = MQ below (va_Qi Post (BW G A (refW G ad)) A) args s 0 0 A)
    (kk : ∀ (b1 : Int32) (u : RS), K b1 u → ∀ (H : Heap) (locs : List Loc) (ls : Array Slot), va_P G.1 classes (refW G ad u) H → va_D A (refW G ad u) → va_S A s.heap H locs → lv_has ls 3 [(0, .ref (ad 0)), (1, .int b1)] → W p l e (rmK 2) s m args below meth c H locs 0 0 Q (F0 m 60 ls [])) :
    ∀ (n : Nat) (a1 : Int32) (a2 : Int32) (u : RS), wl_Mod_join_37 Post K n a1 a2 u → ∀ (H : Heap) (locs : List Loc) (ls : Array Slot), va_P G.1 classes (refW G ad u) H → va_D A (refW G ad u) → va_S A s.heap H locs → lv_has ls 3 [(0, .ref (ad 0)), (1, .int a1), (2, .int a2)] → W p l e (rmK 2) s m args below meth c H locs 0 0 Q (F0 m 37 ls []) := by
  subst hQ
  intro n
  induction n with
  | zero => intro a1 a2 u h; exact h.elim
  | succ n ih =>
    intro a1 a2 u5 h H locs ls hP hD hS hl
    unfold wl_Mod_join_37 at h
    refine lv_iload_n hx hb d_Mod_join_37 rfl (lv_at hl 2 rfl) ?_
    refine lv_bipush (v := 13) hx hb d_Mod_join_38 (by decide) ?_
    refine lv_icmp_ge (tgt := 60) hx hb d_Mod_join_40 (by decide) (fun hc => ?_) (fun hc => ?_)
    · have h := h.1 hc
      exact kk a1 u5 h _ _ _ hP hD hS (lv_sub hl [0, 1] rfl)
    · have h := h.2 hc
      refine lv_aload_n hx hb d_Mod_join_43 rfl (lv_at hl 0 rfl) ?_
      refine gR_Mod_row hx hb hts hown hK hP tb_653 d_Mod_join_44 ?_
      refine lv_iload_n hx hb d_Mod_join_47 rfl (lv_at hl 1 rfl) ?_
      refine lv_iload_n hx hb d_Mod_join_48 rfl (lv_at hl 2 rfl) ?_
      refine call_S (As := [.int a1, .int a2]) (rest := [.ref (ad 1)]) hx hb hml hts hown so_Mod_43 rfl ⟨Nat.le_of_ble_eq_true rfl, Nat.le_of_ble_eq_true rfl⟩ ⟨Nat.le_of_ble_eq_true rfl, Nat.le_of_ble_eq_true rfl⟩ hl.1 rfl (Nat.le_of_ble_eq_true rfl) d_Mod_join_49 (k_Mod_of l a1 a2) ?_
      refine lv_iconst (v := 0) hx hb d_Mod_join_52 (by decide) ?_
      obtain ⟨hi, h⟩ := h
      refine sR_1 hx hb hK hP hD hS hi d_Mod_join_53 (fun u6 H locs eu6 hP hD hS => ?_)
      have h := h u6 eu6
      obtain ⟨x7, ex7⟩ : ∃ y : Int32, y = a2 + 1 := ⟨_, rfl⟩
      have h := h x7 ex7
      refine lv_iinc (v := x7) (lv' := [(2, .int x7), (0, .ref (ad 0)), (1, .int a1)]) hx hb d_Mod_join_54 hl (k := 2) rfl (by rw [ex7]; rfl) (by decide) rfl (fun ls hl => ?_)
      refine lv_goto (tgt := 37) hx hb d_Mod_join_57 (by decide) ?_
      exact ih a1 x7 u6 h _ _ _ hP hD hS (lv_sub hl [1, 2, 0] rfl)
set_option maxHeartbeats 4000000 in
set_option maxRecDepth 100000 in
theorem c_Mod_join (l : Launch) (G : GG) (ad : Nat → Nat) (sz : Nat) (u : RS) (Post : Int32 → RS → Prop) (h : wp_Mod_join u Post) : CMi l y_Mod_join b_Mod_join 3 .int 2 G [.ref (ad 0)] sz (refW G ad u) (refW G ad) Post := by
  refine CMi.start (by decide) (Nat.le_of_ble_eq_true rfl) (fun p e s m below meth c A ls hx hb hr hts hown hml hlocks hA hS hP hD hK hl => ?_)
  unfold wp_Mod_join at h
  have hl : lv_has ls 3 [(0, .ref (ad 0))] := hl
  refine lv_aload_n hx hb d_Mod_join_0 rfl (lv_at hl 0 rfl) ?_
  refine call_Vi1 (own := "HamperClubModel") (As := []) (rest := []) (q0 := 0) (ci := 9) hx hb hml hts hown hK hA hP hD hS ok_Mod_39 rfl ⟨Nat.le_of_ble_eq_true rfl, Nat.le_of_ble_eq_true rfl⟩ ⟨Nat.le_of_ble_eq_true rfl, Nat.le_of_ble_eq_true rfl⟩ rfl rfl rfl hl.1 rfl (Nat.le_of_ble_eq_true rfl) d_Mod_join_1 (c_Mod_isSettled l G ad _ u  _ h) (fun x2 u1 H locs h hP hD hS => ?_)
  refine lv_if_eq (tgt := 10) hx hb d_Mod_join_4 (by decide) (fun hc => ?_) (fun hc => ?_)
  · have h := h.1 hc
    refine lv_aload_n hx hb d_Mod_join_10 rfl (lv_at hl 0 rfl) ?_
    refine gR_Mod_row hx hb hts hown hK hP tb_653 d_Mod_join_11 ?_
    refine lv_iconst (v := 1) hx hb d_Mod_join_14 (by decide) ?_
    refine lR_1 hx hb hK hP (by unfold vp_in; decide) d_Mod_join_15 ?_
    refine lv_bipush (v := 12) hx hb d_Mod_join_16 (by decide) ?_
    refine lv_icmp_ne (tgt := 24) hx hb d_Mod_join_18 (by decide) (fun hc => ?_) (fun hc => ?_)
    · have h := h.2 hc
      refine lv_aload_n hx hb d_Mod_join_24 rfl (lv_at hl 0 rfl) ?_
      refine call_Vv1 (own := "HamperClubModel") (As := []) (rest := []) (q0 := 0) (ci := 9) hx hb hml hts hown hK hA hP hD hS ok_Mod_36 rfl ⟨Nat.le_of_ble_eq_true rfl, Nat.le_of_ble_eq_true rfl⟩ ⟨Nat.le_of_ble_eq_true rfl, Nat.le_of_ble_eq_true rfl⟩ rfl rfl rfl hl.1 rfl (Nat.le_of_ble_eq_true rfl) d_Mod_join_25 (c_Mod_record l G ad _ u1  _ h) (fun u3 H locs h hP hD hS => ?_)
      refine lv_aload_n hx hb d_Mod_join_28 rfl (lv_at hl 0 rfl) ?_
      refine gR_Mod_row hx hb hts hown hK hP tb_653 d_Mod_join_29 ?_
      refine lv_iconst (v := 1) hx hb d_Mod_join_32 (by decide) ?_
      refine lR_1 hx hb hK hP (by unfold vp_in; decide) d_Mod_join_33 ?_
      refine lv_topi (fun x4 ex4 => ?_)
      have h := h x4 ex4
      refine lv_istore_n (lv' := [(1, .int x4), (0, .ref (ad 0))]) hx hb d_Mod_join_34 rfl hl (by decide) rfl (fun ls hl => ?_)
      refine lv_iconst (v := 0) hx hb d_Mod_join_35 (by decide) ?_
      refine lv_istore_n (lv' := [(2, .int 0), (1, .int x4), (0, .ref (ad 0))]) hx hb d_Mod_join_36 rfl hl (by decide) rfl (fun ls hl => ?_)
      obtain ⟨n, h⟩ := h
      refine x_Mod_join_37 hx hb hr hts hown hml hlocks hA hK rfl (fun x9 u8 h H locs ls hP hD hS hl => ?_) n x4 0 u3 h _ _ _ hP hD hS (lv_sub hl [2, 1, 0] rfl)
      refine lv_aload_n hx hb d_Mod_join_60 rfl (lv_at hl 0 rfl) ?_
      refine gR_Mod_row hx hb hts hown hK hP tb_653 d_Mod_join_61 ?_
      refine lv_iload_n hx hb d_Mod_join_64 rfl (lv_at hl 1 rfl) ?_
      refine lv_iconst (v := 3) hx hb d_Mod_join_65 (by decide) ?_
      refine call_S (As := [.int x9, .int 3]) (rest := [.ref (ad 1)]) hx hb hml hts hown so_Mod_43 rfl ⟨Nat.le_of_ble_eq_true rfl, Nat.le_of_ble_eq_true rfl⟩ ⟨Nat.le_of_ble_eq_true rfl, Nat.le_of_ble_eq_true rfl⟩ hl.1 rfl (Nat.le_of_ble_eq_true rfl) d_Mod_join_66 (k_Mod_of l x9 3) ?_
      refine lv_bipush (v := (-9)) hx hb d_Mod_join_69 (by decide) ?_
      obtain ⟨hi, h⟩ := h
      refine sR_1 hx hb hK hP hD hS hi d_Mod_join_71 (fun u10 H locs eu10 hP hD hS => ?_)
      have h := h u10 eu10
      refine lv_aload_n hx hb d_Mod_join_72 rfl (lv_at hl 0 rfl) ?_
      refine gR_Mod_row hx hb hts hown hK hP tb_653 d_Mod_join_73 ?_
      refine lv_iload_n hx hb d_Mod_join_76 rfl (lv_at hl 1 rfl) ?_
      refine lv_bipush (v := 6) hx hb d_Mod_join_77 (by decide) ?_
      refine call_S (As := [.int x9, .int 6]) (rest := [.ref (ad 1)]) hx hb hml hts hown so_Mod_43 rfl ⟨Nat.le_of_ble_eq_true rfl, Nat.le_of_ble_eq_true rfl⟩ ⟨Nat.le_of_ble_eq_true rfl, Nat.le_of_ble_eq_true rfl⟩ hl.1 rfl (Nat.le_of_ble_eq_true rfl) d_Mod_join_79 (k_Mod_of l x9 6) ?_
      refine lv_aload_n hx hb d_Mod_join_82 rfl (lv_at hl 0 rfl) ?_
      refine gR_Mod_row hx hb hts hown hK hP tb_653 d_Mod_join_83 ?_
      refine lv_iconst (v := 0) hx hb d_Mod_join_86 (by decide) ?_
      refine lR_1 hx hb hK hP (by unfold vp_in; decide) d_Mod_join_87 ?_
      obtain ⟨hi, h⟩ := h
      refine sR_1 hx hb hK hP hD hS hi d_Mod_join_88 (fun u11 H locs eu11 hP hD hS => ?_)
      have h := h u11 eu11
      refine lv_aload_n hx hb d_Mod_join_89 rfl (lv_at hl 0 rfl) ?_
      refine gR_Mod_row hx hb hts hown hK hP tb_653 d_Mod_join_90 ?_
      refine lv_iload_n hx hb d_Mod_join_93 rfl (lv_at hl 1 rfl) ?_
      refine lv_bipush (v := 9) hx hb d_Mod_join_94 (by decide) ?_
      refine call_S (As := [.int x9, .int 9]) (rest := [.ref (ad 1)]) hx hb hml hts hown so_Mod_43 rfl ⟨Nat.le_of_ble_eq_true rfl, Nat.le_of_ble_eq_true rfl⟩ ⟨Nat.le_of_ble_eq_true rfl, Nat.le_of_ble_eq_true rfl⟩ hl.1 rfl (Nat.le_of_ble_eq_true rfl) d_Mod_join_96 (k_Mod_of l x9 9) ?_
      refine lv_bipush (v := (-9)) hx hb d_Mod_join_99 (by decide) ?_
      obtain ⟨hi, h⟩ := h
      refine sR_1 hx hb hK hP hD hS hi d_Mod_join_101 (fun u12 H locs eu12 hP hD hS => ?_)
      have h := h u12 eu12
      refine lv_aload_n hx hb d_Mod_join_102 rfl (lv_at hl 0 rfl) ?_
      refine gR_Mod_row hx hb hts hown hK hP tb_653 d_Mod_join_103 ?_
      refine lv_iload_n hx hb d_Mod_join_106 rfl (lv_at hl 1 rfl) ?_
      refine lv_bipush (v := 11) hx hb d_Mod_join_107 (by decide) ?_
      refine call_S (As := [.int x9, .int 11]) (rest := [.ref (ad 1)]) hx hb hml hts hown so_Mod_43 rfl ⟨Nat.le_of_ble_eq_true rfl, Nat.le_of_ble_eq_true rfl⟩ ⟨Nat.le_of_ble_eq_true rfl, Nat.le_of_ble_eq_true rfl⟩ hl.1 rfl (Nat.le_of_ble_eq_true rfl) d_Mod_join_109 (k_Mod_of l x9 11) ?_
      refine lv_bipush (v := (-9)) hx hb d_Mod_join_112 (by decide) ?_
      obtain ⟨hi, h⟩ := h
      refine sR_1 hx hb hK hP hD hS hi d_Mod_join_114 (fun u13 H locs eu13 hP hD hS => ?_)
      have h := h u13 eu13
      refine lv_aload_n hx hb d_Mod_join_115 rfl (lv_at hl 0 rfl) ?_
      refine gR_Mod_row hx hb hts hown hK hP tb_653 d_Mod_join_116 ?_
      refine lv_iconst (v := 1) hx hb d_Mod_join_119 (by decide) ?_
      refine lv_dup2_11 hx hb d_Mod_join_120 rfl rfl ?_
      refine lR_1 hx hb hK hP (by unfold vp_in; decide) d_Mod_join_121 ?_
      refine lv_iconst (v := 1) hx hb d_Mod_join_122 (by decide) ?_
      refine lv_iadd hx hb d_Mod_join_123 ?_
      refine sR_1 hx hb hK hP hD hS (by unfold vp_in; decide) d_Mod_join_124 (fun u14 H locs eu14 hP hD hS => ?_)
      have h := h u14 eu14
      refine lv_iload_n hx hb d_Mod_join_125 rfl (lv_at hl 1 rfl) ?_
      exact r_iret hx hb hr hlocks hP hD hS d_Mod_join_126 h
    · have h := h.1 hc
      refine lv_bipush (v := (-3)) hx hb d_Mod_join_21 (by decide) ?_
      exact r_iret hx hb hr hlocks hP hD hS d_Mod_join_23 h
  · have h := h.2 hc
    refine lv_bipush (v := (-2)) hx hb d_Mod_join_7 (by decide) ?_
    exact r_iret hx hb hr hlocks hP hD hS d_Mod_join_9 h
def wp_Mod_noStick (u : RS) (p1 : Int32) (p2 : Int32) (Post : Int32 → RS → Prop) : Prop := (wp_Mod_isMember u p1 (fun x2 u1 => ((x2 = 0 → Post (-1) u1) ∧ (¬ x2 = 0 → (((pf_Mod_in p2 1 5) = 0 → Post (-1) u1) ∧ (¬ (pf_Mod_in p2 1 5) = 0 → (wp_Mod_isSettled u1  (fun x4 u3 => ((x4 = 0 → (wp_Mod_isInHand u3 p1 (fun x6 u5 => ((x6 = 0 → Post (-2) u5) ∧ (¬ x6 = 0 → (wp_Mod_isGoodWeek u5 p1 (u5.1 (0 : Int32).toNatClampNeg) (fun x8 u7 => ((x8 = 0 → Post 0 u7) ∧ (¬ x8 = 0 → Post (-2) u7))))))))) ∧ (¬ x4 = 0 → Post (-2) u3))))))))))
theorem ok_Mod_46 : CallOk y_Mod_isMember b_Mod_isMember 2 (some .boolean) 1 1 "HamperClubModel" 46 := ⟨tb_724, tb_726, sl_15, tb_12, tb_727, by decide +kernel⟩
theorem ok_Mod_50 : CallOk y_Mod_isInHand b_Mod_isInHand 2 (some .boolean) 1 1 "HamperClubModel" 50 := ⟨tb_728, tb_730, sl_16, tb_12, tb_731, by decide +kernel⟩
theorem ok_Mod_53 : CallOk y_Mod_isGoodWeek b_Mod_isGoodWeek 3 (some .boolean) 1 2 "HamperClubModel" 53 := ⟨tb_732, tb_734, sl_17, tb_12, tb_735, by decide +kernel⟩
set_option maxHeartbeats 4000000 in
set_option maxRecDepth 100000 in
theorem c_Mod_noStick (l : Launch) (G : GG) (ad : Nat → Nat) (sz : Nat) (u : RS) (p1 : Int32) (p2 : Int32) (Post : Int32 → RS → Prop) (h : wp_Mod_noStick u p1 p2 Post) : CMi l y_Mod_noStick b_Mod_noStick 3 .int 2 G [.ref (ad 0), .int p1, .int p2] sz (refW G ad u) (refW G ad) Post := by
  refine CMi.start (by decide) (Nat.le_of_ble_eq_true rfl) (fun p e s m below meth c A ls hx hb hr hts hown hml hlocks hA hS hP hD hK hl => ?_)
  unfold wp_Mod_noStick at h
  have hl : lv_has ls 3 [(0, .ref (ad 0)), (1, .int p1), (2, .int p2)] := hl
  refine lv_aload_n hx hb d_Mod_noStick_0 rfl (lv_at hl 0 rfl) ?_
  refine lv_iload_n hx hb d_Mod_noStick_1 rfl (lv_at hl 1 rfl) ?_
  refine call_Vi1 (own := "HamperClubModel") (As := [.int p1]) (rest := []) (q0 := 0) (ci := 9) hx hb hml hts hown hK hA hP hD hS ok_Mod_46 rfl ⟨Nat.le_of_ble_eq_true rfl, Nat.le_of_ble_eq_true rfl⟩ ⟨Nat.le_of_ble_eq_true rfl, Nat.le_of_ble_eq_true rfl⟩ rfl rfl rfl hl.1 rfl (Nat.le_of_ble_eq_true rfl) d_Mod_noStick_2 (c_Mod_isMember l G ad _ u p1 _ h) (fun x2 u1 H locs h hP hD hS => ?_)
  refine lv_if_eq (tgt := 17) hx hb d_Mod_noStick_5 (by decide) (fun hc => ?_) (fun hc => ?_)
  · have h := h.1 hc
    refine lv_iconst (v := (-1)) hx hb d_Mod_noStick_17 (by decide) ?_
    exact r_iret hx hb hr hlocks hP hD hS d_Mod_noStick_18 h
  · have h := h.2 hc
    refine lv_iload_n hx hb d_Mod_noStick_8 rfl (lv_at hl 2 rfl) ?_
    refine lv_iconst (v := 1) hx hb d_Mod_noStick_9 (by decide) ?_
    refine lv_iconst (v := 5) hx hb d_Mod_noStick_10 (by decide) ?_
    refine call_S (As := [.int p2, .int 1, .int 5]) (rest := []) hx hb hml hts hown so_Mod_24 rfl ⟨Nat.le_of_ble_eq_true rfl, Nat.le_of_ble_eq_true rfl⟩ ⟨Nat.le_of_ble_eq_true rfl, Nat.le_of_ble_eq_true rfl⟩ hl.1 rfl (Nat.le_of_ble_eq_true rfl) d_Mod_noStick_11 (k_Mod_in l p2 1 5) ?_
    refine lv_if_ne (tgt := 19) hx hb d_Mod_noStick_14 (by decide) (fun hc => ?_) (fun hc => ?_)
    · have h := h.2 hc
      refine lv_aload_n hx hb d_Mod_noStick_19 rfl (lv_at hl 0 rfl) ?_
      refine call_Vi1 (own := "HamperClubModel") (As := []) (rest := []) (q0 := 0) (ci := 9) hx hb hml hts hown hK hA hP hD hS ok_Mod_39 rfl ⟨Nat.le_of_ble_eq_true rfl, Nat.le_of_ble_eq_true rfl⟩ ⟨Nat.le_of_ble_eq_true rfl, Nat.le_of_ble_eq_true rfl⟩ rfl rfl rfl hl.1 rfl (Nat.le_of_ble_eq_true rfl) d_Mod_noStick_20 (c_Mod_isSettled l G ad _ u1  _ h) (fun x4 u3 H locs h hP hD hS => ?_)
      refine lv_if_ne (tgt := 48) hx hb d_Mod_noStick_23 (by decide) (fun hc => ?_) (fun hc => ?_)
      · have h := h.2 hc
        refine lv_bipush (v := (-2)) hx hb d_Mod_noStick_48 (by decide) ?_
        refine lv_goto (tgt := 54) hx hb d_Mod_noStick_50 (by decide) ?_
        exact r_iret hx hb hr hlocks hP hD hS d_Mod_noStick_54 h
      · have h := h.1 hc
        refine lv_aload_n hx hb d_Mod_noStick_26 rfl (lv_at hl 0 rfl) ?_
        refine lv_iload_n hx hb d_Mod_noStick_27 rfl (lv_at hl 1 rfl) ?_
        refine call_Vi1 (own := "HamperClubModel") (As := [.int p1]) (rest := []) (q0 := 0) (ci := 9) hx hb hml hts hown hK hA hP hD hS ok_Mod_50 rfl ⟨Nat.le_of_ble_eq_true rfl, Nat.le_of_ble_eq_true rfl⟩ ⟨Nat.le_of_ble_eq_true rfl, Nat.le_of_ble_eq_true rfl⟩ rfl rfl rfl hl.1 rfl (Nat.le_of_ble_eq_true rfl) d_Mod_noStick_28 (c_Mod_isInHand l G ad _ u3 p1 _ h) (fun x6 u5 H locs h hP hD hS => ?_)
        refine lv_if_eq (tgt := 48) hx hb d_Mod_noStick_31 (by decide) (fun hc => ?_) (fun hc => ?_)
        · have h := h.1 hc
          refine lv_bipush (v := (-2)) hx hb d_Mod_noStick_48 (by decide) ?_
          refine lv_goto (tgt := 54) hx hb d_Mod_noStick_50 (by decide) ?_
          exact r_iret hx hb hr hlocks hP hD hS d_Mod_noStick_54 h
        · have h := h.2 hc
          refine lv_aload_n hx hb d_Mod_noStick_34 rfl (lv_at hl 0 rfl) ?_
          refine lv_iload_n hx hb d_Mod_noStick_35 rfl (lv_at hl 1 rfl) ?_
          refine lv_aload_n hx hb d_Mod_noStick_36 rfl (lv_at hl 0 rfl) ?_
          refine gR_Mod_row hx hb hts hown hK hP tb_653 d_Mod_noStick_37 ?_
          refine lv_iconst (v := 0) hx hb d_Mod_noStick_40 (by decide) ?_
          refine lR_1 hx hb hK hP (by unfold vp_in; decide) d_Mod_noStick_41 ?_
          refine call_Vi1 (own := "HamperClubModel") (As := [.int p1, .int (u5.1 (0 : Int32).toNatClampNeg)]) (rest := []) (q0 := 0) (ci := 9) hx hb hml hts hown hK hA hP hD hS ok_Mod_53 rfl ⟨Nat.le_of_ble_eq_true rfl, Nat.le_of_ble_eq_true rfl⟩ ⟨Nat.le_of_ble_eq_true rfl, Nat.le_of_ble_eq_true rfl⟩ rfl rfl rfl hl.1 rfl (Nat.le_of_ble_eq_true rfl) d_Mod_noStick_42 (c_Mod_isGoodWeek l G ad _ u5 p1 (u5.1 (0 : Int32).toNatClampNeg) _ h) (fun x8 u7 H locs h hP hD hS => ?_)
          refine lv_if_eq (tgt := 53) hx hb d_Mod_noStick_45 (by decide) (fun hc => ?_) (fun hc => ?_)
          · have h := h.1 hc
            refine lv_iconst (v := 0) hx hb d_Mod_noStick_53 (by decide) ?_
            exact r_iret hx hb hr hlocks hP hD hS d_Mod_noStick_54 h
          · have h := h.2 hc
            refine lv_bipush (v := (-2)) hx hb d_Mod_noStick_48 (by decide) ?_
            refine lv_goto (tgt := 54) hx hb d_Mod_noStick_50 (by decide) ?_
            exact r_iret hx hb hr hlocks hP hD hS d_Mod_noStick_54 h
    · have h := h.1 hc
      refine lv_iconst (v := (-1)) hx hb d_Mod_noStick_17 (by decide) ?_
      exact r_iret hx hb hr hlocks hP hD hS d_Mod_noStick_18 h
def wp_Mod_noWithdraw (u : RS) (p1 : Int32) (p2 : Int32) (Post : Int32 → RS → Prop) : Prop := (wp_Mod_isMember u p1 (fun x2 u1 => ((x2 = 0 → Post (-1) u1) ∧ (¬ x2 = 0 → (((pf_Mod_in p2 1 999) = 0 → Post (-1) u1) ∧ (¬ (pf_Mod_in p2 1 999) = 0 → (wp_Mod_isSettled u1  (fun x4 u3 => ((x4 = 0 → (wp_Mod_isInHand u3 p1 (fun x6 u5 => ((x6 = 0 → Post (-2) u5) ∧ (¬ x6 = 0 → (vp_in (pf_Mod_of p1 0) 4306 ∧ ((p2 ≤ (u5.1 (pf_Mod_of p1 0).toNatClampNeg) → Post 0 u5) ∧ (¬ p2 ≤ (u5.1 (pf_Mod_of p1 0).toNatClampNeg) → Post (-2) u5)))))))) ∧ (¬ x4 = 0 → Post (-2) u3))))))))))
set_option maxHeartbeats 4000000 in
set_option maxRecDepth 100000 in
theorem c_Mod_noWithdraw (l : Launch) (G : GG) (ad : Nat → Nat) (sz : Nat) (u : RS) (p1 : Int32) (p2 : Int32) (Post : Int32 → RS → Prop) (h : wp_Mod_noWithdraw u p1 p2 Post) : CMi l y_Mod_noWithdraw b_Mod_noWithdraw 3 .int 2 G [.ref (ad 0), .int p1, .int p2] sz (refW G ad u) (refW G ad) Post := by
  refine CMi.start (by decide) (Nat.le_of_ble_eq_true rfl) (fun p e s m below meth c A ls hx hb hr hts hown hml hlocks hA hS hP hD hK hl => ?_)
  unfold wp_Mod_noWithdraw at h
  have hl : lv_has ls 3 [(0, .ref (ad 0)), (1, .int p1), (2, .int p2)] := hl
  refine lv_aload_n hx hb d_Mod_noWithdraw_0 rfl (lv_at hl 0 rfl) ?_
  refine lv_iload_n hx hb d_Mod_noWithdraw_1 rfl (lv_at hl 1 rfl) ?_
  refine call_Vi1 (own := "HamperClubModel") (As := [.int p1]) (rest := []) (q0 := 0) (ci := 9) hx hb hml hts hown hK hA hP hD hS ok_Mod_46 rfl ⟨Nat.le_of_ble_eq_true rfl, Nat.le_of_ble_eq_true rfl⟩ ⟨Nat.le_of_ble_eq_true rfl, Nat.le_of_ble_eq_true rfl⟩ rfl rfl rfl hl.1 rfl (Nat.le_of_ble_eq_true rfl) d_Mod_noWithdraw_2 (c_Mod_isMember l G ad _ u p1 _ h) (fun x2 u1 H locs h hP hD hS => ?_)
  refine lv_if_eq (tgt := 19) hx hb d_Mod_noWithdraw_5 (by decide) (fun hc => ?_) (fun hc => ?_)
  · have h := h.1 hc
    refine lv_iconst (v := (-1)) hx hb d_Mod_noWithdraw_19 (by decide) ?_
    exact r_iret hx hb hr hlocks hP hD hS d_Mod_noWithdraw_20 h
  · have h := h.2 hc
    refine lv_iload_n hx hb d_Mod_noWithdraw_8 rfl (lv_at hl 2 rfl) ?_
    refine lv_iconst (v := 1) hx hb d_Mod_noWithdraw_9 (by decide) ?_
    refine lv_sipush (v := 999) hx hb d_Mod_noWithdraw_10 (by decide) ?_
    refine call_S (As := [.int p2, .int 1, .int 999]) (rest := []) hx hb hml hts hown so_Mod_24 rfl ⟨Nat.le_of_ble_eq_true rfl, Nat.le_of_ble_eq_true rfl⟩ ⟨Nat.le_of_ble_eq_true rfl, Nat.le_of_ble_eq_true rfl⟩ hl.1 rfl (Nat.le_of_ble_eq_true rfl) d_Mod_noWithdraw_13 (k_Mod_in l p2 1 999) ?_
    refine lv_if_ne (tgt := 21) hx hb d_Mod_noWithdraw_16 (by decide) (fun hc => ?_) (fun hc => ?_)
    · have h := h.2 hc
      refine lv_aload_n hx hb d_Mod_noWithdraw_21 rfl (lv_at hl 0 rfl) ?_
      refine call_Vi1 (own := "HamperClubModel") (As := []) (rest := []) (q0 := 0) (ci := 9) hx hb hml hts hown hK hA hP hD hS ok_Mod_39 rfl ⟨Nat.le_of_ble_eq_true rfl, Nat.le_of_ble_eq_true rfl⟩ ⟨Nat.le_of_ble_eq_true rfl, Nat.le_of_ble_eq_true rfl⟩ rfl rfl rfl hl.1 rfl (Nat.le_of_ble_eq_true rfl) d_Mod_noWithdraw_22 (c_Mod_isSettled l G ad _ u1  _ h) (fun x4 u3 H locs h hP hD hS => ?_)
      refine lv_if_ne (tgt := 50) hx hb d_Mod_noWithdraw_25 (by decide) (fun hc => ?_) (fun hc => ?_)
      · have h := h.2 hc
        refine lv_bipush (v := (-2)) hx hb d_Mod_noWithdraw_50 (by decide) ?_
        refine lv_goto (tgt := 56) hx hb d_Mod_noWithdraw_52 (by decide) ?_
        exact r_iret hx hb hr hlocks hP hD hS d_Mod_noWithdraw_56 h
      · have h := h.1 hc
        refine lv_aload_n hx hb d_Mod_noWithdraw_28 rfl (lv_at hl 0 rfl) ?_
        refine lv_iload_n hx hb d_Mod_noWithdraw_29 rfl (lv_at hl 1 rfl) ?_
        refine call_Vi1 (own := "HamperClubModel") (As := [.int p1]) (rest := []) (q0 := 0) (ci := 9) hx hb hml hts hown hK hA hP hD hS ok_Mod_50 rfl ⟨Nat.le_of_ble_eq_true rfl, Nat.le_of_ble_eq_true rfl⟩ ⟨Nat.le_of_ble_eq_true rfl, Nat.le_of_ble_eq_true rfl⟩ rfl rfl rfl hl.1 rfl (Nat.le_of_ble_eq_true rfl) d_Mod_noWithdraw_30 (c_Mod_isInHand l G ad _ u3 p1 _ h) (fun x6 u5 H locs h hP hD hS => ?_)
        refine lv_if_eq (tgt := 50) hx hb d_Mod_noWithdraw_33 (by decide) (fun hc => ?_) (fun hc => ?_)
        · have h := h.1 hc
          refine lv_bipush (v := (-2)) hx hb d_Mod_noWithdraw_50 (by decide) ?_
          refine lv_goto (tgt := 56) hx hb d_Mod_noWithdraw_52 (by decide) ?_
          exact r_iret hx hb hr hlocks hP hD hS d_Mod_noWithdraw_56 h
        · have h := h.2 hc
          refine lv_aload_n hx hb d_Mod_noWithdraw_36 rfl (lv_at hl 0 rfl) ?_
          refine gR_Mod_row hx hb hts hown hK hP tb_653 d_Mod_noWithdraw_37 ?_
          refine lv_iload_n hx hb d_Mod_noWithdraw_40 rfl (lv_at hl 1 rfl) ?_
          refine lv_iconst (v := 0) hx hb d_Mod_noWithdraw_41 (by decide) ?_
          refine call_S (As := [.int p1, .int 0]) (rest := [.ref (ad 1)]) hx hb hml hts hown so_Mod_43 rfl ⟨Nat.le_of_ble_eq_true rfl, Nat.le_of_ble_eq_true rfl⟩ ⟨Nat.le_of_ble_eq_true rfl, Nat.le_of_ble_eq_true rfl⟩ hl.1 rfl (Nat.le_of_ble_eq_true rfl) d_Mod_noWithdraw_42 (k_Mod_of l p1 0) ?_
          obtain ⟨hi, h⟩ := h
          refine lR_1 hx hb hK hP hi d_Mod_noWithdraw_45 ?_
          refine lv_iload_n hx hb d_Mod_noWithdraw_46 rfl (lv_at hl 2 rfl) ?_
          refine lv_icmp_ge (tgt := 55) hx hb d_Mod_noWithdraw_47 (by decide) (fun hc => ?_) (fun hc => ?_)
          · have h := h.1 hc
            refine lv_iconst (v := 0) hx hb d_Mod_noWithdraw_55 (by decide) ?_
            exact r_iret hx hb hr hlocks hP hD hS d_Mod_noWithdraw_56 h
          · have h := h.2 hc
            refine lv_bipush (v := (-2)) hx hb d_Mod_noWithdraw_50 (by decide) ?_
            refine lv_goto (tgt := 56) hx hb d_Mod_noWithdraw_52 (by decide) ?_
            exact r_iret hx hb hr hlocks hP hD hS d_Mod_noWithdraw_56 h
    · have h := h.1 hc
      refine lv_iconst (v := (-1)) hx hb d_Mod_noWithdraw_19 (by decide) ?_
      exact r_iret hx hb hr hlocks hP hD hS d_Mod_noWithdraw_20 h
def wp_Mod_doWithdraw (u : RS) (p1 : Int32) (p2 : Int32) (Post : Int32 → RS → Prop) : Prop := (∀ x1 : Int32, x1 = (10 * p2) → ((x1 ≤ (p2 + 5) → (vp_in (pf_Mod_of p1 0) 4306 ∧ (vp_in (pf_Mod_of p1 0) 4306 ∧ (∀ u2 : RS, u2 = (rR u (upd u.1 (pf_Mod_of p1 0).toNatClampNeg ((u.1 (pf_Mod_of p1 0).toNatClampNeg) - p2))) → (vp_in (pf_Mod_of p1 5) 4306 ∧ (∀ u3 : RS, u3 = (rR u2 (upd u2.1 (pf_Mod_of p1 5).toNatClampNeg 1)) → (∀ u4 : RS, u4 = (rR u3 (upd u3.1 (4 : Int32).toNatClampNeg ((u3.1 (4 : Int32).toNatClampNeg) + x1))) → (wp_Mod_payOut u4 p1 (x1 - x1) (fun u5 => Post (x1 - x1) u5))))))))) ∧ (¬ x1 ≤ (p2 + 5) → (∀ x6 : Int32, x6 = (p2 + 5) → (vp_in (pf_Mod_of p1 0) 4306 ∧ (vp_in (pf_Mod_of p1 0) 4306 ∧ (∀ u7 : RS, u7 = (rR u (upd u.1 (pf_Mod_of p1 0).toNatClampNeg ((u.1 (pf_Mod_of p1 0).toNatClampNeg) - p2))) → (vp_in (pf_Mod_of p1 5) 4306 ∧ (∀ u8 : RS, u8 = (rR u7 (upd u7.1 (pf_Mod_of p1 5).toNatClampNeg 1)) → (∀ u9 : RS, u9 = (rR u8 (upd u8.1 (4 : Int32).toNatClampNeg ((u8.1 (4 : Int32).toNatClampNeg) + x6))) → (wp_Mod_payOut u9 p1 (x1 - x6) (fun u10 => Post (x1 - x6) u10))))))))))))
theorem ok_Mod_63 : CallOk y_Mod_payOut b_Mod_payOut 3 none 1 2 "HamperClubModel" 63 := ⟨tb_752, tb_754, sl_21, tb_12, tb_755, by decide +kernel⟩
set_option maxHeartbeats 4000000 in
set_option maxRecDepth 100000 in
theorem c_Mod_doWithdraw (l : Launch) (G : GG) (ad : Nat → Nat) (sz : Nat) (u : RS) (p1 : Int32) (p2 : Int32) (Post : Int32 → RS → Prop) (h : wp_Mod_doWithdraw u p1 p2 Post) : CMi l y_Mod_doWithdraw b_Mod_doWithdraw 5 .int 2 G [.ref (ad 0), .int p1, .int p2] sz (refW G ad u) (refW G ad) Post := by
  refine CMi.start (by decide) (Nat.le_of_ble_eq_true rfl) (fun p e s m below meth c A ls hx hb hr hts hown hml hlocks hA hS hP hD hK hl => ?_)
  unfold wp_Mod_doWithdraw at h
  have hl : lv_has ls 5 [(0, .ref (ad 0)), (1, .int p1), (2, .int p2)] := hl
  refine lv_bipush (v := 10) hx hb d_Mod_doWithdraw_0 (by decide) ?_
  refine lv_iload_n hx hb d_Mod_doWithdraw_2 rfl (lv_at hl 2 rfl) ?_
  refine lv_imul hx hb d_Mod_doWithdraw_3 ?_
  refine lv_topi (fun x1 ex1 => ?_)
  have h := h x1 ex1
  refine lv_istore_n (lv' := [(3, .int x1), (0, .ref (ad 0)), (1, .int p1), (2, .int p2)]) hx hb d_Mod_doWithdraw_4 rfl hl (by decide) rfl (fun ls hl => ?_)
  refine lv_iload_n hx hb d_Mod_doWithdraw_5 rfl (lv_at hl 3 rfl) ?_
  refine lv_iconst (v := 5) hx hb d_Mod_doWithdraw_6 (by decide) ?_
  refine lv_iadd hx hb d_Mod_doWithdraw_7 ?_
  refine lv_iload_n hx hb d_Mod_doWithdraw_8 rfl (lv_at hl 0 rfl) ?_
  refine lv_icmp_ge (tgt := 18) hx hb d_Mod_doWithdraw_9 (by decide) (fun hc => ?_) (fun hc => ?_)
  · have h := h.1 hc
    refine lv_iload_n hx hb d_Mod_doWithdraw_18 rfl (lv_at hl 0 rfl) ?_
    refine lv_istore (lv' := [(4, .int x1), (3, .int x1), (0, .ref (ad 0)), (1, .int p1), (2, .int p2)]) hx hb d_Mod_doWithdraw_19 hl (by decide) rfl (fun ls hl => ?_)
    refine lv_aload_n hx hb d_Mod_doWithdraw_21 rfl (lv_at hl 2 rfl) ?_
    refine gR_Mod_row hx hb hts hown hK hP tb_653 d_Mod_doWithdraw_22 ?_
    refine lv_iload_n hx hb d_Mod_doWithdraw_25 rfl (lv_at hl 3 rfl) ?_
    refine lv_iconst (v := 0) hx hb d_Mod_doWithdraw_26 (by decide) ?_
    refine call_S (As := [.int p1, .int 0]) (rest := [.ref (ad 1)]) hx hb hml hts hown so_Mod_43 rfl ⟨Nat.le_of_ble_eq_true rfl, Nat.le_of_ble_eq_true rfl⟩ ⟨Nat.le_of_ble_eq_true rfl, Nat.le_of_ble_eq_true rfl⟩ hl.1 rfl (Nat.le_of_ble_eq_true rfl) d_Mod_doWithdraw_27 (k_Mod_of l p1 0) ?_
    refine lv_dup2_11 hx hb d_Mod_doWithdraw_30 rfl rfl ?_
    obtain ⟨hi, h⟩ := h
    refine lR_1 hx hb hK hP hi d_Mod_doWithdraw_31 ?_
    refine lv_iload_n hx hb d_Mod_doWithdraw_32 rfl (lv_at hl 4 rfl) ?_
    refine lv_isub hx hb d_Mod_doWithdraw_33 ?_
    obtain ⟨hi, h⟩ := h
    refine sR_1 hx hb hK hP hD hS hi d_Mod_doWithdraw_34 (fun u2 H locs eu2 hP hD hS => ?_)
    have h := h u2 eu2
    refine lv_aload_n hx hb d_Mod_doWithdraw_35 rfl (lv_at hl 2 rfl) ?_
    refine gR_Mod_row hx hb hts hown hK hP tb_653 d_Mod_doWithdraw_36 ?_
    refine lv_iload_n hx hb d_Mod_doWithdraw_39 rfl (lv_at hl 3 rfl) ?_
    refine lv_iconst (v := 5) hx hb d_Mod_doWithdraw_40 (by decide) ?_
    refine call_S (As := [.int p1, .int 5]) (rest := [.ref (ad 1)]) hx hb hml hts hown so_Mod_43 rfl ⟨Nat.le_of_ble_eq_true rfl, Nat.le_of_ble_eq_true rfl⟩ ⟨Nat.le_of_ble_eq_true rfl, Nat.le_of_ble_eq_true rfl⟩ hl.1 rfl (Nat.le_of_ble_eq_true rfl) d_Mod_doWithdraw_41 (k_Mod_of l p1 5) ?_
    refine lv_iconst (v := 1) hx hb d_Mod_doWithdraw_44 (by decide) ?_
    obtain ⟨hi, h⟩ := h
    refine sR_1 hx hb hK hP hD hS hi d_Mod_doWithdraw_45 (fun u3 H locs eu3 hP hD hS => ?_)
    have h := h u3 eu3
    refine lv_aload_n hx hb d_Mod_doWithdraw_46 rfl (lv_at hl 2 rfl) ?_
    refine gR_Mod_row hx hb hts hown hK hP tb_653 d_Mod_doWithdraw_47 ?_
    refine lv_iconst (v := 4) hx hb d_Mod_doWithdraw_50 (by decide) ?_
    refine lv_dup2_11 hx hb d_Mod_doWithdraw_51 rfl rfl ?_
    refine lR_1 hx hb hK hP (by unfold vp_in; decide) d_Mod_doWithdraw_52 ?_
    refine lv_iload hx hb d_Mod_doWithdraw_53 (lv_at hl 0 rfl) ?_
    refine lv_iadd hx hb d_Mod_doWithdraw_55 ?_
    refine sR_1 hx hb hK hP hD hS (by unfold vp_in; decide) d_Mod_doWithdraw_56 (fun u4 H locs eu4 hP hD hS => ?_)
    have h := h u4 eu4
    refine lv_aload_n hx hb d_Mod_doWithdraw_57 rfl (lv_at hl 2 rfl) ?_
    refine lv_iload_n hx hb d_Mod_doWithdraw_58 rfl (lv_at hl 3 rfl) ?_
    refine lv_iload_n hx hb d_Mod_doWithdraw_59 rfl (lv_at hl 1 rfl) ?_
    refine lv_iload hx hb d_Mod_doWithdraw_60 (lv_at hl 0 rfl) ?_
    refine lv_isub hx hb d_Mod_doWithdraw_62 ?_
    refine call_Vv1 (own := "HamperClubModel") (As := [.int p1, .int (x1 - x1)]) (rest := []) (q0 := 0) (ci := 9) hx hb hml hts hown hK hA hP hD hS ok_Mod_63 rfl ⟨Nat.le_of_ble_eq_true rfl, Nat.le_of_ble_eq_true rfl⟩ ⟨Nat.le_of_ble_eq_true rfl, Nat.le_of_ble_eq_true rfl⟩ rfl rfl rfl hl.1 rfl (Nat.le_of_ble_eq_true rfl) d_Mod_doWithdraw_63 (c_Mod_payOut l G ad _ u4 p1 (x1 - x1) _ h) (fun u5 H locs h hP hD hS => ?_)
    refine lv_iload_n hx hb d_Mod_doWithdraw_66 rfl (lv_at hl 1 rfl) ?_
    refine lv_iload hx hb d_Mod_doWithdraw_67 (lv_at hl 0 rfl) ?_
    refine lv_isub hx hb d_Mod_doWithdraw_69 ?_
    exact r_iret hx hb hr hlocks hP hD hS d_Mod_doWithdraw_70 h
  · have h := h.2 hc
    refine lv_iload_n hx hb d_Mod_doWithdraw_12 rfl (lv_at hl 3 rfl) ?_
    refine lv_iconst (v := 5) hx hb d_Mod_doWithdraw_13 (by decide) ?_
    refine lv_iadd hx hb d_Mod_doWithdraw_14 ?_
    refine lv_goto (tgt := 19) hx hb d_Mod_doWithdraw_15 (by decide) ?_
    refine lv_topi (fun x6 ex6 => ?_)
    have h := h x6 ex6
    refine lv_istore (lv' := [(4, .int x6), (3, .int x1), (0, .ref (ad 0)), (1, .int p1), (2, .int p2)]) hx hb d_Mod_doWithdraw_19 hl (by decide) rfl (fun ls hl => ?_)
    refine lv_aload_n hx hb d_Mod_doWithdraw_21 rfl (lv_at hl 2 rfl) ?_
    refine gR_Mod_row hx hb hts hown hK hP tb_653 d_Mod_doWithdraw_22 ?_
    refine lv_iload_n hx hb d_Mod_doWithdraw_25 rfl (lv_at hl 3 rfl) ?_
    refine lv_iconst (v := 0) hx hb d_Mod_doWithdraw_26 (by decide) ?_
    refine call_S (As := [.int p1, .int 0]) (rest := [.ref (ad 1)]) hx hb hml hts hown so_Mod_43 rfl ⟨Nat.le_of_ble_eq_true rfl, Nat.le_of_ble_eq_true rfl⟩ ⟨Nat.le_of_ble_eq_true rfl, Nat.le_of_ble_eq_true rfl⟩ hl.1 rfl (Nat.le_of_ble_eq_true rfl) d_Mod_doWithdraw_27 (k_Mod_of l p1 0) ?_
    refine lv_dup2_11 hx hb d_Mod_doWithdraw_30 rfl rfl ?_
    obtain ⟨hi, h⟩ := h
    refine lR_1 hx hb hK hP hi d_Mod_doWithdraw_31 ?_
    refine lv_iload_n hx hb d_Mod_doWithdraw_32 rfl (lv_at hl 4 rfl) ?_
    refine lv_isub hx hb d_Mod_doWithdraw_33 ?_
    obtain ⟨hi, h⟩ := h
    refine sR_1 hx hb hK hP hD hS hi d_Mod_doWithdraw_34 (fun u7 H locs eu7 hP hD hS => ?_)
    have h := h u7 eu7
    refine lv_aload_n hx hb d_Mod_doWithdraw_35 rfl (lv_at hl 2 rfl) ?_
    refine gR_Mod_row hx hb hts hown hK hP tb_653 d_Mod_doWithdraw_36 ?_
    refine lv_iload_n hx hb d_Mod_doWithdraw_39 rfl (lv_at hl 3 rfl) ?_
    refine lv_iconst (v := 5) hx hb d_Mod_doWithdraw_40 (by decide) ?_
    refine call_S (As := [.int p1, .int 5]) (rest := [.ref (ad 1)]) hx hb hml hts hown so_Mod_43 rfl ⟨Nat.le_of_ble_eq_true rfl, Nat.le_of_ble_eq_true rfl⟩ ⟨Nat.le_of_ble_eq_true rfl, Nat.le_of_ble_eq_true rfl⟩ hl.1 rfl (Nat.le_of_ble_eq_true rfl) d_Mod_doWithdraw_41 (k_Mod_of l p1 5) ?_
    refine lv_iconst (v := 1) hx hb d_Mod_doWithdraw_44 (by decide) ?_
    obtain ⟨hi, h⟩ := h
    refine sR_1 hx hb hK hP hD hS hi d_Mod_doWithdraw_45 (fun u8 H locs eu8 hP hD hS => ?_)
    have h := h u8 eu8
    refine lv_aload_n hx hb d_Mod_doWithdraw_46 rfl (lv_at hl 2 rfl) ?_
    refine gR_Mod_row hx hb hts hown hK hP tb_653 d_Mod_doWithdraw_47 ?_
    refine lv_iconst (v := 4) hx hb d_Mod_doWithdraw_50 (by decide) ?_
    refine lv_dup2_11 hx hb d_Mod_doWithdraw_51 rfl rfl ?_
    refine lR_1 hx hb hK hP (by unfold vp_in; decide) d_Mod_doWithdraw_52 ?_
    refine lv_iload hx hb d_Mod_doWithdraw_53 (lv_at hl 0 rfl) ?_
    refine lv_iadd hx hb d_Mod_doWithdraw_55 ?_
    refine sR_1 hx hb hK hP hD hS (by unfold vp_in; decide) d_Mod_doWithdraw_56 (fun u9 H locs eu9 hP hD hS => ?_)
    have h := h u9 eu9
    refine lv_aload_n hx hb d_Mod_doWithdraw_57 rfl (lv_at hl 2 rfl) ?_
    refine lv_iload_n hx hb d_Mod_doWithdraw_58 rfl (lv_at hl 3 rfl) ?_
    refine lv_iload_n hx hb d_Mod_doWithdraw_59 rfl (lv_at hl 1 rfl) ?_
    refine lv_iload hx hb d_Mod_doWithdraw_60 (lv_at hl 0 rfl) ?_
    refine lv_isub hx hb d_Mod_doWithdraw_62 ?_
    refine call_Vv1 (own := "HamperClubModel") (As := [.int p1, .int (x1 - x6)]) (rest := []) (q0 := 0) (ci := 9) hx hb hml hts hown hK hA hP hD hS ok_Mod_63 rfl ⟨Nat.le_of_ble_eq_true rfl, Nat.le_of_ble_eq_true rfl⟩ ⟨Nat.le_of_ble_eq_true rfl, Nat.le_of_ble_eq_true rfl⟩ rfl rfl rfl hl.1 rfl (Nat.le_of_ble_eq_true rfl) d_Mod_doWithdraw_63 (c_Mod_payOut l G ad _ u9 p1 (x1 - x6) _ h) (fun u10 H locs h hP hD hS => ?_)
    refine lv_iload_n hx hb d_Mod_doWithdraw_66 rfl (lv_at hl 1 rfl) ?_
    refine lv_iload hx hb d_Mod_doWithdraw_67 (lv_at hl 0 rfl) ?_
    refine lv_isub hx hb d_Mod_doWithdraw_69 ?_
    exact r_iret hx hb hr hlocks hP hD hS d_Mod_doWithdraw_70 h
def wp_Mod_noMislay (u : RS) (p1 : Int32) (Post : Int32 → RS → Prop) : Prop := (wp_Mod_isMember u p1 (fun x2 u1 => ((x2 = 0 → Post (-1) u1) ∧ (¬ x2 = 0 → (wp_Mod_isSettled u1  (fun x4 u3 => ((x4 = 0 → (wp_Mod_isInHand u3 p1 (fun x6 u5 => ((x6 = 0 → Post (-2) u5) ∧ (¬ x6 = 0 → Post 0 u5))))) ∧ (¬ x4 = 0 → Post (-2) u3))))))))
set_option maxHeartbeats 4000000 in
set_option maxRecDepth 100000 in
theorem c_Mod_noMislay (l : Launch) (G : GG) (ad : Nat → Nat) (sz : Nat) (u : RS) (p1 : Int32) (Post : Int32 → RS → Prop) (h : wp_Mod_noMislay u p1 Post) : CMi l y_Mod_noMislay b_Mod_noMislay 2 .int 2 G [.ref (ad 0), .int p1] sz (refW G ad u) (refW G ad) Post := by
  refine CMi.start (by decide) (Nat.le_of_ble_eq_true rfl) (fun p e s m below meth c A ls hx hb hr hts hown hml hlocks hA hS hP hD hK hl => ?_)
  unfold wp_Mod_noMislay at h
  have hl : lv_has ls 2 [(0, .ref (ad 0)), (1, .int p1)] := hl
  refine lv_aload_n hx hb d_Mod_noMislay_0 rfl (lv_at hl 0 rfl) ?_
  refine lv_iload_n hx hb d_Mod_noMislay_1 rfl (lv_at hl 1 rfl) ?_
  refine call_Vi1 (own := "HamperClubModel") (As := [.int p1]) (rest := []) (q0 := 0) (ci := 9) hx hb hml hts hown hK hA hP hD hS ok_Mod_46 rfl ⟨Nat.le_of_ble_eq_true rfl, Nat.le_of_ble_eq_true rfl⟩ ⟨Nat.le_of_ble_eq_true rfl, Nat.le_of_ble_eq_true rfl⟩ rfl rfl rfl hl.1 rfl (Nat.le_of_ble_eq_true rfl) d_Mod_noMislay_2 (c_Mod_isMember l G ad _ u p1 _ h) (fun x2 u1 H locs h hP hD hS => ?_)
  refine lv_if_ne (tgt := 12) hx hb d_Mod_noMislay_5 (by decide) (fun hc => ?_) (fun hc => ?_)
  · have h := h.2 hc
    refine lv_aload_n hx hb d_Mod_noMislay_12 rfl (lv_at hl 0 rfl) ?_
    refine call_Vi1 (own := "HamperClubModel") (As := []) (rest := []) (q0 := 0) (ci := 9) hx hb hml hts hown hK hA hP hD hS ok_Mod_39 rfl ⟨Nat.le_of_ble_eq_true rfl, Nat.le_of_ble_eq_true rfl⟩ ⟨Nat.le_of_ble_eq_true rfl, Nat.le_of_ble_eq_true rfl⟩ rfl rfl rfl hl.1 rfl (Nat.le_of_ble_eq_true rfl) d_Mod_noMislay_13 (c_Mod_isSettled l G ad _ u1  _ h) (fun x4 u3 H locs h hP hD hS => ?_)
    refine lv_if_ne (tgt := 27) hx hb d_Mod_noMislay_16 (by decide) (fun hc => ?_) (fun hc => ?_)
    · have h := h.2 hc
      refine lv_bipush (v := (-2)) hx hb d_Mod_noMislay_27 (by decide) ?_
      refine lv_goto (tgt := 33) hx hb d_Mod_noMislay_29 (by decide) ?_
      exact r_iret hx hb hr hlocks hP hD hS d_Mod_noMislay_33 h
    · have h := h.1 hc
      refine lv_aload_n hx hb d_Mod_noMislay_19 rfl (lv_at hl 0 rfl) ?_
      refine lv_iload_n hx hb d_Mod_noMislay_20 rfl (lv_at hl 1 rfl) ?_
      refine call_Vi1 (own := "HamperClubModel") (As := [.int p1]) (rest := []) (q0 := 0) (ci := 9) hx hb hml hts hown hK hA hP hD hS ok_Mod_50 rfl ⟨Nat.le_of_ble_eq_true rfl, Nat.le_of_ble_eq_true rfl⟩ ⟨Nat.le_of_ble_eq_true rfl, Nat.le_of_ble_eq_true rfl⟩ rfl rfl rfl hl.1 rfl (Nat.le_of_ble_eq_true rfl) d_Mod_noMislay_21 (c_Mod_isInHand l G ad _ u3 p1 _ h) (fun x6 u5 H locs h hP hD hS => ?_)
      refine lv_if_ne (tgt := 32) hx hb d_Mod_noMislay_24 (by decide) (fun hc => ?_) (fun hc => ?_)
      · have h := h.2 hc
        refine lv_iconst (v := 0) hx hb d_Mod_noMislay_32 (by decide) ?_
        exact r_iret hx hb hr hlocks hP hD hS d_Mod_noMislay_33 h
      · have h := h.1 hc
        refine lv_bipush (v := (-2)) hx hb d_Mod_noMislay_27 (by decide) ?_
        refine lv_goto (tgt := 33) hx hb d_Mod_noMislay_29 (by decide) ?_
        exact r_iret hx hb hr hlocks hP hD hS d_Mod_noMislay_33 h
  · have h := h.1 hc
    refine lv_iconst (v := (-1)) hx hb d_Mod_noMislay_8 (by decide) ?_
    refine lv_goto (tgt := 33) hx hb d_Mod_noMislay_9 (by decide) ?_
    exact r_iret hx hb hr hlocks hP hD hS d_Mod_noMislay_33 h
def wp_Mod_noFind (u : RS) (p1 : Int32) (Post : Int32 → RS → Prop) : Prop := (wp_Mod_isMember u p1 (fun x2 u1 => ((x2 = 0 → Post (-1) u1) ∧ (¬ x2 = 0 → (wp_Mod_isSettled u1  (fun x4 u3 => ((x4 = 0 → (vp_in (pf_Mod_of p1 1) 4306 ∧ (((u3.1 (pf_Mod_of p1 1).toNatClampNeg) = 1 → Post 0 u3) ∧ (¬ (u3.1 (pf_Mod_of p1 1).toNatClampNeg) = 1 → Post (-2) u3)))) ∧ (¬ x4 = 0 → Post (-2) u3))))))))
set_option maxHeartbeats 4000000 in
set_option maxRecDepth 100000 in
theorem c_Mod_noFind (l : Launch) (G : GG) (ad : Nat → Nat) (sz : Nat) (u : RS) (p1 : Int32) (Post : Int32 → RS → Prop) (h : wp_Mod_noFind u p1 Post) : CMi l y_Mod_noFind b_Mod_noFind 2 .int 2 G [.ref (ad 0), .int p1] sz (refW G ad u) (refW G ad) Post := by
  refine CMi.start (by decide) (Nat.le_of_ble_eq_true rfl) (fun p e s m below meth c A ls hx hb hr hts hown hml hlocks hA hS hP hD hK hl => ?_)
  unfold wp_Mod_noFind at h
  have hl : lv_has ls 2 [(0, .ref (ad 0)), (1, .int p1)] := hl
  refine lv_aload_n hx hb d_Mod_noFind_0 rfl (lv_at hl 0 rfl) ?_
  refine lv_iload_n hx hb d_Mod_noFind_1 rfl (lv_at hl 1 rfl) ?_
  refine call_Vi1 (own := "HamperClubModel") (As := [.int p1]) (rest := []) (q0 := 0) (ci := 9) hx hb hml hts hown hK hA hP hD hS ok_Mod_46 rfl ⟨Nat.le_of_ble_eq_true rfl, Nat.le_of_ble_eq_true rfl⟩ ⟨Nat.le_of_ble_eq_true rfl, Nat.le_of_ble_eq_true rfl⟩ rfl rfl rfl hl.1 rfl (Nat.le_of_ble_eq_true rfl) d_Mod_noFind_2 (c_Mod_isMember l G ad _ u p1 _ h) (fun x2 u1 H locs h hP hD hS => ?_)
  refine lv_if_ne (tgt := 12) hx hb d_Mod_noFind_5 (by decide) (fun hc => ?_) (fun hc => ?_)
  · have h := h.2 hc
    refine lv_aload_n hx hb d_Mod_noFind_12 rfl (lv_at hl 0 rfl) ?_
    refine call_Vi1 (own := "HamperClubModel") (As := []) (rest := []) (q0 := 0) (ci := 9) hx hb hml hts hown hK hA hP hD hS ok_Mod_39 rfl ⟨Nat.le_of_ble_eq_true rfl, Nat.le_of_ble_eq_true rfl⟩ ⟨Nat.le_of_ble_eq_true rfl, Nat.le_of_ble_eq_true rfl⟩ rfl rfl rfl hl.1 rfl (Nat.le_of_ble_eq_true rfl) d_Mod_noFind_13 (c_Mod_isSettled l G ad _ u1  _ h) (fun x4 u3 H locs h hP hD hS => ?_)
    refine lv_if_ne (tgt := 33) hx hb d_Mod_noFind_16 (by decide) (fun hc => ?_) (fun hc => ?_)
    · have h := h.2 hc
      refine lv_bipush (v := (-2)) hx hb d_Mod_noFind_33 (by decide) ?_
      refine lv_goto (tgt := 39) hx hb d_Mod_noFind_35 (by decide) ?_
      exact r_iret hx hb hr hlocks hP hD hS d_Mod_noFind_39 h
    · have h := h.1 hc
      refine lv_aload_n hx hb d_Mod_noFind_19 rfl (lv_at hl 0 rfl) ?_
      refine gR_Mod_row hx hb hts hown hK hP tb_653 d_Mod_noFind_20 ?_
      refine lv_iload_n hx hb d_Mod_noFind_23 rfl (lv_at hl 1 rfl) ?_
      refine lv_iconst (v := 1) hx hb d_Mod_noFind_24 (by decide) ?_
      refine call_S (As := [.int p1, .int 1]) (rest := [.ref (ad 1)]) hx hb hml hts hown so_Mod_43 rfl ⟨Nat.le_of_ble_eq_true rfl, Nat.le_of_ble_eq_true rfl⟩ ⟨Nat.le_of_ble_eq_true rfl, Nat.le_of_ble_eq_true rfl⟩ hl.1 rfl (Nat.le_of_ble_eq_true rfl) d_Mod_noFind_25 (k_Mod_of l p1 1) ?_
      obtain ⟨hi, h⟩ := h
      refine lR_1 hx hb hK hP hi d_Mod_noFind_28 ?_
      refine lv_iconst (v := 1) hx hb d_Mod_noFind_29 (by decide) ?_
      refine lv_icmp_eq (tgt := 38) hx hb d_Mod_noFind_30 (by decide) (fun hc => ?_) (fun hc => ?_)
      · have h := h.1 hc
        refine lv_iconst (v := 0) hx hb d_Mod_noFind_38 (by decide) ?_
        exact r_iret hx hb hr hlocks hP hD hS d_Mod_noFind_39 h
      · have h := h.2 hc
        refine lv_bipush (v := (-2)) hx hb d_Mod_noFind_33 (by decide) ?_
        refine lv_goto (tgt := 39) hx hb d_Mod_noFind_35 (by decide) ?_
        exact r_iret hx hb hr hlocks hP hD hS d_Mod_noFind_39 h
  · have h := h.1 hc
    refine lv_iconst (v := (-1)) hx hb d_Mod_noFind_8 (by decide) ?_
    refine lv_goto (tgt := 39) hx hb d_Mod_noFind_9 (by decide) ?_
    exact r_iret hx hb hr hlocks hP hD hS d_Mod_noFind_39 h
def wp_Mod_setHamper (u : RS) (p1 : Int32) (p2 : Int32) (p3 : Int32) (Post : Int32 → RS → Prop) : Prop := (((pf_Mod_isKind p1) = 0 → Post (-1) u) ∧ (¬ (pf_Mod_isKind p1) = 0 → (((pf_Mod_in p2 1 200) = 0 → Post (-1) u) ∧ (¬ (pf_Mod_in p2 1 200) = 0 → (((pf_Mod_in p3 0 9) = 0 → Post (-1) u) ∧ (¬ (pf_Mod_in p3 0 9) = 0 → (wp_Mod_isSettled u  (fun x2 u1 => ((x2 = 0 → (wp_Mod_record u1  (fun u3 => (vp_in (pf_Mod_ofKind p1 0) 4306 ∧ (∀ x4 : Int32, x4 = (u3.1 (pf_Mod_ofKind p1 0).toNatClampNeg) → (vp_in (pf_Mod_ofKind p1 0) 4306 ∧ (∀ u5 : RS, u5 = (rR u3 (upd u3.1 (pf_Mod_ofKind p1 0).toNatClampNeg p2)) → (vp_in (pf_Mod_ofKind p1 1) 4306 ∧ (∀ u6 : RS, u6 = (rR u5 (upd u5.1 (pf_Mod_ofKind p1 1).toNatClampNeg p3)) → Post x4 u6))))))))) ∧ (¬ x2 = 0 → Post (-2) u1))))))))))
theorem so_Mod_86 : StOk y_Mod_isKind b_Mod_isKind 1 (some .boolean) 1 "HamperClubModel" 86 := ⟨tb_784, tb_785, tb_12, tb_786, by decide +kernel⟩
set_option maxHeartbeats 4000000 in
set_option maxRecDepth 100000 in
theorem c_Mod_setHamper (l : Launch) (G : GG) (ad : Nat → Nat) (sz : Nat) (u : RS) (p1 : Int32) (p2 : Int32) (p3 : Int32) (Post : Int32 → RS → Prop) (h : wp_Mod_setHamper u p1 p2 p3 Post) : CMi l y_Mod_setHamper b_Mod_setHamper 5 .int 2 G [.ref (ad 0), .int p1, .int p2, .int p3] sz (refW G ad u) (refW G ad) Post := by
  refine CMi.start (by decide) (Nat.le_of_ble_eq_true rfl) (fun p e s m below meth c A ls hx hb hr hts hown hml hlocks hA hS hP hD hK hl => ?_)
  unfold wp_Mod_setHamper at h
  have hl : lv_has ls 5 [(0, .ref (ad 0)), (1, .int p1), (2, .int p2), (3, .int p3)] := hl
  refine lv_iload_n hx hb d_Mod_setHamper_0 rfl (lv_at hl 1 rfl) ?_
  refine call_S (As := [.int p1]) (rest := []) hx hb hml hts hown so_Mod_86 rfl ⟨Nat.le_of_ble_eq_true rfl, Nat.le_of_ble_eq_true rfl⟩ ⟨Nat.le_of_ble_eq_true rfl, Nat.le_of_ble_eq_true rfl⟩ hl.1 rfl (Nat.le_of_ble_eq_true rfl) d_Mod_setHamper_1 (k_Mod_isKind l p1) ?_
  refine lv_if_eq (tgt := 28) hx hb d_Mod_setHamper_4 (by decide) (fun hc => ?_) (fun hc => ?_)
  · have h := h.1 hc
    refine lv_iconst (v := (-1)) hx hb d_Mod_setHamper_28 (by decide) ?_
    exact r_iret hx hb hr hlocks hP hD hS d_Mod_setHamper_29 h
  · have h := h.2 hc
    refine lv_iload_n hx hb d_Mod_setHamper_7 rfl (lv_at hl 2 rfl) ?_
    refine lv_iconst (v := 1) hx hb d_Mod_setHamper_8 (by decide) ?_
    refine lv_sipush (v := 200) hx hb d_Mod_setHamper_9 (by decide) ?_
    refine call_S (As := [.int p2, .int 1, .int 200]) (rest := []) hx hb hml hts hown so_Mod_24 rfl ⟨Nat.le_of_ble_eq_true rfl, Nat.le_of_ble_eq_true rfl⟩ ⟨Nat.le_of_ble_eq_true rfl, Nat.le_of_ble_eq_true rfl⟩ hl.1 rfl (Nat.le_of_ble_eq_true rfl) d_Mod_setHamper_12 (k_Mod_in l p2 1 200) ?_
    refine lv_if_eq (tgt := 28) hx hb d_Mod_setHamper_15 (by decide) (fun hc => ?_) (fun hc => ?_)
    · have h := h.1 hc
      refine lv_iconst (v := (-1)) hx hb d_Mod_setHamper_28 (by decide) ?_
      exact r_iret hx hb hr hlocks hP hD hS d_Mod_setHamper_29 h
    · have h := h.2 hc
      refine lv_iload_n hx hb d_Mod_setHamper_18 rfl (lv_at hl 3 rfl) ?_
      refine lv_iconst (v := 0) hx hb d_Mod_setHamper_19 (by decide) ?_
      refine lv_bipush (v := 9) hx hb d_Mod_setHamper_20 (by decide) ?_
      refine call_S (As := [.int p3, .int 0, .int 9]) (rest := []) hx hb hml hts hown so_Mod_24 rfl ⟨Nat.le_of_ble_eq_true rfl, Nat.le_of_ble_eq_true rfl⟩ ⟨Nat.le_of_ble_eq_true rfl, Nat.le_of_ble_eq_true rfl⟩ hl.1 rfl (Nat.le_of_ble_eq_true rfl) d_Mod_setHamper_22 (k_Mod_in l p3 0 9) ?_
      refine lv_if_ne (tgt := 30) hx hb d_Mod_setHamper_25 (by decide) (fun hc => ?_) (fun hc => ?_)
      · have h := h.2 hc
        refine lv_aload_n hx hb d_Mod_setHamper_30 rfl (lv_at hl 0 rfl) ?_
        refine call_Vi1 (own := "HamperClubModel") (As := []) (rest := []) (q0 := 0) (ci := 9) hx hb hml hts hown hK hA hP hD hS ok_Mod_39 rfl ⟨Nat.le_of_ble_eq_true rfl, Nat.le_of_ble_eq_true rfl⟩ ⟨Nat.le_of_ble_eq_true rfl, Nat.le_of_ble_eq_true rfl⟩ rfl rfl rfl hl.1 rfl (Nat.le_of_ble_eq_true rfl) d_Mod_setHamper_31 (c_Mod_isSettled l G ad _ u  _ h) (fun x2 u1 H locs h hP hD hS => ?_)
        refine lv_if_eq (tgt := 40) hx hb d_Mod_setHamper_34 (by decide) (fun hc => ?_) (fun hc => ?_)
        · have h := h.1 hc
          refine lv_aload_n hx hb d_Mod_setHamper_40 rfl (lv_at hl 0 rfl) ?_
          refine call_Vv1 (own := "HamperClubModel") (As := []) (rest := []) (q0 := 0) (ci := 9) hx hb hml hts hown hK hA hP hD hS ok_Mod_36 rfl ⟨Nat.le_of_ble_eq_true rfl, Nat.le_of_ble_eq_true rfl⟩ ⟨Nat.le_of_ble_eq_true rfl, Nat.le_of_ble_eq_true rfl⟩ rfl rfl rfl hl.1 rfl (Nat.le_of_ble_eq_true rfl) d_Mod_setHamper_41 (c_Mod_record l G ad _ u1  _ h) (fun u3 H locs h hP hD hS => ?_)
          refine lv_aload_n hx hb d_Mod_setHamper_44 rfl (lv_at hl 0 rfl) ?_
          refine gR_Mod_row hx hb hts hown hK hP tb_653 d_Mod_setHamper_45 ?_
          refine lv_iload_n hx hb d_Mod_setHamper_48 rfl (lv_at hl 1 rfl) ?_
          refine lv_iconst (v := 0) hx hb d_Mod_setHamper_49 (by decide) ?_
          refine call_S (As := [.int p1, .int 0]) (rest := [.ref (ad 1)]) hx hb hml hts hown so_Mod_20 rfl ⟨Nat.le_of_ble_eq_true rfl, Nat.le_of_ble_eq_true rfl⟩ ⟨Nat.le_of_ble_eq_true rfl, Nat.le_of_ble_eq_true rfl⟩ hl.1 rfl (Nat.le_of_ble_eq_true rfl) d_Mod_setHamper_50 (k_Mod_ofKind l p1 0) ?_
          obtain ⟨hi, h⟩ := h
          refine lR_1 hx hb hK hP hi d_Mod_setHamper_53 ?_
          refine lv_topi (fun x4 ex4 => ?_)
          have h := h x4 ex4
          refine lv_istore (lv' := [(4, .int x4), (0, .ref (ad 0)), (1, .int p1), (2, .int p2), (3, .int p3)]) hx hb d_Mod_setHamper_54 hl (by decide) rfl (fun ls hl => ?_)
          refine lv_aload_n hx hb d_Mod_setHamper_56 rfl (lv_at hl 1 rfl) ?_
          refine gR_Mod_row hx hb hts hown hK hP tb_653 d_Mod_setHamper_57 ?_
          refine lv_iload_n hx hb d_Mod_setHamper_60 rfl (lv_at hl 2 rfl) ?_
          refine lv_iconst (v := 0) hx hb d_Mod_setHamper_61 (by decide) ?_
          refine call_S (As := [.int p1, .int 0]) (rest := [.ref (ad 1)]) hx hb hml hts hown so_Mod_20 rfl ⟨Nat.le_of_ble_eq_true rfl, Nat.le_of_ble_eq_true rfl⟩ ⟨Nat.le_of_ble_eq_true rfl, Nat.le_of_ble_eq_true rfl⟩ hl.1 rfl (Nat.le_of_ble_eq_true rfl) d_Mod_setHamper_62 (k_Mod_ofKind l p1 0) ?_
          refine lv_iload_n hx hb d_Mod_setHamper_65 rfl (lv_at hl 3 rfl) ?_
          obtain ⟨hi, h⟩ := h
          refine sR_1 hx hb hK hP hD hS hi d_Mod_setHamper_66 (fun u5 H locs eu5 hP hD hS => ?_)
          have h := h u5 eu5
          refine lv_aload_n hx hb d_Mod_setHamper_67 rfl (lv_at hl 1 rfl) ?_
          refine gR_Mod_row hx hb hts hown hK hP tb_653 d_Mod_setHamper_68 ?_
          refine lv_iload_n hx hb d_Mod_setHamper_71 rfl (lv_at hl 2 rfl) ?_
          refine lv_iconst (v := 1) hx hb d_Mod_setHamper_72 (by decide) ?_
          refine call_S (As := [.int p1, .int 1]) (rest := [.ref (ad 1)]) hx hb hml hts hown so_Mod_20 rfl ⟨Nat.le_of_ble_eq_true rfl, Nat.le_of_ble_eq_true rfl⟩ ⟨Nat.le_of_ble_eq_true rfl, Nat.le_of_ble_eq_true rfl⟩ hl.1 rfl (Nat.le_of_ble_eq_true rfl) d_Mod_setHamper_73 (k_Mod_ofKind l p1 1) ?_
          refine lv_iload_n hx hb d_Mod_setHamper_76 rfl (lv_at hl 4 rfl) ?_
          obtain ⟨hi, h⟩ := h
          refine sR_1 hx hb hK hP hD hS hi d_Mod_setHamper_77 (fun u6 H locs eu6 hP hD hS => ?_)
          have h := h u6 eu6
          refine lv_iload hx hb d_Mod_setHamper_78 (lv_at hl 0 rfl) ?_
          exact r_iret hx hb hr hlocks hP hD hS d_Mod_setHamper_80 h
        · have h := h.2 hc
          refine lv_bipush (v := (-2)) hx hb d_Mod_setHamper_37 (by decide) ?_
          exact r_iret hx hb hr hlocks hP hD hS d_Mod_setHamper_39 h
      · have h := h.1 hc
        refine lv_iconst (v := (-1)) hx hb d_Mod_setHamper_28 (by decide) ?_
        exact r_iret hx hb hr hlocks hP hD hS d_Mod_setHamper_29 h
def wp_Mod_passOn (u : RS) (p1 : Int32) (Post : Int32 → RS → Prop) : Prop := (vp_in (pf_Mod_ofKind p1 2) 4306 ∧ (((u.1 (pf_Mod_ofKind p1 2).toNatClampNeg) = 0 → (vp_in (pf_Mod_ofKind p1 1) 4306 ∧ (vp_in (pf_Mod_ofKind p1 1) 4306 ∧ (∀ u4 : RS, u4 = (rR u (upd u.1 (pf_Mod_ofKind p1 1).toNatClampNeg ((u.1 (pf_Mod_ofKind p1 1).toNatClampNeg) + 1))) → Post (-9) u4)))) ∧ (¬ (u.1 (pf_Mod_ofKind p1 2).toNatClampNeg) = 0 → (vp_in (pf_Mod_ofKind p1 3) 4306 ∧ (∀ x1 : Int32, x1 = (u.1 (pf_Mod_ofKind p1 3).toNatClampNeg) → (wp_Mod_leaveRow u p1 0 (fun u2 => (vp_in (pf_Mod_of x1 4) 4306 ∧ (∀ u3 : RS, u3 = (rR u2 (upd u2.1 (pf_Mod_of x1 4).toNatClampNeg 1)) → Post x1 u3)))))))))
theorem ok_Mod_89 : CallOk y_Mod_leaveRow b_Mod_leaveRow 4 none 1 2 "HamperClubModel" 89 := ⟨tb_807, tb_809, sl_30, tb_12, tb_810, by decide +kernel⟩
set_option maxHeartbeats 4000000 in
set_option maxRecDepth 100000 in
theorem c_Mod_passOn (l : Launch) (G : GG) (ad : Nat → Nat) (sz : Nat) (u : RS) (p1 : Int32) (Post : Int32 → RS → Prop) (h : wp_Mod_passOn u p1 Post) : CMi l y_Mod_passOn b_Mod_passOn 3 .int 2 G [.ref (ad 0), .int p1] sz (refW G ad u) (refW G ad) Post := by
  refine CMi.start (by decide) (Nat.le_of_ble_eq_true rfl) (fun p e s m below meth c A ls hx hb hr hts hown hml hlocks hA hS hP hD hK hl => ?_)
  unfold wp_Mod_passOn at h
  have hl : lv_has ls 3 [(0, .ref (ad 0)), (1, .int p1)] := hl
  refine lv_aload_n hx hb d_Mod_passOn_0 rfl (lv_at hl 0 rfl) ?_
  refine gR_Mod_row hx hb hts hown hK hP tb_653 d_Mod_passOn_1 ?_
  refine lv_iload_n hx hb d_Mod_passOn_4 rfl (lv_at hl 1 rfl) ?_
  refine lv_iconst (v := 2) hx hb d_Mod_passOn_5 (by decide) ?_
  refine call_S (As := [.int p1, .int 2]) (rest := [.ref (ad 1)]) hx hb hml hts hown so_Mod_20 rfl ⟨Nat.le_of_ble_eq_true rfl, Nat.le_of_ble_eq_true rfl⟩ ⟨Nat.le_of_ble_eq_true rfl, Nat.le_of_ble_eq_true rfl⟩ hl.1 rfl (Nat.le_of_ble_eq_true rfl) d_Mod_passOn_6 (k_Mod_ofKind l p1 2) ?_
  obtain ⟨hi, h⟩ := h
  refine lR_1 hx hb hK hP hi d_Mod_passOn_9 ?_
  refine lv_if_ne (tgt := 30) hx hb d_Mod_passOn_10 (by decide) (fun hc => ?_) (fun hc => ?_)
  · have h := h.2 hc
    refine lv_aload_n hx hb d_Mod_passOn_30 rfl (lv_at hl 0 rfl) ?_
    refine gR_Mod_row hx hb hts hown hK hP tb_653 d_Mod_passOn_31 ?_
    refine lv_iload_n hx hb d_Mod_passOn_34 rfl (lv_at hl 1 rfl) ?_
    refine lv_iconst (v := 3) hx hb d_Mod_passOn_35 (by decide) ?_
    refine call_S (As := [.int p1, .int 3]) (rest := [.ref (ad 1)]) hx hb hml hts hown so_Mod_20 rfl ⟨Nat.le_of_ble_eq_true rfl, Nat.le_of_ble_eq_true rfl⟩ ⟨Nat.le_of_ble_eq_true rfl, Nat.le_of_ble_eq_true rfl⟩ hl.1 rfl (Nat.le_of_ble_eq_true rfl) d_Mod_passOn_36 (k_Mod_ofKind l p1 3) ?_
    obtain ⟨hi, h⟩ := h
    refine lR_1 hx hb hK hP hi d_Mod_passOn_39 ?_
    refine lv_topi (fun x1 ex1 => ?_)
    have h := h x1 ex1
    refine lv_istore_n (lv' := [(2, .int x1), (0, .ref (ad 0)), (1, .int p1)]) hx hb d_Mod_passOn_40 rfl hl (by decide) rfl (fun ls hl => ?_)
    refine lv_aload_n hx hb d_Mod_passOn_41 rfl (lv_at hl 1 rfl) ?_
    refine lv_iload_n hx hb d_Mod_passOn_42 rfl (lv_at hl 2 rfl) ?_
    refine lv_iconst (v := 0) hx hb d_Mod_passOn_43 (by decide) ?_
    refine call_Vv1 (own := "HamperClubModel") (As := [.int p1, .int 0]) (rest := []) (q0 := 0) (ci := 9) hx hb hml hts hown hK hA hP hD hS ok_Mod_89 rfl ⟨Nat.le_of_ble_eq_true rfl, Nat.le_of_ble_eq_true rfl⟩ ⟨Nat.le_of_ble_eq_true rfl, Nat.le_of_ble_eq_true rfl⟩ rfl rfl rfl hl.1 rfl (Nat.le_of_ble_eq_true rfl) d_Mod_passOn_44 (c_Mod_leaveRow l G ad _ u p1 0 _ h) (fun u2 H locs h hP hD hS => ?_)
    refine lv_aload_n hx hb d_Mod_passOn_47 rfl (lv_at hl 1 rfl) ?_
    refine gR_Mod_row hx hb hts hown hK hP tb_653 d_Mod_passOn_48 ?_
    refine lv_iload_n hx hb d_Mod_passOn_51 rfl (lv_at hl 0 rfl) ?_
    refine lv_iconst (v := 4) hx hb d_Mod_passOn_52 (by decide) ?_
    refine call_S (As := [.int x1, .int 4]) (rest := [.ref (ad 1)]) hx hb hml hts hown so_Mod_43 rfl ⟨Nat.le_of_ble_eq_true rfl, Nat.le_of_ble_eq_true rfl⟩ ⟨Nat.le_of_ble_eq_true rfl, Nat.le_of_ble_eq_true rfl⟩ hl.1 rfl (Nat.le_of_ble_eq_true rfl) d_Mod_passOn_53 (k_Mod_of l x1 4) ?_
    refine lv_iconst (v := 1) hx hb d_Mod_passOn_56 (by decide) ?_
    obtain ⟨hi, h⟩ := h
    refine sR_1 hx hb hK hP hD hS hi d_Mod_passOn_57 (fun u3 H locs eu3 hP hD hS => ?_)
    have h := h u3 eu3
    refine lv_iload_n hx hb d_Mod_passOn_58 rfl (lv_at hl 0 rfl) ?_
    exact r_iret hx hb hr hlocks hP hD hS d_Mod_passOn_59 h
  · have h := h.1 hc
    refine lv_aload_n hx hb d_Mod_passOn_13 rfl (lv_at hl 0 rfl) ?_
    refine gR_Mod_row hx hb hts hown hK hP tb_653 d_Mod_passOn_14 ?_
    refine lv_iload_n hx hb d_Mod_passOn_17 rfl (lv_at hl 1 rfl) ?_
    refine lv_iconst (v := 1) hx hb d_Mod_passOn_18 (by decide) ?_
    refine call_S (As := [.int p1, .int 1]) (rest := [.ref (ad 1)]) hx hb hml hts hown so_Mod_20 rfl ⟨Nat.le_of_ble_eq_true rfl, Nat.le_of_ble_eq_true rfl⟩ ⟨Nat.le_of_ble_eq_true rfl, Nat.le_of_ble_eq_true rfl⟩ hl.1 rfl (Nat.le_of_ble_eq_true rfl) d_Mod_passOn_19 (k_Mod_ofKind l p1 1) ?_
    refine lv_dup2_11 hx hb d_Mod_passOn_22 rfl rfl ?_
    obtain ⟨hi, h⟩ := h
    refine lR_1 hx hb hK hP hi d_Mod_passOn_23 ?_
    refine lv_iconst (v := 1) hx hb d_Mod_passOn_24 (by decide) ?_
    refine lv_iadd hx hb d_Mod_passOn_25 ?_
    obtain ⟨hi, h⟩ := h
    refine sR_1 hx hb hK hP hD hS hi d_Mod_passOn_26 (fun u4 H locs eu4 hP hD hS => ?_)
    have h := h u4 eu4
    refine lv_bipush (v := (-9)) hx hb d_Mod_passOn_27 (by decide) ?_
    exact r_iret hx hb hr hlocks hP hD hS d_Mod_passOn_29 h
def wp_Mod_noChoose (u : RS) (p1 : Int32) (p2 : Int32) (Post : Int32 → RS → Prop) : Prop := (wp_Mod_isMember u p1 (fun x2 u1 => ((x2 = 0 → Post (-1) u1) ∧ (¬ x2 = 0 → (((pf_Mod_isKind p2) = 0 → Post (-1) u1) ∧ (¬ (pf_Mod_isKind p2) = 0 → (wp_Mod_isSettled u1  (fun x4 u3 => ((x4 = 0 → (vp_in (pf_Mod_of p1 3) 4306 ∧ (((u3.1 (pf_Mod_of p1 3).toNatClampNeg) = p2 → Post (-2) u3) ∧ (¬ (u3.1 (pf_Mod_of p1 3).toNatClampNeg) = p2 → Post 0 u3)))) ∧ (¬ x4 = 0 → Post (-2) u3))))))))))
set_option maxHeartbeats 4000000 in
set_option maxRecDepth 100000 in
theorem c_Mod_noChoose (l : Launch) (G : GG) (ad : Nat → Nat) (sz : Nat) (u : RS) (p1 : Int32) (p2 : Int32) (Post : Int32 → RS → Prop) (h : wp_Mod_noChoose u p1 p2 Post) : CMi l y_Mod_noChoose b_Mod_noChoose 3 .int 2 G [.ref (ad 0), .int p1, .int p2] sz (refW G ad u) (refW G ad) Post := by
  refine CMi.start (by decide) (Nat.le_of_ble_eq_true rfl) (fun p e s m below meth c A ls hx hb hr hts hown hml hlocks hA hS hP hD hK hl => ?_)
  unfold wp_Mod_noChoose at h
  have hl : lv_has ls 3 [(0, .ref (ad 0)), (1, .int p1), (2, .int p2)] := hl
  refine lv_aload_n hx hb d_Mod_noChoose_0 rfl (lv_at hl 0 rfl) ?_
  refine lv_iload_n hx hb d_Mod_noChoose_1 rfl (lv_at hl 1 rfl) ?_
  refine call_Vi1 (own := "HamperClubModel") (As := [.int p1]) (rest := []) (q0 := 0) (ci := 9) hx hb hml hts hown hK hA hP hD hS ok_Mod_46 rfl ⟨Nat.le_of_ble_eq_true rfl, Nat.le_of_ble_eq_true rfl⟩ ⟨Nat.le_of_ble_eq_true rfl, Nat.le_of_ble_eq_true rfl⟩ rfl rfl rfl hl.1 rfl (Nat.le_of_ble_eq_true rfl) d_Mod_noChoose_2 (c_Mod_isMember l G ad _ u p1 _ h) (fun x2 u1 H locs h hP hD hS => ?_)
  refine lv_if_eq (tgt := 15) hx hb d_Mod_noChoose_5 (by decide) (fun hc => ?_) (fun hc => ?_)
  · have h := h.1 hc
    refine lv_iconst (v := (-1)) hx hb d_Mod_noChoose_15 (by decide) ?_
    exact r_iret hx hb hr hlocks hP hD hS d_Mod_noChoose_16 h
  · have h := h.2 hc
    refine lv_iload_n hx hb d_Mod_noChoose_8 rfl (lv_at hl 2 rfl) ?_
    refine call_S (As := [.int p2]) (rest := []) hx hb hml hts hown so_Mod_86 rfl ⟨Nat.le_of_ble_eq_true rfl, Nat.le_of_ble_eq_true rfl⟩ ⟨Nat.le_of_ble_eq_true rfl, Nat.le_of_ble_eq_true rfl⟩ hl.1 rfl (Nat.le_of_ble_eq_true rfl) d_Mod_noChoose_9 (k_Mod_isKind l p2) ?_
    refine lv_if_ne (tgt := 17) hx hb d_Mod_noChoose_12 (by decide) (fun hc => ?_) (fun hc => ?_)
    · have h := h.2 hc
      refine lv_aload_n hx hb d_Mod_noChoose_17 rfl (lv_at hl 0 rfl) ?_
      refine call_Vi1 (own := "HamperClubModel") (As := []) (rest := []) (q0 := 0) (ci := 9) hx hb hml hts hown hK hA hP hD hS ok_Mod_39 rfl ⟨Nat.le_of_ble_eq_true rfl, Nat.le_of_ble_eq_true rfl⟩ ⟨Nat.le_of_ble_eq_true rfl, Nat.le_of_ble_eq_true rfl⟩ rfl rfl rfl hl.1 rfl (Nat.le_of_ble_eq_true rfl) d_Mod_noChoose_18 (c_Mod_isSettled l G ad _ u1  _ h) (fun x4 u3 H locs h hP hD hS => ?_)
      refine lv_if_ne (tgt := 38) hx hb d_Mod_noChoose_21 (by decide) (fun hc => ?_) (fun hc => ?_)
      · have h := h.2 hc
        refine lv_bipush (v := (-2)) hx hb d_Mod_noChoose_38 (by decide) ?_
        refine lv_goto (tgt := 44) hx hb d_Mod_noChoose_40 (by decide) ?_
        exact r_iret hx hb hr hlocks hP hD hS d_Mod_noChoose_44 h
      · have h := h.1 hc
        refine lv_aload_n hx hb d_Mod_noChoose_24 rfl (lv_at hl 0 rfl) ?_
        refine gR_Mod_row hx hb hts hown hK hP tb_653 d_Mod_noChoose_25 ?_
        refine lv_iload_n hx hb d_Mod_noChoose_28 rfl (lv_at hl 1 rfl) ?_
        refine lv_iconst (v := 3) hx hb d_Mod_noChoose_29 (by decide) ?_
        refine call_S (As := [.int p1, .int 3]) (rest := [.ref (ad 1)]) hx hb hml hts hown so_Mod_43 rfl ⟨Nat.le_of_ble_eq_true rfl, Nat.le_of_ble_eq_true rfl⟩ ⟨Nat.le_of_ble_eq_true rfl, Nat.le_of_ble_eq_true rfl⟩ hl.1 rfl (Nat.le_of_ble_eq_true rfl) d_Mod_noChoose_30 (k_Mod_of l p1 3) ?_
        obtain ⟨hi, h⟩ := h
        refine lR_1 hx hb hK hP hi d_Mod_noChoose_33 ?_
        refine lv_iload_n hx hb d_Mod_noChoose_34 rfl (lv_at hl 2 rfl) ?_
        refine lv_icmp_ne (tgt := 43) hx hb d_Mod_noChoose_35 (by decide) (fun hc => ?_) (fun hc => ?_)
        · have h := h.2 hc
          refine lv_iconst (v := 0) hx hb d_Mod_noChoose_43 (by decide) ?_
          exact r_iret hx hb hr hlocks hP hD hS d_Mod_noChoose_44 h
        · have h := h.1 hc
          refine lv_bipush (v := (-2)) hx hb d_Mod_noChoose_38 (by decide) ?_
          refine lv_goto (tgt := 44) hx hb d_Mod_noChoose_40 (by decide) ?_
          exact r_iret hx hb hr hlocks hP hD hS d_Mod_noChoose_44 h
    · have h := h.1 hc
      refine lv_iconst (v := (-1)) hx hb d_Mod_noChoose_15 (by decide) ?_
      exact r_iret hx hb hr hlocks hP hD hS d_Mod_noChoose_16 h
def wp_Mod_noGiveUp (u : RS) (p1 : Int32) (Post : Int32 → RS → Prop) : Prop := (wp_Mod_isMember u p1 (fun x2 u1 => ((x2 = 0 → Post (-1) u1) ∧ (¬ x2 = 0 → (wp_Mod_isSettled u1  (fun x4 u3 => ((x4 = 0 → (vp_in (pf_Mod_of p1 3) 4306 ∧ (((u3.1 (pf_Mod_of p1 3).toNatClampNeg) = (-9) → Post (-2) u3) ∧ (¬ (u3.1 (pf_Mod_of p1 3).toNatClampNeg) = (-9) → Post 0 u3)))) ∧ (¬ x4 = 0 → Post (-2) u3))))))))
set_option maxHeartbeats 4000000 in
set_option maxRecDepth 100000 in
theorem c_Mod_noGiveUp (l : Launch) (G : GG) (ad : Nat → Nat) (sz : Nat) (u : RS) (p1 : Int32) (Post : Int32 → RS → Prop) (h : wp_Mod_noGiveUp u p1 Post) : CMi l y_Mod_noGiveUp b_Mod_noGiveUp 2 .int 2 G [.ref (ad 0), .int p1] sz (refW G ad u) (refW G ad) Post := by
  refine CMi.start (by decide) (Nat.le_of_ble_eq_true rfl) (fun p e s m below meth c A ls hx hb hr hts hown hml hlocks hA hS hP hD hK hl => ?_)
  unfold wp_Mod_noGiveUp at h
  have hl : lv_has ls 2 [(0, .ref (ad 0)), (1, .int p1)] := hl
  refine lv_aload_n hx hb d_Mod_noGiveUp_0 rfl (lv_at hl 0 rfl) ?_
  refine lv_iload_n hx hb d_Mod_noGiveUp_1 rfl (lv_at hl 1 rfl) ?_
  refine call_Vi1 (own := "HamperClubModel") (As := [.int p1]) (rest := []) (q0 := 0) (ci := 9) hx hb hml hts hown hK hA hP hD hS ok_Mod_46 rfl ⟨Nat.le_of_ble_eq_true rfl, Nat.le_of_ble_eq_true rfl⟩ ⟨Nat.le_of_ble_eq_true rfl, Nat.le_of_ble_eq_true rfl⟩ rfl rfl rfl hl.1 rfl (Nat.le_of_ble_eq_true rfl) d_Mod_noGiveUp_2 (c_Mod_isMember l G ad _ u p1 _ h) (fun x2 u1 H locs h hP hD hS => ?_)
  refine lv_if_ne (tgt := 12) hx hb d_Mod_noGiveUp_5 (by decide) (fun hc => ?_) (fun hc => ?_)
  · have h := h.2 hc
    refine lv_aload_n hx hb d_Mod_noGiveUp_12 rfl (lv_at hl 0 rfl) ?_
    refine call_Vi1 (own := "HamperClubModel") (As := []) (rest := []) (q0 := 0) (ci := 9) hx hb hml hts hown hK hA hP hD hS ok_Mod_39 rfl ⟨Nat.le_of_ble_eq_true rfl, Nat.le_of_ble_eq_true rfl⟩ ⟨Nat.le_of_ble_eq_true rfl, Nat.le_of_ble_eq_true rfl⟩ rfl rfl rfl hl.1 rfl (Nat.le_of_ble_eq_true rfl) d_Mod_noGiveUp_13 (c_Mod_isSettled l G ad _ u1  _ h) (fun x4 u3 H locs h hP hD hS => ?_)
    refine lv_if_ne (tgt := 34) hx hb d_Mod_noGiveUp_16 (by decide) (fun hc => ?_) (fun hc => ?_)
    · have h := h.2 hc
      refine lv_bipush (v := (-2)) hx hb d_Mod_noGiveUp_34 (by decide) ?_
      refine lv_goto (tgt := 40) hx hb d_Mod_noGiveUp_36 (by decide) ?_
      exact r_iret hx hb hr hlocks hP hD hS d_Mod_noGiveUp_40 h
    · have h := h.1 hc
      refine lv_aload_n hx hb d_Mod_noGiveUp_19 rfl (lv_at hl 0 rfl) ?_
      refine gR_Mod_row hx hb hts hown hK hP tb_653 d_Mod_noGiveUp_20 ?_
      refine lv_iload_n hx hb d_Mod_noGiveUp_23 rfl (lv_at hl 1 rfl) ?_
      refine lv_iconst (v := 3) hx hb d_Mod_noGiveUp_24 (by decide) ?_
      refine call_S (As := [.int p1, .int 3]) (rest := [.ref (ad 1)]) hx hb hml hts hown so_Mod_43 rfl ⟨Nat.le_of_ble_eq_true rfl, Nat.le_of_ble_eq_true rfl⟩ ⟨Nat.le_of_ble_eq_true rfl, Nat.le_of_ble_eq_true rfl⟩ hl.1 rfl (Nat.le_of_ble_eq_true rfl) d_Mod_noGiveUp_25 (k_Mod_of l p1 3) ?_
      obtain ⟨hi, h⟩ := h
      refine lR_1 hx hb hK hP hi d_Mod_noGiveUp_28 ?_
      refine lv_bipush (v := (-9)) hx hb d_Mod_noGiveUp_29 (by decide) ?_
      refine lv_icmp_ne (tgt := 39) hx hb d_Mod_noGiveUp_31 (by decide) (fun hc => ?_) (fun hc => ?_)
      · have h := h.2 hc
        refine lv_iconst (v := 0) hx hb d_Mod_noGiveUp_39 (by decide) ?_
        exact r_iret hx hb hr hlocks hP hD hS d_Mod_noGiveUp_40 h
      · have h := h.1 hc
        refine lv_bipush (v := (-2)) hx hb d_Mod_noGiveUp_34 (by decide) ?_
        refine lv_goto (tgt := 40) hx hb d_Mod_noGiveUp_36 (by decide) ?_
        exact r_iret hx hb hr hlocks hP hD hS d_Mod_noGiveUp_40 h
  · have h := h.1 hc
    refine lv_iconst (v := (-1)) hx hb d_Mod_noGiveUp_8 (by decide) ?_
    refine lv_goto (tgt := 40) hx hb d_Mod_noGiveUp_9 (by decide) ?_
    exact r_iret hx hb hr hlocks hP hD hS d_Mod_noGiveUp_40 h
def wl_Mod_layBonuses_4 (Post : RS → Prop) (K : Int32 → RS → Prop) : Nat → Int32 → Int32 → RS → Prop
  | 0, _, _ => fun _ => False
  | n + 1, a1, a2 => fun u1 => (((u1.1 (1 : Int32).toNatClampNeg) ≤ a2 → K a1 u1) ∧ (¬ (u1.1 (1 : Int32).toNatClampNeg) ≤ a2 → (wp_Mod_shares u1 a2 (fun x3 u2 => ((x3 = 0 → (∀ x4 : Int32, x4 = (a1 + 0) → (∀ x5 : Int32, x5 = a2 + 1 → wl_Mod_layBonuses_4 Post K n x4 x5 u2))) ∧ (¬ x3 = 0 → (vp_in (pf_Mod_of a2 0) 4306 ∧ (∀ x6 : Int32, x6 = (a1 + (u2.1 (pf_Mod_of a2 0).toNatClampNeg)) → (∀ x7 : Int32, x7 = a2 + 1 → wl_Mod_layBonuses_4 Post K n x6 x7 u2)))))))))
def wl_Mod_layBonuses_47 (Post : RS → Prop) (K : RS → Prop) : Nat → Int32 → Int32 → RS → Prop
  | 0, _, _ => fun _ => False
  | n + 1, a1, a2 => fun u10 => (((u10.1 (1 : Int32).toNatClampNeg) ≤ a2 → K  u10) ∧ (¬ (u10.1 (1 : Int32).toNatClampNeg) ≤ a2 → (wp_Mod_shares u10 a2 (fun x12 u11 => ((x12 = 0 → (vp_in (pf_Mod_of a2 12) 4306 ∧ (∀ u13 : RS, u13 = (rR u11 (upd u11.1 (pf_Mod_of a2 12).toNatClampNeg 0)) → (∀ x14 : Int32, x14 = a2 + 1 → wl_Mod_layBonuses_47 Post K n a1 x14 u13)))) ∧ (¬ x12 = 0 → (vp_in (pf_Mod_of a2 0) 4306 ∧ (¬ a1 = 0 ∧ (vp_in (pf_Mod_of a2 12) 4306 ∧ (∀ u15 : RS, u15 = (rR u11 (upd u11.1 (pf_Mod_of a2 12).toNatClampNeg (((u11.1 (4 : Int32).toNatClampNeg) * (u11.1 (pf_Mod_of a2 0).toNatClampNeg)) / a1))) → (∀ x16 : Int32, x16 = a2 + 1 → wl_Mod_layBonuses_47 Post K n a1 x16 u15)))))))))))
def wp_Mod_layBonuses (u : RS) (Post : RS → Prop) : Prop := (∃ k19 : Nat, wl_Mod_layBonuses_4 Post (fun x9 u8 => (∃ k18 : Nat, wl_Mod_layBonuses_47 Post (fun u17 => Post u17) k18 x9 0 u8)) k19 0 0 u)
theorem ok_Mod_117 : CallOk y_Mod_shares b_Mod_shares 2 (some .boolean) 1 1 "HamperClubModel" 117 := ⟨tb_847, tb_849, sl_37, tb_12, tb_850, by decide +kernel⟩
set_option maxHeartbeats 4000000 in
set_option maxRecDepth 100000 in
theorem x_Mod_layBonuses_4 {p : Program} {l : Launch} {e : Env} {s : State} {m : MethodId} {args : Array Value} {below : List Frame} {meth : Method} {c : Code} {A : Nat → Prop} {G : GG} {ad : Nat → Nat} {Post : RS → Prop} {K : Int32 → RS → Prop} {Q : State → Prop}
    (hx : p.tables.exec = Jvm.exec) (hb : c.code = b_Mod_layBonuses) (hr : meth.sig.returnType = none) (hts : ∀ w ∈ Tg, w.before args s = true) (hown : s.vm.findClass "HamperClubModel" = some m.cls) (hml : c.maxLocals = 3) (hlocks : meth.locks = false) (hA : ∀ q, s.heap.size ≤ q → A q) (hK : KN G s)
    (hQ : Q = MQ below (va_Qv Post (BW G A (refW G ad)) A) args s 0 0 A)
    (kk : ∀ (b1 : Int32) (u : RS), K b1 u → ∀ (H : Heap) (locs : List Loc) (ls : Array Slot), va_P G.1 classes (refW G ad u) H → va_D A (refW G ad u) → va_S A s.heap H locs → lv_has ls 3 [(0, .ref (ad 0)), (1, .int b1)] → W p l e (rmK 2) s m args below meth c H locs 0 0 Q (F0 m 45 ls [])) :
    ∀ (n : Nat) (a1 : Int32) (a2 : Int32) (u : RS), wl_Mod_layBonuses_4 Post K n a1 a2 u → ∀ (H : Heap) (locs : List Loc) (ls : Array Slot), va_P G.1 classes (refW G ad u) H → va_D A (refW G ad u) → va_S A s.heap H locs → lv_has ls 3 [(0, .ref (ad 0)), (1, .int a1), (2, .int a2)] → W p l e (rmK 2) s m args below meth c H locs 0 0 Q (F0 m 4 ls []) := by
  subst hQ
  intro n
  induction n with
  | zero => intro a1 a2 u h; exact h.elim
  | succ n ih =>
    intro a1 a2 u1 h H locs ls hP hD hS hl
    unfold wl_Mod_layBonuses_4 at h
    refine lv_iload_n hx hb d_Mod_layBonuses_4 rfl (lv_at hl 2 rfl) ?_
    refine lv_aload_n hx hb d_Mod_layBonuses_5 rfl (lv_at hl 0 rfl) ?_
    refine gR_Mod_row hx hb hts hown hK hP tb_653 d_Mod_layBonuses_6 ?_
    refine lv_iconst (v := 1) hx hb d_Mod_layBonuses_9 (by decide) ?_
    refine lR_1 hx hb hK hP (by unfold vp_in; decide) d_Mod_layBonuses_10 ?_
    refine lv_icmp_ge (tgt := 45) hx hb d_Mod_layBonuses_11 (by decide) (fun hc => ?_) (fun hc => ?_)
    · have h := h.1 hc
      exact kk a1 u1 h _ _ _ hP hD hS (lv_sub hl [0, 1] rfl)
    · have h := h.2 hc
      refine lv_iload_n hx hb d_Mod_layBonuses_14 rfl (lv_at hl 1 rfl) ?_
      refine lv_aload_n hx hb d_Mod_layBonuses_15 rfl (lv_at hl 0 rfl) ?_
      refine lv_iload_n hx hb d_Mod_layBonuses_16 rfl (lv_at hl 2 rfl) ?_
      refine call_Vi1 (own := "HamperClubModel") (As := [.int a2]) (rest := [.int a1]) (q0 := 0) (ci := 9) hx hb hml hts hown hK hA hP hD hS ok_Mod_117 rfl ⟨Nat.le_of_ble_eq_true rfl, Nat.le_of_ble_eq_true rfl⟩ ⟨Nat.le_of_ble_eq_true rfl, Nat.le_of_ble_eq_true rfl⟩ rfl rfl rfl hl.1 rfl (Nat.le_of_ble_eq_true rfl) d_Mod_layBonuses_17 (c_Mod_shares l G ad _ u1 a2 _ h) (fun x3 u2 H locs h hP hD hS => ?_)
      refine lv_if_eq (tgt := 36) hx hb d_Mod_layBonuses_20 (by decide) (fun hc => ?_) (fun hc => ?_)
      · have h := h.1 hc
        refine lv_iconst (v := 0) hx hb d_Mod_layBonuses_36 (by decide) ?_
        refine lv_iadd hx hb d_Mod_layBonuses_37 ?_
        refine lv_topi (fun x4 ex4 => ?_)
        have h := h x4 ex4
        refine lv_istore_n (lv' := [(1, .int x4), (0, .ref (ad 0)), (2, .int a2)]) hx hb d_Mod_layBonuses_38 rfl hl (by decide) rfl (fun ls hl => ?_)
        obtain ⟨x5, ex5⟩ : ∃ y : Int32, y = a2 + 1 := ⟨_, rfl⟩
        have h := h x5 ex5
        refine lv_iinc (v := x5) (lv' := [(2, .int x5), (1, .int x4), (0, .ref (ad 0))]) hx hb d_Mod_layBonuses_39 hl (k := 2) rfl (by rw [ex5]; rfl) (by decide) rfl (fun ls hl => ?_)
        refine lv_goto (tgt := 4) hx hb d_Mod_layBonuses_42 (by decide) ?_
        exact ih x4 x5 u2 h _ _ _ hP hD hS (lv_sub hl [2, 1, 0] rfl)
      · have h := h.2 hc
        refine lv_aload_n hx hb d_Mod_layBonuses_23 rfl (lv_at hl 0 rfl) ?_
        refine gR_Mod_row hx hb hts hown hK hP tb_653 d_Mod_layBonuses_24 ?_
        refine lv_iload_n hx hb d_Mod_layBonuses_27 rfl (lv_at hl 2 rfl) ?_
        refine lv_iconst (v := 0) hx hb d_Mod_layBonuses_28 (by decide) ?_
        refine call_S (As := [.int a2, .int 0]) (rest := [.ref (ad 1), .int a1]) hx hb hml hts hown so_Mod_43 rfl ⟨Nat.le_of_ble_eq_true rfl, Nat.le_of_ble_eq_true rfl⟩ ⟨Nat.le_of_ble_eq_true rfl, Nat.le_of_ble_eq_true rfl⟩ hl.1 rfl (Nat.le_of_ble_eq_true rfl) d_Mod_layBonuses_29 (k_Mod_of l a2 0) ?_
        obtain ⟨hi, h⟩ := h
        refine lR_1 hx hb hK hP hi d_Mod_layBonuses_32 ?_
        refine lv_goto (tgt := 37) hx hb d_Mod_layBonuses_33 (by decide) ?_
        refine lv_iadd hx hb d_Mod_layBonuses_37 ?_
        refine lv_topi (fun x6 ex6 => ?_)
        have h := h x6 ex6
        refine lv_istore_n (lv' := [(1, .int x6), (0, .ref (ad 0)), (2, .int a2)]) hx hb d_Mod_layBonuses_38 rfl hl (by decide) rfl (fun ls hl => ?_)
        obtain ⟨x7, ex7⟩ : ∃ y : Int32, y = a2 + 1 := ⟨_, rfl⟩
        have h := h x7 ex7
        refine lv_iinc (v := x7) (lv' := [(2, .int x7), (1, .int x6), (0, .ref (ad 0))]) hx hb d_Mod_layBonuses_39 hl (k := 2) rfl (by rw [ex7]; rfl) (by decide) rfl (fun ls hl => ?_)
        refine lv_goto (tgt := 4) hx hb d_Mod_layBonuses_42 (by decide) ?_
        exact ih x6 x7 u2 h _ _ _ hP hD hS (lv_sub hl [2, 1, 0] rfl)
set_option maxHeartbeats 4000000 in
set_option maxRecDepth 100000 in
theorem x_Mod_layBonuses_47 {p : Program} {l : Launch} {e : Env} {s : State} {m : MethodId} {args : Array Value} {below : List Frame} {meth : Method} {c : Code} {A : Nat → Prop} {G : GG} {ad : Nat → Nat} {Post : RS → Prop} {K : RS → Prop} {Q : State → Prop}
    (hx : p.tables.exec = Jvm.exec) (hb : c.code = b_Mod_layBonuses) (hr : meth.sig.returnType = none) (hts : ∀ w ∈ Tg, w.before args s = true) (hown : s.vm.findClass "HamperClubModel" = some m.cls) (hml : c.maxLocals = 3) (hlocks : meth.locks = false) (hA : ∀ q, s.heap.size ≤ q → A q) (hK : KN G s)
    (hQ : Q = MQ below (va_Qv Post (BW G A (refW G ad)) A) args s 0 0 A)
    (kk : ∀ (u : RS), K  u → ∀ (H : Heap) (locs : List Loc) (ls : Array Slot), va_P G.1 classes (refW G ad u) H → va_D A (refW G ad u) → va_S A s.heap H locs → lv_has ls 3 [] → W p l e (rmK 2) s m args below meth c H locs 0 0 Q (F0 m 105 ls [])) :
    ∀ (n : Nat) (a1 : Int32) (a2 : Int32) (u : RS), wl_Mod_layBonuses_47 Post K n a1 a2 u → ∀ (H : Heap) (locs : List Loc) (ls : Array Slot), va_P G.1 classes (refW G ad u) H → va_D A (refW G ad u) → va_S A s.heap H locs → lv_has ls 3 [(0, .ref (ad 0)), (1, .int a1), (2, .int a2)] → W p l e (rmK 2) s m args below meth c H locs 0 0 Q (F0 m 47 ls []) := by
  subst hQ
  intro n
  induction n with
  | zero => intro a1 a2 u h; exact h.elim
  | succ n ih =>
    intro a1 a2 u10 h H locs ls hP hD hS hl
    unfold wl_Mod_layBonuses_47 at h
    refine lv_iload_n hx hb d_Mod_layBonuses_47 rfl (lv_at hl 2 rfl) ?_
    refine lv_aload_n hx hb d_Mod_layBonuses_48 rfl (lv_at hl 0 rfl) ?_
    refine gR_Mod_row hx hb hts hown hK hP tb_653 d_Mod_layBonuses_49 ?_
    refine lv_iconst (v := 1) hx hb d_Mod_layBonuses_52 (by decide) ?_
    refine lR_1 hx hb hK hP (by unfold vp_in; decide) d_Mod_layBonuses_53 ?_
    refine lv_icmp_ge (tgt := 105) hx hb d_Mod_layBonuses_54 (by decide) (fun hc => ?_) (fun hc => ?_)
    · have h := h.1 hc
      exact kk  u10 h _ _ _ hP hD hS (lv_sub hl [] rfl)
    · have h := h.2 hc
      refine lv_aload_n hx hb d_Mod_layBonuses_57 rfl (lv_at hl 0 rfl) ?_
      refine gR_Mod_row hx hb hts hown hK hP tb_653 d_Mod_layBonuses_58 ?_
      refine lv_iload_n hx hb d_Mod_layBonuses_61 rfl (lv_at hl 2 rfl) ?_
      refine lv_bipush (v := 12) hx hb d_Mod_layBonuses_62 (by decide) ?_
      refine call_S (As := [.int a2, .int 12]) (rest := [.ref (ad 1)]) hx hb hml hts hown so_Mod_43 rfl ⟨Nat.le_of_ble_eq_true rfl, Nat.le_of_ble_eq_true rfl⟩ ⟨Nat.le_of_ble_eq_true rfl, Nat.le_of_ble_eq_true rfl⟩ hl.1 rfl (Nat.le_of_ble_eq_true rfl) d_Mod_layBonuses_64 (k_Mod_of l a2 12) ?_
      refine lv_aload_n hx hb d_Mod_layBonuses_67 rfl (lv_at hl 0 rfl) ?_
      refine lv_iload_n hx hb d_Mod_layBonuses_68 rfl (lv_at hl 2 rfl) ?_
      refine call_Vi1 (own := "HamperClubModel") (As := [.int a2]) (rest := [.int (pf_Mod_of a2 12), .ref (ad 1)]) (q0 := 0) (ci := 9) hx hb hml hts hown hK hA hP hD hS ok_Mod_117 rfl ⟨Nat.le_of_ble_eq_true rfl, Nat.le_of_ble_eq_true rfl⟩ ⟨Nat.le_of_ble_eq_true rfl, Nat.le_of_ble_eq_true rfl⟩ rfl rfl rfl hl.1 rfl (Nat.le_of_ble_eq_true rfl) d_Mod_layBonuses_69 (c_Mod_shares l G ad _ u10 a2 _ h) (fun x12 u11 H locs h hP hD hS => ?_)
      refine lv_if_eq (tgt := 97) hx hb d_Mod_layBonuses_72 (by decide) (fun hc => ?_) (fun hc => ?_)
      · have h := h.1 hc
        refine lv_iconst (v := 0) hx hb d_Mod_layBonuses_97 (by decide) ?_
        obtain ⟨hi, h⟩ := h
        refine sR_1 hx hb hK hP hD hS hi d_Mod_layBonuses_98 (fun u13 H locs eu13 hP hD hS => ?_)
        have h := h u13 eu13
        obtain ⟨x14, ex14⟩ : ∃ y : Int32, y = a2 + 1 := ⟨_, rfl⟩
        have h := h x14 ex14
        refine lv_iinc (v := x14) (lv' := [(2, .int x14), (0, .ref (ad 0)), (1, .int a1)]) hx hb d_Mod_layBonuses_99 hl (k := 2) rfl (by rw [ex14]; rfl) (by decide) rfl (fun ls hl => ?_)
        refine lv_goto (tgt := 47) hx hb d_Mod_layBonuses_102 (by decide) ?_
        exact ih a1 x14 u13 h _ _ _ hP hD hS (lv_sub hl [1, 2, 0] rfl)
      · have h := h.2 hc
        refine lv_aload_n hx hb d_Mod_layBonuses_75 rfl (lv_at hl 0 rfl) ?_
        refine gR_Mod_row hx hb hts hown hK hP tb_653 d_Mod_layBonuses_76 ?_
        refine lv_iconst (v := 4) hx hb d_Mod_layBonuses_79 (by decide) ?_
        refine lR_1 hx hb hK hP (by unfold vp_in; decide) d_Mod_layBonuses_80 ?_
        refine lv_aload_n hx hb d_Mod_layBonuses_81 rfl (lv_at hl 0 rfl) ?_
        refine gR_Mod_row hx hb hts hown hK hP tb_653 d_Mod_layBonuses_82 ?_
        refine lv_iload_n hx hb d_Mod_layBonuses_85 rfl (lv_at hl 2 rfl) ?_
        refine lv_iconst (v := 0) hx hb d_Mod_layBonuses_86 (by decide) ?_
        refine call_S (As := [.int a2, .int 0]) (rest := [.ref (ad 1), .int (u11.1 (4 : Int32).toNatClampNeg), .int (pf_Mod_of a2 12), .ref (ad 1)]) hx hb hml hts hown so_Mod_43 rfl ⟨Nat.le_of_ble_eq_true rfl, Nat.le_of_ble_eq_true rfl⟩ ⟨Nat.le_of_ble_eq_true rfl, Nat.le_of_ble_eq_true rfl⟩ hl.1 rfl (Nat.le_of_ble_eq_true rfl) d_Mod_layBonuses_87 (k_Mod_of l a2 0) ?_
        obtain ⟨hi, h⟩ := h
        refine lR_1 hx hb hK hP hi d_Mod_layBonuses_90 ?_
        refine lv_imul hx hb d_Mod_layBonuses_91 ?_
        refine lv_iload_n hx hb d_Mod_layBonuses_92 rfl (lv_at hl 1 rfl) ?_
        obtain ⟨hne, h⟩ := h
        refine lv_idiv hx hb d_Mod_layBonuses_93 hne ?_
        refine lv_goto (tgt := 98) hx hb d_Mod_layBonuses_94 (by decide) ?_
        obtain ⟨hi, h⟩ := h
        refine sR_1 hx hb hK hP hD hS hi d_Mod_layBonuses_98 (fun u15 H locs eu15 hP hD hS => ?_)
        have h := h u15 eu15
        obtain ⟨x16, ex16⟩ : ∃ y : Int32, y = a2 + 1 := ⟨_, rfl⟩
        have h := h x16 ex16
        refine lv_iinc (v := x16) (lv' := [(2, .int x16), (0, .ref (ad 0)), (1, .int a1)]) hx hb d_Mod_layBonuses_99 hl (k := 2) rfl (by rw [ex16]; rfl) (by decide) rfl (fun ls hl => ?_)
        refine lv_goto (tgt := 47) hx hb d_Mod_layBonuses_102 (by decide) ?_
        exact ih a1 x16 u15 h _ _ _ hP hD hS (lv_sub hl [1, 2, 0] rfl)
set_option maxHeartbeats 4000000 in
set_option maxRecDepth 100000 in
theorem c_Mod_layBonuses (l : Launch) (G : GG) (ad : Nat → Nat) (sz : Nat) (u : RS) (Post : RS → Prop) (h : wp_Mod_layBonuses u Post) : CMv l y_Mod_layBonuses b_Mod_layBonuses 3 2 G [.ref (ad 0)] sz (refW G ad u) (refW G ad) Post := by
  refine CMv.start (by decide) (Nat.le_of_ble_eq_true rfl) (fun p e s m below meth c A ls hx hb hr hts hown hml hlocks hA hS hP hD hK hl => ?_)
  unfold wp_Mod_layBonuses at h
  have hl : lv_has ls 3 [(0, .ref (ad 0))] := hl
  refine lv_iconst (v := 0) hx hb d_Mod_layBonuses_0 (by decide) ?_
  refine lv_istore_n (lv' := [(1, .int 0), (0, .ref (ad 0))]) hx hb d_Mod_layBonuses_1 rfl hl (by decide) rfl (fun ls hl => ?_)
  refine lv_iconst (v := 0) hx hb d_Mod_layBonuses_2 (by decide) ?_
  refine lv_istore_n (lv' := [(2, .int 0), (1, .int 0), (0, .ref (ad 0))]) hx hb d_Mod_layBonuses_3 rfl hl (by decide) rfl (fun ls hl => ?_)
  obtain ⟨n, h⟩ := h
  refine x_Mod_layBonuses_4 hx hb hr hts hown hml hlocks hA hK rfl (fun x9 u8 h H locs ls hP hD hS hl => ?_) n 0 0 u h _ _ _ hP hD hS (lv_sub hl [2, 1, 0] rfl)
  refine lv_iconst (v := 0) hx hb d_Mod_layBonuses_45 (by decide) ?_
  refine lv_istore_n (lv' := [(2, .int 0), (0, .ref (ad 0)), (1, .int x9)]) hx hb d_Mod_layBonuses_46 rfl hl (by decide) rfl (fun ls hl => ?_)
  obtain ⟨n, h⟩ := h
  refine x_Mod_layBonuses_47 hx hb hr hts hown hml hlocks hA hK rfl (fun u17 h H locs ls hP hD hS hl => ?_) n x9 0 u8 h _ _ _ hP hD hS (lv_sub hl [1, 2, 0] rfl)
  exact r_vret hx hb hr hlocks hP hD hS d_Mod_layBonuses_105 h
def wp_Mod_readsOrder (u : RS) (Post : Int32 → RS → Prop) : Prop := (wp_Mod_code u  (fun x2 u1 => (∀ u3 : RS, u3 = (rS u1 3 x2) → (((u3.2.2.2 3) = 119 → (∀ u28 : RS, u28 = (rS u3 2 ((u3.2.2.2 2) + 1)) → Post 1 u28)) ∧ (¬ (u3.2.2.2 3) = 119 → (wp_Mod_number u3  (fun x5 u4 => (∀ u6 : RS, u6 = (rS u4 4 x5) → (wp_Mod_code u6  (fun x8 u7 => (∀ u9 : RS, u9 = (rS u7 3 x8) → (((u9.2.2.2 3) = 43 → (((u9.2.2.2 4) < 0 → Post 0 u9) ∧ (¬ (u9.2.2.2 4) < 0 → (∀ u10 : RS, u10 = (rS u9 2 ((u9.2.2.2 2) + 1)) → (wp_Mod_number u10  (fun x12 u11 => (∀ u13 : RS, u13 = (rS u11 5 x12) → (((u13.2.2.2 5) < 0 → Post 0 u13) ∧ (¬ (u13.2.2.2 5) < 0 → Post 1 u13))))))))) ∧ (¬ (u9.2.2.2 3) = 43 → (((u9.2.2.2 3) = 45 → (((u9.2.2.2 4) < 0 → Post 0 u9) ∧ (¬ (u9.2.2.2 4) < 0 → (∀ u14 : RS, u14 = (rS u9 2 ((u9.2.2.2 2) + 1)) → (wp_Mod_number u14  (fun x16 u15 => (∀ u17 : RS, u17 = (rS u15 5 x16) → (((u17.2.2.2 5) < 0 → Post 0 u17) ∧ (¬ (u17.2.2.2 5) < 0 → Post 1 u17))))))))) ∧ (¬ (u9.2.2.2 3) = 45 → (((u9.2.2.2 3) = 104 → (((u9.2.2.2 4) < 0 → Post 0 u9) ∧ (¬ (u9.2.2.2 4) < 0 → (∀ u24 : RS, u24 = (rS u9 2 ((u9.2.2.2 2) + 1)) → (wp_Mod_number u24  (fun x26 u25 => (∀ u27 : RS, u27 = (rS u25 5 x26) → (((u27.2.2.2 5) < 0 → Post 0 u27) ∧ (¬ (u27.2.2.2 5) < 0 → Post 1 u27))))))))) ∧ (¬ (u9.2.2.2 3) = 104 → (((u9.2.2.2 4) < 0 → Post 0 u9) ∧ (¬ (u9.2.2.2 4) < 0 → (((u9.2.2.2 3) = 120 → (∀ u18 : RS, u18 = (rS u9 2 ((u9.2.2.2 2) + 1)) → (∀ u19 : RS, u19 = (rS u18 5 0) → (((u19.2.2.2 5) < 0 → Post 0 u19) ∧ (¬ (u19.2.2.2 5) < 0 → Post 1 u19))))) ∧ (¬ (u9.2.2.2 3) = 120 → (((u9.2.2.2 3) = 108 → (∀ u20 : RS, u20 = (rS u9 2 ((u9.2.2.2 2) + 1)) → (∀ u21 : RS, u21 = (rS u20 5 0) → (((u21.2.2.2 5) < 0 → Post 0 u21) ∧ (¬ (u21.2.2.2 5) < 0 → Post 1 u21))))) ∧ (¬ (u9.2.2.2 3) = 108 → (((u9.2.2.2 3) = 102 → (∀ u22 : RS, u22 = (rS u9 2 ((u9.2.2.2 2) + 1)) → (∀ u23 : RS, u23 = (rS u22 5 0) → (((u23.2.2.2 5) < 0 → Post 0 u23) ∧ (¬ (u23.2.2.2 5) < 0 → Post 1 u23))))) ∧ (¬ (u9.2.2.2 3) = 102 → Post 0 u9)))))))))))))))))))))))))
theorem ok_Mod_141 : CallOk y_Mod_number b_Mod_number 3 (some .int) 1 0 "HamperClubModel" 141 := ⟨tb_879, tb_881, sl_42, tb_12, tb_882, by decide +kernel⟩
set_option maxHeartbeats 4000000 in
set_option maxRecDepth 100000 in
theorem c_Mod_readsOrder (l : Launch) (G : GG) (ad : Nat → Nat) (sz : Nat) (u : RS) (Post : Int32 → RS → Prop) (h : wp_Mod_readsOrder u Post) : CMi l y_Mod_readsOrder b_Mod_readsOrder 2 .boolean 2 G [.ref (ad 0)] sz (refW G ad u) (refW G ad) Post := by
  refine CMi.start (by decide) (Nat.le_of_ble_eq_true rfl) (fun p e s m below meth c A ls hx hb hr hts hown hml hlocks hA hS hP hD hK hl => ?_)
  unfold wp_Mod_readsOrder at h
  have hl : lv_has ls 2 [(0, .ref (ad 0))] := hl
  refine lv_aload_n hx hb d_Mod_readsOrder_0 rfl (lv_at hl 0 rfl) ?_
  refine lv_aload_n hx hb d_Mod_readsOrder_1 rfl (lv_at hl 0 rfl) ?_
  refine call_Vi1 (own := "HamperClubModel") (As := []) (rest := [.ref (ad 0)]) (q0 := 0) (ci := 9) hx hb hml hts hown hK hA hP hD hS ok_Mod_135 rfl ⟨Nat.le_of_ble_eq_true rfl, Nat.le_of_ble_eq_true rfl⟩ ⟨Nat.le_of_ble_eq_true rfl, Nat.le_of_ble_eq_true rfl⟩ rfl rfl rfl hl.1 rfl (Nat.le_of_ble_eq_true rfl) d_Mod_readsOrder_2 (c_Mod_code l G ad _ u  _ h) (fun x2 u1 H locs h hP hD hS => ?_)
  refine pR_Mod_letter hx hb hts hown hK hP hD hS tb_659 d_Mod_readsOrder_5 (fun u3 H locs eu3 hP hD hS => ?_)
  have h := h u3 eu3
  refine lv_aload_n hx hb d_Mod_readsOrder_8 rfl (lv_at hl 0 rfl) ?_
  refine gR_Mod_letter hx hb hts hown hK hP tb_659 d_Mod_readsOrder_9 ?_
  refine lv_bipush (v := 119) hx hb d_Mod_readsOrder_12 (by decide) ?_
  refine lv_icmp_ne (tgt := 29) hx hb d_Mod_readsOrder_14 (by decide) (fun hc => ?_) (fun hc => ?_)
  · have h := h.2 hc
    refine lv_aload_n hx hb d_Mod_readsOrder_29 rfl (lv_at hl 0 rfl) ?_
    refine lv_aload_n hx hb d_Mod_readsOrder_30 rfl (lv_at hl 0 rfl) ?_
    refine call_Vi1 (own := "HamperClubModel") (As := []) (rest := [.ref (ad 0)]) (q0 := 0) (ci := 9) hx hb hml hts hown hK hA hP hD hS ok_Mod_141 rfl ⟨Nat.le_of_ble_eq_true rfl, Nat.le_of_ble_eq_true rfl⟩ ⟨Nat.le_of_ble_eq_true rfl, Nat.le_of_ble_eq_true rfl⟩ rfl rfl rfl hl.1 rfl (Nat.le_of_ble_eq_true rfl) d_Mod_readsOrder_31 (c_Mod_number l G ad _ u3  _ h) (fun x5 u4 H locs h hP hD hS => ?_)
    refine pR_Mod_who hx hb hts hown hK hP hD hS tb_660 d_Mod_readsOrder_34 (fun u6 H locs eu6 hP hD hS => ?_)
    have h := h u6 eu6
    refine lv_aload_n hx hb d_Mod_readsOrder_37 rfl (lv_at hl 0 rfl) ?_
    refine lv_aload_n hx hb d_Mod_readsOrder_38 rfl (lv_at hl 0 rfl) ?_
    refine call_Vi1 (own := "HamperClubModel") (As := []) (rest := [.ref (ad 0)]) (q0 := 0) (ci := 9) hx hb hml hts hown hK hA hP hD hS ok_Mod_135 rfl ⟨Nat.le_of_ble_eq_true rfl, Nat.le_of_ble_eq_true rfl⟩ ⟨Nat.le_of_ble_eq_true rfl, Nat.le_of_ble_eq_true rfl⟩ rfl rfl rfl hl.1 rfl (Nat.le_of_ble_eq_true rfl) d_Mod_readsOrder_39 (c_Mod_code l G ad _ u6  _ h) (fun x8 u7 H locs h hP hD hS => ?_)
    refine pR_Mod_letter hx hb hts hown hK hP hD hS tb_659 d_Mod_readsOrder_42 (fun u9 H locs eu9 hP hD hS => ?_)
    have h := h u9 eu9
    refine lv_aload_n hx hb d_Mod_readsOrder_45 rfl (lv_at hl 0 rfl) ?_
    refine gR_Mod_letter hx hb hts hown hK hP tb_659 d_Mod_readsOrder_46 ?_
    refine lv_bipush (v := 43) hx hb d_Mod_readsOrder_49 (by decide) ?_
    refine lv_icmp_eq (tgt := 72) hx hb d_Mod_readsOrder_51 (by decide) (fun hc => ?_) (fun hc => ?_)
    · have h := h.1 hc
      refine lv_iconst (v := 1) hx hb d_Mod_readsOrder_72 (by decide) ?_
      refine lv_goto (tgt := 77) hx hb d_Mod_readsOrder_73 (by decide) ?_
      refine lv_istore_n (lv' := [(1, .int 1), (0, .ref (ad 0))]) hx hb d_Mod_readsOrder_77 rfl hl (by decide) rfl (fun ls hl => ?_)
      refine lv_aload_n hx hb d_Mod_readsOrder_78 rfl (lv_at hl 1 rfl) ?_
      refine gR_Mod_who hx hb hts hown hK hP tb_660 d_Mod_readsOrder_79 ?_
      refine lv_if_lt (tgt := 116) hx hb d_Mod_readsOrder_82 (by decide) (fun hc => ?_) (fun hc => ?_)
      · have h := h.1 hc
        refine lv_iconst (v := 0) hx hb d_Mod_readsOrder_116 (by decide) ?_
        exact r_zret hx hb hr hlocks rfl hP hD hS d_Mod_readsOrder_117 h
      · have h := h.2 hc
        refine lv_iload_n hx hb d_Mod_readsOrder_85 rfl (lv_at hl 0 rfl) ?_
        refine lv_if_ne (tgt := 118) hx hb d_Mod_readsOrder_86 (by decide) (fun _ => ?_) (fun hc => absurd hc (by decide))
        refine lv_aload_n hx hb d_Mod_readsOrder_118 rfl (lv_at hl 1 rfl) ?_
        refine lv_dup hx hb d_Mod_readsOrder_119 rfl ?_
        refine gR_Mod_pos hx hb hts hown hK hP tb_658 d_Mod_readsOrder_120 ?_
        refine lv_iconst (v := 1) hx hb d_Mod_readsOrder_123 (by decide) ?_
        refine lv_iadd hx hb d_Mod_readsOrder_124 ?_
        refine pR_Mod_pos hx hb hts hown hK hP hD hS tb_658 d_Mod_readsOrder_125 (fun u10 H locs eu10 hP hD hS => ?_)
        have h := h u10 eu10
        refine lv_aload_n hx hb d_Mod_readsOrder_128 rfl (lv_at hl 1 rfl) ?_
        refine lv_iload_n hx hb d_Mod_readsOrder_129 rfl (lv_at hl 0 rfl) ?_
        refine lv_if_eq (tgt := 140) hx hb d_Mod_readsOrder_130 (by decide) (fun hc => absurd hc (by decide)) (fun _ => ?_)
        refine lv_aload_n hx hb d_Mod_readsOrder_133 rfl (lv_at hl 1 rfl) ?_
        refine call_Vi1 (own := "HamperClubModel") (As := []) (rest := [.ref (ad 0)]) (q0 := 0) (ci := 9) hx hb hml hts hown hK hA hP hD hS ok_Mod_141 rfl ⟨Nat.le_of_ble_eq_true rfl, Nat.le_of_ble_eq_true rfl⟩ ⟨Nat.le_of_ble_eq_true rfl, Nat.le_of_ble_eq_true rfl⟩ rfl rfl rfl hl.1 rfl (Nat.le_of_ble_eq_true rfl) d_Mod_readsOrder_134 (c_Mod_number l G ad _ u10  _ h) (fun x12 u11 H locs h hP hD hS => ?_)
        refine lv_goto (tgt := 141) hx hb d_Mod_readsOrder_137 (by decide) ?_
        refine pR_Mod_much hx hb hts hown hK hP hD hS tb_661 d_Mod_readsOrder_141 (fun u13 H locs eu13 hP hD hS => ?_)
        have h := h u13 eu13
        refine lv_aload_n hx hb d_Mod_readsOrder_144 rfl (lv_at hl 1 rfl) ?_
        refine gR_Mod_much hx hb hts hown hK hP tb_661 d_Mod_readsOrder_145 ?_
        refine lv_if_lt (tgt := 155) hx hb d_Mod_readsOrder_148 (by decide) (fun hc => ?_) (fun hc => ?_)
        · have h := h.1 hc
          refine lv_iconst (v := 0) hx hb d_Mod_readsOrder_155 (by decide) ?_
          exact r_zret hx hb hr hlocks rfl hP hD hS d_Mod_readsOrder_156 h
        · have h := h.2 hc
          refine lv_iconst (v := 1) hx hb d_Mod_readsOrder_151 (by decide) ?_
          refine lv_goto (tgt := 156) hx hb d_Mod_readsOrder_152 (by decide) ?_
          exact r_zret hx hb hr hlocks rfl hP hD hS d_Mod_readsOrder_156 h
    · have h := h.2 hc
      refine lv_aload_n hx hb d_Mod_readsOrder_54 rfl (lv_at hl 0 rfl) ?_
      refine gR_Mod_letter hx hb hts hown hK hP tb_659 d_Mod_readsOrder_55 ?_
      refine lv_bipush (v := 45) hx hb d_Mod_readsOrder_58 (by decide) ?_
      refine lv_icmp_eq (tgt := 72) hx hb d_Mod_readsOrder_60 (by decide) (fun hc => ?_) (fun hc => ?_)
      · have h := h.1 hc
        refine lv_iconst (v := 1) hx hb d_Mod_readsOrder_72 (by decide) ?_
        refine lv_goto (tgt := 77) hx hb d_Mod_readsOrder_73 (by decide) ?_
        refine lv_istore_n (lv' := [(1, .int 1), (0, .ref (ad 0))]) hx hb d_Mod_readsOrder_77 rfl hl (by decide) rfl (fun ls hl => ?_)
        refine lv_aload_n hx hb d_Mod_readsOrder_78 rfl (lv_at hl 1 rfl) ?_
        refine gR_Mod_who hx hb hts hown hK hP tb_660 d_Mod_readsOrder_79 ?_
        refine lv_if_lt (tgt := 116) hx hb d_Mod_readsOrder_82 (by decide) (fun hc => ?_) (fun hc => ?_)
        · have h := h.1 hc
          refine lv_iconst (v := 0) hx hb d_Mod_readsOrder_116 (by decide) ?_
          exact r_zret hx hb hr hlocks rfl hP hD hS d_Mod_readsOrder_117 h
        · have h := h.2 hc
          refine lv_iload_n hx hb d_Mod_readsOrder_85 rfl (lv_at hl 0 rfl) ?_
          refine lv_if_ne (tgt := 118) hx hb d_Mod_readsOrder_86 (by decide) (fun _ => ?_) (fun hc => absurd hc (by decide))
          refine lv_aload_n hx hb d_Mod_readsOrder_118 rfl (lv_at hl 1 rfl) ?_
          refine lv_dup hx hb d_Mod_readsOrder_119 rfl ?_
          refine gR_Mod_pos hx hb hts hown hK hP tb_658 d_Mod_readsOrder_120 ?_
          refine lv_iconst (v := 1) hx hb d_Mod_readsOrder_123 (by decide) ?_
          refine lv_iadd hx hb d_Mod_readsOrder_124 ?_
          refine pR_Mod_pos hx hb hts hown hK hP hD hS tb_658 d_Mod_readsOrder_125 (fun u14 H locs eu14 hP hD hS => ?_)
          have h := h u14 eu14
          refine lv_aload_n hx hb d_Mod_readsOrder_128 rfl (lv_at hl 1 rfl) ?_
          refine lv_iload_n hx hb d_Mod_readsOrder_129 rfl (lv_at hl 0 rfl) ?_
          refine lv_if_eq (tgt := 140) hx hb d_Mod_readsOrder_130 (by decide) (fun hc => absurd hc (by decide)) (fun _ => ?_)
          refine lv_aload_n hx hb d_Mod_readsOrder_133 rfl (lv_at hl 1 rfl) ?_
          refine call_Vi1 (own := "HamperClubModel") (As := []) (rest := [.ref (ad 0)]) (q0 := 0) (ci := 9) hx hb hml hts hown hK hA hP hD hS ok_Mod_141 rfl ⟨Nat.le_of_ble_eq_true rfl, Nat.le_of_ble_eq_true rfl⟩ ⟨Nat.le_of_ble_eq_true rfl, Nat.le_of_ble_eq_true rfl⟩ rfl rfl rfl hl.1 rfl (Nat.le_of_ble_eq_true rfl) d_Mod_readsOrder_134 (c_Mod_number l G ad _ u14  _ h) (fun x16 u15 H locs h hP hD hS => ?_)
          refine lv_goto (tgt := 141) hx hb d_Mod_readsOrder_137 (by decide) ?_
          refine pR_Mod_much hx hb hts hown hK hP hD hS tb_661 d_Mod_readsOrder_141 (fun u17 H locs eu17 hP hD hS => ?_)
          have h := h u17 eu17
          refine lv_aload_n hx hb d_Mod_readsOrder_144 rfl (lv_at hl 1 rfl) ?_
          refine gR_Mod_much hx hb hts hown hK hP tb_661 d_Mod_readsOrder_145 ?_
          refine lv_if_lt (tgt := 155) hx hb d_Mod_readsOrder_148 (by decide) (fun hc => ?_) (fun hc => ?_)
          · have h := h.1 hc
            refine lv_iconst (v := 0) hx hb d_Mod_readsOrder_155 (by decide) ?_
            exact r_zret hx hb hr hlocks rfl hP hD hS d_Mod_readsOrder_156 h
          · have h := h.2 hc
            refine lv_iconst (v := 1) hx hb d_Mod_readsOrder_151 (by decide) ?_
            refine lv_goto (tgt := 156) hx hb d_Mod_readsOrder_152 (by decide) ?_
            exact r_zret hx hb hr hlocks rfl hP hD hS d_Mod_readsOrder_156 h
      · have h := h.2 hc
        refine lv_aload_n hx hb d_Mod_readsOrder_63 rfl (lv_at hl 0 rfl) ?_
        refine gR_Mod_letter hx hb hts hown hK hP tb_659 d_Mod_readsOrder_64 ?_
        refine lv_bipush (v := 104) hx hb d_Mod_readsOrder_67 (by decide) ?_
        refine lv_icmp_ne (tgt := 76) hx hb d_Mod_readsOrder_69 (by decide) (fun hc => ?_) (fun hc => ?_)
        · have h := h.2 hc
          refine lv_iconst (v := 0) hx hb d_Mod_readsOrder_76 (by decide) ?_
          refine lv_istore_n (lv' := [(1, .int 0), (0, .ref (ad 0))]) hx hb d_Mod_readsOrder_77 rfl hl (by decide) rfl (fun ls hl => ?_)
          refine lv_aload_n hx hb d_Mod_readsOrder_78 rfl (lv_at hl 1 rfl) ?_
          refine gR_Mod_who hx hb hts hown hK hP tb_660 d_Mod_readsOrder_79 ?_
          refine lv_if_lt (tgt := 116) hx hb d_Mod_readsOrder_82 (by decide) (fun hc => ?_) (fun hc => ?_)
          · have h := h.1 hc
            refine lv_iconst (v := 0) hx hb d_Mod_readsOrder_116 (by decide) ?_
            exact r_zret hx hb hr hlocks rfl hP hD hS d_Mod_readsOrder_117 h
          · have h := h.2 hc
            refine lv_iload_n hx hb d_Mod_readsOrder_85 rfl (lv_at hl 0 rfl) ?_
            refine lv_if_ne (tgt := 118) hx hb d_Mod_readsOrder_86 (by decide) (fun hc => absurd hc (by decide)) (fun _ => ?_)
            refine lv_aload_n hx hb d_Mod_readsOrder_89 rfl (lv_at hl 1 rfl) ?_
            refine gR_Mod_letter hx hb hts hown hK hP tb_659 d_Mod_readsOrder_90 ?_
            refine lv_bipush (v := 120) hx hb d_Mod_readsOrder_93 (by decide) ?_
            refine lv_icmp_eq (tgt := 118) hx hb d_Mod_readsOrder_95 (by decide) (fun hc => ?_) (fun hc => ?_)
            · have h := h.1 hc
              refine lv_aload_n hx hb d_Mod_readsOrder_118 rfl (lv_at hl 1 rfl) ?_
              refine lv_dup hx hb d_Mod_readsOrder_119 rfl ?_
              refine gR_Mod_pos hx hb hts hown hK hP tb_658 d_Mod_readsOrder_120 ?_
              refine lv_iconst (v := 1) hx hb d_Mod_readsOrder_123 (by decide) ?_
              refine lv_iadd hx hb d_Mod_readsOrder_124 ?_
              refine pR_Mod_pos hx hb hts hown hK hP hD hS tb_658 d_Mod_readsOrder_125 (fun u18 H locs eu18 hP hD hS => ?_)
              have h := h u18 eu18
              refine lv_aload_n hx hb d_Mod_readsOrder_128 rfl (lv_at hl 1 rfl) ?_
              refine lv_iload_n hx hb d_Mod_readsOrder_129 rfl (lv_at hl 0 rfl) ?_
              refine lv_if_eq (tgt := 140) hx hb d_Mod_readsOrder_130 (by decide) (fun _ => ?_) (fun hc => absurd hc (by decide))
              refine lv_iconst (v := 0) hx hb d_Mod_readsOrder_140 (by decide) ?_
              refine pR_Mod_much hx hb hts hown hK hP hD hS tb_661 d_Mod_readsOrder_141 (fun u19 H locs eu19 hP hD hS => ?_)
              have h := h u19 eu19
              refine lv_aload_n hx hb d_Mod_readsOrder_144 rfl (lv_at hl 1 rfl) ?_
              refine gR_Mod_much hx hb hts hown hK hP tb_661 d_Mod_readsOrder_145 ?_
              refine lv_if_lt (tgt := 155) hx hb d_Mod_readsOrder_148 (by decide) (fun hc => ?_) (fun hc => ?_)
              · have h := h.1 hc
                refine lv_iconst (v := 0) hx hb d_Mod_readsOrder_155 (by decide) ?_
                exact r_zret hx hb hr hlocks rfl hP hD hS d_Mod_readsOrder_156 h
              · have h := h.2 hc
                refine lv_iconst (v := 1) hx hb d_Mod_readsOrder_151 (by decide) ?_
                refine lv_goto (tgt := 156) hx hb d_Mod_readsOrder_152 (by decide) ?_
                exact r_zret hx hb hr hlocks rfl hP hD hS d_Mod_readsOrder_156 h
            · have h := h.2 hc
              refine lv_aload_n hx hb d_Mod_readsOrder_98 rfl (lv_at hl 1 rfl) ?_
              refine gR_Mod_letter hx hb hts hown hK hP tb_659 d_Mod_readsOrder_99 ?_
              refine lv_bipush (v := 108) hx hb d_Mod_readsOrder_102 (by decide) ?_
              refine lv_icmp_eq (tgt := 118) hx hb d_Mod_readsOrder_104 (by decide) (fun hc => ?_) (fun hc => ?_)
              · have h := h.1 hc
                refine lv_aload_n hx hb d_Mod_readsOrder_118 rfl (lv_at hl 1 rfl) ?_
                refine lv_dup hx hb d_Mod_readsOrder_119 rfl ?_
                refine gR_Mod_pos hx hb hts hown hK hP tb_658 d_Mod_readsOrder_120 ?_
                refine lv_iconst (v := 1) hx hb d_Mod_readsOrder_123 (by decide) ?_
                refine lv_iadd hx hb d_Mod_readsOrder_124 ?_
                refine pR_Mod_pos hx hb hts hown hK hP hD hS tb_658 d_Mod_readsOrder_125 (fun u20 H locs eu20 hP hD hS => ?_)
                have h := h u20 eu20
                refine lv_aload_n hx hb d_Mod_readsOrder_128 rfl (lv_at hl 1 rfl) ?_
                refine lv_iload_n hx hb d_Mod_readsOrder_129 rfl (lv_at hl 0 rfl) ?_
                refine lv_if_eq (tgt := 140) hx hb d_Mod_readsOrder_130 (by decide) (fun _ => ?_) (fun hc => absurd hc (by decide))
                refine lv_iconst (v := 0) hx hb d_Mod_readsOrder_140 (by decide) ?_
                refine pR_Mod_much hx hb hts hown hK hP hD hS tb_661 d_Mod_readsOrder_141 (fun u21 H locs eu21 hP hD hS => ?_)
                have h := h u21 eu21
                refine lv_aload_n hx hb d_Mod_readsOrder_144 rfl (lv_at hl 1 rfl) ?_
                refine gR_Mod_much hx hb hts hown hK hP tb_661 d_Mod_readsOrder_145 ?_
                refine lv_if_lt (tgt := 155) hx hb d_Mod_readsOrder_148 (by decide) (fun hc => ?_) (fun hc => ?_)
                · have h := h.1 hc
                  refine lv_iconst (v := 0) hx hb d_Mod_readsOrder_155 (by decide) ?_
                  exact r_zret hx hb hr hlocks rfl hP hD hS d_Mod_readsOrder_156 h
                · have h := h.2 hc
                  refine lv_iconst (v := 1) hx hb d_Mod_readsOrder_151 (by decide) ?_
                  refine lv_goto (tgt := 156) hx hb d_Mod_readsOrder_152 (by decide) ?_
                  exact r_zret hx hb hr hlocks rfl hP hD hS d_Mod_readsOrder_156 h
              · have h := h.2 hc
                refine lv_aload_n hx hb d_Mod_readsOrder_107 rfl (lv_at hl 1 rfl) ?_
                refine gR_Mod_letter hx hb hts hown hK hP tb_659 d_Mod_readsOrder_108 ?_
                refine lv_bipush (v := 102) hx hb d_Mod_readsOrder_111 (by decide) ?_
                refine lv_icmp_eq (tgt := 118) hx hb d_Mod_readsOrder_113 (by decide) (fun hc => ?_) (fun hc => ?_)
                · have h := h.1 hc
                  refine lv_aload_n hx hb d_Mod_readsOrder_118 rfl (lv_at hl 1 rfl) ?_
                  refine lv_dup hx hb d_Mod_readsOrder_119 rfl ?_
                  refine gR_Mod_pos hx hb hts hown hK hP tb_658 d_Mod_readsOrder_120 ?_
                  refine lv_iconst (v := 1) hx hb d_Mod_readsOrder_123 (by decide) ?_
                  refine lv_iadd hx hb d_Mod_readsOrder_124 ?_
                  refine pR_Mod_pos hx hb hts hown hK hP hD hS tb_658 d_Mod_readsOrder_125 (fun u22 H locs eu22 hP hD hS => ?_)
                  have h := h u22 eu22
                  refine lv_aload_n hx hb d_Mod_readsOrder_128 rfl (lv_at hl 1 rfl) ?_
                  refine lv_iload_n hx hb d_Mod_readsOrder_129 rfl (lv_at hl 0 rfl) ?_
                  refine lv_if_eq (tgt := 140) hx hb d_Mod_readsOrder_130 (by decide) (fun _ => ?_) (fun hc => absurd hc (by decide))
                  refine lv_iconst (v := 0) hx hb d_Mod_readsOrder_140 (by decide) ?_
                  refine pR_Mod_much hx hb hts hown hK hP hD hS tb_661 d_Mod_readsOrder_141 (fun u23 H locs eu23 hP hD hS => ?_)
                  have h := h u23 eu23
                  refine lv_aload_n hx hb d_Mod_readsOrder_144 rfl (lv_at hl 1 rfl) ?_
                  refine gR_Mod_much hx hb hts hown hK hP tb_661 d_Mod_readsOrder_145 ?_
                  refine lv_if_lt (tgt := 155) hx hb d_Mod_readsOrder_148 (by decide) (fun hc => ?_) (fun hc => ?_)
                  · have h := h.1 hc
                    refine lv_iconst (v := 0) hx hb d_Mod_readsOrder_155 (by decide) ?_
                    exact r_zret hx hb hr hlocks rfl hP hD hS d_Mod_readsOrder_156 h
                  · have h := h.2 hc
                    refine lv_iconst (v := 1) hx hb d_Mod_readsOrder_151 (by decide) ?_
                    refine lv_goto (tgt := 156) hx hb d_Mod_readsOrder_152 (by decide) ?_
                    exact r_zret hx hb hr hlocks rfl hP hD hS d_Mod_readsOrder_156 h
                · have h := h.2 hc
                  refine lv_iconst (v := 0) hx hb d_Mod_readsOrder_116 (by decide) ?_
                  exact r_zret hx hb hr hlocks rfl hP hD hS d_Mod_readsOrder_117 h
        · have h := h.1 hc
          refine lv_iconst (v := 1) hx hb d_Mod_readsOrder_72 (by decide) ?_
          refine lv_goto (tgt := 77) hx hb d_Mod_readsOrder_73 (by decide) ?_
          refine lv_istore_n (lv' := [(1, .int 1), (0, .ref (ad 0))]) hx hb d_Mod_readsOrder_77 rfl hl (by decide) rfl (fun ls hl => ?_)
          refine lv_aload_n hx hb d_Mod_readsOrder_78 rfl (lv_at hl 1 rfl) ?_
          refine gR_Mod_who hx hb hts hown hK hP tb_660 d_Mod_readsOrder_79 ?_
          refine lv_if_lt (tgt := 116) hx hb d_Mod_readsOrder_82 (by decide) (fun hc => ?_) (fun hc => ?_)
          · have h := h.1 hc
            refine lv_iconst (v := 0) hx hb d_Mod_readsOrder_116 (by decide) ?_
            exact r_zret hx hb hr hlocks rfl hP hD hS d_Mod_readsOrder_117 h
          · have h := h.2 hc
            refine lv_iload_n hx hb d_Mod_readsOrder_85 rfl (lv_at hl 0 rfl) ?_
            refine lv_if_ne (tgt := 118) hx hb d_Mod_readsOrder_86 (by decide) (fun _ => ?_) (fun hc => absurd hc (by decide))
            refine lv_aload_n hx hb d_Mod_readsOrder_118 rfl (lv_at hl 1 rfl) ?_
            refine lv_dup hx hb d_Mod_readsOrder_119 rfl ?_
            refine gR_Mod_pos hx hb hts hown hK hP tb_658 d_Mod_readsOrder_120 ?_
            refine lv_iconst (v := 1) hx hb d_Mod_readsOrder_123 (by decide) ?_
            refine lv_iadd hx hb d_Mod_readsOrder_124 ?_
            refine pR_Mod_pos hx hb hts hown hK hP hD hS tb_658 d_Mod_readsOrder_125 (fun u24 H locs eu24 hP hD hS => ?_)
            have h := h u24 eu24
            refine lv_aload_n hx hb d_Mod_readsOrder_128 rfl (lv_at hl 1 rfl) ?_
            refine lv_iload_n hx hb d_Mod_readsOrder_129 rfl (lv_at hl 0 rfl) ?_
            refine lv_if_eq (tgt := 140) hx hb d_Mod_readsOrder_130 (by decide) (fun hc => absurd hc (by decide)) (fun _ => ?_)
            refine lv_aload_n hx hb d_Mod_readsOrder_133 rfl (lv_at hl 1 rfl) ?_
            refine call_Vi1 (own := "HamperClubModel") (As := []) (rest := [.ref (ad 0)]) (q0 := 0) (ci := 9) hx hb hml hts hown hK hA hP hD hS ok_Mod_141 rfl ⟨Nat.le_of_ble_eq_true rfl, Nat.le_of_ble_eq_true rfl⟩ ⟨Nat.le_of_ble_eq_true rfl, Nat.le_of_ble_eq_true rfl⟩ rfl rfl rfl hl.1 rfl (Nat.le_of_ble_eq_true rfl) d_Mod_readsOrder_134 (c_Mod_number l G ad _ u24  _ h) (fun x26 u25 H locs h hP hD hS => ?_)
            refine lv_goto (tgt := 141) hx hb d_Mod_readsOrder_137 (by decide) ?_
            refine pR_Mod_much hx hb hts hown hK hP hD hS tb_661 d_Mod_readsOrder_141 (fun u27 H locs eu27 hP hD hS => ?_)
            have h := h u27 eu27
            refine lv_aload_n hx hb d_Mod_readsOrder_144 rfl (lv_at hl 1 rfl) ?_
            refine gR_Mod_much hx hb hts hown hK hP tb_661 d_Mod_readsOrder_145 ?_
            refine lv_if_lt (tgt := 155) hx hb d_Mod_readsOrder_148 (by decide) (fun hc => ?_) (fun hc => ?_)
            · have h := h.1 hc
              refine lv_iconst (v := 0) hx hb d_Mod_readsOrder_155 (by decide) ?_
              exact r_zret hx hb hr hlocks rfl hP hD hS d_Mod_readsOrder_156 h
            · have h := h.2 hc
              refine lv_iconst (v := 1) hx hb d_Mod_readsOrder_151 (by decide) ?_
              refine lv_goto (tgt := 156) hx hb d_Mod_readsOrder_152 (by decide) ?_
              exact r_zret hx hb hr hlocks rfl hP hD hS d_Mod_readsOrder_156 h
  · have h := h.1 hc
    refine lv_aload_n hx hb d_Mod_readsOrder_17 rfl (lv_at hl 0 rfl) ?_
    refine lv_dup hx hb d_Mod_readsOrder_18 rfl ?_
    refine gR_Mod_pos hx hb hts hown hK hP tb_658 d_Mod_readsOrder_19 ?_
    refine lv_iconst (v := 1) hx hb d_Mod_readsOrder_22 (by decide) ?_
    refine lv_iadd hx hb d_Mod_readsOrder_23 ?_
    refine pR_Mod_pos hx hb hts hown hK hP hD hS tb_658 d_Mod_readsOrder_24 (fun u28 H locs eu28 hP hD hS => ?_)
    have h := h u28 eu28
    refine lv_iconst (v := 1) hx hb d_Mod_readsOrder_27 (by decide) ?_
    exact r_zret hx hb hr hlocks rfl hP hD hS d_Mod_readsOrder_28 h
def wp_Mod_count (u : RS) (p1 : Int32) (Post : Int32 → RS → Prop) : Prop := ((p1 = 0 → (vp_in p1 4306 ∧ Post (u.1 p1.toNatClampNeg) u)) ∧ (p1 = 1 → (vp_in p1 4306 ∧ Post (u.1 p1.toNatClampNeg) u)) ∧ (p1 = 2 → (vp_in p1 4306 ∧ Post (u.1 p1.toNatClampNeg) u)) ∧ (p1 = 3 → (vp_in p1 4306 ∧ Post (u.1 p1.toNatClampNeg) u)) ∧ (p1 = 4 → (vp_in p1 4306 ∧ Post (u.1 p1.toNatClampNeg) u)) ∧ (p1 = 5 → (wp_Mod_sumOf u 0 (fun x2 u1 => Post x2 u1))) ∧ (p1 = 6 → (vp_in (p1 - 1) 4306 ∧ Post (u.1 (p1 - 1).toNatClampNeg) u)) ∧ (p1 = 7 → (vp_in (p1 - 1) 4306 ∧ Post (u.1 (p1 - 1).toNatClampNeg) u)) ∧ (p1 = 8 → (vp_in (p1 - 1) 4306 ∧ Post (u.1 (p1 - 1).toNatClampNeg) u)) ∧ (p1 = 9 → (vp_in (p1 - 1) 4306 ∧ Post (u.1 (p1 - 1).toNatClampNeg) u)) ∧ (p1 = 10 → (wp_Mod_mislaid u  (fun x4 u3 => Post x4 u3))) ∧ (p1 = 11 → (wp_Mod_sumOf u 5 (fun x6 u5 => Post x6 u5))) ∧ (p1 = 12 → Post (u.1 (9 : Int32).toNatClampNeg) u) ∧ (p1 = 13 → Post ((u.1 (678 : Int32).toNatClampNeg) + (u.1 (679 : Int32).toNatClampNeg)) u) ∧ (p1 = 14 → Post (u.2.2.2 0) u) ∧ (p1 = 15 → Post (u.2.2.2 1) u) ∧ (¬ p1 = 0 → ¬ p1 = 1 → ¬ p1 = 2 → ¬ p1 = 3 → ¬ p1 = 4 → ¬ p1 = 5 → ¬ p1 = 6 → ¬ p1 = 7 → ¬ p1 = 8 → ¬ p1 = 9 → ¬ p1 = 10 → ¬ p1 = 11 → ¬ p1 = 12 → ¬ p1 = 13 → ¬ p1 = 14 → ¬ p1 = 15 → Post (-1) u))
theorem ok_Mod_162 : CallOk y_Mod_sumOf b_Mod_sumOf 4 (some .int) 1 1 "HamperClubModel" 162 := ⟨tb_895, tb_897, sl_45, tb_12, tb_898, by decide +kernel⟩
theorem ok_Mod_165 : CallOk y_Mod_mislaid b_Mod_mislaid 3 (some .int) 1 0 "HamperClubModel" 165 := ⟨tb_899, tb_901, sl_46, tb_12, tb_902, by decide +kernel⟩
set_option maxHeartbeats 4000000 in
set_option maxRecDepth 100000 in
theorem c_Mod_count (l : Launch) (G : GG) (ad : Nat → Nat) (sz : Nat) (u : RS) (p1 : Int32) (Post : Int32 → RS → Prop) (h : wp_Mod_count u p1 Post) : CMi l y_Mod_count b_Mod_count 2 .int 2 G [.ref (ad 0), .int p1] sz (refW G ad u) (refW G ad) Post := by
  refine CMi.start (by decide) (Nat.le_of_ble_eq_true rfl) (fun p e s m below meth c A ls hx hb hr hts hown hml hlocks hA hS hP hD hK hl => ?_)
  unfold wp_Mod_count at h
  have hl : lv_has ls 2 [(0, .ref (ad 0)), (1, .int p1)] := hl
  refine lv_iload_n hx hb d_Mod_count_0 rfl (lv_at hl 1 rfl) ?_
  by_cases hc0 : p1 = 0
  · have h := h.1 hc0
    refine lv_tableIn (off := 79) (tgt := 80) hx hb d_Mod_count_1 (by rw [hc0]; decide) (by rw [hc0]; decide) (by rw [hc0]; rfl) (by decide) ?_
    refine lv_aload_n hx hb d_Mod_count_80 rfl (lv_at hl 0 rfl) ?_
    refine gR_Mod_row hx hb hts hown hK hP tb_653 d_Mod_count_81 ?_
    refine lv_iload_n hx hb d_Mod_count_84 rfl (lv_at hl 1 rfl) ?_
    obtain ⟨hi, h⟩ := h
    refine lR_1 hx hb hK hP hi d_Mod_count_85 ?_
    exact r_iret hx hb hr hlocks hP hD hS d_Mod_count_86 h
  by_cases hc1 : p1 = 1
  · have h := h.2.1 hc1
    refine lv_tableIn (off := 79) (tgt := 80) hx hb d_Mod_count_1 (by rw [hc1]; decide) (by rw [hc1]; decide) (by rw [hc1]; rfl) (by decide) ?_
    refine lv_aload_n hx hb d_Mod_count_80 rfl (lv_at hl 0 rfl) ?_
    refine gR_Mod_row hx hb hts hown hK hP tb_653 d_Mod_count_81 ?_
    refine lv_iload_n hx hb d_Mod_count_84 rfl (lv_at hl 1 rfl) ?_
    obtain ⟨hi, h⟩ := h
    refine lR_1 hx hb hK hP hi d_Mod_count_85 ?_
    exact r_iret hx hb hr hlocks hP hD hS d_Mod_count_86 h
  by_cases hc2 : p1 = 2
  · have h := h.2.2.1 hc2
    refine lv_tableIn (off := 79) (tgt := 80) hx hb d_Mod_count_1 (by rw [hc2]; decide) (by rw [hc2]; decide) (by rw [hc2]; rfl) (by decide) ?_
    refine lv_aload_n hx hb d_Mod_count_80 rfl (lv_at hl 0 rfl) ?_
    refine gR_Mod_row hx hb hts hown hK hP tb_653 d_Mod_count_81 ?_
    refine lv_iload_n hx hb d_Mod_count_84 rfl (lv_at hl 1 rfl) ?_
    obtain ⟨hi, h⟩ := h
    refine lR_1 hx hb hK hP hi d_Mod_count_85 ?_
    exact r_iret hx hb hr hlocks hP hD hS d_Mod_count_86 h
  by_cases hc3 : p1 = 3
  · have h := h.2.2.2.1 hc3
    refine lv_tableIn (off := 79) (tgt := 80) hx hb d_Mod_count_1 (by rw [hc3]; decide) (by rw [hc3]; decide) (by rw [hc3]; rfl) (by decide) ?_
    refine lv_aload_n hx hb d_Mod_count_80 rfl (lv_at hl 0 rfl) ?_
    refine gR_Mod_row hx hb hts hown hK hP tb_653 d_Mod_count_81 ?_
    refine lv_iload_n hx hb d_Mod_count_84 rfl (lv_at hl 1 rfl) ?_
    obtain ⟨hi, h⟩ := h
    refine lR_1 hx hb hK hP hi d_Mod_count_85 ?_
    exact r_iret hx hb hr hlocks hP hD hS d_Mod_count_86 h
  by_cases hc4 : p1 = 4
  · have h := h.2.2.2.2.1 hc4
    refine lv_tableIn (off := 79) (tgt := 80) hx hb d_Mod_count_1 (by rw [hc4]; decide) (by rw [hc4]; decide) (by rw [hc4]; rfl) (by decide) ?_
    refine lv_aload_n hx hb d_Mod_count_80 rfl (lv_at hl 0 rfl) ?_
    refine gR_Mod_row hx hb hts hown hK hP tb_653 d_Mod_count_81 ?_
    refine lv_iload_n hx hb d_Mod_count_84 rfl (lv_at hl 1 rfl) ?_
    obtain ⟨hi, h⟩ := h
    refine lR_1 hx hb hK hP hi d_Mod_count_85 ?_
    exact r_iret hx hb hr hlocks hP hD hS d_Mod_count_86 h
  by_cases hc5 : p1 = 5
  · have h := h.2.2.2.2.2.1 hc5
    refine lv_tableIn (off := 86) (tgt := 87) hx hb d_Mod_count_1 (by rw [hc5]; decide) (by rw [hc5]; decide) (by rw [hc5]; rfl) (by decide) ?_
    refine lv_aload_n hx hb d_Mod_count_87 rfl (lv_at hl 0 rfl) ?_
    refine lv_iconst (v := 0) hx hb d_Mod_count_88 (by decide) ?_
    refine call_Vi1 (own := "HamperClubModel") (As := [.int 0]) (rest := []) (q0 := 0) (ci := 9) hx hb hml hts hown hK hA hP hD hS ok_Mod_162 rfl ⟨Nat.le_of_ble_eq_true rfl, Nat.le_of_ble_eq_true rfl⟩ ⟨Nat.le_of_ble_eq_true rfl, Nat.le_of_ble_eq_true rfl⟩ rfl rfl rfl hl.1 rfl (Nat.le_of_ble_eq_true rfl) d_Mod_count_89 (c_Mod_sumOf l G ad _ u 0 _ h) (fun x2 u1 H locs h hP hD hS => ?_)
    exact r_iret hx hb hr hlocks hP hD hS d_Mod_count_92 h
  by_cases hc6 : p1 = 6
  · have h := h.2.2.2.2.2.2.1 hc6
    refine lv_tableIn (off := 92) (tgt := 93) hx hb d_Mod_count_1 (by rw [hc6]; decide) (by rw [hc6]; decide) (by rw [hc6]; rfl) (by decide) ?_
    refine lv_aload_n hx hb d_Mod_count_93 rfl (lv_at hl 0 rfl) ?_
    refine gR_Mod_row hx hb hts hown hK hP tb_653 d_Mod_count_94 ?_
    refine lv_iload_n hx hb d_Mod_count_97 rfl (lv_at hl 1 rfl) ?_
    refine lv_iconst (v := 1) hx hb d_Mod_count_98 (by decide) ?_
    refine lv_isub hx hb d_Mod_count_99 ?_
    obtain ⟨hi, h⟩ := h
    refine lR_1 hx hb hK hP hi d_Mod_count_100 ?_
    exact r_iret hx hb hr hlocks hP hD hS d_Mod_count_101 h
  by_cases hc7 : p1 = 7
  · have h := h.2.2.2.2.2.2.2.1 hc7
    refine lv_tableIn (off := 92) (tgt := 93) hx hb d_Mod_count_1 (by rw [hc7]; decide) (by rw [hc7]; decide) (by rw [hc7]; rfl) (by decide) ?_
    refine lv_aload_n hx hb d_Mod_count_93 rfl (lv_at hl 0 rfl) ?_
    refine gR_Mod_row hx hb hts hown hK hP tb_653 d_Mod_count_94 ?_
    refine lv_iload_n hx hb d_Mod_count_97 rfl (lv_at hl 1 rfl) ?_
    refine lv_iconst (v := 1) hx hb d_Mod_count_98 (by decide) ?_
    refine lv_isub hx hb d_Mod_count_99 ?_
    obtain ⟨hi, h⟩ := h
    refine lR_1 hx hb hK hP hi d_Mod_count_100 ?_
    exact r_iret hx hb hr hlocks hP hD hS d_Mod_count_101 h
  by_cases hc8 : p1 = 8
  · have h := h.2.2.2.2.2.2.2.2.1 hc8
    refine lv_tableIn (off := 92) (tgt := 93) hx hb d_Mod_count_1 (by rw [hc8]; decide) (by rw [hc8]; decide) (by rw [hc8]; rfl) (by decide) ?_
    refine lv_aload_n hx hb d_Mod_count_93 rfl (lv_at hl 0 rfl) ?_
    refine gR_Mod_row hx hb hts hown hK hP tb_653 d_Mod_count_94 ?_
    refine lv_iload_n hx hb d_Mod_count_97 rfl (lv_at hl 1 rfl) ?_
    refine lv_iconst (v := 1) hx hb d_Mod_count_98 (by decide) ?_
    refine lv_isub hx hb d_Mod_count_99 ?_
    obtain ⟨hi, h⟩ := h
    refine lR_1 hx hb hK hP hi d_Mod_count_100 ?_
    exact r_iret hx hb hr hlocks hP hD hS d_Mod_count_101 h
  by_cases hc9 : p1 = 9
  · have h := h.2.2.2.2.2.2.2.2.2.1 hc9
    refine lv_tableIn (off := 92) (tgt := 93) hx hb d_Mod_count_1 (by rw [hc9]; decide) (by rw [hc9]; decide) (by rw [hc9]; rfl) (by decide) ?_
    refine lv_aload_n hx hb d_Mod_count_93 rfl (lv_at hl 0 rfl) ?_
    refine gR_Mod_row hx hb hts hown hK hP tb_653 d_Mod_count_94 ?_
    refine lv_iload_n hx hb d_Mod_count_97 rfl (lv_at hl 1 rfl) ?_
    refine lv_iconst (v := 1) hx hb d_Mod_count_98 (by decide) ?_
    refine lv_isub hx hb d_Mod_count_99 ?_
    obtain ⟨hi, h⟩ := h
    refine lR_1 hx hb hK hP hi d_Mod_count_100 ?_
    exact r_iret hx hb hr hlocks hP hD hS d_Mod_count_101 h
  by_cases hc10 : p1 = 10
  · have h := h.2.2.2.2.2.2.2.2.2.2.1 hc10
    refine lv_tableIn (off := 101) (tgt := 102) hx hb d_Mod_count_1 (by rw [hc10]; decide) (by rw [hc10]; decide) (by rw [hc10]; rfl) (by decide) ?_
    refine lv_aload_n hx hb d_Mod_count_102 rfl (lv_at hl 0 rfl) ?_
    refine call_Vi1 (own := "HamperClubModel") (As := []) (rest := []) (q0 := 0) (ci := 9) hx hb hml hts hown hK hA hP hD hS ok_Mod_165 rfl ⟨Nat.le_of_ble_eq_true rfl, Nat.le_of_ble_eq_true rfl⟩ ⟨Nat.le_of_ble_eq_true rfl, Nat.le_of_ble_eq_true rfl⟩ rfl rfl rfl hl.1 rfl (Nat.le_of_ble_eq_true rfl) d_Mod_count_103 (c_Mod_mislaid l G ad _ u  _ h) (fun x4 u3 H locs h hP hD hS => ?_)
    exact r_iret hx hb hr hlocks hP hD hS d_Mod_count_106 h
  by_cases hc11 : p1 = 11
  · have h := h.2.2.2.2.2.2.2.2.2.2.2.1 hc11
    refine lv_tableIn (off := 106) (tgt := 107) hx hb d_Mod_count_1 (by rw [hc11]; decide) (by rw [hc11]; decide) (by rw [hc11]; rfl) (by decide) ?_
    refine lv_aload_n hx hb d_Mod_count_107 rfl (lv_at hl 0 rfl) ?_
    refine lv_iconst (v := 5) hx hb d_Mod_count_108 (by decide) ?_
    refine call_Vi1 (own := "HamperClubModel") (As := [.int 5]) (rest := []) (q0 := 0) (ci := 9) hx hb hml hts hown hK hA hP hD hS ok_Mod_162 rfl ⟨Nat.le_of_ble_eq_true rfl, Nat.le_of_ble_eq_true rfl⟩ ⟨Nat.le_of_ble_eq_true rfl, Nat.le_of_ble_eq_true rfl⟩ rfl rfl rfl hl.1 rfl (Nat.le_of_ble_eq_true rfl) d_Mod_count_109 (c_Mod_sumOf l G ad _ u 5 _ h) (fun x6 u5 H locs h hP hD hS => ?_)
    exact r_iret hx hb hr hlocks hP hD hS d_Mod_count_112 h
  by_cases hc12 : p1 = 12
  · have h := h.2.2.2.2.2.2.2.2.2.2.2.2.1 hc12
    refine lv_tableIn (off := 112) (tgt := 113) hx hb d_Mod_count_1 (by rw [hc12]; decide) (by rw [hc12]; decide) (by rw [hc12]; rfl) (by decide) ?_
    refine lv_aload_n hx hb d_Mod_count_113 rfl (lv_at hl 0 rfl) ?_
    refine gR_Mod_row hx hb hts hown hK hP tb_653 d_Mod_count_114 ?_
    refine lv_bipush (v := 9) hx hb d_Mod_count_117 (by decide) ?_
    refine lR_1 hx hb hK hP (by unfold vp_in; decide) d_Mod_count_119 ?_
    exact r_iret hx hb hr hlocks hP hD hS d_Mod_count_120 h
  by_cases hc13 : p1 = 13
  · have h := h.2.2.2.2.2.2.2.2.2.2.2.2.2.1 hc13
    refine lv_tableIn (off := 120) (tgt := 121) hx hb d_Mod_count_1 (by rw [hc13]; decide) (by rw [hc13]; decide) (by rw [hc13]; rfl) (by decide) ?_
    refine lv_aload_n hx hb d_Mod_count_121 rfl (lv_at hl 0 rfl) ?_
    refine gR_Mod_row hx hb hts hown hK hP tb_653 d_Mod_count_122 ?_
    refine lv_sipush (v := 678) hx hb d_Mod_count_125 (by decide) ?_
    refine lR_1 hx hb hK hP (by unfold vp_in; decide) d_Mod_count_128 ?_
    refine lv_aload_n hx hb d_Mod_count_129 rfl (lv_at hl 0 rfl) ?_
    refine gR_Mod_row hx hb hts hown hK hP tb_653 d_Mod_count_130 ?_
    refine lv_sipush (v := 679) hx hb d_Mod_count_133 (by decide) ?_
    refine lR_1 hx hb hK hP (by unfold vp_in; decide) d_Mod_count_136 ?_
    refine lv_iadd hx hb d_Mod_count_137 ?_
    exact r_iret hx hb hr hlocks hP hD hS d_Mod_count_138 h
  by_cases hc14 : p1 = 14
  · have h := h.2.2.2.2.2.2.2.2.2.2.2.2.2.2.1 hc14
    refine lv_tableIn (off := 138) (tgt := 139) hx hb d_Mod_count_1 (by rw [hc14]; decide) (by rw [hc14]; decide) (by rw [hc14]; rfl) (by decide) ?_
    refine lv_aload_n hx hb d_Mod_count_139 rfl (lv_at hl 0 rfl) ?_
    refine gR_Mod_states hx hb hts hown hK hP tb_654 d_Mod_count_140 ?_
    exact r_iret hx hb hr hlocks hP hD hS d_Mod_count_143 h
  by_cases hc15 : p1 = 15
  · have h := h.2.2.2.2.2.2.2.2.2.2.2.2.2.2.2.1 hc15
    refine lv_tableIn (off := 143) (tgt := 144) hx hb d_Mod_count_1 (by rw [hc15]; decide) (by rw [hc15]; decide) (by rw [hc15]; rfl) (by decide) ?_
    refine lv_aload_n hx hb d_Mod_count_144 rfl (lv_at hl 0 rfl) ?_
    refine gR_Mod_length hx hb hts hown hK hP tb_656 d_Mod_count_145 ?_
    exact r_iret hx hb hr hlocks hP hD hS d_Mod_count_148 h
  have h := h.2.2.2.2.2.2.2.2.2.2.2.2.2.2.2.2
  have h := h hc0
  have h := h hc1
  have h := h hc2
  have h := h hc3
  have h := h hc4
  have h := h hc5
  have h := h hc6
  have h := h hc7
  have h := h hc8
  have h := h hc9
  have h := h hc10
  have h := h hc11
  have h := h hc12
  have h := h hc13
  have h := h hc14
  have h := h hc15
  refine lv_tableOut (tgt := 149) hx hb d_Mod_count_1 (tb_out (lo := 0) (n := 15) (by decide) (fun k hk => by rcases (show k = 0 ∨ k = 1 ∨ k = 2 ∨ k = 3 ∨ k = 4 ∨ k = 5 ∨ k = 6 ∨ k = 7 ∨ k = 8 ∨ k = 9 ∨ k = 10 ∨ k = 11 ∨ k = 12 ∨ k = 13 ∨ k = 14 ∨ k = 15 by omega) with rfl | rfl | rfl | rfl | rfl | rfl | rfl | rfl | rfl | rfl | rfl | rfl | rfl | rfl | rfl | rfl <;> first | exact hc0 | exact hc1 | exact hc2 | exact hc3 | exact hc4 | exact hc5 | exact hc6 | exact hc7 | exact hc8 | exact hc9 | exact hc10 | exact hc11 | exact hc12 | exact hc13 | exact hc14 | exact hc15)) (by decide) ?_
  refine lv_iconst (v := (-1)) hx hb d_Mod_count_149 (by decide) ?_
  exact r_iret hx hb hr hlocks hP hD hS d_Mod_count_150 h
def wl_Mod_goodWeeks_4 (Post : Int32 → RS → Prop) (K : Int32 → RS → Prop) : Nat → Int32 → Int32 → Int32 → RS → Prop
  | 0, _, _, _ => fun _ => False
  | n + 1, a1, a2, a3 => fun u1 => ((60 < a3 → K a2 u1) ∧ (¬ 60 < a3 → (wp_Mod_isGoodWeek u1 a1 a3 (fun x3 u2 => ((x3 = 0 → (∀ x4 : Int32, x4 = (a2 + 0) → (∀ x5 : Int32, x5 = a3 + 1 → wl_Mod_goodWeeks_4 Post K n a1 x4 x5 u2))) ∧ (¬ x3 = 0 → (∀ x6 : Int32, x6 = (a2 + 1) → (∀ x7 : Int32, x7 = a3 + 1 → wl_Mod_goodWeeks_4 Post K n a1 x6 x7 u2))))))))
def wp_Mod_goodWeeks (u : RS) (p1 : Int32) (Post : Int32 → RS → Prop) : Prop := (∃ k10 : Nat, wl_Mod_goodWeeks_4 Post (fun x9 u8 => Post x9 u8) k10 p1 0 0 u)
set_option maxHeartbeats 4000000 in
set_option maxRecDepth 100000 in
theorem x_Mod_goodWeeks_4 {p : Program} {l : Launch} {e : Env} {s : State} {m : MethodId} {args : Array Value} {below : List Frame} {meth : Method} {c : Code} {A : Nat → Prop} {G : GG} {ad : Nat → Nat} {Post : Int32 → RS → Prop} {K : Int32 → RS → Prop} {Q : State → Prop}
    (hx : p.tables.exec = Jvm.exec) (hb : c.code = b_Mod_goodWeeks) (hr : meth.sig.returnType = some .int) (hts : ∀ w ∈ Tg, w.before args s = true) (hown : s.vm.findClass "HamperClubModel" = some m.cls) (hml : c.maxLocals = 4) (hlocks : meth.locks = false) (hA : ∀ q, s.heap.size ≤ q → A q) (hK : KN G s)
    (hQ : Q = MQ below (va_Qi Post (BW G A (refW G ad)) A) args s 0 0 A)
    (kk : ∀ (b2 : Int32) (u : RS), K b2 u → ∀ (H : Heap) (locs : List Loc) (ls : Array Slot), va_P G.1 classes (refW G ad u) H → va_D A (refW G ad u) → va_S A s.heap H locs → lv_has ls 4 [(2, .int b2)] → W p l e (rmK 2) s m args below meth c H locs 0 0 Q (F0 m 33 ls [])) :
    ∀ (n : Nat) (a1 : Int32) (a2 : Int32) (a3 : Int32) (u : RS), wl_Mod_goodWeeks_4 Post K n a1 a2 a3 u → ∀ (H : Heap) (locs : List Loc) (ls : Array Slot), va_P G.1 classes (refW G ad u) H → va_D A (refW G ad u) → va_S A s.heap H locs → lv_has ls 4 [(0, .ref (ad 0)), (1, .int a1), (2, .int a2), (3, .int a3)] → W p l e (rmK 2) s m args below meth c H locs 0 0 Q (F0 m 4 ls []) := by
  subst hQ
  intro n
  induction n with
  | zero => intro a1 a2 a3 u h; exact h.elim
  | succ n ih =>
    intro a1 a2 a3 u1 h H locs ls hP hD hS hl
    unfold wl_Mod_goodWeeks_4 at h
    refine lv_iload_n hx hb d_Mod_goodWeeks_4 rfl (lv_at hl 3 rfl) ?_
    refine lv_bipush (v := 60) hx hb d_Mod_goodWeeks_5 (by decide) ?_
    refine lv_icmp_gt (tgt := 33) hx hb d_Mod_goodWeeks_7 (by decide) (fun hc => ?_) (fun hc => ?_)
    · have h := h.1 hc
      exact kk a2 u1 h _ _ _ hP hD hS (lv_sub hl [2] rfl)
    · have h := h.2 hc
      refine lv_iload_n hx hb d_Mod_goodWeeks_10 rfl (lv_at hl 2 rfl) ?_
      refine lv_aload_n hx hb d_Mod_goodWeeks_11 rfl (lv_at hl 0 rfl) ?_
      refine lv_iload_n hx hb d_Mod_goodWeeks_12 rfl (lv_at hl 1 rfl) ?_
      refine lv_iload_n hx hb d_Mod_goodWeeks_13 rfl (lv_at hl 3 rfl) ?_
      refine call_Vi1 (own := "HamperClubModel") (As := [.int a1, .int a3]) (rest := [.int a2]) (q0 := 0) (ci := 9) hx hb hml hts hown hK hA hP hD hS ok_Mod_53 rfl ⟨Nat.le_of_ble_eq_true rfl, Nat.le_of_ble_eq_true rfl⟩ ⟨Nat.le_of_ble_eq_true rfl, Nat.le_of_ble_eq_true rfl⟩ rfl rfl rfl hl.1 rfl (Nat.le_of_ble_eq_true rfl) d_Mod_goodWeeks_14 (c_Mod_isGoodWeek l G ad _ u1 a1 a3 _ h) (fun x3 u2 H locs h hP hD hS => ?_)
      refine lv_if_eq (tgt := 24) hx hb d_Mod_goodWeeks_17 (by decide) (fun hc => ?_) (fun hc => ?_)
      · have h := h.1 hc
        refine lv_iconst (v := 0) hx hb d_Mod_goodWeeks_24 (by decide) ?_
        refine lv_iadd hx hb d_Mod_goodWeeks_25 ?_
        refine lv_topi (fun x4 ex4 => ?_)
        have h := h x4 ex4
        refine lv_istore_n (lv' := [(2, .int x4), (0, .ref (ad 0)), (1, .int a1), (3, .int a3)]) hx hb d_Mod_goodWeeks_26 rfl hl (by decide) rfl (fun ls hl => ?_)
        obtain ⟨x5, ex5⟩ : ∃ y : Int32, y = a3 + 1 := ⟨_, rfl⟩
        have h := h x5 ex5
        refine lv_iinc (v := x5) (lv' := [(3, .int x5), (2, .int x4), (0, .ref (ad 0)), (1, .int a1)]) hx hb d_Mod_goodWeeks_27 hl (k := 3) rfl (by rw [ex5]; rfl) (by decide) rfl (fun ls hl => ?_)
        refine lv_goto (tgt := 4) hx hb d_Mod_goodWeeks_30 (by decide) ?_
        exact ih a1 x4 x5 u2 h _ _ _ hP hD hS (lv_sub hl [2, 3, 1, 0] rfl)
      · have h := h.2 hc
        refine lv_iconst (v := 1) hx hb d_Mod_goodWeeks_20 (by decide) ?_
        refine lv_goto (tgt := 25) hx hb d_Mod_goodWeeks_21 (by decide) ?_
        refine lv_iadd hx hb d_Mod_goodWeeks_25 ?_
        refine lv_topi (fun x6 ex6 => ?_)
        have h := h x6 ex6
        refine lv_istore_n (lv' := [(2, .int x6), (0, .ref (ad 0)), (1, .int a1), (3, .int a3)]) hx hb d_Mod_goodWeeks_26 rfl hl (by decide) rfl (fun ls hl => ?_)
        obtain ⟨x7, ex7⟩ : ∃ y : Int32, y = a3 + 1 := ⟨_, rfl⟩
        have h := h x7 ex7
        refine lv_iinc (v := x7) (lv' := [(3, .int x7), (2, .int x6), (0, .ref (ad 0)), (1, .int a1)]) hx hb d_Mod_goodWeeks_27 hl (k := 3) rfl (by rw [ex7]; rfl) (by decide) rfl (fun ls hl => ?_)
        refine lv_goto (tgt := 4) hx hb d_Mod_goodWeeks_30 (by decide) ?_
        exact ih a1 x6 x7 u2 h _ _ _ hP hD hS (lv_sub hl [2, 3, 1, 0] rfl)
set_option maxHeartbeats 4000000 in
set_option maxRecDepth 100000 in
theorem c_Mod_goodWeeks (l : Launch) (G : GG) (ad : Nat → Nat) (sz : Nat) (u : RS) (p1 : Int32) (Post : Int32 → RS → Prop) (h : wp_Mod_goodWeeks u p1 Post) : CMi l y_Mod_goodWeeks b_Mod_goodWeeks 4 .int 2 G [.ref (ad 0), .int p1] sz (refW G ad u) (refW G ad) Post := by
  refine CMi.start (by decide) (Nat.le_of_ble_eq_true rfl) (fun p e s m below meth c A ls hx hb hr hts hown hml hlocks hA hS hP hD hK hl => ?_)
  unfold wp_Mod_goodWeeks at h
  have hl : lv_has ls 4 [(0, .ref (ad 0)), (1, .int p1)] := hl
  refine lv_iconst (v := 0) hx hb d_Mod_goodWeeks_0 (by decide) ?_
  refine lv_istore_n (lv' := [(2, .int 0), (0, .ref (ad 0)), (1, .int p1)]) hx hb d_Mod_goodWeeks_1 rfl hl (by decide) rfl (fun ls hl => ?_)
  refine lv_iconst (v := 0) hx hb d_Mod_goodWeeks_2 (by decide) ?_
  refine lv_istore_n (lv' := [(3, .int 0), (2, .int 0), (0, .ref (ad 0)), (1, .int p1)]) hx hb d_Mod_goodWeeks_3 rfl hl (by decide) rfl (fun ls hl => ?_)
  obtain ⟨n, h⟩ := h
  refine x_Mod_goodWeeks_4 hx hb hr hts hown hml hlocks hA hK rfl (fun x9 u8 h H locs ls hP hD hS hl => ?_) n p1 0 0 u h _ _ _ hP hD hS (lv_sub hl [2, 3, 1, 0] rfl)
  refine lv_iload_n hx hb d_Mod_goodWeeks_33 rfl (lv_at hl 0 rfl) ?_
  exact r_iret hx hb hr hlocks hP hD hS d_Mod_goodWeeks_34 h
def wl_Mod_rowOf_29 (Post : Int32 → RS → Prop) (K : Int32 → RS → Prop) : Nat → Int32 → Int32 → Int32 → RS → Prop
  | 0, _, _, _ => fun _ => False
  | n + 1, a1, a2, a3 => fun u4 => (wp_Mod_isGoodWeek u4 a1 a3 (fun x6 u5 => ((x6 = 0 → K a2 u5) ∧ (¬ x6 = 0 → (∀ x7 : Int32, x7 = a2 + 1 → (∀ x8 : Int32, x8 = a3 + (-1) → wl_Mod_rowOf_29 Post K n a1 x7 x8 u5))))))
def wp_Mod_rowOf (u : RS) (p1 : Int32) (Post : Int32 → RS → Prop) : Prop := (wp_Mod_isGoodWeek u p1 (u.1 (0 : Int32).toNatClampNeg) (fun x2 u1 => ((x2 = 0 → (∀ x3 : Int32, x3 = ((u1.1 (0 : Int32).toNatClampNeg) - 1) → (∃ k11 : Nat, wl_Mod_rowOf_29 Post (fun x10 u9 => Post x10 u9) k11 p1 0 x3 u1))) ∧ (¬ x2 = 0 → (∀ x12 : Int32, x12 = ((u1.1 (0 : Int32).toNatClampNeg) - 1) → (∃ k15 : Nat, wl_Mod_rowOf_29 Post (fun x14 u13 => Post x14 u13) k15 p1 1 x12 u1))))))
set_option maxHeartbeats 4000000 in
set_option maxRecDepth 100000 in
theorem x_Mod_rowOf_29 {p : Program} {l : Launch} {e : Env} {s : State} {m : MethodId} {args : Array Value} {below : List Frame} {meth : Method} {c : Code} {A : Nat → Prop} {G : GG} {ad : Nat → Nat} {Post : Int32 → RS → Prop} {K : Int32 → RS → Prop} {Q : State → Prop}
    (hx : p.tables.exec = Jvm.exec) (hb : c.code = b_Mod_rowOf) (hr : meth.sig.returnType = some .int) (hts : ∀ w ∈ Tg, w.before args s = true) (hown : s.vm.findClass "HamperClubModel" = some m.cls) (hml : c.maxLocals = 4) (hlocks : meth.locks = false) (hA : ∀ q, s.heap.size ≤ q → A q) (hK : KN G s)
    (hQ : Q = MQ below (va_Qi Post (BW G A (refW G ad)) A) args s 0 0 A)
    (kk : ∀ (b2 : Int32) (u : RS), K b2 u → ∀ (H : Heap) (locs : List Loc) (ls : Array Slot), va_P G.1 classes (refW G ad u) H → va_D A (refW G ad u) → va_S A s.heap H locs → lv_has ls 4 [(2, .int b2)] → W p l e (rmK 2) s m args below meth c H locs 0 0 Q (F0 m 47 ls [])) :
    ∀ (n : Nat) (a1 : Int32) (a2 : Int32) (a3 : Int32) (u : RS), wl_Mod_rowOf_29 Post K n a1 a2 a3 u → ∀ (H : Heap) (locs : List Loc) (ls : Array Slot), va_P G.1 classes (refW G ad u) H → va_D A (refW G ad u) → va_S A s.heap H locs → lv_has ls 4 [(0, .ref (ad 0)), (1, .int a1), (2, .int a2), (3, .int a3)] → W p l e (rmK 2) s m args below meth c H locs 0 0 Q (F0 m 29 ls []) := by
  subst hQ
  intro n
  induction n with
  | zero => intro a1 a2 a3 u h; exact h.elim
  | succ n ih =>
    intro a1 a2 a3 u4 h H locs ls hP hD hS hl
    unfold wl_Mod_rowOf_29 at h
    refine lv_aload_n hx hb d_Mod_rowOf_29 rfl (lv_at hl 0 rfl) ?_
    refine lv_iload_n hx hb d_Mod_rowOf_30 rfl (lv_at hl 1 rfl) ?_
    refine lv_iload_n hx hb d_Mod_rowOf_31 rfl (lv_at hl 3 rfl) ?_
    refine call_Vi1 (own := "HamperClubModel") (As := [.int a1, .int a3]) (rest := []) (q0 := 0) (ci := 9) hx hb hml hts hown hK hA hP hD hS ok_Mod_53 rfl ⟨Nat.le_of_ble_eq_true rfl, Nat.le_of_ble_eq_true rfl⟩ ⟨Nat.le_of_ble_eq_true rfl, Nat.le_of_ble_eq_true rfl⟩ rfl rfl rfl hl.1 rfl (Nat.le_of_ble_eq_true rfl) d_Mod_rowOf_32 (c_Mod_isGoodWeek l G ad _ u4 a1 a3 _ h) (fun x6 u5 H locs h hP hD hS => ?_)
    refine lv_if_eq (tgt := 47) hx hb d_Mod_rowOf_35 (by decide) (fun hc => ?_) (fun hc => ?_)
    · have h := h.1 hc
      exact kk a2 u5 h _ _ _ hP hD hS (lv_sub hl [2] rfl)
    · have h := h.2 hc
      obtain ⟨x7, ex7⟩ : ∃ y : Int32, y = a2 + 1 := ⟨_, rfl⟩
      have h := h x7 ex7
      refine lv_iinc (v := x7) (lv' := [(2, .int x7), (0, .ref (ad 0)), (1, .int a1), (3, .int a3)]) hx hb d_Mod_rowOf_38 hl (k := 2) rfl (by rw [ex7]; rfl) (by decide) rfl (fun ls hl => ?_)
      obtain ⟨x8, ex8⟩ : ∃ y : Int32, y = a3 + (-1) := ⟨_, rfl⟩
      have h := h x8 ex8
      refine lv_iinc (v := x8) (lv' := [(3, .int x8), (2, .int x7), (0, .ref (ad 0)), (1, .int a1)]) hx hb d_Mod_rowOf_41 hl (k := 3) rfl (by rw [ex8]; rfl) (by decide) rfl (fun ls hl => ?_)
      refine lv_goto (tgt := 29) hx hb d_Mod_rowOf_44 (by decide) ?_
      exact ih a1 x7 x8 u5 h _ _ _ hP hD hS (lv_sub hl [2, 3, 1, 0] rfl)
set_option maxHeartbeats 4000000 in
set_option maxRecDepth 100000 in
theorem c_Mod_rowOf (l : Launch) (G : GG) (ad : Nat → Nat) (sz : Nat) (u : RS) (p1 : Int32) (Post : Int32 → RS → Prop) (h : wp_Mod_rowOf u p1 Post) : CMi l y_Mod_rowOf b_Mod_rowOf 4 .int 2 G [.ref (ad 0), .int p1] sz (refW G ad u) (refW G ad) Post := by
  refine CMi.start (by decide) (Nat.le_of_ble_eq_true rfl) (fun p e s m below meth c A ls hx hb hr hts hown hml hlocks hA hS hP hD hK hl => ?_)
  unfold wp_Mod_rowOf at h
  have hl : lv_has ls 4 [(0, .ref (ad 0)), (1, .int p1)] := hl
  refine lv_aload_n hx hb d_Mod_rowOf_0 rfl (lv_at hl 0 rfl) ?_
  refine lv_iload_n hx hb d_Mod_rowOf_1 rfl (lv_at hl 1 rfl) ?_
  refine lv_aload_n hx hb d_Mod_rowOf_2 rfl (lv_at hl 0 rfl) ?_
  refine gR_Mod_row hx hb hts hown hK hP tb_653 d_Mod_rowOf_3 ?_
  refine lv_iconst (v := 0) hx hb d_Mod_rowOf_6 (by decide) ?_
  refine lR_1 hx hb hK hP (by unfold vp_in; decide) d_Mod_rowOf_7 ?_
  refine call_Vi1 (own := "HamperClubModel") (As := [.int p1, .int (u.1 (0 : Int32).toNatClampNeg)]) (rest := []) (q0 := 0) (ci := 9) hx hb hml hts hown hK hA hP hD hS ok_Mod_53 rfl ⟨Nat.le_of_ble_eq_true rfl, Nat.le_of_ble_eq_true rfl⟩ ⟨Nat.le_of_ble_eq_true rfl, Nat.le_of_ble_eq_true rfl⟩ rfl rfl rfl hl.1 rfl (Nat.le_of_ble_eq_true rfl) d_Mod_rowOf_8 (c_Mod_isGoodWeek l G ad _ u p1 (u.1 (0 : Int32).toNatClampNeg) _ h) (fun x2 u1 H locs h hP hD hS => ?_)
  refine lv_if_eq (tgt := 18) hx hb d_Mod_rowOf_11 (by decide) (fun hc => ?_) (fun hc => ?_)
  · have h := h.1 hc
    refine lv_iconst (v := 0) hx hb d_Mod_rowOf_18 (by decide) ?_
    refine lv_istore_n (lv' := [(2, .int 0), (0, .ref (ad 0)), (1, .int p1)]) hx hb d_Mod_rowOf_19 rfl hl (by decide) rfl (fun ls hl => ?_)
    refine lv_aload_n hx hb d_Mod_rowOf_20 rfl (lv_at hl 1 rfl) ?_
    refine gR_Mod_row hx hb hts hown hK hP tb_653 d_Mod_rowOf_21 ?_
    refine lv_iconst (v := 0) hx hb d_Mod_rowOf_24 (by decide) ?_
    refine lR_1 hx hb hK hP (by unfold vp_in; decide) d_Mod_rowOf_25 ?_
    refine lv_iconst (v := 1) hx hb d_Mod_rowOf_26 (by decide) ?_
    refine lv_isub hx hb d_Mod_rowOf_27 ?_
    refine lv_topi (fun x3 ex3 => ?_)
    have h := h x3 ex3
    refine lv_istore_n (lv' := [(3, .int x3), (2, .int 0), (0, .ref (ad 0)), (1, .int p1)]) hx hb d_Mod_rowOf_28 rfl hl (by decide) rfl (fun ls hl => ?_)
    obtain ⟨n, h⟩ := h
    refine x_Mod_rowOf_29 hx hb hr hts hown hml hlocks hA hK rfl (fun x10 u9 h H locs ls hP hD hS hl => ?_) n p1 0 x3 u1 h _ _ _ hP hD hS (lv_sub hl [2, 3, 1, 0] rfl)
    refine lv_iload_n hx hb d_Mod_rowOf_47 rfl (lv_at hl 0 rfl) ?_
    exact r_iret hx hb hr hlocks hP hD hS d_Mod_rowOf_48 h
  · have h := h.2 hc
    refine lv_iconst (v := 1) hx hb d_Mod_rowOf_14 (by decide) ?_
    refine lv_goto (tgt := 19) hx hb d_Mod_rowOf_15 (by decide) ?_
    refine lv_istore_n (lv' := [(2, .int 1), (0, .ref (ad 0)), (1, .int p1)]) hx hb d_Mod_rowOf_19 rfl hl (by decide) rfl (fun ls hl => ?_)
    refine lv_aload_n hx hb d_Mod_rowOf_20 rfl (lv_at hl 1 rfl) ?_
    refine gR_Mod_row hx hb hts hown hK hP tb_653 d_Mod_rowOf_21 ?_
    refine lv_iconst (v := 0) hx hb d_Mod_rowOf_24 (by decide) ?_
    refine lR_1 hx hb hK hP (by unfold vp_in; decide) d_Mod_rowOf_25 ?_
    refine lv_iconst (v := 1) hx hb d_Mod_rowOf_26 (by decide) ?_
    refine lv_isub hx hb d_Mod_rowOf_27 ?_
    refine lv_topi (fun x12 ex12 => ?_)
    have h := h x12 ex12
    refine lv_istore_n (lv' := [(3, .int x12), (2, .int 1), (0, .ref (ad 0)), (1, .int p1)]) hx hb d_Mod_rowOf_28 rfl hl (by decide) rfl (fun ls hl => ?_)
    obtain ⟨n, h⟩ := h
    refine x_Mod_rowOf_29 hx hb hr hts hown hml hlocks hA hK rfl (fun x14 u13 h H locs ls hP hD hS hl => ?_) n p1 1 x12 u1 h _ _ _ hP hD hS (lv_sub hl [2, 3, 1, 0] rfl)
    refine lv_iload_n hx hb d_Mod_rowOf_47 rfl (lv_at hl 0 rfl) ?_
    exact r_iret hx hb hr hlocks hP hD hS d_Mod_rowOf_48 h
def wp_Mod_waitsAt (u : RS) (p1 : Int32) (Post : Int32 → RS → Prop) : Prop := (vp_in (pf_Mod_of p1 3) 4306 ∧ (∀ x1 : Int32, x1 = (u.1 (pf_Mod_of p1 3).toNatClampNeg) → ((x1 = (-9) → Post 0 u) ∧ (¬ x1 = (-9) → (vp_in (pf_Mod_of p1 4) 4306 ∧ (((u.1 (pf_Mod_of p1 4).toNatClampNeg) = 1 → Post 0 u) ∧ (¬ (u.1 (pf_Mod_of p1 4).toNatClampNeg) = 1 → (wp_Mod_placeOf u p1 x1 (fun x3 u2 => Post (x3 + 1) u2)))))))))
theorem ok_Mod_95 : CallOk y_Mod_placeOf b_Mod_placeOf 4 (some .int) 1 2 "HamperClubModel" 95 := ⟨tb_811, tb_813, sl_31, tb_12, tb_814, by decide +kernel⟩
set_option maxHeartbeats 4000000 in
set_option maxRecDepth 100000 in
theorem c_Mod_waitsAt (l : Launch) (G : GG) (ad : Nat → Nat) (sz : Nat) (u : RS) (p1 : Int32) (Post : Int32 → RS → Prop) (h : wp_Mod_waitsAt u p1 Post) : CMi l y_Mod_waitsAt b_Mod_waitsAt 3 .int 2 G [.ref (ad 0), .int p1] sz (refW G ad u) (refW G ad) Post := by
  refine CMi.start (by decide) (Nat.le_of_ble_eq_true rfl) (fun p e s m below meth c A ls hx hb hr hts hown hml hlocks hA hS hP hD hK hl => ?_)
  unfold wp_Mod_waitsAt at h
  have hl : lv_has ls 3 [(0, .ref (ad 0)), (1, .int p1)] := hl
  refine lv_aload_n hx hb d_Mod_waitsAt_0 rfl (lv_at hl 0 rfl) ?_
  refine gR_Mod_row hx hb hts hown hK hP tb_653 d_Mod_waitsAt_1 ?_
  refine lv_iload_n hx hb d_Mod_waitsAt_4 rfl (lv_at hl 1 rfl) ?_
  refine lv_iconst (v := 3) hx hb d_Mod_waitsAt_5 (by decide) ?_
  refine call_S (As := [.int p1, .int 3]) (rest := [.ref (ad 1)]) hx hb hml hts hown so_Mod_43 rfl ⟨Nat.le_of_ble_eq_true rfl, Nat.le_of_ble_eq_true rfl⟩ ⟨Nat.le_of_ble_eq_true rfl, Nat.le_of_ble_eq_true rfl⟩ hl.1 rfl (Nat.le_of_ble_eq_true rfl) d_Mod_waitsAt_6 (k_Mod_of l p1 3) ?_
  obtain ⟨hi, h⟩ := h
  refine lR_1 hx hb hK hP hi d_Mod_waitsAt_9 ?_
  refine lv_topi (fun x1 ex1 => ?_)
  have h := h x1 ex1
  refine lv_istore_n (lv' := [(2, .int x1), (0, .ref (ad 0)), (1, .int p1)]) hx hb d_Mod_waitsAt_10 rfl hl (by decide) rfl (fun ls hl => ?_)
  refine lv_iload_n hx hb d_Mod_waitsAt_11 rfl (lv_at hl 0 rfl) ?_
  refine lv_bipush (v := (-9)) hx hb d_Mod_waitsAt_12 (by decide) ?_
  refine lv_icmp_eq (tgt := 31) hx hb d_Mod_waitsAt_14 (by decide) (fun hc => ?_) (fun hc => ?_)
  · have h := h.1 hc
    refine lv_iconst (v := 0) hx hb d_Mod_waitsAt_31 (by decide) ?_
    refine lv_goto (tgt := 43) hx hb d_Mod_waitsAt_32 (by decide) ?_
    exact r_iret hx hb hr hlocks hP hD hS d_Mod_waitsAt_43 h
  · have h := h.2 hc
    refine lv_aload_n hx hb d_Mod_waitsAt_17 rfl (lv_at hl 1 rfl) ?_
    refine gR_Mod_row hx hb hts hown hK hP tb_653 d_Mod_waitsAt_18 ?_
    refine lv_iload_n hx hb d_Mod_waitsAt_21 rfl (lv_at hl 2 rfl) ?_
    refine lv_iconst (v := 4) hx hb d_Mod_waitsAt_22 (by decide) ?_
    refine call_S (As := [.int p1, .int 4]) (rest := [.ref (ad 1)]) hx hb hml hts hown so_Mod_43 rfl ⟨Nat.le_of_ble_eq_true rfl, Nat.le_of_ble_eq_true rfl⟩ ⟨Nat.le_of_ble_eq_true rfl, Nat.le_of_ble_eq_true rfl⟩ hl.1 rfl (Nat.le_of_ble_eq_true rfl) d_Mod_waitsAt_23 (k_Mod_of l p1 4) ?_
    obtain ⟨hi, h⟩ := h
    refine lR_1 hx hb hK hP hi d_Mod_waitsAt_26 ?_
    refine lv_iconst (v := 1) hx hb d_Mod_waitsAt_27 (by decide) ?_
    refine lv_icmp_ne (tgt := 35) hx hb d_Mod_waitsAt_28 (by decide) (fun hc => ?_) (fun hc => ?_)
    · have h := h.2 hc
      refine lv_aload_n hx hb d_Mod_waitsAt_35 rfl (lv_at hl 1 rfl) ?_
      refine lv_iload_n hx hb d_Mod_waitsAt_36 rfl (lv_at hl 2 rfl) ?_
      refine lv_iload_n hx hb d_Mod_waitsAt_37 rfl (lv_at hl 0 rfl) ?_
      refine call_Vi1 (own := "HamperClubModel") (As := [.int p1, .int x1]) (rest := []) (q0 := 0) (ci := 9) hx hb hml hts hown hK hA hP hD hS ok_Mod_95 rfl ⟨Nat.le_of_ble_eq_true rfl, Nat.le_of_ble_eq_true rfl⟩ ⟨Nat.le_of_ble_eq_true rfl, Nat.le_of_ble_eq_true rfl⟩ rfl rfl rfl hl.1 rfl (Nat.le_of_ble_eq_true rfl) d_Mod_waitsAt_38 (c_Mod_placeOf l G ad _ u p1 x1 _ h) (fun x3 u2 H locs h hP hD hS => ?_)
      refine lv_iconst (v := 1) hx hb d_Mod_waitsAt_41 (by decide) ?_
      refine lv_iadd hx hb d_Mod_waitsAt_42 ?_
      exact r_iret hx hb hr hlocks hP hD hS d_Mod_waitsAt_43 h
    · have h := h.1 hc
      refine lv_iconst (v := 0) hx hb d_Mod_waitsAt_31 (by decide) ?_
      refine lv_goto (tgt := 43) hx hb d_Mod_waitsAt_32 (by decide) ?_
      exact r_iret hx hb hr hlocks hP hD hS d_Mod_waitsAt_43 h
def wp_Mod_isGood (u : RS) (p1 : Int32) (p2 : Int32) (Post : Int32 → RS → Prop) : Prop := (wp_Mod_isMember u p1 (fun x2 u1 => ((x2 = 0 → Post (-1) u1) ∧ (¬ x2 = 0 → (((pf_Mod_in p2 0 60) = 0 → Post (-1) u1) ∧ (¬ (pf_Mod_in p2 0 60) = 0 → (wp_Mod_isGoodWeek u1 p1 p2 (fun x4 u3 => ((x4 = 0 → Post 0 u3) ∧ (¬ x4 = 0 → Post 1 u3))))))))))
set_option maxHeartbeats 4000000 in
set_option maxRecDepth 100000 in
theorem c_Mod_isGood (l : Launch) (G : GG) (ad : Nat → Nat) (sz : Nat) (u : RS) (p1 : Int32) (p2 : Int32) (Post : Int32 → RS → Prop) (h : wp_Mod_isGood u p1 p2 Post) : CMi l y_Mod_isGood b_Mod_isGood 3 .int 2 G [.ref (ad 0), .int p1, .int p2] sz (refW G ad u) (refW G ad) Post := by
  refine CMi.start (by decide) (Nat.le_of_ble_eq_true rfl) (fun p e s m below meth c A ls hx hb hr hts hown hml hlocks hA hS hP hD hK hl => ?_)
  unfold wp_Mod_isGood at h
  have hl : lv_has ls 3 [(0, .ref (ad 0)), (1, .int p1), (2, .int p2)] := hl
  refine lv_aload_n hx hb d_Mod_isGood_0 rfl (lv_at hl 0 rfl) ?_
  refine lv_iload_n hx hb d_Mod_isGood_1 rfl (lv_at hl 1 rfl) ?_
  refine call_Vi1 (own := "HamperClubModel") (As := [.int p1]) (rest := []) (q0 := 0) (ci := 9) hx hb hml hts hown hK hA hP hD hS ok_Mod_46 rfl ⟨Nat.le_of_ble_eq_true rfl, Nat.le_of_ble_eq_true rfl⟩ ⟨Nat.le_of_ble_eq_true rfl, Nat.le_of_ble_eq_true rfl⟩ rfl rfl rfl hl.1 rfl (Nat.le_of_ble_eq_true rfl) d_Mod_isGood_2 (c_Mod_isMember l G ad _ u p1 _ h) (fun x2 u1 H locs h hP hD hS => ?_)
  refine lv_if_eq (tgt := 18) hx hb d_Mod_isGood_5 (by decide) (fun hc => ?_) (fun hc => ?_)
  · have h := h.1 hc
    refine lv_iconst (v := (-1)) hx hb d_Mod_isGood_18 (by decide) ?_
    exact r_iret hx hb hr hlocks hP hD hS d_Mod_isGood_19 h
  · have h := h.2 hc
    refine lv_iload_n hx hb d_Mod_isGood_8 rfl (lv_at hl 2 rfl) ?_
    refine lv_iconst (v := 0) hx hb d_Mod_isGood_9 (by decide) ?_
    refine lv_bipush (v := 60) hx hb d_Mod_isGood_10 (by decide) ?_
    refine call_S (As := [.int p2, .int 0, .int 60]) (rest := []) hx hb hml hts hown so_Mod_24 rfl ⟨Nat.le_of_ble_eq_true rfl, Nat.le_of_ble_eq_true rfl⟩ ⟨Nat.le_of_ble_eq_true rfl, Nat.le_of_ble_eq_true rfl⟩ hl.1 rfl (Nat.le_of_ble_eq_true rfl) d_Mod_isGood_12 (k_Mod_in l p2 0 60) ?_
    refine lv_if_ne (tgt := 20) hx hb d_Mod_isGood_15 (by decide) (fun hc => ?_) (fun hc => ?_)
    · have h := h.2 hc
      refine lv_aload_n hx hb d_Mod_isGood_20 rfl (lv_at hl 0 rfl) ?_
      refine lv_iload_n hx hb d_Mod_isGood_21 rfl (lv_at hl 1 rfl) ?_
      refine lv_iload_n hx hb d_Mod_isGood_22 rfl (lv_at hl 2 rfl) ?_
      refine call_Vi1 (own := "HamperClubModel") (As := [.int p1, .int p2]) (rest := []) (q0 := 0) (ci := 9) hx hb hml hts hown hK hA hP hD hS ok_Mod_53 rfl ⟨Nat.le_of_ble_eq_true rfl, Nat.le_of_ble_eq_true rfl⟩ ⟨Nat.le_of_ble_eq_true rfl, Nat.le_of_ble_eq_true rfl⟩ rfl rfl rfl hl.1 rfl (Nat.le_of_ble_eq_true rfl) d_Mod_isGood_23 (c_Mod_isGoodWeek l G ad _ u1 p1 p2 _ h) (fun x4 u3 H locs h hP hD hS => ?_)
      refine lv_if_eq (tgt := 33) hx hb d_Mod_isGood_26 (by decide) (fun hc => ?_) (fun hc => ?_)
      · have h := h.1 hc
        refine lv_iconst (v := 0) hx hb d_Mod_isGood_33 (by decide) ?_
        exact r_iret hx hb hr hlocks hP hD hS d_Mod_isGood_34 h
      · have h := h.2 hc
        refine lv_iconst (v := 1) hx hb d_Mod_isGood_29 (by decide) ?_
        refine lv_goto (tgt := 34) hx hb d_Mod_isGood_30 (by decide) ?_
        exact r_iret hx hb hr hlocks hP hD hS d_Mod_isGood_34 h
    · have h := h.1 hc
      refine lv_iconst (v := (-1)) hx hb d_Mod_isGood_18 (by decide) ?_
      exact r_iret hx hb hr hlocks hP hD hS d_Mod_isGood_19 h
def wp_Mod_hamper (u : RS) (p1 : Int32) (p2 : Int32) (Post : Int32 → RS → Prop) : Prop := (((pf_Mod_isKind p1) = 0 → Post (-1) u) ∧ (¬ (pf_Mod_isKind p1) = 0 → (((pf_Mod_in p2 0 3) = 0 → Post (-1) u) ∧ (¬ (pf_Mod_in p2 0 3) = 0 → ((2 ≤ p2 → ((p2 = 2 → (wp_Mod_keptOf u p1 (fun x2 u1 => Post x2 u1))) ∧ (¬ p2 = 2 → (vp_in (pf_Mod_ofKind p1 2) 4306 ∧ Post (u.1 (pf_Mod_ofKind p1 2).toNatClampNeg) u)))) ∧ (¬ 2 ≤ p2 → (vp_in (pf_Mod_ofKind p1 p2) 4306 ∧ Post (u.1 (pf_Mod_ofKind p1 p2).toNatClampNeg) u)))))))
theorem ok_Mod_177 : CallOk y_Mod_keptOf b_Mod_keptOf 4 (some .int) 1 1 "HamperClubModel" 177 := ⟨tb_927, tb_929, sl_50, tb_12, tb_930, by decide +kernel⟩
set_option maxHeartbeats 4000000 in
set_option maxRecDepth 100000 in
theorem c_Mod_hamper (l : Launch) (G : GG) (ad : Nat → Nat) (sz : Nat) (u : RS) (p1 : Int32) (p2 : Int32) (Post : Int32 → RS → Prop) (h : wp_Mod_hamper u p1 p2 Post) : CMi l y_Mod_hamper b_Mod_hamper 3 .int 2 G [.ref (ad 0), .int p1, .int p2] sz (refW G ad u) (refW G ad) Post := by
  refine CMi.start (by decide) (Nat.le_of_ble_eq_true rfl) (fun p e s m below meth c A ls hx hb hr hts hown hml hlocks hA hS hP hD hK hl => ?_)
  unfold wp_Mod_hamper at h
  have hl : lv_has ls 3 [(0, .ref (ad 0)), (1, .int p1), (2, .int p2)] := hl
  refine lv_iload_n hx hb d_Mod_hamper_0 rfl (lv_at hl 1 rfl) ?_
  refine call_S (As := [.int p1]) (rest := []) hx hb hml hts hown so_Mod_86 rfl ⟨Nat.le_of_ble_eq_true rfl, Nat.le_of_ble_eq_true rfl⟩ ⟨Nat.le_of_ble_eq_true rfl, Nat.le_of_ble_eq_true rfl⟩ hl.1 rfl (Nat.le_of_ble_eq_true rfl) d_Mod_hamper_1 (k_Mod_isKind l p1) ?_
  refine lv_if_eq (tgt := 16) hx hb d_Mod_hamper_4 (by decide) (fun hc => ?_) (fun hc => ?_)
  · have h := h.1 hc
    refine lv_iconst (v := (-1)) hx hb d_Mod_hamper_16 (by decide) ?_
    exact r_iret hx hb hr hlocks hP hD hS d_Mod_hamper_17 h
  · have h := h.2 hc
    refine lv_iload_n hx hb d_Mod_hamper_7 rfl (lv_at hl 2 rfl) ?_
    refine lv_iconst (v := 0) hx hb d_Mod_hamper_8 (by decide) ?_
    refine lv_iconst (v := 3) hx hb d_Mod_hamper_9 (by decide) ?_
    refine call_S (As := [.int p2, .int 0, .int 3]) (rest := []) hx hb hml hts hown so_Mod_24 rfl ⟨Nat.le_of_ble_eq_true rfl, Nat.le_of_ble_eq_true rfl⟩ ⟨Nat.le_of_ble_eq_true rfl, Nat.le_of_ble_eq_true rfl⟩ hl.1 rfl (Nat.le_of_ble_eq_true rfl) d_Mod_hamper_10 (k_Mod_in l p2 0 3) ?_
    refine lv_if_ne (tgt := 18) hx hb d_Mod_hamper_13 (by decide) (fun hc => ?_) (fun hc => ?_)
    · have h := h.2 hc
      refine lv_iload_n hx hb d_Mod_hamper_18 rfl (lv_at hl 2 rfl) ?_
      refine lv_iconst (v := 2) hx hb d_Mod_hamper_19 (by decide) ?_
      refine lv_icmp_ge (tgt := 36) hx hb d_Mod_hamper_20 (by decide) (fun hc => ?_) (fun hc => ?_)
      · have h := h.1 hc
        refine lv_iload_n hx hb d_Mod_hamper_36 rfl (lv_at hl 2 rfl) ?_
        refine lv_iconst (v := 2) hx hb d_Mod_hamper_37 (by decide) ?_
        refine lv_icmp_ne (tgt := 49) hx hb d_Mod_hamper_38 (by decide) (fun hc => ?_) (fun hc => ?_)
        · have h := h.2 hc
          refine lv_aload_n hx hb d_Mod_hamper_49 rfl (lv_at hl 0 rfl) ?_
          refine gR_Mod_row hx hb hts hown hK hP tb_653 d_Mod_hamper_50 ?_
          refine lv_iload_n hx hb d_Mod_hamper_53 rfl (lv_at hl 1 rfl) ?_
          refine lv_iconst (v := 2) hx hb d_Mod_hamper_54 (by decide) ?_
          refine call_S (As := [.int p1, .int 2]) (rest := [.ref (ad 1)]) hx hb hml hts hown so_Mod_20 rfl ⟨Nat.le_of_ble_eq_true rfl, Nat.le_of_ble_eq_true rfl⟩ ⟨Nat.le_of_ble_eq_true rfl, Nat.le_of_ble_eq_true rfl⟩ hl.1 rfl (Nat.le_of_ble_eq_true rfl) d_Mod_hamper_55 (k_Mod_ofKind l p1 2) ?_
          obtain ⟨hi, h⟩ := h
          refine lR_1 hx hb hK hP hi d_Mod_hamper_58 ?_
          exact r_iret hx hb hr hlocks hP hD hS d_Mod_hamper_59 h
        · have h := h.1 hc
          refine lv_aload_n hx hb d_Mod_hamper_41 rfl (lv_at hl 0 rfl) ?_
          refine lv_iload_n hx hb d_Mod_hamper_42 rfl (lv_at hl 1 rfl) ?_
          refine call_Vi1 (own := "HamperClubModel") (As := [.int p1]) (rest := []) (q0 := 0) (ci := 9) hx hb hml hts hown hK hA hP hD hS ok_Mod_177 rfl ⟨Nat.le_of_ble_eq_true rfl, Nat.le_of_ble_eq_true rfl⟩ ⟨Nat.le_of_ble_eq_true rfl, Nat.le_of_ble_eq_true rfl⟩ rfl rfl rfl hl.1 rfl (Nat.le_of_ble_eq_true rfl) d_Mod_hamper_43 (c_Mod_keptOf l G ad _ u p1 _ h) (fun x2 u1 H locs h hP hD hS => ?_)
          refine lv_goto (tgt := 59) hx hb d_Mod_hamper_46 (by decide) ?_
          exact r_iret hx hb hr hlocks hP hD hS d_Mod_hamper_59 h
      · have h := h.2 hc
        refine lv_aload_n hx hb d_Mod_hamper_23 rfl (lv_at hl 0 rfl) ?_
        refine gR_Mod_row hx hb hts hown hK hP tb_653 d_Mod_hamper_24 ?_
        refine lv_iload_n hx hb d_Mod_hamper_27 rfl (lv_at hl 1 rfl) ?_
        refine lv_iload_n hx hb d_Mod_hamper_28 rfl (lv_at hl 2 rfl) ?_
        refine call_S (As := [.int p1, .int p2]) (rest := [.ref (ad 1)]) hx hb hml hts hown so_Mod_20 rfl ⟨Nat.le_of_ble_eq_true rfl, Nat.le_of_ble_eq_true rfl⟩ ⟨Nat.le_of_ble_eq_true rfl, Nat.le_of_ble_eq_true rfl⟩ hl.1 rfl (Nat.le_of_ble_eq_true rfl) d_Mod_hamper_29 (k_Mod_ofKind l p1 p2) ?_
        obtain ⟨hi, h⟩ := h
        refine lR_1 hx hb hK hP hi d_Mod_hamper_32 ?_
        refine lv_goto (tgt := 59) hx hb d_Mod_hamper_33 (by decide) ?_
        exact r_iret hx hb hr hlocks hP hD hS d_Mod_hamper_59 h
    · have h := h.1 hc
      refine lv_iconst (v := (-1)) hx hb d_Mod_hamper_16 (by decide) ?_
      exact r_iret hx hb hr hlocks hP hD hS d_Mod_hamper_17 h
def wp_Mod_waiting (u : RS) (p1 : Int32) (p2 : Int32) (Post : Int32 → RS → Prop) : Prop := (((pf_Mod_isKind p1) = 0 → Post (-1) u) ∧ (¬ (pf_Mod_isKind p1) = 0 → ((0 ≤ p2 → (vp_in (pf_Mod_ofKind p1 2) 4306 ∧ (((u.1 (pf_Mod_ofKind p1 2).toNatClampNeg) ≤ p2 → Post (-9) u) ∧ (¬ (u.1 (pf_Mod_ofKind p1 2).toNatClampNeg) ≤ p2 → (vp_in (pf_Mod_ofKind p1 (3 + p2)) 4306 ∧ Post (u.1 (pf_Mod_ofKind p1 (3 + p2)).toNatClampNeg) u))))) ∧ (¬ 0 ≤ p2 → Post (-1) u))))
set_option maxHeartbeats 4000000 in
set_option maxRecDepth 100000 in
theorem c_Mod_waiting (l : Launch) (G : GG) (ad : Nat → Nat) (sz : Nat) (u : RS) (p1 : Int32) (p2 : Int32) (Post : Int32 → RS → Prop) (h : wp_Mod_waiting u p1 p2 Post) : CMi l y_Mod_waiting b_Mod_waiting 3 .int 2 G [.ref (ad 0), .int p1, .int p2] sz (refW G ad u) (refW G ad) Post := by
  refine CMi.start (by decide) (Nat.le_of_ble_eq_true rfl) (fun p e s m below meth c A ls hx hb hr hts hown hml hlocks hA hS hP hD hK hl => ?_)
  unfold wp_Mod_waiting at h
  have hl : lv_has ls 3 [(0, .ref (ad 0)), (1, .int p1), (2, .int p2)] := hl
  refine lv_iload_n hx hb d_Mod_waiting_0 rfl (lv_at hl 1 rfl) ?_
  refine call_S (As := [.int p1]) (rest := []) hx hb hml hts hown so_Mod_86 rfl ⟨Nat.le_of_ble_eq_true rfl, Nat.le_of_ble_eq_true rfl⟩ ⟨Nat.le_of_ble_eq_true rfl, Nat.le_of_ble_eq_true rfl⟩ hl.1 rfl (Nat.le_of_ble_eq_true rfl) d_Mod_waiting_1 (k_Mod_isKind l p1) ?_
  refine lv_if_eq (tgt := 11) hx hb d_Mod_waiting_4 (by decide) (fun hc => ?_) (fun hc => ?_)
  · have h := h.1 hc
    refine lv_iconst (v := (-1)) hx hb d_Mod_waiting_11 (by decide) ?_
    exact r_iret hx hb hr hlocks hP hD hS d_Mod_waiting_12 h
  · have h := h.2 hc
    refine lv_iload_n hx hb d_Mod_waiting_7 rfl (lv_at hl 2 rfl) ?_
    refine lv_if_ge (tgt := 13) hx hb d_Mod_waiting_8 (by decide) (fun hc => ?_) (fun hc => ?_)
    · have h := h.1 hc
      refine lv_iload_n hx hb d_Mod_waiting_13 rfl (lv_at hl 2 rfl) ?_
      refine lv_aload_n hx hb d_Mod_waiting_14 rfl (lv_at hl 0 rfl) ?_
      refine gR_Mod_row hx hb hts hown hK hP tb_653 d_Mod_waiting_15 ?_
      refine lv_iload_n hx hb d_Mod_waiting_18 rfl (lv_at hl 1 rfl) ?_
      refine lv_iconst (v := 2) hx hb d_Mod_waiting_19 (by decide) ?_
      refine call_S (As := [.int p1, .int 2]) (rest := [.ref (ad 1), .int p2]) hx hb hml hts hown so_Mod_20 rfl ⟨Nat.le_of_ble_eq_true rfl, Nat.le_of_ble_eq_true rfl⟩ ⟨Nat.le_of_ble_eq_true rfl, Nat.le_of_ble_eq_true rfl⟩ hl.1 rfl (Nat.le_of_ble_eq_true rfl) d_Mod_waiting_20 (k_Mod_ofKind l p1 2) ?_
      obtain ⟨hi, h⟩ := h
      refine lR_1 hx hb hK hP hi d_Mod_waiting_23 ?_
      refine lv_icmp_ge (tgt := 42) hx hb d_Mod_waiting_24 (by decide) (fun hc => ?_) (fun hc => ?_)
      · have h := h.1 hc
        refine lv_bipush (v := (-9)) hx hb d_Mod_waiting_42 (by decide) ?_
        exact r_iret hx hb hr hlocks hP hD hS d_Mod_waiting_44 h
      · have h := h.2 hc
        refine lv_aload_n hx hb d_Mod_waiting_27 rfl (lv_at hl 0 rfl) ?_
        refine gR_Mod_row hx hb hts hown hK hP tb_653 d_Mod_waiting_28 ?_
        refine lv_iload_n hx hb d_Mod_waiting_31 rfl (lv_at hl 1 rfl) ?_
        refine lv_iconst (v := 3) hx hb d_Mod_waiting_32 (by decide) ?_
        refine lv_iload_n hx hb d_Mod_waiting_33 rfl (lv_at hl 2 rfl) ?_
        refine lv_iadd hx hb d_Mod_waiting_34 ?_
        refine call_S (As := [.int p1, .int (3 + p2)]) (rest := [.ref (ad 1)]) hx hb hml hts hown so_Mod_20 rfl ⟨Nat.le_of_ble_eq_true rfl, Nat.le_of_ble_eq_true rfl⟩ ⟨Nat.le_of_ble_eq_true rfl, Nat.le_of_ble_eq_true rfl⟩ hl.1 rfl (Nat.le_of_ble_eq_true rfl) d_Mod_waiting_35 (k_Mod_ofKind l p1 (3 + p2)) ?_
        obtain ⟨hi, h⟩ := h
        refine lR_1 hx hb hK hP hi d_Mod_waiting_38 ?_
        refine lv_goto (tgt := 44) hx hb d_Mod_waiting_39 (by decide) ?_
        exact r_iret hx hb hr hlocks hP hD hS d_Mod_waiting_44 h
    · have h := h.2 hc
      refine lv_iconst (v := (-1)) hx hb d_Mod_waiting_11 (by decide) ?_
      exact r_iret hx hb hr hlocks hP hD hS d_Mod_waiting_12 h
def wp_Mod_weeksFor (u : RS) (p1 : Int32) (p2 : Int32) (p3 : Int32) (Post : Int32 → RS → Prop) : Prop := (wp_Mod_isMember u p1 (fun x2 u1 => ((x2 = 0 → Post (-1) u1) ∧ (¬ x2 = 0 → (((pf_Mod_isKind p2) = 0 → Post (-1) u1) ∧ (¬ (pf_Mod_isKind p2) = 0 → (((pf_Mod_in p3 1 5) = 0 → Post (-1) u1) ∧ (¬ (pf_Mod_in p3 1 5) = 0 → (wp_Mod_isInHand u1 p1 (fun x4 u3 => ((x4 = 0 → Post (-2) u3) ∧ (¬ x4 = 0 → (vp_in (pf_Mod_ofKind p2 0) 4306 ∧ (vp_in (pf_Mod_of p1 0) 4306 ∧ (∀ x5 : Int32, x5 = ((u3.1 (pf_Mod_ofKind p2 0).toNatClampNeg) - (u3.1 (pf_Mod_of p1 0).toNatClampNeg)) → (wp_Mod_isGoodWeek u3 p1 (u3.1 (0 : Int32).toNatClampNeg) (fun x7 u6 => ((x7 = 0 → (∀ x8 : Int32, x8 = (x5 - p3) → ((0 < x8 → (¬ p3 = 0 ∧ Post (((x8 + p3) - 1) / p3) u6)) ∧ (¬ 0 < x8 → Post 0 u6)))) ∧ (¬ x7 = 0 → (∀ x9 : Int32, x9 = (x5 - 0) → ((0 < x9 → (¬ p3 = 0 ∧ Post (((x9 + p3) - 1) / p3) u6)) ∧ (¬ 0 < x9 → Post 0 u6))))))))))))))))))))))
set_option maxHeartbeats 4000000 in
set_option maxRecDepth 100000 in
theorem c_Mod_weeksFor (l : Launch) (G : GG) (ad : Nat → Nat) (sz : Nat) (u : RS) (p1 : Int32) (p2 : Int32) (p3 : Int32) (Post : Int32 → RS → Prop) (h : wp_Mod_weeksFor u p1 p2 p3 Post) : CMi l y_Mod_weeksFor b_Mod_weeksFor 5 .int 2 G [.ref (ad 0), .int p1, .int p2, .int p3] sz (refW G ad u) (refW G ad) Post := by
  refine CMi.start (by decide) (Nat.le_of_ble_eq_true rfl) (fun p e s m below meth c A ls hx hb hr hts hown hml hlocks hA hS hP hD hK hl => ?_)
  unfold wp_Mod_weeksFor at h
  have hl : lv_has ls 5 [(0, .ref (ad 0)), (1, .int p1), (2, .int p2), (3, .int p3)] := hl
  refine lv_aload_n hx hb d_Mod_weeksFor_0 rfl (lv_at hl 0 rfl) ?_
  refine lv_iload_n hx hb d_Mod_weeksFor_1 rfl (lv_at hl 1 rfl) ?_
  refine call_Vi1 (own := "HamperClubModel") (As := [.int p1]) (rest := []) (q0 := 0) (ci := 9) hx hb hml hts hown hK hA hP hD hS ok_Mod_46 rfl ⟨Nat.le_of_ble_eq_true rfl, Nat.le_of_ble_eq_true rfl⟩ ⟨Nat.le_of_ble_eq_true rfl, Nat.le_of_ble_eq_true rfl⟩ rfl rfl rfl hl.1 rfl (Nat.le_of_ble_eq_true rfl) d_Mod_weeksFor_2 (c_Mod_isMember l G ad _ u p1 _ h) (fun x2 u1 H locs h hP hD hS => ?_)
  refine lv_if_eq (tgt := 24) hx hb d_Mod_weeksFor_5 (by decide) (fun hc => ?_) (fun hc => ?_)
  · have h := h.1 hc
    refine lv_iconst (v := (-1)) hx hb d_Mod_weeksFor_24 (by decide) ?_
    exact r_iret hx hb hr hlocks hP hD hS d_Mod_weeksFor_25 h
  · have h := h.2 hc
    refine lv_iload_n hx hb d_Mod_weeksFor_8 rfl (lv_at hl 2 rfl) ?_
    refine call_S (As := [.int p2]) (rest := []) hx hb hml hts hown so_Mod_86 rfl ⟨Nat.le_of_ble_eq_true rfl, Nat.le_of_ble_eq_true rfl⟩ ⟨Nat.le_of_ble_eq_true rfl, Nat.le_of_ble_eq_true rfl⟩ hl.1 rfl (Nat.le_of_ble_eq_true rfl) d_Mod_weeksFor_9 (k_Mod_isKind l p2) ?_
    refine lv_if_eq (tgt := 24) hx hb d_Mod_weeksFor_12 (by decide) (fun hc => ?_) (fun hc => ?_)
    · have h := h.1 hc
      refine lv_iconst (v := (-1)) hx hb d_Mod_weeksFor_24 (by decide) ?_
      exact r_iret hx hb hr hlocks hP hD hS d_Mod_weeksFor_25 h
    · have h := h.2 hc
      refine lv_iload_n hx hb d_Mod_weeksFor_15 rfl (lv_at hl 3 rfl) ?_
      refine lv_iconst (v := 1) hx hb d_Mod_weeksFor_16 (by decide) ?_
      refine lv_iconst (v := 5) hx hb d_Mod_weeksFor_17 (by decide) ?_
      refine call_S (As := [.int p3, .int 1, .int 5]) (rest := []) hx hb hml hts hown so_Mod_24 rfl ⟨Nat.le_of_ble_eq_true rfl, Nat.le_of_ble_eq_true rfl⟩ ⟨Nat.le_of_ble_eq_true rfl, Nat.le_of_ble_eq_true rfl⟩ hl.1 rfl (Nat.le_of_ble_eq_true rfl) d_Mod_weeksFor_18 (k_Mod_in l p3 1 5) ?_
      refine lv_if_ne (tgt := 26) hx hb d_Mod_weeksFor_21 (by decide) (fun hc => ?_) (fun hc => ?_)
      · have h := h.2 hc
        refine lv_aload_n hx hb d_Mod_weeksFor_26 rfl (lv_at hl 0 rfl) ?_
        refine lv_iload_n hx hb d_Mod_weeksFor_27 rfl (lv_at hl 1 rfl) ?_
        refine call_Vi1 (own := "HamperClubModel") (As := [.int p1]) (rest := []) (q0 := 0) (ci := 9) hx hb hml hts hown hK hA hP hD hS ok_Mod_50 rfl ⟨Nat.le_of_ble_eq_true rfl, Nat.le_of_ble_eq_true rfl⟩ ⟨Nat.le_of_ble_eq_true rfl, Nat.le_of_ble_eq_true rfl⟩ rfl rfl rfl hl.1 rfl (Nat.le_of_ble_eq_true rfl) d_Mod_weeksFor_28 (c_Mod_isInHand l G ad _ u1 p1 _ h) (fun x4 u3 H locs h hP hD hS => ?_)
        refine lv_if_ne (tgt := 37) hx hb d_Mod_weeksFor_31 (by decide) (fun hc => ?_) (fun hc => ?_)
        · have h := h.2 hc
          refine lv_aload_n hx hb d_Mod_weeksFor_37 rfl (lv_at hl 0 rfl) ?_
          refine gR_Mod_row hx hb hts hown hK hP tb_653 d_Mod_weeksFor_38 ?_
          refine lv_iload_n hx hb d_Mod_weeksFor_41 rfl (lv_at hl 2 rfl) ?_
          refine lv_iconst (v := 0) hx hb d_Mod_weeksFor_42 (by decide) ?_
          refine call_S (As := [.int p2, .int 0]) (rest := [.ref (ad 1)]) hx hb hml hts hown so_Mod_20 rfl ⟨Nat.le_of_ble_eq_true rfl, Nat.le_of_ble_eq_true rfl⟩ ⟨Nat.le_of_ble_eq_true rfl, Nat.le_of_ble_eq_true rfl⟩ hl.1 rfl (Nat.le_of_ble_eq_true rfl) d_Mod_weeksFor_43 (k_Mod_ofKind l p2 0) ?_
          obtain ⟨hi, h⟩ := h
          refine lR_1 hx hb hK hP hi d_Mod_weeksFor_46 ?_
          refine lv_aload_n hx hb d_Mod_weeksFor_47 rfl (lv_at hl 0 rfl) ?_
          refine gR_Mod_row hx hb hts hown hK hP tb_653 d_Mod_weeksFor_48 ?_
          refine lv_iload_n hx hb d_Mod_weeksFor_51 rfl (lv_at hl 1 rfl) ?_
          refine lv_iconst (v := 0) hx hb d_Mod_weeksFor_52 (by decide) ?_
          refine call_S (As := [.int p1, .int 0]) (rest := [.ref (ad 1), .int (u3.1 (pf_Mod_ofKind p2 0).toNatClampNeg)]) hx hb hml hts hown so_Mod_43 rfl ⟨Nat.le_of_ble_eq_true rfl, Nat.le_of_ble_eq_true rfl⟩ ⟨Nat.le_of_ble_eq_true rfl, Nat.le_of_ble_eq_true rfl⟩ hl.1 rfl (Nat.le_of_ble_eq_true rfl) d_Mod_weeksFor_53 (k_Mod_of l p1 0) ?_
          obtain ⟨hi, h⟩ := h
          refine lR_1 hx hb hK hP hi d_Mod_weeksFor_56 ?_
          refine lv_isub hx hb d_Mod_weeksFor_57 ?_
          refine lv_topi (fun x5 ex5 => ?_)
          have h := h x5 ex5
          refine lv_istore (lv' := [(4, .int x5), (0, .ref (ad 0)), (1, .int p1), (2, .int p2), (3, .int p3)]) hx hb d_Mod_weeksFor_58 hl (by decide) rfl (fun ls hl => ?_)
          refine lv_iload hx hb d_Mod_weeksFor_60 (lv_at hl 0 rfl) ?_
          refine lv_aload_n hx hb d_Mod_weeksFor_62 rfl (lv_at hl 1 rfl) ?_
          refine lv_iload_n hx hb d_Mod_weeksFor_63 rfl (lv_at hl 2 rfl) ?_
          refine lv_aload_n hx hb d_Mod_weeksFor_64 rfl (lv_at hl 1 rfl) ?_
          refine gR_Mod_row hx hb hts hown hK hP tb_653 d_Mod_weeksFor_65 ?_
          refine lv_iconst (v := 0) hx hb d_Mod_weeksFor_68 (by decide) ?_
          refine lR_1 hx hb hK hP (by unfold vp_in; decide) d_Mod_weeksFor_69 ?_
          refine call_Vi1 (own := "HamperClubModel") (As := [.int p1, .int (u3.1 (0 : Int32).toNatClampNeg)]) (rest := [.int x5]) (q0 := 0) (ci := 9) hx hb hml hts hown hK hA hP hD hS ok_Mod_53 rfl ⟨Nat.le_of_ble_eq_true rfl, Nat.le_of_ble_eq_true rfl⟩ ⟨Nat.le_of_ble_eq_true rfl, Nat.le_of_ble_eq_true rfl⟩ rfl rfl rfl hl.1 rfl (Nat.le_of_ble_eq_true rfl) d_Mod_weeksFor_70 (c_Mod_isGoodWeek l G ad _ u3 p1 (u3.1 (0 : Int32).toNatClampNeg) _ h) (fun x7 u6 H locs h hP hD hS => ?_)
          refine lv_if_eq (tgt := 80) hx hb d_Mod_weeksFor_73 (by decide) (fun hc => ?_) (fun hc => ?_)
          · have h := h.1 hc
            refine lv_iload_n hx hb d_Mod_weeksFor_80 rfl (lv_at hl 4 rfl) ?_
            refine lv_isub hx hb d_Mod_weeksFor_81 ?_
            refine lv_topi (fun x8 ex8 => ?_)
            have h := h x8 ex8
            refine lv_istore (lv' := [(4, .int x8), (0, .ref (ad 0)), (1, .int p1), (2, .int p2), (3, .int p3)]) hx hb d_Mod_weeksFor_82 hl (by decide) rfl (fun ls hl => ?_)
            refine lv_iload hx hb d_Mod_weeksFor_84 (lv_at hl 0 rfl) ?_
            refine lv_if_gt (tgt := 93) hx hb d_Mod_weeksFor_86 (by decide) (fun hc => ?_) (fun hc => ?_)
            · have h := h.1 hc
              refine lv_iload hx hb d_Mod_weeksFor_93 (lv_at hl 0 rfl) ?_
              refine lv_iload_n hx hb d_Mod_weeksFor_95 rfl (lv_at hl 4 rfl) ?_
              refine lv_iadd hx hb d_Mod_weeksFor_96 ?_
              refine lv_iconst (v := 1) hx hb d_Mod_weeksFor_97 (by decide) ?_
              refine lv_isub hx hb d_Mod_weeksFor_98 ?_
              refine lv_iload_n hx hb d_Mod_weeksFor_99 rfl (lv_at hl 4 rfl) ?_
              obtain ⟨hne, h⟩ := h
              refine lv_idiv hx hb d_Mod_weeksFor_100 hne ?_
              exact r_iret hx hb hr hlocks hP hD hS d_Mod_weeksFor_101 h
            · have h := h.2 hc
              refine lv_iconst (v := 0) hx hb d_Mod_weeksFor_89 (by decide) ?_
              refine lv_goto (tgt := 101) hx hb d_Mod_weeksFor_90 (by decide) ?_
              exact r_iret hx hb hr hlocks hP hD hS d_Mod_weeksFor_101 h
          · have h := h.2 hc
            refine lv_iconst (v := 0) hx hb d_Mod_weeksFor_76 (by decide) ?_
            refine lv_goto (tgt := 81) hx hb d_Mod_weeksFor_77 (by decide) ?_
            refine lv_isub hx hb d_Mod_weeksFor_81 ?_
            refine lv_topi (fun x9 ex9 => ?_)
            have h := h x9 ex9
            refine lv_istore (lv' := [(4, .int x9), (0, .ref (ad 0)), (1, .int p1), (2, .int p2), (3, .int p3)]) hx hb d_Mod_weeksFor_82 hl (by decide) rfl (fun ls hl => ?_)
            refine lv_iload hx hb d_Mod_weeksFor_84 (lv_at hl 0 rfl) ?_
            refine lv_if_gt (tgt := 93) hx hb d_Mod_weeksFor_86 (by decide) (fun hc => ?_) (fun hc => ?_)
            · have h := h.1 hc
              refine lv_iload hx hb d_Mod_weeksFor_93 (lv_at hl 0 rfl) ?_
              refine lv_iload_n hx hb d_Mod_weeksFor_95 rfl (lv_at hl 4 rfl) ?_
              refine lv_iadd hx hb d_Mod_weeksFor_96 ?_
              refine lv_iconst (v := 1) hx hb d_Mod_weeksFor_97 (by decide) ?_
              refine lv_isub hx hb d_Mod_weeksFor_98 ?_
              refine lv_iload_n hx hb d_Mod_weeksFor_99 rfl (lv_at hl 4 rfl) ?_
              obtain ⟨hne, h⟩ := h
              refine lv_idiv hx hb d_Mod_weeksFor_100 hne ?_
              exact r_iret hx hb hr hlocks hP hD hS d_Mod_weeksFor_101 h
            · have h := h.2 hc
              refine lv_iconst (v := 0) hx hb d_Mod_weeksFor_89 (by decide) ?_
              refine lv_goto (tgt := 101) hx hb d_Mod_weeksFor_90 (by decide) ?_
              exact r_iret hx hb hr hlocks hP hD hS d_Mod_weeksFor_101 h
        · have h := h.1 hc
          refine lv_bipush (v := (-2)) hx hb d_Mod_weeksFor_34 (by decide) ?_
          exact r_iret hx hb hr hlocks hP hD hS d_Mod_weeksFor_36 h
      · have h := h.1 hc
        refine lv_iconst (v := (-1)) hx hb d_Mod_weeksFor_24 (by decide) ?_
        exact r_iret hx hb hr hlocks hP hD hS d_Mod_weeksFor_25 h
def wp_Mod_stick (u : RS) (p1 : Int32) (p2 : Int32) (Post : Int32 → RS → Prop) : Prop := (wp_Mod_noStick u p1 p2 (fun x2 u1 => ((x2 = 0 → (wp_Mod_record u1  (fun u3 => (wp_Mod_doStick u3 p1 p2 (fun x5 u4 => Post x5 u4))))) ∧ (¬ x2 = 0 → Post x2 u1))))
theorem ok_Mod_57 : CallOk y_Mod_noStick b_Mod_noStick 3 (some .int) 2 2 "HamperClubModel" 57 := ⟨tb_720, tb_722, sl_14, tb_12, tb_723, by decide +kernel⟩
theorem ok_Mod_60 : CallOk y_Mod_doStick b_Mod_doStick 3 (some .int) 1 2 "HamperClubModel" 60 := ⟨tb_736, tb_738, sl_18, tb_12, tb_739, by decide +kernel⟩
set_option maxHeartbeats 4000000 in
set_option maxRecDepth 100000 in
theorem c_Mod_stick (l : Launch) (G : GG) (ad : Nat → Nat) (sz : Nat) (u : RS) (p1 : Int32) (p2 : Int32) (Post : Int32 → RS → Prop) (h : wp_Mod_stick u p1 p2 Post) : CMi l y_Mod_stick b_Mod_stick 4 .int 3 G [.ref (ad 0), .int p1, .int p2] sz (refW G ad u) (refW G ad) Post := by
  refine CMi.start (by decide) (Nat.le_of_ble_eq_true rfl) (fun p e s m below meth c A ls hx hb hr hts hown hml hlocks hA hS hP hD hK hl => ?_)
  unfold wp_Mod_stick at h
  have hl : lv_has ls 4 [(0, .ref (ad 0)), (1, .int p1), (2, .int p2)] := hl
  refine lv_aload_n hx hb d_Mod_stick_0 rfl (lv_at hl 0 rfl) ?_
  refine lv_iload_n hx hb d_Mod_stick_1 rfl (lv_at hl 1 rfl) ?_
  refine lv_iload_n hx hb d_Mod_stick_2 rfl (lv_at hl 2 rfl) ?_
  refine call_Vi1 (own := "HamperClubModel") (As := [.int p1, .int p2]) (rest := []) (q0 := 0) (ci := 9) hx hb hml hts hown hK hA hP hD hS ok_Mod_57 rfl ⟨Nat.le_of_ble_eq_true rfl, Nat.le_of_ble_eq_true rfl⟩ ⟨Nat.le_of_ble_eq_true rfl, Nat.le_of_ble_eq_true rfl⟩ rfl rfl rfl hl.1 rfl (Nat.le_of_ble_eq_true rfl) d_Mod_stick_3 (c_Mod_noStick l G ad _ u p1 p2 _ h) (fun x2 u1 H locs h hP hD hS => ?_)
  refine lv_istore_n (lv' := [(3, .int x2), (0, .ref (ad 0)), (1, .int p1), (2, .int p2)]) hx hb d_Mod_stick_6 rfl hl (by decide) rfl (fun ls hl => ?_)
  refine lv_iload_n hx hb d_Mod_stick_7 rfl (lv_at hl 0 rfl) ?_
  refine lv_if_eq (tgt := 13) hx hb d_Mod_stick_8 (by decide) (fun hc => ?_) (fun hc => ?_)
  · have h := h.1 hc
    refine lv_aload_n hx hb d_Mod_stick_13 rfl (lv_at hl 1 rfl) ?_
    refine call_Vv1 (own := "HamperClubModel") (As := []) (rest := []) (q0 := 0) (ci := 9) hx hb hml hts hown hK hA hP hD hS ok_Mod_36 rfl ⟨Nat.le_of_ble_eq_true rfl, Nat.le_of_ble_eq_true rfl⟩ ⟨Nat.le_of_ble_eq_true rfl, Nat.le_of_ble_eq_true rfl⟩ rfl rfl rfl hl.1 rfl (Nat.le_of_ble_eq_true rfl) d_Mod_stick_14 (c_Mod_record l G ad _ u1  _ h) (fun u3 H locs h hP hD hS => ?_)
    refine lv_aload_n hx hb d_Mod_stick_17 rfl (lv_at hl 1 rfl) ?_
    refine lv_iload_n hx hb d_Mod_stick_18 rfl (lv_at hl 2 rfl) ?_
    refine lv_iload_n hx hb d_Mod_stick_19 rfl (lv_at hl 3 rfl) ?_
    refine call_Vi1 (own := "HamperClubModel") (As := [.int p1, .int p2]) (rest := []) (q0 := 0) (ci := 9) hx hb hml hts hown hK hA hP hD hS ok_Mod_60 rfl ⟨Nat.le_of_ble_eq_true rfl, Nat.le_of_ble_eq_true rfl⟩ ⟨Nat.le_of_ble_eq_true rfl, Nat.le_of_ble_eq_true rfl⟩ rfl rfl rfl hl.1 rfl (Nat.le_of_ble_eq_true rfl) d_Mod_stick_20 (c_Mod_doStick l G ad _ u3 p1 p2 _ h) (fun x5 u4 H locs h hP hD hS => ?_)
    exact r_iret hx hb hr hlocks hP hD hS d_Mod_stick_23 h
  · have h := h.2 hc
    refine lv_iload_n hx hb d_Mod_stick_11 rfl (lv_at hl 0 rfl) ?_
    exact r_iret hx hb hr hlocks hP hD hS d_Mod_stick_12 h
def wp_Mod_withdraw (u : RS) (p1 : Int32) (p2 : Int32) (Post : Int32 → RS → Prop) : Prop := (wp_Mod_noWithdraw u p1 p2 (fun x2 u1 => ((x2 = 0 → (wp_Mod_record u1  (fun u3 => (wp_Mod_doWithdraw u3 p1 p2 (fun x5 u4 => Post x5 u4))))) ∧ (¬ x2 = 0 → Post x2 u1))))
theorem ok_Mod_67 : CallOk y_Mod_noWithdraw b_Mod_noWithdraw 3 (some .int) 2 2 "HamperClubModel" 67 := ⟨tb_744, tb_746, sl_19, tb_12, tb_747, by decide +kernel⟩
theorem ok_Mod_70 : CallOk y_Mod_doWithdraw b_Mod_doWithdraw 5 (some .int) 2 2 "HamperClubModel" 70 := ⟨tb_748, tb_750, sl_20, tb_12, tb_751, by decide +kernel⟩
set_option maxHeartbeats 4000000 in
set_option maxRecDepth 100000 in
theorem c_Mod_withdraw (l : Launch) (G : GG) (ad : Nat → Nat) (sz : Nat) (u : RS) (p1 : Int32) (p2 : Int32) (Post : Int32 → RS → Prop) (h : wp_Mod_withdraw u p1 p2 Post) : CMi l y_Mod_withdraw b_Mod_withdraw 4 .int 3 G [.ref (ad 0), .int p1, .int p2] sz (refW G ad u) (refW G ad) Post := by
  refine CMi.start (by decide) (Nat.le_of_ble_eq_true rfl) (fun p e s m below meth c A ls hx hb hr hts hown hml hlocks hA hS hP hD hK hl => ?_)
  unfold wp_Mod_withdraw at h
  have hl : lv_has ls 4 [(0, .ref (ad 0)), (1, .int p1), (2, .int p2)] := hl
  refine lv_aload_n hx hb d_Mod_withdraw_0 rfl (lv_at hl 0 rfl) ?_
  refine lv_iload_n hx hb d_Mod_withdraw_1 rfl (lv_at hl 1 rfl) ?_
  refine lv_iload_n hx hb d_Mod_withdraw_2 rfl (lv_at hl 2 rfl) ?_
  refine call_Vi1 (own := "HamperClubModel") (As := [.int p1, .int p2]) (rest := []) (q0 := 0) (ci := 9) hx hb hml hts hown hK hA hP hD hS ok_Mod_67 rfl ⟨Nat.le_of_ble_eq_true rfl, Nat.le_of_ble_eq_true rfl⟩ ⟨Nat.le_of_ble_eq_true rfl, Nat.le_of_ble_eq_true rfl⟩ rfl rfl rfl hl.1 rfl (Nat.le_of_ble_eq_true rfl) d_Mod_withdraw_3 (c_Mod_noWithdraw l G ad _ u p1 p2 _ h) (fun x2 u1 H locs h hP hD hS => ?_)
  refine lv_istore_n (lv' := [(3, .int x2), (0, .ref (ad 0)), (1, .int p1), (2, .int p2)]) hx hb d_Mod_withdraw_6 rfl hl (by decide) rfl (fun ls hl => ?_)
  refine lv_iload_n hx hb d_Mod_withdraw_7 rfl (lv_at hl 0 rfl) ?_
  refine lv_if_eq (tgt := 13) hx hb d_Mod_withdraw_8 (by decide) (fun hc => ?_) (fun hc => ?_)
  · have h := h.1 hc
    refine lv_aload_n hx hb d_Mod_withdraw_13 rfl (lv_at hl 1 rfl) ?_
    refine call_Vv1 (own := "HamperClubModel") (As := []) (rest := []) (q0 := 0) (ci := 9) hx hb hml hts hown hK hA hP hD hS ok_Mod_36 rfl ⟨Nat.le_of_ble_eq_true rfl, Nat.le_of_ble_eq_true rfl⟩ ⟨Nat.le_of_ble_eq_true rfl, Nat.le_of_ble_eq_true rfl⟩ rfl rfl rfl hl.1 rfl (Nat.le_of_ble_eq_true rfl) d_Mod_withdraw_14 (c_Mod_record l G ad _ u1  _ h) (fun u3 H locs h hP hD hS => ?_)
    refine lv_aload_n hx hb d_Mod_withdraw_17 rfl (lv_at hl 1 rfl) ?_
    refine lv_iload_n hx hb d_Mod_withdraw_18 rfl (lv_at hl 2 rfl) ?_
    refine lv_iload_n hx hb d_Mod_withdraw_19 rfl (lv_at hl 3 rfl) ?_
    refine call_Vi1 (own := "HamperClubModel") (As := [.int p1, .int p2]) (rest := []) (q0 := 0) (ci := 9) hx hb hml hts hown hK hA hP hD hS ok_Mod_70 rfl ⟨Nat.le_of_ble_eq_true rfl, Nat.le_of_ble_eq_true rfl⟩ ⟨Nat.le_of_ble_eq_true rfl, Nat.le_of_ble_eq_true rfl⟩ rfl rfl rfl hl.1 rfl (Nat.le_of_ble_eq_true rfl) d_Mod_withdraw_20 (c_Mod_doWithdraw l G ad _ u3 p1 p2 _ h) (fun x5 u4 H locs h hP hD hS => ?_)
    exact r_iret hx hb hr hlocks hP hD hS d_Mod_withdraw_23 h
  · have h := h.2 hc
    refine lv_iload_n hx hb d_Mod_withdraw_11 rfl (lv_at hl 0 rfl) ?_
    exact r_iret hx hb hr hlocks hP hD hS d_Mod_withdraw_12 h
def wp_Mod_mislay (u : RS) (p1 : Int32) (Post : Int32 → RS → Prop) : Prop := (wp_Mod_noMislay u p1 (fun x2 u1 => ((x2 = 0 → (wp_Mod_record u1  (fun u3 => (wp_Mod_doMislay u3 p1 (fun x5 u4 => Post x5 u4))))) ∧ (¬ x2 = 0 → Post x2 u1))))
theorem ok_Mod_73 : CallOk y_Mod_noMislay b_Mod_noMislay 2 (some .int) 2 1 "HamperClubModel" 73 := ⟨tb_760, tb_762, sl_22, tb_12, tb_763, by decide +kernel⟩
theorem ok_Mod_77 : CallOk y_Mod_doMislay b_Mod_doMislay 2 (some .int) 1 1 "HamperClubModel" 77 := ⟨tb_764, tb_766, sl_23, tb_12, tb_767, by decide +kernel⟩
set_option maxHeartbeats 4000000 in
set_option maxRecDepth 100000 in
theorem c_Mod_mislay (l : Launch) (G : GG) (ad : Nat → Nat) (sz : Nat) (u : RS) (p1 : Int32) (Post : Int32 → RS → Prop) (h : wp_Mod_mislay u p1 Post) : CMi l y_Mod_mislay b_Mod_mislay 3 .int 3 G [.ref (ad 0), .int p1] sz (refW G ad u) (refW G ad) Post := by
  refine CMi.start (by decide) (Nat.le_of_ble_eq_true rfl) (fun p e s m below meth c A ls hx hb hr hts hown hml hlocks hA hS hP hD hK hl => ?_)
  unfold wp_Mod_mislay at h
  have hl : lv_has ls 3 [(0, .ref (ad 0)), (1, .int p1)] := hl
  refine lv_aload_n hx hb d_Mod_mislay_0 rfl (lv_at hl 0 rfl) ?_
  refine lv_iload_n hx hb d_Mod_mislay_1 rfl (lv_at hl 1 rfl) ?_
  refine call_Vi1 (own := "HamperClubModel") (As := [.int p1]) (rest := []) (q0 := 0) (ci := 9) hx hb hml hts hown hK hA hP hD hS ok_Mod_73 rfl ⟨Nat.le_of_ble_eq_true rfl, Nat.le_of_ble_eq_true rfl⟩ ⟨Nat.le_of_ble_eq_true rfl, Nat.le_of_ble_eq_true rfl⟩ rfl rfl rfl hl.1 rfl (Nat.le_of_ble_eq_true rfl) d_Mod_mislay_2 (c_Mod_noMislay l G ad _ u p1 _ h) (fun x2 u1 H locs h hP hD hS => ?_)
  refine lv_istore_n (lv' := [(2, .int x2), (0, .ref (ad 0)), (1, .int p1)]) hx hb d_Mod_mislay_5 rfl hl (by decide) rfl (fun ls hl => ?_)
  refine lv_iload_n hx hb d_Mod_mislay_6 rfl (lv_at hl 0 rfl) ?_
  refine lv_if_eq (tgt := 12) hx hb d_Mod_mislay_7 (by decide) (fun hc => ?_) (fun hc => ?_)
  · have h := h.1 hc
    refine lv_aload_n hx hb d_Mod_mislay_12 rfl (lv_at hl 1 rfl) ?_
    refine call_Vv1 (own := "HamperClubModel") (As := []) (rest := []) (q0 := 0) (ci := 9) hx hb hml hts hown hK hA hP hD hS ok_Mod_36 rfl ⟨Nat.le_of_ble_eq_true rfl, Nat.le_of_ble_eq_true rfl⟩ ⟨Nat.le_of_ble_eq_true rfl, Nat.le_of_ble_eq_true rfl⟩ rfl rfl rfl hl.1 rfl (Nat.le_of_ble_eq_true rfl) d_Mod_mislay_13 (c_Mod_record l G ad _ u1  _ h) (fun u3 H locs h hP hD hS => ?_)
    refine lv_aload_n hx hb d_Mod_mislay_16 rfl (lv_at hl 1 rfl) ?_
    refine lv_iload_n hx hb d_Mod_mislay_17 rfl (lv_at hl 2 rfl) ?_
    refine call_Vi1 (own := "HamperClubModel") (As := [.int p1]) (rest := []) (q0 := 0) (ci := 9) hx hb hml hts hown hK hA hP hD hS ok_Mod_77 rfl ⟨Nat.le_of_ble_eq_true rfl, Nat.le_of_ble_eq_true rfl⟩ ⟨Nat.le_of_ble_eq_true rfl, Nat.le_of_ble_eq_true rfl⟩ rfl rfl rfl hl.1 rfl (Nat.le_of_ble_eq_true rfl) d_Mod_mislay_18 (c_Mod_doMislay l G ad _ u3 p1 _ h) (fun x5 u4 H locs h hP hD hS => ?_)
    exact r_iret hx hb hr hlocks hP hD hS d_Mod_mislay_21 h
  · have h := h.2 hc
    refine lv_iload_n hx hb d_Mod_mislay_10 rfl (lv_at hl 0 rfl) ?_
    exact r_iret hx hb hr hlocks hP hD hS d_Mod_mislay_11 h
def wp_Mod_find (u : RS) (p1 : Int32) (Post : Int32 → RS → Prop) : Prop := (wp_Mod_noFind u p1 (fun x2 u1 => ((x2 = 0 → (wp_Mod_record u1  (fun u3 => (wp_Mod_doFind u3 p1 (fun x5 u4 => Post x5 u4))))) ∧ (¬ x2 = 0 → Post x2 u1))))
theorem ok_Mod_80 : CallOk y_Mod_noFind b_Mod_noFind 2 (some .int) 2 1 "HamperClubModel" 80 := ⟨tb_772, tb_774, sl_24, tb_12, tb_775, by decide +kernel⟩
theorem ok_Mod_83 : CallOk y_Mod_doFind b_Mod_doFind 2 (some .int) 1 1 "HamperClubModel" 83 := ⟨tb_776, tb_778, sl_25, tb_12, tb_779, by decide +kernel⟩
set_option maxHeartbeats 4000000 in
set_option maxRecDepth 100000 in
theorem c_Mod_find (l : Launch) (G : GG) (ad : Nat → Nat) (sz : Nat) (u : RS) (p1 : Int32) (Post : Int32 → RS → Prop) (h : wp_Mod_find u p1 Post) : CMi l y_Mod_find b_Mod_find 3 .int 3 G [.ref (ad 0), .int p1] sz (refW G ad u) (refW G ad) Post := by
  refine CMi.start (by decide) (Nat.le_of_ble_eq_true rfl) (fun p e s m below meth c A ls hx hb hr hts hown hml hlocks hA hS hP hD hK hl => ?_)
  unfold wp_Mod_find at h
  have hl : lv_has ls 3 [(0, .ref (ad 0)), (1, .int p1)] := hl
  refine lv_aload_n hx hb d_Mod_find_0 rfl (lv_at hl 0 rfl) ?_
  refine lv_iload_n hx hb d_Mod_find_1 rfl (lv_at hl 1 rfl) ?_
  refine call_Vi1 (own := "HamperClubModel") (As := [.int p1]) (rest := []) (q0 := 0) (ci := 9) hx hb hml hts hown hK hA hP hD hS ok_Mod_80 rfl ⟨Nat.le_of_ble_eq_true rfl, Nat.le_of_ble_eq_true rfl⟩ ⟨Nat.le_of_ble_eq_true rfl, Nat.le_of_ble_eq_true rfl⟩ rfl rfl rfl hl.1 rfl (Nat.le_of_ble_eq_true rfl) d_Mod_find_2 (c_Mod_noFind l G ad _ u p1 _ h) (fun x2 u1 H locs h hP hD hS => ?_)
  refine lv_istore_n (lv' := [(2, .int x2), (0, .ref (ad 0)), (1, .int p1)]) hx hb d_Mod_find_5 rfl hl (by decide) rfl (fun ls hl => ?_)
  refine lv_iload_n hx hb d_Mod_find_6 rfl (lv_at hl 0 rfl) ?_
  refine lv_if_eq (tgt := 12) hx hb d_Mod_find_7 (by decide) (fun hc => ?_) (fun hc => ?_)
  · have h := h.1 hc
    refine lv_aload_n hx hb d_Mod_find_12 rfl (lv_at hl 1 rfl) ?_
    refine call_Vv1 (own := "HamperClubModel") (As := []) (rest := []) (q0 := 0) (ci := 9) hx hb hml hts hown hK hA hP hD hS ok_Mod_36 rfl ⟨Nat.le_of_ble_eq_true rfl, Nat.le_of_ble_eq_true rfl⟩ ⟨Nat.le_of_ble_eq_true rfl, Nat.le_of_ble_eq_true rfl⟩ rfl rfl rfl hl.1 rfl (Nat.le_of_ble_eq_true rfl) d_Mod_find_13 (c_Mod_record l G ad _ u1  _ h) (fun u3 H locs h hP hD hS => ?_)
    refine lv_aload_n hx hb d_Mod_find_16 rfl (lv_at hl 1 rfl) ?_
    refine lv_iload_n hx hb d_Mod_find_17 rfl (lv_at hl 2 rfl) ?_
    refine call_Vi1 (own := "HamperClubModel") (As := [.int p1]) (rest := []) (q0 := 0) (ci := 9) hx hb hml hts hown hK hA hP hD hS ok_Mod_83 rfl ⟨Nat.le_of_ble_eq_true rfl, Nat.le_of_ble_eq_true rfl⟩ ⟨Nat.le_of_ble_eq_true rfl, Nat.le_of_ble_eq_true rfl⟩ rfl rfl rfl hl.1 rfl (Nat.le_of_ble_eq_true rfl) d_Mod_find_18 (c_Mod_doFind l G ad _ u3 p1 _ h) (fun x5 u4 H locs h hP hD hS => ?_)
    exact r_iret hx hb hr hlocks hP hD hS d_Mod_find_21 h
  · have h := h.2 hc
    refine lv_iload_n hx hb d_Mod_find_10 rfl (lv_at hl 0 rfl) ?_
    exact r_iret hx hb hr hlocks hP hD hS d_Mod_find_11 h
def wp_Mod_drop (u : RS) (p1 : Int32) (Post : Int32 → RS → Prop) : Prop := (vp_in (pf_Mod_of p1 3) 4306 ∧ (∀ x1 : Int32, x1 = (u.1 (pf_Mod_of p1 3).toNatClampNeg) → (vp_in (pf_Mod_of p1 4) 4306 ∧ (((u.1 (pf_Mod_of p1 4).toNatClampNeg) = 1 → (vp_in (pf_Mod_of p1 3) 4306 ∧ (∀ u7 : RS, u7 = (rR u (upd u.1 (pf_Mod_of p1 3).toNatClampNeg (-9))) → (vp_in (pf_Mod_of p1 4) 4306 ∧ (∀ u8 : RS, u8 = (rR u7 (upd u7.1 (pf_Mod_of p1 4).toNatClampNeg 0)) → (wp_Mod_passOn u8 x1 (fun x10 u9 => Post x10 u9))))))) ∧ (¬ (u.1 (pf_Mod_of p1 4).toNatClampNeg) = 1 → (vp_in (pf_Mod_of p1 3) 4306 ∧ (∀ u2 : RS, u2 = (rR u (upd u.1 (pf_Mod_of p1 3).toNatClampNeg (-9))) → (vp_in (pf_Mod_of p1 4) 4306 ∧ (∀ u3 : RS, u3 = (rR u2 (upd u2.1 (pf_Mod_of p1 4).toNatClampNeg 0)) → (wp_Mod_placeOf u3 p1 x1 (fun x5 u4 => (wp_Mod_leaveRow u4 x1 x5 (fun u6 => Post (-9) u6)))))))))))))
theorem ok_Mod_92 : CallOk y_Mod_passOn b_Mod_passOn 3 (some .int) 2 1 "HamperClubModel" 92 := ⟨tb_803, tb_805, sl_29, tb_12, tb_806, by decide +kernel⟩
set_option maxHeartbeats 4000000 in
set_option maxRecDepth 100000 in
theorem c_Mod_drop (l : Launch) (G : GG) (ad : Nat → Nat) (sz : Nat) (u : RS) (p1 : Int32) (Post : Int32 → RS → Prop) (h : wp_Mod_drop u p1 Post) : CMi l y_Mod_drop b_Mod_drop 4 .int 3 G [.ref (ad 0), .int p1] sz (refW G ad u) (refW G ad) Post := by
  refine CMi.start (by decide) (Nat.le_of_ble_eq_true rfl) (fun p e s m below meth c A ls hx hb hr hts hown hml hlocks hA hS hP hD hK hl => ?_)
  unfold wp_Mod_drop at h
  have hl : lv_has ls 4 [(0, .ref (ad 0)), (1, .int p1)] := hl
  refine lv_aload_n hx hb d_Mod_drop_0 rfl (lv_at hl 0 rfl) ?_
  refine gR_Mod_row hx hb hts hown hK hP tb_653 d_Mod_drop_1 ?_
  refine lv_iload_n hx hb d_Mod_drop_4 rfl (lv_at hl 1 rfl) ?_
  refine lv_iconst (v := 3) hx hb d_Mod_drop_5 (by decide) ?_
  refine call_S (As := [.int p1, .int 3]) (rest := [.ref (ad 1)]) hx hb hml hts hown so_Mod_43 rfl ⟨Nat.le_of_ble_eq_true rfl, Nat.le_of_ble_eq_true rfl⟩ ⟨Nat.le_of_ble_eq_true rfl, Nat.le_of_ble_eq_true rfl⟩ hl.1 rfl (Nat.le_of_ble_eq_true rfl) d_Mod_drop_6 (k_Mod_of l p1 3) ?_
  obtain ⟨hi, h⟩ := h
  refine lR_1 hx hb hK hP hi d_Mod_drop_9 ?_
  refine lv_topi (fun x1 ex1 => ?_)
  have h := h x1 ex1
  refine lv_istore_n (lv' := [(2, .int x1), (0, .ref (ad 0)), (1, .int p1)]) hx hb d_Mod_drop_10 rfl hl (by decide) rfl (fun ls hl => ?_)
  refine lv_aload_n hx hb d_Mod_drop_11 rfl (lv_at hl 1 rfl) ?_
  refine gR_Mod_row hx hb hts hown hK hP tb_653 d_Mod_drop_12 ?_
  refine lv_iload_n hx hb d_Mod_drop_15 rfl (lv_at hl 2 rfl) ?_
  refine lv_iconst (v := 4) hx hb d_Mod_drop_16 (by decide) ?_
  refine call_S (As := [.int p1, .int 4]) (rest := [.ref (ad 1)]) hx hb hml hts hown so_Mod_43 rfl ⟨Nat.le_of_ble_eq_true rfl, Nat.le_of_ble_eq_true rfl⟩ ⟨Nat.le_of_ble_eq_true rfl, Nat.le_of_ble_eq_true rfl⟩ hl.1 rfl (Nat.le_of_ble_eq_true rfl) d_Mod_drop_17 (k_Mod_of l p1 4) ?_
  obtain ⟨hi, h⟩ := h
  refine lR_1 hx hb hK hP hi d_Mod_drop_20 ?_
  refine lv_iconst (v := 1) hx hb d_Mod_drop_21 (by decide) ?_
  refine lv_icmp_ne (tgt := 29) hx hb d_Mod_drop_22 (by decide) (fun hc => ?_) (fun hc => ?_)
  · have h := h.2 hc
    refine lv_iconst (v := 0) hx hb d_Mod_drop_29 (by decide) ?_
    refine lv_istore_n (lv' := [(3, .int 0), (2, .int x1), (0, .ref (ad 0)), (1, .int p1)]) hx hb d_Mod_drop_30 rfl hl (by decide) rfl (fun ls hl => ?_)
    refine lv_aload_n hx hb d_Mod_drop_31 rfl (lv_at hl 2 rfl) ?_
    refine gR_Mod_row hx hb hts hown hK hP tb_653 d_Mod_drop_32 ?_
    refine lv_iload_n hx hb d_Mod_drop_35 rfl (lv_at hl 3 rfl) ?_
    refine lv_iconst (v := 3) hx hb d_Mod_drop_36 (by decide) ?_
    refine call_S (As := [.int p1, .int 3]) (rest := [.ref (ad 1)]) hx hb hml hts hown so_Mod_43 rfl ⟨Nat.le_of_ble_eq_true rfl, Nat.le_of_ble_eq_true rfl⟩ ⟨Nat.le_of_ble_eq_true rfl, Nat.le_of_ble_eq_true rfl⟩ hl.1 rfl (Nat.le_of_ble_eq_true rfl) d_Mod_drop_37 (k_Mod_of l p1 3) ?_
    refine lv_bipush (v := (-9)) hx hb d_Mod_drop_40 (by decide) ?_
    obtain ⟨hi, h⟩ := h
    refine sR_1 hx hb hK hP hD hS hi d_Mod_drop_42 (fun u2 H locs eu2 hP hD hS => ?_)
    have h := h u2 eu2
    refine lv_aload_n hx hb d_Mod_drop_43 rfl (lv_at hl 2 rfl) ?_
    refine gR_Mod_row hx hb hts hown hK hP tb_653 d_Mod_drop_44 ?_
    refine lv_iload_n hx hb d_Mod_drop_47 rfl (lv_at hl 3 rfl) ?_
    refine lv_iconst (v := 4) hx hb d_Mod_drop_48 (by decide) ?_
    refine call_S (As := [.int p1, .int 4]) (rest := [.ref (ad 1)]) hx hb hml hts hown so_Mod_43 rfl ⟨Nat.le_of_ble_eq_true rfl, Nat.le_of_ble_eq_true rfl⟩ ⟨Nat.le_of_ble_eq_true rfl, Nat.le_of_ble_eq_true rfl⟩ hl.1 rfl (Nat.le_of_ble_eq_true rfl) d_Mod_drop_49 (k_Mod_of l p1 4) ?_
    refine lv_iconst (v := 0) hx hb d_Mod_drop_52 (by decide) ?_
    obtain ⟨hi, h⟩ := h
    refine sR_1 hx hb hK hP hD hS hi d_Mod_drop_53 (fun u3 H locs eu3 hP hD hS => ?_)
    have h := h u3 eu3
    refine lv_iload_n hx hb d_Mod_drop_54 rfl (lv_at hl 0 rfl) ?_
    refine lv_if_eq (tgt := 64) hx hb d_Mod_drop_55 (by decide) (fun _ => ?_) (fun hc => absurd hc (by decide))
    refine lv_aload_n hx hb d_Mod_drop_64 rfl (lv_at hl 2 rfl) ?_
    refine lv_iload_n hx hb d_Mod_drop_65 rfl (lv_at hl 1 rfl) ?_
    refine lv_aload_n hx hb d_Mod_drop_66 rfl (lv_at hl 2 rfl) ?_
    refine lv_iload_n hx hb d_Mod_drop_67 rfl (lv_at hl 3 rfl) ?_
    refine lv_iload_n hx hb d_Mod_drop_68 rfl (lv_at hl 1 rfl) ?_
    refine call_Vi1 (own := "HamperClubModel") (As := [.int p1, .int x1]) (rest := [.int x1, .ref (ad 0)]) (q0 := 0) (ci := 9) hx hb hml hts hown hK hA hP hD hS ok_Mod_95 rfl ⟨Nat.le_of_ble_eq_true rfl, Nat.le_of_ble_eq_true rfl⟩ ⟨Nat.le_of_ble_eq_true rfl, Nat.le_of_ble_eq_true rfl⟩ rfl rfl rfl hl.1 rfl (Nat.le_of_ble_eq_true rfl) d_Mod_drop_69 (c_Mod_placeOf l G ad _ u3 p1 x1 _ h) (fun x5 u4 H locs h hP hD hS => ?_)
    refine call_Vv1 (own := "HamperClubModel") (As := [.int x1, .int x5]) (rest := []) (q0 := 0) (ci := 9) hx hb hml hts hown hK hA hP hD hS ok_Mod_89 rfl ⟨Nat.le_of_ble_eq_true rfl, Nat.le_of_ble_eq_true rfl⟩ ⟨Nat.le_of_ble_eq_true rfl, Nat.le_of_ble_eq_true rfl⟩ rfl rfl rfl hl.1 rfl (Nat.le_of_ble_eq_true rfl) d_Mod_drop_72 (c_Mod_leaveRow l G ad _ u4 x1 x5 _ h) (fun u6 H locs h hP hD hS => ?_)
    refine lv_bipush (v := (-9)) hx hb d_Mod_drop_75 (by decide) ?_
    exact r_iret hx hb hr hlocks hP hD hS d_Mod_drop_77 h
  · have h := h.1 hc
    refine lv_iconst (v := 1) hx hb d_Mod_drop_25 (by decide) ?_
    refine lv_goto (tgt := 30) hx hb d_Mod_drop_26 (by decide) ?_
    refine lv_istore_n (lv' := [(3, .int 1), (2, .int x1), (0, .ref (ad 0)), (1, .int p1)]) hx hb d_Mod_drop_30 rfl hl (by decide) rfl (fun ls hl => ?_)
    refine lv_aload_n hx hb d_Mod_drop_31 rfl (lv_at hl 2 rfl) ?_
    refine gR_Mod_row hx hb hts hown hK hP tb_653 d_Mod_drop_32 ?_
    refine lv_iload_n hx hb d_Mod_drop_35 rfl (lv_at hl 3 rfl) ?_
    refine lv_iconst (v := 3) hx hb d_Mod_drop_36 (by decide) ?_
    refine call_S (As := [.int p1, .int 3]) (rest := [.ref (ad 1)]) hx hb hml hts hown so_Mod_43 rfl ⟨Nat.le_of_ble_eq_true rfl, Nat.le_of_ble_eq_true rfl⟩ ⟨Nat.le_of_ble_eq_true rfl, Nat.le_of_ble_eq_true rfl⟩ hl.1 rfl (Nat.le_of_ble_eq_true rfl) d_Mod_drop_37 (k_Mod_of l p1 3) ?_
    refine lv_bipush (v := (-9)) hx hb d_Mod_drop_40 (by decide) ?_
    obtain ⟨hi, h⟩ := h
    refine sR_1 hx hb hK hP hD hS hi d_Mod_drop_42 (fun u7 H locs eu7 hP hD hS => ?_)
    have h := h u7 eu7
    refine lv_aload_n hx hb d_Mod_drop_43 rfl (lv_at hl 2 rfl) ?_
    refine gR_Mod_row hx hb hts hown hK hP tb_653 d_Mod_drop_44 ?_
    refine lv_iload_n hx hb d_Mod_drop_47 rfl (lv_at hl 3 rfl) ?_
    refine lv_iconst (v := 4) hx hb d_Mod_drop_48 (by decide) ?_
    refine call_S (As := [.int p1, .int 4]) (rest := [.ref (ad 1)]) hx hb hml hts hown so_Mod_43 rfl ⟨Nat.le_of_ble_eq_true rfl, Nat.le_of_ble_eq_true rfl⟩ ⟨Nat.le_of_ble_eq_true rfl, Nat.le_of_ble_eq_true rfl⟩ hl.1 rfl (Nat.le_of_ble_eq_true rfl) d_Mod_drop_49 (k_Mod_of l p1 4) ?_
    refine lv_iconst (v := 0) hx hb d_Mod_drop_52 (by decide) ?_
    obtain ⟨hi, h⟩ := h
    refine sR_1 hx hb hK hP hD hS hi d_Mod_drop_53 (fun u8 H locs eu8 hP hD hS => ?_)
    have h := h u8 eu8
    refine lv_iload_n hx hb d_Mod_drop_54 rfl (lv_at hl 0 rfl) ?_
    refine lv_if_eq (tgt := 64) hx hb d_Mod_drop_55 (by decide) (fun hc => absurd hc (by decide)) (fun _ => ?_)
    refine lv_aload_n hx hb d_Mod_drop_58 rfl (lv_at hl 2 rfl) ?_
    refine lv_iload_n hx hb d_Mod_drop_59 rfl (lv_at hl 1 rfl) ?_
    refine call_Vi1 (own := "HamperClubModel") (As := [.int x1]) (rest := []) (q0 := 0) (ci := 9) hx hb hml hts hown hK hA hP hD hS ok_Mod_92 rfl ⟨Nat.le_of_ble_eq_true rfl, Nat.le_of_ble_eq_true rfl⟩ ⟨Nat.le_of_ble_eq_true rfl, Nat.le_of_ble_eq_true rfl⟩ rfl rfl rfl hl.1 rfl (Nat.le_of_ble_eq_true rfl) d_Mod_drop_60 (c_Mod_passOn l G ad _ u8 x1 _ h) (fun x10 u9 H locs h hP hD hS => ?_)
    exact r_iret hx hb hr hlocks hP hD hS d_Mod_drop_63 h
def wl_Mod_faultOf_10 (Post : Int32 → RS → Prop) (K : Int32 → RS → Prop) : Nat → Int32 → RS → Prop
  | 0, _ => fun _ => False
  | n + 1, a1 => fun u4 => ((a1 = 0 → K a1 u4) ∧ (¬ a1 = 0 → (((u4.2.2.2 1) ≤ (u4.2.2.2 2) → K a1 u4) ∧ (¬ (u4.2.2.2 1) ≤ (u4.2.2.2 2) → (wp_Mod_code u4  (fun x6 u5 => ((x6 = 59 → (∀ u8 : RS, u8 = (rS u5 2 ((u5.2.2.2 2) + 1)) → (wp_Mod_readsOrder u8  (fun x10 u9 => ((x10 = 0 → wl_Mod_faultOf_10 Post K n 0 u9) ∧ (¬ x10 = 0 → wl_Mod_faultOf_10 Post K n 1 u9)))))) ∧ (¬ x6 = 59 → (∀ u7 : RS, u7 = (rS u5 2 ((u5.2.2.2 2) + 0)) → wl_Mod_faultOf_10 Post K n 0 u7)))))))))
def wp_Mod_faultOf (u : RS) (Post : Int32 → RS → Prop) : Prop := (∀ u1 : RS, u1 = (rS u 2 0) → (wp_Mod_readsOrder u1  (fun x3 u2 => (∃ k13 : Nat, wl_Mod_faultOf_10 Post (fun x12 u11 => ((x12 = 0 → Post (u11.2.2.2 2) u11) ∧ (¬ x12 = 0 → Post (-1) u11))) k13 x3 u2))))
theorem ok_Mod_150 : CallOk y_Mod_readsOrder b_Mod_readsOrder 2 (some .boolean) 2 0 "HamperClubModel" 150 := ⟨tb_871, tb_873, sl_40, tb_12, tb_874, by decide +kernel⟩
set_option maxHeartbeats 4000000 in
set_option maxRecDepth 100000 in
theorem x_Mod_faultOf_10 {p : Program} {l : Launch} {e : Env} {s : State} {m : MethodId} {args : Array Value} {below : List Frame} {meth : Method} {c : Code} {A : Nat → Prop} {G : GG} {ad : Nat → Nat} {Post : Int32 → RS → Prop} {K : Int32 → RS → Prop} {Q : State → Prop}
    (hx : p.tables.exec = Jvm.exec) (hb : c.code = b_Mod_faultOf) (hr : meth.sig.returnType = some .int) (hts : ∀ w ∈ Tg, w.before args s = true) (hown : s.vm.findClass "HamperClubModel" = some m.cls) (hml : c.maxLocals = 2) (hlocks : meth.locks = false) (hA : ∀ q, s.heap.size ≤ q → A q) (hK : KN G s)
    (hQ : Q = MQ below (va_Qi Post (BW G A (refW G ad)) A) args s 0 0 A)
    (kk : ∀ (b1 : Int32) (u : RS), K b1 u → ∀ (H : Heap) (locs : List Loc) (ls : Array Slot), va_P G.1 classes (refW G ad u) H → va_D A (refW G ad u) → va_S A s.heap H locs → lv_has ls 2 [(0, .ref (ad 0)), (1, .int b1)] → W p l e (rmK 3) s m args below meth c H locs 0 0 Q (F0 m 78 ls [])) :
    ∀ (n : Nat) (a1 : Int32) (u : RS), wl_Mod_faultOf_10 Post K n a1 u → ∀ (H : Heap) (locs : List Loc) (ls : Array Slot), va_P G.1 classes (refW G ad u) H → va_D A (refW G ad u) → va_S A s.heap H locs → lv_has ls 2 [(0, .ref (ad 0)), (1, .int a1)] → W p l e (rmK 3) s m args below meth c H locs 0 0 Q (F0 m 10 ls []) := by
  subst hQ
  intro n
  induction n with
  | zero => intro a1 u h; exact h.elim
  | succ n ih =>
    intro a1 u4 h H locs ls hP hD hS hl
    unfold wl_Mod_faultOf_10 at h
    refine lv_iload_n hx hb d_Mod_faultOf_10 rfl (lv_at hl 1 rfl) ?_
    refine lv_if_eq (tgt := 78) hx hb d_Mod_faultOf_11 (by decide) (fun hc => ?_) (fun hc => ?_)
    · have h := h.1 hc
      exact kk a1 u4 h _ _ _ hP hD hS (lv_sub hl [0, 1] rfl)
    · have h := h.2 hc
      refine lv_aload_n hx hb d_Mod_faultOf_14 rfl (lv_at hl 0 rfl) ?_
      refine gR_Mod_pos hx hb hts hown hK hP tb_658 d_Mod_faultOf_15 ?_
      refine lv_aload_n hx hb d_Mod_faultOf_18 rfl (lv_at hl 0 rfl) ?_
      refine gR_Mod_length hx hb hts hown hK hP tb_656 d_Mod_faultOf_19 ?_
      refine lv_icmp_ge (tgt := 78) hx hb d_Mod_faultOf_22 (by decide) (fun hc => ?_) (fun hc => ?_)
      · have h := h.1 hc
        exact kk a1 u4 h _ _ _ hP hD hS (lv_sub hl [0, 1] rfl)
      · have h := h.2 hc
        refine lv_aload_n hx hb d_Mod_faultOf_25 rfl (lv_at hl 0 rfl) ?_
        refine call_Vi1 (own := "HamperClubModel") (As := []) (rest := []) (q0 := 0) (ci := 9) hx hb hml hts hown hK hA hP hD hS ok_Mod_135 rfl ⟨Nat.le_of_ble_eq_true rfl, Nat.le_of_ble_eq_true rfl⟩ ⟨Nat.le_of_ble_eq_true rfl, Nat.le_of_ble_eq_true rfl⟩ rfl rfl rfl hl.1 rfl (Nat.le_of_ble_eq_true rfl) d_Mod_faultOf_26 (c_Mod_code l G ad _ u4  _ h) (fun x6 u5 H locs h hP hD hS => ?_)
        refine lv_bipush (v := 59) hx hb d_Mod_faultOf_29 (by decide) ?_
        refine lv_icmp_ne (tgt := 38) hx hb d_Mod_faultOf_31 (by decide) (fun hc => ?_) (fun hc => ?_)
        · have h := h.2 hc
          refine lv_iconst (v := 0) hx hb d_Mod_faultOf_38 (by decide) ?_
          refine lv_istore_n (lv' := [(1, .int 0), (0, .ref (ad 0))]) hx hb d_Mod_faultOf_39 rfl hl (by decide) rfl (fun ls hl => ?_)
          refine lv_aload_n hx hb d_Mod_faultOf_40 rfl (lv_at hl 1 rfl) ?_
          refine lv_dup hx hb d_Mod_faultOf_41 rfl ?_
          refine gR_Mod_pos hx hb hts hown hK hP tb_658 d_Mod_faultOf_42 ?_
          refine lv_iload_n hx hb d_Mod_faultOf_45 rfl (lv_at hl 0 rfl) ?_
          refine lv_if_eq (tgt := 53) hx hb d_Mod_faultOf_46 (by decide) (fun _ => ?_) (fun hc => absurd hc (by decide))
          refine lv_iconst (v := 0) hx hb d_Mod_faultOf_53 (by decide) ?_
          refine lv_iadd hx hb d_Mod_faultOf_54 ?_
          refine pR_Mod_pos hx hb hts hown hK hP hD hS tb_658 d_Mod_faultOf_55 (fun u7 H locs eu7 hP hD hS => ?_)
          have h := h u7 eu7
          refine lv_iload_n hx hb d_Mod_faultOf_58 rfl (lv_at hl 0 rfl) ?_
          refine lv_if_eq (tgt := 73) hx hb d_Mod_faultOf_59 (by decide) (fun _ => ?_) (fun hc => absurd hc (by decide))
          refine lv_iconst (v := 0) hx hb d_Mod_faultOf_73 (by decide) ?_
          refine lv_istore_n (lv' := [(1, .int 0), (0, .ref (ad 0))]) hx hb d_Mod_faultOf_74 rfl hl (by decide) rfl (fun ls hl => ?_)
          refine lv_goto (tgt := 10) hx hb d_Mod_faultOf_75 (by decide) ?_
          exact ih 0 u7 h _ _ _ hP hD hS (lv_sub hl [1, 0] rfl)
        · have h := h.1 hc
          refine lv_iconst (v := 1) hx hb d_Mod_faultOf_34 (by decide) ?_
          refine lv_goto (tgt := 39) hx hb d_Mod_faultOf_35 (by decide) ?_
          refine lv_istore_n (lv' := [(1, .int 1), (0, .ref (ad 0))]) hx hb d_Mod_faultOf_39 rfl hl (by decide) rfl (fun ls hl => ?_)
          refine lv_aload_n hx hb d_Mod_faultOf_40 rfl (lv_at hl 1 rfl) ?_
          refine lv_dup hx hb d_Mod_faultOf_41 rfl ?_
          refine gR_Mod_pos hx hb hts hown hK hP tb_658 d_Mod_faultOf_42 ?_
          refine lv_iload_n hx hb d_Mod_faultOf_45 rfl (lv_at hl 0 rfl) ?_
          refine lv_if_eq (tgt := 53) hx hb d_Mod_faultOf_46 (by decide) (fun hc => absurd hc (by decide)) (fun _ => ?_)
          refine lv_iconst (v := 1) hx hb d_Mod_faultOf_49 (by decide) ?_
          refine lv_goto (tgt := 54) hx hb d_Mod_faultOf_50 (by decide) ?_
          refine lv_iadd hx hb d_Mod_faultOf_54 ?_
          refine pR_Mod_pos hx hb hts hown hK hP hD hS tb_658 d_Mod_faultOf_55 (fun u8 H locs eu8 hP hD hS => ?_)
          have h := h u8 eu8
          refine lv_iload_n hx hb d_Mod_faultOf_58 rfl (lv_at hl 0 rfl) ?_
          refine lv_if_eq (tgt := 73) hx hb d_Mod_faultOf_59 (by decide) (fun hc => absurd hc (by decide)) (fun _ => ?_)
          refine lv_aload_n hx hb d_Mod_faultOf_62 rfl (lv_at hl 1 rfl) ?_
          refine call_Vi1 (own := "HamperClubModel") (As := []) (rest := []) (q0 := 0) (ci := 9) hx hb hml hts hown hK hA hP hD hS ok_Mod_150 rfl ⟨Nat.le_of_ble_eq_true rfl, Nat.le_of_ble_eq_true rfl⟩ ⟨Nat.le_of_ble_eq_true rfl, Nat.le_of_ble_eq_true rfl⟩ rfl rfl rfl hl.1 rfl (Nat.le_of_ble_eq_true rfl) d_Mod_faultOf_63 (c_Mod_readsOrder l G ad _ u8  _ h) (fun x10 u9 H locs h hP hD hS => ?_)
          refine lv_if_eq (tgt := 73) hx hb d_Mod_faultOf_66 (by decide) (fun hc => ?_) (fun hc => ?_)
          · have h := h.1 hc
            refine lv_iconst (v := 0) hx hb d_Mod_faultOf_73 (by decide) ?_
            refine lv_istore_n (lv' := [(1, .int 0), (0, .ref (ad 0))]) hx hb d_Mod_faultOf_74 rfl hl (by decide) rfl (fun ls hl => ?_)
            refine lv_goto (tgt := 10) hx hb d_Mod_faultOf_75 (by decide) ?_
            exact ih 0 u9 h _ _ _ hP hD hS (lv_sub hl [1, 0] rfl)
          · have h := h.2 hc
            refine lv_iconst (v := 1) hx hb d_Mod_faultOf_69 (by decide) ?_
            refine lv_goto (tgt := 74) hx hb d_Mod_faultOf_70 (by decide) ?_
            refine lv_istore_n (lv' := [(1, .int 1), (0, .ref (ad 0))]) hx hb d_Mod_faultOf_74 rfl hl (by decide) rfl (fun ls hl => ?_)
            refine lv_goto (tgt := 10) hx hb d_Mod_faultOf_75 (by decide) ?_
            exact ih 1 u9 h _ _ _ hP hD hS (lv_sub hl [1, 0] rfl)
set_option maxHeartbeats 4000000 in
set_option maxRecDepth 100000 in
theorem c_Mod_faultOf (l : Launch) (G : GG) (ad : Nat → Nat) (sz : Nat) (u : RS) (Post : Int32 → RS → Prop) (h : wp_Mod_faultOf u Post) : CMi l y_Mod_faultOf b_Mod_faultOf 2 .int 3 G [.ref (ad 0)] sz (refW G ad u) (refW G ad) Post := by
  refine CMi.start (by decide) (Nat.le_of_ble_eq_true rfl) (fun p e s m below meth c A ls hx hb hr hts hown hml hlocks hA hS hP hD hK hl => ?_)
  unfold wp_Mod_faultOf at h
  have hl : lv_has ls 2 [(0, .ref (ad 0))] := hl
  refine lv_aload_n hx hb d_Mod_faultOf_0 rfl (lv_at hl 0 rfl) ?_
  refine lv_iconst (v := 0) hx hb d_Mod_faultOf_1 (by decide) ?_
  refine pR_Mod_pos hx hb hts hown hK hP hD hS tb_658 d_Mod_faultOf_2 (fun u1 H locs eu1 hP hD hS => ?_)
  have h := h u1 eu1
  refine lv_aload_n hx hb d_Mod_faultOf_5 rfl (lv_at hl 0 rfl) ?_
  refine call_Vi1 (own := "HamperClubModel") (As := []) (rest := []) (q0 := 0) (ci := 9) hx hb hml hts hown hK hA hP hD hS ok_Mod_150 rfl ⟨Nat.le_of_ble_eq_true rfl, Nat.le_of_ble_eq_true rfl⟩ ⟨Nat.le_of_ble_eq_true rfl, Nat.le_of_ble_eq_true rfl⟩ rfl rfl rfl hl.1 rfl (Nat.le_of_ble_eq_true rfl) d_Mod_faultOf_6 (c_Mod_readsOrder l G ad _ u1  _ h) (fun x3 u2 H locs h hP hD hS => ?_)
  refine lv_istore_n (lv' := [(1, .int x3), (0, .ref (ad 0))]) hx hb d_Mod_faultOf_9 rfl hl (by decide) rfl (fun ls hl => ?_)
  obtain ⟨n, h⟩ := h
  refine x_Mod_faultOf_10 hx hb hr hts hown hml hlocks hA hK rfl (fun x12 u11 h H locs ls hP hD hS hl => ?_) n x3 u2 h _ _ _ hP hD hS (lv_sub hl [1, 0] rfl)
  refine lv_iload_n hx hb d_Mod_faultOf_78 rfl (lv_at hl 1 rfl) ?_
  refine lv_if_eq (tgt := 86) hx hb d_Mod_faultOf_79 (by decide) (fun hc => ?_) (fun hc => ?_)
  · have h := h.1 hc
    refine lv_aload_n hx hb d_Mod_faultOf_86 rfl (lv_at hl 0 rfl) ?_
    refine gR_Mod_pos hx hb hts hown hK hP tb_658 d_Mod_faultOf_87 ?_
    exact r_iret hx hb hr hlocks hP hD hS d_Mod_faultOf_90 h
  · have h := h.2 hc
    refine lv_iconst (v := (-1)) hx hb d_Mod_faultOf_82 (by decide) ?_
    refine lv_goto (tgt := 90) hx hb d_Mod_faultOf_83 (by decide) ?_
    exact r_iret hx hb hr hlocks hP hD hS d_Mod_faultOf_90 h
def wp_Mod_noOrder (u : RS) (Post : Int32 → RS → Prop) : Prop := (((u.2.2.2 3) = 119 → (wp_Mod_noWeek u  (fun x14 u13 => Post x14 u13))) ∧ (¬ (u.2.2.2 3) = 119 → (((u.2.2.2 3) = 43 → (wp_Mod_noStick u (u.2.2.2 4) (u.2.2.2 5) (fun x12 u11 => Post x12 u11))) ∧ (¬ (u.2.2.2 3) = 43 → (((u.2.2.2 3) = 45 → (wp_Mod_noWithdraw u (u.2.2.2 4) (u.2.2.2 5) (fun x10 u9 => Post x10 u9))) ∧ (¬ (u.2.2.2 3) = 45 → (((u.2.2.2 3) = 104 → (wp_Mod_noChoose u (u.2.2.2 4) (u.2.2.2 5) (fun x8 u7 => Post x8 u7))) ∧ (¬ (u.2.2.2 3) = 104 → (((u.2.2.2 3) = 120 → (wp_Mod_noGiveUp u (u.2.2.2 4) (fun x6 u5 => Post x6 u5))) ∧ (¬ (u.2.2.2 3) = 120 → (((u.2.2.2 3) = 108 → (wp_Mod_noMislay u (u.2.2.2 4) (fun x4 u3 => Post x4 u3))) ∧ (¬ (u.2.2.2 3) = 108 → (wp_Mod_noFind u (u.2.2.2 4) (fun x2 u1 => Post x2 u1))))))))))))))
theorem ok_Mod_107 : CallOk y_Mod_noGiveUp b_Mod_noGiveUp 2 (some .int) 2 1 "HamperClubModel" 107 := ⟨tb_819, tb_821, sl_32, tb_12, tb_822, by decide +kernel⟩
theorem ok_Mod_101 : CallOk y_Mod_noChoose b_Mod_noChoose 3 (some .int) 2 2 "HamperClubModel" 101 := ⟨tb_791, tb_793, sl_26, tb_12, tb_794, by decide +kernel⟩
theorem ok_Mod_110 : CallOk y_Mod_noWeek b_Mod_noWeek 1 (some .int) 1 0 "HamperClubModel" 110 := ⟨tb_827, tb_829, sl_33, tb_12, tb_830, by decide +kernel⟩
set_option maxHeartbeats 4000000 in
set_option maxRecDepth 100000 in
theorem c_Mod_noOrder (l : Launch) (G : GG) (ad : Nat → Nat) (sz : Nat) (u : RS) (Post : Int32 → RS → Prop) (h : wp_Mod_noOrder u Post) : CMi l y_Mod_noOrder b_Mod_noOrder 1 .int 3 G [.ref (ad 0)] sz (refW G ad u) (refW G ad) Post := by
  refine CMi.start (by decide) (Nat.le_of_ble_eq_true rfl) (fun p e s m below meth c A ls hx hb hr hts hown hml hlocks hA hS hP hD hK hl => ?_)
  unfold wp_Mod_noOrder at h
  have hl : lv_has ls 1 [(0, .ref (ad 0))] := hl
  refine lv_aload_n hx hb d_Mod_noOrder_0 rfl (lv_at hl 0 rfl) ?_
  refine gR_Mod_letter hx hb hts hown hK hP tb_659 d_Mod_noOrder_1 ?_
  refine lv_bipush (v := 119) hx hb d_Mod_noOrder_4 (by decide) ?_
  refine lv_icmp_ne (tgt := 16) hx hb d_Mod_noOrder_6 (by decide) (fun hc => ?_) (fun hc => ?_)
  · have h := h.2 hc
    refine lv_aload_n hx hb d_Mod_noOrder_16 rfl (lv_at hl 0 rfl) ?_
    refine gR_Mod_letter hx hb hts hown hK hP tb_659 d_Mod_noOrder_17 ?_
    refine lv_bipush (v := 43) hx hb d_Mod_noOrder_20 (by decide) ?_
    refine lv_icmp_ne (tgt := 40) hx hb d_Mod_noOrder_22 (by decide) (fun hc => ?_) (fun hc => ?_)
    · have h := h.2 hc
      refine lv_aload_n hx hb d_Mod_noOrder_40 rfl (lv_at hl 0 rfl) ?_
      refine gR_Mod_letter hx hb hts hown hK hP tb_659 d_Mod_noOrder_41 ?_
      refine lv_bipush (v := 45) hx hb d_Mod_noOrder_44 (by decide) ?_
      refine lv_icmp_ne (tgt := 64) hx hb d_Mod_noOrder_46 (by decide) (fun hc => ?_) (fun hc => ?_)
      · have h := h.2 hc
        refine lv_aload_n hx hb d_Mod_noOrder_64 rfl (lv_at hl 0 rfl) ?_
        refine gR_Mod_letter hx hb hts hown hK hP tb_659 d_Mod_noOrder_65 ?_
        refine lv_bipush (v := 104) hx hb d_Mod_noOrder_68 (by decide) ?_
        refine lv_icmp_ne (tgt := 88) hx hb d_Mod_noOrder_70 (by decide) (fun hc => ?_) (fun hc => ?_)
        · have h := h.2 hc
          refine lv_aload_n hx hb d_Mod_noOrder_88 rfl (lv_at hl 0 rfl) ?_
          refine gR_Mod_letter hx hb hts hown hK hP tb_659 d_Mod_noOrder_89 ?_
          refine lv_bipush (v := 120) hx hb d_Mod_noOrder_92 (by decide) ?_
          refine lv_icmp_ne (tgt := 108) hx hb d_Mod_noOrder_94 (by decide) (fun hc => ?_) (fun hc => ?_)
          · have h := h.2 hc
            refine lv_aload_n hx hb d_Mod_noOrder_108 rfl (lv_at hl 0 rfl) ?_
            refine gR_Mod_letter hx hb hts hown hK hP tb_659 d_Mod_noOrder_109 ?_
            refine lv_bipush (v := 108) hx hb d_Mod_noOrder_112 (by decide) ?_
            refine lv_icmp_ne (tgt := 128) hx hb d_Mod_noOrder_114 (by decide) (fun hc => ?_) (fun hc => ?_)
            · have h := h.2 hc
              refine lv_aload_n hx hb d_Mod_noOrder_128 rfl (lv_at hl 0 rfl) ?_
              refine lv_aload_n hx hb d_Mod_noOrder_129 rfl (lv_at hl 0 rfl) ?_
              refine gR_Mod_who hx hb hts hown hK hP tb_660 d_Mod_noOrder_130 ?_
              refine call_Vi1 (own := "HamperClubModel") (As := [.int (u.2.2.2 4)]) (rest := []) (q0 := 0) (ci := 9) hx hb hml hts hown hK hA hP hD hS ok_Mod_80 rfl ⟨Nat.le_of_ble_eq_true rfl, Nat.le_of_ble_eq_true rfl⟩ ⟨Nat.le_of_ble_eq_true rfl, Nat.le_of_ble_eq_true rfl⟩ rfl rfl rfl hl.1 rfl (Nat.le_of_ble_eq_true rfl) d_Mod_noOrder_133 (c_Mod_noFind l G ad _ u (u.2.2.2 4) _ h) (fun x2 u1 H locs h hP hD hS => ?_)
              exact r_iret hx hb hr hlocks hP hD hS d_Mod_noOrder_136 h
            · have h := h.1 hc
              refine lv_aload_n hx hb d_Mod_noOrder_117 rfl (lv_at hl 0 rfl) ?_
              refine lv_aload_n hx hb d_Mod_noOrder_118 rfl (lv_at hl 0 rfl) ?_
              refine gR_Mod_who hx hb hts hown hK hP tb_660 d_Mod_noOrder_119 ?_
              refine call_Vi1 (own := "HamperClubModel") (As := [.int (u.2.2.2 4)]) (rest := []) (q0 := 0) (ci := 9) hx hb hml hts hown hK hA hP hD hS ok_Mod_73 rfl ⟨Nat.le_of_ble_eq_true rfl, Nat.le_of_ble_eq_true rfl⟩ ⟨Nat.le_of_ble_eq_true rfl, Nat.le_of_ble_eq_true rfl⟩ rfl rfl rfl hl.1 rfl (Nat.le_of_ble_eq_true rfl) d_Mod_noOrder_122 (c_Mod_noMislay l G ad _ u (u.2.2.2 4) _ h) (fun x4 u3 H locs h hP hD hS => ?_)
              refine lv_goto (tgt := 136) hx hb d_Mod_noOrder_125 (by decide) ?_
              exact r_iret hx hb hr hlocks hP hD hS d_Mod_noOrder_136 h
          · have h := h.1 hc
            refine lv_aload_n hx hb d_Mod_noOrder_97 rfl (lv_at hl 0 rfl) ?_
            refine lv_aload_n hx hb d_Mod_noOrder_98 rfl (lv_at hl 0 rfl) ?_
            refine gR_Mod_who hx hb hts hown hK hP tb_660 d_Mod_noOrder_99 ?_
            refine call_Vi1 (own := "HamperClubModel") (As := [.int (u.2.2.2 4)]) (rest := []) (q0 := 0) (ci := 9) hx hb hml hts hown hK hA hP hD hS ok_Mod_107 rfl ⟨Nat.le_of_ble_eq_true rfl, Nat.le_of_ble_eq_true rfl⟩ ⟨Nat.le_of_ble_eq_true rfl, Nat.le_of_ble_eq_true rfl⟩ rfl rfl rfl hl.1 rfl (Nat.le_of_ble_eq_true rfl) d_Mod_noOrder_102 (c_Mod_noGiveUp l G ad _ u (u.2.2.2 4) _ h) (fun x6 u5 H locs h hP hD hS => ?_)
            refine lv_goto (tgt := 136) hx hb d_Mod_noOrder_105 (by decide) ?_
            exact r_iret hx hb hr hlocks hP hD hS d_Mod_noOrder_136 h
        · have h := h.1 hc
          refine lv_aload_n hx hb d_Mod_noOrder_73 rfl (lv_at hl 0 rfl) ?_
          refine lv_aload_n hx hb d_Mod_noOrder_74 rfl (lv_at hl 0 rfl) ?_
          refine gR_Mod_who hx hb hts hown hK hP tb_660 d_Mod_noOrder_75 ?_
          refine lv_aload_n hx hb d_Mod_noOrder_78 rfl (lv_at hl 0 rfl) ?_
          refine gR_Mod_much hx hb hts hown hK hP tb_661 d_Mod_noOrder_79 ?_
          refine call_Vi1 (own := "HamperClubModel") (As := [.int (u.2.2.2 4), .int (u.2.2.2 5)]) (rest := []) (q0 := 0) (ci := 9) hx hb hml hts hown hK hA hP hD hS ok_Mod_101 rfl ⟨Nat.le_of_ble_eq_true rfl, Nat.le_of_ble_eq_true rfl⟩ ⟨Nat.le_of_ble_eq_true rfl, Nat.le_of_ble_eq_true rfl⟩ rfl rfl rfl hl.1 rfl (Nat.le_of_ble_eq_true rfl) d_Mod_noOrder_82 (c_Mod_noChoose l G ad _ u (u.2.2.2 4) (u.2.2.2 5) _ h) (fun x8 u7 H locs h hP hD hS => ?_)
          refine lv_goto (tgt := 136) hx hb d_Mod_noOrder_85 (by decide) ?_
          exact r_iret hx hb hr hlocks hP hD hS d_Mod_noOrder_136 h
      · have h := h.1 hc
        refine lv_aload_n hx hb d_Mod_noOrder_49 rfl (lv_at hl 0 rfl) ?_
        refine lv_aload_n hx hb d_Mod_noOrder_50 rfl (lv_at hl 0 rfl) ?_
        refine gR_Mod_who hx hb hts hown hK hP tb_660 d_Mod_noOrder_51 ?_
        refine lv_aload_n hx hb d_Mod_noOrder_54 rfl (lv_at hl 0 rfl) ?_
        refine gR_Mod_much hx hb hts hown hK hP tb_661 d_Mod_noOrder_55 ?_
        refine call_Vi1 (own := "HamperClubModel") (As := [.int (u.2.2.2 4), .int (u.2.2.2 5)]) (rest := []) (q0 := 0) (ci := 9) hx hb hml hts hown hK hA hP hD hS ok_Mod_67 rfl ⟨Nat.le_of_ble_eq_true rfl, Nat.le_of_ble_eq_true rfl⟩ ⟨Nat.le_of_ble_eq_true rfl, Nat.le_of_ble_eq_true rfl⟩ rfl rfl rfl hl.1 rfl (Nat.le_of_ble_eq_true rfl) d_Mod_noOrder_58 (c_Mod_noWithdraw l G ad _ u (u.2.2.2 4) (u.2.2.2 5) _ h) (fun x10 u9 H locs h hP hD hS => ?_)
        refine lv_goto (tgt := 136) hx hb d_Mod_noOrder_61 (by decide) ?_
        exact r_iret hx hb hr hlocks hP hD hS d_Mod_noOrder_136 h
    · have h := h.1 hc
      refine lv_aload_n hx hb d_Mod_noOrder_25 rfl (lv_at hl 0 rfl) ?_
      refine lv_aload_n hx hb d_Mod_noOrder_26 rfl (lv_at hl 0 rfl) ?_
      refine gR_Mod_who hx hb hts hown hK hP tb_660 d_Mod_noOrder_27 ?_
      refine lv_aload_n hx hb d_Mod_noOrder_30 rfl (lv_at hl 0 rfl) ?_
      refine gR_Mod_much hx hb hts hown hK hP tb_661 d_Mod_noOrder_31 ?_
      refine call_Vi1 (own := "HamperClubModel") (As := [.int (u.2.2.2 4), .int (u.2.2.2 5)]) (rest := []) (q0 := 0) (ci := 9) hx hb hml hts hown hK hA hP hD hS ok_Mod_57 rfl ⟨Nat.le_of_ble_eq_true rfl, Nat.le_of_ble_eq_true rfl⟩ ⟨Nat.le_of_ble_eq_true rfl, Nat.le_of_ble_eq_true rfl⟩ rfl rfl rfl hl.1 rfl (Nat.le_of_ble_eq_true rfl) d_Mod_noOrder_34 (c_Mod_noStick l G ad _ u (u.2.2.2 4) (u.2.2.2 5) _ h) (fun x12 u11 H locs h hP hD hS => ?_)
      refine lv_goto (tgt := 136) hx hb d_Mod_noOrder_37 (by decide) ?_
      exact r_iret hx hb hr hlocks hP hD hS d_Mod_noOrder_136 h
  · have h := h.1 hc
    refine lv_aload_n hx hb d_Mod_noOrder_9 rfl (lv_at hl 0 rfl) ?_
    refine call_Vi1 (own := "HamperClubModel") (As := []) (rest := []) (q0 := 0) (ci := 9) hx hb hml hts hown hK hA hP hD hS ok_Mod_110 rfl ⟨Nat.le_of_ble_eq_true rfl, Nat.le_of_ble_eq_true rfl⟩ ⟨Nat.le_of_ble_eq_true rfl, Nat.le_of_ble_eq_true rfl⟩ rfl rfl rfl hl.1 rfl (Nat.le_of_ble_eq_true rfl) d_Mod_noOrder_10 (c_Mod_noWeek l G ad _ u  _ h) (fun x14 u13 H locs h hP hD hS => ?_)
    refine lv_goto (tgt := 136) hx hb d_Mod_noOrder_13 (by decide) ?_
    exact r_iret hx hb hr hlocks hP hD hS d_Mod_noOrder_136 h
def wp_Mod_member (u : RS) (p1 : Int32) (p2 : Int32) (Post : Int32 → RS → Prop) : Prop := (wp_Mod_isMember u p1 (fun x2 u1 => ((x2 = 0 → Post (-1) u1) ∧ (¬ x2 = 0 → ((p2 = 0 → (vp_in (pf_Mod_of p1 p2) 4306 ∧ Post (u1.1 (pf_Mod_of p1 p2).toNatClampNeg) u1)) ∧ (p2 = 1 → (vp_in (pf_Mod_of p1 p2) 4306 ∧ Post (u1.1 (pf_Mod_of p1 p2).toNatClampNeg) u1)) ∧ (p2 = 2 → (vp_in (pf_Mod_of p1 (p2 + 1)) 4306 ∧ Post (u1.1 (pf_Mod_of p1 (p2 + 1)).toNatClampNeg) u1)) ∧ (p2 = 3 → (vp_in (pf_Mod_of p1 (p2 + 1)) 4306 ∧ Post (u1.1 (pf_Mod_of p1 (p2 + 1)).toNatClampNeg) u1)) ∧ (p2 = 4 → (wp_Mod_waitsAt u1 p1 (fun x4 u3 => Post x4 u3))) ∧ (p2 = 5 → (vp_in (pf_Mod_of p1 5) 4306 ∧ Post (u1.1 (pf_Mod_of p1 5).toNatClampNeg) u1)) ∧ (p2 = 6 → (wp_Mod_goodWeeks u1 p1 (fun x6 u5 => Post x6 u5))) ∧ (p2 = 7 → (wp_Mod_rowOf u1 p1 (fun x8 u7 => Post x8 u7))) ∧ (p2 = 8 → (vp_in (pf_Mod_of p1 (p2 + 1)) 4306 ∧ Post (u1.1 (pf_Mod_of p1 (p2 + 1)).toNatClampNeg) u1)) ∧ (p2 = 9 → (vp_in (pf_Mod_of p1 (p2 + 1)) 4306 ∧ Post (u1.1 (pf_Mod_of p1 (p2 + 1)).toNatClampNeg) u1)) ∧ (p2 = 10 → (vp_in (pf_Mod_of p1 (p2 + 1)) 4306 ∧ Post (u1.1 (pf_Mod_of p1 (p2 + 1)).toNatClampNeg) u1)) ∧ (¬ p2 = 0 → ¬ p2 = 1 → ¬ p2 = 2 → ¬ p2 = 3 → ¬ p2 = 4 → ¬ p2 = 5 → ¬ p2 = 6 → ¬ p2 = 7 → ¬ p2 = 8 → ¬ p2 = 9 → ¬ p2 = 10 → Post (-1) u1))))))
theorem ok_Mod_168 : CallOk y_Mod_waitsAt b_Mod_waitsAt 3 (some .int) 2 1 "HamperClubModel" 168 := ⟨tb_907, tb_909, sl_47, tb_12, tb_910, by decide +kernel⟩
theorem ok_Mod_171 : CallOk y_Mod_goodWeeks b_Mod_goodWeeks 4 (some .int) 2 1 "HamperClubModel" 171 := ⟨tb_911, tb_913, sl_48, tb_12, tb_914, by decide +kernel⟩
theorem ok_Mod_174 : CallOk y_Mod_rowOf b_Mod_rowOf 4 (some .int) 2 1 "HamperClubModel" 174 := ⟨tb_915, tb_917, sl_49, tb_12, tb_918, by decide +kernel⟩
set_option maxHeartbeats 4000000 in
set_option maxRecDepth 100000 in
theorem c_Mod_member (l : Launch) (G : GG) (ad : Nat → Nat) (sz : Nat) (u : RS) (p1 : Int32) (p2 : Int32) (Post : Int32 → RS → Prop) (h : wp_Mod_member u p1 p2 Post) : CMi l y_Mod_member b_Mod_member 3 .int 3 G [.ref (ad 0), .int p1, .int p2] sz (refW G ad u) (refW G ad) Post := by
  refine CMi.start (by decide) (Nat.le_of_ble_eq_true rfl) (fun p e s m below meth c A ls hx hb hr hts hown hml hlocks hA hS hP hD hK hl => ?_)
  unfold wp_Mod_member at h
  have hl : lv_has ls 3 [(0, .ref (ad 0)), (1, .int p1), (2, .int p2)] := hl
  refine lv_aload_n hx hb d_Mod_member_0 rfl (lv_at hl 0 rfl) ?_
  refine lv_iload_n hx hb d_Mod_member_1 rfl (lv_at hl 1 rfl) ?_
  refine call_Vi1 (own := "HamperClubModel") (As := [.int p1]) (rest := []) (q0 := 0) (ci := 9) hx hb hml hts hown hK hA hP hD hS ok_Mod_46 rfl ⟨Nat.le_of_ble_eq_true rfl, Nat.le_of_ble_eq_true rfl⟩ ⟨Nat.le_of_ble_eq_true rfl, Nat.le_of_ble_eq_true rfl⟩ rfl rfl rfl hl.1 rfl (Nat.le_of_ble_eq_true rfl) d_Mod_member_2 (c_Mod_isMember l G ad _ u p1 _ h) (fun x2 u1 H locs h hP hD hS => ?_)
  refine lv_if_ne (tgt := 10) hx hb d_Mod_member_5 (by decide) (fun hc => ?_) (fun hc => ?_)
  · have h := h.2 hc
    refine lv_iload_n hx hb d_Mod_member_10 rfl (lv_at hl 2 rfl) ?_
    by_cases hc0 : p2 = 0
    · have h := h.1 hc0
      refine lv_tableIn (off := 57) (tgt := 68) hx hb d_Mod_member_11 (by rw [hc0]; decide) (by rw [hc0]; decide) (by rw [hc0]; rfl) (by decide) ?_
      refine lv_aload_n hx hb d_Mod_member_68 rfl (lv_at hl 0 rfl) ?_
      refine gR_Mod_row hx hb hts hown hK hP tb_653 d_Mod_member_69 ?_
      refine lv_iload_n hx hb d_Mod_member_72 rfl (lv_at hl 1 rfl) ?_
      refine lv_iload_n hx hb d_Mod_member_73 rfl (lv_at hl 2 rfl) ?_
      refine call_S (As := [.int p1, .int p2]) (rest := [.ref (ad 1)]) hx hb hml hts hown so_Mod_43 rfl ⟨Nat.le_of_ble_eq_true rfl, Nat.le_of_ble_eq_true rfl⟩ ⟨Nat.le_of_ble_eq_true rfl, Nat.le_of_ble_eq_true rfl⟩ hl.1 rfl (Nat.le_of_ble_eq_true rfl) d_Mod_member_74 (k_Mod_of l p1 p2) ?_
      obtain ⟨hi, h⟩ := h
      refine lR_1 hx hb hK hP hi d_Mod_member_77 ?_
      exact r_iret hx hb hr hlocks hP hD hS d_Mod_member_78 h
    by_cases hc1 : p2 = 1
    · have h := h.2.1 hc1
      refine lv_tableIn (off := 57) (tgt := 68) hx hb d_Mod_member_11 (by rw [hc1]; decide) (by rw [hc1]; decide) (by rw [hc1]; rfl) (by decide) ?_
      refine lv_aload_n hx hb d_Mod_member_68 rfl (lv_at hl 0 rfl) ?_
      refine gR_Mod_row hx hb hts hown hK hP tb_653 d_Mod_member_69 ?_
      refine lv_iload_n hx hb d_Mod_member_72 rfl (lv_at hl 1 rfl) ?_
      refine lv_iload_n hx hb d_Mod_member_73 rfl (lv_at hl 2 rfl) ?_
      refine call_S (As := [.int p1, .int p2]) (rest := [.ref (ad 1)]) hx hb hml hts hown so_Mod_43 rfl ⟨Nat.le_of_ble_eq_true rfl, Nat.le_of_ble_eq_true rfl⟩ ⟨Nat.le_of_ble_eq_true rfl, Nat.le_of_ble_eq_true rfl⟩ hl.1 rfl (Nat.le_of_ble_eq_true rfl) d_Mod_member_74 (k_Mod_of l p1 p2) ?_
      obtain ⟨hi, h⟩ := h
      refine lR_1 hx hb hK hP hi d_Mod_member_77 ?_
      exact r_iret hx hb hr hlocks hP hD hS d_Mod_member_78 h
    by_cases hc2 : p2 = 2
    · have h := h.2.2.1 hc2
      refine lv_tableIn (off := 68) (tgt := 79) hx hb d_Mod_member_11 (by rw [hc2]; decide) (by rw [hc2]; decide) (by rw [hc2]; rfl) (by decide) ?_
      refine lv_aload_n hx hb d_Mod_member_79 rfl (lv_at hl 0 rfl) ?_
      refine gR_Mod_row hx hb hts hown hK hP tb_653 d_Mod_member_80 ?_
      refine lv_iload_n hx hb d_Mod_member_83 rfl (lv_at hl 1 rfl) ?_
      refine lv_iload_n hx hb d_Mod_member_84 rfl (lv_at hl 2 rfl) ?_
      refine lv_iconst (v := 1) hx hb d_Mod_member_85 (by decide) ?_
      refine lv_iadd hx hb d_Mod_member_86 ?_
      refine call_S (As := [.int p1, .int (p2 + 1)]) (rest := [.ref (ad 1)]) hx hb hml hts hown so_Mod_43 rfl ⟨Nat.le_of_ble_eq_true rfl, Nat.le_of_ble_eq_true rfl⟩ ⟨Nat.le_of_ble_eq_true rfl, Nat.le_of_ble_eq_true rfl⟩ hl.1 rfl (Nat.le_of_ble_eq_true rfl) d_Mod_member_87 (k_Mod_of l p1 (p2 + 1)) ?_
      obtain ⟨hi, h⟩ := h
      refine lR_1 hx hb hK hP hi d_Mod_member_90 ?_
      exact r_iret hx hb hr hlocks hP hD hS d_Mod_member_91 h
    by_cases hc3 : p2 = 3
    · have h := h.2.2.2.1 hc3
      refine lv_tableIn (off := 68) (tgt := 79) hx hb d_Mod_member_11 (by rw [hc3]; decide) (by rw [hc3]; decide) (by rw [hc3]; rfl) (by decide) ?_
      refine lv_aload_n hx hb d_Mod_member_79 rfl (lv_at hl 0 rfl) ?_
      refine gR_Mod_row hx hb hts hown hK hP tb_653 d_Mod_member_80 ?_
      refine lv_iload_n hx hb d_Mod_member_83 rfl (lv_at hl 1 rfl) ?_
      refine lv_iload_n hx hb d_Mod_member_84 rfl (lv_at hl 2 rfl) ?_
      refine lv_iconst (v := 1) hx hb d_Mod_member_85 (by decide) ?_
      refine lv_iadd hx hb d_Mod_member_86 ?_
      refine call_S (As := [.int p1, .int (p2 + 1)]) (rest := [.ref (ad 1)]) hx hb hml hts hown so_Mod_43 rfl ⟨Nat.le_of_ble_eq_true rfl, Nat.le_of_ble_eq_true rfl⟩ ⟨Nat.le_of_ble_eq_true rfl, Nat.le_of_ble_eq_true rfl⟩ hl.1 rfl (Nat.le_of_ble_eq_true rfl) d_Mod_member_87 (k_Mod_of l p1 (p2 + 1)) ?_
      obtain ⟨hi, h⟩ := h
      refine lR_1 hx hb hK hP hi d_Mod_member_90 ?_
      exact r_iret hx hb hr hlocks hP hD hS d_Mod_member_91 h
    by_cases hc4 : p2 = 4
    · have h := h.2.2.2.2.1 hc4
      refine lv_tableIn (off := 81) (tgt := 92) hx hb d_Mod_member_11 (by rw [hc4]; decide) (by rw [hc4]; decide) (by rw [hc4]; rfl) (by decide) ?_
      refine lv_aload_n hx hb d_Mod_member_92 rfl (lv_at hl 0 rfl) ?_
      refine lv_iload_n hx hb d_Mod_member_93 rfl (lv_at hl 1 rfl) ?_
      refine call_Vi1 (own := "HamperClubModel") (As := [.int p1]) (rest := []) (q0 := 0) (ci := 9) hx hb hml hts hown hK hA hP hD hS ok_Mod_168 rfl ⟨Nat.le_of_ble_eq_true rfl, Nat.le_of_ble_eq_true rfl⟩ ⟨Nat.le_of_ble_eq_true rfl, Nat.le_of_ble_eq_true rfl⟩ rfl rfl rfl hl.1 rfl (Nat.le_of_ble_eq_true rfl) d_Mod_member_94 (c_Mod_waitsAt l G ad _ u1 p1 _ h) (fun x4 u3 H locs h hP hD hS => ?_)
      exact r_iret hx hb hr hlocks hP hD hS d_Mod_member_97 h
    by_cases hc5 : p2 = 5
    · have h := h.2.2.2.2.2.1 hc5
      refine lv_tableIn (off := 87) (tgt := 98) hx hb d_Mod_member_11 (by rw [hc5]; decide) (by rw [hc5]; decide) (by rw [hc5]; rfl) (by decide) ?_
      refine lv_aload_n hx hb d_Mod_member_98 rfl (lv_at hl 0 rfl) ?_
      refine gR_Mod_row hx hb hts hown hK hP tb_653 d_Mod_member_99 ?_
      refine lv_iload_n hx hb d_Mod_member_102 rfl (lv_at hl 1 rfl) ?_
      refine lv_iconst (v := 5) hx hb d_Mod_member_103 (by decide) ?_
      refine call_S (As := [.int p1, .int 5]) (rest := [.ref (ad 1)]) hx hb hml hts hown so_Mod_43 rfl ⟨Nat.le_of_ble_eq_true rfl, Nat.le_of_ble_eq_true rfl⟩ ⟨Nat.le_of_ble_eq_true rfl, Nat.le_of_ble_eq_true rfl⟩ hl.1 rfl (Nat.le_of_ble_eq_true rfl) d_Mod_member_104 (k_Mod_of l p1 5) ?_
      obtain ⟨hi, h⟩ := h
      refine lR_1 hx hb hK hP hi d_Mod_member_107 ?_
      exact r_iret hx hb hr hlocks hP hD hS d_Mod_member_108 h
    by_cases hc6 : p2 = 6
    · have h := h.2.2.2.2.2.2.1 hc6
      refine lv_tableIn (off := 98) (tgt := 109) hx hb d_Mod_member_11 (by rw [hc6]; decide) (by rw [hc6]; decide) (by rw [hc6]; rfl) (by decide) ?_
      refine lv_aload_n hx hb d_Mod_member_109 rfl (lv_at hl 0 rfl) ?_
      refine lv_iload_n hx hb d_Mod_member_110 rfl (lv_at hl 1 rfl) ?_
      refine call_Vi1 (own := "HamperClubModel") (As := [.int p1]) (rest := []) (q0 := 0) (ci := 9) hx hb hml hts hown hK hA hP hD hS ok_Mod_171 rfl ⟨Nat.le_of_ble_eq_true rfl, Nat.le_of_ble_eq_true rfl⟩ ⟨Nat.le_of_ble_eq_true rfl, Nat.le_of_ble_eq_true rfl⟩ rfl rfl rfl hl.1 rfl (Nat.le_of_ble_eq_true rfl) d_Mod_member_111 (c_Mod_goodWeeks l G ad _ u1 p1 _ h) (fun x6 u5 H locs h hP hD hS => ?_)
      exact r_iret hx hb hr hlocks hP hD hS d_Mod_member_114 h
    by_cases hc7 : p2 = 7
    · have h := h.2.2.2.2.2.2.2.1 hc7
      refine lv_tableIn (off := 104) (tgt := 115) hx hb d_Mod_member_11 (by rw [hc7]; decide) (by rw [hc7]; decide) (by rw [hc7]; rfl) (by decide) ?_
      refine lv_aload_n hx hb d_Mod_member_115 rfl (lv_at hl 0 rfl) ?_
      refine lv_iload_n hx hb d_Mod_member_116 rfl (lv_at hl 1 rfl) ?_
      refine call_Vi1 (own := "HamperClubModel") (As := [.int p1]) (rest := []) (q0 := 0) (ci := 9) hx hb hml hts hown hK hA hP hD hS ok_Mod_174 rfl ⟨Nat.le_of_ble_eq_true rfl, Nat.le_of_ble_eq_true rfl⟩ ⟨Nat.le_of_ble_eq_true rfl, Nat.le_of_ble_eq_true rfl⟩ rfl rfl rfl hl.1 rfl (Nat.le_of_ble_eq_true rfl) d_Mod_member_117 (c_Mod_rowOf l G ad _ u1 p1 _ h) (fun x8 u7 H locs h hP hD hS => ?_)
      exact r_iret hx hb hr hlocks hP hD hS d_Mod_member_120 h
    by_cases hc8 : p2 = 8
    · have h := h.2.2.2.2.2.2.2.2.1 hc8
      refine lv_tableIn (off := 110) (tgt := 121) hx hb d_Mod_member_11 (by rw [hc8]; decide) (by rw [hc8]; decide) (by rw [hc8]; rfl) (by decide) ?_
      refine lv_aload_n hx hb d_Mod_member_121 rfl (lv_at hl 0 rfl) ?_
      refine gR_Mod_row hx hb hts hown hK hP tb_653 d_Mod_member_122 ?_
      refine lv_iload_n hx hb d_Mod_member_125 rfl (lv_at hl 1 rfl) ?_
      refine lv_iload_n hx hb d_Mod_member_126 rfl (lv_at hl 2 rfl) ?_
      refine lv_iconst (v := 1) hx hb d_Mod_member_127 (by decide) ?_
      refine lv_iadd hx hb d_Mod_member_128 ?_
      refine call_S (As := [.int p1, .int (p2 + 1)]) (rest := [.ref (ad 1)]) hx hb hml hts hown so_Mod_43 rfl ⟨Nat.le_of_ble_eq_true rfl, Nat.le_of_ble_eq_true rfl⟩ ⟨Nat.le_of_ble_eq_true rfl, Nat.le_of_ble_eq_true rfl⟩ hl.1 rfl (Nat.le_of_ble_eq_true rfl) d_Mod_member_129 (k_Mod_of l p1 (p2 + 1)) ?_
      obtain ⟨hi, h⟩ := h
      refine lR_1 hx hb hK hP hi d_Mod_member_132 ?_
      exact r_iret hx hb hr hlocks hP hD hS d_Mod_member_133 h
    by_cases hc9 : p2 = 9
    · have h := h.2.2.2.2.2.2.2.2.2.1 hc9
      refine lv_tableIn (off := 110) (tgt := 121) hx hb d_Mod_member_11 (by rw [hc9]; decide) (by rw [hc9]; decide) (by rw [hc9]; rfl) (by decide) ?_
      refine lv_aload_n hx hb d_Mod_member_121 rfl (lv_at hl 0 rfl) ?_
      refine gR_Mod_row hx hb hts hown hK hP tb_653 d_Mod_member_122 ?_
      refine lv_iload_n hx hb d_Mod_member_125 rfl (lv_at hl 1 rfl) ?_
      refine lv_iload_n hx hb d_Mod_member_126 rfl (lv_at hl 2 rfl) ?_
      refine lv_iconst (v := 1) hx hb d_Mod_member_127 (by decide) ?_
      refine lv_iadd hx hb d_Mod_member_128 ?_
      refine call_S (As := [.int p1, .int (p2 + 1)]) (rest := [.ref (ad 1)]) hx hb hml hts hown so_Mod_43 rfl ⟨Nat.le_of_ble_eq_true rfl, Nat.le_of_ble_eq_true rfl⟩ ⟨Nat.le_of_ble_eq_true rfl, Nat.le_of_ble_eq_true rfl⟩ hl.1 rfl (Nat.le_of_ble_eq_true rfl) d_Mod_member_129 (k_Mod_of l p1 (p2 + 1)) ?_
      obtain ⟨hi, h⟩ := h
      refine lR_1 hx hb hK hP hi d_Mod_member_132 ?_
      exact r_iret hx hb hr hlocks hP hD hS d_Mod_member_133 h
    by_cases hc10 : p2 = 10
    · have h := h.2.2.2.2.2.2.2.2.2.2.1 hc10
      refine lv_tableIn (off := 110) (tgt := 121) hx hb d_Mod_member_11 (by rw [hc10]; decide) (by rw [hc10]; decide) (by rw [hc10]; rfl) (by decide) ?_
      refine lv_aload_n hx hb d_Mod_member_121 rfl (lv_at hl 0 rfl) ?_
      refine gR_Mod_row hx hb hts hown hK hP tb_653 d_Mod_member_122 ?_
      refine lv_iload_n hx hb d_Mod_member_125 rfl (lv_at hl 1 rfl) ?_
      refine lv_iload_n hx hb d_Mod_member_126 rfl (lv_at hl 2 rfl) ?_
      refine lv_iconst (v := 1) hx hb d_Mod_member_127 (by decide) ?_
      refine lv_iadd hx hb d_Mod_member_128 ?_
      refine call_S (As := [.int p1, .int (p2 + 1)]) (rest := [.ref (ad 1)]) hx hb hml hts hown so_Mod_43 rfl ⟨Nat.le_of_ble_eq_true rfl, Nat.le_of_ble_eq_true rfl⟩ ⟨Nat.le_of_ble_eq_true rfl, Nat.le_of_ble_eq_true rfl⟩ hl.1 rfl (Nat.le_of_ble_eq_true rfl) d_Mod_member_129 (k_Mod_of l p1 (p2 + 1)) ?_
      obtain ⟨hi, h⟩ := h
      refine lR_1 hx hb hK hP hi d_Mod_member_132 ?_
      exact r_iret hx hb hr hlocks hP hD hS d_Mod_member_133 h
    have h := h.2.2.2.2.2.2.2.2.2.2.2
    have h := h hc0
    have h := h hc1
    have h := h hc2
    have h := h hc3
    have h := h hc4
    have h := h hc5
    have h := h hc6
    have h := h hc7
    have h := h hc8
    have h := h hc9
    have h := h hc10
    refine lv_tableOut (tgt := 134) hx hb d_Mod_member_11 (tb_out (lo := 0) (n := 10) (by decide) (fun k hk => by rcases (show k = 0 ∨ k = 1 ∨ k = 2 ∨ k = 3 ∨ k = 4 ∨ k = 5 ∨ k = 6 ∨ k = 7 ∨ k = 8 ∨ k = 9 ∨ k = 10 by omega) with rfl | rfl | rfl | rfl | rfl | rfl | rfl | rfl | rfl | rfl | rfl <;> first | exact hc0 | exact hc1 | exact hc2 | exact hc3 | exact hc4 | exact hc5 | exact hc6 | exact hc7 | exact hc8 | exact hc9 | exact hc10)) (by decide) ?_
    refine lv_iconst (v := (-1)) hx hb d_Mod_member_134 (by decide) ?_
    exact r_iret hx hb hr hlocks hP hD hS d_Mod_member_135 h
  · have h := h.1 hc
    refine lv_iconst (v := (-1)) hx hb d_Mod_member_8 (by decide) ?_
    exact r_iret hx hb hr hlocks hP hD hS d_Mod_member_9 h
def wp_Mod_doChoose (u : RS) (p1 : Int32) (p2 : Int32) (Post : Int32 → RS → Prop) : Prop := (vp_in (pf_Mod_of p1 3) 4306 ∧ (((u.1 (pf_Mod_of p1 3).toNatClampNeg) = (-9) → (vp_in (pf_Mod_of p1 3) 4306 ∧ (∀ u1 : RS, u1 = (rR u (upd u.1 (pf_Mod_of p1 3).toNatClampNeg p2)) → (vp_in (pf_Mod_ofKind p2 1) 4306 ∧ (((u1.1 (pf_Mod_ofKind p2 1).toNatClampNeg) ≤ 0 → (vp_in (pf_Mod_ofKind p2 2) 4306 ∧ (vp_in (pf_Mod_ofKind p2 (3 + (u1.1 (pf_Mod_ofKind p2 2).toNatClampNeg))) 4306 ∧ (∀ u2 : RS, u2 = (rR u1 (upd u1.1 (pf_Mod_ofKind p2 (3 + (u1.1 (pf_Mod_ofKind p2 2).toNatClampNeg))).toNatClampNeg p1)) → (vp_in (pf_Mod_ofKind p2 2) 4306 ∧ (vp_in (pf_Mod_ofKind p2 2) 4306 ∧ (∀ u3 : RS, u3 = (rR u2 (upd u2.1 (pf_Mod_ofKind p2 2).toNatClampNeg ((u2.1 (pf_Mod_ofKind p2 2).toNatClampNeg) + 1))) → (vp_in (pf_Mod_ofKind p2 2) 4306 ∧ Post (u3.1 (pf_Mod_ofKind p2 2).toNatClampNeg) u3)))))))) ∧ (¬ (u1.1 (pf_Mod_ofKind p2 1).toNatClampNeg) ≤ 0 → (vp_in (pf_Mod_ofKind p2 1) 4306 ∧ (vp_in (pf_Mod_ofKind p2 1) 4306 ∧ (∀ u4 : RS, u4 = (rR u1 (upd u1.1 (pf_Mod_ofKind p2 1).toNatClampNeg ((u1.1 (pf_Mod_ofKind p2 1).toNatClampNeg) - 1))) → (vp_in (pf_Mod_of p1 4) 4306 ∧ (∀ u5 : RS, u5 = (rR u4 (upd u4.1 (pf_Mod_of p1 4).toNatClampNeg 1)) → Post 0 u5))))))))))) ∧ (¬ (u.1 (pf_Mod_of p1 3).toNatClampNeg) = (-9) → (wp_Mod_drop u p1 (fun x7 u6 => (vp_in (pf_Mod_of p1 3) 4306 ∧ (∀ u8 : RS, u8 = (rR u6 (upd u6.1 (pf_Mod_of p1 3).toNatClampNeg p2)) → (vp_in (pf_Mod_ofKind p2 1) 4306 ∧ (((u8.1 (pf_Mod_ofKind p2 1).toNatClampNeg) ≤ 0 → (vp_in (pf_Mod_ofKind p2 2) 4306 ∧ (vp_in (pf_Mod_ofKind p2 (3 + (u8.1 (pf_Mod_ofKind p2 2).toNatClampNeg))) 4306 ∧ (∀ u9 : RS, u9 = (rR u8 (upd u8.1 (pf_Mod_ofKind p2 (3 + (u8.1 (pf_Mod_ofKind p2 2).toNatClampNeg))).toNatClampNeg p1)) → (vp_in (pf_Mod_ofKind p2 2) 4306 ∧ (vp_in (pf_Mod_ofKind p2 2) 4306 ∧ (∀ u10 : RS, u10 = (rR u9 (upd u9.1 (pf_Mod_ofKind p2 2).toNatClampNeg ((u9.1 (pf_Mod_ofKind p2 2).toNatClampNeg) + 1))) → (vp_in (pf_Mod_ofKind p2 2) 4306 ∧ Post (u10.1 (pf_Mod_ofKind p2 2).toNatClampNeg) u10)))))))) ∧ (¬ (u8.1 (pf_Mod_ofKind p2 1).toNatClampNeg) ≤ 0 → (vp_in (pf_Mod_ofKind p2 1) 4306 ∧ (vp_in (pf_Mod_ofKind p2 1) 4306 ∧ (∀ u11 : RS, u11 = (rR u8 (upd u8.1 (pf_Mod_ofKind p2 1).toNatClampNeg ((u8.1 (pf_Mod_ofKind p2 1).toNatClampNeg) - 1))) → (vp_in (pf_Mod_of p1 4) 4306 ∧ (∀ u12 : RS, u12 = (rR u11 (upd u11.1 (pf_Mod_of p1 4).toNatClampNeg 1)) → Post 0 u12)))))))))))))))
theorem ok_Mod_98 : CallOk y_Mod_drop b_Mod_drop 4 (some .int) 3 1 "HamperClubModel" 98 := ⟨tb_799, tb_801, sl_28, tb_12, tb_802, by decide +kernel⟩
set_option maxHeartbeats 4000000 in
set_option maxRecDepth 100000 in
theorem c_Mod_doChoose (l : Launch) (G : GG) (ad : Nat → Nat) (sz : Nat) (u : RS) (p1 : Int32) (p2 : Int32) (Post : Int32 → RS → Prop) (h : wp_Mod_doChoose u p1 p2 Post) : CMi l y_Mod_doChoose b_Mod_doChoose 3 .int 4 G [.ref (ad 0), .int p1, .int p2] sz (refW G ad u) (refW G ad) Post := by
  refine CMi.start (by decide) (Nat.le_of_ble_eq_true rfl) (fun p e s m below meth c A ls hx hb hr hts hown hml hlocks hA hS hP hD hK hl => ?_)
  unfold wp_Mod_doChoose at h
  have hl : lv_has ls 3 [(0, .ref (ad 0)), (1, .int p1), (2, .int p2)] := hl
  refine lv_aload_n hx hb d_Mod_doChoose_0 rfl (lv_at hl 0 rfl) ?_
  refine gR_Mod_row hx hb hts hown hK hP tb_653 d_Mod_doChoose_1 ?_
  refine lv_iload_n hx hb d_Mod_doChoose_4 rfl (lv_at hl 1 rfl) ?_
  refine lv_iconst (v := 3) hx hb d_Mod_doChoose_5 (by decide) ?_
  refine call_S (As := [.int p1, .int 3]) (rest := [.ref (ad 1)]) hx hb hml hts hown so_Mod_43 rfl ⟨Nat.le_of_ble_eq_true rfl, Nat.le_of_ble_eq_true rfl⟩ ⟨Nat.le_of_ble_eq_true rfl, Nat.le_of_ble_eq_true rfl⟩ hl.1 rfl (Nat.le_of_ble_eq_true rfl) d_Mod_doChoose_6 (k_Mod_of l p1 3) ?_
  obtain ⟨hi, h⟩ := h
  refine lR_1 hx hb hK hP hi d_Mod_doChoose_9 ?_
  refine lv_bipush (v := (-9)) hx hb d_Mod_doChoose_10 (by decide) ?_
  refine lv_icmp_eq (tgt := 21) hx hb d_Mod_doChoose_12 (by decide) (fun hc => ?_) (fun hc => ?_)
  · have h := h.1 hc
    refine lv_aload_n hx hb d_Mod_doChoose_21 rfl (lv_at hl 0 rfl) ?_
    refine gR_Mod_row hx hb hts hown hK hP tb_653 d_Mod_doChoose_22 ?_
    refine lv_iload_n hx hb d_Mod_doChoose_25 rfl (lv_at hl 1 rfl) ?_
    refine lv_iconst (v := 3) hx hb d_Mod_doChoose_26 (by decide) ?_
    refine call_S (As := [.int p1, .int 3]) (rest := [.ref (ad 1)]) hx hb hml hts hown so_Mod_43 rfl ⟨Nat.le_of_ble_eq_true rfl, Nat.le_of_ble_eq_true rfl⟩ ⟨Nat.le_of_ble_eq_true rfl, Nat.le_of_ble_eq_true rfl⟩ hl.1 rfl (Nat.le_of_ble_eq_true rfl) d_Mod_doChoose_27 (k_Mod_of l p1 3) ?_
    refine lv_iload_n hx hb d_Mod_doChoose_30 rfl (lv_at hl 2 rfl) ?_
    obtain ⟨hi, h⟩ := h
    refine sR_1 hx hb hK hP hD hS hi d_Mod_doChoose_31 (fun u1 H locs eu1 hP hD hS => ?_)
    have h := h u1 eu1
    refine lv_aload_n hx hb d_Mod_doChoose_32 rfl (lv_at hl 0 rfl) ?_
    refine gR_Mod_row hx hb hts hown hK hP tb_653 d_Mod_doChoose_33 ?_
    refine lv_iload_n hx hb d_Mod_doChoose_36 rfl (lv_at hl 2 rfl) ?_
    refine lv_iconst (v := 1) hx hb d_Mod_doChoose_37 (by decide) ?_
    refine call_S (As := [.int p2, .int 1]) (rest := [.ref (ad 1)]) hx hb hml hts hown so_Mod_20 rfl ⟨Nat.le_of_ble_eq_true rfl, Nat.le_of_ble_eq_true rfl⟩ ⟨Nat.le_of_ble_eq_true rfl, Nat.le_of_ble_eq_true rfl⟩ hl.1 rfl (Nat.le_of_ble_eq_true rfl) d_Mod_doChoose_38 (k_Mod_ofKind l p2 1) ?_
    obtain ⟨hi, h⟩ := h
    refine lR_1 hx hb hK hP hi d_Mod_doChoose_41 ?_
    refine lv_if_le (tgt := 72) hx hb d_Mod_doChoose_42 (by decide) (fun hc => ?_) (fun hc => ?_)
    · have h := h.1 hc
      refine lv_aload_n hx hb d_Mod_doChoose_72 rfl (lv_at hl 0 rfl) ?_
      refine gR_Mod_row hx hb hts hown hK hP tb_653 d_Mod_doChoose_73 ?_
      refine lv_iload_n hx hb d_Mod_doChoose_76 rfl (lv_at hl 2 rfl) ?_
      refine lv_iconst (v := 3) hx hb d_Mod_doChoose_77 (by decide) ?_
      refine lv_aload_n hx hb d_Mod_doChoose_78 rfl (lv_at hl 0 rfl) ?_
      refine gR_Mod_row hx hb hts hown hK hP tb_653 d_Mod_doChoose_79 ?_
      refine lv_iload_n hx hb d_Mod_doChoose_82 rfl (lv_at hl 2 rfl) ?_
      refine lv_iconst (v := 2) hx hb d_Mod_doChoose_83 (by decide) ?_
      refine call_S (As := [.int p2, .int 2]) (rest := [.ref (ad 1), .int 3, .int p2, .ref (ad 1)]) hx hb hml hts hown so_Mod_20 rfl ⟨Nat.le_of_ble_eq_true rfl, Nat.le_of_ble_eq_true rfl⟩ ⟨Nat.le_of_ble_eq_true rfl, Nat.le_of_ble_eq_true rfl⟩ hl.1 rfl (Nat.le_of_ble_eq_true rfl) d_Mod_doChoose_84 (k_Mod_ofKind l p2 2) ?_
      obtain ⟨hi, h⟩ := h
      refine lR_1 hx hb hK hP hi d_Mod_doChoose_87 ?_
      refine lv_iadd hx hb d_Mod_doChoose_88 ?_
      refine call_S (As := [.int p2, .int (3 + (u1.1 (pf_Mod_ofKind p2 2).toNatClampNeg))]) (rest := [.ref (ad 1)]) hx hb hml hts hown so_Mod_20 rfl ⟨Nat.le_of_ble_eq_true rfl, Nat.le_of_ble_eq_true rfl⟩ ⟨Nat.le_of_ble_eq_true rfl, Nat.le_of_ble_eq_true rfl⟩ hl.1 rfl (Nat.le_of_ble_eq_true rfl) d_Mod_doChoose_89 (k_Mod_ofKind l p2 (3 + (u1.1 (pf_Mod_ofKind p2 2).toNatClampNeg))) ?_
      refine lv_iload_n hx hb d_Mod_doChoose_92 rfl (lv_at hl 1 rfl) ?_
      obtain ⟨hi, h⟩ := h
      refine sR_1 hx hb hK hP hD hS hi d_Mod_doChoose_93 (fun u2 H locs eu2 hP hD hS => ?_)
      have h := h u2 eu2
      refine lv_aload_n hx hb d_Mod_doChoose_94 rfl (lv_at hl 0 rfl) ?_
      refine gR_Mod_row hx hb hts hown hK hP tb_653 d_Mod_doChoose_95 ?_
      refine lv_iload_n hx hb d_Mod_doChoose_98 rfl (lv_at hl 2 rfl) ?_
      refine lv_iconst (v := 2) hx hb d_Mod_doChoose_99 (by decide) ?_
      refine call_S (As := [.int p2, .int 2]) (rest := [.ref (ad 1)]) hx hb hml hts hown so_Mod_20 rfl ⟨Nat.le_of_ble_eq_true rfl, Nat.le_of_ble_eq_true rfl⟩ ⟨Nat.le_of_ble_eq_true rfl, Nat.le_of_ble_eq_true rfl⟩ hl.1 rfl (Nat.le_of_ble_eq_true rfl) d_Mod_doChoose_100 (k_Mod_ofKind l p2 2) ?_
      refine lv_dup2_11 hx hb d_Mod_doChoose_103 rfl rfl ?_
      obtain ⟨hi, h⟩ := h
      refine lR_1 hx hb hK hP hi d_Mod_doChoose_104 ?_
      refine lv_iconst (v := 1) hx hb d_Mod_doChoose_105 (by decide) ?_
      refine lv_iadd hx hb d_Mod_doChoose_106 ?_
      obtain ⟨hi, h⟩ := h
      refine sR_1 hx hb hK hP hD hS hi d_Mod_doChoose_107 (fun u3 H locs eu3 hP hD hS => ?_)
      have h := h u3 eu3
      refine lv_aload_n hx hb d_Mod_doChoose_108 rfl (lv_at hl 0 rfl) ?_
      refine gR_Mod_row hx hb hts hown hK hP tb_653 d_Mod_doChoose_109 ?_
      refine lv_iload_n hx hb d_Mod_doChoose_112 rfl (lv_at hl 2 rfl) ?_
      refine lv_iconst (v := 2) hx hb d_Mod_doChoose_113 (by decide) ?_
      refine call_S (As := [.int p2, .int 2]) (rest := [.ref (ad 1)]) hx hb hml hts hown so_Mod_20 rfl ⟨Nat.le_of_ble_eq_true rfl, Nat.le_of_ble_eq_true rfl⟩ ⟨Nat.le_of_ble_eq_true rfl, Nat.le_of_ble_eq_true rfl⟩ hl.1 rfl (Nat.le_of_ble_eq_true rfl) d_Mod_doChoose_114 (k_Mod_ofKind l p2 2) ?_
      obtain ⟨hi, h⟩ := h
      refine lR_1 hx hb hK hP hi d_Mod_doChoose_117 ?_
      exact r_iret hx hb hr hlocks hP hD hS d_Mod_doChoose_118 h
    · have h := h.2 hc
      refine lv_aload_n hx hb d_Mod_doChoose_45 rfl (lv_at hl 0 rfl) ?_
      refine gR_Mod_row hx hb hts hown hK hP tb_653 d_Mod_doChoose_46 ?_
      refine lv_iload_n hx hb d_Mod_doChoose_49 rfl (lv_at hl 2 rfl) ?_
      refine lv_iconst (v := 1) hx hb d_Mod_doChoose_50 (by decide) ?_
      refine call_S (As := [.int p2, .int 1]) (rest := [.ref (ad 1)]) hx hb hml hts hown so_Mod_20 rfl ⟨Nat.le_of_ble_eq_true rfl, Nat.le_of_ble_eq_true rfl⟩ ⟨Nat.le_of_ble_eq_true rfl, Nat.le_of_ble_eq_true rfl⟩ hl.1 rfl (Nat.le_of_ble_eq_true rfl) d_Mod_doChoose_51 (k_Mod_ofKind l p2 1) ?_
      refine lv_dup2_11 hx hb d_Mod_doChoose_54 rfl rfl ?_
      obtain ⟨hi, h⟩ := h
      refine lR_1 hx hb hK hP hi d_Mod_doChoose_55 ?_
      refine lv_iconst (v := 1) hx hb d_Mod_doChoose_56 (by decide) ?_
      refine lv_isub hx hb d_Mod_doChoose_57 ?_
      obtain ⟨hi, h⟩ := h
      refine sR_1 hx hb hK hP hD hS hi d_Mod_doChoose_58 (fun u4 H locs eu4 hP hD hS => ?_)
      have h := h u4 eu4
      refine lv_aload_n hx hb d_Mod_doChoose_59 rfl (lv_at hl 0 rfl) ?_
      refine gR_Mod_row hx hb hts hown hK hP tb_653 d_Mod_doChoose_60 ?_
      refine lv_iload_n hx hb d_Mod_doChoose_63 rfl (lv_at hl 1 rfl) ?_
      refine lv_iconst (v := 4) hx hb d_Mod_doChoose_64 (by decide) ?_
      refine call_S (As := [.int p1, .int 4]) (rest := [.ref (ad 1)]) hx hb hml hts hown so_Mod_43 rfl ⟨Nat.le_of_ble_eq_true rfl, Nat.le_of_ble_eq_true rfl⟩ ⟨Nat.le_of_ble_eq_true rfl, Nat.le_of_ble_eq_true rfl⟩ hl.1 rfl (Nat.le_of_ble_eq_true rfl) d_Mod_doChoose_65 (k_Mod_of l p1 4) ?_
      refine lv_iconst (v := 1) hx hb d_Mod_doChoose_68 (by decide) ?_
      obtain ⟨hi, h⟩ := h
      refine sR_1 hx hb hK hP hD hS hi d_Mod_doChoose_69 (fun u5 H locs eu5 hP hD hS => ?_)
      have h := h u5 eu5
      refine lv_iconst (v := 0) hx hb d_Mod_doChoose_70 (by decide) ?_
      exact r_iret hx hb hr hlocks hP hD hS d_Mod_doChoose_71 h
  · have h := h.2 hc
    refine lv_aload_n hx hb d_Mod_doChoose_15 rfl (lv_at hl 0 rfl) ?_
    refine lv_iload_n hx hb d_Mod_doChoose_16 rfl (lv_at hl 1 rfl) ?_
    refine call_Vi1 (own := "HamperClubModel") (As := [.int p1]) (rest := []) (q0 := 0) (ci := 9) hx hb hml hts hown hK hA hP hD hS ok_Mod_98 rfl ⟨Nat.le_of_ble_eq_true rfl, Nat.le_of_ble_eq_true rfl⟩ ⟨Nat.le_of_ble_eq_true rfl, Nat.le_of_ble_eq_true rfl⟩ rfl rfl rfl hl.1 rfl (Nat.le_of_ble_eq_true rfl) d_Mod_doChoose_17 (c_Mod_drop l G ad _ u p1 _ h) (fun x7 u6 H locs h hP hD hS => ?_)
    refine lv_pop hx hb d_Mod_doChoose_20 rfl ?_
    refine lv_aload_n hx hb d_Mod_doChoose_21 rfl (lv_at hl 0 rfl) ?_
    refine gR_Mod_row hx hb hts hown hK hP tb_653 d_Mod_doChoose_22 ?_
    refine lv_iload_n hx hb d_Mod_doChoose_25 rfl (lv_at hl 1 rfl) ?_
    refine lv_iconst (v := 3) hx hb d_Mod_doChoose_26 (by decide) ?_
    refine call_S (As := [.int p1, .int 3]) (rest := [.ref (ad 1)]) hx hb hml hts hown so_Mod_43 rfl ⟨Nat.le_of_ble_eq_true rfl, Nat.le_of_ble_eq_true rfl⟩ ⟨Nat.le_of_ble_eq_true rfl, Nat.le_of_ble_eq_true rfl⟩ hl.1 rfl (Nat.le_of_ble_eq_true rfl) d_Mod_doChoose_27 (k_Mod_of l p1 3) ?_
    refine lv_iload_n hx hb d_Mod_doChoose_30 rfl (lv_at hl 2 rfl) ?_
    obtain ⟨hi, h⟩ := h
    refine sR_1 hx hb hK hP hD hS hi d_Mod_doChoose_31 (fun u8 H locs eu8 hP hD hS => ?_)
    have h := h u8 eu8
    refine lv_aload_n hx hb d_Mod_doChoose_32 rfl (lv_at hl 0 rfl) ?_
    refine gR_Mod_row hx hb hts hown hK hP tb_653 d_Mod_doChoose_33 ?_
    refine lv_iload_n hx hb d_Mod_doChoose_36 rfl (lv_at hl 2 rfl) ?_
    refine lv_iconst (v := 1) hx hb d_Mod_doChoose_37 (by decide) ?_
    refine call_S (As := [.int p2, .int 1]) (rest := [.ref (ad 1)]) hx hb hml hts hown so_Mod_20 rfl ⟨Nat.le_of_ble_eq_true rfl, Nat.le_of_ble_eq_true rfl⟩ ⟨Nat.le_of_ble_eq_true rfl, Nat.le_of_ble_eq_true rfl⟩ hl.1 rfl (Nat.le_of_ble_eq_true rfl) d_Mod_doChoose_38 (k_Mod_ofKind l p2 1) ?_
    obtain ⟨hi, h⟩ := h
    refine lR_1 hx hb hK hP hi d_Mod_doChoose_41 ?_
    refine lv_if_le (tgt := 72) hx hb d_Mod_doChoose_42 (by decide) (fun hc => ?_) (fun hc => ?_)
    · have h := h.1 hc
      refine lv_aload_n hx hb d_Mod_doChoose_72 rfl (lv_at hl 0 rfl) ?_
      refine gR_Mod_row hx hb hts hown hK hP tb_653 d_Mod_doChoose_73 ?_
      refine lv_iload_n hx hb d_Mod_doChoose_76 rfl (lv_at hl 2 rfl) ?_
      refine lv_iconst (v := 3) hx hb d_Mod_doChoose_77 (by decide) ?_
      refine lv_aload_n hx hb d_Mod_doChoose_78 rfl (lv_at hl 0 rfl) ?_
      refine gR_Mod_row hx hb hts hown hK hP tb_653 d_Mod_doChoose_79 ?_
      refine lv_iload_n hx hb d_Mod_doChoose_82 rfl (lv_at hl 2 rfl) ?_
      refine lv_iconst (v := 2) hx hb d_Mod_doChoose_83 (by decide) ?_
      refine call_S (As := [.int p2, .int 2]) (rest := [.ref (ad 1), .int 3, .int p2, .ref (ad 1)]) hx hb hml hts hown so_Mod_20 rfl ⟨Nat.le_of_ble_eq_true rfl, Nat.le_of_ble_eq_true rfl⟩ ⟨Nat.le_of_ble_eq_true rfl, Nat.le_of_ble_eq_true rfl⟩ hl.1 rfl (Nat.le_of_ble_eq_true rfl) d_Mod_doChoose_84 (k_Mod_ofKind l p2 2) ?_
      obtain ⟨hi, h⟩ := h
      refine lR_1 hx hb hK hP hi d_Mod_doChoose_87 ?_
      refine lv_iadd hx hb d_Mod_doChoose_88 ?_
      refine call_S (As := [.int p2, .int (3 + (u8.1 (pf_Mod_ofKind p2 2).toNatClampNeg))]) (rest := [.ref (ad 1)]) hx hb hml hts hown so_Mod_20 rfl ⟨Nat.le_of_ble_eq_true rfl, Nat.le_of_ble_eq_true rfl⟩ ⟨Nat.le_of_ble_eq_true rfl, Nat.le_of_ble_eq_true rfl⟩ hl.1 rfl (Nat.le_of_ble_eq_true rfl) d_Mod_doChoose_89 (k_Mod_ofKind l p2 (3 + (u8.1 (pf_Mod_ofKind p2 2).toNatClampNeg))) ?_
      refine lv_iload_n hx hb d_Mod_doChoose_92 rfl (lv_at hl 1 rfl) ?_
      obtain ⟨hi, h⟩ := h
      refine sR_1 hx hb hK hP hD hS hi d_Mod_doChoose_93 (fun u9 H locs eu9 hP hD hS => ?_)
      have h := h u9 eu9
      refine lv_aload_n hx hb d_Mod_doChoose_94 rfl (lv_at hl 0 rfl) ?_
      refine gR_Mod_row hx hb hts hown hK hP tb_653 d_Mod_doChoose_95 ?_
      refine lv_iload_n hx hb d_Mod_doChoose_98 rfl (lv_at hl 2 rfl) ?_
      refine lv_iconst (v := 2) hx hb d_Mod_doChoose_99 (by decide) ?_
      refine call_S (As := [.int p2, .int 2]) (rest := [.ref (ad 1)]) hx hb hml hts hown so_Mod_20 rfl ⟨Nat.le_of_ble_eq_true rfl, Nat.le_of_ble_eq_true rfl⟩ ⟨Nat.le_of_ble_eq_true rfl, Nat.le_of_ble_eq_true rfl⟩ hl.1 rfl (Nat.le_of_ble_eq_true rfl) d_Mod_doChoose_100 (k_Mod_ofKind l p2 2) ?_
      refine lv_dup2_11 hx hb d_Mod_doChoose_103 rfl rfl ?_
      obtain ⟨hi, h⟩ := h
      refine lR_1 hx hb hK hP hi d_Mod_doChoose_104 ?_
      refine lv_iconst (v := 1) hx hb d_Mod_doChoose_105 (by decide) ?_
      refine lv_iadd hx hb d_Mod_doChoose_106 ?_
      obtain ⟨hi, h⟩ := h
      refine sR_1 hx hb hK hP hD hS hi d_Mod_doChoose_107 (fun u10 H locs eu10 hP hD hS => ?_)
      have h := h u10 eu10
      refine lv_aload_n hx hb d_Mod_doChoose_108 rfl (lv_at hl 0 rfl) ?_
      refine gR_Mod_row hx hb hts hown hK hP tb_653 d_Mod_doChoose_109 ?_
      refine lv_iload_n hx hb d_Mod_doChoose_112 rfl (lv_at hl 2 rfl) ?_
      refine lv_iconst (v := 2) hx hb d_Mod_doChoose_113 (by decide) ?_
      refine call_S (As := [.int p2, .int 2]) (rest := [.ref (ad 1)]) hx hb hml hts hown so_Mod_20 rfl ⟨Nat.le_of_ble_eq_true rfl, Nat.le_of_ble_eq_true rfl⟩ ⟨Nat.le_of_ble_eq_true rfl, Nat.le_of_ble_eq_true rfl⟩ hl.1 rfl (Nat.le_of_ble_eq_true rfl) d_Mod_doChoose_114 (k_Mod_ofKind l p2 2) ?_
      obtain ⟨hi, h⟩ := h
      refine lR_1 hx hb hK hP hi d_Mod_doChoose_117 ?_
      exact r_iret hx hb hr hlocks hP hD hS d_Mod_doChoose_118 h
    · have h := h.2 hc
      refine lv_aload_n hx hb d_Mod_doChoose_45 rfl (lv_at hl 0 rfl) ?_
      refine gR_Mod_row hx hb hts hown hK hP tb_653 d_Mod_doChoose_46 ?_
      refine lv_iload_n hx hb d_Mod_doChoose_49 rfl (lv_at hl 2 rfl) ?_
      refine lv_iconst (v := 1) hx hb d_Mod_doChoose_50 (by decide) ?_
      refine call_S (As := [.int p2, .int 1]) (rest := [.ref (ad 1)]) hx hb hml hts hown so_Mod_20 rfl ⟨Nat.le_of_ble_eq_true rfl, Nat.le_of_ble_eq_true rfl⟩ ⟨Nat.le_of_ble_eq_true rfl, Nat.le_of_ble_eq_true rfl⟩ hl.1 rfl (Nat.le_of_ble_eq_true rfl) d_Mod_doChoose_51 (k_Mod_ofKind l p2 1) ?_
      refine lv_dup2_11 hx hb d_Mod_doChoose_54 rfl rfl ?_
      obtain ⟨hi, h⟩ := h
      refine lR_1 hx hb hK hP hi d_Mod_doChoose_55 ?_
      refine lv_iconst (v := 1) hx hb d_Mod_doChoose_56 (by decide) ?_
      refine lv_isub hx hb d_Mod_doChoose_57 ?_
      obtain ⟨hi, h⟩ := h
      refine sR_1 hx hb hK hP hD hS hi d_Mod_doChoose_58 (fun u11 H locs eu11 hP hD hS => ?_)
      have h := h u11 eu11
      refine lv_aload_n hx hb d_Mod_doChoose_59 rfl (lv_at hl 0 rfl) ?_
      refine gR_Mod_row hx hb hts hown hK hP tb_653 d_Mod_doChoose_60 ?_
      refine lv_iload_n hx hb d_Mod_doChoose_63 rfl (lv_at hl 1 rfl) ?_
      refine lv_iconst (v := 4) hx hb d_Mod_doChoose_64 (by decide) ?_
      refine call_S (As := [.int p1, .int 4]) (rest := [.ref (ad 1)]) hx hb hml hts hown so_Mod_43 rfl ⟨Nat.le_of_ble_eq_true rfl, Nat.le_of_ble_eq_true rfl⟩ ⟨Nat.le_of_ble_eq_true rfl, Nat.le_of_ble_eq_true rfl⟩ hl.1 rfl (Nat.le_of_ble_eq_true rfl) d_Mod_doChoose_65 (k_Mod_of l p1 4) ?_
      refine lv_iconst (v := 1) hx hb d_Mod_doChoose_68 (by decide) ?_
      obtain ⟨hi, h⟩ := h
      refine sR_1 hx hb hK hP hD hS hi d_Mod_doChoose_69 (fun u12 H locs eu12 hP hD hS => ?_)
      have h := h u12 eu12
      refine lv_iconst (v := 0) hx hb d_Mod_doChoose_70 (by decide) ?_
      exact r_iret hx hb hr hlocks hP hD hS d_Mod_doChoose_71 h
def wp_Mod_giveUp (u : RS) (p1 : Int32) (Post : Int32 → RS → Prop) : Prop := (wp_Mod_noGiveUp u p1 (fun x2 u1 => ((x2 = 0 → (wp_Mod_record u1  (fun u3 => (vp_in (pf_Mod_of p1 3) 4306 ∧ (∀ x4 : Int32, x4 = (u3.1 (pf_Mod_of p1 3).toNatClampNeg) → (wp_Mod_drop u3 p1 (fun x6 u5 => Post x4 u5))))))) ∧ (¬ x2 = 0 → Post x2 u1))))
set_option maxHeartbeats 4000000 in
set_option maxRecDepth 100000 in
theorem c_Mod_giveUp (l : Launch) (G : GG) (ad : Nat → Nat) (sz : Nat) (u : RS) (p1 : Int32) (Post : Int32 → RS → Prop) (h : wp_Mod_giveUp u p1 Post) : CMi l y_Mod_giveUp b_Mod_giveUp 4 .int 4 G [.ref (ad 0), .int p1] sz (refW G ad u) (refW G ad) Post := by
  refine CMi.start (by decide) (Nat.le_of_ble_eq_true rfl) (fun p e s m below meth c A ls hx hb hr hts hown hml hlocks hA hS hP hD hK hl => ?_)
  unfold wp_Mod_giveUp at h
  have hl : lv_has ls 4 [(0, .ref (ad 0)), (1, .int p1)] := hl
  refine lv_aload_n hx hb d_Mod_giveUp_0 rfl (lv_at hl 0 rfl) ?_
  refine lv_iload_n hx hb d_Mod_giveUp_1 rfl (lv_at hl 1 rfl) ?_
  refine call_Vi1 (own := "HamperClubModel") (As := [.int p1]) (rest := []) (q0 := 0) (ci := 9) hx hb hml hts hown hK hA hP hD hS ok_Mod_107 rfl ⟨Nat.le_of_ble_eq_true rfl, Nat.le_of_ble_eq_true rfl⟩ ⟨Nat.le_of_ble_eq_true rfl, Nat.le_of_ble_eq_true rfl⟩ rfl rfl rfl hl.1 rfl (Nat.le_of_ble_eq_true rfl) d_Mod_giveUp_2 (c_Mod_noGiveUp l G ad _ u p1 _ h) (fun x2 u1 H locs h hP hD hS => ?_)
  refine lv_istore_n (lv' := [(2, .int x2), (0, .ref (ad 0)), (1, .int p1)]) hx hb d_Mod_giveUp_5 rfl hl (by decide) rfl (fun ls hl => ?_)
  refine lv_iload_n hx hb d_Mod_giveUp_6 rfl (lv_at hl 0 rfl) ?_
  refine lv_if_eq (tgt := 12) hx hb d_Mod_giveUp_7 (by decide) (fun hc => ?_) (fun hc => ?_)
  · have h := h.1 hc
    refine lv_aload_n hx hb d_Mod_giveUp_12 rfl (lv_at hl 1 rfl) ?_
    refine call_Vv1 (own := "HamperClubModel") (As := []) (rest := []) (q0 := 0) (ci := 9) hx hb hml hts hown hK hA hP hD hS ok_Mod_36 rfl ⟨Nat.le_of_ble_eq_true rfl, Nat.le_of_ble_eq_true rfl⟩ ⟨Nat.le_of_ble_eq_true rfl, Nat.le_of_ble_eq_true rfl⟩ rfl rfl rfl hl.1 rfl (Nat.le_of_ble_eq_true rfl) d_Mod_giveUp_13 (c_Mod_record l G ad _ u1  _ h) (fun u3 H locs h hP hD hS => ?_)
    refine lv_aload_n hx hb d_Mod_giveUp_16 rfl (lv_at hl 1 rfl) ?_
    refine gR_Mod_row hx hb hts hown hK hP tb_653 d_Mod_giveUp_17 ?_
    refine lv_iload_n hx hb d_Mod_giveUp_20 rfl (lv_at hl 2 rfl) ?_
    refine lv_iconst (v := 3) hx hb d_Mod_giveUp_21 (by decide) ?_
    refine call_S (As := [.int p1, .int 3]) (rest := [.ref (ad 1)]) hx hb hml hts hown so_Mod_43 rfl ⟨Nat.le_of_ble_eq_true rfl, Nat.le_of_ble_eq_true rfl⟩ ⟨Nat.le_of_ble_eq_true rfl, Nat.le_of_ble_eq_true rfl⟩ hl.1 rfl (Nat.le_of_ble_eq_true rfl) d_Mod_giveUp_22 (k_Mod_of l p1 3) ?_
    obtain ⟨hi, h⟩ := h
    refine lR_1 hx hb hK hP hi d_Mod_giveUp_25 ?_
    refine lv_topi (fun x4 ex4 => ?_)
    have h := h x4 ex4
    refine lv_istore_n (lv' := [(3, .int x4), (2, .int x2), (0, .ref (ad 0)), (1, .int p1)]) hx hb d_Mod_giveUp_26 rfl hl (by decide) rfl (fun ls hl => ?_)
    refine lv_aload_n hx hb d_Mod_giveUp_27 rfl (lv_at hl 2 rfl) ?_
    refine lv_iload_n hx hb d_Mod_giveUp_28 rfl (lv_at hl 3 rfl) ?_
    refine call_Vi1 (own := "HamperClubModel") (As := [.int p1]) (rest := []) (q0 := 0) (ci := 9) hx hb hml hts hown hK hA hP hD hS ok_Mod_98 rfl ⟨Nat.le_of_ble_eq_true rfl, Nat.le_of_ble_eq_true rfl⟩ ⟨Nat.le_of_ble_eq_true rfl, Nat.le_of_ble_eq_true rfl⟩ rfl rfl rfl hl.1 rfl (Nat.le_of_ble_eq_true rfl) d_Mod_giveUp_29 (c_Mod_drop l G ad _ u3 p1 _ h) (fun x6 u5 H locs h hP hD hS => ?_)
    refine lv_pop hx hb d_Mod_giveUp_32 rfl ?_
    refine lv_iload_n hx hb d_Mod_giveUp_33 rfl (lv_at hl 0 rfl) ?_
    exact r_iret hx hb hr hlocks hP hD hS d_Mod_giveUp_34 h
  · have h := h.2 hc
    refine lv_iload_n hx hb d_Mod_giveUp_10 rfl (lv_at hl 0 rfl) ?_
    exact r_iret hx hb hr hlocks hP hD hS d_Mod_giveUp_11 h
def wl_Mod_doWeek_12 (Post : Int32 → RS → Prop) (K : RS → Prop) : Nat → Int32 → RS → Prop
  | 0, _ => fun _ => False
  | n + 1, a1 => fun u2 => (((u2.1 (1 : Int32).toNatClampNeg) ≤ a1 → K  u2) ∧ (¬ (u2.1 (1 : Int32).toNatClampNeg) ≤ a1 → (vp_in (pf_Mod_of a1 1) 4306 ∧ (((u2.1 (pf_Mod_of a1 1).toNatClampNeg) = 1 → (vp_in (pf_Mod_of a1 2) 4306 ∧ ((((u2.1 (0 : Int32).toNatClampNeg) - (u2.1 (pf_Mod_of a1 2).toNatClampNeg)) < 3 → (∀ x4 : Int32, x4 = a1 + 1 → wl_Mod_doWeek_12 Post K n x4 u2)) ∧ (¬ ((u2.1 (0 : Int32).toNatClampNeg) - (u2.1 (pf_Mod_of a1 2).toNatClampNeg)) < 3 → (vp_in (pf_Mod_of a1 0) 4306 ∧ (∀ x5 : Int32, x5 = ((u2.1 (pf_Mod_of a1 0).toNatClampNeg) / 10) → (vp_in (pf_Mod_of a1 0) 4306 ∧ (vp_in (pf_Mod_of a1 0) 4306 ∧ (∀ u6 : RS, u6 = (rR u2 (upd u2.1 (pf_Mod_of a1 0).toNatClampNeg ((u2.1 (pf_Mod_of a1 0).toNatClampNeg) - x5))) → (∀ u7 : RS, u7 = (rR u6 (upd u6.1 (4 : Int32).toNatClampNeg ((u6.1 (4 : Int32).toNatClampNeg) + (10 * x5)))) → (vp_in (pf_Mod_of a1 1) 4306 ∧ (∀ u8 : RS, u8 = (rR u7 (upd u7.1 (pf_Mod_of a1 1).toNatClampNeg 0)) → (∀ x9 : Int32, x9 = a1 + 1 → wl_Mod_doWeek_12 Post K n x9 u8))))))))))))) ∧ (¬ (u2.1 (pf_Mod_of a1 1).toNatClampNeg) = 1 → (∀ x3 : Int32, x3 = a1 + 1 → wl_Mod_doWeek_12 Post K n x3 u2))))))
def wl_Mod_doWeek_119 (Post : Int32 → RS → Prop) (K : Int32 → RS → Prop) : Nat → Int32 → Int32 → RS → Prop
  | 0, _, _ => fun _ => False
  | n + 1, a1, a2 => fun u11 => (((u11.1 (1 : Int32).toNatClampNeg) ≤ a2 → K a1 u11) ∧ (¬ (u11.1 (1 : Int32).toNatClampNeg) ≤ a2 → (vp_in (pf_Mod_of a2 9) 4306 ∧ (((u11.1 (pf_Mod_of a2 9).toNatClampNeg) = (-9) → (vp_in (pf_Mod_of a2 6) 4306 ∧ (∀ x19 : Int32, x19 = (u11.1 (pf_Mod_of a2 6).toNatClampNeg) → (vp_in (pf_Mod_of a2 3) 4306 ∧ (((u11.1 (pf_Mod_of a2 3).toNatClampNeg) = (-9) → (∀ x20 : Int32, x20 = a2 + 1 → wl_Mod_doWeek_119 Post K n a1 x20 u11)) ∧ (¬ (u11.1 (pf_Mod_of a2 3).toNatClampNeg) = (-9) → ((((u11.1 (0 : Int32).toNatClampNeg) - x19) ≤ 4 → (∀ x21 : Int32, x21 = a2 + 1 → wl_Mod_doWeek_119 Post K n a1 x21 u11)) ∧ (¬ ((u11.1 (0 : Int32).toNatClampNeg) - x19) ≤ 4 → (wp_Mod_drop u11 a2 (fun x23 u22 => (∀ x24 : Int32, x24 = a1 + 1 → (∀ x25 : Int32, x25 = a2 + 1 → wl_Mod_doWeek_119 Post K n x24 x25 u22)))))))))))) ∧ (¬ (u11.1 (pf_Mod_of a2 9).toNatClampNeg) = (-9) → (vp_in (pf_Mod_of a2 9) 4306 ∧ (∀ x12 : Int32, x12 = (u11.1 (pf_Mod_of a2 9).toNatClampNeg) → (vp_in (pf_Mod_of a2 3) 4306 ∧ (((u11.1 (pf_Mod_of a2 3).toNatClampNeg) = (-9) → (∀ x13 : Int32, x13 = a2 + 1 → wl_Mod_doWeek_119 Post K n a1 x13 u11)) ∧ (¬ (u11.1 (pf_Mod_of a2 3).toNatClampNeg) = (-9) → ((((u11.1 (0 : Int32).toNatClampNeg) - x12) ≤ 4 → (∀ x14 : Int32, x14 = a2 + 1 → wl_Mod_doWeek_119 Post K n a1 x14 u11)) ∧ (¬ ((u11.1 (0 : Int32).toNatClampNeg) - x12) ≤ 4 → (wp_Mod_drop u11 a2 (fun x16 u15 => (∀ x17 : Int32, x17 = a1 + 1 → (∀ x18 : Int32, x18 = a2 + 1 → wl_Mod_doWeek_119 Post K n x17 x18 u15))))))))))))))))
def wp_Mod_doWeek (u : RS) (Post : Int32 → RS → Prop) : Prop := (∀ u1 : RS, u1 = (rR u (upd u.1 (0 : Int32).toNatClampNeg ((u.1 (0 : Int32).toNatClampNeg) + 1))) → (∃ k30 : Nat, wl_Mod_doWeek_12 Post (fun u10 => (∃ k29 : Nat, wl_Mod_doWeek_119 Post (fun x27 u26 => (∀ u28 : RS, u28 = (rR u26 (upd u26.1 (9 : Int32).toNatClampNeg ((u26.1 (9 : Int32).toNatClampNeg) + x27))) → Post x27 u28)) k29 0 0 u10)) k30 0 u1))
set_option maxHeartbeats 4000000 in
set_option maxRecDepth 100000 in
theorem x_Mod_doWeek_12 {p : Program} {l : Launch} {e : Env} {s : State} {m : MethodId} {args : Array Value} {below : List Frame} {meth : Method} {c : Code} {A : Nat → Prop} {G : GG} {ad : Nat → Nat} {Post : Int32 → RS → Prop} {K : RS → Prop} {Q : State → Prop}
    (hx : p.tables.exec = Jvm.exec) (hb : c.code = b_Mod_doWeek) (hr : meth.sig.returnType = some .int) (hts : ∀ w ∈ Tg, w.before args s = true) (hown : s.vm.findClass "HamperClubModel" = some m.cls) (hml : c.maxLocals = 4) (hlocks : meth.locks = false) (hA : ∀ q, s.heap.size ≤ q → A q) (hK : KN G s)
    (hQ : Q = MQ below (va_Qi Post (BW G A (refW G ad)) A) args s 0 0 A)
    (kk : ∀ (u : RS), K  u → ∀ (H : Heap) (locs : List Loc) (ls : Array Slot), va_P G.1 classes (refW G ad u) H → va_D A (refW G ad u) → va_S A s.heap H locs → lv_has ls 4 [(0, .ref (ad 0))] → W p l e (rmK 4) s m args below meth c H locs 0 0 Q (F0 m 115 ls [])) :
    ∀ (n : Nat) (a1 : Int32) (u : RS), wl_Mod_doWeek_12 Post K n a1 u → ∀ (H : Heap) (locs : List Loc) (ls : Array Slot), va_P G.1 classes (refW G ad u) H → va_D A (refW G ad u) → va_S A s.heap H locs → lv_has ls 4 [(0, .ref (ad 0)), (1, .int a1)] → W p l e (rmK 4) s m args below meth c H locs 0 0 Q (F0 m 12 ls []) := by
  subst hQ
  intro n
  induction n with
  | zero => intro a1 u h; exact h.elim
  | succ n ih =>
    intro a1 u2 h H locs ls hP hD hS hl
    unfold wl_Mod_doWeek_12 at h
    refine lv_iload_n hx hb d_Mod_doWeek_12 rfl (lv_at hl 1 rfl) ?_
    refine lv_aload_n hx hb d_Mod_doWeek_13 rfl (lv_at hl 0 rfl) ?_
    refine gR_Mod_row hx hb hts hown hK hP tb_653 d_Mod_doWeek_14 ?_
    refine lv_iconst (v := 1) hx hb d_Mod_doWeek_17 (by decide) ?_
    refine lR_1 hx hb hK hP (by unfold vp_in; decide) d_Mod_doWeek_18 ?_
    refine lv_icmp_ge (tgt := 115) hx hb d_Mod_doWeek_19 (by decide) (fun hc => ?_) (fun hc => ?_)
    · have h := h.1 hc
      exact kk  u2 h _ _ _ hP hD hS (lv_sub hl [0] rfl)
    · have h := h.2 hc
      refine lv_aload_n hx hb d_Mod_doWeek_22 rfl (lv_at hl 0 rfl) ?_
      refine gR_Mod_row hx hb hts hown hK hP tb_653 d_Mod_doWeek_23 ?_
      refine lv_iload_n hx hb d_Mod_doWeek_26 rfl (lv_at hl 1 rfl) ?_
      refine lv_iconst (v := 1) hx hb d_Mod_doWeek_27 (by decide) ?_
      refine call_S (As := [.int a1, .int 1]) (rest := [.ref (ad 1)]) hx hb hml hts hown so_Mod_43 rfl ⟨Nat.le_of_ble_eq_true rfl, Nat.le_of_ble_eq_true rfl⟩ ⟨Nat.le_of_ble_eq_true rfl, Nat.le_of_ble_eq_true rfl⟩ hl.1 rfl (Nat.le_of_ble_eq_true rfl) d_Mod_doWeek_28 (k_Mod_of l a1 1) ?_
      obtain ⟨hi, h⟩ := h
      refine lR_1 hx hb hK hP hi d_Mod_doWeek_31 ?_
      refine lv_iconst (v := 1) hx hb d_Mod_doWeek_32 (by decide) ?_
      refine lv_icmp_ne (tgt := 109) hx hb d_Mod_doWeek_33 (by decide) (fun hc => ?_) (fun hc => ?_)
      · have h := h.2 hc
        obtain ⟨x3, ex3⟩ : ∃ y : Int32, y = a1 + 1 := ⟨_, rfl⟩
        have h := h x3 ex3
        refine lv_iinc (v := x3) (lv' := [(1, .int x3), (0, .ref (ad 0))]) hx hb d_Mod_doWeek_109 hl (k := 1) rfl (by rw [ex3]; rfl) (by decide) rfl (fun ls hl => ?_)
        refine lv_goto (tgt := 12) hx hb d_Mod_doWeek_112 (by decide) ?_
        exact ih x3 u2 h _ _ _ hP hD hS (lv_sub hl [1, 0] rfl)
      · have h := h.1 hc
        refine lv_aload_n hx hb d_Mod_doWeek_36 rfl (lv_at hl 0 rfl) ?_
        refine gR_Mod_row hx hb hts hown hK hP tb_653 d_Mod_doWeek_37 ?_
        refine lv_iconst (v := 0) hx hb d_Mod_doWeek_40 (by decide) ?_
        refine lR_1 hx hb hK hP (by unfold vp_in; decide) d_Mod_doWeek_41 ?_
        refine lv_aload_n hx hb d_Mod_doWeek_42 rfl (lv_at hl 0 rfl) ?_
        refine gR_Mod_row hx hb hts hown hK hP tb_653 d_Mod_doWeek_43 ?_
        refine lv_iload_n hx hb d_Mod_doWeek_46 rfl (lv_at hl 1 rfl) ?_
        refine lv_iconst (v := 2) hx hb d_Mod_doWeek_47 (by decide) ?_
        refine call_S (As := [.int a1, .int 2]) (rest := [.ref (ad 1), .int (u2.1 (0 : Int32).toNatClampNeg)]) hx hb hml hts hown so_Mod_43 rfl ⟨Nat.le_of_ble_eq_true rfl, Nat.le_of_ble_eq_true rfl⟩ ⟨Nat.le_of_ble_eq_true rfl, Nat.le_of_ble_eq_true rfl⟩ hl.1 rfl (Nat.le_of_ble_eq_true rfl) d_Mod_doWeek_48 (k_Mod_of l a1 2) ?_
        obtain ⟨hi, h⟩ := h
        refine lR_1 hx hb hK hP hi d_Mod_doWeek_51 ?_
        refine lv_isub hx hb d_Mod_doWeek_52 ?_
        refine lv_iconst (v := 3) hx hb d_Mod_doWeek_53 (by decide) ?_
        refine lv_icmp_lt (tgt := 109) hx hb d_Mod_doWeek_54 (by decide) (fun hc => ?_) (fun hc => ?_)
        · have h := h.1 hc
          obtain ⟨x4, ex4⟩ : ∃ y : Int32, y = a1 + 1 := ⟨_, rfl⟩
          have h := h x4 ex4
          refine lv_iinc (v := x4) (lv' := [(1, .int x4), (0, .ref (ad 0))]) hx hb d_Mod_doWeek_109 hl (k := 1) rfl (by rw [ex4]; rfl) (by decide) rfl (fun ls hl => ?_)
          refine lv_goto (tgt := 12) hx hb d_Mod_doWeek_112 (by decide) ?_
          exact ih x4 u2 h _ _ _ hP hD hS (lv_sub hl [1, 0] rfl)
        · have h := h.2 hc
          refine lv_aload_n hx hb d_Mod_doWeek_57 rfl (lv_at hl 0 rfl) ?_
          refine gR_Mod_row hx hb hts hown hK hP tb_653 d_Mod_doWeek_58 ?_
          refine lv_iload_n hx hb d_Mod_doWeek_61 rfl (lv_at hl 1 rfl) ?_
          refine lv_iconst (v := 0) hx hb d_Mod_doWeek_62 (by decide) ?_
          refine call_S (As := [.int a1, .int 0]) (rest := [.ref (ad 1)]) hx hb hml hts hown so_Mod_43 rfl ⟨Nat.le_of_ble_eq_true rfl, Nat.le_of_ble_eq_true rfl⟩ ⟨Nat.le_of_ble_eq_true rfl, Nat.le_of_ble_eq_true rfl⟩ hl.1 rfl (Nat.le_of_ble_eq_true rfl) d_Mod_doWeek_63 (k_Mod_of l a1 0) ?_
          obtain ⟨hi, h⟩ := h
          refine lR_1 hx hb hK hP hi d_Mod_doWeek_66 ?_
          refine lv_bipush (v := 10) hx hb d_Mod_doWeek_67 (by decide) ?_
          refine lv_idiv hx hb d_Mod_doWeek_69 (by decide) ?_
          refine lv_topi (fun x5 ex5 => ?_)
          have h := h x5 ex5
          refine lv_istore_n (lv' := [(2, .int x5), (0, .ref (ad 0)), (1, .int a1)]) hx hb d_Mod_doWeek_70 rfl hl (by decide) rfl (fun ls hl => ?_)
          refine lv_aload_n hx hb d_Mod_doWeek_71 rfl (lv_at hl 1 rfl) ?_
          refine gR_Mod_row hx hb hts hown hK hP tb_653 d_Mod_doWeek_72 ?_
          refine lv_iload_n hx hb d_Mod_doWeek_75 rfl (lv_at hl 2 rfl) ?_
          refine lv_iconst (v := 0) hx hb d_Mod_doWeek_76 (by decide) ?_
          refine call_S (As := [.int a1, .int 0]) (rest := [.ref (ad 1)]) hx hb hml hts hown so_Mod_43 rfl ⟨Nat.le_of_ble_eq_true rfl, Nat.le_of_ble_eq_true rfl⟩ ⟨Nat.le_of_ble_eq_true rfl, Nat.le_of_ble_eq_true rfl⟩ hl.1 rfl (Nat.le_of_ble_eq_true rfl) d_Mod_doWeek_77 (k_Mod_of l a1 0) ?_
          refine lv_dup2_11 hx hb d_Mod_doWeek_80 rfl rfl ?_
          obtain ⟨hi, h⟩ := h
          refine lR_1 hx hb hK hP hi d_Mod_doWeek_81 ?_
          refine lv_iload_n hx hb d_Mod_doWeek_82 rfl (lv_at hl 0 rfl) ?_
          refine lv_isub hx hb d_Mod_doWeek_83 ?_
          obtain ⟨hi, h⟩ := h
          refine sR_1 hx hb hK hP hD hS hi d_Mod_doWeek_84 (fun u6 H locs eu6 hP hD hS => ?_)
          have h := h u6 eu6
          refine lv_aload_n hx hb d_Mod_doWeek_85 rfl (lv_at hl 1 rfl) ?_
          refine gR_Mod_row hx hb hts hown hK hP tb_653 d_Mod_doWeek_86 ?_
          refine lv_iconst (v := 4) hx hb d_Mod_doWeek_89 (by decide) ?_
          refine lv_dup2_11 hx hb d_Mod_doWeek_90 rfl rfl ?_
          refine lR_1 hx hb hK hP (by unfold vp_in; decide) d_Mod_doWeek_91 ?_
          refine lv_bipush (v := 10) hx hb d_Mod_doWeek_92 (by decide) ?_
          refine lv_iload_n hx hb d_Mod_doWeek_94 rfl (lv_at hl 0 rfl) ?_
          refine lv_imul hx hb d_Mod_doWeek_95 ?_
          refine lv_iadd hx hb d_Mod_doWeek_96 ?_
          refine sR_1 hx hb hK hP hD hS (by unfold vp_in; decide) d_Mod_doWeek_97 (fun u7 H locs eu7 hP hD hS => ?_)
          have h := h u7 eu7
          refine lv_aload_n hx hb d_Mod_doWeek_98 rfl (lv_at hl 1 rfl) ?_
          refine gR_Mod_row hx hb hts hown hK hP tb_653 d_Mod_doWeek_99 ?_
          refine lv_iload_n hx hb d_Mod_doWeek_102 rfl (lv_at hl 2 rfl) ?_
          refine lv_iconst (v := 1) hx hb d_Mod_doWeek_103 (by decide) ?_
          refine call_S (As := [.int a1, .int 1]) (rest := [.ref (ad 1)]) hx hb hml hts hown so_Mod_43 rfl ⟨Nat.le_of_ble_eq_true rfl, Nat.le_of_ble_eq_true rfl⟩ ⟨Nat.le_of_ble_eq_true rfl, Nat.le_of_ble_eq_true rfl⟩ hl.1 rfl (Nat.le_of_ble_eq_true rfl) d_Mod_doWeek_104 (k_Mod_of l a1 1) ?_
          refine lv_iconst (v := 0) hx hb d_Mod_doWeek_107 (by decide) ?_
          obtain ⟨hi, h⟩ := h
          refine sR_1 hx hb hK hP hD hS hi d_Mod_doWeek_108 (fun u8 H locs eu8 hP hD hS => ?_)
          have h := h u8 eu8
          obtain ⟨x9, ex9⟩ : ∃ y : Int32, y = a1 + 1 := ⟨_, rfl⟩
          have h := h x9 ex9
          refine lv_iinc (v := x9) (lv' := [(1, .int x9), (2, .int x5), (0, .ref (ad 0))]) hx hb d_Mod_doWeek_109 hl (k := 2) rfl (by rw [ex9]; rfl) (by decide) rfl (fun ls hl => ?_)
          refine lv_goto (tgt := 12) hx hb d_Mod_doWeek_112 (by decide) ?_
          exact ih x9 u8 h _ _ _ hP hD hS (lv_sub hl [2, 0] rfl)
set_option maxHeartbeats 4000000 in
set_option maxRecDepth 100000 in
theorem x_Mod_doWeek_119 {p : Program} {l : Launch} {e : Env} {s : State} {m : MethodId} {args : Array Value} {below : List Frame} {meth : Method} {c : Code} {A : Nat → Prop} {G : GG} {ad : Nat → Nat} {Post : Int32 → RS → Prop} {K : Int32 → RS → Prop} {Q : State → Prop}
    (hx : p.tables.exec = Jvm.exec) (hb : c.code = b_Mod_doWeek) (hr : meth.sig.returnType = some .int) (hts : ∀ w ∈ Tg, w.before args s = true) (hown : s.vm.findClass "HamperClubModel" = some m.cls) (hml : c.maxLocals = 4) (hlocks : meth.locks = false) (hA : ∀ q, s.heap.size ≤ q → A q) (hK : KN G s)
    (hQ : Q = MQ below (va_Qi Post (BW G A (refW G ad)) A) args s 0 0 A)
    (kk : ∀ (b1 : Int32) (u : RS), K b1 u → ∀ (H : Heap) (locs : List Loc) (ls : Array Slot), va_P G.1 classes (refW G ad u) H → va_D A (refW G ad u) → va_S A s.heap H locs → lv_has ls 4 [(0, .ref (ad 0)), (1, .int b1)] → W p l e (rmK 4) s m args below meth c H locs 0 0 Q (F0 m 213 ls [])) :
    ∀ (n : Nat) (a1 : Int32) (a2 : Int32) (u : RS), wl_Mod_doWeek_119 Post K n a1 a2 u → ∀ (H : Heap) (locs : List Loc) (ls : Array Slot), va_P G.1 classes (refW G ad u) H → va_D A (refW G ad u) → va_S A s.heap H locs → lv_has ls 4 [(0, .ref (ad 0)), (1, .int a1), (2, .int a2)] → W p l e (rmK 4) s m args below meth c H locs 0 0 Q (F0 m 119 ls []) := by
  subst hQ
  intro n
  induction n with
  | zero => intro a1 a2 u h; exact h.elim
  | succ n ih =>
    intro a1 a2 u11 h H locs ls hP hD hS hl
    unfold wl_Mod_doWeek_119 at h
    refine lv_iload_n hx hb d_Mod_doWeek_119 rfl (lv_at hl 2 rfl) ?_
    refine lv_aload_n hx hb d_Mod_doWeek_120 rfl (lv_at hl 0 rfl) ?_
    refine gR_Mod_row hx hb hts hown hK hP tb_653 d_Mod_doWeek_121 ?_
    refine lv_iconst (v := 1) hx hb d_Mod_doWeek_124 (by decide) ?_
    refine lR_1 hx hb hK hP (by unfold vp_in; decide) d_Mod_doWeek_125 ?_
    refine lv_icmp_ge (tgt := 213) hx hb d_Mod_doWeek_126 (by decide) (fun hc => ?_) (fun hc => ?_)
    · have h := h.1 hc
      exact kk a1 u11 h _ _ _ hP hD hS (lv_sub hl [0, 1] rfl)
    · have h := h.2 hc
      refine lv_aload_n hx hb d_Mod_doWeek_129 rfl (lv_at hl 0 rfl) ?_
      refine gR_Mod_row hx hb hts hown hK hP tb_653 d_Mod_doWeek_130 ?_
      refine lv_iload_n hx hb d_Mod_doWeek_133 rfl (lv_at hl 2 rfl) ?_
      refine lv_bipush (v := 9) hx hb d_Mod_doWeek_134 (by decide) ?_
      refine call_S (As := [.int a2, .int 9]) (rest := [.ref (ad 1)]) hx hb hml hts hown so_Mod_43 rfl ⟨Nat.le_of_ble_eq_true rfl, Nat.le_of_ble_eq_true rfl⟩ ⟨Nat.le_of_ble_eq_true rfl, Nat.le_of_ble_eq_true rfl⟩ hl.1 rfl (Nat.le_of_ble_eq_true rfl) d_Mod_doWeek_136 (k_Mod_of l a2 9) ?_
      obtain ⟨hi, h⟩ := h
      refine lR_1 hx hb hK hP hi d_Mod_doWeek_139 ?_
      refine lv_bipush (v := (-9)) hx hb d_Mod_doWeek_140 (by decide) ?_
      refine lv_icmp_ne (tgt := 159) hx hb d_Mod_doWeek_142 (by decide) (fun hc => ?_) (fun hc => ?_)
      · have h := h.2 hc
        refine lv_aload_n hx hb d_Mod_doWeek_159 rfl (lv_at hl 0 rfl) ?_
        refine gR_Mod_row hx hb hts hown hK hP tb_653 d_Mod_doWeek_160 ?_
        refine lv_iload_n hx hb d_Mod_doWeek_163 rfl (lv_at hl 2 rfl) ?_
        refine lv_bipush (v := 9) hx hb d_Mod_doWeek_164 (by decide) ?_
        refine call_S (As := [.int a2, .int 9]) (rest := [.ref (ad 1)]) hx hb hml hts hown so_Mod_43 rfl ⟨Nat.le_of_ble_eq_true rfl, Nat.le_of_ble_eq_true rfl⟩ ⟨Nat.le_of_ble_eq_true rfl, Nat.le_of_ble_eq_true rfl⟩ hl.1 rfl (Nat.le_of_ble_eq_true rfl) d_Mod_doWeek_166 (k_Mod_of l a2 9) ?_
        obtain ⟨hi, h⟩ := h
        refine lR_1 hx hb hK hP hi d_Mod_doWeek_169 ?_
        refine lv_topi (fun x12 ex12 => ?_)
        have h := h x12 ex12
        refine lv_istore_n (lv' := [(3, .int x12), (0, .ref (ad 0)), (1, .int a1), (2, .int a2)]) hx hb d_Mod_doWeek_170 rfl hl (by decide) rfl (fun ls hl => ?_)
        refine lv_aload_n hx hb d_Mod_doWeek_171 rfl (lv_at hl 1 rfl) ?_
        refine gR_Mod_row hx hb hts hown hK hP tb_653 d_Mod_doWeek_172 ?_
        refine lv_iload_n hx hb d_Mod_doWeek_175 rfl (lv_at hl 3 rfl) ?_
        refine lv_iconst (v := 3) hx hb d_Mod_doWeek_176 (by decide) ?_
        refine call_S (As := [.int a2, .int 3]) (rest := [.ref (ad 1)]) hx hb hml hts hown so_Mod_43 rfl ⟨Nat.le_of_ble_eq_true rfl, Nat.le_of_ble_eq_true rfl⟩ ⟨Nat.le_of_ble_eq_true rfl, Nat.le_of_ble_eq_true rfl⟩ hl.1 rfl (Nat.le_of_ble_eq_true rfl) d_Mod_doWeek_177 (k_Mod_of l a2 3) ?_
        obtain ⟨hi, h⟩ := h
        refine lR_1 hx hb hK hP hi d_Mod_doWeek_180 ?_
        refine lv_bipush (v := (-9)) hx hb d_Mod_doWeek_181 (by decide) ?_
        refine lv_icmp_eq (tgt := 207) hx hb d_Mod_doWeek_183 (by decide) (fun hc => ?_) (fun hc => ?_)
        · have h := h.1 hc
          obtain ⟨x13, ex13⟩ : ∃ y : Int32, y = a2 + 1 := ⟨_, rfl⟩
          have h := h x13 ex13
          refine lv_iinc (v := x13) (lv' := [(2, .int x13), (3, .int x12), (0, .ref (ad 0)), (1, .int a1)]) hx hb d_Mod_doWeek_207 hl (k := 3) rfl (by rw [ex13]; rfl) (by decide) rfl (fun ls hl => ?_)
          refine lv_goto (tgt := 119) hx hb d_Mod_doWeek_210 (by decide) ?_
          exact ih a1 x13 u11 h _ _ _ hP hD hS (lv_sub hl [2, 3, 0] rfl)
        · have h := h.2 hc
          refine lv_aload_n hx hb d_Mod_doWeek_186 rfl (lv_at hl 1 rfl) ?_
          refine gR_Mod_row hx hb hts hown hK hP tb_653 d_Mod_doWeek_187 ?_
          refine lv_iconst (v := 0) hx hb d_Mod_doWeek_190 (by decide) ?_
          refine lR_1 hx hb hK hP (by unfold vp_in; decide) d_Mod_doWeek_191 ?_
          refine lv_iload_n hx hb d_Mod_doWeek_192 rfl (lv_at hl 0 rfl) ?_
          refine lv_isub hx hb d_Mod_doWeek_193 ?_
          refine lv_iconst (v := 4) hx hb d_Mod_doWeek_194 (by decide) ?_
          refine lv_icmp_le (tgt := 207) hx hb d_Mod_doWeek_195 (by decide) (fun hc => ?_) (fun hc => ?_)
          · have h := h.1 hc
            obtain ⟨x14, ex14⟩ : ∃ y : Int32, y = a2 + 1 := ⟨_, rfl⟩
            have h := h x14 ex14
            refine lv_iinc (v := x14) (lv' := [(2, .int x14), (3, .int x12), (0, .ref (ad 0)), (1, .int a1)]) hx hb d_Mod_doWeek_207 hl (k := 3) rfl (by rw [ex14]; rfl) (by decide) rfl (fun ls hl => ?_)
            refine lv_goto (tgt := 119) hx hb d_Mod_doWeek_210 (by decide) ?_
            exact ih a1 x14 u11 h _ _ _ hP hD hS (lv_sub hl [2, 3, 0] rfl)
          · have h := h.2 hc
            refine lv_aload_n hx hb d_Mod_doWeek_198 rfl (lv_at hl 1 rfl) ?_
            refine lv_iload_n hx hb d_Mod_doWeek_199 rfl (lv_at hl 3 rfl) ?_
            refine call_Vi1 (own := "HamperClubModel") (As := [.int a2]) (rest := []) (q0 := 0) (ci := 9) hx hb hml hts hown hK hA hP hD hS ok_Mod_98 rfl ⟨Nat.le_of_ble_eq_true rfl, Nat.le_of_ble_eq_true rfl⟩ ⟨Nat.le_of_ble_eq_true rfl, Nat.le_of_ble_eq_true rfl⟩ rfl rfl rfl hl.1 rfl (Nat.le_of_ble_eq_true rfl) d_Mod_doWeek_200 (c_Mod_drop l G ad _ u11 a2 _ h) (fun x16 u15 H locs h hP hD hS => ?_)
            refine lv_pop hx hb d_Mod_doWeek_203 rfl ?_
            obtain ⟨x17, ex17⟩ : ∃ y : Int32, y = a1 + 1 := ⟨_, rfl⟩
            have h := h x17 ex17
            refine lv_iinc (v := x17) (lv' := [(1, .int x17), (3, .int x12), (0, .ref (ad 0)), (2, .int a2)]) hx hb d_Mod_doWeek_204 hl (k := 2) rfl (by rw [ex17]; rfl) (by decide) rfl (fun ls hl => ?_)
            obtain ⟨x18, ex18⟩ : ∃ y : Int32, y = a2 + 1 := ⟨_, rfl⟩
            have h := h x18 ex18
            refine lv_iinc (v := x18) (lv' := [(2, .int x18), (1, .int x17), (3, .int x12), (0, .ref (ad 0))]) hx hb d_Mod_doWeek_207 hl (k := 3) rfl (by rw [ex18]; rfl) (by decide) rfl (fun ls hl => ?_)
            refine lv_goto (tgt := 119) hx hb d_Mod_doWeek_210 (by decide) ?_
            exact ih x17 x18 u15 h _ _ _ hP hD hS (lv_sub hl [3, 1, 0] rfl)
      · have h := h.1 hc
        refine lv_aload_n hx hb d_Mod_doWeek_145 rfl (lv_at hl 0 rfl) ?_
        refine gR_Mod_row hx hb hts hown hK hP tb_653 d_Mod_doWeek_146 ?_
        refine lv_iload_n hx hb d_Mod_doWeek_149 rfl (lv_at hl 2 rfl) ?_
        refine lv_bipush (v := 6) hx hb d_Mod_doWeek_150 (by decide) ?_
        refine call_S (As := [.int a2, .int 6]) (rest := [.ref (ad 1)]) hx hb hml hts hown so_Mod_43 rfl ⟨Nat.le_of_ble_eq_true rfl, Nat.le_of_ble_eq_true rfl⟩ ⟨Nat.le_of_ble_eq_true rfl, Nat.le_of_ble_eq_true rfl⟩ hl.1 rfl (Nat.le_of_ble_eq_true rfl) d_Mod_doWeek_152 (k_Mod_of l a2 6) ?_
        obtain ⟨hi, h⟩ := h
        refine lR_1 hx hb hK hP hi d_Mod_doWeek_155 ?_
        refine lv_goto (tgt := 170) hx hb d_Mod_doWeek_156 (by decide) ?_
        refine lv_topi (fun x19 ex19 => ?_)
        have h := h x19 ex19
        refine lv_istore_n (lv' := [(3, .int x19), (0, .ref (ad 0)), (1, .int a1), (2, .int a2)]) hx hb d_Mod_doWeek_170 rfl hl (by decide) rfl (fun ls hl => ?_)
        refine lv_aload_n hx hb d_Mod_doWeek_171 rfl (lv_at hl 1 rfl) ?_
        refine gR_Mod_row hx hb hts hown hK hP tb_653 d_Mod_doWeek_172 ?_
        refine lv_iload_n hx hb d_Mod_doWeek_175 rfl (lv_at hl 3 rfl) ?_
        refine lv_iconst (v := 3) hx hb d_Mod_doWeek_176 (by decide) ?_
        refine call_S (As := [.int a2, .int 3]) (rest := [.ref (ad 1)]) hx hb hml hts hown so_Mod_43 rfl ⟨Nat.le_of_ble_eq_true rfl, Nat.le_of_ble_eq_true rfl⟩ ⟨Nat.le_of_ble_eq_true rfl, Nat.le_of_ble_eq_true rfl⟩ hl.1 rfl (Nat.le_of_ble_eq_true rfl) d_Mod_doWeek_177 (k_Mod_of l a2 3) ?_
        obtain ⟨hi, h⟩ := h
        refine lR_1 hx hb hK hP hi d_Mod_doWeek_180 ?_
        refine lv_bipush (v := (-9)) hx hb d_Mod_doWeek_181 (by decide) ?_
        refine lv_icmp_eq (tgt := 207) hx hb d_Mod_doWeek_183 (by decide) (fun hc => ?_) (fun hc => ?_)
        · have h := h.1 hc
          obtain ⟨x20, ex20⟩ : ∃ y : Int32, y = a2 + 1 := ⟨_, rfl⟩
          have h := h x20 ex20
          refine lv_iinc (v := x20) (lv' := [(2, .int x20), (3, .int x19), (0, .ref (ad 0)), (1, .int a1)]) hx hb d_Mod_doWeek_207 hl (k := 3) rfl (by rw [ex20]; rfl) (by decide) rfl (fun ls hl => ?_)
          refine lv_goto (tgt := 119) hx hb d_Mod_doWeek_210 (by decide) ?_
          exact ih a1 x20 u11 h _ _ _ hP hD hS (lv_sub hl [2, 3, 0] rfl)
        · have h := h.2 hc
          refine lv_aload_n hx hb d_Mod_doWeek_186 rfl (lv_at hl 1 rfl) ?_
          refine gR_Mod_row hx hb hts hown hK hP tb_653 d_Mod_doWeek_187 ?_
          refine lv_iconst (v := 0) hx hb d_Mod_doWeek_190 (by decide) ?_
          refine lR_1 hx hb hK hP (by unfold vp_in; decide) d_Mod_doWeek_191 ?_
          refine lv_iload_n hx hb d_Mod_doWeek_192 rfl (lv_at hl 0 rfl) ?_
          refine lv_isub hx hb d_Mod_doWeek_193 ?_
          refine lv_iconst (v := 4) hx hb d_Mod_doWeek_194 (by decide) ?_
          refine lv_icmp_le (tgt := 207) hx hb d_Mod_doWeek_195 (by decide) (fun hc => ?_) (fun hc => ?_)
          · have h := h.1 hc
            obtain ⟨x21, ex21⟩ : ∃ y : Int32, y = a2 + 1 := ⟨_, rfl⟩
            have h := h x21 ex21
            refine lv_iinc (v := x21) (lv' := [(2, .int x21), (3, .int x19), (0, .ref (ad 0)), (1, .int a1)]) hx hb d_Mod_doWeek_207 hl (k := 3) rfl (by rw [ex21]; rfl) (by decide) rfl (fun ls hl => ?_)
            refine lv_goto (tgt := 119) hx hb d_Mod_doWeek_210 (by decide) ?_
            exact ih a1 x21 u11 h _ _ _ hP hD hS (lv_sub hl [2, 3, 0] rfl)
          · have h := h.2 hc
            refine lv_aload_n hx hb d_Mod_doWeek_198 rfl (lv_at hl 1 rfl) ?_
            refine lv_iload_n hx hb d_Mod_doWeek_199 rfl (lv_at hl 3 rfl) ?_
            refine call_Vi1 (own := "HamperClubModel") (As := [.int a2]) (rest := []) (q0 := 0) (ci := 9) hx hb hml hts hown hK hA hP hD hS ok_Mod_98 rfl ⟨Nat.le_of_ble_eq_true rfl, Nat.le_of_ble_eq_true rfl⟩ ⟨Nat.le_of_ble_eq_true rfl, Nat.le_of_ble_eq_true rfl⟩ rfl rfl rfl hl.1 rfl (Nat.le_of_ble_eq_true rfl) d_Mod_doWeek_200 (c_Mod_drop l G ad _ u11 a2 _ h) (fun x23 u22 H locs h hP hD hS => ?_)
            refine lv_pop hx hb d_Mod_doWeek_203 rfl ?_
            obtain ⟨x24, ex24⟩ : ∃ y : Int32, y = a1 + 1 := ⟨_, rfl⟩
            have h := h x24 ex24
            refine lv_iinc (v := x24) (lv' := [(1, .int x24), (3, .int x19), (0, .ref (ad 0)), (2, .int a2)]) hx hb d_Mod_doWeek_204 hl (k := 2) rfl (by rw [ex24]; rfl) (by decide) rfl (fun ls hl => ?_)
            obtain ⟨x25, ex25⟩ : ∃ y : Int32, y = a2 + 1 := ⟨_, rfl⟩
            have h := h x25 ex25
            refine lv_iinc (v := x25) (lv' := [(2, .int x25), (1, .int x24), (3, .int x19), (0, .ref (ad 0))]) hx hb d_Mod_doWeek_207 hl (k := 3) rfl (by rw [ex25]; rfl) (by decide) rfl (fun ls hl => ?_)
            refine lv_goto (tgt := 119) hx hb d_Mod_doWeek_210 (by decide) ?_
            exact ih x24 x25 u22 h _ _ _ hP hD hS (lv_sub hl [3, 1, 0] rfl)
set_option maxHeartbeats 4000000 in
set_option maxRecDepth 100000 in
theorem c_Mod_doWeek (l : Launch) (G : GG) (ad : Nat → Nat) (sz : Nat) (u : RS) (Post : Int32 → RS → Prop) (h : wp_Mod_doWeek u Post) : CMi l y_Mod_doWeek b_Mod_doWeek 4 .int 4 G [.ref (ad 0)] sz (refW G ad u) (refW G ad) Post := by
  refine CMi.start (by decide) (Nat.le_of_ble_eq_true rfl) (fun p e s m below meth c A ls hx hb hr hts hown hml hlocks hA hS hP hD hK hl => ?_)
  unfold wp_Mod_doWeek at h
  have hl : lv_has ls 4 [(0, .ref (ad 0))] := hl
  refine lv_aload_n hx hb d_Mod_doWeek_0 rfl (lv_at hl 0 rfl) ?_
  refine gR_Mod_row hx hb hts hown hK hP tb_653 d_Mod_doWeek_1 ?_
  refine lv_iconst (v := 0) hx hb d_Mod_doWeek_4 (by decide) ?_
  refine lv_dup2_11 hx hb d_Mod_doWeek_5 rfl rfl ?_
  refine lR_1 hx hb hK hP (by unfold vp_in; decide) d_Mod_doWeek_6 ?_
  refine lv_iconst (v := 1) hx hb d_Mod_doWeek_7 (by decide) ?_
  refine lv_iadd hx hb d_Mod_doWeek_8 ?_
  refine sR_1 hx hb hK hP hD hS (by unfold vp_in; decide) d_Mod_doWeek_9 (fun u1 H locs eu1 hP hD hS => ?_)
  have h := h u1 eu1
  refine lv_iconst (v := 0) hx hb d_Mod_doWeek_10 (by decide) ?_
  refine lv_istore_n (lv' := [(1, .int 0), (0, .ref (ad 0))]) hx hb d_Mod_doWeek_11 rfl hl (by decide) rfl (fun ls hl => ?_)
  obtain ⟨n, h⟩ := h
  refine x_Mod_doWeek_12 hx hb hr hts hown hml hlocks hA hK rfl (fun u10 h H locs ls hP hD hS hl => ?_) n 0 u1 h _ _ _ hP hD hS (lv_sub hl [1, 0] rfl)
  refine lv_iconst (v := 0) hx hb d_Mod_doWeek_115 (by decide) ?_
  refine lv_istore_n (lv' := [(1, .int 0), (0, .ref (ad 0))]) hx hb d_Mod_doWeek_116 rfl hl (by decide) rfl (fun ls hl => ?_)
  refine lv_iconst (v := 0) hx hb d_Mod_doWeek_117 (by decide) ?_
  refine lv_istore_n (lv' := [(2, .int 0), (1, .int 0), (0, .ref (ad 0))]) hx hb d_Mod_doWeek_118 rfl hl (by decide) rfl (fun ls hl => ?_)
  obtain ⟨n, h⟩ := h
  refine x_Mod_doWeek_119 hx hb hr hts hown hml hlocks hA hK rfl (fun x27 u26 h H locs ls hP hD hS hl => ?_) n 0 0 u10 h _ _ _ hP hD hS (lv_sub hl [2, 1, 0] rfl)
  refine lv_aload_n hx hb d_Mod_doWeek_213 rfl (lv_at hl 0 rfl) ?_
  refine gR_Mod_row hx hb hts hown hK hP tb_653 d_Mod_doWeek_214 ?_
  refine lv_bipush (v := 9) hx hb d_Mod_doWeek_217 (by decide) ?_
  refine lv_dup2_11 hx hb d_Mod_doWeek_219 rfl rfl ?_
  refine lR_1 hx hb hK hP (by unfold vp_in; decide) d_Mod_doWeek_220 ?_
  refine lv_iload_n hx hb d_Mod_doWeek_221 rfl (lv_at hl 1 rfl) ?_
  refine lv_iadd hx hb d_Mod_doWeek_222 ?_
  refine sR_1 hx hb hK hP hD hS (by unfold vp_in; decide) d_Mod_doWeek_223 (fun u28 H locs eu28 hP hD hS => ?_)
  have h := h u28 eu28
  refine lv_iload_n hx hb d_Mod_doWeek_224 rfl (lv_at hl 1 rfl) ?_
  exact r_iret hx hb hr hlocks hP hD hS d_Mod_doWeek_225 h
def wl_Mod_handOut_14 (Post : Int32 → RS → Prop) (K : Int32 → Int32 → Int32 → RS → Prop) : Nat → Int32 → Int32 → Int32 → RS → Prop
  | 0, _, _, _ => fun _ => False
  | n + 1, a1, a3, a4 => fun u2 => ((a4 = (-9) → K a1 a3 a4 u2) ∧ (¬ a4 = (-9) → (vp_in (pf_Mod_of a4 0) 4306 ∧ ((a3 ≤ (u2.1 (pf_Mod_of a4 0).toNatClampNeg) → K a1 a3 a4 u2) ∧ (¬ a3 ≤ (u2.1 (pf_Mod_of a4 0).toNatClampNeg) → (wp_Mod_drop u2 a4 (fun x4 u3 => wl_Mod_handOut_14 Post K n a1 a3 x4 u3)))))))
def wp_Mod_handOut (u : RS) (p1 : Int32) (p2 : Int32) (Post : Int32 → RS → Prop) : Prop := (vp_in (pf_Mod_ofKind p1 0) 4306 ∧ (∀ x1 : Int32, x1 = (u.1 (pf_Mod_ofKind p1 0).toNatClampNeg) → (∃ k15 : Nat, wl_Mod_handOut_14 Post (fun x6 x7 x8 u5 => ((x8 = (-9) → Post 0 u5) ∧ (¬ x8 = (-9) → (vp_in (pf_Mod_of x8 0) 4306 ∧ (vp_in (pf_Mod_of x8 0) 4306 ∧ (∀ u9 : RS, u9 = (rR u5 (upd u5.1 (pf_Mod_of x8 0).toNatClampNeg ((u5.1 (pf_Mod_of x8 0).toNatClampNeg) - x7))) → (∀ u10 : RS, u10 = (rR u9 (upd u9.1 (3 : Int32).toNatClampNeg ((u9.1 (3 : Int32).toNatClampNeg) - (10 * x7)))) → (∀ u11 : RS, u11 = (rR u10 (upd u10.1 (7 : Int32).toNatClampNeg ((u10.1 (7 : Int32).toNatClampNeg) + (10 * x7)))) → (vp_in (pf_Mod_of x8 11) 4306 ∧ (∀ u12 : RS, u12 = (rR u11 (upd u11.1 (pf_Mod_of x8 11).toNatClampNeg x6)) → (vp_in (pf_Mod_of x8 3) 4306 ∧ (∀ u13 : RS, u13 = (rR u12 (upd u12.1 (pf_Mod_of x8 3).toNatClampNeg (-9))) → (vp_in (pf_Mod_of x8 4) 4306 ∧ (∀ u14 : RS, u14 = (rR u13 (upd u13.1 (pf_Mod_of x8 4).toNatClampNeg 0)) → Post 1 u14)))))))))))))) k15 p1 x1 p2 u)))
set_option maxHeartbeats 4000000 in
set_option maxRecDepth 100000 in
theorem x_Mod_handOut_14 {p : Program} {l : Launch} {e : Env} {s : State} {m : MethodId} {args : Array Value} {below : List Frame} {meth : Method} {c : Code} {A : Nat → Prop} {G : GG} {ad : Nat → Nat} {Post : Int32 → RS → Prop} {K : Int32 → Int32 → Int32 → RS → Prop} {Q : State → Prop}
    (hx : p.tables.exec = Jvm.exec) (hb : c.code = b_Mod_handOut) (hr : meth.sig.returnType = some .boolean) (hts : ∀ w ∈ Tg, w.before args s = true) (hown : s.vm.findClass "HamperClubModel" = some m.cls) (hml : c.maxLocals = 5) (hlocks : meth.locks = false) (hA : ∀ q, s.heap.size ≤ q → A q) (hK : KN G s)
    (hQ : Q = MQ below (va_Qi Post (BW G A (refW G ad)) A) args s 0 0 A)
    (kk : ∀ (b1 : Int32) (b3 : Int32) (b4 : Int32) (u : RS), K b1 b3 b4 u → ∀ (H : Heap) (locs : List Loc) (ls : Array Slot), va_P G.1 classes (refW G ad u) H → va_D A (refW G ad u) → va_S A s.heap H locs → lv_has ls 5 [(0, .ref (ad 0)), (1, .int b1), (3, .int b3), (4, .int b4)] → W p l e (rmK 4) s m args below meth c H locs 0 0 Q (F0 m 47 ls [])) :
    ∀ (n : Nat) (a1 : Int32) (a3 : Int32) (a4 : Int32) (u : RS), wl_Mod_handOut_14 Post K n a1 a3 a4 u → ∀ (H : Heap) (locs : List Loc) (ls : Array Slot), va_P G.1 classes (refW G ad u) H → va_D A (refW G ad u) → va_S A s.heap H locs → lv_has ls 5 [(0, .ref (ad 0)), (1, .int a1), (3, .int a3), (4, .int a4)] → W p l e (rmK 4) s m args below meth c H locs 0 0 Q (F0 m 14 ls []) := by
  subst hQ
  intro n
  induction n with
  | zero => intro a1 a3 a4 u h; exact h.elim
  | succ n ih =>
    intro a1 a3 a4 u2 h H locs ls hP hD hS hl
    unfold wl_Mod_handOut_14 at h
    refine lv_iload hx hb d_Mod_handOut_14 (lv_at hl 3 rfl) ?_
    refine lv_bipush (v := (-9)) hx hb d_Mod_handOut_16 (by decide) ?_
    refine lv_icmp_eq (tgt := 47) hx hb d_Mod_handOut_18 (by decide) (fun hc => ?_) (fun hc => ?_)
    · have h := h.1 hc
      exact kk a1 a3 a4 u2 h _ _ _ hP hD hS (lv_sub hl [0, 1, 2, 3] rfl)
    · have h := h.2 hc
      refine lv_aload_n hx hb d_Mod_handOut_21 rfl (lv_at hl 0 rfl) ?_
      refine gR_Mod_row hx hb hts hown hK hP tb_653 d_Mod_handOut_22 ?_
      refine lv_iload hx hb d_Mod_handOut_25 (lv_at hl 3 rfl) ?_
      refine lv_iconst (v := 0) hx hb d_Mod_handOut_27 (by decide) ?_
      refine call_S (As := [.int a4, .int 0]) (rest := [.ref (ad 1)]) hx hb hml hts hown so_Mod_43 rfl ⟨Nat.le_of_ble_eq_true rfl, Nat.le_of_ble_eq_true rfl⟩ ⟨Nat.le_of_ble_eq_true rfl, Nat.le_of_ble_eq_true rfl⟩ hl.1 rfl (Nat.le_of_ble_eq_true rfl) d_Mod_handOut_28 (k_Mod_of l a4 0) ?_
      obtain ⟨hi, h⟩ := h
      refine lR_1 hx hb hK hP hi d_Mod_handOut_31 ?_
      refine lv_iload_n hx hb d_Mod_handOut_32 rfl (lv_at hl 2 rfl) ?_
      refine lv_icmp_ge (tgt := 47) hx hb d_Mod_handOut_33 (by decide) (fun hc => ?_) (fun hc => ?_)
      · have h := h.1 hc
        exact kk a1 a3 a4 u2 h _ _ _ hP hD hS (lv_sub hl [0, 1, 2, 3] rfl)
      · have h := h.2 hc
        refine lv_aload_n hx hb d_Mod_handOut_36 rfl (lv_at hl 0 rfl) ?_
        refine lv_iload hx hb d_Mod_handOut_37 (lv_at hl 3 rfl) ?_
        refine call_Vi1 (own := "HamperClubModel") (As := [.int a4]) (rest := []) (q0 := 0) (ci := 9) hx hb hml hts hown hK hA hP hD hS ok_Mod_98 rfl ⟨Nat.le_of_ble_eq_true rfl, Nat.le_of_ble_eq_true rfl⟩ ⟨Nat.le_of_ble_eq_true rfl, Nat.le_of_ble_eq_true rfl⟩ rfl rfl rfl hl.1 rfl (Nat.le_of_ble_eq_true rfl) d_Mod_handOut_39 (c_Mod_drop l G ad _ u2 a4 _ h) (fun x4 u3 H locs h hP hD hS => ?_)
        refine lv_istore (lv' := [(4, .int x4), (0, .ref (ad 0)), (1, .int a1), (3, .int a3)]) hx hb d_Mod_handOut_42 hl (by decide) rfl (fun ls hl => ?_)
        refine lv_goto (tgt := 14) hx hb d_Mod_handOut_44 (by decide) ?_
        exact ih a1 a3 x4 u3 h _ _ _ hP hD hS (lv_sub hl [1, 2, 3, 0] rfl)
set_option maxHeartbeats 4000000 in
set_option maxRecDepth 100000 in
theorem c_Mod_handOut (l : Launch) (G : GG) (ad : Nat → Nat) (sz : Nat) (u : RS) (p1 : Int32) (p2 : Int32) (Post : Int32 → RS → Prop) (h : wp_Mod_handOut u p1 p2 Post) : CMi l y_Mod_handOut b_Mod_handOut 5 .boolean 4 G [.ref (ad 0), .int p1, .int p2] sz (refW G ad u) (refW G ad) Post := by
  refine CMi.start (by decide) (Nat.le_of_ble_eq_true rfl) (fun p e s m below meth c A ls hx hb hr hts hown hml hlocks hA hS hP hD hK hl => ?_)
  unfold wp_Mod_handOut at h
  have hl : lv_has ls 5 [(0, .ref (ad 0)), (1, .int p1), (2, .int p2)] := hl
  refine lv_aload_n hx hb d_Mod_handOut_0 rfl (lv_at hl 0 rfl) ?_
  refine gR_Mod_row hx hb hts hown hK hP tb_653 d_Mod_handOut_1 ?_
  refine lv_iload_n hx hb d_Mod_handOut_4 rfl (lv_at hl 1 rfl) ?_
  refine lv_iconst (v := 0) hx hb d_Mod_handOut_5 (by decide) ?_
  refine call_S (As := [.int p1, .int 0]) (rest := [.ref (ad 1)]) hx hb hml hts hown so_Mod_20 rfl ⟨Nat.le_of_ble_eq_true rfl, Nat.le_of_ble_eq_true rfl⟩ ⟨Nat.le_of_ble_eq_true rfl, Nat.le_of_ble_eq_true rfl⟩ hl.1 rfl (Nat.le_of_ble_eq_true rfl) d_Mod_handOut_6 (k_Mod_ofKind l p1 0) ?_
  obtain ⟨hi, h⟩ := h
  refine lR_1 hx hb hK hP hi d_Mod_handOut_9 ?_
  refine lv_topi (fun x1 ex1 => ?_)
  have h := h x1 ex1
  refine lv_istore_n (lv' := [(3, .int x1), (0, .ref (ad 0)), (1, .int p1), (2, .int p2)]) hx hb d_Mod_handOut_10 rfl hl (by decide) rfl (fun ls hl => ?_)
  refine lv_iload_n hx hb d_Mod_handOut_11 rfl (lv_at hl 3 rfl) ?_
  refine lv_istore (lv' := [(4, .int p2), (3, .int x1), (0, .ref (ad 0)), (1, .int p1), (2, .int p2)]) hx hb d_Mod_handOut_12 hl (by decide) rfl (fun ls hl => ?_)
  obtain ⟨n, h⟩ := h
  refine x_Mod_handOut_14 hx hb hr hts hown hml hlocks hA hK rfl (fun x6 x7 x8 u5 h H locs ls hP hD hS hl => ?_) n p1 x1 p2 u h _ _ _ hP hD hS (lv_sub hl [2, 3, 1, 0] rfl)
  refine lv_iload hx hb d_Mod_handOut_47 (lv_at hl 3 rfl) ?_
  refine lv_bipush (v := (-9)) hx hb d_Mod_handOut_49 (by decide) ?_
  refine lv_icmp_ne (tgt := 56) hx hb d_Mod_handOut_51 (by decide) (fun hc => ?_) (fun hc => ?_)
  · have h := h.2 hc
    refine lv_aload_n hx hb d_Mod_handOut_56 rfl (lv_at hl 0 rfl) ?_
    refine gR_Mod_row hx hb hts hown hK hP tb_653 d_Mod_handOut_57 ?_
    refine lv_iload hx hb d_Mod_handOut_60 (lv_at hl 3 rfl) ?_
    refine lv_iconst (v := 0) hx hb d_Mod_handOut_62 (by decide) ?_
    refine call_S (As := [.int x8, .int 0]) (rest := [.ref (ad 1)]) hx hb hml hts hown so_Mod_43 rfl ⟨Nat.le_of_ble_eq_true rfl, Nat.le_of_ble_eq_true rfl⟩ ⟨Nat.le_of_ble_eq_true rfl, Nat.le_of_ble_eq_true rfl⟩ hl.1 rfl (Nat.le_of_ble_eq_true rfl) d_Mod_handOut_63 (k_Mod_of l x8 0) ?_
    refine lv_dup2_11 hx hb d_Mod_handOut_66 rfl rfl ?_
    obtain ⟨hi, h⟩ := h
    refine lR_1 hx hb hK hP hi d_Mod_handOut_67 ?_
    refine lv_iload_n hx hb d_Mod_handOut_68 rfl (lv_at hl 2 rfl) ?_
    refine lv_isub hx hb d_Mod_handOut_69 ?_
    obtain ⟨hi, h⟩ := h
    refine sR_1 hx hb hK hP hD hS hi d_Mod_handOut_70 (fun u9 H locs eu9 hP hD hS => ?_)
    have h := h u9 eu9
    refine lv_aload_n hx hb d_Mod_handOut_71 rfl (lv_at hl 0 rfl) ?_
    refine gR_Mod_row hx hb hts hown hK hP tb_653 d_Mod_handOut_72 ?_
    refine lv_iconst (v := 3) hx hb d_Mod_handOut_75 (by decide) ?_
    refine lv_dup2_11 hx hb d_Mod_handOut_76 rfl rfl ?_
    refine lR_1 hx hb hK hP (by unfold vp_in; decide) d_Mod_handOut_77 ?_
    refine lv_bipush (v := 10) hx hb d_Mod_handOut_78 (by decide) ?_
    refine lv_iload_n hx hb d_Mod_handOut_80 rfl (lv_at hl 2 rfl) ?_
    refine lv_imul hx hb d_Mod_handOut_81 ?_
    refine lv_isub hx hb d_Mod_handOut_82 ?_
    refine sR_1 hx hb hK hP hD hS (by unfold vp_in; decide) d_Mod_handOut_83 (fun u10 H locs eu10 hP hD hS => ?_)
    have h := h u10 eu10
    refine lv_aload_n hx hb d_Mod_handOut_84 rfl (lv_at hl 0 rfl) ?_
    refine gR_Mod_row hx hb hts hown hK hP tb_653 d_Mod_handOut_85 ?_
    refine lv_bipush (v := 7) hx hb d_Mod_handOut_88 (by decide) ?_
    refine lv_dup2_11 hx hb d_Mod_handOut_90 rfl rfl ?_
    refine lR_1 hx hb hK hP (by unfold vp_in; decide) d_Mod_handOut_91 ?_
    refine lv_bipush (v := 10) hx hb d_Mod_handOut_92 (by decide) ?_
    refine lv_iload_n hx hb d_Mod_handOut_94 rfl (lv_at hl 2 rfl) ?_
    refine lv_imul hx hb d_Mod_handOut_95 ?_
    refine lv_iadd hx hb d_Mod_handOut_96 ?_
    refine sR_1 hx hb hK hP hD hS (by unfold vp_in; decide) d_Mod_handOut_97 (fun u11 H locs eu11 hP hD hS => ?_)
    have h := h u11 eu11
    refine lv_aload_n hx hb d_Mod_handOut_98 rfl (lv_at hl 0 rfl) ?_
    refine gR_Mod_row hx hb hts hown hK hP tb_653 d_Mod_handOut_99 ?_
    refine lv_iload hx hb d_Mod_handOut_102 (lv_at hl 3 rfl) ?_
    refine lv_bipush (v := 11) hx hb d_Mod_handOut_104 (by decide) ?_
    refine call_S (As := [.int x8, .int 11]) (rest := [.ref (ad 1)]) hx hb hml hts hown so_Mod_43 rfl ⟨Nat.le_of_ble_eq_true rfl, Nat.le_of_ble_eq_true rfl⟩ ⟨Nat.le_of_ble_eq_true rfl, Nat.le_of_ble_eq_true rfl⟩ hl.1 rfl (Nat.le_of_ble_eq_true rfl) d_Mod_handOut_106 (k_Mod_of l x8 11) ?_
    refine lv_iload_n hx hb d_Mod_handOut_109 rfl (lv_at hl 1 rfl) ?_
    obtain ⟨hi, h⟩ := h
    refine sR_1 hx hb hK hP hD hS hi d_Mod_handOut_110 (fun u12 H locs eu12 hP hD hS => ?_)
    have h := h u12 eu12
    refine lv_aload_n hx hb d_Mod_handOut_111 rfl (lv_at hl 0 rfl) ?_
    refine gR_Mod_row hx hb hts hown hK hP tb_653 d_Mod_handOut_112 ?_
    refine lv_iload hx hb d_Mod_handOut_115 (lv_at hl 3 rfl) ?_
    refine lv_iconst (v := 3) hx hb d_Mod_handOut_117 (by decide) ?_
    refine call_S (As := [.int x8, .int 3]) (rest := [.ref (ad 1)]) hx hb hml hts hown so_Mod_43 rfl ⟨Nat.le_of_ble_eq_true rfl, Nat.le_of_ble_eq_true rfl⟩ ⟨Nat.le_of_ble_eq_true rfl, Nat.le_of_ble_eq_true rfl⟩ hl.1 rfl (Nat.le_of_ble_eq_true rfl) d_Mod_handOut_118 (k_Mod_of l x8 3) ?_
    refine lv_bipush (v := (-9)) hx hb d_Mod_handOut_121 (by decide) ?_
    obtain ⟨hi, h⟩ := h
    refine sR_1 hx hb hK hP hD hS hi d_Mod_handOut_123 (fun u13 H locs eu13 hP hD hS => ?_)
    have h := h u13 eu13
    refine lv_aload_n hx hb d_Mod_handOut_124 rfl (lv_at hl 0 rfl) ?_
    refine gR_Mod_row hx hb hts hown hK hP tb_653 d_Mod_handOut_125 ?_
    refine lv_iload hx hb d_Mod_handOut_128 (lv_at hl 3 rfl) ?_
    refine lv_iconst (v := 4) hx hb d_Mod_handOut_130 (by decide) ?_
    refine call_S (As := [.int x8, .int 4]) (rest := [.ref (ad 1)]) hx hb hml hts hown so_Mod_43 rfl ⟨Nat.le_of_ble_eq_true rfl, Nat.le_of_ble_eq_true rfl⟩ ⟨Nat.le_of_ble_eq_true rfl, Nat.le_of_ble_eq_true rfl⟩ hl.1 rfl (Nat.le_of_ble_eq_true rfl) d_Mod_handOut_131 (k_Mod_of l x8 4) ?_
    refine lv_iconst (v := 0) hx hb d_Mod_handOut_134 (by decide) ?_
    obtain ⟨hi, h⟩ := h
    refine sR_1 hx hb hK hP hD hS hi d_Mod_handOut_135 (fun u14 H locs eu14 hP hD hS => ?_)
    have h := h u14 eu14
    refine lv_iconst (v := 1) hx hb d_Mod_handOut_136 (by decide) ?_
    exact r_zret hx hb hr hlocks rfl hP hD hS d_Mod_handOut_137 h
  · have h := h.1 hc
    refine lv_iconst (v := 0) hx hb d_Mod_handOut_54 (by decide) ?_
    exact r_zret hx hb hr hlocks rfl hP hD hS d_Mod_handOut_55 h
def wp_Mod_choose (u : RS) (p1 : Int32) (p2 : Int32) (Post : Int32 → RS → Prop) : Prop := (wp_Mod_noChoose u p1 p2 (fun x2 u1 => ((x2 = 0 → (wp_Mod_record u1  (fun u3 => (wp_Mod_doChoose u3 p1 p2 (fun x5 u4 => Post x5 u4))))) ∧ (¬ x2 = 0 → Post x2 u1))))
theorem ok_Mod_104 : CallOk y_Mod_doChoose b_Mod_doChoose 3 (some .int) 4 2 "HamperClubModel" 104 := ⟨tb_795, tb_797, sl_27, tb_12, tb_798, by decide +kernel⟩
set_option maxHeartbeats 4000000 in
set_option maxRecDepth 100000 in
theorem c_Mod_choose (l : Launch) (G : GG) (ad : Nat → Nat) (sz : Nat) (u : RS) (p1 : Int32) (p2 : Int32) (Post : Int32 → RS → Prop) (h : wp_Mod_choose u p1 p2 Post) : CMi l y_Mod_choose b_Mod_choose 4 .int 5 G [.ref (ad 0), .int p1, .int p2] sz (refW G ad u) (refW G ad) Post := by
  refine CMi.start (by decide) (Nat.le_of_ble_eq_true rfl) (fun p e s m below meth c A ls hx hb hr hts hown hml hlocks hA hS hP hD hK hl => ?_)
  unfold wp_Mod_choose at h
  have hl : lv_has ls 4 [(0, .ref (ad 0)), (1, .int p1), (2, .int p2)] := hl
  refine lv_aload_n hx hb d_Mod_choose_0 rfl (lv_at hl 0 rfl) ?_
  refine lv_iload_n hx hb d_Mod_choose_1 rfl (lv_at hl 1 rfl) ?_
  refine lv_iload_n hx hb d_Mod_choose_2 rfl (lv_at hl 2 rfl) ?_
  refine call_Vi1 (own := "HamperClubModel") (As := [.int p1, .int p2]) (rest := []) (q0 := 0) (ci := 9) hx hb hml hts hown hK hA hP hD hS ok_Mod_101 rfl ⟨Nat.le_of_ble_eq_true rfl, Nat.le_of_ble_eq_true rfl⟩ ⟨Nat.le_of_ble_eq_true rfl, Nat.le_of_ble_eq_true rfl⟩ rfl rfl rfl hl.1 rfl (Nat.le_of_ble_eq_true rfl) d_Mod_choose_3 (c_Mod_noChoose l G ad _ u p1 p2 _ h) (fun x2 u1 H locs h hP hD hS => ?_)
  refine lv_istore_n (lv' := [(3, .int x2), (0, .ref (ad 0)), (1, .int p1), (2, .int p2)]) hx hb d_Mod_choose_6 rfl hl (by decide) rfl (fun ls hl => ?_)
  refine lv_iload_n hx hb d_Mod_choose_7 rfl (lv_at hl 0 rfl) ?_
  refine lv_if_eq (tgt := 13) hx hb d_Mod_choose_8 (by decide) (fun hc => ?_) (fun hc => ?_)
  · have h := h.1 hc
    refine lv_aload_n hx hb d_Mod_choose_13 rfl (lv_at hl 1 rfl) ?_
    refine call_Vv1 (own := "HamperClubModel") (As := []) (rest := []) (q0 := 0) (ci := 9) hx hb hml hts hown hK hA hP hD hS ok_Mod_36 rfl ⟨Nat.le_of_ble_eq_true rfl, Nat.le_of_ble_eq_true rfl⟩ ⟨Nat.le_of_ble_eq_true rfl, Nat.le_of_ble_eq_true rfl⟩ rfl rfl rfl hl.1 rfl (Nat.le_of_ble_eq_true rfl) d_Mod_choose_14 (c_Mod_record l G ad _ u1  _ h) (fun u3 H locs h hP hD hS => ?_)
    refine lv_aload_n hx hb d_Mod_choose_17 rfl (lv_at hl 1 rfl) ?_
    refine lv_iload_n hx hb d_Mod_choose_18 rfl (lv_at hl 2 rfl) ?_
    refine lv_iload_n hx hb d_Mod_choose_19 rfl (lv_at hl 3 rfl) ?_
    refine call_Vi1 (own := "HamperClubModel") (As := [.int p1, .int p2]) (rest := []) (q0 := 0) (ci := 9) hx hb hml hts hown hK hA hP hD hS ok_Mod_104 rfl ⟨Nat.le_of_ble_eq_true rfl, Nat.le_of_ble_eq_true rfl⟩ ⟨Nat.le_of_ble_eq_true rfl, Nat.le_of_ble_eq_true rfl⟩ rfl rfl rfl hl.1 rfl (Nat.le_of_ble_eq_true rfl) d_Mod_choose_20 (c_Mod_doChoose l G ad _ u3 p1 p2 _ h) (fun x5 u4 H locs h hP hD hS => ?_)
    exact r_iret hx hb hr hlocks hP hD hS d_Mod_choose_23 h
  · have h := h.2 hc
    refine lv_iload_n hx hb d_Mod_choose_11 rfl (lv_at hl 0 rfl) ?_
    exact r_iret hx hb hr hlocks hP hD hS d_Mod_choose_12 h
def wp_Mod_week (u : RS) (Post : Int32 → RS → Prop) : Prop := (wp_Mod_noWeek u  (fun x2 u1 => ((x2 = 0 → (wp_Mod_record u1  (fun u3 => (wp_Mod_doWeek u3  (fun x5 u4 => Post x5 u4))))) ∧ (¬ x2 = 0 → Post x2 u1))))
theorem ok_Mod_114 : CallOk y_Mod_doWeek b_Mod_doWeek 4 (some .int) 4 0 "HamperClubModel" 114 := ⟨tb_831, tb_833, sl_34, tb_12, tb_834, by decide +kernel⟩
set_option maxHeartbeats 4000000 in
set_option maxRecDepth 100000 in
theorem c_Mod_week (l : Launch) (G : GG) (ad : Nat → Nat) (sz : Nat) (u : RS) (Post : Int32 → RS → Prop) (h : wp_Mod_week u Post) : CMi l y_Mod_week b_Mod_week 2 .int 5 G [.ref (ad 0)] sz (refW G ad u) (refW G ad) Post := by
  refine CMi.start (by decide) (Nat.le_of_ble_eq_true rfl) (fun p e s m below meth c A ls hx hb hr hts hown hml hlocks hA hS hP hD hK hl => ?_)
  unfold wp_Mod_week at h
  have hl : lv_has ls 2 [(0, .ref (ad 0))] := hl
  refine lv_aload_n hx hb d_Mod_week_0 rfl (lv_at hl 0 rfl) ?_
  refine call_Vi1 (own := "HamperClubModel") (As := []) (rest := []) (q0 := 0) (ci := 9) hx hb hml hts hown hK hA hP hD hS ok_Mod_110 rfl ⟨Nat.le_of_ble_eq_true rfl, Nat.le_of_ble_eq_true rfl⟩ ⟨Nat.le_of_ble_eq_true rfl, Nat.le_of_ble_eq_true rfl⟩ rfl rfl rfl hl.1 rfl (Nat.le_of_ble_eq_true rfl) d_Mod_week_1 (c_Mod_noWeek l G ad _ u  _ h) (fun x2 u1 H locs h hP hD hS => ?_)
  refine lv_istore_n (lv' := [(1, .int x2), (0, .ref (ad 0))]) hx hb d_Mod_week_4 rfl hl (by decide) rfl (fun ls hl => ?_)
  refine lv_iload_n hx hb d_Mod_week_5 rfl (lv_at hl 0 rfl) ?_
  refine lv_if_eq (tgt := 11) hx hb d_Mod_week_6 (by decide) (fun hc => ?_) (fun hc => ?_)
  · have h := h.1 hc
    refine lv_aload_n hx hb d_Mod_week_11 rfl (lv_at hl 1 rfl) ?_
    refine call_Vv1 (own := "HamperClubModel") (As := []) (rest := []) (q0 := 0) (ci := 9) hx hb hml hts hown hK hA hP hD hS ok_Mod_36 rfl ⟨Nat.le_of_ble_eq_true rfl, Nat.le_of_ble_eq_true rfl⟩ ⟨Nat.le_of_ble_eq_true rfl, Nat.le_of_ble_eq_true rfl⟩ rfl rfl rfl hl.1 rfl (Nat.le_of_ble_eq_true rfl) d_Mod_week_12 (c_Mod_record l G ad _ u1  _ h) (fun u3 H locs h hP hD hS => ?_)
    refine lv_aload_n hx hb d_Mod_week_15 rfl (lv_at hl 1 rfl) ?_
    refine call_Vi1 (own := "HamperClubModel") (As := []) (rest := []) (q0 := 0) (ci := 9) hx hb hml hts hown hK hA hP hD hS ok_Mod_114 rfl ⟨Nat.le_of_ble_eq_true rfl, Nat.le_of_ble_eq_true rfl⟩ ⟨Nat.le_of_ble_eq_true rfl, Nat.le_of_ble_eq_true rfl⟩ rfl rfl rfl hl.1 rfl (Nat.le_of_ble_eq_true rfl) d_Mod_week_16 (c_Mod_doWeek l G ad _ u3  _ h) (fun x5 u4 H locs h hP hD hS => ?_)
    exact r_iret hx hb hr hlocks hP hD hS d_Mod_week_19 h
  · have h := h.2 hc
    refine lv_iload_n hx hb d_Mod_week_9 rfl (lv_at hl 0 rfl) ?_
    exact r_iret hx hb hr hlocks hP hD hS d_Mod_week_10 h
def wl_Mod_doSettle_15 (Post : Int32 → RS → Prop) (K : Int32 → Int32 → RS → Prop) : Nat → Int32 → Int32 → Int32 → RS → Prop
  | 0, _, _, _ => fun _ => False
  | n + 1, a1, a2, a3 => fun u3 => (((u3.1 (1 : Int32).toNatClampNeg) ≤ a3 → K a1 a2 u3) ∧ (¬ (u3.1 (1 : Int32).toNatClampNeg) ≤ a3 → (vp_in (pf_Mod_of a3 3) 4306 ∧ (((u3.1 (pf_Mod_of a3 3).toNatClampNeg) = a2 → (vp_in (pf_Mod_of a3 4) 4306 ∧ (((u3.1 (pf_Mod_of a3 4).toNatClampNeg) = 1 → (vp_in a3 12 ∧ (∀ u8 : RS, u8 = (rF u3 (upd u3.2.2.1 a3.toNatClampNeg (vp_nar .boolean 1))) → (∀ x9 : Int32, x9 = a3 + 1 → wl_Mod_doSettle_15 Post K n a1 a2 x9 u8)))) ∧ (¬ (u3.1 (pf_Mod_of a3 4).toNatClampNeg) = 1 → (vp_in a3 12 ∧ (∀ u6 : RS, u6 = (rF u3 (upd u3.2.2.1 a3.toNatClampNeg (vp_nar .boolean 0))) → (∀ x7 : Int32, x7 = a3 + 1 → wl_Mod_doSettle_15 Post K n a1 a2 x7 u6))))))) ∧ (¬ (u3.1 (pf_Mod_of a3 3).toNatClampNeg) = a2 → (vp_in a3 12 ∧ (∀ u4 : RS, u4 = (rF u3 (upd u3.2.2.1 a3.toNatClampNeg (vp_nar .boolean 0))) → (∀ x5 : Int32, x5 = a3 + 1 → wl_Mod_doSettle_15 Post K n a1 a2 x5 u4))))))))
def wl_Mod_doSettle_72 (Post : Int32 → RS → Prop) (K : Int32 → Int32 → RS → Prop) : Nat → Int32 → Int32 → Int32 → RS → Prop
  | 0, _, _, _ => fun _ => False
  | n + 1, a1, a2, a3 => fun u13 => (((u13.1 (1 : Int32).toNatClampNeg) ≤ a3 → K a1 a2 u13) ∧ (¬ (u13.1 (1 : Int32).toNatClampNeg) ≤ a3 → (vp_in a3 12 ∧ (((u13.2.2.1 a3.toNatClampNeg) = 0 → (∀ x14 : Int32, x14 = (a1 + 0) → (∀ x15 : Int32, x15 = a3 + 1 → wl_Mod_doSettle_72 Post K n x14 a2 x15 u13))) ∧ (¬ (u13.2.2.1 a3.toNatClampNeg) = 0 → (wp_Mod_handOut u13 a2 a3 (fun x17 u16 => ((x17 = 0 → (∀ x18 : Int32, x18 = (a1 + 0) → (∀ x19 : Int32, x19 = a3 + 1 → wl_Mod_doSettle_72 Post K n x18 a2 x19 u16))) ∧ (¬ x17 = 0 → (∀ x20 : Int32, x20 = (a1 + 1) → (∀ x21 : Int32, x21 = a3 + 1 → wl_Mod_doSettle_72 Post K n x20 a2 x21 u16)))))))))))
def wl_Mod_doSettle_8 (Post : Int32 → RS → Prop) (K : Int32 → RS → Prop) : Nat → Int32 → Int32 → RS → Prop
  | 0, _, _ => fun _ => False
  | n + 1, a1, a2 => fun u2 => ((4 ≤ a2 → K a1 u2) ∧ (¬ 4 ≤ a2 → (∃ k27 : Nat, wl_Mod_doSettle_15 Post (fun x11 x12 u10 => (∃ k26 : Nat, wl_Mod_doSettle_72 Post (fun x23 x24 u22 => (∀ x25 : Int32, x25 = x24 + 1 → wl_Mod_doSettle_8 Post K n x23 x25 u22)) k26 x11 x12 0 u10)) k27 a1 a2 0 u2)))
def wl_Mod_doSettle_122 (Post : Int32 → RS → Prop) (K : Int32 → RS → Prop) : Nat → Int32 → Int32 → RS → Prop
  | 0, _, _ => fun _ => False
  | n + 1, a1, a2 => fun u30 => (((u30.1 (1 : Int32).toNatClampNeg) ≤ a2 → K a1 u30) ∧ (¬ (u30.1 (1 : Int32).toNatClampNeg) ≤ a2 → (vp_in (pf_Mod_of a2 0) 4306 ∧ (vp_in (pf_Mod_of a2 12) 4306 ∧ (wp_Mod_payOut u30 a2 ((10 * (u30.1 (pf_Mod_of a2 0).toNatClampNeg)) + (u30.1 (pf_Mod_of a2 12).toNatClampNeg)) (fun u31 => (vp_in (pf_Mod_of a2 0) 4306 ∧ (∀ u32 : RS, u32 = (rR u31 (upd u31.1 (pf_Mod_of a2 0).toNatClampNeg 0)) → (vp_in (pf_Mod_of a2 1) 4306 ∧ (∀ u33 : RS, u33 = (rR u32 (upd u32.1 (pf_Mod_of a2 1).toNatClampNeg 2)) → (vp_in (pf_Mod_of a2 3) 4306 ∧ (∀ u34 : RS, u34 = (rR u33 (upd u33.1 (pf_Mod_of a2 3).toNatClampNeg (-9))) → (vp_in (pf_Mod_of a2 4) 4306 ∧ (∀ u35 : RS, u35 = (rR u34 (upd u34.1 (pf_Mod_of a2 4).toNatClampNeg 0)) → (∀ x36 : Int32, x36 = a2 + 1 → wl_Mod_doSettle_122 Post K n a1 x36 u35)))))))))))))))
def wl_Mod_doSettle_215 (Post : Int32 → RS → Prop) (K : Int32 → RS → Prop) : Nat → Int32 → Int32 → RS → Prop
  | 0, _, _ => fun _ => False
  | n + 1, a1, a2 => fun u39 => ((4 ≤ a2 → K a1 u39) ∧ (¬ 4 ≤ a2 → (vp_in (pf_Mod_ofKind a2 2) 4306 ∧ (∀ u40 : RS, u40 = (rR u39 (upd u39.1 (pf_Mod_ofKind a2 2).toNatClampNeg 0)) → (∀ x41 : Int32, x41 = a2 + 1 → wl_Mod_doSettle_215 Post K n a1 x41 u40)))))
def wp_Mod_doSettle (u : RS) (Post : Int32 → RS → Prop) : Prop := (wp_Mod_layBonuses u  (fun u1 => (∃ k49 : Nat, wl_Mod_doSettle_8 Post (fun x29 u28 => (∃ k48 : Nat, wl_Mod_doSettle_122 Post (fun x38 u37 => (∃ k47 : Nat, wl_Mod_doSettle_215 Post (fun x43 u42 => (∀ u44 : RS, u44 = (rR u42 (upd u42.1 (8 : Int32).toNatClampNeg ((u42.1 (8 : Int32).toNatClampNeg) + x43))) → (∀ u45 : RS, u45 = (rR u44 (upd u44.1 (4 : Int32).toNatClampNeg 0)) → (∀ u46 : RS, u46 = (rR u45 (upd u45.1 (2 : Int32).toNatClampNeg 1)) → Post x43 u46)))) k47 x38 0 u37)) k48 x29 0 u28)) k49 0 0 u1)))
theorem ok_Mod_120 : CallOk y_Mod_layBonuses b_Mod_layBonuses 3 none 2 0 "HamperClubModel" 120 := ⟨tb_843, tb_845, sl_36, tb_12, tb_846, by decide +kernel⟩
theorem ok_Mod_123 : CallOk y_Mod_handOut b_Mod_handOut 5 (some .boolean) 4 2 "HamperClubModel" 123 := ⟨tb_851, tb_853, sl_38, tb_12, tb_854, by decide +kernel⟩
set_option maxHeartbeats 4000000 in
set_option maxRecDepth 100000 in
theorem x_Mod_doSettle_15 {p : Program} {l : Launch} {e : Env} {s : State} {m : MethodId} {args : Array Value} {below : List Frame} {meth : Method} {c : Code} {A : Nat → Prop} {G : GG} {ad : Nat → Nat} {Post : Int32 → RS → Prop} {K : Int32 → Int32 → RS → Prop} {Q : State → Prop}
    (hx : p.tables.exec = Jvm.exec) (hb : c.code = b_Mod_doSettle) (hr : meth.sig.returnType = some .int) (hts : ∀ w ∈ Tg, w.before args s = true) (hown : s.vm.findClass "HamperClubModel" = some m.cls) (hml : c.maxLocals = 4) (hlocks : meth.locks = false) (hA : ∀ q, s.heap.size ≤ q → A q) (hK : KN G s)
    (hQ : Q = MQ below (va_Qi Post (BW G A (refW G ad)) A) args s 0 0 A)
    (kk : ∀ (b1 : Int32) (b2 : Int32) (u : RS), K b1 b2 u → ∀ (H : Heap) (locs : List Loc) (ls : Array Slot), va_P G.1 classes (refW G ad u) H → va_D A (refW G ad u) → va_S A s.heap H locs → lv_has ls 4 [(0, .ref (ad 0)), (1, .int b1), (2, .int b2)] → W p l e (rmK 5) s m args below meth c H locs 0 0 Q (F0 m 70 ls [])) :
    ∀ (n : Nat) (a1 : Int32) (a2 : Int32) (a3 : Int32) (u : RS), wl_Mod_doSettle_15 Post K n a1 a2 a3 u → ∀ (H : Heap) (locs : List Loc) (ls : Array Slot), va_P G.1 classes (refW G ad u) H → va_D A (refW G ad u) → va_S A s.heap H locs → lv_has ls 4 [(0, .ref (ad 0)), (1, .int a1), (2, .int a2), (3, .int a3)] → W p l e (rmK 5) s m args below meth c H locs 0 0 Q (F0 m 15 ls []) := by
  subst hQ
  intro n
  induction n with
  | zero => intro a1 a2 a3 u h; exact h.elim
  | succ n ih =>
    intro a1 a2 a3 u3 h H locs ls hP hD hS hl
    unfold wl_Mod_doSettle_15 at h
    refine lv_iload_n hx hb d_Mod_doSettle_15 rfl (lv_at hl 3 rfl) ?_
    refine lv_aload_n hx hb d_Mod_doSettle_16 rfl (lv_at hl 0 rfl) ?_
    refine gR_Mod_row hx hb hts hown hK hP tb_653 d_Mod_doSettle_17 ?_
    refine lv_iconst (v := 1) hx hb d_Mod_doSettle_20 (by decide) ?_
    refine lR_1 hx hb hK hP (by unfold vp_in; decide) d_Mod_doSettle_21 ?_
    refine lv_icmp_ge (tgt := 70) hx hb d_Mod_doSettle_22 (by decide) (fun hc => ?_) (fun hc => ?_)
    · have h := h.1 hc
      exact kk a1 a2 u3 h _ _ _ hP hD hS (lv_sub hl [0, 1, 2] rfl)
    · have h := h.2 hc
      refine lv_aload_n hx hb d_Mod_doSettle_25 rfl (lv_at hl 0 rfl) ?_
      refine gR_Mod_isFirst hx hb hts hown hK hP tb_657 d_Mod_doSettle_26 ?_
      refine lv_iload_n hx hb d_Mod_doSettle_29 rfl (lv_at hl 3 rfl) ?_
      refine lv_aload_n hx hb d_Mod_doSettle_30 rfl (lv_at hl 0 rfl) ?_
      refine gR_Mod_row hx hb hts hown hK hP tb_653 d_Mod_doSettle_31 ?_
      refine lv_iload_n hx hb d_Mod_doSettle_34 rfl (lv_at hl 3 rfl) ?_
      refine lv_iconst (v := 3) hx hb d_Mod_doSettle_35 (by decide) ?_
      refine call_S (As := [.int a3, .int 3]) (rest := [.ref (ad 1), .int a3, .ref (ad 3)]) hx hb hml hts hown so_Mod_43 rfl ⟨Nat.le_of_ble_eq_true rfl, Nat.le_of_ble_eq_true rfl⟩ ⟨Nat.le_of_ble_eq_true rfl, Nat.le_of_ble_eq_true rfl⟩ hl.1 rfl (Nat.le_of_ble_eq_true rfl) d_Mod_doSettle_36 (k_Mod_of l a3 3) ?_
      obtain ⟨hi, h⟩ := h
      refine lR_1 hx hb hK hP hi d_Mod_doSettle_39 ?_
      refine lv_iload_n hx hb d_Mod_doSettle_40 rfl (lv_at hl 2 rfl) ?_
      refine lv_icmp_ne (tgt := 62) hx hb d_Mod_doSettle_41 (by decide) (fun hc => ?_) (fun hc => ?_)
      · have h := h.2 hc
        refine lv_iconst (v := 0) hx hb d_Mod_doSettle_62 (by decide) ?_
        obtain ⟨hi, h⟩ := h
        refine sR_3 hx hb hK hP hD hS hi d_Mod_doSettle_63 (fun u4 H locs eu4 hP hD hS => ?_)
        have h := h u4 eu4
        obtain ⟨x5, ex5⟩ : ∃ y : Int32, y = a3 + 1 := ⟨_, rfl⟩
        have h := h x5 ex5
        refine lv_iinc (v := x5) (lv' := [(3, .int x5), (0, .ref (ad 0)), (1, .int a1), (2, .int a2)]) hx hb d_Mod_doSettle_64 hl (k := 3) rfl (by rw [ex5]; rfl) (by decide) rfl (fun ls hl => ?_)
        refine lv_goto (tgt := 15) hx hb d_Mod_doSettle_67 (by decide) ?_
        exact ih a1 a2 x5 u4 h _ _ _ hP hD hS (lv_sub hl [1, 2, 3, 0] rfl)
      · have h := h.1 hc
        refine lv_aload_n hx hb d_Mod_doSettle_44 rfl (lv_at hl 0 rfl) ?_
        refine gR_Mod_row hx hb hts hown hK hP tb_653 d_Mod_doSettle_45 ?_
        refine lv_iload_n hx hb d_Mod_doSettle_48 rfl (lv_at hl 3 rfl) ?_
        refine lv_iconst (v := 4) hx hb d_Mod_doSettle_49 (by decide) ?_
        refine call_S (As := [.int a3, .int 4]) (rest := [.ref (ad 1), .int a3, .ref (ad 3)]) hx hb hml hts hown so_Mod_43 rfl ⟨Nat.le_of_ble_eq_true rfl, Nat.le_of_ble_eq_true rfl⟩ ⟨Nat.le_of_ble_eq_true rfl, Nat.le_of_ble_eq_true rfl⟩ hl.1 rfl (Nat.le_of_ble_eq_true rfl) d_Mod_doSettle_50 (k_Mod_of l a3 4) ?_
        obtain ⟨hi, h⟩ := h
        refine lR_1 hx hb hK hP hi d_Mod_doSettle_53 ?_
        refine lv_iconst (v := 1) hx hb d_Mod_doSettle_54 (by decide) ?_
        refine lv_icmp_ne (tgt := 62) hx hb d_Mod_doSettle_55 (by decide) (fun hc => ?_) (fun hc => ?_)
        · have h := h.2 hc
          refine lv_iconst (v := 0) hx hb d_Mod_doSettle_62 (by decide) ?_
          obtain ⟨hi, h⟩ := h
          refine sR_3 hx hb hK hP hD hS hi d_Mod_doSettle_63 (fun u6 H locs eu6 hP hD hS => ?_)
          have h := h u6 eu6
          obtain ⟨x7, ex7⟩ : ∃ y : Int32, y = a3 + 1 := ⟨_, rfl⟩
          have h := h x7 ex7
          refine lv_iinc (v := x7) (lv' := [(3, .int x7), (0, .ref (ad 0)), (1, .int a1), (2, .int a2)]) hx hb d_Mod_doSettle_64 hl (k := 3) rfl (by rw [ex7]; rfl) (by decide) rfl (fun ls hl => ?_)
          refine lv_goto (tgt := 15) hx hb d_Mod_doSettle_67 (by decide) ?_
          exact ih a1 a2 x7 u6 h _ _ _ hP hD hS (lv_sub hl [1, 2, 3, 0] rfl)
        · have h := h.1 hc
          refine lv_iconst (v := 1) hx hb d_Mod_doSettle_58 (by decide) ?_
          refine lv_goto (tgt := 63) hx hb d_Mod_doSettle_59 (by decide) ?_
          obtain ⟨hi, h⟩ := h
          refine sR_3 hx hb hK hP hD hS hi d_Mod_doSettle_63 (fun u8 H locs eu8 hP hD hS => ?_)
          have h := h u8 eu8
          obtain ⟨x9, ex9⟩ : ∃ y : Int32, y = a3 + 1 := ⟨_, rfl⟩
          have h := h x9 ex9
          refine lv_iinc (v := x9) (lv' := [(3, .int x9), (0, .ref (ad 0)), (1, .int a1), (2, .int a2)]) hx hb d_Mod_doSettle_64 hl (k := 3) rfl (by rw [ex9]; rfl) (by decide) rfl (fun ls hl => ?_)
          refine lv_goto (tgt := 15) hx hb d_Mod_doSettle_67 (by decide) ?_
          exact ih a1 a2 x9 u8 h _ _ _ hP hD hS (lv_sub hl [1, 2, 3, 0] rfl)
set_option maxHeartbeats 4000000 in
set_option maxRecDepth 100000 in
theorem x_Mod_doSettle_72 {p : Program} {l : Launch} {e : Env} {s : State} {m : MethodId} {args : Array Value} {below : List Frame} {meth : Method} {c : Code} {A : Nat → Prop} {G : GG} {ad : Nat → Nat} {Post : Int32 → RS → Prop} {K : Int32 → Int32 → RS → Prop} {Q : State → Prop}
    (hx : p.tables.exec = Jvm.exec) (hb : c.code = b_Mod_doSettle) (hr : meth.sig.returnType = some .int) (hts : ∀ w ∈ Tg, w.before args s = true) (hown : s.vm.findClass "HamperClubModel" = some m.cls) (hml : c.maxLocals = 4) (hlocks : meth.locks = false) (hA : ∀ q, s.heap.size ≤ q → A q) (hK : KN G s)
    (hQ : Q = MQ below (va_Qi Post (BW G A (refW G ad)) A) args s 0 0 A)
    (kk : ∀ (b1 : Int32) (b2 : Int32) (u : RS), K b1 b2 u → ∀ (H : Heap) (locs : List Loc) (ls : Array Slot), va_P G.1 classes (refW G ad u) H → va_D A (refW G ad u) → va_S A s.heap H locs → lv_has ls 4 [(0, .ref (ad 0)), (1, .int b1), (2, .int b2)] → W p l e (rmK 5) s m args below meth c H locs 0 0 Q (F0 m 114 ls [])) :
    ∀ (n : Nat) (a1 : Int32) (a2 : Int32) (a3 : Int32) (u : RS), wl_Mod_doSettle_72 Post K n a1 a2 a3 u → ∀ (H : Heap) (locs : List Loc) (ls : Array Slot), va_P G.1 classes (refW G ad u) H → va_D A (refW G ad u) → va_S A s.heap H locs → lv_has ls 4 [(0, .ref (ad 0)), (1, .int a1), (2, .int a2), (3, .int a3)] → W p l e (rmK 5) s m args below meth c H locs 0 0 Q (F0 m 72 ls []) := by
  subst hQ
  intro n
  induction n with
  | zero => intro a1 a2 a3 u h; exact h.elim
  | succ n ih =>
    intro a1 a2 a3 u13 h H locs ls hP hD hS hl
    unfold wl_Mod_doSettle_72 at h
    refine lv_iload_n hx hb d_Mod_doSettle_72 rfl (lv_at hl 3 rfl) ?_
    refine lv_aload_n hx hb d_Mod_doSettle_73 rfl (lv_at hl 0 rfl) ?_
    refine gR_Mod_row hx hb hts hown hK hP tb_653 d_Mod_doSettle_74 ?_
    refine lv_iconst (v := 1) hx hb d_Mod_doSettle_77 (by decide) ?_
    refine lR_1 hx hb hK hP (by unfold vp_in; decide) d_Mod_doSettle_78 ?_
    refine lv_icmp_ge (tgt := 114) hx hb d_Mod_doSettle_79 (by decide) (fun hc => ?_) (fun hc => ?_)
    · have h := h.1 hc
      exact kk a1 a2 u13 h _ _ _ hP hD hS (lv_sub hl [0, 1, 2] rfl)
    · have h := h.2 hc
      refine lv_iload_n hx hb d_Mod_doSettle_82 rfl (lv_at hl 1 rfl) ?_
      refine lv_aload_n hx hb d_Mod_doSettle_83 rfl (lv_at hl 0 rfl) ?_
      refine gR_Mod_isFirst hx hb hts hown hK hP tb_657 d_Mod_doSettle_84 ?_
      refine lv_iload_n hx hb d_Mod_doSettle_87 rfl (lv_at hl 3 rfl) ?_
      obtain ⟨hi, h⟩ := h
      refine lR_3 hx hb hK hP hi d_Mod_doSettle_88 ?_
      refine lv_if_eq (tgt := 105) hx hb d_Mod_doSettle_89 (by decide) (fun hc => ?_) (fun hc => ?_)
      · have h := h.1 hc
        refine lv_iconst (v := 0) hx hb d_Mod_doSettle_105 (by decide) ?_
        refine lv_iadd hx hb d_Mod_doSettle_106 ?_
        refine lv_topi (fun x14 ex14 => ?_)
        have h := h x14 ex14
        refine lv_istore_n (lv' := [(1, .int x14), (0, .ref (ad 0)), (2, .int a2), (3, .int a3)]) hx hb d_Mod_doSettle_107 rfl hl (by decide) rfl (fun ls hl => ?_)
        obtain ⟨x15, ex15⟩ : ∃ y : Int32, y = a3 + 1 := ⟨_, rfl⟩
        have h := h x15 ex15
        refine lv_iinc (v := x15) (lv' := [(3, .int x15), (1, .int x14), (0, .ref (ad 0)), (2, .int a2)]) hx hb d_Mod_doSettle_108 hl (k := 3) rfl (by rw [ex15]; rfl) (by decide) rfl (fun ls hl => ?_)
        refine lv_goto (tgt := 72) hx hb d_Mod_doSettle_111 (by decide) ?_
        exact ih x14 a2 x15 u13 h _ _ _ hP hD hS (lv_sub hl [2, 1, 3, 0] rfl)
      · have h := h.2 hc
        refine lv_aload_n hx hb d_Mod_doSettle_92 rfl (lv_at hl 0 rfl) ?_
        refine lv_iload_n hx hb d_Mod_doSettle_93 rfl (lv_at hl 2 rfl) ?_
        refine lv_iload_n hx hb d_Mod_doSettle_94 rfl (lv_at hl 3 rfl) ?_
        refine call_Vi1 (own := "HamperClubModel") (As := [.int a2, .int a3]) (rest := [.int a1]) (q0 := 0) (ci := 9) hx hb hml hts hown hK hA hP hD hS ok_Mod_123 rfl ⟨Nat.le_of_ble_eq_true rfl, Nat.le_of_ble_eq_true rfl⟩ ⟨Nat.le_of_ble_eq_true rfl, Nat.le_of_ble_eq_true rfl⟩ rfl rfl rfl hl.1 rfl (Nat.le_of_ble_eq_true rfl) d_Mod_doSettle_95 (c_Mod_handOut l G ad _ u13 a2 a3 _ h) (fun x17 u16 H locs h hP hD hS => ?_)
        refine lv_if_eq (tgt := 105) hx hb d_Mod_doSettle_98 (by decide) (fun hc => ?_) (fun hc => ?_)
        · have h := h.1 hc
          refine lv_iconst (v := 0) hx hb d_Mod_doSettle_105 (by decide) ?_
          refine lv_iadd hx hb d_Mod_doSettle_106 ?_
          refine lv_topi (fun x18 ex18 => ?_)
          have h := h x18 ex18
          refine lv_istore_n (lv' := [(1, .int x18), (0, .ref (ad 0)), (2, .int a2), (3, .int a3)]) hx hb d_Mod_doSettle_107 rfl hl (by decide) rfl (fun ls hl => ?_)
          obtain ⟨x19, ex19⟩ : ∃ y : Int32, y = a3 + 1 := ⟨_, rfl⟩
          have h := h x19 ex19
          refine lv_iinc (v := x19) (lv' := [(3, .int x19), (1, .int x18), (0, .ref (ad 0)), (2, .int a2)]) hx hb d_Mod_doSettle_108 hl (k := 3) rfl (by rw [ex19]; rfl) (by decide) rfl (fun ls hl => ?_)
          refine lv_goto (tgt := 72) hx hb d_Mod_doSettle_111 (by decide) ?_
          exact ih x18 a2 x19 u16 h _ _ _ hP hD hS (lv_sub hl [2, 1, 3, 0] rfl)
        · have h := h.2 hc
          refine lv_iconst (v := 1) hx hb d_Mod_doSettle_101 (by decide) ?_
          refine lv_goto (tgt := 106) hx hb d_Mod_doSettle_102 (by decide) ?_
          refine lv_iadd hx hb d_Mod_doSettle_106 ?_
          refine lv_topi (fun x20 ex20 => ?_)
          have h := h x20 ex20
          refine lv_istore_n (lv' := [(1, .int x20), (0, .ref (ad 0)), (2, .int a2), (3, .int a3)]) hx hb d_Mod_doSettle_107 rfl hl (by decide) rfl (fun ls hl => ?_)
          obtain ⟨x21, ex21⟩ : ∃ y : Int32, y = a3 + 1 := ⟨_, rfl⟩
          have h := h x21 ex21
          refine lv_iinc (v := x21) (lv' := [(3, .int x21), (1, .int x20), (0, .ref (ad 0)), (2, .int a2)]) hx hb d_Mod_doSettle_108 hl (k := 3) rfl (by rw [ex21]; rfl) (by decide) rfl (fun ls hl => ?_)
          refine lv_goto (tgt := 72) hx hb d_Mod_doSettle_111 (by decide) ?_
          exact ih x20 a2 x21 u16 h _ _ _ hP hD hS (lv_sub hl [2, 1, 3, 0] rfl)
set_option maxHeartbeats 4000000 in
set_option maxRecDepth 100000 in
theorem x_Mod_doSettle_8 {p : Program} {l : Launch} {e : Env} {s : State} {m : MethodId} {args : Array Value} {below : List Frame} {meth : Method} {c : Code} {A : Nat → Prop} {G : GG} {ad : Nat → Nat} {Post : Int32 → RS → Prop} {K : Int32 → RS → Prop} {Q : State → Prop}
    (hx : p.tables.exec = Jvm.exec) (hb : c.code = b_Mod_doSettle) (hr : meth.sig.returnType = some .int) (hts : ∀ w ∈ Tg, w.before args s = true) (hown : s.vm.findClass "HamperClubModel" = some m.cls) (hml : c.maxLocals = 4) (hlocks : meth.locks = false) (hA : ∀ q, s.heap.size ≤ q → A q) (hK : KN G s)
    (hQ : Q = MQ below (va_Qi Post (BW G A (refW G ad)) A) args s 0 0 A)
    (kk : ∀ (b1 : Int32) (u : RS), K b1 u → ∀ (H : Heap) (locs : List Loc) (ls : Array Slot), va_P G.1 classes (refW G ad u) H → va_D A (refW G ad u) → va_S A s.heap H locs → lv_has ls 4 [(0, .ref (ad 0)), (1, .int b1)] → W p l e (rmK 5) s m args below meth c H locs 0 0 Q (F0 m 120 ls [])) :
    ∀ (n : Nat) (a1 : Int32) (a2 : Int32) (u : RS), wl_Mod_doSettle_8 Post K n a1 a2 u → ∀ (H : Heap) (locs : List Loc) (ls : Array Slot), va_P G.1 classes (refW G ad u) H → va_D A (refW G ad u) → va_S A s.heap H locs → lv_has ls 4 [(0, .ref (ad 0)), (1, .int a1), (2, .int a2)] → W p l e (rmK 5) s m args below meth c H locs 0 0 Q (F0 m 8 ls []) := by
  subst hQ
  intro n
  induction n with
  | zero => intro a1 a2 u h; exact h.elim
  | succ n ih =>
    intro a1 a2 u2 h H locs ls hP hD hS hl
    unfold wl_Mod_doSettle_8 at h
    refine lv_iload_n hx hb d_Mod_doSettle_8 rfl (lv_at hl 2 rfl) ?_
    refine lv_iconst (v := 4) hx hb d_Mod_doSettle_9 (by decide) ?_
    refine lv_icmp_ge (tgt := 120) hx hb d_Mod_doSettle_10 (by decide) (fun hc => ?_) (fun hc => ?_)
    · have h := h.1 hc
      exact kk a1 u2 h _ _ _ hP hD hS (lv_sub hl [0, 1] rfl)
    · have h := h.2 hc
      refine lv_iconst (v := 0) hx hb d_Mod_doSettle_13 (by decide) ?_
      refine lv_istore_n (lv' := [(3, .int 0), (0, .ref (ad 0)), (1, .int a1), (2, .int a2)]) hx hb d_Mod_doSettle_14 rfl hl (by decide) rfl (fun ls hl => ?_)
      obtain ⟨n, h⟩ := h
      refine x_Mod_doSettle_15 hx hb hr hts hown hml hlocks hA hK rfl (fun x11 x12 u10 h H locs ls hP hD hS hl => ?_) n a1 a2 0 u2 h _ _ _ hP hD hS (lv_sub hl [1, 2, 3, 0] rfl)
      refine lv_iconst (v := 0) hx hb d_Mod_doSettle_70 (by decide) ?_
      refine lv_istore_n (lv' := [(3, .int 0), (0, .ref (ad 0)), (1, .int x11), (2, .int x12)]) hx hb d_Mod_doSettle_71 rfl hl (by decide) rfl (fun ls hl => ?_)
      obtain ⟨n, h⟩ := h
      refine x_Mod_doSettle_72 hx hb hr hts hown hml hlocks hA hK rfl (fun x23 x24 u22 h H locs ls hP hD hS hl => ?_) n x11 x12 0 u10 h _ _ _ hP hD hS (lv_sub hl [1, 2, 3, 0] rfl)
      obtain ⟨x25, ex25⟩ : ∃ y : Int32, y = x24 + 1 := ⟨_, rfl⟩
      have h := h x25 ex25
      refine lv_iinc (v := x25) (lv' := [(2, .int x25), (0, .ref (ad 0)), (1, .int x23)]) hx hb d_Mod_doSettle_114 hl (k := 2) rfl (by rw [ex25]; rfl) (by decide) rfl (fun ls hl => ?_)
      refine lv_goto (tgt := 8) hx hb d_Mod_doSettle_117 (by decide) ?_
      exact ih x23 x25 u22 h _ _ _ hP hD hS (lv_sub hl [1, 2, 0] rfl)
set_option maxHeartbeats 4000000 in
set_option maxRecDepth 100000 in
theorem x_Mod_doSettle_122 {p : Program} {l : Launch} {e : Env} {s : State} {m : MethodId} {args : Array Value} {below : List Frame} {meth : Method} {c : Code} {A : Nat → Prop} {G : GG} {ad : Nat → Nat} {Post : Int32 → RS → Prop} {K : Int32 → RS → Prop} {Q : State → Prop}
    (hx : p.tables.exec = Jvm.exec) (hb : c.code = b_Mod_doSettle) (hr : meth.sig.returnType = some .int) (hts : ∀ w ∈ Tg, w.before args s = true) (hown : s.vm.findClass "HamperClubModel" = some m.cls) (hml : c.maxLocals = 4) (hlocks : meth.locks = false) (hA : ∀ q, s.heap.size ≤ q → A q) (hK : KN G s)
    (hQ : Q = MQ below (va_Qi Post (BW G A (refW G ad)) A) args s 0 0 A)
    (kk : ∀ (b1 : Int32) (u : RS), K b1 u → ∀ (H : Heap) (locs : List Loc) (ls : Array Slot), va_P G.1 classes (refW G ad u) H → va_D A (refW G ad u) → va_S A s.heap H locs → lv_has ls 4 [(0, .ref (ad 0)), (1, .int b1)] → W p l e (rmK 5) s m args below meth c H locs 0 0 Q (F0 m 213 ls [])) :
    ∀ (n : Nat) (a1 : Int32) (a2 : Int32) (u : RS), wl_Mod_doSettle_122 Post K n a1 a2 u → ∀ (H : Heap) (locs : List Loc) (ls : Array Slot), va_P G.1 classes (refW G ad u) H → va_D A (refW G ad u) → va_S A s.heap H locs → lv_has ls 4 [(0, .ref (ad 0)), (1, .int a1), (2, .int a2)] → W p l e (rmK 5) s m args below meth c H locs 0 0 Q (F0 m 122 ls []) := by
  subst hQ
  intro n
  induction n with
  | zero => intro a1 a2 u h; exact h.elim
  | succ n ih =>
    intro a1 a2 u30 h H locs ls hP hD hS hl
    unfold wl_Mod_doSettle_122 at h
    refine lv_iload_n hx hb d_Mod_doSettle_122 rfl (lv_at hl 2 rfl) ?_
    refine lv_aload_n hx hb d_Mod_doSettle_123 rfl (lv_at hl 0 rfl) ?_
    refine gR_Mod_row hx hb hts hown hK hP tb_653 d_Mod_doSettle_124 ?_
    refine lv_iconst (v := 1) hx hb d_Mod_doSettle_127 (by decide) ?_
    refine lR_1 hx hb hK hP (by unfold vp_in; decide) d_Mod_doSettle_128 ?_
    refine lv_icmp_ge (tgt := 213) hx hb d_Mod_doSettle_129 (by decide) (fun hc => ?_) (fun hc => ?_)
    · have h := h.1 hc
      exact kk a1 u30 h _ _ _ hP hD hS (lv_sub hl [0, 1] rfl)
    · have h := h.2 hc
      refine lv_aload_n hx hb d_Mod_doSettle_132 rfl (lv_at hl 0 rfl) ?_
      refine lv_iload_n hx hb d_Mod_doSettle_133 rfl (lv_at hl 2 rfl) ?_
      refine lv_bipush (v := 10) hx hb d_Mod_doSettle_134 (by decide) ?_
      refine lv_aload_n hx hb d_Mod_doSettle_136 rfl (lv_at hl 0 rfl) ?_
      refine gR_Mod_row hx hb hts hown hK hP tb_653 d_Mod_doSettle_137 ?_
      refine lv_iload_n hx hb d_Mod_doSettle_140 rfl (lv_at hl 2 rfl) ?_
      refine lv_iconst (v := 0) hx hb d_Mod_doSettle_141 (by decide) ?_
      refine call_S (As := [.int a2, .int 0]) (rest := [.ref (ad 1), .int 10, .int a2, .ref (ad 0)]) hx hb hml hts hown so_Mod_43 rfl ⟨Nat.le_of_ble_eq_true rfl, Nat.le_of_ble_eq_true rfl⟩ ⟨Nat.le_of_ble_eq_true rfl, Nat.le_of_ble_eq_true rfl⟩ hl.1 rfl (Nat.le_of_ble_eq_true rfl) d_Mod_doSettle_142 (k_Mod_of l a2 0) ?_
      obtain ⟨hi, h⟩ := h
      refine lR_1 hx hb hK hP hi d_Mod_doSettle_145 ?_
      refine lv_imul hx hb d_Mod_doSettle_146 ?_
      refine lv_aload_n hx hb d_Mod_doSettle_147 rfl (lv_at hl 0 rfl) ?_
      refine gR_Mod_row hx hb hts hown hK hP tb_653 d_Mod_doSettle_148 ?_
      refine lv_iload_n hx hb d_Mod_doSettle_151 rfl (lv_at hl 2 rfl) ?_
      refine lv_bipush (v := 12) hx hb d_Mod_doSettle_152 (by decide) ?_
      refine call_S (As := [.int a2, .int 12]) (rest := [.ref (ad 1), .int (10 * (u30.1 (pf_Mod_of a2 0).toNatClampNeg)), .int a2, .ref (ad 0)]) hx hb hml hts hown so_Mod_43 rfl ⟨Nat.le_of_ble_eq_true rfl, Nat.le_of_ble_eq_true rfl⟩ ⟨Nat.le_of_ble_eq_true rfl, Nat.le_of_ble_eq_true rfl⟩ hl.1 rfl (Nat.le_of_ble_eq_true rfl) d_Mod_doSettle_154 (k_Mod_of l a2 12) ?_
      obtain ⟨hi, h⟩ := h
      refine lR_1 hx hb hK hP hi d_Mod_doSettle_157 ?_
      refine lv_iadd hx hb d_Mod_doSettle_158 ?_
      refine call_Vv1 (own := "HamperClubModel") (As := [.int a2, .int ((10 * (u30.1 (pf_Mod_of a2 0).toNatClampNeg)) + (u30.1 (pf_Mod_of a2 12).toNatClampNeg))]) (rest := []) (q0 := 0) (ci := 9) hx hb hml hts hown hK hA hP hD hS ok_Mod_63 rfl ⟨Nat.le_of_ble_eq_true rfl, Nat.le_of_ble_eq_true rfl⟩ ⟨Nat.le_of_ble_eq_true rfl, Nat.le_of_ble_eq_true rfl⟩ rfl rfl rfl hl.1 rfl (Nat.le_of_ble_eq_true rfl) d_Mod_doSettle_159 (c_Mod_payOut l G ad _ u30 a2 ((10 * (u30.1 (pf_Mod_of a2 0).toNatClampNeg)) + (u30.1 (pf_Mod_of a2 12).toNatClampNeg)) _ h) (fun u31 H locs h hP hD hS => ?_)
      refine lv_aload_n hx hb d_Mod_doSettle_162 rfl (lv_at hl 0 rfl) ?_
      refine gR_Mod_row hx hb hts hown hK hP tb_653 d_Mod_doSettle_163 ?_
      refine lv_iload_n hx hb d_Mod_doSettle_166 rfl (lv_at hl 2 rfl) ?_
      refine lv_iconst (v := 0) hx hb d_Mod_doSettle_167 (by decide) ?_
      refine call_S (As := [.int a2, .int 0]) (rest := [.ref (ad 1)]) hx hb hml hts hown so_Mod_43 rfl ⟨Nat.le_of_ble_eq_true rfl, Nat.le_of_ble_eq_true rfl⟩ ⟨Nat.le_of_ble_eq_true rfl, Nat.le_of_ble_eq_true rfl⟩ hl.1 rfl (Nat.le_of_ble_eq_true rfl) d_Mod_doSettle_168 (k_Mod_of l a2 0) ?_
      refine lv_iconst (v := 0) hx hb d_Mod_doSettle_171 (by decide) ?_
      obtain ⟨hi, h⟩ := h
      refine sR_1 hx hb hK hP hD hS hi d_Mod_doSettle_172 (fun u32 H locs eu32 hP hD hS => ?_)
      have h := h u32 eu32
      refine lv_aload_n hx hb d_Mod_doSettle_173 rfl (lv_at hl 0 rfl) ?_
      refine gR_Mod_row hx hb hts hown hK hP tb_653 d_Mod_doSettle_174 ?_
      refine lv_iload_n hx hb d_Mod_doSettle_177 rfl (lv_at hl 2 rfl) ?_
      refine lv_iconst (v := 1) hx hb d_Mod_doSettle_178 (by decide) ?_
      refine call_S (As := [.int a2, .int 1]) (rest := [.ref (ad 1)]) hx hb hml hts hown so_Mod_43 rfl ⟨Nat.le_of_ble_eq_true rfl, Nat.le_of_ble_eq_true rfl⟩ ⟨Nat.le_of_ble_eq_true rfl, Nat.le_of_ble_eq_true rfl⟩ hl.1 rfl (Nat.le_of_ble_eq_true rfl) d_Mod_doSettle_179 (k_Mod_of l a2 1) ?_
      refine lv_iconst (v := 2) hx hb d_Mod_doSettle_182 (by decide) ?_
      obtain ⟨hi, h⟩ := h
      refine sR_1 hx hb hK hP hD hS hi d_Mod_doSettle_183 (fun u33 H locs eu33 hP hD hS => ?_)
      have h := h u33 eu33
      refine lv_aload_n hx hb d_Mod_doSettle_184 rfl (lv_at hl 0 rfl) ?_
      refine gR_Mod_row hx hb hts hown hK hP tb_653 d_Mod_doSettle_185 ?_
      refine lv_iload_n hx hb d_Mod_doSettle_188 rfl (lv_at hl 2 rfl) ?_
      refine lv_iconst (v := 3) hx hb d_Mod_doSettle_189 (by decide) ?_
      refine call_S (As := [.int a2, .int 3]) (rest := [.ref (ad 1)]) hx hb hml hts hown so_Mod_43 rfl ⟨Nat.le_of_ble_eq_true rfl, Nat.le_of_ble_eq_true rfl⟩ ⟨Nat.le_of_ble_eq_true rfl, Nat.le_of_ble_eq_true rfl⟩ hl.1 rfl (Nat.le_of_ble_eq_true rfl) d_Mod_doSettle_190 (k_Mod_of l a2 3) ?_
      refine lv_bipush (v := (-9)) hx hb d_Mod_doSettle_193 (by decide) ?_
      obtain ⟨hi, h⟩ := h
      refine sR_1 hx hb hK hP hD hS hi d_Mod_doSettle_195 (fun u34 H locs eu34 hP hD hS => ?_)
      have h := h u34 eu34
      refine lv_aload_n hx hb d_Mod_doSettle_196 rfl (lv_at hl 0 rfl) ?_
      refine gR_Mod_row hx hb hts hown hK hP tb_653 d_Mod_doSettle_197 ?_
      refine lv_iload_n hx hb d_Mod_doSettle_200 rfl (lv_at hl 2 rfl) ?_
      refine lv_iconst (v := 4) hx hb d_Mod_doSettle_201 (by decide) ?_
      refine call_S (As := [.int a2, .int 4]) (rest := [.ref (ad 1)]) hx hb hml hts hown so_Mod_43 rfl ⟨Nat.le_of_ble_eq_true rfl, Nat.le_of_ble_eq_true rfl⟩ ⟨Nat.le_of_ble_eq_true rfl, Nat.le_of_ble_eq_true rfl⟩ hl.1 rfl (Nat.le_of_ble_eq_true rfl) d_Mod_doSettle_202 (k_Mod_of l a2 4) ?_
      refine lv_iconst (v := 0) hx hb d_Mod_doSettle_205 (by decide) ?_
      obtain ⟨hi, h⟩ := h
      refine sR_1 hx hb hK hP hD hS hi d_Mod_doSettle_206 (fun u35 H locs eu35 hP hD hS => ?_)
      have h := h u35 eu35
      obtain ⟨x36, ex36⟩ : ∃ y : Int32, y = a2 + 1 := ⟨_, rfl⟩
      have h := h x36 ex36
      refine lv_iinc (v := x36) (lv' := [(2, .int x36), (0, .ref (ad 0)), (1, .int a1)]) hx hb d_Mod_doSettle_207 hl (k := 2) rfl (by rw [ex36]; rfl) (by decide) rfl (fun ls hl => ?_)
      refine lv_goto (tgt := 122) hx hb d_Mod_doSettle_210 (by decide) ?_
      exact ih a1 x36 u35 h _ _ _ hP hD hS (lv_sub hl [1, 2, 0] rfl)
set_option maxHeartbeats 4000000 in
set_option maxRecDepth 100000 in
theorem x_Mod_doSettle_215 {p : Program} {l : Launch} {e : Env} {s : State} {m : MethodId} {args : Array Value} {below : List Frame} {meth : Method} {c : Code} {A : Nat → Prop} {G : GG} {ad : Nat → Nat} {Post : Int32 → RS → Prop} {K : Int32 → RS → Prop} {Q : State → Prop}
    (hx : p.tables.exec = Jvm.exec) (hb : c.code = b_Mod_doSettle) (hr : meth.sig.returnType = some .int) (hts : ∀ w ∈ Tg, w.before args s = true) (hown : s.vm.findClass "HamperClubModel" = some m.cls) (hml : c.maxLocals = 4) (hlocks : meth.locks = false) (hA : ∀ q, s.heap.size ≤ q → A q) (hK : KN G s)
    (hQ : Q = MQ below (va_Qi Post (BW G A (refW G ad)) A) args s 0 0 A)
    (kk : ∀ (b1 : Int32) (u : RS), K b1 u → ∀ (H : Heap) (locs : List Loc) (ls : Array Slot), va_P G.1 classes (refW G ad u) H → va_D A (refW G ad u) → va_S A s.heap H locs → lv_has ls 4 [(0, .ref (ad 0)), (1, .int b1)] → W p l e (rmK 5) s m args below meth c H locs 0 0 Q (F0 m 237 ls [])) :
    ∀ (n : Nat) (a1 : Int32) (a2 : Int32) (u : RS), wl_Mod_doSettle_215 Post K n a1 a2 u → ∀ (H : Heap) (locs : List Loc) (ls : Array Slot), va_P G.1 classes (refW G ad u) H → va_D A (refW G ad u) → va_S A s.heap H locs → lv_has ls 4 [(0, .ref (ad 0)), (1, .int a1), (2, .int a2)] → W p l e (rmK 5) s m args below meth c H locs 0 0 Q (F0 m 215 ls []) := by
  subst hQ
  intro n
  induction n with
  | zero => intro a1 a2 u h; exact h.elim
  | succ n ih =>
    intro a1 a2 u39 h H locs ls hP hD hS hl
    unfold wl_Mod_doSettle_215 at h
    refine lv_iload_n hx hb d_Mod_doSettle_215 rfl (lv_at hl 2 rfl) ?_
    refine lv_iconst (v := 4) hx hb d_Mod_doSettle_216 (by decide) ?_
    refine lv_icmp_ge (tgt := 237) hx hb d_Mod_doSettle_217 (by decide) (fun hc => ?_) (fun hc => ?_)
    · have h := h.1 hc
      exact kk a1 u39 h _ _ _ hP hD hS (lv_sub hl [0, 1] rfl)
    · have h := h.2 hc
      refine lv_aload_n hx hb d_Mod_doSettle_220 rfl (lv_at hl 0 rfl) ?_
      refine gR_Mod_row hx hb hts hown hK hP tb_653 d_Mod_doSettle_221 ?_
      refine lv_iload_n hx hb d_Mod_doSettle_224 rfl (lv_at hl 2 rfl) ?_
      refine lv_iconst (v := 2) hx hb d_Mod_doSettle_225 (by decide) ?_
      refine call_S (As := [.int a2, .int 2]) (rest := [.ref (ad 1)]) hx hb hml hts hown so_Mod_20 rfl ⟨Nat.le_of_ble_eq_true rfl, Nat.le_of_ble_eq_true rfl⟩ ⟨Nat.le_of_ble_eq_true rfl, Nat.le_of_ble_eq_true rfl⟩ hl.1 rfl (Nat.le_of_ble_eq_true rfl) d_Mod_doSettle_226 (k_Mod_ofKind l a2 2) ?_
      refine lv_iconst (v := 0) hx hb d_Mod_doSettle_229 (by decide) ?_
      obtain ⟨hi, h⟩ := h
      refine sR_1 hx hb hK hP hD hS hi d_Mod_doSettle_230 (fun u40 H locs eu40 hP hD hS => ?_)
      have h := h u40 eu40
      obtain ⟨x41, ex41⟩ : ∃ y : Int32, y = a2 + 1 := ⟨_, rfl⟩
      have h := h x41 ex41
      refine lv_iinc (v := x41) (lv' := [(2, .int x41), (0, .ref (ad 0)), (1, .int a1)]) hx hb d_Mod_doSettle_231 hl (k := 2) rfl (by rw [ex41]; rfl) (by decide) rfl (fun ls hl => ?_)
      refine lv_goto (tgt := 215) hx hb d_Mod_doSettle_234 (by decide) ?_
      exact ih a1 x41 u40 h _ _ _ hP hD hS (lv_sub hl [1, 2, 0] rfl)
set_option maxHeartbeats 4000000 in
set_option maxRecDepth 100000 in
theorem c_Mod_doSettle (l : Launch) (G : GG) (ad : Nat → Nat) (sz : Nat) (u : RS) (Post : Int32 → RS → Prop) (h : wp_Mod_doSettle u Post) : CMi l y_Mod_doSettle b_Mod_doSettle 4 .int 5 G [.ref (ad 0)] sz (refW G ad u) (refW G ad) Post := by
  refine CMi.start (by decide) (Nat.le_of_ble_eq_true rfl) (fun p e s m below meth c A ls hx hb hr hts hown hml hlocks hA hS hP hD hK hl => ?_)
  unfold wp_Mod_doSettle at h
  have hl : lv_has ls 4 [(0, .ref (ad 0))] := hl
  refine lv_iconst (v := 0) hx hb d_Mod_doSettle_0 (by decide) ?_
  refine lv_istore_n (lv' := [(1, .int 0), (0, .ref (ad 0))]) hx hb d_Mod_doSettle_1 rfl hl (by decide) rfl (fun ls hl => ?_)
  refine lv_aload_n hx hb d_Mod_doSettle_2 rfl (lv_at hl 1 rfl) ?_
  refine call_Vv1 (own := "HamperClubModel") (As := []) (rest := []) (q0 := 0) (ci := 9) hx hb hml hts hown hK hA hP hD hS ok_Mod_120 rfl ⟨Nat.le_of_ble_eq_true rfl, Nat.le_of_ble_eq_true rfl⟩ ⟨Nat.le_of_ble_eq_true rfl, Nat.le_of_ble_eq_true rfl⟩ rfl rfl rfl hl.1 rfl (Nat.le_of_ble_eq_true rfl) d_Mod_doSettle_3 (c_Mod_layBonuses l G ad _ u  _ h) (fun u1 H locs h hP hD hS => ?_)
  refine lv_iconst (v := 0) hx hb d_Mod_doSettle_6 (by decide) ?_
  refine lv_istore_n (lv' := [(2, .int 0), (1, .int 0), (0, .ref (ad 0))]) hx hb d_Mod_doSettle_7 rfl hl (by decide) rfl (fun ls hl => ?_)
  obtain ⟨n, h⟩ := h
  refine x_Mod_doSettle_8 hx hb hr hts hown hml hlocks hA hK rfl (fun x29 u28 h H locs ls hP hD hS hl => ?_) n 0 0 u1 h _ _ _ hP hD hS (lv_sub hl [2, 1, 0] rfl)
  refine lv_iconst (v := 0) hx hb d_Mod_doSettle_120 (by decide) ?_
  refine lv_istore_n (lv' := [(2, .int 0), (0, .ref (ad 0)), (1, .int x29)]) hx hb d_Mod_doSettle_121 rfl hl (by decide) rfl (fun ls hl => ?_)
  obtain ⟨n, h⟩ := h
  refine x_Mod_doSettle_122 hx hb hr hts hown hml hlocks hA hK rfl (fun x38 u37 h H locs ls hP hD hS hl => ?_) n x29 0 u28 h _ _ _ hP hD hS (lv_sub hl [1, 2, 0] rfl)
  refine lv_iconst (v := 0) hx hb d_Mod_doSettle_213 (by decide) ?_
  refine lv_istore_n (lv' := [(2, .int 0), (0, .ref (ad 0)), (1, .int x38)]) hx hb d_Mod_doSettle_214 rfl hl (by decide) rfl (fun ls hl => ?_)
  obtain ⟨n, h⟩ := h
  refine x_Mod_doSettle_215 hx hb hr hts hown hml hlocks hA hK rfl (fun x43 u42 h H locs ls hP hD hS hl => ?_) n x38 0 u37 h _ _ _ hP hD hS (lv_sub hl [1, 2, 0] rfl)
  refine lv_aload_n hx hb d_Mod_doSettle_237 rfl (lv_at hl 0 rfl) ?_
  refine gR_Mod_row hx hb hts hown hK hP tb_653 d_Mod_doSettle_238 ?_
  refine lv_bipush (v := 8) hx hb d_Mod_doSettle_241 (by decide) ?_
  refine lv_dup2_11 hx hb d_Mod_doSettle_243 rfl rfl ?_
  refine lR_1 hx hb hK hP (by unfold vp_in; decide) d_Mod_doSettle_244 ?_
  refine lv_iload_n hx hb d_Mod_doSettle_245 rfl (lv_at hl 1 rfl) ?_
  refine lv_iadd hx hb d_Mod_doSettle_246 ?_
  refine sR_1 hx hb hK hP hD hS (by unfold vp_in; decide) d_Mod_doSettle_247 (fun u44 H locs eu44 hP hD hS => ?_)
  have h := h u44 eu44
  refine lv_aload_n hx hb d_Mod_doSettle_248 rfl (lv_at hl 0 rfl) ?_
  refine gR_Mod_row hx hb hts hown hK hP tb_653 d_Mod_doSettle_249 ?_
  refine lv_iconst (v := 4) hx hb d_Mod_doSettle_252 (by decide) ?_
  refine lv_iconst (v := 0) hx hb d_Mod_doSettle_253 (by decide) ?_
  refine sR_1 hx hb hK hP hD hS (by unfold vp_in; decide) d_Mod_doSettle_254 (fun u45 H locs eu45 hP hD hS => ?_)
  have h := h u45 eu45
  refine lv_aload_n hx hb d_Mod_doSettle_255 rfl (lv_at hl 0 rfl) ?_
  refine gR_Mod_row hx hb hts hown hK hP tb_653 d_Mod_doSettle_256 ?_
  refine lv_iconst (v := 2) hx hb d_Mod_doSettle_259 (by decide) ?_
  refine lv_iconst (v := 1) hx hb d_Mod_doSettle_260 (by decide) ?_
  refine sR_1 hx hb hK hP hD hS (by unfold vp_in; decide) d_Mod_doSettle_261 (fun u46 H locs eu46 hP hD hS => ?_)
  have h := h u46 eu46
  refine lv_iload_n hx hb d_Mod_doSettle_262 rfl (lv_at hl 1 rfl) ?_
  exact r_iret hx hb hr hlocks hP hD hS d_Mod_doSettle_263 h
def wp_Mod_does (u : RS) (Post : Int32 → RS → Prop) : Prop := (wp_Mod_noOrder u  (fun x2 u1 => ((x2 = 0 → (((u1.2.2.2 3) = 43 → (wp_Mod_doStick u1 (u1.2.2.2 4) (u1.2.2.2 5) (fun x4 u3 => Post 1 u3))) ∧ ((u1.2.2.2 3) = 45 → (wp_Mod_doWithdraw u1 (u1.2.2.2 4) (u1.2.2.2 5) (fun x6 u5 => Post 1 u5))) ∧ ((u1.2.2.2 3) = 104 → (wp_Mod_doChoose u1 (u1.2.2.2 4) (u1.2.2.2 5) (fun x8 u7 => Post 1 u7))) ∧ ((u1.2.2.2 3) = 108 → (wp_Mod_doMislay u1 (u1.2.2.2 4) (fun x10 u9 => Post 1 u9))) ∧ ((u1.2.2.2 3) = 119 → (wp_Mod_doWeek u1  (fun x12 u11 => Post 1 u11))) ∧ ((u1.2.2.2 3) = 120 → (wp_Mod_drop u1 (u1.2.2.2 4) (fun x14 u13 => Post 1 u13))) ∧ (¬ (u1.2.2.2 3) = 43 → ¬ (u1.2.2.2 3) = 45 → ¬ (u1.2.2.2 3) = 104 → ¬ (u1.2.2.2 3) = 108 → ¬ (u1.2.2.2 3) = 119 → ¬ (u1.2.2.2 3) = 120 → (wp_Mod_doFind u1 (u1.2.2.2 4) (fun x16 u15 => Post 1 u15))))) ∧ (¬ x2 = 0 → Post 0 u1))))
theorem ok_Mod_153 : CallOk y_Mod_noOrder b_Mod_noOrder 1 (some .int) 3 0 "HamperClubModel" 153 := ⟨tb_887, tb_889, sl_44, tb_12, tb_890, by decide +kernel⟩
set_option maxHeartbeats 4000000 in
set_option maxRecDepth 100000 in
theorem c_Mod_does (l : Launch) (G : GG) (ad : Nat → Nat) (sz : Nat) (u : RS) (Post : Int32 → RS → Prop) (h : wp_Mod_does u Post) : CMi l y_Mod_does b_Mod_does 1 .boolean 5 G [.ref (ad 0)] sz (refW G ad u) (refW G ad) Post := by
  refine CMi.start (by decide) (Nat.le_of_ble_eq_true rfl) (fun p e s m below meth c A ls hx hb hr hts hown hml hlocks hA hS hP hD hK hl => ?_)
  unfold wp_Mod_does at h
  have hl : lv_has ls 1 [(0, .ref (ad 0))] := hl
  refine lv_aload_n hx hb d_Mod_does_0 rfl (lv_at hl 0 rfl) ?_
  refine call_Vi1 (own := "HamperClubModel") (As := []) (rest := []) (q0 := 0) (ci := 9) hx hb hml hts hown hK hA hP hD hS ok_Mod_153 rfl ⟨Nat.le_of_ble_eq_true rfl, Nat.le_of_ble_eq_true rfl⟩ ⟨Nat.le_of_ble_eq_true rfl, Nat.le_of_ble_eq_true rfl⟩ rfl rfl rfl hl.1 rfl (Nat.le_of_ble_eq_true rfl) d_Mod_does_1 (c_Mod_noOrder l G ad _ u  _ h) (fun x2 u1 H locs h hP hD hS => ?_)
  refine lv_if_eq (tgt := 9) hx hb d_Mod_does_4 (by decide) (fun hc => ?_) (fun hc => ?_)
  · have h := h.1 hc
    refine lv_aload_n hx hb d_Mod_does_9 rfl (lv_at hl 0 rfl) ?_
    refine gR_Mod_letter hx hb hts hown hK hP tb_659 d_Mod_does_10 ?_
    by_cases hc0 : (u1.2.2.2 3) = 43
    · have h := h.1 hc0
      refine lv_lookup (off := 67) (tgt := 80) hx hb d_Mod_does_13 (by decide) (by rw [hc0]; decide) (by decide) ?_
      refine lv_aload_n hx hb d_Mod_does_80 rfl (lv_at hl 0 rfl) ?_
      refine lv_aload_n hx hb d_Mod_does_81 rfl (lv_at hl 0 rfl) ?_
      refine gR_Mod_who hx hb hts hown hK hP tb_660 d_Mod_does_82 ?_
      refine lv_aload_n hx hb d_Mod_does_85 rfl (lv_at hl 0 rfl) ?_
      refine gR_Mod_much hx hb hts hown hK hP tb_661 d_Mod_does_86 ?_
      refine call_Vi1 (own := "HamperClubModel") (As := [.int (u1.2.2.2 4), .int (u1.2.2.2 5)]) (rest := []) (q0 := 0) (ci := 9) hx hb hml hts hown hK hA hP hD hS ok_Mod_60 rfl ⟨Nat.le_of_ble_eq_true rfl, Nat.le_of_ble_eq_true rfl⟩ ⟨Nat.le_of_ble_eq_true rfl, Nat.le_of_ble_eq_true rfl⟩ rfl rfl rfl hl.1 rfl (Nat.le_of_ble_eq_true rfl) d_Mod_does_89 (c_Mod_doStick l G ad _ u1 (u1.2.2.2 4) (u1.2.2.2 5) _ h) (fun x4 u3 H locs h hP hD hS => ?_)
      refine lv_pop hx hb d_Mod_does_92 rfl ?_
      refine lv_goto (tgt := 161) hx hb d_Mod_does_93 (by decide) ?_
      refine lv_iconst (v := 1) hx hb d_Mod_does_161 (by decide) ?_
      exact r_zret hx hb hr hlocks rfl hP hD hS d_Mod_does_162 h
    by_cases hc1 : (u1.2.2.2 3) = 45
    · have h := h.2.1 hc1
      refine lv_lookup (off := 83) (tgt := 96) hx hb d_Mod_does_13 (by decide) (by rw [hc1]; decide) (by decide) ?_
      refine lv_aload_n hx hb d_Mod_does_96 rfl (lv_at hl 0 rfl) ?_
      refine lv_aload_n hx hb d_Mod_does_97 rfl (lv_at hl 0 rfl) ?_
      refine gR_Mod_who hx hb hts hown hK hP tb_660 d_Mod_does_98 ?_
      refine lv_aload_n hx hb d_Mod_does_101 rfl (lv_at hl 0 rfl) ?_
      refine gR_Mod_much hx hb hts hown hK hP tb_661 d_Mod_does_102 ?_
      refine call_Vi1 (own := "HamperClubModel") (As := [.int (u1.2.2.2 4), .int (u1.2.2.2 5)]) (rest := []) (q0 := 0) (ci := 9) hx hb hml hts hown hK hA hP hD hS ok_Mod_70 rfl ⟨Nat.le_of_ble_eq_true rfl, Nat.le_of_ble_eq_true rfl⟩ ⟨Nat.le_of_ble_eq_true rfl, Nat.le_of_ble_eq_true rfl⟩ rfl rfl rfl hl.1 rfl (Nat.le_of_ble_eq_true rfl) d_Mod_does_105 (c_Mod_doWithdraw l G ad _ u1 (u1.2.2.2 4) (u1.2.2.2 5) _ h) (fun x6 u5 H locs h hP hD hS => ?_)
      refine lv_pop hx hb d_Mod_does_108 rfl ?_
      refine lv_goto (tgt := 161) hx hb d_Mod_does_109 (by decide) ?_
      refine lv_iconst (v := 1) hx hb d_Mod_does_161 (by decide) ?_
      exact r_zret hx hb hr hlocks rfl hP hD hS d_Mod_does_162 h
    by_cases hc2 : (u1.2.2.2 3) = 104
    · have h := h.2.2.1 hc2
      refine lv_lookup (off := 99) (tgt := 112) hx hb d_Mod_does_13 (by decide) (by rw [hc2]; decide) (by decide) ?_
      refine lv_aload_n hx hb d_Mod_does_112 rfl (lv_at hl 0 rfl) ?_
      refine lv_aload_n hx hb d_Mod_does_113 rfl (lv_at hl 0 rfl) ?_
      refine gR_Mod_who hx hb hts hown hK hP tb_660 d_Mod_does_114 ?_
      refine lv_aload_n hx hb d_Mod_does_117 rfl (lv_at hl 0 rfl) ?_
      refine gR_Mod_much hx hb hts hown hK hP tb_661 d_Mod_does_118 ?_
      refine call_Vi1 (own := "HamperClubModel") (As := [.int (u1.2.2.2 4), .int (u1.2.2.2 5)]) (rest := []) (q0 := 0) (ci := 9) hx hb hml hts hown hK hA hP hD hS ok_Mod_104 rfl ⟨Nat.le_of_ble_eq_true rfl, Nat.le_of_ble_eq_true rfl⟩ ⟨Nat.le_of_ble_eq_true rfl, Nat.le_of_ble_eq_true rfl⟩ rfl rfl rfl hl.1 rfl (Nat.le_of_ble_eq_true rfl) d_Mod_does_121 (c_Mod_doChoose l G ad _ u1 (u1.2.2.2 4) (u1.2.2.2 5) _ h) (fun x8 u7 H locs h hP hD hS => ?_)
      refine lv_pop hx hb d_Mod_does_124 rfl ?_
      refine lv_goto (tgt := 161) hx hb d_Mod_does_125 (by decide) ?_
      refine lv_iconst (v := 1) hx hb d_Mod_does_161 (by decide) ?_
      exact r_zret hx hb hr hlocks rfl hP hD hS d_Mod_does_162 h
    by_cases hc3 : (u1.2.2.2 3) = 108
    · have h := h.2.2.2.1 hc3
      refine lv_lookup (off := 127) (tgt := 140) hx hb d_Mod_does_13 (by decide) (by rw [hc3]; decide) (by decide) ?_
      refine lv_aload_n hx hb d_Mod_does_140 rfl (lv_at hl 0 rfl) ?_
      refine lv_aload_n hx hb d_Mod_does_141 rfl (lv_at hl 0 rfl) ?_
      refine gR_Mod_who hx hb hts hown hK hP tb_660 d_Mod_does_142 ?_
      refine call_Vi1 (own := "HamperClubModel") (As := [.int (u1.2.2.2 4)]) (rest := []) (q0 := 0) (ci := 9) hx hb hml hts hown hK hA hP hD hS ok_Mod_77 rfl ⟨Nat.le_of_ble_eq_true rfl, Nat.le_of_ble_eq_true rfl⟩ ⟨Nat.le_of_ble_eq_true rfl, Nat.le_of_ble_eq_true rfl⟩ rfl rfl rfl hl.1 rfl (Nat.le_of_ble_eq_true rfl) d_Mod_does_145 (c_Mod_doMislay l G ad _ u1 (u1.2.2.2 4) _ h) (fun x10 u9 H locs h hP hD hS => ?_)
      refine lv_pop hx hb d_Mod_does_148 rfl ?_
      refine lv_goto (tgt := 161) hx hb d_Mod_does_149 (by decide) ?_
      refine lv_iconst (v := 1) hx hb d_Mod_does_161 (by decide) ?_
      exact r_zret hx hb hr hlocks rfl hP hD hS d_Mod_does_162 h
    by_cases hc4 : (u1.2.2.2 3) = 119
    · have h := h.2.2.2.2.1 hc4
      refine lv_lookup (off := 59) (tgt := 72) hx hb d_Mod_does_13 (by decide) (by rw [hc4]; decide) (by decide) ?_
      refine lv_aload_n hx hb d_Mod_does_72 rfl (lv_at hl 0 rfl) ?_
      refine call_Vi1 (own := "HamperClubModel") (As := []) (rest := []) (q0 := 0) (ci := 9) hx hb hml hts hown hK hA hP hD hS ok_Mod_114 rfl ⟨Nat.le_of_ble_eq_true rfl, Nat.le_of_ble_eq_true rfl⟩ ⟨Nat.le_of_ble_eq_true rfl, Nat.le_of_ble_eq_true rfl⟩ rfl rfl rfl hl.1 rfl (Nat.le_of_ble_eq_true rfl) d_Mod_does_73 (c_Mod_doWeek l G ad _ u1  _ h) (fun x12 u11 H locs h hP hD hS => ?_)
      refine lv_pop hx hb d_Mod_does_76 rfl ?_
      refine lv_goto (tgt := 161) hx hb d_Mod_does_77 (by decide) ?_
      refine lv_iconst (v := 1) hx hb d_Mod_does_161 (by decide) ?_
      exact r_zret hx hb hr hlocks rfl hP hD hS d_Mod_does_162 h
    by_cases hc5 : (u1.2.2.2 3) = 120
    · have h := h.2.2.2.2.2.1 hc5
      refine lv_lookup (off := 115) (tgt := 128) hx hb d_Mod_does_13 (by decide) (by rw [hc5]; decide) (by decide) ?_
      refine lv_aload_n hx hb d_Mod_does_128 rfl (lv_at hl 0 rfl) ?_
      refine lv_aload_n hx hb d_Mod_does_129 rfl (lv_at hl 0 rfl) ?_
      refine gR_Mod_who hx hb hts hown hK hP tb_660 d_Mod_does_130 ?_
      refine call_Vi1 (own := "HamperClubModel") (As := [.int (u1.2.2.2 4)]) (rest := []) (q0 := 0) (ci := 9) hx hb hml hts hown hK hA hP hD hS ok_Mod_98 rfl ⟨Nat.le_of_ble_eq_true rfl, Nat.le_of_ble_eq_true rfl⟩ ⟨Nat.le_of_ble_eq_true rfl, Nat.le_of_ble_eq_true rfl⟩ rfl rfl rfl hl.1 rfl (Nat.le_of_ble_eq_true rfl) d_Mod_does_133 (c_Mod_drop l G ad _ u1 (u1.2.2.2 4) _ h) (fun x14 u13 H locs h hP hD hS => ?_)
      refine lv_pop hx hb d_Mod_does_136 rfl ?_
      refine lv_goto (tgt := 161) hx hb d_Mod_does_137 (by decide) ?_
      refine lv_iconst (v := 1) hx hb d_Mod_does_161 (by decide) ?_
      exact r_zret hx hb hr hlocks rfl hP hD hS d_Mod_does_162 h
    have h := h.2.2.2.2.2.2
    have h := h hc0
    have h := h hc1
    have h := h hc2
    have h := h hc3
    have h := h hc4
    have h := h hc5
    refine lv_lookup (off := 139) (tgt := 152) hx hb d_Mod_does_13 (by decide) (lk_out (by simp only [List.mem_cons, List.not_mem_nil, or_false]; intro q hq; rcases hq with rfl | rfl | rfl | rfl | rfl | rfl; all_goals first | exact ne_key hc0 | exact ne_key hc1 | exact ne_key hc2 | exact ne_key hc3 | exact ne_key hc4 | exact ne_key hc5)) (by decide) ?_
    refine lv_aload_n hx hb d_Mod_does_152 rfl (lv_at hl 0 rfl) ?_
    refine lv_aload_n hx hb d_Mod_does_153 rfl (lv_at hl 0 rfl) ?_
    refine gR_Mod_who hx hb hts hown hK hP tb_660 d_Mod_does_154 ?_
    refine call_Vi1 (own := "HamperClubModel") (As := [.int (u1.2.2.2 4)]) (rest := []) (q0 := 0) (ci := 9) hx hb hml hts hown hK hA hP hD hS ok_Mod_83 rfl ⟨Nat.le_of_ble_eq_true rfl, Nat.le_of_ble_eq_true rfl⟩ ⟨Nat.le_of_ble_eq_true rfl, Nat.le_of_ble_eq_true rfl⟩ rfl rfl rfl hl.1 rfl (Nat.le_of_ble_eq_true rfl) d_Mod_does_157 (c_Mod_doFind l G ad _ u1 (u1.2.2.2 4) _ h) (fun x16 u15 H locs h hP hD hS => ?_)
    refine lv_pop hx hb d_Mod_does_160 rfl ?_
    refine lv_iconst (v := 1) hx hb d_Mod_does_161 (by decide) ?_
    exact r_zret hx hb hr hlocks rfl hP hD hS d_Mod_does_162 h
  · have h := h.2 hc
    refine lv_iconst (v := 0) hx hb d_Mod_does_7 (by decide) ?_
    exact r_zret hx hb hr hlocks rfl hP hD hS d_Mod_does_8 h
def wp_Mod_settle (u : RS) (Post : Int32 → RS → Prop) : Prop := (wp_Mod_isSettled u  (fun x2 u1 => ((x2 = 0 → (wp_Mod_record u1  (fun u3 => (wp_Mod_doSettle u3  (fun x5 u4 => Post x5 u4))))) ∧ (¬ x2 = 0 → Post (-2) u1))))
theorem ok_Mod_126 : CallOk y_Mod_doSettle b_Mod_doSettle 4 (some .int) 5 0 "HamperClubModel" 126 := ⟨tb_839, tb_841, sl_35, tb_12, tb_842, by decide +kernel⟩
set_option maxHeartbeats 4000000 in
set_option maxRecDepth 100000 in
theorem c_Mod_settle (l : Launch) (G : GG) (ad : Nat → Nat) (sz : Nat) (u : RS) (Post : Int32 → RS → Prop) (h : wp_Mod_settle u Post) : CMi l y_Mod_settle b_Mod_settle 1 .int 6 G [.ref (ad 0)] sz (refW G ad u) (refW G ad) Post := by
  refine CMi.start (by decide) (Nat.le_of_ble_eq_true rfl) (fun p e s m below meth c A ls hx hb hr hts hown hml hlocks hA hS hP hD hK hl => ?_)
  unfold wp_Mod_settle at h
  have hl : lv_has ls 1 [(0, .ref (ad 0))] := hl
  refine lv_aload_n hx hb d_Mod_settle_0 rfl (lv_at hl 0 rfl) ?_
  refine call_Vi1 (own := "HamperClubModel") (As := []) (rest := []) (q0 := 0) (ci := 9) hx hb hml hts hown hK hA hP hD hS ok_Mod_39 rfl ⟨Nat.le_of_ble_eq_true rfl, Nat.le_of_ble_eq_true rfl⟩ ⟨Nat.le_of_ble_eq_true rfl, Nat.le_of_ble_eq_true rfl⟩ rfl rfl rfl hl.1 rfl (Nat.le_of_ble_eq_true rfl) d_Mod_settle_1 (c_Mod_isSettled l G ad _ u  _ h) (fun x2 u1 H locs h hP hD hS => ?_)
  refine lv_if_eq (tgt := 10) hx hb d_Mod_settle_4 (by decide) (fun hc => ?_) (fun hc => ?_)
  · have h := h.1 hc
    refine lv_aload_n hx hb d_Mod_settle_10 rfl (lv_at hl 0 rfl) ?_
    refine call_Vv1 (own := "HamperClubModel") (As := []) (rest := []) (q0 := 0) (ci := 9) hx hb hml hts hown hK hA hP hD hS ok_Mod_36 rfl ⟨Nat.le_of_ble_eq_true rfl, Nat.le_of_ble_eq_true rfl⟩ ⟨Nat.le_of_ble_eq_true rfl, Nat.le_of_ble_eq_true rfl⟩ rfl rfl rfl hl.1 rfl (Nat.le_of_ble_eq_true rfl) d_Mod_settle_11 (c_Mod_record l G ad _ u1  _ h) (fun u3 H locs h hP hD hS => ?_)
    refine lv_aload_n hx hb d_Mod_settle_14 rfl (lv_at hl 0 rfl) ?_
    refine call_Vi1 (own := "HamperClubModel") (As := []) (rest := []) (q0 := 0) (ci := 9) hx hb hml hts hown hK hA hP hD hS ok_Mod_126 rfl ⟨Nat.le_of_ble_eq_true rfl, Nat.le_of_ble_eq_true rfl⟩ ⟨Nat.le_of_ble_eq_true rfl, Nat.le_of_ble_eq_true rfl⟩ rfl rfl rfl hl.1 rfl (Nat.le_of_ble_eq_true rfl) d_Mod_settle_15 (c_Mod_doSettle l G ad _ u3  _ h) (fun x5 u4 H locs h hP hD hS => ?_)
    exact r_iret hx hb hr hlocks hP hD hS d_Mod_settle_18 h
  · have h := h.2 hc
    refine lv_bipush (v := (-2)) hx hb d_Mod_settle_7 (by decide) ?_
    exact r_iret hx hb hr hlocks hP hD hS d_Mod_settle_9 h
def wl_Mod_carryOut_36 (Post : Int32 → RS → Prop) (K : Int32 → RS → Prop) : Nat → Int32 → RS → Prop
  | 0, _ => fun _ => False
  | n + 1, a2 => fun u7 => (((u7.2.2.2 1) ≤ (u7.2.2.2 2) → K a2 u7) ∧ (¬ (u7.2.2.2 1) ≤ (u7.2.2.2 2) → (wp_Mod_readsOrder u7  (fun x9 u8 => ((x9 = 0 → K a2 u8) ∧ (¬ x9 = 0 → (wp_Mod_does u8  (fun x11 u10 => ((x11 = 0 → K a2 u10) ∧ (¬ x11 = 0 → (∀ x12 : Int32, x12 = a2 + 1 → (∀ u13 : RS, u13 = (rS u10 2 ((u10.2.2.2 2) + 1)) → wl_Mod_carryOut_36 Post K n x12 u13))))))))))))
def wp_Mod_carryOut (u : RS) (Post : Int32 → RS → Prop) : Prop := (wp_Mod_faultOf u  (fun x2 u1 => ((x2 < 0 → (wp_Mod_isSettled u1  (fun x4 u3 => ((x4 = 0 → (wp_Mod_record u3  (fun u5 => (∀ u6 : RS, u6 = (rS u5 2 0) → (∃ k17 : Nat, wl_Mod_carryOut_36 Post (fun x15 u14 => (∀ u16 : RS, u16 = (rS u14 1 0) → Post x15 u16)) k17 0 u6))))) ∧ (¬ x4 = 0 → Post (-2) u3))))) ∧ (¬ x2 < 0 → Post ((-1000) - x2) u1))))
theorem ok_Mod_156 : CallOk y_Mod_faultOf b_Mod_faultOf 2 (some .int) 3 0 "HamperClubModel" 156 := ⟨tb_867, tb_869, sl_39, tb_12, tb_870, by decide +kernel⟩
theorem ok_Mod_159 : CallOk y_Mod_does b_Mod_does 1 (some .boolean) 5 0 "HamperClubModel" 159 := ⟨tb_883, tb_885, sl_43, tb_12, tb_886, by decide +kernel⟩
set_option maxHeartbeats 4000000 in
set_option maxRecDepth 100000 in
theorem x_Mod_carryOut_36 {p : Program} {l : Launch} {e : Env} {s : State} {m : MethodId} {args : Array Value} {below : List Frame} {meth : Method} {c : Code} {A : Nat → Prop} {G : GG} {ad : Nat → Nat} {Post : Int32 → RS → Prop} {K : Int32 → RS → Prop} {Q : State → Prop}
    (hx : p.tables.exec = Jvm.exec) (hb : c.code = b_Mod_carryOut) (hr : meth.sig.returnType = some .int) (hts : ∀ w ∈ Tg, w.before args s = true) (hown : s.vm.findClass "HamperClubModel" = some m.cls) (hml : c.maxLocals = 3) (hlocks : meth.locks = false) (hA : ∀ q, s.heap.size ≤ q → A q) (hK : KN G s)
    (hQ : Q = MQ below (va_Qi Post (BW G A (refW G ad)) A) args s 0 0 A)
    (kk : ∀ (b2 : Int32) (u : RS), K b2 u → ∀ (H : Heap) (locs : List Loc) (ls : Array Slot), va_P G.1 classes (refW G ad u) H → va_D A (refW G ad u) → va_S A s.heap H locs → lv_has ls 3 [(0, .ref (ad 0)), (2, .int b2)] → W p l e (rmK 6) s m args below meth c H locs 0 0 Q (F0 m 77 ls [])) :
    ∀ (n : Nat) (a2 : Int32) (u : RS), wl_Mod_carryOut_36 Post K n a2 u → ∀ (H : Heap) (locs : List Loc) (ls : Array Slot), va_P G.1 classes (refW G ad u) H → va_D A (refW G ad u) → va_S A s.heap H locs → lv_has ls 3 [(0, .ref (ad 0)), (2, .int a2)] → W p l e (rmK 6) s m args below meth c H locs 0 0 Q (F0 m 36 ls []) := by
  subst hQ
  intro n
  induction n with
  | zero => intro a2 u h; exact h.elim
  | succ n ih =>
    intro a2 u7 h H locs ls hP hD hS hl
    unfold wl_Mod_carryOut_36 at h
    refine lv_aload_n hx hb d_Mod_carryOut_36 rfl (lv_at hl 0 rfl) ?_
    refine gR_Mod_pos hx hb hts hown hK hP tb_658 d_Mod_carryOut_37 ?_
    refine lv_aload_n hx hb d_Mod_carryOut_40 rfl (lv_at hl 0 rfl) ?_
    refine gR_Mod_length hx hb hts hown hK hP tb_656 d_Mod_carryOut_41 ?_
    refine lv_icmp_ge (tgt := 77) hx hb d_Mod_carryOut_44 (by decide) (fun hc => ?_) (fun hc => ?_)
    · have h := h.1 hc
      exact kk a2 u7 h _ _ _ hP hD hS (lv_sub hl [0, 1] rfl)
    · have h := h.2 hc
      refine lv_aload_n hx hb d_Mod_carryOut_47 rfl (lv_at hl 0 rfl) ?_
      refine call_Vi1 (own := "HamperClubModel") (As := []) (rest := []) (q0 := 0) (ci := 9) hx hb hml hts hown hK hA hP hD hS ok_Mod_150 rfl ⟨Nat.le_of_ble_eq_true rfl, Nat.le_of_ble_eq_true rfl⟩ ⟨Nat.le_of_ble_eq_true rfl, Nat.le_of_ble_eq_true rfl⟩ rfl rfl rfl hl.1 rfl (Nat.le_of_ble_eq_true rfl) d_Mod_carryOut_48 (c_Mod_readsOrder l G ad _ u7  _ h) (fun x9 u8 H locs h hP hD hS => ?_)
      refine lv_if_eq (tgt := 77) hx hb d_Mod_carryOut_51 (by decide) (fun hc => ?_) (fun hc => ?_)
      · have h := h.1 hc
        exact kk a2 u8 h _ _ _ hP hD hS (lv_sub hl [0, 1] rfl)
      · have h := h.2 hc
        refine lv_aload_n hx hb d_Mod_carryOut_54 rfl (lv_at hl 0 rfl) ?_
        refine call_Vi1 (own := "HamperClubModel") (As := []) (rest := []) (q0 := 0) (ci := 9) hx hb hml hts hown hK hA hP hD hS ok_Mod_159 rfl ⟨Nat.le_of_ble_eq_true rfl, Nat.le_of_ble_eq_true rfl⟩ ⟨Nat.le_of_ble_eq_true rfl, Nat.le_of_ble_eq_true rfl⟩ rfl rfl rfl hl.1 rfl (Nat.le_of_ble_eq_true rfl) d_Mod_carryOut_55 (c_Mod_does l G ad _ u8  _ h) (fun x11 u10 H locs h hP hD hS => ?_)
        refine lv_if_eq (tgt := 77) hx hb d_Mod_carryOut_58 (by decide) (fun hc => ?_) (fun hc => ?_)
        · have h := h.1 hc
          exact kk a2 u10 h _ _ _ hP hD hS (lv_sub hl [0, 1] rfl)
        · have h := h.2 hc
          obtain ⟨x12, ex12⟩ : ∃ y : Int32, y = a2 + 1 := ⟨_, rfl⟩
          have h := h x12 ex12
          refine lv_iinc (v := x12) (lv' := [(2, .int x12), (0, .ref (ad 0))]) hx hb d_Mod_carryOut_61 hl (k := 1) rfl (by rw [ex12]; rfl) (by decide) rfl (fun ls hl => ?_)
          refine lv_aload_n hx hb d_Mod_carryOut_64 rfl (lv_at hl 1 rfl) ?_
          refine lv_dup hx hb d_Mod_carryOut_65 rfl ?_
          refine gR_Mod_pos hx hb hts hown hK hP tb_658 d_Mod_carryOut_66 ?_
          refine lv_iconst (v := 1) hx hb d_Mod_carryOut_69 (by decide) ?_
          refine lv_iadd hx hb d_Mod_carryOut_70 ?_
          refine pR_Mod_pos hx hb hts hown hK hP hD hS tb_658 d_Mod_carryOut_71 (fun u13 H locs eu13 hP hD hS => ?_)
          have h := h u13 eu13
          refine lv_goto (tgt := 36) hx hb d_Mod_carryOut_74 (by decide) ?_
          exact ih x12 u13 h _ _ _ hP hD hS (lv_sub hl [1, 0] rfl)
set_option maxHeartbeats 4000000 in
set_option maxRecDepth 100000 in
theorem c_Mod_carryOut (l : Launch) (G : GG) (ad : Nat → Nat) (sz : Nat) (u : RS) (Post : Int32 → RS → Prop) (h : wp_Mod_carryOut u Post) : CMi l y_Mod_carryOut b_Mod_carryOut 3 .int 6 G [.ref (ad 0)] sz (refW G ad u) (refW G ad) Post := by
  refine CMi.start (by decide) (Nat.le_of_ble_eq_true rfl) (fun p e s m below meth c A ls hx hb hr hts hown hml hlocks hA hS hP hD hK hl => ?_)
  unfold wp_Mod_carryOut at h
  have hl : lv_has ls 3 [(0, .ref (ad 0))] := hl
  refine lv_aload_n hx hb d_Mod_carryOut_0 rfl (lv_at hl 0 rfl) ?_
  refine call_Vi1 (own := "HamperClubModel") (As := []) (rest := []) (q0 := 0) (ci := 9) hx hb hml hts hown hK hA hP hD hS ok_Mod_156 rfl ⟨Nat.le_of_ble_eq_true rfl, Nat.le_of_ble_eq_true rfl⟩ ⟨Nat.le_of_ble_eq_true rfl, Nat.le_of_ble_eq_true rfl⟩ rfl rfl rfl hl.1 rfl (Nat.le_of_ble_eq_true rfl) d_Mod_carryOut_1 (c_Mod_faultOf l G ad _ u  _ h) (fun x2 u1 H locs h hP hD hS => ?_)
  refine lv_istore_n (lv' := [(1, .int x2), (0, .ref (ad 0))]) hx hb d_Mod_carryOut_4 rfl hl (by decide) rfl (fun ls hl => ?_)
  refine lv_iload_n hx hb d_Mod_carryOut_5 rfl (lv_at hl 0 rfl) ?_
  refine lv_if_lt (tgt := 15) hx hb d_Mod_carryOut_6 (by decide) (fun hc => ?_) (fun hc => ?_)
  · have h := h.1 hc
    refine lv_aload_n hx hb d_Mod_carryOut_15 rfl (lv_at hl 1 rfl) ?_
    refine call_Vi1 (own := "HamperClubModel") (As := []) (rest := []) (q0 := 0) (ci := 9) hx hb hml hts hown hK hA hP hD hS ok_Mod_39 rfl ⟨Nat.le_of_ble_eq_true rfl, Nat.le_of_ble_eq_true rfl⟩ ⟨Nat.le_of_ble_eq_true rfl, Nat.le_of_ble_eq_true rfl⟩ rfl rfl rfl hl.1 rfl (Nat.le_of_ble_eq_true rfl) d_Mod_carryOut_16 (c_Mod_isSettled l G ad _ u1  _ h) (fun x4 u3 H locs h hP hD hS => ?_)
    refine lv_if_eq (tgt := 25) hx hb d_Mod_carryOut_19 (by decide) (fun hc => ?_) (fun hc => ?_)
    · have h := h.1 hc
      refine lv_aload_n hx hb d_Mod_carryOut_25 rfl (lv_at hl 1 rfl) ?_
      refine call_Vv1 (own := "HamperClubModel") (As := []) (rest := []) (q0 := 0) (ci := 9) hx hb hml hts hown hK hA hP hD hS ok_Mod_36 rfl ⟨Nat.le_of_ble_eq_true rfl, Nat.le_of_ble_eq_true rfl⟩ ⟨Nat.le_of_ble_eq_true rfl, Nat.le_of_ble_eq_true rfl⟩ rfl rfl rfl hl.1 rfl (Nat.le_of_ble_eq_true rfl) d_Mod_carryOut_26 (c_Mod_record l G ad _ u3  _ h) (fun u5 H locs h hP hD hS => ?_)
      refine lv_aload_n hx hb d_Mod_carryOut_29 rfl (lv_at hl 1 rfl) ?_
      refine lv_iconst (v := 0) hx hb d_Mod_carryOut_30 (by decide) ?_
      refine pR_Mod_pos hx hb hts hown hK hP hD hS tb_658 d_Mod_carryOut_31 (fun u6 H locs eu6 hP hD hS => ?_)
      have h := h u6 eu6
      refine lv_iconst (v := 0) hx hb d_Mod_carryOut_34 (by decide) ?_
      refine lv_istore_n (lv' := [(2, .int 0), (1, .int x2), (0, .ref (ad 0))]) hx hb d_Mod_carryOut_35 rfl hl (by decide) rfl (fun ls hl => ?_)
      obtain ⟨n, h⟩ := h
      refine x_Mod_carryOut_36 hx hb hr hts hown hml hlocks hA hK rfl (fun x15 u14 h H locs ls hP hD hS hl => ?_) n 0 u6 h _ _ _ hP hD hS (lv_sub hl [2, 0] rfl)
      refine lv_aload_n hx hb d_Mod_carryOut_77 rfl (lv_at hl 0 rfl) ?_
      refine lv_iconst (v := 0) hx hb d_Mod_carryOut_78 (by decide) ?_
      refine pR_Mod_length hx hb hts hown hK hP hD hS tb_656 d_Mod_carryOut_79 (fun u16 H locs eu16 hP hD hS => ?_)
      have h := h u16 eu16
      refine lv_iload_n hx hb d_Mod_carryOut_82 rfl (lv_at hl 1 rfl) ?_
      exact r_iret hx hb hr hlocks hP hD hS d_Mod_carryOut_83 h
    · have h := h.2 hc
      refine lv_bipush (v := (-2)) hx hb d_Mod_carryOut_22 (by decide) ?_
      exact r_iret hx hb hr hlocks hP hD hS d_Mod_carryOut_24 h
  · have h := h.2 hc
    refine lv_sipush (v := (-1000)) hx hb d_Mod_carryOut_9 (by decide) ?_
    refine lv_iload_n hx hb d_Mod_carryOut_12 rfl (lv_at hl 0 rfl) ?_
    refine lv_isub hx hb d_Mod_carryOut_13 ?_
    exact r_iret hx hb hr hlocks hP hD hS d_Mod_carryOut_14 h
def wp_Mod_would (u : RS) (p1 : Int32) (p2 : Int32) (Post : Int32 → RS → Prop) : Prop := (wp_Mod_isMember u p1 (fun x2 u1 => ((x2 = 0 → Post (-1) u1) ∧ (¬ x2 = 0 → (((pf_Mod_in p2 0 2) = 0 → Post (-1) u1) ∧ (¬ (pf_Mod_in p2 0 2) = 0 → (wp_Mod_isSettled u1  (fun x4 u3 => ((x4 = 0 → (wp_Mod_copy u3 0 4080 226 (fun u5 => (vp_in (pf_Mod_of p1 10) 4306 ∧ (∀ x6 : Int32, x6 = (u5.1 (pf_Mod_of p1 10).toNatClampNeg) → (wp_Mod_doSettle u5  (fun x8 u7 => ((p2 = 0 → (vp_in (pf_Mod_of p1 12) 4306 ∧ (∀ x13 : Int32, x13 = (u7.1 (pf_Mod_of p1 12).toNatClampNeg) → (wp_Mod_copy u7 4080 0 226 (fun u14 => Post x13 u14))))) ∧ (¬ p2 = 0 → ((p2 = 1 → (vp_in (pf_Mod_of p1 11) 4306 ∧ (∀ x11 : Int32, x11 = (u7.1 (pf_Mod_of p1 11).toNatClampNeg) → (wp_Mod_copy u7 4080 0 226 (fun u12 => Post x11 u12))))) ∧ (¬ p2 = 1 → (vp_in (pf_Mod_of p1 10) 4306 ∧ (∀ x9 : Int32, x9 = ((u7.1 (pf_Mod_of p1 10).toNatClampNeg) - x6) → (wp_Mod_copy u7 4080 0 226 (fun u10 => Post x9 u10))))))))))))))) ∧ (¬ x4 = 0 → Post (-2) u3))))))))))
set_option maxHeartbeats 4000000 in
set_option maxRecDepth 100000 in
theorem c_Mod_would (l : Launch) (G : GG) (ad : Nat → Nat) (sz : Nat) (u : RS) (p1 : Int32) (p2 : Int32) (Post : Int32 → RS → Prop) (h : wp_Mod_would u p1 p2 Post) : CMi l y_Mod_would b_Mod_would 5 .int 6 G [.ref (ad 0), .int p1, .int p2] sz (refW G ad u) (refW G ad) Post := by
  refine CMi.start (by decide) (Nat.le_of_ble_eq_true rfl) (fun p e s m below meth c A ls hx hb hr hts hown hml hlocks hA hS hP hD hK hl => ?_)
  unfold wp_Mod_would at h
  have hl : lv_has ls 5 [(0, .ref (ad 0)), (1, .int p1), (2, .int p2)] := hl
  refine lv_aload_n hx hb d_Mod_would_0 rfl (lv_at hl 0 rfl) ?_
  refine lv_iload_n hx hb d_Mod_would_1 rfl (lv_at hl 1 rfl) ?_
  refine call_Vi1 (own := "HamperClubModel") (As := [.int p1]) (rest := []) (q0 := 0) (ci := 9) hx hb hml hts hown hK hA hP hD hS ok_Mod_46 rfl ⟨Nat.le_of_ble_eq_true rfl, Nat.le_of_ble_eq_true rfl⟩ ⟨Nat.le_of_ble_eq_true rfl, Nat.le_of_ble_eq_true rfl⟩ rfl rfl rfl hl.1 rfl (Nat.le_of_ble_eq_true rfl) d_Mod_would_2 (c_Mod_isMember l G ad _ u p1 _ h) (fun x2 u1 H locs h hP hD hS => ?_)
  refine lv_if_eq (tgt := 17) hx hb d_Mod_would_5 (by decide) (fun hc => ?_) (fun hc => ?_)
  · have h := h.1 hc
    refine lv_iconst (v := (-1)) hx hb d_Mod_would_17 (by decide) ?_
    exact r_iret hx hb hr hlocks hP hD hS d_Mod_would_18 h
  · have h := h.2 hc
    refine lv_iload_n hx hb d_Mod_would_8 rfl (lv_at hl 2 rfl) ?_
    refine lv_iconst (v := 0) hx hb d_Mod_would_9 (by decide) ?_
    refine lv_iconst (v := 2) hx hb d_Mod_would_10 (by decide) ?_
    refine call_S (As := [.int p2, .int 0, .int 2]) (rest := []) hx hb hml hts hown so_Mod_24 rfl ⟨Nat.le_of_ble_eq_true rfl, Nat.le_of_ble_eq_true rfl⟩ ⟨Nat.le_of_ble_eq_true rfl, Nat.le_of_ble_eq_true rfl⟩ hl.1 rfl (Nat.le_of_ble_eq_true rfl) d_Mod_would_11 (k_Mod_in l p2 0 2) ?_
    refine lv_if_ne (tgt := 19) hx hb d_Mod_would_14 (by decide) (fun hc => ?_) (fun hc => ?_)
    · have h := h.2 hc
      refine lv_aload_n hx hb d_Mod_would_19 rfl (lv_at hl 0 rfl) ?_
      refine call_Vi1 (own := "HamperClubModel") (As := []) (rest := []) (q0 := 0) (ci := 9) hx hb hml hts hown hK hA hP hD hS ok_Mod_39 rfl ⟨Nat.le_of_ble_eq_true rfl, Nat.le_of_ble_eq_true rfl⟩ ⟨Nat.le_of_ble_eq_true rfl, Nat.le_of_ble_eq_true rfl⟩ rfl rfl rfl hl.1 rfl (Nat.le_of_ble_eq_true rfl) d_Mod_would_20 (c_Mod_isSettled l G ad _ u1  _ h) (fun x4 u3 H locs h hP hD hS => ?_)
      refine lv_if_eq (tgt := 29) hx hb d_Mod_would_23 (by decide) (fun hc => ?_) (fun hc => ?_)
      · have h := h.1 hc
        refine lv_aload_n hx hb d_Mod_would_29 rfl (lv_at hl 0 rfl) ?_
        refine lv_iconst (v := 0) hx hb d_Mod_would_30 (by decide) ?_
        refine lv_sipush (v := 4080) hx hb d_Mod_would_31 (by decide) ?_
        refine lv_sipush (v := 226) hx hb d_Mod_would_34 (by decide) ?_
        refine call_Vv1 (own := "HamperClubModel") (As := [.int 0, .int 4080, .int 226]) (rest := []) (q0 := 0) (ci := 9) hx hb hml hts hown hK hA hP hD hS ok_Mod_32 rfl ⟨Nat.le_of_ble_eq_true rfl, Nat.le_of_ble_eq_true rfl⟩ ⟨Nat.le_of_ble_eq_true rfl, Nat.le_of_ble_eq_true rfl⟩ rfl rfl rfl hl.1 rfl (Nat.le_of_ble_eq_true rfl) d_Mod_would_37 (c_Mod_copy l G ad _ u3 0 4080 226 _ h) (fun u5 H locs h hP hD hS => ?_)
        refine lv_aload_n hx hb d_Mod_would_40 rfl (lv_at hl 0 rfl) ?_
        refine gR_Mod_row hx hb hts hown hK hP tb_653 d_Mod_would_41 ?_
        refine lv_iload_n hx hb d_Mod_would_44 rfl (lv_at hl 1 rfl) ?_
        refine lv_bipush (v := 10) hx hb d_Mod_would_45 (by decide) ?_
        refine call_S (As := [.int p1, .int 10]) (rest := [.ref (ad 1)]) hx hb hml hts hown so_Mod_43 rfl ⟨Nat.le_of_ble_eq_true rfl, Nat.le_of_ble_eq_true rfl⟩ ⟨Nat.le_of_ble_eq_true rfl, Nat.le_of_ble_eq_true rfl⟩ hl.1 rfl (Nat.le_of_ble_eq_true rfl) d_Mod_would_47 (k_Mod_of l p1 10) ?_
        obtain ⟨hi, h⟩ := h
        refine lR_1 hx hb hK hP hi d_Mod_would_50 ?_
        refine lv_topi (fun x6 ex6 => ?_)
        have h := h x6 ex6
        refine lv_istore_n (lv' := [(3, .int x6), (0, .ref (ad 0)), (1, .int p1), (2, .int p2)]) hx hb d_Mod_would_51 rfl hl (by decide) rfl (fun ls hl => ?_)
        refine lv_aload_n hx hb d_Mod_would_52 rfl (lv_at hl 1 rfl) ?_
        refine call_Vi1 (own := "HamperClubModel") (As := []) (rest := []) (q0 := 0) (ci := 9) hx hb hml hts hown hK hA hP hD hS ok_Mod_126 rfl ⟨Nat.le_of_ble_eq_true rfl, Nat.le_of_ble_eq_true rfl⟩ ⟨Nat.le_of_ble_eq_true rfl, Nat.le_of_ble_eq_true rfl⟩ rfl rfl rfl hl.1 rfl (Nat.le_of_ble_eq_true rfl) d_Mod_would_53 (c_Mod_doSettle l G ad _ u5  _ h) (fun x8 u7 H locs h hP hD hS => ?_)
        refine lv_pop hx hb d_Mod_would_56 rfl ?_
        refine lv_iload_n hx hb d_Mod_would_57 rfl (lv_at hl 3 rfl) ?_
        refine lv_if_ne (tgt := 75) hx hb d_Mod_would_58 (by decide) (fun hc => ?_) (fun hc => ?_)
        · have h := h.2 hc
          refine lv_iload_n hx hb d_Mod_would_75 rfl (lv_at hl 3 rfl) ?_
          refine lv_iconst (v := 1) hx hb d_Mod_would_76 (by decide) ?_
          refine lv_icmp_ne (tgt := 94) hx hb d_Mod_would_77 (by decide) (fun hc => ?_) (fun hc => ?_)
          · have h := h.2 hc
            refine lv_aload_n hx hb d_Mod_would_94 rfl (lv_at hl 1 rfl) ?_
            refine gR_Mod_row hx hb hts hown hK hP tb_653 d_Mod_would_95 ?_
            refine lv_iload_n hx hb d_Mod_would_98 rfl (lv_at hl 2 rfl) ?_
            refine lv_bipush (v := 10) hx hb d_Mod_would_99 (by decide) ?_
            refine call_S (As := [.int p1, .int 10]) (rest := [.ref (ad 1)]) hx hb hml hts hown so_Mod_43 rfl ⟨Nat.le_of_ble_eq_true rfl, Nat.le_of_ble_eq_true rfl⟩ ⟨Nat.le_of_ble_eq_true rfl, Nat.le_of_ble_eq_true rfl⟩ hl.1 rfl (Nat.le_of_ble_eq_true rfl) d_Mod_would_101 (k_Mod_of l p1 10) ?_
            obtain ⟨hi, h⟩ := h
            refine lR_1 hx hb hK hP hi d_Mod_would_104 ?_
            refine lv_iload_n hx hb d_Mod_would_105 rfl (lv_at hl 0 rfl) ?_
            refine lv_isub hx hb d_Mod_would_106 ?_
            refine lv_topi (fun x9 ex9 => ?_)
            have h := h x9 ex9
            refine lv_istore (lv' := [(4, .int x9), (3, .int x6), (0, .ref (ad 0)), (1, .int p1), (2, .int p2)]) hx hb d_Mod_would_107 hl (by decide) rfl (fun ls hl => ?_)
            refine lv_aload_n hx hb d_Mod_would_109 rfl (lv_at hl 2 rfl) ?_
            refine lv_sipush (v := 4080) hx hb d_Mod_would_110 (by decide) ?_
            refine lv_iconst (v := 0) hx hb d_Mod_would_113 (by decide) ?_
            refine lv_sipush (v := 226) hx hb d_Mod_would_114 (by decide) ?_
            refine call_Vv1 (own := "HamperClubModel") (As := [.int 4080, .int 0, .int 226]) (rest := []) (q0 := 0) (ci := 9) hx hb hml hts hown hK hA hP hD hS ok_Mod_32 rfl ⟨Nat.le_of_ble_eq_true rfl, Nat.le_of_ble_eq_true rfl⟩ ⟨Nat.le_of_ble_eq_true rfl, Nat.le_of_ble_eq_true rfl⟩ rfl rfl rfl hl.1 rfl (Nat.le_of_ble_eq_true rfl) d_Mod_would_117 (c_Mod_copy l G ad _ u7 4080 0 226 _ h) (fun u10 H locs h hP hD hS => ?_)
            refine lv_iload hx hb d_Mod_would_120 (lv_at hl 0 rfl) ?_
            exact r_iret hx hb hr hlocks hP hD hS d_Mod_would_122 h
          · have h := h.1 hc
            refine lv_aload_n hx hb d_Mod_would_80 rfl (lv_at hl 1 rfl) ?_
            refine gR_Mod_row hx hb hts hown hK hP tb_653 d_Mod_would_81 ?_
            refine lv_iload_n hx hb d_Mod_would_84 rfl (lv_at hl 2 rfl) ?_
            refine lv_bipush (v := 11) hx hb d_Mod_would_85 (by decide) ?_
            refine call_S (As := [.int p1, .int 11]) (rest := [.ref (ad 1)]) hx hb hml hts hown so_Mod_43 rfl ⟨Nat.le_of_ble_eq_true rfl, Nat.le_of_ble_eq_true rfl⟩ ⟨Nat.le_of_ble_eq_true rfl, Nat.le_of_ble_eq_true rfl⟩ hl.1 rfl (Nat.le_of_ble_eq_true rfl) d_Mod_would_87 (k_Mod_of l p1 11) ?_
            obtain ⟨hi, h⟩ := h
            refine lR_1 hx hb hK hP hi d_Mod_would_90 ?_
            refine lv_goto (tgt := 107) hx hb d_Mod_would_91 (by decide) ?_
            refine lv_topi (fun x11 ex11 => ?_)
            have h := h x11 ex11
            refine lv_istore (lv' := [(4, .int x11), (3, .int x6), (0, .ref (ad 0)), (1, .int p1), (2, .int p2)]) hx hb d_Mod_would_107 hl (by decide) rfl (fun ls hl => ?_)
            refine lv_aload_n hx hb d_Mod_would_109 rfl (lv_at hl 2 rfl) ?_
            refine lv_sipush (v := 4080) hx hb d_Mod_would_110 (by decide) ?_
            refine lv_iconst (v := 0) hx hb d_Mod_would_113 (by decide) ?_
            refine lv_sipush (v := 226) hx hb d_Mod_would_114 (by decide) ?_
            refine call_Vv1 (own := "HamperClubModel") (As := [.int 4080, .int 0, .int 226]) (rest := []) (q0 := 0) (ci := 9) hx hb hml hts hown hK hA hP hD hS ok_Mod_32 rfl ⟨Nat.le_of_ble_eq_true rfl, Nat.le_of_ble_eq_true rfl⟩ ⟨Nat.le_of_ble_eq_true rfl, Nat.le_of_ble_eq_true rfl⟩ rfl rfl rfl hl.1 rfl (Nat.le_of_ble_eq_true rfl) d_Mod_would_117 (c_Mod_copy l G ad _ u7 4080 0 226 _ h) (fun u12 H locs h hP hD hS => ?_)
            refine lv_iload hx hb d_Mod_would_120 (lv_at hl 0 rfl) ?_
            exact r_iret hx hb hr hlocks hP hD hS d_Mod_would_122 h
        · have h := h.1 hc
          refine lv_aload_n hx hb d_Mod_would_61 rfl (lv_at hl 1 rfl) ?_
          refine gR_Mod_row hx hb hts hown hK hP tb_653 d_Mod_would_62 ?_
          refine lv_iload_n hx hb d_Mod_would_65 rfl (lv_at hl 2 rfl) ?_
          refine lv_bipush (v := 12) hx hb d_Mod_would_66 (by decide) ?_
          refine call_S (As := [.int p1, .int 12]) (rest := [.ref (ad 1)]) hx hb hml hts hown so_Mod_43 rfl ⟨Nat.le_of_ble_eq_true rfl, Nat.le_of_ble_eq_true rfl⟩ ⟨Nat.le_of_ble_eq_true rfl, Nat.le_of_ble_eq_true rfl⟩ hl.1 rfl (Nat.le_of_ble_eq_true rfl) d_Mod_would_68 (k_Mod_of l p1 12) ?_
          obtain ⟨hi, h⟩ := h
          refine lR_1 hx hb hK hP hi d_Mod_would_71 ?_
          refine lv_goto (tgt := 107) hx hb d_Mod_would_72 (by decide) ?_
          refine lv_topi (fun x13 ex13 => ?_)
          have h := h x13 ex13
          refine lv_istore (lv' := [(4, .int x13), (3, .int x6), (0, .ref (ad 0)), (1, .int p1), (2, .int p2)]) hx hb d_Mod_would_107 hl (by decide) rfl (fun ls hl => ?_)
          refine lv_aload_n hx hb d_Mod_would_109 rfl (lv_at hl 2 rfl) ?_
          refine lv_sipush (v := 4080) hx hb d_Mod_would_110 (by decide) ?_
          refine lv_iconst (v := 0) hx hb d_Mod_would_113 (by decide) ?_
          refine lv_sipush (v := 226) hx hb d_Mod_would_114 (by decide) ?_
          refine call_Vv1 (own := "HamperClubModel") (As := [.int 4080, .int 0, .int 226]) (rest := []) (q0 := 0) (ci := 9) hx hb hml hts hown hK hA hP hD hS ok_Mod_32 rfl ⟨Nat.le_of_ble_eq_true rfl, Nat.le_of_ble_eq_true rfl⟩ ⟨Nat.le_of_ble_eq_true rfl, Nat.le_of_ble_eq_true rfl⟩ rfl rfl rfl hl.1 rfl (Nat.le_of_ble_eq_true rfl) d_Mod_would_117 (c_Mod_copy l G ad _ u7 4080 0 226 _ h) (fun u14 H locs h hP hD hS => ?_)
          refine lv_iload hx hb d_Mod_would_120 (lv_at hl 0 rfl) ?_
          exact r_iret hx hb hr hlocks hP hD hS d_Mod_would_122 h
      · have h := h.2 hc
        refine lv_bipush (v := (-2)) hx hb d_Mod_would_26 (by decide) ?_
        exact r_iret hx hb hr hlocks hP hD hS d_Mod_would_28 h
    · have h := h.1 hc
      refine lv_iconst (v := (-1)) hx hb d_Mod_would_17 (by decide) ?_
      exact r_iret hx hb hr hlocks hP hD hS d_Mod_would_18 h
def wp_Mod_gets (u : RS) (p1 : Int32) (p2 : Int32) (Post : Int32 → RS → Prop) : Prop := (wp_Mod_copy u 0 4080 226 (fun u1 => (vp_in (pf_Mod_of p1 3) 4306 ∧ (((u1.1 (pf_Mod_of p1 3).toNatClampNeg) = p2 → (wp_Mod_doSettle u1  (fun x3 u2 => (vp_in (pf_Mod_of p1 11) 4306 ∧ (((u2.1 (pf_Mod_of p1 11).toNatClampNeg) = p2 → (wp_Mod_copy u2 4080 0 226 (fun u5 => Post 1 u5))) ∧ (¬ (u2.1 (pf_Mod_of p1 11).toNatClampNeg) = p2 → (wp_Mod_copy u2 4080 0 226 (fun u4 => Post 0 u4)))))))) ∧ (¬ (u1.1 (pf_Mod_of p1 3).toNatClampNeg) = p2 → (wp_Mod_doChoose u1 p1 p2 (fun x7 u6 => (wp_Mod_doSettle u6  (fun x9 u8 => (vp_in (pf_Mod_of p1 11) 4306 ∧ (((u8.1 (pf_Mod_of p1 11).toNatClampNeg) = p2 → (wp_Mod_copy u8 4080 0 226 (fun u11 => Post 1 u11))) ∧ (¬ (u8.1 (pf_Mod_of p1 11).toNatClampNeg) = p2 → (wp_Mod_copy u8 4080 0 226 (fun u10 => Post 0 u10))))))))))))))
set_option maxHeartbeats 4000000 in
set_option maxRecDepth 100000 in
theorem c_Mod_gets (l : Launch) (G : GG) (ad : Nat → Nat) (sz : Nat) (u : RS) (p1 : Int32) (p2 : Int32) (Post : Int32 → RS → Prop) (h : wp_Mod_gets u p1 p2 Post) : CMi l y_Mod_gets b_Mod_gets 4 .boolean 6 G [.ref (ad 0), .int p1, .int p2] sz (refW G ad u) (refW G ad) Post := by
  refine CMi.start (by decide) (Nat.le_of_ble_eq_true rfl) (fun p e s m below meth c A ls hx hb hr hts hown hml hlocks hA hS hP hD hK hl => ?_)
  unfold wp_Mod_gets at h
  have hl : lv_has ls 4 [(0, .ref (ad 0)), (1, .int p1), (2, .int p2)] := hl
  refine lv_aload_n hx hb d_Mod_gets_0 rfl (lv_at hl 0 rfl) ?_
  refine lv_iconst (v := 0) hx hb d_Mod_gets_1 (by decide) ?_
  refine lv_sipush (v := 4080) hx hb d_Mod_gets_2 (by decide) ?_
  refine lv_sipush (v := 226) hx hb d_Mod_gets_5 (by decide) ?_
  refine call_Vv1 (own := "HamperClubModel") (As := [.int 0, .int 4080, .int 226]) (rest := []) (q0 := 0) (ci := 9) hx hb hml hts hown hK hA hP hD hS ok_Mod_32 rfl ⟨Nat.le_of_ble_eq_true rfl, Nat.le_of_ble_eq_true rfl⟩ ⟨Nat.le_of_ble_eq_true rfl, Nat.le_of_ble_eq_true rfl⟩ rfl rfl rfl hl.1 rfl (Nat.le_of_ble_eq_true rfl) d_Mod_gets_8 (c_Mod_copy l G ad _ u 0 4080 226 _ h) (fun u1 H locs h hP hD hS => ?_)
  refine lv_aload_n hx hb d_Mod_gets_11 rfl (lv_at hl 0 rfl) ?_
  refine gR_Mod_row hx hb hts hown hK hP tb_653 d_Mod_gets_12 ?_
  refine lv_iload_n hx hb d_Mod_gets_15 rfl (lv_at hl 1 rfl) ?_
  refine lv_iconst (v := 3) hx hb d_Mod_gets_16 (by decide) ?_
  refine call_S (As := [.int p1, .int 3]) (rest := [.ref (ad 1)]) hx hb hml hts hown so_Mod_43 rfl ⟨Nat.le_of_ble_eq_true rfl, Nat.le_of_ble_eq_true rfl⟩ ⟨Nat.le_of_ble_eq_true rfl, Nat.le_of_ble_eq_true rfl⟩ hl.1 rfl (Nat.le_of_ble_eq_true rfl) d_Mod_gets_17 (k_Mod_of l p1 3) ?_
  obtain ⟨hi, h⟩ := h
  refine lR_1 hx hb hK hP hi d_Mod_gets_20 ?_
  refine lv_iload_n hx hb d_Mod_gets_21 rfl (lv_at hl 2 rfl) ?_
  refine lv_icmp_eq (tgt := 32) hx hb d_Mod_gets_22 (by decide) (fun hc => ?_) (fun hc => ?_)
  · have h := h.1 hc
    refine lv_aload_n hx hb d_Mod_gets_32 rfl (lv_at hl 0 rfl) ?_
    refine call_Vi1 (own := "HamperClubModel") (As := []) (rest := []) (q0 := 0) (ci := 9) hx hb hml hts hown hK hA hP hD hS ok_Mod_126 rfl ⟨Nat.le_of_ble_eq_true rfl, Nat.le_of_ble_eq_true rfl⟩ ⟨Nat.le_of_ble_eq_true rfl, Nat.le_of_ble_eq_true rfl⟩ rfl rfl rfl hl.1 rfl (Nat.le_of_ble_eq_true rfl) d_Mod_gets_33 (c_Mod_doSettle l G ad _ u1  _ h) (fun x3 u2 H locs h hP hD hS => ?_)
    refine lv_pop hx hb d_Mod_gets_36 rfl ?_
    refine lv_aload_n hx hb d_Mod_gets_37 rfl (lv_at hl 0 rfl) ?_
    refine gR_Mod_row hx hb hts hown hK hP tb_653 d_Mod_gets_38 ?_
    refine lv_iload_n hx hb d_Mod_gets_41 rfl (lv_at hl 1 rfl) ?_
    refine lv_bipush (v := 11) hx hb d_Mod_gets_42 (by decide) ?_
    refine call_S (As := [.int p1, .int 11]) (rest := [.ref (ad 1)]) hx hb hml hts hown so_Mod_43 rfl ⟨Nat.le_of_ble_eq_true rfl, Nat.le_of_ble_eq_true rfl⟩ ⟨Nat.le_of_ble_eq_true rfl, Nat.le_of_ble_eq_true rfl⟩ hl.1 rfl (Nat.le_of_ble_eq_true rfl) d_Mod_gets_44 (k_Mod_of l p1 11) ?_
    obtain ⟨hi, h⟩ := h
    refine lR_1 hx hb hK hP hi d_Mod_gets_47 ?_
    refine lv_iload_n hx hb d_Mod_gets_48 rfl (lv_at hl 2 rfl) ?_
    refine lv_icmp_ne (tgt := 56) hx hb d_Mod_gets_49 (by decide) (fun hc => ?_) (fun hc => ?_)
    · have h := h.2 hc
      refine lv_iconst (v := 0) hx hb d_Mod_gets_56 (by decide) ?_
      refine lv_istore_n (lv' := [(3, .int 0), (0, .ref (ad 0)), (1, .int p1), (2, .int p2)]) hx hb d_Mod_gets_57 rfl hl (by decide) rfl (fun ls hl => ?_)
      refine lv_aload_n hx hb d_Mod_gets_58 rfl (lv_at hl 1 rfl) ?_
      refine lv_sipush (v := 4080) hx hb d_Mod_gets_59 (by decide) ?_
      refine lv_iconst (v := 0) hx hb d_Mod_gets_62 (by decide) ?_
      refine lv_sipush (v := 226) hx hb d_Mod_gets_63 (by decide) ?_
      refine call_Vv1 (own := "HamperClubModel") (As := [.int 4080, .int 0, .int 226]) (rest := []) (q0 := 0) (ci := 9) hx hb hml hts hown hK hA hP hD hS ok_Mod_32 rfl ⟨Nat.le_of_ble_eq_true rfl, Nat.le_of_ble_eq_true rfl⟩ ⟨Nat.le_of_ble_eq_true rfl, Nat.le_of_ble_eq_true rfl⟩ rfl rfl rfl hl.1 rfl (Nat.le_of_ble_eq_true rfl) d_Mod_gets_66 (c_Mod_copy l G ad _ u2 4080 0 226 _ h) (fun u4 H locs h hP hD hS => ?_)
      refine lv_iload_n hx hb d_Mod_gets_69 rfl (lv_at hl 0 rfl) ?_
      exact r_zret hx hb hr hlocks rfl hP hD hS d_Mod_gets_70 h
    · have h := h.1 hc
      refine lv_iconst (v := 1) hx hb d_Mod_gets_52 (by decide) ?_
      refine lv_goto (tgt := 57) hx hb d_Mod_gets_53 (by decide) ?_
      refine lv_istore_n (lv' := [(3, .int 1), (0, .ref (ad 0)), (1, .int p1), (2, .int p2)]) hx hb d_Mod_gets_57 rfl hl (by decide) rfl (fun ls hl => ?_)
      refine lv_aload_n hx hb d_Mod_gets_58 rfl (lv_at hl 1 rfl) ?_
      refine lv_sipush (v := 4080) hx hb d_Mod_gets_59 (by decide) ?_
      refine lv_iconst (v := 0) hx hb d_Mod_gets_62 (by decide) ?_
      refine lv_sipush (v := 226) hx hb d_Mod_gets_63 (by decide) ?_
      refine call_Vv1 (own := "HamperClubModel") (As := [.int 4080, .int 0, .int 226]) (rest := []) (q0 := 0) (ci := 9) hx hb hml hts hown hK hA hP hD hS ok_Mod_32 rfl ⟨Nat.le_of_ble_eq_true rfl, Nat.le_of_ble_eq_true rfl⟩ ⟨Nat.le_of_ble_eq_true rfl, Nat.le_of_ble_eq_true rfl⟩ rfl rfl rfl hl.1 rfl (Nat.le_of_ble_eq_true rfl) d_Mod_gets_66 (c_Mod_copy l G ad _ u2 4080 0 226 _ h) (fun u5 H locs h hP hD hS => ?_)
      refine lv_iload_n hx hb d_Mod_gets_69 rfl (lv_at hl 0 rfl) ?_
      exact r_zret hx hb hr hlocks rfl hP hD hS d_Mod_gets_70 h
  · have h := h.2 hc
    refine lv_aload_n hx hb d_Mod_gets_25 rfl (lv_at hl 0 rfl) ?_
    refine lv_iload_n hx hb d_Mod_gets_26 rfl (lv_at hl 1 rfl) ?_
    refine lv_iload_n hx hb d_Mod_gets_27 rfl (lv_at hl 2 rfl) ?_
    refine call_Vi1 (own := "HamperClubModel") (As := [.int p1, .int p2]) (rest := []) (q0 := 0) (ci := 9) hx hb hml hts hown hK hA hP hD hS ok_Mod_104 rfl ⟨Nat.le_of_ble_eq_true rfl, Nat.le_of_ble_eq_true rfl⟩ ⟨Nat.le_of_ble_eq_true rfl, Nat.le_of_ble_eq_true rfl⟩ rfl rfl rfl hl.1 rfl (Nat.le_of_ble_eq_true rfl) d_Mod_gets_28 (c_Mod_doChoose l G ad _ u1 p1 p2 _ h) (fun x7 u6 H locs h hP hD hS => ?_)
    refine lv_pop hx hb d_Mod_gets_31 rfl ?_
    refine lv_aload_n hx hb d_Mod_gets_32 rfl (lv_at hl 0 rfl) ?_
    refine call_Vi1 (own := "HamperClubModel") (As := []) (rest := []) (q0 := 0) (ci := 9) hx hb hml hts hown hK hA hP hD hS ok_Mod_126 rfl ⟨Nat.le_of_ble_eq_true rfl, Nat.le_of_ble_eq_true rfl⟩ ⟨Nat.le_of_ble_eq_true rfl, Nat.le_of_ble_eq_true rfl⟩ rfl rfl rfl hl.1 rfl (Nat.le_of_ble_eq_true rfl) d_Mod_gets_33 (c_Mod_doSettle l G ad _ u6  _ h) (fun x9 u8 H locs h hP hD hS => ?_)
    refine lv_pop hx hb d_Mod_gets_36 rfl ?_
    refine lv_aload_n hx hb d_Mod_gets_37 rfl (lv_at hl 0 rfl) ?_
    refine gR_Mod_row hx hb hts hown hK hP tb_653 d_Mod_gets_38 ?_
    refine lv_iload_n hx hb d_Mod_gets_41 rfl (lv_at hl 1 rfl) ?_
    refine lv_bipush (v := 11) hx hb d_Mod_gets_42 (by decide) ?_
    refine call_S (As := [.int p1, .int 11]) (rest := [.ref (ad 1)]) hx hb hml hts hown so_Mod_43 rfl ⟨Nat.le_of_ble_eq_true rfl, Nat.le_of_ble_eq_true rfl⟩ ⟨Nat.le_of_ble_eq_true rfl, Nat.le_of_ble_eq_true rfl⟩ hl.1 rfl (Nat.le_of_ble_eq_true rfl) d_Mod_gets_44 (k_Mod_of l p1 11) ?_
    obtain ⟨hi, h⟩ := h
    refine lR_1 hx hb hK hP hi d_Mod_gets_47 ?_
    refine lv_iload_n hx hb d_Mod_gets_48 rfl (lv_at hl 2 rfl) ?_
    refine lv_icmp_ne (tgt := 56) hx hb d_Mod_gets_49 (by decide) (fun hc => ?_) (fun hc => ?_)
    · have h := h.2 hc
      refine lv_iconst (v := 0) hx hb d_Mod_gets_56 (by decide) ?_
      refine lv_istore_n (lv' := [(3, .int 0), (0, .ref (ad 0)), (1, .int p1), (2, .int p2)]) hx hb d_Mod_gets_57 rfl hl (by decide) rfl (fun ls hl => ?_)
      refine lv_aload_n hx hb d_Mod_gets_58 rfl (lv_at hl 1 rfl) ?_
      refine lv_sipush (v := 4080) hx hb d_Mod_gets_59 (by decide) ?_
      refine lv_iconst (v := 0) hx hb d_Mod_gets_62 (by decide) ?_
      refine lv_sipush (v := 226) hx hb d_Mod_gets_63 (by decide) ?_
      refine call_Vv1 (own := "HamperClubModel") (As := [.int 4080, .int 0, .int 226]) (rest := []) (q0 := 0) (ci := 9) hx hb hml hts hown hK hA hP hD hS ok_Mod_32 rfl ⟨Nat.le_of_ble_eq_true rfl, Nat.le_of_ble_eq_true rfl⟩ ⟨Nat.le_of_ble_eq_true rfl, Nat.le_of_ble_eq_true rfl⟩ rfl rfl rfl hl.1 rfl (Nat.le_of_ble_eq_true rfl) d_Mod_gets_66 (c_Mod_copy l G ad _ u8 4080 0 226 _ h) (fun u10 H locs h hP hD hS => ?_)
      refine lv_iload_n hx hb d_Mod_gets_69 rfl (lv_at hl 0 rfl) ?_
      exact r_zret hx hb hr hlocks rfl hP hD hS d_Mod_gets_70 h
    · have h := h.1 hc
      refine lv_iconst (v := 1) hx hb d_Mod_gets_52 (by decide) ?_
      refine lv_goto (tgt := 57) hx hb d_Mod_gets_53 (by decide) ?_
      refine lv_istore_n (lv' := [(3, .int 1), (0, .ref (ad 0)), (1, .int p1), (2, .int p2)]) hx hb d_Mod_gets_57 rfl hl (by decide) rfl (fun ls hl => ?_)
      refine lv_aload_n hx hb d_Mod_gets_58 rfl (lv_at hl 1 rfl) ?_
      refine lv_sipush (v := 4080) hx hb d_Mod_gets_59 (by decide) ?_
      refine lv_iconst (v := 0) hx hb d_Mod_gets_62 (by decide) ?_
      refine lv_sipush (v := 226) hx hb d_Mod_gets_63 (by decide) ?_
      refine call_Vv1 (own := "HamperClubModel") (As := [.int 4080, .int 0, .int 226]) (rest := []) (q0 := 0) (ci := 9) hx hb hml hts hown hK hA hP hD hS ok_Mod_32 rfl ⟨Nat.le_of_ble_eq_true rfl, Nat.le_of_ble_eq_true rfl⟩ ⟨Nat.le_of_ble_eq_true rfl, Nat.le_of_ble_eq_true rfl⟩ rfl rfl rfl hl.1 rfl (Nat.le_of_ble_eq_true rfl) d_Mod_gets_66 (c_Mod_copy l G ad _ u8 4080 0 226 _ h) (fun u11 H locs h hP hD hS => ?_)
      refine lv_iload_n hx hb d_Mod_gets_69 rfl (lv_at hl 0 rfl) ?_
      exact r_zret hx hb hr hlocks rfl hP hD hS d_Mod_gets_70 h
def wl_Mod_bestKind_25 (Post : Int32 → RS → Prop) (K : Int32 → RS → Prop) : Nat → Int32 → Int32 → Int32 → RS → Prop
  | 0, _, _, _ => fun _ => False
  | n + 1, a1, a2, a3 => fun u5 => ((4 ≤ a3 → K a2 u5) ∧ (¬ 4 ≤ a3 → (wp_Mod_gets u5 a1 a3 (fun x7 u6 => ((x7 = 0 → (∀ x8 : Int32, x8 = a3 + 1 → wl_Mod_bestKind_25 Post K n a1 a2 x8 u6)) ∧ (¬ x7 = 0 → ((a2 = (-9) → (∀ x9 : Int32, x9 = a3 + 1 → wl_Mod_bestKind_25 Post K n a1 a3 x9 u6)) ∧ (¬ a2 = (-9) → (vp_in (pf_Mod_ofKind a3 0) 4306 ∧ (vp_in (pf_Mod_ofKind a2 0) 4306 ∧ (((u6.1 (pf_Mod_ofKind a3 0).toNatClampNeg) ≤ (u6.1 (pf_Mod_ofKind a2 0).toNatClampNeg) → (∀ x10 : Int32, x10 = a3 + 1 → wl_Mod_bestKind_25 Post K n a1 a2 x10 u6)) ∧ (¬ (u6.1 (pf_Mod_ofKind a3 0).toNatClampNeg) ≤ (u6.1 (pf_Mod_ofKind a2 0).toNatClampNeg) → (∀ x11 : Int32, x11 = a3 + 1 → wl_Mod_bestKind_25 Post K n a1 a3 x11 u6)))))))))))))
def wp_Mod_bestKind (u : RS) (p1 : Int32) (Post : Int32 → RS → Prop) : Prop := (wp_Mod_isMember u p1 (fun x2 u1 => ((x2 = 0 → Post (-1) u1) ∧ (¬ x2 = 0 → (wp_Mod_isSettled u1  (fun x4 u3 => ((x4 = 0 → (∃ k14 : Nat, wl_Mod_bestKind_25 Post (fun x13 u12 => Post x13 u12) k14 p1 (-9) 0 u3)) ∧ (¬ x4 = 0 → Post (-2) u3))))))))
theorem ok_Mod_180 : CallOk y_Mod_gets b_Mod_gets 4 (some .boolean) 6 2 "HamperClubModel" 180 := ⟨tb_943, tb_945, sl_51, tb_12, tb_946, by decide +kernel⟩
set_option maxHeartbeats 4000000 in
set_option maxRecDepth 100000 in
theorem x_Mod_bestKind_25 {p : Program} {l : Launch} {e : Env} {s : State} {m : MethodId} {args : Array Value} {below : List Frame} {meth : Method} {c : Code} {A : Nat → Prop} {G : GG} {ad : Nat → Nat} {Post : Int32 → RS → Prop} {K : Int32 → RS → Prop} {Q : State → Prop}
    (hx : p.tables.exec = Jvm.exec) (hb : c.code = b_Mod_bestKind) (hr : meth.sig.returnType = some .int) (hts : ∀ w ∈ Tg, w.before args s = true) (hown : s.vm.findClass "HamperClubModel" = some m.cls) (hml : c.maxLocals = 4) (hlocks : meth.locks = false) (hA : ∀ q, s.heap.size ≤ q → A q) (hK : KN G s)
    (hQ : Q = MQ below (va_Qi Post (BW G A (refW G ad)) A) args s 0 0 A)
    (kk : ∀ (b2 : Int32) (u : RS), K b2 u → ∀ (H : Heap) (locs : List Loc) (ls : Array Slot), va_P G.1 classes (refW G ad u) H → va_D A (refW G ad u) → va_S A s.heap H locs → lv_has ls 4 [(2, .int b2)] → W p l e (rmK 7) s m args below meth c H locs 0 0 Q (F0 m 80 ls [])) :
    ∀ (n : Nat) (a1 : Int32) (a2 : Int32) (a3 : Int32) (u : RS), wl_Mod_bestKind_25 Post K n a1 a2 a3 u → ∀ (H : Heap) (locs : List Loc) (ls : Array Slot), va_P G.1 classes (refW G ad u) H → va_D A (refW G ad u) → va_S A s.heap H locs → lv_has ls 4 [(0, .ref (ad 0)), (1, .int a1), (2, .int a2), (3, .int a3)] → W p l e (rmK 7) s m args below meth c H locs 0 0 Q (F0 m 25 ls []) := by
  subst hQ
  intro n
  induction n with
  | zero => intro a1 a2 a3 u h; exact h.elim
  | succ n ih =>
    intro a1 a2 a3 u5 h H locs ls hP hD hS hl
    unfold wl_Mod_bestKind_25 at h
    refine lv_iload_n hx hb d_Mod_bestKind_25 rfl (lv_at hl 3 rfl) ?_
    refine lv_iconst (v := 4) hx hb d_Mod_bestKind_26 (by decide) ?_
    refine lv_icmp_ge (tgt := 80) hx hb d_Mod_bestKind_27 (by decide) (fun hc => ?_) (fun hc => ?_)
    · have h := h.1 hc
      exact kk a2 u5 h _ _ _ hP hD hS (lv_sub hl [2] rfl)
    · have h := h.2 hc
      refine lv_aload_n hx hb d_Mod_bestKind_30 rfl (lv_at hl 0 rfl) ?_
      refine lv_iload_n hx hb d_Mod_bestKind_31 rfl (lv_at hl 1 rfl) ?_
      refine lv_iload_n hx hb d_Mod_bestKind_32 rfl (lv_at hl 3 rfl) ?_
      refine call_Vi1 (own := "HamperClubModel") (As := [.int a1, .int a3]) (rest := []) (q0 := 0) (ci := 9) hx hb hml hts hown hK hA hP hD hS ok_Mod_180 rfl ⟨Nat.le_of_ble_eq_true rfl, Nat.le_of_ble_eq_true rfl⟩ ⟨Nat.le_of_ble_eq_true rfl, Nat.le_of_ble_eq_true rfl⟩ rfl rfl rfl hl.1 rfl (Nat.le_of_ble_eq_true rfl) d_Mod_bestKind_33 (c_Mod_gets l G ad _ u5 a1 a3 _ h) (fun x7 u6 H locs h hP hD hS => ?_)
      refine lv_if_eq (tgt := 72) hx hb d_Mod_bestKind_36 (by decide) (fun hc => ?_) (fun hc => ?_)
      · have h := h.1 hc
        refine lv_iload_n hx hb d_Mod_bestKind_72 rfl (lv_at hl 2 rfl) ?_
        refine lv_istore_n (lv' := [(2, .int a2), (0, .ref (ad 0)), (1, .int a1), (3, .int a3)]) hx hb d_Mod_bestKind_73 rfl hl (by decide) rfl (fun ls hl => ?_)
        obtain ⟨x8, ex8⟩ : ∃ y : Int32, y = a3 + 1 := ⟨_, rfl⟩
        have h := h x8 ex8
        refine lv_iinc (v := x8) (lv' := [(3, .int x8), (2, .int a2), (0, .ref (ad 0)), (1, .int a1)]) hx hb d_Mod_bestKind_74 hl (k := 3) rfl (by rw [ex8]; rfl) (by decide) rfl (fun ls hl => ?_)
        refine lv_goto (tgt := 25) hx hb d_Mod_bestKind_77 (by decide) ?_
        exact ih a1 a2 x8 u6 h _ _ _ hP hD hS (lv_sub hl [2, 3, 1, 0] rfl)
      · have h := h.2 hc
        refine lv_iload_n hx hb d_Mod_bestKind_39 rfl (lv_at hl 2 rfl) ?_
        refine lv_bipush (v := (-9)) hx hb d_Mod_bestKind_40 (by decide) ?_
        refine lv_icmp_eq (tgt := 68) hx hb d_Mod_bestKind_42 (by decide) (fun hc => ?_) (fun hc => ?_)
        · have h := h.1 hc
          refine lv_iload_n hx hb d_Mod_bestKind_68 rfl (lv_at hl 3 rfl) ?_
          refine lv_goto (tgt := 73) hx hb d_Mod_bestKind_69 (by decide) ?_
          refine lv_istore_n (lv' := [(2, .int a3), (0, .ref (ad 0)), (1, .int a1), (3, .int a3)]) hx hb d_Mod_bestKind_73 rfl hl (by decide) rfl (fun ls hl => ?_)
          obtain ⟨x9, ex9⟩ : ∃ y : Int32, y = a3 + 1 := ⟨_, rfl⟩
          have h := h x9 ex9
          refine lv_iinc (v := x9) (lv' := [(3, .int x9), (2, .int a3), (0, .ref (ad 0)), (1, .int a1)]) hx hb d_Mod_bestKind_74 hl (k := 3) rfl (by rw [ex9]; rfl) (by decide) rfl (fun ls hl => ?_)
          refine lv_goto (tgt := 25) hx hb d_Mod_bestKind_77 (by decide) ?_
          exact ih a1 a3 x9 u6 h _ _ _ hP hD hS (lv_sub hl [2, 3, 1, 0] rfl)
        · have h := h.2 hc
          refine lv_aload_n hx hb d_Mod_bestKind_45 rfl (lv_at hl 0 rfl) ?_
          refine gR_Mod_row hx hb hts hown hK hP tb_653 d_Mod_bestKind_46 ?_
          refine lv_iload_n hx hb d_Mod_bestKind_49 rfl (lv_at hl 3 rfl) ?_
          refine lv_iconst (v := 0) hx hb d_Mod_bestKind_50 (by decide) ?_
          refine call_S (As := [.int a3, .int 0]) (rest := [.ref (ad 1)]) hx hb hml hts hown so_Mod_20 rfl ⟨Nat.le_of_ble_eq_true rfl, Nat.le_of_ble_eq_true rfl⟩ ⟨Nat.le_of_ble_eq_true rfl, Nat.le_of_ble_eq_true rfl⟩ hl.1 rfl (Nat.le_of_ble_eq_true rfl) d_Mod_bestKind_51 (k_Mod_ofKind l a3 0) ?_
          obtain ⟨hi, h⟩ := h
          refine lR_1 hx hb hK hP hi d_Mod_bestKind_54 ?_
          refine lv_aload_n hx hb d_Mod_bestKind_55 rfl (lv_at hl 0 rfl) ?_
          refine gR_Mod_row hx hb hts hown hK hP tb_653 d_Mod_bestKind_56 ?_
          refine lv_iload_n hx hb d_Mod_bestKind_59 rfl (lv_at hl 2 rfl) ?_
          refine lv_iconst (v := 0) hx hb d_Mod_bestKind_60 (by decide) ?_
          refine call_S (As := [.int a2, .int 0]) (rest := [.ref (ad 1), .int (u6.1 (pf_Mod_ofKind a3 0).toNatClampNeg)]) hx hb hml hts hown so_Mod_20 rfl ⟨Nat.le_of_ble_eq_true rfl, Nat.le_of_ble_eq_true rfl⟩ ⟨Nat.le_of_ble_eq_true rfl, Nat.le_of_ble_eq_true rfl⟩ hl.1 rfl (Nat.le_of_ble_eq_true rfl) d_Mod_bestKind_61 (k_Mod_ofKind l a2 0) ?_
          obtain ⟨hi, h⟩ := h
          refine lR_1 hx hb hK hP hi d_Mod_bestKind_64 ?_
          refine lv_icmp_le (tgt := 72) hx hb d_Mod_bestKind_65 (by decide) (fun hc => ?_) (fun hc => ?_)
          · have h := h.1 hc
            refine lv_iload_n hx hb d_Mod_bestKind_72 rfl (lv_at hl 2 rfl) ?_
            refine lv_istore_n (lv' := [(2, .int a2), (0, .ref (ad 0)), (1, .int a1), (3, .int a3)]) hx hb d_Mod_bestKind_73 rfl hl (by decide) rfl (fun ls hl => ?_)
            obtain ⟨x10, ex10⟩ : ∃ y : Int32, y = a3 + 1 := ⟨_, rfl⟩
            have h := h x10 ex10
            refine lv_iinc (v := x10) (lv' := [(3, .int x10), (2, .int a2), (0, .ref (ad 0)), (1, .int a1)]) hx hb d_Mod_bestKind_74 hl (k := 3) rfl (by rw [ex10]; rfl) (by decide) rfl (fun ls hl => ?_)
            refine lv_goto (tgt := 25) hx hb d_Mod_bestKind_77 (by decide) ?_
            exact ih a1 a2 x10 u6 h _ _ _ hP hD hS (lv_sub hl [2, 3, 1, 0] rfl)
          · have h := h.2 hc
            refine lv_iload_n hx hb d_Mod_bestKind_68 rfl (lv_at hl 3 rfl) ?_
            refine lv_goto (tgt := 73) hx hb d_Mod_bestKind_69 (by decide) ?_
            refine lv_istore_n (lv' := [(2, .int a3), (0, .ref (ad 0)), (1, .int a1), (3, .int a3)]) hx hb d_Mod_bestKind_73 rfl hl (by decide) rfl (fun ls hl => ?_)
            obtain ⟨x11, ex11⟩ : ∃ y : Int32, y = a3 + 1 := ⟨_, rfl⟩
            have h := h x11 ex11
            refine lv_iinc (v := x11) (lv' := [(3, .int x11), (2, .int a3), (0, .ref (ad 0)), (1, .int a1)]) hx hb d_Mod_bestKind_74 hl (k := 3) rfl (by rw [ex11]; rfl) (by decide) rfl (fun ls hl => ?_)
            refine lv_goto (tgt := 25) hx hb d_Mod_bestKind_77 (by decide) ?_
            exact ih a1 a3 x11 u6 h _ _ _ hP hD hS (lv_sub hl [2, 3, 1, 0] rfl)
set_option maxHeartbeats 4000000 in
set_option maxRecDepth 100000 in
theorem c_Mod_bestKind (l : Launch) (G : GG) (ad : Nat → Nat) (sz : Nat) (u : RS) (p1 : Int32) (Post : Int32 → RS → Prop) (h : wp_Mod_bestKind u p1 Post) : CMi l y_Mod_bestKind b_Mod_bestKind 4 .int 7 G [.ref (ad 0), .int p1] sz (refW G ad u) (refW G ad) Post := by
  refine CMi.start (by decide) (Nat.le_of_ble_eq_true rfl) (fun p e s m below meth c A ls hx hb hr hts hown hml hlocks hA hS hP hD hK hl => ?_)
  unfold wp_Mod_bestKind at h
  have hl : lv_has ls 4 [(0, .ref (ad 0)), (1, .int p1)] := hl
  refine lv_aload_n hx hb d_Mod_bestKind_0 rfl (lv_at hl 0 rfl) ?_
  refine lv_iload_n hx hb d_Mod_bestKind_1 rfl (lv_at hl 1 rfl) ?_
  refine call_Vi1 (own := "HamperClubModel") (As := [.int p1]) (rest := []) (q0 := 0) (ci := 9) hx hb hml hts hown hK hA hP hD hS ok_Mod_46 rfl ⟨Nat.le_of_ble_eq_true rfl, Nat.le_of_ble_eq_true rfl⟩ ⟨Nat.le_of_ble_eq_true rfl, Nat.le_of_ble_eq_true rfl⟩ rfl rfl rfl hl.1 rfl (Nat.le_of_ble_eq_true rfl) d_Mod_bestKind_2 (c_Mod_isMember l G ad _ u p1 _ h) (fun x2 u1 H locs h hP hD hS => ?_)
  refine lv_if_ne (tgt := 10) hx hb d_Mod_bestKind_5 (by decide) (fun hc => ?_) (fun hc => ?_)
  · have h := h.2 hc
    refine lv_aload_n hx hb d_Mod_bestKind_10 rfl (lv_at hl 0 rfl) ?_
    refine call_Vi1 (own := "HamperClubModel") (As := []) (rest := []) (q0 := 0) (ci := 9) hx hb hml hts hown hK hA hP hD hS ok_Mod_39 rfl ⟨Nat.le_of_ble_eq_true rfl, Nat.le_of_ble_eq_true rfl⟩ ⟨Nat.le_of_ble_eq_true rfl, Nat.le_of_ble_eq_true rfl⟩ rfl rfl rfl hl.1 rfl (Nat.le_of_ble_eq_true rfl) d_Mod_bestKind_11 (c_Mod_isSettled l G ad _ u1  _ h) (fun x4 u3 H locs h hP hD hS => ?_)
    refine lv_if_eq (tgt := 20) hx hb d_Mod_bestKind_14 (by decide) (fun hc => ?_) (fun hc => ?_)
    · have h := h.1 hc
      refine lv_bipush (v := (-9)) hx hb d_Mod_bestKind_20 (by decide) ?_
      refine lv_istore_n (lv' := [(2, .int (-9)), (0, .ref (ad 0)), (1, .int p1)]) hx hb d_Mod_bestKind_22 rfl hl (by decide) rfl (fun ls hl => ?_)
      refine lv_iconst (v := 0) hx hb d_Mod_bestKind_23 (by decide) ?_
      refine lv_istore_n (lv' := [(3, .int 0), (2, .int (-9)), (0, .ref (ad 0)), (1, .int p1)]) hx hb d_Mod_bestKind_24 rfl hl (by decide) rfl (fun ls hl => ?_)
      obtain ⟨n, h⟩ := h
      refine x_Mod_bestKind_25 hx hb hr hts hown hml hlocks hA hK rfl (fun x13 u12 h H locs ls hP hD hS hl => ?_) n p1 (-9) 0 u3 h _ _ _ hP hD hS (lv_sub hl [2, 3, 1, 0] rfl)
      refine lv_iload_n hx hb d_Mod_bestKind_80 rfl (lv_at hl 0 rfl) ?_
      exact r_iret hx hb hr hlocks hP hD hS d_Mod_bestKind_81 h
    · have h := h.2 hc
      refine lv_bipush (v := (-2)) hx hb d_Mod_bestKind_17 (by decide) ?_
      exact r_iret hx hb hr hlocks hP hD hS d_Mod_bestKind_19 h
  · have h := h.1 hc
    refine lv_iconst (v := (-1)) hx hb d_Mod_bestKind_8 (by decide) ?_
    exact r_iret hx hb hr hlocks hP hD hS d_Mod_bestKind_9 h
