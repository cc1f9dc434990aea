/-! the cards -/
def wp_Crd_exists (u : CS) (p1 : Int32) (Post : Int32 → CS → Prop) : Prop := ((p1 < 0 → Post 0 u) ∧ (¬ p1 < 0 → (((u.1 4) ≤ p1 → Post 0 u) ∧ (¬ (u.1 4) ≤ p1 → Post 1 u))))
set_option maxHeartbeats 4000000 in
set_option maxRecDepth 100000 in
theorem c_Crd_exists (l : Launch) (G : GG) (ad : Nat → Nat) (sz : Nat) (u : CS) (p1 : Int32) (Post : Int32 → CS → Prop) (h : wp_Crd_exists u p1 Post) : CMi l y_Crd_exists b_Crd_exists 2 .boolean 0 G [.ref (ad 1), .int p1] sz (clubW G ad u) (clubW G ad) Post := by
  refine CMi.start (by decide) (Nat.le_of_ble_eq_true rfl) (fun p e s m below meth c A ls hx hb hr hts hown hml hlocks hA hS hP hD hK hl => ?_)
  unfold wp_Crd_exists at h
  have hl : lv_has ls 2 [(0, .ref (ad 1)), (1, .int p1)] := hl
  refine lv_iload_n hx hb d_Crd_exists_0 rfl (lv_at hl 1 rfl) ?_
  refine lv_if_lt (tgt := 16) hx hb d_Crd_exists_1 (by decide) (fun hc => ?_) (fun hc => ?_)
  · have h := h.1 hc
    refine lv_iconst (v := 0) hx hb d_Crd_exists_16 (by decide) ?_
    exact r_zret hx hb hr hlocks rfl hP hD hS d_Crd_exists_17 h
  · have h := h.2 hc
    refine lv_iload_n hx hb d_Crd_exists_4 rfl (lv_at hl 1 rfl) ?_
    refine lv_aload_n hx hb d_Crd_exists_5 rfl (lv_at hl 0 rfl) ?_
    refine gC_Crd_count hx hb hts hown hK hP tb_43 d_Crd_exists_6 ?_
    refine lv_icmp_ge (tgt := 16) hx hb d_Crd_exists_9 (by decide) (fun hc => ?_) (fun hc => ?_)
    · have h := h.1 hc
      refine lv_iconst (v := 0) hx hb d_Crd_exists_16 (by decide) ?_
      exact r_zret hx hb hr hlocks rfl hP hD hS d_Crd_exists_17 h
    · have h := h.2 hc
      refine lv_iconst (v := 1) hx hb d_Crd_exists_12 (by decide) ?_
      refine lv_goto (tgt := 17) hx hb d_Crd_exists_13 (by decide) ?_
      exact r_zret hx hb hr hlocks rfl hP hD hS d_Crd_exists_17 h
def wp_Crd_isInHand (u : CS) (p1 : Int32) (Post : Int32 → CS → Prop) : Prop := (vp_in p1 12 ∧ ((((u.2.1 1) p1.toNatClampNeg) = 0 → Post 1 u) ∧ (¬ ((u.2.1 1) p1.toNatClampNeg) = 0 → Post 0 u)))
set_option maxHeartbeats 4000000 in
set_option maxRecDepth 100000 in
theorem c_Crd_isInHand (l : Launch) (G : GG) (ad : Nat → Nat) (sz : Nat) (u : CS) (p1 : Int32) (Post : Int32 → CS → Prop) (h : wp_Crd_isInHand u p1 Post) : CMi l y_Crd_isInHand b_Crd_isInHand 2 .boolean 0 G [.ref (ad 1), .int p1] sz (clubW G ad u) (clubW G ad) Post := by
  refine CMi.start (by decide) (Nat.le_of_ble_eq_true rfl) (fun p e s m below meth c A ls hx hb hr hts hown hml hlocks hA hS hP hD hK hl => ?_)
  unfold wp_Crd_isInHand at h
  have hl : lv_has ls 2 [(0, .ref (ad 1)), (1, .int p1)] := hl
  refine lv_aload_n hx hb d_Crd_isInHand_0 rfl (lv_at hl 0 rfl) ?_
  refine gC_Crd_status hx hb hts hown hK hP tb_48 d_Crd_isInHand_1 ?_
  refine lv_iload_n hx hb d_Crd_isInHand_4 rfl (lv_at hl 1 rfl) ?_
  obtain ⟨hi, h⟩ := h
  refine lC_3 hx hb hK hP hi d_Crd_isInHand_5 ?_
  refine lv_if_ne (tgt := 13) hx hb d_Crd_isInHand_6 (by decide) (fun hc => ?_) (fun hc => ?_)
  · have h := h.2 hc
    refine lv_iconst (v := 0) hx hb d_Crd_isInHand_13 (by decide) ?_
    exact r_zret hx hb hr hlocks rfl hP hD hS d_Crd_isInHand_14 h
  · have h := h.1 hc
    refine lv_iconst (v := 1) hx hb d_Crd_isInHand_9 (by decide) ?_
    refine lv_goto (tgt := 14) hx hb d_Crd_isInHand_10 (by decide) ?_
    exact r_zret hx hb hr hlocks rfl hP hD hS d_Crd_isInHand_14 h
def wp_Crd_isGoodIn (u : CS) (p1 : Int32) (p2 : Int32) (Post : Int32 → CS → Prop) : Prop := (vp_in p1 12 ∧ (((lg_cmp (((u.2.2 p1.toNatClampNeg) >>> (p2.toInt64 &&& 63)) &&& 1) 1) = 0 → Post 1 u) ∧ (¬ (lg_cmp (((u.2.2 p1.toNatClampNeg) >>> (p2.toInt64 &&& 63)) &&& 1) 1) = 0 → Post 0 u)))
set_option maxHeartbeats 4000000 in
set_option maxRecDepth 100000 in
theorem c_Crd_isGoodIn (l : Launch) (G : GG) (ad : Nat → Nat) (sz : Nat) (u : CS) (p1 : Int32) (p2 : Int32) (Post : Int32 → CS → Prop) (h : wp_Crd_isGoodIn u p1 p2 Post) : CMi l y_Crd_isGoodIn b_Crd_isGoodIn 3 .boolean 0 G [.ref (ad 1), .int p1, .int p2] sz (clubW G ad u) (clubW G ad) Post := by
  refine CMi.start (by decide) (Nat.le_of_ble_eq_true rfl) (fun p e s m below meth c A ls hx hb hr hts hown hml hlocks hA hS hP hD hK hl => ?_)
  unfold wp_Crd_isGoodIn at h
  have hl : lv_has ls 3 [(0, .ref (ad 1)), (1, .int p1), (2, .int p2)] := hl
  refine lv_aload_n hx hb d_Crd_isGoodIn_0 rfl (lv_at hl 0 rfl) ?_
  refine gC_Crd_goodWeeks hx hb hts hown hK hP tb_59 d_Crd_isGoodIn_1 ?_
  refine lv_iload_n hx hb d_Crd_isGoodIn_4 rfl (lv_at hl 1 rfl) ?_
  obtain ⟨hi, h⟩ := h
  refine lC_8 hx hb hK hP hi d_Crd_isGoodIn_5 ?_
  refine lv_iload_n hx hb d_Crd_isGoodIn_6 rfl (lv_at hl 2 rfl) ?_
  refine lv_lshr (v := ((u.2.2 p1.toNatClampNeg) >>> (p2.toInt64 &&& 63))) hx hb d_Crd_isGoodIn_7 rfl ?_
  refine lv_lconst (v := 1) hx hb d_Crd_isGoodIn_8 (by decide) ?_
  refine lv_land hx hb d_Crd_isGoodIn_9 ?_
  refine lv_lconst (v := 1) hx hb d_Crd_isGoodIn_10 (by decide) ?_
  refine W.lcmp hx hb d_Crd_isGoodIn_11 ?_
  refine lv_if_ne (tgt := 19) hx hb d_Crd_isGoodIn_12 (by decide) (fun hc => ?_) (fun hc => ?_)
  · have h := h.2 hc
    refine lv_iconst (v := 0) hx hb d_Crd_isGoodIn_19 (by decide) ?_
    exact r_zret hx hb hr hlocks rfl hP hD hS d_Crd_isGoodIn_20 h
  · have h := h.1 hc
    refine lv_iconst (v := 1) hx hb d_Crd_isGoodIn_15 (by decide) ?_
    refine lv_goto (tgt := 20) hx hb d_Crd_isGoodIn_16 (by decide) ?_
    exact r_zret hx hb hr hlocks rfl hP hD hS d_Crd_isGoodIn_20 h
def wp_Crd_shares (u : CS) (p1 : Int32) (Post : Int32 → CS → Prop) : Prop := (vp_in p1 12 ∧ ((((u.2.1 5) p1.toNatClampNeg) = 0 → (vp_in p1 12 ∧ ((((u.2.1 0) p1.toNatClampNeg) < 1 → Post 0 u) ∧ (¬ ((u.2.1 0) p1.toNatClampNeg) < 1 → Post 1 u)))) ∧ (¬ ((u.2.1 5) p1.toNatClampNeg) = 0 → Post 0 u)))
set_option maxHeartbeats 4000000 in
set_option maxRecDepth 100000 in
theorem c_Crd_shares (l : Launch) (G : GG) (ad : Nat → Nat) (sz : Nat) (u : CS) (p1 : Int32) (Post : Int32 → CS → Prop) (h : wp_Crd_shares u p1 Post) : CMi l y_Crd_shares b_Crd_shares 2 .boolean 0 G [.ref (ad 1), .int p1] sz (clubW G ad u) (clubW G ad) Post := by
  refine CMi.start (by decide) (Nat.le_of_ble_eq_true rfl) (fun p e s m below meth c A ls hx hb hr hts hown hml hlocks hA hS hP hD hK hl => ?_)
  unfold wp_Crd_shares at h
  have hl : lv_has ls 2 [(0, .ref (ad 1)), (1, .int p1)] := hl
  refine lv_aload_n hx hb d_Crd_shares_0 rfl (lv_at hl 0 rfl) ?_
  refine gC_Crd_drawn hx hb hts hown hK hP tb_57 d_Crd_shares_1 ?_
  refine lv_iload_n hx hb d_Crd_shares_4 rfl (lv_at hl 1 rfl) ?_
  obtain ⟨hi, h⟩ := h
  refine lC_7 hx hb hK hP hi d_Crd_shares_5 ?_
  refine lv_if_ne (tgt := 23) hx hb d_Crd_shares_6 (by decide) (fun hc => ?_) (fun hc => ?_)
  · have h := h.2 hc
    refine lv_iconst (v := 0) hx hb d_Crd_shares_23 (by decide) ?_
    exact r_zret hx hb hr hlocks rfl hP hD hS d_Crd_shares_24 h
  · have h := h.1 hc
    refine lv_aload_n hx hb d_Crd_shares_9 rfl (lv_at hl 0 rfl) ?_
    refine gC_Crd_stamps hx hb hts hown hK hP tb_45 d_Crd_shares_10 ?_
    refine lv_iload_n hx hb d_Crd_shares_13 rfl (lv_at hl 1 rfl) ?_
    obtain ⟨hi, h⟩ := h
    refine lC_2 hx hb hK hP hi d_Crd_shares_14 ?_
    refine lv_iconst (v := 1) hx hb d_Crd_shares_15 (by decide) ?_
    refine lv_icmp_lt (tgt := 23) hx hb d_Crd_shares_16 (by decide) (fun hc => ?_) (fun hc => ?_)
    · have h := h.1 hc
      refine lv_iconst (v := 0) hx hb d_Crd_shares_23 (by decide) ?_
      exact r_zret hx hb hr hlocks rfl hP hD hS d_Crd_shares_24 h
    · have h := h.2 hc
      refine lv_iconst (v := 1) hx hb d_Crd_shares_19 (by decide) ?_
      refine lv_goto (tgt := 24) hx hb d_Crd_shares_20 (by decide) ?_
      exact r_zret hx hb hr hlocks rfl hP hD hS d_Crd_shares_24 h
def wl_Crd_allStamps_4 (Post : Int32 → CS → Prop) (K : Int32 → CS → Prop) : Nat → Int32 → Int32 → CS → Prop
  | 0, _, _ => fun _ => False
  | n + 1, a1, a2 => fun u1 => (((u1.1 4) ≤ a2 → K a1 u1) ∧ (¬ (u1.1 4) ≤ a2 → (vp_in a2 12 ∧ (∀ x2 : Int32, x2 = (a1 + ((u1.2.1 0) a2.toNatClampNeg)) → (∀ x3 : Int32, x3 = a2 + 1 → wl_Crd_allStamps_4 Post K n x2 x3 u1)))))
def wp_Crd_allStamps (u : CS) (Post : Int32 → CS → Prop) : Prop := (∃ k6 : Nat, wl_Crd_allStamps_4 Post (fun x5 u4 => Post x5 u4) k6 0 0 u)
set_option maxHeartbeats 4000000 in
set_option maxRecDepth 100000 in
theorem x_Crd_allStamps_4 {p : Program} {l : Launch} {e : Env} {s : State} {m : MethodId} {args : Array Value} {below : List Frame} {meth : Method} {c : Code} {A : Nat → Prop} {G : GG} {ad : Nat → Nat} {Post : Int32 → CS → Prop} {K : Int32 → CS → Prop} {Q : State → Prop}
    (hx : p.tables.exec = Jvm.exec) (hb : c.code = b_Crd_allStamps) (hr : meth.sig.returnType = some .int) (hts : ∀ w ∈ Tg, w.before args s = true) (hown : s.vm.findClass "HamperClub$Cards" = some m.cls) (hml : c.maxLocals = 3) (hlocks : meth.locks = false) (hA : ∀ q, s.heap.size ≤ q → A q) (hK : KN G s)
    (hQ : Q = MQ below (va_Qi Post (BW G A (clubW G ad)) A) args s 0 0 A)
    (kk : ∀ (b1 : Int32) (u : CS), K b1 u → ∀ (H : Heap) (locs : List Loc) (ls : Array Slot), va_P G.1 classes (clubW G ad u) H → va_D A (clubW G ad u) → va_S A s.heap H locs → lv_has ls 3 [(1, .int b1)] → W p l e (rmK 0) s m args below meth c H locs 0 0 Q (F0 m 27 ls [])) :
    ∀ (n : Nat) (a1 : Int32) (a2 : Int32) (u : CS), wl_Crd_allStamps_4 Post K n a1 a2 u → ∀ (H : Heap) (locs : List Loc) (ls : Array Slot), va_P G.1 classes (clubW G ad u) H → va_D A (clubW G ad u) → va_S A s.heap H locs → lv_has ls 3 [(0, .ref (ad 1)), (1, .int a1), (2, .int a2)] → W p l e (rmK 0) s m args below meth c H locs 0 0 Q (F0 m 4 ls []) := by
  subst hQ
  intro n
  induction n with
  | zero => intro a1 a2 u h; exact h.elim
  | succ n ih =>
    intro a1 a2 u1 h H locs ls hP hD hS hl
    unfold wl_Crd_allStamps_4 at h
    refine lv_iload_n hx hb d_Crd_allStamps_4 rfl (lv_at hl 2 rfl) ?_
    refine lv_aload_n hx hb d_Crd_allStamps_5 rfl (lv_at hl 0 rfl) ?_
    refine gC_Crd_count hx hb hts hown hK hP tb_43 d_Crd_allStamps_6 ?_
    refine lv_icmp_ge (tgt := 27) hx hb d_Crd_allStamps_9 (by decide) (fun hc => ?_) (fun hc => ?_)
    · have h := h.1 hc
      exact kk a1 u1 h _ _ _ hP hD hS (lv_sub hl [1] rfl)
    · have h := h.2 hc
      refine lv_iload_n hx hb d_Crd_allStamps_12 rfl (lv_at hl 1 rfl) ?_
      refine lv_aload_n hx hb d_Crd_allStamps_13 rfl (lv_at hl 0 rfl) ?_
      refine gC_Crd_stamps hx hb hts hown hK hP tb_45 d_Crd_allStamps_14 ?_
      refine lv_iload_n hx hb d_Crd_allStamps_17 rfl (lv_at hl 2 rfl) ?_
      obtain ⟨hi, h⟩ := h
      refine lC_2 hx hb hK hP hi d_Crd_allStamps_18 ?_
      refine lv_iadd hx hb d_Crd_allStamps_19 ?_
      refine lv_topi (fun x2 ex2 => ?_)
      have h := h x2 ex2
      refine lv_istore_n (lv' := [(1, .int x2), (0, .ref (ad 1)), (2, .int a2)]) hx hb d_Crd_allStamps_20 rfl hl (by decide) rfl (fun ls hl => ?_)
      obtain ⟨x3, ex3⟩ : ∃ y : Int32, y = a2 + 1 := ⟨_, rfl⟩
      have h := h x3 ex3
      refine lv_iinc (v := x3) (lv' := [(2, .int x3), (1, .int x2), (0, .ref (ad 1))]) hx hb d_Crd_allStamps_21 hl (k := 2) rfl (by rw [ex3]; rfl) (by decide) rfl (fun ls hl => ?_)
      refine lv_goto (tgt := 4) hx hb d_Crd_allStamps_24 (by decide) ?_
      exact ih x2 x3 u1 h _ _ _ hP hD hS (lv_sub hl [2, 1, 0] rfl)
set_option maxHeartbeats 4000000 in
set_option maxRecDepth 100000 in
theorem c_Crd_allStamps (l : Launch) (G : GG) (ad : Nat → Nat) (sz : Nat) (u : CS) (Post : Int32 → CS → Prop) (h : wp_Crd_allStamps u Post) : CMi l y_Crd_allStamps b_Crd_allStamps 3 .int 0 G [.ref (ad 1)] sz (clubW G ad u) (clubW G ad) Post := by
  refine CMi.start (by decide) (Nat.le_of_ble_eq_true rfl) (fun p e s m below meth c A ls hx hb hr hts hown hml hlocks hA hS hP hD hK hl => ?_)
  unfold wp_Crd_allStamps at h
  have hl : lv_has ls 3 [(0, .ref (ad 1))] := hl
  refine lv_iconst (v := 0) hx hb d_Crd_allStamps_0 (by decide) ?_
  refine lv_istore_n (lv' := [(1, .int 0), (0, .ref (ad 1))]) hx hb d_Crd_allStamps_1 rfl hl (by decide) rfl (fun ls hl => ?_)
  refine lv_iconst (v := 0) hx hb d_Crd_allStamps_2 (by decide) ?_
  refine lv_istore_n (lv' := [(2, .int 0), (1, .int 0), (0, .ref (ad 1))]) hx hb d_Crd_allStamps_3 rfl hl (by decide) rfl (fun ls hl => ?_)
  obtain ⟨n, h⟩ := h
  refine x_Crd_allStamps_4 hx hb hr hts hown hml hlocks hA hK rfl (fun x5 u4 h H locs ls hP hD hS hl => ?_) n 0 0 u h _ _ _ hP hD hS (lv_sub hl [2, 1, 0] rfl)
  refine lv_iload_n hx hb d_Crd_allStamps_27 rfl (lv_at hl 0 rfl) ?_
  exact r_iret hx hb hr hlocks hP hD hS d_Crd_allStamps_28 h
def wl_Crd_mislaidCards_4 (Post : Int32 → CS → Prop) (K : Int32 → CS → Prop) : Nat → Int32 → Int32 → CS → Prop
  | 0, _, _ => fun _ => False
  | n + 1, a1, a2 => fun u1 => (((u1.1 4) ≤ a2 → K a1 u1) ∧ (¬ (u1.1 4) ≤ a2 → (vp_in a2 12 ∧ ((((u1.2.1 1) a2.toNatClampNeg) = 1 → (∀ x4 : Int32, x4 = (a1 + 1) → (∀ x5 : Int32, x5 = a2 + 1 → wl_Crd_mislaidCards_4 Post K n x4 x5 u1))) ∧ (¬ ((u1.2.1 1) a2.toNatClampNeg) = 1 → (∀ x2 : Int32, x2 = (a1 + 0) → (∀ x3 : Int32, x3 = a2 + 1 → wl_Crd_mislaidCards_4 Post K n x2 x3 u1)))))))
def wp_Crd_mislaidCards (u : CS) (Post : Int32 → CS → Prop) : Prop := (∃ k8 : Nat, wl_Crd_mislaidCards_4 Post (fun x7 u6 => Post x7 u6) k8 0 0 u)
set_option maxHeartbeats 4000000 in
set_option maxRecDepth 100000 in
theorem x_Crd_mislaidCards_4 {p : Program} {l : Launch} {e : Env} {s : State} {m : MethodId} {args : Array Value} {below : List Frame} {meth : Method} {c : Code} {A : Nat → Prop} {G : GG} {ad : Nat → Nat} {Post : Int32 → CS → Prop} {K : Int32 → CS → Prop} {Q : State → Prop}
    (hx : p.tables.exec = Jvm.exec) (hb : c.code = b_Crd_mislaidCards) (hr : meth.sig.returnType = some .int) (hts : ∀ w ∈ Tg, w.before args s = true) (hown : s.vm.findClass "HamperClub$Cards" = some m.cls) (hml : c.maxLocals = 3) (hlocks : meth.locks = false) (hA : ∀ q, s.heap.size ≤ q → A q) (hK : KN G s)
    (hQ : Q = MQ below (va_Qi Post (BW G A (clubW G ad)) A) args s 0 0 A)
    (kk : ∀ (b1 : Int32) (u : CS), K b1 u → ∀ (H : Heap) (locs : List Loc) (ls : Array Slot), va_P G.1 classes (clubW G ad u) H → va_D A (clubW G ad u) → va_S A s.heap H locs → lv_has ls 3 [(1, .int b1)] → W p l e (rmK 0) s m args below meth c H locs 0 0 Q (F0 m 36 ls [])) :
    ∀ (n : Nat) (a1 : Int32) (a2 : Int32) (u : CS), wl_Crd_mislaidCards_4 Post K n a1 a2 u → ∀ (H : Heap) (locs : List Loc) (ls : Array Slot), va_P G.1 classes (clubW G ad u) H → va_D A (clubW G ad u) → va_S A s.heap H locs → lv_has ls 3 [(0, .ref (ad 1)), (1, .int a1), (2, .int a2)] → W p l e (rmK 0) s m args below meth c H locs 0 0 Q (F0 m 4 ls []) := by
  subst hQ
  intro n
  induction n with
  | zero => intro a1 a2 u h; exact h.elim
  | succ n ih =>
    intro a1 a2 u1 h H locs ls hP hD hS hl
    unfold wl_Crd_mislaidCards_4 at h
    refine lv_iload_n hx hb d_Crd_mislaidCards_4 rfl (lv_at hl 2 rfl) ?_
    refine lv_aload_n hx hb d_Crd_mislaidCards_5 rfl (lv_at hl 0 rfl) ?_
    refine gC_Crd_count hx hb hts hown hK hP tb_43 d_Crd_mislaidCards_6 ?_
    refine lv_icmp_ge (tgt := 36) hx hb d_Crd_mislaidCards_9 (by decide) (fun hc => ?_) (fun hc => ?_)
    · have h := h.1 hc
      exact kk a1 u1 h _ _ _ hP hD hS (lv_sub hl [1] rfl)
    · have h := h.2 hc
      refine lv_iload_n hx hb d_Crd_mislaidCards_12 rfl (lv_at hl 1 rfl) ?_
      refine lv_aload_n hx hb d_Crd_mislaidCards_13 rfl (lv_at hl 0 rfl) ?_
      refine gC_Crd_status hx hb hts hown hK hP tb_48 d_Crd_mislaidCards_14 ?_
      refine lv_iload_n hx hb d_Crd_mislaidCards_17 rfl (lv_at hl 2 rfl) ?_
      obtain ⟨hi, h⟩ := h
      refine lC_3 hx hb hK hP hi d_Crd_mislaidCards_18 ?_
      refine lv_iconst (v := 1) hx hb d_Crd_mislaidCards_19 (by decide) ?_
      refine lv_icmp_ne (tgt := 27) hx hb d_Crd_mislaidCards_20 (by decide) (fun hc => ?_) (fun hc => ?_)
      · have h := h.2 hc
        refine lv_iconst (v := 0) hx hb d_Crd_mislaidCards_27 (by decide) ?_
        refine lv_iadd hx hb d_Crd_mislaidCards_28 ?_
        refine lv_topi (fun x2 ex2 => ?_)
        have h := h x2 ex2
        refine lv_istore_n (lv' := [(1, .int x2), (0, .ref (ad 1)), (2, .int a2)]) hx hb d_Crd_mislaidCards_29 rfl hl (by decide) rfl (fun ls hl => ?_)
        obtain ⟨x3, ex3⟩ : ∃ y : Int32, y = a2 + 1 := ⟨_, rfl⟩
        have h := h x3 ex3
        refine lv_iinc (v := x3) (lv' := [(2, .int x3), (1, .int x2), (0, .ref (ad 1))]) hx hb d_Crd_mislaidCards_30 hl (k := 2) rfl (by rw [ex3]; rfl) (by decide) rfl (fun ls hl => ?_)
        refine lv_goto (tgt := 4) hx hb d_Crd_mislaidCards_33 (by decide) ?_
        exact ih x2 x3 u1 h _ _ _ hP hD hS (lv_sub hl [2, 1, 0] rfl)
      · have h := h.1 hc
        refine lv_iconst (v := 1) hx hb d_Crd_mislaidCards_23 (by decide) ?_
        refine lv_goto (tgt := 28) hx hb d_Crd_mislaidCards_24 (by decide) ?_
        refine lv_iadd hx hb d_Crd_mislaidCards_28 ?_
        refine lv_topi (fun x4 ex4 => ?_)
        have h := h x4 ex4
        refine lv_istore_n (lv' := [(1, .int x4), (0, .ref (ad 1)), (2, .int a2)]) hx hb d_Crd_mislaidCards_29 rfl hl (by decide) rfl (fun ls hl => ?_)
        obtain ⟨x5, ex5⟩ : ∃ y : Int32, y = a2 + 1 := ⟨_, rfl⟩
        have h := h x5 ex5
        refine lv_iinc (v := x5) (lv' := [(2, .int x5), (1, .int x4), (0, .ref (ad 1))]) hx hb d_Crd_mislaidCards_30 hl (k := 2) rfl (by rw [ex5]; rfl) (by decide) rfl (fun ls hl => ?_)
        refine lv_goto (tgt := 4) hx hb d_Crd_mislaidCards_33 (by decide) ?_
        exact ih x4 x5 u1 h _ _ _ hP hD hS (lv_sub hl [2, 1, 0] rfl)
set_option maxHeartbeats 4000000 in
set_option maxRecDepth 100000 in
theorem c_Crd_mislaidCards (l : Launch) (G : GG) (ad : Nat → Nat) (sz : Nat) (u : CS) (Post : Int32 → CS → Prop) (h : wp_Crd_mislaidCards u Post) : CMi l y_Crd_mislaidCards b_Crd_mislaidCards 3 .int 0 G [.ref (ad 1)] sz (clubW G ad u) (clubW G ad) Post := by
  refine CMi.start (by decide) (Nat.le_of_ble_eq_true rfl) (fun p e s m below meth c A ls hx hb hr hts hown hml hlocks hA hS hP hD hK hl => ?_)
  unfold wp_Crd_mislaidCards at h
  have hl : lv_has ls 3 [(0, .ref (ad 1))] := hl
  refine lv_iconst (v := 0) hx hb d_Crd_mislaidCards_0 (by decide) ?_
  refine lv_istore_n (lv' := [(1, .int 0), (0, .ref (ad 1))]) hx hb d_Crd_mislaidCards_1 rfl hl (by decide) rfl (fun ls hl => ?_)
  refine lv_iconst (v := 0) hx hb d_Crd_mislaidCards_2 (by decide) ?_
  refine lv_istore_n (lv' := [(2, .int 0), (1, .int 0), (0, .ref (ad 1))]) hx hb d_Crd_mislaidCards_3 rfl hl (by decide) rfl (fun ls hl => ?_)
  obtain ⟨n, h⟩ := h
  refine x_Crd_mislaidCards_4 hx hb hr hts hown hml hlocks hA hK rfl (fun x7 u6 h H locs ls hP hD hS hl => ?_) n 0 0 u h _ _ _ hP hD hS (lv_sub hl [2, 1, 0] rfl)
  refine lv_iload_n hx hb d_Crd_mislaidCards_36 rfl (lv_at hl 0 rfl) ?_
  exact r_iret hx hb hr hlocks hP hD hS d_Crd_mislaidCards_37 h
def wl_Crd_drawnMembers_4 (Post : Int32 → CS → Prop) (K : Int32 → CS → Prop) : Nat → Int32 → Int32 → CS → Prop
  | 0, _, _ => fun _ => False
  | n + 1, a1, a2 => fun u1 => (((u1.1 4) ≤ a2 → K a1 u1) ∧ (¬ (u1.1 4) ≤ a2 → (vp_in a2 12 ∧ (∀ x2 : Int32, x2 = (a1 + ((u1.2.1 5) a2.toNatClampNeg)) → (∀ x3 : Int32, x3 = a2 + 1 → wl_Crd_drawnMembers_4 Post K n x2 x3 u1)))))
def wp_Crd_drawnMembers (u : CS) (Post : Int32 → CS → Prop) : Prop := (∃ k6 : Nat, wl_Crd_drawnMembers_4 Post (fun x5 u4 => Post x5 u4) k6 0 0 u)
set_option maxHeartbeats 4000000 in
set_option maxRecDepth 100000 in
theorem x_Crd_drawnMembers_4 {p : Program} {l : Launch} {e : Env} {s : State} {m : MethodId} {args : Array Value} {below : List Frame} {meth : Method} {c : Code} {A : Nat → Prop} {G : GG} {ad : Nat → Nat} {Post : Int32 → CS → Prop} {K : Int32 → CS → Prop} {Q : State → Prop}
    (hx : p.tables.exec = Jvm.exec) (hb : c.code = b_Crd_drawnMembers) (hr : meth.sig.returnType = some .int) (hts : ∀ w ∈ Tg, w.before args s = true) (hown : s.vm.findClass "HamperClub$Cards" = some m.cls) (hml : c.maxLocals = 3) (hlocks : meth.locks = false) (hA : ∀ q, s.heap.size ≤ q → A q) (hK : KN G s)
    (hQ : Q = MQ below (va_Qi Post (BW G A (clubW G ad)) A) args s 0 0 A)
    (kk : ∀ (b1 : Int32) (u : CS), K b1 u → ∀ (H : Heap) (locs : List Loc) (ls : Array Slot), va_P G.1 classes (clubW G ad u) H → va_D A (clubW G ad u) → va_S A s.heap H locs → lv_has ls 3 [(1, .int b1)] → W p l e (rmK 0) s m args below meth c H locs 0 0 Q (F0 m 27 ls [])) :
    ∀ (n : Nat) (a1 : Int32) (a2 : Int32) (u : CS), wl_Crd_drawnMembers_4 Post K n a1 a2 u → ∀ (H : Heap) (locs : List Loc) (ls : Array Slot), va_P G.1 classes (clubW G ad u) H → va_D A (clubW G ad u) → va_S A s.heap H locs → lv_has ls 3 [(0, .ref (ad 1)), (1, .int a1), (2, .int a2)] → W p l e (rmK 0) s m args below meth c H locs 0 0 Q (F0 m 4 ls []) := by
  subst hQ
  intro n
  induction n with
  | zero => intro a1 a2 u h; exact h.elim
  | succ n ih =>
    intro a1 a2 u1 h H locs ls hP hD hS hl
    unfold wl_Crd_drawnMembers_4 at h
    refine lv_iload_n hx hb d_Crd_drawnMembers_4 rfl (lv_at hl 2 rfl) ?_
    refine lv_aload_n hx hb d_Crd_drawnMembers_5 rfl (lv_at hl 0 rfl) ?_
    refine gC_Crd_count hx hb hts hown hK hP tb_43 d_Crd_drawnMembers_6 ?_
    refine lv_icmp_ge (tgt := 27) hx hb d_Crd_drawnMembers_9 (by decide) (fun hc => ?_) (fun hc => ?_)
    · have h := h.1 hc
      exact kk a1 u1 h _ _ _ hP hD hS (lv_sub hl [1] rfl)
    · have h := h.2 hc
      refine lv_iload_n hx hb d_Crd_drawnMembers_12 rfl (lv_at hl 1 rfl) ?_
      refine lv_aload_n hx hb d_Crd_drawnMembers_13 rfl (lv_at hl 0 rfl) ?_
      refine gC_Crd_drawn hx hb hts hown hK hP tb_57 d_Crd_drawnMembers_14 ?_
      refine lv_iload_n hx hb d_Crd_drawnMembers_17 rfl (lv_at hl 2 rfl) ?_
      obtain ⟨hi, h⟩ := h
      refine lC_7 hx hb hK hP hi d_Crd_drawnMembers_18 ?_
      refine lv_iadd hx hb d_Crd_drawnMembers_19 ?_
      refine lv_topi (fun x2 ex2 => ?_)
      have h := h x2 ex2
      refine lv_istore_n (lv' := [(1, .int x2), (0, .ref (ad 1)), (2, .int a2)]) hx hb d_Crd_drawnMembers_20 rfl hl (by decide) rfl (fun ls hl => ?_)
      obtain ⟨x3, ex3⟩ : ∃ y : Int32, y = a2 + 1 := ⟨_, rfl⟩
      have h := h x3 ex3
      refine lv_iinc (v := x3) (lv' := [(2, .int x3), (1, .int x2), (0, .ref (ad 1))]) hx hb d_Crd_drawnMembers_21 hl (k := 2) rfl (by rw [ex3]; rfl) (by decide) rfl (fun ls hl => ?_)
      refine lv_goto (tgt := 4) hx hb d_Crd_drawnMembers_24 (by decide) ?_
      exact ih x2 x3 u1 h _ _ _ hP hD hS (lv_sub hl [2, 1, 0] rfl)
set_option maxHeartbeats 4000000 in
set_option maxRecDepth 100000 in
theorem c_Crd_drawnMembers (l : Launch) (G : GG) (ad : Nat → Nat) (sz : Nat) (u : CS) (Post : Int32 → CS → Prop) (h : wp_Crd_drawnMembers u Post) : CMi l y_Crd_drawnMembers b_Crd_drawnMembers 3 .int 0 G [.ref (ad 1)] sz (clubW G ad u) (clubW G ad) Post := by
  refine CMi.start (by decide) (Nat.le_of_ble_eq_true rfl) (fun p e s m below meth c A ls hx hb hr hts hown hml hlocks hA hS hP hD hK hl => ?_)
  unfold wp_Crd_drawnMembers at h
  have hl : lv_has ls 3 [(0, .ref (ad 1))] := hl
  refine lv_iconst (v := 0) hx hb d_Crd_drawnMembers_0 (by decide) ?_
  refine lv_istore_n (lv' := [(1, .int 0), (0, .ref (ad 1))]) hx hb d_Crd_drawnMembers_1 rfl hl (by decide) rfl (fun ls hl => ?_)
  refine lv_iconst (v := 0) hx hb d_Crd_drawnMembers_2 (by decide) ?_
  refine lv_istore_n (lv' := [(2, .int 0), (1, .int 0), (0, .ref (ad 1))]) hx hb d_Crd_drawnMembers_3 rfl hl (by decide) rfl (fun ls hl => ?_)
  obtain ⟨n, h⟩ := h
  refine x_Crd_drawnMembers_4 hx hb hr hts hown hml hlocks hA hK rfl (fun x5 u4 h H locs ls hP hD hS hl => ?_) n 0 0 u h _ _ _ hP hD hS (lv_sub hl [2, 1, 0] rfl)
  refine lv_iload_n hx hb d_Crd_drawnMembers_27 rfl (lv_at hl 0 rfl) ?_
  exact r_iret hx hb hr hlocks hP hD hS d_Crd_drawnMembers_28 h
def wp_Crd_makeGood (u : CS) (p1 : Int32) (p2 : Int32) (Post : CS → Prop) : Prop := (vp_in p1 12 ∧ (vp_in p1 12 ∧ (∀ u1 : CS, u1 = (cL u (vp_updL u.2.2 p1.toNatClampNeg ((u.2.2 p1.toNatClampNeg) ||| (1 <<< (p2.toInt64 &&& 63))))) → (vp_in p1 12 ∧ (∀ u2 : CS, u2 = (cA u1 6 (upd (u1.2.1 6) p1.toNatClampNeg p2)) → Post u2)))))
set_option maxHeartbeats 4000000 in
set_option maxRecDepth 100000 in
theorem c_Crd_makeGood (l : Launch) (G : GG) (ad : Nat → Nat) (sz : Nat) (u : CS) (p1 : Int32) (p2 : Int32) (Post : CS → Prop) (h : wp_Crd_makeGood u p1 p2 Post) : CMv l y_Crd_makeGood b_Crd_makeGood 3 0 G [.ref (ad 1), .int p1, .int p2] sz (clubW G ad u) (clubW G ad) Post := by
  refine CMv.start (by decide) (Nat.le_of_ble_eq_true rfl) (fun p e s m below meth c A ls hx hb hr hts hown hml hlocks hA hS hP hD hK hl => ?_)
  unfold wp_Crd_makeGood at h
  have hl : lv_has ls 3 [(0, .ref (ad 1)), (1, .int p1), (2, .int p2)] := hl
  refine lv_aload_n hx hb d_Crd_makeGood_0 rfl (lv_at hl 0 rfl) ?_
  refine gC_Crd_goodWeeks hx hb hts hown hK hP tb_59 d_Crd_makeGood_1 ?_
  refine lv_iload_n hx hb d_Crd_makeGood_4 rfl (lv_at hl 1 rfl) ?_
  refine lv_dup2_11 hx hb d_Crd_makeGood_5 rfl rfl ?_
  obtain ⟨hi, h⟩ := h
  refine lC_8 hx hb hK hP hi d_Crd_makeGood_6 ?_
  refine lv_lconst (v := 1) hx hb d_Crd_makeGood_7 (by decide) ?_
  refine lv_iload_n hx hb d_Crd_makeGood_8 rfl (lv_at hl 2 rfl) ?_
  refine lv_lshl (v := (1 <<< (p2.toInt64 &&& 63))) hx hb d_Crd_makeGood_9 rfl ?_
  refine lv_lor hx hb d_Crd_makeGood_10 ?_
  obtain ⟨hi, h⟩ := h
  refine sC_8 hx hb hK hP hD hS hi d_Crd_makeGood_11 (fun u1 H locs eu1 hP hD hS => ?_)
  have h := h u1 eu1
  refine lv_aload_n hx hb d_Crd_makeGood_12 rfl (lv_at hl 0 rfl) ?_
  refine gC_Crd_latestGood hx hb hts hown hK hP tb_61 d_Crd_makeGood_13 ?_
  refine lv_iload_n hx hb d_Crd_makeGood_16 rfl (lv_at hl 1 rfl) ?_
  refine lv_iload_n hx hb d_Crd_makeGood_17 rfl (lv_at hl 2 rfl) ?_
  obtain ⟨hi, h⟩ := h
  refine sC_9 hx hb hK hP hD hS hi d_Crd_makeGood_18 (fun u2 H locs eu2 hP hD hS => ?_)
  have h := h u2 eu2
  exact r_vret hx hb hr hlocks hP hD hS d_Crd_makeGood_19 h
def wp_Crd_hasLapsed (u : CS) (p1 : Int32) (p2 : Int32) (Post : Int32 → CS → Prop) : Prop := (vp_in p1 12 ∧ ((((u.2.1 6) p1.toNatClampNeg) = (-9) → (vp_in p1 12 ∧ (∀ x2 : Int32, x2 = ((u.2.1 3) p1.toNatClampNeg) → (((p2 - x2) ≤ 4 → Post 0 u) ∧ (¬ (p2 - x2) ≤ 4 → Post 1 u))))) ∧ (¬ ((u.2.1 6) p1.toNatClampNeg) = (-9) → (vp_in p1 12 ∧ (∀ x1 : Int32, x1 = ((u.2.1 6) p1.toNatClampNeg) → (((p2 - x1) ≤ 4 → Post 0 u) ∧ (¬ (p2 - x1) ≤ 4 → Post 1 u)))))))
set_option maxHeartbeats 4000000 in
set_option maxRecDepth 100000 in
theorem c_Crd_hasLapsed (l : Launch) (G : GG) (ad : Nat → Nat) (sz : Nat) (u : CS) (p1 : Int32) (p2 : Int32) (Post : Int32 → CS → Prop) (h : wp_Crd_hasLapsed u p1 p2 Post) : CMi l y_Crd_hasLapsed b_Crd_hasLapsed 4 .boolean 0 G [.ref (ad 1), .int p1, .int p2] sz (clubW G ad u) (clubW G ad) Post := by
  refine CMi.start (by decide) (Nat.le_of_ble_eq_true rfl) (fun p e s m below meth c A ls hx hb hr hts hown hml hlocks hA hS hP hD hK hl => ?_)
  unfold wp_Crd_hasLapsed at h
  have hl : lv_has ls 4 [(0, .ref (ad 1)), (1, .int p1), (2, .int p2)] := hl
  refine lv_aload_n hx hb d_Crd_hasLapsed_0 rfl (lv_at hl 0 rfl) ?_
  refine gC_Crd_latestGood hx hb hts hown hK hP tb_61 d_Crd_hasLapsed_1 ?_
  refine lv_iload_n hx hb d_Crd_hasLapsed_4 rfl (lv_at hl 1 rfl) ?_
  obtain ⟨hi, h⟩ := h
  refine lC_9 hx hb hK hP hi d_Crd_hasLapsed_5 ?_
  refine lv_bipush (v := (-9)) hx hb d_Crd_hasLapsed_6 (by decide) ?_
  refine lv_icmp_ne (tgt := 20) hx hb d_Crd_hasLapsed_8 (by decide) (fun hc => ?_) (fun hc => ?_)
  · have h := h.2 hc
    refine lv_aload_n hx hb d_Crd_hasLapsed_20 rfl (lv_at hl 0 rfl) ?_
    refine gC_Crd_latestGood hx hb hts hown hK hP tb_61 d_Crd_hasLapsed_21 ?_
    refine lv_iload_n hx hb d_Crd_hasLapsed_24 rfl (lv_at hl 1 rfl) ?_
    obtain ⟨hi, h⟩ := h
    refine lC_9 hx hb hK hP hi d_Crd_hasLapsed_25 ?_
    refine lv_topi (fun x1 ex1 => ?_)
    have h := h x1 ex1
    refine lv_istore_n (lv' := [(3, .int x1), (0, .ref (ad 1)), (1, .int p1), (2, .int p2)]) hx hb d_Crd_hasLapsed_26 rfl hl (by decide) rfl (fun ls hl => ?_)
    refine lv_iload_n hx hb d_Crd_hasLapsed_27 rfl (lv_at hl 3 rfl) ?_
    refine lv_iload_n hx hb d_Crd_hasLapsed_28 rfl (lv_at hl 0 rfl) ?_
    refine lv_isub hx hb d_Crd_hasLapsed_29 ?_
    refine lv_iconst (v := 4) hx hb d_Crd_hasLapsed_30 (by decide) ?_
    refine lv_icmp_le (tgt := 38) hx hb d_Crd_hasLapsed_31 (by decide) (fun hc => ?_) (fun hc => ?_)
    · have h := h.1 hc
      refine lv_iconst (v := 0) hx hb d_Crd_hasLapsed_38 (by decide) ?_
      exact r_zret hx hb hr hlocks rfl hP hD hS d_Crd_hasLapsed_39 h
    · have h := h.2 hc
      refine lv_iconst (v := 1) hx hb d_Crd_hasLapsed_34 (by decide) ?_
      refine lv_goto (tgt := 39) hx hb d_Crd_hasLapsed_35 (by decide) ?_
      exact r_zret hx hb hr hlocks rfl hP hD hS d_Crd_hasLapsed_39 h
  · have h := h.1 hc
    refine lv_aload_n hx hb d_Crd_hasLapsed_11 rfl (lv_at hl 0 rfl) ?_
    refine gC_Crd_joinedIn hx hb hts hown hK hP tb_52 d_Crd_hasLapsed_12 ?_
    refine lv_iload_n hx hb d_Crd_hasLapsed_15 rfl (lv_at hl 1 rfl) ?_
    obtain ⟨hi, h⟩ := h
    refine lC_5 hx hb hK hP hi d_Crd_hasLapsed_16 ?_
    refine lv_goto (tgt := 26) hx hb d_Crd_hasLapsed_17 (by decide) ?_
    refine lv_topi (fun x2 ex2 => ?_)
    have h := h x2 ex2
    refine lv_istore_n (lv' := [(3, .int x2), (0, .ref (ad 1)), (1, .int p1), (2, .int p2)]) hx hb d_Crd_hasLapsed_26 rfl hl (by decide) rfl (fun ls hl => ?_)
    refine lv_iload_n hx hb d_Crd_hasLapsed_27 rfl (lv_at hl 3 rfl) ?_
    refine lv_iload_n hx hb d_Crd_hasLapsed_28 rfl (lv_at hl 0 rfl) ?_
    refine lv_isub hx hb d_Crd_hasLapsed_29 ?_
    refine lv_iconst (v := 4) hx hb d_Crd_hasLapsed_30 (by decide) ?_
    refine lv_icmp_le (tgt := 38) hx hb d_Crd_hasLapsed_31 (by decide) (fun hc => ?_) (fun hc => ?_)
    · have h := h.1 hc
      refine lv_iconst (v := 0) hx hb d_Crd_hasLapsed_38 (by decide) ?_
      exact r_zret hx hb hr hlocks rfl hP hD hS d_Crd_hasLapsed_39 h
    · have h := h.2 hc
      refine lv_iconst (v := 1) hx hb d_Crd_hasLapsed_34 (by decide) ?_
      refine lv_goto (tgt := 39) hx hb d_Crd_hasLapsed_35 (by decide) ?_
      exact r_zret hx hb hr hlocks rfl hP hD hS d_Crd_hasLapsed_39 h
def wl_Crd_sharedStamps_4 (Post : Int32 → CS → Prop) (K : Int32 → CS → Prop) : Nat → Int32 → Int32 → CS → Prop
  | 0, _, _ => fun _ => False
  | n + 1, a1, a2 => fun u1 => (((u1.1 4) ≤ a2 → K a1 u1) ∧ (¬ (u1.1 4) ≤ a2 → (wp_Crd_shares u1 a2 (fun x3 u2 => ((x3 = 0 → (∀ x4 : Int32, x4 = (a1 + 0) → (∀ x5 : Int32, x5 = a2 + 1 → wl_Crd_sharedStamps_4 Post K n x4 x5 u2))) ∧ (¬ x3 = 0 → (vp_in a2 12 ∧ (∀ x6 : Int32, x6 = (a1 + ((u2.2.1 0) a2.toNatClampNeg)) → (∀ x7 : Int32, x7 = a2 + 1 → wl_Crd_sharedStamps_4 Post K n x6 x7 u2)))))))))
def wp_Crd_sharedStamps (u : CS) (Post : Int32 → CS → Prop) : Prop := (∃ k10 : Nat, wl_Crd_sharedStamps_4 Post (fun x9 u8 => Post x9 u8) k10 0 0 u)
theorem ok_Crd_53 : CallOk y_Crd_shares b_Crd_shares 2 (some .boolean) 0 1 "HamperClub$Cards" 53 := ⟨tb_488, tb_489, tb_490, tb_4, tb_491, by decide +kernel⟩
set_option maxHeartbeats 4000000 in
set_option maxRecDepth 100000 in
theorem x_Crd_sharedStamps_4 {p : Program} {l : Launch} {e : Env} {s : State} {m : MethodId} {args : Array Value} {below : List Frame} {meth : Method} {c : Code} {A : Nat → Prop} {G : GG} {ad : Nat → Nat} {Post : Int32 → CS → Prop} {K : Int32 → CS → Prop} {Q : State → Prop}
    (hx : p.tables.exec = Jvm.exec) (hb : c.code = b_Crd_sharedStamps) (hr : meth.sig.returnType = some .int) (hts : ∀ w ∈ Tg, w.before args s = true) (hown : s.vm.findClass "HamperClub$Cards" = some m.cls) (hml : c.maxLocals = 3) (hlocks : meth.locks = false) (hA : ∀ q, s.heap.size ≤ q → A q) (hK : KN G s)
    (hQ : Q = MQ below (va_Qi Post (BW G A (clubW G ad)) A) args s 0 0 A)
    (kk : ∀ (b1 : Int32) (u : CS), K b1 u → ∀ (H : Heap) (locs : List Loc) (ls : Array Slot), va_P G.1 classes (clubW G ad u) H → va_D A (clubW G ad u) → va_S A s.heap H locs → lv_has ls 3 [(1, .int b1)] → W p l e (rmK 1) s m args below meth c H locs 0 0 Q (F0 m 39 ls [])) :
    ∀ (n : Nat) (a1 : Int32) (a2 : Int32) (u : CS), wl_Crd_sharedStamps_4 Post K n a1 a2 u → ∀ (H : Heap) (locs : List Loc) (ls : Array Slot), va_P G.1 classes (clubW G ad u) H → va_D A (clubW G ad u) → va_S A s.heap H locs → lv_has ls 3 [(0, .ref (ad 1)), (1, .int a1), (2, .int a2)] → W p l e (rmK 1) s m args below meth c H locs 0 0 Q (F0 m 4 ls []) := by
  subst hQ
  intro n
  induction n with
  | zero => intro a1 a2 u h; exact h.elim
  | succ n ih =>
    intro a1 a2 u1 h H locs ls hP hD hS hl
    unfold wl_Crd_sharedStamps_4 at h
    refine lv_iload_n hx hb d_Crd_sharedStamps_4 rfl (lv_at hl 2 rfl) ?_
    refine lv_aload_n hx hb d_Crd_sharedStamps_5 rfl (lv_at hl 0 rfl) ?_
    refine gC_Crd_count hx hb hts hown hK hP tb_43 d_Crd_sharedStamps_6 ?_
    refine lv_icmp_ge (tgt := 39) hx hb d_Crd_sharedStamps_9 (by decide) (fun hc => ?_) (fun hc => ?_)
    · have h := h.1 hc
      exact kk a1 u1 h _ _ _ hP hD hS (lv_sub hl [1] rfl)
    · have h := h.2 hc
      refine lv_iload_n hx hb d_Crd_sharedStamps_12 rfl (lv_at hl 1 rfl) ?_
      refine lv_aload_n hx hb d_Crd_sharedStamps_13 rfl (lv_at hl 0 rfl) ?_
      refine lv_iload_n hx hb d_Crd_sharedStamps_14 rfl (lv_at hl 2 rfl) ?_
      refine call_Vi1 (own := "HamperClub$Cards") (As := [.int a2]) (rest := [.int a1]) (q0 := 1) (ci := 1) hx hb hml hts hown hK hA hP hD hS ok_Crd_53 rfl ⟨Nat.le_of_ble_eq_true rfl, Nat.le_of_ble_eq_true rfl⟩ ⟨Nat.le_of_ble_eq_true rfl, Nat.le_of_ble_eq_true rfl⟩ rfl rfl rfl hl.1 rfl (Nat.le_of_ble_eq_true rfl) d_Crd_sharedStamps_15 (c_Crd_shares l G ad _ u1 a2 _ h) (fun x3 u2 H locs h hP hD hS => ?_)
      refine lv_if_eq (tgt := 30) hx hb d_Crd_sharedStamps_18 (by decide) (fun hc => ?_) (fun hc => ?_)
      · have h := h.1 hc
        refine lv_iconst (v := 0) hx hb d_Crd_sharedStamps_30 (by decide) ?_
        refine lv_iadd hx hb d_Crd_sharedStamps_31 ?_
        refine lv_topi (fun x4 ex4 => ?_)
        have h := h x4 ex4
        refine lv_istore_n (lv' := [(1, .int x4), (0, .ref (ad 1)), (2, .int a2)]) hx hb d_Crd_sharedStamps_32 rfl hl (by decide) rfl (fun ls hl => ?_)
        obtain ⟨x5, ex5⟩ : ∃ y : Int32, y = a2 + 1 := ⟨_, rfl⟩
        have h := h x5 ex5
        refine lv_iinc (v := x5) (lv' := [(2, .int x5), (1, .int x4), (0, .ref (ad 1))]) hx hb d_Crd_sharedStamps_33 hl (k := 2) rfl (by rw [ex5]; rfl) (by decide) rfl (fun ls hl => ?_)
        refine lv_goto (tgt := 4) hx hb d_Crd_sharedStamps_36 (by decide) ?_
        exact ih x4 x5 u2 h _ _ _ hP hD hS (lv_sub hl [2, 1, 0] rfl)
      · have h := h.2 hc
        refine lv_aload_n hx hb d_Crd_sharedStamps_21 rfl (lv_at hl 0 rfl) ?_
        refine gC_Crd_stamps hx hb hts hown hK hP tb_45 d_Crd_sharedStamps_22 ?_
        refine lv_iload_n hx hb d_Crd_sharedStamps_25 rfl (lv_at hl 2 rfl) ?_
        obtain ⟨hi, h⟩ := h
        refine lC_2 hx hb hK hP hi d_Crd_sharedStamps_26 ?_
        refine lv_goto (tgt := 31) hx hb d_Crd_sharedStamps_27 (by decide) ?_
        refine lv_iadd hx hb d_Crd_sharedStamps_31 ?_
        refine lv_topi (fun x6 ex6 => ?_)
        have h := h x6 ex6
        refine lv_istore_n (lv' := [(1, .int x6), (0, .ref (ad 1)), (2, .int a2)]) hx hb d_Crd_sharedStamps_32 rfl hl (by decide) rfl (fun ls hl => ?_)
        obtain ⟨x7, ex7⟩ : ∃ y : Int32, y = a2 + 1 := ⟨_, rfl⟩
        have h := h x7 ex7
        refine lv_iinc (v := x7) (lv' := [(2, .int x7), (1, .int x6), (0, .ref (ad 1))]) hx hb d_Crd_sharedStamps_33 hl (k := 2) rfl (by rw [ex7]; rfl) (by decide) rfl (fun ls hl => ?_)
        refine lv_goto (tgt := 4) hx hb d_Crd_sharedStamps_36 (by decide) ?_
        exact ih x6 x7 u2 h _ _ _ hP hD hS (lv_sub hl [2, 1, 0] rfl)
set_option maxHeartbeats 4000000 in
set_option maxRecDepth 100000 in
theorem c_Crd_sharedStamps (l : Launch) (G : GG) (ad : Nat → Nat) (sz : Nat) (u : CS) (Post : Int32 → CS → Prop) (h : wp_Crd_sharedStamps u Post) : CMi l y_Crd_sharedStamps b_Crd_sharedStamps 3 .int 1 G [.ref (ad 1)] sz (clubW G ad u) (clubW G ad) Post := by
  refine CMi.start (by decide) (Nat.le_of_ble_eq_true rfl) (fun p e s m below meth c A ls hx hb hr hts hown hml hlocks hA hS hP hD hK hl => ?_)
  unfold wp_Crd_sharedStamps at h
  have hl : lv_has ls 3 [(0, .ref (ad 1))] := hl
  refine lv_iconst (v := 0) hx hb d_Crd_sharedStamps_0 (by decide) ?_
  refine lv_istore_n (lv' := [(1, .int 0), (0, .ref (ad 1))]) hx hb d_Crd_sharedStamps_1 rfl hl (by decide) rfl (fun ls hl => ?_)
  refine lv_iconst (v := 0) hx hb d_Crd_sharedStamps_2 (by decide) ?_
  refine lv_istore_n (lv' := [(2, .int 0), (1, .int 0), (0, .ref (ad 1))]) hx hb d_Crd_sharedStamps_3 rfl hl (by decide) rfl (fun ls hl => ?_)
  obtain ⟨n, h⟩ := h
  refine x_Crd_sharedStamps_4 hx hb hr hts hown hml hlocks hA hK rfl (fun x9 u8 h H locs ls hP hD hS hl => ?_) n 0 0 u h _ _ _ hP hD hS (lv_sub hl [2, 1, 0] rfl)
  refine lv_iload_n hx hb d_Crd_sharedStamps_39 rfl (lv_at hl 0 rfl) ?_
  exact r_iret hx hb hr hlocks hP hD hS d_Crd_sharedStamps_40 h
def wl_Crd_rowOfGoodWeeks_23 (Post : Int32 → CS → Prop) (K : Int32 → CS → Prop) : Nat → Int32 → Int32 → Int32 → CS → Prop
  | 0, _, _, _ => fun _ => False
  | n + 1, a1, a4, a5 => fun u4 => ((a5 < 0 → K a4 u4) ∧ (¬ a5 < 0 → (wp_Crd_isGoodIn u4 a1 a5 (fun x6 u5 => ((x6 = 0 → K a4 u5) ∧ (¬ x6 = 0 → (∀ x7 : Int32, x7 = a4 + 1 → (∀ x8 : Int32, x8 = a5 + (-1) → wl_Crd_rowOfGoodWeeks_23 Post K n a1 x7 x8 u5))))))))
def wp_Crd_rowOfGoodWeeks (u : CS) (p1 : Int32) (p2 : Int32) (Post : Int32 → CS → Prop) : Prop := (wp_Crd_isGoodIn u p1 p2 (fun x2 u1 => ((x2 = 0 → (∀ x3 : Int32, x3 = (p2 - 1) → (∃ k11 : Nat, wl_Crd_rowOfGoodWeeks_23 Post (fun x10 u9 => Post x10 u9) k11 p1 0 x3 u1))) ∧ (¬ x2 = 0 → (∃ k14 : Nat, wl_Crd_rowOfGoodWeeks_23 Post (fun x13 u12 => Post x13 u12) k14 p1 0 p2 u1)))))
theorem ok_Crd_57 : CallOk y_Crd_isGoodIn b_Crd_isGoodIn 3 (some .boolean) 0 2 "HamperClub$Cards" 57 := ⟨tb_474, tb_330, tb_331, tb_4, tb_332, by decide +kernel⟩
set_option maxHeartbeats 4000000 in
set_option maxRecDepth 100000 in
theorem x_Crd_rowOfGoodWeeks_23 {p : Program} {l : Launch} {e : Env} {s : State} {m : MethodId} {args : Array Value} {below : List Frame} {meth : Method} {c : Code} {A : Nat → Prop} {G : GG} {ad : Nat → Nat} {Post : Int32 → CS → Prop} {K : Int32 → CS → Prop} {Q : State → Prop}
    (hx : p.tables.exec = Jvm.exec) (hb : c.code = b_Crd_rowOfGoodWeeks) (hr : meth.sig.returnType = some .int) (hts : ∀ w ∈ Tg, w.before args s = true) (hown : s.vm.findClass "HamperClub$Cards" = some m.cls) (hml : c.maxLocals = 6) (hlocks : meth.locks = false) (hA : ∀ q, s.heap.size ≤ q → A q) (hK : KN G s)
    (hQ : Q = MQ below (va_Qi Post (BW G A (clubW G ad)) A) args s 0 0 A)
    (kk : ∀ (b4 : Int32) (u : CS), K b4 u → ∀ (H : Heap) (locs : List Loc) (ls : Array Slot), va_P G.1 classes (clubW G ad u) H → va_D A (clubW G ad u) → va_S A s.heap H locs → lv_has ls 6 [(4, .int b4)] → W p l e (rmK 1) s m args below meth c H locs 0 0 Q (F0 m 47 ls [])) :
    ∀ (n : Nat) (a1 : Int32) (a4 : Int32) (a5 : Int32) (u : CS), wl_Crd_rowOfGoodWeeks_23 Post K n a1 a4 a5 u → ∀ (H : Heap) (locs : List Loc) (ls : Array Slot), va_P G.1 classes (clubW G ad u) H → va_D A (clubW G ad u) → va_S A s.heap H locs → lv_has ls 6 [(0, .ref (ad 1)), (1, .int a1), (4, .int a4), (5, .int a5)] → W p l e (rmK 1) s m args below meth c H locs 0 0 Q (F0 m 23 ls []) := by
  subst hQ
  intro n
  induction n with
  | zero => intro a1 a4 a5 u h; exact h.elim
  | succ n ih =>
    intro a1 a4 a5 u4 h H locs ls hP hD hS hl
    unfold wl_Crd_rowOfGoodWeeks_23 at h
    refine lv_iload hx hb d_Crd_rowOfGoodWeeks_23 (lv_at hl 3 rfl) ?_
    refine lv_if_lt (tgt := 47) hx hb d_Crd_rowOfGoodWeeks_25 (by decide) (fun hc => ?_) (fun hc => ?_)
    · have h := h.1 hc
      exact kk a4 u4 h _ _ _ hP hD hS (lv_sub hl [2] rfl)
    · have h := h.2 hc
      refine lv_aload_n hx hb d_Crd_rowOfGoodWeeks_28 rfl (lv_at hl 0 rfl) ?_
      refine lv_iload_n hx hb d_Crd_rowOfGoodWeeks_29 rfl (lv_at hl 1 rfl) ?_
      refine lv_iload hx hb d_Crd_rowOfGoodWeeks_30 (lv_at hl 3 rfl) ?_
      refine call_Vi1 (own := "HamperClub$Cards") (As := [.int a1, .int a5]) (rest := []) (q0 := 1) (ci := 1) hx hb hml hts hown hK hA hP hD hS ok_Crd_57 rfl ⟨Nat.le_of_ble_eq_true rfl, Nat.le_of_ble_eq_true rfl⟩ ⟨Nat.le_of_ble_eq_true rfl, Nat.le_of_ble_eq_true rfl⟩ rfl rfl rfl hl.1 rfl (Nat.le_of_ble_eq_true rfl) d_Crd_rowOfGoodWeeks_32 (c_Crd_isGoodIn l G ad _ u4 a1 a5 _ h) (fun x6 u5 H locs h hP hD hS => ?_)
      refine lv_if_eq (tgt := 47) hx hb d_Crd_rowOfGoodWeeks_35 (by decide) (fun hc => ?_) (fun hc => ?_)
      · have h := h.1 hc
        exact kk a4 u5 h _ _ _ hP hD hS (lv_sub hl [2] rfl)
      · have h := h.2 hc
        obtain ⟨x7, ex7⟩ : ∃ y : Int32, y = a4 + 1 := ⟨_, rfl⟩
        have h := h x7 ex7
        refine lv_iinc (v := x7) (lv' := [(4, .int x7), (0, .ref (ad 1)), (1, .int a1), (5, .int a5)]) hx hb d_Crd_rowOfGoodWeeks_38 hl (k := 2) rfl (by rw [ex7]; rfl) (by decide) rfl (fun ls hl => ?_)
        obtain ⟨x8, ex8⟩ : ∃ y : Int32, y = a5 + (-1) := ⟨_, rfl⟩
        have h := h x8 ex8
        refine lv_iinc (v := x8) (lv' := [(5, .int x8), (4, .int x7), (0, .ref (ad 1)), (1, .int a1)]) hx hb d_Crd_rowOfGoodWeeks_41 hl (k := 3) rfl (by rw [ex8]; rfl) (by decide) rfl (fun ls hl => ?_)
        refine lv_goto (tgt := 23) hx hb d_Crd_rowOfGoodWeeks_44 (by decide) ?_
        exact ih a1 x7 x8 u5 h _ _ _ hP hD hS (lv_sub hl [2, 3, 1, 0] rfl)
set_option maxHeartbeats 4000000 in
set_option maxRecDepth 100000 in
theorem c_Crd_rowOfGoodWeeks (l : Launch) (G : GG) (ad : Nat → Nat) (sz : Nat) (u : CS) (p1 : Int32) (p2 : Int32) (Post : Int32 → CS → Prop) (h : wp_Crd_rowOfGoodWeeks u p1 p2 Post) : CMi l y_Crd_rowOfGoodWeeks b_Crd_rowOfGoodWeeks 6 .int 1 G [.ref (ad 1), .int p1, .int p2] sz (clubW G ad u) (clubW G ad) Post := by
  refine CMi.start (by decide) (Nat.le_of_ble_eq_true rfl) (fun p e s m below meth c A ls hx hb hr hts hown hml hlocks hA hS hP hD hK hl => ?_)
  unfold wp_Crd_rowOfGoodWeeks at h
  have hl : lv_has ls 6 [(0, .ref (ad 1)), (1, .int p1), (2, .int p2)] := hl
  refine lv_aload_n hx hb d_Crd_rowOfGoodWeeks_0 rfl (lv_at hl 0 rfl) ?_
  refine lv_iload_n hx hb d_Crd_rowOfGoodWeeks_1 rfl (lv_at hl 1 rfl) ?_
  refine lv_iload_n hx hb d_Crd_rowOfGoodWeeks_2 rfl (lv_at hl 2 rfl) ?_
  refine call_Vi1 (own := "HamperClub$Cards") (As := [.int p1, .int p2]) (rest := []) (q0 := 1) (ci := 1) hx hb hml hts hown hK hA hP hD hS ok_Crd_57 rfl ⟨Nat.le_of_ble_eq_true rfl, Nat.le_of_ble_eq_true rfl⟩ ⟨Nat.le_of_ble_eq_true rfl, Nat.le_of_ble_eq_true rfl⟩ rfl rfl rfl hl.1 rfl (Nat.le_of_ble_eq_true rfl) d_Crd_rowOfGoodWeeks_3 (c_Crd_isGoodIn l G ad _ u p1 p2 _ h) (fun x2 u1 H locs h hP hD hS => ?_)
  refine lv_if_eq (tgt := 13) hx hb d_Crd_rowOfGoodWeeks_6 (by decide) (fun hc => ?_) (fun hc => ?_)
  · have h := h.1 hc
    refine lv_iload_n hx hb d_Crd_rowOfGoodWeeks_13 rfl (lv_at hl 2 rfl) ?_
    refine lv_iconst (v := 1) hx hb d_Crd_rowOfGoodWeeks_14 (by decide) ?_
    refine lv_isub hx hb d_Crd_rowOfGoodWeeks_15 ?_
    refine lv_topi (fun x3 ex3 => ?_)
    have h := h x3 ex3
    refine lv_istore_n (lv' := [(3, .int x3), (0, .ref (ad 1)), (1, .int p1), (2, .int p2)]) hx hb d_Crd_rowOfGoodWeeks_16 rfl hl (by decide) rfl (fun ls hl => ?_)
    refine lv_iconst (v := 0) hx hb d_Crd_rowOfGoodWeeks_17 (by decide) ?_
    refine lv_istore (lv' := [(4, .int 0), (3, .int x3), (0, .ref (ad 1)), (1, .int p1), (2, .int p2)]) hx hb d_Crd_rowOfGoodWeeks_18 hl (by decide) rfl (fun ls hl => ?_)
    refine lv_iload_n hx hb d_Crd_rowOfGoodWeeks_20 rfl (lv_at hl 1 rfl) ?_
    refine lv_istore (lv' := [(5, .int x3), (4, .int 0), (3, .int x3), (0, .ref (ad 1)), (1, .int p1), (2, .int p2)]) hx hb d_Crd_rowOfGoodWeeks_21 hl (by decide) rfl (fun ls hl => ?_)
    obtain ⟨n, h⟩ := h
    refine x_Crd_rowOfGoodWeeks_23 hx hb hr hts hown hml hlocks hA hK rfl (fun x10 u9 h H locs ls hP hD hS hl => ?_) n p1 0 x3 u1 h _ _ _ hP hD hS (lv_sub hl [3, 4, 1, 0] rfl)
    refine lv_iload hx hb d_Crd_rowOfGoodWeeks_47 (lv_at hl 0 rfl) ?_
    exact r_iret hx hb hr hlocks hP hD hS d_Crd_rowOfGoodWeeks_49 h
  · have h := h.2 hc
    refine lv_iload_n hx hb d_Crd_rowOfGoodWeeks_9 rfl (lv_at hl 2 rfl) ?_
    refine lv_goto (tgt := 16) hx hb d_Crd_rowOfGoodWeeks_10 (by decide) ?_
    refine lv_istore_n (lv' := [(3, .int p2), (0, .ref (ad 1)), (1, .int p1), (2, .int p2)]) hx hb d_Crd_rowOfGoodWeeks_16 rfl hl (by decide) rfl (fun ls hl => ?_)
    refine lv_iconst (v := 0) hx hb d_Crd_rowOfGoodWeeks_17 (by decide) ?_
    refine lv_istore (lv' := [(4, .int 0), (3, .int p2), (0, .ref (ad 1)), (1, .int p1), (2, .int p2)]) hx hb d_Crd_rowOfGoodWeeks_18 hl (by decide) rfl (fun ls hl => ?_)
    refine lv_iload_n hx hb d_Crd_rowOfGoodWeeks_20 rfl (lv_at hl 1 rfl) ?_
    refine lv_istore (lv' := [(5, .int p2), (4, .int 0), (3, .int p2), (0, .ref (ad 1)), (1, .int p1), (2, .int p2)]) hx hb d_Crd_rowOfGoodWeeks_21 hl (by decide) rfl (fun ls hl => ?_)
    obtain ⟨n, h⟩ := h
    refine x_Crd_rowOfGoodWeeks_23 hx hb hr hts hown hml hlocks hA hK rfl (fun x13 u12 h H locs ls hP hD hS hl => ?_) n p1 0 p2 u1 h _ _ _ hP hD hS (lv_sub hl [3, 4, 1, 0] rfl)
    refine lv_iload hx hb d_Crd_rowOfGoodWeeks_47 (lv_at hl 0 rfl) ?_
    exact r_iret hx hb hr hlocks hP hD hS d_Crd_rowOfGoodWeeks_49 h
