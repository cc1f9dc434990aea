/-! the club -/
def wp_Clb_addMember (u : CS) (Post : Int32 → CS → Prop) : Prop := (((u.1 1) = 0 → (((u.1 4) < 12 → (∀ x1 : Int32, x1 = (u.1 4) → (vp_in x1 12 ∧ (∀ u2 : CS, u2 = (cA u 3 (upd (u.2.1 3) x1.toNatClampNeg (u.1 0))) → (∀ u3 : CS, u3 = (cS u2 4 ((u2.1 4) + 1)) → Post x1 u3))))) ∧ (¬ (u.1 4) < 12 → Post (-3) u))) ∧ (¬ (u.1 1) = 0 → Post (-2) u))
set_option maxHeartbeats 4000000 in
set_option maxRecDepth 100000 in
theorem c_Clb_addMember (l : Launch) (G : GG) (ad : Nat → Nat) (sz : Nat) (u : CS) (Post : Int32 → CS → Prop) (h : wp_Clb_addMember u Post) : CMi l y_Clb_addMember b_Clb_addMember 2 .int 0 G [.ref (ad 0)] sz (clubW G ad u) (clubW G ad) Post := by
  refine CMi.start (by decide) (Nat.le_of_ble_eq_true rfl) (fun p e s m below meth c A ls hx hb hr hts hown hml hlocks hA hS hP hD hK hl => ?_)
  unfold wp_Clb_addMember at h
  have hl : lv_has ls 2 [(0, .ref (ad 0))] := hl
  refine lv_aload_n hx hb d_Clb_addMember_0 rfl (lv_at hl 0 rfl) ?_
  refine gC_Clb_settled hx hb hts hown hK hP tb_151 d_Clb_addMember_1 ?_
  refine lv_if_eq (tgt := 10) hx hb d_Clb_addMember_4 (by decide) (fun hc => ?_) (fun hc => ?_)
  · have h := h.1 hc
    refine lv_aload_n hx hb d_Clb_addMember_10 rfl (lv_at hl 0 rfl) ?_
    refine gC_Clb_cards hx hb hts hown hK hP tb_155 d_Clb_addMember_11 ?_
    refine gC_Crd_count hx hb hts hown hK hP tb_44 d_Clb_addMember_14 ?_
    refine lv_bipush (v := 12) hx hb d_Clb_addMember_17 (by decide) ?_
    refine lv_icmp_lt (tgt := 25) hx hb d_Clb_addMember_19 (by decide) (fun hc => ?_) (fun hc => ?_)
    · have h := h.1 hc
      refine lv_aload_n hx hb d_Clb_addMember_25 rfl (lv_at hl 0 rfl) ?_
      refine gC_Clb_cards hx hb hts hown hK hP tb_155 d_Clb_addMember_26 ?_
      refine gC_Crd_count hx hb hts hown hK hP tb_44 d_Clb_addMember_29 ?_
      refine lv_topi (fun x1 ex1 => ?_)
      have h := h x1 ex1
      refine lv_istore_n (lv' := [(1, .int x1), (0, .ref (ad 0))]) hx hb d_Clb_addMember_32 rfl hl (by decide) rfl (fun ls hl => ?_)
      refine lv_aload_n hx hb d_Clb_addMember_33 rfl (lv_at hl 1 rfl) ?_
      refine gC_Clb_cards hx hb hts hown hK hP tb_155 d_Clb_addMember_34 ?_
      refine gC_Crd_joinedIn hx hb hts hown hK hP tb_53 d_Clb_addMember_37 ?_
      refine lv_iload_n hx hb d_Clb_addMember_40 rfl (lv_at hl 0 rfl) ?_
      refine lv_aload_n hx hb d_Clb_addMember_41 rfl (lv_at hl 1 rfl) ?_
      refine gC_Clb_week hx hb hts hown hK hP tb_148 d_Clb_addMember_42 ?_
      obtain ⟨hi, h⟩ := h
      refine sC_5 hx hb hK hP hD hS hi d_Clb_addMember_45 (fun u2 H locs eu2 hP hD hS => ?_)
      have h := h u2 eu2
      refine lv_aload_n hx hb d_Clb_addMember_46 rfl (lv_at hl 1 rfl) ?_
      refine gC_Clb_cards hx hb hts hown hK hP tb_155 d_Clb_addMember_47 ?_
      refine lv_dup hx hb d_Clb_addMember_50 rfl ?_
      refine gC_Crd_count hx hb hts hown hK hP tb_44 d_Clb_addMember_51 ?_
      refine lv_iconst (v := 1) hx hb d_Clb_addMember_54 (by decide) ?_
      refine lv_iadd hx hb d_Clb_addMember_55 ?_
      refine pC_Crd_count hx hb hts hown hK hP hD hS tb_44 d_Clb_addMember_56 (fun u3 H locs eu3 hP hD hS => ?_)
      have h := h u3 eu3
      refine lv_iload_n hx hb d_Clb_addMember_59 rfl (lv_at hl 0 rfl) ?_
      exact r_iret hx hb hr hlocks hP hD hS d_Clb_addMember_60 h
    · have h := h.2 hc
      refine lv_bipush (v := (-3)) hx hb d_Clb_addMember_22 (by decide) ?_
      exact r_iret hx hb hr hlocks hP hD hS d_Clb_addMember_24 h
  · have h := h.2 hc
    refine lv_bipush (v := (-2)) hx hb d_Clb_addMember_7 (by decide) ?_
    exact r_iret hx hb hr hlocks hP hD hS d_Clb_addMember_9 h
def wl_Clb_replaceCards_2 (Post : CS → Prop) (K : CS → Prop) : Nat → Int32 → CS → Prop
  | 0, _ => fun _ => False
  | n + 1, a1 => fun u1 => (((u1.1 4) ≤ a1 → K  u1) ∧ (¬ (u1.1 4) ≤ a1 → (vp_in a1 12 ∧ ((((u1.2.1 1) a1.toNatClampNeg) = 1 → (vp_in a1 12 ∧ ((((u1.1 0) - ((u1.2.1 2) a1.toNatClampNeg)) < 3 → (∀ x3 : Int32, x3 = a1 + 1 → wl_Clb_replaceCards_2 Post K n x3 u1)) ∧ (¬ ((u1.1 0) - ((u1.2.1 2) a1.toNatClampNeg)) < 3 → (vp_in a1 12 ∧ (∀ x4 : Int32, x4 = (((u1.2.1 0) a1.toNatClampNeg) / 10) → (vp_in a1 12 ∧ (vp_in a1 12 ∧ (∀ u5 : CS, u5 = (cA u1 0 (upd (u1.2.1 0) a1.toNatClampNeg (((u1.2.1 0) a1.toNatClampNeg) - x4))) → (∀ u6 : CS, u6 = (cS u5 6 ((u5.1 6) + (x4 * 10))) → (vp_in a1 12 ∧ (∀ u7 : CS, u7 = (cA u6 1 (upd (u6.2.1 1) a1.toNatClampNeg 0)) → (∀ x8 : Int32, x8 = a1 + 1 → wl_Clb_replaceCards_2 Post K n x8 u7))))))))))))) ∧ (¬ ((u1.2.1 1) a1.toNatClampNeg) = 1 → (∀ x2 : Int32, x2 = a1 + 1 → wl_Clb_replaceCards_2 Post K n x2 u1))))))
def wp_Clb_replaceCards (u : CS) (Post : CS → Prop) : Prop := (∃ k10 : Nat, wl_Clb_replaceCards_2 Post (fun u9 => Post u9) k10 0 u)
set_option maxHeartbeats 4000000 in
set_option maxRecDepth 100000 in
theorem x_Clb_replaceCards_2 {p : Program} {l : Launch} {e : Env} {s : State} {m : MethodId} {args : Array Value} {below : List Frame} {meth : Method} {c : Code} {A : Nat → Prop} {G : GG} {ad : Nat → Nat} {Post : CS → Prop} {K : CS → Prop} {Q : State → Prop}
    (hx : p.tables.exec = Jvm.exec) (hb : c.code = b_Clb_replaceCards) (hr : meth.sig.returnType = none) (hts : ∀ w ∈ Tg, w.before args s = true) (hown : s.vm.findClass "HamperClub$Club" = some m.cls) (hml : c.maxLocals = 4) (hlocks : meth.locks = false) (hA : ∀ q, s.heap.size ≤ q → A q) (hK : KN G s)
    (hQ : Q = MQ below (va_Qv Post (BW G A (clubW G ad)) A) args s 0 0 A)
    (kk : ∀ (u : CS), K  u → ∀ (H : Heap) (locs : List Loc) (ls : Array Slot), va_P G.1 classes (clubW G ad u) H → va_D A (clubW G ad u) → va_S A s.heap H locs → lv_has ls 4 [] → W p l e (rmK 0) s m args below meth c H locs 0 0 Q (F0 m 112 ls [])) :
    ∀ (n : Nat) (a1 : Int32) (u : CS), wl_Clb_replaceCards_2 Post K n a1 u → ∀ (H : Heap) (locs : List Loc) (ls : Array Slot), va_P G.1 classes (clubW G ad u) H → va_D A (clubW G ad u) → va_S A s.heap H locs → lv_has ls 4 [(0, .ref (ad 0)), (1, .int a1)] → W p l e (rmK 0) s m args below meth c H locs 0 0 Q (F0 m 2 ls []) := by
  subst hQ
  intro n
  induction n with
  | zero => intro a1 u h; exact h.elim
  | succ n ih =>
    intro a1 u1 h H locs ls hP hD hS hl
    unfold wl_Clb_replaceCards_2 at h
    refine lv_iload_n hx hb d_Clb_replaceCards_2 rfl (lv_at hl 1 rfl) ?_
    refine lv_aload_n hx hb d_Clb_replaceCards_3 rfl (lv_at hl 0 rfl) ?_
    refine gC_Clb_cards hx hb hts hown hK hP tb_155 d_Clb_replaceCards_4 ?_
    refine gC_Crd_count hx hb hts hown hK hP tb_44 d_Clb_replaceCards_7 ?_
    refine lv_icmp_ge (tgt := 112) hx hb d_Clb_replaceCards_10 (by decide) (fun hc => ?_) (fun hc => ?_)
    · have h := h.1 hc
      exact kk  u1 h _ _ _ hP hD hS (lv_sub hl [] rfl)
    · have h := h.2 hc
      refine lv_aload_n hx hb d_Clb_replaceCards_13 rfl (lv_at hl 0 rfl) ?_
      refine gC_Clb_cards hx hb hts hown hK hP tb_155 d_Clb_replaceCards_14 ?_
      refine gC_Crd_status hx hb hts hown hK hP tb_49 d_Clb_replaceCards_17 ?_
      refine lv_iload_n hx hb d_Clb_replaceCards_20 rfl (lv_at hl 1 rfl) ?_
      obtain ⟨hi, h⟩ := h
      refine lC_3 hx hb hK hP hi d_Clb_replaceCards_21 ?_
      refine lv_iconst (v := 1) hx hb d_Clb_replaceCards_22 (by decide) ?_
      refine lv_icmp_ne (tgt := 30) hx hb d_Clb_replaceCards_23 (by decide) (fun hc => ?_) (fun hc => ?_)
      · have h := h.2 hc
        refine lv_iconst (v := 0) hx hb d_Clb_replaceCards_30 (by decide) ?_
        refine lv_istore_n (lv' := [(2, .int 0), (0, .ref (ad 0)), (1, .int a1)]) hx hb d_Clb_replaceCards_31 rfl hl (by decide) rfl (fun ls hl => ?_)
        refine lv_iload_n hx hb d_Clb_replaceCards_32 rfl (lv_at hl 0 rfl) ?_
        refine lv_if_eq (tgt := 106) hx hb d_Clb_replaceCards_33 (by decide) (fun _ => ?_) (fun hc => absurd hc (by decide))
        obtain ⟨x2, ex2⟩ : ∃ y : Int32, y = a1 + 1 := ⟨_, rfl⟩
        have h := h x2 ex2
        refine lv_iinc (v := x2) (lv' := [(1, .int x2), (2, .int 0), (0, .ref (ad 0))]) hx hb d_Clb_replaceCards_106 hl (k := 2) rfl (by rw [ex2]; rfl) (by decide) rfl (fun ls hl => ?_)
        refine lv_goto (tgt := 2) hx hb d_Clb_replaceCards_109 (by decide) ?_
        exact ih x2 u1 h _ _ _ hP hD hS (lv_sub hl [2, 0] rfl)
      · have h := h.1 hc
        refine lv_iconst (v := 1) hx hb d_Clb_replaceCards_26 (by decide) ?_
        refine lv_goto (tgt := 31) hx hb d_Clb_replaceCards_27 (by decide) ?_
        refine lv_istore_n (lv' := [(2, .int 1), (0, .ref (ad 0)), (1, .int a1)]) hx hb d_Clb_replaceCards_31 rfl hl (by decide) rfl (fun ls hl => ?_)
        refine lv_iload_n hx hb d_Clb_replaceCards_32 rfl (lv_at hl 0 rfl) ?_
        refine lv_if_eq (tgt := 106) hx hb d_Clb_replaceCards_33 (by decide) (fun hc => absurd hc (by decide)) (fun _ => ?_)
        refine lv_aload_n hx hb d_Clb_replaceCards_36 rfl (lv_at hl 1 rfl) ?_
        refine gC_Clb_week hx hb hts hown hK hP tb_148 d_Clb_replaceCards_37 ?_
        refine lv_aload_n hx hb d_Clb_replaceCards_40 rfl (lv_at hl 1 rfl) ?_
        refine gC_Clb_cards hx hb hts hown hK hP tb_155 d_Clb_replaceCards_41 ?_
        refine gC_Crd_mislaidIn hx hb hts hown hK hP tb_51 d_Clb_replaceCards_44 ?_
        refine lv_iload_n hx hb d_Clb_replaceCards_47 rfl (lv_at hl 2 rfl) ?_
        obtain ⟨hi, h⟩ := h
        refine lC_4 hx hb hK hP hi d_Clb_replaceCards_48 ?_
        refine lv_isub hx hb d_Clb_replaceCards_49 ?_
        refine lv_iconst (v := 3) hx hb d_Clb_replaceCards_50 (by decide) ?_
        refine lv_icmp_lt (tgt := 106) hx hb d_Clb_replaceCards_51 (by decide) (fun hc => ?_) (fun hc => ?_)
        · have h := h.1 hc
          obtain ⟨x3, ex3⟩ : ∃ y : Int32, y = a1 + 1 := ⟨_, rfl⟩
          have h := h x3 ex3
          refine lv_iinc (v := x3) (lv' := [(1, .int x3), (2, .int 1), (0, .ref (ad 0))]) hx hb d_Clb_replaceCards_106 hl (k := 2) rfl (by rw [ex3]; rfl) (by decide) rfl (fun ls hl => ?_)
          refine lv_goto (tgt := 2) hx hb d_Clb_replaceCards_109 (by decide) ?_
          exact ih x3 u1 h _ _ _ hP hD hS (lv_sub hl [2, 0] rfl)
        · have h := h.2 hc
          refine lv_aload_n hx hb d_Clb_replaceCards_54 rfl (lv_at hl 1 rfl) ?_
          refine gC_Clb_cards hx hb hts hown hK hP tb_155 d_Clb_replaceCards_55 ?_
          refine gC_Crd_stamps hx hb hts hown hK hP tb_46 d_Clb_replaceCards_58 ?_
          refine lv_iload_n hx hb d_Clb_replaceCards_61 rfl (lv_at hl 2 rfl) ?_
          obtain ⟨hi, h⟩ := h
          refine lC_2 hx hb hK hP hi d_Clb_replaceCards_62 ?_
          refine lv_bipush (v := 10) hx hb d_Clb_replaceCards_63 (by decide) ?_
          refine lv_idiv hx hb d_Clb_replaceCards_65 (by decide) ?_
          refine lv_topi (fun x4 ex4 => ?_)
          have h := h x4 ex4
          refine lv_istore_n (lv' := [(3, .int x4), (2, .int 1), (0, .ref (ad 0)), (1, .int a1)]) hx hb d_Clb_replaceCards_66 rfl hl (by decide) rfl (fun ls hl => ?_)
          refine lv_aload_n hx hb d_Clb_replaceCards_67 rfl (lv_at hl 2 rfl) ?_
          refine gC_Clb_cards hx hb hts hown hK hP tb_155 d_Clb_replaceCards_68 ?_
          refine gC_Crd_stamps hx hb hts hown hK hP tb_46 d_Clb_replaceCards_71 ?_
          refine lv_iload_n hx hb d_Clb_replaceCards_74 rfl (lv_at hl 3 rfl) ?_
          refine lv_dup2_11 hx hb d_Clb_replaceCards_75 rfl rfl ?_
          obtain ⟨hi, h⟩ := h
          refine lC_2 hx hb hK hP hi d_Clb_replaceCards_76 ?_
          refine lv_iload_n hx hb d_Clb_replaceCards_77 rfl (lv_at hl 0 rfl) ?_
          refine lv_isub hx hb d_Clb_replaceCards_78 ?_
          obtain ⟨hi, h⟩ := h
          refine sC_2 hx hb hK hP hD hS hi d_Clb_replaceCards_79 (fun u5 H locs eu5 hP hD hS => ?_)
          have h := h u5 eu5
          refine lv_aload_n hx hb d_Clb_replaceCards_80 rfl (lv_at hl 2 rfl) ?_
          refine gC_Clb_accounts hx hb hts hown hK hP tb_159 d_Clb_replaceCards_81 ?_
          refine lv_dup hx hb d_Clb_replaceCards_84 rfl ?_
          refine gC_Acc_pool hx hb hts hown hK hP tb_130 d_Clb_replaceCards_85 ?_
          refine lv_iload_n hx hb d_Clb_replaceCards_88 rfl (lv_at hl 0 rfl) ?_
          refine lv_bipush (v := 10) hx hb d_Clb_replaceCards_89 (by decide) ?_
          refine lv_imul hx hb d_Clb_replaceCards_91 ?_
          refine lv_iadd hx hb d_Clb_replaceCards_92 ?_
          refine pC_Acc_pool hx hb hts hown hK hP hD hS tb_130 d_Clb_replaceCards_93 (fun u6 H locs eu6 hP hD hS => ?_)
          have h := h u6 eu6
          refine lv_aload_n hx hb d_Clb_replaceCards_96 rfl (lv_at hl 2 rfl) ?_
          refine gC_Clb_cards hx hb hts hown hK hP tb_155 d_Clb_replaceCards_97 ?_
          refine gC_Crd_status hx hb hts hown hK hP tb_49 d_Clb_replaceCards_100 ?_
          refine lv_iload_n hx hb d_Clb_replaceCards_103 rfl (lv_at hl 3 rfl) ?_
          refine lv_iconst (v := 0) hx hb d_Clb_replaceCards_104 (by decide) ?_
          obtain ⟨hi, h⟩ := h
          refine sC_3 hx hb hK hP hD hS hi d_Clb_replaceCards_105 (fun u7 H locs eu7 hP hD hS => ?_)
          have h := h u7 eu7
          obtain ⟨x8, ex8⟩ : ∃ y : Int32, y = a1 + 1 := ⟨_, rfl⟩
          have h := h x8 ex8
          refine lv_iinc (v := x8) (lv' := [(1, .int x8), (3, .int x4), (2, .int 1), (0, .ref (ad 0))]) hx hb d_Clb_replaceCards_106 hl (k := 3) rfl (by rw [ex8]; rfl) (by decide) rfl (fun ls hl => ?_)
          refine lv_goto (tgt := 2) hx hb d_Clb_replaceCards_109 (by decide) ?_
          exact ih x8 u7 h _ _ _ hP hD hS (lv_sub hl [3, 0] rfl)
set_option maxHeartbeats 4000000 in
set_option maxRecDepth 100000 in
theorem c_Clb_replaceCards (l : Launch) (G : GG) (ad : Nat → Nat) (sz : Nat) (u : CS) (Post : CS → Prop) (h : wp_Clb_replaceCards u Post) : CMv l y_Clb_replaceCards b_Clb_replaceCards 4 0 G [.ref (ad 0)] sz (clubW G ad u) (clubW G ad) Post := by
  refine CMv.start (by decide) (Nat.le_of_ble_eq_true rfl) (fun p e s m below meth c A ls hx hb hr hts hown hml hlocks hA hS hP hD hK hl => ?_)
  unfold wp_Clb_replaceCards at h
  have hl : lv_has ls 4 [(0, .ref (ad 0))] := hl
  refine lv_iconst (v := 0) hx hb d_Clb_replaceCards_0 (by decide) ?_
  refine lv_istore_n (lv' := [(1, .int 0), (0, .ref (ad 0))]) hx hb d_Clb_replaceCards_1 rfl hl (by decide) rfl (fun ls hl => ?_)
  obtain ⟨n, h⟩ := h
  refine x_Clb_replaceCards_2 hx hb hr hts hown hml hlocks hA hK rfl (fun u9 h H locs ls hP hD hS hl => ?_) n 0 u h _ _ _ hP hD hS (lv_sub hl [1, 0] rfl)
  exact r_vret hx hb hr hlocks hP hD hS d_Clb_replaceCards_112 h
def wp_Clb_stickStamps (u : CS) (p1 : Int32) (p2 : Int32) (Post : Int32 → CS → Prop) : Prop := (wp_Crd_exists u p1 (fun x2 u1 => ((x2 = 0 → Post (-1) u1) ∧ (¬ x2 = 0 → ((p2 < 1 → Post (-1) u1) ∧ (¬ p2 < 1 → ((p2 ≤ 5 → (wp_Crd_isInHand u1 p1 (fun x4 u3 => ((x4 = 0 → Post (-2) u3) ∧ (¬ x4 = 0 → (wp_Crd_isGoodIn u3 p1 (u3.1 0) (fun x6 u5 => ((x6 = 0 → (wp_Crd_makeGood u5 p1 (u5.1 0) (fun u7 => (vp_in p1 12 ∧ (vp_in p1 12 ∧ (∀ u8 : CS, u8 = (cA u7 0 (upd (u7.2.1 0) p1.toNatClampNeg (((u7.2.1 0) p1.toNatClampNeg) + p2))) → (wp_Acc_takeIn u8 (p2 * 10) (fun u9 => (vp_in p1 12 ∧ Post ((u9.2.1 0) p1.toNatClampNeg) u9))))))))) ∧ (¬ x6 = 0 → Post (-2) u5))))))))) ∧ (¬ p2 ≤ 5 → Post (-1) u1))))))))
theorem ok_Clb_63 : CallOk y_Crd_exists b_Crd_exists 2 (some .boolean) 0 1 "HamperClub$Club" 63 := ⟨tb_321, tb_322, tb_323, tb_4, tb_324, by decide +kernel⟩
theorem ok_Clb_67 : CallOk y_Crd_isInHand b_Crd_isInHand 2 (some .boolean) 0 1 "HamperClub$Club" 67 := ⟨tb_325, tb_326, tb_327, tb_4, tb_328, by decide +kernel⟩
theorem ok_Clb_70 : CallOk y_Crd_isGoodIn b_Crd_isGoodIn 3 (some .boolean) 0 2 "HamperClub$Club" 70 := ⟨tb_329, tb_330, tb_331, tb_4, tb_332, by decide +kernel⟩
theorem ok_Clb_74 : CallOk y_Crd_makeGood b_Crd_makeGood 3 none 0 2 "HamperClub$Club" 74 := ⟨tb_333, tb_334, tb_335, tb_4, tb_336, by decide +kernel⟩
theorem ok_Clb_81 : CallOk y_Acc_takeIn b_Acc_takeIn 2 none 0 1 "HamperClub$Club" 81 := ⟨tb_337, tb_338, tb_339, tb_8, tb_340, by decide +kernel⟩
set_option maxHeartbeats 4000000 in
set_option maxRecDepth 100000 in
theorem c_Clb_stickStamps (l : Launch) (G : GG) (ad : Nat → Nat) (sz : Nat) (u : CS) (p1 : Int32) (p2 : Int32) (Post : Int32 → CS → Prop) (h : wp_Clb_stickStamps u p1 p2 Post) : CMi l y_Clb_stickStamps b_Clb_stickStamps 3 .int 1 G [.ref (ad 0), .int p1, .int p2] sz (clubW G ad u) (clubW G ad) Post := by
  refine CMi.start (by decide) (Nat.le_of_ble_eq_true rfl) (fun p e s m below meth c A ls hx hb hr hts hown hml hlocks hA hS hP hD hK hl => ?_)
  unfold wp_Clb_stickStamps at h
  have hl : lv_has ls 3 [(0, .ref (ad 0)), (1, .int p1), (2, .int p2)] := hl
  refine lv_aload_n hx hb d_Clb_stickStamps_0 rfl (lv_at hl 0 rfl) ?_
  refine gC_Clb_cards hx hb hts hown hK hP tb_155 d_Clb_stickStamps_1 ?_
  refine lv_iload_n hx hb d_Clb_stickStamps_4 rfl (lv_at hl 1 rfl) ?_
  refine call_Vi1 (own := "HamperClub$Club") (As := [.int p1]) (rest := []) (q0 := 1) (ci := 1) hx hb hml hts hown hK hA hP hD hS ok_Clb_63 rfl ⟨Nat.le_of_ble_eq_true rfl, Nat.le_of_ble_eq_true rfl⟩ ⟨Nat.le_of_ble_eq_true rfl, Nat.le_of_ble_eq_true rfl⟩ rfl rfl rfl hl.1 rfl (Nat.le_of_ble_eq_true rfl) d_Clb_stickStamps_5 (c_Crd_exists l G ad _ u p1 _ h) (fun x2 u1 H locs h hP hD hS => ?_)
  refine lv_if_eq (tgt := 21) hx hb d_Clb_stickStamps_8 (by decide) (fun hc => ?_) (fun hc => ?_)
  · have h := h.1 hc
    refine lv_iconst (v := (-1)) hx hb d_Clb_stickStamps_21 (by decide) ?_
    exact r_iret hx hb hr hlocks hP hD hS d_Clb_stickStamps_22 h
  · have h := h.2 hc
    refine lv_iload_n hx hb d_Clb_stickStamps_11 rfl (lv_at hl 2 rfl) ?_
    refine lv_iconst (v := 1) hx hb d_Clb_stickStamps_12 (by decide) ?_
    refine lv_icmp_lt (tgt := 21) hx hb d_Clb_stickStamps_13 (by decide) (fun hc => ?_) (fun hc => ?_)
    · have h := h.1 hc
      refine lv_iconst (v := (-1)) hx hb d_Clb_stickStamps_21 (by decide) ?_
      exact r_iret hx hb hr hlocks hP hD hS d_Clb_stickStamps_22 h
    · have h := h.2 hc
      refine lv_iload_n hx hb d_Clb_stickStamps_16 rfl (lv_at hl 2 rfl) ?_
      refine lv_iconst (v := 5) hx hb d_Clb_stickStamps_17 (by decide) ?_
      refine lv_icmp_le (tgt := 23) hx hb d_Clb_stickStamps_18 (by decide) (fun hc => ?_) (fun hc => ?_)
      · have h := h.1 hc
        refine lv_aload_n hx hb d_Clb_stickStamps_23 rfl (lv_at hl 0 rfl) ?_
        refine gC_Clb_cards hx hb hts hown hK hP tb_155 d_Clb_stickStamps_24 ?_
        refine lv_iload_n hx hb d_Clb_stickStamps_27 rfl (lv_at hl 1 rfl) ?_
        refine call_Vi1 (own := "HamperClub$Club") (As := [.int p1]) (rest := []) (q0 := 1) (ci := 1) hx hb hml hts hown hK hA hP hD hS ok_Clb_67 rfl ⟨Nat.le_of_ble_eq_true rfl, Nat.le_of_ble_eq_true rfl⟩ ⟨Nat.le_of_ble_eq_true rfl, Nat.le_of_ble_eq_true rfl⟩ rfl rfl rfl hl.1 rfl (Nat.le_of_ble_eq_true rfl) d_Clb_stickStamps_28 (c_Crd_isInHand l G ad _ u1 p1 _ h) (fun x4 u3 H locs h hP hD hS => ?_)
        refine lv_if_eq (tgt := 49) hx hb d_Clb_stickStamps_31 (by decide) (fun hc => ?_) (fun hc => ?_)
        · have h := h.1 hc
          refine lv_bipush (v := (-2)) hx hb d_Clb_stickStamps_49 (by decide) ?_
          exact r_iret hx hb hr hlocks hP hD hS d_Clb_stickStamps_51 h
        · have h := h.2 hc
          refine lv_aload_n hx hb d_Clb_stickStamps_34 rfl (lv_at hl 0 rfl) ?_
          refine gC_Clb_cards hx hb hts hown hK hP tb_155 d_Clb_stickStamps_35 ?_
          refine lv_iload_n hx hb d_Clb_stickStamps_38 rfl (lv_at hl 1 rfl) ?_
          refine lv_aload_n hx hb d_Clb_stickStamps_39 rfl (lv_at hl 0 rfl) ?_
          refine gC_Clb_week hx hb hts hown hK hP tb_148 d_Clb_stickStamps_40 ?_
          refine call_Vi1 (own := "HamperClub$Club") (As := [.int p1, .int (u3.1 0)]) (rest := []) (q0 := 1) (ci := 1) hx hb hml hts hown hK hA hP hD hS ok_Clb_70 rfl ⟨Nat.le_of_ble_eq_true rfl, Nat.le_of_ble_eq_true rfl⟩ ⟨Nat.le_of_ble_eq_true rfl, Nat.le_of_ble_eq_true rfl⟩ rfl rfl rfl hl.1 rfl (Nat.le_of_ble_eq_true rfl) d_Clb_stickStamps_43 (c_Crd_isGoodIn l G ad _ u3 p1 (u3.1 0) _ h) (fun x6 u5 H locs h hP hD hS => ?_)
          refine lv_if_eq (tgt := 52) hx hb d_Clb_stickStamps_46 (by decide) (fun hc => ?_) (fun hc => ?_)
          · have h := h.1 hc
            refine lv_aload_n hx hb d_Clb_stickStamps_52 rfl (lv_at hl 0 rfl) ?_
            refine gC_Clb_cards hx hb hts hown hK hP tb_155 d_Clb_stickStamps_53 ?_
            refine lv_iload_n hx hb d_Clb_stickStamps_56 rfl (lv_at hl 1 rfl) ?_
            refine lv_aload_n hx hb d_Clb_stickStamps_57 rfl (lv_at hl 0 rfl) ?_
            refine gC_Clb_week hx hb hts hown hK hP tb_148 d_Clb_stickStamps_58 ?_
            refine call_Vv1 (own := "HamperClub$Club") (As := [.int p1, .int (u5.1 0)]) (rest := []) (q0 := 1) (ci := 1) hx hb hml hts hown hK hA hP hD hS ok_Clb_74 rfl ⟨Nat.le_of_ble_eq_true rfl, Nat.le_of_ble_eq_true rfl⟩ ⟨Nat.le_of_ble_eq_true rfl, Nat.le_of_ble_eq_true rfl⟩ rfl rfl rfl hl.1 rfl (Nat.le_of_ble_eq_true rfl) d_Clb_stickStamps_61 (c_Crd_makeGood l G ad _ u5 p1 (u5.1 0) _ h) (fun u7 H locs h hP hD hS => ?_)
            refine lv_aload_n hx hb d_Clb_stickStamps_64 rfl (lv_at hl 0 rfl) ?_
            refine gC_Clb_cards hx hb hts hown hK hP tb_155 d_Clb_stickStamps_65 ?_
            refine gC_Crd_stamps hx hb hts hown hK hP tb_46 d_Clb_stickStamps_68 ?_
            refine lv_iload_n hx hb d_Clb_stickStamps_71 rfl (lv_at hl 1 rfl) ?_
            refine lv_dup2_11 hx hb d_Clb_stickStamps_72 rfl rfl ?_
            obtain ⟨hi, h⟩ := h
            refine lC_2 hx hb hK hP hi d_Clb_stickStamps_73 ?_
            refine lv_iload_n hx hb d_Clb_stickStamps_74 rfl (lv_at hl 2 rfl) ?_
            refine lv_iadd hx hb d_Clb_stickStamps_75 ?_
            obtain ⟨hi, h⟩ := h
            refine sC_2 hx hb hK hP hD hS hi d_Clb_stickStamps_76 (fun u8 H locs eu8 hP hD hS => ?_)
            have h := h u8 eu8
            refine lv_aload_n hx hb d_Clb_stickStamps_77 rfl (lv_at hl 0 rfl) ?_
            refine gC_Clb_accounts hx hb hts hown hK hP tb_159 d_Clb_stickStamps_78 ?_
            refine lv_iload_n hx hb d_Clb_stickStamps_81 rfl (lv_at hl 2 rfl) ?_
            refine lv_bipush (v := 10) hx hb d_Clb_stickStamps_82 (by decide) ?_
            refine lv_imul hx hb d_Clb_stickStamps_84 ?_
            refine call_Vv1 (own := "HamperClub$Club") (As := [.int (p2 * 10)]) (rest := []) (q0 := 16) (ci := 0) hx hb hml hts hown hK hA hP hD hS ok_Clb_81 rfl ⟨Nat.le_of_ble_eq_true rfl, Nat.le_of_ble_eq_true rfl⟩ ⟨Nat.le_of_ble_eq_true rfl, Nat.le_of_ble_eq_true rfl⟩ rfl rfl rfl hl.1 rfl (Nat.le_of_ble_eq_true rfl) d_Clb_stickStamps_85 (c_Acc_takeIn l G ad _ u8 (p2 * 10) _ h) (fun u9 H locs h hP hD hS => ?_)
            refine lv_aload_n hx hb d_Clb_stickStamps_88 rfl (lv_at hl 0 rfl) ?_
            refine gC_Clb_cards hx hb hts hown hK hP tb_155 d_Clb_stickStamps_89 ?_
            refine gC_Crd_stamps hx hb hts hown hK hP tb_46 d_Clb_stickStamps_92 ?_
            refine lv_iload_n hx hb d_Clb_stickStamps_95 rfl (lv_at hl 1 rfl) ?_
            obtain ⟨hi, h⟩ := h
            refine lC_2 hx hb hK hP hi d_Clb_stickStamps_96 ?_
            exact r_iret hx hb hr hlocks hP hD hS d_Clb_stickStamps_97 h
          · have h := h.2 hc
            refine lv_bipush (v := (-2)) hx hb d_Clb_stickStamps_49 (by decide) ?_
            exact r_iret hx hb hr hlocks hP hD hS d_Clb_stickStamps_51 h
      · have h := h.2 hc
        refine lv_iconst (v := (-1)) hx hb d_Clb_stickStamps_21 (by decide) ?_
        exact r_iret hx hb hr hlocks hP hD hS d_Clb_stickStamps_22 h
def wp_Clb_mislayCard (u : CS) (p1 : Int32) (Post : Int32 → CS → Prop) : Prop := (wp_Crd_exists u p1 (fun x2 u1 => ((x2 = 0 → Post (-1) u1) ∧ (¬ x2 = 0 → (wp_Crd_isInHand u1 p1 (fun x4 u3 => ((x4 = 0 → Post (-2) u3) ∧ (¬ x4 = 0 → (vp_in p1 12 ∧ (∀ u5 : CS, u5 = (cA u3 1 (upd (u3.2.1 1) p1.toNatClampNeg 1)) → (vp_in p1 12 ∧ (∀ u6 : CS, u6 = (cA u5 2 (upd (u5.2.1 2) p1.toNatClampNeg (u5.1 0))) → Post ((u6.1 0) + 3) u6))))))))))))
set_option maxHeartbeats 4000000 in
set_option maxRecDepth 100000 in
theorem c_Clb_mislayCard (l : Launch) (G : GG) (ad : Nat → Nat) (sz : Nat) (u : CS) (p1 : Int32) (Post : Int32 → CS → Prop) (h : wp_Clb_mislayCard u p1 Post) : CMi l y_Clb_mislayCard b_Clb_mislayCard 2 .int 1 G [.ref (ad 0), .int p1] sz (clubW G ad u) (clubW G ad) Post := by
  refine CMi.start (by decide) (Nat.le_of_ble_eq_true rfl) (fun p e s m below meth c A ls hx hb hr hts hown hml hlocks hA hS hP hD hK hl => ?_)
  unfold wp_Clb_mislayCard at h
  have hl : lv_has ls 2 [(0, .ref (ad 0)), (1, .int p1)] := hl
  refine lv_aload_n hx hb d_Clb_mislayCard_0 rfl (lv_at hl 0 rfl) ?_
  refine gC_Clb_cards hx hb hts hown hK hP tb_155 d_Clb_mislayCard_1 ?_
  refine lv_iload_n hx hb d_Clb_mislayCard_4 rfl (lv_at hl 1 rfl) ?_
  refine call_Vi1 (own := "HamperClub$Club") (As := [.int p1]) (rest := []) (q0 := 1) (ci := 1) hx hb hml hts hown hK hA hP hD hS ok_Clb_63 rfl ⟨Nat.le_of_ble_eq_true rfl, Nat.le_of_ble_eq_true rfl⟩ ⟨Nat.le_of_ble_eq_true rfl, Nat.le_of_ble_eq_true rfl⟩ rfl rfl rfl hl.1 rfl (Nat.le_of_ble_eq_true rfl) d_Clb_mislayCard_5 (c_Crd_exists l G ad _ u p1 _ h) (fun x2 u1 H locs h hP hD hS => ?_)
  refine lv_if_ne (tgt := 13) hx hb d_Clb_mislayCard_8 (by decide) (fun hc => ?_) (fun hc => ?_)
  · have h := h.2 hc
    refine lv_aload_n hx hb d_Clb_mislayCard_13 rfl (lv_at hl 0 rfl) ?_
    refine gC_Clb_cards hx hb hts hown hK hP tb_155 d_Clb_mislayCard_14 ?_
    refine lv_iload_n hx hb d_Clb_mislayCard_17 rfl (lv_at hl 1 rfl) ?_
    refine call_Vi1 (own := "HamperClub$Club") (As := [.int p1]) (rest := []) (q0 := 1) (ci := 1) hx hb hml hts hown hK hA hP hD hS ok_Clb_67 rfl ⟨Nat.le_of_ble_eq_true rfl, Nat.le_of_ble_eq_true rfl⟩ ⟨Nat.le_of_ble_eq_true rfl, Nat.le_of_ble_eq_true rfl⟩ rfl rfl rfl hl.1 rfl (Nat.le_of_ble_eq_true rfl) d_Clb_mislayCard_18 (c_Crd_isInHand l G ad _ u1 p1 _ h) (fun x4 u3 H locs h hP hD hS => ?_)
    refine lv_if_ne (tgt := 27) hx hb d_Clb_mislayCard_21 (by decide) (fun hc => ?_) (fun hc => ?_)
    · have h := h.2 hc
      refine lv_aload_n hx hb d_Clb_mislayCard_27 rfl (lv_at hl 0 rfl) ?_
      refine gC_Clb_cards hx hb hts hown hK hP tb_155 d_Clb_mislayCard_28 ?_
      refine gC_Crd_status hx hb hts hown hK hP tb_49 d_Clb_mislayCard_31 ?_
      refine lv_iload_n hx hb d_Clb_mislayCard_34 rfl (lv_at hl 1 rfl) ?_
      refine lv_iconst (v := 1) hx hb d_Clb_mislayCard_35 (by decide) ?_
      obtain ⟨hi, h⟩ := h
      refine sC_3 hx hb hK hP hD hS hi d_Clb_mislayCard_36 (fun u5 H locs eu5 hP hD hS => ?_)
      have h := h u5 eu5
      refine lv_aload_n hx hb d_Clb_mislayCard_37 rfl (lv_at hl 0 rfl) ?_
      refine gC_Clb_cards hx hb hts hown hK hP tb_155 d_Clb_mislayCard_38 ?_
      refine gC_Crd_mislaidIn hx hb hts hown hK hP tb_51 d_Clb_mislayCard_41 ?_
      refine lv_iload_n hx hb d_Clb_mislayCard_44 rfl (lv_at hl 1 rfl) ?_
      refine lv_aload_n hx hb d_Clb_mislayCard_45 rfl (lv_at hl 0 rfl) ?_
      refine gC_Clb_week hx hb hts hown hK hP tb_148 d_Clb_mislayCard_46 ?_
      obtain ⟨hi, h⟩ := h
      refine sC_4 hx hb hK hP hD hS hi d_Clb_mislayCard_49 (fun u6 H locs eu6 hP hD hS => ?_)
      have h := h u6 eu6
      refine lv_aload_n hx hb d_Clb_mislayCard_50 rfl (lv_at hl 0 rfl) ?_
      refine gC_Clb_week hx hb hts hown hK hP tb_148 d_Clb_mislayCard_51 ?_
      refine lv_iconst (v := 3) hx hb d_Clb_mislayCard_54 (by decide) ?_
      refine lv_iadd hx hb d_Clb_mislayCard_55 ?_
      exact r_iret hx hb hr hlocks hP hD hS d_Clb_mislayCard_56 h
    · have h := h.1 hc
      refine lv_bipush (v := (-2)) hx hb d_Clb_mislayCard_24 (by decide) ?_
      exact r_iret hx hb hr hlocks hP hD hS d_Clb_mislayCard_26 h
  · have h := h.1 hc
    refine lv_iconst (v := (-1)) hx hb d_Clb_mislayCard_11 (by decide) ?_
    exact r_iret hx hb hr hlocks hP hD hS d_Clb_mislayCard_12 h
def wp_Clb_findCard (u : CS) (p1 : Int32) (Post : Int32 → CS → Prop) : Prop := (wp_Crd_exists u p1 (fun x2 u1 => ((x2 = 0 → Post (-1) u1) ∧ (¬ x2 = 0 → (vp_in p1 12 ∧ ((((u1.2.1 1) p1.toNatClampNeg) = 1 → (vp_in p1 12 ∧ (∀ u3 : CS, u3 = (cA u1 1 (upd (u1.2.1 1) p1.toNatClampNeg 0)) → (vp_in p1 12 ∧ Post ((u3.1 0) - ((u3.2.1 2) p1.toNatClampNeg)) u3)))) ∧ (¬ ((u1.2.1 1) p1.toNatClampNeg) = 1 → Post (-2) u1)))))))
set_option maxHeartbeats 4000000 in
set_option maxRecDepth 100000 in
theorem c_Clb_findCard (l : Launch) (G : GG) (ad : Nat → Nat) (sz : Nat) (u : CS) (p1 : Int32) (Post : Int32 → CS → Prop) (h : wp_Clb_findCard u p1 Post) : CMi l y_Clb_findCard b_Clb_findCard 2 .int 1 G [.ref (ad 0), .int p1] sz (clubW G ad u) (clubW G ad) Post := by
  refine CMi.start (by decide) (Nat.le_of_ble_eq_true rfl) (fun p e s m below meth c A ls hx hb hr hts hown hml hlocks hA hS hP hD hK hl => ?_)
  unfold wp_Clb_findCard at h
  have hl : lv_has ls 2 [(0, .ref (ad 0)), (1, .int p1)] := hl
  refine lv_aload_n hx hb d_Clb_findCard_0 rfl (lv_at hl 0 rfl) ?_
  refine gC_Clb_cards hx hb hts hown hK hP tb_155 d_Clb_findCard_1 ?_
  refine lv_iload_n hx hb d_Clb_findCard_4 rfl (lv_at hl 1 rfl) ?_
  refine call_Vi1 (own := "HamperClub$Club") (As := [.int p1]) (rest := []) (q0 := 1) (ci := 1) hx hb hml hts hown hK hA hP hD hS ok_Clb_63 rfl ⟨Nat.le_of_ble_eq_true rfl, Nat.le_of_ble_eq_true rfl⟩ ⟨Nat.le_of_ble_eq_true rfl, Nat.le_of_ble_eq_true rfl⟩ rfl rfl rfl hl.1 rfl (Nat.le_of_ble_eq_true rfl) d_Clb_findCard_5 (c_Crd_exists l G ad _ u p1 _ h) (fun x2 u1 H locs h hP hD hS => ?_)
  refine lv_if_ne (tgt := 13) hx hb d_Clb_findCard_8 (by decide) (fun hc => ?_) (fun hc => ?_)
  · have h := h.2 hc
    refine lv_aload_n hx hb d_Clb_findCard_13 rfl (lv_at hl 0 rfl) ?_
    refine gC_Clb_cards hx hb hts hown hK hP tb_155 d_Clb_findCard_14 ?_
    refine gC_Crd_status hx hb hts hown hK hP tb_49 d_Clb_findCard_17 ?_
    refine lv_iload_n hx hb d_Clb_findCard_20 rfl (lv_at hl 1 rfl) ?_
    obtain ⟨hi, h⟩ := h
    refine lC_3 hx hb hK hP hi d_Clb_findCard_21 ?_
    refine lv_iconst (v := 1) hx hb d_Clb_findCard_22 (by decide) ?_
    refine lv_icmp_eq (tgt := 29) hx hb d_Clb_findCard_23 (by decide) (fun hc => ?_) (fun hc => ?_)
    · have h := h.1 hc
      refine lv_aload_n hx hb d_Clb_findCard_29 rfl (lv_at hl 0 rfl) ?_
      refine gC_Clb_cards hx hb hts hown hK hP tb_155 d_Clb_findCard_30 ?_
      refine gC_Crd_status hx hb hts hown hK hP tb_49 d_Clb_findCard_33 ?_
      refine lv_iload_n hx hb d_Clb_findCard_36 rfl (lv_at hl 1 rfl) ?_
      refine lv_iconst (v := 0) hx hb d_Clb_findCard_37 (by decide) ?_
      obtain ⟨hi, h⟩ := h
      refine sC_3 hx hb hK hP hD hS hi d_Clb_findCard_38 (fun u3 H locs eu3 hP hD hS => ?_)
      have h := h u3 eu3
      refine lv_aload_n hx hb d_Clb_findCard_39 rfl (lv_at hl 0 rfl) ?_
      refine gC_Clb_week hx hb hts hown hK hP tb_148 d_Clb_findCard_40 ?_
      refine lv_aload_n hx hb d_Clb_findCard_43 rfl (lv_at hl 0 rfl) ?_
      refine gC_Clb_cards hx hb hts hown hK hP tb_155 d_Clb_findCard_44 ?_
      refine gC_Crd_mislaidIn hx hb hts hown hK hP tb_51 d_Clb_findCard_47 ?_
      refine lv_iload_n hx hb d_Clb_findCard_50 rfl (lv_at hl 1 rfl) ?_
      obtain ⟨hi, h⟩ := h
      refine lC_4 hx hb hK hP hi d_Clb_findCard_51 ?_
      refine lv_isub hx hb d_Clb_findCard_52 ?_
      exact r_iret hx hb hr hlocks hP hD hS d_Clb_findCard_53 h
    · have h := h.2 hc
      refine lv_bipush (v := (-2)) hx hb d_Clb_findCard_26 (by decide) ?_
      exact r_iret hx hb hr hlocks hP hD hS d_Clb_findCard_28 h
  · have h := h.1 hc
    refine lv_iconst (v := (-1)) hx hb d_Clb_findCard_11 (by decide) ?_
    exact r_iret hx hb hr hlocks hP hD hS d_Clb_findCard_12 h
def wp_Clb_changeKind (u : CS) (p1 : Int32) (p2 : Int32) (p3 : Int32) (Post : Int32 → CS → Prop) : Prop := ((p2 < 1 → ((p3 < 0 → (((pf_Ham_isKind p1) = 0 → Post (-1) u) ∧ (¬ (pf_Ham_isKind p1) = 0 → Post (-1) u))) ∧ (¬ p3 < 0 → ((9 < p3 → (((pf_Ham_isKind p1) = 0 → Post (-1) u) ∧ (¬ (pf_Ham_isKind p1) = 0 → Post (-1) u))) ∧ (¬ 9 < p3 → (((pf_Ham_isKind p1) = 0 → Post (-1) u) ∧ (¬ (pf_Ham_isKind p1) = 0 → Post (-1) u))))))) ∧ (¬ p2 < 1 → ((200 < p2 → ((p3 < 0 → (((pf_Ham_isKind p1) = 0 → Post (-1) u) ∧ (¬ (pf_Ham_isKind p1) = 0 → Post (-1) u))) ∧ (¬ p3 < 0 → ((9 < p3 → (((pf_Ham_isKind p1) = 0 → Post (-1) u) ∧ (¬ (pf_Ham_isKind p1) = 0 → Post (-1) u))) ∧ (¬ 9 < p3 → (((pf_Ham_isKind p1) = 0 → Post (-1) u) ∧ (¬ (pf_Ham_isKind p1) = 0 → Post (-1) u))))))) ∧ (¬ 200 < p2 → ((p3 < 0 → (((pf_Ham_isKind p1) = 0 → Post (-1) u) ∧ (¬ (pf_Ham_isKind p1) = 0 → Post (-1) u))) ∧ (¬ p3 < 0 → ((9 < p3 → (((pf_Ham_isKind p1) = 0 → Post (-1) u) ∧ (¬ (pf_Ham_isKind p1) = 0 → Post (-1) u))) ∧ (¬ 9 < p3 → (((pf_Ham_isKind p1) = 0 → Post (-1) u) ∧ (¬ (pf_Ham_isKind p1) = 0 → (((u.1 1) = 0 → (vp_in p1 4 ∧ (∀ x1 : Int32, x1 = ((u.2.1 7) p1.toNatClampNeg) → (vp_in p1 4 ∧ (∀ u2 : CS, u2 = (cA u 7 (upd (u.2.1 7) p1.toNatClampNeg p2)) → (vp_in p1 4 ∧ (∀ u3 : CS, u3 = (cA u2 8 (upd (u2.2.1 8) p1.toNatClampNeg p3)) → Post x1 u3))))))) ∧ (¬ (u.1 1) = 0 → Post (-2) u))))))))))))
theorem so_Clb_106 : NsOk y_Ham_isKind b_Ham_isKind 1 (some .boolean) 1 "HamperClub$Club" 106 "HamperClub" := ⟨by decide +kernel, tb_350, tb_1, tb_351, by decide +kernel⟩
set_option maxHeartbeats 4000000 in
set_option maxRecDepth 100000 in
theorem c_Clb_changeKind (l : Launch) (G : GG) (ad : Nat → Nat) (sz : Nat) (u : CS) (p1 : Int32) (p2 : Int32) (p3 : Int32) (Post : Int32 → CS → Prop) (h : wp_Clb_changeKind u p1 p2 p3 Post) : CMi l y_Clb_changeKind b_Clb_changeKind 7 .int 1 G [.ref (ad 0), .int p1, .int p2, .int p3] sz (clubW G ad u) (clubW G ad) Post := by
  refine CMi.start (by decide) (Nat.le_of_ble_eq_true rfl) (fun p e s m below meth c A ls hx hb hr hts hown hml hlocks hA hS hP hD hK hl => ?_)
  unfold wp_Clb_changeKind at h
  have hl : lv_has ls 7 [(0, .ref (ad 0)), (1, .int p1), (2, .int p2), (3, .int p3)] := hl
  refine lv_iload_n hx hb d_Clb_changeKind_0 rfl (lv_at hl 2 rfl) ?_
  refine lv_iconst (v := 1) hx hb d_Clb_changeKind_1 (by decide) ?_
  refine lv_icmp_lt (tgt := 16) hx hb d_Clb_changeKind_2 (by decide) (fun hc => ?_) (fun hc => ?_)
  · have h := h.1 hc
    refine lv_iconst (v := 0) hx hb d_Clb_changeKind_16 (by decide) ?_
    refine lv_istore (lv' := [(4, .int 0), (0, .ref (ad 0)), (1, .int p1), (2, .int p2), (3, .int p3)]) hx hb d_Clb_changeKind_17 hl (by decide) rfl (fun ls hl => ?_)
    refine lv_iload_n hx hb d_Clb_changeKind_19 rfl (lv_at hl 4 rfl) ?_
    refine lv_if_lt (tgt := 33) hx hb d_Clb_changeKind_20 (by decide) (fun hc => ?_) (fun hc => ?_)
    · have h := h.1 hc
      refine lv_iconst (v := 0) hx hb d_Clb_changeKind_33 (by decide) ?_
      refine lv_istore (lv' := [(5, .int 0), (4, .int 0), (0, .ref (ad 0)), (1, .int p1), (2, .int p2), (3, .int p3)]) hx hb d_Clb_changeKind_34 hl (by decide) rfl (fun ls hl => ?_)
      refine lv_iload_n hx hb d_Clb_changeKind_36 rfl (lv_at hl 3 rfl) ?_
      refine call_SN (As := [.int p1]) (rest := []) hx hb hml hts hown hK so_Clb_106 rfl ⟨Nat.le_of_ble_eq_true rfl, Nat.le_of_ble_eq_true rfl⟩ ⟨Nat.le_of_ble_eq_true rfl, Nat.le_of_ble_eq_true rfl⟩ hl.1 rfl (Nat.le_of_ble_eq_true rfl) d_Clb_changeKind_37 (k_Ham_isKind l p1) ?_
      refine lv_if_eq (tgt := 53) hx hb d_Clb_changeKind_40 (by decide) (fun hc => ?_) (fun hc => ?_)
      · have h := h.1 hc
        refine lv_iconst (v := (-1)) hx hb d_Clb_changeKind_53 (by decide) ?_
        exact r_iret hx hb hr hlocks hP hD hS d_Clb_changeKind_54 h
      · have h := h.2 hc
        refine lv_iload hx hb d_Clb_changeKind_43 (lv_at hl 1 rfl) ?_
        refine lv_if_eq (tgt := 53) hx hb d_Clb_changeKind_45 (by decide) (fun _ => ?_) (fun hc => absurd hc (by decide))
        refine lv_iconst (v := (-1)) hx hb d_Clb_changeKind_53 (by decide) ?_
        exact r_iret hx hb hr hlocks hP hD hS d_Clb_changeKind_54 h
    · have h := h.2 hc
      refine lv_iload_n hx hb d_Clb_changeKind_23 rfl (lv_at hl 4 rfl) ?_
      refine lv_bipush (v := 9) hx hb d_Clb_changeKind_24 (by decide) ?_
      refine lv_icmp_gt (tgt := 33) hx hb d_Clb_changeKind_26 (by decide) (fun hc => ?_) (fun hc => ?_)
      · have h := h.1 hc
        refine lv_iconst (v := 0) hx hb d_Clb_changeKind_33 (by decide) ?_
        refine lv_istore (lv' := [(5, .int 0), (4, .int 0), (0, .ref (ad 0)), (1, .int p1), (2, .int p2), (3, .int p3)]) hx hb d_Clb_changeKind_34 hl (by decide) rfl (fun ls hl => ?_)
        refine lv_iload_n hx hb d_Clb_changeKind_36 rfl (lv_at hl 3 rfl) ?_
        refine call_SN (As := [.int p1]) (rest := []) hx hb hml hts hown hK so_Clb_106 rfl ⟨Nat.le_of_ble_eq_true rfl, Nat.le_of_ble_eq_true rfl⟩ ⟨Nat.le_of_ble_eq_true rfl, Nat.le_of_ble_eq_true rfl⟩ hl.1 rfl (Nat.le_of_ble_eq_true rfl) d_Clb_changeKind_37 (k_Ham_isKind l p1) ?_
        refine lv_if_eq (tgt := 53) hx hb d_Clb_changeKind_40 (by decide) (fun hc => ?_) (fun hc => ?_)
        · have h := h.1 hc
          refine lv_iconst (v := (-1)) hx hb d_Clb_changeKind_53 (by decide) ?_
          exact r_iret hx hb hr hlocks hP hD hS d_Clb_changeKind_54 h
        · have h := h.2 hc
          refine lv_iload hx hb d_Clb_changeKind_43 (lv_at hl 1 rfl) ?_
          refine lv_if_eq (tgt := 53) hx hb d_Clb_changeKind_45 (by decide) (fun _ => ?_) (fun hc => absurd hc (by decide))
          refine lv_iconst (v := (-1)) hx hb d_Clb_changeKind_53 (by decide) ?_
          exact r_iret hx hb hr hlocks hP hD hS d_Clb_changeKind_54 h
      · have h := h.2 hc
        refine lv_iconst (v := 1) hx hb d_Clb_changeKind_29 (by decide) ?_
        refine lv_goto (tgt := 34) hx hb d_Clb_changeKind_30 (by decide) ?_
        refine lv_istore (lv' := [(5, .int 1), (4, .int 0), (0, .ref (ad 0)), (1, .int p1), (2, .int p2), (3, .int p3)]) hx hb d_Clb_changeKind_34 hl (by decide) rfl (fun ls hl => ?_)
        refine lv_iload_n hx hb d_Clb_changeKind_36 rfl (lv_at hl 3 rfl) ?_
        refine call_SN (As := [.int p1]) (rest := []) hx hb hml hts hown hK so_Clb_106 rfl ⟨Nat.le_of_ble_eq_true rfl, Nat.le_of_ble_eq_true rfl⟩ ⟨Nat.le_of_ble_eq_true rfl, Nat.le_of_ble_eq_true rfl⟩ hl.1 rfl (Nat.le_of_ble_eq_true rfl) d_Clb_changeKind_37 (k_Ham_isKind l p1) ?_
        refine lv_if_eq (tgt := 53) hx hb d_Clb_changeKind_40 (by decide) (fun hc => ?_) (fun hc => ?_)
        · have h := h.1 hc
          refine lv_iconst (v := (-1)) hx hb d_Clb_changeKind_53 (by decide) ?_
          exact r_iret hx hb hr hlocks hP hD hS d_Clb_changeKind_54 h
        · have h := h.2 hc
          refine lv_iload hx hb d_Clb_changeKind_43 (lv_at hl 1 rfl) ?_
          refine lv_if_eq (tgt := 53) hx hb d_Clb_changeKind_45 (by decide) (fun _ => ?_) (fun hc => absurd hc (by decide))
          refine lv_iconst (v := (-1)) hx hb d_Clb_changeKind_53 (by decide) ?_
          exact r_iret hx hb hr hlocks hP hD hS d_Clb_changeKind_54 h
  · have h := h.2 hc
    refine lv_iload_n hx hb d_Clb_changeKind_5 rfl (lv_at hl 2 rfl) ?_
    refine lv_sipush (v := 200) hx hb d_Clb_changeKind_6 (by decide) ?_
    refine lv_icmp_gt (tgt := 16) hx hb d_Clb_changeKind_9 (by decide) (fun hc => ?_) (fun hc => ?_)
    · have h := h.1 hc
      refine lv_iconst (v := 0) hx hb d_Clb_changeKind_16 (by decide) ?_
      refine lv_istore (lv' := [(4, .int 0), (0, .ref (ad 0)), (1, .int p1), (2, .int p2), (3, .int p3)]) hx hb d_Clb_changeKind_17 hl (by decide) rfl (fun ls hl => ?_)
      refine lv_iload_n hx hb d_Clb_changeKind_19 rfl (lv_at hl 4 rfl) ?_
      refine lv_if_lt (tgt := 33) hx hb d_Clb_changeKind_20 (by decide) (fun hc => ?_) (fun hc => ?_)
      · have h := h.1 hc
        refine lv_iconst (v := 0) hx hb d_Clb_changeKind_33 (by decide) ?_
        refine lv_istore (lv' := [(5, .int 0), (4, .int 0), (0, .ref (ad 0)), (1, .int p1), (2, .int p2), (3, .int p3)]) hx hb d_Clb_changeKind_34 hl (by decide) rfl (fun ls hl => ?_)
        refine lv_iload_n hx hb d_Clb_changeKind_36 rfl (lv_at hl 3 rfl) ?_
        refine call_SN (As := [.int p1]) (rest := []) hx hb hml hts hown hK so_Clb_106 rfl ⟨Nat.le_of_ble_eq_true rfl, Nat.le_of_ble_eq_true rfl⟩ ⟨Nat.le_of_ble_eq_true rfl, Nat.le_of_ble_eq_true rfl⟩ hl.1 rfl (Nat.le_of_ble_eq_true rfl) d_Clb_changeKind_37 (k_Ham_isKind l p1) ?_
        refine lv_if_eq (tgt := 53) hx hb d_Clb_changeKind_40 (by decide) (fun hc => ?_) (fun hc => ?_)
        · have h := h.1 hc
          refine lv_iconst (v := (-1)) hx hb d_Clb_changeKind_53 (by decide) ?_
          exact r_iret hx hb hr hlocks hP hD hS d_Clb_changeKind_54 h
        · have h := h.2 hc
          refine lv_iload hx hb d_Clb_changeKind_43 (lv_at hl 1 rfl) ?_
          refine lv_if_eq (tgt := 53) hx hb d_Clb_changeKind_45 (by decide) (fun _ => ?_) (fun hc => absurd hc (by decide))
          refine lv_iconst (v := (-1)) hx hb d_Clb_changeKind_53 (by decide) ?_
          exact r_iret hx hb hr hlocks hP hD hS d_Clb_changeKind_54 h
      · have h := h.2 hc
        refine lv_iload_n hx hb d_Clb_changeKind_23 rfl (lv_at hl 4 rfl) ?_
        refine lv_bipush (v := 9) hx hb d_Clb_changeKind_24 (by decide) ?_
        refine lv_icmp_gt (tgt := 33) hx hb d_Clb_changeKind_26 (by decide) (fun hc => ?_) (fun hc => ?_)
        · have h := h.1 hc
          refine lv_iconst (v := 0) hx hb d_Clb_changeKind_33 (by decide) ?_
          refine lv_istore (lv' := [(5, .int 0), (4, .int 0), (0, .ref (ad 0)), (1, .int p1), (2, .int p2), (3, .int p3)]) hx hb d_Clb_changeKind_34 hl (by decide) rfl (fun ls hl => ?_)
          refine lv_iload_n hx hb d_Clb_changeKind_36 rfl (lv_at hl 3 rfl) ?_
          refine call_SN (As := [.int p1]) (rest := []) hx hb hml hts hown hK so_Clb_106 rfl ⟨Nat.le_of_ble_eq_true rfl, Nat.le_of_ble_eq_true rfl⟩ ⟨Nat.le_of_ble_eq_true rfl, Nat.le_of_ble_eq_true rfl⟩ hl.1 rfl (Nat.le_of_ble_eq_true rfl) d_Clb_changeKind_37 (k_Ham_isKind l p1) ?_
          refine lv_if_eq (tgt := 53) hx hb d_Clb_changeKind_40 (by decide) (fun hc => ?_) (fun hc => ?_)
          · have h := h.1 hc
            refine lv_iconst (v := (-1)) hx hb d_Clb_changeKind_53 (by decide) ?_
            exact r_iret hx hb hr hlocks hP hD hS d_Clb_changeKind_54 h
          · have h := h.2 hc
            refine lv_iload hx hb d_Clb_changeKind_43 (lv_at hl 1 rfl) ?_
            refine lv_if_eq (tgt := 53) hx hb d_Clb_changeKind_45 (by decide) (fun _ => ?_) (fun hc => absurd hc (by decide))
            refine lv_iconst (v := (-1)) hx hb d_Clb_changeKind_53 (by decide) ?_
            exact r_iret hx hb hr hlocks hP hD hS d_Clb_changeKind_54 h
        · have h := h.2 hc
          refine lv_iconst (v := 1) hx hb d_Clb_changeKind_29 (by decide) ?_
          refine lv_goto (tgt := 34) hx hb d_Clb_changeKind_30 (by decide) ?_
          refine lv_istore (lv' := [(5, .int 1), (4, .int 0), (0, .ref (ad 0)), (1, .int p1), (2, .int p2), (3, .int p3)]) hx hb d_Clb_changeKind_34 hl (by decide) rfl (fun ls hl => ?_)
          refine lv_iload_n hx hb d_Clb_changeKind_36 rfl (lv_at hl 3 rfl) ?_
          refine call_SN (As := [.int p1]) (rest := []) hx hb hml hts hown hK so_Clb_106 rfl ⟨Nat.le_of_ble_eq_true rfl, Nat.le_of_ble_eq_true rfl⟩ ⟨Nat.le_of_ble_eq_true rfl, Nat.le_of_ble_eq_true rfl⟩ hl.1 rfl (Nat.le_of_ble_eq_true rfl) d_Clb_changeKind_37 (k_Ham_isKind l p1) ?_
          refine lv_if_eq (tgt := 53) hx hb d_Clb_changeKind_40 (by decide) (fun hc => ?_) (fun hc => ?_)
          · have h := h.1 hc
            refine lv_iconst (v := (-1)) hx hb d_Clb_changeKind_53 (by decide) ?_
            exact r_iret hx hb hr hlocks hP hD hS d_Clb_changeKind_54 h
          · have h := h.2 hc
            refine lv_iload hx hb d_Clb_changeKind_43 (lv_at hl 1 rfl) ?_
            refine lv_if_eq (tgt := 53) hx hb d_Clb_changeKind_45 (by decide) (fun _ => ?_) (fun hc => absurd hc (by decide))
            refine lv_iconst (v := (-1)) hx hb d_Clb_changeKind_53 (by decide) ?_
            exact r_iret hx hb hr hlocks hP hD hS d_Clb_changeKind_54 h
    · have h := h.2 hc
      refine lv_iconst (v := 1) hx hb d_Clb_changeKind_12 (by decide) ?_
      refine lv_goto (tgt := 17) hx hb d_Clb_changeKind_13 (by decide) ?_
      refine lv_istore (lv' := [(4, .int 1), (0, .ref (ad 0)), (1, .int p1), (2, .int p2), (3, .int p3)]) hx hb d_Clb_changeKind_17 hl (by decide) rfl (fun ls hl => ?_)
      refine lv_iload_n hx hb d_Clb_changeKind_19 rfl (lv_at hl 4 rfl) ?_
      refine lv_if_lt (tgt := 33) hx hb d_Clb_changeKind_20 (by decide) (fun hc => ?_) (fun hc => ?_)
      · have h := h.1 hc
        refine lv_iconst (v := 0) hx hb d_Clb_changeKind_33 (by decide) ?_
        refine lv_istore (lv' := [(5, .int 0), (4, .int 1), (0, .ref (ad 0)), (1, .int p1), (2, .int p2), (3, .int p3)]) hx hb d_Clb_changeKind_34 hl (by decide) rfl (fun ls hl => ?_)
        refine lv_iload_n hx hb d_Clb_changeKind_36 rfl (lv_at hl 3 rfl) ?_
        refine call_SN (As := [.int p1]) (rest := []) hx hb hml hts hown hK so_Clb_106 rfl ⟨Nat.le_of_ble_eq_true rfl, Nat.le_of_ble_eq_true rfl⟩ ⟨Nat.le_of_ble_eq_true rfl, Nat.le_of_ble_eq_true rfl⟩ hl.1 rfl (Nat.le_of_ble_eq_true rfl) d_Clb_changeKind_37 (k_Ham_isKind l p1) ?_
        refine lv_if_eq (tgt := 53) hx hb d_Clb_changeKind_40 (by decide) (fun hc => ?_) (fun hc => ?_)
        · have h := h.1 hc
          refine lv_iconst (v := (-1)) hx hb d_Clb_changeKind_53 (by decide) ?_
          exact r_iret hx hb hr hlocks hP hD hS d_Clb_changeKind_54 h
        · have h := h.2 hc
          refine lv_iload hx hb d_Clb_changeKind_43 (lv_at hl 1 rfl) ?_
          refine lv_if_eq (tgt := 53) hx hb d_Clb_changeKind_45 (by decide) (fun hc => absurd hc (by decide)) (fun _ => ?_)
          refine lv_iload hx hb d_Clb_changeKind_48 (lv_at hl 0 rfl) ?_
          refine lv_if_ne (tgt := 55) hx hb d_Clb_changeKind_50 (by decide) (fun hc => absurd hc (by decide)) (fun _ => ?_)
          refine lv_iconst (v := (-1)) hx hb d_Clb_changeKind_53 (by decide) ?_
          exact r_iret hx hb hr hlocks hP hD hS d_Clb_changeKind_54 h
      · have h := h.2 hc
        refine lv_iload_n hx hb d_Clb_changeKind_23 rfl (lv_at hl 4 rfl) ?_
        refine lv_bipush (v := 9) hx hb d_Clb_changeKind_24 (by decide) ?_
        refine lv_icmp_gt (tgt := 33) hx hb d_Clb_changeKind_26 (by decide) (fun hc => ?_) (fun hc => ?_)
        · have h := h.1 hc
          refine lv_iconst (v := 0) hx hb d_Clb_changeKind_33 (by decide) ?_
          refine lv_istore (lv' := [(5, .int 0), (4, .int 1), (0, .ref (ad 0)), (1, .int p1), (2, .int p2), (3, .int p3)]) hx hb d_Clb_changeKind_34 hl (by decide) rfl (fun ls hl => ?_)
          refine lv_iload_n hx hb d_Clb_changeKind_36 rfl (lv_at hl 3 rfl) ?_
          refine call_SN (As := [.int p1]) (rest := []) hx hb hml hts hown hK so_Clb_106 rfl ⟨Nat.le_of_ble_eq_true rfl, Nat.le_of_ble_eq_true rfl⟩ ⟨Nat.le_of_ble_eq_true rfl, Nat.le_of_ble_eq_true rfl⟩ hl.1 rfl (Nat.le_of_ble_eq_true rfl) d_Clb_changeKind_37 (k_Ham_isKind l p1) ?_
          refine lv_if_eq (tgt := 53) hx hb d_Clb_changeKind_40 (by decide) (fun hc => ?_) (fun hc => ?_)
          · have h := h.1 hc
            refine lv_iconst (v := (-1)) hx hb d_Clb_changeKind_53 (by decide) ?_
            exact r_iret hx hb hr hlocks hP hD hS d_Clb_changeKind_54 h
          · have h := h.2 hc
            refine lv_iload hx hb d_Clb_changeKind_43 (lv_at hl 1 rfl) ?_
            refine lv_if_eq (tgt := 53) hx hb d_Clb_changeKind_45 (by decide) (fun hc => absurd hc (by decide)) (fun _ => ?_)
            refine lv_iload hx hb d_Clb_changeKind_48 (lv_at hl 0 rfl) ?_
            refine lv_if_ne (tgt := 55) hx hb d_Clb_changeKind_50 (by decide) (fun hc => absurd hc (by decide)) (fun _ => ?_)
            refine lv_iconst (v := (-1)) hx hb d_Clb_changeKind_53 (by decide) ?_
            exact r_iret hx hb hr hlocks hP hD hS d_Clb_changeKind_54 h
        · have h := h.2 hc
          refine lv_iconst (v := 1) hx hb d_Clb_changeKind_29 (by decide) ?_
          refine lv_goto (tgt := 34) hx hb d_Clb_changeKind_30 (by decide) ?_
          refine lv_istore (lv' := [(5, .int 1), (4, .int 1), (0, .ref (ad 0)), (1, .int p1), (2, .int p2), (3, .int p3)]) hx hb d_Clb_changeKind_34 hl (by decide) rfl (fun ls hl => ?_)
          refine lv_iload_n hx hb d_Clb_changeKind_36 rfl (lv_at hl 3 rfl) ?_
          refine call_SN (As := [.int p1]) (rest := []) hx hb hml hts hown hK so_Clb_106 rfl ⟨Nat.le_of_ble_eq_true rfl, Nat.le_of_ble_eq_true rfl⟩ ⟨Nat.le_of_ble_eq_true rfl, Nat.le_of_ble_eq_true rfl⟩ hl.1 rfl (Nat.le_of_ble_eq_true rfl) d_Clb_changeKind_37 (k_Ham_isKind l p1) ?_
          refine lv_if_eq (tgt := 53) hx hb d_Clb_changeKind_40 (by decide) (fun hc => ?_) (fun hc => ?_)
          · have h := h.1 hc
            refine lv_iconst (v := (-1)) hx hb d_Clb_changeKind_53 (by decide) ?_
            exact r_iret hx hb hr hlocks hP hD hS d_Clb_changeKind_54 h
          · have h := h.2 hc
            refine lv_iload hx hb d_Clb_changeKind_43 (lv_at hl 1 rfl) ?_
            refine lv_if_eq (tgt := 53) hx hb d_Clb_changeKind_45 (by decide) (fun hc => absurd hc (by decide)) (fun _ => ?_)
            refine lv_iload hx hb d_Clb_changeKind_48 (lv_at hl 0 rfl) ?_
            refine lv_if_ne (tgt := 55) hx hb d_Clb_changeKind_50 (by decide) (fun _ => ?_) (fun hc => absurd hc (by decide))
            refine lv_aload_n hx hb d_Clb_changeKind_55 rfl (lv_at hl 2 rfl) ?_
            refine gC_Clb_settled hx hb hts hown hK hP tb_151 d_Clb_changeKind_56 ?_
            refine lv_if_eq (tgt := 65) hx hb d_Clb_changeKind_59 (by decide) (fun hc => ?_) (fun hc => ?_)
            · have h := h.1 hc
              refine lv_aload_n hx hb d_Clb_changeKind_65 rfl (lv_at hl 2 rfl) ?_
              refine gC_Clb_hampers hx hb hts hown hK hP tb_157 d_Clb_changeKind_66 ?_
              refine gC_Hmp_price hx hb hts hown hK hP tb_99 d_Clb_changeKind_69 ?_
              refine lv_iload_n hx hb d_Clb_changeKind_72 rfl (lv_at hl 3 rfl) ?_
              obtain ⟨hi, h⟩ := h
              refine lC_11 hx hb hK hP hi d_Clb_changeKind_73 ?_
              refine lv_topi (fun x1 ex1 => ?_)
              have h := h x1 ex1
              refine lv_istore (lv' := [(6, .int x1), (5, .int 1), (4, .int 1), (0, .ref (ad 0)), (1, .int p1), (2, .int p2), (3, .int p3)]) hx hb d_Clb_changeKind_74 hl (by decide) rfl (fun ls hl => ?_)
              refine lv_aload_n hx hb d_Clb_changeKind_76 rfl (lv_at hl 3 rfl) ?_
              refine gC_Clb_hampers hx hb hts hown hK hP tb_157 d_Clb_changeKind_77 ?_
              refine gC_Hmp_price hx hb hts hown hK hP tb_99 d_Clb_changeKind_80 ?_
              refine lv_iload_n hx hb d_Clb_changeKind_83 rfl (lv_at hl 4 rfl) ?_
              refine lv_iload_n hx hb d_Clb_changeKind_84 rfl (lv_at hl 5 rfl) ?_
              obtain ⟨hi, h⟩ := h
              refine sC_11 hx hb hK hP hD hS hi d_Clb_changeKind_85 (fun u2 H locs eu2 hP hD hS => ?_)
              have h := h u2 eu2
              refine lv_aload_n hx hb d_Clb_changeKind_86 rfl (lv_at hl 3 rfl) ?_
              refine gC_Clb_hampers hx hb hts hown hK hP tb_157 d_Clb_changeKind_87 ?_
              refine gC_Hmp_stock hx hb hts hown hK hP tb_102 d_Clb_changeKind_90 ?_
              refine lv_iload_n hx hb d_Clb_changeKind_93 rfl (lv_at hl 4 rfl) ?_
              refine lv_iload_n hx hb d_Clb_changeKind_94 rfl (lv_at hl 6 rfl) ?_
              obtain ⟨hi, h⟩ := h
              refine sC_12 hx hb hK hP hD hS hi d_Clb_changeKind_95 (fun u3 H locs eu3 hP hD hS => ?_)
              have h := h u3 eu3
              refine lv_iload hx hb d_Clb_changeKind_96 (lv_at hl 0 rfl) ?_
              exact r_iret hx hb hr hlocks hP hD hS d_Clb_changeKind_98 h
            · have h := h.2 hc
              refine lv_bipush (v := (-2)) hx hb d_Clb_changeKind_62 (by decide) ?_
              exact r_iret hx hb hr hlocks hP hD hS d_Clb_changeKind_64 h
def wp_Clb_payMember (u : CS) (p1 : Int32) (p2 : Int32) (Post : CS → Prop) : Prop := (wp_Acc_payOut u p2 (fun u1 => (vp_in p1 12 ∧ (vp_in p1 12 ∧ (∀ u2 : CS, u2 = (cA u1 4 (upd (u1.2.1 4) p1.toNatClampNeg (((u1.2.1 4) p1.toNatClampNeg) + p2))) → Post u2)))))
theorem ok_Clb_162 : CallOk y_Acc_payOut b_Acc_payOut 2 none 0 1 "HamperClub$Club" 162 := ⟨tb_503, tb_504, tb_505, tb_8, tb_506, by decide +kernel⟩
set_option maxHeartbeats 4000000 in
set_option maxRecDepth 100000 in
theorem c_Clb_payMember (l : Launch) (G : GG) (ad : Nat → Nat) (sz : Nat) (u : CS) (p1 : Int32) (p2 : Int32) (Post : CS → Prop) (h : wp_Clb_payMember u p1 p2 Post) : CMv l y_Clb_payMember b_Clb_payMember 3 1 G [.ref (ad 0), .int p1, .int p2] sz (clubW G ad u) (clubW G ad) Post := by
  refine CMv.start (by decide) (Nat.le_of_ble_eq_true rfl) (fun p e s m below meth c A ls hx hb hr hts hown hml hlocks hA hS hP hD hK hl => ?_)
  unfold wp_Clb_payMember at h
  have hl : lv_has ls 3 [(0, .ref (ad 0)), (1, .int p1), (2, .int p2)] := hl
  refine lv_aload_n hx hb d_Clb_payMember_0 rfl (lv_at hl 0 rfl) ?_
  refine gC_Clb_accounts hx hb hts hown hK hP tb_159 d_Clb_payMember_1 ?_
  refine lv_iload_n hx hb d_Clb_payMember_4 rfl (lv_at hl 2 rfl) ?_
  refine call_Vv1 (own := "HamperClub$Club") (As := [.int p2]) (rest := []) (q0 := 16) (ci := 0) hx hb hml hts hown hK hA hP hD hS ok_Clb_162 rfl ⟨Nat.le_of_ble_eq_true rfl, Nat.le_of_ble_eq_true rfl⟩ ⟨Nat.le_of_ble_eq_true rfl, Nat.le_of_ble_eq_true rfl⟩ rfl rfl rfl hl.1 rfl (Nat.le_of_ble_eq_true rfl) d_Clb_payMember_5 (c_Acc_payOut l G ad _ u p2 _ h) (fun u1 H locs h hP hD hS => ?_)
  refine lv_aload_n hx hb d_Clb_payMember_8 rfl (lv_at hl 0 rfl) ?_
  refine gC_Clb_cards hx hb hts hown hK hP tb_155 d_Clb_payMember_9 ?_
  refine gC_Crd_paid hx hb hts hown hK hP tb_55 d_Clb_payMember_12 ?_
  refine lv_iload_n hx hb d_Clb_payMember_15 rfl (lv_at hl 1 rfl) ?_
  refine lv_dup2_11 hx hb d_Clb_payMember_16 rfl rfl ?_
  obtain ⟨hi, h⟩ := h
  refine lC_6 hx hb hK hP hi d_Clb_payMember_17 ?_
  refine lv_iload_n hx hb d_Clb_payMember_18 rfl (lv_at hl 2 rfl) ?_
  refine lv_iadd hx hb d_Clb_payMember_19 ?_
  obtain ⟨hi, h⟩ := h
  refine sC_6 hx hb hK hP hD hS hi d_Clb_payMember_20 (fun u2 H locs eu2 hP hD hS => ?_)
  have h := h u2 eu2
  exact r_vret hx hb hr hlocks hP hD hS d_Clb_payMember_21 h
def wp_Clb_tell (u : CS) (p1 : Int32) (Post : Int32 → CS → Prop) : Prop := ((p1 = 0 → Post (u.1 0) u) ∧ (p1 = 1 → Post (u.1 4) u) ∧ (p1 = 2 → (((u.1 1) = 0 → Post 0 u) ∧ (¬ (u.1 1) = 0 → Post 1 u))) ∧ (p1 = 3 → Post (u.1 5) u) ∧ (p1 = 4 → Post (u.1 6) u) ∧ (p1 = 5 → (wp_Crd_allStamps u  (fun x2 u1 => Post x2 u1))) ∧ (p1 = 6 → Post (u.1 7) u) ∧ (p1 = 7 → Post (u.1 8) u) ∧ (p1 = 8 → Post (u.1 9) u) ∧ (p1 = 9 → Post (u.1 2) u) ∧ (p1 = 10 → (wp_Crd_mislaidCards u  (fun x4 u3 => Post x4 u3))) ∧ (p1 = 11 → (wp_Crd_drawnMembers u  (fun x6 u5 => Post x6 u5))) ∧ (p1 = 12 → Post (u.1 3) u) ∧ (¬ p1 = 0 → ¬ p1 = 1 → ¬ p1 = 2 → ¬ p1 = 3 → ¬ p1 = 4 → ¬ p1 = 5 → ¬ p1 = 6 → ¬ p1 = 7 → ¬ p1 = 8 → ¬ p1 = 9 → ¬ p1 = 10 → ¬ p1 = 11 → ¬ p1 = 12 → Post (-1) u))
theorem ok_Clb_171 : CallOk y_Crd_allStamps b_Crd_allStamps 3 (some .int) 0 0 "HamperClub$Club" 171 := ⟨tb_440, tb_441, tb_442, tb_4, tb_443, by decide +kernel⟩
theorem ok_Clb_183 : CallOk y_Crd_mislaidCards b_Crd_mislaidCards 3 (some .int) 0 0 "HamperClub$Club" 183 := ⟨tb_444, tb_445, tb_446, tb_4, tb_447, by decide +kernel⟩
theorem ok_Clb_186 : CallOk y_Crd_drawnMembers b_Crd_drawnMembers 3 (some .int) 0 0 "HamperClub$Club" 186 := ⟨tb_448, tb_449, tb_450, tb_4, tb_451, by decide +kernel⟩
set_option maxHeartbeats 4000000 in
set_option maxRecDepth 100000 in
theorem c_Clb_tell (l : Launch) (G : GG) (ad : Nat → Nat) (sz : Nat) (u : CS) (p1 : Int32) (Post : Int32 → CS → Prop) (h : wp_Clb_tell u p1 Post) : CMi l y_Clb_tell b_Clb_tell 2 .int 1 G [.ref (ad 0), .int p1] sz (clubW G ad u) (clubW G ad) Post := by
  refine CMi.start (by decide) (Nat.le_of_ble_eq_true rfl) (fun p e s m below meth c A ls hx hb hr hts hown hml hlocks hA hS hP hD hK hl => ?_)
  unfold wp_Clb_tell at h
  have hl : lv_has ls 2 [(0, .ref (ad 0)), (1, .int p1)] := hl
  refine lv_iload_n hx hb d_Clb_tell_0 rfl (lv_at hl 1 rfl) ?_
  by_cases hc0 : p1 = 0
  · have h := h.1 hc0
    refine lv_tableIn (off := 67) (tgt := 68) hx hb d_Clb_tell_1 (by rw [hc0]; decide) (by rw [hc0]; decide) (by rw [hc0]; rfl) (by decide) ?_
    refine lv_aload_n hx hb d_Clb_tell_68 rfl (lv_at hl 0 rfl) ?_
    refine gC_Clb_week hx hb hts hown hK hP tb_148 d_Clb_tell_69 ?_
    exact r_iret hx hb hr hlocks hP hD hS d_Clb_tell_72 h
  by_cases hc1 : p1 = 1
  · have h := h.2.1 hc1
    refine lv_tableIn (off := 72) (tgt := 73) hx hb d_Clb_tell_1 (by rw [hc1]; decide) (by rw [hc1]; decide) (by rw [hc1]; rfl) (by decide) ?_
    refine lv_aload_n hx hb d_Clb_tell_73 rfl (lv_at hl 0 rfl) ?_
    refine gC_Clb_cards hx hb hts hown hK hP tb_155 d_Clb_tell_74 ?_
    refine gC_Crd_count hx hb hts hown hK hP tb_44 d_Clb_tell_77 ?_
    exact r_iret hx hb hr hlocks hP hD hS d_Clb_tell_80 h
  by_cases hc2 : p1 = 2
  · have h := h.2.2.1 hc2
    refine lv_tableIn (off := 80) (tgt := 81) hx hb d_Clb_tell_1 (by rw [hc2]; decide) (by rw [hc2]; decide) (by rw [hc2]; rfl) (by decide) ?_
    refine lv_aload_n hx hb d_Clb_tell_81 rfl (lv_at hl 0 rfl) ?_
    refine gC_Clb_settled hx hb hts hown hK hP tb_151 d_Clb_tell_82 ?_
    refine lv_if_eq (tgt := 92) hx hb d_Clb_tell_85 (by decide) (fun hc => ?_) (fun hc => ?_)
    · have h := h.1 hc
      refine lv_iconst (v := 0) hx hb d_Clb_tell_92 (by decide) ?_
      exact r_iret hx hb hr hlocks hP hD hS d_Clb_tell_93 h
    · have h := h.2 hc
      refine lv_iconst (v := 1) hx hb d_Clb_tell_88 (by decide) ?_
      refine lv_goto (tgt := 93) hx hb d_Clb_tell_89 (by decide) ?_
      exact r_iret hx hb hr hlocks hP hD hS d_Clb_tell_93 h
  by_cases hc3 : p1 = 3
  · have h := h.2.2.2.1 hc3
    refine lv_tableIn (off := 93) (tgt := 94) hx hb d_Clb_tell_1 (by rw [hc3]; decide) (by rw [hc3]; decide) (by rw [hc3]; rfl) (by decide) ?_
    refine lv_aload_n hx hb d_Clb_tell_94 rfl (lv_at hl 0 rfl) ?_
    refine gC_Clb_accounts hx hb hts hown hK hP tb_159 d_Clb_tell_95 ?_
    refine gC_Acc_tin hx hb hts hown hK hP tb_128 d_Clb_tell_98 ?_
    exact r_iret hx hb hr hlocks hP hD hS d_Clb_tell_101 h
  by_cases hc4 : p1 = 4
  · have h := h.2.2.2.2.1 hc4
    refine lv_tableIn (off := 101) (tgt := 102) hx hb d_Clb_tell_1 (by rw [hc4]; decide) (by rw [hc4]; decide) (by rw [hc4]; rfl) (by decide) ?_
    refine lv_aload_n hx hb d_Clb_tell_102 rfl (lv_at hl 0 rfl) ?_
    refine gC_Clb_accounts hx hb hts hown hK hP tb_159 d_Clb_tell_103 ?_
    refine gC_Acc_pool hx hb hts hown hK hP tb_130 d_Clb_tell_106 ?_
    exact r_iret hx hb hr hlocks hP hD hS d_Clb_tell_109 h
  by_cases hc5 : p1 = 5
  · have h := h.2.2.2.2.2.1 hc5
    refine lv_tableIn (off := 109) (tgt := 110) hx hb d_Clb_tell_1 (by rw [hc5]; decide) (by rw [hc5]; decide) (by rw [hc5]; rfl) (by decide) ?_
    refine lv_aload_n hx hb d_Clb_tell_110 rfl (lv_at hl 0 rfl) ?_
    refine gC_Clb_cards hx hb hts hown hK hP tb_155 d_Clb_tell_111 ?_
    refine call_Vi1 (own := "HamperClub$Club") (As := []) (rest := []) (q0 := 1) (ci := 1) hx hb hml hts hown hK hA hP hD hS ok_Clb_171 rfl ⟨Nat.le_of_ble_eq_true rfl, Nat.le_of_ble_eq_true rfl⟩ ⟨Nat.le_of_ble_eq_true rfl, Nat.le_of_ble_eq_true rfl⟩ rfl rfl rfl hl.1 rfl (Nat.le_of_ble_eq_true rfl) d_Clb_tell_114 (c_Crd_allStamps l G ad _ u  _ h) (fun x2 u1 H locs h hP hD hS => ?_)
    exact r_iret hx hb hr hlocks hP hD hS d_Clb_tell_117 h
  by_cases hc6 : p1 = 6
  · have h := h.2.2.2.2.2.2.1 hc6
    refine lv_tableIn (off := 117) (tgt := 118) hx hb d_Clb_tell_1 (by rw [hc6]; decide) (by rw [hc6]; decide) (by rw [hc6]; rfl) (by decide) ?_
    refine lv_aload_n hx hb d_Clb_tell_118 rfl (lv_at hl 0 rfl) ?_
    refine gC_Clb_accounts hx hb hts hown hK hP tb_159 d_Clb_tell_119 ?_
    refine gC_Acc_cameIn hx hb hts hown hK hP tb_132 d_Clb_tell_122 ?_
    exact r_iret hx hb hr hlocks hP hD hS d_Clb_tell_125 h
  by_cases hc7 : p1 = 7
  · have h := h.2.2.2.2.2.2.2.1 hc7
    refine lv_tableIn (off := 125) (tgt := 126) hx hb d_Clb_tell_1 (by rw [hc7]; decide) (by rw [hc7]; decide) (by rw [hc7]; rfl) (by decide) ?_
    refine lv_aload_n hx hb d_Clb_tell_126 rfl (lv_at hl 0 rfl) ?_
    refine gC_Clb_accounts hx hb hts hown hK hP tb_159 d_Clb_tell_127 ?_
    refine gC_Acc_paidOut hx hb hts hown hK hP tb_134 d_Clb_tell_130 ?_
    exact r_iret hx hb hr hlocks hP hD hS d_Clb_tell_133 h
  by_cases hc8 : p1 = 8
  · have h := h.2.2.2.2.2.2.2.2.1 hc8
    refine lv_tableIn (off := 133) (tgt := 134) hx hb d_Clb_tell_1 (by rw [hc8]; decide) (by rw [hc8]; decide) (by rw [hc8]; rfl) (by decide) ?_
    refine lv_aload_n hx hb d_Clb_tell_134 rfl (lv_at hl 0 rfl) ?_
    refine gC_Clb_accounts hx hb hts hown hK hP tb_159 d_Clb_tell_135 ?_
    refine gC_Acc_toShop hx hb hts hown hK hP tb_136 d_Clb_tell_138 ?_
    exact r_iret hx hb hr hlocks hP hD hS d_Clb_tell_141 h
  by_cases hc9 : p1 = 9
  · have h := h.2.2.2.2.2.2.2.2.2.1 hc9
    refine lv_tableIn (off := 141) (tgt := 142) hx hb d_Clb_tell_1 (by rw [hc9]; decide) (by rw [hc9]; decide) (by rw [hc9]; rfl) (by decide) ?_
    refine lv_aload_n hx hb d_Clb_tell_142 rfl (lv_at hl 0 rfl) ?_
    refine gC_Clb_handedOut hx hb hts hown hK hP tb_153 d_Clb_tell_143 ?_
    exact r_iret hx hb hr hlocks hP hD hS d_Clb_tell_146 h
  by_cases hc10 : p1 = 10
  · have h := h.2.2.2.2.2.2.2.2.2.2.1 hc10
    refine lv_tableIn (off := 146) (tgt := 147) hx hb d_Clb_tell_1 (by rw [hc10]; decide) (by rw [hc10]; decide) (by rw [hc10]; rfl) (by decide) ?_
    refine lv_aload_n hx hb d_Clb_tell_147 rfl (lv_at hl 0 rfl) ?_
    refine gC_Clb_cards hx hb hts hown hK hP tb_155 d_Clb_tell_148 ?_
    refine call_Vi1 (own := "HamperClub$Club") (As := []) (rest := []) (q0 := 1) (ci := 1) hx hb hml hts hown hK hA hP hD hS ok_Clb_183 rfl ⟨Nat.le_of_ble_eq_true rfl, Nat.le_of_ble_eq_true rfl⟩ ⟨Nat.le_of_ble_eq_true rfl, Nat.le_of_ble_eq_true rfl⟩ rfl rfl rfl hl.1 rfl (Nat.le_of_ble_eq_true rfl) d_Clb_tell_151 (c_Crd_mislaidCards l G ad _ u  _ h) (fun x4 u3 H locs h hP hD hS => ?_)
    exact r_iret hx hb hr hlocks hP hD hS d_Clb_tell_154 h
  by_cases hc11 : p1 = 11
  · have h := h.2.2.2.2.2.2.2.2.2.2.2.1 hc11
    refine lv_tableIn (off := 154) (tgt := 155) hx hb d_Clb_tell_1 (by rw [hc11]; decide) (by rw [hc11]; decide) (by rw [hc11]; rfl) (by decide) ?_
    refine lv_aload_n hx hb d_Clb_tell_155 rfl (lv_at hl 0 rfl) ?_
    refine gC_Clb_cards hx hb hts hown hK hP tb_155 d_Clb_tell_156 ?_
    refine call_Vi1 (own := "HamperClub$Club") (As := []) (rest := []) (q0 := 1) (ci := 1) hx hb hml hts hown hK hA hP hD hS ok_Clb_186 rfl ⟨Nat.le_of_ble_eq_true rfl, Nat.le_of_ble_eq_true rfl⟩ ⟨Nat.le_of_ble_eq_true rfl, Nat.le_of_ble_eq_true rfl⟩ rfl rfl rfl hl.1 rfl (Nat.le_of_ble_eq_true rfl) d_Clb_tell_159 (c_Crd_drawnMembers l G ad _ u  _ h) (fun x6 u5 H locs h hP hD hS => ?_)
    exact r_iret hx hb hr hlocks hP hD hS d_Clb_tell_162 h
  by_cases hc12 : p1 = 12
  · have h := h.2.2.2.2.2.2.2.2.2.2.2.2.1 hc12
    refine lv_tableIn (off := 162) (tgt := 163) hx hb d_Clb_tell_1 (by rw [hc12]; decide) (by rw [hc12]; decide) (by rw [hc12]; rfl) (by decide) ?_
    refine lv_aload_n hx hb d_Clb_tell_163 rfl (lv_at hl 0 rfl) ?_
    refine gC_Clb_lapses hx hb hts hown hK hP tb_154 d_Clb_tell_164 ?_
    exact r_iret hx hb hr hlocks hP hD hS d_Clb_tell_167 h
  have h := h.2.2.2.2.2.2.2.2.2.2.2.2.2
  have h := h hc0
  have h := h hc1
  have h := h hc2
  have h := h hc3
  have h := h hc4
  have h := h hc5
  have h := h hc6
  have h := h hc7
  have h := h hc8
  have h := h hc9
  have h := h hc10
  have h := h hc11
  have h := h hc12
  refine lv_tableOut (tgt := 168) hx hb d_Clb_tell_1 (tb_out (lo := 0) (n := 12) (by decide) (fun k hk => by rcases (show k = 0 ∨ k = 1 ∨ k = 2 ∨ k = 3 ∨ k = 4 ∨ k = 5 ∨ k = 6 ∨ k = 7 ∨ k = 8 ∨ k = 9 ∨ k = 10 ∨ k = 11 ∨ k = 12 by omega) with rfl | rfl | rfl | rfl | rfl | rfl | rfl | rfl | rfl | rfl | rfl | rfl | rfl <;> first | exact hc0 | exact hc1 | exact hc2 | exact hc3 | exact hc4 | exact hc5 | exact hc6 | exact hc7 | exact hc8 | exact hc9 | exact hc10 | exact hc11 | exact hc12)) (by decide) ?_
  refine lv_iconst (v := (-1)) hx hb d_Clb_tell_168 (by decide) ?_
  exact r_iret hx hb hr hlocks hP hD hS d_Clb_tell_169 h
def wp_Clb_withdrawStamps (u : CS) (p1 : Int32) (p2 : Int32) (Post : Int32 → CS → Prop) : Prop := (wp_Crd_exists u p1 (fun x2 u1 => ((x2 = 0 → Post (-1) u1) ∧ (¬ x2 = 0 → ((p2 < 1 → Post (-1) u1) ∧ (¬ p2 < 1 → ((p2 ≤ 999 → (wp_Crd_isInHand u1 p1 (fun x4 u3 => ((x4 = 0 → Post (-2) u3) ∧ (¬ x4 = 0 → (vp_in p1 12 ∧ ((p2 ≤ ((u3.2.1 0) p1.toNatClampNeg) → (∀ x5 : Int32, x5 = (p2 * 10) → (∀ x6 : Int32, x6 = (if x5 < (p2 + 5) then x5 else (p2 + 5)) → (vp_in p1 12 ∧ (vp_in p1 12 ∧ (∀ u7 : CS, u7 = (cA u3 0 (upd (u3.2.1 0) p1.toNatClampNeg (((u3.2.1 0) p1.toNatClampNeg) - p2))) → (vp_in p1 12 ∧ (∀ u8 : CS, u8 = (cA u7 5 (upd (u7.2.1 5) p1.toNatClampNeg 1)) → (∀ u9 : CS, u9 = (cS u8 6 ((u8.1 6) + x6)) → (wp_Clb_payMember u9 p1 (x5 - x6) (fun u10 => Post (x5 - x6) u10))))))))))) ∧ (¬ p2 ≤ ((u3.2.1 0) p1.toNatClampNeg) → Post (-2) u3)))))))) ∧ (¬ p2 ≤ 999 → Post (-1) u1))))))))
theorem ok_Clb_97 : CallOk y_Clb_payMember b_Clb_payMember 3 none 1 2 "HamperClub$Club" 97 := ⟨tb_499, tb_501, sl_3, tb_3, tb_502, by decide +kernel⟩
set_option maxHeartbeats 4000000 in
set_option maxRecDepth 100000 in
theorem c_Clb_withdrawStamps (l : Launch) (G : GG) (ad : Nat → Nat) (sz : Nat) (u : CS) (p1 : Int32) (p2 : Int32) (Post : Int32 → CS → Prop) (h : wp_Clb_withdrawStamps u p1 p2 Post) : CMi l y_Clb_withdrawStamps b_Clb_withdrawStamps 5 .int 2 G [.ref (ad 0), .int p1, .int p2] sz (clubW G ad u) (clubW G ad) Post := by
  refine CMi.start (by decide) (Nat.le_of_ble_eq_true rfl) (fun p e s m below meth c A ls hx hb hr hts hown hml hlocks hA hS hP hD hK hl => ?_)
  unfold wp_Clb_withdrawStamps at h
  have hl : lv_has ls 5 [(0, .ref (ad 0)), (1, .int p1), (2, .int p2)] := hl
  refine lv_aload_n hx hb d_Clb_withdrawStamps_0 rfl (lv_at hl 0 rfl) ?_
  refine gC_Clb_cards hx hb hts hown hK hP tb_155 d_Clb_withdrawStamps_1 ?_
  refine lv_iload_n hx hb d_Clb_withdrawStamps_4 rfl (lv_at hl 1 rfl) ?_
  refine call_Vi1 (own := "HamperClub$Club") (As := [.int p1]) (rest := []) (q0 := 1) (ci := 1) hx hb hml hts hown hK hA hP hD hS ok_Clb_63 rfl ⟨Nat.le_of_ble_eq_true rfl, Nat.le_of_ble_eq_true rfl⟩ ⟨Nat.le_of_ble_eq_true rfl, Nat.le_of_ble_eq_true rfl⟩ rfl rfl rfl hl.1 rfl (Nat.le_of_ble_eq_true rfl) d_Clb_withdrawStamps_5 (c_Crd_exists l G ad _ u p1 _ h) (fun x2 u1 H locs h hP hD hS => ?_)
  refine lv_if_eq (tgt := 23) hx hb d_Clb_withdrawStamps_8 (by decide) (fun hc => ?_) (fun hc => ?_)
  · have h := h.1 hc
    refine lv_iconst (v := (-1)) hx hb d_Clb_withdrawStamps_23 (by decide) ?_
    exact r_iret hx hb hr hlocks hP hD hS d_Clb_withdrawStamps_24 h
  · have h := h.2 hc
    refine lv_iload_n hx hb d_Clb_withdrawStamps_11 rfl (lv_at hl 2 rfl) ?_
    refine lv_iconst (v := 1) hx hb d_Clb_withdrawStamps_12 (by decide) ?_
    refine lv_icmp_lt (tgt := 23) hx hb d_Clb_withdrawStamps_13 (by decide) (fun hc => ?_) (fun hc => ?_)
    · have h := h.1 hc
      refine lv_iconst (v := (-1)) hx hb d_Clb_withdrawStamps_23 (by decide) ?_
      exact r_iret hx hb hr hlocks hP hD hS d_Clb_withdrawStamps_24 h
    · have h := h.2 hc
      refine lv_iload_n hx hb d_Clb_withdrawStamps_16 rfl (lv_at hl 2 rfl) ?_
      refine lv_sipush (v := 999) hx hb d_Clb_withdrawStamps_17 (by decide) ?_
      refine lv_icmp_le (tgt := 25) hx hb d_Clb_withdrawStamps_20 (by decide) (fun hc => ?_) (fun hc => ?_)
      · have h := h.1 hc
        refine lv_aload_n hx hb d_Clb_withdrawStamps_25 rfl (lv_at hl 0 rfl) ?_
        refine gC_Clb_cards hx hb hts hown hK hP tb_155 d_Clb_withdrawStamps_26 ?_
        refine lv_iload_n hx hb d_Clb_withdrawStamps_29 rfl (lv_at hl 1 rfl) ?_
        refine call_Vi1 (own := "HamperClub$Club") (As := [.int p1]) (rest := []) (q0 := 1) (ci := 1) hx hb hml hts hown hK hA hP hD hS ok_Clb_67 rfl ⟨Nat.le_of_ble_eq_true rfl, Nat.le_of_ble_eq_true rfl⟩ ⟨Nat.le_of_ble_eq_true rfl, Nat.le_of_ble_eq_true rfl⟩ rfl rfl rfl hl.1 rfl (Nat.le_of_ble_eq_true rfl) d_Clb_withdrawStamps_30 (c_Crd_isInHand l G ad _ u1 p1 _ h) (fun x4 u3 H locs h hP hD hS => ?_)
        refine lv_if_eq (tgt := 49) hx hb d_Clb_withdrawStamps_33 (by decide) (fun hc => ?_) (fun hc => ?_)
        · have h := h.1 hc
          refine lv_bipush (v := (-2)) hx hb d_Clb_withdrawStamps_49 (by decide) ?_
          exact r_iret hx hb hr hlocks hP hD hS d_Clb_withdrawStamps_51 h
        · have h := h.2 hc
          refine lv_aload_n hx hb d_Clb_withdrawStamps_36 rfl (lv_at hl 0 rfl) ?_
          refine gC_Clb_cards hx hb hts hown hK hP tb_155 d_Clb_withdrawStamps_37 ?_
          refine gC_Crd_stamps hx hb hts hown hK hP tb_46 d_Clb_withdrawStamps_40 ?_
          refine lv_iload_n hx hb d_Clb_withdrawStamps_43 rfl (lv_at hl 1 rfl) ?_
          obtain ⟨hi, h⟩ := h
          refine lC_2 hx hb hK hP hi d_Clb_withdrawStamps_44 ?_
          refine lv_iload_n hx hb d_Clb_withdrawStamps_45 rfl (lv_at hl 2 rfl) ?_
          refine lv_icmp_ge (tgt := 52) hx hb d_Clb_withdrawStamps_46 (by decide) (fun hc => ?_) (fun hc => ?_)
          · have h := h.1 hc
            refine lv_iload_n hx hb d_Clb_withdrawStamps_52 rfl (lv_at hl 2 rfl) ?_
            refine lv_bipush (v := 10) hx hb d_Clb_withdrawStamps_53 (by decide) ?_
            refine lv_imul hx hb d_Clb_withdrawStamps_55 ?_
            refine lv_topi (fun x5 ex5 => ?_)
            have h := h x5 ex5
            refine lv_istore_n (lv' := [(3, .int x5), (0, .ref (ad 0)), (1, .int p1), (2, .int p2)]) hx hb d_Clb_withdrawStamps_56 rfl hl (by decide) rfl (fun ls hl => ?_)
            refine lv_iload_n hx hb d_Clb_withdrawStamps_57 rfl (lv_at hl 3 rfl) ?_
            refine lv_iconst (v := 5) hx hb d_Clb_withdrawStamps_58 (by decide) ?_
            refine lv_iadd hx hb d_Clb_withdrawStamps_59 ?_
            refine lv_iload_n hx hb d_Clb_withdrawStamps_60 rfl (lv_at hl 0 rfl) ?_
            refine va_mmin hx hb (hml.trans hl.1.symm) hown (hts _ tb_597) (hts _ tb_311) (hts _ tb_12) (hts _ tb_312) (Nat.le_of_ble_eq_true rfl) (Nat.le_of_ble_eq_true rfl) (Nat.le_of_ble_eq_true rfl) (Nat.le_of_ble_eq_true rfl) d_Clb_withdrawStamps_61 ?_
            refine lv_topi (fun x6 ex6 => ?_)
            have h := h x6 ex6
            refine lv_istore (lv' := [(4, .int x6), (3, .int x5), (0, .ref (ad 0)), (1, .int p1), (2, .int p2)]) hx hb d_Clb_withdrawStamps_64 hl (by decide) rfl (fun ls hl => ?_)
            refine lv_aload_n hx hb d_Clb_withdrawStamps_66 rfl (lv_at hl 2 rfl) ?_
            refine gC_Clb_cards hx hb hts hown hK hP tb_155 d_Clb_withdrawStamps_67 ?_
            refine gC_Crd_stamps hx hb hts hown hK hP tb_46 d_Clb_withdrawStamps_70 ?_
            refine lv_iload_n hx hb d_Clb_withdrawStamps_73 rfl (lv_at hl 3 rfl) ?_
            refine lv_dup2_11 hx hb d_Clb_withdrawStamps_74 rfl rfl ?_
            obtain ⟨hi, h⟩ := h
            refine lC_2 hx hb hK hP hi d_Clb_withdrawStamps_75 ?_
            refine lv_iload_n hx hb d_Clb_withdrawStamps_76 rfl (lv_at hl 4 rfl) ?_
            refine lv_isub hx hb d_Clb_withdrawStamps_77 ?_
            obtain ⟨hi, h⟩ := h
            refine sC_2 hx hb hK hP hD hS hi d_Clb_withdrawStamps_78 (fun u7 H locs eu7 hP hD hS => ?_)
            have h := h u7 eu7
            refine lv_aload_n hx hb d_Clb_withdrawStamps_79 rfl (lv_at hl 2 rfl) ?_
            refine gC_Clb_cards hx hb hts hown hK hP tb_155 d_Clb_withdrawStamps_80 ?_
            refine gC_Crd_drawn hx hb hts hown hK hP tb_58 d_Clb_withdrawStamps_83 ?_
            refine lv_iload_n hx hb d_Clb_withdrawStamps_86 rfl (lv_at hl 3 rfl) ?_
            refine lv_iconst (v := 1) hx hb d_Clb_withdrawStamps_87 (by decide) ?_
            obtain ⟨hi, h⟩ := h
            refine sC_7 hx hb hK hP hD hS hi d_Clb_withdrawStamps_88 (fun u8 H locs eu8 hP hD hS => ?_)
            have h := h u8 eu8
            refine lv_aload_n hx hb d_Clb_withdrawStamps_89 rfl (lv_at hl 2 rfl) ?_
            refine gC_Clb_accounts hx hb hts hown hK hP tb_159 d_Clb_withdrawStamps_90 ?_
            refine lv_dup hx hb d_Clb_withdrawStamps_93 rfl ?_
            refine gC_Acc_pool hx hb hts hown hK hP tb_130 d_Clb_withdrawStamps_94 ?_
            refine lv_iload hx hb d_Clb_withdrawStamps_97 (lv_at hl 0 rfl) ?_
            refine lv_iadd hx hb d_Clb_withdrawStamps_99 ?_
            refine pC_Acc_pool hx hb hts hown hK hP hD hS tb_130 d_Clb_withdrawStamps_100 (fun u9 H locs eu9 hP hD hS => ?_)
            have h := h u9 eu9
            refine lv_aload_n hx hb d_Clb_withdrawStamps_103 rfl (lv_at hl 2 rfl) ?_
            refine lv_iload_n hx hb d_Clb_withdrawStamps_104 rfl (lv_at hl 3 rfl) ?_
            refine lv_iload_n hx hb d_Clb_withdrawStamps_105 rfl (lv_at hl 1 rfl) ?_
            refine lv_iload hx hb d_Clb_withdrawStamps_106 (lv_at hl 0 rfl) ?_
            refine lv_isub hx hb d_Clb_withdrawStamps_108 ?_
            refine call_Vv1 (own := "HamperClub$Club") (As := [.int p1, .int (x5 - x6)]) (rest := []) (q0 := 0) (ci := 2) hx hb hml hts hown hK hA hP hD hS ok_Clb_97 rfl ⟨Nat.le_of_ble_eq_true rfl, Nat.le_of_ble_eq_true rfl⟩ ⟨Nat.le_of_ble_eq_true rfl, Nat.le_of_ble_eq_true rfl⟩ rfl rfl rfl hl.1 rfl (Nat.le_of_ble_eq_true rfl) d_Clb_withdrawStamps_109 (c_Clb_payMember l G ad _ u9 p1 (x5 - x6) _ h) (fun u10 H locs h hP hD hS => ?_)
            refine lv_iload_n hx hb d_Clb_withdrawStamps_112 rfl (lv_at hl 1 rfl) ?_
            refine lv_iload hx hb d_Clb_withdrawStamps_113 (lv_at hl 0 rfl) ?_
            refine lv_isub hx hb d_Clb_withdrawStamps_115 ?_
            exact r_iret hx hb hr hlocks hP hD hS d_Clb_withdrawStamps_116 h
          · have h := h.2 hc
            refine lv_bipush (v := (-2)) hx hb d_Clb_withdrawStamps_49 (by decide) ?_
            exact r_iret hx hb hr hlocks hP hD hS d_Clb_withdrawStamps_51 h
      · have h := h.2 hc
        refine lv_iconst (v := (-1)) hx hb d_Clb_withdrawStamps_23 (by decide) ?_
        exact r_iret hx hb hr hlocks hP hD hS d_Clb_withdrawStamps_24 h
def wp_Clb_chooseKind (u : CS) (p1 : Int32) (p2 : Int32) (Post : Int32 → CS → Prop) : Prop := (wp_Crd_exists u p1 (fun x2 u1 => ((x2 = 0 → Post (-1) u1) ∧ (¬ x2 = 0 → (((pf_Ham_isKind p2) = 0 → Post (-1) u1) ∧ (¬ (pf_Ham_isKind p2) = 0 → (vp_in p1 12 ∧ (∀ x3 : Int32, x3 = ((u1.2.1 9) p1.toNatClampNeg) → (((u1.1 1) = 0 → ((x3 = p2 → Post (-2) u1) ∧ (¬ x3 = p2 → (((pf_Ham_isKind x3) = 0 → (wp_Hmp_put u1 p1 p2 (fun x5 u4 => Post x5 u4))) ∧ (¬ (pf_Ham_isKind x3) = 0 → (wp_Hmp_drop u1 p1 x3 (fun x7 u6 => (wp_Hmp_put u6 p1 p2 (fun x9 u8 => Post x9 u8))))))))) ∧ (¬ (u1.1 1) = 0 → Post (-2) u1))))))))))
theorem ok_Clb_121 : CallOk y_Hmp_put b_Hmp_put 4 (some .int) 1 2 "HamperClub$Club" 121 := ⟨tb_368, tb_369, tb_370, tb_6, tb_371, by decide +kernel⟩
theorem ok_Clb_118 : CallOk y_Hmp_drop b_Hmp_drop 6 (some .int) 1 2 "HamperClub$Club" 118 := ⟨tb_360, tb_361, tb_362, tb_6, tb_363, by decide +kernel⟩
set_option maxHeartbeats 4000000 in
set_option maxRecDepth 100000 in
theorem c_Clb_chooseKind (l : Launch) (G : GG) (ad : Nat → Nat) (sz : Nat) (u : CS) (p1 : Int32) (p2 : Int32) (Post : Int32 → CS → Prop) (h : wp_Clb_chooseKind u p1 p2 Post) : CMi l y_Clb_chooseKind b_Clb_chooseKind 4 .int 2 G [.ref (ad 0), .int p1, .int p2] sz (clubW G ad u) (clubW G ad) Post := by
  refine CMi.start (by decide) (Nat.le_of_ble_eq_true rfl) (fun p e s m below meth c A ls hx hb hr hts hown hml hlocks hA hS hP hD hK hl => ?_)
  unfold wp_Clb_chooseKind at h
  have hl : lv_has ls 4 [(0, .ref (ad 0)), (1, .int p1), (2, .int p2)] := hl
  refine lv_aload_n hx hb d_Clb_chooseKind_0 rfl (lv_at hl 0 rfl) ?_
  refine gC_Clb_cards hx hb hts hown hK hP tb_155 d_Clb_chooseKind_1 ?_
  refine lv_iload_n hx hb d_Clb_chooseKind_4 rfl (lv_at hl 1 rfl) ?_
  refine call_Vi1 (own := "HamperClub$Club") (As := [.int p1]) (rest := []) (q0 := 1) (ci := 1) hx hb hml hts hown hK hA hP hD hS ok_Clb_63 rfl ⟨Nat.le_of_ble_eq_true rfl, Nat.le_of_ble_eq_true rfl⟩ ⟨Nat.le_of_ble_eq_true rfl, Nat.le_of_ble_eq_true rfl⟩ rfl rfl rfl hl.1 rfl (Nat.le_of_ble_eq_true rfl) d_Clb_chooseKind_5 (c_Crd_exists l G ad _ u p1 _ h) (fun x2 u1 H locs h hP hD hS => ?_)
  refine lv_if_eq (tgt := 18) hx hb d_Clb_chooseKind_8 (by decide) (fun hc => ?_) (fun hc => ?_)
  · have h := h.1 hc
    refine lv_iconst (v := (-1)) hx hb d_Clb_chooseKind_18 (by decide) ?_
    exact r_iret hx hb hr hlocks hP hD hS d_Clb_chooseKind_19 h
  · have h := h.2 hc
    refine lv_iload_n hx hb d_Clb_chooseKind_11 rfl (lv_at hl 2 rfl) ?_
    refine call_SN (As := [.int p2]) (rest := []) hx hb hml hts hown hK so_Clb_106 rfl ⟨Nat.le_of_ble_eq_true rfl, Nat.le_of_ble_eq_true rfl⟩ ⟨Nat.le_of_ble_eq_true rfl, Nat.le_of_ble_eq_true rfl⟩ hl.1 rfl (Nat.le_of_ble_eq_true rfl) d_Clb_chooseKind_12 (k_Ham_isKind l p2) ?_
    refine lv_if_ne (tgt := 20) hx hb d_Clb_chooseKind_15 (by decide) (fun hc => ?_) (fun hc => ?_)
    · have h := h.2 hc
      refine lv_aload_n hx hb d_Clb_chooseKind_20 rfl (lv_at hl 0 rfl) ?_
      refine gC_Clb_hampers hx hb hts hown hK hP tb_157 d_Clb_chooseKind_21 ?_
      refine gC_Hmp_choice hx hb hts hown hK hP tb_104 d_Clb_chooseKind_24 ?_
      refine lv_iload_n hx hb d_Clb_chooseKind_27 rfl (lv_at hl 1 rfl) ?_
      obtain ⟨hi, h⟩ := h
      refine lC_13 hx hb hK hP hi d_Clb_chooseKind_28 ?_
      refine lv_topi (fun x3 ex3 => ?_)
      have h := h x3 ex3
      refine lv_istore_n (lv' := [(3, .int x3), (0, .ref (ad 0)), (1, .int p1), (2, .int p2)]) hx hb d_Clb_chooseKind_29 rfl hl (by decide) rfl (fun ls hl => ?_)
      refine lv_aload_n hx hb d_Clb_chooseKind_30 rfl (lv_at hl 1 rfl) ?_
      refine gC_Clb_settled hx hb hts hown hK hP tb_151 d_Clb_chooseKind_31 ?_
      refine lv_if_ne (tgt := 42) hx hb d_Clb_chooseKind_34 (by decide) (fun hc => ?_) (fun hc => ?_)
      · have h := h.2 hc
        refine lv_bipush (v := (-2)) hx hb d_Clb_chooseKind_42 (by decide) ?_
        exact r_iret hx hb hr hlocks hP hD hS d_Clb_chooseKind_44 h
      · have h := h.1 hc
        refine lv_iload_n hx hb d_Clb_chooseKind_37 rfl (lv_at hl 0 rfl) ?_
        refine lv_iload_n hx hb d_Clb_chooseKind_38 rfl (lv_at hl 3 rfl) ?_
        refine lv_icmp_ne (tgt := 45) hx hb d_Clb_chooseKind_39 (by decide) (fun hc => ?_) (fun hc => ?_)
        · have h := h.2 hc
          refine lv_iload_n hx hb d_Clb_chooseKind_45 rfl (lv_at hl 0 rfl) ?_
          refine call_SN (As := [.int x3]) (rest := []) hx hb hml hts hown hK so_Clb_106 rfl ⟨Nat.le_of_ble_eq_true rfl, Nat.le_of_ble_eq_true rfl⟩ ⟨Nat.le_of_ble_eq_true rfl, Nat.le_of_ble_eq_true rfl⟩ hl.1 rfl (Nat.le_of_ble_eq_true rfl) d_Clb_chooseKind_46 (k_Ham_isKind l x3) ?_
          refine lv_if_eq (tgt := 62) hx hb d_Clb_chooseKind_49 (by decide) (fun hc => ?_) (fun hc => ?_)
          · have h := h.1 hc
            refine lv_aload_n hx hb d_Clb_chooseKind_62 rfl (lv_at hl 1 rfl) ?_
            refine gC_Clb_hampers hx hb hts hown hK hP tb_157 d_Clb_chooseKind_63 ?_
            refine lv_iload_n hx hb d_Clb_chooseKind_66 rfl (lv_at hl 2 rfl) ?_
            refine lv_iload_n hx hb d_Clb_chooseKind_67 rfl (lv_at hl 3 rfl) ?_
            refine call_Vi1 (own := "HamperClub$Club") (As := [.int p1, .int p2]) (rest := []) (q0 := 10) (ci := 3) hx hb hml hts hown hK hA hP hD hS ok_Clb_121 rfl ⟨Nat.le_of_ble_eq_true rfl, Nat.le_of_ble_eq_true rfl⟩ ⟨Nat.le_of_ble_eq_true rfl, Nat.le_of_ble_eq_true rfl⟩ rfl rfl rfl hl.1 rfl (Nat.le_of_ble_eq_true rfl) d_Clb_chooseKind_68 (c_Hmp_put l G ad _ u1 p1 p2 _ h) (fun x5 u4 H locs h hP hD hS => ?_)
            exact r_iret hx hb hr hlocks hP hD hS d_Clb_chooseKind_71 h
          · have h := h.2 hc
            refine lv_aload_n hx hb d_Clb_chooseKind_52 rfl (lv_at hl 1 rfl) ?_
            refine gC_Clb_hampers hx hb hts hown hK hP tb_157 d_Clb_chooseKind_53 ?_
            refine lv_iload_n hx hb d_Clb_chooseKind_56 rfl (lv_at hl 2 rfl) ?_
            refine lv_iload_n hx hb d_Clb_chooseKind_57 rfl (lv_at hl 0 rfl) ?_
            refine call_Vi1 (own := "HamperClub$Club") (As := [.int p1, .int x3]) (rest := []) (q0 := 10) (ci := 3) hx hb hml hts hown hK hA hP hD hS ok_Clb_118 rfl ⟨Nat.le_of_ble_eq_true rfl, Nat.le_of_ble_eq_true rfl⟩ ⟨Nat.le_of_ble_eq_true rfl, Nat.le_of_ble_eq_true rfl⟩ rfl rfl rfl hl.1 rfl (Nat.le_of_ble_eq_true rfl) d_Clb_chooseKind_58 (c_Hmp_drop l G ad _ u1 p1 x3 _ h) (fun x7 u6 H locs h hP hD hS => ?_)
            refine lv_pop hx hb d_Clb_chooseKind_61 rfl ?_
            refine lv_aload_n hx hb d_Clb_chooseKind_62 rfl (lv_at hl 1 rfl) ?_
            refine gC_Clb_hampers hx hb hts hown hK hP tb_157 d_Clb_chooseKind_63 ?_
            refine lv_iload_n hx hb d_Clb_chooseKind_66 rfl (lv_at hl 2 rfl) ?_
            refine lv_iload_n hx hb d_Clb_chooseKind_67 rfl (lv_at hl 3 rfl) ?_
            refine call_Vi1 (own := "HamperClub$Club") (As := [.int p1, .int p2]) (rest := []) (q0 := 10) (ci := 3) hx hb hml hts hown hK hA hP hD hS ok_Clb_121 rfl ⟨Nat.le_of_ble_eq_true rfl, Nat.le_of_ble_eq_true rfl⟩ ⟨Nat.le_of_ble_eq_true rfl, Nat.le_of_ble_eq_true rfl⟩ rfl rfl rfl hl.1 rfl (Nat.le_of_ble_eq_true rfl) d_Clb_chooseKind_68 (c_Hmp_put l G ad _ u6 p1 p2 _ h) (fun x9 u8 H locs h hP hD hS => ?_)
            exact r_iret hx hb hr hlocks hP hD hS d_Clb_chooseKind_71 h
        · have h := h.1 hc
          refine lv_bipush (v := (-2)) hx hb d_Clb_chooseKind_42 (by decide) ?_
          exact r_iret hx hb hr hlocks hP hD hS d_Clb_chooseKind_44 h
    · have h := h.1 hc
      refine lv_iconst (v := (-1)) hx hb d_Clb_chooseKind_18 (by decide) ?_
      exact r_iret hx hb hr hlocks hP hD hS d_Clb_chooseKind_19 h
def wp_Clb_giveUpChoice (u : CS) (p1 : Int32) (Post : Int32 → CS → Prop) : Prop := (wp_Crd_exists u p1 (fun x2 u1 => ((x2 = 0 → Post (-1) u1) ∧ (¬ x2 = 0 → (vp_in p1 12 ∧ (∀ x3 : Int32, x3 = ((u1.2.1 9) p1.toNatClampNeg) → (((pf_Ham_isKind x3) = 0 → Post (-2) u1) ∧ (¬ (pf_Ham_isKind x3) = 0 → (wp_Hmp_drop u1 p1 x3 (fun x5 u4 => Post x3 u4))))))))))
set_option maxHeartbeats 4000000 in
set_option maxRecDepth 100000 in
theorem c_Clb_giveUpChoice (l : Launch) (G : GG) (ad : Nat → Nat) (sz : Nat) (u : CS) (p1 : Int32) (Post : Int32 → CS → Prop) (h : wp_Clb_giveUpChoice u p1 Post) : CMi l y_Clb_giveUpChoice b_Clb_giveUpChoice 3 .int 2 G [.ref (ad 0), .int p1] sz (clubW G ad u) (clubW G ad) Post := by
  refine CMi.start (by decide) (Nat.le_of_ble_eq_true rfl) (fun p e s m below meth c A ls hx hb hr hts hown hml hlocks hA hS hP hD hK hl => ?_)
  unfold wp_Clb_giveUpChoice at h
  have hl : lv_has ls 3 [(0, .ref (ad 0)), (1, .int p1)] := hl
  refine lv_aload_n hx hb d_Clb_giveUpChoice_0 rfl (lv_at hl 0 rfl) ?_
  refine gC_Clb_cards hx hb hts hown hK hP tb_155 d_Clb_giveUpChoice_1 ?_
  refine lv_iload_n hx hb d_Clb_giveUpChoice_4 rfl (lv_at hl 1 rfl) ?_
  refine call_Vi1 (own := "HamperClub$Club") (As := [.int p1]) (rest := []) (q0 := 1) (ci := 1) hx hb hml hts hown hK hA hP hD hS ok_Clb_63 rfl ⟨Nat.le_of_ble_eq_true rfl, Nat.le_of_ble_eq_true rfl⟩ ⟨Nat.le_of_ble_eq_true rfl, Nat.le_of_ble_eq_true rfl⟩ rfl rfl rfl hl.1 rfl (Nat.le_of_ble_eq_true rfl) d_Clb_giveUpChoice_5 (c_Crd_exists l G ad _ u p1 _ h) (fun x2 u1 H locs h hP hD hS => ?_)
  refine lv_if_ne (tgt := 13) hx hb d_Clb_giveUpChoice_8 (by decide) (fun hc => ?_) (fun hc => ?_)
  · have h := h.2 hc
    refine lv_aload_n hx hb d_Clb_giveUpChoice_13 rfl (lv_at hl 0 rfl) ?_
    refine gC_Clb_hampers hx hb hts hown hK hP tb_157 d_Clb_giveUpChoice_14 ?_
    refine gC_Hmp_choice hx hb hts hown hK hP tb_104 d_Clb_giveUpChoice_17 ?_
    refine lv_iload_n hx hb d_Clb_giveUpChoice_20 rfl (lv_at hl 1 rfl) ?_
    obtain ⟨hi, h⟩ := h
    refine lC_13 hx hb hK hP hi d_Clb_giveUpChoice_21 ?_
    refine lv_topi (fun x3 ex3 => ?_)
    have h := h x3 ex3
    refine lv_istore_n (lv' := [(2, .int x3), (0, .ref (ad 0)), (1, .int p1)]) hx hb d_Clb_giveUpChoice_22 rfl hl (by decide) rfl (fun ls hl => ?_)
    refine lv_iload_n hx hb d_Clb_giveUpChoice_23 rfl (lv_at hl 0 rfl) ?_
    refine call_SN (As := [.int x3]) (rest := []) hx hb hml hts hown hK so_Clb_106 rfl ⟨Nat.le_of_ble_eq_true rfl, Nat.le_of_ble_eq_true rfl⟩ ⟨Nat.le_of_ble_eq_true rfl, Nat.le_of_ble_eq_true rfl⟩ hl.1 rfl (Nat.le_of_ble_eq_true rfl) d_Clb_giveUpChoice_24 (k_Ham_isKind l x3) ?_
    refine lv_if_ne (tgt := 33) hx hb d_Clb_giveUpChoice_27 (by decide) (fun hc => ?_) (fun hc => ?_)
    · have h := h.2 hc
      refine lv_aload_n hx hb d_Clb_giveUpChoice_33 rfl (lv_at hl 1 rfl) ?_
      refine gC_Clb_hampers hx hb hts hown hK hP tb_157 d_Clb_giveUpChoice_34 ?_
      refine lv_iload_n hx hb d_Clb_giveUpChoice_37 rfl (lv_at hl 2 rfl) ?_
      refine lv_iload_n hx hb d_Clb_giveUpChoice_38 rfl (lv_at hl 0 rfl) ?_
      refine call_Vi1 (own := "HamperClub$Club") (As := [.int p1, .int x3]) (rest := []) (q0 := 10) (ci := 3) hx hb hml hts hown hK hA hP hD hS ok_Clb_118 rfl ⟨Nat.le_of_ble_eq_true rfl, Nat.le_of_ble_eq_true rfl⟩ ⟨Nat.le_of_ble_eq_true rfl, Nat.le_of_ble_eq_true rfl⟩ rfl rfl rfl hl.1 rfl (Nat.le_of_ble_eq_true rfl) d_Clb_giveUpChoice_39 (c_Hmp_drop l G ad _ u1 p1 x3 _ h) (fun x5 u4 H locs h hP hD hS => ?_)
      refine lv_pop hx hb d_Clb_giveUpChoice_42 rfl ?_
      refine lv_iload_n hx hb d_Clb_giveUpChoice_43 rfl (lv_at hl 0 rfl) ?_
      exact r_iret hx hb hr hlocks hP hD hS d_Clb_giveUpChoice_44 h
    · have h := h.1 hc
      refine lv_bipush (v := (-2)) hx hb d_Clb_giveUpChoice_30 (by decide) ?_
      exact r_iret hx hb hr hlocks hP hD hS d_Clb_giveUpChoice_32 h
  · have h := h.1 hc
    refine lv_iconst (v := (-1)) hx hb d_Clb_giveUpChoice_11 (by decide) ?_
    exact r_iret hx hb hr hlocks hP hD hS d_Clb_giveUpChoice_12 h
def wl_Clb_dropLapsed_4 (Post : Int32 → CS → Prop) (K : Int32 → CS → Prop) : Nat → Int32 → Int32 → CS → Prop
  | 0, _, _ => fun _ => False
  | n + 1, a1, a2 => fun u1 => (((u1.1 4) ≤ a2 → K a1 u1) ∧ (¬ (u1.1 4) ≤ a2 → (vp_in a2 12 ∧ (∀ x2 : Int32, x2 = ((u1.2.1 9) a2.toNatClampNeg) → (((pf_Ham_isKind x2) = 0 → (∀ x3 : Int32, x3 = a2 + 1 → wl_Clb_dropLapsed_4 Post K n a1 x3 u1)) ∧ (¬ (pf_Ham_isKind x2) = 0 → (wp_Crd_hasLapsed u1 a2 (u1.1 0) (fun x5 u4 => ((x5 = 0 → (∀ x6 : Int32, x6 = a2 + 1 → wl_Clb_dropLapsed_4 Post K n a1 x6 u4)) ∧ (¬ x5 = 0 → (wp_Hmp_drop u4 a2 x2 (fun x8 u7 => (∀ x9 : Int32, x9 = a1 + 1 → (∀ x10 : Int32, x10 = a2 + 1 → wl_Clb_dropLapsed_4 Post K n x9 x10 u7))))))))))))))
def wp_Clb_dropLapsed (u : CS) (Post : Int32 → CS → Prop) : Prop := (∃ k13 : Nat, wl_Clb_dropLapsed_4 Post (fun x12 u11 => Post x12 u11) k13 0 0 u)
theorem ok_Clb_131 : CallOk y_Crd_hasLapsed b_Crd_hasLapsed 4 (some .boolean) 0 2 "HamperClub$Club" 131 := ⟨tb_392, tb_393, tb_394, tb_4, tb_395, by decide +kernel⟩
set_option maxHeartbeats 4000000 in
set_option maxRecDepth 100000 in
theorem x_Clb_dropLapsed_4 {p : Program} {l : Launch} {e : Env} {s : State} {m : MethodId} {args : Array Value} {below : List Frame} {meth : Method} {c : Code} {A : Nat → Prop} {G : GG} {ad : Nat → Nat} {Post : Int32 → CS → Prop} {K : Int32 → CS → Prop} {Q : State → Prop}
    (hx : p.tables.exec = Jvm.exec) (hb : c.code = b_Clb_dropLapsed) (hr : meth.sig.returnType = some .int) (hts : ∀ w ∈ Tg, w.before args s = true) (hown : s.vm.findClass "HamperClub$Club" = some m.cls) (hml : c.maxLocals = 4) (hlocks : meth.locks = false) (hA : ∀ q, s.heap.size ≤ q → A q) (hK : KN G s)
    (hQ : Q = MQ below (va_Qi Post (BW G A (clubW G ad)) A) args s 0 0 A)
    (kk : ∀ (b1 : Int32) (u : CS), K b1 u → ∀ (H : Heap) (locs : List Loc) (ls : Array Slot), va_P G.1 classes (clubW G ad u) H → va_D A (clubW G ad u) → va_S A s.heap H locs → lv_has ls 4 [(1, .int b1)] → W p l e (rmK 2) s m args below meth c H locs 0 0 Q (F0 m 66 ls [])) :
    ∀ (n : Nat) (a1 : Int32) (a2 : Int32) (u : CS), wl_Clb_dropLapsed_4 Post K n a1 a2 u → ∀ (H : Heap) (locs : List Loc) (ls : Array Slot), va_P G.1 classes (clubW G ad u) H → va_D A (clubW G ad u) → va_S A s.heap H locs → lv_has ls 4 [(0, .ref (ad 0)), (1, .int a1), (2, .int a2)] → W p l e (rmK 2) s m args below meth c H locs 0 0 Q (F0 m 4 ls []) := by
  subst hQ
  intro n
  induction n with
  | zero => intro a1 a2 u h; exact h.elim
  | succ n ih =>
    intro a1 a2 u1 h H locs ls hP hD hS hl
    unfold wl_Clb_dropLapsed_4 at h
    refine lv_iload_n hx hb d_Clb_dropLapsed_4 rfl (lv_at hl 2 rfl) ?_
    refine lv_aload_n hx hb d_Clb_dropLapsed_5 rfl (lv_at hl 0 rfl) ?_
    refine gC_Clb_cards hx hb hts hown hK hP tb_155 d_Clb_dropLapsed_6 ?_
    refine gC_Crd_count hx hb hts hown hK hP tb_44 d_Clb_dropLapsed_9 ?_
    refine lv_icmp_ge (tgt := 66) hx hb d_Clb_dropLapsed_12 (by decide) (fun hc => ?_) (fun hc => ?_)
    · have h := h.1 hc
      exact kk a1 u1 h _ _ _ hP hD hS (lv_sub hl [1] rfl)
    · have h := h.2 hc
      refine lv_aload_n hx hb d_Clb_dropLapsed_15 rfl (lv_at hl 0 rfl) ?_
      refine gC_Clb_hampers hx hb hts hown hK hP tb_157 d_Clb_dropLapsed_16 ?_
      refine gC_Hmp_choice hx hb hts hown hK hP tb_104 d_Clb_dropLapsed_19 ?_
      refine lv_iload_n hx hb d_Clb_dropLapsed_22 rfl (lv_at hl 2 rfl) ?_
      obtain ⟨hi, h⟩ := h
      refine lC_13 hx hb hK hP hi d_Clb_dropLapsed_23 ?_
      refine lv_topi (fun x2 ex2 => ?_)
      have h := h x2 ex2
      refine lv_istore_n (lv' := [(3, .int x2), (0, .ref (ad 0)), (1, .int a1), (2, .int a2)]) hx hb d_Clb_dropLapsed_24 rfl hl (by decide) rfl (fun ls hl => ?_)
      refine lv_iload_n hx hb d_Clb_dropLapsed_25 rfl (lv_at hl 0 rfl) ?_
      refine call_SN (As := [.int x2]) (rest := []) hx hb hml hts hown hK so_Clb_106 rfl ⟨Nat.le_of_ble_eq_true rfl, Nat.le_of_ble_eq_true rfl⟩ ⟨Nat.le_of_ble_eq_true rfl, Nat.le_of_ble_eq_true rfl⟩ hl.1 rfl (Nat.le_of_ble_eq_true rfl) d_Clb_dropLapsed_26 (k_Ham_isKind l x2) ?_
      refine lv_if_eq (tgt := 60) hx hb d_Clb_dropLapsed_29 (by decide) (fun hc => ?_) (fun hc => ?_)
      · have h := h.1 hc
        obtain ⟨x3, ex3⟩ : ∃ y : Int32, y = a2 + 1 := ⟨_, rfl⟩
        have h := h x3 ex3
        refine lv_iinc (v := x3) (lv' := [(2, .int x3), (3, .int x2), (0, .ref (ad 0)), (1, .int a1)]) hx hb d_Clb_dropLapsed_60 hl (k := 3) rfl (by rw [ex3]; rfl) (by decide) rfl (fun ls hl => ?_)
        refine lv_goto (tgt := 4) hx hb d_Clb_dropLapsed_63 (by decide) ?_
        exact ih a1 x3 u1 h _ _ _ hP hD hS (lv_sub hl [2, 3, 0] rfl)
      · have h := h.2 hc
        refine lv_aload_n hx hb d_Clb_dropLapsed_32 rfl (lv_at hl 1 rfl) ?_
        refine gC_Clb_cards hx hb hts hown hK hP tb_155 d_Clb_dropLapsed_33 ?_
        refine lv_iload_n hx hb d_Clb_dropLapsed_36 rfl (lv_at hl 3 rfl) ?_
        refine lv_aload_n hx hb d_Clb_dropLapsed_37 rfl (lv_at hl 1 rfl) ?_
        refine gC_Clb_week hx hb hts hown hK hP tb_148 d_Clb_dropLapsed_38 ?_
        refine call_Vi1 (own := "HamperClub$Club") (As := [.int a2, .int (u1.1 0)]) (rest := []) (q0 := 1) (ci := 1) hx hb hml hts hown hK hA hP hD hS ok_Clb_131 rfl ⟨Nat.le_of_ble_eq_true rfl, Nat.le_of_ble_eq_true rfl⟩ ⟨Nat.le_of_ble_eq_true rfl, Nat.le_of_ble_eq_true rfl⟩ rfl rfl rfl hl.1 rfl (Nat.le_of_ble_eq_true rfl) d_Clb_dropLapsed_41 (c_Crd_hasLapsed l G ad _ u1 a2 (u1.1 0) _ h) (fun x5 u4 H locs h hP hD hS => ?_)
        refine lv_if_eq (tgt := 60) hx hb d_Clb_dropLapsed_44 (by decide) (fun hc => ?_) (fun hc => ?_)
        · have h := h.1 hc
          obtain ⟨x6, ex6⟩ : ∃ y : Int32, y = a2 + 1 := ⟨_, rfl⟩
          have h := h x6 ex6
          refine lv_iinc (v := x6) (lv' := [(2, .int x6), (3, .int x2), (0, .ref (ad 0)), (1, .int a1)]) hx hb d_Clb_dropLapsed_60 hl (k := 3) rfl (by rw [ex6]; rfl) (by decide) rfl (fun ls hl => ?_)
          refine lv_goto (tgt := 4) hx hb d_Clb_dropLapsed_63 (by decide) ?_
          exact ih a1 x6 u4 h _ _ _ hP hD hS (lv_sub hl [2, 3, 0] rfl)
        · have h := h.2 hc
          refine lv_aload_n hx hb d_Clb_dropLapsed_47 rfl (lv_at hl 1 rfl) ?_
          refine gC_Clb_hampers hx hb hts hown hK hP tb_157 d_Clb_dropLapsed_48 ?_
          refine lv_iload_n hx hb d_Clb_dropLapsed_51 rfl (lv_at hl 3 rfl) ?_
          refine lv_iload_n hx hb d_Clb_dropLapsed_52 rfl (lv_at hl 0 rfl) ?_
          refine call_Vi1 (own := "HamperClub$Club") (As := [.int a2, .int x2]) (rest := []) (q0 := 10) (ci := 3) hx hb hml hts hown hK hA hP hD hS ok_Clb_118 rfl ⟨Nat.le_of_ble_eq_true rfl, Nat.le_of_ble_eq_true rfl⟩ ⟨Nat.le_of_ble_eq_true rfl, Nat.le_of_ble_eq_true rfl⟩ rfl rfl rfl hl.1 rfl (Nat.le_of_ble_eq_true rfl) d_Clb_dropLapsed_53 (c_Hmp_drop l G ad _ u4 a2 x2 _ h) (fun x8 u7 H locs h hP hD hS => ?_)
          refine lv_pop hx hb d_Clb_dropLapsed_56 rfl ?_
          obtain ⟨x9, ex9⟩ : ∃ y : Int32, y = a1 + 1 := ⟨_, rfl⟩
          have h := h x9 ex9
          refine lv_iinc (v := x9) (lv' := [(1, .int x9), (3, .int x2), (0, .ref (ad 0)), (2, .int a2)]) hx hb d_Clb_dropLapsed_57 hl (k := 2) rfl (by rw [ex9]; rfl) (by decide) rfl (fun ls hl => ?_)
          obtain ⟨x10, ex10⟩ : ∃ y : Int32, y = a2 + 1 := ⟨_, rfl⟩
          have h := h x10 ex10
          refine lv_iinc (v := x10) (lv' := [(2, .int x10), (1, .int x9), (3, .int x2), (0, .ref (ad 0))]) hx hb d_Clb_dropLapsed_60 hl (k := 3) rfl (by rw [ex10]; rfl) (by decide) rfl (fun ls hl => ?_)
          refine lv_goto (tgt := 4) hx hb d_Clb_dropLapsed_63 (by decide) ?_
          exact ih x9 x10 u7 h _ _ _ hP hD hS (lv_sub hl [3, 1, 0] rfl)
set_option maxHeartbeats 4000000 in
set_option maxRecDepth 100000 in
theorem c_Clb_dropLapsed (l : Launch) (G : GG) (ad : Nat → Nat) (sz : Nat) (u : CS) (Post : Int32 → CS → Prop) (h : wp_Clb_dropLapsed u Post) : CMi l y_Clb_dropLapsed b_Clb_dropLapsed 4 .int 2 G [.ref (ad 0)] sz (clubW G ad u) (clubW G ad) Post := by
  refine CMi.start (by decide) (Nat.le_of_ble_eq_true rfl) (fun p e s m below meth c A ls hx hb hr hts hown hml hlocks hA hS hP hD hK hl => ?_)
  unfold wp_Clb_dropLapsed at h
  have hl : lv_has ls 4 [(0, .ref (ad 0))] := hl
  refine lv_iconst (v := 0) hx hb d_Clb_dropLapsed_0 (by decide) ?_
  refine lv_istore_n (lv' := [(1, .int 0), (0, .ref (ad 0))]) hx hb d_Clb_dropLapsed_1 rfl hl (by decide) rfl (fun ls hl => ?_)
  refine lv_iconst (v := 0) hx hb d_Clb_dropLapsed_2 (by decide) ?_
  refine lv_istore_n (lv' := [(2, .int 0), (1, .int 0), (0, .ref (ad 0))]) hx hb d_Clb_dropLapsed_3 rfl hl (by decide) rfl (fun ls hl => ?_)
  obtain ⟨n, h⟩ := h
  refine x_Clb_dropLapsed_4 hx hb hr hts hown hml hlocks hA hK rfl (fun x12 u11 h H locs ls hP hD hS hl => ?_) n 0 0 u h _ _ _ hP hD hS (lv_sub hl [2, 1, 0] rfl)
  refine lv_iload_n hx hb d_Clb_dropLapsed_66 rfl (lv_at hl 0 rfl) ?_
  exact r_iret hx hb hr hlocks hP hD hS d_Clb_dropLapsed_67 h
def wp_Clb_bonusOf (u : CS) (p1 : Int32) (Post : Int32 → CS → Prop) : Prop := (wp_Crd_sharedStamps u  (fun x2 u1 => ((x2 = 0 → Post 0 u1) ∧ (¬ x2 = 0 → (wp_Crd_shares u1 p1 (fun x4 u3 => ((x4 = 0 → Post 0 u3) ∧ (¬ x4 = 0 → (vp_in p1 12 ∧ (¬ x2 = 0 ∧ Post (((u3.1 6) * ((u3.2.1 0) p1.toNatClampNeg)) / x2) u3))))))))))
theorem ok_Clb_144 : CallOk y_Crd_sharedStamps b_Crd_sharedStamps 3 (some .int) 1 0 "HamperClub$Club" 144 := ⟨tb_484, tb_485, tb_486, tb_4, tb_487, by decide +kernel⟩
theorem ok_Clb_147 : CallOk y_Crd_shares b_Crd_shares 2 (some .boolean) 0 1 "HamperClub$Club" 147 := ⟨tb_492, tb_489, tb_490, tb_4, tb_491, by decide +kernel⟩
set_option maxHeartbeats 4000000 in
set_option maxRecDepth 100000 in
theorem c_Clb_bonusOf (l : Launch) (G : GG) (ad : Nat → Nat) (sz : Nat) (u : CS) (p1 : Int32) (Post : Int32 → CS → Prop) (h : wp_Clb_bonusOf u p1 Post) : CMi l y_Clb_bonusOf b_Clb_bonusOf 3 .int 2 G [.ref (ad 0), .int p1] sz (clubW G ad u) (clubW G ad) Post := by
  refine CMi.start (by decide) (Nat.le_of_ble_eq_true rfl) (fun p e s m below meth c A ls hx hb hr hts hown hml hlocks hA hS hP hD hK hl => ?_)
  unfold wp_Clb_bonusOf at h
  have hl : lv_has ls 3 [(0, .ref (ad 0)), (1, .int p1)] := hl
  refine lv_aload_n hx hb d_Clb_bonusOf_0 rfl (lv_at hl 0 rfl) ?_
  refine gC_Clb_cards hx hb hts hown hK hP tb_155 d_Clb_bonusOf_1 ?_
  refine call_Vi1 (own := "HamperClub$Club") (As := []) (rest := []) (q0 := 1) (ci := 1) hx hb hml hts hown hK hA hP hD hS ok_Clb_144 rfl ⟨Nat.le_of_ble_eq_true rfl, Nat.le_of_ble_eq_true rfl⟩ ⟨Nat.le_of_ble_eq_true rfl, Nat.le_of_ble_eq_true rfl⟩ rfl rfl rfl hl.1 rfl (Nat.le_of_ble_eq_true rfl) d_Clb_bonusOf_4 (c_Crd_sharedStamps l G ad _ u  _ h) (fun x2 u1 H locs h hP hD hS => ?_)
  refine lv_istore_n (lv' := [(2, .int x2), (0, .ref (ad 0)), (1, .int p1)]) hx hb d_Clb_bonusOf_7 rfl hl (by decide) rfl (fun ls hl => ?_)
  refine lv_iload_n hx hb d_Clb_bonusOf_8 rfl (lv_at hl 0 rfl) ?_
  refine lv_if_eq (tgt := 23) hx hb d_Clb_bonusOf_9 (by decide) (fun hc => ?_) (fun hc => ?_)
  · have h := h.1 hc
    refine lv_iconst (v := 0) hx hb d_Clb_bonusOf_23 (by decide) ?_
    exact r_iret hx hb hr hlocks hP hD hS d_Clb_bonusOf_24 h
  · have h := h.2 hc
    refine lv_aload_n hx hb d_Clb_bonusOf_12 rfl (lv_at hl 1 rfl) ?_
    refine gC_Clb_cards hx hb hts hown hK hP tb_155 d_Clb_bonusOf_13 ?_
    refine lv_iload_n hx hb d_Clb_bonusOf_16 rfl (lv_at hl 2 rfl) ?_
    refine call_Vi1 (own := "HamperClub$Club") (As := [.int p1]) (rest := []) (q0 := 1) (ci := 1) hx hb hml hts hown hK hA hP hD hS ok_Clb_147 rfl ⟨Nat.le_of_ble_eq_true rfl, Nat.le_of_ble_eq_true rfl⟩ ⟨Nat.le_of_ble_eq_true rfl, Nat.le_of_ble_eq_true rfl⟩ rfl rfl rfl hl.1 rfl (Nat.le_of_ble_eq_true rfl) d_Clb_bonusOf_17 (c_Crd_shares l G ad _ u1 p1 _ h) (fun x4 u3 H locs h hP hD hS => ?_)
    refine lv_if_ne (tgt := 25) hx hb d_Clb_bonusOf_20 (by decide) (fun hc => ?_) (fun hc => ?_)
    · have h := h.2 hc
      refine lv_aload_n hx hb d_Clb_bonusOf_25 rfl (lv_at hl 1 rfl) ?_
      refine gC_Clb_accounts hx hb hts hown hK hP tb_159 d_Clb_bonusOf_26 ?_
      refine gC_Acc_pool hx hb hts hown hK hP tb_130 d_Clb_bonusOf_29 ?_
      refine lv_aload_n hx hb d_Clb_bonusOf_32 rfl (lv_at hl 1 rfl) ?_
      refine gC_Clb_cards hx hb hts hown hK hP tb_155 d_Clb_bonusOf_33 ?_
      refine gC_Crd_stamps hx hb hts hown hK hP tb_46 d_Clb_bonusOf_36 ?_
      refine lv_iload_n hx hb d_Clb_bonusOf_39 rfl (lv_at hl 2 rfl) ?_
      obtain ⟨hi, h⟩ := h
      refine lC_2 hx hb hK hP hi d_Clb_bonusOf_40 ?_
      refine lv_imul hx hb d_Clb_bonusOf_41 ?_
      refine lv_iload_n hx hb d_Clb_bonusOf_42 rfl (lv_at hl 0 rfl) ?_
      obtain ⟨hne, h⟩ := h
      refine lv_idiv hx hb d_Clb_bonusOf_43 hne ?_
      exact r_iret hx hb hr hlocks hP hD hS d_Clb_bonusOf_44 h
    · have h := h.1 hc
      refine lv_iconst (v := 0) hx hb d_Clb_bonusOf_23 (by decide) ?_
      exact r_iret hx hb hr hlocks hP hD hS d_Clb_bonusOf_24 h
def wl_Clb_handOutOne_16 (Post : CS → Prop) (K : CS → Prop) : Nat → Int32 → Int32 → Int32 → Int32 → CS → Prop
  | 0, _, _, _, _ => fun _ => False
  | n + 1, a2, a3, a4, a5 => fun u2 => ((12 ≤ a5 → K  u2) ∧ (¬ 12 ≤ a5 → ((a4 = (-9) → K  u2) ∧ (¬ a4 = (-9) → (vp_in a4 12 ∧ ((((u2.2.1 0) a4.toNatClampNeg) < a3 → (wp_Hmp_drop u2 a4 a2 (fun x4 u3 => (∀ x5 : Int32, x5 = a5 + 1 → wl_Clb_handOutOne_16 Post K n a2 a3 x4 x5 u3)))) ∧ (¬ ((u2.2.1 0) a4.toNatClampNeg) < a3 → (vp_in a4 12 ∧ (vp_in a4 12 ∧ (∀ u6 : CS, u6 = (cA u2 0 (upd (u2.2.1 0) a4.toNatClampNeg (((u2.2.1 0) a4.toNatClampNeg) - a3))) → (wp_Acc_payShop u6 (a3 * 10) (fun u7 => (wp_Hmp_handOut u7 a4 a2 (fun u8 => (∀ u9 : CS, u9 = (cS u8 2 ((u8.1 2) + 1)) → Post u9)))))))))))))))
def wp_Clb_handOutOne (u : CS) (p1 : Int32) (p2 : Int32) (Post : CS → Prop) : Prop := (vp_in p2 4 ∧ (∀ x1 : Int32, x1 = ((u.2.1 7) p2.toNatClampNeg) → (∃ k11 : Nat, wl_Clb_handOutOne_16 Post (fun u10 => Post u10) k11 p2 x1 p1 0 u)))
theorem ok_Clb_156 : CallOk y_Acc_payShop b_Acc_payShop 2 none 0 1 "HamperClub$Club" 156 := ⟨tb_515, tb_516, tb_517, tb_8, tb_518, by decide +kernel⟩
theorem ok_Clb_159 : CallOk y_Hmp_handOut b_Hmp_handOut 3 none 0 2 "HamperClub$Club" 159 := ⟨tb_519, tb_520, tb_521, tb_6, tb_522, by decide +kernel⟩
set_option maxHeartbeats 4000000 in
set_option maxRecDepth 100000 in
theorem x_Clb_handOutOne_16 {p : Program} {l : Launch} {e : Env} {s : State} {m : MethodId} {args : Array Value} {below : List Frame} {meth : Method} {c : Code} {A : Nat → Prop} {G : GG} {ad : Nat → Nat} {Post : CS → Prop} {K : CS → Prop} {Q : State → Prop}
    (hx : p.tables.exec = Jvm.exec) (hb : c.code = b_Clb_handOutOne) (hr : meth.sig.returnType = none) (hts : ∀ w ∈ Tg, w.before args s = true) (hown : s.vm.findClass "HamperClub$Club" = some m.cls) (hml : c.maxLocals = 6) (hlocks : meth.locks = false) (hA : ∀ q, s.heap.size ≤ q → A q) (hK : KN G s)
    (hQ : Q = MQ below (va_Qv Post (BW G A (clubW G ad)) A) args s 0 0 A)
    (kk : ∀ (u : CS), K  u → ∀ (H : Heap) (locs : List Loc) (ls : Array Slot), va_P G.1 classes (clubW G ad u) H → va_D A (clubW G ad u) → va_S A s.heap H locs → lv_has ls 6 [] → W p l e (rmK 2) s m args below meth c H locs 0 0 Q (F0 m 108 ls [])) :
    ∀ (n : Nat) (a2 : Int32) (a3 : Int32) (a4 : Int32) (a5 : Int32) (u : CS), wl_Clb_handOutOne_16 Post K n a2 a3 a4 a5 u → ∀ (H : Heap) (locs : List Loc) (ls : Array Slot), va_P G.1 classes (clubW G ad u) H → va_D A (clubW G ad u) → va_S A s.heap H locs → lv_has ls 6 [(0, .ref (ad 0)), (2, .int a2), (3, .int a3), (4, .int a4), (5, .int a5)] → W p l e (rmK 2) s m args below meth c H locs 0 0 Q (F0 m 16 ls []) := by
  subst hQ
  intro n
  induction n with
  | zero => intro a2 a3 a4 a5 u h; exact h.elim
  | succ n ih =>
    intro a2 a3 a4 a5 u2 h H locs ls hP hD hS hl
    unfold wl_Clb_handOutOne_16 at h
    refine lv_iload hx hb d_Clb_handOutOne_16 (lv_at hl 4 rfl) ?_
    refine lv_bipush (v := 12) hx hb d_Clb_handOutOne_18 (by decide) ?_
    refine lv_icmp_ge (tgt := 108) hx hb d_Clb_handOutOne_20 (by decide) (fun hc => ?_) (fun hc => ?_)
    · have h := h.1 hc
      exact kk  u2 h _ _ _ hP hD hS (lv_sub hl [] rfl)
    · have h := h.2 hc
      refine lv_iload hx hb d_Clb_handOutOne_23 (lv_at hl 3 rfl) ?_
      refine lv_bipush (v := (-9)) hx hb d_Clb_handOutOne_25 (by decide) ?_
      refine lv_icmp_eq (tgt := 108) hx hb d_Clb_handOutOne_27 (by decide) (fun hc => ?_) (fun hc => ?_)
      · have h := h.1 hc
        exact kk  u2 h _ _ _ hP hD hS (lv_sub hl [] rfl)
      · have h := h.2 hc
        refine lv_aload_n hx hb d_Clb_handOutOne_30 rfl (lv_at hl 0 rfl) ?_
        refine gC_Clb_cards hx hb hts hown hK hP tb_155 d_Clb_handOutOne_31 ?_
        refine gC_Crd_stamps hx hb hts hown hK hP tb_46 d_Clb_handOutOne_34 ?_
        refine lv_iload hx hb d_Clb_handOutOne_37 (lv_at hl 3 rfl) ?_
        obtain ⟨hi, h⟩ := h
        refine lC_2 hx hb hK hP hi d_Clb_handOutOne_39 ?_
        refine lv_iload_n hx hb d_Clb_handOutOne_40 rfl (lv_at hl 2 rfl) ?_
        refine lv_icmp_lt (tgt := 90) hx hb d_Clb_handOutOne_41 (by decide) (fun hc => ?_) (fun hc => ?_)
        · have h := h.1 hc
          refine lv_aload_n hx hb d_Clb_handOutOne_90 rfl (lv_at hl 0 rfl) ?_
          refine gC_Clb_hampers hx hb hts hown hK hP tb_157 d_Clb_handOutOne_91 ?_
          refine lv_iload hx hb d_Clb_handOutOne_94 (lv_at hl 3 rfl) ?_
          refine lv_iload_n hx hb d_Clb_handOutOne_96 rfl (lv_at hl 1 rfl) ?_
          refine call_Vi1 (own := "HamperClub$Club") (As := [.int a4, .int a2]) (rest := []) (q0 := 10) (ci := 3) hx hb hml hts hown hK hA hP hD hS ok_Clb_118 rfl ⟨Nat.le_of_ble_eq_true rfl, Nat.le_of_ble_eq_true rfl⟩ ⟨Nat.le_of_ble_eq_true rfl, Nat.le_of_ble_eq_true rfl⟩ rfl rfl rfl hl.1 rfl (Nat.le_of_ble_eq_true rfl) d_Clb_handOutOne_97 (c_Hmp_drop l G ad _ u2 a4 a2 _ h) (fun x4 u3 H locs h hP hD hS => ?_)
          refine lv_istore (lv' := [(4, .int x4), (0, .ref (ad 0)), (2, .int a2), (3, .int a3), (5, .int a5)]) hx hb d_Clb_handOutOne_100 hl (by decide) rfl (fun ls hl => ?_)
          obtain ⟨x5, ex5⟩ : ∃ y : Int32, y = a5 + 1 := ⟨_, rfl⟩
          have h := h x5 ex5
          refine lv_iinc (v := x5) (lv' := [(5, .int x5), (4, .int x4), (0, .ref (ad 0)), (2, .int a2), (3, .int a3)]) hx hb d_Clb_handOutOne_102 hl (k := 4) rfl (by rw [ex5]; rfl) (by decide) rfl (fun ls hl => ?_)
          refine lv_goto (tgt := 16) hx hb d_Clb_handOutOne_105 (by decide) ?_
          exact ih a2 a3 x4 x5 u3 h _ _ _ hP hD hS (lv_sub hl [2, 3, 4, 1, 0] rfl)
        · have h := h.2 hc
          refine lv_aload_n hx hb d_Clb_handOutOne_44 rfl (lv_at hl 0 rfl) ?_
          refine gC_Clb_cards hx hb hts hown hK hP tb_155 d_Clb_handOutOne_45 ?_
          refine gC_Crd_stamps hx hb hts hown hK hP tb_46 d_Clb_handOutOne_48 ?_
          refine lv_iload hx hb d_Clb_handOutOne_51 (lv_at hl 3 rfl) ?_
          refine lv_dup2_11 hx hb d_Clb_handOutOne_53 rfl rfl ?_
          obtain ⟨hi, h⟩ := h
          refine lC_2 hx hb hK hP hi d_Clb_handOutOne_54 ?_
          refine lv_iload_n hx hb d_Clb_handOutOne_55 rfl (lv_at hl 2 rfl) ?_
          refine lv_isub hx hb d_Clb_handOutOne_56 ?_
          obtain ⟨hi, h⟩ := h
          refine sC_2 hx hb hK hP hD hS hi d_Clb_handOutOne_57 (fun u6 H locs eu6 hP hD hS => ?_)
          have h := h u6 eu6
          refine lv_aload_n hx hb d_Clb_handOutOne_58 rfl (lv_at hl 0 rfl) ?_
          refine gC_Clb_accounts hx hb hts hown hK hP tb_159 d_Clb_handOutOne_59 ?_
          refine lv_iload_n hx hb d_Clb_handOutOne_62 rfl (lv_at hl 2 rfl) ?_
          refine lv_bipush (v := 10) hx hb d_Clb_handOutOne_63 (by decide) ?_
          refine lv_imul hx hb d_Clb_handOutOne_65 ?_
          refine call_Vv1 (own := "HamperClub$Club") (As := [.int (a3 * 10)]) (rest := []) (q0 := 16) (ci := 0) hx hb hml hts hown hK hA hP hD hS ok_Clb_156 rfl ⟨Nat.le_of_ble_eq_true rfl, Nat.le_of_ble_eq_true rfl⟩ ⟨Nat.le_of_ble_eq_true rfl, Nat.le_of_ble_eq_true rfl⟩ rfl rfl rfl hl.1 rfl (Nat.le_of_ble_eq_true rfl) d_Clb_handOutOne_66 (c_Acc_payShop l G ad _ u6 (a3 * 10) _ h) (fun u7 H locs h hP hD hS => ?_)
          refine lv_aload_n hx hb d_Clb_handOutOne_69 rfl (lv_at hl 0 rfl) ?_
          refine gC_Clb_hampers hx hb hts hown hK hP tb_157 d_Clb_handOutOne_70 ?_
          refine lv_iload hx hb d_Clb_handOutOne_73 (lv_at hl 3 rfl) ?_
          refine lv_iload_n hx hb d_Clb_handOutOne_75 rfl (lv_at hl 1 rfl) ?_
          refine call_Vv1 (own := "HamperClub$Club") (As := [.int a4, .int a2]) (rest := []) (q0 := 10) (ci := 3) hx hb hml hts hown hK hA hP hD hS ok_Clb_159 rfl ⟨Nat.le_of_ble_eq_true rfl, Nat.le_of_ble_eq_true rfl⟩ ⟨Nat.le_of_ble_eq_true rfl, Nat.le_of_ble_eq_true rfl⟩ rfl rfl rfl hl.1 rfl (Nat.le_of_ble_eq_true rfl) d_Clb_handOutOne_76 (c_Hmp_handOut l G ad _ u7 a4 a2 _ h) (fun u8 H locs h hP hD hS => ?_)
          refine lv_aload_n hx hb d_Clb_handOutOne_79 rfl (lv_at hl 0 rfl) ?_
          refine lv_dup hx hb d_Clb_handOutOne_80 rfl ?_
          refine gC_Clb_handedOut hx hb hts hown hK hP tb_153 d_Clb_handOutOne_81 ?_
          refine lv_iconst (v := 1) hx hb d_Clb_handOutOne_84 (by decide) ?_
          refine lv_iadd hx hb d_Clb_handOutOne_85 ?_
          refine pC_Clb_handedOut hx hb hts hown hK hP hD hS tb_153 d_Clb_handOutOne_86 (fun u9 H locs eu9 hP hD hS => ?_)
          have h := h u9 eu9
          exact r_vret hx hb hr hlocks hP hD hS d_Clb_handOutOne_89 h
set_option maxHeartbeats 4000000 in
set_option maxRecDepth 100000 in
theorem c_Clb_handOutOne (l : Launch) (G : GG) (ad : Nat → Nat) (sz : Nat) (u : CS) (p1 : Int32) (p2 : Int32) (Post : CS → Prop) (h : wp_Clb_handOutOne u p1 p2 Post) : CMv l y_Clb_handOutOne b_Clb_handOutOne 6 2 G [.ref (ad 0), .int p1, .int p2] sz (clubW G ad u) (clubW G ad) Post := by
  refine CMv.start (by decide) (Nat.le_of_ble_eq_true rfl) (fun p e s m below meth c A ls hx hb hr hts hown hml hlocks hA hS hP hD hK hl => ?_)
  unfold wp_Clb_handOutOne at h
  have hl : lv_has ls 6 [(0, .ref (ad 0)), (1, .int p1), (2, .int p2)] := hl
  refine lv_aload_n hx hb d_Clb_handOutOne_0 rfl (lv_at hl 0 rfl) ?_
  refine gC_Clb_hampers hx hb hts hown hK hP tb_157 d_Clb_handOutOne_1 ?_
  refine gC_Hmp_price hx hb hts hown hK hP tb_99 d_Clb_handOutOne_4 ?_
  refine lv_iload_n hx hb d_Clb_handOutOne_7 rfl (lv_at hl 2 rfl) ?_
  obtain ⟨hi, h⟩ := h
  refine lC_11 hx hb hK hP hi d_Clb_handOutOne_8 ?_
  refine lv_topi (fun x1 ex1 => ?_)
  have h := h x1 ex1
  refine lv_istore_n (lv' := [(3, .int x1), (0, .ref (ad 0)), (1, .int p1), (2, .int p2)]) hx hb d_Clb_handOutOne_9 rfl hl (by decide) rfl (fun ls hl => ?_)
  refine lv_iload_n hx hb d_Clb_handOutOne_10 rfl (lv_at hl 2 rfl) ?_
  refine lv_istore (lv' := [(4, .int p1), (3, .int x1), (0, .ref (ad 0)), (1, .int p1), (2, .int p2)]) hx hb d_Clb_handOutOne_11 hl (by decide) rfl (fun ls hl => ?_)
  refine lv_iconst (v := 0) hx hb d_Clb_handOutOne_13 (by decide) ?_
  refine lv_istore (lv' := [(5, .int 0), (4, .int p1), (3, .int x1), (0, .ref (ad 0)), (1, .int p1), (2, .int p2)]) hx hb d_Clb_handOutOne_14 hl (by decide) rfl (fun ls hl => ?_)
  obtain ⟨n, h⟩ := h
  refine x_Clb_handOutOne_16 hx hb hr hts hown hml hlocks hA hK rfl (fun u10 h H locs ls hP hD hS hl => ?_) n p2 x1 p1 0 u h _ _ _ hP hD hS (lv_sub hl [3, 5, 2, 1, 0] rfl)
  exact r_vret hx hb hr hlocks hP hD hS d_Clb_handOutOne_108 h
def wp_Clb_tellOfMember (u : CS) (p1 : Int32) (p2 : Int32) (Post : Int32 → CS → Prop) : Prop := (wp_Crd_exists u p1 (fun x2 u1 => ((x2 = 0 → Post (-1) u1) ∧ (¬ x2 = 0 → ((p2 = 0 → (vp_in p1 12 ∧ Post ((u1.2.1 0) p1.toNatClampNeg) u1)) ∧ (p2 = 1 → (vp_in p1 12 ∧ Post ((u1.2.1 1) p1.toNatClampNeg) u1)) ∧ (p2 = 2 → (vp_in p1 12 ∧ Post ((u1.2.1 9) p1.toNatClampNeg) u1)) ∧ (p2 = 3 → (wp_Hmp_hasOneKept u1 p1 (fun x4 u3 => ((x4 = 0 → Post 0 u3) ∧ (¬ x4 = 0 → Post 1 u3))))) ∧ (p2 = 4 → (vp_in p1 12 ∧ Post ((u1.2.1 10) p1.toNatClampNeg) u1)) ∧ (p2 = 5 → (vp_in p1 12 ∧ Post ((u1.2.1 5) p1.toNatClampNeg) u1)) ∧ (p2 = 6 → (vp_in p1 12 ∧ Post (pf_Lng_bitCount (u1.2.2 p1.toNatClampNeg)) u1)) ∧ (p2 = 7 → (wp_Crd_rowOfGoodWeeks u1 p1 (u1.1 0) (fun x6 u5 => Post x6 u5))) ∧ (p2 = 8 → (vp_in p1 12 ∧ Post ((u1.2.1 6) p1.toNatClampNeg) u1)) ∧ (p2 = 9 → (vp_in p1 12 ∧ Post ((u1.2.1 4) p1.toNatClampNeg) u1)) ∧ (p2 = 10 → (vp_in p1 12 ∧ Post ((u1.2.1 11) p1.toNatClampNeg) u1)) ∧ (¬ p2 = 0 → ¬ p2 = 1 → ¬ p2 = 2 → ¬ p2 = 3 → ¬ p2 = 4 → ¬ p2 = 5 → ¬ p2 = 6 → ¬ p2 = 7 → ¬ p2 = 8 → ¬ p2 = 9 → ¬ p2 = 10 → Post (-1) u1))))))
theorem ok_Clb_150 : CallOk y_Hmp_hasOneKept b_Hmp_hasOneKept 2 (some .boolean) 0 1 "HamperClub$Club" 150 := ⟨tb_460, tb_461, tb_462, tb_6, tb_463, by decide +kernel⟩
theorem so_Clb_196 : StOk y_Lng_bitCount b_Lng_bitCount 2 (some .int) 1 "HamperClub$Club" 196 := ⟨tb_464, tb_465, tb_13, tb_466, by decide +kernel⟩
theorem ok_Clb_202 : CallOk y_Crd_rowOfGoodWeeks b_Crd_rowOfGoodWeeks 6 (some .int) 1 2 "HamperClub$Club" 202 := ⟨tb_470, tb_471, tb_472, tb_4, tb_473, by decide +kernel⟩
set_option maxHeartbeats 4000000 in
set_option maxRecDepth 100000 in
theorem c_Clb_tellOfMember (l : Launch) (G : GG) (ad : Nat → Nat) (sz : Nat) (u : CS) (p1 : Int32) (p2 : Int32) (Post : Int32 → CS → Prop) (h : wp_Clb_tellOfMember u p1 p2 Post) : CMi l y_Clb_tellOfMember b_Clb_tellOfMember 3 .int 2 G [.ref (ad 0), .int p1, .int p2] sz (clubW G ad u) (clubW G ad) Post := by
  refine CMi.start (by decide) (Nat.le_of_ble_eq_true rfl) (fun p e s m below meth c A ls hx hb hr hts hown hml hlocks hA hS hP hD hK hl => ?_)
  unfold wp_Clb_tellOfMember at h
  have hl : lv_has ls 3 [(0, .ref (ad 0)), (1, .int p1), (2, .int p2)] := hl
  refine lv_aload_n hx hb d_Clb_tellOfMember_0 rfl (lv_at hl 0 rfl) ?_
  refine gC_Clb_cards hx hb hts hown hK hP tb_155 d_Clb_tellOfMember_1 ?_
  refine lv_iload_n hx hb d_Clb_tellOfMember_4 rfl (lv_at hl 1 rfl) ?_
  refine call_Vi1 (own := "HamperClub$Club") (As := [.int p1]) (rest := []) (q0 := 1) (ci := 1) hx hb hml hts hown hK hA hP hD hS ok_Clb_63 rfl ⟨Nat.le_of_ble_eq_true rfl, Nat.le_of_ble_eq_true rfl⟩ ⟨Nat.le_of_ble_eq_true rfl, Nat.le_of_ble_eq_true rfl⟩ rfl rfl rfl hl.1 rfl (Nat.le_of_ble_eq_true rfl) d_Clb_tellOfMember_5 (c_Crd_exists l G ad _ u p1 _ h) (fun x2 u1 H locs h hP hD hS => ?_)
  refine lv_if_ne (tgt := 13) hx hb d_Clb_tellOfMember_8 (by decide) (fun hc => ?_) (fun hc => ?_)
  · have h := h.2 hc
    refine lv_iload_n hx hb d_Clb_tellOfMember_13 rfl (lv_at hl 2 rfl) ?_
    by_cases hc0 : p2 = 0
    · have h := h.1 hc0
      refine lv_tableIn (off := 58) (tgt := 72) hx hb d_Clb_tellOfMember_14 (by rw [hc0]; decide) (by rw [hc0]; decide) (by rw [hc0]; rfl) (by decide) ?_
      refine lv_aload_n hx hb d_Clb_tellOfMember_72 rfl (lv_at hl 0 rfl) ?_
      refine gC_Clb_cards hx hb hts hown hK hP tb_155 d_Clb_tellOfMember_73 ?_
      refine gC_Crd_stamps hx hb hts hown hK hP tb_46 d_Clb_tellOfMember_76 ?_
      refine lv_iload_n hx hb d_Clb_tellOfMember_79 rfl (lv_at hl 1 rfl) ?_
      obtain ⟨hi, h⟩ := h
      refine lC_2 hx hb hK hP hi d_Clb_tellOfMember_80 ?_
      exact r_iret hx hb hr hlocks hP hD hS d_Clb_tellOfMember_81 h
    by_cases hc1 : p2 = 1
    · have h := h.2.1 hc1
      refine lv_tableIn (off := 68) (tgt := 82) hx hb d_Clb_tellOfMember_14 (by rw [hc1]; decide) (by rw [hc1]; decide) (by rw [hc1]; rfl) (by decide) ?_
      refine lv_aload_n hx hb d_Clb_tellOfMember_82 rfl (lv_at hl 0 rfl) ?_
      refine gC_Clb_cards hx hb hts hown hK hP tb_155 d_Clb_tellOfMember_83 ?_
      refine gC_Crd_status hx hb hts hown hK hP tb_49 d_Clb_tellOfMember_86 ?_
      refine lv_iload_n hx hb d_Clb_tellOfMember_89 rfl (lv_at hl 1 rfl) ?_
      obtain ⟨hi, h⟩ := h
      refine lC_3 hx hb hK hP hi d_Clb_tellOfMember_90 ?_
      exact r_iret hx hb hr hlocks hP hD hS d_Clb_tellOfMember_91 h
    by_cases hc2 : p2 = 2
    · have h := h.2.2.1 hc2
      refine lv_tableIn (off := 78) (tgt := 92) hx hb d_Clb_tellOfMember_14 (by rw [hc2]; decide) (by rw [hc2]; decide) (by rw [hc2]; rfl) (by decide) ?_
      refine lv_aload_n hx hb d_Clb_tellOfMember_92 rfl (lv_at hl 0 rfl) ?_
      refine gC_Clb_hampers hx hb hts hown hK hP tb_157 d_Clb_tellOfMember_93 ?_
      refine gC_Hmp_choice hx hb hts hown hK hP tb_104 d_Clb_tellOfMember_96 ?_
      refine lv_iload_n hx hb d_Clb_tellOfMember_99 rfl (lv_at hl 1 rfl) ?_
      obtain ⟨hi, h⟩ := h
      refine lC_13 hx hb hK hP hi d_Clb_tellOfMember_100 ?_
      exact r_iret hx hb hr hlocks hP hD hS d_Clb_tellOfMember_101 h
    by_cases hc3 : p2 = 3
    · have h := h.2.2.2.1 hc3
      refine lv_tableIn (off := 88) (tgt := 102) hx hb d_Clb_tellOfMember_14 (by rw [hc3]; decide) (by rw [hc3]; decide) (by rw [hc3]; rfl) (by decide) ?_
      refine lv_aload_n hx hb d_Clb_tellOfMember_102 rfl (lv_at hl 0 rfl) ?_
      refine gC_Clb_hampers hx hb hts hown hK hP tb_157 d_Clb_tellOfMember_103 ?_
      refine lv_iload_n hx hb d_Clb_tellOfMember_106 rfl (lv_at hl 1 rfl) ?_
      refine call_Vi1 (own := "HamperClub$Club") (As := [.int p1]) (rest := []) (q0 := 10) (ci := 3) hx hb hml hts hown hK hA hP hD hS ok_Clb_150 rfl ⟨Nat.le_of_ble_eq_true rfl, Nat.le_of_ble_eq_true rfl⟩ ⟨Nat.le_of_ble_eq_true rfl, Nat.le_of_ble_eq_true rfl⟩ rfl rfl rfl hl.1 rfl (Nat.le_of_ble_eq_true rfl) d_Clb_tellOfMember_107 (c_Hmp_hasOneKept l G ad _ u1 p1 _ h) (fun x4 u3 H locs h hP hD hS => ?_)
      refine lv_if_eq (tgt := 117) hx hb d_Clb_tellOfMember_110 (by decide) (fun hc => ?_) (fun hc => ?_)
      · have h := h.1 hc
        refine lv_iconst (v := 0) hx hb d_Clb_tellOfMember_117 (by decide) ?_
        exact r_iret hx hb hr hlocks hP hD hS d_Clb_tellOfMember_118 h
      · have h := h.2 hc
        refine lv_iconst (v := 1) hx hb d_Clb_tellOfMember_113 (by decide) ?_
        refine lv_goto (tgt := 118) hx hb d_Clb_tellOfMember_114 (by decide) ?_
        exact r_iret hx hb hr hlocks hP hD hS d_Clb_tellOfMember_118 h
    by_cases hc4 : p2 = 4
    · have h := h.2.2.2.2.1 hc4
      refine lv_tableIn (off := 105) (tgt := 119) hx hb d_Clb_tellOfMember_14 (by rw [hc4]; decide) (by rw [hc4]; decide) (by rw [hc4]; rfl) (by decide) ?_
      refine lv_aload_n hx hb d_Clb_tellOfMember_119 rfl (lv_at hl 0 rfl) ?_
      refine gC_Clb_hampers hx hb hts hown hK hP tb_157 d_Clb_tellOfMember_120 ?_
      refine gC_Hmp_place hx hb hts hown hK hP tb_106 d_Clb_tellOfMember_123 ?_
      refine lv_iload_n hx hb d_Clb_tellOfMember_126 rfl (lv_at hl 1 rfl) ?_
      obtain ⟨hi, h⟩ := h
      refine lC_14 hx hb hK hP hi d_Clb_tellOfMember_127 ?_
      exact r_iret hx hb hr hlocks hP hD hS d_Clb_tellOfMember_128 h
    by_cases hc5 : p2 = 5
    · have h := h.2.2.2.2.2.1 hc5
      refine lv_tableIn (off := 115) (tgt := 129) hx hb d_Clb_tellOfMember_14 (by rw [hc5]; decide) (by rw [hc5]; decide) (by rw [hc5]; rfl) (by decide) ?_
      refine lv_aload_n hx hb d_Clb_tellOfMember_129 rfl (lv_at hl 0 rfl) ?_
      refine gC_Clb_cards hx hb hts hown hK hP tb_155 d_Clb_tellOfMember_130 ?_
      refine gC_Crd_drawn hx hb hts hown hK hP tb_58 d_Clb_tellOfMember_133 ?_
      refine lv_iload_n hx hb d_Clb_tellOfMember_136 rfl (lv_at hl 1 rfl) ?_
      obtain ⟨hi, h⟩ := h
      refine lC_7 hx hb hK hP hi d_Clb_tellOfMember_137 ?_
      exact r_iret hx hb hr hlocks hP hD hS d_Clb_tellOfMember_138 h
    by_cases hc6 : p2 = 6
    · have h := h.2.2.2.2.2.2.1 hc6
      refine lv_tableIn (off := 125) (tgt := 139) hx hb d_Clb_tellOfMember_14 (by rw [hc6]; decide) (by rw [hc6]; decide) (by rw [hc6]; rfl) (by decide) ?_
      refine lv_aload_n hx hb d_Clb_tellOfMember_139 rfl (lv_at hl 0 rfl) ?_
      refine gC_Clb_cards hx hb hts hown hK hP tb_155 d_Clb_tellOfMember_140 ?_
      refine gC_Crd_goodWeeks hx hb hts hown hK hP tb_60 d_Clb_tellOfMember_143 ?_
      refine lv_iload_n hx hb d_Clb_tellOfMember_146 rfl (lv_at hl 1 rfl) ?_
      obtain ⟨hi, h⟩ := h
      refine lC_8 hx hb hK hP hi d_Clb_tellOfMember_147 ?_
      refine call_S (As := [.long (u1.2.2 p1.toNatClampNeg)]) (rest := []) hx hb hml hts hown so_Clb_196 rfl ⟨Nat.le_of_ble_eq_true rfl, Nat.le_of_ble_eq_true rfl⟩ ⟨Nat.le_of_ble_eq_true rfl, Nat.le_of_ble_eq_true rfl⟩ hl.1 rfl (Nat.le_of_ble_eq_true rfl) d_Clb_tellOfMember_148 (k_Lng_bitCount l (u1.2.2 p1.toNatClampNeg)) ?_
      exact r_iret hx hb hr hlocks hP hD hS d_Clb_tellOfMember_151 h
    by_cases hc7 : p2 = 7
    · have h := h.2.2.2.2.2.2.2.1 hc7
      refine lv_tableIn (off := 138) (tgt := 152) hx hb d_Clb_tellOfMember_14 (by rw [hc7]; decide) (by rw [hc7]; decide) (by rw [hc7]; rfl) (by decide) ?_
      refine lv_aload_n hx hb d_Clb_tellOfMember_152 rfl (lv_at hl 0 rfl) ?_
      refine gC_Clb_cards hx hb hts hown hK hP tb_155 d_Clb_tellOfMember_153 ?_
      refine lv_iload_n hx hb d_Clb_tellOfMember_156 rfl (lv_at hl 1 rfl) ?_
      refine lv_aload_n hx hb d_Clb_tellOfMember_157 rfl (lv_at hl 0 rfl) ?_
      refine gC_Clb_week hx hb hts hown hK hP tb_148 d_Clb_tellOfMember_158 ?_
      refine call_Vi1 (own := "HamperClub$Club") (As := [.int p1, .int (u1.1 0)]) (rest := []) (q0 := 1) (ci := 1) hx hb hml hts hown hK hA hP hD hS ok_Clb_202 rfl ⟨Nat.le_of_ble_eq_true rfl, Nat.le_of_ble_eq_true rfl⟩ ⟨Nat.le_of_ble_eq_true rfl, Nat.le_of_ble_eq_true rfl⟩ rfl rfl rfl hl.1 rfl (Nat.le_of_ble_eq_true rfl) d_Clb_tellOfMember_161 (c_Crd_rowOfGoodWeeks l G ad _ u1 p1 (u1.1 0) _ h) (fun x6 u5 H locs h hP hD hS => ?_)
      exact r_iret hx hb hr hlocks hP hD hS d_Clb_tellOfMember_164 h
    by_cases hc8 : p2 = 8
    · have h := h.2.2.2.2.2.2.2.2.1 hc8
      refine lv_tableIn (off := 151) (tgt := 165) hx hb d_Clb_tellOfMember_14 (by rw [hc8]; decide) (by rw [hc8]; decide) (by rw [hc8]; rfl) (by decide) ?_
      refine lv_aload_n hx hb d_Clb_tellOfMember_165 rfl (lv_at hl 0 rfl) ?_
      refine gC_Clb_cards hx hb hts hown hK hP tb_155 d_Clb_tellOfMember_166 ?_
      refine gC_Crd_latestGood hx hb hts hown hK hP tb_62 d_Clb_tellOfMember_169 ?_
      refine lv_iload_n hx hb d_Clb_tellOfMember_172 rfl (lv_at hl 1 rfl) ?_
      obtain ⟨hi, h⟩ := h
      refine lC_9 hx hb hK hP hi d_Clb_tellOfMember_173 ?_
      exact r_iret hx hb hr hlocks hP hD hS d_Clb_tellOfMember_174 h
    by_cases hc9 : p2 = 9
    · have h := h.2.2.2.2.2.2.2.2.2.1 hc9
      refine lv_tableIn (off := 161) (tgt := 175) hx hb d_Clb_tellOfMember_14 (by rw [hc9]; decide) (by rw [hc9]; decide) (by rw [hc9]; rfl) (by decide) ?_
      refine lv_aload_n hx hb d_Clb_tellOfMember_175 rfl (lv_at hl 0 rfl) ?_
      refine gC_Clb_cards hx hb hts hown hK hP tb_155 d_Clb_tellOfMember_176 ?_
      refine gC_Crd_paid hx hb hts hown hK hP tb_55 d_Clb_tellOfMember_179 ?_
      refine lv_iload_n hx hb d_Clb_tellOfMember_182 rfl (lv_at hl 1 rfl) ?_
      obtain ⟨hi, h⟩ := h
      refine lC_6 hx hb hK hP hi d_Clb_tellOfMember_183 ?_
      exact r_iret hx hb hr hlocks hP hD hS d_Clb_tellOfMember_184 h
    by_cases hc10 : p2 = 10
    · have h := h.2.2.2.2.2.2.2.2.2.2.1 hc10
      refine lv_tableIn (off := 171) (tgt := 185) hx hb d_Clb_tellOfMember_14 (by rw [hc10]; decide) (by rw [hc10]; decide) (by rw [hc10]; rfl) (by decide) ?_
      refine lv_aload_n hx hb d_Clb_tellOfMember_185 rfl (lv_at hl 0 rfl) ?_
      refine gC_Clb_hampers hx hb hts hown hK hP tb_157 d_Clb_tellOfMember_186 ?_
      refine gC_Hmp_got hx hb hts hown hK hP tb_108 d_Clb_tellOfMember_189 ?_
      refine lv_iload_n hx hb d_Clb_tellOfMember_192 rfl (lv_at hl 1 rfl) ?_
      obtain ⟨hi, h⟩ := h
      refine lC_15 hx hb hK hP hi d_Clb_tellOfMember_193 ?_
      exact r_iret hx hb hr hlocks hP hD hS d_Clb_tellOfMember_194 h
    have h := h.2.2.2.2.2.2.2.2.2.2.2
    have h := h hc0
    have h := h hc1
    have h := h hc2
    have h := h hc3
    have h := h hc4
    have h := h hc5
    have h := h hc6
    have h := h hc7
    have h := h hc8
    have h := h hc9
    have h := h hc10
    refine lv_tableOut (tgt := 195) hx hb d_Clb_tellOfMember_14 (tb_out (lo := 0) (n := 10) (by decide) (fun k hk => by rcases (show k = 0 ∨ k = 1 ∨ k = 2 ∨ k = 3 ∨ k = 4 ∨ k = 5 ∨ k = 6 ∨ k = 7 ∨ k = 8 ∨ k = 9 ∨ k = 10 by omega) with rfl | rfl | rfl | rfl | rfl | rfl | rfl | rfl | rfl | rfl | rfl <;> first | exact hc0 | exact hc1 | exact hc2 | exact hc3 | exact hc4 | exact hc5 | exact hc6 | exact hc7 | exact hc8 | exact hc9 | exact hc10)) (by decide) ?_
    refine lv_iconst (v := (-1)) hx hb d_Clb_tellOfMember_195 (by decide) ?_
    exact r_iret hx hb hr hlocks hP hD hS d_Clb_tellOfMember_196 h
  · have h := h.1 hc
    refine lv_iconst (v := (-1)) hx hb d_Clb_tellOfMember_11 (by decide) ?_
    exact r_iret hx hb hr hlocks hP hD hS d_Clb_tellOfMember_12 h
def wp_Clb_passWeek (u : CS) (Post : Int32 → CS → Prop) : Prop := (((u.1 1) = 0 → (((u.1 0) < 60 → (∀ u1 : CS, u1 = (cS u 0 ((u.1 0) + 1)) → (wp_Clb_replaceCards u1  (fun u2 => (wp_Clb_dropLapsed u2  (fun x4 u3 => (∀ u5 : CS, u5 = (cS u3 3 ((u3.1 3) + x4)) → Post x4 u5))))))) ∧ (¬ (u.1 0) < 60 → Post (-3) u))) ∧ (¬ (u.1 1) = 0 → Post (-2) u))
theorem ok_Clb_124 : CallOk y_Clb_replaceCards b_Clb_replaceCards 4 none 0 0 "HamperClub$Club" 124 := ⟨tb_384, tb_386, sl_1, tb_3, tb_387, by decide +kernel⟩
theorem ok_Clb_127 : CallOk y_Clb_dropLapsed b_Clb_dropLapsed 4 (some .int) 2 0 "HamperClub$Club" 127 := ⟨tb_388, tb_390, sl_2, tb_3, tb_391, by decide +kernel⟩
set_option maxHeartbeats 4000000 in
set_option maxRecDepth 100000 in
theorem c_Clb_passWeek (l : Launch) (G : GG) (ad : Nat → Nat) (sz : Nat) (u : CS) (Post : Int32 → CS → Prop) (h : wp_Clb_passWeek u Post) : CMi l y_Clb_passWeek b_Clb_passWeek 2 .int 3 G [.ref (ad 0)] sz (clubW G ad u) (clubW G ad) Post := by
  refine CMi.start (by decide) (Nat.le_of_ble_eq_true rfl) (fun p e s m below meth c A ls hx hb hr hts hown hml hlocks hA hS hP hD hK hl => ?_)
  unfold wp_Clb_passWeek at h
  have hl : lv_has ls 2 [(0, .ref (ad 0))] := hl
  refine lv_aload_n hx hb d_Clb_passWeek_0 rfl (lv_at hl 0 rfl) ?_
  refine gC_Clb_settled hx hb hts hown hK hP tb_151 d_Clb_passWeek_1 ?_
  refine lv_if_eq (tgt := 10) hx hb d_Clb_passWeek_4 (by decide) (fun hc => ?_) (fun hc => ?_)
  · have h := h.1 hc
    refine lv_aload_n hx hb d_Clb_passWeek_10 rfl (lv_at hl 0 rfl) ?_
    refine gC_Clb_week hx hb hts hown hK hP tb_148 d_Clb_passWeek_11 ?_
    refine lv_bipush (v := 60) hx hb d_Clb_passWeek_14 (by decide) ?_
    refine lv_icmp_lt (tgt := 22) hx hb d_Clb_passWeek_16 (by decide) (fun hc => ?_) (fun hc => ?_)
    · have h := h.1 hc
      refine lv_aload_n hx hb d_Clb_passWeek_22 rfl (lv_at hl 0 rfl) ?_
      refine lv_dup hx hb d_Clb_passWeek_23 rfl ?_
      refine gC_Clb_week hx hb hts hown hK hP tb_148 d_Clb_passWeek_24 ?_
      refine lv_iconst (v := 1) hx hb d_Clb_passWeek_27 (by decide) ?_
      refine lv_iadd hx hb d_Clb_passWeek_28 ?_
      refine pC_Clb_week hx hb hts hown hK hP hD hS tb_148 d_Clb_passWeek_29 (fun u1 H locs eu1 hP hD hS => ?_)
      have h := h u1 eu1
      refine lv_aload_n hx hb d_Clb_passWeek_32 rfl (lv_at hl 0 rfl) ?_
      refine call_Vv1 (own := "HamperClub$Club") (As := []) (rest := []) (q0 := 0) (ci := 2) hx hb hml hts hown hK hA hP hD hS ok_Clb_124 rfl ⟨Nat.le_of_ble_eq_true rfl, Nat.le_of_ble_eq_true rfl⟩ ⟨Nat.le_of_ble_eq_true rfl, Nat.le_of_ble_eq_true rfl⟩ rfl rfl rfl hl.1 rfl (Nat.le_of_ble_eq_true rfl) d_Clb_passWeek_33 (c_Clb_replaceCards l G ad _ u1  _ h) (fun u2 H locs h hP hD hS => ?_)
      refine lv_aload_n hx hb d_Clb_passWeek_36 rfl (lv_at hl 0 rfl) ?_
      refine call_Vi1 (own := "HamperClub$Club") (As := []) (rest := []) (q0 := 0) (ci := 2) hx hb hml hts hown hK hA hP hD hS ok_Clb_127 rfl ⟨Nat.le_of_ble_eq_true rfl, Nat.le_of_ble_eq_true rfl⟩ ⟨Nat.le_of_ble_eq_true rfl, Nat.le_of_ble_eq_true rfl⟩ rfl rfl rfl hl.1 rfl (Nat.le_of_ble_eq_true rfl) d_Clb_passWeek_37 (c_Clb_dropLapsed l G ad _ u2  _ h) (fun x4 u3 H locs h hP hD hS => ?_)
      refine lv_istore_n (lv' := [(1, .int x4), (0, .ref (ad 0))]) hx hb d_Clb_passWeek_40 rfl hl (by decide) rfl (fun ls hl => ?_)
      refine lv_aload_n hx hb d_Clb_passWeek_41 rfl (lv_at hl 1 rfl) ?_
      refine lv_dup hx hb d_Clb_passWeek_42 rfl ?_
      refine gC_Clb_lapses hx hb hts hown hK hP tb_154 d_Clb_passWeek_43 ?_
      refine lv_iload_n hx hb d_Clb_passWeek_46 rfl (lv_at hl 0 rfl) ?_
      refine lv_iadd hx hb d_Clb_passWeek_47 ?_
      refine pC_Clb_lapses hx hb hts hown hK hP hD hS tb_154 d_Clb_passWeek_48 (fun u5 H locs eu5 hP hD hS => ?_)
      have h := h u5 eu5
      refine lv_iload_n hx hb d_Clb_passWeek_51 rfl (lv_at hl 0 rfl) ?_
      exact r_iret hx hb hr hlocks hP hD hS d_Clb_passWeek_52 h
    · have h := h.2 hc
      refine lv_bipush (v := (-3)) hx hb d_Clb_passWeek_19 (by decide) ?_
      exact r_iret hx hb hr hlocks hP hD hS d_Clb_passWeek_21 h
  · have h := h.2 hc
    refine lv_bipush (v := (-2)) hx hb d_Clb_passWeek_7 (by decide) ?_
    exact r_iret hx hb hr hlocks hP hD hS d_Clb_passWeek_9 h
def wl_Clb_handOutKind_2 (Post : CS → Prop) (K : CS → Prop) : Nat → Int32 → Int32 → CS → Prop
  | 0, _, _ => fun _ => False
  | n + 1, a1, a2 => fun u1 => (((u1.1 4) ≤ a2 → K  u1) ∧ (¬ (u1.1 4) ≤ a2 → (vp_in a2 12 ∧ ((((u1.2.1 9) a2.toNatClampNeg) = a1 → (wp_Hmp_hasOneKept u1 a2 (fun x4 u3 => ((x4 = 0 → (∀ x5 : Int32, x5 = a2 + 1 → wl_Clb_handOutKind_2 Post K n a1 x5 u3)) ∧ (¬ x4 = 0 → (wp_Clb_handOutOne u3 a2 a1 (fun u6 => (∀ x7 : Int32, x7 = a2 + 1 → wl_Clb_handOutKind_2 Post K n a1 x7 u6)))))))) ∧ (¬ ((u1.2.1 9) a2.toNatClampNeg) = a1 → (∀ x2 : Int32, x2 = a2 + 1 → wl_Clb_handOutKind_2 Post K n a1 x2 u1))))))
def wp_Clb_handOutKind (u : CS) (p1 : Int32) (Post : CS → Prop) : Prop := (∃ k9 : Nat, wl_Clb_handOutKind_2 Post (fun u8 => Post u8) k9 p1 0 u)
theorem ok_Clb_153 : CallOk y_Clb_handOutOne b_Clb_handOutOne 6 none 2 2 "HamperClub$Club" 153 := ⟨tb_511, tb_513, sl_5, tb_3, tb_514, by decide +kernel⟩
set_option maxHeartbeats 4000000 in
set_option maxRecDepth 100000 in
theorem x_Clb_handOutKind_2 {p : Program} {l : Launch} {e : Env} {s : State} {m : MethodId} {args : Array Value} {below : List Frame} {meth : Method} {c : Code} {A : Nat → Prop} {G : GG} {ad : Nat → Nat} {Post : CS → Prop} {K : CS → Prop} {Q : State → Prop}
    (hx : p.tables.exec = Jvm.exec) (hb : c.code = b_Clb_handOutKind) (hr : meth.sig.returnType = none) (hts : ∀ w ∈ Tg, w.before args s = true) (hown : s.vm.findClass "HamperClub$Club" = some m.cls) (hml : c.maxLocals = 3) (hlocks : meth.locks = false) (hA : ∀ q, s.heap.size ≤ q → A q) (hK : KN G s)
    (hQ : Q = MQ below (va_Qv Post (BW G A (clubW G ad)) A) args s 0 0 A)
    (kk : ∀ (u : CS), K  u → ∀ (H : Heap) (locs : List Loc) (ls : Array Slot), va_P G.1 classes (clubW G ad u) H → va_D A (clubW G ad u) → va_S A s.heap H locs → lv_has ls 3 [] → W p l e (rmK 3) s m args below meth c H locs 0 0 Q (F0 m 49 ls [])) :
    ∀ (n : Nat) (a1 : Int32) (a2 : Int32) (u : CS), wl_Clb_handOutKind_2 Post K n a1 a2 u → ∀ (H : Heap) (locs : List Loc) (ls : Array Slot), va_P G.1 classes (clubW G ad u) H → va_D A (clubW G ad u) → va_S A s.heap H locs → lv_has ls 3 [(0, .ref (ad 0)), (1, .int a1), (2, .int a2)] → W p l e (rmK 3) s m args below meth c H locs 0 0 Q (F0 m 2 ls []) := by
  subst hQ
  intro n
  induction n with
  | zero => intro a1 a2 u h; exact h.elim
  | succ n ih =>
    intro a1 a2 u1 h H locs ls hP hD hS hl
    unfold wl_Clb_handOutKind_2 at h
    refine lv_iload_n hx hb d_Clb_handOutKind_2 rfl (lv_at hl 2 rfl) ?_
    refine lv_aload_n hx hb d_Clb_handOutKind_3 rfl (lv_at hl 0 rfl) ?_
    refine gC_Clb_cards hx hb hts hown hK hP tb_155 d_Clb_handOutKind_4 ?_
    refine gC_Crd_count hx hb hts hown hK hP tb_44 d_Clb_handOutKind_7 ?_
    refine lv_icmp_ge (tgt := 49) hx hb d_Clb_handOutKind_10 (by decide) (fun hc => ?_) (fun hc => ?_)
    · have h := h.1 hc
      exact kk  u1 h _ _ _ hP hD hS (lv_sub hl [] rfl)
    · have h := h.2 hc
      refine lv_aload_n hx hb d_Clb_handOutKind_13 rfl (lv_at hl 0 rfl) ?_
      refine gC_Clb_hampers hx hb hts hown hK hP tb_157 d_Clb_handOutKind_14 ?_
      refine gC_Hmp_choice hx hb hts hown hK hP tb_104 d_Clb_handOutKind_17 ?_
      refine lv_iload_n hx hb d_Clb_handOutKind_20 rfl (lv_at hl 2 rfl) ?_
      obtain ⟨hi, h⟩ := h
      refine lC_13 hx hb hK hP hi d_Clb_handOutKind_21 ?_
      refine lv_iload_n hx hb d_Clb_handOutKind_22 rfl (lv_at hl 1 rfl) ?_
      refine lv_icmp_ne (tgt := 43) hx hb d_Clb_handOutKind_23 (by decide) (fun hc => ?_) (fun hc => ?_)
      · have h := h.2 hc
        obtain ⟨x2, ex2⟩ : ∃ y : Int32, y = a2 + 1 := ⟨_, rfl⟩
        have h := h x2 ex2
        refine lv_iinc (v := x2) (lv' := [(2, .int x2), (0, .ref (ad 0)), (1, .int a1)]) hx hb d_Clb_handOutKind_43 hl (k := 2) rfl (by rw [ex2]; rfl) (by decide) rfl (fun ls hl => ?_)
        refine lv_goto (tgt := 2) hx hb d_Clb_handOutKind_46 (by decide) ?_
        exact ih a1 x2 u1 h _ _ _ hP hD hS (lv_sub hl [1, 2, 0] rfl)
      · have h := h.1 hc
        refine lv_aload_n hx hb d_Clb_handOutKind_26 rfl (lv_at hl 0 rfl) ?_
        refine gC_Clb_hampers hx hb hts hown hK hP tb_157 d_Clb_handOutKind_27 ?_
        refine lv_iload_n hx hb d_Clb_handOutKind_30 rfl (lv_at hl 2 rfl) ?_
        refine call_Vi1 (own := "HamperClub$Club") (As := [.int a2]) (rest := []) (q0 := 10) (ci := 3) hx hb hml hts hown hK hA hP hD hS ok_Clb_150 rfl ⟨Nat.le_of_ble_eq_true rfl, Nat.le_of_ble_eq_true rfl⟩ ⟨Nat.le_of_ble_eq_true rfl, Nat.le_of_ble_eq_true rfl⟩ rfl rfl rfl hl.1 rfl (Nat.le_of_ble_eq_true rfl) d_Clb_handOutKind_31 (c_Hmp_hasOneKept l G ad _ u1 a2 _ h) (fun x4 u3 H locs h hP hD hS => ?_)
        refine lv_if_eq (tgt := 43) hx hb d_Clb_handOutKind_34 (by decide) (fun hc => ?_) (fun hc => ?_)
        · have h := h.1 hc
          obtain ⟨x5, ex5⟩ : ∃ y : Int32, y = a2 + 1 := ⟨_, rfl⟩
          have h := h x5 ex5
          refine lv_iinc (v := x5) (lv' := [(2, .int x5), (0, .ref (ad 0)), (1, .int a1)]) hx hb d_Clb_handOutKind_43 hl (k := 2) rfl (by rw [ex5]; rfl) (by decide) rfl (fun ls hl => ?_)
          refine lv_goto (tgt := 2) hx hb d_Clb_handOutKind_46 (by decide) ?_
          exact ih a1 x5 u3 h _ _ _ hP hD hS (lv_sub hl [1, 2, 0] rfl)
        · have h := h.2 hc
          refine lv_aload_n hx hb d_Clb_handOutKind_37 rfl (lv_at hl 0 rfl) ?_
          refine lv_iload_n hx hb d_Clb_handOutKind_38 rfl (lv_at hl 2 rfl) ?_
          refine lv_iload_n hx hb d_Clb_handOutKind_39 rfl (lv_at hl 1 rfl) ?_
          refine call_Vv1 (own := "HamperClub$Club") (As := [.int a2, .int a1]) (rest := []) (q0 := 0) (ci := 2) hx hb hml hts hown hK hA hP hD hS ok_Clb_153 rfl ⟨Nat.le_of_ble_eq_true rfl, Nat.le_of_ble_eq_true rfl⟩ ⟨Nat.le_of_ble_eq_true rfl, Nat.le_of_ble_eq_true rfl⟩ rfl rfl rfl hl.1 rfl (Nat.le_of_ble_eq_true rfl) d_Clb_handOutKind_40 (c_Clb_handOutOne l G ad _ u3 a2 a1 _ h) (fun u6 H locs h hP hD hS => ?_)
          obtain ⟨x7, ex7⟩ : ∃ y : Int32, y = a2 + 1 := ⟨_, rfl⟩
          have h := h x7 ex7
          refine lv_iinc (v := x7) (lv' := [(2, .int x7), (0, .ref (ad 0)), (1, .int a1)]) hx hb d_Clb_handOutKind_43 hl (k := 2) rfl (by rw [ex7]; rfl) (by decide) rfl (fun ls hl => ?_)
          refine lv_goto (tgt := 2) hx hb d_Clb_handOutKind_46 (by decide) ?_
          exact ih a1 x7 u6 h _ _ _ hP hD hS (lv_sub hl [1, 2, 0] rfl)
set_option maxHeartbeats 4000000 in
set_option maxRecDepth 100000 in
theorem c_Clb_handOutKind (l : Launch) (G : GG) (ad : Nat → Nat) (sz : Nat) (u : CS) (p1 : Int32) (Post : CS → Prop) (h : wp_Clb_handOutKind u p1 Post) : CMv l y_Clb_handOutKind b_Clb_handOutKind 3 3 G [.ref (ad 0), .int p1] sz (clubW G ad u) (clubW G ad) Post := by
  refine CMv.start (by decide) (Nat.le_of_ble_eq_true rfl) (fun p e s m below meth c A ls hx hb hr hts hown hml hlocks hA hS hP hD hK hl => ?_)
  unfold wp_Clb_handOutKind at h
  have hl : lv_has ls 3 [(0, .ref (ad 0)), (1, .int p1)] := hl
  refine lv_iconst (v := 0) hx hb d_Clb_handOutKind_0 (by decide) ?_
  refine lv_istore_n (lv' := [(2, .int 0), (0, .ref (ad 0)), (1, .int p1)]) hx hb d_Clb_handOutKind_1 rfl hl (by decide) rfl (fun ls hl => ?_)
  obtain ⟨n, h⟩ := h
  refine x_Clb_handOutKind_2 hx hb hr hts hown hml hlocks hA hK rfl (fun u8 h H locs ls hP hD hS hl => ?_) n p1 0 u h _ _ _ hP hD hS (lv_sub hl [1, 2, 0] rfl)
  exact r_vret hx hb hr hlocks hP hD hS d_Clb_handOutKind_49 h
def wl_Clb_settleAll_12 (Post : Int32 → CS → Prop) (K : CS → Prop) : Nat → Int32 → CS → Prop
  | 0, _ => fun _ => False
  | n + 1, a1 => fun u1 => (((u1.1 4) ≤ a1 → K  u1) ∧ (¬ (u1.1 4) ≤ a1 → (wp_Clb_bonusOf u1 a1 (fun x3 u2 => (wp_Clb_payMember u2 a1 x3 (fun u4 => (∀ x5 : Int32, x5 = a1 + 1 → wl_Clb_settleAll_12 Post K n x5 u4)))))))
def wl_Clb_settleAll_49 (Post : Int32 → CS → Prop) (K : CS → Prop) : Nat → Int32 → CS → Prop
  | 0, _ => fun _ => False
  | n + 1, a1 => fun u8 => ((4 ≤ a1 → K  u8) ∧ (¬ 4 ≤ a1 → (wp_Clb_handOutKind u8 a1 (fun u9 => (∀ x10 : Int32, x10 = a1 + 1 → wl_Clb_settleAll_49 Post K n x10 u9)))))
def wl_Clb_settleAll_67 (Post : Int32 → CS → Prop) (K : CS → Prop) : Nat → Int32 → CS → Prop
  | 0, _ => fun _ => False
  | n + 1, a1 => fun u12 => (((u12.1 4) ≤ a1 → K  u12) ∧ (¬ (u12.1 4) ≤ a1 → (vp_in a1 12 ∧ (wp_Clb_payMember u12 a1 (((u12.2.1 0) a1.toNatClampNeg) * 10) (fun u13 => (vp_in a1 12 ∧ (∀ u14 : CS, u14 = (cA u13 0 (upd (u13.2.1 0) a1.toNatClampNeg 0)) → (vp_in a1 12 ∧ (∀ u15 : CS, u15 = (cA u14 1 (upd (u14.2.1 1) a1.toNatClampNeg 2)) → (∀ x16 : Int32, x16 = a1 + 1 → wl_Clb_settleAll_67 Post K n x16 u15))))))))))
def wp_Clb_settleAll (u : CS) (Post : Int32 → CS → Prop) : Prop := (((u.1 1) = 0 → (∃ k22 : Nat, wl_Clb_settleAll_12 Post (fun u6 => (∀ u7 : CS, u7 = (cS u6 6 0) → (∃ k21 : Nat, wl_Clb_settleAll_49 Post (fun u11 => (∃ k20 : Nat, wl_Clb_settleAll_67 Post (fun u17 => (wp_Hmp_forgetChoices u17  (fun u18 => (∀ u19 : CS, u19 = (cS u18 1 1) → Post (u19.1 2) u19)))) k20 0 u11)) k21 0 u7))) k22 0 u)) ∧ (¬ (u.1 1) = 0 → Post (-2) u))
theorem ok_Clb_134 : CallOk y_Clb_bonusOf b_Clb_bonusOf 3 (some .int) 2 1 "HamperClub$Club" 134 := ⟨tb_498, tb_481, tb_482, tb_3, tb_483, by decide +kernel⟩
theorem ok_Clb_138 : CallOk y_Clb_handOutKind b_Clb_handOutKind 3 none 3 1 "HamperClub$Club" 138 := ⟨tb_507, tb_509, sl_4, tb_3, tb_510, by decide +kernel⟩
theorem ok_Clb_141 : CallOk y_Hmp_forgetChoices b_Hmp_forgetChoices 1 none 1 0 "HamperClub$Club" 141 := ⟨tb_523, tb_524, tb_525, tb_6, tb_526, by decide +kernel⟩
set_option maxHeartbeats 4000000 in
set_option maxRecDepth 100000 in
theorem x_Clb_settleAll_12 {p : Program} {l : Launch} {e : Env} {s : State} {m : MethodId} {args : Array Value} {below : List Frame} {meth : Method} {c : Code} {A : Nat → Prop} {G : GG} {ad : Nat → Nat} {Post : Int32 → CS → Prop} {K : CS → Prop} {Q : State → Prop}
    (hx : p.tables.exec = Jvm.exec) (hb : c.code = b_Clb_settleAll) (hr : meth.sig.returnType = some .int) (hts : ∀ w ∈ Tg, w.before args s = true) (hown : s.vm.findClass "HamperClub$Club" = some m.cls) (hml : c.maxLocals = 2) (hlocks : meth.locks = false) (hA : ∀ q, s.heap.size ≤ q → A q) (hK : KN G s)
    (hQ : Q = MQ below (va_Qi Post (BW G A (clubW G ad)) A) args s 0 0 A)
    (kk : ∀ (u : CS), K  u → ∀ (H : Heap) (locs : List Loc) (ls : Array Slot), va_P G.1 classes (clubW G ad u) H → va_D A (clubW G ad u) → va_S A s.heap H locs → lv_has ls 2 [(0, .ref (ad 0))] → W p l e (rmK 4) s m args below meth c H locs 0 0 Q (F0 m 39 ls [])) :
    ∀ (n : Nat) (a1 : Int32) (u : CS), wl_Clb_settleAll_12 Post K n a1 u → ∀ (H : Heap) (locs : List Loc) (ls : Array Slot), va_P G.1 classes (clubW G ad u) H → va_D A (clubW G ad u) → va_S A s.heap H locs → lv_has ls 2 [(0, .ref (ad 0)), (1, .int a1)] → W p l e (rmK 4) s m args below meth c H locs 0 0 Q (F0 m 12 ls []) := by
  subst hQ
  intro n
  induction n with
  | zero => intro a1 u h; exact h.elim
  | succ n ih =>
    intro a1 u1 h H locs ls hP hD hS hl
    unfold wl_Clb_settleAll_12 at h
    refine lv_iload_n hx hb d_Clb_settleAll_12 rfl (lv_at hl 1 rfl) ?_
    refine lv_aload_n hx hb d_Clb_settleAll_13 rfl (lv_at hl 0 rfl) ?_
    refine gC_Clb_cards hx hb hts hown hK hP tb_155 d_Clb_settleAll_14 ?_
    refine gC_Crd_count hx hb hts hown hK hP tb_44 d_Clb_settleAll_17 ?_
    refine lv_icmp_ge (tgt := 39) hx hb d_Clb_settleAll_20 (by decide) (fun hc => ?_) (fun hc => ?_)
    · have h := h.1 hc
      exact kk  u1 h _ _ _ hP hD hS (lv_sub hl [0] rfl)
    · have h := h.2 hc
      refine lv_aload_n hx hb d_Clb_settleAll_23 rfl (lv_at hl 0 rfl) ?_
      refine lv_iload_n hx hb d_Clb_settleAll_24 rfl (lv_at hl 1 rfl) ?_
      refine lv_aload_n hx hb d_Clb_settleAll_25 rfl (lv_at hl 0 rfl) ?_
      refine lv_iload_n hx hb d_Clb_settleAll_26 rfl (lv_at hl 1 rfl) ?_
      refine call_Vi1 (own := "HamperClub$Club") (As := [.int a1]) (rest := [.int a1, .ref (ad 0)]) (q0 := 0) (ci := 2) hx hb hml hts hown hK hA hP hD hS ok_Clb_134 rfl ⟨Nat.le_of_ble_eq_true rfl, Nat.le_of_ble_eq_true rfl⟩ ⟨Nat.le_of_ble_eq_true rfl, Nat.le_of_ble_eq_true rfl⟩ rfl rfl rfl hl.1 rfl (Nat.le_of_ble_eq_true rfl) d_Clb_settleAll_27 (c_Clb_bonusOf l G ad _ u1 a1 _ h) (fun x3 u2 H locs h hP hD hS => ?_)
      refine call_Vv1 (own := "HamperClub$Club") (As := [.int a1, .int x3]) (rest := []) (q0 := 0) (ci := 2) hx hb hml hts hown hK hA hP hD hS ok_Clb_97 rfl ⟨Nat.le_of_ble_eq_true rfl, Nat.le_of_ble_eq_true rfl⟩ ⟨Nat.le_of_ble_eq_true rfl, Nat.le_of_ble_eq_true rfl⟩ rfl rfl rfl hl.1 rfl (Nat.le_of_ble_eq_true rfl) d_Clb_settleAll_30 (c_Clb_payMember l G ad _ u2 a1 x3 _ h) (fun u4 H locs h hP hD hS => ?_)
      obtain ⟨x5, ex5⟩ : ∃ y : Int32, y = a1 + 1 := ⟨_, rfl⟩
      have h := h x5 ex5
      refine lv_iinc (v := x5) (lv' := [(1, .int x5), (0, .ref (ad 0))]) hx hb d_Clb_settleAll_33 hl (k := 1) rfl (by rw [ex5]; rfl) (by decide) rfl (fun ls hl => ?_)
      refine lv_goto (tgt := 12) hx hb d_Clb_settleAll_36 (by decide) ?_
      exact ih x5 u4 h _ _ _ hP hD hS (lv_sub hl [1, 0] rfl)
set_option maxHeartbeats 4000000 in
set_option maxRecDepth 100000 in
theorem x_Clb_settleAll_49 {p : Program} {l : Launch} {e : Env} {s : State} {m : MethodId} {args : Array Value} {below : List Frame} {meth : Method} {c : Code} {A : Nat → Prop} {G : GG} {ad : Nat → Nat} {Post : Int32 → CS → Prop} {K : CS → Prop} {Q : State → Prop}
    (hx : p.tables.exec = Jvm.exec) (hb : c.code = b_Clb_settleAll) (hr : meth.sig.returnType = some .int) (hts : ∀ w ∈ Tg, w.before args s = true) (hown : s.vm.findClass "HamperClub$Club" = some m.cls) (hml : c.maxLocals = 2) (hlocks : meth.locks = false) (hA : ∀ q, s.heap.size ≤ q → A q) (hK : KN G s)
    (hQ : Q = MQ below (va_Qi Post (BW G A (clubW G ad)) A) args s 0 0 A)
    (kk : ∀ (u : CS), K  u → ∀ (H : Heap) (locs : List Loc) (ls : Array Slot), va_P G.1 classes (clubW G ad u) H → va_D A (clubW G ad u) → va_S A s.heap H locs → lv_has ls 2 [(0, .ref (ad 0))] → W p l e (rmK 4) s m args below meth c H locs 0 0 Q (F0 m 65 ls [])) :
    ∀ (n : Nat) (a1 : Int32) (u : CS), wl_Clb_settleAll_49 Post K n a1 u → ∀ (H : Heap) (locs : List Loc) (ls : Array Slot), va_P G.1 classes (clubW G ad u) H → va_D A (clubW G ad u) → va_S A s.heap H locs → lv_has ls 2 [(0, .ref (ad 0)), (1, .int a1)] → W p l e (rmK 4) s m args below meth c H locs 0 0 Q (F0 m 49 ls []) := by
  subst hQ
  intro n
  induction n with
  | zero => intro a1 u h; exact h.elim
  | succ n ih =>
    intro a1 u8 h H locs ls hP hD hS hl
    unfold wl_Clb_settleAll_49 at h
    refine lv_iload_n hx hb d_Clb_settleAll_49 rfl (lv_at hl 1 rfl) ?_
    refine lv_iconst (v := 4) hx hb d_Clb_settleAll_50 (by decide) ?_
    refine lv_icmp_ge (tgt := 65) hx hb d_Clb_settleAll_51 (by decide) (fun hc => ?_) (fun hc => ?_)
    · have h := h.1 hc
      exact kk  u8 h _ _ _ hP hD hS (lv_sub hl [0] rfl)
    · have h := h.2 hc
      refine lv_aload_n hx hb d_Clb_settleAll_54 rfl (lv_at hl 0 rfl) ?_
      refine lv_iload_n hx hb d_Clb_settleAll_55 rfl (lv_at hl 1 rfl) ?_
      refine call_Vv1 (own := "HamperClub$Club") (As := [.int a1]) (rest := []) (q0 := 0) (ci := 2) hx hb hml hts hown hK hA hP hD hS ok_Clb_138 rfl ⟨Nat.le_of_ble_eq_true rfl, Nat.le_of_ble_eq_true rfl⟩ ⟨Nat.le_of_ble_eq_true rfl, Nat.le_of_ble_eq_true rfl⟩ rfl rfl rfl hl.1 rfl (Nat.le_of_ble_eq_true rfl) d_Clb_settleAll_56 (c_Clb_handOutKind l G ad _ u8 a1 _ h) (fun u9 H locs h hP hD hS => ?_)
      obtain ⟨x10, ex10⟩ : ∃ y : Int32, y = a1 + 1 := ⟨_, rfl⟩
      have h := h x10 ex10
      refine lv_iinc (v := x10) (lv' := [(1, .int x10), (0, .ref (ad 0))]) hx hb d_Clb_settleAll_59 hl (k := 1) rfl (by rw [ex10]; rfl) (by decide) rfl (fun ls hl => ?_)
      refine lv_goto (tgt := 49) hx hb d_Clb_settleAll_62 (by decide) ?_
      exact ih x10 u9 h _ _ _ hP hD hS (lv_sub hl [1, 0] rfl)
set_option maxHeartbeats 4000000 in
set_option maxRecDepth 100000 in
theorem x_Clb_settleAll_67 {p : Program} {l : Launch} {e : Env} {s : State} {m : MethodId} {args : Array Value} {below : List Frame} {meth : Method} {c : Code} {A : Nat → Prop} {G : GG} {ad : Nat → Nat} {Post : Int32 → CS → Prop} {K : CS → Prop} {Q : State → Prop}
    (hx : p.tables.exec = Jvm.exec) (hb : c.code = b_Clb_settleAll) (hr : meth.sig.returnType = some .int) (hts : ∀ w ∈ Tg, w.before args s = true) (hown : s.vm.findClass "HamperClub$Club" = some m.cls) (hml : c.maxLocals = 2) (hlocks : meth.locks = false) (hA : ∀ q, s.heap.size ≤ q → A q) (hK : KN G s)
    (hQ : Q = MQ below (va_Qi Post (BW G A (clubW G ad)) A) args s 0 0 A)
    (kk : ∀ (u : CS), K  u → ∀ (H : Heap) (locs : List Loc) (ls : Array Slot), va_P G.1 classes (clubW G ad u) H → va_D A (clubW G ad u) → va_S A s.heap H locs → lv_has ls 2 [(0, .ref (ad 0))] → W p l e (rmK 4) s m args below meth c H locs 0 0 Q (F0 m 121 ls [])) :
    ∀ (n : Nat) (a1 : Int32) (u : CS), wl_Clb_settleAll_67 Post K n a1 u → ∀ (H : Heap) (locs : List Loc) (ls : Array Slot), va_P G.1 classes (clubW G ad u) H → va_D A (clubW G ad u) → va_S A s.heap H locs → lv_has ls 2 [(0, .ref (ad 0)), (1, .int a1)] → W p l e (rmK 4) s m args below meth c H locs 0 0 Q (F0 m 67 ls []) := by
  subst hQ
  intro n
  induction n with
  | zero => intro a1 u h; exact h.elim
  | succ n ih =>
    intro a1 u12 h H locs ls hP hD hS hl
    unfold wl_Clb_settleAll_67 at h
    refine lv_iload_n hx hb d_Clb_settleAll_67 rfl (lv_at hl 1 rfl) ?_
    refine lv_aload_n hx hb d_Clb_settleAll_68 rfl (lv_at hl 0 rfl) ?_
    refine gC_Clb_cards hx hb hts hown hK hP tb_155 d_Clb_settleAll_69 ?_
    refine gC_Crd_count hx hb hts hown hK hP tb_44 d_Clb_settleAll_72 ?_
    refine lv_icmp_ge (tgt := 121) hx hb d_Clb_settleAll_75 (by decide) (fun hc => ?_) (fun hc => ?_)
    · have h := h.1 hc
      exact kk  u12 h _ _ _ hP hD hS (lv_sub hl [0] rfl)
    · have h := h.2 hc
      refine lv_aload_n hx hb d_Clb_settleAll_78 rfl (lv_at hl 0 rfl) ?_
      refine lv_iload_n hx hb d_Clb_settleAll_79 rfl (lv_at hl 1 rfl) ?_
      refine lv_aload_n hx hb d_Clb_settleAll_80 rfl (lv_at hl 0 rfl) ?_
      refine gC_Clb_cards hx hb hts hown hK hP tb_155 d_Clb_settleAll_81 ?_
      refine gC_Crd_stamps hx hb hts hown hK hP tb_46 d_Clb_settleAll_84 ?_
      refine lv_iload_n hx hb d_Clb_settleAll_87 rfl (lv_at hl 1 rfl) ?_
      obtain ⟨hi, h⟩ := h
      refine lC_2 hx hb hK hP hi d_Clb_settleAll_88 ?_
      refine lv_bipush (v := 10) hx hb d_Clb_settleAll_89 (by decide) ?_
      refine lv_imul hx hb d_Clb_settleAll_91 ?_
      refine call_Vv1 (own := "HamperClub$Club") (As := [.int a1, .int (((u12.2.1 0) a1.toNatClampNeg) * 10)]) (rest := []) (q0 := 0) (ci := 2) hx hb hml hts hown hK hA hP hD hS ok_Clb_97 rfl ⟨Nat.le_of_ble_eq_true rfl, Nat.le_of_ble_eq_true rfl⟩ ⟨Nat.le_of_ble_eq_true rfl, Nat.le_of_ble_eq_true rfl⟩ rfl rfl rfl hl.1 rfl (Nat.le_of_ble_eq_true rfl) d_Clb_settleAll_92 (c_Clb_payMember l G ad _ u12 a1 (((u12.2.1 0) a1.toNatClampNeg) * 10) _ h) (fun u13 H locs h hP hD hS => ?_)
      refine lv_aload_n hx hb d_Clb_settleAll_95 rfl (lv_at hl 0 rfl) ?_
      refine gC_Clb_cards hx hb hts hown hK hP tb_155 d_Clb_settleAll_96 ?_
      refine gC_Crd_stamps hx hb hts hown hK hP tb_46 d_Clb_settleAll_99 ?_
      refine lv_iload_n hx hb d_Clb_settleAll_102 rfl (lv_at hl 1 rfl) ?_
      refine lv_iconst (v := 0) hx hb d_Clb_settleAll_103 (by decide) ?_
      obtain ⟨hi, h⟩ := h
      refine sC_2 hx hb hK hP hD hS hi d_Clb_settleAll_104 (fun u14 H locs eu14 hP hD hS => ?_)
      have h := h u14 eu14
      refine lv_aload_n hx hb d_Clb_settleAll_105 rfl (lv_at hl 0 rfl) ?_
      refine gC_Clb_cards hx hb hts hown hK hP tb_155 d_Clb_settleAll_106 ?_
      refine gC_Crd_status hx hb hts hown hK hP tb_49 d_Clb_settleAll_109 ?_
      refine lv_iload_n hx hb d_Clb_settleAll_112 rfl (lv_at hl 1 rfl) ?_
      refine lv_iconst (v := 2) hx hb d_Clb_settleAll_113 (by decide) ?_
      obtain ⟨hi, h⟩ := h
      refine sC_3 hx hb hK hP hD hS hi d_Clb_settleAll_114 (fun u15 H locs eu15 hP hD hS => ?_)
      have h := h u15 eu15
      obtain ⟨x16, ex16⟩ : ∃ y : Int32, y = a1 + 1 := ⟨_, rfl⟩
      have h := h x16 ex16
      refine lv_iinc (v := x16) (lv' := [(1, .int x16), (0, .ref (ad 0))]) hx hb d_Clb_settleAll_115 hl (k := 1) rfl (by rw [ex16]; rfl) (by decide) rfl (fun ls hl => ?_)
      refine lv_goto (tgt := 67) hx hb d_Clb_settleAll_118 (by decide) ?_
      exact ih x16 u15 h _ _ _ hP hD hS (lv_sub hl [1, 0] rfl)
set_option maxHeartbeats 4000000 in
set_option maxRecDepth 100000 in
theorem c_Clb_settleAll (l : Launch) (G : GG) (ad : Nat → Nat) (sz : Nat) (u : CS) (Post : Int32 → CS → Prop) (h : wp_Clb_settleAll u Post) : CMi l y_Clb_settleAll b_Clb_settleAll 2 .int 4 G [.ref (ad 0)] sz (clubW G ad u) (clubW G ad) Post := by
  refine CMi.start (by decide) (Nat.le_of_ble_eq_true rfl) (fun p e s m below meth c A ls hx hb hr hts hown hml hlocks hA hS hP hD hK hl => ?_)
  unfold wp_Clb_settleAll at h
  have hl : lv_has ls 2 [(0, .ref (ad 0))] := hl
  refine lv_aload_n hx hb d_Clb_settleAll_0 rfl (lv_at hl 0 rfl) ?_
  refine gC_Clb_settled hx hb hts hown hK hP tb_151 d_Clb_settleAll_1 ?_
  refine lv_if_eq (tgt := 10) hx hb d_Clb_settleAll_4 (by decide) (fun hc => ?_) (fun hc => ?_)
  · have h := h.1 hc
    refine lv_iconst (v := 0) hx hb d_Clb_settleAll_10 (by decide) ?_
    refine lv_istore_n (lv' := [(1, .int 0), (0, .ref (ad 0))]) hx hb d_Clb_settleAll_11 rfl hl (by decide) rfl (fun ls hl => ?_)
    obtain ⟨n, h⟩ := h
    refine x_Clb_settleAll_12 hx hb hr hts hown hml hlocks hA hK rfl (fun u6 h H locs ls hP hD hS hl => ?_) n 0 u h _ _ _ hP hD hS (lv_sub hl [1, 0] rfl)
    refine lv_aload_n hx hb d_Clb_settleAll_39 rfl (lv_at hl 0 rfl) ?_
    refine gC_Clb_accounts hx hb hts hown hK hP tb_159 d_Clb_settleAll_40 ?_
    refine lv_iconst (v := 0) hx hb d_Clb_settleAll_43 (by decide) ?_
    refine pC_Acc_pool hx hb hts hown hK hP hD hS tb_130 d_Clb_settleAll_44 (fun u7 H locs eu7 hP hD hS => ?_)
    have h := h u7 eu7
    refine lv_iconst (v := 0) hx hb d_Clb_settleAll_47 (by decide) ?_
    refine lv_istore_n (lv' := [(1, .int 0), (0, .ref (ad 0))]) hx hb d_Clb_settleAll_48 rfl hl (by decide) rfl (fun ls hl => ?_)
    obtain ⟨n, h⟩ := h
    refine x_Clb_settleAll_49 hx hb hr hts hown hml hlocks hA hK rfl (fun u11 h H locs ls hP hD hS hl => ?_) n 0 u7 h _ _ _ hP hD hS (lv_sub hl [1, 0] rfl)
    refine lv_iconst (v := 0) hx hb d_Clb_settleAll_65 (by decide) ?_
    refine lv_istore_n (lv' := [(1, .int 0), (0, .ref (ad 0))]) hx hb d_Clb_settleAll_66 rfl hl (by decide) rfl (fun ls hl => ?_)
    obtain ⟨n, h⟩ := h
    refine x_Clb_settleAll_67 hx hb hr hts hown hml hlocks hA hK rfl (fun u17 h H locs ls hP hD hS hl => ?_) n 0 u11 h _ _ _ hP hD hS (lv_sub hl [1, 0] rfl)
    refine lv_aload_n hx hb d_Clb_settleAll_121 rfl (lv_at hl 0 rfl) ?_
    refine gC_Clb_hampers hx hb hts hown hK hP tb_157 d_Clb_settleAll_122 ?_
    refine call_Vv1 (own := "HamperClub$Club") (As := []) (rest := []) (q0 := 10) (ci := 3) hx hb hml hts hown hK hA hP hD hS ok_Clb_141 rfl ⟨Nat.le_of_ble_eq_true rfl, Nat.le_of_ble_eq_true rfl⟩ ⟨Nat.le_of_ble_eq_true rfl, Nat.le_of_ble_eq_true rfl⟩ rfl rfl rfl hl.1 rfl (Nat.le_of_ble_eq_true rfl) d_Clb_settleAll_125 (c_Hmp_forgetChoices l G ad _ u17  _ h) (fun u18 H locs h hP hD hS => ?_)
    refine lv_aload_n hx hb d_Clb_settleAll_128 rfl (lv_at hl 0 rfl) ?_
    refine lv_iconst (v := 1) hx hb d_Clb_settleAll_129 (by decide) ?_
    refine pC_Clb_settled hx hb hts hown hK hP hD hS (Or.inr rfl) tb_151 d_Clb_settleAll_130 (fun u19 H locs eu19 hP hD hS => ?_)
    have h := h u19 eu19
    refine lv_aload_n hx hb d_Clb_settleAll_133 rfl (lv_at hl 0 rfl) ?_
    refine gC_Clb_handedOut hx hb hts hown hK hP tb_153 d_Clb_settleAll_134 ?_
    exact r_iret hx hb hr hlocks hP hD hS d_Clb_settleAll_137 h
  · have h := h.2 hc
    refine lv_bipush (v := (-2)) hx hb d_Clb_settleAll_7 (by decide) ?_
    exact r_iret hx hb hr hlocks hP hD hS d_Clb_settleAll_9 h
