/-! copies; snapshots and states -/
def wp_Acc_copyFrom (u : (CS × CS)) (Post : (CS × CS) → Prop) : Prop := (∀ u1 : CS, u1 = (cS u.1 5 (u.2.1 5)) → (∀ u2 : CS, u2 = (cS u1 6 (u.2.1 6)) → (∀ u3 : CS, u3 = (cS u2 7 (u.2.1 7)) → (∀ u4 : CS, u4 = (cS u3 8 (u.2.1 8)) → (∀ u5 : CS, u5 = (cS u4 9 (u.2.1 9)) → Post (u5, u.2))))))
set_option maxHeartbeats 4000000 in
set_option maxRecDepth 100000 in
theorem c_Acc_copyFrom (l : Launch) (G : GG) (qa qb : Nat → Nat) (sz : Nat) (u : (CS × CS)) (Post : (CS × CS) → Prop) (h : wp_Acc_copyFrom u Post) : CMv l y_Acc_copyFrom b_Acc_copyFrom 2 0 G [.ref (qa 16), .ref (qb 16)] sz (clubW G qa u.1 ++ clubW G qb u.2) (fun z => clubW G qa z.1 ++ clubW G qb z.2) Post := by
  refine CMv.start (by decide) (Nat.le_of_ble_eq_true rfl) (fun p e s m below meth c A ls hx hb hr hts hown hml hlocks hA hS hP hD hK hl => ?_)
  unfold wp_Acc_copyFrom at h
  have hl : lv_has ls 2 [(0, .ref (qa 16)), (1, .ref (qb 16))] := hl
  refine lv_aload_n hx hb d_Acc_copyFrom_0 rfl (lv_at hl 0 rfl) ?_
  refine lv_aload_n hx hb d_Acc_copyFrom_1 rfl (lv_at hl 1 rfl) ?_
  refine gC_Acc_tin hx hb hts hown hK (vpr_ hP) tb_127 d_Acc_copyFrom_2 ?_
  refine qC_Acc_tin hx hb hts hown hK hP hD hS tb_127 d_Acc_copyFrom_5 (fun u1 H locs eu1 hP hD hS => ?_)
  have h := h u1 eu1
  refine lv_aload_n hx hb d_Acc_copyFrom_8 rfl (lv_at hl 0 rfl) ?_
  refine lv_aload_n hx hb d_Acc_copyFrom_9 rfl (lv_at hl 1 rfl) ?_
  refine gC_Acc_pool hx hb hts hown hK (vpr_ hP) tb_129 d_Acc_copyFrom_10 ?_
  refine qC_Acc_pool hx hb hts hown hK hP hD hS tb_129 d_Acc_copyFrom_13 (fun u2 H locs eu2 hP hD hS => ?_)
  have h := h u2 eu2
  refine lv_aload_n hx hb d_Acc_copyFrom_16 rfl (lv_at hl 0 rfl) ?_
  refine lv_aload_n hx hb d_Acc_copyFrom_17 rfl (lv_at hl 1 rfl) ?_
  refine gC_Acc_cameIn hx hb hts hown hK (vpr_ hP) tb_131 d_Acc_copyFrom_18 ?_
  refine qC_Acc_cameIn hx hb hts hown hK hP hD hS tb_131 d_Acc_copyFrom_21 (fun u3 H locs eu3 hP hD hS => ?_)
  have h := h u3 eu3
  refine lv_aload_n hx hb d_Acc_copyFrom_24 rfl (lv_at hl 0 rfl) ?_
  refine lv_aload_n hx hb d_Acc_copyFrom_25 rfl (lv_at hl 1 rfl) ?_
  refine gC_Acc_paidOut hx hb hts hown hK (vpr_ hP) tb_133 d_Acc_copyFrom_26 ?_
  refine qC_Acc_paidOut hx hb hts hown hK hP hD hS tb_133 d_Acc_copyFrom_29 (fun u4 H locs eu4 hP hD hS => ?_)
  have h := h u4 eu4
  refine lv_aload_n hx hb d_Acc_copyFrom_32 rfl (lv_at hl 0 rfl) ?_
  refine lv_aload_n hx hb d_Acc_copyFrom_33 rfl (lv_at hl 1 rfl) ?_
  refine gC_Acc_toShop hx hb hts hown hK (vpr_ hP) tb_135 d_Acc_copyFrom_34 ?_
  refine qC_Acc_toShop hx hb hts hown hK hP hD hS tb_135 d_Acc_copyFrom_37 (fun u5 H locs eu5 hP hD hS => ?_)
  have h := h u5 eu5
  exact r_vret (u := (u5, u.2)) hx hb hr hlocks hP hD hS d_Acc_copyFrom_40 h
def wp_Sta_snapshots (u : (CS × Int32 × CS × Int32 × CS)) (Post : Int32 → (CS × Int32 × CS × Int32 × CS) → Prop) : Prop := ((u.2.1 = 0 → ((u.2.2.2.1 = 0 → Post (0 + 0) (u.1, u.2.1, u.2.2.1, u.2.2.2.1, u.2.2.2.2)) ∧ (¬ u.2.2.2.1 = 0 → Post (0 + 1) (u.1, u.2.1, u.2.2.1, u.2.2.2.1, u.2.2.2.2)))) ∧ (¬ u.2.1 = 0 → ((u.2.2.2.1 = 0 → Post (1 + 0) (u.1, u.2.1, u.2.2.1, u.2.2.2.1, u.2.2.2.2)) ∧ (¬ u.2.2.2.1 = 0 → Post (1 + 1) (u.1, u.2.1, u.2.2.1, u.2.2.2.1, u.2.2.2.2)))))
set_option maxHeartbeats 4000000 in
set_option maxRecDepth 100000 in
theorem c_Sta_snapshots (l : Launch) (G : GG) (qa0 qa1 qa2 qa3 qa4 qa5 : Nat → Nat) (sz : Nat) (u : (CS × Int32 × CS × Int32 × CS)) (Post : Int32 → (CS × Int32 × CS × Int32 × CS) → Prop) (h : wp_Sta_snapshots u Post) : CMi l y_Sta_snapshots b_Sta_snapshots 1 .int 0 G [.ref (qa0 0)] sz (staW G qa0 qa1 qa2 qa4 ++ (clubW G qa1 u.1 ++ (snpW G qa2 qa3 u.2.1 ++ (clubW G qa3 u.2.2.1 ++ (snpW G qa4 qa5 u.2.2.2.1 ++ clubW G qa5 u.2.2.2.2))))) (fun z => staW G qa0 qa1 qa2 qa4 ++ (clubW G qa1 z.1 ++ (snpW G qa2 qa3 z.2.1 ++ (clubW G qa3 z.2.2.1 ++ (snpW G qa4 qa5 z.2.2.2.1 ++ clubW G qa5 z.2.2.2.2))))) Post := by
  refine CMi.start (by decide) (Nat.le_of_ble_eq_true rfl) (fun p e s m below meth c A ls hx hb hr hts hown hml hlocks hA hS hP hD hK hl => ?_)
  unfold wp_Sta_snapshots at h
  have hl : lv_has ls 1 [(0, .ref (qa0 0))] := hl
  refine lv_aload_n hx hb d_Sta_snapshots_0 rfl (lv_at hl 0 rfl) ?_
  refine gST_Sta_first hx hb hts hown hK (vpl_ hP) tb_194 d_Sta_snapshots_1 ?_
  refine gSN_Snp_taken hx hb hts hown hK (vpl_ (vpr_ (vpr_ hP))) tb_184 d_Sta_snapshots_4 ?_
  refine lv_if_eq (tgt := 14) hx hb d_Sta_snapshots_7 (by decide) (fun hc => ?_) (fun hc => ?_)
  · have h := h.1 hc
    refine lv_iconst (v := 0) hx hb d_Sta_snapshots_14 (by decide) ?_
    refine lv_aload_n hx hb d_Sta_snapshots_15 rfl (lv_at hl 0 rfl) ?_
    refine gST_Sta_second hx hb hts hown hK (vpl_ hP) tb_195 d_Sta_snapshots_16 ?_
    refine gSN_Snp_taken hx hb hts hown hK (vpl_ (vpr_ (vpr_ (vpr_ (vpr_ hP))))) tb_184 d_Sta_snapshots_19 ?_
    refine lv_if_eq (tgt := 29) hx hb d_Sta_snapshots_22 (by decide) (fun hc => ?_) (fun hc => ?_)
    · have h := h.1 hc
      refine lv_iconst (v := 0) hx hb d_Sta_snapshots_29 (by decide) ?_
      refine lv_iadd hx hb d_Sta_snapshots_30 ?_
      exact r_iret (u := (u.1, u.2.1, u.2.2.1, u.2.2.2.1, u.2.2.2.2)) hx hb hr hlocks hP hD hS d_Sta_snapshots_31 h
    · have h := h.2 hc
      refine lv_iconst (v := 1) hx hb d_Sta_snapshots_25 (by decide) ?_
      refine lv_goto (tgt := 30) hx hb d_Sta_snapshots_26 (by decide) ?_
      refine lv_iadd hx hb d_Sta_snapshots_30 ?_
      exact r_iret (u := (u.1, u.2.1, u.2.2.1, u.2.2.2.1, u.2.2.2.2)) hx hb hr hlocks hP hD hS d_Sta_snapshots_31 h
  · have h := h.2 hc
    refine lv_iconst (v := 1) hx hb d_Sta_snapshots_10 (by decide) ?_
    refine lv_goto (tgt := 15) hx hb d_Sta_snapshots_11 (by decide) ?_
    refine lv_aload_n hx hb d_Sta_snapshots_15 rfl (lv_at hl 0 rfl) ?_
    refine gST_Sta_second hx hb hts hown hK (vpl_ hP) tb_195 d_Sta_snapshots_16 ?_
    refine gSN_Snp_taken hx hb hts hown hK (vpl_ (vpr_ (vpr_ (vpr_ (vpr_ hP))))) tb_184 d_Sta_snapshots_19 ?_
    refine lv_if_eq (tgt := 29) hx hb d_Sta_snapshots_22 (by decide) (fun hc => ?_) (fun hc => ?_)
    · have h := h.1 hc
      refine lv_iconst (v := 0) hx hb d_Sta_snapshots_29 (by decide) ?_
      refine lv_iadd hx hb d_Sta_snapshots_30 ?_
      exact r_iret (u := (u.1, u.2.1, u.2.2.1, u.2.2.2.1, u.2.2.2.2)) hx hb hr hlocks hP hD hS d_Sta_snapshots_31 h
    · have h := h.2 hc
      refine lv_iconst (v := 1) hx hb d_Sta_snapshots_25 (by decide) ?_
      refine lv_goto (tgt := 30) hx hb d_Sta_snapshots_26 (by decide) ?_
      refine lv_iadd hx hb d_Sta_snapshots_30 ?_
      exact r_iret (u := (u.1, u.2.1, u.2.2.1, u.2.2.2.1, u.2.2.2.2)) hx hb hr hlocks hP hD hS d_Sta_snapshots_31 h
def wp_Crd_copyFrom (u : (CS × CS)) (Post : (CS × CS) → Prop) : Prop := (∀ u1 : CS, u1 = (cS u.1 4 (u.2.1 4)) → (∀ u2 : CS, u2 = (cA u1 0 (va_cpy (u.2.2.1 0) (u1.2.1 0) (0 : Int32).toNatClampNeg (0 : Int32).toNatClampNeg (12 : Int32).toNatClampNeg)) → (∀ u3 : CS, u3 = (cA u2 1 (va_cpy (u.2.2.1 1) (u2.2.1 1) (0 : Int32).toNatClampNeg (0 : Int32).toNatClampNeg (12 : Int32).toNatClampNeg)) → (∀ u4 : CS, u4 = (cA u3 2 (va_cpy (u.2.2.1 2) (u3.2.1 2) (0 : Int32).toNatClampNeg (0 : Int32).toNatClampNeg (12 : Int32).toNatClampNeg)) → (∀ u5 : CS, u5 = (cA u4 3 (va_cpy (u.2.2.1 3) (u4.2.1 3) (0 : Int32).toNatClampNeg (0 : Int32).toNatClampNeg (12 : Int32).toNatClampNeg)) → (∀ u6 : CS, u6 = (cA u5 4 (va_cpy (u.2.2.1 4) (u5.2.1 4) (0 : Int32).toNatClampNeg (0 : Int32).toNatClampNeg (12 : Int32).toNatClampNeg)) → (∀ u7 : CS, u7 = (cA u6 5 (va_cpy (u.2.2.1 5) (u6.2.1 5) (0 : Int32).toNatClampNeg (0 : Int32).toNatClampNeg (12 : Int32).toNatClampNeg)) → (∀ u8 : CS, u8 = (cL u7 (va_cpy u.2.2.2 u7.2.2 (0 : Int32).toNatClampNeg (0 : Int32).toNatClampNeg (12 : Int32).toNatClampNeg)) → (∀ u9 : CS, u9 = (cA u8 6 (va_cpy (u.2.2.1 6) (u8.2.1 6) (0 : Int32).toNatClampNeg (0 : Int32).toNatClampNeg (12 : Int32).toNatClampNeg)) → Post (u9, u.2))))))))))
set_option maxHeartbeats 4000000 in
set_option maxRecDepth 100000 in
theorem c_Crd_copyFrom (l : Launch) (G : GG) (qa qb : Nat → Nat) (sz : Nat) (u : (CS × CS)) (Post : (CS × CS) → Prop) (h : wp_Crd_copyFrom u Post) : CMv l y_Crd_copyFrom b_Crd_copyFrom 2 1 G [.ref (qa 1), .ref (qb 1)] sz (clubW G qa u.1 ++ clubW G qb u.2) (fun z => clubW G qa z.1 ++ clubW G qb z.2) Post := by
  refine CMv.start (by decide) (Nat.le_of_ble_eq_true rfl) (fun p e s m below meth c A ls hx hb hr hts hown hml hlocks hA hS hP hD hK hl => ?_)
  unfold wp_Crd_copyFrom at h
  have hl : lv_has ls 2 [(0, .ref (qa 1)), (1, .ref (qb 1))] := hl
  refine lv_aload_n hx hb d_Crd_copyFrom_0 rfl (lv_at hl 0 rfl) ?_
  refine lv_aload_n hx hb d_Crd_copyFrom_1 rfl (lv_at hl 1 rfl) ?_
  refine gC_Crd_count hx hb hts hown hK (vpr_ hP) tb_43 d_Crd_copyFrom_2 ?_
  refine qC_Crd_count hx hb hts hown hK hP hD hS tb_43 d_Crd_copyFrom_5 (fun u1 H locs eu1 hP hD hS => ?_)
  have h := h u1 eu1
  refine lv_aload_n hx hb d_Crd_copyFrom_8 rfl (lv_at hl 1 rfl) ?_
  refine gC_Crd_stamps hx hb hts hown hK (vpr_ hP) tb_45 d_Crd_copyFrom_9 ?_
  refine lv_iconst (v := 0) hx hb d_Crd_copyFrom_12 (by decide) ?_
  refine lv_aload_n hx hb d_Crd_copyFrom_13 rfl (lv_at hl 0 rfl) ?_
  refine gC_Crd_stamps hx hb hts hown hK (vpl_ hP) tb_45 d_Crd_copyFrom_14 ?_
  refine lv_iconst (v := 0) hx hb d_Crd_copyFrom_17 (by decide) ?_
  refine lv_bipush (v := 12) hx hb d_Crd_copyFrom_18 (by decide) ?_
  refine va_copyi hx hb (hml.trans hl.1.symm) hown (hts _ tb_284) (hts _ tb_94) (hts _ tb_93) (hts _ tb_7) hK.1 hP hD hS 19 2 0 0 rfl rfl rfl rfl rfl (by decide) (by decide) (by decide) (by decide) (by decide) (fun _ _ => rfl) (Nat.le_of_ble_eq_true rfl) (Nat.le_of_ble_eq_true rfl) d_Crd_copyFrom_20 (fun H locs hP hD hS => ?_)
  obtain ⟨u2, eu2⟩ : ∃ z : CS, z = (cA u1 0 (va_cpy (u.2.2.1 0) (u1.2.1 0) (0 : Int32).toNatClampNeg (0 : Int32).toNatClampNeg (12 : Int32).toNatClampNeg)) := ⟨_, rfl⟩
  have hP : va_P G.1 classes (clubW G qa u2 ++ clubW G qb u.2) H := by rw [eu2]; exact hP
  have hD : va_D A (clubW G qa u2 ++ clubW G qb u.2) := by rw [eu2]; exact hD
  have h := h u2 eu2
  refine lv_aload_n hx hb d_Crd_copyFrom_23 rfl (lv_at hl 1 rfl) ?_
  refine gC_Crd_status hx hb hts hown hK (vpr_ hP) tb_48 d_Crd_copyFrom_24 ?_
  refine lv_iconst (v := 0) hx hb d_Crd_copyFrom_27 (by decide) ?_
  refine lv_aload_n hx hb d_Crd_copyFrom_28 rfl (lv_at hl 0 rfl) ?_
  refine gC_Crd_status hx hb hts hown hK (vpl_ hP) tb_48 d_Crd_copyFrom_29 ?_
  refine lv_iconst (v := 0) hx hb d_Crd_copyFrom_32 (by decide) ?_
  refine lv_bipush (v := 12) hx hb d_Crd_copyFrom_33 (by decide) ?_
  refine va_copyi hx hb (hml.trans hl.1.symm) hown (hts _ tb_284) (hts _ tb_94) (hts _ tb_93) (hts _ tb_7) hK.1 hP hD hS 20 3 0 0 rfl rfl rfl rfl rfl (by decide) (by decide) (by decide) (by decide) (by decide) (fun _ _ => rfl) (Nat.le_of_ble_eq_true rfl) (Nat.le_of_ble_eq_true rfl) d_Crd_copyFrom_35 (fun H locs hP hD hS => ?_)
  obtain ⟨u3, eu3⟩ : ∃ z : CS, z = (cA u2 1 (va_cpy (u.2.2.1 1) (u2.2.1 1) (0 : Int32).toNatClampNeg (0 : Int32).toNatClampNeg (12 : Int32).toNatClampNeg)) := ⟨_, rfl⟩
  have hP : va_P G.1 classes (clubW G qa u3 ++ clubW G qb u.2) H := by rw [eu3]; exact hP
  have hD : va_D A (clubW G qa u3 ++ clubW G qb u.2) := by rw [eu3]; exact hD
  have h := h u3 eu3
  refine lv_aload_n hx hb d_Crd_copyFrom_38 rfl (lv_at hl 1 rfl) ?_
  refine gC_Crd_mislaidIn hx hb hts hown hK (vpr_ hP) tb_50 d_Crd_copyFrom_39 ?_
  refine lv_iconst (v := 0) hx hb d_Crd_copyFrom_42 (by decide) ?_
  refine lv_aload_n hx hb d_Crd_copyFrom_43 rfl (lv_at hl 0 rfl) ?_
  refine gC_Crd_mislaidIn hx hb hts hown hK (vpl_ hP) tb_50 d_Crd_copyFrom_44 ?_
  refine lv_iconst (v := 0) hx hb d_Crd_copyFrom_47 (by decide) ?_
  refine lv_bipush (v := 12) hx hb d_Crd_copyFrom_48 (by decide) ?_
  refine va_copyi hx hb (hml.trans hl.1.symm) hown (hts _ tb_284) (hts _ tb_94) (hts _ tb_93) (hts _ tb_7) hK.1 hP hD hS 21 4 0 0 rfl rfl rfl rfl rfl (by decide) (by decide) (by decide) (by decide) (by decide) (fun _ _ => rfl) (Nat.le_of_ble_eq_true rfl) (Nat.le_of_ble_eq_true rfl) d_Crd_copyFrom_50 (fun H locs hP hD hS => ?_)
  obtain ⟨u4, eu4⟩ : ∃ z : CS, z = (cA u3 2 (va_cpy (u.2.2.1 2) (u3.2.1 2) (0 : Int32).toNatClampNeg (0 : Int32).toNatClampNeg (12 : Int32).toNatClampNeg)) := ⟨_, rfl⟩
  have hP : va_P G.1 classes (clubW G qa u4 ++ clubW G qb u.2) H := by rw [eu4]; exact hP
  have hD : va_D A (clubW G qa u4 ++ clubW G qb u.2) := by rw [eu4]; exact hD
  have h := h u4 eu4
  refine lv_aload_n hx hb d_Crd_copyFrom_53 rfl (lv_at hl 1 rfl) ?_
  refine gC_Crd_joinedIn hx hb hts hown hK (vpr_ hP) tb_52 d_Crd_copyFrom_54 ?_
  refine lv_iconst (v := 0) hx hb d_Crd_copyFrom_57 (by decide) ?_
  refine lv_aload_n hx hb d_Crd_copyFrom_58 rfl (lv_at hl 0 rfl) ?_
  refine gC_Crd_joinedIn hx hb hts hown hK (vpl_ hP) tb_52 d_Crd_copyFrom_59 ?_
  refine lv_iconst (v := 0) hx hb d_Crd_copyFrom_62 (by decide) ?_
  refine lv_bipush (v := 12) hx hb d_Crd_copyFrom_63 (by decide) ?_
  refine va_copyi hx hb (hml.trans hl.1.symm) hown (hts _ tb_284) (hts _ tb_94) (hts _ tb_93) (hts _ tb_7) hK.1 hP hD hS 22 5 0 0 rfl rfl rfl rfl rfl (by decide) (by decide) (by decide) (by decide) (by decide) (fun _ _ => rfl) (Nat.le_of_ble_eq_true rfl) (Nat.le_of_ble_eq_true rfl) d_Crd_copyFrom_65 (fun H locs hP hD hS => ?_)
  obtain ⟨u5, eu5⟩ : ∃ z : CS, z = (cA u4 3 (va_cpy (u.2.2.1 3) (u4.2.1 3) (0 : Int32).toNatClampNeg (0 : Int32).toNatClampNeg (12 : Int32).toNatClampNeg)) := ⟨_, rfl⟩
  have hP : va_P G.1 classes (clubW G qa u5 ++ clubW G qb u.2) H := by rw [eu5]; exact hP
  have hD : va_D A (clubW G qa u5 ++ clubW G qb u.2) := by rw [eu5]; exact hD
  have h := h u5 eu5
  refine lv_aload_n hx hb d_Crd_copyFrom_68 rfl (lv_at hl 1 rfl) ?_
  refine gC_Crd_paid hx hb hts hown hK (vpr_ hP) tb_54 d_Crd_copyFrom_69 ?_
  refine lv_iconst (v := 0) hx hb d_Crd_copyFrom_72 (by decide) ?_
  refine lv_aload_n hx hb d_Crd_copyFrom_73 rfl (lv_at hl 0 rfl) ?_
  refine gC_Crd_paid hx hb hts hown hK (vpl_ hP) tb_54 d_Crd_copyFrom_74 ?_
  refine lv_iconst (v := 0) hx hb d_Crd_copyFrom_77 (by decide) ?_
  refine lv_bipush (v := 12) hx hb d_Crd_copyFrom_78 (by decide) ?_
  refine va_copyi hx hb (hml.trans hl.1.symm) hown (hts _ tb_284) (hts _ tb_94) (hts _ tb_93) (hts _ tb_7) hK.1 hP hD hS 23 6 0 0 rfl rfl rfl rfl rfl (by decide) (by decide) (by decide) (by decide) (by decide) (fun _ _ => rfl) (Nat.le_of_ble_eq_true rfl) (Nat.le_of_ble_eq_true rfl) d_Crd_copyFrom_80 (fun H locs hP hD hS => ?_)
  obtain ⟨u6, eu6⟩ : ∃ z : CS, z = (cA u5 4 (va_cpy (u.2.2.1 4) (u5.2.1 4) (0 : Int32).toNatClampNeg (0 : Int32).toNatClampNeg (12 : Int32).toNatClampNeg)) := ⟨_, rfl⟩
  have hP : va_P G.1 classes (clubW G qa u6 ++ clubW G qb u.2) H := by rw [eu6]; exact hP
  have hD : va_D A (clubW G qa u6 ++ clubW G qb u.2) := by rw [eu6]; exact hD
  have h := h u6 eu6
  refine lv_aload_n hx hb d_Crd_copyFrom_83 rfl (lv_at hl 1 rfl) ?_
  refine gC_Crd_drawn hx hb hts hown hK (vpr_ hP) tb_57 d_Crd_copyFrom_84 ?_
  refine lv_iconst (v := 0) hx hb d_Crd_copyFrom_87 (by decide) ?_
  refine lv_aload_n hx hb d_Crd_copyFrom_88 rfl (lv_at hl 0 rfl) ?_
  refine gC_Crd_drawn hx hb hts hown hK (vpl_ hP) tb_57 d_Crd_copyFrom_89 ?_
  refine lv_iconst (v := 0) hx hb d_Crd_copyFrom_92 (by decide) ?_
  refine lv_bipush (v := 12) hx hb d_Crd_copyFrom_93 (by decide) ?_
  refine va_copyi hx hb (hml.trans hl.1.symm) hown (hts _ tb_284) (hts _ tb_94) (hts _ tb_93) (hts _ tb_7) hK.1 hP hD hS 24 7 0 0 rfl rfl rfl rfl rfl (by decide) (by decide) (by decide) (by decide) (by decide) (fun _ _ => rfl) (Nat.le_of_ble_eq_true rfl) (Nat.le_of_ble_eq_true rfl) d_Crd_copyFrom_95 (fun H locs hP hD hS => ?_)
  obtain ⟨u7, eu7⟩ : ∃ z : CS, z = (cA u6 5 (va_cpy (u.2.2.1 5) (u6.2.1 5) (0 : Int32).toNatClampNeg (0 : Int32).toNatClampNeg (12 : Int32).toNatClampNeg)) := ⟨_, rfl⟩
  have hP : va_P G.1 classes (clubW G qa u7 ++ clubW G qb u.2) H := by rw [eu7]; exact hP
  have hD : va_D A (clubW G qa u7 ++ clubW G qb u.2) := by rw [eu7]; exact hD
  have h := h u7 eu7
  refine lv_aload_n hx hb d_Crd_copyFrom_98 rfl (lv_at hl 1 rfl) ?_
  refine gC_Crd_goodWeeks hx hb hts hown hK (vpr_ hP) tb_59 d_Crd_copyFrom_99 ?_
  refine lv_iconst (v := 0) hx hb d_Crd_copyFrom_102 (by decide) ?_
  refine lv_aload_n hx hb d_Crd_copyFrom_103 rfl (lv_at hl 0 rfl) ?_
  refine gC_Crd_goodWeeks hx hb hts hown hK (vpl_ hP) tb_59 d_Crd_copyFrom_104 ?_
  refine lv_iconst (v := 0) hx hb d_Crd_copyFrom_107 (by decide) ?_
  refine lv_bipush (v := 12) hx hb d_Crd_copyFrom_108 (by decide) ?_
  refine va_copyl hx hb (hml.trans hl.1.symm) hown (hts _ tb_284) (hts _ tb_94) (hts _ tb_93) (hts _ tb_7) hK.1 hP hD hS 25 8 1 1 rfl rfl rfl rfl rfl (by decide) (by decide) (by decide) (by decide) (by decide) (fun _ _ => rfl) (Nat.le_of_ble_eq_true rfl) (Nat.le_of_ble_eq_true rfl) d_Crd_copyFrom_110 (fun H locs hP hD hS => ?_)
  obtain ⟨u8, eu8⟩ : ∃ z : CS, z = (cL u7 (va_cpy u.2.2.2 u7.2.2 (0 : Int32).toNatClampNeg (0 : Int32).toNatClampNeg (12 : Int32).toNatClampNeg)) := ⟨_, rfl⟩
  have hP : va_P G.1 classes (clubW G qa u8 ++ clubW G qb u.2) H := by rw [eu8]; exact hP
  have hD : va_D A (clubW G qa u8 ++ clubW G qb u.2) := by rw [eu8]; exact hD
  have h := h u8 eu8
  refine lv_aload_n hx hb d_Crd_copyFrom_113 rfl (lv_at hl 1 rfl) ?_
  refine gC_Crd_latestGood hx hb hts hown hK (vpr_ hP) tb_61 d_Crd_copyFrom_114 ?_
  refine lv_iconst (v := 0) hx hb d_Crd_copyFrom_117 (by decide) ?_
  refine lv_aload_n hx hb d_Crd_copyFrom_118 rfl (lv_at hl 0 rfl) ?_
  refine gC_Crd_latestGood hx hb hts hown hK (vpl_ hP) tb_61 d_Crd_copyFrom_119 ?_
  refine lv_iconst (v := 0) hx hb d_Crd_copyFrom_122 (by decide) ?_
  refine lv_bipush (v := 12) hx hb d_Crd_copyFrom_123 (by decide) ?_
  refine va_copyi hx hb (hml.trans hl.1.symm) hown (hts _ tb_284) (hts _ tb_94) (hts _ tb_93) (hts _ tb_7) hK.1 hP hD hS 26 9 0 0 rfl rfl rfl rfl rfl (by decide) (by decide) (by decide) (by decide) (by decide) (fun _ _ => rfl) (Nat.le_of_ble_eq_true rfl) (Nat.le_of_ble_eq_true rfl) d_Crd_copyFrom_125 (fun H locs hP hD hS => ?_)
  obtain ⟨u9, eu9⟩ : ∃ z : CS, z = (cA u8 6 (va_cpy (u.2.2.1 6) (u8.2.1 6) (0 : Int32).toNatClampNeg (0 : Int32).toNatClampNeg (12 : Int32).toNatClampNeg)) := ⟨_, rfl⟩
  have hP : va_P G.1 classes (clubW G qa u9 ++ clubW G qb u.2) H := by rw [eu9]; exact hP
  have hD : va_D A (clubW G qa u9 ++ clubW G qb u.2) := by rw [eu9]; exact hD
  have h := h u9 eu9
  exact r_vret (u := (u9, u.2)) hx hb hr hlocks hP hD hS d_Crd_copyFrom_128 h
def wp_Hmp_copyFrom (u : (CS × CS)) (Post : (CS × CS) → Prop) : Prop := (∀ u1 : CS, u1 = (cA u.1 7 (va_cpy (u.2.2.1 7) (u.1.2.1 7) (0 : Int32).toNatClampNeg (0 : Int32).toNatClampNeg (4 : Int32).toNatClampNeg)) → (∀ u2 : CS, u2 = (cA u1 8 (va_cpy (u.2.2.1 8) (u1.2.1 8) (0 : Int32).toNatClampNeg (0 : Int32).toNatClampNeg (4 : Int32).toNatClampNeg)) → (∀ u3 : CS, u3 = (cA u2 9 (va_cpy (u.2.2.1 9) (u2.2.1 9) (0 : Int32).toNatClampNeg (0 : Int32).toNatClampNeg (12 : Int32).toNatClampNeg)) → (∀ u4 : CS, u4 = (cA u3 10 (va_cpy (u.2.2.1 10) (u3.2.1 10) (0 : Int32).toNatClampNeg (0 : Int32).toNatClampNeg (12 : Int32).toNatClampNeg)) → (∀ u5 : CS, u5 = (cA u4 11 (va_cpy (u.2.2.1 11) (u4.2.1 11) (0 : Int32).toNatClampNeg (0 : Int32).toNatClampNeg (12 : Int32).toNatClampNeg)) → Post (u5, u.2))))))
set_option maxHeartbeats 4000000 in
set_option maxRecDepth 100000 in
theorem c_Hmp_copyFrom (l : Launch) (G : GG) (qa qb : Nat → Nat) (sz : Nat) (u : (CS × CS)) (Post : (CS × CS) → Prop) (h : wp_Hmp_copyFrom u Post) : CMv l y_Hmp_copyFrom b_Hmp_copyFrom 2 1 G [.ref (qa 10), .ref (qb 10)] sz (clubW G qa u.1 ++ clubW G qb u.2) (fun z => clubW G qa z.1 ++ clubW G qb z.2) Post := by
  refine CMv.start (by decide) (Nat.le_of_ble_eq_true rfl) (fun p e s m below meth c A ls hx hb hr hts hown hml hlocks hA hS hP hD hK hl => ?_)
  unfold wp_Hmp_copyFrom at h
  have hl : lv_has ls 2 [(0, .ref (qa 10)), (1, .ref (qb 10))] := hl
  refine lv_aload_n hx hb d_Hmp_copyFrom_0 rfl (lv_at hl 1 rfl) ?_
  refine gC_Hmp_price hx hb hts hown hK (vpr_ hP) tb_98 d_Hmp_copyFrom_1 ?_
  refine lv_iconst (v := 0) hx hb d_Hmp_copyFrom_4 (by decide) ?_
  refine lv_aload_n hx hb d_Hmp_copyFrom_5 rfl (lv_at hl 0 rfl) ?_
  refine gC_Hmp_price hx hb hts hown hK (vpl_ hP) tb_98 d_Hmp_copyFrom_6 ?_
  refine lv_iconst (v := 0) hx hb d_Hmp_copyFrom_9 (by decide) ?_
  refine lv_iconst (v := 4) hx hb d_Hmp_copyFrom_10 (by decide) ?_
  refine va_copyi hx hb (hml.trans hl.1.symm) hown (hts _ tb_92) (hts _ tb_94) (hts _ tb_93) (hts _ tb_7) hK.1 hP hD hS 28 11 0 0 rfl rfl rfl rfl rfl (by decide) (by decide) (by decide) (by decide) (by decide) (fun _ _ => rfl) (Nat.le_of_ble_eq_true rfl) (Nat.le_of_ble_eq_true rfl) d_Hmp_copyFrom_11 (fun H locs hP hD hS => ?_)
  obtain ⟨u1, eu1⟩ : ∃ z : CS, z = (cA u.1 7 (va_cpy (u.2.2.1 7) (u.1.2.1 7) (0 : Int32).toNatClampNeg (0 : Int32).toNatClampNeg (4 : Int32).toNatClampNeg)) := ⟨_, rfl⟩
  have hP : va_P G.1 classes (clubW G qa u1 ++ clubW G qb u.2) H := by rw [eu1]; exact hP
  have hD : va_D A (clubW G qa u1 ++ clubW G qb u.2) := by rw [eu1]; exact hD
  have h := h u1 eu1
  refine lv_aload_n hx hb d_Hmp_copyFrom_14 rfl (lv_at hl 1 rfl) ?_
  refine gC_Hmp_stock hx hb hts hown hK (vpr_ hP) tb_101 d_Hmp_copyFrom_15 ?_
  refine lv_iconst (v := 0) hx hb d_Hmp_copyFrom_18 (by decide) ?_
  refine lv_aload_n hx hb d_Hmp_copyFrom_19 rfl (lv_at hl 0 rfl) ?_
  refine gC_Hmp_stock hx hb hts hown hK (vpl_ hP) tb_101 d_Hmp_copyFrom_20 ?_
  refine lv_iconst (v := 0) hx hb d_Hmp_copyFrom_23 (by decide) ?_
  refine lv_iconst (v := 4) hx hb d_Hmp_copyFrom_24 (by decide) ?_
  refine va_copyi hx hb (hml.trans hl.1.symm) hown (hts _ tb_92) (hts _ tb_94) (hts _ tb_93) (hts _ tb_7) hK.1 hP hD hS 29 12 0 0 rfl rfl rfl rfl rfl (by decide) (by decide) (by decide) (by decide) (by decide) (fun _ _ => rfl) (Nat.le_of_ble_eq_true rfl) (Nat.le_of_ble_eq_true rfl) d_Hmp_copyFrom_25 (fun H locs hP hD hS => ?_)
  obtain ⟨u2, eu2⟩ : ∃ z : CS, z = (cA u1 8 (va_cpy (u.2.2.1 8) (u1.2.1 8) (0 : Int32).toNatClampNeg (0 : Int32).toNatClampNeg (4 : Int32).toNatClampNeg)) := ⟨_, rfl⟩
  have hP : va_P G.1 classes (clubW G qa u2 ++ clubW G qb u.2) H := by rw [eu2]; exact hP
  have hD : va_D A (clubW G qa u2 ++ clubW G qb u.2) := by rw [eu2]; exact hD
  have h := h u2 eu2
  refine lv_aload_n hx hb d_Hmp_copyFrom_28 rfl (lv_at hl 1 rfl) ?_
  refine gC_Hmp_choice hx hb hts hown hK (vpr_ hP) tb_103 d_Hmp_copyFrom_29 ?_
  refine lv_iconst (v := 0) hx hb d_Hmp_copyFrom_32 (by decide) ?_
  refine lv_aload_n hx hb d_Hmp_copyFrom_33 rfl (lv_at hl 0 rfl) ?_
  refine gC_Hmp_choice hx hb hts hown hK (vpl_ hP) tb_103 d_Hmp_copyFrom_34 ?_
  refine lv_iconst (v := 0) hx hb d_Hmp_copyFrom_37 (by decide) ?_
  refine lv_bipush (v := 12) hx hb d_Hmp_copyFrom_38 (by decide) ?_
  refine va_copyi hx hb (hml.trans hl.1.symm) hown (hts _ tb_92) (hts _ tb_94) (hts _ tb_93) (hts _ tb_7) hK.1 hP hD hS 30 13 0 0 rfl rfl rfl rfl rfl (by decide) (by decide) (by decide) (by decide) (by decide) (fun _ _ => rfl) (Nat.le_of_ble_eq_true rfl) (Nat.le_of_ble_eq_true rfl) d_Hmp_copyFrom_40 (fun H locs hP hD hS => ?_)
  obtain ⟨u3, eu3⟩ : ∃ z : CS, z = (cA u2 9 (va_cpy (u.2.2.1 9) (u2.2.1 9) (0 : Int32).toNatClampNeg (0 : Int32).toNatClampNeg (12 : Int32).toNatClampNeg)) := ⟨_, rfl⟩
  have hP : va_P G.1 classes (clubW G qa u3 ++ clubW G qb u.2) H := by rw [eu3]; exact hP
  have hD : va_D A (clubW G qa u3 ++ clubW G qb u.2) := by rw [eu3]; exact hD
  have h := h u3 eu3
  refine lv_aload_n hx hb d_Hmp_copyFrom_43 rfl (lv_at hl 1 rfl) ?_
  refine gC_Hmp_place hx hb hts hown hK (vpr_ hP) tb_105 d_Hmp_copyFrom_44 ?_
  refine lv_iconst (v := 0) hx hb d_Hmp_copyFrom_47 (by decide) ?_
  refine lv_aload_n hx hb d_Hmp_copyFrom_48 rfl (lv_at hl 0 rfl) ?_
  refine gC_Hmp_place hx hb hts hown hK (vpl_ hP) tb_105 d_Hmp_copyFrom_49 ?_
  refine lv_iconst (v := 0) hx hb d_Hmp_copyFrom_52 (by decide) ?_
  refine lv_bipush (v := 12) hx hb d_Hmp_copyFrom_53 (by decide) ?_
  refine va_copyi hx hb (hml.trans hl.1.symm) hown (hts _ tb_92) (hts _ tb_94) (hts _ tb_93) (hts _ tb_7) hK.1 hP hD hS 31 14 0 0 rfl rfl rfl rfl rfl (by decide) (by decide) (by decide) (by decide) (by decide) (fun _ _ => rfl) (Nat.le_of_ble_eq_true rfl) (Nat.le_of_ble_eq_true rfl) d_Hmp_copyFrom_55 (fun H locs hP hD hS => ?_)
  obtain ⟨u4, eu4⟩ : ∃ z : CS, z = (cA u3 10 (va_cpy (u.2.2.1 10) (u3.2.1 10) (0 : Int32).toNatClampNeg (0 : Int32).toNatClampNeg (12 : Int32).toNatClampNeg)) := ⟨_, rfl⟩
  have hP : va_P G.1 classes (clubW G qa u4 ++ clubW G qb u.2) H := by rw [eu4]; exact hP
  have hD : va_D A (clubW G qa u4 ++ clubW G qb u.2) := by rw [eu4]; exact hD
  have h := h u4 eu4
  refine lv_aload_n hx hb d_Hmp_copyFrom_58 rfl (lv_at hl 1 rfl) ?_
  refine gC_Hmp_got hx hb hts hown hK (vpr_ hP) tb_107 d_Hmp_copyFrom_59 ?_
  refine lv_iconst (v := 0) hx hb d_Hmp_copyFrom_62 (by decide) ?_
  refine lv_aload_n hx hb d_Hmp_copyFrom_63 rfl (lv_at hl 0 rfl) ?_
  refine gC_Hmp_got hx hb hts hown hK (vpl_ hP) tb_107 d_Hmp_copyFrom_64 ?_
  refine lv_iconst (v := 0) hx hb d_Hmp_copyFrom_67 (by decide) ?_
  refine lv_bipush (v := 12) hx hb d_Hmp_copyFrom_68 (by decide) ?_
  refine va_copyi hx hb (hml.trans hl.1.symm) hown (hts _ tb_92) (hts _ tb_94) (hts _ tb_93) (hts _ tb_7) hK.1 hP hD hS 32 15 0 0 rfl rfl rfl rfl rfl (by decide) (by decide) (by decide) (by decide) (by decide) (fun _ _ => rfl) (Nat.le_of_ble_eq_true rfl) (Nat.le_of_ble_eq_true rfl) d_Hmp_copyFrom_70 (fun H locs hP hD hS => ?_)
  obtain ⟨u5, eu5⟩ : ∃ z : CS, z = (cA u4 11 (va_cpy (u.2.2.1 11) (u4.2.1 11) (0 : Int32).toNatClampNeg (0 : Int32).toNatClampNeg (12 : Int32).toNatClampNeg)) := ⟨_, rfl⟩
  have hP : va_P G.1 classes (clubW G qa u5 ++ clubW G qb u.2) H := by rw [eu5]; exact hP
  have hD : va_D A (clubW G qa u5 ++ clubW G qb u.2) := by rw [eu5]; exact hD
  have h := h u5 eu5
  exact r_vret (u := (u5, u.2)) hx hb hr hlocks hP hD hS d_Hmp_copyFrom_73 h
def wp_Clb_copyFrom (u : (CS × CS)) (Post : (CS × CS) → Prop) : Prop := (∀ u1 : CS, u1 = (cS u.1 0 (u.2.1 0)) → (((u.2.1 1) = 0 ∨ (u.2.1 1) = 1) ∧ (∀ u2 : CS, u2 = (cS u1 1 (u.2.1 1)) → (∀ u3 : CS, u3 = (cS u2 2 (u.2.1 2)) → (∀ u4 : CS, u4 = (cS u3 3 (u.2.1 3)) → (wp_Crd_copyFrom (u4, u.2)  (fun z5 => (wp_Hmp_copyFrom (z5.1, z5.2)  (fun z6 => (wp_Acc_copyFrom (z6.1, z6.2)  (fun z7 => Post (z7.1, z7.2))))))))))))
theorem ok_Clb_46 : CallOk y_Crd_copyFrom b_Crd_copyFrom 2 none 1 1 "HamperClub$Club" 46 := ⟨tb_280, tb_281, tb_282, tb_4, tb_283, by decide +kernel⟩
theorem sw_2_0_1 (s0 s1 : va_W) : SW (s0 ++ s1) ((s0 ++ s1) ++ ([])) := ⟨fun q => by simp only [List.mem_append, List.not_mem_nil, or_false, false_or, or_assoc, or_left_comm, or_comm], fun a => by first | (simp only [List.map_append, List.map_nil, List.count_append, List.count_nil, Nat.add_zero, Nat.add_assoc]; done) | (simp only [List.map_append, List.map_nil, List.count_append, List.count_nil]; omega)⟩
theorem ok_Clb_50 : CallOk y_Hmp_copyFrom b_Hmp_copyFrom 2 none 1 1 "HamperClub$Club" 50 := ⟨tb_285, tb_286, tb_287, tb_6, tb_288, by decide +kernel⟩
theorem ok_Clb_53 : CallOk y_Acc_copyFrom b_Acc_copyFrom 2 none 0 1 "HamperClub$Club" 53 := ⟨tb_289, tb_290, tb_291, tb_8, tb_292, by decide +kernel⟩
set_option maxHeartbeats 4000000 in
set_option maxRecDepth 100000 in
theorem c_Clb_copyFrom (l : Launch) (G : GG) (qa qb : Nat → Nat) (sz : Nat) (u : (CS × CS)) (Post : (CS × CS) → Prop) (h : wp_Clb_copyFrom u Post) : CMv l y_Clb_copyFrom b_Clb_copyFrom 2 2 G [.ref (qa 0), .ref (qb 0)] sz (clubW G qa u.1 ++ clubW G qb u.2) (fun z => clubW G qa z.1 ++ clubW G qb z.2) Post := by
  refine CMv.start (by decide) (Nat.le_of_ble_eq_true rfl) (fun p e s m below meth c A ls hx hb hr hts hown hml hlocks hA hS hP hD hK hl => ?_)
  unfold wp_Clb_copyFrom at h
  have hl : lv_has ls 2 [(0, .ref (qa 0)), (1, .ref (qb 0))] := hl
  refine lv_aload_n hx hb d_Clb_copyFrom_0 rfl (lv_at hl 0 rfl) ?_
  refine lv_aload_n hx hb d_Clb_copyFrom_1 rfl (lv_at hl 1 rfl) ?_
  refine gC_Clb_week hx hb hts hown hK (vpr_ hP) tb_148 d_Clb_copyFrom_2 ?_
  refine qC_Clb_week hx hb hts hown hK hP hD hS tb_148 d_Clb_copyFrom_5 (fun u1 H locs eu1 hP hD hS => ?_)
  have h := h u1 eu1
  refine lv_aload_n hx hb d_Clb_copyFrom_8 rfl (lv_at hl 0 rfl) ?_
  refine lv_aload_n hx hb d_Clb_copyFrom_9 rfl (lv_at hl 1 rfl) ?_
  refine gC_Clb_settled hx hb hts hown hK (vpr_ hP) tb_151 d_Clb_copyFrom_10 ?_
  obtain ⟨hz, h⟩ := h
  refine qC_Clb_settled hx hb hts hown hK hP hD hS hz tb_151 d_Clb_copyFrom_13 (fun u2 H locs eu2 hP hD hS => ?_)
  have h := h u2 eu2
  refine lv_aload_n hx hb d_Clb_copyFrom_16 rfl (lv_at hl 0 rfl) ?_
  refine lv_aload_n hx hb d_Clb_copyFrom_17 rfl (lv_at hl 1 rfl) ?_
  refine gC_Clb_handedOut hx hb hts hown hK (vpr_ hP) tb_153 d_Clb_copyFrom_18 ?_
  refine qC_Clb_handedOut hx hb hts hown hK hP hD hS tb_153 d_Clb_copyFrom_21 (fun u3 H locs eu3 hP hD hS => ?_)
  have h := h u3 eu3
  refine lv_aload_n hx hb d_Clb_copyFrom_24 rfl (lv_at hl 0 rfl) ?_
  refine lv_aload_n hx hb d_Clb_copyFrom_25 rfl (lv_at hl 1 rfl) ?_
  refine gC_Clb_lapses hx hb hts hown hK (vpr_ hP) tb_154 d_Clb_copyFrom_26 ?_
  refine qC_Clb_lapses hx hb hts hown hK hP hD hS tb_154 d_Clb_copyFrom_29 (fun u4 H locs eu4 hP hD hS => ?_)
  have h := h u4 eu4
  refine lv_aload_n hx hb d_Clb_copyFrom_32 rfl (lv_at hl 0 rfl) ?_
  refine gC_Clb_cards hx hb hts hown hK (vpl_ hP) tb_155 d_Clb_copyFrom_33 ?_
  refine lv_aload_n hx hb d_Clb_copyFrom_36 rfl (lv_at hl 1 rfl) ?_
  refine gC_Clb_cards hx hb hts hown hK (vpr_ hP) tb_155 d_Clb_copyFrom_37 ?_
  have hP := SW.P (sw_2_0_1 (clubW G qa u4) (clubW G qb u.2)) hP
  have hD := SW.D (sw_2_0_1 (clubW G qa u4) (clubW G qb u.2)) hD
  refine call_VvP (own := "HamperClub$Club") (As := [.ref (qb 1)]) (rest := []) (q0 := 1) (ci := 1) (wc := clubW G qa u4 ++ clubW G qb u.2) (post := []) hx hb hml hts hown hK hA hP hD hS ok_Clb_46 rfl ⟨Nat.le_of_ble_eq_true rfl, Nat.le_of_ble_eq_true rfl⟩ ⟨Nat.le_of_ble_eq_true rfl, Nat.le_of_ble_eq_true rfl⟩ rfl rfl rfl hl.1 rfl (Nat.le_of_ble_eq_true rfl) d_Clb_copyFrom_40 (c_Crd_copyFrom l G qa qb _ (u4, u.2)  _ h) (fun z5 H locs h hP hD hS => ?_)
  have hP := SW.P (sw_2_0_1 (clubW G qa z5.1) (clubW G qb z5.2)).symm hP
  have hD := SW.D (sw_2_0_1 (clubW G qa z5.1) (clubW G qb z5.2)).symm hD
  refine lv_aload_n hx hb d_Clb_copyFrom_43 rfl (lv_at hl 0 rfl) ?_
  refine gC_Clb_hampers hx hb hts hown hK (vpl_ hP) tb_157 d_Clb_copyFrom_44 ?_
  refine lv_aload_n hx hb d_Clb_copyFrom_47 rfl (lv_at hl 1 rfl) ?_
  refine gC_Clb_hampers hx hb hts hown hK (vpr_ hP) tb_157 d_Clb_copyFrom_48 ?_
  have hP := SW.P (sw_2_0_1 (clubW G qa z5.1) (clubW G qb z5.2)) hP
  have hD := SW.D (sw_2_0_1 (clubW G qa z5.1) (clubW G qb z5.2)) hD
  refine call_VvP (own := "HamperClub$Club") (As := [.ref (qb 10)]) (rest := []) (q0 := 10) (ci := 3) (wc := clubW G qa z5.1 ++ clubW G qb z5.2) (post := []) hx hb hml hts hown hK hA hP hD hS ok_Clb_50 rfl ⟨Nat.le_of_ble_eq_true rfl, Nat.le_of_ble_eq_true rfl⟩ ⟨Nat.le_of_ble_eq_true rfl, Nat.le_of_ble_eq_true rfl⟩ rfl rfl rfl hl.1 rfl (Nat.le_of_ble_eq_true rfl) d_Clb_copyFrom_51 (c_Hmp_copyFrom l G qa qb _ (z5.1, z5.2)  _ h) (fun z6 H locs h hP hD hS => ?_)
  have hP := SW.P (sw_2_0_1 (clubW G qa z6.1) (clubW G qb z6.2)).symm hP
  have hD := SW.D (sw_2_0_1 (clubW G qa z6.1) (clubW G qb z6.2)).symm hD
  refine lv_aload_n hx hb d_Clb_copyFrom_54 rfl (lv_at hl 0 rfl) ?_
  refine gC_Clb_accounts hx hb hts hown hK (vpl_ hP) tb_159 d_Clb_copyFrom_55 ?_
  refine lv_aload_n hx hb d_Clb_copyFrom_58 rfl (lv_at hl 1 rfl) ?_
  refine gC_Clb_accounts hx hb hts hown hK (vpr_ hP) tb_159 d_Clb_copyFrom_59 ?_
  have hP := SW.P (sw_2_0_1 (clubW G qa z6.1) (clubW G qb z6.2)) hP
  have hD := SW.D (sw_2_0_1 (clubW G qa z6.1) (clubW G qb z6.2)) hD
  refine call_VvP (own := "HamperClub$Club") (As := [.ref (qb 16)]) (rest := []) (q0 := 16) (ci := 0) (wc := clubW G qa z6.1 ++ clubW G qb z6.2) (post := []) hx hb hml hts hown hK hA hP hD hS ok_Clb_53 rfl ⟨Nat.le_of_ble_eq_true rfl, Nat.le_of_ble_eq_true rfl⟩ ⟨Nat.le_of_ble_eq_true rfl, Nat.le_of_ble_eq_true rfl⟩ rfl rfl rfl hl.1 rfl (Nat.le_of_ble_eq_true rfl) d_Clb_copyFrom_62 (c_Acc_copyFrom l G qa qb _ (z6.1, z6.2)  _ h) (fun z7 H locs h hP hD hS => ?_)
  have hP := SW.P (sw_2_0_1 (clubW G qa z7.1) (clubW G qb z7.2)).symm hP
  have hD := SW.D (sw_2_0_1 (clubW G qa z7.1) (clubW G qb z7.2)).symm hD
  exact r_vret (u := (z7.1, z7.2)) hx hb hr hlocks hP hD hS d_Clb_copyFrom_65 h
def wp_Snp_copyFrom (u : (Int32 × CS × Int32 × CS)) (Post : (Int32 × CS × Int32 × CS) → Prop) : Prop := ((u.2.2.1 = 0 ∨ u.2.2.1 = 1) ∧ (∀ u1 : Int32, u1 = u.2.2.1 → ((u1 = 0 → Post (u1, u.2.1, u.2.2.1, u.2.2.2)) ∧ (¬ u1 = 0 → (wp_Clb_copyFrom (u.2.1, u.2.2.2)  (fun z2 => Post (u1, z2.1, u.2.2.1, z2.2)))))))
theorem ok_Snp_20 : CallOk y_Clb_copyFrom b_Clb_copyFrom 2 none 2 1 "HamperClub$Snapshot" 20 := ⟨tb_297, tb_277, tb_278, tb_3, tb_279, by decide +kernel⟩
theorem sw_4_1_3 (s0 s1 s2 s3 : va_W) : SW (s0 ++ (s1 ++ (s2 ++ s3))) ((s1 ++ s3) ++ (s0 ++ s2)) := ⟨fun q => by simp only [List.mem_append, List.not_mem_nil, or_false, false_or, or_assoc, or_left_comm, or_comm], fun a => by first | (simp only [List.map_append, List.map_nil, List.count_append, List.count_nil, Nat.add_zero, Nat.add_assoc]; done) | (simp only [List.map_append, List.map_nil, List.count_append, List.count_nil]; omega)⟩
set_option maxHeartbeats 4000000 in
set_option maxRecDepth 100000 in
theorem c_Snp_copyFrom (l : Launch) (G : GG) (qa qa1 qb qb1 : Nat → Nat) (sz : Nat) (u : (Int32 × CS × Int32 × CS)) (Post : (Int32 × CS × Int32 × CS) → Prop) (h : wp_Snp_copyFrom u Post) : CMv l y_Snp_copyFrom b_Snp_copyFrom 2 3 G [.ref (qa 0), .ref (qb 0)] sz (snpW G qa qa1 u.1 ++ (clubW G qa1 u.2.1 ++ (snpW G qb qb1 u.2.2.1 ++ clubW G qb1 u.2.2.2))) (fun z => snpW G qa qa1 z.1 ++ (clubW G qa1 z.2.1 ++ (snpW G qb qb1 z.2.2.1 ++ clubW G qb1 z.2.2.2))) Post := by
  refine CMv.start (by decide) (Nat.le_of_ble_eq_true rfl) (fun p e s m below meth c A ls hx hb hr hts hown hml hlocks hA hS hP hD hK hl => ?_)
  unfold wp_Snp_copyFrom at h
  have hl : lv_has ls 2 [(0, .ref (qa 0)), (1, .ref (qb 0))] := hl
  refine lv_aload_n hx hb d_Snp_copyFrom_0 rfl (lv_at hl 0 rfl) ?_
  refine lv_aload_n hx hb d_Snp_copyFrom_1 rfl (lv_at hl 1 rfl) ?_
  refine gSN_Snp_taken hx hb hts hown hK (vpl_ (vpr_ (vpr_ hP))) tb_183 d_Snp_copyFrom_2 ?_
  obtain ⟨hz, h⟩ := h
  refine qSN_Snp_taken hx hb hts hown hK hP hD hS hz tb_183 d_Snp_copyFrom_5 (fun u1 H locs eu1 hP hD hS => ?_)
  have h := h u1 eu1
  refine lv_aload_n hx hb d_Snp_copyFrom_8 rfl (lv_at hl 0 rfl) ?_
  refine gSN_Snp_taken hx hb hts hown hK (vpl_ hP) tb_183 d_Snp_copyFrom_9 ?_
  refine lv_if_eq (tgt := 26) hx hb d_Snp_copyFrom_12 (by decide) (fun hc => ?_) (fun hc => ?_)
  · have h := h.1 hc
    exact r_vret (u := (u1, u.2.1, u.2.2.1, u.2.2.2)) hx hb hr hlocks hP hD hS d_Snp_copyFrom_26 h
  · have h := h.2 hc
    refine lv_aload_n hx hb d_Snp_copyFrom_15 rfl (lv_at hl 0 rfl) ?_
    refine gSN_Snp_club hx hb hts hown hK (vpl_ hP) tb_185 d_Snp_copyFrom_16 ?_
    refine lv_aload_n hx hb d_Snp_copyFrom_19 rfl (lv_at hl 1 rfl) ?_
    refine gSN_Snp_club hx hb hts hown hK (vpl_ (vpr_ (vpr_ hP))) tb_185 d_Snp_copyFrom_20 ?_
    have hP := SW.P (sw_4_1_3 (snpW G qa qa1 u1) (clubW G qa1 u.2.1) (snpW G qb qb1 u.2.2.1) (clubW G qb1 u.2.2.2)) hP
    have hD := SW.D (sw_4_1_3 (snpW G qa qa1 u1) (clubW G qa1 u.2.1) (snpW G qb qb1 u.2.2.1) (clubW G qb1 u.2.2.2)) hD
    refine call_VvP (own := "HamperClub$Snapshot") (As := [.ref (qb1 0)]) (rest := []) (q0 := 0) (ci := 2) (wc := clubW G qa1 u.2.1 ++ clubW G qb1 u.2.2.2) (post := snpW G qa qa1 u1 ++ snpW G qb qb1 u.2.2.1) hx hb hml hts hown hK hA hP hD hS ok_Snp_20 rfl ⟨Nat.le_of_ble_eq_true rfl, Nat.le_of_ble_eq_true rfl⟩ ⟨Nat.le_of_ble_eq_true rfl, Nat.le_of_ble_eq_true rfl⟩ rfl rfl rfl hl.1 rfl (Nat.le_of_ble_eq_true rfl) d_Snp_copyFrom_23 (c_Clb_copyFrom l G qa1 qb1 _ (u.2.1, u.2.2.2)  _ h) (fun z2 H locs h hP hD hS => ?_)
    have hP := SW.P (sw_4_1_3 (snpW G qa qa1 u1) (clubW G qa1 z2.1) (snpW G qb qb1 u.2.2.1) (clubW G qb1 z2.2)).symm hP
    have hD := SW.D (sw_4_1_3 (snpW G qa qa1 u1) (clubW G qa1 z2.1) (snpW G qb qb1 u.2.2.1) (clubW G qb1 z2.2)).symm hD
    exact r_vret (u := (u1, z2.1, u.2.2.1, z2.2)) hx hb hr hlocks hP hD hS d_Snp_copyFrom_26 h
def wp_Sta_takeSnapshot (u : (CS × Int32 × CS × Int32 × CS)) (p1 : Int32) (Post : Int32 → (CS × Int32 × CS × Int32 × CS) → Prop) : Prop := ((p1 < 0 → Post (-1) (u.1, u.2.1, u.2.2.1, u.2.2.2.1, u.2.2.2.2)) ∧ (¬ p1 < 0 → ((p1 ≤ 1 → ((p1 = 0 → (wp_Clb_copyFrom (u.2.2.1, u.1)  (fun z3 => (∀ u4 : Int32, u4 = 1 → Post (z3.2.1 0) (z3.2, u4, z3.1, u.2.2.2.1, u.2.2.2.2))))) ∧ (¬ p1 = 0 → (wp_Clb_copyFrom (u.2.2.2.2, u.1)  (fun z1 => (∀ u2 : Int32, u2 = 1 → Post (z1.2.1 0) (z1.2, u.2.1, u.2.2.1, u2, z1.1))))))) ∧ (¬ p1 ≤ 1 → Post (-1) (u.1, u.2.1, u.2.2.1, u.2.2.2.1, u.2.2.2.2)))))
theorem ok_Sta_28 : CallOk y_Clb_copyFrom b_Clb_copyFrom 2 none 2 1 "HamperClub$State" 28 := ⟨tb_276, tb_277, tb_278, tb_3, tb_279, by decide +kernel⟩
theorem sw_6_5_1 (s0 s1 s2 s3 s4 s5 : va_W) : SW (s0 ++ (s1 ++ (s2 ++ (s3 ++ (s4 ++ s5))))) ((s5 ++ s1) ++ (s0 ++ (s2 ++ (s3 ++ s4)))) := ⟨fun q => by simp only [List.mem_append, List.not_mem_nil, or_false, false_or, or_assoc, or_left_comm, or_comm], fun a => by first | (simp only [List.map_append, List.map_nil, List.count_append, List.count_nil, Nat.add_zero, Nat.add_assoc]; done) | (simp only [List.map_append, List.map_nil, List.count_append, List.count_nil]; omega)⟩
theorem sw_6_4 (s0 s1 s2 s3 s4 s5 : va_W) : SW (s0 ++ (s1 ++ (s2 ++ (s3 ++ (s4 ++ s5))))) ((s4) ++ (s0 ++ (s1 ++ (s2 ++ (s3 ++ s5))))) := ⟨fun q => by simp only [List.mem_append, List.not_mem_nil, or_false, false_or, or_assoc, or_left_comm, or_comm], fun a => by first | (simp only [List.map_append, List.map_nil, List.count_append, List.count_nil, Nat.add_zero, Nat.add_assoc]; done) | (simp only [List.map_append, List.map_nil, List.count_append, List.count_nil]; omega)⟩
theorem sw_6_3_1 (s0 s1 s2 s3 s4 s5 : va_W) : SW (s0 ++ (s1 ++ (s2 ++ (s3 ++ (s4 ++ s5))))) ((s3 ++ s1) ++ (s0 ++ (s2 ++ (s4 ++ s5)))) := ⟨fun q => by simp only [List.mem_append, List.not_mem_nil, or_false, false_or, or_assoc, or_left_comm, or_comm], fun a => by first | (simp only [List.map_append, List.map_nil, List.count_append, List.count_nil, Nat.add_zero, Nat.add_assoc]; done) | (simp only [List.map_append, List.map_nil, List.count_append, List.count_nil]; omega)⟩
theorem sw_6_2 (s0 s1 s2 s3 s4 s5 : va_W) : SW (s0 ++ (s1 ++ (s2 ++ (s3 ++ (s4 ++ s5))))) ((s2) ++ (s0 ++ (s1 ++ (s3 ++ (s4 ++ s5))))) := ⟨fun q => by simp only [List.mem_append, List.not_mem_nil, or_false, false_or, or_assoc, or_left_comm, or_comm], fun a => by first | (simp only [List.map_append, List.map_nil, List.count_append, List.count_nil, Nat.add_zero, Nat.add_assoc]; done) | (simp only [List.map_append, List.map_nil, List.count_append, List.count_nil]; omega)⟩
set_option maxHeartbeats 4000000 in
set_option maxRecDepth 100000 in
theorem c_Sta_takeSnapshot (l : Launch) (G : GG) (qa0 qa1 qa2 qa3 qa4 qa5 : Nat → Nat) (sz : Nat) (u : (CS × Int32 × CS × Int32 × CS)) (p1 : Int32) (Post : Int32 → (CS × Int32 × CS × Int32 × CS) → Prop) (h : wp_Sta_takeSnapshot u p1 Post) : CMi l y_Sta_takeSnapshot b_Sta_takeSnapshot 3 .int 3 G [.ref (qa0 0), .int p1] sz (staW G qa0 qa1 qa2 qa4 ++ (clubW G qa1 u.1 ++ (snpW G qa2 qa3 u.2.1 ++ (clubW G qa3 u.2.2.1 ++ (snpW G qa4 qa5 u.2.2.2.1 ++ clubW G qa5 u.2.2.2.2))))) (fun z => staW G qa0 qa1 qa2 qa4 ++ (clubW G qa1 z.1 ++ (snpW G qa2 qa3 z.2.1 ++ (clubW G qa3 z.2.2.1 ++ (snpW G qa4 qa5 z.2.2.2.1 ++ clubW G qa5 z.2.2.2.2))))) Post := by
  refine CMi.start (by decide) (Nat.le_of_ble_eq_true rfl) (fun p e s m below meth c A ls hx hb hr hts hown hml hlocks hA hS hP hD hK hl => ?_)
  unfold wp_Sta_takeSnapshot at h
  have hl : lv_has ls 3 [(0, .ref (qa0 0)), (1, .int p1)] := hl
  refine lv_iload_n hx hb d_Sta_takeSnapshot_0 rfl (lv_at hl 1 rfl) ?_
  refine lv_if_lt (tgt := 9) hx hb d_Sta_takeSnapshot_1 (by decide) (fun hc => ?_) (fun hc => ?_)
  · have h := h.1 hc
    refine lv_iconst (v := (-1)) hx hb d_Sta_takeSnapshot_9 (by decide) ?_
    exact r_iret (u := (u.1, u.2.1, u.2.2.1, u.2.2.2.1, u.2.2.2.2)) hx hb hr hlocks hP hD hS d_Sta_takeSnapshot_10 h
  · have h := h.2 hc
    refine lv_iload_n hx hb d_Sta_takeSnapshot_4 rfl (lv_at hl 1 rfl) ?_
    refine lv_iconst (v := 1) hx hb d_Sta_takeSnapshot_5 (by decide) ?_
    refine lv_icmp_le (tgt := 11) hx hb d_Sta_takeSnapshot_6 (by decide) (fun hc => ?_) (fun hc => ?_)
    · have h := h.1 hc
      refine lv_iload_n hx hb d_Sta_takeSnapshot_11 rfl (lv_at hl 1 rfl) ?_
      refine lv_if_ne (tgt := 22) hx hb d_Sta_takeSnapshot_12 (by decide) (fun hc => ?_) (fun hc => ?_)
      · have h := h.2 hc
        refine lv_aload_n hx hb d_Sta_takeSnapshot_22 rfl (lv_at hl 0 rfl) ?_
        refine gST_Sta_second hx hb hts hown hK (vpl_ hP) tb_195 d_Sta_takeSnapshot_23 ?_
        refine lv_astore_n (lv' := [(2, .ref (qa4 0)), (0, .ref (qa0 0)), (1, .int p1)]) hx hb d_Sta_takeSnapshot_26 rfl hl (by decide) rfl (fun ls hl => ?_)
        refine lv_aload_n hx hb d_Sta_takeSnapshot_27 rfl (lv_at hl 0 rfl) ?_
        refine gSN_Snp_club hx hb hts hown hK (vpl_ (vpr_ (vpr_ (vpr_ (vpr_ hP))))) tb_186 d_Sta_takeSnapshot_28 ?_
        refine lv_aload_n hx hb d_Sta_takeSnapshot_31 rfl (lv_at hl 1 rfl) ?_
        refine gST_Sta_club hx hb hts hown hK (vpl_ hP) tb_192 d_Sta_takeSnapshot_32 ?_
        have hP := SW.P (sw_6_5_1 (staW G qa0 qa1 qa2 qa4) (clubW G qa1 u.1) (snpW G qa2 qa3 u.2.1) (clubW G qa3 u.2.2.1) (snpW G qa4 qa5 u.2.2.2.1) (clubW G qa5 u.2.2.2.2)) hP
        have hD := SW.D (sw_6_5_1 (staW G qa0 qa1 qa2 qa4) (clubW G qa1 u.1) (snpW G qa2 qa3 u.2.1) (clubW G qa3 u.2.2.1) (snpW G qa4 qa5 u.2.2.2.1) (clubW G qa5 u.2.2.2.2)) hD
        refine call_VvP (own := "HamperClub$State") (As := [.ref (qa1 0)]) (rest := []) (q0 := 0) (ci := 2) (wc := clubW G qa5 u.2.2.2.2 ++ clubW G qa1 u.1) (post := staW G qa0 qa1 qa2 qa4 ++ (snpW G qa2 qa3 u.2.1 ++ (clubW G qa3 u.2.2.1 ++ snpW G qa4 qa5 u.2.2.2.1))) hx hb hml hts hown hK hA hP hD hS ok_Sta_28 rfl ⟨Nat.le_of_ble_eq_true rfl, Nat.le_of_ble_eq_true rfl⟩ ⟨Nat.le_of_ble_eq_true rfl, Nat.le_of_ble_eq_true rfl⟩ rfl rfl rfl hl.1 rfl (Nat.le_of_ble_eq_true rfl) d_Sta_takeSnapshot_35 (c_Clb_copyFrom l G qa5 qa1 _ (u.2.2.2.2, u.1)  _ h) (fun z1 H locs h hP hD hS => ?_)
        have hP := SW.P (sw_6_5_1 (staW G qa0 qa1 qa2 qa4) (clubW G qa1 z1.2) (snpW G qa2 qa3 u.2.1) (clubW G qa3 u.2.2.1) (snpW G qa4 qa5 u.2.2.2.1) (clubW G qa5 z1.1)).symm hP
        have hD := SW.D (sw_6_5_1 (staW G qa0 qa1 qa2 qa4) (clubW G qa1 z1.2) (snpW G qa2 qa3 u.2.1) (clubW G qa3 u.2.2.1) (snpW G qa4 qa5 u.2.2.2.1) (clubW G qa5 z1.1)).symm hD
        refine lv_aload_n hx hb d_Sta_takeSnapshot_38 rfl (lv_at hl 0 rfl) ?_
        refine lv_iconst (v := 1) hx hb d_Sta_takeSnapshot_39 (by decide) ?_
        have hP := SW.P (sw_6_4 (staW G qa0 qa1 qa2 qa4) (clubW G qa1 z1.2) (snpW G qa2 qa3 u.2.1) (clubW G qa3 u.2.2.1) (snpW G qa4 qa5 u.2.2.2.1) (clubW G qa5 z1.1)) hP
        have hD := SW.D (sw_6_4 (staW G qa0 qa1 qa2 qa4) (clubW G qa1 z1.2) (snpW G qa2 qa3 u.2.1) (clubW G qa3 u.2.2.1) (snpW G qa4 qa5 u.2.2.2.1) (clubW G qa5 z1.1)) hD
        refine qSN_Snp_taken hx hb hts hown hK hP hD hS (Or.inr rfl) tb_184 d_Sta_takeSnapshot_40 (fun u2 H locs eu2 hP hD hS => ?_)
        have h := h u2 eu2
        have hP := SW.P (sw_6_4 (staW G qa0 qa1 qa2 qa4) (clubW G qa1 z1.2) (snpW G qa2 qa3 u.2.1) (clubW G qa3 u.2.2.1) (snpW G qa4 qa5 u2) (clubW G qa5 z1.1)).symm hP
        have hD := SW.D (sw_6_4 (staW G qa0 qa1 qa2 qa4) (clubW G qa1 z1.2) (snpW G qa2 qa3 u.2.1) (clubW G qa3 u.2.2.1) (snpW G qa4 qa5 u2) (clubW G qa5 z1.1)).symm hD
        refine lv_aload_n hx hb d_Sta_takeSnapshot_43 rfl (lv_at hl 1 rfl) ?_
        refine gST_Sta_club hx hb hts hown hK (vpl_ hP) tb_192 d_Sta_takeSnapshot_44 ?_
        refine gC_Clb_week hx hb hts hown hK (vpl_ (vpr_ hP)) tb_149 d_Sta_takeSnapshot_47 ?_
        exact r_iret (u := (z1.2, u.2.1, u.2.2.1, u2, z1.1)) hx hb hr hlocks hP hD hS d_Sta_takeSnapshot_50 h
      · have h := h.1 hc
        refine lv_aload_n hx hb d_Sta_takeSnapshot_15 rfl (lv_at hl 0 rfl) ?_
        refine gST_Sta_first hx hb hts hown hK (vpl_ hP) tb_194 d_Sta_takeSnapshot_16 ?_
        refine lv_goto (tgt := 26) hx hb d_Sta_takeSnapshot_19 (by decide) ?_
        refine lv_astore_n (lv' := [(2, .ref (qa2 0)), (0, .ref (qa0 0)), (1, .int p1)]) hx hb d_Sta_takeSnapshot_26 rfl hl (by decide) rfl (fun ls hl => ?_)
        refine lv_aload_n hx hb d_Sta_takeSnapshot_27 rfl (lv_at hl 0 rfl) ?_
        refine gSN_Snp_club hx hb hts hown hK (vpl_ (vpr_ (vpr_ hP))) tb_186 d_Sta_takeSnapshot_28 ?_
        refine lv_aload_n hx hb d_Sta_takeSnapshot_31 rfl (lv_at hl 1 rfl) ?_
        refine gST_Sta_club hx hb hts hown hK (vpl_ hP) tb_192 d_Sta_takeSnapshot_32 ?_
        have hP := SW.P (sw_6_3_1 (staW G qa0 qa1 qa2 qa4) (clubW G qa1 u.1) (snpW G qa2 qa3 u.2.1) (clubW G qa3 u.2.2.1) (snpW G qa4 qa5 u.2.2.2.1) (clubW G qa5 u.2.2.2.2)) hP
        have hD := SW.D (sw_6_3_1 (staW G qa0 qa1 qa2 qa4) (clubW G qa1 u.1) (snpW G qa2 qa3 u.2.1) (clubW G qa3 u.2.2.1) (snpW G qa4 qa5 u.2.2.2.1) (clubW G qa5 u.2.2.2.2)) hD
        refine call_VvP (own := "HamperClub$State") (As := [.ref (qa1 0)]) (rest := []) (q0 := 0) (ci := 2) (wc := clubW G qa3 u.2.2.1 ++ clubW G qa1 u.1) (post := staW G qa0 qa1 qa2 qa4 ++ (snpW G qa2 qa3 u.2.1 ++ (snpW G qa4 qa5 u.2.2.2.1 ++ clubW G qa5 u.2.2.2.2))) hx hb hml hts hown hK hA hP hD hS ok_Sta_28 rfl ⟨Nat.le_of_ble_eq_true rfl, Nat.le_of_ble_eq_true rfl⟩ ⟨Nat.le_of_ble_eq_true rfl, Nat.le_of_ble_eq_true rfl⟩ rfl rfl rfl hl.1 rfl (Nat.le_of_ble_eq_true rfl) d_Sta_takeSnapshot_35 (c_Clb_copyFrom l G qa3 qa1 _ (u.2.2.1, u.1)  _ h) (fun z3 H locs h hP hD hS => ?_)
        have hP := SW.P (sw_6_3_1 (staW G qa0 qa1 qa2 qa4) (clubW G qa1 z3.2) (snpW G qa2 qa3 u.2.1) (clubW G qa3 z3.1) (snpW G qa4 qa5 u.2.2.2.1) (clubW G qa5 u.2.2.2.2)).symm hP
        have hD := SW.D (sw_6_3_1 (staW G qa0 qa1 qa2 qa4) (clubW G qa1 z3.2) (snpW G qa2 qa3 u.2.1) (clubW G qa3 z3.1) (snpW G qa4 qa5 u.2.2.2.1) (clubW G qa5 u.2.2.2.2)).symm hD
        refine lv_aload_n hx hb d_Sta_takeSnapshot_38 rfl (lv_at hl 0 rfl) ?_
        refine lv_iconst (v := 1) hx hb d_Sta_takeSnapshot_39 (by decide) ?_
        have hP := SW.P (sw_6_2 (staW G qa0 qa1 qa2 qa4) (clubW G qa1 z3.2) (snpW G qa2 qa3 u.2.1) (clubW G qa3 z3.1) (snpW G qa4 qa5 u.2.2.2.1) (clubW G qa5 u.2.2.2.2)) hP
        have hD := SW.D (sw_6_2 (staW G qa0 qa1 qa2 qa4) (clubW G qa1 z3.2) (snpW G qa2 qa3 u.2.1) (clubW G qa3 z3.1) (snpW G qa4 qa5 u.2.2.2.1) (clubW G qa5 u.2.2.2.2)) hD
        refine qSN_Snp_taken hx hb hts hown hK hP hD hS (Or.inr rfl) tb_184 d_Sta_takeSnapshot_40 (fun u4 H locs eu4 hP hD hS => ?_)
        have h := h u4 eu4
        have hP := SW.P (sw_6_2 (staW G qa0 qa1 qa2 qa4) (clubW G qa1 z3.2) (snpW G qa2 qa3 u4) (clubW G qa3 z3.1) (snpW G qa4 qa5 u.2.2.2.1) (clubW G qa5 u.2.2.2.2)).symm hP
        have hD := SW.D (sw_6_2 (staW G qa0 qa1 qa2 qa4) (clubW G qa1 z3.2) (snpW G qa2 qa3 u4) (clubW G qa3 z3.1) (snpW G qa4 qa5 u.2.2.2.1) (clubW G qa5 u.2.2.2.2)).symm hD
        refine lv_aload_n hx hb d_Sta_takeSnapshot_43 rfl (lv_at hl 1 rfl) ?_
        refine gST_Sta_club hx hb hts hown hK (vpl_ hP) tb_192 d_Sta_takeSnapshot_44 ?_
        refine gC_Clb_week hx hb hts hown hK (vpl_ (vpr_ hP)) tb_149 d_Sta_takeSnapshot_47 ?_
        exact r_iret (u := (z3.2, u4, z3.1, u.2.2.2.1, u.2.2.2.2)) hx hb hr hlocks hP hD hS d_Sta_takeSnapshot_50 h
    · have h := h.2 hc
      refine lv_iconst (v := (-1)) hx hb d_Sta_takeSnapshot_9 (by decide) ?_
      exact r_iret (u := (u.1, u.2.1, u.2.2.1, u.2.2.2.1, u.2.2.2.2)) hx hb hr hlocks hP hD hS d_Sta_takeSnapshot_10 h
def wp_Sta_restoreSnapshot (u : (CS × Int32 × CS × Int32 × CS)) (p1 : Int32) (Post : Int32 → (CS × Int32 × CS × Int32 × CS) → Prop) : Prop := ((p1 < 0 → Post (-1) (u.1, u.2.1, u.2.2.1, u.2.2.2.1, u.2.2.2.2)) ∧ (¬ p1 < 0 → ((p1 ≤ 1 → ((p1 = 0 → ((u.2.1 = 0 → Post (-2) (u.1, u.2.1, u.2.2.1, u.2.2.2.1, u.2.2.2.2)) ∧ (¬ u.2.1 = 0 → (wp_Clb_copyFrom (u.1, u.2.2.1)  (fun z2 => Post (z2.1.1 0) (z2.1, u.2.1, z2.2, u.2.2.2.1, u.2.2.2.2)))))) ∧ (¬ p1 = 0 → ((u.2.2.2.1 = 0 → Post (-2) (u.1, u.2.1, u.2.2.1, u.2.2.2.1, u.2.2.2.2)) ∧ (¬ u.2.2.2.1 = 0 → (wp_Clb_copyFrom (u.1, u.2.2.2.2)  (fun z1 => Post (z1.1.1 0) (z1.1, u.2.1, u.2.2.1, u.2.2.2.1, z1.2)))))))) ∧ (¬ p1 ≤ 1 → Post (-1) (u.1, u.2.1, u.2.2.1, u.2.2.2.1, u.2.2.2.2)))))
theorem sw_6_1_5 (s0 s1 s2 s3 s4 s5 : va_W) : SW (s0 ++ (s1 ++ (s2 ++ (s3 ++ (s4 ++ s5))))) ((s1 ++ s5) ++ (s0 ++ (s2 ++ (s3 ++ s4)))) := ⟨fun q => by simp only [List.mem_append, List.not_mem_nil, or_false, false_or, or_assoc, or_left_comm, or_comm], fun a => by first | (simp only [List.map_append, List.map_nil, List.count_append, List.count_nil, Nat.add_zero, Nat.add_assoc]; done) | (simp only [List.map_append, List.map_nil, List.count_append, List.count_nil]; omega)⟩
theorem sw_6_1_3 (s0 s1 s2 s3 s4 s5 : va_W) : SW (s0 ++ (s1 ++ (s2 ++ (s3 ++ (s4 ++ s5))))) ((s1 ++ s3) ++ (s0 ++ (s2 ++ (s4 ++ s5)))) := ⟨fun q => by simp only [List.mem_append, List.not_mem_nil, or_false, false_or, or_assoc, or_left_comm, or_comm], fun a => by first | (simp only [List.map_append, List.map_nil, List.count_append, List.count_nil, Nat.add_zero, Nat.add_assoc]; done) | (simp only [List.map_append, List.map_nil, List.count_append, List.count_nil]; omega)⟩
set_option maxHeartbeats 4000000 in
set_option maxRecDepth 100000 in
theorem c_Sta_restoreSnapshot (l : Launch) (G : GG) (qa0 qa1 qa2 qa3 qa4 qa5 : Nat → Nat) (sz : Nat) (u : (CS × Int32 × CS × Int32 × CS)) (p1 : Int32) (Post : Int32 → (CS × Int32 × CS × Int32 × CS) → Prop) (h : wp_Sta_restoreSnapshot u p1 Post) : CMi l y_Sta_restoreSnapshot b_Sta_restoreSnapshot 3 .int 3 G [.ref (qa0 0), .int p1] sz (staW G qa0 qa1 qa2 qa4 ++ (clubW G qa1 u.1 ++ (snpW G qa2 qa3 u.2.1 ++ (clubW G qa3 u.2.2.1 ++ (snpW G qa4 qa5 u.2.2.2.1 ++ clubW G qa5 u.2.2.2.2))))) (fun z => staW G qa0 qa1 qa2 qa4 ++ (clubW G qa1 z.1 ++ (snpW G qa2 qa3 z.2.1 ++ (clubW G qa3 z.2.2.1 ++ (snpW G qa4 qa5 z.2.2.2.1 ++ clubW G qa5 z.2.2.2.2))))) Post := by
  refine CMi.start (by decide) (Nat.le_of_ble_eq_true rfl) (fun p e s m below meth c A ls hx hb hr hts hown hml hlocks hA hS hP hD hK hl => ?_)
  unfold wp_Sta_restoreSnapshot at h
  have hl : lv_has ls 3 [(0, .ref (qa0 0)), (1, .int p1)] := hl
  refine lv_iload_n hx hb d_Sta_restoreSnapshot_0 rfl (lv_at hl 1 rfl) ?_
  refine lv_if_lt (tgt := 9) hx hb d_Sta_restoreSnapshot_1 (by decide) (fun hc => ?_) (fun hc => ?_)
  · have h := h.1 hc
    refine lv_iconst (v := (-1)) hx hb d_Sta_restoreSnapshot_9 (by decide) ?_
    exact r_iret (u := (u.1, u.2.1, u.2.2.1, u.2.2.2.1, u.2.2.2.2)) hx hb hr hlocks hP hD hS d_Sta_restoreSnapshot_10 h
  · have h := h.2 hc
    refine lv_iload_n hx hb d_Sta_restoreSnapshot_4 rfl (lv_at hl 1 rfl) ?_
    refine lv_iconst (v := 1) hx hb d_Sta_restoreSnapshot_5 (by decide) ?_
    refine lv_icmp_le (tgt := 11) hx hb d_Sta_restoreSnapshot_6 (by decide) (fun hc => ?_) (fun hc => ?_)
    · have h := h.1 hc
      refine lv_iload_n hx hb d_Sta_restoreSnapshot_11 rfl (lv_at hl 1 rfl) ?_
      refine lv_if_ne (tgt := 22) hx hb d_Sta_restoreSnapshot_12 (by decide) (fun hc => ?_) (fun hc => ?_)
      · have h := h.2 hc
        refine lv_aload_n hx hb d_Sta_restoreSnapshot_22 rfl (lv_at hl 0 rfl) ?_
        refine gST_Sta_second hx hb hts hown hK (vpl_ hP) tb_195 d_Sta_restoreSnapshot_23 ?_
        refine lv_astore_n (lv' := [(2, .ref (qa4 0)), (0, .ref (qa0 0)), (1, .int p1)]) hx hb d_Sta_restoreSnapshot_26 rfl hl (by decide) rfl (fun ls hl => ?_)
        refine lv_aload_n hx hb d_Sta_restoreSnapshot_27 rfl (lv_at hl 0 rfl) ?_
        refine gSN_Snp_taken hx hb hts hown hK (vpl_ (vpr_ (vpr_ (vpr_ (vpr_ hP))))) tb_184 d_Sta_restoreSnapshot_28 ?_
        refine lv_if_ne (tgt := 37) hx hb d_Sta_restoreSnapshot_31 (by decide) (fun hc => ?_) (fun hc => ?_)
        · have h := h.2 hc
          refine lv_aload_n hx hb d_Sta_restoreSnapshot_37 rfl (lv_at hl 1 rfl) ?_
          refine gST_Sta_club hx hb hts hown hK (vpl_ hP) tb_192 d_Sta_restoreSnapshot_38 ?_
          refine lv_aload_n hx hb d_Sta_restoreSnapshot_41 rfl (lv_at hl 0 rfl) ?_
          refine gSN_Snp_club hx hb hts hown hK (vpl_ (vpr_ (vpr_ (vpr_ (vpr_ hP))))) tb_186 d_Sta_restoreSnapshot_42 ?_
          have hP := SW.P (sw_6_1_5 (staW G qa0 qa1 qa2 qa4) (clubW G qa1 u.1) (snpW G qa2 qa3 u.2.1) (clubW G qa3 u.2.2.1) (snpW G qa4 qa5 u.2.2.2.1) (clubW G qa5 u.2.2.2.2)) hP
          have hD := SW.D (sw_6_1_5 (staW G qa0 qa1 qa2 qa4) (clubW G qa1 u.1) (snpW G qa2 qa3 u.2.1) (clubW G qa3 u.2.2.1) (snpW G qa4 qa5 u.2.2.2.1) (clubW G qa5 u.2.2.2.2)) hD
          refine call_VvP (own := "HamperClub$State") (As := [.ref (qa5 0)]) (rest := []) (q0 := 0) (ci := 2) (wc := clubW G qa1 u.1 ++ clubW G qa5 u.2.2.2.2) (post := staW G qa0 qa1 qa2 qa4 ++ (snpW G qa2 qa3 u.2.1 ++ (clubW G qa3 u.2.2.1 ++ snpW G qa4 qa5 u.2.2.2.1))) hx hb hml hts hown hK hA hP hD hS ok_Sta_28 rfl ⟨Nat.le_of_ble_eq_true rfl, Nat.le_of_ble_eq_true rfl⟩ ⟨Nat.le_of_ble_eq_true rfl, Nat.le_of_ble_eq_true rfl⟩ rfl rfl rfl hl.1 rfl (Nat.le_of_ble_eq_true rfl) d_Sta_restoreSnapshot_45 (c_Clb_copyFrom l G qa1 qa5 _ (u.1, u.2.2.2.2)  _ h) (fun z1 H locs h hP hD hS => ?_)
          have hP := SW.P (sw_6_1_5 (staW G qa0 qa1 qa2 qa4) (clubW G qa1 z1.1) (snpW G qa2 qa3 u.2.1) (clubW G qa3 u.2.2.1) (snpW G qa4 qa5 u.2.2.2.1) (clubW G qa5 z1.2)).symm hP
          have hD := SW.D (sw_6_1_5 (staW G qa0 qa1 qa2 qa4) (clubW G qa1 z1.1) (snpW G qa2 qa3 u.2.1) (clubW G qa3 u.2.2.1) (snpW G qa4 qa5 u.2.2.2.1) (clubW G qa5 z1.2)).symm hD
          refine lv_aload_n hx hb d_Sta_restoreSnapshot_48 rfl (lv_at hl 1 rfl) ?_
          refine gST_Sta_club hx hb hts hown hK (vpl_ hP) tb_192 d_Sta_restoreSnapshot_49 ?_
          refine gC_Clb_week hx hb hts hown hK (vpl_ (vpr_ hP)) tb_149 d_Sta_restoreSnapshot_52 ?_
          exact r_iret (u := (z1.1, u.2.1, u.2.2.1, u.2.2.2.1, z1.2)) hx hb hr hlocks hP hD hS d_Sta_restoreSnapshot_55 h
        · have h := h.1 hc
          refine lv_bipush (v := (-2)) hx hb d_Sta_restoreSnapshot_34 (by decide) ?_
          exact r_iret (u := (u.1, u.2.1, u.2.2.1, u.2.2.2.1, u.2.2.2.2)) hx hb hr hlocks hP hD hS d_Sta_restoreSnapshot_36 h
      · have h := h.1 hc
        refine lv_aload_n hx hb d_Sta_restoreSnapshot_15 rfl (lv_at hl 0 rfl) ?_
        refine gST_Sta_first hx hb hts hown hK (vpl_ hP) tb_194 d_Sta_restoreSnapshot_16 ?_
        refine lv_goto (tgt := 26) hx hb d_Sta_restoreSnapshot_19 (by decide) ?_
        refine lv_astore_n (lv' := [(2, .ref (qa2 0)), (0, .ref (qa0 0)), (1, .int p1)]) hx hb d_Sta_restoreSnapshot_26 rfl hl (by decide) rfl (fun ls hl => ?_)
        refine lv_aload_n hx hb d_Sta_restoreSnapshot_27 rfl (lv_at hl 0 rfl) ?_
        refine gSN_Snp_taken hx hb hts hown hK (vpl_ (vpr_ (vpr_ hP))) tb_184 d_Sta_restoreSnapshot_28 ?_
        refine lv_if_ne (tgt := 37) hx hb d_Sta_restoreSnapshot_31 (by decide) (fun hc => ?_) (fun hc => ?_)
        · have h := h.2 hc
          refine lv_aload_n hx hb d_Sta_restoreSnapshot_37 rfl (lv_at hl 1 rfl) ?_
          refine gST_Sta_club hx hb hts hown hK (vpl_ hP) tb_192 d_Sta_restoreSnapshot_38 ?_
          refine lv_aload_n hx hb d_Sta_restoreSnapshot_41 rfl (lv_at hl 0 rfl) ?_
          refine gSN_Snp_club hx hb hts hown hK (vpl_ (vpr_ (vpr_ hP))) tb_186 d_Sta_restoreSnapshot_42 ?_
          have hP := SW.P (sw_6_1_3 (staW G qa0 qa1 qa2 qa4) (clubW G qa1 u.1) (snpW G qa2 qa3 u.2.1) (clubW G qa3 u.2.2.1) (snpW G qa4 qa5 u.2.2.2.1) (clubW G qa5 u.2.2.2.2)) hP
          have hD := SW.D (sw_6_1_3 (staW G qa0 qa1 qa2 qa4) (clubW G qa1 u.1) (snpW G qa2 qa3 u.2.1) (clubW G qa3 u.2.2.1) (snpW G qa4 qa5 u.2.2.2.1) (clubW G qa5 u.2.2.2.2)) hD
          refine call_VvP (own := "HamperClub$State") (As := [.ref (qa3 0)]) (rest := []) (q0 := 0) (ci := 2) (wc := clubW G qa1 u.1 ++ clubW G qa3 u.2.2.1) (post := staW G qa0 qa1 qa2 qa4 ++ (snpW G qa2 qa3 u.2.1 ++ (snpW G qa4 qa5 u.2.2.2.1 ++ clubW G qa5 u.2.2.2.2))) hx hb hml hts hown hK hA hP hD hS ok_Sta_28 rfl ⟨Nat.le_of_ble_eq_true rfl, Nat.le_of_ble_eq_true rfl⟩ ⟨Nat.le_of_ble_eq_true rfl, Nat.le_of_ble_eq_true rfl⟩ rfl rfl rfl hl.1 rfl (Nat.le_of_ble_eq_true rfl) d_Sta_restoreSnapshot_45 (c_Clb_copyFrom l G qa1 qa3 _ (u.1, u.2.2.1)  _ h) (fun z2 H locs h hP hD hS => ?_)
          have hP := SW.P (sw_6_1_3 (staW G qa0 qa1 qa2 qa4) (clubW G qa1 z2.1) (snpW G qa2 qa3 u.2.1) (clubW G qa3 z2.2) (snpW G qa4 qa5 u.2.2.2.1) (clubW G qa5 u.2.2.2.2)).symm hP
          have hD := SW.D (sw_6_1_3 (staW G qa0 qa1 qa2 qa4) (clubW G qa1 z2.1) (snpW G qa2 qa3 u.2.1) (clubW G qa3 z2.2) (snpW G qa4 qa5 u.2.2.2.1) (clubW G qa5 u.2.2.2.2)).symm hD
          refine lv_aload_n hx hb d_Sta_restoreSnapshot_48 rfl (lv_at hl 1 rfl) ?_
          refine gST_Sta_club hx hb hts hown hK (vpl_ hP) tb_192 d_Sta_restoreSnapshot_49 ?_
          refine gC_Clb_week hx hb hts hown hK (vpl_ (vpr_ hP)) tb_149 d_Sta_restoreSnapshot_52 ?_
          exact r_iret (u := (z2.1, u.2.1, z2.2, u.2.2.2.1, u.2.2.2.2)) hx hb hr hlocks hP hD hS d_Sta_restoreSnapshot_55 h
        · have h := h.1 hc
          refine lv_bipush (v := (-2)) hx hb d_Sta_restoreSnapshot_34 (by decide) ?_
          exact r_iret (u := (u.1, u.2.1, u.2.2.1, u.2.2.2.1, u.2.2.2.2)) hx hb hr hlocks hP hD hS d_Sta_restoreSnapshot_36 h
    · have h := h.2 hc
      refine lv_iconst (v := (-1)) hx hb d_Sta_restoreSnapshot_9 (by decide) ?_
      exact r_iret (u := (u.1, u.2.1, u.2.2.1, u.2.2.2.1, u.2.2.2.2)) hx hb hr hlocks hP hD hS d_Sta_restoreSnapshot_10 h
def wp_Sta_copyFrom (u : (CS × Int32 × CS × Int32 × CS × CS × Int32 × CS × Int32 × CS)) (Post : (CS × Int32 × CS × Int32 × CS × CS × Int32 × CS × Int32 × CS) → Prop) : Prop := (wp_Clb_copyFrom (u.1, u.2.2.2.2.2.1)  (fun z1 => (wp_Snp_copyFrom (u.2.1, u.2.2.1, u.2.2.2.2.2.2.1, u.2.2.2.2.2.2.2.1)  (fun z2 => (wp_Snp_copyFrom (u.2.2.2.1, u.2.2.2.2.1, u.2.2.2.2.2.2.2.2.1, u.2.2.2.2.2.2.2.2.2)  (fun z3 => Post (z1.1, z2.1, z2.2.1, z3.1, z3.2.1, z1.2, z2.2.2.1, z2.2.2.2, z3.2.2.1, z3.2.2.2)))))))
theorem sw_12_1_7 (s0 s1 s2 s3 s4 s5 s6 s7 s8 s9 s10 s11 : va_W) : SW (s0 ++ (s1 ++ (s2 ++ (s3 ++ (s4 ++ (s5 ++ (s6 ++ (s7 ++ (s8 ++ (s9 ++ (s10 ++ s11))))))))))) ((s1 ++ s7) ++ (s0 ++ (s2 ++ (s3 ++ (s4 ++ (s5 ++ (s6 ++ (s8 ++ (s9 ++ (s10 ++ s11)))))))))) := ⟨fun q => by simp only [List.mem_append, List.not_mem_nil, or_false, false_or, or_assoc, or_left_comm, or_comm], fun a => by first | (simp only [List.map_append, List.map_nil, List.count_append, List.count_nil, Nat.add_zero, Nat.add_assoc]; done) | (simp only [List.map_append, List.map_nil, List.count_append, List.count_nil]; omega)⟩
theorem ok_Sta_32 : CallOk y_Snp_copyFrom b_Snp_copyFrom 2 none 3 1 "HamperClub$State" 32 := ⟨tb_293, tb_294, tb_295, tb_9, tb_296, by decide +kernel⟩
theorem sw_12_2_3_8_9 (s0 s1 s2 s3 s4 s5 s6 s7 s8 s9 s10 s11 : va_W) : SW (s0 ++ (s1 ++ (s2 ++ (s3 ++ (s4 ++ (s5 ++ (s6 ++ (s7 ++ (s8 ++ (s9 ++ (s10 ++ s11))))))))))) ((s2 ++ (s3 ++ (s8 ++ s9))) ++ (s0 ++ (s1 ++ (s4 ++ (s5 ++ (s6 ++ (s7 ++ (s10 ++ s11)))))))) := ⟨fun q => by simp only [List.mem_append, List.not_mem_nil, or_false, false_or, or_assoc, or_left_comm, or_comm], fun a => by first | (simp only [List.map_append, List.map_nil, List.count_append, List.count_nil, Nat.add_zero, Nat.add_assoc]; done) | (simp only [List.map_append, List.map_nil, List.count_append, List.count_nil]; omega)⟩
theorem sw_12_4_5_10_11 (s0 s1 s2 s3 s4 s5 s6 s7 s8 s9 s10 s11 : va_W) : SW (s0 ++ (s1 ++ (s2 ++ (s3 ++ (s4 ++ (s5 ++ (s6 ++ (s7 ++ (s8 ++ (s9 ++ (s10 ++ s11))))))))))) ((s4 ++ (s5 ++ (s10 ++ s11))) ++ (s0 ++ (s1 ++ (s2 ++ (s3 ++ (s6 ++ (s7 ++ (s8 ++ s9)))))))) := ⟨fun q => by simp only [List.mem_append, List.not_mem_nil, or_false, false_or, or_assoc, or_left_comm, or_comm], fun a => by first | (simp only [List.map_append, List.map_nil, List.count_append, List.count_nil, Nat.add_zero, Nat.add_assoc]; done) | (simp only [List.map_append, List.map_nil, List.count_append, List.count_nil]; omega)⟩
set_option maxHeartbeats 4000000 in
set_option maxRecDepth 100000 in
theorem c_Sta_copyFrom (l : Launch) (G : GG) (qa0 qa1 qa2 qa3 qa4 qa5 qb0 qb1 qb2 qb3 qb4 qb5 : Nat → Nat) (sz : Nat) (u : (CS × Int32 × CS × Int32 × CS × CS × Int32 × CS × Int32 × CS)) (Post : (CS × Int32 × CS × Int32 × CS × CS × Int32 × CS × Int32 × CS) → Prop) (h : wp_Sta_copyFrom u Post) : CMv l y_Sta_copyFrom b_Sta_copyFrom 2 4 G [.ref (qa0 0), .ref (qb0 0)] sz (staW G qa0 qa1 qa2 qa4 ++ (clubW G qa1 u.1 ++ (snpW G qa2 qa3 u.2.1 ++ (clubW G qa3 u.2.2.1 ++ (snpW G qa4 qa5 u.2.2.2.1 ++ (clubW G qa5 u.2.2.2.2.1 ++ (staW G qb0 qb1 qb2 qb4 ++ (clubW G qb1 u.2.2.2.2.2.1 ++ (snpW G qb2 qb3 u.2.2.2.2.2.2.1 ++ (clubW G qb3 u.2.2.2.2.2.2.2.1 ++ (snpW G qb4 qb5 u.2.2.2.2.2.2.2.2.1 ++ clubW G qb5 u.2.2.2.2.2.2.2.2.2))))))))))) (fun z => staW G qa0 qa1 qa2 qa4 ++ (clubW G qa1 z.1 ++ (snpW G qa2 qa3 z.2.1 ++ (clubW G qa3 z.2.2.1 ++ (snpW G qa4 qa5 z.2.2.2.1 ++ (clubW G qa5 z.2.2.2.2.1 ++ (staW G qb0 qb1 qb2 qb4 ++ (clubW G qb1 z.2.2.2.2.2.1 ++ (snpW G qb2 qb3 z.2.2.2.2.2.2.1 ++ (clubW G qb3 z.2.2.2.2.2.2.2.1 ++ (snpW G qb4 qb5 z.2.2.2.2.2.2.2.2.1 ++ clubW G qb5 z.2.2.2.2.2.2.2.2.2))))))))))) Post := by
  refine CMv.start (by decide) (Nat.le_of_ble_eq_true rfl) (fun p e s m below meth c A ls hx hb hr hts hown hml hlocks hA hS hP hD hK hl => ?_)
  unfold wp_Sta_copyFrom at h
  have hl : lv_has ls 2 [(0, .ref (qa0 0)), (1, .ref (qb0 0))] := hl
  refine lv_aload_n hx hb d_Sta_copyFrom_0 rfl (lv_at hl 0 rfl) ?_
  refine gST_Sta_club hx hb hts hown hK (vpl_ hP) tb_192 d_Sta_copyFrom_1 ?_
  refine lv_aload_n hx hb d_Sta_copyFrom_4 rfl (lv_at hl 1 rfl) ?_
  refine gST_Sta_club hx hb hts hown hK (vpl_ (vpr_ (vpr_ (vpr_ (vpr_ (vpr_ (vpr_ hP))))))) tb_192 d_Sta_copyFrom_5 ?_
  have hP := SW.P (sw_12_1_7 (staW G qa0 qa1 qa2 qa4) (clubW G qa1 u.1) (snpW G qa2 qa3 u.2.1) (clubW G qa3 u.2.2.1) (snpW G qa4 qa5 u.2.2.2.1) (clubW G qa5 u.2.2.2.2.1) (staW G qb0 qb1 qb2 qb4) (clubW G qb1 u.2.2.2.2.2.1) (snpW G qb2 qb3 u.2.2.2.2.2.2.1) (clubW G qb3 u.2.2.2.2.2.2.2.1) (snpW G qb4 qb5 u.2.2.2.2.2.2.2.2.1) (clubW G qb5 u.2.2.2.2.2.2.2.2.2)) hP
  have hD := SW.D (sw_12_1_7 (staW G qa0 qa1 qa2 qa4) (clubW G qa1 u.1) (snpW G qa2 qa3 u.2.1) (clubW G qa3 u.2.2.1) (snpW G qa4 qa5 u.2.2.2.1) (clubW G qa5 u.2.2.2.2.1) (staW G qb0 qb1 qb2 qb4) (clubW G qb1 u.2.2.2.2.2.1) (snpW G qb2 qb3 u.2.2.2.2.2.2.1) (clubW G qb3 u.2.2.2.2.2.2.2.1) (snpW G qb4 qb5 u.2.2.2.2.2.2.2.2.1) (clubW G qb5 u.2.2.2.2.2.2.2.2.2)) hD
  refine call_VvP (own := "HamperClub$State") (As := [.ref (qb1 0)]) (rest := []) (q0 := 0) (ci := 2) (wc := clubW G qa1 u.1 ++ clubW G qb1 u.2.2.2.2.2.1) (post := staW G qa0 qa1 qa2 qa4 ++ (snpW G qa2 qa3 u.2.1 ++ (clubW G qa3 u.2.2.1 ++ (snpW G qa4 qa5 u.2.2.2.1 ++ (clubW G qa5 u.2.2.2.2.1 ++ (staW G qb0 qb1 qb2 qb4 ++ (snpW G qb2 qb3 u.2.2.2.2.2.2.1 ++ (clubW G qb3 u.2.2.2.2.2.2.2.1 ++ (snpW G qb4 qb5 u.2.2.2.2.2.2.2.2.1 ++ clubW G qb5 u.2.2.2.2.2.2.2.2.2))))))))) hx hb hml hts hown hK hA hP hD hS ok_Sta_28 rfl ⟨Nat.le_of_ble_eq_true rfl, Nat.le_of_ble_eq_true rfl⟩ ⟨Nat.le_of_ble_eq_true rfl, Nat.le_of_ble_eq_true rfl⟩ rfl rfl rfl hl.1 rfl (Nat.le_of_ble_eq_true rfl) d_Sta_copyFrom_8 (c_Clb_copyFrom l G qa1 qb1 _ (u.1, u.2.2.2.2.2.1)  _ h) (fun z1 H locs h hP hD hS => ?_)
  have hP := SW.P (sw_12_1_7 (staW G qa0 qa1 qa2 qa4) (clubW G qa1 z1.1) (snpW G qa2 qa3 u.2.1) (clubW G qa3 u.2.2.1) (snpW G qa4 qa5 u.2.2.2.1) (clubW G qa5 u.2.2.2.2.1) (staW G qb0 qb1 qb2 qb4) (clubW G qb1 z1.2) (snpW G qb2 qb3 u.2.2.2.2.2.2.1) (clubW G qb3 u.2.2.2.2.2.2.2.1) (snpW G qb4 qb5 u.2.2.2.2.2.2.2.2.1) (clubW G qb5 u.2.2.2.2.2.2.2.2.2)).symm hP
  have hD := SW.D (sw_12_1_7 (staW G qa0 qa1 qa2 qa4) (clubW G qa1 z1.1) (snpW G qa2 qa3 u.2.1) (clubW G qa3 u.2.2.1) (snpW G qa4 qa5 u.2.2.2.1) (clubW G qa5 u.2.2.2.2.1) (staW G qb0 qb1 qb2 qb4) (clubW G qb1 z1.2) (snpW G qb2 qb3 u.2.2.2.2.2.2.1) (clubW G qb3 u.2.2.2.2.2.2.2.1) (snpW G qb4 qb5 u.2.2.2.2.2.2.2.2.1) (clubW G qb5 u.2.2.2.2.2.2.2.2.2)).symm hD
  refine lv_aload_n hx hb d_Sta_copyFrom_11 rfl (lv_at hl 0 rfl) ?_
  refine gST_Sta_first hx hb hts hown hK (vpl_ hP) tb_194 d_Sta_copyFrom_12 ?_
  refine lv_aload_n hx hb d_Sta_copyFrom_15 rfl (lv_at hl 1 rfl) ?_
  refine gST_Sta_first hx hb hts hown hK (vpl_ (vpr_ (vpr_ (vpr_ (vpr_ (vpr_ (vpr_ hP))))))) tb_194 d_Sta_copyFrom_16 ?_
  have hP := SW.P (sw_12_2_3_8_9 (staW G qa0 qa1 qa2 qa4) (clubW G qa1 z1.1) (snpW G qa2 qa3 u.2.1) (clubW G qa3 u.2.2.1) (snpW G qa4 qa5 u.2.2.2.1) (clubW G qa5 u.2.2.2.2.1) (staW G qb0 qb1 qb2 qb4) (clubW G qb1 z1.2) (snpW G qb2 qb3 u.2.2.2.2.2.2.1) (clubW G qb3 u.2.2.2.2.2.2.2.1) (snpW G qb4 qb5 u.2.2.2.2.2.2.2.2.1) (clubW G qb5 u.2.2.2.2.2.2.2.2.2)) hP
  have hD := SW.D (sw_12_2_3_8_9 (staW G qa0 qa1 qa2 qa4) (clubW G qa1 z1.1) (snpW G qa2 qa3 u.2.1) (clubW G qa3 u.2.2.1) (snpW G qa4 qa5 u.2.2.2.1) (clubW G qa5 u.2.2.2.2.1) (staW G qb0 qb1 qb2 qb4) (clubW G qb1 z1.2) (snpW G qb2 qb3 u.2.2.2.2.2.2.1) (clubW G qb3 u.2.2.2.2.2.2.2.1) (snpW G qb4 qb5 u.2.2.2.2.2.2.2.2.1) (clubW G qb5 u.2.2.2.2.2.2.2.2.2)) hD
  refine call_VvP (own := "HamperClub$State") (As := [.ref (qb2 0)]) (rest := []) (q0 := 0) (ci := 6) (wc := snpW G qa2 qa3 u.2.1 ++ (clubW G qa3 u.2.2.1 ++ (snpW G qb2 qb3 u.2.2.2.2.2.2.1 ++ clubW G qb3 u.2.2.2.2.2.2.2.1))) (post := staW G qa0 qa1 qa2 qa4 ++ (clubW G qa1 z1.1 ++ (snpW G qa4 qa5 u.2.2.2.1 ++ (clubW G qa5 u.2.2.2.2.1 ++ (staW G qb0 qb1 qb2 qb4 ++ (clubW G qb1 z1.2 ++ (snpW G qb4 qb5 u.2.2.2.2.2.2.2.2.1 ++ clubW G qb5 u.2.2.2.2.2.2.2.2.2))))))) hx hb hml hts hown hK hA hP hD hS ok_Sta_32 rfl ⟨Nat.le_of_ble_eq_true rfl, Nat.le_of_ble_eq_true rfl⟩ ⟨Nat.le_of_ble_eq_true rfl, Nat.le_of_ble_eq_true rfl⟩ rfl rfl rfl hl.1 rfl (Nat.le_of_ble_eq_true rfl) d_Sta_copyFrom_19 (c_Snp_copyFrom l G qa2 qa3 qb2 qb3 _ (u.2.1, u.2.2.1, u.2.2.2.2.2.2.1, u.2.2.2.2.2.2.2.1)  _ h) (fun z2 H locs h hP hD hS => ?_)
  have hP := SW.P (sw_12_2_3_8_9 (staW G qa0 qa1 qa2 qa4) (clubW G qa1 z1.1) (snpW G qa2 qa3 z2.1) (clubW G qa3 z2.2.1) (snpW G qa4 qa5 u.2.2.2.1) (clubW G qa5 u.2.2.2.2.1) (staW G qb0 qb1 qb2 qb4) (clubW G qb1 z1.2) (snpW G qb2 qb3 z2.2.2.1) (clubW G qb3 z2.2.2.2) (snpW G qb4 qb5 u.2.2.2.2.2.2.2.2.1) (clubW G qb5 u.2.2.2.2.2.2.2.2.2)).symm hP
  have hD := SW.D (sw_12_2_3_8_9 (staW G qa0 qa1 qa2 qa4) (clubW G qa1 z1.1) (snpW G qa2 qa3 z2.1) (clubW G qa3 z2.2.1) (snpW G qa4 qa5 u.2.2.2.1) (clubW G qa5 u.2.2.2.2.1) (staW G qb0 qb1 qb2 qb4) (clubW G qb1 z1.2) (snpW G qb2 qb3 z2.2.2.1) (clubW G qb3 z2.2.2.2) (snpW G qb4 qb5 u.2.2.2.2.2.2.2.2.1) (clubW G qb5 u.2.2.2.2.2.2.2.2.2)).symm hD
  refine lv_aload_n hx hb d_Sta_copyFrom_22 rfl (lv_at hl 0 rfl) ?_
  refine gST_Sta_second hx hb hts hown hK (vpl_ hP) tb_195 d_Sta_copyFrom_23 ?_
  refine lv_aload_n hx hb d_Sta_copyFrom_26 rfl (lv_at hl 1 rfl) ?_
  refine gST_Sta_second hx hb hts hown hK (vpl_ (vpr_ (vpr_ (vpr_ (vpr_ (vpr_ (vpr_ hP))))))) tb_195 d_Sta_copyFrom_27 ?_
  have hP := SW.P (sw_12_4_5_10_11 (staW G qa0 qa1 qa2 qa4) (clubW G qa1 z1.1) (snpW G qa2 qa3 z2.1) (clubW G qa3 z2.2.1) (snpW G qa4 qa5 u.2.2.2.1) (clubW G qa5 u.2.2.2.2.1) (staW G qb0 qb1 qb2 qb4) (clubW G qb1 z1.2) (snpW G qb2 qb3 z2.2.2.1) (clubW G qb3 z2.2.2.2) (snpW G qb4 qb5 u.2.2.2.2.2.2.2.2.1) (clubW G qb5 u.2.2.2.2.2.2.2.2.2)) hP
  have hD := SW.D (sw_12_4_5_10_11 (staW G qa0 qa1 qa2 qa4) (clubW G qa1 z1.1) (snpW G qa2 qa3 z2.1) (clubW G qa3 z2.2.1) (snpW G qa4 qa5 u.2.2.2.1) (clubW G qa5 u.2.2.2.2.1) (staW G qb0 qb1 qb2 qb4) (clubW G qb1 z1.2) (snpW G qb2 qb3 z2.2.2.1) (clubW G qb3 z2.2.2.2) (snpW G qb4 qb5 u.2.2.2.2.2.2.2.2.1) (clubW G qb5 u.2.2.2.2.2.2.2.2.2)) hD
  refine call_VvP (own := "HamperClub$State") (As := [.ref (qb4 0)]) (rest := []) (q0 := 0) (ci := 6) (wc := snpW G qa4 qa5 u.2.2.2.1 ++ (clubW G qa5 u.2.2.2.2.1 ++ (snpW G qb4 qb5 u.2.2.2.2.2.2.2.2.1 ++ clubW G qb5 u.2.2.2.2.2.2.2.2.2))) (post := staW G qa0 qa1 qa2 qa4 ++ (clubW G qa1 z1.1 ++ (snpW G qa2 qa3 z2.1 ++ (clubW G qa3 z2.2.1 ++ (staW G qb0 qb1 qb2 qb4 ++ (clubW G qb1 z1.2 ++ (snpW G qb2 qb3 z2.2.2.1 ++ clubW G qb3 z2.2.2.2))))))) hx hb hml hts hown hK hA hP hD hS ok_Sta_32 rfl ⟨Nat.le_of_ble_eq_true rfl, Nat.le_of_ble_eq_true rfl⟩ ⟨Nat.le_of_ble_eq_true rfl, Nat.le_of_ble_eq_true rfl⟩ rfl rfl rfl hl.1 rfl (Nat.le_of_ble_eq_true rfl) d_Sta_copyFrom_30 (c_Snp_copyFrom l G qa4 qa5 qb4 qb5 _ (u.2.2.2.1, u.2.2.2.2.1, u.2.2.2.2.2.2.2.2.1, u.2.2.2.2.2.2.2.2.2)  _ h) (fun z3 H locs h hP hD hS => ?_)
  have hP := SW.P (sw_12_4_5_10_11 (staW G qa0 qa1 qa2 qa4) (clubW G qa1 z1.1) (snpW G qa2 qa3 z2.1) (clubW G qa3 z2.2.1) (snpW G qa4 qa5 z3.1) (clubW G qa5 z3.2.1) (staW G qb0 qb1 qb2 qb4) (clubW G qb1 z1.2) (snpW G qb2 qb3 z2.2.2.1) (clubW G qb3 z2.2.2.2) (snpW G qb4 qb5 z3.2.2.1) (clubW G qb5 z3.2.2.2)).symm hP
  have hD := SW.D (sw_12_4_5_10_11 (staW G qa0 qa1 qa2 qa4) (clubW G qa1 z1.1) (snpW G qa2 qa3 z2.1) (clubW G qa3 z2.2.1) (snpW G qa4 qa5 z3.1) (clubW G qa5 z3.2.1) (staW G qb0 qb1 qb2 qb4) (clubW G qb1 z1.2) (snpW G qb2 qb3 z2.2.2.1) (clubW G qb3 z2.2.2.2) (snpW G qb4 qb5 z3.2.2.1) (clubW G qb5 z3.2.2.2)).symm hD
  exact r_vret (u := (z1.1, z2.1, z2.2.1, z3.1, z3.2.1, z1.2, z2.2.2.1, z2.2.2.2, z3.2.2.1, z3.2.2.2)) hx hb hr hlocks hP hD hS d_Sta_copyFrom_33 h
