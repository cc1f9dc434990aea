/-! carrying out -/
def wp_His_keepDraft (u : (Nat → Int32)) (Post : (Nat → Int32) → Prop) : Prop := (∀ u1 : (Nat → Int32), u1 = (upd u 0 (((u 0) + 1) - ((u 0) + 1) / 6 * 6)) → (∀ u2 : (Nat → Int32), u2 = (upd u1 1 (if 5 < ((u1 1) + 1) then 5 else ((u1 1) + 1))) → Post u2))
set_option maxHeartbeats 4000000 in
set_option maxRecDepth 100000 in
theorem c_His_keepDraft (l : Launch) (G : GG) (qh : Nat → Nat) (af : Nat → Nat → Nat → Nat) (sz : Nat) (u : (Nat → Int32)) (Post : (Nat → Int32) → Prop) (h : wp_His_keepDraft u Post) : CMv l y_His_keepDraft b_His_keepDraft 1 1 G [.ref (qh 0)] sz (hisW G qh af u) (fun z => hisW G qh af z) Post := by
  refine CMv.start (by decide) (Nat.le_of_ble_eq_true rfl) (fun p e s m below meth c A ls hx hb hr hts hown hml hlocks hA hS hP hD hK hl => ?_)
  unfold wp_His_keepDraft at h
  have hl : lv_has ls 1 [(0, .ref (qh 0))] := hl
  refine lv_aload_n hx hb d_His_keepDraft_0 rfl (lv_at hl 0 rfl) ?_
  refine lv_aload_n hx hb d_His_keepDraft_1 rfl (lv_at hl 0 rfl) ?_
  refine gHI_His_free hx hb hts hown hK hP tb_213 d_His_keepDraft_2 ?_
  refine lv_iconst (v := 1) hx hb d_His_keepDraft_5 (by decide) ?_
  refine lv_iadd hx hb d_His_keepDraft_6 ?_
  refine lv_bipush (v := 6) hx hb d_His_keepDraft_7 (by decide) ?_
  refine lv_irem hx hb d_His_keepDraft_9 (by decide) ?_
  have hP := SW.P (sw_1 (hisW G qh af u)) hP
  have hD := SW.D (sw_1 (hisW G qh af u)) hD
  refine qHI_His_free hx hb hts hown hK hP hD hS tb_213 d_His_keepDraft_10 (fun u1 H locs eu1 hP hD hS => ?_)
  have h := h u1 eu1
  have hP := SW.P (sw_1 (hisW G qh af u1)).symm hP
  have hD := SW.D (sw_1 (hisW G qh af u1)).symm hD
  refine lv_aload_n hx hb d_His_keepDraft_13 rfl (lv_at hl 0 rfl) ?_
  refine lv_aload_n hx hb d_His_keepDraft_14 rfl (lv_at hl 0 rfl) ?_
  refine gHI_His_size hx hb hts hown hK hP tb_214 d_His_keepDraft_15 ?_
  refine lv_iconst (v := 1) hx hb d_His_keepDraft_18 (by decide) ?_
  refine lv_iadd hx hb d_His_keepDraft_19 ?_
  refine lv_iconst (v := 5) hx hb d_His_keepDraft_20 (by decide) ?_
  refine va_mmin hx hb (hml.trans hl.1.symm) hown (hts _ tb_310) (hts _ tb_311) (hts _ tb_12) (hts _ tb_312) (Nat.le_of_ble_eq_true rfl) (Nat.le_of_ble_eq_true rfl) (Nat.le_of_ble_eq_true rfl) (Nat.le_of_ble_eq_true rfl) d_His_keepDraft_21 ?_
  have hP := SW.P (sw_1 (hisW G qh af u1)) hP
  have hD := SW.D (sw_1 (hisW G qh af u1)) hD
  refine qHI_His_size hx hb hts hown hK hP hD hS tb_214 d_His_keepDraft_24 (fun u2 H locs eu2 hP hD hS => ?_)
  have h := h u2 eu2
  have hP := SW.P (sw_1 (hisW G qh af u2)).symm hP
  have hD := SW.D (sw_1 (hisW G qh af u2)).symm hD
  exact r_vret (u := u2) hx hb hr hlocks hP hD hS d_His_keepDraft_27 h
def wp_Ord_carryOutOrder (u : (OS × CS)) (Post : Int32 → (OS × CS) → Prop) : Prop := (((u.1.1 3) = 43 → (wp_Clb_stickStamps u.2 (u.1.1 2) (u.1.1 4) (fun x2 z1 => Post x2 (u.1, z1)))) ∧ ((u.1.1 3) = 45 → (wp_Clb_withdrawStamps u.2 (u.1.1 2) (u.1.1 4) (fun x4 z3 => Post x4 (u.1, z3)))) ∧ ((u.1.1 3) = 102 → (wp_Clb_findCard u.2 (u.1.1 2) (fun x6 z5 => Post x6 (u.1, z5)))) ∧ ((u.1.1 3) = 104 → (wp_Clb_chooseKind u.2 (u.1.1 2) (u.1.1 4) (fun x8 z7 => Post x8 (u.1, z7)))) ∧ ((u.1.1 3) = 108 → (wp_Clb_mislayCard u.2 (u.1.1 2) (fun x10 z9 => Post x10 (u.1, z9)))) ∧ ((u.1.1 3) = 120 → (wp_Clb_giveUpChoice u.2 (u.1.1 2) (fun x12 z11 => Post x12 (u.1, z11)))) ∧ (¬ (u.1.1 3) = 43 → ¬ (u.1.1 3) = 45 → ¬ (u.1.1 3) = 102 → ¬ (u.1.1 3) = 104 → ¬ (u.1.1 3) = 108 → ¬ (u.1.1 3) = 120 → (wp_Clb_passWeek u.2  (fun x14 z13 => Post x14 (u.1, z13)))))
theorem ok_Ord_39 : CallOk y_Clb_stickStamps b_Clb_stickStamps 3 (some .int) 1 2 "HamperClub$Orders" 39 := ⟨tb_653, tb_318, tb_319, tb_3, tb_320, by decide +kernel⟩
theorem sw_2_1 (s0 s1 : va_W) : SW (s0 ++ s1) ((s1) ++ (s0)) := ⟨fun q => by simp only [List.mem_append, List.not_mem_nil, or_false, false_or, or_assoc, or_left_comm, or_comm], fun a => by first | (simp only [List.map_append, List.map_nil, List.count_append, List.count_nil, Nat.add_zero, Nat.add_assoc]; done) | (simp only [List.map_append, List.map_nil, List.count_append, List.count_nil]; omega)⟩
theorem ok_Ord_45 : CallOk y_Clb_withdrawStamps b_Clb_withdrawStamps 5 (some .int) 2 2 "HamperClub$Orders" 45 := ⟨tb_654, tb_594, tb_595, tb_3, tb_596, by decide +kernel⟩
theorem ok_Ord_58 : CallOk y_Clb_findCard b_Clb_findCard 2 (some .int) 1 1 "HamperClub$Orders" 58 := ⟨tb_658, tb_611, tb_612, tb_3, tb_613, by decide +kernel⟩
theorem ok_Ord_48 : CallOk y_Clb_chooseKind b_Clb_chooseKind 4 (some .int) 2 2 "HamperClub$Orders" 48 := ⟨tb_655, tb_357, tb_358, tb_3, tb_359, by decide +kernel⟩
theorem ok_Ord_55 : CallOk y_Clb_mislayCard b_Clb_mislayCard 2 (some .int) 1 1 "HamperClub$Orders" 55 := ⟨tb_657, tb_603, tb_604, tb_3, tb_605, by decide +kernel⟩
theorem ok_Ord_51 : CallOk y_Clb_giveUpChoice b_Clb_giveUpChoice 3 (some .int) 2 1 "HamperClub$Orders" 51 := ⟨tb_656, tb_619, tb_620, tb_3, tb_621, by decide +kernel⟩
theorem ok_Ord_61 : CallOk y_Clb_passWeek b_Clb_passWeek 2 (some .int) 3 0 "HamperClub$Orders" 61 := ⟨tb_659, tb_381, tb_382, tb_3, tb_383, by decide +kernel⟩
set_option maxHeartbeats 4000000 in
set_option maxRecDepth 100000 in
theorem c_Ord_carryOutOrder (l : Launch) (G : GG) (qo qk : Nat → Nat) (sz : Nat) (u : (OS × CS)) (Post : Int32 → (OS × CS) → Prop) (h : wp_Ord_carryOutOrder u Post) : CMi l y_Ord_carryOutOrder b_Ord_carryOutOrder 2 .int 4 G [.ref (qo 0), .ref (qk 0)] sz (ordW G qo u.1 ++ clubW G qk u.2) (fun z => ordW G qo z.1 ++ clubW G qk z.2) Post := by
  refine CMi.start (by decide) (Nat.le_of_ble_eq_true rfl) (fun p e s m below meth c A ls hx hb hr hts hown hml hlocks hA hS hP hD hK hl => ?_)
  unfold wp_Ord_carryOutOrder at h
  have hl : lv_has ls 2 [(0, .ref (qo 0)), (1, .ref (qk 0))] := hl
  refine lv_aload_n hx hb d_Ord_carryOutOrder_0 rfl (lv_at hl 0 rfl) ?_
  refine gO_Ord_sign hx hb hts hown hK (vpl_ hP) tb_234 d_Ord_carryOutOrder_1 ?_
  by_cases hc0 : (u.1.1 3) = 43
  · have h := h.1 hc0
    refine lv_lookup (off := 60) (tgt := 64) hx hb d_Ord_carryOutOrder_4 (by decide) (by rw [hc0]; decide) (by decide) ?_
    refine lv_aload_n hx hb d_Ord_carryOutOrder_64 rfl (lv_at hl 1 rfl) ?_
    refine lv_aload_n hx hb d_Ord_carryOutOrder_65 rfl (lv_at hl 0 rfl) ?_
    refine gO_Ord_member hx hb hts hown hK (vpl_ hP) tb_233 d_Ord_carryOutOrder_66 ?_
    refine lv_aload_n hx hb d_Ord_carryOutOrder_69 rfl (lv_at hl 0 rfl) ?_
    refine gO_Ord_number hx hb hts hown hK (vpl_ hP) tb_235 d_Ord_carryOutOrder_70 ?_
    have hP := SW.P (sw_2_1 (ordW G qo u.1) (clubW G qk u.2)) hP
    have hD := SW.D (sw_2_1 (ordW G qo u.1) (clubW G qk u.2)) hD
    refine call_ViP (own := "HamperClub$Orders") (As := [.int (u.1.1 2), .int (u.1.1 4)]) (rest := []) (q0 := 0) (ci := 2) (wc := clubW G qk u.2) (post := ordW G qo u.1) hx hb hml hts hown hK hA hP hD hS ok_Ord_39 rfl ⟨Nat.le_of_ble_eq_true rfl, Nat.le_of_ble_eq_true rfl⟩ ⟨Nat.le_of_ble_eq_true rfl, Nat.le_of_ble_eq_true rfl⟩ rfl rfl rfl hl.1 rfl (Nat.le_of_ble_eq_true rfl) d_Ord_carryOutOrder_73 (c_Clb_stickStamps l G qk _ u.2 (u.1.1 2) (u.1.1 4) _ h) (fun x2 z1 H locs h hP hD hS => ?_)
    have hP := SW.P (sw_2_1 (ordW G qo u.1) (clubW G qk z1)).symm hP
    have hD := SW.D (sw_2_1 (ordW G qo u.1) (clubW G qk z1)).symm hD
    exact r_iret (u := (u.1, z1)) hx hb hr hlocks hP hD hS d_Ord_carryOutOrder_76 h
  by_cases hc1 : (u.1.1 3) = 45
  · have h := h.2.1 hc1
    refine lv_lookup (off := 73) (tgt := 77) hx hb d_Ord_carryOutOrder_4 (by decide) (by rw [hc1]; decide) (by decide) ?_
    refine lv_aload_n hx hb d_Ord_carryOutOrder_77 rfl (lv_at hl 1 rfl) ?_
    refine lv_aload_n hx hb d_Ord_carryOutOrder_78 rfl (lv_at hl 0 rfl) ?_
    refine gO_Ord_member hx hb hts hown hK (vpl_ hP) tb_233 d_Ord_carryOutOrder_79 ?_
    refine lv_aload_n hx hb d_Ord_carryOutOrder_82 rfl (lv_at hl 0 rfl) ?_
    refine gO_Ord_number hx hb hts hown hK (vpl_ hP) tb_235 d_Ord_carryOutOrder_83 ?_
    have hP := SW.P (sw_2_1 (ordW G qo u.1) (clubW G qk u.2)) hP
    have hD := SW.D (sw_2_1 (ordW G qo u.1) (clubW G qk u.2)) hD
    refine call_ViP (own := "HamperClub$Orders") (As := [.int (u.1.1 2), .int (u.1.1 4)]) (rest := []) (q0 := 0) (ci := 2) (wc := clubW G qk u.2) (post := ordW G qo u.1) hx hb hml hts hown hK hA hP hD hS ok_Ord_45 rfl ⟨Nat.le_of_ble_eq_true rfl, Nat.le_of_ble_eq_true rfl⟩ ⟨Nat.le_of_ble_eq_true rfl, Nat.le_of_ble_eq_true rfl⟩ rfl rfl rfl hl.1 rfl (Nat.le_of_ble_eq_true rfl) d_Ord_carryOutOrder_86 (c_Clb_withdrawStamps l G qk _ u.2 (u.1.1 2) (u.1.1 4) _ h) (fun x4 z3 H locs h hP hD hS => ?_)
    have hP := SW.P (sw_2_1 (ordW G qo u.1) (clubW G qk z3)).symm hP
    have hD := SW.D (sw_2_1 (ordW G qo u.1) (clubW G qk z3)).symm hD
    exact r_iret (u := (u.1, z3)) hx hb hr hlocks hP hD hS d_Ord_carryOutOrder_89 h
  by_cases hc2 : (u.1.1 3) = 102
  · have h := h.2.2.1 hc2
    refine lv_lookup (off := 117) (tgt := 121) hx hb d_Ord_carryOutOrder_4 (by decide) (by rw [hc2]; decide) (by decide) ?_
    refine lv_aload_n hx hb d_Ord_carryOutOrder_121 rfl (lv_at hl 1 rfl) ?_
    refine lv_aload_n hx hb d_Ord_carryOutOrder_122 rfl (lv_at hl 0 rfl) ?_
    refine gO_Ord_member hx hb hts hown hK (vpl_ hP) tb_233 d_Ord_carryOutOrder_123 ?_
    have hP := SW.P (sw_2_1 (ordW G qo u.1) (clubW G qk u.2)) hP
    have hD := SW.D (sw_2_1 (ordW G qo u.1) (clubW G qk u.2)) hD
    refine call_ViP (own := "HamperClub$Orders") (As := [.int (u.1.1 2)]) (rest := []) (q0 := 0) (ci := 2) (wc := clubW G qk u.2) (post := ordW G qo u.1) hx hb hml hts hown hK hA hP hD hS ok_Ord_58 rfl ⟨Nat.le_of_ble_eq_true rfl, Nat.le_of_ble_eq_true rfl⟩ ⟨Nat.le_of_ble_eq_true rfl, Nat.le_of_ble_eq_true rfl⟩ rfl rfl rfl hl.1 rfl (Nat.le_of_ble_eq_true rfl) d_Ord_carryOutOrder_126 (c_Clb_findCard l G qk _ u.2 (u.1.1 2) _ h) (fun x6 z5 H locs h hP hD hS => ?_)
    have hP := SW.P (sw_2_1 (ordW G qo u.1) (clubW G qk z5)).symm hP
    have hD := SW.D (sw_2_1 (ordW G qo u.1) (clubW G qk z5)).symm hD
    exact r_iret (u := (u.1, z5)) hx hb hr hlocks hP hD hS d_Ord_carryOutOrder_129 h
  by_cases hc3 : (u.1.1 3) = 104
  · have h := h.2.2.2.1 hc3
    refine lv_lookup (off := 86) (tgt := 90) hx hb d_Ord_carryOutOrder_4 (by decide) (by rw [hc3]; decide) (by decide) ?_
    refine lv_aload_n hx hb d_Ord_carryOutOrder_90 rfl (lv_at hl 1 rfl) ?_
    refine lv_aload_n hx hb d_Ord_carryOutOrder_91 rfl (lv_at hl 0 rfl) ?_
    refine gO_Ord_member hx hb hts hown hK (vpl_ hP) tb_233 d_Ord_carryOutOrder_92 ?_
    refine lv_aload_n hx hb d_Ord_carryOutOrder_95 rfl (lv_at hl 0 rfl) ?_
    refine gO_Ord_number hx hb hts hown hK (vpl_ hP) tb_235 d_Ord_carryOutOrder_96 ?_
    have hP := SW.P (sw_2_1 (ordW G qo u.1) (clubW G qk u.2)) hP
    have hD := SW.D (sw_2_1 (ordW G qo u.1) (clubW G qk u.2)) hD
    refine call_ViP (own := "HamperClub$Orders") (As := [.int (u.1.1 2), .int (u.1.1 4)]) (rest := []) (q0 := 0) (ci := 2) (wc := clubW G qk u.2) (post := ordW G qo u.1) hx hb hml hts hown hK hA hP hD hS ok_Ord_48 rfl ⟨Nat.le_of_ble_eq_true rfl, Nat.le_of_ble_eq_true rfl⟩ ⟨Nat.le_of_ble_eq_true rfl, Nat.le_of_ble_eq_true rfl⟩ rfl rfl rfl hl.1 rfl (Nat.le_of_ble_eq_true rfl) d_Ord_carryOutOrder_99 (c_Clb_chooseKind l G qk _ u.2 (u.1.1 2) (u.1.1 4) _ h) (fun x8 z7 H locs h hP hD hS => ?_)
    have hP := SW.P (sw_2_1 (ordW G qo u.1) (clubW G qk z7)).symm hP
    have hD := SW.D (sw_2_1 (ordW G qo u.1) (clubW G qk z7)).symm hD
    exact r_iret (u := (u.1, z7)) hx hb hr hlocks hP hD hS d_Ord_carryOutOrder_102 h
  by_cases hc4 : (u.1.1 3) = 108
  · have h := h.2.2.2.2.1 hc4
    refine lv_lookup (off := 108) (tgt := 112) hx hb d_Ord_carryOutOrder_4 (by decide) (by rw [hc4]; decide) (by decide) ?_
    refine lv_aload_n hx hb d_Ord_carryOutOrder_112 rfl (lv_at hl 1 rfl) ?_
    refine lv_aload_n hx hb d_Ord_carryOutOrder_113 rfl (lv_at hl 0 rfl) ?_
    refine gO_Ord_member hx hb hts hown hK (vpl_ hP) tb_233 d_Ord_carryOutOrder_114 ?_
    have hP := SW.P (sw_2_1 (ordW G qo u.1) (clubW G qk u.2)) hP
    have hD := SW.D (sw_2_1 (ordW G qo u.1) (clubW G qk u.2)) hD
    refine call_ViP (own := "HamperClub$Orders") (As := [.int (u.1.1 2)]) (rest := []) (q0 := 0) (ci := 2) (wc := clubW G qk u.2) (post := ordW G qo u.1) hx hb hml hts hown hK hA hP hD hS ok_Ord_55 rfl ⟨Nat.le_of_ble_eq_true rfl, Nat.le_of_ble_eq_true rfl⟩ ⟨Nat.le_of_ble_eq_true rfl, Nat.le_of_ble_eq_true rfl⟩ rfl rfl rfl hl.1 rfl (Nat.le_of_ble_eq_true rfl) d_Ord_carryOutOrder_117 (c_Clb_mislayCard l G qk _ u.2 (u.1.1 2) _ h) (fun x10 z9 H locs h hP hD hS => ?_)
    have hP := SW.P (sw_2_1 (ordW G qo u.1) (clubW G qk z9)).symm hP
    have hD := SW.D (sw_2_1 (ordW G qo u.1) (clubW G qk z9)).symm hD
    exact r_iret (u := (u.1, z9)) hx hb hr hlocks hP hD hS d_Ord_carryOutOrder_120 h
  by_cases hc5 : (u.1.1 3) = 120
  · have h := h.2.2.2.2.2.1 hc5
    refine lv_lookup (off := 99) (tgt := 103) hx hb d_Ord_carryOutOrder_4 (by decide) (by rw [hc5]; decide) (by decide) ?_
    refine lv_aload_n hx hb d_Ord_carryOutOrder_103 rfl (lv_at hl 1 rfl) ?_
    refine lv_aload_n hx hb d_Ord_carryOutOrder_104 rfl (lv_at hl 0 rfl) ?_
    refine gO_Ord_member hx hb hts hown hK (vpl_ hP) tb_233 d_Ord_carryOutOrder_105 ?_
    have hP := SW.P (sw_2_1 (ordW G qo u.1) (clubW G qk u.2)) hP
    have hD := SW.D (sw_2_1 (ordW G qo u.1) (clubW G qk u.2)) hD
    refine call_ViP (own := "HamperClub$Orders") (As := [.int (u.1.1 2)]) (rest := []) (q0 := 0) (ci := 2) (wc := clubW G qk u.2) (post := ordW G qo u.1) hx hb hml hts hown hK hA hP hD hS ok_Ord_51 rfl ⟨Nat.le_of_ble_eq_true rfl, Nat.le_of_ble_eq_true rfl⟩ ⟨Nat.le_of_ble_eq_true rfl, Nat.le_of_ble_eq_true rfl⟩ rfl rfl rfl hl.1 rfl (Nat.le_of_ble_eq_true rfl) d_Ord_carryOutOrder_108 (c_Clb_giveUpChoice l G qk _ u.2 (u.1.1 2) _ h) (fun x12 z11 H locs h hP hD hS => ?_)
    have hP := SW.P (sw_2_1 (ordW G qo u.1) (clubW G qk z11)).symm hP
    have hD := SW.D (sw_2_1 (ordW G qo u.1) (clubW G qk z11)).symm hD
    exact r_iret (u := (u.1, z11)) hx hb hr hlocks hP hD hS d_Ord_carryOutOrder_111 h
  have h := h.2.2.2.2.2.2
  have h := h hc0
  have h := h hc1
  have h := h hc2
  have h := h hc3
  have h := h hc4
  have h := h hc5
  refine lv_lookup (off := 126) (tgt := 130) hx hb d_Ord_carryOutOrder_4 (by decide) (lk_out (by simp only [List.mem_cons, List.not_mem_nil, or_false]; intro q hq; rcases hq with rfl | rfl | rfl | rfl | rfl | rfl; all_goals first | exact ne_key hc0 | exact ne_key hc1 | exact ne_key hc2 | exact ne_key hc3 | exact ne_key hc4 | exact ne_key hc5)) (by decide) ?_
  refine lv_aload_n hx hb d_Ord_carryOutOrder_130 rfl (lv_at hl 1 rfl) ?_
  have hP := SW.P (sw_2_1 (ordW G qo u.1) (clubW G qk u.2)) hP
  have hD := SW.D (sw_2_1 (ordW G qo u.1) (clubW G qk u.2)) hD
  refine call_ViP (own := "HamperClub$Orders") (As := []) (rest := []) (q0 := 0) (ci := 2) (wc := clubW G qk u.2) (post := ordW G qo u.1) hx hb hml hts hown hK hA hP hD hS ok_Ord_61 rfl ⟨Nat.le_of_ble_eq_true rfl, Nat.le_of_ble_eq_true rfl⟩ ⟨Nat.le_of_ble_eq_true rfl, Nat.le_of_ble_eq_true rfl⟩ rfl rfl rfl hl.1 rfl (Nat.le_of_ble_eq_true rfl) d_Ord_carryOutOrder_131 (c_Clb_passWeek l G qk _ u.2  _ h) (fun x14 z13 H locs h hP hD hS => ?_)
  have hP := SW.P (sw_2_1 (ordW G qo u.1) (clubW G qk z13)).symm hP
  have hD := SW.D (sw_2_1 (ordW G qo u.1) (clubW G qk z13)).symm hD
  exact r_iret (u := (u.1, z13)) hx hb hr hlocks hP hD hS d_Ord_carryOutOrder_134 h
def wl_Ord_carryOutOn_9 (Post : Int32 → (OS × CS) → Prop) (K : Int32 → (OS × CS) → Prop) : Nat → Int32 → Int32 → (OS × CS) → Prop
  | 0, _, _ => fun _ => False
  | n + 1, a2, a3 => fun u2 => ((100 ≤ a3 → K a2 (u2.1, u2.2)) ∧ (¬ 100 ≤ a3 → (((u2.1.1 0) ≤ (u2.1.1 1) → K a2 (u2.1, u2.2)) ∧ (¬ (u2.1.1 0) ≤ (u2.1.1 1) → (wp_Ord_readOrder u2.1  (fun x4 z3 => ((x4 = 0 → Post a2 (z3, u2.2)) ∧ (¬ x4 = 0 → (wp_Ord_carryOutOrder (z3, u2.2)  (fun x6 z5 => ((0 ≤ x6 → (∀ x7 : Int32, x7 = a2 + 1 → (∀ u8 : OS, u8 = (oS z5.1 1 ((z5.1.1 1) + 1)) → (∀ x9 : Int32, x9 = a3 + 1 → wl_Ord_carryOutOn_9 Post K n x7 x9 (u8, z5.2))))) ∧ (¬ 0 ≤ x6 → Post a2 (z5.1, z5.2)))))))))))))
def wp_Ord_carryOutOn (u : (OS × CS)) (Post : Int32 → (OS × CS) → Prop) : Prop := (∀ u1 : OS, u1 = (oS u.1 1 0) → (∃ k12 : Nat, wl_Ord_carryOutOn_9 Post (fun x11 u10 => Post x11 (u10.1, u10.2)) k12 0 0 (u1, u.2)))
theorem ok_Ord_26 : CallOk y_Ord_carryOutOrder b_Ord_carryOutOrder 2 (some .int) 4 1 "HamperClub$Orders" 26 := ⟨tb_649, tb_651, sl_10, tb_11, tb_652, by decide +kernel⟩
set_option maxHeartbeats 4000000 in
set_option maxRecDepth 100000 in
theorem x_Ord_carryOutOn_9 {p : Program} {l : Launch} {e : Env} {s : State} {m : MethodId} {args : Array Value} {below : List Frame} {meth : Method} {c : Code} {A : Nat → Prop} {G : GG} {qo qk : Nat → Nat} {Post : Int32 → (OS × CS) → Prop} {K : Int32 → (OS × CS) → Prop} {Q : State → Prop}
    (hx : p.tables.exec = Jvm.exec) (hb : c.code = b_Ord_carryOutOn) (hr : meth.sig.returnType = some .int) (hts : ∀ w ∈ Tg, w.before args s = true) (hown : s.vm.findClass "HamperClub$Orders" = some m.cls) (hml : c.maxLocals = 4) (hlocks : meth.locks = false) (hA : ∀ q, s.heap.size ≤ q → A q) (hK : KN G s)
    (hQ : Q = MQ below (va_Qi Post (BW G A (fun z => ordW G qo z.1 ++ clubW G qk z.2)) A) args s 0 0 A)
    (kk : ∀ (b2 : Int32) (u : (OS × CS)), K b2 u → ∀ (H : Heap) (locs : List Loc) (ls : Array Slot), va_P G.1 classes (ordW G qo u.1 ++ clubW G qk u.2) H → va_D A (ordW G qo u.1 ++ clubW G qk u.2) → va_S A s.heap H locs → lv_has ls 4 [(2, .int b2)] → W p l e (rmK 5) s m args below meth c H locs 0 0 Q (F0 m 62 ls [])) :
    ∀ (n : Nat) (a2 : Int32) (a3 : Int32) (u : (OS × CS)), wl_Ord_carryOutOn_9 Post K n a2 a3 u → ∀ (H : Heap) (locs : List Loc) (ls : Array Slot), va_P G.1 classes (ordW G qo u.1 ++ clubW G qk u.2) H → va_D A (ordW G qo u.1 ++ clubW G qk u.2) → va_S A s.heap H locs → lv_has ls 4 [(0, .ref (qo 0)), (1, .ref (qk 0)), (2, .int a2), (3, .int a3)] → W p l e (rmK 5) s m args below meth c H locs 0 0 Q (F0 m 9 ls []) := by
  subst hQ
  intro n
  induction n with
  | zero => intro a2 a3 u h; exact h.elim
  | succ n ih =>
    intro a2 a3 u2 h H locs ls hP hD hS hl
    unfold wl_Ord_carryOutOn_9 at h
    refine lv_iload_n hx hb d_Ord_carryOutOn_9 rfl (lv_at hl 3 rfl) ?_
    refine lv_bipush (v := 100) hx hb d_Ord_carryOutOn_10 (by decide) ?_
    refine lv_icmp_ge (tgt := 62) hx hb d_Ord_carryOutOn_12 (by decide) (fun hc => ?_) (fun hc => ?_)
    · have h := h.1 hc
      exact kk a2 (u2.1, u2.2) h _ _ _ hP hD hS (lv_sub hl [2] rfl)
    · have h := h.2 hc
      refine lv_aload_n hx hb d_Ord_carryOutOn_15 rfl (lv_at hl 0 rfl) ?_
      refine gO_Ord_at hx hb hts hown hK (vpl_ hP) tb_232 d_Ord_carryOutOn_16 ?_
      refine lv_aload_n hx hb d_Ord_carryOutOn_19 rfl (lv_at hl 0 rfl) ?_
      refine gO_Ord_length hx hb hts hown hK (vpl_ hP) tb_230 d_Ord_carryOutOn_20 ?_
      refine lv_icmp_ge (tgt := 62) hx hb d_Ord_carryOutOn_23 (by decide) (fun hc => ?_) (fun hc => ?_)
      · have h := h.1 hc
        exact kk a2 (u2.1, u2.2) h _ _ _ hP hD hS (lv_sub hl [2] rfl)
      · have h := h.2 hc
        refine lv_aload_n hx hb d_Ord_carryOutOn_26 rfl (lv_at hl 0 rfl) ?_
        refine call_ViP (own := "HamperClub$Orders") (As := []) (rest := []) (q0 := 0) (ci := 5) (wc := ordW G qo u2.1) (post := clubW G qk u2.2) hx hb hml hts hown hK hA hP hD hS ok_Ord_22 rfl ⟨Nat.le_of_ble_eq_true rfl, Nat.le_of_ble_eq_true rfl⟩ ⟨Nat.le_of_ble_eq_true rfl, Nat.le_of_ble_eq_true rfl⟩ rfl rfl rfl hl.1 rfl (Nat.le_of_ble_eq_true rfl) d_Ord_carryOutOn_27 (c_Ord_readOrder l G qo _ u2.1  _ h) (fun x4 z3 H locs h hP hD hS => ?_)
        refine lv_if_eq (tgt := 41) hx hb d_Ord_carryOutOn_30 (by decide) (fun hc => ?_) (fun hc => ?_)
        · have h := h.1 hc
          refine lv_iload_n hx hb d_Ord_carryOutOn_41 rfl (lv_at hl 2 rfl) ?_
          exact r_iret (u := (z3, u2.2)) hx hb hr hlocks hP hD hS d_Ord_carryOutOn_42 h
        · have h := h.2 hc
          refine lv_aload_n hx hb d_Ord_carryOutOn_33 rfl (lv_at hl 0 rfl) ?_
          refine lv_aload_n hx hb d_Ord_carryOutOn_34 rfl (lv_at hl 1 rfl) ?_
          have hP := SW.P (sw_2_0_1 (ordW G qo z3) (clubW G qk u2.2)) hP
          have hD := SW.D (sw_2_0_1 (ordW G qo z3) (clubW G qk u2.2)) hD
          refine call_ViP (own := "HamperClub$Orders") (As := [.ref (qk 0)]) (rest := []) (q0 := 0) (ci := 5) (wc := ordW G qo z3 ++ clubW G qk u2.2) (post := []) hx hb hml hts hown hK hA hP hD hS ok_Ord_26 rfl ⟨Nat.le_of_ble_eq_true rfl, Nat.le_of_ble_eq_true rfl⟩ ⟨Nat.le_of_ble_eq_true rfl, Nat.le_of_ble_eq_true rfl⟩ rfl rfl rfl hl.1 rfl (Nat.le_of_ble_eq_true rfl) d_Ord_carryOutOn_35 (c_Ord_carryOutOrder l G qo qk _ (z3, u2.2)  _ h) (fun x6 z5 H locs h hP hD hS => ?_)
          have hP := SW.P (sw_2_0_1 (ordW G qo z5.1) (clubW G qk z5.2)).symm hP
          have hD := SW.D (sw_2_0_1 (ordW G qo z5.1) (clubW G qk z5.2)).symm hD
          refine lv_if_ge (tgt := 43) hx hb d_Ord_carryOutOn_38 (by decide) (fun hc => ?_) (fun hc => ?_)
          · have h := h.1 hc
            obtain ⟨x7, ex7⟩ : ∃ y : Int32, y = a2 + 1 := ⟨_, rfl⟩
            have h := h x7 ex7
            refine lv_iinc (v := x7) (lv' := [(2, .int x7), (0, .ref (qo 0)), (1, .ref (qk 0)), (3, .int a3)]) hx hb d_Ord_carryOutOn_43 hl (k := 2) rfl (by rw [ex7]; rfl) (by decide) rfl (fun ls hl => ?_)
            refine lv_aload_n hx hb d_Ord_carryOutOn_46 rfl (lv_at hl 1 rfl) ?_
            refine lv_dup hx hb d_Ord_carryOutOn_47 rfl ?_
            refine gO_Ord_at hx hb hts hown hK (vpl_ hP) tb_232 d_Ord_carryOutOn_48 ?_
            refine lv_iconst (v := 1) hx hb d_Ord_carryOutOn_51 (by decide) ?_
            refine lv_iadd hx hb d_Ord_carryOutOn_52 ?_
            refine qO_Ord_at hx hb hts hown hK hP hD hS tb_232 d_Ord_carryOutOn_53 (fun u8 H locs eu8 hP hD hS => ?_)
            have h := h u8 eu8
            obtain ⟨x9, ex9⟩ : ∃ y : Int32, y = a3 + 1 := ⟨_, rfl⟩
            have h := h x9 ex9
            refine lv_iinc (v := x9) (lv' := [(3, .int x9), (2, .int x7), (0, .ref (qo 0)), (1, .ref (qk 0))]) hx hb d_Ord_carryOutOn_56 hl (k := 3) rfl (by rw [ex9]; rfl) (by decide) rfl (fun ls hl => ?_)
            refine lv_goto (tgt := 9) hx hb d_Ord_carryOutOn_59 (by decide) ?_
            exact ih x7 x9 (u8, z5.2) h _ _ _ hP hD hS (lv_sub hl [2, 3, 1, 0] rfl)
          · have h := h.2 hc
            refine lv_iload_n hx hb d_Ord_carryOutOn_41 rfl (lv_at hl 2 rfl) ?_
            exact r_iret (u := (z5.1, z5.2)) hx hb hr hlocks hP hD hS d_Ord_carryOutOn_42 h
set_option maxHeartbeats 4000000 in
set_option maxRecDepth 100000 in
theorem c_Ord_carryOutOn (l : Launch) (G : GG) (qo qk : Nat → Nat) (sz : Nat) (u : (OS × CS)) (Post : Int32 → (OS × CS) → Prop) (h : wp_Ord_carryOutOn u Post) : CMi l y_Ord_carryOutOn b_Ord_carryOutOn 4 .int 5 G [.ref (qo 0), .ref (qk 0)] sz (ordW G qo u.1 ++ clubW G qk u.2) (fun z => ordW G qo z.1 ++ clubW G qk z.2) Post := by
  refine CMi.start (by decide) (Nat.le_of_ble_eq_true rfl) (fun p e s m below meth c A ls hx hb hr hts hown hml hlocks hA hS hP hD hK hl => ?_)
  unfold wp_Ord_carryOutOn at h
  have hl : lv_has ls 4 [(0, .ref (qo 0)), (1, .ref (qk 0))] := hl
  refine lv_aload_n hx hb d_Ord_carryOutOn_0 rfl (lv_at hl 0 rfl) ?_
  refine lv_iconst (v := 0) hx hb d_Ord_carryOutOn_1 (by decide) ?_
  refine qO_Ord_at hx hb hts hown hK hP hD hS tb_232 d_Ord_carryOutOn_2 (fun u1 H locs eu1 hP hD hS => ?_)
  have h := h u1 eu1
  refine lv_iconst (v := 0) hx hb d_Ord_carryOutOn_5 (by decide) ?_
  refine lv_istore_n (lv' := [(2, .int 0), (0, .ref (qo 0)), (1, .ref (qk 0))]) hx hb d_Ord_carryOutOn_6 rfl hl (by decide) rfl (fun ls hl => ?_)
  refine lv_iconst (v := 0) hx hb d_Ord_carryOutOn_7 (by decide) ?_
  refine lv_istore_n (lv' := [(3, .int 0), (2, .int 0), (0, .ref (qo 0)), (1, .ref (qk 0))]) hx hb d_Ord_carryOutOn_8 rfl hl (by decide) rfl (fun ls hl => ?_)
  obtain ⟨n, h⟩ := h
  refine x_Ord_carryOutOn_9 hx hb hr hts hown hml hlocks hA hK rfl (fun x11 u10 h H locs ls hP hD hS hl => ?_) n 0 0 (u1, u.2) h _ _ _ hP hD hS (lv_sub hl [2, 3, 1, 0] rfl)
  refine lv_iload_n hx hb d_Ord_carryOutOn_62 rfl (lv_at hl 0 rfl) ?_
  exact r_iret (u := (u10.1, u10.2)) hx hb hr hlocks hP hD hS d_Ord_carryOutOn_63 h
