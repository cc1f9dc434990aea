/-! The constructors. -/
theorem wl_fill {Post K : (Nat → Int32) → Prop} {v : Int32} : ∀ (n i : Nat) (f : Nat → Int32), i ≤ 12 → 12 - i < n → K (fun j => if i ≤ j ∧ j < 12 then v else f j) → wl_Arr_fill_5 Post K n v (nI i) 12 f := by
  intro n
  induction n with
  | zero => intro i f h1 h2; omega
  | succ n ih =>
    intro i f h1 h2 hk
    unfold wl_Arr_fill_5
    refine ⟨fun hc => ?_, fun hc => ⟨?_, ?_⟩⟩
    · have h3 : ¬ i < 12 := fun q => absurd hc (nI_ge (b := 12) q (by omega))
      have e : (fun j => if i ≤ j ∧ j < 12 then v else f j) = f := by
        funext j
        rw [if_neg (by omega)]
      rw [e] at hk
      exact hk
    · have h3 : i < 12 := Nat.not_le.mp (fun q => hc (nI_le (a := 12) q (by omega)))
      exact vp_in_nI h3 (by omega)
    · have h3 : i < 12 := Nat.not_le.mp (fun q => hc (nI_le (a := 12) q (by omega)))
      intro u2 e2 x3 e3
      rw [e3, nI_1]
      refine ih (i + 1) u2 (by omega) (by omega) ?_
      have e : (fun j => if i + 1 ≤ j ∧ j < 12 then v else u2 j) = (fun j => if i ≤ j ∧ j < 12 then v else f j) := by
        funext j
        rw [e2, nI_clamp (by omega)]
        simp only [upd]
        by_cases hj : j = i
        · subst hj
          simp [h3]
        · by_cases h4 : i + 1 ≤ j ∧ j < 12
          · rw [if_pos h4, if_pos (by omega)]
          · have h5 : ¬ (i ≤ j ∧ j < 12) := by omega
            simp [h4, h5, hj]
      rw [e]
      exact hk
theorem wp_fill {Post : (Nat → Int32) → Prop} {v : Int32} (h : Post (fun j => if j < 12 then v else 0)) : wp_Arr_fill (fun _ => 0) v Post := by
  refine ⟨13, ?_⟩
  have := wl_fill (Post := Post) (K := fun u4 => Post u4) (v := v) 13 0 (fun _ => 0) (by omega) (by omega) (by simpa using h)
  exact this
def fillF : Nat → Int32 := fun j => if j < 12 then (-9) else 0
def prF : Nat → Int32 := va_cpy pfF (fun _ => 0) 0 0 4
def skF : Nat → Int32 := va_cpy sfF (fun _ => 0) 0 0 4
def club0 : CS := (fun _ => 0, fun k => if k = 6 then fillF else if k = 7 then prF else if k = 8 then skF else if k = 9 then fillF else if k = 11 then fillF else fun _ => 0, fun _ => 0)
def crdW0 (G : GG) (ad : Nat → Nat) : va_W := [(ad 0, .inr (1, [.int (club0.1 4), .ref (ad 1), .ref (ad 2), .ref (ad 3), .ref (ad 4), .ref (ad 5), .ref (ad 6), .ref (ad 7), .ref (ad 8)])), (ad 1, .inl (G.2 0, 12, .inl (club0.2.1 0))), (ad 2, .inl (G.2 0, 12, .inl (club0.2.1 1))), (ad 3, .inl (G.2 0, 12, .inl (club0.2.1 2))), (ad 4, .inl (G.2 0, 12, .inl (club0.2.1 3))), (ad 5, .inl (G.2 0, 12, .inl (club0.2.1 4))), (ad 6, .inl (G.2 0, 12, .inl (club0.2.1 5))), (ad 7, .inl (G.2 1, 12, .inr (.inl (club0.2.2)))), (ad 8, .inl (G.2 0, 12, .inl (club0.2.1 6)))]
def hmpW0 (G : GG) (ad : Nat → Nat) : va_W := [(ad 0, .inr (3, [.ref (ad 1), .ref (ad 2), .ref (ad 3), .ref (ad 4), .ref (ad 5)])), (ad 1, .inl (G.2 0, 4, .inl (club0.2.1 7))), (ad 2, .inl (G.2 0, 4, .inl (club0.2.1 8))), (ad 3, .inl (G.2 0, 12, .inl (club0.2.1 9))), (ad 4, .inl (G.2 0, 12, .inl (club0.2.1 10))), (ad 5, .inl (G.2 0, 12, .inl (club0.2.1 11)))]
def accW0 (G : GG) (ad : Nat → Nat) : va_W := [(ad 0, .inr (0, [.int (club0.1 5), .int (club0.1 6), .int (club0.1 7), .int (club0.1 8), .int (club0.1 9)]))]
def ord0 : OS := (fun _ => 0, fun _ => 0)
set_option maxHeartbeats 4000000 in
set_option maxRecDepth 100000 in
theorem c_Acc_init (l : Launch) (G : GG) (N0 tp ts : Nat) (a sz : Nat) : CMc l y_Acc_init b_Acc_init 1 1 0 0 G N0 tp ts [.ref a] sz ([(a, .inr (0, [.int 0, .int 0, .int 0, .int 0, .int 0]))]) (accW0 G) (fun u => u 0 = a) := by
  refine CMc.start (by decide) (Nat.le_of_ble_eq_true rfl) (fun p e s m below meth c A ls hx hb hr hts hown hml hlocks hA hS hP hD hK hl hSK hAN hin => ?_)
  have hl : lv_has ls 1 [(0, .ref a)] := hl
  refine lv_aload_n hx hb d_Acc_init_0 rfl (lv_at hl 0 rfl) ?_
  refine W.objInit hx hb hown (hts _ tb_127) (hts _ tb_21) (hts _ tb_22) rfl (by rw [hml]; exact hl.1) rfl d_Acc_init_1 (Nat.le_of_ble_eq_true rfl) (Nat.le_of_ble_eq_true rfl) ?_
  refine W.eq (g2 := F0 m 4 ls []) rfl ?_
  refine W.widen (k := 0) (n := 0) (Nat.le_of_ble_eq_true rfl) (Nat.le_of_ble_eq_true rfl) ?_
  exact r_cret (u := (fun i => [a].getD i 0)) hx hb hr hlocks hP hD hS d_Acc_init_4 rfl
theorem so_Crd_37 : StOk y_Arr_fill b_Arr_fill 4 none 2 "HamperClub$Cards" 37 := ⟨tb_41, tb_42, tb_5, tb_43, by decide +kernel⟩
set_option maxHeartbeats 4000000 in
set_option maxRecDepth 100000 in
theorem c_Crd_init (l : Launch) (G : GG) (N0 tp ts : Nat) (a sz : Nat) : CMc l y_Crd_init b_Crd_init 1 1 8 96 G N0 tp ts [.ref a] sz ([(a, .inr (1, [.int 0, .null, .null, .null, .null, .null, .null, .null, .null]))]) (crdW0 G) (fun u => u 0 = a) := by
  refine CMc.start (by decide) (Nat.le_of_ble_eq_true rfl) (fun p e s m below meth c A ls hx hb hr hts hown hml hlocks hA hS hP hD hK hl hSK hAN hin => ?_)
  have hl : lv_has ls 1 [(0, .ref a)] := hl
  refine lv_aload_n hx hb d_Crd_init_0 rfl (lv_at hl 0 rfl) ?_
  refine W.objInit hx hb hown (hts _ tb_40) (hts _ tb_21) (hts _ tb_22) rfl (by rw [hml]; exact hl.1) rfl d_Crd_init_1 (Nat.le_of_ble_eq_true rfl) (Nat.le_of_ble_eq_true rfl) ?_
  refine W.eq (g2 := F0 m 4 ls []) rfl ?_
  refine lv_aload_n hx hb d_Crd_init_4 rfl (lv_at hl 0 rfl) ?_
  refine lv_bipush (v := 12) hx hb d_Crd_init_5 (by decide) ?_
  refine va_newa (atype := .int) hx hb (hts _ tb_83) rfl hK.1 hP hD hS hA (N' := 12) (a0 := (12, .inl (fun _ => 0))) (fun cA => rfl) (by decide) (by decide) (by decide) (Nat.le_of_ble_eq_true rfl) (Nat.le_of_ble_eq_true rfl) d_Crd_init_7 (fun q1 cA H hK1 hP hD hS => ?_)
  obtain rfl := newK (t0 := 0) (Or.inl rfl) hK.1 hK1 rfl
  have hP : va_P G.1 classes ([(a, .inr (1, [.int 0, .null, .null, .null, .null, .null, .null, .null, .null])), (q1, .inl (G.2 0, 12, .inl (fun _ => 0)))]) H := hP
  have hD : va_D A ([(a, .inr (1, [.int 0, .null, .null, .null, .null, .null, .null, .null, .null])), (q1, .inl (G.2 0, 12, .inl (fun _ => 0)))]) := hD
  refine W.widen (k := 1) (n := 12) (Nat.le_of_ble_eq_true rfl) (Nat.le_of_ble_eq_true rfl) ?_
  refine va_putF (D := G.1) (ci := 1) (v := .ref q1) (ty := .array .int) (C := R_Crd) (T := F_Crd) (N := 9) hx hb hts i_Crd t_Crd t_Crd_ok n_Crd hown hK.1 hP hD hS 0 rfl rfl 1 (by decide) (hts _ tb_46) (fun _ h9 => h9) rfl hin rfl (by decide +kernel) rfl rfl (Nat.le_of_ble_eq_true rfl) d_Crd_init_9 (fun H locs hP hD hS => ?_)
  have hP : va_P G.1 classes ([(a, .inr (1, [.int 0, .ref q1, .null, .null, .null, .null, .null, .null, .null])), (q1, .inl (G.2 0, 12, .inl (fun _ => 0)))]) H := hP
  have hD : va_D A ([(a, .inr (1, [.int 0, .ref q1, .null, .null, .null, .null, .null, .null, .null])), (q1, .inl (G.2 0, 12, .inl (fun _ => 0)))]) := hD
  refine lv_aload_n hx hb d_Crd_init_12 rfl (lv_at hl 0 rfl) ?_
  refine lv_bipush (v := 12) hx hb d_Crd_init_13 (by decide) ?_
  refine va_newa (atype := .int) hx hb (hts _ tb_83) rfl hK.1 hP hD hS hA (N' := 12) (a0 := (12, .inl (fun _ => 0))) (fun cA => rfl) (by decide) (by decide) (by decide) (Nat.le_of_ble_eq_true rfl) (Nat.le_of_ble_eq_true rfl) d_Crd_init_15 (fun q2 cA H hK1 hP hD hS => ?_)
  obtain rfl := newK (t0 := 0) (Or.inl rfl) hK.1 hK1 rfl
  have hP : va_P G.1 classes ([(a, .inr (1, [.int 0, .ref q1, .null, .null, .null, .null, .null, .null, .null])), (q1, .inl (G.2 0, 12, .inl (fun _ => 0))), (q2, .inl (G.2 0, 12, .inl (fun _ => 0)))]) H := hP
  have hD : va_D A ([(a, .inr (1, [.int 0, .ref q1, .null, .null, .null, .null, .null, .null, .null])), (q1, .inl (G.2 0, 12, .inl (fun _ => 0))), (q2, .inl (G.2 0, 12, .inl (fun _ => 0)))]) := hD
  refine W.widen (k := 2) (n := 24) (Nat.le_of_ble_eq_true rfl) (Nat.le_of_ble_eq_true rfl) ?_
  refine va_putF (D := G.1) (ci := 1) (v := .ref q2) (ty := .array .int) (C := R_Crd) (T := F_Crd) (N := 9) hx hb hts i_Crd t_Crd t_Crd_ok n_Crd hown hK.1 hP hD hS 0 rfl rfl 2 (by decide) (hts _ tb_49) (fun _ h9 => h9) rfl hin rfl (by decide +kernel) rfl rfl (Nat.le_of_ble_eq_true rfl) d_Crd_init_17 (fun H locs hP hD hS => ?_)
  have hP : va_P G.1 classes ([(a, .inr (1, [.int 0, .ref q1, .ref q2, .null, .null, .null, .null, .null, .null])), (q1, .inl (G.2 0, 12, .inl (fun _ => 0))), (q2, .inl (G.2 0, 12, .inl (fun _ => 0)))]) H := hP
  have hD : va_D A ([(a, .inr (1, [.int 0, .ref q1, .ref q2, .null, .null, .null, .null, .null, .null])), (q1, .inl (G.2 0, 12, .inl (fun _ => 0))), (q2, .inl (G.2 0, 12, .inl (fun _ => 0)))]) := hD
  refine lv_aload_n hx hb d_Crd_init_20 rfl (lv_at hl 0 rfl) ?_
  refine lv_bipush (v := 12) hx hb d_Crd_init_21 (by decide) ?_
  refine va_newa (atype := .int) hx hb (hts _ tb_83) rfl hK.1 hP hD hS hA (N' := 12) (a0 := (12, .inl (fun _ => 0))) (fun cA => rfl) (by decide) (by decide) (by decide) (Nat.le_of_ble_eq_true rfl) (Nat.le_of_ble_eq_true rfl) d_Crd_init_23 (fun q3 cA H hK1 hP hD hS => ?_)
  obtain rfl := newK (t0 := 0) (Or.inl rfl) hK.1 hK1 rfl
  have hP : va_P G.1 classes ([(a, .inr (1, [.int 0, .ref q1, .ref q2, .null, .null, .null, .null, .null, .null])), (q1, .inl (G.2 0, 12, .inl (fun _ => 0))), (q2, .inl (G.2 0, 12, .inl (fun _ => 0))), (q3, .inl (G.2 0, 12, .inl (fun _ => 0)))]) H := hP
  have hD : va_D A ([(a, .inr (1, [.int 0, .ref q1, .ref q2, .null, .null, .null, .null, .null, .null])), (q1, .inl (G.2 0, 12, .inl (fun _ => 0))), (q2, .inl (G.2 0, 12, .inl (fun _ => 0))), (q3, .inl (G.2 0, 12, .inl (fun _ => 0)))]) := hD
  refine W.widen (k := 3) (n := 36) (Nat.le_of_ble_eq_true rfl) (Nat.le_of_ble_eq_true rfl) ?_
  refine va_putF (D := G.1) (ci := 1) (v := .ref q3) (ty := .array .int) (C := R_Crd) (T := F_Crd) (N := 9) hx hb hts i_Crd t_Crd t_Crd_ok n_Crd hown hK.1 hP hD hS 0 rfl rfl 3 (by decide) (hts _ tb_51) (fun _ h9 => h9) rfl hin rfl (by decide +kernel) rfl rfl (Nat.le_of_ble_eq_true rfl) d_Crd_init_25 (fun H locs hP hD hS => ?_)
  have hP : va_P G.1 classes ([(a, .inr (1, [.int 0, .ref q1, .ref q2, .ref q3, .null, .null, .null, .null, .null])), (q1, .inl (G.2 0, 12, .inl (fun _ => 0))), (q2, .inl (G.2 0, 12, .inl (fun _ => 0))), (q3, .inl (G.2 0, 12, .inl (fun _ => 0)))]) H := hP
  have hD : va_D A ([(a, .inr (1, [.int 0, .ref q1, .ref q2, .ref q3, .null, .null, .null, .null, .null])), (q1, .inl (G.2 0, 12, .inl (fun _ => 0))), (q2, .inl (G.2 0, 12, .inl (fun _ => 0))), (q3, .inl (G.2 0, 12, .inl (fun _ => 0)))]) := hD
  refine lv_aload_n hx hb d_Crd_init_28 rfl (lv_at hl 0 rfl) ?_
  refine lv_bipush (v := 12) hx hb d_Crd_init_29 (by decide) ?_
  refine va_newa (atype := .int) hx hb (hts _ tb_83) rfl hK.1 hP hD hS hA (N' := 12) (a0 := (12, .inl (fun _ => 0))) (fun cA => rfl) (by decide) (by decide) (by decide) (Nat.le_of_ble_eq_true rfl) (Nat.le_of_ble_eq_true rfl) d_Crd_init_31 (fun q4 cA H hK1 hP hD hS => ?_)
  obtain rfl := newK (t0 := 0) (Or.inl rfl) hK.1 hK1 rfl
  have hP : va_P G.1 classes ([(a, .inr (1, [.int 0, .ref q1, .ref q2, .ref q3, .null, .null, .null, .null, .null])), (q1, .inl (G.2 0, 12, .inl (fun _ => 0))), (q2, .inl (G.2 0, 12, .inl (fun _ => 0))), (q3, .inl (G.2 0, 12, .inl (fun _ => 0))), (q4, .inl (G.2 0, 12, .inl (fun _ => 0)))]) H := hP
  have hD : va_D A ([(a, .inr (1, [.int 0, .ref q1, .ref q2, .ref q3, .null, .null, .null, .null, .null])), (q1, .inl (G.2 0, 12, .inl (fun _ => 0))), (q2, .inl (G.2 0, 12, .inl (fun _ => 0))), (q3, .inl (G.2 0, 12, .inl (fun _ => 0))), (q4, .inl (G.2 0, 12, .inl (fun _ => 0)))]) := hD
  refine W.widen (k := 4) (n := 48) (Nat.le_of_ble_eq_true rfl) (Nat.le_of_ble_eq_true rfl) ?_
  refine va_putF (D := G.1) (ci := 1) (v := .ref q4) (ty := .array .int) (C := R_Crd) (T := F_Crd) (N := 9) hx hb hts i_Crd t_Crd t_Crd_ok n_Crd hown hK.1 hP hD hS 0 rfl rfl 4 (by decide) (hts _ tb_53) (fun _ h9 => h9) rfl hin rfl (by decide +kernel) rfl rfl (Nat.le_of_ble_eq_true rfl) d_Crd_init_33 (fun H locs hP hD hS => ?_)
  have hP : va_P G.1 classes ([(a, .inr (1, [.int 0, .ref q1, .ref q2, .ref q3, .ref q4, .null, .null, .null, .null])), (q1, .inl (G.2 0, 12, .inl (fun _ => 0))), (q2, .inl (G.2 0, 12, .inl (fun _ => 0))), (q3, .inl (G.2 0, 12, .inl (fun _ => 0))), (q4, .inl (G.2 0, 12, .inl (fun _ => 0)))]) H := hP
  have hD : va_D A ([(a, .inr (1, [.int 0, .ref q1, .ref q2, .ref q3, .ref q4, .null, .null, .null, .null])), (q1, .inl (G.2 0, 12, .inl (fun _ => 0))), (q2, .inl (G.2 0, 12, .inl (fun _ => 0))), (q3, .inl (G.2 0, 12, .inl (fun _ => 0))), (q4, .inl (G.2 0, 12, .inl (fun _ => 0)))]) := hD
  refine lv_aload_n hx hb d_Crd_init_36 rfl (lv_at hl 0 rfl) ?_
  refine lv_bipush (v := 12) hx hb d_Crd_init_37 (by decide) ?_
  refine va_newa (atype := .int) hx hb (hts _ tb_83) rfl hK.1 hP hD hS hA (N' := 12) (a0 := (12, .inl (fun _ => 0))) (fun cA => rfl) (by decide) (by decide) (by decide) (Nat.le_of_ble_eq_true rfl) (Nat.le_of_ble_eq_true rfl) d_Crd_init_39 (fun q5 cA H hK1 hP hD hS => ?_)
  obtain rfl := newK (t0 := 0) (Or.inl rfl) hK.1 hK1 rfl
  have hP : va_P G.1 classes ([(a, .inr (1, [.int 0, .ref q1, .ref q2, .ref q3, .ref q4, .null, .null, .null, .null])), (q1, .inl (G.2 0, 12, .inl (fun _ => 0))), (q2, .inl (G.2 0, 12, .inl (fun _ => 0))), (q3, .inl (G.2 0, 12, .inl (fun _ => 0))), (q4, .inl (G.2 0, 12, .inl (fun _ => 0))), (q5, .inl (G.2 0, 12, .inl (fun _ => 0)))]) H := hP
  have hD : va_D A ([(a, .inr (1, [.int 0, .ref q1, .ref q2, .ref q3, .ref q4, .null, .null, .null, .null])), (q1, .inl (G.2 0, 12, .inl (fun _ => 0))), (q2, .inl (G.2 0, 12, .inl (fun _ => 0))), (q3, .inl (G.2 0, 12, .inl (fun _ => 0))), (q4, .inl (G.2 0, 12, .inl (fun _ => 0))), (q5, .inl (G.2 0, 12, .inl (fun _ => 0)))]) := hD
  refine W.widen (k := 5) (n := 60) (Nat.le_of_ble_eq_true rfl) (Nat.le_of_ble_eq_true rfl) ?_
  refine va_putF (D := G.1) (ci := 1) (v := .ref q5) (ty := .array .int) (C := R_Crd) (T := F_Crd) (N := 9) hx hb hts i_Crd t_Crd t_Crd_ok n_Crd hown hK.1 hP hD hS 0 rfl rfl 5 (by decide) (hts _ tb_55) (fun _ h9 => h9) rfl hin rfl (by decide +kernel) rfl rfl (Nat.le_of_ble_eq_true rfl) d_Crd_init_41 (fun H locs hP hD hS => ?_)
  have hP : va_P G.1 classes ([(a, .inr (1, [.int 0, .ref q1, .ref q2, .ref q3, .ref q4, .ref q5, .null, .null, .null])), (q1, .inl (G.2 0, 12, .inl (fun _ => 0))), (q2, .inl (G.2 0, 12, .inl (fun _ => 0))), (q3, .inl (G.2 0, 12, .inl (fun _ => 0))), (q4, .inl (G.2 0, 12, .inl (fun _ => 0))), (q5, .inl (G.2 0, 12, .inl (fun _ => 0)))]) H := hP
  have hD : va_D A ([(a, .inr (1, [.int 0, .ref q1, .ref q2, .ref q3, .ref q4, .ref q5, .null, .null, .null])), (q1, .inl (G.2 0, 12, .inl (fun _ => 0))), (q2, .inl (G.2 0, 12, .inl (fun _ => 0))), (q3, .inl (G.2 0, 12, .inl (fun _ => 0))), (q4, .inl (G.2 0, 12, .inl (fun _ => 0))), (q5, .inl (G.2 0, 12, .inl (fun _ => 0)))]) := hD
  refine lv_aload_n hx hb d_Crd_init_44 rfl (lv_at hl 0 rfl) ?_
  refine lv_bipush (v := 12) hx hb d_Crd_init_45 (by decide) ?_
  refine va_newa (atype := .int) hx hb (hts _ tb_83) rfl hK.1 hP hD hS hA (N' := 12) (a0 := (12, .inl (fun _ => 0))) (fun cA => rfl) (by decide) (by decide) (by decide) (Nat.le_of_ble_eq_true rfl) (Nat.le_of_ble_eq_true rfl) d_Crd_init_47 (fun q6 cA H hK1 hP hD hS => ?_)
  obtain rfl := newK (t0 := 0) (Or.inl rfl) hK.1 hK1 rfl
  have hP : va_P G.1 classes ([(a, .inr (1, [.int 0, .ref q1, .ref q2, .ref q3, .ref q4, .ref q5, .null, .null, .null])), (q1, .inl (G.2 0, 12, .inl (fun _ => 0))), (q2, .inl (G.2 0, 12, .inl (fun _ => 0))), (q3, .inl (G.2 0, 12, .inl (fun _ => 0))), (q4, .inl (G.2 0, 12, .inl (fun _ => 0))), (q5, .inl (G.2 0, 12, .inl (fun _ => 0))), (q6, .inl (G.2 0, 12, .inl (fun _ => 0)))]) H := hP
  have hD : va_D A ([(a, .inr (1, [.int 0, .ref q1, .ref q2, .ref q3, .ref q4, .ref q5, .null, .null, .null])), (q1, .inl (G.2 0, 12, .inl (fun _ => 0))), (q2, .inl (G.2 0, 12, .inl (fun _ => 0))), (q3, .inl (G.2 0, 12, .inl (fun _ => 0))), (q4, .inl (G.2 0, 12, .inl (fun _ => 0))), (q5, .inl (G.2 0, 12, .inl (fun _ => 0))), (q6, .inl (G.2 0, 12, .inl (fun _ => 0)))]) := hD
  refine W.widen (k := 6) (n := 72) (Nat.le_of_ble_eq_true rfl) (Nat.le_of_ble_eq_true rfl) ?_
  refine va_putF (D := G.1) (ci := 1) (v := .ref q6) (ty := .array .int) (C := R_Crd) (T := F_Crd) (N := 9) hx hb hts i_Crd t_Crd t_Crd_ok n_Crd hown hK.1 hP hD hS 0 rfl rfl 6 (by decide) (hts _ tb_58) (fun _ h9 => h9) rfl hin rfl (by decide +kernel) rfl rfl (Nat.le_of_ble_eq_true rfl) d_Crd_init_49 (fun H locs hP hD hS => ?_)
  have hP : va_P G.1 classes ([(a, .inr (1, [.int 0, .ref q1, .ref q2, .ref q3, .ref q4, .ref q5, .ref q6, .null, .null])), (q1, .inl (G.2 0, 12, .inl (fun _ => 0))), (q2, .inl (G.2 0, 12, .inl (fun _ => 0))), (q3, .inl (G.2 0, 12, .inl (fun _ => 0))), (q4, .inl (G.2 0, 12, .inl (fun _ => 0))), (q5, .inl (G.2 0, 12, .inl (fun _ => 0))), (q6, .inl (G.2 0, 12, .inl (fun _ => 0)))]) H := hP
  have hD : va_D A ([(a, .inr (1, [.int 0, .ref q1, .ref q2, .ref q3, .ref q4, .ref q5, .ref q6, .null, .null])), (q1, .inl (G.2 0, 12, .inl (fun _ => 0))), (q2, .inl (G.2 0, 12, .inl (fun _ => 0))), (q3, .inl (G.2 0, 12, .inl (fun _ => 0))), (q4, .inl (G.2 0, 12, .inl (fun _ => 0))), (q5, .inl (G.2 0, 12, .inl (fun _ => 0))), (q6, .inl (G.2 0, 12, .inl (fun _ => 0)))]) := hD
  refine lv_aload_n hx hb d_Crd_init_52 rfl (lv_at hl 0 rfl) ?_
  refine lv_bipush (v := 12) hx hb d_Crd_init_53 (by decide) ?_
  refine va_newa (atype := .long) hx hb (hts _ tb_84) rfl hK.1 hP hD hS hA (N' := 12) (a0 := (12, .inr (.inl (fun _ => 0)))) (fun cA => rfl) (by decide) (by decide) (by decide) (Nat.le_of_ble_eq_true rfl) (Nat.le_of_ble_eq_true rfl) d_Crd_init_55 (fun q7 cA H hK1 hP hD hS => ?_)
  obtain rfl := newK (t0 := 1) (Or.inr (Or.inl rfl)) hK.1 hK1 rfl
  have hP : va_P G.1 classes ([(a, .inr (1, [.int 0, .ref q1, .ref q2, .ref q3, .ref q4, .ref q5, .ref q6, .null, .null])), (q1, .inl (G.2 0, 12, .inl (fun _ => 0))), (q2, .inl (G.2 0, 12, .inl (fun _ => 0))), (q3, .inl (G.2 0, 12, .inl (fun _ => 0))), (q4, .inl (G.2 0, 12, .inl (fun _ => 0))), (q5, .inl (G.2 0, 12, .inl (fun _ => 0))), (q6, .inl (G.2 0, 12, .inl (fun _ => 0))), (q7, .inl (G.2 1, 12, .inr (.inl (fun _ => 0))))]) H := hP
  have hD : va_D A ([(a, .inr (1, [.int 0, .ref q1, .ref q2, .ref q3, .ref q4, .ref q5, .ref q6, .null, .null])), (q1, .inl (G.2 0, 12, .inl (fun _ => 0))), (q2, .inl (G.2 0, 12, .inl (fun _ => 0))), (q3, .inl (G.2 0, 12, .inl (fun _ => 0))), (q4, .inl (G.2 0, 12, .inl (fun _ => 0))), (q5, .inl (G.2 0, 12, .inl (fun _ => 0))), (q6, .inl (G.2 0, 12, .inl (fun _ => 0))), (q7, .inl (G.2 1, 12, .inr (.inl (fun _ => 0))))]) := hD
  refine W.widen (k := 7) (n := 84) (Nat.le_of_ble_eq_true rfl) (Nat.le_of_ble_eq_true rfl) ?_
  refine va_putF (D := G.1) (ci := 1) (v := .ref q7) (ty := .array .long) (C := R_Crd) (T := F_Crd) (N := 9) hx hb hts i_Crd t_Crd t_Crd_ok n_Crd hown hK.1 hP hD hS 0 rfl rfl 7 (by decide) (hts _ tb_60) (fun _ h9 => h9) rfl hin rfl (by decide +kernel) rfl rfl (Nat.le_of_ble_eq_true rfl) d_Crd_init_57 (fun H locs hP hD hS => ?_)
  have hP : va_P G.1 classes ([(a, .inr (1, [.int 0, .ref q1, .ref q2, .ref q3, .ref q4, .ref q5, .ref q6, .ref q7, .null])), (q1, .inl (G.2 0, 12, .inl (fun _ => 0))), (q2, .inl (G.2 0, 12, .inl (fun _ => 0))), (q3, .inl (G.2 0, 12, .inl (fun _ => 0))), (q4, .inl (G.2 0, 12, .inl (fun _ => 0))), (q5, .inl (G.2 0, 12, .inl (fun _ => 0))), (q6, .inl (G.2 0, 12, .inl (fun _ => 0))), (q7, .inl (G.2 1, 12, .inr (.inl (fun _ => 0))))]) H := hP
  have hD : va_D A ([(a, .inr (1, [.int 0, .ref q1, .ref q2, .ref q3, .ref q4, .ref q5, .ref q6, .ref q7, .null])), (q1, .inl (G.2 0, 12, .inl (fun _ => 0))), (q2, .inl (G.2 0, 12, .inl (fun _ => 0))), (q3, .inl (G.2 0, 12, .inl (fun _ => 0))), (q4, .inl (G.2 0, 12, .inl (fun _ => 0))), (q5, .inl (G.2 0, 12, .inl (fun _ => 0))), (q6, .inl (G.2 0, 12, .inl (fun _ => 0))), (q7, .inl (G.2 1, 12, .inr (.inl (fun _ => 0))))]) := hD
  refine lv_aload_n hx hb d_Crd_init_60 rfl (lv_at hl 0 rfl) ?_
  refine lv_bipush (v := 12) hx hb d_Crd_init_61 (by decide) ?_
  refine va_newa (atype := .int) hx hb (hts _ tb_83) rfl hK.1 hP hD hS hA (N' := 12) (a0 := (12, .inl (fun _ => 0))) (fun cA => rfl) (by decide) (by decide) (by decide) (Nat.le_of_ble_eq_true rfl) (Nat.le_of_ble_eq_true rfl) d_Crd_init_63 (fun q8 cA H hK1 hP hD hS => ?_)
  obtain rfl := newK (t0 := 0) (Or.inl rfl) hK.1 hK1 rfl
  have hP : va_P G.1 classes ([(a, .inr (1, [.int 0, .ref q1, .ref q2, .ref q3, .ref q4, .ref q5, .ref q6, .ref q7, .null])), (q1, .inl (G.2 0, 12, .inl (fun _ => 0))), (q2, .inl (G.2 0, 12, .inl (fun _ => 0))), (q3, .inl (G.2 0, 12, .inl (fun _ => 0))), (q4, .inl (G.2 0, 12, .inl (fun _ => 0))), (q5, .inl (G.2 0, 12, .inl (fun _ => 0))), (q6, .inl (G.2 0, 12, .inl (fun _ => 0))), (q7, .inl (G.2 1, 12, .inr (.inl (fun _ => 0)))), (q8, .inl (G.2 0, 12, .inl (fun _ => 0)))]) H := hP
  have hD : va_D A ([(a, .inr (1, [.int 0, .ref q1, .ref q2, .ref q3, .ref q4, .ref q5, .ref q6, .ref q7, .null])), (q1, .inl (G.2 0, 12, .inl (fun _ => 0))), (q2, .inl (G.2 0, 12, .inl (fun _ => 0))), (q3, .inl (G.2 0, 12, .inl (fun _ => 0))), (q4, .inl (G.2 0, 12, .inl (fun _ => 0))), (q5, .inl (G.2 0, 12, .inl (fun _ => 0))), (q6, .inl (G.2 0, 12, .inl (fun _ => 0))), (q7, .inl (G.2 1, 12, .inr (.inl (fun _ => 0)))), (q8, .inl (G.2 0, 12, .inl (fun _ => 0)))]) := hD
  refine W.widen (k := 8) (n := 96) (Nat.le_of_ble_eq_true rfl) (Nat.le_of_ble_eq_true rfl) ?_
  refine va_putF (D := G.1) (ci := 1) (v := .ref q8) (ty := .array .int) (C := R_Crd) (T := F_Crd) (N := 9) hx hb hts i_Crd t_Crd t_Crd_ok n_Crd hown hK.1 hP hD hS 0 rfl rfl 8 (by decide) (hts _ tb_62) (fun _ h9 => h9) rfl hin rfl (by decide +kernel) rfl rfl (Nat.le_of_ble_eq_true rfl) d_Crd_init_65 (fun H locs hP hD hS => ?_)
  have hP : va_P G.1 classes ([(a, .inr (1, [.int 0, .ref q1, .ref q2, .ref q3, .ref q4, .ref q5, .ref q6, .ref q7, .ref q8])), (q1, .inl (G.2 0, 12, .inl (fun _ => 0))), (q2, .inl (G.2 0, 12, .inl (fun _ => 0))), (q3, .inl (G.2 0, 12, .inl (fun _ => 0))), (q4, .inl (G.2 0, 12, .inl (fun _ => 0))), (q5, .inl (G.2 0, 12, .inl (fun _ => 0))), (q6, .inl (G.2 0, 12, .inl (fun _ => 0))), (q7, .inl (G.2 1, 12, .inr (.inl (fun _ => 0)))), (q8, .inl (G.2 0, 12, .inl (fun _ => 0)))]) H := hP
  have hD : va_D A ([(a, .inr (1, [.int 0, .ref q1, .ref q2, .ref q3, .ref q4, .ref q5, .ref q6, .ref q7, .ref q8])), (q1, .inl (G.2 0, 12, .inl (fun _ => 0))), (q2, .inl (G.2 0, 12, .inl (fun _ => 0))), (q3, .inl (G.2 0, 12, .inl (fun _ => 0))), (q4, .inl (G.2 0, 12, .inl (fun _ => 0))), (q5, .inl (G.2 0, 12, .inl (fun _ => 0))), (q6, .inl (G.2 0, 12, .inl (fun _ => 0))), (q7, .inl (G.2 1, 12, .inr (.inl (fun _ => 0)))), (q8, .inl (G.2 0, 12, .inl (fun _ => 0)))]) := hD
  refine lv_aload_n hx hb d_Crd_init_68 rfl (lv_at hl 0 rfl) ?_
  refine va_get (D := G.1) (ci := 1) (v := .ref q8) (C := R_Crd) (T := F_Crd) (N := 9) hx hb hts i_Crd hown hK.1 hP 0 rfl rfl 8 (by decide) (hts _ tb_62) (fun _ h9 => h9) rfl d_Crd_init_69 ?_
  refine lv_bipush (v := (-9)) hx hb d_Crd_init_72 (by decide) ?_
  refine call_Sv (pre := [(a, .inr (1, [.int 0, .ref q1, .ref q2, .ref q3, .ref q4, .ref q5, .ref q6, .ref q7, .ref q8])), (q1, .inl (G.2 0, 12, .inl (fun _ => 0))), (q2, .inl (G.2 0, 12, .inl (fun _ => 0))), (q3, .inl (G.2 0, 12, .inl (fun _ => 0))), (q4, .inl (G.2 0, 12, .inl (fun _ => 0))), (q5, .inl (G.2 0, 12, .inl (fun _ => 0))), (q6, .inl (G.2 0, 12, .inl (fun _ => 0))), (q7, .inl (G.2 1, 12, .inr (.inl (fun _ => 0))))]) (wc := arrW G (fun _ => q8) (fun _ => 0)) (post := []) (Wc := arrW G (fun _ => q8)) (own := "HamperClub$Cards") (As := [.ref q8, .int (-9)]) (rest := []) hx hb hml hts hown hK hA hP hD hS so_Crd_37 rfl ⟨Nat.le_of_ble_eq_true rfl, Nat.le_of_ble_eq_true rfl⟩ ⟨Nat.le_of_ble_eq_true rfl, Nat.le_of_ble_eq_true rfl⟩ hl.1 rfl (Nat.le_of_ble_eq_true rfl) d_Crd_init_74 (c_Arr_fill l G (fun _ => q8) _ (fun _ => 0) (-9) (fun f => f = fun j => if j < 12 then (-9) else 0) (wp_fill rfl)) (fun f9 H locs e9 hP hD hS => ?_)
  subst e9
  have hP : va_P G.1 classes ([(a, .inr (1, [.int 0, .ref q1, .ref q2, .ref q3, .ref q4, .ref q5, .ref q6, .ref q7, .ref q8])), (q1, .inl (G.2 0, 12, .inl (fun _ => 0))), (q2, .inl (G.2 0, 12, .inl (fun _ => 0))), (q3, .inl (G.2 0, 12, .inl (fun _ => 0))), (q4, .inl (G.2 0, 12, .inl (fun _ => 0))), (q5, .inl (G.2 0, 12, .inl (fun _ => 0))), (q6, .inl (G.2 0, 12, .inl (fun _ => 0))), (q7, .inl (G.2 1, 12, .inr (.inl (fun _ => 0)))), (q8, .inl (G.2 0, 12, .inl (fun j => if j < 12 then (-9) else 0)))]) H := hP
  have hD : va_D A ([(a, .inr (1, [.int 0, .ref q1, .ref q2, .ref q3, .ref q4, .ref q5, .ref q6, .ref q7, .ref q8])), (q1, .inl (G.2 0, 12, .inl (fun _ => 0))), (q2, .inl (G.2 0, 12, .inl (fun _ => 0))), (q3, .inl (G.2 0, 12, .inl (fun _ => 0))), (q4, .inl (G.2 0, 12, .inl (fun _ => 0))), (q5, .inl (G.2 0, 12, .inl (fun _ => 0))), (q6, .inl (G.2 0, 12, .inl (fun _ => 0))), (q7, .inl (G.2 1, 12, .inr (.inl (fun _ => 0)))), (q8, .inl (G.2 0, 12, .inl (fun j => if j < 12 then (-9) else 0)))]) := hD
  refine W.widen (k := 8) (n := 96) (Nat.le_of_ble_eq_true rfl) (Nat.le_of_ble_eq_true rfl) ?_
  exact r_cret (u := (fun i => [a, q1, q2, q3, q4, q5, q6, q7, q8].getD i 0)) hx hb hr hlocks hP hD hS d_Crd_init_77 rfl
set_option maxHeartbeats 4000000 in
set_option maxRecDepth 100000 in
theorem c_Hmp_init (l : Launch) (G : GG) (N0 tp ts : Nat) (a sz : Nat) : CMc l y_Hmp_init b_Hmp_init 1 1 5 44 G N0 tp ts [.ref a] sz ([(a, .inr (3, [.null, .null, .null, .null, .null]))]) (hmpW0 G) (fun u => u 0 = a) := by
  refine CMc.start (by decide) (Nat.le_of_ble_eq_true rfl) (fun p e s m below meth c A ls hx hb hr hts hown hml hlocks hA hS hP hD hK hl hSK hAN hin => ?_)
  have hl : lv_has ls 1 [(0, .ref a)] := hl
  refine lv_aload_n hx hb d_Hmp_init_0 rfl (lv_at hl 0 rfl) ?_
  refine W.objInit hx hb hown (hts _ tb_90) (hts _ tb_21) (hts _ tb_22) rfl (by rw [hml]; exact hl.1) rfl d_Hmp_init_1 (Nat.le_of_ble_eq_true rfl) (Nat.le_of_ble_eq_true rfl) ?_
  refine W.eq (g2 := F0 m 4 ls []) rfl ?_
  refine lv_aload_n hx hb d_Hmp_init_4 rfl (lv_at hl 0 rfl) ?_
  refine lv_iconst (v := 4) hx hb d_Hmp_init_5 (by decide) ?_
  refine va_newa (atype := .int) hx hb (hts _ tb_83) rfl hK.1 hP hD hS hA (N' := 4) (a0 := (4, .inl (fun _ => 0))) (fun cA => rfl) (by decide) (by decide) (by decide) (Nat.le_of_ble_eq_true rfl) (Nat.le_of_ble_eq_true rfl) d_Hmp_init_6 (fun q1 cA H hK1 hP hD hS => ?_)
  obtain rfl := newK (t0 := 0) (Or.inl rfl) hK.1 hK1 rfl
  have hP : va_P G.1 classes ([(a, .inr (3, [.null, .null, .null, .null, .null])), (q1, .inl (G.2 0, 4, .inl (fun _ => 0)))]) H := hP
  have hD : va_D A ([(a, .inr (3, [.null, .null, .null, .null, .null])), (q1, .inl (G.2 0, 4, .inl (fun _ => 0)))]) := hD
  refine W.widen (k := 1) (n := 4) (Nat.le_of_ble_eq_true rfl) (Nat.le_of_ble_eq_true rfl) ?_
  refine va_putF (D := G.1) (ci := 3) (v := .ref q1) (ty := .array .int) (C := R_Hmp) (T := F_Hmp) (N := 5) hx hb hts i_Hmp t_Hmp t_Hmp_ok n_Hmp hown hK.1 hP hD hS 0 rfl rfl 0 (by decide) (hts _ tb_99) (fun _ h9 => h9) rfl hin rfl (by decide +kernel) rfl rfl (Nat.le_of_ble_eq_true rfl) d_Hmp_init_8 (fun H locs hP hD hS => ?_)
  have hP : va_P G.1 classes ([(a, .inr (3, [.ref q1, .null, .null, .null, .null])), (q1, .inl (G.2 0, 4, .inl (fun _ => 0)))]) H := hP
  have hD : va_D A ([(a, .inr (3, [.ref q1, .null, .null, .null, .null])), (q1, .inl (G.2 0, 4, .inl (fun _ => 0)))]) := hD
  refine lv_aload_n hx hb d_Hmp_init_11 rfl (lv_at hl 0 rfl) ?_
  refine lv_iconst (v := 4) hx hb d_Hmp_init_12 (by decide) ?_
  refine va_newa (atype := .int) hx hb (hts _ tb_83) rfl hK.1 hP hD hS hA (N' := 4) (a0 := (4, .inl (fun _ => 0))) (fun cA => rfl) (by decide) (by decide) (by decide) (Nat.le_of_ble_eq_true rfl) (Nat.le_of_ble_eq_true rfl) d_Hmp_init_13 (fun q2 cA H hK1 hP hD hS => ?_)
  obtain rfl := newK (t0 := 0) (Or.inl rfl) hK.1 hK1 rfl
  have hP : va_P G.1 classes ([(a, .inr (3, [.ref q1, .null, .null, .null, .null])), (q1, .inl (G.2 0, 4, .inl (fun _ => 0))), (q2, .inl (G.2 0, 4, .inl (fun _ => 0)))]) H := hP
  have hD : va_D A ([(a, .inr (3, [.ref q1, .null, .null, .null, .null])), (q1, .inl (G.2 0, 4, .inl (fun _ => 0))), (q2, .inl (G.2 0, 4, .inl (fun _ => 0)))]) := hD
  refine W.widen (k := 2) (n := 8) (Nat.le_of_ble_eq_true rfl) (Nat.le_of_ble_eq_true rfl) ?_
  refine va_putF (D := G.1) (ci := 3) (v := .ref q2) (ty := .array .int) (C := R_Hmp) (T := F_Hmp) (N := 5) hx hb hts i_Hmp t_Hmp t_Hmp_ok n_Hmp hown hK.1 hP hD hS 0 rfl rfl 1 (by decide) (hts _ tb_102) (fun _ h9 => h9) rfl hin rfl (by decide +kernel) rfl rfl (Nat.le_of_ble_eq_true rfl) d_Hmp_init_15 (fun H locs hP hD hS => ?_)
  have hP : va_P G.1 classes ([(a, .inr (3, [.ref q1, .ref q2, .null, .null, .null])), (q1, .inl (G.2 0, 4, .inl (fun _ => 0))), (q2, .inl (G.2 0, 4, .inl (fun _ => 0)))]) H := hP
  have hD : va_D A ([(a, .inr (3, [.ref q1, .ref q2, .null, .null, .null])), (q1, .inl (G.2 0, 4, .inl (fun _ => 0))), (q2, .inl (G.2 0, 4, .inl (fun _ => 0)))]) := hD
  refine lv_aload_n hx hb d_Hmp_init_18 rfl (lv_at hl 0 rfl) ?_
  refine lv_bipush (v := 12) hx hb d_Hmp_init_19 (by decide) ?_
  refine va_newa (atype := .int) hx hb (hts _ tb_83) rfl hK.1 hP hD hS hA (N' := 12) (a0 := (12, .inl (fun _ => 0))) (fun cA => rfl) (by decide) (by decide) (by decide) (Nat.le_of_ble_eq_true rfl) (Nat.le_of_ble_eq_true rfl) d_Hmp_init_21 (fun q3 cA H hK1 hP hD hS => ?_)
  obtain rfl := newK (t0 := 0) (Or.inl rfl) hK.1 hK1 rfl
  have hP : va_P G.1 classes ([(a, .inr (3, [.ref q1, .ref q2, .null, .null, .null])), (q1, .inl (G.2 0, 4, .inl (fun _ => 0))), (q2, .inl (G.2 0, 4, .inl (fun _ => 0))), (q3, .inl (G.2 0, 12, .inl (fun _ => 0)))]) H := hP
  have hD : va_D A ([(a, .inr (3, [.ref q1, .ref q2, .null, .null, .null])), (q1, .inl (G.2 0, 4, .inl (fun _ => 0))), (q2, .inl (G.2 0, 4, .inl (fun _ => 0))), (q3, .inl (G.2 0, 12, .inl (fun _ => 0)))]) := hD
  refine W.widen (k := 3) (n := 20) (Nat.le_of_ble_eq_true rfl) (Nat.le_of_ble_eq_true rfl) ?_
  refine va_putF (D := G.1) (ci := 3) (v := .ref q3) (ty := .array .int) (C := R_Hmp) (T := F_Hmp) (N := 5) hx hb hts i_Hmp t_Hmp t_Hmp_ok n_Hmp hown hK.1 hP hD hS 0 rfl rfl 2 (by decide) (hts _ tb_104) (fun _ h9 => h9) rfl hin rfl (by decide +kernel) rfl rfl (Nat.le_of_ble_eq_true rfl) d_Hmp_init_23 (fun H locs hP hD hS => ?_)
  have hP : va_P G.1 classes ([(a, .inr (3, [.ref q1, .ref q2, .ref q3, .null, .null])), (q1, .inl (G.2 0, 4, .inl (fun _ => 0))), (q2, .inl (G.2 0, 4, .inl (fun _ => 0))), (q3, .inl (G.2 0, 12, .inl (fun _ => 0)))]) H := hP
  have hD : va_D A ([(a, .inr (3, [.ref q1, .ref q2, .ref q3, .null, .null])), (q1, .inl (G.2 0, 4, .inl (fun _ => 0))), (q2, .inl (G.2 0, 4, .inl (fun _ => 0))), (q3, .inl (G.2 0, 12, .inl (fun _ => 0)))]) := hD
  refine lv_aload_n hx hb d_Hmp_init_26 rfl (lv_at hl 0 rfl) ?_
  refine lv_bipush (v := 12) hx hb d_Hmp_init_27 (by decide) ?_
  refine va_newa (atype := .int) hx hb (hts _ tb_83) rfl hK.1 hP hD hS hA (N' := 12) (a0 := (12, .inl (fun _ => 0))) (fun cA => rfl) (by decide) (by decide) (by decide) (Nat.le_of_ble_eq_true rfl) (Nat.le_of_ble_eq_true rfl) d_Hmp_init_29 (fun q4 cA H hK1 hP hD hS => ?_)
  obtain rfl := newK (t0 := 0) (Or.inl rfl) hK.1 hK1 rfl
  have hP : va_P G.1 classes ([(a, .inr (3, [.ref q1, .ref q2, .ref q3, .null, .null])), (q1, .inl (G.2 0, 4, .inl (fun _ => 0))), (q2, .inl (G.2 0, 4, .inl (fun _ => 0))), (q3, .inl (G.2 0, 12, .inl (fun _ => 0))), (q4, .inl (G.2 0, 12, .inl (fun _ => 0)))]) H := hP
  have hD : va_D A ([(a, .inr (3, [.ref q1, .ref q2, .ref q3, .null, .null])), (q1, .inl (G.2 0, 4, .inl (fun _ => 0))), (q2, .inl (G.2 0, 4, .inl (fun _ => 0))), (q3, .inl (G.2 0, 12, .inl (fun _ => 0))), (q4, .inl (G.2 0, 12, .inl (fun _ => 0)))]) := hD
  refine W.widen (k := 4) (n := 32) (Nat.le_of_ble_eq_true rfl) (Nat.le_of_ble_eq_true rfl) ?_
  refine va_putF (D := G.1) (ci := 3) (v := .ref q4) (ty := .array .int) (C := R_Hmp) (T := F_Hmp) (N := 5) hx hb hts i_Hmp t_Hmp t_Hmp_ok n_Hmp hown hK.1 hP hD hS 0 rfl rfl 3 (by decide) (hts _ tb_106) (fun _ h9 => h9) rfl hin rfl (by decide +kernel) rfl rfl (Nat.le_of_ble_eq_true rfl) d_Hmp_init_31 (fun H locs hP hD hS => ?_)
  have hP : va_P G.1 classes ([(a, .inr (3, [.ref q1, .ref q2, .ref q3, .ref q4, .null])), (q1, .inl (G.2 0, 4, .inl (fun _ => 0))), (q2, .inl (G.2 0, 4, .inl (fun _ => 0))), (q3, .inl (G.2 0, 12, .inl (fun _ => 0))), (q4, .inl (G.2 0, 12, .inl (fun _ => 0)))]) H := hP
  have hD : va_D A ([(a, .inr (3, [.ref q1, .ref q2, .ref q3, .ref q4, .null])), (q1, .inl (G.2 0, 4, .inl (fun _ => 0))), (q2, .inl (G.2 0, 4, .inl (fun _ => 0))), (q3, .inl (G.2 0, 12, .inl (fun _ => 0))), (q4, .inl (G.2 0, 12, .inl (fun _ => 0)))]) := hD
  refine lv_aload_n hx hb d_Hmp_init_34 rfl (lv_at hl 0 rfl) ?_
  refine lv_bipush (v := 12) hx hb d_Hmp_init_35 (by decide) ?_
  refine va_newa (atype := .int) hx hb (hts _ tb_83) rfl hK.1 hP hD hS hA (N' := 12) (a0 := (12, .inl (fun _ => 0))) (fun cA => rfl) (by decide) (by decide) (by decide) (Nat.le_of_ble_eq_true rfl) (Nat.le_of_ble_eq_true rfl) d_Hmp_init_37 (fun q5 cA H hK1 hP hD hS => ?_)
  obtain rfl := newK (t0 := 0) (Or.inl rfl) hK.1 hK1 rfl
  have hP : va_P G.1 classes ([(a, .inr (3, [.ref q1, .ref q2, .ref q3, .ref q4, .null])), (q1, .inl (G.2 0, 4, .inl (fun _ => 0))), (q2, .inl (G.2 0, 4, .inl (fun _ => 0))), (q3, .inl (G.2 0, 12, .inl (fun _ => 0))), (q4, .inl (G.2 0, 12, .inl (fun _ => 0))), (q5, .inl (G.2 0, 12, .inl (fun _ => 0)))]) H := hP
  have hD : va_D A ([(a, .inr (3, [.ref q1, .ref q2, .ref q3, .ref q4, .null])), (q1, .inl (G.2 0, 4, .inl (fun _ => 0))), (q2, .inl (G.2 0, 4, .inl (fun _ => 0))), (q3, .inl (G.2 0, 12, .inl (fun _ => 0))), (q4, .inl (G.2 0, 12, .inl (fun _ => 0))), (q5, .inl (G.2 0, 12, .inl (fun _ => 0)))]) := hD
  refine W.widen (k := 5) (n := 44) (Nat.le_of_ble_eq_true rfl) (Nat.le_of_ble_eq_true rfl) ?_
  refine va_putF (D := G.1) (ci := 3) (v := .ref q5) (ty := .array .int) (C := R_Hmp) (T := F_Hmp) (N := 5) hx hb hts i_Hmp t_Hmp t_Hmp_ok n_Hmp hown hK.1 hP hD hS 0 rfl rfl 4 (by decide) (hts _ tb_108) (fun _ h9 => h9) rfl hin rfl (by decide +kernel) rfl rfl (Nat.le_of_ble_eq_true rfl) d_Hmp_init_39 (fun H locs hP hD hS => ?_)
  have hP : va_P G.1 classes ([(a, .inr (3, [.ref q1, .ref q2, .ref q3, .ref q4, .ref q5])), (q1, .inl (G.2 0, 4, .inl (fun _ => 0))), (q2, .inl (G.2 0, 4, .inl (fun _ => 0))), (q3, .inl (G.2 0, 12, .inl (fun _ => 0))), (q4, .inl (G.2 0, 12, .inl (fun _ => 0))), (q5, .inl (G.2 0, 12, .inl (fun _ => 0)))]) H := hP
  have hD : va_D A ([(a, .inr (3, [.ref q1, .ref q2, .ref q3, .ref q4, .ref q5])), (q1, .inl (G.2 0, 4, .inl (fun _ => 0))), (q2, .inl (G.2 0, 4, .inl (fun _ => 0))), (q3, .inl (G.2 0, 12, .inl (fun _ => 0))), (q4, .inl (G.2 0, 12, .inl (fun _ => 0))), (q5, .inl (G.2 0, 12, .inl (fun _ => 0)))]) := hD
  refine va_getsN hx hb ((hSK.1.1).narrow hAN) hS hown (va_Nw.use rfl hSK.2.2.1) (fun _ h9 => h9) d_Hmp_init_42 ?_
  refine lv_iconst (v := 0) hx hb d_Hmp_init_45 (by decide) ?_
  refine lv_aload_n hx hb d_Hmp_init_46 rfl (lv_at hl 0 rfl) ?_
  refine va_get (D := G.1) (ci := 3) (v := .ref q1) (C := R_Hmp) (T := F_Hmp) (N := 5) hx hb hts i_Hmp hown hK.1 hP 0 rfl rfl 0 (by decide) (hts _ tb_99) (fun _ h9 => h9) rfl d_Hmp_init_47 ?_
  refine lv_iconst (v := 0) hx hb d_Hmp_init_50 (by decide) ?_
  refine lv_iconst (v := 4) hx hb d_Hmp_init_51 (by decide) ?_
  refine copyT hx hb (hml.trans hl.1.symm) hown (hts _ tb_93) (hts _ tb_95) (hts _ tb_94) (hts _ tb_7) hK.1 hP hD hS (hSK.1.2.narrow hAN) 1 0 rfl rfl (Nat.le_of_ble_eq_true rfl) (Nat.le_of_ble_eq_true rfl) d_Hmp_init_52 (fun H locs hP hD hS => ?_)
  have hP : va_P G.1 classes ([(a, .inr (3, [.ref q1, .ref q2, .ref q3, .ref q4, .ref q5])), (q1, .inl (G.2 0, 4, .inl (va_cpy pfF (fun _ => 0) 0 0 4))), (q2, .inl (G.2 0, 4, .inl (fun _ => 0))), (q3, .inl (G.2 0, 12, .inl (fun _ => 0))), (q4, .inl (G.2 0, 12, .inl (fun _ => 0))), (q5, .inl (G.2 0, 12, .inl (fun _ => 0)))]) H := hP
  have hD : va_D A ([(a, .inr (3, [.ref q1, .ref q2, .ref q3, .ref q4, .ref q5])), (q1, .inl (G.2 0, 4, .inl (va_cpy pfF (fun _ => 0) 0 0 4))), (q2, .inl (G.2 0, 4, .inl (fun _ => 0))), (q3, .inl (G.2 0, 12, .inl (fun _ => 0))), (q4, .inl (G.2 0, 12, .inl (fun _ => 0))), (q5, .inl (G.2 0, 12, .inl (fun _ => 0)))]) := hD
  refine va_getsN hx hb ((hSK.2.1.1).narrow hAN) hS hown (va_Nw.use rfl hSK.2.2.2) (fun _ h9 => h9) d_Hmp_init_55 ?_
  refine lv_iconst (v := 0) hx hb d_Hmp_init_58 (by decide) ?_
  refine lv_aload_n hx hb d_Hmp_init_59 rfl (lv_at hl 0 rfl) ?_
  refine va_get (D := G.1) (ci := 3) (v := .ref q2) (C := R_Hmp) (T := F_Hmp) (N := 5) hx hb hts i_Hmp hown hK.1 hP 0 rfl rfl 1 (by decide) (hts _ tb_102) (fun _ h9 => h9) rfl d_Hmp_init_60 ?_
  refine lv_iconst (v := 0) hx hb d_Hmp_init_63 (by decide) ?_
  refine lv_iconst (v := 4) hx hb d_Hmp_init_64 (by decide) ?_
  refine copyT hx hb (hml.trans hl.1.symm) hown (hts _ tb_93) (hts _ tb_95) (hts _ tb_94) (hts _ tb_7) hK.1 hP hD hS (hSK.2.1.2.narrow hAN) 2 0 rfl rfl (Nat.le_of_ble_eq_true rfl) (Nat.le_of_ble_eq_true rfl) d_Hmp_init_65 (fun H locs hP hD hS => ?_)
  have hP : va_P G.1 classes ([(a, .inr (3, [.ref q1, .ref q2, .ref q3, .ref q4, .ref q5])), (q1, .inl (G.2 0, 4, .inl (va_cpy pfF (fun _ => 0) 0 0 4))), (q2, .inl (G.2 0, 4, .inl (va_cpy sfF (fun _ => 0) 0 0 4))), (q3, .inl (G.2 0, 12, .inl (fun _ => 0))), (q4, .inl (G.2 0, 12, .inl (fun _ => 0))), (q5, .inl (G.2 0, 12, .inl (fun _ => 0)))]) H := hP
  have hD : va_D A ([(a, .inr (3, [.ref q1, .ref q2, .ref q3, .ref q4, .ref q5])), (q1, .inl (G.2 0, 4, .inl (va_cpy pfF (fun _ => 0) 0 0 4))), (q2, .inl (G.2 0, 4, .inl (va_cpy sfF (fun _ => 0) 0 0 4))), (q3, .inl (G.2 0, 12, .inl (fun _ => 0))), (q4, .inl (G.2 0, 12, .inl (fun _ => 0))), (q5, .inl (G.2 0, 12, .inl (fun _ => 0)))]) := hD
  refine lv_aload_n hx hb d_Hmp_init_68 rfl (lv_at hl 0 rfl) ?_
  refine va_get (D := G.1) (ci := 3) (v := .ref q3) (C := R_Hmp) (T := F_Hmp) (N := 5) hx hb hts i_Hmp hown hK.1 hP 0 rfl rfl 2 (by decide) (hts _ tb_104) (fun _ h9 => h9) rfl d_Hmp_init_69 ?_
  refine lv_bipush (v := (-9)) hx hb d_Hmp_init_72 (by decide) ?_
  refine call_Sv (pre := [(a, .inr (3, [.ref q1, .ref q2, .ref q3, .ref q4, .ref q5])), (q1, .inl (G.2 0, 4, .inl (va_cpy pfF (fun _ => 0) 0 0 4))), (q2, .inl (G.2 0, 4, .inl (va_cpy sfF (fun _ => 0) 0 0 4)))]) (wc := arrW G (fun _ => q3) (fun _ => 0)) (post := [(q4, .inl (G.2 0, 12, .inl (fun _ => 0))), (q5, .inl (G.2 0, 12, .inl (fun _ => 0)))]) (Wc := arrW G (fun _ => q3)) (own := "HamperClub$Hampers") (As := [.ref q3, .int (-9)]) (rest := []) hx hb hml hts hown hK hA hP hD hS so_Hmp_39 rfl ⟨Nat.le_of_ble_eq_true rfl, Nat.le_of_ble_eq_true rfl⟩ ⟨Nat.le_of_ble_eq_true rfl, Nat.le_of_ble_eq_true rfl⟩ hl.1 rfl (Nat.le_of_ble_eq_true rfl) d_Hmp_init_74 (c_Arr_fill l G (fun _ => q3) _ (fun _ => 0) (-9) (fun f => f = fun j => if j < 12 then (-9) else 0) (wp_fill rfl)) (fun f9 H locs e9 hP hD hS => ?_)
  subst e9
  have hP : va_P G.1 classes ([(a, .inr (3, [.ref q1, .ref q2, .ref q3, .ref q4, .ref q5])), (q1, .inl (G.2 0, 4, .inl (va_cpy pfF (fun _ => 0) 0 0 4))), (q2, .inl (G.2 0, 4, .inl (va_cpy sfF (fun _ => 0) 0 0 4))), (q3, .inl (G.2 0, 12, .inl (fun j => if j < 12 then (-9) else 0))), (q4, .inl (G.2 0, 12, .inl (fun _ => 0))), (q5, .inl (G.2 0, 12, .inl (fun _ => 0)))]) H := hP
  have hD : va_D A ([(a, .inr (3, [.ref q1, .ref q2, .ref q3, .ref q4, .ref q5])), (q1, .inl (G.2 0, 4, .inl (va_cpy pfF (fun _ => 0) 0 0 4))), (q2, .inl (G.2 0, 4, .inl (va_cpy sfF (fun _ => 0) 0 0 4))), (q3, .inl (G.2 0, 12, .inl (fun j => if j < 12 then (-9) else 0))), (q4, .inl (G.2 0, 12, .inl (fun _ => 0))), (q5, .inl (G.2 0, 12, .inl (fun _ => 0)))]) := hD
  refine lv_aload_n hx hb d_Hmp_init_77 rfl (lv_at hl 0 rfl) ?_
  refine va_get (D := G.1) (ci := 3) (v := .ref q5) (C := R_Hmp) (T := F_Hmp) (N := 5) hx hb hts i_Hmp hown hK.1 hP 0 rfl rfl 4 (by decide) (hts _ tb_108) (fun _ h9 => h9) rfl d_Hmp_init_78 ?_
  refine lv_bipush (v := (-9)) hx hb d_Hmp_init_81 (by decide) ?_
  refine call_Sv (pre := [(a, .inr (3, [.ref q1, .ref q2, .ref q3, .ref q4, .ref q5])), (q1, .inl (G.2 0, 4, .inl (va_cpy pfF (fun _ => 0) 0 0 4))), (q2, .inl (G.2 0, 4, .inl (va_cpy sfF (fun _ => 0) 0 0 4))), (q3, .inl (G.2 0, 12, .inl (fun j => if j < 12 then (-9) else 0))), (q4, .inl (G.2 0, 12, .inl (fun _ => 0)))]) (wc := arrW G (fun _ => q5) (fun _ => 0)) (post := []) (Wc := arrW G (fun _ => q5)) (own := "HamperClub$Hampers") (As := [.ref q5, .int (-9)]) (rest := []) hx hb hml hts hown hK hA hP hD hS so_Hmp_39 rfl ⟨Nat.le_of_ble_eq_true rfl, Nat.le_of_ble_eq_true rfl⟩ ⟨Nat.le_of_ble_eq_true rfl, Nat.le_of_ble_eq_true rfl⟩ hl.1 rfl (Nat.le_of_ble_eq_true rfl) d_Hmp_init_83 (c_Arr_fill l G (fun _ => q5) _ (fun _ => 0) (-9) (fun f => f = fun j => if j < 12 then (-9) else 0) (wp_fill rfl)) (fun f9 H locs e9 hP hD hS => ?_)
  subst e9
  have hP : va_P G.1 classes ([(a, .inr (3, [.ref q1, .ref q2, .ref q3, .ref q4, .ref q5])), (q1, .inl (G.2 0, 4, .inl (va_cpy pfF (fun _ => 0) 0 0 4))), (q2, .inl (G.2 0, 4, .inl (va_cpy sfF (fun _ => 0) 0 0 4))), (q3, .inl (G.2 0, 12, .inl (fun j => if j < 12 then (-9) else 0))), (q4, .inl (G.2 0, 12, .inl (fun _ => 0))), (q5, .inl (G.2 0, 12, .inl (fun j => if j < 12 then (-9) else 0)))]) H := hP
  have hD : va_D A ([(a, .inr (3, [.ref q1, .ref q2, .ref q3, .ref q4, .ref q5])), (q1, .inl (G.2 0, 4, .inl (va_cpy pfF (fun _ => 0) 0 0 4))), (q2, .inl (G.2 0, 4, .inl (va_cpy sfF (fun _ => 0) 0 0 4))), (q3, .inl (G.2 0, 12, .inl (fun j => if j < 12 then (-9) else 0))), (q4, .inl (G.2 0, 12, .inl (fun _ => 0))), (q5, .inl (G.2 0, 12, .inl (fun j => if j < 12 then (-9) else 0)))]) := hD
  refine W.widen (k := 5) (n := 44) (Nat.le_of_ble_eq_true rfl) (Nat.le_of_ble_eq_true rfl) ?_
  exact r_cret (u := (fun i => [a, q1, q2, q3, q4, q5].getD i 0)) hx hb hr hlocks hP hD hS d_Hmp_init_86 rfl
set_option maxHeartbeats 4000000 in
set_option maxRecDepth 100000 in
theorem c_Ord_init (l : Launch) (G : GG) (N0 tp ts : Nat) (a sz : Nat) : CMc l y_Ord_init b_Ord_init 1 1 1 100 G N0 tp ts [.ref a] sz ([(a, .inr (5, [.null, .int 0, .int 0, .int 0, .int 0, .int 0]))]) (fun u => ordW G u ord0) (fun u => u 0 = a) := by
  refine CMc.start (by decide) (Nat.le_of_ble_eq_true rfl) (fun p e s m below meth c A ls hx hb hr hts hown hml hlocks hA hS hP hD hK hl hSK hAN hin => ?_)
  have hl : lv_has ls 1 [(0, .ref a)] := hl
  refine lv_aload_n hx hb d_Ord_init_0 rfl (lv_at hl 0 rfl) ?_
  refine W.objInit hx hb hown (hts _ tb_229) (hts _ tb_21) (hts _ tb_22) rfl (by rw [hml]; exact hl.1) rfl d_Ord_init_1 (Nat.le_of_ble_eq_true rfl) (Nat.le_of_ble_eq_true rfl) ?_
  refine W.eq (g2 := F0 m 4 ls []) rfl ?_
  refine lv_aload_n hx hb d_Ord_init_4 rfl (lv_at hl 0 rfl) ?_
  refine lv_bipush (v := 100) hx hb d_Ord_init_5 (by decide) ?_
  refine va_newa (atype := .int) hx hb (hts _ tb_83) rfl hK.1 hP hD hS hA (N' := 100) (a0 := (100, .inl (fun _ => 0))) (fun cA => rfl) (by decide) (by decide) (by decide) (Nat.le_of_ble_eq_true rfl) (Nat.le_of_ble_eq_true rfl) d_Ord_init_7 (fun q1 cA H hK1 hP hD hS => ?_)
  obtain rfl := newK (t0 := 0) (Or.inl rfl) hK.1 hK1 rfl
  have hP : va_P G.1 classes ([(a, .inr (5, [.null, .int 0, .int 0, .int 0, .int 0, .int 0])), (q1, .inl (G.2 0, 100, .inl (fun _ => 0)))]) H := hP
  have hD : va_D A ([(a, .inr (5, [.null, .int 0, .int 0, .int 0, .int 0, .int 0])), (q1, .inl (G.2 0, 100, .inl (fun _ => 0)))]) := hD
  refine W.widen (k := 1) (n := 100) (Nat.le_of_ble_eq_true rfl) (Nat.le_of_ble_eq_true rfl) ?_
  refine va_putF (D := G.1) (ci := 5) (v := .ref q1) (ty := .array .int) (C := R_Ord) (T := F_Ord) (N := 6) hx hb hts i_Ord t_Ord t_Ord_ok n_Ord hown hK.1 hP hD hS 0 rfl rfl 0 (by decide) (hts _ tb_230) (fun _ h9 => h9) rfl hin rfl (by decide +kernel) rfl rfl (Nat.le_of_ble_eq_true rfl) d_Ord_init_9 (fun H locs hP hD hS => ?_)
  have hP : va_P G.1 classes ([(a, .inr (5, [.ref q1, .int 0, .int 0, .int 0, .int 0, .int 0])), (q1, .inl (G.2 0, 100, .inl (fun _ => 0)))]) H := hP
  have hD : va_D A ([(a, .inr (5, [.ref q1, .int 0, .int 0, .int 0, .int 0, .int 0])), (q1, .inl (G.2 0, 100, .inl (fun _ => 0)))]) := hD
  refine W.widen (k := 1) (n := 100) (Nat.le_of_ble_eq_true rfl) (Nat.le_of_ble_eq_true rfl) ?_
  exact r_cret (u := (fun i => [a, q1].getD i 0)) hx hb hr hlocks hP hD hS d_Ord_init_12 rfl
