/-! The constructors. -/
theorem wl_fill {Post K : (Nat → Int32) → Prop} {v : Int32} : ∀ (n i : Nat) (f : Nat → Int32), i ≤ 12 → 12 - i < n → K (fun j => if i ≤ j ∧ j < 12 then v else f j) → wl_Arr_fill_5 Post K n v (nI i) 12 f := by
  intro n
  induction n with
  | zero => intro i f h1 h2; omega
  | succ n ih =>
    intro i f h1 h2 hk
    unfold wl_Arr_fill_5
    refine ⟨fun hc => ?_, fun hc => ⟨?_, ?_⟩⟩
    · have h3 : ¬ i < 12 := fun q => absurd hc (nI_ge (b := 12) q (by omega))
      have e : (fun j => if i ≤ j ∧ j < 12 then v else f j) = f := by
        funext j
        rw [if_neg (by omega)]
      rw [e] at hk
      exact hk
    · have h3 : i < 12 := Nat.not_le.mp (fun q => hc (nI_le (a := 12) q (by omega)))
      exact vp_in_nI h3 (by omega)
    · have h3 : i < 12 := Nat.not_le.mp (fun q => hc (nI_le (a := 12) q (by omega)))
      intro u2 e2 x3 e3
      rw [e3, nI_1]
      refine ih (i + 1) u2 (by omega) (by omega) ?_
      have e : (fun j => if i + 1 ≤ j ∧ j < 12 then v else u2 j) = (fun j => if i ≤ j ∧ j < 12 then v else f j) := by
        funext j
        rw [e2, nI_clamp (by omega)]
        simp only [upd]
        by_cases hj : j = i
        · subst hj
          simp [h3]
        · by_cases h4 : i + 1 ≤ j ∧ j < 12
          · rw [if_pos h4, if_pos (by omega)]
          · have h5 : ¬ (i ≤ j ∧ j < 12) := by omega
            simp [h4, h5, hj]
      rw [e]
      exact hk
theorem wp_fill {Post : (Nat → Int32) → Prop} {v : Int32} (h : Post (fun j => if j < 12 then v else 0)) : wp_Arr_fill (fun _ => 0) v Post := by
  refine ⟨13, ?_⟩
  have := wl_fill (Post := Post) (K := fun u4 => Post u4) (v := v) 13 0 (fun _ => 0) (by omega) (by omega) (by simpa using h)
  exact this
def fillF : Nat → Int32 := fun j => if j < 12 then (-9) else 0
def prF : Nat → Int32 := va_cpy pfF (fun _ => 0) 0 0 4
def skF : Nat → Int32 := va_cpy sfF (fun _ => 0) 0 0 4
def club0 : CS := (fun _ => 0, fun k => if k = 6 then fillF else if k = 7 then prF else if k = 8 then skF else if k = 9 then fillF else if k = 11 then fillF else fun _ => 0, fun _ => 0)
def crdW0 (G : GG) (ad : Nat → Nat) : va_W := [(ad 0, .inr (1, [.int (club0.1 4), .ref (ad 1), .ref (ad 2), .ref (ad 3), .ref (ad 4), .ref (ad 5), .ref (ad 6), .ref (ad 7), .ref (ad 8)])), (ad 1, .inl (G.2 0, 12, .inl (club0.2.1 0))), (ad 2, .inl (G.2 0, 12, .inl (club0.2.1 1))), (ad 3, .inl (G.2 0, 12, .inl (club0.2.1 2))), (ad 4, .inl (G.2 0, 12, .inl (club0.2.1 3))), (ad 5, .inl (G.2 0, 12, .inl (club0.2.1 4))), (ad 6, .inl (G.2 0, 12, .inl (club0.2.1 5))), (ad 7, .inl (G.2 1, 12, .inr (.inl (club0.2.2)))), (ad 8, .inl (G.2 0, 12, .inl (club0.2.1 6)))]
def hmpW0 (G : GG) (ad : Nat → Nat) : va_W := [(ad 0, .inr (3, [.ref (ad 1), .ref (ad 2), .ref (ad 3), .ref (ad 4), .ref (ad 5)])), (ad 1, .inl (G.2 0, 4, .inl (club0.2.1 7))), (ad 2, .inl (G.2 0, 4, .inl (club0.2.1 8))), (ad 3, .inl (G.2 0, 12, .inl (club0.2.1 9))), (ad 4, .inl (G.2 0, 12, .inl (club0.2.1 10))), (ad 5, .inl (G.2 0, 12, .inl (club0.2.1 11)))]
def accW0 (G : GG) (ad : Nat → Nat) : va_W := [(ad 0, .inr (0, [.int (club0.1 5), .int (club0.1 6), .int (club0.1 7), .int (club0.1 8), .int (club0.1 9)]))]
def ord0 : OS := (fun _ => 0, fun _ => 0)
def st0 : SS := (club0, 0, club0, 0, club0)
set_option maxHeartbeats 4000000 in
set_option maxRecDepth 100000 in
theorem c_Acc_init (l : Launch) (G : GG) (N0 tp ts : Nat) (a sz : Nat) : CMc l y_Acc_init b_Acc_init 1 1 0 0 G N0 tp ts [.ref a] sz ([(a, .inr (0, [.int 0, .int 0, .int 0, .int 0, .int 0]))]) (accW0 G) (fun u => u 0 = a) := by
  refine CMc.start (by decide) (Nat.le_of_ble_eq_true rfl) (fun p e s m below meth c A ls hx hb hr hts hown hml hlocks hA hS hP hD hK hl hSK hAN hin => ?_)
  have hl : lv_has ls 1 [(0, .ref a)] := hl
  refine lv_aload_n hx hb d_Acc_init_0 rfl (lv_at hl 0 rfl) ?_
  refine W.objInit hx hb hown (hts _ tb_126) (hts _ tb_20) (hts _ tb_21) rfl (by rw [hml]; exact hl.1) rfl d_Acc_init_1 (Nat.le_of_ble_eq_true rfl) (Nat.le_of_ble_eq_true rfl) ?_
  refine W.eq (g2 := F0 m 4 ls []) rfl ?_
  refine W.widen (k := 0) (n := 0) (Nat.le_of_ble_eq_true rfl) (Nat.le_of_ble_eq_true rfl) ?_
  exact r_cret (u := (fun i => [a].getD i 0)) hx hb hr hlocks hP hD hS d_Acc_init_4 rfl
theorem so_Crd_37 : StOk y_Arr_fill b_Arr_fill 4 none 2 "HamperClub$Cards" 37 := ⟨tb_40, tb_41, tb_5, tb_42, by decide +kernel⟩
set_option maxHeartbeats 4000000 in
set_option maxRecDepth 100000 in
theorem c_Crd_init (l : Launch) (G : GG) (N0 tp ts : Nat) (a sz : Nat) : CMc l y_Crd_init b_Crd_init 1 1 8 96 G N0 tp ts [.ref a] sz ([(a, .inr (1, [.int 0, .null, .null, .null, .null, .null, .null, .null, .null]))]) (crdW0 G) (fun u => u 0 = a) := by
  refine CMc.start (by decide) (Nat.le_of_ble_eq_true rfl) (fun p e s m below meth c A ls hx hb hr hts hown hml hlocks hA hS hP hD hK hl hSK hAN hin => ?_)
  have hl : lv_has ls 1 [(0, .ref a)] := hl
  refine lv_aload_n hx hb d_Crd_init_0 rfl (lv_at hl 0 rfl) ?_
  refine W.objInit hx hb hown (hts _ tb_39) (hts _ tb_20) (hts _ tb_21) rfl (by rw [hml]; exact hl.1) rfl d_Crd_init_1 (Nat.le_of_ble_eq_true rfl) (Nat.le_of_ble_eq_true rfl) ?_
  refine W.eq (g2 := F0 m 4 ls []) rfl ?_
  refine lv_aload_n hx hb d_Crd_init_4 rfl (lv_at hl 0 rfl) ?_
  refine lv_bipush (v := 12) hx hb d_Crd_init_5 (by decide) ?_
  refine va_newa (atype := .int) hx hb (hts _ tb_82) rfl hK.1 hP hD hS hA (N' := 12) (a0 := (12, .inl (fun _ => 0))) (fun cA => rfl) (by decide) (by decide) (by decide) (Nat.le_of_ble_eq_true rfl) (Nat.le_of_ble_eq_true rfl) d_Crd_init_7 (fun q1 cA H hK1 hP hD hS => ?_)
  obtain rfl := newK (t0 := 0) (Or.inl rfl) hK.1 hK1 rfl
  have hP : va_P G.1 classes ([(a, .inr (1, [.int 0, .null, .null, .null, .null, .null, .null, .null, .null])), (q1, .inl (G.2 0, 12, .inl (fun _ => 0)))]) H := hP
  have hD : va_D A ([(a, .inr (1, [.int 0, .null, .null, .null, .null, .null, .null, .null, .null])), (q1, .inl (G.2 0, 12, .inl (fun _ => 0)))]) := hD
  refine W.widen (k := 1) (n := 12) (Nat.le_of_ble_eq_true rfl) (Nat.le_of_ble_eq_true rfl) ?_
  refine va_putF (D := G.1) (ci := 1) (v := .ref q1) (ty := .array .int) (C := R_Crd) (T := F_Crd) (N := 9) hx hb hts i_Crd t_Crd t_Crd_ok n_Crd hown hK.1 hP hD hS 0 rfl rfl 1 (by decide) (hts _ tb_45) (fun _ h9 => h9) rfl hin rfl (by decide +kernel) rfl rfl (Nat.le_of_ble_eq_true rfl) d_Crd_init_9 (fun H locs hP hD hS => ?_)
  have hP : va_P G.1 classes ([(a, .inr (1, [.int 0, .ref q1, .null, .null, .null, .null, .null, .null, .null])), (q1, .inl (G.2 0, 12, .inl (fun _ => 0)))]) H := hP
  have hD : va_D A ([(a, .inr (1, [.int 0, .ref q1, .null, .null, .null, .null, .null, .null, .null])), (q1, .inl (G.2 0, 12, .inl (fun _ => 0)))]) := hD
  refine lv_aload_n hx hb d_Crd_init_12 rfl (lv_at hl 0 rfl) ?_
  refine lv_bipush (v := 12) hx hb d_Crd_init_13 (by decide) ?_
  refine va_newa (atype := .int) hx hb (hts _ tb_82) rfl hK.1 hP hD hS hA (N' := 12) (a0 := (12, .inl (fun _ => 0))) (fun cA => rfl) (by decide) (by decide) (by decide) (Nat.le_of_ble_eq_true rfl) (Nat.le_of_ble_eq_true rfl) d_Crd_init_15 (fun q2 cA H hK1 hP hD hS => ?_)
  obtain rfl := newK (t0 := 0) (Or.inl rfl) hK.1 hK1 rfl
  have hP : va_P G.1 classes ([(a, .inr (1, [.int 0, .ref q1, .null, .null, .null, .null, .null, .null, .null])), (q1, .inl (G.2 0, 12, .inl (fun _ => 0))), (q2, .inl (G.2 0, 12, .inl (fun _ => 0)))]) H := hP
  have hD : va_D A ([(a, .inr (1, [.int 0, .ref q1, .null, .null, .null, .null, .null, .null, .null])), (q1, .inl (G.2 0, 12, .inl (fun _ => 0))), (q2, .inl (G.2 0, 12, .inl (fun _ => 0)))]) := hD
  refine W.widen (k := 2) (n := 24) (Nat.le_of_ble_eq_true rfl) (Nat.le_of_ble_eq_true rfl) ?_
  refine va_putF (D := G.1) (ci := 1) (v := .ref q2) (ty := .array .int) (C := R_Crd) (T := F_Crd) (N := 9) hx hb hts i_Crd t_Crd t_Crd_ok n_Crd hown hK.1 hP hD hS 0 rfl rfl 2 (by decide) (hts _ tb_48) (fun _ h9 => h9) rfl hin rfl (by decide +kernel) rfl rfl (Nat.le_of_ble_eq_true rfl) d_Crd_init_17 (fun H locs hP hD hS => ?_)
  have hP : va_P G.1 classes ([(a, .inr (1, [.int 0, .ref q1, .ref q2, .null, .null, .null, .null, .null, .null])), (q1, .inl (G.2 0, 12, .inl (fun _ => 0))), (q2, .inl (G.2 0, 12, .inl (fun _ => 0)))]) H := hP
  have hD : va_D A ([(a, .inr (1, [.int 0, .ref q1, .ref q2, .null, .null, .null, .null, .null, .null])), (q1, .inl (G.2 0, 12, .inl (fun _ => 0))), (q2, .inl (G.2 0, 12, .inl (fun _ => 0)))]) := hD
  refine lv_aload_n hx hb d_Crd_init_20 rfl (lv_at hl 0 rfl) ?_
  refine lv_bipush (v := 12) hx hb d_Crd_init_21 (by decide) ?_
  refine va_newa (atype := .int) hx hb (hts _ tb_82) rfl hK.1 hP hD hS hA (N' := 12) (a0 := (12, .inl (fun _ => 0))) (fun cA => rfl) (by decide) (by decide) (by decide) (Nat.le_of_ble_eq_true rfl) (Nat.le_of_ble_eq_true rfl) d_Crd_init_23 (fun q3 cA H hK1 hP hD hS => ?_)
  obtain rfl := newK (t0 := 0) (Or.inl rfl) hK.1 hK1 rfl
  have hP : va_P G.1 classes ([(a, .inr (1, [.int 0, .ref q1, .ref q2, .null, .null, .null, .null, .null, .null])), (q1, .inl (G.2 0, 12, .inl (fun _ => 0))), (q2, .inl (G.2 0, 12, .inl (fun _ => 0))), (q3, .inl (G.2 0, 12, .inl (fun _ => 0)))]) H := hP
  have hD : va_D A ([(a, .inr (1, [.int 0, .ref q1, .ref q2, .null, .null, .null, .null, .null, .null])), (q1, .inl (G.2 0, 12, .inl (fun _ => 0))), (q2, .inl (G.2 0, 12, .inl (fun _ => 0))), (q3, .inl (G.2 0, 12, .inl (fun _ => 0)))]) := hD
  refine W.widen (k := 3) (n := 36) (Nat.le_of_ble_eq_true rfl) (Nat.le_of_ble_eq_true rfl) ?_
  refine va_putF (D := G.1) (ci := 1) (v := .ref q3) (ty := .array .int) (C := R_Crd) (T := F_Crd) (N := 9) hx hb hts i_Crd t_Crd t_Crd_ok n_Crd hown hK.1 hP hD hS 0 rfl rfl 3 (by decide) (hts _ tb_50) (fun _ h9 => h9) rfl hin rfl (by decide +kernel) rfl rfl (Nat.le_of_ble_eq_true rfl) d_Crd_init_25 (fun H locs hP hD hS => ?_)
  have hP : va_P G.1 classes ([(a, .inr (1, [.int 0, .ref q1, .ref q2, .ref q3, .null, .null, .null, .null, .null])), (q1, .inl (G.2 0, 12, .inl (fun _ => 0))), (q2, .inl (G.2 0, 12, .inl (fun _ => 0))), (q3, .inl (G.2 0, 12, .inl (fun _ => 0)))]) H := hP
  have hD : va_D A ([(a, .inr (1, [.int 0, .ref q1, .ref q2, .ref q3, .null, .null, .null, .null, .null])), (q1, .inl (G.2 0, 12, .inl (fun _ => 0))), (q2, .inl (G.2 0, 12, .inl (fun _ => 0))), (q3, .inl (G.2 0, 12, .inl (fun _ => 0)))]) := hD
  refine lv_aload_n hx hb d_Crd_init_28 rfl (lv_at hl 0 rfl) ?_
  refine lv_bipush (v := 12) hx hb d_Crd_init_29 (by decide) ?_
  refine va_newa (atype := .int) hx hb (hts _ tb_82) rfl hK.1 hP hD hS hA (N' := 12) (a0 := (12, .inl (fun _ => 0))) (fun cA => rfl) (by decide) (by decide) (by decide) (Nat.le_of_ble_eq_true rfl) (Nat.le_of_ble_eq_true rfl) d_Crd_init_31 (fun q4 cA H hK1 hP hD hS => ?_)
  obtain rfl := newK (t0 := 0) (Or.inl rfl) hK.1 hK1 rfl
  have hP : va_P G.1 classes ([(a, .inr (1, [.int 0, .ref q1, .ref q2, .ref q3, .null, .null, .null, .null, .null])), (q1, .inl (G.2 0, 12, .inl (fun _ => 0))), (q2, .inl (G.2 0, 12, .inl (fun _ => 0))), (q3, .inl (G.2 0, 12, .inl (fun _ => 0))), (q4, .inl (G.2 0, 12, .inl (fun _ => 0)))]) H := hP
  have hD : va_D A ([(a, .inr (1, [.int 0, .ref q1, .ref q2, .ref q3, .null, .null, .null, .null, .null])), (q1, .inl (G.2 0, 12, .inl (fun _ => 0))), (q2, .inl (G.2 0, 12, .inl (fun _ => 0))), (q3, .inl (G.2 0, 12, .inl (fun _ => 0))), (q4, .inl (G.2 0, 12, .inl (fun _ => 0)))]) := hD
  refine W.widen (k := 4) (n := 48) (Nat.le_of_ble_eq_true rfl) (Nat.le_of_ble_eq_true rfl) ?_
  refine va_putF (D := G.1) (ci := 1) (v := .ref q4) (ty := .array .int) (C := R_Crd) (T := F_Crd) (N := 9) hx hb hts i_Crd t_Crd t_Crd_ok n_Crd hown hK.1 hP hD hS 0 rfl rfl 4 (by decide) (hts _ tb_52) (fun _ h9 => h9) rfl hin rfl (by decide +kernel) rfl rfl (Nat.le_of_ble_eq_true rfl) d_Crd_init_33 (fun H locs hP hD hS => ?_)
  have hP : va_P G.1 classes ([(a, .inr (1, [.int 0, .ref q1, .ref q2, .ref q3, .ref q4, .null, .null, .null, .null])), (q1, .inl (G.2 0, 12, .inl (fun _ => 0))), (q2, .inl (G.2 0, 12, .inl (fun _ => 0))), (q3, .inl (G.2 0, 12, .inl (fun _ => 0))), (q4, .inl (G.2 0, 12, .inl (fun _ => 0)))]) H := hP
  have hD : va_D A ([(a, .inr (1, [.int 0, .ref q1, .ref q2, .ref q3, .ref q4, .null, .null, .null, .null])), (q1, .inl (G.2 0, 12, .inl (fun _ => 0))), (q2, .inl (G.2 0, 12, .inl (fun _ => 0))), (q3, .inl (G.2 0, 12, .inl (fun _ => 0))), (q4, .inl (G.2 0, 12, .inl (fun _ => 0)))]) := hD
  refine lv_aload_n hx hb d_Crd_init_36 rfl (lv_at hl 0 rfl) ?_
  refine lv_bipush (v := 12) hx hb d_Crd_init_37 (by decide) ?_
  refine va_newa (atype := .int) hx hb (hts _ tb_82) rfl hK.1 hP hD hS hA (N' := 12) (a0 := (12, .inl (fun _ => 0))) (fun cA => rfl) (by decide) (by decide) (by decide) (Nat.le_of_ble_eq_true rfl) (Nat.le_of_ble_eq_true rfl) d_Crd_init_39 (fun q5 cA H hK1 hP hD hS => ?_)
  obtain rfl := newK (t0 := 0) (Or.inl rfl) hK.1 hK1 rfl
  have hP : va_P G.1 classes ([(a, .inr (1, [.int 0, .ref q1, .ref q2, .ref q3, .ref q4, .null, .null, .null, .null])), (q1, .inl (G.2 0, 12, .inl (fun _ => 0))), (q2, .inl (G.2 0, 12, .inl (fun _ => 0))), (q3, .inl (G.2 0, 12, .inl (fun _ => 0))), (q4, .inl (G.2 0, 12, .inl (fun _ => 0))), (q5, .inl (G.2 0, 12, .inl (fun _ => 0)))]) H := hP
  have hD : va_D A ([(a, .inr (1, [.int 0, .ref q1, .ref q2, .ref q3, .ref q4, .null, .null, .null, .null])), (q1, .inl (G.2 0, 12, .inl (fun _ => 0))), (q2, .inl (G.2 0, 12, .inl (fun _ => 0))), (q3, .inl (G.2 0, 12, .inl (fun _ => 0))), (q4, .inl (G.2 0, 12, .inl (fun _ => 0))), (q5, .inl (G.2 0, 12, .inl (fun _ => 0)))]) := hD
  refine W.widen (k := 5) (n := 60) (Nat.le_of_ble_eq_true rfl) (Nat.le_of_ble_eq_true rfl) ?_
  refine va_putF (D := G.1) (ci := 1) (v := .ref q5) (ty := .array .int) (C := R_Crd) (T := F_Crd) (N := 9) hx hb hts i_Crd t_Crd t_Crd_ok n_Crd hown hK.1 hP hD hS 0 rfl rfl 5 (by decide) (hts _ tb_54) (fun _ h9 => h9) rfl hin rfl (by decide +kernel) rfl rfl (Nat.le_of_ble_eq_true rfl) d_Crd_init_41 (fun H locs hP hD hS => ?_)
  have hP : va_P G.1 classes ([(a, .inr (1, [.int 0, .ref q1, .ref q2, .ref q3, .ref q4, .ref q5, .null, .null, .null])), (q1, .inl (G.2 0, 12, .inl (fun _ => 0))), (q2, .inl (G.2 0, 12, .inl (fun _ => 0))), (q3, .inl (G.2 0, 12, .inl (fun _ => 0))), (q4, .inl (G.2 0, 12, .inl (fun _ => 0))), (q5, .inl (G.2 0, 12, .inl (fun _ => 0)))]) H := hP
  have hD : va_D A ([(a, .inr (1, [.int 0, .ref q1, .ref q2, .ref q3, .ref q4, .ref q5, .null, .null, .null])), (q1, .inl (G.2 0, 12, .inl (fun _ => 0))), (q2, .inl (G.2 0, 12, .inl (fun _ => 0))), (q3, .inl (G.2 0, 12, .inl (fun _ => 0))), (q4, .inl (G.2 0, 12, .inl (fun _ => 0))), (q5, .inl (G.2 0, 12, .inl (fun _ => 0)))]) := hD
  refine lv_aload_n hx hb d_Crd_init_44 rfl (lv_at hl 0 rfl) ?_
  refine lv_bipush (v := 12) hx hb d_Crd_init_45 (by decide) ?_
  refine va_newa (atype := .int) hx hb (hts _ tb_82) rfl hK.1 hP hD hS hA (N' := 12) (a0 := (12, .inl (fun _ => 0))) (fun cA => rfl) (by decide) (by decide) (by decide) (Nat.le_of_ble_eq_true rfl) (Nat.le_of_ble_eq_true rfl) d_Crd_init_47 (fun q6 cA H hK1 hP hD hS => ?_)
  obtain rfl := newK (t0 := 0) (Or.inl rfl) hK.1 hK1 rfl
  have hP : va_P G.1 classes ([(a, .inr (1, [.int 0, .ref q1, .ref q2, .ref q3, .ref q4, .ref q5, .null, .null, .null])), (q1, .inl (G.2 0, 12, .inl (fun _ => 0))), (q2, .inl (G.2 0, 12, .inl (fun _ => 0))), (q3, .inl (G.2 0, 12, .inl (fun _ => 0))), (q4, .inl (G.2 0, 12, .inl (fun _ => 0))), (q5, .inl (G.2 0, 12, .inl (fun _ => 0))), (q6, .inl (G.2 0, 12, .inl (fun _ => 0)))]) H := hP
  have hD : va_D A ([(a, .inr (1, [.int 0, .ref q1, .ref q2, .ref q3, .ref q4, .ref q5, .null, .null, .null])), (q1, .inl (G.2 0, 12, .inl (fun _ => 0))), (q2, .inl (G.2 0, 12, .inl (fun _ => 0))), (q3, .inl (G.2 0, 12, .inl (fun _ => 0))), (q4, .inl (G.2 0, 12, .inl (fun _ => 0))), (q5, .inl (G.2 0, 12, .inl (fun _ => 0))), (q6, .inl (G.2 0, 12, .inl (fun _ => 0)))]) := hD
  refine W.widen (k := 6) (n := 72) (Nat.le_of_ble_eq_true rfl) (Nat.le_of_ble_eq_true rfl) ?_
  refine va_putF (D := G.1) (ci := 1) (v := .ref q6) (ty := .array .int) (C := R_Crd) (T := F_Crd) (N := 9) hx hb hts i_Crd t_Crd t_Crd_ok n_Crd hown hK.1 hP hD hS 0 rfl rfl 6 (by decide) (hts _ tb_57) (fun _ h9 => h9) rfl hin rfl (by decide +kernel) rfl rfl (Nat.le_of_ble_eq_true rfl) d_Crd_init_49 (fun H locs hP hD hS => ?_)
  have hP : va_P G.1 classes ([(a, .inr (1, [.int 0, .ref q1, .ref q2, .ref q3, .ref q4, .ref q5, .ref q6, .null, .null])), (q1, .inl (G.2 0, 12, .inl (fun _ => 0))), (q2, .inl (G.2 0, 12, .inl (fun _ => 0))), (q3, .inl (G.2 0, 12, .inl (fun _ => 0))), (q4, .inl (G.2 0, 12, .inl (fun _ => 0))), (q5, .inl (G.2 0, 12, .inl (fun _ => 0))), (q6, .inl (G.2 0, 12, .inl (fun _ => 0)))]) H := hP
  have hD : va_D A ([(a, .inr (1, [.int 0, .ref q1, .ref q2, .ref q3, .ref q4, .ref q5, .ref q6, .null, .null])), (q1, .inl (G.2 0, 12, .inl (fun _ => 0))), (q2, .inl (G.2 0, 12, .inl (fun _ => 0))), (q3, .inl (G.2 0, 12, .inl (fun _ => 0))), (q4, .inl (G.2 0, 12, .inl (fun _ => 0))), (q5, .inl (G.2 0, 12, .inl (fun _ => 0))), (q6, .inl (G.2 0, 12, .inl (fun _ => 0)))]) := hD
  refine lv_aload_n hx hb d_Crd_init_52 rfl (lv_at hl 0 rfl) ?_
  refine lv_bipush (v := 12) hx hb d_Crd_init_53 (by decide) ?_
  refine va_newa (atype := .long) hx hb (hts _ tb_83) rfl hK.1 hP hD hS hA (N' := 12) (a0 := (12, .inr (.inl (fun _ => 0)))) (fun cA => rfl) (by decide) (by decide) (by decide) (Nat.le_of_ble_eq_true rfl) (Nat.le_of_ble_eq_true rfl) d_Crd_init_55 (fun q7 cA H hK1 hP hD hS => ?_)
  obtain rfl := newK (t0 := 1) (Or.inr (Or.inl rfl)) hK.1 hK1 rfl
  have hP : va_P G.1 classes ([(a, .inr (1, [.int 0, .ref q1, .ref q2, .ref q3, .ref q4, .ref q5, .ref q6, .null, .null])), (q1, .inl (G.2 0, 12, .inl (fun _ => 0))), (q2, .inl (G.2 0, 12, .inl (fun _ => 0))), (q3, .inl (G.2 0, 12, .inl (fun _ => 0))), (q4, .inl (G.2 0, 12, .inl (fun _ => 0))), (q5, .inl (G.2 0, 12, .inl (fun _ => 0))), (q6, .inl (G.2 0, 12, .inl (fun _ => 0))), (q7, .inl (G.2 1, 12, .inr (.inl (fun _ => 0))))]) H := hP
  have hD : va_D A ([(a, .inr (1, [.int 0, .ref q1, .ref q2, .ref q3, .ref q4, .ref q5, .ref q6, .null, .null])), (q1, .inl (G.2 0, 12, .inl (fun _ => 0))), (q2, .inl (G.2 0, 12, .inl (fun _ => 0))), (q3, .inl (G.2 0, 12, .inl (fun _ => 0))), (q4, .inl (G.2 0, 12, .inl (fun _ => 0))), (q5, .inl (G.2 0, 12, .inl (fun _ => 0))), (q6, .inl (G.2 0, 12, .inl (fun _ => 0))), (q7, .inl (G.2 1, 12, .inr (.inl (fun _ => 0))))]) := hD
  refine W.widen (k := 7) (n := 84) (Nat.le_of_ble_eq_true rfl) (Nat.le_of_ble_eq_true rfl) ?_
  refine va_putF (D := G.1) (ci := 1) (v := .ref q7) (ty := .array .long) (C := R_Crd) (T := F_Crd) (N := 9) hx hb hts i_Crd t_Crd t_Crd_ok n_Crd hown hK.1 hP hD hS 0 rfl rfl 7 (by decide) (hts _ tb_59) (fun _ h9 => h9) rfl hin rfl (by decide +kernel) rfl rfl (Nat.le_of_ble_eq_true rfl) d_Crd_init_57 (fun H locs hP hD hS => ?_)
  have hP : va_P G.1 classes ([(a, .inr (1, [.int 0, .ref q1, .ref q2, .ref q3, .ref q4, .ref q5, .ref q6, .ref q7, .null])), (q1, .inl (G.2 0, 12, .inl (fun _ => 0))), (q2, .inl (G.2 0, 12, .inl (fun _ => 0))), (q3, .inl (G.2 0, 12, .inl (fun _ => 0))), (q4, .inl (G.2 0, 12, .inl (fun _ => 0))), (q5, .inl (G.2 0, 12, .inl (fun _ => 0))), (q6, .inl (G.2 0, 12, .inl (fun _ => 0))), (q7, .inl (G.2 1, 12, .inr (.inl (fun _ => 0))))]) H := hP
  have hD : va_D A ([(a, .inr (1, [.int 0, .ref q1, .ref q2, .ref q3, .ref q4, .ref q5, .ref q6, .ref q7, .null])), (q1, .inl (G.2 0, 12, .inl (fun _ => 0))), (q2, .inl (G.2 0, 12, .inl (fun _ => 0))), (q3, .inl (G.2 0, 12, .inl (fun _ => 0))), (q4, .inl (G.2 0, 12, .inl (fun _ => 0))), (q5, .inl (G.2 0, 12, .inl (fun _ => 0))), (q6, .inl (G.2 0, 12, .inl (fun _ => 0))), (q7, .inl (G.2 1, 12, .inr (.inl (fun _ => 0))))]) := hD
  refine lv_aload_n hx hb d_Crd_init_60 rfl (lv_at hl 0 rfl) ?_
  refine lv_bipush (v := 12) hx hb d_Crd_init_61 (by decide) ?_
  refine va_newa (atype := .int) hx hb (hts _ tb_82) rfl hK.1 hP hD hS hA (N' := 12) (a0 := (12, .inl (fun _ => 0))) (fun cA => rfl) (by decide) (by decide) (by decide) (Nat.le_of_ble_eq_true rfl) (Nat.le_of_ble_eq_true rfl) d_Crd_init_63 (fun q8 cA H hK1 hP hD hS => ?_)
  obtain rfl := newK (t0 := 0) (Or.inl rfl) hK.1 hK1 rfl
  have hP : va_P G.1 classes ([(a, .inr (1, [.int 0, .ref q1, .ref q2, .ref q3, .ref q4, .ref q5, .ref q6, .ref q7, .null])), (q1, .inl (G.2 0, 12, .inl (fun _ => 0))), (q2, .inl (G.2 0, 12, .inl (fun _ => 0))), (q3, .inl (G.2 0, 12, .inl (fun _ => 0))), (q4, .inl (G.2 0, 12, .inl (fun _ => 0))), (q5, .inl (G.2 0, 12, .inl (fun _ => 0))), (q6, .inl (G.2 0, 12, .inl (fun _ => 0))), (q7, .inl (G.2 1, 12, .inr (.inl (fun _ => 0)))), (q8, .inl (G.2 0, 12, .inl (fun _ => 0)))]) H := hP
  have hD : va_D A ([(a, .inr (1, [.int 0, .ref q1, .ref q2, .ref q3, .ref q4, .ref q5, .ref q6, .ref q7, .null])), (q1, .inl (G.2 0, 12, .inl (fun _ => 0))), (q2, .inl (G.2 0, 12, .inl (fun _ => 0))), (q3, .inl (G.2 0, 12, .inl (fun _ => 0))), (q4, .inl (G.2 0, 12, .inl (fun _ => 0))), (q5, .inl (G.2 0, 12, .inl (fun _ => 0))), (q6, .inl (G.2 0, 12, .inl (fun _ => 0))), (q7, .inl (G.2 1, 12, .inr (.inl (fun _ => 0)))), (q8, .inl (G.2 0, 12, .inl (fun _ => 0)))]) := hD
  refine W.widen (k := 8) (n := 96) (Nat.le_of_ble_eq_true rfl) (Nat.le_of_ble_eq_true rfl) ?_
  refine va_putF (D := G.1) (ci := 1) (v := .ref q8) (ty := .array .int) (C := R_Crd) (T := F_Crd) (N := 9) hx hb hts i_Crd t_Crd t_Crd_ok n_Crd hown hK.1 hP hD hS 0 rfl rfl 8 (by decide) (hts _ tb_61) (fun _ h9 => h9) rfl hin rfl (by decide +kernel) rfl rfl (Nat.le_of_ble_eq_true rfl) d_Crd_init_65 (fun H locs hP hD hS => ?_)
  have hP : va_P G.1 classes ([(a, .inr (1, [.int 0, .ref q1, .ref q2, .ref q3, .ref q4, .ref q5, .ref q6, .ref q7, .ref q8])), (q1, .inl (G.2 0, 12, .inl (fun _ => 0))), (q2, .inl (G.2 0, 12, .inl (fun _ => 0))), (q3, .inl (G.2 0, 12, .inl (fun _ => 0))), (q4, .inl (G.2 0, 12, .inl (fun _ => 0))), (q5, .inl (G.2 0, 12, .inl (fun _ => 0))), (q6, .inl (G.2 0, 12, .inl (fun _ => 0))), (q7, .inl (G.2 1, 12, .inr (.inl (fun _ => 0)))), (q8, .inl (G.2 0, 12, .inl (fun _ => 0)))]) H := hP
  have hD : va_D A ([(a, .inr (1, [.int 0, .ref q1, .ref q2, .ref q3, .ref q4, .ref q5, .ref q6, .ref q7, .ref q8])), (q1, .inl (G.2 0, 12, .inl (fun _ => 0))), (q2, .inl (G.2 0, 12, .inl (fun _ => 0))), (q3, .inl (G.2 0, 12, .inl (fun _ => 0))), (q4, .inl (G.2 0, 12, .inl (fun _ => 0))), (q5, .inl (G.2 0, 12, .inl (fun _ => 0))), (q6, .inl (G.2 0, 12, .inl (fun _ => 0))), (q7, .inl (G.2 1, 12, .inr (.inl (fun _ => 0)))), (q8, .inl (G.2 0, 12, .inl (fun _ => 0)))]) := hD
  refine lv_aload_n hx hb d_Crd_init_68 rfl (lv_at hl 0 rfl) ?_
  refine va_get (D := G.1) (ci := 1) (v := .ref q8) (C := R_Crd) (T := F_Crd) (N := 9) hx hb hts i_Crd hown hK.1 hP 0 rfl rfl 8 (by decide) (hts _ tb_61) (fun _ h9 => h9) rfl d_Crd_init_69 ?_
  refine lv_bipush (v := (-9)) hx hb d_Crd_init_72 (by decide) ?_
  refine call_Sv (pre := [(a, .inr (1, [.int 0, .ref q1, .ref q2, .ref q3, .ref q4, .ref q5, .ref q6, .ref q7, .ref q8])), (q1, .inl (G.2 0, 12, .inl (fun _ => 0))), (q2, .inl (G.2 0, 12, .inl (fun _ => 0))), (q3, .inl (G.2 0, 12, .inl (fun _ => 0))), (q4, .inl (G.2 0, 12, .inl (fun _ => 0))), (q5, .inl (G.2 0, 12, .inl (fun _ => 0))), (q6, .inl (G.2 0, 12, .inl (fun _ => 0))), (q7, .inl (G.2 1, 12, .inr (.inl (fun _ => 0))))]) (wc := arrW G (fun _ => q8) (fun _ => 0)) (post := []) (Wc := arrW G (fun _ => q8)) (own := "HamperClub$Cards") (As := [.ref q8, .int (-9)]) (rest := []) hx hb hml hts hown hK hA hP hD hS so_Crd_37 rfl ⟨Nat.le_of_ble_eq_true rfl, Nat.le_of_ble_eq_true rfl⟩ ⟨Nat.le_of_ble_eq_true rfl, Nat.le_of_ble_eq_true rfl⟩ hl.1 rfl (Nat.le_of_ble_eq_true rfl) d_Crd_init_74 (c_Arr_fill l G (fun _ => q8) _ (fun _ => 0) (-9) (fun f => f = fun j => if j < 12 then (-9) else 0) (wp_fill rfl)) (fun f9 H locs e9 hP hD hS => ?_)
  subst e9
  have hP : va_P G.1 classes ([(a, .inr (1, [.int 0, .ref q1, .ref q2, .ref q3, .ref q4, .ref q5, .ref q6, .ref q7, .ref q8])), (q1, .inl (G.2 0, 12, .inl (fun _ => 0))), (q2, .inl (G.2 0, 12, .inl (fun _ => 0))), (q3, .inl (G.2 0, 12, .inl (fun _ => 0))), (q4, .inl (G.2 0, 12, .inl (fun _ => 0))), (q5, .inl (G.2 0, 12, .inl (fun _ => 0))), (q6, .inl (G.2 0, 12, .inl (fun _ => 0))), (q7, .inl (G.2 1, 12, .inr (.inl (fun _ => 0)))), (q8, .inl (G.2 0, 12, .inl (fun j => if j < 12 then (-9) else 0)))]) H := hP
  have hD : va_D A ([(a, .inr (1, [.int 0, .ref q1, .ref q2, .ref q3, .ref q4, .ref q5, .ref q6, .ref q7, .ref q8])), (q1, .inl (G.2 0, 12, .inl (fun _ => 0))), (q2, .inl (G.2 0, 12, .inl (fun _ => 0))), (q3, .inl (G.2 0, 12, .inl (fun _ => 0))), (q4, .inl (G.2 0, 12, .inl (fun _ => 0))), (q5, .inl (G.2 0, 12, .inl (fun _ => 0))), (q6, .inl (G.2 0, 12, .inl (fun _ => 0))), (q7, .inl (G.2 1, 12, .inr (.inl (fun _ => 0)))), (q8, .inl (G.2 0, 12, .inl (fun j => if j < 12 then (-9) else 0)))]) := hD
  refine W.widen (k := 8) (n := 96) (Nat.le_of_ble_eq_true rfl) (Nat.le_of_ble_eq_true rfl) ?_
  exact r_cret (u := (fun i => [a, q1, q2, q3, q4, q5, q6, q7, q8].getD i 0)) hx hb hr hlocks hP hD hS d_Crd_init_77 rfl
set_option maxHeartbeats 4000000 in
set_option maxRecDepth 100000 in
theorem c_Hmp_init (l : Launch) (G : GG) (N0 tp ts : Nat) (a sz : Nat) : CMc l y_Hmp_init b_Hmp_init 1 1 5 44 G N0 tp ts [.ref a] sz ([(a, .inr (3, [.null, .null, .null, .null, .null]))]) (hmpW0 G) (fun u => u 0 = a) := by
  refine CMc.start (by decide) (Nat.le_of_ble_eq_true rfl) (fun p e s m below meth c A ls hx hb hr hts hown hml hlocks hA hS hP hD hK hl hSK hAN hin => ?_)
  have hl : lv_has ls 1 [(0, .ref a)] := hl
  refine lv_aload_n hx hb d_Hmp_init_0 rfl (lv_at hl 0 rfl) ?_
  refine W.objInit hx hb hown (hts _ tb_89) (hts _ tb_20) (hts _ tb_21) rfl (by rw [hml]; exact hl.1) rfl d_Hmp_init_1 (Nat.le_of_ble_eq_true rfl) (Nat.le_of_ble_eq_true rfl) ?_
  refine W.eq (g2 := F0 m 4 ls []) rfl ?_
  refine lv_aload_n hx hb d_Hmp_init_4 rfl (lv_at hl 0 rfl) ?_
  refine lv_iconst (v := 4) hx hb d_Hmp_init_5 (by decide) ?_
  refine va_newa (atype := .int) hx hb (hts _ tb_82) rfl hK.1 hP hD hS hA (N' := 4) (a0 := (4, .inl (fun _ => 0))) (fun cA => rfl) (by decide) (by decide) (by decide) (Nat.le_of_ble_eq_true rfl) (Nat.le_of_ble_eq_true rfl) d_Hmp_init_6 (fun q1 cA H hK1 hP hD hS => ?_)
  obtain rfl := newK (t0 := 0) (Or.inl rfl) hK.1 hK1 rfl
  have hP : va_P G.1 classes ([(a, .inr (3, [.null, .null, .null, .null, .null])), (q1, .inl (G.2 0, 4, .inl (fun _ => 0)))]) H := hP
  have hD : va_D A ([(a, .inr (3, [.null, .null, .null, .null, .null])), (q1, .inl (G.2 0, 4, .inl (fun _ => 0)))]) := hD
  refine W.widen (k := 1) (n := 4) (Nat.le_of_ble_eq_true rfl) (Nat.le_of_ble_eq_true rfl) ?_
  refine va_putF (D := G.1) (ci := 3) (v := .ref q1) (ty := .array .int) (C := R_Hmp) (T := F_Hmp) (N := 5) hx hb hts i_Hmp t_Hmp t_Hmp_ok n_Hmp hown hK.1 hP hD hS 0 rfl rfl 0 (by decide) (hts _ tb_98) (fun _ h9 => h9) rfl hin rfl (by decide +kernel) rfl rfl (Nat.le_of_ble_eq_true rfl) d_Hmp_init_8 (fun H locs hP hD hS => ?_)
  have hP : va_P G.1 classes ([(a, .inr (3, [.ref q1, .null, .null, .null, .null])), (q1, .inl (G.2 0, 4, .inl (fun _ => 0)))]) H := hP
  have hD : va_D A ([(a, .inr (3, [.ref q1, .null, .null, .null, .null])), (q1, .inl (G.2 0, 4, .inl (fun _ => 0)))]) := hD
  refine lv_aload_n hx hb d_Hmp_init_11 rfl (lv_at hl 0 rfl) ?_
  refine lv_iconst (v := 4) hx hb d_Hmp_init_12 (by decide) ?_
  refine va_newa (atype := .int) hx hb (hts _ tb_82) rfl hK.1 hP hD hS hA (N' := 4) (a0 := (4, .inl (fun _ => 0))) (fun cA => rfl) (by decide) (by decide) (by decide) (Nat.le_of_ble_eq_true rfl) (Nat.le_of_ble_eq_true rfl) d_Hmp_init_13 (fun q2 cA H hK1 hP hD hS => ?_)
  obtain rfl := newK (t0 := 0) (Or.inl rfl) hK.1 hK1 rfl
  have hP : va_P G.1 classes ([(a, .inr (3, [.ref q1, .null, .null, .null, .null])), (q1, .inl (G.2 0, 4, .inl (fun _ => 0))), (q2, .inl (G.2 0, 4, .inl (fun _ => 0)))]) H := hP
  have hD : va_D A ([(a, .inr (3, [.ref q1, .null, .null, .null, .null])), (q1, .inl (G.2 0, 4, .inl (fun _ => 0))), (q2, .inl (G.2 0, 4, .inl (fun _ => 0)))]) := hD
  refine W.widen (k := 2) (n := 8) (Nat.le_of_ble_eq_true rfl) (Nat.le_of_ble_eq_true rfl) ?_
  refine va_putF (D := G.1) (ci := 3) (v := .ref q2) (ty := .array .int) (C := R_Hmp) (T := F_Hmp) (N := 5) hx hb hts i_Hmp t_Hmp t_Hmp_ok n_Hmp hown hK.1 hP hD hS 0 rfl rfl 1 (by decide) (hts _ tb_101) (fun _ h9 => h9) rfl hin rfl (by decide +kernel) rfl rfl (Nat.le_of_ble_eq_true rfl) d_Hmp_init_15 (fun H locs hP hD hS => ?_)
  have hP : va_P G.1 classes ([(a, .inr (3, [.ref q1, .ref q2, .null, .null, .null])), (q1, .inl (G.2 0, 4, .inl (fun _ => 0))), (q2, .inl (G.2 0, 4, .inl (fun _ => 0)))]) H := hP
  have hD : va_D A ([(a, .inr (3, [.ref q1, .ref q2, .null, .null, .null])), (q1, .inl (G.2 0, 4, .inl (fun _ => 0))), (q2, .inl (G.2 0, 4, .inl (fun _ => 0)))]) := hD
  refine lv_aload_n hx hb d_Hmp_init_18 rfl (lv_at hl 0 rfl) ?_
  refine lv_bipush (v := 12) hx hb d_Hmp_init_19 (by decide) ?_
  refine va_newa (atype := .int) hx hb (hts _ tb_82) rfl hK.1 hP hD hS hA (N' := 12) (a0 := (12, .inl (fun _ => 0))) (fun cA => rfl) (by decide) (by decide) (by decide) (Nat.le_of_ble_eq_true rfl) (Nat.le_of_ble_eq_true rfl) d_Hmp_init_21 (fun q3 cA H hK1 hP hD hS => ?_)
  obtain rfl := newK (t0 := 0) (Or.inl rfl) hK.1 hK1 rfl
  have hP : va_P G.1 classes ([(a, .inr (3, [.ref q1, .ref q2, .null, .null, .null])), (q1, .inl (G.2 0, 4, .inl (fun _ => 0))), (q2, .inl (G.2 0, 4, .inl (fun _ => 0))), (q3, .inl (G.2 0, 12, .inl (fun _ => 0)))]) H := hP
  have hD : va_D A ([(a, .inr (3, [.ref q1, .ref q2, .null, .null, .null])), (q1, .inl (G.2 0, 4, .inl (fun _ => 0))), (q2, .inl (G.2 0, 4, .inl (fun _ => 0))), (q3, .inl (G.2 0, 12, .inl (fun _ => 0)))]) := hD
  refine W.widen (k := 3) (n := 20) (Nat.le_of_ble_eq_true rfl) (Nat.le_of_ble_eq_true rfl) ?_
  refine va_putF (D := G.1) (ci := 3) (v := .ref q3) (ty := .array .int) (C := R_Hmp) (T := F_Hmp) (N := 5) hx hb hts i_Hmp t_Hmp t_Hmp_ok n_Hmp hown hK.1 hP hD hS 0 rfl rfl 2 (by decide) (hts _ tb_103) (fun _ h9 => h9) rfl hin rfl (by decide +kernel) rfl rfl (Nat.le_of_ble_eq_true rfl) d_Hmp_init_23 (fun H locs hP hD hS => ?_)
  have hP : va_P G.1 classes ([(a, .inr (3, [.ref q1, .ref q2, .ref q3, .null, .null])), (q1, .inl (G.2 0, 4, .inl (fun _ => 0))), (q2, .inl (G.2 0, 4, .inl (fun _ => 0))), (q3, .inl (G.2 0, 12, .inl (fun _ => 0)))]) H := hP
  have hD : va_D A ([(a, .inr (3, [.ref q1, .ref q2, .ref q3, .null, .null])), (q1, .inl (G.2 0, 4, .inl (fun _ => 0))), (q2, .inl (G.2 0, 4, .inl (fun _ => 0))), (q3, .inl (G.2 0, 12, .inl (fun _ => 0)))]) := hD
  refine lv_aload_n hx hb d_Hmp_init_26 rfl (lv_at hl 0 rfl) ?_
  refine lv_bipush (v := 12) hx hb d_Hmp_init_27 (by decide) ?_
  refine va_newa (atype := .int) hx hb (hts _ tb_82) rfl hK.1 hP hD hS hA (N' := 12) (a0 := (12, .inl (fun _ => 0))) (fun cA => rfl) (by decide) (by decide) (by decide) (Nat.le_of_ble_eq_true rfl) (Nat.le_of_ble_eq_true rfl) d_Hmp_init_29 (fun q4 cA H hK1 hP hD hS => ?_)
  obtain rfl := newK (t0 := 0) (Or.inl rfl) hK.1 hK1 rfl
  have hP : va_P G.1 classes ([(a, .inr (3, [.ref q1, .ref q2, .ref q3, .null, .null])), (q1, .inl (G.2 0, 4, .inl (fun _ => 0))), (q2, .inl (G.2 0, 4, .inl (fun _ => 0))), (q3, .inl (G.2 0, 12, .inl (fun _ => 0))), (q4, .inl (G.2 0, 12, .inl (fun _ => 0)))]) H := hP
  have hD : va_D A ([(a, .inr (3, [.ref q1, .ref q2, .ref q3, .null, .null])), (q1, .inl (G.2 0, 4, .inl (fun _ => 0))), (q2, .inl (G.2 0, 4, .inl (fun _ => 0))), (q3, .inl (G.2 0, 12, .inl (fun _ => 0))), (q4, .inl (G.2 0, 12, .inl (fun _ => 0)))]) := hD
  refine W.widen (k := 4) (n := 32) (Nat.le_of_ble_eq_true rfl) (Nat.le_of_ble_eq_true rfl) ?_
  refine va_putF (D := G.1) (ci := 3) (v := .ref q4) (ty := .array .int) (C := R_Hmp) (T := F_Hmp) (N := 5) hx hb hts i_Hmp t_Hmp t_Hmp_ok n_Hmp hown hK.1 hP hD hS 0 rfl rfl 3 (by decide) (hts _ tb_105) (fun _ h9 => h9) rfl hin rfl (by decide +kernel) rfl rfl (Nat.le_of_ble_eq_true rfl) d_Hmp_init_31 (fun H locs hP hD hS => ?_)
  have hP : va_P G.1 classes ([(a, .inr (3, [.ref q1, .ref q2, .ref q3, .ref q4, .null])), (q1, .inl (G.2 0, 4, .inl (fun _ => 0))), (q2, .inl (G.2 0, 4, .inl (fun _ => 0))), (q3, .inl (G.2 0, 12, .inl (fun _ => 0))), (q4, .inl (G.2 0, 12, .inl (fun _ => 0)))]) H := hP
  have hD : va_D A ([(a, .inr (3, [.ref q1, .ref q2, .ref q3, .ref q4, .null])), (q1, .inl (G.2 0, 4, .inl (fun _ => 0))), (q2, .inl (G.2 0, 4, .inl (fun _ => 0))), (q3, .inl (G.2 0, 12, .inl (fun _ => 0))), (q4, .inl (G.2 0, 12, .inl (fun _ => 0)))]) := hD
  refine lv_aload_n hx hb d_Hmp_init_34 rfl (lv_at hl 0 rfl) ?_
  refine lv_bipush (v := 12) hx hb d_Hmp_init_35 (by decide) ?_
  refine va_newa (atype := .int) hx hb (hts _ tb_82) rfl hK.1 hP hD hS hA (N' := 12) (a0 := (12, .inl (fun _ => 0))) (fun cA => rfl) (by decide) (by decide) (by decide) (Nat.le_of_ble_eq_true rfl) (Nat.le_of_ble_eq_true rfl) d_Hmp_init_37 (fun q5 cA H hK1 hP hD hS => ?_)
  obtain rfl := newK (t0 := 0) (Or.inl rfl) hK.1 hK1 rfl
  have hP : va_P G.1 classes ([(a, .inr (3, [.ref q1, .ref q2, .ref q3, .ref q4, .null])), (q1, .inl (G.2 0, 4, .inl (fun _ => 0))), (q2, .inl (G.2 0, 4, .inl (fun _ => 0))), (q3, .inl (G.2 0, 12, .inl (fun _ => 0))), (q4, .inl (G.2 0, 12, .inl (fun _ => 0))), (q5, .inl (G.2 0, 12, .inl (fun _ => 0)))]) H := hP
  have hD : va_D A ([(a, .inr (3, [.ref q1, .ref q2, .ref q3, .ref q4, .null])), (q1, .inl (G.2 0, 4, .inl (fun _ => 0))), (q2, .inl (G.2 0, 4, .inl (fun _ => 0))), (q3, .inl (G.2 0, 12, .inl (fun _ => 0))), (q4, .inl (G.2 0, 12, .inl (fun _ => 0))), (q5, .inl (G.2 0, 12, .inl (fun _ => 0)))]) := hD
  refine W.widen (k := 5) (n := 44) (Nat.le_of_ble_eq_true rfl) (Nat.le_of_ble_eq_true rfl) ?_
  refine va_putF (D := G.1) (ci := 3) (v := .ref q5) (ty := .array .int) (C := R_Hmp) (T := F_Hmp) (N := 5) hx hb hts i_Hmp t_Hmp t_Hmp_ok n_Hmp hown hK.1 hP hD hS 0 rfl rfl 4 (by decide) (hts _ tb_107) (fun _ h9 => h9) rfl hin rfl (by decide +kernel) rfl rfl (Nat.le_of_ble_eq_true rfl) d_Hmp_init_39 (fun H locs hP hD hS => ?_)
  have hP : va_P G.1 classes ([(a, .inr (3, [.ref q1, .ref q2, .ref q3, .ref q4, .ref q5])), (q1, .inl (G.2 0, 4, .inl (fun _ => 0))), (q2, .inl (G.2 0, 4, .inl (fun _ => 0))), (q3, .inl (G.2 0, 12, .inl (fun _ => 0))), (q4, .inl (G.2 0, 12, .inl (fun _ => 0))), (q5, .inl (G.2 0, 12, .inl (fun _ => 0)))]) H := hP
  have hD : va_D A ([(a, .inr (3, [.ref q1, .ref q2, .ref q3, .ref q4, .ref q5])), (q1, .inl (G.2 0, 4, .inl (fun _ => 0))), (q2, .inl (G.2 0, 4, .inl (fun _ => 0))), (q3, .inl (G.2 0, 12, .inl (fun _ => 0))), (q4, .inl (G.2 0, 12, .inl (fun _ => 0))), (q5, .inl (G.2 0, 12, .inl (fun _ => 0)))]) := hD
  refine va_getsN hx hb ((hSK.1.1).narrow hAN) hS hown (va_Nw.use rfl hSK.2.2.1) (fun _ h9 => h9) d_Hmp_init_42 ?_
  refine lv_iconst (v := 0) hx hb d_Hmp_init_45 (by decide) ?_
  refine lv_aload_n hx hb d_Hmp_init_46 rfl (lv_at hl 0 rfl) ?_
  refine va_get (D := G.1) (ci := 3) (v := .ref q1) (C := R_Hmp) (T := F_Hmp) (N := 5) hx hb hts i_Hmp hown hK.1 hP 0 rfl rfl 0 (by decide) (hts _ tb_98) (fun _ h9 => h9) rfl d_Hmp_init_47 ?_
  refine lv_iconst (v := 0) hx hb d_Hmp_init_50 (by decide) ?_
  refine lv_iconst (v := 4) hx hb d_Hmp_init_51 (by decide) ?_
  refine copyT hx hb (hml.trans hl.1.symm) hown (hts _ tb_92) (hts _ tb_94) (hts _ tb_93) (hts _ tb_7) hK.1 hP hD hS (hSK.1.2.narrow hAN) 1 0 rfl rfl (Nat.le_of_ble_eq_true rfl) (Nat.le_of_ble_eq_true rfl) d_Hmp_init_52 (fun H locs hP hD hS => ?_)
  have hP : va_P G.1 classes ([(a, .inr (3, [.ref q1, .ref q2, .ref q3, .ref q4, .ref q5])), (q1, .inl (G.2 0, 4, .inl (va_cpy pfF (fun _ => 0) 0 0 4))), (q2, .inl (G.2 0, 4, .inl (fun _ => 0))), (q3, .inl (G.2 0, 12, .inl (fun _ => 0))), (q4, .inl (G.2 0, 12, .inl (fun _ => 0))), (q5, .inl (G.2 0, 12, .inl (fun _ => 0)))]) H := hP
  have hD : va_D A ([(a, .inr (3, [.ref q1, .ref q2, .ref q3, .ref q4, .ref q5])), (q1, .inl (G.2 0, 4, .inl (va_cpy pfF (fun _ => 0) 0 0 4))), (q2, .inl (G.2 0, 4, .inl (fun _ => 0))), (q3, .inl (G.2 0, 12, .inl (fun _ => 0))), (q4, .inl (G.2 0, 12, .inl (fun _ => 0))), (q5, .inl (G.2 0, 12, .inl (fun _ => 0)))]) := hD
  refine va_getsN hx hb ((hSK.2.1.1).narrow hAN) hS hown (va_Nw.use rfl hSK.2.2.2.1) (fun _ h9 => h9) d_Hmp_init_55 ?_
  refine lv_iconst (v := 0) hx hb d_Hmp_init_58 (by decide) ?_
  refine lv_aload_n hx hb d_Hmp_init_59 rfl (lv_at hl 0 rfl) ?_
  refine va_get (D := G.1) (ci := 3) (v := .ref q2) (C := R_Hmp) (T := F_Hmp) (N := 5) hx hb hts i_Hmp hown hK.1 hP 0 rfl rfl 1 (by decide) (hts _ tb_101) (fun _ h9 => h9) rfl d_Hmp_init_60 ?_
  refine lv_iconst (v := 0) hx hb d_Hmp_init_63 (by decide) ?_
  refine lv_iconst (v := 4) hx hb d_Hmp_init_64 (by decide) ?_
  refine copyT hx hb (hml.trans hl.1.symm) hown (hts _ tb_92) (hts _ tb_94) (hts _ tb_93) (hts _ tb_7) hK.1 hP hD hS (hSK.2.1.2.narrow hAN) 2 0 rfl rfl (Nat.le_of_ble_eq_true rfl) (Nat.le_of_ble_eq_true rfl) d_Hmp_init_65 (fun H locs hP hD hS => ?_)
  have hP : va_P G.1 classes ([(a, .inr (3, [.ref q1, .ref q2, .ref q3, .ref q4, .ref q5])), (q1, .inl (G.2 0, 4, .inl (va_cpy pfF (fun _ => 0) 0 0 4))), (q2, .inl (G.2 0, 4, .inl (va_cpy sfF (fun _ => 0) 0 0 4))), (q3, .inl (G.2 0, 12, .inl (fun _ => 0))), (q4, .inl (G.2 0, 12, .inl (fun _ => 0))), (q5, .inl (G.2 0, 12, .inl (fun _ => 0)))]) H := hP
  have hD : va_D A ([(a, .inr (3, [.ref q1, .ref q2, .ref q3, .ref q4, .ref q5])), (q1, .inl (G.2 0, 4, .inl (va_cpy pfF (fun _ => 0) 0 0 4))), (q2, .inl (G.2 0, 4, .inl (va_cpy sfF (fun _ => 0) 0 0 4))), (q3, .inl (G.2 0, 12, .inl (fun _ => 0))), (q4, .inl (G.2 0, 12, .inl (fun _ => 0))), (q5, .inl (G.2 0, 12, .inl (fun _ => 0)))]) := hD
  refine lv_aload_n hx hb d_Hmp_init_68 rfl (lv_at hl 0 rfl) ?_
  refine va_get (D := G.1) (ci := 3) (v := .ref q3) (C := R_Hmp) (T := F_Hmp) (N := 5) hx hb hts i_Hmp hown hK.1 hP 0 rfl rfl 2 (by decide) (hts _ tb_103) (fun _ h9 => h9) rfl d_Hmp_init_69 ?_
  refine lv_bipush (v := (-9)) hx hb d_Hmp_init_72 (by decide) ?_
  refine call_Sv (pre := [(a, .inr (3, [.ref q1, .ref q2, .ref q3, .ref q4, .ref q5])), (q1, .inl (G.2 0, 4, .inl (va_cpy pfF (fun _ => 0) 0 0 4))), (q2, .inl (G.2 0, 4, .inl (va_cpy sfF (fun _ => 0) 0 0 4)))]) (wc := arrW G (fun _ => q3) (fun _ => 0)) (post := [(q4, .inl (G.2 0, 12, .inl (fun _ => 0))), (q5, .inl (G.2 0, 12, .inl (fun _ => 0)))]) (Wc := arrW G (fun _ => q3)) (own := "HamperClub$Hampers") (As := [.ref q3, .int (-9)]) (rest := []) hx hb hml hts hown hK hA hP hD hS so_Hmp_39 rfl ⟨Nat.le_of_ble_eq_true rfl, Nat.le_of_ble_eq_true rfl⟩ ⟨Nat.le_of_ble_eq_true rfl, Nat.le_of_ble_eq_true rfl⟩ hl.1 rfl (Nat.le_of_ble_eq_true rfl) d_Hmp_init_74 (c_Arr_fill l G (fun _ => q3) _ (fun _ => 0) (-9) (fun f => f = fun j => if j < 12 then (-9) else 0) (wp_fill rfl)) (fun f9 H locs e9 hP hD hS => ?_)
  subst e9
  have hP : va_P G.1 classes ([(a, .inr (3, [.ref q1, .ref q2, .ref q3, .ref q4, .ref q5])), (q1, .inl (G.2 0, 4, .inl (va_cpy pfF (fun _ => 0) 0 0 4))), (q2, .inl (G.2 0, 4, .inl (va_cpy sfF (fun _ => 0) 0 0 4))), (q3, .inl (G.2 0, 12, .inl (fun j => if j < 12 then (-9) else 0))), (q4, .inl (G.2 0, 12, .inl (fun _ => 0))), (q5, .inl (G.2 0, 12, .inl (fun _ => 0)))]) H := hP
  have hD : va_D A ([(a, .inr (3, [.ref q1, .ref q2, .ref q3, .ref q4, .ref q5])), (q1, .inl (G.2 0, 4, .inl (va_cpy pfF (fun _ => 0) 0 0 4))), (q2, .inl (G.2 0, 4, .inl (va_cpy sfF (fun _ => 0) 0 0 4))), (q3, .inl (G.2 0, 12, .inl (fun j => if j < 12 then (-9) else 0))), (q4, .inl (G.2 0, 12, .inl (fun _ => 0))), (q5, .inl (G.2 0, 12, .inl (fun _ => 0)))]) := hD
  refine lv_aload_n hx hb d_Hmp_init_77 rfl (lv_at hl 0 rfl) ?_
  refine va_get (D := G.1) (ci := 3) (v := .ref q5) (C := R_Hmp) (T := F_Hmp) (N := 5) hx hb hts i_Hmp hown hK.1 hP 0 rfl rfl 4 (by decide) (hts _ tb_107) (fun _ h9 => h9) rfl d_Hmp_init_78 ?_
  refine lv_bipush (v := (-9)) hx hb d_Hmp_init_81 (by decide) ?_
  refine call_Sv (pre := [(a, .inr (3, [.ref q1, .ref q2, .ref q3, .ref q4, .ref q5])), (q1, .inl (G.2 0, 4, .inl (va_cpy pfF (fun _ => 0) 0 0 4))), (q2, .inl (G.2 0, 4, .inl (va_cpy sfF (fun _ => 0) 0 0 4))), (q3, .inl (G.2 0, 12, .inl (fun j => if j < 12 then (-9) else 0))), (q4, .inl (G.2 0, 12, .inl (fun _ => 0)))]) (wc := arrW G (fun _ => q5) (fun _ => 0)) (post := []) (Wc := arrW G (fun _ => q5)) (own := "HamperClub$Hampers") (As := [.ref q5, .int (-9)]) (rest := []) hx hb hml hts hown hK hA hP hD hS so_Hmp_39 rfl ⟨Nat.le_of_ble_eq_true rfl, Nat.le_of_ble_eq_true rfl⟩ ⟨Nat.le_of_ble_eq_true rfl, Nat.le_of_ble_eq_true rfl⟩ hl.1 rfl (Nat.le_of_ble_eq_true rfl) d_Hmp_init_83 (c_Arr_fill l G (fun _ => q5) _ (fun _ => 0) (-9) (fun f => f = fun j => if j < 12 then (-9) else 0) (wp_fill rfl)) (fun f9 H locs e9 hP hD hS => ?_)
  subst e9
  have hP : va_P G.1 classes ([(a, .inr (3, [.ref q1, .ref q2, .ref q3, .ref q4, .ref q5])), (q1, .inl (G.2 0, 4, .inl (va_cpy pfF (fun _ => 0) 0 0 4))), (q2, .inl (G.2 0, 4, .inl (va_cpy sfF (fun _ => 0) 0 0 4))), (q3, .inl (G.2 0, 12, .inl (fun j => if j < 12 then (-9) else 0))), (q4, .inl (G.2 0, 12, .inl (fun _ => 0))), (q5, .inl (G.2 0, 12, .inl (fun j => if j < 12 then (-9) else 0)))]) H := hP
  have hD : va_D A ([(a, .inr (3, [.ref q1, .ref q2, .ref q3, .ref q4, .ref q5])), (q1, .inl (G.2 0, 4, .inl (va_cpy pfF (fun _ => 0) 0 0 4))), (q2, .inl (G.2 0, 4, .inl (va_cpy sfF (fun _ => 0) 0 0 4))), (q3, .inl (G.2 0, 12, .inl (fun j => if j < 12 then (-9) else 0))), (q4, .inl (G.2 0, 12, .inl (fun _ => 0))), (q5, .inl (G.2 0, 12, .inl (fun j => if j < 12 then (-9) else 0)))]) := hD
  refine W.widen (k := 5) (n := 44) (Nat.le_of_ble_eq_true rfl) (Nat.le_of_ble_eq_true rfl) ?_
  exact r_cret (u := (fun i => [a, q1, q2, q3, q4, q5].getD i 0)) hx hb hr hlocks hP hD hS d_Hmp_init_86 rfl
set_option maxHeartbeats 4000000 in
set_option maxRecDepth 100000 in
theorem c_Ord_init (l : Launch) (G : GG) (N0 tp ts : Nat) (a sz : Nat) : CMc l y_Ord_init b_Ord_init 1 1 1 100 G N0 tp ts [.ref a] sz ([(a, .inr (5, [.null, .int 0, .int 0, .int 0, .int 0, .int 0]))]) (fun u => ordW G u ord0) (fun u => u 0 = a) := by
  refine CMc.start (by decide) (Nat.le_of_ble_eq_true rfl) (fun p e s m below meth c A ls hx hb hr hts hown hml hlocks hA hS hP hD hK hl hSK hAN hin => ?_)
  have hl : lv_has ls 1 [(0, .ref a)] := hl
  refine lv_aload_n hx hb d_Ord_init_0 rfl (lv_at hl 0 rfl) ?_
  refine W.objInit hx hb hown (hts _ tb_228) (hts _ tb_20) (hts _ tb_21) rfl (by rw [hml]; exact hl.1) rfl d_Ord_init_1 (Nat.le_of_ble_eq_true rfl) (Nat.le_of_ble_eq_true rfl) ?_
  refine W.eq (g2 := F0 m 4 ls []) rfl ?_
  refine lv_aload_n hx hb d_Ord_init_4 rfl (lv_at hl 0 rfl) ?_
  refine lv_bipush (v := 100) hx hb d_Ord_init_5 (by decide) ?_
  refine va_newa (atype := .int) hx hb (hts _ tb_82) rfl hK.1 hP hD hS hA (N' := 100) (a0 := (100, .inl (fun _ => 0))) (fun cA => rfl) (by decide) (by decide) (by decide) (Nat.le_of_ble_eq_true rfl) (Nat.le_of_ble_eq_true rfl) d_Ord_init_7 (fun q1 cA H hK1 hP hD hS => ?_)
  obtain rfl := newK (t0 := 0) (Or.inl rfl) hK.1 hK1 rfl
  have hP : va_P G.1 classes ([(a, .inr (5, [.null, .int 0, .int 0, .int 0, .int 0, .int 0])), (q1, .inl (G.2 0, 100, .inl (fun _ => 0)))]) H := hP
  have hD : va_D A ([(a, .inr (5, [.null, .int 0, .int 0, .int 0, .int 0, .int 0])), (q1, .inl (G.2 0, 100, .inl (fun _ => 0)))]) := hD
  refine W.widen (k := 1) (n := 100) (Nat.le_of_ble_eq_true rfl) (Nat.le_of_ble_eq_true rfl) ?_
  refine va_putF (D := G.1) (ci := 5) (v := .ref q1) (ty := .array .int) (C := R_Ord) (T := F_Ord) (N := 6) hx hb hts i_Ord t_Ord t_Ord_ok n_Ord hown hK.1 hP hD hS 0 rfl rfl 0 (by decide) (hts _ tb_229) (fun _ h9 => h9) rfl hin rfl (by decide +kernel) rfl rfl (Nat.le_of_ble_eq_true rfl) d_Ord_init_9 (fun H locs hP hD hS => ?_)
  have hP : va_P G.1 classes ([(a, .inr (5, [.ref q1, .int 0, .int 0, .int 0, .int 0, .int 0])), (q1, .inl (G.2 0, 100, .inl (fun _ => 0)))]) H := hP
  have hD : va_D A ([(a, .inr (5, [.ref q1, .int 0, .int 0, .int 0, .int 0, .int 0])), (q1, .inl (G.2 0, 100, .inl (fun _ => 0)))]) := hD
  refine W.widen (k := 1) (n := 100) (Nat.le_of_ble_eq_true rfl) (Nat.le_of_ble_eq_true rfl) ?_
  exact r_cret (u := (fun i => [a, q1].getD i 0)) hx hb hr hlocks hP hD hS d_Ord_init_12 rfl
theorem io_Clb_11 : IOk y_Crd_init b_Crd_init 1 "HamperClub$Club" 11 "HamperClub" := ⟨Or.inl tb_36, tb_37, tb_4, tb_38, rfl, by decide +kernel⟩
theorem io_Clb_20 : IOk y_Hmp_init b_Hmp_init 1 "HamperClub$Club" 20 "HamperClub" := ⟨Or.inl tb_86, tb_87, tb_6, tb_88, rfl, by decide +kernel⟩
theorem io_Clb_27 : IOk y_Acc_init b_Acc_init 1 "HamperClub$Club" 27 "HamperClub" := ⟨Or.inr (by decide +kernel), tb_124, tb_8, tb_125, rfl, by decide +kernel⟩
set_option maxHeartbeats 4000000 in
set_option maxRecDepth 100000 in
theorem c_Clb_init (l : Launch) (G : GG) (N0 tp ts : Nat) (a sz : Nat) : CMc l y_Clb_init b_Clb_init 1 2 16 159 G N0 tp ts [.ref a] sz ([(a, .inr (2, [.int 0, .int 0, .int 0, .int 0, .null, .null, .null]))]) (fun u : Nat → Nat => clubW G u club0) (fun u => u 0 = a) := by
  refine CMc.start (by decide) (Nat.le_of_ble_eq_true rfl) (fun p e s m below meth c A ls hx hb hr hts hown hml hlocks hA hS hP hD hK hl hSK hAN hin => ?_)
  have hl : lv_has ls 1 [(0, .ref a)] := hl
  refine lv_aload_n hx hb d_Clb_init_0 rfl (lv_at hl 0 rfl) ?_
  refine W.objInit hx hb hown (hts _ tb_33) (hts _ tb_20) (hts _ tb_21) rfl (by rw [hml]; exact hl.1) rfl d_Clb_init_1 (Nat.le_of_ble_eq_true rfl) (Nat.le_of_ble_eq_true rfl) ?_
  refine W.eq (g2 := F0 m 4 ls []) rfl ?_
  refine lv_aload_n hx hb d_Clb_init_4 rfl (lv_at hl 0 rfl) ?_
  refine va_new (ci := 1) (fs := [.int 0, .null, .null, .null, .null, .null, .null, .null, .null]) (C := R_Crd) (T := F_Crd) (N := 9) hx hb hts i_Crd t_Crd t_Crd_ok hown (hts _ tb_34) (hts _ tb_35) (hts _ tb_4) hK.1 hP hD hS hA rfl (fun j hj => by rcases (show j = 0 ∨ j = 1 ∨ j = 2 ∨ j = 3 ∨ j = 4 ∨ j = 5 ∨ j = 6 ∨ j = 7 ∨ j = 8 by omega) with rfl | rfl | rfl | rfl | rfl | rfl | rfl | rfl | rfl <;> rfl) (Nat.le_of_ble_eq_true rfl) (Nat.le_of_ble_eq_true rfl) d_Clb_init_5 (fun q1 H hP hD hS => ?_)
  have hP : va_P G.1 classes (([(a, .inr (2, [.int 0, .int 0, .int 0, .int 0, .null, .null, .null]))] ++ [(q1, .inr (1, [.int 0, .null, .null, .null, .null, .null, .null, .null, .null]))])) H := hP
  have hD : va_D A (([(a, .inr (2, [.int 0, .int 0, .int 0, .int 0, .null, .null, .null]))] ++ [(q1, .inr (1, [.int 0, .null, .null, .null, .null, .null, .null, .null, .null]))])) := hD
  refine W.widen (k := 1) (n := 9) (Nat.le_of_ble_eq_true rfl) (Nat.le_of_ble_eq_true rfl) ?_
  refine lv_dup hx hb d_Clb_init_8 rfl ?_
  refine call_I (own := "HamperClub$Club") (rest := [.ref q1, .ref a]) (pre := [(a, .inr (2, [.int 0, .int 0, .int 0, .int 0, .null, .null, .null]))]) (wc := [(q1, .inr (1, [.int 0, .null, .null, .null, .null, .null, .null, .null, .null]))]) hx hb hml hts hown hK hA hSK hAN hP hD hS io_Clb_11 ⟨Nat.le_of_ble_eq_true rfl, Nat.le_of_ble_eq_true rfl⟩ ⟨Nat.le_of_ble_eq_true rfl, Nat.le_of_ble_eq_true rfl⟩ hl.1 rfl (Nat.le_of_ble_eq_true rfl) d_Clb_init_9 (c_Crd_init l G N0 tp ts q1 _) (fun z2 H locs e9 hP9 hD9 hS => ?_)
  have e9 : (z2 0) = q1 := e9
  subst e9
  have hP := hP9
  have hD := hD9
  have hP : va_P G.1 classes (([(a, .inr (2, [.int 0, .int 0, .int 0, .int 0, .null, .null, .null]))] ++ crdW0 G z2)) H := hP
  have hD : va_D A (([(a, .inr (2, [.int 0, .int 0, .int 0, .int 0, .null, .null, .null]))] ++ crdW0 G z2)) := hD
  refine W.widen (k := 9) (n := 105) (Nat.le_of_ble_eq_true rfl) (Nat.le_of_ble_eq_true rfl) ?_
  refine va_putF (D := G.1) (ci := 2) (v := .ref (z2 0)) (ty := .object "HamperClub$Cards") (C := R_Clb) (T := F_Clb) (N := 7) hx hb hts i_Clb t_Clb t_Clb_ok n_Clb hown hK.1 hP hD hS 0 rfl rfl 4 (by decide) (hts _ tb_155) (fun _ h9 => h9) rfl hin rfl (by decide +kernel) rfl rfl (Nat.le_of_ble_eq_true rfl) d_Clb_init_12 (fun H locs hP hD hS => ?_)
  have hP : va_P G.1 classes (([(a, .inr (2, [.int 0, .int 0, .int 0, .int 0, .ref (z2 0), .null, .null]))] ++ crdW0 G z2)) H := hP
  have hD : va_D A (([(a, .inr (2, [.int 0, .int 0, .int 0, .int 0, .ref (z2 0), .null, .null]))] ++ crdW0 G z2)) := hD
  refine lv_aload_n hx hb d_Clb_init_15 rfl (lv_at hl 0 rfl) ?_
  refine va_new (ci := 3) (fs := [.null, .null, .null, .null, .null]) (C := R_Hmp) (T := F_Hmp) (N := 5) hx hb hts i_Hmp t_Hmp t_Hmp_ok hown (hts _ tb_84) (hts _ tb_85) (hts _ tb_6) hK.1 hP hD hS hA rfl (fun j hj => by rcases (show j = 0 ∨ j = 1 ∨ j = 2 ∨ j = 3 ∨ j = 4 by omega) with rfl | rfl | rfl | rfl | rfl <;> rfl) (Nat.le_of_ble_eq_true rfl) (Nat.le_of_ble_eq_true rfl) d_Clb_init_16 (fun q3 H hP hD hS => ?_)
  have hP : va_P G.1 classes ((([(a, .inr (2, [.int 0, .int 0, .int 0, .int 0, .ref (z2 0), .null, .null]))] ++ crdW0 G z2) ++ [(q3, .inr (3, [.null, .null, .null, .null, .null]))])) H := hP
  have hD : va_D A ((([(a, .inr (2, [.int 0, .int 0, .int 0, .int 0, .ref (z2 0), .null, .null]))] ++ crdW0 G z2) ++ [(q3, .inr (3, [.null, .null, .null, .null, .null]))])) := hD
  refine W.widen (k := 10) (n := 110) (Nat.le_of_ble_eq_true rfl) (Nat.le_of_ble_eq_true rfl) ?_
  refine lv_dup hx hb d_Clb_init_19 rfl ?_
  refine call_I (own := "HamperClub$Club") (rest := [.ref q3, .ref a]) (pre := ([(a, .inr (2, [.int 0, .int 0, .int 0, .int 0, .ref (z2 0), .null, .null]))] ++ crdW0 G z2)) (wc := [(q3, .inr (3, [.null, .null, .null, .null, .null]))]) hx hb hml hts hown hK hA hSK hAN hP hD hS io_Clb_20 ⟨Nat.le_of_ble_eq_true rfl, Nat.le_of_ble_eq_true rfl⟩ ⟨Nat.le_of_ble_eq_true rfl, Nat.le_of_ble_eq_true rfl⟩ hl.1 rfl (Nat.le_of_ble_eq_true rfl) d_Clb_init_20 (c_Hmp_init l G N0 tp ts q3 _) (fun z4 H locs e9 hP9 hD9 hS => ?_)
  have e9 : (z4 0) = q3 := e9
  subst e9
  have hP := hP9
  have hD := hD9
  have hP : va_P G.1 classes ((([(a, .inr (2, [.int 0, .int 0, .int 0, .int 0, .ref (z2 0), .null, .null]))] ++ crdW0 G z2) ++ hmpW0 G z4)) H := hP
  have hD : va_D A ((([(a, .inr (2, [.int 0, .int 0, .int 0, .int 0, .ref (z2 0), .null, .null]))] ++ crdW0 G z2) ++ hmpW0 G z4)) := hD
  refine W.widen (k := 15) (n := 154) (Nat.le_of_ble_eq_true rfl) (Nat.le_of_ble_eq_true rfl) ?_
  refine va_putF (D := G.1) (ci := 2) (v := .ref (z4 0)) (ty := .object "HamperClub$Hampers") (C := R_Clb) (T := F_Clb) (N := 7) hx hb hts i_Clb t_Clb t_Clb_ok n_Clb hown hK.1 hP hD hS 0 rfl rfl 5 (by decide) (hts _ tb_157) (fun _ h9 => h9) rfl hin rfl (by decide +kernel) rfl rfl (Nat.le_of_ble_eq_true rfl) d_Clb_init_23 (fun H locs hP hD hS => ?_)
  have hP : va_P G.1 classes ((([(a, .inr (2, [.int 0, .int 0, .int 0, .int 0, .ref (z2 0), .ref (z4 0), .null]))] ++ crdW0 G z2) ++ hmpW0 G z4)) H := hP
  have hD : va_D A ((([(a, .inr (2, [.int 0, .int 0, .int 0, .int 0, .ref (z2 0), .ref (z4 0), .null]))] ++ crdW0 G z2) ++ hmpW0 G z4)) := hD
  refine lv_aload_n hx hb d_Clb_init_26 rfl (lv_at hl 0 rfl) ?_
  refine va_new (ci := 0) (fs := [.int 0, .int 0, .int 0, .int 0, .int 0]) (C := R_Acc) (T := F_Acc) (N := 5) hx hb hts i_Acc t_Acc t_Acc_ok hown (hts _ tb_121) (hts _ tb_122) (hts _ tb_8) hK.1 hP hD hS hA rfl (fun j hj => by rcases (show j = 0 ∨ j = 1 ∨ j = 2 ∨ j = 3 ∨ j = 4 by omega) with rfl | rfl | rfl | rfl | rfl <;> rfl) (Nat.le_of_ble_eq_true rfl) (Nat.le_of_ble_eq_true rfl) d_Clb_init_27 (fun q5 H hP hD hS => ?_)
  have hP : va_P G.1 classes (((([(a, .inr (2, [.int 0, .int 0, .int 0, .int 0, .ref (z2 0), .ref (z4 0), .null]))] ++ crdW0 G z2) ++ hmpW0 G z4) ++ [(q5, .inr (0, [.int 0, .int 0, .int 0, .int 0, .int 0]))])) H := hP
  have hD : va_D A (((([(a, .inr (2, [.int 0, .int 0, .int 0, .int 0, .ref (z2 0), .ref (z4 0), .null]))] ++ crdW0 G z2) ++ hmpW0 G z4) ++ [(q5, .inr (0, [.int 0, .int 0, .int 0, .int 0, .int 0]))])) := hD
  refine W.widen (k := 16) (n := 159) (Nat.le_of_ble_eq_true rfl) (Nat.le_of_ble_eq_true rfl) ?_
  refine lv_dup hx hb d_Clb_init_30 rfl ?_
  refine call_I (own := "HamperClub$Club") (rest := [.ref q5, .ref a]) (pre := (([(a, .inr (2, [.int 0, .int 0, .int 0, .int 0, .ref (z2 0), .ref (z4 0), .null]))] ++ crdW0 G z2) ++ hmpW0 G z4)) (wc := [(q5, .inr (0, [.int 0, .int 0, .int 0, .int 0, .int 0]))]) hx hb hml hts hown hK hA hSK hAN hP hD hS io_Clb_27 ⟨Nat.le_of_ble_eq_true rfl, Nat.le_of_ble_eq_true rfl⟩ ⟨Nat.le_of_ble_eq_true rfl, Nat.le_of_ble_eq_true rfl⟩ hl.1 rfl (Nat.le_of_ble_eq_true rfl) d_Clb_init_31 (c_Acc_init l G N0 tp ts q5 _) (fun z6 H locs e9 hP9 hD9 hS => ?_)
  have e9 : (z6 0) = q5 := e9
  subst e9
  have hP := hP9
  have hD := hD9
  have hP : va_P G.1 classes (((([(a, .inr (2, [.int 0, .int 0, .int 0, .int 0, .ref (z2 0), .ref (z4 0), .null]))] ++ crdW0 G z2) ++ hmpW0 G z4) ++ accW0 G z6)) H := hP
  have hD : va_D A (((([(a, .inr (2, [.int 0, .int 0, .int 0, .int 0, .ref (z2 0), .ref (z4 0), .null]))] ++ crdW0 G z2) ++ hmpW0 G z4) ++ accW0 G z6)) := hD
  refine W.widen (k := 16) (n := 159) (Nat.le_of_ble_eq_true rfl) (Nat.le_of_ble_eq_true rfl) ?_
  refine va_putF (D := G.1) (ci := 2) (v := .ref (z6 0)) (ty := .object "HamperClub$Accounts") (C := R_Clb) (T := F_Clb) (N := 7) hx hb hts i_Clb t_Clb t_Clb_ok n_Clb hown hK.1 hP hD hS 0 rfl rfl 6 (by decide) (hts _ tb_159) (fun _ h9 => h9) rfl hin rfl (by decide +kernel) rfl rfl (Nat.le_of_ble_eq_true rfl) d_Clb_init_34 (fun H locs hP hD hS => ?_)
  have hP : va_P G.1 classes (((([(a, .inr (2, [.int 0, .int 0, .int 0, .int 0, .ref (z2 0), .ref (z4 0), .ref (z6 0)]))] ++ crdW0 G z2) ++ hmpW0 G z4) ++ accW0 G z6)) H := hP
  have hD : va_D A (((([(a, .inr (2, [.int 0, .int 0, .int 0, .int 0, .ref (z2 0), .ref (z4 0), .ref (z6 0)]))] ++ crdW0 G z2) ++ hmpW0 G z4) ++ accW0 G z6)) := hD
  refine W.widen (k := 16) (n := 159) (Nat.le_of_ble_eq_true rfl) (Nat.le_of_ble_eq_true rfl) ?_
  obtain ⟨U9, eU9⟩ : ∃ z : Nat → Nat, z = fun i => if i = 0 then a else if i < 10 then z2 (i - 1) else if i < 16 then z4 (i - 10) else z6 (i - 16) := ⟨_, rfl⟩
  have e9 : ((([(a, .inr (2, [.int 0, .int 0, .int 0, .int 0, .ref (z2 0), .ref (z4 0), .ref (z6 0)]))] ++ crdW0 G z2) ++ hmpW0 G z4) ++ accW0 G z6) = clubW G U9 club0 := by rw [eU9]; rfl
  rw [e9] at hP hD
  exact r_cret (u := U9) hx hb hr hlocks hP hD hS d_Clb_init_37 (by subst eU9; rfl)
theorem io_Snp_9 : IOk y_Clb_init b_Clb_init 1 "HamperClub$Snapshot" 9 "HamperClub" := ⟨Or.inr (by decide +kernel), tb_31, tb_3, tb_32, rfl, by decide +kernel⟩
set_option maxHeartbeats 4000000 in
set_option maxRecDepth 100000 in
theorem c_Snp_init (l : Launch) (G : GG) (N0 tp ts : Nat) (a sz : Nat) : CMc l y_Snp_init b_Snp_init 1 3 17 166 G N0 tp ts [.ref a] sz ([(a, .inr (6, [.int 0, .null]))]) (fun u : (Nat → Nat) × (Nat → Nat) => snpW G u.1 u.2 0 ++ clubW G u.2 club0) (fun u => u.1 0 = a) := by
  refine CMc.start (by decide) (Nat.le_of_ble_eq_true rfl) (fun p e s m below meth c A ls hx hb hr hts hown hml hlocks hA hS hP hD hK hl hSK hAN hin => ?_)
  have hl : lv_has ls 1 [(0, .ref a)] := hl
  refine lv_aload_n hx hb d_Snp_init_0 rfl (lv_at hl 0 rfl) ?_
  refine W.objInit hx hb hown (hts _ tb_180) (hts _ tb_20) (hts _ tb_21) rfl (by rw [hml]; exact hl.1) rfl d_Snp_init_1 (Nat.le_of_ble_eq_true rfl) (Nat.le_of_ble_eq_true rfl) ?_
  refine W.eq (g2 := F0 m 4 ls []) rfl ?_
  refine lv_aload_n hx hb d_Snp_init_4 rfl (lv_at hl 0 rfl) ?_
  refine va_new (ci := 2) (fs := [.int 0, .int 0, .int 0, .int 0, .null, .null, .null]) (C := R_Clb) (T := F_Clb) (N := 7) hx hb hts i_Clb t_Clb t_Clb_ok hown (hts _ tb_181) (hts _ tb_29) (hts _ tb_3) hK.1 hP hD hS hA rfl (fun j hj => by rcases (show j = 0 ∨ j = 1 ∨ j = 2 ∨ j = 3 ∨ j = 4 ∨ j = 5 ∨ j = 6 by omega) with rfl | rfl | rfl | rfl | rfl | rfl | rfl <;> rfl) (Nat.le_of_ble_eq_true rfl) (Nat.le_of_ble_eq_true rfl) d_Snp_init_5 (fun q1 H hP hD hS => ?_)
  have hP : va_P G.1 classes (([(a, .inr (6, [.int 0, .null]))] ++ [(q1, .inr (2, [.int 0, .int 0, .int 0, .int 0, .null, .null, .null]))])) H := hP
  have hD : va_D A (([(a, .inr (6, [.int 0, .null]))] ++ [(q1, .inr (2, [.int 0, .int 0, .int 0, .int 0, .null, .null, .null]))])) := hD
  refine W.widen (k := 1) (n := 7) (Nat.le_of_ble_eq_true rfl) (Nat.le_of_ble_eq_true rfl) ?_
  refine lv_dup hx hb d_Snp_init_8 rfl ?_
  refine call_I (own := "HamperClub$Snapshot") (rest := [.ref q1, .ref a]) (pre := [(a, .inr (6, [.int 0, .null]))]) (wc := [(q1, .inr (2, [.int 0, .int 0, .int 0, .int 0, .null, .null, .null]))]) hx hb hml hts hown hK hA hSK hAN hP hD hS io_Snp_9 ⟨Nat.le_of_ble_eq_true rfl, Nat.le_of_ble_eq_true rfl⟩ ⟨Nat.le_of_ble_eq_true rfl, Nat.le_of_ble_eq_true rfl⟩ hl.1 rfl (Nat.le_of_ble_eq_true rfl) d_Snp_init_9 (c_Clb_init l G N0 tp ts q1 _) (fun z2 H locs e9 hP9 hD9 hS => ?_)
  have e9 : (z2 0) = q1 := e9
  subst e9
  have hP := hP9
  have hD := hD9
  have hP : va_P G.1 classes (([(a, .inr (6, [.int 0, .null]))] ++ clubW G z2 club0)) H := hP
  have hD : va_D A (([(a, .inr (6, [.int 0, .null]))] ++ clubW G z2 club0)) := hD
  refine W.widen (k := 17) (n := 166) (Nat.le_of_ble_eq_true rfl) (Nat.le_of_ble_eq_true rfl) ?_
  refine va_putF (D := G.1) (ci := 6) (v := .ref (z2 0)) (ty := .object "HamperClub$Club") (C := R_Snp) (T := F_Snp) (N := 2) hx hb hts i_Snp t_Snp t_Snp_ok n_Snp hown hK.1 hP hD hS 0 rfl rfl 1 (by decide) (hts _ tb_185) (fun _ h9 => h9) rfl hin rfl (by decide +kernel) rfl rfl (Nat.le_of_ble_eq_true rfl) d_Snp_init_12 (fun H locs hP hD hS => ?_)
  have hP : va_P G.1 classes (([(a, .inr (6, [.int 0, .ref (z2 0)]))] ++ clubW G z2 club0)) H := hP
  have hD : va_D A (([(a, .inr (6, [.int 0, .ref (z2 0)]))] ++ clubW G z2 club0)) := hD
  refine W.widen (k := 17) (n := 166) (Nat.le_of_ble_eq_true rfl) (Nat.le_of_ble_eq_true rfl) ?_
  obtain ⟨U9, eU9⟩ : ∃ z : (Nat → Nat) × (Nat → Nat), z = (fun _ => a, z2) := ⟨_, rfl⟩
  have e9 : ([(a, .inr (6, [.int 0, .ref (z2 0)]))] ++ clubW G z2 club0) = snpW G U9.1 U9.2 0 ++ clubW G U9.2 club0 := by rw [eU9]; rfl
  rw [e9] at hP hD
  exact r_cret (u := U9) hx hb hr hlocks hP hD hS d_Snp_init_15 (by subst eU9; rfl)
theorem io_Sta_11 : IOk y_Clb_init b_Clb_init 1 "HamperClub$State" 11 "HamperClub" := ⟨Or.inr (by decide +kernel), tb_31, tb_3, tb_32, rfl, by decide +kernel⟩
theorem io_Sta_20 : IOk y_Snp_init b_Snp_init 1 "HamperClub$State" 20 "HamperClub" := ⟨Or.inr (by decide +kernel), tb_178, tb_9, tb_179, rfl, by decide +kernel⟩
set_option maxHeartbeats 4000000 in
set_option maxRecDepth 100000 in
theorem c_Sta_init (l : Launch) (G : GG) (N0 tp ts : Nat) (a sz : Nat) : CMc l y_Sta_init b_Sta_init 1 4 53 502 G N0 tp ts [.ref a] sz ([(a, .inr (7, [.null, .null, .null]))]) (fun u : Nat → Nat → Nat => stW G u st0) (fun u => u 0 0 = a) := by
  refine CMc.start (by decide) (Nat.le_of_ble_eq_true rfl) (fun p e s m below meth c A ls hx hb hr hts hown hml hlocks hA hS hP hD hK hl hSK hAN hin => ?_)
  have hl : lv_has ls 1 [(0, .ref a)] := hl
  refine lv_aload_n hx hb d_Sta_init_0 rfl (lv_at hl 0 rfl) ?_
  refine W.objInit hx hb hown (hts _ tb_27) (hts _ tb_20) (hts _ tb_21) rfl (by rw [hml]; exact hl.1) rfl d_Sta_init_1 (Nat.le_of_ble_eq_true rfl) (Nat.le_of_ble_eq_true rfl) ?_
  refine W.eq (g2 := F0 m 4 ls []) rfl ?_
  refine lv_aload_n hx hb d_Sta_init_4 rfl (lv_at hl 0 rfl) ?_
  refine va_new (ci := 2) (fs := [.int 0, .int 0, .int 0, .int 0, .null, .null, .null]) (C := R_Clb) (T := F_Clb) (N := 7) hx hb hts i_Clb t_Clb t_Clb_ok hown (hts _ tb_28) (hts _ tb_29) (hts _ tb_3) hK.1 hP hD hS hA rfl (fun j hj => by rcases (show j = 0 ∨ j = 1 ∨ j = 2 ∨ j = 3 ∨ j = 4 ∨ j = 5 ∨ j = 6 by omega) with rfl | rfl | rfl | rfl | rfl | rfl | rfl <;> rfl) (Nat.le_of_ble_eq_true rfl) (Nat.le_of_ble_eq_true rfl) d_Sta_init_5 (fun q1 H hP hD hS => ?_)
  have hP : va_P G.1 classes (([(a, .inr (7, [.null, .null, .null]))] ++ [(q1, .inr (2, [.int 0, .int 0, .int 0, .int 0, .null, .null, .null]))])) H := hP
  have hD : va_D A (([(a, .inr (7, [.null, .null, .null]))] ++ [(q1, .inr (2, [.int 0, .int 0, .int 0, .int 0, .null, .null, .null]))])) := hD
  refine W.widen (k := 1) (n := 7) (Nat.le_of_ble_eq_true rfl) (Nat.le_of_ble_eq_true rfl) ?_
  refine lv_dup hx hb d_Sta_init_8 rfl ?_
  refine call_I (own := "HamperClub$State") (rest := [.ref q1, .ref a]) (pre := [(a, .inr (7, [.null, .null, .null]))]) (wc := [(q1, .inr (2, [.int 0, .int 0, .int 0, .int 0, .null, .null, .null]))]) hx hb hml hts hown hK hA hSK hAN hP hD hS io_Sta_11 ⟨Nat.le_of_ble_eq_true rfl, Nat.le_of_ble_eq_true rfl⟩ ⟨Nat.le_of_ble_eq_true rfl, Nat.le_of_ble_eq_true rfl⟩ hl.1 rfl (Nat.le_of_ble_eq_true rfl) d_Sta_init_9 (c_Clb_init l G N0 tp ts q1 _) (fun z2 H locs e9 hP9 hD9 hS => ?_)
  have e9 : (z2 0) = q1 := e9
  subst e9
  have hP := hP9
  have hD := hD9
  have hP : va_P G.1 classes (([(a, .inr (7, [.null, .null, .null]))] ++ clubW G z2 club0)) H := hP
  have hD : va_D A (([(a, .inr (7, [.null, .null, .null]))] ++ clubW G z2 club0)) := hD
  refine W.widen (k := 17) (n := 166) (Nat.le_of_ble_eq_true rfl) (Nat.le_of_ble_eq_true rfl) ?_
  refine va_putF (D := G.1) (ci := 7) (v := .ref (z2 0)) (ty := .object "HamperClub$Club") (C := R_Sta) (T := F_Sta) (N := 3) hx hb hts i_Sta t_Sta t_Sta_ok n_Sta hown hK.1 hP hD hS 0 rfl rfl 0 (by decide) (hts _ tb_192) (fun _ h9 => h9) rfl hin rfl (by decide +kernel) rfl rfl (Nat.le_of_ble_eq_true rfl) d_Sta_init_12 (fun H locs hP hD hS => ?_)
  have hP : va_P G.1 classes (([(a, .inr (7, [.ref (z2 0), .null, .null]))] ++ clubW G z2 club0)) H := hP
  have hD : va_D A (([(a, .inr (7, [.ref (z2 0), .null, .null]))] ++ clubW G z2 club0)) := hD
  refine lv_aload_n hx hb d_Sta_init_15 rfl (lv_at hl 0 rfl) ?_
  refine va_new (ci := 6) (fs := [.int 0, .null]) (C := R_Snp) (T := F_Snp) (N := 2) hx hb hts i_Snp t_Snp t_Snp_ok hown (hts _ tb_175) (hts _ tb_176) (hts _ tb_9) hK.1 hP hD hS hA rfl (fun j hj => by rcases (show j = 0 ∨ j = 1 by omega) with rfl | rfl <;> rfl) (Nat.le_of_ble_eq_true rfl) (Nat.le_of_ble_eq_true rfl) d_Sta_init_16 (fun q3 H hP hD hS => ?_)
  have hP : va_P G.1 classes ((([(a, .inr (7, [.ref (z2 0), .null, .null]))] ++ clubW G z2 club0) ++ [(q3, .inr (6, [.int 0, .null]))])) H := hP
  have hD : va_D A ((([(a, .inr (7, [.ref (z2 0), .null, .null]))] ++ clubW G z2 club0) ++ [(q3, .inr (6, [.int 0, .null]))])) := hD
  refine W.widen (k := 18) (n := 168) (Nat.le_of_ble_eq_true rfl) (Nat.le_of_ble_eq_true rfl) ?_
  refine lv_dup hx hb d_Sta_init_19 rfl ?_
  refine call_I (own := "HamperClub$State") (rest := [.ref q3, .ref a]) (pre := ([(a, .inr (7, [.ref (z2 0), .null, .null]))] ++ clubW G z2 club0)) (wc := [(q3, .inr (6, [.int 0, .null]))]) hx hb hml hts hown hK hA hSK hAN hP hD hS io_Sta_20 ⟨Nat.le_of_ble_eq_true rfl, Nat.le_of_ble_eq_true rfl⟩ ⟨Nat.le_of_ble_eq_true rfl, Nat.le_of_ble_eq_true rfl⟩ hl.1 rfl (Nat.le_of_ble_eq_true rfl) d_Sta_init_20 (c_Snp_init l G N0 tp ts q3 _) (fun z4 H locs e9 hP9 hD9 hS => ?_)
  have e9 : (z4.1 0) = q3 := e9
  subst e9
  have hP := hP9
  have hD := hD9
  have hP : va_P G.1 classes ((([(a, .inr (7, [.ref (z2 0), .null, .null]))] ++ clubW G z2 club0) ++ (snpW G z4.1 z4.2 0 ++ clubW G z4.2 club0))) H := hP
  have hD : va_D A ((([(a, .inr (7, [.ref (z2 0), .null, .null]))] ++ clubW G z2 club0) ++ (snpW G z4.1 z4.2 0 ++ clubW G z4.2 club0))) := hD
  refine W.widen (k := 35) (n := 334) (Nat.le_of_ble_eq_true rfl) (Nat.le_of_ble_eq_true rfl) ?_
  refine va_putF (D := G.1) (ci := 7) (v := .ref (z4.1 0)) (ty := .object "HamperClub$Snapshot") (C := R_Sta) (T := F_Sta) (N := 3) hx hb hts i_Sta t_Sta t_Sta_ok n_Sta hown hK.1 hP hD hS 0 rfl rfl 1 (by decide) (hts _ tb_194) (fun _ h9 => h9) rfl hin rfl (by decide +kernel) rfl rfl (Nat.le_of_ble_eq_true rfl) d_Sta_init_23 (fun H locs hP hD hS => ?_)
  have hP : va_P G.1 classes ((([(a, .inr (7, [.ref (z2 0), .ref (z4.1 0), .null]))] ++ clubW G z2 club0) ++ (snpW G z4.1 z4.2 0 ++ clubW G z4.2 club0))) H := hP
  have hD : va_D A ((([(a, .inr (7, [.ref (z2 0), .ref (z4.1 0), .null]))] ++ clubW G z2 club0) ++ (snpW G z4.1 z4.2 0 ++ clubW G z4.2 club0))) := hD
  refine lv_aload_n hx hb d_Sta_init_26 rfl (lv_at hl 0 rfl) ?_
  refine va_new (ci := 6) (fs := [.int 0, .null]) (C := R_Snp) (T := F_Snp) (N := 2) hx hb hts i_Snp t_Snp t_Snp_ok hown (hts _ tb_175) (hts _ tb_176) (hts _ tb_9) hK.1 hP hD hS hA rfl (fun j hj => by rcases (show j = 0 ∨ j = 1 by omega) with rfl | rfl <;> rfl) (Nat.le_of_ble_eq_true rfl) (Nat.le_of_ble_eq_true rfl) d_Sta_init_27 (fun q5 H hP hD hS => ?_)
  have hP : va_P G.1 classes (((([(a, .inr (7, [.ref (z2 0), .ref (z4.1 0), .null]))] ++ clubW G z2 club0) ++ (snpW G z4.1 z4.2 0 ++ clubW G z4.2 club0)) ++ [(q5, .inr (6, [.int 0, .null]))])) H := hP
  have hD : va_D A (((([(a, .inr (7, [.ref (z2 0), .ref (z4.1 0), .null]))] ++ clubW G z2 club0) ++ (snpW G z4.1 z4.2 0 ++ clubW G z4.2 club0)) ++ [(q5, .inr (6, [.int 0, .null]))])) := hD
  refine W.widen (k := 36) (n := 336) (Nat.le_of_ble_eq_true rfl) (Nat.le_of_ble_eq_true rfl) ?_
  refine lv_dup hx hb d_Sta_init_30 rfl ?_
  refine call_I (own := "HamperClub$State") (rest := [.ref q5, .ref a]) (pre := (([(a, .inr (7, [.ref (z2 0), .ref (z4.1 0), .null]))] ++ clubW G z2 club0) ++ (snpW G z4.1 z4.2 0 ++ clubW G z4.2 club0))) (wc := [(q5, .inr (6, [.int 0, .null]))]) hx hb hml hts hown hK hA hSK hAN hP hD hS io_Sta_20 ⟨Nat.le_of_ble_eq_true rfl, Nat.le_of_ble_eq_true rfl⟩ ⟨Nat.le_of_ble_eq_true rfl, Nat.le_of_ble_eq_true rfl⟩ hl.1 rfl (Nat.le_of_ble_eq_true rfl) d_Sta_init_31 (c_Snp_init l G N0 tp ts q5 _) (fun z6 H locs e9 hP9 hD9 hS => ?_)
  have e9 : (z6.1 0) = q5 := e9
  subst e9
  have hP := hP9
  have hD := hD9
  have hP : va_P G.1 classes (((([(a, .inr (7, [.ref (z2 0), .ref (z4.1 0), .null]))] ++ clubW G z2 club0) ++ (snpW G z4.1 z4.2 0 ++ clubW G z4.2 club0)) ++ (snpW G z6.1 z6.2 0 ++ clubW G z6.2 club0))) H := hP
  have hD : va_D A (((([(a, .inr (7, [.ref (z2 0), .ref (z4.1 0), .null]))] ++ clubW G z2 club0) ++ (snpW G z4.1 z4.2 0 ++ clubW G z4.2 club0)) ++ (snpW G z6.1 z6.2 0 ++ clubW G z6.2 club0))) := hD
  refine W.widen (k := 53) (n := 502) (Nat.le_of_ble_eq_true rfl) (Nat.le_of_ble_eq_true rfl) ?_
  refine va_putF (D := G.1) (ci := 7) (v := .ref (z6.1 0)) (ty := .object "HamperClub$Snapshot") (C := R_Sta) (T := F_Sta) (N := 3) hx hb hts i_Sta t_Sta t_Sta_ok n_Sta hown hK.1 hP hD hS 0 rfl rfl 2 (by decide) (hts _ tb_195) (fun _ h9 => h9) rfl hin rfl (by decide +kernel) rfl rfl (Nat.le_of_ble_eq_true rfl) d_Sta_init_34 (fun H locs hP hD hS => ?_)
  have hP : va_P G.1 classes (((([(a, .inr (7, [.ref (z2 0), .ref (z4.1 0), .ref (z6.1 0)]))] ++ clubW G z2 club0) ++ (snpW G z4.1 z4.2 0 ++ clubW G z4.2 club0)) ++ (snpW G z6.1 z6.2 0 ++ clubW G z6.2 club0))) H := hP
  have hD : va_D A (((([(a, .inr (7, [.ref (z2 0), .ref (z4.1 0), .ref (z6.1 0)]))] ++ clubW G z2 club0) ++ (snpW G z4.1 z4.2 0 ++ clubW G z4.2 club0)) ++ (snpW G z6.1 z6.2 0 ++ clubW G z6.2 club0))) := hD
  refine W.widen (k := 53) (n := 502) (Nat.le_of_ble_eq_true rfl) (Nat.le_of_ble_eq_true rfl) ?_
  obtain ⟨U9, eU9⟩ : ∃ z : Nat → Nat → Nat, z = fun i => if i = 0 then fun _ => a else if i = 1 then z2 else if i = 2 then z4.1 else if i = 3 then z4.2 else if i = 4 then z6.1 else z6.2 := ⟨_, rfl⟩
  have e9 : ((([(a, .inr (7, [.ref (z2 0), .ref (z4.1 0), .ref (z6.1 0)]))] ++ clubW G z2 club0) ++ (snpW G z4.1 z4.2 0 ++ clubW G z4.2 club0)) ++ (snpW G z6.1 z6.2 0 ++ clubW G z6.2 club0)) = stW G U9 st0 := by rw [eU9]; simp only [List.append_assoc]; rfl
  rw [e9] at hP hD
  exact r_cret (u := U9) hx hb hr hlocks hP hD hS d_Sta_init_37 (by subst eU9; rfl)
theorem io_His_17 : IOk y_Sta_init b_Sta_init 1 "HamperClub$History" 17 "HamperClub" := ⟨Or.inr (by decide +kernel), tb_25, tb_2, tb_26, rfl, by decide +kernel⟩
set_option maxHeartbeats 4000000 in
set_option maxRecDepth 100000 in
theorem c_His_init (l : Launch) (G : GG) (N0 tp ts : Nat) (a sz : Nat) : CMc l y_His_init b_His_init 2 5 325 3036 G N0 tp ts [.ref a] sz ([(a, .inr (4, [.null, .int 0, .int 0]))]) (fun u : (Nat → Nat) × (Nat → Nat → Nat → Nat) => hisW G u.1 u.2 (fun _ => 0) ++ frW G u.2 (fun _ => st0) 0 6) (fun u => u.1 0 = a) := by
  refine CMc.start (by decide) (Nat.le_of_ble_eq_true rfl) (fun p e s m below meth c A ls hx hb hr hts hown hml hlocks hA hS hP hD hK hl hSK hAN hin => ?_)
  have hl : lv_has ls 2 [(0, .ref a)] := hl
  refine lv_aload_n hx hb d_His_init_0 rfl (lv_at hl 0 rfl) ?_
  refine W.objInit hx hb hown (hts _ tb_208) (hts _ tb_20) (hts _ tb_21) rfl (by rw [hml]; exact hl.1) rfl d_His_init_1 (Nat.le_of_ble_eq_true rfl) (Nat.le_of_ble_eq_true rfl) ?_
  refine W.eq (g2 := F0 m 4 ls []) rfl ?_
  refine lv_aload_n hx hb d_His_init_4 rfl (lv_at hl 0 rfl) ?_
  refine lv_bipush (v := 6) hx hb d_His_init_5 (by decide) ?_
  refine va_newq hx hb hown (hts _ tb_209) hSK.2.2.2.2 hK.1 hP hD hS hA (N' := 6) (by decide) (by decide) (by decide) (Nat.le_of_ble_eq_true rfl) (Nat.le_of_ble_eq_true rfl) d_His_init_7 (fun q1 cA H hK1 hP hD hS => ?_)
  obtain rfl := newK (t0 := 3) (Or.inr (Or.inr (Or.inr ⟨_, rfl⟩))) hK.1 hK1 rfl
  have hP : va_P G.1 classes (([(a, .inr (4, [.null, .int 0, .int 0]))] ++ [(q1, .inl (G.2 3, 6, .inr (.inr (.inr (.inr (fun _ => none))))))])) H := hP
  have hD : va_D A (([(a, .inr (4, [.null, .int 0, .int 0]))] ++ [(q1, .inl (G.2 3, 6, .inr (.inr (.inr (.inr (fun _ => none))))))])) := hD
  refine W.widen (k := 1) (n := 6) (Nat.le_of_ble_eq_true rfl) (Nat.le_of_ble_eq_true rfl) ?_
  refine va_putF (D := G.1) (ci := 4) (v := .ref q1) (ty := .array (.object "HamperClub$State")) (C := R_His) (T := F_His) (N := 3) hx hb hts i_His t_His t_His_ok n_His hown hK.1 hP hD hS 0 rfl rfl 0 (by decide) (hts _ tb_212) (fun _ h9 => h9) rfl hin rfl (by decide +kernel) rfl rfl (Nat.le_of_ble_eq_true rfl) d_His_init_10 (fun H locs hP hD hS => ?_)
  have hP : va_P G.1 classes (([(a, .inr (4, [.ref q1, .int 0, .int 0]))] ++ [(q1, .inl (G.2 3, 6, .inr (.inr (.inr (.inr (fun _ => none))))))])) H := hP
  have hD : va_D A (([(a, .inr (4, [.ref q1, .int 0, .int 0]))] ++ [(q1, .inl (G.2 3, 6, .inr (.inr (.inr (.inr (fun _ => none))))))])) := hD
  refine lv_iconst (v := 0) hx hb d_His_init_13 (by decide) ?_
  refine lv_istore_n (lv' := [(1, .int 0), (0, .ref a)]) hx hb d_His_init_14 rfl hl (by decide) rfl (fun ls hl => ?_)
  refine lv_iload_n hx hb d_His_init_15 rfl (lv_at hl 0 rfl) ?_
  refine lv_bipush (v := 6) hx hb d_His_init_16 (by decide) ?_
  refine lv_icmp_ge (tgt := 40) hx hb d_His_init_18 (by decide) (fun hc => absurd hc (by decide)) (fun _ => ?_)
  refine lv_aload_n hx hb d_His_init_21 rfl (lv_at hl 1 rfl) ?_
  refine va_get (D := G.1) (ci := 4) (v := .ref q1) (C := R_His) (T := F_His) (N := 3) hx hb hts i_His hown hK.1 hP 0 rfl rfl 0 (by decide) (hts _ tb_212) (fun _ h9 => h9) rfl d_His_init_22 ?_
  refine lv_iload_n hx hb d_His_init_25 rfl (lv_at hl 0 rfl) ?_
  refine va_new (ci := 7) (fs := [.null, .null, .null]) (C := R_Sta) (T := F_Sta) (N := 3) hx hb hts i_Sta t_Sta t_Sta_ok hown (hts _ tb_209) (hts _ tb_23) (hts _ tb_2) hK.1 hP hD hS hA rfl (fun j hj => by rcases (show j = 0 ∨ j = 1 ∨ j = 2 by omega) with rfl | rfl | rfl <;> rfl) (Nat.le_of_ble_eq_true rfl) (Nat.le_of_ble_eq_true rfl) d_His_init_26 (fun q2 H hP hD hS => ?_)
  have hP : va_P G.1 classes ((([(a, .inr (4, [.ref q1, .int 0, .int 0]))] ++ [(q1, .inl (G.2 3, 6, .inr (.inr (.inr (.inr (fun _ => none))))))]) ++ [(q2, .inr (7, [.null, .null, .null]))])) H := hP
  have hD : va_D A ((([(a, .inr (4, [.ref q1, .int 0, .int 0]))] ++ [(q1, .inl (G.2 3, 6, .inr (.inr (.inr (.inr (fun _ => none))))))]) ++ [(q2, .inr (7, [.null, .null, .null]))])) := hD
  refine W.widen (k := 2) (n := 9) (Nat.le_of_ble_eq_true rfl) (Nat.le_of_ble_eq_true rfl) ?_
  refine lv_dup hx hb d_His_init_29 rfl ?_
  refine call_I (own := "HamperClub$History") (rest := [.ref q2, .int 0, .ref q1]) (pre := ([(a, .inr (4, [.ref q1, .int 0, .int 0]))] ++ [(q1, .inl (G.2 3, 6, .inr (.inr (.inr (.inr (fun _ => none))))))])) (wc := [(q2, .inr (7, [.null, .null, .null]))]) hx hb hml hts hown hK hA hSK hAN hP hD hS io_His_17 ⟨Nat.le_of_ble_eq_true rfl, Nat.le_of_ble_eq_true rfl⟩ ⟨Nat.le_of_ble_eq_true rfl, Nat.le_of_ble_eq_true rfl⟩ hl.1 rfl (Nat.le_of_ble_eq_true rfl) d_His_init_30 (c_Sta_init l G N0 tp ts q2 _) (fun z3 H locs e9 hP9 hD9 hS => ?_)
  have e9 : (z3 0 0) = q2 := e9
  subst e9
  have hP := hP9
  have hD := hD9
  have hP : va_P G.1 classes ((([(a, .inr (4, [.ref q1, .int 0, .int 0]))] ++ [(q1, .inl (G.2 3, 6, .inr (.inr (.inr (.inr (fun _ => none))))))]) ++ stW G z3 st0)) H := hP
  have hD : va_D A ((([(a, .inr (4, [.ref q1, .int 0, .int 0]))] ++ [(q1, .inl (G.2 3, 6, .inr (.inr (.inr (.inr (fun _ => none))))))]) ++ stW G z3 st0)) := hD
  refine W.widen (k := 55) (n := 511) (Nat.le_of_ble_eq_true rfl) (Nat.le_of_ble_eq_true rfl) ?_
  refine va_astq hx hb hK.1 hP hD hS 1 3 ((([(a, .inr (4, [.ref q1, .int 0, .int 0]))] ++ [(q1, .inl (G.2 3, 6, .inr (.inr (.inr (.inr (fun _ => none))))))]) : va_W).length + 0) 7 rfl rfl ((seg_get (wc := stW G z3 st0) rfl).trans rfl) rfl (by unfold vp_in; decide) d_His_init_33 (fun H locs hP hD hS => ?_)
  have hP : va_P G.1 classes ((([(a, .inr (4, [.ref q1, .int 0, .int 0]))] ++ [(q1, .inl (G.2 3, 6, .inr (.inr (.inr (.inr (va_up (fun _ => none) (0 : Int32).toNatClampNeg (some (z3 0 0))))))))]) ++ stW G z3 st0)) H := hP
  have hD : va_D A ((([(a, .inr (4, [.ref q1, .int 0, .int 0]))] ++ [(q1, .inl (G.2 3, 6, .inr (.inr (.inr (.inr (va_up (fun _ => none) (0 : Int32).toNatClampNeg (some (z3 0 0))))))))]) ++ stW G z3 st0)) := hD
  refine lv_iinc (v := 1) (lv' := [(1, .int 1), (0, .ref a)]) hx hb d_His_init_34 hl (k := 0) rfl (by decide) (by decide) rfl (fun ls hl => ?_)
  refine lv_goto (tgt := 15) hx hb d_His_init_37 (by decide) ?_
  refine lv_iload_n hx hb d_His_init_15 rfl (lv_at hl 0 rfl) ?_
  refine lv_bipush (v := 6) hx hb d_His_init_16 (by decide) ?_
  refine lv_icmp_ge (tgt := 40) hx hb d_His_init_18 (by decide) (fun hc => absurd hc (by decide)) (fun _ => ?_)
  refine lv_aload_n hx hb d_His_init_21 rfl (lv_at hl 1 rfl) ?_
  refine va_get (D := G.1) (ci := 4) (v := .ref q1) (C := R_His) (T := F_His) (N := 3) hx hb hts i_His hown hK.1 hP 0 rfl rfl 0 (by decide) (hts _ tb_212) (fun _ h9 => h9) rfl d_His_init_22 ?_
  refine lv_iload_n hx hb d_His_init_25 rfl (lv_at hl 0 rfl) ?_
  refine va_new (ci := 7) (fs := [.null, .null, .null]) (C := R_Sta) (T := F_Sta) (N := 3) hx hb hts i_Sta t_Sta t_Sta_ok hown (hts _ tb_209) (hts _ tb_23) (hts _ tb_2) hK.1 hP hD hS hA rfl (fun j hj => by rcases (show j = 0 ∨ j = 1 ∨ j = 2 by omega) with rfl | rfl | rfl <;> rfl) (Nat.le_of_ble_eq_true rfl) (Nat.le_of_ble_eq_true rfl) d_His_init_26 (fun q4 H hP hD hS => ?_)
  have hP : va_P G.1 classes (((([(a, .inr (4, [.ref q1, .int 0, .int 0]))] ++ [(q1, .inl (G.2 3, 6, .inr (.inr (.inr (.inr (va_up (fun _ => none) (0 : Int32).toNatClampNeg (some (z3 0 0))))))))]) ++ stW G z3 st0) ++ [(q4, .inr (7, [.null, .null, .null]))])) H := hP
  have hD : va_D A (((([(a, .inr (4, [.ref q1, .int 0, .int 0]))] ++ [(q1, .inl (G.2 3, 6, .inr (.inr (.inr (.inr (va_up (fun _ => none) (0 : Int32).toNatClampNeg (some (z3 0 0))))))))]) ++ stW G z3 st0) ++ [(q4, .inr (7, [.null, .null, .null]))])) := hD
  refine W.widen (k := 56) (n := 514) (Nat.le_of_ble_eq_true rfl) (Nat.le_of_ble_eq_true rfl) ?_
  refine lv_dup hx hb d_His_init_29 rfl ?_
  refine call_I (own := "HamperClub$History") (rest := [.ref q4, .int 1, .ref q1]) (pre := (([(a, .inr (4, [.ref q1, .int 0, .int 0]))] ++ [(q1, .inl (G.2 3, 6, .inr (.inr (.inr (.inr (va_up (fun _ => none) (0 : Int32).toNatClampNeg (some (z3 0 0))))))))]) ++ stW G z3 st0)) (wc := [(q4, .inr (7, [.null, .null, .null]))]) hx hb hml hts hown hK hA hSK hAN hP hD hS io_His_17 ⟨Nat.le_of_ble_eq_true rfl, Nat.le_of_ble_eq_true rfl⟩ ⟨Nat.le_of_ble_eq_true rfl, Nat.le_of_ble_eq_true rfl⟩ hl.1 rfl (Nat.le_of_ble_eq_true rfl) d_His_init_30 (c_Sta_init l G N0 tp ts q4 _) (fun z5 H locs e9 hP9 hD9 hS => ?_)
  have e9 : (z5 0 0) = q4 := e9
  subst e9
  have hP := hP9
  have hD := hD9
  have hP : va_P G.1 classes (((([(a, .inr (4, [.ref q1, .int 0, .int 0]))] ++ [(q1, .inl (G.2 3, 6, .inr (.inr (.inr (.inr (va_up (fun _ => none) (0 : Int32).toNatClampNeg (some (z3 0 0))))))))]) ++ stW G z3 st0) ++ stW G z5 st0)) H := hP
  have hD : va_D A (((([(a, .inr (4, [.ref q1, .int 0, .int 0]))] ++ [(q1, .inl (G.2 3, 6, .inr (.inr (.inr (.inr (va_up (fun _ => none) (0 : Int32).toNatClampNeg (some (z3 0 0))))))))]) ++ stW G z3 st0) ++ stW G z5 st0)) := hD
  refine W.widen (k := 109) (n := 1016) (Nat.le_of_ble_eq_true rfl) (Nat.le_of_ble_eq_true rfl) ?_
  refine va_astq hx hb hK.1 hP hD hS 1 3 (((([(a, .inr (4, [.ref q1, .int 0, .int 0]))] ++ [(q1, .inl (G.2 3, 6, .inr (.inr (.inr (.inr (va_up (fun _ => none) (0 : Int32).toNatClampNeg (some (z3 0 0))))))))]) ++ stW G z3 st0) : va_W).length + 0) 7 rfl rfl ((seg_get (wc := stW G z5 st0) rfl).trans rfl) rfl (by unfold vp_in; decide) d_His_init_33 (fun H locs hP hD hS => ?_)
  have hP : va_P G.1 classes (((([(a, .inr (4, [.ref q1, .int 0, .int 0]))] ++ [(q1, .inl (G.2 3, 6, .inr (.inr (.inr (.inr (va_up (va_up (fun _ => none) (0 : Int32).toNatClampNeg (some (z3 0 0))) (1 : Int32).toNatClampNeg (some (z5 0 0))))))))]) ++ stW G z3 st0) ++ stW G z5 st0)) H := hP
  have hD : va_D A (((([(a, .inr (4, [.ref q1, .int 0, .int 0]))] ++ [(q1, .inl (G.2 3, 6, .inr (.inr (.inr (.inr (va_up (va_up (fun _ => none) (0 : Int32).toNatClampNeg (some (z3 0 0))) (1 : Int32).toNatClampNeg (some (z5 0 0))))))))]) ++ stW G z3 st0) ++ stW G z5 st0)) := hD
  refine lv_iinc (v := 2) (lv' := [(1, .int 2), (0, .ref a)]) hx hb d_His_init_34 hl (k := 0) rfl (by decide) (by decide) rfl (fun ls hl => ?_)
  refine lv_goto (tgt := 15) hx hb d_His_init_37 (by decide) ?_
  refine lv_iload_n hx hb d_His_init_15 rfl (lv_at hl 0 rfl) ?_
  refine lv_bipush (v := 6) hx hb d_His_init_16 (by decide) ?_
  refine lv_icmp_ge (tgt := 40) hx hb d_His_init_18 (by decide) (fun hc => absurd hc (by decide)) (fun _ => ?_)
  refine lv_aload_n hx hb d_His_init_21 rfl (lv_at hl 1 rfl) ?_
  refine va_get (D := G.1) (ci := 4) (v := .ref q1) (C := R_His) (T := F_His) (N := 3) hx hb hts i_His hown hK.1 hP 0 rfl rfl 0 (by decide) (hts _ tb_212) (fun _ h9 => h9) rfl d_His_init_22 ?_
  refine lv_iload_n hx hb d_His_init_25 rfl (lv_at hl 0 rfl) ?_
  refine va_new (ci := 7) (fs := [.null, .null, .null]) (C := R_Sta) (T := F_Sta) (N := 3) hx hb hts i_Sta t_Sta t_Sta_ok hown (hts _ tb_209) (hts _ tb_23) (hts _ tb_2) hK.1 hP hD hS hA rfl (fun j hj => by rcases (show j = 0 ∨ j = 1 ∨ j = 2 by omega) with rfl | rfl | rfl <;> rfl) (Nat.le_of_ble_eq_true rfl) (Nat.le_of_ble_eq_true rfl) d_His_init_26 (fun q6 H hP hD hS => ?_)
  have hP : va_P G.1 classes ((((([(a, .inr (4, [.ref q1, .int 0, .int 0]))] ++ [(q1, .inl (G.2 3, 6, .inr (.inr (.inr (.inr (va_up (va_up (fun _ => none) (0 : Int32).toNatClampNeg (some (z3 0 0))) (1 : Int32).toNatClampNeg (some (z5 0 0))))))))]) ++ stW G z3 st0) ++ stW G z5 st0) ++ [(q6, .inr (7, [.null, .null, .null]))])) H := hP
  have hD : va_D A ((((([(a, .inr (4, [.ref q1, .int 0, .int 0]))] ++ [(q1, .inl (G.2 3, 6, .inr (.inr (.inr (.inr (va_up (va_up (fun _ => none) (0 : Int32).toNatClampNeg (some (z3 0 0))) (1 : Int32).toNatClampNeg (some (z5 0 0))))))))]) ++ stW G z3 st0) ++ stW G z5 st0) ++ [(q6, .inr (7, [.null, .null, .null]))])) := hD
  refine W.widen (k := 110) (n := 1019) (Nat.le_of_ble_eq_true rfl) (Nat.le_of_ble_eq_true rfl) ?_
  refine lv_dup hx hb d_His_init_29 rfl ?_
  refine call_I (own := "HamperClub$History") (rest := [.ref q6, .int 2, .ref q1]) (pre := ((([(a, .inr (4, [.ref q1, .int 0, .int 0]))] ++ [(q1, .inl (G.2 3, 6, .inr (.inr (.inr (.inr (va_up (va_up (fun _ => none) (0 : Int32).toNatClampNeg (some (z3 0 0))) (1 : Int32).toNatClampNeg (some (z5 0 0))))))))]) ++ stW G z3 st0) ++ stW G z5 st0)) (wc := [(q6, .inr (7, [.null, .null, .null]))]) hx hb hml hts hown hK hA hSK hAN hP hD hS io_His_17 ⟨Nat.le_of_ble_eq_true rfl, Nat.le_of_ble_eq_true rfl⟩ ⟨Nat.le_of_ble_eq_true rfl, Nat.le_of_ble_eq_true rfl⟩ hl.1 rfl (Nat.le_of_ble_eq_true rfl) d_His_init_30 (c_Sta_init l G N0 tp ts q6 _) (fun z7 H locs e9 hP9 hD9 hS => ?_)
  have e9 : (z7 0 0) = q6 := e9
  subst e9
  have hP := hP9
  have hD := hD9
  have hP : va_P G.1 classes ((((([(a, .inr (4, [.ref q1, .int 0, .int 0]))] ++ [(q1, .inl (G.2 3, 6, .inr (.inr (.inr (.inr (va_up (va_up (fun _ => none) (0 : Int32).toNatClampNeg (some (z3 0 0))) (1 : Int32).toNatClampNeg (some (z5 0 0))))))))]) ++ stW G z3 st0) ++ stW G z5 st0) ++ stW G z7 st0)) H := hP
  have hD : va_D A ((((([(a, .inr (4, [.ref q1, .int 0, .int 0]))] ++ [(q1, .inl (G.2 3, 6, .inr (.inr (.inr (.inr (va_up (va_up (fun _ => none) (0 : Int32).toNatClampNeg (some (z3 0 0))) (1 : Int32).toNatClampNeg (some (z5 0 0))))))))]) ++ stW G z3 st0) ++ stW G z5 st0) ++ stW G z7 st0)) := hD
  refine W.widen (k := 163) (n := 1521) (Nat.le_of_ble_eq_true rfl) (Nat.le_of_ble_eq_true rfl) ?_
  refine va_astq hx hb hK.1 hP hD hS 1 3 ((((([(a, .inr (4, [.ref q1, .int 0, .int 0]))] ++ [(q1, .inl (G.2 3, 6, .inr (.inr (.inr (.inr (va_up (va_up (fun _ => none) (0 : Int32).toNatClampNeg (some (z3 0 0))) (1 : Int32).toNatClampNeg (some (z5 0 0))))))))]) ++ stW G z3 st0) ++ stW G z5 st0) : va_W).length + 0) 7 rfl rfl ((seg_get (wc := stW G z7 st0) rfl).trans rfl) rfl (by unfold vp_in; decide) d_His_init_33 (fun H locs hP hD hS => ?_)
  have hP : va_P G.1 classes ((((([(a, .inr (4, [.ref q1, .int 0, .int 0]))] ++ [(q1, .inl (G.2 3, 6, .inr (.inr (.inr (.inr (va_up (va_up (va_up (fun _ => none) (0 : Int32).toNatClampNeg (some (z3 0 0))) (1 : Int32).toNatClampNeg (some (z5 0 0))) (2 : Int32).toNatClampNeg (some (z7 0 0))))))))]) ++ stW G z3 st0) ++ stW G z5 st0) ++ stW G z7 st0)) H := hP
  have hD : va_D A ((((([(a, .inr (4, [.ref q1, .int 0, .int 0]))] ++ [(q1, .inl (G.2 3, 6, .inr (.inr (.inr (.inr (va_up (va_up (va_up (fun _ => none) (0 : Int32).toNatClampNeg (some (z3 0 0))) (1 : Int32).toNatClampNeg (some (z5 0 0))) (2 : Int32).toNatClampNeg (some (z7 0 0))))))))]) ++ stW G z3 st0) ++ stW G z5 st0) ++ stW G z7 st0)) := hD
  refine lv_iinc (v := 3) (lv' := [(1, .int 3), (0, .ref a)]) hx hb d_His_init_34 hl (k := 0) rfl (by decide) (by decide) rfl (fun ls hl => ?_)
  refine lv_goto (tgt := 15) hx hb d_His_init_37 (by decide) ?_
  refine lv_iload_n hx hb d_His_init_15 rfl (lv_at hl 0 rfl) ?_
  refine lv_bipush (v := 6) hx hb d_His_init_16 (by decide) ?_
  refine lv_icmp_ge (tgt := 40) hx hb d_His_init_18 (by decide) (fun hc => absurd hc (by decide)) (fun _ => ?_)
  refine lv_aload_n hx hb d_His_init_21 rfl (lv_at hl 1 rfl) ?_
  refine va_get (D := G.1) (ci := 4) (v := .ref q1) (C := R_His) (T := F_His) (N := 3) hx hb hts i_His hown hK.1 hP 0 rfl rfl 0 (by decide) (hts _ tb_212) (fun _ h9 => h9) rfl d_His_init_22 ?_
  refine lv_iload_n hx hb d_His_init_25 rfl (lv_at hl 0 rfl) ?_
  refine va_new (ci := 7) (fs := [.null, .null, .null]) (C := R_Sta) (T := F_Sta) (N := 3) hx hb hts i_Sta t_Sta t_Sta_ok hown (hts _ tb_209) (hts _ tb_23) (hts _ tb_2) hK.1 hP hD hS hA rfl (fun j hj => by rcases (show j = 0 ∨ j = 1 ∨ j = 2 by omega) with rfl | rfl | rfl <;> rfl) (Nat.le_of_ble_eq_true rfl) (Nat.le_of_ble_eq_true rfl) d_His_init_26 (fun q8 H hP hD hS => ?_)
  have hP : va_P G.1 classes (((((([(a, .inr (4, [.ref q1, .int 0, .int 0]))] ++ [(q1, .inl (G.2 3, 6, .inr (.inr (.inr (.inr (va_up (va_up (va_up (fun _ => none) (0 : Int32).toNatClampNeg (some (z3 0 0))) (1 : Int32).toNatClampNeg (some (z5 0 0))) (2 : Int32).toNatClampNeg (some (z7 0 0))))))))]) ++ stW G z3 st0) ++ stW G z5 st0) ++ stW G z7 st0) ++ [(q8, .inr (7, [.null, .null, .null]))])) H := hP
  have hD : va_D A (((((([(a, .inr (4, [.ref q1, .int 0, .int 0]))] ++ [(q1, .inl (G.2 3, 6, .inr (.inr (.inr (.inr (va_up (va_up (va_up (fun _ => none) (0 : Int32).toNatClampNeg (some (z3 0 0))) (1 : Int32).toNatClampNeg (some (z5 0 0))) (2 : Int32).toNatClampNeg (some (z7 0 0))))))))]) ++ stW G z3 st0) ++ stW G z5 st0) ++ stW G z7 st0) ++ [(q8, .inr (7, [.null, .null, .null]))])) := hD
  refine W.widen (k := 164) (n := 1524) (Nat.le_of_ble_eq_true rfl) (Nat.le_of_ble_eq_true rfl) ?_
  refine lv_dup hx hb d_His_init_29 rfl ?_
  refine call_I (own := "HamperClub$History") (rest := [.ref q8, .int 3, .ref q1]) (pre := (((([(a, .inr (4, [.ref q1, .int 0, .int 0]))] ++ [(q1, .inl (G.2 3, 6, .inr (.inr (.inr (.inr (va_up (va_up (va_up (fun _ => none) (0 : Int32).toNatClampNeg (some (z3 0 0))) (1 : Int32).toNatClampNeg (some (z5 0 0))) (2 : Int32).toNatClampNeg (some (z7 0 0))))))))]) ++ stW G z3 st0) ++ stW G z5 st0) ++ stW G z7 st0)) (wc := [(q8, .inr (7, [.null, .null, .null]))]) hx hb hml hts hown hK hA hSK hAN hP hD hS io_His_17 ⟨Nat.le_of_ble_eq_true rfl, Nat.le_of_ble_eq_true rfl⟩ ⟨Nat.le_of_ble_eq_true rfl, Nat.le_of_ble_eq_true rfl⟩ hl.1 rfl (Nat.le_of_ble_eq_true rfl) d_His_init_30 (c_Sta_init l G N0 tp ts q8 _) (fun z9 H locs e9 hP9 hD9 hS => ?_)
  have e9 : (z9 0 0) = q8 := e9
  subst e9
  have hP := hP9
  have hD := hD9
  have hP : va_P G.1 classes (((((([(a, .inr (4, [.ref q1, .int 0, .int 0]))] ++ [(q1, .inl (G.2 3, 6, .inr (.inr (.inr (.inr (va_up (va_up (va_up (fun _ => none) (0 : Int32).toNatClampNeg (some (z3 0 0))) (1 : Int32).toNatClampNeg (some (z5 0 0))) (2 : Int32).toNatClampNeg (some (z7 0 0))))))))]) ++ stW G z3 st0) ++ stW G z5 st0) ++ stW G z7 st0) ++ stW G z9 st0)) H := hP
  have hD : va_D A (((((([(a, .inr (4, [.ref q1, .int 0, .int 0]))] ++ [(q1, .inl (G.2 3, 6, .inr (.inr (.inr (.inr (va_up (va_up (va_up (fun _ => none) (0 : Int32).toNatClampNeg (some (z3 0 0))) (1 : Int32).toNatClampNeg (some (z5 0 0))) (2 : Int32).toNatClampNeg (some (z7 0 0))))))))]) ++ stW G z3 st0) ++ stW G z5 st0) ++ stW G z7 st0) ++ stW G z9 st0)) := hD
  refine W.widen (k := 217) (n := 2026) (Nat.le_of_ble_eq_true rfl) (Nat.le_of_ble_eq_true rfl) ?_
  refine va_astq hx hb hK.1 hP hD hS 1 3 (((((([(a, .inr (4, [.ref q1, .int 0, .int 0]))] ++ [(q1, .inl (G.2 3, 6, .inr (.inr (.inr (.inr (va_up (va_up (va_up (fun _ => none) (0 : Int32).toNatClampNeg (some (z3 0 0))) (1 : Int32).toNatClampNeg (some (z5 0 0))) (2 : Int32).toNatClampNeg (some (z7 0 0))))))))]) ++ stW G z3 st0) ++ stW G z5 st0) ++ stW G z7 st0) : va_W).length + 0) 7 rfl rfl ((seg_get (wc := stW G z9 st0) rfl).trans rfl) rfl (by unfold vp_in; decide) d_His_init_33 (fun H locs hP hD hS => ?_)
  have hP : va_P G.1 classes (((((([(a, .inr (4, [.ref q1, .int 0, .int 0]))] ++ [(q1, .inl (G.2 3, 6, .inr (.inr (.inr (.inr (va_up (va_up (va_up (va_up (fun _ => none) (0 : Int32).toNatClampNeg (some (z3 0 0))) (1 : Int32).toNatClampNeg (some (z5 0 0))) (2 : Int32).toNatClampNeg (some (z7 0 0))) (3 : Int32).toNatClampNeg (some (z9 0 0))))))))]) ++ stW G z3 st0) ++ stW G z5 st0) ++ stW G z7 st0) ++ stW G z9 st0)) H := hP
  have hD : va_D A (((((([(a, .inr (4, [.ref q1, .int 0, .int 0]))] ++ [(q1, .inl (G.2 3, 6, .inr (.inr (.inr (.inr (va_up (va_up (va_up (va_up (fun _ => none) (0 : Int32).toNatClampNeg (some (z3 0 0))) (1 : Int32).toNatClampNeg (some (z5 0 0))) (2 : Int32).toNatClampNeg (some (z7 0 0))) (3 : Int32).toNatClampNeg (some (z9 0 0))))))))]) ++ stW G z3 st0) ++ stW G z5 st0) ++ stW G z7 st0) ++ stW G z9 st0)) := hD
  refine lv_iinc (v := 4) (lv' := [(1, .int 4), (0, .ref a)]) hx hb d_His_init_34 hl (k := 0) rfl (by decide) (by decide) rfl (fun ls hl => ?_)
  refine lv_goto (tgt := 15) hx hb d_His_init_37 (by decide) ?_
  refine lv_iload_n hx hb d_His_init_15 rfl (lv_at hl 0 rfl) ?_
  refine lv_bipush (v := 6) hx hb d_His_init_16 (by decide) ?_
  refine lv_icmp_ge (tgt := 40) hx hb d_His_init_18 (by decide) (fun hc => absurd hc (by decide)) (fun _ => ?_)
  refine lv_aload_n hx hb d_His_init_21 rfl (lv_at hl 1 rfl) ?_
  refine va_get (D := G.1) (ci := 4) (v := .ref q1) (C := R_His) (T := F_His) (N := 3) hx hb hts i_His hown hK.1 hP 0 rfl rfl 0 (by decide) (hts _ tb_212) (fun _ h9 => h9) rfl d_His_init_22 ?_
  refine lv_iload_n hx hb d_His_init_25 rfl (lv_at hl 0 rfl) ?_
  refine va_new (ci := 7) (fs := [.null, .null, .null]) (C := R_Sta) (T := F_Sta) (N := 3) hx hb hts i_Sta t_Sta t_Sta_ok hown (hts _ tb_209) (hts _ tb_23) (hts _ tb_2) hK.1 hP hD hS hA rfl (fun j hj => by rcases (show j = 0 ∨ j = 1 ∨ j = 2 by omega) with rfl | rfl | rfl <;> rfl) (Nat.le_of_ble_eq_true rfl) (Nat.le_of_ble_eq_true rfl) d_His_init_26 (fun q10 H hP hD hS => ?_)
  have hP : va_P G.1 classes ((((((([(a, .inr (4, [.ref q1, .int 0, .int 0]))] ++ [(q1, .inl (G.2 3, 6, .inr (.inr (.inr (.inr (va_up (va_up (va_up (va_up (fun _ => none) (0 : Int32).toNatClampNeg (some (z3 0 0))) (1 : Int32).toNatClampNeg (some (z5 0 0))) (2 : Int32).toNatClampNeg (some (z7 0 0))) (3 : Int32).toNatClampNeg (some (z9 0 0))))))))]) ++ stW G z3 st0) ++ stW G z5 st0) ++ stW G z7 st0) ++ stW G z9 st0) ++ [(q10, .inr (7, [.null, .null, .null]))])) H := hP
  have hD : va_D A ((((((([(a, .inr (4, [.ref q1, .int 0, .int 0]))] ++ [(q1, .inl (G.2 3, 6, .inr (.inr (.inr (.inr (va_up (va_up (va_up (va_up (fun _ => none) (0 : Int32).toNatClampNeg (some (z3 0 0))) (1 : Int32).toNatClampNeg (some (z5 0 0))) (2 : Int32).toNatClampNeg (some (z7 0 0))) (3 : Int32).toNatClampNeg (some (z9 0 0))))))))]) ++ stW G z3 st0) ++ stW G z5 st0) ++ stW G z7 st0) ++ stW G z9 st0) ++ [(q10, .inr (7, [.null, .null, .null]))])) := hD
  refine W.widen (k := 218) (n := 2029) (Nat.le_of_ble_eq_true rfl) (Nat.le_of_ble_eq_true rfl) ?_
  refine lv_dup hx hb d_His_init_29 rfl ?_
  refine call_I (own := "HamperClub$History") (rest := [.ref q10, .int 4, .ref q1]) (pre := ((((([(a, .inr (4, [.ref q1, .int 0, .int 0]))] ++ [(q1, .inl (G.2 3, 6, .inr (.inr (.inr (.inr (va_up (va_up (va_up (va_up (fun _ => none) (0 : Int32).toNatClampNeg (some (z3 0 0))) (1 : Int32).toNatClampNeg (some (z5 0 0))) (2 : Int32).toNatClampNeg (some (z7 0 0))) (3 : Int32).toNatClampNeg (some (z9 0 0))))))))]) ++ stW G z3 st0) ++ stW G z5 st0) ++ stW G z7 st0) ++ stW G z9 st0)) (wc := [(q10, .inr (7, [.null, .null, .null]))]) hx hb hml hts hown hK hA hSK hAN hP hD hS io_His_17 ⟨Nat.le_of_ble_eq_true rfl, Nat.le_of_ble_eq_true rfl⟩ ⟨Nat.le_of_ble_eq_true rfl, Nat.le_of_ble_eq_true rfl⟩ hl.1 rfl (Nat.le_of_ble_eq_true rfl) d_His_init_30 (c_Sta_init l G N0 tp ts q10 _) (fun z11 H locs e9 hP9 hD9 hS => ?_)
  have e9 : (z11 0 0) = q10 := e9
  subst e9
  have hP := hP9
  have hD := hD9
  have hP : va_P G.1 classes ((((((([(a, .inr (4, [.ref q1, .int 0, .int 0]))] ++ [(q1, .inl (G.2 3, 6, .inr (.inr (.inr (.inr (va_up (va_up (va_up (va_up (fun _ => none) (0 : Int32).toNatClampNeg (some (z3 0 0))) (1 : Int32).toNatClampNeg (some (z5 0 0))) (2 : Int32).toNatClampNeg (some (z7 0 0))) (3 : Int32).toNatClampNeg (some (z9 0 0))))))))]) ++ stW G z3 st0) ++ stW G z5 st0) ++ stW G z7 st0) ++ stW G z9 st0) ++ stW G z11 st0)) H := hP
  have hD : va_D A ((((((([(a, .inr (4, [.ref q1, .int 0, .int 0]))] ++ [(q1, .inl (G.2 3, 6, .inr (.inr (.inr (.inr (va_up (va_up (va_up (va_up (fun _ => none) (0 : Int32).toNatClampNeg (some (z3 0 0))) (1 : Int32).toNatClampNeg (some (z5 0 0))) (2 : Int32).toNatClampNeg (some (z7 0 0))) (3 : Int32).toNatClampNeg (some (z9 0 0))))))))]) ++ stW G z3 st0) ++ stW G z5 st0) ++ stW G z7 st0) ++ stW G z9 st0) ++ stW G z11 st0)) := hD
  refine W.widen (k := 271) (n := 2531) (Nat.le_of_ble_eq_true rfl) (Nat.le_of_ble_eq_true rfl) ?_
  refine va_astq hx hb hK.1 hP hD hS 1 3 ((((((([(a, .inr (4, [.ref q1, .int 0, .int 0]))] ++ [(q1, .inl (G.2 3, 6, .inr (.inr (.inr (.inr (va_up (va_up (va_up (va_up (fun _ => none) (0 : Int32).toNatClampNeg (some (z3 0 0))) (1 : Int32).toNatClampNeg (some (z5 0 0))) (2 : Int32).toNatClampNeg (some (z7 0 0))) (3 : Int32).toNatClampNeg (some (z9 0 0))))))))]) ++ stW G z3 st0) ++ stW G z5 st0) ++ stW G z7 st0) ++ stW G z9 st0) : va_W).length + 0) 7 rfl rfl ((seg_get (wc := stW G z11 st0) rfl).trans rfl) rfl (by unfold vp_in; decide) d_His_init_33 (fun H locs hP hD hS => ?_)
  have hP : va_P G.1 classes ((((((([(a, .inr (4, [.ref q1, .int 0, .int 0]))] ++ [(q1, .inl (G.2 3, 6, .inr (.inr (.inr (.inr (va_up (va_up (va_up (va_up (va_up (fun _ => none) (0 : Int32).toNatClampNeg (some (z3 0 0))) (1 : Int32).toNatClampNeg (some (z5 0 0))) (2 : Int32).toNatClampNeg (some (z7 0 0))) (3 : Int32).toNatClampNeg (some (z9 0 0))) (4 : Int32).toNatClampNeg (some (z11 0 0))))))))]) ++ stW G z3 st0) ++ stW G z5 st0) ++ stW G z7 st0) ++ stW G z9 st0) ++ stW G z11 st0)) H := hP
  have hD : va_D A ((((((([(a, .inr (4, [.ref q1, .int 0, .int 0]))] ++ [(q1, .inl (G.2 3, 6, .inr (.inr (.inr (.inr (va_up (va_up (va_up (va_up (va_up (fun _ => none) (0 : Int32).toNatClampNeg (some (z3 0 0))) (1 : Int32).toNatClampNeg (some (z5 0 0))) (2 : Int32).toNatClampNeg (some (z7 0 0))) (3 : Int32).toNatClampNeg (some (z9 0 0))) (4 : Int32).toNatClampNeg (some (z11 0 0))))))))]) ++ stW G z3 st0) ++ stW G z5 st0) ++ stW G z7 st0) ++ stW G z9 st0) ++ stW G z11 st0)) := hD
  refine lv_iinc (v := 5) (lv' := [(1, .int 5), (0, .ref a)]) hx hb d_His_init_34 hl (k := 0) rfl (by decide) (by decide) rfl (fun ls hl => ?_)
  refine lv_goto (tgt := 15) hx hb d_His_init_37 (by decide) ?_
  refine lv_iload_n hx hb d_His_init_15 rfl (lv_at hl 0 rfl) ?_
  refine lv_bipush (v := 6) hx hb d_His_init_16 (by decide) ?_
  refine lv_icmp_ge (tgt := 40) hx hb d_His_init_18 (by decide) (fun hc => absurd hc (by decide)) (fun _ => ?_)
  refine lv_aload_n hx hb d_His_init_21 rfl (lv_at hl 1 rfl) ?_
  refine va_get (D := G.1) (ci := 4) (v := .ref q1) (C := R_His) (T := F_His) (N := 3) hx hb hts i_His hown hK.1 hP 0 rfl rfl 0 (by decide) (hts _ tb_212) (fun _ h9 => h9) rfl d_His_init_22 ?_
  refine lv_iload_n hx hb d_His_init_25 rfl (lv_at hl 0 rfl) ?_
  refine va_new (ci := 7) (fs := [.null, .null, .null]) (C := R_Sta) (T := F_Sta) (N := 3) hx hb hts i_Sta t_Sta t_Sta_ok hown (hts _ tb_209) (hts _ tb_23) (hts _ tb_2) hK.1 hP hD hS hA rfl (fun j hj => by rcases (show j = 0 ∨ j = 1 ∨ j = 2 by omega) with rfl | rfl | rfl <;> rfl) (Nat.le_of_ble_eq_true rfl) (Nat.le_of_ble_eq_true rfl) d_His_init_26 (fun q12 H hP hD hS => ?_)
  have hP : va_P G.1 classes (((((((([(a, .inr (4, [.ref q1, .int 0, .int 0]))] ++ [(q1, .inl (G.2 3, 6, .inr (.inr (.inr (.inr (va_up (va_up (va_up (va_up (va_up (fun _ => none) (0 : Int32).toNatClampNeg (some (z3 0 0))) (1 : Int32).toNatClampNeg (some (z5 0 0))) (2 : Int32).toNatClampNeg (some (z7 0 0))) (3 : Int32).toNatClampNeg (some (z9 0 0))) (4 : Int32).toNatClampNeg (some (z11 0 0))))))))]) ++ stW G z3 st0) ++ stW G z5 st0) ++ stW G z7 st0) ++ stW G z9 st0) ++ stW G z11 st0) ++ [(q12, .inr (7, [.null, .null, .null]))])) H := hP
  have hD : va_D A (((((((([(a, .inr (4, [.ref q1, .int 0, .int 0]))] ++ [(q1, .inl (G.2 3, 6, .inr (.inr (.inr (.inr (va_up (va_up (va_up (va_up (va_up (fun _ => none) (0 : Int32).toNatClampNeg (some (z3 0 0))) (1 : Int32).toNatClampNeg (some (z5 0 0))) (2 : Int32).toNatClampNeg (some (z7 0 0))) (3 : Int32).toNatClampNeg (some (z9 0 0))) (4 : Int32).toNatClampNeg (some (z11 0 0))))))))]) ++ stW G z3 st0) ++ stW G z5 st0) ++ stW G z7 st0) ++ stW G z9 st0) ++ stW G z11 st0) ++ [(q12, .inr (7, [.null, .null, .null]))])) := hD
  refine W.widen (k := 272) (n := 2534) (Nat.le_of_ble_eq_true rfl) (Nat.le_of_ble_eq_true rfl) ?_
  refine lv_dup hx hb d_His_init_29 rfl ?_
  refine call_I (own := "HamperClub$History") (rest := [.ref q12, .int 5, .ref q1]) (pre := (((((([(a, .inr (4, [.ref q1, .int 0, .int 0]))] ++ [(q1, .inl (G.2 3, 6, .inr (.inr (.inr (.inr (va_up (va_up (va_up (va_up (va_up (fun _ => none) (0 : Int32).toNatClampNeg (some (z3 0 0))) (1 : Int32).toNatClampNeg (some (z5 0 0))) (2 : Int32).toNatClampNeg (some (z7 0 0))) (3 : Int32).toNatClampNeg (some (z9 0 0))) (4 : Int32).toNatClampNeg (some (z11 0 0))))))))]) ++ stW G z3 st0) ++ stW G z5 st0) ++ stW G z7 st0) ++ stW G z9 st0) ++ stW G z11 st0)) (wc := [(q12, .inr (7, [.null, .null, .null]))]) hx hb hml hts hown hK hA hSK hAN hP hD hS io_His_17 ⟨Nat.le_of_ble_eq_true rfl, Nat.le_of_ble_eq_true rfl⟩ ⟨Nat.le_of_ble_eq_true rfl, Nat.le_of_ble_eq_true rfl⟩ hl.1 rfl (Nat.le_of_ble_eq_true rfl) d_His_init_30 (c_Sta_init l G N0 tp ts q12 _) (fun z13 H locs e9 hP9 hD9 hS => ?_)
  have e9 : (z13 0 0) = q12 := e9
  subst e9
  have hP := hP9
  have hD := hD9
  have hP : va_P G.1 classes (((((((([(a, .inr (4, [.ref q1, .int 0, .int 0]))] ++ [(q1, .inl (G.2 3, 6, .inr (.inr (.inr (.inr (va_up (va_up (va_up (va_up (va_up (fun _ => none) (0 : Int32).toNatClampNeg (some (z3 0 0))) (1 : Int32).toNatClampNeg (some (z5 0 0))) (2 : Int32).toNatClampNeg (some (z7 0 0))) (3 : Int32).toNatClampNeg (some (z9 0 0))) (4 : Int32).toNatClampNeg (some (z11 0 0))))))))]) ++ stW G z3 st0) ++ stW G z5 st0) ++ stW G z7 st0) ++ stW G z9 st0) ++ stW G z11 st0) ++ stW G z13 st0)) H := hP
  have hD : va_D A (((((((([(a, .inr (4, [.ref q1, .int 0, .int 0]))] ++ [(q1, .inl (G.2 3, 6, .inr (.inr (.inr (.inr (va_up (va_up (va_up (va_up (va_up (fun _ => none) (0 : Int32).toNatClampNeg (some (z3 0 0))) (1 : Int32).toNatClampNeg (some (z5 0 0))) (2 : Int32).toNatClampNeg (some (z7 0 0))) (3 : Int32).toNatClampNeg (some (z9 0 0))) (4 : Int32).toNatClampNeg (some (z11 0 0))))))))]) ++ stW G z3 st0) ++ stW G z5 st0) ++ stW G z7 st0) ++ stW G z9 st0) ++ stW G z11 st0) ++ stW G z13 st0)) := hD
  refine W.widen (k := 325) (n := 3036) (Nat.le_of_ble_eq_true rfl) (Nat.le_of_ble_eq_true rfl) ?_
  refine va_astq hx hb hK.1 hP hD hS 1 3 (((((((([(a, .inr (4, [.ref q1, .int 0, .int 0]))] ++ [(q1, .inl (G.2 3, 6, .inr (.inr (.inr (.inr (va_up (va_up (va_up (va_up (va_up (fun _ => none) (0 : Int32).toNatClampNeg (some (z3 0 0))) (1 : Int32).toNatClampNeg (some (z5 0 0))) (2 : Int32).toNatClampNeg (some (z7 0 0))) (3 : Int32).toNatClampNeg (some (z9 0 0))) (4 : Int32).toNatClampNeg (some (z11 0 0))))))))]) ++ stW G z3 st0) ++ stW G z5 st0) ++ stW G z7 st0) ++ stW G z9 st0) ++ stW G z11 st0) : va_W).length + 0) 7 rfl rfl ((seg_get (wc := stW G z13 st0) rfl).trans rfl) rfl (by unfold vp_in; decide) d_His_init_33 (fun H locs hP hD hS => ?_)
  have hP : va_P G.1 classes (((((((([(a, .inr (4, [.ref q1, .int 0, .int 0]))] ++ [(q1, .inl (G.2 3, 6, .inr (.inr (.inr (.inr (va_up (va_up (va_up (va_up (va_up (va_up (fun _ => none) (0 : Int32).toNatClampNeg (some (z3 0 0))) (1 : Int32).toNatClampNeg (some (z5 0 0))) (2 : Int32).toNatClampNeg (some (z7 0 0))) (3 : Int32).toNatClampNeg (some (z9 0 0))) (4 : Int32).toNatClampNeg (some (z11 0 0))) (5 : Int32).toNatClampNeg (some (z13 0 0))))))))]) ++ stW G z3 st0) ++ stW G z5 st0) ++ stW G z7 st0) ++ stW G z9 st0) ++ stW G z11 st0) ++ stW G z13 st0)) H := hP
  have hD : va_D A (((((((([(a, .inr (4, [.ref q1, .int 0, .int 0]))] ++ [(q1, .inl (G.2 3, 6, .inr (.inr (.inr (.inr (va_up (va_up (va_up (va_up (va_up (va_up (fun _ => none) (0 : Int32).toNatClampNeg (some (z3 0 0))) (1 : Int32).toNatClampNeg (some (z5 0 0))) (2 : Int32).toNatClampNeg (some (z7 0 0))) (3 : Int32).toNatClampNeg (some (z9 0 0))) (4 : Int32).toNatClampNeg (some (z11 0 0))) (5 : Int32).toNatClampNeg (some (z13 0 0))))))))]) ++ stW G z3 st0) ++ stW G z5 st0) ++ stW G z7 st0) ++ stW G z9 st0) ++ stW G z11 st0) ++ stW G z13 st0)) := hD
  refine lv_iinc (v := 6) (lv' := [(1, .int 6), (0, .ref a)]) hx hb d_His_init_34 hl (k := 0) rfl (by decide) (by decide) rfl (fun ls hl => ?_)
  refine lv_goto (tgt := 15) hx hb d_His_init_37 (by decide) ?_
  refine lv_iload_n hx hb d_His_init_15 rfl (lv_at hl 0 rfl) ?_
  refine lv_bipush (v := 6) hx hb d_His_init_16 (by decide) ?_
  refine lv_icmp_ge (tgt := 40) hx hb d_His_init_18 (by decide) (fun _ => ?_) (fun hc => absurd hc (by decide))
  refine W.widen (k := 325) (n := 3036) (Nat.le_of_ble_eq_true rfl) (Nat.le_of_ble_eq_true rfl) ?_
  obtain ⟨U9, eU9⟩ : ∃ z : (Nat → Nat) × (Nat → Nat → Nat → Nat), z = (fun i => if i = 0 then a else q1, fun j => if j = 0 then z3 else if j = 1 then z5 else if j = 2 then z7 else if j = 3 then z9 else if j = 4 then z11 else z13) := ⟨_, rfl⟩
  have e9 : ((((((([(a, .inr (4, [.ref q1, .int 0, .int 0]))] ++ [(q1, .inl (G.2 3, 6, .inr (.inr (.inr (.inr (va_up (va_up (va_up (va_up (va_up (va_up (fun _ => none) (0 : Int32).toNatClampNeg (some (z3 0 0))) (1 : Int32).toNatClampNeg (some (z5 0 0))) (2 : Int32).toNatClampNeg (some (z7 0 0))) (3 : Int32).toNatClampNeg (some (z9 0 0))) (4 : Int32).toNatClampNeg (some (z11 0 0))) (5 : Int32).toNatClampNeg (some (z13 0 0))))))))]) ++ stW G z3 st0) ++ stW G z5 st0) ++ stW G z7 st0) ++ stW G z9 st0) ++ stW G z11 st0) ++ stW G z13 st0) = hisW G U9.1 U9.2 (fun _ => 0) ++ frW G U9.2 (fun _ => st0) 0 6 := by rw [eU9]; simp only [List.append_assoc, frW, List.append_nil]; rw [frRef_6]; rfl
  rw [e9] at hP hD
  exact r_cret (u := U9) hx hb hr hlocks hP hD hS d_His_init_40 (by subst eU9; rfl)
theorem io_Ham_9 : IOk y_Sta_init b_Sta_init 1 "HamperClub" 9 "HamperClub" := ⟨Or.inr (by decide +kernel), tb_25, tb_2, tb_26, rfl, by decide +kernel⟩
theorem io_Ham_18 : IOk y_His_init b_His_init 2 "HamperClub" 18 "HamperClub" := ⟨Or.inl tb_205, tb_206, tb_10, tb_207, rfl, by decide +kernel⟩
theorem io_Ham_25 : IOk y_Ord_init b_Ord_init 1 "HamperClub" 25 "HamperClub" := ⟨Or.inr (by decide +kernel), tb_226, tb_11, tb_227, rfl, by decide +kernel⟩
theorem io_Ham_32 : IOk y_Clb_init b_Clb_init 1 "HamperClub" 32 "HamperClub" := ⟨Or.inr (by decide +kernel), tb_31, tb_3, tb_32, rfl, by decide +kernel⟩
set_option maxHeartbeats 4000000 in
set_option maxRecDepth 100000 in
theorem c_Ham_init (l : Launch) (G : GG) (N0 tp ts : Nat) (a sz : Nat) : CMc l y_Ham_init b_Ham_init 1 6 399 3816 G N0 tp ts [.ref a] sz ([(a, .inr (8, [.null, .null, .null, .null]))]) (fun u : (Nat → Nat) × (Nat → Nat → Nat) × (Nat → Nat) × (Nat → Nat → Nat → Nat) × (Nat → Nat) × (Nat → Nat) => hamW G u.1 (u.2.1 0) u.2.2.1 u.2.2.2.2.1 u.2.2.2.2.2 ++ (stW G u.2.1 st0 ++ (hisW G u.2.2.1 u.2.2.2.1 (fun _ => 0) ++ (frW G u.2.2.2.1 (fun _ => st0) 0 6 ++ (ordW G u.2.2.2.2.1 ord0 ++ clubW G u.2.2.2.2.2 club0))))) (fun u => u.1 0 = a) := by
  refine CMc.start (by decide) (Nat.le_of_ble_eq_true rfl) (fun p e s m below meth c A ls hx hb hr hts hown hml hlocks hA hS hP hD hK hl hSK hAN hin => ?_)
  have hl : lv_has ls 1 [(0, .ref a)] := hl
  refine lv_aload_n hx hb d_Ham_init_0 rfl (lv_at hl 0 rfl) ?_
  refine W.objInit hx hb hown (hts _ tb_19) (hts _ tb_20) (hts _ tb_21) rfl (by rw [hml]; exact hl.1) rfl d_Ham_init_1 (Nat.le_of_ble_eq_true rfl) (Nat.le_of_ble_eq_true rfl) ?_
  refine W.eq (g2 := F0 m 4 ls []) rfl ?_
  refine lv_aload_n hx hb d_Ham_init_4 rfl (lv_at hl 0 rfl) ?_
  refine va_new (ci := 7) (fs := [.null, .null, .null]) (C := R_Sta) (T := F_Sta) (N := 3) hx hb hts i_Sta t_Sta t_Sta_ok hown (hts _ tb_22) (hts _ tb_23) (hts _ tb_2) hK.1 hP hD hS hA rfl (fun j hj => by rcases (show j = 0 ∨ j = 1 ∨ j = 2 by omega) with rfl | rfl | rfl <;> rfl) (Nat.le_of_ble_eq_true rfl) (Nat.le_of_ble_eq_true rfl) d_Ham_init_5 (fun q1 H hP hD hS => ?_)
  have hP : va_P G.1 classes (([(a, .inr (8, [.null, .null, .null, .null]))] ++ [(q1, .inr (7, [.null, .null, .null]))])) H := hP
  have hD : va_D A (([(a, .inr (8, [.null, .null, .null, .null]))] ++ [(q1, .inr (7, [.null, .null, .null]))])) := hD
  refine W.widen (k := 1) (n := 3) (Nat.le_of_ble_eq_true rfl) (Nat.le_of_ble_eq_true rfl) ?_
  refine lv_dup hx hb d_Ham_init_8 rfl ?_
  refine call_I (own := "HamperClub") (rest := [.ref q1, .ref a]) (pre := [(a, .inr (8, [.null, .null, .null, .null]))]) (wc := [(q1, .inr (7, [.null, .null, .null]))]) hx hb hml hts hown hK hA hSK hAN hP hD hS io_Ham_9 ⟨Nat.le_of_ble_eq_true rfl, Nat.le_of_ble_eq_true rfl⟩ ⟨Nat.le_of_ble_eq_true rfl, Nat.le_of_ble_eq_true rfl⟩ hl.1 rfl (Nat.le_of_ble_eq_true rfl) d_Ham_init_9 (c_Sta_init l G N0 tp ts q1 _) (fun z2 H locs e9 hP9 hD9 hS => ?_)
  have e9 : (z2 0 0) = q1 := e9
  subst e9
  have hP := hP9
  have hD := hD9
  have hP : va_P G.1 classes (([(a, .inr (8, [.null, .null, .null, .null]))] ++ stW G z2 st0)) H := hP
  have hD : va_D A (([(a, .inr (8, [.null, .null, .null, .null]))] ++ stW G z2 st0)) := hD
  refine W.widen (k := 54) (n := 505) (Nat.le_of_ble_eq_true rfl) (Nat.le_of_ble_eq_true rfl) ?_
  refine va_putF (D := G.1) (ci := 8) (v := .ref (z2 0 0)) (ty := .object "HamperClub$State") (C := R_Ham) (T := F_Ham) (N := 4) hx hb hts i_Ham t_Ham t_Ham_ok n_Ham hown hK.1 hP hD hS 0 rfl rfl 0 (by decide) (hts _ tb_251) (fun _ h9 => h9) rfl hin rfl (by decide +kernel) rfl rfl (Nat.le_of_ble_eq_true rfl) d_Ham_init_12 (fun H locs hP hD hS => ?_)
  have hP : va_P G.1 classes (([(a, .inr (8, [.ref (z2 0 0), .null, .null, .null]))] ++ stW G z2 st0)) H := hP
  have hD : va_D A (([(a, .inr (8, [.ref (z2 0 0), .null, .null, .null]))] ++ stW G z2 st0)) := hD
  refine lv_aload_n hx hb d_Ham_init_15 rfl (lv_at hl 0 rfl) ?_
  refine va_new (ci := 4) (fs := [.null, .int 0, .int 0]) (C := R_His) (T := F_His) (N := 3) hx hb hts i_His t_His t_His_ok hown (hts _ tb_203) (hts _ tb_204) (hts _ tb_10) hK.1 hP hD hS hA rfl (fun j hj => by rcases (show j = 0 ∨ j = 1 ∨ j = 2 by omega) with rfl | rfl | rfl <;> rfl) (Nat.le_of_ble_eq_true rfl) (Nat.le_of_ble_eq_true rfl) d_Ham_init_16 (fun q3 H hP hD hS => ?_)
  have hP : va_P G.1 classes ((([(a, .inr (8, [.ref (z2 0 0), .null, .null, .null]))] ++ stW G z2 st0) ++ [(q3, .inr (4, [.null, .int 0, .int 0]))])) H := hP
  have hD : va_D A ((([(a, .inr (8, [.ref (z2 0 0), .null, .null, .null]))] ++ stW G z2 st0) ++ [(q3, .inr (4, [.null, .int 0, .int 0]))])) := hD
  refine W.widen (k := 55) (n := 508) (Nat.le_of_ble_eq_true rfl) (Nat.le_of_ble_eq_true rfl) ?_
  refine lv_dup hx hb d_Ham_init_19 rfl ?_
  refine call_I (own := "HamperClub") (rest := [.ref q3, .ref a]) (pre := ([(a, .inr (8, [.ref (z2 0 0), .null, .null, .null]))] ++ stW G z2 st0)) (wc := [(q3, .inr (4, [.null, .int 0, .int 0]))]) hx hb hml hts hown hK hA hSK hAN hP hD hS io_Ham_18 ⟨Nat.le_of_ble_eq_true rfl, Nat.le_of_ble_eq_true rfl⟩ ⟨Nat.le_of_ble_eq_true rfl, Nat.le_of_ble_eq_true rfl⟩ hl.1 rfl (Nat.le_of_ble_eq_true rfl) d_Ham_init_20 (c_His_init l G N0 tp ts q3 _) (fun z4 H locs e9 hP9 hD9 hS => ?_)
  have e9 : (z4.1 0) = q3 := e9
  subst e9
  have hP := hP9
  have hD := hD9
  have hP : va_P G.1 classes ((([(a, .inr (8, [.ref (z2 0 0), .null, .null, .null]))] ++ stW G z2 st0) ++ (hisW G z4.1 z4.2 (fun _ => 0) ++ frW G z4.2 (fun _ => st0) 0 6))) H := hP
  have hD : va_D A ((([(a, .inr (8, [.ref (z2 0 0), .null, .null, .null]))] ++ stW G z2 st0) ++ (hisW G z4.1 z4.2 (fun _ => 0) ++ frW G z4.2 (fun _ => st0) 0 6))) := hD
  refine W.widen (k := 380) (n := 3544) (Nat.le_of_ble_eq_true rfl) (Nat.le_of_ble_eq_true rfl) ?_
  refine va_putF (D := G.1) (ci := 8) (v := .ref (z4.1 0)) (ty := .object "HamperClub$History") (C := R_Ham) (T := F_Ham) (N := 4) hx hb hts i_Ham t_Ham t_Ham_ok n_Ham hown hK.1 hP hD hS 0 rfl rfl 1 (by decide) (hts _ tb_252) (fun _ h9 => h9) rfl hin rfl (by decide +kernel) rfl rfl (Nat.le_of_ble_eq_true rfl) d_Ham_init_23 (fun H locs hP hD hS => ?_)
  have hP : va_P G.1 classes ((([(a, .inr (8, [.ref (z2 0 0), .ref (z4.1 0), .null, .null]))] ++ stW G z2 st0) ++ (hisW G z4.1 z4.2 (fun _ => 0) ++ frW G z4.2 (fun _ => st0) 0 6))) H := hP
  have hD : va_D A ((([(a, .inr (8, [.ref (z2 0 0), .ref (z4.1 0), .null, .null]))] ++ stW G z2 st0) ++ (hisW G z4.1 z4.2 (fun _ => 0) ++ frW G z4.2 (fun _ => st0) 0 6))) := hD
  refine lv_aload_n hx hb d_Ham_init_26 rfl (lv_at hl 0 rfl) ?_
  refine va_new (ci := 5) (fs := [.null, .int 0, .int 0, .int 0, .int 0, .int 0]) (C := R_Ord) (T := F_Ord) (N := 6) hx hb hts i_Ord t_Ord t_Ord_ok hown (hts _ tb_223) (hts _ tb_224) (hts _ tb_11) hK.1 hP hD hS hA rfl (fun j hj => by rcases (show j = 0 ∨ j = 1 ∨ j = 2 ∨ j = 3 ∨ j = 4 ∨ j = 5 by omega) with rfl | rfl | rfl | rfl | rfl | rfl <;> rfl) (Nat.le_of_ble_eq_true rfl) (Nat.le_of_ble_eq_true rfl) d_Ham_init_27 (fun q5 H hP hD hS => ?_)
  have hP : va_P G.1 classes (((([(a, .inr (8, [.ref (z2 0 0), .ref (z4.1 0), .null, .null]))] ++ stW G z2 st0) ++ (hisW G z4.1 z4.2 (fun _ => 0) ++ frW G z4.2 (fun _ => st0) 0 6)) ++ [(q5, .inr (5, [.null, .int 0, .int 0, .int 0, .int 0, .int 0]))])) H := hP
  have hD : va_D A (((([(a, .inr (8, [.ref (z2 0 0), .ref (z4.1 0), .null, .null]))] ++ stW G z2 st0) ++ (hisW G z4.1 z4.2 (fun _ => 0) ++ frW G z4.2 (fun _ => st0) 0 6)) ++ [(q5, .inr (5, [.null, .int 0, .int 0, .int 0, .int 0, .int 0]))])) := hD
  refine W.widen (k := 381) (n := 3550) (Nat.le_of_ble_eq_true rfl) (Nat.le_of_ble_eq_true rfl) ?_
  refine lv_dup hx hb d_Ham_init_30 rfl ?_
  refine call_I (own := "HamperClub") (rest := [.ref q5, .ref a]) (pre := (([(a, .inr (8, [.ref (z2 0 0), .ref (z4.1 0), .null, .null]))] ++ stW G z2 st0) ++ (hisW G z4.1 z4.2 (fun _ => 0) ++ frW G z4.2 (fun _ => st0) 0 6))) (wc := [(q5, .inr (5, [.null, .int 0, .int 0, .int 0, .int 0, .int 0]))]) hx hb hml hts hown hK hA hSK hAN hP hD hS io_Ham_25 ⟨Nat.le_of_ble_eq_true rfl, Nat.le_of_ble_eq_true rfl⟩ ⟨Nat.le_of_ble_eq_true rfl, Nat.le_of_ble_eq_true rfl⟩ hl.1 rfl (Nat.le_of_ble_eq_true rfl) d_Ham_init_31 (c_Ord_init l G N0 tp ts q5 _) (fun z6 H locs e9 hP9 hD9 hS => ?_)
  have e9 : (z6 0) = q5 := e9
  subst e9
  have hP := hP9
  have hD := hD9
  have hP : va_P G.1 classes (((([(a, .inr (8, [.ref (z2 0 0), .ref (z4.1 0), .null, .null]))] ++ stW G z2 st0) ++ (hisW G z4.1 z4.2 (fun _ => 0) ++ frW G z4.2 (fun _ => st0) 0 6)) ++ ordW G z6 ord0)) H := hP
  have hD : va_D A (((([(a, .inr (8, [.ref (z2 0 0), .ref (z4.1 0), .null, .null]))] ++ stW G z2 st0) ++ (hisW G z4.1 z4.2 (fun _ => 0) ++ frW G z4.2 (fun _ => st0) 0 6)) ++ ordW G z6 ord0)) := hD
  refine W.widen (k := 382) (n := 3650) (Nat.le_of_ble_eq_true rfl) (Nat.le_of_ble_eq_true rfl) ?_
  refine va_putF (D := G.1) (ci := 8) (v := .ref (z6 0)) (ty := .object "HamperClub$Orders") (C := R_Ham) (T := F_Ham) (N := 4) hx hb hts i_Ham t_Ham t_Ham_ok n_Ham hown hK.1 hP hD hS 0 rfl rfl 2 (by decide) (hts _ tb_253) (fun _ h9 => h9) rfl hin rfl (by decide +kernel) rfl rfl (Nat.le_of_ble_eq_true rfl) d_Ham_init_34 (fun H locs hP hD hS => ?_)
  have hP : va_P G.1 classes (((([(a, .inr (8, [.ref (z2 0 0), .ref (z4.1 0), .ref (z6 0), .null]))] ++ stW G z2 st0) ++ (hisW G z4.1 z4.2 (fun _ => 0) ++ frW G z4.2 (fun _ => st0) 0 6)) ++ ordW G z6 ord0)) H := hP
  have hD : va_D A (((([(a, .inr (8, [.ref (z2 0 0), .ref (z4.1 0), .ref (z6 0), .null]))] ++ stW G z2 st0) ++ (hisW G z4.1 z4.2 (fun _ => 0) ++ frW G z4.2 (fun _ => st0) 0 6)) ++ ordW G z6 ord0)) := hD
  refine lv_aload_n hx hb d_Ham_init_37 rfl (lv_at hl 0 rfl) ?_
  refine va_new (ci := 2) (fs := [.int 0, .int 0, .int 0, .int 0, .null, .null, .null]) (C := R_Clb) (T := F_Clb) (N := 7) hx hb hts i_Clb t_Clb t_Clb_ok hown (hts _ tb_249) (hts _ tb_29) (hts _ tb_3) hK.1 hP hD hS hA rfl (fun j hj => by rcases (show j = 0 ∨ j = 1 ∨ j = 2 ∨ j = 3 ∨ j = 4 ∨ j = 5 ∨ j = 6 by omega) with rfl | rfl | rfl | rfl | rfl | rfl | rfl <;> rfl) (Nat.le_of_ble_eq_true rfl) (Nat.le_of_ble_eq_true rfl) d_Ham_init_38 (fun q7 H hP hD hS => ?_)
  have hP : va_P G.1 classes ((((([(a, .inr (8, [.ref (z2 0 0), .ref (z4.1 0), .ref (z6 0), .null]))] ++ stW G z2 st0) ++ (hisW G z4.1 z4.2 (fun _ => 0) ++ frW G z4.2 (fun _ => st0) 0 6)) ++ ordW G z6 ord0) ++ [(q7, .inr (2, [.int 0, .int 0, .int 0, .int 0, .null, .null, .null]))])) H := hP
  have hD : va_D A ((((([(a, .inr (8, [.ref (z2 0 0), .ref (z4.1 0), .ref (z6 0), .null]))] ++ stW G z2 st0) ++ (hisW G z4.1 z4.2 (fun _ => 0) ++ frW G z4.2 (fun _ => st0) 0 6)) ++ ordW G z6 ord0) ++ [(q7, .inr (2, [.int 0, .int 0, .int 0, .int 0, .null, .null, .null]))])) := hD
  refine W.widen (k := 383) (n := 3657) (Nat.le_of_ble_eq_true rfl) (Nat.le_of_ble_eq_true rfl) ?_
  refine lv_dup hx hb d_Ham_init_41 rfl ?_
  refine call_I (own := "HamperClub") (rest := [.ref q7, .ref a]) (pre := ((([(a, .inr (8, [.ref (z2 0 0), .ref (z4.1 0), .ref (z6 0), .null]))] ++ stW G z2 st0) ++ (hisW G z4.1 z4.2 (fun _ => 0) ++ frW G z4.2 (fun _ => st0) 0 6)) ++ ordW G z6 ord0)) (wc := [(q7, .inr (2, [.int 0, .int 0, .int 0, .int 0, .null, .null, .null]))]) hx hb hml hts hown hK hA hSK hAN hP hD hS io_Ham_32 ⟨Nat.le_of_ble_eq_true rfl, Nat.le_of_ble_eq_true rfl⟩ ⟨Nat.le_of_ble_eq_true rfl, Nat.le_of_ble_eq_true rfl⟩ hl.1 rfl (Nat.le_of_ble_eq_true rfl) d_Ham_init_42 (c_Clb_init l G N0 tp ts q7 _) (fun z8 H locs e9 hP9 hD9 hS => ?_)
  have e9 : (z8 0) = q7 := e9
  subst e9
  have hP := hP9
  have hD := hD9
  have hP : va_P G.1 classes ((((([(a, .inr (8, [.ref (z2 0 0), .ref (z4.1 0), .ref (z6 0), .null]))] ++ stW G z2 st0) ++ (hisW G z4.1 z4.2 (fun _ => 0) ++ frW G z4.2 (fun _ => st0) 0 6)) ++ ordW G z6 ord0) ++ clubW G z8 club0)) H := hP
  have hD : va_D A ((((([(a, .inr (8, [.ref (z2 0 0), .ref (z4.1 0), .ref (z6 0), .null]))] ++ stW G z2 st0) ++ (hisW G z4.1 z4.2 (fun _ => 0) ++ frW G z4.2 (fun _ => st0) 0 6)) ++ ordW G z6 ord0) ++ clubW G z8 club0)) := hD
  refine W.widen (k := 399) (n := 3816) (Nat.le_of_ble_eq_true rfl) (Nat.le_of_ble_eq_true rfl) ?_
  refine va_putF (D := G.1) (ci := 8) (v := .ref (z8 0)) (ty := .object "HamperClub$Club") (C := R_Ham) (T := F_Ham) (N := 4) hx hb hts i_Ham t_Ham t_Ham_ok n_Ham hown hK.1 hP hD hS 0 rfl rfl 3 (by decide) (hts _ tb_254) (fun _ h9 => h9) rfl hin rfl (by decide +kernel) rfl rfl (Nat.le_of_ble_eq_true rfl) d_Ham_init_45 (fun H locs hP hD hS => ?_)
  have hP : va_P G.1 classes ((((([(a, .inr (8, [.ref (z2 0 0), .ref (z4.1 0), .ref (z6 0), .ref (z8 0)]))] ++ stW G z2 st0) ++ (hisW G z4.1 z4.2 (fun _ => 0) ++ frW G z4.2 (fun _ => st0) 0 6)) ++ ordW G z6 ord0) ++ clubW G z8 club0)) H := hP
  have hD : va_D A ((((([(a, .inr (8, [.ref (z2 0 0), .ref (z4.1 0), .ref (z6 0), .ref (z8 0)]))] ++ stW G z2 st0) ++ (hisW G z4.1 z4.2 (fun _ => 0) ++ frW G z4.2 (fun _ => st0) 0 6)) ++ ordW G z6 ord0) ++ clubW G z8 club0)) := hD
  refine W.widen (k := 399) (n := 3816) (Nat.le_of_ble_eq_true rfl) (Nat.le_of_ble_eq_true rfl) ?_
  obtain ⟨U9, eU9⟩ : ∃ z : (Nat → Nat) × (Nat → Nat → Nat) × (Nat → Nat) × (Nat → Nat → Nat → Nat) × (Nat → Nat) × (Nat → Nat), z = (fun _ => a, z2, z4.1, z4.2, z6, z8) := ⟨_, rfl⟩
  have e9 : (((([(a, .inr (8, [.ref (z2 0 0), .ref (z4.1 0), .ref (z6 0), .ref (z8 0)]))] ++ stW G z2 st0) ++ (hisW G z4.1 z4.2 (fun _ => 0) ++ frW G z4.2 (fun _ => st0) 0 6)) ++ ordW G z6 ord0) ++ clubW G z8 club0) = hamW G U9.1 (U9.2.1 0) U9.2.2.1 U9.2.2.2.2.1 U9.2.2.2.2.2 ++ (stW G U9.2.1 st0 ++ (hisW G U9.2.2.1 U9.2.2.2.1 (fun _ => 0) ++ (frW G U9.2.2.2.1 (fun _ => st0) 0 6 ++ (ordW G U9.2.2.2.2.1 ord0 ++ clubW G U9.2.2.2.2.2 club0)))) := by rw [eU9]; simp only [List.append_assoc]; rfl
  rw [e9] at hP hD
  exact r_cret (u := U9) hx hb hr hlocks hP hD hS d_Ham_init_48 (by subst eU9; rfl)
