/-! static methods that look at nothing -/
def wp_Ord_isDigit (p0 : Int32) (Post : Int32 → Prop) : Prop := ((p0 < 48 → Post 0) ∧ (¬ p0 < 48 → ((57 < p0 → Post 0) ∧ (¬ 57 < p0 → Post 1))))
set_option maxHeartbeats 4000000 in
set_option maxRecDepth 100000 in
theorem c_Ord_isDigit (l : Launch) (p0 : Int32) (v : Int32) (h : wp_Ord_isDigit p0 (fun r => r = v)) : CMs l y_Ord_isDigit b_Ord_isDigit 1 .boolean 0 [.int p0] v := by
  refine CMs.start (by decide) (Nat.le_of_ble_eq_true rfl) (fun p e s m below meth c ls hx hb hr hts hown hml hlocks hl => ?_)
  unfold wp_Ord_isDigit at h
  have hl : lv_has ls 1 [(0, .int p0)] := hl
  refine lv_iload_n hx hb d_Ord_isDigit_0 rfl (lv_at hl 0 rfl) ?_
  refine lv_bipush (v := 48) hx hb d_Ord_isDigit_1 (by decide) ?_
  refine lv_icmp_lt (tgt := 16) hx hb d_Ord_isDigit_3 (by decide) (fun hc => ?_) (fun hc => ?_)
  · have h := h.1 hc
    refine lv_iconst (v := 0) hx hb d_Ord_isDigit_16 (by decide) ?_
    exact r_szret hx hb hr hlocks rfl d_Ord_isDigit_17 h
  · have h := h.2 hc
    refine lv_iload_n hx hb d_Ord_isDigit_6 rfl (lv_at hl 0 rfl) ?_
    refine lv_bipush (v := 57) hx hb d_Ord_isDigit_7 (by decide) ?_
    refine lv_icmp_gt (tgt := 16) hx hb d_Ord_isDigit_9 (by decide) (fun hc => ?_) (fun hc => ?_)
    · have h := h.1 hc
      refine lv_iconst (v := 0) hx hb d_Ord_isDigit_16 (by decide) ?_
      exact r_szret hx hb hr hlocks rfl d_Ord_isDigit_17 h
    · have h := h.2 hc
      refine lv_iconst (v := 1) hx hb d_Ord_isDigit_12 (by decide) ?_
      refine lv_goto (tgt := 17) hx hb d_Ord_isDigit_13 (by decide) ?_
      exact r_szret hx hb hr hlocks rfl d_Ord_isDigit_17 h
def pf_Ord_isDigit (k : Int32) : Int32 := if 48 ≤ k then (if k ≤ 57 then 1 else 0) else 0
theorem k_Ord_isDigit (l : Launch) (k : Int32) : CMs l y_Ord_isDigit b_Ord_isDigit 1 .boolean 0 [.int k] (pf_Ord_isDigit k) := c_Ord_isDigit l k _ (by unfold wp_Ord_isDigit pf_Ord_isDigit; first | rfl | (repeat' split) <;> simp_all)
def wp_Ham_isKind (p0 : Int32) (Post : Int32 → Prop) : Prop := ((p0 < 0 → Post 0) ∧ (¬ p0 < 0 → ((4 ≤ p0 → Post 0) ∧ (¬ 4 ≤ p0 → Post 1))))
set_option maxHeartbeats 4000000 in
set_option maxRecDepth 100000 in
theorem c_Ham_isKind (l : Launch) (p0 : Int32) (v : Int32) (h : wp_Ham_isKind p0 (fun r => r = v)) : CMs l y_Ham_isKind b_Ham_isKind 1 .boolean 0 [.int p0] v := by
  refine CMs.start (by decide) (Nat.le_of_ble_eq_true rfl) (fun p e s m below meth c ls hx hb hr hts hown hml hlocks hl => ?_)
  unfold wp_Ham_isKind at h
  have hl : lv_has ls 1 [(0, .int p0)] := hl
  refine lv_iload_n hx hb d_Ham_isKind_0 rfl (lv_at hl 0 rfl) ?_
  refine lv_if_lt (tgt := 13) hx hb d_Ham_isKind_1 (by decide) (fun hc => ?_) (fun hc => ?_)
  · have h := h.1 hc
    refine lv_iconst (v := 0) hx hb d_Ham_isKind_13 (by decide) ?_
    exact r_szret hx hb hr hlocks rfl d_Ham_isKind_14 h
  · have h := h.2 hc
    refine lv_iload_n hx hb d_Ham_isKind_4 rfl (lv_at hl 0 rfl) ?_
    refine lv_iconst (v := 4) hx hb d_Ham_isKind_5 (by decide) ?_
    refine lv_icmp_ge (tgt := 13) hx hb d_Ham_isKind_6 (by decide) (fun hc => ?_) (fun hc => ?_)
    · have h := h.1 hc
      refine lv_iconst (v := 0) hx hb d_Ham_isKind_13 (by decide) ?_
      exact r_szret hx hb hr hlocks rfl d_Ham_isKind_14 h
    · have h := h.2 hc
      refine lv_iconst (v := 1) hx hb d_Ham_isKind_9 (by decide) ?_
      refine lv_goto (tgt := 14) hx hb d_Ham_isKind_10 (by decide) ?_
      exact r_szret hx hb hr hlocks rfl d_Ham_isKind_14 h
def pf_Ham_isKind (k : Int32) : Int32 := if 0 ≤ k then (if k < 4 then 1 else 0) else 0
theorem k_Ham_isKind (l : Launch) (k : Int32) : CMs l y_Ham_isKind b_Ham_isKind 1 .boolean 0 [.int k] (pf_Ham_isKind k) := c_Ham_isKind l k _ (by unfold wp_Ham_isKind pf_Ham_isKind; first | rfl | (repeat' split) <;> simp_all)
def wp_Lng_bitCount (p0 : Int64) (Post : Int32 → Prop) : Prop := (∀ x1 : Int64, x1 = (p0 - (((p0.toUInt64 >>> ((1 : Int32).toInt64.toUInt64 &&& Int64.toUInt64 63)).toInt64) &&& 6148914691236517205)) → (∀ x2 : Int64, x2 = ((x1 &&& 3689348814741910323) + (((x1.toUInt64 >>> ((2 : Int32).toInt64.toUInt64 &&& Int64.toUInt64 63)).toInt64) &&& 3689348814741910323)) → (∀ x3 : Int64, x3 = ((x2 + ((x2.toUInt64 >>> ((4 : Int32).toInt64.toUInt64 &&& Int64.toUInt64 63)).toInt64)) &&& 1085102592571150095) → (∀ x4 : Int64, x4 = (x3 + ((x3.toUInt64 >>> ((8 : Int32).toInt64.toUInt64 &&& Int64.toUInt64 63)).toInt64)) → (∀ x5 : Int64, x5 = (x4 + ((x4.toUInt64 >>> ((16 : Int32).toInt64.toUInt64 &&& Int64.toUInt64 63)).toInt64)) → (∀ x6 : Int64, x6 = (x5 + ((x5.toUInt64 >>> ((32 : Int32).toInt64.toUInt64 &&& Int64.toUInt64 63)).toInt64)) → Post ((x6.toInt32) &&& 127)))))))
set_option maxHeartbeats 4000000 in
set_option maxRecDepth 100000 in
theorem c_Lng_bitCount (l : Launch) (p0 : Int64) (v : Int32) (h : wp_Lng_bitCount p0 (fun r => r = v)) : CMs l y_Lng_bitCount b_Lng_bitCount 2 .int 0 [.long p0] v := by
  refine CMs.start (by decide) (Nat.le_of_ble_eq_true rfl) (fun p e s m below meth c ls hx hb hr hts hown hml hlocks hl => ?_)
  unfold wp_Lng_bitCount at h
  have hl : lv_has ls 2 [(0, .long p0)] := hl
  refine lv_lload_n hx hb d_Lng_bitCount_0 rfl (lv_at hl 0 rfl) ?_
  refine lv_lload_n hx hb d_Lng_bitCount_1 rfl (lv_at hl 0 rfl) ?_
  refine lv_iconst (v := 1) hx hb d_Lng_bitCount_2 (by decide) ?_
  refine lv_lushr (v := ((p0.toUInt64 >>> ((1 : Int32).toInt64.toUInt64 &&& Int64.toUInt64 63)).toInt64)) hx hb d_Lng_bitCount_3 rfl ?_
  refine lv_ldc2 (v := 6148914691236517205) hx hb hown (hts _ tb_467) d_Lng_bitCount_4 ?_
  refine lv_land hx hb d_Lng_bitCount_7 ?_
  refine lv_lsub hx hb d_Lng_bitCount_8 ?_
  refine lv_topl (fun x1 ex1 => ?_)
  have h := h x1 ex1
  refine lv_lstore_n (lv' := [(0, .long x1)]) hx hb d_Lng_bitCount_9 rfl hl (by decide) rfl (fun ls hl => ?_)
  refine lv_lload_n hx hb d_Lng_bitCount_10 rfl (lv_at hl 0 rfl) ?_
  refine lv_ldc2 (v := 3689348814741910323) hx hb hown (hts _ tb_468) d_Lng_bitCount_11 ?_
  refine lv_land hx hb d_Lng_bitCount_14 ?_
  refine lv_lload_n hx hb d_Lng_bitCount_15 rfl (lv_at hl 0 rfl) ?_
  refine lv_iconst (v := 2) hx hb d_Lng_bitCount_16 (by decide) ?_
  refine lv_lushr (v := ((x1.toUInt64 >>> ((2 : Int32).toInt64.toUInt64 &&& Int64.toUInt64 63)).toInt64)) hx hb d_Lng_bitCount_17 rfl ?_
  refine lv_ldc2 (v := 3689348814741910323) hx hb hown (hts _ tb_468) d_Lng_bitCount_18 ?_
  refine lv_land hx hb d_Lng_bitCount_21 ?_
  refine lv_ladd hx hb d_Lng_bitCount_22 ?_
  refine lv_topl (fun x2 ex2 => ?_)
  have h := h x2 ex2
  refine lv_lstore_n (lv' := [(0, .long x2)]) hx hb d_Lng_bitCount_23 rfl hl (by decide) rfl (fun ls hl => ?_)
  refine lv_lload_n hx hb d_Lng_bitCount_24 rfl (lv_at hl 0 rfl) ?_
  refine lv_lload_n hx hb d_Lng_bitCount_25 rfl (lv_at hl 0 rfl) ?_
  refine lv_iconst (v := 4) hx hb d_Lng_bitCount_26 (by decide) ?_
  refine lv_lushr (v := ((x2.toUInt64 >>> ((4 : Int32).toInt64.toUInt64 &&& Int64.toUInt64 63)).toInt64)) hx hb d_Lng_bitCount_27 rfl ?_
  refine lv_ladd hx hb d_Lng_bitCount_28 ?_
  refine lv_ldc2 (v := 1085102592571150095) hx hb hown (hts _ tb_469) d_Lng_bitCount_29 ?_
  refine lv_land hx hb d_Lng_bitCount_32 ?_
  refine lv_topl (fun x3 ex3 => ?_)
  have h := h x3 ex3
  refine lv_lstore_n (lv' := [(0, .long x3)]) hx hb d_Lng_bitCount_33 rfl hl (by decide) rfl (fun ls hl => ?_)
  refine lv_lload_n hx hb d_Lng_bitCount_34 rfl (lv_at hl 0 rfl) ?_
  refine lv_lload_n hx hb d_Lng_bitCount_35 rfl (lv_at hl 0 rfl) ?_
  refine lv_bipush (v := 8) hx hb d_Lng_bitCount_36 (by decide) ?_
  refine lv_lushr (v := ((x3.toUInt64 >>> ((8 : Int32).toInt64.toUInt64 &&& Int64.toUInt64 63)).toInt64)) hx hb d_Lng_bitCount_38 rfl ?_
  refine lv_ladd hx hb d_Lng_bitCount_39 ?_
  refine lv_topl (fun x4 ex4 => ?_)
  have h := h x4 ex4
  refine lv_lstore_n (lv' := [(0, .long x4)]) hx hb d_Lng_bitCount_40 rfl hl (by decide) rfl (fun ls hl => ?_)
  refine lv_lload_n hx hb d_Lng_bitCount_41 rfl (lv_at hl 0 rfl) ?_
  refine lv_lload_n hx hb d_Lng_bitCount_42 rfl (lv_at hl 0 rfl) ?_
  refine lv_bipush (v := 16) hx hb d_Lng_bitCount_43 (by decide) ?_
  refine lv_lushr (v := ((x4.toUInt64 >>> ((16 : Int32).toInt64.toUInt64 &&& Int64.toUInt64 63)).toInt64)) hx hb d_Lng_bitCount_45 rfl ?_
  refine lv_ladd hx hb d_Lng_bitCount_46 ?_
  refine lv_topl (fun x5 ex5 => ?_)
  have h := h x5 ex5
  refine lv_lstore_n (lv' := [(0, .long x5)]) hx hb d_Lng_bitCount_47 rfl hl (by decide) rfl (fun ls hl => ?_)
  refine lv_lload_n hx hb d_Lng_bitCount_48 rfl (lv_at hl 0 rfl) ?_
  refine lv_lload_n hx hb d_Lng_bitCount_49 rfl (lv_at hl 0 rfl) ?_
  refine lv_bipush (v := 32) hx hb d_Lng_bitCount_50 (by decide) ?_
  refine lv_lushr (v := ((x5.toUInt64 >>> ((32 : Int32).toInt64.toUInt64 &&& Int64.toUInt64 63)).toInt64)) hx hb d_Lng_bitCount_52 rfl ?_
  refine lv_ladd hx hb d_Lng_bitCount_53 ?_
  refine lv_topl (fun x6 ex6 => ?_)
  have h := h x6 ex6
  refine lv_lstore_n (lv' := [(0, .long x6)]) hx hb d_Lng_bitCount_54 rfl hl (by decide) rfl (fun ls hl => ?_)
  refine lv_lload_n hx hb d_Lng_bitCount_55 rfl (lv_at hl 0 rfl) ?_
  refine lv_l2i (v := (x6.toInt32)) hx hb d_Lng_bitCount_56 rfl ?_
  refine lv_bipush (v := 127) hx hb d_Lng_bitCount_57 (by decide) ?_
  refine lv_iand hx hb d_Lng_bitCount_59 ?_
  exact r_siret hx hb hr hlocks d_Lng_bitCount_60 h
def pf_Lng_bitCount (x : Int64) : Int32 :=
  let a := x - ((x.toUInt64 >>> ((1 : Int32).toInt64.toUInt64 &&& Int64.toUInt64 63)).toInt64 &&& 6148914691236517205)
  let b := (a &&& 3689348814741910323) + ((a.toUInt64 >>> ((2 : Int32).toInt64.toUInt64 &&& Int64.toUInt64 63)).toInt64 &&& 3689348814741910323)
  let c := (b + (b.toUInt64 >>> ((4 : Int32).toInt64.toUInt64 &&& Int64.toUInt64 63)).toInt64) &&& 1085102592571150095
  let d := c + (c.toUInt64 >>> ((8 : Int32).toInt64.toUInt64 &&& Int64.toUInt64 63)).toInt64
  let e := d + (d.toUInt64 >>> ((16 : Int32).toInt64.toUInt64 &&& Int64.toUInt64 63)).toInt64
  let f := e + (e.toUInt64 >>> ((32 : Int32).toInt64.toUInt64 &&& Int64.toUInt64 63)).toInt64
  f.toInt32 &&& 127
theorem k_Lng_bitCount (l : Launch) (x : Int64) : CMs l y_Lng_bitCount b_Lng_bitCount 2 .int 0 [.long x] (pf_Lng_bitCount x) := c_Lng_bitCount l x _ (by unfold wp_Lng_bitCount pf_Lng_bitCount; intros; subst_vars; rfl)
def wp_Law_low (p0 : Int32) (p1 : Int32) (Post : Int32 → Prop) : Prop := (¬ p1 = 0 ∧ Post ((p0 &&& 2147483647) - (p0 &&& 2147483647) / p1 * p1))
set_option maxHeartbeats 4000000 in
set_option maxRecDepth 100000 in
theorem c_Law_low (l : Launch) (p0 : Int32) (p1 : Int32) (v : Int32) (h : wp_Law_low p0 p1 (fun r => r = v)) : CMs l y_Law_low b_Law_low 2 .int 0 [.int p0, .int p1] v := by
  refine CMs.start (by decide) (Nat.le_of_ble_eq_true rfl) (fun p e s m below meth c ls hx hb hr hts hown hml hlocks hl => ?_)
  unfold wp_Law_low at h
  have hl : lv_has ls 2 [(0, .int p0), (1, .int p1)] := hl
  refine lv_iload_n hx hb d_Law_low_0 rfl (lv_at hl 0 rfl) ?_
  refine lv_ldc (v := 2147483647) hx hb hown (hts _ tb_540) d_Law_low_1 ?_
  refine lv_iand hx hb d_Law_low_3 ?_
  refine lv_iload_n hx hb d_Law_low_4 rfl (lv_at hl 1 rfl) ?_
  obtain ⟨hne, h⟩ := h
  refine lv_irem hx hb d_Law_low_5 hne ?_
  exact r_siret hx hb hr hlocks d_Law_low_6 h
def pf_Law_low (v n : Int32) : Int32 := ((v &&& 2147483647) - (v &&& 2147483647) / n * n)
theorem k_Law_low (l : Launch) (v n : Int32) (hn : ¬ n = 0) : CMs l y_Law_low b_Law_low 2 .int 0 [.int v, .int n] (pf_Law_low v n) := c_Law_low l v n _ ⟨hn, rfl⟩
