/-! methods: what they mean, and that their bytecode means it (printed by a program of mine) -/
def wp_X6_readFor_17  (post : Int → Mem → Prop) : Nat → Int → Int → Mem → Prop
  | 0, _, _, _ => False
  | n + 1, v1, v2, m =>
  ((m 4 0 ≤ v2 → (post (m 4 0) m)) ∧
  (¬ m 4 0 ≤ v2 → ((0 ≤ v2 ∧ v2 < 40) ∧ (wp_X6_placeBehind (m 5 v2) v1 m (fun r33 m33 => ((¬ r33 = (-1) → (∀ m46 : Mem, m46 = mset m33 4 5 r33 → (wp_X6_readFor_17  post n v1 (w32 (v2 + 1)) m46))) ∧
  (r33 = (-1) → (post v2 m33))))))))
set_option maxRecDepth 100000 in
theorem pf_X6_readFor_17 {l : Launch} {x : WX} {G : GT} {post : Int → Mem → Prop}  (X : Ax l x cX6_readFor RX6 4 (rmd 2) 67 G) (hr : RI cX6_readFor post G) : ∀ (n : Nat) (v1 : Int) (v2 : Int) (m : Mem) (_ : wp_X6_readFor_17  post n v1 v2 m), G 17 [(0, (2, 4)), (1, (0, v1)), (2, (0, v2))] [] m := by
  intro n
  induction n with
  | zero => intro v1 v2 m h; exact absurd h id
  | succ n ih =>
  intro v1 v2 m h
  unfold wp_X6_readFor_17 at h
  refine g_iload_n 2 (i := 2) X dX6_readFor_17 rfl rfl ?_
  refine g_aload_n 0 (i := 0) X dX6_readFor_18 rfl rfl ?_
  refine g_getI X dX6_readFor_19 fX6_15 ?_
  refine g_icmp_ge X dX6_readFor_22 (tgt := 55) (by decide) (fun hc => ?_) (fun hc => ?_)
  · have h := h.1 hc
    refine g_aload_n 0 (i := 0) X dX6_readFor_55 rfl rfl ?_
    refine g_getI X dX6_readFor_56 fX6_15 ?_
    exact hr _ _ _ _ _ dX6_readFor_59 h
  · have h := h.2 hc
    refine g_aload_n 0 (i := 0) X dX6_readFor_25 rfl rfl ?_
    refine g_aload_n 0 (i := 0) X dX6_readFor_26 rfl rfl ?_
    refine g_getR X dX6_readFor_27 fX6_11 ?_
    refine g_iload_n 2 (i := 2) X dX6_readFor_30 rfl rfl ?_
    obtain ⟨hi, h⟩ := h
    refine g_iald X dX6_readFor_31 rfl hi ?_
    refine g_iload_n 1 (i := 1) X dX6_readFor_32 rfl rfl ?_
    refine g_cVI (st := []) X dX6_readFor_33 YX6_placeBehind lX6_28 (by decide) (im_X6_placeBehind l x _ _ _ _ h) rfl ⟨by decide, by decide⟩ rfl (Nat.le_of_ble_eq_true rfl) (fun r33 m33 h => ?_)
    refine g_istore_n (i := 3) (lv' := [(3, (0, r33)), (0, (2, 4)), (1, (0, v1)), (2, (0, v2))]) X dX6_readFor_36 rfl (by decide) rfl ?_
    refine g_iload_n 0 (i := 3) X dX6_readFor_37 rfl rfl ?_
    refine g_iconst X dX6_readFor_38 (by decide) ?_
    refine g_icmp_ne X dX6_readFor_39 (tgt := 44) (by decide) (fun hc => ?_) (fun hc => ?_)
    · have h := h.1 hc
      refine g_aload_n 1 (i := 0) X dX6_readFor_44 rfl rfl ?_
      refine g_iload_n 0 (i := 3) X dX6_readFor_45 rfl rfl ?_
      refine g_putI X dX6_readFor_46 pX6_19 (fun m46 em46 => ?_)
      have h := h m46 em46
      refine g_iinc 3 (lv' := [(2, (0, w32 (v2 + 1))), (3, (0, r33)), (0, (2, 4)), (1, (0, v1))]) X dX6_readFor_49 rfl (by decide) rfl ?_
      refine g_goto X dX6_readFor_52 (tgt := 17) (by decide) ?_
      exact g_sub X [2, 3, 0] rfl (ih _ _ _ h)
    · have h := h.2 hc
      refine g_iload_n 3 (i := 2) X dX6_readFor_42 rfl rfl ?_
      exact hr _ _ _ _ _ dX6_readFor_43 h
def wp_X6_readFor (v1 : Int) (m : Mem) (post : Int → Mem → Prop) : Prop :=
  ∀ m2 : Mem, m2 = mset m 4 5 0 → (∀ m7 : Mem, m7 = mset m2 4 3 0 → (∀ m12 : Mem, m12 = mset m7 4 4 5 → (∃ n_1 : Nat, wp_X6_readFor_17  post n_1 v1 0 m12)))
set_option maxRecDepth 100000 in
theorem pf_X6_readFor {l : Launch} {x : WX} {G : GT} {post : Int → Mem → Prop} (X : Ax l x cX6_readFor RX6 4 (rmd 2) 67 G) (hr : RI cX6_readFor post G) (v1 : Int) (m : Mem) (h : wp_X6_readFor v1 m post) : G 0 [(0, (2, 4)), (1, (0, v1))] [] m := by
  unfold wp_X6_readFor at h
  refine g_aload_n 0 (i := 0) X dX6_readFor_0 rfl rfl ?_
  refine g_iconst X dX6_readFor_1 (by decide) ?_
  refine g_putI X dX6_readFor_2 pX6_19 (fun m2 em2 => ?_)
  have h := h m2 em2
  refine g_aload_n 0 (i := 0) X dX6_readFor_5 rfl rfl ?_
  refine g_iconst X dX6_readFor_6 (by decide) ?_
  refine g_putI X dX6_readFor_7 pX6_22 (fun m7 em7 => ?_)
  have h := h m7 em7
  refine g_aload_n 0 (i := 0) X dX6_readFor_10 rfl rfl ?_
  refine g_iconst X dX6_readFor_11 (by decide) ?_
  refine g_putI X dX6_readFor_12 pX6_25 (fun m12 em12 => ?_)
  have h := h m12 em12
  refine g_iconst X dX6_readFor_15 (by decide) ?_
  refine g_istore_n (i := 2) (lv' := [(2, (0, 0)), (0, (2, 4)), (1, (0, v1))]) X dX6_readFor_16 rfl (by decide) rfl ?_
  obtain ⟨n_1, h⟩ := h
  refine g_sub X [1, 2, 0] rfl (pf_X6_readFor_17 X hr  n_1 _ _ _ h)
theorem im_X6_readFor (l : Launch) (x : WX) (v1 : Int) (m : Mem) (post : Int → Mem → Prop) (h : wp_X6_readFor v1 m post) : MetI l x 67 2 yX6_readFor cX6_readFor 4 .int [(2, 4), (0, v1)] m post := met_I (by decide) (Nat.le_of_ble_eq_true rfl) (fun _ X hr => pf_X6_readFor X hr v1 m h)
def wp_X6_isWholeFor (v1 : Int) (m : Mem) (post : Int → Mem → Prop) : Prop :=
  wp_X6_readFor v1 m (fun r2 m2 => ((¬ r2 = m2 4 0 → (post 0 m2)) ∧
  (r2 = m2 4 0 → (((m2 4 5 = 5 → (post 1 m2)) ∧
  (¬ m2 4 5 = 5 → (((¬ m2 4 5 = 7 → (post 0 m2)) ∧
  (m2 4 5 = 7 → (post 1 m2))))))))))
set_option maxRecDepth 100000 in
theorem pf_X6_isWholeFor {l : Launch} {x : WX} {G : GT} {post : Int → Mem → Prop} (X : Ax l x cX6_isWholeFor RX6 2 (rmd 3) 67 G) (hr : RZ cX6_isWholeFor post G) (v1 : Int) (m : Mem) (h : wp_X6_isWholeFor v1 m post) : G 0 [(0, (2, 4)), (1, (0, v1))] [] m := by
  unfold wp_X6_isWholeFor at h
  refine g_aload_n 0 (i := 0) X dX6_isWholeFor_0 rfl rfl ?_
  refine g_iload_n 1 (i := 1) X dX6_isWholeFor_1 rfl rfl ?_
  refine g_cVI (st := []) X dX6_isWholeFor_2 YX6_readFor lX6_32 (by decide) (im_X6_readFor l x _ _ _ h) rfl ⟨by decide, by decide⟩ rfl (Nat.le_of_ble_eq_true rfl) (fun r2 m2 h => ?_)
  refine g_aload_n 0 (i := 0) X dX6_isWholeFor_5 rfl rfl ?_
  refine g_getI X dX6_isWholeFor_6 fX6_15 ?_
  refine g_icmp_ne X dX6_isWholeFor_9 (tgt := 33) (by decide) (fun hc => ?_) (fun hc => ?_)
  · have h := h.1 hc
    refine g_iconst X dX6_isWholeFor_33 (by decide) ?_
    exact hr _ _ _ _ _ dX6_isWholeFor_34 ⟨by decide, h⟩
  · have h := h.2 hc
    refine g_aload_n 0 (i := 0) X dX6_isWholeFor_12 rfl rfl ?_
    refine g_getI X dX6_isWholeFor_13 fX6_19 ?_
    refine g_iconst X dX6_isWholeFor_16 (by decide) ?_
    refine g_icmp_eq X dX6_isWholeFor_17 (tgt := 29) (by decide) (fun hc => ?_) (fun hc => ?_)
    · have h := h.1 hc
      refine g_iconst X dX6_isWholeFor_29 (by decide) ?_
      refine g_goto X dX6_isWholeFor_30 (tgt := 34) (by decide) ?_
      exact hr _ _ _ _ _ dX6_isWholeFor_34 ⟨by decide, h⟩
    · have h := h.2 hc
      refine g_aload_n 0 (i := 0) X dX6_isWholeFor_20 rfl rfl ?_
      refine g_getI X dX6_isWholeFor_21 fX6_19 ?_
      refine g_bipush X dX6_isWholeFor_24 (by decide) ?_
      refine g_icmp_ne X dX6_isWholeFor_26 (tgt := 33) (by decide) (fun hc => ?_) (fun hc => ?_)
      · have h := h.1 hc
        refine g_iconst X dX6_isWholeFor_33 (by decide) ?_
        exact hr _ _ _ _ _ dX6_isWholeFor_34 ⟨by decide, h⟩
      · have h := h.2 hc
        refine g_iconst X dX6_isWholeFor_29 (by decide) ?_
        refine g_goto X dX6_isWholeFor_30 (tgt := 34) (by decide) ?_
        exact hr _ _ _ _ _ dX6_isWholeFor_34 ⟨by decide, h⟩
theorem im_X6_isWholeFor (l : Launch) (x : WX) (v1 : Int) (m : Mem) (post : Int → Mem → Prop) (h : wp_X6_isWholeFor v1 m post) : MetI l x 67 3 yX6_isWholeFor cX6_isWholeFor 2 .boolean [(2, 4), (0, v1)] m post := met_Z (by decide) (Nat.le_of_ble_eq_true rfl) (fun _ X hr => pf_X6_isWholeFor X hr v1 m h)
def wp_X6_digestOnto_5  (post : Int → Mem → Prop) : Nat → Int → Int → Mem → Prop
  | 0, _, _, _ => False
  | n + 1, v3, v5, m =>
  ((m 4 0 ≤ v5 → (post v3 m)) ∧
  (¬ m 4 0 ≤ v5 → ((0 ≤ v5 ∧ v5 < 40) ∧ (∀ v3_28 : Int, v3_28 = w64 (w64 (31 * v3) + m 5 v5) → (wp_X6_digestOnto_5  post n v3_28 (w32 (v5 + 1)) m)))))
set_option maxRecDepth 100000 in
theorem pf_X6_digestOnto_5 {l : Launch} {x : WX} {G : GT} {post : Int → Mem → Prop}  (X : Ax l x cX6_digestOnto RX6 6 (rmd 0) 67 G) (hr : RJ cX6_digestOnto post G) : ∀ (n : Nat) (v3 : Int) (v5 : Int) (m : Mem) (_ : wp_X6_digestOnto_5  post n v3 v5 m), G 5 [(0, (2, 4)), (3, (1, v3)), (5, (0, v5))] [] m := by
  intro n
  induction n with
  | zero => intro v3 v5 m h; exact absurd h id
  | succ n ih =>
  intro v3 v5 m h
  unfold wp_X6_digestOnto_5 at h
  refine g_iload 2 (i := 5) X dX6_digestOnto_5 rfl ?_
  refine g_aload_n 0 (i := 0) X dX6_digestOnto_7 rfl rfl ?_
  refine g_getI X dX6_digestOnto_8 fX6_15 ?_
  refine g_icmp_ge X dX6_digestOnto_11 (tgt := 35) (by decide) (fun hc => ?_) (fun hc => ?_)
  · have h := h.1 hc
    refine g_lload_n 1 (i := 3) X dX6_digestOnto_35 rfl rfl ?_
    exact hr _ _ _ _ _ dX6_digestOnto_36 h
  · have h := h.2 hc
    refine g_ldc2 X dX6_digestOnto_14 (by unfold r64; omega) kX6_45 ?_
    refine g_lload_n 1 (i := 3) X dX6_digestOnto_17 rfl rfl ?_
    refine g_lmul X dX6_digestOnto_18 ?_
    refine g_aload_n 0 (i := 0) X dX6_digestOnto_19 rfl rfl ?_
    refine g_getR X dX6_digestOnto_20 fX6_11 ?_
    refine g_iload 2 (i := 5) X dX6_digestOnto_23 rfl ?_
    obtain ⟨hi, h⟩ := h
    refine g_iald X dX6_digestOnto_25 rfl hi ?_
    refine g_i2l X dX6_digestOnto_26 ?_
    refine g_ladd X dX6_digestOnto_27 ?_
    refine g_nmI (fun v3_28 ev3_28 => ?_)
    have h := h v3_28 ev3_28
    refine g_lstore_n (i := 3) (lv' := [(3, (1, v3_28)), (0, (2, 4)), (5, (0, v5))]) X dX6_digestOnto_28 rfl (by decide) rfl ?_
    refine g_iinc 2 (lv' := [(5, (0, w32 (v5 + 1))), (3, (1, v3_28)), (0, (2, 4))]) X dX6_digestOnto_29 rfl (by decide) rfl ?_
    refine g_goto X dX6_digestOnto_32 (tgt := 5) (by decide) ?_
    exact g_sub X [2, 1, 0] rfl (ih _ _ _ h)
def wp_X6_digestOnto (v1 : Int) (m : Mem) (post : Int → Mem → Prop) : Prop :=
  ∃ n_2 : Nat, wp_X6_digestOnto_5  post n_2 v1 0 m
set_option maxRecDepth 100000 in
theorem pf_X6_digestOnto {l : Launch} {x : WX} {G : GT} {post : Int → Mem → Prop} (X : Ax l x cX6_digestOnto RX6 6 (rmd 0) 67 G) (hr : RJ cX6_digestOnto post G) (v1 : Int) (m : Mem) (h : wp_X6_digestOnto v1 m post) : G 0 [(0, (2, 4)), (1, (1, v1))] [] m := by
  unfold wp_X6_digestOnto at h
  refine g_lload_n 1 (i := 1) X dX6_digestOnto_0 rfl rfl ?_
  refine g_lstore_n (i := 3) (lv' := [(3, (1, v1)), (0, (2, 4)), (1, (1, v1))]) X dX6_digestOnto_1 rfl (by decide) rfl ?_
  refine g_iconst X dX6_digestOnto_2 (by decide) ?_
  refine g_istore (i := 5) (lv' := [(5, (0, 0)), (3, (1, v1)), (0, (2, 4)), (1, (1, v1))]) X dX6_digestOnto_3 (by decide) rfl ?_
  obtain ⟨n_2, h⟩ := h
  refine g_sub X [2, 1, 0] rfl (pf_X6_digestOnto_5 X hr  n_2 _ _ _ h)
theorem im_X6_digestOnto (l : Launch) (x : WX) (v1 : Int) (m : Mem) (post : Int → Mem → Prop) (h : wp_X6_digestOnto v1 m post) : MetJ l x 67 0 yX6_digestOnto cX6_digestOnto 6 [(2, 4), (1, v1)] m post := met_J (by decide) (Nat.le_of_ble_eq_true rfl) (fun _ X hr => pf_X6_digestOnto X hr v1 m h)
def wp_X7_has (v1 : Int) (m : Mem) (post : Int → Mem → Prop) : Prop :=
  ((v1 < 0 → (post 0 m)) ∧
  (¬ v1 < 0 → (((m 37 0 ≤ v1 → (post 0 m)) ∧
  (¬ m 37 0 ≤ v1 → (post 1 m))))))
set_option maxRecDepth 100000 in
theorem pf_X7_has {l : Launch} {x : WX} {G : GT} {post : Int → Mem → Prop} (X : Ax l x cX7_has RX7 2 (rmd 0) 67 G) (hr : RZ cX7_has post G) (v1 : Int) (m : Mem) (h : wp_X7_has v1 m post) : G 0 [(0, (2, 37)), (1, (0, v1))] [] m := by
  unfold wp_X7_has at h
  refine g_iload_n 1 (i := 1) X dX7_has_0 rfl rfl ?_
  refine g_if_lt X dX7_has_1 (tgt := 16) (by decide) (fun hc => ?_) (fun hc => ?_)
  · have h := h.1 hc
    refine g_iconst X dX7_has_16 (by decide) ?_
    exact hr _ _ _ _ _ dX7_has_17 ⟨by decide, h⟩
  · have h := h.2 hc
    refine g_iload_n 1 (i := 1) X dX7_has_4 rfl rfl ?_
    refine g_aload_n 0 (i := 0) X dX7_has_5 rfl rfl ?_
    refine g_getI X dX7_has_6 fX7_25 ?_
    refine g_icmp_ge X dX7_has_9 (tgt := 16) (by decide) (fun hc => ?_) (fun hc => ?_)
    · have h := h.1 hc
      refine g_iconst X dX7_has_16 (by decide) ?_
      exact hr _ _ _ _ _ dX7_has_17 ⟨by decide, h⟩
    · have h := h.2 hc
      refine g_iconst X dX7_has_12 (by decide) ?_
      refine g_goto X dX7_has_13 (tgt := 17) (by decide) ?_
      exact hr _ _ _ _ _ dX7_has_17 ⟨by decide, h⟩
theorem im_X7_has (l : Launch) (x : WX) (v1 : Int) (m : Mem) (post : Int → Mem → Prop) (h : wp_X7_has v1 m post) : MetI l x 67 0 yX7_has cX7_has 2 .boolean [(2, 37), (0, v1)] m post := met_Z (by decide) (Nat.le_of_ble_eq_true rfl) (fun _ X hr => pf_X7_has X hr v1 m h)
def wp_X7_add (v1 : Int) (m : Mem) (post : Mem → Prop) : Prop :=
  (0 ≤ m 37 0 ∧ m 37 0 < 16) ∧ (∀ m9 : Mem, m9 = mset m 40 (m 37 0) v1 → (∀ m17 : Mem, m17 = mset m9 37 0 (w32 (m9 37 0 + 1)) → (post m17)))
set_option maxRecDepth 100000 in
theorem pf_X7_add {l : Launch} {x : WX} {G : GT} {post : Mem → Prop} (X : Ax l x cX7_add RX7 2 (rmd 0) 67 G) (hr : RV cX7_add post G) (v1 : Int) (m : Mem) (h : wp_X7_add v1 m post) : G 0 [(0, (2, 37)), (1, (0, v1))] [] m := by
  unfold wp_X7_add at h
  refine g_aload_n 0 (i := 0) X dX7_add_0 rfl rfl ?_
  refine g_getR X dX7_add_1 fX7_16 ?_
  refine g_aload_n 0 (i := 0) X dX7_add_4 rfl rfl ?_
  refine g_getI X dX7_add_5 fX7_25 ?_
  refine g_iload_n 1 (i := 1) X dX7_add_8 rfl rfl ?_
  obtain ⟨hi, h⟩ := h
  refine g_iast X dX7_add_9 rfl hi (fun m9 em9 => ?_)
  have h := h m9 em9
  refine g_aload_n 0 (i := 0) X dX7_add_10 rfl rfl ?_
  refine g_dup X dX7_add_11 rfl ?_
  refine g_getI X dX7_add_12 fX7_25 ?_
  refine g_iconst X dX7_add_15 (by decide) ?_
  refine g_iadd X dX7_add_16 ?_
  refine g_putI X dX7_add_17 pX7_25 (fun m17 em17 => ?_)
  have h := h m17 em17
  exact hr _ _ _ _ dX7_add_20 h
theorem im_X7_add (l : Launch) (x : WX) (v1 : Int) (m : Mem) (post : Mem → Prop) (h : wp_X7_add v1 m post) : MetV l x 67 0 yX7_add cX7_add 2 [(2, 37), (0, v1)] m post := met_V (by decide) (Nat.le_of_ble_eq_true rfl) (fun _ X hr => pf_X7_add X hr v1 m h)
def wp_X7_orderByMarks_14 (K2 : Int → Mem → Prop) (post : Mem → Prop) : Nat → Int → Int → Int → Mem → Prop
  | 0, _, _, _, _ => False
  | n + 1, v1, v2, v3, m =>
  ((v3 ≤ 0 → ((0 ≤ v2 ∧ v2 < 16) ∧ (∀ m70 : Mem, m70 = mset m 41 v2 v1 → (K2 (w32 (v1 + 1)) m70)))) ∧
  (¬ v3 ≤ 0 → ((0 ≤ w32 (v3 - 1) ∧ w32 (v3 - 1) < 16) ∧ ((0 ≤ m 41 (w32 (v3 - 1)) ∧ m 41 (w32 (v3 - 1)) < 16) ∧ ((0 ≤ v1 ∧ v1 < 16) ∧ (((m 40 (m 41 (w32 (v3 - 1))) ≤ m 40 v1 → ((0 ≤ v2 ∧ v2 < 16) ∧ (∀ m70 : Mem, m70 = mset m 41 v2 v1 → (K2 (w32 (v1 + 1)) m70)))) ∧
  (¬ m 40 (m 41 (w32 (v3 - 1))) ≤ m 40 v1 → ((0 ≤ w32 (v3 - 1) ∧ w32 (v3 - 1) < 16) ∧ ((0 ≤ v3 ∧ v3 < 16) ∧ (∀ m53 : Mem, m53 = mset m 41 v3 (m 41 (w32 (v3 - 1))) → (∀ v2_57 : Int, v2_57 = w32 (v3 - 1) → (wp_X7_orderByMarks_14 K2 post n v1 v2_57 (w32 (v3 + (-1))) m53)))))))))))))
set_option maxRecDepth 100000 in
theorem pf_X7_orderByMarks_14 {l : Launch} {x : WX} {G : GT} {post : Mem → Prop} {K2 : Int → Mem → Prop} (X : Ax l x cX7_orderByMarks RX7 4 (rmd 0) 67 G) (hr : RV cX7_orderByMarks post G) (hK2 : ∀ (v1 : Int) (m : Mem), K2 v1 m → G 2 [(0, (2, 37)), (1, (0, v1))] [] m) : ∀ (n : Nat) (v1 : Int) (v2 : Int) (v3 : Int) (m : Mem) (_ : wp_X7_orderByMarks_14 K2 post n v1 v2 v3 m), G 14 [(0, (2, 37)), (1, (0, v1)), (2, (0, v2)), (3, (0, v3))] [] m := by
  intro n
  induction n with
  | zero => intro v1 v2 v3 m h; exact absurd h id
  | succ n ih =>
  intro v1 v2 v3 m h
  unfold wp_X7_orderByMarks_14 at h
  refine g_iload_n 3 (i := 3) X dX7_orderByMarks_14 rfl rfl ?_
  refine g_if_le X dX7_orderByMarks_15 (tgt := 64) (by decide) (fun hc => ?_) (fun hc => ?_)
  · have h := h.1 hc
    refine g_aload_n 0 (i := 0) X dX7_orderByMarks_64 rfl rfl ?_
    refine g_getR X dX7_orderByMarks_65 fX7_19 ?_
    refine g_iload_n 2 (i := 2) X dX7_orderByMarks_68 rfl rfl ?_
    refine g_iload_n 1 (i := 1) X dX7_orderByMarks_69 rfl rfl ?_
    obtain ⟨hi, h⟩ := h
    refine g_iast X dX7_orderByMarks_70 rfl hi (fun m70 em70 => ?_)
    have h := h m70 em70
    refine g_iinc 1 (lv' := [(1, (0, w32 (v1 + 1))), (0, (2, 37)), (2, (0, v2)), (3, (0, v3))]) X dX7_orderByMarks_71 rfl (by decide) rfl ?_
    refine g_goto X dX7_orderByMarks_74 (tgt := 2) (by decide) ?_
    exact g_sub X [1, 0] rfl (hK2 _ _ h)
  · have h := h.2 hc
    refine g_aload_n 0 (i := 0) X dX7_orderByMarks_18 rfl rfl ?_
    refine g_getR X dX7_orderByMarks_19 fX7_16 ?_
    refine g_aload_n 0 (i := 0) X dX7_orderByMarks_22 rfl rfl ?_
    refine g_getR X dX7_orderByMarks_23 fX7_19 ?_
    refine g_iload_n 3 (i := 3) X dX7_orderByMarks_26 rfl rfl ?_
    refine g_iconst X dX7_orderByMarks_27 (by decide) ?_
    refine g_isub X dX7_orderByMarks_28 ?_
    obtain ⟨hi, h⟩ := h
    refine g_iald X dX7_orderByMarks_29 rfl hi ?_
    obtain ⟨hi, h⟩ := h
    refine g_iald X dX7_orderByMarks_30 rfl hi ?_
    refine g_aload_n 0 (i := 0) X dX7_orderByMarks_31 rfl rfl ?_
    refine g_getR X dX7_orderByMarks_32 fX7_16 ?_
    refine g_iload_n 1 (i := 1) X dX7_orderByMarks_35 rfl rfl ?_
    obtain ⟨hi, h⟩ := h
    refine g_iald X dX7_orderByMarks_36 rfl hi ?_
    refine g_icmp_le X dX7_orderByMarks_37 (tgt := 64) (by decide) (fun hc => ?_) (fun hc => ?_)
    · have h := h.1 hc
      refine g_aload_n 0 (i := 0) X dX7_orderByMarks_64 rfl rfl ?_
      refine g_getR X dX7_orderByMarks_65 fX7_19 ?_
      refine g_iload_n 2 (i := 2) X dX7_orderByMarks_68 rfl rfl ?_
      refine g_iload_n 1 (i := 1) X dX7_orderByMarks_69 rfl rfl ?_
      obtain ⟨hi, h⟩ := h
      refine g_iast X dX7_orderByMarks_70 rfl hi (fun m70 em70 => ?_)
      have h := h m70 em70
      refine g_iinc 1 (lv' := [(1, (0, w32 (v1 + 1))), (0, (2, 37)), (2, (0, v2)), (3, (0, v3))]) X dX7_orderByMarks_71 rfl (by decide) rfl ?_
      refine g_goto X dX7_orderByMarks_74 (tgt := 2) (by decide) ?_
      exact g_sub X [1, 0] rfl (hK2 _ _ h)
    · have h := h.2 hc
      refine g_aload_n 0 (i := 0) X dX7_orderByMarks_40 rfl rfl ?_
      refine g_getR X dX7_orderByMarks_41 fX7_19 ?_
      refine g_iload_n 3 (i := 3) X dX7_orderByMarks_44 rfl rfl ?_
      refine g_aload_n 0 (i := 0) X dX7_orderByMarks_45 rfl rfl ?_
      refine g_getR X dX7_orderByMarks_46 fX7_19 ?_
      refine g_iload_n 3 (i := 3) X dX7_orderByMarks_49 rfl rfl ?_
      refine g_iconst X dX7_orderByMarks_50 (by decide) ?_
      refine g_isub X dX7_orderByMarks_51 ?_
      obtain ⟨hi, h⟩ := h
      refine g_iald X dX7_orderByMarks_52 rfl hi ?_
      obtain ⟨hi, h⟩ := h
      refine g_iast X dX7_orderByMarks_53 rfl hi (fun m53 em53 => ?_)
      have h := h m53 em53
      refine g_iload_n 3 (i := 3) X dX7_orderByMarks_54 rfl rfl ?_
      refine g_iconst X dX7_orderByMarks_55 (by decide) ?_
      refine g_isub X dX7_orderByMarks_56 ?_
      refine g_nmI (fun v2_57 ev2_57 => ?_)
      have h := h v2_57 ev2_57
      refine g_istore_n (i := 2) (lv' := [(2, (0, v2_57)), (0, (2, 37)), (1, (0, v1)), (3, (0, v3))]) X dX7_orderByMarks_57 rfl (by decide) rfl ?_
      refine g_iinc 3 (lv' := [(3, (0, w32 (v3 + (-1)))), (2, (0, v2_57)), (0, (2, 37)), (1, (0, v1))]) X dX7_orderByMarks_58 rfl (by decide) rfl ?_
      refine g_goto X dX7_orderByMarks_61 (tgt := 14) (by decide) ?_
      exact g_sub X [2, 3, 1, 0] rfl (ih _ _ _ _ h)
def wp_X7_orderByMarks_2  (post : Mem → Prop) : Nat → Int → Mem → Prop
  | 0, _, _ => False
  | n + 1, v1, m =>
  ((m 37 0 ≤ v1 → (post m)) ∧
  (¬ m 37 0 ≤ v1 → (∃ n_3 : Nat, wp_X7_orderByMarks_14 (fun v1_2 m_2 => wp_X7_orderByMarks_2  post n v1_2 m_2) post n_3 v1 v1 v1 m)))
set_option maxRecDepth 100000 in
theorem pf_X7_orderByMarks_2 {l : Launch} {x : WX} {G : GT} {post : Mem → Prop}  (X : Ax l x cX7_orderByMarks RX7 4 (rmd 0) 67 G) (hr : RV cX7_orderByMarks post G) : ∀ (n : Nat) (v1 : Int) (m : Mem) (_ : wp_X7_orderByMarks_2  post n v1 m), G 2 [(0, (2, 37)), (1, (0, v1))] [] m := by
  intro n
  induction n with
  | zero => intro v1 m h; exact absurd h id
  | succ n ih =>
  intro v1 m h
  unfold wp_X7_orderByMarks_2 at h
  refine g_iload_n 1 (i := 1) X dX7_orderByMarks_2 rfl rfl ?_
  refine g_aload_n 0 (i := 0) X dX7_orderByMarks_3 rfl rfl ?_
  refine g_getI X dX7_orderByMarks_4 fX7_25 ?_
  refine g_icmp_ge X dX7_orderByMarks_7 (tgt := 77) (by decide) (fun hc => ?_) (fun hc => ?_)
  · have h := h.1 hc
    exact hr _ _ _ _ dX7_orderByMarks_77 h
  · have h := h.2 hc
    refine g_iload_n 1 (i := 1) X dX7_orderByMarks_10 rfl rfl ?_
    refine g_istore_n (i := 2) (lv' := [(2, (0, v1)), (0, (2, 37)), (1, (0, v1))]) X dX7_orderByMarks_11 rfl (by decide) rfl ?_
    refine g_iload_n 2 (i := 1) X dX7_orderByMarks_12 rfl rfl ?_
    refine g_istore_n (i := 3) (lv' := [(3, (0, v1)), (2, (0, v1)), (0, (2, 37)), (1, (0, v1))]) X dX7_orderByMarks_13 rfl (by decide) rfl ?_
    obtain ⟨n_3, h⟩ := h
    refine g_sub X [2, 3, 1, 0] rfl (pf_X7_orderByMarks_14 X hr (fun v1_2 m_2 h => ?_) n_3 _ _ _ _ h)
    · exact g_sub X [0, 1] rfl (ih _ _ h)
def wp_X7_orderByMarks  (m : Mem) (post : Mem → Prop) : Prop :=
  ∃ n_4 : Nat, wp_X7_orderByMarks_2  post n_4 0 m
set_option maxRecDepth 100000 in
theorem pf_X7_orderByMarks {l : Launch} {x : WX} {G : GT} {post : Mem → Prop} (X : Ax l x cX7_orderByMarks RX7 4 (rmd 0) 67 G) (hr : RV cX7_orderByMarks post G)  (m : Mem) (h : wp_X7_orderByMarks  m post) : G 0 [(0, (2, 37))] [] m := by
  unfold wp_X7_orderByMarks at h
  refine g_iconst X dX7_orderByMarks_0 (by decide) ?_
  refine g_istore_n (i := 1) (lv' := [(1, (0, 0)), (0, (2, 37))]) X dX7_orderByMarks_1 rfl (by decide) rfl ?_
  obtain ⟨n_4, h⟩ := h
  refine g_sub X [1, 0] rfl (pf_X7_orderByMarks_2 X hr  n_4 _ _ h)
theorem im_X7_orderByMarks (l : Launch) (x : WX)  (m : Mem) (post : Mem → Prop) (h : wp_X7_orderByMarks  m post) : MetV l x 67 0 yX7_orderByMarks cX7_orderByMarks 4 [(2, 37)] m post := met_V (by decide) (Nat.le_of_ble_eq_true rfl) (fun _ X hr => pf_X7_orderByMarks X hr  m h)
def wp_X7_giveNumbers_40 (v1 : Int) (v2 : Int) (m : Mem) (K8 : Int → Int → Mem → Prop) (post : Mem → Prop) : Prop :=
  (0 ≤ v2 ∧ v2 < 16) ∧ ((0 ≤ m 41 v2 ∧ m 41 v2 < 16) ∧ (∀ m51 : Mem, m51 = mset m 38 (m 41 v2) v1 → (K8 v1 (w32 (v2 + 1)) m51)))
set_option maxRecDepth 100000 in
theorem pf_X7_giveNumbers_40 {l : Launch} {x : WX} {G : GT} {post : Mem → Prop} {K8 : Int → Int → Mem → Prop} (X : Ax l x cX7_giveNumbers RX7 3 (rmd 1) 67 G) (hr : RV cX7_giveNumbers post G) (hK8 : ∀ (v1 : Int) (v2 : Int) (m : Mem), K8 v1 v2 m → G 8 [(0, (2, 37)), (1, (0, v1)), (2, (0, v2))] [] m) (v1 : Int) (v2 : Int) (m : Mem) (h : wp_X7_giveNumbers_40 v1 v2 m K8 post) : G 40 [(0, (2, 37)), (1, (0, v1)), (2, (0, v2))] [] m := by
  unfold wp_X7_giveNumbers_40 at h
  refine g_aload_n 0 (i := 0) X dX7_giveNumbers_40 rfl rfl ?_
  refine g_getR X dX7_giveNumbers_41 fX7_9 ?_
  refine g_aload_n 0 (i := 0) X dX7_giveNumbers_44 rfl rfl ?_
  refine g_getR X dX7_giveNumbers_45 fX7_19 ?_
  refine g_iload_n 2 (i := 2) X dX7_giveNumbers_48 rfl rfl ?_
  obtain ⟨hi, h⟩ := h
  refine g_iald X dX7_giveNumbers_49 rfl hi ?_
  refine g_iload_n 1 (i := 1) X dX7_giveNumbers_50 rfl rfl ?_
  obtain ⟨hi, h⟩ := h
  refine g_iast X dX7_giveNumbers_51 rfl hi (fun m51 em51 => ?_)
  have h := h m51 em51
  refine g_iinc 2 (lv' := [(2, (0, w32 (v2 + 1))), (0, (2, 37)), (1, (0, v1))]) X dX7_giveNumbers_52 rfl (by decide) rfl ?_
  refine g_goto X dX7_giveNumbers_55 (tgt := 8) (by decide) ?_
  exact g_sub X [1, 2, 0] rfl (hK8 _ _ _ h)
def wp_X7_giveNumbers_8  (post : Mem → Prop) : Nat → Int → Int → Mem → Prop
  | 0, _, _, _ => False
  | n + 1, v1, v2, m =>
  ((m 37 0 ≤ v2 → (post m)) ∧
  (¬ m 37 0 ≤ v2 → (((v2 ≤ 0 → (wp_X7_giveNumbers_40 v1 v2 m (fun v1_1 v2_1 m_1 => wp_X7_giveNumbers_8  post n v1_1 v2_1 m_1) post)) ∧
  (¬ v2 ≤ 0 → ((0 ≤ v2 ∧ v2 < 16) ∧ ((0 ≤ w32 (v2 - 1) ∧ w32 (v2 - 1) < 16) ∧ (((m 41 (w32 (v2 - 1)) ≤ m 41 v2 → (wp_X7_giveNumbers_40 v1 v2 m (fun v1_2 v2_2 m_2 => wp_X7_giveNumbers_8  post n v1_2 v2_2 m_2) post)) ∧
  (¬ m 41 (w32 (v2 - 1)) ≤ m 41 v2 → (wp_X7_giveNumbers_40 (w32 (v1 + 1)) v2 m (fun v1_3 v2_3 m_3 => wp_X7_giveNumbers_8  post n v1_3 v2_3 m_3) post)))))))))))
set_option maxRecDepth 100000 in
theorem pf_X7_giveNumbers_8 {l : Launch} {x : WX} {G : GT} {post : Mem → Prop}  (X : Ax l x cX7_giveNumbers RX7 3 (rmd 1) 67 G) (hr : RV cX7_giveNumbers post G) : ∀ (n : Nat) (v1 : Int) (v2 : Int) (m : Mem) (_ : wp_X7_giveNumbers_8  post n v1 v2 m), G 8 [(0, (2, 37)), (1, (0, v1)), (2, (0, v2))] [] m := by
  intro n
  induction n with
  | zero => intro v1 v2 m h; exact absurd h id
  | succ n ih =>
  intro v1 v2 m h
  unfold wp_X7_giveNumbers_8 at h
  refine g_iload_n 2 (i := 2) X dX7_giveNumbers_8 rfl rfl ?_
  refine g_aload_n 0 (i := 0) X dX7_giveNumbers_9 rfl rfl ?_
  refine g_getI X dX7_giveNumbers_10 fX7_25 ?_
  refine g_icmp_ge X dX7_giveNumbers_13 (tgt := 58) (by decide) (fun hc => ?_) (fun hc => ?_)
  · have h := h.1 hc
    exact hr _ _ _ _ dX7_giveNumbers_58 h
  · have h := h.2 hc
    refine g_iload_n 2 (i := 2) X dX7_giveNumbers_16 rfl rfl ?_
    refine g_if_le X dX7_giveNumbers_17 (tgt := 40) (by decide) (fun hc => ?_) (fun hc => ?_)
    · have h := h.1 hc
      refine g_sub X [0, 1, 2] rfl (pf_X7_giveNumbers_40 X hr (fun v1_1 v2_1 m_1 h => ?_) _ _ _ h)
      · exact g_sub X [0, 1, 2] rfl (ih _ _ _ h)
    · have h := h.2 hc
      refine g_aload_n 0 (i := 0) X dX7_giveNumbers_20 rfl rfl ?_
      refine g_getR X dX7_giveNumbers_21 fX7_19 ?_
      refine g_iload_n 2 (i := 2) X dX7_giveNumbers_24 rfl rfl ?_
      obtain ⟨hi, h⟩ := h
      refine g_iald X dX7_giveNumbers_25 rfl hi ?_
      refine g_aload_n 0 (i := 0) X dX7_giveNumbers_26 rfl rfl ?_
      refine g_getR X dX7_giveNumbers_27 fX7_19 ?_
      refine g_iload_n 2 (i := 2) X dX7_giveNumbers_30 rfl rfl ?_
      refine g_iconst X dX7_giveNumbers_31 (by decide) ?_
      refine g_isub X dX7_giveNumbers_32 ?_
      obtain ⟨hi, h⟩ := h
      refine g_iald X dX7_giveNumbers_33 rfl hi ?_
      refine g_icmp_ge X dX7_giveNumbers_34 (tgt := 40) (by decide) (fun hc => ?_) (fun hc => ?_)
      · have h := h.1 hc
        refine g_sub X [0, 1, 2] rfl (pf_X7_giveNumbers_40 X hr (fun v1_2 v2_2 m_2 h => ?_) _ _ _ h)
        · exact g_sub X [0, 1, 2] rfl (ih _ _ _ h)
      · have h := h.2 hc
        refine g_iinc 1 (lv' := [(1, (0, w32 (v1 + 1))), (0, (2, 37)), (2, (0, v2))]) X dX7_giveNumbers_37 rfl (by decide) rfl ?_
        refine g_sub X [1, 0, 2] rfl (pf_X7_giveNumbers_40 X hr (fun v1_3 v2_3 m_3 h => ?_) _ _ _ h)
        · exact g_sub X [0, 1, 2] rfl (ih _ _ _ h)
def wp_X7_giveNumbers  (m : Mem) (post : Mem → Prop) : Prop :=
  wp_X7_orderByMarks m (fun m1 => ∃ n_4 : Nat, wp_X7_giveNumbers_8  post n_4 0 0 m1)
set_option maxRecDepth 100000 in
theorem pf_X7_giveNumbers {l : Launch} {x : WX} {G : GT} {post : Mem → Prop} (X : Ax l x cX7_giveNumbers RX7 3 (rmd 1) 67 G) (hr : RV cX7_giveNumbers post G)  (m : Mem) (h : wp_X7_giveNumbers  m post) : G 0 [(0, (2, 37))] [] m := by
  unfold wp_X7_giveNumbers at h
  refine g_aload_n 0 (i := 0) X dX7_giveNumbers_0 rfl rfl ?_
  refine g_cVV (st := []) X dX7_giveNumbers_1 YX7_orderByMarks lX7_29 (by decide) (im_X7_orderByMarks l x  _ _ h) rfl ⟨by decide, by decide⟩ rfl (Nat.le_of_ble_eq_true rfl) (fun m1 h => ?_)
  refine g_iconst X dX7_giveNumbers_4 (by decide) ?_
  refine g_istore_n (i := 1) (lv' := [(1, (0, 0)), (0, (2, 37))]) X dX7_giveNumbers_5 rfl (by decide) rfl ?_
  refine g_iconst X dX7_giveNumbers_6 (by decide) ?_
  refine g_istore_n (i := 2) (lv' := [(2, (0, 0)), (1, (0, 0)), (0, (2, 37))]) X dX7_giveNumbers_7 rfl (by decide) rfl ?_
  obtain ⟨n_4, h⟩ := h
  refine g_sub X [2, 1, 0] rfl (pf_X7_giveNumbers_8 X hr  n_4 _ _ _ h)
theorem im_X7_giveNumbers (l : Launch) (x : WX)  (m : Mem) (post : Mem → Prop) (h : wp_X7_giveNumbers  m post) : MetV l x 67 1 yX7_giveNumbers cX7_giveNumbers 3 [(2, 37)] m post := met_V (by decide) (Nat.le_of_ble_eq_true rfl) (fun _ X hr => pf_X7_giveNumbers X hr  m h)
def wp_X7_stepsBy_4 (K37 : Int → Int → Int → Int → Int → Mem → Prop) (post : Int → Mem → Prop) : Nat → Int → Int → Int → Mem → Prop
  | 0, _, _, _, _ => False
  | n + 1, v1, v2, v3, m =>
  ((m 37 0 ≤ v3 → (K37 v1 v2 1 0 0 m)) ∧
  (¬ m 37 0 ≤ v3 → ((0 ≤ v3 ∧ v3 < 16) ∧ (∀ v2_22 : Int, v2_22 = (if v2 < m 38 v3 then m 38 v3 else v2) → (wp_X7_stepsBy_4 K37 post n v1 v2_22 (w32 (v3 + 1)) m)))))
set_option maxRecDepth 100000 in
theorem pf_X7_stepsBy_4 {l : Launch} {x : WX} {G : GT} {post : Int → Mem → Prop} {K37 : Int → Int → Int → Int → Int → Mem → Prop} (X : Ax l x cX7_stepsBy RX7 6 (rmd 1) 67 G) (hr : RI cX7_stepsBy post G) (hK37 : ∀ (v1 : Int) (v2 : Int) (v3 : Int) (v4 : Int) (v5 : Int) (m : Mem), K37 v1 v2 v3 v4 v5 m → G 37 [(1, (0, v1)), (2, (0, v2)), (3, (0, v3)), (4, (0, v4)), (5, (0, v5))] [] m) : ∀ (n : Nat) (v1 : Int) (v2 : Int) (v3 : Int) (m : Mem) (_ : wp_X7_stepsBy_4 K37 post n v1 v2 v3 m), G 4 [(0, (2, 37)), (1, (0, v1)), (2, (0, v2)), (3, (0, v3))] [] m := by
  intro n
  induction n with
  | zero => intro v1 v2 v3 m h; exact absurd h id
  | succ n ih =>
  intro v1 v2 v3 m h
  unfold wp_X7_stepsBy_4 at h
  refine g_iload_n 3 (i := 3) X dX7_stepsBy_4 rfl rfl ?_
  refine g_aload_n 0 (i := 0) X dX7_stepsBy_5 rfl rfl ?_
  refine g_getI X dX7_stepsBy_6 fX7_25 ?_
  refine g_icmp_ge X dX7_stepsBy_9 (tgt := 29) (by decide) (fun hc => ?_) (fun hc => ?_)
  · have h := h.1 hc
    refine g_iconst X dX7_stepsBy_29 (by decide) ?_
    refine g_istore_n (i := 3) (lv' := [(3, (0, 1)), (0, (2, 37)), (1, (0, v1)), (2, (0, v2))]) X dX7_stepsBy_30 rfl (by decide) rfl ?_
    refine g_iconst X dX7_stepsBy_31 (by decide) ?_
    refine g_istore (i := 4) (lv' := [(4, (0, 0)), (3, (0, 1)), (0, (2, 37)), (1, (0, v1)), (2, (0, v2))]) X dX7_stepsBy_32 (by decide) rfl ?_
    refine g_iconst X dX7_stepsBy_34 (by decide) ?_
    refine g_istore (i := 5) (lv' := [(5, (0, 0)), (4, (0, 0)), (3, (0, 1)), (0, (2, 37)), (1, (0, v1)), (2, (0, v2))]) X dX7_stepsBy_35 (by decide) rfl ?_
    exact g_sub X [4, 5, 2, 1, 0] rfl (hK37 _ _ _ _ _ _ h)
  · have h := h.2 hc
    refine g_iload_n 2 (i := 2) X dX7_stepsBy_12 rfl rfl ?_
    refine g_aload_n 0 (i := 0) X dX7_stepsBy_13 rfl rfl ?_
    refine g_getR X dX7_stepsBy_14 fX7_9 ?_
    refine g_iload_n 3 (i := 3) X dX7_stepsBy_17 rfl rfl ?_
    obtain ⟨hi, h⟩ := h
    refine g_iald X dX7_stepsBy_18 rfl hi ?_
    refine g_max X dX7_stepsBy_19 lX7_32 mm_max_static mm_init mm_max_code (by decide) (Nat.le_of_ble_eq_true rfl) ?_
    refine g_nmI (fun v2_22 ev2_22 => ?_)
    have h := h v2_22 ev2_22
    refine g_istore_n (i := 2) (lv' := [(2, (0, v2_22)), (0, (2, 37)), (1, (0, v1)), (3, (0, v3))]) X dX7_stepsBy_22 rfl (by decide) rfl ?_
    refine g_iinc 3 (lv' := [(3, (0, w32 (v3 + 1))), (2, (0, v2_22)), (0, (2, 37)), (1, (0, v1))]) X dX7_stepsBy_23 rfl (by decide) rfl ?_
    refine g_goto X dX7_stepsBy_26 (tgt := 4) (by decide) ?_
    exact g_sub X [2, 3, 1, 0] rfl (ih _ _ _ _ h)
def wp_X7_stepsBy_37  (post : Int → Mem → Prop) : Nat → Int → Int → Int → Int → Int → Mem → Prop
  | 0, _, _, _, _, _, _ => False
  | n + 1, v1, v2, v3, v4, v5, m =>
  ((16 ≤ v5 → (post v4 m)) ∧
  (¬ 16 ≤ v5 → (((v2 < v3 → (post v4 m)) ∧
  (¬ v2 < v3 → (∀ v3_52 : Int, v3_52 = w32 (v3 * v1) → (wp_X7_stepsBy_37  post n v1 v2 v3_52 (w32 (v4 + 1)) (w32 (v5 + 1)) m)))))))
set_option maxRecDepth 100000 in
theorem pf_X7_stepsBy_37 {l : Launch} {x : WX} {G : GT} {post : Int → Mem → Prop}  (X : Ax l x cX7_stepsBy RX7 6 (rmd 1) 67 G) (hr : RI cX7_stepsBy post G) : ∀ (n : Nat) (v1 : Int) (v2 : Int) (v3 : Int) (v4 : Int) (v5 : Int) (m : Mem) (_ : wp_X7_stepsBy_37  post n v1 v2 v3 v4 v5 m), G 37 [(1, (0, v1)), (2, (0, v2)), (3, (0, v3)), (4, (0, v4)), (5, (0, v5))] [] m := by
  intro n
  induction n with
  | zero => intro v1 v2 v3 v4 v5 m h; exact absurd h id
  | succ n ih =>
  intro v1 v2 v3 v4 v5 m h
  unfold wp_X7_stepsBy_37 at h
  refine g_iload 4 (i := 5) X dX7_stepsBy_37 rfl ?_
  refine g_bipush X dX7_stepsBy_39 (by decide) ?_
  refine g_icmp_ge X dX7_stepsBy_41 (tgt := 62) (by decide) (fun hc => ?_) (fun hc => ?_)
  · have h := h.1 hc
    refine g_iload 3 (i := 4) X dX7_stepsBy_62 rfl ?_
    exact hr _ _ _ _ _ dX7_stepsBy_64 h
  · have h := h.2 hc
    refine g_iload_n 2 (i := 3) X dX7_stepsBy_44 rfl rfl ?_
    refine g_iload_n 1 (i := 2) X dX7_stepsBy_45 rfl rfl ?_
    refine g_icmp_gt X dX7_stepsBy_46 (tgt := 62) (by decide) (fun hc => ?_) (fun hc => ?_)
    · have h := h.1 hc
      refine g_iload 3 (i := 4) X dX7_stepsBy_62 rfl ?_
      exact hr _ _ _ _ _ dX7_stepsBy_64 h
    · have h := h.2 hc
      refine g_iload_n 2 (i := 3) X dX7_stepsBy_49 rfl rfl ?_
      refine g_iload_n 0 (i := 1) X dX7_stepsBy_50 rfl rfl ?_
      refine g_imul X dX7_stepsBy_51 ?_
      refine g_nmI (fun v3_52 ev3_52 => ?_)
      have h := h v3_52 ev3_52
      refine g_istore_n (i := 3) (lv' := [(3, (0, v3_52)), (1, (0, v1)), (2, (0, v2)), (4, (0, v4)), (5, (0, v5))]) X dX7_stepsBy_52 rfl (by decide) rfl ?_
      refine g_iinc 3 (lv' := [(4, (0, w32 (v4 + 1))), (3, (0, v3_52)), (1, (0, v1)), (2, (0, v2)), (5, (0, v5))]) X dX7_stepsBy_53 rfl (by decide) rfl ?_
      refine g_iinc 4 (lv' := [(5, (0, w32 (v5 + 1))), (4, (0, w32 (v4 + 1))), (3, (0, v3_52)), (1, (0, v1)), (2, (0, v2))]) X dX7_stepsBy_56 rfl (by decide) rfl ?_
      refine g_goto X dX7_stepsBy_59 (tgt := 37) (by decide) ?_
      exact g_sub X [3, 4, 2, 1, 0] rfl (ih _ _ _ _ _ _ h)
def wp_X7_stepsBy (v1 : Int) (m : Mem) (post : Int → Mem → Prop) : Prop :=
  ∃ n_5 : Nat, wp_X7_stepsBy_4 (fun v1_2 v2_2 v3_2 v4_2 v5_2 m_2 => ∃ n_4 : Nat, wp_X7_stepsBy_37  post n_4 v1_2 v2_2 v3_2 v4_2 v5_2 m_2) post n_5 v1 0 0 m
set_option maxRecDepth 100000 in
theorem pf_X7_stepsBy {l : Launch} {x : WX} {G : GT} {post : Int → Mem → Prop} (X : Ax l x cX7_stepsBy RX7 6 (rmd 1) 67 G) (hr : RI cX7_stepsBy post G) (v1 : Int) (m : Mem) (h : wp_X7_stepsBy v1 m post) : G 0 [(0, (2, 37)), (1, (0, v1))] [] m := by
  unfold wp_X7_stepsBy at h
  refine g_iconst X dX7_stepsBy_0 (by decide) ?_
  refine g_istore_n (i := 2) (lv' := [(2, (0, 0)), (0, (2, 37)), (1, (0, v1))]) X dX7_stepsBy_1 rfl (by decide) rfl ?_
  refine g_iconst X dX7_stepsBy_2 (by decide) ?_
  refine g_istore_n (i := 3) (lv' := [(3, (0, 0)), (2, (0, 0)), (0, (2, 37)), (1, (0, v1))]) X dX7_stepsBy_3 rfl (by decide) rfl ?_
  obtain ⟨n_5, h⟩ := h
  refine g_sub X [2, 3, 1, 0] rfl (pf_X7_stepsBy_4 X hr (fun v1_2 v2_2 v3_2 v4_2 v5_2 m_2 h => ?_) n_5 _ _ _ _ h)
  · obtain ⟨n_4, h⟩ := h
    refine g_sub X [0, 1, 2, 3, 4] rfl (pf_X7_stepsBy_37 X hr  n_4 _ _ _ _ _ _ h)
theorem im_X7_stepsBy (l : Launch) (x : WX) (v1 : Int) (m : Mem) (post : Int → Mem → Prop) (h : wp_X7_stepsBy v1 m post) : MetI l x 67 1 yX7_stepsBy cX7_stepsBy 6 .int [(2, 37), (0, v1)] m post := met_I (by decide) (Nat.le_of_ble_eq_true rfl) (fun _ X hr => pf_X7_stepsBy X hr v1 m h)
def wp_X7_rollOnce_25 (K16 : Int → Int → Int → Int → Mem → Prop) (post : Mem → Prop) : Nat → Int → Int → Int → Int → Int → Mem → Prop
  | 0, _, _, _, _, _, _ => False
  | n + 1, v1, v2, v3, v4, v5, m =>
  ((m 37 0 ≤ v5 → (K16 v1 v2 v3 (w32 (v4 + 1)) m)) ∧
  (¬ m 37 0 ≤ v5 → ((0 ≤ v5 ∧ v5 < 16) ∧ ((0 ≤ m 39 v5 ∧ m 39 v5 < 16) ∧ (¬ v2 = 0 ∧ (¬ v1 = 0 ∧ (((¬ Int.tmod (w32 (Int.tdiv (m 38 (m 39 v5)) v2)) v1 = v4 → (wp_X7_rollOnce_25 K16 post n v1 v2 v3 v4 (w32 (v5 + 1)) m)) ∧
  (Int.tmod (w32 (Int.tdiv (m 38 (m 39 v5)) v2)) v1 = v4 → ((0 ≤ v5 ∧ v5 < 16) ∧ ((0 ≤ v3 ∧ v3 < 16) ∧ (∀ m67 : Mem, m67 = mset m 42 v3 (m 39 v5) → (wp_X7_rollOnce_25 K16 post n v1 v2 (w32 (v3 + 1)) v4 (w32 (v5 + 1)) m67)))))))))))))
set_option maxRecDepth 100000 in
theorem pf_X7_rollOnce_25 {l : Launch} {x : WX} {G : GT} {post : Mem → Prop} {K16 : Int → Int → Int → Int → Mem → Prop} (X : Ax l x cX7_rollOnce RX7 6 (rmd 1) 67 G) (hr : RV cX7_rollOnce post G) (hK16 : ∀ (v1 : Int) (v2 : Int) (v3 : Int) (v4 : Int) (m : Mem), K16 v1 v2 v3 v4 m → G 16 [(0, (2, 37)), (1, (0, v1)), (2, (0, v2)), (3, (0, v3)), (4, (0, v4))] [] m) : ∀ (n : Nat) (v1 : Int) (v2 : Int) (v3 : Int) (v4 : Int) (v5 : Int) (m : Mem) (_ : wp_X7_rollOnce_25 K16 post n v1 v2 v3 v4 v5 m), G 25 [(0, (2, 37)), (1, (0, v1)), (2, (0, v2)), (3, (0, v3)), (4, (0, v4)), (5, (0, v5))] [] m := by
  intro n
  induction n with
  | zero => intro v1 v2 v3 v4 v5 m h; exact absurd h id
  | succ n ih =>
  intro v1 v2 v3 v4 v5 m h
  unfold wp_X7_rollOnce_25 at h
  refine g_iload 5 (i := 5) X dX7_rollOnce_25 rfl ?_
  refine g_aload_n 0 (i := 0) X dX7_rollOnce_27 rfl rfl ?_
  refine g_getI X dX7_rollOnce_28 fX7_25 ?_
  refine g_icmp_ge X dX7_rollOnce_31 (tgt := 77) (by decide) (fun hc => ?_) (fun hc => ?_)
  · have h := h.1 hc
    refine g_iinc 4 (lv' := [(4, (0, w32 (v4 + 1))), (0, (2, 37)), (1, (0, v1)), (2, (0, v2)), (3, (0, v3)), (5, (0, v5))]) X dX7_rollOnce_77 rfl (by decide) rfl ?_
    refine g_goto X dX7_rollOnce_80 (tgt := 16) (by decide) ?_
    exact g_sub X [1, 2, 3, 4, 0] rfl (hK16 _ _ _ _ _ h)
  · have h := h.2 hc
    refine g_aload_n 0 (i := 0) X dX7_rollOnce_34 rfl rfl ?_
    refine g_getR X dX7_rollOnce_35 fX7_9 ?_
    refine g_aload_n 0 (i := 0) X dX7_rollOnce_38 rfl rfl ?_
    refine g_getR X dX7_rollOnce_39 fX7_13 ?_
    refine g_iload 5 (i := 5) X dX7_rollOnce_42 rfl ?_
    obtain ⟨hi, h⟩ := h
    refine g_iald X dX7_rollOnce_44 rfl hi ?_
    obtain ⟨hi, h⟩ := h
    refine g_iald X dX7_rollOnce_45 rfl hi ?_
    refine g_iload_n 2 (i := 2) X dX7_rollOnce_46 rfl rfl ?_
    obtain ⟨hz, h⟩ := h
    refine g_idiv X dX7_rollOnce_47 hz ?_
    refine g_iload_n 1 (i := 1) X dX7_rollOnce_48 rfl rfl ?_
    obtain ⟨hz, h⟩ := h
    refine g_irem X dX7_rollOnce_49 hz ?_
    refine g_iload 4 (i := 4) X dX7_rollOnce_50 rfl ?_
    refine g_icmp_ne X dX7_rollOnce_52 (tgt := 71) (by decide) (fun hc => ?_) (fun hc => ?_)
    · have h := h.1 hc
      refine g_iinc 5 (lv' := [(5, (0, w32 (v5 + 1))), (0, (2, 37)), (1, (0, v1)), (2, (0, v2)), (3, (0, v3)), (4, (0, v4))]) X dX7_rollOnce_71 rfl (by decide) rfl ?_
      refine g_goto X dX7_rollOnce_74 (tgt := 25) (by decide) ?_
      exact g_sub X [1, 2, 3, 4, 5, 0] rfl (ih _ _ _ _ _ _ h)
    · have h := h.2 hc
      refine g_aload_n 0 (i := 0) X dX7_rollOnce_55 rfl rfl ?_
      refine g_getR X dX7_rollOnce_56 fX7_22 ?_
      refine g_iload_n 3 (i := 3) X dX7_rollOnce_59 rfl rfl ?_
      refine g_aload_n 0 (i := 0) X dX7_rollOnce_60 rfl rfl ?_
      refine g_getR X dX7_rollOnce_61 fX7_13 ?_
      refine g_iload 5 (i := 5) X dX7_rollOnce_64 rfl ?_
      obtain ⟨hi, h⟩ := h
      refine g_iald X dX7_rollOnce_66 rfl hi ?_
      obtain ⟨hi, h⟩ := h
      refine g_iast X dX7_rollOnce_67 rfl hi (fun m67 em67 => ?_)
      have h := h m67 em67
      refine g_iinc 3 (lv' := [(3, (0, w32 (v3 + 1))), (0, (2, 37)), (1, (0, v1)), (2, (0, v2)), (4, (0, v4)), (5, (0, v5))]) X dX7_rollOnce_68 rfl (by decide) rfl ?_
      refine g_iinc 5 (lv' := [(5, (0, w32 (v5 + 1))), (3, (0, w32 (v3 + 1))), (0, (2, 37)), (1, (0, v1)), (2, (0, v2)), (4, (0, v4))]) X dX7_rollOnce_71 rfl (by decide) rfl ?_
      refine g_goto X dX7_rollOnce_74 (tgt := 25) (by decide) ?_
      exact g_sub X [2, 3, 4, 1, 5, 0] rfl (ih _ _ _ _ _ _ h)
def wp_X7_rollOnce_16 (K83 : Int → Mem → Prop) (post : Mem → Prop) : Nat → Int → Int → Int → Int → Mem → Prop
  | 0, _, _, _, _, _ => False
  | n + 1, v1, v2, v3, v4, m =>
  ((v1 ≤ v4 → (K83 v3 m)) ∧
  (¬ v1 ≤ v4 → (∃ n_2 : Nat, wp_X7_rollOnce_25 (fun v1_1 v2_1 v3_1 v4_1 m_1 => wp_X7_rollOnce_16 K83 post n v1_1 v2_1 v3_1 v4_1 m_1) post n_2 v1 v2 v3 v4 0 m)))
set_option maxRecDepth 100000 in
theorem pf_X7_rollOnce_16 {l : Launch} {x : WX} {G : GT} {post : Mem → Prop} {K83 : Int → Mem → Prop} (X : Ax l x cX7_rollOnce RX7 6 (rmd 1) 67 G) (hr : RV cX7_rollOnce post G) (hK83 : ∀ (v3 : Int) (m : Mem), K83 v3 m → G 83 [(0, (2, 37)), (3, (0, v3))] [] m) : ∀ (n : Nat) (v1 : Int) (v2 : Int) (v3 : Int) (v4 : Int) (m : Mem) (_ : wp_X7_rollOnce_16 K83 post n v1 v2 v3 v4 m), G 16 [(0, (2, 37)), (1, (0, v1)), (2, (0, v2)), (3, (0, v3)), (4, (0, v4))] [] m := by
  intro n
  induction n with
  | zero => intro v1 v2 v3 v4 m h; exact absurd h id
  | succ n ih =>
  intro v1 v2 v3 v4 m h
  unfold wp_X7_rollOnce_16 at h
  refine g_iload 4 (i := 4) X dX7_rollOnce_16 rfl ?_
  refine g_iload_n 1 (i := 1) X dX7_rollOnce_18 rfl rfl ?_
  refine g_icmp_ge X dX7_rollOnce_19 (tgt := 83) (by decide) (fun hc => ?_) (fun hc => ?_)
  · have h := h.1 hc
    exact g_sub X [0, 3] rfl (hK83 _ _ h)
  · have h := h.2 hc
    refine g_iconst X dX7_rollOnce_22 (by decide) ?_
    refine g_istore (i := 5) (lv' := [(5, (0, 0)), (0, (2, 37)), (1, (0, v1)), (2, (0, v2)), (3, (0, v3)), (4, (0, v4))]) X dX7_rollOnce_23 (by decide) rfl ?_
    obtain ⟨n_2, h⟩ := h
    refine g_sub X [1, 2, 3, 4, 5, 0] rfl (pf_X7_rollOnce_25 X hr (fun v1_1 v2_1 v3_1 v4_1 m_1 h => ?_) n_2 _ _ _ _ _ _ h)
    · exact g_sub X [0, 1, 2, 3, 4] rfl (ih _ _ _ _ _ h)
def wp_X7_rollOnce (v1 : Int) (v2 : Int) (m : Mem) (post : Mem → Prop) : Prop :=
  ((v2 < 1 → (post m)) ∧
  (¬ v2 < 1 → (((1 ≤ v1 → (∃ n_4 : Nat, wp_X7_rollOnce_16 (fun v3_3 m_3 => ((0 : Int) ≤ 0 ∧ (0 : Int) ≤ 0 ∧ (0 : Int) ≤ v3_3 ∧ (0 : Int) + v3_3 ≤ 16 ∧ (0 : Int) + v3_3 ≤ 16) ∧ (∀ m94 : Mem, m94 = mcpy m_3 42 0 39 0 v3_3 → (post m94))) post n_4 v1 v2 0 0 m)) ∧
  (¬ 1 ≤ v1 → (post m))))))
set_option maxRecDepth 100000 in
theorem pf_X7_rollOnce {l : Launch} {x : WX} {G : GT} {post : Mem → Prop} (X : Ax l x cX7_rollOnce RX7 6 (rmd 1) 67 G) (hr : RV cX7_rollOnce post G) (v1 : Int) (v2 : Int) (m : Mem) (h : wp_X7_rollOnce v1 v2 m post) : G 0 [(0, (2, 37)), (1, (0, v1)), (2, (0, v2))] [] m := by
  unfold wp_X7_rollOnce at h
  refine g_iload_n 2 (i := 2) X dX7_rollOnce_0 rfl rfl ?_
  refine g_iconst X dX7_rollOnce_1 (by decide) ?_
  refine g_icmp_lt X dX7_rollOnce_2 (tgt := 10) (by decide) (fun hc => ?_) (fun hc => ?_)
  · have h := h.1 hc
    exact hr _ _ _ _ dX7_rollOnce_10 h
  · have h := h.2 hc
    refine g_iload_n 1 (i := 1) X dX7_rollOnce_5 rfl rfl ?_
    refine g_iconst X dX7_rollOnce_6 (by decide) ?_
    refine g_icmp_ge X dX7_rollOnce_7 (tgt := 11) (by decide) (fun hc => ?_) (fun hc => ?_)
    · have h := h.1 hc
      refine g_iconst X dX7_rollOnce_11 (by decide) ?_
      refine g_istore_n (i := 3) (lv' := [(3, (0, 0)), (0, (2, 37)), (1, (0, v1)), (2, (0, v2))]) X dX7_rollOnce_12 rfl (by decide) rfl ?_
      refine g_iconst X dX7_rollOnce_13 (by decide) ?_
      refine g_istore (i := 4) (lv' := [(4, (0, 0)), (3, (0, 0)), (0, (2, 37)), (1, (0, v1)), (2, (0, v2))]) X dX7_rollOnce_14 (by decide) rfl ?_
      obtain ⟨n_4, h⟩ := h
      refine g_sub X [2, 3, 4, 1, 0] rfl (pf_X7_rollOnce_16 X hr (fun v3_3 m_3 h => ?_) n_4 _ _ _ _ _ h)
      · refine g_aload_n 0 (i := 0) X dX7_rollOnce_83 rfl rfl ?_
        refine g_getR X dX7_rollOnce_84 fX7_22 ?_
        refine g_iconst X dX7_rollOnce_87 (by decide) ?_
        refine g_aload_n 0 (i := 0) X dX7_rollOnce_88 rfl rfl ?_
        refine g_getR X dX7_rollOnce_89 fX7_13 ?_
        refine g_iconst X dX7_rollOnce_92 (by decide) ?_
        refine g_iload_n 1 (i := 3) X dX7_rollOnce_93 rfl rfl ?_
        obtain ⟨hi, h⟩ := h
        refine g_copy X dX7_rollOnce_94 lX7_42 ac_native ac_static ac_init (by decide) (Nat.le_of_ble_eq_true rfl) rfl rfl (by decide) (by decide) hi (fun m94 em94 => ?_)
        have h := h m94 em94
        exact hr _ _ _ _ dX7_rollOnce_97 h
    · have h := h.2 hc
      exact hr _ _ _ _ dX7_rollOnce_10 h
theorem im_X7_rollOnce (l : Launch) (x : WX) (v1 : Int) (v2 : Int) (m : Mem) (post : Mem → Prop) (h : wp_X7_rollOnce v1 v2 m post) : MetV l x 67 1 yX7_rollOnce cX7_rollOnce 6 [(2, 37), (0, v1), (0, v2)] m post := met_V (by decide) (Nat.le_of_ble_eq_true rfl) (fun _ X hr => pf_X7_rollOnce X hr v1 v2 m h)
def wp_X7_sortBy_2 (K28 : Int → Int → Int → Int → Mem → Prop) (post : Mem → Prop) : Nat → Int → Int → Int → Mem → Prop
  | 0, _, _, _, _ => False
  | n + 1, v1, v2, v3, m =>
  ((m 37 0 ≤ v3 → (K28 v1 v2 1 0 m)) ∧
  (¬ m 37 0 ≤ v3 → ((0 ≤ v3 ∧ v3 < 16) ∧ (∀ m16 : Mem, m16 = mset m 39 v3 v3 → (wp_X7_sortBy_2 K28 post n v1 v2 (w32 (v3 + 1)) m16)))))
set_option maxRecDepth 100000 in
theorem pf_X7_sortBy_2 {l : Launch} {x : WX} {G : GT} {post : Mem → Prop} {K28 : Int → Int → Int → Int → Mem → Prop} (X : Ax l x cX7_sortBy RX7 5 (rmd 2) 67 G) (hr : RV cX7_sortBy post G) (hK28 : ∀ (v1 : Int) (v2 : Int) (v3 : Int) (v4 : Int) (m : Mem), K28 v1 v2 v3 v4 m → G 28 [(0, (2, 37)), (1, (0, v1)), (2, (0, v2)), (3, (0, v3)), (4, (0, v4))] [] m) : ∀ (n : Nat) (v1 : Int) (v2 : Int) (v3 : Int) (m : Mem) (_ : wp_X7_sortBy_2 K28 post n v1 v2 v3 m), G 2 [(0, (2, 37)), (1, (0, v1)), (2, (0, v2)), (3, (0, v3))] [] m := by
  intro n
  induction n with
  | zero => intro v1 v2 v3 m h; exact absurd h id
  | succ n ih =>
  intro v1 v2 v3 m h
  unfold wp_X7_sortBy_2 at h
  refine g_iload_n 3 (i := 3) X dX7_sortBy_2 rfl rfl ?_
  refine g_aload_n 0 (i := 0) X dX7_sortBy_3 rfl rfl ?_
  refine g_getI X dX7_sortBy_4 fX7_25 ?_
  refine g_icmp_ge X dX7_sortBy_7 (tgt := 23) (by decide) (fun hc => ?_) (fun hc => ?_)
  · have h := h.1 hc
    refine g_iconst X dX7_sortBy_23 (by decide) ?_
    refine g_istore_n (i := 3) (lv' := [(3, (0, 1)), (0, (2, 37)), (1, (0, v1)), (2, (0, v2))]) X dX7_sortBy_24 rfl (by decide) rfl ?_
    refine g_iconst X dX7_sortBy_25 (by decide) ?_
    refine g_istore (i := 4) (lv' := [(4, (0, 0)), (3, (0, 1)), (0, (2, 37)), (1, (0, v1)), (2, (0, v2))]) X dX7_sortBy_26 (by decide) rfl ?_
    exact g_sub X [2, 3, 4, 1, 0] rfl (hK28 _ _ _ _ _ h)
  · have h := h.2 hc
    refine g_aload_n 0 (i := 0) X dX7_sortBy_10 rfl rfl ?_
    refine g_getR X dX7_sortBy_11 fX7_13 ?_
    refine g_iload_n 3 (i := 3) X dX7_sortBy_14 rfl rfl ?_
    refine g_iload_n 3 (i := 3) X dX7_sortBy_15 rfl rfl ?_
    obtain ⟨hi, h⟩ := h
    refine g_iast X dX7_sortBy_16 rfl hi (fun m16 em16 => ?_)
    have h := h m16 em16
    refine g_iinc 3 (lv' := [(3, (0, w32 (v3 + 1))), (0, (2, 37)), (1, (0, v1)), (2, (0, v2))]) X dX7_sortBy_17 rfl (by decide) rfl ?_
    refine g_goto X dX7_sortBy_20 (tgt := 2) (by decide) ?_
    exact g_sub X [1, 2, 3, 0] rfl (ih _ _ _ _ h)
def wp_X7_sortBy_28  (post : Mem → Prop) : Nat → Int → Int → Int → Int → Mem → Prop
  | 0, _, _, _, _, _ => False
  | n + 1, v1, v2, v3, v4, m =>
  ((v2 ≤ v4 → (post m)) ∧
  (¬ v2 ≤ v4 → (wp_X7_rollOnce v1 v3 m (fun m37 => ∀ v3_43 : Int, v3_43 = w32 (v3 * v1) → (wp_X7_sortBy_28  post n v1 v2 v3_43 (w32 (v4 + 1)) m37)))))
set_option maxRecDepth 100000 in
theorem pf_X7_sortBy_28 {l : Launch} {x : WX} {G : GT} {post : Mem → Prop}  (X : Ax l x cX7_sortBy RX7 5 (rmd 2) 67 G) (hr : RV cX7_sortBy post G) : ∀ (n : Nat) (v1 : Int) (v2 : Int) (v3 : Int) (v4 : Int) (m : Mem) (_ : wp_X7_sortBy_28  post n v1 v2 v3 v4 m), G 28 [(0, (2, 37)), (1, (0, v1)), (2, (0, v2)), (3, (0, v3)), (4, (0, v4))] [] m := by
  intro n
  induction n with
  | zero => intro v1 v2 v3 v4 m h; exact absurd h id
  | succ n ih =>
  intro v1 v2 v3 v4 m h
  unfold wp_X7_sortBy_28 at h
  refine g_iload 4 (i := 4) X dX7_sortBy_28 rfl ?_
  refine g_iload_n 2 (i := 2) X dX7_sortBy_30 rfl rfl ?_
  refine g_icmp_ge X dX7_sortBy_31 (tgt := 50) (by decide) (fun hc => ?_) (fun hc => ?_)
  · have h := h.1 hc
    exact hr _ _ _ _ dX7_sortBy_50 h
  · have h := h.2 hc
    refine g_aload_n 0 (i := 0) X dX7_sortBy_34 rfl rfl ?_
    refine g_iload_n 1 (i := 1) X dX7_sortBy_35 rfl rfl ?_
    refine g_iload_n 3 (i := 3) X dX7_sortBy_36 rfl rfl ?_
    refine g_cVV (st := []) X dX7_sortBy_37 YX7_rollOnce lX7_38 (by decide) (im_X7_rollOnce l x _ _ _ _ h) rfl ⟨by decide, by decide⟩ rfl (Nat.le_of_ble_eq_true rfl) (fun m37 h => ?_)
    refine g_iload_n 3 (i := 3) X dX7_sortBy_40 rfl rfl ?_
    refine g_iload_n 1 (i := 1) X dX7_sortBy_41 rfl rfl ?_
    refine g_imul X dX7_sortBy_42 ?_
    refine g_nmI (fun v3_43 ev3_43 => ?_)
    have h := h v3_43 ev3_43
    refine g_istore_n (i := 3) (lv' := [(3, (0, v3_43)), (0, (2, 37)), (1, (0, v1)), (2, (0, v2)), (4, (0, v4))]) X dX7_sortBy_43 rfl (by decide) rfl ?_
    refine g_iinc 4 (lv' := [(4, (0, w32 (v4 + 1))), (3, (0, v3_43)), (0, (2, 37)), (1, (0, v1)), (2, (0, v2))]) X dX7_sortBy_44 rfl (by decide) rfl ?_
    refine g_goto X dX7_sortBy_47 (tgt := 28) (by decide) ?_
    exact g_sub X [2, 3, 4, 1, 0] rfl (ih _ _ _ _ _ h)
def wp_X7_sortBy (v1 : Int) (v2 : Int) (m : Mem) (post : Mem → Prop) : Prop :=
  ∃ n_4 : Nat, wp_X7_sortBy_2 (fun v1_1 v2_1 v3_1 v4_1 m_1 => ∃ n_3 : Nat, wp_X7_sortBy_28  post n_3 v1_1 v2_1 v3_1 v4_1 m_1) post n_4 v1 v2 0 m
set_option maxRecDepth 100000 in
theorem pf_X7_sortBy {l : Launch} {x : WX} {G : GT} {post : Mem → Prop} (X : Ax l x cX7_sortBy RX7 5 (rmd 2) 67 G) (hr : RV cX7_sortBy post G) (v1 : Int) (v2 : Int) (m : Mem) (h : wp_X7_sortBy v1 v2 m post) : G 0 [(0, (2, 37)), (1, (0, v1)), (2, (0, v2))] [] m := by
  unfold wp_X7_sortBy at h
  refine g_iconst X dX7_sortBy_0 (by decide) ?_
  refine g_istore_n (i := 3) (lv' := [(3, (0, 0)), (0, (2, 37)), (1, (0, v1)), (2, (0, v2))]) X dX7_sortBy_1 rfl (by decide) rfl ?_
  obtain ⟨n_4, h⟩ := h
  refine g_sub X [1, 2, 3, 0] rfl (pf_X7_sortBy_2 X hr (fun v1_1 v2_1 v3_1 v4_1 m_1 h => ?_) n_4 _ _ _ _ h)
  · obtain ⟨n_3, h⟩ := h
    refine g_sub X [0, 1, 2, 3, 4] rfl (pf_X7_sortBy_28 X hr  n_3 _ _ _ _ _ h)
theorem im_X7_sortBy (l : Launch) (x : WX) (v1 : Int) (v2 : Int) (m : Mem) (post : Mem → Prop) (h : wp_X7_sortBy v1 v2 m post) : MetV l x 67 2 yX7_sortBy cX7_sortBy 5 [(2, 37), (0, v1), (0, v2)] m post := met_V (by decide) (Nat.le_of_ble_eq_true rfl) (fun _ X hr => pf_X7_sortBy X hr v1 v2 m h)
def wp_X7_digestOnto_5  (post : Int → Mem → Prop) : Nat → Int → Int → Mem → Prop
  | 0, _, _, _ => False
  | n + 1, v3, v5, m =>
  ((m 37 0 ≤ v5 → (post v3 m)) ∧
  (¬ m 37 0 ≤ v5 → ((0 ≤ v5 ∧ v5 < 16) ∧ (∀ v3_28 : Int, v3_28 = w64 (w64 (31 * v3) + m 40 v5) → (wp_X7_digestOnto_5  post n v3_28 (w32 (v5 + 1)) m)))))
set_option maxRecDepth 100000 in
theorem pf_X7_digestOnto_5 {l : Launch} {x : WX} {G : GT} {post : Int → Mem → Prop}  (X : Ax l x cX7_digestOnto RX7 6 (rmd 0) 67 G) (hr : RJ cX7_digestOnto post G) : ∀ (n : Nat) (v3 : Int) (v5 : Int) (m : Mem) (_ : wp_X7_digestOnto_5  post n v3 v5 m), G 5 [(0, (2, 37)), (3, (1, v3)), (5, (0, v5))] [] m := by
  intro n
  induction n with
  | zero => intro v3 v5 m h; exact absurd h id
  | succ n ih =>
  intro v3 v5 m h
  unfold wp_X7_digestOnto_5 at h
  refine g_iload 2 (i := 5) X dX7_digestOnto_5 rfl ?_
  refine g_aload_n 0 (i := 0) X dX7_digestOnto_7 rfl rfl ?_
  refine g_getI X dX7_digestOnto_8 fX7_25 ?_
  refine g_icmp_ge X dX7_digestOnto_11 (tgt := 35) (by decide) (fun hc => ?_) (fun hc => ?_)
  · have h := h.1 hc
    refine g_lload_n 1 (i := 3) X dX7_digestOnto_35 rfl rfl ?_
    exact hr _ _ _ _ _ dX7_digestOnto_36 h
  · have h := h.2 hc
    refine g_ldc2 X dX7_digestOnto_14 (by unfold r64; omega) kX7_48 ?_
    refine g_lload_n 1 (i := 3) X dX7_digestOnto_17 rfl rfl ?_
    refine g_lmul X dX7_digestOnto_18 ?_
    refine g_aload_n 0 (i := 0) X dX7_digestOnto_19 rfl rfl ?_
    refine g_getR X dX7_digestOnto_20 fX7_16 ?_
    refine g_iload 2 (i := 5) X dX7_digestOnto_23 rfl ?_
    obtain ⟨hi, h⟩ := h
    refine g_iald X dX7_digestOnto_25 rfl hi ?_
    refine g_i2l X dX7_digestOnto_26 ?_
    refine g_ladd X dX7_digestOnto_27 ?_
    refine g_nmI (fun v3_28 ev3_28 => ?_)
    have h := h v3_28 ev3_28
    refine g_lstore_n (i := 3) (lv' := [(3, (1, v3_28)), (0, (2, 37)), (5, (0, v5))]) X dX7_digestOnto_28 rfl (by decide) rfl ?_
    refine g_iinc 2 (lv' := [(5, (0, w32 (v5 + 1))), (3, (1, v3_28)), (0, (2, 37))]) X dX7_digestOnto_29 rfl (by decide) rfl ?_
    refine g_goto X dX7_digestOnto_32 (tgt := 5) (by decide) ?_
    exact g_sub X [2, 1, 0] rfl (ih _ _ _ h)
def wp_X7_digestOnto (v1 : Int) (m : Mem) (post : Int → Mem → Prop) : Prop :=
  ∃ n_2 : Nat, wp_X7_digestOnto_5  post n_2 v1 0 m
set_option maxRecDepth 100000 in
theorem pf_X7_digestOnto {l : Launch} {x : WX} {G : GT} {post : Int → Mem → Prop} (X : Ax l x cX7_digestOnto RX7 6 (rmd 0) 67 G) (hr : RJ cX7_digestOnto post G) (v1 : Int) (m : Mem) (h : wp_X7_digestOnto v1 m post) : G 0 [(0, (2, 37)), (1, (1, v1))] [] m := by
  unfold wp_X7_digestOnto at h
  refine g_lload_n 1 (i := 1) X dX7_digestOnto_0 rfl rfl ?_
  refine g_lstore_n (i := 3) (lv' := [(3, (1, v1)), (0, (2, 37)), (1, (1, v1))]) X dX7_digestOnto_1 rfl (by decide) rfl ?_
  refine g_iconst X dX7_digestOnto_2 (by decide) ?_
  refine g_istore (i := 5) (lv' := [(5, (0, 0)), (3, (1, v1)), (0, (2, 37)), (1, (1, v1))]) X dX7_digestOnto_3 (by decide) rfl ?_
  obtain ⟨n_2, h⟩ := h
  refine g_sub X [2, 1, 0] rfl (pf_X7_digestOnto_5 X hr  n_2 _ _ _ h)
theorem im_X7_digestOnto (l : Launch) (x : WX) (v1 : Int) (m : Mem) (post : Int → Mem → Prop) (h : wp_X7_digestOnto v1 m post) : MetJ l x 67 0 yX7_digestOnto cX7_digestOnto 6 [(2, 37), (1, v1)] m post := met_J (by decide) (Nat.le_of_ble_eq_true rfl) (fun _ X hr => pf_X7_digestOnto X hr v1 m h)
def wp_X8_begin  (m : Mem) (post : Mem → Prop) : Prop :=
  ∀ m2 : Mem, m2 = mset m 13 0 0 → (∀ m8 : Mem, m8 = mset m2 13 1 8 → (post m8))
set_option maxRecDepth 100000 in
theorem pf_X8_begin {l : Launch} {x : WX} {G : GT} {post : Mem → Prop} (X : Ax l x cX8_begin RX8 1 (rmd 0) 67 G) (hr : RV cX8_begin post G)  (m : Mem) (h : wp_X8_begin  m post) : G 0 [(0, (2, 13))] [] m := by
  unfold wp_X8_begin at h
  refine g_aload_n 0 (i := 0) X dX8_begin_0 rfl rfl ?_
  refine g_iconst X dX8_begin_1 (by decide) ?_
  refine g_putI X dX8_begin_2 pX8_54 (fun m2 em2 => ?_)
  have h := h m2 em2
  refine g_aload_n 0 (i := 0) X dX8_begin_5 rfl rfl ?_
  refine g_bipush X dX8_begin_6 (by decide) ?_
  refine g_putI X dX8_begin_8 pX8_58 (fun m8 em8 => ?_)
  have h := h m8 em8
  exact hr _ _ _ _ dX8_begin_11 h
theorem im_X8_begin (l : Launch) (x : WX)  (m : Mem) (post : Mem → Prop) (h : wp_X8_begin  m post) : MetV l x 67 0 yX8_begin cX8_begin 1 [(2, 13)] m post := met_V (by decide) (Nat.le_of_ble_eq_true rfl) (fun _ X hr => pf_X8_begin X hr  m h)
def wp_X8_has (v1 : Int) (m : Mem) (post : Int → Mem → Prop) : Prop :=
  ((v1 < 0 → (post 0 m)) ∧
  (¬ v1 < 0 → (((m 13 0 ≤ v1 → (post 0 m)) ∧
  (¬ m 13 0 ≤ v1 → (post 1 m))))))
set_option maxRecDepth 100000 in
theorem pf_X8_has {l : Launch} {x : WX} {G : GT} {post : Int → Mem → Prop} (X : Ax l x cX8_has RX8 2 (rmd 0) 67 G) (hr : RZ cX8_has post G) (v1 : Int) (m : Mem) (h : wp_X8_has v1 m post) : G 0 [(0, (2, 13)), (1, (0, v1))] [] m := by
  unfold wp_X8_has at h
  refine g_iload_n 1 (i := 1) X dX8_has_0 rfl rfl ?_
  refine g_if_lt X dX8_has_1 (tgt := 16) (by decide) (fun hc => ?_) (fun hc => ?_)
  · have h := h.1 hc
    refine g_iconst X dX8_has_16 (by decide) ?_
    exact hr _ _ _ _ _ dX8_has_17 ⟨by decide, h⟩
  · have h := h.2 hc
    refine g_iload_n 1 (i := 1) X dX8_has_4 rfl rfl ?_
    refine g_aload_n 0 (i := 0) X dX8_has_5 rfl rfl ?_
    refine g_getI X dX8_has_6 fX8_54 ?_
    refine g_icmp_ge X dX8_has_9 (tgt := 16) (by decide) (fun hc => ?_) (fun hc => ?_)
    · have h := h.1 hc
      refine g_iconst X dX8_has_16 (by decide) ?_
      exact hr _ _ _ _ _ dX8_has_17 ⟨by decide, h⟩
    · have h := h.2 hc
      refine g_iconst X dX8_has_12 (by decide) ?_
      refine g_goto X dX8_has_13 (tgt := 17) (by decide) ?_
      exact hr _ _ _ _ _ dX8_has_17 ⟨by decide, h⟩
theorem im_X8_has (l : Launch) (x : WX) (v1 : Int) (m : Mem) (post : Int → Mem → Prop) (h : wp_X8_has v1 m post) : MetI l x 67 0 yX8_has cX8_has 2 .boolean [(2, 13), (0, v1)] m post := met_Z (by decide) (Nat.le_of_ble_eq_true rfl) (fun _ X hr => pf_X8_has X hr v1 m h)
def wp_X8_add (v1 : Int) (v2 : Int) (v3 : Int) (v4 : Int) (m : Mem) (post : Int → Mem → Prop) : Prop :=
  ∀ v5_4 : Int, v5_4 = m 13 0 → ((0 ≤ v5_4 ∧ v5_4 < 12) ∧ (∀ m13 : Mem, m13 = mset m 20 v5_4 v1 → ((0 ≤ v5_4 ∧ v5_4 < 12) ∧ (∀ m21 : Mem, m21 = mset m13 21 v5_4 v2 → ((0 ≤ v5_4 ∧ v5_4 < 12) ∧ (∀ m29 : Mem, m29 = mset m21 18 v5_4 v3 → ((0 ≤ v5_4 ∧ v5_4 < 12) ∧ (∀ m38 : Mem, m38 = mset m29 19 v5_4 v4 → ((0 ≤ v5_4 ∧ v5_4 < 12) ∧ (∀ m46 : Mem, m46 = mset m38 22 v5_4 0 → ((0 ≤ v5_4 ∧ v5_4 < 12) ∧ (∀ m54 : Mem, m54 = mset m46 23 v5_4 0 → ((0 ≤ v5_4 ∧ v5_4 < 12) ∧ (∀ m62 : Mem, m62 = mset m54 24 v5_4 0 → ((0 ≤ v5_4 ∧ v5_4 < 12) ∧ (∀ m72 : Mem, m72 = mset m62 25 v5_4 (-1000) → ((0 ≤ v5_4 ∧ v5_4 < 12) ∧ (∀ m82 : Mem, m82 = mset m72 26 v5_4 (-1000) → (∀ m90 : Mem, m90 = mset m82 13 0 (w32 (m82 13 0 + 1)) → (post v5_4 m90))))))))))))))))))))
set_option maxRecDepth 100000 in
theorem pf_X8_add {l : Launch} {x : WX} {G : GT} {post : Int → Mem → Prop} (X : Ax l x cX8_add RX8 6 (rmd 0) 67 G) (hr : RI cX8_add post G) (v1 : Int) (v2 : Int) (v3 : Int) (v4 : Int) (m : Mem) (h : wp_X8_add v1 v2 v3 v4 m post) : G 0 [(0, (2, 13)), (1, (0, v1)), (2, (0, v2)), (3, (0, v3)), (4, (0, v4))] [] m := by
  unfold wp_X8_add at h
  refine g_aload_n 0 (i := 0) X dX8_add_0 rfl rfl ?_
  refine g_getI X dX8_add_1 fX8_54 ?_
  refine g_nmI (fun v5_4 ev5_4 => ?_)
  have h := h v5_4 ev5_4
  refine g_istore (i := 5) (lv' := [(5, (0, v5_4)), (0, (2, 13)), (1, (0, v1)), (2, (0, v2)), (3, (0, v3)), (4, (0, v4))]) X dX8_add_4 (by decide) rfl ?_
  refine g_aload_n 1 (i := 0) X dX8_add_6 rfl rfl ?_
  refine g_getR X dX8_add_7 fX8_30 ?_
  refine g_iload 0 (i := 5) X dX8_add_10 rfl ?_
  refine g_iload_n 2 (i := 1) X dX8_add_12 rfl rfl ?_
  obtain ⟨hi, h⟩ := h
  refine g_iast X dX8_add_13 rfl hi (fun m13 em13 => ?_)
  have h := h m13 em13
  refine g_aload_n 1 (i := 0) X dX8_add_14 rfl rfl ?_
  refine g_getR X dX8_add_15 fX8_33 ?_
  refine g_iload 0 (i := 5) X dX8_add_18 rfl ?_
  refine g_iload_n 3 (i := 2) X dX8_add_20 rfl rfl ?_
  obtain ⟨hi, h⟩ := h
  refine g_iast X dX8_add_21 rfl hi (fun m21 em21 => ?_)
  have h := h m21 em21
  refine g_aload_n 1 (i := 0) X dX8_add_22 rfl rfl ?_
  refine g_getR X dX8_add_23 fX8_24 ?_
  refine g_iload 0 (i := 5) X dX8_add_26 rfl ?_
  refine g_iload_n 4 (i := 3) X dX8_add_28 rfl rfl ?_
  obtain ⟨hi, h⟩ := h
  refine g_iast X dX8_add_29 rfl hi (fun m29 em29 => ?_)
  have h := h m29 em29
  refine g_aload_n 1 (i := 0) X dX8_add_30 rfl rfl ?_
  refine g_getR X dX8_add_31 fX8_27 ?_
  refine g_iload 0 (i := 5) X dX8_add_34 rfl ?_
  refine g_iload 5 (i := 4) X dX8_add_36 rfl ?_
  obtain ⟨hi, h⟩ := h
  refine g_iast X dX8_add_38 rfl hi (fun m38 em38 => ?_)
  have h := h m38 em38
  refine g_aload_n 1 (i := 0) X dX8_add_39 rfl rfl ?_
  refine g_getR X dX8_add_40 fX8_36 ?_
  refine g_iload 0 (i := 5) X dX8_add_43 rfl ?_
  refine g_iconst X dX8_add_45 (by decide) ?_
  obtain ⟨hi, h⟩ := h
  refine g_iast X dX8_add_46 rfl hi (fun m46 em46 => ?_)
  have h := h m46 em46
  refine g_aload_n 1 (i := 0) X dX8_add_47 rfl rfl ?_
  refine g_getR X dX8_add_48 fX8_39 ?_
  refine g_iload 0 (i := 5) X dX8_add_51 rfl ?_
  refine g_iconst X dX8_add_53 (by decide) ?_
  obtain ⟨hi, h⟩ := h
  refine g_iast X dX8_add_54 rfl hi (fun m54 em54 => ?_)
  have h := h m54 em54
  refine g_aload_n 1 (i := 0) X dX8_add_55 rfl rfl ?_
  refine g_getR X dX8_add_56 fX8_42 ?_
  refine g_iload 0 (i := 5) X dX8_add_59 rfl ?_
  refine g_iconst X dX8_add_61 (by decide) ?_
  obtain ⟨hi, h⟩ := h
  refine g_iast X dX8_add_62 rfl hi (fun m62 em62 => ?_)
  have h := h m62 em62
  refine g_aload_n 1 (i := 0) X dX8_add_63 rfl rfl ?_
  refine g_getR X dX8_add_64 fX8_45 ?_
  refine g_iload 0 (i := 5) X dX8_add_67 rfl ?_
  refine g_sipush X dX8_add_69 (by decide) ?_
  obtain ⟨hi, h⟩ := h
  refine g_iast X dX8_add_72 rfl hi (fun m72 em72 => ?_)
  have h := h m72 em72
  refine g_aload_n 1 (i := 0) X dX8_add_73 rfl rfl ?_
  refine g_getR X dX8_add_74 fX8_48 ?_
  refine g_iload 0 (i := 5) X dX8_add_77 rfl ?_
  refine g_sipush X dX8_add_79 (by decide) ?_
  obtain ⟨hi, h⟩ := h
  refine g_iast X dX8_add_82 rfl hi (fun m82 em82 => ?_)
  have h := h m82 em82
  refine g_aload_n 1 (i := 0) X dX8_add_83 rfl rfl ?_
  refine g_dup X dX8_add_84 rfl ?_
  refine g_getI X dX8_add_85 fX8_54 ?_
  refine g_iconst X dX8_add_88 (by decide) ?_
  refine g_iadd X dX8_add_89 ?_
  refine g_putI X dX8_add_90 pX8_54 (fun m90 em90 => ?_)
  have h := h m90 em90
  refine g_iload 0 (i := 5) X dX8_add_93 rfl ?_
  exact hr _ _ _ _ _ dX8_add_95 h
theorem im_X8_add (l : Launch) (x : WX) (v1 : Int) (v2 : Int) (v3 : Int) (v4 : Int) (m : Mem) (post : Int → Mem → Prop) (h : wp_X8_add v1 v2 v3 v4 m post) : MetI l x 67 0 yX8_add cX8_add 6 .int [(2, 13), (0, v1), (0, v2), (0, v3), (0, v4)] m post := met_I (by decide) (Nat.le_of_ble_eq_true rfl) (fun _ X hr => pf_X8_add X hr v1 v2 v3 v4 m h)
def wp_X8_serve (v1 : Int) (v2 : Int) (v3 : Int) (m : Mem) (post : Mem → Prop) : Prop :=
  (0 ≤ v1 ∧ v1 < 12) ∧ (∀ m6 : Mem, m6 = mset m 14 v1 v2 → ((0 ≤ v1 ∧ v1 < 12) ∧ (∀ m13 : Mem, m13 = mset m6 15 v1 v3 → ((0 ≤ v2 ∧ v2 < 20) ∧ ((0 ≤ v1 ∧ v1 < 12) ∧ (∀ m26 : Mem, m26 = mset m13 16 v1 (m13 7 v2) → ((0 ≤ v2 ∧ v2 < 20) ∧ ((0 ≤ v1 ∧ v1 < 12) ∧ (∀ m39 : Mem, m39 = mset m26 17 v1 (m26 8 v2) → (post m39))))))))))
set_option maxRecDepth 100000 in
theorem pf_X8_serve {l : Launch} {x : WX} {G : GT} {post : Mem → Prop} (X : Ax l x cX8_serve RX8 5 (rmd 0) 67 G) (hr : RV cX8_serve post G) (v1 : Int) (v2 : Int) (v3 : Int) (m : Mem) (h : wp_X8_serve v1 v2 v3 m post) : G 0 [(0, (2, 13)), (1, (0, v1)), (2, (0, v2)), (3, (0, v3)), (4, (2, 6))] [] m := by
  unfold wp_X8_serve at h
  refine g_aload_n 0 (i := 0) X dX8_serve_0 rfl rfl ?_
  refine g_getR X dX8_serve_1 fX8_11 ?_
  refine g_iload_n 1 (i := 1) X dX8_serve_4 rfl rfl ?_
  refine g_iload_n 2 (i := 2) X dX8_serve_5 rfl rfl ?_
  obtain ⟨hi, h⟩ := h
  refine g_iast X dX8_serve_6 rfl hi (fun m6 em6 => ?_)
  have h := h m6 em6
  refine g_aload_n 0 (i := 0) X dX8_serve_7 rfl rfl ?_
  refine g_getR X dX8_serve_8 fX8_15 ?_
  refine g_iload_n 1 (i := 1) X dX8_serve_11 rfl rfl ?_
  refine g_iload_n 3 (i := 3) X dX8_serve_12 rfl rfl ?_
  obtain ⟨hi, h⟩ := h
  refine g_iast X dX8_serve_13 rfl hi (fun m13 em13 => ?_)
  have h := h m13 em13
  refine g_aload_n 0 (i := 0) X dX8_serve_14 rfl rfl ?_
  refine g_getR X dX8_serve_15 fX8_18 ?_
  refine g_iload_n 1 (i := 1) X dX8_serve_18 rfl rfl ?_
  refine g_aload 4 (i := 4) X dX8_serve_19 rfl ?_
  refine g_getR X dX8_serve_21 fX8_61 ?_
  refine g_iload_n 2 (i := 2) X dX8_serve_24 rfl rfl ?_
  obtain ⟨hi, h⟩ := h
  refine g_iald X dX8_serve_25 rfl hi ?_
  obtain ⟨hi, h⟩ := h
  refine g_iast X dX8_serve_26 rfl hi (fun m26 em26 => ?_)
  have h := h m26 em26
  refine g_aload_n 0 (i := 0) X dX8_serve_27 rfl rfl ?_
  refine g_getR X dX8_serve_28 fX8_21 ?_
  refine g_iload_n 1 (i := 1) X dX8_serve_31 rfl rfl ?_
  refine g_aload 4 (i := 4) X dX8_serve_32 rfl ?_
  refine g_getR X dX8_serve_34 fX8_64 ?_
  refine g_iload_n 2 (i := 2) X dX8_serve_37 rfl rfl ?_
  obtain ⟨hi, h⟩ := h
  refine g_iald X dX8_serve_38 rfl hi ?_
  obtain ⟨hi, h⟩ := h
  refine g_iast X dX8_serve_39 rfl hi (fun m39 em39 => ?_)
  have h := h m39 em39
  exact hr _ _ _ _ dX8_serve_40 h
theorem im_X8_serve (l : Launch) (x : WX) (v1 : Int) (v2 : Int) (v3 : Int) (m : Mem) (post : Mem → Prop) (h : wp_X8_serve v1 v2 v3 m post) : MetV l x 67 0 yX8_serve cX8_serve 5 [(2, 13), (0, v1), (0, v2), (0, v3), (2, 6)] m post := met_V (by decide) (Nat.le_of_ble_eq_true rfl) (fun _ X hr => pf_X8_serve X hr v1 v2 v3 m h)
def wp_X8_isDue (v1 : Int) (v2 : Int) (m : Mem) (post : Int → Mem → Prop) : Prop :=
  (0 ≤ v1 ∧ v1 < 12) ∧ (((¬ Int.tmod v2 24 = m 21 v1 → (post 0 m)) ∧
  (Int.tmod v2 24 = m 21 v1 → ((0 ≤ v1 ∧ v1 < 12) ∧ (((and32 (shr32 (m 20 v1) (Int.tmod (w32 (Int.tdiv v2 24)) 7)) 1 = 0 → (post 0 m)) ∧
  (¬ and32 (shr32 (m 20 v1) (Int.tmod (w32 (Int.tdiv v2 24)) 7)) 1 = 0 → (post 1 m))))))))
set_option maxRecDepth 100000 in
theorem pf_X8_isDue {l : Launch} {x : WX} {G : GT} {post : Int → Mem → Prop} (X : Ax l x cX8_isDue RX8 3 (rmd 0) 67 G) (hr : RZ cX8_isDue post G) (v1 : Int) (v2 : Int) (m : Mem) (h : wp_X8_isDue v1 v2 m post) : G 0 [(0, (2, 13)), (1, (0, v1)), (2, (0, v2))] [] m := by
  unfold wp_X8_isDue at h
  refine g_iload_n 2 (i := 2) X dX8_isDue_0 rfl rfl ?_
  refine g_bipush X dX8_isDue_1 (by decide) ?_
  refine g_irem X dX8_isDue_3 (by decide) ?_
  refine g_aload_n 0 (i := 0) X dX8_isDue_4 rfl rfl ?_
  refine g_getR X dX8_isDue_5 fX8_33 ?_
  refine g_iload_n 1 (i := 1) X dX8_isDue_8 rfl rfl ?_
  obtain ⟨hi, h⟩ := h
  refine g_iald X dX8_isDue_9 rfl hi ?_
  refine g_icmp_ne X dX8_isDue_10 (tgt := 36) (by decide) (fun hc => ?_) (fun hc => ?_)
  · have h := h.1 hc
    refine g_iconst X dX8_isDue_36 (by decide) ?_
    exact hr _ _ _ _ _ dX8_isDue_37 ⟨by decide, h⟩
  · have h := h.2 hc
    refine g_aload_n 0 (i := 0) X dX8_isDue_13 rfl rfl ?_
    refine g_getR X dX8_isDue_14 fX8_30 ?_
    refine g_iload_n 1 (i := 1) X dX8_isDue_17 rfl rfl ?_
    obtain ⟨hi, h⟩ := h
    refine g_iald X dX8_isDue_18 rfl hi ?_
    refine g_iload_n 2 (i := 2) X dX8_isDue_19 rfl rfl ?_
    refine g_bipush X dX8_isDue_20 (by decide) ?_
    refine g_idiv X dX8_isDue_22 (by decide) ?_
    refine g_bipush X dX8_isDue_23 (by decide) ?_
    refine g_irem X dX8_isDue_25 (by decide) ?_
    refine g_ishr X dX8_isDue_26 ?_
    refine g_iconst X dX8_isDue_27 (by decide) ?_
    refine g_iand X dX8_isDue_28 ?_
    refine g_if_eq X dX8_isDue_29 (tgt := 36) (by decide) (fun hc => ?_) (fun hc => ?_)
    · have h := h.1 hc
      refine g_iconst X dX8_isDue_36 (by decide) ?_
      exact hr _ _ _ _ _ dX8_isDue_37 ⟨by decide, h⟩
    · have h := h.2 hc
      refine g_iconst X dX8_isDue_32 (by decide) ?_
      refine g_goto X dX8_isDue_33 (tgt := 37) (by decide) ?_
      exact hr _ _ _ _ _ dX8_isDue_37 ⟨by decide, h⟩
theorem im_X8_isDue (l : Launch) (x : WX) (v1 : Int) (v2 : Int) (m : Mem) (post : Int → Mem → Prop) (h : wp_X8_isDue v1 v2 m post) : MetI l x 67 0 yX8_isDue cX8_isDue 3 .boolean [(2, 13), (0, v1), (0, v2)] m post := met_Z (by decide) (Nat.le_of_ble_eq_true rfl) (fun _ X hr => pf_X8_isDue X hr v1 v2 m h)
def wp_X8_noteLeaving (v1 : Int) (v2 : Int) (v3 : Int) (m : Mem) (post : Mem → Prop) : Prop :=
  (0 ≤ v1 ∧ v1 < 12) ∧ ((0 ≤ v1 ∧ v1 < 12) ∧ (∀ m9 : Mem, m9 = mset m 22 v1 (w32 (m 22 v1 + 1)) → ((0 ≤ v1 ∧ v1 < 12) ∧ ((0 ≤ v1 ∧ v1 < 12) ∧ (∀ m19 : Mem, m19 = mset m9 23 v1 (w32 (m9 23 v1 + v3)) → ((0 ≤ v1 ∧ v1 < 12) ∧ ((0 ≤ v1 ∧ v1 < 12) ∧ (∀ m31 : Mem, m31 = mset m19 26 v1 (m19 25 v1) → ((0 ≤ v1 ∧ v1 < 12) ∧ (∀ m38 : Mem, m38 = mset m31 25 v1 v2 → (post m38)))))))))))
set_option maxRecDepth 100000 in
theorem pf_X8_noteLeaving {l : Launch} {x : WX} {G : GT} {post : Mem → Prop} (X : Ax l x cX8_noteLeaving RX8 4 (rmd 0) 67 G) (hr : RV cX8_noteLeaving post G) (v1 : Int) (v2 : Int) (v3 : Int) (m : Mem) (h : wp_X8_noteLeaving v1 v2 v3 m post) : G 0 [(0, (2, 13)), (1, (0, v1)), (2, (0, v2)), (3, (0, v3))] [] m := by
  unfold wp_X8_noteLeaving at h
  refine g_aload_n 0 (i := 0) X dX8_noteLeaving_0 rfl rfl ?_
  refine g_getR X dX8_noteLeaving_1 fX8_36 ?_
  refine g_iload_n 1 (i := 1) X dX8_noteLeaving_4 rfl rfl ?_
  refine g_dup2 X dX8_noteLeaving_5 rfl rfl ?_
  obtain ⟨hi, h⟩ := h
  refine g_iald X dX8_noteLeaving_6 rfl hi ?_
  refine g_iconst X dX8_noteLeaving_7 (by decide) ?_
  refine g_iadd X dX8_noteLeaving_8 ?_
  obtain ⟨hi, h⟩ := h
  refine g_iast X dX8_noteLeaving_9 rfl hi (fun m9 em9 => ?_)
  have h := h m9 em9
  refine g_aload_n 0 (i := 0) X dX8_noteLeaving_10 rfl rfl ?_
  refine g_getR X dX8_noteLeaving_11 fX8_39 ?_
  refine g_iload_n 1 (i := 1) X dX8_noteLeaving_14 rfl rfl ?_
  refine g_dup2 X dX8_noteLeaving_15 rfl rfl ?_
  obtain ⟨hi, h⟩ := h
  refine g_iald X dX8_noteLeaving_16 rfl hi ?_
  refine g_iload_n 3 (i := 3) X dX8_noteLeaving_17 rfl rfl ?_
  refine g_iadd X dX8_noteLeaving_18 ?_
  obtain ⟨hi, h⟩ := h
  refine g_iast X dX8_noteLeaving_19 rfl hi (fun m19 em19 => ?_)
  have h := h m19 em19
  refine g_aload_n 0 (i := 0) X dX8_noteLeaving_20 rfl rfl ?_
  refine g_getR X dX8_noteLeaving_21 fX8_48 ?_
  refine g_iload_n 1 (i := 1) X dX8_noteLeaving_24 rfl rfl ?_
  refine g_aload_n 0 (i := 0) X dX8_noteLeaving_25 rfl rfl ?_
  refine g_getR X dX8_noteLeaving_26 fX8_45 ?_
  refine g_iload_n 1 (i := 1) X dX8_noteLeaving_29 rfl rfl ?_
  obtain ⟨hi, h⟩ := h
  refine g_iald X dX8_noteLeaving_30 rfl hi ?_
  obtain ⟨hi, h⟩ := h
  refine g_iast X dX8_noteLeaving_31 rfl hi (fun m31 em31 => ?_)
  have h := h m31 em31
  refine g_aload_n 0 (i := 0) X dX8_noteLeaving_32 rfl rfl ?_
  refine g_getR X dX8_noteLeaving_33 fX8_45 ?_
  refine g_iload_n 1 (i := 1) X dX8_noteLeaving_36 rfl rfl ?_
  refine g_iload_n 2 (i := 2) X dX8_noteLeaving_37 rfl rfl ?_
  obtain ⟨hi, h⟩ := h
  refine g_iast X dX8_noteLeaving_38 rfl hi (fun m38 em38 => ?_)
  have h := h m38 em38
  exact hr _ _ _ _ dX8_noteLeaving_39 h
theorem im_X8_noteLeaving (l : Launch) (x : WX) (v1 : Int) (v2 : Int) (v3 : Int) (m : Mem) (post : Mem → Prop) (h : wp_X8_noteLeaving v1 v2 v3 m post) : MetV l x 67 0 yX8_noteLeaving cX8_noteLeaving 4 [(2, 13), (0, v1), (0, v2), (0, v3)] m post := met_V (by decide) (Nat.le_of_ble_eq_true rfl) (fun _ X hr => pf_X8_noteLeaving X hr v1 v2 v3 m h)
def wp_X8_noteShut (v1 : Int) (m : Mem) (post : Mem → Prop) : Prop :=
  (0 ≤ v1 ∧ v1 < 12) ∧ ((0 ≤ v1 ∧ v1 < 12) ∧ (∀ m9 : Mem, m9 = mset m 24 v1 (w32 (m 24 v1 + 1)) → (post m9)))
set_option maxRecDepth 100000 in
theorem pf_X8_noteShut {l : Launch} {x : WX} {G : GT} {post : Mem → Prop} (X : Ax l x cX8_noteShut RX8 2 (rmd 0) 67 G) (hr : RV cX8_noteShut post G) (v1 : Int) (m : Mem) (h : wp_X8_noteShut v1 m post) : G 0 [(0, (2, 13)), (1, (0, v1))] [] m := by
  unfold wp_X8_noteShut at h
  refine g_aload_n 0 (i := 0) X dX8_noteShut_0 rfl rfl ?_
  refine g_getR X dX8_noteShut_1 fX8_42 ?_
  refine g_iload_n 1 (i := 1) X dX8_noteShut_4 rfl rfl ?_
  refine g_dup2 X dX8_noteShut_5 rfl rfl ?_
  obtain ⟨hi, h⟩ := h
  refine g_iald X dX8_noteShut_6 rfl hi ?_
  refine g_iconst X dX8_noteShut_7 (by decide) ?_
  refine g_iadd X dX8_noteShut_8 ?_
  obtain ⟨hi, h⟩ := h
  refine g_iast X dX8_noteShut_9 rfl hi (fun m9 em9 => ?_)
  have h := h m9 em9
  exact hr _ _ _ _ dX8_noteShut_10 h
theorem im_X8_noteShut (l : Launch) (x : WX) (v1 : Int) (m : Mem) (post : Mem → Prop) (h : wp_X8_noteShut v1 m post) : MetV l x 67 0 yX8_noteShut cX8_noteShut 2 [(2, 13), (0, v1)] m post := met_V (by decide) (Nat.le_of_ble_eq_true rfl) (fun _ X hr => pf_X8_noteShut X hr v1 m h)
def wp_X8_onTheWay_22 (v1 : Int) (v2 : Int) (s0 : Int) (m : Mem)  (post : Int → Mem → Prop) : Prop :=
  (0 ≤ v1 ∧ v1 < 12) ∧ ((0 ≤ v1 ∧ v1 < 12) ∧ (((w32 (m 26 v1 + m 18 v1) < v2 → (post (w32 (s0 + 0)) m)) ∧
  (¬ w32 (m 26 v1 + m 18 v1) < v2 → (post (w32 (s0 + 1)) m)))))
set_option maxRecDepth 100000 in
theorem pf_X8_onTheWay_22 {l : Launch} {x : WX} {G : GT} {post : Int → Mem → Prop}  (X : Ax l x cX8_onTheWay RX8 5 (rmd 0) 67 G) (hr : RI cX8_onTheWay post G) (v1 : Int) (v2 : Int) (s0 : Int) (m : Mem) (h : wp_X8_onTheWay_22 v1 v2 s0 m  post) : G 22 [(0, (2, 13)), (1, (0, v1)), (2, (0, v2))] [(0, s0)] m := by
  unfold wp_X8_onTheWay_22 at h
  refine g_istore_n (i := 3) (lv' := [(3, (0, s0)), (0, (2, 13)), (1, (0, v1)), (2, (0, v2))]) X dX8_onTheWay_22 rfl (by decide) rfl ?_
  refine g_aload_n 1 (i := 0) X dX8_onTheWay_23 rfl rfl ?_
  refine g_getR X dX8_onTheWay_24 fX8_48 ?_
  refine g_iload_n 2 (i := 1) X dX8_onTheWay_27 rfl rfl ?_
  obtain ⟨hi, h⟩ := h
  refine g_iald X dX8_onTheWay_28 rfl hi ?_
  refine g_aload_n 1 (i := 0) X dX8_onTheWay_29 rfl rfl ?_
  refine g_getR X dX8_onTheWay_30 fX8_24 ?_
  refine g_iload_n 2 (i := 1) X dX8_onTheWay_33 rfl rfl ?_
  obtain ⟨hi, h⟩ := h
  refine g_iald X dX8_onTheWay_34 rfl hi ?_
  refine g_iadd X dX8_onTheWay_35 ?_
  refine g_iload_n 3 (i := 2) X dX8_onTheWay_36 rfl rfl ?_
  refine g_icmp_lt X dX8_onTheWay_37 (tgt := 44) (by decide) (fun hc => ?_) (fun hc => ?_)
  · have h := h.1 hc
    refine g_iconst X dX8_onTheWay_44 (by decide) ?_
    refine g_istore (i := 4) (lv' := [(4, (0, 0)), (3, (0, s0)), (0, (2, 13)), (1, (0, v1)), (2, (0, v2))]) X dX8_onTheWay_45 (by decide) rfl ?_
    refine g_iload_n 1 (i := 3) X dX8_onTheWay_47 rfl rfl ?_
    refine g_iload 0 (i := 4) X dX8_onTheWay_48 rfl ?_
    refine g_iadd X dX8_onTheWay_50 ?_
    exact hr _ _ _ _ _ dX8_onTheWay_51 h
  · have h := h.2 hc
    refine g_iconst X dX8_onTheWay_40 (by decide) ?_
    refine g_goto X dX8_onTheWay_41 (tgt := 45) (by decide) ?_
    refine g_istore (i := 4) (lv' := [(4, (0, 1)), (3, (0, s0)), (0, (2, 13)), (1, (0, v1)), (2, (0, v2))]) X dX8_onTheWay_45 (by decide) rfl ?_
    refine g_iload_n 1 (i := 3) X dX8_onTheWay_47 rfl rfl ?_
    refine g_iload 0 (i := 4) X dX8_onTheWay_48 rfl ?_
    refine g_iadd X dX8_onTheWay_50 ?_
    exact hr _ _ _ _ _ dX8_onTheWay_51 h
def wp_X8_onTheWay (v1 : Int) (v2 : Int) (m : Mem) (post : Int → Mem → Prop) : Prop :=
  (0 ≤ v1 ∧ v1 < 12) ∧ ((0 ≤ v1 ∧ v1 < 12) ∧ (((w32 (m 25 v1 + m 18 v1) < v2 → (wp_X8_onTheWay_22 v1 v2 0 m  post)) ∧
  (¬ w32 (m 25 v1 + m 18 v1) < v2 → (wp_X8_onTheWay_22 v1 v2 1 m  post)))))
set_option maxRecDepth 100000 in
theorem pf_X8_onTheWay {l : Launch} {x : WX} {G : GT} {post : Int → Mem → Prop} (X : Ax l x cX8_onTheWay RX8 5 (rmd 0) 67 G) (hr : RI cX8_onTheWay post G) (v1 : Int) (v2 : Int) (m : Mem) (h : wp_X8_onTheWay v1 v2 m post) : G 0 [(0, (2, 13)), (1, (0, v1)), (2, (0, v2))] [] m := by
  unfold wp_X8_onTheWay at h
  refine g_aload_n 0 (i := 0) X dX8_onTheWay_0 rfl rfl ?_
  refine g_getR X dX8_onTheWay_1 fX8_45 ?_
  refine g_iload_n 1 (i := 1) X dX8_onTheWay_4 rfl rfl ?_
  obtain ⟨hi, h⟩ := h
  refine g_iald X dX8_onTheWay_5 rfl hi ?_
  refine g_aload_n 0 (i := 0) X dX8_onTheWay_6 rfl rfl ?_
  refine g_getR X dX8_onTheWay_7 fX8_24 ?_
  refine g_iload_n 1 (i := 1) X dX8_onTheWay_10 rfl rfl ?_
  obtain ⟨hi, h⟩ := h
  refine g_iald X dX8_onTheWay_11 rfl hi ?_
  refine g_iadd X dX8_onTheWay_12 ?_
  refine g_iload_n 2 (i := 2) X dX8_onTheWay_13 rfl rfl ?_
  refine g_icmp_lt X dX8_onTheWay_14 (tgt := 21) (by decide) (fun hc => ?_) (fun hc => ?_)
  · have h := h.1 hc
    refine g_iconst X dX8_onTheWay_21 (by decide) ?_
    refine g_sub X [0, 1, 2] rfl (pf_X8_onTheWay_22 X hr  _ _ _ _ h)
  · have h := h.2 hc
    refine g_iconst X dX8_onTheWay_17 (by decide) ?_
    refine g_goto X dX8_onTheWay_18 (tgt := 22) (by decide) ?_
    refine g_sub X [0, 1, 2] rfl (pf_X8_onTheWay_22 X hr  _ _ _ _ h)
theorem im_X8_onTheWay (l : Launch) (x : WX) (v1 : Int) (v2 : Int) (m : Mem) (post : Int → Mem → Prop) (h : wp_X8_onTheWay v1 v2 m post) : MetI l x 67 0 yX8_onTheWay cX8_onTheWay 5 .int [(2, 13), (0, v1), (0, v2)] m post := met_I (by decide) (Nat.le_of_ble_eq_true rfl) (fun _ X hr => pf_X8_onTheWay X hr v1 v2 m h)
def wp_X8_tell (v1 : Int) (v2 : Int) (v3 : Int) (m : Mem) (post : Int → Mem → Prop) : Prop :=
  ((v2 = 0 → ((0 ≤ v1 ∧ v1 < 12) ∧ (post (m 22 v1) m))) ∧
  ((v2 = 1 → ((0 ≤ v1 ∧ v1 < 12) ∧ (post (m 23 v1) m))) ∧
  ((v2 = 2 → ((0 ≤ v1 ∧ v1 < 12) ∧ (post (m 24 v1) m))) ∧
  (((v2 < 0 ∨ 2 < v2) → (wp_X8_onTheWay v1 v3 m (fun r52 m52 => post r52 m52)))))))
set_option maxRecDepth 100000 in
theorem pf_X8_tell {l : Launch} {x : WX} {G : GT} {post : Int → Mem → Prop} (X : Ax l x cX8_tell RX8 4 (rmd 1) 67 G) (hr : RI cX8_tell post G) (v1 : Int) (v2 : Int) (v3 : Int) (m : Mem) (h : wp_X8_tell v1 v2 v3 m post) : G 0 [(0, (2, 13)), (1, (0, v1)), (2, (0, v2)), (3, (0, v3))] [] m := by
  unfold wp_X8_tell at h
  refine g_iload_n 2 (i := 2) X dX8_tell_0 rfl rfl ?_
  by_cases c0 : v2 = 0
  · refine g_tabIn X dX8_tell_1 0 c0 (tgt := 28) (by decide) (by decide) rfl (by decide) ?_
    have h := h.1 c0
    refine g_aload_n 0 (i := 0) X dX8_tell_28 rfl rfl ?_
    refine g_getR X dX8_tell_29 fX8_36 ?_
    refine g_iload_n 1 (i := 1) X dX8_tell_32 rfl rfl ?_
    obtain ⟨hi, h⟩ := h
    refine g_iald X dX8_tell_33 rfl hi ?_
    exact hr _ _ _ _ _ dX8_tell_34 h
  have h := h.2
  by_cases c1 : v2 = 1
  · refine g_tabIn X dX8_tell_1 1 c1 (tgt := 35) (by decide) (by decide) rfl (by decide) ?_
    have h := h.1 c1
    refine g_aload_n 0 (i := 0) X dX8_tell_35 rfl rfl ?_
    refine g_getR X dX8_tell_36 fX8_39 ?_
    refine g_iload_n 1 (i := 1) X dX8_tell_39 rfl rfl ?_
    obtain ⟨hi, h⟩ := h
    refine g_iald X dX8_tell_40 rfl hi ?_
    exact hr _ _ _ _ _ dX8_tell_41 h
  have h := h.2
  by_cases c2 : v2 = 2
  · refine g_tabIn X dX8_tell_1 2 c2 (tgt := 42) (by decide) (by decide) rfl (by decide) ?_
    have h := h.1 c2
    refine g_aload_n 0 (i := 0) X dX8_tell_42 rfl rfl ?_
    refine g_getR X dX8_tell_43 fX8_42 ?_
    refine g_iload_n 1 (i := 1) X dX8_tell_46 rfl rfl ?_
    obtain ⟨hi, h⟩ := h
    refine g_iald X dX8_tell_47 rfl hi ?_
    exact hr _ _ _ _ _ dX8_tell_48 h
  have h := h.2
  have hc := swo_2 v2 c0 c1 c2
  have h := h hc
  refine g_tabOut X dX8_tell_1 (tgt := 49) (by decide) hc ?_
  refine g_aload_n 0 (i := 0) X dX8_tell_49 rfl rfl ?_
  refine g_iload_n 1 (i := 1) X dX8_tell_50 rfl rfl ?_
  refine g_iload_n 3 (i := 3) X dX8_tell_51 rfl rfl ?_
  refine g_cVI (st := []) X dX8_tell_52 YX8_onTheWay lX8_65 (by decide) (im_X8_onTheWay l x _ _ _ _ h) rfl ⟨by decide, by decide⟩ rfl (Nat.le_of_ble_eq_true rfl) (fun r52 m52 h => ?_)
  exact hr _ _ _ _ _ dX8_tell_55 h
theorem im_X8_tell (l : Launch) (x : WX) (v1 : Int) (v2 : Int) (v3 : Int) (m : Mem) (post : Int → Mem → Prop) (h : wp_X8_tell v1 v2 v3 m post) : MetI l x 67 1 yX8_tell cX8_tell 4 .int [(2, 13), (0, v1), (0, v2), (0, v3)] m post := met_I (by decide) (Nat.le_of_ble_eq_true rfl) (fun _ X hr => pf_X8_tell X hr v1 v2 v3 m h)
def wp_J6_bitCount_0f7a4 (v0 : Int) (m : Mem) (post : Int → Mem → Prop) : Prop :=
  ∀ v0_9 : Int, v0_9 = w32 (v0 - and32 (ushr32 v0 1) 1431655765) → (∀ v0_23 : Int, v0_23 = w32 (and32 v0_9 858993459 + and32 (ushr32 v0_9 2) 858993459) → (∀ v0_33 : Int, v0_33 = and32 (w32 (v0_23 + ushr32 v0_23 4)) 252645135 → (∀ v0_40 : Int, v0_40 = w32 (v0_33 + ushr32 v0_33 8) → (∀ v0_47 : Int, v0_47 = w32 (v0_40 + ushr32 v0_40 16) → (post (and32 v0_47 63) m)))))
set_option maxRecDepth 100000 in
theorem pf_J6_bitCount_0f7a4 {l : Launch} {x : WX} {G : GT} {post : Int → Mem → Prop} (X : Ax l x cJ6_bitCount_0f7a4 RJ6 1 (rmd 0) 67 G) (hr : RI cJ6_bitCount_0f7a4 post G) (v0 : Int) (m : Mem) (h : wp_J6_bitCount_0f7a4 v0 m post) : G 0 [(0, (0, v0))] [] m := by
  unfold wp_J6_bitCount_0f7a4 at h
  refine g_iload_n 0 (i := 0) X dJ6_bitCount_0f7a4_0 rfl rfl ?_
  refine g_iload_n 0 (i := 0) X dJ6_bitCount_0f7a4_1 rfl rfl ?_
  refine g_iconst X dJ6_bitCount_0f7a4_2 (by decide) ?_
  refine g_iushr X dJ6_bitCount_0f7a4_3 ?_
  refine g_ldc_w X dJ6_bitCount_0f7a4_4 (by unfold r32; omega) kJ6_265 ?_
  refine g_iand X dJ6_bitCount_0f7a4_7 ?_
  refine g_isub X dJ6_bitCount_0f7a4_8 ?_
  refine g_nmI (fun v0_9 ev0_9 => ?_)
  have h := h v0_9 ev0_9
  refine g_istore_n (i := 0) (lv' := [(0, (0, v0_9))]) X dJ6_bitCount_0f7a4_9 rfl (by decide) rfl ?_
  refine g_iload_n 0 (i := 0) X dJ6_bitCount_0f7a4_10 rfl rfl ?_
  refine g_ldc_w X dJ6_bitCount_0f7a4_11 (by unfold r32; omega) kJ6_266 ?_
  refine g_iand X dJ6_bitCount_0f7a4_14 ?_
  refine g_iload_n 0 (i := 0) X dJ6_bitCount_0f7a4_15 rfl rfl ?_
  refine g_iconst X dJ6_bitCount_0f7a4_16 (by decide) ?_
  refine g_iushr X dJ6_bitCount_0f7a4_17 ?_
  refine g_ldc_w X dJ6_bitCount_0f7a4_18 (by unfold r32; omega) kJ6_266 ?_
  refine g_iand X dJ6_bitCount_0f7a4_21 ?_
  refine g_iadd X dJ6_bitCount_0f7a4_22 ?_
  refine g_nmI (fun v0_23 ev0_23 => ?_)
  have h := h v0_23 ev0_23
  refine g_istore_n (i := 0) (lv' := [(0, (0, v0_23))]) X dJ6_bitCount_0f7a4_23 rfl (by decide) rfl ?_
  refine g_iload_n 0 (i := 0) X dJ6_bitCount_0f7a4_24 rfl rfl ?_
  refine g_iload_n 0 (i := 0) X dJ6_bitCount_0f7a4_25 rfl rfl ?_
  refine g_iconst X dJ6_bitCount_0f7a4_26 (by decide) ?_
  refine g_iushr X dJ6_bitCount_0f7a4_27 ?_
  refine g_iadd X dJ6_bitCount_0f7a4_28 ?_
  refine g_ldc_w X dJ6_bitCount_0f7a4_29 (by unfold r32; omega) kJ6_267 ?_
  refine g_iand X dJ6_bitCount_0f7a4_32 ?_
  refine g_nmI (fun v0_33 ev0_33 => ?_)
  have h := h v0_33 ev0_33
  refine g_istore_n (i := 0) (lv' := [(0, (0, v0_33))]) X dJ6_bitCount_0f7a4_33 rfl (by decide) rfl ?_
  refine g_iload_n 0 (i := 0) X dJ6_bitCount_0f7a4_34 rfl rfl ?_
  refine g_iload_n 0 (i := 0) X dJ6_bitCount_0f7a4_35 rfl rfl ?_
  refine g_bipush X dJ6_bitCount_0f7a4_36 (by decide) ?_
  refine g_iushr X dJ6_bitCount_0f7a4_38 ?_
  refine g_iadd X dJ6_bitCount_0f7a4_39 ?_
  refine g_nmI (fun v0_40 ev0_40 => ?_)
  have h := h v0_40 ev0_40
  refine g_istore_n (i := 0) (lv' := [(0, (0, v0_40))]) X dJ6_bitCount_0f7a4_40 rfl (by decide) rfl ?_
  refine g_iload_n 0 (i := 0) X dJ6_bitCount_0f7a4_41 rfl rfl ?_
  refine g_iload_n 0 (i := 0) X dJ6_bitCount_0f7a4_42 rfl rfl ?_
  refine g_bipush X dJ6_bitCount_0f7a4_43 (by decide) ?_
  refine g_iushr X dJ6_bitCount_0f7a4_45 ?_
  refine g_iadd X dJ6_bitCount_0f7a4_46 ?_
  refine g_nmI (fun v0_47 ev0_47 => ?_)
  have h := h v0_47 ev0_47
  refine g_istore_n (i := 0) (lv' := [(0, (0, v0_47))]) X dJ6_bitCount_0f7a4_47 rfl (by decide) rfl ?_
  refine g_iload_n 0 (i := 0) X dJ6_bitCount_0f7a4_48 rfl rfl ?_
  refine g_bipush X dJ6_bitCount_0f7a4_49 (by decide) ?_
  refine g_iand X dJ6_bitCount_0f7a4_51 ?_
  exact hr _ _ _ _ _ dJ6_bitCount_0f7a4_52 h
theorem im_J6_bitCount_0f7a4 (l : Launch) (x : WX) (v0 : Int) (m : Mem) (post : Int → Mem → Prop) (h : wp_J6_bitCount_0f7a4 v0 m post) : MetI l x 67 0 yJ6_bitCount_0f7a4 cJ6_bitCount_0f7a4 1 .int [(0, v0)] m post := met_I (by decide) (Nat.le_of_ble_eq_true rfl) (fun _ X hr => pf_J6_bitCount_0f7a4 X hr v0 m h)
def wp_X8_duties_4  (post : Int → Mem → Prop) : Nat → Int → Int → Mem → Prop
  | 0, _, _, _ => False
  | n + 1, v1, v2, m =>
  ((m 13 0 ≤ v2 → (post v1 m)) ∧
  (¬ m 13 0 ≤ v2 → ((0 ≤ v2 ∧ v2 < 12) ∧ (wp_J6_bitCount_0f7a4 (m 20 v2) m (fun r19 m19 => ∀ v1_23 : Int, v1_23 = w32 (v1 + r19) → (wp_X8_duties_4  post n v1_23 (w32 (v2 + 1)) m19))))))
set_option maxRecDepth 100000 in
theorem pf_X8_duties_4 {l : Launch} {x : WX} {G : GT} {post : Int → Mem → Prop}  (X : Ax l x cX8_duties RX8 3 (rmd 1) 67 G) (hr : RI cX8_duties post G) : ∀ (n : Nat) (v1 : Int) (v2 : Int) (m : Mem) (_ : wp_X8_duties_4  post n v1 v2 m), G 4 [(0, (2, 13)), (1, (0, v1)), (2, (0, v2))] [] m := by
  intro n
  induction n with
  | zero => intro v1 v2 m h; exact absurd h id
  | succ n ih =>
  intro v1 v2 m h
  unfold wp_X8_duties_4 at h
  refine g_iload_n 2 (i := 2) X dX8_duties_4 rfl rfl ?_
  refine g_aload_n 0 (i := 0) X dX8_duties_5 rfl rfl ?_
  refine g_getI X dX8_duties_6 fX8_54 ?_
  refine g_icmp_ge X dX8_duties_9 (tgt := 30) (by decide) (fun hc => ?_) (fun hc => ?_)
  · have h := h.1 hc
    refine g_iload_n 1 (i := 1) X dX8_duties_30 rfl rfl ?_
    exact hr _ _ _ _ _ dX8_duties_31 h
  · have h := h.2 hc
    refine g_iload_n 1 (i := 1) X dX8_duties_12 rfl rfl ?_
    refine g_aload_n 0 (i := 0) X dX8_duties_13 rfl rfl ?_
    refine g_getR X dX8_duties_14 fX8_30 ?_
    refine g_iload_n 2 (i := 2) X dX8_duties_17 rfl rfl ?_
    obtain ⟨hi, h⟩ := h
    refine g_iald X dX8_duties_18 rfl hi ?_
    refine g_cSI (st := [(0, v1)]) X dX8_duties_19 YJ6_bitCount_0f7a4 lX8_69 (by decide) (im_J6_bitCount_0f7a4 l x _ _ _ h) rfl ⟨by decide, by decide⟩ rfl (Nat.le_of_ble_eq_true rfl) (fun r19 m19 h => ?_)
    refine g_iadd X dX8_duties_22 ?_
    refine g_nmI (fun v1_23 ev1_23 => ?_)
    have h := h v1_23 ev1_23
    refine g_istore_n (i := 1) (lv' := [(1, (0, v1_23)), (0, (2, 13)), (2, (0, v2))]) X dX8_duties_23 rfl (by decide) rfl ?_
    refine g_iinc 2 (lv' := [(2, (0, w32 (v2 + 1))), (1, (0, v1_23)), (0, (2, 13))]) X dX8_duties_24 rfl (by decide) rfl ?_
    refine g_goto X dX8_duties_27 (tgt := 4) (by decide) ?_
    exact g_sub X [2, 1, 0] rfl (ih _ _ _ h)
def wp_X8_duties  (m : Mem) (post : Int → Mem → Prop) : Prop :=
  ∃ n_2 : Nat, wp_X8_duties_4  post n_2 0 0 m
set_option maxRecDepth 100000 in
theorem pf_X8_duties {l : Launch} {x : WX} {G : GT} {post : Int → Mem → Prop} (X : Ax l x cX8_duties RX8 3 (rmd 1) 67 G) (hr : RI cX8_duties post G)  (m : Mem) (h : wp_X8_duties  m post) : G 0 [(0, (2, 13))] [] m := by
  unfold wp_X8_duties at h
  refine g_iconst X dX8_duties_0 (by decide) ?_
  refine g_istore_n (i := 1) (lv' := [(1, (0, 0)), (0, (2, 13))]) X dX8_duties_1 rfl (by decide) rfl ?_
  refine g_iconst X dX8_duties_2 (by decide) ?_
  refine g_istore_n (i := 2) (lv' := [(2, (0, 0)), (1, (0, 0)), (0, (2, 13))]) X dX8_duties_3 rfl (by decide) rfl ?_
  obtain ⟨n_2, h⟩ := h
  refine g_sub X [2, 1, 0] rfl (pf_X8_duties_4 X hr  n_2 _ _ _ h)
theorem im_X8_duties (l : Launch) (x : WX)  (m : Mem) (post : Int → Mem → Prop) (h : wp_X8_duties  m post) : MetI l x 67 1 yX8_duties cX8_duties 3 .int [(2, 13)] m post := met_I (by decide) (Nat.le_of_ble_eq_true rfl) (fun _ X hr => pf_X8_duties X hr  m h)
def wp_X8_dutyHours_4  (post : Int → Mem → Prop) : Nat → Int → Int → Mem → Prop
  | 0, _, _, _ => False
  | n + 1, v1, v2, m =>
  ((m 13 0 ≤ v2 → (post v1 m)) ∧
  (¬ m 13 0 ≤ v2 → ((0 ≤ v2 ∧ v2 < 12) ∧ (wp_J6_bitCount_0f7a4 (m 20 v2) m (fun r19 m19 => (0 ≤ v2 ∧ v2 < 12) ∧ (∀ v1_30 : Int, v1_30 = w32 (v1 + w32 (r19 * m19 18 v2)) → (wp_X8_dutyHours_4  post n v1_30 (w32 (v2 + 1)) m19)))))))
set_option maxRecDepth 100000 in
theorem pf_X8_dutyHours_4 {l : Launch} {x : WX} {G : GT} {post : Int → Mem → Prop}  (X : Ax l x cX8_dutyHours RX8 3 (rmd 1) 67 G) (hr : RI cX8_dutyHours post G) : ∀ (n : Nat) (v1 : Int) (v2 : Int) (m : Mem) (_ : wp_X8_dutyHours_4  post n v1 v2 m), G 4 [(0, (2, 13)), (1, (0, v1)), (2, (0, v2))] [] m := by
  intro n
  induction n with
  | zero => intro v1 v2 m h; exact absurd h id
  | succ n ih =>
  intro v1 v2 m h
  unfold wp_X8_dutyHours_4 at h
  refine g_iload_n 2 (i := 2) X dX8_dutyHours_4 rfl rfl ?_
  refine g_aload_n 0 (i := 0) X dX8_dutyHours_5 rfl rfl ?_
  refine g_getI X dX8_dutyHours_6 fX8_54 ?_
  refine g_icmp_ge X dX8_dutyHours_9 (tgt := 37) (by decide) (fun hc => ?_) (fun hc => ?_)
  · have h := h.1 hc
    refine g_iload_n 1 (i := 1) X dX8_dutyHours_37 rfl rfl ?_
    exact hr _ _ _ _ _ dX8_dutyHours_38 h
  · have h := h.2 hc
    refine g_iload_n 1 (i := 1) X dX8_dutyHours_12 rfl rfl ?_
    refine g_aload_n 0 (i := 0) X dX8_dutyHours_13 rfl rfl ?_
    refine g_getR X dX8_dutyHours_14 fX8_30 ?_
    refine g_iload_n 2 (i := 2) X dX8_dutyHours_17 rfl rfl ?_
    obtain ⟨hi, h⟩ := h
    refine g_iald X dX8_dutyHours_18 rfl hi ?_
    refine g_cSI (st := [(0, v1)]) X dX8_dutyHours_19 YJ6_bitCount_0f7a4 lX8_69 (by decide) (im_J6_bitCount_0f7a4 l x _ _ _ h) rfl ⟨by decide, by decide⟩ rfl (Nat.le_of_ble_eq_true rfl) (fun r19 m19 h => ?_)
    refine g_aload_n 0 (i := 0) X dX8_dutyHours_22 rfl rfl ?_
    refine g_getR X dX8_dutyHours_23 fX8_24 ?_
    refine g_iload_n 2 (i := 2) X dX8_dutyHours_26 rfl rfl ?_
    obtain ⟨hi, h⟩ := h
    refine g_iald X dX8_dutyHours_27 rfl hi ?_
    refine g_imul X dX8_dutyHours_28 ?_
    refine g_iadd X dX8_dutyHours_29 ?_
    refine g_nmI (fun v1_30 ev1_30 => ?_)
    have h := h v1_30 ev1_30
    refine g_istore_n (i := 1) (lv' := [(1, (0, v1_30)), (0, (2, 13)), (2, (0, v2))]) X dX8_dutyHours_30 rfl (by decide) rfl ?_
    refine g_iinc 2 (lv' := [(2, (0, w32 (v2 + 1))), (1, (0, v1_30)), (0, (2, 13))]) X dX8_dutyHours_31 rfl (by decide) rfl ?_
    refine g_goto X dX8_dutyHours_34 (tgt := 4) (by decide) ?_
    exact g_sub X [2, 1, 0] rfl (ih _ _ _ h)
def wp_X8_dutyHours  (m : Mem) (post : Int → Mem → Prop) : Prop :=
  ∃ n_2 : Nat, wp_X8_dutyHours_4  post n_2 0 0 m
set_option maxRecDepth 100000 in
theorem pf_X8_dutyHours {l : Launch} {x : WX} {G : GT} {post : Int → Mem → Prop} (X : Ax l x cX8_dutyHours RX8 3 (rmd 1) 67 G) (hr : RI cX8_dutyHours post G)  (m : Mem) (h : wp_X8_dutyHours  m post) : G 0 [(0, (2, 13))] [] m := by
  unfold wp_X8_dutyHours at h
  refine g_iconst X dX8_dutyHours_0 (by decide) ?_
  refine g_istore_n (i := 1) (lv' := [(1, (0, 0)), (0, (2, 13))]) X dX8_dutyHours_1 rfl (by decide) rfl ?_
  refine g_iconst X dX8_dutyHours_2 (by decide) ?_
  refine g_istore_n (i := 2) (lv' := [(2, (0, 0)), (1, (0, 0)), (0, (2, 13))]) X dX8_dutyHours_3 rfl (by decide) rfl ?_
  obtain ⟨n_2, h⟩ := h
  refine g_sub X [2, 1, 0] rfl (pf_X8_dutyHours_4 X hr  n_2 _ _ _ h)
theorem im_X8_dutyHours (l : Launch) (x : WX)  (m : Mem) (post : Int → Mem → Prop) (h : wp_X8_dutyHours  m post) : MetI l x 67 1 yX8_dutyHours cX8_dutyHours 3 .int [(2, 13)] m post := met_I (by decide) (Nat.le_of_ble_eq_true rfl) (fun _ X hr => pf_X8_dutyHours X hr  m h)
def wp_X8_freeCrewsAt_2  (post : Mem → Prop) : Nat → Int → Int → Mem → Prop
  | 0, _, _, _ => False
  | n + 1, v1, v2, m =>
  ((m 13 0 ≤ v2 → (post m)) ∧
  (¬ m 13 0 ≤ v2 → ((0 ≤ v2 ∧ v2 < 12) ∧ (∀ v3_23 : Int, v3_23 = w32 (w32 (v1 - m 13 1) - m 18 v2) → (((v3_23 < 0 → (wp_X8_freeCrewsAt_2  post n v1 (w32 (v2 + 1)) m)) ∧
  (¬ v3_23 < 0 → (wp_X8_isDue v2 v3_23 m (fun r31 m31 => ((r31 = 0 → (wp_X8_freeCrewsAt_2  post n v1 (w32 (v2 + 1)) m31)) ∧
  (¬ r31 = 0 → ((0 ≤ v2 ∧ v2 < 12) ∧ ((0 ≤ m31 17 v2 ∧ m31 17 v2 < 8) ∧ ((0 ≤ m31 17 v2 ∧ m31 17 v2 < 8) ∧ (∀ m51 : Mem, m51 = mset m31 27 (m31 17 v2) (w32 (m31 27 (m31 17 v2) + 1)) → (wp_X8_freeCrewsAt_2  post n v1 (w32 (v2 + 1)) m51))))))))))))))))
set_option maxRecDepth 100000 in
theorem pf_X8_freeCrewsAt_2 {l : Launch} {x : WX} {G : GT} {post : Mem → Prop}  (X : Ax l x cX8_freeCrewsAt RX8 4 (rmd 1) 67 G) (hr : RV cX8_freeCrewsAt post G) : ∀ (n : Nat) (v1 : Int) (v2 : Int) (m : Mem) (_ : wp_X8_freeCrewsAt_2  post n v1 v2 m), G 2 [(0, (2, 13)), (1, (0, v1)), (2, (0, v2))] [] m := by
  intro n
  induction n with
  | zero => intro v1 v2 m h; exact absurd h id
  | succ n ih =>
  intro v1 v2 m h
  unfold wp_X8_freeCrewsAt_2 at h
  refine g_iload_n 2 (i := 2) X dX8_freeCrewsAt_2 rfl rfl ?_
  refine g_aload_n 0 (i := 0) X dX8_freeCrewsAt_3 rfl rfl ?_
  refine g_getI X dX8_freeCrewsAt_4 fX8_54 ?_
  refine g_icmp_ge X dX8_freeCrewsAt_7 (tgt := 58) (by decide) (fun hc => ?_) (fun hc => ?_)
  · have h := h.1 hc
    exact hr _ _ _ _ dX8_freeCrewsAt_58 h
  · have h := h.2 hc
    refine g_iload_n 1 (i := 1) X dX8_freeCrewsAt_10 rfl rfl ?_
    refine g_aload_n 0 (i := 0) X dX8_freeCrewsAt_11 rfl rfl ?_
    refine g_getI X dX8_freeCrewsAt_12 fX8_58 ?_
    refine g_isub X dX8_freeCrewsAt_15 ?_
    refine g_aload_n 0 (i := 0) X dX8_freeCrewsAt_16 rfl rfl ?_
    refine g_getR X dX8_freeCrewsAt_17 fX8_24 ?_
    refine g_iload_n 2 (i := 2) X dX8_freeCrewsAt_20 rfl rfl ?_
    obtain ⟨hi, h⟩ := h
    refine g_iald X dX8_freeCrewsAt_21 rfl hi ?_
    refine g_isub X dX8_freeCrewsAt_22 ?_
    refine g_nmI (fun v3_23 ev3_23 => ?_)
    have h := h v3_23 ev3_23
    refine g_istore_n (i := 3) (lv' := [(3, (0, v3_23)), (0, (2, 13)), (1, (0, v1)), (2, (0, v2))]) X dX8_freeCrewsAt_23 rfl (by decide) rfl ?_
    refine g_iload_n 0 (i := 3) X dX8_freeCrewsAt_24 rfl rfl ?_
    refine g_if_lt X dX8_freeCrewsAt_25 (tgt := 52) (by decide) (fun hc => ?_) (fun hc => ?_)
    · have h := h.1 hc
      refine g_iinc 3 (lv' := [(2, (0, w32 (v2 + 1))), (3, (0, v3_23)), (0, (2, 13)), (1, (0, v1))]) X dX8_freeCrewsAt_52 rfl (by decide) rfl ?_
      refine g_goto X dX8_freeCrewsAt_55 (tgt := 2) (by decide) ?_
      exact g_sub X [2, 3, 0] rfl (ih _ _ _ h)
    · have h := h.2 hc
      refine g_aload_n 1 (i := 0) X dX8_freeCrewsAt_28 rfl rfl ?_
      refine g_iload_n 3 (i := 2) X dX8_freeCrewsAt_29 rfl rfl ?_
      refine g_iload_n 0 (i := 3) X dX8_freeCrewsAt_30 rfl rfl ?_
      refine g_cVI (st := []) X dX8_freeCrewsAt_31 YX8_isDue lX8_88 (by decide) (im_X8_isDue l x _ _ _ _ h) rfl ⟨by decide, by decide⟩ rfl (Nat.le_of_ble_eq_true rfl) (fun r31 m31 h => ?_)
      refine g_if_eq X dX8_freeCrewsAt_34 (tgt := 52) (by decide) (fun hc => ?_) (fun hc => ?_)
      · have h := h.1 hc
        refine g_iinc 3 (lv' := [(2, (0, w32 (v2 + 1))), (3, (0, v3_23)), (0, (2, 13)), (1, (0, v1))]) X dX8_freeCrewsAt_52 rfl (by decide) rfl ?_
        refine g_goto X dX8_freeCrewsAt_55 (tgt := 2) (by decide) ?_
        exact g_sub X [2, 3, 0] rfl (ih _ _ _ h)
      · have h := h.2 hc
        refine g_aload_n 1 (i := 0) X dX8_freeCrewsAt_37 rfl rfl ?_
        refine g_getR X dX8_freeCrewsAt_38 fX8_51 ?_
        refine g_aload_n 1 (i := 0) X dX8_freeCrewsAt_41 rfl rfl ?_
        refine g_getR X dX8_freeCrewsAt_42 fX8_21 ?_
        refine g_iload_n 3 (i := 2) X dX8_freeCrewsAt_45 rfl rfl ?_
        obtain ⟨hi, h⟩ := h
        refine g_iald X dX8_freeCrewsAt_46 rfl hi ?_
        refine g_dup2 X dX8_freeCrewsAt_47 rfl rfl ?_
        obtain ⟨hi, h⟩ := h
        refine g_iald X dX8_freeCrewsAt_48 rfl hi ?_
        refine g_iconst X dX8_freeCrewsAt_49 (by decide) ?_
        refine g_iadd X dX8_freeCrewsAt_50 ?_
        obtain ⟨hi, h⟩ := h
        refine g_iast X dX8_freeCrewsAt_51 rfl hi (fun m51 em51 => ?_)
        have h := h m51 em51
        refine g_iinc 3 (lv' := [(2, (0, w32 (v2 + 1))), (3, (0, v3_23)), (0, (2, 13)), (1, (0, v1))]) X dX8_freeCrewsAt_52 rfl (by decide) rfl ?_
        refine g_goto X dX8_freeCrewsAt_55 (tgt := 2) (by decide) ?_
        exact g_sub X [2, 3, 0] rfl (ih _ _ _ h)
def wp_X8_freeCrewsAt (v1 : Int) (m : Mem) (post : Mem → Prop) : Prop :=
  ∃ n_2 : Nat, wp_X8_freeCrewsAt_2  post n_2 v1 0 m
set_option maxRecDepth 100000 in
theorem pf_X8_freeCrewsAt {l : Launch} {x : WX} {G : GT} {post : Mem → Prop} (X : Ax l x cX8_freeCrewsAt RX8 4 (rmd 1) 67 G) (hr : RV cX8_freeCrewsAt post G) (v1 : Int) (m : Mem) (h : wp_X8_freeCrewsAt v1 m post) : G 0 [(0, (2, 13)), (1, (0, v1))] [] m := by
  unfold wp_X8_freeCrewsAt at h
  refine g_iconst X dX8_freeCrewsAt_0 (by decide) ?_
  refine g_istore_n (i := 2) (lv' := [(2, (0, 0)), (0, (2, 13)), (1, (0, v1))]) X dX8_freeCrewsAt_1 rfl (by decide) rfl ?_
  obtain ⟨n_2, h⟩ := h
  refine g_sub X [1, 2, 0] rfl (pf_X8_freeCrewsAt_2 X hr  n_2 _ _ _ h)
theorem im_X8_freeCrewsAt (l : Launch) (x : WX) (v1 : Int) (m : Mem) (post : Mem → Prop) (h : wp_X8_freeCrewsAt v1 m post) : MetV l x 67 1 yX8_freeCrewsAt cX8_freeCrewsAt 4 [(2, 13), (0, v1)] m post := met_V (by decide) (Nat.le_of_ble_eq_true rfl) (fun _ X hr => pf_X8_freeCrewsAt X hr v1 m h)
def wp_X8_crewsStartedAt_4  (post : Int → Mem → Prop) : Nat → Int → Int → Int → Mem → Prop
  | 0, _, _, _, _ => False
  | n + 1, v1, v2, v3, m =>
  ((m 13 0 ≤ v3 → (post v2 m)) ∧
  (¬ m 13 0 ≤ v3 → (wp_X8_isDue v3 v1 m (fun r15 m15 => ((¬ r15 = 0 → ((0 ≤ v3 ∧ v3 < 12) ∧ ((0 ≤ m15 16 v3 ∧ m15 16 v3 < 8) ∧ (((m15 27 (m15 16 v3) ≤ 0 → (wp_X8_crewsStartedAt_4  post n v1 (w32 (v2 + 1)) (w32 (v3 + 1)) m15)) ∧
  (¬ m15 27 (m15 16 v3) ≤ 0 → ((0 ≤ v3 ∧ v3 < 12) ∧ ((0 ≤ m15 16 v3 ∧ m15 16 v3 < 8) ∧ ((0 ≤ m15 16 v3 ∧ m15 16 v3 < 8) ∧ (∀ m52 : Mem, m52 = mset m15 27 (m15 16 v3) (w32 (m15 27 (m15 16 v3) - 1)) → (wp_X8_crewsStartedAt_4  post n v1 v2 (w32 (v3 + 1)) m52))))))))))) ∧
  (r15 = 0 → (wp_X8_crewsStartedAt_4  post n v1 v2 (w32 (v3 + 1)) m15)))))))
set_option maxRecDepth 100000 in
theorem pf_X8_crewsStartedAt_4 {l : Launch} {x : WX} {G : GT} {post : Int → Mem → Prop}  (X : Ax l x cX8_crewsStartedAt RX8 4 (rmd 1) 67 G) (hr : RI cX8_crewsStartedAt post G) : ∀ (n : Nat) (v1 : Int) (v2 : Int) (v3 : Int) (m : Mem) (_ : wp_X8_crewsStartedAt_4  post n v1 v2 v3 m), G 4 [(0, (2, 13)), (1, (0, v1)), (2, (0, v2)), (3, (0, v3))] [] m := by
  intro n
  induction n with
  | zero => intro v1 v2 v3 m h; exact absurd h id
  | succ n ih =>
  intro v1 v2 v3 m h
  unfold wp_X8_crewsStartedAt_4 at h
  refine g_iload_n 3 (i := 3) X dX8_crewsStartedAt_4 rfl rfl ?_
  refine g_aload_n 0 (i := 0) X dX8_crewsStartedAt_5 rfl rfl ?_
  refine g_getI X dX8_crewsStartedAt_6 fX8_54 ?_
  refine g_icmp_ge X dX8_crewsStartedAt_9 (tgt := 65) (by decide) (fun hc => ?_) (fun hc => ?_)
  · have h := h.1 hc
    refine g_iload_n 2 (i := 2) X dX8_crewsStartedAt_65 rfl rfl ?_
    exact hr _ _ _ _ _ dX8_crewsStartedAt_66 h
  · have h := h.2 hc
    refine g_aload_n 0 (i := 0) X dX8_crewsStartedAt_12 rfl rfl ?_
    refine g_iload_n 3 (i := 3) X dX8_crewsStartedAt_13 rfl rfl ?_
    refine g_iload_n 1 (i := 1) X dX8_crewsStartedAt_14 rfl rfl ?_
    refine g_cVI (st := []) X dX8_crewsStartedAt_15 YX8_isDue lX8_88 (by decide) (im_X8_isDue l x _ _ _ _ h) rfl ⟨by decide, by decide⟩ rfl (Nat.le_of_ble_eq_true rfl) (fun r15 m15 h => ?_)
    refine g_if_ne X dX8_crewsStartedAt_18 (tgt := 24) (by decide) (fun hc => ?_) (fun hc => ?_)
    · have h := h.1 hc
      refine g_aload_n 0 (i := 0) X dX8_crewsStartedAt_24 rfl rfl ?_
      refine g_getR X dX8_crewsStartedAt_25 fX8_51 ?_
      refine g_aload_n 0 (i := 0) X dX8_crewsStartedAt_28 rfl rfl ?_
      refine g_getR X dX8_crewsStartedAt_29 fX8_18 ?_
      refine g_iload_n 3 (i := 3) X dX8_crewsStartedAt_32 rfl rfl ?_
      obtain ⟨hi, h⟩ := h
      refine g_iald X dX8_crewsStartedAt_33 rfl hi ?_
      obtain ⟨hi, h⟩ := h
      refine g_iald X dX8_crewsStartedAt_34 rfl hi ?_
      refine g_if_le X dX8_crewsStartedAt_35 (tgt := 56) (by decide) (fun hc => ?_) (fun hc => ?_)
      · have h := h.1 hc
        refine g_iinc 2 (lv' := [(2, (0, w32 (v2 + 1))), (0, (2, 13)), (1, (0, v1)), (3, (0, v3))]) X dX8_crewsStartedAt_56 rfl (by decide) rfl ?_
        refine g_iinc 3 (lv' := [(3, (0, w32 (v3 + 1))), (2, (0, w32 (v2 + 1))), (0, (2, 13)), (1, (0, v1))]) X dX8_crewsStartedAt_59 rfl (by decide) rfl ?_
        refine g_goto X dX8_crewsStartedAt_62 (tgt := 4) (by decide) ?_
        exact g_sub X [2, 3, 1, 0] rfl (ih _ _ _ _ h)
      · have h := h.2 hc
        refine g_aload_n 0 (i := 0) X dX8_crewsStartedAt_38 rfl rfl ?_
        refine g_getR X dX8_crewsStartedAt_39 fX8_51 ?_
        refine g_aload_n 0 (i := 0) X dX8_crewsStartedAt_42 rfl rfl ?_
        refine g_getR X dX8_crewsStartedAt_43 fX8_18 ?_
        refine g_iload_n 3 (i := 3) X dX8_crewsStartedAt_46 rfl rfl ?_
        obtain ⟨hi, h⟩ := h
        refine g_iald X dX8_crewsStartedAt_47 rfl hi ?_
        refine g_dup2 X dX8_crewsStartedAt_48 rfl rfl ?_
        obtain ⟨hi, h⟩ := h
        refine g_iald X dX8_crewsStartedAt_49 rfl hi ?_
        refine g_iconst X dX8_crewsStartedAt_50 (by decide) ?_
        refine g_isub X dX8_crewsStartedAt_51 ?_
        obtain ⟨hi, h⟩ := h
        refine g_iast X dX8_crewsStartedAt_52 rfl hi (fun m52 em52 => ?_)
        have h := h m52 em52
        refine g_goto X dX8_crewsStartedAt_53 (tgt := 59) (by decide) ?_
        refine g_iinc 3 (lv' := [(3, (0, w32 (v3 + 1))), (0, (2, 13)), (1, (0, v1)), (2, (0, v2))]) X dX8_crewsStartedAt_59 rfl (by decide) rfl ?_
        refine g_goto X dX8_crewsStartedAt_62 (tgt := 4) (by decide) ?_
        exact g_sub X [1, 2, 3, 0] rfl (ih _ _ _ _ h)
    · have h := h.2 hc
      refine g_goto X dX8_crewsStartedAt_21 (tgt := 59) (by decide) ?_
      refine g_iinc 3 (lv' := [(3, (0, w32 (v3 + 1))), (0, (2, 13)), (1, (0, v1)), (2, (0, v2))]) X dX8_crewsStartedAt_59 rfl (by decide) rfl ?_
      refine g_goto X dX8_crewsStartedAt_62 (tgt := 4) (by decide) ?_
      exact g_sub X [1, 2, 3, 0] rfl (ih _ _ _ _ h)
def wp_X8_crewsStartedAt (v1 : Int) (m : Mem) (post : Int → Mem → Prop) : Prop :=
  ∃ n_1 : Nat, wp_X8_crewsStartedAt_4  post n_1 v1 0 0 m
set_option maxRecDepth 100000 in
theorem pf_X8_crewsStartedAt {l : Launch} {x : WX} {G : GT} {post : Int → Mem → Prop} (X : Ax l x cX8_crewsStartedAt RX8 4 (rmd 1) 67 G) (hr : RI cX8_crewsStartedAt post G) (v1 : Int) (m : Mem) (h : wp_X8_crewsStartedAt v1 m post) : G 0 [(0, (2, 13)), (1, (0, v1))] [] m := by
  unfold wp_X8_crewsStartedAt at h
  refine g_iconst X dX8_crewsStartedAt_0 (by decide) ?_
  refine g_istore_n (i := 2) (lv' := [(2, (0, 0)), (0, (2, 13)), (1, (0, v1))]) X dX8_crewsStartedAt_1 rfl (by decide) rfl ?_
  refine g_iconst X dX8_crewsStartedAt_2 (by decide) ?_
  refine g_istore_n (i := 3) (lv' := [(3, (0, 0)), (2, (0, 0)), (0, (2, 13)), (1, (0, v1))]) X dX8_crewsStartedAt_3 rfl (by decide) rfl ?_
  obtain ⟨n_1, h⟩ := h
  refine g_sub X [2, 3, 1, 0] rfl (pf_X8_crewsStartedAt_4 X hr  n_1 _ _ _ _ h)
theorem im_X8_crewsStartedAt (l : Launch) (x : WX) (v1 : Int) (m : Mem) (post : Int → Mem → Prop) (h : wp_X8_crewsStartedAt v1 m post) : MetI l x 67 1 yX8_crewsStartedAt cX8_crewsStartedAt 4 .int [(2, 13), (0, v1)] m post := met_I (by decide) (Nat.le_of_ble_eq_true rfl) (fun _ X hr => pf_X8_crewsStartedAt X hr v1 m h)
def wp_X8_fewestCrews_12  (post : Int → Mem → Prop) : Nat → Int → Int → Mem → Prop
  | 0, _, _, _ => False
  | n + 1, v1, v2, m =>
  ((168 ≤ v2 → (post v1 m)) ∧
  (¬ 168 ≤ v2 → (wp_X8_freeCrewsAt v2 m (fun m21 => wp_X8_crewsStartedAt v2 m21 (fun r27 m27 => ∀ v1_31 : Int, v1_31 = w32 (v1 + r27) → (wp_X8_fewestCrews_12  post n v1_31 (w32 (v2 + 1)) m27))))))
set_option maxRecDepth 100000 in
theorem pf_X8_fewestCrews_12 {l : Launch} {x : WX} {G : GT} {post : Int → Mem → Prop}  (X : Ax l x cX8_fewestCrews RX8 3 (rmd 2) 67 G) (hr : RI cX8_fewestCrews post G) : ∀ (n : Nat) (v1 : Int) (v2 : Int) (m : Mem) (_ : wp_X8_fewestCrews_12  post n v1 v2 m), G 12 [(0, (2, 13)), (1, (0, v1)), (2, (0, v2))] [] m := by
  intro n
  induction n with
  | zero => intro v1 v2 m h; exact absurd h id
  | succ n ih =>
  intro v1 v2 m h
  unfold wp_X8_fewestCrews_12 at h
  refine g_iload_n 2 (i := 2) X dX8_fewestCrews_12 rfl rfl ?_
  refine g_sipush X dX8_fewestCrews_13 (by decide) ?_
  refine g_icmp_ge X dX8_fewestCrews_16 (tgt := 38) (by decide) (fun hc => ?_) (fun hc => ?_)
  · have h := h.1 hc
    refine g_iload_n 1 (i := 1) X dX8_fewestCrews_38 rfl rfl ?_
    exact hr _ _ _ _ _ dX8_fewestCrews_39 h
  · have h := h.2 hc
    refine g_aload_n 0 (i := 0) X dX8_fewestCrews_19 rfl rfl ?_
    refine g_iload_n 2 (i := 2) X dX8_fewestCrews_20 rfl rfl ?_
    refine g_cVV (st := []) X dX8_fewestCrews_21 YX8_freeCrewsAt lX8_81 (by decide) (im_X8_freeCrewsAt l x _ _ _ h) rfl ⟨by decide, by decide⟩ rfl (Nat.le_of_ble_eq_true rfl) (fun m21 h => ?_)
    refine g_iload_n 1 (i := 1) X dX8_fewestCrews_24 rfl rfl ?_
    refine g_aload_n 0 (i := 0) X dX8_fewestCrews_25 rfl rfl ?_
    refine g_iload_n 2 (i := 2) X dX8_fewestCrews_26 rfl rfl ?_
    refine g_cVI (st := [(0, v1)]) X dX8_fewestCrews_27 YX8_crewsStartedAt lX8_85 (by decide) (im_X8_crewsStartedAt l x _ _ _ h) rfl ⟨by decide, by decide⟩ rfl (Nat.le_of_ble_eq_true rfl) (fun r27 m27 h => ?_)
    refine g_iadd X dX8_fewestCrews_30 ?_
    refine g_nmI (fun v1_31 ev1_31 => ?_)
    have h := h v1_31 ev1_31
    refine g_istore_n (i := 1) (lv' := [(1, (0, v1_31)), (0, (2, 13)), (2, (0, v2))]) X dX8_fewestCrews_31 rfl (by decide) rfl ?_
    refine g_iinc 2 (lv' := [(2, (0, w32 (v2 + 1))), (1, (0, v1_31)), (0, (2, 13))]) X dX8_fewestCrews_32 rfl (by decide) rfl ?_
    refine g_goto X dX8_fewestCrews_35 (tgt := 12) (by decide) ?_
    exact g_sub X [2, 1, 0] rfl (ih _ _ _ h)
def wp_X8_fewestCrews  (m : Mem) (post : Int → Mem → Prop) : Prop :=
  wp_J7_fill_53178 27 0 m (fun m5 => ∃ n_2 : Nat, wp_X8_fewestCrews_12  post n_2 0 0 m5)
set_option maxRecDepth 100000 in
theorem pf_X8_fewestCrews {l : Launch} {x : WX} {G : GT} {post : Int → Mem → Prop} (X : Ax l x cX8_fewestCrews RX8 3 (rmd 2) 67 G) (hr : RI cX8_fewestCrews post G)  (m : Mem) (h : wp_X8_fewestCrews  m post) : G 0 [(0, (2, 13))] [] m := by
  unfold wp_X8_fewestCrews at h
  refine g_aload_n 0 (i := 0) X dX8_fewestCrews_0 rfl rfl ?_
  refine g_getR X dX8_fewestCrews_1 fX8_51 ?_
  refine g_iconst X dX8_fewestCrews_4 (by decide) ?_
  refine g_cSV (st := []) X dX8_fewestCrews_5 YJ7_fill_53178 lX8_75 (by decide) (im_J7_fill_53178 l x _ _ _ _ h) rfl ⟨by decide, by decide⟩ rfl (Nat.le_of_ble_eq_true rfl) (fun m5 h => ?_)
  refine g_iconst X dX8_fewestCrews_8 (by decide) ?_
  refine g_istore_n (i := 1) (lv' := [(1, (0, 0)), (0, (2, 13))]) X dX8_fewestCrews_9 rfl (by decide) rfl ?_
  refine g_iconst X dX8_fewestCrews_10 (by decide) ?_
  refine g_istore_n (i := 2) (lv' := [(2, (0, 0)), (1, (0, 0)), (0, (2, 13))]) X dX8_fewestCrews_11 rfl (by decide) rfl ?_
  obtain ⟨n_2, h⟩ := h
  refine g_sub X [2, 1, 0] rfl (pf_X8_fewestCrews_12 X hr  n_2 _ _ _ h)
theorem im_X8_fewestCrews (l : Launch) (x : WX)  (m : Mem) (post : Int → Mem → Prop) (h : wp_X8_fewestCrews  m post) : MetI l x 67 2 yX8_fewestCrews cX8_fewestCrews 3 .int [(2, 13)] m post := met_I (by decide) (Nat.le_of_ble_eq_true rfl) (fun _ X hr => pf_X8_fewestCrews X hr  m h)
def wp_X8_digestOnto_18 (K6 : Int → Int → Int → Mem → Prop) (post : Int → Mem → Prop) : Nat → Int → Int → Int → Int → Mem → Prop
  | 0, _, _, _, _, _ => False
  | n + 1, v3, v4, v6, v7, m =>
  ((3 < v7 → (K6 v3 v4 (w32 (v6 + 1)) m)) ∧
  (¬ 3 < v7 → (wp_X8_tell v6 v7 v3 m (fun r36 m36 => ∀ v4_41 : Int, v4_41 = w64 (w64 (31 * v4) + r36) → (wp_X8_digestOnto_18 K6 post n v3 v4_41 v6 (w32 (v7 + 1)) m36)))))
set_option maxRecDepth 100000 in
theorem pf_X8_digestOnto_18 {l : Launch} {x : WX} {G : GT} {post : Int → Mem → Prop} {K6 : Int → Int → Int → Mem → Prop} (X : Ax l x cX8_digestOnto RX8 8 (rmd 2) 67 G) (hr : RJ cX8_digestOnto post G) (hK6 : ∀ (v3 : Int) (v4 : Int) (v6 : Int) (m : Mem), K6 v3 v4 v6 m → G 6 [(0, (2, 13)), (3, (0, v3)), (4, (1, v4)), (6, (0, v6))] [] m) : ∀ (n : Nat) (v3 : Int) (v4 : Int) (v6 : Int) (v7 : Int) (m : Mem) (_ : wp_X8_digestOnto_18 K6 post n v3 v4 v6 v7 m), G 18 [(0, (2, 13)), (3, (0, v3)), (4, (1, v4)), (6, (0, v6)), (7, (0, v7))] [] m := by
  intro n
  induction n with
  | zero => intro v3 v4 v6 v7 m h; exact absurd h id
  | succ n ih =>
  intro v3 v4 v6 v7 m h
  unfold wp_X8_digestOnto_18 at h
  refine g_iload 4 (i := 7) X dX8_digestOnto_18 rfl ?_
  refine g_iconst X dX8_digestOnto_20 (by decide) ?_
  refine g_icmp_gt X dX8_digestOnto_21 (tgt := 49) (by decide) (fun hc => ?_) (fun hc => ?_)
  · have h := h.1 hc
    refine g_iinc 3 (lv' := [(6, (0, w32 (v6 + 1))), (0, (2, 13)), (3, (0, v3)), (4, (1, v4)), (7, (0, v7))]) X dX8_digestOnto_49 rfl (by decide) rfl ?_
    refine g_goto X dX8_digestOnto_52 (tgt := 6) (by decide) ?_
    exact g_sub X [1, 2, 3, 0] rfl (hK6 _ _ _ _ h)
  · have h := h.2 hc
    refine g_ldc2 X dX8_digestOnto_24 (by unfold r64; omega) kX8_92 ?_
    refine g_lload 2 (i := 4) X dX8_digestOnto_27 rfl ?_
    refine g_lmul X dX8_digestOnto_29 ?_
    refine g_aload_n 0 (i := 0) X dX8_digestOnto_30 rfl rfl ?_
    refine g_iload 3 (i := 6) X dX8_digestOnto_31 rfl ?_
    refine g_iload 4 (i := 7) X dX8_digestOnto_33 rfl ?_
    refine g_iload_n 1 (i := 3) X dX8_digestOnto_35 rfl rfl ?_
    refine g_cVI (st := [(1, w64 (31 * v4))]) X dX8_digestOnto_36 YX8_tell lX8_94 (by decide) (im_X8_tell l x _ _ _ _ _ h) rfl ⟨by decide, by decide⟩ rfl (Nat.le_of_ble_eq_true rfl) (fun r36 m36 h => ?_)
    refine g_i2l X dX8_digestOnto_39 ?_
    refine g_ladd X dX8_digestOnto_40 ?_
    refine g_nmI (fun v4_41 ev4_41 => ?_)
    have h := h v4_41 ev4_41
    refine g_lstore (i := 4) (lv' := [(4, (1, v4_41)), (0, (2, 13)), (3, (0, v3)), (6, (0, v6)), (7, (0, v7))]) X dX8_digestOnto_41 (by decide) rfl ?_
    refine g_iinc 4 (lv' := [(7, (0, w32 (v7 + 1))), (4, (1, v4_41)), (0, (2, 13)), (3, (0, v3)), (6, (0, v6))]) X dX8_digestOnto_43 rfl (by decide) rfl ?_
    refine g_goto X dX8_digestOnto_46 (tgt := 18) (by decide) ?_
    exact g_sub X [2, 3, 1, 4, 0] rfl (ih _ _ _ _ _ h)
def wp_X8_digestOnto_6  (post : Int → Mem → Prop) : Nat → Int → Int → Int → Mem → Prop
  | 0, _, _, _, _ => False
  | n + 1, v3, v4, v6, m =>
  ((m 13 0 ≤ v6 → (post v4 m)) ∧
  (¬ m 13 0 ≤ v6 → (∃ n_3 : Nat, wp_X8_digestOnto_18 (fun v3_2 v4_2 v6_2 m_2 => wp_X8_digestOnto_6  post n v3_2 v4_2 v6_2 m_2) post n_3 v3 v4 v6 0 m)))
set_option maxRecDepth 100000 in
theorem pf_X8_digestOnto_6 {l : Launch} {x : WX} {G : GT} {post : Int → Mem → Prop}  (X : Ax l x cX8_digestOnto RX8 8 (rmd 2) 67 G) (hr : RJ cX8_digestOnto post G) : ∀ (n : Nat) (v3 : Int) (v4 : Int) (v6 : Int) (m : Mem) (_ : wp_X8_digestOnto_6  post n v3 v4 v6 m), G 6 [(0, (2, 13)), (3, (0, v3)), (4, (1, v4)), (6, (0, v6))] [] m := by
  intro n
  induction n with
  | zero => intro v3 v4 v6 m h; exact absurd h id
  | succ n ih =>
  intro v3 v4 v6 m h
  unfold wp_X8_digestOnto_6 at h
  refine g_iload 3 (i := 6) X dX8_digestOnto_6 rfl ?_
  refine g_aload_n 0 (i := 0) X dX8_digestOnto_8 rfl rfl ?_
  refine g_getI X dX8_digestOnto_9 fX8_54 ?_
  refine g_icmp_ge X dX8_digestOnto_12 (tgt := 55) (by decide) (fun hc => ?_) (fun hc => ?_)
  · have h := h.1 hc
    refine g_lload 2 (i := 4) X dX8_digestOnto_55 rfl ?_
    exact hr _ _ _ _ _ dX8_digestOnto_57 h
  · have h := h.2 hc
    refine g_iconst X dX8_digestOnto_15 (by decide) ?_
    refine g_istore (i := 7) (lv' := [(7, (0, 0)), (0, (2, 13)), (3, (0, v3)), (4, (1, v4)), (6, (0, v6))]) X dX8_digestOnto_16 (by decide) rfl ?_
    obtain ⟨n_3, h⟩ := h
    refine g_sub X [1, 2, 3, 4, 0] rfl (pf_X8_digestOnto_18 X hr (fun v3_2 v4_2 v6_2 m_2 h => ?_) n_3 _ _ _ _ _ h)
    · exact g_sub X [0, 1, 2, 3] rfl (ih _ _ _ _ h)
def wp_X8_digestOnto (v1 : Int) (v3 : Int) (m : Mem) (post : Int → Mem → Prop) : Prop :=
  ∃ n_4 : Nat, wp_X8_digestOnto_6  post n_4 v3 v1 0 m
set_option maxRecDepth 100000 in
theorem pf_X8_digestOnto {l : Launch} {x : WX} {G : GT} {post : Int → Mem → Prop} (X : Ax l x cX8_digestOnto RX8 8 (rmd 2) 67 G) (hr : RJ cX8_digestOnto post G) (v1 : Int) (v3 : Int) (m : Mem) (h : wp_X8_digestOnto v1 v3 m post) : G 0 [(0, (2, 13)), (1, (1, v1)), (3, (0, v3))] [] m := by
  unfold wp_X8_digestOnto at h
  refine g_lload_n 1 (i := 1) X dX8_digestOnto_0 rfl rfl ?_
  refine g_lstore (i := 4) (lv' := [(4, (1, v1)), (0, (2, 13)), (1, (1, v1)), (3, (0, v3))]) X dX8_digestOnto_1 (by decide) rfl ?_
  refine g_iconst X dX8_digestOnto_3 (by decide) ?_
  refine g_istore (i := 6) (lv' := [(6, (0, 0)), (4, (1, v1)), (0, (2, 13)), (1, (1, v1)), (3, (0, v3))]) X dX8_digestOnto_4 (by decide) rfl ?_
  obtain ⟨n_4, h⟩ := h
  refine g_sub X [2, 4, 1, 0] rfl (pf_X8_digestOnto_6 X hr  n_4 _ _ _ _ h)
theorem im_X8_digestOnto (l : Launch) (x : WX) (v1 : Int) (v3 : Int) (m : Mem) (post : Int → Mem → Prop) (h : wp_X8_digestOnto v1 v3 m post) : MetJ l x 67 2 yX8_digestOnto cX8_digestOnto 8 [(2, 13), (1, v1), (0, v3)] m post := met_J (by decide) (Nat.le_of_ble_eq_true rfl) (fun _ X hr => pf_X8_digestOnto X hr v1 v3 m h)
def wp_X9_begin  (m : Mem) (post : Mem → Prop) : Prop :=
  ∀ m2 : Mem, m2 = mset m 28 0 0 → (∀ m7 : Mem, m7 = mset m2 28 1 2 → (∀ m12 : Mem, m12 = mset m7 28 4 0 → (wp_J7_fill_53178 29 (-1) m12 (fun m20 => wp_J7_fill_53178 30 (-1) m20 (fun m28 => post m28)))))
set_option maxRecDepth 100000 in
theorem pf_X9_begin {l : Launch} {x : WX} {G : GT} {post : Mem → Prop} (X : Ax l x cX9_begin RX9 1 (rmd 1) 67 G) (hr : RV cX9_begin post G)  (m : Mem) (h : wp_X9_begin  m post) : G 0 [(0, (2, 28))] [] m := by
  unfold wp_X9_begin at h
  refine g_aload_n 0 (i := 0) X dX9_begin_0 rfl rfl ?_
  refine g_iconst X dX9_begin_1 (by decide) ?_
  refine g_putI X dX9_begin_2 pX9_36 (fun m2 em2 => ?_)
  have h := h m2 em2
  refine g_aload_n 0 (i := 0) X dX9_begin_5 rfl rfl ?_
  refine g_iconst X dX9_begin_6 (by decide) ?_
  refine g_putI X dX9_begin_7 pX9_40 (fun m7 em7 => ?_)
  have h := h m7 em7
  refine g_aload_n 0 (i := 0) X dX9_begin_10 rfl rfl ?_
  refine g_iconst X dX9_begin_11 (by decide) ?_
  refine g_putI X dX9_begin_12 pX9_43 (fun m12 em12 => ?_)
  have h := h m12 em12
  refine g_aload_n 0 (i := 0) X dX9_begin_15 rfl rfl ?_
  refine g_getR X dX9_begin_16 fX9_9 ?_
  refine g_iconst X dX9_begin_19 (by decide) ?_
  refine g_cSV (st := []) X dX9_begin_20 YJ7_fill_53178 lX9_46 (by decide) (im_J7_fill_53178 l x _ _ _ _ h) rfl ⟨by decide, by decide⟩ rfl (Nat.le_of_ble_eq_true rfl) (fun m20 h => ?_)
  refine g_aload_n 0 (i := 0) X dX9_begin_23 rfl rfl ?_
  refine g_getR X dX9_begin_24 fX9_15 ?_
  refine g_iconst X dX9_begin_27 (by decide) ?_
  refine g_cSV (st := []) X dX9_begin_28 YJ7_fill_53178 lX9_46 (by decide) (im_J7_fill_53178 l x _ _ _ _ h) rfl ⟨by decide, by decide⟩ rfl (Nat.le_of_ble_eq_true rfl) (fun m28 h => ?_)
  exact hr _ _ _ _ dX9_begin_31 h
theorem im_X9_begin (l : Launch) (x : WX)  (m : Mem) (post : Mem → Prop) (h : wp_X9_begin  m post) : MetV l x 67 1 yX9_begin cX9_begin 1 [(2, 28)] m post := met_V (by decide) (Nat.le_of_ble_eq_true rfl) (fun _ X hr => pf_X9_begin X hr  m h)
