/-! methods: what they mean, and that their bytecode means it (printed by a program of mine) -/
def wp_X11_pass_31  (post : Int → Mem → Prop) : Nat → Int → Int → Mem → Prop
  | 0, _, _, _ => False
  | n + 1, v1, v2, m =>
  ((v1 ≤ v2 → (post (m 67 18) m)) ∧
  (¬ v1 ≤ v2 → (wp_X11_anHour m (fun m37 => wp_X11_pass_31  post n v1 (w32 (v2 + 1)) m37))))
set_option maxRecDepth 100000 in
theorem pf_X11_pass_31 {l : Launch} {x : WX} {G : GT} {post : Int → Mem → Prop}  (X : Ax l x cX11_pass RX11 3 (rmd 4) 106 G) (hr : RI cX11_pass post G) : ∀ (n : Nat) (v1 : Int) (v2 : Int) (m : Mem) (_ : wp_X11_pass_31  post n v1 v2 m), G 31 [(0, (2, 67)), (1, (0, v1)), (2, (0, v2))] [] m := by
  intro n
  induction n with
  | zero => intro v1 v2 m h; exact absurd h id
  | succ n ih =>
  intro v1 v2 m h
  unfold wp_X11_pass_31 at h
  refine g_iload_n 2 (i := 2) X dX11_pass_31 rfl rfl ?_
  refine g_iload_n 1 (i := 1) X dX11_pass_32 rfl rfl ?_
  refine g_icmp_ge X dX11_pass_33 (tgt := 46) (by decide) (fun hc => ?_) (fun hc => ?_)
  · have h := h.1 hc
    refine g_aload_n 0 (i := 0) X dX11_pass_46 rfl rfl ?_
    refine g_getI X dX11_pass_47 fX11_153 ?_
    exact hr _ _ _ _ _ dX11_pass_50 h
  · have h := h.2 hc
    refine g_aload_n 0 (i := 0) X dX11_pass_36 rfl rfl ?_
    refine g_cVV (st := []) X dX11_pass_37 YX11_anHour lX11_241 (by decide) (im_X11_anHour l x  _ _ h) rfl ⟨by decide, by decide⟩ rfl (Nat.le_of_ble_eq_true rfl) (fun m37 h => ?_)
    refine g_iinc 2 (lv' := [(2, (0, w32 (v2 + 1))), (0, (2, 67)), (1, (0, v1))]) X dX11_pass_40 rfl (by decide) rfl ?_
    refine g_goto X dX11_pass_43 (tgt := 31) (by decide) ?_
    exact g_sub X [1, 2, 0] rfl (ih _ _ _ h)
def wp_X11_pass (v1 : Int) (m : Mem) (post : Int → Mem → Prop) : Prop :=
  wp_X11_in v1 1 200 m (fun r5 m5 => ((¬ r5 = 0 → (((w32 (m5 67 18 + v1) ≤ 2000 → (∃ n_1 : Nat, wp_X11_pass_31  post n_1 v1 0 m5)) ∧
  (¬ w32 (m5 67 18 + v1) ≤ 2000 → (post (-103) m5))))) ∧
  (r5 = 0 → (post (-102) m5))))
set_option maxRecDepth 100000 in
theorem pf_X11_pass {l : Launch} {x : WX} {G : GT} {post : Int → Mem → Prop} (X : Ax l x cX11_pass RX11 3 (rmd 4) 106 G) (hr : RI cX11_pass post G) (v1 : Int) (m : Mem) (h : wp_X11_pass v1 m post) : G 0 [(0, (2, 67)), (1, (0, v1))] [] m := by
  unfold wp_X11_pass at h
  refine g_iload_n 1 (i := 1) X dX11_pass_0 rfl rfl ?_
  refine g_iconst X dX11_pass_1 (by decide) ?_
  refine g_sipush X dX11_pass_2 (by decide) ?_
  refine g_cSI (st := []) X dX11_pass_5 YX11_in lX11_134 (by decide) (im_X11_in l x _ _ _ _ _ h) rfl ⟨by decide, by decide⟩ rfl (Nat.le_of_ble_eq_true rfl) (fun r5 m5 h => ?_)
  refine g_if_ne X dX11_pass_8 (tgt := 14) (by decide) (fun hc => ?_) (fun hc => ?_)
  · have h := h.1 hc
    refine g_aload_n 0 (i := 0) X dX11_pass_14 rfl rfl ?_
    refine g_getI X dX11_pass_15 fX11_153 ?_
    refine g_iload_n 1 (i := 1) X dX11_pass_18 rfl rfl ?_
    refine g_iadd X dX11_pass_19 ?_
    refine g_sipush X dX11_pass_20 (by decide) ?_
    refine g_icmp_le X dX11_pass_23 (tgt := 29) (by decide) (fun hc => ?_) (fun hc => ?_)
    · have h := h.1 hc
      refine g_iconst X dX11_pass_29 (by decide) ?_
      refine g_istore_n (i := 2) (lv' := [(2, (0, 0)), (0, (2, 67)), (1, (0, v1))]) X dX11_pass_30 rfl (by decide) rfl ?_
      obtain ⟨n_1, h⟩ := h
      refine g_sub X [1, 2, 0] rfl (pf_X11_pass_31 X hr  n_1 _ _ _ h)
    · have h := h.2 hc
      refine g_bipush X dX11_pass_26 (by decide) ?_
      exact hr _ _ _ _ _ dX11_pass_28 h
  · have h := h.2 hc
    refine g_bipush X dX11_pass_11 (by decide) ?_
    exact hr _ _ _ _ _ dX11_pass_13 h
theorem im_X11_pass (l : Launch) (x : WX) (v1 : Int) (m : Mem) (post : Int → Mem → Prop) (h : wp_X11_pass v1 m post) : MetI l x 106 4 yX11_pass cX11_pass 3 .int [(2, 67), (0, v1)] m post := met_I (by decide) (Nat.le_of_ble_eq_true rfl) (fun _ X hr => pf_X11_pass X hr v1 m h)
def wp_X11_wagonIs (v1 : Int) (v2 : Int) (m : Mem) (post : Int → Mem → Prop) : Prop :=
  wp_X11_in v1 0 (w32 (m 67 13 - 1)) m (fun r8 m8 => ((¬ r8 = 0 → (wp_X11_in v2 0 5 m8 (fun r20 m20 => ((r20 = 0 → (post (-102) m20)) ∧
  (¬ r20 = 0 → ((0 ≤ w32 (w32 (6 * v1) + v2) ∧ w32 (w32 (6 * v1) + v2) < 180) ∧ (post (m20 77 (w32 (w32 (6 * v1) + v2))) m20))))))) ∧
  (r8 = 0 → (post (-101) m8))))
set_option maxRecDepth 100000 in
theorem pf_X11_wagonIs {l : Launch} {x : WX} {G : GT} {post : Int → Mem → Prop} (X : Ax l x cX11_wagonIs RX11 3 (rmd 1) 106 G) (hr : RI cX11_wagonIs post G) (v1 : Int) (v2 : Int) (m : Mem) (h : wp_X11_wagonIs v1 v2 m post) : G 0 [(0, (2, 67)), (1, (0, v1)), (2, (0, v2))] [] m := by
  unfold wp_X11_wagonIs at h
  refine g_iload_n 1 (i := 1) X dX11_wagonIs_0 rfl rfl ?_
  refine g_iconst X dX11_wagonIs_1 (by decide) ?_
  refine g_aload_n 0 (i := 0) X dX11_wagonIs_2 rfl rfl ?_
  refine g_getI X dX11_wagonIs_3 fX11_147 ?_
  refine g_iconst X dX11_wagonIs_6 (by decide) ?_
  refine g_isub X dX11_wagonIs_7 ?_
  refine g_cSI (st := []) X dX11_wagonIs_8 YX11_in lX11_134 (by decide) (im_X11_in l x _ _ _ _ _ h) rfl ⟨by decide, by decide⟩ rfl (Nat.le_of_ble_eq_true rfl) (fun r8 m8 h => ?_)
  refine g_if_ne X dX11_wagonIs_11 (tgt := 17) (by decide) (fun hc => ?_) (fun hc => ?_)
  · have h := h.1 hc
    refine g_iload_n 2 (i := 2) X dX11_wagonIs_17 rfl rfl ?_
    refine g_iconst X dX11_wagonIs_18 (by decide) ?_
    refine g_iconst X dX11_wagonIs_19 (by decide) ?_
    refine g_cSI (st := []) X dX11_wagonIs_20 YX11_in lX11_134 (by decide) (im_X11_in l x _ _ _ _ _ h) rfl ⟨by decide, by decide⟩ rfl (Nat.le_of_ble_eq_true rfl) (fun r20 m20 h => ?_)
    refine g_if_eq X dX11_wagonIs_23 (tgt := 40) (by decide) (fun hc => ?_) (fun hc => ?_)
    · have h := h.1 hc
      refine g_bipush X dX11_wagonIs_40 (by decide) ?_
      exact hr _ _ _ _ _ dX11_wagonIs_42 h
    · have h := h.2 hc
      refine g_aload_n 0 (i := 0) X dX11_wagonIs_26 rfl rfl ?_
      refine g_getR X dX11_wagonIs_27 fX11_38 ?_
      refine g_bipush X dX11_wagonIs_30 (by decide) ?_
      refine g_iload_n 1 (i := 1) X dX11_wagonIs_32 rfl rfl ?_
      refine g_imul X dX11_wagonIs_33 ?_
      refine g_iload_n 2 (i := 2) X dX11_wagonIs_34 rfl rfl ?_
      refine g_iadd X dX11_wagonIs_35 ?_
      obtain ⟨hi, h⟩ := h
      refine g_iald X dX11_wagonIs_36 rfl hi ?_
      refine g_goto X dX11_wagonIs_37 (tgt := 42) (by decide) ?_
      exact hr _ _ _ _ _ dX11_wagonIs_42 h
  · have h := h.2 hc
    refine g_bipush X dX11_wagonIs_14 (by decide) ?_
    exact hr _ _ _ _ _ dX11_wagonIs_16 h
theorem im_X11_wagonIs (l : Launch) (x : WX) (v1 : Int) (v2 : Int) (m : Mem) (post : Int → Mem → Prop) (h : wp_X11_wagonIs v1 v2 m post) : MetI l x 106 1 yX11_wagonIs cX11_wagonIs 3 .int [(2, 67), (0, v1), (0, v2)] m post := met_I (by decide) (Nat.le_of_ble_eq_true rfl) (fun _ X hr => pf_X11_wagonIs X hr v1 v2 m h)
def wp_X11_onTheWay_4  (post : Int → Mem → Prop) : Nat → Int → Int → Int → Mem → Prop
  | 0, _, _, _, _ => False
  | n + 1, v1, v2, v3, m =>
  ((4 ≤ v3 → (post v2 m)) ∧
  (¬ 4 ≤ v3 → ((0 ≤ w32 (w32 (4 * v1) + v3) ∧ w32 (w32 (4 * v1) + v3) < 48) ∧ (((¬ m 76 (w32 (w32 (4 * v1) + v3)) = (-1) → (∀ v2_30 : Int, v2_30 = w32 (v2 + 1) → (wp_X11_onTheWay_4  post n v1 v2_30 (w32 (v3 + 1)) m))) ∧
  (m 76 (w32 (w32 (4 * v1) + v3)) = (-1) → (∀ v2_30 : Int, v2_30 = w32 (v2 + 0) → (wp_X11_onTheWay_4  post n v1 v2_30 (w32 (v3 + 1)) m))))))))
set_option maxRecDepth 100000 in
theorem pf_X11_onTheWay_4 {l : Launch} {x : WX} {G : GT} {post : Int → Mem → Prop}  (X : Ax l x cX11_onTheWay RX11 4 (rmd 0) 106 G) (hr : RI cX11_onTheWay post G) : ∀ (n : Nat) (v1 : Int) (v2 : Int) (v3 : Int) (m : Mem) (_ : wp_X11_onTheWay_4  post n v1 v2 v3 m), G 4 [(0, (2, 67)), (1, (0, v1)), (2, (0, v2)), (3, (0, v3))] [] m := by
  intro n
  induction n with
  | zero => intro v1 v2 v3 m h; exact absurd h id
  | succ n ih =>
  intro v1 v2 v3 m h
  unfold wp_X11_onTheWay_4 at h
  refine g_iload_n 3 (i := 3) X dX11_onTheWay_4 rfl rfl ?_
  refine g_iconst X dX11_onTheWay_5 (by decide) ?_
  refine g_icmp_ge X dX11_onTheWay_6 (tgt := 37) (by decide) (fun hc => ?_) (fun hc => ?_)
  · have h := h.1 hc
    refine g_iload_n 2 (i := 2) X dX11_onTheWay_37 rfl rfl ?_
    exact hr _ _ _ _ _ dX11_onTheWay_38 h
  · have h := h.2 hc
    refine g_iload_n 2 (i := 2) X dX11_onTheWay_9 rfl rfl ?_
    refine g_aload_n 0 (i := 0) X dX11_onTheWay_10 rfl rfl ?_
    refine g_getR X dX11_onTheWay_11 fX11_35 ?_
    refine g_iconst X dX11_onTheWay_14 (by decide) ?_
    refine g_iload_n 1 (i := 1) X dX11_onTheWay_15 rfl rfl ?_
    refine g_imul X dX11_onTheWay_16 ?_
    refine g_iload_n 3 (i := 3) X dX11_onTheWay_17 rfl rfl ?_
    refine g_iadd X dX11_onTheWay_18 ?_
    obtain ⟨hi, h⟩ := h
    refine g_iald X dX11_onTheWay_19 rfl hi ?_
    refine g_iconst X dX11_onTheWay_20 (by decide) ?_
    refine g_icmp_ne X dX11_onTheWay_21 (tgt := 28) (by decide) (fun hc => ?_) (fun hc => ?_)
    · have h := h.1 hc
      refine g_iconst X dX11_onTheWay_28 (by decide) ?_
      refine g_iadd X dX11_onTheWay_29 ?_
      refine g_nmI (fun v2_30 ev2_30 => ?_)
      have h := h v2_30 ev2_30
      refine g_istore_n (i := 2) (lv' := [(2, (0, v2_30)), (0, (2, 67)), (1, (0, v1)), (3, (0, v3))]) X dX11_onTheWay_30 rfl (by decide) rfl ?_
      refine g_iinc 3 (lv' := [(3, (0, w32 (v3 + 1))), (2, (0, v2_30)), (0, (2, 67)), (1, (0, v1))]) X dX11_onTheWay_31 rfl (by decide) rfl ?_
      refine g_goto X dX11_onTheWay_34 (tgt := 4) (by decide) ?_
      exact g_sub X [2, 3, 1, 0] rfl (ih _ _ _ _ h)
    · have h := h.2 hc
      refine g_iconst X dX11_onTheWay_24 (by decide) ?_
      refine g_goto X dX11_onTheWay_25 (tgt := 29) (by decide) ?_
      refine g_iadd X dX11_onTheWay_29 ?_
      refine g_nmI (fun v2_30 ev2_30 => ?_)
      have h := h v2_30 ev2_30
      refine g_istore_n (i := 2) (lv' := [(2, (0, v2_30)), (0, (2, 67)), (1, (0, v1)), (3, (0, v3))]) X dX11_onTheWay_30 rfl (by decide) rfl ?_
      refine g_iinc 3 (lv' := [(3, (0, w32 (v3 + 1))), (2, (0, v2_30)), (0, (2, 67)), (1, (0, v1))]) X dX11_onTheWay_31 rfl (by decide) rfl ?_
      refine g_goto X dX11_onTheWay_34 (tgt := 4) (by decide) ?_
      exact g_sub X [2, 3, 1, 0] rfl (ih _ _ _ _ h)
def wp_X11_onTheWay (v1 : Int) (m : Mem) (post : Int → Mem → Prop) : Prop :=
  ∃ n_3 : Nat, wp_X11_onTheWay_4  post n_3 v1 0 0 m
set_option maxRecDepth 100000 in
theorem pf_X11_onTheWay {l : Launch} {x : WX} {G : GT} {post : Int → Mem → Prop} (X : Ax l x cX11_onTheWay RX11 4 (rmd 0) 106 G) (hr : RI cX11_onTheWay post G) (v1 : Int) (m : Mem) (h : wp_X11_onTheWay v1 m post) : G 0 [(0, (2, 67)), (1, (0, v1))] [] m := by
  unfold wp_X11_onTheWay at h
  refine g_iconst X dX11_onTheWay_0 (by decide) ?_
  refine g_istore_n (i := 2) (lv' := [(2, (0, 0)), (0, (2, 67)), (1, (0, v1))]) X dX11_onTheWay_1 rfl (by decide) rfl ?_
  refine g_iconst X dX11_onTheWay_2 (by decide) ?_
  refine g_istore_n (i := 3) (lv' := [(3, (0, 0)), (2, (0, 0)), (0, (2, 67)), (1, (0, v1))]) X dX11_onTheWay_3 rfl (by decide) rfl ?_
  obtain ⟨n_3, h⟩ := h
  refine g_sub X [2, 3, 1, 0] rfl (pf_X11_onTheWay_4 X hr  n_3 _ _ _ _ h)
theorem im_X11_onTheWay (l : Launch) (x : WX) (v1 : Int) (m : Mem) (post : Int → Mem → Prop) (h : wp_X11_onTheWay v1 m post) : MetI l x 106 0 yX11_onTheWay cX11_onTheWay 4 .int [(2, 67), (0, v1)] m post := met_I (by decide) (Nat.le_of_ble_eq_true rfl) (fun _ X hr => pf_X11_onTheWay X hr v1 m h)
def wp_X11_trainIs (v1 : Int) (v2 : Int) (m : Mem) (post : Int → Mem → Prop) : Prop :=
  wp_X11_in v1 0 (w32 (m 67 9 - 1)) m (fun r8 m8 => ((¬ r8 = 0 → (wp_X11_in v2 0 2 m8 (fun r20 m20 => ((r20 = 0 → (((¬ v2 = 3 → (post (-102) m20)) ∧
  (v2 = 3 → (wp_X11_onTheWay v1 m20 (fun r46 m46 => post r46 m46)))))) ∧
  (¬ r20 = 0 → ((0 ≤ w32 (w32 (3 * v1) + v2) ∧ w32 (w32 (3 * v1) + v2) < 36) ∧ (post (m20 75 (w32 (w32 (3 * v1) + v2))) m20))))))) ∧
  (r8 = 0 → (post (-101) m8))))
set_option maxRecDepth 100000 in
theorem pf_X11_trainIs {l : Launch} {x : WX} {G : GT} {post : Int → Mem → Prop} (X : Ax l x cX11_trainIs RX11 3 (rmd 1) 106 G) (hr : RI cX11_trainIs post G) (v1 : Int) (v2 : Int) (m : Mem) (h : wp_X11_trainIs v1 v2 m post) : G 0 [(0, (2, 67)), (1, (0, v1)), (2, (0, v2))] [] m := by
  unfold wp_X11_trainIs at h
  refine g_iload_n 1 (i := 1) X dX11_trainIs_0 rfl rfl ?_
  refine g_iconst X dX11_trainIs_1 (by decide) ?_
  refine g_aload_n 0 (i := 0) X dX11_trainIs_2 rfl rfl ?_
  refine g_getI X dX11_trainIs_3 fX11_144 ?_
  refine g_iconst X dX11_trainIs_6 (by decide) ?_
  refine g_isub X dX11_trainIs_7 ?_
  refine g_cSI (st := []) X dX11_trainIs_8 YX11_in lX11_134 (by decide) (im_X11_in l x _ _ _ _ _ h) rfl ⟨by decide, by decide⟩ rfl (Nat.le_of_ble_eq_true rfl) (fun r8 m8 h => ?_)
  refine g_if_ne X dX11_trainIs_11 (tgt := 17) (by decide) (fun hc => ?_) (fun hc => ?_)
  · have h := h.1 hc
    refine g_iload_n 2 (i := 2) X dX11_trainIs_17 rfl rfl ?_
    refine g_iconst X dX11_trainIs_18 (by decide) ?_
    refine g_iconst X dX11_trainIs_19 (by decide) ?_
    refine g_cSI (st := []) X dX11_trainIs_20 YX11_in lX11_134 (by decide) (im_X11_in l x _ _ _ _ _ h) rfl ⟨by decide, by decide⟩ rfl (Nat.le_of_ble_eq_true rfl) (fun r20 m20 h => ?_)
    refine g_if_eq X dX11_trainIs_23 (tgt := 39) (by decide) (fun hc => ?_) (fun hc => ?_)
    · have h := h.1 hc
      refine g_iload_n 2 (i := 2) X dX11_trainIs_39 rfl rfl ?_
      refine g_iconst X dX11_trainIs_40 (by decide) ?_
      refine g_icmp_ne X dX11_trainIs_41 (tgt := 52) (by decide) (fun hc => ?_) (fun hc => ?_)
      · have h := h.1 hc
        refine g_bipush X dX11_trainIs_52 (by decide) ?_
        exact hr _ _ _ _ _ dX11_trainIs_54 h
      · have h := h.2 hc
        refine g_aload_n 0 (i := 0) X dX11_trainIs_44 rfl rfl ?_
        refine g_iload_n 1 (i := 1) X dX11_trainIs_45 rfl rfl ?_
        refine g_cVI (st := []) X dX11_trainIs_46 YX11_onTheWay lX11_244 (by decide) (im_X11_onTheWay l x _ _ _ h) rfl ⟨by decide, by decide⟩ rfl (Nat.le_of_ble_eq_true rfl) (fun r46 m46 h => ?_)
        refine g_goto X dX11_trainIs_49 (tgt := 54) (by decide) ?_
        exact hr _ _ _ _ _ dX11_trainIs_54 h
    · have h := h.2 hc
      refine g_aload_n 0 (i := 0) X dX11_trainIs_26 rfl rfl ?_
      refine g_getR X dX11_trainIs_27 fX11_32 ?_
      refine g_iconst X dX11_trainIs_30 (by decide) ?_
      refine g_iload_n 1 (i := 1) X dX11_trainIs_31 rfl rfl ?_
      refine g_imul X dX11_trainIs_32 ?_
      refine g_iload_n 2 (i := 2) X dX11_trainIs_33 rfl rfl ?_
      refine g_iadd X dX11_trainIs_34 ?_
      obtain ⟨hi, h⟩ := h
      refine g_iald X dX11_trainIs_35 rfl hi ?_
      refine g_goto X dX11_trainIs_36 (tgt := 54) (by decide) ?_
      exact hr _ _ _ _ _ dX11_trainIs_54 h
  · have h := h.2 hc
    refine g_bipush X dX11_trainIs_14 (by decide) ?_
    exact hr _ _ _ _ _ dX11_trainIs_16 h
theorem im_X11_trainIs (l : Launch) (x : WX) (v1 : Int) (v2 : Int) (m : Mem) (post : Int → Mem → Prop) (h : wp_X11_trainIs v1 v2 m post) : MetI l x 106 1 yX11_trainIs cX11_trainIs 3 .int [(2, 67), (0, v1), (0, v2)] m post := met_I (by decide) (Nat.le_of_ble_eq_true rfl) (fun _ X hr => pf_X11_trainIs X hr v1 v2 m h)
def wp_X11_yard_28  (post : Int → Mem → Prop) : Nat → Int → Int → Int → Int → Mem → Prop
  | 0, _, _, _, _, _ => False
  | n + 1, v1, v2, v3, v4, m =>
  ((m 67 13 ≤ v4 → (post v3 m)) ∧
  (¬ m 67 13 ≤ v4 → ((0 ≤ w32 (6 * v4) ∧ w32 (6 * v4) < 180) ∧ (((¬ m 77 (w32 (6 * v4)) = v1 → (∀ v3_81 : Int, v3_81 = w32 (v3 + 0) → (wp_X11_yard_28  post n v1 v2 v3_81 (w32 (v4 + 1)) m))) ∧
  (m 77 (w32 (6 * v4)) = v1 → (((v2 = 0 → (∀ v3_81 : Int, v3_81 = w32 (v3 + 1) → (wp_X11_yard_28  post n v1 v2 v3_81 (w32 (v4 + 1)) m))) ∧
  (¬ v2 = 0 → ((0 ≤ w32 (w32 (6 * v4) + 2) ∧ w32 (w32 (6 * v4) + 2) < 180) ∧ (((m 67 18 < m 77 (w32 (w32 (6 * v4) + 2)) → (∀ v3_81 : Int, v3_81 = w32 (v3 + 0) → (wp_X11_yard_28  post n v1 v2 v3_81 (w32 (v4 + 1)) m))) ∧
  (¬ m 67 18 < m 77 (w32 (w32 (6 * v4) + 2)) → (∀ v3_81 : Int, v3_81 = w32 (v3 + 1) → (wp_X11_yard_28  post n v1 v2 v3_81 (w32 (v4 + 1)) m)))))))))))))))
set_option maxRecDepth 100000 in
theorem pf_X11_yard_28 {l : Launch} {x : WX} {G : GT} {post : Int → Mem → Prop}  (X : Ax l x cX11_yard RX11 5 (rmd 2) 106 G) (hr : RI cX11_yard post G) : ∀ (n : Nat) (v1 : Int) (v2 : Int) (v3 : Int) (v4 : Int) (m : Mem) (_ : wp_X11_yard_28  post n v1 v2 v3 v4 m), G 28 [(0, (2, 67)), (1, (0, v1)), (2, (0, v2)), (3, (0, v3)), (4, (0, v4))] [] m := by
  intro n
  induction n with
  | zero => intro v1 v2 v3 v4 m h; exact absurd h id
  | succ n ih =>
  intro v1 v2 v3 v4 m h
  unfold wp_X11_yard_28 at h
  refine g_iload 4 (i := 4) X dX11_yard_28 rfl ?_
  refine g_aload_n 0 (i := 0) X dX11_yard_30 rfl rfl ?_
  refine g_getI X dX11_yard_31 fX11_147 ?_
  refine g_icmp_ge X dX11_yard_34 (tgt := 88) (by decide) (fun hc => ?_) (fun hc => ?_)
  · have h := h.1 hc
    refine g_iload_n 3 (i := 3) X dX11_yard_88 rfl rfl ?_
    exact hr _ _ _ _ _ dX11_yard_89 h
  · have h := h.2 hc
    refine g_iload_n 3 (i := 3) X dX11_yard_37 rfl rfl ?_
    refine g_aload_n 0 (i := 0) X dX11_yard_38 rfl rfl ?_
    refine g_getR X dX11_yard_39 fX11_38 ?_
    refine g_bipush X dX11_yard_42 (by decide) ?_
    refine g_iload 4 (i := 4) X dX11_yard_44 rfl ?_
    refine g_imul X dX11_yard_46 ?_
    obtain ⟨hi, h⟩ := h
    refine g_iald X dX11_yard_47 rfl hi ?_
    refine g_iload_n 1 (i := 1) X dX11_yard_48 rfl rfl ?_
    refine g_icmp_ne X dX11_yard_49 (tgt := 79) (by decide) (fun hc => ?_) (fun hc => ?_)
    · have h := h.1 hc
      refine g_iconst X dX11_yard_79 (by decide) ?_
      refine g_iadd X dX11_yard_80 ?_
      refine g_nmI (fun v3_81 ev3_81 => ?_)
      have h := h v3_81 ev3_81
      refine g_istore_n (i := 3) (lv' := [(3, (0, v3_81)), (0, (2, 67)), (1, (0, v1)), (2, (0, v2)), (4, (0, v4))]) X dX11_yard_81 rfl (by decide) rfl ?_
      refine g_iinc 4 (lv' := [(4, (0, w32 (v4 + 1))), (3, (0, v3_81)), (0, (2, 67)), (1, (0, v1)), (2, (0, v2))]) X dX11_yard_82 rfl (by decide) rfl ?_
      refine g_goto X dX11_yard_85 (tgt := 28) (by decide) ?_
      exact g_sub X [2, 3, 4, 1, 0] rfl (ih _ _ _ _ _ h)
    · have h := h.2 hc
      refine g_iload_n 2 (i := 2) X dX11_yard_52 rfl rfl ?_
      refine g_if_eq X dX11_yard_53 (tgt := 75) (by decide) (fun hc => ?_) (fun hc => ?_)
      · have h := h.1 hc
        refine g_iconst X dX11_yard_75 (by decide) ?_
        refine g_goto X dX11_yard_76 (tgt := 80) (by decide) ?_
        refine g_iadd X dX11_yard_80 ?_
        refine g_nmI (fun v3_81 ev3_81 => ?_)
        have h := h v3_81 ev3_81
        refine g_istore_n (i := 3) (lv' := [(3, (0, v3_81)), (0, (2, 67)), (1, (0, v1)), (2, (0, v2)), (4, (0, v4))]) X dX11_yard_81 rfl (by decide) rfl ?_
        refine g_iinc 4 (lv' := [(4, (0, w32 (v4 + 1))), (3, (0, v3_81)), (0, (2, 67)), (1, (0, v1)), (2, (0, v2))]) X dX11_yard_82 rfl (by decide) rfl ?_
        refine g_goto X dX11_yard_85 (tgt := 28) (by decide) ?_
        exact g_sub X [2, 3, 4, 1, 0] rfl (ih _ _ _ _ _ h)
      · have h := h.2 hc
        refine g_aload_n 0 (i := 0) X dX11_yard_56 rfl rfl ?_
        refine g_getR X dX11_yard_57 fX11_38 ?_
        refine g_bipush X dX11_yard_60 (by decide) ?_
        refine g_iload 4 (i := 4) X dX11_yard_62 rfl ?_
        refine g_imul X dX11_yard_64 ?_
        refine g_iconst X dX11_yard_65 (by decide) ?_
        refine g_iadd X dX11_yard_66 ?_
        obtain ⟨hi, h⟩ := h
        refine g_iald X dX11_yard_67 rfl hi ?_
        refine g_aload_n 0 (i := 0) X dX11_yard_68 rfl rfl ?_
        refine g_getI X dX11_yard_69 fX11_153 ?_
        refine g_icmp_gt X dX11_yard_72 (tgt := 79) (by decide) (fun hc => ?_) (fun hc => ?_)
        · have h := h.1 hc
          refine g_iconst X dX11_yard_79 (by decide) ?_
          refine g_iadd X dX11_yard_80 ?_
          refine g_nmI (fun v3_81 ev3_81 => ?_)
          have h := h v3_81 ev3_81
          refine g_istore_n (i := 3) (lv' := [(3, (0, v3_81)), (0, (2, 67)), (1, (0, v1)), (2, (0, v2)), (4, (0, v4))]) X dX11_yard_81 rfl (by decide) rfl ?_
          refine g_iinc 4 (lv' := [(4, (0, w32 (v4 + 1))), (3, (0, v3_81)), (0, (2, 67)), (1, (0, v1)), (2, (0, v2))]) X dX11_yard_82 rfl (by decide) rfl ?_
          refine g_goto X dX11_yard_85 (tgt := 28) (by decide) ?_
          exact g_sub X [2, 3, 4, 1, 0] rfl (ih _ _ _ _ _ h)
        · have h := h.2 hc
          refine g_iconst X dX11_yard_75 (by decide) ?_
          refine g_goto X dX11_yard_76 (tgt := 80) (by decide) ?_
          refine g_iadd X dX11_yard_80 ?_
          refine g_nmI (fun v3_81 ev3_81 => ?_)
          have h := h v3_81 ev3_81
          refine g_istore_n (i := 3) (lv' := [(3, (0, v3_81)), (0, (2, 67)), (1, (0, v1)), (2, (0, v2)), (4, (0, v4))]) X dX11_yard_81 rfl (by decide) rfl ?_
          refine g_iinc 4 (lv' := [(4, (0, w32 (v4 + 1))), (3, (0, v3_81)), (0, (2, 67)), (1, (0, v1)), (2, (0, v2))]) X dX11_yard_82 rfl (by decide) rfl ?_
          refine g_goto X dX11_yard_85 (tgt := 28) (by decide) ?_
          exact g_sub X [2, 3, 4, 1, 0] rfl (ih _ _ _ _ _ h)
def wp_X11_yard (v1 : Int) (v2 : Int) (m : Mem) (post : Int → Mem → Prop) : Prop :=
  wp_X11_isYard v1 m (fun r2 m2 => ((¬ r2 = 0 → (wp_X11_in v2 0 1 m2 (fun r14 m14 => ((¬ r14 = 0 → (∃ n_5 : Nat, wp_X11_yard_28  post n_5 v1 v2 0 0 m14)) ∧
  (r14 = 0 → (post (-102) m14)))))) ∧
  (r2 = 0 → (post (-101) m2))))
set_option maxRecDepth 100000 in
theorem pf_X11_yard {l : Launch} {x : WX} {G : GT} {post : Int → Mem → Prop} (X : Ax l x cX11_yard RX11 5 (rmd 2) 106 G) (hr : RI cX11_yard post G) (v1 : Int) (v2 : Int) (m : Mem) (h : wp_X11_yard v1 v2 m post) : G 0 [(0, (2, 67)), (1, (0, v1)), (2, (0, v2))] [] m := by
  unfold wp_X11_yard at h
  refine g_aload_n 0 (i := 0) X dX11_yard_0 rfl rfl ?_
  refine g_iload_n 1 (i := 1) X dX11_yard_1 rfl rfl ?_
  refine g_cVI (st := []) X dX11_yard_2 YX11_isYard lX11_174 (by decide) (im_X11_isYard l x _ _ _ h) rfl ⟨by decide, by decide⟩ rfl (Nat.le_of_ble_eq_true rfl) (fun r2 m2 h => ?_)
  refine g_if_ne X dX11_yard_5 (tgt := 11) (by decide) (fun hc => ?_) (fun hc => ?_)
  · have h := h.1 hc
    refine g_iload_n 2 (i := 2) X dX11_yard_11 rfl rfl ?_
    refine g_iconst X dX11_yard_12 (by decide) ?_
    refine g_iconst X dX11_yard_13 (by decide) ?_
    refine g_cSI (st := []) X dX11_yard_14 YX11_in lX11_134 (by decide) (im_X11_in l x _ _ _ _ _ h) rfl ⟨by decide, by decide⟩ rfl (Nat.le_of_ble_eq_true rfl) (fun r14 m14 h => ?_)
    refine g_if_ne X dX11_yard_17 (tgt := 23) (by decide) (fun hc => ?_) (fun hc => ?_)
    · have h := h.1 hc
      refine g_iconst X dX11_yard_23 (by decide) ?_
      refine g_istore_n (i := 3) (lv' := [(3, (0, 0)), (0, (2, 67)), (1, (0, v1)), (2, (0, v2))]) X dX11_yard_24 rfl (by decide) rfl ?_
      refine g_iconst X dX11_yard_25 (by decide) ?_
      refine g_istore (i := 4) (lv' := [(4, (0, 0)), (3, (0, 0)), (0, (2, 67)), (1, (0, v1)), (2, (0, v2))]) X dX11_yard_26 (by decide) rfl ?_
      obtain ⟨n_5, h⟩ := h
      refine g_sub X [2, 3, 4, 1, 0] rfl (pf_X11_yard_28 X hr  n_5 _ _ _ _ _ h)
    · have h := h.2 hc
      refine g_bipush X dX11_yard_20 (by decide) ?_
      exact hr _ _ _ _ _ dX11_yard_22 h
  · have h := h.2 hc
    refine g_bipush X dX11_yard_8 (by decide) ?_
    exact hr _ _ _ _ _ dX11_yard_10 h
theorem im_X11_yard (l : Launch) (x : WX) (v1 : Int) (v2 : Int) (m : Mem) (post : Int → Mem → Prop) (h : wp_X11_yard v1 v2 m post) : MetI l x 106 2 yX11_yard cX11_yard 5 .int [(2, 67), (0, v1), (0, v2)] m post := met_I (by decide) (Nat.le_of_ble_eq_true rfl) (fun _ X hr => pf_X11_yard X hr v1 v2 m h)
def wp_X11_rest (v1 : Int) (m : Mem) (post : Int → Mem → Prop) : Prop :=
  wp_X11_in v1 0 48 m (fun r4 m4 => ((¬ r4 = 0 → (∀ v2_17 : Int, v2_17 = m4 67 19 → (∀ m20 : Mem, m20 = mset m4 67 19 v1 → (post v2_17 m20)))) ∧
  (r4 = 0 → (post (-102) m4))))
set_option maxRecDepth 100000 in
theorem pf_X11_rest {l : Launch} {x : WX} {G : GT} {post : Int → Mem → Prop} (X : Ax l x cX11_rest RX11 3 (rmd 1) 106 G) (hr : RI cX11_rest post G) (v1 : Int) (m : Mem) (h : wp_X11_rest v1 m post) : G 0 [(0, (2, 67)), (1, (0, v1))] [] m := by
  unfold wp_X11_rest at h
  refine g_iload_n 1 (i := 1) X dX11_rest_0 rfl rfl ?_
  refine g_iconst X dX11_rest_1 (by decide) ?_
  refine g_bipush X dX11_rest_2 (by decide) ?_
  refine g_cSI (st := []) X dX11_rest_4 YX11_in lX11_134 (by decide) (im_X11_in l x _ _ _ _ _ h) rfl ⟨by decide, by decide⟩ rfl (Nat.le_of_ble_eq_true rfl) (fun r4 m4 h => ?_)
  refine g_if_ne X dX11_rest_7 (tgt := 13) (by decide) (fun hc => ?_) (fun hc => ?_)
  · have h := h.1 hc
    refine g_aload_n 0 (i := 0) X dX11_rest_13 rfl rfl ?_
    refine g_getI X dX11_rest_14 fX11_156 ?_
    refine g_nmI (fun v2_17 ev2_17 => ?_)
    have h := h v2_17 ev2_17
    refine g_istore_n (i := 2) (lv' := [(2, (0, v2_17)), (0, (2, 67)), (1, (0, v1))]) X dX11_rest_17 rfl (by decide) rfl ?_
    refine g_aload_n 1 (i := 0) X dX11_rest_18 rfl rfl ?_
    refine g_iload_n 2 (i := 1) X dX11_rest_19 rfl rfl ?_
    refine g_putI X dX11_rest_20 pX11_156 (fun m20 em20 => ?_)
    have h := h m20 em20
    refine g_iload_n 0 (i := 2) X dX11_rest_23 rfl rfl ?_
    exact hr _ _ _ _ _ dX11_rest_24 h
  · have h := h.2 hc
    refine g_bipush X dX11_rest_10 (by decide) ?_
    exact hr _ _ _ _ _ dX11_rest_12 h
theorem im_X11_rest (l : Launch) (x : WX) (v1 : Int) (m : Mem) (post : Int → Mem → Prop) (h : wp_X11_rest v1 m post) : MetI l x 106 1 yX11_rest cX11_rest 3 .int [(2, 67), (0, v1)] m post := met_I (by decide) (Nat.le_of_ble_eq_true rfl) (fun _ X hr => pf_X11_rest X hr v1 m h)
def wp_X11_gatherDuties_19 (K9 : Int → Int → Mem → Prop) (post : Int → Mem → Prop) : Nat → Int → Int → Int → Mem → Prop
  | 0, _, _, _, _ => False
  | n + 1, v1, v2, v3, m =>
  ((7 ≤ v3 → (K9 v1 (w32 (v2 + 1)) m)) ∧
  (¬ 7 ≤ v3 → ((0 ≤ w32 (w32 (6 * v2) + 2) ∧ w32 (w32 (6 * v2) + 2) < 72) ∧ (((¬ and32 (shr32 (m 74 (w32 (w32 (6 * v2) + 2))) v3) 1 = 1 → (wp_X11_gatherDuties_19 K9 post n v1 v2 (w32 (v3 + 1)) m)) ∧
  (and32 (shr32 (m 74 (w32 (w32 (6 * v2) + 2))) v3) 1 = 1 → ((0 ≤ m 67 41 ∧ m 67 41 < 84) ∧ (∀ m53 : Mem, m53 = mset m 89 (m 67 41) v2 → ((0 ≤ w32 (w32 (6 * v2) + 3) ∧ w32 (w32 (6 * v2) + 3) < 72) ∧ ((0 ≤ m53 67 41 ∧ m53 67 41 < 84) ∧ (∀ m78 : Mem, m78 = mset m53 90 (m53 67 41) (w32 (w32 (24 * v3) + m53 74 (w32 (w32 (6 * v2) + 3)))) → ((0 ≤ w32 (w32 (6 * v2) + 4) ∧ w32 (w32 (6 * v2) + 4) < 72) ∧ (∀ v1_92 : Int, v1_92 = w32 (v1 + m78 74 (w32 (w32 (6 * v2) + 4))) → (∀ m100 : Mem, m100 = mset m78 67 41 (w32 (m78 67 41 + 1)) → (wp_X11_gatherDuties_19 K9 post n v1_92 v2 (w32 (v3 + 1)) m100)))))))))))))))
set_option maxRecDepth 100000 in
theorem pf_X11_gatherDuties_19 {l : Launch} {x : WX} {G : GT} {post : Int → Mem → Prop} {K9 : Int → Int → Mem → Prop} (X : Ax l x cX11_gatherDuties RX11 4 (rmd 0) 106 G) (hr : RI cX11_gatherDuties post G) (hK9 : ∀ (v1 : Int) (v2 : Int) (m : Mem), K9 v1 v2 m → G 9 [(0, (2, 67)), (1, (0, v1)), (2, (0, v2))] [] m) : ∀ (n : Nat) (v1 : Int) (v2 : Int) (v3 : Int) (m : Mem) (_ : wp_X11_gatherDuties_19 K9 post n v1 v2 v3 m), G 19 [(0, (2, 67)), (1, (0, v1)), (2, (0, v2)), (3, (0, v3))] [] m := by
  intro n
  induction n with
  | zero => intro v1 v2 v3 m h; exact absurd h id
  | succ n ih =>
  intro v1 v2 v3 m h
  unfold wp_X11_gatherDuties_19 at h
  refine g_iload_n 3 (i := 3) X dX11_gatherDuties_19 rfl rfl ?_
  refine g_bipush X dX11_gatherDuties_20 (by decide) ?_
  refine g_icmp_ge X dX11_gatherDuties_22 (tgt := 109) (by decide) (fun hc => ?_) (fun hc => ?_)
  · have h := h.1 hc
    refine g_iinc 2 (lv' := [(2, (0, w32 (v2 + 1))), (0, (2, 67)), (1, (0, v1)), (3, (0, v3))]) X dX11_gatherDuties_109 rfl (by decide) rfl ?_
    refine g_goto X dX11_gatherDuties_112 (tgt := 9) (by decide) ?_
    exact g_sub X [1, 2, 0] rfl (hK9 _ _ _ h)
  · have h := h.2 hc
    refine g_aload_n 0 (i := 0) X dX11_gatherDuties_25 rfl rfl ?_
    refine g_getR X dX11_gatherDuties_26 fX11_29 ?_
    refine g_bipush X dX11_gatherDuties_29 (by decide) ?_
    refine g_iload_n 2 (i := 2) X dX11_gatherDuties_31 rfl rfl ?_
    refine g_imul X dX11_gatherDuties_32 ?_
    refine g_iconst X dX11_gatherDuties_33 (by decide) ?_
    refine g_iadd X dX11_gatherDuties_34 ?_
    obtain ⟨hi, h⟩ := h
    refine g_iald X dX11_gatherDuties_35 rfl hi ?_
    refine g_iload_n 3 (i := 3) X dX11_gatherDuties_36 rfl rfl ?_
    refine g_ishr X dX11_gatherDuties_37 ?_
    refine g_iconst X dX11_gatherDuties_38 (by decide) ?_
    refine g_iand X dX11_gatherDuties_39 ?_
    refine g_iconst X dX11_gatherDuties_40 (by decide) ?_
    refine g_icmp_ne X dX11_gatherDuties_41 (tgt := 103) (by decide) (fun hc => ?_) (fun hc => ?_)
    · have h := h.1 hc
      refine g_iinc 3 (lv' := [(3, (0, w32 (v3 + 1))), (0, (2, 67)), (1, (0, v1)), (2, (0, v2))]) X dX11_gatherDuties_103 rfl (by decide) rfl ?_
      refine g_goto X dX11_gatherDuties_106 (tgt := 19) (by decide) ?_
      exact g_sub X [1, 2, 3, 0] rfl (ih _ _ _ _ h)
    · have h := h.2 hc
      refine g_aload_n 0 (i := 0) X dX11_gatherDuties_44 rfl rfl ?_
      refine g_getR X dX11_gatherDuties_45 fX11_74 ?_
      refine g_aload_n 0 (i := 0) X dX11_gatherDuties_48 rfl rfl ?_
      refine g_getI X dX11_gatherDuties_49 fX11_247 ?_
      refine g_iload_n 2 (i := 2) X dX11_gatherDuties_52 rfl rfl ?_
      obtain ⟨hi, h⟩ := h
      refine g_iast X dX11_gatherDuties_53 rfl hi (fun m53 em53 => ?_)
      have h := h m53 em53
      refine g_aload_n 0 (i := 0) X dX11_gatherDuties_54 rfl rfl ?_
      refine g_getR X dX11_gatherDuties_55 fX11_77 ?_
      refine g_aload_n 0 (i := 0) X dX11_gatherDuties_58 rfl rfl ?_
      refine g_getI X dX11_gatherDuties_59 fX11_247 ?_
      refine g_bipush X dX11_gatherDuties_62 (by decide) ?_
      refine g_iload_n 3 (i := 3) X dX11_gatherDuties_64 rfl rfl ?_
      refine g_imul X dX11_gatherDuties_65 ?_
      refine g_aload_n 0 (i := 0) X dX11_gatherDuties_66 rfl rfl ?_
      refine g_getR X dX11_gatherDuties_67 fX11_29 ?_
      refine g_bipush X dX11_gatherDuties_70 (by decide) ?_
      refine g_iload_n 2 (i := 2) X dX11_gatherDuties_72 rfl rfl ?_
      refine g_imul X dX11_gatherDuties_73 ?_
      refine g_iconst X dX11_gatherDuties_74 (by decide) ?_
      refine g_iadd X dX11_gatherDuties_75 ?_
      obtain ⟨hi, h⟩ := h
      refine g_iald X dX11_gatherDuties_76 rfl hi ?_
      refine g_iadd X dX11_gatherDuties_77 ?_
      obtain ⟨hi, h⟩ := h
      refine g_iast X dX11_gatherDuties_78 rfl hi (fun m78 em78 => ?_)
      have h := h m78 em78
      refine g_iload_n 1 (i := 1) X dX11_gatherDuties_79 rfl rfl ?_
      refine g_aload_n 0 (i := 0) X dX11_gatherDuties_80 rfl rfl ?_
      refine g_getR X dX11_gatherDuties_81 fX11_29 ?_
      refine g_bipush X dX11_gatherDuties_84 (by decide) ?_
      refine g_iload_n 2 (i := 2) X dX11_gatherDuties_86 rfl rfl ?_
      refine g_imul X dX11_gatherDuties_87 ?_
      refine g_iconst X dX11_gatherDuties_88 (by decide) ?_
      refine g_iadd X dX11_gatherDuties_89 ?_
      obtain ⟨hi, h⟩ := h
      refine g_iald X dX11_gatherDuties_90 rfl hi ?_
      refine g_iadd X dX11_gatherDuties_91 ?_
      refine g_nmI (fun v1_92 ev1_92 => ?_)
      have h := h v1_92 ev1_92
      refine g_istore_n (i := 1) (lv' := [(1, (0, v1_92)), (0, (2, 67)), (2, (0, v2)), (3, (0, v3))]) X dX11_gatherDuties_92 rfl (by decide) rfl ?_
      refine g_aload_n 1 (i := 0) X dX11_gatherDuties_93 rfl rfl ?_
      refine g_dup X dX11_gatherDuties_94 rfl ?_
      refine g_getI X dX11_gatherDuties_95 fX11_247 ?_
      refine g_iconst X dX11_gatherDuties_98 (by decide) ?_
      refine g_iadd X dX11_gatherDuties_99 ?_
      refine g_putI X dX11_gatherDuties_100 pX11_247 (fun m100 em100 => ?_)
      have h := h m100 em100
      refine g_iinc 3 (lv' := [(3, (0, w32 (v3 + 1))), (1, (0, v1_92)), (0, (2, 67)), (2, (0, v2))]) X dX11_gatherDuties_103 rfl (by decide) rfl ?_
      refine g_goto X dX11_gatherDuties_106 (tgt := 19) (by decide) ?_
      exact g_sub X [2, 1, 3, 0] rfl (ih _ _ _ _ h)
def wp_X11_gatherDuties_9  (post : Int → Mem → Prop) : Nat → Int → Int → Mem → Prop
  | 0, _, _, _ => False
  | n + 1, v1, v2, m =>
  ((m 67 9 ≤ v2 → (post v1 m)) ∧
  (¬ m 67 9 ≤ v2 → (∃ n_3 : Nat, wp_X11_gatherDuties_19 (fun v1_2 v2_2 m_2 => wp_X11_gatherDuties_9  post n v1_2 v2_2 m_2) post n_3 v1 v2 0 m)))
set_option maxRecDepth 100000 in
theorem pf_X11_gatherDuties_9 {l : Launch} {x : WX} {G : GT} {post : Int → Mem → Prop}  (X : Ax l x cX11_gatherDuties RX11 4 (rmd 0) 106 G) (hr : RI cX11_gatherDuties post G) : ∀ (n : Nat) (v1 : Int) (v2 : Int) (m : Mem) (_ : wp_X11_gatherDuties_9  post n v1 v2 m), G 9 [(0, (2, 67)), (1, (0, v1)), (2, (0, v2))] [] m := by
  intro n
  induction n with
  | zero => intro v1 v2 m h; exact absurd h id
  | succ n ih =>
  intro v1 v2 m h
  unfold wp_X11_gatherDuties_9 at h
  refine g_iload_n 2 (i := 2) X dX11_gatherDuties_9 rfl rfl ?_
  refine g_aload_n 0 (i := 0) X dX11_gatherDuties_10 rfl rfl ?_
  refine g_getI X dX11_gatherDuties_11 fX11_144 ?_
  refine g_icmp_ge X dX11_gatherDuties_14 (tgt := 115) (by decide) (fun hc => ?_) (fun hc => ?_)
  · have h := h.1 hc
    refine g_iload_n 1 (i := 1) X dX11_gatherDuties_115 rfl rfl ?_
    exact hr _ _ _ _ _ dX11_gatherDuties_116 h
  · have h := h.2 hc
    refine g_iconst X dX11_gatherDuties_17 (by decide) ?_
    refine g_istore_n (i := 3) (lv' := [(3, (0, 0)), (0, (2, 67)), (1, (0, v1)), (2, (0, v2))]) X dX11_gatherDuties_18 rfl (by decide) rfl ?_
    obtain ⟨n_3, h⟩ := h
    refine g_sub X [1, 2, 3, 0] rfl (pf_X11_gatherDuties_19 X hr (fun v1_2 v2_2 m_2 h => ?_) n_3 _ _ _ _ h)
    · exact g_sub X [0, 1, 2] rfl (ih _ _ _ h)
def wp_X11_gatherDuties  (m : Mem) (post : Int → Mem → Prop) : Prop :=
  ∀ m2 : Mem, m2 = mset m 67 41 0 → (∃ n_4 : Nat, wp_X11_gatherDuties_9  post n_4 0 0 m2)
set_option maxRecDepth 100000 in
theorem pf_X11_gatherDuties {l : Launch} {x : WX} {G : GT} {post : Int → Mem → Prop} (X : Ax l x cX11_gatherDuties RX11 4 (rmd 0) 106 G) (hr : RI cX11_gatherDuties post G)  (m : Mem) (h : wp_X11_gatherDuties  m post) : G 0 [(0, (2, 67))] [] m := by
  unfold wp_X11_gatherDuties at h
  refine g_aload_n 0 (i := 0) X dX11_gatherDuties_0 rfl rfl ?_
  refine g_iconst X dX11_gatherDuties_1 (by decide) ?_
  refine g_putI X dX11_gatherDuties_2 pX11_247 (fun m2 em2 => ?_)
  have h := h m2 em2
  refine g_iconst X dX11_gatherDuties_5 (by decide) ?_
  refine g_istore_n (i := 1) (lv' := [(1, (0, 0)), (0, (2, 67))]) X dX11_gatherDuties_6 rfl (by decide) rfl ?_
  refine g_iconst X dX11_gatherDuties_7 (by decide) ?_
  refine g_istore_n (i := 2) (lv' := [(2, (0, 0)), (1, (0, 0)), (0, (2, 67))]) X dX11_gatherDuties_8 rfl (by decide) rfl ?_
  obtain ⟨n_4, h⟩ := h
  refine g_sub X [2, 1, 0] rfl (pf_X11_gatherDuties_9 X hr  n_4 _ _ _ h)
theorem im_X11_gatherDuties (l : Launch) (x : WX)  (m : Mem) (post : Int → Mem → Prop) (h : wp_X11_gatherDuties  m post) : MetI l x 106 0 yX11_gatherDuties cX11_gatherDuties 4 .int [(2, 67)] m post := met_I (by decide) (Nat.le_of_ble_eq_true rfl) (fun _ X hr => pf_X11_gatherDuties X hr  m h)
def wp_X11_mayFollow_48 (v1 : Int) (v2 : Int) (v3 : Int) (s0 : Int) (m : Mem)  (post : Int → Mem → Prop) : Prop :=
  ((s0 = 0 → (post 0 m)) ∧
  (¬ s0 = 0 → ((0 ≤ v2 ∧ v2 < 84) ∧ ((0 ≤ v1 ∧ v1 < 84) ∧ ((0 ≤ w32 (w32 (6 * v3) + 4) ∧ w32 (w32 (6 * v3) + 4) < 72) ∧ (((m 90 v2 < w32 (w32 (m 90 v1 + m 74 (w32 (w32 (6 * v3) + 4))) + m 67 19) → (post 0 m)) ∧
  (¬ m 90 v2 < w32 (w32 (m 90 v1 + m 74 (w32 (w32 (6 * v3) + 4))) + m 67 19) → (post 1 m)))))))))
set_option maxRecDepth 100000 in
theorem pf_X11_mayFollow_48 {l : Launch} {x : WX} {G : GT} {post : Int → Mem → Prop}  (X : Ax l x cX11_mayFollow RX11 5 (rmd 0) 106 G) (hr : RZ cX11_mayFollow post G) (v1 : Int) (v2 : Int) (v3 : Int) (s0 : Int) (m : Mem) (h : wp_X11_mayFollow_48 v1 v2 v3 s0 m  post) : G 48 [(0, (2, 67)), (1, (0, v1)), (2, (0, v2)), (3, (0, v3))] [(0, s0)] m := by
  unfold wp_X11_mayFollow_48 at h
  refine g_istore (i := 4) (lv' := [(4, (0, s0)), (0, (2, 67)), (1, (0, v1)), (2, (0, v2)), (3, (0, v3))]) X dX11_mayFollow_48 (by decide) rfl ?_
  refine g_iload 0 (i := 4) X dX11_mayFollow_50 rfl ?_
  refine g_if_eq X dX11_mayFollow_52 (tgt := 91) (by decide) (fun hc => ?_) (fun hc => ?_)
  · have h := h.1 hc
    refine g_iconst X dX11_mayFollow_91 (by decide) ?_
    exact hr _ _ _ _ _ dX11_mayFollow_92 ⟨by decide, h⟩
  · have h := h.2 hc
    refine g_aload_n 1 (i := 0) X dX11_mayFollow_55 rfl rfl ?_
    refine g_getR X dX11_mayFollow_56 fX11_77 ?_
    refine g_iload_n 3 (i := 2) X dX11_mayFollow_59 rfl rfl ?_
    obtain ⟨hi, h⟩ := h
    refine g_iald X dX11_mayFollow_60 rfl hi ?_
    refine g_aload_n 1 (i := 0) X dX11_mayFollow_61 rfl rfl ?_
    refine g_getR X dX11_mayFollow_62 fX11_77 ?_
    refine g_iload_n 2 (i := 1) X dX11_mayFollow_65 rfl rfl ?_
    obtain ⟨hi, h⟩ := h
    refine g_iald X dX11_mayFollow_66 rfl hi ?_
    refine g_aload_n 1 (i := 0) X dX11_mayFollow_67 rfl rfl ?_
    refine g_getR X dX11_mayFollow_68 fX11_29 ?_
    refine g_bipush X dX11_mayFollow_71 (by decide) ?_
    refine g_iload_n 4 (i := 3) X dX11_mayFollow_73 rfl rfl ?_
    refine g_imul X dX11_mayFollow_74 ?_
    refine g_iconst X dX11_mayFollow_75 (by decide) ?_
    refine g_iadd X dX11_mayFollow_76 ?_
    obtain ⟨hi, h⟩ := h
    refine g_iald X dX11_mayFollow_77 rfl hi ?_
    refine g_iadd X dX11_mayFollow_78 ?_
    refine g_aload_n 1 (i := 0) X dX11_mayFollow_79 rfl rfl ?_
    refine g_getI X dX11_mayFollow_80 fX11_156 ?_
    refine g_iadd X dX11_mayFollow_83 ?_
    refine g_icmp_lt X dX11_mayFollow_84 (tgt := 91) (by decide) (fun hc => ?_) (fun hc => ?_)
    · have h := h.1 hc
      refine g_iconst X dX11_mayFollow_91 (by decide) ?_
      exact hr _ _ _ _ _ dX11_mayFollow_92 ⟨by decide, h⟩
    · have h := h.2 hc
      refine g_iconst X dX11_mayFollow_87 (by decide) ?_
      refine g_goto X dX11_mayFollow_88 (tgt := 92) (by decide) ?_
      exact hr _ _ _ _ _ dX11_mayFollow_92 ⟨by decide, h⟩
def wp_X11_mayFollow (v1 : Int) (v2 : Int) (m : Mem) (post : Int → Mem → Prop) : Prop :=
  (0 ≤ v1 ∧ v1 < 84) ∧ (∀ v3_6 : Int, v3_6 = m 89 v1 → ((0 ≤ w32 (6 * v3_6) ∧ w32 (6 * v3_6) < 72) ∧ ((0 ≤ m 74 (w32 (6 * v3_6)) ∧ m 74 (w32 (6 * v3_6)) < 20) ∧ ((0 ≤ v2 ∧ v2 < 84) ∧ ((0 ≤ w32 (6 * m 89 v2) ∧ w32 (6 * m 89 v2) < 72) ∧ ((0 ≤ m 74 (w32 (6 * m 89 v2)) ∧ m 74 (w32 (6 * m 89 v2)) < 20) ∧ (((¬ m 71 (m 74 (w32 (6 * v3_6))) = m 70 (m 74 (w32 (6 * m 89 v2))) → (wp_X11_mayFollow_48 v1 v2 v3_6 0 m  post)) ∧
  (m 71 (m 74 (w32 (6 * v3_6))) = m 70 (m 74 (w32 (6 * m 89 v2))) → (wp_X11_mayFollow_48 v1 v2 v3_6 1 m  post))))))))))
set_option maxRecDepth 100000 in
theorem pf_X11_mayFollow {l : Launch} {x : WX} {G : GT} {post : Int → Mem → Prop} (X : Ax l x cX11_mayFollow RX11 5 (rmd 0) 106 G) (hr : RZ cX11_mayFollow post G) (v1 : Int) (v2 : Int) (m : Mem) (h : wp_X11_mayFollow v1 v2 m post) : G 0 [(0, (2, 67)), (1, (0, v1)), (2, (0, v2))] [] m := by
  unfold wp_X11_mayFollow at h
  refine g_aload_n 0 (i := 0) X dX11_mayFollow_0 rfl rfl ?_
  refine g_getR X dX11_mayFollow_1 fX11_74 ?_
  refine g_iload_n 1 (i := 1) X dX11_mayFollow_4 rfl rfl ?_
  obtain ⟨hi, h⟩ := h
  refine g_iald X dX11_mayFollow_5 rfl hi ?_
  refine g_nmI (fun v3_6 ev3_6 => ?_)
  have h := h v3_6 ev3_6
  refine g_istore_n (i := 3) (lv' := [(3, (0, v3_6)), (0, (2, 67)), (1, (0, v1)), (2, (0, v2))]) X dX11_mayFollow_6 rfl (by decide) rfl ?_
  refine g_aload_n 1 (i := 0) X dX11_mayFollow_7 rfl rfl ?_
  refine g_getR X dX11_mayFollow_8 fX11_20 ?_
  refine g_aload_n 1 (i := 0) X dX11_mayFollow_11 rfl rfl ?_
  refine g_getR X dX11_mayFollow_12 fX11_29 ?_
  refine g_bipush X dX11_mayFollow_15 (by decide) ?_
  refine g_iload_n 0 (i := 3) X dX11_mayFollow_17 rfl rfl ?_
  refine g_imul X dX11_mayFollow_18 ?_
  obtain ⟨hi, h⟩ := h
  refine g_iald X dX11_mayFollow_19 rfl hi ?_
  obtain ⟨hi, h⟩ := h
  refine g_iald X dX11_mayFollow_20 rfl hi ?_
  refine g_aload_n 1 (i := 0) X dX11_mayFollow_21 rfl rfl ?_
  refine g_getR X dX11_mayFollow_22 fX11_17 ?_
  refine g_aload_n 1 (i := 0) X dX11_mayFollow_25 rfl rfl ?_
  refine g_getR X dX11_mayFollow_26 fX11_29 ?_
  refine g_bipush X dX11_mayFollow_29 (by decide) ?_
  refine g_aload_n 1 (i := 0) X dX11_mayFollow_31 rfl rfl ?_
  refine g_getR X dX11_mayFollow_32 fX11_74 ?_
  refine g_iload_n 3 (i := 2) X dX11_mayFollow_35 rfl rfl ?_
  obtain ⟨hi, h⟩ := h
  refine g_iald X dX11_mayFollow_36 rfl hi ?_
  refine g_imul X dX11_mayFollow_37 ?_
  obtain ⟨hi, h⟩ := h
  refine g_iald X dX11_mayFollow_38 rfl hi ?_
  obtain ⟨hi, h⟩ := h
  refine g_iald X dX11_mayFollow_39 rfl hi ?_
  refine g_icmp_ne X dX11_mayFollow_40 (tgt := 47) (by decide) (fun hc => ?_) (fun hc => ?_)
  · have h := h.1 hc
    refine g_iconst X dX11_mayFollow_47 (by decide) ?_
    refine g_sub X [1, 2, 3, 0] rfl (pf_X11_mayFollow_48 X hr  _ _ _ _ _ h)
  · have h := h.2 hc
    refine g_iconst X dX11_mayFollow_43 (by decide) ?_
    refine g_goto X dX11_mayFollow_44 (tgt := 48) (by decide) ?_
    refine g_sub X [1, 2, 3, 0] rfl (pf_X11_mayFollow_48 X hr  _ _ _ _ _ h)
theorem im_X11_mayFollow (l : Launch) (x : WX) (v1 : Int) (v2 : Int) (m : Mem) (post : Int → Mem → Prop) (h : wp_X11_mayFollow v1 v2 m post) : MetI l x 106 0 yX11_mayFollow cX11_mayFollow 5 .boolean [(2, 67), (0, v1), (0, v2)] m post := met_Z (by decide) (Nat.le_of_ble_eq_true rfl) (fun _ X hr => pf_X11_mayFollow X hr v1 v2 m h)
def wp_X11_turnBack_2  (post : Mem → Prop) : Nat → Int → Mem → Prop
  | 0, _, _ => False
  | n + 1, v2, m =>
  ((v2 = (-1) → (post m)) ∧
  (¬ v2 = (-1) → ((0 ≤ v2 ∧ v2 < 84) ∧ (∀ v3_13 : Int, v3_13 = m 93 v2 → ((0 ≤ v3_13 ∧ v3_13 < 84) ∧ (∀ v4_20 : Int, v4_20 = m 91 v3_13 → ((0 ≤ v3_13 ∧ v3_13 < 84) ∧ (∀ m28 : Mem, m28 = mset m 91 v3_13 v2 → ((0 ≤ v2 ∧ v2 < 84) ∧ (∀ m35 : Mem, m35 = mset m28 92 v2 v3_13 → (wp_X11_turnBack_2  post n v4_20 m35)))))))))))
set_option maxRecDepth 100000 in
theorem pf_X11_turnBack_2 {l : Launch} {x : WX} {G : GT} {post : Mem → Prop}  (X : Ax l x cX11_turnBack RX11 5 (rmd 0) 106 G) (hr : RV cX11_turnBack post G) : ∀ (n : Nat) (v2 : Int) (m : Mem) (_ : wp_X11_turnBack_2  post n v2 m), G 2 [(0, (2, 67)), (2, (0, v2))] [] m := by
  intro n
  induction n with
  | zero => intro v2 m h; exact absurd h id
  | succ n ih =>
  intro v2 m h
  unfold wp_X11_turnBack_2 at h
  refine g_iload_n 1 (i := 2) X dX11_turnBack_2 rfl rfl ?_
  refine g_iconst X dX11_turnBack_3 (by decide) ?_
  refine g_icmp_eq X dX11_turnBack_4 (tgt := 42) (by decide) (fun hc => ?_) (fun hc => ?_)
  · have h := h.1 hc
    exact hr _ _ _ _ dX11_turnBack_42 h
  · have h := h.2 hc
    refine g_aload_n 0 (i := 0) X dX11_turnBack_7 rfl rfl ?_
    refine g_getR X dX11_turnBack_8 fX11_86 ?_
    refine g_iload_n 1 (i := 2) X dX11_turnBack_11 rfl rfl ?_
    obtain ⟨hi, h⟩ := h
    refine g_iald X dX11_turnBack_12 rfl hi ?_
    refine g_nmI (fun v3_13 ev3_13 => ?_)
    have h := h v3_13 ev3_13
    refine g_istore_n (i := 3) (lv' := [(3, (0, v3_13)), (0, (2, 67)), (2, (0, v2))]) X dX11_turnBack_13 rfl (by decide) rfl ?_
    refine g_aload_n 1 (i := 0) X dX11_turnBack_14 rfl rfl ?_
    refine g_getR X dX11_turnBack_15 fX11_80 ?_
    refine g_iload_n 0 (i := 3) X dX11_turnBack_18 rfl rfl ?_
    obtain ⟨hi, h⟩ := h
    refine g_iald X dX11_turnBack_19 rfl hi ?_
    refine g_nmI (fun v4_20 ev4_20 => ?_)
    have h := h v4_20 ev4_20
    refine g_istore (i := 4) (lv' := [(4, (0, v4_20)), (3, (0, v3_13)), (0, (2, 67)), (2, (0, v2))]) X dX11_turnBack_20 (by decide) rfl ?_
    refine g_aload_n 2 (i := 0) X dX11_turnBack_22 rfl rfl ?_
    refine g_getR X dX11_turnBack_23 fX11_80 ?_
    refine g_iload_n 1 (i := 3) X dX11_turnBack_26 rfl rfl ?_
    refine g_iload_n 3 (i := 2) X dX11_turnBack_27 rfl rfl ?_
    obtain ⟨hi, h⟩ := h
    refine g_iast X dX11_turnBack_28 rfl hi (fun m28 em28 => ?_)
    have h := h m28 em28
    refine g_aload_n 2 (i := 0) X dX11_turnBack_29 rfl rfl ?_
    refine g_getR X dX11_turnBack_30 fX11_83 ?_
    refine g_iload_n 3 (i := 2) X dX11_turnBack_33 rfl rfl ?_
    refine g_iload_n 1 (i := 3) X dX11_turnBack_34 rfl rfl ?_
    obtain ⟨hi, h⟩ := h
    refine g_iast X dX11_turnBack_35 rfl hi (fun m35 em35 => ?_)
    have h := h m35 em35
    refine g_iload 0 (i := 4) X dX11_turnBack_36 rfl ?_
    refine g_istore_n (i := 2) (lv' := [(2, (0, v4_20)), (4, (0, v4_20)), (3, (0, v3_13)), (0, (2, 67))]) X dX11_turnBack_38 rfl (by decide) rfl ?_
    refine g_goto X dX11_turnBack_39 (tgt := 2) (by decide) ?_
    exact g_sub X [3, 0] rfl (ih _ _ h)
def wp_X11_turnBack (v1 : Int) (m : Mem) (post : Mem → Prop) : Prop :=
  ∃ n_3 : Nat, wp_X11_turnBack_2  post n_3 v1 m
set_option maxRecDepth 100000 in
theorem pf_X11_turnBack {l : Launch} {x : WX} {G : GT} {post : Mem → Prop} (X : Ax l x cX11_turnBack RX11 5 (rmd 0) 106 G) (hr : RV cX11_turnBack post G) (v1 : Int) (m : Mem) (h : wp_X11_turnBack v1 m post) : G 0 [(0, (2, 67)), (1, (0, v1))] [] m := by
  unfold wp_X11_turnBack at h
  refine g_iload_n 1 (i := 1) X dX11_turnBack_0 rfl rfl ?_
  refine g_istore_n (i := 2) (lv' := [(2, (0, v1)), (0, (2, 67)), (1, (0, v1))]) X dX11_turnBack_1 rfl (by decide) rfl ?_
  obtain ⟨n_3, h⟩ := h
  refine g_sub X [1, 0] rfl (pf_X11_turnBack_2 X hr  n_3 _ _ h)
theorem im_X11_turnBack (l : Launch) (x : WX) (v1 : Int) (m : Mem) (post : Mem → Prop) (h : wp_X11_turnBack v1 m post) : MetV l x 106 0 yX11_turnBack cX11_turnBack 5 [(2, 67), (0, v1)] m post := met_V (by decide) (Nat.le_of_ble_eq_true rfl) (fun _ X hr => pf_X11_turnBack X hr v1 m h)
def wp_X11_join_2 (K23 : Int → Mem → Prop) (post : Int → Mem → Prop) : Nat → Int → Int → Mem → Prop
  | 0, _, _, _ => False
  | n + 1, v1, v2, m =>
  ((m 67 41 ≤ v2 → (K23 v1 m)) ∧
  (¬ m 67 41 ≤ v2 → ((0 ≤ v2 ∧ v2 < 84) ∧ (∀ m16 : Mem, m16 = mset m 93 v2 (-1) → (wp_X11_join_2 K23 post n v1 (w32 (v2 + 1)) m16)))))
set_option maxRecDepth 100000 in
theorem pf_X11_join_2 {l : Launch} {x : WX} {G : GT} {post : Int → Mem → Prop} {K23 : Int → Mem → Prop} (X : Ax l x cX11_join RX11 5 (rmd 1) 106 G) (hr : RZ cX11_join post G) (hK23 : ∀ (v1 : Int) (m : Mem), K23 v1 m → G 23 [(0, (2, 67)), (1, (0, v1))] [] m) : ∀ (n : Nat) (v1 : Int) (v2 : Int) (m : Mem) (_ : wp_X11_join_2 K23 post n v1 v2 m), G 2 [(0, (2, 67)), (1, (0, v1)), (2, (0, v2))] [] m := by
  intro n
  induction n with
  | zero => intro v1 v2 m h; exact absurd h id
  | succ n ih =>
  intro v1 v2 m h
  unfold wp_X11_join_2 at h
  refine g_iload_n 2 (i := 2) X dX11_join_2 rfl rfl ?_
  refine g_aload_n 0 (i := 0) X dX11_join_3 rfl rfl ?_
  refine g_getI X dX11_join_4 fX11_247 ?_
  refine g_icmp_ge X dX11_join_7 (tgt := 23) (by decide) (fun hc => ?_) (fun hc => ?_)
  · have h := h.1 hc
    exact g_sub X [0, 1] rfl (hK23 _ _ h)
  · have h := h.2 hc
    refine g_aload_n 0 (i := 0) X dX11_join_10 rfl rfl ?_
    refine g_getR X dX11_join_11 fX11_86 ?_
    refine g_iload_n 2 (i := 2) X dX11_join_14 rfl rfl ?_
    refine g_iconst X dX11_join_15 (by decide) ?_
    obtain ⟨hi, h⟩ := h
    refine g_iast X dX11_join_16 rfl hi (fun m16 em16 => ?_)
    have h := h m16 em16
    refine g_iinc 2 (lv' := [(2, (0, w32 (v2 + 1))), (0, (2, 67)), (1, (0, v1))]) X dX11_join_17 rfl (by decide) rfl ?_
    refine g_goto X dX11_join_20 (tgt := 2) (by decide) ?_
    exact g_sub X [1, 2, 0] rfl (ih _ _ _ h)
def wp_X11_join_42 (K34 : Int → Int → Mem → Prop) (post : Int → Mem → Prop) : Nat → Int → Int → Int → Mem → Prop
  | 0, _, _, _, _ => False
  | n + 1, v2, v3, v4, m =>
  ((m 67 41 ≤ v4 → (K34 v2 (w32 (v3 + 1)) m)) ∧
  (¬ m 67 41 ≤ v4 → ((0 ≤ v4 ∧ v4 < 84) ∧ (((¬ m 93 v4 = (-1) → (wp_X11_join_42 K34 post n v2 v3 (w32 (v4 + 1)) m)) ∧
  (m 93 v4 = (-1) → ((0 ≤ v3 ∧ v3 < 84) ∧ (wp_X11_mayFollow (m 94 v3) v4 m (fun r71 m71 => ((r71 = 0 → (wp_X11_join_42 K34 post n v2 v3 (w32 (v4 + 1)) m71)) ∧
  (¬ r71 = 0 → ((0 ≤ v3 ∧ v3 < 84) ∧ ((0 ≤ v4 ∧ v4 < 84) ∧ (∀ m89 : Mem, m89 = mset m71 93 v4 (m71 94 v3) → ((0 ≤ v4 ∧ v4 < 84) ∧ (((¬ m89 92 v4 = (-1) → ((0 ≤ v4 ∧ v4 < 84) ∧ ((0 ≤ v2 ∧ v2 < 84) ∧ (∀ m121 : Mem, m121 = mset m89 94 v2 (m89 92 v4) → (wp_X11_join_42 K34 post n (w32 (v2 + 1)) v3 (w32 (v4 + 1)) m121))))) ∧
  (m89 92 v4 = (-1) → (wp_X11_turnBack v4 m89 (fun m104 => post 1 m104))))))))))))))))))))
set_option maxRecDepth 100000 in
theorem pf_X11_join_42 {l : Launch} {x : WX} {G : GT} {post : Int → Mem → Prop} {K34 : Int → Int → Mem → Prop} (X : Ax l x cX11_join RX11 5 (rmd 1) 106 G) (hr : RZ cX11_join post G) (hK34 : ∀ (v2 : Int) (v3 : Int) (m : Mem), K34 v2 v3 m → G 34 [(0, (2, 67)), (2, (0, v2)), (3, (0, v3))] [] m) : ∀ (n : Nat) (v2 : Int) (v3 : Int) (v4 : Int) (m : Mem) (_ : wp_X11_join_42 K34 post n v2 v3 v4 m), G 42 [(0, (2, 67)), (2, (0, v2)), (3, (0, v3)), (4, (0, v4))] [] m := by
  intro n
  induction n with
  | zero => intro v2 v3 v4 m h; exact absurd h id
  | succ n ih =>
  intro v2 v3 v4 m h
  unfold wp_X11_join_42 at h
  refine g_iload 3 (i := 4) X dX11_join_42 rfl ?_
  refine g_aload_n 0 (i := 0) X dX11_join_44 rfl rfl ?_
  refine g_getI X dX11_join_45 fX11_247 ?_
  refine g_icmp_ge X dX11_join_48 (tgt := 131) (by decide) (fun hc => ?_) (fun hc => ?_)
  · have h := h.1 hc
    refine g_iinc 2 (lv' := [(3, (0, w32 (v3 + 1))), (0, (2, 67)), (2, (0, v2)), (4, (0, v4))]) X dX11_join_131 rfl (by decide) rfl ?_
    refine g_goto X dX11_join_134 (tgt := 34) (by decide) ?_
    exact g_sub X [1, 2, 0] rfl (hK34 _ _ _ h)
  · have h := h.2 hc
    refine g_aload_n 0 (i := 0) X dX11_join_51 rfl rfl ?_
    refine g_getR X dX11_join_52 fX11_86 ?_
    refine g_iload 3 (i := 4) X dX11_join_55 rfl ?_
    obtain ⟨hi, h⟩ := h
    refine g_iald X dX11_join_57 rfl hi ?_
    refine g_iconst X dX11_join_58 (by decide) ?_
    refine g_icmp_ne X dX11_join_59 (tgt := 125) (by decide) (fun hc => ?_) (fun hc => ?_)
    · have h := h.1 hc
      refine g_iinc 3 (lv' := [(4, (0, w32 (v4 + 1))), (0, (2, 67)), (2, (0, v2)), (3, (0, v3))]) X dX11_join_125 rfl (by decide) rfl ?_
      refine g_goto X dX11_join_128 (tgt := 42) (by decide) ?_
      exact g_sub X [1, 2, 3, 0] rfl (ih _ _ _ _ h)
    · have h := h.2 hc
      refine g_aload_n 0 (i := 0) X dX11_join_62 rfl rfl ?_
      refine g_aload_n 0 (i := 0) X dX11_join_63 rfl rfl ?_
      refine g_getR X dX11_join_64 fX11_89 ?_
      refine g_iload_n 2 (i := 3) X dX11_join_67 rfl rfl ?_
      obtain ⟨hi, h⟩ := h
      refine g_iald X dX11_join_68 rfl hi ?_
      refine g_iload 3 (i := 4) X dX11_join_69 rfl ?_
      refine g_cVI (st := []) X dX11_join_71 YX11_mayFollow lX11_250 (by decide) (im_X11_mayFollow l x _ _ _ _ h) rfl ⟨by decide, by decide⟩ rfl (Nat.le_of_ble_eq_true rfl) (fun r71 m71 h => ?_)
      refine g_if_eq X dX11_join_74 (tgt := 125) (by decide) (fun hc => ?_) (fun hc => ?_)
      · have h := h.1 hc
        refine g_iinc 3 (lv' := [(4, (0, w32 (v4 + 1))), (0, (2, 67)), (2, (0, v2)), (3, (0, v3))]) X dX11_join_125 rfl (by decide) rfl ?_
        refine g_goto X dX11_join_128 (tgt := 42) (by decide) ?_
        exact g_sub X [1, 2, 3, 0] rfl (ih _ _ _ _ h)
      · have h := h.2 hc
        refine g_aload_n 0 (i := 0) X dX11_join_77 rfl rfl ?_
        refine g_getR X dX11_join_78 fX11_86 ?_
        refine g_iload 3 (i := 4) X dX11_join_81 rfl ?_
        refine g_aload_n 0 (i := 0) X dX11_join_83 rfl rfl ?_
        refine g_getR X dX11_join_84 fX11_89 ?_
        refine g_iload_n 2 (i := 3) X dX11_join_87 rfl rfl ?_
        obtain ⟨hi, h⟩ := h
        refine g_iald X dX11_join_88 rfl hi ?_
        obtain ⟨hi, h⟩ := h
        refine g_iast X dX11_join_89 rfl hi (fun m89 em89 => ?_)
        have h := h m89 em89
        refine g_aload_n 0 (i := 0) X dX11_join_90 rfl rfl ?_
        refine g_getR X dX11_join_91 fX11_83 ?_
        refine g_iload 3 (i := 4) X dX11_join_94 rfl ?_
        obtain ⟨hi, h⟩ := h
        refine g_iald X dX11_join_96 rfl hi ?_
        refine g_iconst X dX11_join_97 (by decide) ?_
        refine g_icmp_ne X dX11_join_98 (tgt := 109) (by decide) (fun hc => ?_) (fun hc => ?_)
        · have h := h.1 hc
          refine g_aload_n 0 (i := 0) X dX11_join_109 rfl rfl ?_
          refine g_getR X dX11_join_110 fX11_89 ?_
          refine g_iload_n 1 (i := 2) X dX11_join_113 rfl rfl ?_
          refine g_aload_n 0 (i := 0) X dX11_join_114 rfl rfl ?_
          refine g_getR X dX11_join_115 fX11_83 ?_
          refine g_iload 3 (i := 4) X dX11_join_118 rfl ?_
          obtain ⟨hi, h⟩ := h
          refine g_iald X dX11_join_120 rfl hi ?_
          obtain ⟨hi, h⟩ := h
          refine g_iast X dX11_join_121 rfl hi (fun m121 em121 => ?_)
          have h := h m121 em121
          refine g_iinc 1 (lv' := [(2, (0, w32 (v2 + 1))), (0, (2, 67)), (3, (0, v3)), (4, (0, v4))]) X dX11_join_122 rfl (by decide) rfl ?_
          refine g_iinc 3 (lv' := [(4, (0, w32 (v4 + 1))), (2, (0, w32 (v2 + 1))), (0, (2, 67)), (3, (0, v3))]) X dX11_join_125 rfl (by decide) rfl ?_
          refine g_goto X dX11_join_128 (tgt := 42) (by decide) ?_
          exact g_sub X [2, 1, 3, 0] rfl (ih _ _ _ _ h)
        · have h := h.2 hc
          refine g_aload_n 0 (i := 0) X dX11_join_101 rfl rfl ?_
          refine g_iload 3 (i := 4) X dX11_join_102 rfl ?_
          refine g_cVV (st := []) X dX11_join_104 YX11_turnBack lX11_253 (by decide) (im_X11_turnBack l x _ _ _ h) rfl ⟨by decide, by decide⟩ rfl (Nat.le_of_ble_eq_true rfl) (fun m104 h => ?_)
          refine g_iconst X dX11_join_107 (by decide) ?_
          exact hr _ _ _ _ _ dX11_join_108 ⟨by decide, h⟩
def wp_X11_join_34  (post : Int → Mem → Prop) : Nat → Int → Int → Mem → Prop
  | 0, _, _, _ => False
  | n + 1, v2, v3, m =>
  ((v2 ≤ v3 → (post 0 m)) ∧
  (¬ v2 ≤ v3 → (∃ n_3 : Nat, wp_X11_join_42 (fun v2_2 v3_2 m_2 => wp_X11_join_34  post n v2_2 v3_2 m_2) post n_3 v2 v3 0 m)))
set_option maxRecDepth 100000 in
theorem pf_X11_join_34 {l : Launch} {x : WX} {G : GT} {post : Int → Mem → Prop}  (X : Ax l x cX11_join RX11 5 (rmd 1) 106 G) (hr : RZ cX11_join post G) : ∀ (n : Nat) (v2 : Int) (v3 : Int) (m : Mem) (_ : wp_X11_join_34  post n v2 v3 m), G 34 [(0, (2, 67)), (2, (0, v2)), (3, (0, v3))] [] m := by
  intro n
  induction n with
  | zero => intro v2 v3 m h; exact absurd h id
  | succ n ih =>
  intro v2 v3 m h
  unfold wp_X11_join_34 at h
  refine g_iload_n 2 (i := 3) X dX11_join_34 rfl rfl ?_
  refine g_iload_n 1 (i := 2) X dX11_join_35 rfl rfl ?_
  refine g_icmp_ge X dX11_join_36 (tgt := 137) (by decide) (fun hc => ?_) (fun hc => ?_)
  · have h := h.1 hc
    refine g_iconst X dX11_join_137 (by decide) ?_
    exact hr _ _ _ _ _ dX11_join_138 ⟨by decide, h⟩
  · have h := h.2 hc
    refine g_iconst X dX11_join_39 (by decide) ?_
    refine g_istore (i := 4) (lv' := [(4, (0, 0)), (0, (2, 67)), (2, (0, v2)), (3, (0, v3))]) X dX11_join_40 (by decide) rfl ?_
    obtain ⟨n_3, h⟩ := h
    refine g_sub X [1, 2, 3, 0] rfl (pf_X11_join_42 X hr (fun v2_2 v3_2 m_2 h => ?_) n_3 _ _ _ _ h)
    · exact g_sub X [0, 1, 2] rfl (ih _ _ _ h)
def wp_X11_join (v1 : Int) (m : Mem) (post : Int → Mem → Prop) : Prop :=
  ∃ n_5 : Nat, wp_X11_join_2 (fun v1_1 m_1 => ∀ m31 : Mem, m31 = mset m_1 94 0 v1_1 → (∃ n_4 : Nat, wp_X11_join_34  post n_4 1 0 m31)) post n_5 v1 0 m
set_option maxRecDepth 100000 in
theorem pf_X11_join {l : Launch} {x : WX} {G : GT} {post : Int → Mem → Prop} (X : Ax l x cX11_join RX11 5 (rmd 1) 106 G) (hr : RZ cX11_join post G) (v1 : Int) (m : Mem) (h : wp_X11_join v1 m post) : G 0 [(0, (2, 67)), (1, (0, v1))] [] m := by
  unfold wp_X11_join at h
  refine g_iconst X dX11_join_0 (by decide) ?_
  refine g_istore_n (i := 2) (lv' := [(2, (0, 0)), (0, (2, 67)), (1, (0, v1))]) X dX11_join_1 rfl (by decide) rfl ?_
  obtain ⟨n_5, h⟩ := h
  refine g_sub X [1, 2, 0] rfl (pf_X11_join_2 X hr (fun v1_1 m_1 h => ?_) n_5 _ _ _ h)
  · refine g_iconst X dX11_join_23 (by decide) ?_
    refine g_istore_n (i := 2) (lv' := [(2, (0, 1)), (0, (2, 67)), (1, (0, v1_1))]) X dX11_join_24 rfl (by decide) rfl ?_
    refine g_aload_n 1 (i := 0) X dX11_join_25 rfl rfl ?_
    refine g_getR X dX11_join_26 fX11_89 ?_
    refine g_iconst X dX11_join_29 (by decide) ?_
    refine g_iload_n 2 (i := 1) X dX11_join_30 rfl rfl ?_
    refine g_iast X dX11_join_31 rfl (by decide) (fun m31 em31 => ?_)
    have h := h m31 em31
    refine g_iconst X dX11_join_32 (by decide) ?_
    refine g_istore_n (i := 3) (lv' := [(3, (0, 0)), (2, (0, 1)), (0, (2, 67)), (1, (0, v1_1))]) X dX11_join_33 rfl (by decide) rfl ?_
    obtain ⟨n_4, h⟩ := h
    refine g_sub X [2, 1, 0] rfl (pf_X11_join_34 X hr  n_4 _ _ _ h)
theorem im_X11_join (l : Launch) (x : WX) (v1 : Int) (m : Mem) (post : Int → Mem → Prop) (h : wp_X11_join v1 m post) : MetI l x 106 1 yX11_join cX11_join 5 .boolean [(2, 67), (0, v1)] m post := met_Z (by decide) (Nat.le_of_ble_eq_true rfl) (fun _ X hr => pf_X11_join X hr v1 m h)
def wp_X11_crews_19 (K55 : Int → Int → Int → Int → Mem → Prop) (post : Int → Mem → Prop) : Nat → Int → Int → Int → Mem → Prop
  | 0, _, _, _, _ => False
  | n + 1, v1, v2, v3, m =>
  ((m 67 41 ≤ v3 → (∀ v3_51 : Int, v3_51 = m 67 41 → (K55 v1 v2 v3_51 0 m))) ∧
  (¬ m 67 41 ≤ v3 → ((0 ≤ v3 ∧ v3 < 84) ∧ (∀ m33 : Mem, m33 = mset m 91 v3 (-1) → ((0 ≤ v3 ∧ v3 < 84) ∧ (∀ m40 : Mem, m40 = mset m33 92 v3 (-1) → (wp_X11_crews_19 K55 post n v1 v2 (w32 (v3 + 1)) m40)))))))
set_option maxRecDepth 100000 in
theorem pf_X11_crews_19 {l : Launch} {x : WX} {G : GT} {post : Int → Mem → Prop} {K55 : Int → Int → Int → Int → Mem → Prop} (X : Ax l x cX11_crews RX11 5 (rmd 2) 106 G) (hr : RI cX11_crews post G) (hK55 : ∀ (v1 : Int) (v2 : Int) (v3 : Int) (v4 : Int) (m : Mem), K55 v1 v2 v3 v4 m → G 55 [(0, (2, 67)), (1, (0, v1)), (2, (0, v2)), (3, (0, v3)), (4, (0, v4))] [] m) : ∀ (n : Nat) (v1 : Int) (v2 : Int) (v3 : Int) (m : Mem) (_ : wp_X11_crews_19 K55 post n v1 v2 v3 m), G 19 [(0, (2, 67)), (1, (0, v1)), (2, (0, v2)), (3, (0, v3))] [] m := by
  intro n
  induction n with
  | zero => intro v1 v2 v3 m h; exact absurd h id
  | succ n ih =>
  intro v1 v2 v3 m h
  unfold wp_X11_crews_19 at h
  refine g_iload_n 3 (i := 3) X dX11_crews_19 rfl rfl ?_
  refine g_aload_n 0 (i := 0) X dX11_crews_20 rfl rfl ?_
  refine g_getI X dX11_crews_21 fX11_247 ?_
  refine g_icmp_ge X dX11_crews_24 (tgt := 47) (by decide) (fun hc => ?_) (fun hc => ?_)
  · have h := h.1 hc
    refine g_aload_n 0 (i := 0) X dX11_crews_47 rfl rfl ?_
    refine g_getI X dX11_crews_48 fX11_247 ?_
    refine g_nmI (fun v3_51 ev3_51 => ?_)
    have h := h v3_51 ev3_51
    refine g_istore_n (i := 3) (lv' := [(3, (0, v3_51)), (0, (2, 67)), (1, (0, v1)), (2, (0, v2))]) X dX11_crews_51 rfl (by decide) rfl ?_
    refine g_iconst X dX11_crews_52 (by decide) ?_
    refine g_istore (i := 4) (lv' := [(4, (0, 0)), (3, (0, v3_51)), (0, (2, 67)), (1, (0, v1)), (2, (0, v2))]) X dX11_crews_53 (by decide) rfl ?_
    exact g_sub X [2, 3, 4, 1, 0] rfl (hK55 _ _ _ _ _ h)
  · have h := h.2 hc
    refine g_aload_n 0 (i := 0) X dX11_crews_27 rfl rfl ?_
    refine g_getR X dX11_crews_28 fX11_80 ?_
    refine g_iload_n 3 (i := 3) X dX11_crews_31 rfl rfl ?_
    refine g_iconst X dX11_crews_32 (by decide) ?_
    obtain ⟨hi, h⟩ := h
    refine g_iast X dX11_crews_33 rfl hi (fun m33 em33 => ?_)
    have h := h m33 em33
    refine g_aload_n 0 (i := 0) X dX11_crews_34 rfl rfl ?_
    refine g_getR X dX11_crews_35 fX11_83 ?_
    refine g_iload_n 3 (i := 3) X dX11_crews_38 rfl rfl ?_
    refine g_iconst X dX11_crews_39 (by decide) ?_
    obtain ⟨hi, h⟩ := h
    refine g_iast X dX11_crews_40 rfl hi (fun m40 em40 => ?_)
    have h := h m40 em40
    refine g_iinc 3 (lv' := [(3, (0, w32 (v3 + 1))), (0, (2, 67)), (1, (0, v1)), (2, (0, v2))]) X dX11_crews_41 rfl (by decide) rfl ?_
    refine g_goto X dX11_crews_44 (tgt := 19) (by decide) ?_
    exact g_sub X [1, 2, 3, 0] rfl (ih _ _ _ _ h)
def wp_X11_crews_55 (K92 : Int → Int → Int → Mem → Prop) (post : Int → Mem → Prop) : Nat → Int → Int → Int → Int → Mem → Prop
  | 0, _, _, _, _, _ => False
  | n + 1, v1, v2, v3, v4, m =>
  ((m 67 41 ≤ v4 → (K92 v1 v2 v3 m)) ∧
  (¬ m 67 41 ≤ v4 → (((¬ v1 = 1 → (K92 v1 v2 v3 m)) ∧
  (v1 = 1 → (wp_X11_join v4 m (fun r73 m73 => ((r73 = 0 → (∀ v3_85 : Int, v3_85 = w32 (v3 - 0) → (wp_X11_crews_55 K92 post n v1 v2 v3_85 (w32 (v4 + 1)) m73))) ∧
  (¬ r73 = 0 → (∀ v3_85 : Int, v3_85 = w32 (v3 - 1) → (wp_X11_crews_55 K92 post n v1 v2 v3_85 (w32 (v4 + 1)) m73)))))))))))
set_option maxRecDepth 100000 in
theorem pf_X11_crews_55 {l : Launch} {x : WX} {G : GT} {post : Int → Mem → Prop} {K92 : Int → Int → Int → Mem → Prop} (X : Ax l x cX11_crews RX11 5 (rmd 2) 106 G) (hr : RI cX11_crews post G) (hK92 : ∀ (v1 : Int) (v2 : Int) (v3 : Int) (m : Mem), K92 v1 v2 v3 m → G 92 [(0, (2, 67)), (1, (0, v1)), (2, (0, v2)), (3, (0, v3))] [] m) : ∀ (n : Nat) (v1 : Int) (v2 : Int) (v3 : Int) (v4 : Int) (m : Mem) (_ : wp_X11_crews_55 K92 post n v1 v2 v3 v4 m), G 55 [(0, (2, 67)), (1, (0, v1)), (2, (0, v2)), (3, (0, v3)), (4, (0, v4))] [] m := by
  intro n
  induction n with
  | zero => intro v1 v2 v3 v4 m h; exact absurd h id
  | succ n ih =>
  intro v1 v2 v3 v4 m h
  unfold wp_X11_crews_55 at h
  refine g_iload 4 (i := 4) X dX11_crews_55 rfl ?_
  refine g_aload_n 0 (i := 0) X dX11_crews_57 rfl rfl ?_
  refine g_getI X dX11_crews_58 fX11_247 ?_
  refine g_icmp_ge X dX11_crews_61 (tgt := 92) (by decide) (fun hc => ?_) (fun hc => ?_)
  · have h := h.1 hc
    exact g_sub X [0, 1, 2, 3] rfl (hK92 _ _ _ _ h)
  · have h := h.2 hc
    refine g_iload_n 1 (i := 1) X dX11_crews_64 rfl rfl ?_
    refine g_iconst X dX11_crews_65 (by decide) ?_
    refine g_icmp_ne X dX11_crews_66 (tgt := 92) (by decide) (fun hc => ?_) (fun hc => ?_)
    · have h := h.1 hc
      exact g_sub X [0, 1, 2, 3] rfl (hK92 _ _ _ _ h)
    · have h := h.2 hc
      refine g_iload_n 3 (i := 3) X dX11_crews_69 rfl rfl ?_
      refine g_aload_n 0 (i := 0) X dX11_crews_70 rfl rfl ?_
      refine g_iload 4 (i := 4) X dX11_crews_71 rfl ?_
      refine g_cVI (st := [(0, v3)]) X dX11_crews_73 YX11_join lX11_260 (by decide) (im_X11_join l x _ _ _ h) rfl ⟨by decide, by decide⟩ rfl (Nat.le_of_ble_eq_true rfl) (fun r73 m73 h => ?_)
      refine g_if_eq X dX11_crews_76 (tgt := 83) (by decide) (fun hc => ?_) (fun hc => ?_)
      · have h := h.1 hc
        refine g_iconst X dX11_crews_83 (by decide) ?_
        refine g_isub X dX11_crews_84 ?_
        refine g_nmI (fun v3_85 ev3_85 => ?_)
        have h := h v3_85 ev3_85
        refine g_istore_n (i := 3) (lv' := [(3, (0, v3_85)), (0, (2, 67)), (1, (0, v1)), (2, (0, v2)), (4, (0, v4))]) X dX11_crews_85 rfl (by decide) rfl ?_
        refine g_iinc 4 (lv' := [(4, (0, w32 (v4 + 1))), (3, (0, v3_85)), (0, (2, 67)), (1, (0, v1)), (2, (0, v2))]) X dX11_crews_86 rfl (by decide) rfl ?_
        refine g_goto X dX11_crews_89 (tgt := 55) (by decide) ?_
        exact g_sub X [2, 3, 4, 1, 0] rfl (ih _ _ _ _ _ h)
      · have h := h.2 hc
        refine g_iconst X dX11_crews_79 (by decide) ?_
        refine g_goto X dX11_crews_80 (tgt := 84) (by decide) ?_
        refine g_isub X dX11_crews_84 ?_
        refine g_nmI (fun v3_85 ev3_85 => ?_)
        have h := h v3_85 ev3_85
        refine g_istore_n (i := 3) (lv' := [(3, (0, v3_85)), (0, (2, 67)), (1, (0, v1)), (2, (0, v2)), (4, (0, v4))]) X dX11_crews_85 rfl (by decide) rfl ?_
        refine g_iinc 4 (lv' := [(4, (0, w32 (v4 + 1))), (3, (0, v3_85)), (0, (2, 67)), (1, (0, v1)), (2, (0, v2))]) X dX11_crews_86 rfl (by decide) rfl ?_
        refine g_goto X dX11_crews_89 (tgt := 55) (by decide) ?_
        exact g_sub X [2, 3, 4, 1, 0] rfl (ih _ _ _ _ _ h)
def wp_X11_crews_92 (v1 : Int) (v2 : Int) (v3 : Int) (m : Mem)  (post : Int → Mem → Prop) : Prop :=
  ((¬ v1 = 0 → (((¬ v1 = 1 → (post v2 m)) ∧
  (v1 = 1 → (post v3 m))))) ∧
  (v1 = 0 → (post (m 67 41) m)))
set_option maxRecDepth 100000 in
theorem pf_X11_crews_92 {l : Launch} {x : WX} {G : GT} {post : Int → Mem → Prop}  (X : Ax l x cX11_crews RX11 5 (rmd 2) 106 G) (hr : RI cX11_crews post G) (v1 : Int) (v2 : Int) (v3 : Int) (m : Mem) (h : wp_X11_crews_92 v1 v2 v3 m  post) : G 92 [(0, (2, 67)), (1, (0, v1)), (2, (0, v2)), (3, (0, v3))] [] m := by
  unfold wp_X11_crews_92 at h
  refine g_iload_n 1 (i := 1) X dX11_crews_92 rfl rfl ?_
  refine g_if_ne X dX11_crews_93 (tgt := 103) (by decide) (fun hc => ?_) (fun hc => ?_)
  · have h := h.1 hc
    refine g_iload_n 1 (i := 1) X dX11_crews_103 rfl rfl ?_
    refine g_iconst X dX11_crews_104 (by decide) ?_
    refine g_icmp_ne X dX11_crews_105 (tgt := 112) (by decide) (fun hc => ?_) (fun hc => ?_)
    · have h := h.1 hc
      refine g_iload_n 2 (i := 2) X dX11_crews_112 rfl rfl ?_
      exact hr _ _ _ _ _ dX11_crews_113 h
    · have h := h.2 hc
      refine g_iload_n 3 (i := 3) X dX11_crews_108 rfl rfl ?_
      refine g_goto X dX11_crews_109 (tgt := 113) (by decide) ?_
      exact hr _ _ _ _ _ dX11_crews_113 h
  · have h := h.2 hc
    refine g_aload_n 0 (i := 0) X dX11_crews_96 rfl rfl ?_
    refine g_getI X dX11_crews_97 fX11_247 ?_
    refine g_goto X dX11_crews_100 (tgt := 113) (by decide) ?_
    exact hr _ _ _ _ _ dX11_crews_113 h
def wp_X11_crews (v1 : Int) (m : Mem) (post : Int → Mem → Prop) : Prop :=
  wp_X11_in v1 0 2 m (fun r3 m3 => ((¬ r3 = 0 → (wp_X11_gatherDuties m3 (fun r13 m13 => ∃ n_7 : Nat, wp_X11_crews_19 (fun v1_2 v2_2 v3_2 v4_2 m_2 => ∃ n_6 : Nat, wp_X11_crews_55 (fun v1_5 v2_5 v3_5 m_5 => wp_X11_crews_92 v1_5 v2_5 v3_5 m_5  post) post n_6 v1_2 v2_2 v3_2 v4_2 m_2) post n_7 v1 r13 0 m13))) ∧
  (r3 = 0 → (post (-102) m3))))
set_option maxRecDepth 100000 in
theorem pf_X11_crews {l : Launch} {x : WX} {G : GT} {post : Int → Mem → Prop} (X : Ax l x cX11_crews RX11 5 (rmd 2) 106 G) (hr : RI cX11_crews post G) (v1 : Int) (m : Mem) (h : wp_X11_crews v1 m post) : G 0 [(0, (2, 67)), (1, (0, v1))] [] m := by
  unfold wp_X11_crews at h
  refine g_iload_n 1 (i := 1) X dX11_crews_0 rfl rfl ?_
  refine g_iconst X dX11_crews_1 (by decide) ?_
  refine g_iconst X dX11_crews_2 (by decide) ?_
  refine g_cSI (st := []) X dX11_crews_3 YX11_in lX11_134 (by decide) (im_X11_in l x _ _ _ _ _ h) rfl ⟨by decide, by decide⟩ rfl (Nat.le_of_ble_eq_true rfl) (fun r3 m3 h => ?_)
  refine g_if_ne X dX11_crews_6 (tgt := 12) (by decide) (fun hc => ?_) (fun hc => ?_)
  · have h := h.1 hc
    refine g_aload_n 0 (i := 0) X dX11_crews_12 rfl rfl ?_
    refine g_cVI (st := []) X dX11_crews_13 YX11_gatherDuties lX11_256 (by decide) (im_X11_gatherDuties l x  _ _ h) rfl ⟨by decide, by decide⟩ rfl (Nat.le_of_ble_eq_true rfl) (fun r13 m13 h => ?_)
    refine g_istore_n (i := 2) (lv' := [(2, (0, r13)), (0, (2, 67)), (1, (0, v1))]) X dX11_crews_16 rfl (by decide) rfl ?_
    refine g_iconst X dX11_crews_17 (by decide) ?_
    refine g_istore_n (i := 3) (lv' := [(3, (0, 0)), (2, (0, r13)), (0, (2, 67)), (1, (0, v1))]) X dX11_crews_18 rfl (by decide) rfl ?_
    obtain ⟨n_7, h⟩ := h
    refine g_sub X [2, 3, 1, 0] rfl (pf_X11_crews_19 X hr (fun v1_2 v2_2 v3_2 v4_2 m_2 h => ?_) n_7 _ _ _ _ h)
    · obtain ⟨n_6, h⟩ := h
      refine g_sub X [0, 1, 2, 3, 4] rfl (pf_X11_crews_55 X hr (fun v1_5 v2_5 v3_5 m_5 h => ?_) n_6 _ _ _ _ _ h)
      · refine g_sub X [0, 1, 2, 3] rfl (pf_X11_crews_92 X hr  _ _ _ _ h)
  · have h := h.2 hc
    refine g_bipush X dX11_crews_9 (by decide) ?_
    exact hr _ _ _ _ _ dX11_crews_11 h
theorem im_X11_crews (l : Launch) (x : WX) (v1 : Int) (m : Mem) (post : Int → Mem → Prop) (h : wp_X11_crews v1 m post) : MetI l x 106 2 yX11_crews cX11_crews 5 .int [(2, 67), (0, v1)] m post := met_I (by decide) (Nat.le_of_ble_eq_true rfl) (fun _ X hr => pf_X11_crews X hr v1 m h)
def wp_X11_drive  (m : Mem) (post : Int → Mem → Prop) : Prop :=
  ∀ v1_4 : Int, v1_4 = m 67 20 → (∀ m7 : Mem, m7 = mset m 67 20 0 → (post v1_4 m7))
set_option maxRecDepth 100000 in
theorem pf_X11_drive {l : Launch} {x : WX} {G : GT} {post : Int → Mem → Prop} (X : Ax l x cX11_drive RX11 2 (rmd 0) 106 G) (hr : RI cX11_drive post G)  (m : Mem) (h : wp_X11_drive  m post) : G 0 [(0, (2, 67))] [] m := by
  unfold wp_X11_drive at h
  refine g_aload_n 0 (i := 0) X dX11_drive_0 rfl rfl ?_
  refine g_getI X dX11_drive_1 fX11_159 ?_
  refine g_nmI (fun v1_4 ev1_4 => ?_)
  have h := h v1_4 ev1_4
  refine g_istore_n (i := 1) (lv' := [(1, (0, v1_4)), (0, (2, 67))]) X dX11_drive_4 rfl (by decide) rfl ?_
  refine g_aload_n 1 (i := 0) X dX11_drive_5 rfl rfl ?_
  refine g_iconst X dX11_drive_6 (by decide) ?_
  refine g_putI X dX11_drive_7 pX11_159 (fun m7 em7 => ?_)
  have h := h m7 em7
  refine g_iload_n 0 (i := 1) X dX11_drive_10 rfl rfl ?_
  exact hr _ _ _ _ _ dX11_drive_11 h
theorem im_X11_drive (l : Launch) (x : WX)  (m : Mem) (post : Int → Mem → Prop) (h : wp_X11_drive  m post) : MetI l x 106 0 yX11_drive cX11_drive 2 .int [(2, 67)] m post := met_I (by decide) (Nat.le_of_ble_eq_true rfl) (fun _ X hr => pf_X11_drive X hr  m h)
def wp_X11_roll (v1 : Int) (m : Mem) (post : Int → Mem → Prop) : Prop :=
  wp_X11_in v1 0 15 m (fun r4 m4 => ((¬ r4 = 0 → (((¬ m4 67 20 = 16 → ((0 ≤ m4 67 20 ∧ m4 67 20 < 16) ∧ (∀ m34 : Mem, m34 = mset m4 80 (m4 67 20) v1 → (∀ m42 : Mem, m42 = mset m34 67 20 (w32 (m34 67 20 + 1)) → (post (m42 67 20) m42))))) ∧
  (m4 67 20 = 16 → (post (-104) m4))))) ∧
  (r4 = 0 → (post (-102) m4))))
set_option maxRecDepth 100000 in
theorem pf_X11_roll {l : Launch} {x : WX} {G : GT} {post : Int → Mem → Prop} (X : Ax l x cX11_roll RX11 2 (rmd 1) 106 G) (hr : RI cX11_roll post G) (v1 : Int) (m : Mem) (h : wp_X11_roll v1 m post) : G 0 [(0, (2, 67)), (1, (0, v1))] [] m := by
  unfold wp_X11_roll at h
  refine g_iload_n 1 (i := 1) X dX11_roll_0 rfl rfl ?_
  refine g_iconst X dX11_roll_1 (by decide) ?_
  refine g_bipush X dX11_roll_2 (by decide) ?_
  refine g_cSI (st := []) X dX11_roll_4 YX11_in lX11_134 (by decide) (im_X11_in l x _ _ _ _ _ h) rfl ⟨by decide, by decide⟩ rfl (Nat.le_of_ble_eq_true rfl) (fun r4 m4 h => ?_)
  refine g_if_ne X dX11_roll_7 (tgt := 13) (by decide) (fun hc => ?_) (fun hc => ?_)
  · have h := h.1 hc
    refine g_aload_n 0 (i := 0) X dX11_roll_13 rfl rfl ?_
    refine g_getI X dX11_roll_14 fX11_159 ?_
    refine g_bipush X dX11_roll_17 (by decide) ?_
    refine g_icmp_ne X dX11_roll_19 (tgt := 25) (by decide) (fun hc => ?_) (fun hc => ?_)
    · have h := h.1 hc
      refine g_aload_n 0 (i := 0) X dX11_roll_25 rfl rfl ?_
      refine g_getR X dX11_roll_26 fX11_47 ?_
      refine g_aload_n 0 (i := 0) X dX11_roll_29 rfl rfl ?_
      refine g_getI X dX11_roll_30 fX11_159 ?_
      refine g_iload_n 1 (i := 1) X dX11_roll_33 rfl rfl ?_
      obtain ⟨hi, h⟩ := h
      refine g_iast X dX11_roll_34 rfl hi (fun m34 em34 => ?_)
      have h := h m34 em34
      refine g_aload_n 0 (i := 0) X dX11_roll_35 rfl rfl ?_
      refine g_dup X dX11_roll_36 rfl ?_
      refine g_getI X dX11_roll_37 fX11_159 ?_
      refine g_iconst X dX11_roll_40 (by decide) ?_
      refine g_iadd X dX11_roll_41 ?_
      refine g_putI X dX11_roll_42 pX11_159 (fun m42 em42 => ?_)
      have h := h m42 em42
      refine g_aload_n 0 (i := 0) X dX11_roll_45 rfl rfl ?_
      refine g_getI X dX11_roll_46 fX11_159 ?_
      exact hr _ _ _ _ _ dX11_roll_49 h
    · have h := h.2 hc
      refine g_bipush X dX11_roll_22 (by decide) ?_
      exact hr _ _ _ _ _ dX11_roll_24 h
  · have h := h.2 hc
    refine g_bipush X dX11_roll_10 (by decide) ?_
    exact hr _ _ _ _ _ dX11_roll_12 h
theorem im_X11_roll (l : Launch) (x : WX) (v1 : Int) (m : Mem) (post : Int → Mem → Prop) (h : wp_X11_roll v1 m post) : MetI l x 106 1 yX11_roll cX11_roll 2 .int [(2, 67), (0, v1)] m post := met_I (by decide) (Nat.le_of_ble_eq_true rfl) (fun _ X hr => pf_X11_roll X hr v1 m h)
def wp_X11_numberAll_47 (v3 : Int) (v4 : Int) (s0 : Int) (s1 : Int) (m : Mem) (K15 : Int → Int → Int → Int → Mem → Prop) (post : Int → Mem → Prop) : Prop :=
  ∀ v2_48 : Int, v2_48 = w32 (s1 + s0) → ((0 ≤ v4 ∧ v4 < 16) ∧ (∀ m56 : Mem, m56 = mset m 95 v4 v2_48 → (K15 v4 v2_48 v3 (w32 (v4 + 1)) m56)))
set_option maxRecDepth 100000 in
theorem pf_X11_numberAll_47 {l : Launch} {x : WX} {G : GT} {post : Int → Mem → Prop} {K15 : Int → Int → Int → Int → Mem → Prop} (X : Ax l x cX11_numberAll RX11 5 (rmd 0) 106 G) (hr : RI cX11_numberAll post G) (hK15 : ∀ (v1 : Int) (v2 : Int) (v3 : Int) (v4 : Int) (m : Mem), K15 v1 v2 v3 v4 m → G 15 [(0, (2, 67)), (1, (0, v1)), (2, (0, v2)), (3, (0, v3)), (4, (0, v4))] [] m) (v3 : Int) (v4 : Int) (s0 : Int) (s1 : Int) (m : Mem) (h : wp_X11_numberAll_47 v3 v4 s0 s1 m K15 post) : G 47 [(0, (2, 67)), (3, (0, v3)), (4, (0, v4))] [(0, s0), (0, s1)] m := by
  unfold wp_X11_numberAll_47 at h
  refine g_iadd X dX11_numberAll_47 ?_
  refine g_nmI (fun v2_48 ev2_48 => ?_)
  have h := h v2_48 ev2_48
  refine g_istore_n (i := 2) (lv' := [(2, (0, v2_48)), (0, (2, 67)), (3, (0, v3)), (4, (0, v4))]) X dX11_numberAll_48 rfl (by decide) rfl ?_
  refine g_aload_n 1 (i := 0) X dX11_numberAll_49 rfl rfl ?_
  refine g_getR X dX11_numberAll_50 fX11_92 ?_
  refine g_iload 3 (i := 4) X dX11_numberAll_53 rfl ?_
  refine g_iload_n 0 (i := 2) X dX11_numberAll_55 rfl rfl ?_
  obtain ⟨hi, h⟩ := h
  refine g_iast X dX11_numberAll_56 rfl hi (fun m56 em56 => ?_)
  have h := h m56 em56
  refine g_iload 3 (i := 4) X dX11_numberAll_57 rfl ?_
  refine g_istore_n (i := 1) (lv' := [(1, (0, v4)), (2, (0, v2_48)), (0, (2, 67)), (3, (0, v3)), (4, (0, v4))]) X dX11_numberAll_59 rfl (by decide) rfl ?_
  refine g_iinc 4 (lv' := [(4, (0, w32 (v4 + 1))), (1, (0, v4)), (2, (0, v2_48)), (0, (2, 67)), (3, (0, v3))]) X dX11_numberAll_60 rfl (by decide) rfl ?_
  refine g_goto X dX11_numberAll_63 (tgt := 15) (by decide) ?_
  exact g_sub X [3, 1, 2, 4, 0] rfl (hK15 _ _ _ _ _ h)
def wp_X11_numberAll_15 (K6 : Int → Int → Int → Mem → Prop) (post : Int → Mem → Prop) : Nat → Int → Int → Int → Int → Mem → Prop
  | 0, _, _, _, _, _ => False
  | n + 1, v1, v2, v3, v4, m =>
  ((m 67 20 ≤ v4 → (K6 v1 v2 (w32 (v3 + 1)) m)) ∧
  (¬ m 67 20 ≤ v4 → ((0 ≤ v4 ∧ v4 < 16) ∧ (((¬ m 80 v4 = v3 → (wp_X11_numberAll_15 K6 post n v1 v2 v3 (w32 (v4 + 1)) m)) ∧
  (m 80 v4 = v3 → (((v1 ≤ v4 → (wp_X11_numberAll_47 v3 v4 0 v2 m (fun v1_2 v2_2 v3_2 v4_2 m_2 => wp_X11_numberAll_15 K6 post n v1_2 v2_2 v3_2 v4_2 m_2) post)) ∧
  (¬ v1 ≤ v4 → (wp_X11_numberAll_47 v3 v4 1 v2 m (fun v1_3 v2_3 v3_3 v4_3 m_3 => wp_X11_numberAll_15 K6 post n v1_3 v2_3 v3_3 v4_3 m_3) post))))))))))
set_option maxRecDepth 100000 in
theorem pf_X11_numberAll_15 {l : Launch} {x : WX} {G : GT} {post : Int → Mem → Prop} {K6 : Int → Int → Int → Mem → Prop} (X : Ax l x cX11_numberAll RX11 5 (rmd 0) 106 G) (hr : RI cX11_numberAll post G) (hK6 : ∀ (v1 : Int) (v2 : Int) (v3 : Int) (m : Mem), K6 v1 v2 v3 m → G 6 [(0, (2, 67)), (1, (0, v1)), (2, (0, v2)), (3, (0, v3))] [] m) : ∀ (n : Nat) (v1 : Int) (v2 : Int) (v3 : Int) (v4 : Int) (m : Mem) (_ : wp_X11_numberAll_15 K6 post n v1 v2 v3 v4 m), G 15 [(0, (2, 67)), (1, (0, v1)), (2, (0, v2)), (3, (0, v3)), (4, (0, v4))] [] m := by
  intro n
  induction n with
  | zero => intro v1 v2 v3 v4 m h; exact absurd h id
  | succ n ih =>
  intro v1 v2 v3 v4 m h
  unfold wp_X11_numberAll_15 at h
  refine g_iload 4 (i := 4) X dX11_numberAll_15 rfl ?_
  refine g_aload_n 0 (i := 0) X dX11_numberAll_17 rfl rfl ?_
  refine g_getI X dX11_numberAll_18 fX11_159 ?_
  refine g_icmp_ge X dX11_numberAll_21 (tgt := 66) (by decide) (fun hc => ?_) (fun hc => ?_)
  · have h := h.1 hc
    refine g_iinc 3 (lv' := [(3, (0, w32 (v3 + 1))), (0, (2, 67)), (1, (0, v1)), (2, (0, v2)), (4, (0, v4))]) X dX11_numberAll_66 rfl (by decide) rfl ?_
    refine g_goto X dX11_numberAll_69 (tgt := 6) (by decide) ?_
    exact g_sub X [1, 2, 3, 0] rfl (hK6 _ _ _ _ h)
  · have h := h.2 hc
    refine g_aload_n 0 (i := 0) X dX11_numberAll_24 rfl rfl ?_
    refine g_getR X dX11_numberAll_25 fX11_47 ?_
    refine g_iload 4 (i := 4) X dX11_numberAll_28 rfl ?_
    obtain ⟨hi, h⟩ := h
    refine g_iald X dX11_numberAll_30 rfl hi ?_
    refine g_iload_n 3 (i := 3) X dX11_numberAll_31 rfl rfl ?_
    refine g_icmp_ne X dX11_numberAll_32 (tgt := 60) (by decide) (fun hc => ?_) (fun hc => ?_)
    · have h := h.1 hc
      refine g_iinc 4 (lv' := [(4, (0, w32 (v4 + 1))), (0, (2, 67)), (1, (0, v1)), (2, (0, v2)), (3, (0, v3))]) X dX11_numberAll_60 rfl (by decide) rfl ?_
      refine g_goto X dX11_numberAll_63 (tgt := 15) (by decide) ?_
      exact g_sub X [1, 2, 3, 4, 0] rfl (ih _ _ _ _ _ h)
    · have h := h.2 hc
      refine g_iload_n 2 (i := 2) X dX11_numberAll_35 rfl rfl ?_
      refine g_iload_n 1 (i := 1) X dX11_numberAll_36 rfl rfl ?_
      refine g_iload 4 (i := 4) X dX11_numberAll_37 rfl ?_
      refine g_icmp_le X dX11_numberAll_39 (tgt := 46) (by decide) (fun hc => ?_) (fun hc => ?_)
      · have h := h.1 hc
        refine g_iconst X dX11_numberAll_46 (by decide) ?_
        refine g_sub X [0, 3, 4] rfl (pf_X11_numberAll_47 X hr (fun v1_2 v2_2 v3_2 v4_2 m_2 h => ?_) _ _ _ _ _ h)
        · exact g_sub X [0, 1, 2, 3, 4] rfl (ih _ _ _ _ _ h)
      · have h := h.2 hc
        refine g_iconst X dX11_numberAll_42 (by decide) ?_
        refine g_goto X dX11_numberAll_43 (tgt := 47) (by decide) ?_
        refine g_sub X [0, 3, 4] rfl (pf_X11_numberAll_47 X hr (fun v1_3 v2_3 v3_3 v4_3 m_3 h => ?_) _ _ _ _ _ h)
        · exact g_sub X [0, 1, 2, 3, 4] rfl (ih _ _ _ _ _ h)
def wp_X11_numberAll_6  (post : Int → Mem → Prop) : Nat → Int → Int → Int → Mem → Prop
  | 0, _, _, _, _ => False
  | n + 1, v1, v2, v3, m =>
  ((16 ≤ v3 → (post v2 m)) ∧
  (¬ 16 ≤ v3 → (∃ n_5 : Nat, wp_X11_numberAll_15 (fun v1_4 v2_4 v3_4 m_4 => wp_X11_numberAll_6  post n v1_4 v2_4 v3_4 m_4) post n_5 v1 v2 v3 0 m)))
set_option maxRecDepth 100000 in
theorem pf_X11_numberAll_6 {l : Launch} {x : WX} {G : GT} {post : Int → Mem → Prop}  (X : Ax l x cX11_numberAll RX11 5 (rmd 0) 106 G) (hr : RI cX11_numberAll post G) : ∀ (n : Nat) (v1 : Int) (v2 : Int) (v3 : Int) (m : Mem) (_ : wp_X11_numberAll_6  post n v1 v2 v3 m), G 6 [(0, (2, 67)), (1, (0, v1)), (2, (0, v2)), (3, (0, v3))] [] m := by
  intro n
  induction n with
  | zero => intro v1 v2 v3 m h; exact absurd h id
  | succ n ih =>
  intro v1 v2 v3 m h
  unfold wp_X11_numberAll_6 at h
  refine g_iload_n 3 (i := 3) X dX11_numberAll_6 rfl rfl ?_
  refine g_bipush X dX11_numberAll_7 (by decide) ?_
  refine g_icmp_ge X dX11_numberAll_9 (tgt := 72) (by decide) (fun hc => ?_) (fun hc => ?_)
  · have h := h.1 hc
    refine g_iload_n 2 (i := 2) X dX11_numberAll_72 rfl rfl ?_
    exact hr _ _ _ _ _ dX11_numberAll_73 h
  · have h := h.2 hc
    refine g_iconst X dX11_numberAll_12 (by decide) ?_
    refine g_istore (i := 4) (lv' := [(4, (0, 0)), (0, (2, 67)), (1, (0, v1)), (2, (0, v2)), (3, (0, v3))]) X dX11_numberAll_13 (by decide) rfl ?_
    obtain ⟨n_5, h⟩ := h
    refine g_sub X [1, 2, 3, 4, 0] rfl (pf_X11_numberAll_15 X hr (fun v1_4 v2_4 v3_4 m_4 h => ?_) n_5 _ _ _ _ _ h)
    · exact g_sub X [0, 1, 2, 3] rfl (ih _ _ _ _ h)
def wp_X11_numberAll  (m : Mem) (post : Int → Mem → Prop) : Prop :=
  ∃ n_6 : Nat, wp_X11_numberAll_6  post n_6 (-1) 0 0 m
set_option maxRecDepth 100000 in
theorem pf_X11_numberAll {l : Launch} {x : WX} {G : GT} {post : Int → Mem → Prop} (X : Ax l x cX11_numberAll RX11 5 (rmd 0) 106 G) (hr : RI cX11_numberAll post G)  (m : Mem) (h : wp_X11_numberAll  m post) : G 0 [(0, (2, 67))] [] m := by
  unfold wp_X11_numberAll at h
  refine g_iconst X dX11_numberAll_0 (by decide) ?_
  refine g_istore_n (i := 1) (lv' := [(1, (0, (-1))), (0, (2, 67))]) X dX11_numberAll_1 rfl (by decide) rfl ?_
  refine g_iconst X dX11_numberAll_2 (by decide) ?_
  refine g_istore_n (i := 2) (lv' := [(2, (0, 0)), (1, (0, (-1))), (0, (2, 67))]) X dX11_numberAll_3 rfl (by decide) rfl ?_
  refine g_iconst X dX11_numberAll_4 (by decide) ?_
  refine g_istore_n (i := 3) (lv' := [(3, (0, 0)), (2, (0, 0)), (1, (0, (-1))), (0, (2, 67))]) X dX11_numberAll_5 rfl (by decide) rfl ?_
  obtain ⟨n_6, h⟩ := h
  refine g_sub X [3, 2, 1, 0] rfl (pf_X11_numberAll_6 X hr  n_6 _ _ _ _ h)
theorem im_X11_numberAll (l : Launch) (x : WX)  (m : Mem) (post : Int → Mem → Prop) (h : wp_X11_numberAll  m post) : MetI l x 106 0 yX11_numberAll cX11_numberAll 5 .int [(2, 67)] m post := met_I (by decide) (Nat.le_of_ble_eq_true rfl) (fun _ X hr => pf_X11_numberAll X hr  m h)
def wp_X11_number (v1 : Int) (m : Mem) (post : Int → Mem → Prop) : Prop :=
  wp_X11_in v1 0 (w32 (m 67 20 - 1)) m (fun r8 m8 => ((¬ r8 = 0 → (wp_X11_numberAll m8 (fun r18 m18 => (0 ≤ v1 ∧ v1 < 16) ∧ (post (m18 95 v1) m18)))) ∧
  (r8 = 0 → (post (-101) m8))))
set_option maxRecDepth 100000 in
theorem pf_X11_number {l : Launch} {x : WX} {G : GT} {post : Int → Mem → Prop} (X : Ax l x cX11_number RX11 2 (rmd 1) 106 G) (hr : RI cX11_number post G) (v1 : Int) (m : Mem) (h : wp_X11_number v1 m post) : G 0 [(0, (2, 67)), (1, (0, v1))] [] m := by
  unfold wp_X11_number at h
  refine g_iload_n 1 (i := 1) X dX11_number_0 rfl rfl ?_
  refine g_iconst X dX11_number_1 (by decide) ?_
  refine g_aload_n 0 (i := 0) X dX11_number_2 rfl rfl ?_
  refine g_getI X dX11_number_3 fX11_159 ?_
  refine g_iconst X dX11_number_6 (by decide) ?_
  refine g_isub X dX11_number_7 ?_
  refine g_cSI (st := []) X dX11_number_8 YX11_in lX11_134 (by decide) (im_X11_in l x _ _ _ _ _ h) rfl ⟨by decide, by decide⟩ rfl (Nat.le_of_ble_eq_true rfl) (fun r8 m8 h => ?_)
  refine g_if_ne X dX11_number_11 (tgt := 17) (by decide) (fun hc => ?_) (fun hc => ?_)
  · have h := h.1 hc
    refine g_aload_n 0 (i := 0) X dX11_number_17 rfl rfl ?_
    refine g_cVI (st := []) X dX11_number_18 YX11_numberAll lX11_263 (by decide) (im_X11_numberAll l x  _ _ h) rfl ⟨by decide, by decide⟩ rfl (Nat.le_of_ble_eq_true rfl) (fun r18 m18 h => ?_)
    refine g_pop X dX11_number_21 rfl ?_
    refine g_aload_n 0 (i := 0) X dX11_number_22 rfl rfl ?_
    refine g_getR X dX11_number_23 fX11_92 ?_
    refine g_iload_n 1 (i := 1) X dX11_number_26 rfl rfl ?_
    obtain ⟨hi, h⟩ := h
    refine g_iald X dX11_number_27 rfl hi ?_
    exact hr _ _ _ _ _ dX11_number_28 h
  · have h := h.2 hc
    refine g_bipush X dX11_number_14 (by decide) ?_
    exact hr _ _ _ _ _ dX11_number_16 h
theorem im_X11_number (l : Launch) (x : WX) (v1 : Int) (m : Mem) (post : Int → Mem → Prop) (h : wp_X11_number v1 m post) : MetI l x 106 1 yX11_number cX11_number 2 .int [(2, 67), (0, v1)] m post := met_I (by decide) (Nat.le_of_ble_eq_true rfl) (fun _ X hr => pf_X11_number X hr v1 m h)
def wp_X11_stepsBy_10  (post : Int → Mem → Prop) : Nat → Int → Int → Int → Int → Mem → Prop
  | 0, _, _, _, _, _ => False
  | n + 1, v1, v2, v3, v4, m =>
  ((v2 < v4 → (post v3 m)) ∧
  (¬ v2 < v4 → (∀ v4_23 : Int, v4_23 = w32 (v4 * v1) → (wp_X11_stepsBy_10  post n v1 v2 (w32 (v3 + 1)) v4_23 m))))
set_option maxRecDepth 100000 in
theorem pf_X11_stepsBy_10 {l : Launch} {x : WX} {G : GT} {post : Int → Mem → Prop}  (X : Ax l x cX11_stepsBy RX11 5 (rmd 1) 106 G) (hr : RI cX11_stepsBy post G) : ∀ (n : Nat) (v1 : Int) (v2 : Int) (v3 : Int) (v4 : Int) (m : Mem) (_ : wp_X11_stepsBy_10  post n v1 v2 v3 v4 m), G 10 [(1, (0, v1)), (2, (0, v2)), (3, (0, v3)), (4, (0, v4))] [] m := by
  intro n
  induction n with
  | zero => intro v1 v2 v3 v4 m h; exact absurd h id
  | succ n ih =>
  intro v1 v2 v3 v4 m h
  unfold wp_X11_stepsBy_10 at h
  refine g_iload 3 (i := 4) X dX11_stepsBy_10 rfl ?_
  refine g_iload_n 1 (i := 2) X dX11_stepsBy_12 rfl rfl ?_
  refine g_icmp_gt X dX11_stepsBy_13 (tgt := 28) (by decide) (fun hc => ?_) (fun hc => ?_)
  · have h := h.1 hc
    refine g_iload_n 2 (i := 3) X dX11_stepsBy_28 rfl rfl ?_
    exact hr _ _ _ _ _ dX11_stepsBy_29 h
  · have h := h.2 hc
    refine g_iinc 2 (lv' := [(3, (0, w32 (v3 + 1))), (1, (0, v1)), (2, (0, v2)), (4, (0, v4))]) X dX11_stepsBy_16 rfl (by decide) rfl ?_
    refine g_iload 3 (i := 4) X dX11_stepsBy_19 rfl ?_
    refine g_iload_n 1 (i := 1) X dX11_stepsBy_21 rfl rfl ?_
    refine g_imul X dX11_stepsBy_22 ?_
    refine g_nmI (fun v4_23 ev4_23 => ?_)
    have h := h v4_23 ev4_23
    refine g_istore (i := 4) (lv' := [(4, (0, v4_23)), (3, (0, w32 (v3 + 1))), (1, (0, v1)), (2, (0, v2))]) X dX11_stepsBy_23 (by decide) rfl ?_
    refine g_goto X dX11_stepsBy_25 (tgt := 10) (by decide) ?_
    exact g_sub X [2, 3, 1, 0] rfl (ih _ _ _ _ _ h)
def wp_X11_stepsBy (v1 : Int) (m : Mem) (post : Int → Mem → Prop) : Prop :=
  wp_X11_numberAll m (fun r1 m1 => ∃ n_2 : Nat, wp_X11_stepsBy_10  post n_2 v1 r1 0 1 m1)
set_option maxRecDepth 100000 in
theorem pf_X11_stepsBy {l : Launch} {x : WX} {G : GT} {post : Int → Mem → Prop} (X : Ax l x cX11_stepsBy RX11 5 (rmd 1) 106 G) (hr : RI cX11_stepsBy post G) (v1 : Int) (m : Mem) (h : wp_X11_stepsBy v1 m post) : G 0 [(0, (2, 67)), (1, (0, v1))] [] m := by
  unfold wp_X11_stepsBy at h
  refine g_aload_n 0 (i := 0) X dX11_stepsBy_0 rfl rfl ?_
  refine g_cVI (st := []) X dX11_stepsBy_1 YX11_numberAll lX11_263 (by decide) (im_X11_numberAll l x  _ _ h) rfl ⟨by decide, by decide⟩ rfl (Nat.le_of_ble_eq_true rfl) (fun r1 m1 h => ?_)
  refine g_istore_n (i := 2) (lv' := [(2, (0, r1)), (0, (2, 67)), (1, (0, v1))]) X dX11_stepsBy_4 rfl (by decide) rfl ?_
  refine g_iconst X dX11_stepsBy_5 (by decide) ?_
  refine g_istore_n (i := 3) (lv' := [(3, (0, 0)), (2, (0, r1)), (0, (2, 67)), (1, (0, v1))]) X dX11_stepsBy_6 rfl (by decide) rfl ?_
  refine g_iconst X dX11_stepsBy_7 (by decide) ?_
  refine g_istore (i := 4) (lv' := [(4, (0, 1)), (3, (0, 0)), (2, (0, r1)), (0, (2, 67)), (1, (0, v1))]) X dX11_stepsBy_8 (by decide) rfl ?_
  obtain ⟨n_2, h⟩ := h
  refine g_sub X [4, 2, 1, 0] rfl (pf_X11_stepsBy_10 X hr  n_2 _ _ _ _ _ h)
theorem im_X11_stepsBy (l : Launch) (x : WX) (v1 : Int) (m : Mem) (post : Int → Mem → Prop) (h : wp_X11_stepsBy v1 m post) : MetI l x 106 1 yX11_stepsBy cX11_stepsBy 5 .int [(2, 67), (0, v1)] m post := met_I (by decide) (Nat.le_of_ble_eq_true rfl) (fun _ X hr => pf_X11_stepsBy X hr v1 m h)
def wp_X11_steps (v1 : Int) (m : Mem) (post : Int → Mem → Prop) : Prop :=
  wp_X11_in v1 2 8 m (fun r4 m4 => ((¬ r4 = 0 → (((¬ m4 67 20 = 0 → (wp_X11_stepsBy v1 m4 (fun r27 m27 => post r27 m27))) ∧
  (m4 67 20 = 0 → (post (-103) m4))))) ∧
  (r4 = 0 → (post (-102) m4))))
set_option maxRecDepth 100000 in
theorem pf_X11_steps {l : Launch} {x : WX} {G : GT} {post : Int → Mem → Prop} (X : Ax l x cX11_steps RX11 2 (rmd 2) 106 G) (hr : RI cX11_steps post G) (v1 : Int) (m : Mem) (h : wp_X11_steps v1 m post) : G 0 [(0, (2, 67)), (1, (0, v1))] [] m := by
  unfold wp_X11_steps at h
  refine g_iload_n 1 (i := 1) X dX11_steps_0 rfl rfl ?_
  refine g_iconst X dX11_steps_1 (by decide) ?_
  refine g_bipush X dX11_steps_2 (by decide) ?_
  refine g_cSI (st := []) X dX11_steps_4 YX11_in lX11_134 (by decide) (im_X11_in l x _ _ _ _ _ h) rfl ⟨by decide, by decide⟩ rfl (Nat.le_of_ble_eq_true rfl) (fun r4 m4 h => ?_)
  refine g_if_ne X dX11_steps_7 (tgt := 13) (by decide) (fun hc => ?_) (fun hc => ?_)
  · have h := h.1 hc
    refine g_aload_n 0 (i := 0) X dX11_steps_13 rfl rfl ?_
    refine g_getI X dX11_steps_14 fX11_159 ?_
    refine g_if_ne X dX11_steps_17 (tgt := 25) (by decide) (fun hc => ?_) (fun hc => ?_)
    · have h := h.1 hc
      refine g_aload_n 0 (i := 0) X dX11_steps_25 rfl rfl ?_
      refine g_iload_n 1 (i := 1) X dX11_steps_26 rfl rfl ?_
      refine g_cVI (st := []) X dX11_steps_27 YX11_stepsBy lX11_266 (by decide) (im_X11_stepsBy l x _ _ _ h) rfl ⟨by decide, by decide⟩ rfl (Nat.le_of_ble_eq_true rfl) (fun r27 m27 h => ?_)
      exact hr _ _ _ _ _ dX11_steps_30 h
    · have h := h.2 hc
      refine g_bipush X dX11_steps_20 (by decide) ?_
      refine g_goto X dX11_steps_22 (tgt := 30) (by decide) ?_
      exact hr _ _ _ _ _ dX11_steps_30 h
  · have h := h.2 hc
    refine g_bipush X dX11_steps_10 (by decide) ?_
    exact hr _ _ _ _ _ dX11_steps_12 h
theorem im_X11_steps (l : Launch) (x : WX) (v1 : Int) (m : Mem) (post : Int → Mem → Prop) (h : wp_X11_steps v1 m post) : MetI l x 106 2 yX11_steps cX11_steps 2 .int [(2, 67), (0, v1)] m post := met_I (by decide) (Nat.le_of_ble_eq_true rfl) (fun _ X hr => pf_X11_steps X hr v1 m h)
def wp_X11_stands_46 (K76 : Int → Int → Int → Int → Int → Mem → Prop) (post : Int → Mem → Prop) : Nat → Int → Int → Int → Int → Mem → Prop
  | 0, _, _, _, _, _ => False
  | n + 1, v1, v2, v3, v4, m =>
  ((m 67 20 ≤ v4 → (K76 v1 v2 v3 1 0 m)) ∧
  (¬ m 67 20 ≤ v4 → ((0 ≤ v4 ∧ v4 < 16) ∧ (∀ m63 : Mem, m63 = mset m 96 v4 v4 → (wp_X11_stands_46 K76 post n v1 v2 v3 (w32 (v4 + 1)) m63)))))
set_option maxRecDepth 100000 in
theorem pf_X11_stands_46 {l : Launch} {x : WX} {G : GT} {post : Int → Mem → Prop} {K76 : Int → Int → Int → Int → Int → Mem → Prop} (X : Ax l x cX11_stands RX11 9 (rmd 2) 106 G) (hr : RI cX11_stands post G) (hK76 : ∀ (v1 : Int) (v2 : Int) (v3 : Int) (v4 : Int) (v5 : Int) (m : Mem), K76 v1 v2 v3 v4 v5 m → G 76 [(0, (2, 67)), (1, (0, v1)), (2, (0, v2)), (3, (0, v3)), (4, (0, v4)), (5, (0, v5))] [] m) : ∀ (n : Nat) (v1 : Int) (v2 : Int) (v3 : Int) (v4 : Int) (m : Mem) (_ : wp_X11_stands_46 K76 post n v1 v2 v3 v4 m), G 46 [(0, (2, 67)), (1, (0, v1)), (2, (0, v2)), (3, (0, v3)), (4, (0, v4))] [] m := by
  intro n
  induction n with
  | zero => intro v1 v2 v3 v4 m h; exact absurd h id
  | succ n ih =>
  intro v1 v2 v3 v4 m h
  unfold wp_X11_stands_46 at h
  refine g_iload 4 (i := 4) X dX11_stands_46 rfl ?_
  refine g_aload_n 0 (i := 0) X dX11_stands_48 rfl rfl ?_
  refine g_getI X dX11_stands_49 fX11_159 ?_
  refine g_icmp_ge X dX11_stands_52 (tgt := 70) (by decide) (fun hc => ?_) (fun hc => ?_)
  · have h := h.1 hc
    refine g_iconst X dX11_stands_70 (by decide) ?_
    refine g_istore (i := 4) (lv' := [(4, (0, 1)), (0, (2, 67)), (1, (0, v1)), (2, (0, v2)), (3, (0, v3))]) X dX11_stands_71 (by decide) rfl ?_
    refine g_iconst X dX11_stands_73 (by decide) ?_
    refine g_istore (i := 5) (lv' := [(5, (0, 0)), (4, (0, 1)), (0, (2, 67)), (1, (0, v1)), (2, (0, v2)), (3, (0, v3))]) X dX11_stands_74 (by decide) rfl ?_
    exact g_sub X [2, 3, 4, 5, 1, 0] rfl (hK76 _ _ _ _ _ _ h)
  · have h := h.2 hc
    refine g_aload_n 0 (i := 0) X dX11_stands_55 rfl rfl ?_
    refine g_getR X dX11_stands_56 fX11_95 ?_
    refine g_iload 4 (i := 4) X dX11_stands_59 rfl ?_
    refine g_iload 4 (i := 4) X dX11_stands_61 rfl ?_
    obtain ⟨hi, h⟩ := h
    refine g_iast X dX11_stands_63 rfl hi (fun m63 em63 => ?_)
    have h := h m63 em63
    refine g_iinc 4 (lv' := [(4, (0, w32 (v4 + 1))), (0, (2, 67)), (1, (0, v1)), (2, (0, v2)), (3, (0, v3))]) X dX11_stands_64 rfl (by decide) rfl ?_
    refine g_goto X dX11_stands_67 (tgt := 46) (by decide) ?_
    exact g_sub X [1, 2, 3, 4, 0] rfl (ih _ _ _ _ _ h)
def wp_X11_stands_97 (K88 : Int → Int → Int → Int → Int → Int → Int → Mem → Prop) (post : Int → Mem → Prop) : Nat → Int → Int → Int → Int → Int → Int → Int → Int → Mem → Prop
  | 0, _, _, _, _, _, _, _, _, _ => False
  | n + 1, v1, v2, v3, v4, v5, v6, v7, v8, m =>
  ((m 67 20 ≤ v8 → (K88 v1 v2 v3 v4 v5 v6 (w32 (v7 + 1)) m)) ∧
  (¬ m 67 20 ≤ v8 → ((0 ≤ v8 ∧ v8 < 16) ∧ ((0 ≤ m 96 v8 ∧ m 96 v8 < 16) ∧ (¬ v4 = 0 ∧ (¬ v1 = 0 ∧ (((¬ Int.tmod (w32 (Int.tdiv (m 95 (m 96 v8)) v4)) v1 = v7 → (wp_X11_stands_97 K88 post n v1 v2 v3 v4 v5 v6 v7 (w32 (v8 + 1)) m)) ∧
  (Int.tmod (w32 (Int.tdiv (m 95 (m 96 v8)) v4)) v1 = v7 → ((0 ≤ v8 ∧ v8 < 16) ∧ ((0 ≤ v6 ∧ v6 < 16) ∧ (∀ m141 : Mem, m141 = mset m 97 v6 (m 96 v8) → (wp_X11_stands_97 K88 post n v1 v2 v3 v4 v5 (w32 (v6 + 1)) v7 (w32 (v8 + 1)) m141)))))))))))))
set_option maxRecDepth 100000 in
theorem pf_X11_stands_97 {l : Launch} {x : WX} {G : GT} {post : Int → Mem → Prop} {K88 : Int → Int → Int → Int → Int → Int → Int → Mem → Prop} (X : Ax l x cX11_stands RX11 9 (rmd 2) 106 G) (hr : RI cX11_stands post G) (hK88 : ∀ (v1 : Int) (v2 : Int) (v3 : Int) (v4 : Int) (v5 : Int) (v6 : Int) (v7 : Int) (m : Mem), K88 v1 v2 v3 v4 v5 v6 v7 m → G 88 [(0, (2, 67)), (1, (0, v1)), (2, (0, v2)), (3, (0, v3)), (4, (0, v4)), (5, (0, v5)), (6, (0, v6)), (7, (0, v7))] [] m) : ∀ (n : Nat) (v1 : Int) (v2 : Int) (v3 : Int) (v4 : Int) (v5 : Int) (v6 : Int) (v7 : Int) (v8 : Int) (m : Mem) (_ : wp_X11_stands_97 K88 post n v1 v2 v3 v4 v5 v6 v7 v8 m), G 97 [(0, (2, 67)), (1, (0, v1)), (2, (0, v2)), (3, (0, v3)), (4, (0, v4)), (5, (0, v5)), (6, (0, v6)), (7, (0, v7)), (8, (0, v8))] [] m := by
  intro n
  induction n with
  | zero => intro v1 v2 v3 v4 v5 v6 v7 v8 m h; exact absurd h id
  | succ n ih =>
  intro v1 v2 v3 v4 v5 v6 v7 v8 m h
  unfold wp_X11_stands_97 at h
  refine g_iload 8 (i := 8) X dX11_stands_97 rfl ?_
  refine g_aload_n 0 (i := 0) X dX11_stands_99 rfl rfl ?_
  refine g_getI X dX11_stands_100 fX11_159 ?_
  refine g_icmp_ge X dX11_stands_103 (tgt := 151) (by decide) (fun hc => ?_) (fun hc => ?_)
  · have h := h.1 hc
    refine g_iinc 7 (lv' := [(7, (0, w32 (v7 + 1))), (0, (2, 67)), (1, (0, v1)), (2, (0, v2)), (3, (0, v3)), (4, (0, v4)), (5, (0, v5)), (6, (0, v6)), (8, (0, v8))]) X dX11_stands_151 rfl (by decide) rfl ?_
    refine g_goto X dX11_stands_154 (tgt := 88) (by decide) ?_
    exact g_sub X [1, 2, 3, 4, 5, 6, 7, 0] rfl (hK88 _ _ _ _ _ _ _ _ h)
  · have h := h.2 hc
    refine g_aload_n 0 (i := 0) X dX11_stands_106 rfl rfl ?_
    refine g_getR X dX11_stands_107 fX11_92 ?_
    refine g_aload_n 0 (i := 0) X dX11_stands_110 rfl rfl ?_
    refine g_getR X dX11_stands_111 fX11_95 ?_
    refine g_iload 8 (i := 8) X dX11_stands_114 rfl ?_
    obtain ⟨hi, h⟩ := h
    refine g_iald X dX11_stands_116 rfl hi ?_
    obtain ⟨hi, h⟩ := h
    refine g_iald X dX11_stands_117 rfl hi ?_
    refine g_iload 4 (i := 4) X dX11_stands_118 rfl ?_
    obtain ⟨hz, h⟩ := h
    refine g_idiv X dX11_stands_120 hz ?_
    refine g_iload_n 1 (i := 1) X dX11_stands_121 rfl rfl ?_
    obtain ⟨hz, h⟩ := h
    refine g_irem X dX11_stands_122 hz ?_
    refine g_iload 7 (i := 7) X dX11_stands_123 rfl ?_
    refine g_icmp_ne X dX11_stands_125 (tgt := 145) (by decide) (fun hc => ?_) (fun hc => ?_)
    · have h := h.1 hc
      refine g_iinc 8 (lv' := [(8, (0, w32 (v8 + 1))), (0, (2, 67)), (1, (0, v1)), (2, (0, v2)), (3, (0, v3)), (4, (0, v4)), (5, (0, v5)), (6, (0, v6)), (7, (0, v7))]) X dX11_stands_145 rfl (by decide) rfl ?_
      refine g_goto X dX11_stands_148 (tgt := 97) (by decide) ?_
      exact g_sub X [1, 2, 3, 4, 5, 6, 7, 8, 0] rfl (ih _ _ _ _ _ _ _ _ _ h)
    · have h := h.2 hc
      refine g_aload_n 0 (i := 0) X dX11_stands_128 rfl rfl ?_
      refine g_getR X dX11_stands_129 fX11_98 ?_
      refine g_iload 6 (i := 6) X dX11_stands_132 rfl ?_
      refine g_aload_n 0 (i := 0) X dX11_stands_134 rfl rfl ?_
      refine g_getR X dX11_stands_135 fX11_95 ?_
      refine g_iload 8 (i := 8) X dX11_stands_138 rfl ?_
      obtain ⟨hi, h⟩ := h
      refine g_iald X dX11_stands_140 rfl hi ?_
      obtain ⟨hi, h⟩ := h
      refine g_iast X dX11_stands_141 rfl hi (fun m141 em141 => ?_)
      have h := h m141 em141
      refine g_iinc 6 (lv' := [(6, (0, w32 (v6 + 1))), (0, (2, 67)), (1, (0, v1)), (2, (0, v2)), (3, (0, v3)), (4, (0, v4)), (5, (0, v5)), (7, (0, v7)), (8, (0, v8))]) X dX11_stands_142 rfl (by decide) rfl ?_
      refine g_iinc 8 (lv' := [(8, (0, w32 (v8 + 1))), (6, (0, w32 (v6 + 1))), (0, (2, 67)), (1, (0, v1)), (2, (0, v2)), (3, (0, v3)), (4, (0, v4)), (5, (0, v5)), (7, (0, v7))]) X dX11_stands_145 rfl (by decide) rfl ?_
      refine g_goto X dX11_stands_148 (tgt := 97) (by decide) ?_
      exact g_sub X [2, 3, 4, 5, 6, 7, 1, 8, 0] rfl (ih _ _ _ _ _ _ _ _ _ h)
def wp_X11_stands_88 (K160 : Int → Int → Int → Int → Int → Int → Mem → Prop) (post : Int → Mem → Prop) : Nat → Int → Int → Int → Int → Int → Int → Int → Mem → Prop
  | 0, _, _, _, _, _, _, _, _ => False
  | n + 1, v1, v2, v3, v4, v5, v6, v7, m =>
  ((v1 ≤ v7 → (K160 v1 v2 v3 v4 v5 0 m)) ∧
  (¬ v1 ≤ v7 → (∃ n_3 : Nat, wp_X11_stands_97 (fun v1_2 v2_2 v3_2 v4_2 v5_2 v6_2 v7_2 m_2 => wp_X11_stands_88 K160 post n v1_2 v2_2 v3_2 v4_2 v5_2 v6_2 v7_2 m_2) post n_3 v1 v2 v3 v4 v5 v6 v7 0 m)))
set_option maxRecDepth 100000 in
theorem pf_X11_stands_88 {l : Launch} {x : WX} {G : GT} {post : Int → Mem → Prop} {K160 : Int → Int → Int → Int → Int → Int → Mem → Prop} (X : Ax l x cX11_stands RX11 9 (rmd 2) 106 G) (hr : RI cX11_stands post G) (hK160 : ∀ (v1 : Int) (v2 : Int) (v3 : Int) (v4 : Int) (v5 : Int) (v7 : Int) (m : Mem), K160 v1 v2 v3 v4 v5 v7 m → G 160 [(0, (2, 67)), (1, (0, v1)), (2, (0, v2)), (3, (0, v3)), (4, (0, v4)), (5, (0, v5)), (7, (0, v7))] [] m) : ∀ (n : Nat) (v1 : Int) (v2 : Int) (v3 : Int) (v4 : Int) (v5 : Int) (v6 : Int) (v7 : Int) (m : Mem) (_ : wp_X11_stands_88 K160 post n v1 v2 v3 v4 v5 v6 v7 m), G 88 [(0, (2, 67)), (1, (0, v1)), (2, (0, v2)), (3, (0, v3)), (4, (0, v4)), (5, (0, v5)), (6, (0, v6)), (7, (0, v7))] [] m := by
  intro n
  induction n with
  | zero => intro v1 v2 v3 v4 v5 v6 v7 m h; exact absurd h id
  | succ n ih =>
  intro v1 v2 v3 v4 v5 v6 v7 m h
  unfold wp_X11_stands_88 at h
  refine g_iload 7 (i := 7) X dX11_stands_88 rfl ?_
  refine g_iload_n 1 (i := 1) X dX11_stands_90 rfl rfl ?_
  refine g_icmp_ge X dX11_stands_91 (tgt := 157) (by decide) (fun hc => ?_) (fun hc => ?_)
  · have h := h.1 hc
    refine g_iconst X dX11_stands_157 (by decide) ?_
    refine g_istore (i := 7) (lv' := [(7, (0, 0)), (0, (2, 67)), (1, (0, v1)), (2, (0, v2)), (3, (0, v3)), (4, (0, v4)), (5, (0, v5)), (6, (0, v6))]) X dX11_stands_158 (by decide) rfl ?_
    exact g_sub X [1, 2, 3, 4, 5, 6, 0] rfl (hK160 _ _ _ _ _ _ _ h)
  · have h := h.2 hc
    refine g_iconst X dX11_stands_94 (by decide) ?_
    refine g_istore (i := 8) (lv' := [(8, (0, 0)), (0, (2, 67)), (1, (0, v1)), (2, (0, v2)), (3, (0, v3)), (4, (0, v4)), (5, (0, v5)), (6, (0, v6)), (7, (0, v7))]) X dX11_stands_95 (by decide) rfl ?_
    obtain ⟨n_3, h⟩ := h
    refine g_sub X [1, 2, 3, 4, 5, 6, 7, 8, 0] rfl (pf_X11_stands_97 X hr (fun v1_2 v2_2 v3_2 v4_2 v5_2 v6_2 v7_2 m_2 h => ?_) n_3 _ _ _ _ _ _ _ _ _ h)
    · exact g_sub X [0, 1, 2, 3, 4, 5, 6, 7] rfl (ih _ _ _ _ _ _ _ _ h)
def wp_X11_stands_160 (K76 : Int → Int → Int → Int → Int → Mem → Prop) (post : Int → Mem → Prop) : Nat → Int → Int → Int → Int → Int → Int → Mem → Prop
  | 0, _, _, _, _, _, _, _ => False
  | n + 1, v1, v2, v3, v4, v5, v7, m =>
  ((m 67 20 ≤ v7 → (∀ v4_193 : Int, v4_193 = w32 (v4 * v1) → (K76 v1 v2 v3 v4_193 (w32 (v5 + 1)) m))) ∧
  (¬ m 67 20 ≤ v7 → ((0 ≤ v7 ∧ v7 < 16) ∧ ((0 ≤ v7 ∧ v7 < 16) ∧ (∀ m182 : Mem, m182 = mset m 96 v7 (m 97 v7) → (wp_X11_stands_160 K76 post n v1 v2 v3 v4 v5 (w32 (v7 + 1)) m182))))))
set_option maxRecDepth 100000 in
theorem pf_X11_stands_160 {l : Launch} {x : WX} {G : GT} {post : Int → Mem → Prop} {K76 : Int → Int → Int → Int → Int → Mem → Prop} (X : Ax l x cX11_stands RX11 9 (rmd 2) 106 G) (hr : RI cX11_stands post G) (hK76 : ∀ (v1 : Int) (v2 : Int) (v3 : Int) (v4 : Int) (v5 : Int) (m : Mem), K76 v1 v2 v3 v4 v5 m → G 76 [(0, (2, 67)), (1, (0, v1)), (2, (0, v2)), (3, (0, v3)), (4, (0, v4)), (5, (0, v5))] [] m) : ∀ (n : Nat) (v1 : Int) (v2 : Int) (v3 : Int) (v4 : Int) (v5 : Int) (v7 : Int) (m : Mem) (_ : wp_X11_stands_160 K76 post n v1 v2 v3 v4 v5 v7 m), G 160 [(0, (2, 67)), (1, (0, v1)), (2, (0, v2)), (3, (0, v3)), (4, (0, v4)), (5, (0, v5)), (7, (0, v7))] [] m := by
  intro n
  induction n with
  | zero => intro v1 v2 v3 v4 v5 v7 m h; exact absurd h id
  | succ n ih =>
  intro v1 v2 v3 v4 v5 v7 m h
  unfold wp_X11_stands_160 at h
  refine g_iload 6 (i := 7) X dX11_stands_160 rfl ?_
  refine g_aload_n 0 (i := 0) X dX11_stands_162 rfl rfl ?_
  refine g_getI X dX11_stands_163 fX11_159 ?_
  refine g_icmp_ge X dX11_stands_166 (tgt := 189) (by decide) (fun hc => ?_) (fun hc => ?_)
  · have h := h.1 hc
    refine g_iload 4 (i := 4) X dX11_stands_189 rfl ?_
    refine g_iload_n 1 (i := 1) X dX11_stands_191 rfl rfl ?_
    refine g_imul X dX11_stands_192 ?_
    refine g_nmI (fun v4_193 ev4_193 => ?_)
    have h := h v4_193 ev4_193
    refine g_istore (i := 4) (lv' := [(4, (0, v4_193)), (0, (2, 67)), (1, (0, v1)), (2, (0, v2)), (3, (0, v3)), (5, (0, v5)), (7, (0, v7))]) X dX11_stands_193 (by decide) rfl ?_
    refine g_iinc 5 (lv' := [(5, (0, w32 (v5 + 1))), (4, (0, v4_193)), (0, (2, 67)), (1, (0, v1)), (2, (0, v2)), (3, (0, v3)), (7, (0, v7))]) X dX11_stands_195 rfl (by decide) rfl ?_
    refine g_goto X dX11_stands_198 (tgt := 76) (by decide) ?_
    exact g_sub X [2, 3, 4, 5, 1, 0] rfl (hK76 _ _ _ _ _ _ h)
  · have h := h.2 hc
    refine g_aload_n 0 (i := 0) X dX11_stands_169 rfl rfl ?_
    refine g_getR X dX11_stands_170 fX11_95 ?_
    refine g_iload 6 (i := 7) X dX11_stands_173 rfl ?_
    refine g_aload_n 0 (i := 0) X dX11_stands_175 rfl rfl ?_
    refine g_getR X dX11_stands_176 fX11_98 ?_
    refine g_iload 6 (i := 7) X dX11_stands_179 rfl ?_
    obtain ⟨hi, h⟩ := h
    refine g_iald X dX11_stands_181 rfl hi ?_
    obtain ⟨hi, h⟩ := h
    refine g_iast X dX11_stands_182 rfl hi (fun m182 em182 => ?_)
    have h := h m182 em182
    refine g_iinc 6 (lv' := [(7, (0, w32 (v7 + 1))), (0, (2, 67)), (1, (0, v1)), (2, (0, v2)), (3, (0, v3)), (4, (0, v4)), (5, (0, v5))]) X dX11_stands_183 rfl (by decide) rfl ?_
    refine g_goto X dX11_stands_186 (tgt := 160) (by decide) ?_
    exact g_sub X [1, 2, 3, 4, 5, 6, 0] rfl (ih _ _ _ _ _ _ _ h)
def wp_X11_stands_76  (post : Int → Mem → Prop) : Nat → Int → Int → Int → Int → Int → Mem → Prop
  | 0, _, _, _, _, _, _ => False
  | n + 1, v1, v2, v3, v4, v5, m =>
  ((v2 ≤ v5 → ((0 ≤ v3 ∧ v3 < 16) ∧ (post (m 96 v3) m))) ∧
  (¬ v2 ≤ v5 → (∃ n_8 : Nat, wp_X11_stands_88 (fun v1_4 v2_4 v3_4 v4_4 v5_4 v7_4 m_4 => ∃ n_7 : Nat, wp_X11_stands_160 (fun v1_6 v2_6 v3_6 v4_6 v5_6 m_6 => wp_X11_stands_76  post n v1_6 v2_6 v3_6 v4_6 v5_6 m_6) post n_7 v1_4 v2_4 v3_4 v4_4 v5_4 v7_4 m_4) post n_8 v1 v2 v3 v4 v5 0 0 m)))
set_option maxRecDepth 100000 in
theorem pf_X11_stands_76 {l : Launch} {x : WX} {G : GT} {post : Int → Mem → Prop}  (X : Ax l x cX11_stands RX11 9 (rmd 2) 106 G) (hr : RI cX11_stands post G) : ∀ (n : Nat) (v1 : Int) (v2 : Int) (v3 : Int) (v4 : Int) (v5 : Int) (m : Mem) (_ : wp_X11_stands_76  post n v1 v2 v3 v4 v5 m), G 76 [(0, (2, 67)), (1, (0, v1)), (2, (0, v2)), (3, (0, v3)), (4, (0, v4)), (5, (0, v5))] [] m := by
  intro n
  induction n with
  | zero => intro v1 v2 v3 v4 v5 m h; exact absurd h id
  | succ n ih =>
  intro v1 v2 v3 v4 v5 m h
  unfold wp_X11_stands_76 at h
  refine g_iload 5 (i := 5) X dX11_stands_76 rfl ?_
  refine g_iload_n 2 (i := 2) X dX11_stands_78 rfl rfl ?_
  refine g_icmp_ge X dX11_stands_79 (tgt := 201) (by decide) (fun hc => ?_) (fun hc => ?_)
  · have h := h.1 hc
    refine g_aload_n 0 (i := 0) X dX11_stands_201 rfl rfl ?_
    refine g_getR X dX11_stands_202 fX11_95 ?_
    refine g_iload_n 3 (i := 3) X dX11_stands_205 rfl rfl ?_
    obtain ⟨hi, h⟩ := h
    refine g_iald X dX11_stands_206 rfl hi ?_
    exact hr _ _ _ _ _ dX11_stands_207 h
  · have h := h.2 hc
    refine g_iconst X dX11_stands_82 (by decide) ?_
    refine g_istore (i := 6) (lv' := [(6, (0, 0)), (0, (2, 67)), (1, (0, v1)), (2, (0, v2)), (3, (0, v3)), (4, (0, v4)), (5, (0, v5))]) X dX11_stands_83 (by decide) rfl ?_
    refine g_iconst X dX11_stands_85 (by decide) ?_
    refine g_istore (i := 7) (lv' := [(7, (0, 0)), (6, (0, 0)), (0, (2, 67)), (1, (0, v1)), (2, (0, v2)), (3, (0, v3)), (4, (0, v4)), (5, (0, v5))]) X dX11_stands_86 (by decide) rfl ?_
    obtain ⟨n_8, h⟩ := h
    refine g_sub X [2, 3, 4, 5, 6, 7, 1, 0] rfl (pf_X11_stands_88 X hr (fun v1_4 v2_4 v3_4 v4_4 v5_4 v7_4 m_4 h => ?_) n_8 _ _ _ _ _ _ _ _ h)
    · obtain ⟨n_7, h⟩ := h
      refine g_sub X [0, 1, 2, 3, 4, 5, 6] rfl (pf_X11_stands_160 X hr (fun v1_6 v2_6 v3_6 v4_6 v5_6 m_6 h => ?_) n_7 _ _ _ _ _ _ _ h)
      · exact g_sub X [0, 1, 2, 3, 4, 5] rfl (ih _ _ _ _ _ _ h)
def wp_X11_stands (v1 : Int) (v2 : Int) (v3 : Int) (m : Mem) (post : Int → Mem → Prop) : Prop :=
  wp_X11_in v3 0 (w32 (m 67 20 - 1)) m (fun r8 m8 => ((¬ r8 = 0 → (wp_X11_in v1 2 8 m8 (fun r21 m21 => ((r21 = 0 → (post (-102) m21)) ∧
  (¬ r21 = 0 → (wp_X11_stepsBy v1 m21 (fun r31 m31 => wp_X11_in v2 0 r31 m31 (fun r34 m34 => ((¬ r34 = 0 → (∃ n_10 : Nat, wp_X11_stands_46 (fun v1_1 v2_1 v3_1 v4_1 v5_1 m_1 => ∃ n_9 : Nat, wp_X11_stands_76  post n_9 v1_1 v2_1 v3_1 v4_1 v5_1 m_1) post n_10 v1 v2 v3 0 m34)) ∧
  (r34 = 0 → (post (-102) m34))))))))))) ∧
  (r8 = 0 → (post (-101) m8))))
set_option maxRecDepth 100000 in
theorem pf_X11_stands {l : Launch} {x : WX} {G : GT} {post : Int → Mem → Prop} (X : Ax l x cX11_stands RX11 9 (rmd 2) 106 G) (hr : RI cX11_stands post G) (v1 : Int) (v2 : Int) (v3 : Int) (m : Mem) (h : wp_X11_stands v1 v2 v3 m post) : G 0 [(0, (2, 67)), (1, (0, v1)), (2, (0, v2)), (3, (0, v3))] [] m := by
  unfold wp_X11_stands at h
  refine g_iload_n 3 (i := 3) X dX11_stands_0 rfl rfl ?_
  refine g_iconst X dX11_stands_1 (by decide) ?_
  refine g_aload_n 0 (i := 0) X dX11_stands_2 rfl rfl ?_
  refine g_getI X dX11_stands_3 fX11_159 ?_
  refine g_iconst X dX11_stands_6 (by decide) ?_
  refine g_isub X dX11_stands_7 ?_
  refine g_cSI (st := []) X dX11_stands_8 YX11_in lX11_134 (by decide) (im_X11_in l x _ _ _ _ _ h) rfl ⟨by decide, by decide⟩ rfl (Nat.le_of_ble_eq_true rfl) (fun r8 m8 h => ?_)
  refine g_if_ne X dX11_stands_11 (tgt := 17) (by decide) (fun hc => ?_) (fun hc => ?_)
  · have h := h.1 hc
    refine g_iload_n 1 (i := 1) X dX11_stands_17 rfl rfl ?_
    refine g_iconst X dX11_stands_18 (by decide) ?_
    refine g_bipush X dX11_stands_19 (by decide) ?_
    refine g_cSI (st := []) X dX11_stands_21 YX11_in lX11_134 (by decide) (im_X11_in l x _ _ _ _ _ h) rfl ⟨by decide, by decide⟩ rfl (Nat.le_of_ble_eq_true rfl) (fun r21 m21 h => ?_)
    refine g_if_eq X dX11_stands_24 (tgt := 40) (by decide) (fun hc => ?_) (fun hc => ?_)
    · have h := h.1 hc
      refine g_bipush X dX11_stands_40 (by decide) ?_
      exact hr _ _ _ _ _ dX11_stands_42 h
    · have h := h.2 hc
      refine g_iload_n 2 (i := 2) X dX11_stands_27 rfl rfl ?_
      refine g_iconst X dX11_stands_28 (by decide) ?_
      refine g_aload_n 0 (i := 0) X dX11_stands_29 rfl rfl ?_
      refine g_iload_n 1 (i := 1) X dX11_stands_30 rfl rfl ?_
      refine g_cVI (st := [(0, 0), (0, v2)]) X dX11_stands_31 YX11_stepsBy lX11_266 (by decide) (im_X11_stepsBy l x _ _ _ h) rfl ⟨by decide, by decide⟩ rfl (Nat.le_of_ble_eq_true rfl) (fun r31 m31 h => ?_)
      refine g_cSI (st := []) X dX11_stands_34 YX11_in lX11_134 (by decide) (im_X11_in l x _ _ _ _ _ h) rfl ⟨by decide, by decide⟩ rfl (Nat.le_of_ble_eq_true rfl) (fun r34 m34 h => ?_)
      refine g_if_ne X dX11_stands_37 (tgt := 43) (by decide) (fun hc => ?_) (fun hc => ?_)
      · have h := h.1 hc
        refine g_iconst X dX11_stands_43 (by decide) ?_
        refine g_istore (i := 4) (lv' := [(4, (0, 0)), (0, (2, 67)), (1, (0, v1)), (2, (0, v2)), (3, (0, v3))]) X dX11_stands_44 (by decide) rfl ?_
        obtain ⟨n_10, h⟩ := h
        refine g_sub X [1, 2, 3, 4, 0] rfl (pf_X11_stands_46 X hr (fun v1_1 v2_1 v3_1 v4_1 v5_1 m_1 h => ?_) n_10 _ _ _ _ _ h)
        · obtain ⟨n_9, h⟩ := h
          refine g_sub X [0, 1, 2, 3, 4, 5] rfl (pf_X11_stands_76 X hr  n_9 _ _ _ _ _ _ h)
      · have h := h.2 hc
        refine g_bipush X dX11_stands_40 (by decide) ?_
        exact hr _ _ _ _ _ dX11_stands_42 h
  · have h := h.2 hc
    refine g_bipush X dX11_stands_14 (by decide) ?_
    exact hr _ _ _ _ _ dX11_stands_16 h
theorem im_X11_stands (l : Launch) (x : WX) (v1 : Int) (v2 : Int) (v3 : Int) (m : Mem) (post : Int → Mem → Prop) (h : wp_X11_stands v1 v2 v3 m post) : MetI l x 106 2 yX11_stands cX11_stands 9 .int [(2, 67), (0, v1), (0, v2), (0, v3)] m post := met_I (by decide) (Nat.le_of_ble_eq_true rfl) (fun _ X hr => pf_X11_stands X hr v1 v2 v3 m h)
def wp_X11_load (v1 : Int) (v2 : Int) (v3 : Int) (m : Mem) (post : Int → Mem → Prop) : Prop :=
  wp_X11_isYard v1 m (fun r2 m2 => ((r2 = 0 → (post (-101) m2)) ∧
  (¬ r2 = 0 → (wp_X11_isYard v2 m2 (fun r10 m10 => ((r10 = 0 → (post (-101) m10)) ∧
  (¬ r10 = 0 → (((¬ v1 = v2 → (wp_X11_in v3 0 99 m10 (fun r28 m28 => ((¬ r28 = 0 → ((0 ≤ w32 (w32 (8 * v1) + v2) ∧ w32 (w32 (8 * v1) + v2) < 64) ∧ (∀ v4_48 : Int, v4_48 = m28 81 (w32 (w32 (8 * v1) + v2)) → ((0 ≤ w32 (w32 (8 * v1) + v2) ∧ w32 (w32 (8 * v1) + v2) < 64) ∧ (∀ m61 : Mem, m61 = mset m28 81 (w32 (w32 (8 * v1) + v2)) v3 → (post v4_48 m61)))))) ∧
  (r28 = 0 → (post (-102) m28)))))) ∧
  (v1 = v2 → (post (-101) m10)))))))))))
set_option maxRecDepth 100000 in
theorem pf_X11_load {l : Launch} {x : WX} {G : GT} {post : Int → Mem → Prop} (X : Ax l x cX11_load RX11 5 (rmd 2) 106 G) (hr : RI cX11_load post G) (v1 : Int) (v2 : Int) (v3 : Int) (m : Mem) (h : wp_X11_load v1 v2 v3 m post) : G 0 [(0, (2, 67)), (1, (0, v1)), (2, (0, v2)), (3, (0, v3))] [] m := by
  unfold wp_X11_load at h
  refine g_aload_n 0 (i := 0) X dX11_load_0 rfl rfl ?_
  refine g_iload_n 1 (i := 1) X dX11_load_1 rfl rfl ?_
  refine g_cVI (st := []) X dX11_load_2 YX11_isYard lX11_174 (by decide) (im_X11_isYard l x _ _ _ h) rfl ⟨by decide, by decide⟩ rfl (Nat.le_of_ble_eq_true rfl) (fun r2 m2 h => ?_)
  refine g_if_eq X dX11_load_5 (tgt := 21) (by decide) (fun hc => ?_) (fun hc => ?_)
  · have h := h.1 hc
    refine g_bipush X dX11_load_21 (by decide) ?_
    exact hr _ _ _ _ _ dX11_load_23 h
  · have h := h.2 hc
    refine g_aload_n 0 (i := 0) X dX11_load_8 rfl rfl ?_
    refine g_iload_n 2 (i := 2) X dX11_load_9 rfl rfl ?_
    refine g_cVI (st := []) X dX11_load_10 YX11_isYard lX11_174 (by decide) (im_X11_isYard l x _ _ _ h) rfl ⟨by decide, by decide⟩ rfl (Nat.le_of_ble_eq_true rfl) (fun r10 m10 h => ?_)
    refine g_if_eq X dX11_load_13 (tgt := 21) (by decide) (fun hc => ?_) (fun hc => ?_)
    · have h := h.1 hc
      refine g_bipush X dX11_load_21 (by decide) ?_
      exact hr _ _ _ _ _ dX11_load_23 h
    · have h := h.2 hc
      refine g_iload_n 1 (i := 1) X dX11_load_16 rfl rfl ?_
      refine g_iload_n 2 (i := 2) X dX11_load_17 rfl rfl ?_
      refine g_icmp_ne X dX11_load_18 (tgt := 24) (by decide) (fun hc => ?_) (fun hc => ?_)
      · have h := h.1 hc
        refine g_iload_n 3 (i := 3) X dX11_load_24 rfl rfl ?_
        refine g_iconst X dX11_load_25 (by decide) ?_
        refine g_bipush X dX11_load_26 (by decide) ?_
        refine g_cSI (st := []) X dX11_load_28 YX11_in lX11_134 (by decide) (im_X11_in l x _ _ _ _ _ h) rfl ⟨by decide, by decide⟩ rfl (Nat.le_of_ble_eq_true rfl) (fun r28 m28 h => ?_)
        refine g_if_ne X dX11_load_31 (tgt := 37) (by decide) (fun hc => ?_) (fun hc => ?_)
        · have h := h.1 hc
          refine g_aload_n 0 (i := 0) X dX11_load_37 rfl rfl ?_
          refine g_getR X dX11_load_38 fX11_50 ?_
          refine g_bipush X dX11_load_41 (by decide) ?_
          refine g_iload_n 1 (i := 1) X dX11_load_43 rfl rfl ?_
          refine g_imul X dX11_load_44 ?_
          refine g_iload_n 2 (i := 2) X dX11_load_45 rfl rfl ?_
          refine g_iadd X dX11_load_46 ?_
          obtain ⟨hi, h⟩ := h
          refine g_iald X dX11_load_47 rfl hi ?_
          refine g_nmI (fun v4_48 ev4_48 => ?_)
          have h := h v4_48 ev4_48
          refine g_istore (i := 4) (lv' := [(4, (0, v4_48)), (0, (2, 67)), (1, (0, v1)), (2, (0, v2)), (3, (0, v3))]) X dX11_load_48 (by decide) rfl ?_
          refine g_aload_n 1 (i := 0) X dX11_load_50 rfl rfl ?_
          refine g_getR X dX11_load_51 fX11_50 ?_
          refine g_bipush X dX11_load_54 (by decide) ?_
          refine g_iload_n 2 (i := 1) X dX11_load_56 rfl rfl ?_
          refine g_imul X dX11_load_57 ?_
          refine g_iload_n 3 (i := 2) X dX11_load_58 rfl rfl ?_
          refine g_iadd X dX11_load_59 ?_
          refine g_iload_n 4 (i := 3) X dX11_load_60 rfl rfl ?_
          obtain ⟨hi, h⟩ := h
          refine g_iast X dX11_load_61 rfl hi (fun m61 em61 => ?_)
          have h := h m61 em61
          refine g_iload 0 (i := 4) X dX11_load_62 rfl ?_
          exact hr _ _ _ _ _ dX11_load_64 h
        · have h := h.2 hc
          refine g_bipush X dX11_load_34 (by decide) ?_
          exact hr _ _ _ _ _ dX11_load_36 h
      · have h := h.2 hc
        refine g_bipush X dX11_load_21 (by decide) ?_
        exact hr _ _ _ _ _ dX11_load_23 h
theorem im_X11_load (l : Launch) (x : WX) (v1 : Int) (v2 : Int) (v3 : Int) (m : Mem) (post : Int → Mem → Prop) (h : wp_X11_load v1 v2 v3 m post) : MetI l x 106 2 yX11_load cX11_load 5 .int [(2, 67), (0, v1), (0, v2), (0, v3)] m post := met_I (by decide) (Nat.le_of_ble_eq_true rfl) (fun _ X hr => pf_X11_load X hr v1 v2 v3 m h)
