/-! methods: what they mean, and that their bytecode means it (printed by a program of mine) -/
def wp_X10_wagon (v1 : Int) (v2 : Int) (m : Mem) (post : Int → Mem → Prop) : Prop :=
  wp_X3_hasPair v1 v2 m (fun r6 m6 => ((¬ r6 = 0 → (((m6 28 4 < 30 → (wp_X9_add v1 v2 m6 (fun r36 m36 => post r36 m36))) ∧
  (¬ m6 28 4 < 30 → (post (-104) m6))))) ∧
  (r6 = 0 → (post (-101) m6))))
set_option maxRecDepth 100000 in
theorem pf_X10_wagon {l : Launch} {x : WX} {G : GT} {post : Int → Mem → Prop} (X : Ax l x cX10_wagon RX10 3 (rmd 2) 67 G) (hr : RI cX10_wagon post G) (v1 : Int) (v2 : Int) (m : Mem) (h : wp_X10_wagon v1 v2 m post) : G 0 [(0, (2, 0)), (1, (0, v1)), (2, (0, v2))] [] m := by
  unfold wp_X10_wagon at h
  refine g_aload_n 0 (i := 0) X dX10_wagon_0 rfl rfl ?_
  refine g_getR X dX10_wagon_1 fX10_10 ?_
  refine g_iload_n 1 (i := 1) X dX10_wagon_4 rfl rfl ?_
  refine g_iload_n 2 (i := 2) X dX10_wagon_5 rfl rfl ?_
  refine g_cVI (st := []) X dX10_wagon_6 YX3_hasPair lX10_99 (by decide) (im_X3_hasPair l x _ _ _ _ h) rfl ⟨by decide, by decide⟩ rfl (Nat.le_of_ble_eq_true rfl) (fun r6 m6 h => ?_)
  refine g_if_ne X dX10_wagon_9 (tgt := 15) (by decide) (fun hc => ?_) (fun hc => ?_)
  · have h := h.1 hc
    refine g_aload_n 0 (i := 0) X dX10_wagon_15 rfl rfl ?_
    refine g_getR X dX10_wagon_16 fX10_40 ?_
    refine g_getI X dX10_wagon_19 fX10_200 ?_
    refine g_bipush X dX10_wagon_22 (by decide) ?_
    refine g_icmp_lt X dX10_wagon_24 (tgt := 30) (by decide) (fun hc => ?_) (fun hc => ?_)
    · have h := h.1 hc
      refine g_aload_n 0 (i := 0) X dX10_wagon_30 rfl rfl ?_
      refine g_getR X dX10_wagon_31 fX10_40 ?_
      refine g_iload_n 1 (i := 1) X dX10_wagon_34 rfl rfl ?_
      refine g_iload_n 2 (i := 2) X dX10_wagon_35 rfl rfl ?_
      refine g_cVI (st := []) X dX10_wagon_36 YX9_add lX10_201 (by decide) (im_X9_add l x _ _ _ _ h) rfl ⟨by decide, by decide⟩ rfl (Nat.le_of_ble_eq_true rfl) (fun r36 m36 h => ?_)
      exact hr _ _ _ _ _ dX10_wagon_39 h
    · have h := h.2 hc
      refine g_bipush X dX10_wagon_27 (by decide) ?_
      exact hr _ _ _ _ _ dX10_wagon_29 h
  · have h := h.2 hc
    refine g_bipush X dX10_wagon_12 (by decide) ?_
    exact hr _ _ _ _ _ dX10_wagon_14 h
theorem im_X10_wagon (l : Launch) (x : WX) (v1 : Int) (v2 : Int) (m : Mem) (post : Int → Mem → Prop) (h : wp_X10_wagon v1 v2 m post) : MetI l x 67 2 yX10_wagon cX10_wagon 3 .int [(2, 0), (0, v1), (0, v2)] m post := met_I (by decide) (Nat.le_of_ble_eq_true rfl) (fun _ X hr => pf_X10_wagon X hr v1 v2 m h)
def wp_X10_sorting (v1 : Int) (m : Mem) (post : Int → Mem → Prop) : Prop :=
  ((v1 < 0 → (post (-102) m)) ∧
  (¬ v1 < 0 → (((v1 ≤ 12 → (∀ v2_20 : Int, v2_20 = m 28 1 → (∀ m26 : Mem, m26 = mset m 28 1 v1 → (post v2_20 m26)))) ∧
  (¬ v1 ≤ 12 → (post (-102) m))))))
set_option maxRecDepth 100000 in
theorem pf_X10_sorting {l : Launch} {x : WX} {G : GT} {post : Int → Mem → Prop} (X : Ax l x cX10_sorting RX10 3 (rmd 0) 67 G) (hr : RI cX10_sorting post G) (v1 : Int) (m : Mem) (h : wp_X10_sorting v1 m post) : G 0 [(0, (2, 0)), (1, (0, v1))] [] m := by
  unfold wp_X10_sorting at h
  refine g_iload_n 1 (i := 1) X dX10_sorting_0 rfl rfl ?_
  refine g_if_lt X dX10_sorting_1 (tgt := 10) (by decide) (fun hc => ?_) (fun hc => ?_)
  · have h := h.1 hc
    refine g_bipush X dX10_sorting_10 (by decide) ?_
    exact hr _ _ _ _ _ dX10_sorting_12 h
  · have h := h.2 hc
    refine g_iload_n 1 (i := 1) X dX10_sorting_4 rfl rfl ?_
    refine g_bipush X dX10_sorting_5 (by decide) ?_
    refine g_icmp_le X dX10_sorting_7 (tgt := 13) (by decide) (fun hc => ?_) (fun hc => ?_)
    · have h := h.1 hc
      refine g_aload_n 0 (i := 0) X dX10_sorting_13 rfl rfl ?_
      refine g_getR X dX10_sorting_14 fX10_40 ?_
      refine g_getI X dX10_sorting_17 fX10_203 ?_
      refine g_nmI (fun v2_20 ev2_20 => ?_)
      have h := h v2_20 ev2_20
      refine g_istore_n (i := 2) (lv' := [(2, (0, v2_20)), (0, (2, 0)), (1, (0, v1))]) X dX10_sorting_20 rfl (by decide) rfl ?_
      refine g_aload_n 1 (i := 0) X dX10_sorting_21 rfl rfl ?_
      refine g_getR X dX10_sorting_22 fX10_40 ?_
      refine g_iload_n 2 (i := 1) X dX10_sorting_25 rfl rfl ?_
      refine g_putI X dX10_sorting_26 pX10_203 (fun m26 em26 => ?_)
      have h := h m26 em26
      refine g_iload_n 0 (i := 2) X dX10_sorting_29 rfl rfl ?_
      exact hr _ _ _ _ _ dX10_sorting_30 h
    · have h := h.2 hc
      refine g_bipush X dX10_sorting_10 (by decide) ?_
      exact hr _ _ _ _ _ dX10_sorting_12 h
theorem im_X10_sorting (l : Launch) (x : WX) (v1 : Int) (m : Mem) (post : Int → Mem → Prop) (h : wp_X10_sorting v1 m post) : MetI l x 67 0 yX10_sorting cX10_sorting 3 .int [(2, 0), (0, v1)] m post := met_I (by decide) (Nat.le_of_ble_eq_true rfl) (fun _ X hr => pf_X10_sorting X hr v1 m h)
def wp_X10_close_54 (v1 : Int) (v2 : Int) (v3 : Int) (m : Mem)  (post : Int → Mem → Prop) : Prop :=
  (0 ≤ v1 ∧ v1 < 8) ∧ (∀ m63 : Mem, m63 = mset m 29 v1 v2 → ((0 ≤ v1 ∧ v1 < 8) ∧ (∀ m73 : Mem, m73 = mset m63 30 v1 v3 → (post 1 m73))))
set_option maxRecDepth 100000 in
theorem pf_X10_close_54 {l : Launch} {x : WX} {G : GT} {post : Int → Mem → Prop}  (X : Ax l x cX10_close RX10 5 (rmd 1) 67 G) (hr : RI cX10_close post G) (v1 : Int) (v2 : Int) (v3 : Int) (m : Mem) (h : wp_X10_close_54 v1 v2 v3 m  post) : G 54 [(0, (2, 0)), (1, (0, v1)), (2, (0, v2)), (3, (0, v3))] [] m := by
  unfold wp_X10_close_54 at h
  refine g_aload_n 0 (i := 0) X dX10_close_54 rfl rfl ?_
  refine g_getR X dX10_close_55 fX10_40 ?_
  refine g_getR X dX10_close_58 fX10_206 ?_
  refine g_iload_n 1 (i := 1) X dX10_close_61 rfl rfl ?_
  refine g_iload_n 2 (i := 2) X dX10_close_62 rfl rfl ?_
  obtain ⟨hi, h⟩ := h
  refine g_iast X dX10_close_63 rfl hi (fun m63 em63 => ?_)
  have h := h m63 em63
  refine g_aload_n 0 (i := 0) X dX10_close_64 rfl rfl ?_
  refine g_getR X dX10_close_65 fX10_40 ?_
  refine g_getR X dX10_close_68 fX10_209 ?_
  refine g_iload_n 1 (i := 1) X dX10_close_71 rfl rfl ?_
  refine g_iload_n 3 (i := 3) X dX10_close_72 rfl rfl ?_
  obtain ⟨hi, h⟩ := h
  refine g_iast X dX10_close_73 rfl hi (fun m73 em73 => ?_)
  have h := h m73 em73
  refine g_iconst X dX10_close_74 (by decide) ?_
  exact hr _ _ _ _ _ dX10_close_75 h
def wp_X10_close_29 (v1 : Int) (v2 : Int) (v3 : Int) (s0 : Int) (m : Mem)  (post : Int → Mem → Prop) : Prop :=
  ((¬ s0 = 0 → (wp_X10_close_54 v1 v2 v3 m  post)) ∧
  (s0 = 0 → (((v2 < 0 → (post (-102) m)) ∧
  (¬ v2 < 0 → (((v3 < v2 → (post (-102) m)) ∧
  (¬ v3 < v2 → (((v3 ≤ 99 → (wp_X10_close_54 v1 v2 v3 m  post)) ∧
  (¬ v3 ≤ 99 → (post (-102) m))))))))))))
set_option maxRecDepth 100000 in
theorem pf_X10_close_29 {l : Launch} {x : WX} {G : GT} {post : Int → Mem → Prop}  (X : Ax l x cX10_close RX10 5 (rmd 1) 67 G) (hr : RI cX10_close post G) (v1 : Int) (v2 : Int) (v3 : Int) (s0 : Int) (m : Mem) (h : wp_X10_close_29 v1 v2 v3 s0 m  post) : G 29 [(0, (2, 0)), (1, (0, v1)), (2, (0, v2)), (3, (0, v3))] [(0, s0)] m := by
  unfold wp_X10_close_29 at h
  refine g_istore (i := 4) (lv' := [(4, (0, s0)), (0, (2, 0)), (1, (0, v1)), (2, (0, v2)), (3, (0, v3))]) X dX10_close_29 (by decide) rfl ?_
  refine g_iload 0 (i := 4) X dX10_close_31 rfl ?_
  refine g_if_ne X dX10_close_33 (tgt := 54) (by decide) (fun hc => ?_) (fun hc => ?_)
  · have h := h.1 hc
    refine g_sub X [1, 2, 3, 4] rfl (pf_X10_close_54 X hr  _ _ _ _ h)
  · have h := h.2 hc
    refine g_iload_n 3 (i := 2) X dX10_close_36 rfl rfl ?_
    refine g_if_lt X dX10_close_37 (tgt := 51) (by decide) (fun hc => ?_) (fun hc => ?_)
    · have h := h.1 hc
      refine g_bipush X dX10_close_51 (by decide) ?_
      exact hr _ _ _ _ _ dX10_close_53 h
    · have h := h.2 hc
      refine g_iload_n 4 (i := 3) X dX10_close_40 rfl rfl ?_
      refine g_iload_n 3 (i := 2) X dX10_close_41 rfl rfl ?_
      refine g_icmp_lt X dX10_close_42 (tgt := 51) (by decide) (fun hc => ?_) (fun hc => ?_)
      · have h := h.1 hc
        refine g_bipush X dX10_close_51 (by decide) ?_
        exact hr _ _ _ _ _ dX10_close_53 h
      · have h := h.2 hc
        refine g_iload_n 4 (i := 3) X dX10_close_45 rfl rfl ?_
        refine g_bipush X dX10_close_46 (by decide) ?_
        refine g_icmp_le X dX10_close_48 (tgt := 54) (by decide) (fun hc => ?_) (fun hc => ?_)
        · have h := h.1 hc
          refine g_sub X [1, 2, 3, 4] rfl (pf_X10_close_54 X hr  _ _ _ _ h)
        · have h := h.2 hc
          refine g_bipush X dX10_close_51 (by decide) ?_
          exact hr _ _ _ _ _ dX10_close_53 h
def wp_X10_close_28 (v1 : Int) (v2 : Int) (v3 : Int) (m : Mem)  (post : Int → Mem → Prop) : Prop :=
  wp_X10_close_29 v1 v2 v3 0 m  post
set_option maxRecDepth 100000 in
theorem pf_X10_close_28 {l : Launch} {x : WX} {G : GT} {post : Int → Mem → Prop}  (X : Ax l x cX10_close RX10 5 (rmd 1) 67 G) (hr : RI cX10_close post G) (v1 : Int) (v2 : Int) (v3 : Int) (m : Mem) (h : wp_X10_close_28 v1 v2 v3 m  post) : G 28 [(0, (2, 0)), (1, (0, v1)), (2, (0, v2)), (3, (0, v3))] [] m := by
  unfold wp_X10_close_28 at h
  refine g_iconst X dX10_close_28 (by decide) ?_
  refine g_sub X [0, 1, 2, 3] rfl (pf_X10_close_29 X hr  _ _ _ _ _ h)
def wp_X10_close (v1 : Int) (v2 : Int) (v3 : Int) (m : Mem) (post : Int → Mem → Prop) : Prop :=
  wp_X3_has v1 m (fun r5 m5 => ((¬ r5 = 0 → (((¬ v2 = (-1) → (wp_X10_close_28 v1 v2 v3 m5  post)) ∧
  (v2 = (-1) → (((¬ v3 = (-1) → (wp_X10_close_28 v1 v2 v3 m5  post)) ∧
  (v3 = (-1) → (wp_X10_close_29 v1 v2 v3 1 m5  post)))))))) ∧
  (r5 = 0 → (post (-101) m5))))
set_option maxRecDepth 100000 in
theorem pf_X10_close {l : Launch} {x : WX} {G : GT} {post : Int → Mem → Prop} (X : Ax l x cX10_close RX10 5 (rmd 1) 67 G) (hr : RI cX10_close post G) (v1 : Int) (v2 : Int) (v3 : Int) (m : Mem) (h : wp_X10_close v1 v2 v3 m post) : G 0 [(0, (2, 0)), (1, (0, v1)), (2, (0, v2)), (3, (0, v3))] [] m := by
  unfold wp_X10_close at h
  refine g_aload_n 0 (i := 0) X dX10_close_0 rfl rfl ?_
  refine g_getR X dX10_close_1 fX10_10 ?_
  refine g_iload_n 1 (i := 1) X dX10_close_4 rfl rfl ?_
  refine g_cVI (st := []) X dX10_close_5 YX3_has lX10_110 (by decide) (im_X3_has l x _ _ _ h) rfl ⟨by decide, by decide⟩ rfl (Nat.le_of_ble_eq_true rfl) (fun r5 m5 h => ?_)
  refine g_if_ne X dX10_close_8 (tgt := 14) (by decide) (fun hc => ?_) (fun hc => ?_)
  · have h := h.1 hc
    refine g_iload_n 2 (i := 2) X dX10_close_14 rfl rfl ?_
    refine g_iconst X dX10_close_15 (by decide) ?_
    refine g_icmp_ne X dX10_close_16 (tgt := 28) (by decide) (fun hc => ?_) (fun hc => ?_)
    · have h := h.1 hc
      refine g_sub X [0, 1, 2, 3] rfl (pf_X10_close_28 X hr  _ _ _ _ h)
    · have h := h.2 hc
      refine g_iload_n 3 (i := 3) X dX10_close_19 rfl rfl ?_
      refine g_iconst X dX10_close_20 (by decide) ?_
      refine g_icmp_ne X dX10_close_21 (tgt := 28) (by decide) (fun hc => ?_) (fun hc => ?_)
      · have h := h.1 hc
        refine g_sub X [0, 1, 2, 3] rfl (pf_X10_close_28 X hr  _ _ _ _ h)
      · have h := h.2 hc
        refine g_iconst X dX10_close_24 (by decide) ?_
        refine g_goto X dX10_close_25 (tgt := 29) (by decide) ?_
        refine g_sub X [0, 1, 2, 3] rfl (pf_X10_close_29 X hr  _ _ _ _ _ h)
  · have h := h.2 hc
    refine g_bipush X dX10_close_11 (by decide) ?_
    exact hr _ _ _ _ _ dX10_close_13 h
theorem im_X10_close (l : Launch) (x : WX) (v1 : Int) (v2 : Int) (v3 : Int) (m : Mem) (post : Int → Mem → Prop) (h : wp_X10_close v1 v2 v3 m post) : MetI l x 67 1 yX10_close cX10_close 5 .int [(2, 0), (0, v1), (0, v2), (0, v3)] m post := met_I (by decide) (Nat.le_of_ble_eq_true rfl) (fun _ X hr => pf_X10_close X hr v1 v2 v3 m h)
def wp_X10_pass_35  (post : Int → Mem → Prop) : Nat → Int → Int → Mem → Prop
  | 0, _, _, _ => False
  | n + 1, v1, v2, m =>
  ((v1 ≤ v2 → (post (m 28 0) m)) ∧
  (¬ v1 ≤ v2 → (wp_X9_passHour m (fun m52 => wp_X10_pass_35  post n v1 (w32 (v2 + 1)) m52))))
set_option maxRecDepth 100000 in
theorem pf_X10_pass_35 {l : Launch} {x : WX} {G : GT} {post : Int → Mem → Prop}  (X : Ax l x cX10_pass RX10 3 (rmd 4) 67 G) (hr : RI cX10_pass post G) : ∀ (n : Nat) (v1 : Int) (v2 : Int) (m : Mem) (_ : wp_X10_pass_35  post n v1 v2 m), G 35 [(0, (2, 0)), (1, (0, v1)), (2, (0, v2))] [] m := by
  intro n
  induction n with
  | zero => intro v1 v2 m h; exact absurd h id
  | succ n ih =>
  intro v1 v2 m h
  unfold wp_X10_pass_35 at h
  refine g_iload_n 2 (i := 2) X dX10_pass_35 rfl rfl ?_
  refine g_iload_n 1 (i := 1) X dX10_pass_36 rfl rfl ?_
  refine g_icmp_ge X dX10_pass_37 (tgt := 61) (by decide) (fun hc => ?_) (fun hc => ?_)
  · have h := h.1 hc
    refine g_aload_n 0 (i := 0) X dX10_pass_61 rfl rfl ?_
    refine g_getR X dX10_pass_62 fX10_40 ?_
    refine g_getI X dX10_pass_65 fX10_212 ?_
    exact hr _ _ _ _ _ dX10_pass_68 h
  · have h := h.2 hc
    refine g_aload_n 0 (i := 0) X dX10_pass_40 rfl rfl ?_
    refine g_getR X dX10_pass_41 fX10_40 ?_
    refine g_aload_n 0 (i := 0) X dX10_pass_44 rfl rfl ?_
    refine g_getR X dX10_pass_45 fX10_33 ?_
    refine g_aload_n 0 (i := 0) X dX10_pass_48 rfl rfl ?_
    refine g_getR X dX10_pass_49 fX10_26 ?_
    refine g_cVV (st := []) X dX10_pass_52 YX9_passHour lX10_215 (by decide) (im_X9_passHour l x  _ _ h) rfl ⟨by decide, by decide⟩ rfl (Nat.le_of_ble_eq_true rfl) (fun m52 h => ?_)
    refine g_iinc 2 (lv' := [(2, (0, w32 (v2 + 1))), (0, (2, 0)), (1, (0, v1))]) X dX10_pass_55 rfl (by decide) rfl ?_
    refine g_goto X dX10_pass_58 (tgt := 35) (by decide) ?_
    exact g_sub X [1, 2, 0] rfl (ih _ _ _ h)
def wp_X10_pass (v1 : Int) (m : Mem) (post : Int → Mem → Prop) : Prop :=
  ((v1 < 1 → (post (-102) m)) ∧
  (¬ v1 < 1 → (((v1 ≤ 200 → (((w32 (m 28 0 + v1) ≤ 2000 → (∃ n_1 : Nat, wp_X10_pass_35  post n_1 v1 0 m)) ∧
  (¬ w32 (m 28 0 + v1) ≤ 2000 → (post (-103) m))))) ∧
  (¬ v1 ≤ 200 → (post (-102) m))))))
set_option maxRecDepth 100000 in
theorem pf_X10_pass {l : Launch} {x : WX} {G : GT} {post : Int → Mem → Prop} (X : Ax l x cX10_pass RX10 3 (rmd 4) 67 G) (hr : RI cX10_pass post G) (v1 : Int) (m : Mem) (h : wp_X10_pass v1 m post) : G 0 [(0, (2, 0)), (1, (0, v1))] [] m := by
  unfold wp_X10_pass at h
  refine g_iload_n 1 (i := 1) X dX10_pass_0 rfl rfl ?_
  refine g_iconst X dX10_pass_1 (by decide) ?_
  refine g_icmp_lt X dX10_pass_2 (tgt := 12) (by decide) (fun hc => ?_) (fun hc => ?_)
  · have h := h.1 hc
    refine g_bipush X dX10_pass_12 (by decide) ?_
    exact hr _ _ _ _ _ dX10_pass_14 h
  · have h := h.2 hc
    refine g_iload_n 1 (i := 1) X dX10_pass_5 rfl rfl ?_
    refine g_sipush X dX10_pass_6 (by decide) ?_
    refine g_icmp_le X dX10_pass_9 (tgt := 15) (by decide) (fun hc => ?_) (fun hc => ?_)
    · have h := h.1 hc
      refine g_aload_n 0 (i := 0) X dX10_pass_15 rfl rfl ?_
      refine g_getR X dX10_pass_16 fX10_40 ?_
      refine g_getI X dX10_pass_19 fX10_212 ?_
      refine g_iload_n 1 (i := 1) X dX10_pass_22 rfl rfl ?_
      refine g_iadd X dX10_pass_23 ?_
      refine g_sipush X dX10_pass_24 (by decide) ?_
      refine g_icmp_le X dX10_pass_27 (tgt := 33) (by decide) (fun hc => ?_) (fun hc => ?_)
      · have h := h.1 hc
        refine g_iconst X dX10_pass_33 (by decide) ?_
        refine g_istore_n (i := 2) (lv' := [(2, (0, 0)), (0, (2, 0)), (1, (0, v1))]) X dX10_pass_34 rfl (by decide) rfl ?_
        obtain ⟨n_1, h⟩ := h
        refine g_sub X [1, 2, 0] rfl (pf_X10_pass_35 X hr  n_1 _ _ _ h)
      · have h := h.2 hc
        refine g_bipush X dX10_pass_30 (by decide) ?_
        exact hr _ _ _ _ _ dX10_pass_32 h
    · have h := h.2 hc
      refine g_bipush X dX10_pass_12 (by decide) ?_
      exact hr _ _ _ _ _ dX10_pass_14 h
theorem im_X10_pass (l : Launch) (x : WX) (v1 : Int) (m : Mem) (post : Int → Mem → Prop) (h : wp_X10_pass v1 m post) : MetI l x 67 4 yX10_pass cX10_pass 3 .int [(2, 0), (0, v1)] m post := met_I (by decide) (Nat.le_of_ble_eq_true rfl) (fun _ X hr => pf_X10_pass X hr v1 m h)
def wp_X10_wagonIs (v1 : Int) (v2 : Int) (m : Mem) (post : Int → Mem → Prop) : Prop :=
  wp_X9_has v1 m (fun r5 m5 => ((¬ r5 = 0 → (((v2 < 0 → (post (-102) m5)) ∧
  (¬ v2 < 0 → (((v2 ≤ 5 → (wp_X9_tell v1 v2 m5 (fun r32 m32 => post r32 m32))) ∧
  (¬ v2 ≤ 5 → (post (-102) m5)))))))) ∧
  (r5 = 0 → (post (-101) m5))))
set_option maxRecDepth 100000 in
theorem pf_X10_wagonIs {l : Launch} {x : WX} {G : GT} {post : Int → Mem → Prop} (X : Ax l x cX10_wagonIs RX10 3 (rmd 1) 67 G) (hr : RI cX10_wagonIs post G) (v1 : Int) (v2 : Int) (m : Mem) (h : wp_X10_wagonIs v1 v2 m post) : G 0 [(0, (2, 0)), (1, (0, v1)), (2, (0, v2))] [] m := by
  unfold wp_X10_wagonIs at h
  refine g_aload_n 0 (i := 0) X dX10_wagonIs_0 rfl rfl ?_
  refine g_getR X dX10_wagonIs_1 fX10_40 ?_
  refine g_iload_n 1 (i := 1) X dX10_wagonIs_4 rfl rfl ?_
  refine g_cVI (st := []) X dX10_wagonIs_5 YX9_has lX10_219 (by decide) (im_X9_has l x _ _ _ h) rfl ⟨by decide, by decide⟩ rfl (Nat.le_of_ble_eq_true rfl) (fun r5 m5 h => ?_)
  refine g_if_ne X dX10_wagonIs_8 (tgt := 14) (by decide) (fun hc => ?_) (fun hc => ?_)
  · have h := h.1 hc
    refine g_iload_n 2 (i := 2) X dX10_wagonIs_14 rfl rfl ?_
    refine g_if_lt X dX10_wagonIs_15 (tgt := 23) (by decide) (fun hc => ?_) (fun hc => ?_)
    · have h := h.1 hc
      refine g_bipush X dX10_wagonIs_23 (by decide) ?_
      exact hr _ _ _ _ _ dX10_wagonIs_25 h
    · have h := h.2 hc
      refine g_iload_n 2 (i := 2) X dX10_wagonIs_18 rfl rfl ?_
      refine g_iconst X dX10_wagonIs_19 (by decide) ?_
      refine g_icmp_le X dX10_wagonIs_20 (tgt := 26) (by decide) (fun hc => ?_) (fun hc => ?_)
      · have h := h.1 hc
        refine g_aload_n 0 (i := 0) X dX10_wagonIs_26 rfl rfl ?_
        refine g_getR X dX10_wagonIs_27 fX10_40 ?_
        refine g_iload_n 1 (i := 1) X dX10_wagonIs_30 rfl rfl ?_
        refine g_iload_n 2 (i := 2) X dX10_wagonIs_31 rfl rfl ?_
        refine g_cVI (st := []) X dX10_wagonIs_32 YX9_tell lX10_220 (by decide) (im_X9_tell l x _ _ _ _ h) rfl ⟨by decide, by decide⟩ rfl (Nat.le_of_ble_eq_true rfl) (fun r32 m32 h => ?_)
        exact hr _ _ _ _ _ dX10_wagonIs_35 h
      · have h := h.2 hc
        refine g_bipush X dX10_wagonIs_23 (by decide) ?_
        exact hr _ _ _ _ _ dX10_wagonIs_25 h
  · have h := h.2 hc
    refine g_bipush X dX10_wagonIs_11 (by decide) ?_
    exact hr _ _ _ _ _ dX10_wagonIs_13 h
theorem im_X10_wagonIs (l : Launch) (x : WX) (v1 : Int) (v2 : Int) (m : Mem) (post : Int → Mem → Prop) (h : wp_X10_wagonIs v1 v2 m post) : MetI l x 67 1 yX10_wagonIs cX10_wagonIs 3 .int [(2, 0), (0, v1), (0, v2)] m post := met_I (by decide) (Nat.le_of_ble_eq_true rfl) (fun _ X hr => pf_X10_wagonIs X hr v1 v2 m h)
def wp_X10_trainIs (v1 : Int) (v2 : Int) (m : Mem) (post : Int → Mem → Prop) : Prop :=
  wp_X8_has v1 m (fun r5 m5 => ((¬ r5 = 0 → (((v2 < 0 → (post (-102) m5)) ∧
  (¬ v2 < 0 → (((v2 ≤ 3 → (wp_X8_tell v1 v2 (m5 28 0) m5 (fun r39 m39 => post r39 m39))) ∧
  (¬ v2 ≤ 3 → (post (-102) m5)))))))) ∧
  (r5 = 0 → (post (-101) m5))))
set_option maxRecDepth 100000 in
theorem pf_X10_trainIs {l : Launch} {x : WX} {G : GT} {post : Int → Mem → Prop} (X : Ax l x cX10_trainIs RX10 3 (rmd 2) 67 G) (hr : RI cX10_trainIs post G) (v1 : Int) (v2 : Int) (m : Mem) (h : wp_X10_trainIs v1 v2 m post) : G 0 [(0, (2, 0)), (1, (0, v1)), (2, (0, v2))] [] m := by
  unfold wp_X10_trainIs at h
  refine g_aload_n 0 (i := 0) X dX10_trainIs_0 rfl rfl ?_
  refine g_getR X dX10_trainIs_1 fX10_33 ?_
  refine g_iload_n 1 (i := 1) X dX10_trainIs_4 rfl rfl ?_
  refine g_cVI (st := []) X dX10_trainIs_5 YX8_has lX10_221 (by decide) (im_X8_has l x _ _ _ h) rfl ⟨by decide, by decide⟩ rfl (Nat.le_of_ble_eq_true rfl) (fun r5 m5 h => ?_)
  refine g_if_ne X dX10_trainIs_8 (tgt := 14) (by decide) (fun hc => ?_) (fun hc => ?_)
  · have h := h.1 hc
    refine g_iload_n 2 (i := 2) X dX10_trainIs_14 rfl rfl ?_
    refine g_if_lt X dX10_trainIs_15 (tgt := 23) (by decide) (fun hc => ?_) (fun hc => ?_)
    · have h := h.1 hc
      refine g_bipush X dX10_trainIs_23 (by decide) ?_
      exact hr _ _ _ _ _ dX10_trainIs_25 h
    · have h := h.2 hc
      refine g_iload_n 2 (i := 2) X dX10_trainIs_18 rfl rfl ?_
      refine g_iconst X dX10_trainIs_19 (by decide) ?_
      refine g_icmp_le X dX10_trainIs_20 (tgt := 26) (by decide) (fun hc => ?_) (fun hc => ?_)
      · have h := h.1 hc
        refine g_aload_n 0 (i := 0) X dX10_trainIs_26 rfl rfl ?_
        refine g_getR X dX10_trainIs_27 fX10_33 ?_
        refine g_iload_n 1 (i := 1) X dX10_trainIs_30 rfl rfl ?_
        refine g_iload_n 2 (i := 2) X dX10_trainIs_31 rfl rfl ?_
        refine g_aload_n 0 (i := 0) X dX10_trainIs_32 rfl rfl ?_
        refine g_getR X dX10_trainIs_33 fX10_40 ?_
        refine g_getI X dX10_trainIs_36 fX10_212 ?_
        refine g_cVI (st := []) X dX10_trainIs_39 YX8_tell lX10_222 (by decide) (im_X8_tell l x _ _ _ _ _ h) rfl ⟨by decide, by decide⟩ rfl (Nat.le_of_ble_eq_true rfl) (fun r39 m39 h => ?_)
        exact hr _ _ _ _ _ dX10_trainIs_42 h
      · have h := h.2 hc
        refine g_bipush X dX10_trainIs_23 (by decide) ?_
        exact hr _ _ _ _ _ dX10_trainIs_25 h
  · have h := h.2 hc
    refine g_bipush X dX10_trainIs_11 (by decide) ?_
    exact hr _ _ _ _ _ dX10_trainIs_13 h
theorem im_X10_trainIs (l : Launch) (x : WX) (v1 : Int) (v2 : Int) (m : Mem) (post : Int → Mem → Prop) (h : wp_X10_trainIs v1 v2 m post) : MetI l x 67 2 yX10_trainIs cX10_trainIs 3 .int [(2, 0), (0, v1), (0, v2)] m post := met_I (by decide) (Nat.le_of_ble_eq_true rfl) (fun _ X hr => pf_X10_trainIs X hr v1 v2 m h)
def wp_X10_yard (v1 : Int) (v2 : Int) (m : Mem) (post : Int → Mem → Prop) : Prop :=
  wp_X3_has v1 m (fun r5 m5 => ((¬ r5 = 0 → (((v2 < 0 → (post (-102) m5)) ∧
  (¬ v2 < 0 → (((v2 ≤ 1 → (((¬ v2 = 1 → (wp_X9_standingAt v1 0 m5 (fun r41 m41 => post r41 m41))) ∧
  (v2 = 1 → (wp_X9_standingAt v1 1 m5 (fun r41 m41 => post r41 m41)))))) ∧
  (¬ v2 ≤ 1 → (post (-102) m5)))))))) ∧
  (r5 = 0 → (post (-101) m5))))
set_option maxRecDepth 100000 in
theorem pf_X10_yard {l : Launch} {x : WX} {G : GT} {post : Int → Mem → Prop} (X : Ax l x cX10_yard RX10 3 (rmd 1) 67 G) (hr : RI cX10_yard post G) (v1 : Int) (v2 : Int) (m : Mem) (h : wp_X10_yard v1 v2 m post) : G 0 [(0, (2, 0)), (1, (0, v1)), (2, (0, v2))] [] m := by
  unfold wp_X10_yard at h
  refine g_aload_n 0 (i := 0) X dX10_yard_0 rfl rfl ?_
  refine g_getR X dX10_yard_1 fX10_10 ?_
  refine g_iload_n 1 (i := 1) X dX10_yard_4 rfl rfl ?_
  refine g_cVI (st := []) X dX10_yard_5 YX3_has lX10_110 (by decide) (im_X3_has l x _ _ _ h) rfl ⟨by decide, by decide⟩ rfl (Nat.le_of_ble_eq_true rfl) (fun r5 m5 h => ?_)
  refine g_if_ne X dX10_yard_8 (tgt := 14) (by decide) (fun hc => ?_) (fun hc => ?_)
  · have h := h.1 hc
    refine g_iload_n 2 (i := 2) X dX10_yard_14 rfl rfl ?_
    refine g_if_lt X dX10_yard_15 (tgt := 23) (by decide) (fun hc => ?_) (fun hc => ?_)
    · have h := h.1 hc
      refine g_bipush X dX10_yard_23 (by decide) ?_
      exact hr _ _ _ _ _ dX10_yard_25 h
    · have h := h.2 hc
      refine g_iload_n 2 (i := 2) X dX10_yard_18 rfl rfl ?_
      refine g_iconst X dX10_yard_19 (by decide) ?_
      refine g_icmp_le X dX10_yard_20 (tgt := 26) (by decide) (fun hc => ?_) (fun hc => ?_)
      · have h := h.1 hc
        refine g_aload_n 0 (i := 0) X dX10_yard_26 rfl rfl ?_
        refine g_getR X dX10_yard_27 fX10_40 ?_
        refine g_iload_n 1 (i := 1) X dX10_yard_30 rfl rfl ?_
        refine g_iload_n 2 (i := 2) X dX10_yard_31 rfl rfl ?_
        refine g_iconst X dX10_yard_32 (by decide) ?_
        refine g_icmp_ne X dX10_yard_33 (tgt := 40) (by decide) (fun hc => ?_) (fun hc => ?_)
        · have h := h.1 hc
          refine g_iconst X dX10_yard_40 (by decide) ?_
          refine g_cVI (st := []) X dX10_yard_41 YX9_standingAt lX10_224 (by decide) (im_X9_standingAt l x _ _ _ _ h) rfl ⟨by decide, by decide⟩ rfl (Nat.le_of_ble_eq_true rfl) (fun r41 m41 h => ?_)
          exact hr _ _ _ _ _ dX10_yard_44 h
        · have h := h.2 hc
          refine g_iconst X dX10_yard_36 (by decide) ?_
          refine g_goto X dX10_yard_37 (tgt := 41) (by decide) ?_
          refine g_cVI (st := []) X dX10_yard_41 YX9_standingAt lX10_224 (by decide) (im_X9_standingAt l x _ _ _ _ h) rfl ⟨by decide, by decide⟩ rfl (Nat.le_of_ble_eq_true rfl) (fun r41 m41 h => ?_)
          exact hr _ _ _ _ _ dX10_yard_44 h
      · have h := h.2 hc
        refine g_bipush X dX10_yard_23 (by decide) ?_
        exact hr _ _ _ _ _ dX10_yard_25 h
  · have h := h.2 hc
    refine g_bipush X dX10_yard_11 (by decide) ?_
    exact hr _ _ _ _ _ dX10_yard_13 h
theorem im_X10_yard (l : Launch) (x : WX) (v1 : Int) (v2 : Int) (m : Mem) (post : Int → Mem → Prop) (h : wp_X10_yard v1 v2 m post) : MetI l x 67 1 yX10_yard cX10_yard 3 .int [(2, 0), (0, v1), (0, v2)] m post := met_I (by decide) (Nat.le_of_ble_eq_true rfl) (fun _ X hr => pf_X10_yard X hr v1 v2 m h)
def wp_X10_rest (v1 : Int) (m : Mem) (post : Int → Mem → Prop) : Prop :=
  ((v1 < 0 → (post (-102) m)) ∧
  (¬ v1 < 0 → (((v1 ≤ 48 → (∀ v2_20 : Int, v2_20 = m 13 1 → (∀ m26 : Mem, m26 = mset m 13 1 v1 → (post v2_20 m26)))) ∧
  (¬ v1 ≤ 48 → (post (-102) m))))))
set_option maxRecDepth 100000 in
theorem pf_X10_rest {l : Launch} {x : WX} {G : GT} {post : Int → Mem → Prop} (X : Ax l x cX10_rest RX10 3 (rmd 0) 67 G) (hr : RI cX10_rest post G) (v1 : Int) (m : Mem) (h : wp_X10_rest v1 m post) : G 0 [(0, (2, 0)), (1, (0, v1))] [] m := by
  unfold wp_X10_rest at h
  refine g_iload_n 1 (i := 1) X dX10_rest_0 rfl rfl ?_
  refine g_if_lt X dX10_rest_1 (tgt := 10) (by decide) (fun hc => ?_) (fun hc => ?_)
  · have h := h.1 hc
    refine g_bipush X dX10_rest_10 (by decide) ?_
    exact hr _ _ _ _ _ dX10_rest_12 h
  · have h := h.2 hc
    refine g_iload_n 1 (i := 1) X dX10_rest_4 rfl rfl ?_
    refine g_bipush X dX10_rest_5 (by decide) ?_
    refine g_icmp_le X dX10_rest_7 (tgt := 13) (by decide) (fun hc => ?_) (fun hc => ?_)
    · have h := h.1 hc
      refine g_aload_n 0 (i := 0) X dX10_rest_13 rfl rfl ?_
      refine g_getR X dX10_rest_14 fX10_33 ?_
      refine g_getI X dX10_rest_17 fX10_228 ?_
      refine g_nmI (fun v2_20 ev2_20 => ?_)
      have h := h v2_20 ev2_20
      refine g_istore_n (i := 2) (lv' := [(2, (0, v2_20)), (0, (2, 0)), (1, (0, v1))]) X dX10_rest_20 rfl (by decide) rfl ?_
      refine g_aload_n 1 (i := 0) X dX10_rest_21 rfl rfl ?_
      refine g_getR X dX10_rest_22 fX10_33 ?_
      refine g_iload_n 2 (i := 1) X dX10_rest_25 rfl rfl ?_
      refine g_putI X dX10_rest_26 pX10_228 (fun m26 em26 => ?_)
      have h := h m26 em26
      refine g_iload_n 0 (i := 2) X dX10_rest_29 rfl rfl ?_
      exact hr _ _ _ _ _ dX10_rest_30 h
    · have h := h.2 hc
      refine g_bipush X dX10_rest_10 (by decide) ?_
      exact hr _ _ _ _ _ dX10_rest_12 h
theorem im_X10_rest (l : Launch) (x : WX) (v1 : Int) (m : Mem) (post : Int → Mem → Prop) (h : wp_X10_rest v1 m post) : MetI l x 67 0 yX10_rest cX10_rest 3 .int [(2, 0), (0, v1)] m post := met_I (by decide) (Nat.le_of_ble_eq_true rfl) (fun _ X hr => pf_X10_rest X hr v1 m h)
def wp_X10_crews (v1 : Int) (m : Mem) (post : Int → Mem → Prop) : Prop :=
  ((v1 < 0 → (post (-102) m)) ∧
  (¬ v1 < 0 → (((v1 ≤ 2 → (((¬ v1 = 0 → (((¬ v1 = 1 → (wp_X8_dutyHours m (fun r43 m43 => post r43 m43))) ∧
  (v1 = 1 → (wp_X8_fewestCrews m (fun r33 m33 => post r33 m33)))))) ∧
  (v1 = 0 → (wp_X8_duties m (fun r20 m20 => post r20 m20)))))) ∧
  (¬ v1 ≤ 2 → (post (-102) m))))))
set_option maxRecDepth 100000 in
theorem pf_X10_crews {l : Launch} {x : WX} {G : GT} {post : Int → Mem → Prop} (X : Ax l x cX10_crews RX10 2 (rmd 3) 67 G) (hr : RI cX10_crews post G) (v1 : Int) (m : Mem) (h : wp_X10_crews v1 m post) : G 0 [(0, (2, 0)), (1, (0, v1))] [] m := by
  unfold wp_X10_crews at h
  refine g_iload_n 1 (i := 1) X dX10_crews_0 rfl rfl ?_
  refine g_if_lt X dX10_crews_1 (tgt := 9) (by decide) (fun hc => ?_) (fun hc => ?_)
  · have h := h.1 hc
    refine g_bipush X dX10_crews_9 (by decide) ?_
    exact hr _ _ _ _ _ dX10_crews_11 h
  · have h := h.2 hc
    refine g_iload_n 1 (i := 1) X dX10_crews_4 rfl rfl ?_
    refine g_iconst X dX10_crews_5 (by decide) ?_
    refine g_icmp_le X dX10_crews_6 (tgt := 12) (by decide) (fun hc => ?_) (fun hc => ?_)
    · have h := h.1 hc
      refine g_iload_n 1 (i := 1) X dX10_crews_12 rfl rfl ?_
      refine g_if_ne X dX10_crews_13 (tgt := 24) (by decide) (fun hc => ?_) (fun hc => ?_)
      · have h := h.1 hc
        refine g_iload_n 1 (i := 1) X dX10_crews_24 rfl rfl ?_
        refine g_iconst X dX10_crews_25 (by decide) ?_
        refine g_icmp_ne X dX10_crews_26 (tgt := 39) (by decide) (fun hc => ?_) (fun hc => ?_)
        · have h := h.1 hc
          refine g_aload_n 0 (i := 0) X dX10_crews_39 rfl rfl ?_
          refine g_getR X dX10_crews_40 fX10_33 ?_
          refine g_cVI (st := []) X dX10_crews_43 YX8_dutyHours lX10_237 (by decide) (im_X8_dutyHours l x  _ _ h) rfl ⟨by decide, by decide⟩ rfl (Nat.le_of_ble_eq_true rfl) (fun r43 m43 h => ?_)
          exact hr _ _ _ _ _ dX10_crews_46 h
        · have h := h.2 hc
          refine g_aload_n 0 (i := 0) X dX10_crews_29 rfl rfl ?_
          refine g_getR X dX10_crews_30 fX10_33 ?_
          refine g_cVI (st := []) X dX10_crews_33 YX8_fewestCrews lX10_234 (by decide) (im_X8_fewestCrews l x  _ _ h) rfl ⟨by decide, by decide⟩ rfl (Nat.le_of_ble_eq_true rfl) (fun r33 m33 h => ?_)
          refine g_goto X dX10_crews_36 (tgt := 46) (by decide) ?_
          exact hr _ _ _ _ _ dX10_crews_46 h
      · have h := h.2 hc
        refine g_aload_n 0 (i := 0) X dX10_crews_16 rfl rfl ?_
        refine g_getR X dX10_crews_17 fX10_33 ?_
        refine g_cVI (st := []) X dX10_crews_20 YX8_duties lX10_231 (by decide) (im_X8_duties l x  _ _ h) rfl ⟨by decide, by decide⟩ rfl (Nat.le_of_ble_eq_true rfl) (fun r20 m20 h => ?_)
        exact hr _ _ _ _ _ dX10_crews_23 h
    · have h := h.2 hc
      refine g_bipush X dX10_crews_9 (by decide) ?_
      exact hr _ _ _ _ _ dX10_crews_11 h
theorem im_X10_crews (l : Launch) (x : WX) (v1 : Int) (m : Mem) (post : Int → Mem → Prop) (h : wp_X10_crews v1 m post) : MetI l x 67 3 yX10_crews cX10_crews 2 .int [(2, 0), (0, v1)] m post := met_I (by decide) (Nat.le_of_ble_eq_true rfl) (fun _ X hr => pf_X10_crews X hr v1 m h)
def wp_X10_drive  (m : Mem) (post : Int → Mem → Prop) : Prop :=
  ∀ v1_7 : Int, v1_7 = m 37 0 → (∀ m13 : Mem, m13 = mset m 37 0 0 → (post v1_7 m13))
set_option maxRecDepth 100000 in
theorem pf_X10_drive {l : Launch} {x : WX} {G : GT} {post : Int → Mem → Prop} (X : Ax l x cX10_drive RX10 2 (rmd 0) 67 G) (hr : RI cX10_drive post G)  (m : Mem) (h : wp_X10_drive  m post) : G 0 [(0, (2, 0))] [] m := by
  unfold wp_X10_drive at h
  refine g_aload_n 0 (i := 0) X dX10_drive_0 rfl rfl ?_
  refine g_getR X dX10_drive_1 fX10_47 ?_
  refine g_getI X dX10_drive_4 fX10_92 ?_
  refine g_nmI (fun v1_7 ev1_7 => ?_)
  have h := h v1_7 ev1_7
  refine g_istore_n (i := 1) (lv' := [(1, (0, v1_7)), (0, (2, 0))]) X dX10_drive_7 rfl (by decide) rfl ?_
  refine g_aload_n 1 (i := 0) X dX10_drive_8 rfl rfl ?_
  refine g_getR X dX10_drive_9 fX10_47 ?_
  refine g_iconst X dX10_drive_12 (by decide) ?_
  refine g_putI X dX10_drive_13 pX10_92 (fun m13 em13 => ?_)
  have h := h m13 em13
  refine g_iload_n 0 (i := 1) X dX10_drive_16 rfl rfl ?_
  exact hr _ _ _ _ _ dX10_drive_17 h
theorem im_X10_drive (l : Launch) (x : WX)  (m : Mem) (post : Int → Mem → Prop) (h : wp_X10_drive  m post) : MetI l x 67 0 yX10_drive cX10_drive 2 .int [(2, 0)] m post := met_I (by decide) (Nat.le_of_ble_eq_true rfl) (fun _ X hr => pf_X10_drive X hr  m h)
def wp_X10_roll (v1 : Int) (m : Mem) (post : Int → Mem → Prop) : Prop :=
  ((v1 < 0 → (post (-102) m)) ∧
  (¬ v1 < 0 → (((v1 ≤ 15 → (((m 37 0 < 16 → (wp_X7_add v1 m (fun m33 => post (m33 37 0) m33))) ∧
  (¬ m 37 0 < 16 → (post (-104) m))))) ∧
  (¬ v1 ≤ 15 → (post (-102) m))))))
set_option maxRecDepth 100000 in
theorem pf_X10_roll {l : Launch} {x : WX} {G : GT} {post : Int → Mem → Prop} (X : Ax l x cX10_roll RX10 2 (rmd 1) 67 G) (hr : RI cX10_roll post G) (v1 : Int) (m : Mem) (h : wp_X10_roll v1 m post) : G 0 [(0, (2, 0)), (1, (0, v1))] [] m := by
  unfold wp_X10_roll at h
  refine g_iload_n 1 (i := 1) X dX10_roll_0 rfl rfl ?_
  refine g_if_lt X dX10_roll_1 (tgt := 10) (by decide) (fun hc => ?_) (fun hc => ?_)
  · have h := h.1 hc
    refine g_bipush X dX10_roll_10 (by decide) ?_
    exact hr _ _ _ _ _ dX10_roll_12 h
  · have h := h.2 hc
    refine g_iload_n 1 (i := 1) X dX10_roll_4 rfl rfl ?_
    refine g_bipush X dX10_roll_5 (by decide) ?_
    refine g_icmp_le X dX10_roll_7 (tgt := 13) (by decide) (fun hc => ?_) (fun hc => ?_)
    · have h := h.1 hc
      refine g_aload_n 0 (i := 0) X dX10_roll_13 rfl rfl ?_
      refine g_getR X dX10_roll_14 fX10_47 ?_
      refine g_getI X dX10_roll_17 fX10_92 ?_
      refine g_bipush X dX10_roll_20 (by decide) ?_
      refine g_icmp_lt X dX10_roll_22 (tgt := 28) (by decide) (fun hc => ?_) (fun hc => ?_)
      · have h := h.1 hc
        refine g_aload_n 0 (i := 0) X dX10_roll_28 rfl rfl ?_
        refine g_getR X dX10_roll_29 fX10_47 ?_
        refine g_iload_n 1 (i := 1) X dX10_roll_32 rfl rfl ?_
        refine g_cVV (st := []) X dX10_roll_33 YX7_add lX10_240 (by decide) (im_X7_add l x _ _ _ h) rfl ⟨by decide, by decide⟩ rfl (Nat.le_of_ble_eq_true rfl) (fun m33 h => ?_)
        refine g_aload_n 0 (i := 0) X dX10_roll_36 rfl rfl ?_
        refine g_getR X dX10_roll_37 fX10_47 ?_
        refine g_getI X dX10_roll_40 fX10_92 ?_
        exact hr _ _ _ _ _ dX10_roll_43 h
      · have h := h.2 hc
        refine g_bipush X dX10_roll_25 (by decide) ?_
        exact hr _ _ _ _ _ dX10_roll_27 h
    · have h := h.2 hc
      refine g_bipush X dX10_roll_10 (by decide) ?_
      exact hr _ _ _ _ _ dX10_roll_12 h
theorem im_X10_roll (l : Launch) (x : WX) (v1 : Int) (m : Mem) (post : Int → Mem → Prop) (h : wp_X10_roll v1 m post) : MetI l x 67 1 yX10_roll cX10_roll 2 .int [(2, 0), (0, v1)] m post := met_I (by decide) (Nat.le_of_ble_eq_true rfl) (fun _ X hr => pf_X10_roll X hr v1 m h)
def wp_X10_number (v1 : Int) (m : Mem) (post : Int → Mem → Prop) : Prop :=
  wp_X7_has v1 m (fun r5 m5 => ((¬ r5 = 0 → (wp_X7_giveNumbers m5 (fun m18 => (0 ≤ v1 ∧ v1 < 16) ∧ (post (m18 38 v1) m18)))) ∧
  (r5 = 0 → (post (-101) m5))))
set_option maxRecDepth 100000 in
theorem pf_X10_number {l : Launch} {x : WX} {G : GT} {post : Int → Mem → Prop} (X : Ax l x cX10_number RX10 2 (rmd 2) 67 G) (hr : RI cX10_number post G) (v1 : Int) (m : Mem) (h : wp_X10_number v1 m post) : G 0 [(0, (2, 0)), (1, (0, v1))] [] m := by
  unfold wp_X10_number at h
  refine g_aload_n 0 (i := 0) X dX10_number_0 rfl rfl ?_
  refine g_getR X dX10_number_1 fX10_47 ?_
  refine g_iload_n 1 (i := 1) X dX10_number_4 rfl rfl ?_
  refine g_cVI (st := []) X dX10_number_5 YX7_has lX10_242 (by decide) (im_X7_has l x _ _ _ h) rfl ⟨by decide, by decide⟩ rfl (Nat.le_of_ble_eq_true rfl) (fun r5 m5 h => ?_)
  refine g_if_ne X dX10_number_8 (tgt := 14) (by decide) (fun hc => ?_) (fun hc => ?_)
  · have h := h.1 hc
    refine g_aload_n 0 (i := 0) X dX10_number_14 rfl rfl ?_
    refine g_getR X dX10_number_15 fX10_47 ?_
    refine g_cVV (st := []) X dX10_number_18 YX7_giveNumbers lX10_243 (by decide) (im_X7_giveNumbers l x  _ _ h) rfl ⟨by decide, by decide⟩ rfl (Nat.le_of_ble_eq_true rfl) (fun m18 h => ?_)
    refine g_aload_n 0 (i := 0) X dX10_number_21 rfl rfl ?_
    refine g_getR X dX10_number_22 fX10_47 ?_
    refine g_getR X dX10_number_25 fX10_246 ?_
    refine g_iload_n 1 (i := 1) X dX10_number_28 rfl rfl ?_
    obtain ⟨hi, h⟩ := h
    refine g_iald X dX10_number_29 rfl hi ?_
    exact hr _ _ _ _ _ dX10_number_30 h
  · have h := h.2 hc
    refine g_bipush X dX10_number_11 (by decide) ?_
    exact hr _ _ _ _ _ dX10_number_13 h
theorem im_X10_number (l : Launch) (x : WX) (v1 : Int) (m : Mem) (post : Int → Mem → Prop) (h : wp_X10_number v1 m post) : MetI l x 67 2 yX10_number cX10_number 2 .int [(2, 0), (0, v1)] m post := met_I (by decide) (Nat.le_of_ble_eq_true rfl) (fun _ X hr => pf_X10_number X hr v1 m h)
def wp_X10_steps (v1 : Int) (m : Mem) (post : Int → Mem → Prop) : Prop :=
  ((v1 < 2 → (post (-102) m)) ∧
  (¬ v1 < 2 → (((v1 ≤ 8 → (((¬ m 37 0 = 0 → (wp_X7_giveNumbers m (fun m31 => wp_X7_stepsBy v1 m31 (fun r39 m39 => post r39 m39)))) ∧
  (m 37 0 = 0 → (post (-103) m))))) ∧
  (¬ v1 ≤ 8 → (post (-102) m))))))
set_option maxRecDepth 100000 in
theorem pf_X10_steps {l : Launch} {x : WX} {G : GT} {post : Int → Mem → Prop} (X : Ax l x cX10_steps RX10 2 (rmd 2) 67 G) (hr : RI cX10_steps post G) (v1 : Int) (m : Mem) (h : wp_X10_steps v1 m post) : G 0 [(0, (2, 0)), (1, (0, v1))] [] m := by
  unfold wp_X10_steps at h
  refine g_iload_n 1 (i := 1) X dX10_steps_0 rfl rfl ?_
  refine g_iconst X dX10_steps_1 (by decide) ?_
  refine g_icmp_lt X dX10_steps_2 (tgt := 11) (by decide) (fun hc => ?_) (fun hc => ?_)
  · have h := h.1 hc
    refine g_bipush X dX10_steps_11 (by decide) ?_
    exact hr _ _ _ _ _ dX10_steps_13 h
  · have h := h.2 hc
    refine g_iload_n 1 (i := 1) X dX10_steps_5 rfl rfl ?_
    refine g_bipush X dX10_steps_6 (by decide) ?_
    refine g_icmp_le X dX10_steps_8 (tgt := 14) (by decide) (fun hc => ?_) (fun hc => ?_)
    · have h := h.1 hc
      refine g_aload_n 0 (i := 0) X dX10_steps_14 rfl rfl ?_
      refine g_getR X dX10_steps_15 fX10_47 ?_
      refine g_getI X dX10_steps_18 fX10_92 ?_
      refine g_if_ne X dX10_steps_21 (tgt := 27) (by decide) (fun hc => ?_) (fun hc => ?_)
      · have h := h.1 hc
        refine g_aload_n 0 (i := 0) X dX10_steps_27 rfl rfl ?_
        refine g_getR X dX10_steps_28 fX10_47 ?_
        refine g_cVV (st := []) X dX10_steps_31 YX7_giveNumbers lX10_243 (by decide) (im_X7_giveNumbers l x  _ _ h) rfl ⟨by decide, by decide⟩ rfl (Nat.le_of_ble_eq_true rfl) (fun m31 h => ?_)
        refine g_aload_n 0 (i := 0) X dX10_steps_34 rfl rfl ?_
        refine g_getR X dX10_steps_35 fX10_47 ?_
        refine g_iload_n 1 (i := 1) X dX10_steps_38 rfl rfl ?_
        refine g_cVI (st := []) X dX10_steps_39 YX7_stepsBy lX10_249 (by decide) (im_X7_stepsBy l x _ _ _ h) rfl ⟨by decide, by decide⟩ rfl (Nat.le_of_ble_eq_true rfl) (fun r39 m39 h => ?_)
        exact hr _ _ _ _ _ dX10_steps_42 h
      · have h := h.2 hc
        refine g_bipush X dX10_steps_24 (by decide) ?_
        exact hr _ _ _ _ _ dX10_steps_26 h
    · have h := h.2 hc
      refine g_bipush X dX10_steps_11 (by decide) ?_
      exact hr _ _ _ _ _ dX10_steps_13 h
theorem im_X10_steps (l : Launch) (x : WX) (v1 : Int) (m : Mem) (post : Int → Mem → Prop) (h : wp_X10_steps v1 m post) : MetI l x 67 2 yX10_steps cX10_steps 2 .int [(2, 0), (0, v1)] m post := met_I (by decide) (Nat.le_of_ble_eq_true rfl) (fun _ X hr => pf_X10_steps X hr v1 m h)
def wp_X10_stands (v1 : Int) (v2 : Int) (v3 : Int) (m : Mem) (post : Int → Mem → Prop) : Prop :=
  wp_X7_has v3 m (fun r5 m5 => ((¬ r5 = 0 → (((v1 < 2 → (post (-102) m5)) ∧
  (¬ v1 < 2 → (((8 < v1 → (post (-102) m5)) ∧
  (¬ 8 < v1 → (((0 ≤ v2 → (wp_X7_giveNumbers m5 (fun m36 => wp_X7_stepsBy v1 m36 (fun r45 m45 => ((v2 ≤ r45 → (wp_X7_sortBy v1 v2 m45 (fun m60 => (0 ≤ v3 ∧ v3 < 16) ∧ (post (m60 39 v3) m60)))) ∧
  (¬ v2 ≤ r45 → (post (-102) m45))))))) ∧
  (¬ 0 ≤ v2 → (post (-102) m5))))))))))) ∧
  (r5 = 0 → (post (-101) m5))))
set_option maxRecDepth 100000 in
theorem pf_X10_stands {l : Launch} {x : WX} {G : GT} {post : Int → Mem → Prop} (X : Ax l x cX10_stands RX10 4 (rmd 3) 67 G) (hr : RI cX10_stands post G) (v1 : Int) (v2 : Int) (v3 : Int) (m : Mem) (h : wp_X10_stands v1 v2 v3 m post) : G 0 [(0, (2, 0)), (1, (0, v1)), (2, (0, v2)), (3, (0, v3))] [] m := by
  unfold wp_X10_stands at h
  refine g_aload_n 0 (i := 0) X dX10_stands_0 rfl rfl ?_
  refine g_getR X dX10_stands_1 fX10_47 ?_
  refine g_iload_n 3 (i := 3) X dX10_stands_4 rfl rfl ?_
  refine g_cVI (st := []) X dX10_stands_5 YX7_has lX10_242 (by decide) (im_X7_has l x _ _ _ h) rfl ⟨by decide, by decide⟩ rfl (Nat.le_of_ble_eq_true rfl) (fun r5 m5 h => ?_)
  refine g_if_ne X dX10_stands_8 (tgt := 14) (by decide) (fun hc => ?_) (fun hc => ?_)
  · have h := h.1 hc
    refine g_iload_n 1 (i := 1) X dX10_stands_14 rfl rfl ?_
    refine g_iconst X dX10_stands_15 (by decide) ?_
    refine g_icmp_lt X dX10_stands_16 (tgt := 29) (by decide) (fun hc => ?_) (fun hc => ?_)
    · have h := h.1 hc
      refine g_bipush X dX10_stands_29 (by decide) ?_
      exact hr _ _ _ _ _ dX10_stands_31 h
    · have h := h.2 hc
      refine g_iload_n 1 (i := 1) X dX10_stands_19 rfl rfl ?_
      refine g_bipush X dX10_stands_20 (by decide) ?_
      refine g_icmp_gt X dX10_stands_22 (tgt := 29) (by decide) (fun hc => ?_) (fun hc => ?_)
      · have h := h.1 hc
        refine g_bipush X dX10_stands_29 (by decide) ?_
        exact hr _ _ _ _ _ dX10_stands_31 h
      · have h := h.2 hc
        refine g_iload_n 2 (i := 2) X dX10_stands_25 rfl rfl ?_
        refine g_if_ge X dX10_stands_26 (tgt := 32) (by decide) (fun hc => ?_) (fun hc => ?_)
        · have h := h.1 hc
          refine g_aload_n 0 (i := 0) X dX10_stands_32 rfl rfl ?_
          refine g_getR X dX10_stands_33 fX10_47 ?_
          refine g_cVV (st := []) X dX10_stands_36 YX7_giveNumbers lX10_243 (by decide) (im_X7_giveNumbers l x  _ _ h) rfl ⟨by decide, by decide⟩ rfl (Nat.le_of_ble_eq_true rfl) (fun m36 h => ?_)
          refine g_iload_n 2 (i := 2) X dX10_stands_39 rfl rfl ?_
          refine g_aload_n 0 (i := 0) X dX10_stands_40 rfl rfl ?_
          refine g_getR X dX10_stands_41 fX10_47 ?_
          refine g_iload_n 1 (i := 1) X dX10_stands_44 rfl rfl ?_
          refine g_cVI (st := [(0, v2)]) X dX10_stands_45 YX7_stepsBy lX10_249 (by decide) (im_X7_stepsBy l x _ _ _ h) rfl ⟨by decide, by decide⟩ rfl (Nat.le_of_ble_eq_true rfl) (fun r45 m45 h => ?_)
          refine g_icmp_le X dX10_stands_48 (tgt := 54) (by decide) (fun hc => ?_) (fun hc => ?_)
          · have h := h.1 hc
            refine g_aload_n 0 (i := 0) X dX10_stands_54 rfl rfl ?_
            refine g_getR X dX10_stands_55 fX10_47 ?_
            refine g_iload_n 1 (i := 1) X dX10_stands_58 rfl rfl ?_
            refine g_iload_n 2 (i := 2) X dX10_stands_59 rfl rfl ?_
            refine g_cVV (st := []) X dX10_stands_60 YX7_sortBy lX10_252 (by decide) (im_X7_sortBy l x _ _ _ _ h) rfl ⟨by decide, by decide⟩ rfl (Nat.le_of_ble_eq_true rfl) (fun m60 h => ?_)
            refine g_aload_n 0 (i := 0) X dX10_stands_63 rfl rfl ?_
            refine g_getR X dX10_stands_64 fX10_47 ?_
            refine g_getR X dX10_stands_67 fX10_256 ?_
            refine g_iload_n 3 (i := 3) X dX10_stands_70 rfl rfl ?_
            obtain ⟨hi, h⟩ := h
            refine g_iald X dX10_stands_71 rfl hi ?_
            exact hr _ _ _ _ _ dX10_stands_72 h
          · have h := h.2 hc
            refine g_bipush X dX10_stands_51 (by decide) ?_
            exact hr _ _ _ _ _ dX10_stands_53 h
        · have h := h.2 hc
          refine g_bipush X dX10_stands_29 (by decide) ?_
          exact hr _ _ _ _ _ dX10_stands_31 h
  · have h := h.2 hc
    refine g_bipush X dX10_stands_11 (by decide) ?_
    exact hr _ _ _ _ _ dX10_stands_13 h
theorem im_X10_stands (l : Launch) (x : WX) (v1 : Int) (v2 : Int) (v3 : Int) (m : Mem) (post : Int → Mem → Prop) (h : wp_X10_stands v1 v2 v3 m post) : MetI l x 67 3 yX10_stands cX10_stands 4 .int [(2, 0), (0, v1), (0, v2), (0, v3)] m post := met_I (by decide) (Nat.le_of_ble_eq_true rfl) (fun _ X hr => pf_X10_stands X hr v1 v2 v3 m h)
def wp_X10_load (v1 : Int) (v2 : Int) (v3 : Int) (m : Mem) (post : Int → Mem → Prop) : Prop :=
  wp_X3_hasPair v1 v2 m (fun r6 m6 => ((¬ r6 = 0 → (((v3 < 0 → (post (-102) m6)) ∧
  (¬ v3 < 0 → (((v3 ≤ 99 → (wp_X5_forget m6 (fun m32 => (0 ≤ w32 (w32 (v1 * 8) + v2) ∧ w32 (w32 (v1 * 8) + v2) < 64) ∧ (∀ v4_49 : Int, v4_49 = m32 44 (w32 (w32 (v1 * 8) + v2)) → ((0 ≤ w32 (w32 (v1 * 8) + v2) ∧ w32 (w32 (v1 * 8) + v2) < 64) ∧ (∀ m65 : Mem, m65 = mset m32 44 (w32 (w32 (v1 * 8) + v2)) v3 → (post v4_49 m65))))))) ∧
  (¬ v3 ≤ 99 → (post (-102) m6)))))))) ∧
  (r6 = 0 → (post (-101) m6))))
set_option maxRecDepth 100000 in
theorem pf_X10_load {l : Launch} {x : WX} {G : GT} {post : Int → Mem → Prop} (X : Ax l x cX10_load RX10 5 (rmd 2) 67 G) (hr : RI cX10_load post G) (v1 : Int) (v2 : Int) (v3 : Int) (m : Mem) (h : wp_X10_load v1 v2 v3 m post) : G 0 [(0, (2, 0)), (1, (0, v1)), (2, (0, v2)), (3, (0, v3))] [] m := by
  unfold wp_X10_load at h
  refine g_aload_n 0 (i := 0) X dX10_load_0 rfl rfl ?_
  refine g_getR X dX10_load_1 fX10_10 ?_
  refine g_iload_n 1 (i := 1) X dX10_load_4 rfl rfl ?_
  refine g_iload_n 2 (i := 2) X dX10_load_5 rfl rfl ?_
  refine g_cVI (st := []) X dX10_load_6 YX3_hasPair lX10_99 (by decide) (im_X3_hasPair l x _ _ _ _ h) rfl ⟨by decide, by decide⟩ rfl (Nat.le_of_ble_eq_true rfl) (fun r6 m6 h => ?_)
  refine g_if_ne X dX10_load_9 (tgt := 15) (by decide) (fun hc => ?_) (fun hc => ?_)
  · have h := h.1 hc
    refine g_iload_n 3 (i := 3) X dX10_load_15 rfl rfl ?_
    refine g_if_lt X dX10_load_16 (tgt := 25) (by decide) (fun hc => ?_) (fun hc => ?_)
    · have h := h.1 hc
      refine g_bipush X dX10_load_25 (by decide) ?_
      exact hr _ _ _ _ _ dX10_load_27 h
    · have h := h.2 hc
      refine g_iload_n 3 (i := 3) X dX10_load_19 rfl rfl ?_
      refine g_bipush X dX10_load_20 (by decide) ?_
      refine g_icmp_le X dX10_load_22 (tgt := 28) (by decide) (fun hc => ?_) (fun hc => ?_)
      · have h := h.1 hc
        refine g_aload_n 0 (i := 0) X dX10_load_28 rfl rfl ?_
        refine g_getR X dX10_load_29 fX10_54 ?_
        refine g_cVV (st := []) X dX10_load_32 YX5_forget lX10_103 (by decide) (im_X5_forget l x  _ _ h) rfl ⟨by decide, by decide⟩ rfl (Nat.le_of_ble_eq_true rfl) (fun m32 h => ?_)
        refine g_aload_n 0 (i := 0) X dX10_load_35 rfl rfl ?_
        refine g_getR X dX10_load_36 fX10_54 ?_
        refine g_getR X dX10_load_39 fX10_259 ?_
        refine g_iload_n 1 (i := 1) X dX10_load_42 rfl rfl ?_
        refine g_bipush X dX10_load_43 (by decide) ?_
        refine g_imul X dX10_load_45 ?_
        refine g_iload_n 2 (i := 2) X dX10_load_46 rfl rfl ?_
        refine g_iadd X dX10_load_47 ?_
        obtain ⟨hi, h⟩ := h
        refine g_iald X dX10_load_48 rfl hi ?_
        refine g_nmI (fun v4_49 ev4_49 => ?_)
        have h := h v4_49 ev4_49
        refine g_istore (i := 4) (lv' := [(4, (0, v4_49)), (0, (2, 0)), (1, (0, v1)), (2, (0, v2)), (3, (0, v3))]) X dX10_load_49 (by decide) rfl ?_
        refine g_aload_n 1 (i := 0) X dX10_load_51 rfl rfl ?_
        refine g_getR X dX10_load_52 fX10_54 ?_
        refine g_getR X dX10_load_55 fX10_259 ?_
        refine g_iload_n 2 (i := 1) X dX10_load_58 rfl rfl ?_
        refine g_bipush X dX10_load_59 (by decide) ?_
        refine g_imul X dX10_load_61 ?_
        refine g_iload_n 3 (i := 2) X dX10_load_62 rfl rfl ?_
        refine g_iadd X dX10_load_63 ?_
        refine g_iload_n 4 (i := 3) X dX10_load_64 rfl rfl ?_
        obtain ⟨hi, h⟩ := h
        refine g_iast X dX10_load_65 rfl hi (fun m65 em65 => ?_)
        have h := h m65 em65
        refine g_iload 0 (i := 4) X dX10_load_66 rfl ?_
        exact hr _ _ _ _ _ dX10_load_68 h
      · have h := h.2 hc
        refine g_bipush X dX10_load_25 (by decide) ?_
        exact hr _ _ _ _ _ dX10_load_27 h
  · have h := h.2 hc
    refine g_bipush X dX10_load_12 (by decide) ?_
    exact hr _ _ _ _ _ dX10_load_14 h
theorem im_X10_load (l : Launch) (x : WX) (v1 : Int) (v2 : Int) (v3 : Int) (m : Mem) (post : Int → Mem → Prop) (h : wp_X10_load v1 v2 v3 m post) : MetI l x 67 2 yX10_load cX10_load 5 .int [(2, 0), (0, v1), (0, v2), (0, v3)] m post := met_I (by decide) (Nat.le_of_ble_eq_true rfl) (fun _ X hr => pf_X10_load X hr v1 v2 v3 m h)
def wp_X10_tracks (v1 : Int) (v2 : Int) (m : Mem) (post : Int → Mem → Prop) : Prop :=
  wp_X3_has v1 m (fun r5 m5 => ((¬ r5 = 0 → (((v2 < 0 → (post (-102) m5)) ∧
  (¬ v2 < 0 → (((v2 ≤ 7 → (wp_X5_forget m5 (fun m31 => (0 ≤ v1 ∧ v1 < 8) ∧ (∀ v3_43 : Int, v3_43 = m31 45 v1 → ((0 ≤ v1 ∧ v1 < 8) ∧ (∀ m53 : Mem, m53 = mset m31 45 v1 v2 → (post v3_43 m53))))))) ∧
  (¬ v2 ≤ 7 → (post (-102) m5)))))))) ∧
  (r5 = 0 → (post (-101) m5))))
set_option maxRecDepth 100000 in
theorem pf_X10_tracks {l : Launch} {x : WX} {G : GT} {post : Int → Mem → Prop} (X : Ax l x cX10_tracks RX10 4 (rmd 1) 67 G) (hr : RI cX10_tracks post G) (v1 : Int) (v2 : Int) (m : Mem) (h : wp_X10_tracks v1 v2 m post) : G 0 [(0, (2, 0)), (1, (0, v1)), (2, (0, v2))] [] m := by
  unfold wp_X10_tracks at h
  refine g_aload_n 0 (i := 0) X dX10_tracks_0 rfl rfl ?_
  refine g_getR X dX10_tracks_1 fX10_10 ?_
  refine g_iload_n 1 (i := 1) X dX10_tracks_4 rfl rfl ?_
  refine g_cVI (st := []) X dX10_tracks_5 YX3_has lX10_110 (by decide) (im_X3_has l x _ _ _ h) rfl ⟨by decide, by decide⟩ rfl (Nat.le_of_ble_eq_true rfl) (fun r5 m5 h => ?_)
  refine g_if_ne X dX10_tracks_8 (tgt := 14) (by decide) (fun hc => ?_) (fun hc => ?_)
  · have h := h.1 hc
    refine g_iload_n 2 (i := 2) X dX10_tracks_14 rfl rfl ?_
    refine g_if_lt X dX10_tracks_15 (tgt := 24) (by decide) (fun hc => ?_) (fun hc => ?_)
    · have h := h.1 hc
      refine g_bipush X dX10_tracks_24 (by decide) ?_
      exact hr _ _ _ _ _ dX10_tracks_26 h
    · have h := h.2 hc
      refine g_iload_n 2 (i := 2) X dX10_tracks_18 rfl rfl ?_
      refine g_bipush X dX10_tracks_19 (by decide) ?_
      refine g_icmp_le X dX10_tracks_21 (tgt := 27) (by decide) (fun hc => ?_) (fun hc => ?_)
      · have h := h.1 hc
        refine g_aload_n 0 (i := 0) X dX10_tracks_27 rfl rfl ?_
        refine g_getR X dX10_tracks_28 fX10_54 ?_
        refine g_cVV (st := []) X dX10_tracks_31 YX5_forget lX10_103 (by decide) (im_X5_forget l x  _ _ h) rfl ⟨by decide, by decide⟩ rfl (Nat.le_of_ble_eq_true rfl) (fun m31 h => ?_)
        refine g_aload_n 0 (i := 0) X dX10_tracks_34 rfl rfl ?_
        refine g_getR X dX10_tracks_35 fX10_54 ?_
        refine g_getR X dX10_tracks_38 fX10_262 ?_
        refine g_iload_n 1 (i := 1) X dX10_tracks_41 rfl rfl ?_
        obtain ⟨hi, h⟩ := h
        refine g_iald X dX10_tracks_42 rfl hi ?_
        refine g_nmI (fun v3_43 ev3_43 => ?_)
        have h := h v3_43 ev3_43
        refine g_istore_n (i := 3) (lv' := [(3, (0, v3_43)), (0, (2, 0)), (1, (0, v1)), (2, (0, v2))]) X dX10_tracks_43 rfl (by decide) rfl ?_
        refine g_aload_n 1 (i := 0) X dX10_tracks_44 rfl rfl ?_
        refine g_getR X dX10_tracks_45 fX10_54 ?_
        refine g_getR X dX10_tracks_48 fX10_262 ?_
        refine g_iload_n 2 (i := 1) X dX10_tracks_51 rfl rfl ?_
        refine g_iload_n 3 (i := 2) X dX10_tracks_52 rfl rfl ?_
        obtain ⟨hi, h⟩ := h
        refine g_iast X dX10_tracks_53 rfl hi (fun m53 em53 => ?_)
        have h := h m53 em53
        refine g_iload_n 0 (i := 3) X dX10_tracks_54 rfl rfl ?_
        exact hr _ _ _ _ _ dX10_tracks_55 h
      · have h := h.2 hc
        refine g_bipush X dX10_tracks_24 (by decide) ?_
        exact hr _ _ _ _ _ dX10_tracks_26 h
  · have h := h.2 hc
    refine g_bipush X dX10_tracks_11 (by decide) ?_
    exact hr _ _ _ _ _ dX10_tracks_13 h
theorem im_X10_tracks (l : Launch) (x : WX) (v1 : Int) (v2 : Int) (m : Mem) (post : Int → Mem → Prop) (h : wp_X10_tracks v1 v2 m post) : MetI l x 67 1 yX10_tracks cX10_tracks 4 .int [(2, 0), (0, v1), (0, v2)] m post := met_I (by decide) (Nat.le_of_ble_eq_true rfl) (fun _ X hr => pf_X10_tracks X hr v1 v2 m h)
def wp_X10_price (v1 : Int) (v2 : Int) (m : Mem) (post : Int → Mem → Prop) : Prop :=
  ((v1 < 0 → (post (-101) m)) ∧
  (¬ v1 < 0 → (((v1 ≤ 1 → (((v2 < 0 → (post (-102) m)) ∧
  (¬ v2 < 0 → (((v2 ≤ 99 → (((¬ v1 = 1 → (wp_X5_forget m (fun m52 => ∀ v3_62 : Int, v3_62 = m52 43 0 → (∀ m68 : Mem, m68 = mset m52 43 0 v2 → (post v3_62 m68))))) ∧
  (v1 = 1 → (∀ v3_37 : Int, v3_37 = m 47 0 → (∀ m43 : Mem, m43 = mset m 47 0 v2 → (post v3_37 m43))))))) ∧
  (¬ v2 ≤ 99 → (post (-102) m)))))))) ∧
  (¬ v1 ≤ 1 → (post (-101) m))))))
set_option maxRecDepth 100000 in
theorem pf_X10_price {l : Launch} {x : WX} {G : GT} {post : Int → Mem → Prop} (X : Ax l x cX10_price RX10 4 (rmd 1) 67 G) (hr : RI cX10_price post G) (v1 : Int) (v2 : Int) (m : Mem) (h : wp_X10_price v1 v2 m post) : G 0 [(0, (2, 0)), (1, (0, v1)), (2, (0, v2))] [] m := by
  unfold wp_X10_price at h
  refine g_iload_n 1 (i := 1) X dX10_price_0 rfl rfl ?_
  refine g_if_lt X dX10_price_1 (tgt := 9) (by decide) (fun hc => ?_) (fun hc => ?_)
  · have h := h.1 hc
    refine g_bipush X dX10_price_9 (by decide) ?_
    exact hr _ _ _ _ _ dX10_price_11 h
  · have h := h.2 hc
    refine g_iload_n 1 (i := 1) X dX10_price_4 rfl rfl ?_
    refine g_iconst X dX10_price_5 (by decide) ?_
    refine g_icmp_le X dX10_price_6 (tgt := 12) (by decide) (fun hc => ?_) (fun hc => ?_)
    · have h := h.1 hc
      refine g_iload_n 2 (i := 2) X dX10_price_12 rfl rfl ?_
      refine g_if_lt X dX10_price_13 (tgt := 22) (by decide) (fun hc => ?_) (fun hc => ?_)
      · have h := h.1 hc
        refine g_bipush X dX10_price_22 (by decide) ?_
        exact hr _ _ _ _ _ dX10_price_24 h
      · have h := h.2 hc
        refine g_iload_n 2 (i := 2) X dX10_price_16 rfl rfl ?_
        refine g_bipush X dX10_price_17 (by decide) ?_
        refine g_icmp_le X dX10_price_19 (tgt := 25) (by decide) (fun hc => ?_) (fun hc => ?_)
        · have h := h.1 hc
          refine g_iload_n 1 (i := 1) X dX10_price_25 rfl rfl ?_
          refine g_iconst X dX10_price_26 (by decide) ?_
          refine g_icmp_ne X dX10_price_27 (tgt := 48) (by decide) (fun hc => ?_) (fun hc => ?_)
          · have h := h.1 hc
            refine g_aload_n 0 (i := 0) X dX10_price_48 rfl rfl ?_
            refine g_getR X dX10_price_49 fX10_54 ?_
            refine g_cVV (st := []) X dX10_price_52 YX5_forget lX10_103 (by decide) (im_X5_forget l x  _ _ h) rfl ⟨by decide, by decide⟩ rfl (Nat.le_of_ble_eq_true rfl) (fun m52 h => ?_)
            refine g_aload_n 0 (i := 0) X dX10_price_55 rfl rfl ?_
            refine g_getR X dX10_price_56 fX10_54 ?_
            refine g_getI X dX10_price_59 fX10_268 ?_
            refine g_nmI (fun v3_62 ev3_62 => ?_)
            have h := h v3_62 ev3_62
            refine g_istore_n (i := 3) (lv' := [(3, (0, v3_62)), (0, (2, 0)), (1, (0, v1)), (2, (0, v2))]) X dX10_price_62 rfl (by decide) rfl ?_
            refine g_aload_n 1 (i := 0) X dX10_price_63 rfl rfl ?_
            refine g_getR X dX10_price_64 fX10_54 ?_
            refine g_iload_n 3 (i := 2) X dX10_price_67 rfl rfl ?_
            refine g_putI X dX10_price_68 pX10_268 (fun m68 em68 => ?_)
            have h := h m68 em68
            refine g_iload_n 0 (i := 3) X dX10_price_71 rfl rfl ?_
            exact hr _ _ _ _ _ dX10_price_72 h
          · have h := h.2 hc
            refine g_aload_n 0 (i := 0) X dX10_price_30 rfl rfl ?_
            refine g_getR X dX10_price_31 fX10_61 ?_
            refine g_getI X dX10_price_34 fX10_265 ?_
            refine g_nmI (fun v3_37 ev3_37 => ?_)
            have h := h v3_37 ev3_37
            refine g_istore_n (i := 3) (lv' := [(3, (0, v3_37)), (0, (2, 0)), (1, (0, v1)), (2, (0, v2))]) X dX10_price_37 rfl (by decide) rfl ?_
            refine g_aload_n 1 (i := 0) X dX10_price_38 rfl rfl ?_
            refine g_getR X dX10_price_39 fX10_61 ?_
            refine g_iload_n 3 (i := 2) X dX10_price_42 rfl rfl ?_
            refine g_putI X dX10_price_43 pX10_265 (fun m43 em43 => ?_)
            have h := h m43 em43
            refine g_iload_n 0 (i := 3) X dX10_price_46 rfl rfl ?_
            exact hr _ _ _ _ _ dX10_price_47 h
        · have h := h.2 hc
          refine g_bipush X dX10_price_22 (by decide) ?_
          exact hr _ _ _ _ _ dX10_price_24 h
    · have h := h.2 hc
      refine g_bipush X dX10_price_9 (by decide) ?_
      exact hr _ _ _ _ _ dX10_price_11 h
theorem im_X10_price (l : Launch) (x : WX) (v1 : Int) (v2 : Int) (m : Mem) (post : Int → Mem → Prop) (h : wp_X10_price v1 v2 m post) : MetI l x 67 1 yX10_price cX10_price 4 .int [(2, 0), (0, v1), (0, v2)] m post := met_I (by decide) (Nat.le_of_ble_eq_true rfl) (fun _ X hr => pf_X10_price X hr v1 v2 m h)
def wp_X10_cost (v1 : Int) (m : Mem) (post : Int → Mem → Prop) : Prop :=
  wp_X5_allows v1 (m 1 0) m (fun r12 m12 => ((r12 = 0 → (post (-102) m12)) ∧
  (¬ r12 = 0 → (wp_X5_costOf v1 m12 (fun r27 m27 => post r27 m27)))))
set_option maxRecDepth 100000 in
theorem pf_X10_cost {l : Launch} {x : WX} {G : GT} {post : Int → Mem → Prop} (X : Ax l x cX10_cost RX10 3 (rmd 3) 67 G) (hr : RI cX10_cost post G) (v1 : Int) (m : Mem) (h : wp_X10_cost v1 m post) : G 0 [(0, (2, 0)), (1, (1, v1))] [] m := by
  unfold wp_X10_cost at h
  refine g_aload_n 0 (i := 0) X dX10_cost_0 rfl rfl ?_
  refine g_getR X dX10_cost_1 fX10_54 ?_
  refine g_lload_n 1 (i := 1) X dX10_cost_4 rfl rfl ?_
  refine g_aload_n 0 (i := 0) X dX10_cost_5 rfl rfl ?_
  refine g_getR X dX10_cost_6 fX10_10 ?_
  refine g_getI X dX10_cost_9 fX10_129 ?_
  refine g_cVI (st := []) X dX10_cost_12 YX5_allows lX10_271 (by decide) (im_X5_allows l x _ _ _ _ h) rfl ⟨by decide, by decide⟩ rfl (Nat.le_of_ble_eq_true rfl) (fun r12 m12 h => ?_)
  refine g_if_eq X dX10_cost_15 (tgt := 33) (by decide) (fun hc => ?_) (fun hc => ?_)
  · have h := h.1 hc
    refine g_bipush X dX10_cost_33 (by decide) ?_
    exact hr _ _ _ _ _ dX10_cost_35 h
  · have h := h.2 hc
    refine g_aload_n 0 (i := 0) X dX10_cost_18 rfl rfl ?_
    refine g_getR X dX10_cost_19 fX10_54 ?_
    refine g_lload_n 1 (i := 1) X dX10_cost_22 rfl rfl ?_
    refine g_aload_n 0 (i := 0) X dX10_cost_23 rfl rfl ?_
    refine g_getR X dX10_cost_24 fX10_10 ?_
    refine g_cVI (st := []) X dX10_cost_27 YX5_costOf lX10_275 (by decide) (im_X5_costOf l x _ _ _ h) rfl ⟨by decide, by decide⟩ rfl (Nat.le_of_ble_eq_true rfl) (fun r27 m27 h => ?_)
    refine g_goto X dX10_cost_30 (tgt := 35) (by decide) ?_
    exact hr _ _ _ _ _ dX10_cost_35 h
theorem im_X10_cost (l : Launch) (x : WX) (v1 : Int) (m : Mem) (post : Int → Mem → Prop) (h : wp_X10_cost v1 m post) : MetI l x 67 3 yX10_cost cX10_cost 3 .int [(2, 0), (1, v1)] m post := met_I (by decide) (Nat.le_of_ble_eq_true rfl) (fun _ X hr => pf_X10_cost X hr v1 m h)
def wp_X10_net (v1 : Int) (m : Mem) (post : Int → Mem → Prop) : Prop :=
  ((v1 < 0 → (post (-102) m)) ∧
  (¬ v1 < 0 → (((v1 ≤ 2 → (((¬ v1 = 2 → (((m 1 0 ≤ 4 → (wp_X5_findBest m (fun m64 => ((¬ v1 = 0 → (post (m64 43 4) m64)) ∧
  (v1 = 0 → (post (m64 43 3) m64)))))) ∧
  (¬ m 1 0 ≤ 4 → (post (-103) m))))) ∧
  (v1 = 2 → (wp_X5_fullNet (m 1 0) m (fun r29 m29 => wp_X5_costOf r29 m29 (fun r36 m36 => post r36 m36))))))) ∧
  (¬ v1 ≤ 2 → (post (-102) m))))))
set_option maxRecDepth 100000 in
theorem pf_X10_net {l : Launch} {x : WX} {G : GT} {post : Int → Mem → Prop} (X : Ax l x cX10_net RX10 2 (rmd 4) 67 G) (hr : RJ cX10_net post G) (v1 : Int) (m : Mem) (h : wp_X10_net v1 m post) : G 0 [(0, (2, 0)), (1, (0, v1))] [] m := by
  unfold wp_X10_net at h
  refine g_iload_n 1 (i := 1) X dX10_net_0 rfl rfl ?_
  refine g_if_lt X dX10_net_1 (tgt := 9) (by decide) (fun hc => ?_) (fun hc => ?_)
  · have h := h.1 hc
    refine g_ldc2 X dX10_net_9 (by unfold r64; omega) kX10_279 ?_
    exact hr _ _ _ _ _ dX10_net_12 h
  · have h := h.2 hc
    refine g_iload_n 1 (i := 1) X dX10_net_4 rfl rfl ?_
    refine g_iconst X dX10_net_5 (by decide) ?_
    refine g_icmp_le X dX10_net_6 (tgt := 13) (by decide) (fun hc => ?_) (fun hc => ?_)
    · have h := h.1 hc
      refine g_iload_n 1 (i := 1) X dX10_net_13 rfl rfl ?_
      refine g_iconst X dX10_net_14 (by decide) ?_
      refine g_icmp_ne X dX10_net_15 (tgt := 41) (by decide) (fun hc => ?_) (fun hc => ?_)
      · have h := h.1 hc
        refine g_aload_n 0 (i := 0) X dX10_net_41 rfl rfl ?_
        refine g_getR X dX10_net_42 fX10_10 ?_
        refine g_getI X dX10_net_45 fX10_129 ?_
        refine g_iconst X dX10_net_48 (by decide) ?_
        refine g_icmp_le X dX10_net_49 (tgt := 56) (by decide) (fun hc => ?_) (fun hc => ?_)
        · have h := h.1 hc
          refine g_aload_n 0 (i := 0) X dX10_net_56 rfl rfl ?_
          refine g_getR X dX10_net_57 fX10_54 ?_
          refine g_aload_n 0 (i := 0) X dX10_net_60 rfl rfl ?_
          refine g_getR X dX10_net_61 fX10_10 ?_
          refine g_cVV (st := []) X dX10_net_64 YX5_findBest lX10_287 (by decide) (im_X5_findBest l x  _ _ h) rfl ⟨by decide, by decide⟩ rfl (Nat.le_of_ble_eq_true rfl) (fun m64 h => ?_)
          refine g_iload_n 1 (i := 1) X dX10_net_67 rfl rfl ?_
          refine g_if_ne X dX10_net_68 (tgt := 82) (by decide) (fun hc => ?_) (fun hc => ?_)
          · have h := h.1 hc
            refine g_aload_n 0 (i := 0) X dX10_net_82 rfl rfl ?_
            refine g_getR X dX10_net_83 fX10_54 ?_
            refine g_getJ X dX10_net_86 fX10_294 ?_
            exact hr _ _ _ _ _ dX10_net_89 h
          · have h := h.2 hc
            refine g_aload_n 0 (i := 0) X dX10_net_71 rfl rfl ?_
            refine g_getR X dX10_net_72 fX10_54 ?_
            refine g_getI X dX10_net_75 fX10_291 ?_
            refine g_i2l X dX10_net_78 ?_
            refine g_goto X dX10_net_79 (tgt := 89) (by decide) ?_
            exact hr _ _ _ _ _ dX10_net_89 h
        · have h := h.2 hc
          refine g_ldc2 X dX10_net_52 (by unfold r64; omega) kX10_285 ?_
          exact hr _ _ _ _ _ dX10_net_55 h
      · have h := h.2 hc
        refine g_aload_n 0 (i := 0) X dX10_net_18 rfl rfl ?_
        refine g_getR X dX10_net_19 fX10_54 ?_
        refine g_aload_n 0 (i := 0) X dX10_net_22 rfl rfl ?_
        refine g_getR X dX10_net_23 fX10_10 ?_
        refine g_getI X dX10_net_26 fX10_129 ?_
        refine g_cSJ (st := [(2, 43)]) X dX10_net_29 YX5_fullNet lX10_281 (by decide) (im_X5_fullNet l x _ _ _ h) rfl ⟨by decide, by decide⟩ rfl (Nat.le_of_ble_eq_true rfl) (fun r29 m29 h => ?_)
        refine g_aload_n 0 (i := 0) X dX10_net_32 rfl rfl ?_
        refine g_getR X dX10_net_33 fX10_10 ?_
        refine g_cVI (st := []) X dX10_net_36 YX5_costOf lX10_275 (by decide) (im_X5_costOf l x _ _ _ h) rfl ⟨by decide, by decide⟩ rfl (Nat.le_of_ble_eq_true rfl) (fun r36 m36 h => ?_)
        refine g_i2l X dX10_net_39 ?_
        exact hr _ _ _ _ _ dX10_net_40 h
    · have h := h.2 hc
      refine g_ldc2 X dX10_net_9 (by unfold r64; omega) kX10_279 ?_
      exact hr _ _ _ _ _ dX10_net_12 h
theorem im_X10_net (l : Launch) (x : WX) (v1 : Int) (m : Mem) (post : Int → Mem → Prop) (h : wp_X10_net v1 m post) : MetJ l x 67 4 yX10_net cX10_net 2 [(2, 0), (0, v1)] m post := met_J (by decide) (Nat.le_of_ble_eq_true rfl) (fun _ X hr => pf_X10_net X hr v1 m h)
def wp_X10_empties (v1 : Int) (v2 : Int) (v3 : Int) (m : Mem) (post : Int → Mem → Prop) : Prop :=
  wp_X3_has v1 m (fun r5 m5 => ((r5 = 0 → (post (-1000) m5)) ∧
  (¬ r5 = 0 → (((v2 < 0 → (post (-1000) m5)) ∧
  (¬ v2 < 0 → (((v2 < 3 → (((v3 < (-50) → (post (-1001) m5)) ∧
  (¬ v3 < (-50) → (((v3 ≤ 50 → ((0 ≤ w32 (w32 (v1 * 3) + v2) ∧ w32 (w32 (v1 * 3) + v2) < 24) ∧ (∀ v4_53 : Int, v4_53 = m5 48 (w32 (w32 (v1 * 3) + v2)) → ((0 ≤ w32 (w32 (v1 * 3) + v2) ∧ w32 (w32 (v1 * 3) + v2) < 24) ∧ (∀ m68 : Mem, m68 = mset m5 48 (w32 (w32 (v1 * 3) + v2)) v3 → (post v4_53 m68)))))) ∧
  (¬ v3 ≤ 50 → (post (-1001) m5)))))))) ∧
  (¬ v2 < 3 → (post (-1000) m5))))))))))
set_option maxRecDepth 100000 in
theorem pf_X10_empties {l : Launch} {x : WX} {G : GT} {post : Int → Mem → Prop} (X : Ax l x cX10_empties RX10 5 (rmd 1) 67 G) (hr : RI cX10_empties post G) (v1 : Int) (v2 : Int) (v3 : Int) (m : Mem) (h : wp_X10_empties v1 v2 v3 m post) : G 0 [(0, (2, 0)), (1, (0, v1)), (2, (0, v2)), (3, (0, v3))] [] m := by
  unfold wp_X10_empties at h
  refine g_aload_n 0 (i := 0) X dX10_empties_0 rfl rfl ?_
  refine g_getR X dX10_empties_1 fX10_10 ?_
  refine g_iload_n 1 (i := 1) X dX10_empties_4 rfl rfl ?_
  refine g_cVI (st := []) X dX10_empties_5 YX3_has lX10_110 (by decide) (im_X3_has l x _ _ _ h) rfl ⟨by decide, by decide⟩ rfl (Nat.le_of_ble_eq_true rfl) (fun r5 m5 h => ?_)
  refine g_if_eq X dX10_empties_8 (tgt := 20) (by decide) (fun hc => ?_) (fun hc => ?_)
  · have h := h.1 hc
    refine g_sipush X dX10_empties_20 (by decide) ?_
    exact hr _ _ _ _ _ dX10_empties_23 h
  · have h := h.2 hc
    refine g_iload_n 2 (i := 2) X dX10_empties_11 rfl rfl ?_
    refine g_if_lt X dX10_empties_12 (tgt := 20) (by decide) (fun hc => ?_) (fun hc => ?_)
    · have h := h.1 hc
      refine g_sipush X dX10_empties_20 (by decide) ?_
      exact hr _ _ _ _ _ dX10_empties_23 h
    · have h := h.2 hc
      refine g_iload_n 2 (i := 2) X dX10_empties_15 rfl rfl ?_
      refine g_iconst X dX10_empties_16 (by decide) ?_
      refine g_icmp_lt X dX10_empties_17 (tgt := 24) (by decide) (fun hc => ?_) (fun hc => ?_)
      · have h := h.1 hc
        refine g_iload_n 3 (i := 3) X dX10_empties_24 rfl rfl ?_
        refine g_bipush X dX10_empties_25 (by decide) ?_
        refine g_icmp_lt X dX10_empties_27 (tgt := 36) (by decide) (fun hc => ?_) (fun hc => ?_)
        · have h := h.1 hc
          refine g_sipush X dX10_empties_36 (by decide) ?_
          exact hr _ _ _ _ _ dX10_empties_39 h
        · have h := h.2 hc
          refine g_iload_n 3 (i := 3) X dX10_empties_30 rfl rfl ?_
          refine g_bipush X dX10_empties_31 (by decide) ?_
          refine g_icmp_le X dX10_empties_33 (tgt := 40) (by decide) (fun hc => ?_) (fun hc => ?_)
          · have h := h.1 hc
            refine g_aload_n 0 (i := 0) X dX10_empties_40 rfl rfl ?_
            refine g_getR X dX10_empties_41 fX10_61 ?_
            refine g_getR X dX10_empties_44 fX10_298 ?_
            refine g_iload_n 1 (i := 1) X dX10_empties_47 rfl rfl ?_
            refine g_iconst X dX10_empties_48 (by decide) ?_
            refine g_imul X dX10_empties_49 ?_
            refine g_iload_n 2 (i := 2) X dX10_empties_50 rfl rfl ?_
            refine g_iadd X dX10_empties_51 ?_
            obtain ⟨hi, h⟩ := h
            refine g_iald X dX10_empties_52 rfl hi ?_
            refine g_nmI (fun v4_53 ev4_53 => ?_)
            have h := h v4_53 ev4_53
            refine g_istore (i := 4) (lv' := [(4, (0, v4_53)), (0, (2, 0)), (1, (0, v1)), (2, (0, v2)), (3, (0, v3))]) X dX10_empties_53 (by decide) rfl ?_
            refine g_aload_n 1 (i := 0) X dX10_empties_55 rfl rfl ?_
            refine g_getR X dX10_empties_56 fX10_61 ?_
            refine g_getR X dX10_empties_59 fX10_298 ?_
            refine g_iload_n 2 (i := 1) X dX10_empties_62 rfl rfl ?_
            refine g_iconst X dX10_empties_63 (by decide) ?_
            refine g_imul X dX10_empties_64 ?_
            refine g_iload_n 3 (i := 2) X dX10_empties_65 rfl rfl ?_
            refine g_iadd X dX10_empties_66 ?_
            refine g_iload_n 4 (i := 3) X dX10_empties_67 rfl rfl ?_
            obtain ⟨hi, h⟩ := h
            refine g_iast X dX10_empties_68 rfl hi (fun m68 em68 => ?_)
            have h := h m68 em68
            refine g_iload 0 (i := 4) X dX10_empties_69 rfl ?_
            exact hr _ _ _ _ _ dX10_empties_71 h
          · have h := h.2 hc
            refine g_sipush X dX10_empties_36 (by decide) ?_
            exact hr _ _ _ _ _ dX10_empties_39 h
      · have h := h.2 hc
        refine g_sipush X dX10_empties_20 (by decide) ?_
        exact hr _ _ _ _ _ dX10_empties_23 h
theorem im_X10_empties (l : Launch) (x : WX) (v1 : Int) (v2 : Int) (v3 : Int) (m : Mem) (post : Int → Mem → Prop) (h : wp_X10_empties v1 v2 v3 m post) : MetI l x 67 1 yX10_empties cX10_empties 5 .int [(2, 0), (0, v1), (0, v2), (0, v3)] m post := met_I (by decide) (Nat.le_of_ble_eq_true rfl) (fun _ X hr => pf_X10_empties X hr v1 v2 v3 m h)
def wp_X10_least  (m : Mem) (post : Int → Mem → Prop) : Prop :=
  wp_X2_leastPaid m (fun r8 m8 => post r8 m8)
set_option maxRecDepth 100000 in
theorem pf_X10_least {l : Launch} {x : WX} {G : GT} {post : Int → Mem → Prop} (X : Ax l x cX10_least RX10 1 (rmd 4) 67 G) (hr : RI cX10_least post G)  (m : Mem) (h : wp_X10_least  m post) : G 0 [(0, (2, 0))] [] m := by
  unfold wp_X10_least at h
  refine g_aload_n 0 (i := 0) X dX10_least_0 rfl rfl ?_
  refine g_getR X dX10_least_1 fX10_61 ?_
  refine g_aload_n 0 (i := 0) X dX10_least_4 rfl rfl ?_
  refine g_getR X dX10_least_5 fX10_10 ?_
  refine g_cVI (st := []) X dX10_least_8 YX2_leastPaid lX10_301 (by decide) (im_X2_leastPaid l x  _ _ h) rfl ⟨by decide, by decide⟩ rfl (Nat.le_of_ble_eq_true rfl) (fun r8 m8 h => ?_)
  exact hr _ _ _ _ _ dX10_least_11 h
theorem im_X10_least (l : Launch) (x : WX)  (m : Mem) (post : Int → Mem → Prop) (h : wp_X10_least  m post) : MetI l x 67 4 yX10_least cX10_least 1 .int [(2, 0)] m post := met_I (by decide) (Nat.le_of_ble_eq_true rfl) (fun _ X hr => pf_X10_least X hr  m h)
def wp_X10_leg (v1 : Int) (v2 : Int) (m : Mem) (post : Int → Mem → Prop) : Prop :=
  ((v1 < 1 → (post (-102) m)) ∧
  (¬ v1 < 1 → (((99 < v1 → (post (-102) m)) ∧
  (¬ 99 < v1 → (((v2 < 0 → (post (-102) m)) ∧
  (¬ v2 < 0 → (((v2 ≤ 9 → (((m 59 0 < 5 → (wp_X4_add v1 v2 m (fun m44 => post (m44 59 0) m44))) ∧
  (¬ m 59 0 < 5 → (post (-104) m))))) ∧
  (¬ v2 ≤ 9 → (post (-102) m))))))))))))
set_option maxRecDepth 100000 in
theorem pf_X10_leg {l : Launch} {x : WX} {G : GT} {post : Int → Mem → Prop} (X : Ax l x cX10_leg RX10 3 (rmd 1) 67 G) (hr : RI cX10_leg post G) (v1 : Int) (v2 : Int) (m : Mem) (h : wp_X10_leg v1 v2 m post) : G 0 [(0, (2, 0)), (1, (0, v1)), (2, (0, v2))] [] m := by
  unfold wp_X10_leg at h
  refine g_iload_n 1 (i := 1) X dX10_leg_0 rfl rfl ?_
  refine g_iconst X dX10_leg_1 (by decide) ?_
  refine g_icmp_lt X dX10_leg_2 (tgt := 21) (by decide) (fun hc => ?_) (fun hc => ?_)
  · have h := h.1 hc
    refine g_bipush X dX10_leg_21 (by decide) ?_
    exact hr _ _ _ _ _ dX10_leg_23 h
  · have h := h.2 hc
    refine g_iload_n 1 (i := 1) X dX10_leg_5 rfl rfl ?_
    refine g_bipush X dX10_leg_6 (by decide) ?_
    refine g_icmp_gt X dX10_leg_8 (tgt := 21) (by decide) (fun hc => ?_) (fun hc => ?_)
    · have h := h.1 hc
      refine g_bipush X dX10_leg_21 (by decide) ?_
      exact hr _ _ _ _ _ dX10_leg_23 h
    · have h := h.2 hc
      refine g_iload_n 2 (i := 2) X dX10_leg_11 rfl rfl ?_
      refine g_if_lt X dX10_leg_12 (tgt := 21) (by decide) (fun hc => ?_) (fun hc => ?_)
      · have h := h.1 hc
        refine g_bipush X dX10_leg_21 (by decide) ?_
        exact hr _ _ _ _ _ dX10_leg_23 h
      · have h := h.2 hc
        refine g_iload_n 2 (i := 2) X dX10_leg_15 rfl rfl ?_
        refine g_bipush X dX10_leg_16 (by decide) ?_
        refine g_icmp_le X dX10_leg_18 (tgt := 24) (by decide) (fun hc => ?_) (fun hc => ?_)
        · have h := h.1 hc
          refine g_aload_n 0 (i := 0) X dX10_leg_24 rfl rfl ?_
          refine g_getR X dX10_leg_25 fX10_68 ?_
          refine g_getI X dX10_leg_28 fX10_95 ?_
          refine g_iconst X dX10_leg_31 (by decide) ?_
          refine g_icmp_lt X dX10_leg_32 (tgt := 38) (by decide) (fun hc => ?_) (fun hc => ?_)
          · have h := h.1 hc
            refine g_aload_n 0 (i := 0) X dX10_leg_38 rfl rfl ?_
            refine g_getR X dX10_leg_39 fX10_68 ?_
            refine g_iload_n 1 (i := 1) X dX10_leg_42 rfl rfl ?_
            refine g_iload_n 2 (i := 2) X dX10_leg_43 rfl rfl ?_
            refine g_cVV (st := []) X dX10_leg_44 YX4_add lX10_305 (by decide) (im_X4_add l x _ _ _ _ h) rfl ⟨by decide, by decide⟩ rfl (Nat.le_of_ble_eq_true rfl) (fun m44 h => ?_)
            refine g_aload_n 0 (i := 0) X dX10_leg_47 rfl rfl ?_
            refine g_getR X dX10_leg_48 fX10_68 ?_
            refine g_getI X dX10_leg_51 fX10_95 ?_
            exact hr _ _ _ _ _ dX10_leg_54 h
          · have h := h.2 hc
            refine g_bipush X dX10_leg_35 (by decide) ?_
            exact hr _ _ _ _ _ dX10_leg_37 h
        · have h := h.2 hc
          refine g_bipush X dX10_leg_21 (by decide) ?_
          exact hr _ _ _ _ _ dX10_leg_23 h
theorem im_X10_leg (l : Launch) (x : WX) (v1 : Int) (v2 : Int) (m : Mem) (post : Int → Mem → Prop) (h : wp_X10_leg v1 v2 m post) : MetI l x 67 1 yX10_leg cX10_leg 3 .int [(2, 0), (0, v1), (0, v2)] m post := met_I (by decide) (Nat.le_of_ble_eq_true rfl) (fun _ X hr => pf_X10_leg X hr v1 v2 m h)
def wp_X10_stay  (m : Mem) (post : Int → Mem → Prop) : Prop :=
  ∀ v1_7 : Int, v1_7 = m 59 0 → (∀ m13 : Mem, m13 = mset m 59 0 0 → (post v1_7 m13))
set_option maxRecDepth 100000 in
theorem pf_X10_stay {l : Launch} {x : WX} {G : GT} {post : Int → Mem → Prop} (X : Ax l x cX10_stay RX10 2 (rmd 0) 67 G) (hr : RI cX10_stay post G)  (m : Mem) (h : wp_X10_stay  m post) : G 0 [(0, (2, 0))] [] m := by
  unfold wp_X10_stay at h
  refine g_aload_n 0 (i := 0) X dX10_stay_0 rfl rfl ?_
  refine g_getR X dX10_stay_1 fX10_68 ?_
  refine g_getI X dX10_stay_4 fX10_95 ?_
  refine g_nmI (fun v1_7 ev1_7 => ?_)
  have h := h v1_7 ev1_7
  refine g_istore_n (i := 1) (lv' := [(1, (0, v1_7)), (0, (2, 0))]) X dX10_stay_7 rfl (by decide) rfl ?_
  refine g_aload_n 1 (i := 0) X dX10_stay_8 rfl rfl ?_
  refine g_getR X dX10_stay_9 fX10_68 ?_
  refine g_iconst X dX10_stay_12 (by decide) ?_
  refine g_putI X dX10_stay_13 pX10_95 (fun m13 em13 => ?_)
  have h := h m13 em13
  refine g_iload_n 0 (i := 1) X dX10_stay_16 rfl rfl ?_
  exact hr _ _ _ _ _ dX10_stay_17 h
theorem im_X10_stay (l : Launch) (x : WX)  (m : Mem) (post : Int → Mem → Prop) (h : wp_X10_stay  m post) : MetI l x 67 0 yX10_stay cX10_stay 2 .int [(2, 0)] m post := met_I (by decide) (Nat.le_of_ble_eq_true rfl) (fun _ X hr => pf_X10_stay X hr  m h)
def wp_X10_share (v1 : Int) (v2 : Int) (m : Mem) (post : Int → Mem → Prop) : Prop :=
  ((v1 < 0 → (post (-102) m)) ∧
  (¬ v1 < 0 → (((999 < v1 → (post (-102) m)) ∧
  (¬ 999 < v1 → (((v2 < 0 → (post (-102) m)) ∧
  (¬ v2 < 0 → (((v2 ≤ 1 → (wp_X4_shareWithin v1 m (fun m29 => ((¬ v2 = 0 → (post (m29 59 2) m29)) ∧
  (v2 = 0 → (post (m29 59 1) m29)))))) ∧
  (¬ v2 ≤ 1 → (post (-102) m))))))))))))
set_option maxRecDepth 100000 in
theorem pf_X10_share {l : Launch} {x : WX} {G : GT} {post : Int → Mem → Prop} (X : Ax l x cX10_share RX10 3 (rmd 4) 67 G) (hr : RJ cX10_share post G) (v1 : Int) (v2 : Int) (m : Mem) (h : wp_X10_share v1 v2 m post) : G 0 [(0, (2, 0)), (1, (0, v1)), (2, (0, v2))] [] m := by
  unfold wp_X10_share at h
  refine g_iload_n 1 (i := 1) X dX10_share_0 rfl rfl ?_
  refine g_if_lt X dX10_share_1 (tgt := 20) (by decide) (fun hc => ?_) (fun hc => ?_)
  · have h := h.1 hc
    refine g_ldc2 X dX10_share_20 (by unfold r64; omega) kX10_279 ?_
    exact hr _ _ _ _ _ dX10_share_23 h
  · have h := h.2 hc
    refine g_iload_n 1 (i := 1) X dX10_share_4 rfl rfl ?_
    refine g_sipush X dX10_share_5 (by decide) ?_
    refine g_icmp_gt X dX10_share_8 (tgt := 20) (by decide) (fun hc => ?_) (fun hc => ?_)
    · have h := h.1 hc
      refine g_ldc2 X dX10_share_20 (by unfold r64; omega) kX10_279 ?_
      exact hr _ _ _ _ _ dX10_share_23 h
    · have h := h.2 hc
      refine g_iload_n 2 (i := 2) X dX10_share_11 rfl rfl ?_
      refine g_if_lt X dX10_share_12 (tgt := 20) (by decide) (fun hc => ?_) (fun hc => ?_)
      · have h := h.1 hc
        refine g_ldc2 X dX10_share_20 (by unfold r64; omega) kX10_279 ?_
        exact hr _ _ _ _ _ dX10_share_23 h
      · have h := h.2 hc
        refine g_iload_n 2 (i := 2) X dX10_share_15 rfl rfl ?_
        refine g_iconst X dX10_share_16 (by decide) ?_
        refine g_icmp_le X dX10_share_17 (tgt := 24) (by decide) (fun hc => ?_) (fun hc => ?_)
        · have h := h.1 hc
          refine g_aload_n 0 (i := 0) X dX10_share_24 rfl rfl ?_
          refine g_getR X dX10_share_25 fX10_68 ?_
          refine g_iload_n 1 (i := 1) X dX10_share_28 rfl rfl ?_
          refine g_cVV (st := []) X dX10_share_29 YX4_shareWithin lX10_307 (by decide) (im_X4_shareWithin l x _ _ _ h) rfl ⟨by decide, by decide⟩ rfl (Nat.le_of_ble_eq_true rfl) (fun m29 h => ?_)
          refine g_iload_n 2 (i := 2) X dX10_share_32 rfl rfl ?_
          refine g_if_ne X dX10_share_33 (tgt := 46) (by decide) (fun hc => ?_) (fun hc => ?_)
          · have h := h.1 hc
            refine g_aload_n 0 (i := 0) X dX10_share_46 rfl rfl ?_
            refine g_getR X dX10_share_47 fX10_68 ?_
            refine g_getJ X dX10_share_50 fX10_313 ?_
            exact hr _ _ _ _ _ dX10_share_53 h
          · have h := h.2 hc
            refine g_aload_n 0 (i := 0) X dX10_share_36 rfl rfl ?_
            refine g_getR X dX10_share_37 fX10_68 ?_
            refine g_getJ X dX10_share_40 fX10_310 ?_
            refine g_goto X dX10_share_43 (tgt := 53) (by decide) ?_
            exact hr _ _ _ _ _ dX10_share_53 h
        · have h := h.2 hc
          refine g_ldc2 X dX10_share_20 (by unfold r64; omega) kX10_279 ?_
          exact hr _ _ _ _ _ dX10_share_23 h
theorem im_X10_share (l : Launch) (x : WX) (v1 : Int) (v2 : Int) (m : Mem) (post : Int → Mem → Prop) (h : wp_X10_share v1 v2 m post) : MetJ l x 67 4 yX10_share cX10_share 3 [(2, 0), (0, v1), (0, v2)] m post := met_J (by decide) (Nat.le_of_ble_eq_true rfl) (fun _ X hr => pf_X10_share X hr v1 v2 m h)
def wp_X10_promise (v1 : Int) (m : Mem) (post : Int → Mem → Prop) : Prop :=
  ((v1 < 1 → (post (-102) m)) ∧
  (¬ v1 < 1 → (((v1 ≤ 999 → (wp_X4_hoursFor v1 m (fun r20 m20 => post r20 m20))) ∧
  (¬ v1 ≤ 999 → (post (-102) m))))))
set_option maxRecDepth 100000 in
theorem pf_X10_promise {l : Launch} {x : WX} {G : GT} {post : Int → Mem → Prop} (X : Ax l x cX10_promise RX10 2 (rmd 4) 67 G) (hr : RI cX10_promise post G) (v1 : Int) (m : Mem) (h : wp_X10_promise v1 m post) : G 0 [(0, (2, 0)), (1, (0, v1))] [] m := by
  unfold wp_X10_promise at h
  refine g_iload_n 1 (i := 1) X dX10_promise_0 rfl rfl ?_
  refine g_iconst X dX10_promise_1 (by decide) ?_
  refine g_icmp_lt X dX10_promise_2 (tgt := 12) (by decide) (fun hc => ?_) (fun hc => ?_)
  · have h := h.1 hc
    refine g_bipush X dX10_promise_12 (by decide) ?_
    exact hr _ _ _ _ _ dX10_promise_14 h
  · have h := h.2 hc
    refine g_iload_n 1 (i := 1) X dX10_promise_5 rfl rfl ?_
    refine g_sipush X dX10_promise_6 (by decide) ?_
    refine g_icmp_le X dX10_promise_9 (tgt := 15) (by decide) (fun hc => ?_) (fun hc => ?_)
    · have h := h.1 hc
      refine g_aload_n 0 (i := 0) X dX10_promise_15 rfl rfl ?_
      refine g_getR X dX10_promise_16 fX10_68 ?_
      refine g_iload_n 1 (i := 1) X dX10_promise_19 rfl rfl ?_
      refine g_cVI (st := []) X dX10_promise_20 YX4_hoursFor lX10_316 (by decide) (im_X4_hoursFor l x _ _ _ h) rfl ⟨by decide, by decide⟩ rfl (Nat.le_of_ble_eq_true rfl) (fun r20 m20 h => ?_)
      exact hr _ _ _ _ _ dX10_promise_23 h
    · have h := h.2 hc
      refine g_bipush X dX10_promise_12 (by decide) ?_
      exact hr _ _ _ _ _ dX10_promise_14 h
theorem im_X10_promise (l : Launch) (x : WX) (v1 : Int) (m : Mem) (post : Int → Mem → Prop) (h : wp_X10_promise v1 m post) : MetI l x 67 4 yX10_promise cX10_promise 2 .int [(2, 0), (0, v1)] m post := met_I (by decide) (Nat.le_of_ble_eq_true rfl) (fun _ X hr => pf_X10_promise X hr v1 m h)
def wp_X10_change_33 (v1 : Int) (v2 : Int) (m : Mem)  (post : Int → Mem → Prop) : Prop :=
  ((20 ≤ m 63 0 → (post (-103) m)) ∧
  (¬ 20 ≤ m 63 0 → (wp_X1_gather v1 m (fun r54 m54 => ((¬ r54 = 0 → (∀ m73 : Mem, m73 = mset m54 63 0 (w32 (m54 63 0 + 1)) → (wp_X1_seek v1 (m73 1 0) 44 m73 (fun m99 => ((v2 = 0 → (post (m99 63 1) m99)) ∧
  (¬ v2 = 0 → (((¬ m99 63 1 = (-1) → (wp_X0_has (w32 (v2 - 10)) m99 (fun r133 m133 => ((r133 = 0 → (post (-1) m133)) ∧
  (¬ r133 = 0 → ((0 ≤ w32 (v2 - 10) ∧ w32 (v2 - 10) < 20) ∧ (post (m133 64 (w32 (v2 - 10))) m133))))))) ∧
  (m99 63 1 = (-1) → (post (m99 63 1) m99)))))))))) ∧
  (r54 = 0 → (post (-103) m54)))))))
set_option maxRecDepth 100000 in
theorem pf_X10_change_33 {l : Launch} {x : WX} {G : GT} {post : Int → Mem → Prop}  (X : Ax l x cX10_change RX10 3 (rmd 4) 67 G) (hr : RI cX10_change post G) (v1 : Int) (v2 : Int) (m : Mem) (h : wp_X10_change_33 v1 v2 m  post) : G 33 [(0, (2, 0)), (1, (0, v1)), (2, (0, v2))] [] m := by
  unfold wp_X10_change_33 at h
  refine g_aload_n 0 (i := 0) X dX10_change_33 rfl rfl ?_
  refine g_getR X dX10_change_34 fX10_75 ?_
  refine g_getI X dX10_change_37 fX10_96 ?_
  refine g_bipush X dX10_change_40 (by decide) ?_
  refine g_icmp_ge X dX10_change_42 (tgt := 60) (by decide) (fun hc => ?_) (fun hc => ?_)
  · have h := h.1 hc
    refine g_bipush X dX10_change_60 (by decide) ?_
    exact hr _ _ _ _ _ dX10_change_62 h
  · have h := h.2 hc
    refine g_aload_n 0 (i := 0) X dX10_change_45 rfl rfl ?_
    refine g_getR X dX10_change_46 fX10_75 ?_
    refine g_iload_n 1 (i := 1) X dX10_change_49 rfl rfl ?_
    refine g_aload_n 0 (i := 0) X dX10_change_50 rfl rfl ?_
    refine g_getR X dX10_change_51 fX10_26 ?_
    refine g_cVI (st := []) X dX10_change_54 YX1_gather lX10_319 (by decide) (im_X1_gather l x _ _ _ h) rfl ⟨by decide, by decide⟩ rfl (Nat.le_of_ble_eq_true rfl) (fun r54 m54 h => ?_)
    refine g_if_ne X dX10_change_57 (tgt := 63) (by decide) (fun hc => ?_) (fun hc => ?_)
    · have h := h.1 hc
      refine g_aload_n 0 (i := 0) X dX10_change_63 rfl rfl ?_
      refine g_getR X dX10_change_64 fX10_75 ?_
      refine g_dup X dX10_change_67 rfl ?_
      refine g_getI X dX10_change_68 fX10_96 ?_
      refine g_iconst X dX10_change_71 (by decide) ?_
      refine g_iadd X dX10_change_72 ?_
      refine g_putI X dX10_change_73 pX10_96 (fun m73 em73 => ?_)
      have h := h m73 em73
      refine g_aload_n 0 (i := 0) X dX10_change_76 rfl rfl ?_
      refine g_getR X dX10_change_77 fX10_75 ?_
      refine g_iload_n 1 (i := 1) X dX10_change_80 rfl rfl ?_
      refine g_aload_n 0 (i := 0) X dX10_change_81 rfl rfl ?_
      refine g_getR X dX10_change_82 fX10_10 ?_
      refine g_getI X dX10_change_85 fX10_129 ?_
      refine g_aload_n 0 (i := 0) X dX10_change_88 rfl rfl ?_
      refine g_getR X dX10_change_89 fX10_26 ?_
      refine g_aload_n 0 (i := 0) X dX10_change_92 rfl rfl ?_
      refine g_getR X dX10_change_93 fX10_54 ?_
      refine g_getR X dX10_change_96 fX10_259 ?_
      refine g_cVV (st := []) X dX10_change_99 YX1_seek lX10_323 (by decide) (im_X1_seek l x _ _ _ _ _ h) rfl ⟨by decide, by decide⟩ rfl (Nat.le_of_ble_eq_true rfl) (fun m99 h => ?_)
      refine g_iload_n 2 (i := 2) X dX10_change_102 rfl rfl ?_
      refine g_if_eq X dX10_change_103 (tgt := 117) (by decide) (fun hc => ?_) (fun hc => ?_)
      · have h := h.1 hc
        refine g_aload_n 0 (i := 0) X dX10_change_117 rfl rfl ?_
        refine g_getR X dX10_change_118 fX10_75 ?_
        refine g_getI X dX10_change_121 fX10_327 ?_
        exact hr _ _ _ _ _ dX10_change_124 h
      · have h := h.2 hc
        refine g_aload_n 0 (i := 0) X dX10_change_106 rfl rfl ?_
        refine g_getR X dX10_change_107 fX10_75 ?_
        refine g_getI X dX10_change_110 fX10_327 ?_
        refine g_iconst X dX10_change_113 (by decide) ?_
        refine g_icmp_ne X dX10_change_114 (tgt := 125) (by decide) (fun hc => ?_) (fun hc => ?_)
        · have h := h.1 hc
          refine g_aload_n 0 (i := 0) X dX10_change_125 rfl rfl ?_
          refine g_getR X dX10_change_126 fX10_26 ?_
          refine g_iload_n 2 (i := 2) X dX10_change_129 rfl rfl ?_
          refine g_bipush X dX10_change_130 (by decide) ?_
          refine g_isub X dX10_change_132 ?_
          refine g_cVI (st := []) X dX10_change_133 YX0_has lX10_156 (by decide) (im_X0_has l x _ _ _ h) rfl ⟨by decide, by decide⟩ rfl (Nat.le_of_ble_eq_true rfl) (fun r133 m133 h => ?_)
          refine g_if_eq X dX10_change_136 (tgt := 154) (by decide) (fun hc => ?_) (fun hc => ?_)
          · have h := h.1 hc
            refine g_iconst X dX10_change_154 (by decide) ?_
            exact hr _ _ _ _ _ dX10_change_155 h
          · have h := h.2 hc
            refine g_aload_n 0 (i := 0) X dX10_change_139 rfl rfl ?_
            refine g_getR X dX10_change_140 fX10_75 ?_
            refine g_getR X dX10_change_143 fX10_330 ?_
            refine g_iload_n 2 (i := 2) X dX10_change_146 rfl rfl ?_
            refine g_bipush X dX10_change_147 (by decide) ?_
            refine g_isub X dX10_change_149 ?_
            obtain ⟨hi, h⟩ := h
            refine g_iald X dX10_change_150 rfl hi ?_
            refine g_goto X dX10_change_151 (tgt := 155) (by decide) ?_
            exact hr _ _ _ _ _ dX10_change_155 h
        · have h := h.2 hc
          refine g_aload_n 0 (i := 0) X dX10_change_117 rfl rfl ?_
          refine g_getR X dX10_change_118 fX10_75 ?_
          refine g_getI X dX10_change_121 fX10_327 ?_
          exact hr _ _ _ _ _ dX10_change_124 h
    · have h := h.2 hc
      refine g_bipush X dX10_change_60 (by decide) ?_
      exact hr _ _ _ _ _ dX10_change_62 h
def wp_X10_change (v1 : Int) (v2 : Int) (m : Mem) (post : Int → Mem → Prop) : Prop :=
  wp_X3_has v1 m (fun r5 m5 => ((¬ r5 = 0 → (((v2 = 0 → (wp_X10_change_33 v1 v2 m5  post)) ∧
  (¬ v2 = 0 → (((v2 < 10 → (post (-102) m5)) ∧
  (¬ v2 < 10 → (((v2 ≤ 29 → (wp_X10_change_33 v1 v2 m5  post)) ∧
  (¬ v2 ≤ 29 → (post (-102) m5))))))))))) ∧
  (r5 = 0 → (post (-101) m5))))
set_option maxRecDepth 100000 in
theorem pf_X10_change {l : Launch} {x : WX} {G : GT} {post : Int → Mem → Prop} (X : Ax l x cX10_change RX10 3 (rmd 4) 67 G) (hr : RI cX10_change post G) (v1 : Int) (v2 : Int) (m : Mem) (h : wp_X10_change v1 v2 m post) : G 0 [(0, (2, 0)), (1, (0, v1)), (2, (0, v2))] [] m := by
  unfold wp_X10_change at h
  refine g_aload_n 0 (i := 0) X dX10_change_0 rfl rfl ?_
  refine g_getR X dX10_change_1 fX10_10 ?_
  refine g_iload_n 1 (i := 1) X dX10_change_4 rfl rfl ?_
  refine g_cVI (st := []) X dX10_change_5 YX3_has lX10_110 (by decide) (im_X3_has l x _ _ _ h) rfl ⟨by decide, by decide⟩ rfl (Nat.le_of_ble_eq_true rfl) (fun r5 m5 h => ?_)
  refine g_if_ne X dX10_change_8 (tgt := 14) (by decide) (fun hc => ?_) (fun hc => ?_)
  · have h := h.1 hc
    refine g_iload_n 2 (i := 2) X dX10_change_14 rfl rfl ?_
    refine g_if_eq X dX10_change_15 (tgt := 33) (by decide) (fun hc => ?_) (fun hc => ?_)
    · have h := h.1 hc
      refine g_sub X [0, 1, 2] rfl (pf_X10_change_33 X hr  _ _ _ h)
    · have h := h.2 hc
      refine g_iload_n 2 (i := 2) X dX10_change_18 rfl rfl ?_
      refine g_bipush X dX10_change_19 (by decide) ?_
      refine g_icmp_lt X dX10_change_21 (tgt := 30) (by decide) (fun hc => ?_) (fun hc => ?_)
      · have h := h.1 hc
        refine g_bipush X dX10_change_30 (by decide) ?_
        exact hr _ _ _ _ _ dX10_change_32 h
      · have h := h.2 hc
        refine g_iload_n 2 (i := 2) X dX10_change_24 rfl rfl ?_
        refine g_bipush X dX10_change_25 (by decide) ?_
        refine g_icmp_le X dX10_change_27 (tgt := 33) (by decide) (fun hc => ?_) (fun hc => ?_)
        · have h := h.1 hc
          refine g_sub X [0, 1, 2] rfl (pf_X10_change_33 X hr  _ _ _ h)
        · have h := h.2 hc
          refine g_bipush X dX10_change_30 (by decide) ?_
          exact hr _ _ _ _ _ dX10_change_32 h
  · have h := h.2 hc
    refine g_bipush X dX10_change_11 (by decide) ?_
    exact hr _ _ _ _ _ dX10_change_13 h
theorem im_X10_change (l : Launch) (x : WX) (v1 : Int) (v2 : Int) (m : Mem) (post : Int → Mem → Prop) (h : wp_X10_change v1 v2 m post) : MetI l x 67 4 yX10_change cX10_change 3 .int [(2, 0), (0, v1), (0, v2)] m post := met_I (by decide) (Nat.le_of_ble_eq_true rfl) (fun _ X hr => pf_X10_change X hr v1 v2 m h)
def wp_X10_count (v1 : Int) (m : Mem) (post : Int → Mem → Prop) : Prop :=
  ((v1 = 0 → (post (m 1 0) m)) ∧
  ((v1 = 1 → (post (m 6 0) m)) ∧
  ((v1 = 2 → (post (m 13 0) m)) ∧
  ((v1 = 3 → (post (m 28 4) m)) ∧
  ((v1 = 4 → (post (m 28 0) m)) ∧
  ((v1 = 5 → (wp_X9_doneMany m (fun r104 m104 => post r104 m104))) ∧
  ((v1 = 6 → (wp_X9_runningMany m (fun r112 m112 => post r112 m112))) ∧
  ((v1 = 7 → (post (m 37 0) m)) ∧
  ((v1 = 8 → (post (m 59 0) m)) ∧
  ((v1 = 9 → (post (m 4 0) m)) ∧
  ((v1 = 10 → (post (m 63 0) m)) ∧
  (((v1 < 0 ∨ 10 < v1) → (post (-102) m))))))))))))))
set_option maxRecDepth 100000 in
theorem pf_X10_count {l : Launch} {x : WX} {G : GT} {post : Int → Mem → Prop} (X : Ax l x cX10_count RX10 2 (rmd 1) 67 G) (hr : RI cX10_count post G) (v1 : Int) (m : Mem) (h : wp_X10_count v1 m post) : G 0 [(0, (2, 0)), (1, (0, v1))] [] m := by
  unfold wp_X10_count at h
  refine g_iload_n 1 (i := 1) X dX10_count_0 rfl rfl ?_
  by_cases c0 : v1 = 0
  · refine g_tabIn X dX10_count_1 0 c0 (tgt := 60) (by decide) (by decide) rfl (by decide) ?_
    have h := h.1 c0
    refine g_aload_n 0 (i := 0) X dX10_count_60 rfl rfl ?_
    refine g_getR X dX10_count_61 fX10_10 ?_
    refine g_getI X dX10_count_64 fX10_129 ?_
    exact hr _ _ _ _ _ dX10_count_67 h
  have h := h.2
  by_cases c1 : v1 = 1
  · refine g_tabIn X dX10_count_1 1 c1 (tgt := 68) (by decide) (by decide) rfl (by decide) ?_
    have h := h.1 c1
    refine g_aload_n 0 (i := 0) X dX10_count_68 rfl rfl ?_
    refine g_getR X dX10_count_69 fX10_26 ?_
    refine g_getI X dX10_count_72 fX10_139 ?_
    exact hr _ _ _ _ _ dX10_count_75 h
  have h := h.2
  by_cases c2 : v1 = 2
  · refine g_tabIn X dX10_count_1 2 c2 (tgt := 76) (by decide) (by decide) rfl (by decide) ?_
    have h := h.1 c2
    refine g_aload_n 0 (i := 0) X dX10_count_76 rfl rfl ?_
    refine g_getR X dX10_count_77 fX10_33 ?_
    refine g_getI X dX10_count_80 fX10_194 ?_
    exact hr _ _ _ _ _ dX10_count_83 h
  have h := h.2
  by_cases c3 : v1 = 3
  · refine g_tabIn X dX10_count_1 3 c3 (tgt := 84) (by decide) (by decide) rfl (by decide) ?_
    have h := h.1 c3
    refine g_aload_n 0 (i := 0) X dX10_count_84 rfl rfl ?_
    refine g_getR X dX10_count_85 fX10_40 ?_
    refine g_getI X dX10_count_88 fX10_200 ?_
    exact hr _ _ _ _ _ dX10_count_91 h
  have h := h.2
  by_cases c4 : v1 = 4
  · refine g_tabIn X dX10_count_1 4 c4 (tgt := 92) (by decide) (by decide) rfl (by decide) ?_
    have h := h.1 c4
    refine g_aload_n 0 (i := 0) X dX10_count_92 rfl rfl ?_
    refine g_getR X dX10_count_93 fX10_40 ?_
    refine g_getI X dX10_count_96 fX10_212 ?_
    exact hr _ _ _ _ _ dX10_count_99 h
  have h := h.2
  by_cases c5 : v1 = 5
  · refine g_tabIn X dX10_count_1 5 c5 (tgt := 100) (by decide) (by decide) rfl (by decide) ?_
    have h := h.1 c5
    refine g_aload_n 0 (i := 0) X dX10_count_100 rfl rfl ?_
    refine g_getR X dX10_count_101 fX10_40 ?_
    refine g_cVI (st := []) X dX10_count_104 YX9_doneMany lX10_333 (by decide) (im_X9_doneMany l x  _ _ h) rfl ⟨by decide, by decide⟩ rfl (Nat.le_of_ble_eq_true rfl) (fun r104 m104 h => ?_)
    exact hr _ _ _ _ _ dX10_count_107 h
  have h := h.2
  by_cases c6 : v1 = 6
  · refine g_tabIn X dX10_count_1 6 c6 (tgt := 108) (by decide) (by decide) rfl (by decide) ?_
    have h := h.1 c6
    refine g_aload_n 0 (i := 0) X dX10_count_108 rfl rfl ?_
    refine g_getR X dX10_count_109 fX10_40 ?_
    refine g_cVI (st := []) X dX10_count_112 YX9_runningMany lX10_336 (by decide) (im_X9_runningMany l x  _ _ h) rfl ⟨by decide, by decide⟩ rfl (Nat.le_of_ble_eq_true rfl) (fun r112 m112 h => ?_)
    exact hr _ _ _ _ _ dX10_count_115 h
  have h := h.2
  by_cases c7 : v1 = 7
  · refine g_tabIn X dX10_count_1 7 c7 (tgt := 116) (by decide) (by decide) rfl (by decide) ?_
    have h := h.1 c7
    refine g_aload_n 0 (i := 0) X dX10_count_116 rfl rfl ?_
    refine g_getR X dX10_count_117 fX10_47 ?_
    refine g_getI X dX10_count_120 fX10_92 ?_
    exact hr _ _ _ _ _ dX10_count_123 h
  have h := h.2
  by_cases c8 : v1 = 8
  · refine g_tabIn X dX10_count_1 8 c8 (tgt := 124) (by decide) (by decide) rfl (by decide) ?_
    have h := h.1 c8
    refine g_aload_n 0 (i := 0) X dX10_count_124 rfl rfl ?_
    refine g_getR X dX10_count_125 fX10_68 ?_
    refine g_getI X dX10_count_128 fX10_95 ?_
    exact hr _ _ _ _ _ dX10_count_131 h
  have h := h.2
  by_cases c9 : v1 = 9
  · refine g_tabIn X dX10_count_1 9 c9 (tgt := 132) (by decide) (by decide) rfl (by decide) ?_
    have h := h.1 c9
    refine g_aload_n 0 (i := 0) X dX10_count_132 rfl rfl ?_
    refine g_getR X dX10_count_133 fX10_19 ?_
    refine g_getI X dX10_count_136 fX10_84 ?_
    exact hr _ _ _ _ _ dX10_count_139 h
  have h := h.2
  by_cases c10 : v1 = 10
  · refine g_tabIn X dX10_count_1 10 c10 (tgt := 140) (by decide) (by decide) rfl (by decide) ?_
    have h := h.1 c10
    refine g_aload_n 0 (i := 0) X dX10_count_140 rfl rfl ?_
    refine g_getR X dX10_count_141 fX10_75 ?_
    refine g_getI X dX10_count_144 fX10_96 ?_
    exact hr _ _ _ _ _ dX10_count_147 h
  have h := h.2
  have hc := swo_10 v1 c0 c1 c2 c3 c4 c5 c6 c7 c8 c9 c10
  have h := h hc
  refine g_tabOut X dX10_count_1 (tgt := 148) (by decide) hc ?_
  refine g_bipush X dX10_count_148 (by decide) ?_
  exact hr _ _ _ _ _ dX10_count_150 h
theorem im_X10_count (l : Launch) (x : WX) (v1 : Int) (m : Mem) (post : Int → Mem → Prop) (h : wp_X10_count v1 m post) : MetI l x 67 1 yX10_count cX10_count 2 .int [(2, 0), (0, v1)] m post := met_I (by decide) (Nat.le_of_ble_eq_true rfl) (fun _ X hr => pf_X10_count X hr v1 m h)
def wp_X10_digest  (m : Mem) (post : Int → Mem → Prop) : Prop :=
  wp_X3_digestOnto 229 m (fun r7 m7 => wp_X0_digestOnto r7 m7 (fun r16 m16 => wp_X8_digestOnto r16 (m16 28 0) m16 (fun r32 m32 => wp_X9_digestOnto r32 m32 (fun r41 m41 => wp_X7_digestOnto r41 m41 (fun r50 m50 => wp_X5_digestOnto r50 (m50 1 0) m50 (fun r66 m66 => wp_X2_digestOnto r66 (m66 1 0) m66 (fun r82 m82 => wp_X4_digestOnto r82 m82 (fun r91 m91 => wp_X6_digestOnto r91 m91 (fun r100 m100 => post (w64 (w64 (31 * r100) + m100 63 0)) m100)))))))))
set_option maxRecDepth 100000 in
theorem pf_X10_digest {l : Launch} {x : WX} {G : GT} {post : Int → Mem → Prop} (X : Ax l x cX10_digest RX10 3 (rmd 3) 67 G) (hr : RJ cX10_digest post G)  (m : Mem) (h : wp_X10_digest  m post) : G 0 [(0, (2, 0))] [] m := by
  unfold wp_X10_digest at h
  refine g_aload_n 0 (i := 0) X dX10_digest_0 rfl rfl ?_
  refine g_getR X dX10_digest_1 fX10_10 ?_
  refine g_ldc2 X dX10_digest_4 (by unfold r64; omega) kX10_339 ?_
  refine g_cVJ (st := []) X dX10_digest_7 YX3_digestOnto lX10_341 (by decide) (im_X3_digestOnto l x _ _ _ h) rfl ⟨by decide, by decide⟩ rfl (Nat.le_of_ble_eq_true rfl) (fun r7 m7 h => ?_)
  refine g_lstore_n (i := 1) (lv' := [(1, (1, r7)), (0, (2, 0))]) X dX10_digest_10 rfl (by decide) rfl ?_
  refine g_aload_n 1 (i := 0) X dX10_digest_11 rfl rfl ?_
  refine g_getR X dX10_digest_12 fX10_26 ?_
  refine g_lload_n 0 (i := 1) X dX10_digest_15 rfl rfl ?_
  refine g_cVJ (st := []) X dX10_digest_16 YX0_digestOnto lX10_345 (by decide) (im_X0_digestOnto l x _ _ _ h) rfl ⟨by decide, by decide⟩ rfl (Nat.le_of_ble_eq_true rfl) (fun r16 m16 h => ?_)
  refine g_lstore_n (i := 1) (lv' := [(1, (1, r16)), (0, (2, 0))]) X dX10_digest_19 rfl (by decide) rfl ?_
  refine g_aload_n 1 (i := 0) X dX10_digest_20 rfl rfl ?_
  refine g_getR X dX10_digest_21 fX10_33 ?_
  refine g_lload_n 0 (i := 1) X dX10_digest_24 rfl rfl ?_
  refine g_aload_n 1 (i := 0) X dX10_digest_25 rfl rfl ?_
  refine g_getR X dX10_digest_26 fX10_40 ?_
  refine g_getI X dX10_digest_29 fX10_212 ?_
  refine g_cVJ (st := []) X dX10_digest_32 YX8_digestOnto lX10_346 (by decide) (im_X8_digestOnto l x _ _ _ _ h) rfl ⟨by decide, by decide⟩ rfl (Nat.le_of_ble_eq_true rfl) (fun r32 m32 h => ?_)
  refine g_lstore_n (i := 1) (lv' := [(1, (1, r32)), (0, (2, 0))]) X dX10_digest_35 rfl (by decide) rfl ?_
  refine g_aload_n 1 (i := 0) X dX10_digest_36 rfl rfl ?_
  refine g_getR X dX10_digest_37 fX10_40 ?_
  refine g_lload_n 0 (i := 1) X dX10_digest_40 rfl rfl ?_
  refine g_cVJ (st := []) X dX10_digest_41 YX9_digestOnto lX10_349 (by decide) (im_X9_digestOnto l x _ _ _ h) rfl ⟨by decide, by decide⟩ rfl (Nat.le_of_ble_eq_true rfl) (fun r41 m41 h => ?_)
  refine g_lstore_n (i := 1) (lv' := [(1, (1, r41)), (0, (2, 0))]) X dX10_digest_44 rfl (by decide) rfl ?_
  refine g_aload_n 1 (i := 0) X dX10_digest_45 rfl rfl ?_
  refine g_getR X dX10_digest_46 fX10_47 ?_
  refine g_lload_n 0 (i := 1) X dX10_digest_49 rfl rfl ?_
  refine g_cVJ (st := []) X dX10_digest_50 YX7_digestOnto lX10_350 (by decide) (im_X7_digestOnto l x _ _ _ h) rfl ⟨by decide, by decide⟩ rfl (Nat.le_of_ble_eq_true rfl) (fun r50 m50 h => ?_)
  refine g_lstore_n (i := 1) (lv' := [(1, (1, r50)), (0, (2, 0))]) X dX10_digest_53 rfl (by decide) rfl ?_
  refine g_aload_n 1 (i := 0) X dX10_digest_54 rfl rfl ?_
  refine g_getR X dX10_digest_55 fX10_54 ?_
  refine g_lload_n 0 (i := 1) X dX10_digest_58 rfl rfl ?_
  refine g_aload_n 1 (i := 0) X dX10_digest_59 rfl rfl ?_
  refine g_getR X dX10_digest_60 fX10_10 ?_
  refine g_getI X dX10_digest_63 fX10_129 ?_
  refine g_cVJ (st := []) X dX10_digest_66 YX5_digestOnto lX10_351 (by decide) (im_X5_digestOnto l x _ _ _ _ h) rfl ⟨by decide, by decide⟩ rfl (Nat.le_of_ble_eq_true rfl) (fun r66 m66 h => ?_)
  refine g_lstore_n (i := 1) (lv' := [(1, (1, r66)), (0, (2, 0))]) X dX10_digest_69 rfl (by decide) rfl ?_
  refine g_aload_n 1 (i := 0) X dX10_digest_70 rfl rfl ?_
  refine g_getR X dX10_digest_71 fX10_61 ?_
  refine g_lload_n 0 (i := 1) X dX10_digest_74 rfl rfl ?_
  refine g_aload_n 1 (i := 0) X dX10_digest_75 rfl rfl ?_
  refine g_getR X dX10_digest_76 fX10_10 ?_
  refine g_getI X dX10_digest_79 fX10_129 ?_
  refine g_cVJ (st := []) X dX10_digest_82 YX2_digestOnto lX10_352 (by decide) (im_X2_digestOnto l x _ _ _ _ h) rfl ⟨by decide, by decide⟩ rfl (Nat.le_of_ble_eq_true rfl) (fun r82 m82 h => ?_)
  refine g_lstore_n (i := 1) (lv' := [(1, (1, r82)), (0, (2, 0))]) X dX10_digest_85 rfl (by decide) rfl ?_
  refine g_aload_n 1 (i := 0) X dX10_digest_86 rfl rfl ?_
  refine g_getR X dX10_digest_87 fX10_68 ?_
  refine g_lload_n 0 (i := 1) X dX10_digest_90 rfl rfl ?_
  refine g_cVJ (st := []) X dX10_digest_91 YX4_digestOnto lX10_353 (by decide) (im_X4_digestOnto l x _ _ _ h) rfl ⟨by decide, by decide⟩ rfl (Nat.le_of_ble_eq_true rfl) (fun r91 m91 h => ?_)
  refine g_lstore_n (i := 1) (lv' := [(1, (1, r91)), (0, (2, 0))]) X dX10_digest_94 rfl (by decide) rfl ?_
  refine g_aload_n 1 (i := 0) X dX10_digest_95 rfl rfl ?_
  refine g_getR X dX10_digest_96 fX10_19 ?_
  refine g_lload_n 0 (i := 1) X dX10_digest_99 rfl rfl ?_
  refine g_cVJ (st := []) X dX10_digest_100 YX6_digestOnto lX10_354 (by decide) (im_X6_digestOnto l x _ _ _ h) rfl ⟨by decide, by decide⟩ rfl (Nat.le_of_ble_eq_true rfl) (fun r100 m100 h => ?_)
  refine g_lstore_n (i := 1) (lv' := [(1, (1, r100)), (0, (2, 0))]) X dX10_digest_103 rfl (by decide) rfl ?_
  refine g_ldc2 X dX10_digest_104 (by unfold r64; omega) kX10_355 ?_
  refine g_lload_n 0 (i := 1) X dX10_digest_107 rfl rfl ?_
  refine g_lmul X dX10_digest_108 ?_
  refine g_aload_n 1 (i := 0) X dX10_digest_109 rfl rfl ?_
  refine g_getR X dX10_digest_110 fX10_75 ?_
  refine g_getI X dX10_digest_113 fX10_96 ?_
  refine g_i2l X dX10_digest_116 ?_
  refine g_ladd X dX10_digest_117 ?_
  exact hr _ _ _ _ _ dX10_digest_118 h
theorem im_X10_digest (l : Launch) (x : WX)  (m : Mem) (post : Int → Mem → Prop) (h : wp_X10_digest  m post) : MetJ l x 67 3 yX10_digest cX10_digest 3 [(2, 0)] m post := met_J (by decide) (Nat.le_of_ble_eq_true rfl) (fun _ X hr => pf_X10_digest X hr  m h)
def wp_X11_in (v0 : Int) (v1 : Int) (v2 : Int) (m : Mem) (post : Int → Mem → Prop) : Prop :=
  ((v0 < v1 → (post 0 m)) ∧
  (¬ v0 < v1 → (((v2 < v0 → (post 0 m)) ∧
  (¬ v2 < v0 → (post 1 m))))))
set_option maxRecDepth 100000 in
theorem pf_X11_in {l : Launch} {x : WX} {G : GT} {post : Int → Mem → Prop} (X : Ax l x cX11_in RX11 3 (rmd 0) 106 G) (hr : RZ cX11_in post G) (v0 : Int) (v1 : Int) (v2 : Int) (m : Mem) (h : wp_X11_in v0 v1 v2 m post) : G 0 [(0, (0, v0)), (1, (0, v1)), (2, (0, v2))] [] m := by
  unfold wp_X11_in at h
  refine g_iload_n 0 (i := 0) X dX11_in_0 rfl rfl ?_
  refine g_iload_n 1 (i := 1) X dX11_in_1 rfl rfl ?_
  refine g_icmp_lt X dX11_in_2 (tgt := 14) (by decide) (fun hc => ?_) (fun hc => ?_)
  · have h := h.1 hc
    refine g_iconst X dX11_in_14 (by decide) ?_
    exact hr _ _ _ _ _ dX11_in_15 ⟨by decide, h⟩
  · have h := h.2 hc
    refine g_iload_n 0 (i := 0) X dX11_in_5 rfl rfl ?_
    refine g_iload_n 2 (i := 2) X dX11_in_6 rfl rfl ?_
    refine g_icmp_gt X dX11_in_7 (tgt := 14) (by decide) (fun hc => ?_) (fun hc => ?_)
    · have h := h.1 hc
      refine g_iconst X dX11_in_14 (by decide) ?_
      exact hr _ _ _ _ _ dX11_in_15 ⟨by decide, h⟩
    · have h := h.2 hc
      refine g_iconst X dX11_in_10 (by decide) ?_
      refine g_goto X dX11_in_11 (tgt := 15) (by decide) ?_
      exact hr _ _ _ _ _ dX11_in_15 ⟨by decide, h⟩
theorem im_X11_in (l : Launch) (x : WX) (v0 : Int) (v1 : Int) (v2 : Int) (m : Mem) (post : Int → Mem → Prop) (h : wp_X11_in v0 v1 v2 m post) : MetI l x 106 0 yX11_in cX11_in 3 .boolean [(0, v0), (0, v1), (0, v2)] m post := met_Z (by decide) (Nat.le_of_ble_eq_true rfl) (fun _ X hr => pf_X11_in X hr v0 v1 v2 m h)
def wp_X11_isYard (v1 : Int) (m : Mem) (post : Int → Mem → Prop) : Prop :=
  wp_X11_in v1 0 (w32 (m 67 0 - 1)) m (fun r8 m8 => (r8 = 0 ∨ r8 = 1) ∧ post r8 m8)
set_option maxRecDepth 100000 in
theorem pf_X11_isYard {l : Launch} {x : WX} {G : GT} {post : Int → Mem → Prop} (X : Ax l x cX11_isYard RX11 2 (rmd 1) 106 G) (hr : RZ cX11_isYard post G) (v1 : Int) (m : Mem) (h : wp_X11_isYard v1 m post) : G 0 [(0, (2, 67)), (1, (0, v1))] [] m := by
  unfold wp_X11_isYard at h
  refine g_iload_n 1 (i := 1) X dX11_isYard_0 rfl rfl ?_
  refine g_iconst X dX11_isYard_1 (by decide) ?_
  refine g_aload_n 0 (i := 0) X dX11_isYard_2 rfl rfl ?_
  refine g_getI X dX11_isYard_3 fX11_130 ?_
  refine g_iconst X dX11_isYard_6 (by decide) ?_
  refine g_isub X dX11_isYard_7 ?_
  refine g_cSI (st := []) X dX11_isYard_8 YX11_in lX11_134 (by decide) (im_X11_in l x _ _ _ _ _ h) rfl ⟨by decide, by decide⟩ rfl (Nat.le_of_ble_eq_true rfl) (fun r8 m8 h => ?_)
  exact hr _ _ _ _ _ dX11_isYard_11 h
theorem im_X11_isYard (l : Launch) (x : WX) (v1 : Int) (m : Mem) (post : Int → Mem → Prop) (h : wp_X11_isYard v1 m post) : MetI l x 106 1 yX11_isYard cX11_isYard 2 .boolean [(2, 67), (0, v1)] m post := met_Z (by decide) (Nat.le_of_ble_eq_true rfl) (fun _ X hr => pf_X11_isYard X hr v1 m h)
def wp_X11_begin_35 (v2 : Int) (s0 : Int) (s1 : Int) (m : Mem) (K7 : Int → Mem → Prop) (post : Mem → Prop) : Prop :=
  (0 ≤ s1 ∧ s1 < 64) ∧ (∀ m35 : Mem, m35 = mset m 68 s1 s0 → ((0 ≤ v2 ∧ v2 < 64) ∧ (∀ m42 : Mem, m42 = mset m35 81 v2 0 → (K7 (w32 (v2 + 1)) m42))))
set_option maxRecDepth 100000 in
theorem pf_X11_begin_35 {l : Launch} {x : WX} {G : GT} {post : Mem → Prop} {K7 : Int → Mem → Prop} (X : Ax l x cX11_begin RX11 3 (rmd 0) 106 G) (hr : RV cX11_begin post G) (hK7 : ∀ (v2 : Int) (m : Mem), K7 v2 m → G 7 [(0, (2, 67)), (2, (0, v2))] [] m) (v2 : Int) (s0 : Int) (s1 : Int) (m : Mem) (h : wp_X11_begin_35 v2 s0 s1 m K7 post) : G 35 [(0, (2, 67)), (2, (0, v2))] [(0, s0), (0, s1), (2, 68)] m := by
  unfold wp_X11_begin_35 at h
  obtain ⟨hi, h⟩ := h
  refine g_iast X dX11_begin_35 rfl hi (fun m35 em35 => ?_)
  have h := h m35 em35
  refine g_aload_n 0 (i := 0) X dX11_begin_36 rfl rfl ?_
  refine g_getR X dX11_begin_37 fX11_50 ?_
  refine g_iload_n 1 (i := 2) X dX11_begin_40 rfl rfl ?_
  refine g_iconst X dX11_begin_41 (by decide) ?_
  obtain ⟨hi, h⟩ := h
  refine g_iast X dX11_begin_42 rfl hi (fun m42 em42 => ?_)
  have h := h m42 em42
  refine g_iinc 1 (lv' := [(2, (0, w32 (v2 + 1))), (0, (2, 67))]) X dX11_begin_43 rfl (by decide) rfl ?_
  refine g_goto X dX11_begin_46 (tgt := 7) (by decide) ?_
  exact g_sub X [1, 0] rfl (hK7 _ _ h)
def wp_X11_begin_7 (K51 : Int → Mem → Prop) (post : Mem → Prop) : Nat → Int → Mem → Prop
  | 0, _, _ => False
  | n + 1, v2, m =>
  ((64 ≤ v2 → (K51 0 m)) ∧
  (¬ 64 ≤ v2 → (((¬ w32 (Int.tdiv v2 8) = Int.tmod v2 8 → (wp_X11_begin_35 v2 10 v2 m (fun v2_1 m_1 => wp_X11_begin_7 K51 post n v2_1 m_1) post)) ∧
  (w32 (Int.tdiv v2 8) = Int.tmod v2 8 → (wp_X11_begin_35 v2 0 v2 m (fun v2_2 m_2 => wp_X11_begin_7 K51 post n v2_2 m_2) post))))))
set_option maxRecDepth 100000 in
theorem pf_X11_begin_7 {l : Launch} {x : WX} {G : GT} {post : Mem → Prop} {K51 : Int → Mem → Prop} (X : Ax l x cX11_begin RX11 3 (rmd 0) 106 G) (hr : RV cX11_begin post G) (hK51 : ∀ (v2 : Int) (m : Mem), K51 v2 m → G 51 [(0, (2, 67)), (2, (0, v2))] [] m) : ∀ (n : Nat) (v2 : Int) (m : Mem) (_ : wp_X11_begin_7 K51 post n v2 m), G 7 [(0, (2, 67)), (2, (0, v2))] [] m := by
  intro n
  induction n with
  | zero => intro v2 m h; exact absurd h id
  | succ n ih =>
  intro v2 m h
  unfold wp_X11_begin_7 at h
  refine g_iload_n 1 (i := 2) X dX11_begin_7 rfl rfl ?_
  refine g_bipush X dX11_begin_8 (by decide) ?_
  refine g_icmp_ge X dX11_begin_10 (tgt := 49) (by decide) (fun hc => ?_) (fun hc => ?_)
  · have h := h.1 hc
    refine g_iconst X dX11_begin_49 (by decide) ?_
    refine g_istore_n (i := 2) (lv' := [(2, (0, 0)), (0, (2, 67))]) X dX11_begin_50 rfl (by decide) rfl ?_
    exact g_sub X [1, 0] rfl (hK51 _ _ h)
  · have h := h.2 hc
    refine g_aload_n 0 (i := 0) X dX11_begin_13 rfl rfl ?_
    refine g_getR X dX11_begin_14 fX11_7 ?_
    refine g_iload_n 1 (i := 2) X dX11_begin_17 rfl rfl ?_
    refine g_iload_n 1 (i := 2) X dX11_begin_18 rfl rfl ?_
    refine g_bipush X dX11_begin_19 (by decide) ?_
    refine g_idiv X dX11_begin_21 (by decide) ?_
    refine g_iload_n 1 (i := 2) X dX11_begin_22 rfl rfl ?_
    refine g_bipush X dX11_begin_23 (by decide) ?_
    refine g_irem X dX11_begin_25 (by decide) ?_
    refine g_icmp_ne X dX11_begin_26 (tgt := 33) (by decide) (fun hc => ?_) (fun hc => ?_)
    · have h := h.1 hc
      refine g_bipush X dX11_begin_33 (by decide) ?_
      refine g_sub X [0, 1] rfl (pf_X11_begin_35 X hr (fun v2_1 m_1 h => ?_) _ _ _ _ h)
      · exact g_sub X [0, 1] rfl (ih _ _ h)
    · have h := h.2 hc
      refine g_iconst X dX11_begin_29 (by decide) ?_
      refine g_goto X dX11_begin_30 (tgt := 35) (by decide) ?_
      refine g_sub X [0, 1] rfl (pf_X11_begin_35 X hr (fun v2_2 m_2 h => ?_) _ _ _ _ h)
      · exact g_sub X [0, 1] rfl (ih _ _ h)
def wp_X11_begin_51 (K86 : Int → Mem → Prop) (post : Mem → Prop) : Nat → Int → Mem → Prop
  | 0, _, _ => False
  | n + 1, v2, m =>
  ((8 ≤ v2 → (K86 0 m)) ∧
  (¬ 8 ≤ v2 → ((0 ≤ v2 ∧ v2 < 8) ∧ (∀ m63 : Mem, m63 = mset m 78 v2 (-1) → ((0 ≤ v2 ∧ v2 < 8) ∧ (∀ m70 : Mem, m70 = mset m63 79 v2 (-1) → ((0 ≤ v2 ∧ v2 < 8) ∧ (∀ m77 : Mem, m77 = mset m70 82 v2 2 → (wp_X11_begin_51 K86 post n (w32 (v2 + 1)) m77)))))))))
set_option maxRecDepth 100000 in
theorem pf_X11_begin_51 {l : Launch} {x : WX} {G : GT} {post : Mem → Prop} {K86 : Int → Mem → Prop} (X : Ax l x cX11_begin RX11 3 (rmd 0) 106 G) (hr : RV cX11_begin post G) (hK86 : ∀ (v2 : Int) (m : Mem), K86 v2 m → G 86 [(0, (2, 67)), (2, (0, v2))] [] m) : ∀ (n : Nat) (v2 : Int) (m : Mem) (_ : wp_X11_begin_51 K86 post n v2 m), G 51 [(0, (2, 67)), (2, (0, v2))] [] m := by
  intro n
  induction n with
  | zero => intro v2 m h; exact absurd h id
  | succ n ih =>
  intro v2 m h
  unfold wp_X11_begin_51 at h
  refine g_iload_n 1 (i := 2) X dX11_begin_51 rfl rfl ?_
  refine g_bipush X dX11_begin_52 (by decide) ?_
  refine g_icmp_ge X dX11_begin_54 (tgt := 84) (by decide) (fun hc => ?_) (fun hc => ?_)
  · have h := h.1 hc
    refine g_iconst X dX11_begin_84 (by decide) ?_
    refine g_istore_n (i := 2) (lv' := [(2, (0, 0)), (0, (2, 67))]) X dX11_begin_85 rfl (by decide) rfl ?_
    exact g_sub X [1, 0] rfl (hK86 _ _ h)
  · have h := h.2 hc
    refine g_aload_n 0 (i := 0) X dX11_begin_57 rfl rfl ?_
    refine g_getR X dX11_begin_58 fX11_41 ?_
    refine g_iload_n 1 (i := 2) X dX11_begin_61 rfl rfl ?_
    refine g_iconst X dX11_begin_62 (by decide) ?_
    obtain ⟨hi, h⟩ := h
    refine g_iast X dX11_begin_63 rfl hi (fun m63 em63 => ?_)
    have h := h m63 em63
    refine g_aload_n 0 (i := 0) X dX11_begin_64 rfl rfl ?_
    refine g_getR X dX11_begin_65 fX11_44 ?_
    refine g_iload_n 1 (i := 2) X dX11_begin_68 rfl rfl ?_
    refine g_iconst X dX11_begin_69 (by decide) ?_
    obtain ⟨hi, h⟩ := h
    refine g_iast X dX11_begin_70 rfl hi (fun m70 em70 => ?_)
    have h := h m70 em70
    refine g_aload_n 0 (i := 0) X dX11_begin_71 rfl rfl ?_
    refine g_getR X dX11_begin_72 fX11_53 ?_
    refine g_iload_n 1 (i := 2) X dX11_begin_75 rfl rfl ?_
    refine g_iconst X dX11_begin_76 (by decide) ?_
    obtain ⟨hi, h⟩ := h
    refine g_iast X dX11_begin_77 rfl hi (fun m77 em77 => ?_)
    have h := h m77 em77
    refine g_iinc 1 (lv' := [(2, (0, w32 (v2 + 1))), (0, (2, 67))]) X dX11_begin_78 rfl (by decide) rfl ?_
    refine g_goto X dX11_begin_81 (tgt := 51) (by decide) ?_
    exact g_sub X [1, 0] rfl (ih _ _ h)
def wp_X11_begin_86 (K105 : Mem → Prop) (post : Mem → Prop) : Nat → Int → Mem → Prop
  | 0, _, _ => False
  | n + 1, v2, m =>
  ((24 ≤ v2 → (K105 m)) ∧
  (¬ 24 ≤ v2 → ((0 ≤ v2 ∧ v2 < 24) ∧ (∀ m98 : Mem, m98 = mset m 83 v2 0 → (wp_X11_begin_86 K105 post n (w32 (v2 + 1)) m98)))))
set_option maxRecDepth 100000 in
theorem pf_X11_begin_86 {l : Launch} {x : WX} {G : GT} {post : Mem → Prop} {K105 : Mem → Prop} (X : Ax l x cX11_begin RX11 3 (rmd 0) 106 G) (hr : RV cX11_begin post G) (hK105 : ∀ (m : Mem), K105  m → G 105 [(0, (2, 67))] [] m) : ∀ (n : Nat) (v2 : Int) (m : Mem) (_ : wp_X11_begin_86 K105 post n v2 m), G 86 [(0, (2, 67)), (2, (0, v2))] [] m := by
  intro n
  induction n with
  | zero => intro v2 m h; exact absurd h id
  | succ n ih =>
  intro v2 m h
  unfold wp_X11_begin_86 at h
  refine g_iload_n 1 (i := 2) X dX11_begin_86 rfl rfl ?_
  refine g_bipush X dX11_begin_87 (by decide) ?_
  refine g_icmp_ge X dX11_begin_89 (tgt := 105) (by decide) (fun hc => ?_) (fun hc => ?_)
  · have h := h.1 hc
    exact g_sub X [0] rfl (hK105  _ h)
  · have h := h.2 hc
    refine g_aload_n 0 (i := 0) X dX11_begin_92 rfl rfl ?_
    refine g_getR X dX11_begin_93 fX11_56 ?_
    refine g_iload_n 1 (i := 2) X dX11_begin_96 rfl rfl ?_
    refine g_iconst X dX11_begin_97 (by decide) ?_
    obtain ⟨hi, h⟩ := h
    refine g_iast X dX11_begin_98 rfl hi (fun m98 em98 => ?_)
    have h := h m98 em98
    refine g_iinc 1 (lv' := [(2, (0, w32 (v2 + 1))), (0, (2, 67))]) X dX11_begin_99 rfl (by decide) rfl ?_
    refine g_goto X dX11_begin_102 (tgt := 86) (by decide) ?_
    exact g_sub X [1, 0] rfl (ih _ _ h)
def wp_X11_begin (v1 : Int) (m : Mem) (post : Mem → Prop) : Prop :=
  ∀ m2 : Mem, m2 = mset m 67 0 v1 → (∃ n_8 : Nat, wp_X11_begin_7 (fun v2_3 m_3 => ∃ n_7 : Nat, wp_X11_begin_51 (fun v2_4 m_4 => ∃ n_6 : Nat, wp_X11_begin_86 (fun m_5 => ∀ m107 : Mem, m107 = mset m_5 67 2 0 → (∀ m112 : Mem, m112 = mset m107 67 4 0 → (∀ m117 : Mem, m117 = mset m112 67 9 0 → (∀ m122 : Mem, m122 = mset m117 67 13 0 → (∀ m127 : Mem, m127 = mset m122 67 15 2 → (∀ m132 : Mem, m132 = mset m127 67 18 0 → (∀ m138 : Mem, m138 = mset m132 67 19 8 → (∀ m143 : Mem, m143 = mset m138 67 20 0 → (∀ m149 : Mem, m149 = mset m143 67 24 20 → (∀ m154 : Mem, m154 = mset m149 67 25 5 → (∀ m159 : Mem, m159 = mset m154 67 27 0 → (∀ m164 : Mem, m164 = mset m159 67 30 0 → (post m164))))))))))))) post n_6 v2_4 m_4) post n_7 v2_3 m_3) post n_8 0 m2)
set_option maxRecDepth 100000 in
theorem pf_X11_begin {l : Launch} {x : WX} {G : GT} {post : Mem → Prop} (X : Ax l x cX11_begin RX11 3 (rmd 0) 106 G) (hr : RV cX11_begin post G) (v1 : Int) (m : Mem) (h : wp_X11_begin v1 m post) : G 0 [(0, (2, 67)), (1, (0, v1))] [] m := by
  unfold wp_X11_begin at h
  refine g_aload_n 0 (i := 0) X dX11_begin_0 rfl rfl ?_
  refine g_iload_n 1 (i := 1) X dX11_begin_1 rfl rfl ?_
  refine g_putI X dX11_begin_2 pX11_130 (fun m2 em2 => ?_)
  have h := h m2 em2
  refine g_iconst X dX11_begin_5 (by decide) ?_
  refine g_istore_n (i := 2) (lv' := [(2, (0, 0)), (0, (2, 67)), (1, (0, v1))]) X dX11_begin_6 rfl (by decide) rfl ?_
  obtain ⟨n_8, h⟩ := h
  refine g_sub X [1, 0] rfl (pf_X11_begin_7 X hr (fun v2_3 m_3 h => ?_) n_8 _ _ h)
  · obtain ⟨n_7, h⟩ := h
    refine g_sub X [0, 1] rfl (pf_X11_begin_51 X hr (fun v2_4 m_4 h => ?_) n_7 _ _ h)
    · obtain ⟨n_6, h⟩ := h
      refine g_sub X [0, 1] rfl (pf_X11_begin_86 X hr (fun m_5 h => ?_) n_6 _ _ h)
      · refine g_aload_n 0 (i := 0) X dX11_begin_105 rfl rfl ?_
        refine g_iconst X dX11_begin_106 (by decide) ?_
        refine g_putI X dX11_begin_107 pX11_138 (fun m107 em107 => ?_)
        have h := h m107 em107
        refine g_aload_n 0 (i := 0) X dX11_begin_110 rfl rfl ?_
        refine g_iconst X dX11_begin_111 (by decide) ?_
        refine g_putI X dX11_begin_112 pX11_141 (fun m112 em112 => ?_)
        have h := h m112 em112
        refine g_aload_n 0 (i := 0) X dX11_begin_115 rfl rfl ?_
        refine g_iconst X dX11_begin_116 (by decide) ?_
        refine g_putI X dX11_begin_117 pX11_144 (fun m117 em117 => ?_)
        have h := h m117 em117
        refine g_aload_n 0 (i := 0) X dX11_begin_120 rfl rfl ?_
        refine g_iconst X dX11_begin_121 (by decide) ?_
        refine g_putI X dX11_begin_122 pX11_147 (fun m122 em122 => ?_)
        have h := h m122 em122
        refine g_aload_n 0 (i := 0) X dX11_begin_125 rfl rfl ?_
        refine g_iconst X dX11_begin_126 (by decide) ?_
        refine g_putI X dX11_begin_127 pX11_150 (fun m127 em127 => ?_)
        have h := h m127 em127
        refine g_aload_n 0 (i := 0) X dX11_begin_130 rfl rfl ?_
        refine g_iconst X dX11_begin_131 (by decide) ?_
        refine g_putI X dX11_begin_132 pX11_153 (fun m132 em132 => ?_)
        have h := h m132 em132
        refine g_aload_n 0 (i := 0) X dX11_begin_135 rfl rfl ?_
        refine g_bipush X dX11_begin_136 (by decide) ?_
        refine g_putI X dX11_begin_138 pX11_156 (fun m138 em138 => ?_)
        have h := h m138 em138
        refine g_aload_n 0 (i := 0) X dX11_begin_141 rfl rfl ?_
        refine g_iconst X dX11_begin_142 (by decide) ?_
        refine g_putI X dX11_begin_143 pX11_159 (fun m143 em143 => ?_)
        have h := h m143 em143
        refine g_aload_n 0 (i := 0) X dX11_begin_146 rfl rfl ?_
        refine g_bipush X dX11_begin_147 (by decide) ?_
        refine g_putI X dX11_begin_149 pX11_162 (fun m149 em149 => ?_)
        have h := h m149 em149
        refine g_aload_n 0 (i := 0) X dX11_begin_152 rfl rfl ?_
        refine g_iconst X dX11_begin_153 (by decide) ?_
        refine g_putI X dX11_begin_154 pX11_165 (fun m154 em154 => ?_)
        have h := h m154 em154
        refine g_aload_n 0 (i := 0) X dX11_begin_157 rfl rfl ?_
        refine g_iconst X dX11_begin_158 (by decide) ?_
        refine g_putI X dX11_begin_159 pX11_168 (fun m159 em159 => ?_)
        have h := h m159 em159
        refine g_aload_n 0 (i := 0) X dX11_begin_162 rfl rfl ?_
        refine g_iconst X dX11_begin_163 (by decide) ?_
        refine g_putI X dX11_begin_164 pX11_171 (fun m164 em164 => ?_)
        have h := h m164 em164
        exact hr _ _ _ _ dX11_begin_167 h
theorem im_X11_begin (l : Launch) (x : WX) (v1 : Int) (m : Mem) (post : Mem → Prop) (h : wp_X11_begin v1 m post) : MetV l x 106 0 yX11_begin cX11_begin 3 [(2, 67), (0, v1)] m post := met_V (by decide) (Nat.le_of_ble_eq_true rfl) (fun _ X hr => pf_X11_begin X hr v1 m h)
