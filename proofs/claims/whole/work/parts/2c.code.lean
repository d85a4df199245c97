/-! methods: what they mean, and that their bytecode means it (printed by a program of mine) -/
def wp_X4_reduce_9 (K44 : Int → Int → Int → Mem → Prop) (post : Mem → Prop) : Nat → Int → Int → Int → Int → Int → Mem → Prop
  | 0, _, _, _, _, _, _ => False
  | n + 1, v1, v3, v5, v7, v9, m =>
  ((100 ≤ v9 → (K44 v1 v3 v5 m)) ∧
  (¬ 100 ≤ v9 → (((lcmp v7 0 = 0 → (K44 v1 v3 v5 m)) ∧
  (¬ lcmp v7 0 = 0 → (¬ v7 = 0 ∧ (∀ v10_28 : Int, v10_28 = Int.tmod v5 v7 → (wp_X4_reduce_9 K44 post n v1 v3 v7 v10_28 (w32 (v9 + 1)) m))))))))
set_option maxRecDepth 100000 in
theorem pf_X4_reduce_9 {l : Launch} {x : WX} {G : GT} {post : Mem → Prop} {K44 : Int → Int → Int → Mem → Prop} (X : Ax l x cX4_reduce RX4 12 (rmd 0) 67 G) (hr : RV cX4_reduce post G) (hK44 : ∀ (v1 : Int) (v3 : Int) (v5 : Int) (m : Mem), K44 v1 v3 v5 m → G 44 [(0, (2, 59)), (1, (1, v1)), (3, (1, v3)), (5, (1, v5))] [] m) : ∀ (n : Nat) (v1 : Int) (v3 : Int) (v5 : Int) (v7 : Int) (v9 : Int) (m : Mem) (_ : wp_X4_reduce_9 K44 post n v1 v3 v5 v7 v9 m), G 9 [(0, (2, 59)), (1, (1, v1)), (3, (1, v3)), (5, (1, v5)), (7, (1, v7)), (9, (0, v9))] [] m := by
  intro n
  induction n with
  | zero => intro v1 v3 v5 v7 v9 m h; exact absurd h id
  | succ n ih =>
  intro v1 v3 v5 v7 v9 m h
  unfold wp_X4_reduce_9 at h
  refine g_iload 5 (i := 9) X dX4_reduce_9 rfl ?_
  refine g_bipush X dX4_reduce_11 (by decide) ?_
  refine g_icmp_ge X dX4_reduce_13 (tgt := 44) (by decide) (fun hc => ?_) (fun hc => ?_)
  · have h := h.1 hc
    exact g_sub X [0, 1, 2, 3] rfl (hK44 _ _ _ _ h)
  · have h := h.2 hc
    refine g_lload 4 (i := 7) X dX4_reduce_16 rfl ?_
    refine g_lconst0 X dX4_reduce_18 ?_
    refine g_lcmp X dX4_reduce_19 ?_
    refine g_if_eq X dX4_reduce_20 (tgt := 44) (by decide) (fun hc => ?_) (fun hc => ?_)
    · have h := h.1 hc
      exact g_sub X [0, 1, 2, 3] rfl (hK44 _ _ _ _ h)
    · have h := h.2 hc
      refine g_lload 3 (i := 5) X dX4_reduce_23 rfl ?_
      refine g_lload 4 (i := 7) X dX4_reduce_25 rfl ?_
      obtain ⟨hz, h⟩ := h
      refine g_lrem X dX4_reduce_27 hz ?_
      refine g_nmI (fun v10_28 ev10_28 => ?_)
      have h := h v10_28 ev10_28
      refine g_lstore (i := 10) (lv' := [(10, (1, v10_28)), (0, (2, 59)), (1, (1, v1)), (3, (1, v3)), (5, (1, v5)), (7, (1, v7)), (9, (0, v9))]) X dX4_reduce_28 (by decide) rfl ?_
      refine g_lload 5 (i := 7) X dX4_reduce_30 rfl ?_
      refine g_lstore (i := 5) (lv' := [(5, (1, v7)), (10, (1, v10_28)), (0, (2, 59)), (1, (1, v1)), (3, (1, v3)), (7, (1, v7)), (9, (0, v9))]) X dX4_reduce_32 (by decide) rfl ?_
      refine g_lload 1 (i := 10) X dX4_reduce_34 rfl ?_
      refine g_lstore (i := 7) (lv' := [(7, (1, v10_28)), (5, (1, v7)), (10, (1, v10_28)), (0, (2, 59)), (1, (1, v1)), (3, (1, v3)), (9, (0, v9))]) X dX4_reduce_36 (by decide) rfl ?_
      refine g_iinc 6 (lv' := [(9, (0, w32 (v9 + 1))), (7, (1, v10_28)), (5, (1, v7)), (10, (1, v10_28)), (0, (2, 59)), (1, (1, v1)), (3, (1, v3))]) X dX4_reduce_38 rfl (by decide) rfl ?_
      refine g_goto X dX4_reduce_41 (tgt := 9) (by decide) ?_
      exact g_sub X [4, 5, 6, 2, 1, 0] rfl (ih _ _ _ _ _ _ h)
def wp_X4_reduce_60 (v3 : Int) (v5 : Int) (s0 : Int) (m : Mem)  (post : Mem → Prop) : Prop :=
  ∀ m60 : Mem, m60 = mset m 59 1 s0 → (((lcmp v5 0 ≤ 0 → (∀ m79 : Mem, m79 = mset m60 59 2 v3 → (post m79))) ∧
  (¬ lcmp v5 0 ≤ 0 → (¬ v5 = 0 ∧ (∀ m79 : Mem, m79 = mset m60 59 2 (w64 (Int.tdiv v3 v5)) → (post m79))))))
set_option maxRecDepth 100000 in
theorem pf_X4_reduce_60 {l : Launch} {x : WX} {G : GT} {post : Mem → Prop}  (X : Ax l x cX4_reduce RX4 12 (rmd 0) 67 G) (hr : RV cX4_reduce post G) (v3 : Int) (v5 : Int) (s0 : Int) (m : Mem) (h : wp_X4_reduce_60 v3 v5 s0 m  post) : G 60 [(0, (2, 59)), (3, (1, v3)), (5, (1, v5))] [(1, s0), (2, 59)] m := by
  unfold wp_X4_reduce_60 at h
  refine g_putJ X dX4_reduce_60 pX4_30 (fun m60 em60 => ?_)
  have h := h m60 em60
  refine g_aload_n 0 (i := 0) X dX4_reduce_63 rfl rfl ?_
  refine g_lload 2 (i := 5) X dX4_reduce_64 rfl ?_
  refine g_lconst0 X dX4_reduce_66 ?_
  refine g_lcmp X dX4_reduce_67 ?_
  refine g_if_le X dX4_reduce_68 (tgt := 78) (by decide) (fun hc => ?_) (fun hc => ?_)
  · have h := h.1 hc
    refine g_lload_n 1 (i := 3) X dX4_reduce_78 rfl rfl ?_
    refine g_putJ X dX4_reduce_79 pX4_34 (fun m79 em79 => ?_)
    have h := h m79 em79
    exact hr _ _ _ _ dX4_reduce_82 h
  · have h := h.2 hc
    refine g_lload_n 1 (i := 3) X dX4_reduce_71 rfl rfl ?_
    refine g_lload 2 (i := 5) X dX4_reduce_72 rfl ?_
    obtain ⟨hz, h⟩ := h
    refine g_ldiv X dX4_reduce_74 hz ?_
    refine g_goto X dX4_reduce_75 (tgt := 79) (by decide) ?_
    refine g_putJ X dX4_reduce_79 pX4_34 (fun m79 em79 => ?_)
    have h := h m79 em79
    exact hr _ _ _ _ dX4_reduce_82 h
def wp_X4_reduce_44 (v1 : Int) (v3 : Int) (v5 : Int) (m : Mem)  (post : Mem → Prop) : Prop :=
  ((lcmp v5 0 ≤ 0 → (wp_X4_reduce_60 v3 v5 v1 m  post)) ∧
  (¬ lcmp v5 0 ≤ 0 → (¬ v5 = 0 ∧ (wp_X4_reduce_60 v3 v5 (w64 (Int.tdiv v1 v5)) m  post))))
set_option maxRecDepth 100000 in
theorem pf_X4_reduce_44 {l : Launch} {x : WX} {G : GT} {post : Mem → Prop}  (X : Ax l x cX4_reduce RX4 12 (rmd 0) 67 G) (hr : RV cX4_reduce post G) (v1 : Int) (v3 : Int) (v5 : Int) (m : Mem) (h : wp_X4_reduce_44 v1 v3 v5 m  post) : G 44 [(0, (2, 59)), (1, (1, v1)), (3, (1, v3)), (5, (1, v5))] [] m := by
  unfold wp_X4_reduce_44 at h
  refine g_aload_n 0 (i := 0) X dX4_reduce_44 rfl rfl ?_
  refine g_lload 3 (i := 5) X dX4_reduce_45 rfl ?_
  refine g_lconst0 X dX4_reduce_47 ?_
  refine g_lcmp X dX4_reduce_48 ?_
  refine g_if_le X dX4_reduce_49 (tgt := 59) (by decide) (fun hc => ?_) (fun hc => ?_)
  · have h := h.1 hc
    refine g_lload_n 1 (i := 1) X dX4_reduce_59 rfl rfl ?_
    refine g_sub X [0, 2, 3] rfl (pf_X4_reduce_60 X hr  _ _ _ _ h)
  · have h := h.2 hc
    refine g_lload_n 1 (i := 1) X dX4_reduce_52 rfl rfl ?_
    refine g_lload 3 (i := 5) X dX4_reduce_53 rfl ?_
    obtain ⟨hz, h⟩ := h
    refine g_ldiv X dX4_reduce_55 hz ?_
    refine g_goto X dX4_reduce_56 (tgt := 60) (by decide) ?_
    refine g_sub X [0, 2, 3] rfl (pf_X4_reduce_60 X hr  _ _ _ _ h)
def wp_X4_reduce (v1 : Int) (v3 : Int) (m : Mem) (post : Mem → Prop) : Prop :=
  ∃ n_3 : Nat, wp_X4_reduce_9 (fun v1_2 v3_2 v5_2 m_2 => wp_X4_reduce_44 v1_2 v3_2 v5_2 m_2  post) post n_3 v1 v3 v3 v1 0 m
set_option maxRecDepth 100000 in
theorem pf_X4_reduce {l : Launch} {x : WX} {G : GT} {post : Mem → Prop} (X : Ax l x cX4_reduce RX4 12 (rmd 0) 67 G) (hr : RV cX4_reduce post G) (v1 : Int) (v3 : Int) (m : Mem) (h : wp_X4_reduce v1 v3 m post) : G 0 [(0, (2, 59)), (1, (1, v1)), (3, (1, v3))] [] m := by
  unfold wp_X4_reduce at h
  refine g_lload_n 2 (i := 3) X dX4_reduce_0 rfl rfl ?_
  refine g_lstore (i := 5) (lv' := [(5, (1, v3)), (0, (2, 59)), (1, (1, v1)), (3, (1, v3))]) X dX4_reduce_1 (by decide) rfl ?_
  refine g_lload_n 2 (i := 1) X dX4_reduce_3 rfl rfl ?_
  refine g_lstore (i := 7) (lv' := [(7, (1, v1)), (5, (1, v3)), (0, (2, 59)), (1, (1, v1)), (3, (1, v3))]) X dX4_reduce_4 (by decide) rfl ?_
  refine g_iconst X dX4_reduce_6 (by decide) ?_
  refine g_istore (i := 9) (lv' := [(9, (0, 0)), (7, (1, v1)), (5, (1, v3)), (0, (2, 59)), (1, (1, v1)), (3, (1, v3))]) X dX4_reduce_7 (by decide) rfl ?_
  obtain ⟨n_3, h⟩ := h
  refine g_sub X [3, 4, 5, 2, 1, 0] rfl (pf_X4_reduce_9 X hr (fun v1_2 v3_2 v5_2 m_2 h => ?_) n_3 _ _ _ _ _ _ h)
  · refine g_sub X [0, 1, 2, 3] rfl (pf_X4_reduce_44 X hr  _ _ _ _ h)
theorem im_X4_reduce (l : Launch) (x : WX) (v1 : Int) (v3 : Int) (m : Mem) (post : Mem → Prop) (h : wp_X4_reduce v1 v3 m post) : MetV l x 67 0 yX4_reduce cX4_reduce 12 [(2, 59), (1, v1), (1, v3)] m post := met_V (by decide) (Nat.le_of_ble_eq_true rfl) (fun _ X hr => pf_X4_reduce X hr v1 v3 m h)
def wp_X4_shareOf_12 (K58 : Int → Int → Int → Mem → Prop) (post : Mem → Prop) : Nat → Int → Int → Int → Int → Mem → Prop
  | 0, _, _, _, _, _ => False
  | n + 1, v1, v2, v4, v6, m =>
  ((v1 < v6 → (K58 v2 v4 0 m)) ∧
  (¬ v1 < v6 → ((0 ≤ v6 ∧ v6 < 6) ∧ (∀ v2_31 : Int, v2_31 = w64 (w64 (10 * v2) + m 62 v6) → (((v6 ≤ 0 → (∀ v4_47 : Int, v4_47 = w64 (v4 * 1) → (wp_X4_shareOf_12 K58 post n v1 v2_31 v4_47 (w32 (v6 + 1)) m))) ∧
  (¬ v6 ≤ 0 → (∀ v4_47 : Int, v4_47 = w64 (v4 * 10) → (wp_X4_shareOf_12 K58 post n v1 v2_31 v4_47 (w32 (v6 + 1)) m)))))))))
set_option maxRecDepth 100000 in
theorem pf_X4_shareOf_12 {l : Launch} {x : WX} {G : GT} {post : Mem → Prop} {K58 : Int → Int → Int → Mem → Prop} (X : Ax l x cX4_shareOf RX4 7 (rmd 2) 67 G) (hr : RV cX4_shareOf post G) (hK58 : ∀ (v2 : Int) (v4 : Int) (v6 : Int) (m : Mem), K58 v2 v4 v6 m → G 58 [(0, (2, 59)), (2, (1, v2)), (4, (1, v4)), (6, (0, v6))] [] m) : ∀ (n : Nat) (v1 : Int) (v2 : Int) (v4 : Int) (v6 : Int) (m : Mem) (_ : wp_X4_shareOf_12 K58 post n v1 v2 v4 v6 m), G 12 [(0, (2, 59)), (1, (0, v1)), (2, (1, v2)), (4, (1, v4)), (6, (0, v6))] [] m := by
  intro n
  induction n with
  | zero => intro v1 v2 v4 v6 m h; exact absurd h id
  | succ n ih =>
  intro v1 v2 v4 v6 m h
  unfold wp_X4_shareOf_12 at h
  refine g_iload 4 (i := 6) X dX4_shareOf_12 rfl ?_
  refine g_iload_n 1 (i := 1) X dX4_shareOf_14 rfl rfl ?_
  refine g_icmp_gt X dX4_shareOf_15 (tgt := 55) (by decide) (fun hc => ?_) (fun hc => ?_)
  · have h := h.1 hc
    refine g_iconst X dX4_shareOf_55 (by decide) ?_
    refine g_istore (i := 6) (lv' := [(6, (0, 0)), (0, (2, 59)), (1, (0, v1)), (2, (1, v2)), (4, (1, v4))]) X dX4_shareOf_56 (by decide) rfl ?_
    exact g_sub X [1, 3, 4, 0] rfl (hK58 _ _ _ _ h)
  · have h := h.2 hc
    refine g_ldc2 X dX4_shareOf_18 (by unfold r64; omega) kX4_52 ?_
    refine g_lload_n 2 (i := 2) X dX4_shareOf_21 rfl rfl ?_
    refine g_lmul X dX4_shareOf_22 ?_
    refine g_aload_n 0 (i := 0) X dX4_shareOf_23 rfl rfl ?_
    refine g_getR X dX4_shareOf_24 fX4_18 ?_
    refine g_iload 4 (i := 6) X dX4_shareOf_27 rfl ?_
    obtain ⟨hi, h⟩ := h
    refine g_lald X dX4_shareOf_29 rfl hi ?_
    refine g_ladd X dX4_shareOf_30 ?_
    refine g_nmI (fun v2_31 ev2_31 => ?_)
    have h := h v2_31 ev2_31
    refine g_lstore_n (i := 2) (lv' := [(2, (1, v2_31)), (0, (2, 59)), (1, (0, v1)), (4, (1, v4)), (6, (0, v6))]) X dX4_shareOf_31 rfl (by decide) rfl ?_
    refine g_lload 3 (i := 4) X dX4_shareOf_32 rfl ?_
    refine g_iload 4 (i := 6) X dX4_shareOf_34 rfl ?_
    refine g_if_le X dX4_shareOf_36 (tgt := 45) (by decide) (fun hc => ?_) (fun hc => ?_)
    · have h := h.1 hc
      refine g_lconst1 X dX4_shareOf_45 ?_
      refine g_lmul X dX4_shareOf_46 ?_
      refine g_nmI (fun v4_47 ev4_47 => ?_)
      have h := h v4_47 ev4_47
      refine g_lstore (i := 4) (lv' := [(4, (1, v4_47)), (2, (1, v2_31)), (0, (2, 59)), (1, (0, v1)), (6, (0, v6))]) X dX4_shareOf_47 (by decide) rfl ?_
      refine g_iinc 4 (lv' := [(6, (0, w32 (v6 + 1))), (4, (1, v4_47)), (2, (1, v2_31)), (0, (2, 59)), (1, (0, v1))]) X dX4_shareOf_49 rfl (by decide) rfl ?_
      refine g_goto X dX4_shareOf_52 (tgt := 12) (by decide) ?_
      exact g_sub X [3, 4, 2, 1, 0] rfl (ih _ _ _ _ _ h)
    · have h := h.2 hc
      refine g_ldc2 X dX4_shareOf_39 (by unfold r64; omega) kX4_52 ?_
      refine g_goto X dX4_shareOf_42 (tgt := 46) (by decide) ?_
      refine g_lmul X dX4_shareOf_46 ?_
      refine g_nmI (fun v4_47 ev4_47 => ?_)
      have h := h v4_47 ev4_47
      refine g_lstore (i := 4) (lv' := [(4, (1, v4_47)), (2, (1, v2_31)), (0, (2, 59)), (1, (0, v1)), (6, (0, v6))]) X dX4_shareOf_47 (by decide) rfl ?_
      refine g_iinc 4 (lv' := [(6, (0, w32 (v6 + 1))), (4, (1, v4_47)), (2, (1, v2_31)), (0, (2, 59)), (1, (0, v1))]) X dX4_shareOf_49 rfl (by decide) rfl ?_
      refine g_goto X dX4_shareOf_52 (tgt := 12) (by decide) ?_
      exact g_sub X [3, 4, 2, 1, 0] rfl (ih _ _ _ _ _ h)
def wp_X4_shareOf_58  (post : Mem → Prop) : Nat → Int → Int → Int → Mem → Prop
  | 0, _, _, _, _ => False
  | n + 1, v2, v4, v6, m =>
  ((m 59 0 ≤ v6 → (wp_X4_reduce v2 v4 m (fun m99 => post m99))) ∧
  (¬ m 59 0 ≤ v6 → ((0 ≤ v6 ∧ v6 < 5) ∧ (∀ v2_80 : Int, v2_80 = w64 (v2 * w32 (10 - m 61 v6)) → (∀ v4_87 : Int, v4_87 = w64 (v4 * 10) → (wp_X4_shareOf_58  post n v2_80 v4_87 (w32 (v6 + 1)) m))))))
set_option maxRecDepth 100000 in
theorem pf_X4_shareOf_58 {l : Launch} {x : WX} {G : GT} {post : Mem → Prop}  (X : Ax l x cX4_shareOf RX4 7 (rmd 2) 67 G) (hr : RV cX4_shareOf post G) : ∀ (n : Nat) (v2 : Int) (v4 : Int) (v6 : Int) (m : Mem) (_ : wp_X4_shareOf_58  post n v2 v4 v6 m), G 58 [(0, (2, 59)), (2, (1, v2)), (4, (1, v4)), (6, (0, v6))] [] m := by
  intro n
  induction n with
  | zero => intro v2 v4 v6 m h; exact absurd h id
  | succ n ih =>
  intro v2 v4 v6 m h
  unfold wp_X4_shareOf_58 at h
  refine g_iload 3 (i := 6) X dX4_shareOf_58 rfl ?_
  refine g_aload_n 0 (i := 0) X dX4_shareOf_60 rfl rfl ?_
  refine g_getI X dX4_shareOf_61 fX4_22 ?_
  refine g_icmp_ge X dX4_shareOf_64 (tgt := 95) (by decide) (fun hc => ?_) (fun hc => ?_)
  · have h := h.1 hc
    refine g_aload_n 0 (i := 0) X dX4_shareOf_95 rfl rfl ?_
    refine g_lload_n 1 (i := 2) X dX4_shareOf_96 rfl rfl ?_
    refine g_lload 2 (i := 4) X dX4_shareOf_97 rfl ?_
    refine g_cVV (st := []) X dX4_shareOf_99 YX4_reduce lX4_54 (by decide) (im_X4_reduce l x _ _ _ _ h) rfl ⟨by decide, by decide⟩ rfl (Nat.le_of_ble_eq_true rfl) (fun m99 h => ?_)
    exact hr _ _ _ _ dX4_shareOf_102 h
  · have h := h.2 hc
    refine g_lload_n 1 (i := 2) X dX4_shareOf_67 rfl rfl ?_
    refine g_bipush X dX4_shareOf_68 (by decide) ?_
    refine g_aload_n 0 (i := 0) X dX4_shareOf_70 rfl rfl ?_
    refine g_getR X dX4_shareOf_71 fX4_15 ?_
    refine g_iload 3 (i := 6) X dX4_shareOf_74 rfl ?_
    obtain ⟨hi, h⟩ := h
    refine g_iald X dX4_shareOf_76 rfl hi ?_
    refine g_isub X dX4_shareOf_77 ?_
    refine g_i2l X dX4_shareOf_78 ?_
    refine g_lmul X dX4_shareOf_79 ?_
    refine g_nmI (fun v2_80 ev2_80 => ?_)
    have h := h v2_80 ev2_80
    refine g_lstore_n (i := 2) (lv' := [(2, (1, v2_80)), (0, (2, 59)), (4, (1, v4)), (6, (0, v6))]) X dX4_shareOf_80 rfl (by decide) rfl ?_
    refine g_lload 2 (i := 4) X dX4_shareOf_81 rfl ?_
    refine g_ldc2 X dX4_shareOf_83 (by unfold r64; omega) kX4_52 ?_
    refine g_lmul X dX4_shareOf_86 ?_
    refine g_nmI (fun v4_87 ev4_87 => ?_)
    have h := h v4_87 ev4_87
    refine g_lstore (i := 4) (lv' := [(4, (1, v4_87)), (2, (1, v2_80)), (0, (2, 59)), (6, (0, v6))]) X dX4_shareOf_87 (by decide) rfl ?_
    refine g_iinc 3 (lv' := [(6, (0, w32 (v6 + 1))), (4, (1, v4_87)), (2, (1, v2_80)), (0, (2, 59))]) X dX4_shareOf_89 rfl (by decide) rfl ?_
    refine g_goto X dX4_shareOf_92 (tgt := 58) (by decide) ?_
    exact g_sub X [3, 2, 1, 0] rfl (ih _ _ _ _ h)
def wp_X4_shareOf (v1 : Int) (m : Mem) (post : Mem → Prop) : Prop :=
  wp_X4_countMissing m (fun m1 => ∃ n_8 : Nat, wp_X4_shareOf_12 (fun v2_4 v4_4 v6_4 m_4 => ∃ n_7 : Nat, wp_X4_shareOf_58  post n_7 v2_4 v4_4 v6_4 m_4) post n_8 v1 0 1 0 m1)
set_option maxRecDepth 100000 in
theorem pf_X4_shareOf {l : Launch} {x : WX} {G : GT} {post : Mem → Prop} (X : Ax l x cX4_shareOf RX4 7 (rmd 2) 67 G) (hr : RV cX4_shareOf post G) (v1 : Int) (m : Mem) (h : wp_X4_shareOf v1 m post) : G 0 [(0, (2, 59)), (1, (0, v1))] [] m := by
  unfold wp_X4_shareOf at h
  refine g_aload_n 0 (i := 0) X dX4_shareOf_0 rfl rfl ?_
  refine g_cVV (st := []) X dX4_shareOf_1 YX4_countMissing lX4_49 (by decide) (im_X4_countMissing l x  _ _ h) rfl ⟨by decide, by decide⟩ rfl (Nat.le_of_ble_eq_true rfl) (fun m1 h => ?_)
  refine g_lconst0 X dX4_shareOf_4 ?_
  refine g_lstore_n (i := 2) (lv' := [(2, (1, 0)), (0, (2, 59)), (1, (0, v1))]) X dX4_shareOf_5 rfl (by decide) rfl ?_
  refine g_lconst1 X dX4_shareOf_6 ?_
  refine g_lstore (i := 4) (lv' := [(4, (1, 1)), (2, (1, 0)), (0, (2, 59)), (1, (0, v1))]) X dX4_shareOf_7 (by decide) rfl ?_
  refine g_iconst X dX4_shareOf_9 (by decide) ?_
  refine g_istore (i := 6) (lv' := [(6, (0, 0)), (4, (1, 1)), (2, (1, 0)), (0, (2, 59)), (1, (0, v1))]) X dX4_shareOf_10 (by decide) rfl ?_
  obtain ⟨n_8, h⟩ := h
  refine g_sub X [3, 4, 2, 1, 0] rfl (pf_X4_shareOf_12 X hr (fun v2_4 v4_4 v6_4 m_4 h => ?_) n_8 _ _ _ _ _ h)
  · obtain ⟨n_7, h⟩ := h
    refine g_sub X [0, 1, 2, 3] rfl (pf_X4_shareOf_58 X hr  n_7 _ _ _ _ h)
theorem im_X4_shareOf (l : Launch) (x : WX) (v1 : Int) (m : Mem) (post : Mem → Prop) (h : wp_X4_shareOf v1 m post) : MetV l x 67 2 yX4_shareOf cX4_shareOf 7 [(2, 59), (0, v1)] m post := met_V (by decide) (Nat.le_of_ble_eq_true rfl) (fun _ X hr => pf_X4_shareOf X hr v1 m h)
def wp_X4_shareWithin (v1 : Int) (m : Mem) (post : Mem → Prop) : Prop :=
  wp_X4_hoursUnmissed m (fun r2 m2 => ∀ v2_6 : Int, v2_6 = w32 (v1 - r2) → (((0 ≤ v2_6 → (wp_X4_shareOf (if w32 (Int.tdiv v2_6 24) < 5 then w32 (Int.tdiv v2_6 24) else 5) m2 (fun m33 => post m33))) ∧
  (¬ 0 ≤ v2_6 → (∀ m13 : Mem, m13 = mset m2 59 1 0 → (∀ m18 : Mem, m18 = mset m13 59 2 1 → (post m18)))))))
set_option maxRecDepth 100000 in
theorem pf_X4_shareWithin {l : Launch} {x : WX} {G : GT} {post : Mem → Prop} (X : Ax l x cX4_shareWithin RX4 3 (rmd 3) 67 G) (hr : RV cX4_shareWithin post G) (v1 : Int) (m : Mem) (h : wp_X4_shareWithin v1 m post) : G 0 [(0, (2, 59)), (1, (0, v1))] [] m := by
  unfold wp_X4_shareWithin at h
  refine g_iload_n 1 (i := 1) X dX4_shareWithin_0 rfl rfl ?_
  refine g_aload_n 0 (i := 0) X dX4_shareWithin_1 rfl rfl ?_
  refine g_cVI (st := [(0, v1)]) X dX4_shareWithin_2 YX4_hoursUnmissed lX4_26 (by decide) (im_X4_hoursUnmissed l x  _ _ h) rfl ⟨by decide, by decide⟩ rfl (Nat.le_of_ble_eq_true rfl) (fun r2 m2 h => ?_)
  refine g_isub X dX4_shareWithin_5 ?_
  refine g_nmI (fun v2_6 ev2_6 => ?_)
  have h := h v2_6 ev2_6
  refine g_istore_n (i := 2) (lv' := [(2, (0, v2_6)), (0, (2, 59)), (1, (0, v1))]) X dX4_shareWithin_6 rfl (by decide) rfl ?_
  refine g_iload_n 0 (i := 2) X dX4_shareWithin_7 rfl rfl ?_
  refine g_if_ge X dX4_shareWithin_8 (tgt := 24) (by decide) (fun hc => ?_) (fun hc => ?_)
  · have h := h.1 hc
    refine g_aload_n 1 (i := 0) X dX4_shareWithin_24 rfl rfl ?_
    refine g_iconst X dX4_shareWithin_25 (by decide) ?_
    refine g_iload_n 0 (i := 2) X dX4_shareWithin_26 rfl rfl ?_
    refine g_bipush X dX4_shareWithin_27 (by decide) ?_
    refine g_idiv X dX4_shareWithin_29 (by decide) ?_
    refine g_min X dX4_shareWithin_30 lX4_37 mm_min_static mm_init mm_min_code (by decide) (Nat.le_of_ble_eq_true rfl) ?_
    refine g_cVV (st := []) X dX4_shareWithin_33 YX4_shareOf lX4_43 (by decide) (im_X4_shareOf l x _ _ _ h) rfl ⟨by decide, by decide⟩ rfl (Nat.le_of_ble_eq_true rfl) (fun m33 h => ?_)
    exact hr _ _ _ _ dX4_shareWithin_36 h
  · have h := h.2 hc
    refine g_aload_n 1 (i := 0) X dX4_shareWithin_11 rfl rfl ?_
    refine g_lconst0 X dX4_shareWithin_12 ?_
    refine g_putJ X dX4_shareWithin_13 pX4_30 (fun m13 em13 => ?_)
    have h := h m13 em13
    refine g_aload_n 1 (i := 0) X dX4_shareWithin_16 rfl rfl ?_
    refine g_lconst1 X dX4_shareWithin_17 ?_
    refine g_putJ X dX4_shareWithin_18 pX4_34 (fun m18 em18 => ?_)
    have h := h m18 em18
    refine g_goto X dX4_shareWithin_21 (tgt := 36) (by decide) ?_
    exact hr _ _ _ _ dX4_shareWithin_36 h
theorem im_X4_shareWithin (l : Launch) (x : WX) (v1 : Int) (m : Mem) (post : Mem → Prop) (h : wp_X4_shareWithin v1 m post) : MetV l x 67 3 yX4_shareWithin cX4_shareWithin 3 [(2, 59), (0, v1)] m post := met_V (by decide) (Nat.le_of_ble_eq_true rfl) (fun _ X hr => pf_X4_shareWithin X hr v1 m h)
def wp_X4_hoursFor_2  (post : Int → Mem → Prop) : Nat → Int → Int → Mem → Prop
  | 0, _, _, _ => False
  | n + 1, v1, v2, m =>
  ((5 < v2 → (post (-1) m)) ∧
  (¬ 5 < v2 → (wp_X4_shareOf v2 m (fun m9 => ((lcmp (w64 (m9 59 1 * 1000)) (w64 (m9 59 2 * v1)) < 0 → (wp_X4_hoursFor_2  post n v1 (w32 (v2 + 1)) m9)) ∧
  (¬ lcmp (w64 (m9 59 1 * 1000)) (w64 (m9 59 2 * v1)) < 0 → (wp_X4_hoursUnmissed m9 (fun r32 m32 => post (w32 (r32 + w32 (24 * v2))) m32))))))))
set_option maxRecDepth 100000 in
theorem pf_X4_hoursFor_2 {l : Launch} {x : WX} {G : GT} {post : Int → Mem → Prop}  (X : Ax l x cX4_hoursFor RX4 3 (rmd 3) 67 G) (hr : RI cX4_hoursFor post G) : ∀ (n : Nat) (v1 : Int) (v2 : Int) (m : Mem) (_ : wp_X4_hoursFor_2  post n v1 v2 m), G 2 [(0, (2, 59)), (1, (0, v1)), (2, (0, v2))] [] m := by
  intro n
  induction n with
  | zero => intro v1 v2 m h; exact absurd h id
  | succ n ih =>
  intro v1 v2 m h
  unfold wp_X4_hoursFor_2 at h
  refine g_iload_n 2 (i := 2) X dX4_hoursFor_2 rfl rfl ?_
  refine g_iconst X dX4_hoursFor_3 (by decide) ?_
  refine g_icmp_gt X dX4_hoursFor_4 (tgt := 47) (by decide) (fun hc => ?_) (fun hc => ?_)
  · have h := h.1 hc
    refine g_iconst X dX4_hoursFor_47 (by decide) ?_
    exact hr _ _ _ _ _ dX4_hoursFor_48 h
  · have h := h.2 hc
    refine g_aload_n 0 (i := 0) X dX4_hoursFor_7 rfl rfl ?_
    refine g_iload_n 2 (i := 2) X dX4_hoursFor_8 rfl rfl ?_
    refine g_cVV (st := []) X dX4_hoursFor_9 YX4_shareOf lX4_43 (by decide) (im_X4_shareOf l x _ _ _ h) rfl ⟨by decide, by decide⟩ rfl (Nat.le_of_ble_eq_true rfl) (fun m9 h => ?_)
    refine g_aload_n 0 (i := 0) X dX4_hoursFor_12 rfl rfl ?_
    refine g_getJ X dX4_hoursFor_13 fX4_30 ?_
    refine g_ldc2 X dX4_hoursFor_16 (by unfold r64; omega) kX4_47 ?_
    refine g_lmul X dX4_hoursFor_19 ?_
    refine g_aload_n 0 (i := 0) X dX4_hoursFor_20 rfl rfl ?_
    refine g_getJ X dX4_hoursFor_21 fX4_34 ?_
    refine g_iload_n 1 (i := 1) X dX4_hoursFor_24 rfl rfl ?_
    refine g_i2l X dX4_hoursFor_25 ?_
    refine g_lmul X dX4_hoursFor_26 ?_
    refine g_lcmp X dX4_hoursFor_27 ?_
    refine g_if_lt X dX4_hoursFor_28 (tgt := 41) (by decide) (fun hc => ?_) (fun hc => ?_)
    · have h := h.1 hc
      refine g_iinc 2 (lv' := [(2, (0, w32 (v2 + 1))), (0, (2, 59)), (1, (0, v1))]) X dX4_hoursFor_41 rfl (by decide) rfl ?_
      refine g_goto X dX4_hoursFor_44 (tgt := 2) (by decide) ?_
      exact g_sub X [1, 2, 0] rfl (ih _ _ _ h)
    · have h := h.2 hc
      refine g_aload_n 0 (i := 0) X dX4_hoursFor_31 rfl rfl ?_
      refine g_cVI (st := []) X dX4_hoursFor_32 YX4_hoursUnmissed lX4_26 (by decide) (im_X4_hoursUnmissed l x  _ _ h) rfl ⟨by decide, by decide⟩ rfl (Nat.le_of_ble_eq_true rfl) (fun r32 m32 h => ?_)
      refine g_bipush X dX4_hoursFor_35 (by decide) ?_
      refine g_iload_n 2 (i := 2) X dX4_hoursFor_37 rfl rfl ?_
      refine g_imul X dX4_hoursFor_38 ?_
      refine g_iadd X dX4_hoursFor_39 ?_
      exact hr _ _ _ _ _ dX4_hoursFor_40 h
def wp_X4_hoursFor (v1 : Int) (m : Mem) (post : Int → Mem → Prop) : Prop :=
  ∃ n_1 : Nat, wp_X4_hoursFor_2  post n_1 v1 0 m
set_option maxRecDepth 100000 in
theorem pf_X4_hoursFor {l : Launch} {x : WX} {G : GT} {post : Int → Mem → Prop} (X : Ax l x cX4_hoursFor RX4 3 (rmd 3) 67 G) (hr : RI cX4_hoursFor post G) (v1 : Int) (m : Mem) (h : wp_X4_hoursFor v1 m post) : G 0 [(0, (2, 59)), (1, (0, v1))] [] m := by
  unfold wp_X4_hoursFor at h
  refine g_iconst X dX4_hoursFor_0 (by decide) ?_
  refine g_istore_n (i := 2) (lv' := [(2, (0, 0)), (0, (2, 59)), (1, (0, v1))]) X dX4_hoursFor_1 rfl (by decide) rfl ?_
  obtain ⟨n_1, h⟩ := h
  refine g_sub X [1, 2, 0] rfl (pf_X4_hoursFor_2 X hr  n_1 _ _ _ h)
theorem im_X4_hoursFor (l : Launch) (x : WX) (v1 : Int) (m : Mem) (post : Int → Mem → Prop) (h : wp_X4_hoursFor v1 m post) : MetI l x 67 3 yX4_hoursFor cX4_hoursFor 3 .int [(2, 59), (0, v1)] m post := met_I (by decide) (Nat.le_of_ble_eq_true rfl) (fun _ X hr => pf_X4_hoursFor X hr v1 m h)
def wp_X4_digestOnto_5  (post : Int → Mem → Prop) : Nat → Int → Int → Mem → Prop
  | 0, _, _, _ => False
  | n + 1, v3, v5, m =>
  ((m 59 0 ≤ v5 → (post v3 m)) ∧
  (¬ m 59 0 ≤ v5 → ((0 ≤ v5 ∧ v5 < 5) ∧ ((0 ≤ v5 ∧ v5 < 5) ∧ (∀ v3_41 : Int, v3_41 = w64 (w64 (31 * w64 (w64 (31 * v3) + m 60 v5)) + m 61 v5) → (wp_X4_digestOnto_5  post n v3_41 (w32 (v5 + 1)) m))))))
set_option maxRecDepth 100000 in
theorem pf_X4_digestOnto_5 {l : Launch} {x : WX} {G : GT} {post : Int → Mem → Prop}  (X : Ax l x cX4_digestOnto RX4 6 (rmd 0) 67 G) (hr : RJ cX4_digestOnto post G) : ∀ (n : Nat) (v3 : Int) (v5 : Int) (m : Mem) (_ : wp_X4_digestOnto_5  post n v3 v5 m), G 5 [(0, (2, 59)), (3, (1, v3)), (5, (0, v5))] [] m := by
  intro n
  induction n with
  | zero => intro v3 v5 m h; exact absurd h id
  | succ n ih =>
  intro v3 v5 m h
  unfold wp_X4_digestOnto_5 at h
  refine g_iload 2 (i := 5) X dX4_digestOnto_5 rfl ?_
  refine g_aload_n 0 (i := 0) X dX4_digestOnto_7 rfl rfl ?_
  refine g_getI X dX4_digestOnto_8 fX4_22 ?_
  refine g_icmp_ge X dX4_digestOnto_11 (tgt := 48) (by decide) (fun hc => ?_) (fun hc => ?_)
  · have h := h.1 hc
    refine g_lload_n 1 (i := 3) X dX4_digestOnto_48 rfl rfl ?_
    exact hr _ _ _ _ _ dX4_digestOnto_49 h
  · have h := h.2 hc
    refine g_ldc2 X dX4_digestOnto_14 (by unfold r64; omega) kX4_64 ?_
    refine g_ldc2 X dX4_digestOnto_17 (by unfold r64; omega) kX4_64 ?_
    refine g_lload_n 1 (i := 3) X dX4_digestOnto_20 rfl rfl ?_
    refine g_lmul X dX4_digestOnto_21 ?_
    refine g_aload_n 0 (i := 0) X dX4_digestOnto_22 rfl rfl ?_
    refine g_getR X dX4_digestOnto_23 fX4_11 ?_
    refine g_iload 2 (i := 5) X dX4_digestOnto_26 rfl ?_
    obtain ⟨hi, h⟩ := h
    refine g_iald X dX4_digestOnto_28 rfl hi ?_
    refine g_i2l X dX4_digestOnto_29 ?_
    refine g_ladd X dX4_digestOnto_30 ?_
    refine g_lmul X dX4_digestOnto_31 ?_
    refine g_aload_n 0 (i := 0) X dX4_digestOnto_32 rfl rfl ?_
    refine g_getR X dX4_digestOnto_33 fX4_15 ?_
    refine g_iload 2 (i := 5) X dX4_digestOnto_36 rfl ?_
    obtain ⟨hi, h⟩ := h
    refine g_iald X dX4_digestOnto_38 rfl hi ?_
    refine g_i2l X dX4_digestOnto_39 ?_
    refine g_ladd X dX4_digestOnto_40 ?_
    refine g_nmI (fun v3_41 ev3_41 => ?_)
    have h := h v3_41 ev3_41
    refine g_lstore_n (i := 3) (lv' := [(3, (1, v3_41)), (0, (2, 59)), (5, (0, v5))]) X dX4_digestOnto_41 rfl (by decide) rfl ?_
    refine g_iinc 2 (lv' := [(5, (0, w32 (v5 + 1))), (3, (1, v3_41)), (0, (2, 59))]) X dX4_digestOnto_42 rfl (by decide) rfl ?_
    refine g_goto X dX4_digestOnto_45 (tgt := 5) (by decide) ?_
    exact g_sub X [2, 1, 0] rfl (ih _ _ _ h)
def wp_X4_digestOnto (v1 : Int) (m : Mem) (post : Int → Mem → Prop) : Prop :=
  ∃ n_2 : Nat, wp_X4_digestOnto_5  post n_2 v1 0 m
set_option maxRecDepth 100000 in
theorem pf_X4_digestOnto {l : Launch} {x : WX} {G : GT} {post : Int → Mem → Prop} (X : Ax l x cX4_digestOnto RX4 6 (rmd 0) 67 G) (hr : RJ cX4_digestOnto post G) (v1 : Int) (m : Mem) (h : wp_X4_digestOnto v1 m post) : G 0 [(0, (2, 59)), (1, (1, v1))] [] m := by
  unfold wp_X4_digestOnto at h
  refine g_lload_n 1 (i := 1) X dX4_digestOnto_0 rfl rfl ?_
  refine g_lstore_n (i := 3) (lv' := [(3, (1, v1)), (0, (2, 59)), (1, (1, v1))]) X dX4_digestOnto_1 rfl (by decide) rfl ?_
  refine g_iconst X dX4_digestOnto_2 (by decide) ?_
  refine g_istore (i := 5) (lv' := [(5, (0, 0)), (3, (1, v1)), (0, (2, 59)), (1, (1, v1))]) X dX4_digestOnto_3 (by decide) rfl ?_
  obtain ⟨n_2, h⟩ := h
  refine g_sub X [2, 1, 0] rfl (pf_X4_digestOnto_5 X hr  n_2 _ _ _ h)
theorem im_X4_digestOnto (l : Launch) (x : WX) (v1 : Int) (m : Mem) (post : Int → Mem → Prop) (h : wp_X4_digestOnto v1 m post) : MetJ l x 67 0 yX4_digestOnto cX4_digestOnto 6 [(2, 59), (1, v1)] m post := met_J (by decide) (Nat.le_of_ble_eq_true rfl) (fun _ X hr => pf_X4_digestOnto X hr v1 m h)
def wp_X5_forget  (m : Mem) (post : Mem → Prop) : Prop :=
  ∀ m2 : Mem, m2 = mset m 43 5 0 → (post m2)
set_option maxRecDepth 100000 in
theorem pf_X5_forget {l : Launch} {x : WX} {G : GT} {post : Mem → Prop} (X : Ax l x cX5_forget RX5 1 (rmd 0) 67 G) (hr : RV cX5_forget post G)  (m : Mem) (h : wp_X5_forget  m post) : G 0 [(0, (2, 43))] [] m := by
  unfold wp_X5_forget at h
  refine g_aload_n 0 (i := 0) X dX5_forget_0 rfl rfl ?_
  refine g_iconst X dX5_forget_1 (by decide) ?_
  refine g_putZ X dX5_forget_2 pX5_34 (by decide) (fun m2 em2 => ?_)
  have h := h m2 em2
  exact hr _ _ _ _ dX5_forget_5 h
theorem im_X5_forget (l : Launch) (x : WX)  (m : Mem) (post : Mem → Prop) (h : wp_X5_forget  m post) : MetV l x 67 0 yX5_forget cX5_forget 1 [(2, 43)] m post := met_V (by decide) (Nat.le_of_ble_eq_true rfl) (fun _ X hr => pf_X5_forget X hr  m h)
def wp_X5_begin  (m : Mem) (post : Mem → Prop) : Prop :=
  ∀ m3 : Mem, m3 = mset m 43 0 20 → (wp_J7_fill_53178 44 0 m3 (fun m11 => wp_J7_fill_53178 45 2 m11 (fun m19 => wp_X5_forget m19 (fun m23 => post m23))))
set_option maxRecDepth 100000 in
theorem pf_X5_begin {l : Launch} {x : WX} {G : GT} {post : Mem → Prop} (X : Ax l x cX5_begin RX5 1 (rmd 1) 67 G) (hr : RV cX5_begin post G)  (m : Mem) (h : wp_X5_begin  m post) : G 0 [(0, (2, 43))] [] m := by
  unfold wp_X5_begin at h
  refine g_aload_n 0 (i := 0) X dX5_begin_0 rfl rfl ?_
  refine g_bipush X dX5_begin_1 (by decide) ?_
  refine g_putI X dX5_begin_3 pX5_21 (fun m3 em3 => ?_)
  have h := h m3 em3
  refine g_aload_n 0 (i := 0) X dX5_begin_6 rfl rfl ?_
  refine g_getR X dX5_begin_7 fX5_9 ?_
  refine g_iconst X dX5_begin_10 (by decide) ?_
  refine g_cSV (st := []) X dX5_begin_11 YJ7_fill_53178 lX5_25 (by decide) (im_J7_fill_53178 l x _ _ _ _ h) rfl ⟨by decide, by decide⟩ rfl (Nat.le_of_ble_eq_true rfl) (fun m11 h => ?_)
  refine g_aload_n 0 (i := 0) X dX5_begin_14 rfl rfl ?_
  refine g_getR X dX5_begin_15 fX5_15 ?_
  refine g_iconst X dX5_begin_18 (by decide) ?_
  refine g_cSV (st := []) X dX5_begin_19 YJ7_fill_53178 lX5_25 (by decide) (im_J7_fill_53178 l x _ _ _ _ h) rfl ⟨by decide, by decide⟩ rfl (Nat.le_of_ble_eq_true rfl) (fun m19 h => ?_)
  refine g_aload_n 0 (i := 0) X dX5_begin_22 rfl rfl ?_
  refine g_cVV (st := []) X dX5_begin_23 YX5_forget lX5_31 (by decide) (im_X5_forget l x  _ _ h) rfl ⟨by decide, by decide⟩ rfl (Nat.le_of_ble_eq_true rfl) (fun m23 h => ?_)
  exact hr _ _ _ _ dX5_begin_26 h
theorem im_X5_begin (l : Launch) (x : WX)  (m : Mem) (post : Mem → Prop) (h : wp_X5_begin  m post) : MetV l x 67 1 yX5_begin cX5_begin 1 [(2, 43)] m post := met_V (by decide) (Nat.le_of_ble_eq_true rfl) (fun _ X hr => pf_X5_begin X hr  m h)
def wp_X5_fullNet_12 (K4 : Int → Int → Int → Mem → Prop) (post : Int → Mem → Prop) : Nat → Int → Int → Int → Int → Mem → Prop
  | 0, _, _, _, _, _ => False
  | n + 1, v0, v1, v3, v4, m =>
  ((v0 ≤ v4 → (K4 v0 v1 (w32 (v3 + 1)) m)) ∧
  (¬ v0 ≤ v4 → (((¬ v3 = v4 → (∀ v1_39 : Int, v1_39 = or64 v1 (shl64 1 (w32 (w32 (v3 * 8) + v4))) → (wp_X5_fullNet_12 K4 post n v0 v1_39 v3 (w32 (v4 + 1)) m))) ∧
  (v3 = v4 → (∀ v1_39 : Int, v1_39 = or64 v1 0 → (wp_X5_fullNet_12 K4 post n v0 v1_39 v3 (w32 (v4 + 1)) m)))))))
set_option maxRecDepth 100000 in
theorem pf_X5_fullNet_12 {l : Launch} {x : WX} {G : GT} {post : Int → Mem → Prop} {K4 : Int → Int → Int → Mem → Prop} (X : Ax l x cX5_fullNet RX5 5 (rmd 0) 67 G) (hr : RJ cX5_fullNet post G) (hK4 : ∀ (v0 : Int) (v1 : Int) (v3 : Int) (m : Mem), K4 v0 v1 v3 m → G 4 [(0, (0, v0)), (1, (1, v1)), (3, (0, v3))] [] m) : ∀ (n : Nat) (v0 : Int) (v1 : Int) (v3 : Int) (v4 : Int) (m : Mem) (_ : wp_X5_fullNet_12 K4 post n v0 v1 v3 v4 m), G 12 [(0, (0, v0)), (1, (1, v1)), (3, (0, v3)), (4, (0, v4))] [] m := by
  intro n
  induction n with
  | zero => intro v0 v1 v3 v4 m h; exact absurd h id
  | succ n ih =>
  intro v0 v1 v3 v4 m h
  unfold wp_X5_fullNet_12 at h
  refine g_iload 3 (i := 4) X dX5_fullNet_12 rfl ?_
  refine g_iload_n 0 (i := 0) X dX5_fullNet_14 rfl rfl ?_
  refine g_icmp_ge X dX5_fullNet_15 (tgt := 46) (by decide) (fun hc => ?_) (fun hc => ?_)
  · have h := h.1 hc
    refine g_iinc 2 (lv' := [(3, (0, w32 (v3 + 1))), (0, (0, v0)), (1, (1, v1)), (4, (0, v4))]) X dX5_fullNet_46 rfl (by decide) rfl ?_
    refine g_goto X dX5_fullNet_49 (tgt := 4) (by decide) ?_
    exact g_sub X [1, 2, 0] rfl (hK4 _ _ _ _ h)
  · have h := h.2 hc
    refine g_lload_n 1 (i := 1) X dX5_fullNet_18 rfl rfl ?_
    refine g_iload_n 2 (i := 3) X dX5_fullNet_19 rfl rfl ?_
    refine g_iload 3 (i := 4) X dX5_fullNet_20 rfl ?_
    refine g_icmp_ne X dX5_fullNet_22 (tgt := 29) (by decide) (fun hc => ?_) (fun hc => ?_)
    · have h := h.1 hc
      refine g_lconst1 X dX5_fullNet_29 ?_
      refine g_iload_n 2 (i := 3) X dX5_fullNet_30 rfl rfl ?_
      refine g_bipush X dX5_fullNet_31 (by decide) ?_
      refine g_imul X dX5_fullNet_33 ?_
      refine g_iload 3 (i := 4) X dX5_fullNet_34 rfl ?_
      refine g_iadd X dX5_fullNet_36 ?_
      refine g_lshl X dX5_fullNet_37 ?_
      refine g_lor X dX5_fullNet_38 ?_
      refine g_nmI (fun v1_39 ev1_39 => ?_)
      have h := h v1_39 ev1_39
      refine g_lstore_n (i := 1) (lv' := [(1, (1, v1_39)), (0, (0, v0)), (3, (0, v3)), (4, (0, v4))]) X dX5_fullNet_39 rfl (by decide) rfl ?_
      refine g_iinc 3 (lv' := [(4, (0, w32 (v4 + 1))), (1, (1, v1_39)), (0, (0, v0)), (3, (0, v3))]) X dX5_fullNet_40 rfl (by decide) rfl ?_
      refine g_goto X dX5_fullNet_43 (tgt := 12) (by decide) ?_
      exact g_sub X [2, 1, 3, 0] rfl (ih _ _ _ _ _ h)
    · have h := h.2 hc
      refine g_lconst0 X dX5_fullNet_25 ?_
      refine g_goto X dX5_fullNet_26 (tgt := 38) (by decide) ?_
      refine g_lor X dX5_fullNet_38 ?_
      refine g_nmI (fun v1_39 ev1_39 => ?_)
      have h := h v1_39 ev1_39
      refine g_lstore_n (i := 1) (lv' := [(1, (1, v1_39)), (0, (0, v0)), (3, (0, v3)), (4, (0, v4))]) X dX5_fullNet_39 rfl (by decide) rfl ?_
      refine g_iinc 3 (lv' := [(4, (0, w32 (v4 + 1))), (1, (1, v1_39)), (0, (0, v0)), (3, (0, v3))]) X dX5_fullNet_40 rfl (by decide) rfl ?_
      refine g_goto X dX5_fullNet_43 (tgt := 12) (by decide) ?_
      exact g_sub X [2, 1, 3, 0] rfl (ih _ _ _ _ _ h)
def wp_X5_fullNet_4  (post : Int → Mem → Prop) : Nat → Int → Int → Int → Mem → Prop
  | 0, _, _, _, _ => False
  | n + 1, v0, v1, v3, m =>
  ((v0 ≤ v3 → (post v1 m)) ∧
  (¬ v0 ≤ v3 → (∃ n_4 : Nat, wp_X5_fullNet_12 (fun v0_3 v1_3 v3_3 m_3 => wp_X5_fullNet_4  post n v0_3 v1_3 v3_3 m_3) post n_4 v0 v1 v3 0 m)))
set_option maxRecDepth 100000 in
theorem pf_X5_fullNet_4 {l : Launch} {x : WX} {G : GT} {post : Int → Mem → Prop}  (X : Ax l x cX5_fullNet RX5 5 (rmd 0) 67 G) (hr : RJ cX5_fullNet post G) : ∀ (n : Nat) (v0 : Int) (v1 : Int) (v3 : Int) (m : Mem) (_ : wp_X5_fullNet_4  post n v0 v1 v3 m), G 4 [(0, (0, v0)), (1, (1, v1)), (3, (0, v3))] [] m := by
  intro n
  induction n with
  | zero => intro v0 v1 v3 m h; exact absurd h id
  | succ n ih =>
  intro v0 v1 v3 m h
  unfold wp_X5_fullNet_4 at h
  refine g_iload_n 2 (i := 3) X dX5_fullNet_4 rfl rfl ?_
  refine g_iload_n 0 (i := 0) X dX5_fullNet_5 rfl rfl ?_
  refine g_icmp_ge X dX5_fullNet_6 (tgt := 52) (by decide) (fun hc => ?_) (fun hc => ?_)
  · have h := h.1 hc
    refine g_lload_n 1 (i := 1) X dX5_fullNet_52 rfl rfl ?_
    exact hr _ _ _ _ _ dX5_fullNet_53 h
  · have h := h.2 hc
    refine g_iconst X dX5_fullNet_9 (by decide) ?_
    refine g_istore (i := 4) (lv' := [(4, (0, 0)), (0, (0, v0)), (1, (1, v1)), (3, (0, v3))]) X dX5_fullNet_10 (by decide) rfl ?_
    obtain ⟨n_4, h⟩ := h
    refine g_sub X [1, 2, 3, 0] rfl (pf_X5_fullNet_12 X hr (fun v0_3 v1_3 v3_3 m_3 h => ?_) n_4 _ _ _ _ _ h)
    · exact g_sub X [0, 1, 2] rfl (ih _ _ _ _ h)
def wp_X5_fullNet (v0 : Int) (m : Mem) (post : Int → Mem → Prop) : Prop :=
  ∃ n_5 : Nat, wp_X5_fullNet_4  post n_5 v0 0 0 m
set_option maxRecDepth 100000 in
theorem pf_X5_fullNet {l : Launch} {x : WX} {G : GT} {post : Int → Mem → Prop} (X : Ax l x cX5_fullNet RX5 5 (rmd 0) 67 G) (hr : RJ cX5_fullNet post G) (v0 : Int) (m : Mem) (h : wp_X5_fullNet v0 m post) : G 0 [(0, (0, v0))] [] m := by
  unfold wp_X5_fullNet at h
  refine g_lconst0 X dX5_fullNet_0 ?_
  refine g_lstore_n (i := 1) (lv' := [(1, (1, 0)), (0, (0, v0))]) X dX5_fullNet_1 rfl (by decide) rfl ?_
  refine g_iconst X dX5_fullNet_2 (by decide) ?_
  refine g_istore_n (i := 3) (lv' := [(3, (0, 0)), (1, (1, 0)), (0, (0, v0))]) X dX5_fullNet_3 rfl (by decide) rfl ?_
  obtain ⟨n_5, h⟩ := h
  refine g_sub X [2, 1, 0] rfl (pf_X5_fullNet_4 X hr  n_5 _ _ _ _ h)
theorem im_X5_fullNet (l : Launch) (x : WX) (v0 : Int) (m : Mem) (post : Int → Mem → Prop) (h : wp_X5_fullNet v0 m post) : MetJ l x 67 0 yX5_fullNet cX5_fullNet 5 [(0, v0)] m post := met_J (by decide) (Nat.le_of_ble_eq_true rfl) (fun _ X hr => pf_X5_fullNet X hr v0 m h)
def wp_J13_bitCount_95d88 (v0 : Int) (m : Mem) (post : Int → Mem → Prop) : Prop :=
  ∀ v0_9 : Int, v0_9 = w64 (v0 - and64 (ushr64 v0 1) 6148914691236517205) → (∀ v0_23 : Int, v0_23 = w64 (and64 v0_9 3689348814741910323 + and64 (ushr64 v0_9 2) 3689348814741910323) → (∀ v0_33 : Int, v0_33 = and64 (w64 (v0_23 + ushr64 v0_23 4)) 1085102592571150095 → (∀ v0_40 : Int, v0_40 = w64 (v0_33 + ushr64 v0_33 8) → (∀ v0_47 : Int, v0_47 = w64 (v0_40 + ushr64 v0_40 16) → (∀ v0_54 : Int, v0_54 = w64 (v0_47 + ushr64 v0_47 32) → (post (and32 (w32 v0_54) 127) m))))))
set_option maxRecDepth 100000 in
theorem pf_J13_bitCount_95d88 {l : Launch} {x : WX} {G : GT} {post : Int → Mem → Prop} (X : Ax l x cJ13_bitCount_95d88 RJ13 2 (rmd 0) 67 G) (hr : RI cJ13_bitCount_95d88 post G) (v0 : Int) (m : Mem) (h : wp_J13_bitCount_95d88 v0 m post) : G 0 [(0, (1, v0))] [] m := by
  unfold wp_J13_bitCount_95d88 at h
  refine g_lload_n 0 (i := 0) X dJ13_bitCount_95d88_0 rfl rfl ?_
  refine g_lload_n 0 (i := 0) X dJ13_bitCount_95d88_1 rfl rfl ?_
  refine g_iconst X dJ13_bitCount_95d88_2 (by decide) ?_
  refine g_lushr X dJ13_bitCount_95d88_3 ?_
  refine g_ldc2 X dJ13_bitCount_95d88_4 (by unfold r64; omega) kJ13_314 ?_
  refine g_land X dJ13_bitCount_95d88_7 ?_
  refine g_lsub X dJ13_bitCount_95d88_8 ?_
  refine g_nmI (fun v0_9 ev0_9 => ?_)
  have h := h v0_9 ev0_9
  refine g_lstore_n (i := 0) (lv' := [(0, (1, v0_9))]) X dJ13_bitCount_95d88_9 rfl (by decide) rfl ?_
  refine g_lload_n 0 (i := 0) X dJ13_bitCount_95d88_10 rfl rfl ?_
  refine g_ldc2 X dJ13_bitCount_95d88_11 (by unfold r64; omega) kJ13_316 ?_
  refine g_land X dJ13_bitCount_95d88_14 ?_
  refine g_lload_n 0 (i := 0) X dJ13_bitCount_95d88_15 rfl rfl ?_
  refine g_iconst X dJ13_bitCount_95d88_16 (by decide) ?_
  refine g_lushr X dJ13_bitCount_95d88_17 ?_
  refine g_ldc2 X dJ13_bitCount_95d88_18 (by unfold r64; omega) kJ13_316 ?_
  refine g_land X dJ13_bitCount_95d88_21 ?_
  refine g_ladd X dJ13_bitCount_95d88_22 ?_
  refine g_nmI (fun v0_23 ev0_23 => ?_)
  have h := h v0_23 ev0_23
  refine g_lstore_n (i := 0) (lv' := [(0, (1, v0_23))]) X dJ13_bitCount_95d88_23 rfl (by decide) rfl ?_
  refine g_lload_n 0 (i := 0) X dJ13_bitCount_95d88_24 rfl rfl ?_
  refine g_lload_n 0 (i := 0) X dJ13_bitCount_95d88_25 rfl rfl ?_
  refine g_iconst X dJ13_bitCount_95d88_26 (by decide) ?_
  refine g_lushr X dJ13_bitCount_95d88_27 ?_
  refine g_ladd X dJ13_bitCount_95d88_28 ?_
  refine g_ldc2 X dJ13_bitCount_95d88_29 (by unfold r64; omega) kJ13_318 ?_
  refine g_land X dJ13_bitCount_95d88_32 ?_
  refine g_nmI (fun v0_33 ev0_33 => ?_)
  have h := h v0_33 ev0_33
  refine g_lstore_n (i := 0) (lv' := [(0, (1, v0_33))]) X dJ13_bitCount_95d88_33 rfl (by decide) rfl ?_
  refine g_lload_n 0 (i := 0) X dJ13_bitCount_95d88_34 rfl rfl ?_
  refine g_lload_n 0 (i := 0) X dJ13_bitCount_95d88_35 rfl rfl ?_
  refine g_bipush X dJ13_bitCount_95d88_36 (by decide) ?_
  refine g_lushr X dJ13_bitCount_95d88_38 ?_
  refine g_ladd X dJ13_bitCount_95d88_39 ?_
  refine g_nmI (fun v0_40 ev0_40 => ?_)
  have h := h v0_40 ev0_40
  refine g_lstore_n (i := 0) (lv' := [(0, (1, v0_40))]) X dJ13_bitCount_95d88_40 rfl (by decide) rfl ?_
  refine g_lload_n 0 (i := 0) X dJ13_bitCount_95d88_41 rfl rfl ?_
  refine g_lload_n 0 (i := 0) X dJ13_bitCount_95d88_42 rfl rfl ?_
  refine g_bipush X dJ13_bitCount_95d88_43 (by decide) ?_
  refine g_lushr X dJ13_bitCount_95d88_45 ?_
  refine g_ladd X dJ13_bitCount_95d88_46 ?_
  refine g_nmI (fun v0_47 ev0_47 => ?_)
  have h := h v0_47 ev0_47
  refine g_lstore_n (i := 0) (lv' := [(0, (1, v0_47))]) X dJ13_bitCount_95d88_47 rfl (by decide) rfl ?_
  refine g_lload_n 0 (i := 0) X dJ13_bitCount_95d88_48 rfl rfl ?_
  refine g_lload_n 0 (i := 0) X dJ13_bitCount_95d88_49 rfl rfl ?_
  refine g_bipush X dJ13_bitCount_95d88_50 (by decide) ?_
  refine g_lushr X dJ13_bitCount_95d88_52 ?_
  refine g_ladd X dJ13_bitCount_95d88_53 ?_
  refine g_nmI (fun v0_54 ev0_54 => ?_)
  have h := h v0_54 ev0_54
  refine g_lstore_n (i := 0) (lv' := [(0, (1, v0_54))]) X dJ13_bitCount_95d88_54 rfl (by decide) rfl ?_
  refine g_lload_n 0 (i := 0) X dJ13_bitCount_95d88_55 rfl rfl ?_
  refine g_l2i X dJ13_bitCount_95d88_56 ?_
  refine g_bipush X dJ13_bitCount_95d88_57 (by decide) ?_
  refine g_iand X dJ13_bitCount_95d88_59 ?_
  exact hr _ _ _ _ _ dJ13_bitCount_95d88_60 h
theorem im_J13_bitCount_95d88 (l : Launch) (x : WX) (v0 : Int) (m : Mem) (post : Int → Mem → Prop) (h : wp_J13_bitCount_95d88 v0 m post) : MetI l x 67 0 yJ13_bitCount_95d88 cJ13_bitCount_95d88 2 .int [(1, v0)] m post := met_I (by decide) (Nat.le_of_ble_eq_true rfl) (fun _ X hr => pf_J13_bitCount_95d88 X hr v0 m h)
def wp_X5_fitsTracks_3  (post : Int → Mem → Prop) : Nat → Int → Int → Int → Mem → Prop
  | 0, _, _, _, _ => False
  | n + 1, v1, v3, v4, m =>
  ((v3 ≤ v4 → (post 1 m)) ∧
  (¬ v3 ≤ v4 → (wp_J13_bitCount_95d88 (and64 (ushr64 v1 (w32 (v4 * 8))) 255) m (fun r20 m20 => (0 ≤ v4 ∧ v4 < 8) ∧ (((r20 ≤ m20 45 v4 → (wp_X5_fitsTracks_3  post n v1 v3 (w32 (v4 + 1)) m20)) ∧
  (¬ r20 ≤ m20 45 v4 → (post 0 m20))))))))
set_option maxRecDepth 100000 in
theorem pf_X5_fitsTracks_3 {l : Launch} {x : WX} {G : GT} {post : Int → Mem → Prop}  (X : Ax l x cX5_fitsTracks RX5 5 (rmd 1) 67 G) (hr : RZ cX5_fitsTracks post G) : ∀ (n : Nat) (v1 : Int) (v3 : Int) (v4 : Int) (m : Mem) (_ : wp_X5_fitsTracks_3  post n v1 v3 v4 m), G 3 [(0, (2, 43)), (1, (1, v1)), (3, (0, v3)), (4, (0, v4))] [] m := by
  intro n
  induction n with
  | zero => intro v1 v3 v4 m h; exact absurd h id
  | succ n ih =>
  intro v1 v3 v4 m h
  unfold wp_X5_fitsTracks_3 at h
  refine g_iload 3 (i := 4) X dX5_fitsTracks_3 rfl ?_
  refine g_iload_n 2 (i := 3) X dX5_fitsTracks_5 rfl rfl ?_
  refine g_icmp_ge X dX5_fitsTracks_6 (tgt := 41) (by decide) (fun hc => ?_) (fun hc => ?_)
  · have h := h.1 hc
    refine g_iconst X dX5_fitsTracks_41 (by decide) ?_
    exact hr _ _ _ _ _ dX5_fitsTracks_42 ⟨by decide, h⟩
  · have h := h.2 hc
    refine g_lload_n 1 (i := 1) X dX5_fitsTracks_9 rfl rfl ?_
    refine g_iload 3 (i := 4) X dX5_fitsTracks_10 rfl ?_
    refine g_bipush X dX5_fitsTracks_12 (by decide) ?_
    refine g_imul X dX5_fitsTracks_14 ?_
    refine g_lushr X dX5_fitsTracks_15 ?_
    refine g_ldc2 X dX5_fitsTracks_16 (by unfold r64; omega) kX5_48 ?_
    refine g_land X dX5_fitsTracks_19 ?_
    refine g_cSI (st := []) X dX5_fitsTracks_20 YJ13_bitCount_95d88 lX5_50 (by decide) (im_J13_bitCount_95d88 l x _ _ _ h) rfl ⟨by decide, by decide⟩ rfl (Nat.le_of_ble_eq_true rfl) (fun r20 m20 h => ?_)
    refine g_aload_n 0 (i := 0) X dX5_fitsTracks_23 rfl rfl ?_
    refine g_getR X dX5_fitsTracks_24 fX5_15 ?_
    refine g_iload 3 (i := 4) X dX5_fitsTracks_27 rfl ?_
    obtain ⟨hi, h⟩ := h
    refine g_iald X dX5_fitsTracks_29 rfl hi ?_
    refine g_icmp_le X dX5_fitsTracks_30 (tgt := 35) (by decide) (fun hc => ?_) (fun hc => ?_)
    · have h := h.1 hc
      refine g_iinc 3 (lv' := [(4, (0, w32 (v4 + 1))), (0, (2, 43)), (1, (1, v1)), (3, (0, v3))]) X dX5_fitsTracks_35 rfl (by decide) rfl ?_
      refine g_goto X dX5_fitsTracks_38 (tgt := 3) (by decide) ?_
      exact g_sub X [1, 2, 3, 0] rfl (ih _ _ _ _ h)
    · have h := h.2 hc
      refine g_iconst X dX5_fitsTracks_33 (by decide) ?_
      exact hr _ _ _ _ _ dX5_fitsTracks_34 ⟨by decide, h⟩
def wp_X5_fitsTracks (v1 : Int) (v3 : Int) (m : Mem) (post : Int → Mem → Prop) : Prop :=
  ∃ n_1 : Nat, wp_X5_fitsTracks_3  post n_1 v1 v3 0 m
set_option maxRecDepth 100000 in
theorem pf_X5_fitsTracks {l : Launch} {x : WX} {G : GT} {post : Int → Mem → Prop} (X : Ax l x cX5_fitsTracks RX5 5 (rmd 1) 67 G) (hr : RZ cX5_fitsTracks post G) (v1 : Int) (v3 : Int) (m : Mem) (h : wp_X5_fitsTracks v1 v3 m post) : G 0 [(0, (2, 43)), (1, (1, v1)), (3, (0, v3))] [] m := by
  unfold wp_X5_fitsTracks at h
  refine g_iconst X dX5_fitsTracks_0 (by decide) ?_
  refine g_istore (i := 4) (lv' := [(4, (0, 0)), (0, (2, 43)), (1, (1, v1)), (3, (0, v3))]) X dX5_fitsTracks_1 (by decide) rfl ?_
  obtain ⟨n_1, h⟩ := h
  refine g_sub X [1, 2, 3, 0] rfl (pf_X5_fitsTracks_3 X hr  n_1 _ _ _ _ h)
theorem im_X5_fitsTracks (l : Launch) (x : WX) (v1 : Int) (v3 : Int) (m : Mem) (post : Int → Mem → Prop) (h : wp_X5_fitsTracks v1 v3 m post) : MetI l x 67 1 yX5_fitsTracks cX5_fitsTracks 5 .boolean [(2, 43), (1, v1), (0, v3)] m post := met_Z (by decide) (Nat.le_of_ble_eq_true rfl) (fun _ X hr => pf_X5_fitsTracks X hr v1 v3 m h)
def wp_X5_allows (v1 : Int) (v3 : Int) (m : Mem) (post : Int → Mem → Prop) : Prop :=
  wp_X5_fullNet v3 m (fun r2 m2 => ((¬ lcmp (and64 v1 (xor64 r2 (-1))) 0 = 0 → (post 0 m2)) ∧
  (lcmp (and64 v1 (xor64 r2 (-1))) 0 = 0 → (wp_X5_fitsTracks v1 v3 m2 (fun r18 m18 => ((r18 = 0 → (post 0 m18)) ∧
  (¬ r18 = 0 → (post 1 m18))))))))
set_option maxRecDepth 100000 in
theorem pf_X5_allows {l : Launch} {x : WX} {G : GT} {post : Int → Mem → Prop} (X : Ax l x cX5_allows RX5 4 (rmd 2) 67 G) (hr : RZ cX5_allows post G) (v1 : Int) (v3 : Int) (m : Mem) (h : wp_X5_allows v1 v3 m post) : G 0 [(0, (2, 43)), (1, (1, v1)), (3, (0, v3))] [] m := by
  unfold wp_X5_allows at h
  refine g_lload_n 1 (i := 1) X dX5_allows_0 rfl rfl ?_
  refine g_iload_n 2 (i := 3) X dX5_allows_1 rfl rfl ?_
  refine g_cSJ (st := [(1, v1)]) X dX5_allows_2 YX5_fullNet lX5_38 (by decide) (im_X5_fullNet l x _ _ _ h) rfl ⟨by decide, by decide⟩ rfl (Nat.le_of_ble_eq_true rfl) (fun r2 m2 h => ?_)
  refine g_ldc2 X dX5_allows_5 (by unfold r64; omega) kX5_42 ?_
  refine g_lxor X dX5_allows_8 ?_
  refine g_land X dX5_allows_9 ?_
  refine g_lconst0 X dX5_allows_10 ?_
  refine g_lcmp X dX5_allows_11 ?_
  refine g_if_ne X dX5_allows_12 (tgt := 28) (by decide) (fun hc => ?_) (fun hc => ?_)
  · have h := h.1 hc
    refine g_iconst X dX5_allows_28 (by decide) ?_
    exact hr _ _ _ _ _ dX5_allows_29 ⟨by decide, h⟩
  · have h := h.2 hc
    refine g_aload_n 0 (i := 0) X dX5_allows_15 rfl rfl ?_
    refine g_lload_n 1 (i := 1) X dX5_allows_16 rfl rfl ?_
    refine g_iload_n 2 (i := 3) X dX5_allows_17 rfl rfl ?_
    refine g_cVI (st := []) X dX5_allows_18 YX5_fitsTracks lX5_44 (by decide) (im_X5_fitsTracks l x _ _ _ _ h) rfl ⟨by decide, by decide⟩ rfl (Nat.le_of_ble_eq_true rfl) (fun r18 m18 h => ?_)
    refine g_if_eq X dX5_allows_21 (tgt := 28) (by decide) (fun hc => ?_) (fun hc => ?_)
    · have h := h.1 hc
      refine g_iconst X dX5_allows_28 (by decide) ?_
      exact hr _ _ _ _ _ dX5_allows_29 ⟨by decide, h⟩
    · have h := h.2 hc
      refine g_iconst X dX5_allows_24 (by decide) ?_
      refine g_goto X dX5_allows_25 (tgt := 29) (by decide) ?_
      exact hr _ _ _ _ _ dX5_allows_29 ⟨by decide, h⟩
theorem im_X5_allows (l : Launch) (x : WX) (v1 : Int) (v3 : Int) (m : Mem) (post : Int → Mem → Prop) (h : wp_X5_allows v1 v3 m post) : MetI l x 67 2 yX5_allows cX5_allows 4 .boolean [(2, 43), (1, v1), (0, v3)] m post := met_Z (by decide) (Nat.le_of_ble_eq_true rfl) (fun _ X hr => pf_X5_allows X hr v1 v3 m h)
def wp_X5_lay_15 (K3 : Int → Int → Mem → Prop) (post : Mem → Prop) : Nat → Int → Int → Int → Mem → Prop
  | 0, _, _, _, _ => False
  | n + 1, v1, v4, v5, m =>
  ((m 1 0 ≤ v5 → (K3 v1 (w32 (v4 + 1)) m)) ∧
  (¬ m 1 0 ≤ v5 → (∀ v6_32 : Int, v6_32 = w32 (w32 (v4 * 8) + v5) → (((lcmp (and64 (ushr64 v1 v6_32) 1) 0 = 0 → ((0 ≤ v6_32 ∧ v6_32 < 64) ∧ (∀ m63 : Mem, m63 = mset m 46 v6_32 1000000 → (wp_X5_lay_15 K3 post n v1 v4 (w32 (v5 + 1)) m63)))) ∧
  (¬ lcmp (and64 (ushr64 v1 v6_32) 1) 0 = 0 → ((0 ≤ v6_32 ∧ v6_32 < 64) ∧ ((0 ≤ v6_32 ∧ v6_32 < 64) ∧ (∀ m63 : Mem, m63 = mset m 46 v6_32 (m 2 v6_32) → (wp_X5_lay_15 K3 post n v1 v4 (w32 (v5 + 1)) m63))))))))))
set_option maxRecDepth 100000 in
theorem pf_X5_lay_15 {l : Launch} {x : WX} {G : GT} {post : Mem → Prop} {K3 : Int → Int → Mem → Prop} (X : Ax l x cX5_lay RX5 7 (rmd 0) 67 G) (hr : RV cX5_lay post G) (hK3 : ∀ (v1 : Int) (v4 : Int) (m : Mem), K3 v1 v4 m → G 3 [(0, (2, 43)), (1, (1, v1)), (3, (2, 1)), (4, (0, v4))] [] m) : ∀ (n : Nat) (v1 : Int) (v4 : Int) (v5 : Int) (m : Mem) (_ : wp_X5_lay_15 K3 post n v1 v4 v5 m), G 15 [(0, (2, 43)), (1, (1, v1)), (3, (2, 1)), (4, (0, v4)), (5, (0, v5))] [] m := by
  intro n
  induction n with
  | zero => intro v1 v4 v5 m h; exact absurd h id
  | succ n ih =>
  intro v1 v4 v5 m h
  unfold wp_X5_lay_15 at h
  refine g_iload 4 (i := 5) X dX5_lay_15 rfl ?_
  refine g_aload_n 2 (i := 3) X dX5_lay_17 rfl rfl ?_
  refine g_getI X dX5_lay_18 fX5_60 ?_
  refine g_icmp_ge X dX5_lay_21 (tgt := 70) (by decide) (fun hc => ?_) (fun hc => ?_)
  · have h := h.1 hc
    refine g_iinc 3 (lv' := [(4, (0, w32 (v4 + 1))), (0, (2, 43)), (1, (1, v1)), (3, (2, 1)), (5, (0, v5))]) X dX5_lay_70 rfl (by decide) rfl ?_
    refine g_goto X dX5_lay_73 (tgt := 3) (by decide) ?_
    exact g_sub X [1, 2, 3, 0] rfl (hK3 _ _ _ h)
  · have h := h.2 hc
    refine g_iload 3 (i := 4) X dX5_lay_24 rfl ?_
    refine g_bipush X dX5_lay_26 (by decide) ?_
    refine g_imul X dX5_lay_28 ?_
    refine g_iload 4 (i := 5) X dX5_lay_29 rfl ?_
    refine g_iadd X dX5_lay_31 ?_
    refine g_nmI (fun v6_32 ev6_32 => ?_)
    have h := h v6_32 ev6_32
    refine g_istore (i := 6) (lv' := [(6, (0, v6_32)), (0, (2, 43)), (1, (1, v1)), (3, (2, 1)), (4, (0, v4)), (5, (0, v5))]) X dX5_lay_32 (by decide) rfl ?_
    refine g_aload_n 1 (i := 0) X dX5_lay_34 rfl rfl ?_
    refine g_getR X dX5_lay_35 fX5_18 ?_
    refine g_iload 0 (i := 6) X dX5_lay_38 rfl ?_
    refine g_lload_n 2 (i := 1) X dX5_lay_40 rfl rfl ?_
    refine g_iload 0 (i := 6) X dX5_lay_41 rfl ?_
    refine g_lushr X dX5_lay_43 ?_
    refine g_lconst1 X dX5_lay_44 ?_
    refine g_land X dX5_lay_45 ?_
    refine g_lconst0 X dX5_lay_46 ?_
    refine g_lcmp X dX5_lay_47 ?_
    refine g_if_eq X dX5_lay_48 (tgt := 61) (by decide) (fun hc => ?_) (fun hc => ?_)
    · have h := h.1 hc
      refine g_ldc X dX5_lay_61 (by unfold r32; omega) kX5_69 ?_
      obtain ⟨hi, h⟩ := h
      refine g_iast X dX5_lay_63 rfl hi (fun m63 em63 => ?_)
      have h := h m63 em63
      refine g_iinc 5 (lv' := [(5, (0, w32 (v5 + 1))), (6, (0, v6_32)), (0, (2, 43)), (1, (1, v1)), (3, (2, 1)), (4, (0, v4))]) X dX5_lay_64 rfl (by decide) rfl ?_
      refine g_goto X dX5_lay_67 (tgt := 15) (by decide) ?_
      exact g_sub X [2, 3, 4, 5, 0] rfl (ih _ _ _ _ h)
    · have h := h.2 hc
      refine g_aload_n 3 (i := 3) X dX5_lay_51 rfl rfl ?_
      refine g_getR X dX5_lay_52 fX5_70 ?_
      refine g_iload 0 (i := 6) X dX5_lay_55 rfl ?_
      obtain ⟨hi, h⟩ := h
      refine g_iald X dX5_lay_57 rfl hi ?_
      refine g_goto X dX5_lay_58 (tgt := 63) (by decide) ?_
      obtain ⟨hi, h⟩ := h
      refine g_iast X dX5_lay_63 rfl hi (fun m63 em63 => ?_)
      have h := h m63 em63
      refine g_iinc 5 (lv' := [(5, (0, w32 (v5 + 1))), (6, (0, v6_32)), (0, (2, 43)), (1, (1, v1)), (3, (2, 1)), (4, (0, v4))]) X dX5_lay_64 rfl (by decide) rfl ?_
      refine g_goto X dX5_lay_67 (tgt := 15) (by decide) ?_
      exact g_sub X [2, 3, 4, 5, 0] rfl (ih _ _ _ _ h)
def wp_X5_lay_3  (post : Mem → Prop) : Nat → Int → Int → Mem → Prop
  | 0, _, _, _ => False
  | n + 1, v1, v4, m =>
  ((m 1 0 ≤ v4 → (post m)) ∧
  (¬ m 1 0 ≤ v4 → (∃ n_3 : Nat, wp_X5_lay_15 (fun v1_2 v4_2 m_2 => wp_X5_lay_3  post n v1_2 v4_2 m_2) post n_3 v1 v4 0 m)))
set_option maxRecDepth 100000 in
theorem pf_X5_lay_3 {l : Launch} {x : WX} {G : GT} {post : Mem → Prop}  (X : Ax l x cX5_lay RX5 7 (rmd 0) 67 G) (hr : RV cX5_lay post G) : ∀ (n : Nat) (v1 : Int) (v4 : Int) (m : Mem) (_ : wp_X5_lay_3  post n v1 v4 m), G 3 [(0, (2, 43)), (1, (1, v1)), (3, (2, 1)), (4, (0, v4))] [] m := by
  intro n
  induction n with
  | zero => intro v1 v4 m h; exact absurd h id
  | succ n ih =>
  intro v1 v4 m h
  unfold wp_X5_lay_3 at h
  refine g_iload 3 (i := 4) X dX5_lay_3 rfl ?_
  refine g_aload_n 2 (i := 3) X dX5_lay_5 rfl rfl ?_
  refine g_getI X dX5_lay_6 fX5_60 ?_
  refine g_icmp_ge X dX5_lay_9 (tgt := 76) (by decide) (fun hc => ?_) (fun hc => ?_)
  · have h := h.1 hc
    exact hr _ _ _ _ dX5_lay_76 h
  · have h := h.2 hc
    refine g_iconst X dX5_lay_12 (by decide) ?_
    refine g_istore (i := 5) (lv' := [(5, (0, 0)), (0, (2, 43)), (1, (1, v1)), (3, (2, 1)), (4, (0, v4))]) X dX5_lay_13 (by decide) rfl ?_
    obtain ⟨n_3, h⟩ := h
    refine g_sub X [1, 2, 3, 4, 0] rfl (pf_X5_lay_15 X hr (fun v1_2 v4_2 m_2 h => ?_) n_3 _ _ _ _ h)
    · exact g_sub X [0, 1, 2, 3] rfl (ih _ _ _ h)
def wp_X5_lay (v1 : Int) (m : Mem) (post : Mem → Prop) : Prop :=
  ∃ n_4 : Nat, wp_X5_lay_3  post n_4 v1 0 m
set_option maxRecDepth 100000 in
theorem pf_X5_lay {l : Launch} {x : WX} {G : GT} {post : Mem → Prop} (X : Ax l x cX5_lay RX5 7 (rmd 0) 67 G) (hr : RV cX5_lay post G) (v1 : Int) (m : Mem) (h : wp_X5_lay v1 m post) : G 0 [(0, (2, 43)), (1, (1, v1)), (3, (2, 1))] [] m := by
  unfold wp_X5_lay at h
  refine g_iconst X dX5_lay_0 (by decide) ?_
  refine g_istore (i := 4) (lv' := [(4, (0, 0)), (0, (2, 43)), (1, (1, v1)), (3, (2, 1))]) X dX5_lay_1 (by decide) rfl ?_
  obtain ⟨n_4, h⟩ := h
  refine g_sub X [1, 2, 3, 0] rfl (pf_X5_lay_3 X hr  n_4 _ _ _ h)
theorem im_X5_lay (l : Launch) (x : WX) (v1 : Int) (m : Mem) (post : Mem → Prop) (h : wp_X5_lay v1 m post) : MetV l x 67 0 yX5_lay cX5_lay 7 [(2, 43), (1, v1), (2, 1)] m post := met_V (by decide) (Nat.le_of_ble_eq_true rfl) (fun _ X hr => pf_X5_lay X hr v1 m h)
def wp_X5_costOf_88 (v4 : Int) (v5 : Int) (v6 : Int) (v7 : Int) (m : Mem) (K39 : Int → Int → Int → Mem → Prop) (post : Int → Mem → Prop) : Prop :=
  ((v7 ≤ 0 → (∀ v4_116 : Int, v4_116 = w32 (v4 + 0) → (K39 v4_116 v5 (w32 (v6 + 1)) m))) ∧
  (¬ v7 ≤ 0 → ((0 ≤ w32 (w32 (v5 * 8) + v6) ∧ w32 (w32 (v5 * 8) + v6) < 64) ∧ (∀ v4_116 : Int, v4_116 = w32 (v4 + w32 (v7 * m 46 (w32 (w32 (v5 * 8) + v6)))) → (K39 v4_116 v5 (w32 (v6 + 1)) m)))))
set_option maxRecDepth 100000 in
theorem pf_X5_costOf_88 {l : Launch} {x : WX} {G : GT} {post : Int → Mem → Prop} {K39 : Int → Int → Int → Mem → Prop} (X : Ax l x cX5_costOf RX5 8 (rmd 2) 67 G) (hr : RI cX5_costOf post G) (hK39 : ∀ (v4 : Int) (v5 : Int) (v6 : Int) (m : Mem), K39 v4 v5 v6 m → G 39 [(0, (2, 43)), (3, (2, 1)), (4, (0, v4)), (5, (0, v5)), (6, (0, v6))] [] m) (v4 : Int) (v5 : Int) (v6 : Int) (v7 : Int) (m : Mem) (h : wp_X5_costOf_88 v4 v5 v6 v7 m K39 post) : G 88 [(0, (2, 43)), (3, (2, 1)), (4, (0, v4)), (5, (0, v5)), (6, (0, v6)), (7, (0, v7))] [] m := by
  unfold wp_X5_costOf_88 at h
  refine g_iload 2 (i := 4) X dX5_costOf_88 rfl ?_
  refine g_iload 5 (i := 7) X dX5_costOf_90 rfl ?_
  refine g_if_le X dX5_costOf_92 (tgt := 114) (by decide) (fun hc => ?_) (fun hc => ?_)
  · have h := h.1 hc
    refine g_iconst X dX5_costOf_114 (by decide) ?_
    refine g_iadd X dX5_costOf_115 ?_
    refine g_nmI (fun v4_116 ev4_116 => ?_)
    have h := h v4_116 ev4_116
    refine g_istore (i := 4) (lv' := [(4, (0, v4_116)), (0, (2, 43)), (3, (2, 1)), (5, (0, v5)), (6, (0, v6)), (7, (0, v7))]) X dX5_costOf_116 (by decide) rfl ?_
    refine g_iinc 4 (lv' := [(6, (0, w32 (v6 + 1))), (4, (0, v4_116)), (0, (2, 43)), (3, (2, 1)), (5, (0, v5)), (7, (0, v7))]) X dX5_costOf_118 rfl (by decide) rfl ?_
    refine g_goto X dX5_costOf_121 (tgt := 39) (by decide) ?_
    exact g_sub X [2, 3, 1, 4, 0] rfl (hK39 _ _ _ _ h)
  · have h := h.2 hc
    refine g_iload 5 (i := 7) X dX5_costOf_95 rfl ?_
    refine g_aload_n 0 (i := 0) X dX5_costOf_97 rfl rfl ?_
    refine g_getR X dX5_costOf_98 fX5_18 ?_
    refine g_iload 3 (i := 5) X dX5_costOf_101 rfl ?_
    refine g_bipush X dX5_costOf_103 (by decide) ?_
    refine g_imul X dX5_costOf_105 ?_
    refine g_iload 4 (i := 6) X dX5_costOf_106 rfl ?_
    refine g_iadd X dX5_costOf_108 ?_
    obtain ⟨hi, h⟩ := h
    refine g_iald X dX5_costOf_109 rfl hi ?_
    refine g_imul X dX5_costOf_110 ?_
    refine g_goto X dX5_costOf_111 (tgt := 115) (by decide) ?_
    refine g_iadd X dX5_costOf_115 ?_
    refine g_nmI (fun v4_116 ev4_116 => ?_)
    have h := h v4_116 ev4_116
    refine g_istore (i := 4) (lv' := [(4, (0, v4_116)), (0, (2, 43)), (3, (2, 1)), (5, (0, v5)), (6, (0, v6)), (7, (0, v7))]) X dX5_costOf_116 (by decide) rfl ?_
    refine g_iinc 4 (lv' := [(6, (0, w32 (v6 + 1))), (4, (0, v4_116)), (0, (2, 43)), (3, (2, 1)), (5, (0, v5)), (7, (0, v7))]) X dX5_costOf_118 rfl (by decide) rfl ?_
    refine g_goto X dX5_costOf_121 (tgt := 39) (by decide) ?_
    exact g_sub X [2, 3, 1, 4, 0] rfl (hK39 _ _ _ _ h)
def wp_X5_costOf_39 (K27 : Int → Int → Mem → Prop) (post : Int → Mem → Prop) : Nat → Int → Int → Int → Mem → Prop
  | 0, _, _, _, _ => False
  | n + 1, v4, v5, v6, m =>
  ((m 1 0 ≤ v6 → (K27 v4 (w32 (v5 + 1)) m)) ∧
  (¬ m 1 0 ≤ v6 → ((0 ≤ w32 (w32 (v5 * 8) + v6) ∧ w32 (w32 (v5 * 8) + v6) < 64) ∧ (∀ v7_61 : Int, v7_61 = m 44 (w32 (w32 (v5 * 8) + v6)) → (((v7_61 ≤ 0 → (wp_X5_costOf_88 v4 v5 v6 v7_61 m (fun v4_4 v5_4 v6_4 m_4 => wp_X5_costOf_39 K27 post n v4_4 v5_4 v6_4 m_4) post)) ∧
  (¬ v7_61 ≤ 0 → ((0 ≤ w32 (w32 (v5 * 8) + v6) ∧ w32 (w32 (v5 * 8) + v6) < 64) ∧ (((m 46 (w32 (w32 (v5 * 8) + v6)) < 1000000 → (wp_X5_costOf_88 v4 v5 v6 v7_61 m (fun v4_5 v5_5 v6_5 m_5 => wp_X5_costOf_39 K27 post n v4_5 v5_5 v6_5 m_5) post)) ∧
  (¬ m 46 (w32 (w32 (v5 * 8) + v6)) < 1000000 → (post (-1) m))))))))))))
set_option maxRecDepth 100000 in
theorem pf_X5_costOf_39 {l : Launch} {x : WX} {G : GT} {post : Int → Mem → Prop} {K27 : Int → Int → Mem → Prop} (X : Ax l x cX5_costOf RX5 8 (rmd 2) 67 G) (hr : RI cX5_costOf post G) (hK27 : ∀ (v4 : Int) (v5 : Int) (m : Mem), K27 v4 v5 m → G 27 [(0, (2, 43)), (3, (2, 1)), (4, (0, v4)), (5, (0, v5))] [] m) : ∀ (n : Nat) (v4 : Int) (v5 : Int) (v6 : Int) (m : Mem) (_ : wp_X5_costOf_39 K27 post n v4 v5 v6 m), G 39 [(0, (2, 43)), (3, (2, 1)), (4, (0, v4)), (5, (0, v5)), (6, (0, v6))] [] m := by
  intro n
  induction n with
  | zero => intro v4 v5 v6 m h; exact absurd h id
  | succ n ih =>
  intro v4 v5 v6 m h
  unfold wp_X5_costOf_39 at h
  refine g_iload 4 (i := 6) X dX5_costOf_39 rfl ?_
  refine g_aload_n 1 (i := 3) X dX5_costOf_41 rfl rfl ?_
  refine g_getI X dX5_costOf_42 fX5_60 ?_
  refine g_icmp_ge X dX5_costOf_45 (tgt := 124) (by decide) (fun hc => ?_) (fun hc => ?_)
  · have h := h.1 hc
    refine g_iinc 3 (lv' := [(5, (0, w32 (v5 + 1))), (0, (2, 43)), (3, (2, 1)), (4, (0, v4)), (6, (0, v6))]) X dX5_costOf_124 rfl (by decide) rfl ?_
    refine g_goto X dX5_costOf_127 (tgt := 27) (by decide) ?_
    exact g_sub X [1, 2, 3, 0] rfl (hK27 _ _ _ h)
  · have h := h.2 hc
    refine g_aload_n 0 (i := 0) X dX5_costOf_48 rfl rfl ?_
    refine g_getR X dX5_costOf_49 fX5_9 ?_
    refine g_iload 3 (i := 5) X dX5_costOf_52 rfl ?_
    refine g_bipush X dX5_costOf_54 (by decide) ?_
    refine g_imul X dX5_costOf_56 ?_
    refine g_iload 4 (i := 6) X dX5_costOf_57 rfl ?_
    refine g_iadd X dX5_costOf_59 ?_
    obtain ⟨hi, h⟩ := h
    refine g_iald X dX5_costOf_60 rfl hi ?_
    refine g_nmI (fun v7_61 ev7_61 => ?_)
    have h := h v7_61 ev7_61
    refine g_istore (i := 7) (lv' := [(7, (0, v7_61)), (0, (2, 43)), (3, (2, 1)), (4, (0, v4)), (5, (0, v5)), (6, (0, v6))]) X dX5_costOf_61 (by decide) rfl ?_
    refine g_iload 0 (i := 7) X dX5_costOf_63 rfl ?_
    refine g_if_le X dX5_costOf_65 (tgt := 88) (by decide) (fun hc => ?_) (fun hc => ?_)
    · have h := h.1 hc
      refine g_sub X [1, 2, 3, 4, 5, 0] rfl (pf_X5_costOf_88 X hr (fun v4_4 v5_4 v6_4 m_4 h => ?_) _ _ _ _ _ h)
      · exact g_sub X [0, 1, 2, 3, 4] rfl (ih _ _ _ _ h)
    · have h := h.2 hc
      refine g_aload_n 1 (i := 0) X dX5_costOf_68 rfl rfl ?_
      refine g_getR X dX5_costOf_69 fX5_18 ?_
      refine g_iload 4 (i := 5) X dX5_costOf_72 rfl ?_
      refine g_bipush X dX5_costOf_74 (by decide) ?_
      refine g_imul X dX5_costOf_76 ?_
      refine g_iload 5 (i := 6) X dX5_costOf_77 rfl ?_
      refine g_iadd X dX5_costOf_79 ?_
      obtain ⟨hi, h⟩ := h
      refine g_iald X dX5_costOf_80 rfl hi ?_
      refine g_ldc X dX5_costOf_81 (by unfold r32; omega) kX5_69 ?_
      refine g_icmp_lt X dX5_costOf_83 (tgt := 88) (by decide) (fun hc => ?_) (fun hc => ?_)
      · have h := h.1 hc
        refine g_sub X [1, 2, 3, 4, 5, 0] rfl (pf_X5_costOf_88 X hr (fun v4_5 v5_5 v6_5 m_5 h => ?_) _ _ _ _ _ h)
        · exact g_sub X [0, 1, 2, 3, 4] rfl (ih _ _ _ _ h)
      · have h := h.2 hc
        refine g_iconst X dX5_costOf_86 (by decide) ?_
        exact hr _ _ _ _ _ dX5_costOf_87 h
def wp_X5_costOf_27  (post : Int → Mem → Prop) : Nat → Int → Int → Mem → Prop
  | 0, _, _, _ => False
  | n + 1, v4, v5, m =>
  ((m 1 0 ≤ v5 → (post v4 m)) ∧
  (¬ m 1 0 ≤ v5 → (∃ n_7 : Nat, wp_X5_costOf_39 (fun v4_6 v5_6 m_6 => wp_X5_costOf_27  post n v4_6 v5_6 m_6) post n_7 v4 v5 0 m)))
set_option maxRecDepth 100000 in
theorem pf_X5_costOf_27 {l : Launch} {x : WX} {G : GT} {post : Int → Mem → Prop}  (X : Ax l x cX5_costOf RX5 8 (rmd 2) 67 G) (hr : RI cX5_costOf post G) : ∀ (n : Nat) (v4 : Int) (v5 : Int) (m : Mem) (_ : wp_X5_costOf_27  post n v4 v5 m), G 27 [(0, (2, 43)), (3, (2, 1)), (4, (0, v4)), (5, (0, v5))] [] m := by
  intro n
  induction n with
  | zero => intro v4 v5 m h; exact absurd h id
  | succ n ih =>
  intro v4 v5 m h
  unfold wp_X5_costOf_27 at h
  refine g_iload 3 (i := 5) X dX5_costOf_27 rfl ?_
  refine g_aload_n 1 (i := 3) X dX5_costOf_29 rfl rfl ?_
  refine g_getI X dX5_costOf_30 fX5_60 ?_
  refine g_icmp_ge X dX5_costOf_33 (tgt := 130) (by decide) (fun hc => ?_) (fun hc => ?_)
  · have h := h.1 hc
    refine g_iload 2 (i := 4) X dX5_costOf_130 rfl ?_
    exact hr _ _ _ _ _ dX5_costOf_132 h
  · have h := h.2 hc
    refine g_iconst X dX5_costOf_36 (by decide) ?_
    refine g_istore (i := 6) (lv' := [(6, (0, 0)), (0, (2, 43)), (3, (2, 1)), (4, (0, v4)), (5, (0, v5))]) X dX5_costOf_37 (by decide) rfl ?_
    obtain ⟨n_7, h⟩ := h
    refine g_sub X [1, 2, 3, 4, 0] rfl (pf_X5_costOf_39 X hr (fun v4_6 v5_6 m_6 h => ?_) n_7 _ _ _ _ h)
    · exact g_sub X [0, 1, 2, 3] rfl (ih _ _ _ h)
def wp_X5_costOf (v1 : Int) (m : Mem) (post : Int → Mem → Prop) : Prop :=
  wp_X5_lay v1 m (fun m3 => wp_X3_shorten 46 (m3 1 0) (m3 43 0) m3 (fun m18 => ∃ n_8 : Nat, wp_X5_costOf_27  post n_8 0 0 m18))
set_option maxRecDepth 100000 in
theorem pf_X5_costOf {l : Launch} {x : WX} {G : GT} {post : Int → Mem → Prop} (X : Ax l x cX5_costOf RX5 8 (rmd 2) 67 G) (hr : RI cX5_costOf post G) (v1 : Int) (m : Mem) (h : wp_X5_costOf v1 m post) : G 0 [(0, (2, 43)), (1, (1, v1)), (3, (2, 1))] [] m := by
  unfold wp_X5_costOf at h
  refine g_aload_n 0 (i := 0) X dX5_costOf_0 rfl rfl ?_
  refine g_lload_n 1 (i := 1) X dX5_costOf_1 rfl rfl ?_
  refine g_aload_n 2 (i := 3) X dX5_costOf_2 rfl rfl ?_
  refine g_cVV (st := []) X dX5_costOf_3 YX5_lay lX5_56 (by decide) (im_X5_lay l x _ _ _ h) rfl ⟨by decide, by decide⟩ rfl (Nat.le_of_ble_eq_true rfl) (fun m3 h => ?_)
  refine g_aload_n 0 (i := 0) X dX5_costOf_6 rfl rfl ?_
  refine g_getR X dX5_costOf_7 fX5_18 ?_
  refine g_aload_n 2 (i := 3) X dX5_costOf_10 rfl rfl ?_
  refine g_getI X dX5_costOf_11 fX5_60 ?_
  refine g_aload_n 0 (i := 0) X dX5_costOf_14 rfl rfl ?_
  refine g_getI X dX5_costOf_15 fX5_21 ?_
  refine g_cSV (st := []) X dX5_costOf_18 YX3_shorten lX5_65 (by decide) (im_X3_shorten l x _ _ _ _ _ h) rfl ⟨by decide, by decide⟩ rfl (Nat.le_of_ble_eq_true rfl) (fun m18 h => ?_)
  refine g_iconst X dX5_costOf_21 (by decide) ?_
  refine g_istore (i := 4) (lv' := [(4, (0, 0)), (0, (2, 43)), (1, (1, v1)), (3, (2, 1))]) X dX5_costOf_22 (by decide) rfl ?_
  refine g_iconst X dX5_costOf_24 (by decide) ?_
  refine g_istore (i := 5) (lv' := [(5, (0, 0)), (4, (0, 0)), (0, (2, 43)), (1, (1, v1)), (3, (2, 1))]) X dX5_costOf_25 (by decide) rfl ?_
  obtain ⟨n_8, h⟩ := h
  refine g_sub X [2, 4, 1, 0] rfl (pf_X5_costOf_27 X hr  n_8 _ _ _ h)
theorem im_X5_costOf (l : Launch) (x : WX) (v1 : Int) (m : Mem) (post : Int → Mem → Prop) (h : wp_X5_costOf v1 m post) : MetI l x 67 2 yX5_costOf cX5_costOf 8 .int [(2, 43), (1, v1), (2, 1)] m post := met_I (by decide) (Nat.le_of_ble_eq_true rfl) (fun _ X hr => pf_X5_costOf X hr v1 m h)
def wp_X5_netOf_5  (post : Int → Mem → Prop) : Nat → Int → Int → Int → Int → Mem → Prop
  | 0, _, _, _, _, _ => False
  | n + 1, v0, v1, v2, v4, m =>
  ((v1 ≤ v4 → (post v2 m)) ∧
  (¬ v1 ≤ v4 → (∀ v5_27 : Int, v5_27 = and32 (shr32 v0 (w32 (v4 * w32 (v1 - 1)))) (w32 (shl32 1 (w32 (v1 - 1)) - 1)) → (∀ v6_38 : Int, v6_38 = and32 v5_27 (w32 (shl32 1 v4 - 1)) → (∀ v7_50 : Int, v7_50 = shl32 (shr32 v5_27 v4) (w32 (v4 + 1)) → (∀ v2_66 : Int, v2_66 = or64 v2 (shl64 (or32 v6_38 v7_50) (w32 (v4 * 8))) → (wp_X5_netOf_5  post n v0 v1 v2_66 (w32 (v4 + 1)) m)))))))
set_option maxRecDepth 100000 in
theorem pf_X5_netOf_5 {l : Launch} {x : WX} {G : GT} {post : Int → Mem → Prop}  (X : Ax l x cX5_netOf RX5 8 (rmd 0) 67 G) (hr : RJ cX5_netOf post G) : ∀ (n : Nat) (v0 : Int) (v1 : Int) (v2 : Int) (v4 : Int) (m : Mem) (_ : wp_X5_netOf_5  post n v0 v1 v2 v4 m), G 5 [(0, (0, v0)), (1, (0, v1)), (2, (1, v2)), (4, (0, v4))] [] m := by
  intro n
  induction n with
  | zero => intro v0 v1 v2 v4 m h; exact absurd h id
  | succ n ih =>
  intro v0 v1 v2 v4 m h
  unfold wp_X5_netOf_5 at h
  refine g_iload 3 (i := 4) X dX5_netOf_5 rfl ?_
  refine g_iload_n 1 (i := 1) X dX5_netOf_7 rfl rfl ?_
  refine g_icmp_ge X dX5_netOf_8 (tgt := 73) (by decide) (fun hc => ?_) (fun hc => ?_)
  · have h := h.1 hc
    refine g_lload_n 2 (i := 2) X dX5_netOf_73 rfl rfl ?_
    exact hr _ _ _ _ _ dX5_netOf_74 h
  · have h := h.2 hc
    refine g_iload_n 0 (i := 0) X dX5_netOf_11 rfl rfl ?_
    refine g_iload 3 (i := 4) X dX5_netOf_12 rfl ?_
    refine g_iload_n 1 (i := 1) X dX5_netOf_14 rfl rfl ?_
    refine g_iconst X dX5_netOf_15 (by decide) ?_
    refine g_isub X dX5_netOf_16 ?_
    refine g_imul X dX5_netOf_17 ?_
    refine g_ishr X dX5_netOf_18 ?_
    refine g_iconst X dX5_netOf_19 (by decide) ?_
    refine g_iload_n 1 (i := 1) X dX5_netOf_20 rfl rfl ?_
    refine g_iconst X dX5_netOf_21 (by decide) ?_
    refine g_isub X dX5_netOf_22 ?_
    refine g_ishl X dX5_netOf_23 ?_
    refine g_iconst X dX5_netOf_24 (by decide) ?_
    refine g_isub X dX5_netOf_25 ?_
    refine g_iand X dX5_netOf_26 ?_
    refine g_nmI (fun v5_27 ev5_27 => ?_)
    have h := h v5_27 ev5_27
    refine g_istore (i := 5) (lv' := [(5, (0, v5_27)), (0, (0, v0)), (1, (0, v1)), (2, (1, v2)), (4, (0, v4))]) X dX5_netOf_27 (by decide) rfl ?_
    refine g_iload 0 (i := 5) X dX5_netOf_29 rfl ?_
    refine g_iconst X dX5_netOf_31 (by decide) ?_
    refine g_iload 4 (i := 4) X dX5_netOf_32 rfl ?_
    refine g_ishl X dX5_netOf_34 ?_
    refine g_iconst X dX5_netOf_35 (by decide) ?_
    refine g_isub X dX5_netOf_36 ?_
    refine g_iand X dX5_netOf_37 ?_
    refine g_nmI (fun v6_38 ev6_38 => ?_)
    have h := h v6_38 ev6_38
    refine g_istore (i := 6) (lv' := [(6, (0, v6_38)), (5, (0, v5_27)), (0, (0, v0)), (1, (0, v1)), (2, (1, v2)), (4, (0, v4))]) X dX5_netOf_38 (by decide) rfl ?_
    refine g_iload 1 (i := 5) X dX5_netOf_40 rfl ?_
    refine g_iload 5 (i := 4) X dX5_netOf_42 rfl ?_
    refine g_ishr X dX5_netOf_44 ?_
    refine g_iload 5 (i := 4) X dX5_netOf_45 rfl ?_
    refine g_iconst X dX5_netOf_47 (by decide) ?_
    refine g_iadd X dX5_netOf_48 ?_
    refine g_ishl X dX5_netOf_49 ?_
    refine g_nmI (fun v7_50 ev7_50 => ?_)
    have h := h v7_50 ev7_50
    refine g_istore (i := 7) (lv' := [(7, (0, v7_50)), (6, (0, v6_38)), (5, (0, v5_27)), (0, (0, v0)), (1, (0, v1)), (2, (1, v2)), (4, (0, v4))]) X dX5_netOf_50 (by decide) rfl ?_
    refine g_lload_n 5 (i := 2) X dX5_netOf_52 rfl rfl ?_
    refine g_iload 1 (i := 6) X dX5_netOf_53 rfl ?_
    refine g_iload 0 (i := 7) X dX5_netOf_55 rfl ?_
    refine g_ior X dX5_netOf_57 ?_
    refine g_i2l X dX5_netOf_58 ?_
    refine g_iload 6 (i := 4) X dX5_netOf_59 rfl ?_
    refine g_bipush X dX5_netOf_61 (by decide) ?_
    refine g_imul X dX5_netOf_63 ?_
    refine g_lshl X dX5_netOf_64 ?_
    refine g_lor X dX5_netOf_65 ?_
    refine g_nmI (fun v2_66 ev2_66 => ?_)
    have h := h v2_66 ev2_66
    refine g_lstore_n (i := 2) (lv' := [(2, (1, v2_66)), (7, (0, v7_50)), (6, (0, v6_38)), (5, (0, v5_27)), (0, (0, v0)), (1, (0, v1)), (4, (0, v4))]) X dX5_netOf_66 rfl (by decide) rfl ?_
    refine g_iinc 6 (lv' := [(4, (0, w32 (v4 + 1))), (2, (1, v2_66)), (7, (0, v7_50)), (6, (0, v6_38)), (5, (0, v5_27)), (0, (0, v0)), (1, (0, v1))]) X dX5_netOf_67 rfl (by decide) rfl ?_
    refine g_goto X dX5_netOf_70 (tgt := 5) (by decide) ?_
    exact g_sub X [5, 6, 1, 0] rfl (ih _ _ _ _ _ h)
def wp_X5_netOf (v0 : Int) (v1 : Int) (m : Mem) (post : Int → Mem → Prop) : Prop :=
  ∃ n_5 : Nat, wp_X5_netOf_5  post n_5 v0 v1 0 0 m
set_option maxRecDepth 100000 in
theorem pf_X5_netOf {l : Launch} {x : WX} {G : GT} {post : Int → Mem → Prop} (X : Ax l x cX5_netOf RX5 8 (rmd 0) 67 G) (hr : RJ cX5_netOf post G) (v0 : Int) (v1 : Int) (m : Mem) (h : wp_X5_netOf v0 v1 m post) : G 0 [(0, (0, v0)), (1, (0, v1))] [] m := by
  unfold wp_X5_netOf at h
  refine g_lconst0 X dX5_netOf_0 ?_
  refine g_lstore_n (i := 2) (lv' := [(2, (1, 0)), (0, (0, v0)), (1, (0, v1))]) X dX5_netOf_1 rfl (by decide) rfl ?_
  refine g_iconst X dX5_netOf_2 (by decide) ?_
  refine g_istore (i := 4) (lv' := [(4, (0, 0)), (2, (1, 0)), (0, (0, v0)), (1, (0, v1))]) X dX5_netOf_3 (by decide) rfl ?_
  obtain ⟨n_5, h⟩ := h
  refine g_sub X [2, 3, 1, 0] rfl (pf_X5_netOf_5 X hr  n_5 _ _ _ _ _ h)
theorem im_X5_netOf (l : Launch) (x : WX) (v0 : Int) (v1 : Int) (m : Mem) (post : Int → Mem → Prop) (h : wp_X5_netOf v0 v1 m post) : MetJ l x 67 0 yX5_netOf cX5_netOf 8 [(0, v0), (0, v1)] m post := met_J (by decide) (Nat.le_of_ble_eq_true rfl) (fun _ X hr => pf_X5_netOf X hr v0 v1 m h)
def wp_X5_weigh_25 (v1 : Int) (v3 : Int) (s0 : Int) (m : Mem)  (post : Mem → Prop) : Prop :=
  ((m 43 3 = (-1) → (∀ m58 : Mem, m58 = mset m 43 3 v3 → (∀ m63 : Mem, m63 = mset m58 43 4 v1 → (post m63)))) ∧
  (¬ m 43 3 = (-1) → (((v3 < m 43 3 → (∀ m58 : Mem, m58 = mset m 43 3 v3 → (∀ m63 : Mem, m63 = mset m58 43 4 v1 → (post m63)))) ∧
  (¬ v3 < m 43 3 → (((¬ v3 = m 43 3 → (post m)) ∧
  (v3 = m 43 3 → (((s0 = 0 → (post m)) ∧
  (¬ s0 = 0 → (∀ m58 : Mem, m58 = mset m 43 3 v3 → (∀ m63 : Mem, m63 = mset m58 43 4 v1 → (post m63))))))))))))))
set_option maxRecDepth 100000 in
theorem pf_X5_weigh_25 {l : Launch} {x : WX} {G : GT} {post : Mem → Prop}  (X : Ax l x cX5_weigh RX5 5 (rmd 1) 67 G) (hr : RV cX5_weigh post G) (v1 : Int) (v3 : Int) (s0 : Int) (m : Mem) (h : wp_X5_weigh_25 v1 v3 s0 m  post) : G 25 [(0, (2, 43)), (1, (1, v1)), (3, (0, v3))] [(0, s0)] m := by
  unfold wp_X5_weigh_25 at h
  refine g_istore (i := 4) (lv' := [(4, (0, s0)), (0, (2, 43)), (1, (1, v1)), (3, (0, v3))]) X dX5_weigh_25 (by decide) rfl ?_
  refine g_aload_n 1 (i := 0) X dX5_weigh_27 rfl rfl ?_
  refine g_getI X dX5_weigh_28 fX5_73 ?_
  refine g_iconst X dX5_weigh_31 (by decide) ?_
  refine g_icmp_eq X dX5_weigh_32 (tgt := 56) (by decide) (fun hc => ?_) (fun hc => ?_)
  · have h := h.1 hc
    refine g_aload_n 1 (i := 0) X dX5_weigh_56 rfl rfl ?_
    refine g_iload_n 3 (i := 3) X dX5_weigh_57 rfl rfl ?_
    refine g_putI X dX5_weigh_58 pX5_73 (fun m58 em58 => ?_)
    have h := h m58 em58
    refine g_aload_n 1 (i := 0) X dX5_weigh_61 rfl rfl ?_
    refine g_lload_n 2 (i := 1) X dX5_weigh_62 rfl rfl ?_
    refine g_putJ X dX5_weigh_63 pX5_76 (fun m63 em63 => ?_)
    have h := h m63 em63
    exact hr _ _ _ _ dX5_weigh_66 h
  · have h := h.2 hc
    refine g_iload_n 3 (i := 3) X dX5_weigh_35 rfl rfl ?_
    refine g_aload_n 1 (i := 0) X dX5_weigh_36 rfl rfl ?_
    refine g_getI X dX5_weigh_37 fX5_73 ?_
    refine g_icmp_lt X dX5_weigh_40 (tgt := 56) (by decide) (fun hc => ?_) (fun hc => ?_)
    · have h := h.1 hc
      refine g_aload_n 1 (i := 0) X dX5_weigh_56 rfl rfl ?_
      refine g_iload_n 3 (i := 3) X dX5_weigh_57 rfl rfl ?_
      refine g_putI X dX5_weigh_58 pX5_73 (fun m58 em58 => ?_)
      have h := h m58 em58
      refine g_aload_n 1 (i := 0) X dX5_weigh_61 rfl rfl ?_
      refine g_lload_n 2 (i := 1) X dX5_weigh_62 rfl rfl ?_
      refine g_putJ X dX5_weigh_63 pX5_76 (fun m63 em63 => ?_)
      have h := h m63 em63
      exact hr _ _ _ _ dX5_weigh_66 h
    · have h := h.2 hc
      refine g_iload_n 3 (i := 3) X dX5_weigh_43 rfl rfl ?_
      refine g_aload_n 1 (i := 0) X dX5_weigh_44 rfl rfl ?_
      refine g_getI X dX5_weigh_45 fX5_73 ?_
      refine g_icmp_ne X dX5_weigh_48 (tgt := 66) (by decide) (fun hc => ?_) (fun hc => ?_)
      · have h := h.1 hc
        exact hr _ _ _ _ dX5_weigh_66 h
      · have h := h.2 hc
        refine g_iload 0 (i := 4) X dX5_weigh_51 rfl ?_
        refine g_if_eq X dX5_weigh_53 (tgt := 66) (by decide) (fun hc => ?_) (fun hc => ?_)
        · have h := h.1 hc
          exact hr _ _ _ _ dX5_weigh_66 h
        · have h := h.2 hc
          refine g_aload_n 1 (i := 0) X dX5_weigh_56 rfl rfl ?_
          refine g_iload_n 3 (i := 3) X dX5_weigh_57 rfl rfl ?_
          refine g_putI X dX5_weigh_58 pX5_73 (fun m58 em58 => ?_)
          have h := h m58 em58
          refine g_aload_n 1 (i := 0) X dX5_weigh_61 rfl rfl ?_
          refine g_lload_n 2 (i := 1) X dX5_weigh_62 rfl rfl ?_
          refine g_putJ X dX5_weigh_63 pX5_76 (fun m63 em63 => ?_)
          have h := h m63 em63
          exact hr _ _ _ _ dX5_weigh_66 h
def wp_X5_weigh (v1 : Int) (v3 : Int) (m : Mem) (post : Mem → Prop) : Prop :=
  ((¬ v3 = (-1) → (wp_J13_bitCount_95d88 v1 m (fun r7 m7 => wp_J13_bitCount_95d88 (m7 43 4) m7 (fun r14 m14 => ((r14 ≤ r7 → (wp_X5_weigh_25 v1 v3 0 m14  post)) ∧
  (¬ r14 ≤ r7 → (wp_X5_weigh_25 v1 v3 1 m14  post))))))) ∧
  (v3 = (-1) → (post m)))
set_option maxRecDepth 100000 in
theorem pf_X5_weigh {l : Launch} {x : WX} {G : GT} {post : Mem → Prop} (X : Ax l x cX5_weigh RX5 5 (rmd 1) 67 G) (hr : RV cX5_weigh post G) (v1 : Int) (v3 : Int) (m : Mem) (h : wp_X5_weigh v1 v3 m post) : G 0 [(0, (2, 43)), (1, (1, v1)), (3, (0, v3))] [] m := by
  unfold wp_X5_weigh at h
  refine g_iload_n 2 (i := 3) X dX5_weigh_0 rfl rfl ?_
  refine g_iconst X dX5_weigh_1 (by decide) ?_
  refine g_icmp_ne X dX5_weigh_2 (tgt := 6) (by decide) (fun hc => ?_) (fun hc => ?_)
  · have h := h.1 hc
    refine g_lload_n 1 (i := 1) X dX5_weigh_6 rfl rfl ?_
    refine g_cSI (st := []) X dX5_weigh_7 YJ13_bitCount_95d88 lX5_50 (by decide) (im_J13_bitCount_95d88 l x _ _ _ h) rfl ⟨by decide, by decide⟩ rfl (Nat.le_of_ble_eq_true rfl) (fun r7 m7 h => ?_)
    refine g_aload_n 0 (i := 0) X dX5_weigh_10 rfl rfl ?_
    refine g_getJ X dX5_weigh_11 fX5_76 ?_
    refine g_cSI (st := [(0, r7)]) X dX5_weigh_14 YJ13_bitCount_95d88 lX5_50 (by decide) (im_J13_bitCount_95d88 l x _ _ _ h) rfl ⟨by decide, by decide⟩ rfl (Nat.le_of_ble_eq_true rfl) (fun r14 m14 h => ?_)
    refine g_icmp_ge X dX5_weigh_17 (tgt := 24) (by decide) (fun hc => ?_) (fun hc => ?_)
    · have h := h.1 hc
      refine g_iconst X dX5_weigh_24 (by decide) ?_
      refine g_sub X [0, 1, 2] rfl (pf_X5_weigh_25 X hr  _ _ _ _ h)
    · have h := h.2 hc
      refine g_iconst X dX5_weigh_20 (by decide) ?_
      refine g_goto X dX5_weigh_21 (tgt := 25) (by decide) ?_
      refine g_sub X [0, 1, 2] rfl (pf_X5_weigh_25 X hr  _ _ _ _ h)
  · have h := h.2 hc
    exact hr _ _ _ _ dX5_weigh_5 h
theorem im_X5_weigh (l : Launch) (x : WX) (v1 : Int) (v3 : Int) (m : Mem) (post : Mem → Prop) (h : wp_X5_weigh v1 v3 m post) : MetV l x 67 1 yX5_weigh cX5_weigh 5 [(2, 43), (1, v1), (0, v3)] m post := met_V (by decide) (Nat.le_of_ble_eq_true rfl) (fun _ X hr => pf_X5_weigh X hr v1 v3 m h)
def wp_X5_findBest_42  (post : Mem → Prop) : Nat → Int → Int → Mem → Prop
  | 0, _, _, _ => False
  | n + 1, v2, v3, m =>
  ((shl32 1 v2 ≤ v3 → (∀ m93 : Mem, m93 = mset m 43 5 1 → (post m93))) ∧
  (¬ shl32 1 v2 ≤ v3 → (wp_X5_netOf v3 (m 1 0) m (fun r54 m54 => wp_X5_fitsTracks r54 (m54 1 0) m54 (fun r66 m66 => ((r66 = 0 → (wp_X5_findBest_42  post n v2 (w32 (v3 + 1)) m66)) ∧
  (¬ r66 = 0 → (wp_X5_costOf r54 m66 (fun r79 m79 => wp_X5_weigh r54 r79 m79 (fun m82 => wp_X5_findBest_42  post n v2 (w32 (v3 + 1)) m82))))))))))
set_option maxRecDepth 100000 in
theorem pf_X5_findBest_42 {l : Launch} {x : WX} {G : GT} {post : Mem → Prop}  (X : Ax l x cX5_findBest RX5 6 (rmd 3) 67 G) (hr : RV cX5_findBest post G) : ∀ (n : Nat) (v2 : Int) (v3 : Int) (m : Mem) (_ : wp_X5_findBest_42  post n v2 v3 m), G 42 [(0, (2, 43)), (1, (2, 1)), (2, (0, v2)), (3, (0, v3))] [] m := by
  intro n
  induction n with
  | zero => intro v2 v3 m h; exact absurd h id
  | succ n ih =>
  intro v2 v3 m h
  unfold wp_X5_findBest_42 at h
  refine g_iload_n 3 (i := 3) X dX5_findBest_42 rfl rfl ?_
  refine g_iconst X dX5_findBest_43 (by decide) ?_
  refine g_iload_n 2 (i := 2) X dX5_findBest_44 rfl rfl ?_
  refine g_ishl X dX5_findBest_45 ?_
  refine g_icmp_ge X dX5_findBest_46 (tgt := 91) (by decide) (fun hc => ?_) (fun hc => ?_)
  · have h := h.1 hc
    refine g_aload_n 0 (i := 0) X dX5_findBest_91 rfl rfl ?_
    refine g_iconst X dX5_findBest_92 (by decide) ?_
    refine g_putZ X dX5_findBest_93 pX5_34 (by decide) (fun m93 em93 => ?_)
    have h := h m93 em93
    exact hr _ _ _ _ dX5_findBest_96 h
  · have h := h.2 hc
    refine g_iload_n 3 (i := 3) X dX5_findBest_49 rfl rfl ?_
    refine g_aload_n 1 (i := 1) X dX5_findBest_50 rfl rfl ?_
    refine g_getI X dX5_findBest_51 fX5_60 ?_
    refine g_cSJ (st := []) X dX5_findBest_54 YX5_netOf lX5_80 (by decide) (im_X5_netOf l x _ _ _ _ h) rfl ⟨by decide, by decide⟩ rfl (Nat.le_of_ble_eq_true rfl) (fun r54 m54 h => ?_)
    refine g_lstore (i := 4) (lv' := [(4, (1, r54)), (0, (2, 43)), (1, (2, 1)), (2, (0, v2)), (3, (0, v3))]) X dX5_findBest_57 (by decide) rfl ?_
    refine g_aload_n 1 (i := 0) X dX5_findBest_59 rfl rfl ?_
    refine g_lload 0 (i := 4) X dX5_findBest_60 rfl ?_
    refine g_aload_n 2 (i := 1) X dX5_findBest_62 rfl rfl ?_
    refine g_getI X dX5_findBest_63 fX5_60 ?_
    refine g_cVI (st := []) X dX5_findBest_66 YX5_fitsTracks lX5_44 (by decide) (im_X5_fitsTracks l x _ _ _ _ h) rfl ⟨by decide, by decide⟩ rfl (Nat.le_of_ble_eq_true rfl) (fun r66 m66 h => ?_)
    refine g_if_eq X dX5_findBest_69 (tgt := 85) (by decide) (fun hc => ?_) (fun hc => ?_)
    · have h := h.1 hc
      refine g_iinc 4 (lv' := [(3, (0, w32 (v3 + 1))), (4, (1, r54)), (0, (2, 43)), (1, (2, 1)), (2, (0, v2))]) X dX5_findBest_85 rfl (by decide) rfl ?_
      refine g_goto X dX5_findBest_88 (tgt := 42) (by decide) ?_
      exact g_sub X [2, 3, 4, 0] rfl (ih _ _ _ h)
    · have h := h.2 hc
      refine g_aload_n 1 (i := 0) X dX5_findBest_72 rfl rfl ?_
      refine g_lload 0 (i := 4) X dX5_findBest_73 rfl ?_
      refine g_aload_n 1 (i := 0) X dX5_findBest_75 rfl rfl ?_
      refine g_lload 0 (i := 4) X dX5_findBest_76 rfl ?_
      refine g_aload_n 2 (i := 1) X dX5_findBest_78 rfl rfl ?_
      refine g_cVI (st := [(1, r54), (2, 43)]) X dX5_findBest_79 YX5_costOf lX5_84 (by decide) (im_X5_costOf l x _ _ _ h) rfl ⟨by decide, by decide⟩ rfl (Nat.le_of_ble_eq_true rfl) (fun r79 m79 h => ?_)
      refine g_cVV (st := []) X dX5_findBest_82 YX5_weigh lX5_88 (by decide) (im_X5_weigh l x _ _ _ _ h) rfl ⟨by decide, by decide⟩ rfl (Nat.le_of_ble_eq_true rfl) (fun m82 h => ?_)
      refine g_iinc 4 (lv' := [(3, (0, w32 (v3 + 1))), (4, (1, r54)), (0, (2, 43)), (1, (2, 1)), (2, (0, v2))]) X dX5_findBest_85 rfl (by decide) rfl ?_
      refine g_goto X dX5_findBest_88 (tgt := 42) (by decide) ?_
      exact g_sub X [2, 3, 4, 0] rfl (ih _ _ _ h)
def wp_X5_findBest  (m : Mem) (post : Mem → Prop) : Prop :=
  ((¬ m 43 5 = 0 → (post m)) ∧
  (m 43 5 = 0 → (((m 1 0 ≤ 4 → (∀ m18 : Mem, m18 = mset m 43 3 (-1) → (∀ m25 : Mem, m25 = mset m18 43 4 (-1) → (∀ v2_39 : Int, v2_39 = w32 (w32 (m25 1 0 - 1) * m25 1 0) → (∃ n_2 : Nat, wp_X5_findBest_42  post n_2 v2_39 0 m25))))) ∧
  (¬ m 1 0 ≤ 4 → (post m))))))
set_option maxRecDepth 100000 in
theorem pf_X5_findBest {l : Launch} {x : WX} {G : GT} {post : Mem → Prop} (X : Ax l x cX5_findBest RX5 6 (rmd 3) 67 G) (hr : RV cX5_findBest post G)  (m : Mem) (h : wp_X5_findBest  m post) : G 0 [(0, (2, 43)), (1, (2, 1))] [] m := by
  unfold wp_X5_findBest at h
  refine g_aload_n 0 (i := 0) X dX5_findBest_0 rfl rfl ?_
  refine g_getI X dX5_findBest_1 fX5_34 ?_
  refine g_if_ne X dX5_findBest_4 (tgt := 15) (by decide) (fun hc => ?_) (fun hc => ?_)
  · have h := h.1 hc
    exact hr _ _ _ _ dX5_findBest_15 h
  · have h := h.2 hc
    refine g_aload_n 1 (i := 1) X dX5_findBest_7 rfl rfl ?_
    refine g_getI X dX5_findBest_8 fX5_60 ?_
    refine g_iconst X dX5_findBest_11 (by decide) ?_
    refine g_icmp_le X dX5_findBest_12 (tgt := 16) (by decide) (fun hc => ?_) (fun hc => ?_)
    · have h := h.1 hc
      refine g_aload_n 0 (i := 0) X dX5_findBest_16 rfl rfl ?_
      refine g_iconst X dX5_findBest_17 (by decide) ?_
      refine g_putI X dX5_findBest_18 pX5_73 (fun m18 em18 => ?_)
      have h := h m18 em18
      refine g_aload_n 0 (i := 0) X dX5_findBest_21 rfl rfl ?_
      refine g_ldc2 X dX5_findBest_22 (by unfold r64; omega) kX5_42 ?_
      refine g_putJ X dX5_findBest_25 pX5_76 (fun m25 em25 => ?_)
      have h := h m25 em25
      refine g_aload_n 1 (i := 1) X dX5_findBest_28 rfl rfl ?_
      refine g_getI X dX5_findBest_29 fX5_60 ?_
      refine g_iconst X dX5_findBest_32 (by decide) ?_
      refine g_isub X dX5_findBest_33 ?_
      refine g_aload_n 1 (i := 1) X dX5_findBest_34 rfl rfl ?_
      refine g_getI X dX5_findBest_35 fX5_60 ?_
      refine g_imul X dX5_findBest_38 ?_
      refine g_nmI (fun v2_39 ev2_39 => ?_)
      have h := h v2_39 ev2_39
      refine g_istore_n (i := 2) (lv' := [(2, (0, v2_39)), (0, (2, 43)), (1, (2, 1))]) X dX5_findBest_39 rfl (by decide) rfl ?_
      refine g_iconst X dX5_findBest_40 (by decide) ?_
      refine g_istore_n (i := 3) (lv' := [(3, (0, 0)), (2, (0, v2_39)), (0, (2, 43)), (1, (2, 1))]) X dX5_findBest_41 rfl (by decide) rfl ?_
      obtain ⟨n_2, h⟩ := h
      refine g_sub X [2, 3, 1, 0] rfl (pf_X5_findBest_42 X hr  n_2 _ _ _ h)
    · have h := h.2 hc
      exact hr _ _ _ _ dX5_findBest_15 h
theorem im_X5_findBest (l : Launch) (x : WX)  (m : Mem) (post : Mem → Prop) (h : wp_X5_findBest  m post) : MetV l x 67 3 yX5_findBest cX5_findBest 6 [(2, 43), (2, 1)] m post := met_V (by decide) (Nat.le_of_ble_eq_true rfl) (fun _ X hr => pf_X5_findBest X hr  m h)
def wp_X5_digestOnto_15 (K6 : Int → Int → Int → Mem → Prop) (post : Int → Mem → Prop) : Nat → Int → Int → Int → Int → Mem → Prop
  | 0, _, _, _, _, _ => False
  | n + 1, v3, v4, v6, v7, m =>
  ((v3 ≤ v7 → (K6 v3 v4 (w32 (v6 + 1)) m)) ∧
  (¬ v3 ≤ v7 → ((0 ≤ w32 (w32 (v6 * 8) + v7) ∧ w32 (w32 (v6 * 8) + v7) < 64) ∧ (∀ v4_42 : Int, v4_42 = w64 (w64 (31 * v4) + m 44 (w32 (w32 (v6 * 8) + v7))) → (wp_X5_digestOnto_15 K6 post n v3 v4_42 v6 (w32 (v7 + 1)) m)))))
set_option maxRecDepth 100000 in
theorem pf_X5_digestOnto_15 {l : Launch} {x : WX} {G : GT} {post : Int → Mem → Prop} {K6 : Int → Int → Int → Mem → Prop} (X : Ax l x cX5_digestOnto RX5 8 (rmd 0) 67 G) (hr : RJ cX5_digestOnto post G) (hK6 : ∀ (v3 : Int) (v4 : Int) (v6 : Int) (m : Mem), K6 v3 v4 v6 m → G 6 [(0, (2, 43)), (3, (0, v3)), (4, (1, v4)), (6, (0, v6))] [] m) : ∀ (n : Nat) (v3 : Int) (v4 : Int) (v6 : Int) (v7 : Int) (m : Mem) (_ : wp_X5_digestOnto_15 K6 post n v3 v4 v6 v7 m), G 15 [(0, (2, 43)), (3, (0, v3)), (4, (1, v4)), (6, (0, v6)), (7, (0, v7))] [] m := by
  intro n
  induction n with
  | zero => intro v3 v4 v6 v7 m h; exact absurd h id
  | succ n ih =>
  intro v3 v4 v6 v7 m h
  unfold wp_X5_digestOnto_15 at h
  refine g_iload 4 (i := 7) X dX5_digestOnto_15 rfl ?_
  refine g_iload_n 1 (i := 3) X dX5_digestOnto_17 rfl rfl ?_
  refine g_icmp_ge X dX5_digestOnto_18 (tgt := 50) (by decide) (fun hc => ?_) (fun hc => ?_)
  · have h := h.1 hc
    refine g_iinc 3 (lv' := [(6, (0, w32 (v6 + 1))), (0, (2, 43)), (3, (0, v3)), (4, (1, v4)), (7, (0, v7))]) X dX5_digestOnto_50 rfl (by decide) rfl ?_
    refine g_goto X dX5_digestOnto_53 (tgt := 6) (by decide) ?_
    exact g_sub X [1, 2, 3, 0] rfl (hK6 _ _ _ _ h)
  · have h := h.2 hc
    refine g_ldc2 X dX5_digestOnto_21 (by unfold r64; omega) kX5_92 ?_
    refine g_lload 2 (i := 4) X dX5_digestOnto_24 rfl ?_
    refine g_lmul X dX5_digestOnto_26 ?_
    refine g_aload_n 0 (i := 0) X dX5_digestOnto_27 rfl rfl ?_
    refine g_getR X dX5_digestOnto_28 fX5_9 ?_
    refine g_iload 3 (i := 6) X dX5_digestOnto_31 rfl ?_
    refine g_bipush X dX5_digestOnto_33 (by decide) ?_
    refine g_imul X dX5_digestOnto_35 ?_
    refine g_iload 4 (i := 7) X dX5_digestOnto_36 rfl ?_
    refine g_iadd X dX5_digestOnto_38 ?_
    obtain ⟨hi, h⟩ := h
    refine g_iald X dX5_digestOnto_39 rfl hi ?_
    refine g_i2l X dX5_digestOnto_40 ?_
    refine g_ladd X dX5_digestOnto_41 ?_
    refine g_nmI (fun v4_42 ev4_42 => ?_)
    have h := h v4_42 ev4_42
    refine g_lstore (i := 4) (lv' := [(4, (1, v4_42)), (0, (2, 43)), (3, (0, v3)), (6, (0, v6)), (7, (0, v7))]) X dX5_digestOnto_42 (by decide) rfl ?_
    refine g_iinc 4 (lv' := [(7, (0, w32 (v7 + 1))), (4, (1, v4_42)), (0, (2, 43)), (3, (0, v3)), (6, (0, v6))]) X dX5_digestOnto_44 rfl (by decide) rfl ?_
    refine g_goto X dX5_digestOnto_47 (tgt := 15) (by decide) ?_
    exact g_sub X [2, 3, 1, 4, 0] rfl (ih _ _ _ _ _ h)
def wp_X5_digestOnto_6 (K59 : Int → Int → Int → Mem → Prop) (post : Int → Mem → Prop) : Nat → Int → Int → Int → Mem → Prop
  | 0, _, _, _, _ => False
  | n + 1, v3, v4, v6, m =>
  ((v3 ≤ v6 → (K59 v3 v4 0 m)) ∧
  (¬ v3 ≤ v6 → (∃ n_3 : Nat, wp_X5_digestOnto_15 (fun v3_2 v4_2 v6_2 m_2 => wp_X5_digestOnto_6 K59 post n v3_2 v4_2 v6_2 m_2) post n_3 v3 v4 v6 0 m)))
set_option maxRecDepth 100000 in
theorem pf_X5_digestOnto_6 {l : Launch} {x : WX} {G : GT} {post : Int → Mem → Prop} {K59 : Int → Int → Int → Mem → Prop} (X : Ax l x cX5_digestOnto RX5 8 (rmd 0) 67 G) (hr : RJ cX5_digestOnto post G) (hK59 : ∀ (v3 : Int) (v4 : Int) (v6 : Int) (m : Mem), K59 v3 v4 v6 m → G 59 [(0, (2, 43)), (3, (0, v3)), (4, (1, v4)), (6, (0, v6))] [] m) : ∀ (n : Nat) (v3 : Int) (v4 : Int) (v6 : Int) (m : Mem) (_ : wp_X5_digestOnto_6 K59 post n v3 v4 v6 m), G 6 [(0, (2, 43)), (3, (0, v3)), (4, (1, v4)), (6, (0, v6))] [] m := by
  intro n
  induction n with
  | zero => intro v3 v4 v6 m h; exact absurd h id
  | succ n ih =>
  intro v3 v4 v6 m h
  unfold wp_X5_digestOnto_6 at h
  refine g_iload 3 (i := 6) X dX5_digestOnto_6 rfl ?_
  refine g_iload_n 1 (i := 3) X dX5_digestOnto_8 rfl rfl ?_
  refine g_icmp_ge X dX5_digestOnto_9 (tgt := 56) (by decide) (fun hc => ?_) (fun hc => ?_)
  · have h := h.1 hc
    refine g_iconst X dX5_digestOnto_56 (by decide) ?_
    refine g_istore (i := 6) (lv' := [(6, (0, 0)), (0, (2, 43)), (3, (0, v3)), (4, (1, v4))]) X dX5_digestOnto_57 (by decide) rfl ?_
    exact g_sub X [1, 2, 3, 0] rfl (hK59 _ _ _ _ h)
  · have h := h.2 hc
    refine g_iconst X dX5_digestOnto_12 (by decide) ?_
    refine g_istore (i := 7) (lv' := [(7, (0, 0)), (0, (2, 43)), (3, (0, v3)), (4, (1, v4)), (6, (0, v6))]) X dX5_digestOnto_13 (by decide) rfl ?_
    obtain ⟨n_3, h⟩ := h
    refine g_sub X [1, 2, 3, 4, 0] rfl (pf_X5_digestOnto_15 X hr (fun v3_2 v4_2 v6_2 m_2 h => ?_) n_3 _ _ _ _ _ h)
    · exact g_sub X [0, 1, 2, 3] rfl (ih _ _ _ _ h)
def wp_X5_digestOnto_59  (post : Int → Mem → Prop) : Nat → Int → Int → Int → Mem → Prop
  | 0, _, _, _, _ => False
  | n + 1, v3, v4, v6, m =>
  ((v3 ≤ v6 → (post v4 m)) ∧
  (¬ v3 ≤ v6 → ((0 ≤ v6 ∧ v6 < 8) ∧ (∀ v4_80 : Int, v4_80 = w64 (w64 (31 * v4) + m 45 v6) → (wp_X5_digestOnto_59  post n v3 v4_80 (w32 (v6 + 1)) m)))))
set_option maxRecDepth 100000 in
theorem pf_X5_digestOnto_59 {l : Launch} {x : WX} {G : GT} {post : Int → Mem → Prop}  (X : Ax l x cX5_digestOnto RX5 8 (rmd 0) 67 G) (hr : RJ cX5_digestOnto post G) : ∀ (n : Nat) (v3 : Int) (v4 : Int) (v6 : Int) (m : Mem) (_ : wp_X5_digestOnto_59  post n v3 v4 v6 m), G 59 [(0, (2, 43)), (3, (0, v3)), (4, (1, v4)), (6, (0, v6))] [] m := by
  intro n
  induction n with
  | zero => intro v3 v4 v6 m h; exact absurd h id
  | succ n ih =>
  intro v3 v4 v6 m h
  unfold wp_X5_digestOnto_59 at h
  refine g_iload 3 (i := 6) X dX5_digestOnto_59 rfl ?_
  refine g_iload_n 1 (i := 3) X dX5_digestOnto_61 rfl rfl ?_
  refine g_icmp_ge X dX5_digestOnto_62 (tgt := 88) (by decide) (fun hc => ?_) (fun hc => ?_)
  · have h := h.1 hc
    refine g_lload 2 (i := 4) X dX5_digestOnto_88 rfl ?_
    exact hr _ _ _ _ _ dX5_digestOnto_90 h
  · have h := h.2 hc
    refine g_ldc2 X dX5_digestOnto_65 (by unfold r64; omega) kX5_92 ?_
    refine g_lload 2 (i := 4) X dX5_digestOnto_68 rfl ?_
    refine g_lmul X dX5_digestOnto_70 ?_
    refine g_aload_n 0 (i := 0) X dX5_digestOnto_71 rfl rfl ?_
    refine g_getR X dX5_digestOnto_72 fX5_15 ?_
    refine g_iload 3 (i := 6) X dX5_digestOnto_75 rfl ?_
    obtain ⟨hi, h⟩ := h
    refine g_iald X dX5_digestOnto_77 rfl hi ?_
    refine g_i2l X dX5_digestOnto_78 ?_
    refine g_ladd X dX5_digestOnto_79 ?_
    refine g_nmI (fun v4_80 ev4_80 => ?_)
    have h := h v4_80 ev4_80
    refine g_lstore (i := 4) (lv' := [(4, (1, v4_80)), (0, (2, 43)), (3, (0, v3)), (6, (0, v6))]) X dX5_digestOnto_80 (by decide) rfl ?_
    refine g_iinc 3 (lv' := [(6, (0, w32 (v6 + 1))), (4, (1, v4_80)), (0, (2, 43)), (3, (0, v3))]) X dX5_digestOnto_82 rfl (by decide) rfl ?_
    refine g_goto X dX5_digestOnto_85 (tgt := 59) (by decide) ?_
    exact g_sub X [2, 3, 1, 0] rfl (ih _ _ _ _ h)
def wp_X5_digestOnto (v1 : Int) (v3 : Int) (m : Mem) (post : Int → Mem → Prop) : Prop :=
  ∃ n_7 : Nat, wp_X5_digestOnto_6 (fun v3_4 v4_4 v6_4 m_4 => ∃ n_6 : Nat, wp_X5_digestOnto_59  post n_6 v3_4 v4_4 v6_4 m_4) post n_7 v3 v1 0 m
set_option maxRecDepth 100000 in
theorem pf_X5_digestOnto {l : Launch} {x : WX} {G : GT} {post : Int → Mem → Prop} (X : Ax l x cX5_digestOnto RX5 8 (rmd 0) 67 G) (hr : RJ cX5_digestOnto post G) (v1 : Int) (v3 : Int) (m : Mem) (h : wp_X5_digestOnto v1 v3 m post) : G 0 [(0, (2, 43)), (1, (1, v1)), (3, (0, v3))] [] m := by
  unfold wp_X5_digestOnto at h
  refine g_lload_n 1 (i := 1) X dX5_digestOnto_0 rfl rfl ?_
  refine g_lstore (i := 4) (lv' := [(4, (1, v1)), (0, (2, 43)), (1, (1, v1)), (3, (0, v3))]) X dX5_digestOnto_1 (by decide) rfl ?_
  refine g_iconst X dX5_digestOnto_3 (by decide) ?_
  refine g_istore (i := 6) (lv' := [(6, (0, 0)), (4, (1, v1)), (0, (2, 43)), (1, (1, v1)), (3, (0, v3))]) X dX5_digestOnto_4 (by decide) rfl ?_
  obtain ⟨n_7, h⟩ := h
  refine g_sub X [2, 4, 1, 0] rfl (pf_X5_digestOnto_6 X hr (fun v3_4 v4_4 v6_4 m_4 h => ?_) n_7 _ _ _ _ h)
  · obtain ⟨n_6, h⟩ := h
    refine g_sub X [0, 1, 2, 3] rfl (pf_X5_digestOnto_59 X hr  n_6 _ _ _ _ h)
theorem im_X5_digestOnto (l : Launch) (x : WX) (v1 : Int) (v3 : Int) (m : Mem) (post : Int → Mem → Prop) (h : wp_X5_digestOnto v1 v3 m post) : MetJ l x 67 0 yX5_digestOnto cX5_digestOnto 8 [(2, 43), (1, v1), (0, v3)] m post := met_J (by decide) (Nat.le_of_ble_eq_true rfl) (fun _ X hr => pf_X5_digestOnto X hr v1 v3 m h)
def wp_X6_lettersIn_42 (v0 : Int) (v2 : Int) (v3 : Int) (v4 : Int) (m : Mem) (K4 : Int → Int → Int → Mem → Prop) (post : Int → Mem → Prop) : Prop :=
  ((v4 = 0 → (∀ v2_54 : Int, v2_54 = w32 (v2 + 0) → (K4 v0 v2_54 (w32 (v3 + 1)) m))) ∧
  (¬ v4 = 0 → (∀ v2_54 : Int, v2_54 = w32 (v2 + 1) → (K4 v0 v2_54 (w32 (v3 + 1)) m))))
set_option maxRecDepth 100000 in
theorem pf_X6_lettersIn_42 {l : Launch} {x : WX} {G : GT} {post : Int → Mem → Prop} {K4 : Int → Int → Int → Mem → Prop} (X : Ax l x cX6_lettersIn RX6 5 (rmd 0) 67 G) (hr : RI cX6_lettersIn post G) (hK4 : ∀ (v0 : Int) (v2 : Int) (v3 : Int) (m : Mem), K4 v0 v2 v3 m → G 4 [(0, (1, v0)), (2, (0, v2)), (3, (0, v3))] [] m) (v0 : Int) (v2 : Int) (v3 : Int) (v4 : Int) (m : Mem) (h : wp_X6_lettersIn_42 v0 v2 v3 v4 m K4 post) : G 42 [(0, (1, v0)), (2, (0, v2)), (3, (0, v3)), (4, (0, v4))] [] m := by
  unfold wp_X6_lettersIn_42 at h
  refine g_iload_n 1 (i := 2) X dX6_lettersIn_42 rfl rfl ?_
  refine g_iload 3 (i := 4) X dX6_lettersIn_43 rfl ?_
  refine g_if_eq X dX6_lettersIn_45 (tgt := 52) (by decide) (fun hc => ?_) (fun hc => ?_)
  · have h := h.1 hc
    refine g_iconst X dX6_lettersIn_52 (by decide) ?_
    refine g_iadd X dX6_lettersIn_53 ?_
    refine g_nmI (fun v2_54 ev2_54 => ?_)
    have h := h v2_54 ev2_54
    refine g_istore_n (i := 2) (lv' := [(2, (0, v2_54)), (0, (1, v0)), (3, (0, v3)), (4, (0, v4))]) X dX6_lettersIn_54 rfl (by decide) rfl ?_
    refine g_iinc 2 (lv' := [(3, (0, w32 (v3 + 1))), (2, (0, v2_54)), (0, (1, v0)), (4, (0, v4))]) X dX6_lettersIn_55 rfl (by decide) rfl ?_
    refine g_goto X dX6_lettersIn_58 (tgt := 4) (by decide) ?_
    exact g_sub X [2, 1, 0] rfl (hK4 _ _ _ _ h)
  · have h := h.2 hc
    refine g_iconst X dX6_lettersIn_48 (by decide) ?_
    refine g_goto X dX6_lettersIn_49 (tgt := 53) (by decide) ?_
    refine g_iadd X dX6_lettersIn_53 ?_
    refine g_nmI (fun v2_54 ev2_54 => ?_)
    have h := h v2_54 ev2_54
    refine g_istore_n (i := 2) (lv' := [(2, (0, v2_54)), (0, (1, v0)), (3, (0, v3)), (4, (0, v4))]) X dX6_lettersIn_54 rfl (by decide) rfl ?_
    refine g_iinc 2 (lv' := [(3, (0, w32 (v3 + 1))), (2, (0, v2_54)), (0, (1, v0)), (4, (0, v4))]) X dX6_lettersIn_55 rfl (by decide) rfl ?_
    refine g_goto X dX6_lettersIn_58 (tgt := 4) (by decide) ?_
    exact g_sub X [2, 1, 0] rfl (hK4 _ _ _ _ h)
def wp_X6_lettersIn_4  (post : Int → Mem → Prop) : Nat → Int → Int → Int → Mem → Prop
  | 0, _, _, _, _ => False
  | n + 1, v0, v2, v3, m =>
  ((8 ≤ v3 → (post v2 m)) ∧
  (¬ 8 ≤ v3 → (∀ v4_21 : Int, v4_21 = and32 (w32 (ushr64 v0 (w32 (8 * v3)))) 255 → (((126 < v4_21 → (post (-1) m)) ∧
  (¬ 126 < v4_21 → (((v4_21 = 0 → (wp_X6_lettersIn_42 v0 v2 v3 v4_21 m (fun v0_4 v2_4 v3_4 m_4 => wp_X6_lettersIn_4  post n v0_4 v2_4 v3_4 m_4) post)) ∧
  (¬ v4_21 = 0 → (((v3 ≤ v2 → (wp_X6_lettersIn_42 v0 v2 v3 v4_21 m (fun v0_5 v2_5 v3_5 m_5 => wp_X6_lettersIn_4  post n v0_5 v2_5 v3_5 m_5) post)) ∧
  (¬ v3 ≤ v2 → (post (-1) m)))))))))))))
set_option maxRecDepth 100000 in
theorem pf_X6_lettersIn_4 {l : Launch} {x : WX} {G : GT} {post : Int → Mem → Prop}  (X : Ax l x cX6_lettersIn RX6 5 (rmd 0) 67 G) (hr : RI cX6_lettersIn post G) : ∀ (n : Nat) (v0 : Int) (v2 : Int) (v3 : Int) (m : Mem) (_ : wp_X6_lettersIn_4  post n v0 v2 v3 m), G 4 [(0, (1, v0)), (2, (0, v2)), (3, (0, v3))] [] m := by
  intro n
  induction n with
  | zero => intro v0 v2 v3 m h; exact absurd h id
  | succ n ih =>
  intro v0 v2 v3 m h
  unfold wp_X6_lettersIn_4 at h
  refine g_iload_n 2 (i := 3) X dX6_lettersIn_4 rfl rfl ?_
  refine g_bipush X dX6_lettersIn_5 (by decide) ?_
  refine g_icmp_ge X dX6_lettersIn_7 (tgt := 61) (by decide) (fun hc => ?_) (fun hc => ?_)
  · have h := h.1 hc
    refine g_iload_n 1 (i := 2) X dX6_lettersIn_61 rfl rfl ?_
    exact hr _ _ _ _ _ dX6_lettersIn_62 h
  · have h := h.2 hc
    refine g_lload_n 0 (i := 0) X dX6_lettersIn_10 rfl rfl ?_
    refine g_bipush X dX6_lettersIn_11 (by decide) ?_
    refine g_iload_n 2 (i := 3) X dX6_lettersIn_13 rfl rfl ?_
    refine g_imul X dX6_lettersIn_14 ?_
    refine g_lushr X dX6_lettersIn_15 ?_
    refine g_l2i X dX6_lettersIn_16 ?_
    refine g_sipush X dX6_lettersIn_17 (by decide) ?_
    refine g_iand X dX6_lettersIn_20 ?_
    refine g_nmI (fun v4_21 ev4_21 => ?_)
    have h := h v4_21 ev4_21
    refine g_istore (i := 4) (lv' := [(4, (0, v4_21)), (0, (1, v0)), (2, (0, v2)), (3, (0, v3))]) X dX6_lettersIn_21 (by decide) rfl ?_
    refine g_iload 0 (i := 4) X dX6_lettersIn_23 rfl ?_
    refine g_bipush X dX6_lettersIn_25 (by decide) ?_
    refine g_icmp_gt X dX6_lettersIn_27 (tgt := 40) (by decide) (fun hc => ?_) (fun hc => ?_)
    · have h := h.1 hc
      refine g_iconst X dX6_lettersIn_40 (by decide) ?_
      exact hr _ _ _ _ _ dX6_lettersIn_41 h
    · have h := h.2 hc
      refine g_iload 0 (i := 4) X dX6_lettersIn_30 rfl ?_
      refine g_if_eq X dX6_lettersIn_32 (tgt := 42) (by decide) (fun hc => ?_) (fun hc => ?_)
      · have h := h.1 hc
        refine g_sub X [1, 2, 3, 0] rfl (pf_X6_lettersIn_42 X hr (fun v0_4 v2_4 v3_4 m_4 h => ?_) _ _ _ _ _ h)
        · exact g_sub X [0, 1, 2] rfl (ih _ _ _ _ h)
      · have h := h.2 hc
        refine g_iload_n 2 (i := 2) X dX6_lettersIn_35 rfl rfl ?_
        refine g_iload_n 3 (i := 3) X dX6_lettersIn_36 rfl rfl ?_
        refine g_icmp_ge X dX6_lettersIn_37 (tgt := 42) (by decide) (fun hc => ?_) (fun hc => ?_)
        · have h := h.1 hc
          refine g_sub X [1, 2, 3, 0] rfl (pf_X6_lettersIn_42 X hr (fun v0_5 v2_5 v3_5 m_5 h => ?_) _ _ _ _ _ h)
          · exact g_sub X [0, 1, 2] rfl (ih _ _ _ _ h)
        · have h := h.2 hc
          refine g_iconst X dX6_lettersIn_40 (by decide) ?_
          exact hr _ _ _ _ _ dX6_lettersIn_41 h
def wp_X6_lettersIn (v0 : Int) (m : Mem) (post : Int → Mem → Prop) : Prop :=
  ∃ n_6 : Nat, wp_X6_lettersIn_4  post n_6 v0 0 0 m
set_option maxRecDepth 100000 in
theorem pf_X6_lettersIn {l : Launch} {x : WX} {G : GT} {post : Int → Mem → Prop} (X : Ax l x cX6_lettersIn RX6 5 (rmd 0) 67 G) (hr : RI cX6_lettersIn post G) (v0 : Int) (m : Mem) (h : wp_X6_lettersIn v0 m post) : G 0 [(0, (1, v0))] [] m := by
  unfold wp_X6_lettersIn at h
  refine g_iconst X dX6_lettersIn_0 (by decide) ?_
  refine g_istore_n (i := 2) (lv' := [(2, (0, 0)), (0, (1, v0))]) X dX6_lettersIn_1 rfl (by decide) rfl ?_
  refine g_iconst X dX6_lettersIn_2 (by decide) ?_
  refine g_istore_n (i := 3) (lv' := [(3, (0, 0)), (2, (0, 0)), (0, (1, v0))]) X dX6_lettersIn_3 rfl (by decide) rfl ?_
  obtain ⟨n_6, h⟩ := h
  refine g_sub X [2, 1, 0] rfl (pf_X6_lettersIn_4 X hr  n_6 _ _ _ _ h)
theorem im_X6_lettersIn (l : Launch) (x : WX) (v0 : Int) (m : Mem) (post : Int → Mem → Prop) (h : wp_X6_lettersIn v0 m post) : MetI l x 67 0 yX6_lettersIn cX6_lettersIn 5 .int [(1, v0)] m post := met_I (by decide) (Nat.le_of_ble_eq_true rfl) (fun _ X hr => pf_X6_lettersIn X hr v0 m h)
def wp_X6_write_3  (post : Mem → Prop) : Nat → Int → Int → Int → Mem → Prop
  | 0, _, _, _, _ => False
  | n + 1, v1, v3, v4, m =>
  ((v3 ≤ v4 → (post m)) ∧
  (¬ v3 ≤ v4 → (((40 ≤ m 4 0 → (post m)) ∧
  (¬ 40 ≤ m 4 0 → ((0 ≤ m 4 0 ∧ m 4 0 < 40) ∧ (∀ m38 : Mem, m38 = mset m 5 (m 4 0) (and32 (w32 (ushr64 v1 (w32 (8 * v4)))) 255) → (∀ m46 : Mem, m46 = mset m38 4 0 (w32 (m38 4 0 + 1)) → (wp_X6_write_3  post n v1 v3 (w32 (v4 + 1)) m46)))))))))
set_option maxRecDepth 100000 in
theorem pf_X6_write_3 {l : Launch} {x : WX} {G : GT} {post : Mem → Prop}  (X : Ax l x cX6_write RX6 5 (rmd 0) 67 G) (hr : RV cX6_write post G) : ∀ (n : Nat) (v1 : Int) (v3 : Int) (v4 : Int) (m : Mem) (_ : wp_X6_write_3  post n v1 v3 v4 m), G 3 [(0, (2, 4)), (1, (1, v1)), (3, (0, v3)), (4, (0, v4))] [] m := by
  intro n
  induction n with
  | zero => intro v1 v3 v4 m h; exact absurd h id
  | succ n ih =>
  intro v1 v3 v4 m h
  unfold wp_X6_write_3 at h
  refine g_iload 3 (i := 4) X dX6_write_3 rfl ?_
  refine g_iload_n 2 (i := 3) X dX6_write_5 rfl rfl ?_
  refine g_icmp_ge X dX6_write_6 (tgt := 55) (by decide) (fun hc => ?_) (fun hc => ?_)
  · have h := h.1 hc
    exact hr _ _ _ _ dX6_write_55 h
  · have h := h.2 hc
    refine g_aload_n 0 (i := 0) X dX6_write_9 rfl rfl ?_
    refine g_getI X dX6_write_10 fX6_15 ?_
    refine g_bipush X dX6_write_13 (by decide) ?_
    refine g_icmp_ge X dX6_write_15 (tgt := 55) (by decide) (fun hc => ?_) (fun hc => ?_)
    · have h := h.1 hc
      exact hr _ _ _ _ dX6_write_55 h
    · have h := h.2 hc
      refine g_aload_n 0 (i := 0) X dX6_write_18 rfl rfl ?_
      refine g_getR X dX6_write_19 fX6_11 ?_
      refine g_aload_n 0 (i := 0) X dX6_write_22 rfl rfl ?_
      refine g_getI X dX6_write_23 fX6_15 ?_
      refine g_lload_n 1 (i := 1) X dX6_write_26 rfl rfl ?_
      refine g_bipush X dX6_write_27 (by decide) ?_
      refine g_iload 3 (i := 4) X dX6_write_29 rfl ?_
      refine g_imul X dX6_write_31 ?_
      refine g_lushr X dX6_write_32 ?_
      refine g_l2i X dX6_write_33 ?_
      refine g_sipush X dX6_write_34 (by decide) ?_
      refine g_iand X dX6_write_37 ?_
      obtain ⟨hi, h⟩ := h
      refine g_iast X dX6_write_38 rfl hi (fun m38 em38 => ?_)
      have h := h m38 em38
      refine g_aload_n 0 (i := 0) X dX6_write_39 rfl rfl ?_
      refine g_dup X dX6_write_40 rfl ?_
      refine g_getI X dX6_write_41 fX6_15 ?_
      refine g_iconst X dX6_write_44 (by decide) ?_
      refine g_iadd X dX6_write_45 ?_
      refine g_putI X dX6_write_46 pX6_15 (fun m46 em46 => ?_)
      have h := h m46 em46
      refine g_iinc 3 (lv' := [(4, (0, w32 (v4 + 1))), (0, (2, 4)), (1, (1, v1)), (3, (0, v3))]) X dX6_write_49 rfl (by decide) rfl ?_
      refine g_goto X dX6_write_52 (tgt := 3) (by decide) ?_
      exact g_sub X [1, 2, 3, 0] rfl (ih _ _ _ _ h)
def wp_X6_write (v1 : Int) (v3 : Int) (m : Mem) (post : Mem → Prop) : Prop :=
  ∃ n_1 : Nat, wp_X6_write_3  post n_1 v1 v3 0 m
set_option maxRecDepth 100000 in
theorem pf_X6_write {l : Launch} {x : WX} {G : GT} {post : Mem → Prop} (X : Ax l x cX6_write RX6 5 (rmd 0) 67 G) (hr : RV cX6_write post G) (v1 : Int) (v3 : Int) (m : Mem) (h : wp_X6_write v1 v3 m post) : G 0 [(0, (2, 4)), (1, (1, v1)), (3, (0, v3))] [] m := by
  unfold wp_X6_write at h
  refine g_iconst X dX6_write_0 (by decide) ?_
  refine g_istore (i := 4) (lv' := [(4, (0, 0)), (0, (2, 4)), (1, (1, v1)), (3, (0, v3))]) X dX6_write_1 (by decide) rfl ?_
  obtain ⟨n_1, h⟩ := h
  refine g_sub X [1, 2, 3, 0] rfl (pf_X6_write_3 X hr  n_1 _ _ _ _ h)
theorem im_X6_write (l : Launch) (x : WX) (v1 : Int) (v3 : Int) (m : Mem) (post : Mem → Prop) (h : wp_X6_write v1 v3 m post) : MetV l x 67 0 yX6_write cX6_write 5 [(2, 4), (1, v1), (0, v3)] m post := met_V (by decide) (Nat.le_of_ble_eq_true rfl) (fun _ X hr => pf_X6_write X hr v1 v3 m h)
def wp_X6_placeBehindTaken (v1 : Int) (m : Mem) (post : Int → Mem → Prop) : Prop :=
  ((v1 = (-1) → (post (-1) m)) ∧
  (¬ v1 = (-1) → (((v1 = m 4 1 → (post (-1) m)) ∧
  (¬ v1 = m 4 1 → (((and32 (shr32 (m 4 3) v1) 1 = 0 → (∀ m35 : Mem, m35 = mset m 4 3 (or32 (m 4 3) (shl32 1 v1)) → (post 5 m35))) ∧
  (¬ and32 (shr32 (m 4 3) v1) 1 = 0 → (post (-1) m)))))))))
set_option maxRecDepth 100000 in
theorem pf_X6_placeBehindTaken {l : Launch} {x : WX} {G : GT} {post : Int → Mem → Prop} (X : Ax l x cX6_placeBehindTaken RX6 2 (rmd 0) 67 G) (hr : RI cX6_placeBehindTaken post G) (v1 : Int) (m : Mem) (h : wp_X6_placeBehindTaken v1 m post) : G 0 [(0, (2, 4)), (1, (0, v1))] [] m := by
  unfold wp_X6_placeBehindTaken at h
  refine g_iload_n 1 (i := 1) X dX6_placeBehindTaken_0 rfl rfl ?_
  refine g_iconst X dX6_placeBehindTaken_1 (by decide) ?_
  refine g_icmp_eq X dX6_placeBehindTaken_2 (tgt := 24) (by decide) (fun hc => ?_) (fun hc => ?_)
  · have h := h.1 hc
    refine g_iconst X dX6_placeBehindTaken_24 (by decide) ?_
    exact hr _ _ _ _ _ dX6_placeBehindTaken_25 h
  · have h := h.2 hc
    refine g_iload_n 1 (i := 1) X dX6_placeBehindTaken_5 rfl rfl ?_
    refine g_aload_n 0 (i := 0) X dX6_placeBehindTaken_6 rfl rfl ?_
    refine g_getI X dX6_placeBehindTaken_7 fX6_36 ?_
    refine g_icmp_eq X dX6_placeBehindTaken_10 (tgt := 24) (by decide) (fun hc => ?_) (fun hc => ?_)
    · have h := h.1 hc
      refine g_iconst X dX6_placeBehindTaken_24 (by decide) ?_
      exact hr _ _ _ _ _ dX6_placeBehindTaken_25 h
    · have h := h.2 hc
      refine g_aload_n 0 (i := 0) X dX6_placeBehindTaken_13 rfl rfl ?_
      refine g_getI X dX6_placeBehindTaken_14 fX6_22 ?_
      refine g_iload_n 1 (i := 1) X dX6_placeBehindTaken_17 rfl rfl ?_
      refine g_ishr X dX6_placeBehindTaken_18 ?_
      refine g_iconst X dX6_placeBehindTaken_19 (by decide) ?_
      refine g_iand X dX6_placeBehindTaken_20 ?_
      refine g_if_eq X dX6_placeBehindTaken_21 (tgt := 26) (by decide) (fun hc => ?_) (fun hc => ?_)
      · have h := h.1 hc
        refine g_aload_n 0 (i := 0) X dX6_placeBehindTaken_26 rfl rfl ?_
        refine g_dup X dX6_placeBehindTaken_27 rfl ?_
        refine g_getI X dX6_placeBehindTaken_28 fX6_22 ?_
        refine g_iconst X dX6_placeBehindTaken_31 (by decide) ?_
        refine g_iload_n 1 (i := 1) X dX6_placeBehindTaken_32 rfl rfl ?_
        refine g_ishl X dX6_placeBehindTaken_33 ?_
        refine g_ior X dX6_placeBehindTaken_34 ?_
        refine g_putI X dX6_placeBehindTaken_35 pX6_22 (fun m35 em35 => ?_)
        have h := h m35 em35
        refine g_iconst X dX6_placeBehindTaken_38 (by decide) ?_
        exact hr _ _ _ _ _ dX6_placeBehindTaken_39 h
      · have h := h.2 hc
        refine g_iconst X dX6_placeBehindTaken_24 (by decide) ?_
        exact hr _ _ _ _ _ dX6_placeBehindTaken_25 h
theorem im_X6_placeBehindTaken (l : Launch) (x : WX) (v1 : Int) (m : Mem) (post : Int → Mem → Prop) (h : wp_X6_placeBehindTaken v1 m post) : MetI l x 67 0 yX6_placeBehindTaken cX6_placeBehindTaken 2 .int [(2, 4), (0, v1)] m post := met_I (by decide) (Nat.le_of_ble_eq_true rfl) (fun _ X hr => pf_X6_placeBehindTaken X hr v1 m h)
def wp_X6_placeBehind_22 (v1 : Int) (s0 : Int) (m : Mem)  (post : Int → Mem → Prop) : Prop :=
  ((m 4 5 = 0 → (∀ m70 : Mem, m70 = mset m 4 1 s0 → (((¬ s0 = (-1) → (post 1 m70)) ∧
  (s0 = (-1) → (post (-1) m70)))))) ∧
  ((m 4 5 = 1 → (((¬ v1 = 62 → (post (-1) m)) ∧
  (v1 = 62 → (post 2 m))))) ∧
  ((m 4 5 = 2 → (∀ m98 : Mem, m98 = mset m 4 2 s0 → (((s0 = (-1) → (post (-1) m98)) ∧
  (¬ s0 = (-1) → (((¬ s0 = m98 4 1 → (post 3 m98)) ∧
  (s0 = m98 4 1 → (post (-1) m98))))))))) ∧
  ((m 4 5 = 3 → (((¬ v1 = 58 → (post (-1) m)) ∧
  (v1 = 58 → (post 4 m))))) ∧
  ((m 4 5 = 4 → (wp_X6_placeBehindTaken s0 m (fun r134 m134 => post r134 m134))) ∧
  ((m 4 5 = 5 → (((¬ v1 = 47 → (wp_X6_placeBehindTaken s0 m (fun r151 m151 => post r151 m151))) ∧
  (v1 = 47 → (post 6 m))))) ∧
  ((m 4 5 = 6 → (∀ m160 : Mem, m160 = mset m 4 4 (w32 (v1 - 48)) → (((m160 4 4 < 1 → (post (-1) m160)) ∧
  (¬ m160 4 4 < 1 → (((m160 4 4 ≤ 9 → (post 7 m160)) ∧
  (¬ m160 4 4 ≤ 9 → (post (-1) m160))))))))) ∧
  (((m 4 5 < 0 ∨ 6 < m 4 5) → (post (-1) m))))))))))
set_option maxRecDepth 100000 in
theorem pf_X6_placeBehind_22 {l : Launch} {x : WX} {G : GT} {post : Int → Mem → Prop}  (X : Ax l x cX6_placeBehind RX6 4 (rmd 1) 67 G) (hr : RI cX6_placeBehind post G) (v1 : Int) (s0 : Int) (m : Mem) (h : wp_X6_placeBehind_22 v1 s0 m  post) : G 22 [(0, (2, 4)), (1, (0, v1))] [(0, s0)] m := by
  unfold wp_X6_placeBehind_22 at h
  refine g_istore_n (i := 3) (lv' := [(3, (0, s0)), (0, (2, 4)), (1, (0, v1))]) X dX6_placeBehind_22 rfl (by decide) rfl ?_
  refine g_aload_n 1 (i := 0) X dX6_placeBehind_23 rfl rfl ?_
  refine g_getI X dX6_placeBehind_24 fX6_19 ?_
  by_cases c0 : m 4 5 = 0
  · refine g_tabIn X dX6_placeBehind_27 0 c0 (tgt := 68) (by decide) (by decide) rfl (by decide) ?_
    have h := h.1 c0
    refine g_aload_n 1 (i := 0) X dX6_placeBehind_68 rfl rfl ?_
    refine g_iload_n 0 (i := 3) X dX6_placeBehind_69 rfl rfl ?_
    refine g_putI X dX6_placeBehind_70 pX6_36 (fun m70 em70 => ?_)
    have h := h m70 em70
    refine g_iload_n 0 (i := 3) X dX6_placeBehind_73 rfl rfl ?_
    refine g_iconst X dX6_placeBehind_74 (by decide) ?_
    refine g_icmp_ne X dX6_placeBehind_75 (tgt := 82) (by decide) (fun hc => ?_) (fun hc => ?_)
    · have h := h.1 hc
      refine g_iconst X dX6_placeBehind_82 (by decide) ?_
      exact hr _ _ _ _ _ dX6_placeBehind_83 h
    · have h := h.2 hc
      refine g_iconst X dX6_placeBehind_78 (by decide) ?_
      refine g_goto X dX6_placeBehind_79 (tgt := 83) (by decide) ?_
      exact hr _ _ _ _ _ dX6_placeBehind_83 h
  have h := h.2
  by_cases c1 : m 4 5 = 1
  · refine g_tabIn X dX6_placeBehind_27 1 c1 (tgt := 84) (by decide) (by decide) rfl (by decide) ?_
    have h := h.1 c1
    refine g_iload_n 2 (i := 1) X dX6_placeBehind_84 rfl rfl ?_
    refine g_bipush X dX6_placeBehind_85 (by decide) ?_
    refine g_icmp_ne X dX6_placeBehind_87 (tgt := 94) (by decide) (fun hc => ?_) (fun hc => ?_)
    · have h := h.1 hc
      refine g_iconst X dX6_placeBehind_94 (by decide) ?_
      exact hr _ _ _ _ _ dX6_placeBehind_95 h
    · have h := h.2 hc
      refine g_iconst X dX6_placeBehind_90 (by decide) ?_
      refine g_goto X dX6_placeBehind_91 (tgt := 95) (by decide) ?_
      exact hr _ _ _ _ _ dX6_placeBehind_95 h
  have h := h.2
  by_cases c2 : m 4 5 = 2
  · refine g_tabIn X dX6_placeBehind_27 2 c2 (tgt := 96) (by decide) (by decide) rfl (by decide) ?_
    have h := h.1 c2
    refine g_aload_n 1 (i := 0) X dX6_placeBehind_96 rfl rfl ?_
    refine g_iload_n 0 (i := 3) X dX6_placeBehind_97 rfl rfl ?_
    refine g_putI X dX6_placeBehind_98 pX6_39 (fun m98 em98 => ?_)
    have h := h m98 em98
    refine g_iload_n 0 (i := 3) X dX6_placeBehind_101 rfl rfl ?_
    refine g_iconst X dX6_placeBehind_102 (by decide) ?_
    refine g_icmp_eq X dX6_placeBehind_103 (tgt := 114) (by decide) (fun hc => ?_) (fun hc => ?_)
    · have h := h.1 hc
      refine g_iconst X dX6_placeBehind_114 (by decide) ?_
      refine g_goto X dX6_placeBehind_115 (tgt := 119) (by decide) ?_
      exact hr _ _ _ _ _ dX6_placeBehind_119 h
    · have h := h.2 hc
      refine g_iload_n 0 (i := 3) X dX6_placeBehind_106 rfl rfl ?_
      refine g_aload_n 1 (i := 0) X dX6_placeBehind_107 rfl rfl ?_
      refine g_getI X dX6_placeBehind_108 fX6_36 ?_
      refine g_icmp_ne X dX6_placeBehind_111 (tgt := 118) (by decide) (fun hc => ?_) (fun hc => ?_)
      · have h := h.1 hc
        refine g_iconst X dX6_placeBehind_118 (by decide) ?_
        exact hr _ _ _ _ _ dX6_placeBehind_119 h
      · have h := h.2 hc
        refine g_iconst X dX6_placeBehind_114 (by decide) ?_
        refine g_goto X dX6_placeBehind_115 (tgt := 119) (by decide) ?_
        exact hr _ _ _ _ _ dX6_placeBehind_119 h
  have h := h.2
  by_cases c3 : m 4 5 = 3
  · refine g_tabIn X dX6_placeBehind_27 3 c3 (tgt := 120) (by decide) (by decide) rfl (by decide) ?_
    have h := h.1 c3
    refine g_iload_n 2 (i := 1) X dX6_placeBehind_120 rfl rfl ?_
    refine g_bipush X dX6_placeBehind_121 (by decide) ?_
    refine g_icmp_ne X dX6_placeBehind_123 (tgt := 130) (by decide) (fun hc => ?_) (fun hc => ?_)
    · have h := h.1 hc
      refine g_iconst X dX6_placeBehind_130 (by decide) ?_
      exact hr _ _ _ _ _ dX6_placeBehind_131 h
    · have h := h.2 hc
      refine g_iconst X dX6_placeBehind_126 (by decide) ?_
      refine g_goto X dX6_placeBehind_127 (tgt := 131) (by decide) ?_
      exact hr _ _ _ _ _ dX6_placeBehind_131 h
  have h := h.2
  by_cases c4 : m 4 5 = 4
  · refine g_tabIn X dX6_placeBehind_27 4 c4 (tgt := 132) (by decide) (by decide) rfl (by decide) ?_
    have h := h.1 c4
    refine g_aload_n 1 (i := 0) X dX6_placeBehind_132 rfl rfl ?_
    refine g_iload_n 0 (i := 3) X dX6_placeBehind_133 rfl rfl ?_
    refine g_cVI (st := []) X dX6_placeBehind_134 YX6_placeBehindTaken lX6_42 (by decide) (im_X6_placeBehindTaken l x _ _ _ h) rfl ⟨by decide, by decide⟩ rfl (Nat.le_of_ble_eq_true rfl) (fun r134 m134 h => ?_)
    exact hr _ _ _ _ _ dX6_placeBehind_137 h
  have h := h.2
  by_cases c5 : m 4 5 = 5
  · refine g_tabIn X dX6_placeBehind_27 5 c5 (tgt := 138) (by decide) (by decide) rfl (by decide) ?_
    have h := h.1 c5
    refine g_iload_n 2 (i := 1) X dX6_placeBehind_138 rfl rfl ?_
    refine g_bipush X dX6_placeBehind_139 (by decide) ?_
    refine g_icmp_ne X dX6_placeBehind_141 (tgt := 149) (by decide) (fun hc => ?_) (fun hc => ?_)
    · have h := h.1 hc
      refine g_aload_n 1 (i := 0) X dX6_placeBehind_149 rfl rfl ?_
      refine g_iload_n 0 (i := 3) X dX6_placeBehind_150 rfl rfl ?_
      refine g_cVI (st := []) X dX6_placeBehind_151 YX6_placeBehindTaken lX6_42 (by decide) (im_X6_placeBehindTaken l x _ _ _ h) rfl ⟨by decide, by decide⟩ rfl (Nat.le_of_ble_eq_true rfl) (fun r151 m151 h => ?_)
      exact hr _ _ _ _ _ dX6_placeBehind_154 h
    · have h := h.2 hc
      refine g_bipush X dX6_placeBehind_144 (by decide) ?_
      refine g_goto X dX6_placeBehind_146 (tgt := 154) (by decide) ?_
      exact hr _ _ _ _ _ dX6_placeBehind_154 h
  have h := h.2
  by_cases c6 : m 4 5 = 6
  · refine g_tabIn X dX6_placeBehind_27 6 c6 (tgt := 155) (by decide) (by decide) rfl (by decide) ?_
    have h := h.1 c6
    refine g_aload_n 1 (i := 0) X dX6_placeBehind_155 rfl rfl ?_
    refine g_iload_n 2 (i := 1) X dX6_placeBehind_156 rfl rfl ?_
    refine g_bipush X dX6_placeBehind_157 (by decide) ?_
    refine g_isub X dX6_placeBehind_159 ?_
    refine g_putI X dX6_placeBehind_160 pX6_25 (fun m160 em160 => ?_)
    have h := h m160 em160
    refine g_aload_n 1 (i := 0) X dX6_placeBehind_163 rfl rfl ?_
    refine g_getI X dX6_placeBehind_164 fX6_25 ?_
    refine g_iconst X dX6_placeBehind_167 (by decide) ?_
    refine g_icmp_lt X dX6_placeBehind_168 (tgt := 180) (by decide) (fun hc => ?_) (fun hc => ?_)
    · have h := h.1 hc
      refine g_iconst X dX6_placeBehind_180 (by decide) ?_
      refine g_goto X dX6_placeBehind_181 (tgt := 186) (by decide) ?_
      exact hr _ _ _ _ _ dX6_placeBehind_186 h
    · have h := h.2 hc
      refine g_aload_n 1 (i := 0) X dX6_placeBehind_171 rfl rfl ?_
      refine g_getI X dX6_placeBehind_172 fX6_25 ?_
      refine g_bipush X dX6_placeBehind_175 (by decide) ?_
      refine g_icmp_le X dX6_placeBehind_177 (tgt := 184) (by decide) (fun hc => ?_) (fun hc => ?_)
      · have h := h.1 hc
        refine g_bipush X dX6_placeBehind_184 (by decide) ?_
        exact hr _ _ _ _ _ dX6_placeBehind_186 h
      · have h := h.2 hc
        refine g_iconst X dX6_placeBehind_180 (by decide) ?_
        refine g_goto X dX6_placeBehind_181 (tgt := 186) (by decide) ?_
        exact hr _ _ _ _ _ dX6_placeBehind_186 h
  have h := h.2
  have hc := swo_6 (m 4 5) c0 c1 c2 c3 c4 c5 c6
  have h := h hc
  refine g_tabOut X dX6_placeBehind_27 (tgt := 187) (by decide) hc ?_
  refine g_iconst X dX6_placeBehind_187 (by decide) ?_
  exact hr _ _ _ _ _ dX6_placeBehind_188 h
def wp_X6_placeBehind_21 (v1 : Int) (m : Mem)  (post : Int → Mem → Prop) : Prop :=
  wp_X6_placeBehind_22 v1 (-1) m  post
set_option maxRecDepth 100000 in
theorem pf_X6_placeBehind_21 {l : Launch} {x : WX} {G : GT} {post : Int → Mem → Prop}  (X : Ax l x cX6_placeBehind RX6 4 (rmd 1) 67 G) (hr : RI cX6_placeBehind post G) (v1 : Int) (m : Mem) (h : wp_X6_placeBehind_21 v1 m  post) : G 21 [(0, (2, 4)), (1, (0, v1))] [] m := by
  unfold wp_X6_placeBehind_21 at h
  refine g_iconst X dX6_placeBehind_21 (by decide) ?_
  refine g_sub X [0, 1] rfl (pf_X6_placeBehind_22 X hr  _ _ _ h)
def wp_X6_placeBehind (v1 : Int) (v2 : Int) (m : Mem) (post : Int → Mem → Prop) : Prop :=
  ((v1 < 65 → (wp_X6_placeBehind_21 v1 m  post)) ∧
  (¬ v1 < 65 → (((w32 (65 + v2) ≤ v1 → (wp_X6_placeBehind_21 v1 m  post)) ∧
  (¬ w32 (65 + v2) ≤ v1 → (wp_X6_placeBehind_22 v1 (w32 (v1 - 65)) m  post))))))
set_option maxRecDepth 100000 in
theorem pf_X6_placeBehind {l : Launch} {x : WX} {G : GT} {post : Int → Mem → Prop} (X : Ax l x cX6_placeBehind RX6 4 (rmd 1) 67 G) (hr : RI cX6_placeBehind post G) (v1 : Int) (v2 : Int) (m : Mem) (h : wp_X6_placeBehind v1 v2 m post) : G 0 [(0, (2, 4)), (1, (0, v1)), (2, (0, v2))] [] m := by
  unfold wp_X6_placeBehind at h
  refine g_iload_n 1 (i := 1) X dX6_placeBehind_0 rfl rfl ?_
  refine g_bipush X dX6_placeBehind_1 (by decide) ?_
  refine g_icmp_lt X dX6_placeBehind_3 (tgt := 21) (by decide) (fun hc => ?_) (fun hc => ?_)
  · have h := h.1 hc
    refine g_sub X [0, 1] rfl (pf_X6_placeBehind_21 X hr  _ _ h)
  · have h := h.2 hc
    refine g_iload_n 1 (i := 1) X dX6_placeBehind_6 rfl rfl ?_
    refine g_bipush X dX6_placeBehind_7 (by decide) ?_
    refine g_iload_n 2 (i := 2) X dX6_placeBehind_9 rfl rfl ?_
    refine g_iadd X dX6_placeBehind_10 ?_
    refine g_icmp_ge X dX6_placeBehind_11 (tgt := 21) (by decide) (fun hc => ?_) (fun hc => ?_)
    · have h := h.1 hc
      refine g_sub X [0, 1] rfl (pf_X6_placeBehind_21 X hr  _ _ h)
    · have h := h.2 hc
      refine g_iload_n 1 (i := 1) X dX6_placeBehind_14 rfl rfl ?_
      refine g_bipush X dX6_placeBehind_15 (by decide) ?_
      refine g_isub X dX6_placeBehind_17 ?_
      refine g_goto X dX6_placeBehind_18 (tgt := 22) (by decide) ?_
      refine g_sub X [0, 1] rfl (pf_X6_placeBehind_22 X hr  _ _ _ h)
theorem im_X6_placeBehind (l : Launch) (x : WX) (v1 : Int) (v2 : Int) (m : Mem) (post : Int → Mem → Prop) (h : wp_X6_placeBehind v1 v2 m post) : MetI l x 67 1 yX6_placeBehind cX6_placeBehind 4 .int [(2, 4), (0, v1), (0, v2)] m post := met_I (by decide) (Nat.le_of_ble_eq_true rfl) (fun _ X hr => pf_X6_placeBehind X hr v1 v2 m h)
