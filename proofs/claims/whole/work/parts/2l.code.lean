/-! methods: what they mean, and that their bytecode means it (printed by a program of mine) -/
def wp_X11_count (v1 : Int) (m : Mem) (post : Int → Mem → Prop) : Prop :=
  ((v1 = 0 → (post (m 67 0) m)) ∧
  ((v1 = 1 → (post (m 67 4) m)) ∧
  ((v1 = 2 → (post (m 67 9) m)) ∧
  ((v1 = 3 → (post (m 67 13) m)) ∧
  ((v1 = 4 → (post (m 67 18) m)) ∧
  ((v1 = 5 → (wp_X11_done m (fun r86 m86 => post r86 m86))) ∧
  ((v1 = 6 → (wp_X11_running m (fun r91 m91 => post r91 m91))) ∧
  ((v1 = 7 → (post (m 67 20) m)) ∧
  ((v1 = 8 → (post (m 67 27) m)) ∧
  ((v1 = 9 → (post (m 67 2) m)) ∧
  ((v1 = 10 → (post (m 67 30) m)) ∧
  (((v1 < 0 ∨ 10 < v1) → (post (-102) m))))))))))))))
set_option maxRecDepth 100000 in
theorem pf_X11_count {l : Launch} {x : WX} {G : GT} {post : Int → Mem → Prop} (X : Ax l x cX11_count RX11 2 (rmd 1) 106 G) (hr : RI cX11_count post G) (v1 : Int) (m : Mem) (h : wp_X11_count v1 m post) : G 0 [(0, (2, 67)), (1, (0, v1))] [] m := by
  unfold wp_X11_count at h
  refine g_iload_n 1 (i := 1) X dX11_count_0 rfl rfl ?_
  by_cases c0 : v1 = 0
  · refine g_tabIn X dX11_count_1 0 c0 (tgt := 60) (by decide) (by decide) rfl (by decide) ?_
    have h := h.1 c0
    refine g_aload_n 0 (i := 0) X dX11_count_60 rfl rfl ?_
    refine g_getI X dX11_count_61 fX11_130 ?_
    exact hr _ _ _ _ _ dX11_count_64 h
  have h := h.2
  by_cases c1 : v1 = 1
  · refine g_tabIn X dX11_count_1 1 c1 (tgt := 65) (by decide) (by decide) rfl (by decide) ?_
    have h := h.1 c1
    refine g_aload_n 0 (i := 0) X dX11_count_65 rfl rfl ?_
    refine g_getI X dX11_count_66 fX11_141 ?_
    exact hr _ _ _ _ _ dX11_count_69 h
  have h := h.2
  by_cases c2 : v1 = 2
  · refine g_tabIn X dX11_count_1 2 c2 (tgt := 70) (by decide) (by decide) rfl (by decide) ?_
    have h := h.1 c2
    refine g_aload_n 0 (i := 0) X dX11_count_70 rfl rfl ?_
    refine g_getI X dX11_count_71 fX11_144 ?_
    exact hr _ _ _ _ _ dX11_count_74 h
  have h := h.2
  by_cases c3 : v1 = 3
  · refine g_tabIn X dX11_count_1 3 c3 (tgt := 75) (by decide) (by decide) rfl (by decide) ?_
    have h := h.1 c3
    refine g_aload_n 0 (i := 0) X dX11_count_75 rfl rfl ?_
    refine g_getI X dX11_count_76 fX11_147 ?_
    exact hr _ _ _ _ _ dX11_count_79 h
  have h := h.2
  by_cases c4 : v1 = 4
  · refine g_tabIn X dX11_count_1 4 c4 (tgt := 80) (by decide) (by decide) rfl (by decide) ?_
    have h := h.1 c4
    refine g_aload_n 0 (i := 0) X dX11_count_80 rfl rfl ?_
    refine g_getI X dX11_count_81 fX11_153 ?_
    exact hr _ _ _ _ _ dX11_count_84 h
  have h := h.2
  by_cases c5 : v1 = 5
  · refine g_tabIn X dX11_count_1 5 c5 (tgt := 85) (by decide) (by decide) rfl (by decide) ?_
    have h := h.1 c5
    refine g_aload_n 0 (i := 0) X dX11_count_85 rfl rfl ?_
    refine g_cVI (st := []) X dX11_count_86 YX11_done lX11_340 (by decide) (im_X11_done l x  _ _ h) rfl ⟨by decide, by decide⟩ rfl (Nat.le_of_ble_eq_true rfl) (fun r86 m86 h => ?_)
    exact hr _ _ _ _ _ dX11_count_89 h
  have h := h.2
  by_cases c6 : v1 = 6
  · refine g_tabIn X dX11_count_1 6 c6 (tgt := 90) (by decide) (by decide) rfl (by decide) ?_
    have h := h.1 c6
    refine g_aload_n 0 (i := 0) X dX11_count_90 rfl rfl ?_
    refine g_cVI (st := []) X dX11_count_91 YX11_running lX11_343 (by decide) (im_X11_running l x  _ _ h) rfl ⟨by decide, by decide⟩ rfl (Nat.le_of_ble_eq_true rfl) (fun r91 m91 h => ?_)
    exact hr _ _ _ _ _ dX11_count_94 h
  have h := h.2
  by_cases c7 : v1 = 7
  · refine g_tabIn X dX11_count_1 7 c7 (tgt := 95) (by decide) (by decide) rfl (by decide) ?_
    have h := h.1 c7
    refine g_aload_n 0 (i := 0) X dX11_count_95 rfl rfl ?_
    refine g_getI X dX11_count_96 fX11_159 ?_
    exact hr _ _ _ _ _ dX11_count_99 h
  have h := h.2
  by_cases c8 : v1 = 8
  · refine g_tabIn X dX11_count_1 8 c8 (tgt := 100) (by decide) (by decide) rfl (by decide) ?_
    have h := h.1 c8
    refine g_aload_n 0 (i := 0) X dX11_count_100 rfl rfl ?_
    refine g_getI X dX11_count_101 fX11_168 ?_
    exact hr _ _ _ _ _ dX11_count_104 h
  have h := h.2
  by_cases c9 : v1 = 9
  · refine g_tabIn X dX11_count_1 9 c9 (tgt := 105) (by decide) (by decide) rfl (by decide) ?_
    have h := h.1 c9
    refine g_aload_n 0 (i := 0) X dX11_count_105 rfl rfl ?_
    refine g_getI X dX11_count_106 fX11_138 ?_
    exact hr _ _ _ _ _ dX11_count_109 h
  have h := h.2
  by_cases c10 : v1 = 10
  · refine g_tabIn X dX11_count_1 10 c10 (tgt := 110) (by decide) (by decide) rfl (by decide) ?_
    have h := h.1 c10
    refine g_aload_n 0 (i := 0) X dX11_count_110 rfl rfl ?_
    refine g_getI X dX11_count_111 fX11_171 ?_
    exact hr _ _ _ _ _ dX11_count_114 h
  have h := h.2
  have hc := swo_10 v1 c0 c1 c2 c3 c4 c5 c6 c7 c8 c9 c10
  have h := h hc
  refine g_tabOut X dX11_count_1 (tgt := 115) (by decide) hc ?_
  refine g_bipush X dX11_count_115 (by decide) ?_
  exact hr _ _ _ _ _ dX11_count_117 h
theorem im_X11_count (l : Launch) (x : WX) (v1 : Int) (m : Mem) (post : Int → Mem → Prop) (h : wp_X11_count v1 m post) : MetI l x 106 1 yX11_count cX11_count 2 .int [(2, 67), (0, v1)] m post := met_I (by decide) (Nat.le_of_ble_eq_true rfl) (fun _ X hr => pf_X11_count X hr v1 m h)
def wp_X11_mix (v1 : Int) (m : Mem) (post : Mem → Prop) : Prop :=
  ∀ m11 : Mem, m11 = mset m 67 64 (w64 (w64 (31 * m 67 64) + v1)) → (post m11)
set_option maxRecDepth 100000 in
theorem pf_X11_mix {l : Launch} {x : WX} {G : GT} {post : Mem → Prop} (X : Ax l x cX11_mix RX11 3 (rmd 0) 106 G) (hr : RV cX11_mix post G) (v1 : Int) (m : Mem) (h : wp_X11_mix v1 m post) : G 0 [(0, (2, 67)), (1, (1, v1))] [] m := by
  unfold wp_X11_mix at h
  refine g_aload_n 0 (i := 0) X dX11_mix_0 rfl rfl ?_
  refine g_ldc2 X dX11_mix_1 (by unfold r64; omega) kX11_346 ?_
  refine g_aload_n 0 (i := 0) X dX11_mix_4 rfl rfl ?_
  refine g_getJ X dX11_mix_5 fX11_348 ?_
  refine g_lmul X dX11_mix_8 ?_
  refine g_lload_n 1 (i := 1) X dX11_mix_9 rfl rfl ?_
  refine g_ladd X dX11_mix_10 ?_
  refine g_putJ X dX11_mix_11 pX11_348 (fun m11 em11 => ?_)
  have h := h m11 em11
  exact hr _ _ _ _ dX11_mix_14 h
theorem im_X11_mix (l : Launch) (x : WX) (v1 : Int) (m : Mem) (post : Mem → Prop) (h : wp_X11_mix v1 m post) : MetV l x 106 0 yX11_mix cX11_mix 3 [(2, 67), (1, v1)] m post := met_V (by decide) (Nat.le_of_ble_eq_true rfl) (fun _ X hr => pf_X11_mix X hr v1 m h)
def wp_X11_mixTrains_2 (K62 : Int → Mem → Prop) (post : Mem → Prop) : Nat → Int → Mem → Prop
  | 0, _, _ => False
  | n + 1, v1, m =>
  ((m 67 4 ≤ v1 → (K62 0 m)) ∧
  (¬ m 67 4 ≤ v1 → ((0 ≤ v1 ∧ v1 < 20) ∧ (wp_X11_mix (m 70 v1) m (fun m18 => (0 ≤ v1 ∧ v1 < 20) ∧ (wp_X11_mix (m18 71 v1) m18 (fun m29 => (0 ≤ v1 ∧ v1 < 20) ∧ (wp_X11_mix (m29 72 v1) m29 (fun m40 => (0 ≤ v1 ∧ v1 < 20) ∧ (wp_X11_mix (m40 73 v1) m40 (fun m51 => wp_X11_mixTrains_2 K62 post n (w32 (v1 + 1)) m51)))))))))))
set_option maxRecDepth 100000 in
theorem pf_X11_mixTrains_2 {l : Launch} {x : WX} {G : GT} {post : Mem → Prop} {K62 : Int → Mem → Prop} (X : Ax l x cX11_mixTrains RX11 2 (rmd 1) 106 G) (hr : RV cX11_mixTrains post G) (hK62 : ∀ (v1 : Int) (m : Mem), K62 v1 m → G 62 [(0, (2, 67)), (1, (0, v1))] [] m) : ∀ (n : Nat) (v1 : Int) (m : Mem) (_ : wp_X11_mixTrains_2 K62 post n v1 m), G 2 [(0, (2, 67)), (1, (0, v1))] [] m := by
  intro n
  induction n with
  | zero => intro v1 m h; exact absurd h id
  | succ n ih =>
  intro v1 m h
  unfold wp_X11_mixTrains_2 at h
  refine g_iload_n 1 (i := 1) X dX11_mixTrains_2 rfl rfl ?_
  refine g_aload_n 0 (i := 0) X dX11_mixTrains_3 rfl rfl ?_
  refine g_getI X dX11_mixTrains_4 fX11_141 ?_
  refine g_icmp_ge X dX11_mixTrains_7 (tgt := 60) (by decide) (fun hc => ?_) (fun hc => ?_)
  · have h := h.1 hc
    refine g_iconst X dX11_mixTrains_60 (by decide) ?_
    refine g_istore_n (i := 1) (lv' := [(1, (0, 0)), (0, (2, 67))]) X dX11_mixTrains_61 rfl (by decide) rfl ?_
    exact g_sub X [1, 0] rfl (hK62 _ _ h)
  · have h := h.2 hc
    refine g_aload_n 0 (i := 0) X dX11_mixTrains_10 rfl rfl ?_
    refine g_aload_n 0 (i := 0) X dX11_mixTrains_11 rfl rfl ?_
    refine g_getR X dX11_mixTrains_12 fX11_17 ?_
    refine g_iload_n 1 (i := 1) X dX11_mixTrains_15 rfl rfl ?_
    obtain ⟨hi, h⟩ := h
    refine g_iald X dX11_mixTrains_16 rfl hi ?_
    refine g_i2l X dX11_mixTrains_17 ?_
    refine g_cVV (st := []) X dX11_mixTrains_18 YX11_mix lX11_351 (by decide) (im_X11_mix l x _ _ _ h) rfl ⟨by decide, by decide⟩ rfl (Nat.le_of_ble_eq_true rfl) (fun m18 h => ?_)
    refine g_aload_n 0 (i := 0) X dX11_mixTrains_21 rfl rfl ?_
    refine g_aload_n 0 (i := 0) X dX11_mixTrains_22 rfl rfl ?_
    refine g_getR X dX11_mixTrains_23 fX11_20 ?_
    refine g_iload_n 1 (i := 1) X dX11_mixTrains_26 rfl rfl ?_
    obtain ⟨hi, h⟩ := h
    refine g_iald X dX11_mixTrains_27 rfl hi ?_
    refine g_i2l X dX11_mixTrains_28 ?_
    refine g_cVV (st := []) X dX11_mixTrains_29 YX11_mix lX11_351 (by decide) (im_X11_mix l x _ _ _ h) rfl ⟨by decide, by decide⟩ rfl (Nat.le_of_ble_eq_true rfl) (fun m29 h => ?_)
    refine g_aload_n 0 (i := 0) X dX11_mixTrains_32 rfl rfl ?_
    refine g_aload_n 0 (i := 0) X dX11_mixTrains_33 rfl rfl ?_
    refine g_getR X dX11_mixTrains_34 fX11_23 ?_
    refine g_iload_n 1 (i := 1) X dX11_mixTrains_37 rfl rfl ?_
    obtain ⟨hi, h⟩ := h
    refine g_iald X dX11_mixTrains_38 rfl hi ?_
    refine g_i2l X dX11_mixTrains_39 ?_
    refine g_cVV (st := []) X dX11_mixTrains_40 YX11_mix lX11_351 (by decide) (im_X11_mix l x _ _ _ h) rfl ⟨by decide, by decide⟩ rfl (Nat.le_of_ble_eq_true rfl) (fun m40 h => ?_)
    refine g_aload_n 0 (i := 0) X dX11_mixTrains_43 rfl rfl ?_
    refine g_aload_n 0 (i := 0) X dX11_mixTrains_44 rfl rfl ?_
    refine g_getR X dX11_mixTrains_45 fX11_26 ?_
    refine g_iload_n 1 (i := 1) X dX11_mixTrains_48 rfl rfl ?_
    obtain ⟨hi, h⟩ := h
    refine g_iald X dX11_mixTrains_49 rfl hi ?_
    refine g_i2l X dX11_mixTrains_50 ?_
    refine g_cVV (st := []) X dX11_mixTrains_51 YX11_mix lX11_351 (by decide) (im_X11_mix l x _ _ _ h) rfl ⟨by decide, by decide⟩ rfl (Nat.le_of_ble_eq_true rfl) (fun m51 h => ?_)
    refine g_iinc 1 (lv' := [(1, (0, w32 (v1 + 1))), (0, (2, 67))]) X dX11_mixTrains_54 rfl (by decide) rfl ?_
    refine g_goto X dX11_mixTrains_57 (tgt := 2) (by decide) ?_
    exact g_sub X [1, 0] rfl (ih _ _ h)
def wp_X11_mixTrains_62 (K131 : Int → Mem → Prop) (post : Mem → Prop) : Nat → Int → Mem → Prop
  | 0, _, _ => False
  | n + 1, v1, m =>
  ((m 67 9 ≤ v1 → (K131 0 m)) ∧
  (¬ m 67 9 ≤ v1 → ((0 ≤ w32 (3 * v1) ∧ w32 (3 * v1) < 36) ∧ (wp_X11_mix (m 75 (w32 (3 * v1))) m (fun m80 => (0 ≤ w32 (w32 (3 * v1) + 1) ∧ w32 (w32 (3 * v1) + 1) < 36) ∧ (wp_X11_mix (m80 75 (w32 (w32 (3 * v1) + 1))) m80 (fun m95 => (0 ≤ w32 (w32 (3 * v1) + 2) ∧ w32 (w32 (3 * v1) + 2) < 36) ∧ (wp_X11_mix (m95 75 (w32 (w32 (3 * v1) + 2))) m95 (fun m110 => wp_X11_onTheWay v1 m110 (fun r116 m116 => wp_X11_mix r116 m116 (fun m120 => wp_X11_mixTrains_62 K131 post n (w32 (v1 + 1)) m120)))))))))))
set_option maxRecDepth 100000 in
theorem pf_X11_mixTrains_62 {l : Launch} {x : WX} {G : GT} {post : Mem → Prop} {K131 : Int → Mem → Prop} (X : Ax l x cX11_mixTrains RX11 2 (rmd 1) 106 G) (hr : RV cX11_mixTrains post G) (hK131 : ∀ (v1 : Int) (m : Mem), K131 v1 m → G 131 [(0, (2, 67)), (1, (0, v1))] [] m) : ∀ (n : Nat) (v1 : Int) (m : Mem) (_ : wp_X11_mixTrains_62 K131 post n v1 m), G 62 [(0, (2, 67)), (1, (0, v1))] [] m := by
  intro n
  induction n with
  | zero => intro v1 m h; exact absurd h id
  | succ n ih =>
  intro v1 m h
  unfold wp_X11_mixTrains_62 at h
  refine g_iload_n 1 (i := 1) X dX11_mixTrains_62 rfl rfl ?_
  refine g_aload_n 0 (i := 0) X dX11_mixTrains_63 rfl rfl ?_
  refine g_getI X dX11_mixTrains_64 fX11_144 ?_
  refine g_icmp_ge X dX11_mixTrains_67 (tgt := 129) (by decide) (fun hc => ?_) (fun hc => ?_)
  · have h := h.1 hc
    refine g_iconst X dX11_mixTrains_129 (by decide) ?_
    refine g_istore_n (i := 1) (lv' := [(1, (0, 0)), (0, (2, 67))]) X dX11_mixTrains_130 rfl (by decide) rfl ?_
    exact g_sub X [1, 0] rfl (hK131 _ _ h)
  · have h := h.2 hc
    refine g_aload_n 0 (i := 0) X dX11_mixTrains_70 rfl rfl ?_
    refine g_aload_n 0 (i := 0) X dX11_mixTrains_71 rfl rfl ?_
    refine g_getR X dX11_mixTrains_72 fX11_32 ?_
    refine g_iconst X dX11_mixTrains_75 (by decide) ?_
    refine g_iload_n 1 (i := 1) X dX11_mixTrains_76 rfl rfl ?_
    refine g_imul X dX11_mixTrains_77 ?_
    obtain ⟨hi, h⟩ := h
    refine g_iald X dX11_mixTrains_78 rfl hi ?_
    refine g_i2l X dX11_mixTrains_79 ?_
    refine g_cVV (st := []) X dX11_mixTrains_80 YX11_mix lX11_351 (by decide) (im_X11_mix l x _ _ _ h) rfl ⟨by decide, by decide⟩ rfl (Nat.le_of_ble_eq_true rfl) (fun m80 h => ?_)
    refine g_aload_n 0 (i := 0) X dX11_mixTrains_83 rfl rfl ?_
    refine g_aload_n 0 (i := 0) X dX11_mixTrains_84 rfl rfl ?_
    refine g_getR X dX11_mixTrains_85 fX11_32 ?_
    refine g_iconst X dX11_mixTrains_88 (by decide) ?_
    refine g_iload_n 1 (i := 1) X dX11_mixTrains_89 rfl rfl ?_
    refine g_imul X dX11_mixTrains_90 ?_
    refine g_iconst X dX11_mixTrains_91 (by decide) ?_
    refine g_iadd X dX11_mixTrains_92 ?_
    obtain ⟨hi, h⟩ := h
    refine g_iald X dX11_mixTrains_93 rfl hi ?_
    refine g_i2l X dX11_mixTrains_94 ?_
    refine g_cVV (st := []) X dX11_mixTrains_95 YX11_mix lX11_351 (by decide) (im_X11_mix l x _ _ _ h) rfl ⟨by decide, by decide⟩ rfl (Nat.le_of_ble_eq_true rfl) (fun m95 h => ?_)
    refine g_aload_n 0 (i := 0) X dX11_mixTrains_98 rfl rfl ?_
    refine g_aload_n 0 (i := 0) X dX11_mixTrains_99 rfl rfl ?_
    refine g_getR X dX11_mixTrains_100 fX11_32 ?_
    refine g_iconst X dX11_mixTrains_103 (by decide) ?_
    refine g_iload_n 1 (i := 1) X dX11_mixTrains_104 rfl rfl ?_
    refine g_imul X dX11_mixTrains_105 ?_
    refine g_iconst X dX11_mixTrains_106 (by decide) ?_
    refine g_iadd X dX11_mixTrains_107 ?_
    obtain ⟨hi, h⟩ := h
    refine g_iald X dX11_mixTrains_108 rfl hi ?_
    refine g_i2l X dX11_mixTrains_109 ?_
    refine g_cVV (st := []) X dX11_mixTrains_110 YX11_mix lX11_351 (by decide) (im_X11_mix l x _ _ _ h) rfl ⟨by decide, by decide⟩ rfl (Nat.le_of_ble_eq_true rfl) (fun m110 h => ?_)
    refine g_aload_n 0 (i := 0) X dX11_mixTrains_113 rfl rfl ?_
    refine g_aload_n 0 (i := 0) X dX11_mixTrains_114 rfl rfl ?_
    refine g_iload_n 1 (i := 1) X dX11_mixTrains_115 rfl rfl ?_
    refine g_cVI (st := [(2, 67)]) X dX11_mixTrains_116 YX11_onTheWay lX11_244 (by decide) (im_X11_onTheWay l x _ _ _ h) rfl ⟨by decide, by decide⟩ rfl (Nat.le_of_ble_eq_true rfl) (fun r116 m116 h => ?_)
    refine g_i2l X dX11_mixTrains_119 ?_
    refine g_cVV (st := []) X dX11_mixTrains_120 YX11_mix lX11_351 (by decide) (im_X11_mix l x _ _ _ h) rfl ⟨by decide, by decide⟩ rfl (Nat.le_of_ble_eq_true rfl) (fun m120 h => ?_)
    refine g_iinc 1 (lv' := [(1, (0, w32 (v1 + 1))), (0, (2, 67))]) X dX11_mixTrains_123 rfl (by decide) rfl ?_
    refine g_goto X dX11_mixTrains_126 (tgt := 62) (by decide) ?_
    exact g_sub X [1, 0] rfl (ih _ _ h)
def wp_X11_mixTrains_131  (post : Mem → Prop) : Nat → Int → Mem → Prop
  | 0, _, _ => False
  | n + 1, v1, m =>
  ((w32 (6 * m 67 13) ≤ v1 → (post m)) ∧
  (¬ w32 (6 * m 67 13) ≤ v1 → ((0 ≤ v1 ∧ v1 < 180) ∧ (wp_X11_mix (m 77 v1) m (fun m150 => wp_X11_mixTrains_131  post n (w32 (v1 + 1)) m150)))))
set_option maxRecDepth 100000 in
theorem pf_X11_mixTrains_131 {l : Launch} {x : WX} {G : GT} {post : Mem → Prop}  (X : Ax l x cX11_mixTrains RX11 2 (rmd 1) 106 G) (hr : RV cX11_mixTrains post G) : ∀ (n : Nat) (v1 : Int) (m : Mem) (_ : wp_X11_mixTrains_131  post n v1 m), G 131 [(0, (2, 67)), (1, (0, v1))] [] m := by
  intro n
  induction n with
  | zero => intro v1 m h; exact absurd h id
  | succ n ih =>
  intro v1 m h
  unfold wp_X11_mixTrains_131 at h
  refine g_iload_n 1 (i := 1) X dX11_mixTrains_131 rfl rfl ?_
  refine g_bipush X dX11_mixTrains_132 (by decide) ?_
  refine g_aload_n 0 (i := 0) X dX11_mixTrains_134 rfl rfl ?_
  refine g_getI X dX11_mixTrains_135 fX11_147 ?_
  refine g_imul X dX11_mixTrains_138 ?_
  refine g_icmp_ge X dX11_mixTrains_139 (tgt := 159) (by decide) (fun hc => ?_) (fun hc => ?_)
  · have h := h.1 hc
    exact hr _ _ _ _ dX11_mixTrains_159 h
  · have h := h.2 hc
    refine g_aload_n 0 (i := 0) X dX11_mixTrains_142 rfl rfl ?_
    refine g_aload_n 0 (i := 0) X dX11_mixTrains_143 rfl rfl ?_
    refine g_getR X dX11_mixTrains_144 fX11_38 ?_
    refine g_iload_n 1 (i := 1) X dX11_mixTrains_147 rfl rfl ?_
    obtain ⟨hi, h⟩ := h
    refine g_iald X dX11_mixTrains_148 rfl hi ?_
    refine g_i2l X dX11_mixTrains_149 ?_
    refine g_cVV (st := []) X dX11_mixTrains_150 YX11_mix lX11_351 (by decide) (im_X11_mix l x _ _ _ h) rfl ⟨by decide, by decide⟩ rfl (Nat.le_of_ble_eq_true rfl) (fun m150 h => ?_)
    refine g_iinc 1 (lv' := [(1, (0, w32 (v1 + 1))), (0, (2, 67))]) X dX11_mixTrains_153 rfl (by decide) rfl ?_
    refine g_goto X dX11_mixTrains_156 (tgt := 131) (by decide) ?_
    exact g_sub X [1, 0] rfl (ih _ _ h)
def wp_X11_mixTrains  (m : Mem) (post : Mem → Prop) : Prop :=
  ∃ n_5 : Nat, wp_X11_mixTrains_2 (fun v1_1 m_1 => ∃ n_4 : Nat, wp_X11_mixTrains_62 (fun v1_2 m_2 => ∃ n_3 : Nat, wp_X11_mixTrains_131  post n_3 v1_2 m_2) post n_4 v1_1 m_1) post n_5 0 m
set_option maxRecDepth 100000 in
theorem pf_X11_mixTrains {l : Launch} {x : WX} {G : GT} {post : Mem → Prop} (X : Ax l x cX11_mixTrains RX11 2 (rmd 1) 106 G) (hr : RV cX11_mixTrains post G)  (m : Mem) (h : wp_X11_mixTrains  m post) : G 0 [(0, (2, 67))] [] m := by
  unfold wp_X11_mixTrains at h
  refine g_iconst X dX11_mixTrains_0 (by decide) ?_
  refine g_istore_n (i := 1) (lv' := [(1, (0, 0)), (0, (2, 67))]) X dX11_mixTrains_1 rfl (by decide) rfl ?_
  obtain ⟨n_5, h⟩ := h
  refine g_sub X [1, 0] rfl (pf_X11_mixTrains_2 X hr (fun v1_1 m_1 h => ?_) n_5 _ _ h)
  · obtain ⟨n_4, h⟩ := h
    refine g_sub X [0, 1] rfl (pf_X11_mixTrains_62 X hr (fun v1_2 m_2 h => ?_) n_4 _ _ h)
    · obtain ⟨n_3, h⟩ := h
      refine g_sub X [0, 1] rfl (pf_X11_mixTrains_131 X hr  n_3 _ _ h)
theorem im_X11_mixTrains (l : Launch) (x : WX)  (m : Mem) (post : Mem → Prop) (h : wp_X11_mixTrains  m post) : MetV l x 106 1 yX11_mixTrains cX11_mixTrains 2 [(2, 67)] m post := met_V (by decide) (Nat.le_of_ble_eq_true rfl) (fun _ X hr => pf_X11_mixTrains X hr  m h)
def wp_X11_digest_30 (K18 : Int → Mem → Prop) (post : Int → Mem → Prop) : Nat → Int → Int → Mem → Prop
  | 0, _, _, _ => False
  | n + 1, v1, v2, m =>
  ((m 67 0 ≤ v2 → (K18 (w32 (v1 + 1)) m)) ∧
  (¬ m 67 0 ≤ v2 → ((0 ≤ w32 (w32 (8 * v1) + v2) ∧ w32 (w32 (8 * v1) + v2) < 64) ∧ (wp_X11_mix (m 68 (w32 (w32 (8 * v1) + v2))) m (fun m51 => wp_X11_digest_30 K18 post n v1 (w32 (v2 + 1)) m51)))))
set_option maxRecDepth 100000 in
theorem pf_X11_digest_30 {l : Launch} {x : WX} {G : GT} {post : Int → Mem → Prop} {K18 : Int → Mem → Prop} (X : Ax l x cX11_digest RX11 3 (rmd 2) 106 G) (hr : RJ cX11_digest post G) (hK18 : ∀ (v1 : Int) (m : Mem), K18 v1 m → G 18 [(0, (2, 67)), (1, (0, v1))] [] m) : ∀ (n : Nat) (v1 : Int) (v2 : Int) (m : Mem) (_ : wp_X11_digest_30 K18 post n v1 v2 m), G 30 [(0, (2, 67)), (1, (0, v1)), (2, (0, v2))] [] m := by
  intro n
  induction n with
  | zero => intro v1 v2 m h; exact absurd h id
  | succ n ih =>
  intro v1 v2 m h
  unfold wp_X11_digest_30 at h
  refine g_iload_n 2 (i := 2) X dX11_digest_30 rfl rfl ?_
  refine g_aload_n 0 (i := 0) X dX11_digest_31 rfl rfl ?_
  refine g_getI X dX11_digest_32 fX11_130 ?_
  refine g_icmp_ge X dX11_digest_35 (tgt := 60) (by decide) (fun hc => ?_) (fun hc => ?_)
  · have h := h.1 hc
    refine g_iinc 1 (lv' := [(1, (0, w32 (v1 + 1))), (0, (2, 67)), (2, (0, v2))]) X dX11_digest_60 rfl (by decide) rfl ?_
    refine g_goto X dX11_digest_63 (tgt := 18) (by decide) ?_
    exact g_sub X [1, 0] rfl (hK18 _ _ h)
  · have h := h.2 hc
    refine g_aload_n 0 (i := 0) X dX11_digest_38 rfl rfl ?_
    refine g_aload_n 0 (i := 0) X dX11_digest_39 rfl rfl ?_
    refine g_getR X dX11_digest_40 fX11_7 ?_
    refine g_bipush X dX11_digest_43 (by decide) ?_
    refine g_iload_n 1 (i := 1) X dX11_digest_45 rfl rfl ?_
    refine g_imul X dX11_digest_46 ?_
    refine g_iload_n 2 (i := 2) X dX11_digest_47 rfl rfl ?_
    refine g_iadd X dX11_digest_48 ?_
    obtain ⟨hi, h⟩ := h
    refine g_iald X dX11_digest_49 rfl hi ?_
    refine g_i2l X dX11_digest_50 ?_
    refine g_cVV (st := []) X dX11_digest_51 YX11_mix lX11_351 (by decide) (im_X11_mix l x _ _ _ h) rfl ⟨by decide, by decide⟩ rfl (Nat.le_of_ble_eq_true rfl) (fun m51 h => ?_)
    refine g_iinc 2 (lv' := [(2, (0, w32 (v2 + 1))), (0, (2, 67)), (1, (0, v1))]) X dX11_digest_54 rfl (by decide) rfl ?_
    refine g_goto X dX11_digest_57 (tgt := 30) (by decide) ?_
    exact g_sub X [1, 2, 0] rfl (ih _ _ _ h)
def wp_X11_digest_18 (K66 : Mem → Prop) (post : Int → Mem → Prop) : Nat → Int → Mem → Prop
  | 0, _, _ => False
  | n + 1, v1, m =>
  ((m 67 0 ≤ v1 → (K66 m)) ∧
  (¬ m 67 0 ≤ v1 → (∀ v2_29 : Int, v2_29 = w32 (v1 + 1) → (∃ n_3 : Nat, wp_X11_digest_30 (fun v1_2 m_2 => wp_X11_digest_18 K66 post n v1_2 m_2) post n_3 v1 v2_29 m))))
set_option maxRecDepth 100000 in
theorem pf_X11_digest_18 {l : Launch} {x : WX} {G : GT} {post : Int → Mem → Prop} {K66 : Mem → Prop} (X : Ax l x cX11_digest RX11 3 (rmd 2) 106 G) (hr : RJ cX11_digest post G) (hK66 : ∀ (m : Mem), K66  m → G 66 [(0, (2, 67))] [] m) : ∀ (n : Nat) (v1 : Int) (m : Mem) (_ : wp_X11_digest_18 K66 post n v1 m), G 18 [(0, (2, 67)), (1, (0, v1))] [] m := by
  intro n
  induction n with
  | zero => intro v1 m h; exact absurd h id
  | succ n ih =>
  intro v1 m h
  unfold wp_X11_digest_18 at h
  refine g_iload_n 1 (i := 1) X dX11_digest_18 rfl rfl ?_
  refine g_aload_n 0 (i := 0) X dX11_digest_19 rfl rfl ?_
  refine g_getI X dX11_digest_20 fX11_130 ?_
  refine g_icmp_ge X dX11_digest_23 (tgt := 66) (by decide) (fun hc => ?_) (fun hc => ?_)
  · have h := h.1 hc
    exact g_sub X [0] rfl (hK66  _ h)
  · have h := h.2 hc
    refine g_iload_n 1 (i := 1) X dX11_digest_26 rfl rfl ?_
    refine g_iconst X dX11_digest_27 (by decide) ?_
    refine g_iadd X dX11_digest_28 ?_
    refine g_nmI (fun v2_29 ev2_29 => ?_)
    have h := h v2_29 ev2_29
    refine g_istore_n (i := 2) (lv' := [(2, (0, v2_29)), (0, (2, 67)), (1, (0, v1))]) X dX11_digest_29 rfl (by decide) rfl ?_
    obtain ⟨n_3, h⟩ := h
    refine g_sub X [1, 2, 0] rfl (pf_X11_digest_30 X hr (fun v1_2 m_2 h => ?_) n_3 _ _ _ h)
    · exact g_sub X [0, 1] rfl (ih _ _ h)
def wp_X11_digest_81 (K108 : Int → Mem → Prop) (post : Int → Mem → Prop) : Nat → Int → Mem → Prop
  | 0, _, _ => False
  | n + 1, v1, m =>
  ((m 67 20 ≤ v1 → (K108 0 m)) ∧
  (¬ m 67 20 ≤ v1 → ((0 ≤ v1 ∧ v1 < 16) ∧ (wp_X11_mix (m 80 v1) m (fun m97 => wp_X11_digest_81 K108 post n (w32 (v1 + 1)) m97)))))
set_option maxRecDepth 100000 in
theorem pf_X11_digest_81 {l : Launch} {x : WX} {G : GT} {post : Int → Mem → Prop} {K108 : Int → Mem → Prop} (X : Ax l x cX11_digest RX11 3 (rmd 2) 106 G) (hr : RJ cX11_digest post G) (hK108 : ∀ (v1 : Int) (m : Mem), K108 v1 m → G 108 [(0, (2, 67)), (1, (0, v1))] [] m) : ∀ (n : Nat) (v1 : Int) (m : Mem) (_ : wp_X11_digest_81 K108 post n v1 m), G 81 [(0, (2, 67)), (1, (0, v1))] [] m := by
  intro n
  induction n with
  | zero => intro v1 m h; exact absurd h id
  | succ n ih =>
  intro v1 m h
  unfold wp_X11_digest_81 at h
  refine g_iload_n 1 (i := 1) X dX11_digest_81 rfl rfl ?_
  refine g_aload_n 0 (i := 0) X dX11_digest_82 rfl rfl ?_
  refine g_getI X dX11_digest_83 fX11_159 ?_
  refine g_icmp_ge X dX11_digest_86 (tgt := 106) (by decide) (fun hc => ?_) (fun hc => ?_)
  · have h := h.1 hc
    refine g_iconst X dX11_digest_106 (by decide) ?_
    refine g_istore_n (i := 1) (lv' := [(1, (0, 0)), (0, (2, 67))]) X dX11_digest_107 rfl (by decide) rfl ?_
    exact g_sub X [1, 0] rfl (hK108 _ _ h)
  · have h := h.2 hc
    refine g_aload_n 0 (i := 0) X dX11_digest_89 rfl rfl ?_
    refine g_aload_n 0 (i := 0) X dX11_digest_90 rfl rfl ?_
    refine g_getR X dX11_digest_91 fX11_47 ?_
    refine g_iload_n 1 (i := 1) X dX11_digest_94 rfl rfl ?_
    obtain ⟨hi, h⟩ := h
    refine g_iald X dX11_digest_95 rfl hi ?_
    refine g_i2l X dX11_digest_96 ?_
    refine g_cVV (st := []) X dX11_digest_97 YX11_mix lX11_351 (by decide) (im_X11_mix l x _ _ _ h) rfl ⟨by decide, by decide⟩ rfl (Nat.le_of_ble_eq_true rfl) (fun m97 h => ?_)
    refine g_iinc 1 (lv' := [(1, (0, w32 (v1 + 1))), (0, (2, 67))]) X dX11_digest_100 rfl (by decide) rfl ?_
    refine g_goto X dX11_digest_103 (tgt := 81) (by decide) ?_
    exact g_sub X [1, 0] rfl (ih _ _ h)
def wp_X11_digest_118 (K108 : Int → Mem → Prop) (post : Int → Mem → Prop) : Nat → Int → Int → Mem → Prop
  | 0, _, _, _ => False
  | n + 1, v1, v2, m =>
  ((m 67 0 ≤ v2 → (K108 (w32 (v1 + 1)) m)) ∧
  (¬ m 67 0 ≤ v2 → ((0 ≤ w32 (w32 (8 * v1) + v2) ∧ w32 (w32 (8 * v1) + v2) < 64) ∧ (wp_X11_mix (m 81 (w32 (w32 (8 * v1) + v2))) m (fun m139 => wp_X11_digest_118 K108 post n v1 (w32 (v2 + 1)) m139)))))
set_option maxRecDepth 100000 in
theorem pf_X11_digest_118 {l : Launch} {x : WX} {G : GT} {post : Int → Mem → Prop} {K108 : Int → Mem → Prop} (X : Ax l x cX11_digest RX11 3 (rmd 2) 106 G) (hr : RJ cX11_digest post G) (hK108 : ∀ (v1 : Int) (m : Mem), K108 v1 m → G 108 [(0, (2, 67)), (1, (0, v1))] [] m) : ∀ (n : Nat) (v1 : Int) (v2 : Int) (m : Mem) (_ : wp_X11_digest_118 K108 post n v1 v2 m), G 118 [(0, (2, 67)), (1, (0, v1)), (2, (0, v2))] [] m := by
  intro n
  induction n with
  | zero => intro v1 v2 m h; exact absurd h id
  | succ n ih =>
  intro v1 v2 m h
  unfold wp_X11_digest_118 at h
  refine g_iload_n 2 (i := 2) X dX11_digest_118 rfl rfl ?_
  refine g_aload_n 0 (i := 0) X dX11_digest_119 rfl rfl ?_
  refine g_getI X dX11_digest_120 fX11_130 ?_
  refine g_icmp_ge X dX11_digest_123 (tgt := 148) (by decide) (fun hc => ?_) (fun hc => ?_)
  · have h := h.1 hc
    refine g_iinc 1 (lv' := [(1, (0, w32 (v1 + 1))), (0, (2, 67)), (2, (0, v2))]) X dX11_digest_148 rfl (by decide) rfl ?_
    refine g_goto X dX11_digest_151 (tgt := 108) (by decide) ?_
    exact g_sub X [1, 0] rfl (hK108 _ _ h)
  · have h := h.2 hc
    refine g_aload_n 0 (i := 0) X dX11_digest_126 rfl rfl ?_
    refine g_aload_n 0 (i := 0) X dX11_digest_127 rfl rfl ?_
    refine g_getR X dX11_digest_128 fX11_50 ?_
    refine g_bipush X dX11_digest_131 (by decide) ?_
    refine g_iload_n 1 (i := 1) X dX11_digest_133 rfl rfl ?_
    refine g_imul X dX11_digest_134 ?_
    refine g_iload_n 2 (i := 2) X dX11_digest_135 rfl rfl ?_
    refine g_iadd X dX11_digest_136 ?_
    obtain ⟨hi, h⟩ := h
    refine g_iald X dX11_digest_137 rfl hi ?_
    refine g_i2l X dX11_digest_138 ?_
    refine g_cVV (st := []) X dX11_digest_139 YX11_mix lX11_351 (by decide) (im_X11_mix l x _ _ _ h) rfl ⟨by decide, by decide⟩ rfl (Nat.le_of_ble_eq_true rfl) (fun m139 h => ?_)
    refine g_iinc 2 (lv' := [(2, (0, w32 (v2 + 1))), (0, (2, 67)), (1, (0, v1))]) X dX11_digest_142 rfl (by decide) rfl ?_
    refine g_goto X dX11_digest_145 (tgt := 118) (by decide) ?_
    exact g_sub X [1, 2, 0] rfl (ih _ _ _ h)
def wp_X11_digest_108 (K156 : Int → Mem → Prop) (post : Int → Mem → Prop) : Nat → Int → Mem → Prop
  | 0, _, _ => False
  | n + 1, v1, m =>
  ((m 67 0 ≤ v1 → (K156 0 m)) ∧
  (¬ m 67 0 ≤ v1 → (∃ n_7 : Nat, wp_X11_digest_118 (fun v1_6 m_6 => wp_X11_digest_108 K156 post n v1_6 m_6) post n_7 v1 0 m)))
set_option maxRecDepth 100000 in
theorem pf_X11_digest_108 {l : Launch} {x : WX} {G : GT} {post : Int → Mem → Prop} {K156 : Int → Mem → Prop} (X : Ax l x cX11_digest RX11 3 (rmd 2) 106 G) (hr : RJ cX11_digest post G) (hK156 : ∀ (v1 : Int) (m : Mem), K156 v1 m → G 156 [(0, (2, 67)), (1, (0, v1))] [] m) : ∀ (n : Nat) (v1 : Int) (m : Mem) (_ : wp_X11_digest_108 K156 post n v1 m), G 108 [(0, (2, 67)), (1, (0, v1))] [] m := by
  intro n
  induction n with
  | zero => intro v1 m h; exact absurd h id
  | succ n ih =>
  intro v1 m h
  unfold wp_X11_digest_108 at h
  refine g_iload_n 1 (i := 1) X dX11_digest_108 rfl rfl ?_
  refine g_aload_n 0 (i := 0) X dX11_digest_109 rfl rfl ?_
  refine g_getI X dX11_digest_110 fX11_130 ?_
  refine g_icmp_ge X dX11_digest_113 (tgt := 154) (by decide) (fun hc => ?_) (fun hc => ?_)
  · have h := h.1 hc
    refine g_iconst X dX11_digest_154 (by decide) ?_
    refine g_istore_n (i := 1) (lv' := [(1, (0, 0)), (0, (2, 67))]) X dX11_digest_155 rfl (by decide) rfl ?_
    exact g_sub X [1, 0] rfl (hK156 _ _ h)
  · have h := h.2 hc
    refine g_iconst X dX11_digest_116 (by decide) ?_
    refine g_istore_n (i := 2) (lv' := [(2, (0, 0)), (0, (2, 67)), (1, (0, v1))]) X dX11_digest_117 rfl (by decide) rfl ?_
    obtain ⟨n_7, h⟩ := h
    refine g_sub X [1, 2, 0] rfl (pf_X11_digest_118 X hr (fun v1_6 m_6 h => ?_) n_7 _ _ _ h)
    · exact g_sub X [0, 1] rfl (ih _ _ h)
def wp_X11_digest_156 (K183 : Int → Mem → Prop) (post : Int → Mem → Prop) : Nat → Int → Mem → Prop
  | 0, _, _ => False
  | n + 1, v1, m =>
  ((m 67 0 ≤ v1 → (K183 0 m)) ∧
  (¬ m 67 0 ≤ v1 → ((0 ≤ v1 ∧ v1 < 8) ∧ (wp_X11_mix (m 82 v1) m (fun m172 => wp_X11_digest_156 K183 post n (w32 (v1 + 1)) m172)))))
set_option maxRecDepth 100000 in
theorem pf_X11_digest_156 {l : Launch} {x : WX} {G : GT} {post : Int → Mem → Prop} {K183 : Int → Mem → Prop} (X : Ax l x cX11_digest RX11 3 (rmd 2) 106 G) (hr : RJ cX11_digest post G) (hK183 : ∀ (v1 : Int) (m : Mem), K183 v1 m → G 183 [(0, (2, 67)), (1, (0, v1))] [] m) : ∀ (n : Nat) (v1 : Int) (m : Mem) (_ : wp_X11_digest_156 K183 post n v1 m), G 156 [(0, (2, 67)), (1, (0, v1))] [] m := by
  intro n
  induction n with
  | zero => intro v1 m h; exact absurd h id
  | succ n ih =>
  intro v1 m h
  unfold wp_X11_digest_156 at h
  refine g_iload_n 1 (i := 1) X dX11_digest_156 rfl rfl ?_
  refine g_aload_n 0 (i := 0) X dX11_digest_157 rfl rfl ?_
  refine g_getI X dX11_digest_158 fX11_130 ?_
  refine g_icmp_ge X dX11_digest_161 (tgt := 181) (by decide) (fun hc => ?_) (fun hc => ?_)
  · have h := h.1 hc
    refine g_iconst X dX11_digest_181 (by decide) ?_
    refine g_istore_n (i := 1) (lv' := [(1, (0, 0)), (0, (2, 67))]) X dX11_digest_182 rfl (by decide) rfl ?_
    exact g_sub X [1, 0] rfl (hK183 _ _ h)
  · have h := h.2 hc
    refine g_aload_n 0 (i := 0) X dX11_digest_164 rfl rfl ?_
    refine g_aload_n 0 (i := 0) X dX11_digest_165 rfl rfl ?_
    refine g_getR X dX11_digest_166 fX11_53 ?_
    refine g_iload_n 1 (i := 1) X dX11_digest_169 rfl rfl ?_
    obtain ⟨hi, h⟩ := h
    refine g_iald X dX11_digest_170 rfl hi ?_
    refine g_i2l X dX11_digest_171 ?_
    refine g_cVV (st := []) X dX11_digest_172 YX11_mix lX11_351 (by decide) (im_X11_mix l x _ _ _ h) rfl ⟨by decide, by decide⟩ rfl (Nat.le_of_ble_eq_true rfl) (fun m172 h => ?_)
    refine g_iinc 1 (lv' := [(1, (0, w32 (v1 + 1))), (0, (2, 67))]) X dX11_digest_175 rfl (by decide) rfl ?_
    refine g_goto X dX11_digest_178 (tgt := 156) (by decide) ?_
    exact g_sub X [1, 0] rfl (ih _ _ h)
def wp_X11_digest_183 (K212 : Int → Mem → Prop) (post : Int → Mem → Prop) : Nat → Int → Mem → Prop
  | 0, _, _ => False
  | n + 1, v1, m =>
  ((w32 (3 * m 67 0) ≤ v1 → (K212 0 m)) ∧
  (¬ w32 (3 * m 67 0) ≤ v1 → ((0 ≤ v1 ∧ v1 < 24) ∧ (wp_X11_mix (m 83 v1) m (fun m201 => wp_X11_digest_183 K212 post n (w32 (v1 + 1)) m201)))))
set_option maxRecDepth 100000 in
theorem pf_X11_digest_183 {l : Launch} {x : WX} {G : GT} {post : Int → Mem → Prop} {K212 : Int → Mem → Prop} (X : Ax l x cX11_digest RX11 3 (rmd 2) 106 G) (hr : RJ cX11_digest post G) (hK212 : ∀ (v1 : Int) (m : Mem), K212 v1 m → G 212 [(0, (2, 67)), (1, (0, v1))] [] m) : ∀ (n : Nat) (v1 : Int) (m : Mem) (_ : wp_X11_digest_183 K212 post n v1 m), G 183 [(0, (2, 67)), (1, (0, v1))] [] m := by
  intro n
  induction n with
  | zero => intro v1 m h; exact absurd h id
  | succ n ih =>
  intro v1 m h
  unfold wp_X11_digest_183 at h
  refine g_iload_n 1 (i := 1) X dX11_digest_183 rfl rfl ?_
  refine g_iconst X dX11_digest_184 (by decide) ?_
  refine g_aload_n 0 (i := 0) X dX11_digest_185 rfl rfl ?_
  refine g_getI X dX11_digest_186 fX11_130 ?_
  refine g_imul X dX11_digest_189 ?_
  refine g_icmp_ge X dX11_digest_190 (tgt := 210) (by decide) (fun hc => ?_) (fun hc => ?_)
  · have h := h.1 hc
    refine g_iconst X dX11_digest_210 (by decide) ?_
    refine g_istore_n (i := 1) (lv' := [(1, (0, 0)), (0, (2, 67))]) X dX11_digest_211 rfl (by decide) rfl ?_
    exact g_sub X [1, 0] rfl (hK212 _ _ h)
  · have h := h.2 hc
    refine g_aload_n 0 (i := 0) X dX11_digest_193 rfl rfl ?_
    refine g_aload_n 0 (i := 0) X dX11_digest_194 rfl rfl ?_
    refine g_getR X dX11_digest_195 fX11_56 ?_
    refine g_iload_n 1 (i := 1) X dX11_digest_198 rfl rfl ?_
    obtain ⟨hi, h⟩ := h
    refine g_iald X dX11_digest_199 rfl hi ?_
    refine g_i2l X dX11_digest_200 ?_
    refine g_cVV (st := []) X dX11_digest_201 YX11_mix lX11_351 (by decide) (im_X11_mix l x _ _ _ h) rfl ⟨by decide, by decide⟩ rfl (Nat.le_of_ble_eq_true rfl) (fun m201 h => ?_)
    refine g_iinc 1 (lv' := [(1, (0, w32 (v1 + 1))), (0, (2, 67))]) X dX11_digest_204 rfl (by decide) rfl ?_
    refine g_goto X dX11_digest_207 (tgt := 183) (by decide) ?_
    exact g_sub X [1, 0] rfl (ih _ _ h)
def wp_X11_digest_212 (K250 : Int → Mem → Prop) (post : Int → Mem → Prop) : Nat → Int → Mem → Prop
  | 0, _, _ => False
  | n + 1, v1, m =>
  ((m 67 27 ≤ v1 → (K250 0 m)) ∧
  (¬ m 67 27 ≤ v1 → ((0 ≤ v1 ∧ v1 < 5) ∧ (wp_X11_mix (m 84 v1) m (fun m228 => (0 ≤ v1 ∧ v1 < 5) ∧ (wp_X11_mix (m228 85 v1) m228 (fun m239 => wp_X11_digest_212 K250 post n (w32 (v1 + 1)) m239)))))))
set_option maxRecDepth 100000 in
theorem pf_X11_digest_212 {l : Launch} {x : WX} {G : GT} {post : Int → Mem → Prop} {K250 : Int → Mem → Prop} (X : Ax l x cX11_digest RX11 3 (rmd 2) 106 G) (hr : RJ cX11_digest post G) (hK250 : ∀ (v1 : Int) (m : Mem), K250 v1 m → G 250 [(0, (2, 67)), (1, (0, v1))] [] m) : ∀ (n : Nat) (v1 : Int) (m : Mem) (_ : wp_X11_digest_212 K250 post n v1 m), G 212 [(0, (2, 67)), (1, (0, v1))] [] m := by
  intro n
  induction n with
  | zero => intro v1 m h; exact absurd h id
  | succ n ih =>
  intro v1 m h
  unfold wp_X11_digest_212 at h
  refine g_iload_n 1 (i := 1) X dX11_digest_212 rfl rfl ?_
  refine g_aload_n 0 (i := 0) X dX11_digest_213 rfl rfl ?_
  refine g_getI X dX11_digest_214 fX11_168 ?_
  refine g_icmp_ge X dX11_digest_217 (tgt := 248) (by decide) (fun hc => ?_) (fun hc => ?_)
  · have h := h.1 hc
    refine g_iconst X dX11_digest_248 (by decide) ?_
    refine g_istore_n (i := 1) (lv' := [(1, (0, 0)), (0, (2, 67))]) X dX11_digest_249 rfl (by decide) rfl ?_
    exact g_sub X [1, 0] rfl (hK250 _ _ h)
  · have h := h.2 hc
    refine g_aload_n 0 (i := 0) X dX11_digest_220 rfl rfl ?_
    refine g_aload_n 0 (i := 0) X dX11_digest_221 rfl rfl ?_
    refine g_getR X dX11_digest_222 fX11_59 ?_
    refine g_iload_n 1 (i := 1) X dX11_digest_225 rfl rfl ?_
    obtain ⟨hi, h⟩ := h
    refine g_iald X dX11_digest_226 rfl hi ?_
    refine g_i2l X dX11_digest_227 ?_
    refine g_cVV (st := []) X dX11_digest_228 YX11_mix lX11_351 (by decide) (im_X11_mix l x _ _ _ h) rfl ⟨by decide, by decide⟩ rfl (Nat.le_of_ble_eq_true rfl) (fun m228 h => ?_)
    refine g_aload_n 0 (i := 0) X dX11_digest_231 rfl rfl ?_
    refine g_aload_n 0 (i := 0) X dX11_digest_232 rfl rfl ?_
    refine g_getR X dX11_digest_233 fX11_62 ?_
    refine g_iload_n 1 (i := 1) X dX11_digest_236 rfl rfl ?_
    obtain ⟨hi, h⟩ := h
    refine g_iald X dX11_digest_237 rfl hi ?_
    refine g_i2l X dX11_digest_238 ?_
    refine g_cVV (st := []) X dX11_digest_239 YX11_mix lX11_351 (by decide) (im_X11_mix l x _ _ _ h) rfl ⟨by decide, by decide⟩ rfl (Nat.le_of_ble_eq_true rfl) (fun m239 h => ?_)
    refine g_iinc 1 (lv' := [(1, (0, w32 (v1 + 1))), (0, (2, 67))]) X dX11_digest_242 rfl (by decide) rfl ?_
    refine g_goto X dX11_digest_245 (tgt := 212) (by decide) ?_
    exact g_sub X [1, 0] rfl (ih _ _ h)
def wp_X11_digest_250 (K275 : Mem → Prop) (post : Int → Mem → Prop) : Nat → Int → Mem → Prop
  | 0, _, _ => False
  | n + 1, v1, m =>
  ((m 67 2 ≤ v1 → (K275 m)) ∧
  (¬ m 67 2 ≤ v1 → ((0 ≤ v1 ∧ v1 < 40) ∧ (wp_X11_mix (m 69 v1) m (fun m266 => wp_X11_digest_250 K275 post n (w32 (v1 + 1)) m266)))))
set_option maxRecDepth 100000 in
theorem pf_X11_digest_250 {l : Launch} {x : WX} {G : GT} {post : Int → Mem → Prop} {K275 : Mem → Prop} (X : Ax l x cX11_digest RX11 3 (rmd 2) 106 G) (hr : RJ cX11_digest post G) (hK275 : ∀ (m : Mem), K275  m → G 275 [(0, (2, 67))] [] m) : ∀ (n : Nat) (v1 : Int) (m : Mem) (_ : wp_X11_digest_250 K275 post n v1 m), G 250 [(0, (2, 67)), (1, (0, v1))] [] m := by
  intro n
  induction n with
  | zero => intro v1 m h; exact absurd h id
  | succ n ih =>
  intro v1 m h
  unfold wp_X11_digest_250 at h
  refine g_iload_n 1 (i := 1) X dX11_digest_250 rfl rfl ?_
  refine g_aload_n 0 (i := 0) X dX11_digest_251 rfl rfl ?_
  refine g_getI X dX11_digest_252 fX11_138 ?_
  refine g_icmp_ge X dX11_digest_255 (tgt := 275) (by decide) (fun hc => ?_) (fun hc => ?_)
  · have h := h.1 hc
    exact g_sub X [0] rfl (hK275  _ h)
  · have h := h.2 hc
    refine g_aload_n 0 (i := 0) X dX11_digest_258 rfl rfl ?_
    refine g_aload_n 0 (i := 0) X dX11_digest_259 rfl rfl ?_
    refine g_getR X dX11_digest_260 fX11_13 ?_
    refine g_iload_n 1 (i := 1) X dX11_digest_263 rfl rfl ?_
    obtain ⟨hi, h⟩ := h
    refine g_bald X dX11_digest_264 rfl hi ?_
    refine g_i2l X dX11_digest_265 ?_
    refine g_cVV (st := []) X dX11_digest_266 YX11_mix lX11_351 (by decide) (im_X11_mix l x _ _ _ h) rfl ⟨by decide, by decide⟩ rfl (Nat.le_of_ble_eq_true rfl) (fun m266 h => ?_)
    refine g_iinc 1 (lv' := [(1, (0, w32 (v1 + 1))), (0, (2, 67))]) X dX11_digest_269 rfl (by decide) rfl ?_
    refine g_goto X dX11_digest_272 (tgt := 250) (by decide) ?_
    exact g_sub X [1, 0] rfl (ih _ _ h)
def wp_X11_digest  (m : Mem) (post : Int → Mem → Prop) : Prop :=
  ∀ m4 : Mem, m4 = mset m 67 64 229 → (wp_X11_mix (m4 67 0) m4 (fun m13 => ∃ n_19 : Nat, wp_X11_digest_18 (fun m_4 => wp_X11_mixTrains m_4 (fun m67 => wp_X11_mix (m67 67 18) m67 (fun m76 => ∃ n_18 : Nat, wp_X11_digest_81 (fun v1_5 m_5 => ∃ n_17 : Nat, wp_X11_digest_108 (fun v1_8 m_8 => ∃ n_16 : Nat, wp_X11_digest_156 (fun v1_9 m_9 => ∃ n_15 : Nat, wp_X11_digest_183 (fun v1_10 m_10 => ∃ n_14 : Nat, wp_X11_digest_212 (fun v1_11 m_11 => ∃ n_13 : Nat, wp_X11_digest_250 (fun m_12 => wp_X11_mix (m_12 67 30) m_12 (fun m281 => post (m281 67 64) m281)) post n_13 v1_11 m_11) post n_14 v1_10 m_10) post n_15 v1_9 m_9) post n_16 v1_8 m_8) post n_17 v1_5 m_5) post n_18 0 m76))) post n_19 0 m13))
set_option maxRecDepth 100000 in
theorem pf_X11_digest {l : Launch} {x : WX} {G : GT} {post : Int → Mem → Prop} (X : Ax l x cX11_digest RX11 3 (rmd 2) 106 G) (hr : RJ cX11_digest post G)  (m : Mem) (h : wp_X11_digest  m post) : G 0 [(0, (2, 67))] [] m := by
  unfold wp_X11_digest at h
  refine g_aload_n 0 (i := 0) X dX11_digest_0 rfl rfl ?_
  refine g_ldc2 X dX11_digest_1 (by unfold r64; omega) kX11_355 ?_
  refine g_putJ X dX11_digest_4 pX11_348 (fun m4 em4 => ?_)
  have h := h m4 em4
  refine g_aload_n 0 (i := 0) X dX11_digest_7 rfl rfl ?_
  refine g_aload_n 0 (i := 0) X dX11_digest_8 rfl rfl ?_
  refine g_getI X dX11_digest_9 fX11_130 ?_
  refine g_i2l X dX11_digest_12 ?_
  refine g_cVV (st := []) X dX11_digest_13 YX11_mix lX11_351 (by decide) (im_X11_mix l x _ _ _ h) rfl ⟨by decide, by decide⟩ rfl (Nat.le_of_ble_eq_true rfl) (fun m13 h => ?_)
  refine g_iconst X dX11_digest_16 (by decide) ?_
  refine g_istore_n (i := 1) (lv' := [(1, (0, 0)), (0, (2, 67))]) X dX11_digest_17 rfl (by decide) rfl ?_
  obtain ⟨n_19, h⟩ := h
  refine g_sub X [1, 0] rfl (pf_X11_digest_18 X hr (fun m_4 h => ?_) n_19 _ _ h)
  · refine g_aload_n 0 (i := 0) X dX11_digest_66 rfl rfl ?_
    refine g_cVV (st := []) X dX11_digest_67 YX11_mixTrains lX11_357 (by decide) (im_X11_mixTrains l x  _ _ h) rfl ⟨by decide, by decide⟩ rfl (Nat.le_of_ble_eq_true rfl) (fun m67 h => ?_)
    refine g_aload_n 0 (i := 0) X dX11_digest_70 rfl rfl ?_
    refine g_aload_n 0 (i := 0) X dX11_digest_71 rfl rfl ?_
    refine g_getI X dX11_digest_72 fX11_153 ?_
    refine g_i2l X dX11_digest_75 ?_
    refine g_cVV (st := []) X dX11_digest_76 YX11_mix lX11_351 (by decide) (im_X11_mix l x _ _ _ h) rfl ⟨by decide, by decide⟩ rfl (Nat.le_of_ble_eq_true rfl) (fun m76 h => ?_)
    refine g_iconst X dX11_digest_79 (by decide) ?_
    refine g_istore_n (i := 1) (lv' := [(1, (0, 0)), (0, (2, 67))]) X dX11_digest_80 rfl (by decide) rfl ?_
    obtain ⟨n_18, h⟩ := h
    refine g_sub X [1, 0] rfl (pf_X11_digest_81 X hr (fun v1_5 m_5 h => ?_) n_18 _ _ h)
    · obtain ⟨n_17, h⟩ := h
      refine g_sub X [0, 1] rfl (pf_X11_digest_108 X hr (fun v1_8 m_8 h => ?_) n_17 _ _ h)
      · obtain ⟨n_16, h⟩ := h
        refine g_sub X [0, 1] rfl (pf_X11_digest_156 X hr (fun v1_9 m_9 h => ?_) n_16 _ _ h)
        · obtain ⟨n_15, h⟩ := h
          refine g_sub X [0, 1] rfl (pf_X11_digest_183 X hr (fun v1_10 m_10 h => ?_) n_15 _ _ h)
          · obtain ⟨n_14, h⟩ := h
            refine g_sub X [0, 1] rfl (pf_X11_digest_212 X hr (fun v1_11 m_11 h => ?_) n_14 _ _ h)
            · obtain ⟨n_13, h⟩ := h
              refine g_sub X [0, 1] rfl (pf_X11_digest_250 X hr (fun m_12 h => ?_) n_13 _ _ h)
              · refine g_aload_n 0 (i := 0) X dX11_digest_275 rfl rfl ?_
                refine g_aload_n 0 (i := 0) X dX11_digest_276 rfl rfl ?_
                refine g_getI X dX11_digest_277 fX11_171 ?_
                refine g_i2l X dX11_digest_280 ?_
                refine g_cVV (st := []) X dX11_digest_281 YX11_mix lX11_351 (by decide) (im_X11_mix l x _ _ _ h) rfl ⟨by decide, by decide⟩ rfl (Nat.le_of_ble_eq_true rfl) (fun m281 h => ?_)
                refine g_aload_n 0 (i := 0) X dX11_digest_284 rfl rfl ?_
                refine g_getJ X dX11_digest_285 fX11_348 ?_
                exact hr _ _ _ _ _ dX11_digest_288 h
theorem im_X11_digest (l : Launch) (x : WX)  (m : Mem) (post : Int → Mem → Prop) (h : wp_X11_digest  m post) : MetJ l x 106 2 yX11_digest cX11_digest 3 [(2, 67)] m post := met_J (by decide) (Nat.le_of_ble_eq_true rfl) (fun _ X hr => pf_X11_digest X hr  m h)
