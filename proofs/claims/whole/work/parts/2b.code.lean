/-! methods: what they mean, and that their bytecode means it (printed by a program of mine) -/
def wp_X2_setFares_96 (v2 : Int) (v3 : Int) (s0 : Int) (s1 : Int) (m : Mem) (K12 : Int → Int → Mem → Prop) (post : Mem → Prop) : Prop :=
  (0 ≤ s1 ∧ s1 < 576) ∧ (∀ m96 : Mem, m96 = mset m 53 s1 s0 → ((0 ≤ w32 (w32 (v2 * 24) + v3) ∧ w32 (w32 (v2 * 24) + v3) < 576) ∧ (∀ m108 : Mem, m108 = mset m96 54 (w32 (w32 (v2 * 24) + v3)) 0 → (K12 v2 (w32 (v3 + 1)) m108))))
set_option maxRecDepth 100000 in
theorem pf_X2_setFares_96 {l : Launch} {x : WX} {G : GT} {post : Mem → Prop} {K12 : Int → Int → Mem → Prop} (X : Ax l x cX2_setFares RX2 6 (rmd 0) 67 G) (hr : RV cX2_setFares post G) (hK12 : ∀ (v2 : Int) (v3 : Int) (m : Mem), K12 v2 v3 m → G 12 [(0, (2, 47)), (1, (2, 1)), (2, (0, v2)), (3, (0, v3))] [] m) (v2 : Int) (v3 : Int) (s0 : Int) (s1 : Int) (m : Mem) (h : wp_X2_setFares_96 v2 v3 s0 s1 m K12 post) : G 96 [(0, (2, 47)), (1, (2, 1)), (2, (0, v2)), (3, (0, v3))] [(0, s0), (0, s1), (2, 53)] m := by
  unfold wp_X2_setFares_96 at h
  obtain ⟨hi, h⟩ := h
  refine g_iast X dX2_setFares_96 rfl hi (fun m96 em96 => ?_)
  have h := h m96 em96
  refine g_aload_n 0 (i := 0) X dX2_setFares_97 rfl rfl ?_
  refine g_getR X dX2_setFares_98 fX2_30 ?_
  refine g_iload_n 2 (i := 2) X dX2_setFares_101 rfl rfl ?_
  refine g_bipush X dX2_setFares_102 (by decide) ?_
  refine g_imul X dX2_setFares_104 ?_
  refine g_iload_n 3 (i := 3) X dX2_setFares_105 rfl rfl ?_
  refine g_iadd X dX2_setFares_106 ?_
  refine g_iconst X dX2_setFares_107 (by decide) ?_
  obtain ⟨hi, h⟩ := h
  refine g_iast X dX2_setFares_108 rfl hi (fun m108 em108 => ?_)
  have h := h m108 em108
  refine g_iinc 3 (lv' := [(3, (0, w32 (v3 + 1))), (0, (2, 47)), (1, (2, 1)), (2, (0, v2))]) X dX2_setFares_109 rfl (by decide) rfl ?_
  refine g_goto X dX2_setFares_112 (tgt := 12) (by decide) ?_
  exact g_sub X [1, 2, 3, 0] rfl (hK12 _ _ _ h)
def wp_X2_setFares_12 (K2 : Int → Mem → Prop) (post : Mem → Prop) : Nat → Int → Int → Mem → Prop
  | 0, _, _, _ => False
  | n + 1, v2, v3, m =>
  ((m 47 3 ≤ v3 → (K2 (w32 (v2 + 1)) m)) ∧
  (¬ m 47 3 ≤ v3 → ((0 ≤ v3 ∧ v3 < 24) ∧ ((0 ≤ v2 ∧ v2 < 24) ∧ (∀ v4_37 : Int, v4_37 = w32 (Int.tmod (m 50 v3) 3 - Int.tmod (m 49 v2) 3) → ((0 ≤ v2 ∧ v2 < 24) ∧ ((0 ≤ v3 ∧ v3 < 24) ∧ ((0 ≤ w32 (w32 (w32 (Int.tdiv (m 49 v2) 3) * 8) + w32 (Int.tdiv (m 50 v3) 3)) ∧ w32 (w32 (w32 (Int.tdiv (m 49 v2) 3) * 8) + w32 (Int.tdiv (m 50 v3) 3)) < 64) ∧ (∀ v5_64 : Int, v5_64 = m 3 (w32 (w32 (w32 (Int.tdiv (m 49 v2) 3) * 8) + w32 (Int.tdiv (m 50 v3) 3))) → (((0 ≤ v4_37 → (wp_X2_setFares_96 v2 v3 (w32 (v5_64 + w32 (v4_37 * m 47 0))) (w32 (w32 (v2 * 24) + v3)) m (fun v2_3 v3_3 m_3 => wp_X2_setFares_12 K2 post n v2_3 v3_3 m_3) post)) ∧
  (¬ 0 ≤ v4_37 → (wp_X2_setFares_96 v2 v3 1000000 (w32 (w32 (v2 * 24) + v3)) m (fun v2_4 v3_4 m_4 => wp_X2_setFares_12 K2 post n v2_4 v3_4 m_4) post)))))))))))))
set_option maxRecDepth 100000 in
theorem pf_X2_setFares_12 {l : Launch} {x : WX} {G : GT} {post : Mem → Prop} {K2 : Int → Mem → Prop} (X : Ax l x cX2_setFares RX2 6 (rmd 0) 67 G) (hr : RV cX2_setFares post G) (hK2 : ∀ (v2 : Int) (m : Mem), K2 v2 m → G 2 [(0, (2, 47)), (1, (2, 1)), (2, (0, v2))] [] m) : ∀ (n : Nat) (v2 : Int) (v3 : Int) (m : Mem) (_ : wp_X2_setFares_12 K2 post n v2 v3 m), G 12 [(0, (2, 47)), (1, (2, 1)), (2, (0, v2)), (3, (0, v3))] [] m := by
  intro n
  induction n with
  | zero => intro v2 v3 m h; exact absurd h id
  | succ n ih =>
  intro v2 v3 m h
  unfold wp_X2_setFares_12 at h
  refine g_iload_n 3 (i := 3) X dX2_setFares_12 rfl rfl ?_
  refine g_aload_n 0 (i := 0) X dX2_setFares_13 rfl rfl ?_
  refine g_getI X dX2_setFares_14 fX2_93 ?_
  refine g_icmp_ge X dX2_setFares_17 (tgt := 115) (by decide) (fun hc => ?_) (fun hc => ?_)
  · have h := h.1 hc
    refine g_iinc 2 (lv' := [(2, (0, w32 (v2 + 1))), (0, (2, 47)), (1, (2, 1)), (3, (0, v3))]) X dX2_setFares_115 rfl (by decide) rfl ?_
    refine g_goto X dX2_setFares_118 (tgt := 2) (by decide) ?_
    exact g_sub X [1, 2, 0] rfl (hK2 _ _ h)
  · have h := h.2 hc
    refine g_aload_n 0 (i := 0) X dX2_setFares_20 rfl rfl ?_
    refine g_getR X dX2_setFares_21 fX2_18 ?_
    refine g_iload_n 3 (i := 3) X dX2_setFares_24 rfl rfl ?_
    obtain ⟨hi, h⟩ := h
    refine g_iald X dX2_setFares_25 rfl hi ?_
    refine g_iconst X dX2_setFares_26 (by decide) ?_
    refine g_irem X dX2_setFares_27 (by decide) ?_
    refine g_aload_n 0 (i := 0) X dX2_setFares_28 rfl rfl ?_
    refine g_getR X dX2_setFares_29 fX2_15 ?_
    refine g_iload_n 2 (i := 2) X dX2_setFares_32 rfl rfl ?_
    obtain ⟨hi, h⟩ := h
    refine g_iald X dX2_setFares_33 rfl hi ?_
    refine g_iconst X dX2_setFares_34 (by decide) ?_
    refine g_irem X dX2_setFares_35 (by decide) ?_
    refine g_isub X dX2_setFares_36 ?_
    refine g_nmI (fun v4_37 ev4_37 => ?_)
    have h := h v4_37 ev4_37
    refine g_istore (i := 4) (lv' := [(4, (0, v4_37)), (0, (2, 47)), (1, (2, 1)), (2, (0, v2)), (3, (0, v3))]) X dX2_setFares_37 (by decide) rfl ?_
    refine g_aload_n 2 (i := 1) X dX2_setFares_39 rfl rfl ?_
    refine g_getR X dX2_setFares_40 fX2_96 ?_
    refine g_aload_n 1 (i := 0) X dX2_setFares_43 rfl rfl ?_
    refine g_getR X dX2_setFares_44 fX2_15 ?_
    refine g_iload_n 3 (i := 2) X dX2_setFares_47 rfl rfl ?_
    obtain ⟨hi, h⟩ := h
    refine g_iald X dX2_setFares_48 rfl hi ?_
    refine g_iconst X dX2_setFares_49 (by decide) ?_
    refine g_idiv X dX2_setFares_50 (by decide) ?_
    refine g_bipush X dX2_setFares_51 (by decide) ?_
    refine g_imul X dX2_setFares_53 ?_
    refine g_aload_n 1 (i := 0) X dX2_setFares_54 rfl rfl ?_
    refine g_getR X dX2_setFares_55 fX2_18 ?_
    refine g_iload_n 4 (i := 3) X dX2_setFares_58 rfl rfl ?_
    obtain ⟨hi, h⟩ := h
    refine g_iald X dX2_setFares_59 rfl hi ?_
    refine g_iconst X dX2_setFares_60 (by decide) ?_
    refine g_idiv X dX2_setFares_61 (by decide) ?_
    refine g_iadd X dX2_setFares_62 ?_
    obtain ⟨hi, h⟩ := h
    refine g_iald X dX2_setFares_63 rfl hi ?_
    refine g_nmI (fun v5_64 ev5_64 => ?_)
    have h := h v5_64 ev5_64
    refine g_istore (i := 5) (lv' := [(5, (0, v5_64)), (4, (0, v4_37)), (0, (2, 47)), (1, (2, 1)), (2, (0, v2)), (3, (0, v3))]) X dX2_setFares_64 (by decide) rfl ?_
    refine g_aload_n 2 (i := 0) X dX2_setFares_66 rfl rfl ?_
    refine g_getR X dX2_setFares_67 fX2_27 ?_
    refine g_iload_n 4 (i := 2) X dX2_setFares_70 rfl rfl ?_
    refine g_bipush X dX2_setFares_71 (by decide) ?_
    refine g_imul X dX2_setFares_73 ?_
    refine g_iload_n 5 (i := 3) X dX2_setFares_74 rfl rfl ?_
    refine g_iadd X dX2_setFares_75 ?_
    refine g_iload 1 (i := 4) X dX2_setFares_76 rfl ?_
    refine g_if_ge X dX2_setFares_78 (tgt := 86) (by decide) (fun hc => ?_) (fun hc => ?_)
    · have h := h.1 hc
      refine g_iload 0 (i := 5) X dX2_setFares_86 rfl ?_
      refine g_iload 1 (i := 4) X dX2_setFares_88 rfl ?_
      refine g_aload_n 2 (i := 0) X dX2_setFares_90 rfl rfl ?_
      refine g_getI X dX2_setFares_91 fX2_45 ?_
      refine g_imul X dX2_setFares_94 ?_
      refine g_iadd X dX2_setFares_95 ?_
      refine g_sub X [2, 3, 4, 5] rfl (pf_X2_setFares_96 X hr (fun v2_3 v3_3 m_3 h => ?_) _ _ _ _ _ h)
      · exact g_sub X [0, 1, 2, 3] rfl (ih _ _ _ h)
    · have h := h.2 hc
      refine g_ldc X dX2_setFares_81 (by unfold r32; omega) kX2_99 ?_
      refine g_goto X dX2_setFares_83 (tgt := 96) (by decide) ?_
      refine g_sub X [2, 3, 4, 5] rfl (pf_X2_setFares_96 X hr (fun v2_4 v3_4 m_4 h => ?_) _ _ _ _ _ h)
      · exact g_sub X [0, 1, 2, 3] rfl (ih _ _ _ h)
def wp_X2_setFares_2  (post : Mem → Prop) : Nat → Int → Mem → Prop
  | 0, _, _ => False
  | n + 1, v2, m =>
  ((m 47 2 ≤ v2 → (post m)) ∧
  (¬ m 47 2 ≤ v2 → (∃ n_6 : Nat, wp_X2_setFares_12 (fun v2_5 m_5 => wp_X2_setFares_2  post n v2_5 m_5) post n_6 v2 0 m)))
set_option maxRecDepth 100000 in
theorem pf_X2_setFares_2 {l : Launch} {x : WX} {G : GT} {post : Mem → Prop}  (X : Ax l x cX2_setFares RX2 6 (rmd 0) 67 G) (hr : RV cX2_setFares post G) : ∀ (n : Nat) (v2 : Int) (m : Mem) (_ : wp_X2_setFares_2  post n v2 m), G 2 [(0, (2, 47)), (1, (2, 1)), (2, (0, v2))] [] m := by
  intro n
  induction n with
  | zero => intro v2 m h; exact absurd h id
  | succ n ih =>
  intro v2 m h
  unfold wp_X2_setFares_2 at h
  refine g_iload_n 2 (i := 2) X dX2_setFares_2 rfl rfl ?_
  refine g_aload_n 0 (i := 0) X dX2_setFares_3 rfl rfl ?_
  refine g_getI X dX2_setFares_4 fX2_90 ?_
  refine g_icmp_ge X dX2_setFares_7 (tgt := 121) (by decide) (fun hc => ?_) (fun hc => ?_)
  · have h := h.1 hc
    exact hr _ _ _ _ dX2_setFares_121 h
  · have h := h.2 hc
    refine g_iconst X dX2_setFares_10 (by decide) ?_
    refine g_istore_n (i := 3) (lv' := [(3, (0, 0)), (0, (2, 47)), (1, (2, 1)), (2, (0, v2))]) X dX2_setFares_11 rfl (by decide) rfl ?_
    obtain ⟨n_6, h⟩ := h
    refine g_sub X [1, 2, 3, 0] rfl (pf_X2_setFares_12 X hr (fun v2_5 m_5 h => ?_) n_6 _ _ _ h)
    · exact g_sub X [0, 1, 2] rfl (ih _ _ h)
def wp_X2_setFares  (m : Mem) (post : Mem → Prop) : Prop :=
  ∃ n_7 : Nat, wp_X2_setFares_2  post n_7 0 m
set_option maxRecDepth 100000 in
theorem pf_X2_setFares {l : Launch} {x : WX} {G : GT} {post : Mem → Prop} (X : Ax l x cX2_setFares RX2 6 (rmd 0) 67 G) (hr : RV cX2_setFares post G)  (m : Mem) (h : wp_X2_setFares  m post) : G 0 [(0, (2, 47)), (1, (2, 1))] [] m := by
  unfold wp_X2_setFares at h
  refine g_iconst X dX2_setFares_0 (by decide) ?_
  refine g_istore_n (i := 2) (lv' := [(2, (0, 0)), (0, (2, 47)), (1, (2, 1))]) X dX2_setFares_1 rfl (by decide) rfl ?_
  obtain ⟨n_7, h⟩ := h
  refine g_sub X [1, 2, 0] rfl (pf_X2_setFares_2 X hr  n_7 _ _ h)
theorem im_X2_setFares (l : Launch) (x : WX)  (m : Mem) (post : Mem → Prop) (h : wp_X2_setFares  m post) : MetV l x 67 0 yX2_setFares cX2_setFares 6 [(2, 47), (2, 1)] m post := met_V (by decide) (Nat.le_of_ble_eq_true rfl) (fun _ X hr => pf_X2_setFares X hr  m h)
def wp_X2_isWanting_2  (post : Int → Mem → Prop) : Nat → Int → Mem → Prop
  | 0, _, _ => False
  | n + 1, v1, m =>
  ((m 47 3 ≤ v1 → (post 0 m)) ∧
  (¬ m 47 3 ≤ v1 → ((0 ≤ v1 ∧ v1 < 24) ∧ (((m 52 v1 ≤ 0 → (wp_X2_isWanting_2  post n (w32 (v1 + 1)) m)) ∧
  (¬ m 52 v1 ≤ 0 → (post 1 m)))))))
set_option maxRecDepth 100000 in
theorem pf_X2_isWanting_2 {l : Launch} {x : WX} {G : GT} {post : Int → Mem → Prop}  (X : Ax l x cX2_isWanting RX2 2 (rmd 0) 67 G) (hr : RZ cX2_isWanting post G) : ∀ (n : Nat) (v1 : Int) (m : Mem) (_ : wp_X2_isWanting_2  post n v1 m), G 2 [(0, (2, 47)), (1, (0, v1))] [] m := by
  intro n
  induction n with
  | zero => intro v1 m h; exact absurd h id
  | succ n ih =>
  intro v1 m h
  unfold wp_X2_isWanting_2 at h
  refine g_iload_n 1 (i := 1) X dX2_isWanting_2 rfl rfl ?_
  refine g_aload_n 0 (i := 0) X dX2_isWanting_3 rfl rfl ?_
  refine g_getI X dX2_isWanting_4 fX2_93 ?_
  refine g_icmp_ge X dX2_isWanting_7 (tgt := 27) (by decide) (fun hc => ?_) (fun hc => ?_)
  · have h := h.1 hc
    refine g_iconst X dX2_isWanting_27 (by decide) ?_
    exact hr _ _ _ _ _ dX2_isWanting_28 ⟨by decide, h⟩
  · have h := h.2 hc
    refine g_aload_n 0 (i := 0) X dX2_isWanting_10 rfl rfl ?_
    refine g_getR X dX2_isWanting_11 fX2_24 ?_
    refine g_iload_n 1 (i := 1) X dX2_isWanting_14 rfl rfl ?_
    obtain ⟨hi, h⟩ := h
    refine g_iald X dX2_isWanting_15 rfl hi ?_
    refine g_if_le X dX2_isWanting_16 (tgt := 21) (by decide) (fun hc => ?_) (fun hc => ?_)
    · have h := h.1 hc
      refine g_iinc 1 (lv' := [(1, (0, w32 (v1 + 1))), (0, (2, 47))]) X dX2_isWanting_21 rfl (by decide) rfl ?_
      refine g_goto X dX2_isWanting_24 (tgt := 2) (by decide) ?_
      exact g_sub X [1, 0] rfl (ih _ _ h)
    · have h := h.2 hc
      refine g_iconst X dX2_isWanting_19 (by decide) ?_
      exact hr _ _ _ _ _ dX2_isWanting_20 ⟨by decide, h⟩
def wp_X2_isWanting  (m : Mem) (post : Int → Mem → Prop) : Prop :=
  ∃ n_1 : Nat, wp_X2_isWanting_2  post n_1 0 m
set_option maxRecDepth 100000 in
theorem pf_X2_isWanting {l : Launch} {x : WX} {G : GT} {post : Int → Mem → Prop} (X : Ax l x cX2_isWanting RX2 2 (rmd 0) 67 G) (hr : RZ cX2_isWanting post G)  (m : Mem) (h : wp_X2_isWanting  m post) : G 0 [(0, (2, 47))] [] m := by
  unfold wp_X2_isWanting at h
  refine g_iconst X dX2_isWanting_0 (by decide) ?_
  refine g_istore_n (i := 1) (lv' := [(1, (0, 0)), (0, (2, 47))]) X dX2_isWanting_1 rfl (by decide) rfl ?_
  obtain ⟨n_1, h⟩ := h
  refine g_sub X [1, 0] rfl (pf_X2_isWanting_2 X hr  n_1 _ _ h)
theorem im_X2_isWanting (l : Launch) (x : WX)  (m : Mem) (post : Int → Mem → Prop) (h : wp_X2_isWanting  m post) : MetI l x 67 0 yX2_isWanting cX2_isWanting 2 .boolean [(2, 47)] m post := met_Z (by decide) (Nat.le_of_ble_eq_true rfl) (fun _ X hr => pf_X2_isWanting X hr  m h)
def wp_X2_spreadForth_74 (v1 : Int) (v2 : Int) (v3 : Int) (v4 : Int) (s0 : Int) (m : Mem) (K14 : Int → Int → Int → Mem → Prop) (post : Int → Mem → Prop) : Prop :=
  ((s0 = 0 → (K14 v1 v2 (w32 (v3 + 1)) m)) ∧
  (¬ s0 = 0 → ((0 ≤ v3 ∧ v3 < 24) ∧ (((m 56 v3 ≤ v4 → (K14 v1 v2 (w32 (v3 + 1)) m)) ∧
  (¬ m 56 v3 ≤ v4 → ((0 ≤ v3 ∧ v3 < 24) ∧ (∀ m99 : Mem, m99 = mset m 56 v3 v4 → ((0 ≤ v3 ∧ v3 < 24) ∧ (∀ m106 : Mem, m106 = mset m99 58 v3 v2 → (K14 1 v2 (w32 (v3 + 1)) m106)))))))))))
set_option maxRecDepth 100000 in
theorem pf_X2_spreadForth_74 {l : Launch} {x : WX} {G : GT} {post : Int → Mem → Prop} {K14 : Int → Int → Int → Mem → Prop} (X : Ax l x cX2_spreadForth RX2 6 (rmd 0) 67 G) (hr : RZ cX2_spreadForth post G) (hK14 : ∀ (v1 : Int) (v2 : Int) (v3 : Int) (m : Mem), K14 v1 v2 v3 m → G 14 [(0, (2, 47)), (1, (0, v1)), (2, (0, v2)), (3, (0, v3))] [] m) (v1 : Int) (v2 : Int) (v3 : Int) (v4 : Int) (s0 : Int) (m : Mem) (h : wp_X2_spreadForth_74 v1 v2 v3 v4 s0 m K14 post) : G 74 [(0, (2, 47)), (1, (0, v1)), (2, (0, v2)), (3, (0, v3)), (4, (0, v4))] [(0, s0)] m := by
  unfold wp_X2_spreadForth_74 at h
  refine g_istore (i := 5) (lv' := [(5, (0, s0)), (0, (2, 47)), (1, (0, v1)), (2, (0, v2)), (3, (0, v3)), (4, (0, v4))]) X dX2_spreadForth_74 (by decide) rfl ?_
  refine g_iload 0 (i := 5) X dX2_spreadForth_76 rfl ?_
  refine g_if_eq X dX2_spreadForth_78 (tgt := 109) (by decide) (fun hc => ?_) (fun hc => ?_)
  · have h := h.1 hc
    refine g_iinc 4 (lv' := [(3, (0, w32 (v3 + 1))), (5, (0, s0)), (0, (2, 47)), (1, (0, v1)), (2, (0, v2)), (4, (0, v4))]) X dX2_spreadForth_109 rfl (by decide) rfl ?_
    refine g_goto X dX2_spreadForth_112 (tgt := 14) (by decide) ?_
    exact g_sub X [2, 3, 4, 0] rfl (hK14 _ _ _ _ h)
  · have h := h.2 hc
    refine g_iload 5 (i := 4) X dX2_spreadForth_81 rfl ?_
    refine g_aload_n 1 (i := 0) X dX2_spreadForth_83 rfl rfl ?_
    refine g_getR X dX2_spreadForth_84 fX2_36 ?_
    refine g_iload_n 4 (i := 3) X dX2_spreadForth_87 rfl rfl ?_
    obtain ⟨hi, h⟩ := h
    refine g_iald X dX2_spreadForth_88 rfl hi ?_
    refine g_icmp_ge X dX2_spreadForth_89 (tgt := 109) (by decide) (fun hc => ?_) (fun hc => ?_)
    · have h := h.1 hc
      refine g_iinc 4 (lv' := [(3, (0, w32 (v3 + 1))), (5, (0, s0)), (0, (2, 47)), (1, (0, v1)), (2, (0, v2)), (4, (0, v4))]) X dX2_spreadForth_109 rfl (by decide) rfl ?_
      refine g_goto X dX2_spreadForth_112 (tgt := 14) (by decide) ?_
      exact g_sub X [2, 3, 4, 0] rfl (hK14 _ _ _ _ h)
    · have h := h.2 hc
      refine g_aload_n 1 (i := 0) X dX2_spreadForth_92 rfl rfl ?_
      refine g_getR X dX2_spreadForth_93 fX2_36 ?_
      refine g_iload_n 4 (i := 3) X dX2_spreadForth_96 rfl rfl ?_
      refine g_iload 5 (i := 4) X dX2_spreadForth_97 rfl ?_
      obtain ⟨hi, h⟩ := h
      refine g_iast X dX2_spreadForth_99 rfl hi (fun m99 em99 => ?_)
      have h := h m99 em99
      refine g_aload_n 1 (i := 0) X dX2_spreadForth_100 rfl rfl ?_
      refine g_getR X dX2_spreadForth_101 fX2_42 ?_
      refine g_iload_n 4 (i := 3) X dX2_spreadForth_104 rfl rfl ?_
      refine g_iload_n 3 (i := 2) X dX2_spreadForth_105 rfl rfl ?_
      obtain ⟨hi, h⟩ := h
      refine g_iast X dX2_spreadForth_106 rfl hi (fun m106 em106 => ?_)
      have h := h m106 em106
      refine g_iconst X dX2_spreadForth_107 (by decide) ?_
      refine g_istore_n (i := 1) (lv' := [(1, (0, 1)), (5, (0, s0)), (0, (2, 47)), (2, (0, v2)), (3, (0, v3)), (4, (0, v4))]) X dX2_spreadForth_108 rfl (by decide) rfl ?_
      refine g_iinc 4 (lv' := [(3, (0, w32 (v3 + 1))), (1, (0, 1)), (5, (0, s0)), (0, (2, 47)), (2, (0, v2)), (4, (0, v4))]) X dX2_spreadForth_109 rfl (by decide) rfl ?_
      refine g_goto X dX2_spreadForth_112 (tgt := 14) (by decide) ?_
      exact g_sub X [3, 1, 4, 0] rfl (hK14 _ _ _ _ h)
def wp_X2_spreadForth_73 (v1 : Int) (v2 : Int) (v3 : Int) (v4 : Int) (m : Mem) (K14 : Int → Int → Int → Mem → Prop) (post : Int → Mem → Prop) : Prop :=
  wp_X2_spreadForth_74 v1 v2 v3 v4 0 m (fun v1_2 v2_2 v3_2 m_2 => K14 v1_2 v2_2 v3_2 m_2) post
set_option maxRecDepth 100000 in
theorem pf_X2_spreadForth_73 {l : Launch} {x : WX} {G : GT} {post : Int → Mem → Prop} {K14 : Int → Int → Int → Mem → Prop} (X : Ax l x cX2_spreadForth RX2 6 (rmd 0) 67 G) (hr : RZ cX2_spreadForth post G) (hK14 : ∀ (v1 : Int) (v2 : Int) (v3 : Int) (m : Mem), K14 v1 v2 v3 m → G 14 [(0, (2, 47)), (1, (0, v1)), (2, (0, v2)), (3, (0, v3))] [] m) (v1 : Int) (v2 : Int) (v3 : Int) (v4 : Int) (m : Mem) (h : wp_X2_spreadForth_73 v1 v2 v3 v4 m K14 post) : G 73 [(0, (2, 47)), (1, (0, v1)), (2, (0, v2)), (3, (0, v3)), (4, (0, v4))] [] m := by
  unfold wp_X2_spreadForth_73 at h
  refine g_iconst X dX2_spreadForth_73 (by decide) ?_
  refine g_sub X [0, 1, 2, 3, 4] rfl (pf_X2_spreadForth_74 X hr (fun v1_2 v2_2 v3_2 m_2 h => ?_) _ _ _ _ _ _ h)
  · exact g_sub X [0, 1, 2, 3] rfl (hK14 _ _ _ _ h)
def wp_X2_spreadForth_14 (K4 : Int → Int → Mem → Prop) (post : Int → Mem → Prop) : Nat → Int → Int → Int → Mem → Prop
  | 0, _, _, _, _ => False
  | n + 1, v1, v2, v3, m =>
  ((m 47 3 ≤ v3 → (K4 v1 (w32 (v2 + 1)) m)) ∧
  (¬ m 47 3 ≤ v3 → ((0 ≤ v2 ∧ v2 < 24) ∧ ((0 ≤ w32 (w32 (v2 * 24) + v3) ∧ w32 (w32 (v2 * 24) + v3) < 576) ∧ (∀ v4_40 : Int, v4_40 = w32 (m 55 v2 + m 53 (w32 (w32 (v2 * 24) + v3))) → ((0 ≤ v2 ∧ v2 < 24) ∧ (((1000000 ≤ m 55 v2 → (wp_X2_spreadForth_73 v1 v2 v3 v4_40 m (fun v1_3 v2_3 v3_3 m_3 => wp_X2_spreadForth_14 K4 post n v1_3 v2_3 v3_3 m_3) post)) ∧
  (¬ 1000000 ≤ m 55 v2 → ((0 ≤ w32 (w32 (v2 * 24) + v3) ∧ w32 (w32 (v2 * 24) + v3) < 576) ∧ (((1000000 ≤ m 53 (w32 (w32 (v2 * 24) + v3)) → (wp_X2_spreadForth_73 v1 v2 v3 v4_40 m (fun v1_4 v2_4 v3_4 m_4 => wp_X2_spreadForth_14 K4 post n v1_4 v2_4 v3_4 m_4) post)) ∧
  (¬ 1000000 ≤ m 53 (w32 (w32 (v2 * 24) + v3)) → (wp_X2_spreadForth_74 v1 v2 v3 v4_40 1 m (fun v1_5 v2_5 v3_5 m_5 => wp_X2_spreadForth_14 K4 post n v1_5 v2_5 v3_5 m_5) post))))))))))))))
set_option maxRecDepth 100000 in
theorem pf_X2_spreadForth_14 {l : Launch} {x : WX} {G : GT} {post : Int → Mem → Prop} {K4 : Int → Int → Mem → Prop} (X : Ax l x cX2_spreadForth RX2 6 (rmd 0) 67 G) (hr : RZ cX2_spreadForth post G) (hK4 : ∀ (v1 : Int) (v2 : Int) (m : Mem), K4 v1 v2 m → G 4 [(0, (2, 47)), (1, (0, v1)), (2, (0, v2))] [] m) : ∀ (n : Nat) (v1 : Int) (v2 : Int) (v3 : Int) (m : Mem) (_ : wp_X2_spreadForth_14 K4 post n v1 v2 v3 m), G 14 [(0, (2, 47)), (1, (0, v1)), (2, (0, v2)), (3, (0, v3))] [] m := by
  intro n
  induction n with
  | zero => intro v1 v2 v3 m h; exact absurd h id
  | succ n ih =>
  intro v1 v2 v3 m h
  unfold wp_X2_spreadForth_14 at h
  refine g_iload_n 3 (i := 3) X dX2_spreadForth_14 rfl rfl ?_
  refine g_aload_n 0 (i := 0) X dX2_spreadForth_15 rfl rfl ?_
  refine g_getI X dX2_spreadForth_16 fX2_93 ?_
  refine g_icmp_ge X dX2_spreadForth_19 (tgt := 115) (by decide) (fun hc => ?_) (fun hc => ?_)
  · have h := h.1 hc
    refine g_iinc 2 (lv' := [(2, (0, w32 (v2 + 1))), (0, (2, 47)), (1, (0, v1)), (3, (0, v3))]) X dX2_spreadForth_115 rfl (by decide) rfl ?_
    refine g_goto X dX2_spreadForth_118 (tgt := 4) (by decide) ?_
    exact g_sub X [1, 2, 0] rfl (hK4 _ _ _ h)
  · have h := h.2 hc
    refine g_aload_n 0 (i := 0) X dX2_spreadForth_22 rfl rfl ?_
    refine g_getR X dX2_spreadForth_23 fX2_33 ?_
    refine g_iload_n 2 (i := 2) X dX2_spreadForth_26 rfl rfl ?_
    obtain ⟨hi, h⟩ := h
    refine g_iald X dX2_spreadForth_27 rfl hi ?_
    refine g_aload_n 0 (i := 0) X dX2_spreadForth_28 rfl rfl ?_
    refine g_getR X dX2_spreadForth_29 fX2_27 ?_
    refine g_iload_n 2 (i := 2) X dX2_spreadForth_32 rfl rfl ?_
    refine g_bipush X dX2_spreadForth_33 (by decide) ?_
    refine g_imul X dX2_spreadForth_35 ?_
    refine g_iload_n 3 (i := 3) X dX2_spreadForth_36 rfl rfl ?_
    refine g_iadd X dX2_spreadForth_37 ?_
    obtain ⟨hi, h⟩ := h
    refine g_iald X dX2_spreadForth_38 rfl hi ?_
    refine g_iadd X dX2_spreadForth_39 ?_
    refine g_nmI (fun v4_40 ev4_40 => ?_)
    have h := h v4_40 ev4_40
    refine g_istore (i := 4) (lv' := [(4, (0, v4_40)), (0, (2, 47)), (1, (0, v1)), (2, (0, v2)), (3, (0, v3))]) X dX2_spreadForth_40 (by decide) rfl ?_
    refine g_aload_n 1 (i := 0) X dX2_spreadForth_42 rfl rfl ?_
    refine g_getR X dX2_spreadForth_43 fX2_33 ?_
    refine g_iload_n 3 (i := 2) X dX2_spreadForth_46 rfl rfl ?_
    obtain ⟨hi, h⟩ := h
    refine g_iald X dX2_spreadForth_47 rfl hi ?_
    refine g_ldc X dX2_spreadForth_48 (by unfold r32; omega) kX2_99 ?_
    refine g_icmp_ge X dX2_spreadForth_50 (tgt := 73) (by decide) (fun hc => ?_) (fun hc => ?_)
    · have h := h.1 hc
      refine g_sub X [1, 2, 3, 4, 0] rfl (pf_X2_spreadForth_73 X hr (fun v1_3 v2_3 v3_3 m_3 h => ?_) _ _ _ _ _ h)
      · exact g_sub X [0, 1, 2, 3] rfl (ih _ _ _ _ h)
    · have h := h.2 hc
      refine g_aload_n 1 (i := 0) X dX2_spreadForth_53 rfl rfl ?_
      refine g_getR X dX2_spreadForth_54 fX2_27 ?_
      refine g_iload_n 3 (i := 2) X dX2_spreadForth_57 rfl rfl ?_
      refine g_bipush X dX2_spreadForth_58 (by decide) ?_
      refine g_imul X dX2_spreadForth_60 ?_
      refine g_iload_n 4 (i := 3) X dX2_spreadForth_61 rfl rfl ?_
      refine g_iadd X dX2_spreadForth_62 ?_
      obtain ⟨hi, h⟩ := h
      refine g_iald X dX2_spreadForth_63 rfl hi ?_
      refine g_ldc X dX2_spreadForth_64 (by unfold r32; omega) kX2_99 ?_
      refine g_icmp_ge X dX2_spreadForth_66 (tgt := 73) (by decide) (fun hc => ?_) (fun hc => ?_)
      · have h := h.1 hc
        refine g_sub X [1, 2, 3, 4, 0] rfl (pf_X2_spreadForth_73 X hr (fun v1_4 v2_4 v3_4 m_4 h => ?_) _ _ _ _ _ h)
        · exact g_sub X [0, 1, 2, 3] rfl (ih _ _ _ _ h)
      · have h := h.2 hc
        refine g_iconst X dX2_spreadForth_69 (by decide) ?_
        refine g_goto X dX2_spreadForth_70 (tgt := 74) (by decide) ?_
        refine g_sub X [1, 2, 3, 4, 0] rfl (pf_X2_spreadForth_74 X hr (fun v1_5 v2_5 v3_5 m_5 h => ?_) _ _ _ _ _ _ h)
        · exact g_sub X [0, 1, 2, 3] rfl (ih _ _ _ _ h)
def wp_X2_spreadForth_4  (post : Int → Mem → Prop) : Nat → Int → Int → Mem → Prop
  | 0, _, _, _ => False
  | n + 1, v1, v2, m =>
  ((m 47 2 ≤ v2 → ((v1 = 0 ∨ v1 = 1) ∧ post v1 m)) ∧
  (¬ m 47 2 ≤ v2 → (∃ n_7 : Nat, wp_X2_spreadForth_14 (fun v1_6 v2_6 m_6 => wp_X2_spreadForth_4  post n v1_6 v2_6 m_6) post n_7 v1 v2 0 m)))
set_option maxRecDepth 100000 in
theorem pf_X2_spreadForth_4 {l : Launch} {x : WX} {G : GT} {post : Int → Mem → Prop}  (X : Ax l x cX2_spreadForth RX2 6 (rmd 0) 67 G) (hr : RZ cX2_spreadForth post G) : ∀ (n : Nat) (v1 : Int) (v2 : Int) (m : Mem) (_ : wp_X2_spreadForth_4  post n v1 v2 m), G 4 [(0, (2, 47)), (1, (0, v1)), (2, (0, v2))] [] m := by
  intro n
  induction n with
  | zero => intro v1 v2 m h; exact absurd h id
  | succ n ih =>
  intro v1 v2 m h
  unfold wp_X2_spreadForth_4 at h
  refine g_iload_n 2 (i := 2) X dX2_spreadForth_4 rfl rfl ?_
  refine g_aload_n 0 (i := 0) X dX2_spreadForth_5 rfl rfl ?_
  refine g_getI X dX2_spreadForth_6 fX2_90 ?_
  refine g_icmp_ge X dX2_spreadForth_9 (tgt := 121) (by decide) (fun hc => ?_) (fun hc => ?_)
  · have h := h.1 hc
    refine g_iload_n 1 (i := 1) X dX2_spreadForth_121 rfl rfl ?_
    exact hr _ _ _ _ _ dX2_spreadForth_122 h
  · have h := h.2 hc
    refine g_iconst X dX2_spreadForth_12 (by decide) ?_
    refine g_istore_n (i := 3) (lv' := [(3, (0, 0)), (0, (2, 47)), (1, (0, v1)), (2, (0, v2))]) X dX2_spreadForth_13 rfl (by decide) rfl ?_
    obtain ⟨n_7, h⟩ := h
    refine g_sub X [1, 2, 3, 0] rfl (pf_X2_spreadForth_14 X hr (fun v1_6 v2_6 m_6 h => ?_) n_7 _ _ _ _ h)
    · exact g_sub X [0, 1, 2] rfl (ih _ _ _ h)
def wp_X2_spreadForth  (m : Mem) (post : Int → Mem → Prop) : Prop :=
  ∃ n_8 : Nat, wp_X2_spreadForth_4  post n_8 0 0 m
set_option maxRecDepth 100000 in
theorem pf_X2_spreadForth {l : Launch} {x : WX} {G : GT} {post : Int → Mem → Prop} (X : Ax l x cX2_spreadForth RX2 6 (rmd 0) 67 G) (hr : RZ cX2_spreadForth post G)  (m : Mem) (h : wp_X2_spreadForth  m post) : G 0 [(0, (2, 47))] [] m := by
  unfold wp_X2_spreadForth at h
  refine g_iconst X dX2_spreadForth_0 (by decide) ?_
  refine g_istore_n (i := 1) (lv' := [(1, (0, 0)), (0, (2, 47))]) X dX2_spreadForth_1 rfl (by decide) rfl ?_
  refine g_iconst X dX2_spreadForth_2 (by decide) ?_
  refine g_istore_n (i := 2) (lv' := [(2, (0, 0)), (1, (0, 0)), (0, (2, 47))]) X dX2_spreadForth_3 rfl (by decide) rfl ?_
  obtain ⟨n_8, h⟩ := h
  refine g_sub X [2, 1, 0] rfl (pf_X2_spreadForth_4 X hr  n_8 _ _ _ h)
theorem im_X2_spreadForth (l : Launch) (x : WX)  (m : Mem) (post : Int → Mem → Prop) (h : wp_X2_spreadForth  m post) : MetI l x 67 0 yX2_spreadForth cX2_spreadForth 6 .boolean [(2, 47)] m post := met_Z (by decide) (Nat.le_of_ble_eq_true rfl) (fun _ X hr => pf_X2_spreadForth X hr  m h)
def wp_X2_spreadBack_72 (v1 : Int) (v2 : Int) (v3 : Int) (v4 : Int) (s0 : Int) (m : Mem) (K14 : Int → Int → Int → Mem → Prop) (post : Int → Mem → Prop) : Prop :=
  ((s0 = 0 → (K14 v1 v2 (w32 (v3 + 1)) m)) ∧
  (¬ s0 = 0 → ((0 ≤ v2 ∧ v2 < 24) ∧ (((m 55 v2 ≤ v4 → (K14 v1 v2 (w32 (v3 + 1)) m)) ∧
  (¬ m 55 v2 ≤ v4 → ((0 ≤ v2 ∧ v2 < 24) ∧ (∀ m97 : Mem, m97 = mset m 55 v2 v4 → ((0 ≤ v2 ∧ v2 < 24) ∧ (∀ m104 : Mem, m104 = mset m97 57 v2 v3 → (K14 1 v2 (w32 (v3 + 1)) m104)))))))))))
set_option maxRecDepth 100000 in
theorem pf_X2_spreadBack_72 {l : Launch} {x : WX} {G : GT} {post : Int → Mem → Prop} {K14 : Int → Int → Int → Mem → Prop} (X : Ax l x cX2_spreadBack RX2 6 (rmd 0) 67 G) (hr : RZ cX2_spreadBack post G) (hK14 : ∀ (v1 : Int) (v2 : Int) (v3 : Int) (m : Mem), K14 v1 v2 v3 m → G 14 [(0, (2, 47)), (1, (0, v1)), (2, (0, v2)), (3, (0, v3))] [] m) (v1 : Int) (v2 : Int) (v3 : Int) (v4 : Int) (s0 : Int) (m : Mem) (h : wp_X2_spreadBack_72 v1 v2 v3 v4 s0 m K14 post) : G 72 [(0, (2, 47)), (1, (0, v1)), (2, (0, v2)), (3, (0, v3)), (4, (0, v4))] [(0, s0)] m := by
  unfold wp_X2_spreadBack_72 at h
  refine g_istore (i := 5) (lv' := [(5, (0, s0)), (0, (2, 47)), (1, (0, v1)), (2, (0, v2)), (3, (0, v3)), (4, (0, v4))]) X dX2_spreadBack_72 (by decide) rfl ?_
  refine g_iload 0 (i := 5) X dX2_spreadBack_74 rfl ?_
  refine g_if_eq X dX2_spreadBack_76 (tgt := 107) (by decide) (fun hc => ?_) (fun hc => ?_)
  · have h := h.1 hc
    refine g_iinc 4 (lv' := [(3, (0, w32 (v3 + 1))), (5, (0, s0)), (0, (2, 47)), (1, (0, v1)), (2, (0, v2)), (4, (0, v4))]) X dX2_spreadBack_107 rfl (by decide) rfl ?_
    refine g_goto X dX2_spreadBack_110 (tgt := 14) (by decide) ?_
    exact g_sub X [2, 3, 4, 0] rfl (hK14 _ _ _ _ h)
  · have h := h.2 hc
    refine g_iload 5 (i := 4) X dX2_spreadBack_79 rfl ?_
    refine g_aload_n 1 (i := 0) X dX2_spreadBack_81 rfl rfl ?_
    refine g_getR X dX2_spreadBack_82 fX2_33 ?_
    refine g_iload_n 3 (i := 2) X dX2_spreadBack_85 rfl rfl ?_
    obtain ⟨hi, h⟩ := h
    refine g_iald X dX2_spreadBack_86 rfl hi ?_
    refine g_icmp_ge X dX2_spreadBack_87 (tgt := 107) (by decide) (fun hc => ?_) (fun hc => ?_)
    · have h := h.1 hc
      refine g_iinc 4 (lv' := [(3, (0, w32 (v3 + 1))), (5, (0, s0)), (0, (2, 47)), (1, (0, v1)), (2, (0, v2)), (4, (0, v4))]) X dX2_spreadBack_107 rfl (by decide) rfl ?_
      refine g_goto X dX2_spreadBack_110 (tgt := 14) (by decide) ?_
      exact g_sub X [2, 3, 4, 0] rfl (hK14 _ _ _ _ h)
    · have h := h.2 hc
      refine g_aload_n 1 (i := 0) X dX2_spreadBack_90 rfl rfl ?_
      refine g_getR X dX2_spreadBack_91 fX2_33 ?_
      refine g_iload_n 3 (i := 2) X dX2_spreadBack_94 rfl rfl ?_
      refine g_iload 5 (i := 4) X dX2_spreadBack_95 rfl ?_
      obtain ⟨hi, h⟩ := h
      refine g_iast X dX2_spreadBack_97 rfl hi (fun m97 em97 => ?_)
      have h := h m97 em97
      refine g_aload_n 1 (i := 0) X dX2_spreadBack_98 rfl rfl ?_
      refine g_getR X dX2_spreadBack_99 fX2_39 ?_
      refine g_iload_n 3 (i := 2) X dX2_spreadBack_102 rfl rfl ?_
      refine g_iload_n 4 (i := 3) X dX2_spreadBack_103 rfl rfl ?_
      obtain ⟨hi, h⟩ := h
      refine g_iast X dX2_spreadBack_104 rfl hi (fun m104 em104 => ?_)
      have h := h m104 em104
      refine g_iconst X dX2_spreadBack_105 (by decide) ?_
      refine g_istore_n (i := 1) (lv' := [(1, (0, 1)), (5, (0, s0)), (0, (2, 47)), (2, (0, v2)), (3, (0, v3)), (4, (0, v4))]) X dX2_spreadBack_106 rfl (by decide) rfl ?_
      refine g_iinc 4 (lv' := [(3, (0, w32 (v3 + 1))), (1, (0, 1)), (5, (0, s0)), (0, (2, 47)), (2, (0, v2)), (4, (0, v4))]) X dX2_spreadBack_107 rfl (by decide) rfl ?_
      refine g_goto X dX2_spreadBack_110 (tgt := 14) (by decide) ?_
      exact g_sub X [3, 1, 4, 0] rfl (hK14 _ _ _ _ h)
def wp_X2_spreadBack_71 (v1 : Int) (v2 : Int) (v3 : Int) (v4 : Int) (m : Mem) (K14 : Int → Int → Int → Mem → Prop) (post : Int → Mem → Prop) : Prop :=
  wp_X2_spreadBack_72 v1 v2 v3 v4 0 m (fun v1_2 v2_2 v3_2 m_2 => K14 v1_2 v2_2 v3_2 m_2) post
set_option maxRecDepth 100000 in
theorem pf_X2_spreadBack_71 {l : Launch} {x : WX} {G : GT} {post : Int → Mem → Prop} {K14 : Int → Int → Int → Mem → Prop} (X : Ax l x cX2_spreadBack RX2 6 (rmd 0) 67 G) (hr : RZ cX2_spreadBack post G) (hK14 : ∀ (v1 : Int) (v2 : Int) (v3 : Int) (m : Mem), K14 v1 v2 v3 m → G 14 [(0, (2, 47)), (1, (0, v1)), (2, (0, v2)), (3, (0, v3))] [] m) (v1 : Int) (v2 : Int) (v3 : Int) (v4 : Int) (m : Mem) (h : wp_X2_spreadBack_71 v1 v2 v3 v4 m K14 post) : G 71 [(0, (2, 47)), (1, (0, v1)), (2, (0, v2)), (3, (0, v3)), (4, (0, v4))] [] m := by
  unfold wp_X2_spreadBack_71 at h
  refine g_iconst X dX2_spreadBack_71 (by decide) ?_
  refine g_sub X [0, 1, 2, 3, 4] rfl (pf_X2_spreadBack_72 X hr (fun v1_2 v2_2 v3_2 m_2 h => ?_) _ _ _ _ _ _ h)
  · exact g_sub X [0, 1, 2, 3] rfl (hK14 _ _ _ _ h)
def wp_X2_spreadBack_14 (K4 : Int → Int → Mem → Prop) (post : Int → Mem → Prop) : Nat → Int → Int → Int → Mem → Prop
  | 0, _, _, _, _ => False
  | n + 1, v1, v2, v3, m =>
  ((m 47 3 ≤ v3 → (K4 v1 (w32 (v2 + 1)) m)) ∧
  (¬ m 47 3 ≤ v3 → ((0 ≤ v3 ∧ v3 < 24) ∧ ((0 ≤ w32 (w32 (v2 * 24) + v3) ∧ w32 (w32 (v2 * 24) + v3) < 576) ∧ (∀ v4_40 : Int, v4_40 = w32 (m 56 v3 - m 53 (w32 (w32 (v2 * 24) + v3))) → ((0 ≤ v3 ∧ v3 < 24) ∧ (((1000000 ≤ m 56 v3 → (wp_X2_spreadBack_71 v1 v2 v3 v4_40 m (fun v1_3 v2_3 v3_3 m_3 => wp_X2_spreadBack_14 K4 post n v1_3 v2_3 v3_3 m_3) post)) ∧
  (¬ 1000000 ≤ m 56 v3 → ((0 ≤ w32 (w32 (v2 * 24) + v3) ∧ w32 (w32 (v2 * 24) + v3) < 576) ∧ (((m 54 (w32 (w32 (v2 * 24) + v3)) ≤ 0 → (wp_X2_spreadBack_71 v1 v2 v3 v4_40 m (fun v1_4 v2_4 v3_4 m_4 => wp_X2_spreadBack_14 K4 post n v1_4 v2_4 v3_4 m_4) post)) ∧
  (¬ m 54 (w32 (w32 (v2 * 24) + v3)) ≤ 0 → (wp_X2_spreadBack_72 v1 v2 v3 v4_40 1 m (fun v1_5 v2_5 v3_5 m_5 => wp_X2_spreadBack_14 K4 post n v1_5 v2_5 v3_5 m_5) post))))))))))))))
set_option maxRecDepth 100000 in
theorem pf_X2_spreadBack_14 {l : Launch} {x : WX} {G : GT} {post : Int → Mem → Prop} {K4 : Int → Int → Mem → Prop} (X : Ax l x cX2_spreadBack RX2 6 (rmd 0) 67 G) (hr : RZ cX2_spreadBack post G) (hK4 : ∀ (v1 : Int) (v2 : Int) (m : Mem), K4 v1 v2 m → G 4 [(0, (2, 47)), (1, (0, v1)), (2, (0, v2))] [] m) : ∀ (n : Nat) (v1 : Int) (v2 : Int) (v3 : Int) (m : Mem) (_ : wp_X2_spreadBack_14 K4 post n v1 v2 v3 m), G 14 [(0, (2, 47)), (1, (0, v1)), (2, (0, v2)), (3, (0, v3))] [] m := by
  intro n
  induction n with
  | zero => intro v1 v2 v3 m h; exact absurd h id
  | succ n ih =>
  intro v1 v2 v3 m h
  unfold wp_X2_spreadBack_14 at h
  refine g_iload_n 3 (i := 3) X dX2_spreadBack_14 rfl rfl ?_
  refine g_aload_n 0 (i := 0) X dX2_spreadBack_15 rfl rfl ?_
  refine g_getI X dX2_spreadBack_16 fX2_93 ?_
  refine g_icmp_ge X dX2_spreadBack_19 (tgt := 113) (by decide) (fun hc => ?_) (fun hc => ?_)
  · have h := h.1 hc
    refine g_iinc 2 (lv' := [(2, (0, w32 (v2 + 1))), (0, (2, 47)), (1, (0, v1)), (3, (0, v3))]) X dX2_spreadBack_113 rfl (by decide) rfl ?_
    refine g_goto X dX2_spreadBack_116 (tgt := 4) (by decide) ?_
    exact g_sub X [1, 2, 0] rfl (hK4 _ _ _ h)
  · have h := h.2 hc
    refine g_aload_n 0 (i := 0) X dX2_spreadBack_22 rfl rfl ?_
    refine g_getR X dX2_spreadBack_23 fX2_36 ?_
    refine g_iload_n 3 (i := 3) X dX2_spreadBack_26 rfl rfl ?_
    obtain ⟨hi, h⟩ := h
    refine g_iald X dX2_spreadBack_27 rfl hi ?_
    refine g_aload_n 0 (i := 0) X dX2_spreadBack_28 rfl rfl ?_
    refine g_getR X dX2_spreadBack_29 fX2_27 ?_
    refine g_iload_n 2 (i := 2) X dX2_spreadBack_32 rfl rfl ?_
    refine g_bipush X dX2_spreadBack_33 (by decide) ?_
    refine g_imul X dX2_spreadBack_35 ?_
    refine g_iload_n 3 (i := 3) X dX2_spreadBack_36 rfl rfl ?_
    refine g_iadd X dX2_spreadBack_37 ?_
    obtain ⟨hi, h⟩ := h
    refine g_iald X dX2_spreadBack_38 rfl hi ?_
    refine g_isub X dX2_spreadBack_39 ?_
    refine g_nmI (fun v4_40 ev4_40 => ?_)
    have h := h v4_40 ev4_40
    refine g_istore (i := 4) (lv' := [(4, (0, v4_40)), (0, (2, 47)), (1, (0, v1)), (2, (0, v2)), (3, (0, v3))]) X dX2_spreadBack_40 (by decide) rfl ?_
    refine g_aload_n 1 (i := 0) X dX2_spreadBack_42 rfl rfl ?_
    refine g_getR X dX2_spreadBack_43 fX2_36 ?_
    refine g_iload_n 4 (i := 3) X dX2_spreadBack_46 rfl rfl ?_
    obtain ⟨hi, h⟩ := h
    refine g_iald X dX2_spreadBack_47 rfl hi ?_
    refine g_ldc X dX2_spreadBack_48 (by unfold r32; omega) kX2_99 ?_
    refine g_icmp_ge X dX2_spreadBack_50 (tgt := 71) (by decide) (fun hc => ?_) (fun hc => ?_)
    · have h := h.1 hc
      refine g_sub X [1, 2, 3, 4, 0] rfl (pf_X2_spreadBack_71 X hr (fun v1_3 v2_3 v3_3 m_3 h => ?_) _ _ _ _ _ h)
      · exact g_sub X [0, 1, 2, 3] rfl (ih _ _ _ _ h)
    · have h := h.2 hc
      refine g_aload_n 1 (i := 0) X dX2_spreadBack_53 rfl rfl ?_
      refine g_getR X dX2_spreadBack_54 fX2_30 ?_
      refine g_iload_n 3 (i := 2) X dX2_spreadBack_57 rfl rfl ?_
      refine g_bipush X dX2_spreadBack_58 (by decide) ?_
      refine g_imul X dX2_spreadBack_60 ?_
      refine g_iload_n 4 (i := 3) X dX2_spreadBack_61 rfl rfl ?_
      refine g_iadd X dX2_spreadBack_62 ?_
      obtain ⟨hi, h⟩ := h
      refine g_iald X dX2_spreadBack_63 rfl hi ?_
      refine g_if_le X dX2_spreadBack_64 (tgt := 71) (by decide) (fun hc => ?_) (fun hc => ?_)
      · have h := h.1 hc
        refine g_sub X [1, 2, 3, 4, 0] rfl (pf_X2_spreadBack_71 X hr (fun v1_4 v2_4 v3_4 m_4 h => ?_) _ _ _ _ _ h)
        · exact g_sub X [0, 1, 2, 3] rfl (ih _ _ _ _ h)
      · have h := h.2 hc
        refine g_iconst X dX2_spreadBack_67 (by decide) ?_
        refine g_goto X dX2_spreadBack_68 (tgt := 72) (by decide) ?_
        refine g_sub X [1, 2, 3, 4, 0] rfl (pf_X2_spreadBack_72 X hr (fun v1_5 v2_5 v3_5 m_5 h => ?_) _ _ _ _ _ _ h)
        · exact g_sub X [0, 1, 2, 3] rfl (ih _ _ _ _ h)
def wp_X2_spreadBack_4  (post : Int → Mem → Prop) : Nat → Int → Int → Mem → Prop
  | 0, _, _, _ => False
  | n + 1, v1, v2, m =>
  ((m 47 2 ≤ v2 → ((v1 = 0 ∨ v1 = 1) ∧ post v1 m)) ∧
  (¬ m 47 2 ≤ v2 → (∃ n_7 : Nat, wp_X2_spreadBack_14 (fun v1_6 v2_6 m_6 => wp_X2_spreadBack_4  post n v1_6 v2_6 m_6) post n_7 v1 v2 0 m)))
set_option maxRecDepth 100000 in
theorem pf_X2_spreadBack_4 {l : Launch} {x : WX} {G : GT} {post : Int → Mem → Prop}  (X : Ax l x cX2_spreadBack RX2 6 (rmd 0) 67 G) (hr : RZ cX2_spreadBack post G) : ∀ (n : Nat) (v1 : Int) (v2 : Int) (m : Mem) (_ : wp_X2_spreadBack_4  post n v1 v2 m), G 4 [(0, (2, 47)), (1, (0, v1)), (2, (0, v2))] [] m := by
  intro n
  induction n with
  | zero => intro v1 v2 m h; exact absurd h id
  | succ n ih =>
  intro v1 v2 m h
  unfold wp_X2_spreadBack_4 at h
  refine g_iload_n 2 (i := 2) X dX2_spreadBack_4 rfl rfl ?_
  refine g_aload_n 0 (i := 0) X dX2_spreadBack_5 rfl rfl ?_
  refine g_getI X dX2_spreadBack_6 fX2_90 ?_
  refine g_icmp_ge X dX2_spreadBack_9 (tgt := 119) (by decide) (fun hc => ?_) (fun hc => ?_)
  · have h := h.1 hc
    refine g_iload_n 1 (i := 1) X dX2_spreadBack_119 rfl rfl ?_
    exact hr _ _ _ _ _ dX2_spreadBack_120 h
  · have h := h.2 hc
    refine g_iconst X dX2_spreadBack_12 (by decide) ?_
    refine g_istore_n (i := 3) (lv' := [(3, (0, 0)), (0, (2, 47)), (1, (0, v1)), (2, (0, v2))]) X dX2_spreadBack_13 rfl (by decide) rfl ?_
    obtain ⟨n_7, h⟩ := h
    refine g_sub X [1, 2, 3, 0] rfl (pf_X2_spreadBack_14 X hr (fun v1_6 v2_6 m_6 h => ?_) n_7 _ _ _ _ h)
    · exact g_sub X [0, 1, 2] rfl (ih _ _ _ h)
def wp_X2_spreadBack  (m : Mem) (post : Int → Mem → Prop) : Prop :=
  ∃ n_8 : Nat, wp_X2_spreadBack_4  post n_8 0 0 m
set_option maxRecDepth 100000 in
theorem pf_X2_spreadBack {l : Launch} {x : WX} {G : GT} {post : Int → Mem → Prop} (X : Ax l x cX2_spreadBack RX2 6 (rmd 0) 67 G) (hr : RZ cX2_spreadBack post G)  (m : Mem) (h : wp_X2_spreadBack  m post) : G 0 [(0, (2, 47))] [] m := by
  unfold wp_X2_spreadBack at h
  refine g_iconst X dX2_spreadBack_0 (by decide) ?_
  refine g_istore_n (i := 1) (lv' := [(1, (0, 0)), (0, (2, 47))]) X dX2_spreadBack_1 rfl (by decide) rfl ?_
  refine g_iconst X dX2_spreadBack_2 (by decide) ?_
  refine g_istore_n (i := 2) (lv' := [(2, (0, 0)), (1, (0, 0)), (0, (2, 47))]) X dX2_spreadBack_3 rfl (by decide) rfl ?_
  obtain ⟨n_8, h⟩ := h
  refine g_sub X [2, 1, 0] rfl (pf_X2_spreadBack_4 X hr  n_8 _ _ _ h)
theorem im_X2_spreadBack (l : Launch) (x : WX)  (m : Mem) (post : Int → Mem → Prop) (h : wp_X2_spreadBack  m post) : MetI l x 67 0 yX2_spreadBack cX2_spreadBack 6 .boolean [(2, 47)] m post := met_Z (by decide) (Nat.le_of_ble_eq_true rfl) (fun _ X hr => pf_X2_spreadBack X hr  m h)
def wp_X2_spread_30 (v1 : Int) (s0 : Int) (s1 : Int) (m : Mem) (K2 : Int → Mem → Prop) (post : Mem → Prop) : Prop :=
  (0 ≤ s1 ∧ s1 < 24) ∧ (∀ m30 : Mem, m30 = mset m 55 s1 s0 → ((0 ≤ v1 ∧ v1 < 24) ∧ (∀ m37 : Mem, m37 = mset m30 57 v1 (-1) → (K2 (w32 (v1 + 1)) m37))))
set_option maxRecDepth 100000 in
theorem pf_X2_spread_30 {l : Launch} {x : WX} {G : GT} {post : Mem → Prop} {K2 : Int → Mem → Prop} (X : Ax l x cX2_spread RX2 3 (rmd 1) 67 G) (hr : RV cX2_spread post G) (hK2 : ∀ (v1 : Int) (m : Mem), K2 v1 m → G 2 [(0, (2, 47)), (1, (0, v1))] [] m) (v1 : Int) (s0 : Int) (s1 : Int) (m : Mem) (h : wp_X2_spread_30 v1 s0 s1 m K2 post) : G 30 [(0, (2, 47)), (1, (0, v1))] [(0, s0), (0, s1), (2, 55)] m := by
  unfold wp_X2_spread_30 at h
  obtain ⟨hi, h⟩ := h
  refine g_iast X dX2_spread_30 rfl hi (fun m30 em30 => ?_)
  have h := h m30 em30
  refine g_aload_n 0 (i := 0) X dX2_spread_31 rfl rfl ?_
  refine g_getR X dX2_spread_32 fX2_39 ?_
  refine g_iload_n 1 (i := 1) X dX2_spread_35 rfl rfl ?_
  refine g_iconst X dX2_spread_36 (by decide) ?_
  obtain ⟨hi, h⟩ := h
  refine g_iast X dX2_spread_37 rfl hi (fun m37 em37 => ?_)
  have h := h m37 em37
  refine g_iinc 1 (lv' := [(1, (0, w32 (v1 + 1))), (0, (2, 47))]) X dX2_spread_38 rfl (by decide) rfl ?_
  refine g_goto X dX2_spread_41 (tgt := 2) (by decide) ?_
  exact g_sub X [1, 0] rfl (hK2 _ _ h)
def wp_X2_spread_2 (K46 : Int → Mem → Prop) (post : Mem → Prop) : Nat → Int → Mem → Prop
  | 0, _, _ => False
  | n + 1, v1, m =>
  ((m 47 2 ≤ v1 → (K46 0 m)) ∧
  (¬ m 47 2 ≤ v1 → ((0 ≤ v1 ∧ v1 < 24) ∧ (((m 51 v1 ≤ 0 → (wp_X2_spread_30 v1 1000000 v1 m (fun v1_1 m_1 => wp_X2_spread_2 K46 post n v1_1 m_1) post)) ∧
  (¬ m 51 v1 ≤ 0 → (wp_X2_spread_30 v1 0 v1 m (fun v1_2 m_2 => wp_X2_spread_2 K46 post n v1_2 m_2) post)))))))
set_option maxRecDepth 100000 in
theorem pf_X2_spread_2 {l : Launch} {x : WX} {G : GT} {post : Mem → Prop} {K46 : Int → Mem → Prop} (X : Ax l x cX2_spread RX2 3 (rmd 1) 67 G) (hr : RV cX2_spread post G) (hK46 : ∀ (v1 : Int) (m : Mem), K46 v1 m → G 46 [(0, (2, 47)), (1, (0, v1))] [] m) : ∀ (n : Nat) (v1 : Int) (m : Mem) (_ : wp_X2_spread_2 K46 post n v1 m), G 2 [(0, (2, 47)), (1, (0, v1))] [] m := by
  intro n
  induction n with
  | zero => intro v1 m h; exact absurd h id
  | succ n ih =>
  intro v1 m h
  unfold wp_X2_spread_2 at h
  refine g_iload_n 1 (i := 1) X dX2_spread_2 rfl rfl ?_
  refine g_aload_n 0 (i := 0) X dX2_spread_3 rfl rfl ?_
  refine g_getI X dX2_spread_4 fX2_90 ?_
  refine g_icmp_ge X dX2_spread_7 (tgt := 44) (by decide) (fun hc => ?_) (fun hc => ?_)
  · have h := h.1 hc
    refine g_iconst X dX2_spread_44 (by decide) ?_
    refine g_istore_n (i := 1) (lv' := [(1, (0, 0)), (0, (2, 47))]) X dX2_spread_45 rfl (by decide) rfl ?_
    exact g_sub X [1, 0] rfl (hK46 _ _ h)
  · have h := h.2 hc
    refine g_aload_n 0 (i := 0) X dX2_spread_10 rfl rfl ?_
    refine g_getR X dX2_spread_11 fX2_33 ?_
    refine g_iload_n 1 (i := 1) X dX2_spread_14 rfl rfl ?_
    refine g_aload_n 0 (i := 0) X dX2_spread_15 rfl rfl ?_
    refine g_getR X dX2_spread_16 fX2_21 ?_
    refine g_iload_n 1 (i := 1) X dX2_spread_19 rfl rfl ?_
    obtain ⟨hi, h⟩ := h
    refine g_iald X dX2_spread_20 rfl hi ?_
    refine g_if_le X dX2_spread_21 (tgt := 28) (by decide) (fun hc => ?_) (fun hc => ?_)
    · have h := h.1 hc
      refine g_ldc X dX2_spread_28 (by unfold r32; omega) kX2_99 ?_
      refine g_sub X [0, 1] rfl (pf_X2_spread_30 X hr (fun v1_1 m_1 h => ?_) _ _ _ _ h)
      · exact g_sub X [0, 1] rfl (ih _ _ h)
    · have h := h.2 hc
      refine g_iconst X dX2_spread_24 (by decide) ?_
      refine g_goto X dX2_spread_25 (tgt := 30) (by decide) ?_
      refine g_sub X [0, 1] rfl (pf_X2_spread_30 X hr (fun v1_2 m_2 h => ?_) _ _ _ _ h)
      · exact g_sub X [0, 1] rfl (ih _ _ h)
def wp_X2_spread_46 (K79 : Int → Int → Mem → Prop) (post : Mem → Prop) : Nat → Int → Mem → Prop
  | 0, _, _ => False
  | n + 1, v1, m =>
  ((m 47 3 ≤ v1 → (K79 1 0 m)) ∧
  (¬ m 47 3 ≤ v1 → ((0 ≤ v1 ∧ v1 < 24) ∧ (∀ m61 : Mem, m61 = mset m 56 v1 1000000 → ((0 ≤ v1 ∧ v1 < 24) ∧ (∀ m68 : Mem, m68 = mset m61 58 v1 (-1) → (wp_X2_spread_46 K79 post n (w32 (v1 + 1)) m68)))))))
set_option maxRecDepth 100000 in
theorem pf_X2_spread_46 {l : Launch} {x : WX} {G : GT} {post : Mem → Prop} {K79 : Int → Int → Mem → Prop} (X : Ax l x cX2_spread RX2 3 (rmd 1) 67 G) (hr : RV cX2_spread post G) (hK79 : ∀ (v1 : Int) (v2 : Int) (m : Mem), K79 v1 v2 m → G 79 [(0, (2, 47)), (1, (0, v1)), (2, (0, v2))] [] m) : ∀ (n : Nat) (v1 : Int) (m : Mem) (_ : wp_X2_spread_46 K79 post n v1 m), G 46 [(0, (2, 47)), (1, (0, v1))] [] m := by
  intro n
  induction n with
  | zero => intro v1 m h; exact absurd h id
  | succ n ih =>
  intro v1 m h
  unfold wp_X2_spread_46 at h
  refine g_iload_n 1 (i := 1) X dX2_spread_46 rfl rfl ?_
  refine g_aload_n 0 (i := 0) X dX2_spread_47 rfl rfl ?_
  refine g_getI X dX2_spread_48 fX2_93 ?_
  refine g_icmp_ge X dX2_spread_51 (tgt := 75) (by decide) (fun hc => ?_) (fun hc => ?_)
  · have h := h.1 hc
    refine g_iconst X dX2_spread_75 (by decide) ?_
    refine g_istore_n (i := 1) (lv' := [(1, (0, 1)), (0, (2, 47))]) X dX2_spread_76 rfl (by decide) rfl ?_
    refine g_iconst X dX2_spread_77 (by decide) ?_
    refine g_istore_n (i := 2) (lv' := [(2, (0, 0)), (1, (0, 1)), (0, (2, 47))]) X dX2_spread_78 rfl (by decide) rfl ?_
    exact g_sub X [2, 1, 0] rfl (hK79 _ _ _ h)
  · have h := h.2 hc
    refine g_aload_n 0 (i := 0) X dX2_spread_54 rfl rfl ?_
    refine g_getR X dX2_spread_55 fX2_36 ?_
    refine g_iload_n 1 (i := 1) X dX2_spread_58 rfl rfl ?_
    refine g_ldc X dX2_spread_59 (by unfold r32; omega) kX2_99 ?_
    obtain ⟨hi, h⟩ := h
    refine g_iast X dX2_spread_61 rfl hi (fun m61 em61 => ?_)
    have h := h m61 em61
    refine g_aload_n 0 (i := 0) X dX2_spread_62 rfl rfl ?_
    refine g_getR X dX2_spread_63 fX2_42 ?_
    refine g_iload_n 1 (i := 1) X dX2_spread_66 rfl rfl ?_
    refine g_iconst X dX2_spread_67 (by decide) ?_
    obtain ⟨hi, h⟩ := h
    refine g_iast X dX2_spread_68 rfl hi (fun m68 em68 => ?_)
    have h := h m68 em68
    refine g_iinc 1 (lv' := [(1, (0, w32 (v1 + 1))), (0, (2, 47))]) X dX2_spread_69 rfl (by decide) rfl ?_
    refine g_goto X dX2_spread_72 (tgt := 46) (by decide) ?_
    exact g_sub X [1, 0] rfl (ih _ _ h)
def wp_X2_spread_79  (post : Mem → Prop) : Nat → Int → Int → Mem → Prop
  | 0, _, _, _ => False
  | n + 1, v1, v2, m =>
  ((24 < v2 → (post m)) ∧
  (¬ 24 < v2 → (((v1 = 0 → (post m)) ∧
  (¬ v1 = 0 → (wp_X2_spreadForth m (fun r90 m90 => wp_X2_spreadBack m90 (fun r95 m95 => ((¬ r95 = 0 → (wp_X2_spread_79  post n 1 (w32 (v2 + 1)) m95)) ∧
  (r95 = 0 → (((r90 = 0 → (wp_X2_spread_79  post n 0 (w32 (v2 + 1)) m95)) ∧
  (¬ r90 = 0 → (wp_X2_spread_79  post n 1 (w32 (v2 + 1)) m95))))))))))))))
set_option maxRecDepth 100000 in
theorem pf_X2_spread_79 {l : Launch} {x : WX} {G : GT} {post : Mem → Prop}  (X : Ax l x cX2_spread RX2 3 (rmd 1) 67 G) (hr : RV cX2_spread post G) : ∀ (n : Nat) (v1 : Int) (v2 : Int) (m : Mem) (_ : wp_X2_spread_79  post n v1 v2 m), G 79 [(0, (2, 47)), (1, (0, v1)), (2, (0, v2))] [] m := by
  intro n
  induction n with
  | zero => intro v1 v2 m h; exact absurd h id
  | succ n ih =>
  intro v1 v2 m h
  unfold wp_X2_spread_79 at h
  refine g_iload_n 2 (i := 2) X dX2_spread_79 rfl rfl ?_
  refine g_bipush X dX2_spread_80 (by decide) ?_
  refine g_icmp_gt X dX2_spread_82 (tgt := 117) (by decide) (fun hc => ?_) (fun hc => ?_)
  · have h := h.1 hc
    exact hr _ _ _ _ dX2_spread_117 h
  · have h := h.2 hc
    refine g_iload_n 1 (i := 1) X dX2_spread_85 rfl rfl ?_
    refine g_if_eq X dX2_spread_86 (tgt := 117) (by decide) (fun hc => ?_) (fun hc => ?_)
    · have h := h.1 hc
      exact hr _ _ _ _ dX2_spread_117 h
    · have h := h.2 hc
      refine g_aload_n 0 (i := 0) X dX2_spread_89 rfl rfl ?_
      refine g_cVI (st := []) X dX2_spread_90 YX2_spreadForth lX2_100 (by decide) (im_X2_spreadForth l x  _ _ h) rfl ⟨by decide, by decide⟩ rfl (Nat.le_of_ble_eq_true rfl) (fun r90 m90 h => ?_)
      refine g_istore_n (i := 1) (lv' := [(1, (0, r90)), (0, (2, 47)), (2, (0, v2))]) X dX2_spread_93 rfl (by decide) rfl ?_
      refine g_aload_n 1 (i := 0) X dX2_spread_94 rfl rfl ?_
      refine g_cVI (st := []) X dX2_spread_95 YX2_spreadBack lX2_103 (by decide) (im_X2_spreadBack l x  _ _ h) rfl ⟨by decide, by decide⟩ rfl (Nat.le_of_ble_eq_true rfl) (fun r95 m95 h => ?_)
      refine g_if_ne X dX2_spread_98 (tgt := 105) (by decide) (fun hc => ?_) (fun hc => ?_)
      · have h := h.1 hc
        refine g_iconst X dX2_spread_105 (by decide) ?_
        refine g_goto X dX2_spread_106 (tgt := 110) (by decide) ?_
        refine g_istore_n (i := 1) (lv' := [(1, (0, 1)), (0, (2, 47)), (2, (0, v2))]) X dX2_spread_110 rfl (by decide) rfl ?_
        refine g_iinc 2 (lv' := [(2, (0, w32 (v2 + 1))), (1, (0, 1)), (0, (2, 47))]) X dX2_spread_111 rfl (by decide) rfl ?_
        refine g_goto X dX2_spread_114 (tgt := 79) (by decide) ?_
        exact g_sub X [2, 1, 0] rfl (ih _ _ _ h)
      · have h := h.2 hc
        refine g_iload_n 0 (i := 1) X dX2_spread_101 rfl rfl ?_
        refine g_if_eq X dX2_spread_102 (tgt := 109) (by decide) (fun hc => ?_) (fun hc => ?_)
        · have h := h.1 hc
          refine g_iconst X dX2_spread_109 (by decide) ?_
          refine g_istore_n (i := 1) (lv' := [(1, (0, 0)), (0, (2, 47)), (2, (0, v2))]) X dX2_spread_110 rfl (by decide) rfl ?_
          refine g_iinc 2 (lv' := [(2, (0, w32 (v2 + 1))), (1, (0, 0)), (0, (2, 47))]) X dX2_spread_111 rfl (by decide) rfl ?_
          refine g_goto X dX2_spread_114 (tgt := 79) (by decide) ?_
          exact g_sub X [2, 1, 0] rfl (ih _ _ _ h)
        · have h := h.2 hc
          refine g_iconst X dX2_spread_105 (by decide) ?_
          refine g_goto X dX2_spread_106 (tgt := 110) (by decide) ?_
          refine g_istore_n (i := 1) (lv' := [(1, (0, 1)), (0, (2, 47)), (2, (0, v2))]) X dX2_spread_110 rfl (by decide) rfl ?_
          refine g_iinc 2 (lv' := [(2, (0, w32 (v2 + 1))), (1, (0, 1)), (0, (2, 47))]) X dX2_spread_111 rfl (by decide) rfl ?_
          refine g_goto X dX2_spread_114 (tgt := 79) (by decide) ?_
          exact g_sub X [2, 1, 0] rfl (ih _ _ _ h)
def wp_X2_spread  (m : Mem) (post : Mem → Prop) : Prop :=
  ∃ n_7 : Nat, wp_X2_spread_2 (fun v1_3 m_3 => ∃ n_6 : Nat, wp_X2_spread_46 (fun v1_4 v2_4 m_4 => ∃ n_5 : Nat, wp_X2_spread_79  post n_5 v1_4 v2_4 m_4) post n_6 v1_3 m_3) post n_7 0 m
set_option maxRecDepth 100000 in
theorem pf_X2_spread {l : Launch} {x : WX} {G : GT} {post : Mem → Prop} (X : Ax l x cX2_spread RX2 3 (rmd 1) 67 G) (hr : RV cX2_spread post G)  (m : Mem) (h : wp_X2_spread  m post) : G 0 [(0, (2, 47))] [] m := by
  unfold wp_X2_spread at h
  refine g_iconst X dX2_spread_0 (by decide) ?_
  refine g_istore_n (i := 1) (lv' := [(1, (0, 0)), (0, (2, 47))]) X dX2_spread_1 rfl (by decide) rfl ?_
  obtain ⟨n_7, h⟩ := h
  refine g_sub X [1, 0] rfl (pf_X2_spread_2 X hr (fun v1_3 m_3 h => ?_) n_7 _ _ h)
  · obtain ⟨n_6, h⟩ := h
    refine g_sub X [0, 1] rfl (pf_X2_spread_46 X hr (fun v1_4 v2_4 m_4 h => ?_) n_6 _ _ h)
    · obtain ⟨n_5, h⟩ := h
      refine g_sub X [0, 1, 2] rfl (pf_X2_spread_79 X hr  n_5 _ _ _ h)
theorem im_X2_spread (l : Launch) (x : WX)  (m : Mem) (post : Mem → Prop) (h : wp_X2_spread  m post) : MetV l x 67 1 yX2_spread cX2_spread 3 [(2, 47)] m post := met_V (by decide) (Nat.le_of_ble_eq_true rfl) (fun _ X hr => pf_X2_spread X hr  m h)
def wp_X2_cheapestTaker_37 (v1 : Int) (v2 : Int) (s0 : Int) (m : Mem) (K4 : Int → Int → Mem → Prop) (post : Int → Mem → Prop) : Prop :=
  ((s0 = 0 → (K4 v1 (w32 (v2 + 1)) m)) ∧
  (¬ s0 = 0 → (((v1 = (-1) → (K4 v2 (w32 (v2 + 1)) m)) ∧
  (¬ v1 = (-1) → ((0 ≤ v2 ∧ v2 < 24) ∧ ((0 ≤ v1 ∧ v1 < 24) ∧ (((m 56 v1 ≤ m 56 v2 → (K4 v1 (w32 (v2 + 1)) m)) ∧
  (¬ m 56 v1 ≤ m 56 v2 → (K4 v2 (w32 (v2 + 1)) m)))))))))))
set_option maxRecDepth 100000 in
theorem pf_X2_cheapestTaker_37 {l : Launch} {x : WX} {G : GT} {post : Int → Mem → Prop} {K4 : Int → Int → Mem → Prop} (X : Ax l x cX2_cheapestTaker RX2 4 (rmd 0) 67 G) (hr : RI cX2_cheapestTaker post G) (hK4 : ∀ (v1 : Int) (v2 : Int) (m : Mem), K4 v1 v2 m → G 4 [(0, (2, 47)), (1, (0, v1)), (2, (0, v2))] [] m) (v1 : Int) (v2 : Int) (s0 : Int) (m : Mem) (h : wp_X2_cheapestTaker_37 v1 v2 s0 m K4 post) : G 37 [(0, (2, 47)), (1, (0, v1)), (2, (0, v2))] [(0, s0)] m := by
  unfold wp_X2_cheapestTaker_37 at h
  refine g_istore_n (i := 3) (lv' := [(3, (0, s0)), (0, (2, 47)), (1, (0, v1)), (2, (0, v2))]) X dX2_cheapestTaker_37 rfl (by decide) rfl ?_
  refine g_iload_n 0 (i := 3) X dX2_cheapestTaker_38 rfl rfl ?_
  refine g_if_eq X dX2_cheapestTaker_39 (tgt := 64) (by decide) (fun hc => ?_) (fun hc => ?_)
  · have h := h.1 hc
    refine g_iinc 3 (lv' := [(2, (0, w32 (v2 + 1))), (3, (0, s0)), (0, (2, 47)), (1, (0, v1))]) X dX2_cheapestTaker_64 rfl (by decide) rfl ?_
    refine g_goto X dX2_cheapestTaker_67 (tgt := 4) (by decide) ?_
    exact g_sub X [2, 3, 0] rfl (hK4 _ _ _ h)
  · have h := h.2 hc
    refine g_iload_n 2 (i := 1) X dX2_cheapestTaker_42 rfl rfl ?_
    refine g_iconst X dX2_cheapestTaker_43 (by decide) ?_
    refine g_icmp_eq X dX2_cheapestTaker_44 (tgt := 62) (by decide) (fun hc => ?_) (fun hc => ?_)
    · have h := h.1 hc
      refine g_iload_n 3 (i := 2) X dX2_cheapestTaker_62 rfl rfl ?_
      refine g_istore_n (i := 1) (lv' := [(1, (0, v2)), (3, (0, s0)), (0, (2, 47)), (2, (0, v2))]) X dX2_cheapestTaker_63 rfl (by decide) rfl ?_
      refine g_iinc 3 (lv' := [(2, (0, w32 (v2 + 1))), (1, (0, v2)), (3, (0, s0)), (0, (2, 47))]) X dX2_cheapestTaker_64 rfl (by decide) rfl ?_
      refine g_goto X dX2_cheapestTaker_67 (tgt := 4) (by decide) ?_
      exact g_sub X [3, 1, 0] rfl (hK4 _ _ _ h)
    · have h := h.2 hc
      refine g_aload_n 1 (i := 0) X dX2_cheapestTaker_47 rfl rfl ?_
      refine g_getR X dX2_cheapestTaker_48 fX2_36 ?_
      refine g_iload_n 3 (i := 2) X dX2_cheapestTaker_51 rfl rfl ?_
      obtain ⟨hi, h⟩ := h
      refine g_iald X dX2_cheapestTaker_52 rfl hi ?_
      refine g_aload_n 1 (i := 0) X dX2_cheapestTaker_53 rfl rfl ?_
      refine g_getR X dX2_cheapestTaker_54 fX2_36 ?_
      refine g_iload_n 2 (i := 1) X dX2_cheapestTaker_57 rfl rfl ?_
      obtain ⟨hi, h⟩ := h
      refine g_iald X dX2_cheapestTaker_58 rfl hi ?_
      refine g_icmp_ge X dX2_cheapestTaker_59 (tgt := 64) (by decide) (fun hc => ?_) (fun hc => ?_)
      · have h := h.1 hc
        refine g_iinc 3 (lv' := [(2, (0, w32 (v2 + 1))), (3, (0, s0)), (0, (2, 47)), (1, (0, v1))]) X dX2_cheapestTaker_64 rfl (by decide) rfl ?_
        refine g_goto X dX2_cheapestTaker_67 (tgt := 4) (by decide) ?_
        exact g_sub X [2, 3, 0] rfl (hK4 _ _ _ h)
      · have h := h.2 hc
        refine g_iload_n 3 (i := 2) X dX2_cheapestTaker_62 rfl rfl ?_
        refine g_istore_n (i := 1) (lv' := [(1, (0, v2)), (3, (0, s0)), (0, (2, 47)), (2, (0, v2))]) X dX2_cheapestTaker_63 rfl (by decide) rfl ?_
        refine g_iinc 3 (lv' := [(2, (0, w32 (v2 + 1))), (1, (0, v2)), (3, (0, s0)), (0, (2, 47))]) X dX2_cheapestTaker_64 rfl (by decide) rfl ?_
        refine g_goto X dX2_cheapestTaker_67 (tgt := 4) (by decide) ?_
        exact g_sub X [3, 1, 0] rfl (hK4 _ _ _ h)
def wp_X2_cheapestTaker_36 (v1 : Int) (v2 : Int) (m : Mem) (K4 : Int → Int → Mem → Prop) (post : Int → Mem → Prop) : Prop :=
  wp_X2_cheapestTaker_37 v1 v2 0 m (fun v1_1 v2_1 m_1 => K4 v1_1 v2_1 m_1) post
set_option maxRecDepth 100000 in
theorem pf_X2_cheapestTaker_36 {l : Launch} {x : WX} {G : GT} {post : Int → Mem → Prop} {K4 : Int → Int → Mem → Prop} (X : Ax l x cX2_cheapestTaker RX2 4 (rmd 0) 67 G) (hr : RI cX2_cheapestTaker post G) (hK4 : ∀ (v1 : Int) (v2 : Int) (m : Mem), K4 v1 v2 m → G 4 [(0, (2, 47)), (1, (0, v1)), (2, (0, v2))] [] m) (v1 : Int) (v2 : Int) (m : Mem) (h : wp_X2_cheapestTaker_36 v1 v2 m K4 post) : G 36 [(0, (2, 47)), (1, (0, v1)), (2, (0, v2))] [] m := by
  unfold wp_X2_cheapestTaker_36 at h
  refine g_iconst X dX2_cheapestTaker_36 (by decide) ?_
  refine g_sub X [0, 1, 2] rfl (pf_X2_cheapestTaker_37 X hr (fun v1_1 v2_1 m_1 h => ?_) _ _ _ _ h)
  · exact g_sub X [0, 1, 2] rfl (hK4 _ _ _ h)
def wp_X2_cheapestTaker_4  (post : Int → Mem → Prop) : Nat → Int → Int → Mem → Prop
  | 0, _, _, _ => False
  | n + 1, v1, v2, m =>
  ((m 47 3 ≤ v2 → (post v1 m)) ∧
  (¬ m 47 3 ≤ v2 → ((0 ≤ v2 ∧ v2 < 24) ∧ (((m 52 v2 ≤ 0 → (wp_X2_cheapestTaker_36 v1 v2 m (fun v1_2 v2_2 m_2 => wp_X2_cheapestTaker_4  post n v1_2 v2_2 m_2) post)) ∧
  (¬ m 52 v2 ≤ 0 → ((0 ≤ v2 ∧ v2 < 24) ∧ (((1000000 ≤ m 56 v2 → (wp_X2_cheapestTaker_36 v1 v2 m (fun v1_3 v2_3 m_3 => wp_X2_cheapestTaker_4  post n v1_3 v2_3 m_3) post)) ∧
  (¬ 1000000 ≤ m 56 v2 → (wp_X2_cheapestTaker_37 v1 v2 1 m (fun v1_4 v2_4 m_4 => wp_X2_cheapestTaker_4  post n v1_4 v2_4 m_4) post)))))))))))
set_option maxRecDepth 100000 in
theorem pf_X2_cheapestTaker_4 {l : Launch} {x : WX} {G : GT} {post : Int → Mem → Prop}  (X : Ax l x cX2_cheapestTaker RX2 4 (rmd 0) 67 G) (hr : RI cX2_cheapestTaker post G) : ∀ (n : Nat) (v1 : Int) (v2 : Int) (m : Mem) (_ : wp_X2_cheapestTaker_4  post n v1 v2 m), G 4 [(0, (2, 47)), (1, (0, v1)), (2, (0, v2))] [] m := by
  intro n
  induction n with
  | zero => intro v1 v2 m h; exact absurd h id
  | succ n ih =>
  intro v1 v2 m h
  unfold wp_X2_cheapestTaker_4 at h
  refine g_iload_n 2 (i := 2) X dX2_cheapestTaker_4 rfl rfl ?_
  refine g_aload_n 0 (i := 0) X dX2_cheapestTaker_5 rfl rfl ?_
  refine g_getI X dX2_cheapestTaker_6 fX2_93 ?_
  refine g_icmp_ge X dX2_cheapestTaker_9 (tgt := 70) (by decide) (fun hc => ?_) (fun hc => ?_)
  · have h := h.1 hc
    refine g_iload_n 1 (i := 1) X dX2_cheapestTaker_70 rfl rfl ?_
    exact hr _ _ _ _ _ dX2_cheapestTaker_71 h
  · have h := h.2 hc
    refine g_aload_n 0 (i := 0) X dX2_cheapestTaker_12 rfl rfl ?_
    refine g_getR X dX2_cheapestTaker_13 fX2_24 ?_
    refine g_iload_n 2 (i := 2) X dX2_cheapestTaker_16 rfl rfl ?_
    obtain ⟨hi, h⟩ := h
    refine g_iald X dX2_cheapestTaker_17 rfl hi ?_
    refine g_if_le X dX2_cheapestTaker_18 (tgt := 36) (by decide) (fun hc => ?_) (fun hc => ?_)
    · have h := h.1 hc
      refine g_sub X [0, 1, 2] rfl (pf_X2_cheapestTaker_36 X hr (fun v1_2 v2_2 m_2 h => ?_) _ _ _ h)
      · exact g_sub X [0, 1, 2] rfl (ih _ _ _ h)
    · have h := h.2 hc
      refine g_aload_n 0 (i := 0) X dX2_cheapestTaker_21 rfl rfl ?_
      refine g_getR X dX2_cheapestTaker_22 fX2_36 ?_
      refine g_iload_n 2 (i := 2) X dX2_cheapestTaker_25 rfl rfl ?_
      obtain ⟨hi, h⟩ := h
      refine g_iald X dX2_cheapestTaker_26 rfl hi ?_
      refine g_ldc X dX2_cheapestTaker_27 (by unfold r32; omega) kX2_99 ?_
      refine g_icmp_ge X dX2_cheapestTaker_29 (tgt := 36) (by decide) (fun hc => ?_) (fun hc => ?_)
      · have h := h.1 hc
        refine g_sub X [0, 1, 2] rfl (pf_X2_cheapestTaker_36 X hr (fun v1_3 v2_3 m_3 h => ?_) _ _ _ h)
        · exact g_sub X [0, 1, 2] rfl (ih _ _ _ h)
      · have h := h.2 hc
        refine g_iconst X dX2_cheapestTaker_32 (by decide) ?_
        refine g_goto X dX2_cheapestTaker_33 (tgt := 37) (by decide) ?_
        refine g_sub X [0, 1, 2] rfl (pf_X2_cheapestTaker_37 X hr (fun v1_4 v2_4 m_4 h => ?_) _ _ _ _ h)
        · exact g_sub X [0, 1, 2] rfl (ih _ _ _ h)
def wp_X2_cheapestTaker  (m : Mem) (post : Int → Mem → Prop) : Prop :=
  ∃ n_5 : Nat, wp_X2_cheapestTaker_4  post n_5 (-1) 0 m
set_option maxRecDepth 100000 in
theorem pf_X2_cheapestTaker {l : Launch} {x : WX} {G : GT} {post : Int → Mem → Prop} (X : Ax l x cX2_cheapestTaker RX2 4 (rmd 0) 67 G) (hr : RI cX2_cheapestTaker post G)  (m : Mem) (h : wp_X2_cheapestTaker  m post) : G 0 [(0, (2, 47))] [] m := by
  unfold wp_X2_cheapestTaker at h
  refine g_iconst X dX2_cheapestTaker_0 (by decide) ?_
  refine g_istore_n (i := 1) (lv' := [(1, (0, (-1))), (0, (2, 47))]) X dX2_cheapestTaker_1 rfl (by decide) rfl ?_
  refine g_iconst X dX2_cheapestTaker_2 (by decide) ?_
  refine g_istore_n (i := 2) (lv' := [(2, (0, 0)), (1, (0, (-1))), (0, (2, 47))]) X dX2_cheapestTaker_3 rfl (by decide) rfl ?_
  obtain ⟨n_5, h⟩ := h
  refine g_sub X [2, 1, 0] rfl (pf_X2_cheapestTaker_4 X hr  n_5 _ _ _ h)
theorem im_X2_cheapestTaker (l : Launch) (x : WX)  (m : Mem) (post : Int → Mem → Prop) (h : wp_X2_cheapestTaker  m post) : MetI l x 67 0 yX2_cheapestTaker cX2_cheapestTaker 4 .int [(2, 47)] m post := met_I (by decide) (Nat.le_of_ble_eq_true rfl) (fun _ X hr => pf_X2_cheapestTaker X hr  m h)
def wp_X2_amountTo_12  (post : Int → Mem → Prop) : Nat → Int → Int → Int → Mem → Prop
  | 0, _, _, _, _ => False
  | n + 1, v2, v3, v4, m =>
  ((24 ≤ v4 → (post v2 m)) ∧
  (¬ 24 ≤ v4 → (((v3 = (-1) → (post v2 m)) ∧
  (¬ v3 = (-1) → ((0 ≤ v3 ∧ v3 < 24) ∧ (∀ v5_30 : Int, v5_30 = m 58 v3 → (((¬ v5_30 = (-1) → ((0 ≤ v5_30 ∧ v5_30 < 24) ∧ (∀ v3_47 : Int, v3_47 = m 57 v5_30 → (((¬ v3_47 = (-1) → ((0 ≤ w32 (w32 (v5_30 * 24) + v3_47) ∧ w32 (w32 (v5_30 * 24) + v3_47) < 576) ∧ (∀ v2_79 : Int, v2_79 = (if m 54 (w32 (w32 (v5_30 * 24) + v3_47)) < v2 then m 54 (w32 (w32 (v5_30 * 24) + v3_47)) else v2) → (wp_X2_amountTo_12  post n v2_79 v3_47 (w32 (v4 + 1)) m)))) ∧
  (v3_47 = (-1) → ((0 ≤ v5_30 ∧ v5_30 < 24) ∧ (∀ v2_79 : Int, v2_79 = (if m 51 v5_30 < v2 then m 51 v5_30 else v2) → (wp_X2_amountTo_12  post n v2_79 v3_47 (w32 (v4 + 1)) m))))))))) ∧
  (v5_30 = (-1) → (post 0 m)))))))))))
set_option maxRecDepth 100000 in
theorem pf_X2_amountTo_12 {l : Launch} {x : WX} {G : GT} {post : Int → Mem → Prop}  (X : Ax l x cX2_amountTo RX2 6 (rmd 1) 67 G) (hr : RI cX2_amountTo post G) : ∀ (n : Nat) (v2 : Int) (v3 : Int) (v4 : Int) (m : Mem) (_ : wp_X2_amountTo_12  post n v2 v3 v4 m), G 12 [(0, (2, 47)), (2, (0, v2)), (3, (0, v3)), (4, (0, v4))] [] m := by
  intro n
  induction n with
  | zero => intro v2 v3 v4 m h; exact absurd h id
  | succ n ih =>
  intro v2 v3 v4 m h
  unfold wp_X2_amountTo_12 at h
  refine g_iload 3 (i := 4) X dX2_amountTo_12 rfl ?_
  refine g_bipush X dX2_amountTo_14 (by decide) ?_
  refine g_icmp_ge X dX2_amountTo_16 (tgt := 86) (by decide) (fun hc => ?_) (fun hc => ?_)
  · have h := h.1 hc
    refine g_iload_n 1 (i := 2) X dX2_amountTo_86 rfl rfl ?_
    exact hr _ _ _ _ _ dX2_amountTo_87 h
  · have h := h.2 hc
    refine g_iload_n 2 (i := 3) X dX2_amountTo_19 rfl rfl ?_
    refine g_iconst X dX2_amountTo_20 (by decide) ?_
    refine g_icmp_eq X dX2_amountTo_21 (tgt := 86) (by decide) (fun hc => ?_) (fun hc => ?_)
    · have h := h.1 hc
      refine g_iload_n 1 (i := 2) X dX2_amountTo_86 rfl rfl ?_
      exact hr _ _ _ _ _ dX2_amountTo_87 h
    · have h := h.2 hc
      refine g_aload_n 0 (i := 0) X dX2_amountTo_24 rfl rfl ?_
      refine g_getR X dX2_amountTo_25 fX2_42 ?_
      refine g_iload_n 2 (i := 3) X dX2_amountTo_28 rfl rfl ?_
      obtain ⟨hi, h⟩ := h
      refine g_iald X dX2_amountTo_29 rfl hi ?_
      refine g_nmI (fun v5_30 ev5_30 => ?_)
      have h := h v5_30 ev5_30
      refine g_istore (i := 5) (lv' := [(5, (0, v5_30)), (0, (2, 47)), (2, (0, v2)), (3, (0, v3)), (4, (0, v4))]) X dX2_amountTo_30 (by decide) rfl ?_
      refine g_iload 0 (i := 5) X dX2_amountTo_32 rfl ?_
      refine g_iconst X dX2_amountTo_34 (by decide) ?_
      refine g_icmp_ne X dX2_amountTo_35 (tgt := 40) (by decide) (fun hc => ?_) (fun hc => ?_)
      · have h := h.1 hc
        refine g_aload_n 1 (i := 0) X dX2_amountTo_40 rfl rfl ?_
        refine g_getR X dX2_amountTo_41 fX2_39 ?_
        refine g_iload 0 (i := 5) X dX2_amountTo_44 rfl ?_
        obtain ⟨hi, h⟩ := h
        refine g_iald X dX2_amountTo_46 rfl hi ?_
        refine g_nmI (fun v3_47 ev3_47 => ?_)
        have h := h v3_47 ev3_47
        refine g_istore_n (i := 3) (lv' := [(3, (0, v3_47)), (5, (0, v5_30)), (0, (2, 47)), (2, (0, v2)), (4, (0, v4))]) X dX2_amountTo_47 rfl (by decide) rfl ?_
        refine g_iload_n 3 (i := 2) X dX2_amountTo_48 rfl rfl ?_
        refine g_iload_n 0 (i := 3) X dX2_amountTo_49 rfl rfl ?_
        refine g_iconst X dX2_amountTo_50 (by decide) ?_
        refine g_icmp_ne X dX2_amountTo_51 (tgt := 64) (by decide) (fun hc => ?_) (fun hc => ?_)
        · have h := h.1 hc
          refine g_aload_n 2 (i := 0) X dX2_amountTo_64 rfl rfl ?_
          refine g_getR X dX2_amountTo_65 fX2_30 ?_
          refine g_iload 1 (i := 5) X dX2_amountTo_68 rfl ?_
          refine g_bipush X dX2_amountTo_70 (by decide) ?_
          refine g_imul X dX2_amountTo_72 ?_
          refine g_iload_n 0 (i := 3) X dX2_amountTo_73 rfl rfl ?_
          refine g_iadd X dX2_amountTo_74 ?_
          obtain ⟨hi, h⟩ := h
          refine g_iald X dX2_amountTo_75 rfl hi ?_
          refine g_min X dX2_amountTo_76 lX2_106 mm_min_static mm_init mm_min_code (by decide) (Nat.le_of_ble_eq_true rfl) ?_
          refine g_nmI (fun v2_79 ev2_79 => ?_)
          have h := h v2_79 ev2_79
          refine g_istore_n (i := 2) (lv' := [(2, (0, v2_79)), (3, (0, v3_47)), (5, (0, v5_30)), (0, (2, 47)), (4, (0, v4))]) X dX2_amountTo_79 rfl (by decide) rfl ?_
          refine g_iinc 4 (lv' := [(4, (0, w32 (v4 + 1))), (2, (0, v2_79)), (3, (0, v3_47)), (5, (0, v5_30)), (0, (2, 47))]) X dX2_amountTo_80 rfl (by decide) rfl ?_
          refine g_goto X dX2_amountTo_83 (tgt := 12) (by decide) ?_
          exact g_sub X [4, 1, 2, 0] rfl (ih _ _ _ _ h)
        · have h := h.2 hc
          refine g_aload_n 2 (i := 0) X dX2_amountTo_54 rfl rfl ?_
          refine g_getR X dX2_amountTo_55 fX2_21 ?_
          refine g_iload 1 (i := 5) X dX2_amountTo_58 rfl ?_
          obtain ⟨hi, h⟩ := h
          refine g_iald X dX2_amountTo_60 rfl hi ?_
          refine g_goto X dX2_amountTo_61 (tgt := 76) (by decide) ?_
          refine g_min X dX2_amountTo_76 lX2_106 mm_min_static mm_init mm_min_code (by decide) (Nat.le_of_ble_eq_true rfl) ?_
          refine g_nmI (fun v2_79 ev2_79 => ?_)
          have h := h v2_79 ev2_79
          refine g_istore_n (i := 2) (lv' := [(2, (0, v2_79)), (3, (0, v3_47)), (5, (0, v5_30)), (0, (2, 47)), (4, (0, v4))]) X dX2_amountTo_79 rfl (by decide) rfl ?_
          refine g_iinc 4 (lv' := [(4, (0, w32 (v4 + 1))), (2, (0, v2_79)), (3, (0, v3_47)), (5, (0, v5_30)), (0, (2, 47))]) X dX2_amountTo_80 rfl (by decide) rfl ?_
          refine g_goto X dX2_amountTo_83 (tgt := 12) (by decide) ?_
          exact g_sub X [4, 1, 2, 0] rfl (ih _ _ _ _ h)
      · have h := h.2 hc
        refine g_iconst X dX2_amountTo_38 (by decide) ?_
        exact hr _ _ _ _ _ dX2_amountTo_39 h
def wp_X2_amountTo (v1 : Int) (m : Mem) (post : Int → Mem → Prop) : Prop :=
  (0 ≤ v1 ∧ v1 < 24) ∧ (∀ v2_6 : Int, v2_6 = m 52 v1 → (∃ n_6 : Nat, wp_X2_amountTo_12  post n_6 v2_6 v1 0 m))
set_option maxRecDepth 100000 in
theorem pf_X2_amountTo {l : Launch} {x : WX} {G : GT} {post : Int → Mem → Prop} (X : Ax l x cX2_amountTo RX2 6 (rmd 1) 67 G) (hr : RI cX2_amountTo post G) (v1 : Int) (m : Mem) (h : wp_X2_amountTo v1 m post) : G 0 [(0, (2, 47)), (1, (0, v1))] [] m := by
  unfold wp_X2_amountTo at h
  refine g_aload_n 0 (i := 0) X dX2_amountTo_0 rfl rfl ?_
  refine g_getR X dX2_amountTo_1 fX2_24 ?_
  refine g_iload_n 1 (i := 1) X dX2_amountTo_4 rfl rfl ?_
  obtain ⟨hi, h⟩ := h
  refine g_iald X dX2_amountTo_5 rfl hi ?_
  refine g_nmI (fun v2_6 ev2_6 => ?_)
  have h := h v2_6 ev2_6
  refine g_istore_n (i := 2) (lv' := [(2, (0, v2_6)), (0, (2, 47)), (1, (0, v1))]) X dX2_amountTo_6 rfl (by decide) rfl ?_
  refine g_iload_n 2 (i := 1) X dX2_amountTo_7 rfl rfl ?_
  refine g_istore_n (i := 3) (lv' := [(3, (0, v1)), (2, (0, v2_6)), (0, (2, 47)), (1, (0, v1))]) X dX2_amountTo_8 rfl (by decide) rfl ?_
  refine g_iconst X dX2_amountTo_9 (by decide) ?_
  refine g_istore (i := 4) (lv' := [(4, (0, 0)), (3, (0, v1)), (2, (0, v2_6)), (0, (2, 47)), (1, (0, v1))]) X dX2_amountTo_10 (by decide) rfl ?_
  obtain ⟨n_6, h⟩ := h
  refine g_sub X [3, 2, 1, 0] rfl (pf_X2_amountTo_12 X hr  n_6 _ _ _ _ h)
theorem im_X2_amountTo (l : Launch) (x : WX) (v1 : Int) (m : Mem) (post : Int → Mem → Prop) (h : wp_X2_amountTo v1 m post) : MetI l x 67 1 yX2_amountTo cX2_amountTo 6 .int [(2, 47), (0, v1)] m post := met_I (by decide) (Nat.le_of_ble_eq_true rfl) (fun _ X hr => pf_X2_amountTo X hr v1 m h)
def wp_X2_send_15  (post : Mem → Prop) : Nat → Int → Int → Int → Mem → Prop
  | 0, _, _, _, _ => False
  | n + 1, v2, v3, v4, m =>
  ((24 ≤ v4 → (post m)) ∧
  (¬ 24 ≤ v4 → (((v3 = (-1) → (post m)) ∧
  (¬ v3 = (-1) → ((0 ≤ v3 ∧ v3 < 24) ∧ (∀ v5_33 : Int, v5_33 = m 58 v3 → (((¬ v5_33 = (-1) → ((0 ≤ w32 (w32 (v5_33 * 24) + v3) ∧ w32 (w32 (v5_33 * 24) + v3) < 576) ∧ ((0 ≤ w32 (w32 (v5_33 * 24) + v3) ∧ w32 (w32 (v5_33 * 24) + v3) < 576) ∧ (∀ m57 : Mem, m57 = mset m 54 (w32 (w32 (v5_33 * 24) + v3)) (w32 (m 54 (w32 (w32 (v5_33 * 24) + v3)) + v2)) → ((0 ≤ v5_33 ∧ v5_33 < 24) ∧ (∀ v3_65 : Int, v3_65 = m57 57 v5_33 → (((¬ v3_65 = (-1) → ((0 ≤ w32 (w32 (v5_33 * 24) + v3_65) ∧ w32 (w32 (v5_33 * 24) + v3_65) < 576) ∧ ((0 ≤ w32 (w32 (v5_33 * 24) + v3_65) ∧ w32 (w32 (v5_33 * 24) + v3_65) < 576) ∧ (∀ m100 : Mem, m100 = mset m57 54 (w32 (w32 (v5_33 * 24) + v3_65)) (w32 (m57 54 (w32 (w32 (v5_33 * 24) + v3_65)) - v2)) → (wp_X2_send_15  post n v2 v3_65 (w32 (v4 + 1)) m100))))) ∧
  (v3_65 = (-1) → ((0 ≤ v5_33 ∧ v5_33 < 24) ∧ ((0 ≤ v5_33 ∧ v5_33 < 24) ∧ (∀ m81 : Mem, m81 = mset m57 51 v5_33 (w32 (m57 51 v5_33 - v2)) → (wp_X2_send_15  post n v2 v3_65 (w32 (v4 + 1)) m81))))))))))))) ∧
  (v5_33 = (-1) → (post m)))))))))))
set_option maxRecDepth 100000 in
theorem pf_X2_send_15 {l : Launch} {x : WX} {G : GT} {post : Mem → Prop}  (X : Ax l x cX2_send RX2 6 (rmd 0) 67 G) (hr : RV cX2_send post G) : ∀ (n : Nat) (v2 : Int) (v3 : Int) (v4 : Int) (m : Mem) (_ : wp_X2_send_15  post n v2 v3 v4 m), G 15 [(0, (2, 47)), (2, (0, v2)), (3, (0, v3)), (4, (0, v4))] [] m := by
  intro n
  induction n with
  | zero => intro v2 v3 v4 m h; exact absurd h id
  | succ n ih =>
  intro v2 v3 v4 m h
  unfold wp_X2_send_15 at h
  refine g_iload 3 (i := 4) X dX2_send_15 rfl ?_
  refine g_bipush X dX2_send_17 (by decide) ?_
  refine g_icmp_ge X dX2_send_19 (tgt := 107) (by decide) (fun hc => ?_) (fun hc => ?_)
  · have h := h.1 hc
    exact hr _ _ _ _ dX2_send_107 h
  · have h := h.2 hc
    refine g_iload_n 2 (i := 3) X dX2_send_22 rfl rfl ?_
    refine g_iconst X dX2_send_23 (by decide) ?_
    refine g_icmp_eq X dX2_send_24 (tgt := 107) (by decide) (fun hc => ?_) (fun hc => ?_)
    · have h := h.1 hc
      exact hr _ _ _ _ dX2_send_107 h
    · have h := h.2 hc
      refine g_aload_n 0 (i := 0) X dX2_send_27 rfl rfl ?_
      refine g_getR X dX2_send_28 fX2_42 ?_
      refine g_iload_n 2 (i := 3) X dX2_send_31 rfl rfl ?_
      obtain ⟨hi, h⟩ := h
      refine g_iald X dX2_send_32 rfl hi ?_
      refine g_nmI (fun v5_33 ev5_33 => ?_)
      have h := h v5_33 ev5_33
      refine g_istore (i := 5) (lv' := [(5, (0, v5_33)), (0, (2, 47)), (2, (0, v2)), (3, (0, v3)), (4, (0, v4))]) X dX2_send_33 (by decide) rfl ?_
      refine g_iload 0 (i := 5) X dX2_send_35 rfl ?_
      refine g_iconst X dX2_send_37 (by decide) ?_
      refine g_icmp_ne X dX2_send_38 (tgt := 42) (by decide) (fun hc => ?_) (fun hc => ?_)
      · have h := h.1 hc
        refine g_aload_n 1 (i := 0) X dX2_send_42 rfl rfl ?_
        refine g_getR X dX2_send_43 fX2_30 ?_
        refine g_iload 0 (i := 5) X dX2_send_46 rfl ?_
        refine g_bipush X dX2_send_48 (by decide) ?_
        refine g_imul X dX2_send_50 ?_
        refine g_iload_n 3 (i := 3) X dX2_send_51 rfl rfl ?_
        refine g_iadd X dX2_send_52 ?_
        refine g_dup2 X dX2_send_53 rfl rfl ?_
        obtain ⟨hi, h⟩ := h
        refine g_iald X dX2_send_54 rfl hi ?_
        refine g_iload_n 2 (i := 2) X dX2_send_55 rfl rfl ?_
        refine g_iadd X dX2_send_56 ?_
        obtain ⟨hi, h⟩ := h
        refine g_iast X dX2_send_57 rfl hi (fun m57 em57 => ?_)
        have h := h m57 em57
        refine g_aload_n 1 (i := 0) X dX2_send_58 rfl rfl ?_
        refine g_getR X dX2_send_59 fX2_39 ?_
        refine g_iload 0 (i := 5) X dX2_send_62 rfl ?_
        obtain ⟨hi, h⟩ := h
        refine g_iald X dX2_send_64 rfl hi ?_
        refine g_nmI (fun v3_65 ev3_65 => ?_)
        have h := h v3_65 ev3_65
        refine g_istore_n (i := 3) (lv' := [(3, (0, v3_65)), (5, (0, v5_33)), (0, (2, 47)), (2, (0, v2)), (4, (0, v4))]) X dX2_send_65 rfl (by decide) rfl ?_
        refine g_iload_n 0 (i := 3) X dX2_send_66 rfl rfl ?_
        refine g_iconst X dX2_send_67 (by decide) ?_
        refine g_icmp_ne X dX2_send_68 (tgt := 85) (by decide) (fun hc => ?_) (fun hc => ?_)
        · have h := h.1 hc
          refine g_aload_n 2 (i := 0) X dX2_send_85 rfl rfl ?_
          refine g_getR X dX2_send_86 fX2_30 ?_
          refine g_iload 1 (i := 5) X dX2_send_89 rfl ?_
          refine g_bipush X dX2_send_91 (by decide) ?_
          refine g_imul X dX2_send_93 ?_
          refine g_iload_n 0 (i := 3) X dX2_send_94 rfl rfl ?_
          refine g_iadd X dX2_send_95 ?_
          refine g_dup2 X dX2_send_96 rfl rfl ?_
          obtain ⟨hi, h⟩ := h
          refine g_iald X dX2_send_97 rfl hi ?_
          refine g_iload_n 3 (i := 2) X dX2_send_98 rfl rfl ?_
          refine g_isub X dX2_send_99 ?_
          obtain ⟨hi, h⟩ := h
          refine g_iast X dX2_send_100 rfl hi (fun m100 em100 => ?_)
          have h := h m100 em100
          refine g_iinc 4 (lv' := [(4, (0, w32 (v4 + 1))), (3, (0, v3_65)), (5, (0, v5_33)), (0, (2, 47)), (2, (0, v2))]) X dX2_send_101 rfl (by decide) rfl ?_
          refine g_goto X dX2_send_104 (tgt := 15) (by decide) ?_
          exact g_sub X [3, 4, 1, 0] rfl (ih _ _ _ _ h)
        · have h := h.2 hc
          refine g_aload_n 2 (i := 0) X dX2_send_71 rfl rfl ?_
          refine g_getR X dX2_send_72 fX2_21 ?_
          refine g_iload 1 (i := 5) X dX2_send_75 rfl ?_
          refine g_dup2 X dX2_send_77 rfl rfl ?_
          obtain ⟨hi, h⟩ := h
          refine g_iald X dX2_send_78 rfl hi ?_
          refine g_iload_n 3 (i := 2) X dX2_send_79 rfl rfl ?_
          refine g_isub X dX2_send_80 ?_
          obtain ⟨hi, h⟩ := h
          refine g_iast X dX2_send_81 rfl hi (fun m81 em81 => ?_)
          have h := h m81 em81
          refine g_goto X dX2_send_82 (tgt := 101) (by decide) ?_
          refine g_iinc 4 (lv' := [(4, (0, w32 (v4 + 1))), (3, (0, v3_65)), (5, (0, v5_33)), (0, (2, 47)), (2, (0, v2))]) X dX2_send_101 rfl (by decide) rfl ?_
          refine g_goto X dX2_send_104 (tgt := 15) (by decide) ?_
          exact g_sub X [3, 4, 1, 0] rfl (ih _ _ _ _ h)
      · have h := h.2 hc
        exact hr _ _ _ _ dX2_send_41 h
def wp_X2_send (v1 : Int) (v2 : Int) (m : Mem) (post : Mem → Prop) : Prop :=
  (0 ≤ v1 ∧ v1 < 24) ∧ ((0 ≤ v1 ∧ v1 < 24) ∧ (∀ m9 : Mem, m9 = mset m 52 v1 (w32 (m 52 v1 - v2)) → (∃ n_3 : Nat, wp_X2_send_15  post n_3 v2 v1 0 m9)))
set_option maxRecDepth 100000 in
theorem pf_X2_send {l : Launch} {x : WX} {G : GT} {post : Mem → Prop} (X : Ax l x cX2_send RX2 6 (rmd 0) 67 G) (hr : RV cX2_send post G) (v1 : Int) (v2 : Int) (m : Mem) (h : wp_X2_send v1 v2 m post) : G 0 [(0, (2, 47)), (1, (0, v1)), (2, (0, v2))] [] m := by
  unfold wp_X2_send at h
  refine g_aload_n 0 (i := 0) X dX2_send_0 rfl rfl ?_
  refine g_getR X dX2_send_1 fX2_24 ?_
  refine g_iload_n 1 (i := 1) X dX2_send_4 rfl rfl ?_
  refine g_dup2 X dX2_send_5 rfl rfl ?_
  obtain ⟨hi, h⟩ := h
  refine g_iald X dX2_send_6 rfl hi ?_
  refine g_iload_n 2 (i := 2) X dX2_send_7 rfl rfl ?_
  refine g_isub X dX2_send_8 ?_
  obtain ⟨hi, h⟩ := h
  refine g_iast X dX2_send_9 rfl hi (fun m9 em9 => ?_)
  have h := h m9 em9
  refine g_iload_n 1 (i := 1) X dX2_send_10 rfl rfl ?_
  refine g_istore_n (i := 3) (lv' := [(3, (0, v1)), (0, (2, 47)), (1, (0, v1)), (2, (0, v2))]) X dX2_send_11 rfl (by decide) rfl ?_
  refine g_iconst X dX2_send_12 (by decide) ?_
  refine g_istore (i := 4) (lv' := [(4, (0, 0)), (3, (0, v1)), (0, (2, 47)), (1, (0, v1)), (2, (0, v2))]) X dX2_send_13 (by decide) rfl ?_
  obtain ⟨n_3, h⟩ := h
  refine g_sub X [2, 4, 1, 0] rfl (pf_X2_send_15 X hr  n_3 _ _ _ _ h)
theorem im_X2_send (l : Launch) (x : WX) (v1 : Int) (v2 : Int) (m : Mem) (post : Mem → Prop) (h : wp_X2_send v1 v2 m post) : MetV l x 67 0 yX2_send cX2_send 6 [(2, 47), (0, v1), (0, v2)] m post := met_V (by decide) (Nat.le_of_ble_eq_true rfl) (fun _ X hr => pf_X2_send X hr v1 v2 m h)
def wp_X2_leastPaid_21 (K90 : Int → Mem → Prop) (post : Int → Mem → Prop) : Nat → Int → Int → Mem → Prop
  | 0, _, _, _ => False
  | n + 1, v2, v3, m =>
  ((1200 ≤ v3 → (K90 v2 m)) ∧
  (¬ 1200 ≤ v3 → (wp_X2_isWanting m (fun r29 m29 => ((¬ r29 = 0 → (wp_X2_spread m29 (fun m38 => wp_X2_cheapestTaker m38 (fun r42 m42 => ((¬ r42 = (-1) → (wp_X2_amountTo r42 m42 (fun r58 m58 => wp_X2_send r42 r58 m58 (fun m68 => (0 ≤ r42 ∧ r42 < 24) ∧ (∀ v2_83 : Int, v2_83 = w32 (v2 + w32 (r58 * m68 56 r42)) → (wp_X2_leastPaid_21 K90 post n v2_83 (w32 (v3 + 1)) m68)))))) ∧
  (r42 = (-1) → (post (-1) m42))))))) ∧
  (r29 = 0 → (post v2 m29)))))))
set_option maxRecDepth 100000 in
theorem pf_X2_leastPaid_21 {l : Launch} {x : WX} {G : GT} {post : Int → Mem → Prop} {K90 : Int → Mem → Prop} (X : Ax l x cX2_leastPaid RX2 6 (rmd 3) 67 G) (hr : RI cX2_leastPaid post G) (hK90 : ∀ (v2 : Int) (m : Mem), K90 v2 m → G 90 [(0, (2, 47)), (2, (0, v2))] [] m) : ∀ (n : Nat) (v2 : Int) (v3 : Int) (m : Mem) (_ : wp_X2_leastPaid_21 K90 post n v2 v3 m), G 21 [(0, (2, 47)), (2, (0, v2)), (3, (0, v3))] [] m := by
  intro n
  induction n with
  | zero => intro v2 v3 m h; exact absurd h id
  | succ n ih =>
  intro v2 v3 m h
  unfold wp_X2_leastPaid_21 at h
  refine g_iload_n 2 (i := 3) X dX2_leastPaid_21 rfl rfl ?_
  refine g_sipush X dX2_leastPaid_22 (by decide) ?_
  refine g_icmp_ge X dX2_leastPaid_25 (tgt := 90) (by decide) (fun hc => ?_) (fun hc => ?_)
  · have h := h.1 hc
    exact g_sub X [0, 1] rfl (hK90 _ _ h)
  · have h := h.2 hc
    refine g_aload_n 0 (i := 0) X dX2_leastPaid_28 rfl rfl ?_
    refine g_cVI (st := []) X dX2_leastPaid_29 YX2_isWanting lX2_71 (by decide) (im_X2_isWanting l x  _ _ h) rfl ⟨by decide, by decide⟩ rfl (Nat.le_of_ble_eq_true rfl) (fun r29 m29 h => ?_)
    refine g_if_ne X dX2_leastPaid_32 (tgt := 37) (by decide) (fun hc => ?_) (fun hc => ?_)
    · have h := h.1 hc
      refine g_aload_n 0 (i := 0) X dX2_leastPaid_37 rfl rfl ?_
      refine g_cVV (st := []) X dX2_leastPaid_38 YX2_spread lX2_75 (by decide) (im_X2_spread l x  _ _ h) rfl ⟨by decide, by decide⟩ rfl (Nat.le_of_ble_eq_true rfl) (fun m38 h => ?_)
      refine g_aload_n 0 (i := 0) X dX2_leastPaid_41 rfl rfl ?_
      refine g_cVI (st := []) X dX2_leastPaid_42 YX2_cheapestTaker lX2_78 (by decide) (im_X2_cheapestTaker l x  _ _ h) rfl ⟨by decide, by decide⟩ rfl (Nat.le_of_ble_eq_true rfl) (fun r42 m42 h => ?_)
      refine g_istore (i := 4) (lv' := [(4, (0, r42)), (0, (2, 47)), (2, (0, v2)), (3, (0, v3))]) X dX2_leastPaid_45 (by decide) rfl ?_
      refine g_iload 0 (i := 4) X dX2_leastPaid_47 rfl ?_
      refine g_iconst X dX2_leastPaid_49 (by decide) ?_
      refine g_icmp_ne X dX2_leastPaid_50 (tgt := 55) (by decide) (fun hc => ?_) (fun hc => ?_)
      · have h := h.1 hc
        refine g_aload_n 1 (i := 0) X dX2_leastPaid_55 rfl rfl ?_
        refine g_iload 0 (i := 4) X dX2_leastPaid_56 rfl ?_
        refine g_cVI (st := []) X dX2_leastPaid_58 YX2_amountTo lX2_82 (by decide) (im_X2_amountTo l x _ _ _ h) rfl ⟨by decide, by decide⟩ rfl (Nat.le_of_ble_eq_true rfl) (fun r58 m58 h => ?_)
        refine g_istore (i := 5) (lv' := [(5, (0, r58)), (4, (0, r42)), (0, (2, 47)), (2, (0, v2)), (3, (0, v3))]) X dX2_leastPaid_61 (by decide) rfl ?_
        refine g_aload_n 2 (i := 0) X dX2_leastPaid_63 rfl rfl ?_
        refine g_iload 1 (i := 4) X dX2_leastPaid_64 rfl ?_
        refine g_iload 0 (i := 5) X dX2_leastPaid_66 rfl ?_
        refine g_cVV (st := []) X dX2_leastPaid_68 YX2_send lX2_86 (by decide) (im_X2_send l x _ _ _ _ h) rfl ⟨by decide, by decide⟩ rfl (Nat.le_of_ble_eq_true rfl) (fun m68 h => ?_)
        refine g_iload_n 3 (i := 2) X dX2_leastPaid_71 rfl rfl ?_
        refine g_iload 0 (i := 5) X dX2_leastPaid_72 rfl ?_
        refine g_aload_n 2 (i := 0) X dX2_leastPaid_74 rfl rfl ?_
        refine g_getR X dX2_leastPaid_75 fX2_36 ?_
        refine g_iload 1 (i := 4) X dX2_leastPaid_78 rfl ?_
        obtain ⟨hi, h⟩ := h
        refine g_iald X dX2_leastPaid_80 rfl hi ?_
        refine g_imul X dX2_leastPaid_81 ?_
        refine g_iadd X dX2_leastPaid_82 ?_
        refine g_nmI (fun v2_83 ev2_83 => ?_)
        have h := h v2_83 ev2_83
        refine g_istore_n (i := 2) (lv' := [(2, (0, v2_83)), (5, (0, r58)), (4, (0, r42)), (0, (2, 47)), (3, (0, v3))]) X dX2_leastPaid_83 rfl (by decide) rfl ?_
        refine g_iinc 4 (lv' := [(3, (0, w32 (v3 + 1))), (2, (0, v2_83)), (5, (0, r58)), (4, (0, r42)), (0, (2, 47))]) X dX2_leastPaid_84 rfl (by decide) rfl ?_
        refine g_goto X dX2_leastPaid_87 (tgt := 21) (by decide) ?_
        exact g_sub X [4, 1, 0] rfl (ih _ _ _ h)
      · have h := h.2 hc
        refine g_iconst X dX2_leastPaid_53 (by decide) ?_
        exact hr _ _ _ _ _ dX2_leastPaid_54 h
    · have h := h.2 hc
      refine g_iload_n 1 (i := 2) X dX2_leastPaid_35 rfl rfl ?_
      exact hr _ _ _ _ _ dX2_leastPaid_36 h
def wp_X2_leastPaid  (m : Mem) (post : Int → Mem → Prop) : Prop :=
  wp_X2_gather (m 1 0) m (fun m5 => wp_X3_measure m5 (fun m9 => wp_X2_setFares m9 (fun m14 => ∃ n_3 : Nat, wp_X2_leastPaid_21 (fun v2_2 m_2 => wp_X2_isWanting m_2 (fun r91 m91 => ((r91 = 0 → (post v2_2 m91)) ∧
  (¬ r91 = 0 → (post (-1) m91))))) post n_3 0 0 m14)))
set_option maxRecDepth 100000 in
theorem pf_X2_leastPaid {l : Launch} {x : WX} {G : GT} {post : Int → Mem → Prop} (X : Ax l x cX2_leastPaid RX2 6 (rmd 3) 67 G) (hr : RI cX2_leastPaid post G)  (m : Mem) (h : wp_X2_leastPaid  m post) : G 0 [(0, (2, 47)), (1, (2, 1))] [] m := by
  unfold wp_X2_leastPaid at h
  refine g_aload_n 0 (i := 0) X dX2_leastPaid_0 rfl rfl ?_
  refine g_aload_n 1 (i := 1) X dX2_leastPaid_1 rfl rfl ?_
  refine g_getI X dX2_leastPaid_2 fX2_55 ?_
  refine g_cVV (st := []) X dX2_leastPaid_5 YX2_gather lX2_60 (by decide) (im_X2_gather l x _ _ _ h) rfl ⟨by decide, by decide⟩ rfl (Nat.le_of_ble_eq_true rfl) (fun m5 h => ?_)
  refine g_aload_n 1 (i := 1) X dX2_leastPaid_8 rfl rfl ?_
  refine g_cVV (st := []) X dX2_leastPaid_9 YX3_measure lX2_64 (by decide) (im_X3_measure l x  _ _ h) rfl ⟨by decide, by decide⟩ rfl (Nat.le_of_ble_eq_true rfl) (fun m9 h => ?_)
  refine g_aload_n 0 (i := 0) X dX2_leastPaid_12 rfl rfl ?_
  refine g_aload_n 1 (i := 1) X dX2_leastPaid_13 rfl rfl ?_
  refine g_cVV (st := []) X dX2_leastPaid_14 YX2_setFares lX2_67 (by decide) (im_X2_setFares l x  _ _ h) rfl ⟨by decide, by decide⟩ rfl (Nat.le_of_ble_eq_true rfl) (fun m14 h => ?_)
  refine g_iconst X dX2_leastPaid_17 (by decide) ?_
  refine g_istore_n (i := 2) (lv' := [(2, (0, 0)), (0, (2, 47)), (1, (2, 1))]) X dX2_leastPaid_18 rfl (by decide) rfl ?_
  refine g_iconst X dX2_leastPaid_19 (by decide) ?_
  refine g_istore_n (i := 3) (lv' := [(3, (0, 0)), (2, (0, 0)), (0, (2, 47)), (1, (2, 1))]) X dX2_leastPaid_20 rfl (by decide) rfl ?_
  obtain ⟨n_3, h⟩ := h
  refine g_sub X [2, 1, 0] rfl (pf_X2_leastPaid_21 X hr (fun v2_2 m_2 h => ?_) n_3 _ _ _ h)
  · refine g_aload_n 0 (i := 0) X dX2_leastPaid_90 rfl rfl ?_
    refine g_cVI (st := []) X dX2_leastPaid_91 YX2_isWanting lX2_71 (by decide) (im_X2_isWanting l x  _ _ h) rfl ⟨by decide, by decide⟩ rfl (Nat.le_of_ble_eq_true rfl) (fun r91 m91 h => ?_)
    refine g_if_eq X dX2_leastPaid_94 (tgt := 101) (by decide) (fun hc => ?_) (fun hc => ?_)
    · have h := h.1 hc
      refine g_iload_n 1 (i := 2) X dX2_leastPaid_101 rfl rfl ?_
      exact hr _ _ _ _ _ dX2_leastPaid_102 h
    · have h := h.2 hc
      refine g_iconst X dX2_leastPaid_97 (by decide) ?_
      refine g_goto X dX2_leastPaid_98 (tgt := 102) (by decide) ?_
      exact hr _ _ _ _ _ dX2_leastPaid_102 h
theorem im_X2_leastPaid (l : Launch) (x : WX)  (m : Mem) (post : Int → Mem → Prop) (h : wp_X2_leastPaid  m post) : MetI l x 67 3 yX2_leastPaid cX2_leastPaid 6 .int [(2, 47), (2, 1)] m post := met_I (by decide) (Nat.le_of_ble_eq_true rfl) (fun _ X hr => pf_X2_leastPaid X hr  m h)
def wp_X2_digestOnto_6  (post : Int → Mem → Prop) : Nat → Int → Int → Int → Mem → Prop
  | 0, _, _, _, _ => False
  | n + 1, v3, v4, v6, m =>
  ((w32 (v3 * 3) ≤ v6 → (post v4 m)) ∧
  (¬ w32 (v3 * 3) ≤ v6 → ((0 ≤ v6 ∧ v6 < 24) ∧ (∀ v4_29 : Int, v4_29 = w64 (w64 (31 * v4) + m 48 v6) → (wp_X2_digestOnto_6  post n v3 v4_29 (w32 (v6 + 1)) m)))))
set_option maxRecDepth 100000 in
theorem pf_X2_digestOnto_6 {l : Launch} {x : WX} {G : GT} {post : Int → Mem → Prop}  (X : Ax l x cX2_digestOnto RX2 7 (rmd 0) 67 G) (hr : RJ cX2_digestOnto post G) : ∀ (n : Nat) (v3 : Int) (v4 : Int) (v6 : Int) (m : Mem) (_ : wp_X2_digestOnto_6  post n v3 v4 v6 m), G 6 [(0, (2, 47)), (3, (0, v3)), (4, (1, v4)), (6, (0, v6))] [] m := by
  intro n
  induction n with
  | zero => intro v3 v4 v6 m h; exact absurd h id
  | succ n ih =>
  intro v3 v4 v6 m h
  unfold wp_X2_digestOnto_6 at h
  refine g_iload 3 (i := 6) X dX2_digestOnto_6 rfl ?_
  refine g_iload_n 1 (i := 3) X dX2_digestOnto_8 rfl rfl ?_
  refine g_iconst X dX2_digestOnto_9 (by decide) ?_
  refine g_imul X dX2_digestOnto_10 ?_
  refine g_icmp_ge X dX2_digestOnto_11 (tgt := 37) (by decide) (fun hc => ?_) (fun hc => ?_)
  · have h := h.1 hc
    refine g_lload 2 (i := 4) X dX2_digestOnto_37 rfl ?_
    exact hr _ _ _ _ _ dX2_digestOnto_39 h
  · have h := h.2 hc
    refine g_ldc2 X dX2_digestOnto_14 (by unfold r64; omega) kX2_112 ?_
    refine g_lload 2 (i := 4) X dX2_digestOnto_17 rfl ?_
    refine g_lmul X dX2_digestOnto_19 ?_
    refine g_aload_n 0 (i := 0) X dX2_digestOnto_20 rfl rfl ?_
    refine g_getR X dX2_digestOnto_21 fX2_11 ?_
    refine g_iload 3 (i := 6) X dX2_digestOnto_24 rfl ?_
    obtain ⟨hi, h⟩ := h
    refine g_iald X dX2_digestOnto_26 rfl hi ?_
    refine g_i2l X dX2_digestOnto_27 ?_
    refine g_ladd X dX2_digestOnto_28 ?_
    refine g_nmI (fun v4_29 ev4_29 => ?_)
    have h := h v4_29 ev4_29
    refine g_lstore (i := 4) (lv' := [(4, (1, v4_29)), (0, (2, 47)), (3, (0, v3)), (6, (0, v6))]) X dX2_digestOnto_29 (by decide) rfl ?_
    refine g_iinc 3 (lv' := [(6, (0, w32 (v6 + 1))), (4, (1, v4_29)), (0, (2, 47)), (3, (0, v3))]) X dX2_digestOnto_31 rfl (by decide) rfl ?_
    refine g_goto X dX2_digestOnto_34 (tgt := 6) (by decide) ?_
    exact g_sub X [2, 3, 1, 0] rfl (ih _ _ _ _ h)
def wp_X2_digestOnto (v1 : Int) (v3 : Int) (m : Mem) (post : Int → Mem → Prop) : Prop :=
  ∃ n_2 : Nat, wp_X2_digestOnto_6  post n_2 v3 v1 0 m
set_option maxRecDepth 100000 in
theorem pf_X2_digestOnto {l : Launch} {x : WX} {G : GT} {post : Int → Mem → Prop} (X : Ax l x cX2_digestOnto RX2 7 (rmd 0) 67 G) (hr : RJ cX2_digestOnto post G) (v1 : Int) (v3 : Int) (m : Mem) (h : wp_X2_digestOnto v1 v3 m post) : G 0 [(0, (2, 47)), (1, (1, v1)), (3, (0, v3))] [] m := by
  unfold wp_X2_digestOnto at h
  refine g_lload_n 1 (i := 1) X dX2_digestOnto_0 rfl rfl ?_
  refine g_lstore (i := 4) (lv' := [(4, (1, v1)), (0, (2, 47)), (1, (1, v1)), (3, (0, v3))]) X dX2_digestOnto_1 (by decide) rfl ?_
  refine g_iconst X dX2_digestOnto_3 (by decide) ?_
  refine g_istore (i := 6) (lv' := [(6, (0, 0)), (4, (1, v1)), (0, (2, 47)), (1, (1, v1)), (3, (0, v3))]) X dX2_digestOnto_4 (by decide) rfl ?_
  obtain ⟨n_2, h⟩ := h
  refine g_sub X [2, 4, 1, 0] rfl (pf_X2_digestOnto_6 X hr  n_2 _ _ _ _ h)
theorem im_X2_digestOnto (l : Launch) (x : WX) (v1 : Int) (v3 : Int) (m : Mem) (post : Int → Mem → Prop) (h : wp_X2_digestOnto v1 v3 m post) : MetJ l x 67 0 yX2_digestOnto cX2_digestOnto 7 [(2, 47), (1, v1), (0, v3)] m post := met_J (by decide) (Nat.le_of_ble_eq_true rfl) (fun _ X hr => pf_X2_digestOnto X hr v1 v3 m h)
def wp_X3_begin (v1 : Int) (m : Mem) (post : Mem → Prop) : Prop :=
  ∀ m2 : Mem, m2 = mset m 1 0 v1 → (wp_J7_fill_53178 2 10 m2 (fun m11 => post m11))
set_option maxRecDepth 100000 in
theorem pf_X3_begin {l : Launch} {x : WX} {G : GT} {post : Mem → Prop} (X : Ax l x cX3_begin RX3 2 (rmd 1) 67 G) (hr : RV cX3_begin post G) (v1 : Int) (m : Mem) (h : wp_X3_begin v1 m post) : G 0 [(0, (2, 1)), (1, (0, v1))] [] m := by
  unfold wp_X3_begin at h
  refine g_aload_n 0 (i := 0) X dX3_begin_0 rfl rfl ?_
  refine g_iload_n 1 (i := 1) X dX3_begin_1 rfl rfl ?_
  refine g_putI X dX3_begin_2 pX3_18 (fun m2 em2 => ?_)
  have h := h m2 em2
  refine g_aload_n 0 (i := 0) X dX3_begin_5 rfl rfl ?_
  refine g_getR X dX3_begin_6 fX3_9 ?_
  refine g_bipush X dX3_begin_9 (by decide) ?_
  refine g_cSV (st := []) X dX3_begin_11 YJ7_fill_53178 lX3_22 (by decide) (im_J7_fill_53178 l x _ _ _ _ h) rfl ⟨by decide, by decide⟩ rfl (Nat.le_of_ble_eq_true rfl) (fun m11 h => ?_)
  exact hr _ _ _ _ dX3_begin_14 h
theorem im_X3_begin (l : Launch) (x : WX) (v1 : Int) (m : Mem) (post : Mem → Prop) (h : wp_X3_begin v1 m post) : MetV l x 67 1 yX3_begin cX3_begin 2 [(2, 1), (0, v1)] m post := met_V (by decide) (Nat.le_of_ble_eq_true rfl) (fun _ X hr => pf_X3_begin X hr v1 m h)
def wp_X3_has (v1 : Int) (m : Mem) (post : Int → Mem → Prop) : Prop :=
  ((v1 < 0 → (post 0 m)) ∧
  (¬ v1 < 0 → (((m 1 0 ≤ v1 → (post 0 m)) ∧
  (¬ m 1 0 ≤ v1 → (post 1 m))))))
set_option maxRecDepth 100000 in
theorem pf_X3_has {l : Launch} {x : WX} {G : GT} {post : Int → Mem → Prop} (X : Ax l x cX3_has RX3 2 (rmd 0) 67 G) (hr : RZ cX3_has post G) (v1 : Int) (m : Mem) (h : wp_X3_has v1 m post) : G 0 [(0, (2, 1)), (1, (0, v1))] [] m := by
  unfold wp_X3_has at h
  refine g_iload_n 1 (i := 1) X dX3_has_0 rfl rfl ?_
  refine g_if_lt X dX3_has_1 (tgt := 16) (by decide) (fun hc => ?_) (fun hc => ?_)
  · have h := h.1 hc
    refine g_iconst X dX3_has_16 (by decide) ?_
    exact hr _ _ _ _ _ dX3_has_17 ⟨by decide, h⟩
  · have h := h.2 hc
    refine g_iload_n 1 (i := 1) X dX3_has_4 rfl rfl ?_
    refine g_aload_n 0 (i := 0) X dX3_has_5 rfl rfl ?_
    refine g_getI X dX3_has_6 fX3_18 ?_
    refine g_icmp_ge X dX3_has_9 (tgt := 16) (by decide) (fun hc => ?_) (fun hc => ?_)
    · have h := h.1 hc
      refine g_iconst X dX3_has_16 (by decide) ?_
      exact hr _ _ _ _ _ dX3_has_17 ⟨by decide, h⟩
    · have h := h.2 hc
      refine g_iconst X dX3_has_12 (by decide) ?_
      refine g_goto X dX3_has_13 (tgt := 17) (by decide) ?_
      exact hr _ _ _ _ _ dX3_has_17 ⟨by decide, h⟩
theorem im_X3_has (l : Launch) (x : WX) (v1 : Int) (m : Mem) (post : Int → Mem → Prop) (h : wp_X3_has v1 m post) : MetI l x 67 0 yX3_has cX3_has 2 .boolean [(2, 1), (0, v1)] m post := met_Z (by decide) (Nat.le_of_ble_eq_true rfl) (fun _ X hr => pf_X3_has X hr v1 m h)
def wp_X3_hasPair (v1 : Int) (v2 : Int) (m : Mem) (post : Int → Mem → Prop) : Prop :=
  wp_X3_has v1 m (fun r2 m2 => ((r2 = 0 → (post 0 m2)) ∧
  (¬ r2 = 0 → (wp_X3_has v2 m2 (fun r10 m10 => ((r10 = 0 → (post 0 m10)) ∧
  (¬ r10 = 0 → (((v1 = v2 → (post 0 m10)) ∧
  (¬ v1 = v2 → (post 1 m10)))))))))))
set_option maxRecDepth 100000 in
theorem pf_X3_hasPair {l : Launch} {x : WX} {G : GT} {post : Int → Mem → Prop} (X : Ax l x cX3_hasPair RX3 3 (rmd 1) 67 G) (hr : RZ cX3_hasPair post G) (v1 : Int) (v2 : Int) (m : Mem) (h : wp_X3_hasPair v1 v2 m post) : G 0 [(0, (2, 1)), (1, (0, v1)), (2, (0, v2))] [] m := by
  unfold wp_X3_hasPair at h
  refine g_aload_n 0 (i := 0) X dX3_hasPair_0 rfl rfl ?_
  refine g_iload_n 1 (i := 1) X dX3_hasPair_1 rfl rfl ?_
  refine g_cVI (st := []) X dX3_hasPair_2 YX3_has lX3_28 (by decide) (im_X3_has l x _ _ _ h) rfl ⟨by decide, by decide⟩ rfl (Nat.le_of_ble_eq_true rfl) (fun r2 m2 h => ?_)
  refine g_if_eq X dX3_hasPair_5 (tgt := 25) (by decide) (fun hc => ?_) (fun hc => ?_)
  · have h := h.1 hc
    refine g_iconst X dX3_hasPair_25 (by decide) ?_
    exact hr _ _ _ _ _ dX3_hasPair_26 ⟨by decide, h⟩
  · have h := h.2 hc
    refine g_aload_n 0 (i := 0) X dX3_hasPair_8 rfl rfl ?_
    refine g_iload_n 2 (i := 2) X dX3_hasPair_9 rfl rfl ?_
    refine g_cVI (st := []) X dX3_hasPair_10 YX3_has lX3_28 (by decide) (im_X3_has l x _ _ _ h) rfl ⟨by decide, by decide⟩ rfl (Nat.le_of_ble_eq_true rfl) (fun r10 m10 h => ?_)
    refine g_if_eq X dX3_hasPair_13 (tgt := 25) (by decide) (fun hc => ?_) (fun hc => ?_)
    · have h := h.1 hc
      refine g_iconst X dX3_hasPair_25 (by decide) ?_
      exact hr _ _ _ _ _ dX3_hasPair_26 ⟨by decide, h⟩
    · have h := h.2 hc
      refine g_iload_n 1 (i := 1) X dX3_hasPair_16 rfl rfl ?_
      refine g_iload_n 2 (i := 2) X dX3_hasPair_17 rfl rfl ?_
      refine g_icmp_eq X dX3_hasPair_18 (tgt := 25) (by decide) (fun hc => ?_) (fun hc => ?_)
      · have h := h.1 hc
        refine g_iconst X dX3_hasPair_25 (by decide) ?_
        exact hr _ _ _ _ _ dX3_hasPair_26 ⟨by decide, h⟩
      · have h := h.2 hc
        refine g_iconst X dX3_hasPair_21 (by decide) ?_
        refine g_goto X dX3_hasPair_22 (tgt := 26) (by decide) ?_
        exact hr _ _ _ _ _ dX3_hasPair_26 ⟨by decide, h⟩
theorem im_X3_hasPair (l : Launch) (x : WX) (v1 : Int) (v2 : Int) (m : Mem) (post : Int → Mem → Prop) (h : wp_X3_hasPair v1 v2 m post) : MetI l x 67 1 yX3_hasPair cX3_hasPair 3 .boolean [(2, 1), (0, v1), (0, v2)] m post := met_Z (by decide) (Nat.le_of_ble_eq_true rfl) (fun _ X hr => pf_X3_hasPair X hr v1 v2 m h)
def wp_X3_setMiles (v1 : Int) (v2 : Int) (v3 : Int) (m : Mem) (post : Int → Mem → Prop) : Prop :=
  (0 ≤ w32 (w32 (v1 * 8) + v2) ∧ w32 (w32 (v1 * 8) + v2) < 64) ∧ (∀ v4_11 : Int, v4_11 = m 2 (w32 (w32 (v1 * 8) + v2)) → ((0 ≤ w32 (w32 (v1 * 8) + v2) ∧ w32 (w32 (v1 * 8) + v2) < 64) ∧ (∀ m24 : Mem, m24 = mset m 2 (w32 (w32 (v1 * 8) + v2)) v3 → ((0 ≤ w32 (w32 (v2 * 8) + v1) ∧ w32 (w32 (v2 * 8) + v1) < 64) ∧ (∀ m36 : Mem, m36 = mset m24 2 (w32 (w32 (v2 * 8) + v1)) v3 → (post v4_11 m36))))))
set_option maxRecDepth 100000 in
theorem pf_X3_setMiles {l : Launch} {x : WX} {G : GT} {post : Int → Mem → Prop} (X : Ax l x cX3_setMiles RX3 5 (rmd 0) 67 G) (hr : RI cX3_setMiles post G) (v1 : Int) (v2 : Int) (v3 : Int) (m : Mem) (h : wp_X3_setMiles v1 v2 v3 m post) : G 0 [(0, (2, 1)), (1, (0, v1)), (2, (0, v2)), (3, (0, v3))] [] m := by
  unfold wp_X3_setMiles at h
  refine g_aload_n 0 (i := 0) X dX3_setMiles_0 rfl rfl ?_
  refine g_getR X dX3_setMiles_1 fX3_9 ?_
  refine g_iload_n 1 (i := 1) X dX3_setMiles_4 rfl rfl ?_
  refine g_bipush X dX3_setMiles_5 (by decide) ?_
  refine g_imul X dX3_setMiles_7 ?_
  refine g_iload_n 2 (i := 2) X dX3_setMiles_8 rfl rfl ?_
  refine g_iadd X dX3_setMiles_9 ?_
  obtain ⟨hi, h⟩ := h
  refine g_iald X dX3_setMiles_10 rfl hi ?_
  refine g_nmI (fun v4_11 ev4_11 => ?_)
  have h := h v4_11 ev4_11
  refine g_istore (i := 4) (lv' := [(4, (0, v4_11)), (0, (2, 1)), (1, (0, v1)), (2, (0, v2)), (3, (0, v3))]) X dX3_setMiles_11 (by decide) rfl ?_
  refine g_aload_n 1 (i := 0) X dX3_setMiles_13 rfl rfl ?_
  refine g_getR X dX3_setMiles_14 fX3_9 ?_
  refine g_iload_n 2 (i := 1) X dX3_setMiles_17 rfl rfl ?_
  refine g_bipush X dX3_setMiles_18 (by decide) ?_
  refine g_imul X dX3_setMiles_20 ?_
  refine g_iload_n 3 (i := 2) X dX3_setMiles_21 rfl rfl ?_
  refine g_iadd X dX3_setMiles_22 ?_
  refine g_iload_n 4 (i := 3) X dX3_setMiles_23 rfl rfl ?_
  obtain ⟨hi, h⟩ := h
  refine g_iast X dX3_setMiles_24 rfl hi (fun m24 em24 => ?_)
  have h := h m24 em24
  refine g_aload_n 1 (i := 0) X dX3_setMiles_25 rfl rfl ?_
  refine g_getR X dX3_setMiles_26 fX3_9 ?_
  refine g_iload_n 3 (i := 2) X dX3_setMiles_29 rfl rfl ?_
  refine g_bipush X dX3_setMiles_30 (by decide) ?_
  refine g_imul X dX3_setMiles_32 ?_
  refine g_iload_n 2 (i := 1) X dX3_setMiles_33 rfl rfl ?_
  refine g_iadd X dX3_setMiles_34 ?_
  refine g_iload_n 4 (i := 3) X dX3_setMiles_35 rfl rfl ?_
  obtain ⟨hi, h⟩ := h
  refine g_iast X dX3_setMiles_36 rfl hi (fun m36 em36 => ?_)
  have h := h m36 em36
  refine g_iload 0 (i := 4) X dX3_setMiles_37 rfl ?_
  exact hr _ _ _ _ _ dX3_setMiles_39 h
theorem im_X3_setMiles (l : Launch) (x : WX) (v1 : Int) (v2 : Int) (v3 : Int) (m : Mem) (post : Int → Mem → Prop) (h : wp_X3_setMiles v1 v2 v3 m post) : MetI l x 67 0 yX3_setMiles cX3_setMiles 5 .int [(2, 1), (0, v1), (0, v2), (0, v3)] m post := met_I (by decide) (Nat.le_of_ble_eq_true rfl) (fun _ X hr => pf_X3_setMiles X hr v1 v2 v3 m h)
def wp_X3_digestOnto_30 (K15 : Int → Int → Mem → Prop) (post : Int → Mem → Prop) : Nat → Int → Int → Int → Mem → Prop
  | 0, _, _, _, _ => False
  | n + 1, v3, v5, v6, m =>
  ((m 1 0 ≤ v6 → (K15 v3 (w32 (v5 + 1)) m)) ∧
  (¬ m 1 0 ≤ v6 → ((0 ≤ w32 (w32 (v5 * 8) + v6) ∧ w32 (w32 (v5 * 8) + v6) < 64) ∧ (∀ v3_59 : Int, v3_59 = w64 (w64 (31 * v3) + m 2 (w32 (w32 (v5 * 8) + v6))) → (wp_X3_digestOnto_30 K15 post n v3_59 v5 (w32 (v6 + 1)) m)))))
set_option maxRecDepth 100000 in
theorem pf_X3_digestOnto_30 {l : Launch} {x : WX} {G : GT} {post : Int → Mem → Prop} {K15 : Int → Int → Mem → Prop} (X : Ax l x cX3_digestOnto RX3 7 (rmd 0) 67 G) (hr : RJ cX3_digestOnto post G) (hK15 : ∀ (v3 : Int) (v5 : Int) (m : Mem), K15 v3 v5 m → G 15 [(0, (2, 1)), (3, (1, v3)), (5, (0, v5))] [] m) : ∀ (n : Nat) (v3 : Int) (v5 : Int) (v6 : Int) (m : Mem) (_ : wp_X3_digestOnto_30 K15 post n v3 v5 v6 m), G 30 [(0, (2, 1)), (3, (1, v3)), (5, (0, v5)), (6, (0, v6))] [] m := by
  intro n
  induction n with
  | zero => intro v3 v5 v6 m h; exact absurd h id
  | succ n ih =>
  intro v3 v5 v6 m h
  unfold wp_X3_digestOnto_30 at h
  refine g_iload 3 (i := 6) X dX3_digestOnto_30 rfl ?_
  refine g_aload_n 0 (i := 0) X dX3_digestOnto_32 rfl rfl ?_
  refine g_getI X dX3_digestOnto_33 fX3_18 ?_
  refine g_icmp_ge X dX3_digestOnto_36 (tgt := 66) (by decide) (fun hc => ?_) (fun hc => ?_)
  · have h := h.1 hc
    refine g_iinc 2 (lv' := [(5, (0, w32 (v5 + 1))), (0, (2, 1)), (3, (1, v3)), (6, (0, v6))]) X dX3_digestOnto_66 rfl (by decide) rfl ?_
    refine g_goto X dX3_digestOnto_69 (tgt := 15) (by decide) ?_
    exact g_sub X [1, 2, 0] rfl (hK15 _ _ _ h)
  · have h := h.2 hc
    refine g_ldc2 X dX3_digestOnto_39 (by unfold r64; omega) kX3_41 ?_
    refine g_lload_n 1 (i := 3) X dX3_digestOnto_42 rfl rfl ?_
    refine g_lmul X dX3_digestOnto_43 ?_
    refine g_aload_n 0 (i := 0) X dX3_digestOnto_44 rfl rfl ?_
    refine g_getR X dX3_digestOnto_45 fX3_9 ?_
    refine g_iload 2 (i := 5) X dX3_digestOnto_48 rfl ?_
    refine g_bipush X dX3_digestOnto_50 (by decide) ?_
    refine g_imul X dX3_digestOnto_52 ?_
    refine g_iload 3 (i := 6) X dX3_digestOnto_53 rfl ?_
    refine g_iadd X dX3_digestOnto_55 ?_
    obtain ⟨hi, h⟩ := h
    refine g_iald X dX3_digestOnto_56 rfl hi ?_
    refine g_i2l X dX3_digestOnto_57 ?_
    refine g_ladd X dX3_digestOnto_58 ?_
    refine g_nmI (fun v3_59 ev3_59 => ?_)
    have h := h v3_59 ev3_59
    refine g_lstore_n (i := 3) (lv' := [(3, (1, v3_59)), (0, (2, 1)), (5, (0, v5)), (6, (0, v6))]) X dX3_digestOnto_59 rfl (by decide) rfl ?_
    refine g_iinc 3 (lv' := [(6, (0, w32 (v6 + 1))), (3, (1, v3_59)), (0, (2, 1)), (5, (0, v5))]) X dX3_digestOnto_60 rfl (by decide) rfl ?_
    refine g_goto X dX3_digestOnto_63 (tgt := 30) (by decide) ?_
    exact g_sub X [2, 1, 3, 0] rfl (ih _ _ _ _ h)
def wp_X3_digestOnto_15  (post : Int → Mem → Prop) : Nat → Int → Int → Mem → Prop
  | 0, _, _, _ => False
  | n + 1, v3, v5, m =>
  ((m 1 0 ≤ v5 → (post v3 m)) ∧
  (¬ m 1 0 ≤ v5 → (∀ v6_28 : Int, v6_28 = w32 (v5 + 1) → (∃ n_5 : Nat, wp_X3_digestOnto_30 (fun v3_4 v5_4 m_4 => wp_X3_digestOnto_15  post n v3_4 v5_4 m_4) post n_5 v3 v5 v6_28 m))))
set_option maxRecDepth 100000 in
theorem pf_X3_digestOnto_15 {l : Launch} {x : WX} {G : GT} {post : Int → Mem → Prop}  (X : Ax l x cX3_digestOnto RX3 7 (rmd 0) 67 G) (hr : RJ cX3_digestOnto post G) : ∀ (n : Nat) (v3 : Int) (v5 : Int) (m : Mem) (_ : wp_X3_digestOnto_15  post n v3 v5 m), G 15 [(0, (2, 1)), (3, (1, v3)), (5, (0, v5))] [] m := by
  intro n
  induction n with
  | zero => intro v3 v5 m h; exact absurd h id
  | succ n ih =>
  intro v3 v5 m h
  unfold wp_X3_digestOnto_15 at h
  refine g_iload 2 (i := 5) X dX3_digestOnto_15 rfl ?_
  refine g_aload_n 0 (i := 0) X dX3_digestOnto_17 rfl rfl ?_
  refine g_getI X dX3_digestOnto_18 fX3_18 ?_
  refine g_icmp_ge X dX3_digestOnto_21 (tgt := 72) (by decide) (fun hc => ?_) (fun hc => ?_)
  · have h := h.1 hc
    refine g_lload_n 1 (i := 3) X dX3_digestOnto_72 rfl rfl ?_
    exact hr _ _ _ _ _ dX3_digestOnto_73 h
  · have h := h.2 hc
    refine g_iload 2 (i := 5) X dX3_digestOnto_24 rfl ?_
    refine g_iconst X dX3_digestOnto_26 (by decide) ?_
    refine g_iadd X dX3_digestOnto_27 ?_
    refine g_nmI (fun v6_28 ev6_28 => ?_)
    have h := h v6_28 ev6_28
    refine g_istore (i := 6) (lv' := [(6, (0, v6_28)), (0, (2, 1)), (3, (1, v3)), (5, (0, v5))]) X dX3_digestOnto_28 (by decide) rfl ?_
    obtain ⟨n_5, h⟩ := h
    refine g_sub X [1, 2, 3, 0] rfl (pf_X3_digestOnto_30 X hr (fun v3_4 v5_4 m_4 h => ?_) n_5 _ _ _ _ h)
    · exact g_sub X [0, 1, 2] rfl (ih _ _ _ h)
def wp_X3_digestOnto (v1 : Int) (m : Mem) (post : Int → Mem → Prop) : Prop :=
  ∀ v3_11 : Int, v3_11 = w64 (w64 (31 * v1) + m 1 0) → (∃ n_6 : Nat, wp_X3_digestOnto_15  post n_6 v3_11 0 m)
set_option maxRecDepth 100000 in
theorem pf_X3_digestOnto {l : Launch} {x : WX} {G : GT} {post : Int → Mem → Prop} (X : Ax l x cX3_digestOnto RX3 7 (rmd 0) 67 G) (hr : RJ cX3_digestOnto post G) (v1 : Int) (m : Mem) (h : wp_X3_digestOnto v1 m post) : G 0 [(0, (2, 1)), (1, (1, v1))] [] m := by
  unfold wp_X3_digestOnto at h
  refine g_ldc2 X dX3_digestOnto_0 (by unfold r64; omega) kX3_41 ?_
  refine g_lload_n 1 (i := 1) X dX3_digestOnto_3 rfl rfl ?_
  refine g_lmul X dX3_digestOnto_4 ?_
  refine g_aload_n 0 (i := 0) X dX3_digestOnto_5 rfl rfl ?_
  refine g_getI X dX3_digestOnto_6 fX3_18 ?_
  refine g_i2l X dX3_digestOnto_9 ?_
  refine g_ladd X dX3_digestOnto_10 ?_
  refine g_nmI (fun v3_11 ev3_11 => ?_)
  have h := h v3_11 ev3_11
  refine g_lstore_n (i := 3) (lv' := [(3, (1, v3_11)), (0, (2, 1)), (1, (1, v1))]) X dX3_digestOnto_11 rfl (by decide) rfl ?_
  refine g_iconst X dX3_digestOnto_12 (by decide) ?_
  refine g_istore (i := 5) (lv' := [(5, (0, 0)), (3, (1, v3_11)), (0, (2, 1)), (1, (1, v1))]) X dX3_digestOnto_13 (by decide) rfl ?_
  obtain ⟨n_6, h⟩ := h
  refine g_sub X [2, 1, 0] rfl (pf_X3_digestOnto_15 X hr  n_6 _ _ _ h)
theorem im_X3_digestOnto (l : Launch) (x : WX) (v1 : Int) (m : Mem) (post : Int → Mem → Prop) (h : wp_X3_digestOnto v1 m post) : MetJ l x 67 0 yX3_digestOnto cX3_digestOnto 7 [(2, 1), (1, v1)] m post := met_J (by decide) (Nat.le_of_ble_eq_true rfl) (fun _ X hr => pf_X3_digestOnto X hr v1 m h)
def wp_X4_add (v1 : Int) (v2 : Int) (m : Mem) (post : Mem → Prop) : Prop :=
  (0 ≤ m 59 0 ∧ m 59 0 < 5) ∧ (∀ m9 : Mem, m9 = mset m 60 (m 59 0) v1 → ((0 ≤ m9 59 0 ∧ m9 59 0 < 5) ∧ (∀ m19 : Mem, m19 = mset m9 61 (m9 59 0) v2 → (∀ m27 : Mem, m27 = mset m19 59 0 (w32 (m19 59 0 + 1)) → (post m27)))))
set_option maxRecDepth 100000 in
theorem pf_X4_add {l : Launch} {x : WX} {G : GT} {post : Mem → Prop} (X : Ax l x cX4_add RX4 3 (rmd 0) 67 G) (hr : RV cX4_add post G) (v1 : Int) (v2 : Int) (m : Mem) (h : wp_X4_add v1 v2 m post) : G 0 [(0, (2, 59)), (1, (0, v1)), (2, (0, v2))] [] m := by
  unfold wp_X4_add at h
  refine g_aload_n 0 (i := 0) X dX4_add_0 rfl rfl ?_
  refine g_getR X dX4_add_1 fX4_11 ?_
  refine g_aload_n 0 (i := 0) X dX4_add_4 rfl rfl ?_
  refine g_getI X dX4_add_5 fX4_22 ?_
  refine g_iload_n 1 (i := 1) X dX4_add_8 rfl rfl ?_
  obtain ⟨hi, h⟩ := h
  refine g_iast X dX4_add_9 rfl hi (fun m9 em9 => ?_)
  have h := h m9 em9
  refine g_aload_n 0 (i := 0) X dX4_add_10 rfl rfl ?_
  refine g_getR X dX4_add_11 fX4_15 ?_
  refine g_aload_n 0 (i := 0) X dX4_add_14 rfl rfl ?_
  refine g_getI X dX4_add_15 fX4_22 ?_
  refine g_iload_n 2 (i := 2) X dX4_add_18 rfl rfl ?_
  obtain ⟨hi, h⟩ := h
  refine g_iast X dX4_add_19 rfl hi (fun m19 em19 => ?_)
  have h := h m19 em19
  refine g_aload_n 0 (i := 0) X dX4_add_20 rfl rfl ?_
  refine g_dup X dX4_add_21 rfl ?_
  refine g_getI X dX4_add_22 fX4_22 ?_
  refine g_iconst X dX4_add_25 (by decide) ?_
  refine g_iadd X dX4_add_26 ?_
  refine g_putI X dX4_add_27 pX4_22 (fun m27 em27 => ?_)
  have h := h m27 em27
  exact hr _ _ _ _ dX4_add_30 h
theorem im_X4_add (l : Launch) (x : WX) (v1 : Int) (v2 : Int) (m : Mem) (post : Mem → Prop) (h : wp_X4_add v1 v2 m post) : MetV l x 67 0 yX4_add cX4_add 3 [(2, 59), (0, v1), (0, v2)] m post := met_V (by decide) (Nat.le_of_ble_eq_true rfl) (fun _ X hr => pf_X4_add X hr v1 v2 m h)
def wp_X4_hoursUnmissed_4  (post : Int → Mem → Prop) : Nat → Int → Int → Mem → Prop
  | 0, _, _, _ => False
  | n + 1, v1, v2, m =>
  ((m 59 0 ≤ v2 → (post v1 m)) ∧
  (¬ m 59 0 ≤ v2 → ((0 ≤ v2 ∧ v2 < 5) ∧ (∀ v1_20 : Int, v1_20 = w32 (v1 + m 60 v2) → (wp_X4_hoursUnmissed_4  post n v1_20 (w32 (v2 + 1)) m)))))
set_option maxRecDepth 100000 in
theorem pf_X4_hoursUnmissed_4 {l : Launch} {x : WX} {G : GT} {post : Int → Mem → Prop}  (X : Ax l x cX4_hoursUnmissed RX4 3 (rmd 0) 67 G) (hr : RI cX4_hoursUnmissed post G) : ∀ (n : Nat) (v1 : Int) (v2 : Int) (m : Mem) (_ : wp_X4_hoursUnmissed_4  post n v1 v2 m), G 4 [(0, (2, 59)), (1, (0, v1)), (2, (0, v2))] [] m := by
  intro n
  induction n with
  | zero => intro v1 v2 m h; exact absurd h id
  | succ n ih =>
  intro v1 v2 m h
  unfold wp_X4_hoursUnmissed_4 at h
  refine g_iload_n 2 (i := 2) X dX4_hoursUnmissed_4 rfl rfl ?_
  refine g_aload_n 0 (i := 0) X dX4_hoursUnmissed_5 rfl rfl ?_
  refine g_getI X dX4_hoursUnmissed_6 fX4_22 ?_
  refine g_icmp_ge X dX4_hoursUnmissed_9 (tgt := 27) (by decide) (fun hc => ?_) (fun hc => ?_)
  · have h := h.1 hc
    refine g_iload_n 1 (i := 1) X dX4_hoursUnmissed_27 rfl rfl ?_
    exact hr _ _ _ _ _ dX4_hoursUnmissed_28 h
  · have h := h.2 hc
    refine g_iload_n 1 (i := 1) X dX4_hoursUnmissed_12 rfl rfl ?_
    refine g_aload_n 0 (i := 0) X dX4_hoursUnmissed_13 rfl rfl ?_
    refine g_getR X dX4_hoursUnmissed_14 fX4_11 ?_
    refine g_iload_n 2 (i := 2) X dX4_hoursUnmissed_17 rfl rfl ?_
    obtain ⟨hi, h⟩ := h
    refine g_iald X dX4_hoursUnmissed_18 rfl hi ?_
    refine g_iadd X dX4_hoursUnmissed_19 ?_
    refine g_nmI (fun v1_20 ev1_20 => ?_)
    have h := h v1_20 ev1_20
    refine g_istore_n (i := 1) (lv' := [(1, (0, v1_20)), (0, (2, 59)), (2, (0, v2))]) X dX4_hoursUnmissed_20 rfl (by decide) rfl ?_
    refine g_iinc 2 (lv' := [(2, (0, w32 (v2 + 1))), (1, (0, v1_20)), (0, (2, 59))]) X dX4_hoursUnmissed_21 rfl (by decide) rfl ?_
    refine g_goto X dX4_hoursUnmissed_24 (tgt := 4) (by decide) ?_
    exact g_sub X [2, 1, 0] rfl (ih _ _ _ h)
def wp_X4_hoursUnmissed  (m : Mem) (post : Int → Mem → Prop) : Prop :=
  ∃ n_2 : Nat, wp_X4_hoursUnmissed_4  post n_2 0 0 m
set_option maxRecDepth 100000 in
theorem pf_X4_hoursUnmissed {l : Launch} {x : WX} {G : GT} {post : Int → Mem → Prop} (X : Ax l x cX4_hoursUnmissed RX4 3 (rmd 0) 67 G) (hr : RI cX4_hoursUnmissed post G)  (m : Mem) (h : wp_X4_hoursUnmissed  m post) : G 0 [(0, (2, 59))] [] m := by
  unfold wp_X4_hoursUnmissed at h
  refine g_iconst X dX4_hoursUnmissed_0 (by decide) ?_
  refine g_istore_n (i := 1) (lv' := [(1, (0, 0)), (0, (2, 59))]) X dX4_hoursUnmissed_1 rfl (by decide) rfl ?_
  refine g_iconst X dX4_hoursUnmissed_2 (by decide) ?_
  refine g_istore_n (i := 2) (lv' := [(2, (0, 0)), (1, (0, 0)), (0, (2, 59))]) X dX4_hoursUnmissed_3 rfl (by decide) rfl ?_
  obtain ⟨n_2, h⟩ := h
  refine g_sub X [2, 1, 0] rfl (pf_X4_hoursUnmissed_4 X hr  n_2 _ _ _ h)
theorem im_X4_hoursUnmissed (l : Launch) (x : WX)  (m : Mem) (post : Int → Mem → Prop) (h : wp_X4_hoursUnmissed  m post) : MetI l x 67 0 yX4_hoursUnmissed cX4_hoursUnmissed 3 .int [(2, 59)] m post := met_I (by decide) (Nat.le_of_ble_eq_true rfl) (fun _ X hr => pf_X4_hoursUnmissed X hr  m h)
def wp_J7_fill_d0a16_6  (post : Mem → Prop) : Nat → Int → Int → Int → Int → Mem → Prop
  | 0, _, _, _, _, _ => False
  | n + 1, v0, v1, v3, v4, m =>
  ((v4 ≤ v3 → (post m)) ∧
  (¬ v4 ≤ v3 → ((0 ≤ v3 ∧ v3 < jlen 67 v0) ∧ (∀ m15 : Mem, m15 = mset m v0 v3 v1 → (wp_J7_fill_d0a16_6  post n v0 v1 (w32 (v3 + 1)) v4 m15)))))
set_option maxRecDepth 100000 in
theorem pf_J7_fill_d0a16_6 {l : Launch} {x : WX} {G : GT} {post : Mem → Prop}  (X : Ax l x cJ7_fill_d0a16 RJ7 5 (rmd 0) 67 G) (hr : RV cJ7_fill_d0a16 post G) : ∀ (n : Nat) (v0 : Int) (v1 : Int) (v3 : Int) (v4 : Int) (m : Mem) (_ : wp_J7_fill_d0a16_6  post n v0 v1 v3 v4 m), G 6 [(0, (2, v0)), (1, (1, v1)), (3, (0, v3)), (4, (0, v4))] [] m := by
  intro n
  induction n with
  | zero => intro v0 v1 v3 v4 m h; exact absurd h id
  | succ n ih =>
  intro v0 v1 v3 v4 m h
  unfold wp_J7_fill_d0a16_6 at h
  refine g_iload_n 2 (i := 3) X dJ7_fill_d0a16_6 rfl rfl ?_
  refine g_iload 3 (i := 4) X dJ7_fill_d0a16_7 rfl ?_
  refine g_icmp_ge X dJ7_fill_d0a16_9 (tgt := 22) (by decide) (fun hc => ?_) (fun hc => ?_)
  · have h := h.1 hc
    exact hr _ _ _ _ dJ7_fill_d0a16_22 h
  · have h := h.2 hc
    refine g_aload_n 0 (i := 0) X dJ7_fill_d0a16_12 rfl rfl ?_
    refine g_iload_n 2 (i := 3) X dJ7_fill_d0a16_13 rfl rfl ?_
    refine g_lload_n 1 (i := 1) X dJ7_fill_d0a16_14 rfl rfl ?_
    obtain ⟨hi, h⟩ := h
    refine g_last X dJ7_fill_d0a16_15 rfl hi (fun m15 em15 => ?_)
    have h := h m15 em15
    refine g_iinc 2 (lv' := [(3, (0, w32 (v3 + 1))), (0, (2, v0)), (1, (1, v1)), (4, (0, v4))]) X dJ7_fill_d0a16_16 rfl (by decide) rfl ?_
    refine g_goto X dJ7_fill_d0a16_19 (tgt := 6) (by decide) ?_
    exact g_sub X [1, 2, 0, 3] rfl (ih _ _ _ _ _ h)
def wp_J7_fill_d0a16 (v0 : Int) (v1 : Int) (m : Mem) (post : Mem → Prop) : Prop :=
  0 < jlen 67 v0 ∧ (∀ v4_4 : Int, v4_4 = jlen 67 v0 → (∃ n_2 : Nat, wp_J7_fill_d0a16_6  post n_2 v0 v1 0 v4_4 m))
set_option maxRecDepth 100000 in
theorem pf_J7_fill_d0a16 {l : Launch} {x : WX} {G : GT} {post : Mem → Prop} (X : Ax l x cJ7_fill_d0a16 RJ7 5 (rmd 0) 67 G) (hr : RV cJ7_fill_d0a16 post G) (v0 : Int) (v1 : Int) (m : Mem) (h : wp_J7_fill_d0a16 v0 v1 m post) : G 0 [(0, (2, v0)), (1, (1, v1))] [] m := by
  unfold wp_J7_fill_d0a16 at h
  refine g_iconst X dJ7_fill_d0a16_0 (by decide) ?_
  refine g_istore_n (i := 3) (lv' := [(3, (0, 0)), (0, (2, v0)), (1, (1, v1))]) X dJ7_fill_d0a16_1 rfl (by decide) rfl ?_
  refine g_aload_n 1 (i := 0) X dJ7_fill_d0a16_2 rfl rfl ?_
  obtain ⟨hi, h⟩ := h
  refine g_alenJ X dJ7_fill_d0a16_3 hi ?_
  refine g_nmI (fun v4_4 ev4_4 => ?_)
  have h := h v4_4 ev4_4
  refine g_istore (i := 4) (lv' := [(4, (0, v4_4)), (3, (0, 0)), (0, (2, v0)), (1, (1, v1))]) X dJ7_fill_d0a16_4 (by decide) rfl ?_
  obtain ⟨n_2, h⟩ := h
  refine g_sub X [2, 3, 1, 0] rfl (pf_J7_fill_d0a16_6 X hr  n_2 _ _ _ _ _ h)
theorem im_J7_fill_d0a16 (l : Launch) (x : WX) (v0 : Int) (v1 : Int) (m : Mem) (post : Mem → Prop) (h : wp_J7_fill_d0a16 v0 v1 m post) : MetV l x 67 0 yJ7_fill_d0a16 cJ7_fill_d0a16 5 [(2, v0), (1, v1)] m post := met_V (by decide) (Nat.le_of_ble_eq_true rfl) (fun _ X hr => pf_J7_fill_d0a16 X hr v0 v1 m h)
def wp_X4_countMissing_27 (K17 : Int → Mem → Prop) (post : Mem → Prop) : Nat → Int → Int → Mem → Prop
  | 0, _, _, _ => False
  | n + 1, v1, v2, m =>
  ((5 < v2 → (K17 (w32 (v1 + 1)) m)) ∧
  (¬ 5 < v2 → ((0 ≤ v2 ∧ v2 < 6) ∧ ((0 ≤ v1 ∧ v1 < 5) ∧ ((0 ≤ w32 (v2 - 1) ∧ w32 (v2 - 1) < 6) ∧ ((0 ≤ v2 ∧ v2 < 6) ∧ (∀ m56 : Mem, m56 = mset m 62 v2 (w64 (m 62 v2 + w64 (m 61 v1 * m 62 (w32 (v2 - 1))))) → (wp_X4_countMissing_27 K17 post n v1 (w32 (v2 + 1)) m56))))))))
set_option maxRecDepth 100000 in
theorem pf_X4_countMissing_27 {l : Launch} {x : WX} {G : GT} {post : Mem → Prop} {K17 : Int → Mem → Prop} (X : Ax l x cX4_countMissing RX4 3 (rmd 1) 67 G) (hr : RV cX4_countMissing post G) (hK17 : ∀ (v1 : Int) (m : Mem), K17 v1 m → G 17 [(0, (2, 59)), (1, (0, v1))] [] m) : ∀ (n : Nat) (v1 : Int) (v2 : Int) (m : Mem) (_ : wp_X4_countMissing_27 K17 post n v1 v2 m), G 27 [(0, (2, 59)), (1, (0, v1)), (2, (0, v2))] [] m := by
  intro n
  induction n with
  | zero => intro v1 v2 m h; exact absurd h id
  | succ n ih =>
  intro v1 v2 m h
  unfold wp_X4_countMissing_27 at h
  refine g_iload_n 2 (i := 2) X dX4_countMissing_27 rfl rfl ?_
  refine g_iconst X dX4_countMissing_28 (by decide) ?_
  refine g_icmp_gt X dX4_countMissing_29 (tgt := 63) (by decide) (fun hc => ?_) (fun hc => ?_)
  · have h := h.1 hc
    refine g_iinc 1 (lv' := [(1, (0, w32 (v1 + 1))), (0, (2, 59)), (2, (0, v2))]) X dX4_countMissing_63 rfl (by decide) rfl ?_
    refine g_goto X dX4_countMissing_66 (tgt := 17) (by decide) ?_
    exact g_sub X [1, 0] rfl (hK17 _ _ h)
  · have h := h.2 hc
    refine g_aload_n 0 (i := 0) X dX4_countMissing_32 rfl rfl ?_
    refine g_getR X dX4_countMissing_33 fX4_18 ?_
    refine g_iload_n 2 (i := 2) X dX4_countMissing_36 rfl rfl ?_
    refine g_dup2 X dX4_countMissing_37 rfl rfl ?_
    obtain ⟨hi, h⟩ := h
    refine g_lald X dX4_countMissing_38 rfl hi ?_
    refine g_aload_n 0 (i := 0) X dX4_countMissing_39 rfl rfl ?_
    refine g_getR X dX4_countMissing_40 fX4_15 ?_
    refine g_iload_n 1 (i := 1) X dX4_countMissing_43 rfl rfl ?_
    obtain ⟨hi, h⟩ := h
    refine g_iald X dX4_countMissing_44 rfl hi ?_
    refine g_i2l X dX4_countMissing_45 ?_
    refine g_aload_n 0 (i := 0) X dX4_countMissing_46 rfl rfl ?_
    refine g_getR X dX4_countMissing_47 fX4_18 ?_
    refine g_iload_n 2 (i := 2) X dX4_countMissing_50 rfl rfl ?_
    refine g_iconst X dX4_countMissing_51 (by decide) ?_
    refine g_isub X dX4_countMissing_52 ?_
    obtain ⟨hi, h⟩ := h
    refine g_lald X dX4_countMissing_53 rfl hi ?_
    refine g_lmul X dX4_countMissing_54 ?_
    refine g_ladd X dX4_countMissing_55 ?_
    obtain ⟨hi, h⟩ := h
    refine g_last X dX4_countMissing_56 rfl hi (fun m56 em56 => ?_)
    have h := h m56 em56
    refine g_iinc 2 (lv' := [(2, (0, w32 (v2 + 1))), (0, (2, 59)), (1, (0, v1))]) X dX4_countMissing_57 rfl (by decide) rfl ?_
    refine g_goto X dX4_countMissing_60 (tgt := 27) (by decide) ?_
    exact g_sub X [1, 2, 0] rfl (ih _ _ _ h)
def wp_X4_countMissing_17  (post : Mem → Prop) : Nat → Int → Mem → Prop
  | 0, _, _ => False
  | n + 1, v1, m =>
  ((m 59 0 ≤ v1 → (post m)) ∧
  (¬ m 59 0 ≤ v1 → (∃ n_2 : Nat, wp_X4_countMissing_27 (fun v1_1 m_1 => wp_X4_countMissing_17  post n v1_1 m_1) post n_2 v1 1 m)))
set_option maxRecDepth 100000 in
theorem pf_X4_countMissing_17 {l : Launch} {x : WX} {G : GT} {post : Mem → Prop}  (X : Ax l x cX4_countMissing RX4 3 (rmd 1) 67 G) (hr : RV cX4_countMissing post G) : ∀ (n : Nat) (v1 : Int) (m : Mem) (_ : wp_X4_countMissing_17  post n v1 m), G 17 [(0, (2, 59)), (1, (0, v1))] [] m := by
  intro n
  induction n with
  | zero => intro v1 m h; exact absurd h id
  | succ n ih =>
  intro v1 m h
  unfold wp_X4_countMissing_17 at h
  refine g_iload_n 1 (i := 1) X dX4_countMissing_17 rfl rfl ?_
  refine g_aload_n 0 (i := 0) X dX4_countMissing_18 rfl rfl ?_
  refine g_getI X dX4_countMissing_19 fX4_22 ?_
  refine g_icmp_ge X dX4_countMissing_22 (tgt := 69) (by decide) (fun hc => ?_) (fun hc => ?_)
  · have h := h.1 hc
    exact hr _ _ _ _ dX4_countMissing_69 h
  · have h := h.2 hc
    refine g_iconst X dX4_countMissing_25 (by decide) ?_
    refine g_istore_n (i := 2) (lv' := [(2, (0, 1)), (0, (2, 59)), (1, (0, v1))]) X dX4_countMissing_26 rfl (by decide) rfl ?_
    obtain ⟨n_2, h⟩ := h
    refine g_sub X [1, 2, 0] rfl (pf_X4_countMissing_27 X hr (fun v1_1 m_1 h => ?_) n_2 _ _ _ h)
    · exact g_sub X [0, 1] rfl (ih _ _ h)
def wp_X4_countMissing  (m : Mem) (post : Mem → Prop) : Prop :=
  wp_J7_fill_d0a16 62 0 m (fun m5 => ∀ m14 : Mem, m14 = mset m5 62 0 1 → (∃ n_3 : Nat, wp_X4_countMissing_17  post n_3 0 m14))
set_option maxRecDepth 100000 in
theorem pf_X4_countMissing {l : Launch} {x : WX} {G : GT} {post : Mem → Prop} (X : Ax l x cX4_countMissing RX4 3 (rmd 1) 67 G) (hr : RV cX4_countMissing post G)  (m : Mem) (h : wp_X4_countMissing  m post) : G 0 [(0, (2, 59))] [] m := by
  unfold wp_X4_countMissing at h
  refine g_aload_n 0 (i := 0) X dX4_countMissing_0 rfl rfl ?_
  refine g_getR X dX4_countMissing_1 fX4_18 ?_
  refine g_lconst0 X dX4_countMissing_4 ?_
  refine g_cSV (st := []) X dX4_countMissing_5 YJ7_fill_d0a16 lX4_58 (by decide) (im_J7_fill_d0a16 l x _ _ _ _ h) rfl ⟨by decide, by decide⟩ rfl (Nat.le_of_ble_eq_true rfl) (fun m5 h => ?_)
  refine g_aload_n 0 (i := 0) X dX4_countMissing_8 rfl rfl ?_
  refine g_getR X dX4_countMissing_9 fX4_18 ?_
  refine g_iconst X dX4_countMissing_12 (by decide) ?_
  refine g_lconst1 X dX4_countMissing_13 ?_
  refine g_last X dX4_countMissing_14 rfl (by decide) (fun m14 em14 => ?_)
  have h := h m14 em14
  refine g_iconst X dX4_countMissing_15 (by decide) ?_
  refine g_istore_n (i := 1) (lv' := [(1, (0, 0)), (0, (2, 59))]) X dX4_countMissing_16 rfl (by decide) rfl ?_
  obtain ⟨n_3, h⟩ := h
  refine g_sub X [1, 0] rfl (pf_X4_countMissing_17 X hr  n_3 _ _ h)
theorem im_X4_countMissing (l : Launch) (x : WX)  (m : Mem) (post : Mem → Prop) (h : wp_X4_countMissing  m post) : MetV l x 67 1 yX4_countMissing cX4_countMissing 3 [(2, 59)] m post := met_V (by decide) (Nat.le_of_ble_eq_true rfl) (fun _ X hr => pf_X4_countMissing X hr  m h)
