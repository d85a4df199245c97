/-! methods: what they mean, and that their bytecode means it (printed by a program of mine) -/
def wp_J7_fill_53178_5  (post : Mem → Prop) : Nat → Int → Int → Int → Int → Mem → Prop
  | 0, _, _, _, _, _ => False
  | n + 1, v0, v1, v2, v3, m =>
  ((v3 ≤ v2 → (post m)) ∧
  (¬ v3 ≤ v2 → ((0 ≤ v2 ∧ v2 < alen 67 v0) ∧ (∀ m13 : Mem, m13 = mset m v0 v2 v1 → (wp_J7_fill_53178_5  post n v0 v1 (w32 (v2 + 1)) v3 m13)))))
set_option maxRecDepth 100000 in
theorem pf_J7_fill_53178_5 {l : Launch} {x : WX} {G : GT} {post : Mem → Prop}  (X : Ax l x cJ7_fill_53178 RJ7 4 (rmd 0) 67 G) (hr : RV cJ7_fill_53178 post G) : ∀ (n : Nat) (v0 : Int) (v1 : Int) (v2 : Int) (v3 : Int) (m : Mem) (_ : wp_J7_fill_53178_5  post n v0 v1 v2 v3 m), G 5 [(0, (2, v0)), (1, (0, v1)), (2, (0, v2)), (3, (0, v3))] [] m := by
  intro n
  induction n with
  | zero => intro v0 v1 v2 v3 m h; exact absurd h id
  | succ n ih =>
  intro v0 v1 v2 v3 m h
  unfold wp_J7_fill_53178_5 at h
  refine g_iload_n 2 (i := 2) X dJ7_fill_53178_5 rfl rfl ?_
  refine g_iload_n 3 (i := 3) X dJ7_fill_53178_6 rfl rfl ?_
  refine g_icmp_ge X dJ7_fill_53178_7 (tgt := 20) (by decide) (fun hc => ?_) (fun hc => ?_)
  · have h := h.1 hc
    exact hr _ _ _ _ dJ7_fill_53178_20 h
  · have h := h.2 hc
    refine g_aload_n 0 (i := 0) X dJ7_fill_53178_10 rfl rfl ?_
    refine g_iload_n 2 (i := 2) X dJ7_fill_53178_11 rfl rfl ?_
    refine g_iload_n 1 (i := 1) X dJ7_fill_53178_12 rfl rfl ?_
    obtain ⟨hi, h⟩ := h
    refine g_iast X dJ7_fill_53178_13 rfl hi (fun m13 em13 => ?_)
    have h := h m13 em13
    refine g_iinc 2 (lv' := [(2, (0, w32 (v2 + 1))), (0, (2, v0)), (1, (0, v1)), (3, (0, v3))]) X dJ7_fill_53178_14 rfl (by decide) rfl ?_
    refine g_goto X dJ7_fill_53178_17 (tgt := 5) (by decide) ?_
    exact g_sub X [1, 2, 0, 3] rfl (ih _ _ _ _ _ h)
def wp_J7_fill_53178 (v0 : Int) (v1 : Int) (m : Mem) (post : Mem → Prop) : Prop :=
  0 < alen 67 v0 ∧ (∀ v3_4 : Int, v3_4 = alen 67 v0 → (∃ n_2 : Nat, wp_J7_fill_53178_5  post n_2 v0 v1 0 v3_4 m))
set_option maxRecDepth 100000 in
theorem pf_J7_fill_53178 {l : Launch} {x : WX} {G : GT} {post : Mem → Prop} (X : Ax l x cJ7_fill_53178 RJ7 4 (rmd 0) 67 G) (hr : RV cJ7_fill_53178 post G) (v0 : Int) (v1 : Int) (m : Mem) (h : wp_J7_fill_53178 v0 v1 m post) : G 0 [(0, (2, v0)), (1, (0, v1))] [] m := by
  unfold wp_J7_fill_53178 at h
  refine g_iconst X dJ7_fill_53178_0 (by decide) ?_
  refine g_istore_n (i := 2) (lv' := [(2, (0, 0)), (0, (2, v0)), (1, (0, v1))]) X dJ7_fill_53178_1 rfl (by decide) rfl ?_
  refine g_aload_n 1 (i := 0) X dJ7_fill_53178_2 rfl rfl ?_
  obtain ⟨hi, h⟩ := h
  refine g_alenI X dJ7_fill_53178_3 hi ?_
  refine g_nmI (fun v3_4 ev3_4 => ?_)
  have h := h v3_4 ev3_4
  refine g_istore_n (i := 3) (lv' := [(3, (0, v3_4)), (2, (0, 0)), (0, (2, v0)), (1, (0, v1))]) X dJ7_fill_53178_4 rfl (by decide) rfl ?_
  obtain ⟨n_2, h⟩ := h
  refine g_sub X [2, 3, 1, 0] rfl (pf_J7_fill_53178_5 X hr  n_2 _ _ _ _ _ h)
theorem im_J7_fill_53178 (l : Launch) (x : WX) (v0 : Int) (v1 : Int) (m : Mem) (post : Mem → Prop) (h : wp_J7_fill_53178 v0 v1 m post) : MetV l x 67 0 yJ7_fill_53178 cJ7_fill_53178 4 [(2, v0), (0, v1)] m post := met_V (by decide) (Nat.le_of_ble_eq_true rfl) (fun _ X hr => pf_J7_fill_53178 X hr v0 v1 m h)
def wp_X0_begin  (m : Mem) (post : Mem → Prop) : Prop :=
  ∀ m2 : Mem, m2 = mset m 6 0 0 → (∀ m7 : Mem, m7 = mset m2 6 7 0 → (wp_J7_fill_53178 11 (-1) m7 (fun m15 => post m15)))
set_option maxRecDepth 100000 in
theorem pf_X0_begin {l : Launch} {x : WX} {G : GT} {post : Mem → Prop} (X : Ax l x cX0_begin RX0 1 (rmd 1) 67 G) (hr : RV cX0_begin post G)  (m : Mem) (h : wp_X0_begin  m post) : G 0 [(0, (2, 6))] [] m := by
  unfold wp_X0_begin at h
  refine g_aload_n 0 (i := 0) X dX0_begin_0 rfl rfl ?_
  refine g_iconst X dX0_begin_1 (by decide) ?_
  refine g_putI X dX0_begin_2 pX0_30 (fun m2 em2 => ?_)
  have h := h m2 em2
  refine g_aload_n 0 (i := 0) X dX0_begin_5 rfl rfl ?_
  refine g_iconst X dX0_begin_6 (by decide) ?_
  refine g_putI X dX0_begin_7 pX0_34 (fun m7 em7 => ?_)
  have h := h m7 em7
  refine g_aload_n 0 (i := 0) X dX0_begin_10 rfl rfl ?_
  refine g_getR X dX0_begin_11 fX0_24 ?_
  refine g_iconst X dX0_begin_14 (by decide) ?_
  refine g_cSV (st := []) X dX0_begin_15 YJ7_fill_53178 lX0_37 (by decide) (im_J7_fill_53178 l x _ _ _ _ h) rfl ⟨by decide, by decide⟩ rfl (Nat.le_of_ble_eq_true rfl) (fun m15 h => ?_)
  exact hr _ _ _ _ dX0_begin_18 h
theorem im_X0_begin (l : Launch) (x : WX)  (m : Mem) (post : Mem → Prop) (h : wp_X0_begin  m post) : MetV l x 67 1 yX0_begin cX0_begin 1 [(2, 6)] m post := met_V (by decide) (Nat.le_of_ble_eq_true rfl) (fun _ X hr => pf_X0_begin X hr  m h)
def wp_X0_has (v1 : Int) (m : Mem) (post : Int → Mem → Prop) : Prop :=
  ((v1 < 0 → (post 0 m)) ∧
  (¬ v1 < 0 → (((m 6 0 ≤ v1 → (post 0 m)) ∧
  (¬ m 6 0 ≤ v1 → (post 1 m))))))
set_option maxRecDepth 100000 in
theorem pf_X0_has {l : Launch} {x : WX} {G : GT} {post : Int → Mem → Prop} (X : Ax l x cX0_has RX0 2 (rmd 0) 67 G) (hr : RZ cX0_has post G) (v1 : Int) (m : Mem) (h : wp_X0_has v1 m post) : G 0 [(0, (2, 6)), (1, (0, v1))] [] m := by
  unfold wp_X0_has at h
  refine g_iload_n 1 (i := 1) X dX0_has_0 rfl rfl ?_
  refine g_if_lt X dX0_has_1 (tgt := 16) (by decide) (fun hc => ?_) (fun hc => ?_)
  · have h := h.1 hc
    refine g_iconst X dX0_has_16 (by decide) ?_
    exact hr _ _ _ _ _ dX0_has_17 ⟨by decide, h⟩
  · have h := h.2 hc
    refine g_iload_n 1 (i := 1) X dX0_has_4 rfl rfl ?_
    refine g_aload_n 0 (i := 0) X dX0_has_5 rfl rfl ?_
    refine g_getI X dX0_has_6 fX0_30 ?_
    refine g_icmp_ge X dX0_has_9 (tgt := 16) (by decide) (fun hc => ?_) (fun hc => ?_)
    · have h := h.1 hc
      refine g_iconst X dX0_has_16 (by decide) ?_
      exact hr _ _ _ _ _ dX0_has_17 ⟨by decide, h⟩
    · have h := h.2 hc
      refine g_iconst X dX0_has_12 (by decide) ?_
      refine g_goto X dX0_has_13 (tgt := 17) (by decide) ?_
      exact hr _ _ _ _ _ dX0_has_17 ⟨by decide, h⟩
theorem im_X0_has (l : Launch) (x : WX) (v1 : Int) (m : Mem) (post : Int → Mem → Prop) (h : wp_X0_has v1 m post) : MetI l x 67 0 yX0_has cX0_has 2 .boolean [(2, 6), (0, v1)] m post := met_Z (by decide) (Nat.le_of_ble_eq_true rfl) (fun _ X hr => pf_X0_has X hr v1 m h)
def wp_X0_madeAlike (v1 : Int) (v2 : Int) (m : Mem) (post : Int → Mem → Prop) : Prop :=
  (0 ≤ v1 ∧ v1 < 20) ∧ ((0 ≤ v2 ∧ v2 < 20) ∧ (((¬ m 7 v1 = m 7 v2 → (post 0 m)) ∧
  (m 7 v1 = m 7 v2 → ((0 ≤ v1 ∧ v1 < 20) ∧ ((0 ≤ v2 ∧ v2 < 20) ∧ (((¬ m 8 v1 = m 8 v2 → (post 0 m)) ∧
  (m 8 v1 = m 8 v2 → (post 1 m))))))))))
set_option maxRecDepth 100000 in
theorem pf_X0_madeAlike {l : Launch} {x : WX} {G : GT} {post : Int → Mem → Prop} (X : Ax l x cX0_madeAlike RX0 3 (rmd 0) 67 G) (hr : RZ cX0_madeAlike post G) (v1 : Int) (v2 : Int) (m : Mem) (h : wp_X0_madeAlike v1 v2 m post) : G 0 [(0, (2, 6)), (1, (0, v1)), (2, (0, v2))] [] m := by
  unfold wp_X0_madeAlike at h
  refine g_aload_n 0 (i := 0) X dX0_madeAlike_0 rfl rfl ?_
  refine g_getR X dX0_madeAlike_1 fX0_11 ?_
  refine g_iload_n 1 (i := 1) X dX0_madeAlike_4 rfl rfl ?_
  obtain ⟨hi, h⟩ := h
  refine g_iald X dX0_madeAlike_5 rfl hi ?_
  refine g_aload_n 0 (i := 0) X dX0_madeAlike_6 rfl rfl ?_
  refine g_getR X dX0_madeAlike_7 fX0_11 ?_
  refine g_iload_n 2 (i := 2) X dX0_madeAlike_10 rfl rfl ?_
  obtain ⟨hi, h⟩ := h
  refine g_iald X dX0_madeAlike_11 rfl hi ?_
  refine g_icmp_ne X dX0_madeAlike_12 (tgt := 34) (by decide) (fun hc => ?_) (fun hc => ?_)
  · have h := h.1 hc
    refine g_iconst X dX0_madeAlike_34 (by decide) ?_
    exact hr _ _ _ _ _ dX0_madeAlike_35 ⟨by decide, h⟩
  · have h := h.2 hc
    refine g_aload_n 0 (i := 0) X dX0_madeAlike_15 rfl rfl ?_
    refine g_getR X dX0_madeAlike_16 fX0_15 ?_
    refine g_iload_n 1 (i := 1) X dX0_madeAlike_19 rfl rfl ?_
    obtain ⟨hi, h⟩ := h
    refine g_iald X dX0_madeAlike_20 rfl hi ?_
    refine g_aload_n 0 (i := 0) X dX0_madeAlike_21 rfl rfl ?_
    refine g_getR X dX0_madeAlike_22 fX0_15 ?_
    refine g_iload_n 2 (i := 2) X dX0_madeAlike_25 rfl rfl ?_
    obtain ⟨hi, h⟩ := h
    refine g_iald X dX0_madeAlike_26 rfl hi ?_
    refine g_icmp_ne X dX0_madeAlike_27 (tgt := 34) (by decide) (fun hc => ?_) (fun hc => ?_)
    · have h := h.1 hc
      refine g_iconst X dX0_madeAlike_34 (by decide) ?_
      exact hr _ _ _ _ _ dX0_madeAlike_35 ⟨by decide, h⟩
    · have h := h.2 hc
      refine g_iconst X dX0_madeAlike_30 (by decide) ?_
      refine g_goto X dX0_madeAlike_31 (tgt := 35) (by decide) ?_
      exact hr _ _ _ _ _ dX0_madeAlike_35 ⟨by decide, h⟩
theorem im_X0_madeAlike (l : Launch) (x : WX) (v1 : Int) (v2 : Int) (m : Mem) (post : Int → Mem → Prop) (h : wp_X0_madeAlike v1 v2 m post) : MetI l x 67 0 yX0_madeAlike cX0_madeAlike 3 .boolean [(2, 6), (0, v1), (0, v2)] m post := met_Z (by decide) (Nat.le_of_ble_eq_true rfl) (fun _ X hr => pf_X0_madeAlike X hr v1 v2 m h)
def wp_X0_choose (v1 : Int) (v2 : Int) (m : Mem) (post : Mem → Prop) : Prop :=
  (0 ≤ v1 ∧ v1 < 64) ∧ (∀ v3_6 : Int, v3_6 = m 11 v1 → (((v3_6 = (-1) → ((0 ≤ v1 ∧ v1 < 64) ∧ (∀ m33 : Mem, m33 = mset m 11 v1 v2 → (post m33)))) ∧
  (¬ v3_6 = (-1) → ((0 ≤ v2 ∧ v2 < 20) ∧ ((0 ≤ v3_6 ∧ v3_6 < 20) ∧ (((m 10 v2 ≤ m 10 v3_6 → (post m)) ∧
  (¬ m 10 v2 ≤ m 10 v3_6 → ((0 ≤ v1 ∧ v1 < 64) ∧ (∀ m33 : Mem, m33 = mset m 11 v1 v2 → (post m33))))))))))))
set_option maxRecDepth 100000 in
theorem pf_X0_choose {l : Launch} {x : WX} {G : GT} {post : Mem → Prop} (X : Ax l x cX0_choose RX0 4 (rmd 0) 67 G) (hr : RV cX0_choose post G) (v1 : Int) (v2 : Int) (m : Mem) (h : wp_X0_choose v1 v2 m post) : G 0 [(0, (2, 6)), (1, (0, v1)), (2, (0, v2))] [] m := by
  unfold wp_X0_choose at h
  refine g_aload_n 0 (i := 0) X dX0_choose_0 rfl rfl ?_
  refine g_getR X dX0_choose_1 fX0_24 ?_
  refine g_iload_n 1 (i := 1) X dX0_choose_4 rfl rfl ?_
  obtain ⟨hi, h⟩ := h
  refine g_iald X dX0_choose_5 rfl hi ?_
  refine g_nmI (fun v3_6 ev3_6 => ?_)
  have h := h v3_6 ev3_6
  refine g_istore_n (i := 3) (lv' := [(3, (0, v3_6)), (0, (2, 6)), (1, (0, v1)), (2, (0, v2))]) X dX0_choose_6 rfl (by decide) rfl ?_
  refine g_iload_n 0 (i := 3) X dX0_choose_7 rfl rfl ?_
  refine g_iconst X dX0_choose_8 (by decide) ?_
  refine g_icmp_eq X dX0_choose_9 (tgt := 27) (by decide) (fun hc => ?_) (fun hc => ?_)
  · have h := h.1 hc
    refine g_aload_n 1 (i := 0) X dX0_choose_27 rfl rfl ?_
    refine g_getR X dX0_choose_28 fX0_24 ?_
    refine g_iload_n 2 (i := 1) X dX0_choose_31 rfl rfl ?_
    refine g_iload_n 3 (i := 2) X dX0_choose_32 rfl rfl ?_
    obtain ⟨hi, h⟩ := h
    refine g_iast X dX0_choose_33 rfl hi (fun m33 em33 => ?_)
    have h := h m33 em33
    exact hr _ _ _ _ dX0_choose_34 h
  · have h := h.2 hc
    refine g_aload_n 1 (i := 0) X dX0_choose_12 rfl rfl ?_
    refine g_getR X dX0_choose_13 fX0_21 ?_
    refine g_iload_n 3 (i := 2) X dX0_choose_16 rfl rfl ?_
    obtain ⟨hi, h⟩ := h
    refine g_iald X dX0_choose_17 rfl hi ?_
    refine g_aload_n 1 (i := 0) X dX0_choose_18 rfl rfl ?_
    refine g_getR X dX0_choose_19 fX0_21 ?_
    refine g_iload_n 0 (i := 3) X dX0_choose_22 rfl rfl ?_
    obtain ⟨hi, h⟩ := h
    refine g_iald X dX0_choose_23 rfl hi ?_
    refine g_icmp_le X dX0_choose_24 (tgt := 34) (by decide) (fun hc => ?_) (fun hc => ?_)
    · have h := h.1 hc
      exact hr _ _ _ _ dX0_choose_34 h
    · have h := h.2 hc
      refine g_aload_n 1 (i := 0) X dX0_choose_27 rfl rfl ?_
      refine g_getR X dX0_choose_28 fX0_24 ?_
      refine g_iload_n 2 (i := 1) X dX0_choose_31 rfl rfl ?_
      refine g_iload_n 3 (i := 2) X dX0_choose_32 rfl rfl ?_
      obtain ⟨hi, h⟩ := h
      refine g_iast X dX0_choose_33 rfl hi (fun m33 em33 => ?_)
      have h := h m33 em33
      exact hr _ _ _ _ dX0_choose_34 h
theorem im_X0_choose (l : Launch) (x : WX) (v1 : Int) (v2 : Int) (m : Mem) (post : Mem → Prop) (h : wp_X0_choose v1 v2 m post) : MetV l x 67 0 yX0_choose cX0_choose 4 [(2, 6), (0, v1), (0, v2)] m post := met_V (by decide) (Nat.le_of_ble_eq_true rfl) (fun _ X hr => pf_X0_choose X hr v1 v2 m h)
def wp_X0_add_52  (post : Int → Mem → Prop) : Nat → Int → Int → Int → Int → Mem → Prop
  | 0, _, _, _, _, _ => False
  | n + 1, v1, v3, v5, v6, m =>
  ((8 ≤ v6 → (post v5 m)) ∧
  (¬ 8 ≤ v6 → (((and32 (shr32 v3 v6) 1 = 0 → (wp_X0_add_52  post n v1 v3 v5 (w32 (v6 + 1)) m)) ∧
  (¬ and32 (shr32 v3 v6) 1 = 0 → (wp_X0_choose (w32 (w32 (v1 * 8) + v6)) v5 m (fun m78 => wp_X0_add_52  post n v1 v3 v5 (w32 (v6 + 1)) m78)))))))
set_option maxRecDepth 100000 in
theorem pf_X0_add_52 {l : Launch} {x : WX} {G : GT} {post : Int → Mem → Prop}  (X : Ax l x cX0_add RX0 7 (rmd 1) 67 G) (hr : RI cX0_add post G) : ∀ (n : Nat) (v1 : Int) (v3 : Int) (v5 : Int) (v6 : Int) (m : Mem) (_ : wp_X0_add_52  post n v1 v3 v5 v6 m), G 52 [(0, (2, 6)), (1, (0, v1)), (3, (0, v3)), (5, (0, v5)), (6, (0, v6))] [] m := by
  intro n
  induction n with
  | zero => intro v1 v3 v5 v6 m h; exact absurd h id
  | succ n ih =>
  intro v1 v3 v5 v6 m h
  unfold wp_X0_add_52 at h
  refine g_iload 4 (i := 6) X dX0_add_52 rfl ?_
  refine g_bipush X dX0_add_54 (by decide) ?_
  refine g_icmp_ge X dX0_add_56 (tgt := 87) (by decide) (fun hc => ?_) (fun hc => ?_)
  · have h := h.1 hc
    refine g_iload 3 (i := 5) X dX0_add_87 rfl ?_
    exact hr _ _ _ _ _ dX0_add_89 h
  · have h := h.2 hc
    refine g_iload_n 2 (i := 3) X dX0_add_59 rfl rfl ?_
    refine g_iload 4 (i := 6) X dX0_add_60 rfl ?_
    refine g_ishr X dX0_add_62 ?_
    refine g_iconst X dX0_add_63 (by decide) ?_
    refine g_iand X dX0_add_64 ?_
    refine g_if_eq X dX0_add_65 (tgt := 81) (by decide) (fun hc => ?_) (fun hc => ?_)
    · have h := h.1 hc
      refine g_iinc 4 (lv' := [(6, (0, w32 (v6 + 1))), (0, (2, 6)), (1, (0, v1)), (3, (0, v3)), (5, (0, v5))]) X dX0_add_81 rfl (by decide) rfl ?_
      refine g_goto X dX0_add_84 (tgt := 52) (by decide) ?_
      exact g_sub X [1, 2, 3, 4, 0] rfl (ih _ _ _ _ _ h)
    · have h := h.2 hc
      refine g_aload_n 0 (i := 0) X dX0_add_68 rfl rfl ?_
      refine g_iload_n 1 (i := 1) X dX0_add_69 rfl rfl ?_
      refine g_bipush X dX0_add_70 (by decide) ?_
      refine g_imul X dX0_add_72 ?_
      refine g_iload 4 (i := 6) X dX0_add_73 rfl ?_
      refine g_iadd X dX0_add_75 ?_
      refine g_iload 3 (i := 5) X dX0_add_76 rfl ?_
      refine g_cVV (st := []) X dX0_add_78 YX0_choose lX0_43 (by decide) (im_X0_choose l x _ _ _ _ h) rfl ⟨by decide, by decide⟩ rfl (Nat.le_of_ble_eq_true rfl) (fun m78 h => ?_)
      refine g_iinc 4 (lv' := [(6, (0, w32 (v6 + 1))), (0, (2, 6)), (1, (0, v1)), (3, (0, v3)), (5, (0, v5))]) X dX0_add_81 rfl (by decide) rfl ?_
      refine g_goto X dX0_add_84 (tgt := 52) (by decide) ?_
      exact g_sub X [1, 2, 3, 4, 0] rfl (ih _ _ _ _ _ h)
def wp_X0_add (v1 : Int) (v2 : Int) (v3 : Int) (v4 : Int) (m : Mem) (post : Int → Mem → Prop) : Prop :=
  ∀ v5_4 : Int, v5_4 = m 6 0 → ((0 ≤ v5_4 ∧ v5_4 < 20) ∧ (∀ m13 : Mem, m13 = mset m 7 v5_4 v1 → ((0 ≤ v5_4 ∧ v5_4 < 20) ∧ (∀ m21 : Mem, m21 = mset m13 8 v5_4 v2 → ((0 ≤ v5_4 ∧ v5_4 < 20) ∧ (∀ m29 : Mem, m29 = mset m21 9 v5_4 v3 → ((0 ≤ v5_4 ∧ v5_4 < 20) ∧ (∀ m38 : Mem, m38 = mset m29 10 v5_4 v4 → (∀ m46 : Mem, m46 = mset m38 6 0 (w32 (m38 6 0 + 1)) → (∃ n_2 : Nat, wp_X0_add_52  post n_2 v1 v3 v5_4 0 m46))))))))))
set_option maxRecDepth 100000 in
theorem pf_X0_add {l : Launch} {x : WX} {G : GT} {post : Int → Mem → Prop} (X : Ax l x cX0_add RX0 7 (rmd 1) 67 G) (hr : RI cX0_add post G) (v1 : Int) (v2 : Int) (v3 : Int) (v4 : Int) (m : Mem) (h : wp_X0_add v1 v2 v3 v4 m post) : G 0 [(0, (2, 6)), (1, (0, v1)), (2, (0, v2)), (3, (0, v3)), (4, (0, v4))] [] m := by
  unfold wp_X0_add at h
  refine g_aload_n 0 (i := 0) X dX0_add_0 rfl rfl ?_
  refine g_getI X dX0_add_1 fX0_30 ?_
  refine g_nmI (fun v5_4 ev5_4 => ?_)
  have h := h v5_4 ev5_4
  refine g_istore (i := 5) (lv' := [(5, (0, v5_4)), (0, (2, 6)), (1, (0, v1)), (2, (0, v2)), (3, (0, v3)), (4, (0, v4))]) X dX0_add_4 (by decide) rfl ?_
  refine g_aload_n 1 (i := 0) X dX0_add_6 rfl rfl ?_
  refine g_getR X dX0_add_7 fX0_11 ?_
  refine g_iload 0 (i := 5) X dX0_add_10 rfl ?_
  refine g_iload_n 2 (i := 1) X dX0_add_12 rfl rfl ?_
  obtain ⟨hi, h⟩ := h
  refine g_iast X dX0_add_13 rfl hi (fun m13 em13 => ?_)
  have h := h m13 em13
  refine g_aload_n 1 (i := 0) X dX0_add_14 rfl rfl ?_
  refine g_getR X dX0_add_15 fX0_15 ?_
  refine g_iload 0 (i := 5) X dX0_add_18 rfl ?_
  refine g_iload_n 3 (i := 2) X dX0_add_20 rfl rfl ?_
  obtain ⟨hi, h⟩ := h
  refine g_iast X dX0_add_21 rfl hi (fun m21 em21 => ?_)
  have h := h m21 em21
  refine g_aload_n 1 (i := 0) X dX0_add_22 rfl rfl ?_
  refine g_getR X dX0_add_23 fX0_18 ?_
  refine g_iload 0 (i := 5) X dX0_add_26 rfl ?_
  refine g_iload_n 4 (i := 3) X dX0_add_28 rfl rfl ?_
  obtain ⟨hi, h⟩ := h
  refine g_iast X dX0_add_29 rfl hi (fun m29 em29 => ?_)
  have h := h m29 em29
  refine g_aload_n 1 (i := 0) X dX0_add_30 rfl rfl ?_
  refine g_getR X dX0_add_31 fX0_21 ?_
  refine g_iload 0 (i := 5) X dX0_add_34 rfl ?_
  refine g_iload 5 (i := 4) X dX0_add_36 rfl ?_
  obtain ⟨hi, h⟩ := h
  refine g_iast X dX0_add_38 rfl hi (fun m38 em38 => ?_)
  have h := h m38 em38
  refine g_aload_n 1 (i := 0) X dX0_add_39 rfl rfl ?_
  refine g_dup X dX0_add_40 rfl ?_
  refine g_getI X dX0_add_41 fX0_30 ?_
  refine g_iconst X dX0_add_44 (by decide) ?_
  refine g_iadd X dX0_add_45 ?_
  refine g_putI X dX0_add_46 pX0_30 (fun m46 em46 => ?_)
  have h := h m46 em46
  refine g_iconst X dX0_add_49 (by decide) ?_
  refine g_istore (i := 6) (lv' := [(6, (0, 0)), (5, (0, v5_4)), (0, (2, 6)), (1, (0, v1)), (2, (0, v2)), (3, (0, v3)), (4, (0, v4))]) X dX0_add_50 (by decide) rfl ?_
  obtain ⟨n_2, h⟩ := h
  refine g_sub X [2, 3, 5, 1, 0] rfl (pf_X0_add_52 X hr  n_2 _ _ _ _ _ h)
theorem im_X0_add (l : Launch) (x : WX) (v1 : Int) (v2 : Int) (v3 : Int) (v4 : Int) (m : Mem) (post : Int → Mem → Prop) (h : wp_X0_add v1 v2 v3 v4 m post) : MetI l x 67 1 yX0_add cX0_add 7 .int [(2, 6), (0, v1), (0, v2), (0, v3), (0, v4)] m post := met_I (by decide) (Nat.le_of_ble_eq_true rfl) (fun _ X hr => pf_X0_add X hr v1 v2 v3 v4 m h)
def wp_X0_follow_23 (K108 : Int → Int → Mem → Prop) (post : Int → Mem → Prop) : Nat → Int → Int → Int → Int → Int → Mem → Prop
  | 0, _, _, _, _, _, _ => False
  | n + 1, v2, v3, v4, v5, v6, m =>
  ((8 ≤ v6 → (K108 v2 v5 m)) ∧
  (¬ 8 ≤ v6 → (((v5 = v2 → (K108 v2 v5 m)) ∧
  (¬ v5 = v2 → ((0 ≤ w32 (w32 (v5 * 8) + v2) ∧ w32 (w32 (v5 * 8) + v2) < 64) ∧ (∀ v7_48 : Int, v7_48 = m 11 (w32 (w32 (v5 * 8) + v2)) → (((¬ v7_48 = (-1) → ((0 ≤ v7_48 ∧ v7_48 < alen 67 v3) ∧ (∀ v5_62 : Int, v5_62 = m v3 v7_48 → (((and32 (shr32 v4 v5_62) 1 = 0 → (∀ v4_83 : Int, v4_83 = or32 v4 (shl32 1 v5_62) → ((0 ≤ v6 ∧ v6 < 8) ∧ (∀ m93 : Mem, m93 = mset m 12 v6 v5_62 → (∀ m99 : Mem, m99 = mset m93 6 7 (w32 (v6 + 1)) → (wp_X0_follow_23 K108 post n v2 v3 v4_83 v5_62 (w32 (v6 + 1)) m99)))))) ∧
  (¬ and32 (shr32 v4 v5_62) 1 = 0 → (post 0 m))))))) ∧
  (v7_48 = (-1) → (post 0 m)))))))))))
set_option maxRecDepth 100000 in
theorem pf_X0_follow_23 {l : Launch} {x : WX} {G : GT} {post : Int → Mem → Prop} {K108 : Int → Int → Mem → Prop} (X : Ax l x cX0_follow RX0 8 (rmd 0) 67 G) (hr : RZ cX0_follow post G) (hK108 : ∀ (v2 : Int) (v5 : Int) (m : Mem), K108 v2 v5 m → G 108 [(2, (0, v2)), (5, (0, v5))] [] m) : ∀ (n : Nat) (v2 : Int) (v3 : Int) (v4 : Int) (v5 : Int) (v6 : Int) (m : Mem) (_ : wp_X0_follow_23 K108 post n v2 v3 v4 v5 v6 m), G 23 [(0, (2, 6)), (2, (0, v2)), (3, (2, v3)), (4, (0, v4)), (5, (0, v5)), (6, (0, v6))] [] m := by
  intro n
  induction n with
  | zero => intro v2 v3 v4 v5 v6 m h; exact absurd h id
  | succ n ih =>
  intro v2 v3 v4 v5 v6 m h
  unfold wp_X0_follow_23 at h
  refine g_iload 5 (i := 6) X dX0_follow_23 rfl ?_
  refine g_bipush X dX0_follow_25 (by decide) ?_
  refine g_icmp_ge X dX0_follow_27 (tgt := 108) (by decide) (fun hc => ?_) (fun hc => ?_)
  · have h := h.1 hc
    exact g_sub X [1, 4] rfl (hK108 _ _ _ h)
  · have h := h.2 hc
    refine g_iload 4 (i := 5) X dX0_follow_30 rfl ?_
    refine g_iload_n 1 (i := 2) X dX0_follow_32 rfl rfl ?_
    refine g_icmp_eq X dX0_follow_33 (tgt := 108) (by decide) (fun hc => ?_) (fun hc => ?_)
    · have h := h.1 hc
      exact g_sub X [1, 4] rfl (hK108 _ _ _ h)
    · have h := h.2 hc
      refine g_aload_n 0 (i := 0) X dX0_follow_36 rfl rfl ?_
      refine g_getR X dX0_follow_37 fX0_24 ?_
      refine g_iload 4 (i := 5) X dX0_follow_40 rfl ?_
      refine g_bipush X dX0_follow_42 (by decide) ?_
      refine g_imul X dX0_follow_44 ?_
      refine g_iload_n 1 (i := 2) X dX0_follow_45 rfl rfl ?_
      refine g_iadd X dX0_follow_46 ?_
      obtain ⟨hi, h⟩ := h
      refine g_iald X dX0_follow_47 rfl hi ?_
      refine g_nmI (fun v7_48 ev7_48 => ?_)
      have h := h v7_48 ev7_48
      refine g_istore (i := 7) (lv' := [(7, (0, v7_48)), (0, (2, 6)), (2, (0, v2)), (3, (2, v3)), (4, (0, v4)), (5, (0, v5)), (6, (0, v6))]) X dX0_follow_48 (by decide) rfl ?_
      refine g_iload 0 (i := 7) X dX0_follow_50 rfl ?_
      refine g_iconst X dX0_follow_52 (by decide) ?_
      refine g_icmp_ne X dX0_follow_53 (tgt := 58) (by decide) (fun hc => ?_) (fun hc => ?_)
      · have h := h.1 hc
        refine g_aload_n 3 (i := 3) X dX0_follow_58 rfl rfl ?_
        refine g_iload 0 (i := 7) X dX0_follow_59 rfl ?_
        obtain ⟨hi, h⟩ := h
        refine g_iald X dX0_follow_61 rfl hi ?_
        refine g_nmI (fun v5_62 ev5_62 => ?_)
        have h := h v5_62 ev5_62
        refine g_istore (i := 5) (lv' := [(5, (0, v5_62)), (7, (0, v7_48)), (0, (2, 6)), (2, (0, v2)), (3, (2, v3)), (4, (0, v4)), (6, (0, v6))]) X dX0_follow_62 (by decide) rfl ?_
        refine g_iload 5 (i := 4) X dX0_follow_64 rfl ?_
        refine g_iload 0 (i := 5) X dX0_follow_66 rfl ?_
        refine g_ishr X dX0_follow_68 ?_
        refine g_iconst X dX0_follow_69 (by decide) ?_
        refine g_iand X dX0_follow_70 ?_
        refine g_if_eq X dX0_follow_71 (tgt := 76) (by decide) (fun hc => ?_) (fun hc => ?_)
        · have h := h.1 hc
          refine g_iload 5 (i := 4) X dX0_follow_76 rfl ?_
          refine g_iconst X dX0_follow_78 (by decide) ?_
          refine g_iload 0 (i := 5) X dX0_follow_79 rfl ?_
          refine g_ishl X dX0_follow_81 ?_
          refine g_ior X dX0_follow_82 ?_
          refine g_nmI (fun v4_83 ev4_83 => ?_)
          have h := h v4_83 ev4_83
          refine g_istore (i := 4) (lv' := [(4, (0, v4_83)), (5, (0, v5_62)), (7, (0, v7_48)), (0, (2, 6)), (2, (0, v2)), (3, (2, v3)), (6, (0, v6))]) X dX0_follow_83 (by decide) rfl ?_
          refine g_aload_n 3 (i := 0) X dX0_follow_85 rfl rfl ?_
          refine g_getR X dX0_follow_86 fX0_27 ?_
          refine g_iload 6 (i := 6) X dX0_follow_89 rfl ?_
          refine g_iload 1 (i := 5) X dX0_follow_91 rfl ?_
          obtain ⟨hi, h⟩ := h
          refine g_iast X dX0_follow_93 rfl hi (fun m93 em93 => ?_)
          have h := h m93 em93
          refine g_aload_n 3 (i := 0) X dX0_follow_94 rfl rfl ?_
          refine g_iload 6 (i := 6) X dX0_follow_95 rfl ?_
          refine g_iconst X dX0_follow_97 (by decide) ?_
          refine g_iadd X dX0_follow_98 ?_
          refine g_putI X dX0_follow_99 pX0_34 (fun m99 em99 => ?_)
          have h := h m99 em99
          refine g_iinc 6 (lv' := [(6, (0, w32 (v6 + 1))), (4, (0, v4_83)), (5, (0, v5_62)), (7, (0, v7_48)), (0, (2, 6)), (2, (0, v2)), (3, (2, v3))]) X dX0_follow_102 rfl (by decide) rfl ?_
          refine g_goto X dX0_follow_105 (tgt := 23) (by decide) ?_
          exact g_sub X [4, 5, 6, 1, 2, 0] rfl (ih _ _ _ _ _ _ h)
        · have h := h.2 hc
          refine g_iconst X dX0_follow_74 (by decide) ?_
          exact hr _ _ _ _ _ dX0_follow_75 ⟨by decide, h⟩
      · have h := h.2 hc
        refine g_iconst X dX0_follow_56 (by decide) ?_
        exact hr _ _ _ _ _ dX0_follow_57 ⟨by decide, h⟩
def wp_X0_follow_108 (v2 : Int) (v5 : Int) (m : Mem)  (post : Int → Mem → Prop) : Prop :=
  ((¬ v5 = v2 → (post 0 m)) ∧
  (v5 = v2 → (post 1 m)))
set_option maxRecDepth 100000 in
theorem pf_X0_follow_108 {l : Launch} {x : WX} {G : GT} {post : Int → Mem → Prop}  (X : Ax l x cX0_follow RX0 8 (rmd 0) 67 G) (hr : RZ cX0_follow post G) (v2 : Int) (v5 : Int) (m : Mem) (h : wp_X0_follow_108 v2 v5 m  post) : G 108 [(2, (0, v2)), (5, (0, v5))] [] m := by
  unfold wp_X0_follow_108 at h
  refine g_iload 1 (i := 5) X dX0_follow_108 rfl ?_
  refine g_iload_n 0 (i := 2) X dX0_follow_110 rfl rfl ?_
  refine g_icmp_ne X dX0_follow_111 (tgt := 118) (by decide) (fun hc => ?_) (fun hc => ?_)
  · have h := h.1 hc
    refine g_iconst X dX0_follow_118 (by decide) ?_
    exact hr _ _ _ _ _ dX0_follow_119 ⟨by decide, h⟩
  · have h := h.2 hc
    refine g_iconst X dX0_follow_114 (by decide) ?_
    refine g_goto X dX0_follow_115 (tgt := 119) (by decide) ?_
    exact hr _ _ _ _ _ dX0_follow_119 ⟨by decide, h⟩
def wp_X0_follow (v1 : Int) (v2 : Int) (v3 : Int) (m : Mem) (post : Int → Mem → Prop) : Prop :=
  ∀ v4_3 : Int, v4_3 = shl32 1 v1 → (∀ m14 : Mem, m14 = mset m 12 0 v1 → (∀ m17 : Mem, m17 = mset m14 6 7 1 → (∃ n_6 : Nat, wp_X0_follow_23 (fun v2_5 v5_5 m_5 => wp_X0_follow_108 v2_5 v5_5 m_5  post) post n_6 v2 v3 v4_3 v1 1 m17)))
set_option maxRecDepth 100000 in
theorem pf_X0_follow {l : Launch} {x : WX} {G : GT} {post : Int → Mem → Prop} (X : Ax l x cX0_follow RX0 8 (rmd 0) 67 G) (hr : RZ cX0_follow post G) (v1 : Int) (v2 : Int) (v3 : Int) (m : Mem) (h : wp_X0_follow v1 v2 v3 m post) : G 0 [(0, (2, 6)), (1, (0, v1)), (2, (0, v2)), (3, (2, v3))] [] m := by
  unfold wp_X0_follow at h
  refine g_iconst X dX0_follow_0 (by decide) ?_
  refine g_iload_n 1 (i := 1) X dX0_follow_1 rfl rfl ?_
  refine g_ishl X dX0_follow_2 ?_
  refine g_nmI (fun v4_3 ev4_3 => ?_)
  have h := h v4_3 ev4_3
  refine g_istore (i := 4) (lv' := [(4, (0, v4_3)), (0, (2, 6)), (1, (0, v1)), (2, (0, v2)), (3, (2, v3))]) X dX0_follow_3 (by decide) rfl ?_
  refine g_iload_n 2 (i := 1) X dX0_follow_5 rfl rfl ?_
  refine g_istore (i := 5) (lv' := [(5, (0, v1)), (4, (0, v4_3)), (0, (2, 6)), (1, (0, v1)), (2, (0, v2)), (3, (2, v3))]) X dX0_follow_6 (by decide) rfl ?_
  refine g_aload_n 2 (i := 0) X dX0_follow_8 rfl rfl ?_
  refine g_getR X dX0_follow_9 fX0_27 ?_
  refine g_iconst X dX0_follow_12 (by decide) ?_
  refine g_iload_n 3 (i := 1) X dX0_follow_13 rfl rfl ?_
  refine g_iast X dX0_follow_14 rfl (by decide) (fun m14 em14 => ?_)
  have h := h m14 em14
  refine g_aload_n 2 (i := 0) X dX0_follow_15 rfl rfl ?_
  refine g_iconst X dX0_follow_16 (by decide) ?_
  refine g_putI X dX0_follow_17 pX0_34 (fun m17 em17 => ?_)
  have h := h m17 em17
  refine g_iconst X dX0_follow_20 (by decide) ?_
  refine g_istore (i := 6) (lv' := [(6, (0, 1)), (5, (0, v1)), (4, (0, v4_3)), (0, (2, 6)), (1, (0, v1)), (2, (0, v2)), (3, (2, v3))]) X dX0_follow_21 (by decide) rfl ?_
  obtain ⟨n_6, h⟩ := h
  refine g_sub X [3, 5, 6, 2, 1, 0] rfl (pf_X0_follow_23 X hr (fun v2_5 v5_5 m_5 h => ?_) n_6 _ _ _ _ _ _ h)
  · refine g_sub X [0, 1] rfl (pf_X0_follow_108 X hr  _ _ _ h)
theorem im_X0_follow (l : Launch) (x : WX) (v1 : Int) (v2 : Int) (v3 : Int) (m : Mem) (post : Int → Mem → Prop) (h : wp_X0_follow v1 v2 v3 m post) : MetI l x 67 0 yX0_follow cX0_follow 8 .boolean [(2, 6), (0, v1), (0, v2), (2, v3)] m post := met_Z (by decide) (Nat.le_of_ble_eq_true rfl) (fun _ X hr => pf_X0_follow X hr v1 v2 v3 m h)
def wp_X0_stopAt (v1 : Int) (m : Mem) (post : Int → Mem → Prop) : Prop :=
  ((v1 < 0 → (post (-1) m)) ∧
  (¬ v1 < 0 → (((m 6 7 ≤ v1 → (post (-1) m)) ∧
  (¬ m 6 7 ≤ v1 → ((0 ≤ v1 ∧ v1 < 8) ∧ (post (m 12 v1) m)))))))
set_option maxRecDepth 100000 in
theorem pf_X0_stopAt {l : Launch} {x : WX} {G : GT} {post : Int → Mem → Prop} (X : Ax l x cX0_stopAt RX0 2 (rmd 0) 67 G) (hr : RI cX0_stopAt post G) (v1 : Int) (m : Mem) (h : wp_X0_stopAt v1 m post) : G 0 [(0, (2, 6)), (1, (0, v1))] [] m := by
  unfold wp_X0_stopAt at h
  refine g_iload_n 1 (i := 1) X dX0_stopAt_0 rfl rfl ?_
  refine g_if_lt X dX0_stopAt_1 (tgt := 21) (by decide) (fun hc => ?_) (fun hc => ?_)
  · have h := h.1 hc
    refine g_iconst X dX0_stopAt_21 (by decide) ?_
    exact hr _ _ _ _ _ dX0_stopAt_22 h
  · have h := h.2 hc
    refine g_iload_n 1 (i := 1) X dX0_stopAt_4 rfl rfl ?_
    refine g_aload_n 0 (i := 0) X dX0_stopAt_5 rfl rfl ?_
    refine g_getI X dX0_stopAt_6 fX0_34 ?_
    refine g_icmp_ge X dX0_stopAt_9 (tgt := 21) (by decide) (fun hc => ?_) (fun hc => ?_)
    · have h := h.1 hc
      refine g_iconst X dX0_stopAt_21 (by decide) ?_
      exact hr _ _ _ _ _ dX0_stopAt_22 h
    · have h := h.2 hc
      refine g_aload_n 0 (i := 0) X dX0_stopAt_12 rfl rfl ?_
      refine g_getR X dX0_stopAt_13 fX0_27 ?_
      refine g_iload_n 1 (i := 1) X dX0_stopAt_16 rfl rfl ?_
      obtain ⟨hi, h⟩ := h
      refine g_iald X dX0_stopAt_17 rfl hi ?_
      refine g_goto X dX0_stopAt_18 (tgt := 22) (by decide) ?_
      exact hr _ _ _ _ _ dX0_stopAt_22 h
theorem im_X0_stopAt (l : Launch) (x : WX) (v1 : Int) (m : Mem) (post : Int → Mem → Prop) (h : wp_X0_stopAt v1 m post) : MetI l x 67 0 yX0_stopAt cX0_stopAt 2 .int [(2, 6), (0, v1)] m post := met_I (by decide) (Nat.le_of_ble_eq_true rfl) (fun _ X hr => pf_X0_stopAt X hr v1 m h)
def wp_X0_stopsInclude_2  (post : Int → Mem → Prop) : Nat → Int → Int → Mem → Prop
  | 0, _, _, _ => False
  | n + 1, v1, v2, m =>
  ((m 6 7 ≤ v2 → (post 0 m)) ∧
  (¬ m 6 7 ≤ v2 → ((0 ≤ v2 ∧ v2 < 8) ∧ (((¬ m 12 v2 = v1 → (wp_X0_stopsInclude_2  post n v1 (w32 (v2 + 1)) m)) ∧
  (m 12 v2 = v1 → (post 1 m)))))))
set_option maxRecDepth 100000 in
theorem pf_X0_stopsInclude_2 {l : Launch} {x : WX} {G : GT} {post : Int → Mem → Prop}  (X : Ax l x cX0_stopsInclude RX0 3 (rmd 0) 67 G) (hr : RZ cX0_stopsInclude post G) : ∀ (n : Nat) (v1 : Int) (v2 : Int) (m : Mem) (_ : wp_X0_stopsInclude_2  post n v1 v2 m), G 2 [(0, (2, 6)), (1, (0, v1)), (2, (0, v2))] [] m := by
  intro n
  induction n with
  | zero => intro v1 v2 m h; exact absurd h id
  | succ n ih =>
  intro v1 v2 m h
  unfold wp_X0_stopsInclude_2 at h
  refine g_iload_n 2 (i := 2) X dX0_stopsInclude_2 rfl rfl ?_
  refine g_aload_n 0 (i := 0) X dX0_stopsInclude_3 rfl rfl ?_
  refine g_getI X dX0_stopsInclude_4 fX0_34 ?_
  refine g_icmp_ge X dX0_stopsInclude_7 (tgt := 28) (by decide) (fun hc => ?_) (fun hc => ?_)
  · have h := h.1 hc
    refine g_iconst X dX0_stopsInclude_28 (by decide) ?_
    exact hr _ _ _ _ _ dX0_stopsInclude_29 ⟨by decide, h⟩
  · have h := h.2 hc
    refine g_aload_n 0 (i := 0) X dX0_stopsInclude_10 rfl rfl ?_
    refine g_getR X dX0_stopsInclude_11 fX0_27 ?_
    refine g_iload_n 2 (i := 2) X dX0_stopsInclude_14 rfl rfl ?_
    obtain ⟨hi, h⟩ := h
    refine g_iald X dX0_stopsInclude_15 rfl hi ?_
    refine g_iload_n 1 (i := 1) X dX0_stopsInclude_16 rfl rfl ?_
    refine g_icmp_ne X dX0_stopsInclude_17 (tgt := 22) (by decide) (fun hc => ?_) (fun hc => ?_)
    · have h := h.1 hc
      refine g_iinc 2 (lv' := [(2, (0, w32 (v2 + 1))), (0, (2, 6)), (1, (0, v1))]) X dX0_stopsInclude_22 rfl (by decide) rfl ?_
      refine g_goto X dX0_stopsInclude_25 (tgt := 2) (by decide) ?_
      exact g_sub X [1, 2, 0] rfl (ih _ _ _ h)
    · have h := h.2 hc
      refine g_iconst X dX0_stopsInclude_20 (by decide) ?_
      exact hr _ _ _ _ _ dX0_stopsInclude_21 ⟨by decide, h⟩
def wp_X0_stopsInclude (v1 : Int) (m : Mem) (post : Int → Mem → Prop) : Prop :=
  ∃ n_1 : Nat, wp_X0_stopsInclude_2  post n_1 v1 0 m
set_option maxRecDepth 100000 in
theorem pf_X0_stopsInclude {l : Launch} {x : WX} {G : GT} {post : Int → Mem → Prop} (X : Ax l x cX0_stopsInclude RX0 3 (rmd 0) 67 G) (hr : RZ cX0_stopsInclude post G) (v1 : Int) (m : Mem) (h : wp_X0_stopsInclude v1 m post) : G 0 [(0, (2, 6)), (1, (0, v1))] [] m := by
  unfold wp_X0_stopsInclude at h
  refine g_iconst X dX0_stopsInclude_0 (by decide) ?_
  refine g_istore_n (i := 2) (lv' := [(2, (0, 0)), (0, (2, 6)), (1, (0, v1))]) X dX0_stopsInclude_1 rfl (by decide) rfl ?_
  obtain ⟨n_1, h⟩ := h
  refine g_sub X [1, 2, 0] rfl (pf_X0_stopsInclude_2 X hr  n_1 _ _ _ h)
theorem im_X0_stopsInclude (l : Launch) (x : WX) (v1 : Int) (m : Mem) (post : Int → Mem → Prop) (h : wp_X0_stopsInclude v1 m post) : MetI l x 67 0 yX0_stopsInclude cX0_stopsInclude 3 .boolean [(2, 6), (0, v1)] m post := met_Z (by decide) (Nat.le_of_ble_eq_true rfl) (fun _ X hr => pf_X0_stopsInclude X hr v1 m h)
def wp_X0_tell (v1 : Int) (v2 : Int) (m : Mem) (post : Int → Mem → Prop) : Prop :=
  ((v2 = 0 → ((0 ≤ v1 ∧ v1 < 20) ∧ (post (m 7 v1) m))) ∧
  ((v2 = 1 → ((0 ≤ v1 ∧ v1 < 20) ∧ (post (m 8 v1) m))) ∧
  ((v2 = 2 → ((0 ≤ v1 ∧ v1 < 20) ∧ (post (m 9 v1) m))) ∧
  (((v2 < 0 ∨ 2 < v2) → ((0 ≤ v1 ∧ v1 < 20) ∧ (post (m 10 v1) m)))))))
set_option maxRecDepth 100000 in
theorem pf_X0_tell {l : Launch} {x : WX} {G : GT} {post : Int → Mem → Prop} (X : Ax l x cX0_tell RX0 3 (rmd 0) 67 G) (hr : RI cX0_tell post G) (v1 : Int) (v2 : Int) (m : Mem) (h : wp_X0_tell v1 v2 m post) : G 0 [(0, (2, 6)), (1, (0, v1)), (2, (0, v2))] [] m := by
  unfold wp_X0_tell at h
  refine g_iload_n 2 (i := 2) X dX0_tell_0 rfl rfl ?_
  by_cases c0 : v2 = 0
  · refine g_tabIn X dX0_tell_1 0 c0 (tgt := 28) (by decide) (by decide) rfl (by decide) ?_
    have h := h.1 c0
    refine g_aload_n 0 (i := 0) X dX0_tell_28 rfl rfl ?_
    refine g_getR X dX0_tell_29 fX0_11 ?_
    refine g_iload_n 1 (i := 1) X dX0_tell_32 rfl rfl ?_
    obtain ⟨hi, h⟩ := h
    refine g_iald X dX0_tell_33 rfl hi ?_
    exact hr _ _ _ _ _ dX0_tell_34 h
  have h := h.2
  by_cases c1 : v2 = 1
  · refine g_tabIn X dX0_tell_1 1 c1 (tgt := 35) (by decide) (by decide) rfl (by decide) ?_
    have h := h.1 c1
    refine g_aload_n 0 (i := 0) X dX0_tell_35 rfl rfl ?_
    refine g_getR X dX0_tell_36 fX0_15 ?_
    refine g_iload_n 1 (i := 1) X dX0_tell_39 rfl rfl ?_
    obtain ⟨hi, h⟩ := h
    refine g_iald X dX0_tell_40 rfl hi ?_
    exact hr _ _ _ _ _ dX0_tell_41 h
  have h := h.2
  by_cases c2 : v2 = 2
  · refine g_tabIn X dX0_tell_1 2 c2 (tgt := 42) (by decide) (by decide) rfl (by decide) ?_
    have h := h.1 c2
    refine g_aload_n 0 (i := 0) X dX0_tell_42 rfl rfl ?_
    refine g_getR X dX0_tell_43 fX0_18 ?_
    refine g_iload_n 1 (i := 1) X dX0_tell_46 rfl rfl ?_
    obtain ⟨hi, h⟩ := h
    refine g_iald X dX0_tell_47 rfl hi ?_
    exact hr _ _ _ _ _ dX0_tell_48 h
  have h := h.2
  have hc := swo_2 v2 c0 c1 c2
  have h := h hc
  refine g_tabOut X dX0_tell_1 (tgt := 49) (by decide) hc ?_
  refine g_aload_n 0 (i := 0) X dX0_tell_49 rfl rfl ?_
  refine g_getR X dX0_tell_50 fX0_21 ?_
  refine g_iload_n 1 (i := 1) X dX0_tell_53 rfl rfl ?_
  obtain ⟨hi, h⟩ := h
  refine g_iald X dX0_tell_54 rfl hi ?_
  exact hr _ _ _ _ _ dX0_tell_55 h
theorem im_X0_tell (l : Launch) (x : WX) (v1 : Int) (v2 : Int) (m : Mem) (post : Int → Mem → Prop) (h : wp_X0_tell v1 v2 m post) : MetI l x 67 0 yX0_tell cX0_tell 3 .int [(2, 6), (0, v1), (0, v2)] m post := met_I (by decide) (Nat.le_of_ble_eq_true rfl) (fun _ X hr => pf_X0_tell X hr v1 v2 m h)
def wp_X0_digestOnto_17 (K5 : Int → Int → Mem → Prop) (post : Int → Mem → Prop) : Nat → Int → Int → Int → Mem → Prop
  | 0, _, _, _, _ => False
  | n + 1, v3, v5, v6, m =>
  ((3 < v6 → (K5 v3 (w32 (v5 + 1)) m)) ∧
  (¬ 3 < v6 → (wp_X0_tell v5 v6 m (fun r33 m33 => ∀ v3_38 : Int, v3_38 = w64 (w64 (31 * v3) + r33) → (wp_X0_digestOnto_17 K5 post n v3_38 v5 (w32 (v6 + 1)) m33)))))
set_option maxRecDepth 100000 in
theorem pf_X0_digestOnto_17 {l : Launch} {x : WX} {G : GT} {post : Int → Mem → Prop} {K5 : Int → Int → Mem → Prop} (X : Ax l x cX0_digestOnto RX0 7 (rmd 1) 67 G) (hr : RJ cX0_digestOnto post G) (hK5 : ∀ (v3 : Int) (v5 : Int) (m : Mem), K5 v3 v5 m → G 5 [(0, (2, 6)), (3, (1, v3)), (5, (0, v5))] [] m) : ∀ (n : Nat) (v3 : Int) (v5 : Int) (v6 : Int) (m : Mem) (_ : wp_X0_digestOnto_17 K5 post n v3 v5 v6 m), G 17 [(0, (2, 6)), (3, (1, v3)), (5, (0, v5)), (6, (0, v6))] [] m := by
  intro n
  induction n with
  | zero => intro v3 v5 v6 m h; exact absurd h id
  | succ n ih =>
  intro v3 v5 v6 m h
  unfold wp_X0_digestOnto_17 at h
  refine g_iload 3 (i := 6) X dX0_digestOnto_17 rfl ?_
  refine g_iconst X dX0_digestOnto_19 (by decide) ?_
  refine g_icmp_gt X dX0_digestOnto_20 (tgt := 45) (by decide) (fun hc => ?_) (fun hc => ?_)
  · have h := h.1 hc
    refine g_iinc 2 (lv' := [(5, (0, w32 (v5 + 1))), (0, (2, 6)), (3, (1, v3)), (6, (0, v6))]) X dX0_digestOnto_45 rfl (by decide) rfl ?_
    refine g_goto X dX0_digestOnto_48 (tgt := 5) (by decide) ?_
    exact g_sub X [1, 2, 0] rfl (hK5 _ _ _ h)
  · have h := h.2 hc
    refine g_ldc2 X dX0_digestOnto_23 (by unfold r64; omega) kX0_47 ?_
    refine g_lload_n 1 (i := 3) X dX0_digestOnto_26 rfl rfl ?_
    refine g_lmul X dX0_digestOnto_27 ?_
    refine g_aload_n 0 (i := 0) X dX0_digestOnto_28 rfl rfl ?_
    refine g_iload 2 (i := 5) X dX0_digestOnto_29 rfl ?_
    refine g_iload 3 (i := 6) X dX0_digestOnto_31 rfl ?_
    refine g_cVI (st := [(1, w64 (31 * v3))]) X dX0_digestOnto_33 YX0_tell lX0_49 (by decide) (im_X0_tell l x _ _ _ _ h) rfl ⟨by decide, by decide⟩ rfl (Nat.le_of_ble_eq_true rfl) (fun r33 m33 h => ?_)
    refine g_i2l X dX0_digestOnto_36 ?_
    refine g_ladd X dX0_digestOnto_37 ?_
    refine g_nmI (fun v3_38 ev3_38 => ?_)
    have h := h v3_38 ev3_38
    refine g_lstore_n (i := 3) (lv' := [(3, (1, v3_38)), (0, (2, 6)), (5, (0, v5)), (6, (0, v6))]) X dX0_digestOnto_38 rfl (by decide) rfl ?_
    refine g_iinc 3 (lv' := [(6, (0, w32 (v6 + 1))), (3, (1, v3_38)), (0, (2, 6)), (5, (0, v5))]) X dX0_digestOnto_39 rfl (by decide) rfl ?_
    refine g_goto X dX0_digestOnto_42 (tgt := 17) (by decide) ?_
    exact g_sub X [2, 1, 3, 0] rfl (ih _ _ _ _ h)
def wp_X0_digestOnto_5  (post : Int → Mem → Prop) : Nat → Int → Int → Mem → Prop
  | 0, _, _, _ => False
  | n + 1, v3, v5, m =>
  ((m 6 0 ≤ v5 → (post v3 m)) ∧
  (¬ m 6 0 ≤ v5 → (∃ n_3 : Nat, wp_X0_digestOnto_17 (fun v3_2 v5_2 m_2 => wp_X0_digestOnto_5  post n v3_2 v5_2 m_2) post n_3 v3 v5 0 m)))
set_option maxRecDepth 100000 in
theorem pf_X0_digestOnto_5 {l : Launch} {x : WX} {G : GT} {post : Int → Mem → Prop}  (X : Ax l x cX0_digestOnto RX0 7 (rmd 1) 67 G) (hr : RJ cX0_digestOnto post G) : ∀ (n : Nat) (v3 : Int) (v5 : Int) (m : Mem) (_ : wp_X0_digestOnto_5  post n v3 v5 m), G 5 [(0, (2, 6)), (3, (1, v3)), (5, (0, v5))] [] m := by
  intro n
  induction n with
  | zero => intro v3 v5 m h; exact absurd h id
  | succ n ih =>
  intro v3 v5 m h
  unfold wp_X0_digestOnto_5 at h
  refine g_iload 2 (i := 5) X dX0_digestOnto_5 rfl ?_
  refine g_aload_n 0 (i := 0) X dX0_digestOnto_7 rfl rfl ?_
  refine g_getI X dX0_digestOnto_8 fX0_30 ?_
  refine g_icmp_ge X dX0_digestOnto_11 (tgt := 51) (by decide) (fun hc => ?_) (fun hc => ?_)
  · have h := h.1 hc
    refine g_lload_n 1 (i := 3) X dX0_digestOnto_51 rfl rfl ?_
    exact hr _ _ _ _ _ dX0_digestOnto_52 h
  · have h := h.2 hc
    refine g_iconst X dX0_digestOnto_14 (by decide) ?_
    refine g_istore (i := 6) (lv' := [(6, (0, 0)), (0, (2, 6)), (3, (1, v3)), (5, (0, v5))]) X dX0_digestOnto_15 (by decide) rfl ?_
    obtain ⟨n_3, h⟩ := h
    refine g_sub X [1, 2, 3, 0] rfl (pf_X0_digestOnto_17 X hr (fun v3_2 v5_2 m_2 h => ?_) n_3 _ _ _ _ h)
    · exact g_sub X [0, 1, 2] rfl (ih _ _ _ h)
def wp_X0_digestOnto (v1 : Int) (m : Mem) (post : Int → Mem → Prop) : Prop :=
  ∃ n_4 : Nat, wp_X0_digestOnto_5  post n_4 v1 0 m
set_option maxRecDepth 100000 in
theorem pf_X0_digestOnto {l : Launch} {x : WX} {G : GT} {post : Int → Mem → Prop} (X : Ax l x cX0_digestOnto RX0 7 (rmd 1) 67 G) (hr : RJ cX0_digestOnto post G) (v1 : Int) (m : Mem) (h : wp_X0_digestOnto v1 m post) : G 0 [(0, (2, 6)), (1, (1, v1))] [] m := by
  unfold wp_X0_digestOnto at h
  refine g_lload_n 1 (i := 1) X dX0_digestOnto_0 rfl rfl ?_
  refine g_lstore_n (i := 3) (lv' := [(3, (1, v1)), (0, (2, 6)), (1, (1, v1))]) X dX0_digestOnto_1 rfl (by decide) rfl ?_
  refine g_iconst X dX0_digestOnto_2 (by decide) ?_
  refine g_istore (i := 5) (lv' := [(5, (0, 0)), (3, (1, v1)), (0, (2, 6)), (1, (1, v1))]) X dX0_digestOnto_3 (by decide) rfl ?_
  obtain ⟨n_4, h⟩ := h
  refine g_sub X [2, 1, 0] rfl (pf_X0_digestOnto_5 X hr  n_4 _ _ _ h)
theorem im_X0_digestOnto (l : Launch) (x : WX) (v1 : Int) (m : Mem) (post : Int → Mem → Prop) (h : wp_X0_digestOnto v1 m post) : MetJ l x 67 1 yX0_digestOnto cX0_digestOnto 7 [(2, 6), (1, v1)] m post := met_J (by decide) (Nat.le_of_ble_eq_true rfl) (fun _ X hr => pf_X0_digestOnto X hr v1 m h)
def wp_X1_gather_7  (post : Int → Mem → Prop) : Nat → Int → Int → Mem → Prop
  | 0, _, _, _ => False
  | n + 1, v1, v3, m =>
  ((m 6 0 ≤ v3 → (post 1 m)) ∧
  (¬ m 6 0 ≤ v3 → ((0 ≤ v3 ∧ v3 < 20) ∧ (((m 8 v3 = v1 → (((m 63 5 < 4 → ((0 ≤ m 63 5 ∧ m 63 5 < 4) ∧ (∀ m47 : Mem, m47 = mset m 66 (m 63 5) v3 → (∀ m55 : Mem, m55 = mset m47 63 5 (w32 (m47 63 5 + 1)) → (wp_X1_gather_7  post n v1 (w32 (v3 + 1)) m55))))) ∧
  (¬ m 63 5 < 4 → (post 0 m))))) ∧
  (¬ m 8 v3 = v1 → (wp_X1_gather_7  post n v1 (w32 (v3 + 1)) m)))))))
set_option maxRecDepth 100000 in
theorem pf_X1_gather_7 {l : Launch} {x : WX} {G : GT} {post : Int → Mem → Prop}  (X : Ax l x cX1_gather RX1 4 (rmd 0) 67 G) (hr : RZ cX1_gather post G) : ∀ (n : Nat) (v1 : Int) (v3 : Int) (m : Mem) (_ : wp_X1_gather_7  post n v1 v3 m), G 7 [(0, (2, 63)), (1, (0, v1)), (2, (2, 6)), (3, (0, v3))] [] m := by
  intro n
  induction n with
  | zero => intro v1 v3 m h; exact absurd h id
  | succ n ih =>
  intro v1 v3 m h
  unfold wp_X1_gather_7 at h
  refine g_iload_n 3 (i := 3) X dX1_gather_7 rfl rfl ?_
  refine g_aload_n 2 (i := 2) X dX1_gather_8 rfl rfl ?_
  refine g_getI X dX1_gather_9 fX1_27 ?_
  refine g_icmp_ge X dX1_gather_12 (tgt := 64) (by decide) (fun hc => ?_) (fun hc => ?_)
  · have h := h.1 hc
    refine g_iconst X dX1_gather_64 (by decide) ?_
    exact hr _ _ _ _ _ dX1_gather_65 ⟨by decide, h⟩
  · have h := h.2 hc
    refine g_aload_n 2 (i := 2) X dX1_gather_15 rfl rfl ?_
    refine g_getR X dX1_gather_16 fX1_30 ?_
    refine g_iload_n 3 (i := 3) X dX1_gather_19 rfl rfl ?_
    obtain ⟨hi, h⟩ := h
    refine g_iald X dX1_gather_20 rfl hi ?_
    refine g_iload_n 1 (i := 1) X dX1_gather_21 rfl rfl ?_
    refine g_icmp_eq X dX1_gather_22 (tgt := 28) (by decide) (fun hc => ?_) (fun hc => ?_)
    · have h := h.1 hc
      refine g_aload_n 0 (i := 0) X dX1_gather_28 rfl rfl ?_
      refine g_getI X dX1_gather_29 fX1_23 ?_
      refine g_iconst X dX1_gather_32 (by decide) ?_
      refine g_icmp_lt X dX1_gather_33 (tgt := 38) (by decide) (fun hc => ?_) (fun hc => ?_)
      · have h := h.1 hc
        refine g_aload_n 0 (i := 0) X dX1_gather_38 rfl rfl ?_
        refine g_getR X dX1_gather_39 fX1_20 ?_
        refine g_aload_n 0 (i := 0) X dX1_gather_42 rfl rfl ?_
        refine g_getI X dX1_gather_43 fX1_23 ?_
        refine g_iload_n 3 (i := 3) X dX1_gather_46 rfl rfl ?_
        obtain ⟨hi, h⟩ := h
        refine g_iast X dX1_gather_47 rfl hi (fun m47 em47 => ?_)
        have h := h m47 em47
        refine g_aload_n 0 (i := 0) X dX1_gather_48 rfl rfl ?_
        refine g_dup X dX1_gather_49 rfl ?_
        refine g_getI X dX1_gather_50 fX1_23 ?_
        refine g_iconst X dX1_gather_53 (by decide) ?_
        refine g_iadd X dX1_gather_54 ?_
        refine g_putI X dX1_gather_55 pX1_23 (fun m55 em55 => ?_)
        have h := h m55 em55
        refine g_iinc 3 (lv' := [(3, (0, w32 (v3 + 1))), (0, (2, 63)), (1, (0, v1)), (2, (2, 6))]) X dX1_gather_58 rfl (by decide) rfl ?_
        refine g_goto X dX1_gather_61 (tgt := 7) (by decide) ?_
        exact g_sub X [1, 2, 3, 0] rfl (ih _ _ _ h)
      · have h := h.2 hc
        refine g_iconst X dX1_gather_36 (by decide) ?_
        exact hr _ _ _ _ _ dX1_gather_37 ⟨by decide, h⟩
    · have h := h.2 hc
      refine g_goto X dX1_gather_25 (tgt := 58) (by decide) ?_
      refine g_iinc 3 (lv' := [(3, (0, w32 (v3 + 1))), (0, (2, 63)), (1, (0, v1)), (2, (2, 6))]) X dX1_gather_58 rfl (by decide) rfl ?_
      refine g_goto X dX1_gather_61 (tgt := 7) (by decide) ?_
      exact g_sub X [1, 2, 3, 0] rfl (ih _ _ _ h)
def wp_X1_gather (v1 : Int) (m : Mem) (post : Int → Mem → Prop) : Prop :=
  ∀ m2 : Mem, m2 = mset m 63 5 0 → (∃ n_1 : Nat, wp_X1_gather_7  post n_1 v1 0 m2)
set_option maxRecDepth 100000 in
theorem pf_X1_gather {l : Launch} {x : WX} {G : GT} {post : Int → Mem → Prop} (X : Ax l x cX1_gather RX1 4 (rmd 0) 67 G) (hr : RZ cX1_gather post G) (v1 : Int) (m : Mem) (h : wp_X1_gather v1 m post) : G 0 [(0, (2, 63)), (1, (0, v1)), (2, (2, 6))] [] m := by
  unfold wp_X1_gather at h
  refine g_aload_n 0 (i := 0) X dX1_gather_0 rfl rfl ?_
  refine g_iconst X dX1_gather_1 (by decide) ?_
  refine g_putI X dX1_gather_2 pX1_23 (fun m2 em2 => ?_)
  have h := h m2 em2
  refine g_iconst X dX1_gather_5 (by decide) ?_
  refine g_istore_n (i := 3) (lv' := [(3, (0, 0)), (0, (2, 63)), (1, (0, v1)), (2, (2, 6))]) X dX1_gather_6 rfl (by decide) rfl ?_
  obtain ⟨n_1, h⟩ := h
  refine g_sub X [1, 2, 3, 0] rfl (pf_X1_gather_7 X hr  n_1 _ _ _ h)
theorem im_X1_gather (l : Launch) (x : WX) (v1 : Int) (m : Mem) (post : Int → Mem → Prop) (h : wp_X1_gather v1 m post) : MetI l x 67 0 yX1_gather cX1_gather 4 .boolean [(2, 63), (0, v1), (2, 6)] m post := met_Z (by decide) (Nat.le_of_ble_eq_true rfl) (fun _ X hr => pf_X1_gather X hr v1 m h)
def wp_X1_turn_91 (v2 : Int) (v3 : Int) (v5 : Int) (v6 : Int) (v7 : Int) (v8 : Int) (s0 : Int) (s1 : Int) (m : Mem) (K21 : Int → Int → Int → Int → Int → Mem → Prop) (post : Int → Mem → Prop) : Prop :=
  (0 ≤ s1 ∧ s1 < 20) ∧ (∀ m91 : Mem, m91 = mset m 65 s1 s0 → (((0 ≤ v8 → (∀ v5_105 : Int, v5_105 = w32 (v5 + 1) → (K21 v2 v3 v5_105 v6 (w32 (v7 + (-1))) m91))) ∧
  (¬ 0 ≤ v8 → (∀ v5_105 : Int, v5_105 = w32 (v5 + 0) → (K21 v2 v3 v5_105 v6 (w32 (v7 + (-1))) m91))))))
set_option maxRecDepth 100000 in
theorem pf_X1_turn_91 {l : Launch} {x : WX} {G : GT} {post : Int → Mem → Prop} {K21 : Int → Int → Int → Int → Int → Mem → Prop} (X : Ax l x cX1_turn RX1 10 (rmd 0) 67 G) (hr : RI cX1_turn post G) (hK21 : ∀ (v2 : Int) (v3 : Int) (v5 : Int) (v6 : Int) (v7 : Int) (m : Mem), K21 v2 v3 v5 v6 v7 m → G 21 [(0, (2, 63)), (2, (0, v2)), (3, (0, v3)), (4, (2, 6)), (5, (0, v5)), (6, (0, v6)), (7, (0, v7))] [] m) (v2 : Int) (v3 : Int) (v5 : Int) (v6 : Int) (v7 : Int) (v8 : Int) (s0 : Int) (s1 : Int) (m : Mem) (h : wp_X1_turn_91 v2 v3 v5 v6 v7 v8 s0 s1 m K21 post) : G 91 [(0, (2, 63)), (2, (0, v2)), (3, (0, v3)), (4, (2, 6)), (5, (0, v5)), (6, (0, v6)), (7, (0, v7)), (8, (0, v8))] [(0, s0), (0, s1), (2, 65)] m := by
  unfold wp_X1_turn_91 at h
  obtain ⟨hi, h⟩ := h
  refine g_iast X dX1_turn_91 rfl hi (fun m91 em91 => ?_)
  have h := h m91 em91
  refine g_iload 4 (i := 5) X dX1_turn_92 rfl ?_
  refine g_iload 7 (i := 8) X dX1_turn_94 rfl ?_
  refine g_if_ge X dX1_turn_96 (tgt := 103) (by decide) (fun hc => ?_) (fun hc => ?_)
  · have h := h.1 hc
    refine g_iconst X dX1_turn_103 (by decide) ?_
    refine g_iadd X dX1_turn_104 ?_
    refine g_nmI (fun v5_105 ev5_105 => ?_)
    have h := h v5_105 ev5_105
    refine g_istore (i := 5) (lv' := [(5, (0, v5_105)), (0, (2, 63)), (2, (0, v2)), (3, (0, v3)), (4, (2, 6)), (6, (0, v6)), (7, (0, v7)), (8, (0, v8))]) X dX1_turn_105 (by decide) rfl ?_
    refine g_iinc 6 (lv' := [(7, (0, w32 (v7 + (-1)))), (5, (0, v5_105)), (0, (2, 63)), (2, (0, v2)), (3, (0, v3)), (4, (2, 6)), (6, (0, v6)), (8, (0, v8))]) X dX1_turn_107 rfl (by decide) rfl ?_
    refine g_goto X dX1_turn_110 (tgt := 21) (by decide) ?_
    exact g_sub X [2, 3, 4, 5, 1, 6, 0] rfl (hK21 _ _ _ _ _ _ h)
  · have h := h.2 hc
    refine g_iconst X dX1_turn_99 (by decide) ?_
    refine g_goto X dX1_turn_100 (tgt := 104) (by decide) ?_
    refine g_iadd X dX1_turn_104 ?_
    refine g_nmI (fun v5_105 ev5_105 => ?_)
    have h := h v5_105 ev5_105
    refine g_istore (i := 5) (lv' := [(5, (0, v5_105)), (0, (2, 63)), (2, (0, v2)), (3, (0, v3)), (4, (2, 6)), (6, (0, v6)), (7, (0, v7)), (8, (0, v8))]) X dX1_turn_105 (by decide) rfl ?_
    refine g_iinc 6 (lv' := [(7, (0, w32 (v7 + (-1)))), (5, (0, v5_105)), (0, (2, 63)), (2, (0, v2)), (3, (0, v3)), (4, (2, 6)), (6, (0, v6)), (8, (0, v8))]) X dX1_turn_107 rfl (by decide) rfl ?_
    refine g_goto X dX1_turn_110 (tgt := 21) (by decide) ?_
    exact g_sub X [2, 3, 4, 5, 1, 6, 0] rfl (hK21 _ _ _ _ _ _ h)
def wp_X1_turn_21  (post : Int → Mem → Prop) : Nat → Int → Int → Int → Int → Int → Mem → Prop
  | 0, _, _, _, _, _, _ => False
  | n + 1, v2, v3, v5, v6, v7, m =>
  ((v7 < 0 → (post v5 m)) ∧
  (¬ v7 < 0 → (¬ w32 (v3 + 1) = 0 ∧ (∀ v8_34 : Int, v8_34 = w32 (Int.tmod v6 (w32 (v3 + 1)) - 1) → (¬ w32 (v3 + 1) = 0 ∧ (∀ v6_42 : Int, v6_42 = w32 (Int.tdiv v6 (w32 (v3 + 1))) → ((0 ≤ v7 ∧ v7 < 4) ∧ (∀ v9_51 : Int, v9_51 = m 66 v7 → (((v8_34 = v2 → (post (-1) m)) ∧
  (¬ v8_34 = v2 → ((0 ≤ v9_51 ∧ v9_51 < 20) ∧ (((¬ v8_34 = m 7 v9_51 → (((0 ≤ v8_34 → (wp_X1_turn_91 v2 v3 v5 v6_42 v7 v8_34 v8_34 v9_51 m (fun v2_7 v3_7 v5_7 v6_7 v7_7 m_7 => wp_X1_turn_21  post n v2_7 v3_7 v5_7 v6_7 v7_7 m_7) post)) ∧
  (¬ 0 ≤ v8_34 → (wp_X1_turn_91 v2 v3 v5 v6_42 v7 v8_34 v2 v9_51 m (fun v2_8 v3_8 v5_8 v6_8 v7_8 m_8 => wp_X1_turn_21  post n v2_8 v3_8 v5_8 v6_8 v7_8 m_8) post))))) ∧
  (v8_34 = m 7 v9_51 → (post (-1) m))))))))))))))))
set_option maxRecDepth 100000 in
theorem pf_X1_turn_21 {l : Launch} {x : WX} {G : GT} {post : Int → Mem → Prop}  (X : Ax l x cX1_turn RX1 10 (rmd 0) 67 G) (hr : RI cX1_turn post G) : ∀ (n : Nat) (v2 : Int) (v3 : Int) (v5 : Int) (v6 : Int) (v7 : Int) (m : Mem) (_ : wp_X1_turn_21  post n v2 v3 v5 v6 v7 m), G 21 [(0, (2, 63)), (2, (0, v2)), (3, (0, v3)), (4, (2, 6)), (5, (0, v5)), (6, (0, v6)), (7, (0, v7))] [] m := by
  intro n
  induction n with
  | zero => intro v2 v3 v5 v6 v7 m h; exact absurd h id
  | succ n ih =>
  intro v2 v3 v5 v6 v7 m h
  unfold wp_X1_turn_21 at h
  refine g_iload 6 (i := 7) X dX1_turn_21 rfl ?_
  refine g_if_lt X dX1_turn_23 (tgt := 113) (by decide) (fun hc => ?_) (fun hc => ?_)
  · have h := h.1 hc
    refine g_iload 4 (i := 5) X dX1_turn_113 rfl ?_
    exact hr _ _ _ _ _ dX1_turn_115 h
  · have h := h.2 hc
    refine g_iload 5 (i := 6) X dX1_turn_26 rfl ?_
    refine g_iload_n 2 (i := 3) X dX1_turn_28 rfl rfl ?_
    refine g_iconst X dX1_turn_29 (by decide) ?_
    refine g_iadd X dX1_turn_30 ?_
    obtain ⟨hz, h⟩ := h
    refine g_irem X dX1_turn_31 hz ?_
    refine g_iconst X dX1_turn_32 (by decide) ?_
    refine g_isub X dX1_turn_33 ?_
    refine g_nmI (fun v8_34 ev8_34 => ?_)
    have h := h v8_34 ev8_34
    refine g_istore (i := 8) (lv' := [(8, (0, v8_34)), (0, (2, 63)), (2, (0, v2)), (3, (0, v3)), (4, (2, 6)), (5, (0, v5)), (6, (0, v6)), (7, (0, v7))]) X dX1_turn_34 (by decide) rfl ?_
    refine g_iload 6 (i := 6) X dX1_turn_36 rfl ?_
    refine g_iload_n 3 (i := 3) X dX1_turn_38 rfl rfl ?_
    refine g_iconst X dX1_turn_39 (by decide) ?_
    refine g_iadd X dX1_turn_40 ?_
    obtain ⟨hz, h⟩ := h
    refine g_idiv X dX1_turn_41 hz ?_
    refine g_nmI (fun v6_42 ev6_42 => ?_)
    have h := h v6_42 ev6_42
    refine g_istore (i := 6) (lv' := [(6, (0, v6_42)), (8, (0, v8_34)), (0, (2, 63)), (2, (0, v2)), (3, (0, v3)), (4, (2, 6)), (5, (0, v5)), (7, (0, v7))]) X dX1_turn_42 (by decide) rfl ?_
    refine g_aload_n 2 (i := 0) X dX1_turn_44 rfl rfl ?_
    refine g_getR X dX1_turn_45 fX1_20 ?_
    refine g_iload 7 (i := 7) X dX1_turn_48 rfl ?_
    obtain ⟨hi, h⟩ := h
    refine g_iald X dX1_turn_50 rfl hi ?_
    refine g_nmI (fun v9_51 ev9_51 => ?_)
    have h := h v9_51 ev9_51
    refine g_istore (i := 9) (lv' := [(9, (0, v9_51)), (6, (0, v6_42)), (8, (0, v8_34)), (0, (2, 63)), (2, (0, v2)), (3, (0, v3)), (4, (2, 6)), (5, (0, v5)), (7, (0, v7))]) X dX1_turn_51 (by decide) rfl ?_
    refine g_iload 2 (i := 8) X dX1_turn_53 rfl ?_
    refine g_iload_n 4 (i := 2) X dX1_turn_55 rfl rfl ?_
    refine g_icmp_eq X dX1_turn_56 (tgt := 72) (by decide) (fun hc => ?_) (fun hc => ?_)
    · have h := h.1 hc
      refine g_iconst X dX1_turn_72 (by decide) ?_
      exact hr _ _ _ _ _ dX1_turn_73 h
    · have h := h.2 hc
      refine g_iload 2 (i := 8) X dX1_turn_59 rfl ?_
      refine g_aload 6 (i := 4) X dX1_turn_61 rfl ?_
      refine g_getR X dX1_turn_63 fX1_50 ?_
      refine g_iload 0 (i := 9) X dX1_turn_66 rfl ?_
      obtain ⟨hi, h⟩ := h
      refine g_iald X dX1_turn_68 rfl hi ?_
      refine g_icmp_ne X dX1_turn_69 (tgt := 74) (by decide) (fun hc => ?_) (fun hc => ?_)
      · have h := h.1 hc
        refine g_aload_n 3 (i := 0) X dX1_turn_74 rfl rfl ?_
        refine g_getR X dX1_turn_75 fX1_17 ?_
        refine g_iload 0 (i := 9) X dX1_turn_78 rfl ?_
        refine g_iload 2 (i := 8) X dX1_turn_80 rfl ?_
        refine g_if_ge X dX1_turn_82 (tgt := 89) (by decide) (fun hc => ?_) (fun hc => ?_)
        · have h := h.1 hc
          refine g_iload 2 (i := 8) X dX1_turn_89 rfl ?_
          refine g_sub X [3, 4, 5, 6, 7, 1, 8, 2] rfl (pf_X1_turn_91 X hr (fun v2_7 v3_7 v5_7 v6_7 v7_7 m_7 h => ?_) _ _ _ _ _ _ _ _ _ h)
          · exact g_sub X [0, 1, 2, 3, 4, 5, 6] rfl (ih _ _ _ _ _ _ h)
        · have h := h.2 hc
          refine g_iload_n 4 (i := 2) X dX1_turn_85 rfl rfl ?_
          refine g_goto X dX1_turn_86 (tgt := 91) (by decide) ?_
          refine g_sub X [3, 4, 5, 6, 7, 1, 8, 2] rfl (pf_X1_turn_91 X hr (fun v2_8 v3_8 v5_8 v6_8 v7_8 m_8 h => ?_) _ _ _ _ _ _ _ _ _ h)
          · exact g_sub X [0, 1, 2, 3, 4, 5, 6] rfl (ih _ _ _ _ _ _ h)
      · have h := h.2 hc
        refine g_iconst X dX1_turn_72 (by decide) ?_
        exact hr _ _ _ _ _ dX1_turn_73 h
def wp_X1_turn (v1 : Int) (v2 : Int) (v3 : Int) (m : Mem) (post : Int → Mem → Prop) : Prop :=
  ((1 ≤ v3 → (∀ v7_19 : Int, v7_19 = w32 (m 63 5 - 1) → (∃ n_9 : Nat, wp_X1_turn_21  post n_9 v2 v3 0 v1 v7_19 m))) ∧
  (¬ 1 ≤ v3 → (post (-1) m)))
set_option maxRecDepth 100000 in
theorem pf_X1_turn {l : Launch} {x : WX} {G : GT} {post : Int → Mem → Prop} (X : Ax l x cX1_turn RX1 10 (rmd 0) 67 G) (hr : RI cX1_turn post G) (v1 : Int) (v2 : Int) (v3 : Int) (m : Mem) (h : wp_X1_turn v1 v2 v3 m post) : G 0 [(0, (2, 63)), (1, (0, v1)), (2, (0, v2)), (3, (0, v3)), (4, (2, 6))] [] m := by
  unfold wp_X1_turn at h
  refine g_iload_n 3 (i := 3) X dX1_turn_0 rfl rfl ?_
  refine g_iconst X dX1_turn_1 (by decide) ?_
  refine g_icmp_ge X dX1_turn_2 (tgt := 7) (by decide) (fun hc => ?_) (fun hc => ?_)
  · have h := h.1 hc
    refine g_iconst X dX1_turn_7 (by decide) ?_
    refine g_istore (i := 5) (lv' := [(5, (0, 0)), (0, (2, 63)), (1, (0, v1)), (2, (0, v2)), (3, (0, v3)), (4, (2, 6))]) X dX1_turn_8 (by decide) rfl ?_
    refine g_iload_n 2 (i := 1) X dX1_turn_10 rfl rfl ?_
    refine g_istore (i := 6) (lv' := [(6, (0, v1)), (5, (0, 0)), (0, (2, 63)), (1, (0, v1)), (2, (0, v2)), (3, (0, v3)), (4, (2, 6))]) X dX1_turn_11 (by decide) rfl ?_
    refine g_aload_n 2 (i := 0) X dX1_turn_13 rfl rfl ?_
    refine g_getI X dX1_turn_14 fX1_23 ?_
    refine g_iconst X dX1_turn_17 (by decide) ?_
    refine g_isub X dX1_turn_18 ?_
    refine g_nmI (fun v7_19 ev7_19 => ?_)
    have h := h v7_19 ev7_19
    refine g_istore (i := 7) (lv' := [(7, (0, v7_19)), (6, (0, v1)), (5, (0, 0)), (0, (2, 63)), (1, (0, v1)), (2, (0, v2)), (3, (0, v3)), (4, (2, 6))]) X dX1_turn_19 (by decide) rfl ?_
    obtain ⟨n_9, h⟩ := h
    refine g_sub X [3, 5, 6, 7, 2, 1, 0] rfl (pf_X1_turn_21 X hr  n_9 _ _ _ _ _ _ h)
  · have h := h.2 hc
    refine g_iconst X dX1_turn_5 (by decide) ?_
    exact hr _ _ _ _ _ dX1_turn_6 h
theorem im_X1_turn (l : Launch) (x : WX) (v1 : Int) (v2 : Int) (v3 : Int) (m : Mem) (post : Int → Mem → Prop) (h : wp_X1_turn v1 v2 v3 m post) : MetI l x 67 0 yX1_turn cX1_turn 10 .int [(2, 63), (0, v1), (0, v2), (0, v3), (2, 6)] m post := met_I (by decide) (Nat.le_of_ble_eq_true rfl) (fun _ X hr => pf_X1_turn X hr v1 v2 v3 m h)
def wp_X1_comesPast (v1 : Int) (v2 : Int) (v3 : Int) (m : Mem) (post : Int → Mem → Prop) : Prop :=
  wp_X0_follow v1 v2 65 m (fun r8 m8 => ((r8 = 0 → (post 0 m8)) ∧
  (¬ r8 = 0 → (wp_X0_stopsInclude v3 m8 (fun r17 m17 => ((¬ r17 = 0 → (post 0 m17)) ∧
  (r17 = 0 → (post 1 m17))))))))
set_option maxRecDepth 100000 in
theorem pf_X1_comesPast {l : Launch} {x : WX} {G : GT} {post : Int → Mem → Prop} (X : Ax l x cX1_comesPast RX1 5 (rmd 1) 67 G) (hr : RZ cX1_comesPast post G) (v1 : Int) (v2 : Int) (v3 : Int) (m : Mem) (h : wp_X1_comesPast v1 v2 v3 m post) : G 0 [(0, (2, 63)), (1, (0, v1)), (2, (0, v2)), (3, (0, v3)), (4, (2, 6))] [] m := by
  unfold wp_X1_comesPast at h
  refine g_aload 4 (i := 4) X dX1_comesPast_0 rfl ?_
  refine g_iload_n 1 (i := 1) X dX1_comesPast_2 rfl rfl ?_
  refine g_iload_n 2 (i := 2) X dX1_comesPast_3 rfl rfl ?_
  refine g_aload_n 0 (i := 0) X dX1_comesPast_4 rfl rfl ?_
  refine g_getR X dX1_comesPast_5 fX1_17 ?_
  refine g_cVI (st := []) X dX1_comesPast_8 YX0_follow lX1_57 (by decide) (im_X0_follow l x _ _ _ _ _ h) rfl ⟨by decide, by decide⟩ rfl (Nat.le_of_ble_eq_true rfl) (fun r8 m8 h => ?_)
  refine g_if_eq X dX1_comesPast_11 (tgt := 27) (by decide) (fun hc => ?_) (fun hc => ?_)
  · have h := h.1 hc
    refine g_iconst X dX1_comesPast_27 (by decide) ?_
    exact hr _ _ _ _ _ dX1_comesPast_28 ⟨by decide, h⟩
  · have h := h.2 hc
    refine g_aload 4 (i := 4) X dX1_comesPast_14 rfl ?_
    refine g_iload_n 3 (i := 3) X dX1_comesPast_16 rfl rfl ?_
    refine g_cVI (st := []) X dX1_comesPast_17 YX0_stopsInclude lX1_61 (by decide) (im_X0_stopsInclude l x _ _ _ h) rfl ⟨by decide, by decide⟩ rfl (Nat.le_of_ble_eq_true rfl) (fun r17 m17 h => ?_)
    refine g_if_ne X dX1_comesPast_20 (tgt := 27) (by decide) (fun hc => ?_) (fun hc => ?_)
    · have h := h.1 hc
      refine g_iconst X dX1_comesPast_27 (by decide) ?_
      exact hr _ _ _ _ _ dX1_comesPast_28 ⟨by decide, h⟩
    · have h := h.2 hc
      refine g_iconst X dX1_comesPast_23 (by decide) ?_
      refine g_goto X dX1_comesPast_24 (tgt := 28) (by decide) ?_
      exact hr _ _ _ _ _ dX1_comesPast_28 ⟨by decide, h⟩
theorem im_X1_comesPast (l : Launch) (x : WX) (v1 : Int) (v2 : Int) (v3 : Int) (m : Mem) (post : Int → Mem → Prop) (h : wp_X1_comesPast v1 v2 v3 m post) : MetI l x 67 1 yX1_comesPast cX1_comesPast 5 .boolean [(2, 63), (0, v1), (0, v2), (0, v3), (2, 6)] m post := met_Z (by decide) (Nat.le_of_ble_eq_true rfl) (fun _ X hr => pf_X1_comesPast X hr v1 v2 v3 m h)
def wp_X1_allCome_49 (v1 : Int) (v2 : Int) (v4 : Int) (v5 : Int) (v6 : Int) (s0 : Int) (m : Mem) (K12 : Int → Int → Int → Int → Int → Mem → Prop) (post : Int → Mem → Prop) : Prop :=
  ((s0 = 0 → (K12 v1 v2 v4 v5 (w32 (v6 + 1)) m)) ∧
  (¬ s0 = 0 → (wp_X1_comesPast v5 v6 v1 m (fun r63 m63 => ((¬ r63 = 0 → (K12 v1 v2 v4 v5 (w32 (v6 + 1)) m63)) ∧
  (r63 = 0 → (post 0 m63)))))))
set_option maxRecDepth 100000 in
theorem pf_X1_allCome_49 {l : Launch} {x : WX} {G : GT} {post : Int → Mem → Prop} {K12 : Int → Int → Int → Int → Int → Mem → Prop} (X : Ax l x cX1_allCome RX1 8 (rmd 2) 67 G) (hr : RZ cX1_allCome post G) (hK12 : ∀ (v1 : Int) (v2 : Int) (v4 : Int) (v5 : Int) (v6 : Int) (m : Mem), K12 v1 v2 v4 v5 v6 m → G 12 [(0, (2, 63)), (1, (0, v1)), (2, (0, v2)), (3, (2, 6)), (4, (2, v4)), (5, (0, v5)), (6, (0, v6))] [] m) (v1 : Int) (v2 : Int) (v4 : Int) (v5 : Int) (v6 : Int) (s0 : Int) (m : Mem) (h : wp_X1_allCome_49 v1 v2 v4 v5 v6 s0 m K12 post) : G 49 [(0, (2, 63)), (1, (0, v1)), (2, (0, v2)), (3, (2, 6)), (4, (2, v4)), (5, (0, v5)), (6, (0, v6))] [(0, s0)] m := by
  unfold wp_X1_allCome_49 at h
  refine g_istore (i := 7) (lv' := [(7, (0, s0)), (0, (2, 63)), (1, (0, v1)), (2, (0, v2)), (3, (2, 6)), (4, (2, v4)), (5, (0, v5)), (6, (0, v6))]) X dX1_allCome_49 (by decide) rfl ?_
  refine g_iload 0 (i := 7) X dX1_allCome_51 rfl ?_
  refine g_if_eq X dX1_allCome_53 (tgt := 71) (by decide) (fun hc => ?_) (fun hc => ?_)
  · have h := h.1 hc
    refine g_iinc 7 (lv' := [(6, (0, w32 (v6 + 1))), (7, (0, s0)), (0, (2, 63)), (1, (0, v1)), (2, (0, v2)), (3, (2, 6)), (4, (2, v4)), (5, (0, v5))]) X dX1_allCome_71 rfl (by decide) rfl ?_
    refine g_goto X dX1_allCome_74 (tgt := 12) (by decide) ?_
    exact g_sub X [2, 3, 4, 5, 6, 7, 0] rfl (hK12 _ _ _ _ _ _ h)
  · have h := h.2 hc
    refine g_aload_n 1 (i := 0) X dX1_allCome_56 rfl rfl ?_
    refine g_iload 6 (i := 5) X dX1_allCome_57 rfl ?_
    refine g_iload 7 (i := 6) X dX1_allCome_59 rfl ?_
    refine g_iload_n 2 (i := 1) X dX1_allCome_61 rfl rfl ?_
    refine g_aload_n 4 (i := 3) X dX1_allCome_62 rfl rfl ?_
    refine g_cVI (st := []) X dX1_allCome_63 YX1_comesPast lX1_53 (by decide) (im_X1_comesPast l x _ _ _ _ _ h) rfl ⟨by decide, by decide⟩ rfl (Nat.le_of_ble_eq_true rfl) (fun r63 m63 h => ?_)
    refine g_if_ne X dX1_allCome_66 (tgt := 71) (by decide) (fun hc => ?_) (fun hc => ?_)
    · have h := h.1 hc
      refine g_iinc 7 (lv' := [(6, (0, w32 (v6 + 1))), (7, (0, s0)), (0, (2, 63)), (1, (0, v1)), (2, (0, v2)), (3, (2, 6)), (4, (2, v4)), (5, (0, v5))]) X dX1_allCome_71 rfl (by decide) rfl ?_
      refine g_goto X dX1_allCome_74 (tgt := 12) (by decide) ?_
      exact g_sub X [2, 3, 4, 5, 6, 7, 0] rfl (hK12 _ _ _ _ _ _ h)
    · have h := h.2 hc
      refine g_iconst X dX1_allCome_69 (by decide) ?_
      exact hr _ _ _ _ _ dX1_allCome_70 ⟨by decide, h⟩
def wp_X1_allCome_48 (v1 : Int) (v2 : Int) (v4 : Int) (v5 : Int) (v6 : Int) (m : Mem) (K12 : Int → Int → Int → Int → Int → Mem → Prop) (post : Int → Mem → Prop) : Prop :=
  wp_X1_allCome_49 v1 v2 v4 v5 v6 0 m (fun v1_1 v2_1 v4_1 v5_1 v6_1 m_1 => K12 v1_1 v2_1 v4_1 v5_1 v6_1 m_1) post
set_option maxRecDepth 100000 in
theorem pf_X1_allCome_48 {l : Launch} {x : WX} {G : GT} {post : Int → Mem → Prop} {K12 : Int → Int → Int → Int → Int → Mem → Prop} (X : Ax l x cX1_allCome RX1 8 (rmd 2) 67 G) (hr : RZ cX1_allCome post G) (hK12 : ∀ (v1 : Int) (v2 : Int) (v4 : Int) (v5 : Int) (v6 : Int) (m : Mem), K12 v1 v2 v4 v5 v6 m → G 12 [(0, (2, 63)), (1, (0, v1)), (2, (0, v2)), (3, (2, 6)), (4, (2, v4)), (5, (0, v5)), (6, (0, v6))] [] m) (v1 : Int) (v2 : Int) (v4 : Int) (v5 : Int) (v6 : Int) (m : Mem) (h : wp_X1_allCome_48 v1 v2 v4 v5 v6 m K12 post) : G 48 [(0, (2, 63)), (1, (0, v1)), (2, (0, v2)), (3, (2, 6)), (4, (2, v4)), (5, (0, v5)), (6, (0, v6))] [] m := by
  unfold wp_X1_allCome_48 at h
  refine g_iconst X dX1_allCome_48 (by decide) ?_
  refine g_sub X [0, 1, 2, 3, 4, 5, 6] rfl (pf_X1_allCome_49 X hr (fun v1_1 v2_1 v4_1 v5_1 v6_1 m_1 h => ?_) _ _ _ _ _ _ _ h)
  · exact g_sub X [0, 1, 2, 3, 4, 5, 6] rfl (hK12 _ _ _ _ _ _ h)
def wp_X1_allCome_12 (K3 : Int → Int → Int → Int → Mem → Prop) (post : Int → Mem → Prop) : Nat → Int → Int → Int → Int → Int → Mem → Prop
  | 0, _, _, _, _, _, _ => False
  | n + 1, v1, v2, v4, v5, v6, m =>
  ((v2 ≤ v6 → (K3 v1 v2 v4 (w32 (v5 + 1)) m)) ∧
  (¬ v2 ≤ v6 → (((v5 = v1 → (wp_X1_allCome_48 v1 v2 v4 v5 v6 m (fun v1_2 v2_2 v4_2 v5_2 v6_2 m_2 => wp_X1_allCome_12 K3 post n v1_2 v2_2 v4_2 v5_2 v6_2 m_2) post)) ∧
  (¬ v5 = v1 → (((v6 = v1 → (wp_X1_allCome_48 v1 v2 v4 v5 v6 m (fun v1_3 v2_3 v4_3 v5_3 v6_3 m_3 => wp_X1_allCome_12 K3 post n v1_3 v2_3 v4_3 v5_3 v6_3 m_3) post)) ∧
  (¬ v6 = v1 → ((0 ≤ w32 (w32 (v5 * 8) + v6) ∧ w32 (w32 (v5 * 8) + v6) < alen 67 v4) ∧ (((m v4 (w32 (w32 (v5 * 8) + v6)) ≤ 0 → (wp_X1_allCome_48 v1 v2 v4 v5 v6 m (fun v1_4 v2_4 v4_4 v5_4 v6_4 m_4 => wp_X1_allCome_12 K3 post n v1_4 v2_4 v4_4 v5_4 v6_4 m_4) post)) ∧
  (¬ m v4 (w32 (w32 (v5 * 8) + v6)) ≤ 0 → (wp_X1_allCome_49 v1 v2 v4 v5 v6 1 m (fun v1_5 v2_5 v4_5 v5_5 v6_5 m_5 => wp_X1_allCome_12 K3 post n v1_5 v2_5 v4_5 v5_5 v6_5 m_5) post)))))))))))))
set_option maxRecDepth 100000 in
theorem pf_X1_allCome_12 {l : Launch} {x : WX} {G : GT} {post : Int → Mem → Prop} {K3 : Int → Int → Int → Int → Mem → Prop} (X : Ax l x cX1_allCome RX1 8 (rmd 2) 67 G) (hr : RZ cX1_allCome post G) (hK3 : ∀ (v1 : Int) (v2 : Int) (v4 : Int) (v5 : Int) (m : Mem), K3 v1 v2 v4 v5 m → G 3 [(0, (2, 63)), (1, (0, v1)), (2, (0, v2)), (3, (2, 6)), (4, (2, v4)), (5, (0, v5))] [] m) : ∀ (n : Nat) (v1 : Int) (v2 : Int) (v4 : Int) (v5 : Int) (v6 : Int) (m : Mem) (_ : wp_X1_allCome_12 K3 post n v1 v2 v4 v5 v6 m), G 12 [(0, (2, 63)), (1, (0, v1)), (2, (0, v2)), (3, (2, 6)), (4, (2, v4)), (5, (0, v5)), (6, (0, v6))] [] m := by
  intro n
  induction n with
  | zero => intro v1 v2 v4 v5 v6 m h; exact absurd h id
  | succ n ih =>
  intro v1 v2 v4 v5 v6 m h
  unfold wp_X1_allCome_12 at h
  refine g_iload 6 (i := 6) X dX1_allCome_12 rfl ?_
  refine g_iload_n 2 (i := 2) X dX1_allCome_14 rfl rfl ?_
  refine g_icmp_ge X dX1_allCome_15 (tgt := 77) (by decide) (fun hc => ?_) (fun hc => ?_)
  · have h := h.1 hc
    refine g_iinc 5 (lv' := [(5, (0, w32 (v5 + 1))), (0, (2, 63)), (1, (0, v1)), (2, (0, v2)), (3, (2, 6)), (4, (2, v4)), (6, (0, v6))]) X dX1_allCome_77 rfl (by decide) rfl ?_
    refine g_goto X dX1_allCome_80 (tgt := 3) (by decide) ?_
    exact g_sub X [1, 2, 3, 4, 5, 0] rfl (hK3 _ _ _ _ _ h)
  · have h := h.2 hc
    refine g_iload 5 (i := 5) X dX1_allCome_18 rfl ?_
    refine g_iload_n 1 (i := 1) X dX1_allCome_20 rfl rfl ?_
    refine g_icmp_eq X dX1_allCome_21 (tgt := 48) (by decide) (fun hc => ?_) (fun hc => ?_)
    · have h := h.1 hc
      refine g_sub X [0, 1, 2, 3, 4, 5, 6] rfl (pf_X1_allCome_48 X hr (fun v1_2 v2_2 v4_2 v5_2 v6_2 m_2 h => ?_) _ _ _ _ _ _ h)
      · exact g_sub X [0, 1, 2, 3, 4, 5, 6] rfl (ih _ _ _ _ _ _ h)
    · have h := h.2 hc
      refine g_iload 6 (i := 6) X dX1_allCome_24 rfl ?_
      refine g_iload_n 1 (i := 1) X dX1_allCome_26 rfl rfl ?_
      refine g_icmp_eq X dX1_allCome_27 (tgt := 48) (by decide) (fun hc => ?_) (fun hc => ?_)
      · have h := h.1 hc
        refine g_sub X [0, 1, 2, 3, 4, 5, 6] rfl (pf_X1_allCome_48 X hr (fun v1_3 v2_3 v4_3 v5_3 v6_3 m_3 h => ?_) _ _ _ _ _ _ h)
        · exact g_sub X [0, 1, 2, 3, 4, 5, 6] rfl (ih _ _ _ _ _ _ h)
      · have h := h.2 hc
        refine g_aload 4 (i := 4) X dX1_allCome_30 rfl ?_
        refine g_iload 5 (i := 5) X dX1_allCome_32 rfl ?_
        refine g_bipush X dX1_allCome_34 (by decide) ?_
        refine g_imul X dX1_allCome_36 ?_
        refine g_iload 6 (i := 6) X dX1_allCome_37 rfl ?_
        refine g_iadd X dX1_allCome_39 ?_
        obtain ⟨hi, h⟩ := h
        refine g_iald X dX1_allCome_40 rfl hi ?_
        refine g_if_le X dX1_allCome_41 (tgt := 48) (by decide) (fun hc => ?_) (fun hc => ?_)
        · have h := h.1 hc
          refine g_sub X [0, 1, 2, 3, 4, 5, 6] rfl (pf_X1_allCome_48 X hr (fun v1_4 v2_4 v4_4 v5_4 v6_4 m_4 h => ?_) _ _ _ _ _ _ h)
          · exact g_sub X [0, 1, 2, 3, 4, 5, 6] rfl (ih _ _ _ _ _ _ h)
        · have h := h.2 hc
          refine g_iconst X dX1_allCome_44 (by decide) ?_
          refine g_goto X dX1_allCome_45 (tgt := 49) (by decide) ?_
          refine g_sub X [0, 1, 2, 3, 4, 5, 6] rfl (pf_X1_allCome_49 X hr (fun v1_5 v2_5 v4_5 v5_5 v6_5 m_5 h => ?_) _ _ _ _ _ _ _ h)
          · exact g_sub X [0, 1, 2, 3, 4, 5, 6] rfl (ih _ _ _ _ _ _ h)
def wp_X1_allCome_3  (post : Int → Mem → Prop) : Nat → Int → Int → Int → Int → Mem → Prop
  | 0, _, _, _, _, _ => False
  | n + 1, v1, v2, v4, v5, m =>
  ((v2 ≤ v5 → (post 1 m)) ∧
  (¬ v2 ≤ v5 → (∃ n_7 : Nat, wp_X1_allCome_12 (fun v1_6 v2_6 v4_6 v5_6 m_6 => wp_X1_allCome_3  post n v1_6 v2_6 v4_6 v5_6 m_6) post n_7 v1 v2 v4 v5 0 m)))
set_option maxRecDepth 100000 in
theorem pf_X1_allCome_3 {l : Launch} {x : WX} {G : GT} {post : Int → Mem → Prop}  (X : Ax l x cX1_allCome RX1 8 (rmd 2) 67 G) (hr : RZ cX1_allCome post G) : ∀ (n : Nat) (v1 : Int) (v2 : Int) (v4 : Int) (v5 : Int) (m : Mem) (_ : wp_X1_allCome_3  post n v1 v2 v4 v5 m), G 3 [(0, (2, 63)), (1, (0, v1)), (2, (0, v2)), (3, (2, 6)), (4, (2, v4)), (5, (0, v5))] [] m := by
  intro n
  induction n with
  | zero => intro v1 v2 v4 v5 m h; exact absurd h id
  | succ n ih =>
  intro v1 v2 v4 v5 m h
  unfold wp_X1_allCome_3 at h
  refine g_iload 5 (i := 5) X dX1_allCome_3 rfl ?_
  refine g_iload_n 2 (i := 2) X dX1_allCome_5 rfl rfl ?_
  refine g_icmp_ge X dX1_allCome_6 (tgt := 83) (by decide) (fun hc => ?_) (fun hc => ?_)
  · have h := h.1 hc
    refine g_iconst X dX1_allCome_83 (by decide) ?_
    exact hr _ _ _ _ _ dX1_allCome_84 ⟨by decide, h⟩
  · have h := h.2 hc
    refine g_iconst X dX1_allCome_9 (by decide) ?_
    refine g_istore (i := 6) (lv' := [(6, (0, 0)), (0, (2, 63)), (1, (0, v1)), (2, (0, v2)), (3, (2, 6)), (4, (2, v4)), (5, (0, v5))]) X dX1_allCome_10 (by decide) rfl ?_
    obtain ⟨n_7, h⟩ := h
    refine g_sub X [1, 2, 3, 4, 5, 6, 0] rfl (pf_X1_allCome_12 X hr (fun v1_6 v2_6 v4_6 v5_6 m_6 h => ?_) n_7 _ _ _ _ _ _ h)
    · exact g_sub X [0, 1, 2, 3, 4, 5] rfl (ih _ _ _ _ _ h)
def wp_X1_allCome (v1 : Int) (v2 : Int) (v4 : Int) (m : Mem) (post : Int → Mem → Prop) : Prop :=
  ∃ n_8 : Nat, wp_X1_allCome_3  post n_8 v1 v2 v4 0 m
set_option maxRecDepth 100000 in
theorem pf_X1_allCome {l : Launch} {x : WX} {G : GT} {post : Int → Mem → Prop} (X : Ax l x cX1_allCome RX1 8 (rmd 2) 67 G) (hr : RZ cX1_allCome post G) (v1 : Int) (v2 : Int) (v4 : Int) (m : Mem) (h : wp_X1_allCome v1 v2 v4 m post) : G 0 [(0, (2, 63)), (1, (0, v1)), (2, (0, v2)), (3, (2, 6)), (4, (2, v4))] [] m := by
  unfold wp_X1_allCome at h
  refine g_iconst X dX1_allCome_0 (by decide) ?_
  refine g_istore (i := 5) (lv' := [(5, (0, 0)), (0, (2, 63)), (1, (0, v1)), (2, (0, v2)), (3, (2, 6)), (4, (2, v4))]) X dX1_allCome_1 (by decide) rfl ?_
  obtain ⟨n_8, h⟩ := h
  refine g_sub X [1, 2, 3, 4, 5, 0] rfl (pf_X1_allCome_3 X hr  n_8 _ _ _ _ _ h)
theorem im_X1_allCome (l : Launch) (x : WX) (v1 : Int) (v2 : Int) (v4 : Int) (m : Mem) (post : Int → Mem → Prop) (h : wp_X1_allCome v1 v2 v4 m post) : MetI l x 67 2 yX1_allCome cX1_allCome 8 .boolean [(2, 63), (0, v1), (0, v2), (2, 6), (2, v4)] m post := met_Z (by decide) (Nat.le_of_ble_eq_true rfl) (fun _ X hr => pf_X1_allCome X hr v1 v2 v4 m h)
def wp_X1_seek_26 (K52 : Int → Int → Int → Int → Int → Mem → Prop) (post : Mem → Prop) : Nat → Int → Int → Int → Int → Int → Mem → Prop
  | 0, _, _, _, _, _, _ => False
  | n + 1, v1, v2, v4, v5, v6, m =>
  ((m 63 5 ≤ v6 → (K52 v1 v2 v4 v5 0 m)) ∧
  (¬ m 63 5 ≤ v6 → (∀ v5_41 : Int, v5_41 = w32 (v5 * w32 (v2 + 1)) → (wp_X1_seek_26 K52 post n v1 v2 v4 v5_41 (w32 (v6 + 1)) m))))
set_option maxRecDepth 100000 in
theorem pf_X1_seek_26 {l : Launch} {x : WX} {G : GT} {post : Mem → Prop} {K52 : Int → Int → Int → Int → Int → Mem → Prop} (X : Ax l x cX1_seek RX1 9 (rmd 3) 67 G) (hr : RV cX1_seek post G) (hK52 : ∀ (v1 : Int) (v2 : Int) (v4 : Int) (v5 : Int) (v6 : Int) (m : Mem), K52 v1 v2 v4 v5 v6 m → G 52 [(0, (2, 63)), (1, (0, v1)), (2, (0, v2)), (3, (2, 6)), (4, (2, v4)), (5, (0, v5)), (6, (0, v6))] [] m) : ∀ (n : Nat) (v1 : Int) (v2 : Int) (v4 : Int) (v5 : Int) (v6 : Int) (m : Mem) (_ : wp_X1_seek_26 K52 post n v1 v2 v4 v5 v6 m), G 26 [(0, (2, 63)), (1, (0, v1)), (2, (0, v2)), (3, (2, 6)), (4, (2, v4)), (5, (0, v5)), (6, (0, v6))] [] m := by
  intro n
  induction n with
  | zero => intro v1 v2 v4 v5 v6 m h; exact absurd h id
  | succ n ih =>
  intro v1 v2 v4 v5 v6 m h
  unfold wp_X1_seek_26 at h
  refine g_iload 6 (i := 6) X dX1_seek_26 rfl ?_
  refine g_aload_n 0 (i := 0) X dX1_seek_28 rfl rfl ?_
  refine g_getI X dX1_seek_29 fX1_23 ?_
  refine g_icmp_ge X dX1_seek_32 (tgt := 49) (by decide) (fun hc => ?_) (fun hc => ?_)
  · have h := h.1 hc
    refine g_iconst X dX1_seek_49 (by decide) ?_
    refine g_istore (i := 6) (lv' := [(6, (0, 0)), (0, (2, 63)), (1, (0, v1)), (2, (0, v2)), (3, (2, 6)), (4, (2, v4)), (5, (0, v5))]) X dX1_seek_50 (by decide) rfl ?_
    exact g_sub X [1, 2, 3, 4, 5, 6, 0] rfl (hK52 _ _ _ _ _ _ h)
  · have h := h.2 hc
    refine g_iload 5 (i := 5) X dX1_seek_35 rfl ?_
    refine g_iload_n 2 (i := 2) X dX1_seek_37 rfl rfl ?_
    refine g_iconst X dX1_seek_38 (by decide) ?_
    refine g_iadd X dX1_seek_39 ?_
    refine g_imul X dX1_seek_40 ?_
    refine g_nmI (fun v5_41 ev5_41 => ?_)
    have h := h v5_41 ev5_41
    refine g_istore (i := 5) (lv' := [(5, (0, v5_41)), (0, (2, 63)), (1, (0, v1)), (2, (0, v2)), (3, (2, 6)), (4, (2, v4)), (6, (0, v6))]) X dX1_seek_41 (by decide) rfl ?_
    refine g_iinc 6 (lv' := [(6, (0, w32 (v6 + 1))), (5, (0, v5_41)), (0, (2, 63)), (1, (0, v1)), (2, (0, v2)), (3, (2, 6)), (4, (2, v4))]) X dX1_seek_43 rfl (by decide) rfl ?_
    refine g_goto X dX1_seek_46 (tgt := 26) (by decide) ?_
    exact g_sub X [2, 3, 4, 5, 6, 1, 0] rfl (ih _ _ _ _ _ _ h)
def wp_X1_seek_105 (v1 : Int) (v2 : Int) (v4 : Int) (v5 : Int) (v6 : Int) (v7 : Int) (s0 : Int) (m : Mem) (K52 : Int → Int → Int → Int → Int → Mem → Prop) (post : Mem → Prop) : Prop :=
  ((s0 = 0 → (K52 v1 v2 v4 v5 (w32 (v6 + 1)) m)) ∧
  (¬ s0 = 0 → (wp_X1_allCome v1 v2 v4 m (fun r118 m118 => ((r118 = 0 → (K52 v1 v2 v4 v5 (w32 (v6 + 1)) m118)) ∧
  (¬ r118 = 0 → (∀ m127 : Mem, m127 = mset m118 63 1 v7 → (((0 : Int) ≤ 0 ∧ (0 : Int) ≤ 0 ∧ (0 : Int) ≤ 20 ∧ (0 : Int) + 20 ≤ 20 ∧ (0 : Int) + 20 ≤ 20) ∧ (∀ m142 : Mem, m142 = mcpy m127 65 0 64 0 20 → (K52 v1 v2 v4 v5 (w32 (v6 + 1)) m142))))))))))
set_option maxRecDepth 100000 in
theorem pf_X1_seek_105 {l : Launch} {x : WX} {G : GT} {post : Mem → Prop} {K52 : Int → Int → Int → Int → Int → Mem → Prop} (X : Ax l x cX1_seek RX1 9 (rmd 3) 67 G) (hr : RV cX1_seek post G) (hK52 : ∀ (v1 : Int) (v2 : Int) (v4 : Int) (v5 : Int) (v6 : Int) (m : Mem), K52 v1 v2 v4 v5 v6 m → G 52 [(0, (2, 63)), (1, (0, v1)), (2, (0, v2)), (3, (2, 6)), (4, (2, v4)), (5, (0, v5)), (6, (0, v6))] [] m) (v1 : Int) (v2 : Int) (v4 : Int) (v5 : Int) (v6 : Int) (v7 : Int) (s0 : Int) (m : Mem) (h : wp_X1_seek_105 v1 v2 v4 v5 v6 v7 s0 m K52 post) : G 105 [(0, (2, 63)), (1, (0, v1)), (2, (0, v2)), (3, (2, 6)), (4, (2, v4)), (5, (0, v5)), (6, (0, v6)), (7, (0, v7))] [(0, s0)] m := by
  unfold wp_X1_seek_105 at h
  refine g_istore (i := 8) (lv' := [(8, (0, s0)), (0, (2, 63)), (1, (0, v1)), (2, (0, v2)), (3, (2, 6)), (4, (2, v4)), (5, (0, v5)), (6, (0, v6)), (7, (0, v7))]) X dX1_seek_105 (by decide) rfl ?_
  refine g_iload 0 (i := 8) X dX1_seek_107 rfl ?_
  refine g_if_eq X dX1_seek_109 (tgt := 145) (by decide) (fun hc => ?_) (fun hc => ?_)
  · have h := h.1 hc
    refine g_iinc 7 (lv' := [(6, (0, w32 (v6 + 1))), (8, (0, s0)), (0, (2, 63)), (1, (0, v1)), (2, (0, v2)), (3, (2, 6)), (4, (2, v4)), (5, (0, v5)), (7, (0, v7))]) X dX1_seek_145 rfl (by decide) rfl ?_
    refine g_goto X dX1_seek_148 (tgt := 52) (by decide) ?_
    exact g_sub X [2, 3, 4, 5, 6, 7, 0] rfl (hK52 _ _ _ _ _ _ h)
  · have h := h.2 hc
    refine g_aload_n 1 (i := 0) X dX1_seek_112 rfl rfl ?_
    refine g_iload_n 2 (i := 1) X dX1_seek_113 rfl rfl ?_
    refine g_iload_n 3 (i := 2) X dX1_seek_114 rfl rfl ?_
    refine g_aload_n 4 (i := 3) X dX1_seek_115 rfl rfl ?_
    refine g_aload 5 (i := 4) X dX1_seek_116 rfl ?_
    refine g_cVI (st := []) X dX1_seek_118 YX1_allCome lX1_46 (by decide) (im_X1_allCome l x _ _ _ _ _ h) rfl ⟨by decide, by decide⟩ rfl (Nat.le_of_ble_eq_true rfl) (fun r118 m118 h => ?_)
    refine g_if_eq X dX1_seek_121 (tgt := 145) (by decide) (fun hc => ?_) (fun hc => ?_)
    · have h := h.1 hc
      refine g_iinc 7 (lv' := [(6, (0, w32 (v6 + 1))), (8, (0, s0)), (0, (2, 63)), (1, (0, v1)), (2, (0, v2)), (3, (2, 6)), (4, (2, v4)), (5, (0, v5)), (7, (0, v7))]) X dX1_seek_145 rfl (by decide) rfl ?_
      refine g_goto X dX1_seek_148 (tgt := 52) (by decide) ?_
      exact g_sub X [2, 3, 4, 5, 6, 7, 0] rfl (hK52 _ _ _ _ _ _ h)
    · have h := h.2 hc
      refine g_aload_n 1 (i := 0) X dX1_seek_124 rfl rfl ?_
      refine g_iload 8 (i := 7) X dX1_seek_125 rfl ?_
      refine g_putI X dX1_seek_127 pX1_33 (fun m127 em127 => ?_)
      have h := h m127 em127
      refine g_aload_n 1 (i := 0) X dX1_seek_130 rfl rfl ?_
      refine g_getR X dX1_seek_131 fX1_17 ?_
      refine g_iconst X dX1_seek_134 (by decide) ?_
      refine g_aload_n 1 (i := 0) X dX1_seek_135 rfl rfl ?_
      refine g_getR X dX1_seek_136 fX1_11 ?_
      refine g_iconst X dX1_seek_139 (by decide) ?_
      refine g_bipush X dX1_seek_140 (by decide) ?_
      obtain ⟨hi, h⟩ := h
      refine g_copy X dX1_seek_142 lX1_36 ac_native ac_static ac_init (by decide) (Nat.le_of_ble_eq_true rfl) rfl rfl (by decide) (by decide) hi (fun m142 em142 => ?_)
      have h := h m142 em142
      refine g_iinc 7 (lv' := [(6, (0, w32 (v6 + 1))), (8, (0, s0)), (0, (2, 63)), (1, (0, v1)), (2, (0, v2)), (3, (2, 6)), (4, (2, v4)), (5, (0, v5)), (7, (0, v7))]) X dX1_seek_145 rfl (by decide) rfl ?_
      refine g_goto X dX1_seek_148 (tgt := 52) (by decide) ?_
      exact g_sub X [2, 3, 4, 5, 6, 7, 0] rfl (hK52 _ _ _ _ _ _ h)
def wp_X1_seek_104 (v1 : Int) (v2 : Int) (v4 : Int) (v5 : Int) (v6 : Int) (v7 : Int) (m : Mem) (K52 : Int → Int → Int → Int → Int → Mem → Prop) (post : Mem → Prop) : Prop :=
  wp_X1_seek_105 v1 v2 v4 v5 v6 v7 0 m (fun v1_3 v2_3 v4_3 v5_3 v6_3 m_3 => K52 v1_3 v2_3 v4_3 v5_3 v6_3 m_3) post
set_option maxRecDepth 100000 in
theorem pf_X1_seek_104 {l : Launch} {x : WX} {G : GT} {post : Mem → Prop} {K52 : Int → Int → Int → Int → Int → Mem → Prop} (X : Ax l x cX1_seek RX1 9 (rmd 3) 67 G) (hr : RV cX1_seek post G) (hK52 : ∀ (v1 : Int) (v2 : Int) (v4 : Int) (v5 : Int) (v6 : Int) (m : Mem), K52 v1 v2 v4 v5 v6 m → G 52 [(0, (2, 63)), (1, (0, v1)), (2, (0, v2)), (3, (2, 6)), (4, (2, v4)), (5, (0, v5)), (6, (0, v6))] [] m) (v1 : Int) (v2 : Int) (v4 : Int) (v5 : Int) (v6 : Int) (v7 : Int) (m : Mem) (h : wp_X1_seek_104 v1 v2 v4 v5 v6 v7 m K52 post) : G 104 [(0, (2, 63)), (1, (0, v1)), (2, (0, v2)), (3, (2, 6)), (4, (2, v4)), (5, (0, v5)), (6, (0, v6)), (7, (0, v7))] [] m := by
  unfold wp_X1_seek_104 at h
  refine g_iconst X dX1_seek_104 (by decide) ?_
  refine g_sub X [0, 1, 2, 3, 4, 5, 6, 7] rfl (pf_X1_seek_105 X hr (fun v1_3 v2_3 v4_3 v5_3 v6_3 m_3 h => ?_) _ _ _ _ _ _ _ _ h)
  · exact g_sub X [0, 1, 2, 3, 4, 5, 6] rfl (hK52 _ _ _ _ _ _ h)
def wp_X1_seek_100 (v1 : Int) (v2 : Int) (v4 : Int) (v5 : Int) (v6 : Int) (v7 : Int) (m : Mem) (K52 : Int → Int → Int → Int → Int → Mem → Prop) (post : Mem → Prop) : Prop :=
  wp_X1_seek_105 v1 v2 v4 v5 v6 v7 1 m (fun v1_5 v2_5 v4_5 v5_5 v6_5 m_5 => K52 v1_5 v2_5 v4_5 v5_5 v6_5 m_5) post
set_option maxRecDepth 100000 in
theorem pf_X1_seek_100 {l : Launch} {x : WX} {G : GT} {post : Mem → Prop} {K52 : Int → Int → Int → Int → Int → Mem → Prop} (X : Ax l x cX1_seek RX1 9 (rmd 3) 67 G) (hr : RV cX1_seek post G) (hK52 : ∀ (v1 : Int) (v2 : Int) (v4 : Int) (v5 : Int) (v6 : Int) (m : Mem), K52 v1 v2 v4 v5 v6 m → G 52 [(0, (2, 63)), (1, (0, v1)), (2, (0, v2)), (3, (2, 6)), (4, (2, v4)), (5, (0, v5)), (6, (0, v6))] [] m) (v1 : Int) (v2 : Int) (v4 : Int) (v5 : Int) (v6 : Int) (v7 : Int) (m : Mem) (h : wp_X1_seek_100 v1 v2 v4 v5 v6 v7 m K52 post) : G 100 [(0, (2, 63)), (1, (0, v1)), (2, (0, v2)), (3, (2, 6)), (4, (2, v4)), (5, (0, v5)), (6, (0, v6)), (7, (0, v7))] [] m := by
  unfold wp_X1_seek_100 at h
  refine g_iconst X dX1_seek_100 (by decide) ?_
  refine g_goto X dX1_seek_101 (tgt := 105) (by decide) ?_
  refine g_sub X [0, 1, 2, 3, 4, 5, 6, 7] rfl (pf_X1_seek_105 X hr (fun v1_5 v2_5 v4_5 v5_5 v6_5 m_5 h => ?_) _ _ _ _ _ _ _ _ h)
  · exact g_sub X [0, 1, 2, 3, 4, 5, 6] rfl (hK52 _ _ _ _ _ _ h)
def wp_X1_seek_52  (post : Mem → Prop) : Nat → Int → Int → Int → Int → Int → Mem → Prop
  | 0, _, _, _, _, _, _ => False
  | n + 1, v1, v2, v4, v5, v6, m =>
  ((v5 ≤ v6 → (post m)) ∧
  (¬ v5 ≤ v6 → (((m 63 1 = 0 → (post m)) ∧
  (¬ m 63 1 = 0 → (wp_X1_turn v6 v1 v2 m (fun r72 m72 => ((r72 = (-1) → (wp_X1_seek_104 v1 v2 v4 v5 v6 r72 m72 (fun v1_4 v2_4 v4_4 v5_4 v6_4 m_4 => wp_X1_seek_52  post n v1_4 v2_4 v4_4 v5_4 v6_4 m_4) post)) ∧
  (¬ r72 = (-1) → (((m72 63 1 = (-1) → (wp_X1_seek_100 v1 v2 v4 v5 v6 r72 m72 (fun v1_6 v2_6 v4_6 v5_6 v6_6 m_6 => wp_X1_seek_52  post n v1_6 v2_6 v4_6 v5_6 v6_6 m_6) post)) ∧
  (¬ m72 63 1 = (-1) → (((m72 63 1 ≤ r72 → (wp_X1_seek_104 v1 v2 v4 v5 v6 r72 m72 (fun v1_7 v2_7 v4_7 v5_7 v6_7 m_7 => wp_X1_seek_52  post n v1_7 v2_7 v4_7 v5_7 v6_7 m_7) post)) ∧
  (¬ m72 63 1 ≤ r72 → (wp_X1_seek_100 v1 v2 v4 v5 v6 r72 m72 (fun v1_8 v2_8 v4_8 v5_8 v6_8 m_8 => wp_X1_seek_52  post n v1_8 v2_8 v4_8 v5_8 v6_8 m_8) post))))))))))))))))
set_option maxRecDepth 100000 in
theorem pf_X1_seek_52 {l : Launch} {x : WX} {G : GT} {post : Mem → Prop}  (X : Ax l x cX1_seek RX1 9 (rmd 3) 67 G) (hr : RV cX1_seek post G) : ∀ (n : Nat) (v1 : Int) (v2 : Int) (v4 : Int) (v5 : Int) (v6 : Int) (m : Mem) (_ : wp_X1_seek_52  post n v1 v2 v4 v5 v6 m), G 52 [(0, (2, 63)), (1, (0, v1)), (2, (0, v2)), (3, (2, 6)), (4, (2, v4)), (5, (0, v5)), (6, (0, v6))] [] m := by
  intro n
  induction n with
  | zero => intro v1 v2 v4 v5 v6 m h; exact absurd h id
  | succ n ih =>
  intro v1 v2 v4 v5 v6 m h
  unfold wp_X1_seek_52 at h
  refine g_iload 6 (i := 6) X dX1_seek_52 rfl ?_
  refine g_iload 5 (i := 5) X dX1_seek_54 rfl ?_
  refine g_icmp_ge X dX1_seek_56 (tgt := 151) (by decide) (fun hc => ?_) (fun hc => ?_)
  · have h := h.1 hc
    exact hr _ _ _ _ dX1_seek_151 h
  · have h := h.2 hc
    refine g_aload_n 0 (i := 0) X dX1_seek_59 rfl rfl ?_
    refine g_getI X dX1_seek_60 fX1_33 ?_
    refine g_if_eq X dX1_seek_63 (tgt := 151) (by decide) (fun hc => ?_) (fun hc => ?_)
    · have h := h.1 hc
      exact hr _ _ _ _ dX1_seek_151 h
    · have h := h.2 hc
      refine g_aload_n 0 (i := 0) X dX1_seek_66 rfl rfl ?_
      refine g_iload 6 (i := 6) X dX1_seek_67 rfl ?_
      refine g_iload_n 1 (i := 1) X dX1_seek_69 rfl rfl ?_
      refine g_iload_n 2 (i := 2) X dX1_seek_70 rfl rfl ?_
      refine g_aload_n 3 (i := 3) X dX1_seek_71 rfl rfl ?_
      refine g_cVI (st := []) X dX1_seek_72 YX1_turn lX1_42 (by decide) (im_X1_turn l x _ _ _ _ _ h) rfl ⟨by decide, by decide⟩ rfl (Nat.le_of_ble_eq_true rfl) (fun r72 m72 h => ?_)
      refine g_istore (i := 7) (lv' := [(7, (0, r72)), (0, (2, 63)), (1, (0, v1)), (2, (0, v2)), (3, (2, 6)), (4, (2, v4)), (5, (0, v5)), (6, (0, v6))]) X dX1_seek_75 (by decide) rfl ?_
      refine g_iload 0 (i := 7) X dX1_seek_77 rfl ?_
      refine g_iconst X dX1_seek_79 (by decide) ?_
      refine g_icmp_eq X dX1_seek_80 (tgt := 104) (by decide) (fun hc => ?_) (fun hc => ?_)
      · have h := h.1 hc
        refine g_sub X [1, 2, 3, 4, 5, 6, 7, 0] rfl (pf_X1_seek_104 X hr (fun v1_4 v2_4 v4_4 v5_4 v6_4 m_4 h => ?_) _ _ _ _ _ _ _ h)
        · exact g_sub X [0, 1, 2, 3, 4, 5, 6] rfl (ih _ _ _ _ _ _ h)
      · have h := h.2 hc
        refine g_aload_n 1 (i := 0) X dX1_seek_83 rfl rfl ?_
        refine g_getI X dX1_seek_84 fX1_33 ?_
        refine g_iconst X dX1_seek_87 (by decide) ?_
        refine g_icmp_eq X dX1_seek_88 (tgt := 100) (by decide) (fun hc => ?_) (fun hc => ?_)
        · have h := h.1 hc
          refine g_sub X [1, 2, 3, 4, 5, 6, 7, 0] rfl (pf_X1_seek_100 X hr (fun v1_6 v2_6 v4_6 v5_6 v6_6 m_6 h => ?_) _ _ _ _ _ _ _ h)
          · exact g_sub X [0, 1, 2, 3, 4, 5, 6] rfl (ih _ _ _ _ _ _ h)
        · have h := h.2 hc
          refine g_iload 0 (i := 7) X dX1_seek_91 rfl ?_
          refine g_aload_n 1 (i := 0) X dX1_seek_93 rfl rfl ?_
          refine g_getI X dX1_seek_94 fX1_33 ?_
          refine g_icmp_ge X dX1_seek_97 (tgt := 104) (by decide) (fun hc => ?_) (fun hc => ?_)
          · have h := h.1 hc
            refine g_sub X [1, 2, 3, 4, 5, 6, 7, 0] rfl (pf_X1_seek_104 X hr (fun v1_7 v2_7 v4_7 v5_7 v6_7 m_7 h => ?_) _ _ _ _ _ _ _ h)
            · exact g_sub X [0, 1, 2, 3, 4, 5, 6] rfl (ih _ _ _ _ _ _ h)
          · have h := h.2 hc
            refine g_sub X [1, 2, 3, 4, 5, 6, 7, 0] rfl (pf_X1_seek_100 X hr (fun v1_8 v2_8 v4_8 v5_8 v6_8 m_8 h => ?_) _ _ _ _ _ _ _ h)
            · exact g_sub X [0, 1, 2, 3, 4, 5, 6] rfl (ih _ _ _ _ _ _ h)
def wp_X1_seek (v1 : Int) (v2 : Int) (v4 : Int) (m : Mem) (post : Mem → Prop) : Prop :=
  ∀ m2 : Mem, m2 = mset m 63 1 (-1) → (((0 : Int) ≤ 0 ∧ (0 : Int) ≤ 0 ∧ (0 : Int) ≤ 20 ∧ (0 : Int) + 20 ≤ 20 ∧ (0 : Int) + 20 ≤ 20) ∧ (∀ m17 : Mem, m17 = mcpy m2 8 0 65 0 20 → (∃ n_10 : Nat, wp_X1_seek_26 (fun v1_2 v2_2 v4_2 v5_2 v6_2 m_2 => ∃ n_9 : Nat, wp_X1_seek_52  post n_9 v1_2 v2_2 v4_2 v5_2 v6_2 m_2) post n_10 v1 v2 v4 1 0 m17)))
set_option maxRecDepth 100000 in
theorem pf_X1_seek {l : Launch} {x : WX} {G : GT} {post : Mem → Prop} (X : Ax l x cX1_seek RX1 9 (rmd 3) 67 G) (hr : RV cX1_seek post G) (v1 : Int) (v2 : Int) (v4 : Int) (m : Mem) (h : wp_X1_seek v1 v2 v4 m post) : G 0 [(0, (2, 63)), (1, (0, v1)), (2, (0, v2)), (3, (2, 6)), (4, (2, v4))] [] m := by
  unfold wp_X1_seek at h
  refine g_aload_n 0 (i := 0) X dX1_seek_0 rfl rfl ?_
  refine g_iconst X dX1_seek_1 (by decide) ?_
  refine g_putI X dX1_seek_2 pX1_33 (fun m2 em2 => ?_)
  have h := h m2 em2
  refine g_aload_n 3 (i := 3) X dX1_seek_5 rfl rfl ?_
  refine g_getR X dX1_seek_6 fX1_30 ?_
  refine g_iconst X dX1_seek_9 (by decide) ?_
  refine g_aload_n 0 (i := 0) X dX1_seek_10 rfl rfl ?_
  refine g_getR X dX1_seek_11 fX1_17 ?_
  refine g_iconst X dX1_seek_14 (by decide) ?_
  refine g_bipush X dX1_seek_15 (by decide) ?_
  obtain ⟨hi, h⟩ := h
  refine g_copy X dX1_seek_17 lX1_36 ac_native ac_static ac_init (by decide) (Nat.le_of_ble_eq_true rfl) rfl rfl (by decide) (by decide) hi (fun m17 em17 => ?_)
  have h := h m17 em17
  refine g_iconst X dX1_seek_20 (by decide) ?_
  refine g_istore (i := 5) (lv' := [(5, (0, 1)), (0, (2, 63)), (1, (0, v1)), (2, (0, v2)), (3, (2, 6)), (4, (2, v4))]) X dX1_seek_21 (by decide) rfl ?_
  refine g_iconst X dX1_seek_23 (by decide) ?_
  refine g_istore (i := 6) (lv' := [(6, (0, 0)), (5, (0, 1)), (0, (2, 63)), (1, (0, v1)), (2, (0, v2)), (3, (2, 6)), (4, (2, v4))]) X dX1_seek_24 (by decide) rfl ?_
  obtain ⟨n_10, h⟩ := h
  refine g_sub X [2, 3, 4, 5, 6, 1, 0] rfl (pf_X1_seek_26 X hr (fun v1_2 v2_2 v4_2 v5_2 v6_2 m_2 h => ?_) n_10 _ _ _ _ _ _ h)
  · obtain ⟨n_9, h⟩ := h
    refine g_sub X [0, 1, 2, 3, 4, 5, 6] rfl (pf_X1_seek_52 X hr  n_9 _ _ _ _ _ _ h)
theorem im_X1_seek (l : Launch) (x : WX) (v1 : Int) (v2 : Int) (v4 : Int) (m : Mem) (post : Mem → Prop) (h : wp_X1_seek v1 v2 v4 m post) : MetV l x 67 3 yX1_seek cX1_seek 9 [(2, 63), (0, v1), (0, v2), (2, 6), (2, v4)] m post := met_V (by decide) (Nat.le_of_ble_eq_true rfl) (fun _ X hr => pf_X1_seek X hr v1 v2 v4 m h)
def wp_X2_begin  (m : Mem) (post : Mem → Prop) : Prop :=
  ∀ m2 : Mem, m2 = mset m 47 0 5 → (wp_J7_fill_53178 48 0 m2 (fun m10 => post m10))
set_option maxRecDepth 100000 in
theorem pf_X2_begin {l : Launch} {x : WX} {G : GT} {post : Mem → Prop} (X : Ax l x cX2_begin RX2 1 (rmd 1) 67 G) (hr : RV cX2_begin post G)  (m : Mem) (h : wp_X2_begin  m post) : G 0 [(0, (2, 47))] [] m := by
  unfold wp_X2_begin at h
  refine g_aload_n 0 (i := 0) X dX2_begin_0 rfl rfl ?_
  refine g_iconst X dX2_begin_1 (by decide) ?_
  refine g_putI X dX2_begin_2 pX2_45 (fun m2 em2 => ?_)
  have h := h m2 em2
  refine g_aload_n 0 (i := 0) X dX2_begin_5 rfl rfl ?_
  refine g_getR X dX2_begin_6 fX2_11 ?_
  refine g_iconst X dX2_begin_9 (by decide) ?_
  refine g_cSV (st := []) X dX2_begin_10 YJ7_fill_53178 lX2_49 (by decide) (im_J7_fill_53178 l x _ _ _ _ h) rfl ⟨by decide, by decide⟩ rfl (Nat.le_of_ble_eq_true rfl) (fun m10 h => ?_)
  exact hr _ _ _ _ dX2_begin_13 h
theorem im_X2_begin (l : Launch) (x : WX)  (m : Mem) (post : Mem → Prop) (h : wp_X2_begin  m post) : MetV l x 67 1 yX2_begin cX2_begin 1 [(2, 47)] m post := met_V (by decide) (Nat.le_of_ble_eq_true rfl) (fun _ X hr => pf_X2_begin X hr  m h)
def wp_X2_gather_12  (post : Mem → Prop) : Nat → Int → Int → Mem → Prop
  | 0, _, _, _ => False
  | n + 1, v1, v2, m =>
  ((w32 (v1 * 3) ≤ v2 → (post m)) ∧
  (¬ w32 (v1 * 3) ≤ v2 → ((0 ≤ v2 ∧ v2 < 24) ∧ (((m 48 v2 ≤ 0 → ((0 ≤ v2 ∧ v2 < 24) ∧ (((0 ≤ m 48 v2 → (wp_X2_gather_12  post n v1 (w32 (v2 + 1)) m)) ∧
  (¬ 0 ≤ m 48 v2 → ((0 ≤ m 47 3 ∧ m 47 3 < 24) ∧ (∀ m84 : Mem, m84 = mset m 50 (m 47 3) v2 → ((0 ≤ v2 ∧ v2 < 24) ∧ ((0 ≤ m84 47 3 ∧ m84 47 3 < 24) ∧ (∀ m100 : Mem, m100 = mset m84 52 (m84 47 3) (w32 (-(m84 48 v2))) → (∀ m108 : Mem, m108 = mset m100 47 3 (w32 (m100 47 3 + 1)) → (wp_X2_gather_12  post n v1 (w32 (v2 + 1)) m108)))))))))))) ∧
  (¬ m 48 v2 ≤ 0 → ((0 ≤ m 47 2 ∧ m 47 2 < 24) ∧ (∀ m37 : Mem, m37 = mset m 49 (m 47 2) v2 → ((0 ≤ v2 ∧ v2 < 24) ∧ ((0 ≤ m37 47 2 ∧ m37 47 2 < 24) ∧ (∀ m52 : Mem, m52 = mset m37 51 (m37 47 2) (m37 48 v2) → (∀ m60 : Mem, m60 = mset m52 47 2 (w32 (m52 47 2 + 1)) → (wp_X2_gather_12  post n v1 (w32 (v2 + 1)) m60)))))))))))))
set_option maxRecDepth 100000 in
theorem pf_X2_gather_12 {l : Launch} {x : WX} {G : GT} {post : Mem → Prop}  (X : Ax l x cX2_gather RX2 3 (rmd 0) 67 G) (hr : RV cX2_gather post G) : ∀ (n : Nat) (v1 : Int) (v2 : Int) (m : Mem) (_ : wp_X2_gather_12  post n v1 v2 m), G 12 [(0, (2, 47)), (1, (0, v1)), (2, (0, v2))] [] m := by
  intro n
  induction n with
  | zero => intro v1 v2 m h; exact absurd h id
  | succ n ih =>
  intro v1 v2 m h
  unfold wp_X2_gather_12 at h
  refine g_iload_n 2 (i := 2) X dX2_gather_12 rfl rfl ?_
  refine g_iload_n 1 (i := 1) X dX2_gather_13 rfl rfl ?_
  refine g_iconst X dX2_gather_14 (by decide) ?_
  refine g_imul X dX2_gather_15 ?_
  refine g_icmp_ge X dX2_gather_16 (tgt := 117) (by decide) (fun hc => ?_) (fun hc => ?_)
  · have h := h.1 hc
    exact hr _ _ _ _ dX2_gather_117 h
  · have h := h.2 hc
    refine g_aload_n 0 (i := 0) X dX2_gather_19 rfl rfl ?_
    refine g_getR X dX2_gather_20 fX2_11 ?_
    refine g_iload_n 2 (i := 2) X dX2_gather_23 rfl rfl ?_
    obtain ⟨hi, h⟩ := h
    refine g_iald X dX2_gather_24 rfl hi ?_
    refine g_if_le X dX2_gather_25 (tgt := 66) (by decide) (fun hc => ?_) (fun hc => ?_)
    · have h := h.1 hc
      refine g_aload_n 0 (i := 0) X dX2_gather_66 rfl rfl ?_
      refine g_getR X dX2_gather_67 fX2_11 ?_
      refine g_iload_n 2 (i := 2) X dX2_gather_70 rfl rfl ?_
      obtain ⟨hi, h⟩ := h
      refine g_iald X dX2_gather_71 rfl hi ?_
      refine g_if_ge X dX2_gather_72 (tgt := 111) (by decide) (fun hc => ?_) (fun hc => ?_)
      · have h := h.1 hc
        refine g_iinc 2 (lv' := [(2, (0, w32 (v2 + 1))), (0, (2, 47)), (1, (0, v1))]) X dX2_gather_111 rfl (by decide) rfl ?_
        refine g_goto X dX2_gather_114 (tgt := 12) (by decide) ?_
        exact g_sub X [1, 2, 0] rfl (ih _ _ _ h)
      · have h := h.2 hc
        refine g_aload_n 0 (i := 0) X dX2_gather_75 rfl rfl ?_
        refine g_getR X dX2_gather_76 fX2_18 ?_
        refine g_aload_n 0 (i := 0) X dX2_gather_79 rfl rfl ?_
        refine g_getI X dX2_gather_80 fX2_93 ?_
        refine g_iload_n 2 (i := 2) X dX2_gather_83 rfl rfl ?_
        obtain ⟨hi, h⟩ := h
        refine g_iast X dX2_gather_84 rfl hi (fun m84 em84 => ?_)
        have h := h m84 em84
        refine g_aload_n 0 (i := 0) X dX2_gather_85 rfl rfl ?_
        refine g_getR X dX2_gather_86 fX2_24 ?_
        refine g_aload_n 0 (i := 0) X dX2_gather_89 rfl rfl ?_
        refine g_getI X dX2_gather_90 fX2_93 ?_
        refine g_aload_n 0 (i := 0) X dX2_gather_93 rfl rfl ?_
        refine g_getR X dX2_gather_94 fX2_11 ?_
        refine g_iload_n 2 (i := 2) X dX2_gather_97 rfl rfl ?_
        obtain ⟨hi, h⟩ := h
        refine g_iald X dX2_gather_98 rfl hi ?_
        refine g_ineg X dX2_gather_99 ?_
        obtain ⟨hi, h⟩ := h
        refine g_iast X dX2_gather_100 rfl hi (fun m100 em100 => ?_)
        have h := h m100 em100
        refine g_aload_n 0 (i := 0) X dX2_gather_101 rfl rfl ?_
        refine g_dup X dX2_gather_102 rfl ?_
        refine g_getI X dX2_gather_103 fX2_93 ?_
        refine g_iconst X dX2_gather_106 (by decide) ?_
        refine g_iadd X dX2_gather_107 ?_
        refine g_putI X dX2_gather_108 pX2_93 (fun m108 em108 => ?_)
        have h := h m108 em108
        refine g_iinc 2 (lv' := [(2, (0, w32 (v2 + 1))), (0, (2, 47)), (1, (0, v1))]) X dX2_gather_111 rfl (by decide) rfl ?_
        refine g_goto X dX2_gather_114 (tgt := 12) (by decide) ?_
        exact g_sub X [1, 2, 0] rfl (ih _ _ _ h)
    · have h := h.2 hc
      refine g_aload_n 0 (i := 0) X dX2_gather_28 rfl rfl ?_
      refine g_getR X dX2_gather_29 fX2_15 ?_
      refine g_aload_n 0 (i := 0) X dX2_gather_32 rfl rfl ?_
      refine g_getI X dX2_gather_33 fX2_90 ?_
      refine g_iload_n 2 (i := 2) X dX2_gather_36 rfl rfl ?_
      obtain ⟨hi, h⟩ := h
      refine g_iast X dX2_gather_37 rfl hi (fun m37 em37 => ?_)
      have h := h m37 em37
      refine g_aload_n 0 (i := 0) X dX2_gather_38 rfl rfl ?_
      refine g_getR X dX2_gather_39 fX2_21 ?_
      refine g_aload_n 0 (i := 0) X dX2_gather_42 rfl rfl ?_
      refine g_getI X dX2_gather_43 fX2_90 ?_
      refine g_aload_n 0 (i := 0) X dX2_gather_46 rfl rfl ?_
      refine g_getR X dX2_gather_47 fX2_11 ?_
      refine g_iload_n 2 (i := 2) X dX2_gather_50 rfl rfl ?_
      obtain ⟨hi, h⟩ := h
      refine g_iald X dX2_gather_51 rfl hi ?_
      obtain ⟨hi, h⟩ := h
      refine g_iast X dX2_gather_52 rfl hi (fun m52 em52 => ?_)
      have h := h m52 em52
      refine g_aload_n 0 (i := 0) X dX2_gather_53 rfl rfl ?_
      refine g_dup X dX2_gather_54 rfl ?_
      refine g_getI X dX2_gather_55 fX2_90 ?_
      refine g_iconst X dX2_gather_58 (by decide) ?_
      refine g_iadd X dX2_gather_59 ?_
      refine g_putI X dX2_gather_60 pX2_90 (fun m60 em60 => ?_)
      have h := h m60 em60
      refine g_goto X dX2_gather_63 (tgt := 111) (by decide) ?_
      refine g_iinc 2 (lv' := [(2, (0, w32 (v2 + 1))), (0, (2, 47)), (1, (0, v1))]) X dX2_gather_111 rfl (by decide) rfl ?_
      refine g_goto X dX2_gather_114 (tgt := 12) (by decide) ?_
      exact g_sub X [1, 2, 0] rfl (ih _ _ _ h)
def wp_X2_gather (v1 : Int) (m : Mem) (post : Mem → Prop) : Prop :=
  ∀ m2 : Mem, m2 = mset m 47 2 0 → (∀ m7 : Mem, m7 = mset m2 47 3 0 → (∃ n_1 : Nat, wp_X2_gather_12  post n_1 v1 0 m7))
set_option maxRecDepth 100000 in
theorem pf_X2_gather {l : Launch} {x : WX} {G : GT} {post : Mem → Prop} (X : Ax l x cX2_gather RX2 3 (rmd 0) 67 G) (hr : RV cX2_gather post G) (v1 : Int) (m : Mem) (h : wp_X2_gather v1 m post) : G 0 [(0, (2, 47)), (1, (0, v1))] [] m := by
  unfold wp_X2_gather at h
  refine g_aload_n 0 (i := 0) X dX2_gather_0 rfl rfl ?_
  refine g_iconst X dX2_gather_1 (by decide) ?_
  refine g_putI X dX2_gather_2 pX2_90 (fun m2 em2 => ?_)
  have h := h m2 em2
  refine g_aload_n 0 (i := 0) X dX2_gather_5 rfl rfl ?_
  refine g_iconst X dX2_gather_6 (by decide) ?_
  refine g_putI X dX2_gather_7 pX2_93 (fun m7 em7 => ?_)
  have h := h m7 em7
  refine g_iconst X dX2_gather_10 (by decide) ?_
  refine g_istore_n (i := 2) (lv' := [(2, (0, 0)), (0, (2, 47)), (1, (0, v1))]) X dX2_gather_11 rfl (by decide) rfl ?_
  obtain ⟨n_1, h⟩ := h
  refine g_sub X [1, 2, 0] rfl (pf_X2_gather_12 X hr  n_1 _ _ _ h)
theorem im_X2_gather (l : Launch) (x : WX) (v1 : Int) (m : Mem) (post : Mem → Prop) (h : wp_X2_gather v1 m post) : MetV l x 67 0 yX2_gather cX2_gather 3 [(2, 47), (0, v1)] m post := met_V (by decide) (Nat.le_of_ble_eq_true rfl) (fun _ X hr => pf_X2_gather X hr v1 m h)
def wp_X3_shortenRow_3  (post : Mem → Prop) : Nat → Int → Int → Int → Int → Int → Int → Mem → Prop
  | 0, _, _, _, _, _, _, _ => False
  | n + 1, v0, v1, v2, v3, v4, v5, m =>
  ((v1 ≤ v5 → (post m)) ∧
  (¬ v1 ≤ v5 → ((0 ≤ w32 (w32 (v3 * 8) + v5) ∧ w32 (w32 (v3 * 8) + v5) < alen 67 v0) ∧ (∀ v6_21 : Int, v6_21 = w32 (v4 + m v0 (w32 (w32 (v3 * 8) + v5))) → (((v5 = v3 → (wp_X3_shortenRow_3  post n v0 v1 v2 v3 v4 (w32 (v5 + 1)) m)) ∧
  (¬ v5 = v3 → (((v5 = v2 → (wp_X3_shortenRow_3  post n v0 v1 v2 v3 v4 (w32 (v5 + 1)) m)) ∧
  (¬ v5 = v2 → ((0 ≤ w32 (w32 (v2 * 8) + v5) ∧ w32 (w32 (v2 * 8) + v5) < alen 67 v0) ∧ (((m v0 (w32 (w32 (v2 * 8) + v5)) ≤ v6_21 → (wp_X3_shortenRow_3  post n v0 v1 v2 v3 v4 (w32 (v5 + 1)) m)) ∧
  (¬ m v0 (w32 (w32 (v2 * 8) + v5)) ≤ v6_21 → ((0 ≤ w32 (w32 (v2 * 8) + v5) ∧ w32 (w32 (v2 * 8) + v5) < alen 67 v0) ∧ (∀ m59 : Mem, m59 = mset m v0 (w32 (w32 (v2 * 8) + v5)) v6_21 → (wp_X3_shortenRow_3  post n v0 v1 v2 v3 v4 (w32 (v5 + 1)) m59)))))))))))))))))
set_option maxRecDepth 100000 in
theorem pf_X3_shortenRow_3 {l : Launch} {x : WX} {G : GT} {post : Mem → Prop}  (X : Ax l x cX3_shortenRow RX3 7 (rmd 0) 67 G) (hr : RV cX3_shortenRow post G) : ∀ (n : Nat) (v0 : Int) (v1 : Int) (v2 : Int) (v3 : Int) (v4 : Int) (v5 : Int) (m : Mem) (_ : wp_X3_shortenRow_3  post n v0 v1 v2 v3 v4 v5 m), G 3 [(0, (2, v0)), (1, (0, v1)), (2, (0, v2)), (3, (0, v3)), (4, (0, v4)), (5, (0, v5))] [] m := by
  intro n
  induction n with
  | zero => intro v0 v1 v2 v3 v4 v5 m h; exact absurd h id
  | succ n ih =>
  intro v0 v1 v2 v3 v4 v5 m h
  unfold wp_X3_shortenRow_3 at h
  refine g_iload 5 (i := 5) X dX3_shortenRow_3 rfl ?_
  refine g_iload_n 1 (i := 1) X dX3_shortenRow_5 rfl rfl ?_
  refine g_icmp_ge X dX3_shortenRow_6 (tgt := 66) (by decide) (fun hc => ?_) (fun hc => ?_)
  · have h := h.1 hc
    exact hr _ _ _ _ dX3_shortenRow_66 h
  · have h := h.2 hc
    refine g_iload 4 (i := 4) X dX3_shortenRow_9 rfl ?_
    refine g_aload_n 0 (i := 0) X dX3_shortenRow_11 rfl rfl ?_
    refine g_iload_n 3 (i := 3) X dX3_shortenRow_12 rfl rfl ?_
    refine g_bipush X dX3_shortenRow_13 (by decide) ?_
    refine g_imul X dX3_shortenRow_15 ?_
    refine g_iload 5 (i := 5) X dX3_shortenRow_16 rfl ?_
    refine g_iadd X dX3_shortenRow_18 ?_
    obtain ⟨hi, h⟩ := h
    refine g_iald X dX3_shortenRow_19 rfl hi ?_
    refine g_iadd X dX3_shortenRow_20 ?_
    refine g_nmI (fun v6_21 ev6_21 => ?_)
    have h := h v6_21 ev6_21
    refine g_istore (i := 6) (lv' := [(6, (0, v6_21)), (0, (2, v0)), (1, (0, v1)), (2, (0, v2)), (3, (0, v3)), (4, (0, v4)), (5, (0, v5))]) X dX3_shortenRow_21 (by decide) rfl ?_
    refine g_iload 6 (i := 5) X dX3_shortenRow_23 rfl ?_
    refine g_iload_n 4 (i := 3) X dX3_shortenRow_25 rfl rfl ?_
    refine g_icmp_eq X dX3_shortenRow_26 (tgt := 60) (by decide) (fun hc => ?_) (fun hc => ?_)
    · have h := h.1 hc
      refine g_iinc 6 (lv' := [(5, (0, w32 (v5 + 1))), (6, (0, v6_21)), (0, (2, v0)), (1, (0, v1)), (2, (0, v2)), (3, (0, v3)), (4, (0, v4))]) X dX3_shortenRow_60 rfl (by decide) rfl ?_
      refine g_goto X dX3_shortenRow_63 (tgt := 3) (by decide) ?_
      exact g_sub X [2, 3, 4, 5, 6, 0] rfl (ih _ _ _ _ _ _ _ h)
    · have h := h.2 hc
      refine g_iload 6 (i := 5) X dX3_shortenRow_29 rfl ?_
      refine g_iload_n 3 (i := 2) X dX3_shortenRow_31 rfl rfl ?_
      refine g_icmp_eq X dX3_shortenRow_32 (tgt := 60) (by decide) (fun hc => ?_) (fun hc => ?_)
      · have h := h.1 hc
        refine g_iinc 6 (lv' := [(5, (0, w32 (v5 + 1))), (6, (0, v6_21)), (0, (2, v0)), (1, (0, v1)), (2, (0, v2)), (3, (0, v3)), (4, (0, v4))]) X dX3_shortenRow_60 rfl (by decide) rfl ?_
        refine g_goto X dX3_shortenRow_63 (tgt := 3) (by decide) ?_
        exact g_sub X [2, 3, 4, 5, 6, 0] rfl (ih _ _ _ _ _ _ _ h)
      · have h := h.2 hc
        refine g_iload 0 (i := 6) X dX3_shortenRow_35 rfl ?_
        refine g_aload_n 1 (i := 0) X dX3_shortenRow_37 rfl rfl ?_
        refine g_iload_n 3 (i := 2) X dX3_shortenRow_38 rfl rfl ?_
        refine g_bipush X dX3_shortenRow_39 (by decide) ?_
        refine g_imul X dX3_shortenRow_41 ?_
        refine g_iload 6 (i := 5) X dX3_shortenRow_42 rfl ?_
        refine g_iadd X dX3_shortenRow_44 ?_
        obtain ⟨hi, h⟩ := h
        refine g_iald X dX3_shortenRow_45 rfl hi ?_
        refine g_icmp_ge X dX3_shortenRow_46 (tgt := 60) (by decide) (fun hc => ?_) (fun hc => ?_)
        · have h := h.1 hc
          refine g_iinc 6 (lv' := [(5, (0, w32 (v5 + 1))), (6, (0, v6_21)), (0, (2, v0)), (1, (0, v1)), (2, (0, v2)), (3, (0, v3)), (4, (0, v4))]) X dX3_shortenRow_60 rfl (by decide) rfl ?_
          refine g_goto X dX3_shortenRow_63 (tgt := 3) (by decide) ?_
          exact g_sub X [2, 3, 4, 5, 6, 0] rfl (ih _ _ _ _ _ _ _ h)
        · have h := h.2 hc
          refine g_aload_n 1 (i := 0) X dX3_shortenRow_49 rfl rfl ?_
          refine g_iload_n 3 (i := 2) X dX3_shortenRow_50 rfl rfl ?_
          refine g_bipush X dX3_shortenRow_51 (by decide) ?_
          refine g_imul X dX3_shortenRow_53 ?_
          refine g_iload 6 (i := 5) X dX3_shortenRow_54 rfl ?_
          refine g_iadd X dX3_shortenRow_56 ?_
          refine g_iload 0 (i := 6) X dX3_shortenRow_57 rfl ?_
          obtain ⟨hi, h⟩ := h
          refine g_iast X dX3_shortenRow_59 rfl hi (fun m59 em59 => ?_)
          have h := h m59 em59
          refine g_iinc 6 (lv' := [(5, (0, w32 (v5 + 1))), (6, (0, v6_21)), (0, (2, v0)), (1, (0, v1)), (2, (0, v2)), (3, (0, v3)), (4, (0, v4))]) X dX3_shortenRow_60 rfl (by decide) rfl ?_
          refine g_goto X dX3_shortenRow_63 (tgt := 3) (by decide) ?_
          exact g_sub X [2, 3, 4, 5, 6, 0] rfl (ih _ _ _ _ _ _ _ h)
def wp_X3_shortenRow (v0 : Int) (v1 : Int) (v2 : Int) (v3 : Int) (v4 : Int) (m : Mem) (post : Mem → Prop) : Prop :=
  ∃ n_2 : Nat, wp_X3_shortenRow_3  post n_2 v0 v1 v2 v3 v4 0 m
set_option maxRecDepth 100000 in
theorem pf_X3_shortenRow {l : Launch} {x : WX} {G : GT} {post : Mem → Prop} (X : Ax l x cX3_shortenRow RX3 7 (rmd 0) 67 G) (hr : RV cX3_shortenRow post G) (v0 : Int) (v1 : Int) (v2 : Int) (v3 : Int) (v4 : Int) (m : Mem) (h : wp_X3_shortenRow v0 v1 v2 v3 v4 m post) : G 0 [(0, (2, v0)), (1, (0, v1)), (2, (0, v2)), (3, (0, v3)), (4, (0, v4))] [] m := by
  unfold wp_X3_shortenRow at h
  refine g_iconst X dX3_shortenRow_0 (by decide) ?_
  refine g_istore (i := 5) (lv' := [(5, (0, 0)), (0, (2, v0)), (1, (0, v1)), (2, (0, v2)), (3, (0, v3)), (4, (0, v4))]) X dX3_shortenRow_1 (by decide) rfl ?_
  obtain ⟨n_2, h⟩ := h
  refine g_sub X [1, 2, 3, 4, 5, 0] rfl (pf_X3_shortenRow_3 X hr  n_2 _ _ _ _ _ _ _ h)
theorem im_X3_shortenRow (l : Launch) (x : WX) (v0 : Int) (v1 : Int) (v2 : Int) (v3 : Int) (v4 : Int) (m : Mem) (post : Mem → Prop) (h : wp_X3_shortenRow v0 v1 v2 v3 v4 m post) : MetV l x 67 0 yX3_shortenRow cX3_shortenRow 7 [(2, v0), (0, v1), (0, v2), (0, v3), (0, v4)] m post := met_V (by decide) (Nat.le_of_ble_eq_true rfl) (fun _ X hr => pf_X3_shortenRow X hr v0 v1 v2 v3 v4 m h)
def wp_X3_shorten_10 (K2 : Int → Int → Int → Int → Mem → Prop) (post : Mem → Prop) : Nat → Int → Int → Int → Int → Int → Mem → Prop
  | 0, _, _, _, _, _, _ => False
  | n + 1, v0, v1, v2, v3, v4, m =>
  ((v1 ≤ v4 → (K2 v0 v1 v2 (w32 (v3 + 1)) m)) ∧
  (¬ v1 ≤ v4 → ((0 ≤ w32 (w32 (v4 * 8) + v3) ∧ w32 (w32 (v4 * 8) + v3) < alen 67 v0) ∧ (∀ v5_27 : Int, v5_27 = w32 (m v0 (w32 (w32 (v4 * 8) + v3)) + v2) → (((v4 = v3 → (wp_X3_shorten_10 K2 post n v0 v1 v2 v3 (w32 (v4 + 1)) m)) ∧
  (¬ v4 = v3 → (((1000000 ≤ v5_27 → (wp_X3_shorten_10 K2 post n v0 v1 v2 v3 (w32 (v4 + 1)) m)) ∧
  (¬ 1000000 ≤ v5_27 → (wp_X3_shortenRow v0 v1 v4 v3 v5_27 m (fun m49 => wp_X3_shorten_10 K2 post n v0 v1 v2 v3 (w32 (v4 + 1)) m49))))))))))))
set_option maxRecDepth 100000 in
theorem pf_X3_shorten_10 {l : Launch} {x : WX} {G : GT} {post : Mem → Prop} {K2 : Int → Int → Int → Int → Mem → Prop} (X : Ax l x cX3_shorten RX3 6 (rmd 1) 67 G) (hr : RV cX3_shorten post G) (hK2 : ∀ (v0 : Int) (v1 : Int) (v2 : Int) (v3 : Int) (m : Mem), K2 v0 v1 v2 v3 m → G 2 [(0, (2, v0)), (1, (0, v1)), (2, (0, v2)), (3, (0, v3))] [] m) : ∀ (n : Nat) (v0 : Int) (v1 : Int) (v2 : Int) (v3 : Int) (v4 : Int) (m : Mem) (_ : wp_X3_shorten_10 K2 post n v0 v1 v2 v3 v4 m), G 10 [(0, (2, v0)), (1, (0, v1)), (2, (0, v2)), (3, (0, v3)), (4, (0, v4))] [] m := by
  intro n
  induction n with
  | zero => intro v0 v1 v2 v3 v4 m h; exact absurd h id
  | succ n ih =>
  intro v0 v1 v2 v3 v4 m h
  unfold wp_X3_shorten_10 at h
  refine g_iload 4 (i := 4) X dX3_shorten_10 rfl ?_
  refine g_iload_n 1 (i := 1) X dX3_shorten_12 rfl rfl ?_
  refine g_icmp_ge X dX3_shorten_13 (tgt := 58) (by decide) (fun hc => ?_) (fun hc => ?_)
  · have h := h.1 hc
    refine g_iinc 3 (lv' := [(3, (0, w32 (v3 + 1))), (0, (2, v0)), (1, (0, v1)), (2, (0, v2)), (4, (0, v4))]) X dX3_shorten_58 rfl (by decide) rfl ?_
    refine g_goto X dX3_shorten_61 (tgt := 2) (by decide) ?_
    exact g_sub X [1, 2, 3, 0] rfl (hK2 _ _ _ _ _ h)
  · have h := h.2 hc
    refine g_aload_n 0 (i := 0) X dX3_shorten_16 rfl rfl ?_
    refine g_iload 4 (i := 4) X dX3_shorten_17 rfl ?_
    refine g_bipush X dX3_shorten_19 (by decide) ?_
    refine g_imul X dX3_shorten_21 ?_
    refine g_iload_n 3 (i := 3) X dX3_shorten_22 rfl rfl ?_
    refine g_iadd X dX3_shorten_23 ?_
    obtain ⟨hi, h⟩ := h
    refine g_iald X dX3_shorten_24 rfl hi ?_
    refine g_iload_n 2 (i := 2) X dX3_shorten_25 rfl rfl ?_
    refine g_iadd X dX3_shorten_26 ?_
    refine g_nmI (fun v5_27 ev5_27 => ?_)
    have h := h v5_27 ev5_27
    refine g_istore (i := 5) (lv' := [(5, (0, v5_27)), (0, (2, v0)), (1, (0, v1)), (2, (0, v2)), (3, (0, v3)), (4, (0, v4))]) X dX3_shorten_27 (by decide) rfl ?_
    refine g_iload 5 (i := 4) X dX3_shorten_29 rfl ?_
    refine g_iload_n 4 (i := 3) X dX3_shorten_31 rfl rfl ?_
    refine g_icmp_eq X dX3_shorten_32 (tgt := 52) (by decide) (fun hc => ?_) (fun hc => ?_)
    · have h := h.1 hc
      refine g_iinc 5 (lv' := [(4, (0, w32 (v4 + 1))), (5, (0, v5_27)), (0, (2, v0)), (1, (0, v1)), (2, (0, v2)), (3, (0, v3))]) X dX3_shorten_52 rfl (by decide) rfl ?_
      refine g_goto X dX3_shorten_55 (tgt := 10) (by decide) ?_
      exact g_sub X [2, 3, 4, 5, 0] rfl (ih _ _ _ _ _ _ h)
    · have h := h.2 hc
      refine g_iload 0 (i := 5) X dX3_shorten_35 rfl ?_
      refine g_ldc X dX3_shorten_37 (by unfold r32; omega) kX3_36 ?_
      refine g_icmp_ge X dX3_shorten_39 (tgt := 52) (by decide) (fun hc => ?_) (fun hc => ?_)
      · have h := h.1 hc
        refine g_iinc 5 (lv' := [(4, (0, w32 (v4 + 1))), (5, (0, v5_27)), (0, (2, v0)), (1, (0, v1)), (2, (0, v2)), (3, (0, v3))]) X dX3_shorten_52 rfl (by decide) rfl ?_
        refine g_goto X dX3_shorten_55 (tgt := 10) (by decide) ?_
        exact g_sub X [2, 3, 4, 5, 0] rfl (ih _ _ _ _ _ _ h)
      · have h := h.2 hc
        refine g_aload_n 1 (i := 0) X dX3_shorten_42 rfl rfl ?_
        refine g_iload_n 2 (i := 1) X dX3_shorten_43 rfl rfl ?_
        refine g_iload 5 (i := 4) X dX3_shorten_44 rfl ?_
        refine g_iload_n 4 (i := 3) X dX3_shorten_46 rfl rfl ?_
        refine g_iload 0 (i := 5) X dX3_shorten_47 rfl ?_
        refine g_cSV (st := []) X dX3_shorten_49 YX3_shortenRow lX3_37 (by decide) (im_X3_shortenRow l x _ _ _ _ _ _ _ h) rfl ⟨by decide, by decide⟩ rfl (Nat.le_of_ble_eq_true rfl) (fun m49 h => ?_)
        refine g_iinc 5 (lv' := [(4, (0, w32 (v4 + 1))), (5, (0, v5_27)), (0, (2, v0)), (1, (0, v1)), (2, (0, v2)), (3, (0, v3))]) X dX3_shorten_52 rfl (by decide) rfl ?_
        refine g_goto X dX3_shorten_55 (tgt := 10) (by decide) ?_
        exact g_sub X [2, 3, 4, 5, 0] rfl (ih _ _ _ _ _ _ h)
def wp_X3_shorten_2  (post : Mem → Prop) : Nat → Int → Int → Int → Int → Mem → Prop
  | 0, _, _, _, _, _ => False
  | n + 1, v0, v1, v2, v3, m =>
  ((v1 ≤ v3 → (post m)) ∧
  (¬ v1 ≤ v3 → (∃ n_3 : Nat, wp_X3_shorten_10 (fun v0_2 v1_2 v2_2 v3_2 m_2 => wp_X3_shorten_2  post n v0_2 v1_2 v2_2 v3_2 m_2) post n_3 v0 v1 v2 v3 0 m)))
set_option maxRecDepth 100000 in
theorem pf_X3_shorten_2 {l : Launch} {x : WX} {G : GT} {post : Mem → Prop}  (X : Ax l x cX3_shorten RX3 6 (rmd 1) 67 G) (hr : RV cX3_shorten post G) : ∀ (n : Nat) (v0 : Int) (v1 : Int) (v2 : Int) (v3 : Int) (m : Mem) (_ : wp_X3_shorten_2  post n v0 v1 v2 v3 m), G 2 [(0, (2, v0)), (1, (0, v1)), (2, (0, v2)), (3, (0, v3))] [] m := by
  intro n
  induction n with
  | zero => intro v0 v1 v2 v3 m h; exact absurd h id
  | succ n ih =>
  intro v0 v1 v2 v3 m h
  unfold wp_X3_shorten_2 at h
  refine g_iload_n 3 (i := 3) X dX3_shorten_2 rfl rfl ?_
  refine g_iload_n 1 (i := 1) X dX3_shorten_3 rfl rfl ?_
  refine g_icmp_ge X dX3_shorten_4 (tgt := 64) (by decide) (fun hc => ?_) (fun hc => ?_)
  · have h := h.1 hc
    exact hr _ _ _ _ dX3_shorten_64 h
  · have h := h.2 hc
    refine g_iconst X dX3_shorten_7 (by decide) ?_
    refine g_istore (i := 4) (lv' := [(4, (0, 0)), (0, (2, v0)), (1, (0, v1)), (2, (0, v2)), (3, (0, v3))]) X dX3_shorten_8 (by decide) rfl ?_
    obtain ⟨n_3, h⟩ := h
    refine g_sub X [1, 2, 3, 4, 0] rfl (pf_X3_shorten_10 X hr (fun v0_2 v1_2 v2_2 v3_2 m_2 h => ?_) n_3 _ _ _ _ _ _ h)
    · exact g_sub X [0, 1, 2, 3] rfl (ih _ _ _ _ _ h)
def wp_X3_shorten (v0 : Int) (v1 : Int) (v2 : Int) (m : Mem) (post : Mem → Prop) : Prop :=
  ∃ n_4 : Nat, wp_X3_shorten_2  post n_4 v0 v1 v2 0 m
set_option maxRecDepth 100000 in
theorem pf_X3_shorten {l : Launch} {x : WX} {G : GT} {post : Mem → Prop} (X : Ax l x cX3_shorten RX3 6 (rmd 1) 67 G) (hr : RV cX3_shorten post G) (v0 : Int) (v1 : Int) (v2 : Int) (m : Mem) (h : wp_X3_shorten v0 v1 v2 m post) : G 0 [(0, (2, v0)), (1, (0, v1)), (2, (0, v2))] [] m := by
  unfold wp_X3_shorten at h
  refine g_iconst X dX3_shorten_0 (by decide) ?_
  refine g_istore_n (i := 3) (lv' := [(3, (0, 0)), (0, (2, v0)), (1, (0, v1)), (2, (0, v2))]) X dX3_shorten_1 rfl (by decide) rfl ?_
  obtain ⟨n_4, h⟩ := h
  refine g_sub X [1, 2, 3, 0] rfl (pf_X3_shorten_2 X hr  n_4 _ _ _ _ _ h)
theorem im_X3_shorten (l : Launch) (x : WX) (v0 : Int) (v1 : Int) (v2 : Int) (m : Mem) (post : Mem → Prop) (h : wp_X3_shorten v0 v1 v2 m post) : MetV l x 67 1 yX3_shorten cX3_shorten 6 [(2, v0), (0, v1), (0, v2)] m post := met_V (by decide) (Nat.le_of_ble_eq_true rfl) (fun _ X hr => pf_X3_shorten X hr v0 v1 v2 m h)
def wp_X3_measure_12 (K2 : Int → Mem → Prop) (post : Mem → Prop) : Nat → Int → Int → Mem → Prop
  | 0, _, _, _ => False
  | n + 1, v1, v2, m =>
  ((m 1 0 ≤ v2 → (K2 (w32 (v1 + 1)) m)) ∧
  (¬ m 1 0 ≤ v2 → (((¬ v1 = v2 → ((0 ≤ w32 (w32 (v1 * 8) + v2) ∧ w32 (w32 (v1 * 8) + v2) < 64) ∧ ((0 ≤ w32 (w32 (v1 * 8) + v2) ∧ w32 (w32 (v1 * 8) + v2) < 64) ∧ (∀ m50 : Mem, m50 = mset m 3 (w32 (w32 (v1 * 8) + v2)) (m 2 (w32 (w32 (v1 * 8) + v2))) → (wp_X3_measure_12 K2 post n v1 (w32 (v2 + 1)) m50))))) ∧
  (v1 = v2 → ((0 ≤ w32 (w32 (v1 * 8) + v2) ∧ w32 (w32 (v1 * 8) + v2) < 64) ∧ (∀ m50 : Mem, m50 = mset m 3 (w32 (w32 (v1 * 8) + v2)) 0 → (wp_X3_measure_12 K2 post n v1 (w32 (v2 + 1)) m50))))))))
set_option maxRecDepth 100000 in
theorem pf_X3_measure_12 {l : Launch} {x : WX} {G : GT} {post : Mem → Prop} {K2 : Int → Mem → Prop} (X : Ax l x cX3_measure RX3 3 (rmd 2) 67 G) (hr : RV cX3_measure post G) (hK2 : ∀ (v1 : Int) (m : Mem), K2 v1 m → G 2 [(0, (2, 1)), (1, (0, v1))] [] m) : ∀ (n : Nat) (v1 : Int) (v2 : Int) (m : Mem) (_ : wp_X3_measure_12 K2 post n v1 v2 m), G 12 [(0, (2, 1)), (1, (0, v1)), (2, (0, v2))] [] m := by
  intro n
  induction n with
  | zero => intro v1 v2 m h; exact absurd h id
  | succ n ih =>
  intro v1 v2 m h
  unfold wp_X3_measure_12 at h
  refine g_iload_n 2 (i := 2) X dX3_measure_12 rfl rfl ?_
  refine g_aload_n 0 (i := 0) X dX3_measure_13 rfl rfl ?_
  refine g_getI X dX3_measure_14 fX3_18 ?_
  refine g_icmp_ge X dX3_measure_17 (tgt := 57) (by decide) (fun hc => ?_) (fun hc => ?_)
  · have h := h.1 hc
    refine g_iinc 1 (lv' := [(1, (0, w32 (v1 + 1))), (0, (2, 1)), (2, (0, v2))]) X dX3_measure_57 rfl (by decide) rfl ?_
    refine g_goto X dX3_measure_60 (tgt := 2) (by decide) ?_
    exact g_sub X [1, 0] rfl (hK2 _ _ h)
  · have h := h.2 hc
    refine g_aload_n 0 (i := 0) X dX3_measure_20 rfl rfl ?_
    refine g_getR X dX3_measure_21 fX3_15 ?_
    refine g_iload_n 1 (i := 1) X dX3_measure_24 rfl rfl ?_
    refine g_bipush X dX3_measure_25 (by decide) ?_
    refine g_imul X dX3_measure_27 ?_
    refine g_iload_n 2 (i := 2) X dX3_measure_28 rfl rfl ?_
    refine g_iadd X dX3_measure_29 ?_
    refine g_iload_n 1 (i := 1) X dX3_measure_30 rfl rfl ?_
    refine g_iload_n 2 (i := 2) X dX3_measure_31 rfl rfl ?_
    refine g_icmp_ne X dX3_measure_32 (tgt := 39) (by decide) (fun hc => ?_) (fun hc => ?_)
    · have h := h.1 hc
      refine g_aload_n 0 (i := 0) X dX3_measure_39 rfl rfl ?_
      refine g_getR X dX3_measure_40 fX3_9 ?_
      refine g_iload_n 1 (i := 1) X dX3_measure_43 rfl rfl ?_
      refine g_bipush X dX3_measure_44 (by decide) ?_
      refine g_imul X dX3_measure_46 ?_
      refine g_iload_n 2 (i := 2) X dX3_measure_47 rfl rfl ?_
      refine g_iadd X dX3_measure_48 ?_
      obtain ⟨hi, h⟩ := h
      refine g_iald X dX3_measure_49 rfl hi ?_
      obtain ⟨hi, h⟩ := h
      refine g_iast X dX3_measure_50 rfl hi (fun m50 em50 => ?_)
      have h := h m50 em50
      refine g_iinc 2 (lv' := [(2, (0, w32 (v2 + 1))), (0, (2, 1)), (1, (0, v1))]) X dX3_measure_51 rfl (by decide) rfl ?_
      refine g_goto X dX3_measure_54 (tgt := 12) (by decide) ?_
      exact g_sub X [1, 2, 0] rfl (ih _ _ _ h)
    · have h := h.2 hc
      refine g_iconst X dX3_measure_35 (by decide) ?_
      refine g_goto X dX3_measure_36 (tgt := 50) (by decide) ?_
      obtain ⟨hi, h⟩ := h
      refine g_iast X dX3_measure_50 rfl hi (fun m50 em50 => ?_)
      have h := h m50 em50
      refine g_iinc 2 (lv' := [(2, (0, w32 (v2 + 1))), (0, (2, 1)), (1, (0, v1))]) X dX3_measure_51 rfl (by decide) rfl ?_
      refine g_goto X dX3_measure_54 (tgt := 12) (by decide) ?_
      exact g_sub X [1, 2, 0] rfl (ih _ _ _ h)
def wp_X3_measure_2 (K63 : Mem → Prop) (post : Mem → Prop) : Nat → Int → Mem → Prop
  | 0, _, _ => False
  | n + 1, v1, m =>
  ((m 1 0 ≤ v1 → (K63 m)) ∧
  (¬ m 1 0 ≤ v1 → (∃ n_2 : Nat, wp_X3_measure_12 (fun v1_1 m_1 => wp_X3_measure_2 K63 post n v1_1 m_1) post n_2 v1 0 m)))
set_option maxRecDepth 100000 in
theorem pf_X3_measure_2 {l : Launch} {x : WX} {G : GT} {post : Mem → Prop} {K63 : Mem → Prop} (X : Ax l x cX3_measure RX3 3 (rmd 2) 67 G) (hr : RV cX3_measure post G) (hK63 : ∀ (m : Mem), K63  m → G 63 [(0, (2, 1))] [] m) : ∀ (n : Nat) (v1 : Int) (m : Mem) (_ : wp_X3_measure_2 K63 post n v1 m), G 2 [(0, (2, 1)), (1, (0, v1))] [] m := by
  intro n
  induction n with
  | zero => intro v1 m h; exact absurd h id
  | succ n ih =>
  intro v1 m h
  unfold wp_X3_measure_2 at h
  refine g_iload_n 1 (i := 1) X dX3_measure_2 rfl rfl ?_
  refine g_aload_n 0 (i := 0) X dX3_measure_3 rfl rfl ?_
  refine g_getI X dX3_measure_4 fX3_18 ?_
  refine g_icmp_ge X dX3_measure_7 (tgt := 63) (by decide) (fun hc => ?_) (fun hc => ?_)
  · have h := h.1 hc
    exact g_sub X [0] rfl (hK63  _ h)
  · have h := h.2 hc
    refine g_iconst X dX3_measure_10 (by decide) ?_
    refine g_istore_n (i := 2) (lv' := [(2, (0, 0)), (0, (2, 1)), (1, (0, v1))]) X dX3_measure_11 rfl (by decide) rfl ?_
    obtain ⟨n_2, h⟩ := h
    refine g_sub X [1, 2, 0] rfl (pf_X3_measure_12 X hr (fun v1_1 m_1 h => ?_) n_2 _ _ _ h)
    · exact g_sub X [0, 1] rfl (ih _ _ h)
def wp_X3_measure  (m : Mem) (post : Mem → Prop) : Prop :=
  ∃ n_4 : Nat, wp_X3_measure_2 (fun m_3 => wp_X3_shorten 3 (m_3 1 0) 0 m_3 (fun m72 => post m72)) post n_4 0 m
set_option maxRecDepth 100000 in
theorem pf_X3_measure {l : Launch} {x : WX} {G : GT} {post : Mem → Prop} (X : Ax l x cX3_measure RX3 3 (rmd 2) 67 G) (hr : RV cX3_measure post G)  (m : Mem) (h : wp_X3_measure  m post) : G 0 [(0, (2, 1))] [] m := by
  unfold wp_X3_measure at h
  refine g_iconst X dX3_measure_0 (by decide) ?_
  refine g_istore_n (i := 1) (lv' := [(1, (0, 0)), (0, (2, 1))]) X dX3_measure_1 rfl (by decide) rfl ?_
  obtain ⟨n_4, h⟩ := h
  refine g_sub X [1, 0] rfl (pf_X3_measure_2 X hr (fun m_3 h => ?_) n_4 _ _ h)
  · refine g_aload_n 0 (i := 0) X dX3_measure_63 rfl rfl ?_
    refine g_getR X dX3_measure_64 fX3_15 ?_
    refine g_aload_n 0 (i := 0) X dX3_measure_67 rfl rfl ?_
    refine g_getI X dX3_measure_68 fX3_18 ?_
    refine g_iconst X dX3_measure_71 (by decide) ?_
    refine g_cSV (st := []) X dX3_measure_72 YX3_shorten lX3_32 (by decide) (im_X3_shorten l x _ _ _ _ _ h) rfl ⟨by decide, by decide⟩ rfl (Nat.le_of_ble_eq_true rfl) (fun m72 h => ?_)
    exact hr _ _ _ _ dX3_measure_75 h
theorem im_X3_measure (l : Launch) (x : WX)  (m : Mem) (post : Mem → Prop) (h : wp_X3_measure  m post) : MetV l x 67 2 yX3_measure cX3_measure 3 [(2, 1)] m post := met_V (by decide) (Nat.le_of_ble_eq_true rfl) (fun _ X hr => pf_X3_measure X hr  m h)
